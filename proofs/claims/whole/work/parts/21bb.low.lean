/-! ===== the lowest bit ===== -/
def lowF : Nat → Nat → Nat → Nat
  | 0, j, _ => j
  | m + 1, j, r => if r.testBit j = true then j else lowF m (j + 1) r
def low (r : Nat) : Nat := lowF 12 0 r
set_option maxRecDepth 20000 in
theorem low_ok : ∀ r, r < 4096 → r ≠ 0 → nI r &&& -nI r = nI (2 ^ low r) ∧ r.testBit (low r) = true ∧ low r < 12 ∧ pc (r ^^^ 2 ^ low r) + 1 = pc r := by decide +kernel
