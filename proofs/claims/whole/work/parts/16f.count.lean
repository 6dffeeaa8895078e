/-! ===== how many: bitCount and bits ===== -/
def pcN : Nat → Nat → Nat
  | 0, _ => 0
  | n + 1, x => pcN n x + (x.testBit n).toNat
/-- how many of 12 bits -/
def pc (x : Nat) : Nat := pcN 12 x
theorem pcN_le (x : Nat) : ∀ n, pcN n x ≤ n
  | 0 => by simp [pcN]
  | n + 1 => by
    have := pcN_le x n
    have h2 : (x.testBit n).toNat ≤ 1 := by cases x.testBit n <;> simp
    unfold pcN
    omega
theorem pc_le (x : Nat) : pc x ≤ 12 := pcN_le x 12
theorem sX9_bits {s : aMem} {x : Nat} (hx : x < 4096) : fX9_bits [.int (nI x)] s = some (.inl (some (.int (nI (pc x)))), s) := by
  have key : ∀ m k, k + m = 12 → a_run none shp pX9_bits 4 [some (.int (nI x)), some (.int (nI (pcN k x))), some (.int (nI k))] [] s = some (.inl (some (.int (nI (pc x)))), s) := by
    intro m
    induction m with
    | zero =>
      intro k hk
      rw [tX9_bits_4]
      try simp only [k_lit, k_nN, k_ofN]
      simp (disch := omega) only [i_leT, i_leF, i_ltT, i_ltF, i_eqT, i_eqF, i_okT, i_n1, i_n2, i_n3, i_n4, i_n5, i_n6, i_n7, i_n8, k_cl, if_true, if_false]
      rw [show k = 12 by omega]
      rfl
    | succ m ih =>
      intro k hk
      rw [tX9_bits_4]
      try simp only [k_lit, k_nN, k_ofN]
      simp (disch := omega) only [i_leT, i_leF, i_ltT, i_ltF, i_eqT, i_eqF, i_okT, i_n1, i_n2, i_n3, i_n4, i_n5, i_n6, i_n7, i_n8, k_cl, if_true, if_false]
      rw [k_bit (by omega) (by omega), nI_add, nI_add]
      exact ih (k + 1) (by omega)
  rw [tX9_bits]
  exact key 12 0 (by omega)
def bcF (v0 : Int32) : Int32 :=
  let a := v0 - (((v0.toUInt32 >>> (Int32.toUInt32 1 &&& Int32.toUInt32 31)).toInt32) &&& 1431655765)
  let b := (a &&& 858993459) + (((a.toUInt32 >>> (Int32.toUInt32 2 &&& Int32.toUInt32 31)).toInt32) &&& 858993459)
  let c := (b + ((b.toUInt32 >>> (Int32.toUInt32 4 &&& Int32.toUInt32 31)).toInt32)) &&& 252645135
  let d := c + ((c.toUInt32 >>> (Int32.toUInt32 8 &&& Int32.toUInt32 31)).toInt32)
  let e := d + ((d.toUInt32 >>> (Int32.toUInt32 16 &&& Int32.toUInt32 31)).toInt32)
  e &&& 63
set_option maxRecDepth 20000 in
theorem bcF_ok : ∀ x, x < 4096 → bcF (nI x) = nI (pc x) := by decide +kernel
theorem sJ6_bitCount {s : aMem} {x : Nat} (hx : x < 4096) : fJ6_bitCount_0f7a4 [.int (nI x)] s = some (.inl (some (.int (nI (pc x)))), s) := by
  rw [tJ6_bitCount_0f7a4, ← bcF_ok x hx]
  rfl
