/-! ===== sets of books: naturals, bit by bit ===== -/
def msk : Nat → (Nat → Bool) → Nat
  | 0, _ => 0
  | n + 1, p => msk n p + (if p n = true then 2 ^ n else 0)
theorem msk_lt (p : Nat → Bool) : ∀ n, msk n p < 2 ^ n
  | 0 => by simp [msk]
  | n + 1 => by
    have h := msk_lt p n
    have e : 2 ^ (n + 1) = 2 ^ n + 2 ^ n := by rw [Nat.pow_succ]; omega
    unfold msk
    split <;> omega
theorem msk_bit (p : Nat → Bool) : ∀ n b, (msk n p).testBit b = (decide (b < n) && p b)
  | 0, b => by simp [msk]
  | n + 1, b => by
    have h := msk_lt p n
    have ih := msk_bit p n
    unfold msk
    split
    · rename_i hp
      rw [Nat.add_comm]
      by_cases hb : b = n
      · subst hb
        rw [Nat.testBit_two_pow_add_eq, ih]
        simp [hp]
      · by_cases hlt : b < n
        · rw [Nat.testBit_two_pow_add_gt hlt, ih]
          simp [hlt, Nat.lt_succ_of_lt hlt]
        · have hlt2 : n < b := by omega
          have e : 2 ^ n + msk n p < 2 ^ b := by
            have h2 : 2 ^ (n + 1) ≤ 2 ^ b := Nat.pow_le_pow_right (by decide) (by omega)
            have e2 : 2 ^ (n + 1) = 2 ^ n + 2 ^ n := by rw [Nat.pow_succ]; omega
            omega
          rw [Nat.testBit_lt_two_pow e]
          have : ¬ b < n + 1 := by omega
          simp [this]
    · rename_i hp
      rw [Nat.add_zero, ih]
      by_cases hb : b = n
      · subst hb
        simp [Bool.eq_false_iff.mpr hp]
      · by_cases hlt : b < n
        · simp [hlt, Nat.lt_succ_of_lt hlt]
        · have : ¬ b < n + 1 := by omega
          simp [hlt, this]
theorem msk_eq {n x : Nat} {p : Nat → Bool} (h : ∀ b, x.testBit b = (decide (b < n) && p b)) : x = msk n p := by
  apply Nat.eq_of_testBit_eq
  intro b
  rw [h, msk_bit]
theorem msk_congr {n : Nat} {p q : Nat → Bool} (h : ∀ b, b < n → p b = q b) : msk n p = msk n q := by
  apply msk_eq
  intro b
  rw [msk_bit]
  by_cases hb : b < n
  · rw [h b hb]
  · simp [hb]
theorem set_lt {n x : Nat} (h : ∀ b, n ≤ b → x.testBit b = false) : x < 2 ^ n := by
  have e : x = msk n (x.testBit ·) := by
    apply msk_eq
    intro b
    by_cases hb : b < n
    · simp [hb]
    · simp [hb, h b (by omega)]
  rw [e]
  exact msk_lt _ n
theorem set_hi {n x b : Nat} (h : x < 2 ^ n) (hb : n ≤ b) : x.testBit b = false := Nat.testBit_lt_two_pow (Nat.lt_of_lt_of_le h (Nat.pow_le_pow_right (by decide) hb))
theorem k_bit {x b : Nat} (hx : x < 2147483648) (hb : b < 32) : (nI x >>> (nI b &&& nI 31)) &&& nI 1 = nI (x.testBit b).toNat := by
  rw [k_shr hx hb, k_and, Nat.and_one_is_mod, Nat.testBit_eq_decide_div_mod_eq]
  congr 1
  have := Nat.mod_two_eq_zero_or_one (x / 2 ^ b)
  rcases this with h | h <;> simp [h]
theorem k_one {b : Nat} (hb : b < 31) : nI 1 <<< (nI b &&& nI 31) = nI (2 ^ b) := by
  have h : 2 ^ b ≤ 2 ^ 30 := Nat.pow_le_pow_right (by decide) (by omega)
  rw [k_shl (by omega) (by omega), Nat.one_mul]
theorem pow_bit (b c : Nat) : (2 ^ b).testBit c = decide (b = c) := Nat.testBit_two_pow
theorem k_not {x y : Nat} : nI x &&& (nI y ^^^ nN) = nI (x ^^^ (x &&& y)) := by
  rw [← k_xor, ← k_and]
  apply b_ext
  intro i hi
  have e : bt nN i = true := b_m1 i hi
  rw [b_and, b_xor, b_xor, b_and, e]
  cases bt (nI x) i <;> cases bt (nI y) i <;> rfl
theorem k_holds (x b : Nat) (hx : x < 2147483648) (hb : b < 32) (s : aMem) : fX8_holds [.int (nI x), .int (nI b)] s = some (.inl (some (.int (nI (x.testBit b).toNat))), s) := by
  rw [tX8_holds]
  simp only [k_lit]
  rw [k_bit hx hb]
  cases x.testBit b
  · rw [i_eqT (by rfl)]; rfl
  · rw [i_eqF (by decide) (by decide) (by decide)]; rfl
