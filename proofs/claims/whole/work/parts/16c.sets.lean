/-! ===== what a set of books gives: takeableFor, booksUnder, pagesTogether, placeOf, isServed, trouble ===== -/
def ex : Nat → (Nat → Bool) → Bool
  | 0, _ => false
  | n + 1, p => ex n p || p n
theorem ex_iff (p : Nat → Bool) : ∀ n, ex n p = true ↔ ∃ b, b < n ∧ p b = true
  | 0 => by simp [ex]
  | n + 1 => by
    unfold ex
    rw [Bool.or_eq_true, ex_iff p n]
    constructor
    · rintro (⟨b, h1, h2⟩ | h)
      · exact ⟨b, by omega, h2⟩
      · exact ⟨n, by omega, h⟩
    · rintro ⟨b, h1, h2⟩
      by_cases e : b = n
      · subst e; exact .inr h2
      · exact .inl ⟨b, by omega, h2⟩
theorem msk_orm (n : Nat) (p q : Nat → Bool) : msk n p ||| msk n q = msk n (fun c => p c || q c) := by
  apply msk_eq
  intro b
  rw [Nat.testBit_or, msk_bit, msk_bit]
  cases decide (b < n) <;> simp
theorem msk_andm (n : Nat) (p q : Nat → Bool) : msk n p &&& msk n q = msk n (fun c => p c && q c) := by
  apply msk_eq
  intro b
  rw [Nat.testBit_and, msk_bit, msk_bit]
  cases decide (b < n) <;> simp
theorem msk_0 (n : Nat) : msk n (fun _ => false) = 0 := by
  induction n with
  | zero => rfl
  | succ n ih => simp [msk, ih]
/-- the books that have fewer pages than one of these -/
def tkb (nb : Nat) (pg : Nat → Int32) (x : Nat) (c : Nat) : Bool := ex nb fun b => x.testBit b && decide (pg c < pg b)
theorem sX6_takeableFor {s : aMem} {nb x : Nat} (h : s.1 12 0 = nI nb) (hnb : nb ≤ 12) (hf : ∀ b, b < nb → s.1 20 b = nI (msk nb fun c => decide (s.1 19 c < s.1 19 b))) (hx : x < 4096) : fX6_takeableFor [.ref 12, .int (nI x)] s = some (.inl (some (.int (nI (msk nb (tkb nb (s.1 19) x))))), s) := by
  have key : ∀ m k, k + m = nb → a_run none shp pX6_takeableFor 4 [some (.ref 12), some (.int (nI x)), some (.int (nI (msk nb fun c => ex k fun b => x.testBit b && decide (s.1 19 c < s.1 19 b)))), some (.int (nI k))] [] s = some (.inl (some (.int (nI (msk nb (tkb nb (s.1 19) x))))), s) := by
    intro m
    induction m with
    | zero =>
      intro k hk
      rw [tX6_takeableFor_4, h]
      simp (disch := omega) only [i_leT, i_leF, i_ltT, i_ltF, i_eqT, i_eqF, i_okT, i_n1, i_n2, i_n3, i_n4, i_n5, i_n6, i_n7, i_n8, k_cl, if_true, if_false]
      rw [show k = nb by omega]
      rfl
    | succ m ih =>
      intro k hk
      rw [tX6_takeableFor_4, h]
      try simp only [k_lit, k_nN, k_ofN]
      simp (disch := omega) only [i_leT, i_leF, i_ltT, i_ltF, i_eqT, i_eqF, i_okT, i_n1, i_n2, i_n3, i_n4, i_n5, i_n6, i_n7, i_n8, k_cl, if_true, if_false]
      rw [k_holds x k (by omega) (by omega), b_bi]
      have ih2 := ih (k + 1) (by omega)
      by_cases e : x.testBit k = true
      · simp only [ex, e, Bool.true_and] at ih2
        simp only [e, Bool.toNat_true]
        simp (disch := omega) only [i_leT, i_leF, i_ltT, i_ltF, i_eqT, i_eqF, i_okT, i_n1, i_n2, i_n3, i_n4, i_n5, i_n6, i_n7, i_n8, k_cl, if_true, if_false]
        rw [hf k (by omega), k_or, msk_orm, nI_add]
        exact ih2
      · simp only [Bool.eq_false_iff.mpr e, ex, Bool.false_and, Bool.or_false] at ih2
        simp only [Bool.eq_false_iff.mpr e, Bool.toNat_false]
        simp (disch := omega) only [i_leT, i_leF, i_ltT, i_ltF, i_eqT, i_eqF, i_okT, i_n1, i_n2, i_n3, i_n4, i_n5, i_n6, i_n7, i_n8, k_cl, if_true, if_false]
        rw [nI_add]
        exact ih2
  rw [tX6_takeableFor]
  have k0 := key nb 0 (by omega)
  simp only [ex, msk_0] at k0
  exact k0
theorem sX6_booksUnder {s : aMem} {nb : Nat} (h : s.1 12 0 = nI nb) (hnb : nb ≤ 12) (v : Int32) : fX6_booksUnder [.ref 12, .int v] s = some (.inl (some (.int (nI (msk nb fun c => decide (s.1 19 c < v))))), s) := by
  have key : ∀ m k, k + m = nb → a_run none shp pX6_booksUnder 4 [some (.ref 12), some (.int v), some (.int (nI (msk k fun c => decide (s.1 19 c < v)))), some (.int (nI k))] [] s = some (.inl (some (.int (nI (msk nb fun c => decide (s.1 19 c < v))))), s) := by
    intro m
    induction m with
    | zero =>
      intro k hk
      rw [tX6_booksUnder_4, h]
      simp (disch := omega) only [i_leT, i_leF, i_ltT, i_ltF, i_eqT, i_eqF, i_okT, i_n1, i_n2, i_n3, i_n4, i_n5, i_n6, i_n7, i_n8, k_cl, if_true, if_false]
      rw [show k = nb by omega]
    | succ m ih =>
      intro k hk
      rw [tX6_booksUnder_4, h]
      try simp only [k_lit, k_nN, k_ofN]
      simp (disch := omega) only [i_leT, i_leF, i_ltT, i_ltF, i_eqT, i_eqF, i_okT, i_n1, i_n2, i_n3, i_n4, i_n5, i_n6, i_n7, i_n8, k_cl, if_true, if_false]
      rw [k_one (by omega), nI_add, k_or]
      by_cases e : v ≤ s.1 19 k
      · rw [if_pos e, msk_sk (by simp [Int32.not_lt.mpr e]), ih (k + 1) (by omega)]
      · rw [if_neg e, msk_or (by simp [Int32.not_le.mp e]), ih (k + 1) (by omega)]
  rw [tX6_booksUnder]
  exact key nb 0 (by omega)
/-- the sum of these -/
def smf (f : Nat → Int32) (p : Nat → Bool) : Nat → Int32
  | 0 => nI 0
  | n + 1 => smf f p n + (if p n = true then f n else nI 0)
theorem add_0 (x : Int32) : x + nI 0 = x := Int32.add_zero x
theorem sX6_pagesTogether {s : aMem} {nb x : Nat} (h : s.1 12 0 = nI nb) (hnb : nb ≤ 12) (hx : x < 4096) : fX6_pagesTogether [.ref 12, .int (nI x)] s = some (.inl (some (.int (smf (s.1 19) (x.testBit ·) nb))), s) := by
  have key : ∀ m k, k + m = nb → a_run none shp pX6_pagesTogether 4 [some (.ref 12), some (.int (nI x)), some (.int (smf (s.1 19) (x.testBit ·) k)), some (.int (nI k))] [] s = some (.inl (some (.int (smf (s.1 19) (x.testBit ·) nb))), s) := by
    intro m
    induction m with
    | zero =>
      intro k hk
      rw [tX6_pagesTogether_4, h]
      simp (disch := omega) only [i_leT, i_leF, i_ltT, i_ltF, i_eqT, i_eqF, i_okT, i_n1, i_n2, i_n3, i_n4, i_n5, i_n6, i_n7, i_n8, k_cl, if_true, if_false]
      rw [show k = nb by omega]
    | succ m ih =>
      intro k hk
      rw [tX6_pagesTogether_4, h]
      try simp only [k_lit, k_nN, k_ofN]
      simp (disch := omega) only [i_leT, i_leF, i_ltT, i_ltF, i_eqT, i_eqF, i_okT, i_n1, i_n2, i_n3, i_n4, i_n5, i_n6, i_n7, i_n8, k_cl, if_true, if_false]
      rw [k_holds x k (by omega) (by omega), b_bi]
      have ih2 := ih (k + 1) (by omega)
      by_cases e : x.testBit k = true
      · simp only [smf, e, if_true] at ih2
        simp only [e, Bool.toNat_true]
        simp (disch := omega) only [i_leT, i_leF, i_ltT, i_ltF, i_eqT, i_eqF, i_okT, i_n1, i_n2, i_n3, i_n4, i_n5, i_n6, i_n7, i_n8, k_cl, if_true, if_false, nI_add]
        exact ih2
      · simp only [Bool.eq_false_iff.mpr e, smf, if_false, add_0, Bool.false_eq_true] at ih2
        simp only [Bool.eq_false_iff.mpr e, Bool.toNat_false]
        simp (disch := omega) only [i_leT, i_leF, i_ltT, i_ltF, i_eqT, i_eqF, i_okT, i_n1, i_n2, i_n3, i_n4, i_n5, i_n6, i_n7, i_n8, k_cl, if_true, if_false, nI_add]
        exact ih2
  rw [tX6_pagesTogether]
  exact key nb 0 (by omega)
