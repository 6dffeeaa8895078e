/-! ===== small methods of both ===== -/
theorem msk_or {k : Nat} {p : Nat → Bool} (h : p k = true) : msk k p ||| 2 ^ k = msk (k + 1) p := by
  apply msk_eq
  intro b
  rw [Nat.testBit_or, msk_bit, pow_bit]
  by_cases hb : k = b
  · subst hb
    simp [h]
  · by_cases h1 : b < k
    · simp [h1, hb, Nat.lt_succ_of_lt h1]
    · have : ¬ b < k + 1 := by omega
      simp [h1, hb, this]
theorem msk_sk {k : Nat} {p : Nat → Bool} (h : p k = false) : msk k p = msk (k + 1) p := by
  simp [msk, h]
theorem msk_12 {k : Nat} {p : Nat → Bool} (h : k ≤ 12) : msk k p < 4096 := by
  have h1 := msk_lt p k
  have h2 : 2 ^ k ≤ 2 ^ 12 := Nat.pow_le_pow_right (by decide) h
  omega
/-- a number below n -/
def vb (n : Nat) (v : Int32) : Prop := ∃ j, j < n ∧ v = nI j
theorem vb_no {n : Nat} {v : Int32} (hn : n < 2147483648) (h : ¬ vb n v) : v < nI 0 ∨ (¬ v < nI 0 ∧ nI n ≤ v) := by
  rcases pk_ix v hn with h1 | h1 | ⟨j, h1, h2⟩
  · exact .inl h1
  · by_cases h0 : v < nI 0
    · exact .inl h0
    · exact .inr ⟨h0, h1⟩
  · exact absurd ⟨j, h1, h2⟩ h
theorem sX8_isBookT {s : aMem} {nb j : Nat} (h : s.1 12 0 = nI nb) (hnb : nb ≤ 12) (hj : j < nb) : fX8_isBook [.ref 0, .int (nI j)] s = some (.inl (some (.int (nI 1))), s) := by
  rw [tX8_isBook]
  try simp only [k_lit, k_nN, k_ofN, h]
  simp (disch := omega) only [i_leT, i_leF, i_ltT, i_ltF, i_eqT, i_eqF, i_okT, i_n1, i_n2, i_n3, i_n4, i_n5, i_n6, i_n7, i_n8, k_cl, if_true, if_false]
theorem sX8_isBookF {s : aMem} {nb : Nat} {v : Int32} (h : s.1 12 0 = nI nb) (hnb : nb ≤ 12) (hv : ¬ vb nb v) : fX8_isBook [.ref 0, .int v] s = some (.inl (some (.int (nI 0))), s) := by
  rw [tX8_isBook]
  try simp only [k_lit, k_nN, k_ofN, h]
  rcases vb_no (by omega) hv with h1 | ⟨h1, h2⟩
  · rw [if_pos h1]
  · rw [if_neg h1, if_pos h2]
theorem sX8_isReaderT {s : aMem} {nb j : Nat} (h : s.1 12 1 = nI nb) (hnb : nb ≤ 5) (hj : j < nb) : fX8_isReader [.ref 0, .int (nI j)] s = some (.inl (some (.int (nI 1))), s) := by
  rw [tX8_isReader]
  try simp only [k_lit, k_nN, k_ofN, h]
  simp (disch := omega) only [i_leT, i_leF, i_ltT, i_ltF, i_eqT, i_eqF, i_okT, i_n1, i_n2, i_n3, i_n4, i_n5, i_n6, i_n7, i_n8, k_cl, if_true, if_false]
theorem sX8_isReaderF {s : aMem} {nb : Nat} {v : Int32} (h : s.1 12 1 = nI nb) (hnb : nb ≤ 5) (hv : ¬ vb nb v) : fX8_isReader [.ref 0, .int v] s = some (.inl (some (.int (nI 0))), s) := by
  rw [tX8_isReader]
  try simp only [k_lit, k_nN, k_ofN, h]
  rcases vb_no (by omega) hv with h1 | ⟨h1, h2⟩
  · rw [if_pos h1]
  · rw [if_neg h1, if_pos h2]
theorem sX9_isBookT {s : aMem} {nb j : Nat} (h : s.1 43 1 = nI nb) (hnb : nb ≤ 12) (hj : j < nb) : fX9_isBook [.ref 43, .int (nI j)] s = some (.inl (some (.int (nI 1))), s) := by
  rw [tX9_isBook]
  try simp only [k_lit, k_nN, k_ofN, h]
  simp (disch := omega) only [i_leT, i_leF, i_ltT, i_ltF, i_eqT, i_eqF, i_okT, i_n1, i_n2, i_n3, i_n4, i_n5, i_n6, i_n7, i_n8, k_cl, if_true, if_false]
theorem sX9_isBookF {s : aMem} {nb : Nat} {v : Int32} (h : s.1 43 1 = nI nb) (hnb : nb ≤ 12) (hv : ¬ vb nb v) : fX9_isBook [.ref 43, .int v] s = some (.inl (some (.int (nI 0))), s) := by
  rw [tX9_isBook]
  try simp only [k_lit, k_nN, k_ofN, h]
  rcases vb_no (by omega) hv with h1 | ⟨h1, h2⟩
  · rw [if_pos h1]
  · rw [if_neg h1, if_pos h2]
theorem sX9_isReaderT {s : aMem} {nb j : Nat} (h : s.1 43 2 = nI nb) (hnb : nb ≤ 5) (hj : j < nb) : fX9_isReader [.ref 43, .int (nI j)] s = some (.inl (some (.int (nI 1))), s) := by
  rw [tX9_isReader]
  try simp only [k_lit, k_nN, k_ofN, h]
  simp (disch := omega) only [i_leT, i_leF, i_ltT, i_ltF, i_eqT, i_eqF, i_okT, i_n1, i_n2, i_n3, i_n4, i_n5, i_n6, i_n7, i_n8, k_cl, if_true, if_false]
theorem sX9_isReaderF {s : aMem} {nb : Nat} {v : Int32} (h : s.1 43 2 = nI nb) (hnb : nb ≤ 5) (hv : ¬ vb nb v) : fX9_isReader [.ref 43, .int v] s = some (.inl (some (.int (nI 0))), s) := by
  rw [tX9_isReader]
  try simp only [k_lit, k_nN, k_ofN, h]
  rcases vb_no (by omega) hv with h1 | ⟨h1, h2⟩
  · rw [if_pos h1]
  · rw [if_neg h1, if_pos h2]
theorem sX8_needBookT {s : aMem} {nb j : Nat} (h : s.1 12 0 = nI nb) (hnb : nb ≤ 12) (hj : j < nb) : fX8_needBook [.ref 0, .int (nI j)] s = some (.inl none, s) := by
  rw [tX8_needBook, sX8_isBookT h hnb hj, b_bi]
  try simp only [k_lit, k_nN, k_ofN]
  simp (disch := omega) only [i_leT, i_leF, i_ltT, i_ltF, i_eqT, i_eqF, i_okT, i_n1, i_n2, i_n3, i_n4, i_n5, i_n6, i_n7, i_n8, k_cl, if_true, if_false]
theorem sX8_needBookF {s : aMem} {nb : Nat} {v : Int32} (h : s.1 12 0 = nI nb) (hnb : nb ≤ 12) (hv : ¬ vb nb v) : fX8_needBook [.ref 0, .int v] s = some (.inr 0, a_tk s) := by
  rw [tX8_needBook, sX8_isBookF h hnb hv, b_bi]
  try simp only [k_lit, k_nN, k_ofN]
  simp (disch := omega) only [i_leT, i_leF, i_ltT, i_ltF, i_eqT, i_eqF, i_okT, i_n1, i_n2, i_n3, i_n4, i_n5, i_n6, i_n7, i_n8, k_cl, if_true, if_false]
theorem sX8_needReaderT {s : aMem} {nb j : Nat} (h : s.1 12 1 = nI nb) (hnb : nb ≤ 5) (hj : j < nb) : fX8_needReader [.ref 0, .int (nI j)] s = some (.inl none, s) := by
  rw [tX8_needReader, sX8_isReaderT h hnb hj, b_bi]
  try simp only [k_lit, k_nN, k_ofN]
  simp (disch := omega) only [i_leT, i_leF, i_ltT, i_ltF, i_eqT, i_eqF, i_okT, i_n1, i_n2, i_n3, i_n4, i_n5, i_n6, i_n7, i_n8, k_cl, if_true, if_false]
theorem sX8_needReaderF {s : aMem} {nb : Nat} {v : Int32} (h : s.1 12 1 = nI nb) (hnb : nb ≤ 5) (hv : ¬ vb nb v) : fX8_needReader [.ref 0, .int v] s = some (.inr 0, a_tk s) := by
  rw [tX8_needReader, sX8_isReaderF h hnb hv, b_bi]
  try simp only [k_lit, k_nN, k_ofN]
  simp (disch := omega) only [i_leT, i_leF, i_ltT, i_ltF, i_eqT, i_eqF, i_okT, i_n1, i_n2, i_n3, i_n4, i_n5, i_n6, i_n7, i_n8, k_cl, if_true, if_false]
theorem sX8_needWhatT {s : aMem} {n j : Nat} (hn : n < 2147483648) (hj : j < n) : fX8_needWhat [.int (nI j), .int (nI n)] s = some (.inl none, s) := by
  rw [tX8_needWhat]
  try simp only [k_lit, k_nN, k_ofN]
  simp (disch := omega) only [i_leT, i_leF, i_ltT, i_ltF, i_eqT, i_eqF, i_okT, i_n1, i_n2, i_n3, i_n4, i_n5, i_n6, i_n7, i_n8, k_cl, if_true, if_false]
theorem sX8_needWhatF {s : aMem} {n : Nat} {v : Int32} (hn : n < 2147483648) (hv : ¬ vb n v) : fX8_needWhat [.int v, .int (nI n)] s = some (.inr 0, a_tk s) := by
  rw [tX8_needWhat]
  try simp only [k_lit, k_nN, k_ofN]
  rcases vb_no (by omega) hv with h1 | ⟨h1, h2⟩
  · rw [if_pos h1]
  · rw [if_neg h1, if_neg (Int32.not_lt.mpr h2)]
theorem sX9_within {s : aMem} {n : Nat} {v : Int32} (hn : n < 2147483647) : fX9_within [.int v, .int (nI 0), .int (nI n)] s = some (.inl (some (.int (if v < nI 0 ∨ nI n < v then nI 0 else nI 1))), s) := by
  rw [tX9_within]
  try simp only [k_lit, k_nN, k_ofN]
  by_cases h1 : v < nI 0
  · rw [if_pos h1, if_pos (.inl h1)]
  · rw [if_neg h1]
    by_cases h2 : nI n < v
    · rw [if_pos h2, if_pos (.inr h2)]
    · rw [if_neg h2, if_neg (fun h => h.elim h1 h2)]
theorem sX9_withinT {s : aMem} {n j : Nat} (hn : n < 2147483647) (hj : j ≤ n) : fX9_within [.int (nI j), .int (nI 0), .int (nI n)] s = some (.inl (some (.int (nI 1))), s) := by
  rw [sX9_within hn, if_neg (fun h => h.elim (nI_nlt (Nat.zero_le _) (by omega)) (nI_nlt hj (by omega)))]
theorem sX9_withinF {s : aMem} {n : Nat} {v : Int32} (hn : n < 2147483647) (hv : ¬ vb (n + 1) v) : fX9_within [.int v, .int (nI 0), .int (nI n)] s = some (.inl (some (.int (nI 0))), s) := by
  rw [sX9_within hn, if_pos]
  rcases vb_no (by omega) hv with h1 | ⟨h1, h2⟩
  · exact .inl h1
  · refine .inr ?_
    have a1 : nI n < nI (n + 1) := nI_lt (by omega) (by omega)
    exact Int32.lt_of_lt_of_le a1 h2
theorem sX9_rightT {s : aMem} {w : Int32} (h : s.1 43 0 = nI 0) : fX9_right [.ref 43, .int (nI 1), .int w] s = some (.inl (some (.int (nI 1))), s) := by
  rw [tX9_right]
  try simp only [k_lit, k_nN, k_ofN, h]
  simp (disch := omega) only [i_leT, i_leF, i_ltT, i_ltF, i_eqT, i_eqF, i_okT, i_n1, i_n2, i_n3, i_n4, i_n5, i_n6, i_n7, i_n8, k_cl, if_true, if_false]
theorem sX9_rightF {s : aMem} {w : Nat} (h : s.1 43 0 = nI 0) (hw : 0 < w) (hw2 : w < 2147483648) : fX9_right [.ref 43, .int (nI 0), .int (nI w)] s = some (.inl (some (.int (nI 0))), a_si s 43 0 (nI w)) := by
  rw [tX9_right]
  try simp only [k_lit, k_nN, k_ofN, h]
  simp (disch := omega) only [i_leT, i_leF, i_ltT, i_ltF, i_eqT, i_eqF, i_okT, i_n1, i_n2, i_n3, i_n4, i_n5, i_n6, i_n7, i_n8, k_cl, if_true, if_false]
theorem sX9_hasOf {s : aMem} {nb : Nat} (h : s.1 43 1 = nI nb) (hnb : nb ≤ 12) (v : Int32) : fX9_hasOf [.ref 43, .int v] s = some (.inl (some (.int (nI (msk nb fun b => decide (s.1 45 b = v))))), s) := by
  have key : ∀ m k, k + m = nb → a_run none shp pX9_hasOf 4 [some (.ref 43), some (.int v), some (.int (nI (msk k fun b => decide (s.1 45 b = v)))), some (.int (nI k))] [] s = some (.inl (some (.int (nI (msk nb fun b => decide (s.1 45 b = v))))), s) := by
    intro m
    induction m with
    | zero =>
      intro k hk
      rw [tX9_hasOf_4, h]
      simp (disch := omega) only [i_leT, i_leF, i_ltT, i_ltF, i_eqT, i_eqF, i_okT, i_n1, i_n2, i_n3, i_n4, i_n5, i_n6, i_n7, i_n8, k_cl, if_true, if_false]
      rw [show k = nb by omega]
    | succ m ih =>
      intro k hk
      rw [tX9_hasOf_4, h]
      try simp only [k_lit, k_nN, k_ofN]
      simp (disch := omega) only [i_leT, i_leF, i_ltT, i_ltF, i_eqT, i_eqF, i_okT, i_n1, i_n2, i_n3, i_n4, i_n5, i_n6, i_n7, i_n8, k_cl, if_true, if_false]
      have h2 : 2 ^ k ≤ 2 ^ 12 := Nat.pow_le_pow_right (by decide) (by omega)
      rw [k_one (by omega), nI_add, k_or, k_or]
      by_cases e : s.1 45 k = v
      · rw [if_pos e, msk_or (by simp [e]), ih (k + 1) (by omega)]
      · rw [if_neg e, Nat.or_zero, msk_sk (by simp [e]), ih (k + 1) (by omega)]
  rw [tX9_hasOf]
  exact key nb 0 (by omega)
