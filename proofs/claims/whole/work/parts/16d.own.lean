/-! ===== who has what: X's sets and M's owners ===== -/
def Own (nb nr : Nat) (sets o : Nat → Int32) : Prop := (∀ r, r < 5 → sets r = nI (msk nb fun b => decide (o b = nI r))) ∧ sets 5 = nI (msk nb fun b => decide (o b = nN)) ∧ (∀ b, b < nb → o b = nN ∨ ∃ r, r < nr ∧ o b = nI r)
theorem ob {nb b : Nat} {o : Nat → Int32} {v : Int32} (hb : b < nb) : (msk nb fun c => decide (o c = v)).testBit b = decide (o b = v) := by
  rw [msk_bit]
  simp [hb]
theorem nI_ne {a b : Nat} (ha : a < 2147483648) (hb : b < 2147483648) (h : a ≠ b) : nI a ≠ nI b := fun e => h ((nI_eq ha hb).mp e)
theorem nN_ne {a : Nat} (ha : a < 2147483648) : nN ≠ nI a := fun e => by rw [k_nN2 ha] at e; exact e
theorem sX8_placeOf23 {s : aMem} {nb nr b : Nat} {o : Nat → Int32} (hnb : nb ≤ 12) (hnr : nr ≤ 5) (h : Own nb nr (s.1 23) o) (hb : b < nb) : fX8_placeOf [.ref 23, .int (nI b)] s = some (.inl (some (.int (o b))), s) := by
  have key : ∀ m k, k + m = 5 → (∀ r, r < k → o b ≠ nI r) → a_run none shp pX8_placeOf 2 [some (.ref 23), some (.int (nI b)), some (.int (nI k))] [] s = some (.inl (some (.int (o b))), s) := by
    intro m
    induction m with
    | zero =>
      intro k hk hn
      rw [tX8_placeOfi23_2]
      try simp only [k_lit, k_nN, k_ofN]
      simp (disch := omega) only [i_leT, i_leF, i_ltT, i_ltF, i_eqT, i_eqF, i_okT, i_n1, i_n2, i_n3, i_n4, i_n5, i_n6, i_n7, i_n8, k_cl, if_true, if_false]
      rcases h.2.2 b hb with e | ⟨r, hr, e⟩
      · rw [e]
      · exact absurd e (hn r (by omega))
    | succ m ih =>
      intro k hk hn
      rw [tX8_placeOfi23_2]
      try simp only [k_lit, k_nN, k_ofN]
      simp (disch := omega) only [i_leT, i_leF, i_ltT, i_ltF, i_eqT, i_eqF, i_okT, i_n1, i_n2, i_n3, i_n4, i_n5, i_n6, i_n7, i_n8, k_cl, if_true, if_false]
      rw [h.1 k (by omega), k_holds _ b (by have := @msk_12 nb (fun b => decide (o b = nI k)) hnb; omega) (by omega), b_bi, ob hb]
      by_cases e : o b = nI k
      · simp only [e, decide_true, Bool.toNat_true]
        simp (disch := omega) only [i_leT, i_leF, i_ltT, i_ltF, i_eqT, i_eqF, i_okT, i_n1, i_n2, i_n3, i_n4, i_n5, i_n6, i_n7, i_n8, k_cl, if_true, if_false]
      · simp only [e, decide_false, Bool.toNat_false]
        simp (disch := omega) only [i_leT, i_leF, i_ltT, i_ltF, i_eqT, i_eqF, i_okT, i_n1, i_n2, i_n3, i_n4, i_n5, i_n6, i_n7, i_n8, k_cl, if_true, if_false, nI_add]
        refine ih (k + 1) (by omega) (fun r hr => ?_)
        by_cases e2 : r = k
        · rw [e2]; exact e
        · exact hn r (by omega)
  rw [tX8_placeOfi23]
  exact key 5 0 (by omega) (fun r hr => absurd hr (Nat.not_lt_zero r))
theorem sX8_placeOf18 {s : aMem} {nb nr b : Nat} {o : Nat → Int32} (hnb : nb ≤ 12) (hnr : nr ≤ 5) (h : Own nb nr (s.1 18) o) (hb : b < nb) : fX8_placeOf [.ref 18, .int (nI b)] s = some (.inl (some (.int (o b))), s) := by
  have key : ∀ m k, k + m = 5 → (∀ r, r < k → o b ≠ nI r) → a_run none shp pX8_placeOf 2 [some (.ref 18), some (.int (nI b)), some (.int (nI k))] [] s = some (.inl (some (.int (o b))), s) := by
    intro m
    induction m with
    | zero =>
      intro k hk hn
      rw [tX8_placeOfi18_2]
      try simp only [k_lit, k_nN, k_ofN]
      simp (disch := omega) only [i_leT, i_leF, i_ltT, i_ltF, i_eqT, i_eqF, i_okT, i_n1, i_n2, i_n3, i_n4, i_n5, i_n6, i_n7, i_n8, k_cl, if_true, if_false]
      rcases h.2.2 b hb with e | ⟨r, hr, e⟩
      · rw [e]
      · exact absurd e (hn r (by omega))
    | succ m ih =>
      intro k hk hn
      rw [tX8_placeOfi18_2]
      try simp only [k_lit, k_nN, k_ofN]
      simp (disch := omega) only [i_leT, i_leF, i_ltT, i_ltF, i_eqT, i_eqF, i_okT, i_n1, i_n2, i_n3, i_n4, i_n5, i_n6, i_n7, i_n8, k_cl, if_true, if_false]
      rw [h.1 k (by omega), k_holds _ b (by have := @msk_12 nb (fun b => decide (o b = nI k)) hnb; omega) (by omega), b_bi, ob hb]
      by_cases e : o b = nI k
      · simp only [e, decide_true, Bool.toNat_true]
        simp (disch := omega) only [i_leT, i_leF, i_ltT, i_ltF, i_eqT, i_eqF, i_okT, i_n1, i_n2, i_n3, i_n4, i_n5, i_n6, i_n7, i_n8, k_cl, if_true, if_false]
      · simp only [e, decide_false, Bool.toNat_false]
        simp (disch := omega) only [i_leT, i_leF, i_ltT, i_ltF, i_eqT, i_eqF, i_okT, i_n1, i_n2, i_n3, i_n4, i_n5, i_n6, i_n7, i_n8, k_cl, if_true, if_false, nI_add]
        refine ih (k + 1) (by omega) (fun r hr => ?_)
        by_cases e2 : r = k
        · rw [e2]; exact e
        · exact hn r (by omega)
  rw [tX8_placeOfi18]
  exact key 5 0 (by omega) (fun r hr => absurd hr (Nat.not_lt_zero r))
/-- whom a reader's want makes served -/
def srv (o wn : Nat → Int32) (r : Nat) : Bool := decide (wn r ≠ nN) && decide (o (wn r).toNatClampNeg = nI r)
def wOk (nb nr : Nat) (wn : Nat → Int32) : Prop := ∀ r, r < nr → wn r = nN ∨ ∃ b, b < nb ∧ wn r = nI b
theorem sX6_isServed23 {s : aMem} {nb nr r : Nat} {o : Nat → Int32} (hnb : nb ≤ 12) (hnr : nr ≤ 5) (h : Own nb nr (s.1 23) o) (hw : wOk nb nr (s.1 17)) (hr : r < nr) : fX6_isServed [.ref 12, .ref 23, .int (nI r)] s = some (.inl (some (.int (nI (srv o (s.1 17) r).toNat))), s) := by
  rw [tX6_isServedi23]
  try simp only [k_lit, k_nN, k_ofN]
  simp (disch := omega) only [i_leT, i_leF, i_ltT, i_ltF, i_eqT, i_eqF, i_okT, i_n1, i_n2, i_n3, i_n4, i_n5, i_n6, i_n7, i_n8, k_cl, if_true, if_false]
  unfold srv
  rcases hw r hr with e | ⟨b, hb, e⟩
  · simp only [e]
    simp (disch := omega) only [i_leT, i_leF, i_ltT, i_ltF, i_eqT, i_eqF, i_okT, i_n1, i_n2, i_n3, i_n4, i_n5, i_n6, i_n7, i_n8, k_cl, if_true, if_false]
    simp
  · simp only [e]
    simp (disch := omega) only [i_leT, i_leF, i_ltT, i_ltF, i_eqT, i_eqF, i_okT, i_n1, i_n2, i_n3, i_n4, i_n5, i_n6, i_n7, i_n8, k_cl, if_true, if_false]
    rw [h.1 r (by omega), k_holds _ b (by have := @msk_12 nb (fun b => decide (o b = nI r)) hnb; omega) (by omega), b_bi, ob hb]
    have e2 : decide (nI b ≠ nN) = true := by simp [k_nN1 (n := b) (by omega)]
    rw [e2, Bool.true_and]
    cases decide (o b = nI r)
    · simp only [Bool.toNat_false]
      simp (disch := omega) only [i_leT, i_leF, i_ltT, i_ltF, i_eqT, i_eqF, i_okT, i_n1, i_n2, i_n3, i_n4, i_n5, i_n6, i_n7, i_n8, k_cl, if_true, if_false]
    · simp only [Bool.toNat_true]
      simp (disch := omega) only [i_leT, i_leF, i_ltT, i_ltF, i_eqT, i_eqF, i_okT, i_n1, i_n2, i_n3, i_n4, i_n5, i_n6, i_n7, i_n8, k_cl, if_true, if_false]
theorem sX6_isServed31 {s : aMem} {nb nr r : Nat} {o : Nat → Int32} (hnb : nb ≤ 12) (hnr : nr ≤ 5) (h : Own nb nr (s.1 31) o) (hw : wOk nb nr (s.1 17)) (hr : r < nr) : fX6_isServed [.ref 12, .ref 31, .int (nI r)] s = some (.inl (some (.int (nI (srv o (s.1 17) r).toNat))), s) := by
  rw [tX6_isServedi31]
  try simp only [k_lit, k_nN, k_ofN]
  simp (disch := omega) only [i_leT, i_leF, i_ltT, i_ltF, i_eqT, i_eqF, i_okT, i_n1, i_n2, i_n3, i_n4, i_n5, i_n6, i_n7, i_n8, k_cl, if_true, if_false]
  unfold srv
  rcases hw r hr with e | ⟨b, hb, e⟩
  · simp only [e]
    simp (disch := omega) only [i_leT, i_leF, i_ltT, i_ltF, i_eqT, i_eqF, i_okT, i_n1, i_n2, i_n3, i_n4, i_n5, i_n6, i_n7, i_n8, k_cl, if_true, if_false]
    simp
  · simp only [e]
    simp (disch := omega) only [i_leT, i_leF, i_ltT, i_ltF, i_eqT, i_eqF, i_okT, i_n1, i_n2, i_n3, i_n4, i_n5, i_n6, i_n7, i_n8, k_cl, if_true, if_false]
    rw [h.1 r (by omega), k_holds _ b (by have := @msk_12 nb (fun b => decide (o b = nI r)) hnb; omega) (by omega), b_bi, ob hb]
    have e2 : decide (nI b ≠ nN) = true := by simp [k_nN1 (n := b) (by omega)]
    rw [e2, Bool.true_and]
    cases decide (o b = nI r)
    · simp only [Bool.toNat_false]
      simp (disch := omega) only [i_leT, i_leF, i_ltT, i_ltF, i_eqT, i_eqF, i_okT, i_n1, i_n2, i_n3, i_n4, i_n5, i_n6, i_n7, i_n8, k_cl, if_true, if_false]
    · simp only [Bool.toNat_true]
      simp (disch := omega) only [i_leT, i_leF, i_ltT, i_ltF, i_eqT, i_eqF, i_okT, i_n1, i_n2, i_n3, i_n4, i_n5, i_n6, i_n7, i_n8, k_cl, if_true, if_false]
theorem sX9_isServed {s : aMem} {nb nr r : Nat} (hnb : nb ≤ 12) (hnr : nr ≤ 5) (hw : wOk nb nr (s.1 47)) (hr : r < nr) : fX9_isServed [.ref 43, .int (nI r)] s = some (.inl (some (.int (nI (srv (s.1 45) (s.1 47) r).toNat))), s) := by
  rw [tX9_isServed]
  try simp only [k_lit, k_nN, k_ofN]
  simp (disch := omega) only [i_leT, i_leF, i_ltT, i_ltF, i_eqT, i_eqF, i_okT, i_n1, i_n2, i_n3, i_n4, i_n5, i_n6, i_n7, i_n8, k_cl, if_true, if_false]
  unfold srv
  rcases hw r hr with e | ⟨b, hb, e⟩
  · simp only [e]
    simp (disch := omega) only [i_leT, i_leF, i_ltT, i_ltF, i_eqT, i_eqF, i_okT, i_n1, i_n2, i_n3, i_n4, i_n5, i_n6, i_n7, i_n8, k_cl, if_true, if_false]
    simp
  · simp only [e]
    simp (disch := omega) only [i_leT, i_leF, i_ltT, i_ltF, i_eqT, i_eqF, i_okT, i_n1, i_n2, i_n3, i_n4, i_n5, i_n6, i_n7, i_n8, k_cl, if_true, if_false]
    have e2 : decide (nI b ≠ nN) = true := by simp [k_nN1 (n := b) (by omega)]
    rw [e2, Bool.true_and]
    by_cases e3 : s.1 45 b = nI r
    · rw [if_pos e3]; simp [e3]
    · rw [if_neg e3]; simp [e3]
