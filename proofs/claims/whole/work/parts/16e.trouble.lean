/-! ===== troubles ===== -/
def fwOk (nb : Nat) (fw pg : Nat → Int32) : Prop := ∀ b, b < nb → fw b = nI (msk nb fun c => decide (pg c < pg b))
/-- the trouble, of any sets -/
def trx (x : Nat → Nat) (pg : Nat → Int32) (r l t : Nat) : Nat := if (x r).testBit l = false then 2 else if (x 5).testBit t = false then 3 else if pg t < pg l then 0 else 4
/-- the trouble, of owners -/
def tro (o pg : Nat → Int32) (r l t : Nat) : Nat := if o l = nI r then (if o t = nN then (if pg t < pg l then 0 else 4) else 3) else 2
def sOk (sets : Nat → Int32) (x : Nat → Nat) : Prop := ∀ r, r < 6 → sets r = nI (x r) ∧ x r < 4096
theorem tro_le (o pg : Nat → Int32) (r l t : Nat) : tro o pg r l t ≤ 4 := by
  unfold tro
  split
  · split
    · split <;> omega
    · omega
  · omega
/-- sets of owners -/
def oset (nb : Nat) (o : Nat → Int32) (r : Nat) : Nat := if r = 5 then msk nb fun b => decide (o b = nN) else msk nb fun b => decide (o b = nI r)
theorem Own_s {nb nr : Nat} {sets o : Nat → Int32} (hnb : nb ≤ 12) (h : Own nb nr sets o) : sOk sets (oset nb o) := by
  intro r hr
  unfold oset
  by_cases e : r = 5
  · subst e
    rw [if_pos rfl]
    exact ⟨h.2.1, msk_12 hnb⟩
  · rw [if_neg e]
    exact ⟨h.1 r (by omega), msk_12 hnb⟩
theorem trx_o {nb r l t : Nat} {o pg : Nat → Int32} (hr : r < 5) (hl : l < nb) (ht : t < nb) : trx (oset nb o) pg r l t = tro o pg r l t := by
  unfold trx tro oset
  have e5 : ¬ r = 5 := by omega
  simp only [e5, if_false, if_true]
  rw [ob hl, ob ht]
  by_cases e1 : o l = nI r <;> by_cases e2 : o t = nN <;> simp [e1, e2]
theorem sX6_troubleOf23 {s : aMem} {nb r l t : Nat} {x : Nat → Nat} (hnb : nb ≤ 12) (hs : sOk (s.1 23) x) (hf : fwOk nb (s.1 20) (s.1 19)) (hr : r < 5) (hl : l < nb) (ht : t < nb) : fX6_troubleOf [.ref 12, .ref 23, .int (nI r), .int (nI l), .int (nI t)] s = some (.inl (some (.int (nI (trx x (s.1 19) r l t)))), s) := by
  have h1 := hs r (by omega)
  have h5 := hs 5 (by omega)
  rw [tX6_troubleOfi23]
  simp (disch := omega) only [i_leT, i_leF, i_ltT, i_ltF, i_eqT, i_eqF, i_okT, i_n1, i_n2, i_n3, i_n4, i_n5, i_n6, i_n7, i_n8, k_cl, if_true, if_false]
  rw [h1.1, k_holds _ l (by omega) (by omega), b_bi, tX6_troubleOfi23_7]
  try simp only [k_lit, k_nN, k_ofN]
  unfold trx
  cases (x r).testBit l
  · simp only [Bool.toNat_false]
    simp (disch := omega) only [i_leT, i_leF, i_ltT, i_ltF, i_eqT, i_eqF, i_okT, i_n1, i_n2, i_n3, i_n4, i_n5, i_n6, i_n7, i_n8, k_cl, if_true, if_false]
  · simp only [Bool.toNat_true]
    simp (disch := omega) only [i_leT, i_leF, i_ltT, i_ltF, i_eqT, i_eqF, i_okT, i_n1, i_n2, i_n3, i_n4, i_n5, i_n6, i_n7, i_n8, k_cl, if_true, if_false]
    rw [h5.1, k_holds _ t (by omega) (by omega), b_bi, tX6_troubleOfi23_20]
    try simp only [k_lit, k_nN, k_ofN]
    cases (x 5).testBit t
    · simp only [Bool.toNat_false]
      simp (disch := omega) only [i_leT, i_leF, i_ltT, i_ltF, i_eqT, i_eqF, i_okT, i_n1, i_n2, i_n3, i_n4, i_n5, i_n6, i_n7, i_n8, k_cl, if_true, if_false]
      simp
    · simp only [Bool.toNat_true]
      simp (disch := omega) only [i_leT, i_leF, i_ltT, i_ltF, i_eqT, i_eqF, i_okT, i_n1, i_n2, i_n3, i_n4, i_n5, i_n6, i_n7, i_n8, k_cl, if_true, if_false]
      rw [hf l hl, k_holds _ t (by have := @msk_12 nb (fun c => decide (s.1 19 c < s.1 19 l)) hnb; omega) (by omega), b_bi, tX6_troubleOfi23_36, msk_bit]
      by_cases e : s.1 19 t < s.1 19 l
      · simp only [ht, e, decide_true, Bool.and_self, Bool.toNat_true]
        try simp only [k_lit, k_nN, k_ofN]
        simp (disch := omega) only [i_leT, i_leF, i_ltT, i_ltF, i_eqT, i_eqF, i_okT, i_n1, i_n2, i_n3, i_n4, i_n5, i_n6, i_n7, i_n8, k_cl, if_true, if_false]
        simp
      · simp only [ht, e, decide_true, decide_false, Bool.and_false, Bool.toNat_false]
        try simp only [k_lit, k_nN, k_ofN]
        simp (disch := omega) only [i_leT, i_leF, i_ltT, i_ltF, i_eqT, i_eqF, i_okT, i_n1, i_n2, i_n3, i_n4, i_n5, i_n6, i_n7, i_n8, k_cl, if_true, if_false]
        simp
theorem sX6_troubleOf39 {s : aMem} {nb r l t : Nat} {x : Nat → Nat} (hnb : nb ≤ 12) (hs : sOk (s.1 39) x) (hf : fwOk nb (s.1 20) (s.1 19)) (hr : r < 5) (hl : l < nb) (ht : t < nb) : fX6_troubleOf [.ref 12, .ref 39, .int (nI r), .int (nI l), .int (nI t)] s = some (.inl (some (.int (nI (trx x (s.1 19) r l t)))), s) := by
  have h1 := hs r (by omega)
  have h5 := hs 5 (by omega)
  rw [tX6_troubleOfi39]
  simp (disch := omega) only [i_leT, i_leF, i_ltT, i_ltF, i_eqT, i_eqF, i_okT, i_n1, i_n2, i_n3, i_n4, i_n5, i_n6, i_n7, i_n8, k_cl, if_true, if_false]
  rw [h1.1, k_holds _ l (by omega) (by omega), b_bi, tX6_troubleOfi39_7]
  try simp only [k_lit, k_nN, k_ofN]
  unfold trx
  cases (x r).testBit l
  · simp only [Bool.toNat_false]
    simp (disch := omega) only [i_leT, i_leF, i_ltT, i_ltF, i_eqT, i_eqF, i_okT, i_n1, i_n2, i_n3, i_n4, i_n5, i_n6, i_n7, i_n8, k_cl, if_true, if_false]
  · simp only [Bool.toNat_true]
    simp (disch := omega) only [i_leT, i_leF, i_ltT, i_ltF, i_eqT, i_eqF, i_okT, i_n1, i_n2, i_n3, i_n4, i_n5, i_n6, i_n7, i_n8, k_cl, if_true, if_false]
    rw [h5.1, k_holds _ t (by omega) (by omega), b_bi, tX6_troubleOfi39_20]
    try simp only [k_lit, k_nN, k_ofN]
    cases (x 5).testBit t
    · simp only [Bool.toNat_false]
      simp (disch := omega) only [i_leT, i_leF, i_ltT, i_ltF, i_eqT, i_eqF, i_okT, i_n1, i_n2, i_n3, i_n4, i_n5, i_n6, i_n7, i_n8, k_cl, if_true, if_false]
      simp
    · simp only [Bool.toNat_true]
      simp (disch := omega) only [i_leT, i_leF, i_ltT, i_ltF, i_eqT, i_eqF, i_okT, i_n1, i_n2, i_n3, i_n4, i_n5, i_n6, i_n7, i_n8, k_cl, if_true, if_false]
      rw [hf l hl, k_holds _ t (by have := @msk_12 nb (fun c => decide (s.1 19 c < s.1 19 l)) hnb; omega) (by omega), b_bi, tX6_troubleOfi39_36, msk_bit]
      by_cases e : s.1 19 t < s.1 19 l
      · simp only [ht, e, decide_true, Bool.and_self, Bool.toNat_true]
        try simp only [k_lit, k_nN, k_ofN]
        simp (disch := omega) only [i_leT, i_leF, i_ltT, i_ltF, i_eqT, i_eqF, i_okT, i_n1, i_n2, i_n3, i_n4, i_n5, i_n6, i_n7, i_n8, k_cl, if_true, if_false]
        simp
      · simp only [ht, e, decide_true, decide_false, Bool.and_false, Bool.toNat_false]
        try simp only [k_lit, k_nN, k_ofN]
        simp (disch := omega) only [i_leT, i_leF, i_ltT, i_ltF, i_eqT, i_eqF, i_okT, i_n1, i_n2, i_n3, i_n4, i_n5, i_n6, i_n7, i_n8, k_cl, if_true, if_false]
        simp
theorem sX9_troubleT {s : aMem} {nb nr r l t : Nat} (h1 : s.1 43 1 = nI nb) (h2 : s.1 43 2 = nI nr) (hnb : nb ≤ 12) (hnr : nr ≤ 5) (hr : r < nr) (hl : l < nb) (ht : t < nb) : fX9_trouble [.ref 43, .int (nI r), .int (nI l), .int (nI t)] s = some (.inl (some (.int (nI (tro (s.1 45) (s.1 49) r l t)))), s) := by
  rw [tX9_trouble, sX9_isReaderT h2 hnr hr, b_bi, tX9_trouble_5]
  try simp only [k_lit, k_nN, k_ofN]
  simp (disch := omega) only [i_leT, i_leF, i_ltT, i_ltF, i_eqT, i_eqF, i_okT, i_n1, i_n2, i_n3, i_n4, i_n5, i_n6, i_n7, i_n8, k_cl, if_true, if_false]
  rw [sX9_isBookT h1 hnb hl, b_bi, tX9_trouble_13]
  try simp only [k_lit, k_nN, k_ofN]
  simp (disch := omega) only [i_leT, i_leF, i_ltT, i_ltF, i_eqT, i_eqF, i_okT, i_n1, i_n2, i_n3, i_n4, i_n5, i_n6, i_n7, i_n8, k_cl, if_true, if_false]
  rw [sX9_isBookT h1 hnb ht, b_bi, tX9_trouble_21]
  try simp only [k_lit, k_nN, k_ofN]
  simp (disch := omega) only [i_leT, i_leF, i_ltT, i_ltF, i_eqT, i_eqF, i_okT, i_n1, i_n2, i_n3, i_n4, i_n5, i_n6, i_n7, i_n8, k_cl, if_true, if_false]
  unfold tro
  split
  · split
    · split <;> rfl
    · rfl
  · rfl
theorem sX9_troubleF {s : aMem} {nb nr : Nat} {r l t : Int32} (h1 : s.1 43 1 = nI nb) (h2 : s.1 43 2 = nI nr) (hnb : nb ≤ 12) (hnr : nr ≤ 5) (hv : ¬ (vb nr r ∧ vb nb l ∧ vb nb t)) : fX9_trouble [.ref 43, .int r, .int l, .int t] s = some (.inl (some (.int (nI 1))), s) := by
  rw [tX9_trouble]
  by_cases hr : vb nr r
  · obtain ⟨a, ha, rfl⟩ := hr
    rw [sX9_isReaderT h2 hnr ha, b_bi, tX9_trouble_5]
    try simp only [k_lit, k_nN, k_ofN]
    simp (disch := omega) only [i_leT, i_leF, i_ltT, i_ltF, i_eqT, i_eqF, i_okT, i_n1, i_n2, i_n3, i_n4, i_n5, i_n6, i_n7, i_n8, k_cl, if_true, if_false]
    by_cases hl : vb nb l
    · obtain ⟨b, hb, rfl⟩ := hl
      rw [sX9_isBookT h1 hnb hb, b_bi, tX9_trouble_13]
      try simp only [k_lit, k_nN, k_ofN]
      simp (disch := omega) only [i_leT, i_leF, i_ltT, i_ltF, i_eqT, i_eqF, i_okT, i_n1, i_n2, i_n3, i_n4, i_n5, i_n6, i_n7, i_n8, k_cl, if_true, if_false]
      have ht : ¬ vb nb t := fun c => hv ⟨⟨a, ha, rfl⟩, ⟨b, hb, rfl⟩, c⟩
      rw [sX9_isBookF h1 hnb ht, b_bi, tX9_trouble_21]
      try simp only [k_lit, k_nN, k_ofN]
      simp (disch := omega) only [i_leT, i_leF, i_ltT, i_ltF, i_eqT, i_eqF, i_okT, i_n1, i_n2, i_n3, i_n4, i_n5, i_n6, i_n7, i_n8, k_cl, if_true, if_false]
    · rw [sX9_isBookF h1 hnb hl, b_bi, tX9_trouble_13]
      try simp only [k_lit, k_nN, k_ofN]
      simp (disch := omega) only [i_leT, i_leF, i_ltT, i_ltF, i_eqT, i_eqF, i_okT, i_n1, i_n2, i_n3, i_n4, i_n5, i_n6, i_n7, i_n8, k_cl, if_true, if_false]
  · rw [sX9_isReaderF h2 hnr hr, b_bi, tX9_trouble_5]
    try simp only [k_lit, k_nN, k_ofN]
    simp (disch := omega) only [i_leT, i_leF, i_ltT, i_ltF, i_eqT, i_eqF, i_okT, i_n1, i_n2, i_n3, i_n4, i_n5, i_n6, i_n7, i_n8, k_cl, if_true, if_false]
