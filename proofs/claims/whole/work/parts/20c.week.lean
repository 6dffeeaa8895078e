/-! ===== the loops of the class's week ===== -/
theorem Rd_in {nb nr : Nat} {pg wn : Nat → Int32} {s : aMem} {rem f p r l G : Nat} {path : Nat → Nat} {o : Nat → Int32} (hB : XB nb nr pg wn s) (hN : NdX nb nr pg wn s rem f) (hp : p + (rem + 1) = nr) (hr : r < nr) (hl : l < nb) (hd : dnB path p r = false) (hG : G < 2 ^ nr) (hpc : pcN 8 G = p) (hGd : ∀ r, r < nr → G.testBit r = dnB path p r) (ho : ∀ b, b < nb → o b = nN ∨ ∃ r, r < nr ∧ o b = nI r) {z : Nat} (hz : ∀ t, t < nb → z.testBit t = canE nb pg o (144 * r + 12 * l + t)) (hz4 : z < 2 ^ nb) {v4 v5 : Int32} : ∀ m j t σ, j + m = 12 → j ≤ nb → wX nb nr s t p path o → stX (20100 - 12 * (p + 1) + j) t σ → ∃ u, a_run none shp (pX7_tryReader (fWK (3 * rem + f + 2))) 73 [some (.ref 30), some (.int (nI p)), some (.int (nI (G ||| 2 ^ r))), some (.int (nI r)), some (.int v4), some (.int v5), some (.int (nI l)), some (.int (nI z)), some (.int (nI j))] [] t = a_run none shp (pX7_tryReader (fWK (3 * rem + f + 2))) 19 [some (.ref 30), some (.int (nI p)), some (.int (nI (G ||| 2 ^ r))), some (.int (nI r)), some (.int v4), some (.int v5), some (.int (nI (l + 1))), none, none] [] u ∧ wX nb nr s u p path o ∧ stX (20100 - 12 * p) u (wlp nb nr pg wn (wnd nb nr pg wn rem) p path o m (144 * r + 12 * l + j) σ) := by
  obtain ⟨⟨hnb, hnr⟩, b1, r1, -⟩ := id hB
  have dec : ∀ j, j < 12 → eR (144 * r + 12 * l + j) = r ∧ eL (144 * r + 12 * l + j) = l ∧ eT (144 * r + 12 * l + j) = j := by
    intro j hj
    unfold eR eL eT
    omega
  have no : ∀ j, nb ≤ j → j < 12 → canE nb pg o (144 * r + 12 * l + j) = false := by
    intro j h1 h2
    unfold canE
    rw [(dec j h2).2.2]
    have : ¬ j < nb := by omega
    simp [this]
  intro m
  induction m with
  | zero =>
    intro j t σ hj hjn hw hst
    have : nb = 12 := by omega
    refine ⟨t, ?_, hw, stX_mono hst (by omega)⟩
    rw [tX7_tryReader_73, hw.1.1 12 0 (by decide) (by decide), b1]
    try simp only [k_lit, k_nN, k_ofN, nI_add]
    simp (disch := omega) only [i_leT, i_leF, i_ltT, i_ltF, i_eqT, i_eqF, i_okT, i_n1, i_n2, i_n3, i_n4, i_n5, i_n6, i_n7, i_n8, k_cl, if_true, if_false]
  | succ m ih =>
    intro j t σ hj hjn hw hst
    have stop : (∀ k, j ≤ k → k < 12 → canE nb pg o (144 * r + 12 * l + k) = false) → wlp nb nr pg wn (wnd nb nr pg wn rem) p path o (m + 1) (144 * r + 12 * l + j) σ = σ := by
      intro h
      refine wlp_no _ _ _ (fun k h1 h2 => ?_)
      have := h (k - (144 * r + 12 * l)) (by omega) (by omega)
      rw [show 144 * r + 12 * l + (k - (144 * r + 12 * l)) = k by omega] at this
      rw [this, Bool.and_false]
    rw [tX7_tryReader_73, hw.1.1 12 0 (by decide) (by decide), b1]
    try simp only [k_lit, k_nN, k_ofN, nI_add]
    by_cases ej : nb ≤ j
    · rw [i_leT ej (by omega), stop (fun k h1 h2 => no k (by omega) h2)]
      exact ⟨t, rfl, hw, stX_mono hst (by omega)⟩
    · rw [i_leF (by omega) (by omega)]
      by_cases ez : z = 0
      · subst ez
        simp (disch := omega) only [i_leT, i_leF, i_ltT, i_ltF, i_eqT, i_eqF, i_okT, i_n1, i_n2, i_n3, i_n4, i_n5, i_n6, i_n7, i_n8, k_cl, if_true, if_false]
        rw [stop (fun k h1 h2 => ?_)]
        · exact ⟨t, rfl, hw, stX_mono hst (by omega)⟩
        · by_cases ek : k < nb
          · rw [← hz k ek, Nat.zero_testBit]
          · exact no k (by omega) h2
      · have hz5 := lt12 hz4 hnb
        simp (disch := omega) only [i_leT, i_leF, i_ltT, i_ltF, i_eqT, i_eqF, i_okT, i_n1, i_n2, i_n3, i_n4, i_n5, i_n6, i_n7, i_n8, k_cl, if_true, if_false]
        rw [k_holds z j (by omega) (by omega), b_bi, tX7_tryReader_97, hz j (by omega), tX7_tryReader_111]
        try simp only [k_lit, k_nN, k_ofN, nI_add]
        have hwl : wlp nb nr pg wn (wnd nb nr pg wn rem) p path o (m + 1) (144 * r + 12 * l + j) σ = wlp nb nr pg wn (wnd nb nr pg wn rem) p path o m (144 * r + 12 * l + (j + 1)) (if (!dnB path p (eR (144 * r + 12 * l + j)) && canE nb pg o (144 * r + 12 * l + j)) = true then wch nr wn (wnd nb nr pg wn rem) p path o (144 * r + 12 * l + j) σ else σ) := rfl
        obtain ⟨d1, d2, d3⟩ := dec j (by omega)
        rw [hwl, d1, hd]
        cases ec : canE nb pg o (144 * r + 12 * l + j)
        · simp only [Bool.toNat_false, Bool.and_false, Bool.false_eq_true, if_false]
          simp (disch := omega) only [i_leT, i_leF, i_ltT, i_ltF, i_eqT, i_eqF, i_okT, i_n1, i_n2, i_n3, i_n4, i_n5, i_n6, i_n7, i_n8, k_cl, if_true, if_false]
          exact ih (j + 1) t σ (by omega) (by omega) hw (stX_mono hst (by omega))
        · simp only [Bool.toNat_true, Bool.not_false, Bool.and_self, if_true]
          simp (disch := omega) only [i_leT, i_leF, i_ltT, i_ltF, i_eqT, i_eqF, i_okT, i_n1, i_n2, i_n3, i_n4, i_n5, i_n6, i_n7, i_n8, k_cl, if_true, if_false]
          obtain ⟨u, hu, wu, su⟩ := wX_try (e := 144 * r + 12 * l + j) (G := G) (B := 20100 - 12 * (p + 1) + j) hB hN hp (by rw [d1]; exact hr) ec (by rw [d1]; exact hd) hG hpc hGd hw hst (by omega) (by omega) (by omega)
          rw [d1, d2, d3] at hu
          rw [hu, b_bv, tX7_tryReader_111]
          try simp only [k_lit, k_nN, k_ofN, nI_add]
          exact ih (j + 1) u _ (by omega) (by omega) wu (stX_mono su (by omega))
theorem Rd_l {nb nr : Nat} {pg wn : Nat → Int32} {s : aMem} {rem f p r G : Nat} {path : Nat → Nat} {o : Nat → Int32} (hB : XB nb nr pg wn s) (hN : NdX nb nr pg wn s rem f) (hp : p + (rem + 1) = nr) (hr : r < nr) (hd : dnB path p r = false) (hG : G < 2 ^ nr) (hpc : pcN 8 G = p) (hGd : ∀ r, r < nr → G.testBit r = dnB path p r) (ho : ∀ b, b < nb → o b = nN ∨ ∃ r, r < nr ∧ o b = nI r) : ∀ m l t σ, l + m = 12 → l ≤ nb → wX nb nr s t p path o → stX (20100 - 12 * p) t σ → ∃ u, a_run none shp (pX7_tryReader (fWK (3 * rem + f + 2))) 19 [some (.ref 30), some (.int (nI p)), some (.int (nI (G ||| 2 ^ r))), some (.int (nI r)), some (.int (nI (oset nb o r))), some (.int (nI (oset nb o 5))), some (.int (nI l)), none, none] [] t = some (.inl none, u) ∧ wX nb nr s u p path o ∧ stX (20100 - 12 * p) u (wlp nb nr pg wn (wnd nb nr pg wn rem) p path o (12 * m) (144 * r + 12 * l) σ) := by
  obtain ⟨⟨hnb, hnr⟩, b1, r1, hfw, hpg, -⟩ := id hB
  have dec : ∀ l j, l < 12 → j < 12 → eR (144 * r + 12 * l + j) = r ∧ eL (144 * r + 12 * l + j) = l ∧ eT (144 * r + 12 * l + j) = j := by
    intro l j hl hj
    unfold eR eL eT
    omega
  intro m
  induction m with
  | zero =>
    intro l t σ hl hln hw hst
    have : nb = 12 := by omega
    refine ⟨t, ?_, hw, hst⟩
    rw [tX7_tryReader_19, hw.1.1 12 0 (by decide) (by decide), b1]
    try simp only [k_lit, k_nN, k_ofN]
    simp (disch := omega) only [i_leT, i_leF, i_ltT, i_ltF, i_eqT, i_eqF, i_okT, i_n1, i_n2, i_n3, i_n4, i_n5, i_n6, i_n7, i_n8, k_cl, if_true, if_false]
  | succ m ih =>
    intro l t σ hl hln hw hst
    rw [tX7_tryReader_19, hw.1.1 12 0 (by decide) (by decide), b1]
    try simp only [k_lit, k_nN, k_ofN]
    by_cases el2 : nb ≤ l
    · rw [i_leT el2 (by omega), wlp_no _ _ _ (fun k h1 h2 => ?_)]
      · exact ⟨t, rfl, hw, hst⟩
      · have hk : canE nb pg o k = false := by
          unfold canE
          have : ¬ eL k < nb := by
            unfold eL
            omega
          simp [this]
        rw [hk, Bool.and_false]
    · rw [i_leF (by omega) (by omega)]
      cases σ with
      | none =>
        obtain ⟨n, h1, h2, h3⟩ := id hst
        rw [h3, i_ltT h1 (by omega), wlp_none]
        exact ⟨t, rfl, hw, hst⟩
      | some q =>
        obtain ⟨s1, s2, -⟩ := id hst
        rw [s2, i_ltF s1 (by omega), k_holds _ l (by have := lt12 (oset_lt nb o r) hnb; omega) (by omega), b_bi, tX7_tryReader_48]
        try simp only [k_lit, k_nN, k_ofN]
        rw [show 12 * (m + 1) = 12 + 12 * m by omega, wlp_app]
        have hxl : (oset nb o r).testBit l = decide (o l = nI r) := by
          rw [oset_p, ob (by omega), plc_r (by omega)]
        have hz5 : ∀ j, j < nb → (oset nb o 5).testBit j = decide (o j = nN) := by
          intro j hj
          rw [oset_p, ob hj, plc_5]
        have fin2 : ∀ (z : Nat), (∀ j, j < nb → z.testBit j = canE nb pg o (144 * r + 12 * l + j)) → z < 2 ^ nb → ∃ u, a_run none shp (pX7_tryReader (fWK (3 * rem + f + 2))) 73 [some (.ref 30), some (.int (nI p)), some (.int (nI (G ||| 2 ^ r))), some (.int (nI r)), some (.int (nI (oset nb o r))), some (.int (nI (oset nb o 5))), some (.int (nI l)), some (.int (nI z)), some (.int (nI 0))] [] t = some (.inl none, u) ∧ wX nb nr s u p path o ∧ stX (20100 - 12 * p) u (wlp nb nr pg wn (wnd nb nr pg wn rem) p path o (12 * m) (144 * r + 12 * l + 12) (wlp nb nr pg wn (wnd nb nr pg wn rem) p path o 12 (144 * r + 12 * l) (some q))) := by
          intro z hz1 hz2
          obtain ⟨u, hu, wu, su⟩ := Rd_in (l := l) (v4 := nI (oset nb o r)) (v5 := nI (oset nb o 5)) hB hN hp hr (by omega) hd hG hpc hGd ho hz1 hz2 12 0 t (some q) (by omega) (by omega) hw hst
          rw [hu]
          have := ih (l + 1) u _ (by omega) (by omega) wu su
          rw [show 144 * r + 12 * (l + 1) = 144 * r + 12 * l + 12 by omega] at this
          exact this
        by_cases e1 : o l = nI r
        · rw [hxl]
          simp only [e1, decide_true, Bool.toNat_true]
          simp (disch := omega) only [i_leT, i_leF, i_ltT, i_ltF, i_eqT, i_eqF, i_okT, i_n1, i_n2, i_n3, i_n4, i_n5, i_n6, i_n7, i_n8, k_cl, if_true, if_false]
          rw [hw.1.1 20 l (by decide) (by simp), hfw l (by omega)]
          rw [k_and]
          refine fin2 _ (fun j hj => ?_) (Nat.and_lt_two_pow _ (oset_lt nb o 5))
          obtain ⟨d1, d2, d3⟩ := dec l j (by omega) (by omega)
          rw [Nat.testBit_and, msk_bit, hz5 j hj]
          unfold canE
          rw [d1, d2, d3]
          have hl2 : l < nb := by omega
          simp only [hj, hl2, decide_true, Bool.true_and]
          unfold tro
          rw [if_pos e1, hpg l hl2, hpg j hj]
          by_cases e2 : o j = nN
          · rw [if_pos e2]
            by_cases e3 : pg j < pg l
            · simp [e2, e3]
            · simp [e3]
          · rw [if_neg e2]
            simp [e2]
        · rw [hxl]
          simp only [e1, decide_false, Bool.toNat_false]
          simp (disch := omega) only [i_leT, i_leF, i_ltT, i_ltF, i_eqT, i_eqF, i_okT, i_n1, i_n2, i_n3, i_n4, i_n5, i_n6, i_n7, i_n8, k_cl, if_true, if_false]
          refine fin2 0 (fun j hj => ?_) (Nat.two_pow_pos nb)
          obtain ⟨d1, d2, d3⟩ := dec l j (by omega) (by omega)
          rw [Nat.zero_testBit]
          unfold canE
          rw [d1, d2, d3]
          unfold tro
          rw [if_neg e1]
          simp
theorem wX_nd {nb nr : Nat} {pg wn : Nat → Int32} {s : aMem} {f : Nat} (hB : XB nb nr pg wn s) : ∀ rem, NdX nb nr pg wn s rem f := by
  obtain ⟨⟨hnb, hnr⟩, b1, r1, hfw, hpg, -⟩ := id hB
  have h2r : 2 ^ nr ≤ 32 := by
    have : 2 ^ nr ≤ 2 ^ 5 := Nat.pow_le_pow_right (by decide) hnr
    omega
  intro rem
  induction rem with
  | zero =>
    intro p path o G t q hp hG hpc hGd hw hst
    refine ⟨t, ?_, hw, stX_mono hst (by omega)⟩
    have hall : ∀ r, r < nr → G.testBit r = true := by
      intro r hr
      have hsub : ∀ b, b < 8 → G.testBit b = true → (2 ^ nr - 1).testBit b = true := by
        intro b _ hb
        by_cases e : b < nr
        · exact all_bit e
        · rw [set_hi hG (by omega)] at hb; cases hb
      rw [(pcN_mono 8 hsub).2 (by rw [pcN_all (by omega)]; omega) r (by omega)]
      exact all_bit hr
    have key : ∀ m r, r + m = nr → a_run none shp (pX7_tryPlace (fWK (3 * 0 + f))) 13 [some (.ref 30), some (.int (nI p)), some (.int (nI G)), some (.int (nI r))] [] t = some (.inl none, t) := by
      intro m
      induction m with
      | zero =>
        intro r hr
        rw [tX7_tryPlace_13, hw.1.1 12 1 (by decide) (by decide), r1]
        try simp only [k_lit, k_nN, k_ofN]
        simp (disch := omega) only [i_leT, i_leF, i_ltT, i_ltF, i_eqT, i_eqF, i_okT, i_n1, i_n2, i_n3, i_n4, i_n5, i_n6, i_n7, i_n8, k_cl, if_true, if_false]
      | succ m ih =>
        intro r hr
        rw [tX7_tryPlace_13, hw.1.1 12 1 (by decide) (by decide), r1]
        try simp only [k_lit, k_nN, k_ofN]
        rw [i_leF (by omega) (by omega), ib0F (hall r (by omega)) (by omega) (by omega), tX7_tryPlace_43]
        try simp only [k_lit, k_nN, k_ofN, nI_add]
        exact ih (r + 1) (by omega)
    rw [tX7_tryPlace_5]
    try simp only [k_lit, k_nN, k_ofN]
    by_cases e : p < 5
    · simp (disch := omega) only [i_leT, i_leF, i_ltT, i_ltF, i_eqT, i_eqF, i_okT, i_n1, i_n2, i_n3, i_n4, i_n5, i_n6, i_n7, i_n8, k_cl, if_true, if_false]
      exact key nr 0 (by omega)
    · simp (disch := omega) only [i_leT, i_leF, i_ltT, i_ltF, i_eqT, i_eqF, i_okT, i_n1, i_n2, i_n3, i_n4, i_n5, i_n6, i_n7, i_n8, k_cl, if_true, if_false]
  | succ rem ihn =>
    intro p path o G t q hp hG hpc hGd hw hst
    have key : ∀ m r t σ, r + m = nr → wX nb nr s t p path o → stX (20100 - 12 * p) t σ → ∃ u, a_run none shp (pX7_tryPlace (fWK (3 * (rem + 1) + f))) 13 [some (.ref 30), some (.int (nI p)), some (.int (nI G)), some (.int (nI r))] [] t = some (.inl none, u) ∧ wX nb nr s u p path o ∧ stX (20100 - 12 * p) u (wlp nb nr pg wn (wnd nb nr pg wn rem) p path o (144 * m) (144 * r) σ) := by
      intro m
      induction m with
      | zero =>
        intro r t σ hr hw hst
        refine ⟨t, ?_, hw, hst⟩
        rw [tX7_tryPlace_13, hw.1.1 12 1 (by decide) (by decide), r1]
        try simp only [k_lit, k_nN, k_ofN]
        simp (disch := omega) only [i_leT, i_leF, i_ltT, i_ltF, i_eqT, i_eqF, i_okT, i_n1, i_n2, i_n3, i_n4, i_n5, i_n6, i_n7, i_n8, k_cl, if_true, if_false]
      | succ m ih =>
        intro r t σ hr hw hst
        rw [show 144 * (m + 1) = 144 + 144 * m by omega, wlp_app, tX7_tryPlace_13, hw.1.1 12 1 (by decide) (by decide), r1]
        try simp only [k_lit, k_nN, k_ofN]
        rw [i_leF (by omega) (by omega)]
        cases eG : G.testBit r
        · rw [ib0T eG (by omega) (by omega), k_one (by omega), k_or, show 3 * (rem + 1) + f = (3 * rem + f + 2) + 1 by omega, uRd, tX7_tryReader]
          try simp only [k_lit, k_nN, k_ofN]
          have hs := Own_s hnb hw.2.1
          rw [i_okT (by omega) (by omega), k_cl (by omega), (hs r (by omega)).1, (hs 5 (by omega)).1]
          obtain ⟨u, hu, wu, su⟩ := Rd_l (r := r) hB ihn hp (by omega) (by rw [← hGd r (by omega), eG]) hG hpc hGd hw.2.1.2.2 12 0 t σ (by omega) (by omega) hw hst
          rw [hu, b_bv, tX7_tryPlace_43]
          try simp only [k_lit, k_nN, k_ofN, nI_add]
          have := ih (r + 1) u _ (by omega) wu su
          rw [show 144 * (r + 1) = 144 * r + 144 by omega, show 3 * (rem + 1) + f = (3 * rem + f + 2) + 1 by omega] at this
          exact this
        · rw [ib0F eG (by omega) (by omega), tX7_tryPlace_43]
          try simp only [k_lit, k_nN, k_ofN, nI_add]
          rw [wlp_no 144 (144 * r) σ (fun k h1 h2 => ?_)]
          · have := ih (r + 1) t σ (by omega) hw hst
            rw [show 144 * (r + 1) = 144 * r + 144 by omega] at this
            exact this
          · have hk : eR k = r := by
              unfold eR
              omega
            rw [hk, ← hGd r (by omega), eG]
            rfl
    rw [tX7_tryPlace_5]
    try simp only [k_lit, k_nN, k_ofN]
    simp (disch := omega) only [i_leT, i_leF, i_ltT, i_ltF, i_eqT, i_eqF, i_okT, i_n1, i_n2, i_n3, i_n4, i_n5, i_n6, i_n7, i_n8, k_cl, if_true, if_false]
    obtain ⟨u, hu, wu, su⟩ := key nr 0 t (some q) (by omega) hw (stX_mono hst (by omega))
    exact ⟨u, hu, wu, su⟩
