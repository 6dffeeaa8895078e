/-! ===== image, restore ===== -/
theorem Own_cg {nb nr : Nat} {sets sets' o o' : Nat → Int32} (h : Own nb nr sets o) (h1 : ∀ r, r < 6 → sets' r = sets r) (h2 : ∀ b, b < nb → o' b = o b) : Own nb nr sets' o' := by
  refine ⟨fun r hr => ?_, ?_, fun b hb => ?_⟩
  · rw [h1 r (by omega), h.1 r hr]
    exact congrArg nI (msk_congr (fun b hb => by rw [h2 b hb]))
  · rw [h1 5 (by omega), h.2.1]
    exact congrArg nI (msk_congr (fun b hb => by rw [h2 b hb]))
  · rw [h2 b hb]; exact h.2.2 b hb
theorem Stnd_cg {nb nr : Nat} {o0 sets sets' o o' mx mx' mm mm' ev ev' em em' : Nat → Int32} {cx cm kx km : Int32} (hnb : nb ≤ 12) (h : Stnd nb nr o0 sets o mx mm ev em cx cm kx km) (h1 : ∀ r, r < 6 → sets' r = sets r) (h2 : ∀ b, b < 12 → o' b = o b) (h3 : ∀ j, j < 800 → mx' j = mx j) (h4 : ∀ j, j < 800 → mm' j = mm j) (h5 : ∀ j, j < 24 → ev' j = ev j) (h6 : ∀ j, j < 8 → em' j = em j) : Stnd nb nr o0 sets' o' mx' mm' ev' em' cx cm kx km := by
  obtain ⟨hO, nm, ne, hm, he, a1, a2, a3, a4, hmv, ⟨w, w0, w1, wc⟩, hev⟩ := h
  refine ⟨Own_cg hO h1 (fun b hb => h2 b (by omega)), nm, ne, hm, he, a1, a2, a3, a4, fun j hj => ?_, ⟨w, w0, fun b hb => ?_, fun m hk => ?_⟩, fun e hl => ?_⟩
  · rw [h3 j (by omega), h4 j (by omega)]; exact hmv j hj
  · rw [h2 b (by omega)]; exact w1 b hb
  · obtain ⟨r, l, t, q, b1, b2, b3, b4, b5, b6, b7, b8, b9, b10⟩ := wc m hk
    exact ⟨r, l, t, q, b1, b2, b3, b4, b5, by rw [h4 _ (by omega)]; exact b6, by rw [h4 _ (by omega)]; exact b7, by rw [h4 _ (by omega)]; exact b8, by rw [h4 _ (by omega)]; exact b9, b10⟩
  · obtain ⟨r, l, t, b1, b2, b3, b4, b5, b6, b7, b8⟩ := hev e hl
    exact ⟨r, l, t, b1, b2, b3, b4, by rw [h5 _ (by omega)]; exact b5, by rw [h5 _ (by omega)]; exact b6, by rw [h5 _ (by omega)]; exact b7, by rw [h6 _ (by omega)]; exact b8⟩
/-- a call that gives nothing back -/
def agv (fx fm : aMem → Option aRes) (s : aMem) : Prop := ∃ s1, fx s = some (.inl none, s1) ∧ s1.2.2 = s.2.2 ∧ ∃ t, fm s1 = some (.inl none, t) ∧ Inv t ∧ t.2.2 = s.2.2
theorem tk22_26 (s : aMem) : ∃ u, fX4_take [.ref 26, .ref 22] s = some (.inl none, u) ∧ fr [27, 28, 29] [(26, 2), (26, 4)] s u ∧ (∀ j, j < 6 → u.1 27 j = s.1 23 j) ∧ (∀ j, j < 800 → u.1 28 j = s.1 24 j) ∧ (∀ j, j < 24 → u.1 29 j = s.1 25 j) ∧ u.1 26 2 = s.1 22 2 ∧ u.1 26 4 = s.1 22 4 := by
  obtain ⟨s1, e1, f1, v1⟩ := p_acp (s := s) (a := 23) (b := 27) (n := 6) rfl rfl (by omega) (by omega) (by omega)
  obtain ⟨s2, e2, f2, v2⟩ := p_acp (s := s1) (a := 24) (b := 28) (n := 800) rfl rfl (by omega) (by omega) (by omega)
  obtain ⟨s3, e3, f3, v3⟩ := p_acp (s := s2) (a := 25) (b := 29) (n := 24) rfl rfl (by omega) (by omega) (by omega)
  have g1 : fr [27, 28, 29] [(26, 2), (26, 4)] s s1 := fr_mono f1 (by simp) (by simp)
  have g2 : fr [27, 28, 29] [(26, 2), (26, 4)] s1 s2 := fr_mono f2 (by simp) (by simp)
  have g3 : fr [27, 28, 29] [(26, 2), (26, 4)] s2 s3 := fr_mono f3 (by simp) (by simp)
  have g : fr [27, 28, 29] [(26, 2), (26, 4)] s s3 := fr_trans g1 (fr_trans g2 g3)
  refine ⟨a_si (a_si s3 26 2 (s3.1 22 2)) 26 4 (s3.1 22 4), ?_, fr_si (fr_si g (by simp)) (by simp), fun j hj => ?_, fun j hj => ?_, fun j hj => ?_, ?_, ?_⟩
  · rw [tX4_takei26_22]
    try simp only [k_lit, k_nN, k_ofN]
    rw [e1, b_bv, tX4_takei26_22_15]
    try simp only [k_lit, k_nN, k_ofN]
    rw [e2, b_bv, tX4_takei26_22_31]
    try simp only [k_lit, k_nN, k_ofN]
    rw [e3, b_bv, tX4_takei26_22_46]
  · simp only [m_si]
    simp only [show ((27 : Nat) = 26) = False from by simp, if_false]
    rw [f3.1 27 j (by decide) (by simp), f2.1 27 j (by decide) (by simp), v1, if_pos hj]
  · simp only [m_si]
    simp only [show ((28 : Nat) = 26) = False from by simp, if_false]
    rw [f3.1 28 j (by decide) (by simp), v2, if_pos hj, f1.1 24 j (by decide) (by simp)]
  · simp only [m_si]
    simp only [show ((29 : Nat) = 26) = False from by simp, if_false]
    rw [v3, if_pos hj, f2.1 25 j (by decide) (by simp), f1.1 25 j (by decide) (by simp)]
  · simp [m_si, g.1 22 2 (by decide) (by decide)]
  · simp [m_si, g.1 22 4 (by decide) (by decide)]
theorem tk26_22 (s : aMem) : ∃ u, fX4_take [.ref 22, .ref 26] s = some (.inl none, u) ∧ fr [23, 24, 25] [(22, 2), (22, 4)] s u ∧ (∀ j, j < 6 → u.1 23 j = s.1 27 j) ∧ (∀ j, j < 800 → u.1 24 j = s.1 28 j) ∧ (∀ j, j < 24 → u.1 25 j = s.1 29 j) ∧ u.1 22 2 = s.1 26 2 ∧ u.1 22 4 = s.1 26 4 := by
  obtain ⟨s1, e1, f1, v1⟩ := p_acp (s := s) (a := 27) (b := 23) (n := 6) rfl rfl (by omega) (by omega) (by omega)
  obtain ⟨s2, e2, f2, v2⟩ := p_acp (s := s1) (a := 28) (b := 24) (n := 800) rfl rfl (by omega) (by omega) (by omega)
  obtain ⟨s3, e3, f3, v3⟩ := p_acp (s := s2) (a := 29) (b := 25) (n := 24) rfl rfl (by omega) (by omega) (by omega)
  have g1 : fr [23, 24, 25] [(22, 2), (22, 4)] s s1 := fr_mono f1 (by simp) (by simp)
  have g2 : fr [23, 24, 25] [(22, 2), (22, 4)] s1 s2 := fr_mono f2 (by simp) (by simp)
  have g3 : fr [23, 24, 25] [(22, 2), (22, 4)] s2 s3 := fr_mono f3 (by simp) (by simp)
  have g : fr [23, 24, 25] [(22, 2), (22, 4)] s s3 := fr_trans g1 (fr_trans g2 g3)
  refine ⟨a_si (a_si s3 22 2 (s3.1 26 2)) 22 4 (s3.1 26 4), ?_, fr_si (fr_si g (by simp)) (by simp), fun j hj => ?_, fun j hj => ?_, fun j hj => ?_, ?_, ?_⟩
  · rw [tX4_takei22_26]
    try simp only [k_lit, k_nN, k_ofN]
    rw [e1, b_bv, tX4_takei22_26_15]
    try simp only [k_lit, k_nN, k_ofN]
    rw [e2, b_bv, tX4_takei22_26_31]
    try simp only [k_lit, k_nN, k_ofN]
    rw [e3, b_bv, tX4_takei22_26_46]
  · simp only [m_si]
    simp only [show ((23 : Nat) = 22) = False from by simp, if_false]
    rw [f3.1 23 j (by decide) (by simp), f2.1 23 j (by decide) (by simp), v1, if_pos hj]
  · simp only [m_si]
    simp only [show ((24 : Nat) = 22) = False from by simp, if_false]
    rw [f3.1 24 j (by decide) (by simp), v2, if_pos hj, f1.1 28 j (by decide) (by simp)]
  · simp only [m_si]
    simp only [show ((25 : Nat) = 22) = False from by simp, if_false]
    rw [v3, if_pos hj, f2.1 29 j (by decide) (by simp), f1.1 29 j (by decide) (by simp)]
  · simp [m_si, g.1 26 2 (by decide) (by decide)]
  · simp [m_si, g.1 26 4 (by decide) (by decide)]
theorem op_image {s : aMem} (hI : Inv s) : agv (fX8_image [.ref 0]) (fX9_image [.ref 43]) s := by
  obtain ⟨nb, nr, c, hL, hN, hG, hR, hT, hC⟩ := id hI
  obtain ⟨⟨hnb, hnr⟩, -⟩ := id hL
  obtain ⟨u, eu, fu, ua, ub, uc, ud, ue⟩ := tk22_26 s
  obtain ⟨v1, e1, f1, g1⟩ := c45_71 (a_si (a_si (a_si (a_si (a_si u 0 10 (nI 1)) 43 0 (nI 0)) 43 56 (nI 1)) 43 57 (s.1 43 35)) 43 58 (s.1 43 53))
  obtain ⟨v2, e2, f2, g2⟩ := c59_72 v1
  obtain ⟨v3, e3, f3, g3⟩ := c69_73 v2
  have F0 : fr [27, 28, 29, 71, 72, 73] [(26, 2), (26, 4), (0, 10), (43, 0), (43, 56), (43, 57), (43, 58)] s u := fr_mono fu (by simp) (by simp)
  have F1 : fr [27, 28, 29, 71, 72, 73] [(26, 2), (26, 4), (0, 10), (43, 0), (43, 56), (43, 57), (43, 58)] _ v1 := fr_mono f1 (by simp) (by simp)
  have F2 : fr [27, 28, 29, 71, 72, 73] [(26, 2), (26, 4), (0, 10), (43, 0), (43, 56), (43, 57), (43, 58)] v1 v2 := fr_mono f2 (by simp) (by simp)
  have F3 : fr [27, 28, 29, 71, 72, 73] [(26, 2), (26, 4), (0, 10), (43, 0), (43, 56), (43, 57), (43, 58)] v2 v3 := fr_mono f3 (by simp) (by simp)
  have Fw := fr_si (fr_si (fr_si (fr_si (fr_si F0 (k := 0) (j := 10) (x := nI 1) (by simp)) (k := 43) (j := 0) (x := nI 0) (by simp)) (k := 43) (j := 56) (x := nI 1) (by simp)) (k := 43) (j := 57) (x := s.1 43 35) (by simp)) (k := 43) (j := 58) (x := s.1 43 53) (by simp)
  have Fr := fr_trans Fw (fr_trans F1 (fr_trans F2 F3))
  have F := fx_fr Fr
  refine ⟨a_si u 0 10 (nI 1), ?_, fu.2.2, v3, ?_, ?_, Fr.2.2⟩
  · rw [tX8_image, eu, b_bv]
    rfl
  · rw [tX9_image]
    try simp only [k_lit, k_nN, k_ofN]
    simp only [m_si, show ((43 : Nat) = 0) = False from by simp, if_false]
    rw [fu.1 43 35 (by decide) (by decide), fu.1 43 53 (by decide) (by decide), e1, b_bv, tX9_image_38, e2, b_bv, tX9_image_50, e3, b_bv]
  · refine ⟨nb, nr, c, LibI_fx hL F rfl rfl, NowI_fx hN F rfl rfl, .inr ⟨?_, ?_, ?_⟩, RowI_fx hR F rfl rfl, TapI_fx hT F rfl rfl, CntI_fx hC F rfl⟩
    · rw [f3.1 0 10 (by decide) (by decide), f2.1 0 10 (by decide) (by decide), f1.1 0 10 (by decide) (by decide)]
      simp [m_si]
    · rw [f3.1 43 56 (by decide) (by decide), f2.1 43 56 (by decide) (by decide), f1.1 43 56 (by decide) (by decide)]
      simp [m_si]
    · have x1 : v3.1 26 2 = s.1 22 2 := by
        rw [f3.1 26 2 (by decide) (by decide), f2.1 26 2 (by decide) (by decide), f1.1 26 2 (by decide) (by decide)]
        simpa [m_si] using ud
      have x2 : v3.1 26 4 = s.1 22 4 := by
        rw [f3.1 26 4 (by decide) (by decide), f2.1 26 4 (by decide) (by decide), f1.1 26 4 (by decide) (by decide)]
        simpa [m_si] using ue
      have x3 : v3.1 43 57 = s.1 43 35 := by
        rw [f3.1 43 57 (by decide) (by decide), f2.1 43 57 (by decide) (by decide), f1.1 43 57 (by decide) (by decide)]
        simp [m_si]
      have x4 : v3.1 43 58 = s.1 43 53 := by
        rw [f3.1 43 58 (by decide) (by decide), f2.1 43 58 (by decide) (by decide), f1.1 43 58 (by decide) (by decide)]
        simp [m_si]
      rw [x1, x2, x3, x4, fxA (ks := [46]) F rfl (k := 46) (by decide)]
      refine Stnd_cg hnb hN (fun r hr => ?_) (fun b hb => ?_) (fun j hj => ?_) (fun j hj => ?_) (fun j hj => ?_) (fun j hj => ?_)
      · rw [f3.1 27 r (by decide) (by simp), f2.1 27 r (by decide) (by simp), f1.1 27 r (by decide) (by simp)]
        simpa [m_si] using ua r hr
      · rw [f3.1 71 b (by decide) (by simp), f2.1 71 b (by decide) (by simp), g1 b hb]
        simpa [m_si] using fu.1 45 b (by decide) (by simp)
      · rw [f3.1 28 j (by decide) (by simp), f2.1 28 j (by decide) (by simp), f1.1 28 j (by decide) (by simp)]
        simpa [m_si] using ub j hj
      · rw [f3.1 72 j (by decide) (by simp), g2 j hj, f1.1 59 j (by decide) (by simp)]
        simpa [m_si] using fu.1 59 j (by decide) (by simp)
      · rw [f3.1 29 j (by decide) (by simp), f2.1 29 j (by decide) (by simp), f1.1 29 j (by decide) (by simp)]
        simpa [m_si] using uc j hj
      · rw [g3 j hj, f2.1 69 j (by decide) (by simp), f1.1 69 j (by decide) (by simp)]
        simpa [m_si] using fu.1 69 j (by decide) (by simp)
theorem op_restore {s : aMem} (hI : Inv s) : agn (fX8_restore [.ref 0]) (fX9_restore [.ref 43]) s := by
  obtain ⟨nb, nr, c, hL, hN, hG, hR, hT, hC⟩ := id hI
  obtain ⟨⟨hnb, hnr⟩, -⟩ := id hL
  rcases id hG with ⟨i1, i2⟩ | ⟨i1, i2, hS⟩
  · refine agn_q (r := nI 0) (s1 := s) hI ?_ (fr_rfl s) (fun s2 h2 => ⟨a_si s2 43 0 (nI 0), ?_, fr_si (fr_rfl s2) (.inr (by decide))⟩)
    · rw [tX8_restore]
      try simp only [k_lit, k_nN, k_ofN, i1]
      simp (disch := omega) only [i_leT, i_leF, i_ltT, i_ltF, i_eqT, i_eqF, i_okT, i_n1, i_n2, i_n3, i_n4, i_n5, i_n6, i_n7, i_n8, k_cl, if_true, if_false]
      simp
    · rw [tX9_restore]
      try simp only [k_lit, k_nN, k_ofN, scB h2 43 56 rfl rfl, i2]
      simp (disch := omega) only [i_leT, i_leF, i_ltT, i_ltF, i_eqT, i_eqF, i_okT, i_n1, i_n2, i_n3, i_n4, i_n5, i_n6, i_n7, i_n8, k_cl, if_true, if_false]
  · obtain ⟨u, eu, fu, ua, ub, uc, ud, ue⟩ := tk26_22 s
    obtain ⟨v1, e1, f1, g1⟩ := c71_45 (a_si (a_si (a_si u 43 0 (nI 0)) 43 35 (s.1 43 57)) 43 53 (s.1 43 58))
    obtain ⟨v2, e2, f2, g2⟩ := c72_59 v1
    obtain ⟨v3, e3, f3, g3⟩ := c73_69 v2
    have F0 : fr [23, 24, 25, 45, 59, 69] [(22, 2), (22, 4), (43, 0), (43, 35), (43, 53)] s u := fr_mono fu (by simp) (by simp)
    have F1 : fr [23, 24, 25, 45, 59, 69] [(22, 2), (22, 4), (43, 0), (43, 35), (43, 53)] _ v1 := fr_mono f1 (by simp) (by simp)
    have F2 : fr [23, 24, 25, 45, 59, 69] [(22, 2), (22, 4), (43, 0), (43, 35), (43, 53)] v1 v2 := fr_mono f2 (by simp) (by simp)
    have F3 : fr [23, 24, 25, 45, 59, 69] [(22, 2), (22, 4), (43, 0), (43, 35), (43, 53)] v2 v3 := fr_mono f3 (by simp) (by simp)
    have Fw := fr_si (fr_si (fr_si F0 (k := 43) (j := 0) (x := nI 0) (by simp)) (k := 43) (j := 35) (x := s.1 43 57) (by simp)) (k := 43) (j := 53) (x := s.1 43 58) (by simp)
    have Fr := fr_trans Fw (fr_trans F1 (fr_trans F2 F3))
    have F := fx_fr Fr
    refine ⟨nI 1, u, ?_, fu.2.2, v3, ?_, ?_, Fr.2.2⟩
    · rw [tX8_restore]
      try simp only [k_lit, k_nN, k_ofN, i1]
      simp (disch := omega) only [i_leT, i_leF, i_ltT, i_ltF, i_eqT, i_eqF, i_okT, i_n1, i_n2, i_n3, i_n4, i_n5, i_n6, i_n7, i_n8, k_cl, if_true, if_false]
      rw [eu, b_bv, fu.1 0 10 (by decide) (by decide), i1]
      simp
    · rw [tX9_restore]
      try simp only [k_lit, k_nN, k_ofN]
      rw [fu.1 43 56 (by decide) (by decide), i2, fu.1 43 57 (by decide) (by decide), fu.1 43 58 (by decide) (by decide)]
      simp (disch := omega) only [i_leT, i_leF, i_ltT, i_ltF, i_eqT, i_eqF, i_okT, i_n1, i_n2, i_n3, i_n4, i_n5, i_n6, i_n7, i_n8, k_cl, if_true, if_false]
      rw [e1, b_bv, tX9_restore_42, e2, b_bv, tX9_restore_54, e3, b_bv, tX9_restore_66]
      rfl
    · refine ⟨nb, nr, c, LibI_fx hL F rfl rfl, ?_, ImgI_fx hG F rfl rfl, RowI_fx hR F rfl rfl, TapI_fx hT F rfl rfl, CntI_fx hC F rfl⟩
      have x1 : v3.1 22 2 = s.1 26 2 := by
        rw [f3.1 22 2 (by decide) (by decide), f2.1 22 2 (by decide) (by decide), f1.1 22 2 (by decide) (by decide)]
        simpa [m_si] using ud
      have x2 : v3.1 22 4 = s.1 26 4 := by
        rw [f3.1 22 4 (by decide) (by decide), f2.1 22 4 (by decide) (by decide), f1.1 22 4 (by decide) (by decide)]
        simpa [m_si] using ue
      have x3 : v3.1 43 35 = s.1 43 57 := by
        rw [f3.1 43 35 (by decide) (by decide), f2.1 43 35 (by decide) (by decide), f1.1 43 35 (by decide) (by decide)]
        simp [m_si]
      have x4 : v3.1 43 53 = s.1 43 58 := by
        rw [f3.1 43 53 (by decide) (by decide), f2.1 43 53 (by decide) (by decide), f1.1 43 53 (by decide) (by decide)]
        simp [m_si]
      unfold NowI
      rw [x1, x2, x3, x4, fxA (ks := [46]) F rfl (k := 46) (by decide)]
      refine Stnd_cg hnb hS (fun r hr => ?_) (fun b hb => ?_) (fun j hj => ?_) (fun j hj => ?_) (fun j hj => ?_) (fun j hj => ?_)
      · rw [f3.1 23 r (by decide) (by simp), f2.1 23 r (by decide) (by simp), f1.1 23 r (by decide) (by simp)]
        simpa [m_si] using ua r hr
      · rw [f3.1 45 b (by decide) (by simp), f2.1 45 b (by decide) (by simp), g1 b hb]
        simpa [m_si] using fu.1 71 b (by decide) (by simp)
      · rw [f3.1 24 j (by decide) (by simp), f2.1 24 j (by decide) (by simp), f1.1 24 j (by decide) (by simp)]
        simpa [m_si] using ub j hj
      · rw [f3.1 59 j (by decide) (by simp), g2 j hj, f1.1 72 j (by decide) (by simp)]
        simpa [m_si] using fu.1 72 j (by decide) (by simp)
      · rw [f3.1 25 j (by decide) (by simp), f2.1 25 j (by decide) (by simp), f1.1 25 j (by decide) (by simp)]
        simpa [m_si] using uc j hj
      · rw [g3 j hj, f2.1 73 j (by decide) (by simp), f1.1 73 j (by decide) (by simp)]
        simpa [m_si] using fu.1 73 j (by decide) (by simp)
