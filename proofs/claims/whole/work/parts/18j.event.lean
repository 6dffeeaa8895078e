/-! ===== event ===== -/
theorem sX9_refuses2 {s : aMem} : fX9_refuses [.ref 43, .int (nI 2)] s = some (.inl (some (.int nN)), a_si s 51 2 (s.1 51 2 + nI 1)) := by
  rw [tX9_refuses]
  try simp only [k_lit, k_nN, k_ofN]
  simp (disch := omega) only [i_leT, i_leF, i_ltT, i_ltF, i_eqT, i_eqF, i_okT, i_n1, i_n2, i_n3, i_n4, i_n5, i_n6, i_n7, i_n8, k_cl, if_true, if_false]
theorem op_event {s : aMem} (hI : Inv s) (r l t : Int32) : agn (fX8_event [.ref 0, .int r, .int l, .int t]) (fX9_event [.ref 43, .int r, .int l, .int t]) s := by
  obtain ⟨nb, nr, c, hL, hN, hG, hR, hT, hC⟩ := id hI
  obtain ⟨⟨hnb, hnr⟩, ⟨b1, b2⟩, ⟨r1, r2⟩, -, -, -, -, -, -⟩ := id hL
  obtain ⟨hO, nm, ne, hm, he, cx, cm, kx, km, hmv, hh, hev⟩ := id hN
  -- refused by both
  have bad : fX8_event [.ref 0, .int r, .int l, .int t] s = some (.inl (some (.int nN)), a_si s 0 14 (s.1 0 14 + nI 1)) → (∀ s2 : aMem, s2.1 43 1 = nI nb → s2.1 43 2 = nI nr → s2.1 43 53 = nI ne → fX9_event [.ref 43, .int r, .int l, .int t] s2 = some (.inl (some (.int nN)), a_si (a_si s2 43 0 (nI 0)) 51 2 (s2.1 51 2 + nI 1))) → agn (fX8_event [.ref 0, .int r, .int l, .int t]) (fX9_event [.ref 43, .int r, .int l, .int t]) s := by
    intro hx hm2
    refine ⟨nN, _, hx, rfl, a_si (a_si (a_si s 0 14 (s.1 0 14 + nI 1)) 43 0 (nI 0)) 51 2 (s.1 51 2 + nI 1), ?_, inv_ref2 hI, rfl⟩
    rw [hm2 _ (by simpa [m_si] using b2) (by simpa [m_si] using r2) (by simpa [m_si] using km)]
    simp [m_si]
  -- the refusal of the model, at its four places
  have ref : ∀ s2 : aMem, a_bi (ρ := Option aRes) (fX9_refuses [.ref 43, .int (nI 2)] (a_si s2 43 0 (nI 0))) (fun r2 s1 => some (.inl (some (.int r2)), s1)) none (fun x s1 => some (.inr x, s1)) = some (.inl (some (.int nN)), a_si (a_si s2 43 0 (nI 0)) 51 2 (s2.1 51 2 + nI 1)) := by
    intro s2
    rw [sX9_refuses2, b_bi]
    simp [m_si]
  by_cases hv : vb nr r ∧ vb nb l ∧ vb nb t
  · obtain ⟨⟨a, ha, rfl⟩, ⟨b, hb, rfl⟩, ⟨d, hd, rfl⟩⟩ := hv
    have hx : fX8_event [.ref 0, .int (nI a), .int (nI b), .int (nI d)] s = a_run none shp pX8_event 21 [some (.ref 0), some (.int (nI a)), some (.int (nI b)), some (.int (nI d)), none] [.int (nI 1)] s := by
      rw [tX8_event, sX8_isReaderT r1 hnr ha, b_bi, tX8_event_5]
      try simp only [k_lit, k_nN, k_ofN]
      simp (disch := omega) only [i_leT, i_leF, i_ltT, i_ltF, i_eqT, i_eqF, i_okT, i_n1, i_n2, i_n3, i_n4, i_n5, i_n6, i_n7, i_n8, k_cl, if_true, if_false]
      rw [sX8_isBookT b1 hnb hb, b_bi, tX8_event_13]
      try simp only [k_lit, k_nN, k_ofN]
      simp (disch := omega) only [i_leT, i_leF, i_ltT, i_ltF, i_eqT, i_eqF, i_okT, i_n1, i_n2, i_n3, i_n4, i_n5, i_n6, i_n7, i_n8, k_cl, if_true, if_false]
      rw [sX8_isBookT b1 hnb hd, b_bi]
    have hmm : ∀ s2 : aMem, s2.1 43 1 = nI nb → s2.1 43 2 = nI nr → s2.1 43 53 = nI ne → ne ≠ 8 → fX9_event [.ref 43, .int (nI a), .int (nI b), .int (nI d)] s2 = a_run none shp pX9_event 35 [some (.ref 43), some (.int (nI a)), some (.int (nI b)), some (.int (nI d))] [.int (nI 1)] (a_si s2 43 0 (nI 0)) := by
      intro s2 q1 q2 q3 q4
      rw [tX9_event]
      try simp only [k_lit, k_nN, k_ofN, q3]
      simp (disch := omega) only [i_leT, i_leF, i_ltT, i_ltF, i_eqT, i_eqF, i_okT, i_n1, i_n2, i_n3, i_n4, i_n5, i_n6, i_n7, i_n8, k_cl, if_true, if_false]
      rw [sX9_isReaderT (nb := nr) (by simpa [m_si] using q2) hnr ha, b_bi, tX9_event_19]
      try simp only [k_lit, k_nN, k_ofN]
      simp (disch := omega) only [i_leT, i_leF, i_ltT, i_ltF, i_eqT, i_eqF, i_okT, i_n1, i_n2, i_n3, i_n4, i_n5, i_n6, i_n7, i_n8, k_cl, if_true, if_false]
      rw [sX9_isBookT (nb := nb) (by simpa [m_si] using q1) hnb hb, b_bi, tX9_event_27]
      try simp only [k_lit, k_nN, k_ofN]
      simp (disch := omega) only [i_leT, i_leF, i_ltT, i_ltF, i_eqT, i_eqF, i_okT, i_n1, i_n2, i_n3, i_n4, i_n5, i_n6, i_n7, i_n8, k_cl, if_true, if_false]
      rw [sX9_isBookT (nb := nb) (by simpa [m_si] using q1) hnb hd, b_bi]
    by_cases h8 : ne = 8
    · subst h8
      refine bad ?_ (fun s2 q1 q2 q3 => ?_)
      · rw [hx, tX8_event_21]
        try simp only [k_lit, k_nN, k_ofN, kx]
        simp (disch := omega) only [i_leT, i_leF, i_ltT, i_ltF, i_eqT, i_eqF, i_okT, i_n1, i_n2, i_n3, i_n4, i_n5, i_n6, i_n7, i_n8, k_cl, if_true, if_false]
        split <;> rfl
      · rw [tX9_event]
        try simp only [k_lit, k_nN, k_ofN, q3]
        simp (disch := omega) only [i_leT, i_leF, i_ltT, i_ltF, i_eqT, i_eqF, i_okT, i_n1, i_n2, i_n3, i_n4, i_n5, i_n6, i_n7, i_n8, k_cl, if_true, if_false]
        exact ref s2
    · by_cases hbd : b = d
      · subst hbd
        refine bad ?_ (fun s2 q1 q2 q3 => ?_)
        · rw [hx, tX8_event_21]
          try simp only [k_lit, k_nN, k_ofN]
          simp (disch := omega) only [i_leT, i_leF, i_ltT, i_ltF, i_eqT, i_eqF, i_okT, i_n1, i_n2, i_n3, i_n4, i_n5, i_n6, i_n7, i_n8, k_cl, if_true, if_false]
        · rw [hmm s2 q1 q2 q3 h8, tX9_event_35]
          try simp only [k_lit, k_nN, k_ofN]
          simp (disch := omega) only [i_leT, i_leF, i_ltT, i_ltF, i_eqT, i_eqF, i_okT, i_n1, i_n2, i_n3, i_n4, i_n5, i_n6, i_n7, i_n8, k_cl, if_true, if_false]
          exact ref s2
      · have hX : fX8_event [.ref 0, .int (nI a), .int (nI b), .int (nI d)] s = some (.inl (some (.int (nI (ne + 1)))), a_si (a_si (a_si (a_si s 25 (3 * ne) (nI a)) 25 (3 * ne + 1) (nI b)) 25 (3 * ne + 2) (nI d)) 22 4 (nI (ne + 1))) := by
          rw [hx, tX8_event_21]
          try simp only [k_lit, k_nN, k_ofN, kx]
          simp (disch := omega) only [i_leT, i_leF, i_ltT, i_ltF, i_eqT, i_eqF, i_okT, i_n1, i_n2, i_n3, i_n4, i_n5, i_n6, i_n7, i_n8, k_cl, if_true, if_false]
          rw [tX4_writeEvent]
          try simp only [k_lit, k_nN, k_ofN, kx, pk_mul, nI_add]
          simp (disch := omega) only [i_leT, i_leF, i_ltT, i_ltF, i_eqT, i_eqF, i_okT, i_n1, i_n2, i_n3, i_n4, i_n5, i_n6, i_n7, i_n8, k_cl, if_true, if_false]
          rw [b_bv, tX8_event_75]
          simp [m_si]
        refine ⟨nI (ne + 1), _, hX, rfl, a_si (a_si (a_si (a_si (a_si (a_si (a_si s 25 (3 * ne) (nI a)) 25 (3 * ne + 1) (nI b)) 25 (3 * ne + 2) (nI d)) 22 4 (nI (ne + 1))) 43 0 (nI 0)) 69 ne (nI (144 * a + 12 * b + d))) 43 53 (nI (ne + 1)), ?_, ?_, rfl⟩
        · rw [hmm _ (by simpa [m_si] using b2) (by simpa [m_si] using r2) (by simpa [m_si] using km) h8, tX9_event_35]
          have q : (a_si (a_si (a_si (a_si (a_si s 25 (3 * ne) (nI a)) 25 (3 * ne + 1) (nI b)) 25 (3 * ne + 2) (nI d)) 22 4 (nI (ne + 1))) 43 0 (nI 0)).1 43 53 = nI ne := by simpa [m_si] using km
          try simp only [k_lit, k_nN, k_ofN, q, pk_mul, nI_add]
          simp (disch := omega) only [i_leT, i_leF, i_ltT, i_ltF, i_eqT, i_eqF, i_okT, i_n1, i_n2, i_n3, i_n4, i_n5, i_n6, i_n7, i_n8, k_cl, if_true, if_false]
        · have F : fx [25, 69] [(22, 4), (43, 0), (43, 53)] s (a_si (a_si (a_si (a_si (a_si (a_si (a_si s 25 (3 * ne) (nI a)) 25 (3 * ne + 1) (nI b)) 25 (3 * ne + 2) (nI d)) 22 4 (nI (ne + 1))) 43 0 (nI 0)) 69 ne (nI (144 * a + 12 * b + d))) 43 53 (nI (ne + 1))) := fx_si (fx_si (fx_si (fx_si (fx_si (fx_si (fx_si (fx_rfl s) rfl) rfl) rfl) rfl) rfl) rfl) rfl
          refine ⟨nb, nr, c, LibI_fx hL F rfl rfl, ?_, ImgI_fx hG F rfl rfl, RowI_fx hR F rfl rfl, TapI_fx hT F rfl rfl, CntI_fx hC F rfl⟩
          unfold NowI
          have A := fun k hk => fxA (ks := [46, 23, 45, 24, 59]) F rfl (k := k) hk
          rw [A 46 (by decide), A 23 (by decide), A 45 (by decide), A 24 (by decide), A 59 (by decide)]
          refine ⟨hO, nm, ne + 1, hm, by omega, ?_, ?_, ?_, ?_, hmv, hh, fun e hl => ?_⟩
          · simpa [m_si] using cx
          · simpa [m_si] using cm
          · simp [m_si]
          · simp [m_si]
          · by_cases q : e < ne
            · obtain ⟨x1, x2, x3, y1, y2, y3, y4, y5, y6, y7, y8⟩ := hev e q
              have n1 : ¬ 3 * e = 3 * ne := by omega
              have n2 : ¬ 3 * e = 3 * ne + 1 := by omega
              have n3 : ¬ 3 * e = 3 * ne + 2 := by omega
              have n4 : ¬ 3 * e + 1 = 3 * ne := by omega
              have n5 : ¬ e = ne := by omega
              have n6 : ¬ 3 * e + 1 = 3 * ne + 2 := by omega
              have n7 : ¬ 3 * e + 2 = 3 * ne := by omega
              have n8 : ¬ 3 * e + 2 = 3 * ne + 1 := by omega
              refine ⟨x1, x2, x3, y1, y2, y3, y4, ?_, ?_, ?_, ?_⟩
              · simpa [m_si, n1, n2, n3, n5] using y5
              · simpa [m_si, n1, n2, n4, n5, n6] using y6
              · simpa [m_si, n1, n7, n8, n5] using y7
              · simpa [m_si, n5] using y8
            · have q2 : e = ne := by omega
              subst q2
              refine ⟨a, b, d, ha, hb, hd, hbd, ?_, ?_, ?_, ?_⟩ <;> simp [m_si]
  · refine bad ?_ (fun s2 q1 q2 q3 => ?_)
    · rw [tX8_event]
      by_cases hr : vb nr r
      · obtain ⟨a, ha, rfl⟩ := hr
        rw [sX8_isReaderT r1 hnr ha, b_bi, tX8_event_5]
        try simp only [k_lit, k_nN, k_ofN]
        simp (disch := omega) only [i_leT, i_leF, i_ltT, i_ltF, i_eqT, i_eqF, i_okT, i_n1, i_n2, i_n3, i_n4, i_n5, i_n6, i_n7, i_n8, k_cl, if_true, if_false]
        by_cases hl : vb nb l
        · obtain ⟨b, hb, rfl⟩ := hl
          rw [sX8_isBookT b1 hnb hb, b_bi, tX8_event_13]
          try simp only [k_lit, k_nN, k_ofN]
          simp (disch := omega) only [i_leT, i_leF, i_ltT, i_ltF, i_eqT, i_eqF, i_okT, i_n1, i_n2, i_n3, i_n4, i_n5, i_n6, i_n7, i_n8, k_cl, if_true, if_false]
          have ht : ¬ vb nb t := fun c => hv ⟨⟨a, ha, rfl⟩, ⟨b, hb, rfl⟩, c⟩
          rw [sX8_isBookF b1 hnb ht, b_bi, tX8_event_21]
          try simp only [k_lit, k_nN, k_ofN]
          simp (disch := omega) only [i_leT, i_leF, i_ltT, i_ltF, i_eqT, i_eqF, i_okT, i_n1, i_n2, i_n3, i_n4, i_n5, i_n6, i_n7, i_n8, k_cl, if_true, if_false]
        · rw [sX8_isBookF b1 hnb hl, b_bi, tX8_event_13]
          try simp only [k_lit, k_nN, k_ofN]
          simp (disch := omega) only [i_leT, i_leF, i_ltT, i_ltF, i_eqT, i_eqF, i_okT, i_n1, i_n2, i_n3, i_n4, i_n5, i_n6, i_n7, i_n8, k_cl, if_true, if_false]
      · rw [sX8_isReaderF r1 hnr hr, b_bi, tX8_event_5]
        try simp only [k_lit, k_nN, k_ofN]
        simp (disch := omega) only [i_leT, i_leF, i_ltT, i_ltF, i_eqT, i_eqF, i_okT, i_n1, i_n2, i_n3, i_n4, i_n5, i_n6, i_n7, i_n8, k_cl, if_true, if_false]
    · have w1 : (a_si s2 43 0 (nI 0)).1 43 1 = nI nb := by simpa [m_si] using q1
      have w2 : (a_si s2 43 0 (nI 0)).1 43 2 = nI nr := by simpa [m_si] using q2
      rw [tX9_event]
      try simp only [k_lit, k_nN, k_ofN, q3]
      by_cases h8 : ne = 8
      · subst h8
        simp (disch := omega) only [i_leT, i_leF, i_ltT, i_ltF, i_eqT, i_eqF, i_okT, i_n1, i_n2, i_n3, i_n4, i_n5, i_n6, i_n7, i_n8, k_cl, if_true, if_false]
        exact ref s2
      · simp (disch := omega) only [i_leT, i_leF, i_ltT, i_ltF, i_eqT, i_eqF, i_okT, i_n1, i_n2, i_n3, i_n4, i_n5, i_n6, i_n7, i_n8, k_cl, if_true, if_false]
        by_cases hr : vb nr r
        · obtain ⟨a, ha, rfl⟩ := hr
          rw [sX9_isReaderT w2 hnr ha, b_bi, tX9_event_19]
          try simp only [k_lit, k_nN, k_ofN]
          simp (disch := omega) only [i_leT, i_leF, i_ltT, i_ltF, i_eqT, i_eqF, i_okT, i_n1, i_n2, i_n3, i_n4, i_n5, i_n6, i_n7, i_n8, k_cl, if_true, if_false]
          by_cases hl : vb nb l
          · obtain ⟨b, hb, rfl⟩ := hl
            rw [sX9_isBookT w1 hnb hb, b_bi, tX9_event_27]
            try simp only [k_lit, k_nN, k_ofN]
            simp (disch := omega) only [i_leT, i_leF, i_ltT, i_ltF, i_eqT, i_eqF, i_okT, i_n1, i_n2, i_n3, i_n4, i_n5, i_n6, i_n7, i_n8, k_cl, if_true, if_false]
            have ht : ¬ vb nb t := fun c => hv ⟨⟨a, ha, rfl⟩, ⟨b, hb, rfl⟩, c⟩
            rw [sX9_isBookF w1 hnb ht, b_bi, tX9_event_35]
            try simp only [k_lit, k_nN, k_ofN]
            simp (disch := omega) only [i_leT, i_leF, i_ltT, i_ltF, i_eqT, i_eqF, i_okT, i_n1, i_n2, i_n3, i_n4, i_n5, i_n6, i_n7, i_n8, k_cl, if_true, if_false]
            exact ref s2
          · rw [sX9_isBookF w1 hnb hl, b_bi, tX9_event_27]
            try simp only [k_lit, k_nN, k_ofN]
            simp (disch := omega) only [i_leT, i_leF, i_ltT, i_ltF, i_eqT, i_eqF, i_okT, i_n1, i_n2, i_n3, i_n4, i_n5, i_n6, i_n7, i_n8, k_cl, if_true, if_false]
            exact ref s2
        · rw [sX9_isReaderF w2 hnr hr, b_bi, tX9_event_19]
          try simp only [k_lit, k_nN, k_ofN]
          simp (disch := omega) only [i_leT, i_leF, i_ltT, i_ltF, i_eqT, i_eqF, i_okT, i_n1, i_n2, i_n3, i_n4, i_n5, i_n6, i_n7, i_n8, k_cl, if_true, if_false]
          exact ref s2
