/-! ===== book, reader, fault ===== -/
theorem op_book {s : aMem} (hI : Inv s) (v w : Int32) : agr (fX8_book [.ref 0, .int v, .int w]) (fX9_book [.ref 43, .int v, .int w]) (fun _ => 1) s := by
  obtain ⟨nb, nr, c, hL, hN, -, -, -, -⟩ := id hI
  obtain ⟨⟨hnb, hnr⟩, ⟨b1, b2⟩, -, hpt, -, hpg, -, -, -⟩ := id hL
  obtain ⟨hO, -⟩ := id hN
  by_cases hv : vb nb v
  · obtain ⟨b, hb, rfl⟩ := hv
    by_cases hw : vb 6 w
    · obtain ⟨j, hj, rfl⟩ := hw
      refine agr_q (r := if j < 4 then s.1 44 (4 * b + j) else if j = 4 then s.1 49 b else s.1 45 b) (s1 := s) hI ?_ (fr_rfl s) (fun s2 h2 => ⟨a_si s2 43 0 (nI 0), ?_, by simp [m_si], fr_si (fr_rfl s2) (.inr (by decide))⟩)
      · rw [tX8_book, sX8_needBookT b1 hnb hb, b_bv, tX8_book_5]
        try simp only [k_lit, k_nN, k_ofN]
        rw [sX8_needWhatT (by omega) hj, b_bv, tX8_book_11]
        try simp only [k_lit, k_nN, k_ofN]
        by_cases e4 : j < 4
        · rw [if_pos e4, pk_mul, nI_add]
          simp (disch := omega) only [i_leT, i_leF, i_ltT, i_ltF, i_eqT, i_eqF, i_okT, i_n1, i_n2, i_n3, i_n4, i_n5, i_n6, i_n7, i_n8, k_cl, if_true, if_false]
          rw [hpt _ (by omega)]
        · rw [if_neg e4]
          by_cases e5 : j = 4
          · subst e5
            simp (disch := omega) only [i_leT, i_leF, i_ltT, i_ltF, i_eqT, i_eqF, i_okT, i_n1, i_n2, i_n3, i_n4, i_n5, i_n6, i_n7, i_n8, k_cl, if_true, if_false]
            rw [hpg b hb]
          · rw [if_neg e5]
            simp (disch := omega) only [i_leT, i_leF, i_ltT, i_ltF, i_eqT, i_eqF, i_okT, i_n1, i_n2, i_n3, i_n4, i_n5, i_n6, i_n7, i_n8, k_cl, if_true, if_false]
            rw [sX8_placeOf23 hnb hnr hO hb, b_bi]
      · rw [tX9_book]
        try simp only [k_lit, k_nN, k_ofN]
        rw [sX9_isBookT (nb := nb) (by simp [m_si, scB h2 43 1 rfl rfl, b2]) hnb hb, b_bi, tX9_book_11]
        try simp only [k_lit, k_nN, k_ofN]
        simp (disch := omega) only [i_leT, i_leF, i_ltT, i_ltF, i_eqT, i_eqF, i_okT, i_n1, i_n2, i_n3, i_n4, i_n5, i_n6, i_n7, i_n8, k_cl, if_true, if_false]
        rw [sX9_withinT (n := 5) (by omega) (by omega), b_bi, tX9_book_20]
        try simp only [k_lit, k_nN, k_ofN]
        simp (disch := omega) only [i_leT, i_leF, i_ltT, i_ltF, i_eqT, i_eqF, i_okT, i_n1, i_n2, i_n3, i_n4, i_n5, i_n6, i_n7, i_n8, k_cl, if_true, if_false]
        rw [sX9_rightT (by simp [m_si]), b_bi, tX9_book_32]
        try simp only [k_lit, k_nN, k_ofN]
        simp (disch := omega) only [i_leT, i_leF, i_ltT, i_ltF, i_eqT, i_eqF, i_okT, i_n1, i_n2, i_n3, i_n4, i_n5, i_n6, i_n7, i_n8, k_cl, if_true, if_false]
        simp only [m_si, scA h2 44 rfl rfl, scA h2 45 rfl rfl, scA h2 49 rfl rfl, show ((44 : Nat) = 43) = False from by simp, show ((45 : Nat) = 43) = False from by simp, show ((49 : Nat) = 43) = False from by simp, if_false]
        by_cases e4 : j < 4
        · rw [if_pos e4, pk_mul, nI_add]
          simp (disch := omega) only [i_leT, i_leF, i_ltT, i_ltF, i_eqT, i_eqF, i_okT, i_n1, i_n2, i_n3, i_n4, i_n5, i_n6, i_n7, i_n8, k_cl, if_true, if_false]
        · rw [if_neg e4]
          by_cases e5 : j = 4
          · subst e5
            simp (disch := omega) only [i_leT, i_leF, i_ltT, i_ltF, i_eqT, i_eqF, i_okT, i_n1, i_n2, i_n3, i_n4, i_n5, i_n6, i_n7, i_n8, k_cl, if_true, if_false]
          · rw [if_neg e5]
            simp (disch := omega) only [i_leT, i_leF, i_ltT, i_ltF, i_eqT, i_eqF, i_okT, i_n1, i_n2, i_n3, i_n4, i_n5, i_n6, i_n7, i_n8, k_cl, if_true, if_false]
    · refine agr_x (x := 0) (s1 := s) hI ?_ (fr_rfl s) (by omega) (fun s2 h2 => ⟨nI 0, a_si (a_si s2 43 0 (nI 0)) 43 0 (nI 1), ?_, by simp [m_si], fr_si (fr_si (fr_rfl s2) (.inr (by decide))) (.inr (by decide))⟩)
      · rw [tX8_book, sX8_needBookT b1 hnb hb, b_bv, tX8_book_5]
        try simp only [k_lit, k_nN, k_ofN]
        rw [sX8_needWhatF (by omega) hw, b_bvx]
      · rw [tX9_book]
        try simp only [k_lit, k_nN, k_ofN]
        rw [sX9_isBookT (nb := nb) (by simp [m_si, scB h2 43 1 rfl rfl, b2]) hnb hb, b_bi, tX9_book_11]
        try simp only [k_lit, k_nN, k_ofN]
        simp (disch := omega) only [i_leT, i_leF, i_ltT, i_ltF, i_eqT, i_eqF, i_okT, i_n1, i_n2, i_n3, i_n4, i_n5, i_n6, i_n7, i_n8, k_cl, if_true, if_false]
        rw [sX9_withinF (n := 5) (by omega) hw, b_bi, tX9_book_20]
        try simp only [k_lit, k_nN, k_ofN]
        simp (disch := omega) only [i_leT, i_leF, i_ltT, i_ltF, i_eqT, i_eqF, i_okT, i_n1, i_n2, i_n3, i_n4, i_n5, i_n6, i_n7, i_n8, k_cl, if_true, if_false]
        rw [sX9_rightF (by simp [m_si]) (by omega) (by omega), b_bi, tX9_book_32]
        try simp only [k_lit, k_nN, k_ofN]
        simp (disch := omega) only [i_leT, i_leF, i_ltT, i_ltF, i_eqT, i_eqF, i_okT, i_n1, i_n2, i_n3, i_n4, i_n5, i_n6, i_n7, i_n8, k_cl, if_true, if_false]
  · refine agr_x (x := 0) (s1 := s) hI ?_ (fr_rfl s) (by omega) (fun s2 h2 => ⟨nI 0, a_si (a_si s2 43 0 (nI 0)) 43 0 (nI 1), ?_, by simp [m_si], fr_si (fr_si (fr_rfl s2) (.inr (by decide))) (.inr (by decide))⟩)
    · rw [tX8_book, sX8_needBookF b1 hnb hv, b_bvx]
    · rw [tX9_book]
      try simp only [k_lit, k_nN, k_ofN]
      rw [sX9_isBookF (nb := nb) (by simp [m_si, scB h2 43 1 rfl rfl, b2]) hnb hv, b_bi, tX9_book_11]
      try simp only [k_lit, k_nN, k_ofN]
      simp (disch := omega) only [i_leT, i_leF, i_ltT, i_ltF, i_eqT, i_eqF, i_okT, i_n1, i_n2, i_n3, i_n4, i_n5, i_n6, i_n7, i_n8, k_cl, if_true, if_false]
      rw [sX9_rightF (by simp [m_si]) (by omega) (by omega), b_bi, tX9_book_32]
      try simp only [k_lit, k_nN, k_ofN]
      simp (disch := omega) only [i_leT, i_leF, i_ltT, i_ltF, i_eqT, i_eqF, i_okT, i_n1, i_n2, i_n3, i_n4, i_n5, i_n6, i_n7, i_n8, k_cl, if_true, if_false]
theorem srv_congr {o o' wn wn' : Nat → Int32} {nb nr r : Nat} (hr : r < nr) (hnb : nb ≤ 12) (hw : wOk nb nr wn') (h1 : wn r = wn' r) (h2 : ∀ b, b < nb → o b = o' b) : srv o wn r = srv o' wn' r := by
  unfold srv
  rw [h1]
  rcases hw r hr with e | ⟨b, hb, e⟩
  · simp [e]
  · rw [e, k_cl (by omega), h2 b hb]
theorem op_reader {s : aMem} (hI : Inv s) (v w : Int32) : agr (fX8_reader [.ref 0, .int v, .int w]) (fX9_reader [.ref 43, .int v, .int w]) (fun _ => 1) s := by
  obtain ⟨nb, nr, c, hL, hN, -, -, -, -⟩ := id hI
  obtain ⟨⟨hnb, hnr⟩, ⟨b1, b2⟩, ⟨r1, r2⟩, -, ⟨hw1, hw2⟩, -, -, -, -⟩ := id hL
  obtain ⟨hO, -⟩ := id hN
  have hw17 : wOk nb nr (s.1 17) := fun r hr => by rw [hw1 r hr]; exact hw2 r hr
  by_cases hv : vb nr v
  · obtain ⟨r, hr, rfl⟩ := hv
    by_cases hw : vb 3 w
    · obtain ⟨j, hj, rfl⟩ := hw
      refine agr_q (r := if j = 0 then s.1 47 r else if j = 1 then nI (msk nb fun b => decide (s.1 45 b = nI r)) else nI (srv (s.1 45) (s.1 47) r).toNat) (s1 := s) hI ?_ (fr_rfl s) (fun s2 h2 => ⟨a_si s2 43 0 (nI 0), ?_, by simp [m_si], fr_si (fr_rfl s2) (.inr (by decide))⟩)
      · rw [tX8_reader, sX8_needReaderT r1 hnr hr, b_bv, tX8_reader_5]
        try simp only [k_lit, k_nN, k_ofN]
        rw [sX8_needWhatT (by omega) hj, b_bv, tX8_reader_10]
        try simp only [k_lit, k_nN, k_ofN]
        rcases (show j = 0 ∨ j = 1 ∨ j = 2 by omega) with e | e | e <;> subst e
        · simp (disch := omega) only [i_leT, i_leF, i_ltT, i_ltF, i_eqT, i_eqF, i_okT, i_n1, i_n2, i_n3, i_n4, i_n5, i_n6, i_n7, i_n8, k_cl, if_true, if_false]
          rw [hw1 r hr]
        · simp (disch := omega) only [i_leT, i_leF, i_ltT, i_ltF, i_eqT, i_eqF, i_okT, i_n1, i_n2, i_n3, i_n4, i_n5, i_n6, i_n7, i_n8, k_cl, if_true, if_false]
          rw [hO.1 r (by omega)]
          simp
        · simp (disch := omega) only [i_leT, i_leF, i_ltT, i_ltF, i_eqT, i_eqF, i_okT, i_n1, i_n2, i_n3, i_n4, i_n5, i_n6, i_n7, i_n8, k_cl, if_true, if_false]
          rw [sX6_isServed23 hnb hnr hO hw17 hr, b_bi, tX8_reader_54, srv_congr hr hnb hw2 (hw1 r hr) (fun _ _ => rfl)]
          try simp only [k_lit, k_nN, k_ofN]
          cases srv (s.1 45) (s.1 47) r
          · simp only [Bool.toNat_false]
            simp (disch := omega) only [i_leT, i_leF, i_ltT, i_ltF, i_eqT, i_eqF, i_okT, i_n1, i_n2, i_n3, i_n4, i_n5, i_n6, i_n7, i_n8, k_cl, if_true, if_false]
            simp
          · simp only [Bool.toNat_true]
            simp (disch := omega) only [i_leT, i_leF, i_ltT, i_ltF, i_eqT, i_eqF, i_okT, i_n1, i_n2, i_n3, i_n4, i_n5, i_n6, i_n7, i_n8, k_cl, if_true, if_false]
            simp
      · rw [tX9_reader]
        try simp only [k_lit, k_nN, k_ofN]
        rw [sX9_isReaderT (nb := nr) (by simp [m_si, scB h2 43 2 rfl rfl, r2]) hnr hr, b_bi, tX9_reader_11]
        try simp only [k_lit, k_nN, k_ofN]
        simp (disch := omega) only [i_leT, i_leF, i_ltT, i_ltF, i_eqT, i_eqF, i_okT, i_n1, i_n2, i_n3, i_n4, i_n5, i_n6, i_n7, i_n8, k_cl, if_true, if_false]
        rw [sX9_withinT (n := 2) (by omega) (by omega), b_bi, tX9_reader_20]
        try simp only [k_lit, k_nN, k_ofN]
        simp (disch := omega) only [i_leT, i_leF, i_ltT, i_ltF, i_eqT, i_eqF, i_okT, i_n1, i_n2, i_n3, i_n4, i_n5, i_n6, i_n7, i_n8, k_cl, if_true, if_false]
        rw [sX9_rightT (by simp [m_si]), b_bi, tX9_reader_32]
        try simp only [k_lit, k_nN, k_ofN]
        rcases (show j = 0 ∨ j = 1 ∨ j = 2 by omega) with e | e | e <;> subst e
        · simp (disch := omega) only [i_leT, i_leF, i_ltT, i_ltF, i_eqT, i_eqF, i_okT, i_n1, i_n2, i_n3, i_n4, i_n5, i_n6, i_n7, i_n8, k_cl, if_true, if_false]
          simp [m_si, scA h2 47 rfl rfl]
        · simp (disch := omega) only [i_leT, i_leF, i_ltT, i_ltF, i_eqT, i_eqF, i_okT, i_n1, i_n2, i_n3, i_n4, i_n5, i_n6, i_n7, i_n8, k_cl, if_true, if_false]
          rw [sX9_hasOf (nb := nb) (by simp [m_si, scB h2 43 1 rfl rfl, b2]) hnb, b_bi]
          simp [m_si, scA h2 45 rfl rfl]
        · simp (disch := omega) only [i_leT, i_leF, i_ltT, i_ltF, i_eqT, i_eqF, i_okT, i_n1, i_n2, i_n3, i_n4, i_n5, i_n6, i_n7, i_n8, k_cl, if_true, if_false]
          have e47 : (a_si s2 43 0 (nI 0)).1 47 = s.1 47 := by funext j; simp [m_si, scA h2 47 rfl rfl]
          have e45 : (a_si s2 43 0 (nI 0)).1 45 = s.1 45 := by funext j; simp [m_si, scA h2 45 rfl rfl]
          rw [sX9_isServed hnb hnr (by rw [e47]; exact hw2) hr, b_bi, tX9_reader_68, e47, e45]
          try simp only [k_lit, k_nN, k_ofN]
          cases srv (s.1 45) (s.1 47) r
          · simp only [Bool.toNat_false]
            simp (disch := omega) only [i_leT, i_leF, i_ltT, i_ltF, i_eqT, i_eqF, i_okT, i_n1, i_n2, i_n3, i_n4, i_n5, i_n6, i_n7, i_n8, k_cl, if_true, if_false]
            simp
          · simp only [Bool.toNat_true]
            simp (disch := omega) only [i_leT, i_leF, i_ltT, i_ltF, i_eqT, i_eqF, i_okT, i_n1, i_n2, i_n3, i_n4, i_n5, i_n6, i_n7, i_n8, k_cl, if_true, if_false]
            simp
    · refine agr_x (x := 0) (s1 := s) hI ?_ (fr_rfl s) (by omega) (fun s2 h2 => ⟨nI 0, a_si (a_si s2 43 0 (nI 0)) 43 0 (nI 1), ?_, by simp [m_si], fr_si (fr_si (fr_rfl s2) (.inr (by decide))) (.inr (by decide))⟩)
      · rw [tX8_reader, sX8_needReaderT r1 hnr hr, b_bv, tX8_reader_5]
        try simp only [k_lit, k_nN, k_ofN]
        rw [sX8_needWhatF (by omega) hw, b_bvx]
      · rw [tX9_reader]
        try simp only [k_lit, k_nN, k_ofN]
        rw [sX9_isReaderT (nb := nr) (by simp [m_si, scB h2 43 2 rfl rfl, r2]) hnr hr, b_bi, tX9_reader_11]
        try simp only [k_lit, k_nN, k_ofN]
        simp (disch := omega) only [i_leT, i_leF, i_ltT, i_ltF, i_eqT, i_eqF, i_okT, i_n1, i_n2, i_n3, i_n4, i_n5, i_n6, i_n7, i_n8, k_cl, if_true, if_false]
        rw [sX9_withinF (n := 2) (by omega) hw, b_bi, tX9_reader_20]
        try simp only [k_lit, k_nN, k_ofN]
        simp (disch := omega) only [i_leT, i_leF, i_ltT, i_ltF, i_eqT, i_eqF, i_okT, i_n1, i_n2, i_n3, i_n4, i_n5, i_n6, i_n7, i_n8, k_cl, if_true, if_false]
        rw [sX9_rightF (by simp [m_si]) (by omega) (by omega), b_bi, tX9_reader_32]
        try simp only [k_lit, k_nN, k_ofN]
        simp (disch := omega) only [i_leT, i_leF, i_ltT, i_ltF, i_eqT, i_eqF, i_okT, i_n1, i_n2, i_n3, i_n4, i_n5, i_n6, i_n7, i_n8, k_cl, if_true, if_false]
  · refine agr_x (x := 0) (s1 := s) hI ?_ (fr_rfl s) (by omega) (fun s2 h2 => ⟨nI 0, a_si (a_si s2 43 0 (nI 0)) 43 0 (nI 1), ?_, by simp [m_si], fr_si (fr_si (fr_rfl s2) (.inr (by decide))) (.inr (by decide))⟩)
    · rw [tX8_reader, sX8_needReaderF r1 hnr hv, b_bvx]
    · rw [tX9_reader]
      try simp only [k_lit, k_nN, k_ofN]
      rw [sX9_isReaderF (nb := nr) (by simp [m_si, scB h2 43 2 rfl rfl, r2]) hnr hv, b_bi, tX9_reader_11]
      try simp only [k_lit, k_nN, k_ofN]
      simp (disch := omega) only [i_leT, i_leF, i_ltT, i_ltF, i_eqT, i_eqF, i_okT, i_n1, i_n2, i_n3, i_n4, i_n5, i_n6, i_n7, i_n8, k_cl, if_true, if_false]
      rw [sX9_rightF (by simp [m_si]) (by omega) (by omega), b_bi, tX9_reader_32]
      try simp only [k_lit, k_nN, k_ofN]
      simp (disch := omega) only [i_leT, i_leF, i_ltT, i_ltF, i_eqT, i_eqF, i_okT, i_n1, i_n2, i_n3, i_n4, i_n5, i_n6, i_n7, i_n8, k_cl, if_true, if_false]
theorem op_fault {s : aMem} (hI : Inv s) : agn (fX8_fault [.ref 0]) (fX9_fault [.ref 43]) s := by
  obtain ⟨nb, nr, c, -, -, -, -, -, hC⟩ := id hI
  refine agn_q (r := s.1 43 12) (s1 := s) hI ?_ (fr_rfl s) (fun s2 h2 => ⟨a_si s2 43 0 (nI 0), ?_, fr_si (fr_rfl s2) (.inr (by decide))⟩)
  · rw [tX8_fault, hC.2.2.2]
  · rw [tX9_fault]
    simp [m_si, scB h2 43 12 rfl rfl]
    rfl
