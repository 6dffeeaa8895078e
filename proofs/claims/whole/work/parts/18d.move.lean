/-! ===== move, forget, event ===== -/
theorem op_move {s : aMem} (hI : Inv s) (v w : Int32) : agr (fX8_move [.ref 0, .int v, .int w]) (fX9_move [.ref 43, .int v, .int w]) (fun _ => 1) s := by
  obtain ⟨nb, nr, c, hL, hN, -, -, -, -⟩ := id hI
  obtain ⟨hO, nm, ne, hm, he, cx, cm, kx, km, hmv, -, -⟩ := id hN
  by_cases hw : vb 4 w
  · obtain ⟨j, hj, rfl⟩ := hw
    by_cases hv : vb nm v
    · obtain ⟨i, hi, rfl⟩ := hv
      refine agr_q (r := s.1 59 (4 * i + j)) (s1 := s) hI ?_ (fr_rfl s) (fun s2 h2 => ⟨a_si s2 43 0 (nI 0), ?_, by simp [m_si], fr_si (fr_rfl s2) (.inr (by decide))⟩)
      · rw [tX8_move]
        try simp only [k_lit, k_nN, k_ofN]
        rw [sX8_needWhatT (by omega) hj, b_bv, cx, pk_mul, nI_add]
        simp (disch := omega) only [i_leT, i_leF, i_ltT, i_ltF, i_eqT, i_eqF, i_okT, i_n1, i_n2, i_n3, i_n4, i_n5, i_n6, i_n7, i_n8, k_cl, if_true, if_false]
        rw [hmv _ (by omega)]
      · rw [tX9_move]
        try simp only [k_lit, k_nN, k_ofN]
        rw [scB h2 43 35 rfl rfl, cm]
        simp (disch := omega) only [i_leT, i_leF, i_ltT, i_ltF, i_eqT, i_eqF, i_okT, i_n1, i_n2, i_n3, i_n4, i_n5, i_n6, i_n7, i_n8, k_cl, if_true, if_false]
        rw [sX9_withinT (n := 3) (by omega) (by omega), b_bi, tX9_move_24]
        try simp only [k_lit, k_nN, k_ofN]
        simp (disch := omega) only [i_leT, i_leF, i_ltT, i_ltF, i_eqT, i_eqF, i_okT, i_n1, i_n2, i_n3, i_n4, i_n5, i_n6, i_n7, i_n8, k_cl, if_true, if_false]
        rw [sX9_rightT (by simp [m_si]), b_bi, tX9_move_36]
        try simp only [k_lit, k_nN, k_ofN]
        rw [pk_mul, nI_add, z_ne (by decide), scA h2 59 rfl rfl]
        simp (disch := omega) only [i_leT, i_leF, i_ltT, i_ltF, i_eqT, i_eqF, i_okT, i_n1, i_n2, i_n3, i_n4, i_n5, i_n6, i_n7, i_n8, k_cl, if_true, if_false]
    · refine agr_x (x := 0) (s1 := s) hI ?_ (fr_rfl s) (by omega) (fun s2 h2 => ⟨nI 0, a_si (a_si s2 43 0 (nI 0)) 43 0 (nI 1), ?_, by simp [m_si], fr_si (fr_si (fr_rfl s2) (.inr (by decide))) (.inr (by decide))⟩)
      · rw [tX8_move]
        try simp only [k_lit, k_nN, k_ofN]
        rw [sX8_needWhatT (by omega) hj, b_bv, cx]
        rcases vb_no (by omega) hv with h1 | ⟨h1, h2⟩
        · rw [if_pos h1]
        · rw [if_neg h1, if_neg (Int32.not_lt.mpr h2)]
      · rw [tX9_move]
        try simp only [k_lit, k_nN, k_ofN]
        rw [scB h2 43 35 rfl rfl, cm]
        rcases vb_no (by omega) hv with h1 | ⟨h1, h3⟩
        · rw [if_pos h1, sX9_rightF (by simp [m_si]) (by omega) (by omega), b_bi, tX9_move_36]
          try simp only [k_lit, k_nN, k_ofN]
          simp (disch := omega) only [i_leT, i_leF, i_ltT, i_ltF, i_eqT, i_eqF, i_okT, i_n1, i_n2, i_n3, i_n4, i_n5, i_n6, i_n7, i_n8, k_cl, if_true, if_false]
        · rw [if_neg h1, if_pos h3, sX9_rightF (by simp [m_si]) (by omega) (by omega), b_bi, tX9_move_36]
          try simp only [k_lit, k_nN, k_ofN]
          simp (disch := omega) only [i_leT, i_leF, i_ltT, i_ltF, i_eqT, i_eqF, i_okT, i_n1, i_n2, i_n3, i_n4, i_n5, i_n6, i_n7, i_n8, k_cl, if_true, if_false]
  · refine agr_x (x := 0) (s1 := s) hI ?_ (fr_rfl s) (by omega) (fun s2 h2 => ⟨nI 0, a_si (a_si s2 43 0 (nI 0)) 43 0 (nI 1), ?_, by simp [m_si], fr_si (fr_si (fr_rfl s2) (.inr (by decide))) (.inr (by decide))⟩)
    · rw [tX8_move]
      try simp only [k_lit, k_nN, k_ofN]
      rw [sX8_needWhatF (by omega) hw, b_bvx]
    · rw [tX9_move]
      try simp only [k_lit, k_nN, k_ofN]
      rw [scB h2 43 35 rfl rfl, cm]
      have e : a_bi (fX9_right [.ref 43, .int (nI 0), .int (nI 1)] (a_si s2 43 0 (nI 0))) (fun r2 s1 => a_run none shp pX9_move 36 [some (.ref 43), some (.int v), some (.int w)] [.int r2] s1) none (fun x s1 => some (.inr x, s1)) = some (.inl (some (.int (nI 0))), a_si (a_si s2 43 0 (nI 0)) 43 0 (nI 1)) := by
        rw [sX9_rightF (by simp [m_si]) (by omega) (by omega), b_bi, tX9_move_36]
        try simp only [k_lit, k_nN, k_ofN]
        simp (disch := omega) only [i_leT, i_leF, i_ltT, i_ltF, i_eqT, i_eqF, i_okT, i_n1, i_n2, i_n3, i_n4, i_n5, i_n6, i_n7, i_n8, k_cl, if_true, if_false]
      split
      · exact e
      · split
        · exact e
        · rw [sX9_withinF (n := 3) (by omega) hw, b_bi, tX9_move_24]
          try simp only [k_lit, k_nN, k_ofN]
          simp (disch := omega) only [i_leT, i_leF, i_ltT, i_ltF, i_eqT, i_eqF, i_okT, i_n1, i_n2, i_n3, i_n4, i_n5, i_n6, i_n7, i_n8, k_cl, if_true, if_false]
          exact e
theorem op_forget {s : aMem} (hI : Inv s) : agn (fX8_forget [.ref 0]) (fX9_forget [.ref 43]) s := by
  obtain ⟨nb, nr, c, hL, hN, hG, hR, hT, hC⟩ := id hI
  obtain ⟨hO, nm, ne, hm, he, cx, cm, kx, km, hmv, hh, hev⟩ := id hN
  by_cases h0 : ne = 0
  · subst h0
    refine agn_q (r := nN) (s1 := s) hI ?_ (fr_rfl s) (fun s2 h2 => ⟨a_si s2 43 0 (nI 0), ?_, fr_si (fr_rfl s2) (.inr (by decide))⟩)
    · rw [tX8_forget]
      try simp only [k_lit, k_nN, k_ofN]
      rw [kx]
      simp (disch := omega) only [i_leT, i_leF, i_ltT, i_ltF, i_eqT, i_eqF, i_okT, i_n1, i_n2, i_n3, i_n4, i_n5, i_n6, i_n7, i_n8, k_cl, if_true, if_false]
    · rw [tX9_forget]
      try simp only [k_lit, k_nN, k_ofN]
      rw [scB h2 43 53 rfl rfl, km]
      simp (disch := omega) only [i_leT, i_leF, i_ltT, i_ltF, i_eqT, i_eqF, i_okT, i_n1, i_n2, i_n3, i_n4, i_n5, i_n6, i_n7, i_n8, k_cl, if_true, if_false]
  · have e1 : fX8_forget [.ref 0] s = some (.inl (some (.int (nI (ne - 1)))), a_si s 22 4 (nI (ne - 1))) := by
      rw [tX8_forget]
      try simp only [k_lit, k_nN, k_ofN]
      rw [kx, pk_sub (by omega)]
      simp (disch := omega) only [i_leT, i_leF, i_ltT, i_ltF, i_eqT, i_eqF, i_okT, i_n1, i_n2, i_n3, i_n4, i_n5, i_n6, i_n7, i_n8, k_cl, if_true, if_false]
    refine ⟨_, _, e1, rfl, a_si (a_si (a_si s 22 4 (nI (ne - 1))) 43 0 (nI 0)) 43 53 (nI (ne - 1)), ?_, ?_, rfl⟩
    · rw [tX9_forget]
      try simp only [k_lit, k_nN, k_ofN]
      have e2 : (a_si s 22 4 (nI (ne - 1))).1 43 53 = nI ne := by simp [m_si, km]
      rw [e2, pk_sub (by omega)]
      simp (disch := omega) only [i_leT, i_leF, i_ltT, i_ltF, i_eqT, i_eqF, i_okT, i_n1, i_n2, i_n3, i_n4, i_n5, i_n6, i_n7, i_n8, k_cl, if_true, if_false]
    · have F : fx [] [(22, 4), (43, 0), (43, 53)] s (a_si (a_si (a_si s 22 4 (nI (ne - 1))) 43 0 (nI 0)) 43 53 (nI (ne - 1))) := fx_si (fx_si (fx_si (fx_rfl s) rfl) rfl) rfl
      refine ⟨nb, nr, c, LibI_fx hL F rfl rfl, ?_, ImgI_fx hG F rfl rfl, RowI_fx hR F rfl rfl, TapI_fx hT F rfl rfl, CntI_fx hC F rfl⟩
      unfold NowI
      rw [fxA (ks := [46, 23, 45, 24, 59, 25, 69]) F rfl (k := 46) (by decide), fxA (ks := [46, 23, 45, 24, 59, 25, 69]) F rfl (k := 23) (by decide), fxA (ks := [46, 23, 45, 24, 59, 25, 69]) F rfl (k := 45) (by decide), fxA (ks := [46, 23, 45, 24, 59, 25, 69]) F rfl (k := 24) (by decide), fxA (ks := [46, 23, 45, 24, 59, 25, 69]) F rfl (k := 59) (by decide), fxA (ks := [46, 23, 45, 24, 59, 25, 69]) F rfl (k := 25) (by decide), fxA (ks := [46, 23, 45, 24, 59, 25, 69]) F rfl (k := 69) (by decide)]
      refine ⟨hO, nm, ne - 1, hm, by omega, ?_, ?_, ?_, ?_, hmv, hh, fun e hl => hev e (by omega)⟩ <;> simp [m_si, cx, cm]
