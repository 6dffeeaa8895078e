/-! ===== row ===== -/
theorem dv144 {r l t : Nat} (hr : r < 1000) (hl : l < 12) (ht : t < 12) : nI (144 * r + 12 * l + t) / nI 144 = nI r := by
  rw [pk_div (by omega) (by omega) (by omega)]
  congr 1
  omega
theorem dv12 {r l t : Nat} (hr : r < 1000) (hl : l < 12) (ht : t < 12) : nI (144 * r + 12 * l + t) / nI 12 = nI (12 * r + l) := by
  rw [pk_div (by omega) (by omega) (by omega)]
  congr 1
  omega
theorem rm12 {r l : Nat} (hr : r < 10000) (hl : l < 12) : nI (12 * r + l) - nI (12 * r + l) / nI 12 * nI 12 = nI l := by
  rw [pk_rem (by omega) (by omega) (by omega)]
  congr 1
  omega
theorem rm144 {r l t : Nat} (hr : r < 1000) (hl : l < 12) (ht : t < 12) : nI (144 * r + 12 * l + t) - nI (144 * r + 12 * l + t) / nI 12 * nI 12 = nI t := by
  rw [pk_rem (by omega) (by omega) (by omega)]
  congr 1
  omega
theorem op_row {s : aMem} (hI : Inv s) (v w : Int32) : agr (fX8_row [.ref 0, .int v, .int w]) (fX9_row [.ref 43, .int v, .int w]) (fun _ => 1) s := by
  obtain ⟨nb, nr, c, hL, hN, hG, hR, hT, hC⟩ := id hI
  have bad : ∀ s2 : aMem, a_bi (ρ := Option aRes) (fX9_right [.ref 43, .int (nI 0), .int (nI 1)] (a_si s2 43 0 (nI 0))) (fun r2 s1 => a_run none shp pX9_row 60 [some (.ref 43), some (.int v), some (.int w), none] [.int r2] s1) none (fun x s1 => some (.inr x, s1)) = some (.inl (some (.int (nI 0))), a_si (a_si s2 43 0 (nI 0)) 43 0 (nI 1)) := by
    intro s2
    rw [sX9_rightF (by simp [m_si]) (by omega) (by omega), b_bi, tX9_row_60]
    try simp only [k_lit, k_nN, k_ofN]
    simp (disch := omega) only [i_leT, i_leF, i_ltT, i_ltF, i_eqT, i_eqF, i_okT, i_n1, i_n2, i_n3, i_n4, i_n5, i_n6, i_n7, i_n8, k_cl, if_true, if_false]
  rcases hR with ⟨h1, h2⟩ | ⟨h1, k, hk, h2, h3, h4⟩
  · refine agr_x (x := 0) (s1 := s) hI ?_ (fr_rfl s) (by omega) (fun s2 f2 => ⟨nI 0, a_si (a_si s2 43 0 (nI 0)) 43 0 (nI 1), ?_, by simp [m_si], fr_si (fr_si (fr_rfl s2) (.inr (by decide))) (.inr (by decide))⟩)
    · rw [tX8_row]
      try simp only [k_lit, k_nN, k_ofN, h1]
      simp (disch := omega) only [i_leT, i_leF, i_ltT, i_ltF, i_eqT, i_eqF, i_okT, i_n1, i_n2, i_n3, i_n4, i_n5, i_n6, i_n7, i_n8, k_cl, if_true, if_false]
    · rw [tX9_row]
      try simp only [k_lit, k_nN, k_ofN]
      rw [scB f2 43 50 rfl rfl, h2, sX9_rightF (by simp [m_si]) (by omega) (by omega), b_bi, tX9_row_14]
      try simp only [k_lit, k_nN, k_ofN]
      simp (disch := omega) only [i_leT, i_leF, i_ltT, i_ltF, i_eqT, i_eqF, i_okT, i_n1, i_n2, i_n3, i_n4, i_n5, i_n6, i_n7, i_n8, k_cl, if_true, if_false]
  · have hM : ∀ s2 : aMem, fw s s2 → fX9_row [.ref 43, .int v, .int w] s2 = a_run none shp pX9_row 14 [some (.ref 43), some (.int v), some (.int w), none] [.int (nI 1)] (a_si s2 43 0 (nI 0)) := by
      intro s2 f2
      rw [tX9_row]
      try simp only [k_lit, k_nN, k_ofN]
      rw [scB f2 43 50 rfl rfl, h1, sX9_rightT (by simp [m_si]), b_bi]
    have h52 : ∀ s2 : aMem, fw s s2 → (a_si s2 43 0 (nI 0)).1 43 52 = nI k := by
      intro s2 f2
      simp [m_si, scB f2 43 52 rfl rfl, h3]
    have h68 : ∀ s2 : aMem, fw s s2 → (a_si s2 43 0 (nI 0)).1 68 = s.1 68 := by
      intro s2 f2
      rw [z_ne (by decide), scA f2 68 rfl rfl]
    by_cases hvN : v = nN
    · subst hvN
      refine agr_q (r := nI k) (s1 := s) hI ?_ (fr_rfl s) (fun s2 f2 => ⟨a_si s2 43 0 (nI 0), ?_, by simp [m_si], fr_si (fr_rfl s2) (.inr (by decide))⟩)
      · rw [tX8_row]
        try simp only [k_lit, k_nN, k_ofN, h2]
        simp (disch := omega) only [i_leT, i_leF, i_ltT, i_ltF, i_eqT, i_eqF, i_okT, i_n1, i_n2, i_n3, i_n4, i_n5, i_n6, i_n7, i_n8, k_cl, if_true, if_false]
      · rw [hM s2 f2, tX9_row_14]
        try simp only [k_lit, k_nN, k_ofN]
        simp (disch := omega) only [i_leT, i_leF, i_ltT, i_ltF, i_eqT, i_eqF, i_okT, i_n1, i_n2, i_n3, i_n4, i_n5, i_n6, i_n7, i_n8, k_cl, if_true, if_false]
        rw [h52 s2 f2]
    · by_cases hv : vb k v
      · obtain ⟨i, hi, rfl⟩ := hv
        by_cases hw : vb 3 w
        · obtain ⟨j, hj, rfl⟩ := hw
          obtain ⟨r, l, t, hr, hl, ht, q0, q1, q2, q3⟩ := h4 i hi
          refine agr_q (r := nI (if j = 0 then r else if j = 1 then l else t)) (s1 := s) hI ?_ (fr_rfl s) (fun s2 f2 => ⟨a_si s2 43 0 (nI 0), ?_, by simp [m_si], fr_si (fr_rfl s2) (.inr (by decide))⟩)
          · rw [tX8_row]
            try simp only [k_lit, k_nN, k_ofN, h2]
            simp (disch := omega) only [i_leT, i_leF, i_ltT, i_ltF, i_eqT, i_eqF, i_okT, i_n1, i_n2, i_n3, i_n4, i_n5, i_n6, i_n7, i_n8, k_cl, if_true, if_false]
            rw [sX8_needWhatT (by omega) hj, b_bv, h2, pk_mul, nI_add]
            simp (disch := omega) only [i_leT, i_leF, i_ltT, i_ltF, i_eqT, i_eqF, i_okT, i_n1, i_n2, i_n3, i_n4, i_n5, i_n6, i_n7, i_n8, k_cl, if_true, if_false]
            rcases (show j = 0 ∨ j = 1 ∨ j = 2 by omega) with e | e | e <;> subst e
            · rw [Nat.add_zero, q0]; simp
            · rw [q1]; simp
            · rw [q2]; simp
          · rw [hM s2 f2, tX9_row_14]
            try simp only [k_lit, k_nN, k_ofN]
            simp (disch := omega) only [i_leT, i_leF, i_ltT, i_ltF, i_eqT, i_eqF, i_okT, i_n1, i_n2, i_n3, i_n4, i_n5, i_n6, i_n7, i_n8, k_cl, if_true, if_false]
            rw [h52 s2 f2]
            simp (disch := omega) only [i_leT, i_leF, i_ltT, i_ltF, i_eqT, i_eqF, i_okT, i_n1, i_n2, i_n3, i_n4, i_n5, i_n6, i_n7, i_n8, k_cl, if_true, if_false]
            rw [sX9_withinT (n := 2) (by omega) (by omega), b_bi, tX9_row_48]
            try simp only [k_lit, k_nN, k_ofN]
            simp (disch := omega) only [i_leT, i_leF, i_ltT, i_ltF, i_eqT, i_eqF, i_okT, i_n1, i_n2, i_n3, i_n4, i_n5, i_n6, i_n7, i_n8, k_cl, if_true, if_false]
            rw [sX9_rightT (by simp [m_si]), b_bi, tX9_row_60]
            try simp only [k_lit, k_nN, k_ofN]
            simp (disch := omega) only [i_leT, i_leF, i_ltT, i_ltF, i_eqT, i_eqF, i_okT, i_n1, i_n2, i_n3, i_n4, i_n5, i_n6, i_n7, i_n8, k_cl, if_true, if_false]
            rw [h68 s2 f2, q3, dv144 (by omega) hl ht, dv12 (by omega) hl ht, rm12 (by omega) hl]
            rcases (show j = 0 ∨ j = 1 ∨ j = 2 by omega) with e | e | e <;> subst e
            · simp (disch := omega) only [i_leT, i_leF, i_ltT, i_ltF, i_eqT, i_eqF, i_okT, i_n1, i_n2, i_n3, i_n4, i_n5, i_n6, i_n7, i_n8, k_cl, if_true, if_false]
            · simp (disch := omega) only [i_leT, i_leF, i_ltT, i_ltF, i_eqT, i_eqF, i_okT, i_n1, i_n2, i_n3, i_n4, i_n5, i_n6, i_n7, i_n8, k_cl, if_true, if_false]
              simp
            · simp (disch := omega) only [i_leT, i_leF, i_ltT, i_ltF, i_eqT, i_eqF, i_okT, i_n1, i_n2, i_n3, i_n4, i_n5, i_n6, i_n7, i_n8, k_cl, if_true, if_false]
              rw [← dv12 (by omega) hl ht, rm144 (by omega) hl ht]
              simp
        · refine agr_x (x := 0) (s1 := s) hI ?_ (fr_rfl s) (by omega) (fun s2 f2 => ⟨nI 0, a_si (a_si s2 43 0 (nI 0)) 43 0 (nI 1), ?_, by simp [m_si], fr_si (fr_si (fr_rfl s2) (.inr (by decide))) (.inr (by decide))⟩)
          · rw [tX8_row]
            try simp only [k_lit, k_nN, k_ofN, h2]
            simp (disch := omega) only [i_leT, i_leF, i_ltT, i_ltF, i_eqT, i_eqF, i_okT, i_n1, i_n2, i_n3, i_n4, i_n5, i_n6, i_n7, i_n8, k_cl, if_true, if_false]
            rw [sX8_needWhatF (by omega) hw, b_bvx]
          · rw [hM s2 f2, tX9_row_14]
            try simp only [k_lit, k_nN, k_ofN]
            simp (disch := omega) only [i_leT, i_leF, i_ltT, i_ltF, i_eqT, i_eqF, i_okT, i_n1, i_n2, i_n3, i_n4, i_n5, i_n6, i_n7, i_n8, k_cl, if_true, if_false]
            rw [h52 s2 f2]
            simp (disch := omega) only [i_leT, i_leF, i_ltT, i_ltF, i_eqT, i_eqF, i_okT, i_n1, i_n2, i_n3, i_n4, i_n5, i_n6, i_n7, i_n8, k_cl, if_true, if_false]
            rw [sX9_withinF (n := 2) (by omega) hw, b_bi, tX9_row_48]
            try simp only [k_lit, k_nN, k_ofN]
            simp (disch := omega) only [i_leT, i_leF, i_ltT, i_ltF, i_eqT, i_eqF, i_okT, i_n1, i_n2, i_n3, i_n4, i_n5, i_n6, i_n7, i_n8, k_cl, if_true, if_false]
            exact bad s2
      · refine agr_x (x := 0) (s1 := s) hI ?_ (fr_rfl s) (by omega) (fun s2 f2 => ⟨nI 0, a_si (a_si s2 43 0 (nI 0)) 43 0 (nI 1), ?_, by simp [m_si], fr_si (fr_si (fr_rfl s2) (.inr (by decide))) (.inr (by decide))⟩)
        · rw [tX8_row]
          try simp only [k_lit, k_nN, k_ofN, h2]
          simp (disch := omega) only [i_leT, i_leF, i_ltT, i_ltF, i_eqT, i_eqF, i_okT, i_n1, i_n2, i_n3, i_n4, i_n5, i_n6, i_n7, i_n8, k_cl, if_true, if_false]
          rw [if_neg hvN]
          by_cases hw : vb 3 w
          · obtain ⟨j, hj, rfl⟩ := hw
            rw [sX8_needWhatT (by omega) hj, b_bv, h2]
            rcases vb_no (by omega) hv with g1 | ⟨g1, g2⟩
            · rw [if_pos g1]
            · rw [if_neg g1, if_neg (Int32.not_lt.mpr g2)]
          · rw [sX8_needWhatF (by omega) hw, b_bvx]
        · rw [hM s2 f2, tX9_row_14]
          try simp only [k_lit, k_nN, k_ofN]
          simp (disch := omega) only [i_leT, i_leF, i_ltT, i_ltF, i_eqT, i_eqF, i_okT, i_n1, i_n2, i_n3, i_n4, i_n5, i_n6, i_n7, i_n8, k_cl, if_true, if_false]
          rw [if_neg hvN, h52 s2 f2]
          rcases vb_no (by omega) hv with g1 | ⟨g1, g2⟩
          · rw [if_pos g1]; exact bad s2
          · rw [if_neg g1, if_pos g2]; exact bad s2
