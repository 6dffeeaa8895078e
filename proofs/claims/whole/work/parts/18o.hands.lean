/-! ===== hands agrees ===== -/
theorem lt_nN {w : Int32} (h : w < nI 0) (h2 : w ≠ nN) : w < nN := by
  have a := Int32.lt_iff_toInt_lt.mp h
  rw [nI_toInt (by omega)] at a
  apply Int32.lt_iff_toInt_lt.mpr
  rw [k_nNt]
  have b : w.toInt ≠ -1 := by
    intro e
    apply h2
    apply Int32.toInt_inj.mp
    rw [e, k_nNt]
  omega
theorem mvd_cg {mv mv' : Nat → Int32} {b : Int32} {nm m : Nat} (h : ∀ j, j < 4 * nm → mv j = mv' j) (hm : m < nm) : mvd mv b m = mvd mv' b m := by
  unfold mvd
  rw [h _ (by omega), h _ (by omega)]
theorem wnt_cg {mv mv' : Nat → Int32} {b : Int32} {nm m : Nat} (h : ∀ j, j < 4 * nm → mv j = mv' j) (hm : m < nm) : wnt mv b m = wnt mv' b m := by
  unfold wnt
  rw [h _ (by omega), h _ (by omega), h _ (by omega)]
theorem chg_cg {mv mv' : Nat → Int32} {b : Int32} {nm : Nat} (h : ∀ j, j < 4 * nm → mv j = mv' j) : ∀ m, m ≤ nm → chg mv b m = chg mv' b m
  | 0, _ => rfl
  | m + 1, hm => by
    unfold chg
    rw [chg_cg h m (by omega), mvd_cg h (by omega)]
theorem chg_mono (mv : Nat → Int32) (b : Int32) (k : Nat) : ∀ d, chg mv b k ≤ chg mv b (k + d)
  | 0 => Nat.le_refl _
  | d + 1 => Nat.le_trans (chg_mono mv b k d) (Nat.le_add_right _ _)
theorem op_hands {s : aMem} (hI : Inv s) (v w : Int32) : agr (fX8_hands [.ref 0, .int v, .int w]) (fX9_hands [.ref 43, .int v, .int w]) (fun _ => 1) s := by
  obtain ⟨nb, nr, c, hL, hN, hG, hR, hT, hC⟩ := id hI
  obtain ⟨⟨hnb, hnr⟩, ⟨b1, b2⟩, ⟨r1, r2⟩, -, -, -, -, -, hO18⟩ := id hL
  obtain ⟨hO, nm, ne, hm, he, cx, cm, kx, km, hmv, hh, hev⟩ := id hN
  have bad : ∀ s2 : aMem, a_run none shp pX9_hands 23 [some (.ref 43), some (.int v), some (.int w), none, none, none, none] [.ref 43] (a_si s2 43 0 (nI 0)) = some (.inl (some (.int (nI 0))), a_si (a_si s2 43 0 (nI 0)) 43 0 (nI 1)) := by
    intro s2
    rw [tX9_hands_23, tX9_hands_24]
    try simp only [k_lit, k_nN, k_ofN]
    rw [sX9_rightF (by simp [m_si]) (by omega) (by omega), b_bi, tX9_hands_28]
    try simp only [k_lit, k_nN, k_ofN]
    simp (disch := omega) only [i_leT, i_leF, i_ltT, i_ltF, i_eqT, i_eqF, i_okT, i_n1, i_n2, i_n3, i_n4, i_n5, i_n6, i_n7, i_n8, k_cl, if_true, if_false]
  by_cases hv : vb nb v
  · obtain ⟨b, hb, rfl⟩ := hv
    obtain ⟨wf, w0, wm, wc⟩ := id hh
    have wc2 := fun m hm2 => h_step (mv := s.1 59) (o0 := s.1 46) (nm := nm) hnb hnr hb (wc m hm2)
    have hX : fX8_hands [.ref 0, .int (nI b), .int w] s = a_run none shp pX8_hands 5 [some (.ref 0), some (.int (nI b)), some (.int w)] [] s := by
      rw [tX8_hands, sX8_needBookT b1 hnb hb, b_bv]
    have hM : ∀ s2 : aMem, fw s s2 → ¬ w < nN → fX9_hands [.ref 43, .int (nI b), .int w] s2 = if w = nI 0 then some (.inl (some (.int (s.1 46 b))), a_si s2 43 0 (nI 0)) else a_run none shp pX9_hands 56 [some (.ref 43), some (.int (nI b)), some (.int w), some (.int (nI (chg (s.1 59) (nI b) 0 + 1))), some (.int (wf 0 b)), some (.int (nI 0)), none] [] (a_si s2 43 0 (nI 0)) := by
      intro s2 f2 hw
      rw [tX9_hands]
      try simp only [k_lit, k_nN, k_ofN]
      rw [sX9_isBookT (nb := nb) (by simp [m_si, scB f2 43 1 rfl rfl, b2]) hnb hb, b_bi, tX9_hands_11]
      try simp only [k_lit, k_nN, k_ofN]
      simp (disch := omega) only [i_leT, i_leF, i_ltT, i_ltF, i_eqT, i_eqF, i_okT, i_n1, i_n2, i_n3, i_n4, i_n5, i_n6, i_n7, i_n8, k_cl, if_true, if_false]
      rw [if_neg hw, tX9_hands_24]
      try simp only [k_lit, k_nN, k_ofN]
      rw [sX9_rightT (by simp [m_si]), b_bi, tX9_hands_28]
      try simp only [k_lit, k_nN, k_ofN]
      simp (disch := omega) only [i_leT, i_leF, i_ltT, i_ltF, i_eqT, i_eqF, i_okT, i_n1, i_n2, i_n3, i_n4, i_n5, i_n6, i_n7, i_n8, k_cl, if_true, if_false]
      rw [z_ne (by decide), scA f2 46 rfl rfl, w0 b hb]
      rfl
    have h59 : ∀ s2 : aMem, fw s s2 → (a_si s2 43 0 (nI 0)).1 59 = s.1 59 := by
      intro s2 f2
      rw [z_ne (by decide), scA f2 59 rfl rfl]
    have h35 : ∀ s2 : aMem, fw s s2 → (a_si s2 43 0 (nI 0)).1 43 35 = nI nm := by
      intro s2 f2
      simp [m_si, scB f2 43 35 rfl rfl, cm]
    have hch := chg_cg (b := nI b) hmv
    have hlen := chg_le (s.1 59) (nI b) nm
    have LL := fun (s2 : aMem) (f2 : fw s s2) => @sX9_handsL (a_si s2 43 0 (nI 0)) nb nr nm b wf w hnb hnr hm (h35 s2 f2) (by simp [m_si]) hb (by rw [h59 s2 f2]; exact wc2) nm 0 (by omega)
    by_cases hwN : w = nN
    · subst hwN
      refine agr_q (r := nI (chg (s.1 59) (nI b) nm + 1)) (s1 := s) hI ?_ (fr_rfl s) (fun s2 f2 => ⟨a_si s2 43 0 (nI 0), ?_, by simp [m_si], fr_si (fr_rfl s2) (.inr (by decide))⟩)
      · rw [hX, tX8_hands_5]
        try simp only [k_lit, k_nN, k_ofN]
        simp (disch := omega) only [i_leT, i_leF, i_ltT, i_ltF, i_eqT, i_eqF, i_okT, i_n1, i_n2, i_n3, i_n4, i_n5, i_n6, i_n7, i_n8, k_cl, if_true, if_false]
        rw [sX4_changesOf hm cx, b_bi, tX8_hands_19]
        rw [nI_add, hch nm (by omega), Nat.add_comm]
      · rw [hM s2 f2 (by decide), if_neg (nN_ne (by omega))]
        have := (LL s2 f2 (nN_ne (by omega)) (fun j hj => nN_ne (by have : chg ((a_si s2 43 0 (nI 0)).1 59) (nI b) 0 = 0 := rfl; omega))).1 rfl
        rw [h59 s2 f2] at this
        exact this
    · by_cases hw0 : w < nI 0
      · refine agr_x (x := 0) (s1 := s) hI ?_ (fr_rfl s) (by omega) (fun s2 f2 => ⟨nI 0, a_si (a_si s2 43 0 (nI 0)) 43 0 (nI 1), ?_, by simp [m_si], fr_si (fr_si (fr_rfl s2) (.inr (by decide))) (.inr (by decide))⟩)
        · rw [hX, tX8_hands_5]
          try simp only [k_lit, k_nN, k_ofN]
          rw [if_neg hwN, if_pos hw0]
        · rw [tX9_hands]
          try simp only [k_lit, k_nN, k_ofN]
          rw [sX9_isBookT (nb := nb) (by simp [m_si, scB f2 43 1 rfl rfl, b2]) hnb hb, b_bi, tX9_hands_11]
          try simp only [k_lit, k_nN, k_ofN]
          simp (disch := omega) only [i_leT, i_leF, i_ltT, i_ltF, i_eqT, i_eqF, i_okT, i_n1, i_n2, i_n3, i_n4, i_n5, i_n6, i_n7, i_n8, k_cl, if_true, if_false]
          rw [if_pos (lt_nN hw0 hwN)]
          exact bad s2
      · obtain ⟨i, hi, rfl⟩ := nI_of hw0
        by_cases hi0 : i = 0
        · subst hi0
          refine agr_q (r := s.1 46 b) (s1 := s) hI ?_ (fr_rfl s) (fun s2 f2 => ⟨a_si s2 43 0 (nI 0), ?_, by simp [m_si], fr_si (fr_rfl s2) (.inr (by decide))⟩)
          · rw [hX, tX8_hands_5]
            try simp only [k_lit, k_nN, k_ofN]
            simp (disch := omega) only [i_leT, i_leF, i_ltT, i_ltF, i_eqT, i_eqF, i_okT, i_n1, i_n2, i_n3, i_n4, i_n5, i_n6, i_n7, i_n8, k_cl, if_true, if_false]
            rw [sX4_changesOf hm cx, b_bi, tX8_hands_34]
            try simp only [k_lit, k_nN, k_ofN]
            rw [hch nm (by omega)]
            simp (disch := omega) only [i_leT, i_leF, i_ltT, i_ltF, i_eqT, i_eqF, i_okT, i_n1, i_n2, i_n3, i_n4, i_n5, i_n6, i_n7, i_n8, k_cl, if_true, if_false]
            rw [sX8_placeOf18 hnb hnr hO18 hb, b_bi]
          · rw [hM s2 f2 (by rw [k_nN3 (by omega)]; exact id), if_pos rfl]
        · have hlen2 := chg_le (s.1 59) (nI b)
          have L2 := fun s2 f2 => (LL s2 f2 (nI_ne (by omega) (by omega) hi0) (fun j hj => nI_ne (by omega) (by have : chg ((a_si s2 43 0 (nI 0)).1 59) (nI b) 0 = 0 := rfl; omega) (by have : chg ((a_si s2 43 0 (nI 0)).1 59) (nI b) 0 = 0 := rfl; omega))).2 hwN
          have hXi : fX8_hands [.ref 0, .int (nI b), .int (nI i)] s = if i ≤ chg (s.1 59) (nI b) nm then a_bi (fX4_placeAfterChange [.ref 22, .int (nI b), .int (nI i)] s) (fun r2 s1 => some (.inl (some (.int r2)), s1)) none (fun x s1 => some (.inr x, s1)) else some (.inr 0, a_tk s) := by
            rw [hX, tX8_hands_5]
            try simp only [k_lit, k_nN, k_ofN]
            simp (disch := omega) only [i_leT, i_leF, i_ltT, i_ltF, i_eqT, i_eqF, i_okT, i_n1, i_n2, i_n3, i_n4, i_n5, i_n6, i_n7, i_n8, k_cl, if_true, if_false]
            rw [sX4_changesOf hm cx, b_bi, tX8_hands_34]
            try simp only [k_lit, k_nN, k_ofN]
            rw [hch nm (by omega)]
            by_cases q : i ≤ chg (s.1 59) (nI b) nm
            · rw [if_pos q]
              simp (disch := omega) only [i_leT, i_leF, i_ltT, i_ltF, i_eqT, i_eqF, i_okT, i_n1, i_n2, i_n3, i_n4, i_n5, i_n6, i_n7, i_n8, k_cl, if_true, if_false]
            · rw [if_neg q]
              simp (disch := omega) only [i_leT, i_leF, i_ltT, i_ltF, i_eqT, i_eqF, i_okT, i_n1, i_n2, i_n3, i_n4, i_n5, i_n6, i_n7, i_n8, k_cl, if_true, if_false]
          by_cases q : i ≤ chg (s.1 59) (nI b) nm
          · -- there is such a change
            rcases L2 s (fw_rfl s) with ⟨m, m1, m2, m3, -⟩ | ⟨n1, -⟩
            · rw [h59 s (fw_rfl s)] at m2 m3
              have m4 := (nI_eq hi (by have := hlen2 m; omega)).mp m3
              refine agr_q (r := wnt (s.1 59) (nI b) m) (s1 := s) hI ?_ (fr_rfl s) (fun s2 f2 => ⟨a_si s2 43 0 (nI 0), ?_, by simp [m_si], fr_si (fr_rfl s2) (.inr (by decide))⟩)
              · rw [hXi, if_pos q, sX4_placeAfterChange (m := m) hm cx (by omega) m1 (by rw [hch m (by omega)]; omega) (by rw [mvd_cg hmv m1]; exact m2), b_bi, wnt_cg hmv m1]
              · rw [hM s2 f2 (by rw [k_nN3 (by omega)]; exact id), if_neg (nI_ne (by omega) (by omega) hi0)]
                rcases L2 s2 f2 with ⟨m', n1, n2, n3, n4⟩ | ⟨n1, -⟩
                · rw [h59 s2 f2] at n2 n3 n4
                  have n5 := (nI_eq hi (by have := hlen2 m'; omega)).mp n3
                  have em : m' = m := by
                    rcases Nat.lt_trichotomy m' m with c1 | c1 | c1
                    · have := chg_mono (s.1 59) (nI b) (m' + 1) (m - (m' + 1))
                      rw [show m' + 1 + (m - (m' + 1)) = m by omega] at this
                      have e8 : chg (s.1 59) (nI b) (m' + 1) = chg (s.1 59) (nI b) m' + 1 := by
                        show chg (s.1 59) (nI b) m' + (mvd (s.1 59) (nI b) m').toNat = _
                        rw [n2]
                        rfl
                      omega
                    · exact c1
                    · have := chg_mono (s.1 59) (nI b) (m + 1) (m' - (m + 1))
                      rw [show m + 1 + (m' - (m + 1)) = m' by omega] at this
                      have e8 : chg (s.1 59) (nI b) (m + 1) = chg (s.1 59) (nI b) m + 1 := by
                        show chg (s.1 59) (nI b) m + (mvd (s.1 59) (nI b) m).toNat = _
                        rw [m2]
                        rfl
                      omega
                  rw [em] at n4
                  exact n4
                · rw [h59 s2 f2] at n1
                  exact absurd rfl (n1 i (by omega))
            · rw [h59 s (fw_rfl s)] at n1
              exact absurd rfl (n1 i (by omega))
          · refine agr_x (x := 0) (s1 := s) hI ?_ (fr_rfl s) (by omega) (fun s2 f2 => ⟨nI 0, a_si (a_si s2 43 0 (nI 0)) 43 0 (nI 1), ?_, by simp [m_si], fr_si (fr_si (fr_rfl s2) (.inr (by decide))) (.inr (by decide))⟩)
            · rw [hXi, if_neg q]
            · rw [hM s2 f2 (by rw [k_nN3 (by omega)]; exact id), if_neg (nI_ne (by omega) (by omega) hi0)]
              rcases L2 s2 f2 with ⟨m', n1, n2, n3, n4⟩ | ⟨-, n4⟩
              · exfalso
                rw [h59 s2 f2] at n2 n3
                have n5 := (nI_eq hi (by have := hlen2 m'; omega)).mp n3
                have := chg_mono (s.1 59) (nI b) (m' + 1) (nm - (m' + 1))
                rw [show m' + 1 + (nm - (m' + 1)) = nm by omega] at this
                have e8 : chg (s.1 59) (nI b) (m' + 1) = chg (s.1 59) (nI b) m' + 1 := by
                  show chg (s.1 59) (nI b) m' + (mvd (s.1 59) (nI b) m').toNat = _
                  rw [n2]
                  rfl
                omega
              · rw [h59 s2 f2] at n4
                exact n4
  · refine agr_x (x := 0) (s1 := s) hI ?_ (fr_rfl s) (by omega) (fun s2 f2 => ⟨nI 0, a_si (a_si s2 43 0 (nI 0)) 43 0 (nI 1), ?_, by simp [m_si], fr_si (fr_si (fr_rfl s2) (.inr (by decide))) (.inr (by decide))⟩)
    · rw [tX8_hands, sX8_needBookF b1 hnb hv, b_bvx]
    · rw [tX9_hands]
      try simp only [k_lit, k_nN, k_ofN]
      rw [sX9_isBookF (nb := nb) (by simp [m_si, scB f2 43 1 rfl rfl, b2]) hnb hv, b_bi, tX9_hands_11]
      try simp only [k_lit, k_nN, k_ofN]
      simp (disch := omega) only [i_leT, i_leF, i_ltT, i_ltF, i_eqT, i_eqF, i_okT, i_n1, i_n2, i_n3, i_n4, i_n5, i_n6, i_n7, i_n8, k_cl, if_true, if_false]
      exact bad s2
