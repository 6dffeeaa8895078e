/-! ===== undo, event ===== -/
theorem k_pred (n : Nat) : nI (n + 1) - nI 1 = nI n := nI_pred n
theorem xtr_sw {x : Nat → Nat} {r p l t : Nat} : xtr x r p l t = xtr x p r l t := by
  funext k
  unfold xtr
  by_cases h : k = r ∨ k = p
  · rw [if_pos h, if_pos h.symm]
  · rw [if_neg h, if_neg (fun c => h c.symm)]
theorem op_undo {s : aMem} (hI : Inv s) : agn (fX8_undo [.ref 0]) (fX9_undo [.ref 43]) s := by
  obtain ⟨nb, nr, c, hL, hN, hG, hR, hT, hC⟩ := id hI
  obtain ⟨⟨hnb, hnr⟩, ⟨b1, b2⟩, ⟨r1, r2⟩, -, -, -, -, -, -⟩ := id hL
  obtain ⟨hO, nm, ne, hm, he, cx, cm, kx, km, hmv, hh, hev⟩ := id hN
  by_cases h0 : nm = 0
  · subst h0
    refine agn_q (r := nN) (s1 := s) hI ?_ (fr_rfl s) (fun s2 h2 => ⟨a_si s2 43 0 (nI 0), ?_, fr_si (fr_rfl s2) (.inr (by decide))⟩)
    · rw [tX8_undo]
      try simp only [k_lit, k_nN, k_ofN]
      rw [cx]
      simp (disch := omega) only [i_leT, i_leF, i_ltT, i_ltF, i_eqT, i_eqF, i_okT, i_n1, i_n2, i_n3, i_n4, i_n5, i_n6, i_n7, i_n8, k_cl, if_true, if_false]
    · rw [tX9_undo]
      try simp only [k_lit, k_nN, k_ofN]
      rw [scB h2 43 35 rfl rfl, cm]
      simp (disch := omega) only [i_leT, i_leF, i_ltT, i_ltF, i_eqT, i_eqF, i_okT, i_n1, i_n2, i_n3, i_n4, i_n5, i_n6, i_n7, i_n8, k_cl, if_true, if_false]
  · obtain ⟨m, rfl⟩ : ∃ m, nm = m + 1 := ⟨nm - 1, by omega⟩
    obtain ⟨w, w0, wm, wc⟩ := id hh
    obtain ⟨r, l, t, q, hr, hl, ht, hlt, hq, e0, e1, e2, e3, wl, wt, wn⟩ := wc m (by omega)
    obtain ⟨p, hp, hqp⟩ : ∃ p, (p = 5 ∨ (p < nr ∧ p ≠ r)) ∧ q = plc p := by
      rcases hq with e | ⟨p, hp1, hp2, e⟩
      · exact ⟨5, .inl rfl, e⟩
      · exact ⟨p, .inr ⟨hp1, hp2⟩, by rw [plc_r (by omega)]; exact e⟩
    subst hqp
    have hp6 : p < 6 := by rcases hp with e | ⟨e, -⟩ <;> omega
    have hrp : r ≠ p := by rcases hp with e | ⟨-, e⟩ <;> omega
    have ol : s.1 45 l = plc p := by rw [← wm l hl, wn l hl, if_pos rfl]
    have ot : s.1 45 t = plc r := by rw [← wm t ht, wn t ht, if_neg (fun e => hlt e.symm), if_pos rfl, plc_r (by omega)]
    have hs2 : sOk ((a_si s 22 2 (nI m)).1 23) (oset nb (s.1 45)) := by
      intro k hk
      simpa [m_si] using Own_s hnb hO k hk
    have m24 : (a_si s 22 2 (nI m)).1 24 = s.1 24 := by funext j; simp [m_si]
    obtain ⟨u, hu, fu, xu⟩ := sX4_tradeMove hs2 (m := m) (r := r) (p := p) (l := l) (t := t) (by omega) (by omega) hp6 hrp (by omega) (by omega) (by rw [m24, hmv _ (by omega), e0]) (by rw [m24, hmv _ (by omega), e1]) (by rw [m24, hmv _ (by omega), e2]) (by rw [m24, hmv _ (by omega), e3])
    have cu : u.1 22 2 = nI m := by
      rw [fu.1 22 2 (by decide) (by decide)]
      simp [m_si]
    have E : ∀ k, k ≠ 22 → k ≠ 23 → u.1 k = s.1 k := by
      intro k hk hk2
      funext j
      rw [fu.1 k j (by simp [hk2]) (by simp)]
      simp [m_si, hk]
    refine ⟨nI m, u, ?_, fu.2.2, a_si (a_si (a_si (a_si u 43 0 (nI 0)) 43 35 (nI m)) 45 l (nI r)) 45 t (plc p), ?_, ?_, fu.2.2⟩
    · rw [tX8_undo]
      try simp only [k_lit, k_nN, k_ofN]
      rw [cx]
      simp (disch := omega) only [i_leT, i_leF, i_ltT, i_ltF, i_eqT, i_eqF, i_okT, i_n1, i_n2, i_n3, i_n4, i_n5, i_n6, i_n7, i_n8, k_cl, if_true, if_false]
      rw [tX4_takeBackMove]
      try simp only [k_lit, k_nN, k_ofN]
      rw [cx, k_pred, pk_mul, hu, b_bv, b_bv, cu]
    · rw [tX9_undo]
      try simp only [k_lit, k_nN, k_ofN]
      rw [E 43 (by decide) (by decide), E 59 (by decide) (by decide), cm, k_pred, pk_mul, nI_add, nI_add, nI_add]
      simp (disch := omega) only [i_leT, i_leF, i_ltT, i_ltF, i_eqT, i_eqF, i_okT, i_n1, i_n2, i_n3, i_n4, i_n5, i_n6, i_n7, i_n8, k_cl, if_true, if_false]
      rw [e0, e1, e2, e3]
      simp (disch := omega) only [i_leT, i_leF, i_ltT, i_ltF, i_eqT, i_eqF, i_okT, i_n1, i_n2, i_n3, i_n4, i_n5, i_n6, i_n7, i_n8, k_cl, if_true, if_false]
    · have F1 : fr [23, 45] [(22, 2), (43, 0), (43, 35)] s (a_si s 22 2 (nI m)) := fr_si (fr_rfl s) (by simp)
      have F2 : fr [23, 45] [(22, 2), (43, 0), (43, 35)] (a_si s 22 2 (nI m)) u := fr_mono fu (by simp) (by simp)
      have F := fx_fr (fr_si (fr_si (fr_si (fr_si (fr_trans F1 F2) (k := 43) (j := 0) (x := nI 0) (by simp)) (k := 43) (j := 35) (x := nI m) (by simp)) (k := 45) (j := l) (x := nI r) (by simp)) (k := 45) (j := t) (x := plc p) (by simp))
      refine ⟨nb, nr, c, LibI_fx hL F rfl rfl, ?_, ImgI_fx hG F rfl rfl, RowI_fx hR F rfl rfl, TapI_fx hT F rfl rfl, CntI_fx hC F rfl⟩
      have o45 : (a_si (a_si (a_si (a_si u 43 0 (nI 0)) 43 35 (nI m)) 45 l (nI r)) 45 t (plc p)).1 45 = otr (s.1 45) p r l t := by
        funext b
        unfold otr
        rw [plc_r (r := r) (by omega)]
        simp only [m_si, E 45 (by decide) (by decide)]
        by_cases q1 : b = l
        · subst q1; simp [hlt]
        · by_cases q2 : b = t
          · subst q2; simp [q1]
          · simp [q1, q2]
      have G : ∀ k, k ≠ 43 → k ≠ 45 → (a_si (a_si (a_si (a_si u 43 0 (nI 0)) 43 35 (nI m)) 45 l (nI r)) 45 t (plc p)).1 k = u.1 k := by
        intro k h1 h2
        funext j
        simp [m_si, h1, h2]
      unfold NowI
      rw [o45, G 46 (by decide) (by decide), G 23 (by decide) (by decide), G 24 (by decide) (by decide), G 59 (by decide) (by decide), G 25 (by decide) (by decide), G 69 (by decide) (by decide), G 22 (by decide) (by decide), E 46 (by decide) (by decide), E 24 (by decide) (by decide), E 59 (by decide) (by decide), E 25 (by decide) (by decide), E 69 (by decide) (by decide)]
      refine ⟨Own_of (fun k hk => ?_) (fun b hb => ?_), m, ne, by omega, he, cu, ?_, ?_, ?_, fun j hj => hmv j (by omega), ?_, hev⟩
      · have x1 := xu k hk
        rw [xtr_sw, oset_tr hp6 (by omega) (fun e => hrp e.symm) hl ht hlt ol ot k hk] at x1
        exact x1
      · unfold otr
        by_cases q1 : b = l
        · rw [if_pos q1]; exact .inr ⟨r, hr, plc_r (by omega)⟩
        · rw [if_neg q1]
          by_cases q2 : b = t
          · rw [if_pos q2]
            rcases hp with e | ⟨e, -⟩
            · subst e; exact .inl rfl
            · exact .inr ⟨p, e, plc_r (by omega)⟩
          · rw [if_neg q2]; exact hO.2.2 b hb
      · simp [m_si]
      · rw [fu.1 22 4 (by decide) (by decide)]
        simpa [m_si] using kx
      · simp only [m_si, E 43 (by decide) (by decide)]
        simpa using km
      · refine ⟨w, w0, fun b hb => ?_, fun k hk => wc k (by omega)⟩
        unfold otr
        by_cases q1 : b = l
        · rw [if_pos q1, q1, wl, plc_r (by omega)]
        · rw [if_neg q1]
          by_cases q2 : b = t
          · rw [if_pos q2, q2, wt]
          · rw [if_neg q2, ← wm b hb, wn b hb, if_neg q1, if_neg q2]
