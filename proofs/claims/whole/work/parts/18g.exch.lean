/-! ===== exchange, swap, event ===== -/
theorem inv_ref {s : aMem} {z : Int32} (hI : Inv s) : Inv (a_si (a_si (a_si s 0 13 (s.1 0 13 + nI 1)) 43 0 z) 51 1 (s.1 51 1 + nI 1)) := by
  obtain ⟨nb, nr, c, hL, hN, hG, hR, hT, hC⟩ := id hI
  have F : fx [51] [(0, 13), (43, 0)] s (a_si (a_si (a_si s 0 13 (s.1 0 13 + nI 1)) 43 0 z) 51 1 (s.1 51 1 + nI 1)) := fx_si (fx_si (fx_si (fx_rfl s) rfl) rfl) rfl
  refine ⟨nb, nr, c, LibI_fx hL F rfl rfl, NowI_fx hN F rfl rfl, ImgI_fx hG F rfl rfl, RowI_fx hR F rfl rfl, TapI_fx hT F rfl rfl, ?_, ?_, ?_, ?_⟩
  · simpa [m_si] using hC.1
  · simp [m_si, hC.2.1]
  · simpa [m_si] using hC.2.2.1
  · simpa [m_si] using hC.2.2.2
theorem inv_ref2 {s : aMem} {z : Int32} (hI : Inv s) : Inv (a_si (a_si (a_si s 0 14 (s.1 0 14 + nI 1)) 43 0 z) 51 2 (s.1 51 2 + nI 1)) := by
  obtain ⟨nb, nr, c, hL, hN, hG, hR, hT, hC⟩ := id hI
  have F : fx [51] [(0, 14), (43, 0)] s (a_si (a_si (a_si s 0 14 (s.1 0 14 + nI 1)) 43 0 z) 51 2 (s.1 51 2 + nI 1)) := fx_si (fx_si (fx_si (fx_rfl s) rfl) rfl) rfl
  refine ⟨nb, nr, c, LibI_fx hL F rfl rfl, NowI_fx hN F rfl rfl, ImgI_fx hG F rfl rfl, RowI_fx hR F rfl rfl, TapI_fx hT F rfl rfl, ?_, ?_, ?_, ?_⟩
  · simpa [m_si] using hC.1
  · simpa [m_si] using hC.2.1
  · simp [m_si, hC.2.2.1]
  · simpa [m_si] using hC.2.2.2
theorem sX8_settleF {s : aMem} {d : Nat} {a b c e : Int32} (hd : 0 < d) (hd2 : d < 2147483648) : fX8_settle [.ref 0, .int (nI d), .int a, .int b, .int c, .int e] s = some (.inl (some (.int (nI d))), a_si s 0 13 (s.1 0 13 + nI 1)) := by
  rw [tX8_settle]
  try simp only [k_lit, k_nN, k_ofN]
  simp (disch := omega) only [i_leT, i_leF, i_ltT, i_ltF, i_eqT, i_eqF, i_okT, i_n1, i_n2, i_n3, i_n4, i_n5, i_n6, i_n7, i_n8, k_cl, if_true, if_false]
theorem sX8_settle5 {s : aMem} {a b c e : Int32} (h : s.1 22 2 = nI 200) : fX8_settle [.ref 0, .int (nI 0), .int a, .int b, .int c, .int e] s = some (.inl (some (.int (nI 5))), a_si s 0 13 (s.1 0 13 + nI 1)) := by
  rw [tX8_settle]
  try simp only [k_lit, k_nN, k_ofN, h]
  simp (disch := omega) only [i_leT, i_leF, i_ltT, i_ltF, i_eqT, i_eqF, i_okT, i_n1, i_n2, i_n3, i_n4, i_n5, i_n6, i_n7, i_n8, k_cl, if_true, if_false]
theorem otr_ok {nb nr r p l t : Nat} {o : Nat → Int32} (h : ∀ b, b < nb → o b = nN ∨ ∃ r, r < nr ∧ o b = nI r) (hnr : nr ≤ 5) (hr : r < nr) (hp : p = 5 ∨ (p < nr ∧ p ≠ r)) : ∀ b, b < nb → otr o r p l t b = nN ∨ ∃ r2, r2 < nr ∧ otr o r p l t b = nI r2 := by
  intro b hb
  unfold otr
  split
  · rcases hp with e | ⟨e, -⟩
    · subst e; exact .inl rfl
    · exact .inr ⟨p, e, plc_r (by omega)⟩
  · split
    · exact .inr ⟨r, hr, plc_r (by omega)⟩
    · exact h b hb
/-- both make the move -/
theorem mv_both {s : aMem} {nb nr nm r p l t : Nat} (hnb : nb ≤ 12) (hnr : nr ≤ 5) (hN : NowI nb nr s) (hcx : s.1 22 2 = nI nm) (hm : nm < 200) (hr : r < nr) (hp : p = 5 ∨ (p < nr ∧ p ≠ r)) (hl : l < nb) (ht : t < nb) (h1 : s.1 45 l = nI r) (h2 : s.1 45 t = plc p) : ∃ u, fX4_writeMove [.ref 22, .int (nI r), .int (nI l), .int (nI t), .int (plc p)] s = some (.inl none, u) ∧ fr [23, 24] [(22, 2)] s u ∧ ∃ v, fX9_writes [.ref 43, .int (nI r), .int (nI l), .int (nI t), .int (plc p)] (a_si u 43 0 (nI 0)) = some (.inl (some (.int (nI 0))), v) ∧ fr [59, 45] [(43, 35)] (a_si u 43 0 (nI 0)) v ∧ NowI nb nr v := by
  obtain ⟨hO, nm', ne, hm', he, cx, cm, kx, km, hmv, hh, hev⟩ := id hN
  have enm : nm' = nm := (nI_eq (by omega) (by omega)).mp (cx.symm.trans hcx)
  subst enm
  have hlt : l ≠ t := by
    intro e
    subst e
    rw [h1] at h2
    rcases hp with e | ⟨e, e'⟩
    · subst e; exact nN_ne (a := r) (by omega) h2.symm
    · rw [plc_r (by omega)] at h2
      exact e' ((nI_eq (by omega) (by omega)).mp h2).symm
  have hp6 : p < 6 := by rcases hp with e | ⟨e, -⟩ <;> omega
  have hrp : r ≠ p := by rcases hp with e | ⟨-, e⟩ <;> omega
  obtain ⟨u, hu, fu, xu, cu, ju, u0, u1, u2, u3⟩ := sX4_writeMove (Own_s hnb hO) hm (r := r) (p := p) (l := l) (t := t) (by omega) hp6 hrp (by omega) (by omega) cx
  have q43 : (a_si u 43 0 (nI 0)).1 43 35 = nI nm' := by
    simp only [m_si]
    simpa [fu.1 43 35 (by decide) (by decide)] using cm
  obtain ⟨v, hv, fv, cv, ov, jv, v0, v1, v2, v3⟩ := sX9_writes (s := a_si u 43 0 (nI 0)) (r := r) (p := p) (l := l) (t := t) hm (by omega) (by omega) hlt (by omega) q43
  refine ⟨u, hu, fu, v, hv, fv, ?_⟩
  have E : ∀ k, k ≠ 43 → k ∉ [59, 45] → v.1 k = u.1 k := by
    intro k hk hk2
    funext j
    rw [fv.1 k j hk2 (by simp [hk])]
    exact congrFun (z_ne hk) j
  have E2 : ∀ k, k ≠ 43 → k ≠ 22 → k ∉ [23, 24] → u.1 k = s.1 k := by
    intro k hk hk3 hk2
    funext j
    exact fu.1 k j hk2 (by simp [hk3])
  have o45 : (a_si u 43 0 (nI 0)).1 45 = s.1 45 := (z_ne (by decide)).trans (E2 45 (by decide) (by decide) (by decide))
  have o59 : (a_si u 43 0 (nI 0)).1 59 = s.1 59 := (z_ne (by decide)).trans (E2 59 (by decide) (by decide) (by decide))
  unfold NowI
  rw [E 46 (by decide) (by decide), E2 46 (by decide) (by decide) (by decide), E 23 (by decide) (by decide), E 24 (by decide) (by decide), E 25 (by decide) (by decide), E2 25 (by decide) (by decide) (by decide), E 69 (by decide) (by decide), E2 69 (by decide) (by decide) (by decide), E 22 (by decide) (by decide), ov, o45]
  refine ⟨Own_of ?_ (otr_ok (l := l) (t := t) hO.2.2 hnr hr hp), nm' + 1, ne, by omega, he, cu, cv, ?_, ?_, ?_, ?_, hev⟩
  · intro k hk
    have x1 := xu k hk
    rw [oset_tr (by omega) hp6 hrp hl ht hlt (by rw [plc_r (by omega)]; exact h1) h2 k hk] at x1
    exact x1
  · rw [fu.1 22 4 (by decide) (by decide)]; exact kx
  · rw [fv.1 43 53 (by decide) (by decide)]
    simp only [m_si]
    simpa [fu.1 43 53 (by decide) (by decide)] using km
  · intro j hj
    by_cases hj2 : j < 4 * nm'
    · rw [ju j hj2, jv j hj2, o59, hmv j hj2]
    · rcases (show j = 4 * nm' ∨ j = 4 * nm' + 1 ∨ j = 4 * nm' + 2 ∨ j = 4 * nm' + 3 by omega) with e | e | e | e <;> subst e
      · rw [u0, v0]
      · rw [u1, v1]
      · rw [u2, v2]
      · rw [u3, v3]
  · refine hist_add hh hr hnr hl ht hlt hp h1 h2 (fun b _ => rfl) (fun j hj => ?_) v0 v1 v2 v3
    rw [jv j hj, o59]
theorem fr_m0 {s : aMem} {z : Int32} : fr [] [(43, 0)] s (a_si s 43 0 z) := fr_si (fr_rfl s) (by simp)
/-- the invariant behind a move of both -/
theorem mv_inv {s u v : aMem} {nb nr : Nat} {c : List (Nat × Nat)} (hL : LibI nb nr c s) (hG : ImgI nb nr s) (hR : RowI s) (hT : TapI s) (hC : CntI s) (fu : fr [23, 24] [(22, 2)] s u) (fv : fr [59, 45] [(43, 35)] (a_si u 43 0 (nI 0)) v) (hN : NowI nb nr v) : Inv v := by
  have F1 : fr [23, 24, 59, 45] [(22, 2), (43, 0), (43, 35)] s u := fr_mono fu (by simp) (by simp)
  have F2 : fr [23, 24, 59, 45] [(22, 2), (43, 0), (43, 35)] u (a_si u 43 0 (nI 0)) := fr_mono fr_m0 (by simp) (by simp)
  have F3 : fr [23, 24, 59, 45] [(22, 2), (43, 0), (43, 35)] (a_si u 43 0 (nI 0)) v := fr_mono fv (by simp) (by simp)
  have F := fx_fr (fr_trans (fr_trans F1 F2) F3)
  exact ⟨nb, nr, c, LibI_fx hL F rfl rfl, hN, ImgI_fx hG F rfl rfl, RowI_fx hR F rfl rfl, TapI_fx hT F rfl rfl, CntI_fx hC F rfl⟩
theorem op_exchange {s : aMem} (hI : Inv s) (r l t : Int32) : agn (fX8_exchange [.ref 0, .int r, .int l, .int t]) (fX9_exchange [.ref 43, .int r, .int l, .int t]) s := by
  obtain ⟨nb, nr, c, hL, hN, hG, hR, hT, hC⟩ := id hI
  obtain ⟨⟨hnb, hnr⟩, ⟨b1, b2⟩, ⟨r1, r2⟩, -, -, -, -, -, -⟩ := id hL
  obtain ⟨hO, nm, ne, hm, he, cx, cm, kx, km, hmv, hh, hev⟩ := id hN
  -- a trouble d > 0
  have bad : ∀ d : Nat, 0 < d → d < 10 → fX8_judge [.ref 0, .int r, .int l, .int t] s = some (.inl (some (.int (nI d))), s) → (∀ s2, s2.1 43 1 = nI nb → s2.1 43 2 = nI nr → s2.1 45 = s.1 45 → s2.1 49 = s.1 49 → fX9_trouble [.ref 43, .int r, .int l, .int t] s2 = some (.inl (some (.int (nI d))), s2)) → agn (fX8_exchange [.ref 0, .int r, .int l, .int t]) (fX9_exchange [.ref 43, .int r, .int l, .int t]) s := by
    intro d hd hd2 hj htr
    refine ⟨nI d, a_si s 0 13 (s.1 0 13 + nI 1), ?_, rfl, a_si (a_si (a_si s 0 13 (s.1 0 13 + nI 1)) 43 0 (nI 0)) 51 1 (s.1 51 1 + nI 1), ?_, inv_ref hI, rfl⟩
    · rw [tX8_exchange, hj, b_bi, tX8_exchange_8, sX8_settleF hd (by omega), b_bi]
    · rw [tX9_exchange]
      try simp only [k_lit, k_nN, k_ofN]
      rw [htr _ (by simpa [m_si] using b2) (by simpa [m_si] using r2) (by funext j; simp [m_si]) (by funext j; simp [m_si]), b_bi, tX9_exchange_12]
      try simp only [k_lit, k_nN, k_ofN]
      simp (disch := omega) only [i_leT, i_leF, i_ltT, i_ltF, i_eqT, i_eqF, i_okT, i_n1, i_n2, i_n3, i_n4, i_n5, i_n6, i_n7, i_n8, k_cl, if_true, if_false]
      simp [m_si]
  by_cases hv : vb nr r ∧ vb nb l ∧ vb nb t
  · obtain ⟨⟨a, ha, rfl⟩, ⟨b, hb, rfl⟩, ⟨d, hd, rfl⟩⟩ := hv
    by_cases h0 : tro (s.1 45) (s.1 49) a b d = 0
    · have hj := sX8_judgeT hL hO ha hb hd
      rw [h0] at hj
      have htr : ∀ s2 : aMem, s2.1 43 1 = nI nb → s2.1 43 2 = nI nr → s2.1 45 = s.1 45 → s2.1 49 = s.1 49 → fX9_trouble [.ref 43, .int (nI a), .int (nI b), .int (nI d)] s2 = some (.inl (some (.int (nI 0))), s2) := by
        intro s2 q1 q2 q3 q4
        rw [sX9_troubleT q1 q2 hnb hnr ha hb hd, q3, q4, h0]
      have ho : s.1 45 b = nI a ∧ s.1 45 d = nN := by
        unfold tro at h0
        split at h0
        · rename_i e1
          split at h0
          · rename_i e2
            exact ⟨e1, e2⟩
          · cases h0
        · cases h0
      by_cases h5 : nm = 200
      · subst h5
        refine ⟨nI 5, a_si s 0 13 (s.1 0 13 + nI 1), ?_, rfl, a_si (a_si (a_si s 0 13 (s.1 0 13 + nI 1)) 43 0 (nI 0)) 51 1 (s.1 51 1 + nI 1), ?_, inv_ref hI, rfl⟩
        · rw [tX8_exchange, hj, b_bi, tX8_exchange_8, sX8_settle5 cx, b_bi]
        · rw [tX9_exchange]
          try simp only [k_lit, k_nN, k_ofN]
          rw [htr _ (by simpa [m_si] using b2) (by simpa [m_si] using r2) (by funext j; simp [m_si]) (by funext j; simp [m_si]), b_bi, tX9_exchange_12]
          have q : (a_si (a_si s 0 13 (s.1 0 13 + nI 1)) 43 0 (nI 0)).1 43 35 = nI 200 := by simpa [m_si] using cm
          try simp only [k_lit, k_nN, k_ofN, q]
          simp (disch := omega) only [i_leT, i_leF, i_ltT, i_ltF, i_eqT, i_eqF, i_okT, i_n1, i_n2, i_n3, i_n4, i_n5, i_n6, i_n7, i_n8, k_cl, if_true, if_false]
          simp [m_si]
      · obtain ⟨u, hu, fu, v, hv, fv, hNv⟩ := mv_both (p := 5) hnb hnr hN cx (by omega) ha (.inl rfl) hb hd ho.1 (by rw [plc_5]; exact ho.2)
        refine ⟨nI 0, u, ?_, fu.2.2, v, ?_, mv_inv hL hG hR hT hC fu fv hNv, ?_⟩
        · rw [tX8_exchange, hj, b_bi, tX8_exchange_8, tX8_settle]
          try simp only [k_lit, k_nN, k_ofN, cx]
          simp (disch := omega) only [i_leT, i_leF, i_ltT, i_ltF, i_eqT, i_eqF, i_okT, i_n1, i_n2, i_n3, i_n4, i_n5, i_n6, i_n7, i_n8, k_cl, if_true, if_false]
          rw [plc_5] at hu
          rw [hu, b_bv, b_bi]
        · rw [tX9_exchange]
          try simp only [k_lit, k_nN, k_ofN]
          have w1 : (a_si u 43 0 (nI 0)).1 43 1 = nI nb := by
            simp only [m_si]
            simpa [fu.1 43 1 (by decide) (by decide)] using b2
          have w2 : (a_si u 43 0 (nI 0)).1 43 2 = nI nr := by
            simp only [m_si]
            simpa [fu.1 43 2 (by decide) (by decide)] using r2
          have w3 : (a_si u 43 0 (nI 0)).1 43 35 = nI nm := by
            simp only [m_si]
            simpa [fu.1 43 35 (by decide) (by decide)] using cm
          rw [htr _ w1 w2 (by rw [z_ne (by decide)]; funext j; exact fu.1 45 j (by decide) (by simp)) (by rw [z_ne (by decide)]; funext j; exact fu.1 49 j (by decide) (by simp)), b_bi, tX9_exchange_12]
          try simp only [k_lit, k_nN, k_ofN, w3]
          simp (disch := omega) only [i_leT, i_leF, i_ltT, i_ltF, i_eqT, i_eqF, i_okT, i_n1, i_n2, i_n3, i_n4, i_n5, i_n6, i_n7, i_n8, k_cl, if_true, if_false]
          rw [plc_5] at hv
          rw [hv, b_bi]
        · rw [fv.2.2]; exact fu.2.2
    · refine bad _ (by omega) (by have := tro_le (s.1 45) (s.1 49) a b d; omega) (sX8_judgeT hL hO ha hb hd) (fun s2 q1 q2 q3 q4 => ?_)
      rw [sX9_troubleT q1 q2 hnb hnr ha hb hd, q3, q4]
  · exact bad 1 (by omega) (by omega) (sX8_judgeF hL hv) (fun s2 q1 q2 _ _ => sX9_troubleF q1 q2 hnb hnr hv)
