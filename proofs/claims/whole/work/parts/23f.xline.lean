/-! ===== the reading's lines: wants, the law, a book ===== -/
theorem XD_next {B : Nat → Nat} {n f : Nat} {D : DR} {s : aMem} (hn : n ≤ 700) (hB : ∀ j, j < n → B j < 256) (h : XD B n f D s) : ∃ u, fX5_next [.ref 1] s = some (.inl none, u) ∧ frX s u ∧ XD B n (nx B n f) D u := by
  obtain ⟨u, e, f1, m⟩ := XE_next hn hB h.1
  exact ⟨u, e, f1, m, XDr_X h.2.1 f1, h.2.2⟩
theorem xl_wants {B : Nat → Nat} {n f : Nat} {D : DR} {s : aMem} (hn : n ≤ 700) (hB : ∀ j, j < n → B j < 256) (hr : D.2.1 ≤ 5) (hb : D.1 ≤ 12) (h : XD B n f D s) : XLr B n (fX3_readWants [.ref 21] s) s (wnr B n f D) := by
  obtain ⟨nb, nr, hl, pt, ow, wt, c⟩ := D
  simp only at hr hb
  obtain ⟨u1, e1, f1, M1⟩ := XD_next hn hB h
  obtain ⟨hE, hD, hc⟩ := id M1
  obtain ⟨a1, ⟨a3, a4, a5⟩, a6, ⟨a8, a9⟩, a10⟩ := id hD
  simp only at a1 a3 a4 a5 a6 a8 a9 a10 hc
  have start : fX3_readWants [.ref 21] s = a_bi (fX3_needToldAhead [.ref 21, .int (nI nr)] u1) (fun r2 s1 => a_run none shp pX3_readWants 18 [some (.ref 21), none] [.int r2] s1) none (fun x s1 => some (.inr x, s1)) := by
    rw [tX3_readWants, e1, b_bv, tX3_readWants_7, a4]
  unfold wnr
  simp only
  rcases sX3_needToldAhead (by omega : nr < 1000) hE hc with ⟨q0, q2, q3, h4⟩ | ⟨q0, u2, q1, f2, m2⟩
  · rw [if_neg (by rw [q0]; simp)]
    have h8 := a8 _ q2
    by_cases ew : wt (nm B n (nx B n f)) = nN
    · rw [if_neg (by simp [ew])]
      obtain ⟨u3, e3, f3, M3⟩ := XD_next hn hB M1
      obtain ⟨hE3, hD3, -⟩ := id M3
      obtain ⟨b1, ⟨b3, b4, b5⟩, b6, ⟨b8, b9⟩, b10⟩ := id hD3
      simp only at b1 b3 b4 b5 b6 b8 b9 b10
      have start2 : fX3_readWants [.ref 21] s = a_bi (fX3_needToldAhead [.ref 21, .int (nI nb)] u3) (fun r2 s1 => a_run none shp pX3_readWants 68 [some (.ref 21), some (.int (nI (nm B n (nx B n f))))] [.int r2] s1) none (fun x s1 => some (.inr x, s1)) := by
        rw [start, q3, b_bi, tX3_readWants_18, h4]
        try simp only [k_lit, k_nN, k_ofN]
        simp (disch := omega) only [i_leT, i_leF, i_ltT, i_ltF, i_eqT, i_eqF, i_okT, i_n1, i_n2, i_n3, i_n4, i_n5, i_n6, i_n7, i_n8, k_cl, if_true, if_false]
        rw [h8, ew]
        simp (disch := omega) only [i_leT, i_leF, i_ltT, i_ltF, i_eqT, i_eqF, i_okT, i_n1, i_n2, i_n3, i_n4, i_n5, i_n6, i_n7, i_n8, k_cl, if_true, if_false]
        rw [e3, b_bv, tX3_readWants_57, b3]
      rcases sX3_needToldAhead (by omega : nb < 1000) hE3 hc with ⟨g0, g2, g3, k4⟩ | ⟨g0, u4, g1, f4, m4⟩
      · rw [if_neg (by rw [g0]; simp)]
        have F : fr [8] [] u3 (a_si u3 8 (nm B n (nx B n f)) (nI (nm B n (nx B n (nx B n f))))) := fr_si (fr_rfl u3) (by simp)
        obtain ⟨u5, e5, f5, m5⟩ := XE_next hn hB (XE_c hE3 F rfl rfl)
        have D5 : XDr nb nr hl pt ow (upI wt (nm B n (nx B n f)) (nI (nm B n (nx B n (nx B n f))))) (a_si u3 8 (nm B n (nx B n f)) (nI (nm B n (nx B n (nx B n f))))) := by
          refine ⟨⟨by simpa [m_si] using b1.1, by simpa [m_si] using b1.2⟩, ⟨by simpa [m_si] using b3, by simpa [m_si] using b4, by simpa [m_si] using b5⟩, ⟨fun j hj => by simpa [m_si] using b6.1 j hj, fun j h1 h2 => by simpa [m_si] using b6.2 j h1 h2⟩, ⟨fun r hr => ?_, fun r h1 h2 => ?_⟩, ?_⟩
          · by_cases e : r = nm B n (nx B n f)
            · simp [m_si, e, upI]
            · have := b8 r hr
              simpa [m_si, e, upI] using this
          · have e : r ≠ nm B n (nx B n f) := by omega
            have := b9 r h1 h2
            simpa [m_si, e] using this
          · have e9 : (a_si u3 8 (nm B n (nx B n f)) (nI (nm B n (nx B n (nx B n f))))).1 9 = u3.1 9 := by
              funext j
              simp [m_si]
            rw [e9]
            exact b10
        refine ⟨u5, ?_, frY_tr (frY_X f1) (frY_tr (frY_X f3) (frY_tr (frY_of F (by decide) (by decide)) (frY_X f5))), m5, XDr_X D5 f5, hc⟩
        rw [start2, g3, b_bi, tX3_readWants_68, k4]
        try simp only [k_lit, k_nN, k_ofN]
        simp (disch := omega) only [i_leT, i_leF, i_ltT, i_ltF, i_eqT, i_eqF, i_okT, i_n1, i_n2, i_n3, i_n4, i_n5, i_n6, i_n7, i_n8, k_cl, if_true, if_false]
        rw [e5, b_bv, tX3_readWants_96]
        try simp only [k_lit, k_nN, k_ofN]
      · rw [if_pos g0]
        refine ⟨u4, ?_, frY_tr (frY_X f1) (frY_tr (frY_X f3) f4), m4⟩
        rw [start2, g1, b_bi, tX3_readWants_68]
        try simp only [k_lit, k_nN, k_ofN]
        simp (disch := omega) only [i_leT, i_leF, i_ltT, i_ltF, i_eqT, i_eqF, i_okT, i_n1, i_n2, i_n3, i_n4, i_n5, i_n6, i_n7, i_n8, k_cl, if_true, if_false]
    · rw [if_pos ew]
      obtain ⟨u3, e3, f3, m3⟩ := XE_ref (k := 4) hE hc
      refine ⟨u3, ?_, frY_tr (frY_X f1) (frY_b f3), m3.1, m3.2.1⟩
      rw [start, q3, b_bi, tX3_readWants_18, h4]
      try simp only [k_lit, k_nN, k_ofN]
      simp (disch := omega) only [i_leT, i_leF, i_ltT, i_ltF, i_eqT, i_eqF, i_okT, i_n1, i_n2, i_n3, i_n4, i_n5, i_n6, i_n7, i_n8, k_cl, if_true, if_false]
      rw [h8, if_neg ew, e3, b_bi, r01_0]
  · rw [if_pos q0]
    refine ⟨u2, ?_, frY_tr (frY_X f1) f2, m2⟩
    rw [start, q1, b_bi, tX3_readWants_18]
    try simp only [k_lit, k_nN, k_ofN]
    simp (disch := omega) only [i_leT, i_leF, i_ltT, i_ltF, i_eqT, i_eqF, i_okT, i_n1, i_n2, i_n3, i_n4, i_n5, i_n6, i_n7, i_n8, k_cl, if_true, if_false]
theorem xl_law2 {B : Nat → Nat} {n f : Nat} {D : DR} {s : aMem} (h : XD B n f D s) (hl : D.2.2.1 = 1) : XLr B n (fX3_readLaw [.ref 21] s) s (.inr (4, f)) := by
  obtain ⟨nb, nr, hl', pt, ow, wt, c⟩ := D
  simp only at hl
  subst hl
  obtain ⟨hE, hD, hc⟩ := id h
  have a5 := hD.2.1.2.2
  simp only at a5 hc
  obtain ⟨u, e1, f1, m1⟩ := XE_ref (k := 4) hE hc
  refine ⟨u, ?_, frY_b f1, m1.1, m1.2.1⟩
  rw [tX3_readLaw, a5]
  try simp only [k_lit, k_nN, k_ofN]
  simp (disch := omega) only [i_leT, i_leF, i_ltT, i_ltF, i_eqT, i_eqF, i_okT, i_n1, i_n2, i_n3, i_n4, i_n5, i_n6, i_n7, i_n8, k_cl, if_true, if_false]
  rw [e1, b_bi, r01_0]
theorem xl_law {B : Nat → Nat} {n f : Nat} {D : DR} {s : aMem} (hn : n ≤ 700) (hB : ∀ j, j < n → B j < 256) (h : XD B n f D s) (hl : D.2.2.1 = 0) : ∃ r, Ql B n 0 0 (nx B n f) r ∧ XLr B n (fX3_readLaw [.ref 21] s) s (lwr D r) := by
  obtain ⟨nb, nr, hl', pt, ow, wt, c⟩ := D
  simp only at hl
  subst hl
  obtain ⟨hE, hD, hc⟩ := id h
  obtain ⟨a1, ⟨a3, a4, a5⟩, a6, ⟨a8, a9⟩, a10⟩ := id hD
  simp only at a1 a3 a4 a5 a6 a8 a9 a10 hc
  have F : fr [] [(3, 2), (4, 1)] s (a_si (a_si s 3 2 (nI 1)) 4 1 (nI 0)) := fr_si (fr_si (fr_rfl s) (by simp)) (by simp)
  have E2 : XE B n f [] (a_si (a_si s 3 2 (nI 1)) 4 1 (nI 0)) := by
    obtain ⟨⟨c1, c2, c3, c4, c5, c6, c7⟩, -⟩ := hE
    exact ⟨⟨c1, by simpa [m_si] using c2, by simpa [m_si] using c3, by simpa [m_si] using c4, by simpa [m_si] using c5, fun q => by simpa [m_si] using c6 q, fun j hj => by simpa [m_si] using c7 j hj⟩, by simp [m_si], fun j q hj => by simp at hj⟩
  have D2 : XDr nb nr 1 pt ow wt (a_si (a_si s 3 2 (nI 1)) 4 1 (nI 0)) := by
    refine ⟨⟨by simpa [m_si] using a1.1, by simpa [m_si] using a1.2⟩, ⟨by simpa [m_si] using a3, by simpa [m_si] using a4, by simp [m_si]⟩, ⟨fun j hj => by simpa [m_si] using a6.1 j hj, fun j h1 h2 => by simpa [m_si] using a6.2 j h1 h2⟩, ⟨fun j hj => by simpa [m_si] using a8 j hj, fun j h1 h2 => by simpa [m_si] using a9 j h1 h2⟩, ?_⟩
    have e9 : (a_si (a_si s 3 2 (nI 1)) 4 1 (nI 0)).1 9 = s.1 9 := by
      funext j
      simp [m_si]
    rw [e9]
    exact a10
  obtain ⟨u, e1, f1, m1⟩ := XE_next hn hB E2
  obtain ⟨r, Q, X⟩ := rd_expr hn hB m1 (by simp)
  refine ⟨r, Q, ?_⟩
  have start : fX3_readLaw [.ref 21] s = a_bi (fX3_readExpr [.ref 21, .int (nI 0)] u) (fun r2 s1 => if r2 = nI 0 ∨ r2 = nI 1 then some (.inl (some (.int r2)), s1) else none) none (fun x s1 => some (.inr x, s1)) := by
    rw [tX3_readLaw, a5]
    try simp only [k_lit, k_nN, k_ofN]
    simp (disch := omega) only [i_leT, i_leF, i_ltT, i_ltF, i_eqT, i_eqF, i_okT, i_n1, i_n2, i_n3, i_n4, i_n5, i_n6, i_n7, i_n8, k_cl, if_true, if_false]
    rw [tX1_clear]
    try simp only [k_lit, k_nN, k_ofN]
    rw [b_bv, tX3_readLaw_34, e1, b_bv, tX3_readLaw_41]
    try simp only [k_lit, k_nN, k_ofN]
  rcases r with ⟨g, c'⟩ | ⟨k, p⟩
  · obtain ⟨v, q1, q2, q3⟩ := X
    have hg := Q.1.1
    have hg2 := Q.1.2.1
    refine ⟨v, ?_, frY_tr (frY_of F (by decide) (by decide)) (frY_tr (frY_X f1) (frY_X q2)), q3, XDr_X (XDr_X D2 f1) q2, by simp only; omega⟩
    rw [start, q1, b_bi, r01_1]
  · obtain ⟨v, q1, q2, q3⟩ := X
    refine ⟨v, ?_, frY_tr (frY_of F (by decide) (by decide)) (frY_tr (frY_X f1) (frY_b q2)), q3.1, q3.2.1⟩
    rw [start, q1, b_bi, r01_0]
/-! a book -/
theorem msk_skip {k : Nat} {p : Nat → Bool} (h : p k = false) : msk (k + 1) p = msk k p := by
  symm
  apply msk_eq
  intro b
  rw [msk_bit]
  by_cases e : b = k
  · subst e
    simp [h]
  · rw [decide_eq_decide.mpr (show b < k ↔ b < k + 1 by omega)]
theorem Own_add {nb nr i : Nat} {st ow : Nat → Int32} {o : Int32} (h : Own nb nr st ow) (hr : nr ≤ 5) (hi : (i < nr ∧ o = nI i) ∨ (i = 5 ∧ o = nN)) : Own (nb + 1) nr (upI st i (st i ||| nI (2 ^ nb))) (upI ow nb o) := by
  obtain ⟨h1, h2, h3⟩ := h
  have cg : ∀ v : Int32, msk nb (fun b => decide (ow b = v)) = msk nb (fun b => decide (upI ow nb o b = v)) := by
    intro v
    apply msk_congr
    intro b hb
    rw [upI_n (by omega)]
  refine ⟨fun r hr5 => ?_, ?_, fun b hb => ?_⟩
  · by_cases e : r = i
    · subst e
      rw [upI_s, h1 r hr5, k_or, cg, msk_or]
      rw [upI_s]
      rcases hi with ⟨_, c⟩ | ⟨c, _⟩
      · simp [c]
      · omega
    · rw [upI_n e, h1 r hr5, cg, msk_skip]
      rw [upI_s]
      rcases hi with ⟨c, d⟩ | ⟨c, d⟩
      · rw [d]
        exact decide_eq_false (fun q => e ((nI_eq (by omega) (by omega)).mp q).symm)
      · rw [d]
        exact decide_eq_false (nN_ne (by omega))
  · by_cases e : 5 = i
    · subst e
      rw [upI_s, h2, k_or, cg, msk_or]
      rw [upI_s]
      rcases hi with ⟨c, _⟩ | ⟨_, c⟩
      · omega
      · simp [c]
    · rw [upI_n e, h2, cg, msk_skip]
      rw [upI_s]
      rcases hi with ⟨c, d⟩ | ⟨c, d⟩
      · rw [d]
        exact decide_eq_false (fun q => by rw [k_nN1 (by omega)] at q; exact q)
      · exact absurd c.symm e
  · by_cases e : b = nb
    · rw [e, upI_s]
      rcases hi with ⟨c, d⟩ | ⟨c, d⟩
      · exact .inr ⟨i, c, d⟩
      · exact .inl d
    · rw [upI_n e]
      exact h3 b (by omega)
