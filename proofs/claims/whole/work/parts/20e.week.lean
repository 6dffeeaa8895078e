/-! ===== week agrees ===== -/
theorem op_week {s : aMem} (hI : Inv s) : agn (fX8_week [.ref 0]) (fX9_week [.ref 43]) s := by
  obtain ⟨nb, nr, c, hL, hN, hG, hR, hT, hC⟩ := id hI
  obtain ⟨⟨hnb, hnr⟩, ⟨b1, b2⟩, ⟨r1, r2⟩, -, ⟨hw1, hw2⟩, hpg, hfw, -, -⟩ := id hL
  have hO := hN.1
  have hsl := svd_le nr (s.1 47) (s.1 45)
  -- the class, up to the walk's end
  obtain ⟨t0, e0, f0, v0⟩ := p_acp (s := s) (a := 23) (b := 31) (n := 6) rfl rfl (by omega) (by omega) (by omega)
  have hB0 : XB nb nr (s.1 49) (s.1 47) s := ⟨⟨hnb, hnr⟩, b1, r1, hfw, hpg, hw1, hw2⟩
  have F0 : fr [31, 32, 33] [(30, 4), (30, 5), (30, 6)] s (a_si (a_si t0 30 6 (nI 0)) 30 5 nN) := fr_si (fr_si (fr_mono f0 (by simp) (by simp)) (by simp)) (by simp)
  have O0 : Own nb nr ((a_si (a_si t0 30 6 (nI 0)) 30 5 nN).1 31) (s.1 45) := by
    refine Own_cg hO (fun r hr => ?_) (fun _ _ => rfl)
    have := v0 r
    rw [if_pos hr] at this
    simpa [m_si] using this
  obtain ⟨t1, e1, f1, -, g1⟩ := sX7_weigh (v := nI 0) (XB_fr hB0 F0) O0
  have h30 : (a_si (a_si t0 30 6 (nI 0)) 30 5 nN).1 30 5 = nN := by simp [m_si]
  obtain ⟨g2, g3, g4⟩ := g1 (by rw [h30, k_nN4 (by omega)]; exact id)
  have w1 : wX nb nr s t1 0 (fun _ => 0) (s.1 45) := by
    refine ⟨fr_trans F0 (fr_mono f1 (by simp) (by simp)), ?_, fun i hi => absurd hi (Nat.not_lt_zero i)⟩
    rw [show t1.1 31 = (a_si (a_si t0 30 6 (nI 0)) 30 5 nN).1 31 from by funext j; exact f1.1 31 j (by decide) (by simp)]
    exact O0
  have st1 : stX 20000 t1 (some (0, svd nr (s.1 47) (s.1 45), 0, fun _ => 0)) := by
    refine ⟨Nat.zero_le _, ?_, g2, by show svd nr (s.1 47) (s.1 45) ≤ 5; omega, g3, Nat.zero_le _, fun i hi => absurd hi (Nat.not_lt_zero i)⟩
    rw [f1.1 30 6 (by decide) (by decide)]
    simp [m_si]
  obtain ⟨t2, e2, w2, st2⟩ := wX_nd (f := 19 - 3 * nr) hB0 nr 0 (fun _ => 0) (s.1 45) 0 t1 _ (by omega) (Nat.two_pow_pos nr) (by decide) (fun r hr => by simp [dnB, ex]) w1 st1
  rw [show 3 * nr + (19 - 3 * nr) = 19 by omega] at e2
  have hX0 : fX8_week [.ref 0] s = a_bi (a_run none shp pX7_plan 28 [some (.ref 30), some (.ref 23)] [] t2) (fun r2 s1 => some (.inl (some (.int r2)), s1)) none (fun x s1 => some (.inr x, s1)) := by
    rw [tX8_week, tX7_plan]
    try simp only [k_lit, k_nN, k_ofN]
    rw [e0, b_bv, tX7_plan_12]
    try simp only [k_lit, k_nN, k_ofN]
    rw [show fX7_tryPlace = fWK (19 + 1) 0 from rfl, uPl, tX7_tryPlace, e1, b_bv, e2, b_bv]
  -- the model, up to the walk's end, from a memory that is the class's behind its call
  have hM : ∀ s1 : aMem, (∀ k, k ≠ 30 → k ≠ 31 → k ≠ 32 → k ≠ 33 → k ≠ 34 → s1.1 k = s.1 k) → ∃ R, fX9_week [.ref 43] s1 = R ∧ mE nb nr (a_si (a_si (a_si (a_si s1 43 0 (nI 0)) 43 48 (nI 0)) 43 49 (nI 0)) 66 0 nN) 0 (fun _ => 0) (s.1 45) (s.1 45) R (wnd nb nr (s.1 49) (s.1 47) nr 0 (fun _ => 0) (s.1 45) (some (0, svd nr (s.1 47) (s.1 45), 0, fun _ => 0))) := by
    intro s1 E
    have A : ∀ k, k ≠ 43 → k ≠ 66 → k ≠ 30 → k ≠ 31 → k ≠ 32 → k ≠ 33 → k ≠ 34 → (a_si (a_si (a_si (a_si s1 43 0 (nI 0)) 43 48 (nI 0)) 43 49 (nI 0)) 66 0 nN).1 k = s.1 k := by
      intro k h1 h2 h3 h4 h5 h6 h7
      funext j
      simp [m_si, h1, h2, E k h3 h4 h5 h6 h7]
    have E43 := E 43 (by decide) (by decide) (by decide) (by decide) (by decide)
    have hB : MB nb nr (s.1 49) (s.1 47) (a_si (a_si (a_si (a_si s1 43 0 (nI 0)) 43 48 (nI 0)) 43 49 (nI 0)) 66 0 nN) := by
      refine ⟨⟨hnb, hnr⟩, ?_, ?_, A 49 (by decide) (by decide) (by decide) (by decide) (by decide) (by decide) (by decide), A 47 (by decide) (by decide) (by decide) (by decide) (by decide) (by decide) (by decide), hw2⟩
      · simp [m_si, E43, b2]
      · simp [m_si, E43, r2]
    have w0 : mW (a_si (a_si (a_si (a_si s1 43 0 (nI 0)) 43 48 (nI 0)) 43 49 (nI 0)) 66 0 nN) (a_si (a_si (a_si (a_si s1 43 0 (nI 0)) 43 48 (nI 0)) 43 49 (nI 0)) 66 0 nN) 0 (fun _ => 0) (s.1 45) (0, svd nr (s.1 47) (s.1 45), 0, fun _ => 0) := by
      refine ⟨⟨fr_rfl _, rfl⟩, A 45 (by decide) (by decide) (by decide) (by decide) (by decide) (by decide) (by decide), fun k hk => absurd hk (Nat.not_lt_zero k), ⟨Nat.zero_le _, by show svd nr (s.1 47) (s.1 45) ≤ 5; omega, Nat.zero_le _⟩, ?_, ?_, fun i hi => absurd hi (Nat.not_lt_zero i)⟩
      · simp [m_si]
      · simp [m_si]
    have h := m_lp (o0 := s.1 45) hB nr 0 (by omega) (fun _ => 0) (s.1 45) (144 * nr) 0 _ (0, svd nr (s.1 47) (s.1 45), 0, fun _ => 0) (by omega) w0 rfl
    rw [← wnd_L] at h
    refine ⟨_, ?_, h⟩
    have z47 : (a_si (a_si s1 43 0 (nI 0)) 43 48 (nI 0)).1 47 = s.1 47 := by
      funext j
      simp [m_si, E 47 (by decide) (by decide) (by decide) (by decide) (by decide)]
    have z45 : (a_si (a_si s1 43 0 (nI 0)) 43 48 (nI 0)).1 45 = s.1 45 := by
      funext j
      simp [m_si, E 45 (by decide) (by decide) (by decide) (by decide) (by decide)]
    have z66 : (a_si (a_si (a_si (a_si s1 43 0 (nI 0)) 43 48 (nI 0)) 43 49 (nI 0)) 66 0 nN).1 66 0 = nN := by simp [m_si]
    rw [tX9_week]
    try simp only [k_lit, k_nN, k_ofN]
    rw [sX9_served (nb := nb) (nr := nr) hnb hnr (by simp [m_si, E43, r2]) (by rw [z47]; exact hw2), b_bi, z47, z45, tX9_week_14]
    try simp only [k_lit, k_nN, k_ofN]
    rw [tX9_week_29]
    try simp only [k_lit, k_nN, k_ofN]
    simp (disch := omega) only [i_leT, i_leF, i_ltT, i_ltF, i_eqT, i_eqF, i_okT, i_n1, i_n2, i_n3, i_n4, i_n5, i_n6, i_n7, i_n8, k_cl, if_true, if_false]
    rw [z66]
    simp (disch := omega) only [i_leT, i_leF, i_ltT, i_ltF, i_eqT, i_eqF, i_okT, i_n1, i_n2, i_n3, i_n4, i_n5, i_n6, i_n7, i_n8, k_cl, if_true, if_false]
    rw [tX9_week_54]
    try simp only [k_lit, k_nN, k_ofN]
    simp (disch := omega) only [i_leT, i_leF, i_ltT, i_ltF, i_eqT, i_eqF, i_okT, i_n1, i_n2, i_n3, i_n4, i_n5, i_n6, i_n7, i_n8, k_cl, if_true, if_false]
    rw [z66, nN_a1]
  revert st2 hM
  generalize wnd nb nr (s.1 49) (s.1 47) nr 0 (fun _ => 0) (s.1 45) (some (0, svd nr (s.1 47) (s.1 45), 0, fun _ => 0)) = σ
  intro st2 hM
  cases σ with
  | none =>
    obtain ⟨n, h1, h2, h3⟩ := st2
    have E : ∀ k, k ≠ 30 → k ≠ 31 → k ≠ 32 → k ≠ 33 → k ≠ 34 → t2.1 k = s.1 k := by
      intro k h1 h2 h3 h4 h5
      funext j
      exact w2.1.1 k j (by simp [h2, h3, h4]) (by simp [h1])
    obtain ⟨R, hR1, u, hu, ⟨fu, lu⟩, ou⟩ := hM t2 E
    have hXX : fX8_week [.ref 0] s = some (.inl (some (.int (-nI 2))), t2) := by
      rw [hX0, tX7_plan_28, h3]
      try simp only [k_lit, k_nN, k_ofN]
      simp (disch := omega) only [i_leT, i_leF, i_ltT, i_ltF, i_eqT, i_eqF, i_okT, i_n1, i_n2, i_n3, i_n4, i_n5, i_n6, i_n7, i_n8, k_cl, if_true, if_false]
      rw [b_bi]
    refine ⟨_, t2, hXX, w2.1.2.2, u, by rw [hR1, hu], ?_, by rw [lu]; exact w2.1.2.2⟩
    refine Inv_fw hI (fun k j h1 h2 => ?_)
    by_cases e45 : k = 45
    · subst e45; rw [ou]
    · have hk : k ∉ [45, 66, 67] := by
        intro c
        simp at c
        rcases c with c | c | c
        · exact e45 c
        · subst c; exact h1 (by decide)
        · subst c; exact h1 (by decide)
      have hf : (k, j) ∉ [(43, 48), (43, 49)] := by
        intro c
        simp at c
        rcases c with ⟨c1, c2⟩ | ⟨c1, c2⟩
        · subst c1; subst c2; exact h2 (by decide)
        · subst c1; subst c2; exact h2 (by decide)
      rw [fu.1 k j hk hf]
      have n66 : k ≠ 66 := fun c => hk (by simp [c])
      have n0 : ¬ (k = 43 ∧ j = 0) := fun c => h2 (by rw [c.1, c.2]; decide)
      have n48 : ¬ (k = 43 ∧ j = 48) := fun c => hf (by rw [c.1, c.2]; decide)
      have n49 : ¬ (k = 43 ∧ j = 49) := fun c => hf (by rw [c.1, c.2]; decide)
      have : (a_si (a_si (a_si (a_si t2 43 0 (nI 0)) 43 48 (nI 0)) 43 49 (nI 0)) 66 0 nN).1 k j = t2.1 k j := by
        simp only [m_si, n66, if_false]
        by_cases e43 : k = 43
        · subst e43
          have a0 : j ≠ 0 := fun c => n0 ⟨rfl, c⟩
          have a1 : j ≠ 48 := fun c => n48 ⟨rfl, c⟩
          have a2 : j ≠ 49 := fun c => n49 ⟨rfl, c⟩
          simp [a0, a1, a2]
        · simp [e43]
      rw [this]
      refine w2.1.1 k j (fun c => h1 ?_) (fun c => h2 ?_)
      · simp at c
        rcases c with c | c | c <;> subst c <;> decide
      · simp at c
        rcases c with ⟨c1, c2⟩ | ⟨c1, c2⟩ | ⟨c1, c2⟩ <;> subst c1 <;> subst c2 <;> decide
  | some q =>
    obtain ⟨s1, s2, s3, s4, s5, s6, s7⟩ := st2
    obtain ⟨t3, e3, f3, v3⟩ := p_acp (s := t2) (a := 33) (b := 34) (n := 15) rfl rfl (by omega) (by omega) (by omega)
    have x5 : t3.1 30 5 = nI q.2.1 := by rw [f3.1 30 5 (by decide) (by simp)]; exact s3
    have x4 : t3.1 30 4 = nI q.2.2.1 := by rw [f3.1 30 4 (by decide) (by simp)]; exact s5
    have hXX : fX8_week [.ref 0] s = some (.inl (some (.int (nI q.2.1))), a_si t3 30 8 (nI q.2.2.1)) := by
      rw [hX0, tX7_plan_28, s2]
      try simp only [k_lit, k_nN, k_ofN]
      simp (disch := omega) only [i_leT, i_leF, i_ltT, i_ltF, i_eqT, i_eqF, i_okT, i_n1, i_n2, i_n3, i_n4, i_n5, i_n6, i_n7, i_n8, k_cl, if_true, if_false]
      rw [e3, b_bv, tX7_plan_56, b_bi, x5, x4]
    have FX : fr [31, 32, 33, 34] [(30, 4), (30, 5), (30, 6), (30, 8)] s (a_si t3 30 8 (nI q.2.2.1)) := fr_si (fr_trans (fr_mono w2.1 (by simp) (by simp)) (fr_mono f3 (by simp) (by simp))) (by simp)
    have E : ∀ k, k ≠ 30 → k ≠ 31 → k ≠ 32 → k ≠ 33 → k ≠ 34 → (a_si t3 30 8 (nI q.2.2.1)).1 k = s.1 k := by
      intro k h1 h2 h3 h4 h5
      funext j
      exact FX.1 k j (by simp [h2, h3, h4, h5]) (by simp [h1])
    obtain ⟨R, hR1, u, hu, ⟨⟨fu, lu⟩, ou, -, -, h48, h49, h67⟩⟩ := hM _ E
    obtain ⟨w, ew, fw1, gw⟩ := c67_68 u
    have w49 : w.1 43 49 = nI q.2.2.1 := by rw [fw1.1 43 49 (by decide) (by simp)]; exact h49
    have hMM : fX9_week [.ref 43] (a_si t3 30 8 (nI q.2.2.1)) = some (.inl (some (.int (nI q.2.1))), a_si (a_si w 43 52 (nI q.2.2.1)) 43 50 (nI 1)) := by
      rw [hR1, hu, tX9_week_29]
      try simp only [k_lit, k_nN, k_ofN]
      rw [if_pos (by decide), ew, b_bv, tX9_week_274, w49]
      try simp only [k_lit, k_nN, k_ofN]
    have FM : fr [45, 66, 67, 68] [(43, 0), (43, 48), (43, 49), (43, 50), (43, 52)] (a_si t3 30 8 (nI q.2.2.1)) (a_si (a_si w 43 52 (nI q.2.2.1)) 43 50 (nI 1)) := fr_si (fr_si (fr_trans (fr_si (fr_si (fr_si (fr_si (fr_rfl _) (k := 43) (j := 0) (x := nI 0) (by simp)) (k := 43) (j := 48) (x := nI 0) (by simp)) (k := 43) (j := 49) (x := nI 0) (by simp)) (k := 66) (j := 0) (x := nN) (by simp)) (fr_trans (fr_mono fu (by simp) (by simp)) (fr_mono fw1 (by simp) (by simp)))) (by simp)) (by simp)
    have FA : fr [31, 32, 33, 34, 45, 66, 67, 68] [(30, 4), (30, 5), (30, 6), (30, 8), (43, 0), (43, 48), (43, 49), (43, 50), (43, 52)] s (a_si (a_si w 43 52 (nI q.2.2.1)) 43 50 (nI 1)) := fr_trans (fr_mono FX (by simp) (by simp)) (fr_mono FM (by simp) (by simp))
    have o45 : (a_si (a_si w 43 52 (nI q.2.2.1)) 43 50 (nI 1)).1 45 = s.1 45 := by
      rw [← ou]
      funext j
      simp only [m_si, show ((45 : Nat) = 43) = False from by simp, if_false]
      exact fw1.1 45 j (by decide) (by simp)
    have F : fx [31, 32, 33, 34, 66, 67, 68] [(30, 4), (30, 5), (30, 6), (30, 8), (43, 0), (43, 48), (43, 49), (43, 50), (43, 52)] s (a_si (a_si w 43 52 (nI q.2.2.1)) 43 50 (nI 1)) := by
      intro k j h1 h2
      by_cases e45 : k = 45
      · subst e45; rw [o45]
      · refine (fx_fr FA) k j ?_ h2
        simp only [List.contains_cons, List.contains_nil, Bool.or_false, Bool.or_eq_false_iff, beq_eq_false_iff_ne] at h1 ⊢
        exact ⟨h1.1, h1.2.1, h1.2.2.1, h1.2.2.2.1, e45, h1.2.2.2.2⟩
    refine ⟨_, _, hXX, FX.2.2, _, hMM, ⟨nb, nr, c, LibI_fx hL F rfl rfl, NowI_fx hN F rfl rfl, ImgI_fx hG F rfl rfl, .inr ⟨?_, q.2.2.1, s6, ?_, ?_, fun i hi => ?_⟩, TapI_fx hT F rfl rfl, CntI_fx hC F rfl⟩, FA.2.2⟩
    · simp [m_si]
    · rw [FM.1 30 8 (by decide) (by decide)]
      simp [m_si]
    · simp [m_si]
    · obtain ⟨z1, z2, z3⟩ := s7 i hi
      obtain ⟨y1, y2⟩ := h67 i hi
      refine ⟨eR (q.2.2.2 i), eL (q.2.2.2 i), eT (q.2.2.2 i), ?_, eL_lt _, eT_lt _, ?_, ?_, ?_, ?_⟩
      · unfold eR
        omega
      · rw [FM.1 34 _ (by decide) (by simp)]
        simp only [m_si, show ((34 : Nat) = 30) = False from by simp, if_false]
        rw [v3, if_pos (by omega)]
        exact z1
      · rw [FM.1 34 _ (by decide) (by simp)]
        simp only [m_si, show ((34 : Nat) = 30) = False from by simp, if_false]
        rw [v3, if_pos (by omega)]
        exact z2
      · rw [FM.1 34 _ (by decide) (by simp)]
        simp only [m_si, show ((34 : Nat) = 30) = False from by simp, if_false]
        rw [v3, if_pos (by omega)]
        exact z3
      · simp only [m_si, show ((68 : Nat) = 43) = False from by simp, if_false]
        rw [gw i (by omega), y1, ← e_all]
