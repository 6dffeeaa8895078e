/-! ===== feed, judge, move, forget, event ===== -/
theorem byA_c (v : Int32) (i : Nat) : ∃ c, c < 256 ∧ byA v i = nI c := pk_andE _ 8 (by decide)
theorem feB_c (a b c d e : Int32) (i : Nat) : ∃ q, q < 256 ∧ feB a b c d e i = nI q := by
  unfold feB
  split
  · exact byA_c _ _
  · split
    · exact byA_c _ _
    · split
      · exact byA_c _ _
      · split <;> exact byA_c _ _
theorem op_feed {s : aMem} (hI : Inv s) (a b c d e : Int32) : agn (fX8_feed [.ref 0, .int a, .int b, .int c, .int d, .int e]) (fX9_feed [.ref 43, .int a, .int b, .int c, .int d, .int e]) s := by
  obtain ⟨nb, nr, c9, hL, hN, hG, hR, ⟨n, hn, hT1, hT2, hT3⟩, hC⟩ := id hI
  by_cases h6 : n ≤ 680
  · obtain ⟨t1, e1, f1, g1, v1⟩ := sX8_feed a b c d e s n hT1 h6
    obtain ⟨t2, e2, f2, z2, g2, v2⟩ := sX9_feed a b c d e t1 n (by rw [f1.1 43 10 (by decide) (by decide), hT2]) h6
    have F1 : fr [2, 50] [(1, 1), (43, 10), (43, 0)] s t1 := fr_mono f1 (by simp) (by simp)
    have F2 : fr [2, 50] [(1, 1), (43, 10), (43, 0)] t1 t2 := fr_mono f2 (by simp) (by simp)
    have F := fx_fr (fr_trans F1 F2)
    refine ⟨_, t1, e1, f1.2.2, t2, e2, ⟨nb, nr, c9, LibI_fx hL F rfl rfl, NowI_fx hN F rfl rfl, ImgI_fx hG F rfl rfl, RowI_fx hR F rfl rfl, ⟨n + 20, by omega, ?_, g2, ?_⟩, CntI_fx hC F rfl⟩, f2.2.2.trans f1.2.2⟩
    · rw [f2.1 1 1 (by decide) (by decide), g1]
    · intro j hj
      rw [f2.1 2 j (by simp) (by simp), v1, v2, f1.1 50 j (by simp) (by simp)]
      by_cases hj2 : n ≤ j
      · rw [if_pos ⟨hj2, hj⟩, if_pos ⟨hj2, hj⟩]
        exact ⟨rfl, feB_c _ _ _ _ _ _⟩
      · rw [if_neg (fun c => hj2 c.1), if_neg (fun c => hj2 c.1)]
        exact hT3 j (by omega)
  · refine agn_q hI (sX8_feedF a b c d e s n hT1 (by omega) hn) (fr_rfl s) (fun s2 h2 => ⟨_, sX9_feedF a b c d e s2 n ?_ (by omega) hn, fr_si (k := 43) (j := 0) (fr_rfl s2) (.inr (by decide))⟩)
    rw [scB h2 43 10 rfl rfl, hT2]
/-- what judge says -/
theorem sX8_judgeT {s : aMem} {nb nr r l t : Nat} {c : List (Nat × Nat)} (hL : LibI nb nr c s) (hO : Own nb nr (s.1 23) (s.1 45)) (hr : r < nr) (hl : l < nb) (ht : t < nb) : fX8_judge [.ref 0, .int (nI r), .int (nI l), .int (nI t)] s = some (.inl (some (.int (nI (tro (s.1 45) (s.1 49) r l t)))), s) := by
  obtain ⟨⟨hnb, hnr⟩, ⟨b1, b2⟩, ⟨r1, r2⟩, -, -, hpg, hfw, -, -⟩ := id hL
  rw [tX8_judge, sX8_isReaderT r1 hnr hr, b_bi, tX8_judge_5]
  try simp only [k_lit, k_nN, k_ofN]
  simp (disch := omega) only [i_leT, i_leF, i_ltT, i_ltF, i_eqT, i_eqF, i_okT, i_n1, i_n2, i_n3, i_n4, i_n5, i_n6, i_n7, i_n8, k_cl, if_true, if_false]
  rw [sX8_isBookT b1 hnb hl, b_bi, tX8_judge_13]
  try simp only [k_lit, k_nN, k_ofN]
  simp (disch := omega) only [i_leT, i_leF, i_ltT, i_ltF, i_eqT, i_eqF, i_okT, i_n1, i_n2, i_n3, i_n4, i_n5, i_n6, i_n7, i_n8, k_cl, if_true, if_false]
  rw [sX8_isBookT b1 hnb ht, b_bi, tX8_judge_21]
  try simp only [k_lit, k_nN, k_ofN]
  simp (disch := omega) only [i_leT, i_leF, i_ltT, i_ltF, i_eqT, i_eqF, i_okT, i_n1, i_n2, i_n3, i_n4, i_n5, i_n6, i_n7, i_n8, k_cl, if_true, if_false]
  rw [sX6_troubleOf23 hnb (Own_s hnb hO) hfw (by omega) hl ht, b_bi, trx_o (by omega) hl ht]
  have e : tro (s.1 45) (s.1 19) r l t = tro (s.1 45) (s.1 49) r l t := by
    unfold tro
    rw [hpg l hl, hpg t ht]
  rw [e]
theorem sX8_judgeF {s : aMem} {nb nr : Nat} {c : List (Nat × Nat)} {r l t : Int32} (hL : LibI nb nr c s) (hv : ¬ (vb nr r ∧ vb nb l ∧ vb nb t)) : fX8_judge [.ref 0, .int r, .int l, .int t] s = some (.inl (some (.int (nI 1))), s) := by
  obtain ⟨⟨hnb, hnr⟩, ⟨b1, b2⟩, ⟨r1, r2⟩, -, -, -, -, -, -⟩ := id hL
  rw [tX8_judge]
  by_cases hr : vb nr r
  · obtain ⟨a, ha, rfl⟩ := hr
    rw [sX8_isReaderT r1 hnr ha, b_bi, tX8_judge_5]
    try simp only [k_lit, k_nN, k_ofN]
    simp (disch := omega) only [i_leT, i_leF, i_ltT, i_ltF, i_eqT, i_eqF, i_okT, i_n1, i_n2, i_n3, i_n4, i_n5, i_n6, i_n7, i_n8, k_cl, if_true, if_false]
    by_cases hl : vb nb l
    · obtain ⟨b, hb, rfl⟩ := hl
      rw [sX8_isBookT b1 hnb hb, b_bi, tX8_judge_13]
      try simp only [k_lit, k_nN, k_ofN]
      simp (disch := omega) only [i_leT, i_leF, i_ltT, i_ltF, i_eqT, i_eqF, i_okT, i_n1, i_n2, i_n3, i_n4, i_n5, i_n6, i_n7, i_n8, k_cl, if_true, if_false]
      have ht : ¬ vb nb t := fun c => hv ⟨⟨a, ha, rfl⟩, ⟨b, hb, rfl⟩, c⟩
      rw [sX8_isBookF b1 hnb ht, b_bi, tX8_judge_21]
      try simp only [k_lit, k_nN, k_ofN]
      simp (disch := omega) only [i_leT, i_leF, i_ltT, i_ltF, i_eqT, i_eqF, i_okT, i_n1, i_n2, i_n3, i_n4, i_n5, i_n6, i_n7, i_n8, k_cl, if_true, if_false]
    · rw [sX8_isBookF b1 hnb hl, b_bi, tX8_judge_13]
      try simp only [k_lit, k_nN, k_ofN]
      simp (disch := omega) only [i_leT, i_leF, i_ltT, i_ltF, i_eqT, i_eqF, i_okT, i_n1, i_n2, i_n3, i_n4, i_n5, i_n6, i_n7, i_n8, k_cl, if_true, if_false]
  · rw [sX8_isReaderF r1 hnr hr, b_bi, tX8_judge_5]
    try simp only [k_lit, k_nN, k_ofN]
    simp (disch := omega) only [i_leT, i_leF, i_ltT, i_ltF, i_eqT, i_eqF, i_okT, i_n1, i_n2, i_n3, i_n4, i_n5, i_n6, i_n7, i_n8, k_cl, if_true, if_false]
theorem z_ne {k : Nat} {s : aMem} (h : k ≠ 43) {j : Nat} {x : Int32} : (a_si s 43 j x).1 k = s.1 k := by
  funext i
  simp [m_si, h]
theorem op_judge {s : aMem} (hI : Inv s) (r l t : Int32) : agn (fX8_judge [.ref 0, .int r, .int l, .int t]) (fX9_judge [.ref 43, .int r, .int l, .int t]) s := by
  obtain ⟨nb, nr, c, hL, hN, -, -, -, -⟩ := id hI
  obtain ⟨⟨hnb, hnr⟩, ⟨b1, b2⟩, ⟨r1, r2⟩, -, -, -, -, -, -⟩ := id hL
  by_cases hv : vb nr r ∧ vb nb l ∧ vb nb t
  · obtain ⟨⟨a, ha, rfl⟩, ⟨b, hb, rfl⟩, ⟨d, hd, rfl⟩⟩ := hv
    refine agn_q hI (sX8_judgeT hL hN.1 ha hb hd) (fr_rfl s) (fun s2 h2 => ⟨a_si s2 43 0 (nI 0), ?_, fr_si (fr_rfl s2) (.inr (by decide))⟩)
    rw [tX9_judge]
    try simp only [k_lit, k_nN, k_ofN]
    rw [sX9_troubleT (nb := nb) (nr := nr) (by simp [m_si, scB h2 43 1 rfl rfl, b2]) (by simp [m_si, scB h2 43 2 rfl rfl, r2]) hnb hnr ha hb hd, b_bi, z_ne (by decide), z_ne (by decide), scA h2 45 rfl rfl, scA h2 49 rfl rfl]
  · refine agn_q hI (sX8_judgeF hL hv) (fr_rfl s) (fun s2 h2 => ⟨a_si s2 43 0 (nI 0), ?_, fr_si (fr_rfl s2) (.inr (by decide))⟩)
    rw [tX9_judge]
    try simp only [k_lit, k_nN, k_ofN]
    rw [sX9_troubleF (nb := nb) (nr := nr) (by simp [m_si, scB h2 43 1 rfl rfl, b2]) (by simp [m_si, scB h2 43 2 rfl rfl, r2]) hnb hnr hv, b_bi]
