/-! ===== count, book, reader ===== -/
theorem smf_congr {f g : Nat → Int32} {p q : Nat → Bool} : ∀ {n : Nat}, (∀ b, b < n → f b = g b ∧ p b = q b) → smf f p n = smf g q n
  | 0, _ => rfl
  | n + 1, h => by
    unfold smf
    rw [smf_congr (fun b hb => h b (by omega)), (h n (by omega)).1, (h n (by omega)).2]
theorem c9 {v : Int32} (h : ¬ vb 9 v) : v ≠ nI 0 ∧ v ≠ nI 1 ∧ v ≠ nI 2 ∧ v ≠ nI 3 ∧ v ≠ nI 4 ∧ v ≠ nI 5 ∧ v ≠ nI 6 ∧ v ≠ nI 7 ∧ v ≠ nI 8 :=
  have k : ∀ j, j < 9 → v ≠ nI j := fun j hj e => h ⟨j, hj, e⟩
  ⟨k 0 (by omega), k 1 (by omega), k 2 (by omega), k 3 (by omega), k 4 (by omega), k 5 (by omega), k 6 (by omega), k 7 (by omega), k 8 (by omega)⟩
def cnv (s : aMem) (nb : Nat) (j : Nat) : Int32 := match j with
  | 0 => s.1 43 1
  | 1 => s.1 43 2
  | 2 => smf (s.1 49) (fun b => decide (s.1 45 b = nN)) nb
  | 3 => s.1 43 35
  | 4 => s.1 43 53
  | 5 => s.1 43 10
  | j => s.1 51 (j - 6)
theorem sX9_countF {s : aMem} {v : Int32} (hv : ¬ vb 9 v) : fX9_count [.ref 43, .int v] s = some (.inl (some (.int (nI 0))), a_si (a_si s 43 0 (nI 0)) 43 0 (nI 1)) := by
  rw [tX9_count]
  try simp only [k_lit, k_nN, k_ofN]
  rw [sX9_withinF (n := 8) (by omega) hv, b_bi, tX9_count_13]
  try simp only [k_lit, k_nN, k_ofN]
  rw [sX9_rightF (by simp [m_si]) (by omega) (by omega), b_bi, tX9_count_17]
  try simp only [k_lit, k_nN, k_ofN]
  simp (disch := omega) only [i_leT, i_leF, i_ltT, i_ltF, i_eqT, i_eqF, i_okT, i_n1, i_n2, i_n3, i_n4, i_n5, i_n6, i_n7, i_n8, k_cl, if_true, if_false]
theorem sX9_countT {s : aMem} {nb j : Nat} (h1 : s.1 43 1 = nI nb) (hnb : nb ≤ 12) (hj : j < 9) : fX9_count [.ref 43, .int (nI j)] s = some (.inl (some (.int (cnv s nb j))), a_si s 43 0 (nI 0)) := by
  have key : ∀ m k, k + m = nb → a_run none shp pX9_count 26 [some (.ref 43), some (.int (nI j)), some (.int (smf (s.1 49) (fun b => decide (s.1 45 b = nN)) k)), some (.int (nI k))] [] (a_si s 43 0 (nI 0)) = some (.inl (some (.int (cnv s nb j))), a_si s 43 0 (nI 0)) := by
    intro m
    induction m with
    | zero =>
      intro k hk
      rw [tX9_count_26]
      simp only [m_si]
      try simp only [k_lit, k_nN, k_ofN, h1]
      have hk2 : k = nb := by omega
      subst hk2
      rcases (show j = 0 ∨ j = 1 ∨ j = 2 ∨ j = 3 ∨ j = 4 ∨ j = 5 ∨ j = 6 ∨ j = 7 ∨ j = 8 by omega) with e | e | e | e | e | e | e | e | e <;> subst e <;> simp (disch := omega) [i_leT, i_eqT, i_eqF, i_okT, pk_sub, k_cl, cnv, h1]
      all_goals rfl
    | succ m ih =>
      intro k hk
      rw [tX9_count_26]
      simp only [m_si]
      try simp only [k_lit, k_nN, k_ofN, h1]
      have ih2 := ih (k + 1) (by omega)
      simp (disch := omega) only [i_leF, i_okT, k_cl, show ((45 : Nat) = 43) = False from by simp, show ((49 : Nat) = 43) = False from by simp, show ((1 : Nat) = 0) = False from by simp, if_true, if_false, nI_add, h1]
      by_cases e : s.1 45 k = nN
      · rw [if_pos e]
        simp only [smf, e, decide_true, if_true] at ih2
        exact ih2
      · rw [if_neg e]
        simp only [smf, e, decide_false, Bool.false_eq_true, if_false] at ih2
        exact ih2
  rw [tX9_count]
  try simp only [k_lit, k_nN, k_ofN]
  rw [sX9_withinT (n := 8) (by omega) (by omega), b_bi, tX9_count_13]
  try simp only [k_lit, k_nN, k_ofN]
  rw [sX9_rightT (by simp [m_si]), b_bi, tX9_count_17]
  try simp only [k_lit, k_nN, k_ofN]
  simp (disch := omega) only [i_leT, i_leF, i_ltT, i_ltF, i_eqT, i_eqF, i_okT, i_n1, i_n2, i_n3, i_n4, i_n5, i_n6, i_n7, i_n8, k_cl, if_true, if_false]
  exact key nb 0 (by omega)
theorem op_count {s : aMem} (hI : Inv s) (v : Int32) : agr (fX8_count [.ref 0, .int v]) (fX9_count [.ref 43, .int v]) (fun _ => 1) s := by
  obtain ⟨nb, nr, c, hL, hN, -, -, ⟨n, hn, hT1, hT2, -⟩, hC⟩ := id hI
  obtain ⟨⟨hnb, hnr⟩, ⟨b1, b2⟩, ⟨r1, r2⟩, -, -, hpg, -, -, -⟩ := id hL
  obtain ⟨hO, nm, ne, hm, he, cx, cm, kx, km, -, -, -⟩ := id hN
  by_cases hv : vb 9 v
  · obtain ⟨j, hj, rfl⟩ := hv
    refine agr_q (r := cnv s nb j) (s1 := s) hI ?_ (fr_rfl s) (fun s2 h2 => ?_)
    · rw [tX8_count]
      try simp only [k_lit, k_nN, k_ofN]
      rcases (show j = 0 ∨ j = 1 ∨ j = 2 ∨ j = 3 ∨ j = 4 ∨ j = 5 ∨ j = 6 ∨ j = 7 ∨ j = 8 by omega) with e | e | e | e | e | e | e | e | e <;> subst e
      · simp (disch := omega) only [i_leT, i_leF, i_ltT, i_ltF, i_eqT, i_eqF, i_okT, i_n1, i_n2, i_n3, i_n4, i_n5, i_n6, i_n7, i_n8, k_cl, if_true, if_false, b1]
        simp only [cnv, b2]
      · simp (disch := omega) only [i_leT, i_leF, i_ltT, i_ltF, i_eqT, i_eqF, i_okT, i_n1, i_n2, i_n3, i_n4, i_n5, i_n6, i_n7, i_n8, k_cl, if_true, if_false, r1]
        simp only [cnv, r2]
      · simp (disch := omega) only [i_leT, i_leF, i_ltT, i_ltF, i_eqT, i_eqF, i_okT, i_n1, i_n2, i_n3, i_n4, i_n5, i_n6, i_n7, i_n8, k_cl, if_true, if_false]
        rw [hO.2.1, sX6_pagesTogether b1 hnb (msk_12 hnb), b_bi]
        simp only [cnv]
        rw [smf_congr (fun b hb => ⟨hpg b hb, ob hb⟩)]
      · simp (disch := omega) only [i_leT, i_leF, i_ltT, i_ltF, i_eqT, i_eqF, i_okT, i_n1, i_n2, i_n3, i_n4, i_n5, i_n6, i_n7, i_n8, k_cl, if_true, if_false, cx]
        simp only [cnv, cm]
      · simp (disch := omega) only [i_leT, i_leF, i_ltT, i_ltF, i_eqT, i_eqF, i_okT, i_n1, i_n2, i_n3, i_n4, i_n5, i_n6, i_n7, i_n8, k_cl, if_true, if_false, kx]
        simp only [cnv, km]
      · simp (disch := omega) only [i_leT, i_leF, i_ltT, i_ltF, i_eqT, i_eqF, i_okT, i_n1, i_n2, i_n3, i_n4, i_n5, i_n6, i_n7, i_n8, k_cl, if_true, if_false, hT1]
        simp only [cnv, hT2]
      · simp (disch := omega) only [i_leT, i_leF, i_ltT, i_ltF, i_eqT, i_eqF, i_okT, i_n1, i_n2, i_n3, i_n4, i_n5, i_n6, i_n7, i_n8, k_cl, if_true, if_false, hC.1]
        simp only [cnv]
      · simp (disch := omega) only [i_leT, i_leF, i_ltT, i_ltF, i_eqT, i_eqF, i_okT, i_n1, i_n2, i_n3, i_n4, i_n5, i_n6, i_n7, i_n8, k_cl, if_true, if_false, hC.2.1]
        simp only [cnv]
      · simp (disch := omega) only [i_leT, i_leF, i_ltT, i_ltF, i_eqT, i_eqF, i_okT, i_n1, i_n2, i_n3, i_n4, i_n5, i_n6, i_n7, i_n8, k_cl, if_true, if_false, hC.2.2.1]
        simp only [cnv]
    · refine ⟨a_si s2 43 0 (nI 0), ?_, ?_, fr_si (fr_rfl s2) (.inr (by decide))⟩
      · have e := sX9_countT (s := s2) (nb := nb) (j := j) (by rw [scB h2 43 1 rfl rfl, b2]) hnb hj
        rw [e]
        have ec : cnv s2 nb j = cnv s nb j := by
          unfold cnv
          rw [scB h2 43 1 rfl rfl, scB h2 43 2 rfl rfl, scA h2 49 rfl rfl, scA h2 45 rfl rfl, scB h2 43 35 rfl rfl, scB h2 43 53 rfl rfl, scB h2 43 10 rfl rfl, scA h2 51 rfl rfl]
        rw [ec]
      · simp [m_si]
  · refine agr_x (x := 0) (s1 := s) hI ?_ (fr_rfl s) (by omega) (fun s2 h2 => ⟨_, _, sX9_countF hv, by simp [m_si], fr_si (fr_si (fr_rfl s2) (.inr (by decide))) (.inr (by decide))⟩)
    rw [tX8_count]
    try simp only [k_lit, k_nN, k_ofN]
    obtain ⟨h0, h1, h2, h3, h4, h5, h6, h7, h8⟩ := c9 hv
    rw [if_neg h0, if_neg h1, if_neg h2, if_neg h3, if_neg h4, if_neg h5, if_neg h6, if_neg h7, if_neg h8]
