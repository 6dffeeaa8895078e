/-! ===== a library is taken: the reading's side ===== -/
def pvl (c : List (Nat × Nat)) (pt : Nat → Int32) (b : Nat) : Int32 := pgv c (pf (pt (4 * b)) (pt (4 * b + 1)) (pt (4 * b + 2)) (pt (4 * b + 3)))
def mcf (c : List (Nat × Nat)) : Nat → Int32 := fun j => ((mcode c)[j]?).getD (nI 0)
theorem mcf_ok (c : List (Nat × Nat)) : ∀ j x, (mcode c)[j]? = some x → mcf c j = x := fun j x h => by simp [mcf, h]
theorem xs_pages {s : aMem} {nb b : Nat} {c : List (Nat × Nat)} {pt : Nat → Int32} (hnb : nb ≤ 12) (hb : b < nb) (hpt : ∀ j, j < 4 * nb → s.1 16 j = pt j) (hc : CodeI c (s.1 14) (s.1 13 1) (mcf c)) : ∃ u, fX6_pagesWithMore [.ref 12, .int (nI b), .int (nI 0)] s = some (.inl (some (.int (pvl c pt b))), u) ∧ fr [15] [(13, 3)] s u := by
  obtain ⟨u, hu, fu⟩ := sX1_reckon hc (pt (4 * b)) (pt (4 * b + 1)) (pt (4 * b + 2)) (pt (4 * b + 3))
  refine ⟨u, ?_, fu⟩
  have z : ∀ x : Int32, x + nI 0 = x := fun x => Int32.add_zero x
  rw [tX6_pagesWithMore]
  try simp only [k_lit, k_nN, k_ofN, pk_mul, nI_add]
  simp (disch := omega) only [i_leT, i_leF, i_ltT, i_ltF, i_eqT, i_eqF, i_okT, i_n1, i_n2, i_n3, i_n4, i_n5, i_n6, i_n7, i_n8, k_cl, if_true, if_false]
  rw [hpt _ (by omega), hpt _ (by omega), hpt _ (by omega), hpt _ (by omega), z, hu, b_bi]
  rfl
theorem xs_reckon {s : aMem} {nb : Nat} {c : List (Nat × Nat)} {pt : Nat → Int32} (hnb : nb ≤ 12) (h0 : s.1 12 0 = nI nb) (hpt : ∀ j, j < 4 * nb → s.1 16 j = pt j) (hc : CodeI c (s.1 14) (s.1 13 1) (mcf c)) : ∃ u, fX6_reckon [.ref 12] s = some (.inl none, u) ∧ fr [15, 19, 20] [(13, 3)] s u ∧ (∀ b, b < nb → u.1 19 b = pvl c pt b) ∧ fwOk nb (u.1 20) (u.1 19) := by
  have second : ∀ m k t, k + m = nb → fr [15, 19, 20] [(13, 3)] s t → (∀ b, b < nb → t.1 19 b = pvl c pt b) → (∀ b, b < k → t.1 20 b = nI (msk nb fun q => decide (t.1 19 q < t.1 19 b))) → ∃ u, a_run none shp pX6_reckon 30 [some (.ref 12), some (.int (nI k))] [] t = some (.inl none, u) ∧ fr [15, 19, 20] [(13, 3)] s u ∧ (∀ b, b < nb → u.1 19 b = pvl c pt b) ∧ fwOk nb (u.1 20) (u.1 19) := by
    intro m
    induction m with
    | zero =>
      intro k t hk hf hp hw
      have : k = nb := by omega
      subst this
      refine ⟨t, ?_, hf, hp, hw⟩
      rw [tX6_reckon_30, hf.1 12 0 (by decide) (by decide), h0]
      simp (disch := omega) only [i_leT, i_leF, i_ltT, i_ltF, i_eqT, i_eqF, i_okT, i_n1, i_n2, i_n3, i_n4, i_n5, i_n6, i_n7, i_n8, k_cl, if_true, if_false]
    | succ m ih =>
      intro k t hk hf hp hw
      have t0 : t.1 12 0 = nI nb := by rw [hf.1 12 0 (by decide) (by decide)]; exact h0
      have F : fr [15, 19, 20] [(13, 3)] s (a_si t 20 k (nI (msk nb fun q => decide (t.1 19 q < t.1 19 k)))) := fr_si hf (by simp)
      obtain ⟨u, e, r⟩ := ih (k + 1) (a_si t 20 k (nI (msk nb fun q => decide (t.1 19 q < t.1 19 k)))) (by omega) F (fun b hb => by simpa [m_si] using hp b hb) (fun b hb => by
        have e19 : (a_si t 20 k (nI (msk nb fun q => decide (t.1 19 q < t.1 19 k)))).1 19 = t.1 19 := by
          funext j
          simp [m_si]
        rw [e19]
        by_cases e : b = k
        · rw [e]; simp [m_si]
        · have := hw b (by omega)
          simpa [m_si, e] using this)
      refine ⟨u, ?_, r⟩
      rw [tX6_reckon_30, t0]
      simp (disch := omega) only [i_leT, i_leF, i_ltT, i_ltF, i_eqT, i_eqF, i_okT, i_n1, i_n2, i_n3, i_n4, i_n5, i_n6, i_n7, i_n8, k_cl, if_true, if_false]
      rw [sX6_booksUnder t0 hnb, b_bi, tX6_reckon_53]
      try simp only [k_lit, k_nN, k_ofN, nI_add]
      simp (disch := omega) only [i_leT, i_leF, i_ltT, i_ltF, i_eqT, i_eqF, i_okT, i_n1, i_n2, i_n3, i_n4, i_n5, i_n6, i_n7, i_n8, k_cl, if_true, if_false]
      exact e
  have first : ∀ m k t, k + m = nb → fr [15, 19, 20] [(13, 3)] s t → (∀ b, b < k → t.1 19 b = pvl c pt b) → ∃ u, a_run none shp pX6_reckon 2 [some (.ref 12), some (.int (nI k))] [] t = some (.inl none, u) ∧ fr [15, 19, 20] [(13, 3)] s u ∧ (∀ b, b < nb → u.1 19 b = pvl c pt b) ∧ fwOk nb (u.1 20) (u.1 19) := by
    intro m
    induction m with
    | zero =>
      intro k t hk hf hp
      have : k = nb := by omega
      subst this
      obtain ⟨u, e, r⟩ := second k 0 t (by omega) hf hp (fun b hb => absurd hb (Nat.not_lt_zero b))
      refine ⟨u, ?_, r⟩
      rw [tX6_reckon_2, hf.1 12 0 (by decide) (by decide), h0]
      try simp only [k_lit, k_nN, k_ofN]
      simp (disch := omega) only [i_leT, i_leF, i_ltT, i_ltF, i_eqT, i_eqF, i_okT, i_n1, i_n2, i_n3, i_n4, i_n5, i_n6, i_n7, i_n8, k_cl, if_true, if_false]
      exact e
    | succ m ih =>
      intro k t hk hf hp
      have t0 : t.1 12 0 = nI nb := by rw [hf.1 12 0 (by decide) (by decide)]; exact h0
      have e14 : t.1 14 = s.1 14 := by
        funext j
        exact hf.1 14 j (by decide) (by simp)
      have t13 : t.1 13 1 = s.1 13 1 := hf.1 13 1 (by decide) (by decide)
      obtain ⟨u1, e1, f1⟩ := xs_pages (s := t) (b := k) (pt := pt) hnb (by omega) (fun j hj => by rw [hf.1 16 j (by decide) (by simp)]; exact hpt j hj) (by rw [e14, t13]; exact hc)
      have F1 : fr [15, 19, 20] [(13, 3)] s u1 := fr_trans hf (fr_mono f1 (by simp) (by simp))
      obtain ⟨u, e, r⟩ := ih (k + 1) (a_si u1 19 k (pvl c pt k)) (by omega) (fr_si F1 (by simp)) (fun b hb => by
        by_cases e : b = k
        · rw [e]; simp [m_si]
        · have := hp b (by omega)
          rw [← f1.1 19 b (by decide) (by simp)] at this
          simpa [m_si, e] using this)
      refine ⟨u, ?_, r⟩
      rw [tX6_reckon_2, t0]
      try simp only [k_lit, k_nN, k_ofN]
      simp (disch := omega) only [i_leT, i_leF, i_ltT, i_ltF, i_eqT, i_eqF, i_okT, i_n1, i_n2, i_n3, i_n4, i_n5, i_n6, i_n7, i_n8, k_cl, if_true, if_false]
      rw [e1, b_bi, tX6_reckon_21]
      try simp only [k_lit, k_nN, k_ofN, nI_add]
      simp (disch := omega) only [i_leT, i_leF, i_ltT, i_ltF, i_eqT, i_eqF, i_okT, i_n1, i_n2, i_n3, i_n4, i_n5, i_n6, i_n7, i_n8, k_cl, if_true, if_false]
      exact e
  obtain ⟨u, e, r⟩ := first nb 0 s (by omega) (fr_rfl s) (fun b hb => absurd hb (Nat.not_lt_zero b))
  refine ⟨u, ?_, r⟩
  rw [tX6_reckon]
  try simp only [k_lit, k_nN, k_ofN]
  exact e
theorem xs_take {s : aMem} {nb nr hl : Nat} {pt ow wt : Nat → Int32} {c : List (Nat × Nat)} (hl1 : hl ≤ 1) (h : XDr nb nr hl pt ow wt s) (h4 : s.1 4 1 = nI c.length) (h5 : ∀ j q, c[j]? = some q → s.1 5 j = xst q) (hc : c.length ≤ 700) (hnb : nb ≤ 12) (hnr : nr ≤ 5) : ∃ u, fX6_take [.ref 12, .ref 3] s = some (.inl none, u) ∧ fr [14, 16, 17, 18] [(12, 0), (12, 1), (12, 2), (13, 1)] s u ∧ u.1 12 0 = nI nb ∧ u.1 12 1 = nI nr ∧ u.1 13 1 = nI c.length ∧ (∀ j q, c[j]? = some q → u.1 14 j = xst q) ∧ (∀ j, j < 4 * nb → u.1 16 j = pt j) ∧ (∀ r, r < nr → u.1 17 r = wt r) ∧ Own nb nr (u.1 18) ow := by
  obtain ⟨-, ⟨a3, a4, a5⟩, ⟨a6, -⟩, ⟨a8, -⟩, a10⟩ := h
  have F0 : fr [14, 16, 17, 18] [(12, 0), (12, 1), (12, 2), (13, 1)] s (a_si (a_si (a_si s 12 0 (nI nb)) 12 1 (nI nr)) 13 1 (nI c.length)) := fr_si (fr_si (fr_si (fr_rfl s) (by simp)) (by simp)) (by simp)
  obtain ⟨u1, e1, f1, v1⟩ := p_acp (s := a_si (a_si (a_si s 12 0 (nI nb)) 12 1 (nI nr)) 13 1 (nI c.length)) (a := 5) (b := 14) (n0 := 700) (n1 := 700) (n := 700) rfl rfl (by omega) (by omega) (by omega)
  obtain ⟨u2, e2, f2, v2⟩ := p_acp (s := u1) (a := 7) (b := 16) (n0 := 48) (n1 := 48) (n := 48) rfl rfl (by omega) (by omega) (by omega)
  obtain ⟨u3, e3, f3, v3⟩ := p_acp (s := u2) (a := 8) (b := 17) (n0 := 5) (n1 := 5) (n := 5) rfl rfl (by omega) (by omega) (by omega)
  obtain ⟨u4, e4, f4, v4⟩ := p_acp (s := u3) (a := 9) (b := 18) (n0 := 6) (n1 := 6) (n := 6) rfl rfl (by omega) (by omega) (by omega)
  refine ⟨u4, ?_, fr_trans F0 (fr_trans (fr_mono f1 (by simp) (by simp)) (fr_trans (fr_mono f2 (by simp) (by simp)) (fr_trans (fr_mono f3 (by simp) (by simp)) (fr_mono f4 (by simp) (by simp))))), ?_, ?_, ?_, fun j q hj => ?_, fun j hj => ?_, fun r hr => ?_, ?_⟩
  · rw [tX6_take, a3, a4]
    try simp only [k_lit, k_nN, k_ofN]
    rw [tX1_take]
    rw [show (a_si (a_si s 12 0 (nI nb)) 12 1 (nI nr)).1 4 1 = nI c.length by simpa [m_si] using h4]
    try simp only [k_lit, k_nN, k_ofN]
    rw [e1, b_bv, b_bv, tX6_take_27]
    try simp only [k_lit, k_nN, k_ofN]
    rw [e2, b_bv, tX6_take_42]
    try simp only [k_lit, k_nN, k_ofN]
    rw [e3, b_bv, tX6_take_56]
    try simp only [k_lit, k_nN, k_ofN]
    rw [e4, b_bv]
  · rw [f4.1 12 0 (by decide) (by simp), f3.1 12 0 (by decide) (by simp), f2.1 12 0 (by decide) (by simp), f1.1 12 0 (by decide) (by simp)]; simp [m_si]
  · rw [f4.1 12 1 (by decide) (by simp), f3.1 12 1 (by decide) (by simp), f2.1 12 1 (by decide) (by simp), f1.1 12 1 (by decide) (by simp)]; simp [m_si]
  · rw [f4.1 13 1 (by decide) (by simp), f3.1 13 1 (by decide) (by simp), f2.1 13 1 (by decide) (by simp), f1.1 13 1 (by decide) (by simp)]; simp [m_si]
  · have hj' : j < c.length := by
      apply Classical.byContradiction
      intro q'
      rw [List.getElem?_eq_none (by omega)] at hj
      cases hj
    rw [f4.1 14 j (by decide) (by simp), f3.1 14 j (by decide) (by simp), f2.1 14 j (by decide) (by simp), v1, if_pos (by omega)]
    have := h5 j q hj
    simpa [m_si] using this
  · rw [f4.1 16 j (by decide) (by simp), f3.1 16 j (by decide) (by simp), v2, if_pos (by omega), f1.1 7 j (by decide) (by simp)]
    have := a6 j hj
    simpa [m_si] using this
  · rw [f4.1 17 r (by decide) (by simp), v3, if_pos (by omega), f2.1 8 r (by decide) (by simp), f1.1 8 r (by decide) (by simp)]
    have := a8 r hr
    simpa [m_si] using this
  · have g : ∀ r, r < 6 → u4.1 18 r = s.1 9 r := fun r hr => by
      rw [v4, if_pos hr, f3.1 9 r (by decide) (by simp), f2.1 9 r (by decide) (by simp), f1.1 9 r (by decide) (by simp)]
      simp [m_si]
    exact ⟨fun r hr => by rw [g r (by omega)]; exact a10.1 r hr, by rw [g 5 (by omega)]; exact a10.2.1, a10.2.2⟩
