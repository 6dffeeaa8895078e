/-! ===== copies of arrays ===== -/
theorem p_acp {s : aMem} {a b n0 n1 n : Nat} (ha : shp[a]? = some (.inl (0, n0))) (hb : shp[b]? = some (.inl (0, n1))) (h0 : n ≤ n0) (h1 : n ≤ n1) (hn : n < 2147483648) : ∃ u, a_acp [.ref a, .int (nI 0), .ref b, .int (nI 0), .int (nI n)] s = some (.inl none, u) ∧ fr [b] [] s u ∧ ∀ j, u.1 b j = if j < n then s.1 a j else s.1 b j := by
  refine ⟨(va_up s.1 b (va_cpy (s.1 a) (s.1 b) 0 0 n), s.2), ?_, ⟨fun k j hk _ => ?_, fun _ _ _ _ => rfl, rfl⟩, fun j => ?_⟩
  · unfold a_acp
    simp only [ha, hb]
    rw [k_cl (n := 0) (by omega), k_cl hn, nI_toInt (n := 0) (by omega), nI_toInt (n := n) (by omega), if_pos]
    omega
  · show va_up s.1 b _ k j = s.1 k j
    unfold va_up
    rw [if_neg (by simpa using hk)]
  · show va_up s.1 b _ b j = _
    unfold va_up va_cpy
    simp
theorem c52_44 (s : aMem) : ∃ u, fX9_copies [.ref 43, .ref 52, .ref 44] s = some (.inl none, u) ∧ fr [44] [] s u ∧ ∀ j, j < 48 → u.1 44 j = s.1 52 j := by
  have key : ∀ m k t, k + m = 48 → fr [44] [] s t → (∀ j, j < k → t.1 44 j = s.1 52 j) → ∃ u, a_run none shp pX9_copies 2 [none, some (.ref 52), some (.ref 44), some (.int (nI k))] [] t = some (.inl none, u) ∧ fr [44] [] s u ∧ ∀ j, j < 48 → u.1 44 j = s.1 52 j := by
    intro m
    induction m with
    | zero =>
      intro k t hk hf hj
      rw [tX9_copiesi52_44_2]
      try simp only [k_lit, k_nN, k_ofN]
      simp (disch := omega) only [i_leT, i_leF, i_ltT, i_ltF, i_eqT, i_eqF, i_okT, i_n1, i_n2, i_n3, i_n4, i_n5, i_n6, i_n7, i_n8, k_cl, if_true, if_false]
      exact ⟨t, rfl, hf, fun j h => hj j (by omega)⟩
    | succ m ih =>
      intro k t hk hf hj
      rw [tX9_copiesi52_44_2]
      try simp only [k_lit, k_nN, k_ofN]
      simp (disch := omega) only [i_leT, i_leF, i_ltT, i_ltF, i_eqT, i_eqF, i_okT, i_n1, i_n2, i_n3, i_n4, i_n5, i_n6, i_n7, i_n8, k_cl, if_true, if_false, nI_add]
      refine ih (k + 1) _ (by omega) (fr_si hf (by simp)) (fun j h => ?_)
      simp only [m_si]
      by_cases e : j = k
      · subst e
        simp [hf.1 52 j (by decide) (by simp)]
      · simpa [e] using hj j (by omega)
  rw [tX9_copiesi52_44]
  exact key 48 0 s (by omega) (fr_rfl s) (fun j h => absurd h (Nat.not_lt_zero j))
theorem c53_45 (s : aMem) : ∃ u, fX9_copies [.ref 43, .ref 53, .ref 45] s = some (.inl none, u) ∧ fr [45] [] s u ∧ ∀ j, j < 12 → u.1 45 j = s.1 53 j := by
  have key : ∀ m k t, k + m = 12 → fr [45] [] s t → (∀ j, j < k → t.1 45 j = s.1 53 j) → ∃ u, a_run none shp pX9_copies 2 [none, some (.ref 53), some (.ref 45), some (.int (nI k))] [] t = some (.inl none, u) ∧ fr [45] [] s u ∧ ∀ j, j < 12 → u.1 45 j = s.1 53 j := by
    intro m
    induction m with
    | zero =>
      intro k t hk hf hj
      rw [tX9_copiesi53_45_2]
      try simp only [k_lit, k_nN, k_ofN]
      simp (disch := omega) only [i_leT, i_leF, i_ltT, i_ltF, i_eqT, i_eqF, i_okT, i_n1, i_n2, i_n3, i_n4, i_n5, i_n6, i_n7, i_n8, k_cl, if_true, if_false]
      exact ⟨t, rfl, hf, fun j h => hj j (by omega)⟩
    | succ m ih =>
      intro k t hk hf hj
      rw [tX9_copiesi53_45_2]
      try simp only [k_lit, k_nN, k_ofN]
      simp (disch := omega) only [i_leT, i_leF, i_ltT, i_ltF, i_eqT, i_eqF, i_okT, i_n1, i_n2, i_n3, i_n4, i_n5, i_n6, i_n7, i_n8, k_cl, if_true, if_false, nI_add]
      refine ih (k + 1) _ (by omega) (fr_si hf (by simp)) (fun j h => ?_)
      simp only [m_si]
      by_cases e : j = k
      · subst e
        simp [hf.1 53 j (by decide) (by simp)]
      · simpa [e] using hj j (by omega)
  rw [tX9_copiesi53_45]
  exact key 12 0 s (by omega) (fr_rfl s) (fun j h => absurd h (Nat.not_lt_zero j))
theorem c53_46 (s : aMem) : ∃ u, fX9_copies [.ref 43, .ref 53, .ref 46] s = some (.inl none, u) ∧ fr [46] [] s u ∧ ∀ j, j < 12 → u.1 46 j = s.1 53 j := by
  have key : ∀ m k t, k + m = 12 → fr [46] [] s t → (∀ j, j < k → t.1 46 j = s.1 53 j) → ∃ u, a_run none shp pX9_copies 2 [none, some (.ref 53), some (.ref 46), some (.int (nI k))] [] t = some (.inl none, u) ∧ fr [46] [] s u ∧ ∀ j, j < 12 → u.1 46 j = s.1 53 j := by
    intro m
    induction m with
    | zero =>
      intro k t hk hf hj
      rw [tX9_copiesi53_46_2]
      try simp only [k_lit, k_nN, k_ofN]
      simp (disch := omega) only [i_leT, i_leF, i_ltT, i_ltF, i_eqT, i_eqF, i_okT, i_n1, i_n2, i_n3, i_n4, i_n5, i_n6, i_n7, i_n8, k_cl, if_true, if_false]
      exact ⟨t, rfl, hf, fun j h => hj j (by omega)⟩
    | succ m ih =>
      intro k t hk hf hj
      rw [tX9_copiesi53_46_2]
      try simp only [k_lit, k_nN, k_ofN]
      simp (disch := omega) only [i_leT, i_leF, i_ltT, i_ltF, i_eqT, i_eqF, i_okT, i_n1, i_n2, i_n3, i_n4, i_n5, i_n6, i_n7, i_n8, k_cl, if_true, if_false, nI_add]
      refine ih (k + 1) _ (by omega) (fr_si hf (by simp)) (fun j h => ?_)
      simp only [m_si]
      by_cases e : j = k
      · subst e
        simp [hf.1 53 j (by decide) (by simp)]
      · simpa [e] using hj j (by omega)
  rw [tX9_copiesi53_46]
  exact key 12 0 s (by omega) (fr_rfl s) (fun j h => absurd h (Nat.not_lt_zero j))
theorem c54_47 (s : aMem) : ∃ u, fX9_copies [.ref 43, .ref 54, .ref 47] s = some (.inl none, u) ∧ fr [47] [] s u ∧ ∀ j, j < 5 → u.1 47 j = s.1 54 j := by
  have key : ∀ m k t, k + m = 5 → fr [47] [] s t → (∀ j, j < k → t.1 47 j = s.1 54 j) → ∃ u, a_run none shp pX9_copies 2 [none, some (.ref 54), some (.ref 47), some (.int (nI k))] [] t = some (.inl none, u) ∧ fr [47] [] s u ∧ ∀ j, j < 5 → u.1 47 j = s.1 54 j := by
    intro m
    induction m with
    | zero =>
      intro k t hk hf hj
      rw [tX9_copiesi54_47_2]
      try simp only [k_lit, k_nN, k_ofN]
      simp (disch := omega) only [i_leT, i_leF, i_ltT, i_ltF, i_eqT, i_eqF, i_okT, i_n1, i_n2, i_n3, i_n4, i_n5, i_n6, i_n7, i_n8, k_cl, if_true, if_false]
      exact ⟨t, rfl, hf, fun j h => hj j (by omega)⟩
    | succ m ih =>
      intro k t hk hf hj
      rw [tX9_copiesi54_47_2]
      try simp only [k_lit, k_nN, k_ofN]
      simp (disch := omega) only [i_leT, i_leF, i_ltT, i_ltF, i_eqT, i_eqF, i_okT, i_n1, i_n2, i_n3, i_n4, i_n5, i_n6, i_n7, i_n8, k_cl, if_true, if_false, nI_add]
      refine ih (k + 1) _ (by omega) (fr_si hf (by simp)) (fun j h => ?_)
      simp only [m_si]
      by_cases e : j = k
      · subst e
        simp [hf.1 54 j (by decide) (by simp)]
      · simpa [e] using hj j (by omega)
  rw [tX9_copiesi54_47]
  exact key 5 0 s (by omega) (fr_rfl s) (fun j h => absurd h (Nat.not_lt_zero j))
theorem c55_48 (s : aMem) : ∃ u, fX9_copies [.ref 43, .ref 55, .ref 48] s = some (.inl none, u) ∧ fr [48] [] s u ∧ ∀ j, j < 1600 → u.1 48 j = s.1 55 j := by
  have key : ∀ m k t, k + m = 1600 → fr [48] [] s t → (∀ j, j < k → t.1 48 j = s.1 55 j) → ∃ u, a_run none shp pX9_copies 2 [none, some (.ref 55), some (.ref 48), some (.int (nI k))] [] t = some (.inl none, u) ∧ fr [48] [] s u ∧ ∀ j, j < 1600 → u.1 48 j = s.1 55 j := by
    intro m
    induction m with
    | zero =>
      intro k t hk hf hj
      rw [tX9_copiesi55_48_2]
      try simp only [k_lit, k_nN, k_ofN]
      simp (disch := omega) only [i_leT, i_leF, i_ltT, i_ltF, i_eqT, i_eqF, i_okT, i_n1, i_n2, i_n3, i_n4, i_n5, i_n6, i_n7, i_n8, k_cl, if_true, if_false]
      exact ⟨t, rfl, hf, fun j h => hj j (by omega)⟩
    | succ m ih =>
      intro k t hk hf hj
      rw [tX9_copiesi55_48_2]
      try simp only [k_lit, k_nN, k_ofN]
      simp (disch := omega) only [i_leT, i_leF, i_ltT, i_ltF, i_eqT, i_eqF, i_okT, i_n1, i_n2, i_n3, i_n4, i_n5, i_n6, i_n7, i_n8, k_cl, if_true, if_false, nI_add]
      refine ih (k + 1) _ (by omega) (fr_si hf (by simp)) (fun j h => ?_)
      simp only [m_si]
      by_cases e : j = k
      · subst e
        simp [hf.1 55 j (by decide) (by simp)]
      · simpa [e] using hj j (by omega)
  rw [tX9_copiesi55_48]
  exact key 1600 0 s (by omega) (fr_rfl s) (fun j h => absurd h (Nat.not_lt_zero j))
theorem c49_62 (s : aMem) : ∃ u, fX9_copies [.ref 43, .ref 49, .ref 62] s = some (.inl none, u) ∧ fr [62] [] s u ∧ ∀ j, j < 12 → u.1 62 j = s.1 49 j := by
  have key : ∀ m k t, k + m = 12 → fr [62] [] s t → (∀ j, j < k → t.1 62 j = s.1 49 j) → ∃ u, a_run none shp pX9_copies 2 [none, some (.ref 49), some (.ref 62), some (.int (nI k))] [] t = some (.inl none, u) ∧ fr [62] [] s u ∧ ∀ j, j < 12 → u.1 62 j = s.1 49 j := by
    intro m
    induction m with
    | zero =>
      intro k t hk hf hj
      rw [tX9_copiesi49_62_2]
      try simp only [k_lit, k_nN, k_ofN]
      simp (disch := omega) only [i_leT, i_leF, i_ltT, i_ltF, i_eqT, i_eqF, i_okT, i_n1, i_n2, i_n3, i_n4, i_n5, i_n6, i_n7, i_n8, k_cl, if_true, if_false]
      exact ⟨t, rfl, hf, fun j h => hj j (by omega)⟩
    | succ m ih =>
      intro k t hk hf hj
      rw [tX9_copiesi49_62_2]
      try simp only [k_lit, k_nN, k_ofN]
      simp (disch := omega) only [i_leT, i_leF, i_ltT, i_ltF, i_eqT, i_eqF, i_okT, i_n1, i_n2, i_n3, i_n4, i_n5, i_n6, i_n7, i_n8, k_cl, if_true, if_false, nI_add]
      refine ih (k + 1) _ (by omega) (fr_si hf (by simp)) (fun j h => ?_)
      simp only [m_si]
      by_cases e : j = k
      · subst e
        simp [hf.1 49 j (by decide) (by simp)]
      · simpa [e] using hj j (by omega)
  rw [tX9_copiesi49_62]
  exact key 12 0 s (by omega) (fr_rfl s) (fun j h => absurd h (Nat.not_lt_zero j))
theorem c67_68 (s : aMem) : ∃ u, fX9_copies [.ref 43, .ref 67, .ref 68] s = some (.inl none, u) ∧ fr [68] [] s u ∧ ∀ j, j < 5 → u.1 68 j = s.1 67 j := by
  have key : ∀ m k t, k + m = 5 → fr [68] [] s t → (∀ j, j < k → t.1 68 j = s.1 67 j) → ∃ u, a_run none shp pX9_copies 2 [none, some (.ref 67), some (.ref 68), some (.int (nI k))] [] t = some (.inl none, u) ∧ fr [68] [] s u ∧ ∀ j, j < 5 → u.1 68 j = s.1 67 j := by
    intro m
    induction m with
    | zero =>
      intro k t hk hf hj
      rw [tX9_copiesi67_68_2]
      try simp only [k_lit, k_nN, k_ofN]
      simp (disch := omega) only [i_leT, i_leF, i_ltT, i_ltF, i_eqT, i_eqF, i_okT, i_n1, i_n2, i_n3, i_n4, i_n5, i_n6, i_n7, i_n8, k_cl, if_true, if_false]
      exact ⟨t, rfl, hf, fun j h => hj j (by omega)⟩
    | succ m ih =>
      intro k t hk hf hj
      rw [tX9_copiesi67_68_2]
      try simp only [k_lit, k_nN, k_ofN]
      simp (disch := omega) only [i_leT, i_leF, i_ltT, i_ltF, i_eqT, i_eqF, i_okT, i_n1, i_n2, i_n3, i_n4, i_n5, i_n6, i_n7, i_n8, k_cl, if_true, if_false, nI_add]
      refine ih (k + 1) _ (by omega) (fr_si hf (by simp)) (fun j h => ?_)
      simp only [m_si]
      by_cases e : j = k
      · subst e
        simp [hf.1 67 j (by decide) (by simp)]
      · simpa [e] using hj j (by omega)
  rw [tX9_copiesi67_68]
  exact key 5 0 s (by omega) (fr_rfl s) (fun j h => absurd h (Nat.not_lt_zero j))
theorem c45_71 (s : aMem) : ∃ u, fX9_copies [.ref 43, .ref 45, .ref 71] s = some (.inl none, u) ∧ fr [71] [] s u ∧ ∀ j, j < 12 → u.1 71 j = s.1 45 j := by
  have key : ∀ m k t, k + m = 12 → fr [71] [] s t → (∀ j, j < k → t.1 71 j = s.1 45 j) → ∃ u, a_run none shp pX9_copies 2 [none, some (.ref 45), some (.ref 71), some (.int (nI k))] [] t = some (.inl none, u) ∧ fr [71] [] s u ∧ ∀ j, j < 12 → u.1 71 j = s.1 45 j := by
    intro m
    induction m with
    | zero =>
      intro k t hk hf hj
      rw [tX9_copiesi45_71_2]
      try simp only [k_lit, k_nN, k_ofN]
      simp (disch := omega) only [i_leT, i_leF, i_ltT, i_ltF, i_eqT, i_eqF, i_okT, i_n1, i_n2, i_n3, i_n4, i_n5, i_n6, i_n7, i_n8, k_cl, if_true, if_false]
      exact ⟨t, rfl, hf, fun j h => hj j (by omega)⟩
    | succ m ih =>
      intro k t hk hf hj
      rw [tX9_copiesi45_71_2]
      try simp only [k_lit, k_nN, k_ofN]
      simp (disch := omega) only [i_leT, i_leF, i_ltT, i_ltF, i_eqT, i_eqF, i_okT, i_n1, i_n2, i_n3, i_n4, i_n5, i_n6, i_n7, i_n8, k_cl, if_true, if_false, nI_add]
      refine ih (k + 1) _ (by omega) (fr_si hf (by simp)) (fun j h => ?_)
      simp only [m_si]
      by_cases e : j = k
      · subst e
        simp [hf.1 45 j (by decide) (by simp)]
      · simpa [e] using hj j (by omega)
  rw [tX9_copiesi45_71]
  exact key 12 0 s (by omega) (fr_rfl s) (fun j h => absurd h (Nat.not_lt_zero j))
theorem c59_72 (s : aMem) : ∃ u, fX9_copies [.ref 43, .ref 59, .ref 72] s = some (.inl none, u) ∧ fr [72] [] s u ∧ ∀ j, j < 800 → u.1 72 j = s.1 59 j := by
  have key : ∀ m k t, k + m = 800 → fr [72] [] s t → (∀ j, j < k → t.1 72 j = s.1 59 j) → ∃ u, a_run none shp pX9_copies 2 [none, some (.ref 59), some (.ref 72), some (.int (nI k))] [] t = some (.inl none, u) ∧ fr [72] [] s u ∧ ∀ j, j < 800 → u.1 72 j = s.1 59 j := by
    intro m
    induction m with
    | zero =>
      intro k t hk hf hj
      rw [tX9_copiesi59_72_2]
      try simp only [k_lit, k_nN, k_ofN]
      simp (disch := omega) only [i_leT, i_leF, i_ltT, i_ltF, i_eqT, i_eqF, i_okT, i_n1, i_n2, i_n3, i_n4, i_n5, i_n6, i_n7, i_n8, k_cl, if_true, if_false]
      exact ⟨t, rfl, hf, fun j h => hj j (by omega)⟩
    | succ m ih =>
      intro k t hk hf hj
      rw [tX9_copiesi59_72_2]
      try simp only [k_lit, k_nN, k_ofN]
      simp (disch := omega) only [i_leT, i_leF, i_ltT, i_ltF, i_eqT, i_eqF, i_okT, i_n1, i_n2, i_n3, i_n4, i_n5, i_n6, i_n7, i_n8, k_cl, if_true, if_false, nI_add]
      refine ih (k + 1) _ (by omega) (fr_si hf (by simp)) (fun j h => ?_)
      simp only [m_si]
      by_cases e : j = k
      · subst e
        simp [hf.1 59 j (by decide) (by simp)]
      · simpa [e] using hj j (by omega)
  rw [tX9_copiesi59_72]
  exact key 800 0 s (by omega) (fr_rfl s) (fun j h => absurd h (Nat.not_lt_zero j))
theorem c69_73 (s : aMem) : ∃ u, fX9_copies [.ref 43, .ref 69, .ref 73] s = some (.inl none, u) ∧ fr [73] [] s u ∧ ∀ j, j < 8 → u.1 73 j = s.1 69 j := by
  have key : ∀ m k t, k + m = 8 → fr [73] [] s t → (∀ j, j < k → t.1 73 j = s.1 69 j) → ∃ u, a_run none shp pX9_copies 2 [none, some (.ref 69), some (.ref 73), some (.int (nI k))] [] t = some (.inl none, u) ∧ fr [73] [] s u ∧ ∀ j, j < 8 → u.1 73 j = s.1 69 j := by
    intro m
    induction m with
    | zero =>
      intro k t hk hf hj
      rw [tX9_copiesi69_73_2]
      try simp only [k_lit, k_nN, k_ofN]
      simp (disch := omega) only [i_leT, i_leF, i_ltT, i_ltF, i_eqT, i_eqF, i_okT, i_n1, i_n2, i_n3, i_n4, i_n5, i_n6, i_n7, i_n8, k_cl, if_true, if_false]
      exact ⟨t, rfl, hf, fun j h => hj j (by omega)⟩
    | succ m ih =>
      intro k t hk hf hj
      rw [tX9_copiesi69_73_2]
      try simp only [k_lit, k_nN, k_ofN]
      simp (disch := omega) only [i_leT, i_leF, i_ltT, i_ltF, i_eqT, i_eqF, i_okT, i_n1, i_n2, i_n3, i_n4, i_n5, i_n6, i_n7, i_n8, k_cl, if_true, if_false, nI_add]
      refine ih (k + 1) _ (by omega) (fr_si hf (by simp)) (fun j h => ?_)
      simp only [m_si]
      by_cases e : j = k
      · subst e
        simp [hf.1 69 j (by decide) (by simp)]
      · simpa [e] using hj j (by omega)
  rw [tX9_copiesi69_73]
  exact key 8 0 s (by omega) (fr_rfl s) (fun j h => absurd h (Nat.not_lt_zero j))
theorem c71_45 (s : aMem) : ∃ u, fX9_copies [.ref 43, .ref 71, .ref 45] s = some (.inl none, u) ∧ fr [45] [] s u ∧ ∀ j, j < 12 → u.1 45 j = s.1 71 j := by
  have key : ∀ m k t, k + m = 12 → fr [45] [] s t → (∀ j, j < k → t.1 45 j = s.1 71 j) → ∃ u, a_run none shp pX9_copies 2 [none, some (.ref 71), some (.ref 45), some (.int (nI k))] [] t = some (.inl none, u) ∧ fr [45] [] s u ∧ ∀ j, j < 12 → u.1 45 j = s.1 71 j := by
    intro m
    induction m with
    | zero =>
      intro k t hk hf hj
      rw [tX9_copiesi71_45_2]
      try simp only [k_lit, k_nN, k_ofN]
      simp (disch := omega) only [i_leT, i_leF, i_ltT, i_ltF, i_eqT, i_eqF, i_okT, i_n1, i_n2, i_n3, i_n4, i_n5, i_n6, i_n7, i_n8, k_cl, if_true, if_false]
      exact ⟨t, rfl, hf, fun j h => hj j (by omega)⟩
    | succ m ih =>
      intro k t hk hf hj
      rw [tX9_copiesi71_45_2]
      try simp only [k_lit, k_nN, k_ofN]
      simp (disch := omega) only [i_leT, i_leF, i_ltT, i_ltF, i_eqT, i_eqF, i_okT, i_n1, i_n2, i_n3, i_n4, i_n5, i_n6, i_n7, i_n8, k_cl, if_true, if_false, nI_add]
      refine ih (k + 1) _ (by omega) (fr_si hf (by simp)) (fun j h => ?_)
      simp only [m_si]
      by_cases e : j = k
      · subst e
        simp [hf.1 71 j (by decide) (by simp)]
      · simpa [e] using hj j (by omega)
  rw [tX9_copiesi71_45]
  exact key 12 0 s (by omega) (fr_rfl s) (fun j h => absurd h (Nat.not_lt_zero j))
theorem c72_59 (s : aMem) : ∃ u, fX9_copies [.ref 43, .ref 72, .ref 59] s = some (.inl none, u) ∧ fr [59] [] s u ∧ ∀ j, j < 800 → u.1 59 j = s.1 72 j := by
  have key : ∀ m k t, k + m = 800 → fr [59] [] s t → (∀ j, j < k → t.1 59 j = s.1 72 j) → ∃ u, a_run none shp pX9_copies 2 [none, some (.ref 72), some (.ref 59), some (.int (nI k))] [] t = some (.inl none, u) ∧ fr [59] [] s u ∧ ∀ j, j < 800 → u.1 59 j = s.1 72 j := by
    intro m
    induction m with
    | zero =>
      intro k t hk hf hj
      rw [tX9_copiesi72_59_2]
      try simp only [k_lit, k_nN, k_ofN]
      simp (disch := omega) only [i_leT, i_leF, i_ltT, i_ltF, i_eqT, i_eqF, i_okT, i_n1, i_n2, i_n3, i_n4, i_n5, i_n6, i_n7, i_n8, k_cl, if_true, if_false]
      exact ⟨t, rfl, hf, fun j h => hj j (by omega)⟩
    | succ m ih =>
      intro k t hk hf hj
      rw [tX9_copiesi72_59_2]
      try simp only [k_lit, k_nN, k_ofN]
      simp (disch := omega) only [i_leT, i_leF, i_ltT, i_ltF, i_eqT, i_eqF, i_okT, i_n1, i_n2, i_n3, i_n4, i_n5, i_n6, i_n7, i_n8, k_cl, if_true, if_false, nI_add]
      refine ih (k + 1) _ (by omega) (fr_si hf (by simp)) (fun j h => ?_)
      simp only [m_si]
      by_cases e : j = k
      · subst e
        simp [hf.1 72 j (by decide) (by simp)]
      · simpa [e] using hj j (by omega)
  rw [tX9_copiesi72_59]
  exact key 800 0 s (by omega) (fr_rfl s) (fun j h => absurd h (Nat.not_lt_zero j))
theorem c73_69 (s : aMem) : ∃ u, fX9_copies [.ref 43, .ref 73, .ref 69] s = some (.inl none, u) ∧ fr [69] [] s u ∧ ∀ j, j < 8 → u.1 69 j = s.1 73 j := by
  have key : ∀ m k t, k + m = 8 → fr [69] [] s t → (∀ j, j < k → t.1 69 j = s.1 73 j) → ∃ u, a_run none shp pX9_copies 2 [none, some (.ref 73), some (.ref 69), some (.int (nI k))] [] t = some (.inl none, u) ∧ fr [69] [] s u ∧ ∀ j, j < 8 → u.1 69 j = s.1 73 j := by
    intro m
    induction m with
    | zero =>
      intro k t hk hf hj
      rw [tX9_copiesi73_69_2]
      try simp only [k_lit, k_nN, k_ofN]
      simp (disch := omega) only [i_leT, i_leF, i_ltT, i_ltF, i_eqT, i_eqF, i_okT, i_n1, i_n2, i_n3, i_n4, i_n5, i_n6, i_n7, i_n8, k_cl, if_true, if_false]
      exact ⟨t, rfl, hf, fun j h => hj j (by omega)⟩
    | succ m ih =>
      intro k t hk hf hj
      rw [tX9_copiesi73_69_2]
      try simp only [k_lit, k_nN, k_ofN]
      simp (disch := omega) only [i_leT, i_leF, i_ltT, i_ltF, i_eqT, i_eqF, i_okT, i_n1, i_n2, i_n3, i_n4, i_n5, i_n6, i_n7, i_n8, k_cl, if_true, if_false, nI_add]
      refine ih (k + 1) _ (by omega) (fr_si hf (by simp)) (fun j h => ?_)
      simp only [m_si]
      by_cases e : j = k
      · subst e
        simp [hf.1 73 j (by decide) (by simp)]
      · simpa [e] using hj j (by omega)
  rw [tX9_copiesi73_69]
  exact key 8 0 s (by omega) (fr_rfl s) (fun j h => absurd h (Nat.not_lt_zero j))
