/-! ===== a move is made ===== -/
theorem plc_5 : plc 5 = nN := rfl
theorem plc_r {r : Nat} (h : r < 5) : plc r = nI r := by
  unfold plc
  rw [if_neg (by omega)]
theorem sX4_tradeMove {s : aMem} {x : Nat → Nat} {m r p l t : Nat} (hs : sOk (s.1 23) x) (hm : m < 200) (hr : r < 5) (hp : p < 6) (hrp : r ≠ p) (hl : l < 12) (ht : t < 12) (e0 : s.1 24 (4 * m) = nI r) (e1 : s.1 24 (4 * m + 1) = nI l) (e2 : s.1 24 (4 * m + 2) = nI t) (e3 : s.1 24 (4 * m + 3) = plc p) : ∃ u, fX4_tradeMove [.ref 22, .int (nI (4 * m))] s = some (.inl none, u) ∧ fr [23] [] s u ∧ sOk (u.1 23) (xtr x r p l t) := by
  obtain ⟨u, hu, hf, hx⟩ := sX8_trade23 hs (r := r) (p := p) (by omega) hp hrp hl ht
  refine ⟨u, ?_, hf, hx⟩
  rw [tX4_tradeMove]
  try simp only [k_lit, k_nN, k_ofN, nI_add]
  simp (disch := omega) only [i_leT, i_leF, i_ltT, i_ltF, i_eqT, i_eqF, i_okT, i_n1, i_n2, i_n3, i_n4, i_n5, i_n6, i_n7, i_n8, k_cl, if_true, if_false]
  rw [e0, e1, e2, e3]
  by_cases h5 : p = 5
  · subst h5
    rw [if_pos plc_5, hu, b_bv]
  · have h6 : ¬ plc p = nN := by
      rw [plc_r (by omega)]
      exact fun e => nN_ne (a := p) (by omega) e.symm
    rw [if_neg h6, plc_r (by omega), hu, b_bv]
theorem sX4_writeMove {s : aMem} {x : Nat → Nat} {m r p l t : Nat} (hs : sOk (s.1 23) x) (hm : m < 200) (hr : r < 5) (hp : p < 6) (hrp : r ≠ p) (hl : l < 12) (ht : t < 12) (hc : s.1 22 2 = nI m) : ∃ u, fX4_writeMove [.ref 22, .int (nI r), .int (nI l), .int (nI t), .int (plc p)] s = some (.inl none, u) ∧ fr [23, 24] [(22, 2)] s u ∧ sOk (u.1 23) (xtr x r p l t) ∧ u.1 22 2 = nI (m + 1) ∧ (∀ j, j < 4 * m → u.1 24 j = s.1 24 j) ∧ u.1 24 (4 * m) = nI r ∧ u.1 24 (4 * m + 1) = nI l ∧ u.1 24 (4 * m + 2) = nI t ∧ u.1 24 (4 * m + 3) = plc p := by
  rw [tX4_writeMove]
  try simp only [k_lit, k_nN, k_ofN, hc, pk_mul, nI_add]
  simp (disch := omega) only [i_leT, i_leF, i_ltT, i_ltF, i_eqT, i_eqF, i_okT, i_n1, i_n2, i_n3, i_n4, i_n5, i_n6, i_n7, i_n8, k_cl, if_true, if_false]
  have hs2 : sOk ((a_si (a_si (a_si (a_si (a_si s 24 (4 * m) (nI r)) 24 (4 * m + 1) (nI l)) 24 (4 * m + 2) (nI t)) 24 (4 * m + 3) (plc p)) 22 2 (nI (m + 1))).1 23) x := by
    intro k hk
    simpa [m_si] using hs k hk
  obtain ⟨u, hu, hf, hx⟩ := sX4_tradeMove hs2 hm hr hp hrp hl ht (by simp [m_si]) (by simp [m_si]) (by simp [m_si]) (by simp [m_si])
  have hf2 : fr [23, 24] [(22, 2)] (a_si (a_si (a_si (a_si (a_si s 24 (4 * m) (nI r)) 24 (4 * m + 1) (nI l)) 24 (4 * m + 2) (nI t)) 24 (4 * m + 3) (plc p)) 22 2 (nI (m + 1))) u := fr_mono hf (by simp) (by simp)
  refine ⟨u, ?_, fr_trans (fr_si (fr_si (fr_si (fr_si (fr_si (fr_rfl s) (by simp)) (by simp)) (by simp)) (by simp)) (by simp)) hf2, hx, ?_, fun j hj => ?_, ?_, ?_, ?_, ?_⟩
  · rw [hu, b_bv]
  · rw [hf.1 22 2 (by simp) (by simp)]
    simp [m_si]
  · rw [hf.1 24 j (by simp) (by simp)]
    have n0 : ¬ j = 4 * m := by omega
    have n1 : ¬ j = 4 * m + 1 := by omega
    have n2 : ¬ j = 4 * m + 2 := by omega
    have n3 : ¬ j = 4 * m + 3 := by omega
    simp [m_si, n0, n1, n2, n3]
  · rw [hf.1 24 _ (by simp) (by simp)]
    simp [m_si]
  · rw [hf.1 24 _ (by simp) (by simp)]
    simp [m_si]
  · rw [hf.1 24 _ (by simp) (by simp)]
    simp [m_si]
  · rw [hf.1 24 _ (by simp) (by simp)]
    simp [m_si]
theorem sX9_writes {s : aMem} {m r p l t : Nat} (hm : m < 200) (hl : l < 12) (ht : t < 12) (hlt : l ≠ t) (hr : r < 5) (hc : s.1 43 35 = nI m) : ∃ u, fX9_writes [.ref 43, .int (nI r), .int (nI l), .int (nI t), .int (plc p)] s = some (.inl (some (.int (nI 0))), u) ∧ fr [59, 45] [(43, 35)] s u ∧ u.1 43 35 = nI (m + 1) ∧ u.1 45 = otr (s.1 45) r p l t ∧ (∀ j, j < 4 * m → u.1 59 j = s.1 59 j) ∧ u.1 59 (4 * m) = nI r ∧ u.1 59 (4 * m + 1) = nI l ∧ u.1 59 (4 * m + 2) = nI t ∧ u.1 59 (4 * m + 3) = plc p := by
  rw [tX9_writes]
  try simp only [k_lit, k_nN, k_ofN, hc, pk_mul, nI_add]
  simp (disch := omega) only [i_leT, i_leF, i_ltT, i_ltF, i_eqT, i_eqF, i_okT, i_n1, i_n2, i_n3, i_n4, i_n5, i_n6, i_n7, i_n8, k_cl, if_true, if_false]
  refine ⟨_, rfl, fr_si (fr_si (fr_si (fr_si (fr_si (fr_si (fr_si (fr_rfl s) (by simp)) (by simp)) (by simp)) (by simp)) (by simp)) (by simp)) (by simp), ?_, ?_, fun j hj => ?_, ?_, ?_, ?_, ?_⟩
  · simp [m_si]
  · funext b
    unfold otr
    rw [plc_r hr]
    simp only [m_si]
    by_cases e1 : b = l
    · subst e1
      simp [hlt]
    · by_cases e2 : b = t
      · subst e2
        simp [e1]
      · simp [e1, e2]
  · have n0 : ¬ j = 4 * m := by omega
    have n1 : ¬ j = 4 * m + 1 := by omega
    have n2 : ¬ j = 4 * m + 2 := by omega
    have n3 : ¬ j = 4 * m + 3 := by omega
    simp [m_si, n0, n1, n2, n3]
  · simp [m_si]
  · simp [m_si]
  · simp [m_si]
  · simp [m_si]
theorem hist_add {nb nr m r p l t : Nat} {mv mv' o0 o o' : Nat → Int32} (h : hist nb nr m mv o0 o) (hr : r < nr) (hr5 : nr ≤ 5) (hl : l < nb) (ht : t < nb) (hlt : l ≠ t) (hp : p = 5 ∨ (p < nr ∧ p ≠ r)) (h1 : o l = nI r) (h2 : o t = plc p) (ho : ∀ b, b < nb → o' b = otr o r p l t b) (hj : ∀ j, j < 4 * m → mv' j = mv j) (e0 : mv' (4 * m) = nI r) (e1 : mv' (4 * m + 1) = nI l) (e2 : mv' (4 * m + 2) = nI t) (e3 : mv' (4 * m + 3) = plc p) : hist nb nr (m + 1) mv' o0 o' := by
  obtain ⟨w, w0, wm, wc⟩ := h
  have hA : ∀ k b, k ≤ m → (fun k b => if k ≤ m then w k b else o' b) k b = w k b := fun k b h => if_pos h
  have hB : ∀ b, (fun k b => if k ≤ m then w k b else o' b) (m + 1) b = o' b := fun b => if_neg (by omega)
  refine ⟨fun k b => if k ≤ m then w k b else o' b, fun b hb => ?_, fun b hb => hB b, fun k hk => ?_⟩
  · rw [hA 0 b (by omega)]
    exact w0 b hb
  · by_cases hkm : k < m
    · obtain ⟨r1, l1, t1, q1, a1, a2, a3, a4, a5, a6, a7, a8, a9, a10, a11, a12⟩ := wc k hkm
      refine ⟨r1, l1, t1, q1, a1, a2, a3, a4, a5, ?_, ?_, ?_, ?_, ?_, ?_, fun b hb => ?_⟩
      · rw [hj _ (by omega)]; exact a6
      · rw [hj _ (by omega)]; exact a7
      · rw [hj _ (by omega)]; exact a8
      · rw [hj _ (by omega)]; exact a9
      · rw [hA _ _ (by omega)]; exact a10
      · rw [hA _ _ (by omega)]; exact a11
      · rw [hA _ _ (by omega), hA _ _ (by omega)]
        exact a12 b hb
    · have ek : k = m := by omega
      subst ek
      refine ⟨r, l, t, plc p, hr, hl, ht, hlt, ?_, e0, e1, e2, e3, ?_, ?_, fun b hb => ?_⟩
      · rcases hp with e | ⟨e, e'⟩
        · subst e; exact .inl rfl
        · exact .inr ⟨p, e, e', plc_r (by omega)⟩
      · rw [hA _ _ (by omega), wm l hl]; exact h1
      · rw [hA _ _ (by omega), wm t ht]; exact h2
      · rw [hB, hA _ _ (by omega), ho b hb]
        unfold otr
        rw [plc_r (r := r) (by omega), wm b hb]
