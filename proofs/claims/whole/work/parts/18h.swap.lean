/-! ===== swap, event, undo ===== -/
/-- what troubleOfSwap says -/
def trs (o : Nat → Int32) (r g p t : Nat) : Nat := if r = p then 1 else if o g = nI r then (if o t = nI p then 0 else 3) else 2
theorem sX8_swapT {s : aMem} {nb nr r g p t : Nat} {c : List (Nat × Nat)} (hL : LibI nb nr c s) (hO : Own nb nr (s.1 23) (s.1 45)) (hr : r < nr) (hg : g < nb) (hp : p < nr) (ht : t < nb) : fX8_troubleOfSwap [.ref 0, .int (nI r), .int (nI g), .int (nI p), .int (nI t)] s = some (.inl (some (.int (nI (trs (s.1 45) r g p t)))), s) := by
  obtain ⟨⟨hnb, hnr⟩, ⟨b1, b2⟩, ⟨r1, r2⟩, -, -, hpg, hfw, -, -⟩ := id hL
  rw [tX8_troubleOfSwap, sX8_isReaderT r1 hnr hr, b_bi, tX8_troubleOfSwap_5]
  try simp only [k_lit, k_nN, k_ofN]
  simp (disch := omega) only [i_leT, i_leF, i_ltT, i_ltF, i_eqT, i_eqF, i_okT, i_n1, i_n2, i_n3, i_n4, i_n5, i_n6, i_n7, i_n8, k_cl, if_true, if_false]
  rw [sX8_isReaderT r1 hnr hp, b_bi, tX8_troubleOfSwap_13]
  try simp only [k_lit, k_nN, k_ofN]
  simp (disch := omega) only [i_leT, i_leF, i_ltT, i_ltF, i_eqT, i_eqF, i_okT, i_n1, i_n2, i_n3, i_n4, i_n5, i_n6, i_n7, i_n8, k_cl, if_true, if_false]
  rw [sX8_isBookT b1 hnb hg, b_bi, tX8_troubleOfSwap_21]
  try simp only [k_lit, k_nN, k_ofN]
  simp (disch := omega) only [i_leT, i_leF, i_ltT, i_ltF, i_eqT, i_eqF, i_okT, i_n1, i_n2, i_n3, i_n4, i_n5, i_n6, i_n7, i_n8, k_cl, if_true, if_false]
  rw [sX8_isBookT b1 hnb ht, b_bi, tX8_troubleOfSwap_30]
  try simp only [k_lit, k_nN, k_ofN]
  unfold trs
  by_cases e : r = p
  · subst e
    simp (disch := omega) only [i_leT, i_leF, i_ltT, i_ltF, i_eqT, i_eqF, i_okT, i_n1, i_n2, i_n3, i_n4, i_n5, i_n6, i_n7, i_n8, k_cl, if_true, if_false]
  · simp (disch := omega) only [i_leT, i_leF, i_ltT, i_ltF, i_eqT, i_eqF, i_okT, i_n1, i_n2, i_n3, i_n4, i_n5, i_n6, i_n7, i_n8, k_cl, if_true, if_false]
    rw [if_neg e, hO.1 r (by omega), k_holds _ g (by have := @msk_12 nb (fun b => decide (s.1 45 b = nI r)) hnb; omega) (by omega), b_bi, ob hg, tX8_troubleOfSwap_53]
    try simp only [k_lit, k_nN, k_ofN]
    by_cases e1 : s.1 45 g = nI r
    · simp only [e1, decide_true, Bool.toNat_true]
      simp (disch := omega) only [i_leT, i_leF, i_ltT, i_ltF, i_eqT, i_eqF, i_okT, i_n1, i_n2, i_n3, i_n4, i_n5, i_n6, i_n7, i_n8, k_cl, if_true, if_false]
      rw [hO.1 p (by omega), k_holds _ t (by have := @msk_12 nb (fun b => decide (s.1 45 b = nI p)) hnb; omega) (by omega), b_bi, ob ht, tX8_troubleOfSwap_72]
      try simp only [k_lit, k_nN, k_ofN]
      by_cases e2 : s.1 45 t = nI p
      · simp only [e2, decide_true, Bool.toNat_true]
        simp (disch := omega) only [i_leT, i_leF, i_ltT, i_ltF, i_eqT, i_eqF, i_okT, i_n1, i_n2, i_n3, i_n4, i_n5, i_n6, i_n7, i_n8, k_cl, if_true, if_false]
      · simp only [e2, decide_false, Bool.toNat_false]
        simp (disch := omega) only [i_leT, i_leF, i_ltT, i_ltF, i_eqT, i_eqF, i_okT, i_n1, i_n2, i_n3, i_n4, i_n5, i_n6, i_n7, i_n8, k_cl, if_true, if_false]
    · simp only [e1, decide_false, Bool.toNat_false]
      simp (disch := omega) only [i_leT, i_leF, i_ltT, i_ltF, i_eqT, i_eqF, i_okT, i_n1, i_n2, i_n3, i_n4, i_n5, i_n6, i_n7, i_n8, k_cl, if_true, if_false]
theorem sX8_swapF {s : aMem} {nb nr : Nat} {c : List (Nat × Nat)} {r g p t : Int32} (hL : LibI nb nr c s) (hv : ¬ (vb nr r ∧ vb nr p ∧ vb nb g ∧ vb nb t)) : fX8_troubleOfSwap [.ref 0, .int r, .int g, .int p, .int t] s = some (.inl (some (.int (nI 1))), s) := by
  obtain ⟨⟨hnb, hnr⟩, ⟨b1, b2⟩, ⟨r1, r2⟩, -, -, -, -, -, -⟩ := id hL
  rw [tX8_troubleOfSwap]
  by_cases hr : vb nr r
  · obtain ⟨a, ha, rfl⟩ := hr
    rw [sX8_isReaderT r1 hnr ha, b_bi, tX8_troubleOfSwap_5]
    try simp only [k_lit, k_nN, k_ofN]
    simp (disch := omega) only [i_leT, i_leF, i_ltT, i_ltF, i_eqT, i_eqF, i_okT, i_n1, i_n2, i_n3, i_n4, i_n5, i_n6, i_n7, i_n8, k_cl, if_true, if_false]
    by_cases hp : vb nr p
    · obtain ⟨q, hq, rfl⟩ := hp
      rw [sX8_isReaderT r1 hnr hq, b_bi, tX8_troubleOfSwap_13]
      try simp only [k_lit, k_nN, k_ofN]
      simp (disch := omega) only [i_leT, i_leF, i_ltT, i_ltF, i_eqT, i_eqF, i_okT, i_n1, i_n2, i_n3, i_n4, i_n5, i_n6, i_n7, i_n8, k_cl, if_true, if_false]
      by_cases hg : vb nb g
      · obtain ⟨b, hb, rfl⟩ := hg
        rw [sX8_isBookT b1 hnb hb, b_bi, tX8_troubleOfSwap_21]
        try simp only [k_lit, k_nN, k_ofN]
        simp (disch := omega) only [i_leT, i_leF, i_ltT, i_ltF, i_eqT, i_eqF, i_okT, i_n1, i_n2, i_n3, i_n4, i_n5, i_n6, i_n7, i_n8, k_cl, if_true, if_false]
        have ht : ¬ vb nb t := fun c => hv ⟨⟨a, ha, rfl⟩, ⟨q, hq, rfl⟩, ⟨b, hb, rfl⟩, c⟩
        rw [sX8_isBookF b1 hnb ht, b_bi, tX8_troubleOfSwap_30]
        try simp only [k_lit, k_nN, k_ofN]
        simp (disch := omega) only [i_leT, i_leF, i_ltT, i_ltF, i_eqT, i_eqF, i_okT, i_n1, i_n2, i_n3, i_n4, i_n5, i_n6, i_n7, i_n8, k_cl, if_true, if_false]
      · rw [sX8_isBookF b1 hnb hg, b_bi, tX8_troubleOfSwap_21]
        try simp only [k_lit, k_nN, k_ofN]
        simp (disch := omega) only [i_leT, i_leF, i_ltT, i_ltF, i_eqT, i_eqF, i_okT, i_n1, i_n2, i_n3, i_n4, i_n5, i_n6, i_n7, i_n8, k_cl, if_true, if_false]
    · rw [sX8_isReaderF r1 hnr hp, b_bi, tX8_troubleOfSwap_13]
      try simp only [k_lit, k_nN, k_ofN]
      simp (disch := omega) only [i_leT, i_leF, i_ltT, i_ltF, i_eqT, i_eqF, i_okT, i_n1, i_n2, i_n3, i_n4, i_n5, i_n6, i_n7, i_n8, k_cl, if_true, if_false]
  · rw [sX8_isReaderF r1 hnr hr, b_bi, tX8_troubleOfSwap_5]
    try simp only [k_lit, k_nN, k_ofN]
    simp (disch := omega) only [i_leT, i_leF, i_ltT, i_ltF, i_eqT, i_eqF, i_okT, i_n1, i_n2, i_n3, i_n4, i_n5, i_n6, i_n7, i_n8, k_cl, if_true, if_false]
theorem sX9_swapF {s : aMem} {nb nr : Nat} {r g p t : Int32} (h1 : s.1 43 1 = nI nb) (h2 : s.1 43 2 = nI nr) (hnb : nb ≤ 12) (hnr : nr ≤ 5) (hv : ¬ (vb nr r ∧ vb nr p ∧ vb nb g ∧ vb nb t)) : fX9_swap [.ref 43, .int r, .int g, .int p, .int t] s = some (.inl (some (.int (nI 1))), a_si (a_si s 43 0 (nI 0)) 51 1 (s.1 51 1 + nI 1)) := by
  have w1 : (a_si s 43 0 (nI 0)).1 43 1 = nI nb := by simpa [m_si] using h1
  have w2 : (a_si s 43 0 (nI 0)).1 43 2 = nI nr := by simpa [m_si] using h2
  have w3 : (a_si s 43 0 (nI 0)).1 51 1 = s.1 51 1 := by simp [m_si]
  rw [tX9_swap]
  try simp only [k_lit, k_nN, k_ofN]
  by_cases hr : vb nr r
  · obtain ⟨a, ha, rfl⟩ := hr
    rw [sX9_isReaderT w2 hnr ha, b_bi, tX9_swap_13]
    try simp only [k_lit, k_nN, k_ofN]
    simp (disch := omega) only [i_leT, i_leF, i_ltT, i_ltF, i_eqT, i_eqF, i_okT, i_n1, i_n2, i_n3, i_n4, i_n5, i_n6, i_n7, i_n8, k_cl, if_true, if_false]
    by_cases hp : vb nr p
    · obtain ⟨q, hq, rfl⟩ := hp
      rw [sX9_isReaderT w2 hnr hq, b_bi, tX9_swap_21]
      try simp only [k_lit, k_nN, k_ofN]
      simp (disch := omega) only [i_leT, i_leF, i_ltT, i_ltF, i_eqT, i_eqF, i_okT, i_n1, i_n2, i_n3, i_n4, i_n5, i_n6, i_n7, i_n8, k_cl, if_true, if_false]
      by_cases e : a = q
      · subst e
        simp (disch := omega) only [i_leT, i_leF, i_ltT, i_ltF, i_eqT, i_eqF, i_okT, i_n1, i_n2, i_n3, i_n4, i_n5, i_n6, i_n7, i_n8, k_cl, if_true, if_false]
        rw [w3]
      · simp (disch := omega) only [i_leT, i_leF, i_ltT, i_ltF, i_eqT, i_eqF, i_okT, i_n1, i_n2, i_n3, i_n4, i_n5, i_n6, i_n7, i_n8, k_cl, if_true, if_false]
        by_cases hg : vb nb g
        · obtain ⟨b, hb, rfl⟩ := hg
          rw [sX9_isBookT w1 hnb hb, b_bi, tX9_swap_34]
          try simp only [k_lit, k_nN, k_ofN]
          simp (disch := omega) only [i_leT, i_leF, i_ltT, i_ltF, i_eqT, i_eqF, i_okT, i_n1, i_n2, i_n3, i_n4, i_n5, i_n6, i_n7, i_n8, k_cl, if_true, if_false]
          have ht : ¬ vb nb t := fun c => hv ⟨⟨a, ha, rfl⟩, ⟨q, hq, rfl⟩, ⟨b, hb, rfl⟩, c⟩
          rw [sX9_isBookF w1 hnb ht, b_bi, tX9_swap_43]
          try simp only [k_lit, k_nN, k_ofN]
          simp (disch := omega) only [i_leT, i_leF, i_ltT, i_ltF, i_eqT, i_eqF, i_okT, i_n1, i_n2, i_n3, i_n4, i_n5, i_n6, i_n7, i_n8, k_cl, if_true, if_false]
          rw [w3]
        · rw [sX9_isBookF w1 hnb hg, b_bi, tX9_swap_34]
          try simp only [k_lit, k_nN, k_ofN]
          simp (disch := omega) only [i_leT, i_leF, i_ltT, i_ltF, i_eqT, i_eqF, i_okT, i_n1, i_n2, i_n3, i_n4, i_n5, i_n6, i_n7, i_n8, k_cl, if_true, if_false]
          rw [w3]
    · rw [sX9_isReaderF w2 hnr hp, b_bi, tX9_swap_21]
      try simp only [k_lit, k_nN, k_ofN]
      simp (disch := omega) only [i_leT, i_leF, i_ltT, i_ltF, i_eqT, i_eqF, i_okT, i_n1, i_n2, i_n3, i_n4, i_n5, i_n6, i_n7, i_n8, k_cl, if_true, if_false]
      rw [w3]
  · rw [sX9_isReaderF w2 hnr hr, b_bi, tX9_swap_13]
    try simp only [k_lit, k_nN, k_ofN]
    simp (disch := omega) only [i_leT, i_leF, i_ltT, i_ltF, i_eqT, i_eqF, i_okT, i_n1, i_n2, i_n3, i_n4, i_n5, i_n6, i_n7, i_n8, k_cl, if_true, if_false]
    rw [w3]
theorem op_swap {s : aMem} (hI : Inv s) (r g p t : Int32) : agn (fX8_swap [.ref 0, .int r, .int g, .int p, .int t]) (fX9_swap [.ref 43, .int r, .int g, .int p, .int t]) s := by
  obtain ⟨nb, nr, c, hL, hN, hG, hR, hT, hC⟩ := id hI
  obtain ⟨⟨hnb, hnr⟩, ⟨b1, b2⟩, ⟨r1, r2⟩, -, -, -, -, -, -⟩ := id hL
  obtain ⟨hO, nm, ne, hm, he, cx, cm, kx, km, hmv, hh, hev⟩ := id hN
  by_cases hv : vb nr r ∧ vb nr p ∧ vb nb g ∧ vb nb t
  · obtain ⟨⟨a, ha, rfl⟩, ⟨q, hq, rfl⟩, ⟨b, hb, rfl⟩, ⟨d, hd, rfl⟩⟩ := hv
    have hx := sX8_swapT hL hO ha hb hq hd
    -- M up to the last question, at any memory that has the same
    have hmm : ∀ s2 : aMem, s2.1 43 1 = nI nb → s2.1 43 2 = nI nr → s2.1 45 = s.1 45 → s2.1 43 35 = nI nm → fX9_swap [.ref 43, .int (nI a), .int (nI b), .int (nI q), .int (nI d)] s2 = (if trs (s.1 45) a b q d = 0 then (if nm = 200 then some (.inl (some (.int (nI 5))), a_si (a_si s2 43 0 (nI 0)) 51 1 (s2.1 51 1 + nI 1)) else a_bi (fX9_writes [.ref 43, .int (nI a), .int (nI b), .int (nI d), .int (nI q)] (a_si s2 43 0 (nI 0))) (fun r2 s1 => some (.inl (some (.int r2)), s1)) none (fun x s1 => some (.inr x, s1))) else some (.inl (some (.int (nI (trs (s.1 45) a b q d)))), a_si (a_si s2 43 0 (nI 0)) 51 1 (s2.1 51 1 + nI 1))) := by
      intro s2 q1 q2 q3 q4
      have w1 : (a_si s2 43 0 (nI 0)).1 43 1 = nI nb := by simpa [m_si] using q1
      have w2 : (a_si s2 43 0 (nI 0)).1 43 2 = nI nr := by simpa [m_si] using q2
      have w3 : (a_si s2 43 0 (nI 0)).1 51 1 = s2.1 51 1 := by simp [m_si]
      have w4 : (a_si s2 43 0 (nI 0)).1 45 = s.1 45 := (z_ne (by decide)).trans q3
      have w5 : (a_si s2 43 0 (nI 0)).1 43 35 = nI nm := by simpa [m_si] using q4
      rw [tX9_swap]
      try simp only [k_lit, k_nN, k_ofN]
      rw [sX9_isReaderT w2 hnr ha, b_bi, tX9_swap_13]
      try simp only [k_lit, k_nN, k_ofN]
      simp (disch := omega) only [i_leT, i_leF, i_ltT, i_ltF, i_eqT, i_eqF, i_okT, i_n1, i_n2, i_n3, i_n4, i_n5, i_n6, i_n7, i_n8, k_cl, if_true, if_false]
      rw [sX9_isReaderT w2 hnr hq, b_bi, tX9_swap_21]
      try simp only [k_lit, k_nN, k_ofN]
      simp (disch := omega) only [i_leT, i_leF, i_ltT, i_ltF, i_eqT, i_eqF, i_okT, i_n1, i_n2, i_n3, i_n4, i_n5, i_n6, i_n7, i_n8, k_cl, if_true, if_false]
      unfold trs
      by_cases e : a = q
      · subst e
        simp (disch := omega) only [i_leT, i_leF, i_ltT, i_ltF, i_eqT, i_eqF, i_okT, i_n1, i_n2, i_n3, i_n4, i_n5, i_n6, i_n7, i_n8, k_cl, if_true, if_false]
        rw [w3]
        simp
      · rw [if_neg e]
        simp (disch := omega) only [i_leT, i_leF, i_ltT, i_ltF, i_eqT, i_eqF, i_okT, i_n1, i_n2, i_n3, i_n4, i_n5, i_n6, i_n7, i_n8, k_cl, if_true, if_false]
        rw [sX9_isBookT w1 hnb hb, b_bi, tX9_swap_34]
        try simp only [k_lit, k_nN, k_ofN]
        simp (disch := omega) only [i_leT, i_leF, i_ltT, i_ltF, i_eqT, i_eqF, i_okT, i_n1, i_n2, i_n3, i_n4, i_n5, i_n6, i_n7, i_n8, k_cl, if_true, if_false]
        rw [sX9_isBookT w1 hnb hd, b_bi, tX9_swap_43]
        try simp only [k_lit, k_nN, k_ofN]
        simp (disch := omega) only [i_leT, i_leF, i_ltT, i_ltF, i_eqT, i_eqF, i_okT, i_n1, i_n2, i_n3, i_n4, i_n5, i_n6, i_n7, i_n8, k_cl, if_true, if_false]
        rw [w3, w4, w5]
        by_cases e1 : s.1 45 b = nI a
        · rw [if_pos e1, if_pos e1]
          by_cases e2 : s.1 45 d = nI q
          · rw [if_pos e2, if_pos e2, if_pos rfl]
            by_cases e3 : nm = 200
            · subst e3
              simp (disch := omega) only [i_leT, i_leF, i_ltT, i_ltF, i_eqT, i_eqF, i_okT, i_n1, i_n2, i_n3, i_n4, i_n5, i_n6, i_n7, i_n8, k_cl, if_true, if_false]
            · simp (disch := omega) only [i_leT, i_leF, i_ltT, i_ltF, i_eqT, i_eqF, i_okT, i_n1, i_n2, i_n3, i_n4, i_n5, i_n6, i_n7, i_n8, k_cl, if_true, if_false]
              rw [if_neg e3]
          · rw [if_neg e2, if_neg e2]
            simp
        · rw [if_neg e1, if_neg e1]
          simp
    by_cases h0 : trs (s.1 45) a b q d = 0
    · rw [h0] at hx
      have ho : a ≠ q ∧ s.1 45 b = nI a ∧ s.1 45 d = nI q := by
        unfold trs at h0
        split at h0
        · cases h0
        · rename_i e0
          split at h0
          · rename_i e1
            split at h0
            · rename_i e2
              exact ⟨e0, e1, e2⟩
            · cases h0
          · cases h0
      by_cases h5 : nm = 200
      · subst h5
        refine ⟨nI 5, a_si s 0 13 (s.1 0 13 + nI 1), ?_, rfl, a_si (a_si (a_si s 0 13 (s.1 0 13 + nI 1)) 43 0 (nI 0)) 51 1 (s.1 51 1 + nI 1), ?_, inv_ref hI, rfl⟩
        · rw [tX8_swap, hx, b_bi, tX8_swap_10, sX8_settle5 cx, b_bi]
        · rw [hmm _ (by simpa [m_si] using b2) (by simpa [m_si] using r2) (by funext j; simp [m_si]) (by simpa [m_si] using cm), if_pos h0, if_pos rfl]
          simp [m_si]
      · obtain ⟨u, hu, fu, v, hv, fv, hNv⟩ := mv_both (p := q) hnb hnr hN cx (by omega) ha (.inr ⟨hq, fun e => ho.1 e.symm⟩) hb hd ho.2.1 (by rw [plc_r (by omega)]; exact ho.2.2)
        rw [plc_r (by omega)] at hu hv
        refine ⟨nI 0, u, ?_, fu.2.2, v, ?_, mv_inv hL hG hR hT hC fu fv hNv, ?_⟩
        · rw [tX8_swap, hx, b_bi, tX8_swap_10, tX8_settle]
          try simp only [k_lit, k_nN, k_ofN, cx]
          simp (disch := omega) only [i_leT, i_leF, i_ltT, i_ltF, i_eqT, i_eqF, i_okT, i_n1, i_n2, i_n3, i_n4, i_n5, i_n6, i_n7, i_n8, k_cl, if_true, if_false]
          rw [hu, b_bv, b_bi]
        · rw [hmm u (by rw [fu.1 43 1 (by decide) (by decide)]; exact b2) (by rw [fu.1 43 2 (by decide) (by decide)]; exact r2) (by funext j; exact fu.1 45 j (by decide) (by simp)) (by rw [fu.1 43 35 (by decide) (by decide)]; exact cm), if_pos h0, if_neg h5, hv, b_bi]
        · rw [fv.2.2]; exact fu.2.2
    · have hle : trs (s.1 45) a b q d < 10 := by
        unfold trs
        split
        · omega
        · split
          · split <;> omega
          · omega
      refine ⟨nI (trs (s.1 45) a b q d), a_si s 0 13 (s.1 0 13 + nI 1), ?_, rfl, a_si (a_si (a_si s 0 13 (s.1 0 13 + nI 1)) 43 0 (nI 0)) 51 1 (s.1 51 1 + nI 1), ?_, inv_ref hI, rfl⟩
      · rw [tX8_swap, hx, b_bi, tX8_swap_10, sX8_settleF (by omega) (by omega), b_bi]
      · rw [hmm _ (by simpa [m_si] using b2) (by simpa [m_si] using r2) (by funext j; simp [m_si]) (by simpa [m_si] using cm), if_neg h0]
        simp [m_si]
  · refine ⟨nI 1, a_si s 0 13 (s.1 0 13 + nI 1), ?_, rfl, a_si (a_si (a_si s 0 13 (s.1 0 13 + nI 1)) 43 0 (nI 0)) 51 1 (s.1 51 1 + nI 1), ?_, inv_ref hI, rfl⟩
    · rw [tX8_swap, sX8_swapF hL hv, b_bi, tX8_swap_10, sX8_settleF (by omega) (by omega), b_bi]
    · rw [sX9_swapF (nb := nb) (nr := nr) (by simpa [m_si] using b2) (by simpa [m_si] using r2) hnb hnr hv]
      simp [m_si]
