/-! ===== the class's search to its end ===== -/
def bkb (b v : Nat) : Bool := v.testBit b
theorem fnA_ext {bk : Nat → Bool} {L D L' D' : Nat → Nat} {d k n n' : Nat} {a : Int32} (hf : fnA bk L D k a) (hk : k ≤ n) (hx : ext d L D L' D' n n') : fnA bk L' D' k a := by
  rcases hf with ⟨h1, h2⟩ | ⟨i0, h1, h2, h3, h4⟩
  · exact .inl ⟨h1, fun i hi => by rw [(hx.2.1 i (by omega)).1]; exact h2 i hi⟩
  · exact .inr ⟨i0, h1, by rw [(hx.2.1 i0 (by omega)).2]; exact h2, by rw [(hx.2.1 i0 (by omega)).1]; exact h3, fun i hi => by rw [(hx.2.1 i (by omega)).1]; exact h4 i hi⟩
theorem sX2_fewestMoves {nb P b x0 y0 z : Nat} {pg : Nat → Int32} {s : aMem} (hnb : nb ≤ 12) (hb : b < nb) (hb0 : s.1 12 0 = nI nb) (hfw : fwOk nb (s.1 20) (s.1 19)) (hpg : ∀ b, b < nb → s.1 19 b = pg b) (hx : x0 < 2 ^ nb) (hy : y0 < 2 ^ nb) (hz : z < 2 ^ nb) (hd : ∀ b, x0.testBit b = true → y0.testBit b = false) (hP : P = x0 ||| y0 ||| z) : ∃ r u, fX2_fewestMoves [.ref 35, .int (nI x0), .int (nI y0), .int (nI z), .int (nI b)] s = some (.inl (some (.int r)), u) ∧ fr [36, 37] [(35, 3), (35, 4)] s u ∧ Ans (scp nb pg P) (enc x0 y0) (bkb b) r := by
  have hx4 := lt12 hx hnb
  have hy4 := lt12 hy hnb
  have hP2 : P < 2 ^ nb := by rw [hP]; exact Nat.or_lt_two_pow (Nat.or_lt_two_pow hx hy) hz
  have h0 : vok nb (enc x0 y0) := vok_enc hnb hx hy hd
  -- the inner loop: the states of one level
  have inner : ∀ (E mv : Nat), mv < 4000 → E ≤ 4000 → ∀ m k t L D n sp a, k + m = E → E ≤ n → (∃ T, pX nb s t T L n sp) → bq (scp nb pg P) (enc x0 y0) L D n k ∨ sp = 1 → (sp = 1 → big (scp nb pg P) (enc x0 y0)) → (∀ i, k ≤ i → i < E → D i = mv) → (∀ i, E ≤ i → i < n → D i = mv + 1) → fnA (bkb b) L D k a → mv ≤ k → (∃ u, a_run none shp pX2_fewestMoves 63 [some (.ref 35), none, none, none, some (.int (nI b)), some (.int (nI P)), some (.int a), some (.int (nI k)), some (.int (nI mv)), some (.int (nI E)), none] [] t = some (.inl (some (.int (-nI 2))), u) ∧ fr [36, 37] [(35, 3), (35, 4)] s u ∧ big (scp nb pg P) (enc x0 y0)) ∨ (∃ u L' D' n' a', a_run none shp pX2_fewestMoves 63 [some (.ref 35), none, none, none, some (.int (nI b)), some (.int (nI P)), some (.int a), some (.int (nI k)), some (.int (nI mv)), some (.int (nI E)), none] [] t = a_run none shp pX2_fewestMoves 40 [some (.ref 35), none, none, none, some (.int (nI b)), some (.int (nI P)), some (.int a'), some (.int (nI E)), some (.int (nI (mv + 1))), none, none] [] u ∧ (∃ T, pX nb s u T L' n' 0) ∧ bq (scp nb pg P) (enc x0 y0) L' D' n' E ∧ E ≤ n' ∧ (∀ i, E ≤ i → i < n' → D' i = mv + 1) ∧ fnA (bkb b) L' D' E a') := by
    intro E mv hmv hE4 m
    induction m with
    | zero =>
      intro k t L D n sp a hk hEn hp hq hbg hlo hhi hf hmk
      obtain ⟨T, hp⟩ := hp
      have hsp := hp.2.2.1.2.2.2
      rw [tX2_fewestMoves_63, hp.2.2.1.2.2.1]
      try simp only [k_lit, k_nN, k_ofN, nI_add]
      rw [i_leT (by omega) (by omega)]
      by_cases e : sp = 0
      · subst e
        rw [i_eqT rfl]
        refine .inr ⟨t, L, D, n, a, by rw [show k = E by omega], ⟨T, hp⟩, ?_, hEn, hhi, by rw [← show k = E by omega]; exact hf⟩
        rcases hq with hq | hq
        · rw [← show k = E by omega]; exact hq
        · omega
      · rw [i_eqF e (by omega) (by omega)]
        exact .inl ⟨t, rfl, hp.1, hbg (by omega)⟩
    | succ m ih =>
      intro k t L D n sp a hk hEn hp hq hbg hlo hhi hf hmk
      obtain ⟨T, hp⟩ := hp
      have hsp := hp.2.2.1.2.2.2
      by_cases e : sp = 0
      · subst e
        have hq2 : bq (scp nb pg P) (enc x0 y0) L D n k := hq.elim id (fun c => absurd c (by omega))
        have hg : gX nb pg P (enc x0 y0) s t L D n k (mv + 1) 0 := ⟨⟨T, hp⟩, hq2, by omega, fun c => absurd c (by omega), by rw [hlo k (by omega) (by omega)]⟩
        obtain ⟨u, L', D', n', sp', hu, g', x', -, k'⟩ := gX_goOn hnb hP2 hb0 hfw hpg h0 hg
        obtain ⟨⟨T', hp'⟩, hq', hkn', hbg', -⟩ := id g'
        obtain ⟨h36, hLv⟩ := hp.2.2.2.1 k (by omega)
        have hLk : L' k = L k := (x'.2.1 k (by omega)).1
        have hDk : D' k = D k := (x'.2.1 k (by omega)).2
        -- behind the step, with the answer as it is then
        have nxt : ∀ a', fnA (bkb b) L' D' (k + 1) a' → (∃ w, a_run none shp pX2_fewestMoves 123 [some (.ref 35), none, none, none, some (.int (nI b)), some (.int (nI P)), some (.int a'), some (.int (nI k)), some (.int (nI mv)), some (.int (nI E)), some (.int (nI (L k)))] [] u = some (.inl (some (.int (-nI 2))), w) ∧ fr [36, 37] [(35, 3), (35, 4)] s w ∧ big (scp nb pg P) (enc x0 y0)) ∨ (∃ w L2 D2 n2 a2, a_run none shp pX2_fewestMoves 123 [some (.ref 35), none, none, none, some (.int (nI b)), some (.int (nI P)), some (.int a'), some (.int (nI k)), some (.int (nI mv)), some (.int (nI E)), some (.int (nI (L k)))] [] u = a_run none shp pX2_fewestMoves 40 [some (.ref 35), none, none, none, some (.int (nI b)), some (.int (nI P)), some (.int a2), some (.int (nI E)), some (.int (nI (mv + 1))), none, none] [] w ∧ (∃ T, pX nb s w T L2 n2 0) ∧ bq (scp nb pg P) (enc x0 y0) L2 D2 n2 E ∧ E ≤ n2 ∧ (∀ i, E ≤ i → i < n2 → D2 i = mv + 1) ∧ fnA (bkb b) L2 D2 E a2) := by
          intro a' hf'
          have hx1 := x'.1
          rw [tX2_fewestMoves_123]
          try simp only [k_lit, k_nN, k_ofN, nI_add]
          refine ih (k + 1) u L' D' n' sp' a' (by omega) (by omega) ⟨T', hp'⟩ ?_ hbg' (fun i h1 h2 => ?_) (fun i h1 h2 => ?_) hf' (by omega)
          · have hsp' := hp'.2.2.1.2.2.2
            by_cases e0 : sp' = 0
            · refine .inl (bq_nxt hq' hkn' (fun w hw => ?_))
              rw [hLk] at hw
              exact k' e0 w hw
            · exact .inr (by omega)
          · rw [(x'.2.1 i (by omega)).2]
            exact hlo i (by omega) h2
          · by_cases e9 : i < n
            · rw [(x'.2.1 i e9).2]
              exact hhi i h1 e9
            · exact x'.2.2 i (by omega) h2
        have hf1 := fnA_ext hf (show k ≤ n by omega) x'
        rw [tX2_fewestMoves_63, hp.2.2.1.2.2.1]
        try simp only [k_lit, k_nN, k_ofN]
        rw [i_leF (by omega) (by omega), if_pos trivial, i_okT (by omega) (by omega), k_cl (by omega), h36]
        by_cases ea : a = nN
        · rw [if_pos ea, k_holds _ b (by omega) (by omega), b_bi, tX2_fewestMoves_99]
          try simp only [k_lit, k_nN, k_ofN]
          rw [k_dx hLv, k_dy hLv, hu, b_bv, b_bv]
          have hno : ∀ i, i < k → bkb b (L' i) = false := by
            rcases hf1 with ⟨-, h2⟩ | ⟨i0, h1, h2, -⟩
            · exact h2
            · exfalso
              rw [ea] at h2
              have hDi := (hq'.2.2.2.2.1 i0 (by omega)).2
              have := hq'.1.2
              exact nN_ne (by omega) h2
          cases eb : (L k).testBit b
          · simp only [Bool.toNat_false]
            simp (disch := omega) only [i_leT, i_leF, i_ltT, i_ltF, i_eqT, i_eqF, i_okT, i_n1, i_n2, i_n3, i_n4, i_n5, i_n6, i_n7, i_n8, k_cl, if_true, if_false]
            rw [ea]
            refine nxt nN (.inl ⟨rfl, fun i hi => ?_⟩)
            by_cases ei : i = k
            · rw [ei, hLk]; exact eb
            · exact hno i (by omega)
          · simp only [Bool.toNat_true]
            simp (disch := omega) only [i_leT, i_leF, i_ltT, i_ltF, i_eqT, i_eqF, i_okT, i_n1, i_n2, i_n3, i_n4, i_n5, i_n6, i_n7, i_n8, k_cl, if_true, if_false]
            exact nxt (nI mv) (.inr ⟨k, by omega, by rw [hDk, hlo k (by omega) (by omega)], by rw [hLk]; exact eb, hno⟩)
        · rw [if_neg ea, k_dx hLv, k_dy hLv, hu, b_bv]
          refine nxt a ?_
          rcases hf1 with ⟨h1, -⟩ | ⟨i0, h1, h2, h3, h4⟩
          · exact absurd h1 ea
          · exact .inr ⟨i0, by omega, h2, h3, h4⟩
      · rw [tX2_fewestMoves_63, hp.2.2.1.2.2.1]
        try simp only [k_lit, k_nN, k_ofN]
        rw [i_leF (by omega) (by omega), i_eqF e (by omega) (by omega)]
        rw [i_eqF e (by omega) (by omega)]
        exact .inl ⟨t, rfl, hp.1, hbg (by omega)⟩
  -- the outer loop
  have outer : ∀ m k t L D n mv a, k + m = 4000 → k ≤ n → (∃ T, pX nb s t T L n 0) → bq (scp nb pg P) (enc x0 y0) L D n k → (∀ i, k ≤ i → i < n → D i = mv) → fnA (bkb b) L D k a → mv ≤ k → ∃ r u, a_run none shp pX2_fewestMoves 40 [some (.ref 35), none, none, none, some (.int (nI b)), some (.int (nI P)), some (.int a), some (.int (nI k)), some (.int (nI mv)), none, none] [] t = some (.inl (some (.int r)), u) ∧ fr [36, 37] [(35, 3), (35, 4)] s u ∧ Ans (scp nb pg P) (enc x0 y0) (bkb b) r := by
    intro m
    induction m using Nat.strongRecOn with
    | ind m ih =>
      intro k t L D n mv a hk hkn hp hq hlo hf hmk
      obtain ⟨T, hp⟩ := hp
      have hn4 := hq.1.2
      by_cases ek : k = n
      · subst ek
        refine ⟨a, t, ?_, hp.1, fnA_Ans hq hf⟩
        rw [tX2_fewestMoves_40, hp.2.2.1.2.1]
        try simp only [k_lit, k_nN, k_ofN]
        by_cases e4 : 4000 ≤ mv
        · simp (disch := omega) only [i_leT, i_leF, i_ltT, i_ltF, i_eqT, i_eqF, i_okT, i_n1, i_n2, i_n3, i_n4, i_n5, i_n6, i_n7, i_n8, k_cl, if_true, if_false]
        · simp (disch := omega) only [i_leT, i_leF, i_ltT, i_ltF, i_eqT, i_eqF, i_okT, i_n1, i_n2, i_n3, i_n4, i_n5, i_n6, i_n7, i_n8, k_cl, if_true, if_false]
      · have hst : a_run none shp pX2_fewestMoves 40 [some (.ref 35), none, none, none, some (.int (nI b)), some (.int (nI P)), some (.int a), some (.int (nI k)), some (.int (nI mv)), none, none] [] t = a_run none shp pX2_fewestMoves 63 [some (.ref 35), none, none, none, some (.int (nI b)), some (.int (nI P)), some (.int a), some (.int (nI k)), some (.int (nI mv)), some (.int (nI n)), none] [] t := by
          rw [tX2_fewestMoves_40, hp.2.2.1.2.1]
          try simp only [k_lit, k_nN, k_ofN]
          simp (disch := omega) only [i_leT, i_leF, i_ltT, i_ltF, i_eqT, i_eqF, i_okT, i_n1, i_n2, i_n3, i_n4, i_n5, i_n6, i_n7, i_n8, k_cl, if_true, if_false]
        rw [hst]
        rcases inner n mv (by omega) hn4 (n - k) k t L D n 0 a (by omega) (Nat.le_refl _) ⟨T, hp⟩ (.inl hq) (fun c => absurd c (by omega)) hlo (fun i h1 h2 => by omega) hf hmk with ⟨u, h1, h2, h3⟩ | ⟨u, L', D', n', a', h1, h2, h3, h4, h5, h6⟩
        · exact ⟨_, u, h1, h2, .inl ⟨rfl, h3⟩⟩
        · rw [h1]
          exact ih (4000 - n) (by omega) n u L' D' n' (mv + 1) a' (by omega) h4 h2 h3 h5 h6 (by omega)
  -- the beginning
  obtain ⟨t0, e0, f0, v0⟩ := fl37 s nN
  have hp0 : pX nb s (a_si (a_si t0 35 3 (nI 0)) 35 4 (nI 0)) (fun _ => none) (fun _ => enc x0 y0) 0 0 := by
    refine ⟨fr_si (fr_si (fr_mono f0 (by simp) (by simp)) (by simp)) (by simp), ⟨(fun p i _ h => by cases h), fun i hi => absurd hi (Nat.not_lt_zero i), ?_⟩, ⟨by omega, by simp [m_si], by simp [m_si], by omega⟩, fun i hi => absurd hi (Nat.not_lt_zero i), fun p hp => ?_⟩
    · have : ∀ n, cntP (fun _ => false) n = 0 := by
        intro n
        induction n with
        | zero => rfl
        | succ n ih => simp [cntP, ih]
      exact this 8192
    · simpa [m_si] using v0 p hp
  obtain ⟨t1, e1, hcase⟩ := sX2_meet hp0 hx4 hy4
  rcases hcase with ⟨i, hi, -⟩ | ⟨-, h4, -⟩ | ⟨-, -, T', hp1⟩
  · exact absurd hi (Nat.not_lt_zero i)
  · omega
  · have hL : upN (fun _ => enc x0 y0) 0 (enc x0 y0) = fun _ => enc x0 y0 := by
      funext i
      unfold upN
      split <;> rfl
    rw [hL] at hp1
    obtain ⟨r, u, hu, fu, au⟩ := outer 4000 0 t1 (fun _ => enc x0 y0) (fun _ => 0) 1 0 nN (by omega) (by omega) ⟨T', hp1⟩ (bq_0 _ _) (fun _ _ _ => rfl) (.inl ⟨rfl, fun i hi => absurd hi (Nat.not_lt_zero i)⟩) (by omega)
    refine ⟨r, u, ?_, fu, au⟩
    rw [tX2_fewestMoves]
    try simp only [k_lit, k_nN, k_ofN]
    rw [e0, b_bv, tX2_fewestMoves_15]
    try simp only [k_lit, k_nN, k_ofN]
    rw [e1, b_bv, tX2_fewestMoves_31, k_or, k_or, ← hP]
    try simp only [k_lit, k_nN, k_ofN]
    exact hu
