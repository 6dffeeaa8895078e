/-! ===== the model's swaps, its search to its end; together ===== -/
theorem gM_swaps {nb P v0 k d b : Nat} {pg : Nat → Int32} {s t : aMem} {L D : Nat → Nat} {n sp : Nat} {a5 : Int32} (hnb : nb ≤ 12) (hb1 : s.1 43 1 = nI nb) (h0 : vok nb v0) (hg : gM nb pg P v0 s t L D n k d sp) : ∃ u L' D' n' sp', a_run none shp pX9_together 243 [some (.ref 43), none, none, some (.int (nI b)), some (.int (nI P)), some (.int a5), some (.int (nI k)), some (.int (nI (L k % 4096))), some (.int (nI (L k / 4096))), some (.int (nI d)), some (.int (nI 0)), none] [] t = a_run none shp pX9_together 137 [some (.ref 43), none, none, some (.int (nI b)), some (.int (nI P)), some (.int a5), some (.int (nI (k + 1))), none, none, none, none, none] [] u ∧ gM nb pg P v0 s u L' D' n' k d sp' ∧ ext d L D L' D' n n' ∧ sp ≤ sp' ∧ (sp' = 0 → ∀ w, sp3 nb (L k % 4096) (L k / 4096) w → knw L' D' n' k w) := by
  have hk := hg.2.2.1
  obtain ⟨v1, v2, v3, v4⟩ := vok_rc hnb h0 _ _ (hg.2.1.2.2.2.2.1 k hk).1
  have hx4 := lt12 v2 hnb
  have hy4 := lt12 v3 hnb
  have inner : ∀ a, a < nb → (L k % 4096).testBit a = true → ∀ m c t L1 D1 n1 sp1, c + m = nb → gM nb pg P v0 s t L1 D1 n1 k d sp1 → L1 k = L k → ∃ u L' D' n' sp', a_run none shp pX9_together 255 [some (.ref 43), none, none, some (.int (nI b)), some (.int (nI P)), some (.int a5), some (.int (nI k)), some (.int (nI (L k % 4096))), some (.int (nI (L k / 4096))), some (.int (nI d)), some (.int (nI a)), some (.int (nI c))] [] t = a_run none shp pX9_together 243 [some (.ref 43), none, none, some (.int (nI b)), some (.int (nI P)), some (.int a5), some (.int (nI k)), some (.int (nI (L k % 4096))), some (.int (nI (L k / 4096))), some (.int (nI d)), some (.int (nI (a + 1))), none] [] u ∧ gM nb pg P v0 s u L' D' n' k d sp' ∧ ext d L1 D1 L' D' n1 n' ∧ sp1 ≤ sp' ∧ (sp' = 0 → ∀ e, c ≤ e → e < nb → (L k / 4096).testBit e = true → knw L' D' n' k (enc (swp (L k % 4096) a e) (swp (L k / 4096) e a))) := by
    intro a ha hxa m
    induction m with
    | zero =>
      intro c t L1 D1 n1 sp1 hc hg1 hLk
      obtain ⟨⟨T, hp⟩, -⟩ := id hg1
      refine ⟨t, L1, D1, n1, sp1, ?_, hg1, ext_rfl d L1 D1 n1, Nat.le_refl _, fun _ e h1 h2 => by omega⟩
      rw [tX9_together_255, hp.1.1 43 1 (by decide) (by decide), hb1]
      try simp only [k_lit, k_nN, k_ofN]
      rw [i_leT (by omega) (by omega), nI_add]
    | succ m ih =>
      intro c t L1 D1 n1 sp1 hc hg1 hLk
      obtain ⟨⟨T, hp⟩, hq, hkn1, -⟩ := id hg1
      have eq255 := tX9_together_255 (nI b) (nI P) a5 (nI k) (nI (L k % 4096)) (nI (L k / 4096)) (nI d) (nI a) (nI c) t
      simp only [k_lit, k_nN, k_ofN] at eq255
      rw [hp.1.1 43 1 (by decide) (by decide), hb1, i_leF (by omega) (by omega), ib1T hxa (by omega) (by omega), k_swp (by omega) (by omega), k_swp (by omega) (by omega)] at eq255
      have eq320 := fun t => tX9_together_320 (nI b) (nI P) a5 (nI k) (nI (L k % 4096)) (nI (L k / 4096)) (nI d) (nI a) (nI c) t
      simp only [k_lit, k_nN, k_ofN, nI_add] at eq320
      cases eyc : (L k / 4096).testBit c
      · rw [ib1F eyc (by omega) (by omega), eq320] at eq255
        obtain ⟨u, L', D', n', sp', h1, h2, h3, h4, h5⟩ := ih (c + 1) t L1 D1 n1 sp1 (by omega) hg1 hLk
        refine ⟨u, L', D', n', sp', eq255.trans h1, h2, h3, h4, fun e0 e g1 g2 g3 => ?_⟩
        by_cases ee : e = c
        · subst ee; rw [eyc] at g3; cases g3
        · exact h5 e0 e (by omega) g2 g3
      · rw [ib1T eyc (by omega) (by omega)] at eq255
        obtain ⟨u, L2, D2, n2, sp2, hu, g2, x2, q2, k2⟩ := gM_comes hg1 (lt12 (swp_lt (a := a) v2 (show c < nb by omega)) hnb) (lt12 (swp_lt (a := c) v3 ha) hnb) (by
          rw [hLk]
          exact .inr (.inr ⟨a, c, ha, by omega, hxa, eyc, rfl⟩))
        rw [hu, b_bv, eq320] at eq255
        obtain ⟨u3, L3, D3, n3, sp3, h1, h2, h3, h4, h5⟩ := ih (c + 1) u L2 D2 n2 sp2 (by omega) g2 (by rw [(x2.2.1 k hkn1).1, hLk])
        refine ⟨u3, L3, D3, n3, sp3, eq255.trans h1, h2, ext_tr x2 h3, by omega, fun e0 e g1 g2' g3 => ?_⟩
        by_cases ee : e = c
        · subst ee
          exact knw_ext (k2 (by omega)) g2.2.2.1 h3
        · exact h5 e0 e (by omega) g2' g3
  have outer : ∀ m a t L1 D1 n1 sp1, a + m = nb → gM nb pg P v0 s t L1 D1 n1 k d sp1 → L1 k = L k → ∃ u L' D' n' sp', a_run none shp pX9_together 243 [some (.ref 43), none, none, some (.int (nI b)), some (.int (nI P)), some (.int a5), some (.int (nI k)), some (.int (nI (L k % 4096))), some (.int (nI (L k / 4096))), some (.int (nI d)), some (.int (nI a)), none] [] t = a_run none shp pX9_together 137 [some (.ref 43), none, none, some (.int (nI b)), some (.int (nI P)), some (.int a5), some (.int (nI (k + 1))), none, none, none, none, none] [] u ∧ gM nb pg P v0 s u L' D' n' k d sp' ∧ ext d L1 D1 L' D' n1 n' ∧ sp1 ≤ sp' ∧ (sp' = 0 → ∀ e c, a ≤ e → e < nb → c < nb → (L k % 4096).testBit e = true → (L k / 4096).testBit c = true → knw L' D' n' k (enc (swp (L k % 4096) e c) (swp (L k / 4096) c e))) := by
    intro m
    induction m with
    | zero =>
      intro a t L1 D1 n1 sp1 ha hg1 hLk
      obtain ⟨⟨T, hp⟩, -⟩ := id hg1
      refine ⟨t, L1, D1, n1, sp1, ?_, hg1, ext_rfl d L1 D1 n1, Nat.le_refl _, fun _ e c h1 h2 => by omega⟩
      rw [tX9_together_243, hp.1.1 43 1 (by decide) (by decide), hb1]
      try simp only [k_lit, k_nN, k_ofN]
      rw [i_leT (by omega) (by omega), nI_add]
    | succ m ih =>
      intro a t L1 D1 n1 sp1 ha hg1 hLk
      obtain ⟨⟨T, hp⟩, hq, hkn1, -⟩ := id hg1
      have eq243 := tX9_together_243 (nI b) (nI P) a5 (nI k) (nI (L k % 4096)) (nI (L k / 4096)) (nI d) (nI a) t
      simp only [k_lit, k_nN, k_ofN] at eq243
      rw [hp.1.1 43 1 (by decide) (by decide), hb1, i_leF (by omega) (by omega)] at eq243
      cases exa : (L k % 4096).testBit a
      · have eq255 := tX9_together_255 (nI b) (nI P) a5 (nI k) (nI (L k % 4096)) (nI (L k / 4096)) (nI d) (nI a) (nI 0) t
        simp only [k_lit, k_nN, k_ofN] at eq255
        rw [hp.1.1 43 1 (by decide) (by decide), hb1, i_leF (by omega) (by omega), ib1F exa (by omega) (by omega), nI_add] at eq255
        obtain ⟨u, L', D', n', sp', h1, h2, h3, h4, h5⟩ := ih (a + 1) t L1 D1 n1 sp1 (by omega) hg1 hLk
        refine ⟨u, L', D', n', sp', eq243.trans (eq255.trans h1), h2, h3, h4, fun e0 e c g1 g2 g3 g4 g5 => ?_⟩
        by_cases ee : e = a
        · subst ee; rw [exa] at g4; cases g4
        · exact h5 e0 e c (by omega) g2 g3 g4 g5
      · obtain ⟨u, L2, D2, n2, sp2, q1, q2, q3, q4, q5⟩ := inner a (by omega) exa nb 0 t L1 D1 n1 sp1 (by omega) hg1 hLk
        obtain ⟨u3, L3, D3, n3, sp3, h1, h2, h3, h4, h5⟩ := ih (a + 1) u L2 D2 n2 sp2 (by omega) q2 (by rw [(q3.2.1 k hkn1).1, hLk])
        refine ⟨u3, L3, D3, n3, sp3, eq243.trans (q1.trans h1), h2, ext_tr q3 h3, by omega, fun e0 e c g1 g2 g3 g4 g5 => ?_⟩
        by_cases ee : e = a
        · subst ee
          exact knw_ext (q5 (by omega) c (by omega) g3 g5) q2.2.2.1 h3
        · exact h5 e0 e c (by omega) g2 g3 g4 g5
  obtain ⟨u, L', D', n', sp', h1, h2, h3, h4, h5⟩ := outer nb 0 t L D n sp (by omega) hg rfl
  refine ⟨u, L', D', n', sp', h1, h2, h3, h4, fun e0 w hw => ?_⟩
  obtain ⟨a, c, g1, g2, g3, g4, rfl⟩ := hw
  exact h5 e0 a c (by omega) g1 g2 g3 g4
/-- the model's loop over its states -/
theorem gM_loop {nb P v0 b : Nat} {pg : Nat → Int32} {s : aMem} (hnb : nb ≤ 12) (hb : b < nb) (hP : P < 2 ^ nb) (hb1 : s.1 43 1 = nI nb) (h49 : s.1 49 = pg) (h0 : vok nb v0) : ∀ m k t L D n sp a, k + m = 4000 → k ≤ n → (∃ T, pM s t T L D n sp) → (bq (scp nb pg P) v0 L D n k ∨ sp = 1) → (sp = 1 → big (scp nb pg P) v0) → fnA (bkb b) L D k a → ∃ r u, a_run none shp pX9_together 137 [some (.ref 43), none, none, some (.int (nI b)), some (.int (nI P)), some (.int a), some (.int (nI k)), none, none, none, none, none] [] t = some (.inl (some (.int r)), u) ∧ fr [63, 64, 65] [(43, 44), (43, 45)] s u ∧ Ans (scp nb pg P) v0 (bkb b) r := by
  intro m
  induction m with
  | zero =>
    intro k t L D n sp a hk hkn hp hq hbg hf
    obtain ⟨T, hp⟩ := hp
    have hsp := hp.2.2.1.2.2.2
    have hn4 := hp.2.2.1.1
    rw [tX9_together_137, hp.2.2.1.2.1, hp.2.2.1.2.2.1]
    try simp only [k_lit, k_nN, k_ofN]
    rw [i_leT (by omega) (by omega)]
    by_cases e : sp = 0
    · subst e
      rw [i_eqT rfl]
      have hq2 := hq.elim id (fun c => absurd c (by omega))
      rw [show k = n by omega] at hq2 hf
      exact ⟨a, t, rfl, hp.1, fnA_Ans hq2 hf⟩
    · rw [i_eqF e (by omega) (by omega)]
      exact ⟨_, t, rfl, hp.1, .inl ⟨rfl, hbg (by omega)⟩⟩
  | succ m ih =>
    intro k t L D n sp a hk hkn hp hq hbg hf
    obtain ⟨T, hp⟩ := hp
    have hsp := hp.2.2.1.2.2.2
    have hn4 := hp.2.2.1.1
    have eq137 := tX9_together_137 (nI b) (nI P) a (nI k) t
    simp only [k_lit, k_nN, k_ofN] at eq137
    rw [hp.2.2.1.2.1, hp.2.2.1.2.2.1] at eq137
    by_cases ekn : n ≤ k
    · rw [i_leT ekn (by omega)] at eq137
      by_cases e : sp = 0
      · subst e
        rw [i_eqT rfl] at eq137
        have hq2 := hq.elim id (fun c => absurd c (by omega))
        rw [show k = n by omega] at hq2 hf
        exact ⟨a, t, eq137, hp.1, fnA_Ans hq2 hf⟩
      · rw [i_eqF e (by omega) (by omega)] at eq137
        exact ⟨_, t, eq137, hp.1, .inl ⟨rfl, hbg (by omega)⟩⟩
    · rw [i_leF (by omega) (by omega)] at eq137
      by_cases e : sp = 0
      · subst e
        have hq2 := hq.elim id (fun c => absurd c (by omega))
        obtain ⟨h63, hLv, h64⟩ := hp.2.2.2.1 k (by omega)
        obtain ⟨v1, v2, v3, v4⟩ := vok_rc hnb h0 _ _ (hq2.2.2.2.2.1 k (by omega)).1
        have hx4 := lt12 v2 hnb
        have hy4 := lt12 v3 hnb
        have hbit : (L k % 4096).testBit b = (L k).testBit b := by
          rw [show (4096 : Nat) = 2 ^ 12 from rfl, Nat.testBit_mod_two_pow]
          simp [show b < 12 by omega]
        rw [i_eqT rfl, i_okT (by omega) (by omega), i_okT (by omega) (by omega), i_okT (by omega) (by omega), k_cl (by omega), h63, h64, k_dx hLv, k_dy hLv, nI_add] at eq137
        have hg : gM nb pg P v0 s t L D n k (D k + 1) 0 := ⟨⟨T, hp⟩, hq2, by omega, fun c => absurd c (by omega), rfl⟩
        -- all steps of this state
        have steps : ∀ a', ∃ u L' D' n' sp', a_run none shp pX9_together 214 [some (.ref 43), none, none, some (.int (nI b)), some (.int (nI P)), some (.int a'), some (.int (nI k)), some (.int (nI (L k % 4096))), some (.int (nI (L k / 4096))), some (.int (nI (D k + 1))), none, none] [] t = a_run none shp pX9_together 137 [some (.ref 43), none, none, some (.int (nI b)), some (.int (nI P)), some (.int a'), some (.int (nI (k + 1))), none, none, none, none, none] [] u ∧ gM nb pg P v0 s u L' D' n' k (D k + 1) sp' ∧ ext (D k + 1) L D L' D' n n' ∧ (sp' = 0 → ∀ w, scp nb pg P (L k) w → knw L' D' n' k w) := by
          intro a'
          obtain ⟨u1, L1, D1, n1, sp1, hu1, g1, x1, q1, k1⟩ := gM_exch (tu := 0) (x := L k % 4096) (z := L k / 4096) hnb hP hb1 h49 (.inl rfl) v2 v3 hg (fun a b h1 h2 h3 h4 h5 => .inl ⟨a, b, h1, h2, h3, h4, h5, rfl⟩)
          have e1 : L1 k = L k := (x1.2.1 k (by omega)).1
          obtain ⟨u2, L2, D2, n2, sp2, hu2, g2, x2, q2, k2⟩ := gM_exch (tu := 1) (x := L k / 4096) (z := L k % 4096) hnb hP hb1 h49 (.inr rfl) v3 v2 g1 (fun a b h1 h2 h3 h4 h5 => by rw [e1]; exact .inr (.inl ⟨a, b, h1, h2, h3, ⟨h4.1, h4.2.2, h4.2.1⟩, h5, rfl⟩))
          have e2 : L2 k = L k := by rw [(x2.2.1 k g1.2.2.1).1, e1]
          obtain ⟨u3, L3, D3, n3, sp3, hu3, g3, x3, q3, k3⟩ := gM_swaps (b := b) (a5 := a') hnb hb1 h0 g2
          rw [e2] at hu3 k3
          refine ⟨u3, L3, D3, n3, sp3, ?_, g3, ext_tr x1 (ext_tr x2 x3), fun e0 w hw => ?_⟩
          · rw [tX9_together_214]
            try simp only [k_lit, k_nN, k_ofN]
            rw [hu1, b_bv, tX9_together_227]
            try simp only [k_lit, k_nN, k_ofN]
            rw [hu2, b_bv, tX9_together_240]
            try simp only [k_lit, k_nN, k_ofN]
            exact hu3
          · rcases hw with ⟨a, c, h1, h2, h3, h4, h5, rfl⟩ | ⟨a, c, h1, h2, h3, h4, h5, rfl⟩ | hw
            · exact knw_ext (k1 (by omega) a c h1 h2 h3 h4 h5) g1.2.2.1 (ext_tr x2 x3)
            · exact knw_ext (k2 (by omega) a c h1 h2 h3 ⟨h4.1, h4.2.2, h4.2.1⟩ h5) g2.2.2.1 x3
            · exact k3 e0 w hw
        have go : ∀ a', (∀ L' D' n', ext (D k + 1) L D L' D' n n' → fnA (bkb b) L' D' (k + 1) a') → ∃ r u, a_run none shp pX9_together 214 [some (.ref 43), none, none, some (.int (nI b)), some (.int (nI P)), some (.int a'), some (.int (nI k)), some (.int (nI (L k % 4096))), some (.int (nI (L k / 4096))), some (.int (nI (D k + 1))), none, none] [] t = some (.inl (some (.int r)), u) ∧ fr [63, 64, 65] [(43, 44), (43, 45)] s u ∧ Ans (scp nb pg P) v0 (bkb b) r := by
          intro a' ha'
          obtain ⟨u, L', D', n', sp', hu, g', x', k'⟩ := steps a'
          obtain ⟨hT', hq', hkn', hbg', -⟩ := id g'
          rw [hu]
          refine ih (k + 1) u L' D' n' sp' a' (by omega) (by omega) hT' ?_ hbg' (ha' L' D' n' x')
          obtain ⟨T', hp'⟩ := hT'
          have hsp' := hp'.2.2.1.2.2.2
          by_cases e0 : sp' = 0
          · refine .inl (bq_nxt hq' hkn' (fun w hw => ?_))
            rw [(x'.2.1 k (by omega)).1] at hw
            exact k' e0 w hw
          · exact .inr (by omega)
        by_cases ea : a = nN
        · have hno : ∀ i, i < k → bkb b (L i) = false := by
            rcases hf with ⟨-, h2⟩ | ⟨i0, h1, h2, -⟩
            · exact h2
            · exfalso
              rw [ea] at h2
              have hDi := (hq2.2.2.2.2.1 i0 (by omega)).2
              exact nN_ne (by omega) h2
          rw [if_pos ea] at eq137
          cases eb : (L k).testBit b
          · rw [eb] at hbit
            rw [ib1F hbit (by omega) (by omega)] at eq137
            rw [eq137, ea]
            refine go nN (fun L' D' n' x' => .inl ⟨rfl, fun i hi => ?_⟩)
            rw [(x'.2.1 i (by omega)).1]
            by_cases ei : i = k
            · rw [ei]; exact eb
            · exact hno i (by omega)
          · rw [eb] at hbit
            rw [ib1T hbit (by omega) (by omega), i_okT (by omega) (by omega)] at eq137
            rw [eq137]
            refine go (nI (D k)) (fun L' D' n' x' => .inr ⟨k, by omega, by rw [(x'.2.1 k (by omega)).2], by rw [(x'.2.1 k (by omega)).1]; exact eb, fun i hi => ?_⟩)
            rw [(x'.2.1 i (by omega)).1]
            exact hno i hi
        · rw [if_neg ea] at eq137
          rw [eq137]
          refine go a (fun L' D' n' x' => ?_)
          rcases fnA_ext hf (show k ≤ n by omega) x' with ⟨h1, -⟩ | ⟨i0, h1, h2, h3, h4⟩
          · exact absurd h1 ea
          · exact .inr ⟨i0, by omega, h2, h3, h4⟩
      · rw [i_eqF e (by omega) (by omega), i_eqF e (by omega) (by omega)] at eq137
        exact ⟨_, t, eq137, hp.1, .inl ⟨rfl, hbg (by omega)⟩⟩
theorem op_together {s : aMem} (hI : Inv s) (v w b : Int32) : agr (fX8_together [.ref 0, .int v, .int w, .int b]) (fX9_together [.ref 43, .int v, .int w, .int b]) (fun x => x + 1) s := by
  obtain ⟨nb, nr, c, hL, hN, -, -, -, -⟩ := id hI
  obtain ⟨⟨hnb, hnr⟩, ⟨b1, b2⟩, ⟨r1, r2⟩, -, -, hpg, hfw, -, -⟩ := id hL
  have hO := hN.1
  have hs := Own_s hnb hO
  have bad : ∀ s2 : aMem, a_bi (ρ := Option aRes) (fX9_right [.ref 43, .int (nI 0), .int (nI 1)] (a_si s2 43 0 (nI 0))) (fun r2 s1 => a_run none shp pX9_together 39 [some (.ref 43), some (.int v), some (.int w), some (.int b), none, none, none, none, none, none, none, none] [.int r2] s1) none (fun x s1 => some (.inr x, s1)) = some (.inl (some (.int (nI 0))), a_si (a_si s2 43 0 (nI 0)) 43 0 (nI 1)) := by
    intro s2
    rw [sX9_rightF (by simp [m_si]) (by omega) (by omega), b_bi, tX9_together_39]
    try simp only [k_lit, k_nN, k_ofN]
    simp (disch := omega) only [i_leT, i_leF, i_ltT, i_ltF, i_eqT, i_eqF, i_okT, i_n1, i_n2, i_n3, i_n4, i_n5, i_n6, i_n7, i_n8, k_cl, if_true, if_false]
  by_cases hv : vb nr v
  · obtain ⟨x, hx, rfl⟩ := hv
    by_cases hw : vb nr w
    · obtain ⟨y, hy, rfl⟩ := hw
      by_cases hb : vb nb b
      · obtain ⟨bk, hbk, rfl⟩ := hb
        have hM : ∀ s2 : aMem, fw s s2 → fX9_together [.ref 43, .int (nI x), .int (nI y), .int (nI bk)] s2 = a_run none shp pX9_together 39 [some (.ref 43), some (.int (nI x)), some (.int (nI y)), some (.int (nI bk)), none, none, none, none, none, none, none, none] [.int (nI 1)] (a_si s2 43 0 (nI 0)) := by
          intro s2 h2
          rw [tX9_together]
          try simp only [k_lit, k_nN, k_ofN]
          rw [sX9_isReaderT (nb := nr) (by simp [m_si, scB h2 43 2 rfl rfl, r2]) hnr hx, b_bi, tX9_together_11]
          try simp only [k_lit, k_nN, k_ofN]
          simp (disch := omega) only [i_leT, i_leF, i_ltT, i_ltF, i_eqT, i_eqF, i_okT, i_n1, i_n2, i_n3, i_n4, i_n5, i_n6, i_n7, i_n8, k_cl, if_true, if_false]
          rw [sX9_isReaderT (nb := nr) (by simp [m_si, scB h2 43 2 rfl rfl, r2]) hnr hy, b_bi, tX9_together_19]
          try simp only [k_lit, k_nN, k_ofN]
          simp (disch := omega) only [i_leT, i_leF, i_ltT, i_ltF, i_eqT, i_eqF, i_okT, i_n1, i_n2, i_n3, i_n4, i_n5, i_n6, i_n7, i_n8, k_cl, if_true, if_false]
          rw [sX9_isBookT (nb := nb) (by simp [m_si, scB h2 43 1 rfl rfl, b2]) hnb hbk, b_bi, tX9_together_27]
          try simp only [k_lit, k_nN, k_ofN]
          simp (disch := omega) only [i_leT, i_leF, i_ltT, i_ltF, i_eqT, i_eqF, i_okT, i_n1, i_n2, i_n3, i_n4, i_n5, i_n6, i_n7, i_n8, k_cl, if_true, if_false]
          rw [sX9_rightT (by simp [m_si]), b_bi]
        by_cases hxy : x = y
        · subst hxy
          refine agr_x (x := 1) (s1 := s) hI ?_ (fr_rfl s) (by omega) (fun s2 h2 => ⟨nI 0, a_si (a_si s2 43 0 (nI 0)) 43 0 (nI 2), ?_, by simp [m_si], fr_si (fr_si (fr_rfl s2) (.inr (by decide))) (.inr (by decide))⟩)
          · rw [tX8_together, sX8_needReaderT r1 hnr hx, b_bv, tX8_together_5, sX8_needReaderT r1 hnr hx, b_bv, tX8_together_10, sX8_needBookT b1 hnb hbk, b_bv, tX8_together_15]
            rw [if_pos rfl]
          · rw [hM s2 h2, tX9_together_39]
            try simp only [k_lit, k_nN, k_ofN]
            simp (disch := omega) only [i_leT, i_leF, i_ltT, i_ltF, i_eqT, i_eqF, i_okT, i_n1, i_n2, i_n3, i_n4, i_n5, i_n6, i_n7, i_n8, k_cl, if_true, if_false]
            rw [sX9_rightF (by simp [m_si]) (by omega) (by omega), b_bi, tX9_together_57]
            try simp only [k_lit, k_nN, k_ofN]
            simp (disch := omega) only [i_leT, i_leF, i_ltT, i_ltF, i_eqT, i_eqF, i_okT, i_n1, i_n2, i_n3, i_n4, i_n5, i_n6, i_n7, i_n8, k_cl, if_true, if_false]
        · have hdis : ∀ c, (oset nb (s.1 45) x).testBit c = true → (oset nb (s.1 45) y).testBit c = false := by
            intro c hc
            rw [oset_p, msk_bit] at hc ⊢
            simp only [Bool.and_eq_true, decide_eq_true_eq] at hc
            rw [hc.2, plc_r (show x < 5 by omega), plc_r (show y < 5 by omega)]
            simp [nI_ne (a := x) (b := y) (by omega) (by omega) hxy]
          obtain ⟨r, u, hu, fu, au⟩ := sX2_fewestMoves (s := s) (b := bk) (pg := s.1 49) (P := oset nb (s.1 45) x ||| oset nb (s.1 45) y ||| oset nb (s.1 45) 5) hnb hbk b1 hfw hpg (oset_lt nb (s.1 45) x) (oset_lt nb (s.1 45) y) (oset_lt nb (s.1 45) 5) hdis rfl
          refine agr_q (r := r) (s1 := u) hI ?_ (fr_mono fu (by decide) (by decide)) (fun s2 h2 => ?_)
          · rw [tX8_together, sX8_needReaderT r1 hnr hx, b_bv, tX8_together_5, sX8_needReaderT r1 hnr hy, b_bv, tX8_together_10, sX8_needBookT b1 hnb hbk, b_bv, tX8_together_15]
            simp (disch := omega) only [i_leT, i_leF, i_ltT, i_ltF, i_eqT, i_eqF, i_okT, i_n1, i_n2, i_n3, i_n4, i_n5, i_n6, i_n7, i_n8, k_cl, if_true, if_false]
            rw [(hs x (by omega)).1, (hs y (by omega)).1, (hs 5 (by omega)).1, hu, b_bi]
          · -- the model
            have q1 : (a_si s2 43 0 (nI 0)).1 43 1 = nI nb := by simp [m_si, scB h2 43 1 rfl rfl, b2]
            have q45 : (a_si s2 43 0 (nI 0)).1 45 = s.1 45 := by rw [z_ne (by decide), scA h2 45 rfl rfl]
            have q49 : (a_si s2 43 0 (nI 0)).1 49 = s.1 49 := by rw [z_ne (by decide), scA h2 49 rfl rfl]
            have hP2 : oset nb (s.1 45) x ||| oset nb (s.1 45) y ||| oset nb (s.1 45) 5 < 2 ^ nb := Nat.or_lt_two_pow (Nat.or_lt_two_pow (oset_lt _ _ _) (oset_lt _ _ _)) (oset_lt _ _ _)
            have hx4 := lt12 (oset_lt nb (s.1 45) x) hnb
            have hy4 := lt12 (oset_lt nb (s.1 45) y) hnb
            have fill : ∀ m k t, k + m = 16384 → fr [65] [] (a_si s2 43 0 (nI 0)) t → (∀ j, j < k → t.1 65 j = nI 0) → ∃ t', a_run none shp pX9_together 84 [some (.ref 43), some (.int (nI x)), some (.int (nI y)), some (.int (nI bk)), some (.int (nI (oset nb (s.1 45) x ||| oset nb (s.1 45) y ||| oset nb (s.1 45) 5))), some (.int (nI k)), none, none, none, none, none, none] [] t = a_bi (fX9_hasOf [.ref 43, .int (nI x)] (a_si (a_si t' 43 44 (nI 0)) 43 45 (nI 0))) (fun r2 s1 => a_run none shp pX9_together 122 [some (.ref 43), some (.int (nI x)), some (.int (nI y)), some (.int (nI bk)), some (.int (nI (oset nb (s.1 45) x ||| oset nb (s.1 45) y ||| oset nb (s.1 45) 5))), some (.int (nI 16384)), none, none, none, none, none, none] [.int r2, .ref 43] s1) none (fun x s1 => some (.inr x, s1)) ∧ fr [65] [] (a_si s2 43 0 (nI 0)) t' ∧ ∀ j, j < 16384 → t'.1 65 j = nI 0 := by
              intro m
              induction m with
              | zero =>
                intro k t hk f hj
                refine ⟨t, ?_, f, fun j h => hj j (by omega)⟩
                rw [tX9_together_84]
                try simp only [k_lit, k_nN, k_ofN]
                simp (disch := omega) only [i_leT, i_leF, i_ltT, i_ltF, i_eqT, i_eqF, i_okT, i_n1, i_n2, i_n3, i_n4, i_n5, i_n6, i_n7, i_n8, k_cl, if_true, if_false]
                rw [show k = 16384 by omega]
              | succ m ih =>
                intro k t hk f hj
                rw [tX9_together_84]
                try simp only [k_lit, k_nN, k_ofN]
                simp (disch := omega) only [i_leT, i_leF, i_ltT, i_ltF, i_eqT, i_eqF, i_okT, i_n1, i_n2, i_n3, i_n4, i_n5, i_n6, i_n7, i_n8, k_cl, if_true, if_false, nI_add]
                refine ih (k + 1) _ (by omega) (fr_si f (by simp)) (fun j h => ?_)
                simp only [m_si, if_true]
                by_cases e : j = k
                · rw [if_pos e]
                · rw [if_neg e]; exact hj j (by omega)
            obtain ⟨t1, e1, f1, g1⟩ := fill 16384 0 _ (by omega) (fr_rfl _) (fun j h => absurd h (Nat.not_lt_zero j))
            have F2 : fr [63, 64, 65] [(43, 44), (43, 45)] (a_si s2 43 0 (nI 0)) (a_si (a_si t1 43 44 (nI 0)) 43 45 (nI 0)) := fr_si (fr_si (fr_mono f1 (by simp) (by simp)) (by simp)) (by simp)
            have hp0 : pM (a_si s2 43 0 (nI 0)) (a_si (a_si t1 43 44 (nI 0)) 43 45 (nI 0)) (fun _ => none) (fun _ => enc (oset nb (s.1 45) x) (oset nb (s.1 45) y)) (fun _ => 0) 0 0 := by
              refine ⟨F2, ⟨(fun p i _ h => by cases h), fun i hi => absurd hi (Nat.not_lt_zero i), ?_⟩, ⟨by omega, by simp [m_si], by simp [m_si], by omega⟩, fun i hi => absurd hi (Nat.not_lt_zero i), fun p hp => ?_⟩
              · have : ∀ n, cntP (fun _ => false) n = 0 := by
                  intro n
                  induction n with
                  | zero => rfl
                  | succ n ih => simp [cntP, ih]
                exact this 16384
              · simpa [m_si] using g1 p hp
            obtain ⟨t2, e2, hcase⟩ := sX9_comes (d := 0) hp0 hx4 hy4
            rcases hcase with ⟨i, hi, -⟩ | ⟨-, h4, -⟩ | ⟨-, -, T', hp1⟩
            · exact absurd hi (Nat.not_lt_zero i)
            · omega
            · have hL0 : upN (fun _ => enc (oset nb (s.1 45) x) (oset nb (s.1 45) y)) 0 (enc (oset nb (s.1 45) x) (oset nb (s.1 45) y)) = fun _ => enc (oset nb (s.1 45) x) (oset nb (s.1 45) y) := by
                funext i
                unfold upN
                split <;> rfl
              have hD0 : upN (fun _ => 0) 0 0 = fun _ => 0 := by
                funext i
                unfold upN
                split <;> rfl
              rw [hL0, hD0] at hp1
              obtain ⟨r', u', hu', fu', au'⟩ := gM_loop (s := a_si s2 43 0 (nI 0)) (b := bk) (v0 := enc (oset nb (s.1 45) x) (oset nb (s.1 45) y)) hnb hbk hP2 q1 q49 (vok_enc hnb (oset_lt _ _ _) (oset_lt _ _ _) hdis) 4000 0 t2 _ _ 1 0 nN (by omega) (by omega) ⟨T', hp1⟩ (.inl (bq_0 _ _)) (fun h => absurd h (by omega)) (.inl ⟨rfl, fun i hi => absurd hi (Nat.not_lt_zero i)⟩)
              have er := Ans_eq au' au
              refine ⟨u', ?_, ?_, fr_trans (fr_si (fr_rfl s2) (k := 43) (j := 0) (x := nI 0) (.inr (by decide))) (fr_mono fu' (by decide) (by decide))⟩
              · have y1 : (a_si (a_si t1 43 44 (nI 0)) 43 45 (nI 0)).1 43 1 = nI nb := by rw [F2.1 43 1 (by decide) (by decide)]; exact q1
                have y45 : (a_si (a_si t1 43 44 (nI 0)) 43 45 (nI 0)).1 45 = s.1 45 := by rw [← q45]; funext j; exact F2.1 45 j (by decide) (by simp)
                rw [hM s2 h2, tX9_together_39]
                try simp only [k_lit, k_nN, k_ofN]
                simp (disch := omega) only [i_leT, i_leF, i_ltT, i_ltF, i_eqT, i_eqF, i_okT, i_n1, i_n2, i_n3, i_n4, i_n5, i_n6, i_n7, i_n8, k_cl, if_true, if_false]
                rw [sX9_rightT (by simp [m_si]), b_bi, tX9_together_57]
                try simp only [k_lit, k_nN, k_ofN]
                simp (disch := omega) only [i_leT, i_leF, i_ltT, i_ltF, i_eqT, i_eqF, i_okT, i_n1, i_n2, i_n3, i_n4, i_n5, i_n6, i_n7, i_n8, k_cl, if_true, if_false]
                rw [sX9_hasOfr q1 hnb (by omega), b_bi, tX9_together_67, sX9_hasOfr q1 hnb (by omega), b_bi, tX9_together_72]
                try simp only [k_lit, k_nN, k_ofN]
                rw [sX9_hasOf5 q1 hnb, b_bi, tX9_together_78, q45, k_or, k_or]
                try simp only [k_lit, k_nN, k_ofN]
                rw [e1, sX9_hasOfr y1 hnb (by omega), b_bi, tX9_together_122, sX9_hasOfr y1 hnb (by omega), b_bi, tX9_together_127, y45]
                try simp only [k_lit, k_nN, k_ofN]
                rw [e2, b_bv, tX9_together_131]
                try simp only [k_lit, k_nN, k_ofN]
                rw [hu', er]
              · rw [fu'.1 43 0 (by decide) (by decide)]
                simp [m_si]
      · refine agr_x (x := 0) (s1 := s) hI ?_ (fr_rfl s) (by omega) (fun s2 h2 => ⟨nI 0, a_si (a_si s2 43 0 (nI 0)) 43 0 (nI 1), ?_, by simp [m_si], fr_si (fr_si (fr_rfl s2) (.inr (by decide))) (.inr (by decide))⟩)
        · rw [tX8_together, sX8_needReaderT r1 hnr hx, b_bv, tX8_together_5, sX8_needReaderT r1 hnr hy, b_bv, tX8_together_10, sX8_needBookF b1 hnb hb, b_bvx]
        · rw [tX9_together]
          try simp only [k_lit, k_nN, k_ofN]
          rw [sX9_isReaderT (nb := nr) (by simp [m_si, scB h2 43 2 rfl rfl, r2]) hnr hx, b_bi, tX9_together_11]
          try simp only [k_lit, k_nN, k_ofN]
          simp (disch := omega) only [i_leT, i_leF, i_ltT, i_ltF, i_eqT, i_eqF, i_okT, i_n1, i_n2, i_n3, i_n4, i_n5, i_n6, i_n7, i_n8, k_cl, if_true, if_false]
          rw [sX9_isReaderT (nb := nr) (by simp [m_si, scB h2 43 2 rfl rfl, r2]) hnr hy, b_bi, tX9_together_19]
          try simp only [k_lit, k_nN, k_ofN]
          simp (disch := omega) only [i_leT, i_leF, i_ltT, i_ltF, i_eqT, i_eqF, i_okT, i_n1, i_n2, i_n3, i_n4, i_n5, i_n6, i_n7, i_n8, k_cl, if_true, if_false]
          rw [sX9_isBookF (nb := nb) (by simp [m_si, scB h2 43 1 rfl rfl, b2]) hnb hb, b_bi, tX9_together_27]
          try simp only [k_lit, k_nN, k_ofN]
          simp (disch := omega) only [i_leT, i_leF, i_ltT, i_ltF, i_eqT, i_eqF, i_okT, i_n1, i_n2, i_n3, i_n4, i_n5, i_n6, i_n7, i_n8, k_cl, if_true, if_false]
          exact bad s2
    · refine agr_x (x := 0) (s1 := s) hI ?_ (fr_rfl s) (by omega) (fun s2 h2 => ⟨nI 0, a_si (a_si s2 43 0 (nI 0)) 43 0 (nI 1), ?_, by simp [m_si], fr_si (fr_si (fr_rfl s2) (.inr (by decide))) (.inr (by decide))⟩)
      · rw [tX8_together, sX8_needReaderT r1 hnr hx, b_bv, tX8_together_5, sX8_needReaderF r1 hnr hw, b_bvx]
      · rw [tX9_together]
        try simp only [k_lit, k_nN, k_ofN]
        rw [sX9_isReaderT (nb := nr) (by simp [m_si, scB h2 43 2 rfl rfl, r2]) hnr hx, b_bi, tX9_together_11]
        try simp only [k_lit, k_nN, k_ofN]
        simp (disch := omega) only [i_leT, i_leF, i_ltT, i_ltF, i_eqT, i_eqF, i_okT, i_n1, i_n2, i_n3, i_n4, i_n5, i_n6, i_n7, i_n8, k_cl, if_true, if_false]
        rw [sX9_isReaderF (nb := nr) (by simp [m_si, scB h2 43 2 rfl rfl, r2]) hnr hw, b_bi, tX9_together_19]
        try simp only [k_lit, k_nN, k_ofN]
        simp (disch := omega) only [i_leT, i_leF, i_ltT, i_ltF, i_eqT, i_eqF, i_okT, i_n1, i_n2, i_n3, i_n4, i_n5, i_n6, i_n7, i_n8, k_cl, if_true, if_false]
        exact bad s2
  · refine agr_x (x := 0) (s1 := s) hI ?_ (fr_rfl s) (by omega) (fun s2 h2 => ⟨nI 0, a_si (a_si s2 43 0 (nI 0)) 43 0 (nI 1), ?_, by simp [m_si], fr_si (fr_si (fr_rfl s2) (.inr (by decide))) (.inr (by decide))⟩)
    · rw [tX8_together, sX8_needReaderF r1 hnr hv, b_bvx]
    · rw [tX9_together]
      try simp only [k_lit, k_nN, k_ofN]
      rw [sX9_isReaderF (nb := nr) (by simp [m_si, scB h2 43 2 rfl rfl, r2]) hnr hv, b_bi, tX9_together_11]
      try simp only [k_lit, k_nN, k_ofN]
      simp (disch := omega) only [i_leT, i_leF, i_ltT, i_ltF, i_eqT, i_eqF, i_okT, i_n1, i_n2, i_n3, i_n4, i_n5, i_n6, i_n7, i_n8, k_cl, if_true, if_false]
      exact bad s2
