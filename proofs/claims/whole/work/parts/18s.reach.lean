/-! ===== reach, way ===== -/
theorem tkb_cg {nb x c : Nat} {g g' : Nat → Int32} (h : ∀ b, b < nb → g b = g' b) (hc : c < nb) : tkb nb g x c = tkb nb g' x c := by
  apply Bool.eq_iff_iff.mpr
  unfold tkb
  rw [ex_iff, ex_iff]
  constructor
  · rintro ⟨b, hb, h2⟩
    exact ⟨b, hb, by rw [← h b hb, ← h c hc]; exact h2⟩
  · rintro ⟨b, hb, h2⟩
    exact ⟨b, hb, by rw [h b hb, h c hc]; exact h2⟩
theorem rch_cg {nb x y : Nat} {g g' : Nat → Int32} (h : ∀ b, b < nb → g b = g' b) : rch nb g x y = rch nb g' x y := by
  unfold rch
  rw [msk_congr (fun c hc => tkb_cg h hc)]
theorem rch_lt {nb x y : Nat} {g : Nat → Int32} (hx : x < 2 ^ nb) (hy : y < 2 ^ nb) : rch nb g x y < 2 ^ nb := by
  unfold rch
  exact Nat.or_lt_two_pow hx (Nat.and_lt_two_pow _ (msk_lt _ _))
theorem rch_x {nb x z : Nat} {g : Nat → Int32} : x ||| (msk nb (tkb nb g x) &&& z) = rch nb g x (x ||| z) := by
  unfold rch
  apply Nat.eq_of_testBit_eq
  intro b
  simp only [Nat.testBit_or, Nat.testBit_and]
  cases x.testBit b <;> cases z.testBit b <;> cases (msk nb (tkb nb g x)).testBit b <;> rfl
theorem sX8_reachNow {s : aMem} {nb nr r : Nat} {c : List (Nat × Nat)} (hL : LibI nb nr c s) (hO : Own nb nr (s.1 23) (s.1 45)) (hr : r < nr) : fX8_reachNow [.ref 0, .int (nI r)] s = some (.inl (some (.int (nI (rch nb (s.1 49) (oset nb (s.1 45) r) (oset nb (s.1 45) r ||| oset nb (s.1 45) 5))))), s) := by
  obtain ⟨⟨hnb, hnr⟩, ⟨b1, b2⟩, ⟨r1, r2⟩, -, -, hpg, hfw, -, -⟩ := id hL
  have hs := Own_s hnb hO
  rw [tX8_reachNow]
  try simp only [k_lit, k_nN, k_ofN]
  simp (disch := omega) only [i_leT, i_leF, i_ltT, i_ltF, i_eqT, i_eqF, i_okT, i_n1, i_n2, i_n3, i_n4, i_n5, i_n6, i_n7, i_n8, k_cl, if_true, if_false]
  rw [(hs r (by omega)).1, sX6_takeableFor b1 hnb hfw (hs r (by omega)).2, b_bi, (hs 5 (by omega)).1, k_and, k_or, rch_x, rch_cg (fun b hb => hpg b hb)]
theorem oset_lt (nb : Nat) (o : Nat → Int32) (r : Nat) : oset nb o r < 2 ^ nb := by
  unfold oset
  split <;> exact msk_lt _ _
theorem sX9_hasOfr {s : aMem} {nb r : Nat} (h : s.1 43 1 = nI nb) (hnb : nb ≤ 12) (hr : r < 5) : fX9_hasOf [.ref 43, .int (nI r)] s = some (.inl (some (.int (nI (oset nb (s.1 45) r)))), s) := by
  rw [sX9_hasOf h hnb]
  unfold oset
  rw [if_neg (by omega)]
theorem sX9_hasOf5 {s : aMem} {nb : Nat} (h : s.1 43 1 = nI nb) (hnb : nb ≤ 12) : fX9_hasOf [.ref 43, .int nN] s = some (.inl (some (.int (nI (oset nb (s.1 45) 5)))), s) := by
  rw [sX9_hasOf h hnb]
  rfl
theorem sX9_reachOf {s : aMem} {nb r : Nat} (hnb : nb ≤ 12) (h1 : s.1 43 1 = nI nb) (hr : r < 5) : ∃ (u : aMem) (Q Q1 : Nat) (q : Nat → Nat), fX9_reachOf [.ref 43, .int (nI r)] s = some (.inl (some (.int (nI (rch nb (s.1 49) (oset nb (s.1 45) r) (oset nb (s.1 45) r ||| oset nb (s.1 45) 5))))), u) ∧ fr [60, 61, 62] [(43, 40)] s u ∧ (∀ j, j < 12 → u.1 62 j = s.1 49 j) ∧ u.1 43 40 = nI Q ∧ Q ≤ 4096 ∧ (∀ i, i < Q → u.1 61 i = nI (q i) ∧ q i < 4096 ∧ ∀ b, (q i).testBit b = true → (rch nb (s.1 49) (oset nb (s.1 45) r) (oset nb (s.1 45) r ||| oset nb (s.1 45) 5)).testBit b = true) ∧ 1 ≤ Q1 ∧ Q1 ≤ Q ∧ q 0 = oset nb (s.1 45) r ∧ u.1 60 (oset nb (s.1 45) r) = nI 0 ∧ (∀ i, 1 ≤ i → i < Q1 → u.1 60 (q i) = nI 1) ∧ (∀ b, (rch nb (s.1 49) (oset nb (s.1 45) r) (oset nb (s.1 45) r ||| oset nb (s.1 45) 5)).testBit b = true → (oset nb (s.1 45) r).testBit b = false → ∃ i, i < Q1 ∧ (q i).testBit b = true) := by
  obtain ⟨t, e1, f1, v1⟩ := c49_62 s
  have t1 : t.1 43 1 = nI nb := by rw [f1.1 43 1 (by decide) (by simp)]; exact h1
  have t45 : t.1 45 = s.1 45 := by funext j; exact f1.1 45 j (by decide) (by simp)
  have hx := oset_lt nb (s.1 45) r
  have hy : oset nb (s.1 45) r ||| oset nb (s.1 45) 5 < 2 ^ nb := Nat.or_lt_two_pow hx (oset_lt nb (s.1 45) 5)
  obtain ⟨u, Q, Q1, q, p1, p2, p3, p4, p5, p6, p7, p8, p9, p10, p11⟩ := sX9_comesTo (s := t) hnb t1 hx hy
  have hg : ∀ b, b < nb → t.1 62 b = s.1 49 b := fun b hb => v1 b (by omega)
  have er := rch_cg (x := oset nb (s.1 45) r) (y := oset nb (s.1 45) r ||| oset nb (s.1 45) 5) hg
  refine ⟨u, Q, Q1, q, ?_, fr_trans (fr_mono f1 (by simp) (by simp)) (fr_mono p2 (by simp) (by simp)), fun j hj => ?_, p3, p4, fun i hi => ?_, p6, p7, p8, p9, p10, fun b hb hb2 => ?_⟩
  · rw [tX9_reachOf, e1, b_bv, tX9_reachOf_12, sX9_hasOfr t1 hnb hr, b_bi, tX9_reachOf_18, sX9_hasOfr t1 hnb hr, b_bi, tX9_reachOf_23]
    try simp only [k_lit, k_nN, k_ofN]
    rw [sX9_hasOf5 t1 hnb, b_bi, tX9_reachOf_28, t45, k_or, p1, b_bi, er]
  · rw [p2.1 62 j (by decide) (by simp)]; exact v1 j hj
  · obtain ⟨g1, g2, g3⟩ := p5 i hi
    refine ⟨g1, g2, fun b hb => ?_⟩
    rw [← er]
    exact (rch_bit nb (t.1 62) hy b).mpr (g3 b hb)
  · rw [← er] at hb
    rcases (rch_bit nb (t.1 62) hy b).mp hb with h | ⟨ha, hb3⟩
    · rw [hb2] at h; cases h
    · exact p11 b ha hb3 hb2
theorem op_reach {s : aMem} (hI : Inv s) (v : Int32) : agr (fX8_reach [.ref 0, .int v]) (fX9_reach [.ref 43, .int v]) (fun _ => 1) s := by
  obtain ⟨nb, nr, c, hL, hN, -, -, -, -⟩ := id hI
  obtain ⟨⟨hnb, hnr⟩, ⟨b1, b2⟩, ⟨r1, r2⟩, -, -, -, -, -, -⟩ := id hL
  by_cases hv : vb nr v
  · obtain ⟨r, hr, rfl⟩ := hv
    refine agr_q (r := nI (rch nb (s.1 49) (oset nb (s.1 45) r) (oset nb (s.1 45) r ||| oset nb (s.1 45) 5))) (s1 := s) hI ?_ (fr_rfl s) (fun s2 h2 => ?_)
    · rw [tX8_reach, sX8_needReaderT r1 hnr hr, b_bv, tX8_reach_5, sX8_reachNow hL hN.1 hr, b_bi]
    · obtain ⟨u, Q, Q1, q, p1, p2, -⟩ := sX9_reachOf (s := a_si s2 43 0 (nI 0)) (r := r) hnb (by simp [m_si, scB h2 43 1 rfl rfl, b2]) (by omega)
      refine ⟨u, ?_, ?_, fr_trans (fr_si (fr_rfl s2) (.inr (by decide))) (fr_mono p2 (by decide) (by decide))⟩
      · rw [tX9_reach]
        try simp only [k_lit, k_nN, k_ofN]
        rw [sX9_isReaderT (nb := nr) (by simp [m_si, scB h2 43 2 rfl rfl, r2]) hnr hr, b_bi, tX9_reach_11]
        try simp only [k_lit, k_nN, k_ofN]
        rw [sX9_rightT (by simp [m_si]), b_bi, tX9_reach_15]
        try simp only [k_lit, k_nN, k_ofN]
        simp (disch := omega) only [i_leT, i_leF, i_ltT, i_ltF, i_eqT, i_eqF, i_okT, i_n1, i_n2, i_n3, i_n4, i_n5, i_n6, i_n7, i_n8, k_cl, if_true, if_false]
        rw [p1, b_bi, z_ne (by decide), z_ne (by decide), scA h2 45 rfl rfl, scA h2 49 rfl rfl]
      · rw [p2.1 43 0 (by decide) (by decide)]
        simp [m_si]
  · refine agr_x (x := 0) (s1 := s) hI ?_ (fr_rfl s) (by omega) (fun s2 h2 => ⟨nI 0, a_si (a_si s2 43 0 (nI 0)) 43 0 (nI 1), ?_, by simp [m_si], fr_si (fr_si (fr_rfl s2) (.inr (by decide))) (.inr (by decide))⟩)
    · rw [tX8_reach, sX8_needReaderF r1 hnr hv, b_bvx]
    · rw [tX9_reach]
      try simp only [k_lit, k_nN, k_ofN]
      rw [sX9_isReaderF (nb := nr) (by simp [m_si, scB h2 43 2 rfl rfl, r2]) hnr hv, b_bi, tX9_reach_11]
      try simp only [k_lit, k_nN, k_ofN]
      rw [sX9_rightF (by simp [m_si]) (by omega) (by omega), b_bi, tX9_reach_15]
      try simp only [k_lit, k_nN, k_ofN]
      simp (disch := omega) only [i_leT, i_leF, i_ltT, i_ltF, i_eqT, i_eqF, i_okT, i_n1, i_n2, i_n3, i_n4, i_n5, i_n6, i_n7, i_n8, k_cl, if_true, if_false]
theorem op_way {s : aMem} (hI : Inv s) (v w : Int32) : agr (fX8_way [.ref 0, .int v, .int w]) (fX9_way [.ref 43, .int v, .int w]) (fun _ => 1) s := by
  obtain ⟨nb, nr, c, hL, hN, -, -, -, -⟩ := id hI
  obtain ⟨⟨hnb, hnr⟩, ⟨b1, b2⟩, ⟨r1, r2⟩, -, -, -, -, -, -⟩ := id hL
  have bad : ∀ s2 : aMem, a_bi (ρ := Option aRes) (fX9_right [.ref 43, .int (nI 0), .int (nI 1)] (a_si s2 43 0 (nI 0))) (fun r2 s1 => a_run none shp pX9_way 31 [some (.ref 43), some (.int v), some (.int w), none] [.int r2] s1) none (fun x s1 => some (.inr x, s1)) = some (.inl (some (.int (nI 0))), a_si (a_si s2 43 0 (nI 0)) 43 0 (nI 1)) := by
    intro s2
    rw [sX9_rightF (by simp [m_si]) (by omega) (by omega), b_bi, tX9_way_31]
    try simp only [k_lit, k_nN, k_ofN]
    simp (disch := omega) only [i_leT, i_leF, i_ltT, i_ltF, i_eqT, i_eqF, i_okT, i_n1, i_n2, i_n3, i_n4, i_n5, i_n6, i_n7, i_n8, k_cl, if_true, if_false]
  by_cases hv : vb nr v
  · obtain ⟨r, hr, rfl⟩ := hv
    by_cases hw : vb nb w
    · obtain ⟨b, hb, rfl⟩ := hw
      refine agr_q (r := if (oset nb (s.1 45) r).testBit b = true then nI 0 else if (rch nb (s.1 49) (oset nb (s.1 45) r) (oset nb (s.1 45) r ||| oset nb (s.1 45) 5)).testBit b = true then nI 1 else nN) (s1 := s) hI ?_ (fr_rfl s) (fun s2 h2 => ?_)
      · have hs := Own_s hnb hN.1
        have hR4 : rch nb (s.1 49) (oset nb (s.1 45) r) (oset nb (s.1 45) r ||| oset nb (s.1 45) 5) < 4096 := lt12 (rch_lt (oset_lt _ _ _) (Nat.or_lt_two_pow (oset_lt _ _ _) (oset_lt _ _ _))) hnb
        rw [tX8_way, sX8_needReaderT r1 hnr hr, b_bv, tX8_way_5, sX8_needBookT b1 hnb hb, b_bv, tX8_way_10]
        simp (disch := omega) only [i_leT, i_leF, i_ltT, i_ltF, i_eqT, i_eqF, i_okT, i_n1, i_n2, i_n3, i_n4, i_n5, i_n6, i_n7, i_n8, k_cl, if_true, if_false]
        have h4 := (hs r (by omega)).2
        rw [(hs r (by omega)).1, k_holds _ b (by omega) (by omega), b_bi, tX8_way_23]
        try simp only [k_lit, k_nN, k_ofN]
        cases e : (oset nb (s.1 45) r).testBit b
        · simp only [Bool.toNat_false]
          simp (disch := omega) only [i_leT, i_leF, i_ltT, i_ltF, i_eqT, i_eqF, i_okT, i_n1, i_n2, i_n3, i_n4, i_n5, i_n6, i_n7, i_n8, k_cl, if_true, if_false]
          rw [sX8_reachNow hL hN.1 hr, b_bi, tX8_way_33, k_holds _ b (by omega) (by omega), b_bi, tX8_way_37]
          try simp only [k_lit, k_nN, k_ofN]
          cases e2 : (rch nb (s.1 49) (oset nb (s.1 45) r) (oset nb (s.1 45) r ||| oset nb (s.1 45) 5)).testBit b
          · simp only [Bool.toNat_false]
            simp (disch := omega) only [i_leT, i_leF, i_ltT, i_ltF, i_eqT, i_eqF, i_okT, i_n1, i_n2, i_n3, i_n4, i_n5, i_n6, i_n7, i_n8, k_cl, if_true, if_false]
            simp
          · simp only [Bool.toNat_true]
            simp (disch := omega) only [i_leT, i_leF, i_ltT, i_ltF, i_eqT, i_eqF, i_okT, i_n1, i_n2, i_n3, i_n4, i_n5, i_n6, i_n7, i_n8, k_cl, if_true, if_false]
            simp
        · simp only [Bool.toNat_true]
          simp (disch := omega) only [i_leT, i_leF, i_ltT, i_ltF, i_eqT, i_eqF, i_okT, i_n1, i_n2, i_n3, i_n4, i_n5, i_n6, i_n7, i_n8, k_cl, if_true, if_false]
      · obtain ⟨u, Q, Q1, q, p1, p2, p3, p4, p5, p6, p7, p8, p9, p10, p11, p12⟩ := sX9_reachOf (s := a_si s2 43 0 (nI 0)) (r := r) hnb (by simp [m_si, scB h2 43 1 rfl rfl, b2]) (by omega)
        rw [z_ne (by decide), z_ne (by decide), scA h2 45 rfl rfl, scA h2 49 rfl rfl] at p1 p6 p12
        rw [z_ne (by decide), scA h2 45 rfl rfl] at p9 p10
        refine ⟨u, ?_, ?_, fr_trans (fr_si (fr_rfl s2) (.inr (by decide))) (fr_mono p2 (by decide) (by decide))⟩
        · rw [tX9_way]
          try simp only [k_lit, k_nN, k_ofN]
          rw [sX9_isReaderT (nb := nr) (by simp [m_si, scB h2 43 2 rfl rfl, r2]) hnr hr, b_bi, tX9_way_11]
          try simp only [k_lit, k_nN, k_ofN]
          simp (disch := omega) only [i_leT, i_leF, i_ltT, i_ltF, i_eqT, i_eqF, i_okT, i_n1, i_n2, i_n3, i_n4, i_n5, i_n6, i_n7, i_n8, k_cl, if_true, if_false]
          rw [sX9_isBookT (nb := nb) (by simp [m_si, scB h2 43 1 rfl rfl, b2]) hnb hb, b_bi, tX9_way_19]
          try simp only [k_lit, k_nN, k_ofN]
          simp (disch := omega) only [i_leT, i_leF, i_ltT, i_ltF, i_eqT, i_eqF, i_okT, i_n1, i_n2, i_n3, i_n4, i_n5, i_n6, i_n7, i_n8, k_cl, if_true, if_false]
          rw [sX9_rightT (by simp [m_si]), b_bi, tX9_way_31]
          try simp only [k_lit, k_nN, k_ofN]
          simp (disch := omega) only [i_leT, i_leF, i_ltT, i_ltF, i_eqT, i_eqF, i_okT, i_n1, i_n2, i_n3, i_n4, i_n5, i_n6, i_n7, i_n8, k_cl, if_true, if_false]
          rw [p1, b_bi, tX9_way_41]
          try simp only [k_lit, k_nN, k_ofN]
          -- the walk along the queue
          have stp : ∀ k, k < Q → (q k).testBit b = true → a_run none shp pX9_way 44 [some (.ref 43), none, some (.int (nI b)), some (.int (nI k))] [] u = some (.inl (some (.int (u.1 60 (q k)))), u) := by
            intro k hk hqb
            have := (p6 k hk).2.1
            rw [tX9_way_44, p4]
            try simp only [k_lit, k_nN, k_ofN]
            simp (disch := omega) only [i_leT, i_leF, i_ltT, i_ltF, i_eqT, i_eqF, i_okT, i_n1, i_n2, i_n3, i_n4, i_n5, i_n6, i_n7, i_n8, k_cl, if_true, if_false]
            rw [(p6 k hk).1, if_pos (by rw [tb1 (by omega) (by omega)]; exact hqb)]
            simp (disch := omega) only [i_leT, i_leF, i_ltT, i_ltF, i_eqT, i_eqF, i_okT, i_n1, i_n2, i_n3, i_n4, i_n5, i_n6, i_n7, i_n8, k_cl, if_true, if_false]
          have nxt : ∀ k, k < Q → (q k).testBit b = false → a_run none shp pX9_way 44 [some (.ref 43), none, some (.int (nI b)), some (.int (nI k))] [] u = a_run none shp pX9_way 44 [some (.ref 43), none, some (.int (nI b)), some (.int (nI (k + 1)))] [] u := by
            intro k hk hqb
            have := (p6 k hk).2.1
            rw [tX9_way_44, p4]
            try simp only [k_lit, k_nN, k_ofN]
            simp (disch := omega) only [i_leT, i_leF, i_ltT, i_ltF, i_eqT, i_eqF, i_okT, i_n1, i_n2, i_n3, i_n4, i_n5, i_n6, i_n7, i_n8, k_cl, if_true, if_false]
            rw [(p6 k hk).1, if_neg (by rw [tb1 (by omega) (by omega), hqb]; simp), nI_add]
          by_cases hx : (oset nb (s.1 45) r).testBit b = true
          · rw [stp 0 (by omega) (by rw [p9]; exact hx), p9, p10, if_pos hx]
          · rw [if_neg hx]
            have hx2 : (oset nb (s.1 45) r).testBit b = false := by simpa using hx
            by_cases hR : (rch nb (s.1 49) (oset nb (s.1 45) r) (oset nb (s.1 45) r ||| oset nb (s.1 45) 5)).testBit b = true
            · rw [if_pos hR]
              obtain ⟨i, hi, hib⟩ := p12 b hR hx2
              have loop : ∀ m k, k + m = i → a_run none shp pX9_way 44 [some (.ref 43), none, some (.int (nI b)), some (.int (nI k))] [] u = some (.inl (some (.int (nI 1))), u) := by
                intro m
                induction m with
                | zero =>
                  intro k hk
                  have hk2 : k = i := by omega
                  subst hk2
                  by_cases h0 : k = 0
                  · subst h0
                    rw [p9, hx2] at hib
                    cases hib
                  · rw [stp k (by omega) hib, p11 k (by omega) hi]
                | succ m ih =>
                  intro k hk
                  cases hqk : (q k).testBit b
                  · rw [nxt k (by omega) hqk]
                    exact ih (k + 1) (by omega)
                  · by_cases h0 : k = 0
                    · subst h0
                      rw [p9, hx2] at hqk
                      cases hqk
                    · rw [stp k (by omega) hqk, p11 k (by omega) (by omega)]
              exact loop i 0 (by omega)
            · rw [if_neg hR]
              have loop : ∀ m k, k + m = Q → a_run none shp pX9_way 44 [some (.ref 43), none, some (.int (nI b)), some (.int (nI k))] [] u = some (.inl (some (.int nN)), u) := by
                intro m
                induction m with
                | zero =>
                  intro k hk
                  rw [tX9_way_44, p4]
                  try simp only [k_lit, k_nN, k_ofN]
                  simp (disch := omega) only [i_leT, i_leF, i_ltT, i_ltF, i_eqT, i_eqF, i_okT, i_n1, i_n2, i_n3, i_n4, i_n5, i_n6, i_n7, i_n8, k_cl, if_true, if_false]
                | succ m ih =>
                  intro k hk
                  cases hqk : (q k).testBit b
                  · rw [nxt k (by omega) hqk]
                    exact ih (k + 1) (by omega)
                  · exact absurd ((p6 k (by omega)).2.2 b hqk) hR
              exact loop Q 0 (by omega)
        · rw [p2.1 43 0 (by decide) (by decide)]
          simp [m_si]
    · refine agr_x (x := 0) (s1 := s) hI ?_ (fr_rfl s) (by omega) (fun s2 h2 => ⟨nI 0, a_si (a_si s2 43 0 (nI 0)) 43 0 (nI 1), ?_, by simp [m_si], fr_si (fr_si (fr_rfl s2) (.inr (by decide))) (.inr (by decide))⟩)
      · rw [tX8_way, sX8_needReaderT r1 hnr hr, b_bv, tX8_way_5, sX8_needBookF b1 hnb hw, b_bvx]
      · rw [tX9_way]
        try simp only [k_lit, k_nN, k_ofN]
        rw [sX9_isReaderT (nb := nr) (by simp [m_si, scB h2 43 2 rfl rfl, r2]) hnr hr, b_bi, tX9_way_11]
        try simp only [k_lit, k_nN, k_ofN]
        simp (disch := omega) only [i_leT, i_leF, i_ltT, i_ltF, i_eqT, i_eqF, i_okT, i_n1, i_n2, i_n3, i_n4, i_n5, i_n6, i_n7, i_n8, k_cl, if_true, if_false]
        rw [sX9_isBookF (nb := nb) (by simp [m_si, scB h2 43 1 rfl rfl, b2]) hnb hw, b_bi, tX9_way_19]
        try simp only [k_lit, k_nN, k_ofN]
        simp (disch := omega) only [i_leT, i_leF, i_ltT, i_ltF, i_eqT, i_eqF, i_okT, i_n1, i_n2, i_n3, i_n4, i_n5, i_n6, i_n7, i_n8, k_cl, if_true, if_false]
        exact bad s2
  · refine agr_x (x := 0) (s1 := s) hI ?_ (fr_rfl s) (by omega) (fun s2 h2 => ⟨nI 0, a_si (a_si s2 43 0 (nI 0)) 43 0 (nI 1), ?_, by simp [m_si], fr_si (fr_si (fr_rfl s2) (.inr (by decide))) (.inr (by decide))⟩)
    · rw [tX8_way, sX8_needReaderF r1 hnr hv, b_bvx]
    · rw [tX9_way]
      try simp only [k_lit, k_nN, k_ofN]
      rw [sX9_isReaderF (nb := nr) (by simp [m_si, scB h2 43 2 rfl rfl, r2]) hnr hv, b_bi, tX9_way_11]
      try simp only [k_lit, k_nN, k_ofN]
      simp (disch := omega) only [i_leT, i_leF, i_ltT, i_ltF, i_eqT, i_eqF, i_okT, i_n1, i_n2, i_n3, i_n4, i_n5, i_n6, i_n7, i_n8, k_cl, if_true, if_false]
      exact bad s2
