/-! ===== the class's search ===== -/
theorem pc_pos {r : Nat} (h : r < 4096) (hp : pc r ≠ 0) : r ≠ 0 := by
  intro e
  subst e
  exact hp (by decide)
theorem pc_0 {r : Nat} (h : r < 4096) (hp : pc r = 0) : r = 0 := by
  by_cases e : r = 0
  · exact e
  · have := (low_ok r h e).2.2.2
    omega
/-- what the search keeps: its list, and that v's steps are being offered -/
def gX (nb : Nat) (pg : Nat → Int32) (P v0 : Nat) (s t : aMem) (L D : Nat → Nat) (n k d sp : Nat) : Prop := (∃ T, pX nb s t T L n sp) ∧ bq (scp nb pg P) v0 L D n k ∧ (k < n) ∧ (sp = 1 → big (scp nb pg P) v0) ∧ D k + 1 = d
/-- more is known -/
def ext (d : Nat) (L D L' D' : Nat → Nat) (n n' : Nat) : Prop := n ≤ n' ∧ (∀ i, i < n → L' i = L i ∧ D' i = D i) ∧ ∀ i, n ≤ i → i < n' → D' i = d
theorem ext_rfl (d : Nat) (L D : Nat → Nat) (n : Nat) : ext d L D L D n n := ⟨Nat.le_refl _, fun _ _ => ⟨rfl, rfl⟩, fun i h1 h2 => by omega⟩
theorem ext_tr {d : Nat} {L D L1 D1 L2 D2 : Nat → Nat} {n n1 n2 : Nat} (h : ext d L D L1 D1 n n1) (h2 : ext d L1 D1 L2 D2 n1 n2) : ext d L D L2 D2 n n2 := by
  have := h.1
  refine ⟨Nat.le_trans h.1 h2.1, fun i hi => ⟨by rw [(h2.2.1 i (by omega)).1, (h.2.1 i hi).1], by rw [(h2.2.1 i (by omega)).2, (h.2.1 i hi).2]⟩, fun i h3 h4 => ?_⟩
  by_cases e : i < n1
  · rw [(h2.2.1 i e).2, h.2.2 i h3 e]
  · exact h2.2.2 i (by omega) h4
def knw (L D : Nat → Nat) (n k w : Nat) : Prop := ∃ i, i < n ∧ L i = w ∧ D i ≤ D k + 1
theorem knw_ext {d : Nat} {L D L' D' : Nat → Nat} {n n' k w : Nat} (h : knw L D n k w) (hk : k < n) (he : ext d L D L' D' n n') : knw L' D' n' k w := by
  obtain ⟨i, hi, e1, e2⟩ := h
  exact ⟨i, by have := he.1; omega, by rw [(he.2.1 i hi).1]; exact e1, by rw [(he.2.1 i hi).2, (he.2.1 k hk).2]; exact e2⟩
/-- a step is met -/
theorem gX_meet {nb P v0 n k d sp x y : Nat} {pg : Nat → Int32} {s t : aMem} {L D : Nat → Nat} (hg : gX nb pg P v0 s t L D n k d sp) (hx : x < 4096) (hy : y < 4096) (hs : scp nb pg P (L k) (enc x y)) : ∃ u L' D' n' sp', fX2_meet [.ref 35, .int (nI x), .int (nI y)] t = some (.inl none, u) ∧ gX nb pg P v0 s u L' D' n' k d sp' ∧ ext d L D L' D' n n' ∧ sp ≤ sp' ∧ (sp' = 0 → knw L' D' n' k (enc x y)) := by
  obtain ⟨⟨T, hp⟩, hq, hk, hb, hd⟩ := hg
  obtain ⟨u, hu, hcase⟩ := sX2_meet hp hx hy
  have hsp := hp.2.2.1.2.2.2
  rcases hcase with ⟨i, hi, e1, e2⟩ | ⟨hno, hn4, hp'⟩ | ⟨hno, hn4, T', hp'⟩
  · subst e2
    exact ⟨u, L, D, n, sp, hu, ⟨⟨T, hp⟩, hq, hk, hb, hd⟩, ext_rfl d L D n, Nat.le_refl _, fun _ => ⟨i, hi, e1, hq.2.2.2.2.2.2 i hi hk⟩⟩
  · subst hn4
    have hbig : big (scp nb pg P) v0 := bq_big hq ⟨D k + 1, L k, (hq.2.2.2.2.1 k hk).1, hs⟩ hno
    exact ⟨u, L, D, 4000, 1, hu, ⟨⟨T, hp'⟩, hq, hk, fun _ => hbig, hd⟩, ext_rfl d L D 4000, hsp, fun h => absurd h (by omega)⟩
  · refine ⟨u, upN L n (enc x y), upN D n (D k + 1), n + 1, sp, hu, ⟨⟨T', hp'⟩, bq_new hq hk hn4 hs hno, by omega, hb, by rw [upN_n (by omega)]; exact hd⟩, ⟨by omega, fun i hi => ⟨upN_n (by omega), upN_n (by omega)⟩, fun i h1 h2 => by rw [show i = n by omega, upN_s]; exact hd⟩, Nat.le_refl _, fun _ => ⟨n, by omega, upN_s _ _ _, ?_⟩⟩
    rw [upN_s, upN_n (by omega)]
    exact Nat.le_refl _
/-- one book against each of a set -/
theorem gX_each {nb P v0 k d a x y mc tc : Nat} {pg : Nat → Int32} {s : aMem} (hnb : nb ≤ 12) (hx : x < 4096) (hy : y < 4096) (ha : a < 12) (hmc : mc = 0 ∨ mc = 4095) (htc : tc = 0 ∨ tc = 4095) : ∀ m r t L D n sp, pc r = m → r < 4096 → gX nb pg P v0 s t L D n k d sp → (∀ b, r.testBit b = true → scp nb pg P (L k) (enc (x ^^^ ((2 ^ a ||| 2 ^ b) &&& mc)) (y ^^^ ((2 ^ a ||| 2 ^ b) &&& tc)))) → ∃ u L' D' n' sp', a_run none shp pX2_tradeForEach 11 [some (.ref 35), some (.int (nI x)), some (.int (nI y)), some (.int (nI (2 ^ a))), none, some (.int (nI mc)), some (.int (nI tc)), some (.int (nI r)), some (.int (nI m)), none, none] [] t = some (.inl none, u) ∧ gX nb pg P v0 s u L' D' n' k d sp' ∧ ext d L D L' D' n n' ∧ sp ≤ sp' ∧ (sp' = 0 → ∀ b, r.testBit b = true → knw L' D' n' k (enc (x ^^^ ((2 ^ a ||| 2 ^ b) &&& mc)) (y ^^^ ((2 ^ a ||| 2 ^ b) &&& tc)))) := by
  have h4 : ∀ z b c, z < 4096 → b < 12 → c = 0 ∨ c = 4095 → z ^^^ ((2 ^ a ||| 2 ^ b) &&& c) < 4096 := by
    intro z b c hz hb hc
    have h1 : 2 ^ a < 2 ^ 12 := Nat.pow_lt_pow_right (by decide) ha
    have h2 : 2 ^ b < 2 ^ 12 := Nat.pow_lt_pow_right (by decide) hb
    refine Nat.xor_lt_two_pow (n := 12) hz (Nat.lt_of_le_of_lt Nat.and_le_left (Nat.or_lt_two_pow h1 h2))
  intro m
  induction m with
  | zero =>
    intro r t L D n sp hm hr hg hs
    have h0 := pc_0 hr hm
    subst h0
    refine ⟨t, L, D, n, sp, ?_, hg, ext_rfl d L D n, Nat.le_refl _, fun _ b hb => absurd hb (by simp)⟩
    rw [tX2_tradeForEach_11]
    try simp only [k_lit, k_nN, k_ofN]
    simp (disch := omega) only [i_leT, i_leF, i_ltT, i_ltF, i_eqT, i_eqF, i_okT, i_n1, i_n2, i_n3, i_n4, i_n5, i_n6, i_n7, i_n8, k_cl, if_true, if_false]
  | succ m ih =>
    intro r t L D n sp hm hr hg hs
    have hpl := pc_le r
    obtain ⟨l1, l2, l3, l4⟩ := low_ok r hr (pc_pos hr (by omega))
    have hk := hg.2.2.1
    obtain ⟨u, L1, D1, n1, sp1, hu, g1, x1, q1, k1⟩ := gX_meet hg (h4 x (low r) mc hx l3 hmc) (h4 y (low r) tc hy l3 htc) (hs (low r) l2)
    have hr2 : r ^^^ 2 ^ low r < 4096 := Nat.xor_lt_two_pow (n := 12) hr (Nat.pow_lt_pow_right (by decide) l3)
    have hbit : ∀ b, (r ^^^ 2 ^ low r).testBit b = true → r.testBit b = true := by
      intro b hb
      rw [xor_bit] at hb
      by_cases e : low r = b
      · rw [← e]; exact l2
      · simpa [e] using hb
    obtain ⟨w, L2, D2, n2, sp2, hw, g2, x2, q2, k2⟩ := ih (r ^^^ 2 ^ low r) u L1 D1 n1 sp1 (by omega) hr2 g1 (fun b hb => by rw [(x1.2.1 k hk).1]; exact hs b (hbit b hb))
    refine ⟨w, L2, D2, n2, sp2, ?_, g2, ext_tr x1 x2, by omega, fun h0 b hb => ?_⟩
    · rw [tX2_tradeForEach_11]
      try simp only [k_lit, k_nN, k_ofN]
      simp (disch := omega) only [i_leT, i_leF, i_ltT, i_ltF, i_eqT, i_eqF, i_okT, i_n1, i_n2, i_n3, i_n4, i_n5, i_n6, i_n7, i_n8, k_cl, if_true, if_false]
      rw [l1, k_or, k_and, k_xor, k_and, k_xor, k_xor, hu, b_bv, tX2_tradeForEach_55]
      try simp only [k_lit, k_nN, k_ofN]
      rw [nI_m1]
      exact hw
    · by_cases e : low r = b
      · rw [← e]
        exact knw_ext (k1 (by omega)) (by have := x1.1; omega) x2
      · exact k2 h0 b (by rw [xor_bit]; simp [hb, e])
theorem gX_tfe {nb P v0 k d a x y mc tc r : Nat} {pg : Nat → Int32} {s t : aMem} {L D : Nat → Nat} {n sp : Nat} (hnb : nb ≤ 12) (hx : x < 4096) (hy : y < 4096) (ha : a < 12) (hmc : mc = 0 ∨ mc = 4095) (htc : tc = 0 ∨ tc = 4095) (hr : r < 4096) (hg : gX nb pg P v0 s t L D n k d sp) (hs : ∀ b, r.testBit b = true → scp nb pg P (L k) (enc (x ^^^ ((2 ^ a ||| 2 ^ b) &&& mc)) (y ^^^ ((2 ^ a ||| 2 ^ b) &&& tc)))) : ∃ u L' D' n' sp', fX2_tradeForEach [.ref 35, .int (nI x), .int (nI y), .int (nI (2 ^ a)), .int (nI r), .int (nI mc), .int (nI tc)] t = some (.inl none, u) ∧ gX nb pg P v0 s u L' D' n' k d sp' ∧ ext d L D L' D' n n' ∧ sp ≤ sp' ∧ (sp' = 0 → ∀ b, r.testBit b = true → knw L' D' n' k (enc (x ^^^ ((2 ^ a ||| 2 ^ b) &&& mc)) (y ^^^ ((2 ^ a ||| 2 ^ b) &&& tc)))) := by
  obtain ⟨u, L', D', n', sp', h1, h2⟩ := gX_each hnb hx hy ha hmc htc (pc r) r t L D n sp rfl hr hg hs
  refine ⟨u, L', D', n', sp', ?_, h2⟩
  rw [tX2_tradeForEach, sJ6_bitCount hr, b_bi, tX2_tradeForEach_9]
  exact h1
theorem tr_1 {x a b : Nat} (ha : a < 12) (hb : b < 12) (h1 : x.testBit a = true) (h2 : x.testBit b = false) : x ^^^ ((2 ^ a ||| 2 ^ b) &&& 4095) = swp x a b := by
  apply Nat.eq_of_testBit_eq
  intro c
  rw [swp_bit, Nat.testBit_xor, Nat.testBit_and, Nat.testBit_or, pow_bit, pow_bit, show (4095 : Nat) = 2 ^ 12 - 1 from rfl, Nat.testBit_two_pow_sub_one]
  by_cases e1 : a = c
  · subst e1
    have : ¬ b = a := fun e => by rw [e, h1] at h2; cases h2
    simp [h1, ha, this]
  · by_cases e2 : b = c
    · subst e2
      simp [h2, hb]
    · simp [e1, e2]
theorem tr_0 (x z : Nat) : x ^^^ (z &&& 0) = x := by simp
/-- the class's steps from one state -/
theorem gX_goOn {nb P v0 k d : Nat} {pg : Nat → Int32} {s t : aMem} {L D : Nat → Nat} {n sp : Nat} (hnb : nb ≤ 12) (hP : P < 2 ^ nb) (hb0 : s.1 12 0 = nI nb) (hfw : fwOk nb (s.1 20) (s.1 19)) (hpg : ∀ b, b < nb → s.1 19 b = pg b) (h0 : vok nb v0) (hg : gX nb pg P v0 s t L D n k d sp) : ∃ u L' D' n' sp', fX2_goOn [.ref 35, .int (nI (L k % 4096)), .int (nI (L k / 4096)), .int (nI P)] t = some (.inl none, u) ∧ gX nb pg P v0 s u L' D' n' k d sp' ∧ ext d L D L' D' n n' ∧ sp ≤ sp' ∧ (sp' = 0 → ∀ w, scp nb pg P (L k) w → knw L' D' n' k w) := by
  have hk := hg.2.2.1
  obtain ⟨v1, v2, v3, v4⟩ := vok_rc hnb h0 _ _ (hg.2.1.2.2.2.2.1 k hk).1
  have hx4 := lt12 v2 hnb
  have hy4 := lt12 v3 hnb
  have hP4 := lt12 hP hnb
  -- the shelf
  have hsh4 : P ^^^ (P &&& (L k % 4096)) ^^^ ((P ^^^ (P &&& (L k % 4096))) &&& (L k / 4096)) < 4096 := by
    have h1 : P ^^^ (P &&& (L k % 4096)) < 2 ^ 12 := Nat.xor_lt_two_pow hP4 (Nat.lt_of_le_of_lt Nat.and_le_left hP4)
    exact Nat.xor_lt_two_pow (n := 12) h1 (Nat.lt_of_le_of_lt Nat.and_le_left h1)
  have hshb : ∀ b, (P ^^^ (P &&& (L k % 4096)) ^^^ ((P ^^^ (P &&& (L k % 4096))) &&& (L k / 4096))).testBit b = (P.testBit b && !(L k % 4096).testBit b && !(L k / 4096).testBit b) := by
    intro b
    simp only [Nat.testBit_xor, Nat.testBit_and]
    cases P.testBit b <;> cases (L k % 4096).testBit b <;> cases (L k / 4096).testBit b <;> rfl
  generalize hsh : P ^^^ (P &&& (L k % 4096)) ^^^ ((P ^^^ (P &&& (L k % 4096))) &&& (L k / 4096)) = Z at hsh4 hshb
  have key : ∀ m a t L1 D1 n1 sp1, a + m = nb → gX nb pg P v0 s t L1 D1 n1 k d sp1 → ext d L D L1 D1 n n1 → sp ≤ sp1 → (sp1 = 0 → ∀ w, (∃ a' b, a' < a ∧ b < nb ∧ (((L k % 4096).testBit a' = true ∧ Z.testBit b = true ∧ pg b < pg a' ∧ w = enc (swp (L k % 4096) a' b) (L k / 4096)) ∨ ((L k / 4096).testBit a' = true ∧ Z.testBit b = true ∧ pg b < pg a' ∧ w = enc (L k % 4096) (swp (L k / 4096) a' b)) ∨ ((L k % 4096).testBit a' = true ∧ (L k / 4096).testBit b = true ∧ w = enc (swp (L k % 4096) a' b) (swp (L k / 4096) b a')))) → knw L1 D1 n1 k w) → ∃ u L' D' n' sp', a_run none shp pX2_goOn 14 [some (.ref 35), some (.int (nI (L k % 4096))), some (.int (nI (L k / 4096))), none, some (.int (nI Z)), some (.int (nI a)), none] [] t = some (.inl none, u) ∧ gX nb pg P v0 s u L' D' n' k d sp' ∧ ext d L D L' D' n n' ∧ sp ≤ sp' ∧ (sp' = 0 → ∀ w, scp nb pg P (L k) w → knw L' D' n' k w) := by
    intro m
    induction m with
    | zero =>
      intro a t L1 D1 n1 sp1 ha hg1 hx1 hq1 hkn
      refine ⟨t, L1, D1, n1, sp1, ?_, hg1, hx1, hq1, fun h0' w hw => hkn h0' w ?_⟩
      · obtain ⟨⟨T, hp⟩, -⟩ := hg1
        rw [tX2_goOn_14, hp.1.1 12 0 (by decide) (by decide), hb0]
        try simp only [k_lit, k_nN, k_ofN]
        simp (disch := omega) only [i_leT, i_leF, i_ltT, i_ltF, i_eqT, i_eqF, i_okT, i_n1, i_n2, i_n3, i_n4, i_n5, i_n6, i_n7, i_n8, k_cl, if_true, if_false]
      · rcases hw with ⟨a', b, h1, h2, h3, ⟨h4, h5, h6⟩, h7, rfl⟩ | ⟨a', b, h1, h2, h3, ⟨h4, h5, h6⟩, h7, rfl⟩ | ⟨a', b, h1, h2, h3, h4, rfl⟩
        · exact ⟨a', b, by omega, h2, .inl ⟨h3, by rw [hshb, h4, h5, h6]; rfl, h7, rfl⟩⟩
        · exact ⟨a', b, by omega, h2, .inr (.inl ⟨h3, by rw [hshb, h4, h5, h6]; rfl, h7, rfl⟩)⟩
        · exact ⟨a', b, by omega, h2, .inr (.inr ⟨h3, h4, rfl⟩)⟩
    | succ m ih =>
      intro a t L1 D1 n1 sp1 ha hg1 hx1 hq1 hkn
      obtain ⟨⟨T, hp⟩, hq, hkn1, hbg, hdk⟩ := id hg1
      have hLk : L1 k = L k := (hx1.2.1 k hk).1
      have hsp := hp.2.2.1.2.2.2
      rw [tX2_goOn_14, hp.1.1 12 0 (by decide) (by decide), hb0, hp.2.2.1.2.2.1]
      try simp only [k_lit, k_nN, k_ofN]
      rw [i_leF (by omega) (by omega)]
      by_cases esp : sp1 = 0
      · subst esp
        rw [i_eqT rfl]
        simp (disch := omega) only [i_leT, i_leF, i_ltT, i_ltF, i_eqT, i_eqF, i_okT, i_n1, i_n2, i_n3, i_n4, i_n5, i_n6, i_n7, i_n8, k_cl, if_true, if_false]
        rw [k_holds _ a (by omega) (by omega), b_bi, hp.1.1 20 a (by decide) (by simp), hfw a (by omega), k_and, tX2_goOn_54]
        try simp only [k_lit, k_nN, k_ofN]
        have hr4 : (msk nb fun c => decide (s.1 19 c < s.1 19 a)) &&& Z < 4096 := Nat.lt_of_le_of_lt Nat.and_le_right hsh4
        have hrb : ∀ b, ((msk nb fun c => decide (s.1 19 c < s.1 19 a)) &&& Z).testBit b = (decide (b < nb) && decide (s.1 19 b < s.1 19 a) && Z.testBit b) := by
          intro b
          rw [Nat.testBit_and, msk_bit]
        have hab : ∀ b, ((msk nb fun c => decide (s.1 19 c < s.1 19 a)) &&& Z).testBit b = true → b < nb ∧ pg b < pg a ∧ Z.testBit b = true := by
          intro b hb
          rw [hrb] at hb
          simp only [Bool.and_eq_true, decide_eq_true_eq] at hb
          exact ⟨hb.1.1, by rw [← hpg b hb.1.1, ← hpg a (by omega)]; exact hb.1.2, hb.2⟩
        have hab2 : ∀ b, b < nb → pg b < pg a → Z.testBit b = true → ((msk nb fun c => decide (s.1 19 c < s.1 19 a)) &&& Z).testBit b = true := by
          intro b h1 h2 h3
          rw [hrb, h3, hpg b h1, hpg a (by omega)]
          simp [h1, h2]
        have hZ : ∀ b, Z.testBit b = true → P.testBit b = true ∧ (L k % 4096).testBit b = false ∧ (L k / 4096).testBit b = false := by
          intro b hb
          rw [hshb] at hb
          simp only [Bool.and_eq_true, Bool.not_eq_true'] at hb
          exact ⟨hb.1.1, hb.1.2, hb.2⟩
        cases exa : (L k % 4096).testBit a
        · simp only [Bool.toNat_false]
          simp (disch := omega) only [i_leT, i_leF, i_ltT, i_ltF, i_eqT, i_eqF, i_okT, i_n1, i_n2, i_n3, i_n4, i_n5, i_n6, i_n7, i_n8, k_cl, if_true, if_false]
          rw [k_holds _ a (by omega) (by omega), b_bi, tX2_goOn_99]
          try simp only [k_lit, k_nN, k_ofN]
          cases eya : (L k / 4096).testBit a
          · simp only [Bool.toNat_false]
            simp (disch := omega) only [i_leT, i_leF, i_ltT, i_ltF, i_eqT, i_eqF, i_okT, i_n1, i_n2, i_n3, i_n4, i_n5, i_n6, i_n7, i_n8, k_cl, if_true, if_false]
            rw [tX2_goOn_118]
            try simp only [k_lit, k_nN, k_ofN, nI_add]
            refine ih (a + 1) t L1 D1 n1 0 (by omega) hg1 hx1 hq1 (fun _ w hw => ?_)
            obtain ⟨a', b, h1, h2, h3⟩ := hw
            by_cases e : a' = a
            · subst e
              rcases h3 with ⟨c1, -⟩ | ⟨c1, -⟩ | ⟨c1, -⟩
              · rw [exa] at c1; cases c1
              · rw [eya] at c1; cases c1
              · rw [exa] at c1; cases c1
            · exact hkn rfl w ⟨a', b, by omega, h2, h3⟩
          · simp only [Bool.toNat_true]
            simp (disch := omega) only [i_leT, i_leF, i_ltT, i_ltF, i_eqT, i_eqF, i_okT, i_n1, i_n2, i_n3, i_n4, i_n5, i_n6, i_n7, i_n8, k_cl, if_true, if_false]
            rw [k_one (by omega)]
            obtain ⟨u, L2, D2, n2, sp2, hu, g2, x2, q2, k2⟩ := gX_tfe (a := a) (r := (msk nb fun c => decide (s.1 19 c < s.1 19 a)) &&& Z) (x := L k % 4096) (y := L k / 4096) (mc := 0) (tc := 4095) hnb (by omega) (by omega) (by omega) (.inl rfl) (.inr rfl) hr4 hg1 (fun b hb => by
              obtain ⟨c1, c2, c3⟩ := hab b hb
              obtain ⟨d1, d2, d3⟩ := hZ b c3
              rw [tr_0, tr_1 (by omega) (by omega) eya d3, hLk]
              exact .inr (.inl ⟨a, b, by omega, c1, eya, ⟨d1, d2, d3⟩, c2, rfl⟩))
            rw [hu, b_bv, tX2_goOn_118]
            try simp only [k_lit, k_nN, k_ofN, nI_add]
            refine ih (a + 1) u L2 D2 n2 sp2 (by omega) g2 (ext_tr hx1 x2) (by omega) (fun e0 w hw => ?_)
            obtain ⟨a', b, h1, h2, h3⟩ := hw
            by_cases e : a' = a
            · subst e
              rcases h3 with ⟨c1, -⟩ | ⟨c1, c2, c3, rfl⟩ | ⟨c1, -⟩
              · rw [exa] at c1; cases c1
              · have := k2 e0 b (hab2 b h2 c3 c2)
                rw [tr_0, tr_1 (by omega) (by omega) eya (hZ b c2).2.2] at this
                exact this
              · rw [exa] at c1; cases c1
            · exact knw_ext (hkn rfl w ⟨a', b, by omega, h2, h3⟩) hkn1 x2
        · simp only [Bool.toNat_true]
          simp (disch := omega) only [i_leT, i_leF, i_ltT, i_ltF, i_eqT, i_eqF, i_okT, i_n1, i_n2, i_n3, i_n4, i_n5, i_n6, i_n7, i_n8, k_cl, if_true, if_false]
          rw [k_one (by omega)]
          have eya := v4 a exa
          obtain ⟨u, L2, D2, n2, sp2, hu, g2, x2, q2, k2⟩ := gX_tfe (a := a) (r := (msk nb fun c => decide (s.1 19 c < s.1 19 a)) &&& Z) (x := L k % 4096) (y := L k / 4096) (mc := 4095) (tc := 0) hnb (by omega) (by omega) (by omega) (.inr rfl) (.inl rfl) hr4 hg1 (fun b hb => by
            obtain ⟨c1, c2, c3⟩ := hab b hb
            obtain ⟨d1, d2, d3⟩ := hZ b c3
            rw [tr_0, tr_1 (by omega) (by omega) exa d2, hLk]
            exact .inl ⟨a, b, by omega, c1, exa, ⟨d1, d2, d3⟩, c2, rfl⟩)
          have hLk2 : L2 k = L k := by rw [(x2.2.1 k hkn1).1, hLk]
          have hxy : ∀ b, (L k / 4096).testBit b = true → (L k % 4096).testBit b = false := by
            intro b hb
            cases hq2 : (L k % 4096).testBit b
            · rfl
            · rw [v4 b hq2] at hb; cases hb
          have hyl : ∀ b, (L k / 4096).testBit b = true → b < nb := by
            intro b hb
            by_cases e : b < nb
            · exact e
            · rw [set_hi v3 (by omega)] at hb; cases hb
          have hcm : ∀ b, 2 ^ a ||| 2 ^ b = 2 ^ b ||| 2 ^ a := fun b => Nat.or_comm _ _
          have tr3 : ∀ b, (L k / 4096).testBit b = true → enc ((L k % 4096) ^^^ ((2 ^ a ||| 2 ^ b) &&& 4095)) ((L k / 4096) ^^^ ((2 ^ a ||| 2 ^ b) &&& 4095)) = enc (swp (L k % 4096) a b) (swp (L k / 4096) b a) := by
            intro b hb
            have hbl := hyl b hb
            rw [tr_1 (by omega) (by omega) exa (hxy b hb), hcm b, tr_1 (by omega) (by omega) hb eya]
          obtain ⟨u3, L3, D3, n3, sp3, hu3, g3, x3, q3, k3⟩ := gX_tfe (a := a) (r := L k / 4096) (x := L k % 4096) (y := L k / 4096) (mc := 4095) (tc := 4095) hnb (by omega) (by omega) (by omega) (.inr rfl) (.inr rfl) (by omega) g2 (fun b hb => by
            rw [tr3 b hb, hLk2]
            exact .inr (.inr ⟨a, b, by omega, hyl b hb, exa, hb, rfl⟩))
          rw [hu, b_bv, tX2_goOn_73]
          try simp only [k_lit, k_nN, k_ofN]
          rw [k_one (by omega), hu3, b_bv, tX2_goOn_118]
          try simp only [k_lit, k_nN, k_ofN, nI_add]
          refine ih (a + 1) u3 L3 D3 n3 sp3 (by omega) g3 (ext_tr hx1 (ext_tr x2 x3)) (by omega) (fun e0 w hw => ?_)
          obtain ⟨a', b, h1, h2, h3⟩ := hw
          by_cases e : a' = a
          · subst e
            rcases h3 with ⟨c1, c2, c3, rfl⟩ | ⟨c1, -⟩ | ⟨c1, c2, rfl⟩
            · have := k2 (by omega) b (hab2 b h2 c3 c2)
              rw [tr_0, tr_1 (by omega) (by omega) exa (hZ b c2).2.1] at this
              exact knw_ext this g2.2.2.1 x3
            · rw [eya] at c1; cases c1
            · have := k3 e0 b c2
              rw [tr3 b c2] at this
              exact this
          · exact knw_ext (hkn rfl w ⟨a', b, by omega, h2, h3⟩) hkn1 (ext_tr x2 x3)
      · rw [i_eqF esp (by omega) (by omega)]
        exact ⟨t, L1, D1, n1, sp1, rfl, hg1, hx1, hq1, fun h => absurd h esp⟩
  rw [tX2_goOn]
  try simp only [k_lit, k_nN, k_ofN]
  rw [k_not, k_not, hsh]
  exact key nb 0 t L D n sp (by omega) hg (ext_rfl d L D n) (Nat.le_refl _) (fun _ w hw => by
    obtain ⟨a', b, h1, -⟩ := hw
    omega)
