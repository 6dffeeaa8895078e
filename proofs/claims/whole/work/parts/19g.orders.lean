/-! ===== orders, there, knot agree ===== -/
theorem sX9_ways {nb nr ne : Nat} {pg em : Nat → Int32} {s : aMem} {T one bh b : Nat} {bo : Bool} {v3 : Int32} (hB : WB nb nr ne pg em s) (hbo : (bo = true ∧ v3 = nI b ∧ b < nb ∧ bh ≤ pcN 8 T) ∨ (bo = false ∧ v3 = nN)) (hone : one ≤ 1) (hob : one = 1 → bo = false) (hbh : bh ≤ 8) (hT : T < 256) : ∃ u, fX9_ways [.ref 43, .int (nI T), .int (nI one), .int v3, .int (nI bh)] s = some (.inl (some (.int (nI (fin one (0, 0) (cw (cF em pg (oset nb (s.1 45)) ne) (fun S => (xg em (oset nb (s.1 45)) ne S 5).testBit b) ne T bo bh (pcN 8 T) 0 0 false)).1))), u) ∧ fr [70] [] s u := by
  obtain ⟨⟨hnb, hnr, hne⟩, -⟩ := id hB
  have hall := pcN_le T 8
  have cnt : ∀ m k, k + m = 8 → a_run none shp pX9_ways 6 [some (.ref 43), some (.int (nI T)), some (.int (nI one)), some (.int v3), some (.int (nI bh)), some (.int (nI (pcN k T))), some (.int (nI k)), none, none, none, none, none] [] s = a_run none shp pX9_ways 52 [some (.ref 43), some (.int (nI T)), some (.int (nI one)), some (.int v3), some (.int (nI bh)), some (.int (nI (pcN 8 T))), some (.int (nI 0)), some (.int (nI 0)), some (.int (nI 0)), some (.int (nI 0)), some (.int (nI 0)), none] [] (a_si s 70 0 nN) := by
    intro m
    induction m with
    | zero =>
      intro k hk
      rw [tX9_ways_6]
      try simp only [k_lit, k_nN, k_ofN]
      simp (disch := omega) only [i_leT, i_leF, i_ltT, i_ltF, i_eqT, i_eqF, i_okT, i_n1, i_n2, i_n3, i_n4, i_n5, i_n6, i_n7, i_n8, k_cl, if_true, if_false]
      rw [show k = 8 by omega]
    | succ m ih =>
      intro k hk
      rw [tX9_ways_6]
      try simp only [k_lit, k_nN, k_ofN]
      simp (disch := omega) only [i_leT, i_leF, i_ltT, i_ltF, i_eqT, i_eqF, i_okT, i_n1, i_n2, i_n3, i_n4, i_n5, i_n6, i_n7, i_n8, k_cl, if_true, if_false]
      rw [k_bit (by omega) (by omega), nI_add, nI_add]
      exact ih (k + 1) (by omega)
  have w0 : wI nb ne em (oset nb (s.1 45)) 0 s (a_si s 70 0 nN) (s.1 45) := ⟨fr_si (fr_rfl s) (by simp), by funext j; simp [m_si], fun r _ => (xg_0 _ _ _ _).symm, rfl⟩
  have z70 : (a_si s 70 0 nN).1 70 0 = nN := by simp [m_si]
  have g0 : fgo one (0, 0) := ⟨Nat.zero_le _, fun _ => rfl⟩
  obtain ⟨th1, hth1, ht1, ht2, eq101⟩ := w_101 (T := T) (n := 0) (e := 0) (d := 0) (th := 0) (tp := false) (b := b) hB w0 hbo hone hob (Nat.zero_le _) hall hbh g0 (by omega) (fun _ h => absurd h (Nat.not_lt_zero _))
  rw [z70, nN_a1] at eq101
  have hg1 : fgo one (if 0 = pcN 8 T then fin one (0, 0) (thv bo bh (fun S => (xg em (oset nb (s.1 45)) ne S 5).testBit b) 0 0 false).toNat else (0, 0)) := by
    split
    · exact fin_go g0
    · exact g0
  obtain ⟨u, th', g1, g2, g3, g4, g5⟩ := w_lp (T := T) hB hbo hone hob hall hbh hT (pcN 8 T) 0 (by omega) ne 0 0 (a_si s 70 0 nN) (s.1 45) (if 0 = pcN 8 T then fin one (0, 0) (thv bo bh (fun S => (xg em (oset nb (s.1 45)) ne S 5).testBit b) 0 0 false).toNat else (0, 0)).1 (if 0 = pcN 8 T then fin one (0, 0) (thv bo bh (fun S => (xg em (oset nb (s.1 45)) ne S 5).testBit b) 0 0 false).toNat else (0, 0)).2 th1 (thv bo bh (fun S => (xg em (oset nb (s.1 45)) ne S 5).testBit b) 0 0 false) (by omega) (Nat.two_pow_pos ne) w0 hg1 hth1 (thv_id _ _ _ _ _ _) ht1
  have hcw : fin one ((if 0 = pcN 8 T then fin one (0, 0) (thv bo bh (fun S => (xg em (oset nb (s.1 45)) ne S 5).testBit b) 0 0 false).toNat else (0, 0)).1, (if 0 = pcN 8 T then fin one (0, 0) (thv bo bh (fun S => (xg em (oset nb (s.1 45)) ne S 5).testBit b) 0 0 false).toNat else (0, 0)).2) (sm (fun j => ltm (cF em pg (oset nb (s.1 45)) ne) (fun S => (xg em (oset nb (s.1 45)) ne S 5).testBit b) ne T bo bh (pcN 8 T) 0 0 (thv bo bh (fun S => (xg em (oset nb (s.1 45)) ne S 5).testBit b) 0 0 false) (0 + j)) ne) = fin one (0, 0) (cw (cF em pg (oset nb (s.1 45)) ne) (fun S => (xg em (oset nb (s.1 45)) ne S 5).testBit b) ne T bo bh (pcN 8 T) 0 0 false) := by
    cases hp : pcN 8 T with
    | zero =>
      rw [if_pos rfl, ltm_0, fin_0]
      rfl
    | succ r =>
      rw [if_neg (by omega)]
      congr 1
      show _ = sm _ ne
      refine sm_cg (fun j _ => ?_)
      rw [Nat.zero_add]
      rfl
  rw [hcw] at g5
  refine ⟨u, ?_, ⟨fun k j hk _ => ?_, fun k j _ _ => by rw [g1.2.2.2], by rw [g1.2.2.2]⟩⟩
  · rw [tX9_ways]
    try simp only [k_lit, k_nN, k_ofN]
    have c0 := cnt 8 0 (by omega)
    rw [show pcN 0 T = 0 from rfl] at c0
    rw [c0, tX9_ways_52]
    try simp only [k_lit, k_nN, k_ofN]
    simp (disch := omega) only [i_leT, i_leF, i_ltT, i_ltF, i_eqT, i_eqF, i_okT, i_n1, i_n2, i_n3, i_n4, i_n5, i_n6, i_n7, i_n8, k_cl, if_true, if_false]
    rw [z70]
    simp (disch := omega) only [i_leT, i_leF, i_ltT, i_ltF, i_eqT, i_eqF, i_okT, i_n1, i_n2, i_n3, i_n4, i_n5, i_n6, i_n7, i_n8, k_cl, if_true, if_false]
    rw [eq101, g5, tX9_ways_52]
    try simp only [k_lit, k_nN, k_ofN]
    rw [if_pos (by decide)]
  · by_cases e : k = 45
    · subst e; rw [g1.2.1]
    · exact g1.1.1 k j (by simp at hk; simp [e, hk]) (by simp)
theorem pcN_mono {S T : Nat} : ∀ n, (∀ b, b < n → S.testBit b = true → T.testBit b = true) → pcN n S ≤ pcN n T ∧ (pcN n S = pcN n T → ∀ b, b < n → S.testBit b = T.testBit b)
  | 0, _ => ⟨Nat.le_refl _, fun _ b hb => absurd hb (Nat.not_lt_zero b)⟩
  | n + 1, h => by
    obtain ⟨h1, h2⟩ := pcN_mono n (fun b hb => h b (by omega))
    unfold pcN
    have h3 := h n (by omega)
    cases hS : S.testBit n
    · cases hT : T.testBit n
      · refine ⟨by simpa using h1, fun e b hb => ?_⟩
        by_cases eb : b = n
        · rw [eb, hS, hT]
        · exact h2 (by simpa using e) b (by omega)
      · simp only [Bool.toNat_false, Bool.toNat_true]
        exact ⟨by omega, fun e => by omega⟩
    · have hT := h3 hS
      rw [hT]
      refine ⟨by simpa using h1, fun e b hb => ?_⟩
      by_cases eb : b = n
      · rw [eb, hS, hT]
      · exact h2 (by simpa using e) b (by omega)
theorem pc_8 {S : Nat} (h : S < 256) : pc S = pcN 8 S := by
  have e : ∀ b, 8 ≤ b → S.testBit b = false := fun b hb => set_hi (n := 8) h hb
  simp [pc, pcN, e 8, e 9, e 10, e 11]
theorem lvl_0 {cf : Nat → Nat → Bool} {ne T : Nat} {C : Nat → Nat} (hne : ne ≤ 8) : lvl cf ne T 0 C = C 0 := by
  unfold lvl
  have h8 : ∀ S, S < 2 ^ ne → S < 256 := fun S h => Nat.lt_of_lt_of_le h (Nat.pow_le_pow_right (n := 2) (by decide) hne)
  rw [sm_cg (g := fun S => if S = 0 then C 0 else 0) (fun S hS => ?_), sm_one (k := 0) (fun j hj => if_neg hj) (Nat.two_pow_pos ne), if_pos rfl]
  by_cases e : S = 0
  · subst e
    rw [if_pos ⟨by simp, by decide⟩, if_pos rfl, BF_0, Nat.one_mul]
  · rw [if_neg e, if_neg]
    rintro ⟨-, h2⟩
    apply e
    have := (pcN_mono (S := 0) (T := S) 8 (by simp)).2 (by rw [h2]; decide)
    apply Nat.eq_of_testBit_eq
    intro b
    rw [Nat.zero_testBit]
    by_cases hb : b < 8
    · rw [← this b hb, Nat.zero_testBit]
    · exact set_hi (n := 8) (h8 S hS) (by omega)
theorem lvl_T {cf : Nat → Nat → Bool} {ne T : Nat} {C : Nat → Nat} (hne : ne ≤ 8) (hT : T < 2 ^ ne) : lvl cf ne T (pcN 8 T) C = BF cf ne T * C T := by
  unfold lvl
  have h8 : ∀ S, S < 2 ^ ne → S < 256 := fun S h => Nat.lt_of_lt_of_le h (Nat.pow_le_pow_right (n := 2) (by decide) hne)
  rw [sm_cg (g := fun S => if S = T then BF cf ne T * C T else 0) (fun S hS => ?_), sm_one (k := T) (fun j hj => if_neg hj) hT, if_pos rfl]
  by_cases e : S = T
  · subst e
    rw [if_pos ⟨by simp, rfl⟩, if_pos rfl]
  · rw [if_neg e, if_neg]
    rintro ⟨h1, h2⟩
    apply e
    have := (pcN_mono (S := S) (T := T) 8 (fun b _ => (sub_iff S T).mp h1 b)).2 h2
    apply Nat.eq_of_testBit_eq
    intro b
    by_cases hb : b < 8
    · exact this b hb
    · rw [set_hi (n := 8) (h8 S hS) (by omega), set_hi (n := 8) (h8 T hT) (by omega)]
/-- without a book: the orders of a set -/
theorem cw_N {cf : Nat → Nat → Bool} {sh : Nat → Bool} {ne T bh : Nat} {t : Bool} (hne : ne ≤ 8) (hT : T < 2 ^ ne) : cw cf sh ne T false bh (pcN 8 T) 0 0 t = BF cf ne T := by
  have h8 := pcN_le T 8
  have irr : ∀ r d S t t', cw cf sh ne T false bh r d S t = cw cf sh ne T false bh r d S t' := by
    intro r d S t t'
    cases r <;> rfl
  have key : ∀ r d, d + r = pcN 8 T → lvl cf ne T d (fun S => cw cf sh ne T false bh r d S true) = BF cf ne T := by
    intro r
    induction r with
    | zero =>
      intro d hd
      rw [show d = pcN 8 T by omega, lvl_T hne hT]
      show BF cf ne T * 1 = _
      rw [Nat.mul_one]
    | succ r ih =>
      intro d hd
      rw [lvl_st (C := fun S => cw cf sh ne T false bh (r + 1) d S true) (D := fun S => cw cf sh ne T false bh r (d + 1) S true) hne (fun S _ _ _ => rfl)]
      exact ih (d + 1) (by omega)
  rw [irr _ _ _ t true, ← key (pcN 8 T) 0 (by omega), lvl_0 hne]
theorem cw_fc {cf : Nat → Nat → Bool} {sh : Nat → Bool} {ne T bh : Nat} (hT : ∀ k, k < ne → T.testBit k = true) : ∀ r d S t, bh < d → cw cf sh ne T true bh r d S t = t.toNat * fc cf ne r S
  | 0, d, S, t, h => by
    show (if true = true then (if d = bh then sh S else t) else true).toNat = _
    rw [if_pos rfl, if_neg (by omega)]
    simp [fc]
  | r + 1, d, S, t, h => by
    show sm _ ne = t.toNat * sm _ ne
    rw [← sm_mul]
    apply sm_cg
    intro k hk
    have ht : thv true bh sh d S t = t := by
      unfold thv
      rw [if_pos rfl, if_neg (by omega)]
    rw [hT k hk, ht]
    simp only [Bool.true_and]
    split
    · rw [cw_fc hT r (d + 1) _ _ (by omega)]
    · rw [Nat.mul_zero]
theorem cw_at {cf : Nat → Nat → Bool} {sh : Nat → Bool} {ne T bh : Nat} (hT : ∀ k, k < ne → T.testBit k = true) (r S : Nat) (t : Bool) : cw cf sh ne T true bh r bh S t = (sh S).toNat * fc cf ne r S := by
  have ht : thv true bh sh bh S t = sh S := by simp [thv]
  cases r with
  | zero =>
    show (thv true bh sh bh S t).toNat = _
    rw [ht]
    simp [fc]
  | succ r =>
    show sm _ ne = (sh S).toNat * sm _ ne
    rw [← sm_mul]
    apply sm_cg
    intro k hk
    rw [hT k hk, ht]
    simp only [Bool.true_and]
    split
    · rw [cw_fc hT r (bh + 1) _ _ (by omega)]
    · rw [Nat.mul_zero]
theorem all_bit {ne k : Nat} (h : k < ne) : (2 ^ ne - 1).testBit k = true := by
  rw [Nat.testBit_two_pow_sub_one]
  simp [h]
theorem cw_B {em pg : Nat → Int32} {x0 : Nat → Nat} {ne bh b : Nat} (hne : ne ≤ 8) (hbh : bh ≤ ne) : cw (cF em pg x0 ne) (fun S => (xg em x0 ne S 5).testBit b) ne (2 ^ ne - 1) true bh ne 0 0 false = sm (thX em pg x0 ne b bh) (2 ^ ne) := by
  have hT : ∀ k, k < ne → (2 ^ ne - 1).testBit k = true := fun k hk => all_bit hk
  have key : ∀ m d, d + m = bh → lvl (cF em pg x0 ne) ne (2 ^ ne - 1) d (fun S => cw (cF em pg x0 ne) (fun S => (xg em x0 ne S 5).testBit b) ne (2 ^ ne - 1) true bh (ne - d) d S false) = sm (thX em pg x0 ne b bh) (2 ^ ne) := by
    intro m
    induction m with
    | zero =>
      intro d hd
      have : d = bh := by omega
      subst this
      unfold lvl
      apply sm_cg
      intro S hS
      have h8 : S < 256 := Nat.lt_of_lt_of_le hS (Nat.pow_le_pow_right (n := 2) (by decide) hne)
      have hsub : S ^^^ (S &&& (2 ^ ne - 1)) = 0 := by
        rw [sub_iff]
        intro c hc
        by_cases e : c < ne
        · exact all_bit e
        · rw [set_hi hS (by omega)] at hc; cases hc
      dsimp only
      rw [cw_at hT]
      unfold thX
      rw [pc_8 h8]
      by_cases e1 : pcN 8 S = d
      · rw [if_pos ⟨hsub, e1⟩]
        cases e2 : (xg em x0 ne S 5).testBit b
        · simp
        · simp [e1]
      · rw [if_neg (fun h => e1 h.2), if_neg (fun h => e1 h.1)]
    | succ m ih =>
      intro d hd
      obtain ⟨r, hr⟩ : ∃ r, ne - d = r + 1 := ⟨ne - d - 1, by omega⟩
      rw [lvl_st (D := fun S => cw (cF em pg x0 ne) (fun S => (xg em x0 ne S 5).testBit b) ne (2 ^ ne - 1) true bh (ne - (d + 1)) (d + 1) S false) hne (fun S _ _ _ => ?_)]
      · exact ih (d + 1) (by omega)
      · rw [hr, show ne - (d + 1) = r by omega]
        show sm _ ne = _
        have ht : thv true bh (fun S => (xg em x0 ne S 5).testBit b) d S false = false := by
          unfold thv
          rw [if_pos rfl, if_neg (by omega)]
        rw [ht]
  rw [← key bh 0 (by omega), lvl_0 hne, Nat.sub_zero]
theorem ct_of {nb nr ne nm : Nat} {c : List (Nat × Nat)} {s : aMem} (hL : LibI nb nr c s) (hO : Own nb nr (s.1 23) (s.1 45)) (hne : ne ≤ 8) (kx : s.1 22 4 = nI ne) (hev : evs nb nr ne (s.1 25) (s.1 69)) : CtI nb nr ne (s.1 49) (s.1 69) (oset nb (s.1 45)) s := by
  obtain ⟨⟨hnb, hnr⟩, -, -, -, -, hpg, hfw, -, -⟩ := hL
  exact ⟨⟨hnb, hnr, hne⟩, kx, Own_s hnb hO, hfw, hpg, hev⟩
theorem mW_of {nb nr ne : Nat} {c : List (Nat × Nat)} {s s2 : aMem} (hL : LibI nb nr c s) (hne : ne ≤ 8) (km : s.1 43 53 = nI ne) (hev : evs nb nr ne (s.1 25) (s.1 69)) (h2 : fw s s2) : WB nb nr ne (s.1 49) (s.1 69) (a_si s2 43 0 (nI 0)) ∧ (a_si s2 43 0 (nI 0)).1 45 = s.1 45 := by
  obtain ⟨⟨hnb, hnr⟩, ⟨b1, b2⟩, ⟨r1, r2⟩, -⟩ := hL
  refine ⟨⟨⟨hnb, hnr, hne⟩, ?_, ?_, ?_, ?_, ?_, s.1 25, hev⟩, ?_⟩
  · simp [m_si, scB h2 43 1 rfl rfl, b2]
  · simp [m_si, scB h2 43 2 rfl rfl, r2]
  · simp [m_si, scB h2 43 53 rfl rfl, km]
  · rw [z_ne (by decide), scA h2 49 rfl rfl]
  · rw [z_ne (by decide), scA h2 69 rfl rfl]
  · rw [z_ne (by decide), scA h2 45 rfl rfl]
theorem op_orders {s : aMem} (hI : Inv s) : agn (fX8_orders [.ref 0]) (fX9_orders [.ref 43]) s := by
  obtain ⟨nb, nr, c, hL, hN, hG, hR, hT, hC⟩ := id hI
  obtain ⟨hO, nm, ne, hm, he, cx, cm, kx, km, hmv, hh, hev⟩ := id hN
  have h2n : 2 ^ ne ≤ 256 := Nat.pow_le_pow_right (n := 2) (by decide) he
  have h2p : 1 ≤ 2 ^ ne := Nat.one_le_two_pow
  obtain ⟨u, hu, fu⟩ := sX0_ordersOfAll (ct_of (nm := nm) hL hO he kx hev)
  refine agn_q (r := nI (BF (cF (s.1 69) (s.1 49) (oset nb (s.1 45)) ne) ne (2 ^ ne - 1))) (s1 := u) hI ?_ (fr_mono fu (by decide) (by simp)) (fun s2 h2 => ?_)
  · rw [tX8_orders, hu, b_bi]
  · obtain ⟨wb, e45⟩ := mW_of hL he km hev h2
    obtain ⟨w, hw, fw1⟩ := sX9_ways (T := 2 ^ ne - 1) (one := 0) (bh := 0) (b := 0) (bo := false) (v3 := nN) wb (.inr ⟨rfl, rfl⟩) (by omega) (fun _ => rfl) (by omega) (by omega)
    refine ⟨w, ?_, fr_trans (fr_si (fr_rfl s2) (k := 43) (j := 0) (x := nI 0) (.inr (by decide))) (fr_mono fw1 (by decide) (by simp))⟩
    rw [e45, cw_N he (by omega)] at hw
    rw [tX9_orders]
    try simp only [k_lit, k_nN, k_ofN]
    rw [scB h2 43 53 rfl rfl, km, k_one (by omega), pk_sub h2p, hw, b_bi]
    show some (Sum.inl (some (Value.int (nI (0 + _)))), w) = _
    rw [Nat.zero_add]
theorem op_there {s : aMem} (hI : Inv s) (v w : Int32) : agr (fX8_there [.ref 0, .int v, .int w]) (fX9_there [.ref 43, .int v, .int w]) (fun x => x + 1) s := by
  obtain ⟨nb, nr, c, hL, hN, hG, hR, hT, hC⟩ := id hI
  obtain ⟨⟨hnb, hnr⟩, ⟨b1, b2⟩, ⟨r1, r2⟩, -⟩ := id hL
  obtain ⟨hO, nm, ne, hm, he, cx, cm, kx, km, hmv, hh, hev⟩ := id hN
  have h2n : 2 ^ ne ≤ 256 := Nat.pow_le_pow_right (n := 2) (by decide) he
  have h2p : 1 ≤ 2 ^ ne := Nat.one_le_two_pow
  by_cases hv : vb nb v
  · obtain ⟨b, hb, rfl⟩ := hv
    have hM : ∀ s2 : aMem, fw s s2 → fX9_there [.ref 43, .int (nI b), .int w] s2 = a_run none shp pX9_there 15 [some (.ref 43), some (.int (nI b)), some (.int w)] [.int (nI 1)] (a_si s2 43 0 (nI 0)) := by
      intro s2 h2
      rw [tX9_there]
      try simp only [k_lit, k_nN, k_ofN]
      rw [sX9_isBookT (nb := nb) (by simp [m_si, scB h2 43 1 rfl rfl, b2]) hnb hb, b_bi, tX9_there_11]
      try simp only [k_lit, k_nN, k_ofN]
      rw [sX9_rightT (by simp [m_si]), b_bi]
    by_cases hw : vb (ne + 1) w
    · obtain ⟨mn, hmn, rfl⟩ := hw
      obtain ⟨u, hu, fu⟩ := sX0_ordersWith (b := b) (mn := mn) (ct_of (nm := nm) hL hO he kx hev) (by omega) (by omega)
      refine agr_q (r := nI (sm (thX (s.1 69) (s.1 49) (oset nb (s.1 45)) ne b mn) (2 ^ ne))) (s1 := u) hI ?_ (fr_mono fu (by decide) (by simp)) (fun s2 h2 => ?_)
      · rw [tX8_there, sX8_needBookT b1 hnb hb, b_bv, tX8_there_5]
        try simp only [k_lit, k_nN, k_ofN]
        rw [kx]
        simp (disch := omega) only [i_leT, i_leF, i_ltT, i_ltF, i_eqT, i_eqF, i_okT, i_n1, i_n2, i_n3, i_n4, i_n5, i_n6, i_n7, i_n8, k_cl, if_true, if_false]
        rw [hu, b_bi]
      · obtain ⟨wb, e45⟩ := mW_of hL he km hev h2
        obtain ⟨t, ht, ft⟩ := sX9_ways (T := 2 ^ ne - 1) (one := 0) (bh := mn) (b := b) (bo := true) (v3 := nI b) wb (.inl ⟨rfl, rfl, hb, by rw [pcN_all he]; omega⟩) (by omega) (fun h => absurd h (by omega)) (by omega) (by omega)
        rw [e45, pcN_all he, cw_B he (by omega)] at ht
        refine ⟨t, ?_, ?_, fr_trans (fr_si (fr_rfl s2) (k := 43) (j := 0) (x := nI 0) (.inr (by decide))) (fr_mono ft (by decide) (by simp))⟩
        · rw [hM s2 h2, tX9_there_15, wb.2.2.2.1]
          try simp only [k_lit, k_nN, k_ofN]
          simp (disch := omega) only [i_leT, i_leF, i_ltT, i_ltF, i_eqT, i_eqF, i_okT, i_n1, i_n2, i_n3, i_n4, i_n5, i_n6, i_n7, i_n8, k_cl, if_true, if_false]
          rw [sX9_withinT (n := ne) (by omega) (by omega), b_bi, tX9_there_28]
          try simp only [k_lit, k_nN, k_ofN]
          rw [sX9_rightT (by simp [m_si]), b_bi, tX9_there_32, wb.2.2.2.1]
          try simp only [k_lit, k_nN, k_ofN]
          simp (disch := omega) only [i_leT, i_leF, i_ltT, i_ltF, i_eqT, i_eqF, i_okT, i_n1, i_n2, i_n3, i_n4, i_n5, i_n6, i_n7, i_n8, k_cl, if_true, if_false]
          rw [k_one (by omega), pk_sub h2p, ht, b_bi]
          show some (Sum.inl (some (Value.int (nI (0 + _)))), t) = _
          rw [Nat.zero_add]
        · rw [ft.1 43 0 (by decide) (by simp)]
          simp [m_si]
    · refine agr_x (x := 1) (s1 := s) hI ?_ (fr_rfl s) (by omega) (fun s2 h2 => ⟨nI 0, a_si (a_si s2 43 0 (nI 0)) 43 0 (nI 2), ?_, by simp [m_si], fr_si (fr_si (fr_rfl s2) (.inr (by decide))) (.inr (by decide))⟩)
      · rw [tX8_there, sX8_needBookT b1 hnb hb, b_bv, tX8_there_5]
        try simp only [k_lit, k_nN, k_ofN]
        rw [kx]
        rcases vb_no (by omega) hw with h1 | ⟨h1, h3⟩
        · rw [if_pos h1]
        · rw [if_neg h1, if_neg]
          intro h4
          exact absurd (Int32.le_trans h3 h4) (nI_ge (by omega) (by omega))
      · rw [hM s2 h2, tX9_there_15, (mW_of hL he km hev h2).1.2.2.2.1]
        try simp only [k_lit, k_nN, k_ofN]
        simp (disch := omega) only [i_leT, i_leF, i_ltT, i_ltF, i_eqT, i_eqF, i_okT, i_n1, i_n2, i_n3, i_n4, i_n5, i_n6, i_n7, i_n8, k_cl, if_true, if_false]
        rw [sX9_withinF (n := ne) (by omega) hw, b_bi, tX9_there_28]
        try simp only [k_lit, k_nN, k_ofN]
        rw [sX9_rightF (by simp [m_si]) (by omega) (by omega), b_bi, tX9_there_32]
        try simp only [k_lit, k_nN, k_ofN]
        simp (disch := omega) only [i_leT, i_leF, i_ltT, i_ltF, i_eqT, i_eqF, i_okT, i_n1, i_n2, i_n3, i_n4, i_n5, i_n6, i_n7, i_n8, k_cl, if_true, if_false]
  · refine agr_x (x := 0) (s1 := s) hI ?_ (fr_rfl s) (by omega) (fun s2 h2 => ⟨nI 0, a_si (a_si s2 43 0 (nI 0)) 43 0 (nI 1), ?_, by simp [m_si], fr_si (fr_si (fr_rfl s2) (.inr (by decide))) (.inr (by decide))⟩)
    · rw [tX8_there, sX8_needBookF b1 hnb hv, b_bvx]
    · rw [tX9_there]
      try simp only [k_lit, k_nN, k_ofN]
      rw [sX9_isBookF (nb := nb) (by simp [m_si, scB h2 43 1 rfl rfl, b2]) hnb hv, b_bi, tX9_there_11]
      try simp only [k_lit, k_nN, k_ofN]
      rw [sX9_rightF (by simp [m_si]) (by omega) (by omega), b_bi, tX9_there_15]
      try simp only [k_lit, k_nN, k_ofN]
      simp (disch := omega) only [i_leT, i_leF, i_ltT, i_ltF, i_eqT, i_eqF, i_okT, i_n1, i_n2, i_n3, i_n4, i_n5, i_n6, i_n7, i_n8, k_cl, if_true, if_false]
theorem op_knot {s : aMem} (hI : Inv s) : agn (fX8_knot [.ref 0]) (fX9_knot [.ref 43]) s := by
  obtain ⟨nb, nr, c, hL, hN, hG, hR, hT, hC⟩ := id hI
  obtain ⟨hO, nm, ne, hm, he, cx, cm, kx, km, hmv, hh, hev⟩ := id hN
  have h2n : 2 ^ ne ≤ 256 := Nat.pow_le_pow_right (n := 2) (by decide) he
  have h2p : 1 ≤ 2 ^ ne := Nat.one_le_two_pow
  obtain ⟨u, hu, fu⟩ := sX0_smallestKnot (ct_of (nm := nm) hL hO he kx hev)
  refine agn_q (r := oI (kfd (fun S => decide (BF (cF (s.1 69) (s.1 49) (oset nb (s.1 45)) ne) ne S = 0)) (2 ^ ne) 0 none)) (s1 := u) hI ?_ (fr_mono fu (by decide) (by simp)) (fun s2 h2 => ?_)
  · rw [tX8_knot, hu, b_bi]
  · obtain ⟨wb, e45⟩ := mW_of hL he km hev h2
    have one : ∀ S t, S < 2 ^ ne → fr [70] [] (a_si s2 43 0 (nI 0)) t → ∃ w, fX9_ways [.ref 43, .int (nI S), .int (nI 1), .int nN, .int (nI 0)] t = some (.inl (some (.int (nI (if BF (cF (s.1 69) (s.1 49) (oset nb (s.1 45)) ne) ne S = 0 then 0 else 1)))), w) ∧ fr [70] [] (a_si s2 43 0 (nI 0)) w := by
      intro S t hS f
      have wbt := WB_fr wb (fr_mono f (by simp) (by simp))
      obtain ⟨w, hw, fw1⟩ := sX9_ways (T := S) (one := 1) (bh := 0) (b := 0) (bo := false) (v3 := nN) wbt (.inr ⟨rfl, rfl⟩) (by omega) (fun _ => rfl) (by omega) (by omega)
      have t45 : t.1 45 = s.1 45 := by
        rw [← e45]
        funext j
        exact f.1 45 j (by decide) (by simp)
      rw [t45, cw_N he hS] at hw
      refine ⟨w, ?_, fr_trans f fw1⟩
      rw [hw]
      unfold fin
      rw [if_neg (by omega)]
      by_cases e : BF (cF (s.1 69) (s.1 49) (oset nb (s.1 45)) ne) ne S = 0
      · simp [e]
      · rw [if_pos ⟨rfl, by omega⟩, if_neg e]
    have key : ∀ m S o t, S + m = 2 ^ ne → kgd o → fr [70] [] (a_si s2 43 0 (nI 0)) t → ∃ w, a_run none shp pX9_knot 9 [some (.ref 43), some (.int (oI o)), some (.int (nI S))] [] t = some (.inl (some (.int (oI (kfd (fun S => decide (BF (cF (s.1 69) (s.1 49) (oset nb (s.1 45)) ne) ne S = 0)) m S o)))), w) ∧ fr [70] [] (a_si s2 43 0 (nI 0)) w := by
      intro m
      induction m with
      | zero =>
        intro S o t hS ho f
        refine ⟨t, ?_, f⟩
        rw [tX9_knot_9, f.1 43 53 (by decide) (by simp), wb.2.2.2.1]
        try simp only [k_lit, k_nN, k_ofN]
        rw [k_one (by omega)]
        simp (disch := omega) only [i_leT, i_leF, i_ltT, i_ltF, i_eqT, i_eqF, i_okT, i_n1, i_n2, i_n3, i_n4, i_n5, i_n6, i_n7, i_n8, k_cl, if_true, if_false]
        rfl
      | succ m ih =>
        intro S o t hS ho f
        obtain ⟨w, hw, fw1⟩ := one S t (by omega) f
        have ih2 := fun t f => ih (S + 1) (kst (fun S => decide (BF (cF (s.1 69) (s.1 49) (oset nb (s.1 45)) ne) ne S = 0)) S o) t (by omega) (kst_gd (by omega) ho) f
        rw [show kfd (fun S => decide (BF (cF (s.1 69) (s.1 49) (oset nb (s.1 45)) ne) ne S = 0)) (m + 1) S o = kfd (fun S => decide (BF (cF (s.1 69) (s.1 49) (oset nb (s.1 45)) ne) ne S = 0)) m (S + 1) (kst (fun S => decide (BF (cF (s.1 69) (s.1 49) (oset nb (s.1 45)) ne) ne S = 0)) S o) from rfl, tX9_knot_9, f.1 43 53 (by decide) (by simp), wb.2.2.2.1]
        try simp only [k_lit, k_nN, k_ofN]
        rw [k_one (by omega), i_leF (by omega) (by omega)]
        cases o with
        | none =>
          rw [show oI none = nN from rfl]
          simp (disch := omega) only [i_leT, i_leF, i_ltT, i_ltF, i_eqT, i_eqF, i_okT, i_n1, i_n2, i_n3, i_n4, i_n5, i_n6, i_n7, i_n8, k_cl, if_true, if_false]
          rw [hw, b_bi, tX9_knot_43]
          try simp only [k_lit, k_nN, k_ofN, nI_add]
          by_cases e : BF (cF (s.1 69) (s.1 49) (oset nb (s.1 45)) ne) ne S = 0
          · rw [if_pos e]
            simp (disch := omega) only [i_leT, i_leF, i_ltT, i_ltF, i_eqT, i_eqF, i_okT, i_n1, i_n2, i_n3, i_n4, i_n5, i_n6, i_n7, i_n8, k_cl, if_true, if_false]
            have ek : kst (fun S => decide (BF (cF (s.1 69) (s.1 49) (oset nb (s.1 45)) ne) ne S = 0)) S none = some S := by simp [kst, e]
            have := ih2 w fw1
            rw [ek] at this ⊢
            exact this
          · rw [if_neg e]
            simp (disch := omega) only [i_leT, i_leF, i_ltT, i_ltF, i_eqT, i_eqF, i_okT, i_n1, i_n2, i_n3, i_n4, i_n5, i_n6, i_n7, i_n8, k_cl, if_true, if_false]
            have ek : kst (fun S => decide (BF (cF (s.1 69) (s.1 49) (oset nb (s.1 45)) ne) ne S = 0)) S none = none := by simp [kst, e]
            have := ih2 w fw1
            rw [ek] at this ⊢
            exact this
        | some q =>
          have hq : q < 256 := ho
          have p1 := pc_le S
          have p2 := pc_le q
          rw [show oI (some q) = nI q from rfl]
          simp (disch := omega) only [i_leT, i_leF, i_ltT, i_ltF, i_eqT, i_eqF, i_okT, i_n1, i_n2, i_n3, i_n4, i_n5, i_n6, i_n7, i_n8, k_cl, if_true, if_false]
          rw [sX9_bits (by omega), b_bi, tX9_knot_28, sX9_bits (by omega), b_bi, tX9_knot_32]
          try simp only [k_lit, k_nN, k_ofN, nI_add]
          by_cases e2 : pc S < pc q
          · simp (disch := omega) only [i_leT, i_leF, i_ltT, i_ltF, i_eqT, i_eqF, i_okT, i_n1, i_n2, i_n3, i_n4, i_n5, i_n6, i_n7, i_n8, k_cl, if_true, if_false]
            rw [hw, b_bi, tX9_knot_43]
            try simp only [k_lit, k_nN, k_ofN, nI_add]
            by_cases e : BF (cF (s.1 69) (s.1 49) (oset nb (s.1 45)) ne) ne S = 0
            · rw [if_pos e]
              simp (disch := omega) only [i_leT, i_leF, i_ltT, i_ltF, i_eqT, i_eqF, i_okT, i_n1, i_n2, i_n3, i_n4, i_n5, i_n6, i_n7, i_n8, k_cl, if_true, if_false]
              have ek : kst (fun S => decide (BF (cF (s.1 69) (s.1 49) (oset nb (s.1 45)) ne) ne S = 0)) S (some q) = some S := by simp [kst, e, e2]
              have := ih2 w fw1
              rw [ek] at this ⊢
              exact this
            · rw [if_neg e]
              simp (disch := omega) only [i_leT, i_leF, i_ltT, i_ltF, i_eqT, i_eqF, i_okT, i_n1, i_n2, i_n3, i_n4, i_n5, i_n6, i_n7, i_n8, k_cl, if_true, if_false]
              have ek : kst (fun S => decide (BF (cF (s.1 69) (s.1 49) (oset nb (s.1 45)) ne) ne S = 0)) S (some q) = some q := by simp [kst, e]
              have := ih2 w fw1
              rw [ek] at this ⊢
              exact this
          · simp (disch := omega) only [i_leT, i_leF, i_ltT, i_ltF, i_eqT, i_eqF, i_okT, i_n1, i_n2, i_n3, i_n4, i_n5, i_n6, i_n7, i_n8, k_cl, if_true, if_false]
            have := ih2 t f
            have ek : kst (fun S => decide (BF (cF (s.1 69) (s.1 49) (oset nb (s.1 45)) ne) ne S = 0)) S (some q) = some q := by
              unfold kst
              split
              · simp only [e2, if_false]
              · rfl
            rw [ek] at this
            rw [ek]
            exact this
    obtain ⟨w, hw, fw1⟩ := key (2 ^ ne) 0 none _ (by omega) trivial (fr_rfl _)
    refine ⟨w, ?_, fr_trans (fr_si (fr_rfl s2) (k := 43) (j := 0) (x := nI 0) (.inr (by decide))) (fr_mono fw1 (by decide) (by simp))⟩
    rw [tX9_knot]
    try simp only [k_lit, k_nN, k_ofN]
    exact hw
