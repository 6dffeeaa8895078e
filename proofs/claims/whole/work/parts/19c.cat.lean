/-! ===== the catalogue of the class ===== -/
/-- what the catalogue rests on -/
def CtI (nb nr ne : Nat) (pg em : Nat → Int32) (x0 : Nat → Nat) (s : aMem) : Prop := (nb ≤ 12 ∧ nr ≤ 5 ∧ ne ≤ 8) ∧ s.1 22 4 = nI ne ∧ sOk (s.1 23) x0 ∧ fwOk nb (s.1 20) (s.1 19) ∧ (∀ b, b < nb → s.1 19 b = pg b) ∧ evs nb nr ne (s.1 25) em
theorem CtI_fr {nb nr ne : Nat} {pg em : Nat → Int32} {x0 : Nat → Nat} {s t : aMem} {K : List Nat} (h : CtI nb nr ne pg em x0 s) (f : fr K [] s t) (hK : K.all (fun k => k == 39 || k == 40 || k == 41) = true) : CtI nb nr ne pg em x0 t := by
  have A : ∀ k, k ≠ 39 → k ≠ 40 → k ≠ 41 → t.1 k = s.1 k := by
    intro k h1 h2 h3
    funext j
    refine f.1 k j (fun c => ?_) (by simp)
    have := List.all_eq_true.mp hK k c
    simp [h1, h2, h3] at this
  unfold CtI at h ⊢
  rw [A 22 (by decide) (by decide) (by decide), A 23 (by decide) (by decide) (by decide), A 20 (by decide) (by decide) (by decide), A 19 (by decide) (by decide) (by decide), A 25 (by decide) (by decide) (by decide)]
  exact h
theorem trx_cg {x : Nat → Nat} {pg pg' : Nat → Int32} {r l t : Nat} (h1 : pg l = pg' l) (h2 : pg t = pg' t) : trx x pg r l t = trx x pg' r l t := by
  unfold trx
  rw [h1, h2]
theorem sX0_goTo {nb nr ne S : Nat} {pg em : Nat → Int32} {x0 : Nat → Nat} {s : aMem} (h : CtI nb nr ne pg em x0 s) (hS : S < 256) : ∃ u, fX0_goTo [.ref 38, .int (nI S)] s = some (.inl none, u) ∧ fr [39] [] s u ∧ sOk (u.1 39) (xg em x0 ne S) := by
  obtain ⟨⟨hnb, hnr, hne⟩, h22, h23, -, -, hev⟩ := id h
  have key : ∀ m k t, k + m = ne → fr [39] [] s t → sOk (t.1 39) (fun r => x0 r ^^^ xs em S k r) → ∃ u, a_run none shp pX0_goTo 20 [some (.ref 38), some (.int (nI S)), some (.int (nI k)), none] [] t = some (.inl none, u) ∧ fr [39] [] s u ∧ sOk (u.1 39) (xg em x0 ne S) := by
    intro m
    induction m with
    | zero =>
      intro k t hk f hs
      refine ⟨t, ?_, f, ?_⟩
      · rw [tX0_goTo_20, f.1 22 4 (by decide) (by simp), h22]
        try simp only [k_lit, k_nN, k_ofN]
        simp (disch := omega) only [i_leT, i_leF, i_ltT, i_ltF, i_eqT, i_eqF, i_okT, i_n1, i_n2, i_n3, i_n4, i_n5, i_n6, i_n7, i_n8, k_cl, if_true, if_false]
      · rw [show k = ne by omega] at hs
        exact hs
    | succ m ih =>
      intro k t hk f hs
      obtain ⟨q1, q2, q3, q4, q5, q6, q7, q8⟩ := ev_ok hev hnb hnr (show k < ne by omega)
      rw [tX0_goTo_20, f.1 22 4 (by decide) (by simp), h22]
      try simp only [k_lit, k_nN, k_ofN, pk_mul, nI_add]
      cases e : S.testBit k
      · simp (disch := omega) only [i_leT, i_leF, i_ltT, i_ltF, i_eqT, i_eqF, i_okT, i_n1, i_n2, i_n3, i_n4, i_n5, i_n6, i_n7, i_n8, k_cl, if_true, if_false]
        rw [ib0T e (by omega) (by omega), tX0_goTo_82]
        try simp only [k_lit, k_nN, k_ofN, nI_add]
        refine ih (k + 1) t (by omega) f ?_
        have : (fun r => x0 r ^^^ xs em S (k + 1) r) = fun r => x0 r ^^^ xs em S k r := by
          funext r
          simp [xs, e]
        rw [this]
        exact hs
      · simp (disch := omega) only [i_leT, i_leF, i_ltT, i_ltF, i_eqT, i_eqF, i_okT, i_n1, i_n2, i_n3, i_n4, i_n5, i_n6, i_n7, i_n8, k_cl, if_true, if_false]
        rw [ib0F e (by omega) (by omega)]
        rw [f.1 25 _ (by decide) (by simp), f.1 25 _ (by decide) (by simp), f.1 25 _ (by decide) (by simp), q5, q6, q7]
        obtain ⟨u, hu, fu, xu⟩ := sX8_trade39 hs (r := er em k) (p := 5) (l := el em k) (t := et em k) (by omega) (by omega) (by omega) (by omega) (by omega)
        rw [hu, b_bv, tX0_goTo_82]
        try simp only [k_lit, k_nN, k_ofN, nI_add]
        refine ih (k + 1) u (by omega) (fr_trans f fu) ?_
        have : (fun r => x0 r ^^^ xs em S (k + 1) r) = xtr (fun r => x0 r ^^^ xs em S k r) (er em k) 5 (el em k) (et em k) := by
          funext r
          rw [xtr_m]
          simp [xs, e, Nat.xor_assoc]
        rw [this]
        exact xu
  obtain ⟨t, et1, f, v⟩ := p_acp (s := s) (a := 23) (b := 39) (n := 6) rfl rfl (by omega) (by omega) (by omega)
  rw [tX0_goTo]
  try simp only [k_lit, k_nN, k_ofN]
  rw [et1, b_bv, tX0_goTo_18]
  try simp only [k_lit, k_nN, k_ofN]
  refine key ne 0 t (by omega) f (fun r hr => ?_)
  rw [v r, if_pos hr]
  simp only [xs, Nat.xor_zero]
  exact h23 r hr
theorem sX0_canFollow {nb nr ne S k : Nat} {pg em : Nat → Int32} {x0 : Nat → Nat} {s : aMem} (h : CtI nb nr ne pg em x0 s) (hx : sOk (s.1 39) (xg em x0 ne S)) (hS : S < 256) (hk : k < ne) : fX0_canFollow [.ref 38, .int (nI S), .int (nI k)] s = some (.inl (some (.int (nI (!S.testBit k && cF em pg x0 ne S k).toNat))), s) := by
  obtain ⟨⟨hnb, hnr, hne⟩, h22, h23, hfw, hpg, hev⟩ := id h
  obtain ⟨q1, q2, q3, q4, q5, q6, q7, q8⟩ := ev_ok hev hnb hnr hk
  rw [tX0_canFollow]
  try simp only [k_lit, k_nN, k_ofN, pk_mul, nI_add]
  cases e : S.testBit k
  · rw [ib0T e (by omega) (by omega)]
    simp (disch := omega) only [i_leT, i_leF, i_ltT, i_ltF, i_eqT, i_eqF, i_okT, i_n1, i_n2, i_n3, i_n4, i_n5, i_n6, i_n7, i_n8, k_cl, if_true, if_false]
    rw [q5, q6, q7, sX6_troubleOf39 hnb hx hfw (by omega) q2 q3, b_bi, trx_cg (hpg _ q2) (hpg _ q3)]
    unfold cF
    have hle : trx (xg em x0 ne S) pg (er em k) (el em k) (et em k) ≤ 4 := by
      unfold trx
      split
      · omega
      · split
        · omega
        · split <;> omega
    by_cases e2 : trx (xg em x0 ne S) pg (er em k) (el em k) (et em k) = 0
    · rw [e2]
      simp (disch := omega) only [i_leT, i_leF, i_ltT, i_ltF, i_eqT, i_eqF, i_okT, i_n1, i_n2, i_n3, i_n4, i_n5, i_n6, i_n7, i_n8, k_cl, if_true, if_false]
      simp
    · simp (disch := omega) only [i_leT, i_leF, i_ltT, i_ltF, i_eqT, i_eqF, i_okT, i_n1, i_n2, i_n3, i_n4, i_n5, i_n6, i_n7, i_n8, k_cl, if_true, if_false]
      simp [e2]
  · rw [ib0F e (by omega) (by omega)]
    simp
/-- the table of orders, the sets below n done -/
def tA (cf : Nat → Nat → Bool) (ne n T : Nat) : Nat := if T = 0 then 1 else sm (fun k => if (T.testBit k && decide (T ^^^ 2 ^ k < n) && cf (T ^^^ 2 ^ k) k) = true then BF cf ne (T ^^^ 2 ^ k) else 0) ne
theorem tA_done {cf : Nat → Nat → Bool} {ne n T : Nat} (hT : T < 256) (h : T ≤ n) : tA cf ne n T = BF cf ne T := by
  unfold tA
  by_cases e : T = 0
  · rw [if_pos e, e, BF_0]
  · rw [if_neg e, BF_st hT e]
    apply sm_cg
    intro k _
    cases h1 : T.testBit k
    · simp
    · have := xr_lt h1
      have h2 : T ^^^ 2 ^ k < n := by omega
      simp [h2]
/-- what one set gives -/
def tG (cf : Nat → Nat → Bool) (ne S T : Nat) (e : Nat) : Nat := sm (fun k => if (!S.testBit k && cf S k && decide (T = S ||| 2 ^ k)) = true then BF cf ne S else 0) e
theorem tA_st {cf : Nat → Nat → Bool} {ne n T : Nat} : tA cf ne (n + 1) T = tA cf ne n T + tG cf ne n T ne := by
  unfold tA tG
  by_cases e : T = 0
  · rw [if_pos e, if_pos e, sm_0 (fun k hk => ?_)]
    rw [if_neg]
    intro h
    simp only [Bool.and_eq_true, decide_eq_true_eq] at h
    have h2 := h.2
    have h3 := congrArg (Nat.testBit · k) h2
    simp only [e, Nat.zero_testBit, Nat.testBit_or, pow_bit] at h3
    simp at h3
  · rw [if_neg e, if_neg e, ← sm_add]
    apply sm_cg
    intro k hk
    cases h1 : T.testBit k
    · have h2 : ¬ T = n ||| 2 ^ k := by
        intro c
        rw [c, Nat.testBit_or, pow_bit] at h1
        simp at h1
      simp [h2]
    · by_cases h3 : T ^^^ 2 ^ k = n
      · have hn : n.testBit k = false := by rw [← h3, xor_self_bit, h1]; rfl
        have h4 : T = n ||| 2 ^ k := by rw [or_xor hn, ← h3, xor_xor]
        rw [decide_eq_true h4, h3, hn]
        simp
      · have h4 : ¬ (n.testBit k = false ∧ T = n ||| 2 ^ k) := by
          rintro ⟨c1, c2⟩
          apply h3
          rw [c2, or_xor c1, xor_xor]
        have h5 : (!n.testBit k && cf n k && decide (T = n ||| 2 ^ k)) = false := by
          apply Bool.eq_false_iff.mpr
          intro c
          simp only [Bool.and_eq_true, decide_eq_true_eq, Bool.not_eq_true'] at c
          exact h4 ⟨c.1.1, c.2⟩
        rw [h5]
        have h6 : (decide (T ^^^ 2 ^ k < n + 1)) = decide (T ^^^ 2 ^ k < n) := by
          apply decide_eq_decide.mpr
          omega
        rw [h6]
        simp
theorem tG_st (cf : Nat → Nat → Bool) (ne S T e : Nat) : tG cf ne S T (e + 1) = tG cf ne S T e + (if (!S.testBit e && cf S e && decide (T = S ||| 2 ^ e)) = true then BF cf ne S else 0) := rfl
theorem tG_self {cf : Nat → Nat → Bool} {ne S e : Nat} : tG cf ne S S e = 0 := by
  unfold tG
  apply sm_0
  intro k _
  rw [if_neg]
  intro c
  simp only [Bool.and_eq_true, decide_eq_true_eq, Bool.not_eq_true'] at c
  have := c.1.1
  rw [c.2, Nat.testBit_or, pow_bit] at this
  simp at this
theorem sX0_reckonBefore {nb nr ne : Nat} {pg em : Nat → Int32} {x0 : Nat → Nat} {s : aMem} (h : CtI nb nr ne pg em x0 s) : ∃ u, fX0_reckonBefore [.ref 38, .int (nI (2 ^ ne - 1))] s = some (.inl none, u) ∧ fr [39, 40] [] s u ∧ ∀ S, S < 2 ^ ne → u.1 40 S = nI (BF (cF em pg x0 ne) ne S) := by
  obtain ⟨⟨hnb, hnr, hne⟩, h22, h23, -, -, hev⟩ := id h
  have h2n : 2 ^ ne ≤ 256 := Nat.pow_le_pow_right (n := 2) (by decide) hne
  have h2p : 1 ≤ 2 ^ ne := Nat.one_le_two_pow
  have inner : ∀ S, S < 2 ^ ne → ∀ m e t, e + m = ne → fr [39, 40] [] s t → sOk (t.1 39) (xg em x0 ne S) → (∀ T, T < 2 ^ ne → t.1 40 T = nI (tA (cF em pg x0 ne) ne S T + tG (cF em pg x0 ne) ne S T e)) → ∃ u, a_run none shp pX0_reckonBefore 38 [some (.ref 38), some (.int (nI (2 ^ ne - 1))), some (.int (nI S)), some (.int (nI e))] [] t = a_run none shp pX0_reckonBefore 17 [some (.ref 38), some (.int (nI (2 ^ ne - 1))), some (.int (nI (S + 1))), none] [] u ∧ fr [39, 40] [] s u ∧ ∀ T, T < 2 ^ ne → u.1 40 T = nI (tA (cF em pg x0 ne) ne (S + 1) T) := by
    intro S hS m
    induction m with
    | zero =>
      intro e t he f hx hv
      refine ⟨t, ?_, f, fun T hT => ?_⟩
      · rw [tX0_reckonBefore_38, f.1 22 4 (by decide) (by simp), h22]
        try simp only [k_lit, k_nN, k_ofN, nI_add]
        simp (disch := omega) only [i_leT, i_leF, i_ltT, i_ltF, i_eqT, i_eqF, i_okT, i_n1, i_n2, i_n3, i_n4, i_n5, i_n6, i_n7, i_n8, k_cl, if_true, if_false]
      · rw [tA_st, hv T hT, show e = ne by omega]
    | succ m ih =>
      intro e t he f hx hv
      rw [tX0_reckonBefore_38, f.1 22 4 (by decide) (by simp), h22]
      try simp only [k_lit, k_nN, k_ofN]
      simp (disch := omega) only [i_leT, i_leF, i_ltT, i_ltF, i_eqT, i_eqF, i_okT, i_n1, i_n2, i_n3, i_n4, i_n5, i_n6, i_n7, i_n8, k_cl, if_true, if_false]
      rw [sX0_canFollow (CtI_fr h f rfl) hx (by omega) (by omega), b_bi, tX0_reckonBefore_55]
      try simp only [k_lit, k_nN, k_ofN, nI_add]
      cases e1 : (!S.testBit e && cF em pg x0 ne S e)
      · simp only [Bool.toNat_false]
        simp (disch := omega) only [i_leT, i_leF, i_ltT, i_ltF, i_eqT, i_eqF, i_okT, i_n1, i_n2, i_n3, i_n4, i_n5, i_n6, i_n7, i_n8, k_cl, if_true, if_false]
        refine ih (e + 1) t (by omega) f hx (fun T hT => ?_)
        rw [hv T hT, tG_st, e1]
        simp
      · simp only [Bool.toNat_true]
        rw [Bool.and_eq_true, Bool.not_eq_true'] at e1
        have hor := lt_or hS (show e < ne by omega)
        rw [k_one (by omega), k_or]
        simp (disch := omega) only [i_leT, i_leF, i_ltT, i_ltF, i_eqT, i_eqF, i_okT, i_n1, i_n2, i_n3, i_n4, i_n5, i_n6, i_n7, i_n8, k_cl, if_true, if_false]
        have hSv : t.1 40 S = nI (BF (cF em pg x0 ne) ne S) := by
          rw [hv S hS, tG_self, Nat.add_zero, tA_done (by omega) (Nat.le_refl _)]
        rw [hv _ hor, hSv, nI_add]
        have hne1 : S ≠ S ||| 2 ^ e := by
          intro c
          have := e1.1
          rw [c, Nat.testBit_or, pow_bit] at this
          simp at this
        refine ih (e + 1) _ (by omega) (fr_si f (by simp)) ?_ (fun T hT => ?_)
        · intro r hr
          have := hx r hr
          simpa [m_si] using this
        · simp only [m_si, if_true]
          rw [tG_st, e1.1, e1.2]
          by_cases eT : T = S ||| 2 ^ e
          · rw [if_pos eT, eT]
            simp [Nat.add_assoc]
          · rw [if_neg eT, hv T hT]
            simp [eT]
  have outer : ∀ m S t, S + m = 2 ^ ne - 1 → fr [39, 40] [] s t → (∀ T, T < 2 ^ ne → t.1 40 T = nI (tA (cF em pg x0 ne) ne S T)) → ∃ u, a_run none shp pX0_reckonBefore 17 [some (.ref 38), some (.int (nI (2 ^ ne - 1))), some (.int (nI S)), none] [] t = some (.inl none, u) ∧ fr [39, 40] [] s u ∧ ∀ S, S < 2 ^ ne → u.1 40 S = nI (BF (cF em pg x0 ne) ne S) := by
    intro m
    induction m with
    | zero =>
      intro S t hS f hv
      refine ⟨t, ?_, f, fun T hT => ?_⟩
      · rw [tX0_reckonBefore_17]
        try simp only [k_lit, k_nN, k_ofN]
        simp (disch := omega) only [i_leT, i_leF, i_ltT, i_ltF, i_eqT, i_eqF, i_okT, i_n1, i_n2, i_n3, i_n4, i_n5, i_n6, i_n7, i_n8, k_cl, if_true, if_false]
      · rw [hv T hT, tA_done (by omega) (by omega)]
    | succ m ih =>
      intro S t hS f hv
      have hSl : S < 2 ^ ne := by omega
      have hSv : t.1 40 S = nI (BF (cF em pg x0 ne) ne S) := by
        rw [hv S hSl, tA_done (by omega) (Nat.le_refl _)]
      have hb := BF_lt (cf := cF em pg x0 ne) hne hSl
      rw [tX0_reckonBefore_17]
      try simp only [k_lit, k_nN, k_ofN, nI_add]
      simp (disch := omega) only [i_leT, i_leF, i_ltT, i_ltF, i_eqT, i_eqF, i_okT, i_n1, i_n2, i_n3, i_n4, i_n5, i_n6, i_n7, i_n8, k_cl, if_true, if_false]
      rw [hSv]
      by_cases e0 : BF (cF em pg x0 ne) ne S = 0
      · rw [e0]
        simp (disch := omega) only [i_leT, i_leF, i_ltT, i_ltF, i_eqT, i_eqF, i_okT, i_n1, i_n2, i_n3, i_n4, i_n5, i_n6, i_n7, i_n8, k_cl, if_true, if_false]
        refine ih (S + 1) t (by omega) f (fun T hT => ?_)
        rw [tA_st, hv T hT]
        have : tG (cF em pg x0 ne) ne S T ne = 0 := by
          unfold tG
          apply sm_0
          intro k _
          rw [e0]
          split <;> rfl
        rw [this, Nat.add_zero]
      · simp (disch := omega) only [i_leT, i_leF, i_ltT, i_ltF, i_eqT, i_eqF, i_okT, i_n1, i_n2, i_n3, i_n4, i_n5, i_n6, i_n7, i_n8, k_cl, if_true, if_false]
        obtain ⟨t1, ht1, ft1, xt1⟩ := sX0_goTo (S := S) (CtI_fr h f rfl) (by omega)
        rw [ht1, b_bv, tX0_reckonBefore_36]
        try simp only [k_lit, k_nN, k_ofN]
        have f1 : fr [39, 40] [] s t1 := fr_trans f (fr_mono ft1 (by simp) (by simp))
        obtain ⟨t2, ht2, ft2, vt2⟩ := inner S hSl ne 0 t1 (by omega) f1 xt1 (fun T hT => by
          rw [ft1.1 40 T (by decide) (by simp), hv T hT]
          rfl)
        rw [ht2]
        exact ih (S + 1) t2 (by omega) ft2 vt2
  obtain ⟨t, et1, f, v⟩ := fl40 s (nI 0)
  rw [tX0_reckonBefore]
  try simp only [k_lit, k_nN, k_ofN]
  rw [et1, b_bv, tX0_reckonBefore_8]
  try simp only [k_lit, k_nN, k_ofN]
  refine outer (2 ^ ne - 1) 0 _ (by omega) (fr_si (fr_mono f (by simp) (by simp)) (by simp)) (fun T hT => ?_)
  simp only [m_si, if_true]
  unfold tA
  by_cases e0 : T = 0
  · rw [if_pos e0, if_pos e0]
  · rw [if_neg e0, if_neg e0, v T (by omega), sm_0]
    intro k _
    simp
