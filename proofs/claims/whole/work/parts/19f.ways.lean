/-! ===== the walk ===== -/
theorem w_101 {nb nr ne S : Nat} {pg em : Nat → Int32} {x0 : Nat → Nat} {s t : aMem} {o : Nat → Int32} {T one bh b all d n e th : Nat} {bo tp : Bool} {v3 : Int32} (hB : WB nb nr ne pg em s) (hw : wI nb ne em x0 S s t o) (hbo : (bo = true ∧ v3 = nI b ∧ b < nb ∧ bh ≤ all) ∨ (bo = false ∧ v3 = nN)) (hone : one ≤ 1) (hob : one = 1 → bo = false) (hd : d ≤ all) (hall : all ≤ 8) (hbh : bh ≤ 8) (hg : fgo one (n, e)) (hth : th < 512) (htp : bo = true → bh < d → th.testBit bh = tp) :
    ∃ th', th' < 512 ∧ (bo = true → bh ≤ d → th'.testBit bh = thv bo bh (fun S => (xg em x0 ne S 5).testBit b) d S tp) ∧ (bo = true → bh < d → th'.testBit bh = th.testBit bh) ∧
    a_run none shp pX9_ways 101 [some (.ref 43), some (.int (nI T)), some (.int (nI one)), some (.int v3), some (.int (nI bh)), some (.int (nI all)), some (.int (nI n)), some (.int (nI d)), some (.int (nI S)), some (.int (nI th)), some (.int (nI e)), none] [] t = a_run none shp pX9_ways 201 [some (.ref 43), some (.int (nI T)), some (.int (nI one)), some (.int v3), some (.int (nI bh)), some (.int (nI all)), some (.int (nI (if d = all then fin one (n, e) (thv bo bh (fun S => (xg em x0 ne S 5).testBit b) d S tp).toNat else (n, e)).1)), some (.int (nI d)), some (.int (nI S)), some (.int (nI th')), some (.int (nI (if d = all then fin one (n, e) (thv bo bh (fun S => (xg em x0 ne S 5).testBit b) d S tp).toNat else (n, e)).2)), some (.int (t.1 70 d + nI 1))] [] t := by
  obtain ⟨⟨hnb, hnr, hne⟩, -⟩ := id hB
  have h190 : ∀ n e th, a_run none shp pX9_ways 190 [some (.ref 43), some (.int (nI T)), some (.int (nI one)), some (.int v3), some (.int (nI bh)), some (.int (nI all)), some (.int (nI n)), some (.int (nI d)), some (.int (nI S)), some (.int (nI th)), some (.int (nI e)), none] [] t = a_run none shp pX9_ways 201 [some (.ref 43), some (.int (nI T)), some (.int (nI one)), some (.int v3), some (.int (nI bh)), some (.int (nI all)), some (.int (nI n)), some (.int (nI d)), some (.int (nI S)), some (.int (nI th)), some (.int (nI e)), some (.int (t.1 70 d + nI 1))] [] t := by
    intro n e th
    rw [tX9_ways_190]
    try simp only [k_lit, k_nN, k_ofN]
    simp (disch := omega) only [i_leT, i_leF, i_ltT, i_ltF, i_eqT, i_eqF, i_okT, i_n1, i_n2, i_n3, i_n4, i_n5, i_n6, i_n7, i_n8, k_cl, if_true, if_false]
  have h147 : ∀ th', th' < 512 → (bo = true → bh ≤ d → th'.testBit bh = thv bo bh (fun S => (xg em x0 ne S 5).testBit b) d S tp) → a_run none shp pX9_ways 147 [some (.ref 43), some (.int (nI T)), some (.int (nI one)), some (.int v3), some (.int (nI bh)), some (.int (nI all)), some (.int (nI n)), some (.int (nI d)), some (.int (nI S)), none, some (.int (nI e)), none] [.int (nI th')] t = a_run none shp pX9_ways 201 [some (.ref 43), some (.int (nI T)), some (.int (nI one)), some (.int v3), some (.int (nI bh)), some (.int (nI all)), some (.int (nI (if d = all then fin one (n, e) (thv bo bh (fun S => (xg em x0 ne S 5).testBit b) d S tp).toNat else (n, e)).1)), some (.int (nI d)), some (.int (nI S)), some (.int (nI th')), some (.int (nI (if d = all then fin one (n, e) (thv bo bh (fun S => (xg em x0 ne S 5).testBit b) d S tp).toNat else (n, e)).2)), some (.int (t.1 70 d + nI 1))] [] t := by
    intro th' h1 h2
    rw [tX9_ways_147]
    try simp only [k_lit, k_nN, k_ofN, nI_add]
    by_cases e1 : d = all
    · subst e1
      simp only [if_true]
      have he1 : e ≤ 1 := hg.1
      by_cases e2 : e = 0
      · subst e2
        simp (disch := omega) only [i_leT, i_leF, i_ltT, i_ltF, i_eqT, i_eqF, i_okT, i_n1, i_n2, i_n3, i_n4, i_n5, i_n6, i_n7, i_n8, k_cl, if_true, if_false]
        rcases hbo with ⟨c1, c2, c3, c4⟩ | ⟨c1, c2⟩
        · have hb2 := h2 c1 c4
          have ho0 : one = 0 := by
            rcases (show one = 0 ∨ one = 1 by omega) with q | q
            · exact q
            · rw [hob q] at c1; cases c1
          subst ho0
          rw [c2]
          simp (disch := omega) only [i_leT, i_leF, i_ltT, i_ltF, i_eqT, i_eqF, i_okT, i_n1, i_n2, i_n3, i_n4, i_n5, i_n6, i_n7, i_n8, k_cl, if_true, if_false]
          cases e3 : thv bo bh (fun S => (xg em x0 ne S 5).testBit b) d S tp
          · rw [e3] at hb2
            rw [ib1F hb2 (by omega) (by omega), ← c2, h190]
            rfl
          · rw [e3] at hb2
            rw [ib1T hb2 (by omega) (by omega), ← c2, h190]
            rfl
        · have e3 : thv bo bh (fun S => (xg em x0 ne S 5).testBit b) d S tp = true := by simp [thv, c1]
          rw [e3, c2]
          simp (disch := omega) only [i_leT, i_leF, i_ltT, i_ltF, i_eqT, i_eqF, i_okT, i_n1, i_n2, i_n3, i_n4, i_n5, i_n6, i_n7, i_n8, k_cl, if_true, if_false]
          rw [← c2, h190]
          rcases (show one = 0 ∨ one = 1 by omega) with q | q <;> subst q <;> rfl
      · have e3 : e = 1 := by omega
        subst e3
        simp (disch := omega) only [i_leT, i_leF, i_ltT, i_ltF, i_eqT, i_eqF, i_okT, i_n1, i_n2, i_n3, i_n4, i_n5, i_n6, i_n7, i_n8, k_cl, if_true, if_false]
        rw [h190]
        have hon : one ≠ 0 := fun q => absurd (hg.2 q) (by simp)
        simp [fin, hon]
    · simp only [e1, if_false]
      simp (disch := omega) only [i_leT, i_leF, i_ltT, i_ltF, i_eqT, i_eqF, i_okT, i_n1, i_n2, i_n3, i_n4, i_n5, i_n6, i_n7, i_n8, k_cl, if_true, if_false]
      rw [h190]
  rw [tX9_ways_101]
  try simp only [k_lit, k_nN, k_ofN]
  by_cases e1 : d = bh
  · subst e1
    rcases hbo with ⟨c1, c2, c3, c4⟩ | ⟨c1, c2⟩
    · have hbit : (xg em x0 ne S 5).testBit b = decide (o b = nN) := by
        rw [← hw.2.2.1 5 (by omega), oset_p, ob c3, plc_5]
      have ht : thv bo d (fun S => (xg em x0 ne S 5).testBit b) d S tp = decide (o b = nN) := by simp [thv, c1, hbit]
      have hp0 : 2 ^ d < 2 ^ 9 := Nat.pow_lt_pow_right (by decide) (by omega)
      have hp : 2 ^ d < 512 := hp0
      by_cases eo : o b = nN
      · refine ⟨th ||| 2 ^ d, Nat.or_lt_two_pow (n := 9) hth hp, fun _ _ => ?_, fun _ h => absurd h (Nat.lt_irrefl _), ?_⟩
        · rw [ht, Nat.testBit_or, pow_bit]
          simp [eo]
        · rw [← h147 (th ||| 2 ^ d) (Nat.or_lt_two_pow (n := 9) hth hp) (fun _ _ => by rw [ht, Nat.testBit_or, pow_bit]; simp [eo]), c2, k_one (by omega), k_or]
          simp (disch := omega) only [i_leT, i_leF, i_ltT, i_ltF, i_eqT, i_eqF, i_okT, i_n1, i_n2, i_n3, i_n4, i_n5, i_n6, i_n7, i_n8, k_cl, if_true, if_false]
          rw [hw.2.1, if_pos eo]
      · have hlt : th ^^^ (th &&& 2 ^ d) < 512 := wo_lt (n := 9) hth
        refine ⟨th ^^^ (th &&& 2 ^ d), hlt, fun _ _ => ?_, fun _ h => absurd h (Nat.lt_irrefl _), ?_⟩
        · rw [ht, wo_bit]
          simp [eo]
        · rw [← h147 (th ^^^ (th &&& 2 ^ d)) hlt (fun _ _ => by rw [ht, wo_bit]; simp [eo]), c2, k_one (by omega), k_not]
          simp (disch := omega) only [i_leT, i_leF, i_ltT, i_ltF, i_eqT, i_eqF, i_okT, i_n1, i_n2, i_n3, i_n4, i_n5, i_n6, i_n7, i_n8, k_cl, if_true, if_false]
          rw [hw.2.1, if_neg eo]
    · refine ⟨th, hth, fun h => absurd h (by simp [c1]), fun _ _ => rfl, ?_⟩
      rw [← h147 th hth (fun h => absurd h (by simp [c1])), c2]
      simp (disch := omega) only [i_leT, i_leF, i_ltT, i_ltF, i_eqT, i_eqF, i_okT, i_n1, i_n2, i_n3, i_n4, i_n5, i_n6, i_n7, i_n8, k_cl, if_true, if_false]
  · have ht : bo = true → bh ≤ d → th.testBit bh = thv bo bh (fun S => (xg em x0 ne S 5).testBit b) d S tp := by
      intro c1 c2
      rw [htp c1 (by omega)]
      simp [thv, c1, e1]
    refine ⟨th, hth, ht, fun _ _ => rfl, ?_⟩
    rw [← h147 th hth ht]
    simp (disch := omega) only [i_leT, i_leF, i_ltT, i_ltF, i_eqT, i_eqF, i_okT, i_n1, i_n2, i_n3, i_n4, i_n5, i_n6, i_n7, i_n8, k_cl, if_true, if_false]
def ltm (cf : Nat → Nat → Bool) (sh : Nat → Bool) (ne T : Nat) (bo : Bool) (bh : Nat) (rem d S : Nat) (tv : Bool) (j : Nat) : Nat := match rem with
  | 0 => 0
  | r + 1 => if (T.testBit j && !S.testBit j && cf S j) = true then cw cf sh ne T bo bh r (d + 1) (S ||| 2 ^ j) tv else 0
theorem ltm_0 (cf : Nat → Nat → Bool) (sh : Nat → Bool) (ne T : Nat) (bo : Bool) (bh d S : Nat) (tv : Bool) (k m : Nat) : sm (fun j => ltm cf sh ne T bo bh 0 d S tv (k + j)) m = 0 := sm_0 (fun _ _ => rfl)
theorem thv_id (bo : Bool) (bh : Nat) (sh : Nat → Bool) (d S : Nat) (t : Bool) : thv bo bh sh d S (thv bo bh sh d S t) = thv bo bh sh d S t := by
  unfold thv
  cases bo
  · rfl
  · by_cases e : d = bh <;> simp [e]
theorem nN_a1 : nN + nI 1 = nI 0 := by decide
theorem nI_m1 (d : Nat) : nI (d + 1) + nN = nI d := pk_m1 d
theorem w_lp {nb nr ne : Nat} {pg em : Nat → Int32} {x0 : Nat → Nat} {s : aMem} {T one bh b all : Nat} {bo : Bool} {v3 : Int32} (hB : WB nb nr ne pg em s) (hbo : (bo = true ∧ v3 = nI b ∧ b < nb ∧ bh ≤ all) ∨ (bo = false ∧ v3 = nN)) (hone : one ≤ 1) (hob : one = 1 → bo = false) (hall : all ≤ 8) (hbh : bh ≤ 8) (hT : T < 256) : ∀ rem d, d + rem = all → ∀ m k S t o n e th tv, k + m = ne → S < 2 ^ ne → wI nb ne em x0 S s t o → fgo one (n, e) → th < 512 → thv bo bh (fun S => (xg em x0 ne S 5).testBit b) d S tv = tv → (bo = true → bh ≤ d → th.testBit bh = tv) →
    ∃ t' th', wI nb ne em x0 S s t' o ∧ th' < 512 ∧ (bo = true → bh < d → th'.testBit bh = th.testBit bh) ∧ (∀ j, j < d → t'.1 70 j = t.1 70 j) ∧
    a_run none shp pX9_ways 201 [some (.ref 43), some (.int (nI T)), some (.int (nI one)), some (.int v3), some (.int (nI bh)), some (.int (nI all)), some (.int (nI n)), some (.int (nI d)), some (.int (nI S)), some (.int (nI th)), some (.int (nI e)), some (.int (nI k))] [] t = a_run none shp pX9_ways 52 [some (.ref 43), some (.int (nI T)), some (.int (nI one)), some (.int v3), some (.int (nI bh)), some (.int (nI all)), some (.int (nI (fin one (n, e) (sm (fun j => ltm (cF em pg x0 ne) (fun S => (xg em x0 ne S 5).testBit b) ne T bo bh rem d S tv (k + j)) m)).1)), some (.int (nI d + nN)), some (.int (nI S)), some (.int (nI th')), some (.int (nI (fin one (n, e) (sm (fun j => ltm (cF em pg x0 ne) (fun S => (xg em x0 ne S 5).testBit b) ne T bo bh rem d S tv (k + j)) m)).2)), none] [] t' := by
  obtain ⟨⟨hnb, hnr, hne⟩, -⟩ := id hB
  have h2n : 2 ^ ne ≤ 256 := Nat.pow_le_pow_right (n := 2) (by decide) hne
  intro rem
  induction rem with
  | zero =>
    intro d hd m
    induction m with
    | zero =>
      intro k S t o n e th tv hk hS hw hg hth htv htb
      refine ⟨t, th, hw, hth, fun _ _ => rfl, fun _ _ => rfl, ?_⟩
      rw [tX9_ways_201, (WB_fr hB hw.1).2.2.2.1]
      try simp only [k_lit, k_nN, k_ofN]
      simp (disch := omega) only [i_leT, i_leF, i_ltT, i_ltF, i_eqT, i_eqF, i_okT, i_n1, i_n2, i_n3, i_n4, i_n5, i_n6, i_n7, i_n8, k_cl, if_true, if_false]
      rw [tX9_ways_262]
      try simp only [k_lit, k_nN, k_ofN]
      simp (disch := omega) only [i_leT, i_leF, i_ltT, i_ltF, i_eqT, i_eqF, i_okT, i_n1, i_n2, i_n3, i_n4, i_n5, i_n6, i_n7, i_n8, k_cl, if_true, if_false]
      simp only [sm, fin_0]
    | succ m ih =>
      intro k S t o n e th tv hk hS hw hg hth htv htb
      obtain ⟨t', th', g1, g2, g3, g4, g5⟩ := ih (k + 1) S t o n e th tv (by omega) hS hw hg hth htv htb
      refine ⟨t', th', g1, g2, g3, g4, ?_⟩
      rw [tX9_ways_201, (WB_fr hB hw.1).2.2.2.1]
      try simp only [k_lit, k_nN, k_ofN, nI_add]
      simp (disch := omega) only [i_leT, i_leF, i_ltT, i_ltF, i_eqT, i_eqF, i_okT, i_n1, i_n2, i_n3, i_n4, i_n5, i_n6, i_n7, i_n8, k_cl, if_true, if_false]
      rw [g5, ltm_0, ltm_0]
  | succ rem ihr =>
    intro d hd m
    induction m with
    | zero =>
      intro k S t o n e th tv hk hS hw hg hth htv htb
      refine ⟨t, th, hw, hth, fun _ _ => rfl, fun _ _ => rfl, ?_⟩
      rw [tX9_ways_201, (WB_fr hB hw.1).2.2.2.1]
      try simp only [k_lit, k_nN, k_ofN]
      simp (disch := omega) only [i_leT, i_leF, i_ltT, i_ltF, i_eqT, i_eqF, i_okT, i_n1, i_n2, i_n3, i_n4, i_n5, i_n6, i_n7, i_n8, k_cl, if_true, if_false]
      rw [tX9_ways_262, (WB_fr hB hw.1).2.2.2.1]
      try simp only [k_lit, k_nN, k_ofN]
      simp (disch := omega) only [i_leT, i_leF, i_ltT, i_ltF, i_eqT, i_eqF, i_okT, i_n1, i_n2, i_n3, i_n4, i_n5, i_n6, i_n7, i_n8, k_cl, if_true, if_false]
      simp only [sm, fin_0]
    | succ m ih =>
      intro k S t o n e th tv hk hS hw hg hth htv htb
      have hsp : sm (fun j => ltm (cF em pg x0 ne) (fun S => (xg em x0 ne S 5).testBit b) ne T bo bh (rem + 1) d S tv (k + j)) (m + 1) = ltm (cF em pg x0 ne) (fun S => (xg em x0 ne S 5).testBit b) ne T bo bh (rem + 1) d S tv k + sm (fun j => ltm (cF em pg x0 ne) (fun S => (xg em x0 ne S 5).testBit b) ne T bo bh (rem + 1) d S tv (k + 1 + j)) m := by
        rw [sm_hd, Nat.add_zero]
        congr 1
        exact sm_cg (fun j _ => by rw [show k + (j + 1) = k + 1 + j by omega])
      have he1 : e ≤ 1 := hg.1
      -- a step that does nothing
      have skip : a_run none shp pX9_ways 201 [some (.ref 43), some (.int (nI T)), some (.int (nI one)), some (.int v3), some (.int (nI bh)), some (.int (nI all)), some (.int (nI n)), some (.int (nI d)), some (.int (nI S)), some (.int (nI th)), some (.int (nI e)), some (.int (nI k))] [] t = a_run none shp pX9_ways 201 [some (.ref 43), some (.int (nI T)), some (.int (nI one)), some (.int v3), some (.int (nI bh)), some (.int (nI all)), some (.int (nI n)), some (.int (nI d)), some (.int (nI S)), some (.int (nI th)), some (.int (nI e)), some (.int (nI (k + 1)))] [] t → (∀ c, fin one (n, e) (ltm (cF em pg x0 ne) (fun S => (xg em x0 ne S 5).testBit b) ne T bo bh (rem + 1) d S tv k + c) = fin one (n, e) c) → ∃ t' th', wI nb ne em x0 S s t' o ∧ th' < 512 ∧ (bo = true → bh < d → th'.testBit bh = th.testBit bh) ∧ (∀ j, j < d → t'.1 70 j = t.1 70 j) ∧
    a_run none shp pX9_ways 201 [some (.ref 43), some (.int (nI T)), some (.int (nI one)), some (.int v3), some (.int (nI bh)), some (.int (nI all)), some (.int (nI n)), some (.int (nI d)), some (.int (nI S)), some (.int (nI th)), some (.int (nI e)), some (.int (nI k))] [] t = a_run none shp pX9_ways 52 [some (.ref 43), some (.int (nI T)), some (.int (nI one)), some (.int v3), some (.int (nI bh)), some (.int (nI all)), some (.int (nI (fin one (n, e) (sm (fun j => ltm (cF em pg x0 ne) (fun S => (xg em x0 ne S 5).testBit b) ne T bo bh (rem + 1) d S tv (k + j)) (m + 1))).1)), some (.int (nI d + nN)), some (.int (nI S)), some (.int (nI th')), some (.int (nI (fin one (n, e) (sm (fun j => ltm (cF em pg x0 ne) (fun S => (xg em x0 ne S 5).testBit b) ne T bo bh (rem + 1) d S tv (k + j)) (m + 1))).2)), none] [] t' := by
        intro h1 h2
        obtain ⟨t', th', g1, g2, g3, g4, g5⟩ := ih (k + 1) S t o n e th tv (by omega) hS hw hg hth htv htb
        exact ⟨t', th', g1, g2, g3, g4, by rw [h1, g5, hsp, h2]⟩
      have eq201 := tX9_ways_201 (nI T) (nI one) v3 (nI bh) (nI all) (nI n) (nI d) (nI S) (nI th) (nI e) (nI k) t
      simp only [k_lit, k_nN, k_ofN, nI_add] at eq201
      rw [(WB_fr hB hw.1).2.2.2.1, i_leF (by omega) (by omega), i_eqF (show d ≠ all by omega) (by omega) (by omega)] at eq201
      by_cases e0 : e = 0
      · subst e0
        rw [i_eqT rfl] at eq201
        cases eT : T.testBit k
        · rw [ib0T eT (by omega) (by omega)] at eq201
          exact skip eq201 (fun c => by simp [ltm, eT])
        · rw [ib0F eT (by omega) (by omega)] at eq201
          cases eS : S.testBit k
          · rw [ib1F eS (by omega) (by omega), i_okT (by omega) (by omega), k_cl (by omega), (WB_fr hB hw.1).2.2.2.2.2.1, (w_can hB hw (by omega)).1, b_bi] at eq201
            have eq253 := tX9_ways_253 (nI T) (nI one) v3 (nI bh) (nI all) (nI n) (nI d) (nI S) (nI th) (nI 0) (nI k) (nI (cF em pg x0 ne S k).toNat) t
            simp only [k_lit, k_nN, k_ofN, nI_add] at eq253
            rw [eq253] at eq201
            cases ec : cF em pg x0 ne S k
            · rw [ec, Bool.toNat_false, i_eqT rfl] at eq201
              exact skip eq201 (fun c => by simp [ltm, ec])
            · rw [ec, Bool.toNat_true, i_eqF (by decide) (by decide) (by decide)] at eq201
              -- the event is made
              have hord : wI nb ne em x0 S s (a_si t 70 d (nI k)) o := ⟨fr_si hw.1 (by simp), by funext j; simp [m_si, ← hw.2.1], hw.2.2⟩
              obtain ⟨u1, hu1, fu1, wu1⟩ := w_go hB hord (show k < ne by omega) eS ec
              have eq262 := tX9_ways_262 (nI T) (nI one) v3 (nI bh) (nI all) (nI n) (nI d) (nI S) (nI th) (nI 0) (nI k) t
              simp only [k_lit, k_nN, k_ofN, nI_add] at eq262
              rw [(WB_fr hB hw.1).2.2.2.1, i_eqF (show d ≠ all by omega) (by omega) (by omega), i_ltT (by omega) (by omega), i_okT (by omega) (by omega), i_okT (by omega) (by omega), k_cl (by omega), k_cl (by omega), (WB_fr hB hw.1).2.2.2.2.2.1, hu1, b_bv, k_one (by omega), k_or] at eq262
              have eq314 := tX9_ways_314 (nI T) (nI one) v3 (nI bh) (nI all) (nI n) (nI d) (nI (S ||| 2 ^ k)) (nI th) (nI 0) (nI k) u1
              simp only [k_lit, k_nN, k_ofN, nI_add] at eq314
              rw [i_okT (by omega) (by omega), k_cl (by omega)] at eq314
              have wu2 : wI nb ne em x0 (S ||| 2 ^ k) s (a_si u1 70 (d + 1) nN) (otr o (er em k) 5 (el em k) (et em k)) := ⟨fr_si wu1.1 (by simp), by funext j; simp [m_si, ← wu1.2.1], wu1.2.2⟩
              have eq52 := tX9_ways_52 (nI T) (nI one) v3 (nI bh) (nI all) (nI n) (nI (d + 1)) (nI (S ||| 2 ^ k)) (nI th) (nI 0) (a_si u1 70 (d + 1) nN)
              simp only [k_lit, k_nN, k_ofN, nI_add] at eq52
              have z70 : (a_si u1 70 (d + 1) nN).1 70 (d + 1) = nN := by simp [m_si]
              rw [i_ltF (by omega) (by omega), i_okT (by omega) (by omega), k_cl (by omega), z70, i_n7] at eq52
              have hor := lt_or hS (show k < ne by omega)
              obtain ⟨th1, hth1, ht1, ht2, eq101⟩ := w_101 (T := T) (n := n) (e := 0) (d := d + 1) (tp := tv) (b := b) hB wu2 hbo hone hob (by omega) hall hbh hg hth (fun c1 c2 => htb c1 (by omega))
              rw [z70, nN_a1] at eq101
              have hg1 : fgo one (if d + 1 = all then fin one (n, 0) (thv bo bh (fun S => (xg em x0 ne S 5).testBit b) (d + 1) (S ||| 2 ^ k) tv).toNat else (n, 0)) := by
                split
                · exact fin_go hg
                · exact hg
              obtain ⟨u3, th3, wu3, hth3, ht3, ho3, eq3⟩ := ihr (d + 1) (by omega) ne 0 (S ||| 2 ^ k) (a_si u1 70 (d + 1) nN) (otr o (er em k) 5 (el em k) (et em k)) (if d + 1 = all then fin one (n, 0) (thv bo bh (fun S => (xg em x0 ne S 5).testBit b) (d + 1) (S ||| 2 ^ k) tv).toNat else (n, 0)).1 (if d + 1 = all then fin one (n, 0) (thv bo bh (fun S => (xg em x0 ne S 5).testBit b) (d + 1) (S ||| 2 ^ k) tv).toNat else (n, 0)).2 th1 (thv bo bh (fun S => (xg em x0 ne S 5).testBit b) (d + 1) (S ||| 2 ^ k) tv) (by omega) hor wu2 hg1 hth1 (thv_id _ _ _ _ _ _) ht1
              have hcw : fin one ((if d + 1 = all then fin one (n, 0) (thv bo bh (fun S => (xg em x0 ne S 5).testBit b) (d + 1) (S ||| 2 ^ k) tv).toNat else (n, 0)).1, (if d + 1 = all then fin one (n, 0) (thv bo bh (fun S => (xg em x0 ne S 5).testBit b) (d + 1) (S ||| 2 ^ k) tv).toNat else (n, 0)).2) (sm (fun j => ltm (cF em pg x0 ne) (fun S => (xg em x0 ne S 5).testBit b) ne T bo bh rem (d + 1) (S ||| 2 ^ k) (thv bo bh (fun S => (xg em x0 ne S 5).testBit b) (d + 1) (S ||| 2 ^ k) tv) (0 + j)) ne) = fin one (n, 0) (ltm (cF em pg x0 ne) (fun S => (xg em x0 ne S 5).testBit b) ne T bo bh (rem + 1) d S tv k) := by
                have hl : ltm (cF em pg x0 ne) (fun S => (xg em x0 ne S 5).testBit b) ne T bo bh (rem + 1) d S tv k = cw (cF em pg x0 ne) (fun S => (xg em x0 ne S 5).testBit b) ne T bo bh rem (d + 1) (S ||| 2 ^ k) tv := by simp [ltm, eT, eS, ec]
                rw [hl]
                cases rem with
                | zero =>
                  rw [if_pos (by omega), ltm_0, fin_0]
                  rfl
                | succ r =>
                  rw [if_neg (by omega)]
                  congr 1
                  show _ = sm _ ne
                  refine sm_cg (fun j _ => ?_)
                  rw [Nat.zero_add]
                  rfl
              rw [hcw, nI_m1] at eq3
              -- it is taken back
              have eqb := tX9_ways_52 (nI T) (nI one) v3 (nI bh) (nI all) (nI (fin one (n, 0) (ltm (cF em pg x0 ne) (fun S => (xg em x0 ne S 5).testBit b) ne T bo bh (rem + 1) d S tv k)).1) (nI d) (nI (S ||| 2 ^ k)) (nI th3) (nI (fin one (n, 0) (ltm (cF em pg x0 ne) (fun S => (xg em x0 ne S 5).testBit b) ne T bo bh (rem + 1) d S tv k)).2) u3
              simp only [k_lit, k_nN, k_ofN, nI_add] at eqb
              have y70 : u3.1 70 d = nI k := by
                rw [ho3 d (by omega)]
                simp only [m_si, if_true, show ¬ d = d + 1 by omega, if_false]
                rw [fu1.1 70 d (by decide) (by simp)]
                simp [m_si]
              obtain ⟨u4, hu4, fu4, wu4⟩ := w_bk hB hord (show k < ne by omega) ec wu3
              rw [i_ltF (by omega) (by omega), i_okT (by omega) (by omega), k_cl (by omega), y70, i_n1 (by omega), i_okT (by omega) (by omega), i_okT (by omega) (by omega), k_cl (by omega), (WB_fr hB wu3.1).2.2.2.2.2.1, hu4, b_bv] at eqb
              have eq85 := tX9_ways_85 (nI T) (nI one) v3 (nI bh) (nI all) (nI (fin one (n, 0) (ltm (cF em pg x0 ne) (fun S => (xg em x0 ne S 5).testBit b) ne T bo bh (rem + 1) d S tv k)).1) (nI d) (nI (S ||| 2 ^ k)) (nI th3) (nI (fin one (n, 0) (ltm (cF em pg x0 ne) (fun S => (xg em x0 ne S 5).testBit b) ne T bo bh (rem + 1) d S tv k)).2) u4
              simp only [k_lit, k_nN, k_ofN, nI_add] at eq85
              have x70 : u4.1 70 d = nI k := by rw [fu4.1 70 d (by decide) (by simp), y70]
              have hback : (S ||| 2 ^ k) ^^^ ((S ||| 2 ^ k) &&& 2 ^ k) = S := by
                apply Nat.eq_of_testBit_eq
                intro c
                rw [wo_bit, Nat.testBit_or, pow_bit]
                by_cases ek : k = c
                · subst ek; simp [eS]
                · simp [ek]
              rw [i_okT (by omega) (by omega), k_cl (by omega), x70, k_one (by omega), k_not, hback] at eq85
              have hg4 := fin_go (one := one) (c := ltm (cF em pg x0 ne) (fun S => (xg em x0 ne S 5).testBit b) ne T bo bh (rem + 1) d S tv k) hg
              obtain ⟨th5, hth5, ht5, ht6, eq5⟩ := w_101 (T := T) (n := (fin one (n, 0) (ltm (cF em pg x0 ne) (fun S => (xg em x0 ne S 5).testBit b) ne T bo bh (rem + 1) d S tv k)).1) (e := (fin one (n, 0) (ltm (cF em pg x0 ne) (fun S => (xg em x0 ne S 5).testBit b) ne T bo bh (rem + 1) d S tv k)).2) (d := d) (tp := tv) (b := b) hB wu4 hbo hone hob (by omega) hall hbh hg4 hth3 (fun c1 c2 => by rw [ht3 c1 (by omega), ht2 c1 (by omega)]; exact htb c1 (by omega))
              rw [if_neg (show ¬ d = all by omega), x70, nI_add] at eq5
              dsimp only at eq5
              obtain ⟨t', th', g1, g2, g3, g4, g5⟩ := ih (k + 1) S u4 o (fin one (n, 0) (ltm (cF em pg x0 ne) (fun S => (xg em x0 ne S 5).testBit b) ne T bo bh (rem + 1) d S tv k)).1 (fin one (n, 0) (ltm (cF em pg x0 ne) (fun S => (xg em x0 ne S 5).testBit b) ne T bo bh (rem + 1) d S tv k)).2 th5 tv (by omega) hS wu4 hg4 hth5 htv (fun c1 c2 => by rw [ht5 c1 c2]; exact htv)
              refine ⟨t', th', g1, g2, fun c1 c2 => ?_, fun j hj => ?_, ?_⟩
              · rw [g3 c1 c2, ht6 c1 c2, ht3 c1 (by omega), ht2 c1 (by omega)]
              · rw [g4 j hj, fu4.1 70 j (by decide) (by simp), ho3 j (by omega)]
                simp only [m_si, if_true, show ¬ j = d + 1 by omega, if_false]
                rw [fu1.1 70 j (by decide) (by simp)]
                simp [m_si, show ¬ j = d by omega]
              · rw [eq201, eq262, eq314, eq52, eq101, eq3, eqb, eq85, eq5, g5, hsp, ← fin_add]
          · rw [ib1T eS (by omega) (by omega)] at eq201
            exact skip eq201 (fun c => by simp [ltm, eS])
      · rw [i_eqF e0 (by omega) (by omega)] at eq201
        refine skip eq201 (fun c => ?_)
        have hon : one ≠ 0 := fun q => e0 (hg.2 q)
        simp [fin, hon, e0]
