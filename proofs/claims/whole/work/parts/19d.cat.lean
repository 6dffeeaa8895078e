/-! ===== behind; orders, there, knot of the class ===== -/
/-- how many orders go on from a set to all -/
def fc (cf : Nat → Nat → Bool) (ne : Nat) : Nat → Nat → Nat
  | 0, _ => 1
  | r + 1, S => sm (fun k => if (!S.testBit k && cf S k) = true then fc cf ne r (S ||| 2 ^ k) else 0) ne
theorem pcN_all {ne : Nat} (hne : ne ≤ 8) : pcN 8 (2 ^ ne - 1) = ne := by
  rcases (show ne = 0 ∨ ne = 1 ∨ ne = 2 ∨ ne = 3 ∨ ne = 4 ∨ ne = 5 ∨ ne = 6 ∨ ne = 7 ∨ ne = 8 by omega) with e | e | e | e | e | e | e | e | e <;> subst e <;> decide
theorem pcN_lt8 : ∀ ne, ne ≤ 8 → ∀ S, S < 2 ^ ne - 1 → pcN 8 S < ne := by decide +kernel
theorem sX0_reckonBehind {nb nr ne : Nat} {pg em : Nat → Int32} {x0 : Nat → Nat} {s : aMem} (h : CtI nb nr ne pg em x0 s) : ∃ u, fX0_reckonBehind [.ref 38, .int (nI (2 ^ ne - 1))] s = some (.inl none, u) ∧ fr [39, 41] [] s u ∧ ∀ S, S < 2 ^ ne → u.1 41 S = nI (fc (cF em pg x0 ne) ne (ne - pcN 8 S) S) := by
  obtain ⟨⟨hnb, hnr, hne⟩, h22, h23, -, -, hev⟩ := id h
  have h2n : 2 ^ ne ≤ 256 := Nat.pow_le_pow_right (n := 2) (by decide) hne
  have h2p : 1 ≤ 2 ^ ne := Nat.one_le_two_pow
  have inner : ∀ S, S < 2 ^ ne - 1 → ∀ m e t, e + m = ne → fr [39, 41] [] s t → sOk (t.1 39) (xg em x0 ne S) → t.1 41 S = nI (sm (fun k => if (!S.testBit k && cF em pg x0 ne S k) = true then fc (cF em pg x0 ne) ne (ne - pcN 8 S - 1) (S ||| 2 ^ k) else 0) e) → (∀ T, T < 2 ^ ne → S < T → t.1 41 T = nI (fc (cF em pg x0 ne) ne (ne - pcN 8 T) T)) → (∀ T, T < S → t.1 41 T = nI 0) → ∃ u, a_run none shp pX0_reckonBehind 30 [some (.ref 38), none, some (.int (nI S)), some (.int (nI e))] [] t = a_run none shp pX0_reckonBehind 19 [some (.ref 38), none, some (.int (nI S + nN)), none] [] u ∧ fr [39, 41] [] s u ∧ (∀ T, T < 2 ^ ne → S ≤ T → u.1 41 T = nI (fc (cF em pg x0 ne) ne (ne - pcN 8 T) T)) ∧ (∀ T, T < S → u.1 41 T = nI 0) := by
    intro S hS m
    have hpS := pcN_lt8 ne hne S hS
    induction m with
    | zero =>
      intro e t he f hx hv hT h0
      refine ⟨t, ?_, f, fun T hT2 hST => ?_, h0⟩
      · rw [tX0_reckonBehind_30, f.1 22 4 (by decide) (by simp), h22]
        try simp only [k_lit, k_nN, k_ofN]
        simp (disch := omega) only [i_leT, i_leF, i_ltT, i_ltF, i_eqT, i_eqF, i_okT, i_n1, i_n2, i_n3, i_n4, i_n5, i_n6, i_n7, i_n8, k_cl, if_true, if_false]
      · by_cases eT : T = S
        · subst eT
          rw [hv, show e = ne by omega]
          obtain ⟨r, hr⟩ : ∃ r, ne - pcN 8 T = r + 1 := ⟨ne - pcN 8 T - 1, by omega⟩
          rw [hr, Nat.add_sub_cancel]
          rfl
        · exact hT T hT2 (by omega)
    | succ m ih =>
      intro e t he f hx hv hT h0
      rw [tX0_reckonBehind_30, f.1 22 4 (by decide) (by simp), h22]
      try simp only [k_lit, k_nN, k_ofN]
      simp (disch := omega) only [i_leT, i_leF, i_ltT, i_ltF, i_eqT, i_eqF, i_okT, i_n1, i_n2, i_n3, i_n4, i_n5, i_n6, i_n7, i_n8, k_cl, if_true, if_false]
      rw [sX0_canFollow (CtI_fr h f rfl) hx (by omega) (by omega), b_bi, tX0_reckonBehind_47]
      try simp only [k_lit, k_nN, k_ofN, nI_add]
      cases e1 : (!S.testBit e && cF em pg x0 ne S e)
      · simp only [Bool.toNat_false]
        simp (disch := omega) only [i_leT, i_leF, i_ltT, i_ltF, i_eqT, i_eqF, i_okT, i_n1, i_n2, i_n3, i_n4, i_n5, i_n6, i_n7, i_n8, k_cl, if_true, if_false]
        refine ih (e + 1) t (by omega) f hx ?_ hT h0
        rw [show sm (fun k => if (!S.testBit k && cF em pg x0 ne S k) = true then fc (cF em pg x0 ne) ne (ne - pcN 8 S - 1) (S ||| 2 ^ k) else 0) (e + 1) = sm (fun k => if (!S.testBit k && cF em pg x0 ne S k) = true then fc (cF em pg x0 ne) ne (ne - pcN 8 S - 1) (S ||| 2 ^ k) else 0) e + (if (!S.testBit e && cF em pg x0 ne S e) = true then fc (cF em pg x0 ne) ne (ne - pcN 8 S - 1) (S ||| 2 ^ e) else 0) from rfl, hv, e1]
        simp
      · simp only [Bool.toNat_true]
        have e2 := e1
        rw [Bool.and_eq_true, Bool.not_eq_true'] at e2
        have hor := lt_or (show S < 2 ^ ne by omega) (show e < ne by omega)
        have hne1 : S < S ||| 2 ^ e := by
          rcases Nat.lt_or_ge S (S ||| 2 ^ e) with c | c
          · exact c
          · exfalso
            have c2 : S ||| 2 ^ e = S := Nat.le_antisymm c Nat.left_le_or
            have := e2.1
            rw [← c2, Nat.testBit_or, pow_bit] at this
            simp at this
        rw [k_one (by omega), k_or]
        simp (disch := omega) only [i_leT, i_leF, i_ltT, i_ltF, i_eqT, i_eqF, i_okT, i_n1, i_n2, i_n3, i_n4, i_n5, i_n6, i_n7, i_n8, k_cl, if_true, if_false]
        rw [hv, hT _ hor hne1, nI_add, pcN_xor e2.1 8 (by omega)]
        refine ih (e + 1) _ (by omega) (fr_si f (by simp)) ?_ ?_ (fun T hT2 hST => ?_) (fun T hT2 => ?_)
        · intro r hr
          have := hx r hr
          simpa [m_si] using this
        · simp only [m_si, if_true]
          rw [show sm (fun k => if (!S.testBit k && cF em pg x0 ne S k) = true then fc (cF em pg x0 ne) ne (ne - pcN 8 S - 1) (S ||| 2 ^ k) else 0) (e + 1) = sm (fun k => if (!S.testBit k && cF em pg x0 ne S k) = true then fc (cF em pg x0 ne) ne (ne - pcN 8 S - 1) (S ||| 2 ^ k) else 0) e + (if (!S.testBit e && cF em pg x0 ne S e) = true then fc (cF em pg x0 ne) ne (ne - pcN 8 S - 1) (S ||| 2 ^ e) else 0) from rfl, e1, Nat.sub_sub]
          simp
        · have : ¬ T = S := by omega
          simp only [m_si, if_true, this, if_false]
          exact hT T hT2 hST
        · have : ¬ T = S := by omega
          simp only [m_si, if_true, this, if_false]
          exact h0 T hT2
  have outer : ∀ n t, n ≤ 2 ^ ne - 1 → fr [39, 41] [] s t → (∀ T, T < 2 ^ ne → n ≤ T → t.1 41 T = nI (fc (cF em pg x0 ne) ne (ne - pcN 8 T) T)) → (∀ T, T < n → t.1 41 T = nI 0) → ∃ u, a_run none shp pX0_reckonBehind 19 [some (.ref 38), none, some (.int (nI n + nN)), none] [] t = some (.inl none, u) ∧ fr [39, 41] [] s u ∧ ∀ S, S < 2 ^ ne → u.1 41 S = nI (fc (cF em pg x0 ne) ne (ne - pcN 8 S) S) := by
    intro n
    induction n with
    | zero =>
      intro t hn f hT h0
      refine ⟨t, ?_, f, fun S hS => hT S hS (by omega)⟩
      rw [tX0_reckonBehind_19]
      try simp only [k_lit, k_nN, k_ofN]
      rw [if_pos (by decide)]
    | succ n ih =>
      intro t hn f hT h0
      have e1 : nI (n + 1) + nN = nI n := pk_m1 n
      rw [e1, tX0_reckonBehind_19]
      try simp only [k_lit, k_nN, k_ofN]
      simp (disch := omega) only [i_leT, i_leF, i_ltT, i_ltF, i_eqT, i_eqF, i_okT, i_n1, i_n2, i_n3, i_n4, i_n5, i_n6, i_n7, i_n8, k_cl, if_true, if_false]
      obtain ⟨t1, ht1, ft1, xt1⟩ := sX0_goTo (S := n) (CtI_fr h f rfl) (by omega)
      rw [ht1, b_bv, tX0_reckonBehind_28]
      try simp only [k_lit, k_nN, k_ofN]
      have f1 : fr [39, 41] [] s t1 := fr_trans f (fr_mono ft1 (by simp) (by simp))
      have A : ∀ T, t1.1 41 T = t.1 41 T := fun T => ft1.1 41 T (by decide) (by simp)
      obtain ⟨t2, ht2, ft2, vt2, wt2⟩ := inner n (by omega) ne 0 t1 (by omega) f1 xt1 (by rw [A, h0 n (by omega)]; rfl) (fun T h1 h2 => by rw [A]; exact hT T h1 (by omega)) (fun T h1 => by rw [A]; exact h0 T (by omega))
      rw [ht2]
      exact ih t2 (by omega) ft2 vt2 wt2
  obtain ⟨t, et1, f, v⟩ := fl41 s (nI 0)
  rw [tX0_reckonBehind]
  try simp only [k_lit, k_nN, k_ofN]
  rw [et1, b_bv, tX0_reckonBehind_8]
  try simp only [k_lit, k_nN, k_ofN]
  simp (disch := omega) only [i_leT, i_leF, i_ltT, i_ltF, i_eqT, i_eqF, i_okT, i_n1, i_n2, i_n3, i_n4, i_n5, i_n6, i_n7, i_n8, k_cl, if_true, if_false]
  have e9 : nI (2 ^ ne - 1) - nI 1 = nI (2 ^ ne - 1) + nN := Int32.sub_eq_add_neg _ _
  rw [e9]
  refine outer (2 ^ ne - 1) _ (by omega) (fr_si (fr_mono f (by simp) (by simp)) (by simp)) (fun T hT hT2 => ?_) (fun T hT => ?_)
  · have : T = 2 ^ ne - 1 := by omega
    subst this
    simp only [m_si, if_true]
    rw [pcN_all hne, Nat.sub_self]
    rfl
  · have : ¬ T = 2 ^ ne - 1 := by omega
    simp only [m_si, if_true, this, if_false]
    exact v T (by omega)
theorem sX0_allEvents {s : aMem} {ne : Nat} (h : s.1 22 4 = nI ne) (hne : ne ≤ 8) : fX0_allEvents [.ref 38] s = some (.inl (some (.int (nI (2 ^ ne - 1)))), s) := by
  rw [tX0_allEvents, h]
  try simp only [k_lit, k_nN, k_ofN]
  rw [k_one (by omega), pk_sub Nat.one_le_two_pow]
theorem sX0_ordersOfAll {nb nr ne : Nat} {pg em : Nat → Int32} {x0 : Nat → Nat} {s : aMem} (h : CtI nb nr ne pg em x0 s) : ∃ u, fX0_ordersOfAll [.ref 38] s = some (.inl (some (.int (nI (BF (cF em pg x0 ne) ne (2 ^ ne - 1))))), u) ∧ fr [39, 40] [] s u := by
  obtain ⟨⟨hnb, hnr, hne⟩, h22, -⟩ := id h
  have h2n : 2 ^ ne ≤ 256 := Nat.pow_le_pow_right (n := 2) (by decide) hne
  have h2p : 1 ≤ 2 ^ ne := Nat.one_le_two_pow
  obtain ⟨u, hu, fu, vu⟩ := sX0_reckonBefore h
  refine ⟨u, ?_, fu⟩
  rw [tX0_ordersOfAll, sX0_allEvents h22 hne, b_bi, tX0_ordersOfAll_4, hu, b_bv, tX0_ordersOfAll_10]
  simp (disch := omega) only [i_leT, i_leF, i_ltT, i_ltF, i_eqT, i_eqF, i_okT, i_n1, i_n2, i_n3, i_n4, i_n5, i_n6, i_n7, i_n8, k_cl, if_true, if_false]
  rw [vu _ (by omega)]
/-- the class's sum over the sets of so many -/
def thX (em pg : Nat → Int32) (x0 : Nat → Nat) (ne b mn : Nat) (S : Nat) : Nat := if (pc S = mn ∧ (xg em x0 ne S 5).testBit b = true) then BF (cF em pg x0 ne) ne S * fc (cF em pg x0 ne) ne (ne - pcN 8 S) S else 0
theorem sX0_ordersWith {nb nr ne b mn : Nat} {pg em : Nat → Int32} {x0 : Nat → Nat} {s : aMem} (h : CtI nb nr ne pg em x0 s) (hb : b < 12) (hmn : mn ≤ 8) : ∃ u, fX0_ordersWith [.ref 38, .int (nI b), .int (nI mn)] s = some (.inl (some (.int (nI (sm (thX em pg x0 ne b mn) (2 ^ ne))))), u) ∧ fr [39, 40, 41] [] s u := by
  obtain ⟨⟨hnb, hnr, hne⟩, h22, -⟩ := id h
  have h2n : 2 ^ ne ≤ 256 := Nat.pow_le_pow_right (n := 2) (by decide) hne
  have h2p : 1 ≤ 2 ^ ne := Nat.one_le_two_pow
  obtain ⟨u, hu, fu, vu⟩ := sX0_reckonBefore h
  obtain ⟨w, hw, fw1, vw⟩ := sX0_reckonBehind (CtI_fr h fu rfl)
  have F : fr [39, 40, 41] [] s w := fr_trans (fr_mono fu (by simp) (by simp)) (fr_mono fw1 (by simp) (by simp))
  have key : ∀ m S t, S + m = 2 ^ ne → fr [39] [] w t → ∃ u, a_run none shp pX0_ordersWith 21 [some (.ref 38), some (.int (nI b)), some (.int (nI mn)), some (.int (nI (2 ^ ne - 1))), some (.int (nI (sm (thX em pg x0 ne b mn) S))), some (.int (nI S))] [] t = some (.inl (some (.int (nI (sm (thX em pg x0 ne b mn) (2 ^ ne))))), u) ∧ fr [39, 40, 41] [] s u := by
    intro m
    induction m with
    | zero =>
      intro S t hS f
      refine ⟨t, ?_, fr_trans F (fr_mono f (by simp) (by simp))⟩
      rw [tX0_ordersWith_21]
      simp (disch := omega) only [i_leT, i_leF, i_ltT, i_ltF, i_eqT, i_eqF, i_okT, i_n1, i_n2, i_n3, i_n4, i_n5, i_n6, i_n7, i_n8, k_cl, if_true, if_false]
      rw [show S = 2 ^ ne by omega]
    | succ m ih =>
      intro S t hS f
      have hpc := pc_le S
      have hF := fr_trans F (fr_mono f (by simp) (by simp))
      have hst : sm (thX em pg x0 ne b mn) (S + 1) = sm (thX em pg x0 ne b mn) S + thX em pg x0 ne b mn S := rfl
      have ih2 := fun t f => ih (S + 1) t (by omega) f
      rw [hst] at ih2
      rw [tX0_ordersWith_21]
      try simp only [k_lit, k_nN, k_ofN]
      simp (disch := omega) only [i_leT, i_leF, i_ltT, i_ltF, i_eqT, i_eqF, i_okT, i_n1, i_n2, i_n3, i_n4, i_n5, i_n6, i_n7, i_n8, k_cl, if_true, if_false]
      rw [sJ6_bitCount (by omega), b_bi, tX0_ordersWith_32]
      try simp only [k_lit, k_nN, k_ofN, nI_add]
      by_cases e1 : pc S = mn
      · rw [e1]
        simp (disch := omega) only [i_leT, i_leF, i_ltT, i_ltF, i_eqT, i_eqF, i_okT, i_n1, i_n2, i_n3, i_n4, i_n5, i_n6, i_n7, i_n8, k_cl, if_true, if_false]
        obtain ⟨t1, ht1, ft1, xt1⟩ := sX0_goTo (S := S) (CtI_fr h hF rfl) (by omega)
        have h5 := xt1 5 (by omega)
        rw [ht1, b_bv, tX0_ordersWith_42, h5.1, k_holds _ b (by omega) (by omega), b_bi, tX0_ordersWith_54]
        try simp only [k_lit, k_nN, k_ofN, nI_add]
        have f1 := fr_trans f ft1
        cases e2 : (xg em x0 ne S 5).testBit b
        · simp only [Bool.toNat_false]
          simp (disch := omega) only [i_leT, i_leF, i_ltT, i_ltF, i_eqT, i_eqF, i_okT, i_n1, i_n2, i_n3, i_n4, i_n5, i_n6, i_n7, i_n8, k_cl, if_true, if_false]
          have : thX em pg x0 ne b mn S = 0 := by simp [thX, e2]
          rw [this] at ih2
          exact ih2 t1 f1
        · simp only [Bool.toNat_true]
          simp (disch := omega) only [i_leT, i_leF, i_ltT, i_ltF, i_eqT, i_eqF, i_okT, i_n1, i_n2, i_n3, i_n4, i_n5, i_n6, i_n7, i_n8, k_cl, if_true, if_false]
          have e40 : t1.1 40 S = nI (BF (cF em pg x0 ne) ne S) := by
            rw [f1.1 40 S (by decide) (by simp), fw1.1 40 S (by decide) (by simp), vu S (by omega)]
          have e41 : t1.1 41 S = nI (fc (cF em pg x0 ne) ne (ne - pcN 8 S) S) := by
            rw [f1.1 41 S (by decide) (by simp), vw S (by omega)]
          have : thX em pg x0 ne b mn S = BF (cF em pg x0 ne) ne S * fc (cF em pg x0 ne) ne (ne - pcN 8 S) S := by simp [thX, e1, e2]
          rw [this] at ih2
          rw [e40, e41, pk_mul, nI_add]
          exact ih2 t1 f1
      · simp (disch := omega) only [i_leT, i_leF, i_ltT, i_ltF, i_eqT, i_eqF, i_okT, i_n1, i_n2, i_n3, i_n4, i_n5, i_n6, i_n7, i_n8, k_cl, if_true, if_false]
        have : thX em pg x0 ne b mn S = 0 := by simp [thX, e1]
        rw [this] at ih2
        exact ih2 t f
  rw [tX0_ordersWith, sX0_allEvents h22 hne, b_bi, tX0_ordersWith_4, hu, b_bv, tX0_ordersWith_10, hw, b_bv, tX0_ordersWith_15]
  try simp only [k_lit, k_nN, k_ofN]
  exact key (2 ^ ne) 0 w (by omega) (fr_rfl w)
/-- the knot: the first of the smallest that have no order -/
def kst (z : Nat → Bool) (S : Nat) (o : Option Nat) : Option Nat := if z S = true then (match o with
  | none => some S
  | some q => if pc S < pc q then some S else some q) else o
def kfd (z : Nat → Bool) : Nat → Nat → Option Nat → Option Nat
  | 0, _, o => o
  | m + 1, S, o => kfd z m (S + 1) (kst z S o)
def kgd (o : Option Nat) : Prop := match o with
  | none => True
  | some q => q < 256
theorem kst_gd {z : Nat → Bool} {S : Nat} {o : Option Nat} (hS : S < 256) (h : kgd o) : kgd (kst z S o) := by
  unfold kst
  split
  · cases o with
    | none => exact hS
    | some q =>
      simp only
      split
      · exact hS
      · exact h
  · exact h
theorem sX0_smallestKnot {nb nr ne : Nat} {pg em : Nat → Int32} {x0 : Nat → Nat} {s : aMem} (h : CtI nb nr ne pg em x0 s) : ∃ u, fX0_smallestKnot [.ref 38] s = some (.inl (some (.int (oI (kfd (fun S => decide (BF (cF em pg x0 ne) ne S = 0)) (2 ^ ne) 0 none)))), u) ∧ fr [39, 40] [] s u := by
  obtain ⟨⟨hnb, hnr, hne⟩, h22, -⟩ := id h
  have h2n : 2 ^ ne ≤ 256 := Nat.pow_le_pow_right (n := 2) (by decide) hne
  have h2p : 1 ≤ 2 ^ ne := Nat.one_le_two_pow
  obtain ⟨u, hu, fu, vu⟩ := sX0_reckonBefore h
  refine ⟨u, ?_, fu⟩
  have key : ∀ m S o, S + m = 2 ^ ne → kgd o → a_run none shp pX0_smallestKnot 14 [some (.ref 38), some (.int (nI (2 ^ ne - 1))), some (.int (oI o)), some (.int (nI S)), none] [] u = some (.inl (some (.int (oI (kfd (fun S => decide (BF (cF em pg x0 ne) ne S = 0)) m S o)))), u) := by
    intro m
    induction m with
    | zero =>
      intro S o hS ho
      rw [tX0_smallestKnot_14]
      simp (disch := omega) only [i_leT, i_leF, i_ltT, i_ltF, i_eqT, i_eqF, i_okT, i_n1, i_n2, i_n3, i_n4, i_n5, i_n6, i_n7, i_n8, k_cl, if_true, if_false]
      rfl
    | succ m ih =>
      intro S o hS ho
      have hb := BF_lt (cf := cF em pg x0 ne) hne (show S < 2 ^ ne by omega)
      have ih2 := ih (S + 1) (kst (fun S => decide (BF (cF em pg x0 ne) ne S = 0)) S o) (by omega) (kst_gd (by omega) ho)
      rw [show kfd (fun S => decide (BF (cF em pg x0 ne) ne S = 0)) (m + 1) S o = kfd (fun S => decide (BF (cF em pg x0 ne) ne S = 0)) m (S + 1) (kst (fun S => decide (BF (cF em pg x0 ne) ne S = 0)) S o) from rfl, ← ih2, tX0_smallestKnot_14]
      try simp only [k_lit, k_nN, k_ofN, nI_add]
      rw [k_cl (by omega), vu S (by omega)]
      cases o with
      | none =>
        rw [show oI none = nN from rfl]
        simp (disch := omega) only [i_leT, i_leF, i_ltT, i_ltF, i_eqT, i_eqF, i_okT, i_n1, i_n2, i_n3, i_n4, i_n5, i_n6, i_n7, i_n8, k_cl, if_true, if_false]
        by_cases e : BF (cF em pg x0 ne) ne S = 0
        · rw [e]
          simp (disch := omega) only [i_leT, i_leF, i_ltT, i_ltF, i_eqT, i_eqF, i_okT, i_n1, i_n2, i_n3, i_n4, i_n5, i_n6, i_n7, i_n8, k_cl, if_true, if_false]
          simp [kst, e, oI]
        · simp (disch := omega) only [i_leT, i_leF, i_ltT, i_ltF, i_eqT, i_eqF, i_okT, i_n1, i_n2, i_n3, i_n4, i_n5, i_n6, i_n7, i_n8, k_cl, if_true, if_false]
          simp [kst, e, oI]
      | some q =>
        have hq : q < 256 := ho
        have p1 := pc_le S
        have p2 := pc_le q
        rw [show oI (some q) = nI q from rfl]
        simp (disch := omega) only [i_leT, i_leF, i_ltT, i_ltF, i_eqT, i_eqF, i_okT, i_n1, i_n2, i_n3, i_n4, i_n5, i_n6, i_n7, i_n8, k_cl, if_true, if_false]
        rw [sJ6_bitCount (by omega), b_bi, tX0_smallestKnot_28, sJ6_bitCount (by omega), b_bi, tX0_smallestKnot_32]
        try simp only [k_lit, k_nN, k_ofN, nI_add]
        rw [k_cl (by omega), vu S (by omega)]
        by_cases e : BF (cF em pg x0 ne) ne S = 0
        · rw [e]
          by_cases e2 : pc S < pc q
          · simp (disch := omega) only [i_leT, i_leF, i_ltT, i_ltF, i_eqT, i_eqF, i_okT, i_n1, i_n2, i_n3, i_n4, i_n5, i_n6, i_n7, i_n8, k_cl, if_true, if_false]
            simp [kst, e, e2, oI]
          · simp (disch := omega) only [i_leT, i_leF, i_ltT, i_ltF, i_eqT, i_eqF, i_okT, i_n1, i_n2, i_n3, i_n4, i_n5, i_n6, i_n7, i_n8, k_cl, if_true, if_false]
            simp [kst, e, e2, oI]
        · by_cases e2 : pc S < pc q
          · simp (disch := omega) only [i_leT, i_leF, i_ltT, i_ltF, i_eqT, i_eqF, i_okT, i_n1, i_n2, i_n3, i_n4, i_n5, i_n6, i_n7, i_n8, k_cl, if_true, if_false]
            simp [kst, e, oI]
          · simp (disch := omega) only [i_leT, i_leF, i_ltT, i_ltF, i_eqT, i_eqF, i_okT, i_n1, i_n2, i_n3, i_n4, i_n5, i_n6, i_n7, i_n8, k_cl, if_true, if_false]
            simp [kst, e, oI]
  rw [tX0_smallestKnot, sX0_allEvents h22 hne, b_bi, tX0_smallestKnot_4, hu, b_bv, tX0_smallestKnot_10]
  try simp only [k_lit, k_nN, k_ofN]
  exact key (2 ^ ne) 0 none (by omega) trivial
