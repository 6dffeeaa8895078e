/-! ===== the runs over the code ===== -/
theorem sf_op {i n m : Nat} {t : List (Nat × Nat)} (hi : i < 10) (h2 : i ≠ 2) (h9 : i ≠ 9) (h : sfH ((2, i) :: t) n m) : 2 ≤ n ∧ sfH t (n - 1) m := by
  rcases (show i = 0 ∨ i = 1 ∨ i = 3 ∨ i = 4 ∨ i = 5 ∨ i = 6 ∨ i = 7 ∨ i = 8 by omega) with e | e | e | e | e | e | e | e <;> subst e <;> exact h
theorem ev_op {p : Nat → Int32} {i : Nat} {x y : Int32} {st : List Int32} (hi : i < 10) (h2 : i ≠ 2) (h9 : i ≠ 9) : evq p (2, i) (y :: x :: st) = jn i x y :: st := by
  rcases (show i = 0 ∨ i = 1 ∨ i = 3 ∨ i = 4 ∨ i = 5 ∨ i = 6 ∨ i = 7 ∨ i = 8 by omega) with e | e | e | e | e | e | e | e <;> subst e <;> rfl
theorem st_1 {st : List Int32} {n : Nat} (h : n + 1 ≤ st.length) : ∃ x st', st = x :: st' := by
  cases st with
  | nil => simp at h
  | cons x st' => exact ⟨x, st', rfl⟩
theorem reckX {v1 v2 v3 v4 : Int32} {n : Nat} (hn : n ≤ 700) : ∀ (c : List (Nat × Nat)) (j : Nat) (st : List Int32) (s : aMem), (∀ q, q ∈ c → stOk q) → (∀ i q, c[i]? = some q → s.1 14 (j + i) = xst q) → j + c.length = n → s.1 13 1 = nI n → s.1 13 3 = nI st.length → Rp (s.1 15) st → st.length ≤ 64 → sfH c st.length 1 → ∃ u, a_run none shp pX1_reckon 8 [some (.ref 13), some (.int v1), some (.int v2), some (.int v3), some (.int v4), some (.int (nI j)), none] [] s = some (.inl (some (.int ((evl (pf v1 v2 v3 v4) c st).headD (nI 0)))), u) ∧ fr [15] [(13, 3)] s u := by
  intro c
  induction c with
  | nil =>
    intro j st s _ _ hj h1 h3 hr h64 hs
    have hs1 : st.length = 1 := hs
    obtain ⟨x, st', rfl⟩ := st_1 (st := st) (n := 0) (by omega)
    have e0 : st' = [] := List.eq_nil_of_length_eq_zero (by simpa using hs1)
    subst e0
    refine ⟨s, ?_, fr_rfl s⟩
    simp only [List.length_nil] at hj
    rw [tX1_reckon_8, h1, h3]
    simp only [k_lit, List.length_cons, List.length_nil, Nat.zero_add]
    rw [i_leT (by omega) (by omega), pk_sub (by omega)]
    simp (disch := omega) only [i_leT, i_leF, i_ltT, i_ltF, i_eqT, i_eqF, i_okT, i_n1, i_n2, i_n3, i_n4, i_n5, i_n6, i_n7, i_n8, k_cl, if_true, if_false]
    have := hr.1
    simp only [List.length_nil] at this
    rw [show 1 - 1 = 0 from rfl, this]
    rfl
  | cons q c ih =>
    intro j st s hq hc hj h1 h3 hr h64 hs
    simp only [List.length_cons] at hj
    have hq0 := hq q (by simp)
    have hx := hc 0 q rfl
    rw [Nat.add_zero] at hx
    -- the rest from a state that differs at the stack alone
    have go : ∀ (st' : List Int32) (s' : aMem), fr [15] [(13, 3)] s s' → s'.1 13 3 = nI st'.length → Rp (s'.1 15) st' → st'.length ≤ 64 → sfH c st'.length 1 → ∃ u, a_run none shp pX1_reckon 167 [some (.ref 13), some (.int v1), some (.int v2), some (.int v3), some (.int v4), some (.int (nI j)), none] [] s' = some (.inl (some (.int ((evl (pf v1 v2 v3 v4) c st').headD (nI 0)))), u) ∧ fr [15] [(13, 3)] s u := by
      intro st' s' f a1 a2 a3 a4
      obtain ⟨u, hu, fu⟩ := ih (j + 1) st' s' (fun q hq2 => hq q (by simp [hq2])) (fun i q hi => by rw [f.1 14 _ (by decide) (by simp), show j + 1 + i = j + (i + 1) by omega]; exact hc (i + 1) q (by simpa using hi)) (by omega) (by rw [f.1 13 1 (by decide) (by decide)]; exact h1) a1 a2 a3 a4
      refine ⟨u, ?_, fr_trans f fu⟩
      rw [tX1_reckon_167]
      simp only [k_lit, nI_add]
      exact hu
    have push : ∀ v : Int32, st.length < 64 → sfH c (st.length + 1) 1 → ∃ u, a_bv (fX1_push [.ref 13, .int v] s) (fun s24 => a_run none shp pX1_reckon 167 [some (.ref 13), some (.int v1), some (.int v2), some (.int v3), some (.int v4), some (.int (nI j)), none] [] s24) none (fun x s1 => some (.inr x, s1)) = some (.inl (some (.int ((evl (pf v1 v2 v3 v4) c (v :: st)).headD (nI 0)))), u) ∧ fr [15] [(13, 3)] s u := by
      intro v hl hs2
      rw [sX1_push h3 hl, b_bv]
      refine go (v :: st) _ (fr_si (fr_si (fr_rfl s) (by simp)) (by simp)) (by simp [m_si]) ?_ (by simp only [List.length_cons]; omega) (by simpa using hs2)
      exact Rp_o (Rp_set hr rfl) (by decide)
    rw [tX1_reckon_8, h1]
    simp only [k_lit]
    rw [i_leF (by omega) (by omega), i_okT (by omega) (by omega), k_cl (by omega), hx]
    obtain ⟨a, b⟩ := q
    rcases hq0 with ⟨e, hb⟩ | ⟨e, hb⟩ | ⟨e, hb⟩ <;> simp only at e hb <;> subst e
    · -- a number
      have hs2 : st.length < 64 ∧ sfH c (st.length + 1) 1 := hs
      simp (disch := omega) only [xst, ng_nI, ng_nlt, ↓reduceIte]
      exact push (nI b) hs2.1 hs2.2
    · -- a part
      have hs2 : st.length < 64 ∧ sfH c (st.length + 1) 1 := hs
      rcases (show b = 0 ∨ b = 1 ∨ b = 2 ∨ b = 3 by omega) with e | e | e | e <;> subst e <;> simp (disch := omega) only [xst, ng_eq, Nat.reduceEqDiff, Nat.reduceAdd, Nat.zero_add, ↓reduceIte]
      · exact push v1 hs2.1 hs2.2
      · exact push v2 hs2.1 hs2.2
      · exact push v3 hs2.1 hs2.2
      · exact push v4 hs2.1 hs2.2
    · by_cases e2 : b = 2
      · subst e2
        have hs2 : 1 ≤ st.length ∧ sfH c st.length 1 := hs
        obtain ⟨x, st', rfl⟩ := st_1 (st := st) (n := 0) (by omega)
        simp (disch := omega) only [xst, ng_eq, Nat.reduceEqDiff, Nat.reduceAdd, ↓reduceIte]
        simp only [List.length_cons] at h3 h64 hs2
        rw [sX1_turn h3 (by omega), b_bv, hr.1]
        refine go ((if x = nI 0 then nI 1 else nI 0) :: st') _ (fr_si (fr_rfl s) (by simp)) ?_ (Rp_set hr.2 rfl) (by simpa using h64) (by simpa using hs2.2)
        simpa [m_si] using h3
      · by_cases e9 : b = 9
        · subst e9
          have hs2 : 3 ≤ st.length ∧ sfH c (st.length - 2) 1 := hs
          obtain ⟨z, st1, rfl⟩ := st_1 (st := st) (n := 0) (by omega)
          simp only [List.length_cons] at h3 h64 hs2
          obtain ⟨y, st2, rfl⟩ := st_1 (st := st1) (n := 0) (by omega)
          simp only [List.length_cons] at h3 h64 hs2
          obtain ⟨x, st', rfl⟩ := st_1 (st := st2) (n := 0) (by omega)
          simp only [List.length_cons] at h3 h64 hs2
          simp (disch := omega) only [xst, ng_eq, Nat.reduceEqDiff, Nat.reduceAdd, ↓reduceIte]
          obtain ⟨r1, r2, r3, r4⟩ := hr
          simp only [List.length_cons] at r1 r2
          rw [sX1_choose (n := st'.length) h3 (by omega), b_bv, r3, r2, r1]
          refine go ((if x = nI 0 then z else y) :: st') _ (fr_si (fr_si (fr_rfl s) (by simp)) (by simp)) ?_ ?_ ?_ ?_
          · simp [m_si]
          · exact Rp_set (Rp_o r4 (by decide)) rfl
          · simp only [List.length_cons]; omega
          · simp only [List.length_cons]
            have := hs2.2
            rw [show st'.length + 1 + 1 + 1 - 2 = st'.length + 1 by omega] at this
            exact this
        · have hs2 := sf_op hb e2 e9 hs
          obtain ⟨y, st1, rfl⟩ := st_1 (st := st) (n := 0) (by omega)
          simp only [List.length_cons] at h3 h64 hs2
          obtain ⟨x, st', rfl⟩ := st_1 (st := st1) (n := 0) (by omega)
          simp only [List.length_cons] at h3 h64 hs2
          obtain ⟨r1, r2, r3⟩ := hr
          simp only [List.length_cons] at r1
          have w := sX1_work (s := s) (i := b) (n := st'.length) (by omega) e2 h3 (by omega)
          rw [r2, r1] at w
          have g := go (jn b x y :: st') _ (fr_si (fr_si (fr_rfl s) (k := 13) (j := 3) (x := nI (st'.length + 1)) (by simp)) (k := 15) (j := st'.length) (x := jn b x y) (by simp)) (by simp [m_si]) (Rp_set (Rp_o r3 (by decide)) rfl) (by simp only [List.length_cons]; omega) (by
            simp only [List.length_cons]
            have := hs2.2
            rw [show st'.length + 1 + 1 - 1 = st'.length + 1 by omega] at this
            exact this)
          have e := ev_op (p := pf v1 v2 v3 v4) (x := x) (y := y) (st := st') hb e2 e9
          rw [show evl (pf v1 v2 v3 v4) ((2, b) :: c) (y :: x :: st') = evl (pf v1 v2 v3 v4) c (jn b x y :: st') by rw [← e]; rfl]
          rcases (show b = 0 ∨ b = 1 ∨ b = 3 ∨ b = 4 ∨ b = 5 ∨ b = 6 ∨ b = 7 ∨ b = 8 by omega) with e | e | e | e | e | e | e | e <;> subst e <;> simp only [Nat.reduceAdd, Nat.zero_add] at w <;> simp (disch := omega) only [xst, ng_eq, ng_lt, Nat.reduceEqDiff, Nat.reduceAdd, Nat.zero_add, ↓reduceIte] <;> rw [w, b_bv] <;> exact g
theorem mcode_cons (q : Nat × Nat) (c : List (Nat × Nat)) : mcode (q :: c) = mst q ++ mcode c := by
  unfold mcode
  rw [List.flatMap_cons, List.append_assoc]
theorem mc_len (q : Nat × Nat) : (mst q).length ≤ 2 := by
  unfold mst
  split <;> simp
theorem mcode_len : ∀ c : List (Nat × Nat), (mcode c).length ≤ 2 * c.length + 1
  | [] => by simp [mcode]
  | q :: c => by
    have := mcode_len c
    have := mc_len q
    rw [mcode_cons, List.length_append, List.length_cons]
    omega
theorem reckM {v1 v2 v3 v4 : Int32} : ∀ (c : List (Nat × Nat)) (j : Nat) (st : List Int32) (s : aMem), (∀ q, q ∈ c → stOk q) → (∀ i x, (mcode c)[i]? = some x → s.1 48 (j + i) = x) → j + (mcode c).length ≤ 1600 → Rp (s.1 58) st → st.length ≤ 64 → sfH c st.length 1 → ∃ u, a_run none shp pX9_reckons 6 [some (.ref 43), some (.int v1), some (.int v2), some (.int v3), some (.int v4), some (.int (nI st.length)), some (.int (nI j)), none, none] [] s = some (.inl (some (.int ((evl (pf v1 v2 v3 v4) c st).headD (nI 0)))), u) ∧ fr [58] [] s u := by
  intro c
  induction c with
  | nil =>
    intro j st s _ hc hj hr h64 hs
    have hs1 : st.length = 1 := hs
    obtain ⟨x, st', rfl⟩ := st_1 (st := st) (n := 0) (by omega)
    have e0 : st' = [] := List.eq_nil_of_length_eq_zero (by simpa using hs1)
    subst e0
    refine ⟨s, ?_, fr_rfl s⟩
    have h0 := hc 0 (nI 0) rfl
    rw [Nat.add_zero] at h0
    simp only [mcode, List.flatMap_nil, List.nil_append, List.length_cons, List.length_nil] at hj
    rw [tX9_reckons_6]
    simp only [k_lit]
    simp (disch := omega) only [i_leT, i_leF, i_ltT, i_ltF, i_eqT, i_eqF, i_okT, i_n1, i_n2, i_n3, i_n4, i_n5, i_n6, i_n7, i_n8, k_cl, if_true, if_false]
    rw [h0]
    simp (disch := omega) only [i_leT, i_leF, i_ltT, i_ltF, i_eqT, i_eqF, i_okT, i_n1, i_n2, i_n3, i_n4, i_n5, i_n6, i_n7, i_n8, k_cl, if_true, if_false]
    have := hr.1
    simp only [List.length_nil] at this
    rw [this]
    rfl
  | cons q c ih =>
    intro j st s hq hc hj hr h64 hs
    rw [mcode_cons] at hc hj
    rw [List.length_append] at hj
    have hq0 := hq q (by simp)
    have hlc : 1 ≤ (mcode c).length := by unfold mcode; simp
    -- the rest
    have go : ∀ (k : Nat) (st' : List Int32) (s' : aMem), k = (mst q).length → fr [58] [] s s' → Rp (s'.1 58) st' → st'.length ≤ 64 → sfH c st'.length 1 → ∃ u, a_run none shp pX9_reckons 6 [some (.ref 43), some (.int v1), some (.int v2), some (.int v3), some (.int v4), some (.int (nI st'.length)), some (.int (nI (j + k))), none, none] [] s' = some (.inl (some (.int ((evl (pf v1 v2 v3 v4) c st').headD (nI 0)))), u) ∧ fr [58] [] s u := by
      intro k st' s' hk f a2 a3 a4
      obtain ⟨u, hu, fu⟩ := ih (j + k) st' s' (fun q hq2 => hq q (by simp [hq2])) (fun i x hi => by
        rw [f.1 48 _ (by decide) (by simp), show j + k + i = j + (k + i) by omega]
        refine hc (k + i) x ?_
        rw [hk, List.getElem?_append_right (by omega), Nat.add_sub_cancel_left]
        exact hi) (by omega) a2 a3 a4
      exact ⟨u, hu, fr_trans f fu⟩
    have put : ∀ v : Int32, 2 = (mst q).length → st.length < 64 → sfH c (st.length + 1) 1 → ∃ u, a_run none shp pX9_reckons 97 [some (.ref 43), some (.int v1), some (.int v2), some (.int v3), some (.int v4), some (.int (nI st.length)), some (.int (nI (j + 1))), none, none] [.int v, .int (nI st.length), .ref 58] s = some (.inl (some (.int ((evl (pf v1 v2 v3 v4) c (v :: st)).headD (nI 0)))), u) ∧ fr [58] [] s u := by
      intro v hk hl hs2
      rw [tX9_reckons_97]
      simp only [k_lit, nI_add]
      simp (disch := omega) only [i_leT, i_leF, i_ltT, i_ltF, i_eqT, i_eqF, i_okT, i_n1, i_n2, i_n3, i_n4, i_n5, i_n6, i_n7, i_n8, k_cl, if_true, if_false]
      have g := go 2 (v :: st) (a_si s 58 st.length v) hk (fr_si (fr_rfl s) (by simp)) (Rp_set hr rfl) (by simp only [List.length_cons]; omega) (by simpa using hs2)
      simp only [List.length_cons] at g
      exact g
    obtain ⟨a, b⟩ := q
    rw [tX9_reckons_6]
    simp only [k_lit, nI_add]
    rcases hq0 with ⟨e, hb⟩ | ⟨e, hb⟩ | ⟨e, hb⟩ <;> simp only at e hb <;> subst e
    · have hs2 : st.length < 64 ∧ sfH c (st.length + 1) 1 := hs
      have c0 := hc 0 (nI 1) rfl
      have c1 := hc 1 (nI b) rfl
      rw [Nat.add_zero] at c0
      simp only [mst, List.length_cons, List.length_nil] at hj
      simp (disch := omega) only [i_leT, i_leF, i_ltT, i_ltF, i_eqT, i_eqF, i_okT, i_n1, i_n2, i_n3, i_n4, i_n5, i_n6, i_n7, i_n8, k_cl, if_true, if_false]
      rw [c0]
      simp (disch := omega) only [i_leT, i_leF, i_ltT, i_ltF, i_eqT, i_eqF, i_okT, i_n1, i_n2, i_n3, i_n4, i_n5, i_n6, i_n7, i_n8, k_cl, if_true, if_false]
      rw [tX9_reckons_28]
      simp only [k_lit]
      simp (disch := omega) only [i_leT, i_leF, i_ltT, i_ltF, i_eqT, i_eqF, i_okT, i_n1, i_n2, i_n3, i_n4, i_n5, i_n6, i_n7, i_n8, k_cl, if_true, if_false]
      rw [tX9_reckons_40]
      simp only [k_lit]
      simp (disch := omega) only [i_leT, i_leF, i_ltT, i_ltF, i_eqT, i_eqF, i_okT, i_n1, i_n2, i_n3, i_n4, i_n5, i_n6, i_n7, i_n8, k_cl, if_true, if_false]
      rw [c1]
      exact put (nI b) rfl hs2.1 hs2.2
    · have hs2 : st.length < 64 ∧ sfH c (st.length + 1) 1 := hs
      have c0 := hc 0 (nI 2) rfl
      have c1 := hc 1 (nI b) rfl
      rw [Nat.add_zero] at c0
      simp only [mst, List.length_cons, List.length_nil] at hj
      simp (disch := omega) only [i_leT, i_leF, i_ltT, i_ltF, i_eqT, i_eqF, i_okT, i_n1, i_n2, i_n3, i_n4, i_n5, i_n6, i_n7, i_n8, k_cl, if_true, if_false]
      rw [c0]
      simp (disch := omega) only [i_leT, i_leF, i_ltT, i_ltF, i_eqT, i_eqF, i_okT, i_n1, i_n2, i_n3, i_n4, i_n5, i_n6, i_n7, i_n8, k_cl, if_true, if_false]
      rw [tX9_reckons_28]
      simp only [k_lit]
      simp (disch := omega) only [i_leT, i_leF, i_ltT, i_ltF, i_eqT, i_eqF, i_okT, i_n1, i_n2, i_n3, i_n4, i_n5, i_n6, i_n7, i_n8, k_cl, if_true, if_false]
      rw [tX9_reckons_40]
      simp only [k_lit]
      simp (disch := omega) only [i_leT, i_leF, i_ltT, i_ltF, i_eqT, i_eqF, i_okT, i_n1, i_n2, i_n3, i_n4, i_n5, i_n6, i_n7, i_n8, k_cl, if_true, if_false]
      rw [c1]
      rcases (show b = 0 ∨ b = 1 ∨ b = 2 ∨ b = 3 by omega) with e | e | e | e <;> subst e
      · simp (disch := omega) only [i_leT, i_leF, i_ltT, i_ltF, i_eqT, i_eqF, i_okT, i_n1, i_n2, i_n3, i_n4, i_n5, i_n6, i_n7, i_n8, k_cl, if_true, if_false]
        exact put v1 rfl hs2.1 hs2.2
      · simp (disch := omega) only [i_leT, i_leF, i_ltT, i_ltF, i_eqT, i_eqF, i_okT, i_n1, i_n2, i_n3, i_n4, i_n5, i_n6, i_n7, i_n8, k_cl, if_true, if_false]
        exact put v2 rfl hs2.1 hs2.2
      · simp (disch := omega) only [i_leT, i_leF, i_ltT, i_ltF, i_eqT, i_eqF, i_okT, i_n1, i_n2, i_n3, i_n4, i_n5, i_n6, i_n7, i_n8, k_cl, if_true, if_false]
        exact put v3 rfl hs2.1 hs2.2
      · simp (disch := omega) only [i_leT, i_leF, i_ltT, i_ltF, i_eqT, i_eqF, i_okT, i_n1, i_n2, i_n3, i_n4, i_n5, i_n6, i_n7, i_n8, k_cl, if_true, if_false]
        exact put v4 rfl hs2.1 hs2.2
    · have c0 := hc 0 (nI (mop b)) rfl
      rw [Nat.add_zero] at c0
      simp only [mst, List.length_cons, List.length_nil] at hj
      simp (disch := omega) only [i_leT, i_leF, i_ltT, i_ltF, i_eqT, i_eqF, i_okT, i_n1, i_n2, i_n3, i_n4, i_n5, i_n6, i_n7, i_n8, k_cl, if_true, if_false]
      rw [c0]
      by_cases e2 : b = 2
      · subst e2
        have hs2 : 1 ≤ st.length ∧ sfH c st.length 1 := hs
        obtain ⟨x, st', rfl⟩ := st_1 (st := st) (n := 0) (by omega)
        simp only [mop]
        simp (disch := omega) only [i_leT, i_leF, i_ltT, i_ltF, i_eqT, i_eqF, i_okT, i_n1, i_n2, i_n3, i_n4, i_n5, i_n6, i_n7, i_n8, k_cl, if_true, if_false]
        rw [tX9_reckons_28]
        simp only [k_lit]
        simp (disch := omega) only [i_leT, i_leF, i_ltT, i_ltF, i_eqT, i_eqF, i_okT, i_n1, i_n2, i_n3, i_n4, i_n5, i_n6, i_n7, i_n8, k_cl, if_true, if_false]
        rw [tX9_reckons_107]
        simp only [k_lit, List.length_cons, k_pred]
        simp only [List.length_cons] at h64 hs2
        simp (disch := omega) only [i_leT, i_leF, i_ltT, i_ltF, i_eqT, i_eqF, i_okT, i_n1, i_n2, i_n3, i_n4, i_n5, i_n6, i_n7, i_n8, k_cl, if_true, if_false]
        rw [hr.1]
        have st8 : ∀ v : Int32, ∃ u, a_run none shp pX9_reckons 138 [some (.ref 43), some (.int v1), some (.int v2), some (.int v3), some (.int v4), some (.int (nI (st'.length + 1))), some (.int (nI (j + 1))), none, none] [.int v, .int (nI st'.length), .ref 58] s = some (.inl (some (.int ((evl (pf v1 v2 v3 v4) c (v :: st')).headD (nI 0)))), u) ∧ fr [58] [] s u := by
          intro v
          rw [tX9_reckons_138]
          simp (disch := omega) only [i_leT, i_leF, i_ltT, i_ltF, i_eqT, i_eqF, i_okT, i_n1, i_n2, i_n3, i_n4, i_n5, i_n6, i_n7, i_n8, k_cl, if_true, if_false]
          have g := go 1 (v :: st') (a_si s 58 st'.length v) rfl (fr_si (fr_rfl s) (by simp)) (Rp_set hr.2 rfl) (by simpa using h64) (by simpa using hs2.2)
          simp only [List.length_cons] at g
          exact g
        have ee : evl (pf v1 v2 v3 v4) ((2, 2) :: c) (x :: st') = evl (pf v1 v2 v3 v4) c ((if x = nI 0 then nI 1 else nI 0) :: st') := rfl
        rw [ee]
        by_cases ex : x = nI 0
        · rw [if_pos ex, if_pos ex]; exact st8 _
        · rw [if_neg ex, if_neg ex]; exact st8 _
      · by_cases e9 : b = 9
        · subst e9
          have hs2 : 3 ≤ st.length ∧ sfH c (st.length - 2) 1 := hs
          obtain ⟨z, st1, rfl⟩ := st_1 (st := st) (n := 0) (by omega)
          simp only [List.length_cons] at h64 hs2
          obtain ⟨y, st2, rfl⟩ := st_1 (st := st1) (n := 0) (by omega)
          simp only [List.length_cons] at h64 hs2
          obtain ⟨x, st', rfl⟩ := st_1 (st := st2) (n := 0) (by omega)
          simp only [List.length_cons] at h64 hs2
          obtain ⟨r1, r2, r3, r4⟩ := hr
          simp only [List.length_cons] at r1 r2
          simp only [mop]
          simp (disch := omega) only [i_leT, i_leF, i_ltT, i_ltF, i_eqT, i_eqF, i_okT, i_n1, i_n2, i_n3, i_n4, i_n5, i_n6, i_n7, i_n8, k_cl, if_true, if_false]
          rw [tX9_reckons_28]
          simp only [k_lit]
          simp (disch := omega) only [i_leT, i_leF, i_ltT, i_ltF, i_eqT, i_eqF, i_okT, i_n1, i_n2, i_n3, i_n4, i_n5, i_n6, i_n7, i_n8, k_cl, if_true, if_false]
          rw [tX9_reckons_107]
          simp only [k_lit]
          simp (disch := omega) only [i_leT, i_leF, i_ltT, i_ltF, i_eqT, i_eqF, i_okT, i_n1, i_n2, i_n3, i_n4, i_n5, i_n6, i_n7, i_n8, k_cl, if_true, if_false]
          rw [tX9_reckons_142]
          simp only [k_lit, List.length_cons]
          simp (disch := omega) only [i_leT, i_leF, i_ltT, i_ltF, i_eqT, i_eqF, i_okT, i_n1, i_n2, i_n3, i_n4, i_n5, i_n6, i_n7, i_n8, k_cl, if_true, if_false]
          rw [show st'.length + 1 + 1 + 1 = (st'.length + 1) + 2 by omega, ng_add, tX9_reckons_152]
          simp only [k_lit, k_pred, nI_add]
          simp (disch := omega) only [i_leT, i_leF, i_ltT, i_ltF, i_eqT, i_eqF, i_okT, i_n1, i_n2, i_n3, i_n4, i_n5, i_n6, i_n7, i_n8, k_cl, if_true, if_false]
          rw [r3, show st'.length + 1 + 1 = st'.length + 1 + 1 from rfl, r1, r2]
          have st8 : ∀ v : Int32, ∃ u, a_run none shp pX9_reckons 191 [some (.ref 43), some (.int v1), some (.int v2), some (.int v3), some (.int v4), some (.int (nI (st'.length + 1))), some (.int (nI (j + 1))), none, none] [.int v, .int (nI st'.length), .ref 58] s = some (.inl (some (.int ((evl (pf v1 v2 v3 v4) c (v :: st')).headD (nI 0)))), u) ∧ fr [58] [] s u := by
            intro v
            rw [tX9_reckons_191]
            simp (disch := omega) only [i_leT, i_leF, i_ltT, i_ltF, i_eqT, i_eqF, i_okT, i_n1, i_n2, i_n3, i_n4, i_n5, i_n6, i_n7, i_n8, k_cl, if_true, if_false]
            have hs3 := hs2.2
            rw [show st'.length + 1 + 1 + 1 - 2 = st'.length + 1 by omega] at hs3
            have g := go 1 (v :: st') (a_si s 58 st'.length v) rfl (fr_si (fr_rfl s) (by simp)) (Rp_set r4 rfl) (by simp only [List.length_cons]; omega) (by simpa using hs3)
            simp only [List.length_cons] at g
            exact g
          have ee : evl (pf v1 v2 v3 v4) ((2, 9) :: c) (z :: y :: x :: st') = evl (pf v1 v2 v3 v4) c ((if x = nI 0 then z else y) :: st') := rfl
          rw [ee]
          by_cases ex : x = nI 0
          · rw [if_pos ex, if_pos ex]; exact st8 _
          · rw [if_neg ex, if_neg ex]; exact st8 _
        · have hs2 := sf_op hb e2 e9 hs
          obtain ⟨y, st1, rfl⟩ := st_1 (st := st) (n := 0) (by omega)
          simp only [List.length_cons] at h64 hs2
          obtain ⟨x, st', rfl⟩ := st_1 (st := st1) (n := 0) (by omega)
          simp only [List.length_cons] at h64 hs2
          obtain ⟨r1, r2, r3⟩ := hr
          simp only [List.length_cons] at r1
          have hmo : mop b ≠ 0 ∧ mop b ≠ 1 ∧ mop b ≠ 2 ∧ mop b ≠ 3 ∧ mop b ≠ 13 ∧ mop b < 20 := by
            rcases (show b = 0 ∨ b = 1 ∨ b = 3 ∨ b = 4 ∨ b = 5 ∨ b = 6 ∨ b = 7 ∨ b = 8 by omega) with e | e | e | e | e | e | e | e <;> subst e <;> decide
          simp (disch := omega) only [i_leT, i_leF, i_ltT, i_ltF, i_eqT, i_eqF, i_okT, i_n1, i_n2, i_n3, i_n4, i_n5, i_n6, i_n7, i_n8, k_cl, if_true, if_false]
          rw [tX9_reckons_28]
          simp only [k_lit]
          simp (disch := omega) only [i_leT, i_leF, i_ltT, i_ltF, i_eqT, i_eqF, i_okT, i_n1, i_n2, i_n3, i_n4, i_n5, i_n6, i_n7, i_n8, k_cl, if_true, if_false]
          rw [tX9_reckons_107]
          simp only [k_lit]
          simp (disch := omega) only [i_leT, i_leF, i_ltT, i_ltF, i_eqT, i_eqF, i_okT, i_n1, i_n2, i_n3, i_n4, i_n5, i_n6, i_n7, i_n8, k_cl, if_true, if_false]
          rw [tX9_reckons_142]
          simp only [k_lit]
          simp (disch := omega) only [i_leT, i_leF, i_ltT, i_ltF, i_eqT, i_eqF, i_okT, i_n1, i_n2, i_n3, i_n4, i_n5, i_n6, i_n7, i_n8, k_cl, if_true, if_false]
          rw [tX9_reckons_195]
          simp only [k_lit, List.length_cons]
          rw [ng_add, tX9_reckons_198]
          simp only [k_lit, k_pred]
          simp (disch := omega) only [i_leT, i_leF, i_ltT, i_ltF, i_eqT, i_eqF, i_okT, i_n1, i_n2, i_n3, i_n4, i_n5, i_n6, i_n7, i_n8, k_cl, if_true, if_false]
          rw [r1, r2, sX9_works (by omega) e2, b_bi]
          have hs3 := hs2.2
          rw [show st'.length + 1 + 1 - 1 = st'.length + 1 by omega] at hs3
          have g := go 1 (jn b x y :: st') (a_si s 58 st'.length (jn b x y)) rfl (fr_si (fr_rfl s) (by simp)) (Rp_set r3 rfl) (by simp only [List.length_cons]; omega) (by simpa using hs3)
          have e := ev_op (p := pf v1 v2 v3 v4) (x := x) (y := y) (st := st') hb e2 e9
          rw [show evl (pf v1 v2 v3 v4) ((2, b) :: c) (y :: x :: st') = evl (pf v1 v2 v3 v4) c (jn b x y :: st') by rw [← e]; rfl]
          simp only [List.length_cons] at g
          exact g
theorem sX1_reckon {s : aMem} {c : List (Nat × Nat)} {mc : Nat → Int32} (h : CodeI c (s.1 14) (s.1 13 1) mc) (v1 v2 v3 v4 : Int32) : ∃ u, fX1_reckon [.ref 13, .int v1, .int v2, .int v3, .int v4] s = some (.inl (some (.int (pgv c (pf v1 v2 v3 v4)))), u) ∧ fr [15] [(13, 3)] s u := by
  obtain ⟨h1, h2, h3, -, h5, h6⟩ := h
  obtain ⟨u, hu, fu⟩ := reckX (v1 := v1) (v2 := v2) (v3 := v3) (v4 := v4) h1 c 0 [] (a_si s 13 3 (nI 0)) h5 (fun i q hi => by simpa [m_si] using h3 i q hi) (by omega) (by simpa [m_si] using h2) (by simp [m_si]) trivial (by simp) h6
  refine ⟨u, ?_, fr_trans (fr_si (fr_rfl s) (by simp)) fu⟩
  rw [tX1_reckon]
  simp only [k_lit]
  exact hu
theorem sX9_reckons {s : aMem} {c : List (Nat × Nat)} {xc : Nat → Int32} {xn : Int32} (h : CodeI c xc xn (s.1 48)) (v1 v2 v3 v4 : Int32) : ∃ u, fX9_reckons [.ref 43, .int v1, .int v2, .int v3, .int v4] s = some (.inl (some (.int (pgv c (pf v1 v2 v3 v4)))), u) ∧ fr [58] [] s u := by
  obtain ⟨h1, -, -, h4, h5, h6⟩ := h
  have hl := mcode_len c
  obtain ⟨u, hu, fu⟩ := reckM (v1 := v1) (v2 := v2) (v3 := v3) (v4 := v4) c 0 [] s h5 (fun i x hi => by rw [Nat.zero_add]; exact h4 i x hi) (by omega) trivial (by simp) h6
  refine ⟨u, ?_, fu⟩
  rw [tX9_reckons]
  simp only [k_lit]
  exact hu
