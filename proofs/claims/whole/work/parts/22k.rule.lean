/-! ===== the rules of the levels ===== -/
def Ql (B : Nat → Nat) (n l d f : Nat) (r : PR) : Prop := Pu B n l (bS d + (5 - l)) 0 f r ∧ TK B n f r ∧ ∀ nt s W O ts, ME B n f W O (d + 1) ts s → (l ≤ 2 → ts (d + 1) = 0) → lowW (sgm l) W → MRz B n (sgm l) W O d ts (stt l nt s) s r
def Qo (B : Nat → Nat) (n l d f : Nat) (r : PR) : Prop := (nO B n (l + 1) f → Pu B n l (bS d + (5 - l)) 1 f r) ∧ ∀ s P W O ts, ME B n f (P ++ W) O (d + 1) ts s → (∀ x, x ∈ P → x < 14 ∧ sgm l ≤ stre x) → lowW (sgm l) W → (sgm l ≤ 4 → (sgn B n f 60 = true ∨ sgn B n f 61 = true) → ts (d + 1) = 1) → MRz B n (sgm l) W (O ++ P.map nI) d ts (ML s) s r
def Qs (B : Nat → Nat) (n d f : Nat) (r : PR) : Prop := Pu B n 2 (bS d + 3) 0 f r ∧ TK B n f r ∧ ∀ nt s W O ts, ME B n f W O (d + 1) ts s → ts (d + 1) = 0 → lowW 4 W → MRz B n 4 W O d ts (OP79 nt s) s r
def Qn (B : Nat → Nat) (n k d f : Nat) (r : PR) : Prop := Pu B n 2 (bS d + 3) 0 f r ∧ TK B n f r ∧ ∀ s W O ts, ME B n f W O (d + 1) ts s → ts (d + 1) = 0 → lowW 4 W → MRz B n 3 W O d ts (OP18 k s) s r
theorem pre_nil (r : PR) : pre [] r = r := by
  rcases r with ⟨g, c⟩ | e <;> rfl
theorem sgm_s {l : Nat} (hl : l = 0 ∨ l = 1 ∨ l = 3 ∨ l = 4) : sgm l ≤ sgm (l + 1) ∧ (sgm l ≤ 4 → sgm (l + 1) ≤ 4) ∧ (l ≤ 2 ↔ l + 1 ≤ 2) := by
  rcases hl with e | e | e | e <;> subst e <;> decide
theorem stt_s {l nt : Nat} {s : aMem} (hl : l = 0 ∨ l = 1 ∨ l = 3 ∨ l = 4) : stt l nt s = stt (l + 1) nt s := by
  rcases hl with e | e | e | e <;> subst e <;> rfl
theorem Ql_up {B : Nat → Nat} {n l d f : Nat} {e : Nat × Nat} (hl : l = 0 ∨ l = 1 ∨ l = 3 ∨ l = 4) (h : Ql B n (l + 1) d f (.inr e)) : Ql B n l d f (.inr e) := by
  obtain ⟨h1, h2, h3⟩ := h
  refine ⟨h1, h2, fun nt s W O ts hm ht hw => ?_⟩
  rw [stt_s hl]
  exact MRz_wk (h3 nt s W O ts hm (fun q => ht (by omega)) (lowW_mono hw (sgm_s hl).1)) (sgm_s hl).1 (sgm_s hl).2.1
theorem Pu_r {B : Nat → Nat} {n l l' bt bt' h0 h0' f f' : Nat} {e : Nat × Nat} (h : Pu B n l bt h0 f (.inr e)) : Pu B n l' bt' h0' f' (.inr e) := h
theorem Ql_lo {B : Nat → Nat} {n l d f g : Nat} {c : List (Nat × Nat)} {r : PR} (hl : l = 0 ∨ l = 1 ∨ l = 3 ∨ l = 4) (h : Ql B n (l + 1) d f (.inl (g, c))) (ho : Qo B n l d g r) : Ql B n l d f (pre c r) := by
  obtain ⟨h1, h2, h3⟩ := h
  obtain ⟨o1, o2⟩ := ho
  obtain ⟨a1, a2, a3, a4, a5⟩ := h1
  have o1 := o1 a5
  refine ⟨?_, fun q => ?_, fun nt s W O ts hm ht hw => ?_⟩
  · rcases r with ⟨g', c'⟩ | ⟨k, p⟩
    · obtain ⟨b1, b2, b3, b4, b5⟩ := o1
      refine ⟨by simp only [List.length_append]; omega, b2, fun q hq => ?_, fun h hh => ?_, b5⟩
      · rcases List.mem_append.mp hq with e | e
        · exact a3 q e
        · exact b3 q e
      · exact sfH_app c c' _ (h + 1) _ (a4 h (by omega)) (b4 h hh)
    · exact o1
  · have := h2 q
    cases this
  · rw [stt_s hl]
    obtain ⟨u, P, O', ts', q1, q2, q3, q4, q5, q6, q7, q8⟩ := h3 nt s W O ts hm (fun q => ht (by omega)) (lowW_mono hw (sgm_s hl).1)
    have := o2 u P W O' ts' q3 (fun x hx => ⟨(q5 x hx).1, Nat.le_trans (sgm_s hl).1 (q5 x hx).2⟩) hw (fun a b => q8 ((sgm_s hl).2.1 a) b)
    exact MRz_pre this q1 q2 q4 q6 (fun a => q7 (Nat.le_trans a (sgm_s hl).1))
theorem Qo_n {B : Nat → Nat} {n l d f : Nat} (hl : l = 0 ∨ l = 1 ∨ l = 3 ∨ l = 4) (hf : f ≤ n) (h : opr B n l f = none) : Qo B n l d f (.inl (f, [])) := by
  refine ⟨fun hno => ⟨by simp, hf, (fun q hq => by cases hq), fun h hh => rfl, ?_⟩, fun s P W O ts hm hP hw h4 => ?_⟩
  · obtain ⟨a4, a3, a1, a0⟩ := hno
    rcases hl with e | e | e | e <;> subst e
    · exact ⟨fun _ => a4 (by omega), fun _ => a3 (by omega), fun _ => a1 (by omega), fun _ => h⟩
    · exact ⟨fun _ => a4 (by omega), fun _ => a3 (by omega), fun _ => h, fun q => absurd q (by omega)⟩
    · exact ⟨fun _ => a4 (by omega), fun _ => h, fun q => absurd q (by omega), fun q => absurd q (by omega)⟩
    · exact ⟨fun _ => h, fun q => absurd q (by omega), fun q => absurd q (by omega), fun q => absurd q (by omega)⟩
  · exact ⟨s, P, O, ts, rfl, frM_rfl s, hm, by simp, hP, fun _ _ => rfl, fun _ => rfl, h4⟩
theorem Qo_f {B : Nat → Nat} {n l d f i : Nat} {e : Nat × Nat} (hn : n ≤ 700) (hB : ∀ j, j < n → B j < 256) (hl : l = 0 ∨ l = 1 ∨ l = 3 ∨ l = 4) (hi : opr B n l f = some i) (h : Ql B n (l + 1) d (nx B n f) (.inr e)) : Qo B n l d f (.inr e) := by
  obtain ⟨h1, h2, h3⟩ := h
  refine ⟨fun _ => h1, fun s P W O ts hm hP hw h4 => ?_⟩
  obtain ⟨u, ts1, e1, f1, m1, t1, t2, t3, w1, x1, i1, -⟩ := ML_op hn hB hl hi hm hP hw
  obtain ⟨v, q1, q2, q3⟩ := h3 0 u _ _ ts1 m1 t3 w1
  exact ⟨v, e1.trans q1, frM_tr f1 q2, q3⟩
theorem Qo_s {B : Nat → Nat} {n l d f i g : Nat} {c : List (Nat × Nat)} {r : PR} (hn : n ≤ 700) (hB : ∀ j, j < n → B j < 256) (hl : l = 0 ∨ l = 1 ∨ l = 3 ∨ l = 4) (hf : f < n) (hi : opr B n l f = some i) (h : Ql B n (l + 1) d (nx B n f) (.inl (g, c))) (ho : Qo B n l d g r) : Qo B n l d f (pre (c ++ [(2, i)]) r) := by
  obtain ⟨h1, h2, h3⟩ := h
  obtain ⟨o1, o2⟩ := ho
  obtain ⟨a1, a2, a3, a4, a5⟩ := h1
  have o1 := o1 a5
  have hnx := nx_le (B := B) (n := n) (f := f) (by omega)
  have ii : i < 10 ∧ i ≠ 2 ∧ i ≠ 9 := by
    rcases opr_some (by omega) hi with ⟨_, c, _⟩ | ⟨_, c, _⟩ | ⟨_, c, _⟩ | ⟨_, c, _⟩ | ⟨_, c, _⟩ | ⟨_, c, _⟩ | ⟨_, c, _⟩ | ⟨_, c, _⟩ <;> subst c <;> decide
  refine ⟨fun _ => ?_, fun s P W O ts hm hP hw h4 => ?_⟩
  · rcases r with ⟨g', c'⟩ | ⟨k, p⟩
    · obtain ⟨b1, b2, b3, b4, b5⟩ := o1
      refine ⟨by simp only [List.length_append, List.length_cons, List.length_nil]; omega, b2, fun q hq => ?_, fun h hh => ?_, b5⟩
      · rcases List.mem_append.mp hq with e | e
        · rcases List.mem_append.mp e with e | e
          · exact a3 q e
          · rw [List.mem_singleton.mp e]
            exact .inr (.inr ⟨rfl, ii.1⟩)
        · exact b3 q e
      · refine sfH_app _ c' _ (h + 1) _ (sfH_app c [(2, i)] _ (h + 2) _ (a4 (h + 1) (by omega)) (sfH_op ii.1 ii.2.1 ii.2.2)) (b4 h hh)
    · exact o1
  · obtain ⟨u, ts1, e1, f1, m1, t1, t2, t3, w1, x1, i1, -⟩ := ML_op hn hB hl hi hm hP hw
    have A := MRz_post (σ := sgm l) (q := (2, i)) (h3 0 u _ _ ts1 m1 t3 w1) x1 (sgm_s hl).1 mst_op (fun a => .inl ((sgm_s hl).2.1 a))
    obtain ⟨v, P', O', ts', q1, q2, q3, q4, q5, q6, q7, q8⟩ := A
    have := o2 v P' W O' ts' q3 q5 hw q8
    exact MRz_pre this (e1.trans q1) (frM_tr f1 q2) q4 (fun j hj => (q6 j hj).trans (t1 j (by omega))) (fun a => (q7 a).trans (t2 a))
theorem opr_lt {B : Nat → Nat} {n f l i : Nat} (hl : l < 5) (hi : opr B n l f = some i) : f < n := by
  apply Classical.byContradiction
  intro q
  have hk : kd B n f = 0 := by simp [kd]; omega
  rcases opr_some hl hi with ⟨_, _, c⟩ | ⟨_, _, c⟩ | ⟨_, _, c⟩ | ⟨_, _, c⟩ | ⟨_, _, c⟩ | ⟨_, _, c⟩ | ⟨_, _, c⟩ | ⟨_, _, c⟩
  · have := (isW_iff.mp c).1; omega
  · have := (isW_iff.mp c).1; omega
  all_goals (have := (sg_nW c).2.2.1; omega)
/-! a test -/
theorem Qs_f {B : Nat → Nat} {n d f : Nat} {e : Nat × Nat} (h : Ql B n 3 d f (.inr e)) : Qs B n d f (.inr e) := by
  obtain ⟨h1, h2, h3⟩ := h
  exact ⟨h1, h2, fun nt s W O ts hm ht hw => h3 nt s W O ts hm (fun q => absurd q (by decide)) (lowW_mono hw (by decide))⟩
theorem Qs_n {B : Nat → Nat} {n d f g : Nat} {c : List (Nat × Nat)} (h : Ql B n 3 d f (.inl (g, c))) (hi : opr B n 2 g = none) : Qs B n d f (.inl (g, c)) := by
  obtain ⟨h1, h2, h3⟩ := h
  obtain ⟨a1, a2, a3, a4, a5⟩ := h1
  refine ⟨⟨a1, a2, a3, fun h hh => a4 h (by omega), fun _ => a5.1 (by decide), fun _ => a5.2.1 (by decide), fun q => absurd q (by decide), fun q => absurd q (by decide)⟩, h2, fun nt s W O ts hm ht hw => ?_⟩
  obtain ⟨v, P, O', ts', q1, q2, q3, q4, q5, q6, q7, q8⟩ := h3 nt s W O ts hm (fun q => absurd q (by decide)) (lowW_mono hw (by decide))
  exact ⟨v, P, O', ts', q1, q2, q3, q4, fun y hy => ⟨(q5 y hy).1, Nat.le_trans (by decide) (q5 y hy).2⟩, q6, fun hs' => absurd hs' (by decide), fun _ hg => absurd hg (opr_2n hi)⟩
theorem Qs_s {B : Nat → Nat} {n d f g i : Nat} {c : List (Nat × Nat)} {r : PR} (hn : n ≤ 700) (hB : ∀ j, j < n → B j < 256) (h : Ql B n 3 d f (.inl (g, c))) (hi : opr B n 2 g = some i) (h' : Ql B n 3 d (nx B n g) r) : Qs B n d f (pre c (post (2, i) r)) := by
  obtain ⟨h1, h2, h3⟩ := h
  obtain ⟨a1, a2, a3, a4, a5⟩ := h1
  obtain ⟨g1, g2, g3⟩ := h'
  have hgn := opr_lt (by decide) hi
  have hnx := nx_le (B := B) (n := n) (f := g) (by omega)
  have io : (sgn B n g 60 = true ∧ i = 3) ∨ (sgn B n g 61 = true ∧ i = 4) := by
    rcases opr_some (by omega) hi with ⟨c, _, _⟩ | ⟨c, _, _⟩ | ⟨_, c, q⟩ | ⟨_, c, q⟩ | ⟨c, _, _⟩ | ⟨c, _, _⟩ | ⟨c, _, _⟩ | ⟨c, _, _⟩
    · omega
    · omega
    · exact .inl ⟨q, c⟩
    · exact .inr ⟨q, c⟩
    all_goals omega
  refine ⟨?_, fun q => ?_, fun nt s W O ts hm ht hw => ?_⟩
  · rcases r with ⟨g', c'⟩ | ⟨k, p⟩
    · obtain ⟨b1, b2, b3, b4, b5⟩ := g1
      refine ⟨by simp only [List.length_append, List.length_cons, List.length_nil]; omega, b2, fun q hq => ?_, fun h hh => ?_, fun _ => b5.1 (by decide), fun _ => b5.2.1 (by decide), fun q => absurd q (by decide), fun q => absurd q (by decide)⟩
      · rcases List.mem_append.mp hq with e | e
        · exact a3 q e
        · rcases List.mem_append.mp e with e | e
          · exact b3 q e
          · rw [List.mem_singleton.mp e]
            exact .inr (.inr ⟨rfl, by omega⟩)
      · exact sfH_app c _ _ (h + 1) _ (a4 h (by omega)) (sfH_app c' [(2, i)] _ (h + 2) _ (b4 (h + 1) (by omega)) (sfH_op (by omega) (by omega) (by omega)))
    · exact g1
  · have := h2 q
    cases this
  · obtain ⟨v, P, O', ts', q1, q2, q3, q4, q5, q6, q7, q8⟩ := h3 nt s W O ts hm (fun q => absurd q (by decide)) (lowW_mono hw (by decide))
    have t0 : ts' (d + 1) = 0 := (q7 (by decide)).trans ht
    have key : ∃ u, ML v = OPl 0 u ∧ frM v u ∧ ME B n (nx B n g) (mop i :: W) (O' ++ P.map nI) (d + 1) (upN ts' (d + 1) 1) u := by
      rcases io with ⟨c1, c2⟩ | ⟨c1, c2⟩ <;> subst c2
      · exact ML_tst (c := 60) (x := 6) hn hB q3 (fun y hy => ⟨(q5 y hy).1, Nat.le_trans (by decide) (q5 y hy).2⟩) hw (by omega) c1 t0
      · exact ML_tst (c := 61) (x := 7) hn hB q3 (fun y hy => ⟨(q5 y hy).1, Nat.le_trans (by decide) (q5 y hy).2⟩) hw (by omega) c1 t0
    have mi : mop i < 14 ∧ 4 ≤ stre (mop i) ∧ stre (mop i) < 5 := by
      rcases io with ⟨c1, c2⟩ | ⟨c1, c2⟩ <;> subst c2 <;> decide
    obtain ⟨u, e1, f1, m1⟩ := key
    have A := MRz_post (σ := 4) (q := (2, i)) (g3 0 u _ _ _ m1 (fun q => absurd q (by decide)) (lowW_cons (.inr mi.2.2))) ⟨mi.1, mi.2.1⟩ (by decide) mst_op (fun _ => .inr (upN_s _ _ _))
    exact MRz_pre A (q1.trans (e1.trans (OPl_0 m1.2.1))) (frM_tr q2 f1) q4 (fun j hj => (upN_n (by omega)).trans (q6 j hj)) (fun a => absurd a (by decide))
theorem Qn_n {B : Nat → Nat} {n k d f : Nat} {r : PR} (hn : n ≤ 700) (hw : isW B n f 11 = false) (h : Qs B n d f r) : Qn B n k d f r := by
  obtain ⟨h1, h2, h3⟩ := h
  refine ⟨h1, h2, fun s W O ts hm ht hl => ?_⟩
  rw [OP18_n hn hm.1 hm.2.1 hw]
  exact MRz_wk (h3 1 s W O ts hm ht hl) (by decide) (fun _ => by decide)
theorem tk_w {B : Nat → Nat} {n f k : Nat} (h : isW B n f k = true) : tk B n f = true := by
  simp [tk, (isW_iff.mp h).1]
theorem Qn_s {B : Nat → Nat} {n k d f : Nat} {r : PR} (hn : n ≤ 700) (hB : ∀ j, j < n → B j < 256) (hw : isW B n f 11 = true) (hk : k < 6) (h : Qn B n (k + 1) d (nx B n f) r) : Qn B n k d f (post (2, 2) r) := by
  obtain ⟨h1, h2, h3⟩ := h
  have hlt := kd_lt (B := B) (n := n) (f := f) (by rw [(isW_iff.mp hw).1]; omega)
  have hnx := nx_le (B := B) (n := n) (f := f) (by omega)
  refine ⟨?_, fun q => (by rw [tk_w hw] at q; cases q), fun s W O ts hm ht hl => ?_⟩
  · rcases r with ⟨g', c'⟩ | ⟨k, p⟩
    · obtain ⟨b1, b2, b3, b4, b5⟩ := h1
      refine ⟨by simp only [List.length_append, List.length_cons, List.length_nil]; omega, b2, fun q hq => ?_, fun h hh => ?_, b5⟩
      · rcases List.mem_append.mp hq with e | e
        · exact b3 q e
        · rw [List.mem_singleton.mp e]
          exact .inr (.inr ⟨rfl, by omega⟩)
      · exact sfH_app c' _ _ (h + 1) _ (b4 h hh) ⟨by omega, rfl⟩
    · exact h1
  · obtain ⟨u, e1, f1, m1⟩ := OP18_s hn hB hm hw hk
    have A := MRz_post (σ := 3) (q := (2, 2)) (h3 u _ _ ts m1 ht (lowW_cons (.inr (by decide)))) (by decide) (by decide) mst_op (fun _ => .inl (by decide))
    have C := MRz_pre (c := []) (Z := O) (ts := ts) A e1 f1 (by simp) (fun _ _ => rfl) (fun _ => rfl)
    rw [pre_nil] at C
    exact C
theorem Qn_x {B : Nat → Nat} {n d f : Nat} (hn : n ≤ 700) (hf : f ≤ n) (hw : isW B n f 11 = true) : Qn B n 6 d f (.inr (2, f)) := by
  refine ⟨⟨by omega, hf⟩, fun q => (by rw [tk_w hw] at q; cases q), fun s W O ts hm ht hl => ?_⟩
  exact OP18_x hn hm hw
theorem Ql_2 {B : Nat → Nat} {n d f : Nat} {r : PR} (h : Qn B n 0 d f r) : Ql B n 2 d f r := by
  obtain ⟨h1, h2, h3⟩ := h
  refine ⟨h1, h2, fun nt s W O ts hm ht hl => ?_⟩
  have := h3 s W O ts hm (ht (by decide)) (lowW_mono hl (by decide))
  rw [← OPl_1 hm.2.1] at this
  exact this
