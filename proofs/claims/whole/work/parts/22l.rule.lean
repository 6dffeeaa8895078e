/-! ===== the rules of what stands alone ===== -/
theorem stt_5 (nt : Nat) (s : aMem) : stt 5 nt s = OP79 nt s := rfl
theorem stt_0 (nt : Nat) (s : aMem) : stt 0 nt s = OPl 1 s := rfl
theorem nO_5 (B : Nat → Nat) (n g : Nat) : nO B n 5 g := ⟨fun q => absurd q (by decide), fun q => absurd q (by decide), fun q => absurd q (by decide), fun q => absurd q (by decide)⟩
theorem bS_pos (d : Nat) : 1 ≤ bS d := by unfold bS; omega
theorem q_num {B : Nat → Nat} {n d f : Nat} (hn : n ≤ 700) (hB : ∀ j, j < n → B j < 256) (hk : kd B n f = 2) (hl : ed B n f - f ≤ 4) : Ql B n 5 d f (.inl (nx B n f, [(0, nm B n f)])) := by
  have hlt := kd_lt (B := B) (n := n) (f := f) (by omega)
  have hnx := nx_le (B := B) (n := n) (f := f) (by omega)
  have hb := bS_pos d
  refine ⟨⟨by simp only [List.length_cons, List.length_nil]; omega, hnx.2.1, fun q hq => ?_, fun h hh => ⟨by omega, rfl⟩, nO_5 B n _⟩, fun q => ?_, fun nt s W O ts hm _ _ => ?_⟩
  · rw [List.mem_singleton.mp hq]
    exact .inl ⟨rfl, nm_lt hk⟩
  · simp [tk, hk] at q
  · rw [stt_5]
    obtain ⟨u, e, f1, m⟩ := OP_num (nt := nt) hn hB hm hk hl
    exact ⟨u, [], _, ts, e, f1, m, by simp [mst], (fun x hx => by cases hx), fun _ _ => rfl, fun _ => rfl, fun q => absurd q (by decide)⟩
theorem q_big {B : Nat → Nat} {n d f : Nat} (hn : n ≤ 700) (hB : ∀ j, j < n → B j < 256) (hk : kd B n f = 2) (hl : ¬ ed B n f - f ≤ 4) : Ql B n 5 d f (.inr (2, f)) := by
  have hlt := kd_lt (B := B) (n := n) (f := f) (by omega)
  refine ⟨⟨by omega, by omega⟩, fun q => ?_, fun nt s W O ts hm _ _ => ?_⟩
  · simp [tk, hk] at q
  · exact OP_big (nt := nt) hn hB hm hk hl
theorem q_val {B : Nat → Nat} {n d f k : Nat} (hn : n ≤ 700) (hB : ∀ j, j < n → B j < 256) (hw : isW B n f k = true) (hk : k < 4) : Ql B n 5 d f (.inl (nx B n f, [(1, k)])) := by
  have hk1 := (isW_iff.mp hw).1
  have hlt := kd_lt (B := B) (n := n) (f := f) (by omega)
  have hnx := nx_le (B := B) (n := n) (f := f) (by omega)
  have hb := bS_pos d
  refine ⟨⟨by simp only [List.length_cons, List.length_nil]; omega, hnx.2.1, fun q hq => ?_, fun h hh => ⟨by omega, rfl⟩, nO_5 B n _⟩, fun q => ?_, fun nt s W O ts hm _ _ => ?_⟩
  · rw [List.mem_singleton.mp hq]
    exact .inr (.inl ⟨rfl, hk⟩)
  · rw [tk_w hw] at q; cases q
  · rw [stt_5]
    obtain ⟨u, e, f1, m⟩ := OP_val (nt := nt) hn hB hm hw hk
    exact ⟨u, [], _, ts, e, f1, m, by simp [mst], (fun x hx => by cases hx), fun _ _ => rfl, fun _ => rfl, fun q => absurd q (by decide)⟩
theorem q_unk {B : Nat → Nat} {n d f : Nat} (hn : n ≤ 700) (hB : ∀ j, j < n → B j < 256) (hk : kd B n f = 1) (h2 : isW B n f 12 = false) (hw : ∀ k, k < 4 → isW B n f k = false) : Ql B n 5 d f (.inr (3, f)) := by
  have hlt := kd_lt (B := B) (n := n) (f := f) (by omega)
  refine ⟨⟨by omega, by omega⟩, fun q => ?_, fun nt s W O ts hm _ _ => ?_⟩
  · simp [tk, hk] at q
  · exact OP_unk (nt := nt) hn hB hm hk h2 hw
theorem q_bad {B : Nat → Nat} {n d f : Nat} (hn : n ≤ 700) (hB : ∀ j, j < n → B j < 256) (hf : f ≤ n) (ht : tk B n f = false) : Ql B n 5 d f (.inr (1, f)) := by
  refine ⟨⟨by omega, by omega⟩, fun q => rfl, fun nt s W O ts hm _ _ => ?_⟩
  exact OP_bad (nt := nt) hn hB hm ht
theorem op_lt {B : Nat → Nat} {n f x : Nat} (hx : (sgn B n f 40 = true ∧ x = 14) ∨ (isW B n f 12 = true ∧ x = 15)) : f < n ∧ tk B n f = true := by
  rcases hx with c | c
  · have := (sg_nW c.1).2.2.1
    exact ⟨kd_lt (B := B) (by omega), by simp [tk, c.1]⟩
  · have := (isW_iff.mp c.1).1
    exact ⟨kd_lt (B := B) (by omega), tk_w c.1⟩
theorem q_deep {B : Nat → Nat} {n f x : Nat} (hn : n ≤ 700) (hB : ∀ j, j < n → B j < 256) (hx : (sgn B n f 40 = true ∧ x = 14) ∨ (isW B n f 12 = true ∧ x = 15)) : Ql B n 5 5 f (.inr (if tk B n (nx B n f) = true then 2 else 1, nx B n f)) := by
  obtain ⟨hlt, ht⟩ := op_lt hx
  have hnx := nx_le (B := B) (n := n) (f := f) (by omega)
  refine ⟨⟨by split <;> omega, hnx.2.1⟩, fun q => (by rw [ht] at q; cases q), fun nt s W O ts hm _ _ => ?_⟩
  exact OP_openX (nt := nt) hn hB hm hx
/-- what is open: a bracket 14; an 'if' before 'then' 15, before 'else' 16, before 'end' 17 -/
def QT (B : Nat → Nat) (n h0 x d g : Nat) (r : PR) : Prop := Pu B n 5 (bS d) h0 g r ∧ ∀ s P W O ts, ME B n g (P ++ x :: W) O (d + 2) ts s → (∀ y, y ∈ P → y < 14) → nop B n g (ts (d + 2)) → MRz B n 7 W (O ++ P.map nI) d ts (ML s) s r
theorem q_shut {B : Nat → Nat} {n d g : Nat} (hn : n ≤ 700) (hB : ∀ j, j < n → B j < 256) (ht : sgn B n g 41 = true) : QT B n 1 14 d g (.inl (nx B n g, [])) := by
  have hlt := kd_lt (B := B) (n := n) (f := g) (by rw [(sg_nW ht).2.2.1]; omega)
  have hnx := nx_le (B := B) (n := n) (f := g) (by omega)
  refine ⟨⟨by simp only [List.length_nil]; omega, hnx.2.1, (fun q hq => by cases hq), fun h hh => rfl, nO_5 B n _⟩, fun s P W O ts hm hP _ => ?_⟩
  obtain ⟨u, e, f1, m⟩ := ML_par hn hB hm hP ht
  exact ⟨u, [], _, ts, e, f1, m, by simp, (fun x hx => by cases hx), fun _ _ => rfl, fun _ => rfl, fun q => absurd q (by decide)⟩
theorem q_done {B : Nat → Nat} {n d g : Nat} (hn : n ≤ 700) (hB : ∀ j, j < n → B j < 256) (ht : isW B n g 15 = true) : QT B n 3 17 d g (.inl (nx B n g, [(2, 9)])) := by
  have hlt := kd_lt (B := B) (n := n) (f := g) (by rw [(isW_iff.mp ht).1]; omega)
  have hnx := nx_le (B := B) (n := n) (f := g) (by omega)
  refine ⟨⟨by simp only [List.length_cons, List.length_nil]; omega, hnx.2.1, fun q hq => ?_, fun h hh => ⟨by omega, ?_⟩, nO_5 B n _⟩, fun s P W O ts hm hP _ => ?_⟩
  · rw [List.mem_singleton.mp hq]
    exact .inr (.inr ⟨rfl, by omega⟩)
  · simp only [sfH]
    omega
  · obtain ⟨u, e, f1, m⟩ := ML_done hn hB hm hP ht
    exact ⟨u, [], _, ts, e, f1, m, by simp [mst, mop], (fun x hx => by cases hx), fun _ _ => rfl, fun _ => rfl, fun q => absurd q (by decide)⟩
theorem q_not {B : Nat → Nat} {n h0 x d g : Nat} (hn : n ≤ 700) (hB : ∀ j, j < n → B j < 256) (hg : g ≤ n) (hx : 14 ≤ x) (hc : ncl B n g (nI x)) : QT B n h0 x d g (.inr (1, g)) := by
  refine ⟨⟨by omega, hg⟩, fun s P W O ts hm hP hno => ?_⟩
  exact ML_end hn hB hm hP (fun y W' e => by cases e; exact hx) hno hc (by omega)
theorem q_turnF {B : Nat → Nat} {n h0 k x y d g : Nat} {e : Nat × Nat} (hn : n ≤ 700) (hB : ∀ j, j < n → B j < 256) (hk : (k = 13 ∧ x = 15 ∧ y = 16) ∨ (k = 14 ∧ x = 16 ∧ y = 17)) (ht : isW B n g k = true) (h : Ql B n 0 (d + 1) (nx B n g) (.inr e)) : QT B n h0 x d g (.inr e) := by
  obtain ⟨h1, h2, h3⟩ := h
  have hlt := kd_lt (B := B) (n := n) (f := g) (by rw [(isW_iff.mp ht).1]; omega)
  refine ⟨h1, fun s P W O ts hm hP hno => ?_⟩
  have e1 := ML_then hn hB hk hm hP ht
  rw [e1]
  cases c : tk B n (nx B n g)
  · have := h2 c
    cases this
    exact TN_bad hn hB hm hP (by omega) (by omega) hlt c
  · obtain ⟨u, e2, f2, m2⟩ := TN_ok (y := y) hn hB hm hP (by omega) (by omega) hlt c
    obtain ⟨v, q1, q2, q3⟩ := h3 0 u _ _ _ m2 (fun _ => upN_s _ _ _) (lowW_cons (.inl (by omega)))
    exact ⟨v, e2.trans q1, frM_tr f2 q2, q3⟩
theorem q_turn {B : Nat → Nat} {n h0 k x y d g g1 : Nat} {c : List (Nat × Nat)} {r : PR} (hn : n ≤ 700) (hB : ∀ j, j < n → B j < 256) (hd : d < 5) (hk : (k = 13 ∧ x = 15 ∧ y = 16 ∧ h0 = 1) ∨ (k = 14 ∧ x = 16 ∧ y = 17 ∧ h0 = 2)) (ht : isW B n g k = true) (h : Ql B n 0 (d + 1) (nx B n g) (.inl (g1, c))) (ho : QT B n (h0 + 1) y d g1 r) : QT B n h0 x d g (pre c r) := by
  obtain ⟨h1, h2, h3⟩ := h
  obtain ⟨o1, o2⟩ := ho
  obtain ⟨a1, a2, a3, a4, a5⟩ := h1
  have hlt := kd_lt (B := B) (n := n) (f := g) (by rw [(isW_iff.mp ht).1]; omega)
  have hnx := nx_le (B := B) (n := n) (f := g) (by omega)
  have hbs : bS d = bS (d + 1) + 7 := by unfold bS; omega
  refine ⟨?_, fun s P W O ts hm hP hno => ?_⟩
  · rcases r with ⟨g', c'⟩ | ⟨k, p⟩
    · obtain ⟨b1, b2, b3, b4, b5⟩ := o1
      refine ⟨by simp only [List.length_append]; omega, b2, fun q hq => ?_, fun h hh => ?_, b5⟩
      · rcases List.mem_append.mp hq with e | e
        · exact a3 q e
        · exact b3 q e
      · exact sfH_app c c' _ (h + (h0 + 1)) _ (a4 (h + h0) (by omega)) (b4 h hh)
    · exact o1
  · have e1 := ML_then hn hB (by omega : (k = 13 ∧ x = 15 ∧ y = 16) ∨ (k = 14 ∧ x = 16 ∧ y = 17)) hm hP ht
    rw [e1]
    cases c' : tk B n (nx B n g)
    · have := h2 c'
      cases this
    · obtain ⟨u, e2, f2, m2⟩ := TN_ok (y := y) hn hB hm hP (by omega) (by omega) hlt c'
      obtain ⟨v, P', O', ts', q1, q2, q3, q4, q5, q6, q7, q8⟩ := h3 0 u _ _ _ m2 (fun _ => upN_s _ _ _) (lowW_cons (.inl (by omega)))
      have A := o2 v P' W O' ts' q3 (fun y hy => (q5 y hy).1) (nop_of a5 (q8 (by decide)))
      exact MRz_pre A (e2.trans q1) (frM_tr f2 q2) q4 (fun j hj => (q6 j (by omega)).trans (upN_n (by omega))) (fun _ => (q6 (d + 1) (by omega)).trans (upN_n (by omega)))
theorem q_openF {B : Nat → Nat} {n x d f : Nat} {e : Nat × Nat} (hn : n ≤ 700) (hB : ∀ j, j < n → B j < 256) (hd : d < 5) (hx : (sgn B n f 40 = true ∧ x = 14) ∨ (isW B n f 12 = true ∧ x = 15)) (h : Ql B n 0 (d + 1) (nx B n f) (.inr e)) : Ql B n 5 d f (.inr e) := by
  obtain ⟨h1, h2, h3⟩ := h
  obtain ⟨hlt, ht⟩ := op_lt hx
  refine ⟨h1, fun q => (by rw [ht] at q; cases q), fun nt s W O ts hm _ _ => ?_⟩
  obtain ⟨u, e2, f2, m2⟩ := OP_open (nt := nt) hn hB hm hx (by omega)
  obtain ⟨v, q1, q2, q3⟩ := h3 0 u _ _ _ m2 (fun _ => upN_s _ _ _) (lowW_cons (.inl (by omega)))
  exact ⟨v, e2.trans q1, frM_tr f2 q2, q3⟩
theorem q_open {B : Nat → Nat} {n x d f g : Nat} {c : List (Nat × Nat)} {r : PR} (hn : n ≤ 700) (hB : ∀ j, j < n → B j < 256) (hd : d < 5) (hx : (sgn B n f 40 = true ∧ x = 14) ∨ (isW B n f 12 = true ∧ x = 15)) (h : Ql B n 0 (d + 1) (nx B n f) (.inl (g, c))) (ho : QT B n 1 x d g r) : Ql B n 5 d f (pre c r) := by
  obtain ⟨h1, h2, h3⟩ := h
  obtain ⟨o1, o2⟩ := ho
  obtain ⟨a1, a2, a3, a4, a5⟩ := h1
  obtain ⟨hlt, ht⟩ := op_lt hx
  have hnx := nx_le (B := B) (n := n) (f := f) (by omega)
  have hbs : bS d = bS (d + 1) + 7 := by unfold bS; omega
  refine ⟨?_, fun q => (by rw [ht] at q; cases q), fun nt s W O ts hm _ _ => ?_⟩
  · rcases r with ⟨g', c'⟩ | ⟨k, p⟩
    · obtain ⟨b1, b2, b3, b4, b5⟩ := o1
      refine ⟨by simp only [List.length_append]; omega, b2, fun q hq => ?_, fun h hh => ?_, b5⟩
      · rcases List.mem_append.mp hq with e | e
        · exact a3 q e
        · exact b3 q e
      · exact sfH_app c c' _ (h + 1) _ (a4 h (by omega)) (b4 h (by omega))
    · exact o1
  · obtain ⟨u, e2, f2, m2⟩ := OP_open (nt := nt) hn hB hm hx (by omega)
    obtain ⟨v, P', O', ts', q1, q2, q3, q4, q5, q6, q7, q8⟩ := h3 0 u _ _ _ m2 (fun _ => upN_s _ _ _) (lowW_cons (.inl (by omega)))
    have A := o2 v P' W O' ts' q3 (fun y hy => (q5 y hy).1) (nop_of a5 (q8 (by decide)))
    exact MRz_pre A (e2.trans q1) (frM_tr f2 q2) q4 (fun j hj => (q6 j (by omega)).trans (upN_n (by omega))) (fun _ => (q6 (d + 1) (by omega)).trans (upN_n (by omega)))
