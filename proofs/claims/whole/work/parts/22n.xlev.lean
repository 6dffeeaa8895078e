/-! ===== the reading of the levels ===== -/
theorem r01_1x {α : Type} {A C : α} [Decidable (nI 1 = nI 0 ∨ True)] : (if nI 1 = nI 0 ∨ True then A else C) = A := if_pos (.inr trivial)
theorem r01_0x {α : Type} {A C : α} [Decidable (True ∨ nI 0 = nI 1)] : (if True ∨ nI 0 = nI 1 then A else C) = A := if_pos (.inl trivial)
/-- level l at depth d is read as both say -/
def XLs (B : Nat → Nat) (n : Nat) (gg : Nat → aMF) (l d : Nat) : Prop := ∀ f c0 s, XE B n f c0 s → c0.length ≤ f → ∃ r, Ql B n l d f r ∧ XRz B n c0 (gg 1 [.ref 21, .int (nI l), .int (nI d)] s) s r
theorem lev_bad {gg : Nat → aMF} {l d i k p : Nat} {s : aMem} (hi : i < 1000) (h : XBd k p s) : a_run none shp (pX3_readLevel gg) 34 [some (.ref 21), some (.int (nI l)), some (.int (nI d)), some (.int (nI 0)), some (.int (nI i)), none] [] s = some (.inl (some (.int (nI 0))), s) := by
  rw [tX3_readLevel_34]
  try simp only [k_lit, k_nN, k_ofN]
  by_cases e : 700 ≤ i
  · simp (disch := omega) only [i_leT, i_leF, i_ltT, i_ltF, i_eqT, i_eqF, i_okT, i_n1, i_n2, i_n3, i_n4, i_n5, i_n6, i_n7, i_n8, k_cl, if_true, if_false]
    first | rw [r01_0] | rw [r01_0x]
  · simp (disch := omega) only [i_leT, i_leF, i_ltT, i_ltF, i_eqT, i_eqF, i_okT, i_n1, i_n2, i_n3, i_n4, i_n5, i_n6, i_n7, i_n8, k_cl, if_true, if_false]
    first | rw [r01_0] | rw [r01_0x]
theorem lev_loop {B : Nat → Nat} {n l d : Nat} {gg : Nat → aMF} (hn : n ≤ 700) (hB : ∀ j, j < n → B j < 256) (hl : l = 0 ∨ l = 1 ∨ l = 3 ∨ l = 4) (H : XLs B n gg (l + 1) d) : ∀ m g i c0 s, n - g ≤ m → XE B n g c0 s → c0.length ≤ g → i ≤ g → ∃ r, Qo B n l d g r ∧ XRz B n c0 (a_run none shp (pX3_readLevel gg) 34 [some (.ref 21), some (.int (nI l)), some (.int (nI d)), some (.int (nI 1)), some (.int (nI i)), none] [] s) s r := by
  intro m
  induction m with
  | zero =>
    intro g i c0 s hm h hc hi
    have hgn := h.1.1
    have ho : opr B n l g = none := by
      cases e : opr B n l g with
      | none => rfl
      | some i =>
        have := opr_lt (by omega) e
        omega
    refine ⟨_, Qo_n hl hgn ho, s, ?_, fr_rfl s, by rw [List.append_nil]; exact h⟩
    rw [tX3_readLevel_34]
    try simp only [k_lit, k_nN, k_ofN]
    by_cases e : 700 ≤ i
    · simp (disch := omega) only [i_leT, i_leF, i_ltT, i_ltF, i_eqT, i_eqF, i_okT, i_n1, i_n2, i_n3, i_n4, i_n5, i_n6, i_n7, i_n8, k_cl, if_true, if_false]
      first | rw [r01_1] | rw [r01_1x]
    · simp (disch := omega) only [i_leT, i_leF, i_ltT, i_ltF, i_eqT, i_eqF, i_okT, i_n1, i_n2, i_n3, i_n4, i_n5, i_n6, i_n7, i_n8, k_cl, if_true, if_false]
      rw [sX3_operatorOf hn hB h.1 (by omega), b_bi, tX3_readLevel_51, ho, show oprI none = nI 0 from rfl]
      try simp only [k_lit, k_nN, k_ofN]
      simp (disch := omega) only [i_leT, i_leF, i_ltT, i_ltF, i_eqT, i_eqF, i_okT, i_n1, i_n2, i_n3, i_n4, i_n5, i_n6, i_n7, i_n8, k_cl, if_true, if_false]
      first | rw [r01_1] | rw [r01_1x]
  | succ m ih =>
    intro g i c0 s hm h hc hi
    have hgn := h.1.1
    cases ho : opr B n l g with
    | none =>
      refine ⟨_, Qo_n hl hgn ho, s, ?_, fr_rfl s, by rw [List.append_nil]; exact h⟩
      rw [tX3_readLevel_34]
      try simp only [k_lit, k_nN, k_ofN]
      by_cases e : 700 ≤ i
      · simp (disch := omega) only [i_leT, i_leF, i_ltT, i_ltF, i_eqT, i_eqF, i_okT, i_n1, i_n2, i_n3, i_n4, i_n5, i_n6, i_n7, i_n8, k_cl, if_true, if_false]
        first | rw [r01_1] | rw [r01_1x]
      · simp (disch := omega) only [i_leT, i_leF, i_ltT, i_ltF, i_eqT, i_eqF, i_okT, i_n1, i_n2, i_n3, i_n4, i_n5, i_n6, i_n7, i_n8, k_cl, if_true, if_false]
        rw [sX3_operatorOf hn hB h.1 (by omega), b_bi, tX3_readLevel_51, ho, show oprI none = nI 0 from rfl]
        try simp only [k_lit, k_nN, k_ofN]
        simp (disch := omega) only [i_leT, i_leF, i_ltT, i_ltF, i_eqT, i_eqF, i_okT, i_n1, i_n2, i_n3, i_n4, i_n5, i_n6, i_n7, i_n8, k_cl, if_true, if_false]
        first | rw [r01_1] | rw [r01_1x]
    | some k =>
      have hlt := opr_lt (by omega) ho
      have hnx := nx_le (B := B) (n := n) (f := g) (by omega)
      have kk : k < 10 := by
        rcases opr_some (by omega) ho with ⟨_, c, _⟩ | ⟨_, c, _⟩ | ⟨_, c, _⟩ | ⟨_, c, _⟩ | ⟨_, c, _⟩ | ⟨_, c, _⟩ | ⟨_, c, _⟩ | ⟨_, c, _⟩ <;> subst c <;> decide
      obtain ⟨u1, e1, f1, m1⟩ := XE_next hn hB h
      obtain ⟨r1, Q1, X1⟩ := H _ _ _ m1 (by omega)
      have start : a_run none shp (pX3_readLevel gg) 34 [some (.ref 21), some (.int (nI l)), some (.int (nI d)), some (.int (nI 1)), some (.int (nI i)), none] [] s = a_bi (gg 1 [.ref 21, .int (nI (l + 1)), .int (nI d)] u1) (fun r2 s1 => a_run none shp (pX3_readLevel gg) 76 [some (.ref 21), some (.int (nI l)), some (.int (nI d)), some (.int (nI 1)), some (.int (nI i)), some (.int (xst (2, k)))] [.int r2] s1) none (fun x s1 => some (.inr x, s1)) := by
        rw [tX3_readLevel_34]
        try simp only [k_lit, k_nN, k_ofN]
        simp (disch := omega) only [i_leT, i_leF, i_ltT, i_ltF, i_eqT, i_eqF, i_okT, i_n1, i_n2, i_n3, i_n4, i_n5, i_n6, i_n7, i_n8, k_cl, if_true, if_false]
        rw [sX3_operatorOf hn hB h.1 (by omega), b_bi, tX3_readLevel_51, ho, show oprI (some k) = xst (2, k) from rfl]
        try simp only [k_lit, k_nN, k_ofN]
        rw [if_neg (xst_ne kk), e1, b_bv, tX3_readLevel_68]
        try simp only [k_lit, k_nN, k_ofN, nI_add]
      rcases r1 with ⟨g1, c1⟩ | ⟨k1, p1⟩
      · obtain ⟨u2, e2, f2, m2⟩ := X1
        obtain ⟨a1, a2, -⟩ := Q1.1
        obtain ⟨u3, e3, f3, m3⟩ := sX1_addT (q := (2, k)) (v := xst (2, k)) m2 (by simp only [List.length_append]; omega) rfl
        obtain ⟨r2, Q2, X2⟩ := ih g1 (i + 1) _ u3 (by omega) m3 (by simp only [List.length_append, List.length_cons, List.length_nil]; omega) (by omega)
        refine ⟨_, Qo_s hn hB hl hlt ho Q1 Q2, ?_⟩
        rw [List.append_assoc] at X2
        refine XRz_pre X2 ?_ (frX_tr f1 (frX_tr f2 f3))
        rw [start, e2, b_bi, tX3_readLevel_76, e3, b_bv, tX3_readLevel_89]
        try simp only [k_lit, k_nN, k_ofN, nI_add]
      · obtain ⟨u2, e2, f2, m2⟩ := X1
        obtain ⟨u3, e3, f3, m3⟩ := sX1_addF (xst (2, k)) m2
        refine ⟨_, Qo_f hn hB hl ho Q1, u3, ?_, frXb_tr (frX_b f1) (frXb_tr f2 f3), m3⟩
        rw [start, e2, b_bi, tX3_readLevel_76, e3, b_bv, tX3_readLevel_89]
        try simp only [k_lit, k_nN, k_ofN, nI_add]
        exact lev_bad (by omega) m3
theorem rd1 (q l d : Nat) (s : aMem) : fRD (q + 1) 1 [.ref 21, .int (nI l), .int (nI d)] s = a_run none shp (pX3_readLevel (fRD q)) 0 [some (.ref 21), some (.int (nI l)), some (.int (nI d)), none, none, none] [] s := rfl
theorem rd0 (q d : Nat) (s : aMem) : fRD (q + 1) 0 [.ref 21, .int (nI d)] s = a_run none shp (pX3_readExpr (fRD q)) 0 [some (.ref 21), some (.int (nI d)), none] [] s := rfl
theorem rd2 (q d : Nat) (s : aMem) : fRD (q + 1) 2 [.ref 21, .int (nI d)] s = a_run none shp (pX3_readTest (fRD q)) 0 [some (.ref 21), some (.int (nI d)), none, none, none, none] [] s := rfl
theorem rd3 (q d : Nat) (s : aMem) : fRD (q + 1) 3 [.ref 21, .int (nI d)] s = a_run none shp (pX3_readSingle (fRD q)) 0 [some (.ref 21), some (.int (nI d))] [] s := rfl
theorem rd4 (q d : Nat) (s : aMem) : fRD (q + 1) 4 [.ref 21, .int (nI d)] s = a_run none shp (pX3_readIf (fRD q)) 0 [some (.ref 21), some (.int (nI d)), none] [] s := rfl
theorem XL_up {B : Nat → Nat} {n l d q : Nat} (hn : n ≤ 700) (hB : ∀ j, j < n → B j < 256) (hl : l = 0 ∨ l = 1 ∨ l = 3 ∨ l = 4) (H : XLs B n (fRD q) (l + 1) d) : XLs B n (fRD (q + 1)) l d := by
  intro f c0 s h hc
  obtain ⟨r1, Q1, X1⟩ := H f c0 s h hc
  have start : fRD (q + 1) 1 [.ref 21, .int (nI l), .int (nI d)] s = a_bi (fRD q 1 [.ref 21, .int (nI (l + 1)), .int (nI d)] s) (fun r2 s1 => a_run none shp (pX3_readLevel (fRD q)) 30 [some (.ref 21), some (.int (nI l)), some (.int (nI d)), none, none, none] [.int r2] s1) none (fun x s1 => some (.inr x, s1)) := by
    rw [rd1, tX3_readLevel]
    try simp only [k_lit, k_nN, k_ofN, nI_add]
    rw [i_eqF (by omega) (by omega) (by omega), i_ltT (by omega) (by omega)]
  rcases r1 with ⟨g1, c1⟩ | ⟨k1, p1⟩
  · obtain ⟨u2, e2, f2, m2⟩ := X1
    obtain ⟨a1, a2, -⟩ := Q1.1
    obtain ⟨r2, Q2, X2⟩ := lev_loop hn hB hl H (n - g1) g1 0 _ u2 (Nat.le_refl _) m2 (by simp only [List.length_append]; omega) (by omega)
    refine ⟨_, Ql_lo hl Q1 Q2, XRz_pre X2 ?_ f2⟩
    rw [start, e2, b_bi, tX3_readLevel_30]
    try simp only [k_lit, k_nN, k_ofN]
  · obtain ⟨u2, e2, f2, m2⟩ := X1
    refine ⟨_, Ql_up hl Q1, u2, ?_, f2, m2⟩
    rw [start, e2, b_bi, tX3_readLevel_30]
    try simp only [k_lit, k_nN, k_ofN]
    exact lev_bad (by omega) m2
/-! a test -/
def postN (k : Nat) (r : PR) : PR := match r with
  | .inl (g, c) => .inl (g, c ++ List.replicate k (2, 2))
  | .inr e => .inr e
theorem postN_s (k : Nat) (r : PR) : postN (k + 1) r = postN k (post (2, 2) r) := by
  rcases r with ⟨g, c⟩ | e
  · simp [postN, post, List.replicate_succ]
  · rfl
theorem not_ok {B : Nat → Nat} {n g k : Nat} {gg : Nat → aMF} (hk : k ≤ 6) (hg : g ≤ 700) : ∀ m j c s, k - j ≤ m → j ≤ k → XE B n g c s → c.length + (k - j) ≤ g → ∃ u, a_run none shp (pX3_readTest gg) 107 [some (.ref 21), none, some (.int (nI k)), some (.int (nI 1)), none, some (.int (nI j))] [] s = some (.inl (some (.int (nI 1))), u) ∧ frX s u ∧ XE B n g (c ++ List.replicate (k - j) (2, 2)) u := by
  intro m
  induction m with
  | zero =>
    intro j c s hm hj h hc
    have e0 : k - j = 0 := by omega
    refine ⟨s, ?_, fr_rfl s, by rw [e0]; simpa using h⟩
    rw [tX3_readTest_107]
    try simp only [k_lit, k_nN, k_ofN]
    simp (disch := omega) only [i_leT, i_leF, i_ltT, i_ltF, i_eqT, i_eqF, i_okT, i_n1, i_n2, i_n3, i_n4, i_n5, i_n6, i_n7, i_n8, k_cl, if_true, if_false]
    first | rw [r01_1] | rw [r01_1x]
  | succ m ih =>
    intro j c s hm hj h hc
    by_cases e : j = k
    · have e0 : k - j = 0 := by omega
      refine ⟨s, ?_, fr_rfl s, by rw [e0]; simpa using h⟩
      rw [tX3_readTest_107]
      try simp only [k_lit, k_nN, k_ofN]
      simp (disch := omega) only [i_leT, i_leF, i_ltT, i_ltF, i_eqT, i_eqF, i_okT, i_n1, i_n2, i_n3, i_n4, i_n5, i_n6, i_n7, i_n8, k_cl, if_true, if_false]
      first | rw [r01_1] | rw [r01_1x]
    · obtain ⟨u1, e1, f1, m1⟩ := sX1_addT (q := (2, 2)) (v := -nI 7) h (by omega) rfl
      obtain ⟨u2, e2, f2, m2⟩ := ih (j + 1) _ u1 (by omega) (by omega) m1 (by simp only [List.length_append, List.length_cons, List.length_nil]; omega)
      refine ⟨u2, ?_, frX_tr f1 f2, ?_⟩
      · rw [tX3_readTest_107]
        try simp only [k_lit, k_nN, k_ofN]
        simp (disch := omega) only [i_leT, i_leF, i_ltT, i_ltF, i_eqT, i_eqF, i_okT, i_n1, i_n2, i_n3, i_n4, i_n5, i_n6, i_n7, i_n8, k_cl, if_true, if_false]
        rw [e1, b_bv, tX3_readTest_125]
        try simp only [k_lit, k_nN, k_ofN, nI_add]
        exact e2
      · have : k - j = (k - (j + 1)) + 1 := by omega
        rw [this, List.replicate_succ]
        simpa using m2
theorem not_bad {k k1 p1 : Nat} {gg : Nat → aMF} (hk : k ≤ 6) : ∀ m j s, k - j ≤ m → j ≤ k → XBd k1 p1 s → ∃ u, a_run none shp (pX3_readTest gg) 107 [some (.ref 21), none, some (.int (nI k)), some (.int (nI 0)), none, some (.int (nI j))] [] s = some (.inl (some (.int (nI 0))), u) ∧ frXb s u ∧ XBd k1 p1 u := by
  intro m
  induction m with
  | zero =>
    intro j s hm hj h
    refine ⟨s, ?_, fr_rfl s, h⟩
    rw [tX3_readTest_107]
    try simp only [k_lit, k_nN, k_ofN]
    simp (disch := omega) only [i_leT, i_leF, i_ltT, i_ltF, i_eqT, i_eqF, i_okT, i_n1, i_n2, i_n3, i_n4, i_n5, i_n6, i_n7, i_n8, k_cl, if_true, if_false]
    first | rw [r01_0] | rw [r01_0x]
  | succ m ih =>
    intro j s hm hj h
    by_cases e : j = k
    · refine ⟨s, ?_, fr_rfl s, h⟩
      rw [tX3_readTest_107]
      try simp only [k_lit, k_nN, k_ofN]
      simp (disch := omega) only [i_leT, i_leF, i_ltT, i_ltF, i_eqT, i_eqF, i_okT, i_n1, i_n2, i_n3, i_n4, i_n5, i_n6, i_n7, i_n8, k_cl, if_true, if_false]
      first | rw [r01_0] | rw [r01_0x]
    · obtain ⟨u1, e1, f1, m1⟩ := sX1_addF (-nI 7) h
      obtain ⟨u2, e2, f2, m2⟩ := ih (j + 1) u1 (by omega) (by omega) m1
      refine ⟨u2, ?_, frXb_tr f1 f2, m2⟩
      rw [tX3_readTest_107]
      try simp only [k_lit, k_nN, k_ofN]
      simp (disch := omega) only [i_leT, i_leF, i_ltT, i_ltF, i_eqT, i_eqF, i_okT, i_n1, i_n2, i_n3, i_n4, i_n5, i_n6, i_n7, i_n8, k_cl, if_true, if_false]
      rw [e1, b_bv, tX3_readTest_125]
      try simp only [k_lit, k_nN, k_ofN, nI_add]
      exact e2
theorem not_end {B : Nat → Nat} {n g k : Nat} {c0 : List (Nat × Nat)} {gg : Nat → aMF} {A : Option aRes} {s u : aMem} {c : List (Nat × Nat)} (hk : k ≤ 6) (hg : g ≤ 700) (hA : A = a_run none shp (pX3_readTest gg) 104 [some (.ref 21), none, some (.int (nI k)), some (.int (nI 1)), none, none] [] u) (hf : frX s u) (h : XE B n g (c0 ++ c) u) (hc : c0.length + c.length + k ≤ g) : XRz B n c0 A s (postN k (.inl (g, c))) := by
  obtain ⟨v, e, f, m⟩ := not_ok (gg := gg) hk hg k 0 _ u (by omega) (by omega) h (by simp only [List.length_append]; omega)
  refine ⟨v, ?_, frX_tr hf f, by rw [← List.append_assoc]; exact m⟩
  rw [hA, tX3_readTest_104]
  try simp only [k_lit, k_nN, k_ofN]
  exact e
theorem not_endF {B : Nat → Nat} {n k k1 p1 : Nat} {c0 : List (Nat × Nat)} {gg : Nat → aMF} {A : Option aRes} {s u : aMem} (hk : k ≤ 6) (hA : A = a_run none shp (pX3_readTest gg) 104 [some (.ref 21), none, some (.int (nI k)), some (.int (nI 0)), none, none] [] u) (hf : frXb s u) (h : XBd k1 p1 u) : XRz B n c0 A s (postN k (.inr (k1, p1))) := by
  obtain ⟨v, e, f, m⟩ := not_bad (gg := gg) hk k 0 u (by omega) (by omega) h
  refine ⟨v, ?_, frXb_tr hf f, m⟩
  rw [hA, tX3_readTest_104]
  try simp only [k_lit, k_nN, k_ofN]
  exact e
theorem tst_body {B : Nat → Nat} {n d k : Nat} {gg : Nat → aMF} (hn : n ≤ 700) (hB : ∀ j, j < n → B j < 256) (hk : k ≤ 6) (H : XLs B n gg 3 d) {f : Nat} {c0 : List (Nat × Nat)} {s : aMem} (h : XE B n f c0 s) (hc : c0.length + k ≤ f) : ∃ r, Qs B n d f r ∧ XRz B n c0 (a_run none shp (pX3_readTest gg) 42 [some (.ref 21), some (.int (nI d)), some (.int (nI k)), none, none, none] [.int (nI 0)] s) s (postN k r) := by
  obtain ⟨r1, Q1, X1⟩ := H f c0 s h (by omega)
  have start : a_run none shp (pX3_readTest gg) 42 [some (.ref 21), some (.int (nI d)), some (.int (nI k)), none, none, none] [.int (nI 0)] s = a_bi (gg 1 [.ref 21, .int (nI 3), .int (nI d)] s) (fun r2 s1 => a_run none shp (pX3_readTest gg) 57 [some (.ref 21), some (.int (nI d)), some (.int (nI k)), none, none, none] [.int r2] s1) none (fun x s1 => some (.inr x, s1)) := by
    rw [tX3_readTest_42]
    try simp only [k_lit, k_nN, k_ofN]
    simp (disch := omega) only [i_leT, i_leF, i_ltT, i_ltF, i_eqT, i_eqF, i_okT, i_n1, i_n2, i_n3, i_n4, i_n5, i_n6, i_n7, i_n8, k_cl, if_true, if_false]
  rcases r1 with ⟨g1, c1⟩ | ⟨k1, p1⟩
  · obtain ⟨u1, e1, f1, m1⟩ := X1
    obtain ⟨a1, a2, -⟩ := Q1.1
    cases ho : opr B n 2 g1 with
    | none =>
      refine ⟨_, Qs_n Q1 ho, not_end (gg := gg) hk (by omega) ?_ f1 m1 (by omega)⟩
      rw [start, e1, b_bi, tX3_readTest_57]
      try simp only [k_lit, k_nN, k_ofN]
      simp (disch := omega) only [i_leT, i_leF, i_ltT, i_ltF, i_eqT, i_eqF, i_okT, i_n1, i_n2, i_n3, i_n4, i_n5, i_n6, i_n7, i_n8, k_cl, if_true, if_false]
      rw [sX3_operatorOf hn hB m1.1 (by omega), b_bi, ho, show oprI none = nI 0 from rfl]
      simp (disch := omega) only [i_leT, i_leF, i_ltT, i_ltF, i_eqT, i_eqF, i_okT, i_n1, i_n2, i_n3, i_n4, i_n5, i_n6, i_n7, i_n8, k_cl, if_true, if_false]
    | some i =>
      have hlt := opr_lt (by omega) ho
      have hnx := nx_le (B := B) (n := n) (f := g1) (by omega)
      have kk : i < 10 := by
        rcases opr_some (by omega) ho with ⟨_, c, _⟩ | ⟨_, c, _⟩ | ⟨_, c, _⟩ | ⟨_, c, _⟩ | ⟨_, c, _⟩ | ⟨_, c, _⟩ | ⟨_, c, _⟩ | ⟨_, c, _⟩ <;> subst c <;> decide
      obtain ⟨u2, e2, f2, m2⟩ := XE_next hn hB m1
      obtain ⟨r3, Q3, X3⟩ := H _ _ u2 m2 (by simp only [List.length_append]; omega)
      have start2 : a_run none shp (pX3_readTest gg) 42 [some (.ref 21), some (.int (nI d)), some (.int (nI k)), none, none, none] [.int (nI 0)] s = a_bi (gg 1 [.ref 21, .int (nI 3), .int (nI d)] u2) (fun r2 s1 => a_run none shp (pX3_readTest gg) 91 [some (.ref 21), some (.int (nI d)), some (.int (nI k)), some (.int (nI 1)), some (.int (xst (2, i))), none] [.int r2] s1) none (fun x s1 => some (.inr x, s1)) := by
        rw [start, e1, b_bi, tX3_readTest_57]
        try simp only [k_lit, k_nN, k_ofN]
        simp (disch := omega) only [i_leT, i_leF, i_ltT, i_ltF, i_eqT, i_eqF, i_okT, i_n1, i_n2, i_n3, i_n4, i_n5, i_n6, i_n7, i_n8, k_cl, if_true, if_false]
        rw [sX3_operatorOf hn hB m1.1 (by omega), b_bi, ho, show oprI (some i) = xst (2, i) from rfl, if_neg (xst_ne kk), e2, b_bv, tX3_readTest_85]
        try simp only [k_lit, k_nN, k_ofN]
      have Q := Qs_s hn hB Q1 ho Q3
      rcases r3 with ⟨g3, c3⟩ | ⟨k3, p3⟩
      · obtain ⟨u3, e3, f3, m3⟩ := X3
        obtain ⟨b1, b2, -⟩ := Q3.1
        obtain ⟨u4, e4, f4, m4⟩ := sX1_addT (q := (2, i)) (v := xst (2, i)) m3 (by simp only [List.length_append]; omega) rfl
        refine ⟨_, Q, not_end (gg := gg) hk (by omega) ?_ (frX_tr f1 (frX_tr f2 (frX_tr f3 f4))) (by simpa using m4) (by simp only [List.length_append, List.length_cons, List.length_nil]; omega)⟩
        rw [start2, e3, b_bi, tX3_readTest_91, e4, b_bv]
      · obtain ⟨u3, e3, f3, m3⟩ := X3
        obtain ⟨u4, e4, f4, m4⟩ := sX1_addF (xst (2, i)) m3
        refine ⟨_, Q, not_endF (gg := gg) hk ?_ (frXb_tr (frX_b f1) (frXb_tr (frX_b f2) (frXb_tr f3 f4))) m4⟩
        rw [start2, e3, b_bi, tX3_readTest_91, e4, b_bv]
  · obtain ⟨u1, e1, f1, m1⟩ := X1
    refine ⟨_, Qs_f Q1, not_endF (gg := gg) hk ?_ f1 m1⟩
    rw [start, e1, b_bi, tX3_readTest_57]
    try simp only [k_lit, k_nN, k_ofN]
    simp (disch := omega) only [i_leT, i_leF, i_ltT, i_ltF, i_eqT, i_eqF, i_okT, i_n1, i_n2, i_n3, i_n4, i_n5, i_n6, i_n7, i_n8, k_cl, if_true, if_false]
theorem tst_loop {B : Nat → Nat} {n d : Nat} {gg : Nat → aMF} (hn : n ≤ 700) (hB : ∀ j, j < n → B j < 256) (H : XLs B n gg 3 d) : ∀ m k f c0 s, 6 - k ≤ m → k ≤ 6 → XE B n f c0 s → c0.length + k ≤ f → ∃ r, Qn B n k d f r ∧ XRz B n c0 (a_run none shp (pX3_readTest gg) 2 [some (.ref 21), some (.int (nI d)), some (.int (nI k)), none, none, none] [] s) s (postN k r) := by
  intro m
  induction m with
  | zero =>
    intro k f c0 s hm hk h hc
    have e6 : k = 6 := by omega
    subst e6
    have w10 : fX5_isWord [.ref 1, .ref 1010] s = some (.inl (some (.int (nI (isW B n f 11).toNat))), s) := xw10 hn hB h.1
    have start : a_run none shp (pX3_readTest gg) 2 [some (.ref 21), some (.int (nI d)), some (.int (nI 6)), none, none, none] [] s = a_run none shp (pX3_readTest gg) 42 [some (.ref 21), some (.int (nI d)), some (.int (nI 6)), none, none, none] [.int (nI (isW B n f 11).toNat)] s := by
      rw [tX3_readTest_2]
      try simp only [k_lit, k_nN, k_ofN]
      simp (disch := omega) only [i_leT, i_leF, i_ltT, i_ltF, i_eqT, i_eqF, i_okT, i_n1, i_n2, i_n3, i_n4, i_n5, i_n6, i_n7, i_n8, k_cl, if_true, if_false]
      rw [w10, b_bi]
    have hfn := h.1.1
    rw [start]
    cases ew : isW B n f 11
    · obtain ⟨r, Q, X⟩ := tst_body hn hB (by omega) H h hc
      exact ⟨r, Qn_n hn ew Q, X⟩
    · obtain ⟨u, e1, f1, m1⟩ := XE_ref (k := 2) h (by omega)
      refine ⟨_, Qn_x hn h.1.1 ew, u, ?_, f1, m1⟩
      rw [tX3_readTest_42, Bool.toNat_true]
      try simp only [k_lit, k_nN, k_ofN]
      simp (disch := omega) only [i_leT, i_leF, i_ltT, i_ltF, i_eqT, i_eqF, i_okT, i_n1, i_n2, i_n3, i_n4, i_n5, i_n6, i_n7, i_n8, k_cl, if_true, if_false]
      rw [e1, b_bi, r01_0]
  | succ m ih =>
    intro k f c0 s hm hk h hc
    have w10 : fX5_isWord [.ref 1, .ref 1010] s = some (.inl (some (.int (nI (isW B n f 11).toNat))), s) := xw10 hn hB h.1
    have hfn := h.1.1
    by_cases e6 : k = 6
    · subst e6
      have start : a_run none shp (pX3_readTest gg) 2 [some (.ref 21), some (.int (nI d)), some (.int (nI 6)), none, none, none] [] s = a_run none shp (pX3_readTest gg) 42 [some (.ref 21), some (.int (nI d)), some (.int (nI 6)), none, none, none] [.int (nI (isW B n f 11).toNat)] s := by
        rw [tX3_readTest_2]
        try simp only [k_lit, k_nN, k_ofN]
        simp (disch := omega) only [i_leT, i_leF, i_ltT, i_ltF, i_eqT, i_eqF, i_okT, i_n1, i_n2, i_n3, i_n4, i_n5, i_n6, i_n7, i_n8, k_cl, if_true, if_false]
        rw [w10, b_bi]
      rw [start]
      cases ew : isW B n f 11
      · obtain ⟨r, Q, X⟩ := tst_body hn hB (by omega) H h hc
        exact ⟨r, Qn_n hn ew Q, X⟩
      · obtain ⟨u, e1, f1, m1⟩ := XE_ref (k := 2) h (by omega)
        refine ⟨_, Qn_x hn h.1.1 ew, u, ?_, f1, m1⟩
        rw [tX3_readTest_42, Bool.toNat_true]
        try simp only [k_lit, k_nN, k_ofN]
        simp (disch := omega) only [i_leT, i_leF, i_ltT, i_ltF, i_eqT, i_eqF, i_okT, i_n1, i_n2, i_n3, i_n4, i_n5, i_n6, i_n7, i_n8, k_cl, if_true, if_false]
        rw [e1, b_bi, r01_0]
    · cases ew : isW B n f 11
      · obtain ⟨r, Q, X⟩ := tst_body hn hB hk H h hc
        refine ⟨r, Qn_n hn ew Q, ?_⟩
        have start : a_run none shp (pX3_readTest gg) 2 [some (.ref 21), some (.int (nI d)), some (.int (nI k)), none, none, none] [] s = a_run none shp (pX3_readTest gg) 42 [some (.ref 21), some (.int (nI d)), some (.int (nI k)), none, none, none] [.int (nI 0)] s := by
          rw [tX3_readTest_2]
          try simp only [k_lit, k_nN, k_ofN]
          simp (disch := omega) only [i_leT, i_leF, i_ltT, i_ltF, i_eqT, i_eqF, i_okT, i_n1, i_n2, i_n3, i_n4, i_n5, i_n6, i_n7, i_n8, k_cl, if_true, if_false]
          rw [w10, b_bi, tX3_readTest_17, ew, Bool.toNat_false]
          try simp only [k_lit, k_nN, k_ofN]
          simp (disch := omega) only [i_leT, i_leF, i_ltT, i_ltF, i_eqT, i_eqF, i_okT, i_n1, i_n2, i_n3, i_n4, i_n5, i_n6, i_n7, i_n8, k_cl, if_true, if_false]
          rw [w10, b_bi, ew, Bool.toNat_false]
        rw [start]
        exact X
      · have hlt := kd_lt (B := B) (n := n) (f := f) (by rw [(isW_iff.mp ew).1]; omega)
        have hnx := nx_le (B := B) (n := n) (f := f) (by omega)
        obtain ⟨u, e1, f1, m1⟩ := XE_next hn hB h
        obtain ⟨r, Q, X⟩ := ih (k + 1) _ _ u (by omega) (by omega) m1 (by omega)
        refine ⟨_, Qn_s hn hB ew (by omega) Q, ?_⟩
        rw [← postN_s]
        have X2 := XRz_pre (c := []) (c0 := c0) (s := s) (A := a_run none shp (pX3_readTest gg) 2 [some (.ref 21), some (.int (nI d)), some (.int (nI k)), none, none, none] [] s) (by rw [List.append_nil]; exact X) (by
          rw [tX3_readTest_2]
          try simp only [k_lit, k_nN, k_ofN]
          simp (disch := omega) only [i_leT, i_leF, i_ltT, i_ltF, i_eqT, i_eqF, i_okT, i_n1, i_n2, i_n3, i_n4, i_n5, i_n6, i_n7, i_n8, k_cl, if_true, if_false]
          rw [w10, b_bi, tX3_readTest_17, ew, Bool.toNat_true]
          try simp only [k_lit, k_nN, k_ofN, nI_add]
          simp (disch := omega) only [i_leT, i_leF, i_ltT, i_ltF, i_eqT, i_eqF, i_okT, i_n1, i_n2, i_n3, i_n4, i_n5, i_n6, i_n7, i_n8, k_cl, if_true, if_false]
          rw [e1, b_bv]) f1
        rw [pre_nil] at X2
        exact X2
theorem XL_2 {B : Nat → Nat} {n d q : Nat} (hn : n ≤ 700) (hB : ∀ j, j < n → B j < 256) (H : XLs B n (fRD q) 3 d) : XLs B n (fRD (q + 2)) 2 d := by
  intro f c0 s h hc
  obtain ⟨r, Q, X⟩ := tst_loop hn hB H 6 0 f c0 s (by omega) (by omega) h (by omega)
  refine ⟨r, Ql_2 Q, ?_⟩
  have e0 : postN 0 r = r := by
    rcases r with ⟨g, c⟩ | e
    · simp [postN]
    · rfl
  rw [e0] at X
  have e1 : fRD (q + 1) 2 [.ref 21, .int (nI d)] s = a_run none shp (pX3_readTest (fRD q)) 2 [some (.ref 21), some (.int (nI d)), some (.int (nI 0)), none, none, none] [] s := by
    rw [rd2, tX3_readTest]
    try simp only [k_lit, k_nN, k_ofN]
  rw [← e1] at X
  rw [rd1, tX3_readLevel]
  try simp only [k_lit, k_nN, k_ofN]
  simp (disch := omega) only [i_leT, i_leF, i_ltT, i_ltF, i_eqT, i_eqF, i_okT, i_n1, i_n2, i_n3, i_n4, i_n5, i_n6, i_n7, i_n8, k_cl, if_true, if_false]
  rcases r with ⟨g, c⟩ | ⟨k, p⟩
  · obtain ⟨u, e2, f2, m2⟩ := X
    rw [e2, b_bi, r01_1]
    exact ⟨u, rfl, f2, m2⟩
  · obtain ⟨u, e2, f2, m2⟩ := X
    rw [e2, b_bi, r01_0]
    exact ⟨u, rfl, f2, m2⟩
