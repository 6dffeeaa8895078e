/-! ===== the reading of what stands alone ===== -/
def XEs (B : Nat → Nat) (n : Nat) (gg : Nat → aMF) (d : Nat) : Prop := ∀ f c0 s, XE B n f c0 s → c0.length ≤ f → ∃ r, Ql B n 0 d f r ∧ XRz B n c0 (gg 0 [.ref 21, .int (nI d)] s) s r
theorem XE_0 {B : Nat → Nat} {n d q : Nat} (hd : d ≤ 5) (H : XLs B n (fRD q) 0 d) : XEs B n (fRD (q + 1)) d := by
  intro f c0 s h hc
  obtain ⟨r, Q, X⟩ := H f c0 s h hc
  refine ⟨r, Q, ?_⟩
  rw [rd0, tX3_readExpr]
  try simp only [k_lit, k_nN, k_ofN]
  simp (disch := omega) only [i_leT, i_leF, i_ltT, i_ltF, i_eqT, i_eqF, i_okT, i_n1, i_n2, i_n3, i_n4, i_n5, i_n6, i_n7, i_n8, k_cl, if_true, if_false]
  rcases r with ⟨g, c⟩ | ⟨k, p⟩
  · obtain ⟨u, e2, f2, m2⟩ := X
    rw [e2, b_bi, r01_1]
    exact ⟨u, rfl, f2, m2⟩
  · obtain ⟨u, e2, f2, m2⟩ := X
    rw [e2, b_bi, r01_0]
    exact ⟨u, rfl, f2, m2⟩
theorem XE_6 {B : Nat → Nat} {n q f : Nat} {c0 : List (Nat × Nat)} {s : aMem} (hn : n ≤ 700) (hB : ∀ j, j < n → B j < 256) (h : XE B n f c0 s) (hc : c0.length ≤ f) : XRz B n c0 (fRD (q + 1) 0 [.ref 21, .int (nI 6)] s) s (.inr (if tk B n f = true then 2 else 1, f)) := by
  have hfn := h.1.1
  have h2 := h.1.2.1
  have hk := kd_le B n f
  obtain ⟨u1, e1, f1, m1⟩ := XE_ref (k := 1) h (by omega)
  obtain ⟨u2, e2, f2, m2⟩ := XE_ref (k := 2) h (by omega)
  rw [rd0, tX3_readExpr, h2]
  try simp only [k_lit, k_nN, k_ofN]
  simp (disch := omega) only [i_leT, i_leF, i_ltT, i_ltF, i_eqT, i_eqF, i_okT, i_n1, i_n2, i_n3, i_n4, i_n5, i_n6, i_n7, i_n8, k_cl, if_true, if_false]
  by_cases c2 : kd B n f = 2
  · have ht : tk B n f = true := by simp [tk, c2]
    rw [ht, c2]
    simp (disch := omega) only [i_leT, i_leF, i_ltT, i_ltF, i_eqT, i_eqF, i_okT, i_n1, i_n2, i_n3, i_n4, i_n5, i_n6, i_n7, i_n8, k_cl, if_true, if_false]
    rw [e2, b_bi, r01_0]
    exact ⟨u2, rfl, f2, m2⟩
  · rw [i_eqF c2 (by omega) (by omega)]
    by_cases c1 : kd B n f = 1
    · have ht : tk B n f = true := by simp [tk, c1]
      rw [ht, c1]
      simp (disch := omega) only [i_leT, i_leF, i_ltT, i_ltF, i_eqT, i_eqF, i_okT, i_n1, i_n2, i_n3, i_n4, i_n5, i_n6, i_n7, i_n8, k_cl, if_true, if_false]
      rw [e2, b_bi, r01_0]
      exact ⟨u2, rfl, f2, m2⟩
    · have ht : tk B n f = sgn B n f 40 := by simp [tk, c1, c2]
      rw [i_eqF c1 (by omega) (by omega), sX5_isSign hn hB h.1 (by omega), b_bi, tX3_readExpr_36, ht]
      try simp only [k_lit, k_nN, k_ofN]
      cases e40 : sgn B n f 40
      · rw [Bool.toNat_false]
        simp (disch := omega) only [i_leT, i_leF, i_ltT, i_ltF, i_eqT, i_eqF, i_okT, i_n1, i_n2, i_n3, i_n4, i_n5, i_n6, i_n7, i_n8, k_cl, if_true, if_false]
        rw [e1, b_bi, r01_0]
        exact ⟨u1, rfl, f1, m1⟩
      · rw [Bool.toNat_true]
        simp (disch := omega) only [i_leT, i_leF, i_ltT, i_ltF, i_eqT, i_eqF, i_okT, i_n1, i_n2, i_n3, i_n4, i_n5, i_n6, i_n7, i_n8, k_cl, if_true, if_false]
        rw [e2, b_bi, r01_0]
        exact ⟨u2, rfl, f2, m2⟩
/-! an 'if' -/
theorem if_bad {k p : Nat} {gg : Nat → aMF} {s : aMem} (h : XBd k p s) : ∃ u, a_bv (fX1_add [.ref 4, .int (-nI 14)] s) (fun s1 => a_run none shp (pX3_readIf gg) 82 [some (.ref 21), none, some (.int (nI 0))] [] s1) none (fun x s1 => some (.inr x, s1)) = some (.inl (some (.int (nI 0))), u) ∧ frXb s u ∧ XBd k p u := by
  obtain ⟨u, e, f, m⟩ := sX1_addF (-nI 14) h
  refine ⟨u, ?_, f, m⟩
  rw [e, b_bv, tX3_readIf_82]
  try simp only [k_lit, k_nN, k_ofN]
  first | rw [r01_0] | rw [r01_0x]
theorem if_3 {B : Nat → Nat} {n d g : Nat} {gg : Nat → aMF} {c : List (Nat × Nat)} {s : aMem} (hn : n ≤ 700) (hB : ∀ j, j < n → B j < 256) (h : XE B n g c s) (hc : c.length ≤ g) : ∃ r, QT B n 3 17 d g r ∧ XRz B n c (a_run none shp (pX3_readIf gg) 52 [some (.ref 21), some (.int (nI d)), none] [.int (nI 1)] s) s r := by
  have hgn := h.1.1
  have hw : fX5_isWord [.ref 1, .ref 1014] s = some (.inl (some (.int (nI (isW B n g 15).toNat))), s) := xw14 hn hB h.1
  have X := sX3_needWord hn hB h (by omega) hw
  rw [tX3_readIf_52]
  try simp only [k_lit, k_nN, k_ofN]
  simp (disch := omega) only [i_leT, i_leF, i_ltT, i_ltF, i_eqT, i_eqF, i_okT, i_n1, i_n2, i_n3, i_n4, i_n5, i_n6, i_n7, i_n8, k_cl, if_true, if_false]
  cases e : isW B n g 15
  · rw [if_neg (by rw [e]; decide)] at X
    obtain ⟨u, e1, f1, m1⟩ := X
    obtain ⟨v, e2, f2, m2⟩ := if_bad (gg := gg) m1
    refine ⟨_, q_not hn hB hgn (by omega) ⟨fun q => absurd q.2 (by decide), fun q => absurd q.2 (by decide), fun q => absurd q.2 (by decide), fun q => by rw [e] at q; exact absurd q.1 (by decide)⟩, v, ?_, frXb_tr f1 f2, m2⟩
    rw [e1, b_bi, tX3_readIf_61]
    try simp only [k_lit, k_nN, k_ofN]
    simp (disch := omega) only [i_leT, i_leF, i_ltT, i_ltF, i_eqT, i_eqF, i_okT, i_n1, i_n2, i_n3, i_n4, i_n5, i_n6, i_n7, i_n8, k_cl, if_true, if_false]
    exact e2
  · rw [if_pos e] at X
    obtain ⟨u, e1, f1, m1⟩ := X
    have hlt := kd_lt (B := B) (n := n) (f := g) (by rw [(isW_iff.mp e).1]; omega)
    rw [List.append_nil] at m1
    obtain ⟨v, e2, f2, m2⟩ := sX1_addT (q := (2, 9)) (v := -nI 14) m1 (by omega) rfl
    refine ⟨_, q_done hn hB e, v, ?_, frX_tr f1 f2, m2⟩
    rw [e1, b_bi, tX3_readIf_61]
    try simp only [k_lit, k_nN, k_ofN]
    simp (disch := omega) only [i_leT, i_leF, i_ltT, i_ltF, i_eqT, i_eqF, i_okT, i_n1, i_n2, i_n3, i_n4, i_n5, i_n6, i_n7, i_n8, k_cl, if_true, if_false]
    rw [e2, b_bv, tX3_readIf_82]
    try simp only [k_lit, k_nN, k_ofN]
    first | rw [r01_1] | rw [r01_1x]
theorem if_2 {B : Nat → Nat} {n d g : Nat} {gg : Nat → aMF} {c : List (Nat × Nat)} {s : aMem} (hn : n ≤ 700) (hB : ∀ j, j < n → B j < 256) (hd : d < 5) (H : XEs B n gg (d + 1)) (h : XE B n g c s) (hc : c.length ≤ g) : ∃ r, QT B n 2 16 d g r ∧ XRz B n c (a_run none shp (pX3_readIf gg) 33 [some (.ref 21), some (.int (nI d)), none] [.int (nI 1)] s) s r := by
  have hgn := h.1.1
  have hw : fX5_isWord [.ref 1, .ref 1013] s = some (.inl (some (.int (nI (isW B n g 14).toNat))), s) := xw13 hn hB h.1
  have X := sX3_needWord hn hB h (by omega) hw
  rw [tX3_readIf_33]
  try simp only [k_lit, k_nN, k_ofN]
  simp (disch := omega) only [i_leT, i_leF, i_ltT, i_ltF, i_eqT, i_eqF, i_okT, i_n1, i_n2, i_n3, i_n4, i_n5, i_n6, i_n7, i_n8, k_cl, if_true, if_false]
  cases e : isW B n g 14
  · rw [if_neg (by rw [e]; decide)] at X
    obtain ⟨u, e1, f1, m1⟩ := X
    obtain ⟨v, e2, f2, m2⟩ := if_bad (gg := gg) m1
    refine ⟨_, q_not hn hB hgn (by omega) ⟨fun q => absurd q.2 (by decide), fun q => absurd q.2 (by decide), fun q => by rw [e] at q; exact absurd q.1 (by decide), fun q => absurd q.2 (by decide)⟩, v, ?_, frXb_tr f1 f2, m2⟩
    rw [e1, b_bi, tX3_readIf_42]
    try simp only [k_lit, k_nN, k_ofN]
    simp (disch := omega) only [i_leT, i_leF, i_ltT, i_ltF, i_eqT, i_eqF, i_okT, i_n1, i_n2, i_n3, i_n4, i_n5, i_n6, i_n7, i_n8, k_cl, if_true, if_false]
    exact e2
  · rw [if_pos e] at X
    obtain ⟨u, e1, f1, m1⟩ := X
    have hlt := kd_lt (B := B) (n := n) (f := g) (by rw [(isW_iff.mp e).1]; omega)
    have hnx := nx_le (B := B) (n := n) (f := g) (by omega)
    rw [List.append_nil] at m1
    obtain ⟨r2, Q2, X2⟩ := H _ _ u m1 (by omega)
    have start : a_bi (fX3_needWord [.ref 21, .ref 1013] s) (fun r3 s2 => a_run none shp (pX3_readIf gg) 42 [some (.ref 21), some (.int (nI d)), none] [.int r3] s2) none (fun x s2 => some (.inr x, s2)) = a_bi (gg 0 [.ref 21, .int (nI (d + 1))] u) (fun r3 s2 => a_run none shp (pX3_readIf gg) 52 [some (.ref 21), some (.int (nI d)), none] [.int r3] s2) none (fun x s2 => some (.inr x, s2)) := by
      rw [e1, b_bi, tX3_readIf_42]
      try simp only [k_lit, k_nN, k_ofN, nI_add]
      simp (disch := omega) only [i_leT, i_leF, i_ltT, i_ltF, i_eqT, i_eqF, i_okT, i_n1, i_n2, i_n3, i_n4, i_n5, i_n6, i_n7, i_n8, k_cl, if_true, if_false]
    rcases r2 with ⟨g2, c2⟩ | ⟨k2, p2⟩
    · obtain ⟨u2, e2, f2, m2⟩ := X2
      obtain ⟨a1, a2, -⟩ := Q2.1
      obtain ⟨r3, Q3, X3⟩ := if_3 (d := d) (gg := gg) hn hB m2 (by simp only [List.length_append]; omega)
      refine ⟨_, q_turn hn hB hd (.inr ⟨rfl, rfl, rfl, rfl⟩) e Q2 Q3, XRz_pre X3 ?_ (frX_tr f1 f2)⟩
      rw [start, e2, b_bi]
    · obtain ⟨u2, e2, f2, m2⟩ := X2
      obtain ⟨v, e3, f3, m3⟩ := if_bad (gg := gg) m2
      refine ⟨_, q_turnF (y := 17) hn hB (.inr ⟨rfl, rfl, rfl⟩) e Q2, v, ?_, frXb_tr (frX_b f1) (frXb_tr f2 f3), m3⟩
      rw [start, e2, b_bi, tX3_readIf_52]
      try simp only [k_lit, k_nN, k_ofN]
      simp (disch := omega) only [i_leT, i_leF, i_ltT, i_ltF, i_eqT, i_eqF, i_okT, i_n1, i_n2, i_n3, i_n4, i_n5, i_n6, i_n7, i_n8, k_cl, if_true, if_false]
      exact e3
theorem if_1 {B : Nat → Nat} {n d g : Nat} {gg : Nat → aMF} {c : List (Nat × Nat)} {s : aMem} (hn : n ≤ 700) (hB : ∀ j, j < n → B j < 256) (hd : d < 5) (H : XEs B n gg (d + 1)) (h : XE B n g c s) (hc : c.length ≤ g) : ∃ r, QT B n 1 15 d g r ∧ XRz B n c (a_run none shp (pX3_readIf gg) 14 [some (.ref 21), some (.int (nI d)), none] [.int (nI 1)] s) s r := by
  have hgn := h.1.1
  have hw : fX5_isWord [.ref 1, .ref 1012] s = some (.inl (some (.int (nI (isW B n g 13).toNat))), s) := xw12 hn hB h.1
  have X := sX3_needWord hn hB h (by omega) hw
  rw [tX3_readIf_14]
  try simp only [k_lit, k_nN, k_ofN]
  simp (disch := omega) only [i_leT, i_leF, i_ltT, i_ltF, i_eqT, i_eqF, i_okT, i_n1, i_n2, i_n3, i_n4, i_n5, i_n6, i_n7, i_n8, k_cl, if_true, if_false]
  cases e : isW B n g 13
  · rw [if_neg (by rw [e]; decide)] at X
    obtain ⟨u, e1, f1, m1⟩ := X
    obtain ⟨v, e2, f2, m2⟩ := if_bad (gg := gg) m1
    refine ⟨_, q_not hn hB hgn (by omega) ⟨fun q => absurd q.2 (by decide), fun q => by rw [e] at q; exact absurd q.1 (by decide), fun q => absurd q.2 (by decide), fun q => absurd q.2 (by decide)⟩, v, ?_, frXb_tr f1 f2, m2⟩
    rw [e1, b_bi, tX3_readIf_23]
    try simp only [k_lit, k_nN, k_ofN]
    simp (disch := omega) only [i_leT, i_leF, i_ltT, i_ltF, i_eqT, i_eqF, i_okT, i_n1, i_n2, i_n3, i_n4, i_n5, i_n6, i_n7, i_n8, k_cl, if_true, if_false]
    exact e2
  · rw [if_pos e] at X
    obtain ⟨u, e1, f1, m1⟩ := X
    have hlt := kd_lt (B := B) (n := n) (f := g) (by rw [(isW_iff.mp e).1]; omega)
    have hnx := nx_le (B := B) (n := n) (f := g) (by omega)
    rw [List.append_nil] at m1
    obtain ⟨r2, Q2, X2⟩ := H _ _ u m1 (by omega)
    have start : a_bi (fX3_needWord [.ref 21, .ref 1012] s) (fun r3 s2 => a_run none shp (pX3_readIf gg) 23 [some (.ref 21), some (.int (nI d)), none] [.int r3] s2) none (fun x s2 => some (.inr x, s2)) = a_bi (gg 0 [.ref 21, .int (nI (d + 1))] u) (fun r3 s2 => a_run none shp (pX3_readIf gg) 33 [some (.ref 21), some (.int (nI d)), none] [.int r3] s2) none (fun x s2 => some (.inr x, s2)) := by
      rw [e1, b_bi, tX3_readIf_23]
      try simp only [k_lit, k_nN, k_ofN, nI_add]
      simp (disch := omega) only [i_leT, i_leF, i_ltT, i_ltF, i_eqT, i_eqF, i_okT, i_n1, i_n2, i_n3, i_n4, i_n5, i_n6, i_n7, i_n8, k_cl, if_true, if_false]
    rcases r2 with ⟨g2, c2⟩ | ⟨k2, p2⟩
    · obtain ⟨u2, e2, f2, m2⟩ := X2
      obtain ⟨a1, a2, -⟩ := Q2.1
      obtain ⟨r3, Q3, X3⟩ := if_2 (d := d) (gg := gg) hn hB hd H m2 (by simp only [List.length_append]; omega)
      refine ⟨_, q_turn hn hB hd (.inl ⟨rfl, rfl, rfl, rfl⟩) e Q2 Q3, XRz_pre X3 ?_ (frX_tr f1 f2)⟩
      rw [start, e2, b_bi]
    · obtain ⟨u2, e2, f2, m2⟩ := X2
      obtain ⟨v, e3, f3, m3⟩ := if_bad (gg := gg) m2
      refine ⟨_, q_turnF (y := 16) hn hB (.inl ⟨rfl, rfl, rfl⟩) e Q2, v, ?_, frXb_tr (frX_b f1) (frXb_tr f2 f3), m3⟩
      rw [start, e2, b_bi, tX3_readIf_33]
      try simp only [k_lit, k_nN, k_ofN]
      simp (disch := omega) only [i_leT, i_leF, i_ltT, i_ltF, i_eqT, i_eqF, i_okT, i_n1, i_n2, i_n3, i_n4, i_n5, i_n6, i_n7, i_n8, k_cl, if_true, if_false]
      exact e3
/-- the depth behind: an expression, or too deep -/
def XDp (B : Nat → Nat) (n : Nat) (gg : Nat → aMF) (d : Nat) : Prop := (d < 5 ∧ XEs B n gg (d + 1)) ∨ (d = 5 ∧ ∀ f c0 s, XE B n f c0 s → c0.length ≤ f → XRz B n c0 (gg 0 [.ref 21, .int (nI 6)] s) s (.inr (if tk B n f = true then 2 else 1, f)))
theorem rd_if {B : Nat → Nat} {n d q f : Nat} {c0 : List (Nat × Nat)} {s : aMem} (hn : n ≤ 700) (hB : ∀ j, j < n → B j < 256) (H : XDp B n (fRD q) d) (h : XE B n f c0 s) (hc : c0.length ≤ f) (hw : isW B n f 12 = true) : ∃ r, Ql B n 5 d f r ∧ XRz B n c0 (fRD (q + 1) 4 [.ref 21, .int (nI d)] s) s r := by
  have hlt := kd_lt (B := B) (n := n) (f := f) (by rw [(isW_iff.mp hw).1]; omega)
  have hnx := nx_le (B := B) (n := n) (f := f) (by omega)
  obtain ⟨u, e1, f1, m1⟩ := XE_next hn hB h
  have start : fRD (q + 1) 4 [.ref 21, .int (nI d)] s = a_bi (fRD q 0 [.ref 21, .int (nI (d + 1))] u) (fun r3 s2 => a_run none shp (pX3_readIf (fRD q)) 14 [some (.ref 21), some (.int (nI d)), none] [.int r3] s2) none (fun x s2 => some (.inr x, s2)) := by
    rw [rd4, tX3_readIf, e1, b_bv, tX3_readIf_7]
    try simp only [k_lit, k_nN, k_ofN, nI_add]
  rcases H with ⟨hd, H⟩ | ⟨hd, H⟩
  · obtain ⟨r2, Q2, X2⟩ := H _ _ u m1 (by omega)
    rcases r2 with ⟨g2, c2⟩ | ⟨k2, p2⟩
    · obtain ⟨u2, e2, f2, m2⟩ := X2
      obtain ⟨a1, a2, -⟩ := Q2.1
      obtain ⟨r3, Q3, X3⟩ := if_1 (d := d) (gg := fRD q) hn hB hd H m2 (by simp only [List.length_append]; omega)
      refine ⟨_, q_open hn hB hd (.inr ⟨hw, rfl⟩) Q2 Q3, XRz_pre X3 ?_ (frX_tr f1 f2)⟩
      rw [start, e2, b_bi]
    · obtain ⟨u2, e2, f2, m2⟩ := X2
      obtain ⟨v, e3, f3, m3⟩ := if_bad (gg := fRD q) m2
      refine ⟨_, q_openF hn hB hd (.inr ⟨hw, rfl⟩) Q2, v, ?_, frXb_tr (frX_b f1) (frXb_tr f2 f3), m3⟩
      rw [start, e2, b_bi, tX3_readIf_14]
      try simp only [k_lit, k_nN, k_ofN]
      simp (disch := omega) only [i_leT, i_leF, i_ltT, i_ltF, i_eqT, i_eqF, i_okT, i_n1, i_n2, i_n3, i_n4, i_n5, i_n6, i_n7, i_n8, k_cl, if_true, if_false]
      exact e3
  · subst hd
    obtain ⟨u2, e2, f2, m2⟩ := H _ _ u m1 (by omega)
    obtain ⟨v, e3, f3, m3⟩ := if_bad (gg := fRD q) m2
    refine ⟨_, q_deep hn hB (.inr ⟨hw, rfl⟩), v, ?_, frXb_tr (frX_b f1) (frXb_tr f2 f3), m3⟩
    rw [start, e2, b_bi, tX3_readIf_14]
    try simp only [k_lit, k_nN, k_ofN]
    simp (disch := omega) only [i_leT, i_leF, i_ltT, i_ltF, i_eqT, i_eqF, i_okT, i_n1, i_n2, i_n3, i_n4, i_n5, i_n6, i_n7, i_n8, k_cl, if_true, if_false]
    exact e3
theorem rd_par {B : Nat → Nat} {n d q f : Nat} {c0 : List (Nat × Nat)} {s : aMem} (hn : n ≤ 700) (hB : ∀ j, j < n → B j < 256) (H : XDp B n (fRD q) d) (h : XE B n f c0 s) (hc : c0.length ≤ f) (hw : sgn B n f 40 = true) : ∃ r, Ql B n 5 d f r ∧ XRz B n c0 (fRD (q + 1) 3 [.ref 21, .int (nI d)] s) s r := by
  have hlt := kd_lt (B := B) (n := n) (f := f) (by rw [(sg_nW hw).2.2.1]; omega)
  have hnx := nx_le (B := B) (n := n) (f := f) (by omega)
  obtain ⟨u, e1, f1, m1⟩ := XE_next hn hB h
  have start : fRD (q + 1) 3 [.ref 21, .int (nI d)] s = a_bi (fRD q 0 [.ref 21, .int (nI (d + 1))] u) (fun r3 s2 => a_run none shp (pX3_readSingle (fRD q)) 26 [some (.ref 21), some (.int (nI d))] [.int r3] s2) none (fun x s2 => some (.inr x, s2)) := by
    rw [rd3, tX3_readSingle]
    try simp only [k_lit, k_nN, k_ofN]
    rw [sX5_isSign hn hB h.1 (by omega), b_bi, tX3_readSingle_9, hw, Bool.toNat_true]
    try simp only [k_lit, k_nN, k_ofN]
    simp (disch := omega) only [i_leT, i_leF, i_ltT, i_ltF, i_eqT, i_eqF, i_okT, i_n1, i_n2, i_n3, i_n4, i_n5, i_n6, i_n7, i_n8, k_cl, if_true, if_false]
    rw [e1, b_bv, tX3_readSingle_19]
    try simp only [k_lit, k_nN, k_ofN, nI_add]
  rcases H with ⟨hd, H⟩ | ⟨hd, H⟩
  · obtain ⟨r2, Q2, X2⟩ := H _ _ u m1 (by omega)
    rcases r2 with ⟨g2, c2⟩ | ⟨k2, p2⟩
    · obtain ⟨u2, e2, f2, m2⟩ := X2
      obtain ⟨a1, a2, -⟩ := Q2.1
      have X := sX3_needSign (c := 41) hn hB m2 (by simp only [List.length_append]; omega) (by omega)
      have start2 : fRD (q + 1) 3 [.ref 21, .int (nI d)] s = a_bi (fX3_needSign [.ref 21, .int (nI 41)] u2) (fun r3 s2 => a_run none shp (pX3_readSingle (fRD q)) 35 [some (.ref 21), some (.int (nI d))] [.int r3] s2) none (fun x s2 => some (.inr x, s2)) := by
        rw [start, e2, b_bi, tX3_readSingle_26]
        try simp only [k_lit, k_nN, k_ofN]
        simp (disch := omega) only [i_leT, i_leF, i_ltT, i_ltF, i_eqT, i_eqF, i_okT, i_n1, i_n2, i_n3, i_n4, i_n5, i_n6, i_n7, i_n8, k_cl, if_true, if_false]
      cases e : sgn B n g2 41
      · rw [if_neg (by rw [e]; decide)] at X
        obtain ⟨u3, e3, f3, m3⟩ := X
        refine ⟨_, q_open hn hB hd (.inl ⟨hw, rfl⟩) Q2 (q_not hn hB a2 (by omega) ⟨fun q => by rw [e] at q; exact absurd q.1 (by decide), fun q => absurd q.2 (by decide), fun q => absurd q.2 (by decide), fun q => absurd q.2 (by decide)⟩), u3, ?_, frXb_tr (frX_b (frX_tr f1 f2)) f3, m3⟩
        rw [start2, e3, b_bi, tX3_readSingle_35]
        try simp only [k_lit, k_nN, k_ofN]
        simp (disch := omega) only [i_leT, i_leF, i_ltT, i_ltF, i_eqT, i_eqF, i_okT, i_n1, i_n2, i_n3, i_n4, i_n5, i_n6, i_n7, i_n8, k_cl, if_true, if_false]
      · rw [if_pos e] at X
        obtain ⟨u3, e3, f3, m3⟩ := X
        refine ⟨_, q_open hn hB hd (.inl ⟨hw, rfl⟩) Q2 (q_shut hn hB e), u3, ?_, frX_tr f1 (frX_tr f2 f3), by simpa using m3⟩
        rw [start2, e3, b_bi, tX3_readSingle_35]
        try simp only [k_lit, k_nN, k_ofN]
        simp (disch := omega) only [i_leT, i_leF, i_ltT, i_ltF, i_eqT, i_eqF, i_okT, i_n1, i_n2, i_n3, i_n4, i_n5, i_n6, i_n7, i_n8, k_cl, if_true, if_false]
    · obtain ⟨u2, e2, f2, m2⟩ := X2
      refine ⟨_, q_openF hn hB hd (.inl ⟨hw, rfl⟩) Q2, u2, ?_, frXb_tr (frX_b f1) f2, m2⟩
      rw [start, e2, b_bi, tX3_readSingle_26]
      try simp only [k_lit, k_nN, k_ofN]
      simp (disch := omega) only [i_leT, i_leF, i_ltT, i_ltF, i_eqT, i_eqF, i_okT, i_n1, i_n2, i_n3, i_n4, i_n5, i_n6, i_n7, i_n8, k_cl, if_true, if_false]
  · subst hd
    obtain ⟨u2, e2, f2, m2⟩ := H _ _ u m1 (by omega)
    refine ⟨_, q_deep hn hB (.inl ⟨hw, rfl⟩), u2, ?_, frXb_tr (frX_b f1) f2, m2⟩
    rw [start, e2, b_bi, tX3_readSingle_26]
    try simp only [k_lit, k_nN, k_ofN]
    simp (disch := omega) only [i_leT, i_leF, i_ltT, i_ltF, i_eqT, i_eqF, i_okT, i_n1, i_n2, i_n3, i_n4, i_n5, i_n6, i_n7, i_n8, k_cl, if_true, if_false]
