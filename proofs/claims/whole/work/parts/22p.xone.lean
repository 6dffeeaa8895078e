/-! ===== the reading of an expression ===== -/
theorem sX3_needNumber {B : Nat → Nat} {n f : Nat} {c0 : List (Nat × Nat)} {s : aMem} (h : XE B n f c0 s) (hl : c0.length ≤ 700) : (kd B n f = 2 ∧ ed B n f - f ≤ 4 ∧ fX3_needNumber [.ref 21] s = some (.inl (some (.int (nI 1))), s) ∧ s.1 1 4 = nI (nm B n f)) ∨ (kd B n f = 2 ∧ ¬ ed B n f - f ≤ 4 ∧ ∃ u, fX3_needNumber [.ref 21] s = some (.inl (some (.int (nI 0))), u) ∧ frXb s u ∧ XBd 2 f u) ∨ (kd B n f ≠ 2 ∧ ∃ u, fX3_needNumber [.ref 21] s = some (.inl (some (.int (nI 0))), u) ∧ frXb s u ∧ XBd 1 f u) := by
  have h2 := h.1.2.1
  have h4 := h.1.2.2.2.2.2.1
  have hk := kd_le B n f
  rw [tX3_needNumber, h2]
  try simp only [k_lit, k_nN, k_ofN]
  by_cases c2 : kd B n f = 2
  · have h4 := h4 c2
    have hm := nm_lt c2
    by_cases cl : ed B n f - f ≤ 4
    · rw [if_pos cl] at h4
      refine .inl ⟨c2, cl, ?_, h4⟩
      rw [c2, h4]
      simp (disch := omega) only [i_leT, i_leF, i_ltT, i_ltF, i_eqT, i_eqF, i_okT, i_n1, i_n2, i_n3, i_n4, i_n5, i_n6, i_n7, i_n8, k_cl, if_true, if_false]
    · rw [if_neg cl] at h4
      obtain ⟨u, e1, f1, m1⟩ := XE_ref (k := 2) h hl
      refine .inr (.inl ⟨c2, cl, u, ?_, f1, m1⟩)
      rw [c2, h4]
      simp (disch := omega) only [i_leT, i_leF, i_ltT, i_ltF, i_eqT, i_eqF, i_okT, i_n1, i_n2, i_n3, i_n4, i_n5, i_n6, i_n7, i_n8, k_cl, if_true, if_false]
      rw [e1, b_bi, tX3_needNumber_33]
      try simp only [k_lit, k_nN, k_ofN]
      simp (disch := omega) only [i_leT, i_leF, i_ltT, i_ltF, i_eqT, i_eqF, i_okT, i_n1, i_n2, i_n3, i_n4, i_n5, i_n6, i_n7, i_n8, k_cl, if_true, if_false]
  · obtain ⟨u, e1, f1, m1⟩ := XE_ref (k := 1) h hl
    refine .inr (.inr ⟨c2, u, ?_, f1, m1⟩)
    rw [i_eqF c2 (by omega) (by omega), e1, b_bi, r01_0]
theorem rd_val {B : Nat → Nat} {n d f : Nat} {c0 : List (Nat × Nat)} {s : aMem} (hn : n ≤ 700) (hB : ∀ j, j < n → B j < 256) (h : XE B n f c0 s) (hc : c0.length ≤ f) (hk : kd B n f = 1) (h12 : isW B n f 12 = false) : ∃ r, Ql B n 5 d f r ∧ XRz B n c0 (fX3_readValue [.ref 21] s) s r := by
  have hlt := kd_lt (B := B) (n := n) (f := f) (by omega)
  have w15 : fX5_isWord [.ref 1, .ref 1015] s = some (.inl (some (.int (nI (isW B n f 0).toNat))), s) := xw15 hn hB h.1
  have w4 : fX5_isWord [.ref 1, .ref 1004] s = some (.inl (some (.int (nI (isW B n f 1).toNat))), s) := xw4 hn hB h.1
  have w5 : fX5_isWord [.ref 1, .ref 1005] s = some (.inl (some (.int (nI (isW B n f 2).toNat))), s) := xw5 hn hB h.1
  have w6 : fX5_isWord [.ref 1, .ref 1006] s = some (.inl (some (.int (nI (isW B n f 3).toNat))), s) := xw6 hn hB h.1
  have fin : ∀ k, k < 4 → ∀ v, v = xst (1, k) → ∃ u, a_bv (fX1_add [.ref 4, .int v] s) (fun s3 => a_run none shp pX3_readValue 90 [some (.ref 21), some (.int v)] [] s3) none (fun x s3 => some (.inr x, s3)) = some (.inl (some (.int (nI 1))), u) ∧ frX s u ∧ XE B n (nx B n f) (c0 ++ [(1, k)]) u := by
    intro k hk v hv
    obtain ⟨u1, e1, f1, m1⟩ := sX1_addT (q := (1, k)) h (by omega) hv
    obtain ⟨u2, e2, f2, m2⟩ := XE_next hn hB m1
    refine ⟨u2, ?_, frX_tr f1 f2, m2⟩
    rw [e1, b_bv, tX3_readValue_90, e2, b_bv, tX3_readValue_97]
    try simp only [k_lit, k_nN, k_ofN]
  rw [tX3_readValue, w15, b_bi, tX3_readValue_9]
  try simp only [k_lit, k_nN, k_ofN]
  cases e0 : isW B n f 0
  · rw [Bool.toNat_false]
    simp (disch := omega) only [i_leT, i_leF, i_ltT, i_ltF, i_eqT, i_eqF, i_okT, i_n1, i_n2, i_n3, i_n4, i_n5, i_n6, i_n7, i_n8, k_cl, if_true, if_false]
    rw [w4, b_bi, tX3_readValue_25]
    try simp only [k_lit, k_nN, k_ofN]
    cases e1 : isW B n f 1
    · rw [Bool.toNat_false]
      simp (disch := omega) only [i_leT, i_leF, i_ltT, i_ltF, i_eqT, i_eqF, i_okT, i_n1, i_n2, i_n3, i_n4, i_n5, i_n6, i_n7, i_n8, k_cl, if_true, if_false]
      rw [w5, b_bi, tX3_readValue_42]
      try simp only [k_lit, k_nN, k_ofN]
      cases e2 : isW B n f 2
      · rw [Bool.toNat_false]
        simp (disch := omega) only [i_leT, i_leF, i_ltT, i_ltF, i_eqT, i_eqF, i_okT, i_n1, i_n2, i_n3, i_n4, i_n5, i_n6, i_n7, i_n8, k_cl, if_true, if_false]
        rw [w6, b_bi, tX3_readValue_59]
        try simp only [k_lit, k_nN, k_ofN]
        cases e3 : isW B n f 3
        · rw [Bool.toNat_false]
          simp (disch := omega) only [i_leT, i_leF, i_ltT, i_ltF, i_eqT, i_eqF, i_okT, i_n1, i_n2, i_n3, i_n4, i_n5, i_n6, i_n7, i_n8, k_cl, if_true, if_false]
          obtain ⟨u, e4, f1, m1⟩ := XE_ref (k := 3) h (by omega)
          refine ⟨_, q_unk hn hB hk h12 (fun k hk => ?_), u, ?_, f1, m1⟩
          · have : k = 0 ∨ k = 1 ∨ k = 2 ∨ k = 3 := by omega
            rcases this with c | c | c | c <;> subst c
            · exact e0
            · exact e1
            · exact e2
            · exact e3
          · rw [e4, b_bi, r01_0]
        · rw [Bool.toNat_true]
          simp (disch := omega) only [i_leT, i_leF, i_ltT, i_ltF, i_eqT, i_eqF, i_okT, i_n1, i_n2, i_n3, i_n4, i_n5, i_n6, i_n7, i_n8, k_cl, if_true, if_false]
          obtain ⟨u, q1, q2⟩ := fin 3 (by omega) (-nI 4) rfl
          exact ⟨_, q_val hn hB e3 (by omega), u, q1, q2⟩
      · rw [Bool.toNat_true]
        simp (disch := omega) only [i_leT, i_leF, i_ltT, i_ltF, i_eqT, i_eqF, i_okT, i_n1, i_n2, i_n3, i_n4, i_n5, i_n6, i_n7, i_n8, k_cl, if_true, if_false]
        obtain ⟨u, q1, q2⟩ := fin 2 (by omega) (-nI 3) rfl
        exact ⟨_, q_val hn hB e2 (by omega), u, q1, q2⟩
    · rw [Bool.toNat_true]
      simp (disch := omega) only [i_leT, i_leF, i_ltT, i_ltF, i_eqT, i_eqF, i_okT, i_n1, i_n2, i_n3, i_n4, i_n5, i_n6, i_n7, i_n8, k_cl, if_true, if_false]
      obtain ⟨u, q1, q2⟩ := fin 1 (by omega) (-nI 2) rfl
      exact ⟨_, q_val hn hB e1 (by omega), u, q1, q2⟩
  · rw [Bool.toNat_true]
    simp (disch := omega) only [i_leT, i_leF, i_ltT, i_ltF, i_eqT, i_eqF, i_okT, i_n1, i_n2, i_n3, i_n4, i_n5, i_n6, i_n7, i_n8, k_cl, if_true, if_false]
    obtain ⟨u, q1, q2⟩ := fin 0 (by omega) nN rfl
    exact ⟨_, q_val hn hB e0 (by omega), u, q1, q2⟩
theorem rd_one {B : Nat → Nat} {n d q : Nat} (hn : n ≤ 700) (hB : ∀ j, j < n → B j < 256) (H : XDp B n (fRD (q + 1)) d) (H2 : XDp B n (fRD q) d) : XLs B n (fRD (q + 3)) 5 d := by
  intro f c0 s h hc
  have hfn := h.1.1
  have hk := kd_le B n f
  have key : ∃ r, Ql B n 5 d f r ∧ XRz B n c0 (fRD (q + 2) 3 [.ref 21, .int (nI d)] s) s r := by
    cases e40 : sgn B n f 40
    · have w11 : fX5_isWord [.ref 1, .ref 1011] s = some (.inl (some (.int (nI (isW B n f 12).toNat))), s) := xw11 hn hB h.1
      have start : fRD (q + 2) 3 [.ref 21, .int (nI d)] s = a_run none shp (pX3_readSingle (fRD (q + 1))) 53 [some (.ref 21), some (.int (nI d))] [.int (nI (isW B n f 12).toNat)] s := by
        rw [rd3, tX3_readSingle]
        try simp only [k_lit, k_nN, k_ofN]
        rw [sX5_isSign hn hB h.1 (by omega), b_bi, tX3_readSingle_9, e40, Bool.toNat_false]
        try simp only [k_lit, k_nN, k_ofN]
        simp (disch := omega) only [i_leT, i_leF, i_ltT, i_ltF, i_eqT, i_eqF, i_okT, i_n1, i_n2, i_n3, i_n4, i_n5, i_n6, i_n7, i_n8, k_cl, if_true, if_false]
        rw [w11, b_bi]
      rw [start, tX3_readSingle_53, h.1.2.1]
      try simp only [k_lit, k_nN, k_ofN]
      cases e12 : isW B n f 12
      · rw [Bool.toNat_false]
        simp (disch := omega) only [i_leT, i_leF, i_ltT, i_ltF, i_eqT, i_eqF, i_okT, i_n1, i_n2, i_n3, i_n4, i_n5, i_n6, i_n7, i_n8, k_cl, if_true, if_false]
        by_cases c1 : kd B n f = 1
        · rw [c1]
          simp (disch := omega) only [i_leT, i_leF, i_ltT, i_ltF, i_eqT, i_eqF, i_okT, i_n1, i_n2, i_n3, i_n4, i_n5, i_n6, i_n7, i_n8, k_cl, if_true, if_false]
          obtain ⟨r, Q, X⟩ := rd_val (d := d) hn hB h hc c1 e12
          refine ⟨r, Q, ?_⟩
          rcases r with ⟨g, c⟩ | ⟨k, p⟩
          · obtain ⟨u, e2, f2, m2⟩ := X
            rw [e2, b_bi, r01_1]
            exact ⟨u, rfl, f2, m2⟩
          · obtain ⟨u, e2, f2, m2⟩ := X
            rw [e2, b_bi, r01_0]
            exact ⟨u, rfl, f2, m2⟩
        · rw [i_eqF c1 (by omega) (by omega)]
          rcases sX3_needNumber h (by omega) with ⟨c2, cl, e1, h4⟩ | ⟨c2, cl, u, e1, f1, m1⟩ | ⟨c2, u, e1, f1, m1⟩
          · have hlt := kd_lt (B := B) (n := n) (f := f) (by omega)
            obtain ⟨u1, e2, f2, m2⟩ := sX1_addT (q := (0, nm B n f)) (v := nI (nm B n f)) h (by omega) rfl
            obtain ⟨u2, e3, f3, m3⟩ := XE_next hn hB m2
            refine ⟨_, q_num hn hB c2 cl, u2, ?_, frX_tr f2 f3, m3⟩
            rw [e1, b_bi, tX3_readSingle_82, h4]
            try simp only [k_lit, k_nN, k_ofN]
            simp (disch := omega) only [i_leT, i_leF, i_ltT, i_ltF, i_eqT, i_eqF, i_okT, i_n1, i_n2, i_n3, i_n4, i_n5, i_n6, i_n7, i_n8, k_cl, if_true, if_false]
            rw [e2, b_bv, tX3_readSingle_104, e3, b_bv, tX3_readSingle_111]
            try simp only [k_lit, k_nN, k_ofN]
          · refine ⟨_, q_big hn hB c2 cl, u, ?_, f1, m1⟩
            rw [e1, b_bi, tX3_readSingle_82]
            try simp only [k_lit, k_nN, k_ofN]
            simp (disch := omega) only [i_leT, i_leF, i_ltT, i_ltF, i_eqT, i_eqF, i_okT, i_n1, i_n2, i_n3, i_n4, i_n5, i_n6, i_n7, i_n8, k_cl, if_true, if_false]
          · refine ⟨_, q_bad hn hB hfn (by simp [tk, c1, c2, e40]), u, ?_, f1, m1⟩
            rw [e1, b_bi, tX3_readSingle_82]
            try simp only [k_lit, k_nN, k_ofN]
            simp (disch := omega) only [i_leT, i_leF, i_ltT, i_ltF, i_eqT, i_eqF, i_okT, i_n1, i_n2, i_n3, i_n4, i_n5, i_n6, i_n7, i_n8, k_cl, if_true, if_false]
      · rw [Bool.toNat_true]
        simp (disch := omega) only [i_leT, i_leF, i_ltT, i_ltF, i_eqT, i_eqF, i_okT, i_n1, i_n2, i_n3, i_n4, i_n5, i_n6, i_n7, i_n8, k_cl, if_true, if_false]
        obtain ⟨r, Q, X⟩ := rd_if hn hB H2 h hc e12
        refine ⟨r, Q, ?_⟩
        rcases r with ⟨g, c⟩ | ⟨k, p⟩
        · obtain ⟨u, e2, f2, m2⟩ := X
          rw [e2, b_bi, r01_1]
          exact ⟨u, rfl, f2, m2⟩
        · obtain ⟨u, e2, f2, m2⟩ := X
          rw [e2, b_bi, r01_0]
          exact ⟨u, rfl, f2, m2⟩
    · exact rd_par hn hB H h hc e40
  obtain ⟨r, Q, X⟩ := key
  refine ⟨r, Q, ?_⟩
  rw [rd1, tX3_readLevel]
  try simp only [k_lit, k_nN, k_ofN]
  simp (disch := omega) only [i_leT, i_leF, i_ltT, i_ltF, i_eqT, i_eqF, i_okT, i_n1, i_n2, i_n3, i_n4, i_n5, i_n6, i_n7, i_n8, k_cl, if_true, if_false]
  rcases r with ⟨g, c⟩ | ⟨k, p⟩
  · obtain ⟨u, e2, f2, m2⟩ := X
    rw [e2, b_bi, r01_1]
    exact ⟨u, rfl, f2, m2⟩
  · obtain ⟨u, e2, f2, m2⟩ := X
    rw [e2, b_bi, r01_0]
    exact ⟨u, rfl, f2, m2⟩
theorem rd_up {B : Nat → Nat} {n d q : Nat} (hn : n ≤ 700) (hB : ∀ j, j < n → B j < 256) (hd : d ≤ 5) (H : XDp B n (fRD (q + 1)) d) (H2 : XDp B n (fRD q) d) : XEs B n (fRD (q + 10)) d :=
  XE_0 hd (XL_up hn hB (.inl rfl) (XL_up hn hB (.inr (.inl rfl)) (XL_2 hn hB (XL_up hn hB (.inr (.inr (.inl rfl))) (XL_up hn hB (.inr (.inr (.inr rfl))) (rd_one hn hB H H2))))))
theorem rd_all {B : Nat → Nat} {n : Nat} (hn : n ≤ 700) (hB : ∀ j, j < n → B j < 256) : ∀ m d, d + m = 5 → ∀ q, 10 * m + 11 ≤ q → XEs B n (fRD q) d := by
  intro m
  induction m with
  | zero =>
    intro d hd q hq
    have e5 : d = 5 := by omega
    subst e5
    obtain ⟨p, rfl⟩ : ∃ p, q = (p + 1) + 10 := ⟨q - 11, by omega⟩
    exact rd_up hn hB (by omega) (.inr ⟨rfl, fun f c0 s h hc => XE_6 hn hB h hc⟩) (.inr ⟨rfl, fun f c0 s h hc => XE_6 hn hB h hc⟩)
  | succ m ih =>
    intro d hd q hq
    obtain ⟨p, rfl⟩ : ∃ p, q = p + 10 := ⟨q - 10, by omega⟩
    exact rd_up hn hB (by omega) (.inl ⟨by omega, ih (d + 1) (by omega) _ (by omega)⟩) (.inl ⟨by omega, ih (d + 1) (by omega) _ (by omega)⟩)
/-- an expression, by both -/
theorem rd_expr {B : Nat → Nat} {n f : Nat} {s : aMem} {c0 : List (Nat × Nat)} (hn : n ≤ 700) (hB : ∀ j, j < n → B j < 256) (h : XE B n f c0 s) (hc : c0.length ≤ f) : ∃ r, Ql B n 0 0 f r ∧ XRz B n c0 (fX3_readExpr [.ref 21, .int (nI 0)] s) s r := rd_all hn hB 5 0 rfl 70 (by omega) f c0 s h hc
