/-! ===== steps of the model's expression ===== -/
noncomputable def ML (s : aMem) : Option aRes := a_run none shp pX9_expression 29 [some (.ref 43), some (.int (nI 1)), none] [] s
noncomputable def OPl (nt : Nat) (s : aMem) : Option aRes := a_bv (a_run none shp pX9_operand 4 [some (.ref 43), none, some (.int (nI nt)), some (.int (nI 1)), none] [] s) (fun s1 => ML s1) none (fun x s1 => some (.inr x, s1))
noncomputable def OP79 (nt : Nat) (s : aMem) : Option aRes := a_bv (a_run none shp pX9_operand 79 [some (.ref 43), none, some (.int (nI nt)), none, none] [.int (nI 1)] s) (fun s1 => ML s1) none (fun x s1 => some (.inr x, s1))
theorem bv_as (A : Option aRes) (K K' : aMem → Option aRes) : a_bv (a_bv A K none (fun x s1 => some (.inr x, s1))) K' none (fun x s1 => some (.inr x, s1)) = a_bv A (fun s => a_bv (K s) K' none (fun x s1 => some (.inr x, s1))) none (fun x s1 => some (.inr x, s1)) := by
  cases A with
  | none => rfl
  | some r =>
    obtain ⟨o, s⟩ := r
    cases o with
    | inl v => cases v <;> rfl
    | inr x => rfl
/-- a fault stands; the rest may be as it is -/
def MBd (n k p : Nat) (s : aMem) : Prop := s.1 43 11 = nI k ∧ s.1 43 12 = nI p ∧ (0 < k ∧ k < 10 ∧ p ≤ n) ∧ ∃ W O, mS W O s ∧ O.length + W.length < 1490
theorem mS_fr {W : List Nat} {O : List Int32} {s t : aMem} {K : List Nat} {F : List (Nat × Nat)} (h : mS W O s) (hf : fr K F s t) (h1 : (K.all fun k => k != 43 && k != 55 && k != 56) = true) (h2 : (F.all fun q => q.1 != 55 && q.1 != 56 && !((q.1 == 43) && (q.2 == 24 || q.2 == 25))) = true) : mS W O t := by
  have kk : ∀ k, k = 43 ∨ k = 55 ∨ k = 56 → k ∉ K := by
    intro k hk c
    have := List.all_eq_true.mp h1 k c
    rcases hk with e | e | e <;> subst e <;> simp at this
  have ff : ∀ j, j = 24 ∨ j = 25 → (43, j) ∉ F := by
    intro j hj c
    have := List.all_eq_true.mp h2 _ c
    rcases hj with e | e <;> subst e <;> simp at this
  have f5 : ∀ k j, k = 55 ∨ k = 56 → (k, j) ∉ F := by
    intro k j hk c
    have := List.all_eq_true.mp h2 _ c
    rcases hk with e | e <;> subst e <;> simp at this
  obtain ⟨⟨a1, a2, a3, a4⟩, a5, a6, a7⟩ := h
  refine ⟨⟨by rw [hf.1 43 25 (kk 43 (.inl rfl)) (ff 25 (by simp))]; exact a1, ?_, a3, a4⟩, by rw [hf.1 43 24 (kk 43 (.inl rfl)) (ff 24 (by simp))]; exact a5, fun j x hj => by rw [hf.1 55 j (kk 55 (by simp)) (f5 55 j (by simp))]; exact a6 j x hj, a7⟩
  exact Rp_cg (fun j _ => (hf.1 56 j (kk 56 (by simp)) (f5 56 j (by simp))).symm) a2
/-- the next token, within an expression -/
theorem ME_goes {B : Nat → Nat} {n f : Nat} {W : List Nat} {O : List Int32} {d : Nat} {ts : Nat → Nat} {s : aMem} (hn : n ≤ 700) (hB : ∀ j, j < n → B j < 256) (h : MT B n f s) (h11 : s.1 43 11 = nI 0) (hS : mS W O s) (hd : s.1 43 26 = nI d ∧ d ≤ 6) (hts : ∀ j, j ≤ d → s.1 57 j = nI (ts j) ∧ ts j < 4294967296) (hb1 : W.length ≤ nx B n f) (hb2 : O.length + W.length ≤ 2 * nx B n f) : ∃ u, fX9_goes [.ref 43] s = some (.inl none, u) ∧ fr [] [(43, 15), (43, 16), (43, 17), (43, 18), (43, 19), (43, 20), (43, 21)] s u ∧ ME B n (nx B n f) W O d ts u := by
  obtain ⟨hf, h14, h15, -, -, -, -, -, -, hb⟩ := id h
  obtain ⟨u, hu, fu, tu⟩ := sX9_goes hn hB (ed_le hf).2.1 h15 h14 hb
  refine ⟨u, hu, fu, tu, by rw [fu.1 43 11 (by simp) (by decide)]; exact h11, mS_fr hS fu rfl rfl, ⟨by rw [fu.1 43 26 (by simp) (by decide)]; exact hd.1, hd.2⟩, fun j hj => by rw [fu.1 57 j (by simp) (by simp)]; exact hts j hj, hb1, hb2⟩
theorem frM_of {K : List Nat} {F : List (Nat × Nat)} {s u : aMem} (h : fr K F s u) (h1 : (K.all fun k => [55, 56, 57].contains k) = true) (h2 : (F.all fun q => frMl.contains q) = true) : frM s u := by
  refine fr_mono h (fun k hk => ?_) (fun q hq => .inr ?_)
  · have := List.all_eq_true.mp h1 k hk
    exact List.contains_iff_mem.mp this
  · have := List.all_eq_true.mp h2 q hq
    exact List.contains_iff_mem.mp this
/-- the parts of ML's test of the token: no known word at a sign -/
theorem sg_nW {B : Nat → Nat} {n f c : Nat} (h : sgn B n f c = true) : (∀ k, isW B n f k = false) ∧ wd B n f = none ∧ kd B n f = 3 ∧ ∀ c', sgn B n f c' = decide (c = c') := by
  unfold sgn at h
  simp only [Bool.and_eq_true, decide_eq_true_eq] at h
  have h1 : ∀ k, isW B n f k = false := by
    intro k
    apply Bool.eq_false_iff.mpr
    intro q
    have := (isW_iff.mp q).1
    omega
  refine ⟨h1, ?_, h.1, fun c' => ?_⟩
  · cases e : wd B n f with
    | none => rfl
    | some k =>
      have := (wd_of e).2
      rw [h1 k] at this
      cases this
  · unfold sgn
    simp [h.1, h.2]
theorem isW_nS {B : Nat → Nat} {n f k : Nat} (h : isW B n f k = true) : ∀ c, sgn B n f c = false := by
  intro c
  have := (isW_iff.mp h).1
  unfold sgn
  simp [this]
/-- ML at a good place: its word is asked -/
theorem ML_44 {B : Nat → Nat} {n f : Nat} {s : aMem} (hn : n ≤ 700) (h : MT B n f s) (h11 : s.1 43 11 = nI 0) : ML s = a_run none shp pX9_expression 44 [some (.ref 43), some (.int (nI 1)), none] [.int (oI (wd B n f))] s := by
  unfold ML
  rw [tX9_expression_29]
  try simp only [k_lit, k_nN, k_ofN]
  simp (disch := omega) only [i_leT, i_leF, i_ltT, i_ltF, i_eqT, i_eqF, i_okT, i_n1, i_n2, i_n3, i_n4, i_n5, i_n6, i_n7, i_n8, k_cl, if_true, if_false]
  rw [sX9_isGoodT h11, b_bi, tX9_expression_37]
  try simp only [k_lit, k_nN, k_ofN]
  simp (disch := omega) only [i_leT, i_leF, i_ltT, i_ltF, i_eqT, i_eqF, i_okT, i_n1, i_n2, i_n3, i_n4, i_n5, i_n6, i_n7, i_n8, k_cl, if_true, if_false]
  rw [sX9_knownWord hn h, b_bi]
theorem OP_op {v : Nat} {s : aMem} : a_bv (fX9_operand [.ref 43, .int (nI v)] s) (fun s1 => a_run none shp pX9_expression 29 [some (.ref 43), some (.int (nI 1)), none] [] s1) none (fun x s1 => some (.inr x, s1)) = OPl v s := by
  rw [tX9_operand]
  try simp only [k_lit, k_nN, k_ofN]
  rfl
/-- a binary operator: what is stronger is put, it waits, the operand behind it comes -/
theorem ML_mul {B : Nat → Nat} {n f : Nat} {P W : List Nat} {O : List Int32} {d : Nat} {ts : Nat → Nat} {s : aMem} {c x : Nat} (hn : n ≤ 700) (hB : ∀ j, j < n → B j < 256) (h : ME B n f (P ++ W) O d ts s) (hP : ∀ x, x ∈ P → x < 14 ∧ 6 ≤ stre x) (hW : lowW 6 W) (hc : (c = 42 ∧ x = 10) ∨ (c = 47 ∧ x = 11)) (ht : sgn B n f c = true) : ∃ u, ML s = OPl 0 u ∧ frM s u ∧ ME B n (nx B n f) (x :: W) (O ++ P.map nI) d ts u := by
  obtain ⟨hT, h11, hS, hd, hts, hb1, hb2⟩ := id h
  obtain ⟨-, hwd, hkd, hsg⟩ := sg_nW ht
  have hlt := kd_lt (B := B) (n := n) (f := f) (by omega)
  have hnx := nx_le (B := B) (n := n) (f := f) (by omega)
  obtain ⟨u1, e1, f1, m1⟩ := sX9_drops (σ := 6) (by omega) hS hP hW
  have hT1 := MT_fr hT f1 rfl rfl
  obtain ⟨u2, e2, f2, m2⟩ := sX9_waitsFor (x := x) m1 (by simp only [List.length_append] at hb1; omega) (by simp only [List.length_append, List.length_map] at hb2 ⊢; omega) (by omega)
  have hT2 := MT_fr hT1 f2 rfl rfl
  have F2 : fr [55, 56] [(43, 24), (43, 25)] s u2 := fr_trans (fr_mono f1 (by simp) (by simp)) (fr_mono f2 (by simp) (by simp))
  obtain ⟨u3, e3, f3, m3⟩ := ME_goes (d := d) (ts := ts) hn hB hT2 (by rw [F2.1 43 11 (by decide) (by decide)]; exact h11) m2 ⟨by rw [F2.1 43 26 (by decide) (by decide)]; exact hd.1, hd.2⟩ (fun j hj => by rw [F2.1 57 j (by decide) (by simp)]; exact hts j hj) (by simp only [List.length_append, List.length_cons] at hb1 ⊢; omega) (by simp only [List.length_append, List.length_cons, List.length_map] at hb2 ⊢; omega)
  refine ⟨u3, ?_, frM_of (fr_trans (fr_mono F2 (by simp) (by simp)) (fr_mono f3 (by simp) (by simp)) : fr [55, 56] [(43, 24), (43, 25), (43, 15), (43, 16), (43, 17), (43, 18), (43, 19), (43, 20), (43, 21)] s u3) (by decide) (by decide), m3⟩
  have sgc : ∀ c', isSg c' = true → c' < 256 → fX9_isSign [.ref 43, .int (nI c')] s = some (.inl (some (.int (nI (decide (c = c')).toNat))), s) := fun c' q1 q2 => by rw [sX9_isSign hB hT q1 q2, hsg]
  rw [ML_44 hn hT h11, hwd, tX9_expression_44]
  try simp only [k_lit, k_nN, k_ofN]
  rw [show oI none = nN from rfl]
  simp (disch := omega) only [i_leT, i_leF, i_ltT, i_ltF, i_eqT, i_eqF, i_okT, i_n1, i_n2, i_n3, i_n4, i_n5, i_n6, i_n7, i_n8, k_cl, if_true, if_false]
  rcases hc with ⟨hc1, hx1⟩ | ⟨hc1, hx1⟩ <;> subst hc1 <;> subst hx1
  · rw [sgc 60 (by decide) (by decide), b_bi, tX9_expression_115]
    try simp only [k_lit, k_nN, k_ofN]
    simp only [show (decide (42 = 60)).toNat = 0 from rfl]
    simp (disch := omega) only [i_leT, i_leF, i_ltT, i_ltF, i_eqT, i_eqF, i_okT, i_n1, i_n2, i_n3, i_n4, i_n5, i_n6, i_n7, i_n8, k_cl, if_true, if_false]
    rw [sgc 61 (by decide) (by decide), b_bi, tX9_expression_124]
    try simp only [k_lit, k_nN, k_ofN]
    simp only [show (decide (42 = 61)).toNat = 0 from rfl]
    simp (disch := omega) only [i_leT, i_leF, i_ltT, i_ltF, i_eqT, i_eqF, i_okT, i_n1, i_n2, i_n3, i_n4, i_n5, i_n6, i_n7, i_n8, k_cl, if_true, if_false]
    rw [sgc 43 (by decide) (by decide), b_bi, tX9_expression_192]
    try simp only [k_lit, k_nN, k_ofN]
    simp only [show (decide (42 = 43)).toNat = 0 from rfl]
    simp (disch := omega) only [i_leT, i_leF, i_ltT, i_ltF, i_eqT, i_eqF, i_okT, i_n1, i_n2, i_n3, i_n4, i_n5, i_n6, i_n7, i_n8, k_cl, if_true, if_false]
    rw [sgc 45 (by decide) (by decide), b_bi, tX9_expression_201]
    try simp only [k_lit, k_nN, k_ofN]
    simp only [show (decide (42 = 45)).toNat = 0 from rfl]
    simp (disch := omega) only [i_leT, i_leF, i_ltT, i_ltF, i_eqT, i_eqF, i_okT, i_n1, i_n2, i_n3, i_n4, i_n5, i_n6, i_n7, i_n8, k_cl, if_true, if_false]
    rw [sgc 42 (by decide) (by decide), b_bi, tX9_expression_247]
    try simp only [k_lit, k_nN, k_ofN]
    simp only [decide_true, Bool.toNat_true]
    simp (disch := omega) only [i_leT, i_leF, i_ltT, i_ltF, i_eqT, i_eqF, i_okT, i_n1, i_n2, i_n3, i_n4, i_n5, i_n6, i_n7, i_n8, k_cl, if_true, if_false]
    rw [e1, b_bv, tX9_expression_265]
    try simp only [k_lit, k_nN, k_ofN]
    rw [sX9_isSign hB hT1 (by decide) (by decide), hsg, b_bi, tX9_expression_272]
    try simp only [k_lit, k_nN, k_ofN]
    simp only [decide_true, Bool.toNat_true]
    simp (disch := omega) only [i_leT, i_leF, i_ltT, i_ltF, i_eqT, i_eqF, i_okT, i_n1, i_n2, i_n3, i_n4, i_n5, i_n6, i_n7, i_n8, k_cl, if_true, if_false]
    rw [e2, b_bv, tX9_expression_285, e3, b_bv, tX9_expression_289]
    try simp only [k_lit, k_nN, k_ofN]
    exact OP_op
  · rw [sgc 60 (by decide) (by decide), b_bi, tX9_expression_115]
    try simp only [k_lit, k_nN, k_ofN]
    simp only [show (decide (47 = 60)).toNat = 0 from rfl]
    simp (disch := omega) only [i_leT, i_leF, i_ltT, i_ltF, i_eqT, i_eqF, i_okT, i_n1, i_n2, i_n3, i_n4, i_n5, i_n6, i_n7, i_n8, k_cl, if_true, if_false]
    rw [sgc 61 (by decide) (by decide), b_bi, tX9_expression_124]
    try simp only [k_lit, k_nN, k_ofN]
    simp only [show (decide (47 = 61)).toNat = 0 from rfl]
    simp (disch := omega) only [i_leT, i_leF, i_ltT, i_ltF, i_eqT, i_eqF, i_okT, i_n1, i_n2, i_n3, i_n4, i_n5, i_n6, i_n7, i_n8, k_cl, if_true, if_false]
    rw [sgc 43 (by decide) (by decide), b_bi, tX9_expression_192]
    try simp only [k_lit, k_nN, k_ofN]
    simp only [show (decide (47 = 43)).toNat = 0 from rfl]
    simp (disch := omega) only [i_leT, i_leF, i_ltT, i_ltF, i_eqT, i_eqF, i_okT, i_n1, i_n2, i_n3, i_n4, i_n5, i_n6, i_n7, i_n8, k_cl, if_true, if_false]
    rw [sgc 45 (by decide) (by decide), b_bi, tX9_expression_201]
    try simp only [k_lit, k_nN, k_ofN]
    simp only [show (decide (47 = 45)).toNat = 0 from rfl]
    simp (disch := omega) only [i_leT, i_leF, i_ltT, i_ltF, i_eqT, i_eqF, i_okT, i_n1, i_n2, i_n3, i_n4, i_n5, i_n6, i_n7, i_n8, k_cl, if_true, if_false]
    rw [sgc 42 (by decide) (by decide), b_bi, tX9_expression_247]
    try simp only [k_lit, k_nN, k_ofN]
    simp only [show (decide (47 = 42)).toNat = 0 from rfl]
    simp (disch := omega) only [i_leT, i_leF, i_ltT, i_ltF, i_eqT, i_eqF, i_okT, i_n1, i_n2, i_n3, i_n4, i_n5, i_n6, i_n7, i_n8, k_cl, if_true, if_false]
    rw [sgc 47 (by decide) (by decide), b_bi, tX9_expression_256]
    try simp only [k_lit, k_nN, k_ofN]
    simp only [decide_true, Bool.toNat_true]
    simp (disch := omega) only [i_leT, i_leF, i_ltT, i_ltF, i_eqT, i_eqF, i_okT, i_n1, i_n2, i_n3, i_n4, i_n5, i_n6, i_n7, i_n8, k_cl, if_true, if_false]
    rw [e1, b_bv, tX9_expression_265]
    try simp only [k_lit, k_nN, k_ofN]
    rw [sX9_isSign hB hT1 (by decide) (by decide), hsg, b_bi, tX9_expression_272]
    try simp only [k_lit, k_nN, k_ofN]
    simp only [show (decide (47 = 42)).toNat = 0 from rfl]
    simp (disch := omega) only [i_leT, i_leF, i_ltT, i_ltF, i_eqT, i_eqF, i_okT, i_n1, i_n2, i_n3, i_n4, i_n5, i_n6, i_n7, i_n8, k_cl, if_true, if_false]
    rw [e2, b_bv, tX9_expression_285, e3, b_bv, tX9_expression_289]
    try simp only [k_lit, k_nN, k_ofN]
    exact OP_op
