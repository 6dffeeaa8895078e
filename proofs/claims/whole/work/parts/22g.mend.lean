/-! ===== the model's expression: its end, its operand ===== -/
def MEd (n k p : Nat) (s : aMem) : Prop := s.1 43 11 = nI k ∧ s.1 43 12 = nI p ∧ (0 < k ∧ k < 10 ∧ p ≤ n)
theorem MB_end {n k p : Nat} {s : aMem} (h : MBd n k p s) : ∃ u, a_run none shp pX9_expression 423 [some (.ref 43), none, none] [] s = some (.inl none, u) ∧ frM s u ∧ MEd n k p u := by
  obtain ⟨h1, h2, h3, W, O, hS, hl⟩ := h
  obtain ⟨u1, W', O', e1, f1, m1, hl1⟩ := sX9_dropsB hS
  obtain ⟨u2, e2, f2, m2⟩ := sX9_puts m1 (by omega) (nI 0)
  refine ⟨u2, ?_, frM_of (fr_trans (fr_mono f1 (by simp) (by simp)) (fr_mono f2 (by simp) (by simp)) : fr [55] [(43, 24), (43, 25)] s u2) (by decide) (by decide), ?_, ?_, h3⟩
  · rw [tX9_expression_423]
    try simp only [k_lit, k_nN, k_ofN]
    rw [e1, b_bv, tX9_expression_428]
    try simp only [k_lit, k_nN, k_ofN]
    rw [e2, b_bv]
  · rw [f2.1 43 11 (by decide) (by decide), f1.1 43 11 (by decide) (by decide)]; exact h1
  · rw [f2.1 43 12 (by decide) (by decide), f1.1 43 12 (by decide) (by decide)]; exact h2
theorem MB_ML {n k p : Nat} {s : aMem} (h : MBd n k p s) : ∃ u, ML s = some (.inl none, u) ∧ frM s u ∧ MEd n k p u := by
  obtain ⟨u, e, f, m⟩ := MB_end h
  refine ⟨u, ?_, f, m⟩
  obtain ⟨h1, h2, h3, -⟩ := h
  unfold ML
  rw [tX9_expression_29]
  try simp only [k_lit, k_nN, k_ofN]
  simp (disch := omega) only [i_leT, i_leF, i_ltT, i_ltF, i_eqT, i_eqF, i_okT, i_n1, i_n2, i_n3, i_n4, i_n5, i_n6, i_n7, i_n8, k_cl, if_true, if_false]
  rw [sX9_isGoodF h1 h3.1 h3.2.1, b_bi, tX9_expression_37]
  try simp only [k_lit, k_nN, k_ofN]
  simp (disch := omega) only [i_leT, i_leF, i_ltT, i_ltF, i_eqT, i_eqF, i_okT, i_n1, i_n2, i_n3, i_n4, i_n5, i_n6, i_n7, i_n8, k_cl, if_true, if_false]
  rw [sX9_isGoodF h1 h3.1 h3.2.1, b_bi, tX9_expression_407]
  try simp only [k_lit, k_nN, k_ofN]
  simp (disch := omega) only [i_leT, i_leF, i_ltT, i_ltF, i_eqT, i_eqF, i_okT, i_n1, i_n2, i_n3, i_n4, i_n5, i_n6, i_n7, i_n8, k_cl, if_true, if_false]
  exact e
theorem MB_OP {n k p v : Nat} {s : aMem} (h : MBd n k p s) : ∃ u, OPl v s = some (.inl none, u) ∧ frM s u ∧ MEd n k p u := by
  obtain ⟨u, e, f, m⟩ := MB_ML h
  refine ⟨u, ?_, f, m⟩
  obtain ⟨h1, h2, h3, -⟩ := h
  unfold OPl
  rw [tX9_operand_4]
  try simp only [k_lit, k_nN, k_ofN]
  simp (disch := omega) only [i_leT, i_leF, i_ltT, i_ltF, i_eqT, i_eqF, i_okT, i_n1, i_n2, i_n3, i_n4, i_n5, i_n6, i_n7, i_n8, k_cl, if_true, if_false]
  rw [sX9_isGoodF h1 h3.1 h3.2.1, b_bi, tX9_operand_12]
  try simp only [k_lit, k_nN, k_ofN]
  simp (disch := omega) only [i_leT, i_leF, i_ltT, i_ltF, i_eqT, i_eqF, i_okT, i_n1, i_n2, i_n3, i_n4, i_n5, i_n6, i_n7, i_n8, k_cl, if_true, if_false]
  rw [tX9_part, sX9_isGoodF h1 h3.1 h3.2.1, b_bi, tX9_part_4]
  try simp only [k_lit, k_nN, k_ofN]
  simp (disch := omega) only [i_leT, i_leF, i_ltT, i_ltF, i_eqT, i_eqF, i_okT, i_n1, i_n2, i_n3, i_n4, i_n5, i_n6, i_n7, i_n8, k_cl, if_true, if_false]
  rw [b_bv, b_bv]
  exact e
/-- what is wrong at a good place -/
theorem MB_wrong {B : Nat → Nat} {n f k : Nat} {W : List Nat} {O : List Int32} {s : aMem} (hT : MT B n f s) (h11 : s.1 43 11 = nI 0) (hS : mS W O s) (hl : O.length + W.length < 1490) (hk : 0 < k ∧ k < 10) : ∃ u, fX9_wrong [.ref 43, .int (nI k)] s = some (.inl none, u) ∧ fr [] [(43, 11), (43, 12)] s u ∧ MBd n k f u := by
  have hf : fr [] [(43, 11), (43, 12)] s (a_si (a_si s 43 11 (nI k)) 43 12 (s.1 43 17)) := fr_si (fr_si (fr_rfl s) (by simp)) (by simp)
  refine ⟨_, sX9_wrong h11, hf, by simp [m_si], ?_, ⟨hk.1, hk.2, hT.1⟩, W, O, mS_fr hS hf rfl rfl, hl⟩
  rw [← hT.2.2.2.2.1]
  simp [m_si]
noncomputable def OP18 (k : Nat) (s : aMem) : Option aRes := a_bv (a_run none shp pX9_operand 18 [some (.ref 43), none, some (.int (nI 1)), none, some (.int (nI k))] [] s) (fun s1 => ML s1) none (fun x s1 => some (.inr x, s1))
theorem OPl_1 {s : aMem} (h11 : s.1 43 11 = nI 0) : OPl 1 s = OP18 0 s := by
  unfold OPl OP18
  rw [tX9_operand_4]
  try simp only [k_lit, k_nN, k_ofN]
  simp (disch := omega) only [i_leT, i_leF, i_ltT, i_ltF, i_eqT, i_eqF, i_okT, i_n1, i_n2, i_n3, i_n4, i_n5, i_n6, i_n7, i_n8, k_cl, if_true, if_false]
  rw [sX9_isGoodT h11, b_bi, tX9_operand_12]
  try simp only [k_lit, k_nN, k_ofN]
  simp (disch := omega) only [i_leT, i_leF, i_ltT, i_ltF, i_eqT, i_eqF, i_okT, i_n1, i_n2, i_n3, i_n4, i_n5, i_n6, i_n7, i_n8, k_cl, if_true, if_false]
theorem OPl_0 {s : aMem} (h11 : s.1 43 11 = nI 0) : OPl 0 s = OP79 0 s := by
  unfold OPl OP79
  rw [tX9_operand_4]
  try simp only [k_lit, k_nN, k_ofN]
  simp (disch := omega) only [i_leT, i_leF, i_ltT, i_ltF, i_eqT, i_eqF, i_okT, i_n1, i_n2, i_n3, i_n4, i_n5, i_n6, i_n7, i_n8, k_cl, if_true, if_false]
  rw [sX9_isGoodT h11, b_bi, tX9_operand_12]
  try simp only [k_lit, k_nN, k_ofN]
  simp (disch := omega) only [i_leT, i_leF, i_ltT, i_ltF, i_eqT, i_eqF, i_okT, i_n1, i_n2, i_n3, i_n4, i_n5, i_n6, i_n7, i_n8, k_cl, if_true, if_false]
  rw [tX9_operand_18, sX9_isGoodT h11, b_bi, tX9_operand_22]
  try simp only [k_lit, k_nN, k_ofN]
  simp (disch := omega) only [i_leT, i_leF, i_ltT, i_ltF, i_eqT, i_eqF, i_okT, i_n1, i_n2, i_n3, i_n4, i_n5, i_n6, i_n7, i_n8, k_cl, if_true, if_false]
  rw [sX9_isGoodT h11, b_bi]
theorem OP18_33 {B : Nat → Nat} {n f k : Nat} {s : aMem} (hn : n ≤ 700) (hT : MT B n f s) (h11 : s.1 43 11 = nI 0) : OP18 k s = a_bv (a_run none shp pX9_operand 33 [some (.ref 43), none, some (.int (nI 1)), none, some (.int (nI k))] [.int (oI (wd B n f))] s) (fun s1 => ML s1) none (fun x s1 => some (.inr x, s1)) := by
  unfold OP18
  rw [tX9_operand_18, sX9_isGoodT h11, b_bi, tX9_operand_22]
  try simp only [k_lit, k_nN, k_ofN]
  simp (disch := omega) only [i_leT, i_leF, i_ltT, i_ltF, i_eqT, i_eqF, i_okT, i_n1, i_n2, i_n3, i_n4, i_n5, i_n6, i_n7, i_n8, k_cl, if_true, if_false]
  rw [sX9_knownWord hn hT, b_bi]
theorem OP18_n {B : Nat → Nat} {n f k : Nat} {s : aMem} (hn : n ≤ 700) (hT : MT B n f s) (h11 : s.1 43 11 = nI 0) (hw : isW B n f 11 = false) : OP18 k s = OP79 1 s := by
  have n11 : ¬ oI (wd B n f) = nI 11 := by rw [wd_ne (by omega), hw]; simp
  rw [OP18_33 hn hT h11]
  unfold OP79
  rw [tX9_operand_33]
  try simp only [k_lit, k_nN, k_ofN]
  rw [if_neg n11, sX9_isGoodT h11, b_bi]
theorem OP18_s {B : Nat → Nat} {n f k : Nat} {W : List Nat} {O : List Int32} {d : Nat} {ts : Nat → Nat} {s : aMem} (hn : n ≤ 700) (hB : ∀ j, j < n → B j < 256) (h : ME B n f W O d ts s) (hw : isW B n f 11 = true) (hk : k < 6) : ∃ u, OP18 k s = OP18 (k + 1) u ∧ frM s u ∧ ME B n (nx B n f) (3 :: W) O d ts u := by
  obtain ⟨hT, h11, hS, hd, hts, hb1, hb2⟩ := id h
  have hk1 := (isW_iff.mp hw).1
  have hlt := kd_lt (B := B) (n := n) (f := f) (by omega)
  have hnx := nx_le (B := B) (n := n) (f := f) (by omega)
  obtain ⟨u1, e1, f1, m1⟩ := sX9_waitsFor (x := 3) hS (by omega) (by omega) (by omega)
  obtain ⟨u2, e2, f2, m2⟩ := ME_goes (d := d) (ts := ts) hn hB (MT_fr hT f1 rfl rfl) (by rw [f1.1 43 11 (by decide) (by decide)]; exact h11) m1 ⟨by rw [f1.1 43 26 (by decide) (by decide)]; exact hd.1, hd.2⟩ (fun j hj => by rw [f1.1 57 j (by decide) (by simp)]; exact hts j hj) (by simp only [List.length_cons]; omega) (by simp only [List.length_cons]; omega)
  refine ⟨u2, ?_, frM_of (fr_trans (fr_mono f1 (by simp) (by simp)) (fr_mono f2 (by simp) (by simp)) : fr [56] [(43, 25), (43, 15), (43, 16), (43, 17), (43, 18), (43, 19), (43, 20), (43, 21)] s u2) (by decide) (by decide), m2⟩
  rw [OP18_33 hn hT h11, wd_some (by omega) hw, show oI (some 11) = nI 11 from rfl, tX9_operand_33]
  try simp only [k_lit, k_nN, k_ofN]
  simp (disch := omega) only [i_leT, i_leF, i_ltT, i_ltF, i_eqT, i_eqF, i_okT, i_n1, i_n2, i_n3, i_n4, i_n5, i_n6, i_n7, i_n8, k_cl, if_true, if_false]
  rw [tX9_operand_50, sX9_isGoodT h11, b_bi, tX9_operand_57]
  try simp only [k_lit, k_nN, k_ofN]
  simp (disch := omega) only [i_leT, i_leF, i_ltT, i_ltF, i_eqT, i_eqF, i_okT, i_n1, i_n2, i_n3, i_n4, i_n5, i_n6, i_n7, i_n8, k_cl, if_true, if_false]
  rw [e1, b_bv, tX9_operand_68, e2, b_bv, nI_add]
  rfl
theorem OP18_x {B : Nat → Nat} {n f : Nat} {W : List Nat} {O : List Int32} {d : Nat} {ts : Nat → Nat} {s : aMem} (hn : n ≤ 700) (h : ME B n f W O d ts s) (hw : isW B n f 11 = true) : ∃ u, OP18 6 s = some (.inl none, u) ∧ frM s u ∧ MEd n 2 f u := by
  obtain ⟨hT, h11, hS, hd, hts, hb1, hb2⟩ := id h
  have hfn := hT.1
  obtain ⟨u1, e1, f1, m1⟩ := MB_wrong (k := 2) hT h11 hS (by omega) (by omega)
  obtain ⟨u2, e2, f2, m2⟩ := MB_ML m1
  refine ⟨u2, ?_, frM_tr (frM_of f1 (by decide) (by decide)) f2, m2⟩
  obtain ⟨q1, q2, q3, -⟩ := m1
  rw [OP18_33 hn hT h11, wd_some (by omega) hw, show oI (some 11) = nI 11 from rfl, tX9_operand_33]
  try simp only [k_lit, k_nN, k_ofN]
  simp (disch := omega) only [i_leT, i_leF, i_ltT, i_ltF, i_eqT, i_eqF, i_okT, i_n1, i_n2, i_n3, i_n4, i_n5, i_n6, i_n7, i_n8, k_cl, if_true, if_false]
  rw [e1, b_bv, tX9_operand_50, sX9_isGoodF q1 q3.1 q3.2.1, b_bi, tX9_operand_57]
  try simp only [k_lit, k_nN, k_ofN]
  simp (disch := omega) only [i_leT, i_leF, i_ltT, i_ltF, i_eqT, i_eqF, i_okT, i_n1, i_n2, i_n3, i_n4, i_n5, i_n6, i_n7, i_n8, k_cl, if_true, if_false]
  rw [tX9_operand_18, sX9_isGoodF q1 q3.1 q3.2.1, b_bi, tX9_operand_22]
  try simp only [k_lit, k_nN, k_ofN]
  simp (disch := omega) only [i_leT, i_leF, i_ltT, i_ltF, i_eqT, i_eqF, i_okT, i_n1, i_n2, i_n3, i_n4, i_n5, i_n6, i_n7, i_n8, k_cl, if_true, if_false]
  rw [sX9_isGoodF q1 q3.1 q3.2.1, b_bi, tX9_operand_79]
  try simp only [k_lit, k_nN, k_ofN]
  simp (disch := omega) only [i_leT, i_leF, i_ltT, i_ltF, i_eqT, i_eqF, i_okT, i_n1, i_n2, i_n3, i_n4, i_n5, i_n6, i_n7, i_n8, k_cl, if_true, if_false]
  rw [tX9_operand_4]
  try simp only [k_lit, k_nN, k_ofN]
  simp (disch := omega) only [i_leT, i_leF, i_ltT, i_ltF, i_eqT, i_eqF, i_okT, i_n1, i_n2, i_n3, i_n4, i_n5, i_n6, i_n7, i_n8, k_cl, if_true, if_false]
  rw [tX9_part, sX9_isGoodF q1 q3.1 q3.2.1, b_bi, tX9_part_4]
  try simp only [k_lit, k_nN, k_ofN]
  simp (disch := omega) only [i_leT, i_leF, i_ltT, i_ltF, i_eqT, i_eqF, i_okT, i_n1, i_n2, i_n3, i_n4, i_n5, i_n6, i_n7, i_n8, k_cl, if_true, if_false]
  rw [b_bv, b_bv]
  exact e2
