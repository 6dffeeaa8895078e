/-! ===== more steps ===== -/
theorem ML_add {B : Nat → Nat} {n f : Nat} {P W : List Nat} {O : List Int32} {d : Nat} {ts : Nat → Nat} {s : aMem} {c x : Nat} (hn : n ≤ 700) (hB : ∀ j, j < n → B j < 256) (h : ME B n f (P ++ W) O d ts s) (hP : ∀ x, x ∈ P → x < 14 ∧ 5 ≤ stre x) (hW : lowW 5 W) (hc : (c = 43 ∧ x = 8) ∨ (c = 45 ∧ x = 9)) (ht : sgn B n f c = true) : ∃ u, ML s = OPl 0 u ∧ frM s u ∧ ME B n (nx B n f) (x :: W) (O ++ P.map nI) d ts u := by
  obtain ⟨hT, h11, hS, hd, hts, hb1, hb2⟩ := id h
  obtain ⟨-, hwd, hkd, hsg⟩ := sg_nW ht
  have hlt := kd_lt (B := B) (n := n) (f := f) (by omega)
  have hnx := nx_le (B := B) (n := n) (f := f) (by omega)
  obtain ⟨u1, e1, f1, m1⟩ := sX9_drops (σ := 5) (by omega) hS hP hW
  have hT1 := MT_fr hT f1 rfl rfl
  obtain ⟨u2, e2, f2, m2⟩ := sX9_waitsFor (x := x) m1 (by simp only [List.length_append] at hb1; omega) (by simp only [List.length_append, List.length_map] at hb2 ⊢; omega) (by omega)
  have hT2 := MT_fr hT1 f2 rfl rfl
  have F2 : fr [55, 56] [(43, 24), (43, 25)] s u2 := fr_trans (fr_mono f1 (by simp) (by simp)) (fr_mono f2 (by simp) (by simp))
  obtain ⟨u3, e3, f3, m3⟩ := ME_goes (d := d) (ts := ts) hn hB hT2 (by rw [F2.1 43 11 (by decide) (by decide)]; exact h11) m2 ⟨by rw [F2.1 43 26 (by decide) (by decide)]; exact hd.1, hd.2⟩ (fun j hj => by rw [F2.1 57 j (by decide) (by simp)]; exact hts j hj) (by simp only [List.length_append, List.length_cons] at hb1 ⊢; omega) (by simp only [List.length_append, List.length_cons, List.length_map] at hb2 ⊢; omega)
  refine ⟨u3, ?_, frM_of (fr_trans (fr_mono F2 (by simp) (by simp)) (fr_mono f3 (by simp) (by simp)) : fr [55, 56] [(43, 24), (43, 25), (43, 15), (43, 16), (43, 17), (43, 18), (43, 19), (43, 20), (43, 21)] s u3) (by decide) (by decide), m3⟩
  have sgc : ∀ c', isSg c' = true → c' < 256 → fX9_isSign [.ref 43, .int (nI c')] s = some (.inl (some (.int (nI (decide (c = c')).toNat))), s) := fun c' q1 q2 => by rw [sX9_isSign hB hT q1 q2, hsg]
  rw [ML_44 hn hT h11, hwd, tX9_expression_44]
  try simp only [k_lit, k_nN, k_ofN]
  rw [show oI none = nN from rfl]
  simp (disch := omega) only [i_leT, i_leF, i_ltT, i_ltF, i_eqT, i_eqF, i_okT, i_n1, i_n2, i_n3, i_n4, i_n5, i_n6, i_n7, i_n8, k_cl, if_true, if_false]
  rcases hc with ⟨hc1, hx1⟩ | ⟨hc1, hx1⟩ <;> subst hc1 <;> subst hx1
  · rw [sgc 60 (by decide) (by decide), b_bi, tX9_expression_115]
    try simp only [k_lit, k_nN, k_ofN]
    simp only [show (decide (43 = 60)).toNat = 0 from rfl]
    simp (disch := omega) only [i_leT, i_leF, i_ltT, i_ltF, i_eqT, i_eqF, i_okT, i_n1, i_n2, i_n3, i_n4, i_n5, i_n6, i_n7, i_n8, k_cl, if_true, if_false]
    rw [sgc 61 (by decide) (by decide), b_bi, tX9_expression_124]
    try simp only [k_lit, k_nN, k_ofN]
    simp only [show (decide (43 = 61)).toNat = 0 from rfl]
    simp (disch := omega) only [i_leT, i_leF, i_ltT, i_ltF, i_eqT, i_eqF, i_okT, i_n1, i_n2, i_n3, i_n4, i_n5, i_n6, i_n7, i_n8, k_cl, if_true, if_false]
    rw [sgc 43 (by decide) (by decide), b_bi, tX9_expression_192]
    try simp only [k_lit, k_nN, k_ofN]
    simp only [decide_true, Bool.toNat_true]
    simp (disch := omega) only [i_leT, i_leF, i_ltT, i_ltF, i_eqT, i_eqF, i_okT, i_n1, i_n2, i_n3, i_n4, i_n5, i_n6, i_n7, i_n8, k_cl, if_true, if_false]
    rw [e1, b_bv, tX9_expression_209]
    try simp only [k_lit, k_nN, k_ofN]
    rw [sX9_isSign hB hT1 (by decide) (by decide), hsg, b_bi, tX9_expression_216]
    try simp only [k_lit, k_nN, k_ofN]
    simp only [decide_true, Bool.toNat_true]
    simp (disch := omega) only [i_leT, i_leF, i_ltT, i_ltF, i_eqT, i_eqF, i_okT, i_n1, i_n2, i_n3, i_n4, i_n5, i_n6, i_n7, i_n8, k_cl, if_true, if_false]
    rw [e2, b_bv, tX9_expression_229, e3, b_bv, tX9_expression_233]
    try simp only [k_lit, k_nN, k_ofN]
    exact OP_op
  · rw [sgc 60 (by decide) (by decide), b_bi, tX9_expression_115]
    try simp only [k_lit, k_nN, k_ofN]
    simp only [show (decide (45 = 60)).toNat = 0 from rfl]
    simp (disch := omega) only [i_leT, i_leF, i_ltT, i_ltF, i_eqT, i_eqF, i_okT, i_n1, i_n2, i_n3, i_n4, i_n5, i_n6, i_n7, i_n8, k_cl, if_true, if_false]
    rw [sgc 61 (by decide) (by decide), b_bi, tX9_expression_124]
    try simp only [k_lit, k_nN, k_ofN]
    simp only [show (decide (45 = 61)).toNat = 0 from rfl]
    simp (disch := omega) only [i_leT, i_leF, i_ltT, i_ltF, i_eqT, i_eqF, i_okT, i_n1, i_n2, i_n3, i_n4, i_n5, i_n6, i_n7, i_n8, k_cl, if_true, if_false]
    rw [sgc 43 (by decide) (by decide), b_bi, tX9_expression_192]
    try simp only [k_lit, k_nN, k_ofN]
    simp only [show (decide (45 = 43)).toNat = 0 from rfl]
    simp (disch := omega) only [i_leT, i_leF, i_ltT, i_ltF, i_eqT, i_eqF, i_okT, i_n1, i_n2, i_n3, i_n4, i_n5, i_n6, i_n7, i_n8, k_cl, if_true, if_false]
    rw [sgc 45 (by decide) (by decide), b_bi, tX9_expression_201]
    try simp only [k_lit, k_nN, k_ofN]
    simp only [decide_true, Bool.toNat_true]
    simp (disch := omega) only [i_leT, i_leF, i_ltT, i_ltF, i_eqT, i_eqF, i_okT, i_n1, i_n2, i_n3, i_n4, i_n5, i_n6, i_n7, i_n8, k_cl, if_true, if_false]
    rw [e1, b_bv, tX9_expression_209]
    try simp only [k_lit, k_nN, k_ofN]
    rw [sX9_isSign hB hT1 (by decide) (by decide), hsg, b_bi, tX9_expression_216]
    try simp only [k_lit, k_nN, k_ofN]
    simp only [show (decide (45 = 43)).toNat = 0 from rfl]
    simp (disch := omega) only [i_leT, i_leF, i_ltT, i_ltF, i_eqT, i_eqF, i_okT, i_n1, i_n2, i_n3, i_n4, i_n5, i_n6, i_n7, i_n8, k_cl, if_true, if_false]
    rw [e2, b_bv, tX9_expression_229, e3, b_bv, tX9_expression_233]
    try simp only [k_lit, k_nN, k_ofN]
    exact OP_op
theorem nar_b0 : vp_nar .boolean (nI 0) = nI 0 := by decide
theorem nar_b1 : vp_nar .boolean (nI 1) = nI 1 := by decide
theorem ML_tst {B : Nat → Nat} {n f : Nat} {P W : List Nat} {O : List Int32} {d : Nat} {ts : Nat → Nat} {s : aMem} {c x : Nat} (hn : n ≤ 700) (hB : ∀ j, j < n → B j < 256) (h : ME B n f (P ++ W) O d ts s) (hP : ∀ x, x ∈ P → x < 14 ∧ 4 ≤ stre x) (hW : lowW 4 W) (hc : (c = 60 ∧ x = 6) ∨ (c = 61 ∧ x = 7)) (ht : sgn B n f c = true) (h0 : ts d = 0) : ∃ u, ML s = OPl 0 u ∧ frM s u ∧ ME B n (nx B n f) (x :: W) (O ++ P.map nI) d (upN ts d 1) u := by
  obtain ⟨hT, h11, hS, hd, hts, hb1, hb2⟩ := id h
  obtain ⟨-, hwd, hkd, hsg⟩ := sg_nW ht
  have hlt := kd_lt (B := B) (n := n) (f := f) (by omega)
  have hnx := nx_le (B := B) (n := n) (f := f) (by omega)
  obtain ⟨u1, e1, f1, m1⟩ := sX9_drops (σ := 4) (by omega) hS hP hW
  have hT1 := MT_fr hT f1 rfl rfl
  obtain ⟨u2, e2, f2, m2⟩ := sX9_waitsFor (x := x) m1 (by simp only [List.length_append] at hb1; omega) (by simp only [List.length_append, List.length_map] at hb2 ⊢; omega) (by omega)
  have F2 : fr [55, 56, 57] [(43, 24), (43, 25)] s u2 := fr_trans (fr_mono f1 (by simp) (by simp)) (fr_mono f2 (by simp) (by simp))
  have u26 : u2.1 43 26 = nI d := by rw [F2.1 43 26 (by decide) (by decide)]; exact hd.1
  have f57 : fr [57] [] u2 (a_si u2 57 d (nI 1)) := fr_si (fr_rfl u2) (by simp)
  have hT2 := MT_fr (MT_fr hT1 f2 rfl rfl) f57 rfl rfl
  have F3 : fr [55, 56, 57] [(43, 24), (43, 25)] s (a_si u2 57 d (nI 1)) := fr_si F2 (by simp)
  obtain ⟨u3, e3, f3, m3⟩ := ME_goes (d := d) (ts := upN ts d 1) hn hB hT2 (by rw [F3.1 43 11 (by decide) (by decide)]; exact h11) (mS_fr m2 f57 rfl rfl) ⟨by rw [F3.1 43 26 (by decide) (by decide)]; exact hd.1, hd.2⟩ (fun j hj => by
    by_cases e : j = d
    · rw [e, upN_s]; simp [m_si]
    · rw [upN_n e]
      have := hts j hj
      have h2 : u2.1 57 j = s.1 57 j := by
        rw [f2.1 57 j (by decide) (by simp), f1.1 57 j (by decide) (by simp)]
      rw [← h2] at this
      simpa [m_si, e] using this) (by simp only [List.length_append, List.length_cons] at hb1 ⊢; omega) (by simp only [List.length_append, List.length_cons, List.length_map] at hb2 ⊢; omega)
  refine ⟨u3, ?_, frM_of (fr_trans (fr_mono F3 (by simp) (by simp)) (fr_mono f3 (by simp) (by simp)) : fr [55, 56, 57] [(43, 24), (43, 25), (43, 15), (43, 16), (43, 17), (43, 18), (43, 19), (43, 20), (43, 21)] s u3) (by decide) (by decide), m3⟩
  have sgc : ∀ c', isSg c' = true → c' < 256 → fX9_isSign [.ref 43, .int (nI c')] s = some (.inl (some (.int (nI (decide (c = c')).toNat))), s) := fun c' q1 q2 => by rw [sX9_isSign hB hT q1 q2, hsg]
  have s57 : s.1 57 d = nI 0 := by rw [(hts d (Nat.le_refl _)).1, h0]
  have tail : a_run none shp pX9_expression 164 [some (.ref 43), some (.int (nI 1)), none] [] u2 = OPl 0 u3 := by
    rw [tX9_expression_164, u26]
    try simp only [k_lit, k_nN, k_ofN, nar_b1]
    simp (disch := omega) only [i_leT, i_leF, i_ltT, i_ltF, i_eqT, i_eqF, i_okT, i_n1, i_n2, i_n3, i_n4, i_n5, i_n6, i_n7, i_n8, k_cl, if_true, if_false]
    rw [e3, b_bv, tX9_expression_178]
    try simp only [k_lit, k_nN, k_ofN]
    exact OP_op
  rw [ML_44 hn hT h11, hwd, tX9_expression_44]
  try simp only [k_lit, k_nN, k_ofN]
  rw [show oI none = nN from rfl]
  simp (disch := omega) only [i_leT, i_leF, i_ltT, i_ltF, i_eqT, i_eqF, i_okT, i_n1, i_n2, i_n3, i_n4, i_n5, i_n6, i_n7, i_n8, k_cl, if_true, if_false]
  rcases hc with ⟨hc1, hx1⟩ | ⟨hc1, hx1⟩ <;> subst hc1 <;> subst hx1
  · rw [sgc 60 (by decide) (by decide), b_bi, tX9_expression_115, hd.1]
    try simp only [k_lit, k_nN, k_ofN]
    simp only [decide_true, Bool.toNat_true]
    simp (disch := omega) only [i_leT, i_leF, i_ltT, i_ltF, i_eqT, i_eqF, i_okT, i_n1, i_n2, i_n3, i_n4, i_n5, i_n6, i_n7, i_n8, k_cl, if_true, if_false]
    rw [s57]
    simp (disch := omega) only [i_leT, i_leF, i_ltT, i_ltF, i_eqT, i_eqF, i_okT, i_n1, i_n2, i_n3, i_n4, i_n5, i_n6, i_n7, i_n8, k_cl, if_true, if_false]
    rw [e1, b_bv, tX9_expression_144]
    try simp only [k_lit, k_nN, k_ofN]
    rw [sX9_isSign hB hT1 (by decide) (by decide), hsg, b_bi, tX9_expression_151]
    try simp only [k_lit, k_nN, k_ofN]
    simp only [decide_true, Bool.toNat_true]
    simp (disch := omega) only [i_leT, i_leF, i_ltT, i_ltF, i_eqT, i_eqF, i_okT, i_n1, i_n2, i_n3, i_n4, i_n5, i_n6, i_n7, i_n8, k_cl, if_true, if_false]
    rw [e2, b_bv]
    exact tail
  · rw [sgc 60 (by decide) (by decide), b_bi, tX9_expression_115]
    try simp only [k_lit, k_nN, k_ofN]
    simp only [show (decide (61 = 60)).toNat = 0 from rfl]
    simp (disch := omega) only [i_leT, i_leF, i_ltT, i_ltF, i_eqT, i_eqF, i_okT, i_n1, i_n2, i_n3, i_n4, i_n5, i_n6, i_n7, i_n8, k_cl, if_true, if_false]
    rw [sgc 61 (by decide) (by decide), b_bi, tX9_expression_124, hd.1]
    try simp only [k_lit, k_nN, k_ofN]
    simp only [decide_true, Bool.toNat_true]
    simp (disch := omega) only [i_leT, i_leF, i_ltT, i_ltF, i_eqT, i_eqF, i_okT, i_n1, i_n2, i_n3, i_n4, i_n5, i_n6, i_n7, i_n8, k_cl, if_true, if_false]
    rw [s57]
    simp (disch := omega) only [i_leT, i_leF, i_ltT, i_ltF, i_eqT, i_eqF, i_okT, i_n1, i_n2, i_n3, i_n4, i_n5, i_n6, i_n7, i_n8, k_cl, if_true, if_false]
    rw [e1, b_bv, tX9_expression_144]
    try simp only [k_lit, k_nN, k_ofN]
    rw [sX9_isSign hB hT1 (by decide) (by decide), hsg, b_bi, tX9_expression_151]
    try simp only [k_lit, k_nN, k_ofN]
    simp only [show (decide (61 = 60)).toNat = 0 from rfl]
    simp (disch := omega) only [i_leT, i_leF, i_ltT, i_ltF, i_eqT, i_eqF, i_okT, i_n1, i_n2, i_n3, i_n4, i_n5, i_n6, i_n7, i_n8, k_cl, if_true, if_false]
    rw [e2, b_bv]
    exact tail
theorem ML_and {B : Nat → Nat} {n f : Nat} {P W : List Nat} {O : List Int32} {d : Nat} {ts : Nat → Nat} {s : aMem} {k x σ : Nat} (hn : n ≤ 700) (hB : ∀ j, j < n → B j < 256) (hσ : (k = 9 ∧ x = 4 ∧ σ = 2) ∨ (k = 10 ∧ x = 5 ∧ σ = 1)) (h : ME B n f (P ++ W) O d ts s) (hP : ∀ x, x ∈ P → x < 14 ∧ σ ≤ stre x) (hW : lowW σ W) (ht : isW B n f k = true) : ∃ u, ML s = OPl 1 u ∧ frM s u ∧ ME B n (nx B n f) (x :: W) (O ++ P.map nI) d (upN ts d 0) u := by
  obtain ⟨hT, h11, hS, hd, hts, hb1, hb2⟩ := id h
  have hk1 := (isW_iff.mp ht).1
  have hlt := kd_lt (B := B) (n := n) (f := f) (by omega)
  have hnx := nx_le (B := B) (n := n) (f := f) (by omega)
  have hwd : wd B n f = some k := wd_some (by omega) ht
  obtain ⟨u1, e1, f1, m1⟩ := sX9_drops (σ := σ) (by omega) hS hP hW
  have hT1 := MT_fr hT f1 rfl rfl
  obtain ⟨u2, e2, f2, m2⟩ := sX9_waitsFor (x := x) m1 (by simp only [List.length_append] at hb1; omega) (by simp only [List.length_append, List.length_map] at hb2 ⊢; omega) (by omega)
  have F2 : fr [55, 56, 57] [(43, 24), (43, 25)] s u2 := fr_trans (fr_mono f1 (by simp) (by simp)) (fr_mono f2 (by simp) (by simp))
  have u26 : u2.1 43 26 = nI d := by rw [F2.1 43 26 (by decide) (by decide)]; exact hd.1
  have f57 : fr [57] [] u2 (a_si u2 57 d (nI 0)) := fr_si (fr_rfl u2) (by simp)
  have hT2 := MT_fr (MT_fr hT1 f2 rfl rfl) f57 rfl rfl
  have F3 : fr [55, 56, 57] [(43, 24), (43, 25)] s (a_si u2 57 d (nI 0)) := fr_si F2 (by simp)
  obtain ⟨u3, e3, f3, m3⟩ := ME_goes (d := d) (ts := upN ts d 0) hn hB hT2 (by rw [F3.1 43 11 (by decide) (by decide)]; exact h11) (mS_fr m2 f57 rfl rfl) ⟨by rw [F3.1 43 26 (by decide) (by decide)]; exact hd.1, hd.2⟩ (fun j hj => by
    by_cases e : j = d
    · rw [e, upN_s]; simp [m_si]
    · rw [upN_n e]
      have := hts j hj
      have h2 : u2.1 57 j = s.1 57 j := by
        rw [f2.1 57 j (by decide) (by simp), f1.1 57 j (by decide) (by simp)]
      rw [← h2] at this
      simpa [m_si, e] using this) (by simp only [List.length_append, List.length_cons] at hb1 ⊢; omega) (by simp only [List.length_append, List.length_cons, List.length_map] at hb2 ⊢; omega)
  refine ⟨u3, ?_, frM_of (fr_trans (fr_mono F3 (by simp) (by simp)) (fr_mono f3 (by simp) (by simp)) : fr [55, 56, 57] [(43, 24), (43, 25), (43, 15), (43, 16), (43, 17), (43, 18), (43, 19), (43, 20), (43, 21)] s u3) (by decide) (by decide), m3⟩
  have tail : a_run none shp pX9_expression 87 [some (.ref 43), some (.int (nI 1)), none] [] u2 = OPl 1 u3 := by
    rw [tX9_expression_87, u26]
    try simp only [k_lit, k_nN, k_ofN, nar_b0]
    simp (disch := omega) only [i_leT, i_leF, i_ltT, i_ltF, i_eqT, i_eqF, i_okT, i_n1, i_n2, i_n3, i_n4, i_n5, i_n6, i_n7, i_n8, k_cl, if_true, if_false]
    rw [e3, b_bv, tX9_expression_101]
    try simp only [k_lit, k_nN, k_ofN]
    exact OP_op
  rw [ML_44 hn hT h11, hwd, tX9_expression_44, show oI (some k) = nI k from rfl]
  try simp only [k_lit, k_nN, k_ofN]
  rcases hσ with ⟨c1, c2, c3⟩ | ⟨c1, c2, c3⟩ <;> subst c1 <;> subst c2 <;> subst c3
  · simp (disch := omega) only [i_leT, i_leF, i_ltT, i_ltF, i_eqT, i_eqF, i_okT, i_n1, i_n2, i_n3, i_n4, i_n5, i_n6, i_n7, i_n8, k_cl, if_true, if_false]
    rw [e1, b_bv, tX9_expression_72]
    try simp only [k_lit, k_nN, k_ofN]
    simp (disch := omega) only [i_leT, i_leF, i_ltT, i_ltF, i_eqT, i_eqF, i_okT, i_n1, i_n2, i_n3, i_n4, i_n5, i_n6, i_n7, i_n8, k_cl, if_true, if_false]
    rw [e2, b_bv]
    exact tail
  · simp (disch := omega) only [i_leT, i_leF, i_ltT, i_ltF, i_eqT, i_eqF, i_okT, i_n1, i_n2, i_n3, i_n4, i_n5, i_n6, i_n7, i_n8, k_cl, if_true, if_false]
    rw [e1, b_bv, tX9_expression_72]
    try simp only [k_lit, k_nN, k_ofN]
    simp (disch := omega) only [i_leT, i_leF, i_ltT, i_ltF, i_eqT, i_eqF, i_okT, i_n1, i_n2, i_n3, i_n4, i_n5, i_n6, i_n7, i_n8, k_cl, if_true, if_false]
    rw [e2, b_bv]
    exact tail
/-- a token that is no operator here: on to the closing ones -/
def nop (B : Nat → Nat) (n f t : Nat) : Prop := (isW B n f 9 = false ∧ isW B n f 10 = false) ∧ (sgn B n f 43 = false ∧ sgn B n f 45 = false ∧ sgn B n f 42 = false ∧ sgn B n f 47 = false) ∧ ((sgn B n f 60 = true ∨ sgn B n f 61 = true) → t = 1)
theorem ML_nop {B : Nat → Nat} {n f : Nat} {W : List Nat} {O : List Int32} {d : Nat} {ts : Nat → Nat} {s : aMem} (hn : n ≤ 700) (hB : ∀ j, j < n → B j < 256) (h : ME B n f W O d ts s) (hno : nop B n f (ts d)) : ML s = a_run none shp pX9_expression 303 [some (.ref 43), some (.int (nI 1)), some (.int (oI (wd B n f)))] [.int (nI (sgn B n f 41).toNat)] s := by
  obtain ⟨hT, h11, hS, hd, hts, hb1, hb2⟩ := id h
  obtain ⟨⟨w9, w10⟩, ⟨a1, a2, a3, a4⟩, a5⟩ := hno
  have n9 : ¬ oI (wd B n f) = nI 9 := by rw [wd_ne (by omega), w9]; simp
  have n10 : ¬ oI (wd B n f) = nI 10 := by rw [wd_ne (by omega), w10]; simp
  have sgc : ∀ c', isSg c' = true → c' < 256 → fX9_isSign [.ref 43, .int (nI c')] s = some (.inl (some (.int (nI (sgn B n f c').toNat))), s) := fun c' q1 q2 => sX9_isSign hB hT q1 q2
  have s57 := (hts d (Nat.le_refl _)).1
  have tail : a_bi (fX9_isSign [.ref 43, .int (nI 43)] s) (fun r2 s1 => a_run none shp pX9_expression 192 [some (.ref 43), some (.int (nI 1)), some (.int (oI (wd B n f)))] [.int r2] s1) none (fun x s1 => some (.inr x, s1)) = a_run none shp pX9_expression 303 [some (.ref 43), some (.int (nI 1)), some (.int (oI (wd B n f)))] [.int (nI (sgn B n f 41).toNat)] s := by
    rw [sgc 43 (by decide) (by decide), b_bi, tX9_expression_192, a1]
    try simp only [k_lit, k_nN, k_ofN]
    simp only [Bool.toNat_false]
    simp (disch := omega) only [i_leT, i_leF, i_ltT, i_ltF, i_eqT, i_eqF, i_okT, i_n1, i_n2, i_n3, i_n4, i_n5, i_n6, i_n7, i_n8, k_cl, if_true, if_false]
    rw [sgc 45 (by decide) (by decide), b_bi, tX9_expression_201, a2]
    try simp only [k_lit, k_nN, k_ofN]
    simp only [Bool.toNat_false]
    simp (disch := omega) only [i_leT, i_leF, i_ltT, i_ltF, i_eqT, i_eqF, i_okT, i_n1, i_n2, i_n3, i_n4, i_n5, i_n6, i_n7, i_n8, k_cl, if_true, if_false]
    rw [sgc 42 (by decide) (by decide), b_bi, tX9_expression_247, a3]
    try simp only [k_lit, k_nN, k_ofN]
    simp only [Bool.toNat_false]
    simp (disch := omega) only [i_leT, i_leF, i_ltT, i_ltF, i_eqT, i_eqF, i_okT, i_n1, i_n2, i_n3, i_n4, i_n5, i_n6, i_n7, i_n8, k_cl, if_true, if_false]
    rw [sgc 47 (by decide) (by decide), b_bi, tX9_expression_256, a4]
    try simp only [k_lit, k_nN, k_ofN]
    simp only [Bool.toNat_false]
    simp (disch := omega) only [i_leT, i_leF, i_ltT, i_ltF, i_eqT, i_eqF, i_okT, i_n1, i_n2, i_n3, i_n4, i_n5, i_n6, i_n7, i_n8, k_cl, if_true, if_false]
    rw [sgc 41 (by decide) (by decide), b_bi]
  rw [ML_44 hn hT h11, tX9_expression_44]
  try simp only [k_lit, k_nN, k_ofN]
  rw [if_neg n9, if_neg n10, sgc 60 (by decide) (by decide), b_bi, tX9_expression_115, hd.1]
  try simp only [k_lit, k_nN, k_ofN]
  cases e60 : sgn B n f 60
  · simp only [Bool.toNat_false]
    simp (disch := omega) only [i_leT, i_leF, i_ltT, i_ltF, i_eqT, i_eqF, i_okT, i_n1, i_n2, i_n3, i_n4, i_n5, i_n6, i_n7, i_n8, k_cl, if_true, if_false]
    rw [sgc 61 (by decide) (by decide), b_bi, tX9_expression_124, hd.1]
    try simp only [k_lit, k_nN, k_ofN]
    cases e61 : sgn B n f 61
    · simp only [Bool.toNat_false]
      simp (disch := omega) only [i_leT, i_leF, i_ltT, i_ltF, i_eqT, i_eqF, i_okT, i_n1, i_n2, i_n3, i_n4, i_n5, i_n6, i_n7, i_n8, k_cl, if_true, if_false]
      exact tail
    · simp only [Bool.toNat_true]
      have ht := a5 (.inr e61)
      simp (disch := omega) only [i_leT, i_leF, i_ltT, i_ltF, i_eqT, i_eqF, i_okT, i_n1, i_n2, i_n3, i_n4, i_n5, i_n6, i_n7, i_n8, k_cl, if_true, if_false]
      rw [s57, ht]
      simp (disch := omega) only [i_leT, i_leF, i_ltT, i_ltF, i_eqT, i_eqF, i_okT, i_n1, i_n2, i_n3, i_n4, i_n5, i_n6, i_n7, i_n8, k_cl, if_true, if_false]
      exact tail
  · simp only [Bool.toNat_true]
    have ht := a5 (.inl e60)
    simp (disch := omega) only [i_leT, i_leF, i_ltT, i_ltF, i_eqT, i_eqF, i_okT, i_n1, i_n2, i_n3, i_n4, i_n5, i_n6, i_n7, i_n8, k_cl, if_true, if_false]
    rw [s57, ht]
    simp (disch := omega) only [i_leT, i_leF, i_ltT, i_ltF, i_eqT, i_eqF, i_okT, i_n1, i_n2, i_n3, i_n4, i_n5, i_n6, i_n7, i_n8, k_cl, if_true, if_false]
    exact tail
