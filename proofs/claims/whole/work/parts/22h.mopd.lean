/-! ===== the model's operand: what opens, what stands alone ===== -/
def tk (B : Nat → Nat) (n f : Nat) : Bool := decide (kd B n f = 1) || (decide (kd B n f = 2) || sgn B n f 40)
theorem ME_deep {B : Nat → Nat} {n f : Nat} {W : List Nat} {O : List Int32} {d : Nat} {ts : Nat → Nat} {s : aMem} (h : ME B n f W O d ts s) (hd : d < 6) : ∃ u, fX9_deeper [.ref 43] s = some (.inl none, u) ∧ frM s u ∧ ME B n f W O (d + 1) (upN ts (d + 1) 0) u := by
  obtain ⟨hT, h11, hS, hd1, hts, hb1, hb2⟩ := h
  have f1 : fr [57] [(43, 26)] s (a_si (a_si s 43 26 (nI (d + 1))) 57 (d + 1) (nI 0)) := fr_si (fr_si (fr_rfl s) (by simp)) (by simp)
  refine ⟨_, ?_, frM_of f1 (by decide) (by decide), MT_fr hT f1 rfl rfl, by rw [f1.1 43 11 (by decide) (by decide)]; exact h11, mS_fr hS f1 rfl rfl, ⟨by simp [m_si], by omega⟩, fun j hj => ?_, hb1, hb2⟩
  · rw [tX9_deeper, hd1.1]
    try simp only [k_lit, k_nN, k_ofN, nI_add, nar_b0]
    simp (disch := omega) only [i_leT, i_leF, i_ltT, i_ltF, i_eqT, i_eqF, i_okT, i_n1, i_n2, i_n3, i_n4, i_n5, i_n6, i_n7, i_n8, k_cl, if_true, if_false]
  · by_cases e : j = d + 1
    · rw [e, upN_s]; simp [m_si]
    · rw [upN_n e]
      have := hts j (by omega)
      simpa [m_si, e] using this
theorem ME_deepX {B : Nat → Nat} {n f : Nat} {W : List Nat} {O : List Int32} {ts : Nat → Nat} {s : aMem} (hB : ∀ j, j < n → B j < 256) (hn : n ≤ 700) (h : ME B n f W O 6 ts s) : ∃ u, fX9_deeper [.ref 43] s = some (.inl none, u) ∧ frM s u ∧ MBd n (if tk B n f = true then 2 else 1) f u := by
  obtain ⟨hT, h11, hS, hd1, hts, hb1, hb2⟩ := h
  have hfn := hT.1
  obtain ⟨u1, e1, f1, m1⟩ := MB_wrong (k := 1) hT h11 hS (by omega) (by omega)
  obtain ⟨u2, e2, f2, m2⟩ := MB_wrong (k := 2) hT h11 hS (by omega) (by omega)
  have h16 := hT.2.2.2.1
  have hs := srt_le B n f
  rw [tX9_deeper, hd1.1, h16]
  try simp only [k_lit, k_nN, k_ofN]
  simp (disch := omega) only [i_leT, i_leF, i_ltT, i_ltF, i_eqT, i_eqF, i_okT, i_n1, i_n2, i_n3, i_n4, i_n5, i_n6, i_n7, i_n8, k_cl, if_true, if_false]
  by_cases c2 : kd B n f = 2
  · have ht : tk B n f = true := by simp [tk, c2]
    have : srt B n f = 2 := by rw [srt_o _ _ _ _ (by omega)]; exact c2
    rw [this]
    simp (disch := omega) only [i_leT, i_leF, i_ltT, i_ltF, i_eqT, i_eqF, i_okT, i_n1, i_n2, i_n3, i_n4, i_n5, i_n6, i_n7, i_n8, k_cl, if_true, if_false]
    rw [e2, b_bv, ht]
    exact ⟨u2, rfl, frM_of f2 (by decide) (by decide), m2⟩
  · have n2 : srt B n f ≠ 2 := by rw [Ne, srt_o _ _ _ _ (by omega)]; exact c2
    rw [i_eqF n2 (by omega) (by omega)]
    by_cases c1 : kd B n f = 1
    · have ht : tk B n f = true := by simp [tk, c1]
      have : srt B n f = 1 := by rw [srt_o _ _ _ _ (by omega)]; exact c1
      rw [this]
      simp (disch := omega) only [i_leT, i_leF, i_ltT, i_ltF, i_eqT, i_eqF, i_okT, i_n1, i_n2, i_n3, i_n4, i_n5, i_n6, i_n7, i_n8, k_cl, if_true, if_false]
      rw [e2, b_bv, ht]
      exact ⟨u2, rfl, frM_of f2 (by decide) (by decide), m2⟩
    · have n1 : srt B n f ≠ 1 := by rw [Ne, srt_o _ _ _ _ (by omega)]; exact c1
      rw [i_eqF n1 (by omega) (by omega), sX9_isSign hB hT (by decide) (by decide), b_bi, tX9_deeper_53]
      try simp only [k_lit, k_nN, k_ofN]
      have ht : tk B n f = sgn B n f 40 := by simp [tk, c1, c2]
      rw [ht]
      cases e40 : sgn B n f 40
      · simp only [Bool.toNat_false]
        simp (disch := omega) only [i_leT, i_leF, i_ltT, i_ltF, i_eqT, i_eqF, i_okT, i_n1, i_n2, i_n3, i_n4, i_n5, i_n6, i_n7, i_n8, k_cl, if_true, if_false]
        rw [e1, b_bv]
        exact ⟨u1, rfl, frM_of f1 (by decide) (by decide), m1⟩
      · simp only [Bool.toNat_true]
        simp (disch := omega) only [i_leT, i_leF, i_ltT, i_ltF, i_eqT, i_eqF, i_okT, i_n1, i_n2, i_n3, i_n4, i_n5, i_n6, i_n7, i_n8, k_cl, if_true, if_false]
        rw [e2, b_bv]
        exact ⟨u2, rfl, frM_of f2 (by decide) (by decide), m2⟩
theorem OP79_o {B : Nat → Nat} {n f nt x : Nat} {W : List Nat} {O : List Int32} {d : Nat} {ts : Nat → Nat} {s : aMem} (hn : n ≤ 700) (hB : ∀ j, j < n → B j < 256) (h : ME B n f W O d ts s) (hx : (sgn B n f 40 = true ∧ x = 14) ∨ (isW B n f 12 = true ∧ x = 15)) : ∃ u, OP79 nt s = a_bv (a_bv (fX9_deeper [.ref 43] u) (fun s1 => a_run none shp pX9_operand 138 [some (.ref 43), none, none, some (.int (nI 1)), none] [] s1) none (fun x s1 => some (.inr x, s1))) (fun s1 => ML s1) none (fun x s1 => some (.inr x, s1)) ∧ frM s u ∧ ME B n (nx B n f) (x :: W) O d ts u := by
  obtain ⟨hT, h11, hS, hd, hts, hb1, hb2⟩ := id h
  have hlt : f < n := by
    rcases hx with c | c
    · have := (sg_nW c.1).2.2.1
      exact kd_lt (B := B) (by omega)
    · have := (isW_iff.mp c.1).1
      exact kd_lt (B := B) (by omega)
  have hnx := nx_le (B := B) (n := n) (f := f) (by omega)
  obtain ⟨u1, e1, f1, m1⟩ := sX9_waitsFor (x := x) hS (by omega) (by omega) (by omega)
  obtain ⟨u2, e2, f2, m2⟩ := ME_goes (d := d) (ts := ts) hn hB (MT_fr hT f1 rfl rfl) (by rw [f1.1 43 11 (by decide) (by decide)]; exact h11) m1 ⟨by rw [f1.1 43 26 (by decide) (by decide)]; exact hd.1, hd.2⟩ (fun j hj => by rw [f1.1 57 j (by decide) (by simp)]; exact hts j hj) (by simp only [List.length_cons]; omega) (by simp only [List.length_cons]; omega)
  refine ⟨u2, ?_, frM_of (fr_trans (fr_mono f1 (by simp) (by simp)) (fr_mono f2 (by simp) (by simp)) : fr [56] [(43, 25), (43, 15), (43, 16), (43, 17), (43, 18), (43, 19), (43, 20), (43, 21)] s u2) (by decide) (by decide), m2⟩
  unfold OP79
  rw [tX9_operand_79]
  try simp only [k_lit, k_nN, k_ofN]
  simp (disch := omega) only [i_leT, i_leF, i_ltT, i_ltF, i_eqT, i_eqF, i_okT, i_n1, i_n2, i_n3, i_n4, i_n5, i_n6, i_n7, i_n8, k_cl, if_true, if_false]
  rw [sX9_isSign hB hT (by decide) (by decide), b_bi, tX9_operand_88]
  try simp only [k_lit, k_nN, k_ofN]
  rcases hx with ⟨c1, c2⟩ | ⟨c1, c2⟩ <;> subst c2
  · rw [c1, Bool.toNat_true]
    simp (disch := omega) only [i_leT, i_leF, i_ltT, i_ltF, i_eqT, i_eqF, i_okT, i_n1, i_n2, i_n3, i_n4, i_n5, i_n6, i_n7, i_n8, k_cl, if_true, if_false]
    rw [sX9_isSign hB hT (by decide) (by decide), b_bi, tX9_operand_117, c1, Bool.toNat_true]
    try simp only [k_lit, k_nN, k_ofN]
    simp (disch := omega) only [i_leT, i_leF, i_ltT, i_ltF, i_eqT, i_eqF, i_okT, i_n1, i_n2, i_n3, i_n4, i_n5, i_n6, i_n7, i_n8, k_cl, if_true, if_false]
    rw [e1, b_bv, tX9_operand_130, e2, b_bv, tX9_operand_134]
  · have c3 := isW_nS c1 40
    rw [c3, Bool.toNat_false]
    simp (disch := omega) only [i_leT, i_leF, i_ltT, i_ltF, i_eqT, i_eqF, i_okT, i_n1, i_n2, i_n3, i_n4, i_n5, i_n6, i_n7, i_n8, k_cl, if_true, if_false]
    rw [sX9_knownWord hn hT, b_bi, tX9_operand_95, wd_some (by omega) c1, show oI (some 12) = nI 12 from rfl]
    try simp only [k_lit, k_nN, k_ofN]
    simp (disch := omega) only [i_leT, i_leF, i_ltT, i_ltF, i_eqT, i_eqF, i_okT, i_n1, i_n2, i_n3, i_n4, i_n5, i_n6, i_n7, i_n8, k_cl, if_true, if_false]
    rw [sX9_isSign hB hT (by decide) (by decide), b_bi, tX9_operand_117, c3, Bool.toNat_false]
    try simp only [k_lit, k_nN, k_ofN]
    simp (disch := omega) only [i_leT, i_leF, i_ltT, i_ltF, i_eqT, i_eqF, i_okT, i_n1, i_n2, i_n3, i_n4, i_n5, i_n6, i_n7, i_n8, k_cl, if_true, if_false]
    rw [e1, b_bv, tX9_operand_130, e2, b_bv, tX9_operand_134]
/-- a bracket or an 'if' opens -/
theorem OP_open {B : Nat → Nat} {n f nt x : Nat} {W : List Nat} {O : List Int32} {d : Nat} {ts : Nat → Nat} {s : aMem} (hn : n ≤ 700) (hB : ∀ j, j < n → B j < 256) (h : ME B n f W O d ts s) (hx : (sgn B n f 40 = true ∧ x = 14) ∨ (isW B n f 12 = true ∧ x = 15)) (hd : d < 6) : ∃ u, OP79 nt s = OPl 1 u ∧ frM s u ∧ ME B n (nx B n f) (x :: W) O (d + 1) (upN ts (d + 1) 0) u := by
  obtain ⟨u1, e1, f1, m1⟩ := OP79_o (nt := nt) hn hB h hx
  obtain ⟨u2, e2, f2, m2⟩ := ME_deep m1 hd
  refine ⟨u2, ?_, frM_tr f1 f2, m2⟩
  rw [e1, e2, b_bv, tX9_operand_138]
  try simp only [k_lit, k_nN, k_ofN]
  rfl
theorem OP_openX {B : Nat → Nat} {n f nt x : Nat} {W : List Nat} {O : List Int32} {ts : Nat → Nat} {s : aMem} (hn : n ≤ 700) (hB : ∀ j, j < n → B j < 256) (h : ME B n f W O 6 ts s) (hx : (sgn B n f 40 = true ∧ x = 14) ∨ (isW B n f 12 = true ∧ x = 15)) : ∃ u, OP79 nt s = some (.inl none, u) ∧ frM s u ∧ MEd n (if tk B n (nx B n f) = true then 2 else 1) (nx B n f) u := by
  obtain ⟨u1, e1, f1, m1⟩ := OP79_o (nt := nt) hn hB h hx
  obtain ⟨u2, e2, f2, m2⟩ := ME_deepX hB hn m1
  obtain ⟨u3, e3, f3, m3⟩ := MB_OP (v := 1) m2
  refine ⟨u3, ?_, frM_tr f1 (frM_tr f2 f3), m3⟩
  rw [e1, e2, b_bv, tX9_operand_138]
  try simp only [k_lit, k_nN, k_ofN]
  exact e3
/-- on to a part that stands alone -/
theorem OP79_p {B : Nat → Nat} {n f nt : Nat} {s : aMem} (hn : n ≤ 700) (hB : ∀ j, j < n → B j < 256) (hT : MT B n f s) (h11 : s.1 43 11 = nI 0) (h1 : sgn B n f 40 = false) (h2 : isW B n f 12 = false) : OP79 nt s = a_bv (a_run none shp pX9_part 4 [some (.ref 43), none] [.int (nI 1)] s) (fun s1 => ML s1) none (fun x s1 => some (.inr x, s1)) := by
  have n12 : ¬ oI (wd B n f) = nI 12 := by rw [wd_ne (by omega), h2]; simp
  unfold OP79
  rw [tX9_operand_79]
  try simp only [k_lit, k_nN, k_ofN]
  simp (disch := omega) only [i_leT, i_leF, i_ltT, i_ltF, i_eqT, i_eqF, i_okT, i_n1, i_n2, i_n3, i_n4, i_n5, i_n6, i_n7, i_n8, k_cl, if_true, if_false]
  rw [sX9_isSign hB hT (by decide) (by decide), b_bi, tX9_operand_88, h1, Bool.toNat_false]
  try simp only [k_lit, k_nN, k_ofN]
  simp (disch := omega) only [i_leT, i_leF, i_ltT, i_ltF, i_eqT, i_eqF, i_okT, i_n1, i_n2, i_n3, i_n4, i_n5, i_n6, i_n7, i_n8, k_cl, if_true, if_false]
  rw [sX9_knownWord hn hT, b_bi, tX9_operand_95]
  try simp only [k_lit, k_nN, k_ofN]
  rw [if_neg n12, tX9_operand_4]
  try simp only [k_lit, k_nN, k_ofN]
  simp (disch := omega) only [i_leT, i_leF, i_ltT, i_ltF, i_eqT, i_eqF, i_okT, i_n1, i_n2, i_n3, i_n4, i_n5, i_n6, i_n7, i_n8, k_cl, if_true, if_false]
  rw [tX9_part, sX9_isGoodT h11, b_bi, bv_as]
  rfl
theorem OP_num {B : Nat → Nat} {n f nt : Nat} {W : List Nat} {O : List Int32} {d : Nat} {ts : Nat → Nat} {s : aMem} (hn : n ≤ 700) (hB : ∀ j, j < n → B j < 256) (h : ME B n f W O d ts s) (hk : kd B n f = 2) (hl : ed B n f - f ≤ 4) : ∃ u, OP79 nt s = ML u ∧ frM s u ∧ ME B n (nx B n f) W (O ++ [nI 1, nI (nm B n f)]) d ts u := by
  obtain ⟨hT, h11, hS, hd, hts, hb1, hb2⟩ := id h
  have hlt := kd_lt (B := B) (n := n) (f := f) (by omega)
  have hnx := nx_le (B := B) (n := n) (f := f) (by omega)
  have h1 : sgn B n f 40 = false := by simp [sgn, hk]
  have h2 : isW B n f 12 = false := by
    apply Bool.eq_false_iff.mpr
    intro q
    have := (isW_iff.mp q).1
    omega
  have h16 : s.1 43 16 = nI 2 := by
    rw [hT.2.2.2.1, show srt B n f = 2 by rw [srt_o _ _ _ _ (by omega)]; exact hk]
  have h18 := hT.2.2.2.2.2.1
  have h19 := hT.2.2.2.2.2.2.1 hk
  obtain ⟨u1, e1, f1, m1⟩ := sX9_puts hS (by omega) (nI 1)
  have q19 : u1.1 43 19 = nI (nm B n f) := by rw [f1.1 43 19 (by decide) (by decide)]; exact h19
  obtain ⟨u2, e2, f2, m2⟩ := sX9_puts m1 (by simp only [List.length_append, List.length_cons, List.length_nil]; omega) (nI (nm B n f))
  have F : fr [55] [(43, 24)] s u2 := fr_trans f1 f2
  have k11 : u2.1 43 11 = nI 0 := by rw [F.1 43 11 (by decide) (by decide)]; exact h11
  rw [List.append_assoc] at m2
  obtain ⟨u3, e3, f3, m3⟩ := ME_goes (d := d) (ts := ts) hn hB (MT_fr hT F rfl rfl) k11 m2 ⟨by rw [F.1 43 26 (by decide) (by decide)]; exact hd.1, hd.2⟩ (fun j hj => by rw [F.1 57 j (by decide) (by simp)]; exact hts j hj) (by omega) (by simp only [List.length_append, List.length_cons, List.length_nil]; omega)
  refine ⟨u3, ?_, frM_of (fr_trans (fr_mono F (by simp) (by simp)) (fr_mono f3 (by simp) (by simp)) : fr [55] [(43, 24), (43, 15), (43, 16), (43, 17), (43, 18), (43, 19), (43, 20), (43, 21)] s u3) (by decide) (by decide), m3⟩
  rw [OP79_p hn hB hT h11 h1 h2, tX9_part_4, h16, h18]
  try simp only [k_lit, k_nN, k_ofN]
  simp (disch := omega) only [i_leT, i_leF, i_ltT, i_ltF, i_eqT, i_eqF, i_okT, i_n1, i_n2, i_n3, i_n4, i_n5, i_n6, i_n7, i_n8, k_cl, if_true, if_false]
  rw [tX9_part_29]
  try simp only [k_lit, k_nN, k_ofN]
  rw [e1, b_bv, tX9_part_34, q19, e2, b_bv, tX9_part_90, sX9_isGoodT k11, b_bi, tX9_part_94]
  try simp only [k_lit, k_nN, k_ofN]
  simp (disch := omega) only [i_leT, i_leF, i_ltT, i_ltF, i_eqT, i_eqF, i_okT, i_n1, i_n2, i_n3, i_n4, i_n5, i_n6, i_n7, i_n8, k_cl, if_true, if_false]
  rw [e3, b_bv, b_bv]
theorem OP_big {B : Nat → Nat} {n f nt : Nat} {W : List Nat} {O : List Int32} {d : Nat} {ts : Nat → Nat} {s : aMem} (hn : n ≤ 700) (hB : ∀ j, j < n → B j < 256) (h : ME B n f W O d ts s) (hk : kd B n f = 2) (hl : ¬ ed B n f - f ≤ 4) : ∃ u, OP79 nt s = some (.inl none, u) ∧ frM s u ∧ MEd n 2 f u := by
  obtain ⟨hT, h11, hS, hd, hts, hb1, hb2⟩ := id h
  have hlt := kd_lt (B := B) (n := n) (f := f) (by omega)
  have hed := ed_le (B := B) (n := n) (f := f) (by omega)
  have h1 : sgn B n f 40 = false := by simp [sgn, hk]
  have h2 : isW B n f 12 = false := by
    apply Bool.eq_false_iff.mpr
    intro q
    have := (isW_iff.mp q).1
    omega
  have h16 : s.1 43 16 = nI 2 := by
    rw [hT.2.2.2.1, show srt B n f = 2 by rw [srt_o _ _ _ _ (by omega)]; exact hk]
  have h18 := hT.2.2.2.2.2.1
  obtain ⟨u0, e0, f0, m0⟩ := MB_wrong (k := 2) hT h11 hS (by omega) (by omega)
  obtain ⟨q1, q2, q3, -⟩ := id m0
  have hS0 : mS W O u0 := mS_fr hS f0 rfl rfl
  obtain ⟨u1, e1, f1, m1⟩ := sX9_puts hS0 (by omega) (nI 1)
  obtain ⟨u2, e2, f2, m2⟩ := sX9_puts m1 (by simp only [List.length_append, List.length_cons, List.length_nil]; omega) (u1.1 43 19)
  have F : fr [55] [(43, 24)] u0 u2 := fr_trans f1 f2
  have M2 : MBd n 2 f u2 := ⟨by rw [F.1 43 11 (by decide) (by decide)]; exact q1, by rw [F.1 43 12 (by decide) (by decide)]; exact q2, q3, W, _, m2, by simp only [List.length_append, List.length_cons, List.length_nil]; omega⟩
  obtain ⟨u3, e3, f3, m3⟩ := MB_ML M2
  refine ⟨u3, ?_, frM_tr (frM_of f0 (by decide) (by decide)) (frM_tr (frM_of F (by decide) (by decide)) f3), m3⟩
  rw [OP79_p hn hB hT h11 h1 h2, tX9_part_4, h16, h18]
  try simp only [k_lit, k_nN, k_ofN]
  simp (disch := omega) only [i_leT, i_leF, i_ltT, i_ltF, i_eqT, i_eqF, i_okT, i_n1, i_n2, i_n3, i_n4, i_n5, i_n6, i_n7, i_n8, k_cl, if_true, if_false]
  rw [e0, b_bv, tX9_part_29]
  try simp only [k_lit, k_nN, k_ofN]
  rw [e1, b_bv, tX9_part_34, e2, b_bv, tX9_part_90, sX9_isGoodF M2.1 (by omega) (by omega), b_bi, tX9_part_94]
  try simp only [k_lit, k_nN, k_ofN]
  simp (disch := omega) only [i_leT, i_leF, i_ltT, i_ltF, i_eqT, i_eqF, i_okT, i_n1, i_n2, i_n3, i_n4, i_n5, i_n6, i_n7, i_n8, k_cl, if_true, if_false]
  rw [b_bv]
  exact e3
theorem OP_val {B : Nat → Nat} {n f nt k : Nat} {W : List Nat} {O : List Int32} {d : Nat} {ts : Nat → Nat} {s : aMem} (hn : n ≤ 700) (hB : ∀ j, j < n → B j < 256) (h : ME B n f W O d ts s) (hw : isW B n f k = true) (hl : k < 4) : ∃ u, OP79 nt s = ML u ∧ frM s u ∧ ME B n (nx B n f) W (O ++ [nI 2, nI k]) d ts u := by
  obtain ⟨hT, h11, hS, hd, hts, hb1, hb2⟩ := id h
  have hk := (isW_iff.mp hw).1
  have hlt := kd_lt (B := B) (n := n) (f := f) (by omega)
  have hnx := nx_le (B := B) (n := n) (f := f) (by omega)
  have h1 : sgn B n f 40 = false := by simp [sgn, hk]
  have h2 : isW B n f 12 = false := by
    apply Bool.eq_false_iff.mpr
    intro q
    have := isW_u (by omega) (by omega) hw q
    omega
  have h16 : s.1 43 16 = nI 1 := by
    rw [hT.2.2.2.1, show srt B n f = 1 by rw [srt_o _ _ _ _ (by omega)]; exact hk]
  obtain ⟨u1, e1, f1, m1⟩ := sX9_puts hS (by omega) (nI 2)
  obtain ⟨u2, e2, f2, m2⟩ := sX9_puts m1 (by simp only [List.length_append, List.length_cons, List.length_nil]; omega) (nI k)
  have F : fr [55] [(43, 24)] s u2 := fr_trans f1 f2
  have k11 : u2.1 43 11 = nI 0 := by rw [F.1 43 11 (by decide) (by decide)]; exact h11
  rw [List.append_assoc] at m2
  obtain ⟨u3, e3, f3, m3⟩ := ME_goes (d := d) (ts := ts) hn hB (MT_fr hT F rfl rfl) k11 m2 ⟨by rw [F.1 43 26 (by decide) (by decide)]; exact hd.1, hd.2⟩ (fun j hj => by rw [F.1 57 j (by decide) (by simp)]; exact hts j hj) (by omega) (by simp only [List.length_append, List.length_cons, List.length_nil]; omega)
  refine ⟨u3, ?_, frM_of (fr_trans (fr_mono F (by simp) (by simp)) (fr_mono f3 (by simp) (by simp)) : fr [55] [(43, 24), (43, 15), (43, 16), (43, 17), (43, 18), (43, 19), (43, 20), (43, 21)] s u3) (by decide) (by decide), m3⟩
  rw [OP79_p hn hB hT h11 h1 h2, tX9_part_4, h16]
  try simp only [k_lit, k_nN, k_ofN]
  simp (disch := omega) only [i_leT, i_leF, i_ltT, i_ltF, i_eqT, i_eqF, i_okT, i_n1, i_n2, i_n3, i_n4, i_n5, i_n6, i_n7, i_n8, k_cl, if_true, if_false]
  rw [sX9_knownWord hn hT, b_bi, wd_some (by omega) hw, show oI (some k) = nI k from rfl, tX9_part_57]
  try simp only [k_lit, k_nN, k_ofN]
  simp (disch := omega) only [i_leT, i_leF, i_ltT, i_ltF, i_eqT, i_eqF, i_okT, i_n1, i_n2, i_n3, i_n4, i_n5, i_n6, i_n7, i_n8, k_cl, if_true, if_false]
  rw [tX9_part_72]
  try simp only [k_lit, k_nN, k_ofN]
  rw [e1, b_bv, tX9_part_77, e2, b_bv, tX9_part_90, sX9_isGoodT k11, b_bi, tX9_part_94]
  try simp only [k_lit, k_nN, k_ofN]
  simp (disch := omega) only [i_leT, i_leF, i_ltT, i_ltF, i_eqT, i_eqF, i_okT, i_n1, i_n2, i_n3, i_n4, i_n5, i_n6, i_n7, i_n8, k_cl, if_true, if_false]
  rw [e3, b_bv, b_bv]
theorem OP_unk {B : Nat → Nat} {n f nt : Nat} {W : List Nat} {O : List Int32} {d : Nat} {ts : Nat → Nat} {s : aMem} (hn : n ≤ 700) (hB : ∀ j, j < n → B j < 256) (h : ME B n f W O d ts s) (hk : kd B n f = 1) (h2 : isW B n f 12 = false) (hw : ∀ k, k < 4 → isW B n f k = false) : ∃ u, OP79 nt s = some (.inl none, u) ∧ frM s u ∧ MEd n 3 f u := by
  obtain ⟨hT, h11, hS, hd, hts, hb1, hb2⟩ := id h
  have hlt := kd_lt (B := B) (n := n) (f := f) (by omega)
  have h1 : sgn B n f 40 = false := by simp [sgn, hk]
  have h16 : s.1 43 16 = nI 1 := by
    rw [hT.2.2.2.1, show srt B n f = 1 by rw [srt_o _ _ _ _ (by omega)]; exact hk]
  obtain ⟨u0, e0, f0, m0⟩ := MB_wrong (k := 3) hT h11 hS (by omega) (by omega)
  obtain ⟨q1, q2, q3, -⟩ := id m0
  have hS0 : mS W O u0 := mS_fr hS f0 rfl rfl
  obtain ⟨u1, e1, f1, m1⟩ := sX9_puts hS0 (by omega) (nI 2)
  obtain ⟨u2, e2, f2, m2⟩ := sX9_puts m1 (by simp only [List.length_append, List.length_cons, List.length_nil]; omega) (oI (wd B n f))
  have F : fr [55] [(43, 24)] u0 u2 := fr_trans f1 f2
  have M2 : MBd n 3 f u2 := ⟨by rw [F.1 43 11 (by decide) (by decide)]; exact q1, by rw [F.1 43 12 (by decide) (by decide)]; exact q2, q3, W, _, m2, by simp only [List.length_append, List.length_cons, List.length_nil]; omega⟩
  obtain ⟨u3, e3, f3, m3⟩ := MB_ML M2
  refine ⟨u3, ?_, frM_tr (frM_of f0 (by decide) (by decide)) (frM_tr (frM_of F (by decide) (by decide)) f3), m3⟩
  rw [OP79_p hn hB hT h11 h1 h2, tX9_part_4, h16]
  try simp only [k_lit, k_nN, k_ofN]
  simp (disch := omega) only [i_leT, i_leF, i_ltT, i_ltF, i_eqT, i_eqF, i_okT, i_n1, i_n2, i_n3, i_n4, i_n5, i_n6, i_n7, i_n8, k_cl, if_true, if_false]
  rw [sX9_knownWord hn hT, b_bi]
  have key : a_run none shp pX9_part 57 [some (.ref 43), none] [.int (oI (wd B n f))] s = a_bv (fX9_wrong [.ref 43, .int (nI 3)] s) (fun s1 => a_run none shp pX9_part 72 [some (.ref 43), some (.int (oI (wd B n f)))] [] s1) none (fun x s1 => some (.inr x, s1)) := by
    rw [tX9_part_57]
    try simp only [k_lit, k_nN, k_ofN]
    cases e : wd B n f with
    | none =>
      rw [show oI none = nN from rfl]
      simp (disch := omega) only [i_leT, i_leF, i_ltT, i_ltF, i_eqT, i_eqF, i_okT, i_n1, i_n2, i_n3, i_n4, i_n5, i_n6, i_n7, i_n8, k_cl, if_true, if_false]
    | some k =>
      have hk := wd_of e
      have : ¬ k < 4 := fun c => by rw [hw k c] at hk; exact absurd hk.2 (by simp)
      rw [show oI (some k) = nI k from rfl]
      simp (disch := omega) only [i_leT, i_leF, i_ltT, i_ltF, i_eqT, i_eqF, i_okT, i_n1, i_n2, i_n3, i_n4, i_n5, i_n6, i_n7, i_n8, k_cl, if_true, if_false]
  rw [key, e0, b_bv, tX9_part_72]
  try simp only [k_lit, k_nN, k_ofN]
  rw [e1, b_bv, tX9_part_77, e2, b_bv, tX9_part_90, sX9_isGoodF M2.1 (by omega) (by omega), b_bi, tX9_part_94]
  try simp only [k_lit, k_nN, k_ofN]
  simp (disch := omega) only [i_leT, i_leF, i_ltT, i_ltF, i_eqT, i_eqF, i_okT, i_n1, i_n2, i_n3, i_n4, i_n5, i_n6, i_n7, i_n8, k_cl, if_true, if_false]
  rw [b_bv]
  exact e3
theorem OP_bad {B : Nat → Nat} {n f nt : Nat} {W : List Nat} {O : List Int32} {d : Nat} {ts : Nat → Nat} {s : aMem} (hn : n ≤ 700) (hB : ∀ j, j < n → B j < 256) (h : ME B n f W O d ts s) (ht : tk B n f = false) : ∃ u, OP79 nt s = some (.inl none, u) ∧ frM s u ∧ MEd n 1 f u := by
  obtain ⟨hT, h11, hS, hd, hts, hb1, hb2⟩ := id h
  have hfn := hT.1
  simp only [tk, Bool.or_eq_false_iff, decide_eq_false_iff_not] at ht
  obtain ⟨c1, c2, h1⟩ := ht
  have h2 : isW B n f 12 = false := by
    apply Bool.eq_false_iff.mpr
    intro q
    have := (isW_iff.mp q).1
    omega
  have hs := srt_le B n f
  have n2 : srt B n f ≠ 2 := by rw [Ne, srt_o _ _ _ _ (by omega)]; exact c2
  have n1 : srt B n f ≠ 1 := by rw [Ne, srt_o _ _ _ _ (by omega)]; exact c1
  obtain ⟨u0, e0, f0, m0⟩ := MB_wrong (k := 1) hT h11 hS (by omega) (by omega)
  obtain ⟨u3, e3, f3, m3⟩ := MB_ML m0
  refine ⟨u3, ?_, frM_tr (frM_of f0 (by decide) (by decide)) f3, m3⟩
  rw [OP79_p hn hB hT h11 h1 h2, tX9_part_4, hT.2.2.2.1]
  try simp only [k_lit, k_nN, k_ofN]
  simp (disch := omega) only [i_leT, i_leF, i_ltT, i_ltF, i_eqT, i_eqF, i_okT, i_n1, i_n2, i_n3, i_n4, i_n5, i_n6, i_n7, i_n8, k_cl, if_true, if_false]
  rw [e0, b_bv, tX9_part_90, sX9_isGoodF m0.1 (by omega) (by omega), b_bi, tX9_part_94]
  try simp only [k_lit, k_nN, k_ofN]
  simp (disch := omega) only [i_leT, i_leF, i_ltT, i_ltF, i_eqT, i_eqF, i_okT, i_n1, i_n2, i_n3, i_n4, i_n5, i_n6, i_n7, i_n8, k_cl, if_true, if_false]
  rw [b_bv]
  exact e3
