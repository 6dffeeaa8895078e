/-! ===== the model's expression: what closes, what turns, the end ===== -/
theorem sX9_closes {B : Nat → Nat} {n f x : Nat} {P W : List Nat} {O : List Int32} {d : Nat} {ts : Nat → Nat} {s : aMem} (hn : n ≤ 700) (hB : ∀ j, j < n → B j < 256) (h : ME B n f (P ++ x :: W) O (d + 1) ts s) (hP : ∀ x, x ∈ P → x < 14) (hx : 14 ≤ x) (hlt : f < n) : ∃ u, fX9_closes [.ref 43] s = some (.inl none, u) ∧ frM s u ∧ ME B n (nx B n f) W (O ++ P.map nI) d ts u := by
  obtain ⟨hT, h11, hS, hd, hts, hb1, hb2⟩ := h
  have hnx := nx_le (B := B) (n := n) (f := f) (by omega)
  simp only [List.length_append, List.length_cons] at hb1 hb2
  obtain ⟨u1, e1, f1, m1⟩ := sX9_drops (σ := 0) (by omega) hS (fun y hy => ⟨hP y hy, by omega⟩) (fun y W' e => by cases e; exact .inl hx)
  have k25 : u1.1 43 25 = nI (W.length + 1) := by
    have := m1.1.1
    simpa using this
  have k26 : u1.1 43 26 = nI (d + 1) := by rw [f1.1 43 26 (by decide) (by decide)]; exact hd.1
  have m2 := mS_pop m1
  have f2 : fr [55] [(43, 24), (43, 25), (43, 26)] s (a_si (a_si u1 43 25 (nI W.length)) 43 26 (nI d)) := fr_si (fr_si (fr_mono f1 (by simp) (by simp)) (by simp)) (by simp)
  have f3 : fr [] [(43, 26)] (a_si u1 43 25 (nI W.length)) (a_si (a_si u1 43 25 (nI W.length)) 43 26 (nI d)) := fr_si (fr_rfl _) (by simp)
  obtain ⟨u3, e3, f4, m4⟩ := ME_goes (d := d) (ts := ts) hn hB (MT_fr hT f2 rfl rfl) (by rw [f2.1 43 11 (by decide) (by decide)]; exact h11) (mS_fr m2 f3 rfl rfl) ⟨by simp [m_si], by omega⟩ (fun j hj => by rw [f2.1 57 j (by decide) (by simp)]; exact hts j (by omega)) (by omega) (by simp only [List.length_append, List.length_map]; omega)
  refine ⟨u3, ?_, frM_of (fr_trans (fr_mono f2 (by simp) (by simp)) (fr_mono f4 (by simp) (by simp)) : fr [55] [(43, 24), (43, 25), (43, 26), (43, 15), (43, 16), (43, 17), (43, 18), (43, 19), (43, 20), (43, 21)] s u3) (by decide) (by decide), m4⟩
  rw [tX9_closes]
  try simp only [k_lit, k_nN, k_ofN]
  rw [e1, b_bv, tX9_closes_5, k25, k26]
  try simp only [k_lit, k_nN, k_ofN]
  rw [k_pred, k_pred, e3, b_bv]
noncomputable def TN (y : Nat) (s : aMem) : Option aRes := a_bv (fX9_turns [.ref 43, .int (nI y)] s) (fun s1 => ML s1) none (fun x s1 => some (.inr x, s1))
theorem turns_o {s : aMem} : a_bv (a_run none shp pX9_turns 61 [some (.ref 43), none] [] s) (fun s1 => ML s1) none (fun x s1 => some (.inr x, s1)) = OPl 1 s := by
  rw [tX9_turns_61, bv_as]
  try simp only [k_lit, k_nN, k_ofN]
  exact OP_op
theorem TN_go {B : Nat → Nat} {n f x y : Nat} {P W : List Nat} {O : List Int32} {d : Nat} {ts : Nat → Nat} {s : aMem} (hn : n ≤ 700) (hB : ∀ j, j < n → B j < 256) (h : ME B n f (P ++ x :: W) O d ts s) (hP : ∀ x, x ∈ P → x < 14) (hx : 14 ≤ x) (hy : y < 20) (hlt : f < n) : ∃ u, TN y s = a_bv (a_run none shp pX9_turns 31 [some (.ref 43), some (.int (nI y))] [] u) (fun s1 => ML s1) none (fun x s1 => some (.inr x, s1)) ∧ frM s u ∧ ME B n (nx B n f) (y :: W) (O ++ P.map nI) d (upN ts d 0) u := by
  obtain ⟨hT, h11, hS, hd, hts, hb1, hb2⟩ := h
  have hnx := nx_le (B := B) (n := n) (f := f) (by omega)
  simp only [List.length_append, List.length_cons] at hb1 hb2
  obtain ⟨u1, e1, f1, m1⟩ := sX9_drops (σ := 0) (by omega) hS (fun y hy => ⟨hP y hy, by omega⟩) (fun y W' e => by cases e; exact .inl hx)
  have k25 : u1.1 43 25 = nI (W.length + 1) := by
    have := m1.1.1
    simpa using this
  have k26 : u1.1 43 26 = nI d := by rw [f1.1 43 26 (by decide) (by decide)]; exact hd.1
  have f2 : fr [55, 56, 57] [(43, 24), (43, 25)] s (a_si (a_si u1 56 W.length (nI y)) 57 d (nI 0)) := fr_si (fr_si (fr_mono f1 (by simp) (by simp)) (by simp)) (by simp)
  have m2 : mS (y :: W) (O ++ P.map nI) (a_si (a_si u1 56 W.length (nI y)) 57 d (nI 0)) := by
    obtain ⟨⟨a1, a2, a3, a4⟩, a5, a6, a7⟩ := m1
    refine ⟨⟨by simpa [m_si] using a1, ?_, by simpa using a3, fun z hz => ?_⟩, by simpa [m_si] using a5, fun j x hj => by simpa [m_si] using a6 j x hj, by simpa using a7⟩
    · rw [List.map_cons]
      exact Rp_o (Rp_set a2.2 (by simp)) (by decide)
    · rcases List.mem_cons.mp hz with e | e
      · rw [e]; exact hy
      · exact a4 z (by simp [e])
  obtain ⟨u3, e3, f4, m4⟩ := ME_goes (d := d) (ts := upN ts d 0) hn hB (MT_fr hT f2 rfl rfl) (by rw [f2.1 43 11 (by decide) (by decide)]; exact h11) m2 ⟨by rw [f2.1 43 26 (by decide) (by decide)]; exact hd.1, hd.2⟩ (fun j hj => by
    by_cases e : j = d
    · rw [e, upN_s]; simp [m_si]
    · rw [upN_n e]
      have := hts j hj
      rw [← f1.1 57 j (by decide) (by simp)] at this
      simpa [m_si, e] using this) (by simp only [List.length_cons]; omega) (by simp only [List.length_append, List.length_map, List.length_cons]; omega)
  refine ⟨u3, ?_, frM_of (fr_trans (fr_mono f2 (by simp) (by simp)) (fr_mono f4 (by simp) (by simp)) : fr [55, 56, 57] [(43, 24), (43, 25), (43, 15), (43, 16), (43, 17), (43, 18), (43, 19), (43, 20), (43, 21)] s u3) (by decide) (by decide), m4⟩
  unfold TN
  rw [tX9_turns]
  try simp only [k_lit, k_nN, k_ofN]
  rw [e1, b_bv, tX9_turns_5, k25, k26]
  try simp only [k_lit, k_nN, k_ofN, nar_b0]
  rw [k_pred]
  simp (disch := omega) only [i_leT, i_leF, i_ltT, i_ltF, i_eqT, i_eqF, i_okT, i_n1, i_n2, i_n3, i_n4, i_n5, i_n6, i_n7, i_n8, k_cl, if_true, if_false]
  rw [e3, b_bv]
theorem TN_ok {B : Nat → Nat} {n f x y : Nat} {P W : List Nat} {O : List Int32} {d : Nat} {ts : Nat → Nat} {s : aMem} (hn : n ≤ 700) (hB : ∀ j, j < n → B j < 256) (h : ME B n f (P ++ x :: W) O d ts s) (hP : ∀ x, x ∈ P → x < 14) (hx : 14 ≤ x) (hy : y < 20) (hlt : f < n) (ht : tk B n (nx B n f) = true) : ∃ u, TN y s = OPl 1 u ∧ frM s u ∧ ME B n (nx B n f) (y :: W) (O ++ P.map nI) d (upN ts d 0) u := by
  obtain ⟨u, e, f1, m1⟩ := TN_go hn hB h hP hx hy hlt
  refine ⟨u, ?_, f1, m1⟩
  obtain ⟨hT, -⟩ := m1
  have hs := srt_le B n (nx B n f)
  rw [e, tX9_turns_31, hT.2.2.2.1]
  try simp only [k_lit, k_nN, k_ofN]
  by_cases c2 : kd B n (nx B n f) = 2
  · have : srt B n (nx B n f) = 2 := by rw [srt_o _ _ _ _ (by omega)]; exact c2
    rw [this]
    simp (disch := omega) only [i_leT, i_leF, i_ltT, i_ltF, i_eqT, i_eqF, i_okT, i_n1, i_n2, i_n3, i_n4, i_n5, i_n6, i_n7, i_n8, k_cl, if_true, if_false]
    exact turns_o
  · have n2 : srt B n (nx B n f) ≠ 2 := by rw [Ne, srt_o _ _ _ _ (by omega)]; exact c2
    rw [i_eqF n2 (by omega) (by omega)]
    by_cases c1 : kd B n (nx B n f) = 1
    · have : srt B n (nx B n f) = 1 := by rw [srt_o _ _ _ _ (by omega)]; exact c1
      rw [this]
      simp (disch := omega) only [i_leT, i_leF, i_ltT, i_ltF, i_eqT, i_eqF, i_okT, i_n1, i_n2, i_n3, i_n4, i_n5, i_n6, i_n7, i_n8, k_cl, if_true, if_false]
      exact turns_o
    · have n1 : srt B n (nx B n f) ≠ 1 := by rw [Ne, srt_o _ _ _ _ (by omega)]; exact c1
      have h40 : sgn B n (nx B n f) 40 = true := by
        simpa [tk, c1, c2] using ht
      rw [i_eqF n1 (by omega) (by omega), sX9_isSign hB hT (by decide) (by decide), b_bi, tX9_turns_53, h40, Bool.toNat_true]
      try simp only [k_lit, k_nN, k_ofN]
      simp (disch := omega) only [i_leT, i_leF, i_ltT, i_ltF, i_eqT, i_eqF, i_okT, i_n1, i_n2, i_n3, i_n4, i_n5, i_n6, i_n7, i_n8, k_cl, if_true, if_false]
      exact turns_o
theorem TN_bad {B : Nat → Nat} {n f x y : Nat} {P W : List Nat} {O : List Int32} {d : Nat} {ts : Nat → Nat} {s : aMem} (hn : n ≤ 700) (hB : ∀ j, j < n → B j < 256) (h : ME B n f (P ++ x :: W) O d ts s) (hP : ∀ x, x ∈ P → x < 14) (hx : 14 ≤ x) (hy : y < 20) (hlt : f < n) (ht : tk B n (nx B n f) = false) : ∃ u, TN y s = some (.inl none, u) ∧ frM s u ∧ MEd n 1 (nx B n f) u := by
  obtain ⟨u, e, f1, m1⟩ := TN_go hn hB h hP hx hy hlt
  obtain ⟨hT, h11, hS, hd, hts, hb1, hb2⟩ := m1
  have hfn := hT.1
  obtain ⟨u0, e0, f0, m0⟩ := MB_wrong (k := 1) hT h11 hS (by omega) (by omega)
  obtain ⟨u3, e3, f3, m3⟩ := MB_OP (v := 1) m0
  refine ⟨u3, ?_, frM_tr f1 (frM_tr (frM_of f0 (by decide) (by decide)) f3), m3⟩
  simp only [tk, Bool.or_eq_false_iff, decide_eq_false_iff_not] at ht
  obtain ⟨c1, c2, h1⟩ := ht
  have hs := srt_le B n (nx B n f)
  have n2 : srt B n (nx B n f) ≠ 2 := by rw [Ne, srt_o _ _ _ _ (by omega)]; exact c2
  have n1 : srt B n (nx B n f) ≠ 1 := by rw [Ne, srt_o _ _ _ _ (by omega)]; exact c1
  rw [e, tX9_turns_31, hT.2.2.2.1]
  try simp only [k_lit, k_nN, k_ofN]
  rw [i_eqF n2 (by omega) (by omega), i_eqF n1 (by omega) (by omega), sX9_isSign hB hT (by decide) (by decide), b_bi, tX9_turns_53, h1, Bool.toNat_false]
  try simp only [k_lit, k_nN, k_ofN]
  simp (disch := omega) only [i_leT, i_leF, i_ltT, i_ltF, i_eqT, i_eqF, i_okT, i_n1, i_n2, i_n3, i_n4, i_n5, i_n6, i_n7, i_n8, k_cl, if_true, if_false]
  rw [e0, b_bv, turns_o]
  exact e3
theorem nop_s {B : Nat → Nat} {n f t : Nat} (h : sgn B n f 41 = true) : nop B n f t := by
  obtain ⟨h1, h2, h3, h4⟩ := sg_nW h
  refine ⟨⟨h1 9, h1 10⟩, ⟨by rw [h4]; rfl, by rw [h4]; rfl, by rw [h4]; rfl, by rw [h4]; rfl⟩, fun c => ?_⟩
  rw [h4, h4] at c
  rcases c with c | c <;> exact absurd c (by decide)
theorem nop_w {B : Nat → Nat} {n f t k : Nat} (h : isW B n f k = true) (hk : k < 16) (h9 : k ≠ 9) (h10 : k ≠ 10) : nop B n f t := by
  have h1 := isW_nS h
  refine ⟨⟨?_, ?_⟩, ⟨h1 _, h1 _, h1 _, h1 _⟩, fun c => ?_⟩
  · apply Bool.eq_false_iff.mpr
    intro q
    exact h9 (isW_u hk (by omega) h q)
  · apply Bool.eq_false_iff.mpr
    intro q
    exact h10 (isW_u hk (by omega) h q)
  · rw [h1, h1] at c
    rcases c with c | c <;> exact absurd c (by decide)
theorem ML_par {B : Nat → Nat} {n f : Nat} {P W : List Nat} {O : List Int32} {d : Nat} {ts : Nat → Nat} {s : aMem} (hn : n ≤ 700) (hB : ∀ j, j < n → B j < 256) (h : ME B n f (P ++ 14 :: W) O (d + 1) ts s) (hP : ∀ x, x ∈ P → x < 14) (ht : sgn B n f 41 = true) : ∃ u, ML s = ML u ∧ frM s u ∧ ME B n (nx B n f) W (O ++ P.map nI) d ts u := by
  have hlt := kd_lt (B := B) (n := n) (f := f) (by rw [(sg_nW ht).2.2.1]; omega)
  obtain ⟨u, e, f1, m⟩ := sX9_closes hn hB h hP (by omega) hlt
  refine ⟨u, ?_, f1, m⟩
  rw [ML_nop hn hB h (nop_s ht), ht, Bool.toNat_true, tX9_expression_303]
  try simp only [k_lit, k_nN, k_ofN]
  simp (disch := omega) only [i_leT, i_leF, i_ltT, i_ltF, i_eqT, i_eqF, i_okT, i_n1, i_n2, i_n3, i_n4, i_n5, i_n6, i_n7, i_n8, k_cl, if_true, if_false]
  rw [sX9_opened P h.2.2.1 hP (fun x W' e => by cases e; omega), b_bi, show topI (14 :: W) = nI 14 from rfl, tX9_expression_310]
  try simp only [k_lit, k_nN, k_ofN]
  simp (disch := omega) only [i_leT, i_leF, i_ltT, i_ltF, i_eqT, i_eqF, i_okT, i_n1, i_n2, i_n3, i_n4, i_n5, i_n6, i_n7, i_n8, k_cl, if_true, if_false]
  rw [e, b_bv]
  rfl
theorem ML_then {B : Nat → Nat} {n f k x y : Nat} {P W : List Nat} {O : List Int32} {d : Nat} {ts : Nat → Nat} {s : aMem} (hn : n ≤ 700) (hB : ∀ j, j < n → B j < 256) (hk : (k = 13 ∧ x = 15 ∧ y = 16) ∨ (k = 14 ∧ x = 16 ∧ y = 17)) (h : ME B n f (P ++ x :: W) O d ts s) (hP : ∀ x, x ∈ P → x < 14) (ht : isW B n f k = true) : ML s = TN y s := by
  have hS := isW_nS ht 41
  rw [ML_nop hn hB h (nop_w ht (by omega) (by omega) (by omega)), hS, Bool.toNat_false, wd_some (by omega) ht, show oI (some k) = nI k from rfl, tX9_expression_303]
  try simp only [k_lit, k_nN, k_ofN]
  rcases hk with ⟨c1, c2, c3⟩ | ⟨c1, c2, c3⟩ <;> subst c1 <;> subst c2 <;> subst c3
  · simp (disch := omega) only [i_leT, i_leF, i_ltT, i_ltF, i_eqT, i_eqF, i_okT, i_n1, i_n2, i_n3, i_n4, i_n5, i_n6, i_n7, i_n8, k_cl, if_true, if_false]
    rw [sX9_opened P h.2.2.1 hP (fun x W' e => by cases e; omega), b_bi, show topI (15 :: W) = nI 15 from rfl, tX9_expression_332]
    try simp only [k_lit, k_nN, k_ofN]
    simp (disch := omega) only [i_leT, i_leF, i_ltT, i_ltF, i_eqT, i_eqF, i_okT, i_n1, i_n2, i_n3, i_n4, i_n5, i_n6, i_n7, i_n8, k_cl, if_true, if_false]
    rfl
  · simp (disch := omega) only [i_leT, i_leF, i_ltT, i_ltF, i_eqT, i_eqF, i_okT, i_n1, i_n2, i_n3, i_n4, i_n5, i_n6, i_n7, i_n8, k_cl, if_true, if_false]
    rw [sX9_opened P h.2.2.1 hP (fun x W' e => by cases e; omega), b_bi, show topI (16 :: W) = nI 16 from rfl, tX9_expression_356]
    try simp only [k_lit, k_nN, k_ofN]
    simp (disch := omega) only [i_leT, i_leF, i_ltT, i_ltF, i_eqT, i_eqF, i_okT, i_n1, i_n2, i_n3, i_n4, i_n5, i_n6, i_n7, i_n8, k_cl, if_true, if_false]
    rfl
theorem ML_done {B : Nat → Nat} {n f : Nat} {P W : List Nat} {O : List Int32} {d : Nat} {ts : Nat → Nat} {s : aMem} (hn : n ≤ 700) (hB : ∀ j, j < n → B j < 256) (h : ME B n f (P ++ 17 :: W) O (d + 1) ts s) (hP : ∀ x, x ∈ P → x < 14) (ht : isW B n f 15 = true) : ∃ u, ML s = ML u ∧ frM s u ∧ ME B n (nx B n f) W (O ++ P.map nI ++ [nI 13]) d ts u := by
  have hlt := kd_lt (B := B) (n := n) (f := f) (by rw [(isW_iff.mp ht).1]; omega)
  have hnx := nx_le (B := B) (n := n) (f := f) (by omega)
  obtain ⟨u, e, f1, m⟩ := sX9_closes hn hB h hP (by omega) hlt
  have hb2' := h.2.2.2.2.2.2
  obtain ⟨hT, h11, hS1, hd, hts, hb1, hb2⟩ := m
  simp only [List.length_append, List.length_cons, List.length_map] at hb1 hb2 hb2'
  obtain ⟨u2, e2, f2, m2⟩ := sX9_puts hS1 (by simp only [List.length_append, List.length_map]; omega) (nI 13)
  refine ⟨u2, ?_, frM_tr f1 (frM_of f2 (by decide) (by decide)), MT_fr hT f2 rfl rfl, by rw [f2.1 43 11 (by decide) (by decide)]; exact h11, m2, ⟨by rw [f2.1 43 26 (by decide) (by decide)]; exact hd.1, hd.2⟩, fun j hj => by rw [f2.1 57 j (by decide) (by simp)]; exact hts j hj, hb1, by simp only [List.length_append, List.length_cons, List.length_nil, List.length_map]; omega⟩
  have hS := isW_nS ht 41
  rw [ML_nop hn hB h (nop_w ht (by omega) (by omega) (by omega)), hS, Bool.toNat_false, wd_some (by omega) ht, show oI (some 15) = nI 15 from rfl, tX9_expression_303]
  try simp only [k_lit, k_nN, k_ofN]
  simp (disch := omega) only [i_leT, i_leF, i_ltT, i_ltF, i_eqT, i_eqF, i_okT, i_n1, i_n2, i_n3, i_n4, i_n5, i_n6, i_n7, i_n8, k_cl, if_true, if_false]
  rw [sX9_opened P h.2.2.1 hP (fun x W' e => by cases e; omega), b_bi, show topI (17 :: W) = nI 17 from rfl, tX9_expression_380]
  try simp only [k_lit, k_nN, k_ofN]
  simp (disch := omega) only [i_leT, i_leF, i_ltT, i_ltF, i_eqT, i_eqF, i_okT, i_n1, i_n2, i_n3, i_n4, i_n5, i_n6, i_n7, i_n8, k_cl, if_true, if_false]
  rw [e, b_bv, tX9_expression_389]
  try simp only [k_lit, k_nN, k_ofN]
  rw [e2, b_bv]
  rfl
/-- nothing that closes what is open -/
def ncl (B : Nat → Nat) (n f : Nat) (v : Int32) : Prop := ¬ (sgn B n f 41 = true ∧ v = nI 14) ∧ ¬ (isW B n f 13 = true ∧ v = nI 15) ∧ ¬ (isW B n f 14 = true ∧ v = nI 16) ∧ ¬ (isW B n f 15 = true ∧ v = nI 17)
theorem ML_ncl {B : Nat → Nat} {n f : Nat} {P W : List Nat} {O : List Int32} {d : Nat} {ts : Nat → Nat} {s : aMem} (hn : n ≤ 700) (hB : ∀ j, j < n → B j < 256) (h : ME B n f (P ++ W) O d ts s) (hP : ∀ x, x ∈ P → x < 14) (hW : ∀ x W', W = x :: W' → 14 ≤ x) (hno : nop B n f (ts d)) (hc : ncl B n f (topI W)) : ML s = a_run none shp pX9_expression 29 [some (.ref 43), some (.int (nI 0)), none] [] s := by
  obtain ⟨c1, c2, c3, c4⟩ := hc
  have ho := sX9_opened P h.2.2.1 hP hW
  rw [ML_nop hn hB h hno, tX9_expression_303]
  try simp only [k_lit, k_nN, k_ofN]
  cases e41 : sgn B n f 41
  · rw [Bool.toNat_false]
    simp (disch := omega) only [i_leT, i_leF, i_ltT, i_ltF, i_eqT, i_eqF, i_okT, i_n1, i_n2, i_n3, i_n4, i_n5, i_n6, i_n7, i_n8, k_cl, if_true, if_false]
    by_cases w13 : isW B n f 13 = true
    · rw [wd_some (by omega) w13, show oI (some 13) = nI 13 from rfl]
      simp (disch := omega) only [i_leT, i_leF, i_ltT, i_ltF, i_eqT, i_eqF, i_okT, i_n1, i_n2, i_n3, i_n4, i_n5, i_n6, i_n7, i_n8, k_cl, if_true, if_false]
      rw [ho, b_bi, tX9_expression_332]
      try simp only [k_lit, k_nN, k_ofN]
      rw [if_neg (fun q => c2 ⟨w13, q⟩)]
      simp (disch := omega) only [i_leT, i_leF, i_ltT, i_ltF, i_eqT, i_eqF, i_okT, i_n1, i_n2, i_n3, i_n4, i_n5, i_n6, i_n7, i_n8, k_cl, if_true, if_false]
    · rw [if_neg (by rw [wd_ne (by omega)]; exact w13)]
      by_cases w14 : isW B n f 14 = true
      · rw [wd_some (by omega) w14, show oI (some 14) = nI 14 from rfl]
        simp (disch := omega) only [i_leT, i_leF, i_ltT, i_ltF, i_eqT, i_eqF, i_okT, i_n1, i_n2, i_n3, i_n4, i_n5, i_n6, i_n7, i_n8, k_cl, if_true, if_false]
        rw [ho, b_bi, tX9_expression_356]
        try simp only [k_lit, k_nN, k_ofN]
        rw [if_neg (fun q => c3 ⟨w14, q⟩)]
        simp (disch := omega) only [i_leT, i_leF, i_ltT, i_ltF, i_eqT, i_eqF, i_okT, i_n1, i_n2, i_n3, i_n4, i_n5, i_n6, i_n7, i_n8, k_cl, if_true, if_false]
      · rw [if_neg (by rw [wd_ne (by omega)]; exact w14)]
        by_cases w15 : isW B n f 15 = true
        · rw [wd_some (by omega) w15, show oI (some 15) = nI 15 from rfl]
          simp (disch := omega) only [i_leT, i_leF, i_ltT, i_ltF, i_eqT, i_eqF, i_okT, i_n1, i_n2, i_n3, i_n4, i_n5, i_n6, i_n7, i_n8, k_cl, if_true, if_false]
          rw [ho, b_bi, tX9_expression_380]
          try simp only [k_lit, k_nN, k_ofN]
          rw [if_neg (fun q => c4 ⟨w15, q⟩)]
        · rw [if_neg (by rw [wd_ne (by omega)]; exact w15)]
  · rw [Bool.toNat_true]
    simp (disch := omega) only [i_leT, i_leF, i_ltT, i_ltF, i_eqT, i_eqF, i_okT, i_n1, i_n2, i_n3, i_n4, i_n5, i_n6, i_n7, i_n8, k_cl, if_true, if_false]
    rw [ho, b_bi, tX9_expression_310]
    try simp only [k_lit, k_nN, k_ofN]
    rw [if_neg (fun q => c1 ⟨e41, q⟩), (sg_nW e41).2.1, show oI none = nN from rfl]
    simp (disch := omega) only [i_leT, i_leF, i_ltT, i_ltF, i_eqT, i_eqF, i_okT, i_n1, i_n2, i_n3, i_n4, i_n5, i_n6, i_n7, i_n8, k_cl, if_true, if_false]
theorem ML_end {B : Nat → Nat} {n f : Nat} {P W : List Nat} {O : List Int32} {d : Nat} {ts : Nat → Nat} {s : aMem} (hn : n ≤ 700) (hB : ∀ j, j < n → B j < 256) (h : ME B n f (P ++ W) O d ts s) (hP : ∀ x, x ∈ P → x < 14) (hW : ∀ x W', W = x :: W' → 14 ≤ x) (hno : nop B n f (ts d)) (hc : ncl B n f (topI W)) (hd : 2 ≤ d) : ∃ u, ML s = some (.inl none, u) ∧ frM s u ∧ MEd n 1 f u := by
  obtain ⟨hT, h11, hS, hd1, hts, hb1, hb2⟩ := id h
  have hfn := hT.1
  obtain ⟨u0, e0, f0, m0⟩ := MB_wrong (k := 1) hT h11 hS (by omega) (by omega)
  obtain ⟨u3, e3, f3, m3⟩ := MB_end m0
  refine ⟨u3, ?_, frM_tr (frM_of f0 (by decide) (by decide)) f3, m3⟩
  have hd2 := hd1.2
  rw [ML_ncl hn hB h hP hW hno hc, tX9_expression_29]
  try simp only [k_lit, k_nN, k_ofN]
  simp (disch := omega) only [i_leT, i_leF, i_ltT, i_ltF, i_eqT, i_eqF, i_okT, i_n1, i_n2, i_n3, i_n4, i_n5, i_n6, i_n7, i_n8, k_cl, if_true, if_false]
  rw [sX9_isGoodT h11, b_bi, tX9_expression_407, hd1.1]
  try simp only [k_lit, k_nN, k_ofN]
  simp (disch := omega) only [i_leT, i_leF, i_ltT, i_ltF, i_eqT, i_eqF, i_okT, i_n1, i_n2, i_n3, i_n4, i_n5, i_n6, i_n7, i_n8, k_cl, if_true, if_false]
  rw [e0, b_bv]
  exact e3
/-- the whole expression's end -/
theorem ML_fin {B : Nat → Nat} {n f : Nat} {P : List Nat} {O : List Int32} {ts : Nat → Nat} {s : aMem} (hn : n ≤ 700) (hB : ∀ j, j < n → B j < 256) (h : ME B n f (P ++ []) O 1 ts s) (hP : ∀ x, x ∈ P → x < 14) (hno : nop B n f (ts 1)) : ∃ u, ML s = some (.inl none, u) ∧ frM s u ∧ MT B n f u ∧ u.1 43 11 = nI 0 ∧ ∀ j x, (O ++ P.map nI ++ [nI 0])[j]? = some x → u.1 55 j = x := by
  obtain ⟨hT, h11, hS, hd1, hts, hb1, hb2⟩ := id h
  have hfn := hT.1
  obtain ⟨u1, e1, f1, m1⟩ := sX9_drops (σ := 0) (by omega) hS (fun y hy => ⟨hP y hy, by omega⟩) (fun y W' e => by cases e)
  obtain ⟨u2, e2, f2, m2⟩ := sX9_puts m1 (by simp only [List.length_append, List.length_map, List.length_nil] at hb2 ⊢; omega) (nI 0)
  have F : fr [55] [(43, 24), (43, 25)] s u2 := fr_trans f1 (fr_mono f2 (by simp) (by simp))
  refine ⟨u2, ?_, frM_of F (by decide) (by decide), MT_fr hT F rfl rfl, by rw [F.1 43 11 (by decide) (by decide)]; exact h11, m2.2.2.1⟩
  have hc : ncl B n f (topI []) := by
    refine ⟨fun q => ?_, fun q => ?_, fun q => ?_, fun q => ?_⟩ <;> exact absurd q.2 (by decide)
  rw [ML_ncl hn hB h hP (fun x W' e => by cases e) hno hc, tX9_expression_29]
  try simp only [k_lit, k_nN, k_ofN]
  simp (disch := omega) only [i_leT, i_leF, i_ltT, i_ltF, i_eqT, i_eqF, i_okT, i_n1, i_n2, i_n3, i_n4, i_n5, i_n6, i_n7, i_n8, k_cl, if_true, if_false]
  rw [sX9_isGoodT h11, b_bi, tX9_expression_407, hd1.1]
  try simp only [k_lit, k_nN, k_ofN]
  simp (disch := omega) only [i_leT, i_leF, i_ltT, i_ltF, i_eqT, i_eqF, i_okT, i_n1, i_n2, i_n3, i_n4, i_n5, i_n6, i_n7, i_n8, k_cl, if_true, if_false]
  rw [tX9_expression_423]
  try simp only [k_lit, k_nN, k_ofN]
  rw [e1, b_bv, tX9_expression_428]
  try simp only [k_lit, k_nN, k_ofN]
  rw [e2, b_bv]
