/-! ===== the whole text, by both ===== -/
def XAr (n : Nat) (A : Option aRes) (s : aMem) (R : Sum DR (Nat × Nat)) : Prop := match R with
  | .inl D => ∃ u, A = some (.inl (some (.int (nI 0))), u) ∧ frY s u ∧ XDr D.1 D.2.1 D.2.2.1 D.2.2.2.1 D.2.2.2.2.1 D.2.2.2.2.2.1 u ∧ (u.1 4 1 = nI D.2.2.2.2.2.2.length ∧ ∀ j q, D.2.2.2.2.2.2[j]? = some q → u.1 5 j = xst q) ∧ D.2.2.2.2.2.2.length ≤ 700
  | .inr (k, p) => ∃ u, A = some (.inl (some (.int (nI k))), u) ∧ frY s u ∧ XB2 k p u
def MAr (B : Nat → Nat) (n : Nat) (A : Option aRes) (t : aMem) (R : Sum DR (Nat × Nat)) : Prop := match R with
  | .inl D => ∃ v, A = a_run none shp pX9_library 122 [some (.ref 43), none, none] [.int (nI 1)] v ∧ frL t v ∧ MD B n n D v
  | .inr (k, p) => ∃ v, A = a_run none shp pX9_library 122 [some (.ref 43), none, none] [.int (nI 0)] v ∧ frL t v ∧ MEd n k p v
theorem rl_end {i : Nat} {s : aMem} (hi : i < 1000) : a_run none shp pX3_readAll 29 [some (.ref 21), none, some (.int (nI 0)), some (.int (nI i))] [] s = some (.inl (some (.int (s.1 21 2))), s) := by
  rw [tX3_readAll_29]
  try simp only [k_lit, k_nN, k_ofN]
  by_cases e : 700 ≤ i
  · simp (disch := omega) only [i_leT, i_leF, i_ltT, i_ltF, i_eqT, i_eqF, i_okT, i_n1, i_n2, i_n3, i_n4, i_n5, i_n6, i_n7, i_n8, k_cl, if_true, if_false]
  · simp (disch := omega) only [i_leT, i_leF, i_ltT, i_ltF, i_eqT, i_eqF, i_okT, i_n1, i_n2, i_n3, i_n4, i_n5, i_n6, i_n7, i_n8, k_cl, if_true, if_false]
theorem ml_97F {n k p : Nat} {t : aMem} (h : MEd n k p t) : a_run none shp pX9_library 97 [some (.ref 43), none, none] [] t = a_run none shp pX9_library 122 [some (.ref 43), none, none] [.int (nI 0)] t := by
  rw [tX9_library_97, MEd_F h, b_bi, tX9_library_101]
  try simp only [k_lit, k_nN, k_ofN]
  simp (disch := omega) only [i_leT, i_leF, i_ltT, i_ltF, i_eqT, i_eqF, i_okT, i_n1, i_n2, i_n3, i_n4, i_n5, i_n6, i_n7, i_n8, k_cl, if_true, if_false]
  rw [MEd_F h, b_bi]
theorem ml_97E {B : Nat → Nat} {n f : Nat} {t : aMem} (h : MG B n f t) (hk : kd B n f = 0) : a_run none shp pX9_library 97 [some (.ref 43), none, none] [] t = a_run none shp pX9_library 122 [some (.ref 43), none, none] [.int (nI 1)] t := by
  rw [tX9_library_97, sX9_isGoodT h.2, b_bi, tX9_library_101]
  try simp only [k_lit, k_nN, k_ofN]
  simp (disch := omega) only [i_leT, i_leF, i_ltT, i_ltF, i_eqT, i_eqF, i_okT, i_n1, i_n2, i_n3, i_n4, i_n5, i_n6, i_n7, i_n8, k_cl, if_true, if_false]
  rw [if_pos ((MG_16 h (by omega)).mpr hk), sX9_isGoodT h.2, b_bi]
theorem ml_97L {B : Nat → Nat} {n f : Nat} {t : aMem} (h : MG B n f t) (hk : kd B n f ≠ 0) : a_run none shp pX9_library 97 [some (.ref 43), none, none] [] t = a_bv (fX9_line [.ref 43] t) (fun s5 => a_run none shp pX9_library 97 [some (.ref 43), none, none] [] s5) none (fun x s5 => some (.inr x, s5)) := by
  rw [tX9_library_97, sX9_isGoodT h.2, b_bi, tX9_library_101]
  try simp only [k_lit, k_nN, k_ofN]
  simp (disch := omega) only [i_leT, i_leF, i_ltT, i_ltF, i_eqT, i_eqF, i_okT, i_n1, i_n2, i_n3, i_n4, i_n5, i_n6, i_n7, i_n8, k_cl, if_true, if_false]
  rw [if_neg (by rw [MG_16 h (by omega)]; exact hk)]
theorem kd_0 {B : Nat → Nat} {n f : Nat} (h : n ≤ f) : kd B n f = 0 := by
  simp [kd, h]
theorem kd_0' {B : Nat → Nat} {n f : Nat} (h : kd B n f = 0) : n ≤ f := by
  apply Classical.byContradiction
  intro q
  unfold kd at h
  rw [if_neg q] at h
  by_cases c : bL (B f) = true
  · rw [if_pos c] at h; omega
  · rw [if_neg c] at h
    by_cases c2 : bD (B f) = true
    · rw [if_pos c2] at h; omega
    · rw [if_neg c2] at h; omega
theorem loop_j {B : Nat → Nat} {n : Nat} (hn : n ≤ 700) (hB : ∀ j, j < n → B j < 256) : ∀ m f i D s, n - f ≤ m → XD B n f D s → dOk D → i ≤ f → ∃ R : Sum DR (Nat × Nat), XAr n (a_run none shp pX3_readAll 29 [some (.ref 21), none, some (.int (nI 1)), some (.int (nI i))] [] s) s R ∧ (∀ D', R = .inl D' → dOk D') ∧ ∀ t, MD B n f D t → MAr B n (a_run none shp pX9_library 97 [some (.ref 43), none, none] [] t) t R := by
  have fin : ∀ f i D s, XD B n f D s → dOk D → i ≤ f → kd B n f = 0 → ∃ R : Sum DR (Nat × Nat), XAr n (a_run none shp pX3_readAll 29 [some (.ref 21), none, some (.int (nI 1)), some (.int (nI i))] [] s) s R ∧ (∀ D', R = .inl D' → dOk D') ∧ ∀ t, MD B n f D t → MAr B n (a_run none shp pX9_library 97 [some (.ref 43), none, none] [] t) t R := by
    intro f i D s h hD hi hk
    have hf := h.1.1.1
    have hfe : f = n := by
      have := kd_0' hk
      omega
    refine ⟨.inl D, ⟨s, ?_, fr_rfl s, h.2.1, h.1.2, h.2.2⟩, (fun D' q => by cases q; exact hD), fun t ht => ⟨t, ml_97E ht.1 hk, fr_rfl t, by rw [← hfe] at ht ⊢; exact ht⟩⟩
    rw [tX3_readAll_29, h.2.1.1.1, h.1.1.2.1, hk]
    try simp only [k_lit, k_nN, k_ofN]
    by_cases e : 700 ≤ i
    · simp (disch := omega) only [i_leT, i_leF, i_ltT, i_ltF, i_eqT, i_eqF, i_okT, i_n1, i_n2, i_n3, i_n4, i_n5, i_n6, i_n7, i_n8, k_cl, if_true, if_false]
    · simp (disch := omega) only [i_leT, i_leF, i_ltT, i_ltF, i_eqT, i_eqF, i_okT, i_n1, i_n2, i_n3, i_n4, i_n5, i_n6, i_n7, i_n8, k_cl, if_true, if_false]
  intro m
  induction m with
  | zero =>
    intro f i D s hm h hD hi
    exact fin f i D s h hD hi (kd_0 (by omega))
  | succ m ih =>
    intro f i D s hm h hD hi
    have hf := h.1.1.1
    by_cases hk : kd B n f = 0
    · exact fin f i D s h hD hi hk
    · have hlt := kd_lt (B := B) (n := n) (f := f) hk
      have hkl := kd_le B n f
      obtain ⟨r, X, M, P⟩ := line_j (i := i) hn hB h hD
      have start : a_run none shp pX3_readAll 29 [some (.ref 21), none, some (.int (nI 1)), some (.int (nI i))] [] s = XLN i s := by
        rw [tX3_readAll_29, h.1.1.2.1]
        try simp only [k_lit, k_nN, k_ofN]
        simp (disch := omega) only [i_leT, i_leF, i_ltT, i_ltF, i_eqT, i_eqF, i_okT, i_n1, i_n2, i_n3, i_n4, i_n5, i_n6, i_n7, i_n8, k_cl, if_true, if_false]
        rfl
      rcases r with ⟨g, D'⟩ | ⟨k, p⟩
      · obtain ⟨u, e1, f1, m1⟩ := X
        obtain ⟨p1, p2⟩ := P g D' rfl
        obtain ⟨R, XR, hR, MR⟩ := ih g (i + 1) D' u (by omega) m1 p2 (by omega)
        refine ⟨R, ?_, hR, fun t ht => ?_⟩
        · rw [start, e1]
          rcases R with D2 | ⟨k, p⟩
          · obtain ⟨v, q1, q2, q3⟩ := XR
            exact ⟨v, q1, frY_tr f1 q2, q3⟩
          · obtain ⟨v, q1, q2, q3⟩ := XR
            exact ⟨v, q1, frY_tr f1 q2, q3⟩
        · obtain ⟨v, q1, q2, q3⟩ := M t ht
          rw [ml_97L ht.1 hk, q1, b_bv]
          have A := MR v q3
          rcases R with D2 | ⟨k, p⟩
          · obtain ⟨w, w1, w2, w3⟩ := A
            exact ⟨w, w1, frL_tr q2 w2, w3⟩
          · obtain ⟨w, w1, w2, w3⟩ := A
            exact ⟨w, w1, frL_tr q2 w2, w3⟩
      · obtain ⟨u, e1, f1, m1⟩ := X
        refine ⟨.inr (k, p), ⟨u, ?_, f1, m1⟩, (fun D' q => by cases q), fun t ht => ?_⟩
        · rw [start, e1, rl_end (by omega), m1.1]
        · obtain ⟨v, q1, q2, q3⟩ := M t ht
          refine ⟨v, ?_, q2, q3⟩
          rw [ml_97L ht.1 hk, q1, b_bv, ml_97F q3]
