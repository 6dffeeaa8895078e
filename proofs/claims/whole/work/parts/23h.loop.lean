/-! ===== the lines, by both ===== -/
def dOk (D : DR) : Prop := D.1 ≤ 12 ∧ D.2.1 ≤ 5 ∧ D.2.2.1 ≤ 1 ∧ wOk D.1 D.2.1 D.2.2.2.2.2.1 ∧ (∀ q, q ∈ D.2.2.2.2.2.2 → stOk q) ∧ sfH D.2.2.2.2.2.2 0 1
def lOk (n f : Nat) (r : LR) : Prop := match r with
  | .inl (g, D) => f ≤ g ∧ dOk D
  | .inr _ => True
theorem amc_0 {B : Nat → Nat} {n f many : Nat} (h : amc B n f many = 0) : nm B n f < many := by
  unfold amc at h
  by_cases c2 : kd B n f ≠ 2
  · rw [if_pos c2] at h; omega
  · rw [if_neg c2] at h
    by_cases cl : ¬ ed B n f - f ≤ 4
    · rw [if_pos cl] at h; omega
    · rw [if_neg cl] at h
      by_cases ca : nm B n f < many
      · exact ca
      · rw [if_neg ca] at h; omega
theorem phr_le {B : Nat → Nat} {n f k v g : Nat} (hf : f ≤ n) (h : phr B n f k = .inl (v, g)) : f ≤ g ∧ g ≤ n := by
  have h1 := nx_le (B := B) (n := n) (f := f) hf
  have h2 := nx_le (B := B) (n := n) (f := nx B n f) h1.2.1
  unfold phr at h
  by_cases c : isW B n f k = true
  · rw [if_pos c] at h
    by_cases c2 : nmc B n (nx B n f) 0 = 0
    · rw [if_pos c2] at h
      cases h
      omega
    · rw [if_neg c2] at h
      cases h
  · rw [if_neg c] at h
    cases h
    omega
theorem owr_le {B : Nat → Nat} {n f nr g : Nat} {o : Int32} (hf : f ≤ n) (h : owr B n f nr = .inl (o, g)) : f ≤ g ∧ g ≤ n := by
  have h1 := nx_le (B := B) (n := n) (f := f) hf
  have h2 := nx_le (B := B) (n := n) (f := nx B n f) h1.2.1
  unfold owr at h
  by_cases c : isW B n f 8 = true
  · rw [if_pos c] at h
    by_cases c2 : amc B n (nx B n f) nr = 0
    · rw [if_pos c2] at h
      cases h
      omega
    · rw [if_neg c2] at h
      cases h
  · rw [if_neg c] at h
    cases h
    omega
theorem ok_rdr {B : Nat → Nat} {n f : Nat} {D : DR} (hf : f ≤ n) (h : dOk D) : lOk n f (rdr B n f D) := by
  obtain ⟨nb, nr, hl, pt, ow, wt, c⟩ := D
  obtain ⟨h1, h2, h3, h4, h5, h6⟩ := h
  have hx := nx_le (B := B) (n := n) (f := f) hf
  unfold rdr
  by_cases e : nr < 5
  · rw [if_pos e]
    refine ⟨hx.1, h1, by simp only; omega, h3, fun r hr => ?_, h5, h6⟩
    by_cases e2 : r = nr
    · left
      simp only
      rw [e2, upI_s]
    · simp only at hr ⊢
      rw [upI_n e2]
      exact h4 r (by simp only; omega)
  · rw [if_neg e]
    trivial
theorem ok_wnr {B : Nat → Nat} {n f : Nat} {D : DR} (hf : f ≤ n) (h : dOk D) : lOk n f (wnr B n f D) := by
  obtain ⟨nb, nr, hl, pt, ow, wt, c⟩ := D
  obtain ⟨h1, h2, h3, h4, h5, h6⟩ := h
  have hx := nx_le (B := B) (n := n) (f := f) hf
  have hx2 := nx_le (B := B) (n := n) (f := nx B n f) hx.2.1
  have hx3 := nx_le (B := B) (n := n) (f := nx B n (nx B n f)) hx2.2.1
  unfold wnr
  simp only
  by_cases e1 : amc B n (nx B n f) nr ≠ 0
  · rw [if_pos e1]; trivial
  · rw [if_neg e1]
    by_cases e2 : wt (nm B n (nx B n f)) ≠ nN
    · rw [if_pos e2]; trivial
    · rw [if_neg e2]
      by_cases e3 : amc B n (nx B n (nx B n f)) nb ≠ 0
      · rw [if_pos e3]; trivial
      · rw [if_neg e3]
        refine ⟨by omega, h1, h2, h3, fun r hr => ?_, h5, h6⟩
        simp only at hr ⊢
        by_cases e4 : r = nm B n (nx B n f)
        · right
          refine ⟨nm B n (nx B n (nx B n f)), amc_0 (by omega), ?_⟩
          rw [e4, upI_s]
        · rw [upI_n e4]
          exact h4 r hr
theorem ok_bkr {B : Nat → Nat} {n f : Nat} {D : DR} (hf : f ≤ n) (h : dOk D) : lOk n f (bkr B n f D) := by
  obtain ⟨nb, nr, hl, pt, ow, wt, c⟩ := D
  obtain ⟨h1, h2, h3, h4, h5, h6⟩ := h
  have hx := nx_le (B := B) (n := n) (f := f) hf
  have hx2 := nx_le (B := B) (n := n) (f := nx B n f) hx.2.1
  unfold bkr
  simp only
  by_cases e1 : 12 ≤ nb
  · rw [if_pos e1]; trivial
  · rw [if_neg e1]
    by_cases e2 : nmc B n (nx B n f) 1 ≠ 0
    · rw [if_pos e2]; trivial
    · rw [if_neg e2]
      rcases r1 : phr B n (nx B n (nx B n f)) 1 with ⟨v1, g1⟩ | e
      · simp only
        have l1 := phr_le hx2.2.1 r1
        rcases r2 : phr B n g1 2 with ⟨v2, g2⟩ | e
        · simp only
          have l2 := phr_le l1.2 r2
          rcases r3 : phr B n g2 3 with ⟨v3, g3⟩ | e
          · simp only
            have l3 := phr_le l2.2 r3
            rcases r4 : owr B n g3 nr with ⟨o, g4⟩ | e
            · have l4 := owr_le l3.2 r4
              refine ⟨by omega, by simp only; omega, h2, h3, fun r hr => ?_, h5, h6⟩
              rcases h4 r hr with c | ⟨b, hb, c⟩
              · exact .inl c
              · exact .inr ⟨b, by simp only at hb ⊢; omega, c⟩
            · trivial
          · trivial
        · trivial
      · trivial
theorem ok_lwr {B : Nat → Nat} {n f : Nat} {D : DR} {r : PR} (hf : f ≤ n) (h : dOk D) (hQ : Ql B n 0 0 (nx B n f) r) : lOk n f (lwr D r) := by
  obtain ⟨nb, nr, hl, pt, ow, wt, c⟩ := D
  obtain ⟨h1, h2, h3, h4, h5, h6⟩ := h
  have hx := nx_le (B := B) (n := n) (f := f) hf
  rcases r with ⟨g, c'⟩ | e
  · obtain ⟨a1, a2, a3, a4, a5⟩ := hQ.1
    refine ⟨by omega, h1, h2, Nat.le_refl 1, h4, a3, ?_⟩
    have := a4 0 (by decide)
    exact this
  · trivial
theorem ok_semi {B : Nat → Nat} {n f : Nat} {r : LR} (hr : ∀ g D, r = .inl (g, D) → g ≤ n) (h : lOk n f r) : ∀ g D, semi B n r = .inl (g, D) → f < g ∧ dOk D := by
  intro g D e
  rcases r with ⟨g0, D0⟩ | e0
  · simp only [semi] at e
    by_cases c : sgn B n g0 59 = true
    · rw [if_pos c] at e
      cases e
      have hlt := kd_lt (B := B) (n := n) (f := g0) (by rw [(sg_nW c).2.2.1]; omega)
      have := nx_le (B := B) (n := n) (f := g0) (by omega)
      have h1 := h.1
      exact ⟨by omega, h.2⟩
    · rw [if_neg c] at e
      cases e
  · simp only [semi] at e
    cases e
/-- a line of the reading, with its end -/
def XNr (B : Nat → Nat) (n i : Nat) (A : Option aRes) (s : aMem) (r : LR) : Prop := match r with
  | .inl (g, D) => ∃ u, A = a_run none shp pX3_readAll 29 [some (.ref 21), none, some (.int (nI 1)), some (.int (nI (i + 1)))] [] u ∧ frY s u ∧ XD B n g D u
  | .inr (k, p) => ∃ u, A = a_run none shp pX3_readAll 29 [some (.ref 21), none, some (.int (nI 0)), some (.int (nI (i + 1)))] [] u ∧ frY s u ∧ XB2 k p u
theorem XN_of {B : Nat → Nat} {n i : Nat} {A : Option aRes} {s : aMem} {r : LR} {K : Int32 → aMem → Option aRes} (hn : n ≤ 700) (hB : ∀ j, j < n → B j < 256) (h : XLr B n A s r) (hK0 : ∀ t, K (nI 0) t = a_run none shp pX3_readAll 29 [some (.ref 21), none, some (.int (nI 0)), some (.int (nI (i + 1)))] [] t) (hK1 : ∀ t, K (nI 1) t = a_bi (fX3_needSign [.ref 21, .int (nI 59)] t) (fun r2 s1 => a_run none shp pX3_readAll 152 [some (.ref 21), none, none, some (.int (nI i))] [.int r2] s1) none (fun x s1 => some (.inr x, s1))) : XNr B n i (a_bi A K none (fun x s1 => some (.inr x, s1))) s (semi B n r) := by
  rcases r with ⟨g, D⟩ | ⟨k, p⟩
  · obtain ⟨u, e1, f1, m1⟩ := h
    have X := sX3_needSign (c := 59) hn hB m1.1 m1.2.2 (by omega)
    rw [e1, b_bi, hK1]
    simp only [semi]
    cases e : sgn B n g 59
    · rw [if_neg (by rw [e]; decide)] at X
      rw [if_neg (by decide)]
      obtain ⟨v, e2, f2, m2⟩ := X
      refine ⟨v, ?_, frY_tr f1 (frY_b f2), m2.1, m2.2.1⟩
      rw [e2, b_bi, tX3_readAll_152]
      try simp only [k_lit, k_nN, k_ofN, nI_add]
      simp (disch := omega) only [i_leT, i_leF, i_ltT, i_ltF, i_eqT, i_eqF, i_okT, i_n1, i_n2, i_n3, i_n4, i_n5, i_n6, i_n7, i_n8, k_cl, if_true, if_false]
    · rw [if_pos e] at X
      rw [if_pos (by rfl)]
      obtain ⟨v, e2, f2, m2⟩ := X
      rw [List.append_nil] at m2
      refine ⟨v, ?_, frY_tr f1 (frY_X f2), m2, XDr_X m1.2.1 f2, m1.2.2⟩
      rw [e2, b_bi, tX3_readAll_152]
      try simp only [k_lit, k_nN, k_ofN, nI_add]
      simp (disch := omega) only [i_leT, i_leF, i_ltT, i_ltF, i_eqT, i_eqF, i_okT, i_n1, i_n2, i_n3, i_n4, i_n5, i_n6, i_n7, i_n8, k_cl, if_true, if_false]
  · obtain ⟨u, e1, f1, m1⟩ := h
    refine ⟨u, ?_, f1, m1⟩
    rw [e1, b_bi, hK0]
noncomputable def XLN (i : Nat) (s : aMem) : Option aRes := a_bi (fX5_isWord [.ref 1, .ref 1000] s) (fun r2 s1 => a_run none shp pX3_readAll 59 [some (.ref 21), none, some (.int (nI 1)), some (.int (nI i))] [.int r2] s1) none (fun x s1 => some (.inr x, s1))
theorem XLr_le {B : Nat → Nat} {n : Nat} {A : Option aRes} {s : aMem} {r : LR} (h : XLr B n A s r) : ∀ g D, r = .inl (g, D) → g ≤ n := by
  intro g D e
  subst e
  obtain ⟨u, -, -, m⟩ := h
  exact m.1.1.1
theorem line_j {B : Nat → Nat} {n f i : Nat} {D : DR} {s : aMem} (hn : n ≤ 700) (hB : ∀ j, j < n → B j < 256) (h : XD B n f D s) (hD : dOk D) : ∃ r, XNr B n i (XLN i s) s r ∧ (∀ t, MD B n f D t → MLr B n (fX9_line [.ref 43] t) t r) ∧ ∀ g D', r = .inl (g, D') → f < g ∧ dOk D' := by
  have hf := h.1.1.1
  obtain ⟨d1, d2, d3, -⟩ := id hD
  have w0 : fX5_isWord [.ref 1, .ref 1000] s = some (.inl (some (.int (nI (isW B n f 4).toNat))), s) := xw0 hn hB h.1.1
  have w1 : fX5_isWord [.ref 1, .ref 1001] s = some (.inl (some (.int (nI (isW B n f 5).toNat))), s) := xw1 hn hB h.1.1
  have w2 : fX5_isWord [.ref 1, .ref 1002] s = some (.inl (some (.int (nI (isW B n f 6).toNat))), s) := xw2 hn hB h.1.1
  have w3 : fX5_isWord [.ref 1, .ref 1003] s = some (.inl (some (.int (nI (isW B n f 7).toNat))), s) := xw3 hn hB h.1.1
  unfold XLN
  rw [w0, b_bi, tX3_readAll_59]
  try simp only [k_lit, k_nN, k_ofN]
  cases e4 : isW B n f 4
  · rw [Bool.toNat_false]
    simp (disch := omega) only [i_leT, i_leF, i_ltT, i_ltF, i_eqT, i_eqF, i_okT, i_n1, i_n2, i_n3, i_n4, i_n5, i_n6, i_n7, i_n8, k_cl, if_true, if_false]
    rw [w1, b_bi, tX3_readAll_81]
    try simp only [k_lit, k_nN, k_ofN]
    cases e5 : isW B n f 5
    · rw [Bool.toNat_false]
      simp (disch := omega) only [i_leT, i_leF, i_ltT, i_ltF, i_eqT, i_eqF, i_okT, i_n1, i_n2, i_n3, i_n4, i_n5, i_n6, i_n7, i_n8, k_cl, if_true, if_false]
      rw [w2, b_bi, tX3_readAll_103]
      try simp only [k_lit, k_nN, k_ofN]
      cases e6 : isW B n f 6
      · rw [Bool.toNat_false]
        simp (disch := omega) only [i_leT, i_leF, i_ltT, i_ltF, i_eqT, i_eqF, i_okT, i_n1, i_n2, i_n3, i_n4, i_n5, i_n6, i_n7, i_n8, k_cl, if_true, if_false]
        rw [w3, b_bi, tX3_readAll_125]
        try simp only [k_lit, k_nN, k_ofN]
        cases e7 : isW B n f 7
        · rw [Bool.toNat_false]
          simp (disch := omega) only [i_leT, i_leF, i_ltT, i_ltF, i_eqT, i_eqF, i_okT, i_n1, i_n2, i_n3, i_n4, i_n5, i_n6, i_n7, i_n8, k_cl, if_true, if_false]
          obtain ⟨u, e1, f1, m1⟩ := XE_ref (k := 1) h.1 h.2.2
          refine ⟨.inr (1, f), ⟨u, ?_, frY_b f1, m1.1, m1.2.1⟩, fun t ht => ml_bad hn ht e4 e5 e6 e7, fun g D' q => by cases q⟩
          rw [e1, b_bi, tX3_readAll_143]
          try simp only [k_lit, k_nN, k_ofN, nI_add]
          simp (disch := omega) only [i_leT, i_leF, i_ltT, i_ltF, i_eqT, i_eqF, i_okT, i_n1, i_n2, i_n3, i_n4, i_n5, i_n6, i_n7, i_n8, k_cl, if_true, if_false]
        · rw [Bool.toNat_true]
          simp (disch := omega) only [i_leT, i_leF, i_ltT, i_ltF, i_eqT, i_eqF, i_okT, i_n1, i_n2, i_n3, i_n4, i_n5, i_n6, i_n7, i_n8, k_cl, if_true, if_false]
          by_cases hl : D.2.2.1 = 0
          · obtain ⟨r, Q, X⟩ := xl_law hn hB h hl
            refine ⟨_, XN_of (i := i) hn hB X (fun t => ?_) (fun t => ?_), fun t ht => ml_law hn hB ht e7 hl Q, ok_semi (XLr_le X) (ok_lwr hf hD Q)⟩
            · rw [tX3_readAll_132]
              try simp only [k_lit, k_nN, k_ofN, nI_add]
              simp (disch := omega) only [i_leT, i_leF, i_ltT, i_ltF, i_eqT, i_eqF, i_okT, i_n1, i_n2, i_n3, i_n4, i_n5, i_n6, i_n7, i_n8, k_cl, if_true, if_false]
            · rw [tX3_readAll_132]
              try simp only [k_lit, k_nN, k_ofN]
              simp (disch := omega) only [i_leT, i_leF, i_ltT, i_ltF, i_eqT, i_eqF, i_okT, i_n1, i_n2, i_n3, i_n4, i_n5, i_n6, i_n7, i_n8, k_cl, if_true, if_false]
          · have hl1 : D.2.2.1 = 1 := by omega
            have X := xl_law2 h hl1
            refine ⟨.inr (4, f), XN_of (i := i) (r := .inr (4, f)) hn hB X (fun t => ?_) (fun t => ?_), fun t ht => ml_law2 hn ht e7 hl1, fun g D' q => by cases q⟩
            · rw [tX3_readAll_132]
              try simp only [k_lit, k_nN, k_ofN, nI_add]
              simp (disch := omega) only [i_leT, i_leF, i_ltT, i_ltF, i_eqT, i_eqF, i_okT, i_n1, i_n2, i_n3, i_n4, i_n5, i_n6, i_n7, i_n8, k_cl, if_true, if_false]
            · rw [tX3_readAll_132]
              try simp only [k_lit, k_nN, k_ofN]
              simp (disch := omega) only [i_leT, i_leF, i_ltT, i_ltF, i_eqT, i_eqF, i_okT, i_n1, i_n2, i_n3, i_n4, i_n5, i_n6, i_n7, i_n8, k_cl, if_true, if_false]
      · rw [Bool.toNat_true]
        simp (disch := omega) only [i_leT, i_leF, i_ltT, i_ltF, i_eqT, i_eqF, i_okT, i_n1, i_n2, i_n3, i_n4, i_n5, i_n6, i_n7, i_n8, k_cl, if_true, if_false]
        have X := xl_wants hn hB d2 d1 h
        refine ⟨_, XN_of (i := i) hn hB X (fun t => ?_) (fun t => ?_), fun t ht => ml_wants hn hB d2 d1 ht e6, ok_semi (XLr_le X) (ok_wnr hf hD)⟩
        · rw [tX3_readAll_110]
          try simp only [k_lit, k_nN, k_ofN, nI_add]
          simp (disch := omega) only [i_leT, i_leF, i_ltT, i_ltF, i_eqT, i_eqF, i_okT, i_n1, i_n2, i_n3, i_n4, i_n5, i_n6, i_n7, i_n8, k_cl, if_true, if_false]
        · rw [tX3_readAll_110]
          try simp only [k_lit, k_nN, k_ofN]
          simp (disch := omega) only [i_leT, i_leF, i_ltT, i_ltF, i_eqT, i_eqF, i_okT, i_n1, i_n2, i_n3, i_n4, i_n5, i_n6, i_n7, i_n8, k_cl, if_true, if_false]
    · rw [Bool.toNat_true]
      simp (disch := omega) only [i_leT, i_leF, i_ltT, i_ltF, i_eqT, i_eqF, i_okT, i_n1, i_n2, i_n3, i_n4, i_n5, i_n6, i_n7, i_n8, k_cl, if_true, if_false]
      have X := xl_book hn hB d2 d1 h
      refine ⟨_, XN_of (i := i) hn hB X (fun t => ?_) (fun t => ?_), fun t ht => ml_book hn hB d2 d1 ht e5, ok_semi (XLr_le X) (ok_bkr hf hD)⟩
      · rw [tX3_readAll_88]
        try simp only [k_lit, k_nN, k_ofN, nI_add]
        simp (disch := omega) only [i_leT, i_leF, i_ltT, i_ltF, i_eqT, i_eqF, i_okT, i_n1, i_n2, i_n3, i_n4, i_n5, i_n6, i_n7, i_n8, k_cl, if_true, if_false]
      · rw [tX3_readAll_88]
        try simp only [k_lit, k_nN, k_ofN]
        simp (disch := omega) only [i_leT, i_leF, i_ltT, i_ltF, i_eqT, i_eqF, i_okT, i_n1, i_n2, i_n3, i_n4, i_n5, i_n6, i_n7, i_n8, k_cl, if_true, if_false]
  · rw [Bool.toNat_true]
    simp (disch := omega) only [i_leT, i_leF, i_ltT, i_ltF, i_eqT, i_eqF, i_okT, i_n1, i_n2, i_n3, i_n4, i_n5, i_n6, i_n7, i_n8, k_cl, if_true, if_false]
    have X := xl_reader hn hB d2 h
    refine ⟨_, XN_of (i := i) hn hB X (fun t => ?_) (fun t => ?_), fun t ht => ml_reader hn hB d2 ht e4, ok_semi (XLr_le X) (ok_rdr hf hD)⟩
    · rw [tX3_readAll_66]
      try simp only [k_lit, k_nN, k_ofN, nI_add]
      simp (disch := omega) only [i_leT, i_leF, i_ltT, i_ltF, i_eqT, i_eqF, i_okT, i_n1, i_n2, i_n3, i_n4, i_n5, i_n6, i_n7, i_n8, k_cl, if_true, if_false]
    · rw [tX3_readAll_66]
      try simp only [k_lit, k_nN, k_ofN]
      simp (disch := omega) only [i_leT, i_leF, i_ltT, i_ltF, i_eqT, i_eqF, i_okT, i_n1, i_n2, i_n3, i_n4, i_n5, i_n6, i_n7, i_n8, k_cl, if_true, if_false]
