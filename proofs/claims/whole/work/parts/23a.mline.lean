/-! ===== the model's line: numbers ===== -/
def nmc (B : Nat → Nat) (n f least : Nat) : Nat := if kd B n f ≠ 2 then 1 else if ed B n f - f ≤ 4 ∧ least ≤ nm B n f ∧ nm B n f ≤ 99 then 0 else 2
def amc (B : Nat → Nat) (n f many : Nat) : Nat := if kd B n f ≠ 2 then 1 else if ¬ ed B n f - f ≤ 4 then 2 else if nm B n f < many then 0 else 3
def phr (B : Nat → Nat) (n f k : Nat) : Sum (Nat × Nat) (Nat × Nat) := if isW B n f k = true then (if nmc B n (nx B n f) 0 = 0 then .inl (nm B n (nx B n f), nx B n (nx B n f)) else .inr (nmc B n (nx B n f) 0, nx B n f)) else .inl (0, f)
def owr (B : Nat → Nat) (n f nr : Nat) : Sum (Int32 × Nat) (Nat × Nat) := if isW B n f 8 = true then (if amc B n (nx B n f) nr = 0 then .inl (nI (nm B n (nx B n f)), nx B n (nx B n f)) else .inr (amc B n (nx B n f) nr, nx B n f)) else .inl (nN, f)
def frGl : List (Nat × Nat) := [(43, 15), (43, 16), (43, 17), (43, 18), (43, 19), (43, 20), (43, 21)]
def frW (s u : aMem) : Prop := fr [] [(43, 11), (43, 12), (43, 15), (43, 16), (43, 17), (43, 18), (43, 19), (43, 20), (43, 21)] s u
theorem frW_tr {s t u : aMem} (h : frW s t) (h2 : frW t u) : frW s u := fr_trans h h2
theorem frW_g {s u : aMem} (h : fr [] frGl s u) : frW s u := fr_mono h (by simp) (fun q hq => .inr (List.mem_append_right [(43, 11), (43, 12)] hq))
theorem frW_w {s u : aMem} (h : fr [] [(43, 11), (43, 12)] s u) : frW s u := fr_mono h (by simp) (fun q hq => .inr (List.mem_append_left frGl hq))
theorem sX9_isSignA {s : aMem} {c : Nat} : ∃ b, fX9_isSign [.ref 43, .int (nI c)] s = some (.inl (some (.int (nI b))), s) := by
  rw [tX9_isSign]
  try simp only [k_lit, k_nN, k_ofN]
  by_cases e : s.1 43 16 = nI 3
  · rw [if_pos e]
    by_cases e2 : s.1 43 20 = nI c
    · rw [if_pos e2]; exact ⟨1, rfl⟩
    · rw [if_neg e2]; exact ⟨0, rfl⟩
  · rw [if_neg e]; exact ⟨0, rfl⟩
def MG (B : Nat → Nat) (n f : Nat) (s : aMem) : Prop := MT B n f s ∧ s.1 43 11 = nI 0
theorem MG_goes {B : Nat → Nat} {n f : Nat} {s : aMem} (hn : n ≤ 700) (hB : ∀ j, j < n → B j < 256) (h : MG B n f s) : ∃ u, fX9_goes [.ref 43] s = some (.inl none, u) ∧ fr [] frGl s u ∧ MG B n (nx B n f) u := by
  obtain ⟨hT, h11⟩ := h
  obtain ⟨hf, h14, h15, -, -, -, -, -, -, hb⟩ := id hT
  obtain ⟨u, hu, fu, tu⟩ := sX9_goes hn hB (ed_le hf).2.1 h15 h14 hb
  exact ⟨u, hu, fu, tu, by rw [fu.1 43 11 (by simp) (by decide)]; exact h11⟩
theorem MG_wrong {B : Nat → Nat} {n f k : Nat} {s : aMem} (h : MG B n f s) (hk : 0 < k ∧ k < 10) : ∃ u, fX9_wrong [.ref 43, .int (nI k)] s = some (.inl none, u) ∧ fr [] [(43, 11), (43, 12)] s u ∧ MEd n k f u := by
  obtain ⟨hT, h11⟩ := h
  have hf : fr [] [(43, 11), (43, 12)] s (a_si (a_si s 43 11 (nI k)) 43 12 (s.1 43 17)) := fr_si (fr_si (fr_rfl s) (by simp)) (by simp)
  refine ⟨_, sX9_wrong h11, hf, by simp [m_si], ?_, ⟨hk.1, hk.2, hT.1⟩⟩
  rw [← hT.2.2.2.2.1]
  simp [m_si]
theorem MEd_F {n k p : Nat} {s : aMem} (h : MEd n k p s) : fX9_isGood [.ref 43] s = some (.inl (some (.int (nI 0))), s) := sX9_isGoodF h.1 h.2.2.1 h.2.2.2.1
theorem MEd_fr {n k p : Nat} {s t : aMem} {K : List Nat} {F : List (Nat × Nat)} (h : MEd n k p s) (hf : fr K F s t) (h1 : (K.all fun k => k != 43) = true) (h2 : (F.all fun q => !((q.1 == 43) && (q.2 == 11 || q.2 == 12))) = true) : MEd n k p t := by
  have kk : 43 ∉ K := by
    intro c
    have := List.all_eq_true.mp h1 _ c
    simp at this
  have ff : ∀ j, j = 11 ∨ j = 12 → (43, j) ∉ F := by
    intro j hj c
    have := List.all_eq_true.mp h2 _ c
    rcases hj with e | e <;> subst e <;> simp at this
  exact ⟨by rw [hf.1 43 11 kk (ff 11 (by simp))]; exact h.1, by rw [hf.1 43 12 kk (ff 12 (by simp))]; exact h.2.1, h.2.2⟩
theorem sX9_numberB {n k p a b : Nat} {s : aMem} (h : MEd n k p s) : fX9_number [.ref 43, .int (nI a), .int (nI b)] s = some (.inl (some (.int (nI 0))), s) := by
  rw [tX9_number, MEd_F h, b_bi, tX9_number_4]
  try simp only [k_lit, k_nN, k_ofN]
  simp (disch := omega) only [i_leT, i_leF, i_ltT, i_ltF, i_eqT, i_eqF, i_okT, i_n1, i_n2, i_n3, i_n4, i_n5, i_n6, i_n7, i_n8, k_cl, if_true, if_false]
theorem sX9_perhapsB {n k p a : Nat} {s : aMem} (h : MEd n k p s) : fX9_perhaps [.ref 43, .int (nI a)] s = some (.inl (some (.int (nI 0))), s) := by
  rw [tX9_perhaps, MEd_F h, b_bi, tX9_perhaps_4]
  try simp only [k_lit, k_nN, k_ofN]
  simp (disch := omega) only [i_leT, i_leF, i_ltT, i_ltF, i_eqT, i_eqF, i_okT, i_n1, i_n2, i_n3, i_n4, i_n5, i_n6, i_n7, i_n8, k_cl, if_true, if_false]
theorem sX9_amongHereB {n k p : Nat} {s : aMem} (v : Int32) (h : MEd n k p s) : fX9_amongHere [.ref 43, .int v] s = some (.inl (some (.int (nI 0))), s) := by
  rw [tX9_amongHere, MEd_F h, b_bi, tX9_amongHere_4]
  try simp only [k_lit, k_nN, k_ofN]
  simp (disch := omega) only [i_leT, i_leF, i_ltT, i_ltF, i_eqT, i_eqF, i_okT, i_n1, i_n2, i_n3, i_n4, i_n5, i_n6, i_n7, i_n8, k_cl, if_true, if_false]
theorem sX9_amongB {n k p : Nat} {s : aMem} (v : Int32) (h : MEd n k p s) : fX9_among [.ref 43, .int v] s = some (.inl (some (.int (nI 0))), s) := by
  rw [tX9_among, sX9_amongHereB v h, b_bi, tX9_among_5]
  try simp only [k_lit, k_nN, k_ofN]
  simp (disch := omega) only [i_leT, i_leF, i_ltT, i_ltF, i_eqT, i_eqF, i_okT, i_n1, i_n2, i_n3, i_n4, i_n5, i_n6, i_n7, i_n8, k_cl, if_true, if_false]
  rw [MEd_F h, b_bi, tX9_among_21]
  try simp only [k_lit, k_nN, k_ofN]
  simp (disch := omega) only [i_leT, i_leF, i_ltT, i_ltF, i_eqT, i_eqF, i_okT, i_n1, i_n2, i_n3, i_n4, i_n5, i_n6, i_n7, i_n8, k_cl, if_true, if_false]
  rw [tX9_among_28]
theorem MG_16 {B : Nat → Nat} {n f k : Nat} {s : aMem} (h : MG B n f s) (hk : k < 3) : (s.1 43 16 = nI k) = (kd B n f = k) := by
  have hs := srt_le B n f
  rw [h.1.2.2.2.1, ← srt_o B n f k hk]
  exact propext (nI_eq (by omega) (by omega))
theorem sX9_number {B : Nat → Nat} {n f least : Nat} {s : aMem} (hn : n ≤ 700) (hB : ∀ j, j < n → B j < 256) (hl : least < 1000) (h : MG B n f s) : (nmc B n f least = 0 ∧ ∃ u, fX9_number [.ref 43, .int (nI least), .int (nI 99)] s = some (.inl (some (.int (nI (nm B n f)))), u) ∧ frW s u ∧ MG B n (nx B n f) u) ∨ (nmc B n f least ≠ 0 ∧ ∃ v u, fX9_number [.ref 43, .int (nI least), .int (nI 99)] s = some (.inl (some (.int v)), u) ∧ frW s u ∧ MEd n (nmc B n f least) f u) := by
  have hfn := h.1.1
  have hed := ed_le (B := B) (n := n) (f := f) hfn
  have h16 := MG_16 (k := 2) h (by omega)
  have bad : ∀ k, 0 < k ∧ k < 10 → ∃ v u, a_bv (fX9_wrong [.ref 43, .int (nI k)] s) (fun s4 => a_run none shp pX9_number 54 [some (.ref 43), none, none, none] [] s4) none (fun x s4 => some (.inr x, s4)) = some (.inl (some (.int v)), u) ∧ frW s u ∧ MEd n k f u := by
    intro k hk
    obtain ⟨u, e, f1, m⟩ := MG_wrong (k := k) h hk
    refine ⟨u.1 43 19, u, ?_, frW_w f1, m⟩
    rw [e, b_bv, tX9_number_54, MEd_F m, b_bi, tX9_number_63]
    try simp only [k_lit, k_nN, k_ofN]
    simp (disch := omega) only [i_leT, i_leF, i_ltT, i_ltF, i_eqT, i_eqF, i_okT, i_n1, i_n2, i_n3, i_n4, i_n5, i_n6, i_n7, i_n8, k_cl, if_true, if_false]
    rw [tX9_number_70]
  rw [tX9_number, sX9_isGoodT h.2, b_bi, tX9_number_4, h.1.2.2.2.2.2.1]
  try simp only [k_lit, k_nN, k_ofN]
  simp (disch := omega) only [i_leT, i_leF, i_ltT, i_ltF, i_eqT, i_eqF, i_okT, i_n1, i_n2, i_n3, i_n4, i_n5, i_n6, i_n7, i_n8, k_cl, if_true, if_false]
  by_cases c2 : kd B n f = 2
  · have h19 := h.1.2.2.2.2.2.2.1 c2
    have hm := nm_lt c2
    rw [if_pos (h16.mpr c2), h19]
    by_cases cl : ed B n f - f ≤ 4
    · rw [i_ltF (by omega) (by omega)]
      by_cases ca : least ≤ nm B n f
      · rw [i_ltF (by omega) (by omega)]
        by_cases cb : nm B n f ≤ 99
        · have e0 : nmc B n f least = 0 := by simp [nmc, c2, cl, ca, cb]
          obtain ⟨u, e, f1, m⟩ := MG_goes hn hB h
          refine .inl ⟨e0, u, ?_, frW_g f1, m⟩
          rw [i_leT cb (by omega), tX9_number_54, sX9_isGoodT h.2, b_bi, tX9_number_63, h19]
          try simp only [k_lit, k_nN, k_ofN]
          simp (disch := omega) only [i_leT, i_leF, i_ltT, i_ltF, i_eqT, i_eqF, i_okT, i_n1, i_n2, i_n3, i_n4, i_n5, i_n6, i_n7, i_n8, k_cl, if_true, if_false]
          rw [e, b_bv, tX9_number_70]
        · have e0 : nmc B n f least = 2 := by simp [nmc, c2, cl, ca, cb]
          rw [i_leF (by omega) (by omega), e0]
          exact .inr ⟨by omega, bad 2 (by omega)⟩
      · have e0 : nmc B n f least = 2 := by simp [nmc, c2, cl, ca]
        rw [i_ltT (by omega) (by omega), e0]
        exact .inr ⟨by omega, bad 2 (by omega)⟩
    · have e0 : nmc B n f least = 2 := by simp [nmc, c2, cl]
      rw [i_ltT (by omega) (by omega), e0]
      exact .inr ⟨by omega, bad 2 (by omega)⟩
  · have e0 : nmc B n f least = 1 := by simp [nmc, c2]
    rw [if_neg (by rw [h16]; exact c2), e0]
    exact .inr ⟨by omega, bad 1 (by omega)⟩
theorem sX9_perhaps {B : Nat → Nat} {n f k : Nat} {s : aMem} (hn : n ≤ 700) (hB : ∀ j, j < n → B j < 256) (hk : k < 16) (h : MG B n f s) : (∃ v g u, phr B n f k = .inl (v, g) ∧ fX9_perhaps [.ref 43, .int (nI k)] s = some (.inl (some (.int (nI v))), u) ∧ frW s u ∧ MG B n g u) ∨ (∃ e v u, phr B n f k = .inr e ∧ fX9_perhaps [.ref 43, .int (nI k)] s = some (.inl (some (.int v)), u) ∧ frW s u ∧ MEd n e.1 e.2 u) := by
  rw [tX9_perhaps, sX9_isGoodT h.2, b_bi, tX9_perhaps_4]
  try simp only [k_lit, k_nN, k_ofN]
  simp (disch := omega) only [i_leT, i_leF, i_ltT, i_ltF, i_eqT, i_eqF, i_okT, i_n1, i_n2, i_n3, i_n4, i_n5, i_n6, i_n7, i_n8, k_cl, if_true, if_false]
  rw [sX9_knownWord hn h.1, b_bi, tX9_perhaps_11]
  cases e : isW B n f k
  · have : ¬ oI (wd B n f) = nI k := by rw [wd_ne hk, e]; simp
    rw [if_neg this]
    exact .inl ⟨0, f, s, by simp [phr, e], by simp only [k_lit], fr_rfl s, h⟩
  · have : oI (wd B n f) = nI k := by rw [wd_ne hk]; exact e
    rw [if_pos this]
    obtain ⟨u1, e1, f1, m1⟩ := MG_goes hn hB h
    rw [e1, b_bv, tX9_perhaps_21]
    try simp only [k_lit, k_nN, k_ofN]
    rcases sX9_number (least := 0) hn hB (by omega) m1 with ⟨c, u, e2, f2, m2⟩ | ⟨c, v, u, e2, f2, m2⟩
    · exact .inl ⟨nm B n (nx B n f), nx B n (nx B n f), u, by rw [phr, if_pos e, if_pos c], by rw [e2, b_bi], frW_tr (frW_g f1) f2, m2⟩
    · exact .inr ⟨(nmc B n (nx B n f) 0, nx B n f), v, u, by rw [phr, if_pos e, if_neg c], by rw [e2, b_bi], frW_tr (frW_g f1) f2, m2⟩
theorem sX9_amongHere {B : Nat → Nat} {n f many : Nat} {s : aMem} (hn : n ≤ 700) (hl : many < 1000) (h : MG B n f s) : (amc B n f many = 0 ∧ kd B n f = 2 ∧ nm B n f < many ∧ fX9_amongHere [.ref 43, .int (nI many)] s = some (.inl (some (.int (nI 1))), s)) ∨ (amc B n f many ≠ 0 ∧ ∃ u, fX9_amongHere [.ref 43, .int (nI many)] s = some (.inl (some (.int (nI 0))), u) ∧ frW s u ∧ MEd n (amc B n f many) f u) := by
  have hfn := h.1.1
  have hed := ed_le (B := B) (n := n) (f := f) hfn
  have h16 := MG_16 (k := 2) h (by omega)
  have bad : ∀ k, 0 < k ∧ k < 10 → ∃ u, a_bv (fX9_wrong [.ref 43, .int (nI k)] s) (fun s4 => a_run none shp pX9_amongHere 54 [some (.ref 43), none] [] s4) none (fun x s4 => some (.inr x, s4)) = some (.inl (some (.int (nI 0))), u) ∧ frW s u ∧ MEd n k f u := by
    intro k hk
    obtain ⟨u, e, f1, m⟩ := MG_wrong (k := k) h hk
    refine ⟨u, ?_, frW_w f1, m⟩
    rw [e, b_bv, tX9_amongHere_54, MEd_F m, b_bi]
    try simp only [k_lit, k_nN, k_ofN]
    first | rw [r01_0] | rw [r01_0x]
  rw [tX9_amongHere, sX9_isGoodT h.2, b_bi, tX9_amongHere_4, h.1.2.2.2.2.2.1]
  try simp only [k_lit, k_nN, k_ofN]
  simp (disch := omega) only [i_leT, i_leF, i_ltT, i_ltF, i_eqT, i_eqF, i_okT, i_n1, i_n2, i_n3, i_n4, i_n5, i_n6, i_n7, i_n8, k_cl, if_true, if_false]
  by_cases c2 : kd B n f = 2
  · have h19 := h.1.2.2.2.2.2.2.1 c2
    have hm := nm_lt c2
    rw [if_pos (h16.mpr c2), h19]
    by_cases cl : ed B n f - f ≤ 4
    · rw [i_leT cl (by omega)]
      by_cases ca : nm B n f < many
      · refine .inl ⟨by simp [amc, c2, cl, ca], c2, ca, ?_⟩
        rw [i_ltT ca (by omega), tX9_amongHere_54, sX9_isGoodT h.2, b_bi]
        try simp only [k_lit, k_nN, k_ofN]
        first | rw [r01_1] | rw [r01_1x]
      · have e0 : amc B n f many = 3 := by simp [amc, c2, cl, ca]
        rw [i_ltF (by omega) (by omega), e0]
        exact .inr ⟨by omega, bad 3 (by omega)⟩
    · have e0 : amc B n f many = 2 := by simp [amc, c2, cl]
      rw [i_leF (by omega) (by omega), e0]
      exact .inr ⟨by omega, bad 2 (by omega)⟩
  · have e0 : amc B n f many = 1 := by simp [amc, c2]
    rw [if_neg (by rw [h16]; exact c2), e0]
    exact .inr ⟨by omega, bad 1 (by omega)⟩
theorem sX9_among {B : Nat → Nat} {n f many : Nat} {s : aMem} (hn : n ≤ 700) (hB : ∀ j, j < n → B j < 256) (hl : many < 1000) (h : MG B n f s) : (amc B n f many = 0 ∧ nm B n f < many ∧ ∃ u, fX9_among [.ref 43, .int (nI many)] s = some (.inl (some (.int (nI (nm B n f)))), u) ∧ frW s u ∧ MG B n (nx B n f) u) ∨ (amc B n f many ≠ 0 ∧ ∃ u, fX9_among [.ref 43, .int (nI many)] s = some (.inl (some (.int (nI 0))), u) ∧ frW s u ∧ MEd n (amc B n f many) f u) := by
  rcases sX9_amongHere hn hl h with ⟨c, c2, c3, e1⟩ | ⟨c, u, e1, f1, m1⟩
  · obtain ⟨u, e, f1, m⟩ := MG_goes hn hB h
    refine .inl ⟨c, c3, u, ?_, frW_g f1, m⟩
    rw [tX9_among, e1, b_bi, tX9_among_5, h.1.2.2.2.2.2.2.1 c2]
    try simp only [k_lit, k_nN, k_ofN]
    simp (disch := omega) only [i_leT, i_leF, i_ltT, i_ltF, i_eqT, i_eqF, i_okT, i_n1, i_n2, i_n3, i_n4, i_n5, i_n6, i_n7, i_n8, k_cl, if_true, if_false]
    rw [sX9_isGoodT h.2, b_bi, tX9_among_21]
    try simp only [k_lit, k_nN, k_ofN]
    simp (disch := omega) only [i_leT, i_leF, i_ltT, i_ltF, i_eqT, i_eqF, i_okT, i_n1, i_n2, i_n3, i_n4, i_n5, i_n6, i_n7, i_n8, k_cl, if_true, if_false]
    rw [e, b_bv, tX9_among_28]
  · refine .inr ⟨c, u, ?_, f1, m1⟩
    rw [tX9_among, e1, b_bi, tX9_among_5]
    try simp only [k_lit, k_nN, k_ofN]
    simp (disch := omega) only [i_leT, i_leF, i_ltT, i_ltF, i_eqT, i_eqF, i_okT, i_n1, i_n2, i_n3, i_n4, i_n5, i_n6, i_n7, i_n8, k_cl, if_true, if_false]
    rw [MEd_F m1, b_bi, tX9_among_21]
    try simp only [k_lit, k_nN, k_ofN]
    simp (disch := omega) only [i_leT, i_leF, i_ltT, i_ltF, i_eqT, i_eqF, i_okT, i_n1, i_n2, i_n3, i_n4, i_n5, i_n6, i_n7, i_n8, k_cl, if_true, if_false]
    rw [tX9_among_28]
/-- the line's end -/
theorem tl_bad {n k p : Nat} {s : aMem} (h : MEd n k p s) : a_run none shp pX9_line 361 [some (.ref 43), none, none, none] [] s = some (.inl none, s) := by
  rw [tX9_line_361]
  try simp only [k_lit, k_nN, k_ofN]
  obtain ⟨b, e⟩ := sX9_isSignA (s := s) (c := 59)
  rw [e, b_bi, tX9_line_368, tX9_need, MEd_F h, b_bi, tX9_need_4]
  try simp only [k_lit, k_nN, k_ofN]
  simp (disch := omega) only [i_leT, i_leF, i_ltT, i_ltF, i_eqT, i_eqF, i_okT, i_n1, i_n2, i_n3, i_n4, i_n5, i_n6, i_n7, i_n8, k_cl, if_true, if_false]
  rw [b_bv]
theorem tl_ok {B : Nat → Nat} {n f : Nat} {s : aMem} (hn : n ≤ 700) (hB : ∀ j, j < n → B j < 256) (h : MG B n f s) : ∃ u, a_run none shp pX9_line 361 [some (.ref 43), none, none, none] [] s = some (.inl none, u) ∧ frW s u ∧ ((sgn B n f 59 = true ∧ MG B n (nx B n f) u) ∨ (sgn B n f 59 = false ∧ MEd n 1 f u)) := by
  rw [tX9_line_361]
  try simp only [k_lit, k_nN, k_ofN]
  rw [sX9_isSign hB h.1 (by decide) (by decide), b_bi, tX9_line_368, tX9_need, sX9_isGoodT h.2, b_bi, tX9_need_4]
  try simp only [k_lit, k_nN, k_ofN]
  cases e : sgn B n f 59
  · obtain ⟨u, e1, f1, m⟩ := MG_wrong (k := 1) h (by omega)
    rw [Bool.toNat_false]
    simp (disch := omega) only [i_leT, i_leF, i_ltT, i_ltF, i_eqT, i_eqF, i_okT, i_n1, i_n2, i_n3, i_n4, i_n5, i_n6, i_n7, i_n8, k_cl, if_true, if_false]
    rw [e1, b_bv, b_bv]
    exact ⟨u, rfl, frW_w f1, .inr ⟨trivial, m⟩⟩
  · obtain ⟨u, e1, f1, m⟩ := MG_goes hn hB h
    rw [Bool.toNat_true]
    simp (disch := omega) only [i_leT, i_leF, i_ltT, i_ltF, i_eqT, i_eqF, i_okT, i_n1, i_n2, i_n3, i_n4, i_n5, i_n6, i_n7, i_n8, k_cl, if_true, if_false]
    rw [e1, b_bv, b_bv]
    exact ⟨u, rfl, frW_g f1, .inl ⟨trivial, m⟩⟩
