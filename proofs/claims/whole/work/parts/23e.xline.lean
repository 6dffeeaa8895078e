/-! ===== the reading's lines ===== -/
def XDr (nb nr hl : Nat) (pt ow wt : Nat → Int32) (s : aMem) : Prop := (s.1 21 2 = nI 0 ∧ s.1 21 3 = nN) ∧ (s.1 3 0 = nI nb ∧ s.1 3 1 = nI nr ∧ s.1 3 2 = nI hl) ∧ ((∀ j, j < 4 * nb → s.1 7 j = pt j) ∧ ∀ j, 4 * nb ≤ j → j < 48 → s.1 7 j = nI 0) ∧ ((∀ r, r < nr → s.1 8 r = wt r) ∧ ∀ r, nr ≤ r → r < 5 → s.1 8 r = nN) ∧ Own nb nr (s.1 9) ow
def XD (B : Nat → Nat) (n f : Nat) (D : DR) (s : aMem) : Prop := XE B n f D.2.2.2.2.2.2 s ∧ XDr D.1 D.2.1 D.2.2.1 D.2.2.2.1 D.2.2.2.2.1 D.2.2.2.2.2.1 s ∧ D.2.2.2.2.2.2.length ≤ 700
def frYl : List (Nat × Nat) := [(1, 2), (1, 3), (1, 4), (1, 5), (4, 1), (21, 2), (21, 3), (3, 0), (3, 1), (3, 2)]
def frY (s u : aMem) : Prop := fr [5, 7, 8, 9] frYl s u
theorem frY_tr {s t u : aMem} (h : frY s t) (h2 : frY t u) : frY s u := fr_trans h h2
theorem frY_of {K : List Nat} {F : List (Nat × Nat)} {s u : aMem} (h : fr K F s u) (h1 : (K.all fun k => [5, 7, 8, 9].contains k) = true) (h2 : (F.all fun q => frYl.contains q) = true) : frY s u := by
  refine fr_mono h (fun k hk => ?_) (fun q hq => .inr ?_)
  · exact List.contains_iff_mem.mp (List.all_eq_true.mp h1 k hk)
  · exact List.contains_iff_mem.mp (List.all_eq_true.mp h2 q hq)
theorem frY_X {s u : aMem} (h : frX s u) : frY s u := frY_of h (by decide) (by decide)
theorem frY_b {s u : aMem} (h : frXb s u) : frY s u := frY_of h (by decide) (by decide)
theorem XDr_X {nb nr hl : Nat} {pt ow wt : Nat → Int32} {s t : aMem} (h : XDr nb nr hl pt ow wt s) (hf : frX s t) : XDr nb nr hl pt ow wt t := by
  obtain ⟨⟨a1, a2⟩, ⟨a3, a4, a5⟩, ⟨a6, a7⟩, ⟨a8, a9⟩, a10⟩ := h
  have e9 : t.1 9 = s.1 9 := by
    funext j
    exact hf.1 9 j (by decide) (by simp)
  exact ⟨⟨by rw [hf.1 21 2 (by decide) (by decide)]; exact a1, by rw [hf.1 21 3 (by decide) (by decide)]; exact a2⟩, ⟨by rw [hf.1 3 0 (by decide) (by decide)]; exact a3, by rw [hf.1 3 1 (by decide) (by decide)]; exact a4, by rw [hf.1 3 2 (by decide) (by decide)]; exact a5⟩, ⟨fun j hj => by rw [hf.1 7 j (by decide) (by simp)]; exact a6 j hj, fun j h1 h2 => by rw [hf.1 7 j (by decide) (by simp)]; exact a7 j h1 h2⟩, ⟨fun j hj => by rw [hf.1 8 j (by decide) (by simp)]; exact a8 j hj, fun j h1 h2 => by rw [hf.1 8 j (by decide) (by simp)]; exact a9 j h1 h2⟩, by rw [e9]; exact a10⟩
def XB2 (k p : Nat) (s : aMem) : Prop := s.1 21 2 = nI k ∧ s.1 21 3 = nI p
def XLr (B : Nat → Nat) (n : Nat) (A : Option aRes) (s : aMem) (r : LR) : Prop := match r with
  | .inl (g, D) => ∃ u, A = some (.inl (some (.int (nI 1))), u) ∧ frY s u ∧ XD B n g D u
  | .inr (k, p) => ∃ u, A = some (.inl (some (.int (nI 0))), u) ∧ frY s u ∧ XB2 k p u
theorem XE_c {B : Nat → Nat} {n f : Nat} {c : List (Nat × Nat)} {s t : aMem} {K : List Nat} {F : List (Nat × Nat)} (h : XE B n f c s) (hf : fr K F s t) (h1 : (K.all fun k => k != 1 && k != 2 && k != 4 && k != 5) = true) (h2 : (F.all fun q => q.1 != 1 && q.1 != 2 && q.1 != 4 && q.1 != 5) = true) : XE B n f c t := by
  have kk : ∀ k j, k = 1 ∨ k = 2 ∨ k = 4 ∨ k = 5 → t.1 k j = s.1 k j := by
    intro k j hk
    refine hf.1 k j (fun c => ?_) (fun c => ?_)
    · have := List.all_eq_true.mp h1 _ c
      rcases hk with e | e | e | e <;> subst e <;> simp at this
    · have := List.all_eq_true.mp h2 _ c
      rcases hk with e | e | e | e <;> subst e <;> simp at this
  obtain ⟨⟨a1, a2, a3, a4, a5, a6, a7⟩, b1, b2⟩ := h
  exact ⟨⟨a1, by rw [kk 1 2 (by simp)]; exact a2, by rw [kk 1 3 (by simp)]; exact a3, by rw [kk 1 5 (by simp)]; exact a4, by rw [kk 1 6 (by simp)]; exact a5, fun q => by rw [kk 1 4 (by simp)]; exact a6 q, fun j hj => by rw [kk 2 j (by simp)]; exact a7 j hj⟩, by rw [kk 4 1 (by simp)]; exact b1, fun j q hj => by rw [kk 5 j (by simp)]; exact b2 j q hj⟩
/-! a reader -/
theorem xl_reader {B : Nat → Nat} {n f : Nat} {D : DR} {s : aMem} (hn : n ≤ 700) (hB : ∀ j, j < n → B j < 256) (hr : D.2.1 ≤ 5) (h : XD B n f D s) : XLr B n (fX3_readReader [.ref 21] s) s (rdr B n f D) := by
  obtain ⟨nb, nr, hl, pt, ow, wt, c⟩ := D
  simp only at hr
  obtain ⟨hE, hD, hc⟩ := h
  obtain ⟨a1, ⟨a3, a4, a5⟩, a6, ⟨a8, a9⟩, a10⟩ := id hD
  simp only at a1 a3 a4 a5 a6 a8 a9 a10 hc
  rw [tX3_readReader, a4]
  unfold rdr
  simp only
  try simp only [k_lit, k_nN, k_ofN, nI_add]
  by_cases e5 : nr < 5
  · rw [if_pos e5]
    have F : fr [] [(3, 1)] s (a_si s 3 1 (nI (nr + 1))) := fr_si (fr_rfl s) (by simp)
    obtain ⟨u, e1, f1, m1⟩ := XE_next hn hB (XE_c hE F rfl rfl)
    have D2 : XDr nb (nr + 1) hl pt ow (upI wt nr nN) (a_si s 3 1 (nI (nr + 1))) := by
      refine ⟨⟨by simpa [m_si] using a1.1, by simpa [m_si] using a1.2⟩, ⟨by simpa [m_si] using a3, by simp [m_si], by simpa [m_si] using a5⟩, ⟨fun j hj => by simpa [m_si] using a6.1 j hj, fun j h1 h2 => by simpa [m_si] using a6.2 j h1 h2⟩, ⟨fun r hr => ?_, fun r h1 h2 => by simpa [m_si] using a9 r (by omega) h2⟩, ?_⟩
      · by_cases e : r = nr
        · have := a9 nr (by omega) e5
          rw [e]
          simpa [m_si, upI] using this
        · have := a8 r (by omega)
          simpa [m_si, upI, e] using this
      · have e9 : (a_si s 3 1 (nI (nr + 1))).1 9 = s.1 9 := by
          funext j
          simp [m_si]
        rw [e9]
        refine ⟨a10.1, a10.2.1, fun b hb => ?_⟩
        rcases a10.2.2 b hb with c | ⟨r, hr, c⟩
        · exact .inl c
        · exact .inr ⟨r, by omega, c⟩
    refine ⟨u, ?_, frY_tr (frY_of F (by decide) (by decide)) (frY_X f1), m1, XDr_X D2 f1, hc⟩
    rw [i_ltT e5 (by omega), e1, b_bv, tX3_readReader_37]
    try simp only [k_lit, k_nN, k_ofN]
  · rw [if_neg e5]
    obtain ⟨u, e1, f1, m1⟩ := XE_ref (k := 2) hE hc
    refine ⟨u, ?_, frY_b f1, m1.1, m1.2.1⟩
    rw [i_ltF (by omega) (by omega), e1, b_bi, r01_0]
/-! numbers -/
theorem sX3_readPart {B : Nat → Nat} {n f at' least : Nat} {c : List (Nat × Nat)} {s : aMem} (hn : n ≤ 700) (hB : ∀ j, j < n → B j < 256) (ha : at' < 48) (hl : least < 1000) (h : XE B n f c s) (hc : c.length ≤ 700) : (nmc B n f least = 0 ∧ ∃ u, fX3_readPart [.ref 21, .int (nI at'), .int (nI least)] s = some (.inl (some (.int (nI 1))), u) ∧ frX (a_si s 7 at' (nI (nm B n f))) u ∧ XE B n (nx B n f) c u) ∨ (nmc B n f least ≠ 0 ∧ ∃ u, fX3_readPart [.ref 21, .int (nI at'), .int (nI least)] s = some (.inl (some (.int (nI 0))), u) ∧ frY s u ∧ XB2 (nmc B n f least) f u) := by
  rw [tX3_readPart]
  rcases sX3_needNumber h hc with ⟨c2, cl, e1, h4⟩ | ⟨c2, cl, u, e1, f1, m1⟩ | ⟨c2, u, e1, f1, m1⟩
  · have hm := nm_lt c2
    rw [e1, b_bi, tX3_readPart_4, h4]
    try simp only [k_lit, k_nN, k_ofN]
    simp (disch := omega) only [i_leT, i_leF, i_ltT, i_ltF, i_eqT, i_eqF, i_okT, i_n1, i_n2, i_n3, i_n4, i_n5, i_n6, i_n7, i_n8, k_cl, if_true, if_false]
    obtain ⟨u2, e2, f2, m2⟩ := XE_ref (k := 2) h hc
    by_cases ca : least ≤ nm B n f
    · rw [i_ltF (by omega) (by omega)]
      by_cases cb : nm B n f ≤ 99
      · have e0 : nmc B n f least = 0 := by simp [nmc, c2, cl, ca, cb]
        have F : fr [7] [] s (a_si s 7 at' (nI (nm B n f))) := fr_si (fr_rfl s) (by simp)
        obtain ⟨u, e3, f3, m3⟩ := XE_next hn hB (XE_c h F rfl rfl)
        refine .inl ⟨e0, u, ?_, f3, m3⟩
        rw [i_leT cb (by omega), e3, b_bv, tX3_readPart_61]
        try simp only [k_lit, k_nN, k_ofN]
      · have e0 : nmc B n f least = 2 := by simp [nmc, c2, cl, ca, cb]
        rw [i_leF (by omega) (by omega), e2, b_bi, r01_0, e0]
        exact .inr ⟨by omega, u2, rfl, frY_b f2, m2.1, m2.2.1⟩
    · have e0 : nmc B n f least = 2 := by simp [nmc, c2, cl, ca]
      rw [i_ltT (by omega) (by omega), e2, b_bi, r01_0, e0]
      exact .inr ⟨by omega, u2, rfl, frY_b f2, m2.1, m2.2.1⟩
  · have e0 : nmc B n f least = 2 := by simp [nmc, c2, cl]
    rw [e1, b_bi, tX3_readPart_4, e0]
    try simp only [k_lit, k_nN, k_ofN]
    simp (disch := omega) only [i_leT, i_leF, i_ltT, i_ltF, i_eqT, i_eqF, i_okT, i_n1, i_n2, i_n3, i_n4, i_n5, i_n6, i_n7, i_n8, k_cl, if_true, if_false]
    exact .inr ⟨by omega, u, rfl, frY_b f1, m1.1, m1.2.1⟩
  · have e0 : nmc B n f least = 1 := by simp [nmc, c2]
    rw [e1, b_bi, tX3_readPart_4, e0]
    try simp only [k_lit, k_nN, k_ofN]
    simp (disch := omega) only [i_leT, i_leF, i_ltT, i_ltF, i_eqT, i_eqF, i_okT, i_n1, i_n2, i_n3, i_n4, i_n5, i_n6, i_n7, i_n8, k_cl, if_true, if_false]
    exact .inr ⟨by omega, u, rfl, frY_b f1, m1.1, m1.2.1⟩
theorem si_self {s : aMem} {k j : Nat} {x : Int32} (h : s.1 k j = x) : ∀ k' j', (a_si s k j x).1 k' j' = s.1 k' j' := by
  intro k' j'
  rw [m_si]
  by_cases e : k' = k
  · by_cases e2 : j' = j
    · rw [if_pos e, if_pos e2, e, e2, h]
    · rw [if_pos e, if_neg e2]
  · rw [if_neg e]
theorem sX3_readPerhaps {B : Nat → Nat} {n f at' k i : Nat} {c : List (Nat × Nat)} {s : aMem} (hn : n ≤ 700) (hB : ∀ j, j < n → B j < 256) (ha : at' < 48) (h : XE B n f c s) (hc : c.length ≤ 700) (h0 : s.1 7 at' = nI 0) (hw : fX5_isWord [.ref 1, .ref i] s = some (.inl (some (.int (nI (isW B n f k).toNat))), s)) : (∃ v g u, phr B n f k = .inl (v, g) ∧ fX3_readPerhaps [.ref 21, .ref i, .int (nI at')] s = some (.inl (some (.int (nI 1))), u) ∧ frX (a_si s 7 at' (nI v)) u ∧ XE B n g c u) ∨ (∃ e u, phr B n f k = .inr e ∧ fX3_readPerhaps [.ref 21, .ref i, .int (nI at')] s = some (.inl (some (.int (nI 0))), u) ∧ frY s u ∧ XB2 e.1 e.2 u) := by
  rw [tX3_readPerhaps, hw, b_bi, tX3_readPerhaps_8]
  try simp only [k_lit, k_nN, k_ofN]
  cases e : isW B n f k
  · rw [Bool.toNat_false]
    simp (disch := omega) only [i_leT, i_leF, i_ltT, i_ltF, i_eqT, i_eqF, i_okT, i_n1, i_n2, i_n3, i_n4, i_n5, i_n6, i_n7, i_n8, k_cl, if_true, if_false]
    exact .inl ⟨0, f, s, by rw [phr, if_neg (by rw [e]; simp)], rfl, ⟨fun k j _ _ => (si_self h0 k j).symm, fun _ _ _ _ => rfl, rfl⟩, h⟩
  · rw [Bool.toNat_true]
    simp (disch := omega) only [i_leT, i_leF, i_ltT, i_ltF, i_eqT, i_eqF, i_okT, i_n1, i_n2, i_n3, i_n4, i_n5, i_n6, i_n7, i_n8, k_cl, if_true, if_false]
    obtain ⟨u1, e1, f1, m1⟩ := XE_next hn hB h
    rw [e1, b_bv, tX3_readPerhaps_20]
    try simp only [k_lit, k_nN, k_ofN]
    rcases sX3_readPart (at' := at') (least := 0) hn hB ha (by omega) m1 hc with ⟨q0, u, e2, f2, m2⟩ | ⟨q0, u, e2, f2, m2⟩
    · refine .inl ⟨nm B n (nx B n f), nx B n (nx B n f), u, by rw [phr, if_pos e, if_pos q0], by rw [e2, b_bi, r01_1], ?_, m2⟩
      have F : fr [5] [(1, 2), (1, 3), (1, 4), (1, 5), (4, 1)] (a_si s 7 at' (nI (nm B n (nx B n f)))) (a_si u1 7 at' (nI (nm B n (nx B n f)))) := by
        refine ⟨fun k j hk hj => ?_, fun k j hk hj => ?_, f1.2.2⟩
        · simp only [m_si]
          rw [f1.1 k j hk hj]
        · exact f1.2.1 k j hk hj
      exact frX_tr F f2
    · exact .inr ⟨(nmc B n (nx B n f) 0, nx B n f), u, by rw [phr, if_pos e, if_neg q0], by rw [e2, b_bi, r01_0], frY_tr (frY_X f1) f2, m2⟩
theorem sX3_needToldAhead {B : Nat → Nat} {n f many : Nat} {c : List (Nat × Nat)} {s : aMem} (hl : many < 1000) (h : XE B n f c s) (hc : c.length ≤ 700) : (amc B n f many = 0 ∧ nm B n f < many ∧ fX3_needToldAhead [.ref 21, .int (nI many)] s = some (.inl (some (.int (nI 1))), s) ∧ s.1 1 4 = nI (nm B n f)) ∨ (amc B n f many ≠ 0 ∧ ∃ u, fX3_needToldAhead [.ref 21, .int (nI many)] s = some (.inl (some (.int (nI 0))), u) ∧ frY s u ∧ XB2 (amc B n f many) f u) := by
  rw [tX3_needToldAhead]
  rcases sX3_needNumber h hc with ⟨c2, cl, e1, h4⟩ | ⟨c2, cl, u, e1, f1, m1⟩ | ⟨c2, u, e1, f1, m1⟩
  · have hm := nm_lt c2
    rw [e1, b_bi, tX3_needToldAhead_4, h4]
    try simp only [k_lit, k_nN, k_ofN]
    simp (disch := omega) only [i_leT, i_leF, i_ltT, i_ltF, i_eqT, i_eqF, i_okT, i_n1, i_n2, i_n3, i_n4, i_n5, i_n6, i_n7, i_n8, k_cl, if_true, if_false]
    by_cases ca : nm B n f < many
    · refine .inl ⟨by simp [amc, c2, cl, ca], ca, ?_, trivial⟩
      rw [i_ltT ca (by omega)]
    · have e0 : amc B n f many = 3 := by simp [amc, c2, cl, ca]
      obtain ⟨u2, e2, f2, m2⟩ := XE_ref (k := 3) h hc
      rw [i_ltF (by omega) (by omega), e2, b_bi, tX3_needToldAhead_25, e0]
      try simp only [k_lit, k_nN, k_ofN]
      simp (disch := omega) only [i_leT, i_leF, i_ltT, i_ltF, i_eqT, i_eqF, i_okT, i_n1, i_n2, i_n3, i_n4, i_n5, i_n6, i_n7, i_n8, k_cl, if_true, if_false]
      exact .inr ⟨by omega, u2, rfl, frY_b f2, m2.1, m2.2.1⟩
  · have e0 : amc B n f many = 2 := by simp [amc, c2, cl]
    rw [e1, b_bi, tX3_needToldAhead_4, e0]
    try simp only [k_lit, k_nN, k_ofN]
    simp (disch := omega) only [i_leT, i_leF, i_ltT, i_ltF, i_eqT, i_eqF, i_okT, i_n1, i_n2, i_n3, i_n4, i_n5, i_n6, i_n7, i_n8, k_cl, if_true, if_false]
    exact .inr ⟨by omega, u, rfl, frY_b f1, m1.1, m1.2.1⟩
  · have e0 : amc B n f many = 1 := by simp [amc, c2]
    rw [e1, b_bi, tX3_needToldAhead_4, e0]
    try simp only [k_lit, k_nN, k_ofN]
    simp (disch := omega) only [i_leT, i_leF, i_ltT, i_ltF, i_eqT, i_eqF, i_okT, i_n1, i_n2, i_n3, i_n4, i_n5, i_n6, i_n7, i_n8, k_cl, if_true, if_false]
    exact .inr ⟨by omega, u, rfl, frY_b f1, m1.1, m1.2.1⟩
