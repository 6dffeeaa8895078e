/-! ===== the reading's line of a book ===== -/
def XPt (nb nr hl m : Nat) (pt ow wt : Nat → Int32) (s : aMem) : Prop := (s.1 21 2 = nI 0 ∧ s.1 21 3 = nN) ∧ (s.1 3 0 = nI nb ∧ s.1 3 1 = nI nr ∧ s.1 3 2 = nI hl) ∧ ((∀ j, j < m → s.1 7 j = pt j) ∧ ∀ j, m ≤ j → j < 48 → s.1 7 j = nI 0) ∧ ((∀ r, r < nr → s.1 8 r = wt r) ∧ ∀ r, nr ≤ r → r < 5 → s.1 8 r = nN) ∧ Own nb nr (s.1 9) ow
theorem XPt_X {nb nr hl m : Nat} {pt ow wt : Nat → Int32} {s t : aMem} (h : XPt nb nr hl m pt ow wt s) (hf : frX s t) : XPt nb nr hl m pt ow wt t := by
  obtain ⟨⟨a1, a2⟩, ⟨a3, a4, a5⟩, ⟨a6, a7⟩, ⟨a8, a9⟩, a10⟩ := h
  have e9 : t.1 9 = s.1 9 := by
    funext j
    exact hf.1 9 j (by decide) (by simp)
  exact ⟨⟨by rw [hf.1 21 2 (by decide) (by decide)]; exact a1, by rw [hf.1 21 3 (by decide) (by decide)]; exact a2⟩, ⟨by rw [hf.1 3 0 (by decide) (by decide)]; exact a3, by rw [hf.1 3 1 (by decide) (by decide)]; exact a4, by rw [hf.1 3 2 (by decide) (by decide)]; exact a5⟩, ⟨fun j hj => by rw [hf.1 7 j (by decide) (by simp)]; exact a6 j hj, fun j h1 h2 => by rw [hf.1 7 j (by decide) (by simp)]; exact a7 j h1 h2⟩, ⟨fun j hj => by rw [hf.1 8 j (by decide) (by simp)]; exact a8 j hj, fun j h1 h2 => by rw [hf.1 8 j (by decide) (by simp)]; exact a9 j h1 h2⟩, by rw [e9]; exact a10⟩
theorem XPt_si {nb nr hl m : Nat} {pt ow wt : Nat → Int32} {s : aMem} {v : Int32} (h : XPt nb nr hl m pt ow wt s) : XPt nb nr hl (m + 1) (upI pt m v) ow wt (a_si s 7 m v) := by
  obtain ⟨⟨a1, a2⟩, ⟨a3, a4, a5⟩, ⟨a6, a7⟩, ⟨a8, a9⟩, a10⟩ := h
  have e9 : (a_si s 7 m v).1 9 = s.1 9 := by
    funext j
    simp [m_si]
  refine ⟨⟨by simpa [m_si] using a1, by simpa [m_si] using a2⟩, ⟨by simpa [m_si] using a3, by simpa [m_si] using a4, by simpa [m_si] using a5⟩, ⟨fun j hj => ?_, fun j h1 h2 => ?_⟩, ⟨fun j hj => by simpa [m_si] using a8 j hj, fun j h1 h2 => by simpa [m_si] using a9 j h1 h2⟩, by rw [e9]; exact a10⟩
  · by_cases e : j = m
    · simp [m_si, e, upI]
    · have := a6 j (by omega)
      simpa [m_si, e, upI] using this
  · have e : j ≠ m := by omega
    have := a7 j (by omega) h2
    simpa [m_si, e] using this
theorem sX3_readOwner {B : Nat → Nat} {n f nb nr hl m : Nat} {pt ow wt : Nat → Int32} {c : List (Nat × Nat)} {s : aMem} (hn : n ≤ 700) (hB : ∀ j, j < n → B j < 256) (hr : nr ≤ 5) (hb : nb < 12) (h : XE B n f c s) (hc : c.length ≤ 700) (hP : XPt nb nr hl m pt ow wt s) : (∃ o g i u, owr B n f nr = .inl (o, g) ∧ ((i < nr ∧ o = nI i) ∨ (i = 5 ∧ o = nN)) ∧ fX3_readOwner [.ref 21, .int (nI nb)] s = some (.inl (some (.int (nI 1))), a_si u 9 i (u.1 9 i ||| nI (2 ^ nb))) ∧ frX s u ∧ XE B n g c u) ∨ (∃ e u, owr B n f nr = .inr e ∧ fX3_readOwner [.ref 21, .int (nI nb)] s = some (.inl (some (.int (nI 0))), u) ∧ frY s u ∧ XB2 e.1 e.2 u) := by
  have hw : fX5_isWord [.ref 1, .ref 1007] s = some (.inl (some (.int (nI (isW B n f 8).toNat))), s) := xw7 hn hB h.1
  rw [tX3_readOwner, hw, b_bi, tX3_readOwner_11]
  try simp only [k_lit, k_nN, k_ofN]
  cases e : isW B n f 8
  · rw [Bool.toNat_false]
    simp (disch := omega) only [i_leT, i_leF, i_ltT, i_ltF, i_eqT, i_eqF, i_okT, i_n1, i_n2, i_n3, i_n4, i_n5, i_n6, i_n7, i_n8, k_cl, if_true, if_false]
    refine .inl ⟨nN, f, 5, s, by rw [owr, if_neg (by rw [e]; simp)], .inr ⟨rfl, rfl⟩, ?_, fr_rfl s, h⟩
    rw [tX3_readOwner_52]
    try simp only [k_lit, k_nN, k_ofN]
    simp (disch := omega) only [i_leT, i_leF, i_ltT, i_ltF, i_eqT, i_eqF, i_okT, i_n1, i_n2, i_n3, i_n4, i_n5, i_n6, i_n7, i_n8, k_cl, if_true, if_false]
    rw [k_one (by omega)]
  · rw [Bool.toNat_true]
    simp (disch := omega) only [i_leT, i_leF, i_ltT, i_ltF, i_eqT, i_eqF, i_okT, i_n1, i_n2, i_n3, i_n4, i_n5, i_n6, i_n7, i_n8, k_cl, if_true, if_false]
    obtain ⟨u1, e1, f1, m1⟩ := XE_next hn hB h
    have P1 := XPt_X hP f1
    rw [e1, b_bv, tX3_readOwner_21, P1.2.1.2.1]
    rcases sX3_needToldAhead (by omega : nr < 1000) m1 hc with ⟨q0, q2, q3, h4⟩ | ⟨q0, u2, q1, f2, m2⟩
    · obtain ⟨u2, e2, f2, m2⟩ := XE_next hn hB m1
      refine .inl ⟨nI (nm B n (nx B n f)), nx B n (nx B n f), nm B n (nx B n f), u2, by rw [owr, if_pos e, if_pos q0], .inl ⟨q2, rfl⟩, ?_, frX_tr f1 f2, m2⟩
      rw [q3, b_bi, tX3_readOwner_32, h4]
      try simp only [k_lit, k_nN, k_ofN]
      simp (disch := omega) only [i_leT, i_leF, i_ltT, i_ltF, i_eqT, i_eqF, i_okT, i_n1, i_n2, i_n3, i_n4, i_n5, i_n6, i_n7, i_n8, k_cl, if_true, if_false]
      rw [e2, b_bv, tX3_readOwner_52]
      try simp only [k_lit, k_nN, k_ofN]
      simp (disch := omega) only [i_leT, i_leF, i_ltT, i_ltF, i_eqT, i_eqF, i_okT, i_n1, i_n2, i_n3, i_n4, i_n5, i_n6, i_n7, i_n8, k_cl, if_true, if_false]
      rw [k_one (by omega)]
    · refine .inr ⟨(amc B n (nx B n f) nr, nx B n f), u2, by rw [owr, if_pos e, if_neg q0], ?_, frY_tr (frY_X f1) f2, m2⟩
      rw [q1, b_bi, tX3_readOwner_32]
      try simp only [k_lit, k_nN, k_ofN]
      simp (disch := omega) only [i_leT, i_leF, i_ltT, i_ltF, i_eqT, i_eqF, i_okT, i_n1, i_n2, i_n3, i_n4, i_n5, i_n6, i_n7, i_n8, k_cl, if_true, if_false]
theorem frY_s7 {s u : aMem} {j : Nat} {v : Int32} (h : frX (a_si s 7 j v) u) : frY s u := frY_tr (frY_of (fr_si (fr_rfl s) (by simp) : fr [7] [] s (a_si s 7 j v)) (by decide) (by decide)) (frY_X h)
theorem bk_fail {B : Nat → Nat} {n : Nat} {e : Nat × Nat} {s u : aMem} {v : Int32} {A : Option aRes} (hA : A = some (.inl (some (.int (nI 0))), a_si u 3 0 v)) (hf : frY s u) (h : XB2 e.1 e.2 u) : XLr B n A s (.inr e) := ⟨_, hA, fr_si hf (.inr (by decide)), by simpa [m_si] using h.1, by simpa [m_si] using h.2⟩
theorem xl_book {B : Nat → Nat} {n f : Nat} {D : DR} {s : aMem} (hn : n ≤ 700) (hB : ∀ j, j < n → B j < 256) (hr : D.2.1 ≤ 5) (hb : D.1 ≤ 12) (h : XD B n f D s) : XLr B n (fX3_readBook [.ref 21] s) s (bkr B n f D) := by
  obtain ⟨nb, nr, hl, pt, ow, wt, c⟩ := D
  simp only at hr hb
  obtain ⟨hE, hD, hc⟩ := id h
  simp only at hc hE
  have P0 : XPt nb nr hl (4 * nb) pt ow wt s := hD
  unfold bkr
  simp only
  rw [tX3_readBook, P0.2.1.1]
  try simp only [k_lit, k_nN, k_ofN]
  by_cases e12 : 12 ≤ nb
  · rw [if_pos e12, i_ltF (by omega) (by omega)]
    obtain ⟨u, e1, f1, m1⟩ := XE_ref (k := 2) hE hc
    refine ⟨u, ?_, frY_b f1, m1.1, m1.2.1⟩
    rw [e1, b_bi, r01_0]
  · rw [if_neg e12, i_ltT (by omega) (by omega)]
    have hb' : nb < 12 := by omega
    obtain ⟨u1, e1, f1, m1⟩ := XE_next hn hB hE
    have P1 := XPt_X P0 f1
    have F1 := frY_X f1
    rw [e1, b_bv, tX3_readBook_27]
    try simp only [k_lit, k_nN, k_ofN, pk_mul]
    rcases sX3_readPart (at' := 4 * nb) (least := 1) hn hB (by omega) (by omega) m1 hc with ⟨q0, u2, q1, f2, m2⟩ | ⟨q0, u2, q1, f2, m2⟩
    · rw [if_neg (by rw [q0]; simp)]
      have P2 := XPt_X (XPt_si (v := nI (nm B n (nx B n f))) P1) f2
      have F2 := frY_tr F1 (frY_s7 f2)
      rw [q1, b_bi, tX3_readBook_37]
      try simp only [k_lit, k_nN, k_ofN, nI_add]
      simp (disch := omega) only [i_leT, i_leF, i_ltT, i_ltF, i_eqT, i_eqF, i_okT, i_n1, i_n2, i_n3, i_n4, i_n5, i_n6, i_n7, i_n8, k_cl, if_true, if_false]
      have w4 : fX5_isWord [.ref 1, .ref 1004] u2 = some (.inl (some (.int (nI (isW B n (nx B n (nx B n f)) 1).toNat))), u2) := xw4 hn hB m2.1
      rcases sX3_readPerhaps (k := 1) (at' := 4 * nb + 1) hn hB (by omega) m2 hc (P2.2.2.1.2 _ (by omega) (by omega)) w4 with ⟨v1, g1, u3, r1, q3, f3, m3⟩ | ⟨e, u3, r1, q3, f3, m3⟩
      · rw [r1]
        simp only
        have P3 := XPt_X (XPt_si (v := nI v1) P2) f3
        have F3 := frY_tr F2 (frY_s7 f3)
        rw [q3, b_bi, tX3_readBook_49]
        try simp only [k_lit, k_nN, k_ofN, nI_add]
        simp (disch := omega) only [i_leT, i_leF, i_ltT, i_ltF, i_eqT, i_eqF, i_okT, i_n1, i_n2, i_n3, i_n4, i_n5, i_n6, i_n7, i_n8, k_cl, if_true, if_false]
        have w5 : fX5_isWord [.ref 1, .ref 1005] u3 = some (.inl (some (.int (nI (isW B n g1 2).toNat))), u3) := xw5 hn hB m3.1
        rcases sX3_readPerhaps (k := 2) (at' := 4 * nb + 2) hn hB (by omega) m3 hc (P3.2.2.1.2 _ (by omega) (by omega)) w5 with ⟨v2, g2, u4, r2, q4, f4, m4⟩ | ⟨e, u4, r2, q4, f4, m4⟩
        · rw [r2]
          simp only
          have P4 := XPt_X (XPt_si (v := nI v2) P3) f4
          have F4 := frY_tr F3 (frY_s7 f4)
          rw [q4, b_bi, tX3_readBook_61]
          try simp only [k_lit, k_nN, k_ofN, nI_add]
          simp (disch := omega) only [i_leT, i_leF, i_ltT, i_ltF, i_eqT, i_eqF, i_okT, i_n1, i_n2, i_n3, i_n4, i_n5, i_n6, i_n7, i_n8, k_cl, if_true, if_false]
          have w6 : fX5_isWord [.ref 1, .ref 1006] u4 = some (.inl (some (.int (nI (isW B n g2 3).toNat))), u4) := xw6 hn hB m4.1
          rcases sX3_readPerhaps (k := 3) (at' := 4 * nb + 3) hn hB (by omega) m4 hc (P4.2.2.1.2 _ (by omega) (by omega)) w6 with ⟨v3, g3, u5, r3, q5, f5, m5⟩ | ⟨e, u5, r3, q5, f5, m5⟩
          · rw [r3]
            simp only
            have P5 := XPt_X (XPt_si (v := nI v3) P4) f5
            have F5 := frY_tr F4 (frY_s7 f5)
            rw [q5, b_bi, tX3_readBook_73]
            try simp only [k_lit, k_nN, k_ofN]
            simp (disch := omega) only [i_leT, i_leF, i_ltT, i_ltF, i_eqT, i_eqF, i_okT, i_n1, i_n2, i_n3, i_n4, i_n5, i_n6, i_n7, i_n8, k_cl, if_true, if_false]
            rcases sX3_readOwner hn hB hr hb' m5 hc P5 with ⟨o, g, i, u6, r4, hi, q6, f6, m6⟩ | ⟨e, u6, r4, q6, f6, m6⟩
            · rw [r4]
              simp only
              have P6 := XPt_X P5 f6
              have F6 : fr [9] [(3, 0)] u6 (a_si (a_si u6 9 i (u6.1 9 i ||| nI (2 ^ nb))) 3 0 (nI (nb + 1))) := fr_si (fr_si (fr_rfl u6) (by simp)) (by simp)
              refine ⟨a_si (a_si u6 9 i (u6.1 9 i ||| nI (2 ^ nb))) 3 0 (nI (nb + 1)), ?_, frY_tr F5 (frY_tr (frY_X f6) (frY_of F6 (by decide) (by decide))), XE_c m6 F6 rfl rfl, ?_, hc⟩
              · rw [q6, b_bi, tX3_readBook_81]
                try simp only [k_lit, k_nN, k_ofN]
                simp (disch := omega) only [i_leT, i_leF, i_ltT, i_ltF, i_eqT, i_eqF, i_okT, i_n1, i_n2, i_n3, i_n4, i_n5, i_n6, i_n7, i_n8, k_cl, if_true, if_false]
                rw [show (a_si u6 9 i (u6.1 9 i ||| nI (2 ^ nb))).1 3 0 = nI nb by simpa [m_si] using P6.2.1.1, nI_add]
              · obtain ⟨⟨a1, a2⟩, ⟨a3, a4, a5⟩, ⟨a6, a7⟩, ⟨a8, a9⟩, a10⟩ := P6
                refine ⟨⟨by simpa [m_si] using a1, by simpa [m_si] using a2⟩, ⟨by simp [m_si], by simpa [m_si] using a4, by simpa [m_si] using a5⟩, ⟨fun j hj => ?_, fun j h1 h2 => ?_⟩, ⟨fun j hj => by simpa [m_si] using a8 j hj, fun j h1 h2 => by simpa [m_si] using a9 j h1 h2⟩, ?_⟩
                · have := a6 j (by simp only at hj; omega)
                  simpa [m_si] using this
                · have := a7 j (by simp only at h1; omega) h2
                  simpa [m_si] using this
                · have e9 : (a_si (a_si u6 9 i (u6.1 9 i ||| nI (2 ^ nb))) 3 0 (nI (nb + 1))).1 9 = upI (u6.1 9) i (u6.1 9 i ||| nI (2 ^ nb)) := by
                    funext j
                    simp [m_si, upI]
                  rw [e9]
                  exact Own_add a10 hr hi
            · rw [r4]
              refine bk_fail (v := u6.1 3 0 + nI 1) ?_ (frY_tr F5 f6) m6
              · rw [q6, b_bi, tX3_readBook_81]
                try simp only [k_lit, k_nN, k_ofN]
                simp (disch := omega) only [i_leT, i_leF, i_ltT, i_ltF, i_eqT, i_eqF, i_okT, i_n1, i_n2, i_n3, i_n4, i_n5, i_n6, i_n7, i_n8, k_cl, if_true, if_false]
          · rw [r3]
            refine bk_fail (v := u5.1 3 0 + nI 1) ?_ (frY_tr F4 f5) m5
            · rw [q5, b_bi, tX3_readBook_73]
              try simp only [k_lit, k_nN, k_ofN]
              simp (disch := omega) only [i_leT, i_leF, i_ltT, i_ltF, i_eqT, i_eqF, i_okT, i_n1, i_n2, i_n3, i_n4, i_n5, i_n6, i_n7, i_n8, k_cl, if_true, if_false]
        · rw [r2]
          refine bk_fail (v := u4.1 3 0 + nI 1) ?_ (frY_tr F3 f4) m4
          · rw [q4, b_bi, tX3_readBook_61]
            try simp only [k_lit, k_nN, k_ofN]
            simp (disch := omega) only [i_leT, i_leF, i_ltT, i_ltF, i_eqT, i_eqF, i_okT, i_n1, i_n2, i_n3, i_n4, i_n5, i_n6, i_n7, i_n8, k_cl, if_true, if_false]
      · rw [r1]
        refine bk_fail (v := u3.1 3 0 + nI 1) ?_ (frY_tr F2 f3) m3
        · rw [q3, b_bi, tX3_readBook_49]
          try simp only [k_lit, k_nN, k_ofN]
          simp (disch := omega) only [i_leT, i_leF, i_ltT, i_ltF, i_eqT, i_eqF, i_okT, i_n1, i_n2, i_n3, i_n4, i_n5, i_n6, i_n7, i_n8, k_cl, if_true, if_false]
    · rw [if_pos q0]
      refine bk_fail (e := (nmc B n (nx B n f) 1, nx B n f)) (v := u2.1 3 0 + nI 1) ?_ (frY_tr F1 f2) m2
      · rw [q1, b_bi, tX3_readBook_37]
        try simp only [k_lit, k_nN, k_ofN]
        simp (disch := omega) only [i_leT, i_leF, i_ltT, i_ltF, i_eqT, i_eqF, i_okT, i_n1, i_n2, i_n3, i_n4, i_n5, i_n6, i_n7, i_n8, k_cl, if_true, if_false]
