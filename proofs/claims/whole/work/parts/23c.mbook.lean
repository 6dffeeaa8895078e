/-! ===== the model's lines: a book, the law ===== -/
theorem bk160 {n k p nb : Nat} {s : aMem} {w : Int32} (h : MEd n k p s) (hb : nb < 12) (h22 : s.1 43 22 = nI nb) : ∃ u, a_run none shp pX9_line 160 [some (.ref 43), none, none, none] [.int w, .int (nI (4 * nb + 3)), .ref 52] s = some (.inl none, u) ∧ frL s u ∧ MEd n k p u := by
  have F : fr [52, 53] [] s (a_si (a_si s 52 (4 * nb + 3) w) 53 nb nN) := fr_si (fr_si (fr_rfl s) (by simp)) (by simp)
  have m := MEd_fr h F rfl rfl
  refine ⟨_, ?_, frL_of F (by decide) (by decide), m⟩
  rw [tX9_line_160, h22]
  try simp only [k_lit, k_nN, k_ofN]
  simp (disch := omega) only [i_leT, i_leF, i_ltT, i_ltF, i_eqT, i_eqF, i_okT, i_n1, i_n2, i_n3, i_n4, i_n5, i_n6, i_n7, i_n8, k_cl, if_true, if_false]
  rw [MEd_F m, b_bi, tX9_line_175]
  try simp only [k_lit, k_nN, k_ofN]
  simp (disch := omega) only [i_leT, i_leF, i_ltT, i_ltF, i_eqT, i_eqF, i_okT, i_n1, i_n2, i_n3, i_n4, i_n5, i_n6, i_n7, i_n8, k_cl, if_true, if_false]
  rw [MEd_F m, b_bi, tX9_line_212]
  try simp only [k_lit, k_nN, k_ofN]
  simp (disch := omega) only [i_leT, i_leF, i_ltT, i_ltF, i_eqT, i_eqF, i_okT, i_n1, i_n2, i_n3, i_n4, i_n5, i_n6, i_n7, i_n8, k_cl, if_true, if_false]
  exact tl_bad m
theorem bk142 {n k p nb : Nat} {s : aMem} {w : Int32} (h : MEd n k p s) (hb : nb < 12) (h22 : s.1 43 22 = nI nb) : ∃ u, a_run none shp pX9_line 142 [some (.ref 43), none, none, none] [.int w, .int (nI (4 * nb + 2)), .ref 52] s = some (.inl none, u) ∧ frL s u ∧ MEd n k p u := by
  have F : fr [52, 53] [] s (a_si s 52 (4 * nb + 2) w) := fr_si (fr_rfl s) (by simp)
  have m := MEd_fr h F rfl rfl
  obtain ⟨u, e, f, m2⟩ := bk160 (w := nI 0) m hb (by rw [F.1 43 22 (by decide) (by simp)]; exact h22)
  refine ⟨u, ?_, frL_tr (frL_of F (by decide) (by decide)) f, m2⟩
  rw [tX9_line_142, h22]
  try simp only [k_lit, k_nN, k_ofN, pk_mul, nI_add]
  simp (disch := omega) only [i_leT, i_leF, i_ltT, i_ltF, i_eqT, i_eqF, i_okT, i_n1, i_n2, i_n3, i_n4, i_n5, i_n6, i_n7, i_n8, k_cl, if_true, if_false]
  rw [sX9_perhapsB m, b_bi]
  exact e
theorem bk124 {n k p nb : Nat} {s : aMem} {w : Int32} (h : MEd n k p s) (hb : nb < 12) (h22 : s.1 43 22 = nI nb) : ∃ u, a_run none shp pX9_line 124 [some (.ref 43), none, none, none] [.int w, .int (nI (4 * nb + 1)), .ref 52] s = some (.inl none, u) ∧ frL s u ∧ MEd n k p u := by
  have F : fr [52, 53] [] s (a_si s 52 (4 * nb + 1) w) := fr_si (fr_rfl s) (by simp)
  have m := MEd_fr h F rfl rfl
  obtain ⟨u, e, f, m2⟩ := bk142 (w := nI 0) m hb (by rw [F.1 43 22 (by decide) (by simp)]; exact h22)
  refine ⟨u, ?_, frL_tr (frL_of F (by decide) (by decide)) f, m2⟩
  rw [tX9_line_124, h22]
  try simp only [k_lit, k_nN, k_ofN, pk_mul, nI_add]
  simp (disch := omega) only [i_leT, i_leF, i_ltT, i_ltF, i_eqT, i_eqF, i_okT, i_n1, i_n2, i_n3, i_n4, i_n5, i_n6, i_n7, i_n8, k_cl, if_true, if_false]
  rw [sX9_perhapsB m, b_bi]
  exact e
theorem bk106 {n k p nb : Nat} {s : aMem} {w : Int32} (h : MEd n k p s) (hb : nb < 12) (h22 : s.1 43 22 = nI nb) : ∃ u, a_run none shp pX9_line 106 [some (.ref 43), none, none, none] [.int w, .int (nI (4 * nb)), .ref 52] s = some (.inl none, u) ∧ frL s u ∧ MEd n k p u := by
  have F : fr [52, 53] [] s (a_si s 52 (4 * nb) w) := fr_si (fr_rfl s) (by simp)
  have m := MEd_fr h F rfl rfl
  obtain ⟨u, e, f, m2⟩ := bk124 (w := nI 0) m hb (by rw [F.1 43 22 (by decide) (by simp)]; exact h22)
  refine ⟨u, ?_, frL_tr (frL_of F (by decide) (by decide)) f, m2⟩
  rw [tX9_line_106, h22]
  try simp only [k_lit, k_nN, k_ofN, pk_mul, nI_add]
  simp (disch := omega) only [i_leT, i_leF, i_ltT, i_ltF, i_eqT, i_eqF, i_okT, i_n1, i_n2, i_n3, i_n4, i_n5, i_n6, i_n7, i_n8, k_cl, if_true, if_false]
  rw [sX9_perhapsB m, b_bi]
  exact e
def bkr (B : Nat → Nat) (n f : Nat) (D : DR) : LR := if 12 ≤ D.1 then .inr (2, f) else
  if nmc B n (nx B n f) 1 ≠ 0 then .inr (nmc B n (nx B n f) 1, nx B n f) else
  match phr B n (nx B n (nx B n f)) 1 with
  | .inr e => .inr e
  | .inl (v1, g1) => match phr B n g1 2 with
    | .inr e => .inr e
    | .inl (v2, g2) => match phr B n g2 3 with
      | .inr e => .inr e
      | .inl (v3, g3) => match owr B n g3 D.2.1 with
        | .inr e => .inr e
        | .inl (o, g4) => .inl (g4, (D.1 + 1, D.2.1, D.2.2.1, upI (upI (upI (upI D.2.2.2.1 (4 * D.1) (nI (nm B n (nx B n f)))) (4 * D.1 + 1) (nI v1)) (4 * D.1 + 2) (nI v2)) (4 * D.1 + 3) (nI v3), upI D.2.2.2.2.1 D.1 o, D.2.2.2.2.2.1, D.2.2.2.2.2.2))
/-- the draft with a part more -/
def MDp (nb nr hl : Nat) (pt ow wt : Nat → Int32) (s : aMem) : Prop := s.1 43 22 = nI nb ∧ s.1 43 23 = nI nr ∧ s.1 43 27 = nI hl ∧ (∀ j, j < 4 * nb + 4 → s.1 52 j = pt j) ∧ (∀ b, b < nb → s.1 53 b = ow b) ∧ (∀ r, r < nr → s.1 54 r = wt r)
def MPt (nb nr hl m : Nat) (pt ow wt : Nat → Int32) (c : List (Nat × Nat)) (s : aMem) : Prop := s.1 43 22 = nI nb ∧ s.1 43 23 = nI nr ∧ s.1 43 27 = nI hl ∧ (∀ j, j < m → s.1 52 j = pt j) ∧ (∀ b, b < nb → s.1 53 b = ow b) ∧ (∀ r, r < nr → s.1 54 r = wt r) ∧ MC c s
theorem MPt_W {nb nr hl m : Nat} {pt ow wt : Nat → Int32} {c : List (Nat × Nat)} {s t : aMem} (h : MPt nb nr hl m pt ow wt c s) (hf : frW s t) : MPt nb nr hl m pt ow wt c t := by
  obtain ⟨a1, a2, a3, a4, a5, a6, a7⟩ := h
  exact ⟨by rw [hf.1 43 22 (by simp) (by decide)]; exact a1, by rw [hf.1 43 23 (by simp) (by decide)]; exact a2, by rw [hf.1 43 27 (by simp) (by decide)]; exact a3, fun j hj => by rw [hf.1 52 j (by simp) (by simp)]; exact a4 j hj, fun j hj => by rw [hf.1 53 j (by simp) (by simp)]; exact a5 j hj, fun j hj => by rw [hf.1 54 j (by simp) (by simp)]; exact a6 j hj, MC_W a7 hf⟩
theorem MPt_si {nb nr hl m : Nat} {pt ow wt : Nat → Int32} {c : List (Nat × Nat)} {s : aMem} {v : Int32} (h : MPt nb nr hl m pt ow wt c s) : MPt nb nr hl (m + 1) (upI pt m v) ow wt c (a_si s 52 m v) := by
  obtain ⟨a1, a2, a3, a4, a5, a6, a7⟩ := h
  refine ⟨by simpa [m_si] using a1, by simpa [m_si] using a2, by simpa [m_si] using a3, fun j hj => ?_, fun j hj => by simpa [m_si] using a5 j hj, fun j hj => by simpa [m_si] using a6 j hj, fun j x hj => by simpa [m_si] using a7 j x hj⟩
  by_cases e : j = m
  · simp [m_si, e, upI]
  · have := a4 j (by omega)
    simpa [m_si, e, upI] using this
theorem MG_si {B : Nat → Nat} {n f k j : Nat} {v : Int32} {s : aMem} (h : MG B n f s) (hk : k ≠ 43 ∧ k ≠ 50) : MG B n f (a_si s k j v) := by
  have F : fr [k] [] s (a_si s k j v) := fr_si (fr_rfl s) (by simp)
  refine ⟨MT_fr h.1 F ?_ rfl, ?_⟩
  · simp [hk.1, hk.2]
  · rw [F.1 43 11 (by simp [hk.1.symm]) (by simp)]; exact h.2
theorem ml_book {B : Nat → Nat} {n f : Nat} {D : DR} {s : aMem} (hn : n ≤ 700) (hB : ∀ j, j < n → B j < 256) (hr : D.2.1 ≤ 5) (hb : D.1 ≤ 12) (h : MD B n f D s) (hw : isW B n f 5 = true) : MLr B n (fX9_line [.ref 43] s) s (semi B n (bkr B n f D)) := by
  obtain ⟨nb, nr, hl, pt, ow, wt, c⟩ := D
  simp only at hr hb
  obtain ⟨hG, hD, hC⟩ := id h
  obtain ⟨a1, a2, a3, a4, a5, a6⟩ := id hD
  simp only at a1 a2 a3 a4 a5 a6
  have start : fX9_line [.ref 43] s = if nI nb = nI 12 then (a_bv (fX9_wrong [.ref 43, .int (nI 2)] s) (fun s5 => a_run none shp pX9_line 77 [some (.ref 43), none, none, none] [] s5) none (fun x s5 => some (.inr x, s5))) else (a_run none shp pX9_line 77 [some (.ref 43), none, none, none] [] s) := by
    rw [tX9_line, sX9_knownWord hn hG.1, b_bi, tX9_line_4, wd_some (by omega) hw, show oI (some 5) = nI 5 from rfl, a1]
    try simp only [k_lit, k_nN, k_ofN]
    simp (disch := omega) only [i_leT, i_leF, i_ltT, i_ltF, i_eqT, i_eqF, i_okT, i_n1, i_n2, i_n3, i_n4, i_n5, i_n6, i_n7, i_n8, k_cl, if_true, if_false]
  unfold bkr
  simp only
  by_cases e12 : 12 ≤ nb
  · rw [if_pos e12]
    have : nb = 12 := by omega
    obtain ⟨u1, e1, f1, m1⟩ := MG_wrong (k := 2) hG (by omega)
    refine ⟨u1, ?_, frL_W (frW_w f1), m1⟩
    rw [start, this, i_eqT rfl, e1, b_bv, tX9_line_77, MEd_F m1, b_bi, tX9_line_81]
    try simp only [k_lit, k_nN, k_ofN]
    simp (disch := omega) only [i_leT, i_leF, i_ltT, i_ltF, i_eqT, i_eqF, i_okT, i_n1, i_n2, i_n3, i_n4, i_n5, i_n6, i_n7, i_n8, k_cl, if_true, if_false]
  · rw [if_neg e12]
    have hb' : nb < 12 := by omega
    obtain ⟨u1, e1, f1, m1⟩ := MG_goes hn hB hG
    have P1 : MPt nb nr hl (4 * nb) pt ow wt c u1 := MPt_W ⟨a1, a2, a3, a4, a5, a6, hC⟩ (frW_g f1)
    have F1 : frL s u1 := frL_W (frW_g f1)
    have start2 : fX9_line [.ref 43] s = a_bi (fX9_number [.ref 43, .int (nI 1), .int (nI 99)] u1) (fun r2 s1 => a_run none shp pX9_line 106 [some (.ref 43), none, none, none] [.int r2, .int (nI (4 * nb)), .ref 52] s1) none (fun x s5 => some (.inr x, s5)) := by
      rw [start, i_eqF (by omega) (by omega) (by omega), tX9_line_77, sX9_isGoodT hG.2, b_bi, tX9_line_81]
      try simp only [k_lit, k_nN, k_ofN]
      simp (disch := omega) only [i_leT, i_leF, i_ltT, i_ltF, i_eqT, i_eqF, i_okT, i_n1, i_n2, i_n3, i_n4, i_n5, i_n6, i_n7, i_n8, k_cl, if_true, if_false]
      rw [e1, b_bv, tX9_line_89, P1.1]
      try simp only [k_lit, k_nN, k_ofN, pk_mul]
    rcases sX9_number (least := 1) hn hB (by omega) m1 with ⟨q0, u2, q1, f2, m2⟩ | ⟨q0, v, u2, q1, f2, m2⟩
    · rw [if_neg (by rw [q0]; simp)]
      have P2 := MPt_si (v := nI (nm B n (nx B n f))) (MPt_W P1 f2)
      have G2 := MG_si (k := 52) (j := 4 * nb) (v := nI (nm B n (nx B n f))) m2 (by decide)
      have F2 : frL s (a_si u2 52 (4 * nb) (nI (nm B n (nx B n f)))) := fr_si (frL_tr F1 (frL_W f2)) (by simp)
      have start3 : fX9_line [.ref 43] s = a_bi (fX9_perhaps [.ref 43, .int (nI 1)] (a_si u2 52 (4 * nb) (nI (nm B n (nx B n f))))) (fun r2 s1 => a_run none shp pX9_line 124 [some (.ref 43), none, none, none] [.int r2, .int (nI (4 * nb + 1)), .ref 52] s1) none (fun x s5 => some (.inr x, s5)) := by
        rw [start2, q1, b_bi, tX9_line_106, (MPt_W P1 f2).1]
        try simp only [k_lit, k_nN, k_ofN, pk_mul, nI_add]
        simp (disch := omega) only [i_leT, i_leF, i_ltT, i_ltF, i_eqT, i_eqF, i_okT, i_n1, i_n2, i_n3, i_n4, i_n5, i_n6, i_n7, i_n8, k_cl, if_true, if_false]
      rcases sX9_perhaps (k := 1) hn hB (by omega) G2 with ⟨v1, g1, u3, r1, q3, f3, m3⟩ | ⟨e, v1, u3, r1, q3, f3, m3⟩
      · rw [r1]
        have P3 := MPt_si (v := nI v1) (MPt_W P2 f3)
        have G3 := MG_si (k := 52) (j := 4 * nb + 1) (v := nI v1) m3 (by decide)
        have F3 : frL s (a_si u3 52 (4 * nb + 1) (nI v1)) := fr_si (frL_tr F2 (frL_W f3)) (by simp)
        have start4 : fX9_line [.ref 43] s = a_bi (fX9_perhaps [.ref 43, .int (nI 2)] (a_si u3 52 (4 * nb + 1) (nI v1))) (fun r2 s1 => a_run none shp pX9_line 142 [some (.ref 43), none, none, none] [.int r2, .int (nI (4 * nb + 2)), .ref 52] s1) none (fun x s5 => some (.inr x, s5)) := by
          rw [start3, q3, b_bi, tX9_line_124, (MPt_W P2 f3).1]
          try simp only [k_lit, k_nN, k_ofN, pk_mul, nI_add]
          simp (disch := omega) only [i_leT, i_leF, i_ltT, i_ltF, i_eqT, i_eqF, i_okT, i_n1, i_n2, i_n3, i_n4, i_n5, i_n6, i_n7, i_n8, k_cl, if_true, if_false]
        simp only
        rcases sX9_perhaps (k := 2) hn hB (by omega) G3 with ⟨v2, g2, u4, r2, q4, f4, m4⟩ | ⟨e, v2, u4, r2, q4, f4, m4⟩
        · rw [r2]
          have P4 := MPt_si (v := nI v2) (MPt_W P3 f4)
          have G4 := MG_si (k := 52) (j := 4 * nb + 1 + 1) (v := nI v2) m4 (by decide)
          have F4 : frL s (a_si u4 52 (4 * nb + 1 + 1) (nI v2)) := fr_si (frL_tr F3 (frL_W f4)) (by simp)
          have start5 : fX9_line [.ref 43] s = a_bi (fX9_perhaps [.ref 43, .int (nI 3)] (a_si u4 52 (4 * nb + 1 + 1) (nI v2))) (fun r2 s1 => a_run none shp pX9_line 160 [some (.ref 43), none, none, none] [.int r2, .int (nI (4 * nb + 3)), .ref 52] s1) none (fun x s5 => some (.inr x, s5)) := by
            rw [start4, q4, b_bi, tX9_line_142, (MPt_W P3 f4).1]
            try simp only [k_lit, k_nN, k_ofN, pk_mul, nI_add]
            simp (disch := omega) only [i_leT, i_leF, i_ltT, i_ltF, i_eqT, i_eqF, i_okT, i_n1, i_n2, i_n3, i_n4, i_n5, i_n6, i_n7, i_n8, k_cl, if_true, if_false]
          simp only
          rcases sX9_perhaps (k := 3) hn hB (by omega) G4 with ⟨v3, g3, u5, r3, q5, f5, m5⟩ | ⟨e, v3, u5, r3, q5, f5, m5⟩
          · rw [r3]
            simp only
            have P5 := MPt_si (v := nI v3) (MPt_W P4 f5)
            have G5 := MG_si (k := 53) (j := nb) (v := nN) (MG_si (k := 52) (j := 4 * nb + 3) (v := nI v3) m5 (by decide)) (by decide)
            have F5 : frL s (a_si (a_si u5 52 (4 * nb + 3) (nI v3)) 53 nb nN) := fr_si (fr_si (frL_tr F4 (frL_W f5)) (by simp)) (by simp)
            have start6 : fX9_line [.ref 43] s = a_run none shp pX9_line 182 [some (.ref 43), none, none, none] [.int (oI (wd B n g3))] (a_si (a_si u5 52 (4 * nb + 3) (nI v3)) 53 nb nN) := by
              rw [start5, q5, b_bi, tX9_line_160, (MPt_W P4 f5).1]
              try simp only [k_lit, k_nN, k_ofN, pk_mul, nI_add]
              simp (disch := omega) only [i_leT, i_leF, i_ltT, i_ltF, i_eqT, i_eqF, i_okT, i_n1, i_n2, i_n3, i_n4, i_n5, i_n6, i_n7, i_n8, k_cl, if_true, if_false]
              rw [sX9_isGoodT G5.2, b_bi, tX9_line_175]
              try simp only [k_lit, k_nN, k_ofN]
              simp (disch := omega) only [i_leT, i_leF, i_ltT, i_ltF, i_eqT, i_eqF, i_okT, i_n1, i_n2, i_n3, i_n4, i_n5, i_n6, i_n7, i_n8, k_cl, if_true, if_false]
              rw [sX9_knownWord hn G5.1, b_bi]
            have fin : ∀ (o : Int32) (g : Nat) (t : aMem), fX9_line [.ref 43] s = a_run none shp pX9_line 361 [some (.ref 43), none, none, none] [] (a_si t 43 22 (nI (nb + 1))) → frL s t → MG B n g t → MPt nb nr hl (4 * nb + 4) (upI (upI (upI (upI pt (4 * nb) (nI (nm B n (nx B n f)))) (4 * nb + 1) (nI v1)) (4 * nb + 2) (nI v2)) (4 * nb + 3) (nI v3)) ow wt c t → t.1 53 nb = o → MLr B n (fX9_line [.ref 43] s) s (semi B n (.inl (g, (nb + 1, nr, hl, upI (upI (upI (upI pt (4 * nb) (nI (nm B n (nx B n f)))) (4 * nb + 1) (nI v1)) (4 * nb + 2) (nI v2)) (4 * nb + 3) (nI v3), upI ow nb o, wt, c)))) := by
              intro o g t h1 h2 h3 h4 h5
              have F : fr [] [(43, 22)] t (a_si t 43 22 (nI (nb + 1))) := fr_si (fr_rfl t) (by simp)
              obtain ⟨b1, b2, b3, b4, b5, b6, b7⟩ := h4
              refine tl_go hn hB h1 (frL_tr h2 (frL_of F (by decide) (by decide))) ⟨⟨MT_fr h3.1 F rfl rfl, by rw [F.1 43 11 (by simp) (by decide)]; exact h3.2⟩, ⟨by simp [m_si], by rw [F.1 43 23 (by simp) (by decide)]; exact b2, by rw [F.1 43 27 (by simp) (by decide)]; exact b3, fun j hj => by rw [F.1 52 j (by simp) (by simp)]; exact b4 j (by simp only at hj; omega), fun b hb => ?_, fun r hr => by rw [F.1 54 r (by simp) (by simp)]; exact b6 r hr⟩, fun j x hj => by rw [F.1 55 j (by simp) (by simp)]; exact b7 j x hj⟩
              rw [F.1 53 b (by simp) (by simp)]
              by_cases e : b = nb
              · rw [e]; simp only; rw [upI_s]; exact h5
              · simp only at hb ⊢
                rw [upI_n e]
                exact b5 b (by omega)
            have P6 : MPt nb nr hl (4 * nb + 4) (upI (upI (upI (upI pt (4 * nb) (nI (nm B n (nx B n f)))) (4 * nb + 1) (nI v1)) (4 * nb + 2) (nI v2)) (4 * nb + 3) (nI v3)) ow wt c (a_si (a_si u5 52 (4 * nb + 3) (nI v3)) 53 nb nN) := by
              obtain ⟨b1, b2, b3, b4, b5, b6, b7⟩ := P5
              refine ⟨by simpa [m_si] using b1, by simpa [m_si] using b2, by simpa [m_si] using b3, fun j hj => ?_, fun j hj => ?_, fun j hj => by simpa [m_si] using b6 j hj, fun j x hj => by simpa [m_si] using b7 j x hj⟩
              · have := b4 j hj
                simpa [m_si] using this
              · have := b5 j hj
                have e : j ≠ nb := by omega
                simpa [m_si, e] using this
            cases e8 : isW B n g3 8
            · have ho : owr B n g3 nr = .inl (nN, g3) := by rw [owr, if_neg (by rw [e8]; simp)]
              rw [ho]
              refine fin nN g3 _ ?_ F5 G5 P6 (by simp [m_si])
              rw [start6, tX9_line_182]
              try simp only [k_lit, k_nN, k_ofN]
              rw [if_neg (by rw [wd_ne (by omega), e8]; simp), sX9_isGoodT G5.2, b_bi, tX9_line_212, P6.1]
              try simp only [k_lit, k_nN, k_ofN, nI_add]
              simp (disch := omega) only [i_leT, i_leF, i_ltT, i_ltF, i_eqT, i_eqF, i_okT, i_n1, i_n2, i_n3, i_n4, i_n5, i_n6, i_n7, i_n8, k_cl, if_true, if_false]
            · obtain ⟨u6, e6, f6, m6⟩ := MG_goes hn hB G5
              have P7 := MPt_W P6 (frW_g f6)
              have start7 : fX9_line [.ref 43] s = a_bi (fX9_among [.ref 43, .int (nI nr)] u6) (fun r2 s1 => a_run none shp pX9_line 207 [some (.ref 43), none, none, none] [.int r2, .int (nI nb), .ref 53] s1) none (fun x s5 => some (.inr x, s5)) := by
                rw [start6, tX9_line_182]
                try simp only [k_lit, k_nN, k_ofN]
                rw [if_pos (by rw [wd_ne (by omega)]; exact e8), e6, b_bv, tX9_line_191, P7.1, P7.2.1]
              rcases sX9_among hn hB (by omega : nr < 1000) m6 with ⟨g0, gx, u7, q7, f7, m7⟩ | ⟨g0, u7, q7, f7, m7⟩
              · have ho : owr B n g3 nr = .inl (nI (nm B n (nx B n g3)), nx B n (nx B n g3)) := by rw [owr, if_pos e8, if_pos g0]
                rw [ho]
                have P8 := MPt_W P7 f7
                have G8 := MG_si (k := 53) (j := nb) (v := nI (nm B n (nx B n g3))) m7 (by decide)
                refine fin _ _ (a_si u7 53 nb (nI (nm B n (nx B n g3)))) ?_ (fr_si (frL_tr F5 (frL_tr (frL_W (frW_g f6)) (frL_W f7))) (by simp)) G8 ?_ (by simp [m_si])
                · rw [start7, q7, b_bi, tX9_line_207]
                  try simp only [k_lit, k_nN, k_ofN]
                  simp (disch := omega) only [i_leT, i_leF, i_ltT, i_ltF, i_eqT, i_eqF, i_okT, i_n1, i_n2, i_n3, i_n4, i_n5, i_n6, i_n7, i_n8, k_cl, if_true, if_false]
                  rw [sX9_isGoodT G8.2, b_bi, tX9_line_212]
                  try simp only [k_lit, k_nN, k_ofN]
                  simp (disch := omega) only [i_leT, i_leF, i_ltT, i_ltF, i_eqT, i_eqF, i_okT, i_n1, i_n2, i_n3, i_n4, i_n5, i_n6, i_n7, i_n8, k_cl, if_true, if_false]
                  rw [show (a_si u7 53 nb (nI (nm B n (nx B n g3)))).1 43 22 = nI nb by simpa [m_si] using P8.1, nI_add]
                · obtain ⟨b1, b2, b3, b4, b5, b6, b7⟩ := P8
                  refine ⟨by simpa [m_si] using b1, by simpa [m_si] using b2, by simpa [m_si] using b3, fun j hj => by simpa [m_si] using b4 j hj, fun j hj => ?_, fun j hj => by simpa [m_si] using b6 j hj, fun j x hj => by simpa [m_si] using b7 j x hj⟩
                  have := b5 j hj
                  have e : j ≠ nb := by omega
                  simpa [m_si, e] using this
              · have ho : owr B n g3 nr = .inr (amc B n (nx B n g3) nr, nx B n g3) := by rw [owr, if_pos e8, if_neg g0]
                rw [ho]
                have F7 : fr [53] [] u7 (a_si u7 53 nb (nI 0)) := fr_si (fr_rfl u7) (by simp)
                have M8 := MEd_fr m7 F7 rfl rfl
                refine tl_goF (u := a_si u7 53 nb (nI 0)) ?_ (fr_si (frL_tr F5 (frL_tr (frL_W (frW_g f6)) (frL_W f7))) (by simp)) M8
                rw [start7, q7, b_bi, tX9_line_207]
                try simp only [k_lit, k_nN, k_ofN]
                simp (disch := omega) only [i_leT, i_leF, i_ltT, i_ltF, i_eqT, i_eqF, i_okT, i_n1, i_n2, i_n3, i_n4, i_n5, i_n6, i_n7, i_n8, k_cl, if_true, if_false]
                rw [MEd_F M8, b_bi, tX9_line_212]
                try simp only [k_lit, k_nN, k_ofN]
                simp (disch := omega) only [i_leT, i_leF, i_ltT, i_ltF, i_eqT, i_eqF, i_okT, i_n1, i_n2, i_n3, i_n4, i_n5, i_n6, i_n7, i_n8, k_cl, if_true, if_false]
          · rw [r3]
            obtain ⟨u, e', f', m'⟩ := bk160 (w := v3) m5 hb' (MPt_W P4 f5).1
            exact ⟨u, by rw [start5, q5, b_bi, e'], frL_tr F4 (frL_tr (frL_W f5) f'), m'⟩
        · rw [r2]
          obtain ⟨u, e', f', m'⟩ := bk142 (w := v2) m4 hb' (MPt_W P3 f4).1
          exact ⟨u, by rw [start4, q4, b_bi, e'], frL_tr F3 (frL_tr (frL_W f4) f'), m'⟩
      · rw [r1]
        obtain ⟨u, e', f', m'⟩ := bk124 (w := v1) m3 hb' (MPt_W P2 f3).1
        exact ⟨u, by rw [start3, q3, b_bi, e'], frL_tr F2 (frL_tr (frL_W f3) f'), m'⟩
    · rw [if_pos q0]
      obtain ⟨u, e', f', m'⟩ := bk106 (w := v) m2 hb' (MPt_W P1 f2).1
      exact ⟨u, by rw [start2, q1, b_bi, e'], frL_tr F1 (frL_tr (frL_W f2) f'), m'⟩
