/-! ===== the model's line of the law ===== -/
theorem nI_back (x : Int32) : nI x.toBitVec.toNat = x := by
  apply k_inj
  rw [k_bv]
  simp
theorem ex_start {B : Nat → Nat} {n f : Nat} {s : aMem} (h : MG B n f s) (h24 : s.1 43 24 = nI 0) : ∃ u ts, fX9_expression [.ref 43] s = OPl 1 u ∧ frM s u ∧ ME B n f [] [] 1 ts u ∧ ts 1 = 0 := by
  have F : fr [] [(43, 25), (43, 26)] s (a_si (a_si s 43 25 (nI 0)) 43 26 (nI 0)) := fr_si (fr_si (fr_rfl s) (by simp)) (by simp)
  have M0 : ME B n f [] [] 0 (fun j => (s.1 57 j).toBitVec.toNat) (a_si (a_si s 43 25 (nI 0)) 43 26 (nI 0)) := by
    refine ⟨MT_fr h.1 F rfl rfl, by rw [F.1 43 11 (by simp) (by decide)]; exact h.2, ⟨⟨by simp [m_si], trivial, by simp, fun x hx => by cases hx⟩, by simpa [m_si] using h24, fun j x hj => by simp at hj, by simp⟩, ⟨by simp [m_si], by omega⟩, fun j hj => ⟨?_, (s.1 57 j).toBitVec.isLt⟩, by simp, by simp⟩
    rw [F.1 57 j (by simp) (by simp), nI_back]
  obtain ⟨u, e, f1, m⟩ := ME_deep M0 (by omega)
  refine ⟨u, _, ?_, frM_tr (frM_of F (by decide) (by decide)) f1, m, upN_s _ _ _⟩
  rw [tX9_expression, sX9_isGoodT h.2, b_bi, tX9_expression_4]
  try simp only [k_lit, k_nN, k_ofN]
  simp (disch := omega) only [i_leT, i_leF, i_ltT, i_ltF, i_eqT, i_eqF, i_okT, i_n1, i_n2, i_n3, i_n4, i_n5, i_n6, i_n7, i_n8, k_cl, if_true, if_false]
  rw [e, b_bv, tX9_expression_22]
  try simp only [k_lit, k_nN, k_ofN]
  rw [← OP_op]
  congr 1
  funext s1
  rw [tX9_expression_27]
  try simp only [k_lit, k_nN, k_ofN]
def lwr (D : DR) (r : PR) : LR := match r with
  | .inl (g, c) => .inl (g, (D.1, D.2.1, 1, D.2.2.2.1, D.2.2.2.2.1, D.2.2.2.2.2.1, c))
  | .inr e => .inr e
theorem ml_law2 {B : Nat → Nat} {n f : Nat} {D : DR} {s : aMem} (hn : n ≤ 700) (h : MD B n f D s) (hw : isW B n f 7 = true) (hl : D.2.2.1 = 1) : MLr B n (fX9_line [.ref 43] s) s (.inr (4, f)) := by
  obtain ⟨nb, nr, hl', pt, ow, wt, c⟩ := D
  simp only at hl
  subst hl
  obtain ⟨hG, hD, hC⟩ := id h
  have a3 := hD.2.2.1
  simp only at a3
  obtain ⟨u1, e1, f1, m1⟩ := MG_wrong (k := 4) hG (by omega)
  refine ⟨u1, ?_, frL_W (frW_w f1), m1⟩
  rw [tX9_line, sX9_knownWord hn hG.1, b_bi, tX9_line_4, wd_some (by omega) hw, show oI (some 7) = nI 7 from rfl, a3]
  try simp only [k_lit, k_nN, k_ofN]
  simp (disch := omega) only [i_leT, i_leF, i_ltT, i_ltF, i_eqT, i_eqF, i_okT, i_n1, i_n2, i_n3, i_n4, i_n5, i_n6, i_n7, i_n8, k_cl, if_true, if_false]
  rw [e1, b_bv, tX9_line_327, MEd_F m1, b_bi, tX9_line_331]
  try simp only [k_lit, k_nN, k_ofN]
  simp (disch := omega) only [i_leT, i_leF, i_ltT, i_ltF, i_eqT, i_eqF, i_okT, i_n1, i_n2, i_n3, i_n4, i_n5, i_n6, i_n7, i_n8, k_cl, if_true, if_false]
theorem ml_law {B : Nat → Nat} {n f : Nat} {D : DR} {s : aMem} {r : PR} (hn : n ≤ 700) (hB : ∀ j, j < n → B j < 256) (h : MD B n f D s) (hw : isW B n f 7 = true) (hl : D.2.2.1 = 0) (hQ : Ql B n 0 0 (nx B n f) r) : MLr B n (fX9_line [.ref 43] s) s (semi B n (lwr D r)) := by
  obtain ⟨nb, nr, hl', pt, ow, wt, c⟩ := D
  simp only at hl
  subst hl
  obtain ⟨hG, hD, hC⟩ := id h
  obtain ⟨a1, a2, a3, a4, a5, a6⟩ := id hD
  simp only at a1 a2 a3 a4 a5 a6
  have F1 : fr [] [(43, 27)] s (a_si s 43 27 (nI 1)) := fr_si (fr_rfl s) (by simp)
  have G1 : MG B n f (a_si s 43 27 (nI 1)) := ⟨MT_fr hG.1 F1 rfl rfl, by rw [F1.1 43 11 (by simp) (by decide)]; exact hG.2⟩
  have D1 : MDr nb nr 1 pt ow wt (a_si s 43 27 (nI 1)) := ⟨by simpa [m_si] using a1, by simpa [m_si] using a2, by simp [m_si], fun j hj => by simpa [m_si] using a4 j hj, fun j hj => by simpa [m_si] using a5 j hj, fun j hj => by simpa [m_si] using a6 j hj⟩
  obtain ⟨u2, e2, f2, m2⟩ := MG_goes hn hB G1
  have D2 := MDr_W D1 (frW_g f2)
  have F3 : fr [] [(43, 24)] u2 (a_si u2 43 24 (nI 0)) := fr_si (fr_rfl u2) (by simp)
  have G3 : MG B n (nx B n f) (a_si u2 43 24 (nI 0)) := ⟨MT_fr m2.1 F3 rfl rfl, by rw [F3.1 43 11 (by simp) (by decide)]; exact m2.2⟩
  have D3 : MDr nb nr 1 pt ow wt (a_si u2 43 24 (nI 0)) := MDr_M D2 (frM_of F3 (by decide) (by decide))
  obtain ⟨u4, ts, e4, f4, m4, t4⟩ := ex_start G3 (by simp [m_si])
  have FF : frL s u4 := frL_tr (frL_of F1 (by decide) (by decide)) (frL_tr (frL_W (frW_g f2)) (frL_tr (frL_of F3 (by decide) (by decide)) (frL_M f4)))
  have D4 := MDr_M D3 f4
  have start : fX9_line [.ref 43] s = a_bv (OPl 1 u4) (fun s1 => a_run none shp pX9_line 361 [some (.ref 43), none, none, none] [] s1) none (fun x s1 => some (.inr x, s1)) := by
    rw [tX9_line, sX9_knownWord hn hG.1, b_bi, tX9_line_4, wd_some (by omega) hw, show oI (some 7) = nI 7 from rfl, a3]
    try simp only [k_lit, k_nN, k_ofN]
    simp (disch := omega) only [i_leT, i_leF, i_ltT, i_ltF, i_eqT, i_eqF, i_okT, i_n1, i_n2, i_n3, i_n4, i_n5, i_n6, i_n7, i_n8, k_cl, if_true, if_false]
    rw [tX9_line_327, sX9_isGoodT hG.2, b_bi, tX9_line_331]
    try simp only [k_lit, k_nN, k_ofN]
    simp (disch := omega) only [i_leT, i_leF, i_ltT, i_ltF, i_eqT, i_eqF, i_okT, i_n1, i_n2, i_n3, i_n4, i_n5, i_n6, i_n7, i_n8, k_cl, if_true, if_false]
    rw [e2, b_bv, tX9_line_344]
    try simp only [k_lit, k_nN, k_ofN]
    rw [e4]
  have R := hQ.2.2 0 u4 [] [] ts m4 (fun _ => t4) (fun x W' e => by cases e)
  rw [stt_0] at R
  rcases r with ⟨g, c'⟩ | ⟨k, p⟩
  · obtain ⟨v, P, O', ts', q1, q2, q3, q4, q5, q6, q7, q8⟩ := R
    obtain ⟨w, w1, w2, w3, w4, w5⟩ := ML_fin hn hB q3 (fun x hx => (q5 x hx).1) (nop_of hQ.1.2.2.2.2 (q8 (by decide)))
    refine tl_go hn hB (u := w) ?_ (frL_tr FF (frL_M (frM_tr q2 w2))) ⟨⟨w3, w4⟩, MDr_M D4 (frM_tr q2 w2), ?_⟩
    · rw [start, q1, w1, b_bv]
    · rw [q4] at w5
      exact w5
  · obtain ⟨v, q1, q2, q3⟩ := R
    refine tl_goF (u := v) ?_ (frL_tr FF (frL_M q2)) q3
    rw [start, q1, b_bv]
