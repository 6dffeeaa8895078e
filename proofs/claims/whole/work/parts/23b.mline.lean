/-! ===== the model's lines ===== -/
abbrev DR := Nat × Nat × Nat × (Nat → Int32) × (Nat → Int32) × (Nat → Int32) × List (Nat × Nat)
abbrev LR := Sum (Nat × DR) (Nat × Nat)
def upI (f : Nat → Int32) (d : Nat) (e : Int32) : Nat → Int32 := fun i => if i = d then e else f i
theorem upI_s (f : Nat → Int32) (d : Nat) (e : Int32) : upI f d e d = e := by simp [upI]
theorem upI_n {f : Nat → Int32} {d i : Nat} {e : Int32} (h : i ≠ d) : upI f d e i = f i := by simp [upI, h]
/-- books, readers, law told; parts, owners, wants: as the model has them -/
def MDr (nb nr hl : Nat) (pt ow wt : Nat → Int32) (s : aMem) : Prop := s.1 43 22 = nI nb ∧ s.1 43 23 = nI nr ∧ s.1 43 27 = nI hl ∧ (∀ j, j < 4 * nb → s.1 52 j = pt j) ∧ (∀ b, b < nb → s.1 53 b = ow b) ∧ (∀ r, r < nr → s.1 54 r = wt r)
def MC (c : List (Nat × Nat)) (s : aMem) : Prop := ∀ j x, (mcode c)[j]? = some x → s.1 55 j = x
def MD (B : Nat → Nat) (n f : Nat) (D : DR) (s : aMem) : Prop := MG B n f s ∧ MDr D.1 D.2.1 D.2.2.1 D.2.2.2.1 D.2.2.2.2.1 D.2.2.2.2.2.1 s ∧ MC D.2.2.2.2.2.2 s
def frLl : List (Nat × Nat) := [(43, 11), (43, 12), (43, 15), (43, 16), (43, 17), (43, 18), (43, 19), (43, 20), (43, 21), (43, 22), (43, 23), (43, 24), (43, 25), (43, 26), (43, 27)]
def frL (s u : aMem) : Prop := fr [52, 53, 54, 55, 56, 57] frLl s u
theorem frL_tr {s t u : aMem} (h : frL s t) (h2 : frL t u) : frL s u := fr_trans h h2
theorem frL_of {K : List Nat} {F : List (Nat × Nat)} {s u : aMem} (h : fr K F s u) (h1 : (K.all fun k => [52, 53, 54, 55, 56, 57].contains k) = true) (h2 : (F.all fun q => frLl.contains q) = true) : frL s u := by
  refine fr_mono h (fun k hk => ?_) (fun q hq => .inr ?_)
  · exact List.contains_iff_mem.mp (List.all_eq_true.mp h1 k hk)
  · exact List.contains_iff_mem.mp (List.all_eq_true.mp h2 q hq)
theorem frL_W {s u : aMem} (h : frW s u) : frL s u := frL_of h (by decide) (by decide)
theorem frL_M {s u : aMem} (h : frM s u) : frL s u := frL_of h (by decide) (by decide)
/-- what the draft rests on stays -/
theorem MDr_c {nb nr hl : Nat} {pt ow wt : Nat → Int32} {s t : aMem} (h : MDr nb nr hl pt ow wt s) (h1 : ∀ j, j = 22 ∨ j = 23 ∨ j = 27 → t.1 43 j = s.1 43 j) (h2 : ∀ k j, k = 52 ∨ k = 53 ∨ k = 54 → t.1 k j = s.1 k j) : MDr nb nr hl pt ow wt t := by
  obtain ⟨a1, a2, a3, a4, a5, a6⟩ := h
  exact ⟨by rw [h1 22 (by simp)]; exact a1, by rw [h1 23 (by simp)]; exact a2, by rw [h1 27 (by simp)]; exact a3, fun j hj => by rw [h2 52 j (by simp)]; exact a4 j hj, fun j hj => by rw [h2 53 j (by simp)]; exact a5 j hj, fun j hj => by rw [h2 54 j (by simp)]; exact a6 j hj⟩
theorem MDr_W {nb nr hl : Nat} {pt ow wt : Nat → Int32} {s t : aMem} (h : MDr nb nr hl pt ow wt s) (hf : frW s t) : MDr nb nr hl pt ow wt t := by
  refine MDr_c h (fun j hj => hf.1 43 j (by simp) ?_) (fun k j hk => hf.1 k j (by simp) ?_)
  · rcases hj with e | e | e <;> subst e <;> decide
  · rcases hk with e | e | e <;> subst e <;> simp
theorem MDr_M {nb nr hl : Nat} {pt ow wt : Nat → Int32} {s t : aMem} (h : MDr nb nr hl pt ow wt s) (hf : frM s t) : MDr nb nr hl pt ow wt t := by
  refine MDr_c h (fun j hj => hf.1 43 j (by decide) ?_) (fun k j hk => hf.1 k j ?_ ?_)
  · rcases hj with e | e | e <;> subst e <;> decide
  · rcases hk with e | e | e <;> subst e <;> decide
  · rcases hk with e | e | e <;> subst e <;> simp [frMl]
theorem MC_W {c : List (Nat × Nat)} {s t : aMem} (h : MC c s) (hf : frW s t) : MC c t := fun j x hj => by rw [hf.1 55 j (by simp) (by simp)]; exact h j x hj
theorem MD_W {B : Nat → Nat} {n f g : Nat} {D : DR} {s t : aMem} (h : MD B n f D s) (hf : frW s t) (hg : MG B n g t) : MD B n g D t := ⟨hg, MDr_W h.2.1 hf, MC_W h.2.2 hf⟩
/-- a line's outcome -/
def MLr (B : Nat → Nat) (n : Nat) (A : Option aRes) (s : aMem) (r : LR) : Prop := match r with
  | .inl (g, D) => ∃ u, A = some (.inl none, u) ∧ frL s u ∧ MD B n g D u
  | .inr (k, p) => ∃ u, A = some (.inl none, u) ∧ frL s u ∧ MEd n k p u
def semi (B : Nat → Nat) (n : Nat) (r : LR) : LR := match r with
  | .inl (g, D) => if sgn B n g 59 = true then .inl (nx B n g, D) else .inr (1, g)
  | .inr e => .inr e
theorem tl_go {B : Nat → Nat} {n g : Nat} {D : DR} {s u : aMem} {A : Option aRes} (hn : n ≤ 700) (hB : ∀ j, j < n → B j < 256) (hA : A = a_run none shp pX9_line 361 [some (.ref 43), none, none, none] [] u) (hf : frL s u) (h : MD B n g D u) : MLr B n A s (semi B n (.inl (g, D))) := by
  obtain ⟨v, e, f, m⟩ := tl_ok hn hB h.1
  rcases m with ⟨c, m⟩ | ⟨c, m⟩
  · simp only [semi, c, if_true]
    exact ⟨v, hA.trans e, frL_tr hf (frL_W f), MD_W h f m⟩
  · simp only [semi, c]
    exact ⟨v, hA.trans e, frL_tr hf (frL_W f), m⟩
theorem tl_goF {B : Nat → Nat} {n k p : Nat} {s u : aMem} {A : Option aRes} (hA : A = a_run none shp pX9_line 361 [some (.ref 43), none, none, none] [] u) (hf : frL s u) (h : MEd n k p u) : MLr B n A s (semi B n (.inr (k, p))) := ⟨u, hA.trans (tl_bad h), hf, h⟩
/-! a reader -/
def rdr (B : Nat → Nat) (n f : Nat) (D : DR) : LR := if D.2.1 < 5 then .inl (nx B n f, (D.1, D.2.1 + 1, D.2.2.1, D.2.2.2.1, D.2.2.2.2.1, upI D.2.2.2.2.2.1 D.2.1 nN, D.2.2.2.2.2.2)) else .inr (2, f)
theorem ml_reader {B : Nat → Nat} {n f : Nat} {D : DR} {s : aMem} (hn : n ≤ 700) (hB : ∀ j, j < n → B j < 256) (hr : D.2.1 ≤ 5) (h : MD B n f D s) (hw : isW B n f 4 = true) : MLr B n (fX9_line [.ref 43] s) s (semi B n (rdr B n f D)) := by
  obtain ⟨nb, nr, hl, pt, ow, wt, c⟩ := D
  simp only at hr
  obtain ⟨hG, hD, hC⟩ := id h
  obtain ⟨a1, a2, a3, a4, a5, a6⟩ := id hD
  have start : fX9_line [.ref 43] s = if s.1 43 23 = nI 5 then (a_bv (fX9_wrong [.ref 43, .int (nI 2)] s) (fun s5 => a_run none shp pX9_line 23 [some (.ref 43), none, none, none] [] s5) none (fun x s5 => some (.inr x, s5))) else (a_run none shp pX9_line 23 [some (.ref 43), none, none, none] [] s) := by
    rw [tX9_line, sX9_knownWord hn hG.1, b_bi, tX9_line_4, wd_some (by omega) hw, show oI (some 4) = nI 4 from rfl]
    try simp only [k_lit, k_nN, k_ofN]
    simp (disch := omega) only [i_leT, i_leF, i_ltT, i_ltF, i_eqT, i_eqF, i_okT, i_n1, i_n2, i_n3, i_n4, i_n5, i_n6, i_n7, i_n8, k_cl, if_true, if_false]
  simp only at a2
  unfold rdr
  by_cases e5 : nr < 5
  · rw [if_pos e5]
    obtain ⟨u1, e1, f1, m1⟩ := MG_goes hn hB hG
    have D1 := MDr_W hD (frW_g f1)
    have C1 := MC_W hC (frW_g f1)
    obtain ⟨b1, b2, b3, b4, b5, b6⟩ := D1
    simp only at b1 b2 b3 b4 b5 b6
    have F : fr [54] [(43, 23)] u1 (a_si (a_si u1 54 nr nN) 43 23 (nI (nr + 1))) := fr_si (fr_si (fr_rfl u1) (by simp)) (by simp)
    refine tl_go hn hB (u := a_si (a_si u1 54 nr nN) 43 23 (nI (nr + 1))) ?_ (frL_tr (frL_W (frW_g f1)) (frL_of F (by decide) (by decide))) ⟨⟨MT_fr m1.1 F rfl rfl, by rw [F.1 43 11 (by decide) (by decide)]; exact m1.2⟩, ⟨by rw [F.1 43 22 (by decide) (by decide)]; exact b1, by simp [m_si], by rw [F.1 43 27 (by decide) (by decide)]; exact b3, fun j hj => by rw [F.1 52 j (by decide) (by simp)]; exact b4 j hj, fun j hj => by rw [F.1 53 j (by decide) (by simp)]; exact b5 j hj, fun r hr => ?_⟩, fun j x hj => by rw [F.1 55 j (by decide) (by simp)]; exact C1 j x hj⟩
    · rw [start, a2, i_eqF (by omega) (by omega) (by omega), tX9_line_23, sX9_isGoodT hG.2, b_bi, tX9_line_27]
      try simp only [k_lit, k_nN, k_ofN]
      simp (disch := omega) only [i_leT, i_leF, i_ltT, i_ltF, i_eqT, i_eqF, i_okT, i_n1, i_n2, i_n3, i_n4, i_n5, i_n6, i_n7, i_n8, k_cl, if_true, if_false]
      rw [e1, b_bv, tX9_line_35, b2]
      try simp only [k_lit, k_nN, k_ofN, nI_add]
      simp (disch := omega) only [i_leT, i_leF, i_ltT, i_ltF, i_eqT, i_eqF, i_okT, i_n1, i_n2, i_n3, i_n4, i_n5, i_n6, i_n7, i_n8, k_cl, if_true, if_false]
    · by_cases e : r = nr
      · simp [m_si, e, upI]
      · have := b6 r (by simp only at hr; omega)
        simpa [m_si, e, upI] using this
  · rw [if_neg e5]
    have e5' : nr = 5 := by omega
    obtain ⟨u1, e1, f1, m1⟩ := MG_wrong (k := 2) hG (by omega)
    refine ⟨u1, ?_, frL_W (frW_w f1), m1⟩
    rw [start, a2, e5', i_eqT rfl, e1, b_bv, tX9_line_23, MEd_F m1, b_bi, tX9_line_27]
    try simp only [k_lit, k_nN, k_ofN]
    simp (disch := omega) only [i_leT, i_leF, i_ltT, i_ltF, i_eqT, i_eqF, i_okT, i_n1, i_n2, i_n3, i_n4, i_n5, i_n6, i_n7, i_n8, k_cl, if_true, if_false]
/-! nothing that a line may begin with -/
theorem ml_bad {B : Nat → Nat} {n f : Nat} {D : DR} {s : aMem} (hn : n ≤ 700) (h : MD B n f D s) (h4 : isW B n f 4 = false) (h5 : isW B n f 5 = false) (h6 : isW B n f 6 = false) (h7 : isW B n f 7 = false) : MLr B n (fX9_line [.ref 43] s) s (.inr (1, f)) := by
  obtain ⟨hG, -⟩ := id h
  obtain ⟨u1, e1, f1, m1⟩ := MG_wrong (k := 1) hG (by omega)
  refine ⟨u1, ?_, frL_W (frW_w f1), m1⟩
  rw [tX9_line, sX9_knownWord hn hG.1, b_bi, tX9_line_4]
  try simp only [k_lit, k_nN, k_ofN]
  rw [if_neg (by rw [wd_ne (by omega), h4]; simp), if_neg (by rw [wd_ne (by omega), h5]; simp), if_neg (by rw [wd_ne (by omega), h6]; simp), if_neg (by rw [wd_ne (by omega), h7]; simp), e1, b_bv]
  exact tl_bad m1
/-! wants -/
def wnr (B : Nat → Nat) (n f : Nat) (D : DR) : LR := if amc B n (nx B n f) D.2.1 ≠ 0 then .inr (amc B n (nx B n f) D.2.1, nx B n f) else if D.2.2.2.2.2.1 (nm B n (nx B n f)) ≠ nN then .inr (4, nx B n f) else if amc B n (nx B n (nx B n f)) D.1 ≠ 0 then .inr (amc B n (nx B n (nx B n f)) D.1, nx B n (nx B n f)) else .inl (nx B n (nx B n (nx B n f)), (D.1, D.2.1, D.2.2.1, D.2.2.2.1, D.2.2.2.2.1, upI D.2.2.2.2.2.1 (nm B n (nx B n f)) (nI (nm B n (nx B n (nx B n f)))), D.2.2.2.2.2.2))
theorem wn_bad {n k p : Nat} {s : aMem} (h : MEd n k p s) : a_run none shp pX9_line 267 [some (.ref 43), none, none, none] [] s = some (.inl none, s) := by
  rw [tX9_line_267, MEd_F h, b_bi, tX9_line_276]
  try simp only [k_lit, k_nN, k_ofN]
  simp (disch := omega) only [i_leT, i_leF, i_ltT, i_ltF, i_eqT, i_eqF, i_okT, i_n1, i_n2, i_n3, i_n4, i_n5, i_n6, i_n7, i_n8, k_cl, if_true, if_false]
  rw [tX9_line_283, sX9_amongB _ h, b_bi, tX9_line_291, MEd_F h, b_bi, tX9_line_296]
  try simp only [k_lit, k_nN, k_ofN]
  simp (disch := omega) only [i_leT, i_leF, i_ltT, i_ltF, i_eqT, i_eqF, i_okT, i_n1, i_n2, i_n3, i_n4, i_n5, i_n6, i_n7, i_n8, k_cl, if_true, if_false]
  exact tl_bad h
theorem ml_wants {B : Nat → Nat} {n f : Nat} {D : DR} {s : aMem} (hn : n ≤ 700) (hB : ∀ j, j < n → B j < 256) (hr : D.2.1 ≤ 5) (hb : D.1 ≤ 12) (h : MD B n f D s) (hw : isW B n f 6 = true) : MLr B n (fX9_line [.ref 43] s) s (semi B n (wnr B n f D)) := by
  obtain ⟨nb, nr, hl, pt, ow, wt, c⟩ := D
  simp only at hr hb
  obtain ⟨u1, e1, f1, m1⟩ := MG_goes hn hB h.1
  have M1 := MD_W h (frW_g f1) m1
  obtain ⟨hG, hD, hC⟩ := id M1
  obtain ⟨a1, a2, a3, a4, a5, a6⟩ := id hD
  simp only at a1 a2 a3 a4 a5 a6
  have start : fX9_line [.ref 43] s = a_bi (fX9_amongHere [.ref 43, .int (nI nr)] u1) (fun r2 s1 => a_run none shp pX9_line 246 [some (.ref 43), some (.int (nI 6)), none, none] [.int r2] s1) none (fun x s5 => some (.inr x, s5)) := by
    rw [tX9_line, sX9_knownWord hn h.1.1, b_bi, tX9_line_4, wd_some (by omega) hw, show oI (some 6) = nI 6 from rfl]
    try simp only [k_lit, k_nN, k_ofN]
    simp (disch := omega) only [i_leT, i_leF, i_ltT, i_ltF, i_eqT, i_eqF, i_okT, i_n1, i_n2, i_n3, i_n4, i_n5, i_n6, i_n7, i_n8, k_cl, if_true, if_false]
    rw [e1, b_bv, tX9_line_238, a2]
  unfold wnr
  simp only
  rcases sX9_amongHere hn (by omega : nr < 1000) hG with ⟨q0, q1, q2, q3⟩ | ⟨q0, u2, q1, f2, m2⟩
  · have h19 := hG.1.2.2.2.2.2.2.1 q1
    rw [if_neg (by rw [q0]; simp)]
    by_cases ew : wt (nm B n (nx B n f)) = nN
    · rw [if_neg (by simp [ew])]
      obtain ⟨u3, e3, f3, m3⟩ := MG_goes hn hB hG
      have M3 := MD_W M1 (frW_g f3) m3
      obtain ⟨b1, b2, b3, b4, b5, b6⟩ := M3.2.1
      simp only at b1 b2 b3 b4 b5 b6
      have start2 : fX9_line [.ref 43] s = a_bi (fX9_among [.ref 43, .int (nI nb)] u3) (fun r2 s1 => a_run none shp pX9_line 291 [some (.ref 43), none, some (.int (nI (nm B n (nx B n f)))), none] [.int r2] s1) none (fun x s5 => some (.inr x, s5)) := by
        rw [start, q3, b_bi, tX9_line_246, h19]
        try simp only [k_lit, k_nN, k_ofN]
        simp (disch := omega) only [i_leT, i_leF, i_ltT, i_ltF, i_eqT, i_eqF, i_okT, i_n1, i_n2, i_n3, i_n4, i_n5, i_n6, i_n7, i_n8, k_cl, if_true, if_false]
        rw [a6 _ q2, ew]
        simp (disch := omega) only [i_leT, i_leF, i_ltT, i_ltF, i_eqT, i_eqF, i_okT, i_n1, i_n2, i_n3, i_n4, i_n5, i_n6, i_n7, i_n8, k_cl, if_true, if_false]
        rw [tX9_line_267, sX9_isGoodT hG.2, b_bi, tX9_line_276, h19]
        try simp only [k_lit, k_nN, k_ofN]
        simp (disch := omega) only [i_leT, i_leF, i_ltT, i_ltF, i_eqT, i_eqF, i_okT, i_n1, i_n2, i_n3, i_n4, i_n5, i_n6, i_n7, i_n8, k_cl, if_true, if_false]
        rw [e3, b_bv, tX9_line_283, b1]
      rcases sX9_among hn hB (by omega : nb < 1000) m3 with ⟨g0, g1, u4, g2, f4, m4⟩ | ⟨g0, u4, g2, f4, m4⟩
      · rw [if_neg (by rw [g0]; simp)]
        have M4 := MD_W M3 f4 m4
        obtain ⟨d1, d2, d3, d4, d5, d6⟩ := M4.2.1
        simp only at d1 d2 d3 d4 d5 d6
        have F : fr [54] [] u4 (a_si u4 54 (nm B n (nx B n f)) (nI (nm B n (nx B n (nx B n f))))) := fr_si (fr_rfl u4) (by simp)
        refine tl_go hn hB (u := a_si u4 54 (nm B n (nx B n f)) (nI (nm B n (nx B n (nx B n f))))) ?_ (frL_tr (frL_W (frW_g f1)) (frL_tr (frL_W (frW_g f3)) (frL_tr (frL_W f4) (frL_of F (by decide) (by decide))))) ⟨⟨MT_fr m4.1 F rfl rfl, by rw [F.1 43 11 (by decide) (by simp)]; exact m4.2⟩, ⟨by rw [F.1 43 22 (by decide) (by simp)]; exact d1, by rw [F.1 43 23 (by decide) (by simp)]; exact d2, by rw [F.1 43 27 (by decide) (by simp)]; exact d3, fun j hj => by rw [F.1 52 j (by decide) (by simp)]; exact d4 j hj, fun j hj => by rw [F.1 53 j (by decide) (by simp)]; exact d5 j hj, fun r hr => ?_⟩, fun j x hj => by rw [F.1 55 j (by decide) (by simp)]; exact M4.2.2 j x hj⟩
        · rw [start2, g2, b_bi, tX9_line_291, sX9_isGoodT m4.2, b_bi, tX9_line_296]
          try simp only [k_lit, k_nN, k_ofN]
          simp (disch := omega) only [i_leT, i_leF, i_ltT, i_ltF, i_eqT, i_eqF, i_okT, i_n1, i_n2, i_n3, i_n4, i_n5, i_n6, i_n7, i_n8, k_cl, if_true, if_false]
        · by_cases e : r = nm B n (nx B n f)
          · simp [m_si, e, upI]
          · have := d6 r hr
            simpa [m_si, e, upI] using this
      · rw [if_pos g0]
        refine tl_goF (u := u4) ?_ (frL_tr (frL_W (frW_g f1)) (frL_tr (frL_W (frW_g f3)) (frL_W f4))) m4
        rw [start2, g2, b_bi, tX9_line_291, MEd_F m4, b_bi, tX9_line_296]
        try simp only [k_lit, k_nN, k_ofN]
        simp (disch := omega) only [i_leT, i_leF, i_ltT, i_ltF, i_eqT, i_eqF, i_okT, i_n1, i_n2, i_n3, i_n4, i_n5, i_n6, i_n7, i_n8, k_cl, if_true, if_false]
    · rw [if_pos ew]
      obtain ⟨u3, e3, f3, m3⟩ := MG_wrong (k := 4) hG (by omega)
      refine ⟨u3, ?_, frL_tr (frL_W (frW_g f1)) (frL_W (frW_w f3)), m3⟩
      rw [start, q3, b_bi, tX9_line_246, h19]
      try simp only [k_lit, k_nN, k_ofN]
      simp (disch := omega) only [i_leT, i_leF, i_ltT, i_ltF, i_eqT, i_eqF, i_okT, i_n1, i_n2, i_n3, i_n4, i_n5, i_n6, i_n7, i_n8, k_cl, if_true, if_false]
      rw [a6 _ q2, if_neg ew, e3, b_bv]
      exact wn_bad m3
  · rw [if_pos q0]
    refine ⟨u2, ?_, frL_tr (frL_W (frW_g f1)) (frL_W f2), m2⟩
    rw [start, q1, b_bi, tX9_line_246]
    try simp only [k_lit, k_nN, k_ofN]
    simp (disch := omega) only [i_leT, i_leF, i_ltT, i_ltF, i_eqT, i_eqF, i_okT, i_n1, i_n2, i_n3, i_n4, i_n5, i_n6, i_n7, i_n8, k_cl, if_true, if_false]
    exact wn_bad m2
