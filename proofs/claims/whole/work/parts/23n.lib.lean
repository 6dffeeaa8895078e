/-! ===== library ===== -/
def frKm : List Nat := [44, 45, 46, 47, 48, 49, 52, 53, 54, 55, 56, 57, 58]
def frFm : List (Nat × Nat) := [(43, 0), (43, 1), (43, 2), (43, 10), (43, 11), (43, 12), (43, 14), (43, 15), (43, 16), (43, 17), (43, 18), (43, 19), (43, 20), (43, 21), (43, 22), (43, 23), (43, 24), (43, 25), (43, 26), (43, 27), (43, 35), (43, 50), (43, 53), (43, 56)]
theorem frm_of {K : List Nat} {F : List (Nat × Nat)} {s u : aMem} (h : fr K F s u) (h1 : (K.all fun k => frKm.contains k) = true) (h2 : (F.all fun q => frFm.contains q) = true) : fr frKm frFm s u := fr_mono h (fun k hk => List.contains_iff_mem.mp (List.all_eq_true.mp h1 k hk)) (fun q hq => .inr (List.contains_iff_mem.mp (List.all_eq_true.mp h2 q hq)))
def frK2 : List Nat := [52, 53, 54, 55, 56, 57]
def frF2 : List (Nat × Nat) := [(43, 0), (43, 10), (43, 11), (43, 12), (43, 14), (43, 15), (43, 16), (43, 17), (43, 18), (43, 19), (43, 20), (43, 21), (43, 22), (43, 23), (43, 24), (43, 25), (43, 26), (43, 27)]
theorem frm2_of {K : List Nat} {F : List (Nat × Nat)} {s u : aMem} (h : fr K F s u) (h1 : (K.all fun k => frK2.contains k) = true) (h2 : (F.all fun q => frF2.contains q) = true) : fr frK2 frF2 s u := fr_mono h (fun k hk => List.contains_iff_mem.mp (List.all_eq_true.mp h1 k hk)) (fun q hq => .inr (List.contains_iff_mem.mp (List.all_eq_true.mp h2 q hq)))
theorem lib_throw {s : aMem} (hI : Inv s) {v : Int32} {n0 : Nat} (hn0 : n0 ≤ 700) (hT1 : s.1 1 1 = nI n0) (hT2 : s.1 43 10 = nI n0) (hv : v < nI 0 ∨ (¬ v < nI 0 ∧ nI (n0 + 1) ≤ v)) : agr (fX8_library [.ref 0, .int v]) (fX9_library [.ref 43, .int v]) (fun _ => 1) s := by
  refine agr_x (x := 1) (s1 := s) hI ?_ (fr_rfl s) (by decide) (fun s2 h2 => ⟨nI 0, a_si (a_si s2 43 0 (nI 0)) 43 0 (nI 1), ?_, by simp [m_si], fr_si (fr_si (fr_rfl s2) (.inr (by decide))) (.inr (by decide))⟩)
  · rw [tX8_library, hT1]
    try simp only [k_lit, k_nN, k_ofN]
    rcases hv with c | ⟨c1, c2⟩
    · rw [if_pos c]
    · rw [if_neg c1, if_neg (fun q => nI_ge (Nat.lt_succ_self n0) (by omega) (Int32.le_trans c2 q))]
  · have t10 : s2.1 43 10 = nI n0 := by rw [scB h2 43 10 rfl rfl, hT2]
    have r0 : fX9_right [.ref 43, .int (nI 0), .int (nI 1)] (a_si s2 43 0 (nI 0)) = some (.inl (some (.int (nI 0))), a_si (a_si s2 43 0 (nI 0)) 43 0 (nI 1)) := by
      rw [tX9_right]
      simp only [m_si, if_true]
      try simp only [k_lit, k_nN, k_ofN]
      simp (disch := omega) only [i_leT, i_leF, i_ltT, i_ltF, i_eqT, i_eqF, i_okT, i_n1, i_n2, i_n3, i_n4, i_n5, i_n6, i_n7, i_n8, k_cl, if_true, if_false]
    rw [tX9_library, t10]
    try simp only [k_lit, k_nN, k_ofN]
    rcases hv with c | ⟨c1, c2⟩
    · rw [if_pos c, r0, b_bi, tX9_library_27]
      try simp only [k_lit, k_nN, k_ofN]
      simp (disch := omega) only [i_leT, i_leF, i_ltT, i_ltF, i_eqT, i_eqF, i_okT, i_n1, i_n2, i_n3, i_n4, i_n5, i_n6, i_n7, i_n8, k_cl, if_true, if_false]
    · rw [if_neg c1, if_pos (Int32.lt_of_lt_of_le (nI_lt (Nat.lt_succ_self n0) (by omega)) c2), r0, b_bi, tX9_library_27]
      try simp only [k_lit, k_nN, k_ofN]
      simp (disch := omega) only [i_leT, i_leF, i_ltT, i_ltF, i_eqT, i_eqF, i_okT, i_n1, i_n2, i_n3, i_n4, i_n5, i_n6, i_n7, i_n8, k_cl, if_true, if_false]
theorem op_library {s : aMem} (hI : Inv s) (v : Int32) : agr (fX8_library [.ref 0, .int v]) (fX9_library [.ref 43, .int v]) (fun _ => 1) s := by
  obtain ⟨nb, nr, c9, hL, hN, hG, hR, ⟨n0, hn0, hT1, hT2, hT3⟩, hC⟩ := id hI
  by_cases hv : vb (n0 + 1) v
  · obtain ⟨n, hn, rfl⟩ := hv
    have hn7 : n ≤ 700 := by omega
    have hB : ∀ j, j < n → (fun j => (s.1 50 j).toBitVec.toNat) j < 256 := fun j hj => by
      obtain ⟨c, hc, e⟩ := (hT3 j (by omega)).2
      show (s.1 50 j).toBitVec.toNat < 256
      rw [e, k_bv, BitVec.toNat_ofNat]
      exact Nat.lt_of_le_of_lt (Nat.mod_le _ _) hc
    obtain ⟨u0, e0, f0, x0⟩ := x_start (B := fun j => (s.1 50 j).toBitVec.toNat) (s := s) hn7 hB (fun j hj => by rw [(hT3 j (by omega)).1, nI_back])
    obtain ⟨R, XR, hR', MR⟩ := loop_j hn7 hB _ _ 0 D0 u0 (Nat.le_refl _) x0 dOk_0 (Nat.zero_le _)
    have start : fX8_library [.ref 0, .int (nI n)] s = a_bi (a_run none shp pX3_readAll 29 [some (.ref 21), none, some (.int (nI 1)), some (.int (nI 0))] [] u0) (fun r2 s1 => a_run none shp pX8_library 33 [some (.ref 0), some (.int (nI n)), none] [.int r2] s1) none (fun x s1 => some (.inr x, s1)) := by
      rw [tX8_library, hT1]
      try simp only [k_lit, k_nN, k_ofN]
      rw [i_ltF (by omega) (by omega), i_leT (by omega) (by omega), e0]
    rcases R with D | ⟨k, p⟩
    · obtain ⟨u, eu, fu, xr, ⟨x4, x5⟩, xl⟩ := XR
      have hD := hR' D rfl
      obtain ⟨s1, e1, f1, l1⟩ := xlib_ok (n := n) hD xr x4 x5 xl
      have Fz : ∀ k j, frKx.contains k = false → ([5, 7, 8, 9] : List Nat).contains k = false → frFx.contains (k, j) = false → frZl.contains (k, j) = false → s1.1 k j = s.1 k j := fun k j a b c d => by
        rw [fx_fr f1 k j a c, fx_fr fu k j b, fx_fr f0 k j b d]
        cases q : frYl.contains (k, j)
        · rfl
        · have := List.contains_iff_mem.mp q
          have h2 : ∀ q, q ∈ frYl → q ∈ frZl := by decide
          rw [List.contains_iff_mem.mpr (h2 _ this)] at d
          cases d
      have tk1 : s1.2.2 = s.2.2 := f1.2.2.trans (fu.2.2.trans f0.2.2)
      refine .inl ⟨nI 0, s1, by rw [start, eu, b_bi, e1], tk1, fun o => ?_⟩
      obtain ⟨um, em, fm, m0, m10, m12, md⟩ := m_start (B := fun j => (s.1 50 j).toBitVec.toNat) (n := n) (n0 := n0) (s := a_sl s1 74 0 o) hn7 (by omega) hn0 hB (by rw [m_sl1, Fz 43 10 rfl rfl rfl rfl, hT2]) (fun j hj => by rw [m_sl1, Fz 50 j rfl rfl (by simp [frFx]) (by simp [frZl]), nI_back])
      obtain ⟨v, ev, fv, mv⟩ := MR um md
      obtain ⟨t, et, ft, ⟨g1, g2, g3, g4, g5, g6⟩, g44, g45, g47, g48, g49⟩ := ms_take hD xl mv
      have FM : fr frKm frFm (a_sl s1 74 0 o) t := fr_trans (frm_of fm (by decide) (by decide)) (fr_trans (frm_of fv (by decide) (by decide)) (frm_of ft (by decide) (by decide)))
      have TX : ∀ k j, frKm.contains k = false → frFm.contains (k, j) = false → t.1 k j = s1.1 k j := fun k j a b => fx_fr FM k j a b
      have TA : ∀ k, frKm.contains k = false → frFm.all (fun q => q.1 != k) = true → t.1 k = s1.1 k := fun k a b => by
        funext j
        refine TX k j a ?_
        cases q : frFm.contains (k, j)
        · rfl
        · have := List.all_eq_true.mp b _ (List.contains_iff_mem.mp q)
          simp at this
      obtain ⟨⟨l12, l121⟩, lc, l16, l17, l19, l20, l18, l23, ⟨y1, y2, y3, y4, y5, y6⟩⟩ := l1
      obtain ⟨nb', nr', hl, pt, ow, wt, c⟩ := D
      obtain ⟨d1, d2, d3, d4, d5, d6⟩ := id hD
      simp only at l12 l121 lc l16 l17 l19 l20 l18 l23 g1 g2 g44 g45 g47 g48 g49 d1 d2 d3 d4 d5 d6
      have o45 : ∀ b, b < nb' → t.1 45 b = t.1 46 b := fun b hb => (g45 b hb).1.trans (g45 b hb).2.symm
      refine ⟨t, by rw [em, ev, et], ?_, ⟨nb', nr', c, ⟨⟨d1, d2⟩, ⟨by rw [TX 12 0 rfl rfl]; exact l12, g1⟩, ⟨by rw [TX 12 1 rfl rfl]; exact l121, g2⟩, fun j hj => ?_, ⟨fun r hr => ?_, fun r hr => ?_⟩, fun b hb => ?_, ?_, ?_, ?_⟩, ⟨?_, 0, 0, by omega, by omega, ?_, g3, ?_, g4, fun j hj => absurd hj (by omega), ?_, fun e he => absurd he (Nat.not_lt_zero e)⟩, .inl ⟨by rw [TX 0 10 rfl rfl]; exact y4, g6⟩, .inl ⟨by rw [TX 30 8 rfl rfl]; exact y3, g5⟩, ⟨0, by omega, by rw [TX 1 1 rfl rfl]; exact y6, ?_, fun j hj => absurd hj (Nat.not_lt_zero j)⟩, ?_⟩, ?_, ?_⟩
      · rw [ft.1 43 0 (by decide) (by decide), fv.1 43 0 (by decide) (by decide)]; exact m0
      · rw [TA 16 rfl rfl, l16 j hj, g44 j hj]
      · rw [TA 17 rfl rfl, l17 r hr, g47 r hr]
      · rw [g47 r hr]; exact d4 r hr
      · rw [TA 19 rfl rfl, l19 b hb, g49 b hb]
      · rw [TA 19 rfl rfl, TA 20 rfl rfl]; exact l20
      · intro _
        rw [TA 14 rfl rfl, TX 13 1 rfl rfl]
        exact ⟨lc.1, lc.2.1, lc.2.2.1, g48, lc.2.2.2.2⟩
      · rw [TA 18 rfl rfl]
        exact Own_cg l18 (fun _ _ => rfl) (fun b hb => (g45 b hb).2)
      · rw [TA 23 rfl rfl]
        exact Own_cg l23 (fun _ _ => rfl) (fun b hb => (g45 b hb).1)
      · rw [TX 22 2 rfl rfl]; exact y1
      · rw [TX 22 4 rfl rfl]; exact y2
      · exact ⟨fun _ b => t.1 46 b, fun b hb => rfl, fun b hb => (o45 b hb).symm, fun m hm => absurd hm (Nat.not_lt_zero m)⟩
      · rw [ft.1 43 10 (by decide) (by decide), fv.1 43 10 (by decide) (by decide)]; exact m10
      · refine ⟨?_, ?_, ?_, ?_⟩
        · rw [TX 0 12 rfl rfl, TX 51 0 rfl rfl, Fz 0 12 rfl rfl rfl rfl, Fz 51 0 rfl rfl rfl rfl]; exact hC.1
        · rw [TX 0 13 rfl rfl, TX 51 1 rfl rfl, Fz 0 13 rfl rfl rfl rfl, Fz 51 1 rfl rfl rfl rfl]; exact hC.2.1
        · rw [TX 0 14 rfl rfl, TX 51 2 rfl rfl, Fz 0 14 rfl rfl rfl rfl, Fz 51 2 rfl rfl rfl rfl]; exact hC.2.2.1
        · rw [TX 0 11 rfl rfl, y5, ft.1 43 12 (by decide) (by decide)]
          exact mv.1.1.2.2.2.2.2.2.2.2.2.2.symm
      · rw [FM.2.1 74 0 (by decide) (by decide), m_sl]
        rfl
      · exact FM.2.2.trans tk1
    · obtain ⟨u, eu, fu, xb⟩ := XR
      have Fz : ∀ k j, ([5, 7, 8, 9] : List Nat).contains k = false → frZl.contains (k, j) = false → u.1 k j = s.1 k j := fun k j b d => by
        rw [fx_fr fu k j b, fx_fr f0 k j b d]
        cases q : frYl.contains (k, j)
        · rfl
        · have := List.contains_iff_mem.mp q
          have h2 : ∀ q, q ∈ frYl → q ∈ frZl := by decide
          rw [List.contains_iff_mem.mpr (h2 _ this)] at d
          cases d
      have tk1 : u.2.2 = s.2.2 := fu.2.2.trans f0.2.2
      have F1 : fr [] [(1, 1), (0, 11), (0, 12)] u (a_si (a_si (a_si u 1 1 (nI 0)) 0 11 (nI p)) 0 12 (u.1 0 12 + nI 1)) := fr_si (fr_si (fr_si (fr_rfl u) (by simp)) (by simp)) (by simp)
      have M0 : ∀ o : Int64, ∃ um, fX9_library [.ref 43, .int (nI n)] (a_sl (a_si (a_si (a_si u 1 1 (nI 0)) 0 11 (nI p)) 0 12 (u.1 0 12 + nI 1)) 74 0 o) = a_run none shp pX9_library 97 [some (.ref 43), none, none] [] um ∧ fr frK2 frF2 (a_sl (a_si (a_si (a_si u 1 1 (nI 0)) 0 11 (nI p)) 0 12 (u.1 0 12 + nI 1)) 74 0 o) um ∧ um.1 43 0 = nI 0 ∧ um.1 43 10 = nI 0 ∧ MD (fun j => (s.1 50 j).toBitVec.toNat) n (SK (fun j => (s.1 50 j).toBitVec.toNat) n 0) D0 um := fun o => by
        obtain ⟨um, em, fm, m0, m10, m12, md⟩ := m_start (B := fun j => (s.1 50 j).toBitVec.toNat) (n := n) (n0 := n0) (s := a_sl (a_si (a_si (a_si u 1 1 (nI 0)) 0 11 (nI p)) 0 12 (u.1 0 12 + nI 1)) 74 0 o) hn7 (by omega) hn0 hB (by rw [m_sl1, F1.1 43 10 (by simp) (by decide), Fz 43 10 rfl rfl, hT2]) (fun j hj => by rw [m_sl1, F1.1 50 j (by simp) (by simp), Fz 50 j rfl (by simp [frZl]), nI_back])
        exact ⟨um, em, frm2_of fm (by decide) (by decide), m0, m10, md⟩
      have kp : 0 < k ∧ k < 10 := by
        obtain ⟨um, -, -, -, -, md⟩ := M0 0
        obtain ⟨v, -, -, mv⟩ := MR um md
        exact ⟨mv.2.2.1, mv.2.2.2.1⟩
      refine .inl ⟨nI k, a_si (a_si (a_si u 1 1 (nI 0)) 0 11 (nI p)) 0 12 (u.1 0 12 + nI 1), ?_, ?_, fun o => ?_⟩
      · rw [start, eu, b_bi, tX8_library_33, xb.2]
        try simp only [k_lit, k_nN, k_ofN]
        rw [i_eqF (by omega) (by omega) (by omega)]
      · exact F1.2.2.trans tk1
      · obtain ⟨um, em, fm, m0, m10, md⟩ := M0 o
        obtain ⟨v, ev, fv, mv⟩ := MR um md
        have FM : fr frK2 frF2 (a_sl (a_si (a_si (a_si u 1 1 (nI 0)) 0 11 (nI p)) 0 12 (u.1 0 12 + nI 1)) 74 0 o) v := fr_trans fm (frm2_of fv (by decide) (by decide))
        have v51 : v.1 51 0 = s.1 51 0 := by rw [FM.1 51 0 (by decide) (by decide), m_sl1, F1.1 51 0 (by simp) (by decide), Fz 51 0 rfl rfl]
        have V : ∀ k j, frK2.contains k = false → frF2.contains (k, j) = false → ([(1, 1), (0, 11), (0, 12)] : List (Nat × Nat)).contains (k, j) = false → v.1 k j = u.1 k j := fun k j a b c => (fx_fr FM k j a b).trans (fx_fr F1 k j rfl c)
        have hsub : ∀ (k j : Nat), (frK2 ++ [5, 7, 8, 9]).contains k = false → frK2.contains k = false ∧ ([5, 7, 8, 9] : List Nat).contains k = false := fun k j h => by
          refine ⟨?_, ?_⟩ <;> apply Bool.eq_false_iff.mpr <;> intro q <;> rw [Bool.eq_false_iff] at h <;> apply h <;> apply List.contains_iff_mem.mpr <;> apply List.mem_append.mpr
          · exact .inl (List.contains_iff_mem.mp q)
          · exact .inr (List.contains_iff_mem.mp q)
        have FA : fx (frK2 ++ [5, 7, 8, 9]) ((frF2 ++ frZl) ++ [(1, 1), (0, 11), (0, 12), (51, 0)]) s (a_si v 51 0 (v.1 51 0 + nI 1)) := by
          refine fx_si (fun k j a b => ?_) rfl
          have nb' : (k, j) ∉ (frF2 ++ frZl) ++ [(1, 1), (0, 11), (0, 12), (51, 0)] := fun q => by rw [List.contains_iff_mem.mpr q] at b; cases b
          have b1 : frF2.contains (k, j) = false := Bool.eq_false_iff.mpr (fun q => nb' (List.mem_append_left _ (List.mem_append_left _ (List.contains_iff_mem.mp q))))
          have b2 : frZl.contains (k, j) = false := Bool.eq_false_iff.mpr (fun q => nb' (List.mem_append_left _ (List.mem_append_right _ (List.contains_iff_mem.mp q))))
          have b3 : ([(1, 1), (0, 11), (0, 12)] : List (Nat × Nat)).contains (k, j) = false := Bool.eq_false_iff.mpr (fun q => nb' (List.mem_append_right _ (by
            have h3 : ∀ q, q ∈ ([(1, 1), (0, 11), (0, 12)] : List (Nat × Nat)) → q ∈ ([(1, 1), (0, 11), (0, 12), (51, 0)] : List (Nat × Nat)) := by decide
            exact h3 _ (List.contains_iff_mem.mp q))))
          rw [V k j (hsub k j a).1 b1 b3]
          exact Fz k j (hsub k j a).2 b2
        refine ⟨a_si v 51 0 (v.1 51 0 + nI 1), ?_, ?_, ⟨nb, nr, c9, LibI_fx hL FA rfl rfl, NowI_fx hN FA rfl rfl, ImgI_fx hG FA rfl rfl, RowI_fx hR FA rfl rfl, ⟨0, by omega, ?_, ?_, fun j hj => absurd hj (Nat.not_lt_zero j)⟩, ?_, ?_, ?_, ?_⟩, ?_, ?_⟩
        · rw [em, ev, tX9_library_122, mv.1]
          try simp only [k_lit, k_nN, k_ofN]
          simp (disch := omega) only [i_leT, i_leF, i_ltT, i_ltF, i_eqT, i_eqF, i_okT, i_n1, i_n2, i_n3, i_n4, i_n5, i_n6, i_n7, i_n8, k_cl, if_true, if_false]
        · have : v.1 43 0 = nI 0 := by rw [fv.1 43 0 (by decide) (by decide)]; exact m0
          simpa [m_si] using this
        · have : v.1 1 1 = nI 0 := by rw [FM.1 1 1 (by decide) (by decide), m_sl1]; simp [m_si]
          simpa [m_si] using this
        · have : v.1 43 10 = nI 0 := by rw [fv.1 43 10 (by decide) (by decide)]; exact m10
          simpa [m_si] using this
        · have h1 : v.1 0 12 = u.1 0 12 + nI 1 := by rw [FM.1 0 12 (by decide) (by decide), m_sl1]; simp [m_si]
          have h2 : u.1 0 12 = s.1 0 12 := Fz 0 12 rfl rfl
          have h3 : (a_si v 51 0 (v.1 51 0 + nI 1)).1 0 12 = v.1 0 12 := by simp [m_si]
          have h4 : (a_si v 51 0 (v.1 51 0 + nI 1)).1 51 0 = v.1 51 0 + nI 1 := by simp [m_si]
          rw [h3, h4, h1, h2, v51, hC.1]
        · have h1 : (a_si v 51 0 (v.1 51 0 + nI 1)).1 0 13 = v.1 0 13 := by simp [m_si]
          have h2 : (a_si v 51 0 (v.1 51 0 + nI 1)).1 51 1 = v.1 51 1 := by simp [m_si]
          rw [h1, h2, V 0 13 rfl rfl rfl, V 51 1 rfl rfl rfl, Fz 0 13 rfl rfl, Fz 51 1 rfl rfl]
          exact hC.2.1
        · have h1 : (a_si v 51 0 (v.1 51 0 + nI 1)).1 0 14 = v.1 0 14 := by simp [m_si]
          have h2 : (a_si v 51 0 (v.1 51 0 + nI 1)).1 51 2 = v.1 51 2 := by simp [m_si]
          rw [h1, h2, V 0 14 rfl rfl rfl, V 51 2 rfl rfl rfl, Fz 0 14 rfl rfl, Fz 51 2 rfl rfl]
          exact hC.2.2.1
        · have h1 : v.1 0 11 = nI p := by rw [FM.1 0 11 (by decide) (by decide), m_sl1]; simp [m_si]
          have h3 : (a_si v 51 0 (v.1 51 0 + nI 1)).1 0 11 = v.1 0 11 := by simp [m_si]
          have h4 : (a_si v 51 0 (v.1 51 0 + nI 1)).1 43 12 = v.1 43 12 := by simp [m_si]
          rw [h3, h4, h1, mv.2.1]
        · show v.2.1 74 0 = o
          rw [FM.2.1 74 0 (by decide) (by decide), m_sl]
          rfl
        · exact FM.2.2.trans (F1.2.2.trans tk1)
  · exact lib_throw hI hn0 hT1 hT2 (vb_no (by omega) hv)
