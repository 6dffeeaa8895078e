/-! ===== the class takes a library ===== -/
theorem XDr_c {nb nr hl : Nat} {pt ow wt : Nat → Int32} {s t : aMem} (h : XDr nb nr hl pt ow wt s) (hf : ∀ k j, k = 21 ∨ k = 3 ∨ k = 7 ∨ k = 8 ∨ k = 9 → t.1 k j = s.1 k j) : XDr nb nr hl pt ow wt t := by
  obtain ⟨⟨a1, a2⟩, ⟨a3, a4, a5⟩, ⟨a6, a7⟩, ⟨a8, a9⟩, a10⟩ := h
  have e9 : t.1 9 = s.1 9 := by
    funext j
    exact hf 9 j (by simp)
  exact ⟨⟨by rw [hf 21 2 (by simp)]; exact a1, by rw [hf 21 3 (by simp)]; exact a2⟩, ⟨by rw [hf 3 0 (by simp)]; exact a3, by rw [hf 3 1 (by simp)]; exact a4, by rw [hf 3 2 (by simp)]; exact a5⟩, ⟨fun j hj => by rw [hf 7 j (by simp)]; exact a6 j hj, fun j h1 h2 => by rw [hf 7 j (by simp)]; exact a7 j h1 h2⟩, ⟨fun j hj => by rw [hf 8 j (by simp)]; exact a8 j hj, fun j h1 h2 => by rw [hf 8 j (by simp)]; exact a9 j h1 h2⟩, by rw [e9]; exact a10⟩
def frKx : List Nat := [14, 15, 16, 17, 18, 19, 20, 23]
def frFx : List (Nat × Nat) := [(1, 1), (0, 11), (12, 0), (12, 1), (12, 2), (13, 1), (13, 3), (22, 2), (22, 4), (30, 8), (0, 10)]
def LibX (D : DR) (s : aMem) : Prop := (s.1 12 0 = nI D.1 ∧ s.1 12 1 = nI D.2.1) ∧ CodeI D.2.2.2.2.2.2 (s.1 14) (s.1 13 1) (mcf D.2.2.2.2.2.2) ∧ (∀ j, j < 4 * D.1 → s.1 16 j = D.2.2.2.1 j) ∧ (∀ r, r < D.2.1 → s.1 17 r = D.2.2.2.2.2.1 r) ∧ (∀ b, b < D.1 → s.1 19 b = pvl D.2.2.2.2.2.2 D.2.2.2.1 b) ∧ fwOk D.1 (s.1 20) (s.1 19) ∧ Own D.1 D.2.1 (s.1 18) D.2.2.2.2.1 ∧ Own D.1 D.2.1 (s.1 23) D.2.2.2.2.1 ∧ (s.1 22 2 = nI 0 ∧ s.1 22 4 = nI 0 ∧ s.1 30 8 = nN ∧ s.1 0 10 = nI 0 ∧ s.1 0 11 = nN ∧ s.1 1 1 = nI 0)
theorem xlib_ok {n : Nat} {D : DR} {u : aMem} (hD : dOk D) (h : XDr D.1 D.2.1 D.2.2.1 D.2.2.2.1 D.2.2.2.2.1 D.2.2.2.2.2.1 u) (h4 : u.1 4 1 = nI D.2.2.2.2.2.2.length) (h5 : ∀ j q, D.2.2.2.2.2.2[j]? = some q → u.1 5 j = xst q) (hc : D.2.2.2.2.2.2.length ≤ 700) : ∃ s1, a_run none shp pX8_library 33 [some (.ref 0), some (.int (nI n)), none] [.int (nI 0)] u = some (.inl (some (.int (nI 0))), s1) ∧ fr frKx frFx u s1 ∧ LibX D s1 := by
  obtain ⟨nb, nr, hl, pt, ow, wt, c⟩ := D
  obtain ⟨d1, d2, d3, d4, d5, d6⟩ := hD
  simp only at d1 d2 d3 d4 d5 d6 h h4 h5 hc
  have h21 := h.1.2
  have F1 : fr [] [(1, 1), (0, 11)] u (a_si (a_si u 1 1 (nI 0)) 0 11 nN) := fr_si (fr_si (fr_rfl u) (by simp)) (by simp)
  obtain ⟨u2, e2, f2, t0, t1, t13, t14, t16, t17, t18⟩ := xs_take (s := a_si (a_si u 1 1 (nI 0)) 0 11 nN) d3 (XDr_c h (fun k j hk => F1.1 k j (by simp) (by rcases hk with e | e | e | e | e <;> subst e <;> simp))) (by rw [F1.1 4 1 (by simp) (by decide)]; exact h4) (fun j q hj => by rw [F1.1 5 j (by simp) (by simp)]; exact h5 j q hj) hc d1 d2
  obtain ⟨u3, e3, f3, p19, p20⟩ := xs_reckon (s := u2) (c := c) (pt := pt) d1 t0 t16 ⟨hc, t13, t14, mcf_ok c, d5, d6⟩
  obtain ⟨u4, e4, f4, v4⟩ := p_acp (s := u3) (a := 18) (b := 23) (n0 := 6) (n1 := 6) (n := 6) rfl rfl (by omega) (by omega) (by omega)
  have F5 : fr [] [(22, 2), (22, 4), (30, 8), (0, 10)] u4 (a_si (a_si (a_si (a_si u4 22 2 (nI 0)) 22 4 (nI 0)) 30 8 nN) 0 10 (nI 0)) := fr_si (fr_si (fr_si (fr_si (fr_rfl u4) (by simp)) (by simp)) (by simp)) (by simp)
  have G : ∀ (K : List Nat) (F : List (Nat × Nat)) (x y : aMem), fr K F x y → (K.all fun k => frKx.contains k) = true → (F.all fun q => frFx.contains q) = true → fr frKx frFx x y := fun K F x y hh g1 g2 => fr_mono hh (fun k hk => List.contains_iff_mem.mp (List.all_eq_true.mp g1 k hk)) (fun q hq => .inr (List.contains_iff_mem.mp (List.all_eq_true.mp g2 q hq)))
  refine ⟨a_si (a_si (a_si (a_si u4 22 2 (nI 0)) 22 4 (nI 0)) 30 8 nN) 0 10 (nI 0), ?_, fr_trans (G _ _ _ _ F1 (by decide) (by decide)) (fr_trans (G _ _ _ _ f2 (by decide) (by decide)) (fr_trans (G _ _ _ _ f3 (by decide) (by decide)) (fr_trans (G _ _ _ _ f4 (by decide) (by decide)) (G _ _ _ _ F5 (by decide) (by decide))))), ⟨?_, ?_⟩, ⟨hc, ?_, fun j q hj => ?_, mcf_ok c, d5, d6⟩, fun j hj => ?_, fun r hr => ?_, fun b hb => ?_, ?_, ?_, ?_, by simp [m_si], by simp [m_si], by simp [m_si], by simp [m_si], ?_, ?_⟩
  · rw [tX8_library_33, h21]
    try simp only [k_lit, k_nN, k_ofN]
    simp (disch := omega) only [i_leT, i_leF, i_ltT, i_ltF, i_eqT, i_eqF, i_okT, i_n1, i_n2, i_n3, i_n4, i_n5, i_n6, i_n7, i_n8, k_cl, if_true, if_false]
    rw [e2, b_bv, tX8_library_80, e3, b_bv, tX8_library_87, tX4_begin]
    try simp only [k_lit, k_nN, k_ofN]
    rw [e4, b_bv, b_bv, tX8_library_101]
    try simp only [k_lit, k_nN, k_ofN]
  · rw [F5.1 12 0 (by simp) (by decide), f4.1 12 0 (by decide) (by simp), f3.1 12 0 (by decide) (by decide)]; exact t0
  · rw [F5.1 12 1 (by simp) (by decide), f4.1 12 1 (by decide) (by simp), f3.1 12 1 (by decide) (by decide)]; exact t1
  · rw [F5.1 13 1 (by simp) (by decide), f4.1 13 1 (by decide) (by simp), f3.1 13 1 (by decide) (by decide)]; exact t13
  · rw [F5.1 14 j (by simp) (by simp), f4.1 14 j (by decide) (by simp), f3.1 14 j (by decide) (by simp)]; exact t14 j q hj
  · rw [F5.1 16 j (by simp) (by simp), f4.1 16 j (by decide) (by simp), f3.1 16 j (by decide) (by simp)]; exact t16 j hj
  · rw [F5.1 17 r (by simp) (by simp), f4.1 17 r (by decide) (by simp), f3.1 17 r (by decide) (by simp)]; exact t17 r hr
  · rw [F5.1 19 b (by simp) (by simp), f4.1 19 b (by decide) (by simp)]; exact p19 b hb
  · have a19 : (a_si (a_si (a_si (a_si u4 22 2 (nI 0)) 22 4 (nI 0)) 30 8 nN) 0 10 (nI 0)).1 19 = u3.1 19 := by
      funext j
      rw [F5.1 19 j (by simp) (by simp), f4.1 19 j (by decide) (by simp)]
    have a20 : (a_si (a_si (a_si (a_si u4 22 2 (nI 0)) 22 4 (nI 0)) 30 8 nN) 0 10 (nI 0)).1 20 = u3.1 20 := by
      funext j
      rw [F5.1 20 j (by simp) (by simp), f4.1 20 j (by decide) (by simp)]
    rw [a19, a20]
    exact p20
  · refine Own_cg t18 (fun r hr => ?_) (fun _ _ => rfl)
    rw [F5.1 18 r (by simp) (by simp), f4.1 18 r (by decide) (by simp), f3.1 18 r (by decide) (by simp)]
  · refine Own_cg t18 (fun r hr => ?_) (fun _ _ => rfl)
    rw [F5.1 23 r (by simp) (by simp), v4, if_pos hr, f3.1 18 r (by decide) (by simp)]
  · rw [F5.1 0 11 (by simp) (by decide), f4.1 0 11 (by decide) (by simp), f3.1 0 11 (by decide) (by decide), f2.1 0 11 (by decide) (by decide)]; simp [m_si]
  · rw [F5.1 1 1 (by simp) (by decide), f4.1 1 1 (by decide) (by simp), f3.1 1 1 (by decide) (by decide), f2.1 1 1 (by decide) (by decide)]; simp [m_si]
