/-! ===== a library is taken: the model's side ===== -/
theorem Own_cq {nb nr : Nat} {st o o' : Nat → Int32} (h : Own nb nr st o) (he : ∀ b, b < nb → o' b = o b) : Own nb nr st o' := by
  obtain ⟨h1, h2, h3⟩ := h
  have cg : ∀ v : Int32, msk nb (fun b => decide (o' b = v)) = msk nb (fun b => decide (o b = v)) := by
    intro v
    apply msk_congr
    intro b hb
    rw [he b hb]
  exact ⟨fun r hr => by rw [cg]; exact h1 r hr, by rw [cg]; exact h2, fun b hb => by rw [he b hb]; exact h3 b hb⟩
theorem mcode_le (c : List (Nat × Nat)) : (mcode c).length ≤ 2 * c.length + 1 := by
  unfold mcode
  rw [List.length_append]
  have : (c.flatMap mst).length ≤ 2 * c.length := by
    induction c with
    | nil => simp
    | cons q c ih =>
      rw [List.flatMap_cons, List.length_append, List.length_cons]
      have : (mst q).length ≤ 2 := by
        unfold mst
        split <;> simp
      omega
  simp only [List.length_cons, List.length_nil]
  omega
theorem ms_pages {s : aMem} {nb : Nat} {c : List (Nat × Nat)} {pt : Nat → Int32} {xc : Nat → Int32} {xn : Int32} (hnb : nb ≤ 12) (h1 : s.1 43 1 = nI nb) (hpt : ∀ j, j < 4 * nb → s.1 44 j = pt j) (hc : CodeI c xc xn (s.1 48)) : ∃ u, a_run none shp pX9_library 218 [some (.ref 43), none, some (.int (nI 0))] [] s = some (.inl (some (.int (nI 0))), a_si (a_si (a_si (a_si u 43 35 (nI 0)) 43 53 (nI 0)) 43 50 (nI 0)) 43 56 (nI 0)) ∧ fr [58, 49] [] s u ∧ ∀ b, b < nb → u.1 49 b = pvl c pt b := by
  have key : ∀ m k t, k + m = nb → fr [58, 49] [] s t → (∀ b, b < k → t.1 49 b = pvl c pt b) → ∃ u, a_run none shp pX9_library 218 [some (.ref 43), none, some (.int (nI k))] [] t = some (.inl (some (.int (nI 0))), a_si (a_si (a_si (a_si u 43 35 (nI 0)) 43 53 (nI 0)) 43 50 (nI 0)) 43 56 (nI 0)) ∧ fr [58, 49] [] s u ∧ ∀ b, b < nb → u.1 49 b = pvl c pt b := by
    intro m
    induction m with
    | zero =>
      intro k t hk hf hp
      have : k = nb := by omega
      subst this
      refine ⟨t, ?_, hf, hp⟩
      rw [tX9_library_218, hf.1 43 1 (by decide) (by simp), h1]
      try simp only [k_lit, k_nN, k_ofN]
      simp (disch := omega) only [i_leT, i_leF, i_ltT, i_ltF, i_eqT, i_eqF, i_okT, i_n1, i_n2, i_n3, i_n4, i_n5, i_n6, i_n7, i_n8, k_cl, if_true, if_false]
    | succ m ih =>
      intro k t hk hf hp
      have t1 : t.1 43 1 = nI nb := by rw [hf.1 43 1 (by decide) (by simp)]; exact h1
      have e48 : t.1 48 = s.1 48 := by
        funext j
        exact hf.1 48 j (by decide) (by simp)
      have g : ∀ j, j < 4 * nb → t.1 44 j = pt j := fun j hj => by rw [hf.1 44 j (by decide) (by simp)]; exact hpt j hj
      obtain ⟨u1, e1, f1⟩ := sX9_reckons (s := t) (c := c) (xc := xc) (xn := xn) (by rw [e48]; exact hc) (pt (4 * k)) (pt (4 * k + 1)) (pt (4 * k + 2)) (pt (4 * k + 3))
      have F1 : fr [58, 49] [] s u1 := fr_trans hf (fr_mono f1 (by simp) (by simp))
      obtain ⟨u, e, r⟩ := ih (k + 1) (a_si u1 49 k (pvl c pt k)) (by omega) (fr_si F1 (by simp)) (fun b hb => by
        by_cases e : b = k
        · rw [e]; simp [m_si]
        · have := hp b (by omega)
          rw [← f1.1 49 b (by decide) (by simp)] at this
          simpa [m_si, e] using this)
      refine ⟨u, ?_, r⟩
      rw [tX9_library_218, t1]
      try simp only [k_lit, k_nN, k_ofN, pk_mul, nI_add]
      simp (disch := omega) only [i_leT, i_leF, i_ltT, i_ltF, i_eqT, i_eqF, i_okT, i_n1, i_n2, i_n3, i_n4, i_n5, i_n6, i_n7, i_n8, k_cl, if_true, if_false]
      rw [g _ (by omega), g _ (by omega), g _ (by omega), g _ (by omega), e1, b_bi, tX9_library_273]
      try simp only [k_lit, k_nN, k_ofN, nI_add]
      simp (disch := omega) only [i_leT, i_leF, i_ltT, i_ltF, i_eqT, i_eqF, i_okT, i_n1, i_n2, i_n3, i_n4, i_n5, i_n6, i_n7, i_n8, k_cl, if_true, if_false]
      exact e
  exact key nb 0 s (by omega) (fr_rfl s) (fun b hb => absurd hb (Nat.not_lt_zero b))
def frQl : List (Nat × Nat) := [(43, 1), (43, 2), (43, 35), (43, 53), (43, 50), (43, 56)]
theorem ms_take {B : Nat → Nat} {n : Nat} {D : DR} {s : aMem} (hD : dOk D) (hcl : D.2.2.2.2.2.2.length ≤ 700) (h : MD B n n D s) : ∃ u, a_run none shp pX9_library 122 [some (.ref 43), none, none] [.int (nI 1)] s = some (.inl (some (.int (nI 0))), u) ∧ fr [44, 45, 46, 47, 48, 49, 58] frQl s u ∧ (u.1 43 1 = nI D.1 ∧ u.1 43 2 = nI D.2.1 ∧ u.1 43 35 = nI 0 ∧ u.1 43 53 = nI 0 ∧ u.1 43 50 = nI 0 ∧ u.1 43 56 = nI 0) ∧ (∀ j, j < 4 * D.1 → u.1 44 j = D.2.2.2.1 j) ∧ (∀ b, b < D.1 → u.1 45 b = D.2.2.2.2.1 b ∧ u.1 46 b = D.2.2.2.2.1 b) ∧ (∀ r, r < D.2.1 → u.1 47 r = D.2.2.2.2.2.1 r) ∧ (∀ j x, (mcode D.2.2.2.2.2.2)[j]? = some x → u.1 48 j = x) ∧ (∀ b, b < D.1 → u.1 49 b = pvl D.2.2.2.2.2.2 D.2.2.2.1 b) := by
  obtain ⟨nb, nr, hl, pt, ow, wt, c⟩ := D
  obtain ⟨hG, ⟨a1, a2, a3, a4, a5, a6⟩, hC⟩ := h
  obtain ⟨d1, d2, d3, d4, d5, d6⟩ := hD
  simp only at a1 a2 a3 a4 a5 a6 hC d1 d2 d3 d4 d5 d6 hcl ⊢
  have F0 : fr [44, 45, 46, 47, 48, 49, 58] frQl s (a_si (a_si s 43 1 (nI nb)) 43 2 (nI nr)) := fr_si (fr_si (fr_rfl s) (.inr (by decide))) (.inr (by decide))
  obtain ⟨u1, e1, f1, v1⟩ := c52_44 (a_si (a_si s 43 1 (nI nb)) 43 2 (nI nr))
  obtain ⟨u2, e2, f2, v2⟩ := c53_45 u1
  obtain ⟨u3, e3, f3, v3⟩ := c53_46 u2
  obtain ⟨u4, e4, f4, v4⟩ := c54_47 u3
  obtain ⟨u5, e5, f5, v5⟩ := c55_48 u4
  have F5 : fr [44, 45, 46, 47, 48] [] (a_si (a_si s 43 1 (nI nb)) 43 2 (nI nr)) u5 := fr_trans (fr_mono f1 (by simp) (by simp)) (fr_trans (fr_mono f2 (by simp) (by simp)) (fr_trans (fr_mono f3 (by simp) (by simp)) (fr_trans (fr_mono f4 (by simp) (by simp)) (fr_mono f5 (by simp) (by simp)))))
  have g1 : u5.1 43 1 = nI nb := by rw [F5.1 43 1 (by decide) (by simp)]; simp [m_si]
  have g2 : u5.1 43 2 = nI nr := by rw [F5.1 43 2 (by decide) (by simp)]; simp [m_si]
  have g44 : ∀ j, j < 4 * nb → u5.1 44 j = pt j := fun j hj => by
    rw [f5.1 44 j (by decide) (by simp), f4.1 44 j (by decide) (by simp), f3.1 44 j (by decide) (by simp), f2.1 44 j (by decide) (by simp), v1 j (by omega)]
    simpa [m_si] using a4 j hj
  have g53 : ∀ b, b < nb → u1.1 53 b = ow b := fun b hb => by
    rw [f1.1 53 b (by decide) (by simp)]
    simpa [m_si] using a5 b hb
  have g45 : ∀ b, b < nb → u5.1 45 b = ow b := fun b hb => by
    rw [f5.1 45 b (by decide) (by simp), f4.1 45 b (by decide) (by simp), f3.1 45 b (by decide) (by simp), v2 b (by omega)]
    exact g53 b hb
  have g46 : ∀ b, b < nb → u5.1 46 b = ow b := fun b hb => by
    rw [f5.1 46 b (by decide) (by simp), f4.1 46 b (by decide) (by simp), v3 b (by omega), f2.1 53 b (by decide) (by simp)]
    exact g53 b hb
  have g47 : ∀ r, r < nr → u5.1 47 r = wt r := fun r hr => by
    rw [f5.1 47 r (by decide) (by simp), v4 r (by omega), f3.1 54 r (by decide) (by simp), f2.1 54 r (by decide) (by simp), f1.1 54 r (by decide) (by simp)]
    simpa [m_si] using a6 r hr
  have g48 : ∀ j x, (mcode c)[j]? = some x → u5.1 48 j = x := fun j x hj => by
    have hj' : j < (mcode c).length := by
      apply Classical.byContradiction
      intro q'
      rw [List.getElem?_eq_none (by omega)] at hj
      cases hj
    have := mcode_le c
    rw [v5 j (by omega), f4.1 55 j (by decide) (by simp), f3.1 55 j (by decide) (by simp), f2.1 55 j (by decide) (by simp), f1.1 55 j (by decide) (by simp)]
    simpa [m_si] using hC j x hj
  obtain ⟨u6, e6, f6, v6⟩ := ms_pages (s := u5) (c := c) (pt := pt) (xc := fun j => ((c[j]?).map xst).getD (nI 0)) (xn := nI c.length) d1 g1 g44 ⟨hcl, rfl, fun j q hj => by simp [hj], g48, d5, d6⟩
  have F7 : fr [44, 45, 46, 47, 48, 49, 58] frQl u6 (a_si (a_si (a_si (a_si u6 43 35 (nI 0)) 43 53 (nI 0)) 43 50 (nI 0)) 43 56 (nI 0)) := fr_si (fr_si (fr_si (fr_si (fr_rfl u6) (.inr (by decide))) (.inr (by decide))) (.inr (by decide))) (.inr (by decide))
  refine ⟨_, ?_, fr_trans F0 (fr_trans (fr_mono F5 (by simp) (by simp)) (fr_trans (fr_mono f6 (by simp) (by simp)) F7)), ⟨?_, ?_, by simp [m_si], by simp [m_si], by simp [m_si], by simp [m_si]⟩, fun j hj => ?_, fun b hb => ⟨?_, ?_⟩, fun r hr => ?_, fun j x hj => ?_, fun b hb => ?_⟩
  · rw [tX9_library_122, a1, a2]
    try simp only [k_lit, k_nN, k_ofN]
    simp (disch := omega) only [i_leT, i_leF, i_ltT, i_ltF, i_eqT, i_eqF, i_okT, i_n1, i_n2, i_n3, i_n4, i_n5, i_n6, i_n7, i_n8, k_cl, if_true, if_false]
    rw [e1, b_bv, tX9_library_168, e2, b_bv, tX9_library_180, e3, b_bv, tX9_library_192, e4, b_bv, tX9_library_204, e5, b_bv, tX9_library_216]
    try simp only [k_lit, k_nN, k_ofN]
    exact e6
  · have := g1
    rw [← f6.1 43 1 (by decide) (by simp)] at this
    simpa [m_si] using this
  · have := g2
    rw [← f6.1 43 2 (by decide) (by simp)] at this
    simpa [m_si] using this
  · have := g44 j hj
    rw [← f6.1 44 j (by decide) (by simp)] at this
    simpa [m_si] using this
  · have := g45 b hb
    rw [← f6.1 45 b (by decide) (by simp)] at this
    simpa [m_si] using this
  · have := g46 b hb
    rw [← f6.1 46 b (by decide) (by simp)] at this
    simpa [m_si] using this
  · have := g47 r hr
    rw [← f6.1 47 r (by decide) (by simp)] at this
    simpa [m_si] using this
  · have := g48 j x hj
    rw [← f6.1 48 j (by decide) (by simp)] at this
    simpa [m_si] using this
  · have := v6 b hb
    simpa [m_si] using this
