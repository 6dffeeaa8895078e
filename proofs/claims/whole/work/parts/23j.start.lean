/-! ===== where the text begins ===== -/
def D0 : DR := (0, 0, 0, fun _ => nI 0, fun _ => nI 0, fun _ => nI 0, [(1, 0)])
theorem dOk_0 : dOk D0 := ⟨by decide, by decide, by decide, fun r hr => absurd hr (Nat.not_lt_zero r), fun q hq => by rw [List.mem_singleton.mp hq]; exact .inr (.inl ⟨rfl, by decide⟩), ⟨by decide, rfl⟩⟩
def frZl : List (Nat × Nat) := [(1, 2), (1, 3), (1, 4), (1, 5), (1, 6), (4, 1), (21, 2), (21, 3), (3, 0), (3, 1), (3, 2)]
def frZ (s u : aMem) : Prop := fr [5, 7, 8, 9] frZl s u
theorem frZ_of {K : List Nat} {F : List (Nat × Nat)} {s u : aMem} (h : fr K F s u) (h1 : (K.all fun k => [5, 7, 8, 9].contains k) = true) (h2 : (F.all fun q => frZl.contains q) = true) : frZ s u := by
  refine fr_mono h (fun k hk => ?_) (fun q hq => .inr ?_)
  · exact List.contains_iff_mem.mp (List.all_eq_true.mp h1 k hk)
  · exact List.contains_iff_mem.mp (List.all_eq_true.mp h2 q hq)
theorem x_start {B : Nat → Nat} {n : Nat} {s : aMem} (hn : n ≤ 700) (hB : ∀ j, j < n → B j < 256) (hx : xB B n s) : ∃ u, fX3_readAll [.ref 21, .int (nI n)] s = a_run none shp pX3_readAll 29 [some (.ref 21), none, some (.int (nI 1)), some (.int (nI 0))] [] u ∧ frZ s u ∧ XD B n (SK B n 0) D0 u := by
  have Fa : frZ s (a_si (a_si (a_si (a_si (a_si (a_si (a_si (a_si s 21 2 (nI 0)) 21 3 nN) 3 0 (nI 0)) 3 1 (nI 0)) 3 2 (nI 0)) 4 1 (nI 0)) 5 0 nN) 4 1 (nI 1)) := fr_si (fr_si (fr_si (fr_si (fr_si (fr_si (fr_si (fr_si (fr_rfl s) (.inr (by decide))) (.inr (by decide))) (.inr (by decide))) (.inr (by decide))) (.inr (by decide))) (.inr (by decide))) (.inl (by decide))) (.inr (by decide))
  obtain ⟨u7, e7, f7, v7⟩ := fl7 (a_si (a_si (a_si (a_si (a_si (a_si (a_si (a_si s 21 2 (nI 0)) 21 3 nN) 3 0 (nI 0)) 3 1 (nI 0)) 3 2 (nI 0)) 4 1 (nI 0)) 5 0 nN) 4 1 (nI 1)) (nI 0)
  obtain ⟨u8, e8, f8, v8⟩ := fl8 u7 nN
  obtain ⟨u9, e9, f9, v9⟩ := fl9 u8 (nI 0)
  have Fb : fr [7, 8, 9] [] (a_si (a_si (a_si (a_si (a_si (a_si (a_si (a_si s 21 2 (nI 0)) 21 3 nN) 3 0 (nI 0)) 3 1 (nI 0)) 3 2 (nI 0)) 4 1 (nI 0)) 5 0 nN) 4 1 (nI 1)) u9 := fr_trans (fr_mono f7 (by simp) (by simp)) (fr_trans (fr_mono f8 (by simp) (by simp)) (fr_mono f9 (by simp) (by simp)))
  have Fc : fr [] [(1, 5), (1, 6)] u9 (a_si (a_si u9 1 6 (nI n)) 1 5 (nI 0)) := fr_si (fr_si (fr_rfl u9) (by simp)) (by simp)
  have F3 : frZ s (a_si (a_si u9 1 6 (nI n)) 1 5 (nI 0)) := fr_trans Fa (fr_trans (frZ_of Fb (by decide) (by decide)) (frZ_of Fc (by decide) (by decide)))
  obtain ⟨u, e, f, m⟩ := sX5_next (B := B) (n := n) (p := 0) (s := a_si (a_si u9 1 6 (nI n)) 1 5 (nI 0)) hn hB (by omega) (by simp [m_si]) (by simp [m_si]) (fun j hj => by rw [F3.1 2 j (by decide) (by simp [frZl])]; exact hx j hj)
  refine ⟨u, ?_, fr_trans F3 (frZ_of f (by decide) (by decide)), ⟨m, ?_, fun j q hj => ?_⟩, ⟨⟨?_, ?_⟩, ⟨?_, ?_, ?_⟩, ⟨fun j hj => absurd hj (by simp [D0]), fun j _ hj => ?_⟩, ⟨fun j hj => absurd hj (by simp [D0]), fun j _ hj => ?_⟩, ?_⟩, by decide⟩
  · rw [tX3_readAll]
    try simp only [k_lit, k_nN, k_ofN]
    rw [tX6_clear]
    try simp only [k_lit, k_nN, k_ofN]
    rw [tX1_clear]
    try simp only [k_lit, k_nN, k_ofN]
    rw [b_bv, tX6_clear_22]
    try simp only [k_lit, k_nN, k_ofN]
    rw [tX1_add]
    simp only [m_si, if_true]
    try simp only [k_lit, k_nN, k_ofN]
    rw [i_leF (by omega) (by omega), i_okT (by omega) (by omega), k_cl (by omega), b_bv, tX6_clear_30]
    try simp only [k_lit, k_nN, k_ofN, nI_add]
    rw [e7, b_bv, tX6_clear_38]
    try simp only [k_lit, k_nN, k_ofN]
    rw [e8, b_bv, tX6_clear_46]
    try simp only [k_lit, k_nN, k_ofN]
    rw [e9, b_bv, b_bv, tX3_readAll_17, tX5_begin]
    try simp only [k_lit, k_nN, k_ofN]
    rw [e, b_bv, b_bv, tX3_readAll_25]
    try simp only [k_lit, k_nN, k_ofN]
  · rw [f.1 4 1 (by simp) (by decide), Fc.1 4 1 (by simp) (by decide), Fb.1 4 1 (by decide) (by simp)]
    simp [m_si, D0]
  · rw [f.1 5 j (by simp) (by simp), Fc.1 5 j (by simp) (by simp), Fb.1 5 j (by decide) (by simp)]
    have : j = 0 ∧ q = (1, 0) := by
      rcases j with _ | j
      · cases hj; exact ⟨rfl, rfl⟩
      · simp [D0] at hj
    obtain ⟨c1, c2⟩ := this
    subst c1
    subst c2
    simp [m_si]
    rfl
  · rw [f.1 21 2 (by simp) (by decide), Fc.1 21 2 (by simp) (by decide), Fb.1 21 2 (by decide) (by simp)]
    simp [m_si]
  · rw [f.1 21 3 (by simp) (by decide), Fc.1 21 3 (by simp) (by decide), Fb.1 21 3 (by decide) (by simp)]
    simp [m_si]
  · rw [f.1 3 0 (by simp) (by decide), Fc.1 3 0 (by simp) (by decide), Fb.1 3 0 (by decide) (by simp)]
    simp [m_si, D0]
  · rw [f.1 3 1 (by simp) (by decide), Fc.1 3 1 (by simp) (by decide), Fb.1 3 1 (by decide) (by simp)]
    simp [m_si, D0]
  · rw [f.1 3 2 (by simp) (by decide), Fc.1 3 2 (by simp) (by decide), Fb.1 3 2 (by decide) (by simp)]
    simp [m_si, D0]
  · rw [f.1 7 j (by simp) (by simp), Fc.1 7 j (by simp) (by simp), f9.1 7 j (by decide) (by simp), f8.1 7 j (by decide) (by simp)]
    exact v7 j hj
  · rw [f.1 8 j (by simp) (by simp), Fc.1 8 j (by simp) (by simp), f9.1 8 j (by decide) (by simp)]
    exact v8 j hj
  · have g9 : ∀ j, j < 6 → u.1 9 j = nI 0 := fun j hj => by
      rw [f.1 9 j (by simp) (by simp), Fc.1 9 j (by simp) (by simp)]
      exact v9 j hj
    exact ⟨fun r hr => g9 r (by omega), g9 5 (by omega), fun b hb => absurd hb (by simp [D0])⟩
theorem m_start {B : Nat → Nat} {n n0 : Nat} {s : aMem} (hn : n ≤ 700) (h0 : n ≤ n0) (hn0 : n0 ≤ 700) (hB : ∀ j, j < n → B j < 256) (h10 : s.1 43 10 = nI n0) (hm : mB B n s) : ∃ u, fX9_library [.ref 43, .int (nI n)] s = a_run none shp pX9_library 97 [some (.ref 43), none, none] [] u ∧ fr [55] [(43, 0), (43, 10), (43, 12), (43, 11), (43, 14), (43, 15), (43, 16), (43, 17), (43, 18), (43, 19), (43, 20), (43, 21), (43, 22), (43, 23), (43, 27)] s u ∧ u.1 43 0 = nI 0 ∧ u.1 43 10 = nI 0 ∧ u.1 43 12 = nN ∧ MD B n (SK B n 0) D0 u := by
  have F : fr [55] [(43, 0), (43, 10), (43, 12), (43, 11), (43, 14), (43, 15), (43, 16), (43, 17), (43, 18), (43, 19), (43, 20), (43, 21), (43, 22), (43, 23), (43, 27)] s (a_si (a_si (a_si (a_si (a_si (a_si (a_si (a_si (a_si (a_si (a_si (a_si s 43 0 (nI 0)) 43 10 (nI 0)) 43 12 nN) 43 11 (nI 0)) 43 14 (nI n)) 43 15 (nI 0)) 43 22 (nI 0)) 43 23 (nI 0)) 43 27 (nI 0)) 55 0 (nI 2)) 55 1 (nI 0)) 55 2 (nI 0)) := fr_si (fr_si (fr_si (fr_si (fr_si (fr_si (fr_si (fr_si (fr_si (fr_si (fr_si (fr_si (fr_rfl s) (.inr (by decide))) (.inr (by decide))) (.inr (by decide))) (.inr (by decide))) (.inr (by decide))) (.inr (by decide))) (.inr (by decide))) (.inr (by decide))) (.inr (by decide))) (.inl (by decide))) (.inl (by decide))) (.inl (by decide))
  obtain ⟨u, e, f, m⟩ := sX9_goes (B := B) (n := n) (p := 0) (s := a_si (a_si (a_si (a_si (a_si (a_si (a_si (a_si (a_si (a_si (a_si (a_si s 43 0 (nI 0)) 43 10 (nI 0)) 43 12 nN) 43 11 (nI 0)) 43 14 (nI n)) 43 15 (nI 0)) 43 22 (nI 0)) 43 23 (nI 0)) 43 27 (nI 0)) 55 0 (nI 2)) 55 1 (nI 0)) 55 2 (nI 0)) hn hB (by omega) (by simp [m_si]) (by simp [m_si]) ⟨fun j hj => by rw [F.1 50 j (by decide) (by simp)]; exact hm j hj, by simp [m_si]⟩
  refine ⟨u, ?_, fr_trans F (fr_mono f (by simp) (fun q hq => .inr ((by decide : ∀ q, q ∈ ([(43, 15), (43, 16), (43, 17), (43, 18), (43, 19), (43, 20), (43, 21)] : List (Nat × Nat)) → q ∈ ([(43, 0), (43, 10), (43, 12), (43, 11), (43, 14), (43, 15), (43, 16), (43, 17), (43, 18), (43, 19), (43, 20), (43, 21), (43, 22), (43, 23), (43, 27)] : List (Nat × Nat))) q hq))), ?_, ?_, ?_, ⟨m, ?_⟩, ⟨?_, ?_, ?_, fun j hj => absurd hj (by simp [D0]), fun j hj => absurd hj (by simp [D0]), fun j hj => absurd hj (by simp [D0])⟩, fun j x hj => ?_⟩
  · rw [tX9_library, h10]
    try simp only [k_lit, k_nN, k_ofN]
    rw [i_ltF (by omega) (by omega), i_ltF (by omega) (by omega), tX9_right]
    simp only [m_si, if_true]
    try simp only [k_lit, k_nN, k_ofN]
    simp (disch := omega) only [i_leT, i_leF, i_ltT, i_ltF, i_eqT, i_eqF, i_okT, i_n1, i_n2, i_n3, i_n4, i_n5, i_n6, i_n7, i_n8, k_cl, if_true, if_false]
    rw [b_bi, tX9_library_27]
    try simp only [k_lit, k_nN, k_ofN]
    simp (disch := omega) only [i_leT, i_leF, i_ltT, i_ltF, i_eqT, i_eqF, i_okT, i_n1, i_n2, i_n3, i_n4, i_n5, i_n6, i_n7, i_n8, k_cl, if_true, if_false]
    rw [e, b_bv]
  · rw [f.1 43 0 (by simp) (by decide)]; simp [m_si]
  · rw [f.1 43 10 (by simp) (by decide)]; simp [m_si]
  · rw [f.1 43 12 (by simp) (by decide)]; simp [m_si]
  · rw [f.1 43 11 (by simp) (by decide)]; simp [m_si]
  · rw [f.1 43 22 (by simp) (by decide)]; simp [m_si, D0]
  · rw [f.1 43 23 (by simp) (by decide)]; simp [m_si, D0]
  · rw [f.1 43 27 (by simp) (by decide)]; simp [m_si, D0]
  · rw [f.1 55 j (by simp) (by simp)]
    rcases j with _ | _ | _ | j
    · cases hj; simp [m_si]
    · cases hj; simp [m_si]
    · cases hj; simp [m_si]
    · simp [D0, mcode, mst] at hj
