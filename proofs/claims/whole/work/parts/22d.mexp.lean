/-! ===== the model's stack of what waits ===== -/
def frMl : List (Nat × Nat) := [(43, 11), (43, 12), (43, 15), (43, 16), (43, 17), (43, 18), (43, 19), (43, 20), (43, 21), (43, 24), (43, 25), (43, 26)]
def frM (s u : aMem) : Prop := fr [55, 56, 57] frMl s u
theorem frM_tr {s t u : aMem} (h : frM s t) (h2 : frM t u) : frM s u := fr_trans h h2
theorem frM_rfl (s : aMem) : frM s s := fr_rfl s
def stre (x : Nat) : Nat := if x = 5 then 1 else if x = 4 then 2 else if x = 3 then 3 else if x = 6 then 4 else if x = 7 then 4 else if x = 8 then 5 else if x = 9 then 5 else 6
/-- the stack (top first), the code -/
def mS (W : List Nat) (O : List Int32) (s : aMem) : Prop := (s.1 43 25 = nI W.length ∧ Rp (s.1 56) (W.map nI) ∧ W.length ≤ 750 ∧ ∀ x, x ∈ W → x < 20) ∧ s.1 43 24 = nI O.length ∧ (∀ j x, O[j]? = some x → s.1 55 j = x) ∧ O.length + W.length ≤ 1500
def ME (B : Nat → Nat) (n f : Nat) (W : List Nat) (O : List Int32) (d : Nat) (ts : Nat → Nat) (s : aMem) : Prop := MT B n f s ∧ s.1 43 11 = nI 0 ∧ mS W O s ∧ (s.1 43 26 = nI d ∧ d ≤ 6) ∧ (∀ j, j ≤ d → s.1 57 j = nI (ts j) ∧ ts j < 4294967296) ∧ W.length ≤ f ∧ O.length + W.length ≤ 2 * f
theorem MT_fr {B : Nat → Nat} {n f : Nat} {s t : aMem} {K : List Nat} {F : List (Nat × Nat)} (h : MT B n f s) (hf : fr K F s t) (h1 : (K.all fun k => k != 43 && k != 50) = true) (h2 : (F.all fun q => q.1 != 50 && !((q.1 == 43) && (q.2 == 12 || q.2 == 14 || q.2 == 15 || q.2 == 16 || q.2 == 17 || q.2 == 18 || q.2 == 19 || q.2 == 20 || q.2 == 21))) = true) : MT B n f t := by
  have kk : ∀ k, k = 43 ∨ k = 50 → k ∉ K := by
    intro k hk c
    have := List.all_eq_true.mp h1 k c
    rcases hk with e | e <;> subst e <;> simp at this
  have ff : ∀ j, j = 12 ∨ j = 14 ∨ j = 15 ∨ j = 16 ∨ j = 17 ∨ j = 18 ∨ j = 19 ∨ j = 20 ∨ j = 21 → (43, j) ∉ F := by
    intro j hj c
    have := List.all_eq_true.mp h2 _ c
    rcases hj with e | e | e | e | e | e | e | e | e <;> subst e <;> simp at this
  have f50 : ∀ j, (50, j) ∉ F := by
    intro j c
    have := List.all_eq_true.mp h2 _ c
    simp at this
  obtain ⟨a1, a2, a3, a4, a5, a6, a7, a8, a9, a10⟩ := h
  refine ⟨a1, ?_, ?_, ?_, ?_, ?_, fun c => ?_, ?_, fun c => ?_, fun j hj => ?_, ?_⟩
  · rw [hf.1 43 14 (kk 43 (.inl rfl)) (ff 14 (by simp))]; exact a2
  · rw [hf.1 43 15 (kk 43 (.inl rfl)) (ff 15 (by simp))]; exact a3
  · rw [hf.1 43 16 (kk 43 (.inl rfl)) (ff 16 (by simp))]; exact a4
  · rw [hf.1 43 17 (kk 43 (.inl rfl)) (ff 17 (by simp))]; exact a5
  · rw [hf.1 43 18 (kk 43 (.inl rfl)) (ff 18 (by simp))]; exact a6
  · rw [hf.1 43 19 (kk 43 (.inl rfl)) (ff 19 (by simp))]; exact a7 c
  · rw [hf.1 43 20 (kk 43 (.inl rfl)) (ff 20 (by simp))]; exact a8
  · rw [hf.2.1 43 21 (kk 43 (.inl rfl)) (ff 21 (by simp))]; exact a9 c
  · rw [hf.1 50 j (kk 50 (.inr rfl)) (f50 j)]; exact a10.1 j hj
  · rw [hf.1 43 12 (kk 43 (.inl rfl)) (ff 12 (by simp))]; exact a10.2
theorem sX9_isGoodT {s : aMem} (h : s.1 43 11 = nI 0) : fX9_isGood [.ref 43] s = some (.inl (some (.int (nI 1))), s) := by
  rw [tX9_isGood, h]
  try simp only [k_lit, k_nN, k_ofN]
  simp (disch := omega) only [i_leT, i_leF, i_ltT, i_ltF, i_eqT, i_eqF, i_okT, i_n1, i_n2, i_n3, i_n4, i_n5, i_n6, i_n7, i_n8, k_cl, if_true, if_false]
theorem sX9_isGoodF {s : aMem} {k : Nat} (h : s.1 43 11 = nI k) (hk : 0 < k) (hk2 : k < 10) : fX9_isGood [.ref 43] s = some (.inl (some (.int (nI 0))), s) := by
  rw [tX9_isGood, h]
  try simp only [k_lit, k_nN, k_ofN]
  simp (disch := omega) only [i_leT, i_leF, i_ltT, i_ltF, i_eqT, i_eqF, i_okT, i_n1, i_n2, i_n3, i_n4, i_n5, i_n6, i_n7, i_n8, k_cl, if_true, if_false]
theorem sX9_wrong {s : aMem} {k : Nat} (h : s.1 43 11 = nI 0) : fX9_wrong [.ref 43, .int (nI k)] s = some (.inl none, a_si (a_si s 43 11 (nI k)) 43 12 (s.1 43 17)) := by
  rw [tX9_wrong, h]
  try simp only [k_lit, k_nN, k_ofN]
  simp (disch := omega) only [i_leT, i_leF, i_ltT, i_ltF, i_eqT, i_eqF, i_okT, i_n1, i_n2, i_n3, i_n4, i_n5, i_n6, i_n7, i_n8, k_cl, if_true, if_false]
theorem sX9_wrongN {s : aMem} {k j : Nat} (h : s.1 43 11 = nI k) (hk : 0 < k) (hk2 : k < 10) : fX9_wrong [.ref 43, .int (nI j)] s = some (.inl none, s) := by
  rw [tX9_wrong, h]
  try simp only [k_lit, k_nN, k_ofN]
  simp (disch := omega) only [i_leT, i_leF, i_ltT, i_ltF, i_eqT, i_eqF, i_okT, i_n1, i_n2, i_n3, i_n4, i_n5, i_n6, i_n7, i_n8, k_cl, if_true, if_false]
theorem sX9_puts {s : aMem} {W : List Nat} {O : List Int32} (h : mS W O s) (hl : O.length + W.length < 1500) (v : Int32) : ∃ u, fX9_puts [.ref 43, .int v] s = some (.inl none, u) ∧ fr [55] [(43, 24)] s u ∧ mS W (O ++ [v]) u := by
  obtain ⟨⟨h1, h2, h3, h4⟩, h5, h6, h7⟩ := h
  rw [tX9_puts, h5]
  try simp only [k_lit, k_nN, k_ofN, nI_add]
  simp (disch := omega) only [i_leT, i_leF, i_ltT, i_ltF, i_eqT, i_eqF, i_okT, i_n1, i_n2, i_n3, i_n4, i_n5, i_n6, i_n7, i_n8, k_cl, if_true, if_false]
  refine ⟨_, rfl, fr_si (fr_si (fr_rfl s) (by simp)) (by simp), ⟨by simpa [m_si] using h1, Rp_o (Rp_o h2 (by decide)) (by decide), h3, h4⟩, by simp [m_si], fun j x hj => ?_, by simp only [List.length_append, List.length_cons, List.length_nil]; omega⟩
  by_cases e : j = O.length
  · subst e
    rw [List.getElem?_append_right (Nat.le_refl _), Nat.sub_self] at hj
    cases hj
    simp [m_si]
  · have hlt : j < O.length := by
      by_cases c : j < O.length
      · exact c
      · rw [List.getElem?_append_right (by omega)] at hj
        have : j - O.length ≠ 0 := by omega
        obtain ⟨z, hz⟩ : ∃ z, j - O.length = z + 1 := ⟨j - O.length - 1, by omega⟩
        rw [hz] at hj
        simp at hj
    rw [List.getElem?_append_left hlt] at hj
    have := h6 j x hj
    simpa [m_si, e] using this
theorem sX9_waitsFor {s : aMem} {W : List Nat} {O : List Int32} {x : Nat} (h : mS W O s) (hl : W.length < 750) (hl2 : O.length + W.length < 1500) (hx : x < 20) : ∃ u, fX9_waitsFor [.ref 43, .int (nI x)] s = some (.inl none, u) ∧ fr [56] [(43, 25)] s u ∧ mS (x :: W) O u := by
  obtain ⟨⟨h1, h2, h3, h4⟩, h5, h6, h7⟩ := h
  rw [tX9_waitsFor, h1]
  try simp only [k_lit, k_nN, k_ofN, nI_add]
  simp (disch := omega) only [i_leT, i_leF, i_ltT, i_ltF, i_eqT, i_eqF, i_okT, i_n1, i_n2, i_n3, i_n4, i_n5, i_n6, i_n7, i_n8, k_cl, if_true, if_false]
  refine ⟨_, rfl, fr_si (fr_si (fr_rfl s) (by simp)) (by simp), ⟨by simp [m_si], ?_, by simp only [List.length_cons]; omega, fun y hy => ?_⟩, by simpa [m_si] using h5, fun j x hj => by simpa [m_si] using h6 j x hj, by simp only [List.length_cons]; omega⟩
  · rw [List.map_cons]
    exact Rp_o (Rp_set h2 (by simp)) (by decide)
  · rcases List.mem_cons.mp hy with e | e
    · rw [e]; exact hx
    · exact h4 y e
theorem sX9_isOpen {s : aMem} {x : Nat} (hx : x < 1000) : fX9_isOpen [.int (nI x)] s = some (.inl (some (.int (nI (decide (14 ≤ x)).toNat))), s) := by
  rw [tX9_isOpen]
  try simp only [k_lit, k_nN, k_ofN]
  by_cases e : x < 14
  · simp (disch := omega) only [i_leT, i_leF, i_ltT, i_ltF, i_eqT, i_eqF, i_okT, i_n1, i_n2, i_n3, i_n4, i_n5, i_n6, i_n7, i_n8, k_cl, if_true, if_false]
    have : ¬ 14 ≤ x := by omega
    simp [this]
  · simp (disch := omega) only [i_leT, i_leF, i_ltT, i_ltF, i_eqT, i_eqF, i_okT, i_n1, i_n2, i_n3, i_n4, i_n5, i_n6, i_n7, i_n8, k_cl, if_true, if_false]
    have : 14 ≤ x := by omega
    simp [this]
theorem sX9_strength {s : aMem} {x : Nat} (hx : x < 1000) : fX9_strength [.int (nI x)] s = some (.inl (some (.int (nI (stre x)))), s) := by
  rw [tX9_strength]
  try simp only [k_lit, k_nN, k_ofN]
  unfold stre
  by_cases e1 : x = 5
  · subst e1
    simp (disch := omega) only [i_leT, i_leF, i_ltT, i_ltF, i_eqT, i_eqF, i_okT, i_n1, i_n2, i_n3, i_n4, i_n5, i_n6, i_n7, i_n8, k_cl, if_true, if_false]
  · rw [i_eqF e1 (by omega) (by omega), if_neg e1]
    by_cases e2 : x = 4
    · subst e2
      simp (disch := omega) only [i_leT, i_leF, i_ltT, i_ltF, i_eqT, i_eqF, i_okT, i_n1, i_n2, i_n3, i_n4, i_n5, i_n6, i_n7, i_n8, k_cl, if_true, if_false]
    · rw [i_eqF e2 (by omega) (by omega), if_neg e2]
      by_cases e3 : x = 3
      · subst e3
        simp (disch := omega) only [i_leT, i_leF, i_ltT, i_ltF, i_eqT, i_eqF, i_okT, i_n1, i_n2, i_n3, i_n4, i_n5, i_n6, i_n7, i_n8, k_cl, if_true, if_false]
      · rw [i_eqF e3 (by omega) (by omega), if_neg e3]
        by_cases e4 : x = 6
        · subst e4
          simp (disch := omega) only [i_leT, i_leF, i_ltT, i_ltF, i_eqT, i_eqF, i_okT, i_n1, i_n2, i_n3, i_n4, i_n5, i_n6, i_n7, i_n8, k_cl, if_true, if_false]
        · rw [i_eqF e4 (by omega) (by omega), if_neg e4]
          by_cases e5 : x = 7
          · subst e5
            simp (disch := omega) only [i_leT, i_leF, i_ltT, i_ltF, i_eqT, i_eqF, i_okT, i_n1, i_n2, i_n3, i_n4, i_n5, i_n6, i_n7, i_n8, k_cl, if_true, if_false]
          · rw [i_eqF e5 (by omega) (by omega), if_neg e5]
            by_cases e6 : x = 8
            · subst e6
              simp (disch := omega) only [i_leT, i_leF, i_ltT, i_ltF, i_eqT, i_eqF, i_okT, i_n1, i_n2, i_n3, i_n4, i_n5, i_n6, i_n7, i_n8, k_cl, if_true, if_false]
            · rw [i_eqF e6 (by omega) (by omega), if_neg e6]
              by_cases e7 : x = 9
              · subst e7
                simp (disch := omega) only [i_leT, i_leF, i_ltT, i_ltF, i_eqT, i_eqF, i_okT, i_n1, i_n2, i_n3, i_n4, i_n5, i_n6, i_n7, i_n8, k_cl, if_true, if_false]
              · rw [i_eqF e7 (by omega) (by omega), if_neg e7]
theorem stre_le (x : Nat) : 1 ≤ stre x ∧ stre x ≤ 6 := by
  unfold stre
  repeat' split
  all_goals omega
/-- the top of a stack stays where drops stops -/
def lowW (σ : Nat) (W : List Nat) : Prop := ∀ x W', W = x :: W' → 14 ≤ x ∨ stre x < σ
theorem mS_pop {s : aMem} {x : Nat} {W : List Nat} {O : List Int32} (h : mS (x :: W) O s) : mS W O (a_si s 43 25 (nI W.length)) := by
  obtain ⟨⟨h1, h2, h3, h4⟩, h5, h6, h7⟩ := h
  simp only [List.length_cons] at h3 h7
  refine ⟨⟨by simp [m_si], Rp_o h2.2 (by decide), by omega, fun y hy => h4 y (by simp [hy])⟩, by simpa [m_si] using h5, fun j x hj => by simpa [m_si] using h6 j x hj, by omega⟩
theorem drops_go {σ : Nat} (hσ : σ ≤ 6) : ∀ (P : List Nat) (W : List Nat) (O : List Int32) (s : aMem), mS (P ++ W) O s → (∀ x, x ∈ P → x < 14 ∧ σ ≤ stre x) → lowW σ W → ∃ u, a_run none shp pX9_drops 0 [some (.ref 43), some (.int (nI σ))] [] s = some (.inl none, u) ∧ fr [55] [(43, 24), (43, 25)] s u ∧ mS W (O ++ P.map nI) u := by
  intro P
  induction P with
  | nil =>
    intro W O s h hP hW
    rw [List.nil_append] at h
    refine ⟨s, ?_, fr_rfl s, by simpa using h⟩
    obtain ⟨⟨h1, h2, h3, h4⟩, -⟩ := h
    rw [tX9_drops_0, h1]
    try simp only [k_lit, k_nN, k_ofN]
    cases W with
    | nil =>
      simp only [List.length_nil]
      simp (disch := omega) only [i_leT, i_leF, i_ltT, i_ltF, i_eqT, i_eqF, i_okT, i_n1, i_n2, i_n3, i_n4, i_n5, i_n6, i_n7, i_n8, k_cl, if_true, if_false]
    | cons x W' =>
      have hx := h4 x (by simp)
      have hv := h2.1
      simp only [List.length_map] at hv
      simp only [List.length_cons] at h3 ⊢
      rw [k_pred]
      simp (disch := omega) only [i_leT, i_leF, i_ltT, i_ltF, i_eqT, i_eqF, i_okT, i_n1, i_n2, i_n3, i_n4, i_n5, i_n6, i_n7, i_n8, k_cl, if_true, if_false]
      rw [hv, sX9_isOpen (by omega), b_bi, tX9_drops_21, h1]
      try simp only [k_lit, k_nN, k_ofN]
      simp only [List.length_cons]
      rw [k_pred]
      rcases hW x W' rfl with e | e
      · simp only [e, decide_true, Bool.toNat_true]
        simp (disch := omega) only [i_leT, i_leF, i_ltT, i_ltF, i_eqT, i_eqF, i_okT, i_n1, i_n2, i_n3, i_n4, i_n5, i_n6, i_n7, i_n8, k_cl, if_true, if_false]
      · by_cases e14 : 14 ≤ x
        · simp only [e14, decide_true, Bool.toNat_true]
          simp (disch := omega) only [i_leT, i_leF, i_ltT, i_ltF, i_eqT, i_eqF, i_okT, i_n1, i_n2, i_n3, i_n4, i_n5, i_n6, i_n7, i_n8, k_cl, if_true, if_false]
        · have hs := stre_le x
          simp only [e14, decide_false, Bool.toNat_false]
          simp (disch := omega) only [i_leT, i_leF, i_ltT, i_ltF, i_eqT, i_eqF, i_okT, i_n1, i_n2, i_n3, i_n4, i_n5, i_n6, i_n7, i_n8, k_cl, if_true, if_false]
          rw [hv, sX9_strength (by omega), b_bi, tX9_drops_38]
          try simp only [k_lit, k_nN, k_ofN]
          simp (disch := omega) only [i_leT, i_leF, i_ltT, i_ltF, i_eqT, i_eqF, i_okT, i_n1, i_n2, i_n3, i_n4, i_n5, i_n6, i_n7, i_n8, k_cl, if_true, if_false]
  | cons x P ih =>
    intro W O s h hP hW
    obtain ⟨hx, hxs⟩ := hP x (by simp)
    have hs := stre_le x
    rw [List.cons_append] at h
    obtain ⟨⟨h1, h2, h3, h4⟩, h5, h6, h7⟩ := id h
    have hv := h2.1
    simp only [List.length_map] at hv
    simp only [List.length_cons] at h1 h3 h7
    have e14 : ¬ 14 ≤ x := by omega
    obtain ⟨u1, hu1, fu1, mu1⟩ := sX9_puts (mS_pop h) (by omega) (nI x)
    obtain ⟨u, hu, fu, mu⟩ := ih W (O ++ [nI x]) u1 mu1 (fun y hy => hP y (by simp [hy])) hW
    refine ⟨u, ?_, fr_trans (fr_si (fr_rfl s) (by simp)) (fr_trans (fr_mono fu1 (by simp) (by simp)) fu), by simpa using mu⟩
    rw [tX9_drops_0, h1]
    try simp only [k_lit, k_nN, k_ofN]
    rw [k_pred]
    simp (disch := omega) only [i_leT, i_leF, i_ltT, i_ltF, i_eqT, i_eqF, i_okT, i_n1, i_n2, i_n3, i_n4, i_n5, i_n6, i_n7, i_n8, k_cl, if_true, if_false]
    rw [hv, sX9_isOpen (by omega), b_bi, tX9_drops_21, h1]
    try simp only [k_lit, k_nN, k_ofN]
    rw [k_pred]
    simp only [e14, decide_false, Bool.toNat_false]
    simp (disch := omega) only [i_leT, i_leF, i_ltT, i_ltF, i_eqT, i_eqF, i_okT, i_n1, i_n2, i_n3, i_n4, i_n5, i_n6, i_n7, i_n8, k_cl, if_true, if_false]
    rw [hv, sX9_strength (by omega), b_bi, tX9_drops_38, h1]
    try simp only [k_lit, k_nN, k_ofN]
    rw [k_pred]
    simp (disch := omega) only [i_leT, i_leF, i_ltT, i_ltF, i_eqT, i_eqF, i_okT, i_n1, i_n2, i_n3, i_n4, i_n5, i_n6, i_n7, i_n8, k_cl, if_true, if_false]
    rw [hv, hu1, b_bv]
    exact hu
theorem sX9_drops {σ : Nat} (hσ : σ ≤ 6) {P W : List Nat} {O : List Int32} {s : aMem} (h : mS (P ++ W) O s) (hP : ∀ x, x ∈ P → x < 14 ∧ σ ≤ stre x) (hW : lowW σ W) : ∃ u, fX9_drops [.ref 43, .int (nI σ)] s = some (.inl none, u) ∧ fr [55] [(43, 24), (43, 25)] s u ∧ mS W (O ++ P.map nI) u := by
  obtain ⟨u, h1, h2⟩ := drops_go hσ P W O s h hP hW
  refine ⟨u, ?_, h2⟩
  rw [← h1, tX9_drops, tX9_drops_0]
/-- drops in any sane state -/
theorem sX9_dropsB {s : aMem} {W : List Nat} {O : List Int32} (h : mS W O s) : ∃ u W' O', fX9_drops [.ref 43, .int (nI 0)] s = some (.inl none, u) ∧ fr [55] [(43, 24), (43, 25)] s u ∧ mS W' O' u ∧ O'.length + W'.length = O.length + W.length := by
  have split : ∀ W : List Nat, ∃ P W', W = P ++ W' ∧ (∀ x, x ∈ P → x < 14 ∧ 0 ≤ stre x) ∧ lowW 0 W' := by
    intro W
    induction W with
    | nil => exact ⟨[], [], rfl, (fun x hx => by cases hx), (fun x W' h => by cases h)⟩
    | cons x W ih =>
      by_cases e : 14 ≤ x
      · refine ⟨[], x :: W, rfl, (fun x hx => by cases hx), fun y W' h => ?_⟩
        cases h
        exact .inl e
      · obtain ⟨P, W', h1, h2, h3⟩ := ih
        refine ⟨x :: P, W', by rw [h1]; rfl, fun y hy => ?_, h3⟩
        rcases List.mem_cons.mp hy with c | c
        · rw [c]; omega
        · exact h2 y c
  obtain ⟨P, W', h1, h2, h3⟩ := split W
  rw [h1] at h
  obtain ⟨u, q1, q2, q3⟩ := sX9_drops (σ := 0) (by omega) h h2 h3
  refine ⟨u, W', O ++ P.map nI, q1, q2, q3, ?_⟩
  rw [h1]
  simp only [List.length_append, List.length_map]
  omega
def topI (W : List Nat) : Int32 := match W with
  | [] => nN
  | x :: _ => nI x
/-- the innermost that is open -/
theorem sX9_opened {s : aMem} {W : List Nat} {O : List Int32} : ∀ (P : List Nat), mS (P ++ W) O s → (∀ x, x ∈ P → x < 14) → (∀ x W', W = x :: W' → 14 ≤ x) → fX9_opened [.ref 43] s = some (.inl (some (.int (topI W))), s) := by
  intro P h hP hW
  obtain ⟨⟨h1, h2, h3, h4⟩, -⟩ := h
  have key : ∀ (Q : List Nat), Rp (s.1 56) ((Q ++ W).map nI) → (∀ x, x ∈ Q → x < 14) → (∀ x, x ∈ Q ++ W → x < 20) → (Q ++ W).length ≤ 750 → a_run none shp pX9_opened 7 [some (.ref 43), some (.int (nI (Q ++ W).length + nN))] [] s = some (.inl (some (.int (topI W))), s) := by
    intro Q
    induction Q with
    | nil =>
      intro hr _ hall hl
      simp only [List.nil_append] at hr hall hl ⊢
      cases W with
      | nil =>
        rw [tX9_opened_7]
        try simp only [k_lit, k_nN, k_ofN]
        simp only [List.length_nil]
        rw [if_pos (by decide), if_neg (by decide)]
        rfl
      | cons x W' =>
        have hv := hr.1
        simp only [List.length_map] at hv
        have hx := hW x W' rfl
        have hx2 := hall x (by simp)
        simp only [List.length_cons] at hl ⊢
        rw [nI_m1, tX9_opened_7]
        try simp only [k_lit, k_nN, k_ofN]
        simp (disch := omega) only [i_leT, i_leF, i_ltT, i_ltF, i_eqT, i_eqF, i_okT, i_n1, i_n2, i_n3, i_n4, i_n5, i_n6, i_n7, i_n8, k_cl, if_true, if_false]
        rw [hv, sX9_isOpen (by omega), b_bi]
        simp only [hx, decide_true, Bool.toNat_true]
        simp (disch := omega) only [i_leT, i_leF, i_ltT, i_ltF, i_eqT, i_eqF, i_okT, i_n1, i_n2, i_n3, i_n4, i_n5, i_n6, i_n7, i_n8, k_cl, if_true, if_false]
        rw [hv]
        rfl
    | cons x Q ih =>
      intro hr hQ hall hl
      simp only [List.cons_append] at hr hall hl ⊢
      have hv := hr.1
      simp only [List.length_map] at hv
      have hx := hQ x (by simp)
      have e14 : ¬ 14 ≤ x := by omega
      simp only [List.length_cons] at hl ⊢
      rw [nI_m1, tX9_opened_7]
      try simp only [k_lit, k_nN, k_ofN]
      simp (disch := omega) only [i_leT, i_leF, i_ltT, i_ltF, i_eqT, i_eqF, i_okT, i_n1, i_n2, i_n3, i_n4, i_n5, i_n6, i_n7, i_n8, k_cl, if_true, if_false]
      rw [hv, sX9_isOpen (by omega), b_bi]
      simp only [e14, decide_false, Bool.toNat_false]
      simp (disch := omega) only [i_leT, i_leF, i_ltT, i_ltF, i_eqT, i_eqF, i_okT, i_n1, i_n2, i_n3, i_n4, i_n5, i_n6, i_n7, i_n8, k_cl, if_true, if_false]
      exact ih hr.2 (fun y hy => hQ y (by simp [hy])) (fun y hy => hall y (by simp [hy])) (by omega)
  rw [tX9_opened, h1]
  try simp only [k_lit, k_nN, k_ofN]
  rw [show nI (P ++ W).length - nI 1 = nI (P ++ W).length + nN from Int32.sub_eq_add_neg _ _]
  exact key P h2 hP h4 h3
