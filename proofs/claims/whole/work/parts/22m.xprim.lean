/-! ===== the reading of an expression: small steps ===== -/
def XE (B : Nat → Nat) (n f : Nat) (c : List (Nat × Nat)) (s : aMem) : Prop := XT B n f s ∧ s.1 4 1 = nI c.length ∧ ∀ j q, c[j]? = some q → s.1 5 j = xst q
def XBd (k p : Nat) (s : aMem) : Prop := s.1 21 2 = nI k ∧ s.1 21 3 = nI p ∧ ∃ m, m ≤ 700 ∧ s.1 4 1 = nI m
def frX (s u : aMem) : Prop := fr [5] [(1, 2), (1, 3), (1, 4), (1, 5), (4, 1)] s u
def frXb (s u : aMem) : Prop := fr [5] [(1, 2), (1, 3), (1, 4), (1, 5), (4, 1), (21, 2), (21, 3)] s u
theorem frX_tr {s t u : aMem} (h : frX s t) (h2 : frX t u) : frX s u := fr_trans h h2
theorem frX_b {s t : aMem} (h : frX s t) : frXb s t := fr_mono h (by simp) (fun q hq => .inr (List.mem_append_left [(21, 2), (21, 3)] hq))
theorem frXb_tr {s t u : aMem} (h : frXb s t) (h2 : frXb t u) : frXb s u := fr_trans h h2
def XRz (B : Nat → Nat) (n : Nat) (c0 : List (Nat × Nat)) (A : Option aRes) (s : aMem) (r : PR) : Prop := match r with
  | .inl (g, c) => ∃ u, A = some (.inl (some (.int (nI 1))), u) ∧ frX s u ∧ XE B n g (c0 ++ c) u
  | .inr (k, p) => ∃ u, A = some (.inl (some (.int (nI 0))), u) ∧ frXb s u ∧ XBd k p u
theorem XRz_pre {B : Nat → Nat} {n : Nat} {c0 c : List (Nat × Nat)} {A A' : Option aRes} {s u : aMem} {r : PR} (h : XRz B n (c0 ++ c) A' u r) (hA : A = A') (hf : frX s u) : XRz B n c0 A s (pre c r) := by
  rcases r with ⟨g, c'⟩ | ⟨k, p⟩
  · obtain ⟨v, q1, q2, q3⟩ := h
    exact ⟨v, hA.trans q1, frX_tr hf q2, by rw [← List.append_assoc]; exact q3⟩
  · obtain ⟨v, q1, q2, q3⟩ := h
    exact ⟨v, hA.trans q1, frXb_tr (frX_b hf) q2, q3⟩
theorem sX1_addT {B : Nat → Nat} {n f : Nat} {c : List (Nat × Nat)} {s : aMem} {q : Nat × Nat} {v : Int32} (h : XE B n f c s) (hl : c.length < 700) (hv : v = xst q) : ∃ u, fX1_add [.ref 4, .int v] s = some (.inl none, u) ∧ frX s u ∧ XE B n f (c ++ [q]) u := by
  obtain ⟨hT, h1, h2⟩ := h
  rw [tX1_add, h1]
  try simp only [k_lit, k_nN, k_ofN, nI_add]
  simp (disch := omega) only [i_leT, i_leF, i_ltT, i_ltF, i_eqT, i_eqF, i_okT, i_n1, i_n2, i_n3, i_n4, i_n5, i_n6, i_n7, i_n8, k_cl, if_true, if_false]
  refine ⟨_, rfl, fr_si (fr_si (fr_rfl s) (by simp)) (by simp), ?_, by simp [m_si], fun j x hj => ?_⟩
  · obtain ⟨a1, a2, a3, a4, a5, a6, a7⟩ := hT
    exact ⟨a1, by simpa [m_si] using a2, by simpa [m_si] using a3, by simpa [m_si] using a4, by simpa [m_si] using a5, fun q => by simpa [m_si] using a6 q, fun j hj => by simpa [m_si] using a7 j hj⟩
  · by_cases e : j = c.length
    · subst e
      rw [List.getElem?_append_right (Nat.le_refl _), Nat.sub_self] at hj
      cases hj
      simp [m_si, hv]
    · have hlt : j < c.length := by
        by_cases c' : j < c.length
        · exact c'
        · rw [List.getElem?_append_right (by omega)] at hj
          obtain ⟨z, hz⟩ : ∃ z, j - c.length = z + 1 := ⟨j - c.length - 1, by omega⟩
          rw [hz] at hj
          simp at hj
      rw [List.getElem?_append_left hlt] at hj
      have := h2 j x hj
      simpa [m_si, e] using this
theorem sX1_addF {k p : Nat} {s : aMem} (v : Int32) (h : XBd k p s) : ∃ u, fX1_add [.ref 4, .int v] s = some (.inl none, u) ∧ frXb s u ∧ XBd k p u := by
  obtain ⟨h1, h2, m, hm, h3⟩ := h
  rw [tX1_add, h3]
  try simp only [k_lit, k_nN, k_ofN, nI_add]
  by_cases e : m < 700
  · simp (disch := omega) only [i_leT, i_leF, i_ltT, i_ltF, i_eqT, i_eqF, i_okT, i_n1, i_n2, i_n3, i_n4, i_n5, i_n6, i_n7, i_n8, k_cl, if_true, if_false]
    exact ⟨_, rfl, fr_si (fr_si (fr_rfl s) (by simp)) (by simp), by simpa [m_si] using h1, by simpa [m_si] using h2, m + 1, by omega, by simp [m_si]⟩
  · simp (disch := omega) only [i_leT, i_leF, i_ltT, i_ltF, i_eqT, i_eqF, i_okT, i_n1, i_n2, i_n3, i_n4, i_n5, i_n6, i_n7, i_n8, k_cl, if_true, if_false]
    exact ⟨s, rfl, fr_rfl s, h1, h2, m, hm, h3⟩
theorem XE_next {B : Nat → Nat} {n f : Nat} {c : List (Nat × Nat)} {s : aMem} (hn : n ≤ 700) (hB : ∀ j, j < n → B j < 256) (h : XE B n f c s) : ∃ u, fX5_next [.ref 1] s = some (.inl none, u) ∧ frX s u ∧ XE B n (nx B n f) c u := by
  obtain ⟨⟨a1, a2, a3, a4, a5, a6, a7⟩, h1, h2⟩ := h
  obtain ⟨u, e, f1, m⟩ := sX5_next hn hB (ed_le a1).2.1 a4 a5 a7
  refine ⟨u, e, fr_mono f1 (by simp) (by simp), m, by rw [f1.1 4 1 (by simp) (by decide)]; exact h1, fun j q hj => by rw [f1.1 5 j (by simp) (by simp)]; exact h2 j q hj⟩
theorem XE_ref {B : Nat → Nat} {n f k : Nat} {c : List (Nat × Nat)} {s : aMem} (h : XE B n f c s) (hl : c.length ≤ 700) : ∃ u, fX3_refuse [.ref 21, .int (nI k)] s = some (.inl (some (.int (nI 0))), u) ∧ frXb s u ∧ XBd k f u := by
  obtain ⟨⟨a1, a2, a3, a4, a5, a6, a7⟩, h1, h2⟩ := h
  rw [tX3_refuse]
  try simp only [k_lit, k_nN, k_ofN]
  exact ⟨_, rfl, fr_si (fr_si (fr_rfl s) (by simp)) (by simp), by simp [m_si], by simpa [m_si] using a3, c.length, hl, by simpa [m_si] using h1⟩
theorem r01_1 {α : Type} {A C : α} [Decidable (nI 1 = nI 0 ∨ nI 1 = nI 1)] : (if nI 1 = nI 0 ∨ nI 1 = nI 1 then A else C) = A := if_pos (.inr rfl)
theorem r01_0 {α : Type} {A C : α} [Decidable (nI 0 = nI 0 ∨ nI 0 = nI 1)] : (if nI 0 = nI 0 ∨ nI 0 = nI 1 then A else C) = A := if_pos (.inl rfl)
def oprI (o : Option Nat) : Int32 := match o with
  | none => nI 0
  | some i => xst (2, i)
theorem xst_ne {i : Nat} (hi : i < 10) : ¬ xst (2, i) = nI 0 := by
  have : ∀ i, i < 10 → ¬ xst (2, i) = nI 0 := by decide
  exact this i hi
theorem sX3_operatorOf {B : Nat → Nat} {n f l : Nat} {s : aMem} (hn : n ≤ 700) (hB : ∀ j, j < n → B j < 256) (hT : XT B n f s) (hl : l < 5) : fX3_operatorOf [.ref 21, .int (nI l)] s = some (.inl (some (.int (oprI (opr B n l f)))), s) := by
  have w8 : fX5_isWord [.ref 1, .ref 1008] s = some (.inl (some (.int (nI (isW B n f 10).toNat))), s) := xw8 hn hB hT
  have w9 : fX5_isWord [.ref 1, .ref 1009] s = some (.inl (some (.int (nI (isW B n f 9).toNat))), s) := xw9 hn hB hT
  have sg : ∀ c, c < 256 → fX5_isSign [.ref 1, .int (nI c)] s = some (.inl (some (.int (nI (sgn B n f c).toNat))), s) := fun c hc => sX5_isSign hn hB hT hc
  have : l = 0 ∨ l = 1 ∨ l = 2 ∨ l = 3 ∨ l = 4 := by omega
  rw [tX3_operatorOf]
  try simp only [k_lit, k_nN, k_ofN]
  rcases this with e | e | e | e | e <;> subst e <;> simp only [opr]
  · simp (disch := omega) only [i_leT, i_leF, i_ltT, i_ltF, i_eqT, i_eqF, i_okT, i_n1, i_n2, i_n3, i_n4, i_n5, i_n6, i_n7, i_n8, k_cl, if_true, if_false]
    rw [w8, b_bi, tX3_operatorOf_41]
    try simp only [k_lit, k_nN, k_ofN]
    cases isW B n f 10
    · rfl
    · rfl
  · simp (disch := omega) only [i_leT, i_leF, i_ltT, i_ltF, i_eqT, i_eqF, i_okT, i_n1, i_n2, i_n3, i_n4, i_n5, i_n6, i_n7, i_n8, k_cl, if_true, if_false]
    rw [w9, b_bi, tX3_operatorOf_60]
    try simp only [k_lit, k_nN, k_ofN]
    cases isW B n f 9
    · rfl
    · rfl
  · simp (disch := omega) only [i_leT, i_leF, i_ltT, i_ltF, i_eqT, i_eqF, i_okT, i_n1, i_n2, i_n3, i_n4, i_n5, i_n6, i_n7, i_n8, k_cl, if_true, if_false]
    rw [sg 60 (by omega), b_bi, tX3_operatorOf_79]
    try simp only [k_lit, k_nN, k_ofN]
    cases sgn B n f 60
    · rw [Bool.toNat_false]
      simp (disch := omega) only [i_leT, i_leF, i_ltT, i_ltF, i_eqT, i_eqF, i_okT, i_n1, i_n2, i_n3, i_n4, i_n5, i_n6, i_n7, i_n8, k_cl, if_true, if_false]
      rw [sg 61 (by omega), b_bi, tX3_operatorOf_96]
      try simp only [k_lit, k_nN, k_ofN]
      cases sgn B n f 61
      · rfl
      · rfl
    · rfl
  · simp (disch := omega) only [i_leT, i_leF, i_ltT, i_ltF, i_eqT, i_eqF, i_okT, i_n1, i_n2, i_n3, i_n4, i_n5, i_n6, i_n7, i_n8, k_cl, if_true, if_false]
    rw [sg 43 (by omega), b_bi, tX3_operatorOf_115]
    try simp only [k_lit, k_nN, k_ofN]
    cases sgn B n f 43
    · rw [Bool.toNat_false]
      simp (disch := omega) only [i_leT, i_leF, i_ltT, i_ltF, i_eqT, i_eqF, i_okT, i_n1, i_n2, i_n3, i_n4, i_n5, i_n6, i_n7, i_n8, k_cl, if_true, if_false]
      rw [sg 45 (by omega), b_bi, tX3_operatorOf_132]
      try simp only [k_lit, k_nN, k_ofN]
      cases sgn B n f 45
      · rfl
      · rfl
    · rfl
  · simp (disch := omega) only [i_leT, i_leF, i_ltT, i_ltF, i_eqT, i_eqF, i_okT, i_n1, i_n2, i_n3, i_n4, i_n5, i_n6, i_n7, i_n8, k_cl, if_true, if_false]
    rw [sg 42 (by omega), b_bi, tX3_operatorOf_151]
    try simp only [k_lit, k_nN, k_ofN]
    cases sgn B n f 42
    · rw [Bool.toNat_false]
      simp (disch := omega) only [i_leT, i_leF, i_ltT, i_ltF, i_eqT, i_eqF, i_okT, i_n1, i_n2, i_n3, i_n4, i_n5, i_n6, i_n7, i_n8, k_cl, if_true, if_false]
      rw [sg 47 (by omega), b_bi, tX3_operatorOf_168]
      try simp only [k_lit, k_nN, k_ofN]
      cases sgn B n f 47
      · rfl
      · rfl
    · rfl
theorem sX3_needSign {B : Nat → Nat} {n f c : Nat} {c0 : List (Nat × Nat)} {s : aMem} (hn : n ≤ 700) (hB : ∀ j, j < n → B j < 256) (h : XE B n f c0 s) (hl : c0.length ≤ 700) (hc : c < 256) : XRz B n c0 (fX3_needSign [.ref 21, .int (nI c)] s) s (if sgn B n f c = true then .inl (nx B n f, []) else .inr (1, f)) := by
  rw [tX3_needSign, sX5_isSign hn hB h.1 hc, b_bi, tX3_needSign_8]
  try simp only [k_lit, k_nN, k_ofN]
  cases e : sgn B n f c
  · rw [Bool.toNat_false, if_neg (show ¬ (false = true) from by decide)]
    simp (disch := omega) only [i_leT, i_leF, i_ltT, i_ltF, i_eqT, i_eqF, i_okT, i_n1, i_n2, i_n3, i_n4, i_n5, i_n6, i_n7, i_n8, k_cl, if_true, if_false]
    obtain ⟨u, e1, f1, m1⟩ := XE_ref (k := 1) h hl
    rw [e1, b_bi, r01_0]
    exact ⟨u, rfl, f1, m1⟩
  · rw [Bool.toNat_true, if_pos (show true = true from rfl)]
    simp (disch := omega) only [i_leT, i_leF, i_ltT, i_ltF, i_eqT, i_eqF, i_okT, i_n1, i_n2, i_n3, i_n4, i_n5, i_n6, i_n7, i_n8, k_cl, if_true, if_false]
    obtain ⟨u, e1, f1, m1⟩ := XE_next hn hB h
    rw [e1, b_bv, tX3_needSign_24]
    try simp only [k_lit, k_nN, k_ofN]
    exact ⟨u, rfl, f1, by rw [List.append_nil]; exact m1⟩
theorem sX3_needWord {B : Nat → Nat} {n f k i : Nat} {c0 : List (Nat × Nat)} {s : aMem} (hn : n ≤ 700) (hB : ∀ j, j < n → B j < 256) (h : XE B n f c0 s) (hl : c0.length ≤ 700) (hw : fX5_isWord [.ref 1, .ref i] s = some (.inl (some (.int (nI (isW B n f k).toNat))), s)) : XRz B n c0 (fX3_needWord [.ref 21, .ref i] s) s (if isW B n f k = true then .inl (nx B n f, []) else .inr (1, f)) := by
  rw [tX3_needWord, hw, b_bi, tX3_needWord_8]
  try simp only [k_lit, k_nN, k_ofN]
  cases e : isW B n f k
  · rw [Bool.toNat_false, if_neg (show ¬ (false = true) from by decide)]
    simp (disch := omega) only [i_leT, i_leF, i_ltT, i_ltF, i_eqT, i_eqF, i_okT, i_n1, i_n2, i_n3, i_n4, i_n5, i_n6, i_n7, i_n8, k_cl, if_true, if_false]
    obtain ⟨u, e1, f1, m1⟩ := XE_ref (k := 1) h hl
    rw [e1, b_bi, r01_0]
    exact ⟨u, rfl, f1, m1⟩
  · rw [Bool.toNat_true, if_pos (show true = true from rfl)]
    simp (disch := omega) only [i_leT, i_leF, i_ltT, i_ltF, i_eqT, i_eqF, i_okT, i_n1, i_n2, i_n3, i_n4, i_n5, i_n6, i_n7, i_n8, k_cl, if_true, if_false]
    obtain ⟨u, e1, f1, m1⟩ := XE_next hn hB h
    rw [e1, b_bv, tX3_needWord_24]
    try simp only [k_lit, k_nN, k_ofN]
    exact ⟨u, rfl, f1, by rw [List.append_nil]; exact m1⟩
