/-! ===== words and signs ===== -/
def wcs : List (List Nat) := [[108, 101, 97, 118, 101, 115], [98, 108, 97, 110, 107, 115], [112, 108, 97, 116, 101, 115], [116, 111, 114, 110], [114, 101, 97, 100, 101, 114], [98, 111, 111, 107], [119, 97, 110, 116, 115], [108, 97, 119], [111, 102], [97, 110, 100], [111, 114], [110, 111, 116], [105, 102], [116, 104, 101, 110], [101, 108, 115, 101], [101, 110, 100]]
def wc (k : Nat) : List Nat := wcs.getD k []
def isW (B : Nat → Nat) (n f k : Nat) : Bool := decide (kd B n f = 1) && (decide (ed B n f - f = (wc k).length) && !(ex (wc k).length fun i => decide (B (f + i) ≠ (wc k).getD i 0)))
theorem isW_iff {B : Nat → Nat} {n f k : Nat} : isW B n f k = true ↔ kd B n f = 1 ∧ ed B n f - f = (wc k).length ∧ ∀ i, i < (wc k).length → B (f + i) = (wc k).getD i 0 := by
  unfold isW
  simp only [Bool.and_eq_true, decide_eq_true_eq, Bool.not_eq_true']
  constructor
  · rintro ⟨h1, h2, h3⟩
    refine ⟨h1, h2, fun i hi => ?_⟩
    rw [Bool.eq_false_iff, Ne, ex_iff] at h3
    by_cases e : B (f + i) = (wc k).getD i 0
    · exact e
    · exact absurd ⟨i, hi, by simp only [decide_eq_true_eq]; exact e⟩ h3
  · rintro ⟨h1, h2, h3⟩
    refine ⟨h1, h2, ?_⟩
    rw [Bool.eq_false_iff, Ne, ex_iff]
    rintro ⟨i, hi, h⟩
    rw [decide_eq_true_eq] at h
    exact h (h3 i hi)
theorem wc_inj : ∀ j, j < 16 → ∀ k, k < 16 → wc j = wc k → j = k := by decide
theorem wc_len : ∀ k, k < 16 → 2 ≤ (wc k).length ∧ (wc k).length ≤ 6 := by decide
theorem wc_let : ∀ k, k < 16 → ∀ i, i < (wc k).length → 97 ≤ (wc k).getD i 0 ∧ (wc k).getD i 0 ≤ 122 := by decide
theorem isW_u {B : Nat → Nat} {n f j k : Nat} (hj : j < 16) (hk : k < 16) (h1 : isW B n f j = true) (h2 : isW B n f k = true) : j = k := by
  obtain ⟨-, a2, a3⟩ := isW_iff.mp h1
  obtain ⟨-, b2, b3⟩ := isW_iff.mp h2
  apply wc_inj j hj k hk
  apply List.ext_getElem (by omega)
  intro i hi1 hi2
  have e1 := a3 i hi1
  have e2 := b3 i hi2
  have e3 : (wc j).getD i 0 = (wc j)[i] := by simp [hi1]
  have e4 : (wc k).getD i 0 = (wc k)[i] := by simp [hi2]
  rw [← e3, ← e4, ← e1, ← e2]
theorem sX5_isWord {B : Nat → Nat} {n f i k : Nat} {s : aMem} (hn : n ≤ 700) (hB : ∀ j, j < n → B j < 256) (hT : XT B n f s) (hk : k < 16) (hl : a_slen [.ref (i + 1000)] s = some (.inl (some (.int (nI (wc k).length))), s)) (hc : ∀ j, j < (wc k).length → a_schr [.ref (i + 1000), .int (nI j)] s = some (.inl (some (.int (nI ((wc k).getD j 0)))), s)) : fX5_isWord [.ref 1, .ref (i + 1000)] s = some (.inl (some (.int (nI (isW B n f k).toNat))), s) := by
  obtain ⟨hf, t2, t3, t5, t6, -, tb⟩ := hT
  have hlen := wc_len k hk
  have hed := ed_le (B := B) hf
  have hkd : kd B n f ≤ 3 := by
    unfold kd
    split
    · omega
    · split
      · omega
      · split <;> omega
  rw [tX5_isWord, t2, t5, t3]
  try simp only [k_lit, k_nN, k_ofN]
  by_cases e1 : kd B n f = 1
  · rw [e1]
    simp (disch := omega) only [i_leT, i_leF, i_ltT, i_ltF, i_eqT, i_eqF, i_okT, i_n1, i_n2, i_n3, i_n4, i_n5, i_n6, i_n7, i_n8, k_cl, if_true, if_false]
    rw [hl, b_bi, tX5_isWord_21, pk_sub hed.1]
    try simp only [k_lit, k_nN, k_ofN]
    by_cases e2 : ed B n f - f = (wc k).length
    · rw [e2]
      simp (disch := omega) only [i_leT, i_leF, i_ltT, i_ltF, i_eqT, i_eqF, i_okT, i_n1, i_n2, i_n3, i_n4, i_n5, i_n6, i_n7, i_n8, k_cl, if_true, if_false]
      have key : ∀ m j, j + m = (wc k).length → (∀ q, q < j → B (f + q) = (wc k).getD q 0) → a_run none shp pX5_isWord 28 [some (.ref 1), some (.ref (i + 1000)), some (.int (nI j))] [] s = some (.inl (some (.int (nI (isW B n f k).toNat))), s) := by
        intro m
        induction m with
        | zero =>
          intro j hj hq
          have : isW B n f k = true := isW_iff.mpr ⟨e1, e2, fun q hq2 => hq q (by omega)⟩
          rw [tX5_isWord_28, hl, b_bi, tX5_isWord_33, this]
          try simp only [k_lit, k_nN, k_ofN]
          simp (disch := omega) only [i_leT, i_leF, i_ltT, i_ltF, i_eqT, i_eqF, i_okT, i_n1, i_n2, i_n3, i_n4, i_n5, i_n6, i_n7, i_n8, k_cl, if_true, if_false]
          rfl
        | succ m ih =>
          intro j hj hq
          have hlet := wc_let k hk j (by omega)
          rw [tX5_isWord_28, hl, b_bi, tX5_isWord_33, t3]
          try simp only [k_lit, k_nN, k_ofN, nI_add]
          simp (disch := omega) only [i_leT, i_leF, i_ltT, i_ltF, i_eqT, i_eqF, i_okT, i_n1, i_n2, i_n3, i_n4, i_n5, i_n6, i_n7, i_n8, k_cl, if_true, if_false]
          rw [sX5_atT hn t6 tb (by omega), b_bi, tX5_isWord_46, hc j (by omega), b_bi, tX5_isWord_51]
          try simp only [k_lit, k_nN, k_ofN, nI_add]
          have hBj := hB (f + j) (by omega)
          by_cases e3 : B (f + j) = (wc k).getD j 0
          · rw [e3]
            simp (disch := omega) only [i_leT, i_leF, i_ltT, i_ltF, i_eqT, i_eqF, i_okT, i_n1, i_n2, i_n3, i_n4, i_n5, i_n6, i_n7, i_n8, k_cl, if_true, if_false]
            refine ih (j + 1) (by omega) (fun q hq2 => ?_)
            by_cases c : q = j
            · rw [c]; exact e3
            · exact hq q (by omega)
          · rw [i_eqF e3 (by omega) (by omega)]
            have : isW B n f k = false := by
              apply Bool.eq_false_iff.mpr
              intro c
              exact e3 ((isW_iff.mp c).2.2 j (by omega))
            rw [this]
            rfl
      exact key (wc k).length 0 (by omega) (fun q h => absurd h (Nat.not_lt_zero q))
    · have : isW B n f k = false := by
        apply Bool.eq_false_iff.mpr
        intro c
        exact e2 (isW_iff.mp c).2.1
      rw [this]
      simp (disch := omega) only [i_leT, i_leF, i_ltT, i_ltF, i_eqT, i_eqF, i_okT, i_n1, i_n2, i_n3, i_n4, i_n5, i_n6, i_n7, i_n8, k_cl, if_true, if_false]
      rfl
  · have : isW B n f k = false := by
      apply Bool.eq_false_iff.mpr
      intro c
      exact e1 (isW_iff.mp c).1
    rw [this]
    simp (disch := omega) only [i_leT, i_leF, i_ltT, i_ltF, i_eqT, i_eqF, i_okT, i_n1, i_n2, i_n3, i_n4, i_n5, i_n6, i_n7, i_n8, k_cl, if_true, if_false]
    rfl
theorem zl (i k : Nat) (h : (z_len (i + 1000) == (wc k).length && (Nat.ble 1000 (i + 1000) && Nat.blt (i + 1000) (1000 + zs.length))) = true) (s : aMem) : a_slen [.ref (i + 1000)] s = some (.inl (some (.int (nI (wc k).length))), s) := by
  rw [Bool.and_eq_true] at h
  unfold a_slen
  simp only [h.2]
  rw [show z_len (i + 1000) = (wc k).length from by simpa using h.1]
  rfl
theorem zc (i k : Nat) (h : (z_len (i + 1000) == (wc k).length && (Nat.ble 1000 (i + 1000) && Nat.blt (i + 1000) (1000 + zs.length))) = true) (h2 : ∀ j, j < (wc k).length → z_chr (i + 1000) j = nI ((wc k).getD j 0)) (hk : k < 16) (s : aMem) : ∀ j, j < (wc k).length → a_schr [.ref (i + 1000), .int (nI j)] s = some (.inl (some (.int (nI ((wc k).getD j 0)))), s) := by
  intro j hj
  rw [Bool.and_eq_true, Bool.and_eq_true] at h
  have hl := wc_len k hk
  have hz : z_len (i + 1000) = (wc k).length := by simpa using h.1
  unfold a_schr
  simp only [h.2.1, h.2.2, hz, Bool.true_and, k_okT hj (by omega)]
  rw [k_cl (by omega), h2 j hj]
theorem xw0 {B : Nat → Nat} {n f : Nat} {s : aMem} (hn : n ≤ 700) (hB : ∀ j, j < n → B j < 256) (hT : XT B n f s) : fX5_isWord [.ref 1, .ref (0 + 1000)] s = some (.inl (some (.int (nI (isW B n f 4).toNat))), s) := sX5_isWord hn hB hT (by decide) (zl 0 4 (by decide +kernel) s) (zc 0 4 (by decide +kernel) (by decide +kernel) (by decide) s)
theorem xw1 {B : Nat → Nat} {n f : Nat} {s : aMem} (hn : n ≤ 700) (hB : ∀ j, j < n → B j < 256) (hT : XT B n f s) : fX5_isWord [.ref 1, .ref (1 + 1000)] s = some (.inl (some (.int (nI (isW B n f 5).toNat))), s) := sX5_isWord hn hB hT (by decide) (zl 1 5 (by decide +kernel) s) (zc 1 5 (by decide +kernel) (by decide +kernel) (by decide) s)
theorem xw2 {B : Nat → Nat} {n f : Nat} {s : aMem} (hn : n ≤ 700) (hB : ∀ j, j < n → B j < 256) (hT : XT B n f s) : fX5_isWord [.ref 1, .ref (2 + 1000)] s = some (.inl (some (.int (nI (isW B n f 6).toNat))), s) := sX5_isWord hn hB hT (by decide) (zl 2 6 (by decide +kernel) s) (zc 2 6 (by decide +kernel) (by decide +kernel) (by decide) s)
theorem xw3 {B : Nat → Nat} {n f : Nat} {s : aMem} (hn : n ≤ 700) (hB : ∀ j, j < n → B j < 256) (hT : XT B n f s) : fX5_isWord [.ref 1, .ref (3 + 1000)] s = some (.inl (some (.int (nI (isW B n f 7).toNat))), s) := sX5_isWord hn hB hT (by decide) (zl 3 7 (by decide +kernel) s) (zc 3 7 (by decide +kernel) (by decide +kernel) (by decide) s)
theorem xw4 {B : Nat → Nat} {n f : Nat} {s : aMem} (hn : n ≤ 700) (hB : ∀ j, j < n → B j < 256) (hT : XT B n f s) : fX5_isWord [.ref 1, .ref (4 + 1000)] s = some (.inl (some (.int (nI (isW B n f 1).toNat))), s) := sX5_isWord hn hB hT (by decide) (zl 4 1 (by decide +kernel) s) (zc 4 1 (by decide +kernel) (by decide +kernel) (by decide) s)
theorem xw5 {B : Nat → Nat} {n f : Nat} {s : aMem} (hn : n ≤ 700) (hB : ∀ j, j < n → B j < 256) (hT : XT B n f s) : fX5_isWord [.ref 1, .ref (5 + 1000)] s = some (.inl (some (.int (nI (isW B n f 2).toNat))), s) := sX5_isWord hn hB hT (by decide) (zl 5 2 (by decide +kernel) s) (zc 5 2 (by decide +kernel) (by decide +kernel) (by decide) s)
theorem xw6 {B : Nat → Nat} {n f : Nat} {s : aMem} (hn : n ≤ 700) (hB : ∀ j, j < n → B j < 256) (hT : XT B n f s) : fX5_isWord [.ref 1, .ref (6 + 1000)] s = some (.inl (some (.int (nI (isW B n f 3).toNat))), s) := sX5_isWord hn hB hT (by decide) (zl 6 3 (by decide +kernel) s) (zc 6 3 (by decide +kernel) (by decide +kernel) (by decide) s)
theorem xw7 {B : Nat → Nat} {n f : Nat} {s : aMem} (hn : n ≤ 700) (hB : ∀ j, j < n → B j < 256) (hT : XT B n f s) : fX5_isWord [.ref 1, .ref (7 + 1000)] s = some (.inl (some (.int (nI (isW B n f 8).toNat))), s) := sX5_isWord hn hB hT (by decide) (zl 7 8 (by decide +kernel) s) (zc 7 8 (by decide +kernel) (by decide +kernel) (by decide) s)
theorem xw8 {B : Nat → Nat} {n f : Nat} {s : aMem} (hn : n ≤ 700) (hB : ∀ j, j < n → B j < 256) (hT : XT B n f s) : fX5_isWord [.ref 1, .ref (8 + 1000)] s = some (.inl (some (.int (nI (isW B n f 10).toNat))), s) := sX5_isWord hn hB hT (by decide) (zl 8 10 (by decide +kernel) s) (zc 8 10 (by decide +kernel) (by decide +kernel) (by decide) s)
theorem xw9 {B : Nat → Nat} {n f : Nat} {s : aMem} (hn : n ≤ 700) (hB : ∀ j, j < n → B j < 256) (hT : XT B n f s) : fX5_isWord [.ref 1, .ref (9 + 1000)] s = some (.inl (some (.int (nI (isW B n f 9).toNat))), s) := sX5_isWord hn hB hT (by decide) (zl 9 9 (by decide +kernel) s) (zc 9 9 (by decide +kernel) (by decide +kernel) (by decide) s)
theorem xw10 {B : Nat → Nat} {n f : Nat} {s : aMem} (hn : n ≤ 700) (hB : ∀ j, j < n → B j < 256) (hT : XT B n f s) : fX5_isWord [.ref 1, .ref (10 + 1000)] s = some (.inl (some (.int (nI (isW B n f 11).toNat))), s) := sX5_isWord hn hB hT (by decide) (zl 10 11 (by decide +kernel) s) (zc 10 11 (by decide +kernel) (by decide +kernel) (by decide) s)
theorem xw11 {B : Nat → Nat} {n f : Nat} {s : aMem} (hn : n ≤ 700) (hB : ∀ j, j < n → B j < 256) (hT : XT B n f s) : fX5_isWord [.ref 1, .ref (11 + 1000)] s = some (.inl (some (.int (nI (isW B n f 12).toNat))), s) := sX5_isWord hn hB hT (by decide) (zl 11 12 (by decide +kernel) s) (zc 11 12 (by decide +kernel) (by decide +kernel) (by decide) s)
theorem xw12 {B : Nat → Nat} {n f : Nat} {s : aMem} (hn : n ≤ 700) (hB : ∀ j, j < n → B j < 256) (hT : XT B n f s) : fX5_isWord [.ref 1, .ref (12 + 1000)] s = some (.inl (some (.int (nI (isW B n f 13).toNat))), s) := sX5_isWord hn hB hT (by decide) (zl 12 13 (by decide +kernel) s) (zc 12 13 (by decide +kernel) (by decide +kernel) (by decide) s)
theorem xw13 {B : Nat → Nat} {n f : Nat} {s : aMem} (hn : n ≤ 700) (hB : ∀ j, j < n → B j < 256) (hT : XT B n f s) : fX5_isWord [.ref 1, .ref (13 + 1000)] s = some (.inl (some (.int (nI (isW B n f 14).toNat))), s) := sX5_isWord hn hB hT (by decide) (zl 13 14 (by decide +kernel) s) (zc 13 14 (by decide +kernel) (by decide +kernel) (by decide) s)
theorem xw14 {B : Nat → Nat} {n f : Nat} {s : aMem} (hn : n ≤ 700) (hB : ∀ j, j < n → B j < 256) (hT : XT B n f s) : fX5_isWord [.ref 1, .ref (14 + 1000)] s = some (.inl (some (.int (nI (isW B n f 15).toNat))), s) := sX5_isWord hn hB hT (by decide) (zl 14 15 (by decide +kernel) s) (zc 14 15 (by decide +kernel) (by decide +kernel) (by decide) s)
theorem xw15 {B : Nat → Nat} {n f : Nat} {s : aMem} (hn : n ≤ 700) (hB : ∀ j, j < n → B j < 256) (hT : XT B n f s) : fX5_isWord [.ref 1, .ref (15 + 1000)] s = some (.inl (some (.int (nI (isW B n f 0).toNat))), s) := sX5_isWord hn hB hT (by decide) (zl 15 0 (by decide +kernel) s) (zc 15 0 (by decide +kernel) (by decide +kernel) (by decide) s)
def sgn (B : Nat → Nat) (n f c : Nat) : Bool := decide (kd B n f = 3) && decide (B f = c)
theorem kd_le (B : Nat → Nat) (n f : Nat) : kd B n f ≤ 3 := by
  unfold kd
  split
  · omega
  · split
    · omega
    · split <;> omega
theorem sX5_isSign {B : Nat → Nat} {n f c : Nat} {s : aMem} (hn : n ≤ 700) (hB : ∀ j, j < n → B j < 256) (hT : XT B n f s) (hc : c < 256) : fX5_isSign [.ref 1, .int (nI c)] s = some (.inl (some (.int (nI (sgn B n f c).toNat))), s) := by
  obtain ⟨hf, t2, t3, t5, t6, -, tb⟩ := hT
  have hk := kd_le B n f
  rw [tX5_isSign, t2, t3]
  try simp only [k_lit, k_nN, k_ofN]
  unfold sgn
  by_cases e1 : kd B n f = 3
  · have hlt := kd_lt (B := B) (n := n) (f := f) (by omega)
    have := hB f hlt
    rw [e1]
    simp (disch := omega) only [i_leT, i_leF, i_ltT, i_ltF, i_eqT, i_eqF, i_okT, i_n1, i_n2, i_n3, i_n4, i_n5, i_n6, i_n7, i_n8, k_cl, if_true, if_false]
    rw [sX5_atT hn t6 tb hlt, b_bi]
    by_cases e2 : B f = c
    · rw [e2]
      simp (disch := omega) only [i_leT, i_leF, i_ltT, i_ltF, i_eqT, i_eqF, i_okT, i_n1, i_n2, i_n3, i_n4, i_n5, i_n6, i_n7, i_n8, k_cl, if_true, if_false]
      simp
    · simp (disch := omega) only [i_leT, i_leF, i_ltT, i_ltF, i_eqT, i_eqF, i_okT, i_n1, i_n2, i_n3, i_n4, i_n5, i_n6, i_n7, i_n8, k_cl, if_true, if_false]
      simp [e2]
  · simp (disch := omega) only [i_leT, i_leF, i_ltT, i_ltF, i_eqT, i_eqF, i_okT, i_n1, i_n2, i_n3, i_n4, i_n5, i_n6, i_n7, i_n8, k_cl, if_true, if_false]
    simp [e1]
theorem srt_3 (B : Nat → Nat) (n f : Nat) : (srt B n f = 3) = (kd B n f = 3 ∧ isSg (B f) = true) := by
  apply propext
  unfold srt
  constructor
  · intro h
    by_cases e : kd B n f = 3
    · rw [if_pos e] at h
      by_cases e2 : isSg (B f) = true
      · exact ⟨e, e2⟩
      · rw [if_neg e2] at h; omega
    · rw [if_neg e] at h; exact absurd h e
  · rintro ⟨h1, h2⟩
    rw [if_pos h1, if_pos h2]
theorem srt_o (B : Nat → Nat) (n f k : Nat) (hk : k < 3) : (srt B n f = k) = (kd B n f = k) := by
  apply propext
  unfold srt
  constructor
  · intro h
    by_cases e : kd B n f = 3
    · rw [if_pos e] at h
      split at h <;> omega
    · rw [if_neg e] at h; exact h
  · intro h
    rw [if_neg (by omega)]
    exact h
theorem srt_le (B : Nat → Nat) (n f : Nat) : srt B n f ≤ 4 := by
  have := kd_le B n f
  unfold srt
  split
  · split <;> omega
  · omega
theorem sX9_isSign {B : Nat → Nat} {n f c : Nat} {s : aMem} (hB : ∀ j, j < n → B j < 256) (hT : MT B n f s) (hc : isSg c = true) (hc2 : c < 256) : fX9_isSign [.ref 43, .int (nI c)] s = some (.inl (some (.int (nI (sgn B n f c).toNat))), s) := by
  obtain ⟨hf, -, -, t16, -, -, -, t20, -, -⟩ := hT
  have hsl := srt_le B n f
  rw [tX9_isSign, t16, t20]
  try simp only [k_lit, k_nN, k_ofN]
  unfold sgn
  by_cases e1 : srt B n f = 3
  · rw [e1]
    rw [srt_3] at e1
    have hlt := kd_lt (B := B) (n := n) (f := f) (by omega)
    have := hB f hlt
    simp (disch := omega) only [i_leT, i_leF, i_ltT, i_ltF, i_eqT, i_eqF, i_okT, i_n1, i_n2, i_n3, i_n4, i_n5, i_n6, i_n7, i_n8, k_cl, if_true, if_false]
    rw [if_pos hlt]
    by_cases e2 : B f = c
    · rw [e2]
      simp (disch := omega) only [i_leT, i_leF, i_ltT, i_ltF, i_eqT, i_eqF, i_okT, i_n1, i_n2, i_n3, i_n4, i_n5, i_n6, i_n7, i_n8, k_cl, if_true, if_false]
      simp [e1.1]
    · simp (disch := omega) only [i_leT, i_leF, i_ltT, i_ltF, i_eqT, i_eqF, i_okT, i_n1, i_n2, i_n3, i_n4, i_n5, i_n6, i_n7, i_n8, k_cl, if_true, if_false]
      simp [e2]
  · simp (disch := omega) only [i_leT, i_leF, i_ltT, i_ltF, i_eqT, i_eqF, i_okT, i_n1, i_n2, i_n3, i_n4, i_n5, i_n6, i_n7, i_n8, k_cl, if_true, if_false]
    rw [srt_3] at e1
    by_cases e2 : kd B n f = 3
    · have : ¬ B f = c := fun q => e1 ⟨e2, by rw [q]; exact hc⟩
      simp [this]
    · simp [e2]
/-! the model's words -/
theorem pkf_pos {g : Nat → Nat} : ∀ k, (∀ j, j < k → 1 ≤ g j) → 0 < k → 0 < pkf g k
  | 0, _, h => absurd h (Nat.lt_irrefl 0)
  | k + 1, h, _ => by
    have := h k (by omega)
    unfold pkf
    omega
theorem pkf_inj {g h : Nat → Nat} : ∀ a b, (∀ j, j < a → 1 ≤ g j ∧ g j < 32) → (∀ j, j < b → 1 ≤ h j ∧ h j < 32) → pkf g a = pkf h b → a = b ∧ ∀ i, i < a → g i = h i
  | 0, 0, _, _, _ => ⟨rfl, fun i hi => absurd hi (Nat.not_lt_zero i)⟩
  | 0, b + 1, _, h2, he => by
    have := pkf_pos (b + 1) (fun j hj => (h2 j hj).1) (by omega)
    rw [← he] at this
    exact absurd this (Nat.lt_irrefl 0)
  | a + 1, 0, h1, _, he => by
    have := pkf_pos (a + 1) (fun j hj => (h1 j hj).1) (by omega)
    rw [he] at this
    exact absurd this (Nat.lt_irrefl 0)
  | a + 1, b + 1, h1, h2, he => by
    have g1 := h1 a (by omega)
    have g2 := h2 b (by omega)
    unfold pkf at he
    have e1 : pkf g a = pkf h b := by omega
    have e2 : g a = h b := by omega
    obtain ⟨e3, e4⟩ := pkf_inj a b (fun j hj => h1 j (by omega)) (fun j hj => h2 j (by omega)) e1
    subst e3
    refine ⟨rfl, fun i hi => ?_⟩
    by_cases c : i = a
    · rw [c]; exact e2
    · exact e4 i (by omega)
theorem sp_0 {a b : Nat} (ha : 97 ≤ a ∧ a ≤ 122) (hb : 97 ≤ b ∧ b ≤ 122) : (((nI a).toInt64 - (96 : Int64)) <<< ((nI 5).toInt64 &&& 63)) ||| (nI b - nI 96).toInt64 = lN (32 * (a - 96) + (b - 96)) := by
  rw [nI_l (by omega), show (96 : Int64) = lN 96 from rfl, lN_sub (by omega), pk_sub (by omega), k_pack (by have : (32 : Nat) ^ 11 = 36028797018963968 := by decide
                                                                                                            omega) (by omega)]
theorem sp_1 {z b : Nat} (hz : z < 32 ^ 6) (hb : 97 ≤ b ∧ b ≤ 122) : (lN z <<< ((nI 5).toInt64 &&& 63)) ||| (nI b - nI 96).toInt64 = lN (32 * z + (b - 96)) := by
  have h1 : (32 : Nat) ^ 11 = 36028797018963968 := by decide
  have h2 : (32 : Nat) ^ 6 = 1073741824 := by decide
  rw [pk_sub (by omega), k_pack (by omega) (by omega)]
theorem sps {s : aMem} {a b c d e f : Nat} (ha : 97 ≤ a ∧ a ≤ 122) (hb : 97 ≤ b ∧ b ≤ 122) (hc : c = 0 ∧ d = 0 ∨ (97 ≤ c ∧ c ≤ 122)) (hd : d = 0 ∧ e = 0 ∨ (97 ≤ d ∧ d ≤ 122)) (he : e = 0 ∧ f = 0 ∨ (97 ≤ e ∧ e ≤ 122)) (hf : f = 0 ∨ (97 ≤ f ∧ f ≤ 122)) : fX9_spelled [.int (nI a), .int (nI b), .int (nI c), .int (nI d), .int (nI e), .int (nI f)] s = some (.inl (some (.long (lN (if c = 0 then 32 * (a - 96) + (b - 96) else if d = 0 then 32 * (32 * (a - 96) + (b - 96)) + (c - 96) else if e = 0 then 32 * (32 * (32 * (a - 96) + (b - 96)) + (c - 96)) + (d - 96) else if f = 0 then 32 * (32 * (32 * (32 * (a - 96) + (b - 96)) + (c - 96)) + (d - 96)) + (e - 96) else 32 * (32 * (32 * (32 * (32 * (a - 96) + (b - 96)) + (c - 96)) + (d - 96)) + (e - 96)) + (f - 96))))), s) := by
  have h6 : (32 : Nat) ^ 6 = 1073741824 := by decide
  rw [tX9_spelled]
  try simp only [k_lit, k_nN, k_ofN]
  rw [sp_0 ha hb, tX9_spelled_16]
  try simp only [k_lit, k_nN, k_ofN]
  by_cases c0 : c = 0
  · have d0 : d = 0 := by omega
    have e0 : e = 0 := by omega
    have f0 : f = 0 := by omega
    subst c0; subst d0; subst e0; subst f0
    simp (disch := omega) only [i_leT, i_leF, i_ltT, i_ltF, i_eqT, i_eqF, i_okT, i_n1, i_n2, i_n3, i_n4, i_n5, i_n6, i_n7, i_n8, k_cl, if_true, if_false]
    rw [tX9_spelled_48]
    try simp only [k_lit, k_nN, k_ofN]
    simp (disch := omega) only [i_leT, i_leF, i_ltT, i_ltF, i_eqT, i_eqF, i_okT, i_n1, i_n2, i_n3, i_n4, i_n5, i_n6, i_n7, i_n8, k_cl, if_true, if_false]
    rw [tX9_spelled_66]
    try simp only [k_lit, k_nN, k_ofN]
    simp (disch := omega) only [i_leT, i_leF, i_ltT, i_ltF, i_eqT, i_eqF, i_okT, i_n1, i_n2, i_n3, i_n4, i_n5, i_n6, i_n7, i_n8, k_cl, if_true, if_false]
    rw [tX9_spelled_84]
  · rw [i_eqF c0 (by omega) (by omega), sp_1 (by omega) (by omega), tX9_spelled_30]
    try simp only [k_lit, k_nN, k_ofN]
    rw [if_neg c0]
    by_cases d0 : d = 0
    · have e0 : e = 0 := by omega
      have f0 : f = 0 := by omega
      subst d0; subst e0; subst f0
      simp (disch := omega) only [i_leT, i_leF, i_ltT, i_ltF, i_eqT, i_eqF, i_okT, i_n1, i_n2, i_n3, i_n4, i_n5, i_n6, i_n7, i_n8, k_cl, if_true, if_false]
      rw [tX9_spelled_48]
      try simp only [k_lit, k_nN, k_ofN]
      simp (disch := omega) only [i_leT, i_leF, i_ltT, i_ltF, i_eqT, i_eqF, i_okT, i_n1, i_n2, i_n3, i_n4, i_n5, i_n6, i_n7, i_n8, k_cl, if_true, if_false]
      rw [tX9_spelled_66]
      try simp only [k_lit, k_nN, k_ofN]
      simp (disch := omega) only [i_leT, i_leF, i_ltT, i_ltF, i_eqT, i_eqF, i_okT, i_n1, i_n2, i_n3, i_n4, i_n5, i_n6, i_n7, i_n8, k_cl, if_true, if_false]
      rw [tX9_spelled_84]
    · rw [i_eqF d0 (by omega) (by omega), sp_1 (by omega) (by omega), tX9_spelled_48]
      try simp only [k_lit, k_nN, k_ofN]
      rw [if_neg d0]
      by_cases e0 : e = 0
      · have f0 : f = 0 := by omega
        subst e0; subst f0
        simp (disch := omega) only [i_leT, i_leF, i_ltT, i_ltF, i_eqT, i_eqF, i_okT, i_n1, i_n2, i_n3, i_n4, i_n5, i_n6, i_n7, i_n8, k_cl, if_true, if_false]
        rw [tX9_spelled_66]
        try simp only [k_lit, k_nN, k_ofN]
        simp (disch := omega) only [i_leT, i_leF, i_ltT, i_ltF, i_eqT, i_eqF, i_okT, i_n1, i_n2, i_n3, i_n4, i_n5, i_n6, i_n7, i_n8, k_cl, if_true, if_false]
        rw [tX9_spelled_84]
      · rw [i_eqF e0 (by omega) (by omega), sp_1 (by omega) (by omega), tX9_spelled_66]
        try simp only [k_lit, k_nN, k_ofN]
        rw [if_neg e0]
        by_cases f0 : f = 0
        · subst f0
          simp (disch := omega) only [i_leT, i_leF, i_ltT, i_ltF, i_eqT, i_eqF, i_okT, i_n1, i_n2, i_n3, i_n4, i_n5, i_n6, i_n7, i_n8, k_cl, if_true, if_false]
          rw [tX9_spelled_84]
        · rw [i_eqF f0 (by omega) (by omega), sp_1 (by omega) (by omega), tX9_spelled_84, if_neg f0]
def wpk (k : Nat) : Nat := pkf (fun j => (wc k).getD j 0 - 96) (wc k).length
theorem ltr0 (s : aMem) : fX9_letters [.int (nI 0)] s = some (.inl (some (.long (lN (wpk 0)))), s) := by
  rw [tX9_letters]
  simp only [k_lit]
  iterate 0 rw [i_eqF (by decide) (by decide) (by decide)]
  rw [if_pos trivial, sps (by decide) (by decide) (by decide) (by decide) (by decide) (by decide), b_bL, tX9_letters_91]
  rfl
theorem ltr1 (s : aMem) : fX9_letters [.int (nI 1)] s = some (.inl (some (.long (lN (wpk 1)))), s) := by
  rw [tX9_letters]
  simp only [k_lit]
  iterate 1 rw [i_eqF (by decide) (by decide) (by decide)]
  rw [if_pos trivial, sps (by decide) (by decide) (by decide) (by decide) (by decide) (by decide), b_bL, tX9_letters_107]
  rfl
theorem ltr2 (s : aMem) : fX9_letters [.int (nI 2)] s = some (.inl (some (.long (lN (wpk 2)))), s) := by
  rw [tX9_letters]
  simp only [k_lit]
  iterate 2 rw [i_eqF (by decide) (by decide) (by decide)]
  rw [if_pos trivial, sps (by decide) (by decide) (by decide) (by decide) (by decide) (by decide), b_bL, tX9_letters_123]
  rfl
theorem ltr3 (s : aMem) : fX9_letters [.int (nI 3)] s = some (.inl (some (.long (lN (wpk 3)))), s) := by
  rw [tX9_letters]
  simp only [k_lit]
  iterate 3 rw [i_eqF (by decide) (by decide) (by decide)]
  rw [if_pos trivial, sps (by decide) (by decide) (by decide) (by decide) (by decide) (by decide), b_bL, tX9_letters_137]
  rfl
theorem ltr4 (s : aMem) : fX9_letters [.int (nI 4)] s = some (.inl (some (.long (lN (wpk 4)))), s) := by
  rw [tX9_letters]
  simp only [k_lit]
  iterate 4 rw [i_eqF (by decide) (by decide) (by decide)]
  rw [if_pos trivial, sps (by decide) (by decide) (by decide) (by decide) (by decide) (by decide), b_bL, tX9_letters_153]
  rfl
theorem ltr5 (s : aMem) : fX9_letters [.int (nI 5)] s = some (.inl (some (.long (lN (wpk 5)))), s) := by
  rw [tX9_letters]
  simp only [k_lit]
  iterate 5 rw [i_eqF (by decide) (by decide) (by decide)]
  rw [if_pos trivial, sps (by decide) (by decide) (by decide) (by decide) (by decide) (by decide), b_bL, tX9_letters_167]
  rfl
theorem ltr6 (s : aMem) : fX9_letters [.int (nI 6)] s = some (.inl (some (.long (lN (wpk 6)))), s) := by
  rw [tX9_letters]
  simp only [k_lit]
  iterate 6 rw [i_eqF (by decide) (by decide) (by decide)]
  rw [if_pos trivial, sps (by decide) (by decide) (by decide) (by decide) (by decide) (by decide), b_bL, tX9_letters_182]
  rfl
theorem ltr7 (s : aMem) : fX9_letters [.int (nI 7)] s = some (.inl (some (.long (lN (wpk 7)))), s) := by
  rw [tX9_letters]
  simp only [k_lit]
  iterate 7 rw [i_eqF (by decide) (by decide) (by decide)]
  rw [if_pos trivial, sps (by decide) (by decide) (by decide) (by decide) (by decide) (by decide), b_bL, tX9_letters_195]
  rfl
theorem ltr8 (s : aMem) : fX9_letters [.int (nI 8)] s = some (.inl (some (.long (lN (wpk 8)))), s) := by
  rw [tX9_letters]
  simp only [k_lit]
  iterate 8 rw [i_eqF (by decide) (by decide) (by decide)]
  rw [if_pos trivial, sps (by decide) (by decide) (by decide) (by decide) (by decide) (by decide), b_bL, tX9_letters_207]
  rfl
theorem ltr9 (s : aMem) : fX9_letters [.int (nI 9)] s = some (.inl (some (.long (lN (wpk 9)))), s) := by
  rw [tX9_letters]
  simp only [k_lit]
  iterate 9 rw [i_eqF (by decide) (by decide) (by decide)]
  rw [if_pos trivial, sps (by decide) (by decide) (by decide) (by decide) (by decide) (by decide), b_bL, tX9_letters_220]
  rfl
theorem ltr10 (s : aMem) : fX9_letters [.int (nI 10)] s = some (.inl (some (.long (lN (wpk 10)))), s) := by
  rw [tX9_letters]
  simp only [k_lit]
  iterate 10 rw [i_eqF (by decide) (by decide) (by decide)]
  rw [if_pos trivial, sps (by decide) (by decide) (by decide) (by decide) (by decide) (by decide), b_bL, tX9_letters_232]
  rfl
theorem ltr11 (s : aMem) : fX9_letters [.int (nI 11)] s = some (.inl (some (.long (lN (wpk 11)))), s) := by
  rw [tX9_letters]
  simp only [k_lit]
  iterate 11 rw [i_eqF (by decide) (by decide) (by decide)]
  rw [if_pos trivial, sps (by decide) (by decide) (by decide) (by decide) (by decide) (by decide), b_bL, tX9_letters_245]
  rfl
theorem ltr12 (s : aMem) : fX9_letters [.int (nI 12)] s = some (.inl (some (.long (lN (wpk 12)))), s) := by
  rw [tX9_letters]
  simp only [k_lit]
  iterate 12 rw [i_eqF (by decide) (by decide) (by decide)]
  rw [if_pos trivial, sps (by decide) (by decide) (by decide) (by decide) (by decide) (by decide), b_bL, tX9_letters_257]
  rfl
theorem ltr13 (s : aMem) : fX9_letters [.int (nI 13)] s = some (.inl (some (.long (lN (wpk 13)))), s) := by
  rw [tX9_letters]
  simp only [k_lit]
  iterate 13 rw [i_eqF (by decide) (by decide) (by decide)]
  rw [if_pos trivial, sps (by decide) (by decide) (by decide) (by decide) (by decide) (by decide), b_bL, tX9_letters_271]
  rfl
theorem ltr14 (s : aMem) : fX9_letters [.int (nI 14)] s = some (.inl (some (.long (lN (wpk 14)))), s) := by
  rw [tX9_letters]
  simp only [k_lit]
  iterate 14 rw [i_eqF (by decide) (by decide) (by decide)]
  rw [if_pos trivial, sps (by decide) (by decide) (by decide) (by decide) (by decide) (by decide), b_bL, tX9_letters_285]
  rfl
theorem ltr15 (s : aMem) : fX9_letters [.int (nI 15)] s = some (.inl (some (.long (lN (wpk 15)))), s) := by
  rw [tX9_letters]
  simp only [k_lit]
  iterate 15 rw [i_eqF (by decide) (by decide) (by decide)]
  rw [sps (by decide) (by decide) (by decide) (by decide) (by decide) (by decide), b_bL, tX9_letters_298]
  rfl
theorem sX9_letters {k : Nat} (hk : k < 16) (s : aMem) : fX9_letters [.int (nI k)] s = some (.inl (some (.long (lN (wpk k)))), s) := by
  rcases (show k = 0 ∨ k = 1 ∨ k = 2 ∨ k = 3 ∨ k = 4 ∨ k = 5 ∨ k = 6 ∨ k = 7 ∨ k = 8 ∨ k = 9 ∨ k = 10 ∨ k = 11 ∨ k = 12 ∨ k = 13 ∨ k = 14 ∨ k = 15 by omega) with e | e | e | e | e | e | e | e | e | e | e | e | e | e | e | e <;> subst e
  · exact ltr0 s
  · exact ltr1 s
  · exact ltr2 s
  · exact ltr3 s
  · exact ltr4 s
  · exact ltr5 s
  · exact ltr6 s
  · exact ltr7 s
  · exact ltr8 s
  · exact ltr9 s
  · exact ltr10 s
  · exact ltr11 s
  · exact ltr12 s
  · exact ltr13 s
  · exact ltr14 s
  · exact ltr15 s
/-- which known word stands at f -/
def wd (B : Nat → Nat) (n f : Nat) : Option Nat := fnd (fun k => isW B n f k) 16 0
theorem wpk_lt : ∀ k, k < 16 → wpk k < 1073741824 := by decide
theorem sX9_knownWord {B : Nat → Nat} {n f : Nat} {s : aMem} (hn : n ≤ 700) (hT : MT B n f s) : fX9_knownWord [.ref 43] s = some (.inl (some (.int (oI (wd B n f)))), s) := by
  obtain ⟨hf, -, -, t16, -, t18, -, -, t21, -⟩ := hT
  have hed := ed_le (B := B) hf
  have hsl := srt_le B n f
  have no : (∀ k, k < 16 → isW B n f k = false) → wd B n f = none := by
    intro h
    have : ∀ m k, k + m = 16 → fnd (fun k => isW B n f k) m k = none := by
      intro m
      induction m with
      | zero => intro k _; rfl
      | succ m ih =>
        intro k hk
        unfold fnd
        rw [h k (by omega)]
        exact ih (k + 1) (by omega)
    exact this 16 0 (by omega)
  rw [tX9_knownWord, t16, t18]
  try simp only [k_lit, k_nN, k_ofN]
  by_cases e1 : srt B n f = 1
  · have hk1 : kd B n f = 1 := by rw [srt_o B n f 1 (by omega)] at e1; exact e1
    rw [e1]
    simp (disch := omega) only [i_leT, i_leF, i_ltT, i_ltF, i_eqT, i_eqF, i_okT, i_n1, i_n2, i_n3, i_n4, i_n5, i_n6, i_n7, i_n8, k_cl, if_true, if_false]
    by_cases e6 : ed B n f - f ≤ 6
    · simp (disch := omega) only [i_leT, i_leF, i_ltT, i_ltF, i_eqT, i_eqF, i_okT, i_n1, i_n2, i_n3, i_n4, i_n5, i_n6, i_n7, i_n8, k_cl, if_true, if_false]
      have t21' := t21 hk1
      rw [show mn6 (ed B n f - f) = ed B n f - f from if_pos e6] at t21'
      -- letters of the token
      have hlt := kd_lt (B := B) (n := n) (f := f) (by omega)
      have hL : bL (B f) = true := by
        unfold kd at hk1
        rw [if_neg (by omega)] at hk1
        cases e : bL (B f)
        · rw [e] at hk1
          simp only [Bool.false_eq_true, if_false] at hk1
          split at hk1 <;> omega
        · rfl
      have hed2 : ed B n f = WE B n (f + 1) := by
        unfold ed
        rw [if_neg (by omega), if_pos hL]
      have hdig : ∀ j, j < ed B n f - f → 1 ≤ B (f + j) - 96 ∧ B (f + j) - 96 < 32 ∧ 97 ≤ B (f + j) := by
        intro j hj
        have hb : bL (B (f + j)) = true := by
          by_cases e : j = 0
          · subst e; exact hL
          · rw [hed2] at hj
            exact rn_in (fun j => bL (B j)) (n - (f + 1)) (f + 1) (f + j) (by omega) (by unfold WE at hj; omega)
        unfold bL at hb
        simp only [Bool.and_eq_true, decide_eq_true_eq] at hb
        omega
      have hpk : pkf (fun j => B (f + j) - 96) (ed B n f - f) < 1073741824 := by
        have h1 := pkf_lt (g := fun j => B (f + j) - 96) (ed B n f - f) (fun j hj => (hdig j hj).2.1)
        have h2 : 32 ^ (ed B n f - f) ≤ 32 ^ 6 := Nat.pow_le_pow_right (by decide) e6
        have h3 : (32 : Nat) ^ 6 = 1073741824 := by decide
        omega
      have hiff : ∀ k, k < 16 → (lg_cmp (lN (wpk k)) (s.2.1 43 21) = nI 0 ↔ isW B n f k = true) := by
        intro k hk
        have hw := wpk_lt k hk
        rw [show nI 0 = (0 : Int32) from rfl, lg_cmp_eq, t21', pk_lEQ (by omega) (by omega), isW_iff]
        constructor
        · intro h
          obtain ⟨h1, h2⟩ := pkf_inj _ _ (fun j hj => by
            have := wc_let k hk j hj
            show 1 ≤ (wc k).getD j 0 - 96 ∧ (wc k).getD j 0 - 96 < 32
            omega) (fun j hj => ⟨(hdig j hj).1, (hdig j hj).2.1⟩) h
          refine ⟨hk1, h1.symm, fun i hi => ?_⟩
          have h3 := h2 i hi
          have h4 := wc_let k hk i hi
          have h5 := (hdig i (by omega)).2.2
          have h6 : (wc k).getD i 0 - 96 = B (f + i) - 96 := h3
          omega
        · rintro ⟨-, h2, h3⟩
          unfold wpk
          rw [← h2]
          have : ∀ m, m ≤ ed B n f - f → pkf (fun j => (wc k).getD j 0 - 96) m = pkf (fun j => B (f + j) - 96) m := by
            intro m
            induction m with
            | zero => intro _; rfl
            | succ m ih =>
              intro hm
              unfold pkf
              rw [ih (by omega), h3 m (by omega)]
          exact this _ (Nat.le_refl _)
      have key : ∀ m k, k + m = 16 → a_run none shp pX9_knownWord 21 [some (.ref 43), some (.int (nI k))] [] s = some (.inl (some (.int (oI (fnd (fun k => isW B n f k) m k)))), s) := by
        intro m
        induction m with
        | zero =>
          intro k hk
          rw [tX9_knownWord_21]
          try simp only [k_lit, k_nN, k_ofN]
          simp (disch := omega) only [i_leT, i_leF, i_ltT, i_ltF, i_eqT, i_eqF, i_okT, i_n1, i_n2, i_n3, i_n4, i_n5, i_n6, i_n7, i_n8, k_cl, if_true, if_false]
          rfl
        | succ m ih =>
          intro k hk
          rw [tX9_knownWord_21]
          try simp only [k_lit, k_nN, k_ofN, nI_add]
          simp (disch := omega) only [i_leT, i_leF, i_ltT, i_ltF, i_eqT, i_eqF, i_okT, i_n1, i_n2, i_n3, i_n4, i_n5, i_n6, i_n7, i_n8, k_cl, if_true, if_false]
          rw [sX9_letters (by omega), b_bL]
          unfold fnd
          by_cases e : isW B n f k = true
          · rw [if_pos ((hiff k (by omega)).mpr e), if_pos e]
            rfl
          · rw [if_neg (fun c => e ((hiff k (by omega)).mp c)), if_neg e]
            exact ih (k + 1) (by omega)
      exact key 16 0 (by omega)
    · simp (disch := omega) only [i_leT, i_leF, i_ltT, i_ltF, i_eqT, i_eqF, i_okT, i_n1, i_n2, i_n3, i_n4, i_n5, i_n6, i_n7, i_n8, k_cl, if_true, if_false]
      rw [no (fun k hk => ?_)]
      · rfl
      · apply Bool.eq_false_iff.mpr
        intro c
        have := (isW_iff.mp c).2.1
        have := (wc_len k hk).2
        omega
  · have hk1 : kd B n f ≠ 1 := by rw [srt_o B n f 1 (by omega)] at e1; exact e1
    simp (disch := omega) only [i_leT, i_leF, i_ltT, i_ltF, i_eqT, i_eqF, i_okT, i_n1, i_n2, i_n3, i_n4, i_n5, i_n6, i_n7, i_n8, k_cl, if_true, if_false]
    rw [no (fun k hk => ?_)]
    · rfl
    · apply Bool.eq_false_iff.mpr
      intro c
      exact hk1 (isW_iff.mp c).1
theorem wd_some {B : Nat → Nat} {n f k : Nat} (hk : k < 16) (h : isW B n f k = true) : wd B n f = some k := by
  have : ∀ m j, j + m = 16 → j ≤ k → fnd (fun k => isW B n f k) m j = some k := by
    intro m
    induction m with
    | zero => intro j h1 h2; omega
    | succ m ih =>
      intro j h1 h2
      unfold fnd
      by_cases e : isW B n f j = true
      · rw [if_pos e, isW_u (by omega) hk e h]
      · rw [if_neg e]
        refine ih (j + 1) (by omega) ?_
        by_cases c : j = k
        · rw [c] at e; exact absurd h e
        · omega
  exact this 16 0 (by omega) (by omega)
theorem wd_of {B : Nat → Nat} {n f k : Nat} (h : wd B n f = some k) : k < 16 ∧ isW B n f k = true := by
  have h1 := fnd_lt h
  refine ⟨by omega, ?_⟩
  have : ∀ m j, fnd (fun k => isW B n f k) m j = some k → isW B n f k = true := by
    intro m
    induction m with
    | zero => intro j h; cases h
    | succ m ih =>
      intro j h
      unfold fnd at h
      split at h
      · rename_i e; cases h; exact e
      · exact ih (j + 1) h
  exact this 16 0 h
theorem wd_ne {B : Nat → Nat} {n f k : Nat} (hk : k < 16) : (oI (wd B n f) = nI k) = (isW B n f k = true) := by
  apply propext
  constructor
  · intro h
    cases e : wd B n f with
    | none => rw [e] at h; exact absurd h (nN_ne (by omega))
    | some j =>
      rw [e] at h
      obtain ⟨h1, h2⟩ := wd_of e
      have : j = k := (nI_eq (by omega) (by omega)).mp h
      rw [← this]; exact h2
  · intro h
    rw [wd_some hk h]
    rfl
