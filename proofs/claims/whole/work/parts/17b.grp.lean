/-! ===== parts of the invariant over a frame ===== -/
def fx (K : List Nat) (F : List (Nat × Nat)) (s t : aMem) : Prop := ∀ k j, K.contains k = false → F.contains (k, j) = false → t.1 k j = s.1 k j
def aOk (K : List Nat) (F : List (Nat × Nat)) (ks : List Nat) : Bool := ks.all fun k => !K.contains k && F.all fun q => q.1 != k
def fOk (K : List Nat) (F : List (Nat × Nat)) (fs : List (Nat × Nat)) : Bool := fs.all fun q => !K.contains q.1 && !F.contains q
theorem fxA {K ks : List Nat} {F : List (Nat × Nat)} {s t : aMem} (h : fx K F s t) (ha : aOk K F ks = true) {k : Nat} (hk : k ∈ ks) : t.1 k = s.1 k := by
  funext j
  have h1 := List.all_eq_true.mp ha k hk
  rw [Bool.and_eq_true] at h1
  refine h k j (by simpa using h1.1) ?_
  cases h2 : F.contains (k, j) with
  | false => rfl
  | true =>
    have h3 := List.all_eq_true.mp h1.2 _ (List.contains_iff_mem.mp h2)
    simp at h3
theorem fxB {K : List Nat} {F fs : List (Nat × Nat)} {s t : aMem} (h : fx K F s t) (ha : fOk K F fs = true) {k j : Nat} (hk : (k, j) ∈ fs) : t.1 k j = s.1 k j := by
  have h1 := List.all_eq_true.mp ha _ hk
  rw [Bool.and_eq_true] at h1
  exact h k j (by simpa using h1.1) (by simpa using h1.2)
theorem fx_fr {K : List Nat} {F : List (Nat × Nat)} {s t : aMem} (h : fr K F s t) : fx K F s t := by
  intro k j h1 h2
  refine h.1 k j (fun c => ?_) (fun c => ?_)
  · rw [List.contains_iff_mem.mpr c] at h1; cases h1
  · rw [List.contains_iff_mem.mpr c] at h2; cases h2
theorem fx_tr {K : List Nat} {F : List (Nat × Nat)} {s t u : aMem} (h : fx K F s t) (h2 : fx K F t u) : fx K F s u := fun k j a b => (h2 k j a b).trans (h k j a b)
theorem fx_si {K : List Nat} {F : List (Nat × Nat)} {s t : aMem} {k j : Nat} {x : Int32} (h : fx K F s t) (hk : (K.contains k || F.contains (k, j)) = true) : fx K F s (a_si t k j x) := by
  intro k' j' a b
  rw [m_si]
  have e := h k' j' a b
  split
  · rename_i e1
    subst e1
    split
    · rename_i e2
      subst e2
      rw [a, b] at hk
      cases hk
    · exact e
  · exact e
theorem fx_rfl {K : List Nat} {F : List (Nat × Nat)} (s : aMem) : fx K F s s := fun _ _ _ _ => rfl
def liK : List Nat := [16, 44, 17, 47, 19, 49, 20, 14, 48, 18, 46]
def liF : List (Nat × Nat) := [(12, 0), (43, 1), (12, 1), (43, 2), (13, 1)]
theorem LibI_fx {K : List Nat} {F : List (Nat × Nat)} {s t : aMem} {nb nr : Nat} {c : List (Nat × Nat)} (hI : LibI nb nr c s) (h : fx K F s t) (h1 : aOk K F liK = true) (h2 : fOk K F liF = true) : LibI nb nr c t := by
  have A := fun k hk => fxA (k := k) h h1 hk
  have B := fun k j hk => fxB (k := k) (j := j) h h2 hk
  unfold LibI at hI ⊢
  rw [A 16 (by decide), A 44 (by decide), A 17 (by decide), A 47 (by decide), A 19 (by decide), A 49 (by decide), A 20 (by decide), A 14 (by decide), A 48 (by decide), A 18 (by decide), A 46 (by decide), B 12 0 (by decide), B 43 1 (by decide), B 12 1 (by decide), B 43 2 (by decide), B 13 1 (by decide)]
  exact hI
def noK : List Nat := [46, 23, 45, 24, 59, 25, 69]
def noF : List (Nat × Nat) := [(22, 2), (43, 35), (22, 4), (43, 53)]
theorem NowI_fx {K : List Nat} {F : List (Nat × Nat)} {s t : aMem} {nb nr : Nat} (hI : NowI nb nr s) (h : fx K F s t) (h1 : aOk K F noK = true) (h2 : fOk K F noF = true) : NowI nb nr t := by
  have A := fun k hk => fxA (k := k) h h1 hk
  have B := fun k j hk => fxB (k := k) (j := j) h h2 hk
  unfold NowI at hI ⊢
  rw [A 46 (by decide), A 23 (by decide), A 45 (by decide), A 24 (by decide), A 59 (by decide), A 25 (by decide), A 69 (by decide), B 22 2 (by decide), B 43 35 (by decide), B 22 4 (by decide), B 43 53 (by decide)]
  exact hI
def imK : List Nat := [46, 27, 71, 28, 72, 29, 73]
def imF : List (Nat × Nat) := [(0, 10), (43, 56), (26, 2), (43, 57), (26, 4), (43, 58)]
theorem ImgI_fx {K : List Nat} {F : List (Nat × Nat)} {s t : aMem} {nb nr : Nat} (hI : ImgI nb nr s) (h : fx K F s t) (h1 : aOk K F imK = true) (h2 : fOk K F imF = true) : ImgI nb nr t := by
  have A := fun k hk => fxA (k := k) h h1 hk
  have B := fun k j hk => fxB (k := k) (j := j) h h2 hk
  unfold ImgI at hI ⊢
  rw [A 46 (by decide), A 27 (by decide), A 71 (by decide), A 28 (by decide), A 72 (by decide), A 29 (by decide), A 73 (by decide), B 0 10 (by decide), B 43 56 (by decide), B 26 2 (by decide), B 43 57 (by decide), B 26 4 (by decide), B 43 58 (by decide)]
  exact hI
def roK : List Nat := [34, 68]
def roF : List (Nat × Nat) := [(30, 8), (43, 50), (43, 52)]
theorem RowI_fx {K : List Nat} {F : List (Nat × Nat)} {s t : aMem} (hI : RowI s) (h : fx K F s t) (h1 : aOk K F roK = true) (h2 : fOk K F roF = true) : RowI t := by
  have A := fun k hk => fxA (k := k) h h1 hk
  have B := fun k j hk => fxB (k := k) (j := j) h h2 hk
  unfold RowI at hI ⊢
  rw [A 34 (by decide), A 68 (by decide), B 30 8 (by decide), B 43 50 (by decide), B 43 52 (by decide)]
  exact hI
def taK : List Nat := [2, 50]
def taF : List (Nat × Nat) := [(1, 1), (43, 10)]
theorem TapI_fx {K : List Nat} {F : List (Nat × Nat)} {s t : aMem} (hI : TapI s) (h : fx K F s t) (h1 : aOk K F taK = true) (h2 : fOk K F taF = true) : TapI t := by
  have A := fun k hk => fxA (k := k) h h1 hk
  have B := fun k j hk => fxB (k := k) (j := j) h h2 hk
  unfold TapI at hI ⊢
  rw [A 2 (by decide), A 50 (by decide), B 1 1 (by decide), B 43 10 (by decide)]
  exact hI
def cnF : List (Nat × Nat) := [(0, 12), (51, 0), (0, 13), (51, 1), (0, 14), (51, 2), (0, 11), (43, 12)]
theorem CntI_fx {K : List Nat} {F : List (Nat × Nat)} {s t : aMem} (hI : CntI s) (h : fx K F s t) (h2 : fOk K F cnF = true) : CntI t := by
  have B := fun k j hk => fxB (k := k) (j := j) h h2 hk
  unfold CntI at hI ⊢
  rw [B 0 12 (by decide), B 51 0 (by decide), B 0 13 (by decide), B 51 1 (by decide), B 0 14 (by decide), B 51 2 (by decide), B 0 11 (by decide), B 43 12 (by decide)]
  exact hI
