/-! ===== the invariant that couples the class and the model ===== -/
/-- a step of the law of pages: (0, v) a number, (1, i) a part, (2, i) an operator: or and not < = + - * / if -/
def xst (q : Nat × Nat) : Int32 := match q with
  | (0, v) => nI v
  | (1, i) => -nI (i + 1)
  | (_, i) => -nI (i + 5)
def mop (i : Nat) : Nat := match i with
  | 0 => 5
  | 1 => 4
  | 2 => 3
  | 9 => 13
  | i => i + 3
def mst (q : Nat × Nat) : List Int32 := match q with
  | (0, v) => [nI 1, nI v]
  | (1, i) => [nI 2, nI i]
  | (_, i) => [nI (mop i)]
def stOk (q : Nat × Nat) : Prop := (q.1 = 0 ∧ q.2 < 10000) ∨ (q.1 = 1 ∧ q.2 < 4) ∨ (q.1 = 2 ∧ q.2 < 10)
/-- heights: from n values the steps never want one, never have more than 64, and leave m -/
def sfH : List (Nat × Nat) → Nat → Nat → Prop
  | [], n, m => n = m
  | (2, 2) :: t, n, m => 1 ≤ n ∧ sfH t n m
  | (2, 9) :: t, n, m => 3 ≤ n ∧ sfH t (n - 2) m
  | (2, _) :: t, n, m => 2 ≤ n ∧ sfH t (n - 1) m
  | (_, _) :: t, n, m => n < 64 ∧ sfH t (n + 1) m
def mcode (c : List (Nat × Nat)) : List Int32 := c.flatMap mst ++ [nI 0]
def CodeI (c : List (Nat × Nat)) (xc : Nat → Int32) (xn : Int32) (mc : Nat → Int32) : Prop := c.length ≤ 700 ∧ xn = nI c.length ∧ (∀ j q, c[j]? = some q → xc j = xst q) ∧ (∀ j x, (mcode c)[j]? = some x → mc j = x) ∧ (∀ q, q ∈ c → stOk q) ∧ sfH c 0 1
def hist (nb nr nm : Nat) (mv o0 o : Nat → Int32) : Prop := ∃ w : Nat → Nat → Int32, (∀ b, b < nb → w 0 b = o0 b) ∧ (∀ b, b < nb → w nm b = o b) ∧ ∀ m, m < nm → ∃ (r l t : Nat) (q : Int32), r < nr ∧ l < nb ∧ t < nb ∧ l ≠ t ∧ (q = nN ∨ ∃ r', r' < nr ∧ r' ≠ r ∧ q = nI r') ∧ mv (4 * m) = nI r ∧ mv (4 * m + 1) = nI l ∧ mv (4 * m + 2) = nI t ∧ mv (4 * m + 3) = q ∧ w m l = nI r ∧ w m t = q ∧ (∀ b, b < nb → w (m + 1) b = if b = l then q else if b = t then nI r else w m b)
def evs (nb nr ne : Nat) (ev em : Nat → Int32) : Prop := ∀ e, e < ne → ∃ r l t : Nat, r < nr ∧ l < nb ∧ t < nb ∧ l ≠ t ∧ ev (3 * e) = nI r ∧ ev (3 * e + 1) = nI l ∧ ev (3 * e + 2) = nI t ∧ em e = nI (144 * r + 12 * l + t)
/-- who has what, the moves, the events: of both -/
def Stnd (nb nr : Nat) (o0 sets o mx mm ev em : Nat → Int32) (cx cm kx km : Int32) : Prop := Own nb nr sets o ∧ ∃ nm ne, nm ≤ 200 ∧ ne ≤ 8 ∧ cx = nI nm ∧ cm = nI nm ∧ kx = nI ne ∧ km = nI ne ∧ (∀ j, j < 4 * nm → mx j = mm j) ∧ hist nb nr nm mm o0 o ∧ evs nb nr ne ev em
def LibI (nb nr : Nat) (c : List (Nat × Nat)) (s : aMem) : Prop := (nb ≤ 12 ∧ nr ≤ 5) ∧ (s.1 12 0 = nI nb ∧ s.1 43 1 = nI nb) ∧ (s.1 12 1 = nI nr ∧ s.1 43 2 = nI nr) ∧ (∀ j, j < 4 * nb → s.1 16 j = s.1 44 j) ∧ ((∀ r, r < nr → s.1 17 r = s.1 47 r) ∧ wOk nb nr (s.1 47)) ∧ (∀ b, b < nb → s.1 19 b = s.1 49 b) ∧ fwOk nb (s.1 20) (s.1 19) ∧ (0 < nb → CodeI c (s.1 14) (s.1 13 1) (s.1 48)) ∧ Own nb nr (s.1 18) (s.1 46)
def NowI (nb nr : Nat) (s : aMem) : Prop := Stnd nb nr (s.1 46) (s.1 23) (s.1 45) (s.1 24) (s.1 59) (s.1 25) (s.1 69) (s.1 22 2) (s.1 43 35) (s.1 22 4) (s.1 43 53)
def ImgI (nb nr : Nat) (s : aMem) : Prop := (s.1 0 10 = nI 0 ∧ s.1 43 56 = nI 0) ∨ (s.1 0 10 = nI 1 ∧ s.1 43 56 = nI 1 ∧ Stnd nb nr (s.1 46) (s.1 27) (s.1 71) (s.1 28) (s.1 72) (s.1 29) (s.1 73) (s.1 26 2) (s.1 43 57) (s.1 26 4) (s.1 43 58))
/-- the row that is kept -/
def RowI (s : aMem) : Prop := (s.1 30 8 = nN ∧ s.1 43 50 = nI 0) ∨ (s.1 43 50 = nI 1 ∧ ∃ k, k ≤ 5 ∧ s.1 30 8 = nI k ∧ s.1 43 52 = nI k ∧ ∀ i, i < k → ∃ r l t : Nat, r < 5 ∧ l < 12 ∧ t < 12 ∧ s.1 34 (3 * i) = nI r ∧ s.1 34 (3 * i + 1) = nI l ∧ s.1 34 (3 * i + 2) = nI t ∧ s.1 68 i = nI (144 * r + 12 * l + t))
def TapI (s : aMem) : Prop := ∃ n, n ≤ 700 ∧ s.1 1 1 = nI n ∧ s.1 43 10 = nI n ∧ ∀ j, j < n → (s.1 2 j &&& nI 255 = s.1 50 j) ∧ ∃ c, c < 256 ∧ s.1 50 j = nI c
def CntI (s : aMem) : Prop := s.1 0 12 = s.1 51 0 ∧ s.1 0 13 = s.1 51 1 ∧ s.1 0 14 = s.1 51 2 ∧ s.1 0 11 = s.1 43 12
def Inv (s : aMem) : Prop := ∃ nb nr c, LibI nb nr c s ∧ NowI nb nr s ∧ ImgI nb nr s ∧ RowI s ∧ TapI s ∧ CntI s
def scK : List Nat := [3, 4, 5, 6, 7, 8, 9, 10, 11, 15, 21, 31, 32, 33, 35, 36, 37, 38, 39, 40, 41, 42, 52, 53, 54, 55, 56, 57, 58, 60, 61, 62, 63, 64, 65, 66, 67, 70, 74]
def scF : List (Nat × Nat) := [(1, 2), (1, 3), (1, 4), (1, 5), (1, 6), (13, 3), (30, 4), (30, 5), (30, 6), (43, 0), (43, 11), (43, 14), (43, 15), (43, 16), (43, 17), (43, 18), (43, 19), (43, 20), (43, 21), (43, 22), (43, 23), (43, 24), (43, 25), (43, 26), (43, 27), (43, 40), (43, 44), (43, 45), (43, 48), (43, 49)]
/-- the same but at scratch -/
def fw (s t : aMem) : Prop := ∀ k j, k ∉ scK → (k, j) ∉ scF → t.1 k j = s.1 k j
theorem fw_fr {s t : aMem} (h : fr scK scF s t) : fw s t := h.1
theorem fw_tr {s t u : aMem} (h : fw s t) (h2 : fw t u) : fw s u := fun k j a b => (h2 k j a b).trans (h k j a b)
theorem fw_rfl (s : aMem) : fw s s := fun _ _ _ _ => rfl
theorem scA {s t : aMem} (h : fw s t) (k : Nat) (h1 : scK.contains k = false) (h2 : scF.all (fun q => q.1 != k) = true) : t.1 k = s.1 k := by
  funext j
  refine h k j (fun c => ?_) (fun c => ?_)
  · have := List.contains_iff_mem.mpr c
    rw [h1] at this
    cases this
  · have := List.all_eq_true.mp h2 _ c
    simp at this
theorem scB {s t : aMem} (h : fw s t) (k j : Nat) (h1 : scK.contains k = false) (h2 : scF.contains (k, j) = false) : t.1 k j = s.1 k j := by
  refine h k j (fun c => ?_) (fun c => ?_)
  · have := List.contains_iff_mem.mpr c
    rw [h1] at this
    cases this
  · have := List.contains_iff_mem.mpr c
    rw [h2] at this
    cases this
theorem Inv_fw {s t : aMem} (hI : Inv s) (h : fw s t) : Inv t := by
  have A := fun k h1 h2 => scA h k h1 h2
  have B := fun k j h1 h2 => scB h k j h1 h2
  unfold Inv LibI NowI ImgI RowI TapI CntI at hI ⊢
  rw [A 16 rfl rfl, A 44 rfl rfl, A 17 rfl rfl, A 47 rfl rfl, A 19 rfl rfl, A 49 rfl rfl, A 20 rfl rfl, A 14 rfl rfl, A 48 rfl rfl, A 18 rfl rfl, A 46 rfl rfl, A 23 rfl rfl, A 45 rfl rfl, A 24 rfl rfl, A 59 rfl rfl, A 25 rfl rfl, A 69 rfl rfl, A 27 rfl rfl, A 71 rfl rfl, A 28 rfl rfl, A 72 rfl rfl, A 29 rfl rfl, A 73 rfl rfl, A 34 rfl rfl, A 68 rfl rfl, A 2 rfl rfl, A 50 rfl rfl, A 51 rfl rfl]
  rw [B 12 0 rfl rfl, B 43 1 rfl rfl, B 12 1 rfl rfl, B 43 2 rfl rfl, B 13 1 rfl rfl, B 22 2 rfl rfl, B 43 35 rfl rfl, B 22 4 rfl rfl, B 43 53 rfl rfl, B 0 10 rfl rfl, B 43 56 rfl rfl, B 26 2 rfl rfl, B 43 57 rfl rfl, B 26 4 rfl rfl, B 43 58 rfl rfl, B 30 8 rfl rfl, B 43 50 rfl rfl, B 43 52 rfl rfl, B 1 1 rfl rfl, B 43 10 rfl rfl, B 0 12 rfl rfl, B 0 13 rfl rfl, B 0 14 rfl rfl, B 0 11 rfl rfl, B 43 12 rfl rfl]
  exact hI
/-! ===== how answers agree ===== -/
def scM : List Nat := [3, 4, 5, 6, 7, 8, 9, 10, 11, 15, 21, 31, 32, 33, 35, 36, 37, 38, 39, 40, 41, 42, 52, 53, 54, 55, 56, 57, 58, 60, 61, 62, 63, 64, 65, 66, 67, 70]
theorem scMK : ∀ k, k ∈ scM → k ∈ scK := by decide
theorem fr_MK {s t : aMem} (h : fr scM scF s t) : fr scK scF s t := fr_mono h scMK (fun _ h => .inr h)
theorem fw_sl {s t : aMem} {j : Nat} {x : Int64} (h : fw s t) : fw s (a_sl t 74 j x) := h
/-- a call that may throw: the class, then the law's note of its answer, then the model -/
def agr (fx fm : aMem → Option aRes) (cd : Nat → Nat) (s : aMem) : Prop :=
  (∃ r s1, fx s = some (.inl (some (.int r)), s1) ∧ s1.2.2 = s.2.2 ∧ ∀ o : Int64, ∃ t, fm (a_sl s1 74 0 o) = some (.inl (some (.int r)), t) ∧ t.1 43 0 = nI 0 ∧ Inv t ∧ t.2.1 74 0 = o ∧ t.2.2 = s.2.2) ∨
  (∃ x s1, fx s = some (.inr x, s1) ∧ s1.2.2 = s.2.2 + 1 ∧ ∃ r t, fm s1 = some (.inl (some (.int r)), t) ∧ t.1 43 0 = nI (cd x) ∧ 0 < cd x ∧ Inv t ∧ t.2.2 = s.2.2 + 1)
/-- a call that never throws -/
def agn (fx fm : aMem → Option aRes) (s : aMem) : Prop := ∃ r s1, fx s = some (.inl (some (.int r)), s1) ∧ s1.2.2 = s.2.2 ∧ ∃ t, fm s1 = some (.inl (some (.int r)), t) ∧ Inv t ∧ t.2.2 = s.2.2
theorem agr_q {fx fm : aMem → Option aRes} {cd : Nat → Nat} {s s1 : aMem} {r : Int32} (hI : Inv s) (hx : fx s = some (.inl (some (.int r)), s1)) (hf : fr scK scF s s1) (hm : ∀ s2, fw s s2 → ∃ t, fm s2 = some (.inl (some (.int r)), t) ∧ t.1 43 0 = nI 0 ∧ fr scM scF s2 t) : agr fx fm cd s := by
  refine .inl ⟨r, s1, hx, hf.2.2, fun o => ?_⟩
  have h2 : fw s (a_sl s1 74 0 o) := hf.1
  obtain ⟨t, e, h0, ht⟩ := hm _ h2
  refine ⟨t, e, h0, Inv_fw hI (fw_tr h2 (fr_MK ht).1), ?_, ht.2.2.trans hf.2.2⟩
  rw [ht.2.1 74 0 (by decide) (by decide), m_sl]
  rfl
theorem agr_x {fx fm : aMem → Option aRes} {cd : Nat → Nat} {s s1 : aMem} {x : Nat} (hI : Inv s) (hx : fx s = some (.inr x, a_tk s1)) (hf : fr scK scF s s1) (hc : 0 < cd x) (hm : ∀ s2, fw s s2 → ∃ r t, fm s2 = some (.inl (some (.int r)), t) ∧ t.1 43 0 = nI (cd x) ∧ fr scM scF s2 t) : agr fx fm cd s := by
  have h2 : fw s (a_tk s1) := hf.1
  obtain ⟨r, t, e, h0, ht⟩ := hm _ h2
  have e2 : (a_tk s1).2.2 = s.2.2 + 1 := by rw [m_tk3, hf.2.2]
  exact .inr ⟨x, _, hx, e2, r, t, e, h0, hc, Inv_fw hI (fw_tr h2 (fr_MK ht).1), ht.2.2.trans e2⟩
theorem agn_q {fx fm : aMem → Option aRes} {s s1 : aMem} {r : Int32} (hI : Inv s) (hx : fx s = some (.inl (some (.int r)), s1)) (hf : fr scK scF s s1) (hm : ∀ s2, fw s s2 → ∃ t, fm s2 = some (.inl (some (.int r)), t) ∧ fr scK scF s2 t) : agn fx fm s := by
  obtain ⟨t, e, ht⟩ := hm _ (fw_fr hf)
  exact ⟨r, s1, hx, hf.2.2, t, e, Inv_fw hI (fw_tr hf.1 ht.1), ht.2.2.trans hf.2.2⟩
