/-! ===== the abstract machine's cells in the heap ===== -/
def a_cv (ad : Nat → Nat) : Value → Value
  | .ref k => .ref (ad k)
  | v => v
theorem a_cv_cat (ad : Nat → Nat) (v : Value) : (a_cv ad v).category = v.category := by cases v <;> rfl
theorem a_wt_sum (ad : Nat → Nat) : ∀ r : List Value, ((r.map (a_cv ad)).map fun v => v.category).sum = a_wt r
  | [] => rfl
  | v :: r => by simp only [List.map_cons, List.sum_cons, a_wt, a_cv_cat, a_wt_sum ad r]
/-- addresses, array classes, classes and slots, the state at the law's entry, the script's length and numbers -/
abbrev aG : Type := (Nat → Nat) × (Nat → ClassId) × va_G × State × Nat × (Nat → Int32)
abbrev g_ad (G : aG) : Nat → Nat := G.1
abbrev g_ca (G : aG) : Nat → ClassId := G.2.1
abbrev g_D (G : aG) : va_G := G.2.2.1
abbrev g_s (G : aG) : State := G.2.2.2.1
abbrev g_n (G : aG) : Nat := G.2.2.2.2.1
abbrev g_xs (G : aG) : Nat → Int32 := G.2.2.2.2.2
def a_fv (ad : Nat → Nat) (σ : aMem) (k : Nat) (q : (Nat ⊕ Nat) × Nat) : Value := match q.1 with
  | .inl 2 => .long (σ.2.1 k q.2)
  | .inl _ => .int (σ.1 k q.2)
  | .inr r => .ref (ad r)
def a_ce (ad : Nat → Nat) (ca : Nat → ClassId) (σ : aMem) (k : Nat) : aShp → va_E
  | .inl (3, n) => .inl (ca 3, n, .inr (.inl (σ.2.1 k)))
  | .inl (t, n) => .inl (ca t, n, .inl (σ.1 k))
  | .inr (ci, fk) => .inr (ci, fk.zipIdx.map (a_fv ad σ k))
def a_wl (ad : Nat → Nat) (ca : Nat → ClassId) (sh : List aShp) (σ : aMem) : va_W := sh.zipIdx.map (fun q => (ad q.2, a_ce ad ca σ q.2 q.1))
abbrev a_tys (ca : Nat → ClassId) : List (ClassId × FieldType) := [(ca 0, .int), (ca 1, .byte), (ca 2, .boolean), (ca 3, .long)]
theorem a_wl_get (ad : Nat → Nat) (ca : Nat → ClassId) (sh : List aShp) (σ : aMem) (k : Nat) : (a_wl ad ca sh σ)[k]? = sh[k]?.map (fun x => (ad k, a_ce ad ca σ k x)) := by
  unfold a_wl
  rw [List.getElem?_map, List.getElem?_zipIdx]
  cases sh[k]? <;> simp
theorem a_wl_at {ad : Nat → Nat} {ca : Nat → ClassId} {sh : List aShp} {σ : aMem} {k : Nat} {x : aShp} (h : sh[k]? = some x) : (a_wl ad ca sh σ)[k]? = some (ad k, a_ce ad ca σ k x) := by
  rw [a_wl_get, h]; rfl
theorem a_wl_len (ad : Nat → Nat) (ca : Nat → ClassId) (sh : List aShp) (σ : aMem) : (a_wl ad ca sh σ).length = sh.length := by simp [a_wl]
theorem a_fv_get {ad : Nat → Nat} {σ : aMem} {k : Nat} {fk : List (Nat ⊕ Nat)} {j : Nat} {x : Nat ⊕ Nat} (h : fk[j]? = some x) : (fk.zipIdx.map (a_fv ad σ k))[j]? = some (a_fv ad σ k (x, j)) := by
  rw [List.getElem?_map, List.getElem?_zipIdx, h]; simp
theorem a_si_ne {σ : aMem} {k j i : Nat} {x : Int32} (h : i ≠ k) : (a_si σ k j x).1 i = σ.1 i := by simp [a_si, va_up, h]
theorem a_si_eq {σ : aMem} {k j : Nat} {x : Int32} : (a_si σ k j x).1 k = upd (σ.1 k) j x := by simp [a_si, va_up]
theorem a_sl_ne {σ : aMem} {k j i : Nat} {x : Int64} (h : i ≠ k) : (a_sl σ k j x).2.1 i = σ.2.1 i := by simp [a_sl, va_up, h]
theorem a_sl_eq {σ : aMem} {k j : Nat} {x : Int64} : (a_sl σ k j x).2.1 k = vp_updL (σ.2.1 k) j x := by simp [a_sl, va_up]
theorem a_fv_congr {ad : Nat → Nat} {σ τ : aMem} {k : Nat} (h1 : σ.1 k = τ.1 k) (h2 : σ.2.1 k = τ.2.1 k) (q : (Nat ⊕ Nat) × Nat) : a_fv ad σ k q = a_fv ad τ k q := by
  unfold a_fv; rw [h1, h2]
theorem a_ce_congr {ad : Nat → Nat} {ca : Nat → ClassId} {σ τ : aMem} {k : Nat} (h1 : σ.1 k = τ.1 k) (h2 : σ.2.1 k = τ.2.1 k) (x : aShp) : a_ce ad ca σ k x = a_ce ad ca τ k x := by
  unfold a_ce
  split
  · rw [h2]
  · rw [h1]
  · rw [show a_fv ad σ k = a_fv ad τ k from funext (a_fv_congr h1 h2)]
/-- a cell is changed: the world of the changed memory -/
theorem a_wl_set {ad : Nat → Nat} {ca : Nat → ClassId} {sh : List aShp} {σ τ : aMem} {k : Nat} {x : aShp} {e : va_E} (h : sh[k]? = some x) (he : e = a_ce ad ca τ k x) (ho : ∀ i, i ≠ k → σ.1 i = τ.1 i ∧ σ.2.1 i = τ.2.1 i) : (a_wl ad ca sh σ).set k (ad k, e) = a_wl ad ca sh τ := by
  have hk : k < sh.length := (List.getElem?_eq_some_iff.mp h).1
  apply List.ext_getElem?
  intro i
  by_cases hi : i = k
  · subst hi
    rw [List.getElem?_set_self (by rw [a_wl_len]; exact hk), a_wl_at h, he]
  · rw [List.getElem?_set_ne (Ne.symm hi), a_wl_get, a_wl_get]
    cases sh[i]? with
    | none => rfl
    | some y => simp only [Option.map_some, a_ce_congr (ho i hi).1 (ho i hi).2]
theorem a_wl_ia {ad : Nat → Nat} {ca : Nat → ClassId} {sh : List aShp} {σ : aMem} {k j t n : Nat} {x : Int32} (h : sh[k]? = some (.inl (t, n))) (ht : t ≠ 3) : (a_wl ad ca sh σ).set k (ad k, .inl (ca t, n, .inl (upd (σ.1 k) j x))) = a_wl ad ca sh (a_si σ k j x) := by
  refine a_wl_set h ?_ (fun i hi => ⟨(a_si_ne hi).symm, rfl⟩)
  unfold a_ce
  split
  · rename_i h3; cases h3; exact absurd rfl ht
  · rename_i h3; cases h3; rw [a_si_eq]
  · rename_i h3; cases h3
theorem a_wl_la {ad : Nat → Nat} {ca : Nat → ClassId} {sh : List aShp} {σ : aMem} {k j n : Nat} {x : Int64} (h : sh[k]? = some (.inl (3, n))) : (a_wl ad ca sh σ).set k (ad k, .inl (ca 3, n, .inr (.inl (vp_updL (σ.2.1 k) j x)))) = a_wl ad ca sh (a_sl σ k j x) := by
  refine a_wl_set h ?_ (fun i hi => ⟨rfl, (a_sl_ne hi).symm⟩)
  show _ = Sum.inl (ca 3, n, Sum.inr (Sum.inl ((a_sl σ k j x).2.1 k)))
  rw [a_sl_eq]
theorem a_ce_i {ad : Nat → Nat} {ca : Nat → ClassId} {σ : aMem} {k t n : Nat} (ht : t ≠ 3) : a_ce ad ca σ k (.inl (t, n)) = .inl (ca t, n, .inl (σ.1 k)) := by
  unfold a_ce
  split
  · rename_i h3; cases h3; exact absurd rfl ht
  · rename_i h3; cases h3; rfl
  · rename_i h3; cases h3
theorem a_wl_io {ad : Nat → Nat} {ca : Nat → ClassId} {sh : List aShp} {σ : aMem} {k j ci t : Nat} {fk : List (Nat ⊕ Nat)} {x : Int32} (h : sh[k]? = some (.inr (ci, fk))) (hj : fk[j]? = some (.inl t)) (ht : t ≠ 2) :
    (a_wl ad ca sh σ).set k (ad k, .inr (ci, (fk.zipIdx.map (a_fv ad σ k)).set j (.int x))) = a_wl ad ca sh (a_si σ k j x) := by
  refine a_wl_set h ?_ (fun i hi => ⟨(a_si_ne hi).symm, rfl⟩)
  show _ = Sum.inr (ci, fk.zipIdx.map (a_fv ad (a_si σ k j x) k))
  have hl : j < fk.length := (List.getElem?_eq_some_iff.mp hj).1
  congr 2
  apply List.ext_getElem?
  intro i
  by_cases hi : i = j
  · subst hi
    rw [List.getElem?_set_self (by simpa using hl), a_fv_get hj]
    unfold a_fv
    split
    · rename_i h3; cases h3; exact absurd rfl ht
    · simp [a_si, va_up, upd]
    · rename_i h3; cases h3
  · rw [List.getElem?_set_ne (Ne.symm hi)]
    cases hfi : fk[i]? with
    | none => rw [List.getElem?_map, List.getElem?_map, List.getElem?_zipIdx, hfi]; rfl
    | some y =>
      rw [a_fv_get hfi, a_fv_get hfi]
      unfold a_fv
      split
      · rfl
      · simp [a_si, va_up, upd, hi]
      · rfl
theorem a_wl_lo {ad : Nat → Nat} {ca : Nat → ClassId} {sh : List aShp} {σ : aMem} {k j ci : Nat} {fk : List (Nat ⊕ Nat)} {x : Int64} (h : sh[k]? = some (.inr (ci, fk))) (hj : fk[j]? = some (.inl 2)) :
    (a_wl ad ca sh σ).set k (ad k, .inr (ci, (fk.zipIdx.map (a_fv ad σ k)).set j (.long x))) = a_wl ad ca sh (a_sl σ k j x) := by
  refine a_wl_set h ?_ (fun i hi => ⟨rfl, (a_sl_ne hi).symm⟩)
  show _ = Sum.inr (ci, fk.zipIdx.map (a_fv ad (a_sl σ k j x) k))
  have hl : j < fk.length := (List.getElem?_eq_some_iff.mp hj).1
  congr 2
  apply List.ext_getElem?
  intro i
  by_cases hi : i = j
  · subst hi
    rw [List.getElem?_set_self (by simpa using hl), a_fv_get hj]
    simp [a_fv, a_sl, va_up, vp_updL]
  · rw [List.getElem?_set_ne (Ne.symm hi)]
    cases hfi : fk[i]? with
    | none => rw [List.getElem?_map, List.getElem?_map, List.getElem?_zipIdx, hfi]; rfl
    | some y =>
      rw [a_fv_get hfi, a_fv_get hfi]
      unfold a_fv
      split
      · simp [a_sl, va_up, vp_updL, hi]
      · rfl
      · rfl
/-! the locals -/
def a_L (ad : Nat → Nat) (nL : Nat) (ls : Array Slot) (L : aLs) : Prop := ls.size = nL ∧ L.length = nL ∧ lv_wf ls ∧ ∀ (i : Nat) (v : Value), L[i]? = some (some v) → ls[i]? = some (.val (a_cv ad v))
def a_ll (ad : Nat → Nat) (L : aLs) : List (Nat × Value) := L.zipIdx.filterMap (fun q => q.1.map (fun v => (q.2, a_cv ad v)))
theorem a_ll_mem {ad : Nat → Nat} {L : aLs} {i : Nat} {v : Value} (h : L[i]? = some (some v)) : (i, a_cv ad v) ∈ a_ll ad L := by
  unfold a_ll
  refine List.mem_filterMap.mpr ⟨(some v, i), ?_, rfl⟩
  exact List.mem_zipIdx_iff_getElem?.mpr h
theorem a_ll_of {ad : Nat → Nat} {L : aLs} {q : Nat × Value} (h : q ∈ a_ll ad L) : ∃ v, L[q.1]? = some (some v) ∧ q.2 = a_cv ad v := by
  unfold a_ll at h
  obtain ⟨⟨o, i⟩, h1, h2⟩ := List.mem_filterMap.mp h
  have h3 := List.mem_zipIdx_iff_getElem?.mp h1
  cases o with
  | none => simp at h2
  | some v =>
    simp only [Option.map_some, Option.some.injEq] at h2
    subst h2
    exact ⟨v, h3, rfl⟩
theorem a_L.has {ad : Nat → Nat} {nL : Nat} {ls : Array Slot} {L : aLs} (h : a_L ad nL ls L) : lv_has ls nL (a_ll ad L) := by
  refine ⟨h.1, h.2.2.1, fun q hq => ?_⟩
  obtain ⟨v, h1, h2⟩ := a_ll_of hq
  rw [h2]
  exact h.2.2.2 _ _ h1
theorem a_kill_len (L : aLs) (i : Nat) : (a_kill L i).length = L.length := by
  unfold a_kill; split <;> simp
theorem a_kill_at {L : aLs} {i j : Nat} {v : Value} (h : (a_kill L i)[j]? = some (some v)) : L[j]? = some (some v) ∧ (j = i → v.category = 1) := by
  unfold a_kill at h
  split at h
  · rename_i x hx
    by_cases hij : j = i
    · subst hij
      rw [List.getElem?_set_self (List.getElem?_eq_some_iff.mp hx).1] at h
      cases h
    · rw [List.getElem?_set_ne (Ne.symm hij)] at h
      exact ⟨h, fun e => absurd e hij⟩
  · rename_i x hx
    by_cases hij : j = i
    · subst hij
      rw [List.getElem?_set_self (List.getElem?_eq_some_iff.mp hx).1] at h
      cases h
    · rw [List.getElem?_set_ne (Ne.symm hij)] at h
      exact ⟨h, fun e => absurd e hij⟩
  · rename_i h1 h2
    refine ⟨h, fun e => ?_⟩
    subst e
    cases v with
    | long x => exact absurd h (h1 x)
    | double x => exact absurd h (h2 x)
    | _ => rfl
theorem a_L.s1 {ad : Nat → Nat} {nL : Nat} {ls' : Array Slot} {L : aLs} {i : Nat} {v : Value} (hlen : L.length = nL) (hi : i < nL) (h : lv_has ls' nL ((i, a_cv ad v) :: (a_ll ad L).filter (fun q => !(q.1 == i) && !(q.1 + 1 == i && q.2.category == 2)))) : a_L ad nL ls' (a_s1 L i v) := by
  refine ⟨h.1, ?_, h.2.1, fun j w hj => ?_⟩
  · unfold a_s1; rw [List.length_set, a_kill_len]; exact hlen
  · unfold a_s1 at hj
    by_cases hij : j = i
    · subst hij
      rw [List.getElem?_set_self (by rw [a_kill_len]; omega)] at hj
      cases hj
      exact h.2.2 (j, a_cv ad v) List.mem_cons_self
    · rw [List.getElem?_set_ne (Ne.symm hij)] at hj
      obtain ⟨h1, h2⟩ := a_kill_at hj
      refine h.2.2 (j, a_cv ad w) (List.mem_cons_of_mem _ (List.mem_filter.mpr ⟨a_ll_mem h1, ?_⟩))
      have e1 : (j == i) = false := by simpa using hij
      simp only [e1, Bool.not_false, Bool.true_and, Bool.not_eq_true']
      by_cases e2 : j + 1 = i
      · have := h2 (by omega)
        rw [a_cv_cat, this]
        simp
      · have : (j + 1 == i) = false := by simpa using e2
        rw [this]; rfl
theorem a_L.s2 {ad : Nat → Nat} {nL : Nat} {ls' : Array Slot} {L : aLs} {i : Nat} {v : Value} (hlen : L.length = nL) (hi : i + 1 < nL) (h : lv_has ls' nL ((i, a_cv ad v) :: (a_ll ad L).filter (fun q => !(q.1 == i) && (!(q.1 == i + 1) && !(q.1 + 1 == i && q.2.category == 2))))) : a_L ad nL ls' (a_s2 L i v) := by
  refine ⟨h.1, ?_, h.2.1, fun j w hj => ?_⟩
  · unfold a_s2; rw [List.length_set, List.length_set, a_kill_len]; exact hlen
  · unfold a_s2 at hj
    by_cases hij : j = i
    · subst hij
      rw [List.getElem?_set_self (by rw [List.length_set, a_kill_len]; omega)] at hj
      cases hj
      exact h.2.2 (j, a_cv ad v) List.mem_cons_self
    · rw [List.getElem?_set_ne (Ne.symm hij)] at hj
      by_cases hij1 : j = i + 1
      · subst hij1
        rw [List.getElem?_set_self (by rw [a_kill_len]; omega)] at hj
        cases hj
      · rw [List.getElem?_set_ne (Ne.symm hij1)] at hj
        obtain ⟨h1, h2⟩ := a_kill_at hj
        refine h.2.2 (j, a_cv ad w) (List.mem_cons_of_mem _ (List.mem_filter.mpr ⟨a_ll_mem h1, ?_⟩))
        have e1 : (j == i) = false := by simpa using hij
        have e3 : (j == i + 1) = false := by simpa using hij1
        simp only [e1, e3, Bool.not_false, Bool.true_and, Bool.not_eq_true']
        by_cases e2 : j + 1 = i
        · have := h2 (by omega)
          rw [a_cv_cat, this]
          simp
        · have : (j + 1 == i) = false := by simpa using e2
          rw [this]; rfl
theorem a_L_nn {ad : Nat → Nat} {nL : Nat} {ls : Array Slot} {L : aLs} (h : a_L ad nL ls L) (i : Nat) : a_L ad nL ls (L.set i none) := by
  refine ⟨h.1, by rw [List.length_set]; exact h.2.1, h.2.2.1, fun j v hj => h.2.2.2 j v ?_⟩
  by_cases hij : j = i
  · subst hij
    by_cases hl : j < L.length
    · rw [List.getElem?_set_self hl] at hj; cases hj
    · have : (L.set j none)[j]? = none := by simp; omega
      rw [this] at hj; cases hj
  · rwa [List.getElem?_set_ne (Ne.symm hij)] at hj
theorem a_L_fg {ad : Nat → Nat} {nL : Nat} {ls : Array Slot} : ∀ {ks : List Nat} {L : aLs}, a_L ad nL ls L → a_L ad nL ls (a_fg ks L)
  | [], _, h => h
  | k :: t, L, h => a_L_fg (ks := t) (L := L.set k none) (a_L_nn h k)
theorem a_L_mk {ad : Nat → Nat} {nL : Nat} {ls : Array Slot} {L : aLs} (P : aPrg) (pc : Nat) (h : a_L ad nL ls L) : a_L ad nL ls (a_mk P pc L) := by
  unfold a_mk
  split
  · exact a_L_fg h
  · exact h
theorem a_L_sn {ad : Nat → Nat} {nL : Nat} {ls' : Array Slot} {L : aLs} {i : Nat} {w : Value} (hlen : L.length = nL) (h : lv_has ls' nL ((i, w) :: (a_ll ad L).filter (fun q => !(q.1 == i) && !(q.1 + 1 == i && q.2.category == 2)))) : a_L ad nL ls' ((a_kill L (i - 1)).set i none) := by
  refine ⟨h.1, ?_, h.2.1, fun j v hj => ?_⟩
  · rw [List.length_set, a_kill_len]; exact hlen
  · by_cases hij : j = i
    · subst hij
      by_cases hl : j < (a_kill L (j - 1)).length
      · rw [List.getElem?_set_self hl] at hj; cases hj
      · rw [List.getElem?_eq_none (by rw [List.length_set]; omega)] at hj; cases hj
    · rw [List.getElem?_set_ne (Ne.symm hij)] at hj
      obtain ⟨h1, h2⟩ := a_kill_at hj
      refine h.2.2 (j, a_cv ad v) (List.mem_cons_of_mem _ (List.mem_filter.mpr ⟨a_ll_mem h1, ?_⟩))
      have e1 : (j == i) = false := by simpa using hij
      simp only [e1, Bool.not_false, Bool.true_and, Bool.not_eq_true']
      by_cases e2 : j + 1 = i
      · have := h2 (by omega)
        rw [a_cv_cat, this]
        simp
      · have : (j + 1 == i) = false := by simpa using e2
        rw [this]; rfl
/-- the locals at a method's entry, its arguments of one slot each -/
def a_lcl (nL : Nat) (as : List Value) : aLs := as.map some ++ List.replicate (nL - as.length) none
theorem a_args_at : ∀ (vs : List Value) (i : Nat), (∀ v ∈ vs, v.category = 1) → ∀ (j : Nat) (v : Value), vs[j]? = some v → (i + j, v) ∈ lv_args i vs
  | [], _, _, _, _, h => by simp at h
  | w :: vs, i, hc, 0, v, h => by
    simp at h; subst h
    unfold lv_args; simp
  | w :: vs, i, hc, j + 1, v, h => by
    unfold lv_args
    have h1 : w.category = 1 := hc w List.mem_cons_self
    rw [if_neg (by omega)]
    have := a_args_at vs (i + 1) (fun v hv => hc v (List.mem_cons_of_mem _ hv)) j v (by simpa using h)
    rw [show i + (j + 1) = i + 1 + j by omega]
    exact List.mem_cons_of_mem _ this
theorem a_sl1 : ∀ (vs : List Value), (∀ v ∈ vs, v.category = 1) → (lg_sl vs).length = vs.length
  | [], _ => rfl
  | v :: vs, h => by
    have h1 : v.category = 1 := h v List.mem_cons_self
    have := a_sl1 vs (fun v hv => h v (List.mem_cons_of_mem _ hv))
    unfold lg_sl at this ⊢
    rw [List.flatMap_cons, if_neg (by omega), List.length_append, this]
    simp; omega
theorem a_L.entry {ad : Nat → Nat} {nL : Nat} {as : List Value} (hc : ∀ v ∈ as, v.category = 1) (hn : as.length ≤ nL) : a_L ad nL ((lg_sl (as.map (a_cv ad)) ++ List.replicate (nL - (lg_sl (as.map (a_cv ad))).length) Slot.unset).toArray) (a_lcl nL as) := by
  have hc' : ∀ v ∈ as.map (a_cv ad), v.category = 1 := by
    intro v hv
    obtain ⟨w, h1, h2⟩ := List.mem_map.mp hv
    rw [← h2, a_cv_cat]; exact hc w h1
  have hl := a_sl1 _ hc'
  rw [List.length_map] at hl
  have h := lv_entry (as.map (a_cv ad)) (n := nL) (by omega)
  refine ⟨h.1, ?_, h.2.1, fun i v hi => ?_⟩
  · unfold a_lcl; simp; omega
  · unfold a_lcl at hi
    by_cases hil : i < as.length
    · rw [List.getElem?_append_left (by simpa using hil), List.getElem?_map] at hi
      cases hx : as[i]? with
      | none => rw [hx] at hi; cases hi
      | some w =>
        rw [hx] at hi
        cases hi
        have := a_args_at (as.map (a_cv ad)) 0 hc' i (a_cv ad v) (by rw [List.getElem?_map, hx]; rfl)
        rw [Nat.zero_add] at this
        exact h.2.2 _ this
    · rw [List.getElem?_append_right (by simpa using hil)] at hi
      rw [List.getElem?_replicate] at hi
      split at hi <;> cases hi
theorem a_take_spec : ∀ (n : Nat) (acc st as r : List Value), a_take n acc st = some (as, r) → ∃ bs, as = bs.reverse ++ acc ∧ st = bs ++ r ∧ bs.length = n
  | 0, acc, st, as, r, h => by
    unfold a_take at h; cases h
    exact ⟨[], rfl, rfl, rfl⟩
  | n + 1, acc, [], as, r, h => by unfold a_take at h; cases h
  | n + 1, acc, v :: st, as, r, h => by
    unfold a_take at h
    obtain ⟨bs, h1, h2, h3⟩ := a_take_spec n (v :: acc) st as r h
    exact ⟨v :: bs, by rw [h1]; simp, by rw [h2]; rfl, by simp [h3]⟩
theorem a_take_eq {n : Nat} {st as r : List Value} (h : a_take n [] st = some (as, r)) : st = as.reverse ++ r ∧ as.length = n := by
  obtain ⟨bs, h1, h2, h3⟩ := a_take_spec n [] st as r h
  rw [List.append_nil] at h1
  exact ⟨by rw [h1, List.reverse_reverse]; exact h2, by rw [h1, List.length_reverse]; exact h3⟩
theorem a_ok_in {j : Int32} {n : Nat} (h : a_ok j n = true) : vp_in j n := by
  unfold a_ok at h
  simp only [Bool.and_eq_true, decide_eq_true_eq] at h
  exact vp_in_iff.mpr h
