/-! ===== methods: runs, contracts, calls ===== -/
abbrev a_en : Nat → String := fun x => match x with
  | 0 => "java/util/NoSuchElementException"
  | _ => "java/lang/IllegalArgumentException"
abbrev a_rm (fr lo n : Nat) : Room := { frames := fr, cells := n, slots := 6 * n, locals := lo }
def a_Wh (G : aG) (sh : List aShp) (σ : aMem) (H : Heap) : Prop := va_P (g_D G) vwCl (a_wl (g_ad G) (g_ca G) sh σ) H ∧ (g_s G).heap.size ≤ H.size ∧ (∀ q, q < (g_s G).heap.size → H[q]? = (g_s G).heap[q]?) ∧ ∀ j, j < g_n G → σ.1 900 j = g_xs G j
def a_Pre (G : aG) (sh : List aShp) (as : List Value) (σ : aMem) (sz : Nat) : Array Value → State → Prop := va_Pc (as.map (a_cv (g_ad G))) (fun U => U.heap.size = sz ∧ (g_s G).WarmedH U.vm ∧ a_Wh G sh σ U.heap)
def a_Qr (G : aG) (sh : List aShp) (v : Option Value) (σ : aMem) (sz : Nat) : Array Value → State → Outcome → State → Prop := fun _ st o t => o = .returned (v.map (a_cv (g_ad G))) ∧ a_Wh G sh σ t.heap ∧ va_F (a_A (g_ad G) sh.length sz) st t
def a_Qx (G : aG) (sh : List aShp) (x : Nat) (σ : aMem) (sz : Nat) : String → State → State → Prop := fun E st t => E = a_en x ∧ a_Wh G sh σ t.heap ∧ va_F (a_A (g_ad G) sh.length sz) st t
/-- a method's contract: where its function answers, it answers so, or throws so -/
def a_Con (l : Launch) (G : aG) (sh : List aShp) (y : MethodName) (w : Cond) (fr lo : Nat) (f : aMF) : Prop :=
  ∀ (as : List Value) (σ : aMem) (o : aOut) (σ' : aMem), f as σ = some (o, σ') → a_wt as ≤ as.length → σ.2.2 ≤ σ'.2.2 ∧ ∀ sz : Nat, match o with
    | .inl v => Met l y [w] (a_rm fr lo (σ'.2.2 - σ.2.2)) (a_Pre G sh as σ sz) (a_Qr G sh v σ' sz) (σ'.2.2 - σ.2.2) (6 * (σ'.2.2 - σ.2.2)) (a_A (g_ad G) sh.length sz)
    | .inr x => vx_Met l y [w] (a_rm fr lo (σ'.2.2 - σ.2.2)) (a_Pre G sh as σ sz) (fun _ _ _ _ => False) (a_Qx G sh x σ' sz) (σ'.2.2 - σ.2.2) (6 * (σ'.2.2 - σ.2.2)) (a_A (g_ad G) sh.length sz)
theorem a_Pre_blind (G : aG) (sh : List aShp) (as : List Value) (σ : aMem) (sz : Nat) : FrameBlind (a_Pre G sh as σ sz) := fun _ _ _ _ h => h
theorem a_A_old {G : aG} {sh : List aShp} (hG : a_GF G sh) {sz q : Nat} (hs : (g_s G).heap.size ≤ sz) (hq : q < (g_s G).heap.size) : ¬ a_A (g_ad G) sh.length sz q := by
  rintro (⟨k, hk, he⟩ | hz)
  · have := hG.2.1 k hk
    omega
  · omega
theorem a_A_sub {ad : Nat → Nat} {N a b : Nat} (h : a ≤ b) : ∀ q, a_A ad N b q → a_A ad N a q := fun q hq => hq.elim Or.inl (fun z => Or.inr (Nat.le_trans h z))
theorem a_Wh_of {G : aG} {sh : List aShp} {s : State} {σ : aMem} {H : Heap} {locs : List Loc} (hG : a_GF G sh) (hs : (g_s G).heap.size ≤ s.heap.size) (ho : ∀ q, q < (g_s G).heap.size → s.heap[q]? = (g_s G).heap[q]?) (hP : va_P (g_D G) vwCl (a_wl (g_ad G) (g_ca G) sh σ) H) (hS : va_S (a_A (g_ad G) sh.length s.heap.size) s.heap H locs) (hX : ∀ j, j < g_n G → σ.1 900 j = g_xs G j) : a_Wh G sh σ H :=
  ⟨hP, Nat.le_trans hs hS.1, fun q hq => by rw [hS.2.1 q (Nat.lt_of_lt_of_le hq hs) (a_A_old hG hs hq)]; exact ho q hq, hX⟩
theorem a_wt_one {as : List Value} (h : a_wt as ≤ as.length) : ∀ v ∈ as, v.category = 1 := by
  have key : ∀ as : List Value, as.length ≤ a_wt as ∧ (a_wt as ≤ as.length → ∀ v ∈ as, v.category = 1) := by
    intro as
    induction as with
    | nil => exact ⟨Nat.le_refl _, fun _ v hv => by cases hv⟩
    | cons w r ih =>
      have hc : 1 ≤ w.category := by rcases lv_cat w with h | h <;> omega
      refine ⟨by simp only [List.length_cons, a_wt]; omega, fun h v hv => ?_⟩
      simp only [List.length_cons, a_wt] at h
      rcases List.mem_cons.mp hv with rfl | hv
      · omega
      · exact ih.2 (by omega) v hv
  exact (key as).2 h
theorem a_crk_ret {ρ : Type} {K : Nat → aLs → List Value → aMem → ρ} {Rt : aOut → aMem → ρ} {N : ρ} {P : aPrg} {rk : Nat} {v : Option Value} {σ' : aMem} {pc : Nat} {L : aLs} {r : List Value} : a_crk K N Rt P rk (some (.inl v, σ')) pc L r = N ∨ a_crk K N Rt P rk (some (.inl v, σ')) pc L r = K pc L (v.toList ++ r) σ' := by
  unfold a_crk
  split
  · unfold a_bi
    split
    · rename_i h; cases h; exact Or.inr rfl
    · rename_i h; cases h
    · exact Or.inl rfl
  · unfold a_bv
    split
    · rename_i h; cases h; exact Or.inr rfl
    · rename_i h; cases h
    · exact Or.inl rfl
  · unfold a_bl
    split
    · rename_i h; cases h; exact Or.inr rfl
    · rename_i h; cases h
    · exact Or.inl rfl
theorem a_crk_thr {ρ : Type} {K : Nat → aLs → List Value → aMem → ρ} {Rt : aOut → aMem → ρ} {N : ρ} {P : aPrg} {rk x : Nat} {σ' : aMem} {pc : Nat} {L : aLs} {r : List Value} : a_crk K N Rt P rk (some (.inr x, σ')) pc L r = a_exc K Rt P L x σ' := by
  unfold a_crk
  split <;> rfl
theorem a_crk_none {ρ : Type} {K : Nat → aLs → List Value → aMem → ρ} {Rt : aOut → aMem → ρ} {N : ρ} {P : aPrg} {rk : Nat} {pc : Nat} {L : aLs} {r : List Value} : a_crk K N Rt P rk none pc L r = N := by
  unfold a_crk
  split <;> rfl
/-- no exception is unmade -/
def a_mono (f : aMF) : Prop := ∀ (as : List Value) (σ : aMem) (o : aOut) (σ' : aMem), f as σ = some (o, σ') → σ.2.2 ≤ σ'.2.2
set_option maxHeartbeats 4000000 in
theorem a_ins_mono {sl : Option Nat} {sh : List aShp} {P : aPrg} (hf : ∀ n f na ci rk, (n, f, na, ci, rk) ∈ a_cals P → ∀ (as : List Value) (σ : aMem) (o : aOut) (σ' : aMem), f as σ = some (o, σ') → a_wt as ≤ as.length → σ.2.2 ≤ σ'.2.2) (i : Instr) (imm : Int32) (tgt : Nat) (sw : List (Int32 × Nat)) (pc : Nat) (L : aLs) (st : List Value) (σ : aMem) :
    a_ins (fun _ _ _ τ => σ.2.2 ≤ τ.2.2) True (fun _ τ => σ.2.2 ≤ τ.2.2) sl sh P i imm tgt sw pc L st σ := by
  have hr : ∀ τ : aMem, σ.2.2 ≤ τ.2.2 → ∀ x, a_exc (fun _ _ _ τ => σ.2.2 ≤ τ.2.2) (fun _ τ => σ.2.2 ≤ τ.2.2) P L x τ := by
    intro τ h x
    unfold a_exc
    split <;> exact h
  have hcall : ∀ virt n pc, a_call (fun _ _ _ τ => σ.2.2 ≤ τ.2.2) True (fun _ τ => σ.2.2 ≤ τ.2.2) sh P virt n pc L st σ := by
    intro virt n pc
    unfold a_call
    split
    · trivial
    · rename_i f na ci rk hfl
      split
      · trivial
      · rename_i as r hta
        obtain ⟨e1, e2⟩ := a_take_eq hta
        split
        · trivial
        · rename_i hb9
          simp only [Bool.and_eq_true] at hb9
          have hw := Nat.le_of_ble_eq_true hb9.2.1
          rw [← e2] at hw
          have hm := hf n f na ci rk (a_lk_mem hfl) as σ
          generalize f as σ = o at hm
          match o, hm with
          | none, _ => rw [a_crk_none]; trivial
          | some (.inl v, τ), hm =>
            rcases a_crk_ret (K := fun _ _ _ (τ : aMem) => σ.2.2 ≤ τ.2.2) (Rt := fun _ (τ : aMem) => σ.2.2 ≤ τ.2.2) (N := True) (P := P) (rk := rk) (v := v) (σ' := τ) (pc := pc) (L := L) (r := r) with h | h
            · rw [h]; trivial
            · rw [h]; exact hm _ _ rfl hw
          | some (.inr x, τ), hm => rw [a_crk_thr]; exact hr τ (hm _ _ rfl hw) x
  cases i <;> unfold a_ins <;> simp only
  all_goals first
    | exact Nat.le_refl _
    | trivial
    | exact hcall ..
    | (unfold a_ts; split <;> first | trivial | (rename_i x r; rcases a_sw_spec (fun _ => σ.2.2 ≤ σ.2.2) x tgt sw with ⟨q1, -⟩ | ⟨j, q, -, -, q3⟩ <;> first | (rw [q1]; exact Nat.le_refl _) | (rw [q3]; exact Nat.le_refl _)))
    | (unfold a_if; split <;> first | trivial | (unfold a_br; split <;> split <;> exact Nat.le_refl _))
    | (unfold a_ic; split <;> first | trivial | (unfold a_br; split <;> split <;> exact Nat.le_refl _))
    | (unfold a_ild; split <;> first | trivial | exact Nat.le_refl _)
    | (unfold a_lld; split <;> first | trivial | exact Nat.le_refl _)
    | (unfold a_ald; split <;> first | trivial | exact Nat.le_refl _)
    | (unfold a_ist; split <;> first | trivial | (split <;> first | trivial | exact Nat.le_refl _))
    | (unfold a_ast; split <;> first | trivial | (split <;> first | trivial | exact Nat.le_refl _))
    | (unfold a_lst; split <;> first | trivial | (split <;> first | trivial | exact Nat.le_refl _))
    | (unfold a_inc; split <;> first | trivial | exact Nat.le_refl _)
    | (unfold a_bin; split <;> first | trivial | exact Nat.le_refl _)
    | (unfold a_dv; split <;> first | trivial | (split <;> first | trivial | exact Nat.le_refl _))
    | (unfold a_lbin; split <;> first | trivial | exact Nat.le_refl _)
    | (unfold a_un; split <;> first | trivial | exact Nat.le_refl _)
    | (unfold a_lcm; split <;> first | trivial | exact Nat.le_refl _)
    | (unfold a_lsh; split <;> first | trivial | exact Nat.le_refl _)
    | (unfold a_dup; split <;> first | trivial | exact Nat.le_refl _)
    | (unfold a_pop; split <;> first | trivial | exact Nat.le_refl _)
    | (unfold a_dup2; split <;> first | trivial | exact Nat.le_refl _)
    | (unfold a_ial; split <;> first | trivial | (split <;> first | trivial | (split <;> first | trivial | exact Nat.le_refl _ | (split <;> first | trivial | exact Nat.le_refl _))))
    | (unfold a_bal; split <;> first | trivial | (split <;> first | trivial | (split <;> first | trivial | exact Nat.le_refl _)))
    | (unfold a_lal; split <;> first | trivial | (split <;> first | trivial | (split <;> first | trivial | exact Nat.le_refl _)))
    | (unfold a_ias; split <;> first | trivial | (split <;> first | trivial | (split <;> first | trivial | exact Nat.le_refl _)))
    | (unfold a_bas; split <;> first | trivial | (split <;> first | trivial | (split <;> first | trivial | exact Nat.le_refl _)))
    | (unfold a_las; split <;> first | trivial | (split <;> first | trivial | (split <;> first | trivial | exact Nat.le_refl _)))
    | (unfold a_len; split <;> first | trivial | (split <;> first | trivial | (split <;> first | trivial | exact Nat.le_refl _)))
    | (unfold a_gf; split <;> first | trivial | (split <;> first | trivial | (split <;> first | trivial | exact Nat.le_refl _)))
    | (unfold a_pf; split <;> first | trivial | (split <;> first | trivial | (split <;> first | trivial | exact Nat.le_refl _ | (split <;> first | trivial | exact Nat.le_refl _))))
    | (unfold a_ldc; split <;> first | trivial | exact Nat.le_refl _)
    | (unfold a_ldw; split <;> first | trivial | exact Nat.le_refl _)
    | (unfold a_ld2; split <;> first | trivial | exact Nat.le_refl _)
    | (unfold a_rti; split <;> first | trivial | (split <;> first | trivial | exact Nat.le_refl _ | (split <;> first | trivial | exact Nat.le_refl _)))
    | (unfold a_rtv; split <;> first | trivial | (split <;> first | trivial | exact Nat.le_refl _))
    | (unfold a_rtl; split <;> first | trivial | (split <;> first | trivial | exact Nat.le_refl _))
    | (unfold a_th; split <;> first | trivial | (split <;> first | trivial | exact Nat.le_succ _))
theorem a_run_mono {sl : Option Nat} {sh : List aShp} {P : aPrg} (hf : ∀ n f na ci rk, (n, f, na, ci, rk) ∈ a_cals P → ∀ (as : List Value) (σ : aMem) (o : aOut) (σ' : aMem), f as σ = some (o, σ') → a_wt as ≤ as.length → σ.2.2 ≤ σ'.2.2) :
    ∀ (n : Nat) (pc : Nat) (L : aLs) (st : List Value) (σ : aMem) (r : aRes), a_runN sl sh P n pc L st σ = some r → σ.2.2 ≤ r.2.2.2
  | 0, _, _, _, _, _, h => by simp [a_runN] at h
  | n + 1, pc, L, st, σ, r, h => by
    unfold a_runN at h
    rw [a_sem_nat] at h
    have key : a_sem (fun _ _ _ (τ : aMem) => σ.2.2 ≤ τ.2.2) True (fun _ (τ : aMem) => σ.2.2 ≤ τ.2.2) sl sh P pc L st σ := by
      unfold a_sem
      split
      · trivial
      · exact a_ins_mono hf ..
    rw [a_sem_nat] at key
    generalize a_stp sl sh P pc L st σ = x at h key
    match x, h, key with
    | none, h, _ => cases h
    | some (.inl (pc', L', st', σ')), h, key => exact Nat.le_trans key (a_run_mono hf n pc' (a_mk P pc' L') st' σ' r h)
    | some (.inr (o, σ')), h, key => cases h; exact key
