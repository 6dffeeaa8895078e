/-! ===== naturality of one instruction, runs, unfolding ===== -/
abbrev a_k0 : Nat → aLs → List Value → aMem → Option (aSt ⊕ aRes) := fun pc L st σ => some (.inl (pc, L, st, σ))
abbrev a_r0 : aOut → aMem → Option (aSt ⊕ aRes) := fun o σ => some (.inr (o, σ))
section AN
variable {ρ : Type} (K : Nat → aLs → List Value → aMem → ρ) (N : ρ) (Rt : aOut → aMem → ρ)
theorem a_sw_nat (L : aLs) (r : List Value) (σ : aMem) (x : Int32) (d : Nat) : ∀ sw : List (Int32 × Nat), a_sw (fun t => K t L r σ) x d sw = a_el K N Rt (a_sw (fun t => a_k0 t L r σ) x d sw)
  | [] => rfl
  | q :: t => by
    unfold a_sw
    split
    · rfl
    · exact a_sw_nat L r σ x d t
theorem a_br_nat (c : ClassFile.Cond) (x y : Int32) (a b : Option (aSt ⊕ aRes)) : a_br c x y (a_el K N Rt a) (a_el K N Rt b) = a_el K N Rt (a_br c x y a b) := by
  cases c <;> unfold a_br <;> simp only <;> split <;> rfl
theorem a_exc_nat (P : aPrg) (L : aLs) (x : Nat) (σ : aMem) : a_exc K Rt P L x σ = a_el K N Rt (a_exc a_k0 a_r0 P L x σ) := by
  unfold a_exc; split <;> rfl
theorem a_call_nat (sh : List aShp) (P : aPrg) (v : Bool) (n pc : Nat) (L : aLs) (st : List Value) (σ : aMem) : a_call K N Rt sh P v n pc L st σ = a_el K N Rt (a_call a_k0 none a_r0 sh P v n pc L st σ) := by
  unfold a_call
  split
  · rfl
  · split
    · rfl
    · split
      · rfl
      · unfold a_crk
        split
        · unfold a_bi; split
          · rfl
          · exact a_exc_nat ..
          · rfl
        · unfold a_bv; split
          · rfl
          · exact a_exc_nat ..
          · rfl
        · unfold a_bl; split
          · rfl
          · exact a_exc_nat ..
          · rfl
set_option maxHeartbeats 4000000 in
theorem a_ins_nat (sl : Option Nat) (sh : List aShp) (P : aPrg) (i : Instr) (imm : Int32) (tgt : Nat) (sw : List (Int32 × Nat)) (pc : Nat) (L : aLs) (st : List Value) (σ : aMem) :
    a_ins K N Rt sl sh P i imm tgt sw pc L st σ = a_el K N Rt (a_ins a_k0 none a_r0 sl sh P i imm tgt sw pc L st σ) := by
  cases i <;> unfold a_ins <;> simp only
  all_goals first
    | rfl
    | exact a_call_nat ..
    | (unfold a_ts; split <;> first | rfl | exact a_sw_nat ..)
    | (unfold a_if; split <;> first | rfl | exact a_br_nat K N Rt _ _ _ (some (.inl (_, _, _, _))) (some (.inl (_, _, _, _))))
    | (unfold a_ic; split <;> first | rfl | exact a_br_nat K N Rt _ _ _ (some (.inl (_, _, _, _))) (some (.inl (_, _, _, _))))
    | (unfold a_ild; split <;> rfl)
    | (unfold a_lld; split <;> rfl)
    | (unfold a_ald; split <;> rfl)
    | (unfold a_ist; split <;> first | rfl | (split <;> rfl))
    | (unfold a_ast; split <;> first | rfl | (split <;> rfl))
    | (unfold a_lst; split <;> first | rfl | (split <;> rfl))
    | (unfold a_inc; split <;> rfl)
    | (unfold a_bin; split <;> rfl)
    | (unfold a_dv; split <;> first | rfl | (split <;> rfl))
    | (unfold a_lbin; split <;> rfl)
    | (unfold a_un; split <;> rfl)
    | (unfold a_lcm; split <;> rfl)
    | (unfold a_lsh; split <;> rfl)
    | (unfold a_dup; split <;> rfl)
    | (unfold a_pop; split <;> rfl)
    | (unfold a_dup2; split <;> rfl)
    | (unfold a_ial; split <;> first | rfl | (split <;> first | rfl | (split <;> first | rfl | (split <;> rfl))))
    | (unfold a_bal; split <;> first | rfl | (split <;> first | rfl | (split <;> rfl)))
    | (unfold a_lal; split <;> first | rfl | (split <;> first | rfl | (split <;> rfl)))
    | (unfold a_ias; split <;> first | rfl | (split <;> first | rfl | (split <;> rfl)))
    | (unfold a_bas; split <;> first | rfl | (split <;> first | rfl | (split <;> rfl)))
    | (unfold a_las; split <;> first | rfl | (split <;> first | rfl | (split <;> rfl)))
    | (unfold a_len; split <;> first | rfl | (split <;> first | rfl | (split <;> rfl)))
    | (unfold a_gf; split <;> first | rfl | (split <;> first | rfl | (split <;> rfl)))
    | (unfold a_pf; split <;> first | rfl | (split <;> first | rfl | (split <;> first | rfl | (split <;> rfl))))
    | (unfold a_ldc; split <;> rfl)
    | (unfold a_ldw; split <;> rfl)
    | (unfold a_ld2; split <;> rfl)
    | (unfold a_rti; split <;> first | rfl | (split <;> first | rfl | (split <;> rfl)))
    | (unfold a_rtv; split <;> first | rfl | (split <;> rfl))
    | (unfold a_rtl; split <;> first | rfl | (split <;> rfl))
    | (unfold a_th; split <;> first | rfl | (split <;> rfl))
theorem a_sem_nat (sl : Option Nat) (sh : List aShp) (P : aPrg) (pc : Nat) (L : aLs) (st : List Value) (σ : aMem) :
    a_sem K N Rt sl sh P pc L st σ = a_el K N Rt (a_stp sl sh P pc L st σ) := by
  unfold a_stp a_sem
  split
  · rfl
  · exact a_ins_nat ..
end AN
abbrev a_rs : aOut → aMem → Option aRes := fun o σ => some (o, σ)
def a_runN (sl : Option Nat) (sh : List aShp) (P : aPrg) : Nat → Nat → aLs → List Value → aMem → Option aRes
  | 0 => fun _ _ _ _ => none
  | n + 1 => a_sem (fun pc L st σ => a_runN sl sh P n pc (a_mk P pc L) st σ) none a_rs sl sh P
noncomputable def a_run (sl : Option Nat) (sh : List aShp) (P : aPrg) (pc : Nat) (L : aLs) (st : List Value) (σ : aMem) : Option aRes :=
  @dite _ (∃ (r : aRes) (n : Nat), a_runN sl sh P n pc L st σ = some r) (Classical.propDecidable _) (fun h => some h.choose) (fun _ => none)
theorem a_runN_mono (sl : Option Nat) (sh : List aShp) (P : aPrg) : ∀ (n : Nat) (pc : Nat) (L : aLs) (st : List Value) (σ : aMem) (r : aRes), a_runN sl sh P n pc L st σ = some r → a_runN sl sh P (n + 1) pc L st σ = some r
  | 0, _, _, _, _, _, h => by simp [a_runN] at h
  | n + 1, pc, L, st, σ, r, h => by
    unfold a_runN at h ⊢
    rw [a_sem_nat] at h ⊢
    generalize a_stp sl sh P pc L st σ = x at h ⊢
    match x, h with
    | none, h => exact h
    | some (.inl (pc, L, st, σ)), h => exact a_runN_mono sl sh P n _ _ _ _ _ h
    | some (.inr _), h => exact h
theorem a_runN_le {sl : Option Nat} {sh : List aShp} {P : aPrg} {n m : Nat} (h : n ≤ m) {pc : Nat} {L : aLs} {st : List Value} {σ : aMem} {r : aRes} (hr : a_runN sl sh P n pc L st σ = some r) : a_runN sl sh P m pc L st σ = some r := by
  induction h with
  | refl => exact hr
  | step _ ih => exact a_runN_mono _ _ _ _ _ _ _ _ _ ih
theorem a_run_of {sl : Option Nat} {sh : List aShp} {P : aPrg} {n : Nat} {pc : Nat} {L : aLs} {st : List Value} {σ : aMem} {r : aRes} (hr : a_runN sl sh P n pc L st σ = some r) : a_run sl sh P pc L st σ = some r := by
  have h : ∃ (r : aRes) (n : Nat), a_runN sl sh P n pc L st σ = some r := ⟨r, n, hr⟩
  unfold a_run
  rw [dif_pos h]
  obtain ⟨m, hm⟩ := h.choose_spec
  have h1 := a_runN_le (Nat.le_max_left n m) hr
  have h2 := a_runN_le (Nat.le_max_right n m) hm
  exact h2.symm.trans h1
theorem a_run_to {sl : Option Nat} {sh : List aShp} {P : aPrg} {pc : Nat} {L : aLs} {st : List Value} {σ : aMem} {r : aRes} (h : a_run sl sh P pc L st σ = some r) : ∃ n, a_runN sl sh P n pc L st σ = some r := by
  unfold a_run at h
  split at h
  · rename_i hx
    cases h
    exact hx.choose_spec
  · cases h
theorem a_run_eq (sl : Option Nat) (sh : List aShp) (P : aPrg) (pc : Nat) (L : aLs) (st : List Value) (σ : aMem) : a_run sl sh P pc L st σ = a_sem (fun pc L st σ => a_run sl sh P pc (a_mk P pc L) st σ) none a_rs sl sh P pc L st σ := by
  apply Option.ext
  intro r
  constructor
  · intro h
    obtain ⟨n, hn⟩ := a_run_to h
    cases n with
    | zero => simp [a_runN] at hn
    | succ n =>
      unfold a_runN at hn
      rw [a_sem_nat] at hn ⊢
      generalize a_stp sl sh P pc L st σ = x at hn ⊢
      match x, hn with
      | none, h => exact h
      | some (.inl (pc, L, st, σ)), h => exact a_run_of h
      | some (.inr _), h => exact h
  · intro h
    rw [a_sem_nat] at h
    generalize hx : a_stp sl sh P pc L st σ = x at h
    match x, hx, h with
    | none, _, h => cases h
    | some (.inl (pc', L', st', σ')), hx, h =>
      obtain ⟨n, hn⟩ := a_run_to h
      refine a_run_of (n := n + 1) ?_
      unfold a_runN
      rw [a_sem_nat, hx]
      exact hn
    | some (.inr (o, σ')), hx, h =>
      refine a_run_of (n := 1) ?_
      unfold a_runN
      rw [a_sem_nat, hx]
      exact h
def a_in : List Nat → Nat → Bool
  | [], _ => false
  | a :: t, n => match Nat.beq a n with
    | true => true
    | false => a_in t n
/-- up to n instructions at once, stopping at the cuts -/
noncomputable def a_ev (sl : Option Nat) (sh : List aShp) (P : aPrg) (cut : List Nat) : Nat → Nat → aLs → List Value → aMem → Option aRes
  | 0 => a_run sl sh P
  | n + 1 => a_sem (fun pc L st σ => match a_in cut pc with
      | true => a_run sl sh P pc (a_mk P pc L) st σ
      | false => a_ev sl sh P cut n pc (a_mk P pc L) st σ) none a_rs sl sh P
theorem a_ev_eq (sl : Option Nat) (sh : List aShp) (P : aPrg) (cut : List Nat) : ∀ (n : Nat) (pc : Nat) (L : aLs) (st : List Value) (σ : aMem), a_run sl sh P pc L st σ = a_ev sl sh P cut n pc L st σ
  | 0, _, _, _, _ => rfl
  | n + 1, pc, L, st, σ => by
    rw [a_run_eq]
    unfold a_ev
    have h : (fun pc L st σ => a_run sl sh P pc (a_mk P pc L) st σ) = (fun pc L st σ => match a_in cut pc with
      | true => a_run sl sh P pc (a_mk P pc L) st σ
      | false => a_ev sl sh P cut n pc (a_mk P pc L) st σ) := by
      funext pc L st σ
      split
      · rfl
      · exact a_ev_eq sl sh P cut n pc (a_mk P pc L) st σ
    rw [← h]
