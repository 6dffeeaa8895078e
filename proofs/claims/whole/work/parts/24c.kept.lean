/-! ===== the script stays, and what a function may throw ===== -/
def a_kp (S : List Nat) (f : aMF) : Prop := ∀ (as : List Value) (σ : aMem) (o : aOut) (σ' : aMem), f as σ = some (o, σ') → σ'.1 900 = σ.1 900 ∧ ∀ x, o = .inr x → x ∈ S
theorem a_kpm {S T : List Nat} {f : aMF} (h : a_kp S f) (hs : ∀ x ∈ S, x ∈ T) : a_kp T f := fun as σ o σ' e => ⟨(h as σ o σ' e).1, fun x hx => hs x ((h as σ o σ' e).2 x hx)⟩
theorem a_kps {sh : List aShp} {σ : aMem} {k j : Nat} {x : Int32} {q : aShp} (hN : sh.length ≤ 900) (h : sh[k]? = some q) : (a_si σ k j x).1 900 = σ.1 900 := by
  refine a_si_ne (fun e => ?_)
  have := (List.getElem?_eq_some_iff.mp h).1
  omega
set_option maxHeartbeats 4000000 in
theorem a_ins_kp {sl : Option Nat} {sh : List aShp} {P : aPrg} {S : List Nat} (hN : sh.length ≤ 900) (hf : ∀ n f na ci rk, (n, f, na, ci, rk) ∈ a_cals P → a_kp S f) (ht : ∀ pc x, (pc, x) ∈ a_thr P → x ∈ S) (i : Instr) (imm : Int32) (tgt : Nat) (sw : List (Int32 × Nat)) (pc : Nat) (L : aLs) (st : List Value) (σ : aMem) :
    a_ins (fun _ _ _ τ => τ.1 900 = σ.1 900) True (fun o τ => τ.1 900 = σ.1 900 ∧ ∀ x, o = .inr x → x ∈ S) sl sh P i imm tgt sw pc L st σ := by
  have hr : ∀ τ : aMem, τ.1 900 = σ.1 900 → ∀ x, x ∈ S → a_exc (fun _ _ _ τ => τ.1 900 = σ.1 900) (fun o τ => τ.1 900 = σ.1 900 ∧ ∀ x, o = .inr x → x ∈ S) P L x τ := by
    intro τ h x hx
    unfold a_exc
    split
    · exact h
    · exact ⟨h, fun y e => by cases e; exact hx⟩
  have hcall : ∀ virt n pc, a_call (fun _ _ _ τ => τ.1 900 = σ.1 900) True (fun o τ => τ.1 900 = σ.1 900 ∧ ∀ x, o = .inr x → x ∈ S) sh P virt n pc L st σ := by
    intro virt n pc
    unfold a_call
    split
    · trivial
    · rename_i f na ci rk hfl
      split
      · trivial
      · rename_i as r hta
        split
        · trivial
        · have hm := hf n f na ci rk (a_lk_mem hfl) as σ
          generalize f as σ = o at hm
          match o, hm with
          | none, _ => rw [a_crk_none]; trivial
          | some (.inl v, τ), hm =>
            rcases a_crk_ret (K := fun _ _ _ (τ : aMem) => τ.1 900 = σ.1 900) (Rt := fun (o : aOut) (τ : aMem) => τ.1 900 = σ.1 900 ∧ ∀ x, o = .inr x → x ∈ S) (N := True) (P := P) (rk := rk) (v := v) (σ' := τ) (pc := pc) (L := L) (r := r) with h | h
            · rw [h]; trivial
            · rw [h]; exact (hm _ _ rfl).1
          | some (.inr x, τ), hm => rw [a_crk_thr]; exact hr τ (hm _ _ rfl).1 x ((hm _ _ rfl).2 x rfl)
  cases i <;> unfold a_ins <;> simp only
  all_goals first
    | trivial
    | exact hcall ..
    | (unfold a_ts; split <;> first | trivial | (rename_i x r; rcases a_sw_spec (fun _ => σ.1 900 = σ.1 900) x tgt sw with ⟨q1, -⟩ | ⟨j, q, -, -, q3⟩ <;> first | (rw [q1]; done) | (rw [q3]; done) | (rw [q1]; rfl) | (rw [q3]; rfl)))
    | (unfold a_if; split <;> first | trivial | (unfold a_br; split <;> split <;> rfl))
    | (unfold a_ic; split <;> first | trivial | (unfold a_br; split <;> split <;> rfl))
    | (unfold a_ild; split <;> first | trivial | rfl)
    | (unfold a_lld; split <;> first | trivial | rfl)
    | (unfold a_ald; split <;> first | trivial | rfl)
    | (unfold a_ist; split <;> first | trivial | (split <;> first | trivial | rfl))
    | (unfold a_ast; split <;> first | trivial | (split <;> first | trivial | rfl))
    | (unfold a_lst; split <;> first | trivial | (split <;> first | trivial | rfl))
    | (unfold a_inc; split <;> first | trivial | rfl)
    | (unfold a_bin; split <;> first | trivial | rfl)
    | (unfold a_dv; split <;> first | trivial | (split <;> first | trivial | rfl))
    | (unfold a_lbin; split <;> first | trivial | rfl)
    | (unfold a_un; split <;> first | trivial | rfl)
    | (unfold a_lcm; split <;> first | trivial | rfl)
    | (unfold a_lsh; split <;> first | trivial | rfl)
    | (unfold a_dup; split <;> first | trivial | rfl)
    | (unfold a_pop; split <;> first | trivial | rfl)
    | (unfold a_dup2; split <;> first | trivial | rfl)
    | (unfold a_ial; split <;> first | trivial | (split <;> first | trivial | (split <;> first | trivial | rfl | (split <;> first | trivial | rfl))))
    | (unfold a_bal; split <;> first | trivial | (split <;> first | trivial | (split <;> first | trivial | rfl)))
    | (unfold a_lal; split <;> first | trivial | (split <;> first | trivial | (split <;> first | trivial | rfl)))
    | (unfold a_ias; split <;> first | trivial | (split <;> first | trivial | (split <;> first | trivial | exact a_kps hN ‹sh[_]? = some _›)))
    | (unfold a_bas; split <;> first | trivial | (split <;> first | trivial | (split <;> first | trivial | exact a_kps hN ‹sh[_]? = some _›)))
    | (unfold a_las; split <;> first | trivial | (split <;> first | trivial | (split <;> first | trivial | rfl)))
    | (unfold a_len; split <;> first | trivial | (split <;> first | trivial | (split <;> first | trivial | rfl)))
    | (unfold a_gf; split <;> first | trivial | (split <;> first | trivial | (split <;> first | trivial | rfl)))
    | (unfold a_pf; split <;> first | trivial | (split <;> first | trivial | (split <;> first | trivial | exact a_kps hN ‹sh[_]? = some _› | rfl | (split <;> first | trivial | exact a_kps hN ‹sh[_]? = some _›))))
    | (unfold a_ldc; split <;> first | trivial | rfl)
    | (unfold a_ldw; split <;> first | trivial | rfl)
    | (unfold a_ld2; split <;> first | trivial | rfl)
    | (unfold a_rti; split <;> first | trivial | (split <;> first | trivial | exact ⟨rfl, fun _ h => nomatch h⟩ | (split <;> first | trivial | exact ⟨rfl, fun _ h => nomatch h⟩)))
    | (unfold a_rtv; split <;> first | trivial | (split <;> first | trivial | exact ⟨rfl, fun _ h => nomatch h⟩))
    | (unfold a_rtl; split <;> first | trivial | (split <;> first | trivial | exact ⟨rfl, fun _ h => nomatch h⟩))
    | (unfold a_th; split <;> first | trivial | (split <;> first | trivial | exact ⟨rfl, fun y e => by cases e; exact ht _ _ (a_lk_mem ‹a_lk (a_thr P) _ = some _›)⟩))
    | rfl
theorem a_run_kp {sl : Option Nat} {sh : List aShp} {P : aPrg} {S : List Nat} (hN : sh.length ≤ 900) (hf : ∀ n f na ci rk, (n, f, na, ci, rk) ∈ a_cals P → a_kp S f) (ht : ∀ pc x, (pc, x) ∈ a_thr P → x ∈ S) :
    ∀ (n : Nat) (pc : Nat) (L : aLs) (st : List Value) (σ : aMem) (r : aRes), a_runN sl sh P n pc L st σ = some r → r.2.1 900 = σ.1 900 ∧ ∀ x, r.1 = .inr x → x ∈ S
  | 0, _, _, _, _, _, h => by simp [a_runN] at h
  | n + 1, pc, L, st, σ, r, h => by
    unfold a_runN at h
    rw [a_sem_nat] at h
    have key : a_sem (fun _ _ _ (τ : aMem) => τ.1 900 = σ.1 900) True (fun (o : aOut) (τ : aMem) => τ.1 900 = σ.1 900 ∧ ∀ x, o = .inr x → x ∈ S) sl sh P pc L st σ := by
      unfold a_sem
      split
      · trivial
      · exact a_ins_kp hN hf ht ..
    rw [a_sem_nat] at key
    generalize a_stp sl sh P pc L st σ = x at h key
    match x, h, key with
    | none, h, _ => cases h
    | some (.inl (pc', L', st', σ')), h, key =>
      have := a_run_kp hN hf ht n pc' (a_mk P pc' L') st' σ' r h
      exact ⟨this.1.trans key, this.2⟩
    | some (.inr (o, σ')), h, key => cases h; exact key
theorem a_fn_kp {sl : Option Nat} {P : aPrg} {nL na : Nat} {S : List Nat} (hf : a_all (fun q => a_kp S q.2.1) (a_cals P)) (ht : a_all (fun q => q.2 ∈ S) (a_thr P)) : a_kp S (a_fn sl shp P nL na) := by
  intro as σ o σ' h
  unfold a_fn at h
  split at h
  · obtain ⟨N, hN⟩ := a_run_to h
    exact a_run_kp shp_len (fun n f na ci rk hm => a_all_mem hf (n, f, na, ci, rk) hm) (fun pc x hm => a_all_mem ht (pc, x) hm) N _ _ _ _ _ hN
  · cases h
theorem kp_acp : a_kp [] a_acp := by
  intro as σ o σ' h
  unfold a_acp at h
  split at h
  · split at h
    · rename_i n0 n1 ha hb
      split at h
      · cases h
        refine ⟨?_, fun _ h => nomatch h⟩
        have := (List.getElem?_eq_some_iff.mp hb).1
        have h9 := shp_len
        show va_up σ.1 _ _ 900 = _
        unfold va_up
        rw [if_neg (by omega)]
      · cases h
    · cases h
  · cases h
theorem kp_slen : a_kp [] a_slen := by
  intro as σ o σ' h
  unfold a_slen at h
  split at h
  · split at h
    · cases h; exact ⟨rfl, fun _ h => nomatch h⟩
    · cases h
  · cases h
theorem kp_schr : a_kp [] a_schr := by
  intro as σ o σ' h
  unfold a_schr at h
  split at h
  · split at h
    · cases h; exact ⟨rfl, fun _ h => nomatch h⟩
    · cases h
  · cases h
