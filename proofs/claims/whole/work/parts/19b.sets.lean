/-! ===== events: sets of them ===== -/
def er (em : Nat → Int32) (k : Nat) : Nat := (em k).toNatClampNeg / 144
def el (em : Nat → Int32) (k : Nat) : Nat := (em k).toNatClampNeg / 12 % 12
def et (em : Nat → Int32) (k : Nat) : Nat := (em k).toNatClampNeg % 12
theorem ev_ok {nb nr ne k : Nat} {ev em : Nat → Int32} (h : evs nb nr ne ev em) (hnb : nb ≤ 12) (hnr : nr ≤ 5) (hk : k < ne) : er em k < nr ∧ el em k < nb ∧ et em k < nb ∧ el em k ≠ et em k ∧ ev (3 * k) = nI (er em k) ∧ ev (3 * k + 1) = nI (el em k) ∧ ev (3 * k + 2) = nI (et em k) ∧ em k = nI (144 * er em k + 12 * el em k + et em k) := by
  obtain ⟨r, l, t, h1, h2, h3, h4, h5, h6, h7, h8⟩ := h k hk
  have e0 : (em k).toNatClampNeg = 144 * r + 12 * l + t := by rw [h8, k_cl (by omega)]
  have e1 : er em k = r := by unfold er; rw [e0]; omega
  have e2 : el em k = l := by unfold el; rw [e0]; omega
  have e3 : et em k = t := by unfold et; rw [e0]; omega
  rw [e1, e2, e3]
  exact ⟨h1, h2, h3, h4, h5, h6, h7, h8⟩
def xm (em : Nat → Int32) (k r : Nat) : Nat := if r = er em k ∨ r = 5 then 2 ^ el em k ||| 2 ^ et em k else 0
def xs (em : Nat → Int32) (S : Nat) : Nat → Nat → Nat
  | 0, _ => 0
  | n + 1, r => xs em S n r ^^^ (if S.testBit n = true then xm em n r else 0)
def xg (em : Nat → Int32) (x0 : Nat → Nat) (ne S r : Nat) : Nat := x0 r ^^^ xs em S ne r
theorem xtr_m (em : Nat → Int32) (x : Nat → Nat) (k r : Nat) : xtr x (er em k) 5 (el em k) (et em k) r = x r ^^^ xm em k r := by
  unfold xtr xm
  split
  · rfl
  · rw [Nat.xor_zero]
theorem xs_cg {em : Nat → Int32} {S T : Nat} {r : Nat} : ∀ {n : Nat}, (∀ k, k < n → S.testBit k = T.testBit k) → xs em S n r = xs em T n r
  | 0, _ => rfl
  | n + 1, h => by
    unfold xs
    rw [xs_cg (fun k hk => h k (by omega)), h n (by omega)]
theorem xs_add {em : Nat → Int32} {S k r : Nat} (h : S.testBit k = false) : ∀ n, k < n → xs em (S ||| 2 ^ k) n r = xs em S n r ^^^ xm em k r
  | 0, hk => absurd hk (Nat.not_lt_zero k)
  | n + 1, hk => by
    unfold xs
    rw [Nat.testBit_or, pow_bit]
    by_cases e : k = n
    · subst e
      rw [h, xs_cg (S := S ||| 2 ^ k) (T := S) (fun b hb => by
        rw [Nat.testBit_or, pow_bit]
        have : ¬ k = b := by omega
        simp [this])]
      simp
    · rw [xs_add h n (by omega)]
      simp only [e, decide_false, Bool.or_false]
      rw [Nat.xor_assoc, Nat.xor_assoc, Nat.xor_comm (xm em k r)]
theorem xg_add {em : Nat → Int32} {x0 : Nat → Nat} {ne S k r : Nat} (h : S.testBit k = false) (hk : k < ne) : xg em x0 ne (S ||| 2 ^ k) r = xg em x0 ne S r ^^^ xm em k r := by
  unfold xg
  rw [xs_add h ne hk, Nat.xor_assoc]
theorem xg_0 (em : Nat → Int32) (x0 : Nat → Nat) (ne r : Nat) : xg em x0 ne 0 r = x0 r := by
  unfold xg
  have : ∀ n, xs em 0 n r = 0 := by
    intro n
    induction n with
    | zero => rfl
    | succ n ih => simp [xs, ih]
  rw [this, Nat.xor_zero]
/-- whether an event can follow a set -/
def cF (em pg : Nat → Int32) (x0 : Nat → Nat) (ne S k : Nat) : Bool := decide (trx (xg em x0 ne S) pg (er em k) (el em k) (et em k) = 0)
/-- orders of a set: by its last one -/
def bf (cf : Nat → Nat → Bool) (ne : Nat) : Nat → Nat → Nat
  | 0, S => if S = 0 then 1 else 0
  | f + 1, S => if S = 0 then 1 else sm (fun k => if (S.testBit k && cf (S ^^^ 2 ^ k) k) = true then bf cf ne f (S ^^^ 2 ^ k) else 0) ne
theorem xr_lt {S k : Nat} (h : S.testBit k = true) : S ^^^ 2 ^ k < S := by
  have h2 : S = (S ^^^ 2 ^ k) ||| 2 ^ k := by
    rw [or_xor (by rw [xor_self_bit, h]; rfl), xor_xor]
  have h3 : S ^^^ 2 ^ k ≤ S := by
    conv => rhs; rw [h2]
    exact Nat.left_le_or
  rcases Nat.lt_or_ge (S ^^^ 2 ^ k) S with h4 | h4
  · exact h4
  · exfalso
    have e : S ^^^ 2 ^ k = S := Nat.le_antisymm h3 h4
    have := xor_self_bit S k
    rw [e, h] at this
    cases this
theorem bf_st (cf : Nat → Nat → Bool) (ne : Nat) : ∀ f S, S ≤ f → bf cf ne (f + 1) S = bf cf ne f S
  | 0, S, h => by
    have : S = 0 := by omega
    subst this
    rfl
  | f + 1, S, h => by
    by_cases e : S = 0
    · subst e; simp [bf]
    · unfold bf
      rw [if_neg e, if_neg e]
      apply sm_cg
      intro k _
      cases h1 : S.testBit k
      · simp
      · have := xr_lt h1
        rw [bf_st cf ne f (S ^^^ 2 ^ k) (by omega)]
def BF (cf : Nat → Nat → Bool) (ne S : Nat) : Nat := bf cf ne 256 S
theorem BF_0 (cf : Nat → Nat → Bool) (ne : Nat) : BF cf ne 0 = 1 := by simp [BF, bf]
theorem BF_st {cf : Nat → Nat → Bool} {ne S : Nat} (hS : S < 256) (h0 : S ≠ 0) : BF cf ne S = sm (fun k => if (S.testBit k && cf (S ^^^ 2 ^ k) k) = true then BF cf ne (S ^^^ 2 ^ k) else 0) ne := by
  unfold BF
  rw [← bf_st cf ne 256 S (by omega)]
  show (if S = 0 then 1 else _) = _
  rw [if_neg h0]
theorem BF_le {cf : Nat → Nat → Bool} {ne : Nat} (hne : ne ≤ 8) : ∀ p S, S < 2 ^ ne → pcN 8 S = p → BF cf ne S ≤ 8 ^ p
  | 0, S, hS, hp => by
    by_cases e : S = 0
    · subst e; rw [BF_0]; simp
    · exfalso
      have h8 : S < 2 ^ 8 := Nat.lt_of_lt_of_le hS (Nat.pow_le_pow_right (by decide) hne)
      apply e
      apply Nat.eq_of_testBit_eq
      intro b
      rw [Nat.zero_testBit]
      by_cases hb : b < 8
      · cases h : S.testBit b
        · rfl
        · exfalso
          have h1 : (S ^^^ 2 ^ b).testBit b = false := by rw [xor_self_bit, h]; rfl
          have h2 := pcN_xor h1 8 hb
          rw [or_xor h1, xor_xor] at h2
          omega
      · exact set_hi h8 (by omega)
  | p + 1, S, hS, hp => by
    have h8 : S < 2 ^ 8 := Nat.lt_of_lt_of_le hS (Nat.pow_le_pow_right (by decide) hne)
    have h0 : S ≠ 0 := by
      intro e
      subst e
      rw [show pcN 8 0 = 0 by decide] at hp
      omega
    rw [BF_st h8 h0]
    have h1 : ∀ k, k < ne → (if (S.testBit k && cf (S ^^^ 2 ^ k) k) = true then BF cf ne (S ^^^ 2 ^ k) else 0) ≤ 8 ^ p := by
      intro k hk
      split
      · rename_i h
        rw [Bool.and_eq_true] at h
        have h1 : (S ^^^ 2 ^ k).testBit k = false := by rw [xor_self_bit, h.1]; rfl
        have h2 := pcN_xor h1 8 (by omega)
        rw [or_xor h1, xor_xor] at h2
        exact BF_le hne p _ (Nat.lt_trans (xr_lt h.1) hS) (by omega)
      · exact Nat.zero_le _
    have h2 := sm_le h1
    have h3 : ne * 8 ^ p ≤ 8 * 8 ^ p := Nat.mul_le_mul_right _ hne
    rw [Nat.pow_succ, Nat.mul_comm]
    omega
theorem BF_lt {cf : Nat → Nat → Bool} {ne S : Nat} (hne : ne ≤ 8) (hS : S < 2 ^ ne) : BF cf ne S ≤ 16777216 := by
  have h := BF_le (cf := cf) hne _ S hS rfl
  have h2 := pcN_le S 8
  have h3 : 8 ^ pcN 8 S ≤ 8 ^ 8 := Nat.pow_le_pow_right (by decide) h2
  have h4 : 8 ^ 8 = 16777216 := by decide
  omega
/-- the sum over a level, with a weight -/
def lvl (cf : Nat → Nat → Bool) (ne T d : Nat) (C : Nat → Nat) : Nat := sm (fun S => if (S ^^^ (S &&& T) = 0 ∧ pcN 8 S = d) then BF cf ne S * C S else 0) (2 ^ ne)
theorem sub_iff (S T : Nat) : S ^^^ (S &&& T) = 0 ↔ ∀ b, S.testBit b = true → T.testBit b = true := by
  constructor
  · intro h b hb
    have := sub_bit h
    rw [← this, Nat.testBit_and, Bool.and_eq_true] at hb
    exact hb.2
  · exact sub_of
/-- a level's sum is that of the next, the weight by one step more -/
theorem lvl_st {cf : Nat → Nat → Bool} {ne T d : Nat} {C D : Nat → Nat} (hne : ne ≤ 8) (hC : ∀ S, S < 2 ^ ne → S ^^^ (S &&& T) = 0 → pcN 8 S = d → C S = sm (fun k => if (T.testBit k && !S.testBit k && cf S k) = true then D (S ||| 2 ^ k) else 0) ne) : lvl cf ne T d C = lvl cf ne T (d + 1) D := by
  -- both as a double sum
  have h1 : lvl cf ne T d C = sm (fun S => sm (fun k => if S.testBit k = false then (if (((S ||| 2 ^ k) ^^^ ((S ||| 2 ^ k) &&& T) = 0 ∧ pcN 8 (S ||| 2 ^ k) = d + 1) ∧ cf ((S ||| 2 ^ k) ^^^ 2 ^ k) k = true) then BF cf ne ((S ||| 2 ^ k) ^^^ 2 ^ k) * D (S ||| 2 ^ k) else 0) else 0) ne) (2 ^ ne) := by
    unfold lvl
    apply sm_cg
    intro S hS
    by_cases hsub : S ^^^ (S &&& T) = 0 ∧ pcN 8 S = d
    · rw [if_pos hsub, hC S hS hsub.1 hsub.2, ← sm_mul]
      apply sm_cg
      intro k hk
      cases hk2 : S.testBit k
      · simp only [Bool.not_false, Bool.and_true, if_true]
        have hx : (S ||| 2 ^ k) ^^^ 2 ^ k = S := by rw [or_xor hk2, xor_xor]
        rw [hx, pcN_xor hk2 8 (by omega)]
        by_cases ht : T.testBit k = true
        · have hs2 : (S ||| 2 ^ k) ^^^ ((S ||| 2 ^ k) &&& T) = 0 := by
            rw [sub_iff]
            intro b hb
            rw [Nat.testBit_or, pow_bit, Bool.or_eq_true, decide_eq_true_eq] at hb
            rcases hb with hb | hb
            · exact (sub_iff S T).mp hsub.1 b hb
            · rw [← hb]; exact ht
          cases hc : cf S k
          · simp [hc]
          · simp [ht, hs2, hsub.2, hc]
        · have hs2 : ¬ ((S ||| 2 ^ k) ^^^ ((S ||| 2 ^ k) &&& T) = 0) := by
            rw [sub_iff]
            intro h
            exact ht (h k (by rw [Nat.testBit_or, pow_bit]; simp))
          simp [ht, hs2]
      · simp
    · rw [if_neg hsub]
      symm
      apply sm_0
      intro k hk
      cases hk2 : S.testBit k
      · simp only [if_true]
        rw [if_neg]
        rintro ⟨⟨h2, h3⟩, -⟩
        apply hsub
        rw [pcN_xor hk2 8 (by omega)] at h3
        refine ⟨?_, by omega⟩
        rw [sub_iff] at h2 ⊢
        intro b hb
        exact h2 b (by rw [Nat.testBit_or, hb, Bool.true_or])
      · simp
  have h2 : lvl cf ne T (d + 1) D = sm (fun S => sm (fun k => if S.testBit k = true then (if ((S ^^^ (S &&& T) = 0 ∧ pcN 8 S = d + 1) ∧ cf (S ^^^ 2 ^ k) k = true) then BF cf ne (S ^^^ 2 ^ k) * D S else 0) else 0) ne) (2 ^ ne) := by
    unfold lvl
    apply sm_cg
    intro S hS
    have h8 : S < 256 := Nat.lt_of_lt_of_le hS (Nat.pow_le_pow_right (by decide) hne)
    by_cases hsub : S ^^^ (S &&& T) = 0 ∧ pcN 8 S = d + 1
    · have h0 : S ≠ 0 := by
        intro e
        subst e
        have := hsub.2
        rw [show pcN 8 0 = 0 by decide] at this
        omega
      rw [if_pos hsub, BF_st h8 h0, Nat.mul_comm, ← sm_mul]
      apply sm_cg
      intro k hk
      cases hk2 : S.testBit k
      · simp
      · cases hc : cf (S ^^^ 2 ^ k) k
        · simp
        · simp [hsub.1, hsub.2, Nat.mul_comm]
    · rw [if_neg hsub]
      symm
      apply sm_0
      intro k hk
      split
      · rw [if_neg (fun h => hsub h.1)]
      · rfl
  rw [h1, h2]
  refine (sm_swap _ _ _).trans (Eq.trans (sm_cg (fun k hk => ?_)) (sm_swap _ _ _).symm)
  exact sm_bij hk (fun S => if ((S ^^^ (S &&& T) = 0 ∧ pcN 8 S = d + 1) ∧ cf (S ^^^ 2 ^ k) k = true) then BF cf ne (S ^^^ 2 ^ k) * D S else 0)
