/-! ===== a trade ===== -/
def plc (p : Nat) : Int32 := if p = 5 then nN else nI p
theorem plc_inj {p q : Nat} (hp : p < 6) (hq : q < 6) (h : plc p = plc q) : p = q := by
  unfold plc at h
  by_cases e1 : p = 5
  · by_cases e2 : q = 5
    · omega
    · rw [if_pos e1, if_neg e2] at h
      exact absurd h (nN_ne (by omega))
  · by_cases e2 : q = 5
    · rw [if_neg e1, if_pos e2] at h
      exact absurd h.symm (nN_ne (by omega))
    · rw [if_neg e1, if_neg e2] at h
      exact (nI_eq (by omega) (by omega)).mp h
theorem oset_p (nb : Nat) (o : Nat → Int32) (p : Nat) : oset nb o p = msk nb fun b => decide (o b = plc p) := by
  unfold oset plc
  by_cases e : p = 5 <;> simp [e]
theorem Own_of {nb nr : Nat} {sets o : Nat → Int32} (h : sOk sets (oset nb o)) (h2 : ∀ b, b < nb → o b = nN ∨ ∃ r, r < nr ∧ o b = nI r) : Own nb nr sets o := by
  refine ⟨fun r hr => ?_, ?_, h2⟩
  · rw [(h r (by omega)).1]
    unfold oset
    rw [if_neg (by omega)]
  · rw [(h 5 (by omega)).1]
    rfl
/-- owners behind a trade -/
def otr (o : Nat → Int32) (r p l t : Nat) : Nat → Int32 := fun b => if b = l then plc p else if b = t then plc r else o b
def xtr (x : Nat → Nat) (r p l t : Nat) : Nat → Nat := fun k => if k = r ∨ k = p then x k ^^^ (2 ^ l ||| 2 ^ t) else x k
theorem oset_tr {nb r p l t : Nat} {o : Nat → Int32} (hr : r < 6) (hp : p < 6) (hrp : r ≠ p) (hl : l < nb) (ht : t < nb) (hlt : l ≠ t) (h1 : o l = plc r) (h2 : o t = plc p) : ∀ k, k < 6 → xtr (oset nb o) r p l t k = oset nb (otr o r p l t) k := by
  intro k hk
  unfold xtr
  rw [oset_p, oset_p]
  have hne : plc r ≠ plc p := fun e => hrp (plc_inj hr hp e)
  by_cases hkk : k = r ∨ k = p
  · rw [if_pos hkk]
    apply msk_eq
    intro b
    rw [Nat.testBit_xor, Nat.testBit_or, msk_bit, pow_bit, pow_bit]
    unfold otr
    by_cases e1 : b = l
    · subst e1
      have e2 : ¬ t = b := fun e => hlt e.symm
      rcases hkk with e | e
      · subst e; simp [hl, h1, hne.symm]
      · subst e; simp [hl, h1, hne]
    · by_cases e2 : b = t
      · subst e2
        have e3 : ¬ l = b := fun e => e1 e.symm
        rcases hkk with e | e
        · subst e; simp [ht, h2, hne.symm, e1]
        · subst e; simp [ht, h2, hne, e1]
      · have e3 : ¬ l = b := fun e => e1 e.symm
        have e4 : ¬ t = b := fun e => e2 e.symm
        simp [e1, e2, e3, e4]
  · rw [if_neg hkk]
    apply msk_congr
    intro b hb
    have n1 : plc r ≠ plc k := fun e => hkk (.inl (plc_inj hr hk e).symm)
    have n2 : plc p ≠ plc k := fun e => hkk (.inr (plc_inj hp hk e).symm)
    unfold otr
    by_cases e1 : b = l
    · subst e1; simp [h1, n1, n2]
    · by_cases e2 : b = t
      · subst e2; simp [h2, n1, n2, e1]
      · simp [e1, e2]
theorem xtr_lt {x : Nat → Nat} {r p l t k : Nat} (h : x k < 4096) (hl : l < 12) (ht : t < 12) : xtr x r p l t k < 4096 := by
  unfold xtr
  split
  · have h1 : 2 ^ l < 2 ^ 12 := Nat.pow_lt_pow_right (by decide) hl
    have h2 : 2 ^ t < 2 ^ 12 := Nat.pow_lt_pow_right (by decide) ht
    exact Nat.xor_lt_two_pow (n := 12) h (Nat.or_lt_two_pow h1 h2)
  · exact h
theorem sX8_trade23 {s : aMem} {x : Nat → Nat} {r p l t : Nat} (hs : sOk (s.1 23) x) (hr : r < 6) (hp : p < 6) (hrp : r ≠ p) (hl : l < 12) (ht : t < 12) : ∃ u, fX8_trade [.ref 23, .int (nI r), .int (nI p), .int (nI l), .int (nI t)] s = some (.inl none, u) ∧ fr [23] [] s u ∧ sOk (u.1 23) (xtr x r p l t) := by
  rw [tX8_tradei23]
  try simp only [k_lit, k_nN, k_ofN]
  simp (disch := omega) only [i_leT, i_leF, i_ltT, i_ltF, i_eqT, i_eqF, i_okT, i_n1, i_n2, i_n3, i_n4, i_n5, i_n6, i_n7, i_n8, k_cl, if_true, if_false]
  rw [k_one (by omega), k_one (by omega), k_or, (hs r hr).1, k_xor]
  refine ⟨_, rfl, fr_si (fr_si (fr_rfl s) (by simp)) (by simp), fun k hk => ?_⟩
  refine ⟨?_, xtr_lt (hs k hk).2 hl ht⟩
  simp only [m_si]
  simp (disch := omega) only [i_leT, i_leF, i_ltT, i_ltF, i_eqT, i_eqF, i_okT, i_n1, i_n2, i_n3, i_n4, i_n5, i_n6, i_n7, i_n8, k_cl, if_true, if_false]
  unfold xtr
  by_cases e1 : k = p
  · subst e1
    rw [if_pos rfl, if_neg (fun e => hrp e.symm), (hs k hk).1, k_xor, if_pos (.inr rfl)]
  · rw [if_neg e1]
    by_cases e2 : k = r
    · subst e2
      rw [if_pos rfl, if_pos (.inl rfl)]
    · rw [if_neg e2, (hs k hk).1, if_neg (fun c => c.elim e2 e1)]
theorem sX8_trade31 {s : aMem} {x : Nat → Nat} {r p l t : Nat} (hs : sOk (s.1 31) x) (hr : r < 6) (hp : p < 6) (hrp : r ≠ p) (hl : l < 12) (ht : t < 12) : ∃ u, fX8_trade [.ref 31, .int (nI r), .int (nI p), .int (nI l), .int (nI t)] s = some (.inl none, u) ∧ fr [31] [] s u ∧ sOk (u.1 31) (xtr x r p l t) := by
  rw [tX8_tradei31]
  try simp only [k_lit, k_nN, k_ofN]
  simp (disch := omega) only [i_leT, i_leF, i_ltT, i_ltF, i_eqT, i_eqF, i_okT, i_n1, i_n2, i_n3, i_n4, i_n5, i_n6, i_n7, i_n8, k_cl, if_true, if_false]
  rw [k_one (by omega), k_one (by omega), k_or, (hs r hr).1, k_xor]
  refine ⟨_, rfl, fr_si (fr_si (fr_rfl s) (by simp)) (by simp), fun k hk => ?_⟩
  refine ⟨?_, xtr_lt (hs k hk).2 hl ht⟩
  simp only [m_si]
  simp (disch := omega) only [i_leT, i_leF, i_ltT, i_ltF, i_eqT, i_eqF, i_okT, i_n1, i_n2, i_n3, i_n4, i_n5, i_n6, i_n7, i_n8, k_cl, if_true, if_false]
  unfold xtr
  by_cases e1 : k = p
  · subst e1
    rw [if_pos rfl, if_neg (fun e => hrp e.symm), (hs k hk).1, k_xor, if_pos (.inr rfl)]
  · rw [if_neg e1]
    by_cases e2 : k = r
    · subst e2
      rw [if_pos rfl, if_pos (.inl rfl)]
    · rw [if_neg e2, (hs k hk).1, if_neg (fun c => c.elim e2 e1)]
theorem sX8_trade39 {s : aMem} {x : Nat → Nat} {r p l t : Nat} (hs : sOk (s.1 39) x) (hr : r < 6) (hp : p < 6) (hrp : r ≠ p) (hl : l < 12) (ht : t < 12) : ∃ u, fX8_trade [.ref 39, .int (nI r), .int (nI p), .int (nI l), .int (nI t)] s = some (.inl none, u) ∧ fr [39] [] s u ∧ sOk (u.1 39) (xtr x r p l t) := by
  rw [tX8_tradei39]
  try simp only [k_lit, k_nN, k_ofN]
  simp (disch := omega) only [i_leT, i_leF, i_ltT, i_ltF, i_eqT, i_eqF, i_okT, i_n1, i_n2, i_n3, i_n4, i_n5, i_n6, i_n7, i_n8, k_cl, if_true, if_false]
  rw [k_one (by omega), k_one (by omega), k_or, (hs r hr).1, k_xor]
  refine ⟨_, rfl, fr_si (fr_si (fr_rfl s) (by simp)) (by simp), fun k hk => ?_⟩
  refine ⟨?_, xtr_lt (hs k hk).2 hl ht⟩
  simp only [m_si]
  simp (disch := omega) only [i_leT, i_leF, i_ltT, i_ltF, i_eqT, i_eqF, i_okT, i_n1, i_n2, i_n3, i_n4, i_n5, i_n6, i_n7, i_n8, k_cl, if_true, if_false]
  unfold xtr
  by_cases e1 : k = p
  · subst e1
    rw [if_pos rfl, if_neg (fun e => hrp e.symm), (hs k hk).1, k_xor, if_pos (.inr rfl)]
  · rw [if_neg e1]
    by_cases e2 : k = r
    · subst e2
      rw [if_pos rfl, if_pos (.inl rfl)]
    · rw [if_neg e2, (hs k hk).1, if_neg (fun c => c.elim e2 e1)]
