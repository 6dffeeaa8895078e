/-! ===== base of the pure part: memory, answers, numbers ===== -/
theorem m_si (s : aMem) (k j : Nat) (x : Int32) (k' j' : Nat) : (a_si s k j x).1 k' j' = if k' = k then (if j' = j then x else s.1 k' j') else s.1 k' j' := by
  unfold a_si va_up upd
  dsimp only
  split
  · rename_i h
    subst h
    rfl
  · rfl
theorem m_si2 (s : aMem) (k j : Nat) (x : Int32) : (a_si s k j x).2 = s.2 := rfl
theorem m_sl1 (s : aMem) (k j : Nat) (x : Int64) : (a_sl s k j x).1 = s.1 := rfl
theorem m_sl (s : aMem) (k j : Nat) (x : Int64) (k' j' : Nat) : (a_sl s k j x).2.1 k' j' = if k' = k then (if j' = j then x else s.2.1 k' j') else s.2.1 k' j' := by
  unfold a_sl va_up vp_updL
  dsimp only
  split
  · rename_i h
    subst h
    rfl
  · rfl
theorem m_sl3 (s : aMem) (k j : Nat) (x : Int64) : (a_sl s k j x).2.2 = s.2.2 := rfl
theorem m_tk1 (s : aMem) : (a_tk s).1 = s.1 := rfl
theorem m_tk2 (s : aMem) : (a_tk s).2.1 = s.2.1 := rfl
theorem m_tk3 (s : aMem) : (a_tk s).2.2 = s.2.2 + 1 := rfl
theorem b_bi {ρ : Type} (r : Int32) (s : aMem) (K : Int32 → aMem → ρ) (N : ρ) (X : Nat → aMem → ρ) : a_bi (some (.inl (some (.int r)), s)) K N X = K r s := rfl
theorem b_bix {ρ : Type} (r : Nat) (s : aMem) (K : Int32 → aMem → ρ) (N : ρ) (X : Nat → aMem → ρ) : a_bi (some (.inr r, s)) K N X = X r s := rfl
theorem b_bv {ρ : Type} (s : aMem) (K : aMem → ρ) (N : ρ) (X : Nat → aMem → ρ) : a_bv (some (.inl none, s)) K N X = K s := rfl
theorem b_bvx {ρ : Type} (r : Nat) (s : aMem) (K : aMem → ρ) (N : ρ) (X : Nat → aMem → ρ) : a_bv (some (.inr r, s)) K N X = X r s := rfl
theorem b_bL {ρ : Type} (r : Int64) (s : aMem) (K : Int64 → aMem → ρ) (N : ρ) (X : Nat → aMem → ρ) : a_bl (some (.inl (some (.long r)), s)) K N X = K r s := rfl
def nN : Int32 := -1
theorem k_lit (n : Nat) : (OfNat.ofNat n : Int32) = nI (OfNat.ofNat n) := id rfl
theorem k_nN : -nI 1 = nN := id rfl
theorem k_ok {n m : Nat} (h : n < 2 ^ 31) : a_ok (nI n) m = decide (n < m) := by
  unfold a_ok
  rw [nI_toInt h]
  have e1 : decide (0 ≤ (n : Int)) = true := by simp
  rw [e1, Bool.true_and]
  apply decide_eq_decide.mpr
  omega
theorem k_okT {n m : Nat} (h : n < m) (hm : m < 2 ^ 31) : a_ok (nI n) m = true := by
  rw [k_ok (by omega)]
  simp [h]
theorem k_ofN (n : Nat) : Int32.ofNat n = nI n := id rfl
theorem k_nNt : nN.toInt = -1 := by decide
theorem k_nN1 {n : Nat} (h : n < 2 ^ 31) : (nI n = nN) = False := by
  apply eq_false
  intro e
  have := congrArg Int32.toInt e
  rw [nI_toInt h, k_nNt] at this
  omega
theorem k_nN2 {n : Nat} (h : n < 2 ^ 31) : (nN = nI n) = False := by
  apply eq_false
  intro e
  have := congrArg Int32.toInt e
  rw [nI_toInt h, k_nNt] at this
  omega
theorem k_nN3 {n : Nat} (h : n < 2 ^ 31) : (nI n < nN) = False := by
  apply eq_false
  intro e
  have := Int32.lt_iff_toInt_lt.mp e
  rw [nI_toInt h, k_nNt] at this
  omega
theorem k_nN4 {n : Nat} (h : n < 2 ^ 31) : (nI n ≤ nN) = False := by
  apply eq_false
  intro e
  have := Int32.le_iff_toInt_le.mp e
  rw [nI_toInt h, k_nNt] at this
  omega
theorem k_nN5 {n : Nat} (h : n < 2 ^ 31) : (nN < nI n) = True := by
  apply eq_true
  apply Int32.lt_iff_toInt_lt.mpr
  rw [nI_toInt h, k_nNt]
  omega
theorem k_nN6 {n : Nat} (h : n < 2 ^ 31) : (nN ≤ nI n) = True := by
  apply eq_true
  apply Int32.le_iff_toInt_le.mpr
  rw [nI_toInt h, k_nNt]
  omega
theorem k_inc (n : Nat) : nN + nI (n + 1) = nI n := by
  have h := pk_m1 n
  rw [Int32.add_comm]
  exact h
theorem k_bv (n : Nat) : (nI n).toBitVec = BitVec.ofNat 32 n := rfl
theorem k_inj {x y : Int32} (h : x.toBitVec = y.toBitVec) : x = y := Int32.toBitVec_inj.mp h
theorem k_and (a b : Nat) : nI a &&& nI b = nI (a &&& b) := by
  apply k_inj
  rw [Int32.toBitVec_and, k_bv, k_bv, k_bv, BitVec.ofNat_and]
theorem k_or (a b : Nat) : nI a ||| nI b = nI (a ||| b) := by
  apply k_inj
  rw [Int32.toBitVec_or, k_bv, k_bv, k_bv, BitVec.ofNat_or]
theorem k_xor (a b : Nat) : nI a ^^^ nI b = nI (a ^^^ b) := by
  apply k_inj
  rw [Int32.toBitVec_xor, k_bv, k_bv, k_bv, BitVec.ofNat_xor]
theorem k_sl : ∀ n, n < 32 → ((nI n &&& nI 31).toBitVec.smod 32).toNat = n := by decide +kernel
theorem k_shl {a b : Nat} (hb : b < 32) (h : a * 2 ^ b < 2 ^ 32) : nI a <<< (nI b &&& nI 31) = nI (a * 2 ^ b) := pk_shlN _ b (k_sl b hb) h
theorem k_shr {a b : Nat} (ha : a < 2 ^ 31) (hb : b < 32) : nI a >>> (nI b &&& nI 31) = nI (a / 2 ^ b) := pk_shrN ha _ b (k_sl b hb)
/-- the same but at these cells and these fields -/
def fr (ks : List Nat) (fs : List (Nat × Nat)) (s t : aMem) : Prop := (∀ k j, k ∉ ks → (k, j) ∉ fs → t.1 k j = s.1 k j) ∧ (∀ k j, k ∉ ks → (k, j) ∉ fs → t.2.1 k j = s.2.1 k j) ∧ t.2.2 = s.2.2
theorem fr_rfl {ks : List Nat} {fs : List (Nat × Nat)} (s : aMem) : fr ks fs s s := ⟨fun _ _ _ _ => rfl, fun _ _ _ _ => rfl, rfl⟩
theorem fr_trans {ks : List Nat} {fs : List (Nat × Nat)} {s t u : aMem} (h : fr ks fs s t) (h2 : fr ks fs t u) : fr ks fs s u :=
  ⟨fun k j a b => (h2.1 k j a b).trans (h.1 k j a b), fun k j a b => (h2.2.1 k j a b).trans (h.2.1 k j a b), h2.2.2.trans h.2.2⟩
theorem fr_mono {ks ks' : List Nat} {fs fs' : List (Nat × Nat)} {s t : aMem} (h : fr ks fs s t) (h1 : ∀ k, k ∈ ks → k ∈ ks') (h2 : ∀ q, q ∈ fs → q.1 ∈ ks' ∨ q ∈ fs') : fr ks' fs' s t := by
  have key : ∀ k j, k ∉ ks' → (k, j) ∉ fs' → k ∉ ks ∧ (k, j) ∉ fs := fun k j a b => ⟨fun c => a (h1 k c), fun c => (h2 _ c).elim a b⟩
  exact ⟨fun k j a b => h.1 k j (key k j a b).1 (key k j a b).2, fun k j a b => h.2.1 k j (key k j a b).1 (key k j a b).2, h.2.2⟩
theorem fr_si {ks : List Nat} {fs : List (Nat × Nat)} {s t : aMem} {k j : Nat} {x : Int32} (h : fr ks fs s t) (hk : k ∈ ks ∨ (k, j) ∈ fs) : fr ks fs s (a_si t k j x) := by
  refine ⟨fun k' j' a b => ?_, fun k' j' a b => h.2.1 k' j' a b, h.2.2⟩
  rw [m_si]
  have e := h.1 k' j' a b
  split
  · rename_i e1
    subst e1
    split
    · rename_i e2
      subst e2
      exact absurd hk (fun c => c.elim a b)
    · exact e
  · exact e
theorem fr_sl {ks : List Nat} {fs : List (Nat × Nat)} {s t : aMem} {k j : Nat} {x : Int64} (h : fr ks fs s t) (hk : k ∈ ks ∨ (k, j) ∈ fs) : fr ks fs s (a_sl t k j x) := by
  refine ⟨fun k' j' a b => h.1 k' j' a b, fun k' j' a b => ?_, h.2.2⟩
  rw [m_sl]
  have e := h.2.1 k' j' a b
  split
  · rename_i e1
    subst e1
    split
    · rename_i e2
      subst e2
      exact absurd hk (fun c => c.elim a b)
    · exact e
  · exact e
/-! branches on numbers: for simp (disch := omega) -/
theorem i_leT {α : Type} {a b : Nat} {A B : α} [Decidable (nI a ≤ nI b)] (h : a ≤ b) (hb : b < 2147483648) : (if nI a ≤ nI b then A else B) = A := if_pos (nI_le h hb)
theorem i_leF {α : Type} {a b : Nat} {A B : α} [Decidable (nI a ≤ nI b)] (h : b < a) (hb : a < 2147483648) : (if nI a ≤ nI b then A else B) = B := if_neg (nI_ge h hb)
theorem i_ltT {α : Type} {a b : Nat} {A B : α} [Decidable (nI a < nI b)] (h : a < b) (hb : b < 2147483648) : (if nI a < nI b then A else B) = A := if_pos (nI_lt h hb)
theorem i_ltF {α : Type} {a b : Nat} {A B : α} [Decidable (nI a < nI b)] (h : b ≤ a) (hb : a < 2147483648) : (if nI a < nI b then A else B) = B := if_neg (nI_nlt h hb)
theorem i_eqT {α : Type} {a b : Nat} {A B : α} [Decidable (nI a = nI b)] (h : a = b) : (if nI a = nI b then A else B) = A := if_pos (by rw [h])
theorem i_eqF {α : Type} {a b : Nat} {A B : α} [Decidable (nI a = nI b)] (h : a ≠ b) (ha : a < 2147483648) (hb : b < 2147483648) : (if nI a = nI b then A else B) = B := if_neg (fun e => h ((nI_eq ha hb).mp e))
theorem i_okT {α : Type} {a n : Nat} {A B : α} [Decidable (a_ok (nI a) n = true)] (h : a < n) (hn : n < 2147483648) : (if a_ok (nI a) n = true then A else B) = A := if_pos (k_okT h hn)
theorem i_n1 {α : Type} {a : Nat} {A B : α} [Decidable (nI a = nN)] (h : a < 2147483648) : (if nI a = nN then A else B) = B := if_neg (fun e => by rw [k_nN1 h] at e; exact e)
theorem i_n2 {α : Type} {a : Nat} {A B : α} [Decidable (nN = nI a)] (h : a < 2147483648) : (if nN = nI a then A else B) = B := if_neg (fun e => by rw [k_nN2 h] at e; exact e)
theorem i_n3 {α : Type} {a : Nat} {A B : α} [Decidable (nI a < nN)] (h : a < 2147483648) : (if nI a < nN then A else B) = B := if_neg (fun e => by rw [k_nN3 h] at e; exact e)
theorem i_n4 {α : Type} {a : Nat} {A B : α} [Decidable (nI a ≤ nN)] (h : a < 2147483648) : (if nI a ≤ nN then A else B) = B := if_neg (fun e => by rw [k_nN4 h] at e; exact e)
theorem i_n5 {α : Type} {a : Nat} {A B : α} [Decidable (nN < nI a)] (h : a < 2147483648) : (if nN < nI a then A else B) = A := if_pos (by rw [k_nN5 h]; trivial)
theorem i_n6 {α : Type} {a : Nat} {A B : α} [Decidable (nN ≤ nI a)] (h : a < 2147483648) : (if nN ≤ nI a then A else B) = A := if_pos (by rw [k_nN6 h]; trivial)
theorem i_n7 {α : Type} {A B : α} [Decidable (nN = nN)] : (if nN = nN then A else B) = A := if_pos rfl
theorem k_irr : ¬ nN < nN := by decide
theorem i_n8 {α : Type} {A B : α} [Decidable (nN < nN)] : (if nN < nN then A else B) = B := if_neg k_irr
theorem k_cl {n : Nat} (h : n < 2147483648) : (nI n).toNatClampNeg = n := nI_clamp h
