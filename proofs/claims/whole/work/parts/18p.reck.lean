/-! ===== the law of pages is reckoned alike ===== -/
theorem ng_toInt {b : Nat} (hb : b < 2147483648) : (-nI b).toInt = -(b : Int) := by
  rw [Int32.toInt_neg, nI_toInt hb]
  exact Int.bmod_eq_of_le (by omega) (by omega)
theorem ng_eq {a b : Nat} (ha : a < 1000) (hb : b < 1000) : (-nI a = -nI b) = (a = b) := by
  apply propext
  constructor
  · intro e
    have := congrArg Int32.toInt e
    rw [ng_toInt (by omega), ng_toInt (by omega)] at this
    omega
  · intro e
    rw [e]
theorem ng_nI {v b : Nat} (hv : v < 2147483648) (h0 : 0 < b) (hb : b < 1000) : (nI v = -nI b) = False := by
  apply eq_false
  intro e
  have := congrArg Int32.toInt e
  rw [ng_toInt (by omega), nI_toInt hv] at this
  omega
theorem ng_lt {b : Nat} (h0 : 0 < b) (hb : b < 1000) : (-nI b < nI 0) = True := by
  apply eq_true
  apply Int32.lt_iff_toInt_lt.mpr
  rw [ng_toInt (by omega), nI_toInt (by omega)]
  omega
theorem ng_nlt {v : Nat} (hv : v < 2147483648) : (nI v < nI 0) = False := by
  apply eq_false
  exact nI_nlt (by omega) hv
theorem ng_add (n d : Nat) : nI (n + d) + -nI d = nI n := by
  rw [← nI_add, Int32.add_assoc, Int32.add_right_neg]
  exact Int32.add_zero _
def jn (i : Nat) (x y : Int32) : Int32 := match i with
  | 0 => if x = nI 0 then (if y = nI 0 then nI 0 else nI 1) else nI 1
  | 1 => if x = nI 0 then nI 0 else if y = nI 0 then nI 0 else nI 1
  | 3 => if y ≤ x then nI 0 else nI 1
  | 4 => if x = y then nI 1 else nI 0
  | 5 => x + y
  | 6 => x - y
  | 7 => x * y
  | _ => if y = nI 0 then nI 0 else x / y
def evq (p : Nat → Int32) : Nat × Nat → List Int32 → List Int32
  | (0, v), st => nI v :: st
  | (1, i), st => p i :: st
  | (2, 2), x :: st => (if x = nI 0 then nI 1 else nI 0) :: st
  | (2, 9), z :: y :: x :: st => (if x = nI 0 then z else y) :: st
  | (2, i), y :: x :: st => jn i x y :: st
  | _, st => st
def evl (p : Nat → Int32) : List (Nat × Nat) → List Int32 → List Int32
  | [], st => st
  | q :: c, st => evl p c (evq p q st)
def pf (a b c d : Int32) (i : Nat) : Int32 := match i with
  | 0 => a
  | 1 => b
  | 2 => c
  | _ => d
/-- what the code makes of four parts -/
def pgv (c : List (Nat × Nat)) (p : Nat → Int32) : Int32 := (evl p c []).headD (nI 0)
def Rp (f : Nat → Int32) : List Int32 → Prop
  | [] => True
  | x :: st => f st.length = x ∧ Rp f st
theorem Rp_cg {f g : Nat → Int32} : ∀ {st : List Int32}, (∀ j, j < st.length → f j = g j) → Rp f st → Rp g st
  | [], _, _ => trivial
  | x :: st, h, hr => ⟨by rw [← h st.length (by simp)]; exact hr.1, Rp_cg (fun j hj => h j (by simp; omega)) hr.2⟩
theorem Rp_si {s : aMem} {k n : Nat} {x : Int32} {st : List Int32} (h : Rp (s.1 k) st) (hn : st.length ≤ n) : Rp ((a_si s k n x).1 k) st := by
  refine Rp_cg (fun j hj => ?_) h
  have : ¬ j = n := by omega
  simp [m_si, this]
theorem Rp_set {s : aMem} {k n : Nat} {x : Int32} {st : List Int32} (h : Rp (s.1 k) st) (hn : st.length = n) : Rp ((a_si s k n x).1 k) (x :: st) := by
  refine ⟨?_, Rp_si h (by omega)⟩
  simp [m_si, hn]
theorem Rp_o {s : aMem} {k k' n : Nat} {x : Int32} {st : List Int32} (h : Rp (s.1 k) st) (hk : k ≠ k') : Rp ((a_si s k' n x).1 k) st := by
  refine Rp_cg (fun j _ => ?_) h
  simp [m_si, hk]
theorem sX1_push {s : aMem} {n : Nat} {v : Int32} (h : s.1 13 3 = nI n) (hn : n < 64) : fX1_push [.ref 13, .int v] s = some (.inl none, a_si (a_si s 15 n v) 13 3 (nI (n + 1))) := by
  rw [tX1_push]
  simp only [k_lit, h, nI_add]
  simp (disch := omega) only [i_leT, i_leF, i_ltT, i_ltF, i_eqT, i_eqF, i_okT, i_n1, i_n2, i_n3, i_n4, i_n5, i_n6, i_n7, i_n8, k_cl, if_true, if_false]
theorem sX1_bit {s : aMem} {b : Nat} (hb : b ≤ 1) : fX1_bit [.int (nI b)] s = some (.inl (some (.int (nI b))), s) := by
  rw [tX1_bit]
  simp only [k_lit]
  by_cases e : b = 0
  · subst e
    simp (disch := omega) only [i_leT, i_leF, i_ltT, i_ltF, i_eqT, i_eqF, i_okT, i_n1, i_n2, i_n3, i_n4, i_n5, i_n6, i_n7, i_n8, k_cl, if_true, if_false]
  · rw [show b = 1 by omega]
    simp (disch := omega) only [i_leT, i_leF, i_ltT, i_ltF, i_eqT, i_eqF, i_okT, i_n1, i_n2, i_n3, i_n4, i_n5, i_n6, i_n7, i_n8, k_cl, if_true, if_false]
theorem sX1_turn {s : aMem} {n : Nat} (h : s.1 13 3 = nI (n + 1)) (hn : n < 64) : fX1_turn [.ref 13] s = some (.inl none, a_si s 15 n (if s.1 15 n = nI 0 then nI 1 else nI 0)) := by
  rw [tX1_turn]
  simp only [k_lit, h, k_pred]
  simp (disch := omega) only [i_leT, i_leF, i_ltT, i_ltF, i_eqT, i_eqF, i_okT, i_n1, i_n2, i_n3, i_n4, i_n5, i_n6, i_n7, i_n8, k_cl, if_true, if_false]
  rw [sX1_bit (by omega), sX1_bit (by omega), b_bi, b_bi]
  split <;> rfl
theorem sX1_choose {s : aMem} {n : Nat} (h : s.1 13 3 = nI (n + 3)) (hn : n + 3 ≤ 64) : fX1_choose [.ref 13] s = some (.inl none, a_si (a_si s 13 3 (nI (n + 1))) 15 n (if s.1 15 n = nI 0 then s.1 15 (n + 2) else s.1 15 (n + 1))) := by
  rw [tX1_choose]
  simp only [k_lit, h]
  rw [pk_sub (by omega), pk_sub (by omega), nI_add]
  rw [show n + 3 - 2 = n + 1 by omega, show n + 1 - 1 = n by omega]
  simp (disch := omega) only [i_leT, i_leF, i_ltT, i_ltF, i_eqT, i_eqF, i_okT, i_n1, i_n2, i_n3, i_n4, i_n5, i_n6, i_n7, i_n8, k_cl, if_true, if_false]
  split <;> rfl
theorem sX1_join {s : aMem} {i : Nat} {x y : Int32} (hi : i < 9) (h2 : i ≠ 2) : fX1_join [.int (-nI (i + 5)), .int x, .int y] s = some (.inl (some (.int (jn i x y))), s) := by
  rw [tX1_join]
  simp only [k_lit]
  rcases (show i = 0 ∨ i = 1 ∨ i = 3 ∨ i = 4 ∨ i = 5 ∨ i = 6 ∨ i = 7 ∨ i = 8 by omega) with e | e | e | e | e | e | e | e <;> subst e <;> simp (disch := omega) only [ng_eq, Nat.reduceEqDiff, Nat.reduceAdd, Nat.zero_add, ↓reduceIte, jn, sX1_bit, b_bi]
  · split
    · split <;> rfl
    · rfl
  · split
    · rfl
    · split <;> rfl
  · split <;> rfl
  · split <;> rfl
  · by_cases e : y = nI 0
    · rw [if_pos e, if_pos e]
    · rw [if_neg e, if_neg e, if_neg e]
theorem sX1_work {s : aMem} {i n : Nat} (hi : i < 9) (h2 : i ≠ 2) (h : s.1 13 3 = nI (n + 2)) (hn : n + 2 ≤ 64) : fX1_work [.ref 13, .int (-nI (i + 5))] s = some (.inl none, a_si (a_si s 13 3 (nI (n + 1))) 15 n (jn i (s.1 15 n) (s.1 15 (n + 1)))) := by
  rw [tX1_work]
  simp only [k_lit, h]
  rw [pk_sub (by omega), pk_sub (by omega)]
  rw [show n + 2 - 1 = n + 1 by omega, show n + 1 - 1 = n by omega]
  simp (disch := omega) only [i_leT, i_leF, i_ltT, i_ltF, i_eqT, i_eqF, i_okT, i_n1, i_n2, i_n3, i_n4, i_n5, i_n6, i_n7, i_n8, k_cl, if_true, if_false]
  rw [sX1_join hi h2, b_bi]
theorem sX9_works {s : aMem} {i : Nat} {x y : Int32} (hi : i < 9) (h2 : i ≠ 2) : fX9_works [.int (nI (mop i)), .int x, .int y] s = some (.inl (some (.int (jn i x y))), s) := by
  rw [tX9_works]
  simp only [k_lit]
  rcases (show i = 0 ∨ i = 1 ∨ i = 3 ∨ i = 4 ∨ i = 5 ∨ i = 6 ∨ i = 7 ∨ i = 8 by omega) with e | e | e | e | e | e | e | e <;> subst e <;> simp (disch := omega) only [mop, Nat.reduceAdd, i_eqT, i_eqF, jn, ↓reduceIte]
  · split
    · split <;> rfl
    · rfl
  · split
    · rfl
    · split <;> rfl
  · split <;> rfl
  · split <;> rfl
  · by_cases e : y = nI 0
    · rw [if_pos e, if_pos e]
    · rw [if_neg e, if_neg e, if_neg e]
