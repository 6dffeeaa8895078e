/-! ===== sums, fills ===== -/
theorem fl7 (s : aMem) (v : Int32) : ∃ u, fJ7_fill_53178 [.ref 7, .int v] s = some (.inl none, u) ∧ fr [7] [] s u ∧ ∀ j, j < 48 → u.1 7 j = v := by
  have key : ∀ m k t, k + m = 48 → fr [7] [] s t → (∀ j, j < k → t.1 7 j = v) → ∃ u, a_run none shp pJ7_fill_53178 5 [some (.ref 7), some (.int v), some (.int (nI k)), some (.int (nI 48))] [] t = some (.inl none, u) ∧ fr [7] [] s u ∧ ∀ j, j < 48 → u.1 7 j = v := by
    intro m
    induction m with
    | zero =>
      intro k t hk hf hj
      rw [tJ7_fill_53178i7_5]
      try simp only [k_lit, k_nN, k_ofN]
      simp (disch := omega) only [i_leT, i_leF, i_ltT, i_ltF, i_eqT, i_eqF, i_okT, i_n1, i_n2, i_n3, i_n4, i_n5, i_n6, i_n7, i_n8, k_cl, if_true, if_false]
      exact ⟨t, rfl, hf, fun j h => hj j (by omega)⟩
    | succ m ih =>
      intro k t hk hf hj
      rw [tJ7_fill_53178i7_5]
      try simp only [k_lit, k_nN, k_ofN]
      simp (disch := omega) only [i_leT, i_leF, i_ltT, i_ltF, i_eqT, i_eqF, i_okT, i_n1, i_n2, i_n3, i_n4, i_n5, i_n6, i_n7, i_n8, k_cl, if_true, if_false, nI_add]
      refine ih (k + 1) _ (by omega) (fr_si hf (by simp)) (fun j h => ?_)
      simp only [m_si, if_true]
      by_cases e : j = k
      · rw [if_pos e]
      · rw [if_neg e]; exact hj j (by omega)
  rw [tJ7_fill_53178i7]
  exact key 48 0 s (by omega) (fr_rfl s) (fun j h => absurd h (Nat.not_lt_zero j))
theorem fl8 (s : aMem) (v : Int32) : ∃ u, fJ7_fill_53178 [.ref 8, .int v] s = some (.inl none, u) ∧ fr [8] [] s u ∧ ∀ j, j < 5 → u.1 8 j = v := by
  have key : ∀ m k t, k + m = 5 → fr [8] [] s t → (∀ j, j < k → t.1 8 j = v) → ∃ u, a_run none shp pJ7_fill_53178 5 [some (.ref 8), some (.int v), some (.int (nI k)), some (.int (nI 5))] [] t = some (.inl none, u) ∧ fr [8] [] s u ∧ ∀ j, j < 5 → u.1 8 j = v := by
    intro m
    induction m with
    | zero =>
      intro k t hk hf hj
      rw [tJ7_fill_53178i8_5]
      try simp only [k_lit, k_nN, k_ofN]
      simp (disch := omega) only [i_leT, i_leF, i_ltT, i_ltF, i_eqT, i_eqF, i_okT, i_n1, i_n2, i_n3, i_n4, i_n5, i_n6, i_n7, i_n8, k_cl, if_true, if_false]
      exact ⟨t, rfl, hf, fun j h => hj j (by omega)⟩
    | succ m ih =>
      intro k t hk hf hj
      rw [tJ7_fill_53178i8_5]
      try simp only [k_lit, k_nN, k_ofN]
      simp (disch := omega) only [i_leT, i_leF, i_ltT, i_ltF, i_eqT, i_eqF, i_okT, i_n1, i_n2, i_n3, i_n4, i_n5, i_n6, i_n7, i_n8, k_cl, if_true, if_false, nI_add]
      refine ih (k + 1) _ (by omega) (fr_si hf (by simp)) (fun j h => ?_)
      simp only [m_si, if_true]
      by_cases e : j = k
      · rw [if_pos e]
      · rw [if_neg e]; exact hj j (by omega)
  rw [tJ7_fill_53178i8]
  exact key 5 0 s (by omega) (fr_rfl s) (fun j h => absurd h (Nat.not_lt_zero j))
theorem fl9 (s : aMem) (v : Int32) : ∃ u, fJ7_fill_53178 [.ref 9, .int v] s = some (.inl none, u) ∧ fr [9] [] s u ∧ ∀ j, j < 6 → u.1 9 j = v := by
  have key : ∀ m k t, k + m = 6 → fr [9] [] s t → (∀ j, j < k → t.1 9 j = v) → ∃ u, a_run none shp pJ7_fill_53178 5 [some (.ref 9), some (.int v), some (.int (nI k)), some (.int (nI 6))] [] t = some (.inl none, u) ∧ fr [9] [] s u ∧ ∀ j, j < 6 → u.1 9 j = v := by
    intro m
    induction m with
    | zero =>
      intro k t hk hf hj
      rw [tJ7_fill_53178i9_5]
      try simp only [k_lit, k_nN, k_ofN]
      simp (disch := omega) only [i_leT, i_leF, i_ltT, i_ltF, i_eqT, i_eqF, i_okT, i_n1, i_n2, i_n3, i_n4, i_n5, i_n6, i_n7, i_n8, k_cl, if_true, if_false]
      exact ⟨t, rfl, hf, fun j h => hj j (by omega)⟩
    | succ m ih =>
      intro k t hk hf hj
      rw [tJ7_fill_53178i9_5]
      try simp only [k_lit, k_nN, k_ofN]
      simp (disch := omega) only [i_leT, i_leF, i_ltT, i_ltF, i_eqT, i_eqF, i_okT, i_n1, i_n2, i_n3, i_n4, i_n5, i_n6, i_n7, i_n8, k_cl, if_true, if_false, nI_add]
      refine ih (k + 1) _ (by omega) (fr_si hf (by simp)) (fun j h => ?_)
      simp only [m_si, if_true]
      by_cases e : j = k
      · rw [if_pos e]
      · rw [if_neg e]; exact hj j (by omega)
  rw [tJ7_fill_53178i9]
  exact key 6 0 s (by omega) (fr_rfl s) (fun j h => absurd h (Nat.not_lt_zero j))
theorem fl37 (s : aMem) (v : Int32) : ∃ u, fJ7_fill_53178 [.ref 37, .int v] s = some (.inl none, u) ∧ fr [37] [] s u ∧ ∀ j, j < 8192 → u.1 37 j = v := by
  have key : ∀ m k t, k + m = 8192 → fr [37] [] s t → (∀ j, j < k → t.1 37 j = v) → ∃ u, a_run none shp pJ7_fill_53178 5 [some (.ref 37), some (.int v), some (.int (nI k)), some (.int (nI 8192))] [] t = some (.inl none, u) ∧ fr [37] [] s u ∧ ∀ j, j < 8192 → u.1 37 j = v := by
    intro m
    induction m with
    | zero =>
      intro k t hk hf hj
      rw [tJ7_fill_53178i37_5]
      try simp only [k_lit, k_nN, k_ofN]
      simp (disch := omega) only [i_leT, i_leF, i_ltT, i_ltF, i_eqT, i_eqF, i_okT, i_n1, i_n2, i_n3, i_n4, i_n5, i_n6, i_n7, i_n8, k_cl, if_true, if_false]
      exact ⟨t, rfl, hf, fun j h => hj j (by omega)⟩
    | succ m ih =>
      intro k t hk hf hj
      rw [tJ7_fill_53178i37_5]
      try simp only [k_lit, k_nN, k_ofN]
      simp (disch := omega) only [i_leT, i_leF, i_ltT, i_ltF, i_eqT, i_eqF, i_okT, i_n1, i_n2, i_n3, i_n4, i_n5, i_n6, i_n7, i_n8, k_cl, if_true, if_false, nI_add]
      refine ih (k + 1) _ (by omega) (fr_si hf (by simp)) (fun j h => ?_)
      simp only [m_si, if_true]
      by_cases e : j = k
      · rw [if_pos e]
      · rw [if_neg e]; exact hj j (by omega)
  rw [tJ7_fill_53178i37]
  exact key 8192 0 s (by omega) (fr_rfl s) (fun j h => absurd h (Nat.not_lt_zero j))
theorem fl40 (s : aMem) (v : Int32) : ∃ u, fJ7_fill_53178 [.ref 40, .int v] s = some (.inl none, u) ∧ fr [40] [] s u ∧ ∀ j, j < 256 → u.1 40 j = v := by
  have key : ∀ m k t, k + m = 256 → fr [40] [] s t → (∀ j, j < k → t.1 40 j = v) → ∃ u, a_run none shp pJ7_fill_53178 5 [some (.ref 40), some (.int v), some (.int (nI k)), some (.int (nI 256))] [] t = some (.inl none, u) ∧ fr [40] [] s u ∧ ∀ j, j < 256 → u.1 40 j = v := by
    intro m
    induction m with
    | zero =>
      intro k t hk hf hj
      rw [tJ7_fill_53178i40_5]
      try simp only [k_lit, k_nN, k_ofN]
      simp (disch := omega) only [i_leT, i_leF, i_ltT, i_ltF, i_eqT, i_eqF, i_okT, i_n1, i_n2, i_n3, i_n4, i_n5, i_n6, i_n7, i_n8, k_cl, if_true, if_false]
      exact ⟨t, rfl, hf, fun j h => hj j (by omega)⟩
    | succ m ih =>
      intro k t hk hf hj
      rw [tJ7_fill_53178i40_5]
      try simp only [k_lit, k_nN, k_ofN]
      simp (disch := omega) only [i_leT, i_leF, i_ltT, i_ltF, i_eqT, i_eqF, i_okT, i_n1, i_n2, i_n3, i_n4, i_n5, i_n6, i_n7, i_n8, k_cl, if_true, if_false, nI_add]
      refine ih (k + 1) _ (by omega) (fr_si hf (by simp)) (fun j h => ?_)
      simp only [m_si, if_true]
      by_cases e : j = k
      · rw [if_pos e]
      · rw [if_neg e]; exact hj j (by omega)
  rw [tJ7_fill_53178i40]
  exact key 256 0 s (by omega) (fr_rfl s) (fun j h => absurd h (Nat.not_lt_zero j))
theorem fl41 (s : aMem) (v : Int32) : ∃ u, fJ7_fill_53178 [.ref 41, .int v] s = some (.inl none, u) ∧ fr [41] [] s u ∧ ∀ j, j < 256 → u.1 41 j = v := by
  have key : ∀ m k t, k + m = 256 → fr [41] [] s t → (∀ j, j < k → t.1 41 j = v) → ∃ u, a_run none shp pJ7_fill_53178 5 [some (.ref 41), some (.int v), some (.int (nI k)), some (.int (nI 256))] [] t = some (.inl none, u) ∧ fr [41] [] s u ∧ ∀ j, j < 256 → u.1 41 j = v := by
    intro m
    induction m with
    | zero =>
      intro k t hk hf hj
      rw [tJ7_fill_53178i41_5]
      try simp only [k_lit, k_nN, k_ofN]
      simp (disch := omega) only [i_leT, i_leF, i_ltT, i_ltF, i_eqT, i_eqF, i_okT, i_n1, i_n2, i_n3, i_n4, i_n5, i_n6, i_n7, i_n8, k_cl, if_true, if_false]
      exact ⟨t, rfl, hf, fun j h => hj j (by omega)⟩
    | succ m ih =>
      intro k t hk hf hj
      rw [tJ7_fill_53178i41_5]
      try simp only [k_lit, k_nN, k_ofN]
      simp (disch := omega) only [i_leT, i_leF, i_ltT, i_ltF, i_eqT, i_eqF, i_okT, i_n1, i_n2, i_n3, i_n4, i_n5, i_n6, i_n7, i_n8, k_cl, if_true, if_false, nI_add]
      refine ih (k + 1) _ (by omega) (fr_si hf (by simp)) (fun j h => ?_)
      simp only [m_si, if_true]
      by_cases e : j = k
      · rw [if_pos e]
      · rw [if_neg e]; exact hj j (by omega)
  rw [tJ7_fill_53178i41]
  exact key 256 0 s (by omega) (fr_rfl s) (fun j h => absurd h (Nat.not_lt_zero j))
def sm (f : Nat → Nat) : Nat → Nat
  | 0 => 0
  | n + 1 => sm f n + f n
theorem sm_cg {f g : Nat → Nat} : ∀ {n : Nat}, (∀ j, j < n → f j = g j) → sm f n = sm g n
  | 0, _ => rfl
  | n + 1, h => by
    unfold sm
    rw [sm_cg (fun j hj => h j (by omega)), h n (by omega)]
theorem sm_0 {f : Nat → Nat} : ∀ {n : Nat}, (∀ j, j < n → f j = 0) → sm f n = 0
  | 0, _ => rfl
  | n + 1, h => by
    unfold sm
    rw [sm_0 (fun j hj => h j (by omega)), h n (by omega)]
theorem sm_add (f g : Nat → Nat) : ∀ n, sm (fun j => f j + g j) n = sm f n + sm g n
  | 0 => rfl
  | n + 1 => by
    unfold sm
    rw [sm_add f g n]
    omega
theorem sm_mul (c : Nat) (f : Nat → Nat) : ∀ n, sm (fun j => c * f j) n = c * sm f n
  | 0 => rfl
  | n + 1 => by
    unfold sm
    rw [sm_mul c f n, Nat.mul_add]
theorem sm_swap (f : Nat → Nat → Nat) : ∀ n m, sm (fun i => sm (f i) m) n = sm (fun j => sm (fun i => f i j) n) m
  | 0, m => (sm_0 (fun _ _ => rfl)).symm
  | n + 1, m => by
    show sm (fun i => sm (f i) m) n + sm (f n) m = _
    rw [sm_swap f n m, ← sm_add]
    exact sm_cg (fun j _ => rfl)
theorem sm_le {f : Nat → Nat} {c : Nat} : ∀ {n : Nat}, (∀ j, j < n → f j ≤ c) → sm f n ≤ n * c
  | 0, _ => by simp [sm]
  | n + 1, h => by
    unfold sm
    have h1 := sm_le (fun j hj => h j (by omega : j < n + 1)) (n := n)
    have h2 := h n (by omega)
    rw [Nat.add_mul]
    omega
theorem sm_app (f : Nat → Nat) (n : Nat) : ∀ m, sm f (n + m) = sm f n + sm (fun j => f (n + j)) m
  | 0 => by simp [sm]
  | m + 1 => by
    show sm f (n + m) + f (n + m) = _
    rw [sm_app f n m, show sm (fun j => f (n + j)) (m + 1) = sm (fun j => f (n + j)) m + f (n + m) from rfl]
    omega
theorem sm_one {f : Nat → Nat} {k : Nat} (h : ∀ j, j ≠ k → f j = 0) : ∀ {n : Nat}, k < n → sm f n = f k
  | 0, hk => absurd hk (Nat.not_lt_zero k)
  | n + 1, hk => by
    unfold sm
    by_cases e : k = n
    · subst e
      rw [sm_0 (fun j hj => h j (by omega))]
      omega
    · rw [sm_one h (by omega), h n (fun c => e c.symm), Nat.add_zero]
theorem x2_lt {s n : Nat} (h : s < 2 ^ n) : s ^^^ 2 ^ n = 2 ^ n + s := by
  apply Nat.eq_of_testBit_eq
  intro b
  rw [Nat.testBit_xor, pow_bit]
  by_cases e : n = b
  · subst e
    rw [Nat.testBit_two_pow_add_eq, set_hi h (Nat.le_refl _)]
    simp
  · by_cases hlt : b < n
    · rw [Nat.testBit_two_pow_add_gt hlt]
      simp [e]
    · rw [set_hi h (by omega)]
      have : 2 ^ n + s < 2 ^ (n + 1) := by rw [Nat.pow_succ]; omega
      rw [set_hi this (by omega)]
      simp [e]
theorem x2_hi {s n : Nat} (h : s < 2 ^ n) : (2 ^ n + s) ^^^ 2 ^ n = s := by
  rw [← x2_lt h, Nat.xor_assoc, Nat.xor_self, Nat.xor_zero]
/-- a sum over all sets is the same with one bit turned -/
theorem sm_xor {k : Nat} : ∀ (n : Nat) (f : Nat → Nat), k < n → sm (fun s => f (s ^^^ 2 ^ k)) (2 ^ n) = sm f (2 ^ n)
  | 0, _, h => absurd h (Nat.not_lt_zero k)
  | n + 1, f, h => by
    rw [show 2 ^ (n + 1) = 2 ^ n + 2 ^ n by rw [Nat.pow_succ]; omega, sm_app, sm_app]
    by_cases e : k = n
    · subst e
      have h1 : sm (fun s => f (s ^^^ 2 ^ k)) (2 ^ k) = sm (fun j => f (2 ^ k + j)) (2 ^ k) := sm_cg (fun s hs => by rw [x2_lt hs])
      have h2 : sm (fun j => f ((2 ^ k + j) ^^^ 2 ^ k)) (2 ^ k) = sm f (2 ^ k) := sm_cg (fun s hs => by rw [x2_hi hs])
      rw [h1, h2]
      omega
    · have h1 := sm_xor n f (by omega : k < n)
      have h2 := sm_xor n (fun j => f (2 ^ n + j)) (by omega : k < n)
      rw [h1, ← h2]
      congr 1
      apply sm_cg
      intro s hs
      congr 1
      have hk : s ^^^ 2 ^ k < 2 ^ n := Nat.xor_lt_two_pow hs (Nat.pow_lt_pow_right (by decide) (by omega))
      rw [← x2_lt hs, ← x2_lt hk, Nat.xor_assoc, Nat.xor_assoc, Nat.xor_comm (2 ^ n)]
theorem or_xor {s k : Nat} (h : s.testBit k = false) : s ||| 2 ^ k = s ^^^ 2 ^ k := by
  apply Nat.eq_of_testBit_eq
  intro b
  rw [Nat.testBit_or, Nat.testBit_xor, pow_bit]
  by_cases e : k = b
  · subst e; simp [h]
  · simp [e]
theorem xor_bit (s k b : Nat) : (s ^^^ 2 ^ k).testBit b = (s.testBit b != decide (k = b)) := by
  rw [Nat.testBit_xor, pow_bit]
theorem xor_self_bit (s k : Nat) : (s ^^^ 2 ^ k).testBit k = !s.testBit k := by
  rw [xor_bit]; simp
theorem xor_xor (s k : Nat) : s ^^^ 2 ^ k ^^^ 2 ^ k = s := by
  rw [Nat.xor_assoc, Nat.xor_self, Nat.xor_zero]
/-- those without k, with it put to them; those with it -/
theorem sm_bij {k n : Nat} (hk : k < n) (f : Nat → Nat) : sm (fun s => if s.testBit k = false then f (s ||| 2 ^ k) else 0) (2 ^ n) = sm (fun s => if s.testBit k = true then f s else 0) (2 ^ n) := by
  rw [← sm_xor n (fun s => if s.testBit k = true then f s else 0) hk]
  apply sm_cg
  intro s _
  rw [xor_self_bit]
  cases h : s.testBit k
  · simp [or_xor h]
  · simp
theorem pcN_xor {s k : Nat} (h : s.testBit k = false) : ∀ n, k < n → pcN n (s ||| 2 ^ k) = pcN n s + 1
  | 0, hk => absurd hk (Nat.not_lt_zero k)
  | n + 1, hk => by
    unfold pcN
    rw [Nat.testBit_or, pow_bit]
    by_cases e : k = n
    · subst e
      rw [h, pcN_cg (x := s ||| 2 ^ k) (y := s) (fun b hb => by
        rw [Nat.testBit_or, pow_bit]
        have : ¬ k = b := by omega
        simp [this])]
      simp
    · rw [pcN_xor h n (by omega)]
      simp [e]
      omega
theorem lt_or {s k n : Nat} (hs : s < 2 ^ n) (hk : k < n) : s ||| 2 ^ k < 2 ^ n := Nat.or_lt_two_pow hs (Nat.pow_lt_pow_right (by decide) hk)
