/-! ===== tokens, as the class sees them ===== -/
def bL (c : Nat) : Bool := decide (97 ≤ c) && decide (c ≤ 122)
def bD (c : Nat) : Bool := decide (48 ≤ c) && decide (c ≤ 57)
def bB (c : Nat) : Bool := decide (c = 32) || decide (c = 10)
def rn (q : Nat → Bool) : Nat → Nat → Nat
  | 0, p => p
  | m + 1, p => if q p = true then rn q m (p + 1) else p
theorem rn_le (q : Nat → Bool) : ∀ m p, p ≤ rn q m p ∧ rn q m p ≤ p + m
  | 0, p => by simp [rn]
  | m + 1, p => by
    unfold rn
    split
    · have := rn_le q m (p + 1)
      omega
    · omega
theorem rn_in (q : Nat → Bool) : ∀ m p j, p ≤ j → j < rn q m p → q j = true
  | 0, p, j, h1, h2 => by simp [rn] at h2; omega
  | m + 1, p, j, h1, h2 => by
    unfold rn at h2
    split at h2
    · rename_i h
      by_cases e : j = p
      · rw [e]; exact h
      · exact rn_in q m (p + 1) j (by omega) h2
    · omega
def SK (B : Nat → Nat) (n p : Nat) : Nat := rn (fun j => bB (B j)) (n - p) p
def WE (B : Nat → Nat) (n p : Nat) : Nat := rn (fun j => bL (B j)) (n - p) p
def DE (B : Nat → Nat) (n p : Nat) : Nat := rn (fun j => bD (B j)) (n - p) p
def kd (B : Nat → Nat) (n f : Nat) : Nat := if n ≤ f then 0 else if bL (B f) = true then 1 else if bD (B f) = true then 2 else 3
def ed (B : Nat → Nat) (n f : Nat) : Nat := if n ≤ f then n else if bL (B f) = true then WE B n (f + 1) else if bD (B f) = true then DE B n (f + 1) else f + 1
def nx (B : Nat → Nat) (n f : Nat) : Nat := SK B n (ed B n f)
def vl (B : Nat → Nat) (f : Nat) : Nat → Nat
  | 0 => 0
  | k + 1 => 10 * vl B f k + (B (f + k) - 48)
def nm (B : Nat → Nat) (n f : Nat) : Nat := vl B f (if ed B n f - f ≤ 4 then ed B n f - f else 4)
theorem SK_le {B : Nat → Nat} {n p : Nat} (h : p ≤ n) : p ≤ SK B n p ∧ SK B n p ≤ n := by
  have := rn_le (fun j => bB (B j)) (n - p) p
  unfold SK
  omega
theorem WE_le {B : Nat → Nat} {n p : Nat} (h : p ≤ n) : p ≤ WE B n p ∧ WE B n p ≤ n := by
  have := rn_le (fun j => bL (B j)) (n - p) p
  unfold WE
  omega
theorem DE_le {B : Nat → Nat} {n p : Nat} (h : p ≤ n) : p ≤ DE B n p ∧ DE B n p ≤ n := by
  have := rn_le (fun j => bD (B j)) (n - p) p
  unfold DE
  omega
theorem ed_le {B : Nat → Nat} {n f : Nat} (h : f ≤ n) : f ≤ ed B n f ∧ ed B n f ≤ n ∧ (f < n → f < ed B n f) := by
  unfold ed
  split
  · omega
  · have h1 := WE_le (B := B) (n := n) (p := f + 1) (by omega)
    have h2 := DE_le (B := B) (n := n) (p := f + 1) (by omega)
    split
    · omega
    · split <;> omega
theorem nx_le {B : Nat → Nat} {n f : Nat} (h : f ≤ n) : f ≤ nx B n f ∧ nx B n f ≤ n ∧ (f < n → f < nx B n f) := by
  obtain ⟨h1, h2, h3⟩ := ed_le (B := B) h
  have := SK_le (B := B) h2
  unfold nx
  omega
theorem kd_lt {B : Nat → Nat} {n f : Nat} (h : kd B n f ≠ 0) : f < n := by
  unfold kd at h
  by_cases e : n ≤ f
  · rw [if_pos e] at h; exact absurd rfl h
  · omega
theorem vl_lt {B : Nat → Nat} {f : Nat} : ∀ k, (∀ j, j < k → B (f + j) ≤ 57) → vl B f k < 10 ^ k
  | 0, _ => by simp [vl]
  | k + 1, h => by
    have h1 := vl_lt k (fun j hj => h j (by omega))
    have h2 := h k (by omega)
    unfold vl
    rw [Nat.pow_succ]
    omega
theorem nm_lt {B : Nat → Nat} {n f : Nat} (hk : kd B n f = 2) : nm B n f < 10000 := by
  have hf := kd_lt (B := B) (n := n) (f := f) (by omega)
  unfold kd at hk
  rw [if_neg (by omega)] at hk
  have hL : ¬ bL (B f) = true := by
    intro c
    rw [if_pos c] at hk
    omega
  rw [if_neg hL] at hk
  have hD : bD (B f) = true := by
    cases e : bD (B f)
    · rw [e] at hk; simp at hk
    · rfl
  have he : ed B n f = DE B n (f + 1) := by
    unfold ed
    rw [if_neg (by omega), if_neg hL, if_pos hD]
  have hd : ∀ j, f + j < ed B n f → B (f + j) ≤ 57 := by
    intro j hj
    by_cases e : j = 0
    · subst e
      unfold bD at hD
      simp only [Bool.and_eq_true, decide_eq_true_eq] at hD
      exact hD.2
    · rw [he] at hj
      have := rn_in (fun j => bD (B j)) (n - (f + 1)) (f + 1) (f + j) (by omega) hj
      unfold bD at this
      simp only [Bool.and_eq_true, decide_eq_true_eq] at this
      exact this.2
  unfold nm
  split
  · rename_i h4
    have h1 := vl_lt (B := B) (f := f) (ed B n f - f) (fun j hj => hd j (by omega))
    have h2 : 10 ^ (ed B n f - f) ≤ 10 ^ 4 := Nat.pow_le_pow_right (by decide) h4
    omega
  · have h1 := vl_lt (B := B) (f := f) 4 (fun j hj => hd j (by omega))
    omega
def xB (B : Nat → Nat) (n : Nat) (s : aMem) : Prop := ∀ j, j < n → s.1 2 j &&& nI 255 = nI (B j)
def XT (B : Nat → Nat) (n f : Nat) (s : aMem) : Prop := f ≤ n ∧ s.1 1 2 = nI (kd B n f) ∧ s.1 1 3 = nI f ∧ s.1 1 5 = nI (ed B n f) ∧ s.1 1 6 = nI n ∧ (kd B n f = 2 → s.1 1 4 = if ed B n f - f ≤ 4 then nI (nm B n f) else nN) ∧ xB B n s
theorem sX5_atT {B : Nat → Nat} {n i : Nat} {s : aMem} (hn : n ≤ 700) (h6 : s.1 1 6 = nI n) (hb : xB B n s) (hi : i < n) : fX5_at [.ref 1, .int (nI i)] s = some (.inl (some (.int (nI (B i)))), s) := by
  rw [tX5_at, h6]
  try simp only [k_lit, k_nN, k_ofN]
  simp (disch := omega) only [i_leT, i_leF, i_ltT, i_ltF, i_eqT, i_eqF, i_okT, i_n1, i_n2, i_n3, i_n4, i_n5, i_n6, i_n7, i_n8, k_cl, if_true, if_false]
  rw [hb i hi]
theorem sX5_atF {n i : Nat} {s : aMem} (hn : n ≤ 700) (h6 : s.1 1 6 = nI n) (hi : n ≤ i) (hi2 : i < 10000) : fX5_at [.ref 1, .int (nI i)] s = some (.inl (some (.int nN)), s) := by
  rw [tX5_at, h6]
  try simp only [k_lit, k_nN, k_ofN]
  simp (disch := omega) only [i_leT, i_leF, i_ltT, i_ltF, i_eqT, i_eqF, i_okT, i_n1, i_n2, i_n3, i_n4, i_n5, i_n6, i_n7, i_n8, k_cl, if_true, if_false]
theorem sX5_isBlank {c : Nat} {s : aMem} (hc : c < 256) : fX5_isBlank [.int (nI c)] s = some (.inl (some (.int (nI (bB c).toNat))), s) := by
  rw [tX5_isBlank]
  try simp only [k_lit, k_nN, k_ofN]
  unfold bB
  by_cases e1 : c = 32
  · subst e1
    simp (disch := omega) only [i_leT, i_leF, i_ltT, i_ltF, i_eqT, i_eqF, i_okT, i_n1, i_n2, i_n3, i_n4, i_n5, i_n6, i_n7, i_n8, k_cl, if_true, if_false]
    rfl
  · simp (disch := omega) only [i_leT, i_leF, i_ltT, i_ltF, i_eqT, i_eqF, i_okT, i_n1, i_n2, i_n3, i_n4, i_n5, i_n6, i_n7, i_n8, k_cl, if_true, if_false]
    by_cases e2 : c = 10
    · subst e2
      simp (disch := omega) only [i_leT, i_leF, i_ltT, i_ltF, i_eqT, i_eqF, i_okT, i_n1, i_n2, i_n3, i_n4, i_n5, i_n6, i_n7, i_n8, k_cl, if_true, if_false]
      rfl
    · simp (disch := omega) only [i_leT, i_leF, i_ltT, i_ltF, i_eqT, i_eqF, i_okT, i_n1, i_n2, i_n3, i_n4, i_n5, i_n6, i_n7, i_n8, k_cl, if_true, if_false]
      simp [e1, e2]
theorem sX5_isLetter {c : Nat} {s : aMem} (hc : c < 256) : fX5_isLetter [.int (nI c)] s = some (.inl (some (.int (nI (bL c).toNat))), s) := by
  rw [tX5_isLetter]
  try simp only [k_lit, k_nN, k_ofN]
  unfold bL
  by_cases e1 : c < 97
  · simp (disch := omega) only [i_leT, i_leF, i_ltT, i_ltF, i_eqT, i_eqF, i_okT, i_n1, i_n2, i_n3, i_n4, i_n5, i_n6, i_n7, i_n8, k_cl, if_true, if_false]
    have : ¬ 97 ≤ c := by omega
    simp [this]
  · simp (disch := omega) only [i_leT, i_leF, i_ltT, i_ltF, i_eqT, i_eqF, i_okT, i_n1, i_n2, i_n3, i_n4, i_n5, i_n6, i_n7, i_n8, k_cl, if_true, if_false]
    by_cases e2 : 122 < c
    · simp (disch := omega) only [i_leT, i_leF, i_ltT, i_ltF, i_eqT, i_eqF, i_okT, i_n1, i_n2, i_n3, i_n4, i_n5, i_n6, i_n7, i_n8, k_cl, if_true, if_false]
      have : ¬ c ≤ 122 := by omega
      simp [this]
    · simp (disch := omega) only [i_leT, i_leF, i_ltT, i_ltF, i_eqT, i_eqF, i_okT, i_n1, i_n2, i_n3, i_n4, i_n5, i_n6, i_n7, i_n8, k_cl, if_true, if_false]
      have h1 : 97 ≤ c := by omega
      have h2 : c ≤ 122 := by omega
      simp [h1, h2]
theorem sX5_isDigit {c : Nat} {s : aMem} (hc : c < 256) : fX5_isDigit [.int (nI c)] s = some (.inl (some (.int (nI (bD c).toNat))), s) := by
  rw [tX5_isDigit]
  try simp only [k_lit, k_nN, k_ofN]
  unfold bD
  by_cases e1 : c < 48
  · simp (disch := omega) only [i_leT, i_leF, i_ltT, i_ltF, i_eqT, i_eqF, i_okT, i_n1, i_n2, i_n3, i_n4, i_n5, i_n6, i_n7, i_n8, k_cl, if_true, if_false]
    have : ¬ 48 ≤ c := by omega
    simp [this]
  · simp (disch := omega) only [i_leT, i_leF, i_ltT, i_ltF, i_eqT, i_eqF, i_okT, i_n1, i_n2, i_n3, i_n4, i_n5, i_n6, i_n7, i_n8, k_cl, if_true, if_false]
    by_cases e2 : 57 < c
    · simp (disch := omega) only [i_leT, i_leF, i_ltT, i_ltF, i_eqT, i_eqF, i_okT, i_n1, i_n2, i_n3, i_n4, i_n5, i_n6, i_n7, i_n8, k_cl, if_true, if_false]
      have : ¬ c ≤ 57 := by omega
      simp [this]
    · simp (disch := omega) only [i_leT, i_leF, i_ltT, i_ltF, i_eqT, i_eqF, i_okT, i_n1, i_n2, i_n3, i_n4, i_n5, i_n6, i_n7, i_n8, k_cl, if_true, if_false]
      have h1 : 48 ≤ c := by omega
      have h2 : c ≤ 57 := by omega
      simp [h1, h2]
theorem sX9_isLetter {c : Nat} {s : aMem} (hc : c < 256) : fX9_isLetter [.int (nI c)] s = some (.inl (some (.int (nI (bL c).toNat))), s) := by
  rw [tX9_isLetter]
  try simp only [k_lit, k_nN, k_ofN]
  unfold bL
  by_cases e1 : c < 97
  · simp (disch := omega) only [i_leT, i_leF, i_ltT, i_ltF, i_eqT, i_eqF, i_okT, i_n1, i_n2, i_n3, i_n4, i_n5, i_n6, i_n7, i_n8, k_cl, if_true, if_false]
    have : ¬ 97 ≤ c := by omega
    simp [this]
  · simp (disch := omega) only [i_leT, i_leF, i_ltT, i_ltF, i_eqT, i_eqF, i_okT, i_n1, i_n2, i_n3, i_n4, i_n5, i_n6, i_n7, i_n8, k_cl, if_true, if_false]
    by_cases e2 : 122 < c
    · simp (disch := omega) only [i_leT, i_leF, i_ltT, i_ltF, i_eqT, i_eqF, i_okT, i_n1, i_n2, i_n3, i_n4, i_n5, i_n6, i_n7, i_n8, k_cl, if_true, if_false]
      have : ¬ c ≤ 122 := by omega
      simp [this]
    · simp (disch := omega) only [i_leT, i_leF, i_ltT, i_ltF, i_eqT, i_eqF, i_okT, i_n1, i_n2, i_n3, i_n4, i_n5, i_n6, i_n7, i_n8, k_cl, if_true, if_false]
      have h1 : 97 ≤ c := by omega
      have h2 : c ≤ 122 := by omega
      simp [h1, h2]
theorem sX9_isDigit {c : Nat} {s : aMem} (hc : c < 256) : fX9_isDigit [.int (nI c)] s = some (.inl (some (.int (nI (bD c).toNat))), s) := by
  rw [tX9_isDigit]
  try simp only [k_lit, k_nN, k_ofN]
  unfold bD
  by_cases e1 : c < 48
  · simp (disch := omega) only [i_leT, i_leF, i_ltT, i_ltF, i_eqT, i_eqF, i_okT, i_n1, i_n2, i_n3, i_n4, i_n5, i_n6, i_n7, i_n8, k_cl, if_true, if_false]
    have : ¬ 48 ≤ c := by omega
    simp [this]
  · simp (disch := omega) only [i_leT, i_leF, i_ltT, i_ltF, i_eqT, i_eqF, i_okT, i_n1, i_n2, i_n3, i_n4, i_n5, i_n6, i_n7, i_n8, k_cl, if_true, if_false]
    by_cases e2 : 57 < c
    · simp (disch := omega) only [i_leT, i_leF, i_ltT, i_ltF, i_eqT, i_eqF, i_okT, i_n1, i_n2, i_n3, i_n4, i_n5, i_n6, i_n7, i_n8, k_cl, if_true, if_false]
      have : ¬ c ≤ 57 := by omega
      simp [this]
    · simp (disch := omega) only [i_leT, i_leF, i_ltT, i_ltF, i_eqT, i_eqF, i_okT, i_n1, i_n2, i_n3, i_n4, i_n5, i_n6, i_n7, i_n8, k_cl, if_true, if_false]
      have h1 : 48 ≤ c := by omega
      have h2 : c ≤ 57 := by omega
      simp [h1, h2]
theorem rn_s {q : Nat → Bool} {m p : Nat} (h : q p = true) (hm : 0 < m) : rn q m p = rn q (m - 1) (p + 1) := by
  obtain ⟨k, rfl⟩ : ∃ k, m = k + 1 := ⟨m - 1, by omega⟩
  rw [show rn q (k + 1) p = if q p = true then rn q k (p + 1) else p from rfl, if_pos h, show k + 1 - 1 = k from rfl]
theorem rn_n {q : Nat → Bool} {m p : Nat} (h : q p = false) : rn q m p = p := by
  cases m with
  | zero => rfl
  | succ m =>
    unfold rn
    rw [h]
    rfl
theorem SK_st {B : Nat → Nat} {n p : Nat} (hp : p < n) : SK B n p = if bB (B p) = true then SK B n (p + 1) else p := by
  unfold SK
  cases h : bB (B p)
  · rw [rn_n (q := fun j => bB (B j)) h]; simp
  · rw [rn_s (q := fun j => bB (B j)) h (by omega), show n - p - 1 = n - (p + 1) by omega]; simp
theorem WE_st {B : Nat → Nat} {n p : Nat} (hp : p < n) : WE B n p = if bL (B p) = true then WE B n (p + 1) else p := by
  unfold WE
  cases h : bL (B p)
  · rw [rn_n (q := fun j => bL (B j)) h]; simp
  · rw [rn_s (q := fun j => bL (B j)) h (by omega), show n - p - 1 = n - (p + 1) by omega]; simp
theorem DE_st {B : Nat → Nat} {n p : Nat} (hp : p < n) : DE B n p = if bD (B p) = true then DE B n (p + 1) else p := by
  unfold DE
  cases h : bD (B p)
  · rw [rn_n (q := fun j => bD (B j)) h]; simp
  · rw [rn_s (q := fun j => bD (B j)) h (by omega), show n - p - 1 = n - (p + 1) by omega]; simp
theorem SK_n (B : Nat → Nat) (n : Nat) : SK B n n = n := by simp [SK, rn]
theorem WE_n (B : Nat → Nat) (n : Nat) : WE B n n = n := by simp [WE, rn]
theorem DE_n (B : Nat → Nat) (n : Nat) : DE B n n = n := by simp [DE, rn]
theorem xB_fr {B : Nat → Nat} {n : Nat} {s t : aMem} (h : xB B n s) (f : ∀ j, t.1 2 j = s.1 2 j) : xB B n t := by
  intro j hj
  rw [f j]
  exact h j hj
theorem sX5_next {B : Nat → Nat} {n p : Nat} {s : aMem} (hn : n ≤ 700) (hB : ∀ j, j < n → B j < 256) (hp : p ≤ n) (h5 : s.1 1 5 = nI p) (h6 : s.1 1 6 = nI n) (hb : xB B n s) : ∃ u, fX5_next [.ref 1] s = some (.inl none, u) ∧ fr [] [(1, 2), (1, 3), (1, 4), (1, 5)] s u ∧ XT B n (SK B n p) u := by
  -- words
  have word : ∀ (f : Nat), f < n → bL (B f) = true → ∀ m t u, t + m = n → f < t → WE B n (f + 1) = WE B n t → fr [] [(1, 2), (1, 3), (1, 4), (1, 5)] s u → u.1 1 2 = nI 1 → u.1 1 3 = nI f → u.1 1 5 = nI t → ∃ w, a_run none shp pX5_next 97 [some (.ref 1), none, none] [] u = some (.inl none, w) ∧ fr [] [(1, 2), (1, 3), (1, 4), (1, 5)] s w ∧ XT B n f w := by
    intro f hf hL m
    have hkd : kd B n f = 1 := by
      unfold kd
      rw [if_neg (by omega), if_pos hL]
    have hed : ed B n f = WE B n (f + 1) := by
      unfold ed
      rw [if_neg (by omega), if_pos hL]
    induction m with
    | zero =>
      intro t u ht hft hw fu u2 u3 u5
      have u6 : u.1 1 6 = nI n := by rw [fu.1 1 6 (by simp) (by decide)]; exact h6
      refine ⟨u, ?_, fu, by omega, by rw [hkd]; exact u2, u3, ?_, u6, fun c => by omega, xB_fr hb (fun j => fu.1 2 j (by simp) (by simp))⟩
      · rw [tX5_next_97, u6, u5]
        simp (disch := omega) only [i_leT, i_leF, i_ltT, i_ltF, i_eqT, i_eqF, i_okT, i_n1, i_n2, i_n3, i_n4, i_n5, i_n6, i_n7, i_n8, k_cl, if_true, if_false]
      · rw [hed, hw, show t = n by omega, WE_n, u5, show t = n by omega]
    | succ m ih =>
      intro t u ht hft hw fu u2 u3 u5
      have u6 : u.1 1 6 = nI n := by rw [fu.1 1 6 (by simp) (by decide)]; exact h6
      have ub : xB B n u := xB_fr hb (fun j => fu.1 2 j (by simp) (by simp))
      rw [WE_st (show t < n by omega)] at hw
      rw [tX5_next_97, u6, u5]
      try simp only [k_lit, k_nN, k_ofN]
      simp (disch := omega) only [i_leT, i_leF, i_ltT, i_ltF, i_eqT, i_eqF, i_okT, i_n1, i_n2, i_n3, i_n4, i_n5, i_n6, i_n7, i_n8, k_cl, if_true, if_false]
      rw [sX5_atT hn u6 ub (by omega), b_bi, tX5_next_116, sX5_isLetter (hB t (by omega)), b_bi, tX5_next_119, u5]
      try simp only [k_lit, k_nN, k_ofN, nI_add]
      cases e : bL (B t)
      · rw [e] at hw
        simp only [Bool.toNat_false]
        simp (disch := omega) only [i_leT, i_leF, i_ltT, i_ltF, i_eqT, i_eqF, i_okT, i_n1, i_n2, i_n3, i_n4, i_n5, i_n6, i_n7, i_n8, k_cl, if_true, if_false]
        refine ⟨u, rfl, fu, by omega, by rw [hkd]; exact u2, u3, ?_, u6, fun c => by omega, ub⟩
        rw [hed, hw, u5]
        simp
      · rw [e] at hw
        simp only [Bool.toNat_true]
        simp (disch := omega) only [i_leT, i_leF, i_ltT, i_ltF, i_eqT, i_eqF, i_okT, i_n1, i_n2, i_n3, i_n4, i_n5, i_n6, i_n7, i_n8, k_cl, if_true, if_false]
        refine ih (t + 1) _ (by omega) (by omega) (by simpa using hw) (fr_si fu (by simp)) ?_ ?_ ?_
        · simpa [m_si] using u2
        · simpa [m_si] using u3
        · simp [m_si]
  -- numbers
  have numb : ∀ (f : Nat), f < n → bL (B f) = false → bD (B f) = true → ∀ m t u, t + m = n → f < t → (∀ j, f ≤ j → j < t → bD (B j) = true) → DE B n (f + 1) = DE B n t → fr [] [(1, 2), (1, 3), (1, 4), (1, 5)] s u → u.1 1 2 = nI 2 → u.1 1 3 = nI f → u.1 1 5 = nI t → (u.1 1 4 = if t - f ≤ 4 then nI (vl B f (t - f)) else nN) → ∃ w, a_run none shp pX5_next 155 [some (.ref 1), none, none] [] u = some (.inl none, w) ∧ fr [] [(1, 2), (1, 3), (1, 4), (1, 5)] s w ∧ XT B n f w := by
    intro f hf hL hD m
    have hkd : kd B n f = 2 := by
      unfold kd
      rw [if_neg (by omega), hL, hD]
      rfl
    have hed : ed B n f = DE B n (f + 1) := by
      unfold ed
      rw [if_neg (by omega), hL, hD]
      rfl
    have fin : ∀ t u, f < t → t ≤ n → DE B n (f + 1) = t → fr [] [(1, 2), (1, 3), (1, 4), (1, 5)] s u → u.1 1 2 = nI 2 → u.1 1 3 = nI f → u.1 1 5 = nI t → (u.1 1 4 = if t - f ≤ 4 then nI (vl B f (t - f)) else nN) → XT B n f u := by
      intro t u hft ht hw fu u2 u3 u5 u4
      refine ⟨by omega, by rw [hkd]; exact u2, u3, by rw [hed, hw]; exact u5, by rw [fu.1 1 6 (by simp) (by decide)]; exact h6, fun _ => ?_, xB_fr hb (fun j => fu.1 2 j (by simp) (by simp))⟩
      rw [hed, hw, u4]
      unfold nm
      rw [hed, hw]
      by_cases e : t - f ≤ 4
      · rw [if_pos e, if_pos e, if_pos e]
      · rw [if_neg e, if_neg e]
    induction m with
    | zero =>
      intro t u ht hft hin hw fu u2 u3 u5 u4
      have u6 : u.1 1 6 = nI n := by rw [fu.1 1 6 (by simp) (by decide)]; exact h6
      refine ⟨u, ?_, fu, fin t u hft (by omega) ?_ fu u2 u3 u5 u4⟩
      · rw [tX5_next_155, u6, u5]
        simp (disch := omega) only [i_leT, i_leF, i_ltT, i_ltF, i_eqT, i_eqF, i_okT, i_n1, i_n2, i_n3, i_n4, i_n5, i_n6, i_n7, i_n8, k_cl, if_true, if_false]
      · rw [hw, show t = n by omega, DE_n]
    | succ m ih =>
      intro t u ht hft hin hw fu u2 u3 u5 u4
      have u6 : u.1 1 6 = nI n := by rw [fu.1 1 6 (by simp) (by decide)]; exact h6
      have ub : xB B n u := xB_fr hb (fun j => fu.1 2 j (by simp) (by simp))
      rw [DE_st (show t < n by omega)] at hw
      rw [tX5_next_155, u6, u5]
      try simp only [k_lit, k_nN, k_ofN]
      simp (disch := omega) only [i_leT, i_leF, i_ltT, i_ltF, i_eqT, i_eqF, i_okT, i_n1, i_n2, i_n3, i_n4, i_n5, i_n6, i_n7, i_n8, k_cl, if_true, if_false]
      rw [sX5_atT hn u6 ub (by omega), b_bi, tX5_next_174, sX5_isDigit (hB t (by omega)), b_bi, tX5_next_177, u5, u3]
      try simp only [k_lit, k_nN, k_ofN, nI_add]
      cases e : bD (B t)
      · rw [e] at hw
        simp only [Bool.toNat_false]
        simp (disch := omega) only [i_leT, i_leF, i_ltT, i_ltF, i_eqT, i_eqF, i_okT, i_n1, i_n2, i_n3, i_n4, i_n5, i_n6, i_n7, i_n8, k_cl, if_true, if_false]
        exact ⟨u, rfl, fu, fin t u hft (by omega) (by simpa using hw) fu u2 u3 u5 u4⟩
      · rw [e] at hw
        simp only [Bool.toNat_true]
        simp (disch := omega) only [i_leT, i_leF, i_ltT, i_ltF, i_eqT, i_eqF, i_okT, i_n1, i_n2, i_n3, i_n4, i_n5, i_n6, i_n7, i_n8, k_cl, if_true, if_false]
        have hin2 : ∀ j, f ≤ j → j < t + 1 → bD (B j) = true := by
          intro j h1 h2
          by_cases c : j = t
          · rw [c]; exact e
          · exact hin j h1 (by omega)
        have tail : ∀ z : Int32, (z = if t + 1 - f ≤ 4 then nI (vl B f (t + 1 - f)) else nN) → ∃ w, a_run none shp pX5_next 155 [some (.ref 1), none, none] [] (a_si (a_si u 1 4 z) 1 5 (nI (t + 1))) = some (.inl none, w) ∧ fr [] [(1, 2), (1, 3), (1, 4), (1, 5)] s w ∧ XT B n f w := by
          intro z hz
          refine ih (t + 1) _ (by omega) (by omega) hin2 (by simpa using hw) (fr_si (fr_si fu (by simp)) (by simp)) ?_ ?_ ?_ ?_
          · simpa [m_si] using u2
          · simpa [m_si] using u3
          · simp [m_si]
          · simpa [m_si] using hz
        rw [pk_sub (show f ≤ t by omega), u4]
        by_cases e4 : t - f ≤ 4
        · have hv : vl B f (t - f) < 100000 := by
            have h1 := vl_lt (B := B) (f := f) (t - f) (fun j hj => by
              have := hin (f + j) (by omega) (by omega)
              unfold bD at this
              simp only [Bool.and_eq_true, decide_eq_true_eq] at this
              exact this.2)
            have h2 : 10 ^ (t - f) ≤ 10 ^ 4 := Nat.pow_le_pow_right (by decide) e4
            omega
          rw [if_pos e4]
          simp (disch := omega) only [i_leT, i_leF, i_ltT, i_ltF, i_eqT, i_eqF, i_okT, i_n1, i_n2, i_n3, i_n4, i_n5, i_n6, i_n7, i_n8, k_cl, if_true, if_false]
          by_cases e5 : t - f = 4
          · rw [e5]
            simp (disch := omega) only [i_leT, i_leF, i_ltT, i_ltF, i_eqT, i_eqF, i_okT, i_n1, i_n2, i_n3, i_n4, i_n5, i_n6, i_n7, i_n8, k_cl, if_true, if_false]
            exact tail nN (by rw [if_neg (by omega)])
          · simp (disch := omega) only [i_leT, i_leF, i_ltT, i_ltF, i_eqT, i_eqF, i_okT, i_n1, i_n2, i_n3, i_n4, i_n5, i_n6, i_n7, i_n8, k_cl, if_true, if_false]
            rw [sX5_atT hn u6 ub (by omega), b_bi, tX5_next_227, u5]
            try simp only [k_lit, k_nN, k_ofN, nI_add]
            refine tail _ ?_
            rw [if_pos (by omega), show t + 1 - f = (t - f) + 1 by omega, pk_mul, nI_add]
            unfold bD at e
            simp only [Bool.and_eq_true, decide_eq_true_eq] at e
            rw [pk_sub (by omega)]
            congr 1
            rw [show vl B f (t - f + 1) = 10 * vl B f (t - f) + (B (f + (t - f)) - 48) from rfl, show f + (t - f) = t by omega]
            omega
        · rw [if_neg e4]
          simp (disch := omega) only [i_leT, i_leF, i_ltT, i_ltF, i_eqT, i_eqF, i_okT, i_n1, i_n2, i_n3, i_n4, i_n5, i_n6, i_n7, i_n8, k_cl, if_true, if_false]
          exact tail nN (by rw [if_neg (by omega)])
  -- the kind
  have kind : ∀ f u, f ≤ n → SK B n f = f → fr [] [(1, 2), (1, 3), (1, 4), (1, 5)] s u → u.1 1 3 = nI f → ∃ w, a_bi (fX5_at [.ref 1, .int (u.1 1 3)] u) (fun r2 s1 => a_run none shp pX5_next 54 [some (.ref 1), none, none] [.int r2] s1) none (fun x s1 => some (.inr x, s1)) = some (.inl none, w) ∧ fr [] [(1, 2), (1, 3), (1, 4), (1, 5)] s w ∧ XT B n f w := by
    intro f u hf hsk fu u3
    have u6 : u.1 1 6 = nI n := by rw [fu.1 1 6 (by simp) (by decide)]; exact h6
    have ub : xB B n u := xB_fr hb (fun j => fu.1 2 j (by simp) (by simp))
    rw [u3]
    by_cases e : n ≤ f
    · have : f = n := by omega
      subst this
      rw [sX5_atF hn u6 (Nat.le_refl _) (by omega), b_bi, tX5_next_54, u3, u6, tJ9_min_7cf53]
      try simp only [k_lit, k_nN, k_ofN, nI_add]
      simp (disch := omega) only [i_leT, i_leF, i_ltT, i_ltF, i_eqT, i_eqF, i_okT, i_n1, i_n2, i_n3, i_n4, i_n5, i_n6, i_n7, i_n8, k_cl, if_true, if_false]
      rw [b_bi, tX5_next_69]
      try simp only [k_lit, k_nN, k_ofN]
      simp (disch := omega) only [i_leT, i_leF, i_ltT, i_ltF, i_eqT, i_eqF, i_okT, i_n1, i_n2, i_n3, i_n4, i_n5, i_n6, i_n7, i_n8, k_cl, if_true, if_false]
      refine ⟨_, rfl, fr_si (fr_si fu (by simp)) (by simp), by omega, ?_, ?_, ?_, ?_, fun c => ?_, xB_fr ub (fun j => by simp [m_si])⟩
      · simp [m_si, kd]
      · simpa [m_si] using u3
      · simp [m_si, ed]
      · simpa [m_si] using u6
      · simp [kd] at c
    · have hBf := hB f (by omega)
      rw [sX5_atT hn u6 ub (by omega), b_bi, tX5_next_54, u3, u6, tJ9_min_7cf53]
      try simp only [k_lit, k_nN, k_ofN, nI_add]
      rw [i_ltF (by omega) (by omega), b_bi, tX5_next_69]
      try simp only [k_lit, k_nN, k_ofN]
      simp (disch := omega) only [i_leT, i_leF, i_ltT, i_ltF, i_eqT, i_eqF, i_okT, i_n1, i_n2, i_n3, i_n4, i_n5, i_n6, i_n7, i_n8, k_cl, if_true, if_false]
      rw [sX5_isLetter hBf, b_bi, tX5_next_89]
      try simp only [k_lit, k_nN, k_ofN]
      cases eL : bL (B f)
      · simp only [Bool.toNat_false]
        simp (disch := omega) only [i_leT, i_leF, i_ltT, i_ltF, i_eqT, i_eqF, i_okT, i_n1, i_n2, i_n3, i_n4, i_n5, i_n6, i_n7, i_n8, k_cl, if_true, if_false]
        rw [sX5_isDigit hBf, b_bi, tX5_next_139]
        try simp only [k_lit, k_nN, k_ofN]
        cases eD : bD (B f)
        · simp only [Bool.toNat_false]
          simp (disch := omega) only [i_leT, i_leF, i_ltT, i_ltF, i_eqT, i_eqF, i_okT, i_n1, i_n2, i_n3, i_n4, i_n5, i_n6, i_n7, i_n8, k_cl, if_true, if_false]
          refine ⟨_, rfl, fr_si (fr_si fu (by simp)) (by simp), by omega, ?_, ?_, ?_, ?_, fun c => ?_, xB_fr ub (fun j => by simp [m_si])⟩
          · simp [m_si, kd, e, eL, eD]
          · simpa [m_si] using u3
          · simp [m_si, ed, e, eL, eD]
          · simpa [m_si] using u6
          · simp [kd, e, eL, eD] at c
        · simp only [Bool.toNat_true]
          simp (disch := omega) only [i_leT, i_leF, i_ltT, i_ltF, i_eqT, i_eqF, i_okT, i_n1, i_n2, i_n3, i_n4, i_n5, i_n6, i_n7, i_n8, k_cl, if_true, if_false]
          refine numb f (by omega) eL eD (n - (f + 1)) (f + 1) _ (by omega) (by omega) (fun j h1 h2 => by rw [show j = f by omega]; exact eD) rfl (fr_si (fr_si (fr_si fu (by simp)) (by simp)) (by simp)) ?_ ?_ ?_ ?_
          · simp [m_si]
          · simpa [m_si] using u3
          · simp [m_si]
          · rw [if_pos (by omega), show f + 1 - f = 0 + 1 by omega]
            unfold bD at eD
            simp only [Bool.and_eq_true, decide_eq_true_eq] at eD
            simp only [m_si, if_true]
            rw [pk_sub (by omega)]
            simp [vl]
      · simp only [Bool.toNat_true]
        simp (disch := omega) only [i_leT, i_leF, i_ltT, i_ltF, i_eqT, i_eqF, i_okT, i_n1, i_n2, i_n3, i_n4, i_n5, i_n6, i_n7, i_n8, k_cl, if_true, if_false]
        refine word f (by omega) eL (n - (f + 1)) (f + 1) _ (by omega) (by omega) rfl (fr_si (fr_si fu (by simp)) (by simp)) ?_ ?_ ?_
        · simp [m_si]
        · simpa [m_si] using u3
        · simp [m_si]
  -- blanks
  have skip : ∀ m q u, q + m = n → SK B n p = SK B n q → fr [] [(1, 2), (1, 3), (1, 4), (1, 5)] s u → u.1 1 3 = nI q → ∃ w, a_run none shp pX5_next 8 [some (.ref 1), none, none] [] u = some (.inl none, w) ∧ fr [] [(1, 2), (1, 3), (1, 4), (1, 5)] s w ∧ XT B n (SK B n p) w := by
    intro m
    induction m with
    | zero =>
      intro q u hq hs fu u3
      have u6 : u.1 1 6 = nI n := by rw [fu.1 1 6 (by simp) (by decide)]; exact h6
      have hqn : q = n := by omega
      rw [tX5_next_8, u6]
      obtain ⟨w, h1, h2, h3⟩ := kind q u (by omega) (by rw [hqn, SK_n]) fu u3
      rw [hs, show SK B n q = q from by rw [hqn, SK_n]]
      refine ⟨w, ?_, h2, h3⟩
      rw [h1, u3]
      simp (disch := omega) only [i_leT, i_leF, i_ltT, i_ltF, i_eqT, i_eqF, i_okT, i_n1, i_n2, i_n3, i_n4, i_n5, i_n6, i_n7, i_n8, k_cl, if_true, if_false]
    | succ m ih =>
      intro q u hq hs fu u3
      have u6 : u.1 1 6 = nI n := by rw [fu.1 1 6 (by simp) (by decide)]; exact h6
      have ub : xB B n u := xB_fr hb (fun j => fu.1 2 j (by simp) (by simp))
      have hsq := SK_st (B := B) (show q < n by omega)
      have hat := sX5_atT hn u6 ub (show q < n by omega)
      rw [tX5_next_8, u6]
      cases e : bB (B q)
      · rw [e] at hsq
        have hsq2 : SK B n q = q := by simpa using hsq
        obtain ⟨w, h1, h2, h3⟩ := kind q u (by omega) hsq2 fu u3
        rw [hs, hsq2]
        refine ⟨w, ?_, h2, h3⟩
        rw [u3] at h1 ⊢
        rw [i_leF (by omega) (by omega), hat, b_bi, tX5_next_27, sX5_isBlank (hB q (by omega)), b_bi, tX5_next_30, e, u3]
        try simp only [k_lit, k_nN, k_ofN]
        simp only [Bool.toNat_false]
        simp (disch := omega) only [i_leT, i_leF, i_ltT, i_ltF, i_eqT, i_eqF, i_okT, i_n1, i_n2, i_n3, i_n4, i_n5, i_n6, i_n7, i_n8, k_cl, if_true, if_false]
        exact h1
      · rw [e] at hsq
        have hsq2 : SK B n q = SK B n (q + 1) := by simpa using hsq
        rw [u3, i_leF (by omega) (by omega), hat, b_bi, tX5_next_27, sX5_isBlank (hB q (by omega)), b_bi, tX5_next_30, e, u3]
        try simp only [k_lit, k_nN, k_ofN, nI_add]
        simp only [Bool.toNat_true]
        simp (disch := omega) only [i_leT, i_leF, i_ltT, i_ltF, i_eqT, i_eqF, i_okT, i_n1, i_n2, i_n3, i_n4, i_n5, i_n6, i_n7, i_n8, k_cl, if_true, if_false]
        exact ih (q + 1) _ (by omega) (by rw [hs, hsq2]) (fr_si fu (by simp)) (by simp [m_si])
  rw [tX5_next]
  exact skip (n - p) p _ (by omega) rfl (fr_si (fr_rfl s) (by simp)) (by simp [m_si, h5])
