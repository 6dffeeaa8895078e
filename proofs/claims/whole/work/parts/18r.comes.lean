/-! ===== what one can come to: the search of the model ===== -/
def cntP (p : Nat → Bool) : Nat → Nat
  | 0 => 0
  | n + 1 => cntP p n + (p n).toNat
theorem tn_le (b : Bool) : b.toNat ≤ 1 := by cases b <;> simp
theorem cntP_le (p : Nat → Bool) : ∀ n, cntP p n ≤ n
  | 0 => Nat.le_refl 0
  | n + 1 => by
    have := cntP_le p n
    have := tn_le (p n)
    unfold cntP
    omega
theorem cntP_lt {p : Nat → Bool} {v : Nat} (hp : p v = false) : ∀ n, v < n → cntP p n < n
  | 0, h => absurd h (Nat.not_lt_zero v)
  | n + 1, h => by
    unfold cntP
    by_cases e : v = n
    · subst e
      have := cntP_le p v
      rw [hp]
      simp
      omega
    · have := cntP_lt hp n (by omega)
      have := tn_le (p n)
      omega
theorem cntP_cg {p q : Nat → Bool} : ∀ {n : Nat}, (∀ j, j < n → p j = q j) → cntP p n = cntP q n
  | 0, _ => rfl
  | n + 1, h => by
    unfold cntP
    rw [cntP_cg (fun j hj => h j (by omega)), h n (by omega)]
theorem cntP_up {p q : Nat → Bool} {v : Nat} (hp : p v = false) (hq : q v = true) (hn : ∀ j, j ≠ v → q j = p j) : ∀ n, v < n → cntP q n = cntP p n + 1
  | 0, h => absurd h (Nat.not_lt_zero v)
  | n + 1, h => by
    unfold cntP
    by_cases e : v = n
    · subst e
      rw [hp, hq, cntP_cg (p := q) (q := p) (fun j hj => hn j (by omega))]
      simp
    · rw [cntP_up hp hq hn n (by omega), hn n (fun c => e c.symm)]
      omega
/-- what may be come to -/
def al (nb : Nat) (g : Nat → Int32) (x y b : Nat) : Prop := x.testBit b = true ∨ (y.testBit b = true ∧ tkb nb g x b = true)
def cJ (nb : Nat) (g : Nat → Int32) (x y : Nat) (s : aMem) (Q A : Nat) (q : Nat → Nat) : Prop := s.1 43 1 = nI nb ∧ s.1 62 = g ∧ s.1 43 40 = nI Q ∧ cntP (fun v => decide (s.1 60 v ≠ nN)) 4096 = Q ∧ (∀ i, i < Q → s.1 61 i = nI (q i) ∧ q i < 2 ^ nb ∧ (∃ d, d < Q ∧ s.1 60 (q i) = nI d) ∧ ∀ b, (q i).testBit b = true → A.testBit b = true) ∧ (∀ v, v < 4096 → s.1 60 v ≠ nN → ∃ i, i < Q ∧ q i = v) ∧ A < 2 ^ nb ∧ ∀ b, A.testBit b = true → al nb g x y b
def cE (d : Nat) (s s' : aMem) (Q Q' : Nat) (q q' : Nat → Nat) : Prop := Q ≤ Q' ∧ (∀ i, i < Q → q' i = q i) ∧ (∀ v, s.1 60 v ≠ nN → s'.1 60 v = s.1 60 v) ∧ (∀ i, Q ≤ i → i < Q' → s'.1 60 (q' i) = nI (d + 1)) ∧ fr [60, 61] [(43, 40)] s s'
theorem cE_rfl (d : Nat) (s : aMem) (Q : Nat) (q : Nat → Nat) : cE d s s Q Q q q := ⟨Nat.le_refl _, fun _ _ => rfl, fun _ _ => rfl, fun i h1 h2 => by omega, fr_rfl s⟩
theorem cE_tr {d : Nat} (hd : d + 1 < 2147483648) {s s1 s2 : aMem} {Q Q1 Q2 : Nat} {q q1 q2 : Nat → Nat} (h1 : cE d s s1 Q Q1 q q1) (h2 : cE d s1 s2 Q1 Q2 q1 q2) : cE d s s2 Q Q2 q q2 := by
  obtain ⟨a1, a2, a3, a4, a5⟩ := h1
  obtain ⟨b1, b2, b3, b4, b5⟩ := h2
  refine ⟨Nat.le_trans a1 b1, fun i hi => by rw [b2 i (by omega), a2 i hi], fun v hv => ?_, fun i h1 h2 => ?_, fr_trans a5 b5⟩
  · rw [b3 v (by rw [a3 v hv]; exact hv), a3 v hv]
  · by_cases e : i < Q1
    · rw [b2 i e, b3 _ (by rw [a4 i h1 e]; exact fun c => nN_ne hd c.symm), a4 i h1 e]
    · exact b4 i (by omega) h2
/-- one book left, another taken -/
def swp (v a b : Nat) : Nat := (v ^^^ (v &&& 2 ^ a)) ||| 2 ^ b
theorem swp_bit (v a b c : Nat) : (swp v a b).testBit c = ((v.testBit c && !decide (a = c)) || decide (b = c)) := by
  unfold swp
  rw [Nat.testBit_or, Nat.testBit_xor, Nat.testBit_and, pow_bit, pow_bit]
  cases v.testBit c <;> cases decide (a = c) <;> rfl
theorem lt12 {x nb : Nat} (h : x < 2 ^ nb) (hnb : nb ≤ 12) : x < 4096 := by
  have : 2 ^ nb ≤ 2 ^ 12 := Nat.pow_le_pow_right (by decide) hnb
  omega
theorem swp_lt {v a b nb : Nat} (hv : v < 2 ^ nb) (hb : b < nb) : swp v a b < 2 ^ nb := by
  apply set_lt
  intro c hc
  rw [swp_bit, set_hi hv hc]
  have : ¬ b = c := by omega
  simp [this]
theorem k_swp {v a b : Nat} (ha : a < 31) (hb : b < 31) : nI v &&& ((nI 1 <<< (nI a &&& nI 31)) ^^^ nN) ||| (nI 1 <<< (nI b &&& nI 31)) = nI (swp v a b) := by
  rw [k_one ha, k_one hb, k_not, k_or]
  rfl
theorem al_lt {nb x y b : Nat} {g : Nat → Int32} (hx : x < 2 ^ nb) (hy : y < 2 ^ nb) (h : al nb g x y b) : b < nb := by
  rcases h with h | ⟨h, -⟩
  · by_cases e : b < nb
    · exact e
    · rw [set_hi hx (by omega)] at h; cases h
  · by_cases e : b < nb
    · exact e
    · rw [set_hi hy (by omega)] at h; cases h
theorem al_st {nb x y a b : Nat} {g : Nat → Int32} (hx : x < 2 ^ nb) (hy : y < 2 ^ nb) (ha : al nb g x y a) (hb : y.testBit b = true) (h : g b < g a) : al nb g x y b := by
  refine .inr ⟨hb, ?_⟩
  unfold tkb
  rw [ex_iff]
  have hl := al_lt hx hy ha
  rcases ha with h1 | ⟨-, h1⟩
  · exact ⟨a, hl, by simp [h1, h]⟩
  · unfold tkb at h1
    rw [ex_iff] at h1
    obtain ⟨c, hc, h2⟩ := h1
    simp only [Bool.and_eq_true, decide_eq_true_eq] at h2
    exact ⟨c, hc, by simp [h2.1, Int32.lt_trans h h2.2]⟩
/-- a new one is put into the queue -/
theorem c_put {nb x y Q A v a b d : Nat} {g : Nat → Int32} {s : aMem} {q : Nat → Nat} (hnb : nb ≤ 12) (hx : x < 2 ^ nb) (hy : y < 2 ^ nb) (hJ : cJ nb g x y s Q A q) (hv : ∃ i, i < Q ∧ q i = v) (hd : s.1 60 v = nI d) (hd4 : d < Q) (hva : v.testBit a = true) (hb : b < nb) (hyb : y.testBit b = true) (hgb : g b < g a) (hn : s.1 60 (swp v a b) = nN) : Q < 4096 ∧ ∃ q', cJ nb g x y (a_si (a_si (a_si s 60 (swp v a b) (nI (d + 1))) 61 Q (nI (swp v a b))) 43 40 (nI (Q + 1))) (Q + 1) (A ||| swp v a b) q' ∧ cE d s (a_si (a_si (a_si s 60 (swp v a b) (nI (d + 1))) 61 Q (nI (swp v a b))) 43 40 (nI (Q + 1))) Q (Q + 1) q q' ∧ q' Q = swp v a b := by
  obtain ⟨j1, j2, j3, j4, j5, j6, j7, j8⟩ := hJ
  obtain ⟨i0, hi0, e0⟩ := hv
  obtain ⟨p1, p2, -, p4⟩ := j5 i0 hi0
  rw [e0] at p2 p4
  have hw : swp v a b < 2 ^ nb := swp_lt p2 hb
  have hw2 := lt12 hw hnb
  have hQ : Q < 4096 := by
    have := cntP_lt (p := fun v => decide (s.1 60 v ≠ nN)) (v := swp v a b) (by simp [hn]) 4096 hw2
    omega
  have hall : ∀ c, (swp v a b).testBit c = true → al nb g x y c := by
    intro c hc
    rw [swp_bit] at hc
    by_cases e : b = c
    · subst e
      exact al_st hx hy (j8 a (p4 a hva)) hyb hgb
    · simp only [e, decide_false, Bool.or_false, Bool.and_eq_true] at hc
      exact j8 c (p4 c hc.1)
  have u60 : ∀ k, (a_si (a_si (a_si s 60 (swp v a b) (nI (d + 1))) 61 Q (nI (swp v a b))) 43 40 (nI (Q + 1))).1 60 k = if k = swp v a b then nI (d + 1) else s.1 60 k := by
    intro k
    simp [m_si]
  have u61 : ∀ k, (a_si (a_si (a_si s 60 (swp v a b) (nI (d + 1))) 61 Q (nI (swp v a b))) 43 40 (nI (Q + 1))).1 61 k = if k = Q then nI (swp v a b) else s.1 61 k := by
    intro k
    simp [m_si]
  have hqn : ∀ i, i < Q → q i ≠ swp v a b := by
    intro i hi e
    obtain ⟨-, -, ⟨d', hd', h⟩, -⟩ := j5 i hi
    rw [e, hn] at h
    exact nN_ne (by omega) h
  refine ⟨hQ, fun i => if i = Q then swp v a b else q i, ⟨?_, ?_, ?_, ?_, fun i hi => ?_, fun w hw3 hwn => ?_, ?_, fun c hc => ?_⟩, ⟨by omega, fun i hi => ?_, fun w hwn => ?_, fun i h1 h2 => ?_, ?_⟩, by simp⟩
  · simpa [m_si] using j1
  · funext k
    simp [m_si, j2]
  · simp [m_si]
  · rw [cntP_up (p := fun v => decide (s.1 60 v ≠ nN)) (v := swp v a b) (by simp [hn]) (by simp only [u60]; simp [k_nN1 (n := d + 1) (by omega)]) (fun j hj => by simp only [u60]; simp [hj]) 4096 hw2, j4]
  · rw [u61]
    by_cases e : i = Q
    · subst e
      simp only [if_true]
      refine ⟨trivial, hw, ⟨d + 1, by omega, by rw [u60, if_pos rfl]⟩, fun c hc => ?_⟩
      rw [Nat.testBit_or, hc, Bool.or_true]
    · simp only [e, if_false]
      obtain ⟨g1, g2, ⟨d', g3, g4⟩, g5⟩ := j5 i (by omega)
      refine ⟨g1, g2, ⟨d', by omega, by rw [u60, if_neg (hqn i (by omega))]; exact g4⟩, fun c hc => ?_⟩
      rw [Nat.testBit_or, g5 c hc, Bool.true_or]
  · rw [u60] at hwn
    by_cases e : w = swp v a b
    · exact ⟨Q, by omega, by simp [e]⟩
    · rw [if_neg e] at hwn
      obtain ⟨i, hi, h⟩ := j6 w hw3 hwn
      refine ⟨i, by omega, ?_⟩
      simp only [show i ≠ Q by omega, if_false]
      exact h
  · exact Nat.or_lt_two_pow j7 hw
  · rw [Nat.testBit_or, Bool.or_eq_true] at hc
    exact hc.elim (j8 c) (hall c)
  · simp only [show i ≠ Q by omega, if_false]
  · rw [u60]
    by_cases e : w = swp v a b
    · rw [e] at hwn; exact absurd hn hwn
    · rw [if_neg e]
  · simp only [show i = Q by omega, if_true]
    rw [u60, if_pos rfl]
  · exact fr_si (fr_si (fr_si (fr_rfl s) (by simp)) (by simp)) (by simp)
theorem tb0 {x b : Nat} (hx : x < 2147483648) (hb : b < 32) : ((nI x >>> (nI b &&& nI 31)) &&& nI 1 = nI 0) = (x.testBit b = false) := by
  rw [k_bit hx hb]
  apply propext
  cases x.testBit b
  · simp
  · simp only [Bool.toNat_true]
    exact ⟨fun e => absurd ((nI_eq (by omega) (by omega)).mp e) (by omega), fun e => absurd e (by simp)⟩
theorem tb1 {x b : Nat} (hx : x < 2147483648) (hb : b < 32) : ((nI x >>> (nI b &&& nI 31)) &&& nI 1 = nI 1) = (x.testBit b = true) := by
  rw [k_bit hx hb]
  apply propext
  cases x.testBit b
  · simp only [Bool.toNat_false]
    exact ⟨fun e => absurd ((nI_eq (by omega) (by omega)).mp e) (by omega), fun e => absurd e (by simp)⟩
  · simp
theorem ib0T {α : Type} {x b : Nat} {A B : α} [Decidable ((nI x >>> (nI b &&& nI 31)) &&& nI 1 = nI 0)] (h : x.testBit b = false) (hx : x < 2147483648) (hb : b < 32) : (if (nI x >>> (nI b &&& nI 31)) &&& nI 1 = nI 0 then A else B) = A := if_pos (by rw [tb0 hx hb]; exact h)
theorem ib0F {α : Type} {x b : Nat} {A B : α} [Decidable ((nI x >>> (nI b &&& nI 31)) &&& nI 1 = nI 0)] (h : x.testBit b = true) (hx : x < 2147483648) (hb : b < 32) : (if (nI x >>> (nI b &&& nI 31)) &&& nI 1 = nI 0 then A else B) = B := if_neg (by rw [tb0 hx hb, h]; simp)
theorem ib1T {α : Type} {x b : Nat} {A B : α} [Decidable ((nI x >>> (nI b &&& nI 31)) &&& nI 1 = nI 1)] (h : x.testBit b = true) (hx : x < 2147483648) (hb : b < 32) : (if (nI x >>> (nI b &&& nI 31)) &&& nI 1 = nI 1 then A else B) = A := if_pos (by rw [tb1 hx hb]; exact h)
theorem ib1F {α : Type} {x b : Nat} {A B : α} [Decidable ((nI x >>> (nI b &&& nI 31)) &&& nI 1 = nI 1)] (h : x.testBit b = false) (hx : x < 2147483648) (hb : b < 32) : (if (nI x >>> (nI b &&& nI 31)) &&& nI 1 = nI 1 then A else B) = B := if_neg (by rw [tb1 hx hb, h]; simp)
theorem c_92 {nb x y v a d k : Nat} {g : Nat → Int32} (hnb : nb ≤ 12) (hx : x < 2 ^ nb) (hy : y < 2 ^ nb) (ha : a < nb) (hva : v.testBit a = true) : ∀ m b (s : aMem) (Q A : Nat) (q : Nat → Nat), b + m = nb → cJ nb g x y s Q A q → (∃ i, i < Q ∧ q i = v) → s.1 60 v = nI d → d < Q → ∃ s' Q' A' q', a_run none shp pX9_comesTo 92 [some (.ref 43), none, some (.int (nI y)), some (.int (nI A)), some (.int (nI k)), some (.int (nI v)), some (.int (nI a)), some (.int (nI b)), none] [] s = a_run none shp pX9_comesTo 67 [some (.ref 43), none, some (.int (nI y)), some (.int (nI A')), some (.int (nI k)), some (.int (nI v)), some (.int (nI (a + 1))), none, none] [] s' ∧ cJ nb g x y s' Q' A' q' ∧ cE d s s' Q Q' q q' ∧ ∀ c, b ≤ c → c < nb → v.testBit c = false → y.testBit c = true → g c < g a → ∃ i, i < Q' ∧ (q' i).testBit c = true := by
  intro m
  induction m with
  | zero =>
    intro b s Q A q hb hJ hi hd hdQ
    refine ⟨s, Q, A, q, ?_, hJ, cE_rfl _ _ _ _, fun c h1 h2 => by omega⟩
    rw [tX9_comesTo_92, hJ.1]
    try simp only [k_lit, k_nN, k_ofN]
    rw [i_leT (by omega) (by omega), nI_add]
  | succ m ih =>
    intro b s Q A q hb hJ hi hd hdQ
    obtain ⟨i0, hi0, e0⟩ := id hi
    have hv : v < 2 ^ nb := by rw [← e0]; exact (hJ.2.2.2.2.1 i0 hi0).2.1
    have hv4 := lt12 hv hnb
    have hy4 := lt12 hy hnb
    have hw4 := lt12 (swp_lt (a := a) hv (show b < nb by omega)) hnb
    have hQ4 : Q ≤ 4096 := by rw [← hJ.2.2.2.1]; exact cntP_le _ _
    -- nothing is done at b
    have skip : a_run none shp pX9_comesTo 92 [some (.ref 43), none, some (.int (nI y)), some (.int (nI A)), some (.int (nI k)), some (.int (nI v)), some (.int (nI a)), some (.int (nI b)), none] [] s = a_run none shp pX9_comesTo 92 [some (.ref 43), none, some (.int (nI y)), some (.int (nI A)), some (.int (nI k)), some (.int (nI v)), some (.int (nI a)), some (.int (nI (b + 1))), none] [] s → (v.testBit b = false → y.testBit b = true → g b < g a → ∃ i, i < Q ∧ (q i).testBit b = true) → ∃ s' Q' A' q', a_run none shp pX9_comesTo 92 [some (.ref 43), none, some (.int (nI y)), some (.int (nI A)), some (.int (nI k)), some (.int (nI v)), some (.int (nI a)), some (.int (nI b)), none] [] s = a_run none shp pX9_comesTo 67 [some (.ref 43), none, some (.int (nI y)), some (.int (nI A')), some (.int (nI k)), some (.int (nI v)), some (.int (nI (a + 1))), none, none] [] s' ∧ cJ nb g x y s' Q' A' q' ∧ cE d s s' Q Q' q q' ∧ ∀ c, b ≤ c → c < nb → v.testBit c = false → y.testBit c = true → g c < g a → ∃ i, i < Q' ∧ (q' i).testBit c = true := by
      intro he hcov
      obtain ⟨s', Q', A', q', r1, r2, r3, r4⟩ := ih (b + 1) s Q A q (by omega) hJ hi hd hdQ
      refine ⟨s', Q', A', q', he.trans r1, r2, r3, fun c h1 h2 h3 h4 h5 => ?_⟩
      by_cases e : c = b
      · subst e
        obtain ⟨i, hi2, hi3⟩ := hcov h3 h4 h5
        exact ⟨i, by have := r3.1; omega, by rw [r3.2.1 i hi2]; exact hi3⟩
      · exact r4 c (by omega) h2 h3 h4 h5
    have eq92 := tX9_comesTo_92 (nI y) (nI A) (nI k) (nI v) (nI a) (nI b) s
    simp only [k_lit, k_nN, k_ofN] at eq92
    rw [hJ.1, i_leF (by omega) (by omega)] at eq92
    by_cases h1 : v.testBit b = true
    · rw [ib1T h1 (by omega) (by omega), nI_add] at eq92
      exact skip eq92 (fun h => absurd h (by simp [h1]))
    · rw [ib1F (by simpa using h1) (by omega) (by omega)] at eq92
      by_cases h2 : y.testBit b = false
      · rw [ib0T h2 (by omega) (by omega), nI_add] at eq92
        exact skip eq92 (fun _ h => absurd h (by simp [h2]))
      · rw [ib0F (by simpa using h2) (by omega) (by omega)] at eq92
        simp (disch := omega) only [i_okT, k_cl, nI_add, k_swp, hJ.2.2.1, hJ.2.1] at eq92
        by_cases h3 : g b < g a
        · rw [if_pos h3] at eq92
          by_cases h4 : s.1 60 (swp v a b) = nN
          · have hyb : y.testBit b = true := by simpa using h2
            obtain ⟨hQ, q1, J1, E1, hq1⟩ := c_put hnb hx hy hJ hi hd hdQ hva (show b < nb by omega) hyb h3 h4
            rw [if_pos h4, hd] at eq92
            simp (disch := omega) only [i_okT, k_cl, nI_add, k_or] at eq92
            obtain ⟨s', Q', A', q', r1, r2, r3, r4⟩ := ih (b + 1) _ (Q + 1) _ q1 (by omega) J1 ⟨i0, by omega, by rw [E1.2.1 i0 hi0]; exact e0⟩ (by rw [E1.2.2.1 v (by rw [hd]; exact fun c => nN_ne (by omega) c.symm)]; exact hd) (by omega)
            refine ⟨s', Q', A', q', eq92.trans r1, r2, cE_tr (by omega) E1 r3, fun c g1 g2 g3 g4 g5 => ?_⟩
            by_cases e : c = b
            · subst e
              refine ⟨Q, by have := r3.1; omega, ?_⟩
              rw [r3.2.1 Q (by omega), hq1, swp_bit]
              simp
            · exact r4 c (by omega) g2 g3 g4 g5
          · rw [if_neg h4] at eq92
            refine skip eq92 (fun _ _ _ => ?_)
            obtain ⟨i, hi2, hi3⟩ := hJ.2.2.2.2.2.1 _ hw4 h4
            refine ⟨i, hi2, ?_⟩
            rw [hi3, swp_bit]
            simp
        · rw [if_neg h3] at eq92
          exact skip eq92 (fun _ _ h => absurd h h3)
theorem c_67 {nb x y v d k : Nat} {g : Nat → Int32} (hnb : nb ≤ 12) (hx : x < 2 ^ nb) (hy : y < 2 ^ nb) : ∀ m a (s : aMem) (Q A : Nat) (q : Nat → Nat), a + m = nb → cJ nb g x y s Q A q → (∃ i, i < Q ∧ q i = v) → s.1 60 v = nI d → d < Q → ∃ s' Q' A' q', a_run none shp pX9_comesTo 67 [some (.ref 43), none, some (.int (nI y)), some (.int (nI A)), some (.int (nI k)), some (.int (nI v)), some (.int (nI a)), none, none] [] s = a_run none shp pX9_comesTo 46 [some (.ref 43), none, some (.int (nI y)), some (.int (nI A')), some (.int (nI (k + 1))), none, none, none, none] [] s' ∧ cJ nb g x y s' Q' A' q' ∧ cE d s s' Q Q' q q' ∧ ∀ e c, a ≤ e → e < nb → c < nb → v.testBit e = true → v.testBit c = false → y.testBit c = true → g c < g e → ∃ i, i < Q' ∧ (q' i).testBit c = true := by
  intro m
  induction m with
  | zero =>
    intro a s Q A q ha hJ hi hd hdQ
    refine ⟨s, Q, A, q, ?_, hJ, cE_rfl _ _ _ _, fun e c h1 h2 => by omega⟩
    rw [tX9_comesTo_67, hJ.1]
    try simp only [k_lit, k_nN, k_ofN]
    rw [i_leT (by omega) (by omega), nI_add]
  | succ m ih =>
    intro a s Q A q ha hJ hi hd hdQ
    obtain ⟨i0, hi0, e0⟩ := id hi
    have hv : v < 2 ^ nb := by rw [← e0]; exact (hJ.2.2.2.2.1 i0 hi0).2.1
    have hv4 := lt12 hv hnb
    have hQ4 : Q ≤ 4096 := by rw [← hJ.2.2.2.1]; exact cntP_le _ _
    have eq67 := tX9_comesTo_67 (nI y) (nI A) (nI k) (nI v) (nI a) s
    simp only [k_lit, k_nN, k_ofN] at eq67
    rw [hJ.1, i_leF (by omega) (by omega)] at eq67
    simp only [nI_add] at eq67
    by_cases h : v.testBit a = false
    · rw [ib0T h (by omega) (by omega)] at eq67
      obtain ⟨s', Q', A', q', r1, r2, r3, r4⟩ := ih (a + 1) s Q A q (by omega) hJ hi hd hdQ
      refine ⟨s', Q', A', q', eq67.trans r1, r2, r3, fun e c h1 h2 h3 h4 => ?_⟩
      by_cases ee : e = a
      · subst ee
        rw [h] at h4
        cases h4
      · exact r4 e c (by omega) h2 h3 h4
    · have hva : v.testBit a = true := by simpa using h
      rw [ib0F hva (by omega) (by omega)] at eq67
      obtain ⟨s1, Q1, A1, q1, p1, p2, p3, p4⟩ := c_92 (k := k) (d := d) hnb hx hy (show a < nb by omega) hva nb 0 s Q A q (by omega) hJ hi hd hdQ
      obtain ⟨s', Q', A', q', r1, r2, r3, r4⟩ := ih (a + 1) s1 Q1 A1 q1 (by omega) p2 ⟨i0, by have := p3.1; omega, by rw [p3.2.1 i0 hi0]; exact e0⟩ (by rw [p3.2.2.1 v (by rw [hd]; exact fun c => nN_ne (by omega) c.symm)]; exact hd) (by have := p3.1; omega)
      refine ⟨s', Q', A', q', eq67.trans (p1.trans r1), r2, cE_tr (by omega) p3 r3, fun e c h1 h2 h3 h4 h5 h6 h7 => ?_⟩
      by_cases ee : e = a
      · subst ee
        obtain ⟨i, hi2, hi3⟩ := p4 c (by omega) h3 h5 h6 h7
        exact ⟨i, by have := r3.1; omega, by rw [r3.2.1 i hi2]; exact hi3⟩
      · exact r4 e c (by omega) h2 h3 h4 h5 h6 h7
theorem c_46 {nb x y : Nat} {g : Nat → Int32} (hnb : nb ≤ 12) (hx : x < 2 ^ nb) (hy : y < 2 ^ nb) : ∀ m k (s : aMem) (Q A : Nat) (q : Nat → Nat), k + m = 4096 → cJ nb g x y s Q A q → ∃ s' Q' A' q', a_run none shp pX9_comesTo 46 [some (.ref 43), none, some (.int (nI y)), some (.int (nI A)), some (.int (nI k)), none, none, none, none] [] s = some (.inl (some (.int (nI A'))), s') ∧ cJ nb g x y s' Q' A' q' ∧ (Q ≤ Q' ∧ (∀ i, i < Q → q' i = q i) ∧ (∀ v, s.1 60 v ≠ nN → s'.1 60 v = s.1 60 v) ∧ fr [60, 61] [(43, 40)] s s') := by
  intro m
  induction m with
  | zero =>
    intro k s Q A q hk hJ
    have hQ4 : Q ≤ 4096 := by rw [← hJ.2.2.2.1]; exact cntP_le _ _
    refine ⟨s, Q, A, q, ?_, hJ, Nat.le_refl _, fun _ _ => rfl, fun _ _ => rfl, fr_rfl s⟩
    rw [tX9_comesTo_46, hJ.2.2.1]
    simp (disch := omega) only [i_leT, i_leF, i_ltT, i_ltF, i_eqT, i_eqF, i_okT, i_n1, i_n2, i_n3, i_n4, i_n5, i_n6, i_n7, i_n8, k_cl, if_true, if_false]
  | succ m ih =>
    intro k s Q A q hk hJ
    have hQ4 : Q ≤ 4096 := by rw [← hJ.2.2.2.1]; exact cntP_le _ _
    by_cases hkQ : Q ≤ k
    · refine ⟨s, Q, A, q, ?_, hJ, Nat.le_refl _, fun _ _ => rfl, fun _ _ => rfl, fr_rfl s⟩
      rw [tX9_comesTo_46, hJ.2.2.1]
      simp (disch := omega) only [i_leT, i_leF, i_ltT, i_ltF, i_eqT, i_eqF, i_okT, i_n1, i_n2, i_n3, i_n4, i_n5, i_n6, i_n7, i_n8, k_cl, if_true, if_false]
    · obtain ⟨g1, g2, ⟨d, g3, g4⟩, g5⟩ := hJ.2.2.2.2.1 k (by omega)
      obtain ⟨s1, Q1, A1, q1, p1, p2, p3, -⟩ := c_67 (k := k) (d := d) (v := q k) hnb hx hy nb 0 s Q A q (by omega) hJ ⟨k, by omega, rfl⟩ g4 g3
      obtain ⟨s', Q', A', q', r1, r2, r3, r4, r5, r6⟩ := ih (k + 1) s1 Q1 A1 q1 (by omega) p2
      refine ⟨s', Q', A', q', ?_, r2, Nat.le_trans p3.1 r3, fun i hi => by rw [r4 i (by have := p3.1; omega), p3.2.1 i hi], fun v hv => by rw [r5 v (by rw [p3.2.2.1 v hv]; exact hv), p3.2.2.1 v hv], fr_trans p3.2.2.2.2 r6⟩
      rw [tX9_comesTo_46, hJ.2.2.1]
      try simp only [k_lit, k_nN, k_ofN]
      simp (disch := omega) only [i_leT, i_leF, i_ltT, i_ltF, i_eqT, i_eqF, i_okT, i_n1, i_n2, i_n3, i_n4, i_n5, i_n6, i_n7, i_n8, k_cl, if_true, if_false]
      rw [g1, p1, r1]
def rch (nb : Nat) (g : Nat → Int32) (x y : Nat) : Nat := x ||| (y &&& msk nb (tkb nb g x))
theorem rch_bit (nb : Nat) (g : Nat → Int32) {x y : Nat} (hy : y < 2 ^ nb) (b : Nat) : (rch nb g x y).testBit b = true ↔ al nb g x y b := by
  unfold rch al
  rw [Nat.testBit_or, Nat.testBit_and, msk_bit, Bool.or_eq_true, Bool.and_eq_true, Bool.and_eq_true]
  constructor
  · rintro (h | ⟨h1, -, h2⟩)
    · exact .inl h
    · exact .inr ⟨h1, h2⟩
  · rintro (h | ⟨h1, h2⟩)
    · exact .inl h
    · refine .inr ⟨h1, ?_, h2⟩
      by_cases e : b < nb
      · simp [e]
      · rw [set_hi hy (by omega)] at h1; cases h1
theorem sX9_comesTo {s : aMem} {nb x y : Nat} (hnb : nb ≤ 12) (h1 : s.1 43 1 = nI nb) (hx : x < 2 ^ nb) (hy : y < 2 ^ nb) : ∃ (u : aMem) (Q Q1 : Nat) (q : Nat → Nat), fX9_comesTo [.ref 43, .int (nI x), .int (nI y)] s = some (.inl (some (.int (nI (rch nb (s.1 62) x y)))), u) ∧ fr [60, 61] [(43, 40)] s u ∧ u.1 43 40 = nI Q ∧ Q ≤ 4096 ∧ (∀ i, i < Q → u.1 61 i = nI (q i) ∧ q i < 4096 ∧ ∀ b, (q i).testBit b = true → al nb (s.1 62) x y b) ∧ 1 ≤ Q1 ∧ Q1 ≤ Q ∧ q 0 = x ∧ u.1 60 x = nI 0 ∧ (∀ i, 1 ≤ i → i < Q1 → u.1 60 (q i) = nI 1) ∧ (∀ b, y.testBit b = true → tkb nb (s.1 62) x b = true → x.testBit b = false → ∃ i, i < Q1 ∧ (q i).testBit b = true) := by
  have hx4 := lt12 hx hnb
  have key : ∀ m k t, k + m = 4096 → fr [60] [] s t → (∀ j, j < k → t.1 60 j = nN) → ∃ t', a_run none shp pX9_comesTo 2 [some (.ref 43), some (.int (nI x)), some (.int (nI y)), some (.int (nI k)), none, none, none, none, none] [] t = a_run none shp pX9_comesTo 46 [some (.ref 43), none, some (.int (nI y)), some (.int (nI x)), some (.int (nI 0)), none, none, none, none] [] (a_si (a_si (a_si t' 60 x (nI 0)) 61 0 (nI x)) 43 40 (nI 1)) ∧ fr [60] [] s t' ∧ ∀ j, j < 4096 → t'.1 60 j = nN := by
    intro m
    induction m with
    | zero =>
      intro k t hk f ht
      refine ⟨t, ?_, f, fun j hj => ht j (by omega)⟩
      rw [tX9_comesTo_2]
      try simp only [k_lit, k_nN, k_ofN]
      simp (disch := omega) only [i_leT, i_leF, i_ltT, i_ltF, i_eqT, i_eqF, i_okT, i_n1, i_n2, i_n3, i_n4, i_n5, i_n6, i_n7, i_n8, k_cl, if_true, if_false]
    | succ m ih =>
      intro k t hk f ht
      rw [tX9_comesTo_2]
      try simp only [k_lit, k_nN, k_ofN]
      simp (disch := omega) only [i_leT, i_leF, i_ltT, i_ltF, i_eqT, i_eqF, i_okT, i_n1, i_n2, i_n3, i_n4, i_n5, i_n6, i_n7, i_n8, k_cl, if_true, if_false, nI_add]
      refine ih (k + 1) _ (by omega) (fr_si f (by simp)) (fun j hj => ?_)
      by_cases e : j = k
      · simp [m_si, e]
      · simpa [m_si, e] using ht j (by omega)
  obtain ⟨t, e1, f1, ht⟩ := key 4096 0 s (by omega) (fr_rfl s) (fun j h => absurd h (Nat.not_lt_zero j))
  have u60 : ∀ k, (a_si (a_si (a_si t 60 x (nI 0)) 61 0 (nI x)) 43 40 (nI 1)).1 60 k = if k = x then nI 0 else t.1 60 k := by
    intro k
    simp [m_si]
  have z0 : nI 0 ≠ nN := fun c => nN_ne (by omega) c.symm
  have c0 : ∀ n, n ≤ 4096 → cntP (fun v => decide (t.1 60 v ≠ nN)) n = 0 := by
    intro n
    induction n with
    | zero => intro _; rfl
    | succ n ih =>
      intro hn
      unfold cntP
      rw [ih (by omega), ht n (by omega)]
      simp
  have hJ : cJ nb (s.1 62) x y (a_si (a_si (a_si t 60 x (nI 0)) 61 0 (nI x)) 43 40 (nI 1)) 1 x (fun _ => x) := by
    refine ⟨?_, ?_, ?_, ?_, fun i hi => ⟨?_, hx, ⟨0, by omega, by rw [u60, if_pos rfl]⟩, fun b h => h⟩, fun v hv hn => ?_, hx, fun b h => .inl h⟩
    · simp [m_si, f1.1 43 1 (by decide) (by simp), h1]
    · funext k
      simp [m_si, f1.1 62 k (by decide) (by simp)]
    · simp [m_si]
    · rw [cntP_up (p := fun v => decide (t.1 60 v ≠ nN)) (v := x) (by simp [ht x hx4]) (by simp only [u60]; simp [z0]) (fun j hj => by simp only [u60]; simp [hj]) 4096 hx4, c0 4096 (by omega)]
    · have : i = 0 := by omega
      subst this
      simp [m_si]
    · rw [u60] at hn
      by_cases e : v = x
      · exact ⟨0, by omega, e.symm⟩
      · rw [if_neg e] at hn
        exact absurd (ht v hv) hn
  obtain ⟨s1, Q1, A1, q1, p1, p2, p3, p4⟩ := c_67 (k := 0) (d := 0) (v := x) hnb hx hy nb 0 _ 1 x (fun _ => x) (by omega) hJ ⟨0, by omega, rfl⟩ (by rw [u60, if_pos rfl]) (by omega)
  obtain ⟨u, Q, A, q, r1, r2, r3, r4, r5, r6⟩ := c_46 hnb hx hy 4095 1 s1 Q1 A1 q1 (by omega) p2
  have hQ4 : Q ≤ 4096 := by rw [← r2.2.2.2.1]; exact cntP_le _ _
  have q00 : q 0 = x := by rw [r4 0 (by have := p3.1; omega), p3.2.1 0 (by omega)]
  have cov : ∀ b, y.testBit b = true → tkb nb (s.1 62) x b = true → x.testBit b = false → ∃ i, i < Q1 ∧ (q i).testBit b = true := by
    intro b hb1 hb2 hb3
    unfold tkb at hb2
    rw [ex_iff] at hb2
    obtain ⟨a, ha, h2⟩ := hb2
    simp only [Bool.and_eq_true, decide_eq_true_eq] at h2
    have hbn : b < nb := by
      by_cases e : b < nb
      · exact e
      · rw [set_hi hy (by omega)] at hb1; cases hb1
    obtain ⟨i, hi, h3⟩ := p4 a b (by omega) ha hbn h2.1 hb3 hb1 h2.2
    exact ⟨i, hi, by rw [r4 i hi]; exact h3⟩
  have hA : A = rch nb (s.1 62) x y := by
    apply Nat.eq_of_testBit_eq
    intro b
    apply Bool.eq_iff_iff.mpr
    rw [rch_bit nb (s.1 62) hy]
    constructor
    · exact r2.2.2.2.2.2.2.2 b
    · rintro (h | ⟨ha, hb⟩)
      · exact (r2.2.2.2.2.1 0 (by have := p3.1; omega)).2.2.2 b (by rw [q00]; exact h)
      · cases hxb : x.testBit b
        · obtain ⟨i, hi, h3⟩ := cov b ha hb hxb
          exact (r2.2.2.2.2.1 i (by omega)).2.2.2 b h3
        · exact (r2.2.2.2.2.1 0 (by have := p3.1; omega)).2.2.2 b (by rw [q00]; exact hxb)
  have F : fr [60, 61] [(43, 40)] s (a_si (a_si (a_si t 60 x (nI 0)) 61 0 (nI x)) 43 40 (nI 1)) := fr_si (fr_si (fr_si (fr_mono f1 (by simp) (by simp)) (by simp)) (by simp)) (by simp)
  refine ⟨u, Q, Q1, q, ?_, fr_trans F (fr_trans p3.2.2.2.2 r6), r2.2.2.1, hQ4, fun i hi => ?_, p3.1, r3, q00, ?_, fun i hi1 hi2 => ?_, cov⟩
  · rw [tX9_comesTo]
    try simp only [k_lit, k_nN, k_ofN]
    rw [e1, tX9_comesTo_46]
    try simp only [k_lit, k_nN, k_ofN]
    have z1 : (a_si (a_si (a_si t 60 x (nI 0)) 61 0 (nI x)) 43 40 (nI 1)).1 43 40 = nI 1 := by simp [m_si]
    have z2 : (a_si (a_si (a_si t 60 x (nI 0)) 61 0 (nI x)) 43 40 (nI 1)).1 61 0 = nI x := by simp [m_si]
    rw [z1]
    simp (disch := omega) only [i_leT, i_leF, i_ltT, i_ltF, i_eqT, i_eqF, i_okT, i_n1, i_n2, i_n3, i_n4, i_n5, i_n6, i_n7, i_n8, k_cl, if_true, if_false]
    rw [z2, p1, r1, hA]
  · obtain ⟨g1, g2, -, g4⟩ := r2.2.2.2.2.1 i hi
    exact ⟨g1, lt12 g2 hnb, fun b hb => r2.2.2.2.2.2.2.2 b (g4 b hb)⟩
  · have w0 : (a_si (a_si (a_si t 60 x (nI 0)) 61 0 (nI x)) 43 40 (nI 1)).1 60 x = nI 0 := by rw [u60, if_pos rfl]
    have w1 : s1.1 60 x = nI 0 := by rw [p3.2.2.1 x (by rw [w0]; exact z0), w0]
    rw [r5 x (by rw [w1]; exact z0), w1]
  · have w1 := p3.2.2.2.1 i hi1 hi2
    rw [r4 i hi2, r5 _ (by rw [w1]; exact fun c => nN_ne (by omega) c.symm), w1]
