/-! ===== a search by breadth, and a table of what is known ===== -/
theorem php : ∀ (n : Nat) (g : Nat → Nat), (∀ i, i < n + 1 → g i < n) → (∀ i j, i < n + 1 → j < n + 1 → g i = g j → i = j) → False
  | 0, g, h, _ => Nat.not_lt_zero _ (h 0 (by omega))
  | n + 1, g, h, hi => by
    refine php n (fun i => if g i = n then g (n + 1) else g i) (fun i hi2 => ?_) (fun i j h1 h2 he => ?_)
    · show (if g i = n then g (n + 1) else g i) < n
      have a1 := h i (by omega)
      have a2 := h (n + 1) (by omega)
      by_cases e : g i = n
      · rw [if_pos e]
        have : g (n + 1) ≠ n := fun c => by have := hi i (n + 1) (by omega) (by omega) (e.trans c.symm); omega
        omega
      · rw [if_neg e]
        omega
    · have he2 : (if g i = n then g (n + 1) else g i) = (if g j = n then g (n + 1) else g j) := he
      by_cases e1 : g i = n
      · by_cases e2 : g j = n
        · exact hi i j (by omega) (by omega) (e1.trans e2.symm)
        · rw [if_pos e1, if_neg e2] at he2
          have := hi (n + 1) j (by omega) (by omega) he2
          omega
      · by_cases e2 : g j = n
        · rw [if_neg e1, if_pos e2] at he2
          have := hi i (n + 1) (by omega) (by omega) he2
          omega
        · rw [if_neg e1, if_neg e2] at he2
          exact hi i j (by omega) (by omega) he2
/-- come to by so many steps -/
def rc (sc : Nat → Nat → Prop) (v0 : Nat) : Nat → Nat → Prop
  | 0, v => v = v0
  | d + 1, v => ∃ u, rc sc v0 d u ∧ sc u v
def bq (sc : Nat → Nat → Prop) (v0 : Nat) (L D : Nat → Nat) (n k : Nat) : Prop := (1 ≤ n ∧ n ≤ 4000) ∧ (L 0 = v0 ∧ D 0 = 0) ∧ (∀ i j, i < n → j < n → L i = L j → i = j) ∧ (∀ i j, i ≤ j → j < n → D i ≤ D j) ∧ (∀ i, i < n → rc sc v0 (D i) (L i) ∧ D i ≤ i) ∧ (∀ j w, j < k → sc (L j) w → ∃ i, i < n ∧ L i = w ∧ D i ≤ D j + 1) ∧ (∀ i, i < n → k < n → D i ≤ D k + 1)
theorem bq_0 (sc : Nat → Nat → Prop) (v0 : Nat) : bq sc v0 (fun _ => v0) (fun _ => 0) 1 0 := by
  refine ⟨⟨by omega, by omega⟩, ⟨rfl, rfl⟩, fun i j _ _ _ => by omega, fun _ _ _ _ => Nat.le_refl _, fun i _ => ⟨rfl, Nat.zero_le _⟩, fun j w h => absurd h (Nat.not_lt_zero j), fun _ _ _ => Nat.zero_le _⟩
theorem upN_s (f : Nat → Nat) (d e : Nat) : upN f d e d = e := by simp [upN]
theorem upN_n {f : Nat → Nat} {d e i : Nat} (h : i ≠ d) : upN f d e i = f i := by simp [upN, h]
theorem bq_new {sc : Nat → Nat → Prop} {v0 n k w : Nat} {L D : Nat → Nat} (h : bq sc v0 L D n k) (hk : k < n) (hn : n < 4000) (hw : sc (L k) w) (hnew : ∀ i, i < n → L i ≠ w) : bq sc v0 (upN L n w) (upN D n (D k + 1)) (n + 1) k := by
  obtain ⟨⟨h1, h2⟩, ⟨h3, h4⟩, h5, h6, h7, h8, h9⟩ := h
  have hD9 := fun i hi => h9 i hi hk
  refine ⟨⟨by omega, by omega⟩, ⟨?_, ?_⟩, fun i j hi hj he => ?_, fun i j hij hj => ?_, fun i hi => ?_, fun j x hj hs => ?_, fun i hi _ => ?_⟩
  · rw [upN_n (by omega)]; exact h3
  · rw [upN_n (by omega)]; exact h4
  · by_cases e1 : i = n
    · by_cases e2 : j = n
      · omega
      · rw [e1, upN_s, upN_n e2] at he
        exact absurd he.symm (hnew j (by omega))
    · by_cases e2 : j = n
      · rw [e2, upN_s, upN_n e1] at he
        exact absurd he (hnew i (by omega))
      · rw [upN_n e1, upN_n e2] at he
        exact h5 i j (by omega) (by omega) he
  · by_cases e2 : j = n
    · rw [e2, upN_s]
      by_cases e1 : i = n
      · rw [e1, upN_s]; exact Nat.le_refl _
      · rw [upN_n e1]; exact hD9 i (by omega)
    · rw [upN_n e2, upN_n (by omega)]
      exact h6 i j hij (by omega)
  · by_cases e1 : i = n
    · rw [e1, upN_s, upN_s]
      exact ⟨⟨L k, (h7 k hk).1, hw⟩, by have := (h7 k hk).2; omega⟩
    · rw [upN_n e1, upN_n e1]
      exact h7 i (by omega)
  · rw [upN_n (by omega)] at hs
    obtain ⟨i, hi, e1, e2⟩ := h8 j x hj hs
    exact ⟨i, by omega, by rw [upN_n (by omega)]; exact e1, by rw [upN_n (by omega), upN_n (by omega)]; exact e2⟩
  · rw [upN_n (show k ≠ n by omega)]
    by_cases e1 : i = n
    · rw [e1, upN_s]; exact Nat.le_refl _
    · rw [upN_n e1]; exact hD9 i (by omega)
theorem bq_nxt {sc : Nat → Nat → Prop} {v0 n k : Nat} {L D : Nat → Nat} (h : bq sc v0 L D n k) (hk : k < n) (hall : ∀ w, sc (L k) w → ∃ i, i < n ∧ L i = w ∧ D i ≤ D k + 1) : bq sc v0 L D n (k + 1) := by
  obtain ⟨h1, h3, h5, h6, h7, h8, h9⟩ := h
  refine ⟨h1, h3, h5, h6, h7, fun j w hj hs => ?_, fun i hi hk2 => ?_⟩
  · by_cases e : j = k
    · subst e; exact hall w hs
    · exact h8 j w (by omega) hs
  · have := h9 i hi hk
    have := h6 k (k + 1) (by omega) hk2
    omega
theorem bq_cl {sc : Nat → Nat → Prop} {v0 n : Nat} {L D : Nat → Nat} (h : bq sc v0 L D n n) : ∀ d w, rc sc v0 d w → ∃ i, i < n ∧ L i = w ∧ D i ≤ d
  | 0, w, hr => by
    obtain ⟨⟨h1, -⟩, ⟨h3, h4⟩, -⟩ := h
    have : w = v0 := hr
    exact ⟨0, by omega, by rw [h3, this], by omega⟩
  | d + 1, w, ⟨u, hu, hs⟩ => by
    obtain ⟨i, hi, e1, e2⟩ := bq_cl h d u hu
    rw [← e1] at hs
    obtain ⟨j, hj, e3, e4⟩ := h.2.2.2.2.2.1 i w hi hs
    exact ⟨j, hj, e3, by omega⟩
def big (sc : Nat → Nat → Prop) (v0 : Nat) : Prop := ∃ F : Nat → Nat, (∀ i, i < 4001 → ∃ d, rc sc v0 d (F i)) ∧ ∀ i j, i < 4001 → j < 4001 → F i = F j → i = j
def small (sc : Nat → Nat → Prop) (v0 : Nat) : Prop := ∃ (L : Nat → Nat) (n : Nat), n ≤ 4000 ∧ ∀ d w, rc sc v0 d w → ∃ i, i < n ∧ L i = w
theorem big_small {sc : Nat → Nat → Prop} {v0 : Nat} (h : big sc v0) (h2 : small sc v0) : False := by
  obtain ⟨F, f1, f2⟩ := h
  obtain ⟨L, n, hn, l1⟩ := h2
  have hex : ∀ i, ∃ j, i < 4001 → j < n ∧ L j = F i := by
    intro i
    by_cases hi : i < 4001
    · obtain ⟨d, hd⟩ := f1 i hi
      obtain ⟨j, hj, e⟩ := l1 d _ hd
      exact ⟨j, fun _ => ⟨hj, e⟩⟩
    · exact ⟨0, fun c => absurd c hi⟩
  refine php 4000 (fun i => Classical.choose (hex i)) (fun i hi => ?_) (fun i j hi hj he => ?_)
  · have := (Classical.choose_spec (hex i) hi).1
    show Classical.choose (hex i) < 4000
    omega
  · have a1 := (Classical.choose_spec (hex i) hi).2
    have a2 := (Classical.choose_spec (hex j) hj).2
    have he2 : Classical.choose (hex i) = Classical.choose (hex j) := he
    rw [he2, a2] at a1
    exact f2 i j hi hj a1.symm
theorem bq_big {sc : Nat → Nat → Prop} {v0 k w : Nat} {L D : Nat → Nat} (h : bq sc v0 L D 4000 k) (hw : ∃ d, rc sc v0 d w) (hnew : ∀ i, i < 4000 → L i ≠ w) : big sc v0 := by
  obtain ⟨-, -, h5, -, h7, -⟩ := h
  refine ⟨upN L 4000 w, fun i hi => ?_, fun i j hi hj he => ?_⟩
  · by_cases e : i = 4000
    · rw [e, upN_s]; exact hw
    · rw [upN_n e]; exact ⟨_, (h7 i (by omega)).1⟩
  · by_cases e1 : i = 4000
    · by_cases e2 : j = 4000
      · omega
      · rw [e1, upN_s, upN_n e2] at he
        exact absurd he.symm (hnew j (by omega))
    · by_cases e2 : j = 4000
      · rw [e2, upN_s, upN_n e1] at he
        exact absurd he (hnew i (by omega))
      · rw [upN_n e1, upN_n e2] at he
        exact h5 i j (by omega) (by omega) he
/-- what the answer must be -/
def Ans (sc : Nat → Nat → Prop) (v0 : Nat) (bk : Nat → Bool) (r : Int32) : Prop := (r = -nI 2 ∧ big sc v0) ∨ (small sc v0 ∧ ((∃ d, r = nI d ∧ (∃ w, rc sc v0 d w ∧ bk w = true) ∧ ∀ d' w, rc sc v0 d' w → bk w = true → d ≤ d') ∨ (r = nN ∧ ∀ d w, rc sc v0 d w → bk w = false)))
theorem Ans_eq {sc : Nat → Nat → Prop} {v0 : Nat} {bk : Nat → Bool} {r r' : Int32} (h : Ans sc v0 bk r) (h' : Ans sc v0 bk r') : r = r' := by
  rcases h with ⟨h1, h2⟩ | ⟨h1, h2⟩
  · rcases h' with ⟨g1, g2⟩ | ⟨g1, g2⟩
    · rw [h1, g1]
    · exact (big_small h2 g1).elim
  · rcases h' with ⟨g1, g2⟩ | ⟨g1, g2⟩
    · exact (big_small g2 h1).elim
    · rcases h2 with ⟨d, e1, ⟨w, w1, w2⟩, e3⟩ | ⟨e1, e2⟩
      · rcases g2 with ⟨d', e1', ⟨w', w1', w2'⟩, e3'⟩ | ⟨e1', e2'⟩
        · have a := e3 d' w' w1' w2'
          have b := e3' d w w1 w2
          rw [e1, e1', show d = d' by omega]
        · rw [e2' d w w1] at w2
          cases w2
      · rcases g2 with ⟨d', e1', ⟨w', w1', w2'⟩, e3'⟩ | ⟨e1', e2'⟩
        · rw [e2 d' w' w1'] at w2'
          cases w2'
        · rw [e1, e1']
/-- what was found among the first k -/
def fnA (bk : Nat → Bool) (L D : Nat → Nat) (k : Nat) (a : Int32) : Prop := (a = nN ∧ ∀ i, i < k → bk (L i) = false) ∨ ∃ i0, i0 < k ∧ a = nI (D i0) ∧ bk (L i0) = true ∧ ∀ i, i < i0 → bk (L i) = false
theorem fnA_Ans {sc : Nat → Nat → Prop} {v0 n : Nat} {L D : Nat → Nat} {bk : Nat → Bool} {a : Int32} (h : bq sc v0 L D n n) (hf : fnA bk L D n a) : Ans sc v0 bk a := by
  refine .inr ⟨⟨L, n, h.1.2, fun d w hr => ?_⟩, ?_⟩
  · obtain ⟨i, hi, e1, -⟩ := bq_cl h d w hr
    exact ⟨i, hi, e1⟩
  · rcases hf with ⟨h1, h2⟩ | ⟨i0, h1, h2, h3, h4⟩
    · refine .inr ⟨h1, fun d w hr => ?_⟩
      obtain ⟨i, hi, e1, -⟩ := bq_cl h d w hr
      rw [← e1]
      exact h2 i hi
    · refine .inl ⟨D i0, h2, ⟨L i0, (h.2.2.2.2.1 i0 h1).1, h3⟩, fun d' w hr hb => ?_⟩
      obtain ⟨i, hi, e1, e2⟩ := bq_cl h d' w hr
      have : ¬ i < i0 := by
        intro c
        have := h4 i c
        rw [e1, hb] at this
        cases this
      have := h.2.2.2.1 i0 i (by omega) hi
      omega
theorem fnA_cg {bk : Nat → Bool} {L D : Nat → Nat} {k n w x : Nat} {a : Int32} (hf : fnA bk L D k a) (hk : k ≤ n) : fnA bk (upN L n w) (upN D n x) k a := by
  rcases hf with ⟨h1, h2⟩ | ⟨i0, h1, h2, h3, h4⟩
  · exact .inl ⟨h1, fun i hi => by rw [upN_n (by omega)]; exact h2 i hi⟩
  · exact .inr ⟨i0, h1, by rw [upN_n (by omega)]; exact h2, by rw [upN_n (by omega)]; exact h3, fun i hi => by rw [upN_n (by omega)]; exact h4 i hi⟩
/-! the table -/
def tb (N : Nat) (h : Nat → Nat) (T : Nat → Option Nat) (L : Nat → Nat) (n : Nat) : Prop := (∀ p i, p < N → T p = some i → i < n) ∧ (∀ i, i < n → ∃ c, c < N ∧ T ((h (L i) + c) % N) = some i ∧ ∀ c', c' < c → T ((h (L i) + c') % N) ≠ none) ∧ cntP (fun p => (T p).isSome) N = n
theorem cntP_all {p : Nat → Bool} : ∀ n, (∀ j, j < n → p j = true) → cntP p n = n
  | 0, _ => rfl
  | n + 1, h => by
    unfold cntP
    rw [cntP_all n (fun j hj => h j (by omega)), h n (by omega)]
    rfl
theorem tb_probe {N n : Nat} {h : Nat → Nat} {T : Nat → Option Nat} {L : Nat → Nat} (hN : 0 < N) (ht : tb N h T L n) (hn : n < N) (v : Nat) : ∃ c, c < N ∧ (∀ c', c' < c → ∃ i, i < n ∧ T ((h v + c') % N) = some i ∧ L i ≠ v) ∧ ((T ((h v + c) % N) = none ∧ ∀ i, i < n → L i ≠ v) ∨ ∃ i, i < n ∧ T ((h v + c) % N) = some i ∧ L i = v) := by
  obtain ⟨t1, t2, t3⟩ := ht
  -- an empty place
  have hemp : ∃ p, p < N ∧ T p = none := by
    by_cases hq : ∃ p, p < N ∧ T p = none
    · exact hq
    · exfalso
      have : cntP (fun p => (T p).isSome) N = N := cntP_all N (fun j hj => by
        cases hT : T j with
        | none => exact absurd ⟨j, hj, hT⟩ hq
        | some i => rfl)
      omega
  obtain ⟨p0, hp0, he0⟩ := hemp
  have hc0 : ∃ c, c < N ∧ (h v + c) % N = p0 := by
    refine ⟨(p0 + (N - h v % N)) % N, Nat.mod_lt _ hN, ?_⟩
    have hm := Nat.mod_lt (h v) hN
    rw [Nat.add_mod_mod, Nat.add_mod]
    rw [← Nat.mod_add_div (h v) N]
    generalize h v % N = r at hm ⊢
    generalize h v / N = q
    rw [Nat.add_mul_mod_self_left, ← Nat.add_mod, Nat.mod_eq_of_lt hm, show r + (p0 + (N - r)) = p0 + N by omega, Nat.add_mod_right, Nat.mod_eq_of_lt hp0]
  obtain ⟨c0, hc0, hp⟩ := hc0
  obtain ⟨c, hc, hmin⟩ := pk_least (fun c => c < N ∧ (T ((h v + c) % N) = none ∨ ∃ i, T ((h v + c) % N) = some i ∧ L i = v)) ⟨c0, hc0, .inl (by rw [hp]; exact he0)⟩
  have hb : ∀ c', c' < c → ∃ i, i < n ∧ T ((h v + c') % N) = some i ∧ L i ≠ v := by
    intro c' hc'
    have hno := hmin c' hc'
    cases hT : T ((h v + c') % N) with
    | none => exact absurd ⟨by omega, .inl hT⟩ hno
    | some i => exact ⟨i, t1 _ i (Nat.mod_lt _ hN) hT, rfl, fun e => hno ⟨by omega, .inr ⟨i, hT, e⟩⟩⟩
  refine ⟨c, hc.1, hb, ?_⟩
  rcases hc.2 with h1 | ⟨i, h1, h2⟩
  · refine .inl ⟨h1, fun i hi e => ?_⟩
    obtain ⟨ci, hci, e1, e2⟩ := t2 i hi
    rw [e] at e1 e2
    rcases Nat.lt_trichotomy c ci with q | q | q
    · exact e2 c q h1
    · rw [q, e1] at h1; cases h1
    · obtain ⟨j, hj, e3, e4⟩ := hb ci q
      rw [e1] at e3
      cases e3
      exact e4 e
  · exact .inr ⟨i, t1 _ i (Nat.mod_lt _ hN) h1, h1, h2⟩
def upT (T : Nat → Option Nat) (p i : Nat) : Nat → Option Nat := fun q => if q = p then some i else T q
theorem tb_ins {N n v c : Nat} {h : Nat → Nat} {T : Nat → Option Nat} {L : Nat → Nat} (hN : 0 < N) (ht : tb N h T L n) (hc : c < N) (hb : ∀ c', c' < c → ∃ i, i < n ∧ T ((h v + c') % N) = some i ∧ L i ≠ v) (he : T ((h v + c) % N) = none) : tb N h (upT T ((h v + c) % N) n) (upN L n v) (n + 1) := by
  obtain ⟨t1, t2, t3⟩ := ht
  have hlt := Nat.mod_lt (h v + c) hN
  refine ⟨fun p i hp hT => ?_, fun i hi => ?_, ?_⟩
  · unfold upT at hT
    by_cases e : p = (h v + c) % N
    · rw [if_pos e] at hT
      cases hT
      omega
    · rw [if_neg e] at hT
      have := t1 p i hp hT
      omega
  · by_cases e : i = n
    · subst e
      rw [upN_s]
      refine ⟨c, hc, by simp [upT], fun c' hc' => ?_⟩
      obtain ⟨j, -, e1, -⟩ := hb c' hc'
      unfold upT
      split
      · simp
      · rw [e1]; simp
    · rw [upN_n e]
      obtain ⟨ci, hci, e1, e2⟩ := t2 i (by omega)
      have hne : (h (L i) + ci) % N ≠ (h v + c) % N := fun q => by rw [q, he] at e1; cases e1
      refine ⟨ci, hci, ?_, fun c' hc' => ?_⟩
      · unfold upT
        rw [if_neg hne]
        exact e1
      · unfold upT
        split
        · simp
        · exact e2 c' hc'
  · rw [cntP_up (p := fun p => (T p).isSome) (q := fun p => (upT T ((h v + c) % N) n p).isSome) (v := (h v + c) % N) (by simp [he]) (by simp [upT]) (fun j hj => by simp [upT, hj]) N hlt, t3]
