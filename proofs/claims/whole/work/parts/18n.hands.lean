/-! ===== hands ===== -/
/-- whether the m-th move moves the book -/
def mvd (mv : Nat → Int32) (b : Int32) (m : Nat) : Bool := decide (mv (4 * m + 1) = b) || decide (mv (4 * m + 2) = b)
/-- where it went -/
def wnt (mv : Nat → Int32) (b : Int32) (m : Nat) : Int32 := if mv (4 * m + 1) = b then mv (4 * m + 3) else mv (4 * m)
def chg (mv : Nat → Int32) (b : Int32) : Nat → Nat
  | 0 => 0
  | n + 1 => chg mv b n + (mvd mv b n).toNat
theorem chg_le (mv : Nat → Int32) (b : Int32) : ∀ n, chg mv b n ≤ n
  | 0 => Nat.le_refl 0
  | n + 1 => by
    have := chg_le mv b n
    have h2 : (mvd mv b n).toNat ≤ 1 := by cases mvd mv b n <;> simp
    unfold chg
    omega
theorem sX4_isMoved {s : aMem} {b : Int32} {m : Nat} (hm : m < 200) : fX4_isMoved [.ref 22, .int b, .int (nI m)] s = some (.inl (some (.int (nI (mvd (s.1 24) b m).toNat))), s) := by
  rw [tX4_isMoved]
  try simp only [k_lit, k_nN, k_ofN, pk_mul, nI_add]
  simp (disch := omega) only [i_leT, i_leF, i_ltT, i_ltF, i_eqT, i_eqF, i_okT, i_n1, i_n2, i_n3, i_n4, i_n5, i_n6, i_n7, i_n8, k_cl, if_true, if_false]
  unfold mvd
  by_cases e1 : s.1 24 (4 * m + 1) = b
  · rw [if_pos e1]; simp [e1]
  · rw [if_neg e1]
    by_cases e2 : s.1 24 (4 * m + 2) = b
    · rw [if_pos e2]; simp [e1, e2]
    · rw [if_neg e2]; simp [e1, e2]
theorem sX4_changesOf {s : aMem} {b : Int32} {nm : Nat} (hm : nm ≤ 200) (hc : s.1 22 2 = nI nm) : fX4_changesOf [.ref 22, .int b] s = some (.inl (some (.int (nI (chg (s.1 24) b nm)))), s) := by
  have key : ∀ m k, k + m = nm → a_run none shp pX4_changesOf 4 [some (.ref 22), some (.int b), some (.int (nI (chg (s.1 24) b k))), some (.int (nI k))] [] s = some (.inl (some (.int (nI (chg (s.1 24) b nm)))), s) := by
    intro m
    induction m with
    | zero =>
      intro k hk
      rw [tX4_changesOf_4, hc]
      simp (disch := omega) only [i_leT, i_leF, i_ltT, i_ltF, i_eqT, i_eqF, i_okT, i_n1, i_n2, i_n3, i_n4, i_n5, i_n6, i_n7, i_n8, k_cl, if_true, if_false]
      rw [show k = nm by omega]
    | succ m ih =>
      intro k hk
      rw [tX4_changesOf_4, hc]
      try simp only [k_lit, k_nN, k_ofN]
      simp (disch := omega) only [i_leT, i_leF, i_ltT, i_ltF, i_eqT, i_eqF, i_okT, i_n1, i_n2, i_n3, i_n4, i_n5, i_n6, i_n7, i_n8, k_cl, if_true, if_false]
      rw [sX4_isMoved (by omega), b_bi]
      have ih2 := ih (k + 1) (by omega)
      rw [show chg (s.1 24) b (k + 1) = chg (s.1 24) b k + (mvd (s.1 24) b k).toNat from rfl] at ih2
      cases e : mvd (s.1 24) b k
      · simp only [e, Bool.toNat_false, Nat.add_zero] at ih2
        simp only [Bool.toNat_false]
        simp (disch := omega) only [i_leT, i_leF, i_ltT, i_ltF, i_eqT, i_eqF, i_okT, i_n1, i_n2, i_n3, i_n4, i_n5, i_n6, i_n7, i_n8, k_cl, if_true, if_false, nI_add]
        exact ih2
      · simp only [e, Bool.toNat_true] at ih2
        simp only [Bool.toNat_true]
        simp (disch := omega) only [i_leT, i_leF, i_ltT, i_ltF, i_eqT, i_eqF, i_okT, i_n1, i_n2, i_n3, i_n4, i_n5, i_n6, i_n7, i_n8, k_cl, if_true, if_false, nI_add]
        exact ih2
  rw [tX4_changesOf]
  exact key nm 0 (by omega)
/-- the place behind the i-th change: the first move at which so many are made -/
theorem sX4_placeAfterChange {s : aMem} {b : Int32} {nm i m : Nat} (hm : nm ≤ 200) (hc : s.1 22 2 = nI nm) (hi : i < 1000) (h1 : m < nm) (h2 : chg (s.1 24) b m + 1 = i) (h3 : mvd (s.1 24) b m = true) : fX4_placeAfterChange [.ref 22, .int b, .int (nI i)] s = some (.inl (some (.int (wnt (s.1 24) b m))), s) := by
  have key : ∀ n k, k + n = m → a_run none shp pX4_placeAfterChange 5 [some (.ref 22), some (.int b), some (.int (nI i)), some (.int (nI (chg (s.1 24) b k))), some (.int (nI k)), none] [] s = some (.inl (some (.int (wnt (s.1 24) b m))), s) := by
    intro n
    induction n with
    | zero =>
      intro k hk
      have hk2 : k = m := by omega
      subst hk2
      rw [tX4_placeAfterChange_5, hc]
      try simp only [k_lit, k_nN, k_ofN, pk_mul, nI_add]
      simp (disch := omega) only [i_leT, i_leF, i_ltT, i_ltF, i_eqT, i_eqF, i_okT, i_n1, i_n2, i_n3, i_n4, i_n5, i_n6, i_n7, i_n8, k_cl, if_true, if_false]
      rw [sX4_isMoved (by omega), b_bi, h3]
      simp only [Bool.toNat_true]
      simp (disch := omega) only [i_leT, i_leF, i_ltT, i_ltF, i_eqT, i_eqF, i_okT, i_n1, i_n2, i_n3, i_n4, i_n5, i_n6, i_n7, i_n8, k_cl, if_true, if_false]
      unfold wnt
      by_cases e : s.1 24 (4 * k + 1) = b
      · rw [if_pos e, if_pos e]
      · rw [if_neg e, if_neg e]
    | succ n ih =>
      intro k hk
      rw [tX4_placeAfterChange_5, hc]
      try simp only [k_lit, k_nN, k_ofN, pk_mul, nI_add]
      simp (disch := omega) only [i_leT, i_leF, i_ltT, i_ltF, i_eqT, i_eqF, i_okT, i_n1, i_n2, i_n3, i_n4, i_n5, i_n6, i_n7, i_n8, k_cl, if_true, if_false]
      rw [sX4_isMoved (by omega), b_bi]
      have ih2 := ih (k + 1) (by omega)
      have mono : ∀ d, chg (s.1 24) b (k + 1) ≤ chg (s.1 24) b (k + 1 + d) := by
        intro d
        induction d with
        | zero => exact Nat.le_refl _
        | succ d ihd => exact Nat.le_trans ihd (Nat.le_add_right _ _)
      have hmo := mono (m - (k + 1))
      rw [show k + 1 + (m - (k + 1)) = m by omega] at hmo
      have hle := chg_le (s.1 24) b k
      have e1 : chg (s.1 24) b (k + 1) = chg (s.1 24) b k + (mvd (s.1 24) b k).toNat := rfl
      cases e : mvd (s.1 24) b k
      · simp only [e, Bool.toNat_false, Nat.add_zero] at e1
        rw [e1] at ih2
        simp only [Bool.toNat_false]
        simp (disch := omega) only [i_leT, i_leF, i_ltT, i_ltF, i_eqT, i_eqF, i_okT, i_n1, i_n2, i_n3, i_n4, i_n5, i_n6, i_n7, i_n8, k_cl, if_true, if_false]
        exact ih2
      · simp only [e, Bool.toNat_true] at e1
        rw [e1] at ih2
        simp only [Bool.toNat_true]
        simp (disch := omega) only [i_leT, i_leF, i_ltT, i_ltF, i_eqT, i_eqF, i_okT, i_n1, i_n2, i_n3, i_n4, i_n5, i_n6, i_n7, i_n8, k_cl, if_true, if_false]
        exact ih2
  rw [tX4_placeAfterChange]
  exact key m 0 (by omega)
/-- M's walk over the moves -/
theorem h_step {nb nr nm m : Nat} {mv o0 : Nat → Int32} {w : Nat → Nat → Int32} (hnb : nb ≤ 12) (hnr : nr ≤ 5) {b : Nat} (hb : b < nb) (wc : ∃ (r l t : Nat) (q : Int32), r < nr ∧ l < nb ∧ t < nb ∧ l ≠ t ∧ (q = nN ∨ ∃ r', r' < nr ∧ r' ≠ r ∧ q = nI r') ∧ mv (4 * m) = nI r ∧ mv (4 * m + 1) = nI l ∧ mv (4 * m + 2) = nI t ∧ mv (4 * m + 3) = q ∧ w m l = nI r ∧ w m t = q ∧ (∀ b, b < nb → w (m + 1) b = if b = l then q else if b = t then nI r else w m b)) : (mvd mv (nI b) m = true → w (m + 1) b = wnt mv (nI b) m ∧ w (m + 1) b ≠ w m b) ∧ (mvd mv (nI b) m = false → w (m + 1) b = w m b) := by
  obtain ⟨r, l, t, q, hr, hl, ht, hlt, hq, e0, e1, e2, e3, wl, wt, wn⟩ := wc
  have hqr : q ≠ nI r := by
    rcases hq with e | ⟨r', h1, h2, e⟩
    · rw [e]; exact nN_ne (by omega)
    · rw [e]; exact nI_ne (by omega) (by omega) h2
  have q1 : nI l = nI b ↔ b = l := by
    rw [nI_eq (by omega) (by omega)]
    exact eq_comm
  have q2 : nI t = nI b ↔ b = t := by
    rw [nI_eq (by omega) (by omega)]
    exact eq_comm
  unfold mvd wnt
  rw [e0, e1, e2, e3, wn b hb]
  by_cases c1 : b = l
  · subst c1
    simp [wl, hqr]
  · by_cases c2 : b = t
    · subst c2
      have hne : ¬ nI l = nI b := fun e => c1 (q1.mp e)
      simp [hne, c1, wt]
      exact fun e => hqr e.symm
    · have hne : ¬ nI l = nI b := fun e => c1 (q1.mp e)
      have hne2 : ¬ nI t = nI b := fun e => c2 (q2.mp e)
      simp [hne, hne2, c1, c2]
theorem sX9_handsL {s : aMem} {nb nr nm b : Nat} {w : Nat → Nat → Int32} {v : Int32} (hnb : nb ≤ 12) (hnr : nr ≤ 5) (hm : nm ≤ 200) (hc : s.1 43 35 = nI nm) (hz : s.1 43 0 = nI 0) (hb : b < nb) (wc : ∀ m, m < nm → (mvd (s.1 59) (nI b) m = true → w (m + 1) b = wnt (s.1 59) (nI b) m ∧ w (m + 1) b ≠ w m b) ∧ (mvd (s.1 59) (nI b) m = false → w (m + 1) b = w m b)) : ∀ n k, k + n = nm → v ≠ nI 0 → (∀ j, j < chg (s.1 59) (nI b) k + 1 → v ≠ nI j) → 
    (v = nN → a_run none shp pX9_hands 56 [some (.ref 43), some (.int (nI b)), some (.int v), some (.int (nI (chg (s.1 59) (nI b) k + 1))), some (.int (w k b)), some (.int (nI k)), none] [] s = some (.inl (some (.int (nI (chg (s.1 59) (nI b) nm + 1)))), s)) ∧
    (v ≠ nN → (∃ m, m < nm ∧ mvd (s.1 59) (nI b) m = true ∧ v = nI (chg (s.1 59) (nI b) m + 1) ∧ a_run none shp pX9_hands 56 [some (.ref 43), some (.int (nI b)), some (.int v), some (.int (nI (chg (s.1 59) (nI b) k + 1))), some (.int (w k b)), some (.int (nI k)), none] [] s = some (.inl (some (.int (wnt (s.1 59) (nI b) m))), s)) ∨
      ((∀ j, j < chg (s.1 59) (nI b) nm + 1 → v ≠ nI j) ∧ a_run none shp pX9_hands 56 [some (.ref 43), some (.int (nI b)), some (.int v), some (.int (nI (chg (s.1 59) (nI b) k + 1))), some (.int (w k b)), some (.int (nI k)), none] [] s = some (.inl (some (.int (nI 0))), a_si s 43 0 (nI 1)))) := by
  intro n
  induction n with
  | zero =>
    intro k hk hv0 hvj
    have hk2 : k = nm := by omega
    subst hk2
    constructor
    · intro hv
      subst hv
      rw [tX9_hands_56, hc]
      try simp only [k_lit, k_nN, k_ofN]
      simp (disch := omega) only [i_leT, i_leF, i_ltT, i_ltF, i_eqT, i_eqF, i_okT, i_n1, i_n2, i_n3, i_n4, i_n5, i_n6, i_n7, i_n8, k_cl, if_true, if_false]
      rw [tX9_hands_167]
      try simp only [k_lit, k_nN, k_ofN]
      rw [sX9_rightT hz, b_bi, tX9_hands_171]
      try simp only [k_lit, k_nN, k_ofN]
      simp (disch := omega) only [i_leT, i_leF, i_ltT, i_ltF, i_eqT, i_eqF, i_okT, i_n1, i_n2, i_n3, i_n4, i_n5, i_n6, i_n7, i_n8, k_cl, if_true, if_false]
      rw [tX9_hands_179]
    · intro hv
      refine .inr ⟨hvj, ?_⟩
      rw [tX9_hands_56, hc]
      try simp only [k_lit, k_nN, k_ofN]
      simp (disch := omega) only [i_leT, i_leF, i_ltT, i_ltF, i_eqT, i_eqF, i_okT, i_n1, i_n2, i_n3, i_n4, i_n5, i_n6, i_n7, i_n8, k_cl, if_true, if_false]
      rw [if_neg hv, tX9_hands_167]
      try simp only [k_lit, k_nN, k_ofN]
      rw [sX9_rightF hz (by omega) (by omega), b_bi, tX9_hands_171]
      try simp only [k_lit, k_nN, k_ofN]
      simp (disch := omega) only [i_leT, i_leF, i_ltT, i_ltF, i_eqT, i_eqF, i_okT, i_n1, i_n2, i_n3, i_n4, i_n5, i_n6, i_n7, i_n8, k_cl, if_true, if_false]
      rw [tX9_hands_179]
  | succ n ih =>
    intro k hk hv0 hvj
    have hw := wc k (by omega)
    have hle := chg_le (s.1 59) (nI b) k
    have e1 : chg (s.1 59) (nI b) (k + 1) = chg (s.1 59) (nI b) k + (mvd (s.1 59) (nI b) k).toNat := rfl
    have st : a_run none shp pX9_hands 56 [some (.ref 43), some (.int (nI b)), some (.int v), some (.int (nI (chg (s.1 59) (nI b) k + 1))), some (.int (w k b)), some (.int (nI k)), none] [] s = a_run none shp pX9_hands 123 [some (.ref 43), some (.int (nI b)), some (.int v), some (.int (nI (chg (s.1 59) (nI b) k + 1))), some (.int (w k b)), some (.int (nI k)), none] [.int (w (k + 1) b)] s := by
      rw [tX9_hands_56, hc]
      try simp only [k_lit, k_nN, k_ofN, pk_mul, nI_add]
      simp (disch := omega) only [i_leT, i_leF, i_ltT, i_ltF, i_eqT, i_eqF, i_okT, i_n1, i_n2, i_n3, i_n4, i_n5, i_n6, i_n7, i_n8, k_cl, if_true, if_false]
      cases e : mvd (s.1 59) (nI b) k
      · have e2 := e
        unfold mvd at e2
        simp only [Bool.or_eq_false_iff, decide_eq_false_iff_not] at e2
        rw [if_neg e2.1, if_neg e2.2, hw.2 e]
      · have e2 := (hw.1 e).1
        rw [e2]
        unfold wnt
        by_cases c1 : s.1 59 (4 * k + 1) = nI b
        · rw [if_pos c1, if_pos c1]
        · have e3 := e
          unfold mvd at e3
          simp only [c1, decide_false, Bool.false_or, decide_eq_true_eq] at e3
          rw [if_neg c1, if_pos e3, if_neg c1]
    rw [st, tX9_hands_123]
    cases e : mvd (s.1 59) (nI b) k
    · rw [if_pos (hw.2 e), tX9_hands_150]
      try simp only [k_lit, k_nN, k_ofN, nI_add]
      have ih2 := ih (k + 1) (by omega) hv0
      simp only [e1, e, Bool.toNat_false, Nat.add_zero, hw.2 e] at ih2
      exact ih2 hvj
    · obtain ⟨g1, g2⟩ := hw.1 e
      rw [if_neg g2]
      by_cases c : nI (chg (s.1 59) (nI b) k + 1) = v
      · rw [if_pos c]
        refine ⟨fun h => ?_, fun h => .inl ⟨k, by omega, e, c.symm, by rw [g1]⟩⟩
        rw [h] at c
        exact absurd c.symm (nN_ne (by omega))
      · rw [if_neg c, tX9_hands_150]
        try simp only [k_lit, k_nN, k_ofN, nI_add]
        have ih2 := ih (k + 1) (by omega) hv0
        simp only [e1, e, Bool.toNat_true] at ih2
        refine ih2 (fun j hj => ?_)
        by_cases c2 : j = chg (s.1 59) (nI b) k + 1
        · rw [c2]; exact fun q => c q.symm
        · exact hvj j (by omega)
