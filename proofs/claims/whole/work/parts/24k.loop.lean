/-! ===== the loop of the law, written by wip/whole/cases.py ===== -/
theorem lw_end {n k : Nat} (hn : n ≤ 3072) (h : n < 6 * k + 6) (hk : 6 * k ≤ n) : Int32.ofNat n - 6 < nI (6 * k) := by
  rw [k_lit, k_ofN]
  rcases Nat.lt_or_ge n 6 with q | q
  · have e : nI n - nI 6 = -nI (6 - n) := by
      rcases (show n = 0 ∨ n = 1 ∨ n = 2 ∨ n = 3 ∨ n = 4 ∨ n = 5 by omega) with rfl | rfl | rfl | rfl | rfl | rfl <;> decide
    have hk0 : k = 0 := by omega
    subst hk0
    rw [e]
    rcases (show n = 0 ∨ n = 1 ∨ n = 2 ∨ n = 3 ∨ n = 4 ∨ n = 5 by omega) with rfl | rfl | rfl | rfl | rfl | rfl <;> decide
  · have e : nI n - nI 6 = nI (n - 6) := by
      have : nI n = nI (n - 6) + nI 6 := by rw [nI_add]; congr 1; omega
      rw [this]
      exact Int32.add_sub_cancel _ _
    rw [e]
    exact nI_lt (by omega) (by omega)
theorem lw_on {n k : Nat} (hn : n ≤ 3072) (h : 6 * k + 6 ≤ n) : ¬ Int32.ofNat n - 6 < nI (6 * k) := by
  rw [k_lit, k_ofN]
  have e : nI n - nI 6 = nI (n - 6) := by
    have : nI n = nI (n - 6) + nI 6 := by rw [nI_add]; congr 1; omega
    rw [this]
    exact Int32.add_sub_cancel _ _
  rw [e]
  exact nI_nlt (by omega) (by omega)
theorem lw_pick {α : Type} {P : α → Prop} {c : Prop} [Decidable c] {A B : α} (h1 : P A) (h2 : P B) : P (if c then A else B) := by
  split
  · exact h1
  · exact h2
/-- one call of the script -/
theorem lw_step {n k : Nat} {s : aMem} (hn : n ≤ 3072) (hi : 6 * k + 6 ≤ n) (hI : Inv s) : ∃ t, a_run (some n) shp pL_law 23 [some (.ref 900), some (.ref 0), some (.ref 43), some (.ref 74), some (.int (nI (6 * k))), none, none] [] s = a_run (some n) shp pL_law 1523 [some (.ref 900), some (.ref 0), some (.ref 43), some (.ref 74), some (.int (nI (6 * k))), none, none] [] t ∧ Inv t ∧ t.2.2 ≤ s.2.2 + 1 := by
  rw [tL_law_23, if_neg (lw_on hn hi), if_pos (k_okT (by omega) (by omega))]
  refine lw_pick (P := fun A => ∃ t, A = a_run (some n) shp pL_law 1523 [some (.ref 900), some (.ref 0), some (.ref 43), some (.ref 74), some (.int (nI (6 * k))), none, none] [] t ∧ Inv t ∧ t.2.2 ≤ s.2.2 + 1) (cs_feed hn hi hI) ?_
  refine lw_pick (P := fun A => ∃ t, A = a_run (some n) shp pL_law 1523 [some (.ref 900), some (.ref 0), some (.ref 43), some (.ref 74), some (.int (nI (6 * k))), none, none] [] t ∧ Inv t ∧ t.2.2 ≤ s.2.2 + 1) (cs_library hn hi hI) ?_
  refine lw_pick (P := fun A => ∃ t, A = a_run (some n) shp pL_law 1523 [some (.ref 900), some (.ref 0), some (.ref 43), some (.ref 74), some (.int (nI (6 * k))), none, none] [] t ∧ Inv t ∧ t.2.2 ≤ s.2.2 + 1) (cs_fault hn hi hI) ?_
  refine lw_pick (P := fun A => ∃ t, A = a_run (some n) shp pL_law 1523 [some (.ref 900), some (.ref 0), some (.ref 43), some (.ref 74), some (.int (nI (6 * k))), none, none] [] t ∧ Inv t ∧ t.2.2 ≤ s.2.2 + 1) (cs_count hn hi hI) ?_
  refine lw_pick (P := fun A => ∃ t, A = a_run (some n) shp pL_law 1523 [some (.ref 900), some (.ref 0), some (.ref 43), some (.ref 74), some (.int (nI (6 * k))), none, none] [] t ∧ Inv t ∧ t.2.2 ≤ s.2.2 + 1) (cs_book hn hi hI) ?_
  refine lw_pick (P := fun A => ∃ t, A = a_run (some n) shp pL_law 1523 [some (.ref 900), some (.ref 0), some (.ref 43), some (.ref 74), some (.int (nI (6 * k))), none, none] [] t ∧ Inv t ∧ t.2.2 ≤ s.2.2 + 1) (cs_reader hn hi hI) ?_
  refine lw_pick (P := fun A => ∃ t, A = a_run (some n) shp pL_law 1523 [some (.ref 900), some (.ref 0), some (.ref 43), some (.ref 74), some (.int (nI (6 * k))), none, none] [] t ∧ Inv t ∧ t.2.2 ≤ s.2.2 + 1) (cs_exchange hn hi hI) ?_
  refine lw_pick (P := fun A => ∃ t, A = a_run (some n) shp pL_law 1523 [some (.ref 900), some (.ref 0), some (.ref 43), some (.ref 74), some (.int (nI (6 * k))), none, none] [] t ∧ Inv t ∧ t.2.2 ≤ s.2.2 + 1) (cs_swap hn hi hI) ?_
  refine lw_pick (P := fun A => ∃ t, A = a_run (some n) shp pL_law 1523 [some (.ref 900), some (.ref 0), some (.ref 43), some (.ref 74), some (.int (nI (6 * k))), none, none] [] t ∧ Inv t ∧ t.2.2 ≤ s.2.2 + 1) (cs_judge hn hi hI) ?_
  refine lw_pick (P := fun A => ∃ t, A = a_run (some n) shp pL_law 1523 [some (.ref 900), some (.ref 0), some (.ref 43), some (.ref 74), some (.int (nI (6 * k))), none, none] [] t ∧ Inv t ∧ t.2.2 ≤ s.2.2 + 1) (cs_undo hn hi hI) ?_
  refine lw_pick (P := fun A => ∃ t, A = a_run (some n) shp pL_law 1523 [some (.ref 900), some (.ref 0), some (.ref 43), some (.ref 74), some (.int (nI (6 * k))), none, none] [] t ∧ Inv t ∧ t.2.2 ≤ s.2.2 + 1) (cs_move hn hi hI) ?_
  refine lw_pick (P := fun A => ∃ t, A = a_run (some n) shp pL_law 1523 [some (.ref 900), some (.ref 0), some (.ref 43), some (.ref 74), some (.int (nI (6 * k))), none, none] [] t ∧ Inv t ∧ t.2.2 ≤ s.2.2 + 1) (cs_reach hn hi hI) ?_
  refine lw_pick (P := fun A => ∃ t, A = a_run (some n) shp pL_law 1523 [some (.ref 900), some (.ref 0), some (.ref 43), some (.ref 74), some (.int (nI (6 * k))), none, none] [] t ∧ Inv t ∧ t.2.2 ≤ s.2.2 + 1) (cs_way hn hi hI) ?_
  refine lw_pick (P := fun A => ∃ t, A = a_run (some n) shp pL_law 1523 [some (.ref 900), some (.ref 0), some (.ref 43), some (.ref 74), some (.int (nI (6 * k))), none, none] [] t ∧ Inv t ∧ t.2.2 ≤ s.2.2 + 1) (cs_together hn hi hI) ?_
  refine lw_pick (P := fun A => ∃ t, A = a_run (some n) shp pL_law 1523 [some (.ref 900), some (.ref 0), some (.ref 43), some (.ref 74), some (.int (nI (6 * k))), none, none] [] t ∧ Inv t ∧ t.2.2 ≤ s.2.2 + 1) (cs_week hn hi hI) ?_
  refine lw_pick (P := fun A => ∃ t, A = a_run (some n) shp pL_law 1523 [some (.ref 900), some (.ref 0), some (.ref 43), some (.ref 74), some (.int (nI (6 * k))), none, none] [] t ∧ Inv t ∧ t.2.2 ≤ s.2.2 + 1) (cs_row hn hi hI) ?_
  refine lw_pick (P := fun A => ∃ t, A = a_run (some n) shp pL_law 1523 [some (.ref 900), some (.ref 0), some (.ref 43), some (.ref 74), some (.int (nI (6 * k))), none, none] [] t ∧ Inv t ∧ t.2.2 ≤ s.2.2 + 1) (cs_lost hn hi hI) ?_
  refine lw_pick (P := fun A => ∃ t, A = a_run (some n) shp pL_law 1523 [some (.ref 900), some (.ref 0), some (.ref 43), some (.ref 74), some (.int (nI (6 * k))), none, none] [] t ∧ Inv t ∧ t.2.2 ≤ s.2.2 + 1) (cs_worth hn hi hI) ?_
  refine lw_pick (P := fun A => ∃ t, A = a_run (some n) shp pL_law 1523 [some (.ref 900), some (.ref 0), some (.ref 43), some (.ref 74), some (.int (nI (6 * k))), none, none] [] t ∧ Inv t ∧ t.2.2 ≤ s.2.2 + 1) (cs_bind hn hi hI) ?_
  refine lw_pick (P := fun A => ∃ t, A = a_run (some n) shp pL_law 1523 [some (.ref 900), some (.ref 0), some (.ref 43), some (.ref 74), some (.int (nI (6 * k))), none, none] [] t ∧ Inv t ∧ t.2.2 ≤ s.2.2 + 1) (cs_fire hn hi hI) ?_
  refine lw_pick (P := fun A => ∃ t, A = a_run (some n) shp pL_law 1523 [some (.ref 900), some (.ref 0), some (.ref 43), some (.ref 74), some (.int (nI (6 * k))), none, none] [] t ∧ Inv t ∧ t.2.2 ≤ s.2.2 + 1) (cs_event hn hi hI) ?_
  refine lw_pick (P := fun A => ∃ t, A = a_run (some n) shp pL_law 1523 [some (.ref 900), some (.ref 0), some (.ref 43), some (.ref 74), some (.int (nI (6 * k))), none, none] [] t ∧ Inv t ∧ t.2.2 ≤ s.2.2 + 1) (cs_forget hn hi hI) ?_
  refine lw_pick (P := fun A => ∃ t, A = a_run (some n) shp pL_law 1523 [some (.ref 900), some (.ref 0), some (.ref 43), some (.ref 74), some (.int (nI (6 * k))), none, none] [] t ∧ Inv t ∧ t.2.2 ≤ s.2.2 + 1) (cs_orders hn hi hI) ?_
  refine lw_pick (P := fun A => ∃ t, A = a_run (some n) shp pL_law 1523 [some (.ref 900), some (.ref 0), some (.ref 43), some (.ref 74), some (.int (nI (6 * k))), none, none] [] t ∧ Inv t ∧ t.2.2 ≤ s.2.2 + 1) (cs_there hn hi hI) ?_
  refine lw_pick (P := fun A => ∃ t, A = a_run (some n) shp pL_law 1523 [some (.ref 900), some (.ref 0), some (.ref 43), some (.ref 74), some (.int (nI (6 * k))), none, none] [] t ∧ Inv t ∧ t.2.2 ≤ s.2.2 + 1) (cs_knot hn hi hI) ?_
  refine lw_pick (P := fun A => ∃ t, A = a_run (some n) shp pL_law 1523 [some (.ref 900), some (.ref 0), some (.ref 43), some (.ref 74), some (.int (nI (6 * k))), none, none] [] t ∧ Inv t ∧ t.2.2 ≤ s.2.2 + 1) (cs_hands hn hi hI) ?_
  refine lw_pick (P := fun A => ∃ t, A = a_run (some n) shp pL_law 1523 [some (.ref 900), some (.ref 0), some (.ref 43), some (.ref 74), some (.int (nI (6 * k))), none, none] [] t ∧ Inv t ∧ t.2.2 ≤ s.2.2 + 1) (cs_image hn hi hI) ?_
  refine lw_pick (P := fun A => ∃ t, A = a_run (some n) shp pL_law 1523 [some (.ref 900), some (.ref 0), some (.ref 43), some (.ref 74), some (.int (nI (6 * k))), none, none] [] t ∧ Inv t ∧ t.2.2 ≤ s.2.2 + 1) (cs_restore hn hi hI) ?_
  exact ⟨s, rfl, hI, by omega⟩
/-- the law answers true -/
theorem lw_loop {n : Nat} (hn : n ≤ 3072) : ∀ (m k : Nat) (s : aMem), n < 6 * k + 6 * m + 6 → 6 * k ≤ n → Inv s → ∃ t, a_run (some n) shp pL_law 23 [some (.ref 900), some (.ref 0), some (.ref 43), some (.ref 74), some (.int (nI (6 * k))), none, none] [] s = some (.inl (some (.int 1)), t) ∧ t.2.2 ≤ s.2.2 + m
  | 0, k, s, h, hk, _ => ⟨s, by rw [tL_law_23, if_pos (lw_end hn (by omega) hk)], by omega⟩
  | m + 1, k, s, h, hk, hI => by
    by_cases hi : 6 * k + 6 ≤ n
    · obtain ⟨t, h1, h2, h3⟩ := lw_step (k := k) hn hi hI
      obtain ⟨u, h4, h5⟩ := lw_loop hn m (k + 1) t (by omega) (by omega) h2
      refine ⟨u, ?_, by omega⟩
      have e : nI (6 * k) + (6 : Int32) = nI (6 * (k + 1)) := by
        rw [k_lit, nI_add]
        rfl
      rw [h1, tL_law_1523, e, h4]
    · exact ⟨s, by rw [tL_law_23, if_pos (lw_end hn (by omega) hk)], by omega⟩
