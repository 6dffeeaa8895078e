/-! ===== the calls of the script, one by one, written by wip/whole/cases.py ===== -/
theorem lg_cmp_same (x : Int64) : lg_cmp x x = 0 := by
  unfold lg_cmp
  simp
theorem lw_a1 {n k : Nat} (hn : n ≤ 3072) (hi : 6 * k + 6 ≤ n) : a_ok (nI (6 * k) + 1) n = true := by
  rw [k_lit, nI_add]
  exact k_okT (by omega) (by omega)
theorem lw_c1 {n k : Nat} (hn : n ≤ 3072) (hi : 6 * k + 6 ≤ n) : (nI (6 * k) + 1 : Int32).toNatClampNeg = 6 * k + 1 := by
  rw [k_lit, nI_add]
  exact k_cl (by omega)
theorem lw_a2 {n k : Nat} (hn : n ≤ 3072) (hi : 6 * k + 6 ≤ n) : a_ok (nI (6 * k) + 2) n = true := by
  rw [k_lit, nI_add]
  exact k_okT (by omega) (by omega)
theorem lw_c2 {n k : Nat} (hn : n ≤ 3072) (hi : 6 * k + 6 ≤ n) : (nI (6 * k) + 2 : Int32).toNatClampNeg = 6 * k + 2 := by
  rw [k_lit, nI_add]
  exact k_cl (by omega)
theorem lw_a3 {n k : Nat} (hn : n ≤ 3072) (hi : 6 * k + 6 ≤ n) : a_ok (nI (6 * k) + 3) n = true := by
  rw [k_lit, nI_add]
  exact k_okT (by omega) (by omega)
theorem lw_c3 {n k : Nat} (hn : n ≤ 3072) (hi : 6 * k + 6 ≤ n) : (nI (6 * k) + 3 : Int32).toNatClampNeg = 6 * k + 3 := by
  rw [k_lit, nI_add]
  exact k_cl (by omega)
theorem lw_a4 {n k : Nat} (hn : n ≤ 3072) (hi : 6 * k + 6 ≤ n) : a_ok (nI (6 * k) + 4) n = true := by
  rw [k_lit, nI_add]
  exact k_okT (by omega) (by omega)
theorem lw_c4 {n k : Nat} (hn : n ≤ 3072) (hi : 6 * k + 6 ≤ n) : (nI (6 * k) + 4 : Int32).toNatClampNeg = 6 * k + 4 := by
  rw [k_lit, nI_add]
  exact k_cl (by omega)
theorem lw_a5 {n k : Nat} (hn : n ≤ 3072) (hi : 6 * k + 6 ≤ n) : a_ok (nI (6 * k) + 5) n = true := by
  rw [k_lit, nI_add]
  exact k_okT (by omega) (by omega)
theorem lw_c5 {n k : Nat} (hn : n ≤ 3072) (hi : 6 * k + 6 ≤ n) : (nI (6 * k) + 5 : Int32).toNatClampNeg = 6 * k + 5 := by
  rw [k_lit, nI_add]
  exact k_cl (by omega)
theorem cs_feed {n k : Nat} {s : aMem} (hn : n ≤ 3072) (hi : 6 * k + 6 ≤ n) (hI : Inv s) : ∃ t, a_run (some n) shp pL_law 168 [some (.ref 900), some (.ref 0), some (.ref 43), some (.ref 74), some (.int (nI (6 * k))), none, none] [] s = a_run (some n) shp pL_law 1523 [some (.ref 900), some (.ref 0), some (.ref 43), some (.ref 74), some (.int (nI (6 * k))), none, none] [] t ∧ Inv t ∧ t.2.2 ≤ s.2.2 + 1 := by
  have a1 := lw_a1 hn hi
  have c1 := lw_c1 hn hi
  have a2 := lw_a2 hn hi
  have c2 := lw_c2 hn hi
  have a3 := lw_a3 hn hi
  have c3 := lw_c3 hn hi
  have a4 := lw_a4 hn hi
  have c4 := lw_c4 hn hi
  have a5 := lw_a5 hn hi
  have c5 := lw_c5 hn hi
  obtain ⟨r, s1, hx, g1, t, hm, hI2, g2⟩ := op_feed hI (s.1 900 (6 * k + 1)) (s.1 900 (6 * k + 2)) (s.1 900 (6 * k + 3)) (s.1 900 (6 * k + 4)) (s.1 900 (6 * k + 5))
  have e9 : s1.1 900 = s.1 900 := (kpX8_feed _ _ _ _ hx).1
  refine ⟨t, ?_, hI2, by omega⟩
  rw [tL_law_168, if_pos a1, if_pos a2, if_pos a3, if_pos a4, if_pos a5, c1, c2, c3, c4, c5, hx, b_bi, tL_law_202, if_pos a1, if_pos a2, if_pos a3, if_pos a4, if_pos a5, c1, c2, c3, c4, c5, e9, hm, b_bi, tL_law_236, if_pos rfl]
theorem cs_library {n k : Nat} {s : aMem} (hn : n ≤ 3072) (hi : 6 * k + 6 ≤ n) (hI : Inv s) : ∃ t, a_run (some n) shp pL_law 241 [some (.ref 900), some (.ref 0), some (.ref 43), some (.ref 74), some (.int (nI (6 * k))), none, none] [] s = a_run (some n) shp pL_law 1523 [some (.ref 900), some (.ref 0), some (.ref 43), some (.ref 74), some (.int (nI (6 * k))), none, none] [] t ∧ Inv t ∧ t.2.2 ≤ s.2.2 + 1 := by
  have a1 := lw_a1 hn hi
  have c1 := lw_c1 hn hi
  rcases op_library hI (s.1 900 (6 * k + 1)) with ⟨r, s1, hx, g1, hm⟩ | ⟨x, s1, hx, g1, r, t, hm, h0, hp, hI2, g2⟩
  · obtain ⟨t, hm, h0, hI2, ho, g2⟩ := hm (Int32.toInt64 r)
    have e9 : s1.1 900 = s.1 900 := (kpX8_library _ _ _ _ hx).1
    refine ⟨t, ?_, hI2, by omega⟩
    rw [tL_law_241, if_pos a1, c1, sL_library_q hx, b_bi, tL_law_252, if_pos a1, c1, m_sl1, e9, hm, b_bi, tL_law_264, tX9_thrown, b_bi, h0, tL_law_270, if_pos (show nI 0 = (0 : Int32) from rfl), if_pos rfl, ho, lg_cmp_same, if_pos rfl]
  · have e9 : s1.1 900 = s.1 900 := (kpX8_library _ _ _ _ hx).1
    have hq : x ∈ [1] := (kpX8_library _ _ _ _ hx).2 x rfl
    refine ⟨t, ?_, hI2, by omega⟩
    rcases List.mem_singleton.mp hq with rfl
    rw [tL_law_241, if_pos a1, c1, sL_library_x1 hx, b_bi, tL_law_252, if_pos a1, c1, e9, hm, b_bi, tL_law_264, tX9_thrown, b_bi, h0, tL_law_270, if_pos (show nI 1 = (1 : Int32) from rfl), if_neg (show ¬ (1 : Int32) = 0 by decide)]
theorem cs_fault {n k : Nat} {s : aMem} (hn : n ≤ 3072) (hi : 6 * k + 6 ≤ n) (hI : Inv s) : ∃ t, a_run (some n) shp pL_law 297 [some (.ref 900), some (.ref 0), some (.ref 43), some (.ref 74), some (.int (nI (6 * k))), none, none] [] s = a_run (some n) shp pL_law 1523 [some (.ref 900), some (.ref 0), some (.ref 43), some (.ref 74), some (.int (nI (6 * k))), none, none] [] t ∧ Inv t ∧ t.2.2 ≤ s.2.2 + 1 := by
  obtain ⟨r, s1, hx, g1, t, hm, hI2, g2⟩ := op_fault hI 
  refine ⟨t, ?_, hI2, by omega⟩
  rw [tL_law_297, hx, b_bi, tL_law_301, hm, b_bi, tL_law_305, if_pos rfl]
theorem cs_count {n k : Nat} {s : aMem} (hn : n ≤ 3072) (hi : 6 * k + 6 ≤ n) (hI : Inv s) : ∃ t, a_run (some n) shp pL_law 310 [some (.ref 900), some (.ref 0), some (.ref 43), some (.ref 74), some (.int (nI (6 * k))), none, none] [] s = a_run (some n) shp pL_law 1523 [some (.ref 900), some (.ref 0), some (.ref 43), some (.ref 74), some (.int (nI (6 * k))), none, none] [] t ∧ Inv t ∧ t.2.2 ≤ s.2.2 + 1 := by
  have a1 := lw_a1 hn hi
  have c1 := lw_c1 hn hi
  rcases op_count hI (s.1 900 (6 * k + 1)) with ⟨r, s1, hx, g1, hm⟩ | ⟨x, s1, hx, g1, r, t, hm, h0, hp, hI2, g2⟩
  · obtain ⟨t, hm, h0, hI2, ho, g2⟩ := hm (Int32.toInt64 r)
    have e9 : s1.1 900 = s.1 900 := (kpX8_count _ _ _ _ hx).1
    refine ⟨t, ?_, hI2, by omega⟩
    rw [tL_law_310, if_pos a1, c1, sL_count_q hx, b_bi, tL_law_321, if_pos a1, c1, m_sl1, e9, hm, b_bi, tL_law_333, tX9_thrown, b_bi, h0, tL_law_339, if_pos (show nI 0 = (0 : Int32) from rfl), if_pos rfl, ho, lg_cmp_same, if_pos rfl]
  · have e9 : s1.1 900 = s.1 900 := (kpX8_count _ _ _ _ hx).1
    have hq : x ∈ [0] := (kpX8_count _ _ _ _ hx).2 x rfl
    refine ⟨t, ?_, hI2, by omega⟩
    rcases List.mem_singleton.mp hq with rfl
    rw [tL_law_310, if_pos a1, c1, sL_count_x0 hx, b_bi, tL_law_321, if_pos a1, c1, e9, hm, b_bi, tL_law_333, tX9_thrown, b_bi, h0, tL_law_339, if_pos (show nI 1 = (1 : Int32) from rfl), if_neg (show ¬ (1 : Int32) = 0 by decide)]
theorem cs_book {n k : Nat} {s : aMem} (hn : n ≤ 3072) (hi : 6 * k + 6 ≤ n) (hI : Inv s) : ∃ t, a_run (some n) shp pL_law 366 [some (.ref 900), some (.ref 0), some (.ref 43), some (.ref 74), some (.int (nI (6 * k))), none, none] [] s = a_run (some n) shp pL_law 1523 [some (.ref 900), some (.ref 0), some (.ref 43), some (.ref 74), some (.int (nI (6 * k))), none, none] [] t ∧ Inv t ∧ t.2.2 ≤ s.2.2 + 1 := by
  have a1 := lw_a1 hn hi
  have c1 := lw_c1 hn hi
  have a2 := lw_a2 hn hi
  have c2 := lw_c2 hn hi
  rcases op_book hI (s.1 900 (6 * k + 1)) (s.1 900 (6 * k + 2)) with ⟨r, s1, hx, g1, hm⟩ | ⟨x, s1, hx, g1, r, t, hm, h0, hp, hI2, g2⟩
  · obtain ⟨t, hm, h0, hI2, ho, g2⟩ := hm (Int32.toInt64 r)
    have e9 : s1.1 900 = s.1 900 := (kpX8_book _ _ _ _ hx).1
    refine ⟨t, ?_, hI2, by omega⟩
    rw [tL_law_366, if_pos a1, if_pos a2, c1, c2, sL_book_q hx, b_bi, tL_law_383, if_pos a1, if_pos a2, c1, c2, m_sl1, e9, hm, b_bi, tL_law_401, tX9_thrown, b_bi, h0, tL_law_407, if_pos (show nI 0 = (0 : Int32) from rfl), if_pos rfl, ho, lg_cmp_same, if_pos rfl]
  · have e9 : s1.1 900 = s.1 900 := (kpX8_book _ _ _ _ hx).1
    have hq : x ∈ [0] := (kpX8_book _ _ _ _ hx).2 x rfl
    refine ⟨t, ?_, hI2, by omega⟩
    rcases List.mem_singleton.mp hq with rfl
    rw [tL_law_366, if_pos a1, if_pos a2, c1, c2, sL_book_x0 hx, b_bi, tL_law_383, if_pos a1, if_pos a2, c1, c2, e9, hm, b_bi, tL_law_401, tX9_thrown, b_bi, h0, tL_law_407, if_pos (show nI 1 = (1 : Int32) from rfl), if_neg (show ¬ (1 : Int32) = 0 by decide)]
theorem cs_reader {n k : Nat} {s : aMem} (hn : n ≤ 3072) (hi : 6 * k + 6 ≤ n) (hI : Inv s) : ∃ t, a_run (some n) shp pL_law 434 [some (.ref 900), some (.ref 0), some (.ref 43), some (.ref 74), some (.int (nI (6 * k))), none, none] [] s = a_run (some n) shp pL_law 1523 [some (.ref 900), some (.ref 0), some (.ref 43), some (.ref 74), some (.int (nI (6 * k))), none, none] [] t ∧ Inv t ∧ t.2.2 ≤ s.2.2 + 1 := by
  have a1 := lw_a1 hn hi
  have c1 := lw_c1 hn hi
  have a2 := lw_a2 hn hi
  have c2 := lw_c2 hn hi
  rcases op_reader hI (s.1 900 (6 * k + 1)) (s.1 900 (6 * k + 2)) with ⟨r, s1, hx, g1, hm⟩ | ⟨x, s1, hx, g1, r, t, hm, h0, hp, hI2, g2⟩
  · obtain ⟨t, hm, h0, hI2, ho, g2⟩ := hm (Int32.toInt64 r)
    have e9 : s1.1 900 = s.1 900 := (kpX8_reader _ _ _ _ hx).1
    refine ⟨t, ?_, hI2, by omega⟩
    rw [tL_law_434, if_pos a1, if_pos a2, c1, c2, sL_reader_q hx, b_bi, tL_law_451, if_pos a1, if_pos a2, c1, c2, m_sl1, e9, hm, b_bi, tL_law_469, tX9_thrown, b_bi, h0, tL_law_475, if_pos (show nI 0 = (0 : Int32) from rfl), if_pos rfl, ho, lg_cmp_same, if_pos rfl]
  · have e9 : s1.1 900 = s.1 900 := (kpX8_reader _ _ _ _ hx).1
    have hq : x ∈ [0] := (kpX8_reader _ _ _ _ hx).2 x rfl
    refine ⟨t, ?_, hI2, by omega⟩
    rcases List.mem_singleton.mp hq with rfl
    rw [tL_law_434, if_pos a1, if_pos a2, c1, c2, sL_reader_x0 hx, b_bi, tL_law_451, if_pos a1, if_pos a2, c1, c2, e9, hm, b_bi, tL_law_469, tX9_thrown, b_bi, h0, tL_law_475, if_pos (show nI 1 = (1 : Int32) from rfl), if_neg (show ¬ (1 : Int32) = 0 by decide)]
theorem cs_exchange {n k : Nat} {s : aMem} (hn : n ≤ 3072) (hi : 6 * k + 6 ≤ n) (hI : Inv s) : ∃ t, a_run (some n) shp pL_law 502 [some (.ref 900), some (.ref 0), some (.ref 43), some (.ref 74), some (.int (nI (6 * k))), none, none] [] s = a_run (some n) shp pL_law 1523 [some (.ref 900), some (.ref 0), some (.ref 43), some (.ref 74), some (.int (nI (6 * k))), none, none] [] t ∧ Inv t ∧ t.2.2 ≤ s.2.2 + 1 := by
  have a1 := lw_a1 hn hi
  have c1 := lw_c1 hn hi
  have a2 := lw_a2 hn hi
  have c2 := lw_c2 hn hi
  have a3 := lw_a3 hn hi
  have c3 := lw_c3 hn hi
  obtain ⟨r, s1, hx, g1, t, hm, hI2, g2⟩ := op_exchange hI (s.1 900 (6 * k + 1)) (s.1 900 (6 * k + 2)) (s.1 900 (6 * k + 3))
  have e9 : s1.1 900 = s.1 900 := (kpX8_exchange _ _ _ _ hx).1
  refine ⟨t, ?_, hI2, by omega⟩
  rw [tL_law_502, if_pos a1, if_pos a2, if_pos a3, c1, c2, c3, hx, b_bi, tL_law_524, if_pos a1, if_pos a2, if_pos a3, c1, c2, c3, e9, hm, b_bi, tL_law_546, if_pos rfl]
theorem cs_swap {n k : Nat} {s : aMem} (hn : n ≤ 3072) (hi : 6 * k + 6 ≤ n) (hI : Inv s) : ∃ t, a_run (some n) shp pL_law 551 [some (.ref 900), some (.ref 0), some (.ref 43), some (.ref 74), some (.int (nI (6 * k))), none, none] [] s = a_run (some n) shp pL_law 1523 [some (.ref 900), some (.ref 0), some (.ref 43), some (.ref 74), some (.int (nI (6 * k))), none, none] [] t ∧ Inv t ∧ t.2.2 ≤ s.2.2 + 1 := by
  have a1 := lw_a1 hn hi
  have c1 := lw_c1 hn hi
  have a2 := lw_a2 hn hi
  have c2 := lw_c2 hn hi
  have a3 := lw_a3 hn hi
  have c3 := lw_c3 hn hi
  have a4 := lw_a4 hn hi
  have c4 := lw_c4 hn hi
  obtain ⟨r, s1, hx, g1, t, hm, hI2, g2⟩ := op_swap hI (s.1 900 (6 * k + 1)) (s.1 900 (6 * k + 2)) (s.1 900 (6 * k + 3)) (s.1 900 (6 * k + 4))
  have e9 : s1.1 900 = s.1 900 := (kpX8_swap _ _ _ _ hx).1
  refine ⟨t, ?_, hI2, by omega⟩
  rw [tL_law_551, if_pos a1, if_pos a2, if_pos a3, if_pos a4, c1, c2, c3, c4, hx, b_bi, tL_law_579, if_pos a1, if_pos a2, if_pos a3, if_pos a4, c1, c2, c3, c4, e9, hm, b_bi, tL_law_607, if_pos rfl]
theorem cs_judge {n k : Nat} {s : aMem} (hn : n ≤ 3072) (hi : 6 * k + 6 ≤ n) (hI : Inv s) : ∃ t, a_run (some n) shp pL_law 612 [some (.ref 900), some (.ref 0), some (.ref 43), some (.ref 74), some (.int (nI (6 * k))), none, none] [] s = a_run (some n) shp pL_law 1523 [some (.ref 900), some (.ref 0), some (.ref 43), some (.ref 74), some (.int (nI (6 * k))), none, none] [] t ∧ Inv t ∧ t.2.2 ≤ s.2.2 + 1 := by
  have a1 := lw_a1 hn hi
  have c1 := lw_c1 hn hi
  have a2 := lw_a2 hn hi
  have c2 := lw_c2 hn hi
  have a3 := lw_a3 hn hi
  have c3 := lw_c3 hn hi
  obtain ⟨r, s1, hx, g1, t, hm, hI2, g2⟩ := op_judge hI (s.1 900 (6 * k + 1)) (s.1 900 (6 * k + 2)) (s.1 900 (6 * k + 3))
  have e9 : s1.1 900 = s.1 900 := (kpX8_judge _ _ _ _ hx).1
  refine ⟨t, ?_, hI2, by omega⟩
  rw [tL_law_612, if_pos a1, if_pos a2, if_pos a3, c1, c2, c3, hx, b_bi, tL_law_634, if_pos a1, if_pos a2, if_pos a3, c1, c2, c3, e9, hm, b_bi, tL_law_656, if_pos rfl]
theorem cs_undo {n k : Nat} {s : aMem} (hn : n ≤ 3072) (hi : 6 * k + 6 ≤ n) (hI : Inv s) : ∃ t, a_run (some n) shp pL_law 661 [some (.ref 900), some (.ref 0), some (.ref 43), some (.ref 74), some (.int (nI (6 * k))), none, none] [] s = a_run (some n) shp pL_law 1523 [some (.ref 900), some (.ref 0), some (.ref 43), some (.ref 74), some (.int (nI (6 * k))), none, none] [] t ∧ Inv t ∧ t.2.2 ≤ s.2.2 + 1 := by
  obtain ⟨r, s1, hx, g1, t, hm, hI2, g2⟩ := op_undo hI 
  refine ⟨t, ?_, hI2, by omega⟩
  rw [tL_law_661, hx, b_bi, tL_law_665, hm, b_bi, tL_law_669, if_pos rfl]
theorem cs_move {n k : Nat} {s : aMem} (hn : n ≤ 3072) (hi : 6 * k + 6 ≤ n) (hI : Inv s) : ∃ t, a_run (some n) shp pL_law 674 [some (.ref 900), some (.ref 0), some (.ref 43), some (.ref 74), some (.int (nI (6 * k))), none, none] [] s = a_run (some n) shp pL_law 1523 [some (.ref 900), some (.ref 0), some (.ref 43), some (.ref 74), some (.int (nI (6 * k))), none, none] [] t ∧ Inv t ∧ t.2.2 ≤ s.2.2 + 1 := by
  have a1 := lw_a1 hn hi
  have c1 := lw_c1 hn hi
  have a2 := lw_a2 hn hi
  have c2 := lw_c2 hn hi
  rcases op_move hI (s.1 900 (6 * k + 1)) (s.1 900 (6 * k + 2)) with ⟨r, s1, hx, g1, hm⟩ | ⟨x, s1, hx, g1, r, t, hm, h0, hp, hI2, g2⟩
  · obtain ⟨t, hm, h0, hI2, ho, g2⟩ := hm (Int32.toInt64 r)
    have e9 : s1.1 900 = s.1 900 := (kpX8_move _ _ _ _ hx).1
    refine ⟨t, ?_, hI2, by omega⟩
    rw [tL_law_674, if_pos a1, if_pos a2, c1, c2, sL_move_q hx, b_bi, tL_law_691, if_pos a1, if_pos a2, c1, c2, m_sl1, e9, hm, b_bi, tL_law_709, tX9_thrown, b_bi, h0, tL_law_715, if_pos (show nI 0 = (0 : Int32) from rfl), if_pos rfl, ho, lg_cmp_same, if_pos rfl]
  · have e9 : s1.1 900 = s.1 900 := (kpX8_move _ _ _ _ hx).1
    have hq : x ∈ [0] := (kpX8_move _ _ _ _ hx).2 x rfl
    refine ⟨t, ?_, hI2, by omega⟩
    rcases List.mem_singleton.mp hq with rfl
    rw [tL_law_674, if_pos a1, if_pos a2, c1, c2, sL_move_x0 hx, b_bi, tL_law_691, if_pos a1, if_pos a2, c1, c2, e9, hm, b_bi, tL_law_709, tX9_thrown, b_bi, h0, tL_law_715, if_pos (show nI 1 = (1 : Int32) from rfl), if_neg (show ¬ (1 : Int32) = 0 by decide)]
theorem cs_reach {n k : Nat} {s : aMem} (hn : n ≤ 3072) (hi : 6 * k + 6 ≤ n) (hI : Inv s) : ∃ t, a_run (some n) shp pL_law 742 [some (.ref 900), some (.ref 0), some (.ref 43), some (.ref 74), some (.int (nI (6 * k))), none, none] [] s = a_run (some n) shp pL_law 1523 [some (.ref 900), some (.ref 0), some (.ref 43), some (.ref 74), some (.int (nI (6 * k))), none, none] [] t ∧ Inv t ∧ t.2.2 ≤ s.2.2 + 1 := by
  have a1 := lw_a1 hn hi
  have c1 := lw_c1 hn hi
  rcases op_reach hI (s.1 900 (6 * k + 1)) with ⟨r, s1, hx, g1, hm⟩ | ⟨x, s1, hx, g1, r, t, hm, h0, hp, hI2, g2⟩
  · obtain ⟨t, hm, h0, hI2, ho, g2⟩ := hm (Int32.toInt64 r)
    have e9 : s1.1 900 = s.1 900 := (kpX8_reach _ _ _ _ hx).1
    refine ⟨t, ?_, hI2, by omega⟩
    rw [tL_law_742, if_pos a1, c1, sL_reach_q hx, b_bi, tL_law_753, if_pos a1, c1, m_sl1, e9, hm, b_bi, tL_law_765, tX9_thrown, b_bi, h0, tL_law_771, if_pos (show nI 0 = (0 : Int32) from rfl), if_pos rfl, ho, lg_cmp_same, if_pos rfl]
  · have e9 : s1.1 900 = s.1 900 := (kpX8_reach _ _ _ _ hx).1
    have hq : x ∈ [0] := (kpX8_reach _ _ _ _ hx).2 x rfl
    refine ⟨t, ?_, hI2, by omega⟩
    rcases List.mem_singleton.mp hq with rfl
    rw [tL_law_742, if_pos a1, c1, sL_reach_x0 hx, b_bi, tL_law_753, if_pos a1, c1, e9, hm, b_bi, tL_law_765, tX9_thrown, b_bi, h0, tL_law_771, if_pos (show nI 1 = (1 : Int32) from rfl), if_neg (show ¬ (1 : Int32) = 0 by decide)]
theorem cs_way {n k : Nat} {s : aMem} (hn : n ≤ 3072) (hi : 6 * k + 6 ≤ n) (hI : Inv s) : ∃ t, a_run (some n) shp pL_law 798 [some (.ref 900), some (.ref 0), some (.ref 43), some (.ref 74), some (.int (nI (6 * k))), none, none] [] s = a_run (some n) shp pL_law 1523 [some (.ref 900), some (.ref 0), some (.ref 43), some (.ref 74), some (.int (nI (6 * k))), none, none] [] t ∧ Inv t ∧ t.2.2 ≤ s.2.2 + 1 := by
  have a1 := lw_a1 hn hi
  have c1 := lw_c1 hn hi
  have a2 := lw_a2 hn hi
  have c2 := lw_c2 hn hi
  rcases op_way hI (s.1 900 (6 * k + 1)) (s.1 900 (6 * k + 2)) with ⟨r, s1, hx, g1, hm⟩ | ⟨x, s1, hx, g1, r, t, hm, h0, hp, hI2, g2⟩
  · obtain ⟨t, hm, h0, hI2, ho, g2⟩ := hm (Int32.toInt64 r)
    have e9 : s1.1 900 = s.1 900 := (kpX8_way _ _ _ _ hx).1
    refine ⟨t, ?_, hI2, by omega⟩
    rw [tL_law_798, if_pos a1, if_pos a2, c1, c2, sL_way_q hx, b_bi, tL_law_815, if_pos a1, if_pos a2, c1, c2, m_sl1, e9, hm, b_bi, tL_law_833, tX9_thrown, b_bi, h0, tL_law_839, if_pos (show nI 0 = (0 : Int32) from rfl), if_pos rfl, ho, lg_cmp_same, if_pos rfl]
  · have e9 : s1.1 900 = s.1 900 := (kpX8_way _ _ _ _ hx).1
    have hq : x ∈ [0] := (kpX8_way _ _ _ _ hx).2 x rfl
    refine ⟨t, ?_, hI2, by omega⟩
    rcases List.mem_singleton.mp hq with rfl
    rw [tL_law_798, if_pos a1, if_pos a2, c1, c2, sL_way_x0 hx, b_bi, tL_law_815, if_pos a1, if_pos a2, c1, c2, e9, hm, b_bi, tL_law_833, tX9_thrown, b_bi, h0, tL_law_839, if_pos (show nI 1 = (1 : Int32) from rfl), if_neg (show ¬ (1 : Int32) = 0 by decide)]
theorem cs_together {n k : Nat} {s : aMem} (hn : n ≤ 3072) (hi : 6 * k + 6 ≤ n) (hI : Inv s) : ∃ t, a_run (some n) shp pL_law 866 [some (.ref 900), some (.ref 0), some (.ref 43), some (.ref 74), some (.int (nI (6 * k))), none, none] [] s = a_run (some n) shp pL_law 1523 [some (.ref 900), some (.ref 0), some (.ref 43), some (.ref 74), some (.int (nI (6 * k))), none, none] [] t ∧ Inv t ∧ t.2.2 ≤ s.2.2 + 1 := by
  have a1 := lw_a1 hn hi
  have c1 := lw_c1 hn hi
  have a2 := lw_a2 hn hi
  have c2 := lw_c2 hn hi
  have a3 := lw_a3 hn hi
  have c3 := lw_c3 hn hi
  rcases op_together hI (s.1 900 (6 * k + 1)) (s.1 900 (6 * k + 2)) (s.1 900 (6 * k + 3)) with ⟨r, s1, hx, g1, hm⟩ | ⟨x, s1, hx, g1, r, t, hm, h0, hp, hI2, g2⟩
  · obtain ⟨t, hm, h0, hI2, ho, g2⟩ := hm (Int32.toInt64 r)
    have e9 : s1.1 900 = s.1 900 := (kpX8_together _ _ _ _ hx).1
    refine ⟨t, ?_, hI2, by omega⟩
    rw [tL_law_866, if_pos a1, if_pos a2, if_pos a3, c1, c2, c3, sL_together_q hx, b_bi, tL_law_889, if_pos a1, if_pos a2, if_pos a3, c1, c2, c3, m_sl1, e9, hm, b_bi, tL_law_913, tX9_thrown, b_bi, h0, tL_law_919, if_pos (show nI 0 = (0 : Int32) from rfl), if_pos rfl, ho, lg_cmp_same, if_pos rfl]
  · have e9 : s1.1 900 = s.1 900 := (kpX8_together _ _ _ _ hx).1
    have hq : x ∈ [0, 1] := (kpX8_together _ _ _ _ hx).2 x rfl
    refine ⟨t, ?_, hI2, by omega⟩
    rcases List.mem_cons.mp hq with rfl | hq
    · rw [tL_law_866, if_pos a1, if_pos a2, if_pos a3, c1, c2, c3, sL_together_x0 hx, b_bi, tL_law_889, if_pos a1, if_pos a2, if_pos a3, c1, c2, c3, e9, hm, b_bi, tL_law_913, tX9_thrown, b_bi, h0, tL_law_919, if_pos (show nI 1 = (1 : Int32) from rfl), if_neg (show ¬ (1 : Int32) = 0 by decide)]
    · rcases List.mem_singleton.mp hq with rfl
      rw [tL_law_866, if_pos a1, if_pos a2, if_pos a3, c1, c2, c3, sL_together_x1 hx, b_bi, tL_law_889, if_pos a1, if_pos a2, if_pos a3, c1, c2, c3, e9, hm, b_bi, tL_law_913, tX9_thrown, b_bi, h0, tL_law_919, if_pos (show nI 2 = (2 : Int32) from rfl), if_neg (show ¬ (2 : Int32) = 0 by decide)]
theorem cs_week {n k : Nat} {s : aMem} (hn : n ≤ 3072) (hi : 6 * k + 6 ≤ n) (hI : Inv s) : ∃ t, a_run (some n) shp pL_law 946 [some (.ref 900), some (.ref 0), some (.ref 43), some (.ref 74), some (.int (nI (6 * k))), none, none] [] s = a_run (some n) shp pL_law 1523 [some (.ref 900), some (.ref 0), some (.ref 43), some (.ref 74), some (.int (nI (6 * k))), none, none] [] t ∧ Inv t ∧ t.2.2 ≤ s.2.2 + 1 := by
  obtain ⟨r, s1, hx, g1, t, hm, hI2, g2⟩ := op_week hI 
  refine ⟨t, ?_, hI2, by omega⟩
  rw [tL_law_946, hx, b_bi, tL_law_950, hm, b_bi, tL_law_954, if_pos rfl]
theorem cs_row {n k : Nat} {s : aMem} (hn : n ≤ 3072) (hi : 6 * k + 6 ≤ n) (hI : Inv s) : ∃ t, a_run (some n) shp pL_law 959 [some (.ref 900), some (.ref 0), some (.ref 43), some (.ref 74), some (.int (nI (6 * k))), none, none] [] s = a_run (some n) shp pL_law 1523 [some (.ref 900), some (.ref 0), some (.ref 43), some (.ref 74), some (.int (nI (6 * k))), none, none] [] t ∧ Inv t ∧ t.2.2 ≤ s.2.2 + 1 := by
  have a1 := lw_a1 hn hi
  have c1 := lw_c1 hn hi
  have a2 := lw_a2 hn hi
  have c2 := lw_c2 hn hi
  rcases op_row hI (s.1 900 (6 * k + 1)) (s.1 900 (6 * k + 2)) with ⟨r, s1, hx, g1, hm⟩ | ⟨x, s1, hx, g1, r, t, hm, h0, hp, hI2, g2⟩
  · obtain ⟨t, hm, h0, hI2, ho, g2⟩ := hm (Int32.toInt64 r)
    have e9 : s1.1 900 = s.1 900 := (kpX8_row _ _ _ _ hx).1
    refine ⟨t, ?_, hI2, by omega⟩
    rw [tL_law_959, if_pos a1, if_pos a2, c1, c2, sL_row_q hx, b_bi, tL_law_976, if_pos a1, if_pos a2, c1, c2, m_sl1, e9, hm, b_bi, tL_law_994, tX9_thrown, b_bi, h0, tL_law_1000, if_pos (show nI 0 = (0 : Int32) from rfl), if_pos rfl, ho, lg_cmp_same, if_pos rfl]
  · have e9 : s1.1 900 = s.1 900 := (kpX8_row _ _ _ _ hx).1
    have hq : x ∈ [0] := (kpX8_row _ _ _ _ hx).2 x rfl
    refine ⟨t, ?_, hI2, by omega⟩
    rcases List.mem_singleton.mp hq with rfl
    rw [tL_law_959, if_pos a1, if_pos a2, c1, c2, sL_row_x0 hx, b_bi, tL_law_976, if_pos a1, if_pos a2, c1, c2, e9, hm, b_bi, tL_law_994, tX9_thrown, b_bi, h0, tL_law_1000, if_pos (show nI 1 = (1 : Int32) from rfl), if_neg (show ¬ (1 : Int32) = 0 by decide)]
theorem cs_lost {n k : Nat} {s : aMem} (hn : n ≤ 3072) (hi : 6 * k + 6 ≤ n) (hI : Inv s) : ∃ t, a_run (some n) shp pL_law 1027 [some (.ref 900), some (.ref 0), some (.ref 43), some (.ref 74), some (.int (nI (6 * k))), none, none] [] s = a_run (some n) shp pL_law 1523 [some (.ref 900), some (.ref 0), some (.ref 43), some (.ref 74), some (.int (nI (6 * k))), none, none] [] t ∧ Inv t ∧ t.2.2 ≤ s.2.2 + 1 := by
  have a1 := lw_a1 hn hi
  have c1 := lw_c1 hn hi
  have a2 := lw_a2 hn hi
  have c2 := lw_c2 hn hi
  rcases op_lost hI (s.1 900 (6 * k + 1)) (s.1 900 (6 * k + 2)) with ⟨r, s1, hx, g1, hm⟩ | ⟨x, s1, hx, g1, r, t, hm, h0, hp, hI2, g2⟩
  · obtain ⟨t, hm, h0, hI2, ho, g2⟩ := hm (Int32.toInt64 r)
    have e9 : s1.1 900 = s.1 900 := (kpX8_lost _ _ _ _ hx).1
    refine ⟨t, ?_, hI2, by omega⟩
    rw [tL_law_1027, if_pos a1, if_pos a2, c1, c2, sL_lost_q hx, b_bi, tL_law_1044, if_pos a1, if_pos a2, c1, c2, m_sl1, e9, hm, b_bi, tL_law_1062, tX9_thrown, b_bi, h0, tL_law_1068, if_pos (show nI 0 = (0 : Int32) from rfl), if_pos rfl, ho, lg_cmp_same, if_pos rfl]
  · have e9 : s1.1 900 = s.1 900 := (kpX8_lost _ _ _ _ hx).1
    have hq : x ∈ [0] := (kpX8_lost _ _ _ _ hx).2 x rfl
    refine ⟨t, ?_, hI2, by omega⟩
    rcases List.mem_singleton.mp hq with rfl
    rw [tL_law_1027, if_pos a1, if_pos a2, c1, c2, sL_lost_x0 hx, b_bi, tL_law_1044, if_pos a1, if_pos a2, c1, c2, e9, hm, b_bi, tL_law_1062, tX9_thrown, b_bi, h0, tL_law_1068, if_pos (show nI 1 = (1 : Int32) from rfl), if_neg (show ¬ (1 : Int32) = 0 by decide)]
theorem cs_worth {n k : Nat} {s : aMem} (hn : n ≤ 3072) (hi : 6 * k + 6 ≤ n) (hI : Inv s) : ∃ t, a_run (some n) shp pL_law 1095 [some (.ref 900), some (.ref 0), some (.ref 43), some (.ref 74), some (.int (nI (6 * k))), none, none] [] s = a_run (some n) shp pL_law 1523 [some (.ref 900), some (.ref 0), some (.ref 43), some (.ref 74), some (.int (nI (6 * k))), none, none] [] t ∧ Inv t ∧ t.2.2 ≤ s.2.2 + 1 := by
  have a1 := lw_a1 hn hi
  have c1 := lw_c1 hn hi
  rcases op_worth hI (s.1 900 (6 * k + 1)) with ⟨r, s1, hx, g1, hm⟩ | ⟨x, s1, hx, g1, r, t, hm, h0, hp, hI2, g2⟩
  · obtain ⟨t, hm, h0, hI2, ho, g2⟩ := hm (Int32.toInt64 r)
    have e9 : s1.1 900 = s.1 900 := (kpX8_worth _ _ _ _ hx).1
    refine ⟨t, ?_, hI2, by omega⟩
    rw [tL_law_1095, if_pos a1, c1, sL_worth_q hx, b_bi, tL_law_1106, if_pos a1, c1, m_sl1, e9, hm, b_bi, tL_law_1118, tX9_thrown, b_bi, h0, tL_law_1124, if_pos (show nI 0 = (0 : Int32) from rfl), if_pos rfl, ho, lg_cmp_same, if_pos rfl]
  · have e9 : s1.1 900 = s.1 900 := (kpX8_worth _ _ _ _ hx).1
    have hq : x ∈ [0, 1] := (kpX8_worth _ _ _ _ hx).2 x rfl
    refine ⟨t, ?_, hI2, by omega⟩
    rcases List.mem_cons.mp hq with rfl | hq
    · rw [tL_law_1095, if_pos a1, c1, sL_worth_x0 hx, b_bi, tL_law_1106, if_pos a1, c1, e9, hm, b_bi, tL_law_1118, tX9_thrown, b_bi, h0, tL_law_1124, if_pos (show nI 1 = (1 : Int32) from rfl), if_neg (show ¬ (1 : Int32) = 0 by decide)]
    · rcases List.mem_singleton.mp hq with rfl
      rw [tL_law_1095, if_pos a1, c1, sL_worth_x1 hx, b_bi, tL_law_1106, if_pos a1, c1, e9, hm, b_bi, tL_law_1118, tX9_thrown, b_bi, h0, tL_law_1124, if_pos (show nI 2 = (2 : Int32) from rfl), if_neg (show ¬ (2 : Int32) = 0 by decide)]
theorem cs_bind {n k : Nat} {s : aMem} (hn : n ≤ 3072) (hi : 6 * k + 6 ≤ n) (hI : Inv s) : ∃ t, a_run (some n) shp pL_law 1151 [some (.ref 900), some (.ref 0), some (.ref 43), some (.ref 74), some (.int (nI (6 * k))), none, none] [] s = a_run (some n) shp pL_law 1523 [some (.ref 900), some (.ref 0), some (.ref 43), some (.ref 74), some (.int (nI (6 * k))), none, none] [] t ∧ Inv t ∧ t.2.2 ≤ s.2.2 + 1 := by
  have a1 := lw_a1 hn hi
  have c1 := lw_c1 hn hi
  have a2 := lw_a2 hn hi
  have c2 := lw_c2 hn hi
  rcases op_bind hI (s.1 900 (6 * k + 1)) (s.1 900 (6 * k + 2)) with ⟨r, s1, hx, g1, hm⟩ | ⟨x, s1, hx, g1, r, t, hm, h0, hp, hI2, g2⟩
  · obtain ⟨t, hm, h0, hI2, ho, g2⟩ := hm (Int32.toInt64 r)
    have e9 : s1.1 900 = s.1 900 := (kpX8_bind _ _ _ _ hx).1
    refine ⟨t, ?_, hI2, by omega⟩
    rw [tL_law_1151, if_pos a1, if_pos a2, c1, c2, sL_bind_q hx, b_bi, tL_law_1168, if_pos a1, if_pos a2, c1, c2, m_sl1, e9, hm, b_bi, tL_law_1186, tX9_thrown, b_bi, h0, tL_law_1192, if_pos (show nI 0 = (0 : Int32) from rfl), if_pos rfl, ho, lg_cmp_same, if_pos rfl]
  · have e9 : s1.1 900 = s.1 900 := (kpX8_bind _ _ _ _ hx).1
    have hq : x ∈ [0] := (kpX8_bind _ _ _ _ hx).2 x rfl
    refine ⟨t, ?_, hI2, by omega⟩
    rcases List.mem_singleton.mp hq with rfl
    rw [tL_law_1151, if_pos a1, if_pos a2, c1, c2, sL_bind_x0 hx, b_bi, tL_law_1168, if_pos a1, if_pos a2, c1, c2, e9, hm, b_bi, tL_law_1186, tX9_thrown, b_bi, h0, tL_law_1192, if_pos (show nI 1 = (1 : Int32) from rfl), if_neg (show ¬ (1 : Int32) = 0 by decide)]
theorem cs_fire {n k : Nat} {s : aMem} (hn : n ≤ 3072) (hi : 6 * k + 6 ≤ n) (hI : Inv s) : ∃ t, a_run (some n) shp pL_law 1219 [some (.ref 900), some (.ref 0), some (.ref 43), some (.ref 74), some (.int (nI (6 * k))), none, none] [] s = a_run (some n) shp pL_law 1523 [some (.ref 900), some (.ref 0), some (.ref 43), some (.ref 74), some (.int (nI (6 * k))), none, none] [] t ∧ Inv t ∧ t.2.2 ≤ s.2.2 + 1 := by
  have a1 := lw_a1 hn hi
  have c1 := lw_c1 hn hi
  rcases op_fire hI (s.1 900 (6 * k + 1)) with ⟨r, s1, hx, g1, hm⟩ | ⟨x, s1, hx, g1, r, t, hm, h0, hp, hI2, g2⟩
  · obtain ⟨t, hm, h0, hI2, ho, g2⟩ := hm (Int32.toInt64 r)
    have e9 : s1.1 900 = s.1 900 := (kpX8_fire _ _ _ _ hx).1
    refine ⟨t, ?_, hI2, by omega⟩
    rw [tL_law_1219, if_pos a1, c1, sL_fire_q hx, b_bi, tL_law_1230, if_pos a1, c1, m_sl1, e9, hm, b_bi, tL_law_1242, tX9_thrown, b_bi, h0, tL_law_1248, if_pos (show nI 0 = (0 : Int32) from rfl), if_pos rfl, ho, lg_cmp_same, if_pos rfl]
  · have e9 : s1.1 900 = s.1 900 := (kpX8_fire _ _ _ _ hx).1
    have hq : x ∈ [1] := (kpX8_fire _ _ _ _ hx).2 x rfl
    refine ⟨t, ?_, hI2, by omega⟩
    rcases List.mem_singleton.mp hq with rfl
    rw [tL_law_1219, if_pos a1, c1, sL_fire_x1 hx, b_bi, tL_law_1230, if_pos a1, c1, e9, hm, b_bi, tL_law_1242, tX9_thrown, b_bi, h0, tL_law_1248, if_pos (show nI 1 = (1 : Int32) from rfl), if_neg (show ¬ (1 : Int32) = 0 by decide)]
theorem cs_event {n k : Nat} {s : aMem} (hn : n ≤ 3072) (hi : 6 * k + 6 ≤ n) (hI : Inv s) : ∃ t, a_run (some n) shp pL_law 1275 [some (.ref 900), some (.ref 0), some (.ref 43), some (.ref 74), some (.int (nI (6 * k))), none, none] [] s = a_run (some n) shp pL_law 1523 [some (.ref 900), some (.ref 0), some (.ref 43), some (.ref 74), some (.int (nI (6 * k))), none, none] [] t ∧ Inv t ∧ t.2.2 ≤ s.2.2 + 1 := by
  have a1 := lw_a1 hn hi
  have c1 := lw_c1 hn hi
  have a2 := lw_a2 hn hi
  have c2 := lw_c2 hn hi
  have a3 := lw_a3 hn hi
  have c3 := lw_c3 hn hi
  obtain ⟨r, s1, hx, g1, t, hm, hI2, g2⟩ := op_event hI (s.1 900 (6 * k + 1)) (s.1 900 (6 * k + 2)) (s.1 900 (6 * k + 3))
  have e9 : s1.1 900 = s.1 900 := (kpX8_event _ _ _ _ hx).1
  refine ⟨t, ?_, hI2, by omega⟩
  rw [tL_law_1275, if_pos a1, if_pos a2, if_pos a3, c1, c2, c3, hx, b_bi, tL_law_1297, if_pos a1, if_pos a2, if_pos a3, c1, c2, c3, e9, hm, b_bi, tL_law_1319, if_pos rfl]
theorem cs_forget {n k : Nat} {s : aMem} (hn : n ≤ 3072) (hi : 6 * k + 6 ≤ n) (hI : Inv s) : ∃ t, a_run (some n) shp pL_law 1324 [some (.ref 900), some (.ref 0), some (.ref 43), some (.ref 74), some (.int (nI (6 * k))), none, none] [] s = a_run (some n) shp pL_law 1523 [some (.ref 900), some (.ref 0), some (.ref 43), some (.ref 74), some (.int (nI (6 * k))), none, none] [] t ∧ Inv t ∧ t.2.2 ≤ s.2.2 + 1 := by
  obtain ⟨r, s1, hx, g1, t, hm, hI2, g2⟩ := op_forget hI 
  refine ⟨t, ?_, hI2, by omega⟩
  rw [tL_law_1324, hx, b_bi, tL_law_1328, hm, b_bi, tL_law_1332, if_pos rfl]
theorem cs_orders {n k : Nat} {s : aMem} (hn : n ≤ 3072) (hi : 6 * k + 6 ≤ n) (hI : Inv s) : ∃ t, a_run (some n) shp pL_law 1337 [some (.ref 900), some (.ref 0), some (.ref 43), some (.ref 74), some (.int (nI (6 * k))), none, none] [] s = a_run (some n) shp pL_law 1523 [some (.ref 900), some (.ref 0), some (.ref 43), some (.ref 74), some (.int (nI (6 * k))), none, none] [] t ∧ Inv t ∧ t.2.2 ≤ s.2.2 + 1 := by
  obtain ⟨r, s1, hx, g1, t, hm, hI2, g2⟩ := op_orders hI 
  refine ⟨t, ?_, hI2, by omega⟩
  rw [tL_law_1337, hx, b_bi, tL_law_1341, hm, b_bi, tL_law_1345, if_pos rfl]
theorem cs_there {n k : Nat} {s : aMem} (hn : n ≤ 3072) (hi : 6 * k + 6 ≤ n) (hI : Inv s) : ∃ t, a_run (some n) shp pL_law 1350 [some (.ref 900), some (.ref 0), some (.ref 43), some (.ref 74), some (.int (nI (6 * k))), none, none] [] s = a_run (some n) shp pL_law 1523 [some (.ref 900), some (.ref 0), some (.ref 43), some (.ref 74), some (.int (nI (6 * k))), none, none] [] t ∧ Inv t ∧ t.2.2 ≤ s.2.2 + 1 := by
  have a1 := lw_a1 hn hi
  have c1 := lw_c1 hn hi
  have a2 := lw_a2 hn hi
  have c2 := lw_c2 hn hi
  rcases op_there hI (s.1 900 (6 * k + 1)) (s.1 900 (6 * k + 2)) with ⟨r, s1, hx, g1, hm⟩ | ⟨x, s1, hx, g1, r, t, hm, h0, hp, hI2, g2⟩
  · obtain ⟨t, hm, h0, hI2, ho, g2⟩ := hm (Int32.toInt64 r)
    have e9 : s1.1 900 = s.1 900 := (kpX8_there _ _ _ _ hx).1
    refine ⟨t, ?_, hI2, by omega⟩
    rw [tL_law_1350, if_pos a1, if_pos a2, c1, c2, sL_there_q hx, b_bi, tL_law_1367, if_pos a1, if_pos a2, c1, c2, m_sl1, e9, hm, b_bi, tL_law_1385, tX9_thrown, b_bi, h0, tL_law_1391, if_pos (show nI 0 = (0 : Int32) from rfl), if_pos rfl, ho, lg_cmp_same, if_pos rfl]
  · have e9 : s1.1 900 = s.1 900 := (kpX8_there _ _ _ _ hx).1
    have hq : x ∈ [0, 1] := (kpX8_there _ _ _ _ hx).2 x rfl
    refine ⟨t, ?_, hI2, by omega⟩
    rcases List.mem_cons.mp hq with rfl | hq
    · rw [tL_law_1350, if_pos a1, if_pos a2, c1, c2, sL_there_x0 hx, b_bi, tL_law_1367, if_pos a1, if_pos a2, c1, c2, e9, hm, b_bi, tL_law_1385, tX9_thrown, b_bi, h0, tL_law_1391, if_pos (show nI 1 = (1 : Int32) from rfl), if_neg (show ¬ (1 : Int32) = 0 by decide)]
    · rcases List.mem_singleton.mp hq with rfl
      rw [tL_law_1350, if_pos a1, if_pos a2, c1, c2, sL_there_x1 hx, b_bi, tL_law_1367, if_pos a1, if_pos a2, c1, c2, e9, hm, b_bi, tL_law_1385, tX9_thrown, b_bi, h0, tL_law_1391, if_pos (show nI 2 = (2 : Int32) from rfl), if_neg (show ¬ (2 : Int32) = 0 by decide)]
theorem cs_knot {n k : Nat} {s : aMem} (hn : n ≤ 3072) (hi : 6 * k + 6 ≤ n) (hI : Inv s) : ∃ t, a_run (some n) shp pL_law 1418 [some (.ref 900), some (.ref 0), some (.ref 43), some (.ref 74), some (.int (nI (6 * k))), none, none] [] s = a_run (some n) shp pL_law 1523 [some (.ref 900), some (.ref 0), some (.ref 43), some (.ref 74), some (.int (nI (6 * k))), none, none] [] t ∧ Inv t ∧ t.2.2 ≤ s.2.2 + 1 := by
  obtain ⟨r, s1, hx, g1, t, hm, hI2, g2⟩ := op_knot hI 
  refine ⟨t, ?_, hI2, by omega⟩
  rw [tL_law_1418, hx, b_bi, tL_law_1422, hm, b_bi, tL_law_1426, if_pos rfl]
theorem cs_hands {n k : Nat} {s : aMem} (hn : n ≤ 3072) (hi : 6 * k + 6 ≤ n) (hI : Inv s) : ∃ t, a_run (some n) shp pL_law 1431 [some (.ref 900), some (.ref 0), some (.ref 43), some (.ref 74), some (.int (nI (6 * k))), none, none] [] s = a_run (some n) shp pL_law 1523 [some (.ref 900), some (.ref 0), some (.ref 43), some (.ref 74), some (.int (nI (6 * k))), none, none] [] t ∧ Inv t ∧ t.2.2 ≤ s.2.2 + 1 := by
  have a1 := lw_a1 hn hi
  have c1 := lw_c1 hn hi
  have a2 := lw_a2 hn hi
  have c2 := lw_c2 hn hi
  rcases op_hands hI (s.1 900 (6 * k + 1)) (s.1 900 (6 * k + 2)) with ⟨r, s1, hx, g1, hm⟩ | ⟨x, s1, hx, g1, r, t, hm, h0, hp, hI2, g2⟩
  · obtain ⟨t, hm, h0, hI2, ho, g2⟩ := hm (Int32.toInt64 r)
    have e9 : s1.1 900 = s.1 900 := (kpX8_hands _ _ _ _ hx).1
    refine ⟨t, ?_, hI2, by omega⟩
    rw [tL_law_1431, if_pos a1, if_pos a2, c1, c2, sL_hands_q hx, b_bi, tL_law_1448, if_pos a1, if_pos a2, c1, c2, m_sl1, e9, hm, b_bi, tL_law_1466, tX9_thrown, b_bi, h0, tL_law_1472, if_pos (show nI 0 = (0 : Int32) from rfl), if_pos rfl, ho, lg_cmp_same, if_pos rfl]
  · have e9 : s1.1 900 = s.1 900 := (kpX8_hands _ _ _ _ hx).1
    have hq : x ∈ [0] := (kpX8_hands _ _ _ _ hx).2 x rfl
    refine ⟨t, ?_, hI2, by omega⟩
    rcases List.mem_singleton.mp hq with rfl
    rw [tL_law_1431, if_pos a1, if_pos a2, c1, c2, sL_hands_x0 hx, b_bi, tL_law_1448, if_pos a1, if_pos a2, c1, c2, e9, hm, b_bi, tL_law_1466, tX9_thrown, b_bi, h0, tL_law_1472, if_pos (show nI 1 = (1 : Int32) from rfl), if_neg (show ¬ (1 : Int32) = 0 by decide)]
theorem cs_image {n k : Nat} {s : aMem} (hn : n ≤ 3072) (hi : 6 * k + 6 ≤ n) (hI : Inv s) : ∃ t, a_run (some n) shp pL_law 1499 [some (.ref 900), some (.ref 0), some (.ref 43), some (.ref 74), some (.int (nI (6 * k))), none, none] [] s = a_run (some n) shp pL_law 1523 [some (.ref 900), some (.ref 0), some (.ref 43), some (.ref 74), some (.int (nI (6 * k))), none, none] [] t ∧ Inv t ∧ t.2.2 ≤ s.2.2 + 1 := by
  obtain ⟨s1, hx, g1, t, hm, hI2, g2⟩ := op_image hI
  refine ⟨t, ?_, hI2, by omega⟩
  rw [tL_law_1499, hx, b_bv, tL_law_1503, hm, b_bv, tL_law_1507]
theorem cs_restore {n k : Nat} {s : aMem} (hn : n ≤ 3072) (hi : 6 * k + 6 ≤ n) (hI : Inv s) : ∃ t, a_run (some n) shp pL_law 1510 [some (.ref 900), some (.ref 0), some (.ref 43), some (.ref 74), some (.int (nI (6 * k))), none, none] [] s = a_run (some n) shp pL_law 1523 [some (.ref 900), some (.ref 0), some (.ref 43), some (.ref 74), some (.int (nI (6 * k))), none, none] [] t ∧ Inv t ∧ t.2.2 ≤ s.2.2 + 1 := by
  obtain ⟨r, s1, hx, g1, t, hm, hI2, g2⟩ := op_restore hI 
  refine ⟨t, ?_, hI2, by omega⟩
  rw [tL_law_1510, hx, b_bi, tL_law_1514, hm, b_bi, tL_law_1518, if_pos rfl]
