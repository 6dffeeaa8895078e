/-! ===== the helpers' answers, written by wip/whole/cases.py ===== -/
set_option maxRecDepth 20000 in
theorem sL_library_q {s s1 : aMem} {v1 : Int32} {r : Int32} (h : fX8_library [.ref 0, .int v1] s = some (.inl (some (.int r)), s1)) : fL_library [.ref 0, .int v1, .ref 74] s = some (.inl (some (.int 0)), a_sl s1 74 0 (Int32.toInt64 r)) := by
  refine (a_ev_eq none shp pL_library [] 30 0 _ _ _).trans ?_
  show a_bi (fX8_library [.ref 0, .int v1] s) _ none _ = _
  rw [h]
  rfl
set_option maxRecDepth 20000 in
theorem sL_library_x1 {s s1 : aMem} {v1 : Int32} (h : fX8_library [.ref 0, .int v1] s = some (.inr 1, s1)) : fL_library [.ref 0, .int v1, .ref 74] s = some (.inl (some (.int 1)), s1) := by
  refine (a_ev_eq none shp pL_library [] 30 0 _ _ _).trans ?_
  show a_bi (fX8_library [.ref 0, .int v1] s) _ none _ = _
  rw [h]
  rfl
set_option maxRecDepth 20000 in
theorem sL_count_q {s s1 : aMem} {v1 : Int32} {r : Int32} (h : fX8_count [.ref 0, .int v1] s = some (.inl (some (.int r)), s1)) : fL_count [.ref 0, .int v1, .ref 74] s = some (.inl (some (.int 0)), a_sl s1 74 0 (Int32.toInt64 r)) := by
  refine (a_ev_eq none shp pL_count [] 30 0 _ _ _).trans ?_
  show a_bi (fX8_count [.ref 0, .int v1] s) _ none _ = _
  rw [h]
  rfl
set_option maxRecDepth 20000 in
theorem sL_count_x0 {s s1 : aMem} {v1 : Int32} (h : fX8_count [.ref 0, .int v1] s = some (.inr 0, s1)) : fL_count [.ref 0, .int v1, .ref 74] s = some (.inl (some (.int 1)), s1) := by
  refine (a_ev_eq none shp pL_count [] 30 0 _ _ _).trans ?_
  show a_bi (fX8_count [.ref 0, .int v1] s) _ none _ = _
  rw [h]
  rfl
set_option maxRecDepth 20000 in
theorem sL_book_q {s s1 : aMem} {v1 v2 : Int32} {r : Int32} (h : fX8_book [.ref 0, .int v1, .int v2] s = some (.inl (some (.int r)), s1)) : fL_book [.ref 0, .int v1, .int v2, .ref 74] s = some (.inl (some (.int 0)), a_sl s1 74 0 (Int32.toInt64 r)) := by
  refine (a_ev_eq none shp pL_book [] 30 0 _ _ _).trans ?_
  show a_bi (fX8_book [.ref 0, .int v1, .int v2] s) _ none _ = _
  rw [h]
  rfl
set_option maxRecDepth 20000 in
theorem sL_book_x0 {s s1 : aMem} {v1 v2 : Int32} (h : fX8_book [.ref 0, .int v1, .int v2] s = some (.inr 0, s1)) : fL_book [.ref 0, .int v1, .int v2, .ref 74] s = some (.inl (some (.int 1)), s1) := by
  refine (a_ev_eq none shp pL_book [] 30 0 _ _ _).trans ?_
  show a_bi (fX8_book [.ref 0, .int v1, .int v2] s) _ none _ = _
  rw [h]
  rfl
set_option maxRecDepth 20000 in
theorem sL_reader_q {s s1 : aMem} {v1 v2 : Int32} {r : Int32} (h : fX8_reader [.ref 0, .int v1, .int v2] s = some (.inl (some (.int r)), s1)) : fL_reader [.ref 0, .int v1, .int v2, .ref 74] s = some (.inl (some (.int 0)), a_sl s1 74 0 (Int32.toInt64 r)) := by
  refine (a_ev_eq none shp pL_reader [] 30 0 _ _ _).trans ?_
  show a_bi (fX8_reader [.ref 0, .int v1, .int v2] s) _ none _ = _
  rw [h]
  rfl
set_option maxRecDepth 20000 in
theorem sL_reader_x0 {s s1 : aMem} {v1 v2 : Int32} (h : fX8_reader [.ref 0, .int v1, .int v2] s = some (.inr 0, s1)) : fL_reader [.ref 0, .int v1, .int v2, .ref 74] s = some (.inl (some (.int 1)), s1) := by
  refine (a_ev_eq none shp pL_reader [] 30 0 _ _ _).trans ?_
  show a_bi (fX8_reader [.ref 0, .int v1, .int v2] s) _ none _ = _
  rw [h]
  rfl
set_option maxRecDepth 20000 in
theorem sL_move_q {s s1 : aMem} {v1 v2 : Int32} {r : Int32} (h : fX8_move [.ref 0, .int v1, .int v2] s = some (.inl (some (.int r)), s1)) : fL_move [.ref 0, .int v1, .int v2, .ref 74] s = some (.inl (some (.int 0)), a_sl s1 74 0 (Int32.toInt64 r)) := by
  refine (a_ev_eq none shp pL_move [] 30 0 _ _ _).trans ?_
  show a_bi (fX8_move [.ref 0, .int v1, .int v2] s) _ none _ = _
  rw [h]
  rfl
set_option maxRecDepth 20000 in
theorem sL_move_x0 {s s1 : aMem} {v1 v2 : Int32} (h : fX8_move [.ref 0, .int v1, .int v2] s = some (.inr 0, s1)) : fL_move [.ref 0, .int v1, .int v2, .ref 74] s = some (.inl (some (.int 1)), s1) := by
  refine (a_ev_eq none shp pL_move [] 30 0 _ _ _).trans ?_
  show a_bi (fX8_move [.ref 0, .int v1, .int v2] s) _ none _ = _
  rw [h]
  rfl
set_option maxRecDepth 20000 in
theorem sL_reach_q {s s1 : aMem} {v1 : Int32} {r : Int32} (h : fX8_reach [.ref 0, .int v1] s = some (.inl (some (.int r)), s1)) : fL_reach [.ref 0, .int v1, .ref 74] s = some (.inl (some (.int 0)), a_sl s1 74 0 (Int32.toInt64 r)) := by
  refine (a_ev_eq none shp pL_reach [] 30 0 _ _ _).trans ?_
  show a_bi (fX8_reach [.ref 0, .int v1] s) _ none _ = _
  rw [h]
  rfl
set_option maxRecDepth 20000 in
theorem sL_reach_x0 {s s1 : aMem} {v1 : Int32} (h : fX8_reach [.ref 0, .int v1] s = some (.inr 0, s1)) : fL_reach [.ref 0, .int v1, .ref 74] s = some (.inl (some (.int 1)), s1) := by
  refine (a_ev_eq none shp pL_reach [] 30 0 _ _ _).trans ?_
  show a_bi (fX8_reach [.ref 0, .int v1] s) _ none _ = _
  rw [h]
  rfl
set_option maxRecDepth 20000 in
theorem sL_way_q {s s1 : aMem} {v1 v2 : Int32} {r : Int32} (h : fX8_way [.ref 0, .int v1, .int v2] s = some (.inl (some (.int r)), s1)) : fL_way [.ref 0, .int v1, .int v2, .ref 74] s = some (.inl (some (.int 0)), a_sl s1 74 0 (Int32.toInt64 r)) := by
  refine (a_ev_eq none shp pL_way [] 30 0 _ _ _).trans ?_
  show a_bi (fX8_way [.ref 0, .int v1, .int v2] s) _ none _ = _
  rw [h]
  rfl
set_option maxRecDepth 20000 in
theorem sL_way_x0 {s s1 : aMem} {v1 v2 : Int32} (h : fX8_way [.ref 0, .int v1, .int v2] s = some (.inr 0, s1)) : fL_way [.ref 0, .int v1, .int v2, .ref 74] s = some (.inl (some (.int 1)), s1) := by
  refine (a_ev_eq none shp pL_way [] 30 0 _ _ _).trans ?_
  show a_bi (fX8_way [.ref 0, .int v1, .int v2] s) _ none _ = _
  rw [h]
  rfl
set_option maxRecDepth 20000 in
theorem sL_together_q {s s1 : aMem} {v1 v2 v3 : Int32} {r : Int32} (h : fX8_together [.ref 0, .int v1, .int v2, .int v3] s = some (.inl (some (.int r)), s1)) : fL_together [.ref 0, .int v1, .int v2, .int v3, .ref 74] s = some (.inl (some (.int 0)), a_sl s1 74 0 (Int32.toInt64 r)) := by
  refine (a_ev_eq none shp pL_together [] 30 0 _ _ _).trans ?_
  show a_bi (fX8_together [.ref 0, .int v1, .int v2, .int v3] s) _ none _ = _
  rw [h]
  rfl
set_option maxRecDepth 20000 in
theorem sL_together_x0 {s s1 : aMem} {v1 v2 v3 : Int32} (h : fX8_together [.ref 0, .int v1, .int v2, .int v3] s = some (.inr 0, s1)) : fL_together [.ref 0, .int v1, .int v2, .int v3, .ref 74] s = some (.inl (some (.int 1)), s1) := by
  refine (a_ev_eq none shp pL_together [] 30 0 _ _ _).trans ?_
  show a_bi (fX8_together [.ref 0, .int v1, .int v2, .int v3] s) _ none _ = _
  rw [h]
  rfl
set_option maxRecDepth 20000 in
theorem sL_together_x1 {s s1 : aMem} {v1 v2 v3 : Int32} (h : fX8_together [.ref 0, .int v1, .int v2, .int v3] s = some (.inr 1, s1)) : fL_together [.ref 0, .int v1, .int v2, .int v3, .ref 74] s = some (.inl (some (.int 2)), s1) := by
  refine (a_ev_eq none shp pL_together [] 30 0 _ _ _).trans ?_
  show a_bi (fX8_together [.ref 0, .int v1, .int v2, .int v3] s) _ none _ = _
  rw [h]
  rfl
set_option maxRecDepth 20000 in
theorem sL_row_q {s s1 : aMem} {v1 v2 : Int32} {r : Int32} (h : fX8_row [.ref 0, .int v1, .int v2] s = some (.inl (some (.int r)), s1)) : fL_row [.ref 0, .int v1, .int v2, .ref 74] s = some (.inl (some (.int 0)), a_sl s1 74 0 (Int32.toInt64 r)) := by
  refine (a_ev_eq none shp pL_row [] 30 0 _ _ _).trans ?_
  show a_bi (fX8_row [.ref 0, .int v1, .int v2] s) _ none _ = _
  rw [h]
  rfl
set_option maxRecDepth 20000 in
theorem sL_row_x0 {s s1 : aMem} {v1 v2 : Int32} (h : fX8_row [.ref 0, .int v1, .int v2] s = some (.inr 0, s1)) : fL_row [.ref 0, .int v1, .int v2, .ref 74] s = some (.inl (some (.int 1)), s1) := by
  refine (a_ev_eq none shp pL_row [] 30 0 _ _ _).trans ?_
  show a_bi (fX8_row [.ref 0, .int v1, .int v2] s) _ none _ = _
  rw [h]
  rfl
set_option maxRecDepth 20000 in
theorem sL_lost_q {s s1 : aMem} {v1 v2 : Int32} {r : Int32} (h : fX8_lost [.ref 0, .int v1, .int v2] s = some (.inl (some (.int r)), s1)) : fL_lost [.ref 0, .int v1, .int v2, .ref 74] s = some (.inl (some (.int 0)), a_sl s1 74 0 (Int32.toInt64 r)) := by
  refine (a_ev_eq none shp pL_lost [] 30 0 _ _ _).trans ?_
  show a_bi (fX8_lost [.ref 0, .int v1, .int v2] s) _ none _ = _
  rw [h]
  rfl
set_option maxRecDepth 20000 in
theorem sL_lost_x0 {s s1 : aMem} {v1 v2 : Int32} (h : fX8_lost [.ref 0, .int v1, .int v2] s = some (.inr 0, s1)) : fL_lost [.ref 0, .int v1, .int v2, .ref 74] s = some (.inl (some (.int 1)), s1) := by
  refine (a_ev_eq none shp pL_lost [] 30 0 _ _ _).trans ?_
  show a_bi (fX8_lost [.ref 0, .int v1, .int v2] s) _ none _ = _
  rw [h]
  rfl
set_option maxRecDepth 20000 in
theorem sL_worth_q {s s1 : aMem} {v1 : Int32} {r : Int32} (h : fX8_worth [.ref 0, .int v1] s = some (.inl (some (.int r)), s1)) : fL_worth [.ref 0, .int v1, .ref 74] s = some (.inl (some (.int 0)), a_sl s1 74 0 (Int32.toInt64 r)) := by
  refine (a_ev_eq none shp pL_worth [] 30 0 _ _ _).trans ?_
  show a_bi (fX8_worth [.ref 0, .int v1] s) _ none _ = _
  rw [h]
  rfl
set_option maxRecDepth 20000 in
theorem sL_worth_x0 {s s1 : aMem} {v1 : Int32} (h : fX8_worth [.ref 0, .int v1] s = some (.inr 0, s1)) : fL_worth [.ref 0, .int v1, .ref 74] s = some (.inl (some (.int 1)), s1) := by
  refine (a_ev_eq none shp pL_worth [] 30 0 _ _ _).trans ?_
  show a_bi (fX8_worth [.ref 0, .int v1] s) _ none _ = _
  rw [h]
  rfl
set_option maxRecDepth 20000 in
theorem sL_worth_x1 {s s1 : aMem} {v1 : Int32} (h : fX8_worth [.ref 0, .int v1] s = some (.inr 1, s1)) : fL_worth [.ref 0, .int v1, .ref 74] s = some (.inl (some (.int 2)), s1) := by
  refine (a_ev_eq none shp pL_worth [] 30 0 _ _ _).trans ?_
  show a_bi (fX8_worth [.ref 0, .int v1] s) _ none _ = _
  rw [h]
  rfl
set_option maxRecDepth 20000 in
theorem sL_bind_q {s s1 : aMem} {v1 v2 : Int32} {r : Int32} (h : fX8_bind [.ref 0, .int v1, .int v2] s = some (.inl (some (.int r)), s1)) : fL_bind [.ref 0, .int v1, .int v2, .ref 74] s = some (.inl (some (.int 0)), a_sl s1 74 0 (Int32.toInt64 r)) := by
  refine (a_ev_eq none shp pL_bind [] 30 0 _ _ _).trans ?_
  show a_bi (fX8_bind [.ref 0, .int v1, .int v2] s) _ none _ = _
  rw [h]
  rfl
set_option maxRecDepth 20000 in
theorem sL_bind_x0 {s s1 : aMem} {v1 v2 : Int32} (h : fX8_bind [.ref 0, .int v1, .int v2] s = some (.inr 0, s1)) : fL_bind [.ref 0, .int v1, .int v2, .ref 74] s = some (.inl (some (.int 1)), s1) := by
  refine (a_ev_eq none shp pL_bind [] 30 0 _ _ _).trans ?_
  show a_bi (fX8_bind [.ref 0, .int v1, .int v2] s) _ none _ = _
  rw [h]
  rfl
set_option maxRecDepth 20000 in
theorem sL_fire_q {s s1 : aMem} {v1 : Int32} {r : Int32} (h : fX8_fire [.ref 0, .int v1] s = some (.inl (some (.int r)), s1)) : fL_fire [.ref 0, .int v1, .ref 74] s = some (.inl (some (.int 0)), a_sl s1 74 0 (Int32.toInt64 r)) := by
  refine (a_ev_eq none shp pL_fire [] 30 0 _ _ _).trans ?_
  show a_bi (fX8_fire [.ref 0, .int v1] s) _ none _ = _
  rw [h]
  rfl
set_option maxRecDepth 20000 in
theorem sL_fire_x1 {s s1 : aMem} {v1 : Int32} (h : fX8_fire [.ref 0, .int v1] s = some (.inr 1, s1)) : fL_fire [.ref 0, .int v1, .ref 74] s = some (.inl (some (.int 1)), s1) := by
  refine (a_ev_eq none shp pL_fire [] 30 0 _ _ _).trans ?_
  show a_bi (fX8_fire [.ref 0, .int v1] s) _ none _ = _
  rw [h]
  rfl
set_option maxRecDepth 20000 in
theorem sL_there_q {s s1 : aMem} {v1 v2 : Int32} {r : Int32} (h : fX8_there [.ref 0, .int v1, .int v2] s = some (.inl (some (.int r)), s1)) : fL_there [.ref 0, .int v1, .int v2, .ref 74] s = some (.inl (some (.int 0)), a_sl s1 74 0 (Int32.toInt64 r)) := by
  refine (a_ev_eq none shp pL_there [] 30 0 _ _ _).trans ?_
  show a_bi (fX8_there [.ref 0, .int v1, .int v2] s) _ none _ = _
  rw [h]
  rfl
set_option maxRecDepth 20000 in
theorem sL_there_x0 {s s1 : aMem} {v1 v2 : Int32} (h : fX8_there [.ref 0, .int v1, .int v2] s = some (.inr 0, s1)) : fL_there [.ref 0, .int v1, .int v2, .ref 74] s = some (.inl (some (.int 1)), s1) := by
  refine (a_ev_eq none shp pL_there [] 30 0 _ _ _).trans ?_
  show a_bi (fX8_there [.ref 0, .int v1, .int v2] s) _ none _ = _
  rw [h]
  rfl
set_option maxRecDepth 20000 in
theorem sL_there_x1 {s s1 : aMem} {v1 v2 : Int32} (h : fX8_there [.ref 0, .int v1, .int v2] s = some (.inr 1, s1)) : fL_there [.ref 0, .int v1, .int v2, .ref 74] s = some (.inl (some (.int 2)), s1) := by
  refine (a_ev_eq none shp pL_there [] 30 0 _ _ _).trans ?_
  show a_bi (fX8_there [.ref 0, .int v1, .int v2] s) _ none _ = _
  rw [h]
  rfl
set_option maxRecDepth 20000 in
theorem sL_hands_q {s s1 : aMem} {v1 v2 : Int32} {r : Int32} (h : fX8_hands [.ref 0, .int v1, .int v2] s = some (.inl (some (.int r)), s1)) : fL_hands [.ref 0, .int v1, .int v2, .ref 74] s = some (.inl (some (.int 0)), a_sl s1 74 0 (Int32.toInt64 r)) := by
  refine (a_ev_eq none shp pL_hands [] 30 0 _ _ _).trans ?_
  show a_bi (fX8_hands [.ref 0, .int v1, .int v2] s) _ none _ = _
  rw [h]
  rfl
set_option maxRecDepth 20000 in
theorem sL_hands_x0 {s s1 : aMem} {v1 v2 : Int32} (h : fX8_hands [.ref 0, .int v1, .int v2] s = some (.inr 0, s1)) : fL_hands [.ref 0, .int v1, .int v2, .ref 74] s = some (.inl (some (.int 1)), s1) := by
  refine (a_ev_eq none shp pL_hands [] 30 0 _ _ _).trans ?_
  show a_bi (fX8_hands [.ref 0, .int v1, .int v2] s) _ none _ = _
  rw [h]
  rfl
