/-! ===== what holds at the law's entry, written by wip/whole/entry.py ===== -/
def z_t (q : String × Nat × String) : Term := .string q.1 q.2.1
def z_f (q : String × Nat × String) : Term := .field (z_t q) "java/lang/String" "value" "[B"
def z_e (q : String × Nat × String) (j : Nat) : Cond := .eq (.elem (z_f q) (.int (Int32.ofNat j))) (.int (Int32.ofNat ((q.2.2.toList.map Char.toNat).getD j 0)))
def z_cs (q : String × Nat × String) : List Cond := [.exactly (z_t q) "java/lang/String", .eq (.field (z_t q) "java/lang/String" "coder" "B") (.int 0), .arrayOf (z_f q) .byte, .eq (.length (z_f q)) (.int (Int32.ofNat q.2.2.length))] ++ (List.range q.2.2.length).map (z_e q)
set_option maxRecDepth 100000 in
theorem z_all : zs.flatMap z_cs = ([67, 68, 69, 70, 71, 72, 73, 74, 75, 76, 77, 78, 79, 80, 81, 82, 83, 84, 119, 120, 121, 122, 123, 124, 125, 126, 127, 128, 129, 130, 131, 132, 133, 134, 85, 86, 87, 88, 89, 90, 91, 92, 93, 94, 95, 96, 97, 98, 99, 100, 101, 102, 103, 104, 105, 106, 107, 108, 109, 110, 111, 112, 113, 114, 115, 116, 117, 118, 142, 143, 144, 145, 146, 147, 148, 149, 150, 151, 152, 153, 154, 135, 136, 137, 138, 139, 140, 141, 155, 156, 157, 158, 159, 160, 161, 162, 163, 164, 165, 166, 167, 168, 169, 170, 171, 172, 173, 174, 175, 176, 177, 178, 179, 180, 181, 182, 183, 184, 185, 186, 187, 188, 189, 190, 191, 192, 193, 33, 34, 35, 36, 37, 38, 39, 40, 41, 42, 43, 44, 45, 46, 47, 48, 49, 50, 51, 52, 53, 54, 55, 56, 57, 58, 59, 60, 61, 62, 63, 64, 65, 66, 194, 195, 196, 197, 198, 199, 200, 201, 202, 203, 204, 205, 206, 207, 208, 209, 210, 261, 262, 263, 264, 265, 266, 267, 268, 269, 270, 271, 272, 273, 274, 275, 276, 277, 278, 279, 280, 281, 282, 283, 284, 285, 286, 287, 288, 289, 290, 291, 292, 293, 294, 295, 296, 297, 298, 299, 300, 301, 302, 303, 304, 305, 306, 307, 308, 309, 310, 311, 312, 313, 314, 315, 316, 317, 318, 319, 320, 321, 322, 323, 324, 325, 326, 327, 328, 329, 330, 331, 332, 333, 334, 335, 336, 337, 338, 339, 340, 341, 342, 343, 344, 345, 346, 347, 348, 349, 350, 351, 352, 353, 354, 355, 356, 357, 358, 359, 360, 361, 362, 363, 364, 365, 366, 367, 368, 369, 370, 371, 372, 373, 374, 375, 376, 377, 378, 379, 380, 381, 382, 383, 384, 385, 386, 387, 388, 389, 390, 391, 392, 393, 394, 395, 396, 397, 398, 399, 400, 401, 402, 403, 404, 405, 406, 407, 408, 409, 410, 411, 412, 413, 414, 415, 416, 417, 418, 419, 420, 421, 422, 423, 424, 425, 426, 427, 428, 429, 430, 431, 432, 433, 434, 435, 436, 437, 438, 439, 440, 441, 442, 443, 444, 445, 446, 447, 448, 449, 450, 451, 452, 453, 454, 455, 456, 457, 458, 459, 460, 461, 462, 463, 464, 465, 466, 467, 468, 469, 470, 471, 472, 473, 474, 475, 211, 212, 213, 214, 215, 216, 217, 218, 219, 220, 221, 222, 223, 224, 225, 226, 243, 244, 245, 246, 247, 248, 249, 250, 251, 252, 253, 254, 255, 256, 257, 258, 259, 260, 227, 228, 229, 230, 231, 232, 233, 234, 235, 236, 237, 238, 239, 240, 241, 242] : List Nat).filterMap (fun i => (flatC (Jvm.Cond.and given_1 narrow_1))[i]?) := by decide +kernel
theorem z_in {q : String × Nat × String} (hq : q ∈ zs) {c : Cond} (hc : c ∈ z_cs q) : c ∈ flatC (Jvm.Cond.and given_1 narrow_1) := by
  have h : c ∈ zs.flatMap z_cs := List.mem_flatMap.mpr ⟨q, hq, hc⟩
  rw [z_all] at h
  obtain ⟨i, -, hi⟩ := List.mem_filterMap.mp h
  exact List.mem_of_getElem? hi
set_option maxRecDepth 100000 in
theorem z_refs : zs.map (fun q => Cond.stringRef q.1 q.2.1 q.2.2) = ([692, 754, 783, 788, 767, 772, 773, 778, 815, 816, 810, 826, 831, 836, 837, 842, 625, 916, 962, 992, 1024, 1025, 1049, 1078, 1091, 1116, 934, 953, 938] : List Nat).filterMap (fun i => lw_tbl[i]?) := by decide +kernel
theorem z_ref {q : String × Nat × String} (hq : q ∈ zs) : Cond.stringRef q.1 q.2.1 q.2.2 ∈ lw_tbl := by
  have h : Cond.stringRef q.1 q.2.1 q.2.2 ∈ zs.map (fun q => Cond.stringRef q.1 q.2.1 q.2.2) := List.mem_map_of_mem hq
  rw [z_refs] at h
  obtain ⟨i, -, hi⟩ := List.mem_filterMap.mp h
  exact List.mem_of_getElem? hi
theorem e_us : Cond.isRef (.static "java/lang/Throwable" "UNASSIGNED_STACK" "[Ljava/lang/StackTraceElement;") ∈ flatC (Jvm.Cond.and given_1 narrow_1) := List.mem_of_getElem? (i := 4) (by decide +kernel)
theorem e_ss : Cond.isRef (.static "java/lang/Throwable" "SUPPRESSED_SENTINEL" "Ljava/util/List;") ∈ flatC (Jvm.Cond.and given_1 narrow_1) := List.mem_of_getElem? (i := 5) (by decide +kernel)
theorem e_cs : Cond.eq (.static "java/lang/String" "COMPACT_STRINGS" "Z") (.int 1) ∈ flatC (Jvm.Cond.and given_1 narrow_1) := List.mem_of_getElem? (i := 6) (by decide +kernel)
theorem e_sf : Cond.isRef (.static "jdk/internal/util/Preconditions" "SIOOBE_FORMATTER" "Ljava/util/function/BiFunction;") ∈ flatC (Jvm.Cond.and given_1 narrow_1) := List.mem_of_getElem? (i := 7) (by decide +kernel)
theorem e_nc : Cond.not (.castable (a_en 1) (a_en 0)) ∈ flatC (Jvm.Cond.and given_1 narrow_1) := List.mem_of_getElem? (i := 32) (by decide +kernel)
set_option maxRecDepth 20000 in
theorem l_us : Cond.laysStatic "java/lang/Throwable" "UNASSIGNED_STACK" "[Ljava/lang/StackTraceElement;" ∈ lw_tbl := List.mem_of_getElem? (i := 612) rfl
set_option maxRecDepth 20000 in
theorem l_ss : Cond.laysStatic "java/lang/Throwable" "SUPPRESSED_SENTINEL" "Ljava/util/List;" ∈ lw_tbl := List.mem_of_getElem? (i := 614) rfl
set_option maxRecDepth 20000 in
theorem l_cs : Cond.laysStatic "java/lang/String" "COMPACT_STRINGS" "Z" ∈ lw_tbl := List.mem_of_getElem? (i := 706) rfl
set_option maxRecDepth 20000 in
theorem l_sf : Cond.laysStatic "jdk/internal/util/Preconditions" "SIOOBE_FORMATTER" "Ljava/util/function/BiFunction;" ∈ lw_tbl := List.mem_of_getElem? (i := 722) rfl
set_option maxRecDepth 20000 in
theorem l_iT : Cond.initialized "java/lang/Throwable" ∈ lw_tbl := List.mem_of_getElem? (i := 106) rfl
set_option maxRecDepth 20000 in
theorem l_iS : Cond.initialized "java/lang/String" ∈ lw_tbl := List.mem_of_getElem? (i := 112) rfl
set_option maxRecDepth 20000 in
theorem l_iP : Cond.initialized "jdk/internal/util/Preconditions" ∈ lw_tbl := List.mem_of_getElem? (i := 114) rfl
set_option maxRecDepth 20000 in
theorem l_aI : Cond.arrayClass .int ∈ lw_tbl := List.mem_of_getElem? (i := 185) rfl
set_option maxRecDepth 20000 in
theorem l_aB : Cond.arrayClass .byte ∈ lw_tbl := List.mem_of_getElem? (i := 159) rfl
set_option maxRecDepth 20000 in
theorem l_aZ : Cond.arrayClass .boolean ∈ lw_tbl := List.mem_of_getElem? (i := 1314) rfl
set_option maxRecDepth 20000 in
theorem l_aJ : Cond.arrayClass .long ∈ lw_tbl := List.mem_of_getElem? (i := 1632) rfl
set_option maxRecDepth 20000 in
theorem l_iX0 : Cond.instantiable RX0 5 ∈ lw_tbl := List.mem_of_getElem? (i := 340) rfl
set_option maxRecDepth 20000 in
theorem l_iX1 : Cond.instantiable RX1 4 ∈ lw_tbl := List.mem_of_getElem? (i := 167) rfl
set_option maxRecDepth 20000 in
theorem l_iX2 : Cond.instantiable RX2 5 ∈ lw_tbl := List.mem_of_getElem? (i := 318) rfl
set_option maxRecDepth 20000 in
theorem l_iX3 : Cond.instantiable RX3 4 ∈ lw_tbl := List.mem_of_getElem? (i := 233) rfl
set_option maxRecDepth 20000 in
theorem l_iX4 : Cond.instantiable RX4 5 ∈ lw_tbl := List.mem_of_getElem? (i := 253) rfl
set_option maxRecDepth 20000 in
theorem l_iX5 : Cond.instantiable RX5 7 ∈ lw_tbl := List.mem_of_getElem? (i := 128) rfl
set_option maxRecDepth 20000 in
theorem l_iX6 : Cond.instantiable RX6 9 ∈ lw_tbl := List.mem_of_getElem? (i := 161) rfl
set_option maxRecDepth 20000 in
theorem l_iX7 : Cond.instantiable RX7 9 ∈ lw_tbl := List.mem_of_getElem? (i := 282) rfl
set_option maxRecDepth 20000 in
theorem l_iX8 : Cond.instantiable RX8 15 ∈ lw_tbl := List.mem_of_getElem? (i := 120) rfl
set_option maxRecDepth 20000 in
theorem l_iX9 : Cond.instantiable RX9 62 ∈ lw_tbl := List.mem_of_getElem? (i := 1122) rfl
theorem e_arr {s : State} {args : Array Value} {ty : FieldType} (h : (Cond.arrayClass ty).before args s = true) (hty : ∀ cA, s.vm.findClass ("[" ++ ty.toString) = some cA → va_RA s cA ty) : ∃ cA : ClassId, ArrOfT s cA ty ∧ va_RA s cA ty := by
  obtain ⟨cA, kA, comp, h1, h2, h3⟩ := Cond.arrayClass_spec h
  exact ⟨cA, fun n z => ⟨fun k h => (by cases h), kA, h2, comp, h3⟩, hty cA h1⟩
/-- the classes and the array classes are known -/
theorem e_known {s : State} {args : Array Value} (hts : ∀ w ∈ lw_tbl, w.before args s = true) : ∃ (D : va_G) (ca : Nat → ClassId), va_K D vwCl (a_tys ca) s := by
  obtain ⟨c0, i0, k0⟩ := u_known (C := RX0) (T := TX0) (N := 5) (n := 5) hts (fun w hw => (List.mem_filter.mp (clwX0 w hw)).1) (hts _ l_iX0)
  obtain ⟨c1, i1, k1⟩ := u_known (C := RX1) (T := TX1) (N := 4) (n := 4) hts (fun w hw => (List.mem_filter.mp (clwX1 w hw)).1) (hts _ l_iX1)
  obtain ⟨c2, i2, k2⟩ := u_known (C := RX2) (T := TX2) (N := 5) (n := 5) hts (fun w hw => (List.mem_filter.mp (clwX2 w hw)).1) (hts _ l_iX2)
  obtain ⟨c3, i3, k3⟩ := u_known (C := RX3) (T := TX3) (N := 4) (n := 4) hts (fun w hw => (List.mem_filter.mp (clwX3 w hw)).1) (hts _ l_iX3)
  obtain ⟨c4, i4, k4⟩ := u_known (C := RX4) (T := TX4) (N := 5) (n := 5) hts (fun w hw => (List.mem_filter.mp (clwX4 w hw)).1) (hts _ l_iX4)
  obtain ⟨c5, i5, k5⟩ := u_known (C := RX5) (T := TX5) (N := 7) (n := 7) hts (fun w hw => (List.mem_filter.mp (clwX5 w hw)).1) (hts _ l_iX5)
  obtain ⟨c6, i6, k6⟩ := u_known (C := RX6) (T := TX6) (N := 9) (n := 9) hts (fun w hw => (List.mem_filter.mp (clwX6 w hw)).1) (hts _ l_iX6)
  obtain ⟨c7, i7, k7⟩ := u_known (C := RX7) (T := TX7) (N := 9) (n := 9) hts (fun w hw => (List.mem_filter.mp (clwX7 w hw)).1) (hts _ l_iX7)
  obtain ⟨c8, i8, k8⟩ := u_known (C := RX8) (T := TX8) (N := 15) (n := 15) hts (fun w hw => (List.mem_filter.mp (clwX8 w hw)).1) (hts _ l_iX8)
  obtain ⟨c9, i9, k9⟩ := u_known (C := RX9) (T := TX9) (N := 62) (n := 62) hts (fun w hw => (List.mem_filter.mp (clwX9 w hw)).1) (hts _ l_iX9)
  obtain ⟨a0, b0, d0⟩ := e_arr (hts _ l_aI) (fun _ h => h)
  obtain ⟨a1, b1, d1⟩ := e_arr (hts _ l_aB) (fun _ h => h)
  obtain ⟨a2, b2, d2⟩ := e_arr (hts _ l_aZ) (fun _ h => h)
  obtain ⟨a3, b3, d3⟩ := e_arr (hts _ l_aJ) (fun _ h => h)
  refine ⟨(fun k => ([c0, c1, c2, c3, c4, c5, c6, c7, c8, c9] : List ClassId).getD k c0, fun k => ([i0, i1, i2, i3, i4, i5, i6, i7, i8, i9] : List (Nat → Nat)).getD k i0), fun k => ([a0, a1, a2, a3] : List ClassId).getD k a0, fun k q hq => ?_, fun k q hq => ?_⟩
  · match k, hq with
    | 0, hq => cases hq; exact k0
    | 1, hq => cases hq; exact k1
    | 2, hq => cases hq; exact k2
    | 3, hq => cases hq; exact k3
    | 4, hq => cases hq; exact k4
    | 5, hq => cases hq; exact k5
    | 6, hq => cases hq; exact k6
    | 7, hq => cases hq; exact k7
    | 8, hq => cases hq; exact k8
    | 9, hq => cases hq; exact k9
    | k + 10, hq => simp [vwCl] at hq
  · match k, hq with
    | 0, hq => cases hq; exact ⟨b0, d0⟩
    | 1, hq => cases hq; exact ⟨b1, d1⟩
    | 2, hq => cases hq; exact ⟨b2, d2⟩
    | 3, hq => cases hq; exact ⟨b3, d3⟩
    | k + 4, hq => simp at hq
/-- the String constants -/
theorem e_str {s : State} {args : Array Value} (hgv : (Jvm.Cond.and given_1 narrow_1).before args s = true) : ∃ adK adV : Nat → Nat, ∀ (i : Nat) (q : String × Nat × String), zs[i]? = some q → (z_t q).eval args s none [] s = some (.ref (adK i)) ∧ va_O "java/lang/String" (adK i) (fun a => s.heap.size ≤ a) s s.heap ∧ va_OF "java/lang/String" "coder" "B" (.int 0) (adK i) (fun a => s.heap.size ≤ a) s s.heap ∧ va_OF "java/lang/String" "value" "[B" (.ref (adV i)) (adK i) (fun a => s.heap.size ≤ a) s s.heap ∧ va_T .byte (adV i) q.2.2.length (fun j => .int (Int32.ofNat ((q.2.2.toList.map Char.toNat).getD j 0))) (fun a => s.heap.size ≤ a) s s.heap := by
  have hs := flat_of_before _ hgv
  have hA : ∀ a : Nat, a < s.heap.size → ¬ (fun a => s.heap.size ≤ a) a := fun a h => Nat.not_le.mpr h
  have h0 : ∀ i : Nat, ∃ z : Nat × Nat, ∀ q, zs[i]? = some q → (z_t q).eval args s none [] s = some (.ref z.1) ∧ va_O "java/lang/String" z.1 (fun a => s.heap.size ≤ a) s s.heap ∧ va_OF "java/lang/String" "coder" "B" (.int 0) z.1 (fun a => s.heap.size ≤ a) s s.heap ∧ va_OF "java/lang/String" "value" "[B" (.ref z.2) z.1 (fun a => s.heap.size ≤ a) s s.heap ∧ va_T .byte z.2 q.2.2.length (fun j => .int (Int32.ofNat ((q.2.2.toList.map Char.toNat).getD j 0))) (fun a => s.heap.size ≤ a) s s.heap := by
    intro i
    cases hq : zs[i]? with
    | none => exact ⟨(0, 0), fun q h => nomatch h⟩
    | some q =>
      have hm := List.mem_of_getElem? hq
      have hc : ∀ c ∈ z_cs q, c.before args s = true := fun c h => hs c (z_in hm h)
      have hlen : q.2.2.length < 2 ^ 31 := Nat.lt_trans (Nat.blt_eq.mp (List.all_eq_true.mp z_short q hm)) (by decide)
      have g1 : (Cond.exactly (z_t q) "java/lang/String").before args s = true := hc _ (by simp [z_cs])
      have g2 : (Cond.eq (.field (z_t q) "java/lang/String" "coder" "B") (.int 0)).before args s = true := hc _ (by simp [z_cs])
      have g3 : (Cond.arrayOf (z_f q) .byte).before args s = true := hc _ (by simp [z_cs])
      have g4 : (Cond.eq (.length (z_f q)) (.int (Int32.ofNat q.2.2.length))).before args s = true := hc _ (by simp [z_cs])
      have g5 : ∀ j : Nat, j < q.2.2.length → (z_e q j).before args s = true := fun j hj => hc _ (List.mem_append_right _ (List.mem_map_of_mem (List.mem_range.mpr hj)))
      obtain ⟨a, c, cA, kA, q1, q2, q3, q4, q5, q6, -⟩ := Cond.exactly_spec (args := args) (first := s) (o := none) (s := s) (idx := []) (t := z_t q) (cls := "java/lang/String") g1
      obtain ⟨t, ht, hT⟩ := va_Tof (f := fun j => .int (Int32.ofNat ((q.2.2.toList.map Char.toNat).getD j 0))) (A := fun a => s.heap.size ≤ a) hlen g3 (va_eqt g4) (fun j hj => va_eqt (g5 j hj)) hA
      refine ⟨(a, t), fun q9 h9 => ?_⟩
      cases h9
      exact ⟨q1, ⟨cA, q3, q5, by rw [q6]; exact q2, hA a (Array.getElem?_eq_some_iff.mp q3).1⟩, vk_OFof q1 (va_eqt g2) hA, vk_OFof q1 ht hA, hT⟩
  obtain ⟨ad, had⟩ := Classical.axiomOfChoice h0
  exact ⟨fun i => (ad i).1, fun i => (ad i).2, fun i q hq => had i q hq⟩
