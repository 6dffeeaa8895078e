/-! ===== programs and contracts, written by wip/whole/gen.py ===== -/
def eX8_forget : List (Nat × aEnt) := [(0, .aload_n 0, 0, 0, []),
  (1, .getfield 38, 0, 0, []),
  (4, .getfield 137, 0, 0, []),
  (7, .ifCond .ne 5, 0, 12, []),
  (10, .iconst (-1), (-1), 0, []),
  (11, .ireturn, 0, 0, []),
  (12, .aload_n 0, 0, 0, []),
  (13, .getfield 38, 0, 0, []),
  (16, .dup, 0, 0, []),
  (17, .getfield 137, 0, 0, []),
  (20, .iconst 1, 1, 0, []),
  (21, .isub, 0, 0, []),
  (22, .putfield 137, 0, 0, []),
  (25, .aload_n 0, 0, 0, []),
  (26, .getfield 38, 0, 0, []),
  (29, .getfield 137, 0, 0, []),
  (32, .ireturn, 0, 0, [])]
set_option maxRecDepth 20000 in
theorem ckX8_forget : eX8_forget.all (a_eok cX8_forget) = true := b_code [42,180,0,38,180,0,137,154,0,5,2,172,42,180,0,38,89,180,0,137,4,100,181,0,137,42,180,0,38,180,0,137,172] [] (by decide +kernel) (by decide +kernel) (by decide +kernel) (by decide +kernel)
noncomputable def pX8_forget : aPrg := (eX8_forget,
  fdX8, [], [], [], [], 0, [])
noncomputable def fX8_forget : aMF := a_fn none shp pX8_forget 1 1
set_option maxRecDepth 20000 in
theorem kX8_forget {l : Launch} {G : aG} (hZ : a_Z l G) : a_Con l G shp yX8_forget (.code yX8_forget cX8_forget 1 (some .int)) 1 16 fX8_forget :=
  a_mth none hZ.1 hZ.2.1 shp_len (fun _ h => nomatch h) hZ.2.2.1 (by decide +kernel) rfl (foX8 rfl) (a_cok_of trivial) ckX8_forget rfl rfl (trivial) (trivial)
def eX8_orders : List (Nat × aEnt) := [(0, .aload_n 0, 0, 0, []),
  (1, .getfield 66, 0, 0, []),
  (4, .invokevirtual 271, 0, 0, []),
  (7, .ireturn, 0, 0, [])]
set_option maxRecDepth 20000 in
theorem ckX8_orders : eX8_orders.all (a_eok cX8_orders) = true := b_code [42,180,0,66,182,1,15,172] [] (by decide +kernel) (by decide +kernel) (by decide +kernel) (by decide +kernel)
noncomputable def pX8_orders : aPrg := (eX8_orders,
  fdX8, [(271, fX0_ordersOfAll, 1, 0, 0)], [], [], [], 0, [])
noncomputable def fX8_orders : aMF := a_fn none shp pX8_orders 1 1
set_option maxRecDepth 20000 in
theorem wkX0_ordersOfAll : ∀ w ∈ [Cond.code yX0_ordersOfAll cX0_ordersOfAll 2 (some .int), .initialized yX0_ordersOfAll.cls, .instanceMethod yX0_ordersOfAll, .selects yX0_ordersOfAll.cls yX0_ordersOfAll yX0_ordersOfAll], w ∈ lw_g := a_ps [527, 104, 525, 526] rfl rfl
theorem hdX0_ordersOfAll : yX0_ordersOfAll.cls ≠ "java/lang/invoke/MethodHandle" ∧ yX0_ordersOfAll.cls ≠ "java/lang/invoke/VarHandle" ∧ (parseMethodDescriptor yX0_ordersOfAll.desc).map (fun d => d.parameters.length) = some 0 := by decide +kernel
set_option maxRecDepth 20000 in
theorem lkX8_271 : Cond.methodLink RX8 271 yX0_ordersOfAll ∈ lw_g := a_p1 524 rfl rfl
set_option maxRecDepth 20000 in
theorem kX8_orders {l : Launch} {G : aG} (hZ : a_Z l G) : a_Con l G shp yX8_orders (.code yX8_orders cX8_orders 1 (some .int)) 6 128 fX8_orders :=
  a_mth none hZ.1 hZ.2.1 shp_len (fun _ h => nomatch h) hZ.2.2.1 (by decide +kernel) rfl (foX8 rfl) (a_cok_of trivial) ckX8_orders rfl rfl (trivial) (⟨a_CQ_v hZ.2.1 (kX0_ordersOfAll hZ) lkX8_271 (a_CF_v TX0 5 wkX0_ordersOfAll lkX8_271 hdX0_ordersOfAll ⟨by decide, by decide⟩ rfl) rfl rfl,
    trivial⟩)
def eX8_there : List (Nat × aEnt) := [(0, .aload_n 0, 0, 0, []),
  (1, .iload_n 1, 0, 0, []),
  (2, .invokevirtual 151, 0, 0, []),
  (5, .iload_n 2, 0, 0, []),
  (6, .ifCond .lt 14, 0, 20, []),
  (9, .iload_n 2, 0, 0, []),
  (10, .aload_n 0, 0, 0, []),
  (11, .getfield 38, 0, 0, []),
  (14, .getfield 137, 0, 0, []),
  (17, .if_icmp .le 14, 0, 31, []),
  (20, .new 85, 0, 0, []),
  (31, .aload_n 0, 0, 0, []),
  (32, .getfield 66, 0, 0, []),
  (35, .iload_n 1, 0, 0, []),
  (36, .iload_n 2, 0, 0, []),
  (37, .invokevirtual 277, 0, 0, []),
  (40, .ireturn, 0, 0, [])]
set_option maxRecDepth 20000 in
theorem ckX8_there : eX8_there.all (a_eok cX8_there) = true := b_code [42,27,182,0,151,28,155,0,14,28,42,180,0,38,180,0,137,164,0,14,187,0,85,89,19,1,19,183,0,89,191,42,180,0,66,27,28,182,1,21,172] [] (by decide +kernel) (by decide +kernel) (by decide +kernel) (by decide +kernel)
noncomputable def pX8_there : aPrg := (eX8_there,
  fdX8, [(151, fX8_needBook, 2, 8, 1), (277, fX0_ordersWith, 3, 0, 0)], [], [], [(20, 1)], 0, [(20, [0, 1, 2])])
noncomputable def fX8_there : aMF := a_fn none shp pX8_there 3 3
theorem tkX8_there_20 {l : Launch} {G : aG} (hZ : a_Z l G) : a_tok G RX8 cX8_there 7 132 20 1 :=
  a_tok_w (own := RX8) (cc := cX8_there) (ik := 85) (is := 275) (ic := 89) (ix := 7) (rx := prog_16_method_2_code) (sa := g_ad G 1024) (text := "there are not so many events") rxX1 (by decide) ⟨by decide +kernel, by decide +kernel⟩ ⟨by decide +kernel, by decide +kernel, by decide +kernel⟩ clX1 inX1 (z_24 hZ) atX1 rfl rfl
set_option maxRecDepth 20000 in
theorem wkX0_ordersWith : ∀ w ∈ [Cond.code yX0_ordersWith cX0_ordersWith 6 (some .int), .initialized yX0_ordersWith.cls, .instanceMethod yX0_ordersWith, .selects yX0_ordersWith.cls yX0_ordersWith yX0_ordersWith], w ∈ lw_g := a_ps [1095, 104, 1093, 1094] rfl rfl
theorem hdX0_ordersWith : yX0_ordersWith.cls ≠ "java/lang/invoke/MethodHandle" ∧ yX0_ordersWith.cls ≠ "java/lang/invoke/VarHandle" ∧ (parseMethodDescriptor yX0_ordersWith.desc).map (fun d => d.parameters.length) = some 2 := by decide +kernel
set_option maxRecDepth 20000 in
theorem lkX8_277 : Cond.methodLink RX8 277 yX0_ordersWith ∈ lw_g := a_p1 1092 rfl rfl
set_option maxRecDepth 20000 in
theorem kX8_there {l : Launch} {G : aG} (hZ : a_Z l G) : a_Con l G shp yX8_there (.code yX8_there cX8_there 3 (some .int)) 7 132 fX8_there :=
  a_mth none hZ.1 hZ.2.1 shp_len (fun _ h => nomatch h) hZ.2.2.1 (by decide +kernel) rfl (foX8 rfl) (a_cok_of trivial) ckX8_there rfl rfl (⟨tkX8_there_20 hZ, trivial⟩) (⟨a_CQ_v hZ.2.1 (kX8_needBook hZ) lkX8_151 (a_CF_v TX8 15 wkX8_needBook lkX8_151 hdX8_needBook ⟨by decide, by decide⟩ rfl) rfl rfl,
    ⟨a_CQ_v hZ.2.1 (kX0_ordersWith hZ) lkX8_277 (a_CF_v TX0 5 wkX0_ordersWith lkX8_277 hdX0_ordersWith ⟨by decide, by decide⟩ rfl) rfl rfl,
    trivial⟩⟩)
def eX8_knot : List (Nat × aEnt) := [(0, .aload_n 0, 0, 0, []),
  (1, .getfield 66, 0, 0, []),
  (4, .invokevirtual 280, 0, 0, []),
  (7, .ireturn, 0, 0, [])]
set_option maxRecDepth 20000 in
theorem ckX8_knot : eX8_knot.all (a_eok cX8_knot) = true := b_code [42,180,0,66,182,1,24,172] [] (by decide +kernel) (by decide +kernel) (by decide +kernel) (by decide +kernel)
noncomputable def pX8_knot : aPrg := (eX8_knot,
  fdX8, [(280, fX0_smallestKnot, 1, 0, 0)], [], [], [], 0, [])
noncomputable def fX8_knot : aMF := a_fn none shp pX8_knot 1 1
set_option maxRecDepth 20000 in
theorem wkX0_smallestKnot : ∀ w ∈ [Cond.code yX0_smallestKnot cX0_smallestKnot 5 (some .int), .initialized yX0_smallestKnot.cls, .instanceMethod yX0_smallestKnot, .selects yX0_smallestKnot.cls yX0_smallestKnot yX0_smallestKnot], w ∈ lw_g := a_ps [557, 104, 555, 556] rfl rfl
theorem hdX0_smallestKnot : yX0_smallestKnot.cls ≠ "java/lang/invoke/MethodHandle" ∧ yX0_smallestKnot.cls ≠ "java/lang/invoke/VarHandle" ∧ (parseMethodDescriptor yX0_smallestKnot.desc).map (fun d => d.parameters.length) = some 0 := by decide +kernel
set_option maxRecDepth 20000 in
theorem lkX8_280 : Cond.methodLink RX8 280 yX0_smallestKnot ∈ lw_g := a_p1 554 rfl rfl
set_option maxRecDepth 20000 in
theorem kX8_knot {l : Launch} {G : aG} (hZ : a_Z l G) : a_Con l G shp yX8_knot (.code yX8_knot cX8_knot 1 (some .int)) 6 131 fX8_knot :=
  a_mth none hZ.1 hZ.2.1 shp_len (fun _ h => nomatch h) hZ.2.2.1 (by decide +kernel) rfl (foX8 rfl) (a_cok_of trivial) ckX8_knot rfl rfl (trivial) (⟨a_CQ_v hZ.2.1 (kX0_smallestKnot hZ) lkX8_280 (a_CF_v TX0 5 wkX0_smallestKnot lkX8_280 hdX0_smallestKnot ⟨by decide, by decide⟩ rfl) rfl rfl,
    trivial⟩)
def eX8_hands : List (Nat × aEnt) := [(0, .aload_n 0, 0, 0, []),
  (1, .iload_n 1, 0, 0, []),
  (2, .invokevirtual 151, 0, 0, []),
  (5, .iload_n 2, 0, 0, []),
  (6, .iconst (-1), (-1), 0, []),
  (7, .if_icmp .ne 14, 0, 21, []),
  (10, .iconst 1, 1, 0, []),
  (11, .aload_n 0, 0, 0, []),
  (12, .getfield 38, 0, 0, []),
  (15, .iload_n 1, 0, 0, []),
  (16, .invokevirtual 283, 0, 0, []),
  (19, .iadd, 0, 0, []),
  (20, .ireturn, 0, 0, []),
  (21, .iload_n 2, 0, 0, []),
  (22, .ifCond .lt 15, 0, 37, []),
  (25, .iload_n 2, 0, 0, []),
  (26, .aload_n 0, 0, 0, []),
  (27, .getfield 38, 0, 0, []),
  (30, .iload_n 1, 0, 0, []),
  (31, .invokevirtual 283, 0, 0, []),
  (34, .if_icmp .le 14, 0, 48, []),
  (37, .new 146, 0, 0, []),
  (48, .iload_n 2, 0, 0, []),
  (49, .ifCond .ne 17, 0, 66, []),
  (52, .aload_n 0, 0, 0, []),
  (53, .getfield 23, 0, 0, []),
  (56, .getfield 108, 0, 0, []),
  (59, .iload_n 1, 0, 0, []),
  (60, .invokestatic 164, 0, 0, []),
  (63, .goto 12, 0, 75, []),
  (66, .aload_n 0, 0, 0, []),
  (67, .getfield 38, 0, 0, []),
  (70, .iload_n 1, 0, 0, []),
  (71, .iload_n 2, 0, 0, []),
  (72, .invokevirtual 288, 0, 0, []),
  (75, .ireturn, 0, 0, [])]
set_option maxRecDepth 20000 in
theorem ckX8_hands : eX8_hands.all (a_eok cX8_hands) = true := b_code [42,27,182,0,151,28,2,160,0,14,4,42,180,0,38,27,182,1,27,96,172,28,155,0,15,28,42,180,0,38,27,182,1,27,164,0,14,187,0,146,89,19,1,30,183,0,150,191,28,154,0,17,42,180,0,23,180,0,108,27,184,0,164,167,0,12,42,180,0,38,27,28,182,1,32,172] [] (by decide +kernel) (by decide +kernel) (by decide +kernel) (by decide +kernel)
noncomputable def pX8_hands : aPrg := (eX8_hands,
  fdX8, [(151, fX8_needBook, 2, 8, 1), (283, fX4_changesOf, 2, 4, 0), (164, fX8_placeOf, 2, 2000, 0), (288, fX4_placeAfterChange, 3, 4, 0)], [], [], [(37, 0)], 0, [(37, [0, 1, 2]), (75, [0, 1, 2])])
noncomputable def fX8_hands : aMF := a_fn none shp pX8_hands 3 3
theorem tkX8_hands_37 {l : Launch} {G : aG} (hZ : a_Z l G) : a_tok G RX8 cX8_hands 7 111 37 0 :=
  a_tok_w (own := RX8) (cc := cX8_hands) (ik := 146) (is := 286) (ic := 150) (ix := 13) (rx := prog_28_method_4_code) (sa := g_ad G 1025) (text := "it went through fewer hands") rxX0 (by decide) ⟨by decide +kernel, by decide +kernel⟩ ⟨by decide +kernel, by decide +kernel, by decide +kernel⟩ clX0 inX0 (z_25 hZ) atX0 rfl rfl
set_option maxRecDepth 20000 in
theorem wkX4_changesOf : ∀ w ∈ [Cond.code yX4_changesOf cX4_changesOf 4 (some .int), .initialized yX4_changesOf.cls, .instanceMethod yX4_changesOf, .selects yX4_changesOf.cls yX4_changesOf yX4_changesOf], w ∈ lw_g := a_ps [1111, 101, 1109, 1110] rfl rfl
theorem hdX4_changesOf : yX4_changesOf.cls ≠ "java/lang/invoke/MethodHandle" ∧ yX4_changesOf.cls ≠ "java/lang/invoke/VarHandle" ∧ (parseMethodDescriptor yX4_changesOf.desc).map (fun d => d.parameters.length) = some 1 := by decide +kernel
set_option maxRecDepth 20000 in
theorem lkX8_283 : Cond.methodLink RX8 283 yX4_changesOf ∈ lw_g := a_p1 1108 rfl rfl
set_option maxRecDepth 20000 in
theorem wkX4_placeAfterChange : ∀ w ∈ [Cond.code yX4_placeAfterChange cX4_placeAfterChange 6 (some .int), .initialized yX4_placeAfterChange.cls, .instanceMethod yX4_placeAfterChange, .selects yX4_placeAfterChange.cls yX4_placeAfterChange yX4_placeAfterChange], w ∈ lw_g := a_ps [1120, 101, 1118, 1119] rfl rfl
theorem hdX4_placeAfterChange : yX4_placeAfterChange.cls ≠ "java/lang/invoke/MethodHandle" ∧ yX4_placeAfterChange.cls ≠ "java/lang/invoke/VarHandle" ∧ (parseMethodDescriptor yX4_placeAfterChange.desc).map (fun d => d.parameters.length) = some 2 := by decide +kernel
set_option maxRecDepth 20000 in
theorem lkX8_288 : Cond.methodLink RX8 288 yX4_placeAfterChange ∈ lw_g := a_p1 1117 rfl rfl
set_option maxRecDepth 20000 in
theorem kX8_hands {l : Launch} {G : aG} (hZ : a_Z l G) : a_Con l G shp yX8_hands (.code yX8_hands cX8_hands 3 (some .int)) 7 111 fX8_hands :=
  a_mth none hZ.1 hZ.2.1 shp_len (fun _ h => nomatch h) hZ.2.2.1 (by decide +kernel) rfl (foX8 rfl) (a_cok_of trivial) ckX8_hands rfl rfl (⟨tkX8_hands_37 hZ, trivial⟩) (⟨a_CQ_v hZ.2.1 (kX8_needBook hZ) lkX8_151 (a_CF_v TX8 15 wkX8_needBook lkX8_151 hdX8_needBook ⟨by decide, by decide⟩ rfl) rfl rfl,
    ⟨a_CQ_v hZ.2.1 (kX4_changesOf hZ) lkX8_283 (a_CF_v TX4 5 wkX4_changesOf lkX8_283 hdX4_changesOf ⟨by decide, by decide⟩ rfl) rfl rfl,
    ⟨a_CQ_s hZ.2.1 (kX8_placeOf hZ) lkX8_164 (a_CF_s wkX8_placeOf lkX8_164 hdX8_placeOf) rfl rfl,
    ⟨a_CQ_v hZ.2.1 (kX4_placeAfterChange hZ) lkX8_288 (a_CF_v TX4 5 wkX4_placeAfterChange lkX8_288 hdX4_placeAfterChange ⟨by decide, by decide⟩ rfl) rfl rfl,
    trivial⟩⟩⟩⟩)
def eX8_image : List (Nat × aEnt) := [(0, .aload_n 0, 0, 0, []),
  (1, .getfield 42, 0, 0, []),
  (4, .aload_n 0, 0, 0, []),
  (5, .getfield 38, 0, 0, []),
  (8, .invokevirtual 291, 0, 0, []),
  (11, .aload_n 0, 0, 0, []),
  (12, .iconst 1, 1, 0, []),
  (13, .putfield 118, 0, 0, []),
  (16, .return_, 0, 0, [])]
set_option maxRecDepth 20000 in
theorem ckX8_image : eX8_image.all (a_eok cX8_image) = true := b_code [42,180,0,42,42,180,0,38,182,1,35,42,4,181,0,118,177] [] (by decide +kernel) (by decide +kernel) (by decide +kernel) (by decide +kernel)
noncomputable def pX8_image : aPrg := (eX8_image,
  fdX8, [(291, fX4_take, 2, 4, 1)], [], [], [], 2, [])
noncomputable def fX8_image : aMF := a_fn none shp pX8_image 1 1
set_option maxRecDepth 20000 in
theorem wkX4_take : ∀ w ∈ [Cond.code yX4_take cX4_take 2 none, .initialized yX4_take.cls, .instanceMethod yX4_take, .selects yX4_take.cls yX4_take yX4_take], w ∈ lw_g := a_ps [571, 101, 569, 570] rfl rfl
theorem hdX4_take : yX4_take.cls ≠ "java/lang/invoke/MethodHandle" ∧ yX4_take.cls ≠ "java/lang/invoke/VarHandle" ∧ (parseMethodDescriptor yX4_take.desc).map (fun d => d.parameters.length) = some 1 := by decide +kernel
set_option maxRecDepth 20000 in
theorem lkX8_291 : Cond.methodLink RX8 291 yX4_take ∈ lw_g := a_p1 568 rfl rfl
set_option maxRecDepth 20000 in
theorem kX8_image {l : Launch} {G : aG} (hZ : a_Z l G) : a_Con l G shp yX8_image (.code yX8_image cX8_image 1 none) 3 81 fX8_image :=
  a_mth none hZ.1 hZ.2.1 shp_len (fun _ h => nomatch h) hZ.2.2.1 (by decide +kernel) rfl (foX8 rfl) (a_cok_of trivial) ckX8_image rfl rfl (trivial) (⟨a_CQ_v hZ.2.1 (kX4_take hZ) lkX8_291 (a_CF_v TX4 5 wkX4_take lkX8_291 hdX4_take ⟨by decide, by decide⟩ rfl) rfl rfl,
    trivial⟩)
def eX8_restore : List (Nat × aEnt) := [(0, .aload_n 0, 0, 0, []),
  (1, .getfield 118, 0, 0, []),
  (4, .ifCond .eq 14, 0, 18, []),
  (7, .aload_n 0, 0, 0, []),
  (8, .getfield 38, 0, 0, []),
  (11, .aload_n 0, 0, 0, []),
  (12, .getfield 42, 0, 0, []),
  (15, .invokevirtual 291, 0, 0, []),
  (18, .aload_n 0, 0, 0, []),
  (19, .getfield 118, 0, 0, []),
  (22, .ireturn, 0, 0, [])]
set_option maxRecDepth 20000 in
theorem ckX8_restore : eX8_restore.all (a_eok cX8_restore) = true := b_code [42,180,0,118,153,0,14,42,180,0,38,42,180,0,42,182,1,35,42,180,0,118,172] [] (by decide +kernel) (by decide +kernel) (by decide +kernel) (by decide +kernel)
noncomputable def pX8_restore : aPrg := (eX8_restore,
  fdX8, [(291, fX4_take, 2, 4, 1)], [], [], [], 1, [])
noncomputable def fX8_restore : aMF := a_fn none shp pX8_restore 1 1
set_option maxRecDepth 20000 in
theorem kX8_restore {l : Launch} {G : aG} (hZ : a_Z l G) : a_Con l G shp yX8_restore (.code yX8_restore cX8_restore 1 (some .boolean)) 3 81 fX8_restore :=
  a_mth none hZ.1 hZ.2.1 shp_len (fun _ h => nomatch h) hZ.2.2.1 (by decide +kernel) rfl (foX8 rfl) (a_cok_of trivial) ckX8_restore rfl rfl (trivial) (⟨a_CQ_v hZ.2.1 (kX4_take hZ) lkX8_291 (a_CF_v TX4 5 wkX4_take lkX8_291 hdX4_take ⟨by decide, by decide⟩ rfl) rfl rfl,
    trivial⟩)
def eX9_thrown : List (Nat × aEnt) := [(0, .aload_n 0, 0, 0, []),
  (1, .getfield 105, 0, 0, []),
  (4, .ireturn, 0, 0, [])]
set_option maxRecDepth 20000 in
theorem ckX9_thrown : eX9_thrown.all (a_eok cX9_thrown) = true := b_code [42,180,0,105,172] [] (by decide +kernel) (by decide +kernel) (by decide +kernel) (by decide +kernel)
noncomputable def pX9_thrown : aPrg := (eX9_thrown,
  fdX9, [], [], [], [], 0, [])
noncomputable def fX9_thrown : aMF := a_fn none shp pX9_thrown 1 1
set_option maxRecDepth 20000 in
theorem kX9_thrown {l : Launch} {G : aG} (hZ : a_Z l G) : a_Con l G shp yX9_thrown (.code yX9_thrown cX9_thrown 1 (some .int)) 1 16 fX9_thrown :=
  a_mth none hZ.1 hZ.2.1 shp_len (fun _ h => nomatch h) hZ.2.2.1 (by decide +kernel) rfl (foX9 rfl) (a_cok_of trivial) ckX9_thrown rfl rfl (trivial) (trivial)
def eX9_right : List (Nat × aEnt) := [(0, .aload_n 0, 0, 0, []),
  (1, .getfield 105, 0, 0, []),
  (4, .ifCond .ne 12, 0, 16, []),
  (7, .iload_n 1, 0, 0, []),
  (8, .ifCond .ne 8, 0, 16, []),
  (11, .aload_n 0, 0, 0, []),
  (12, .iload_n 2, 0, 0, []),
  (13, .putfield 105, 0, 0, []),
  (16, .aload_n 0, 0, 0, []),
  (17, .getfield 105, 0, 0, []),
  (20, .ifCond .ne 7, 0, 27, []),
  (23, .iconst 1, 1, 0, []),
  (24, .goto 4, 0, 28, []),
  (27, .iconst 0, 0, 0, []),
  (28, .ireturn, 0, 0, [])]
set_option maxRecDepth 20000 in
theorem ckX9_right : eX9_right.all (a_eok cX9_right) = true := b_code [42,180,0,105,154,0,12,27,154,0,8,42,28,181,0,105,42,180,0,105,154,0,7,4,167,0,4,3,172] [] (by decide +kernel) (by decide +kernel) (by decide +kernel) (by decide +kernel)
noncomputable def pX9_right : aPrg := (eX9_right,
  fdX9, [], [], [], [], 1, [(16, [1, 2]), (28, [0, 1, 2])])
noncomputable def fX9_right : aMF := a_fn none shp pX9_right 3 3
set_option maxRecDepth 20000 in
theorem kX9_right {l : Launch} {G : aG} (hZ : a_Z l G) : a_Con l G shp yX9_right (.code yX9_right cX9_right 3 (some .boolean)) 1 16 fX9_right :=
  a_mth none hZ.1 hZ.2.1 shp_len (fun _ h => nomatch h) hZ.2.2.1 (by decide +kernel) rfl (foX9 rfl) (a_cok_of trivial) ckX9_right rfl rfl (trivial) (trivial)
def eX9_within : List (Nat × aEnt) := [(0, .iload_n 0, 0, 0, []),
  (1, .iload_n 1, 0, 0, []),
  (2, .if_icmp .lt 12, 0, 14, []),
  (5, .iload_n 0, 0, 0, []),
  (6, .iload_n 2, 0, 0, []),
  (7, .if_icmp .gt 7, 0, 14, []),
  (10, .iconst 1, 1, 0, []),
  (11, .goto 4, 0, 15, []),
  (14, .iconst 0, 0, 0, []),
  (15, .ireturn, 0, 0, [])]
set_option maxRecDepth 20000 in
theorem ckX9_within : eX9_within.all (a_eok cX9_within) = true := b_code [26,27,161,0,12,26,28,163,0,7,4,167,0,4,3,172] [] (by decide +kernel) (by decide +kernel) (by decide +kernel) (by decide +kernel)
noncomputable def pX9_within : aPrg := (eX9_within,
  fdX9, [], [], [], [], 1, [(14, [0, 1, 2]), (15, [0, 1, 2])])
noncomputable def fX9_within : aMF := a_fn none shp pX9_within 3 3
set_option maxRecDepth 20000 in
theorem kX9_within {l : Launch} {G : aG} (hZ : a_Z l G) : a_Con l G shp yX9_within (.code yX9_within cX9_within 3 (some .boolean)) 1 16 fX9_within :=
  a_mth none hZ.1 hZ.2.1 shp_len (fun _ h => nomatch h) hZ.2.2.1 (by decide +kernel) rfl (foX9 rfl) (a_cok_of trivial) ckX9_within rfl rfl (trivial) (trivial)
def eX9_bits : List (Nat × aEnt) := [(0, .iconst 0, 0, 0, []),
  (1, .istore_n 1, 0, 0, []),
  (2, .iconst 0, 0, 0, []),
  (3, .istore_n 2, 0, 0, []),
  (4, .iload_n 2, 0, 0, []),
  (5, .bipush 12, 12, 0, []),
  (7, .if_icmp .ge 17, 0, 24, []),
  (10, .iload_n 1, 0, 0, []),
  (11, .iload_n 0, 0, 0, []),
  (12, .iload_n 2, 0, 0, []),
  (13, .ishr, 0, 0, []),
  (14, .iconst 1, 1, 0, []),
  (15, .iand, 0, 0, []),
  (16, .iadd, 0, 0, []),
  (17, .istore_n 1, 0, 0, []),
  (18, .iinc 2 1, 1, 0, []),
  (21, .goto (-17), 0, 4, []),
  (24, .iload_n 1, 0, 0, []),
  (25, .ireturn, 0, 0, [])]
set_option maxRecDepth 20000 in
theorem ckX9_bits : eX9_bits.all (a_eok cX9_bits) = true := b_code [3,60,3,61,28,16,12,162,0,17,27,26,28,122,4,126,96,60,132,2,1,167,255,239,27,172] [] (by decide +kernel) (by decide +kernel) (by decide +kernel) (by decide +kernel)
noncomputable def pX9_bits : aPrg := (eX9_bits,
  fdX9, [], [], [], [], 0, [])
noncomputable def fX9_bits : aMF := a_fn none shp pX9_bits 3 1
set_option maxRecDepth 20000 in
theorem kX9_bits {l : Launch} {G : aG} (hZ : a_Z l G) : a_Con l G shp yX9_bits (.code yX9_bits cX9_bits 3 (some .int)) 1 16 fX9_bits :=
  a_mth none hZ.1 hZ.2.1 shp_len (fun _ h => nomatch h) hZ.2.2.1 (by decide +kernel) rfl (foX9 rfl) (a_cok_of trivial) ckX9_bits rfl rfl (trivial) (trivial)
def eX9_copies : List (Nat × aEnt) := [(0, .iconst 0, 0, 0, []),
  (1, .istore_n 3, 0, 0, []),
  (2, .iload_n 3, 0, 0, []),
  (3, .aload_n 1, 0, 0, []),
  (4, .arraylength, 0, 0, []),
  (5, .if_icmp .ge 15, 0, 20, []),
  (8, .aload_n 2, 0, 0, []),
  (9, .iload_n 3, 0, 0, []),
  (10, .aload_n 1, 0, 0, []),
  (11, .iload_n 3, 0, 0, []),
  (12, .iaload, 0, 0, []),
  (13, .iastore, 0, 0, []),
  (14, .iinc 3 1, 1, 0, []),
  (17, .goto (-15), 0, 2, []),
  (20, .return_, 0, 0, [])]
set_option maxRecDepth 20000 in
theorem ckX9_copies : eX9_copies.all (a_eok cX9_copies) = true := b_code [3,62,29,43,190,162,0,15,44,29,43,29,46,79,132,3,1,167,255,241,177] [] (by decide +kernel) (by decide +kernel) (by decide +kernel) (by decide +kernel)
noncomputable def pX9_copies : aPrg := (eX9_copies,
  fdX9, [], [], [], [], 2, [(2, [0])])
noncomputable def fX9_copies : aMF := a_fn none shp pX9_copies 4 3
set_option maxRecDepth 20000 in
theorem kX9_copies {l : Launch} {G : aG} (hZ : a_Z l G) : a_Con l G shp yX9_copies (.code yX9_copies cX9_copies 4 none) 1 16 fX9_copies :=
  a_mth none hZ.1 hZ.2.1 shp_len (fun _ h => nomatch h) hZ.2.2.1 (by decide +kernel) rfl (foX9 rfl) (a_cok_of trivial) ckX9_copies rfl rfl (trivial) (trivial)
def eX9_lays : List (Nat × aEnt) := [(0, .bipush 24, 24, 0, []),
  (2, .istore_n 2, 0, 0, []),
  (3, .iload_n 2, 0, 0, []),
  (4, .ifCond .lt 35, 0, 39, []),
  (7, .aload_n 0, 0, 0, []),
  (8, .getfield 28, 0, 0, []),
  (11, .aload_n 0, 0, 0, []),
  (12, .getfield 108, 0, 0, []),
  (15, .iload_n 1, 0, 0, []),
  (16, .iload_n 2, 0, 0, []),
  (17, .ishr, 0, 0, []),
  (18, .sipush 255, 255, 0, []),
  (21, .iand, 0, 0, []),
  (22, .iastore, 0, 0, []),
  (23, .aload_n 0, 0, 0, []),
  (24, .dup, 0, 0, []),
  (25, .getfield 108, 0, 0, []),
  (28, .iconst 1, 1, 0, []),
  (29, .iadd, 0, 0, []),
  (30, .putfield 108, 0, 0, []),
  (33, .iinc 2 (-8), (-8), 0, []),
  (36, .goto (-33), 0, 3, []),
  (39, .return_, 0, 0, [])]
set_option maxRecDepth 20000 in
theorem ckX9_lays : eX9_lays.all (a_eok cX9_lays) = true := b_code [16,24,61,28,155,0,35,42,180,0,28,42,180,0,108,27,28,122,17,0,255,126,79,42,89,180,0,108,4,96,181,0,108,132,2,248,167,255,223,177] [] (by decide +kernel) (by decide +kernel) (by decide +kernel) (by decide +kernel)
noncomputable def pX9_lays : aPrg := (eX9_lays,
  fdX9, [], [], [], [], 2, [])
noncomputable def fX9_lays : aMF := a_fn none shp pX9_lays 3 2
set_option maxRecDepth 20000 in
theorem kX9_lays {l : Launch} {G : aG} (hZ : a_Z l G) : a_Con l G shp yX9_lays (.code yX9_lays cX9_lays 3 none) 1 16 fX9_lays :=
  a_mth none hZ.1 hZ.2.1 shp_len (fun _ h => nomatch h) hZ.2.2.1 (by decide +kernel) rfl (foX9 rfl) (a_cok_of trivial) ckX9_lays rfl rfl (trivial) (trivial)
def eX9_feed : List (Nat × aEnt) := [(0, .aload_n 0, 0, 0, []),
  (1, .iconst 0, 0, 0, []),
  (2, .putfield 105, 0, 0, []),
  (5, .aload_n 0, 0, 0, []),
  (6, .getfield 108, 0, 0, []),
  (9, .bipush 20, 20, 0, []),
  (11, .iadd, 0, 0, []),
  (12, .sipush 700, 700, 0, []),
  (15, .if_icmp .le 5, 0, 20, []),
  (18, .iconst (-1), (-1), 0, []),
  (19, .ireturn, 0, 0, []),
  (20, .aload_n 0, 0, 0, []),
  (21, .iload_n 1, 0, 0, []),
  (22, .invokevirtual 111, 0, 0, []),
  (25, .aload_n 0, 0, 0, []),
  (26, .iload_n 2, 0, 0, []),
  (27, .invokevirtual 111, 0, 0, []),
  (30, .aload_n 0, 0, 0, []),
  (31, .iload_n 3, 0, 0, []),
  (32, .invokevirtual 111, 0, 0, []),
  (35, .aload_n 0, 0, 0, []),
  (36, .iload 4, 0, 0, []),
  (38, .invokevirtual 111, 0, 0, []),
  (41, .aload_n 0, 0, 0, []),
  (42, .iload 5, 0, 0, []),
  (44, .invokevirtual 111, 0, 0, []),
  (47, .aload_n 0, 0, 0, []),
  (48, .getfield 108, 0, 0, []),
  (51, .ireturn, 0, 0, [])]
set_option maxRecDepth 20000 in
theorem ckX9_feed : eX9_feed.all (a_eok cX9_feed) = true := b_code [42,3,181,0,105,42,180,0,108,16,20,96,17,2,188,164,0,5,2,172,42,27,182,0,111,42,28,182,0,111,42,29,182,0,111,42,21,4,182,0,111,42,21,5,182,0,111,42,180,0,108,172] [] (by decide +kernel) (by decide +kernel) (by decide +kernel) (by decide +kernel)
noncomputable def pX9_feed : aPrg := (eX9_feed,
  fdX9, [(111, fX9_lays, 2, 9, 1)], [], [], [], 0, [])
noncomputable def fX9_feed : aMF := a_fn none shp pX9_feed 6 6
set_option maxRecDepth 20000 in
theorem wkX9_lays : ∀ w ∈ [Cond.code yX9_lays cX9_lays 3 none, .initialized yX9_lays.cls, .instanceMethod yX9_lays, .selects yX9_lays.cls yX9_lays yX9_lays], w ∈ lw_g := a_ps [1326, 105, 1325, 52] rfl rfl
theorem hdX9_lays : yX9_lays.cls ≠ "java/lang/invoke/MethodHandle" ∧ yX9_lays.cls ≠ "java/lang/invoke/VarHandle" ∧ (parseMethodDescriptor yX9_lays.desc).map (fun d => d.parameters.length) = some 1 := by decide +kernel
set_option maxRecDepth 20000 in
theorem lkX9_111 : Cond.methodLink RX9 111 yX9_lays ∈ lw_g := a_p1 1323 rfl rfl
set_option maxRecDepth 20000 in
theorem kX9_feed {l : Launch} {G : aG} (hZ : a_Z l G) : a_Con l G shp yX9_feed (.code yX9_feed cX9_feed 6 (some .int)) 2 38 fX9_feed :=
  a_mth none hZ.1 hZ.2.1 shp_len (fun _ h => nomatch h) hZ.2.2.1 (by decide +kernel) rfl (foX9 rfl) (a_cok_of trivial) ckX9_feed rfl rfl (trivial) (⟨a_CQ_v hZ.2.1 (kX9_lays hZ) lkX9_111 (a_CF_v TX9 62 wkX9_lays lkX9_111 hdX9_lays ⟨by decide, by decide⟩ rfl) rfl rfl,
    trivial⟩)
def eX9_byteAt : List (Nat × aEnt) := [(0, .iload_n 1, 0, 0, []),
  (1, .aload_n 0, 0, 0, []),
  (2, .getfield 115, 0, 0, []),
  (5, .if_icmp .ge 12, 0, 17, []),
  (8, .aload_n 0, 0, 0, []),
  (9, .getfield 28, 0, 0, []),
  (12, .iload_n 1, 0, 0, []),
  (13, .iaload, 0, 0, []),
  (14, .goto 4, 0, 18, []),
  (17, .iconst 0, 0, 0, []),
  (18, .ireturn, 0, 0, [])]
set_option maxRecDepth 20000 in
theorem ckX9_byteAt : eX9_byteAt.all (a_eok cX9_byteAt) = true := b_code [27,42,180,0,115,162,0,12,42,180,0,28,27,46,167,0,4,3,172] [] (by decide +kernel) (by decide +kernel) (by decide +kernel) (by decide +kernel)
noncomputable def pX9_byteAt : aPrg := (eX9_byteAt,
  fdX9, [], [], [], [], 0, [(18, [0, 1])])
noncomputable def fX9_byteAt : aMF := a_fn none shp pX9_byteAt 2 2
set_option maxRecDepth 20000 in
theorem kX9_byteAt {l : Launch} {G : aG} (hZ : a_Z l G) : a_Con l G shp yX9_byteAt (.code yX9_byteAt cX9_byteAt 2 (some .int)) 1 16 fX9_byteAt :=
  a_mth none hZ.1 hZ.2.1 shp_len (fun _ h => nomatch h) hZ.2.2.1 (by decide +kernel) rfl (foX9 rfl) (a_cok_of trivial) ckX9_byteAt rfl rfl (trivial) (trivial)
def eX9_isLetter : List (Nat × aEnt) := [(0, .iload_n 0, 0, 0, []),
  (1, .bipush 97, 97, 0, []),
  (3, .if_icmp .lt 13, 0, 16, []),
  (6, .iload_n 0, 0, 0, []),
  (7, .bipush 122, 122, 0, []),
  (9, .if_icmp .gt 7, 0, 16, []),
  (12, .iconst 1, 1, 0, []),
  (13, .goto 4, 0, 17, []),
  (16, .iconst 0, 0, 0, []),
  (17, .ireturn, 0, 0, [])]
set_option maxRecDepth 20000 in
theorem ckX9_isLetter : eX9_isLetter.all (a_eok cX9_isLetter) = true := b_code [26,16,97,161,0,13,26,16,122,163,0,7,4,167,0,4,3,172] [] (by decide +kernel) (by decide +kernel) (by decide +kernel) (by decide +kernel)
noncomputable def pX9_isLetter : aPrg := (eX9_isLetter,
  fdX9, [], [], [], [], 1, [(16, [0]), (17, [0])])
noncomputable def fX9_isLetter : aMF := a_fn none shp pX9_isLetter 1 1
set_option maxRecDepth 20000 in
theorem kX9_isLetter {l : Launch} {G : aG} (hZ : a_Z l G) : a_Con l G shp yX9_isLetter (.code yX9_isLetter cX9_isLetter 1 (some .boolean)) 1 16 fX9_isLetter :=
  a_mth none hZ.1 hZ.2.1 shp_len (fun _ h => nomatch h) hZ.2.2.1 (by decide +kernel) rfl (foX9 rfl) (a_cok_of trivial) ckX9_isLetter rfl rfl (trivial) (trivial)
def eX9_isDigit : List (Nat × aEnt) := [(0, .iload_n 0, 0, 0, []),
  (1, .bipush 48, 48, 0, []),
  (3, .if_icmp .lt 13, 0, 16, []),
  (6, .iload_n 0, 0, 0, []),
  (7, .bipush 57, 57, 0, []),
  (9, .if_icmp .gt 7, 0, 16, []),
  (12, .iconst 1, 1, 0, []),
  (13, .goto 4, 0, 17, []),
  (16, .iconst 0, 0, 0, []),
  (17, .ireturn, 0, 0, [])]
set_option maxRecDepth 20000 in
theorem ckX9_isDigit : eX9_isDigit.all (a_eok cX9_isDigit) = true := b_code [26,16,48,161,0,13,26,16,57,163,0,7,4,167,0,4,3,172] [] (by decide +kernel) (by decide +kernel) (by decide +kernel) (by decide +kernel)
noncomputable def pX9_isDigit : aPrg := (eX9_isDigit,
  fdX9, [], [], [], [], 1, [(16, [0]), (17, [0])])
noncomputable def fX9_isDigit : aMF := a_fn none shp pX9_isDigit 1 1
set_option maxRecDepth 20000 in
theorem kX9_isDigit {l : Launch} {G : aG} (hZ : a_Z l G) : a_Con l G shp yX9_isDigit (.code yX9_isDigit cX9_isDigit 1 (some .boolean)) 1 16 fX9_isDigit :=
  a_mth none hZ.1 hZ.2.1 shp_len (fun _ h => nomatch h) hZ.2.2.1 (by decide +kernel) rfl (foX9 rfl) (a_cok_of trivial) ckX9_isDigit rfl rfl (trivial) (trivial)
def eX9_goes : List (Nat × aEnt) := [(0, .aload_n 0, 0, 0, []),
  (1, .getfield 118, 0, 0, []),
  (4, .aload_n 0, 0, 0, []),
  (5, .getfield 115, 0, 0, []),
  (8, .if_icmp .ge 42, 0, 50, []),
  (11, .aload_n 0, 0, 0, []),
  (12, .aload_n 0, 0, 0, []),
  (13, .getfield 118, 0, 0, []),
  (16, .invokevirtual 121, 0, 0, []),
  (19, .bipush 32, 32, 0, []),
  (21, .if_icmp .eq 16, 0, 37, []),
  (24, .aload_n 0, 0, 0, []),
  (25, .aload_n 0, 0, 0, []),
  (26, .getfield 118, 0, 0, []),
  (29, .invokevirtual 121, 0, 0, []),
  (32, .bipush 10, 10, 0, []),
  (34, .if_icmp .ne 16, 0, 50, []),
  (37, .aload_n 0, 0, 0, []),
  (38, .dup, 0, 0, []),
  (39, .getfield 118, 0, 0, []),
  (42, .iconst 1, 1, 0, []),
  (43, .iadd, 0, 0, []),
  (44, .putfield 118, 0, 0, []),
  (47, .goto (-47), 0, 0, []),
  (50, .aload_n 0, 0, 0, []),
  (51, .aload_n 0, 0, 0, []),
  (52, .getfield 118, 0, 0, []),
  (55, .putfield 125, 0, 0, []),
  (58, .aload_n 0, 0, 0, []),
  (59, .lconst 0, 0, 0, []),
  (60, .putfield 128, 0, 0, []),
  (63, .aload_n 0, 0, 0, []),
  (64, .iconst 0, 0, 0, []),
  (65, .putfield 132, 0, 0, []),
  (68, .aload_n 0, 0, 0, []),
  (69, .aload_n 0, 0, 0, []),
  (70, .getfield 118, 0, 0, []),
  (73, .invokevirtual 121, 0, 0, []),
  (76, .istore_n 1, 0, 0, []),
  (77, .aload_n 0, 0, 0, []),
  (78, .iload_n 1, 0, 0, []),
  (79, .putfield 135, 0, 0, []),
  (82, .aload_n 0, 0, 0, []),
  (83, .getfield 118, 0, 0, []),
  (86, .aload_n 0, 0, 0, []),
  (87, .getfield 115, 0, 0, []),
  (90, .if_icmp .lt 11, 0, 101, []),
  (93, .aload_n 0, 0, 0, []),
  (94, .iconst 0, 0, 0, []),
  (95, .putfield 138, 0, 0, []),
  (98, .goto 233, 0, 331, []),
  (101, .iload_n 1, 0, 0, []),
  (102, .invokestatic 141, 0, 0, []),
  (105, .ifCond .eq 75, 0, 180, []),
  (108, .aload_n 0, 0, 0, []),
  (109, .aload_n 0, 0, 0, []),
  (110, .getfield 118, 0, 0, []),
  (113, .invokevirtual 121, 0, 0, []),
  (116, .invokestatic 141, 0, 0, []),
  (119, .ifCond .eq 53, 0, 172, []),
  (122, .aload_n 0, 0, 0, []),
  (123, .getfield 118, 0, 0, []),
  (126, .aload_n 0, 0, 0, []),
  (127, .getfield 125, 0, 0, []),
  (130, .isub, 0, 0, []),
  (131, .bipush 6, 6, 0, []),
  (133, .if_icmp .ge 26, 0, 159, []),
  (136, .aload_n 0, 0, 0, []),
  (137, .aload_n 0, 0, 0, []),
  (138, .getfield 128, 0, 0, []),
  (141, .iconst 5, 5, 0, []),
  (142, .lshl, 0, 0, []),
  (143, .aload_n 0, 0, 0, []),
  (144, .aload_n 0, 0, 0, []),
  (145, .getfield 118, 0, 0, []),
  (148, .invokevirtual 121, 0, 0, []),
  (151, .bipush 96, 96, 0, []),
  (153, .isub, 0, 0, []),
  (154, .i2l, 0, 0, []),
  (155, .lor, 0, 0, []),
  (156, .putfield 128, 0, 0, []),
  (159, .aload_n 0, 0, 0, []),
  (160, .dup, 0, 0, []),
  (161, .getfield 118, 0, 0, []),
  (164, .iconst 1, 1, 0, []),
  (165, .iadd, 0, 0, []),
  (166, .putfield 118, 0, 0, []),
  (169, .goto (-61), 0, 108, []),
  (172, .aload_n 0, 0, 0, []),
  (173, .iconst 1, 1, 0, []),
  (174, .putfield 138, 0, 0, []),
  (177, .goto 154, 0, 331, []),
  (180, .iload_n 1, 0, 0, []),
  (181, .invokestatic 145, 0, 0, []),
  (184, .ifCond .eq 74, 0, 258, []),
  (187, .aload_n 0, 0, 0, []),
  (188, .aload_n 0, 0, 0, []),
  (189, .getfield 118, 0, 0, []),
  (192, .invokevirtual 121, 0, 0, []),
  (195, .invokestatic 145, 0, 0, []),
  (198, .ifCond .eq 52, 0, 250, []),
  (201, .aload_n 0, 0, 0, []),
  (202, .getfield 118, 0, 0, []),
  (205, .aload_n 0, 0, 0, []),
  (206, .getfield 125, 0, 0, []),
  (209, .isub, 0, 0, []),
  (210, .iconst 4, 4, 0, []),
  (211, .if_icmp .ge 26, 0, 237, []),
  (214, .aload_n 0, 0, 0, []),
  (215, .bipush 10, 10, 0, []),
  (217, .aload_n 0, 0, 0, []),
  (218, .getfield 132, 0, 0, []),
  (221, .imul, 0, 0, []),
  (222, .aload_n 0, 0, 0, []),
  (223, .aload_n 0, 0, 0, []),
  (224, .getfield 118, 0, 0, []),
  (227, .invokevirtual 121, 0, 0, []),
  (230, .iadd, 0, 0, []),
  (231, .bipush 48, 48, 0, []),
  (233, .isub, 0, 0, []),
  (234, .putfield 132, 0, 0, []),
  (237, .aload_n 0, 0, 0, []),
  (238, .dup, 0, 0, []),
  (239, .getfield 118, 0, 0, []),
  (242, .iconst 1, 1, 0, []),
  (243, .iadd, 0, 0, []),
  (244, .putfield 118, 0, 0, []),
  (247, .goto (-60), 0, 187, []),
  (250, .aload_n 0, 0, 0, []),
  (251, .iconst 2, 2, 0, []),
  (252, .putfield 138, 0, 0, []),
  (255, .goto 76, 0, 331, []),
  (258, .aload_n 0, 0, 0, []),
  (259, .dup, 0, 0, []),
  (260, .getfield 118, 0, 0, []),
  (263, .iconst 1, 1, 0, []),
  (264, .iadd, 0, 0, []),
  (265, .putfield 118, 0, 0, []),
  (268, .aload_n 0, 0, 0, []),
  (269, .iload_n 1, 0, 0, []),
  (270, .bipush 59, 59, 0, []),
  (272, .if_icmp .eq 51, 0, 323, []),
  (275, .iload_n 1, 0, 0, []),
  (276, .bipush 40, 40, 0, []),
  (278, .if_icmp .eq 45, 0, 323, []),
  (281, .iload_n 1, 0, 0, []),
  (282, .bipush 41, 41, 0, []),
  (284, .if_icmp .eq 39, 0, 323, []),
  (287, .iload_n 1, 0, 0, []),
  (288, .bipush 43, 43, 0, []),
  (290, .if_icmp .eq 33, 0, 323, []),
  (293, .iload_n 1, 0, 0, []),
  (294, .bipush 45, 45, 0, []),
  (296, .if_icmp .eq 27, 0, 323, []),
  (299, .iload_n 1, 0, 0, []),
  (300, .bipush 42, 42, 0, []),
  (302, .if_icmp .eq 21, 0, 323, []),
  (305, .iload_n 1, 0, 0, []),
  (306, .bipush 47, 47, 0, []),
  (308, .if_icmp .eq 15, 0, 323, []),
  (311, .iload_n 1, 0, 0, []),
  (312, .bipush 60, 60, 0, []),
  (314, .if_icmp .eq 9, 0, 323, []),
  (317, .iload_n 1, 0, 0, []),
  (318, .bipush 61, 61, 0, []),
  (320, .if_icmp .ne 7, 0, 327, []),
  (323, .iconst 3, 3, 0, []),
  (324, .goto 4, 0, 328, []),
  (327, .iconst 4, 4, 0, []),
  (328, .putfield 138, 0, 0, []),
  (331, .aload_n 0, 0, 0, []),
  (332, .aload_n 0, 0, 0, []),
  (333, .getfield 118, 0, 0, []),
  (336, .aload_n 0, 0, 0, []),
  (337, .getfield 125, 0, 0, []),
  (340, .isub, 0, 0, []),
  (341, .putfield 148, 0, 0, []),
  (344, .return_, 0, 0, [])]
set_option maxRecDepth 20000 in
theorem ckX9_goes : eX9_goes.all (a_eok cX9_goes) = true := b_code [42,180,0,118,42,180,0,115,162,0,42,42,42,180,0,118,182,0,121,16,32,159,0,16,42,42,180,0,118,182,0,121,16,10,160,0,16,42,89,180,0,118,4,96,181,0,118,167,255,209,42,42,180,0,118,181,0,125,42,9,181,0,128,42,3,181,0,132,42,42,180,0,118,182,0,121,60,42,27,181,0,135,42,180,0,118,42,180,0,115,161,0,11,42,3,181,0,138,167,0,233,27,184,0,141,153,0,75,42,42,180,0,118,182,0,121,184,0,141,153,0,53,42,180,0,118,42,180,0,125,100,16,6,162,0,26,42,42,180,0,128,8,121,42,42,180,0,118,182,0,121,16,96,100,133,129,181,0,128,42,89,180,0,118,4,96,181,0,118,167,255,195,42,4,181,0,138,167,0,154,27,184,0,145,153,0,74,42,42,180,0,118,182,0,121,184,0,145,153,0,52,42,180,0,118,42,180,0,125,100,7,162,0,26,42,16,10,42,180,0,132,104,42,42,180,0,118,182,0,121,96,16,48,100,181,0,132,42,89,180,0,118,4,96,181,0,118,167,255,196,42,5,181,0,138,167,0,76,42,89,180,0,118,4,96,181,0,118,42,27,16,59,159,0,51,27,16,40,159,0,45,27,16,41,159,0,39,27,16,43,159,0,33,27,16,45,159,0,27,27,16,42,159,0,21,27,16,47,159,0,15,27,16,60,159,0,9,27,16,61,160,0,7,6,167,0,4,7,181,0,138,42,42,180,0,118,42,180,0,125,100,181,0,148,177] [] (by decide +kernel) (by decide +kernel) (by decide +kernel) (by decide +kernel)
noncomputable def pX9_goes : aPrg := (eX9_goes,
  fdX9, [(121, fX9_byteAt, 2, 9, 0), (141, fX9_isLetter, 1, 2000, 0), (145, fX9_isDigit, 1, 2000, 0)], [], [], [], 2, [(0, [1]), (37, [1]), (50, [1]), (108, [1]), (159, [1]), (187, [1]), (237, [1]), (323, [1]), (328, [1]), (331, [1])])
noncomputable def fX9_goes : aMF := a_fn none shp pX9_goes 2 1
set_option maxRecDepth 20000 in
theorem wkX9_byteAt : ∀ w ∈ [Cond.code yX9_byteAt cX9_byteAt 2 (some .int), .initialized yX9_byteAt.cls, .instanceMethod yX9_byteAt, .selects yX9_byteAt.cls yX9_byteAt yX9_byteAt], w ∈ lw_g := a_ps [1342, 105, 1341, 55] rfl rfl
theorem hdX9_byteAt : yX9_byteAt.cls ≠ "java/lang/invoke/MethodHandle" ∧ yX9_byteAt.cls ≠ "java/lang/invoke/VarHandle" ∧ (parseMethodDescriptor yX9_byteAt.desc).map (fun d => d.parameters.length) = some 1 := by decide +kernel
set_option maxRecDepth 20000 in
theorem lkX9_121 : Cond.methodLink RX9 121 yX9_byteAt ∈ lw_g := a_p1 1339 rfl rfl
set_option maxRecDepth 20000 in
theorem wkX9_isLetter : ∀ w ∈ [Cond.code yX9_isLetter cX9_isLetter 1 (some .boolean), .initialized yX9_isLetter.cls, .static yX9_isLetter], w ∈ lw_g := a_ps [1345, 105, 1344] rfl rfl
theorem hdX9_isLetter : yX9_isLetter.cls ≠ "java/lang/invoke/MethodHandle" ∧ yX9_isLetter.cls ≠ "java/lang/invoke/VarHandle" ∧ (parseMethodDescriptor yX9_isLetter.desc).map (fun d => d.parameters.length) = some 1 := by decide +kernel
set_option maxRecDepth 20000 in
theorem lkX9_141 : Cond.methodLink RX9 141 yX9_isLetter ∈ lw_g := a_p1 1343 rfl rfl
set_option maxRecDepth 20000 in
theorem wkX9_isDigit : ∀ w ∈ [Cond.code yX9_isDigit cX9_isDigit 1 (some .boolean), .initialized yX9_isDigit.cls, .static yX9_isDigit], w ∈ lw_g := a_ps [1348, 105, 1347] rfl rfl
theorem hdX9_isDigit : yX9_isDigit.cls ≠ "java/lang/invoke/MethodHandle" ∧ yX9_isDigit.cls ≠ "java/lang/invoke/VarHandle" ∧ (parseMethodDescriptor yX9_isDigit.desc).map (fun d => d.parameters.length) = some 1 := by decide +kernel
set_option maxRecDepth 20000 in
theorem lkX9_145 : Cond.methodLink RX9 145 yX9_isDigit ∈ lw_g := a_p1 1346 rfl rfl
set_option maxRecDepth 20000 in
theorem kX9_goes {l : Launch} {G : aG} (hZ : a_Z l G) : a_Con l G shp yX9_goes (.code yX9_goes cX9_goes 2 none) 2 37 fX9_goes :=
  a_mth none hZ.1 hZ.2.1 shp_len (fun _ h => nomatch h) hZ.2.2.1 (by decide +kernel) rfl (foX9 rfl) (a_cok_of trivial) ckX9_goes rfl rfl (trivial) (⟨a_CQ_v hZ.2.1 (kX9_byteAt hZ) lkX9_121 (a_CF_v TX9 62 wkX9_byteAt lkX9_121 hdX9_byteAt ⟨by decide, by decide⟩ rfl) rfl rfl,
    ⟨a_CQ_s hZ.2.1 (kX9_isLetter hZ) lkX9_141 (a_CF_s wkX9_isLetter lkX9_141 hdX9_isLetter) rfl rfl,
    ⟨a_CQ_s hZ.2.1 (kX9_isDigit hZ) lkX9_145 (a_CF_s wkX9_isDigit lkX9_145 hdX9_isDigit) rfl rfl,
    trivial⟩⟩⟩)
def eX9_spelled : List (Nat × aEnt) := [(0, .iload_n 0, 0, 0, []),
  (1, .i2l, 0, 0, []),
  (2, .ldc2_w 151, 0, 0, []),
  (5, .lsub, 0, 0, []),
  (6, .iconst 5, 5, 0, []),
  (7, .lshl, 0, 0, []),
  (8, .iload_n 1, 0, 0, []),
  (9, .bipush 96, 96, 0, []),
  (11, .isub, 0, 0, []),
  (12, .i2l, 0, 0, []),
  (13, .lor, 0, 0, []),
  (14, .lstore 6, 0, 0, []),
  (16, .iload_n 2, 0, 0, []),
  (17, .ifCond .eq 15, 0, 32, []),
  (20, .lload 6, 0, 0, []),
  (22, .iconst 5, 5, 0, []),
  (23, .lshl, 0, 0, []),
  (24, .iload_n 2, 0, 0, []),
  (25, .bipush 96, 96, 0, []),
  (27, .isub, 0, 0, []),
  (28, .i2l, 0, 0, []),
  (29, .lor, 0, 0, []),
  (30, .lstore 6, 0, 0, []),
  (32, .iload_n 3, 0, 0, []),
  (33, .ifCond .eq 15, 0, 48, []),
  (36, .lload 6, 0, 0, []),
  (38, .iconst 5, 5, 0, []),
  (39, .lshl, 0, 0, []),
  (40, .iload_n 3, 0, 0, []),
  (41, .bipush 96, 96, 0, []),
  (43, .isub, 0, 0, []),
  (44, .i2l, 0, 0, []),
  (45, .lor, 0, 0, []),
  (46, .lstore 6, 0, 0, []),
  (48, .iload 4, 0, 0, []),
  (50, .ifCond .eq 16, 0, 66, []),
  (53, .lload 6, 0, 0, []),
  (55, .iconst 5, 5, 0, []),
  (56, .lshl, 0, 0, []),
  (57, .iload 4, 0, 0, []),
  (59, .bipush 96, 96, 0, []),
  (61, .isub, 0, 0, []),
  (62, .i2l, 0, 0, []),
  (63, .lor, 0, 0, []),
  (64, .lstore 6, 0, 0, []),
  (66, .iload 5, 0, 0, []),
  (68, .ifCond .eq 16, 0, 84, []),
  (71, .lload 6, 0, 0, []),
  (73, .iconst 5, 5, 0, []),
  (74, .lshl, 0, 0, []),
  (75, .iload 5, 0, 0, []),
  (77, .bipush 96, 96, 0, []),
  (79, .isub, 0, 0, []),
  (80, .i2l, 0, 0, []),
  (81, .lor, 0, 0, []),
  (82, .lstore 6, 0, 0, []),
  (84, .lload 6, 0, 0, []),
  (86, .lreturn, 0, 0, [])]
set_option maxRecDepth 20000 in
theorem ckX9_spelled : eX9_spelled.all (a_eok cX9_spelled) = true := b_code [26,133,20,0,151,101,8,121,27,16,96,100,133,129,55,6,28,153,0,15,22,6,8,121,28,16,96,100,133,129,55,6,29,153,0,15,22,6,8,121,29,16,96,100,133,129,55,6,21,4,153,0,16,22,6,8,121,21,4,16,96,100,133,129,55,6,21,5,153,0,16,22,6,8,121,21,5,16,96,100,133,129,55,6,22,6,173] [] (by decide +kernel) (by decide +kernel) (by decide +kernel) (by decide +kernel)
noncomputable def pX9_spelled : aPrg := (eX9_spelled,
  fdX9, [], [(151, .long (96 : Int64))], [], [], 3, [(32, [0, 1, 2, 7]), (48, [0, 1, 2, 3, 7]), (66, [0, 1, 2, 3, 4, 7]), (84, [0, 1, 2, 3, 4, 5, 7])])
noncomputable def fX9_spelled : aMF := a_fn none shp pX9_spelled 8 6
set_option maxRecDepth 20000 in
theorem kX9_spelled {l : Launch} {G : aG} (hZ : a_Z l G) : a_Con l G shp yX9_spelled (.code yX9_spelled cX9_spelled 8 (some .long)) 1 16 fX9_spelled :=
  a_mth none hZ.1 hZ.2.1 shp_len (fun _ h => nomatch h) hZ.2.2.1 (by decide +kernel) rfl (foX9 rfl) (a_cok_of ⟨a_p1 1367 rfl rfl, trivial⟩) ckX9_spelled rfl rfl (trivial) (trivial)
def eX9_letters : List (Nat × aEnt) := [(0, .iload_n 0, 0, 0, []),
  (1, .tableswitch 285 0 14 #[75, 91, 107, 123, 137, 153, 167, 182, 195, 207, 220, 232, 245, 257, 271], 0, 286, [(0, 76), (1, 92), (2, 108), (3, 124), (4, 138), (5, 154), (6, 168), (7, 183), (8, 196), (9, 208), (10, 221), (11, 233), (12, 246), (13, 258), (14, 272)]),
  (76, .bipush 108, 108, 0, []),
  (78, .bipush 101, 101, 0, []),
  (80, .bipush 97, 97, 0, []),
  (82, .bipush 118, 118, 0, []),
  (84, .bipush 101, 101, 0, []),
  (86, .bipush 115, 115, 0, []),
  (88, .invokestatic 153, 0, 0, []),
  (91, .lreturn, 0, 0, []),
  (92, .bipush 98, 98, 0, []),
  (94, .bipush 108, 108, 0, []),
  (96, .bipush 97, 97, 0, []),
  (98, .bipush 110, 110, 0, []),
  (100, .bipush 107, 107, 0, []),
  (102, .bipush 115, 115, 0, []),
  (104, .invokestatic 153, 0, 0, []),
  (107, .lreturn, 0, 0, []),
  (108, .bipush 112, 112, 0, []),
  (110, .bipush 108, 108, 0, []),
  (112, .bipush 97, 97, 0, []),
  (114, .bipush 116, 116, 0, []),
  (116, .bipush 101, 101, 0, []),
  (118, .bipush 115, 115, 0, []),
  (120, .invokestatic 153, 0, 0, []),
  (123, .lreturn, 0, 0, []),
  (124, .bipush 116, 116, 0, []),
  (126, .bipush 111, 111, 0, []),
  (128, .bipush 114, 114, 0, []),
  (130, .bipush 110, 110, 0, []),
  (132, .iconst 0, 0, 0, []),
  (133, .iconst 0, 0, 0, []),
  (134, .invokestatic 153, 0, 0, []),
  (137, .lreturn, 0, 0, []),
  (138, .bipush 114, 114, 0, []),
  (140, .bipush 101, 101, 0, []),
  (142, .bipush 97, 97, 0, []),
  (144, .bipush 100, 100, 0, []),
  (146, .bipush 101, 101, 0, []),
  (148, .bipush 114, 114, 0, []),
  (150, .invokestatic 153, 0, 0, []),
  (153, .lreturn, 0, 0, []),
  (154, .bipush 98, 98, 0, []),
  (156, .bipush 111, 111, 0, []),
  (158, .bipush 111, 111, 0, []),
  (160, .bipush 107, 107, 0, []),
  (162, .iconst 0, 0, 0, []),
  (163, .iconst 0, 0, 0, []),
  (164, .invokestatic 153, 0, 0, []),
  (167, .lreturn, 0, 0, []),
  (168, .bipush 119, 119, 0, []),
  (170, .bipush 97, 97, 0, []),
  (172, .bipush 110, 110, 0, []),
  (174, .bipush 116, 116, 0, []),
  (176, .bipush 115, 115, 0, []),
  (178, .iconst 0, 0, 0, []),
  (179, .invokestatic 153, 0, 0, []),
  (182, .lreturn, 0, 0, []),
  (183, .bipush 108, 108, 0, []),
  (185, .bipush 97, 97, 0, []),
  (187, .bipush 119, 119, 0, []),
  (189, .iconst 0, 0, 0, []),
  (190, .iconst 0, 0, 0, []),
  (191, .iconst 0, 0, 0, []),
  (192, .invokestatic 153, 0, 0, []),
  (195, .lreturn, 0, 0, []),
  (196, .bipush 111, 111, 0, []),
  (198, .bipush 102, 102, 0, []),
  (200, .iconst 0, 0, 0, []),
  (201, .iconst 0, 0, 0, []),
  (202, .iconst 0, 0, 0, []),
  (203, .iconst 0, 0, 0, []),
  (204, .invokestatic 153, 0, 0, []),
  (207, .lreturn, 0, 0, []),
  (208, .bipush 97, 97, 0, []),
  (210, .bipush 110, 110, 0, []),
  (212, .bipush 100, 100, 0, []),
  (214, .iconst 0, 0, 0, []),
  (215, .iconst 0, 0, 0, []),
  (216, .iconst 0, 0, 0, []),
  (217, .invokestatic 153, 0, 0, []),
  (220, .lreturn, 0, 0, []),
  (221, .bipush 111, 111, 0, []),
  (223, .bipush 114, 114, 0, []),
  (225, .iconst 0, 0, 0, []),
  (226, .iconst 0, 0, 0, []),
  (227, .iconst 0, 0, 0, []),
  (228, .iconst 0, 0, 0, []),
  (229, .invokestatic 153, 0, 0, []),
  (232, .lreturn, 0, 0, []),
  (233, .bipush 110, 110, 0, []),
  (235, .bipush 111, 111, 0, []),
  (237, .bipush 116, 116, 0, []),
  (239, .iconst 0, 0, 0, []),
  (240, .iconst 0, 0, 0, []),
  (241, .iconst 0, 0, 0, []),
  (242, .invokestatic 153, 0, 0, []),
  (245, .lreturn, 0, 0, []),
  (246, .bipush 105, 105, 0, []),
  (248, .bipush 102, 102, 0, []),
  (250, .iconst 0, 0, 0, []),
  (251, .iconst 0, 0, 0, []),
  (252, .iconst 0, 0, 0, []),
  (253, .iconst 0, 0, 0, []),
  (254, .invokestatic 153, 0, 0, []),
  (257, .lreturn, 0, 0, []),
  (258, .bipush 116, 116, 0, []),
  (260, .bipush 104, 104, 0, []),
  (262, .bipush 101, 101, 0, []),
  (264, .bipush 110, 110, 0, []),
  (266, .iconst 0, 0, 0, []),
  (267, .iconst 0, 0, 0, []),
  (268, .invokestatic 153, 0, 0, []),
  (271, .lreturn, 0, 0, []),
  (272, .bipush 101, 101, 0, []),
  (274, .bipush 108, 108, 0, []),
  (276, .bipush 115, 115, 0, []),
  (278, .bipush 101, 101, 0, []),
  (280, .iconst 0, 0, 0, []),
  (281, .iconst 0, 0, 0, []),
  (282, .invokestatic 153, 0, 0, []),
  (285, .lreturn, 0, 0, []),
  (286, .bipush 101, 101, 0, []),
  (288, .bipush 110, 110, 0, []),
  (290, .bipush 100, 100, 0, []),
  (292, .iconst 0, 0, 0, []),
  (293, .iconst 0, 0, 0, []),
  (294, .iconst 0, 0, 0, []),
  (295, .invokestatic 153, 0, 0, []),
  (298, .lreturn, 0, 0, [])]
set_option maxRecDepth 20000 in
theorem ckX9_letters : eX9_letters.all (a_eok cX9_letters) = true := b_code [26,170,0,0,0,0,1,29,0,0,0,0,0,0,0,14,0,0,0,75,0,0,0,91,0,0,0,107,0,0,0,123,0,0,0,137,0,0,0,153,0,0,0,167,0,0,0,182,0,0,0,195,0,0,0,207,0,0,0,220,0,0,0,232,0,0,0,245,0,0,1,1,0,0,1,15,16,108,16,101,16,97,16,118,16,101,16,115,184,0,153,173,16,98,16,108,16,97,16,110,16,107,16,115,184,0,153,173,16,112,16,108,16,97,16,116,16,101,16,115,184,0,153,173,16,116,16,111,16,114,16,110,3,3,184,0,153,173,16,114,16,101,16,97,16,100,16,101,16,114,184,0,153,173,16,98,16,111,16,111,16,107,3,3,184,0,153,173,16,119,16,97,16,110,16,116,16,115,3,184,0,153,173,16,108,16,97,16,119,3,3,3,184,0,153,173,16,111,16,102,3,3,3,3,184,0,153,173,16,97,16,110,16,100,3,3,3,184,0,153,173,16,111,16,114,3,3,3,3,184,0,153,173,16,110,16,111,16,116,3,3,3,184,0,153,173,16,105,16,102,3,3,3,3,184,0,153,173,16,116,16,104,16,101,16,110,3,3,184,0,153,173,16,101,16,108,16,115,16,101,3,3,184,0,153,173,16,101,16,110,16,100,3,3,3,184,0,153,173] [(1, 75)] (by decide +kernel) (by decide +kernel) (by decide +kernel) (by decide +kernel)
noncomputable def pX9_letters : aPrg := (eX9_letters,
  fdX9, [(153, fX9_spelled, 6, 2000, 2)], [], [], [], 3, [])
noncomputable def fX9_letters : aMF := a_fn none shp pX9_letters 1 1
set_option maxRecDepth 20000 in
theorem wkX9_spelled : ∀ w ∈ [Cond.code yX9_spelled cX9_spelled 8 (some .long), .initialized yX9_spelled.cls, .static yX9_spelled], w ∈ lw_g := a_ps [1366, 105, 1365] rfl rfl
theorem hdX9_spelled : yX9_spelled.cls ≠ "java/lang/invoke/MethodHandle" ∧ yX9_spelled.cls ≠ "java/lang/invoke/VarHandle" ∧ (parseMethodDescriptor yX9_spelled.desc).map (fun d => d.parameters.length) = some 6 := by decide +kernel
set_option maxRecDepth 20000 in
theorem lkX9_153 : Cond.methodLink RX9 153 yX9_spelled ∈ lw_g := a_p1 1364 rfl rfl
set_option maxRecDepth 20000 in
theorem kX9_letters {l : Launch} {G : aG} (hZ : a_Z l G) : a_Con l G shp yX9_letters (.code yX9_letters cX9_letters 1 (some .long)) 2 43 fX9_letters :=
  a_mth none hZ.1 hZ.2.1 shp_len (fun _ h => nomatch h) hZ.2.2.1 (by decide +kernel) rfl (foX9 rfl) (a_cok_of trivial) ckX9_letters rfl rfl (trivial) (⟨a_CQ_s hZ.2.1 (kX9_spelled hZ) lkX9_153 (a_CF_s wkX9_spelled lkX9_153 hdX9_spelled) rfl rfl,
    trivial⟩)
def eX9_knownWord : List (Nat × aEnt) := [(0, .aload_n 0, 0, 0, []),
  (1, .getfield 138, 0, 0, []),
  (4, .iconst 1, 1, 0, []),
  (5, .if_icmp .ne 12, 0, 17, []),
  (8, .aload_n 0, 0, 0, []),
  (9, .getfield 148, 0, 0, []),
  (12, .bipush 6, 6, 0, []),
  (14, .if_icmp .le 5, 0, 19, []),
  (17, .iconst (-1), (-1), 0, []),
  (18, .ireturn, 0, 0, []),
  (19, .iconst 0, 0, 0, []),
  (20, .istore_n 1, 0, 0, []),
  (21, .iload_n 1, 0, 0, []),
  (22, .bipush 16, 16, 0, []),
  (24, .if_icmp .ge 23, 0, 47, []),
  (27, .iload_n 1, 0, 0, []),
  (28, .invokestatic 157, 0, 0, []),
  (31, .aload_n 0, 0, 0, []),
  (32, .getfield 128, 0, 0, []),
  (35, .lcmp, 0, 0, []),
  (36, .ifCond .ne 5, 0, 41, []),
  (39, .iload_n 1, 0, 0, []),
  (40, .ireturn, 0, 0, []),
  (41, .iinc 1 1, 1, 0, []),
  (44, .goto (-23), 0, 21, []),
  (47, .iconst (-1), (-1), 0, []),
  (48, .ireturn, 0, 0, [])]
set_option maxRecDepth 20000 in
theorem ckX9_knownWord : eX9_knownWord.all (a_eok cX9_knownWord) = true := b_code [42,180,0,138,4,160,0,12,42,180,0,148,16,6,164,0,5,2,172,3,60,27,16,16,162,0,23,27,184,0,157,42,180,0,128,148,154,0,5,27,172,132,1,1,167,255,233,2,172] [] (by decide +kernel) (by decide +kernel) (by decide +kernel) (by decide +kernel)
noncomputable def pX9_knownWord : aPrg := (eX9_knownWord,
  fdX9, [(157, fX9_letters, 1, 2000, 2)], [], [], [], 0, [(17, [0, 1])])
noncomputable def fX9_knownWord : aMF := a_fn none shp pX9_knownWord 2 1
set_option maxRecDepth 20000 in
theorem wkX9_letters : ∀ w ∈ [Cond.code yX9_letters cX9_letters 1 (some .long), .initialized yX9_letters.cls, .static yX9_letters], w ∈ lw_g := a_ps [1363, 105, 1362] rfl rfl
theorem hdX9_letters : yX9_letters.cls ≠ "java/lang/invoke/MethodHandle" ∧ yX9_letters.cls ≠ "java/lang/invoke/VarHandle" ∧ (parseMethodDescriptor yX9_letters.desc).map (fun d => d.parameters.length) = some 1 := by decide +kernel
set_option maxRecDepth 20000 in
theorem lkX9_157 : Cond.methodLink RX9 157 yX9_letters ∈ lw_g := a_p1 1361 rfl rfl
set_option maxRecDepth 20000 in
theorem kX9_knownWord {l : Launch} {G : aG} (hZ : a_Z l G) : a_Con l G shp yX9_knownWord (.code yX9_knownWord cX9_knownWord 2 (some .int)) 3 63 fX9_knownWord :=
  a_mth none hZ.1 hZ.2.1 shp_len (fun _ h => nomatch h) hZ.2.2.1 (by decide +kernel) rfl (foX9 rfl) (a_cok_of trivial) ckX9_knownWord rfl rfl (trivial) (⟨a_CQ_s hZ.2.1 (kX9_letters hZ) lkX9_157 (a_CF_s wkX9_letters lkX9_157 hdX9_letters) rfl rfl,
    trivial⟩)
def eX9_wrong : List (Nat × aEnt) := [(0, .aload_n 0, 0, 0, []),
  (1, .getfield 161, 0, 0, []),
  (4, .ifCond .eq 4, 0, 8, []),
  (7, .return_, 0, 0, []),
  (8, .aload_n 0, 0, 0, []),
  (9, .iload_n 1, 0, 0, []),
  (10, .putfield 161, 0, 0, []),
  (13, .aload_n 0, 0, 0, []),
  (14, .aload_n 0, 0, 0, []),
  (15, .getfield 125, 0, 0, []),
  (18, .putfield 31, 0, 0, []),
  (21, .return_, 0, 0, [])]
set_option maxRecDepth 20000 in
theorem ckX9_wrong : eX9_wrong.all (a_eok cX9_wrong) = true := b_code [42,180,0,161,153,0,4,177,42,27,181,0,161,42,42,180,0,125,181,0,31,177] [] (by decide +kernel) (by decide +kernel) (by decide +kernel) (by decide +kernel)
noncomputable def pX9_wrong : aPrg := (eX9_wrong,
  fdX9, [], [], [], [], 2, [])
noncomputable def fX9_wrong : aMF := a_fn none shp pX9_wrong 2 2
set_option maxRecDepth 20000 in
theorem kX9_wrong {l : Launch} {G : aG} (hZ : a_Z l G) : a_Con l G shp yX9_wrong (.code yX9_wrong cX9_wrong 2 none) 1 16 fX9_wrong :=
  a_mth none hZ.1 hZ.2.1 shp_len (fun _ h => nomatch h) hZ.2.2.1 (by decide +kernel) rfl (foX9 rfl) (a_cok_of trivial) ckX9_wrong rfl rfl (trivial) (trivial)
def eX9_isGood : List (Nat × aEnt) := [(0, .aload_n 0, 0, 0, []),
  (1, .getfield 161, 0, 0, []),
  (4, .ifCond .ne 7, 0, 11, []),
  (7, .iconst 1, 1, 0, []),
  (8, .goto 4, 0, 12, []),
  (11, .iconst 0, 0, 0, []),
  (12, .ireturn, 0, 0, [])]
set_option maxRecDepth 20000 in
theorem ckX9_isGood : eX9_isGood.all (a_eok cX9_isGood) = true := b_code [42,180,0,161,154,0,7,4,167,0,4,3,172] [] (by decide +kernel) (by decide +kernel) (by decide +kernel) (by decide +kernel)
noncomputable def pX9_isGood : aPrg := (eX9_isGood,
  fdX9, [], [], [], [], 1, [(12, [0])])
noncomputable def fX9_isGood : aMF := a_fn none shp pX9_isGood 1 1
set_option maxRecDepth 20000 in
theorem kX9_isGood {l : Launch} {G : aG} (hZ : a_Z l G) : a_Con l G shp yX9_isGood (.code yX9_isGood cX9_isGood 1 (some .boolean)) 1 16 fX9_isGood :=
  a_mth none hZ.1 hZ.2.1 shp_len (fun _ h => nomatch h) hZ.2.2.1 (by decide +kernel) rfl (foX9 rfl) (a_cok_of trivial) ckX9_isGood rfl rfl (trivial) (trivial)
def eX9_isSign : List (Nat × aEnt) := [(0, .aload_n 0, 0, 0, []),
  (1, .getfield 138, 0, 0, []),
  (4, .iconst 3, 3, 0, []),
  (5, .if_icmp .ne 15, 0, 20, []),
  (8, .aload_n 0, 0, 0, []),
  (9, .getfield 135, 0, 0, []),
  (12, .iload_n 1, 0, 0, []),
  (13, .if_icmp .ne 7, 0, 20, []),
  (16, .iconst 1, 1, 0, []),
  (17, .goto 4, 0, 21, []),
  (20, .iconst 0, 0, 0, []),
  (21, .ireturn, 0, 0, [])]
set_option maxRecDepth 20000 in
theorem ckX9_isSign : eX9_isSign.all (a_eok cX9_isSign) = true := b_code [42,180,0,138,6,160,0,15,42,180,0,135,27,160,0,7,4,167,0,4,3,172] [] (by decide +kernel) (by decide +kernel) (by decide +kernel) (by decide +kernel)
noncomputable def pX9_isSign : aPrg := (eX9_isSign,
  fdX9, [], [], [], [], 1, [(20, [0, 1]), (21, [0, 1])])
noncomputable def fX9_isSign : aMF := a_fn none shp pX9_isSign 2 2
set_option maxRecDepth 20000 in
theorem kX9_isSign {l : Launch} {G : aG} (hZ : a_Z l G) : a_Con l G shp yX9_isSign (.code yX9_isSign cX9_isSign 2 (some .boolean)) 1 16 fX9_isSign :=
  a_mth none hZ.1 hZ.2.1 shp_len (fun _ h => nomatch h) hZ.2.2.1 (by decide +kernel) rfl (foX9 rfl) (a_cok_of trivial) ckX9_isSign rfl rfl (trivial) (trivial)
def eX9_need : List (Nat × aEnt) := [(0, .aload_n 0, 0, 0, []),
  (1, .invokevirtual 164, 0, 0, []),
  (4, .ifCond .ne 4, 0, 8, []),
  (7, .return_, 0, 0, []),
  (8, .iload_n 1, 0, 0, []),
  (9, .ifCond .eq 10, 0, 19, []),
  (12, .aload_n 0, 0, 0, []),
  (13, .invokevirtual 168, 0, 0, []),
  (16, .goto 8, 0, 24, []),
  (19, .aload_n 0, 0, 0, []),
  (20, .iconst 1, 1, 0, []),
  (21, .invokevirtual 171, 0, 0, []),
  (24, .return_, 0, 0, [])]
set_option maxRecDepth 20000 in
theorem ckX9_need : eX9_need.all (a_eok cX9_need) = true := b_code [42,182,0,164,154,0,4,177,27,153,0,10,42,182,0,168,167,0,8,42,4,182,0,171,177] [] (by decide +kernel) (by decide +kernel) (by decide +kernel) (by decide +kernel)
noncomputable def pX9_need : aPrg := (eX9_need,
  fdX9, [(164, fX9_isGood, 1, 9, 0), (168, fX9_goes, 1, 9, 1), (171, fX9_wrong, 2, 9, 1)], [], [], [], 2, [(24, [0, 1])])
noncomputable def fX9_need : aMF := a_fn none shp pX9_need 2 2
set_option maxRecDepth 20000 in
theorem wkX9_isGood : ∀ w ∈ [Cond.code yX9_isGood cX9_isGood 1 (some .boolean), .initialized yX9_isGood.cls, .instanceMethod yX9_isGood, .selects yX9_isGood.cls yX9_isGood yX9_isGood], w ∈ lw_g := a_ps [1352, 105, 1351, 56] rfl rfl
theorem hdX9_isGood : yX9_isGood.cls ≠ "java/lang/invoke/MethodHandle" ∧ yX9_isGood.cls ≠ "java/lang/invoke/VarHandle" ∧ (parseMethodDescriptor yX9_isGood.desc).map (fun d => d.parameters.length) = some 0 := by decide +kernel
set_option maxRecDepth 20000 in
theorem lkX9_164 : Cond.methodLink RX9 164 yX9_isGood ∈ lw_g := a_p1 1349 rfl rfl
set_option maxRecDepth 20000 in
theorem wkX9_goes : ∀ w ∈ [Cond.code yX9_goes cX9_goes 2 none, .initialized yX9_goes.cls, .instanceMethod yX9_goes, .selects yX9_goes.cls yX9_goes yX9_goes], w ∈ lw_g := a_ps [1338, 105, 1337, 54] rfl rfl
theorem hdX9_goes : yX9_goes.cls ≠ "java/lang/invoke/MethodHandle" ∧ yX9_goes.cls ≠ "java/lang/invoke/VarHandle" ∧ (parseMethodDescriptor yX9_goes.desc).map (fun d => d.parameters.length) = some 0 := by decide +kernel
set_option maxRecDepth 20000 in
theorem lkX9_168 : Cond.methodLink RX9 168 yX9_goes ∈ lw_g := a_p1 1335 rfl rfl
set_option maxRecDepth 20000 in
theorem wkX9_wrong : ∀ w ∈ [Cond.code yX9_wrong cX9_wrong 2 none, .initialized yX9_wrong.cls, .instanceMethod yX9_wrong, .selects yX9_wrong.cls yX9_wrong yX9_wrong], w ∈ lw_g := a_ps [1371, 105, 1370, 59] rfl rfl
theorem hdX9_wrong : yX9_wrong.cls ≠ "java/lang/invoke/MethodHandle" ∧ yX9_wrong.cls ≠ "java/lang/invoke/VarHandle" ∧ (parseMethodDescriptor yX9_wrong.desc).map (fun d => d.parameters.length) = some 1 := by decide +kernel
set_option maxRecDepth 20000 in
theorem lkX9_171 : Cond.methodLink RX9 171 yX9_wrong ∈ lw_g := a_p1 1368 rfl rfl
set_option maxRecDepth 20000 in
theorem kX9_need {l : Launch} {G : aG} (hZ : a_Z l G) : a_Con l G shp yX9_need (.code yX9_need cX9_need 2 none) 3 58 fX9_need :=
  a_mth none hZ.1 hZ.2.1 shp_len (fun _ h => nomatch h) hZ.2.2.1 (by decide +kernel) rfl (foX9 rfl) (a_cok_of trivial) ckX9_need rfl rfl (trivial) (⟨a_CQ_v hZ.2.1 (kX9_isGood hZ) lkX9_164 (a_CF_v TX9 62 wkX9_isGood lkX9_164 hdX9_isGood ⟨by decide, by decide⟩ rfl) rfl rfl,
    ⟨a_CQ_v hZ.2.1 (kX9_goes hZ) lkX9_168 (a_CF_v TX9 62 wkX9_goes lkX9_168 hdX9_goes ⟨by decide, by decide⟩ rfl) rfl rfl,
    ⟨a_CQ_v hZ.2.1 (kX9_wrong hZ) lkX9_171 (a_CF_v TX9 62 wkX9_wrong lkX9_171 hdX9_wrong ⟨by decide, by decide⟩ rfl) rfl rfl,
    trivial⟩⟩⟩)
def eX9_number : List (Nat × aEnt) := [(0, .aload_n 0, 0, 0, []),
  (1, .invokevirtual 164, 0, 0, []),
  (4, .ifCond .ne 5, 0, 9, []),
  (7, .iconst 0, 0, 0, []),
  (8, .ireturn, 0, 0, []),
  (9, .aload_n 0, 0, 0, []),
  (10, .getfield 138, 0, 0, []),
  (13, .iconst 2, 2, 0, []),
  (14, .if_icmp .eq 11, 0, 25, []),
  (17, .aload_n 0, 0, 0, []),
  (18, .iconst 1, 1, 0, []),
  (19, .invokevirtual 171, 0, 0, []),
  (22, .goto 32, 0, 54, []),
  (25, .aload_n 0, 0, 0, []),
  (26, .getfield 148, 0, 0, []),
  (29, .iconst 4, 4, 0, []),
  (30, .if_icmp .gt 19, 0, 49, []),
  (33, .aload_n 0, 0, 0, []),
  (34, .getfield 132, 0, 0, []),
  (37, .iload_n 1, 0, 0, []),
  (38, .if_icmp .lt 11, 0, 49, []),
  (41, .aload_n 0, 0, 0, []),
  (42, .getfield 132, 0, 0, []),
  (45, .iload_n 2, 0, 0, []),
  (46, .if_icmp .le 8, 0, 54, []),
  (49, .aload_n 0, 0, 0, []),
  (50, .iconst 2, 2, 0, []),
  (51, .invokevirtual 171, 0, 0, []),
  (54, .aload_n 0, 0, 0, []),
  (55, .getfield 132, 0, 0, []),
  (58, .istore_n 3, 0, 0, []),
  (59, .aload_n 0, 0, 0, []),
  (60, .invokevirtual 164, 0, 0, []),
  (63, .ifCond .eq 7, 0, 70, []),
  (66, .aload_n 0, 0, 0, []),
  (67, .invokevirtual 168, 0, 0, []),
  (70, .iload_n 3, 0, 0, []),
  (71, .ireturn, 0, 0, [])]
set_option maxRecDepth 20000 in
theorem ckX9_number : eX9_number.all (a_eok cX9_number) = true := b_code [42,182,0,164,154,0,5,3,172,42,180,0,138,5,159,0,11,42,4,182,0,171,167,0,32,42,180,0,148,7,163,0,19,42,180,0,132,27,161,0,11,42,180,0,132,28,164,0,8,42,5,182,0,171,42,180,0,132,62,42,182,0,164,153,0,7,42,182,0,168,29,172] [] (by decide +kernel) (by decide +kernel) (by decide +kernel) (by decide +kernel)
noncomputable def pX9_number : aPrg := (eX9_number,
  fdX9, [(164, fX9_isGood, 1, 9, 0), (171, fX9_wrong, 2, 9, 1), (168, fX9_goes, 1, 9, 1)], [], [], [], 0, [(49, [1, 2, 3]), (54, [1, 2, 3]), (70, [0, 1, 2])])
noncomputable def fX9_number : aMF := a_fn none shp pX9_number 4 3
set_option maxRecDepth 20000 in
theorem kX9_number {l : Launch} {G : aG} (hZ : a_Z l G) : a_Con l G shp yX9_number (.code yX9_number cX9_number 4 (some .int)) 3 58 fX9_number :=
  a_mth none hZ.1 hZ.2.1 shp_len (fun _ h => nomatch h) hZ.2.2.1 (by decide +kernel) rfl (foX9 rfl) (a_cok_of trivial) ckX9_number rfl rfl (trivial) (⟨a_CQ_v hZ.2.1 (kX9_isGood hZ) lkX9_164 (a_CF_v TX9 62 wkX9_isGood lkX9_164 hdX9_isGood ⟨by decide, by decide⟩ rfl) rfl rfl,
    ⟨a_CQ_v hZ.2.1 (kX9_wrong hZ) lkX9_171 (a_CF_v TX9 62 wkX9_wrong lkX9_171 hdX9_wrong ⟨by decide, by decide⟩ rfl) rfl rfl,
    ⟨a_CQ_v hZ.2.1 (kX9_goes hZ) lkX9_168 (a_CF_v TX9 62 wkX9_goes lkX9_168 hdX9_goes ⟨by decide, by decide⟩ rfl) rfl rfl,
    trivial⟩⟩⟩)
def eX9_perhaps : List (Nat × aEnt) := [(0, .aload_n 0, 0, 0, []),
  (1, .invokevirtual 164, 0, 0, []),
  (4, .ifCond .eq 11, 0, 15, []),
  (7, .aload_n 0, 0, 0, []),
  (8, .invokevirtual 174, 0, 0, []),
  (11, .iload_n 1, 0, 0, []),
  (12, .if_icmp .eq 5, 0, 17, []),
  (15, .iconst 0, 0, 0, []),
  (16, .ireturn, 0, 0, []),
  (17, .aload_n 0, 0, 0, []),
  (18, .invokevirtual 168, 0, 0, []),
  (21, .aload_n 0, 0, 0, []),
  (22, .iconst 0, 0, 0, []),
  (23, .bipush 99, 99, 0, []),
  (25, .invokevirtual 178, 0, 0, []),
  (28, .ireturn, 0, 0, [])]
set_option maxRecDepth 20000 in
theorem ckX9_perhaps : eX9_perhaps.all (a_eok cX9_perhaps) = true := b_code [42,182,0,164,153,0,11,42,182,0,174,27,159,0,5,3,172,42,182,0,168,42,3,16,99,182,0,178,172] [] (by decide +kernel) (by decide +kernel) (by decide +kernel) (by decide +kernel)
noncomputable def pX9_perhaps : aPrg := (eX9_perhaps,
  fdX9, [(164, fX9_isGood, 1, 9, 0), (174, fX9_knownWord, 1, 9, 0), (168, fX9_goes, 1, 9, 1), (178, fX9_number, 3, 9, 0)], [], [], [], 0, [(15, [0, 1])])
noncomputable def fX9_perhaps : aMF := a_fn none shp pX9_perhaps 2 2
set_option maxRecDepth 20000 in
theorem wkX9_knownWord : ∀ w ∈ [Cond.code yX9_knownWord cX9_knownWord 2 (some .int), .initialized yX9_knownWord.cls, .instanceMethod yX9_knownWord, .selects yX9_knownWord.cls yX9_knownWord yX9_knownWord], w ∈ lw_g := a_ps [1360, 105, 1359, 58] rfl rfl
theorem hdX9_knownWord : yX9_knownWord.cls ≠ "java/lang/invoke/MethodHandle" ∧ yX9_knownWord.cls ≠ "java/lang/invoke/VarHandle" ∧ (parseMethodDescriptor yX9_knownWord.desc).map (fun d => d.parameters.length) = some 0 := by decide +kernel
set_option maxRecDepth 20000 in
theorem lkX9_174 : Cond.methodLink RX9 174 yX9_knownWord ∈ lw_g := a_p1 1357 rfl rfl
set_option maxRecDepth 20000 in
theorem wkX9_number : ∀ w ∈ [Cond.code yX9_number cX9_number 4 (some .int), .initialized yX9_number.cls, .instanceMethod yX9_number, .selects yX9_number.cls yX9_number yX9_number], w ∈ lw_g := a_ps [1375, 105, 1374, 60] rfl rfl
theorem hdX9_number : yX9_number.cls ≠ "java/lang/invoke/MethodHandle" ∧ yX9_number.cls ≠ "java/lang/invoke/VarHandle" ∧ (parseMethodDescriptor yX9_number.desc).map (fun d => d.parameters.length) = some 2 := by decide +kernel
set_option maxRecDepth 20000 in
theorem lkX9_178 : Cond.methodLink RX9 178 yX9_number ∈ lw_g := a_p1 1372 rfl rfl
set_option maxRecDepth 20000 in
theorem kX9_perhaps {l : Launch} {G : aG} (hZ : a_Z l G) : a_Con l G shp yX9_perhaps (.code yX9_perhaps cX9_perhaps 2 (some .int)) 4 84 fX9_perhaps :=
  a_mth none hZ.1 hZ.2.1 shp_len (fun _ h => nomatch h) hZ.2.2.1 (by decide +kernel) rfl (foX9 rfl) (a_cok_of trivial) ckX9_perhaps rfl rfl (trivial) (⟨a_CQ_v hZ.2.1 (kX9_isGood hZ) lkX9_164 (a_CF_v TX9 62 wkX9_isGood lkX9_164 hdX9_isGood ⟨by decide, by decide⟩ rfl) rfl rfl,
    ⟨a_CQ_v hZ.2.1 (kX9_knownWord hZ) lkX9_174 (a_CF_v TX9 62 wkX9_knownWord lkX9_174 hdX9_knownWord ⟨by decide, by decide⟩ rfl) rfl rfl,
    ⟨a_CQ_v hZ.2.1 (kX9_goes hZ) lkX9_168 (a_CF_v TX9 62 wkX9_goes lkX9_168 hdX9_goes ⟨by decide, by decide⟩ rfl) rfl rfl,
    ⟨a_CQ_v hZ.2.1 (kX9_number hZ) lkX9_178 (a_CF_v TX9 62 wkX9_number lkX9_178 hdX9_number ⟨by decide, by decide⟩ rfl) rfl rfl,
    trivial⟩⟩⟩⟩)
def eX9_amongHere : List (Nat × aEnt) := [(0, .aload_n 0, 0, 0, []),
  (1, .invokevirtual 164, 0, 0, []),
  (4, .ifCond .ne 5, 0, 9, []),
  (7, .iconst 0, 0, 0, []),
  (8, .ireturn, 0, 0, []),
  (9, .aload_n 0, 0, 0, []),
  (10, .getfield 138, 0, 0, []),
  (13, .iconst 2, 2, 0, []),
  (14, .if_icmp .eq 11, 0, 25, []),
  (17, .aload_n 0, 0, 0, []),
  (18, .iconst 1, 1, 0, []),
  (19, .invokevirtual 171, 0, 0, []),
  (22, .goto 32, 0, 54, []),
  (25, .aload_n 0, 0, 0, []),
  (26, .getfield 148, 0, 0, []),
  (29, .iconst 4, 4, 0, []),
  (30, .if_icmp .le 11, 0, 41, []),
  (33, .aload_n 0, 0, 0, []),
  (34, .iconst 2, 2, 0, []),
  (35, .invokevirtual 171, 0, 0, []),
  (38, .goto 16, 0, 54, []),
  (41, .aload_n 0, 0, 0, []),
  (42, .getfield 132, 0, 0, []),
  (45, .iload_n 1, 0, 0, []),
  (46, .if_icmp .lt 8, 0, 54, []),
  (49, .aload_n 0, 0, 0, []),
  (50, .iconst 3, 3, 0, []),
  (51, .invokevirtual 171, 0, 0, []),
  (54, .aload_n 0, 0, 0, []),
  (55, .invokevirtual 164, 0, 0, []),
  (58, .ireturn, 0, 0, [])]
set_option maxRecDepth 20000 in
theorem ckX9_amongHere : eX9_amongHere.all (a_eok cX9_amongHere) = true := b_code [42,182,0,164,154,0,5,3,172,42,180,0,138,5,159,0,11,42,4,182,0,171,167,0,32,42,180,0,148,7,164,0,11,42,5,182,0,171,167,0,16,42,180,0,132,27,161,0,8,42,6,182,0,171,42,182,0,164,172] [] (by decide +kernel) (by decide +kernel) (by decide +kernel) (by decide +kernel)
noncomputable def pX9_amongHere : aPrg := (eX9_amongHere,
  fdX9, [(164, fX9_isGood, 1, 9, 0), (171, fX9_wrong, 2, 9, 1)], [], [], [], 1, [(54, [1])])
noncomputable def fX9_amongHere : aMF := a_fn none shp pX9_amongHere 2 2
set_option maxRecDepth 20000 in
theorem kX9_amongHere {l : Launch} {G : aG} (hZ : a_Z l G) : a_Con l G shp yX9_amongHere (.code yX9_amongHere cX9_amongHere 2 (some .boolean)) 2 37 fX9_amongHere :=
  a_mth none hZ.1 hZ.2.1 shp_len (fun _ h => nomatch h) hZ.2.2.1 (by decide +kernel) rfl (foX9 rfl) (a_cok_of trivial) ckX9_amongHere rfl rfl (trivial) (⟨a_CQ_v hZ.2.1 (kX9_isGood hZ) lkX9_164 (a_CF_v TX9 62 wkX9_isGood lkX9_164 hdX9_isGood ⟨by decide, by decide⟩ rfl) rfl rfl,
    ⟨a_CQ_v hZ.2.1 (kX9_wrong hZ) lkX9_171 (a_CF_v TX9 62 wkX9_wrong lkX9_171 hdX9_wrong ⟨by decide, by decide⟩ rfl) rfl rfl,
    trivial⟩⟩)
def eX9_among : List (Nat × aEnt) := [(0, .aload_n 0, 0, 0, []),
  (1, .iload_n 1, 0, 0, []),
  (2, .invokevirtual 182, 0, 0, []),
  (5, .ifCond .eq 10, 0, 15, []),
  (8, .aload_n 0, 0, 0, []),
  (9, .getfield 132, 0, 0, []),
  (12, .goto 4, 0, 16, []),
  (15, .iconst 0, 0, 0, []),
  (16, .istore_n 2, 0, 0, []),
  (17, .aload_n 0, 0, 0, []),
  (18, .invokevirtual 164, 0, 0, []),
  (21, .ifCond .eq 7, 0, 28, []),
  (24, .aload_n 0, 0, 0, []),
  (25, .invokevirtual 168, 0, 0, []),
  (28, .iload_n 2, 0, 0, []),
  (29, .ireturn, 0, 0, [])]
set_option maxRecDepth 20000 in
theorem ckX9_among : eX9_among.all (a_eok cX9_among) = true := b_code [42,27,182,0,182,153,0,10,42,180,0,132,167,0,4,3,61,42,182,0,164,153,0,7,42,182,0,168,28,172] [] (by decide +kernel) (by decide +kernel) (by decide +kernel) (by decide +kernel)
noncomputable def pX9_among : aPrg := (eX9_among,
  fdX9, [(182, fX9_amongHere, 2, 9, 0), (164, fX9_isGood, 1, 9, 0), (168, fX9_goes, 1, 9, 1)], [], [], [], 0, [(16, [1, 2]), (28, [0, 1])])
noncomputable def fX9_among : aMF := a_fn none shp pX9_among 3 2
set_option maxRecDepth 20000 in
theorem wkX9_amongHere : ∀ w ∈ [Cond.code yX9_amongHere cX9_amongHere 2 (some .boolean), .initialized yX9_amongHere.cls, .instanceMethod yX9_amongHere, .selects yX9_amongHere.cls yX9_amongHere yX9_amongHere], w ∈ lw_g := a_ps [1387, 105, 1386, 63] rfl rfl
theorem hdX9_amongHere : yX9_amongHere.cls ≠ "java/lang/invoke/MethodHandle" ∧ yX9_amongHere.cls ≠ "java/lang/invoke/VarHandle" ∧ (parseMethodDescriptor yX9_amongHere.desc).map (fun d => d.parameters.length) = some 1 := by decide +kernel
set_option maxRecDepth 20000 in
theorem lkX9_182 : Cond.methodLink RX9 182 yX9_amongHere ∈ lw_g := a_p1 1384 rfl rfl
set_option maxRecDepth 20000 in
theorem kX9_among {l : Launch} {G : aG} (hZ : a_Z l G) : a_Con l G shp yX9_among (.code yX9_among cX9_among 3 (some .int)) 3 58 fX9_among :=
  a_mth none hZ.1 hZ.2.1 shp_len (fun _ h => nomatch h) hZ.2.2.1 (by decide +kernel) rfl (foX9 rfl) (a_cok_of trivial) ckX9_among rfl rfl (trivial) (⟨a_CQ_v hZ.2.1 (kX9_amongHere hZ) lkX9_182 (a_CF_v TX9 62 wkX9_amongHere lkX9_182 hdX9_amongHere ⟨by decide, by decide⟩ rfl) rfl rfl,
    ⟨a_CQ_v hZ.2.1 (kX9_isGood hZ) lkX9_164 (a_CF_v TX9 62 wkX9_isGood lkX9_164 hdX9_isGood ⟨by decide, by decide⟩ rfl) rfl rfl,
    ⟨a_CQ_v hZ.2.1 (kX9_goes hZ) lkX9_168 (a_CF_v TX9 62 wkX9_goes lkX9_168 hdX9_goes ⟨by decide, by decide⟩ rfl) rfl rfl,
    trivial⟩⟩⟩)
def eX9_puts : List (Nat × aEnt) := [(0, .aload_n 0, 0, 0, []),
  (1, .getfield 47, 0, 0, []),
  (4, .aload_n 0, 0, 0, []),
  (5, .getfield 185, 0, 0, []),
  (8, .iload_n 1, 0, 0, []),
  (9, .iastore, 0, 0, []),
  (10, .aload_n 0, 0, 0, []),
  (11, .dup, 0, 0, []),
  (12, .getfield 185, 0, 0, []),
  (15, .iconst 1, 1, 0, []),
  (16, .iadd, 0, 0, []),
  (17, .putfield 185, 0, 0, []),
  (20, .return_, 0, 0, [])]
set_option maxRecDepth 20000 in
theorem ckX9_puts : eX9_puts.all (a_eok cX9_puts) = true := b_code [42,180,0,47,42,180,0,185,27,79,42,89,180,0,185,4,96,181,0,185,177] [] (by decide +kernel) (by decide +kernel) (by decide +kernel) (by decide +kernel)
noncomputable def pX9_puts : aPrg := (eX9_puts,
  fdX9, [], [], [], [], 2, [])
noncomputable def fX9_puts : aMF := a_fn none shp pX9_puts 2 2
set_option maxRecDepth 20000 in
theorem kX9_puts {l : Launch} {G : aG} (hZ : a_Z l G) : a_Con l G shp yX9_puts (.code yX9_puts cX9_puts 2 none) 1 16 fX9_puts :=
  a_mth none hZ.1 hZ.2.1 shp_len (fun _ h => nomatch h) hZ.2.2.1 (by decide +kernel) rfl (foX9 rfl) (a_cok_of trivial) ckX9_puts rfl rfl (trivial) (trivial)
def eX9_isOpen : List (Nat × aEnt) := [(0, .iload_n 0, 0, 0, []),
  (1, .bipush 14, 14, 0, []),
  (3, .if_icmp .lt 7, 0, 10, []),
  (6, .iconst 1, 1, 0, []),
  (7, .goto 4, 0, 11, []),
  (10, .iconst 0, 0, 0, []),
  (11, .ireturn, 0, 0, [])]
set_option maxRecDepth 20000 in
theorem ckX9_isOpen : eX9_isOpen.all (a_eok cX9_isOpen) = true := b_code [26,16,14,161,0,7,4,167,0,4,3,172] [] (by decide +kernel) (by decide +kernel) (by decide +kernel) (by decide +kernel)
noncomputable def pX9_isOpen : aPrg := (eX9_isOpen,
  fdX9, [], [], [], [], 1, [(11, [0])])
noncomputable def fX9_isOpen : aMF := a_fn none shp pX9_isOpen 1 1
set_option maxRecDepth 20000 in
theorem kX9_isOpen {l : Launch} {G : aG} (hZ : a_Z l G) : a_Con l G shp yX9_isOpen (.code yX9_isOpen cX9_isOpen 1 (some .boolean)) 1 16 fX9_isOpen :=
  a_mth none hZ.1 hZ.2.1 shp_len (fun _ h => nomatch h) hZ.2.2.1 (by decide +kernel) rfl (foX9 rfl) (a_cok_of trivial) ckX9_isOpen rfl rfl (trivial) (trivial)
def eX9_strength : List (Nat × aEnt) := [(0, .iload_n 0, 0, 0, []),
  (1, .iconst 5, 5, 0, []),
  (2, .if_icmp .ne 7, 0, 9, []),
  (5, .iconst 1, 1, 0, []),
  (6, .goto 55, 0, 61, []),
  (9, .iload_n 0, 0, 0, []),
  (10, .iconst 4, 4, 0, []),
  (11, .if_icmp .ne 7, 0, 18, []),
  (14, .iconst 2, 2, 0, []),
  (15, .goto 46, 0, 61, []),
  (18, .iload_n 0, 0, 0, []),
  (19, .iconst 3, 3, 0, []),
  (20, .if_icmp .ne 7, 0, 27, []),
  (23, .iconst 3, 3, 0, []),
  (24, .goto 37, 0, 61, []),
  (27, .iload_n 0, 0, 0, []),
  (28, .bipush 6, 6, 0, []),
  (30, .if_icmp .eq 9, 0, 39, []),
  (33, .iload_n 0, 0, 0, []),
  (34, .bipush 7, 7, 0, []),
  (36, .if_icmp .ne 7, 0, 43, []),
  (39, .iconst 4, 4, 0, []),
  (40, .goto 21, 0, 61, []),
  (43, .iload_n 0, 0, 0, []),
  (44, .bipush 8, 8, 0, []),
  (46, .if_icmp .eq 9, 0, 55, []),
  (49, .iload_n 0, 0, 0, []),
  (50, .bipush 9, 9, 0, []),
  (52, .if_icmp .ne 7, 0, 59, []),
  (55, .iconst 5, 5, 0, []),
  (56, .goto 5, 0, 61, []),
  (59, .bipush 6, 6, 0, []),
  (61, .ireturn, 0, 0, [])]
set_option maxRecDepth 20000 in
theorem ckX9_strength : eX9_strength.all (a_eok cX9_strength) = true := b_code [26,8,160,0,7,4,167,0,55,26,7,160,0,7,5,167,0,46,26,6,160,0,7,6,167,0,37,26,16,6,159,0,9,26,16,7,160,0,7,7,167,0,21,26,16,8,159,0,9,26,16,9,160,0,7,8,167,0,5,16,6,172] [] (by decide +kernel) (by decide +kernel) (by decide +kernel) (by decide +kernel)
noncomputable def pX9_strength : aPrg := (eX9_strength,
  fdX9, [], [], [], [], 0, [(39, [0]), (55, [0]), (61, [0])])
noncomputable def fX9_strength : aMF := a_fn none shp pX9_strength 1 1
set_option maxRecDepth 20000 in
theorem kX9_strength {l : Launch} {G : aG} (hZ : a_Z l G) : a_Con l G shp yX9_strength (.code yX9_strength cX9_strength 1 (some .int)) 1 16 fX9_strength :=
  a_mth none hZ.1 hZ.2.1 shp_len (fun _ h => nomatch h) hZ.2.2.1 (by decide +kernel) rfl (foX9 rfl) (a_cok_of trivial) ckX9_strength rfl rfl (trivial) (trivial)
def eX9_drops : List (Nat × aEnt) := [(0, .aload_n 0, 0, 0, []),
  (1, .getfield 188, 0, 0, []),
  (4, .ifCond .le 64, 0, 68, []),
  (7, .aload_n 0, 0, 0, []),
  (8, .getfield 50, 0, 0, []),
  (11, .aload_n 0, 0, 0, []),
  (12, .getfield 188, 0, 0, []),
  (15, .iconst 1, 1, 0, []),
  (16, .isub, 0, 0, []),
  (17, .iaload, 0, 0, []),
  (18, .invokestatic 191, 0, 0, []),
  (21, .ifCond .ne 47, 0, 68, []),
  (24, .aload_n 0, 0, 0, []),
  (25, .getfield 50, 0, 0, []),
  (28, .aload_n 0, 0, 0, []),
  (29, .getfield 188, 0, 0, []),
  (32, .iconst 1, 1, 0, []),
  (33, .isub, 0, 0, []),
  (34, .iaload, 0, 0, []),
  (35, .invokestatic 194, 0, 0, []),
  (38, .iload_n 1, 0, 0, []),
  (39, .if_icmp .lt 29, 0, 68, []),
  (42, .aload_n 0, 0, 0, []),
  (43, .dup, 0, 0, []),
  (44, .getfield 188, 0, 0, []),
  (47, .iconst 1, 1, 0, []),
  (48, .isub, 0, 0, []),
  (49, .putfield 188, 0, 0, []),
  (52, .aload_n 0, 0, 0, []),
  (53, .aload_n 0, 0, 0, []),
  (54, .getfield 50, 0, 0, []),
  (57, .aload_n 0, 0, 0, []),
  (58, .getfield 188, 0, 0, []),
  (61, .iaload, 0, 0, []),
  (62, .invokevirtual 197, 0, 0, []),
  (65, .goto (-65), 0, 0, []),
  (68, .return_, 0, 0, [])]
set_option maxRecDepth 20000 in
theorem ckX9_drops : eX9_drops.all (a_eok cX9_drops) = true := b_code [42,180,0,188,158,0,64,42,180,0,50,42,180,0,188,4,100,46,184,0,191,154,0,47,42,180,0,50,42,180,0,188,4,100,46,184,0,194,27,161,0,29,42,89,180,0,188,4,100,181,0,188,42,42,180,0,50,42,180,0,188,46,182,0,197,167,255,191,177] [] (by decide +kernel) (by decide +kernel) (by decide +kernel) (by decide +kernel)
noncomputable def pX9_drops : aPrg := (eX9_drops,
  fdX9, [(191, fX9_isOpen, 1, 2000, 0), (194, fX9_strength, 1, 2000, 0), (197, fX9_puts, 2, 9, 1)], [], [], [], 2, [(68, [0, 1])])
noncomputable def fX9_drops : aMF := a_fn none shp pX9_drops 2 2
set_option maxRecDepth 20000 in
theorem wkX9_isOpen : ∀ w ∈ [Cond.code yX9_isOpen cX9_isOpen 1 (some .boolean), .initialized yX9_isOpen.cls, .static yX9_isOpen], w ∈ lw_g := a_ps [1422, 105, 1421] rfl rfl
theorem hdX9_isOpen : yX9_isOpen.cls ≠ "java/lang/invoke/MethodHandle" ∧ yX9_isOpen.cls ≠ "java/lang/invoke/VarHandle" ∧ (parseMethodDescriptor yX9_isOpen.desc).map (fun d => d.parameters.length) = some 1 := by decide +kernel
set_option maxRecDepth 20000 in
theorem lkX9_191 : Cond.methodLink RX9 191 yX9_isOpen ∈ lw_g := a_p1 1420 rfl rfl
set_option maxRecDepth 20000 in
theorem wkX9_strength : ∀ w ∈ [Cond.code yX9_strength cX9_strength 1 (some .int), .initialized yX9_strength.cls, .static yX9_strength], w ∈ lw_g := a_ps [1425, 105, 1424] rfl rfl
theorem hdX9_strength : yX9_strength.cls ≠ "java/lang/invoke/MethodHandle" ∧ yX9_strength.cls ≠ "java/lang/invoke/VarHandle" ∧ (parseMethodDescriptor yX9_strength.desc).map (fun d => d.parameters.length) = some 1 := by decide +kernel
set_option maxRecDepth 20000 in
theorem lkX9_194 : Cond.methodLink RX9 194 yX9_strength ∈ lw_g := a_p1 1423 rfl rfl
set_option maxRecDepth 20000 in
theorem wkX9_puts : ∀ w ∈ [Cond.code yX9_puts cX9_puts 2 none, .initialized yX9_puts.cls, .instanceMethod yX9_puts, .selects yX9_puts.cls yX9_puts yX9_puts], w ∈ lw_g := a_ps [1415, 105, 1414, 70] rfl rfl
theorem hdX9_puts : yX9_puts.cls ≠ "java/lang/invoke/MethodHandle" ∧ yX9_puts.cls ≠ "java/lang/invoke/VarHandle" ∧ (parseMethodDescriptor yX9_puts.desc).map (fun d => d.parameters.length) = some 1 := by decide +kernel
set_option maxRecDepth 20000 in
theorem lkX9_197 : Cond.methodLink RX9 197 yX9_puts ∈ lw_g := a_p1 1412 rfl rfl
set_option maxRecDepth 20000 in
theorem kX9_drops {l : Launch} {G : aG} (hZ : a_Z l G) : a_Con l G shp yX9_drops (.code yX9_drops cX9_drops 2 none) 2 37 fX9_drops :=
  a_mth none hZ.1 hZ.2.1 shp_len (fun _ h => nomatch h) hZ.2.2.1 (by decide +kernel) rfl (foX9 rfl) (a_cok_of trivial) ckX9_drops rfl rfl (trivial) (⟨a_CQ_s hZ.2.1 (kX9_isOpen hZ) lkX9_191 (a_CF_s wkX9_isOpen lkX9_191 hdX9_isOpen) rfl rfl,
    ⟨a_CQ_s hZ.2.1 (kX9_strength hZ) lkX9_194 (a_CF_s wkX9_strength lkX9_194 hdX9_strength) rfl rfl,
    ⟨a_CQ_v hZ.2.1 (kX9_puts hZ) lkX9_197 (a_CF_v TX9 62 wkX9_puts lkX9_197 hdX9_puts ⟨by decide, by decide⟩ rfl) rfl rfl,
    trivial⟩⟩⟩)
def eX9_waitsFor : List (Nat × aEnt) := [(0, .aload_n 0, 0, 0, []),
  (1, .getfield 50, 0, 0, []),
  (4, .aload_n 0, 0, 0, []),
  (5, .getfield 188, 0, 0, []),
  (8, .iload_n 1, 0, 0, []),
  (9, .iastore, 0, 0, []),
  (10, .aload_n 0, 0, 0, []),
  (11, .dup, 0, 0, []),
  (12, .getfield 188, 0, 0, []),
  (15, .iconst 1, 1, 0, []),
  (16, .iadd, 0, 0, []),
  (17, .putfield 188, 0, 0, []),
  (20, .return_, 0, 0, [])]
set_option maxRecDepth 20000 in
theorem ckX9_waitsFor : eX9_waitsFor.all (a_eok cX9_waitsFor) = true := b_code [42,180,0,50,42,180,0,188,27,79,42,89,180,0,188,4,96,181,0,188,177] [] (by decide +kernel) (by decide +kernel) (by decide +kernel) (by decide +kernel)
noncomputable def pX9_waitsFor : aPrg := (eX9_waitsFor,
  fdX9, [], [], [], [], 2, [])
noncomputable def fX9_waitsFor : aMF := a_fn none shp pX9_waitsFor 2 2
set_option maxRecDepth 20000 in
theorem kX9_waitsFor {l : Launch} {G : aG} (hZ : a_Z l G) : a_Con l G shp yX9_waitsFor (.code yX9_waitsFor cX9_waitsFor 2 none) 1 16 fX9_waitsFor :=
  a_mth none hZ.1 hZ.2.1 shp_len (fun _ h => nomatch h) hZ.2.2.1 (by decide +kernel) rfl (foX9 rfl) (a_cok_of trivial) ckX9_waitsFor rfl rfl (trivial) (trivial)
def eX9_part : List (Nat × aEnt) := [(0, .aload_n 0, 0, 0, []),
  (1, .invokevirtual 164, 0, 0, []),
  (4, .ifCond .ne 4, 0, 8, []),
  (7, .return_, 0, 0, []),
  (8, .aload_n 0, 0, 0, []),
  (9, .getfield 138, 0, 0, []),
  (12, .iconst 2, 2, 0, []),
  (13, .if_icmp .ne 32, 0, 45, []),
  (16, .aload_n 0, 0, 0, []),
  (17, .getfield 148, 0, 0, []),
  (20, .iconst 4, 4, 0, []),
  (21, .if_icmp .le 8, 0, 29, []),
  (24, .aload_n 0, 0, 0, []),
  (25, .iconst 2, 2, 0, []),
  (26, .invokevirtual 171, 0, 0, []),
  (29, .aload_n 0, 0, 0, []),
  (30, .iconst 1, 1, 0, []),
  (31, .invokevirtual 197, 0, 0, []),
  (34, .aload_n 0, 0, 0, []),
  (35, .aload_n 0, 0, 0, []),
  (36, .getfield 132, 0, 0, []),
  (39, .invokevirtual 197, 0, 0, []),
  (42, .goto 48, 0, 90, []),
  (45, .aload_n 0, 0, 0, []),
  (46, .getfield 138, 0, 0, []),
  (49, .iconst 1, 1, 0, []),
  (50, .if_icmp .ne 35, 0, 85, []),
  (53, .aload_n 0, 0, 0, []),
  (54, .invokevirtual 174, 0, 0, []),
  (57, .istore_n 1, 0, 0, []),
  (58, .iload_n 1, 0, 0, []),
  (59, .ifCond .lt 8, 0, 67, []),
  (62, .iload_n 1, 0, 0, []),
  (63, .iconst 3, 3, 0, []),
  (64, .if_icmp .le 8, 0, 72, []),
  (67, .aload_n 0, 0, 0, []),
  (68, .iconst 3, 3, 0, []),
  (69, .invokevirtual 171, 0, 0, []),
  (72, .aload_n 0, 0, 0, []),
  (73, .iconst 2, 2, 0, []),
  (74, .invokevirtual 197, 0, 0, []),
  (77, .aload_n 0, 0, 0, []),
  (78, .iload_n 1, 0, 0, []),
  (79, .invokevirtual 197, 0, 0, []),
  (82, .goto 8, 0, 90, []),
  (85, .aload_n 0, 0, 0, []),
  (86, .iconst 1, 1, 0, []),
  (87, .invokevirtual 171, 0, 0, []),
  (90, .aload_n 0, 0, 0, []),
  (91, .invokevirtual 164, 0, 0, []),
  (94, .ifCond .eq 7, 0, 101, []),
  (97, .aload_n 0, 0, 0, []),
  (98, .invokevirtual 168, 0, 0, []),
  (101, .return_, 0, 0, [])]
set_option maxRecDepth 20000 in
theorem ckX9_part : eX9_part.all (a_eok cX9_part) = true := b_code [42,182,0,164,154,0,4,177,42,180,0,138,5,160,0,32,42,180,0,148,7,164,0,8,42,5,182,0,171,42,4,182,0,197,42,42,180,0,132,182,0,197,167,0,48,42,180,0,138,4,160,0,35,42,182,0,174,60,27,155,0,8,27,6,164,0,8,42,6,182,0,171,42,5,182,0,197,42,27,182,0,197,167,0,8,42,4,182,0,171,42,182,0,164,153,0,7,42,182,0,168,177] [] (by decide +kernel) (by decide +kernel) (by decide +kernel) (by decide +kernel)
noncomputable def pX9_part : aPrg := (eX9_part,
  fdX9, [(164, fX9_isGood, 1, 9, 0), (171, fX9_wrong, 2, 9, 1), (197, fX9_puts, 2, 9, 1), (174, fX9_knownWord, 1, 9, 0), (168, fX9_goes, 1, 9, 1)], [], [], [], 2, [(29, [1]), (90, [1]), (101, [0, 1])])
noncomputable def fX9_part : aMF := a_fn none shp pX9_part 2 1
set_option maxRecDepth 20000 in
theorem kX9_part {l : Launch} {G : aG} (hZ : a_Z l G) : a_Con l G shp yX9_part (.code yX9_part cX9_part 2 none) 4 84 fX9_part :=
  a_mth none hZ.1 hZ.2.1 shp_len (fun _ h => nomatch h) hZ.2.2.1 (by decide +kernel) rfl (foX9 rfl) (a_cok_of trivial) ckX9_part rfl rfl (trivial) (⟨a_CQ_v hZ.2.1 (kX9_isGood hZ) lkX9_164 (a_CF_v TX9 62 wkX9_isGood lkX9_164 hdX9_isGood ⟨by decide, by decide⟩ rfl) rfl rfl,
    ⟨a_CQ_v hZ.2.1 (kX9_wrong hZ) lkX9_171 (a_CF_v TX9 62 wkX9_wrong lkX9_171 hdX9_wrong ⟨by decide, by decide⟩ rfl) rfl rfl,
    ⟨a_CQ_v hZ.2.1 (kX9_puts hZ) lkX9_197 (a_CF_v TX9 62 wkX9_puts lkX9_197 hdX9_puts ⟨by decide, by decide⟩ rfl) rfl rfl,
    ⟨a_CQ_v hZ.2.1 (kX9_knownWord hZ) lkX9_174 (a_CF_v TX9 62 wkX9_knownWord lkX9_174 hdX9_knownWord ⟨by decide, by decide⟩ rfl) rfl rfl,
    ⟨a_CQ_v hZ.2.1 (kX9_goes hZ) lkX9_168 (a_CF_v TX9 62 wkX9_goes lkX9_168 hdX9_goes ⟨by decide, by decide⟩ rfl) rfl rfl,
    trivial⟩⟩⟩⟩⟩)
