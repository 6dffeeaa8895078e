/-! ===== programs and contracts, written by wip/whole/gen.py ===== -/
def eX0_allEvents : List (Nat × aEnt) := [(0, .iconst 1, 1, 0, []),
  (1, .aload_n 0, 0, 0, []),
  (2, .getfield 25, 0, 0, []),
  (5, .getfield 53, 0, 0, []),
  (8, .ishl, 0, 0, []),
  (9, .iconst 1, 1, 0, []),
  (10, .isub, 0, 0, []),
  (11, .ireturn, 0, 0, [])]
set_option maxRecDepth 20000 in
theorem ckX0_allEvents : eX0_allEvents.all (a_eok cX0_allEvents) = true := b_code [4,42,180,0,25,180,0,53,120,4,100,172] [] (by decide +kernel) (by decide +kernel) (by decide +kernel) (by decide +kernel)
noncomputable def pX0_allEvents : aPrg := (eX0_allEvents,
  fdX0, [], [], [], [], 0, [])
noncomputable def fX0_allEvents : aMF := a_fn none shp pX0_allEvents 1 1
set_option maxRecDepth 20000 in
theorem kX0_allEvents {l : Launch} {G : aG} (hZ : a_Z l G) : a_Con l G shp yX0_allEvents (.code yX0_allEvents cX0_allEvents 1 (some .int)) 1 16 fX0_allEvents :=
  a_mth none hZ.1 hZ.2.1 shp_len (fun _ h => nomatch h) hZ.2.2.1 (by decide +kernel) rfl (foX0 rfl) (a_cok_of trivial) ckX0_allEvents rfl rfl (trivial) (trivial)
def eJ7_fill_53178 : List (Nat × aEnt) := [(0, .iconst 0, 0, 0, []),
  (1, .istore_n 2, 0, 0, []),
  (2, .aload_n 0, 0, 0, []),
  (3, .arraylength, 0, 0, []),
  (4, .istore_n 3, 0, 0, []),
  (5, .iload_n 2, 0, 0, []),
  (6, .iload_n 3, 0, 0, []),
  (7, .if_icmp .ge 13, 0, 20, []),
  (10, .aload_n 0, 0, 0, []),
  (11, .iload_n 2, 0, 0, []),
  (12, .iload_n 1, 0, 0, []),
  (13, .iastore, 0, 0, []),
  (14, .iinc 2 1, 1, 0, []),
  (17, .goto (-12), 0, 5, []),
  (20, .return_, 0, 0, [])]
set_option maxRecDepth 20000 in
theorem ckJ7_fill_53178 : eJ7_fill_53178.all (a_eok cJ7_fill_53178) = true := b_code [3,61,42,190,62,28,29,162,0,13,42,28,27,79,132,2,1,167,255,244,177] [] (by decide +kernel) (by decide +kernel) (by decide +kernel) (by decide +kernel)
noncomputable def pJ7_fill_53178 : aPrg := (eJ7_fill_53178,
  [], [], [], [], [], 2, [])
noncomputable def fJ7_fill_53178 : aMF := a_fn none shp pJ7_fill_53178 4 2
set_option maxRecDepth 20000 in
theorem kJ7_fill_53178 {l : Launch} {G : aG} (hZ : a_Z l G) : a_Con l G shp yJ7_fill_53178 (.code yJ7_fill_53178 cJ7_fill_53178 4 none) 1 16 fJ7_fill_53178 :=
  a_mtj none hZ.1 hZ.2.1 shp_len (fun _ h => nomatch h) hZ.2.2.1 (by decide +kernel) rfl (a_fok_of [] rfl rfl) (a_cok_of trivial) ckJ7_fill_53178 rfl rfl rfl rfl
def eX8_trade : List (Nat × aEnt) := [(0, .iconst 1, 1, 0, []),
  (1, .iload_n 3, 0, 0, []),
  (2, .ishl, 0, 0, []),
  (3, .iconst 1, 1, 0, []),
  (4, .iload 4, 0, 0, []),
  (6, .ishl, 0, 0, []),
  (7, .ior, 0, 0, []),
  (8, .istore 5, 0, 0, []),
  (10, .aload_n 0, 0, 0, []),
  (11, .iload_n 1, 0, 0, []),
  (12, .dup2, 0, 0, []),
  (13, .iaload, 0, 0, []),
  (14, .iload 5, 0, 0, []),
  (16, .ixor, 0, 0, []),
  (17, .iastore, 0, 0, []),
  (18, .aload_n 0, 0, 0, []),
  (19, .iload_n 2, 0, 0, []),
  (20, .dup2, 0, 0, []),
  (21, .iaload, 0, 0, []),
  (22, .iload 5, 0, 0, []),
  (24, .ixor, 0, 0, []),
  (25, .iastore, 0, 0, []),
  (26, .return_, 0, 0, [])]
set_option maxRecDepth 20000 in
theorem ckX8_trade : eX8_trade.all (a_eok cX8_trade) = true := b_code [4,29,120,4,21,4,120,128,54,5,42,27,92,46,21,5,130,79,42,28,92,46,21,5,130,79,177] [] (by decide +kernel) (by decide +kernel) (by decide +kernel) (by decide +kernel)
noncomputable def pX8_trade : aPrg := (eX8_trade,
  fdX8, [], [], [], [], 2, [])
noncomputable def fX8_trade : aMF := a_fn none shp pX8_trade 6 5
set_option maxRecDepth 20000 in
theorem kX8_trade {l : Launch} {G : aG} (hZ : a_Z l G) : a_Con l G shp yX8_trade (.code yX8_trade cX8_trade 6 none) 1 16 fX8_trade :=
  a_mth none hZ.1 hZ.2.1 shp_len (fun _ h => nomatch h) hZ.2.2.1 (by decide +kernel) rfl (foX8 rfl) (a_cok_of trivial) ckX8_trade rfl rfl (trivial) (trivial)
def eX0_goTo : List (Nat × aEnt) := [(0, .aload_n 0, 0, 0, []),
  (1, .getfield 25, 0, 0, []),
  (4, .getfield 68, 0, 0, []),
  (7, .iconst 0, 0, 0, []),
  (8, .aload_n 0, 0, 0, []),
  (9, .getfield 9, 0, 0, []),
  (12, .iconst 0, 0, 0, []),
  (13, .bipush 6, 6, 0, []),
  (15, .invokestatic 69, 0, 0, []),
  (18, .iconst 0, 0, 0, []),
  (19, .istore_n 2, 0, 0, []),
  (20, .iload_n 2, 0, 0, []),
  (21, .aload_n 0, 0, 0, []),
  (22, .getfield 25, 0, 0, []),
  (25, .getfield 53, 0, 0, []),
  (28, .if_icmp .ge 60, 0, 88, []),
  (31, .iload_n 1, 0, 0, []),
  (32, .iload_n 2, 0, 0, []),
  (33, .ishr, 0, 0, []),
  (34, .iconst 1, 1, 0, []),
  (35, .iand, 0, 0, []),
  (36, .ifCond .eq 46, 0, 82, []),
  (39, .iconst 3, 3, 0, []),
  (40, .iload_n 2, 0, 0, []),
  (41, .imul, 0, 0, []),
  (42, .istore_n 3, 0, 0, []),
  (43, .aload_n 0, 0, 0, []),
  (44, .getfield 9, 0, 0, []),
  (47, .aload_n 0, 0, 0, []),
  (48, .getfield 25, 0, 0, []),
  (51, .getfield 75, 0, 0, []),
  (54, .iload_n 3, 0, 0, []),
  (55, .iaload, 0, 0, []),
  (56, .iconst 5, 5, 0, []),
  (57, .aload_n 0, 0, 0, []),
  (58, .getfield 25, 0, 0, []),
  (61, .getfield 75, 0, 0, []),
  (64, .iload_n 3, 0, 0, []),
  (65, .iconst 1, 1, 0, []),
  (66, .iadd, 0, 0, []),
  (67, .iaload, 0, 0, []),
  (68, .aload_n 0, 0, 0, []),
  (69, .getfield 25, 0, 0, []),
  (72, .getfield 75, 0, 0, []),
  (75, .iload_n 3, 0, 0, []),
  (76, .iconst 2, 2, 0, []),
  (77, .iadd, 0, 0, []),
  (78, .iaload, 0, 0, []),
  (79, .invokestatic 78, 0, 0, []),
  (82, .iinc 2 1, 1, 0, []),
  (85, .goto (-65), 0, 20, []),
  (88, .return_, 0, 0, [])]
set_option maxRecDepth 20000 in
theorem ckX0_goTo : eX0_goTo.all (a_eok cX0_goTo) = true := b_code [42,180,0,25,180,0,68,3,42,180,0,9,3,16,6,184,0,69,3,61,28,42,180,0,25,180,0,53,162,0,60,27,28,122,4,126,153,0,46,6,28,104,62,42,180,0,9,42,180,0,25,180,0,75,29,46,8,42,180,0,25,180,0,75,29,4,96,46,42,180,0,25,180,0,75,29,5,96,46,184,0,78,132,2,1,167,255,191,177] [] (by decide +kernel) (by decide +kernel) (by decide +kernel) (by decide +kernel)
noncomputable def pX0_goTo : aPrg := (eX0_goTo,
  fdX0, [(69, a_acp, 5, 2000, 1), (78, fX8_trade, 5, 2000, 1)], [], [], [], 2, [(20, [3]), (82, [3])])
noncomputable def fX0_goTo : aMF := a_fn none shp pX0_goTo 4 2
set_option maxRecDepth 20000 in
theorem wkX8_trade : ∀ w ∈ [Cond.code yX8_trade cX8_trade 6 none, .initialized yX8_trade.cls, .static yX8_trade], w ∈ lw_g := a_ps [456, 96, 455] rfl rfl
theorem hdX8_trade : yX8_trade.cls ≠ "java/lang/invoke/MethodHandle" ∧ yX8_trade.cls ≠ "java/lang/invoke/VarHandle" ∧ (parseMethodDescriptor yX8_trade.desc).map (fun d => d.parameters.length) = some 5 := by decide +kernel
set_option maxRecDepth 20000 in
theorem kX0_goTo {l : Launch} {G : aG} (hZ : a_Z l G) : a_Con l G shp yX0_goTo (.code yX0_goTo cX0_goTo 4 none) 2 60 fX0_goTo :=
  a_mth none hZ.1 hZ.2.1 shp_len (fun _ h => nomatch h) hZ.2.2.1 (by decide +kernel) rfl (foX0 rfl) (a_cok_of trivial) ckX0_goTo rfl rfl (trivial) (⟨q_acp hZ 543 rfl rfl rfl,
    ⟨a_CQ_sn hZ.2.1 (kX8_trade hZ) (a_CF_sn wkX8_trade "StoutShelf" 544 rfl hdX8_trade) (a_fn_nt rfl rfl) rfl rfl,
    trivial⟩⟩)
def eX8_holds : List (Nat × aEnt) := [(0, .iload_n 0, 0, 0, []),
  (1, .iload_n 1, 0, 0, []),
  (2, .ishr, 0, 0, []),
  (3, .iconst 1, 1, 0, []),
  (4, .iand, 0, 0, []),
  (5, .ifCond .eq 7, 0, 12, []),
  (8, .iconst 1, 1, 0, []),
  (9, .goto 4, 0, 13, []),
  (12, .iconst 0, 0, 0, []),
  (13, .ireturn, 0, 0, [])]
set_option maxRecDepth 20000 in
theorem ckX8_holds : eX8_holds.all (a_eok cX8_holds) = true := b_code [26,27,122,4,126,153,0,7,4,167,0,4,3,172] [] (by decide +kernel) (by decide +kernel) (by decide +kernel) (by decide +kernel)
noncomputable def pX8_holds : aPrg := (eX8_holds,
  fdX8, [], [], [], [], 1, [(13, [0, 1])])
noncomputable def fX8_holds : aMF := a_fn none shp pX8_holds 2 2
set_option maxRecDepth 20000 in
theorem kX8_holds {l : Launch} {G : aG} (hZ : a_Z l G) : a_Con l G shp yX8_holds (.code yX8_holds cX8_holds 2 (some .boolean)) 1 16 fX8_holds :=
  a_mth none hZ.1 hZ.2.1 shp_len (fun _ h => nomatch h) hZ.2.2.1 (by decide +kernel) rfl (foX8 rfl) (a_cok_of trivial) ckX8_holds rfl rfl (trivial) (trivial)
def eX6_troubleOf : List (Nat × aEnt) := [(0, .aload_n 1, 0, 0, []),
  (1, .iload_n 2, 0, 0, []),
  (2, .iaload, 0, 0, []),
  (3, .iload_n 3, 0, 0, []),
  (4, .invokestatic 80, 0, 0, []),
  (7, .ifCond .ne 5, 0, 12, []),
  (10, .iconst 2, 2, 0, []),
  (11, .ireturn, 0, 0, []),
  (12, .aload_n 1, 0, 0, []),
  (13, .iconst 5, 5, 0, []),
  (14, .iaload, 0, 0, []),
  (15, .iload 4, 0, 0, []),
  (17, .invokestatic 80, 0, 0, []),
  (20, .ifCond .ne 5, 0, 25, []),
  (23, .iconst 3, 3, 0, []),
  (24, .ireturn, 0, 0, []),
  (25, .aload_n 0, 0, 0, []),
  (26, .getfield 31, 0, 0, []),
  (29, .iload_n 3, 0, 0, []),
  (30, .iaload, 0, 0, []),
  (31, .iload 4, 0, 0, []),
  (33, .invokestatic 80, 0, 0, []),
  (36, .ifCond .eq 7, 0, 43, []),
  (39, .iconst 0, 0, 0, []),
  (40, .goto 4, 0, 44, []),
  (43, .iconst 4, 4, 0, []),
  (44, .ireturn, 0, 0, [])]
set_option maxRecDepth 20000 in
theorem ckX6_troubleOf : eX6_troubleOf.all (a_eok cX6_troubleOf) = true := b_code [43,28,46,29,184,0,80,154,0,5,5,172,43,8,46,21,4,184,0,80,154,0,5,6,172,42,180,0,31,29,46,21,4,184,0,80,153,0,7,3,167,0,4,7,172] [] (by decide +kernel) (by decide +kernel) (by decide +kernel) (by decide +kernel)
noncomputable def pX6_troubleOf : aPrg := (eX6_troubleOf,
  fdX6, [(80, fX8_holds, 2, 2000, 0)], [], [], [], 0, [(44, [0, 1, 2, 3, 4])])
noncomputable def fX6_troubleOf : aMF := a_fn none shp pX6_troubleOf 5 5
set_option maxRecDepth 20000 in
theorem wkX8_holds : ∀ w ∈ [Cond.code yX8_holds cX8_holds 2 (some .boolean), .initialized yX8_holds.cls, .static yX8_holds], w ∈ lw_g := a_ps [441, 96, 440] rfl rfl
theorem hdX8_holds : yX8_holds.cls ≠ "java/lang/invoke/MethodHandle" ∧ yX8_holds.cls ≠ "java/lang/invoke/VarHandle" ∧ (parseMethodDescriptor yX8_holds.desc).map (fun d => d.parameters.length) = some 2 := by decide +kernel
set_option maxRecDepth 20000 in
theorem kX6_troubleOf {l : Launch} {G : aG} (hZ : a_Z l G) : a_Con l G shp yX6_troubleOf (.code yX6_troubleOf cX6_troubleOf 5 (some .int)) 2 37 fX6_troubleOf :=
  a_mth none hZ.1 hZ.2.1 shp_len (fun _ h => nomatch h) hZ.2.2.1 (by decide +kernel) rfl (foX6 rfl) (a_cok_of trivial) ckX6_troubleOf rfl rfl (trivial) (⟨a_CQ_sn hZ.2.1 (kX8_holds hZ) (a_CF_sn wkX8_holds "StoutShelf" 439 rfl hdX8_holds) (a_fn_nt rfl rfl) rfl rfl,
    trivial⟩)
def eX0_canFollow : List (Nat × aEnt) := [(0, .iconst 3, 3, 0, []),
  (1, .iload_n 2, 0, 0, []),
  (2, .imul, 0, 0, []),
  (3, .istore_n 3, 0, 0, []),
  (4, .iload_n 1, 0, 0, []),
  (5, .iload_n 2, 0, 0, []),
  (6, .ishr, 0, 0, []),
  (7, .iconst 1, 1, 0, []),
  (8, .iand, 0, 0, []),
  (9, .ifCond .ne 52, 0, 61, []),
  (12, .aload_n 0, 0, 0, []),
  (13, .getfield 21, 0, 0, []),
  (16, .aload_n 0, 0, 0, []),
  (17, .getfield 9, 0, 0, []),
  (20, .aload_n 0, 0, 0, []),
  (21, .getfield 25, 0, 0, []),
  (24, .getfield 75, 0, 0, []),
  (27, .iload_n 3, 0, 0, []),
  (28, .iaload, 0, 0, []),
  (29, .aload_n 0, 0, 0, []),
  (30, .getfield 25, 0, 0, []),
  (33, .getfield 75, 0, 0, []),
  (36, .iload_n 3, 0, 0, []),
  (37, .iconst 1, 1, 0, []),
  (38, .iadd, 0, 0, []),
  (39, .iaload, 0, 0, []),
  (40, .aload_n 0, 0, 0, []),
  (41, .getfield 25, 0, 0, []),
  (44, .getfield 75, 0, 0, []),
  (47, .iload_n 3, 0, 0, []),
  (48, .iconst 2, 2, 0, []),
  (49, .iadd, 0, 0, []),
  (50, .iaload, 0, 0, []),
  (51, .invokevirtual 82, 0, 0, []),
  (54, .ifCond .ne 7, 0, 61, []),
  (57, .iconst 1, 1, 0, []),
  (58, .goto 4, 0, 62, []),
  (61, .iconst 0, 0, 0, []),
  (62, .ireturn, 0, 0, [])]
set_option maxRecDepth 20000 in
theorem ckX0_canFollow : eX0_canFollow.all (a_eok cX0_canFollow) = true := b_code [6,28,104,62,27,28,122,4,126,154,0,52,42,180,0,21,42,180,0,9,42,180,0,25,180,0,75,29,46,42,180,0,25,180,0,75,29,4,96,46,42,180,0,25,180,0,75,29,5,96,46,182,0,82,154,0,7,4,167,0,4,3,172] [] (by decide +kernel) (by decide +kernel) (by decide +kernel) (by decide +kernel)
noncomputable def pX0_canFollow : aPrg := (eX0_canFollow,
  fdX0, [(82, fX6_troubleOf, 5, 6, 0)], [], [], [], 1, [(61, [0, 1, 2, 3]), (62, [0, 1, 2, 3])])
noncomputable def fX0_canFollow : aMF := a_fn none shp pX0_canFollow 4 3
set_option maxRecDepth 20000 in
theorem wkX6_troubleOf : ∀ w ∈ [Cond.code yX6_troubleOf cX6_troubleOf 5 (some .int), .initialized yX6_troubleOf.cls, .instanceMethod yX6_troubleOf, .selects yX6_troubleOf.cls yX6_troubleOf yX6_troubleOf], w ∈ lw_g := a_ps [438, 98, 436, 437] rfl rfl
theorem hdX6_troubleOf : yX6_troubleOf.cls ≠ "java/lang/invoke/MethodHandle" ∧ yX6_troubleOf.cls ≠ "java/lang/invoke/VarHandle" ∧ (parseMethodDescriptor yX6_troubleOf.desc).map (fun d => d.parameters.length) = some 4 := by decide +kernel
set_option maxRecDepth 20000 in
theorem lkX0_82 : Cond.methodLink RX0 82 yX6_troubleOf ∈ lw_g := a_p1 549 rfl rfl
set_option maxRecDepth 20000 in
theorem kX0_canFollow {l : Launch} {G : aG} (hZ : a_Z l G) : a_Con l G shp yX0_canFollow (.code yX0_canFollow cX0_canFollow 4 (some .boolean)) 3 61 fX0_canFollow :=
  a_mth none hZ.1 hZ.2.1 shp_len (fun _ h => nomatch h) hZ.2.2.1 (by decide +kernel) rfl (foX0 rfl) (a_cok_of trivial) ckX0_canFollow rfl rfl (trivial) (⟨a_CQ_v hZ.2.1 (kX6_troubleOf hZ) lkX0_82 (a_CF_v TX6 9 wkX6_troubleOf lkX0_82 hdX6_troubleOf ⟨by decide, by decide⟩ rfl) rfl rfl,
    trivial⟩)
def eX0_reckonBefore : List (Nat × aEnt) := [(0, .aload_n 0, 0, 0, []),
  (1, .getfield 15, 0, 0, []),
  (4, .iconst 0, 0, 0, []),
  (5, .invokestatic 59, 0, 0, []),
  (8, .aload_n 0, 0, 0, []),
  (9, .getfield 15, 0, 0, []),
  (12, .iconst 0, 0, 0, []),
  (13, .iconst 1, 1, 0, []),
  (14, .iastore, 0, 0, []),
  (15, .iconst 0, 0, 0, []),
  (16, .istore_n 2, 0, 0, []),
  (17, .iload_n 2, 0, 0, []),
  (18, .iload_n 1, 0, 0, []),
  (19, .if_icmp .ge 70, 0, 89, []),
  (22, .aload_n 0, 0, 0, []),
  (23, .getfield 15, 0, 0, []),
  (26, .iload_n 2, 0, 0, []),
  (27, .iaload, 0, 0, []),
  (28, .ifCond .eq 55, 0, 83, []),
  (31, .aload_n 0, 0, 0, []),
  (32, .iload_n 2, 0, 0, []),
  (33, .invokevirtual 46, 0, 0, []),
  (36, .iconst 0, 0, 0, []),
  (37, .istore_n 3, 0, 0, []),
  (38, .iload_n 3, 0, 0, []),
  (39, .aload_n 0, 0, 0, []),
  (40, .getfield 25, 0, 0, []),
  (43, .getfield 53, 0, 0, []),
  (46, .if_icmp .ge 37, 0, 83, []),
  (49, .aload_n 0, 0, 0, []),
  (50, .iload_n 2, 0, 0, []),
  (51, .iload_n 3, 0, 0, []),
  (52, .invokevirtual 65, 0, 0, []),
  (55, .ifCond .eq 22, 0, 77, []),
  (58, .aload_n 0, 0, 0, []),
  (59, .getfield 15, 0, 0, []),
  (62, .iload_n 2, 0, 0, []),
  (63, .iconst 1, 1, 0, []),
  (64, .iload_n 3, 0, 0, []),
  (65, .ishl, 0, 0, []),
  (66, .ior, 0, 0, []),
  (67, .dup2, 0, 0, []),
  (68, .iaload, 0, 0, []),
  (69, .aload_n 0, 0, 0, []),
  (70, .getfield 15, 0, 0, []),
  (73, .iload_n 2, 0, 0, []),
  (74, .iaload, 0, 0, []),
  (75, .iadd, 0, 0, []),
  (76, .iastore, 0, 0, []),
  (77, .iinc 3 1, 1, 0, []),
  (80, .goto (-42), 0, 38, []),
  (83, .iinc 2 1, 1, 0, []),
  (86, .goto (-69), 0, 17, []),
  (89, .return_, 0, 0, [])]
set_option maxRecDepth 20000 in
theorem ckX0_reckonBefore : eX0_reckonBefore.all (a_eok cX0_reckonBefore) = true := b_code [42,180,0,15,3,184,0,59,42,180,0,15,3,4,79,3,61,28,27,162,0,70,42,180,0,15,28,46,153,0,55,42,28,182,0,46,3,62,29,42,180,0,25,180,0,53,162,0,37,42,28,29,182,0,65,153,0,22,42,180,0,15,28,4,29,120,128,92,46,42,180,0,15,28,46,96,79,132,3,1,167,255,214,132,2,1,167,255,187,177] [] (by decide +kernel) (by decide +kernel) (by decide +kernel) (by decide +kernel)
noncomputable def pX0_reckonBefore : aPrg := (eX0_reckonBefore,
  fdX0, [(59, fJ7_fill_53178, 2, 2000, 1), (46, fX0_goTo, 2, 0, 1), (65, fX0_canFollow, 3, 0, 0)], [], [], [], 2, [(17, [3]), (83, [3])])
noncomputable def fX0_reckonBefore : aMF := a_fn none shp pX0_reckonBefore 4 2
set_option maxRecDepth 20000 in
theorem wkJ7_fill_53178 : ∀ w ∈ [Cond.code yJ7_fill_53178 cJ7_fill_53178 4 none, .initialized yJ7_fill_53178.cls, .static yJ7_fill_53178], w ∈ lw_g := a_ps [538, 110, 537] rfl rfl
theorem hdJ7_fill_53178 : yJ7_fill_53178.cls ≠ "java/lang/invoke/MethodHandle" ∧ yJ7_fill_53178.cls ≠ "java/lang/invoke/VarHandle" ∧ (parseMethodDescriptor yJ7_fill_53178.desc).map (fun d => d.parameters.length) = some 2 := by decide +kernel
set_option maxRecDepth 20000 in
theorem lkX0_59 : Cond.methodLink RX0 59 yJ7_fill_53178 ∈ lw_g := a_p1 536 rfl rfl
set_option maxRecDepth 20000 in
theorem wkX0_goTo : ∀ w ∈ [Cond.code yX0_goTo cX0_goTo 4 none, .initialized yX0_goTo.cls, .instanceMethod yX0_goTo, .selects yX0_goTo.cls yX0_goTo yX0_goTo], w ∈ lw_g := a_ps [542, 104, 541, 11] rfl rfl
theorem hdX0_goTo : yX0_goTo.cls ≠ "java/lang/invoke/MethodHandle" ∧ yX0_goTo.cls ≠ "java/lang/invoke/VarHandle" ∧ (parseMethodDescriptor yX0_goTo.desc).map (fun d => d.parameters.length) = some 1 := by decide +kernel
set_option maxRecDepth 20000 in
theorem lkX0_46 : Cond.methodLink RX0 46 yX0_goTo ∈ lw_g := a_p1 539 rfl rfl
set_option maxRecDepth 20000 in
theorem wkX0_canFollow : ∀ w ∈ [Cond.code yX0_canFollow cX0_canFollow 4 (some .boolean), .initialized yX0_canFollow.cls, .instanceMethod yX0_canFollow, .selects yX0_canFollow.cls yX0_canFollow yX0_canFollow], w ∈ lw_g := a_ps [548, 104, 547, 12] rfl rfl
theorem hdX0_canFollow : yX0_canFollow.cls ≠ "java/lang/invoke/MethodHandle" ∧ yX0_canFollow.cls ≠ "java/lang/invoke/VarHandle" ∧ (parseMethodDescriptor yX0_canFollow.desc).map (fun d => d.parameters.length) = some 2 := by decide +kernel
set_option maxRecDepth 20000 in
theorem lkX0_65 : Cond.methodLink RX0 65 yX0_canFollow ∈ lw_g := a_p1 545 rfl rfl
set_option maxRecDepth 20000 in
theorem kX0_reckonBefore {l : Launch} {G : aG} (hZ : a_Z l G) : a_Con l G shp yX0_reckonBefore (.code yX0_reckonBefore cX0_reckonBefore 4 none) 4 84 fX0_reckonBefore :=
  a_mth none hZ.1 hZ.2.1 shp_len (fun _ h => nomatch h) hZ.2.2.1 (by decide +kernel) rfl (foX0 rfl) (a_cok_of trivial) ckX0_reckonBefore rfl rfl (trivial) (⟨a_CQ_s hZ.2.1 (kJ7_fill_53178 hZ) lkX0_59 (a_CF_s wkJ7_fill_53178 lkX0_59 hdJ7_fill_53178) rfl rfl,
    ⟨a_CQ_v hZ.2.1 (kX0_goTo hZ) lkX0_46 (a_CF_v TX0 5 wkX0_goTo lkX0_46 hdX0_goTo ⟨by decide, by decide⟩ rfl) rfl rfl,
    ⟨a_CQ_v hZ.2.1 (kX0_canFollow hZ) lkX0_65 (a_CF_v TX0 5 wkX0_canFollow lkX0_65 hdX0_canFollow ⟨by decide, by decide⟩ rfl) rfl rfl,
    trivial⟩⟩⟩)
def eX0_ordersOfAll : List (Nat × aEnt) := [(0, .aload_n 0, 0, 0, []),
  (1, .invokevirtual 29, 0, 0, []),
  (4, .istore_n 1, 0, 0, []),
  (5, .aload_n 0, 0, 0, []),
  (6, .iload_n 1, 0, 0, []),
  (7, .invokevirtual 33, 0, 0, []),
  (10, .aload_n 0, 0, 0, []),
  (11, .getfield 15, 0, 0, []),
  (14, .iload_n 1, 0, 0, []),
  (15, .iaload, 0, 0, []),
  (16, .ireturn, 0, 0, [])]
set_option maxRecDepth 20000 in
theorem ckX0_ordersOfAll : eX0_ordersOfAll.all (a_eok cX0_ordersOfAll) = true := b_code [42,182,0,29,60,42,27,182,0,33,42,180,0,15,27,46,172] [] (by decide +kernel) (by decide +kernel) (by decide +kernel) (by decide +kernel)
noncomputable def pX0_ordersOfAll : aPrg := (eX0_ordersOfAll,
  fdX0, [(29, fX0_allEvents, 1, 0, 0), (33, fX0_reckonBefore, 2, 0, 1)], [], [], [], 0, [])
noncomputable def fX0_ordersOfAll : aMF := a_fn none shp pX0_ordersOfAll 2 1
set_option maxRecDepth 20000 in
theorem wkX0_allEvents : ∀ w ∈ [Cond.code yX0_allEvents cX0_allEvents 1 (some .int), .initialized yX0_allEvents.cls, .instanceMethod yX0_allEvents, .selects yX0_allEvents.cls yX0_allEvents yX0_allEvents], w ∈ lw_g := a_ps [531, 104, 530, 9] rfl rfl
theorem hdX0_allEvents : yX0_allEvents.cls ≠ "java/lang/invoke/MethodHandle" ∧ yX0_allEvents.cls ≠ "java/lang/invoke/VarHandle" ∧ (parseMethodDescriptor yX0_allEvents.desc).map (fun d => d.parameters.length) = some 0 := by decide +kernel
set_option maxRecDepth 20000 in
theorem lkX0_29 : Cond.methodLink RX0 29 yX0_allEvents ∈ lw_g := a_p1 528 rfl rfl
set_option maxRecDepth 20000 in
theorem wkX0_reckonBefore : ∀ w ∈ [Cond.code yX0_reckonBefore cX0_reckonBefore 4 none, .initialized yX0_reckonBefore.cls, .instanceMethod yX0_reckonBefore, .selects yX0_reckonBefore.cls yX0_reckonBefore yX0_reckonBefore], w ∈ lw_g := a_ps [535, 104, 534, 10] rfl rfl
theorem hdX0_reckonBefore : yX0_reckonBefore.cls ≠ "java/lang/invoke/MethodHandle" ∧ yX0_reckonBefore.cls ≠ "java/lang/invoke/VarHandle" ∧ (parseMethodDescriptor yX0_reckonBefore.desc).map (fun d => d.parameters.length) = some 1 := by decide +kernel
set_option maxRecDepth 20000 in
theorem lkX0_33 : Cond.methodLink RX0 33 yX0_reckonBefore ∈ lw_g := a_p1 532 rfl rfl
set_option maxRecDepth 20000 in
theorem kX0_ordersOfAll {l : Launch} {G : aG} (hZ : a_Z l G) : a_Con l G shp yX0_ordersOfAll (.code yX0_ordersOfAll cX0_ordersOfAll 2 (some .int)) 5 107 fX0_ordersOfAll :=
  a_mth none hZ.1 hZ.2.1 shp_len (fun _ h => nomatch h) hZ.2.2.1 (by decide +kernel) rfl (foX0 rfl) (a_cok_of trivial) ckX0_ordersOfAll rfl rfl (trivial) (⟨a_CQ_v hZ.2.1 (kX0_allEvents hZ) lkX0_29 (a_CF_v TX0 5 wkX0_allEvents lkX0_29 hdX0_allEvents ⟨by decide, by decide⟩ rfl) rfl rfl,
    ⟨a_CQ_v hZ.2.1 (kX0_reckonBefore hZ) lkX0_33 (a_CF_v TX0 5 wkX0_reckonBefore lkX0_33 hdX0_reckonBefore ⟨by decide, by decide⟩ rfl) rfl rfl,
    trivial⟩⟩)
def eX0_reckonBehind : List (Nat × aEnt) := [(0, .aload_n 0, 0, 0, []),
  (1, .getfield 18, 0, 0, []),
  (4, .iconst 0, 0, 0, []),
  (5, .invokestatic 59, 0, 0, []),
  (8, .aload_n 0, 0, 0, []),
  (9, .getfield 18, 0, 0, []),
  (12, .iload_n 1, 0, 0, []),
  (13, .iconst 1, 1, 0, []),
  (14, .iastore, 0, 0, []),
  (15, .iload_n 1, 0, 0, []),
  (16, .iconst 1, 1, 0, []),
  (17, .isub, 0, 0, []),
  (18, .istore_n 2, 0, 0, []),
  (19, .iload_n 2, 0, 0, []),
  (20, .ifCond .lt 61, 0, 81, []),
  (23, .aload_n 0, 0, 0, []),
  (24, .iload_n 2, 0, 0, []),
  (25, .invokevirtual 46, 0, 0, []),
  (28, .iconst 0, 0, 0, []),
  (29, .istore_n 3, 0, 0, []),
  (30, .iload_n 3, 0, 0, []),
  (31, .aload_n 0, 0, 0, []),
  (32, .getfield 25, 0, 0, []),
  (35, .getfield 53, 0, 0, []),
  (38, .if_icmp .ge 37, 0, 75, []),
  (41, .aload_n 0, 0, 0, []),
  (42, .iload_n 2, 0, 0, []),
  (43, .iload_n 3, 0, 0, []),
  (44, .invokevirtual 65, 0, 0, []),
  (47, .ifCond .eq 22, 0, 69, []),
  (50, .aload_n 0, 0, 0, []),
  (51, .getfield 18, 0, 0, []),
  (54, .iload_n 2, 0, 0, []),
  (55, .dup2, 0, 0, []),
  (56, .iaload, 0, 0, []),
  (57, .aload_n 0, 0, 0, []),
  (58, .getfield 18, 0, 0, []),
  (61, .iload_n 2, 0, 0, []),
  (62, .iconst 1, 1, 0, []),
  (63, .iload_n 3, 0, 0, []),
  (64, .ishl, 0, 0, []),
  (65, .ior, 0, 0, []),
  (66, .iaload, 0, 0, []),
  (67, .iadd, 0, 0, []),
  (68, .iastore, 0, 0, []),
  (69, .iinc 3 1, 1, 0, []),
  (72, .goto (-42), 0, 30, []),
  (75, .iinc 2 (-1), (-1), 0, []),
  (78, .goto (-59), 0, 19, []),
  (81, .return_, 0, 0, [])]
set_option maxRecDepth 20000 in
theorem ckX0_reckonBehind : eX0_reckonBehind.all (a_eok cX0_reckonBehind) = true := b_code [42,180,0,18,3,184,0,59,42,180,0,18,27,4,79,27,4,100,61,28,155,0,61,42,28,182,0,46,3,62,29,42,180,0,25,180,0,53,162,0,37,42,28,29,182,0,65,153,0,22,42,180,0,18,28,92,46,42,180,0,18,28,4,29,120,128,46,96,79,132,3,1,167,255,214,132,2,255,167,255,197,177] [] (by decide +kernel) (by decide +kernel) (by decide +kernel) (by decide +kernel)
noncomputable def pX0_reckonBehind : aPrg := (eX0_reckonBehind,
  fdX0, [(59, fJ7_fill_53178, 2, 2000, 1), (46, fX0_goTo, 2, 0, 1), (65, fX0_canFollow, 3, 0, 0)], [], [], [], 2, [(19, [1, 3]), (30, [1]), (69, [1])])
noncomputable def fX0_reckonBehind : aMF := a_fn none shp pX0_reckonBehind 4 2
set_option maxRecDepth 20000 in
theorem kX0_reckonBehind {l : Launch} {G : aG} (hZ : a_Z l G) : a_Con l G shp yX0_reckonBehind (.code yX0_reckonBehind cX0_reckonBehind 4 none) 4 84 fX0_reckonBehind :=
  a_mth none hZ.1 hZ.2.1 shp_len (fun _ h => nomatch h) hZ.2.2.1 (by decide +kernel) rfl (foX0 rfl) (a_cok_of trivial) ckX0_reckonBehind rfl rfl (trivial) (⟨a_CQ_s hZ.2.1 (kJ7_fill_53178 hZ) lkX0_59 (a_CF_s wkJ7_fill_53178 lkX0_59 hdJ7_fill_53178) rfl rfl,
    ⟨a_CQ_v hZ.2.1 (kX0_goTo hZ) lkX0_46 (a_CF_v TX0 5 wkX0_goTo lkX0_46 hdX0_goTo ⟨by decide, by decide⟩ rfl) rfl rfl,
    ⟨a_CQ_v hZ.2.1 (kX0_canFollow hZ) lkX0_65 (a_CF_v TX0 5 wkX0_canFollow lkX0_65 hdX0_canFollow ⟨by decide, by decide⟩ rfl) rfl rfl,
    trivial⟩⟩⟩)
def eJ6_bitCount_0f7a4 : List (Nat × aEnt) := [(0, .iload_n 0, 0, 0, []),
  (1, .iload_n 0, 0, 0, []),
  (2, .iconst 1, 1, 0, []),
  (3, .iushr, 0, 0, []),
  (4, .ldc_w 265, 0, 0, []),
  (7, .iand, 0, 0, []),
  (8, .isub, 0, 0, []),
  (9, .istore_n 0, 0, 0, []),
  (10, .iload_n 0, 0, 0, []),
  (11, .ldc_w 266, 0, 0, []),
  (14, .iand, 0, 0, []),
  (15, .iload_n 0, 0, 0, []),
  (16, .iconst 2, 2, 0, []),
  (17, .iushr, 0, 0, []),
  (18, .ldc_w 266, 0, 0, []),
  (21, .iand, 0, 0, []),
  (22, .iadd, 0, 0, []),
  (23, .istore_n 0, 0, 0, []),
  (24, .iload_n 0, 0, 0, []),
  (25, .iload_n 0, 0, 0, []),
  (26, .iconst 4, 4, 0, []),
  (27, .iushr, 0, 0, []),
  (28, .iadd, 0, 0, []),
  (29, .ldc_w 267, 0, 0, []),
  (32, .iand, 0, 0, []),
  (33, .istore_n 0, 0, 0, []),
  (34, .iload_n 0, 0, 0, []),
  (35, .iload_n 0, 0, 0, []),
  (36, .bipush 8, 8, 0, []),
  (38, .iushr, 0, 0, []),
  (39, .iadd, 0, 0, []),
  (40, .istore_n 0, 0, 0, []),
  (41, .iload_n 0, 0, 0, []),
  (42, .iload_n 0, 0, 0, []),
  (43, .bipush 16, 16, 0, []),
  (45, .iushr, 0, 0, []),
  (46, .iadd, 0, 0, []),
  (47, .istore_n 0, 0, 0, []),
  (48, .iload_n 0, 0, 0, []),
  (49, .bipush 63, 63, 0, []),
  (51, .iand, 0, 0, []),
  (52, .ireturn, 0, 0, [])]
set_option maxRecDepth 20000 in
theorem ckJ6_bitCount_0f7a4 : eJ6_bitCount_0f7a4.all (a_eok cJ6_bitCount_0f7a4) = true := b_code [26,26,4,124,19,1,9,126,100,59,26,19,1,10,126,26,5,124,19,1,10,126,96,59,26,26,7,124,96,19,1,11,126,59,26,26,16,8,124,96,59,26,26,16,16,124,96,59,26,16,63,126,172] [] (by decide +kernel) (by decide +kernel) (by decide +kernel) (by decide +kernel)
noncomputable def pJ6_bitCount_0f7a4 : aPrg := (eJ6_bitCount_0f7a4,
  [], [], [(265, .int (1431655765 : Int32)), (266, .int (858993459 : Int32)), (267, .int (252645135 : Int32))], [], [], 0, [])
noncomputable def fJ6_bitCount_0f7a4 : aMF := a_fn none shp pJ6_bitCount_0f7a4 1 1
set_option maxRecDepth 20000 in
theorem kJ6_bitCount_0f7a4 {l : Launch} {G : aG} (hZ : a_Z l G) : a_Con l G shp yJ6_bitCount_0f7a4 (.code yJ6_bitCount_0f7a4 cJ6_bitCount_0f7a4 1 (some .int)) 1 16 fJ6_bitCount_0f7a4 :=
  a_mtj none hZ.1 hZ.2.1 shp_len (fun _ h => nomatch h) hZ.2.2.1 (by decide +kernel) rfl (a_fok_of [] rfl rfl) (a_cok_of ⟨a_p1 561 rfl rfl, ⟨a_p1 562 rfl rfl, ⟨a_p1 563 rfl rfl, trivial⟩⟩⟩) ckJ6_bitCount_0f7a4 rfl rfl rfl rfl
def eX0_ordersWith : List (Nat × aEnt) := [(0, .aload_n 0, 0, 0, []),
  (1, .invokevirtual 29, 0, 0, []),
  (4, .istore_n 3, 0, 0, []),
  (5, .aload_n 0, 0, 0, []),
  (6, .iload_n 3, 0, 0, []),
  (7, .invokevirtual 33, 0, 0, []),
  (10, .aload_n 0, 0, 0, []),
  (11, .iload_n 3, 0, 0, []),
  (12, .invokevirtual 37, 0, 0, []),
  (15, .iconst 0, 0, 0, []),
  (16, .istore 4, 0, 0, []),
  (18, .iconst 0, 0, 0, []),
  (19, .istore 5, 0, 0, []),
  (21, .iload 5, 0, 0, []),
  (23, .iload_n 3, 0, 0, []),
  (24, .if_icmp .gt 61, 0, 85, []),
  (27, .iload 5, 0, 0, []),
  (29, .invokestatic 40, 0, 0, []),
  (32, .iload_n 2, 0, 0, []),
  (33, .if_icmp .ne 46, 0, 79, []),
  (36, .aload_n 0, 0, 0, []),
  (37, .iload 5, 0, 0, []),
  (39, .invokevirtual 46, 0, 0, []),
  (42, .iload 4, 0, 0, []),
  (44, .aload_n 0, 0, 0, []),
  (45, .getfield 9, 0, 0, []),
  (48, .iconst 5, 5, 0, []),
  (49, .iaload, 0, 0, []),
  (50, .iload_n 1, 0, 0, []),
  (51, .invokestatic 49, 0, 0, []),
  (54, .ifCond .eq 21, 0, 75, []),
  (57, .aload_n 0, 0, 0, []),
  (58, .getfield 15, 0, 0, []),
  (61, .iload 5, 0, 0, []),
  (63, .iaload, 0, 0, []),
  (64, .aload_n 0, 0, 0, []),
  (65, .getfield 18, 0, 0, []),
  (68, .iload 5, 0, 0, []),
  (70, .iaload, 0, 0, []),
  (71, .imul, 0, 0, []),
  (72, .goto 4, 0, 76, []),
  (75, .iconst 0, 0, 0, []),
  (76, .iadd, 0, 0, []),
  (77, .istore 4, 0, 0, []),
  (79, .iinc 5 1, 1, 0, []),
  (82, .goto (-61), 0, 21, []),
  (85, .iload 4, 0, 0, []),
  (87, .ireturn, 0, 0, [])]
set_option maxRecDepth 20000 in
theorem ckX0_ordersWith : eX0_ordersWith.all (a_eok cX0_ordersWith) = true := b_code [42,182,0,29,62,42,29,182,0,33,42,29,182,0,37,3,54,4,3,54,5,21,5,29,163,0,61,21,5,184,0,40,28,160,0,46,42,21,5,182,0,46,21,4,42,180,0,9,8,46,27,184,0,49,153,0,21,42,180,0,15,21,5,46,42,180,0,18,21,5,46,104,167,0,4,3,96,54,4,132,5,1,167,255,195,21,4,172] [] (by decide +kernel) (by decide +kernel) (by decide +kernel) (by decide +kernel)
noncomputable def pX0_ordersWith : aPrg := (eX0_ordersWith,
  fdX0, [(29, fX0_allEvents, 1, 0, 0), (33, fX0_reckonBefore, 2, 0, 1), (37, fX0_reckonBehind, 2, 0, 1), (40, fJ6_bitCount_0f7a4, 1, 2000, 0), (46, fX0_goTo, 2, 0, 1), (49, fX8_holds, 2, 2000, 0)], [], [], [], 0, [(76, [4])])
noncomputable def fX0_ordersWith : aMF := a_fn none shp pX0_ordersWith 6 3
set_option maxRecDepth 20000 in
theorem wkX0_reckonBehind : ∀ w ∈ [Cond.code yX0_reckonBehind cX0_reckonBehind 4 none, .initialized yX0_reckonBehind.cls, .instanceMethod yX0_reckonBehind, .selects yX0_reckonBehind.cls yX0_reckonBehind yX0_reckonBehind], w ∈ lw_g := a_ps [1099, 104, 1098, 50] rfl rfl
theorem hdX0_reckonBehind : yX0_reckonBehind.cls ≠ "java/lang/invoke/MethodHandle" ∧ yX0_reckonBehind.cls ≠ "java/lang/invoke/VarHandle" ∧ (parseMethodDescriptor yX0_reckonBehind.desc).map (fun d => d.parameters.length) = some 1 := by decide +kernel
set_option maxRecDepth 20000 in
theorem lkX0_37 : Cond.methodLink RX0 37 yX0_reckonBehind ∈ lw_g := a_p1 1096 rfl rfl
set_option maxRecDepth 20000 in
theorem wkJ6_bitCount_0f7a4 : ∀ w ∈ [Cond.code yJ6_bitCount_0f7a4 cJ6_bitCount_0f7a4 1 (some .int), .initialized yJ6_bitCount_0f7a4.cls, .static yJ6_bitCount_0f7a4], w ∈ lw_g := a_ps [560, 118, 559] rfl rfl
theorem hdJ6_bitCount_0f7a4 : yJ6_bitCount_0f7a4.cls ≠ "java/lang/invoke/MethodHandle" ∧ yJ6_bitCount_0f7a4.cls ≠ "java/lang/invoke/VarHandle" ∧ (parseMethodDescriptor yJ6_bitCount_0f7a4.desc).map (fun d => d.parameters.length) = some 1 := by decide +kernel
set_option maxRecDepth 20000 in
theorem lkX0_40 : Cond.methodLink RX0 40 yJ6_bitCount_0f7a4 ∈ lw_g := a_p1 558 rfl rfl
set_option maxRecDepth 20000 in
theorem kX0_ordersWith {l : Launch} {G : aG} (hZ : a_Z l G) : a_Con l G shp yX0_ordersWith (.code yX0_ordersWith cX0_ordersWith 6 (some .int)) 5 107 fX0_ordersWith :=
  a_mth none hZ.1 hZ.2.1 shp_len (fun _ h => nomatch h) hZ.2.2.1 (by decide +kernel) rfl (foX0 rfl) (a_cok_of trivial) ckX0_ordersWith rfl rfl (trivial) (⟨a_CQ_v hZ.2.1 (kX0_allEvents hZ) lkX0_29 (a_CF_v TX0 5 wkX0_allEvents lkX0_29 hdX0_allEvents ⟨by decide, by decide⟩ rfl) rfl rfl,
    ⟨a_CQ_v hZ.2.1 (kX0_reckonBefore hZ) lkX0_33 (a_CF_v TX0 5 wkX0_reckonBefore lkX0_33 hdX0_reckonBefore ⟨by decide, by decide⟩ rfl) rfl rfl,
    ⟨a_CQ_v hZ.2.1 (kX0_reckonBehind hZ) lkX0_37 (a_CF_v TX0 5 wkX0_reckonBehind lkX0_37 hdX0_reckonBehind ⟨by decide, by decide⟩ rfl) rfl rfl,
    ⟨a_CQ_s hZ.2.1 (kJ6_bitCount_0f7a4 hZ) lkX0_40 (a_CF_s wkJ6_bitCount_0f7a4 lkX0_40 hdJ6_bitCount_0f7a4) rfl rfl,
    ⟨a_CQ_v hZ.2.1 (kX0_goTo hZ) lkX0_46 (a_CF_v TX0 5 wkX0_goTo lkX0_46 hdX0_goTo ⟨by decide, by decide⟩ rfl) rfl rfl,
    ⟨a_CQ_sn hZ.2.1 (kX8_holds hZ) (a_CF_sn wkX8_holds "StoutShelf" 1100 rfl hdX8_holds) (a_fn_nt rfl rfl) rfl rfl,
    trivial⟩⟩⟩⟩⟩⟩)
def eX0_smallestKnot : List (Nat × aEnt) := [(0, .aload_n 0, 0, 0, []),
  (1, .invokevirtual 29, 0, 0, []),
  (4, .istore_n 1, 0, 0, []),
  (5, .aload_n 0, 0, 0, []),
  (6, .iload_n 1, 0, 0, []),
  (7, .invokevirtual 33, 0, 0, []),
  (10, .iconst (-1), (-1), 0, []),
  (11, .istore_n 2, 0, 0, []),
  (12, .iconst 0, 0, 0, []),
  (13, .istore_n 3, 0, 0, []),
  (14, .iload_n 3, 0, 0, []),
  (15, .iload_n 1, 0, 0, []),
  (16, .if_icmp .gt 48, 0, 64, []),
  (19, .iload_n 2, 0, 0, []),
  (20, .iconst (-1), (-1), 0, []),
  (21, .if_icmp .eq 14, 0, 35, []),
  (24, .iload_n 3, 0, 0, []),
  (25, .invokestatic 40, 0, 0, []),
  (28, .iload_n 2, 0, 0, []),
  (29, .invokestatic 40, 0, 0, []),
  (32, .if_icmp .ge 7, 0, 39, []),
  (35, .iconst 1, 1, 0, []),
  (36, .goto 4, 0, 40, []),
  (39, .iconst 0, 0, 0, []),
  (40, .istore 4, 0, 0, []),
  (42, .aload_n 0, 0, 0, []),
  (43, .getfield 15, 0, 0, []),
  (46, .iload_n 3, 0, 0, []),
  (47, .iaload, 0, 0, []),
  (48, .ifCond .ne 10, 0, 58, []),
  (51, .iload 4, 0, 0, []),
  (53, .ifCond .eq 5, 0, 58, []),
  (56, .iload_n 3, 0, 0, []),
  (57, .istore_n 2, 0, 0, []),
  (58, .iinc 3 1, 1, 0, []),
  (61, .goto (-47), 0, 14, []),
  (64, .iload_n 2, 0, 0, []),
  (65, .ireturn, 0, 0, [])]
set_option maxRecDepth 20000 in
theorem ckX0_smallestKnot : eX0_smallestKnot.all (a_eok cX0_smallestKnot) = true := b_code [42,182,0,29,60,42,27,182,0,33,2,61,3,62,29,27,163,0,48,28,2,159,0,14,29,184,0,40,28,184,0,40,162,0,7,4,167,0,4,3,54,4,42,180,0,15,29,46,154,0,10,21,4,153,0,5,29,61,132,3,1,167,255,209,28,172] [] (by decide +kernel) (by decide +kernel) (by decide +kernel) (by decide +kernel)
noncomputable def pX0_smallestKnot : aPrg := (eX0_smallestKnot,
  fdX0, [(29, fX0_allEvents, 1, 0, 0), (33, fX0_reckonBefore, 2, 0, 1), (40, fJ6_bitCount_0f7a4, 1, 2000, 0)], [], [], [], 0, [(14, [4]), (35, [4]), (40, [4]), (58, [4])])
noncomputable def fX0_smallestKnot : aMF := a_fn none shp pX0_smallestKnot 5 1
set_option maxRecDepth 20000 in
theorem kX0_smallestKnot {l : Launch} {G : aG} (hZ : a_Z l G) : a_Con l G shp yX0_smallestKnot (.code yX0_smallestKnot cX0_smallestKnot 5 (some .int)) 5 107 fX0_smallestKnot :=
  a_mth none hZ.1 hZ.2.1 shp_len (fun _ h => nomatch h) hZ.2.2.1 (by decide +kernel) rfl (foX0 rfl) (a_cok_of trivial) ckX0_smallestKnot rfl rfl (trivial) (⟨a_CQ_v hZ.2.1 (kX0_allEvents hZ) lkX0_29 (a_CF_v TX0 5 wkX0_allEvents lkX0_29 hdX0_allEvents ⟨by decide, by decide⟩ rfl) rfl rfl,
    ⟨a_CQ_v hZ.2.1 (kX0_reckonBefore hZ) lkX0_33 (a_CF_v TX0 5 wkX0_reckonBefore lkX0_33 hdX0_reckonBefore ⟨by decide, by decide⟩ rfl) rfl rfl,
    ⟨a_CQ_s hZ.2.1 (kJ6_bitCount_0f7a4 hZ) lkX0_40 (a_CF_s wkJ6_bitCount_0f7a4 lkX0_40 hdJ6_bitCount_0f7a4) rfl rfl,
    trivial⟩⟩⟩)
def eX1_clear : List (Nat × aEnt) := [(0, .aload_n 0, 0, 0, []),
  (1, .iconst 0, 0, 0, []),
  (2, .putfield 18, 0, 0, []),
  (5, .return_, 0, 0, [])]
set_option maxRecDepth 20000 in
theorem ckX1_clear : eX1_clear.all (a_eok cX1_clear) = true := b_code [42,3,181,0,18,177] [] (by decide +kernel) (by decide +kernel) (by decide +kernel) (by decide +kernel)
noncomputable def pX1_clear : aPrg := (eX1_clear,
  fdX1, [], [], [], [], 2, [])
noncomputable def fX1_clear : aMF := a_fn none shp pX1_clear 1 1
set_option maxRecDepth 20000 in
theorem kX1_clear {l : Launch} {G : aG} (hZ : a_Z l G) : a_Con l G shp yX1_clear (.code yX1_clear cX1_clear 1 none) 1 16 fX1_clear :=
  a_mth none hZ.1 hZ.2.1 shp_len (fun _ h => nomatch h) hZ.2.2.1 (by decide +kernel) rfl (foX1 rfl) (a_cok_of trivial) ckX1_clear rfl rfl (trivial) (trivial)
def eX1_add : List (Nat × aEnt) := [(0, .aload_n 0, 0, 0, []),
  (1, .getfield 18, 0, 0, []),
  (4, .sipush 700, 700, 0, []),
  (7, .if_icmp .ge 23, 0, 30, []),
  (10, .aload_n 0, 0, 0, []),
  (11, .getfield 9, 0, 0, []),
  (14, .aload_n 0, 0, 0, []),
  (15, .getfield 18, 0, 0, []),
  (18, .iload_n 1, 0, 0, []),
  (19, .iastore, 0, 0, []),
  (20, .aload_n 0, 0, 0, []),
  (21, .dup, 0, 0, []),
  (22, .getfield 18, 0, 0, []),
  (25, .iconst 1, 1, 0, []),
  (26, .iadd, 0, 0, []),
  (27, .putfield 18, 0, 0, []),
  (30, .return_, 0, 0, [])]
set_option maxRecDepth 20000 in
theorem ckX1_add : eX1_add.all (a_eok cX1_add) = true := b_code [42,180,0,18,17,2,188,162,0,23,42,180,0,9,42,180,0,18,27,79,42,89,180,0,18,4,96,181,0,18,177] [] (by decide +kernel) (by decide +kernel) (by decide +kernel) (by decide +kernel)
noncomputable def pX1_add : aPrg := (eX1_add,
  fdX1, [], [], [], [], 2, [(30, [0, 1])])
noncomputable def fX1_add : aMF := a_fn none shp pX1_add 2 2
set_option maxRecDepth 20000 in
theorem kX1_add {l : Launch} {G : aG} (hZ : a_Z l G) : a_Con l G shp yX1_add (.code yX1_add cX1_add 2 none) 1 16 fX1_add :=
  a_mth none hZ.1 hZ.2.1 shp_len (fun _ h => nomatch h) hZ.2.2.1 (by decide +kernel) rfl (foX1 rfl) (a_cok_of trivial) ckX1_add rfl rfl (trivial) (trivial)
def eX1_take : List (Nat × aEnt) := [(0, .aload_n 0, 0, 0, []),
  (1, .aload_n 1, 0, 0, []),
  (2, .getfield 18, 0, 0, []),
  (5, .putfield 18, 0, 0, []),
  (8, .aload_n 1, 0, 0, []),
  (9, .getfield 9, 0, 0, []),
  (12, .iconst 0, 0, 0, []),
  (13, .aload_n 0, 0, 0, []),
  (14, .getfield 9, 0, 0, []),
  (17, .iconst 0, 0, 0, []),
  (18, .sipush 700, 700, 0, []),
  (21, .invokestatic 22, 0, 0, []),
  (24, .return_, 0, 0, [])]
set_option maxRecDepth 20000 in
theorem ckX1_take : eX1_take.all (a_eok cX1_take) = true := b_code [42,43,180,0,18,181,0,18,43,180,0,9,3,42,180,0,9,3,17,2,188,184,0,22,177] [] (by decide +kernel) (by decide +kernel) (by decide +kernel) (by decide +kernel)
noncomputable def pX1_take : aPrg := (eX1_take,
  fdX1, [(22, a_acp, 5, 2000, 1)], [], [], [], 2, [])
noncomputable def fX1_take : aMF := a_fn none shp pX1_take 2 2
set_option maxRecDepth 20000 in
theorem kX1_take {l : Launch} {G : aG} (hZ : a_Z l G) : a_Con l G shp yX1_take (.code yX1_take cX1_take 2 none) 2 60 fX1_take :=
  a_mth none hZ.1 hZ.2.1 shp_len (fun _ h => nomatch h) hZ.2.2.1 (by decide +kernel) rfl (foX1 rfl) (a_cok_of trivial) ckX1_take rfl rfl (trivial) (⟨q_acp hZ 851 rfl rfl rfl,
    trivial⟩)
def eX1_push : List (Nat × aEnt) := [(0, .aload_n 0, 0, 0, []),
  (1, .getfield 28, 0, 0, []),
  (4, .bipush 64, 64, 0, []),
  (6, .if_icmp .ge 23, 0, 29, []),
  (9, .aload_n 0, 0, 0, []),
  (10, .getfield 15, 0, 0, []),
  (13, .aload_n 0, 0, 0, []),
  (14, .getfield 28, 0, 0, []),
  (17, .iload_n 1, 0, 0, []),
  (18, .iastore, 0, 0, []),
  (19, .aload_n 0, 0, 0, []),
  (20, .dup, 0, 0, []),
  (21, .getfield 28, 0, 0, []),
  (24, .iconst 1, 1, 0, []),
  (25, .iadd, 0, 0, []),
  (26, .putfield 28, 0, 0, []),
  (29, .return_, 0, 0, [])]
set_option maxRecDepth 20000 in
theorem ckX1_push : eX1_push.all (a_eok cX1_push) = true := b_code [42,180,0,28,16,64,162,0,23,42,180,0,15,42,180,0,28,27,79,42,89,180,0,28,4,96,181,0,28,177] [] (by decide +kernel) (by decide +kernel) (by decide +kernel) (by decide +kernel)
noncomputable def pX1_push : aPrg := (eX1_push,
  fdX1, [], [], [], [], 2, [(29, [0, 1])])
noncomputable def fX1_push : aMF := a_fn none shp pX1_push 2 2
set_option maxRecDepth 20000 in
theorem kX1_push {l : Launch} {G : aG} (hZ : a_Z l G) : a_Con l G shp yX1_push (.code yX1_push cX1_push 2 none) 1 16 fX1_push :=
  a_mth none hZ.1 hZ.2.1 shp_len (fun _ h => nomatch h) hZ.2.2.1 (by decide +kernel) rfl (foX1 rfl) (a_cok_of trivial) ckX1_push rfl rfl (trivial) (trivial)
def eX1_bit : List (Nat × aEnt) := [(0, .iload_n 0, 0, 0, []),
  (1, .ifCond .eq 7, 0, 8, []),
  (4, .iconst 1, 1, 0, []),
  (5, .goto 4, 0, 9, []),
  (8, .iconst 0, 0, 0, []),
  (9, .ireturn, 0, 0, [])]
set_option maxRecDepth 20000 in
theorem ckX1_bit : eX1_bit.all (a_eok cX1_bit) = true := b_code [26,153,0,7,4,167,0,4,3,172] [] (by decide +kernel) (by decide +kernel) (by decide +kernel) (by decide +kernel)
noncomputable def pX1_bit : aPrg := (eX1_bit,
  fdX1, [], [], [], [], 0, [(9, [0])])
noncomputable def fX1_bit : aMF := a_fn none shp pX1_bit 1 1
set_option maxRecDepth 20000 in
theorem kX1_bit {l : Launch} {G : aG} (hZ : a_Z l G) : a_Con l G shp yX1_bit (.code yX1_bit cX1_bit 1 (some .int)) 1 16 fX1_bit :=
  a_mth none hZ.1 hZ.2.1 shp_len (fun _ h => nomatch h) hZ.2.2.1 (by decide +kernel) rfl (foX1 rfl) (a_cok_of trivial) ckX1_bit rfl rfl (trivial) (trivial)
def eX1_turn : List (Nat × aEnt) := [(0, .aload_n 0, 0, 0, []),
  (1, .getfield 28, 0, 0, []),
  (4, .iconst 1, 1, 0, []),
  (5, .if_icmp .lt 36, 0, 41, []),
  (8, .aload_n 0, 0, 0, []),
  (9, .getfield 15, 0, 0, []),
  (12, .aload_n 0, 0, 0, []),
  (13, .getfield 28, 0, 0, []),
  (16, .iconst 1, 1, 0, []),
  (17, .isub, 0, 0, []),
  (18, .aload_n 0, 0, 0, []),
  (19, .getfield 15, 0, 0, []),
  (22, .aload_n 0, 0, 0, []),
  (23, .getfield 28, 0, 0, []),
  (26, .iconst 1, 1, 0, []),
  (27, .isub, 0, 0, []),
  (28, .iaload, 0, 0, []),
  (29, .ifCond .ne 7, 0, 36, []),
  (32, .iconst 1, 1, 0, []),
  (33, .goto 4, 0, 37, []),
  (36, .iconst 0, 0, 0, []),
  (37, .invokestatic 44, 0, 0, []),
  (40, .iastore, 0, 0, []),
  (41, .return_, 0, 0, [])]
set_option maxRecDepth 20000 in
theorem ckX1_turn : eX1_turn.all (a_eok cX1_turn) = true := b_code [42,180,0,28,4,161,0,36,42,180,0,15,42,180,0,28,4,100,42,180,0,15,42,180,0,28,4,100,46,154,0,7,4,167,0,4,3,184,0,44,79,177] [] (by decide +kernel) (by decide +kernel) (by decide +kernel) (by decide +kernel)
noncomputable def pX1_turn : aPrg := (eX1_turn,
  fdX1, [(44, fX1_bit, 1, 2000, 0)], [], [], [], 2, [(37, [0]), (41, [0])])
noncomputable def fX1_turn : aMF := a_fn none shp pX1_turn 1 1
set_option maxRecDepth 20000 in
theorem wkX1_bit : ∀ w ∈ [Cond.code yX1_bit cX1_bit 1 (some .int), .initialized yX1_bit.cls, .static yX1_bit], w ∈ lw_g := a_ps [875, 99, 874] rfl rfl
theorem hdX1_bit : yX1_bit.cls ≠ "java/lang/invoke/MethodHandle" ∧ yX1_bit.cls ≠ "java/lang/invoke/VarHandle" ∧ (parseMethodDescriptor yX1_bit.desc).map (fun d => d.parameters.length) = some 1 := by decide +kernel
set_option maxRecDepth 20000 in
theorem lkX1_44 : Cond.methodLink RX1 44 yX1_bit ∈ lw_g := a_p1 873 rfl rfl
set_option maxRecDepth 20000 in
theorem kX1_turn {l : Launch} {G : aG} (hZ : a_Z l G) : a_Con l G shp yX1_turn (.code yX1_turn cX1_turn 1 none) 2 36 fX1_turn :=
  a_mth none hZ.1 hZ.2.1 shp_len (fun _ h => nomatch h) hZ.2.2.1 (by decide +kernel) rfl (foX1 rfl) (a_cok_of trivial) ckX1_turn rfl rfl (trivial) (⟨a_CQ_s hZ.2.1 (kX1_bit hZ) lkX1_44 (a_CF_s wkX1_bit lkX1_44 hdX1_bit) rfl rfl,
    trivial⟩)
def eX1_choose : List (Nat × aEnt) := [(0, .aload_n 0, 0, 0, []),
  (1, .getfield 28, 0, 0, []),
  (4, .iconst 3, 3, 0, []),
  (5, .if_icmp .lt 61, 0, 66, []),
  (8, .aload_n 0, 0, 0, []),
  (9, .dup, 0, 0, []),
  (10, .getfield 28, 0, 0, []),
  (13, .iconst 2, 2, 0, []),
  (14, .isub, 0, 0, []),
  (15, .putfield 28, 0, 0, []),
  (18, .aload_n 0, 0, 0, []),
  (19, .getfield 15, 0, 0, []),
  (22, .aload_n 0, 0, 0, []),
  (23, .getfield 28, 0, 0, []),
  (26, .iconst 1, 1, 0, []),
  (27, .isub, 0, 0, []),
  (28, .aload_n 0, 0, 0, []),
  (29, .getfield 15, 0, 0, []),
  (32, .aload_n 0, 0, 0, []),
  (33, .getfield 28, 0, 0, []),
  (36, .iconst 1, 1, 0, []),
  (37, .isub, 0, 0, []),
  (38, .iaload, 0, 0, []),
  (39, .ifCond .eq 15, 0, 54, []),
  (42, .aload_n 0, 0, 0, []),
  (43, .getfield 15, 0, 0, []),
  (46, .aload_n 0, 0, 0, []),
  (47, .getfield 28, 0, 0, []),
  (50, .iaload, 0, 0, []),
  (51, .goto 14, 0, 65, []),
  (54, .aload_n 0, 0, 0, []),
  (55, .getfield 15, 0, 0, []),
  (58, .aload_n 0, 0, 0, []),
  (59, .getfield 28, 0, 0, []),
  (62, .iconst 1, 1, 0, []),
  (63, .iadd, 0, 0, []),
  (64, .iaload, 0, 0, []),
  (65, .iastore, 0, 0, []),
  (66, .return_, 0, 0, [])]
set_option maxRecDepth 20000 in
theorem ckX1_choose : eX1_choose.all (a_eok cX1_choose) = true := b_code [42,180,0,28,6,161,0,61,42,89,180,0,28,5,100,181,0,28,42,180,0,15,42,180,0,28,4,100,42,180,0,15,42,180,0,28,4,100,46,153,0,15,42,180,0,15,42,180,0,28,46,167,0,14,42,180,0,15,42,180,0,28,4,96,46,79,177] [] (by decide +kernel) (by decide +kernel) (by decide +kernel) (by decide +kernel)
noncomputable def pX1_choose : aPrg := (eX1_choose,
  fdX1, [], [], [], [], 2, [(65, [0]), (66, [0])])
noncomputable def fX1_choose : aMF := a_fn none shp pX1_choose 1 1
set_option maxRecDepth 20000 in
theorem kX1_choose {l : Launch} {G : aG} (hZ : a_Z l G) : a_Con l G shp yX1_choose (.code yX1_choose cX1_choose 1 none) 1 16 fX1_choose :=
  a_mth none hZ.1 hZ.2.1 shp_len (fun _ h => nomatch h) hZ.2.2.1 (by decide +kernel) rfl (foX1 rfl) (a_cok_of trivial) ckX1_choose rfl rfl (trivial) (trivial)
def eX1_join : List (Nat × aEnt) := [(0, .iload_n 0, 0, 0, []),
  (1, .tableswitch 121 (-12) (-5) #[117, 113, 109, 95, 81, 121, 64, 47], 0, 122, [((-12), 118), ((-11), 114), ((-10), 110), ((-9), 96), ((-8), 82), ((-7), 122), ((-6), 65), ((-5), 48)]),
  (48, .iload_n 1, 0, 0, []),
  (49, .ifCond .ne 7, 0, 56, []),
  (52, .iload_n 2, 0, 0, []),
  (53, .ifCond .eq 7, 0, 60, []),
  (56, .iconst 1, 1, 0, []),
  (57, .goto 4, 0, 61, []),
  (60, .iconst 0, 0, 0, []),
  (61, .invokestatic 44, 0, 0, []),
  (64, .ireturn, 0, 0, []),
  (65, .iload_n 1, 0, 0, []),
  (66, .ifCond .eq 11, 0, 77, []),
  (69, .iload_n 2, 0, 0, []),
  (70, .ifCond .eq 7, 0, 77, []),
  (73, .iconst 1, 1, 0, []),
  (74, .goto 4, 0, 78, []),
  (77, .iconst 0, 0, 0, []),
  (78, .invokestatic 44, 0, 0, []),
  (81, .ireturn, 0, 0, []),
  (82, .iload_n 1, 0, 0, []),
  (83, .iload_n 2, 0, 0, []),
  (84, .if_icmp .ge 7, 0, 91, []),
  (87, .iconst 1, 1, 0, []),
  (88, .goto 4, 0, 92, []),
  (91, .iconst 0, 0, 0, []),
  (92, .invokestatic 44, 0, 0, []),
  (95, .ireturn, 0, 0, []),
  (96, .iload_n 1, 0, 0, []),
  (97, .iload_n 2, 0, 0, []),
  (98, .if_icmp .ne 7, 0, 105, []),
  (101, .iconst 1, 1, 0, []),
  (102, .goto 4, 0, 106, []),
  (105, .iconst 0, 0, 0, []),
  (106, .invokestatic 44, 0, 0, []),
  (109, .ireturn, 0, 0, []),
  (110, .iload_n 1, 0, 0, []),
  (111, .iload_n 2, 0, 0, []),
  (112, .iadd, 0, 0, []),
  (113, .ireturn, 0, 0, []),
  (114, .iload_n 1, 0, 0, []),
  (115, .iload_n 2, 0, 0, []),
  (116, .isub, 0, 0, []),
  (117, .ireturn, 0, 0, []),
  (118, .iload_n 1, 0, 0, []),
  (119, .iload_n 2, 0, 0, []),
  (120, .imul, 0, 0, []),
  (121, .ireturn, 0, 0, []),
  (122, .iload_n 2, 0, 0, []),
  (123, .ifCond .ne 7, 0, 130, []),
  (126, .iconst 0, 0, 0, []),
  (127, .goto 6, 0, 133, []),
  (130, .iload_n 1, 0, 0, []),
  (131, .iload_n 2, 0, 0, []),
  (132, .idiv, 0, 0, []),
  (133, .ireturn, 0, 0, [])]
set_option maxRecDepth 20000 in
theorem ckX1_join : eX1_join.all (a_eok cX1_join) = true := b_code [26,170,0,0,0,0,0,121,255,255,255,244,255,255,255,251,0,0,0,117,0,0,0,113,0,0,0,109,0,0,0,95,0,0,0,81,0,0,0,121,0,0,0,64,0,0,0,47,27,154,0,7,28,153,0,7,4,167,0,4,3,184,0,44,172,27,153,0,11,28,153,0,7,4,167,0,4,3,184,0,44,172,27,28,162,0,7,4,167,0,4,3,184,0,44,172,27,28,160,0,7,4,167,0,4,3,184,0,44,172,27,28,96,172,27,28,100,172,27,28,104,172,28,154,0,7,3,167,0,6,27,28,108,172] [(1, 47)] (by decide +kernel) (by decide +kernel) (by decide +kernel) (by decide +kernel)
noncomputable def pX1_join : aPrg := (eX1_join,
  fdX1, [(44, fX1_bit, 1, 2000, 0)], [], [], [], 0, [(56, [0, 1, 2]), (61, [0, 1, 2]), (77, [0, 1, 2]), (78, [0, 1, 2]), (92, [0, 1, 2]), (106, [0, 1, 2]), (133, [0, 1, 2])])
noncomputable def fX1_join : aMF := a_fn none shp pX1_join 3 3
set_option maxRecDepth 20000 in
theorem kX1_join {l : Launch} {G : aG} (hZ : a_Z l G) : a_Con l G shp yX1_join (.code yX1_join cX1_join 3 (some .int)) 2 36 fX1_join :=
  a_mth none hZ.1 hZ.2.1 shp_len (fun _ h => nomatch h) hZ.2.2.1 (by decide +kernel) rfl (foX1 rfl) (a_cok_of trivial) ckX1_join rfl rfl (trivial) (⟨a_CQ_s hZ.2.1 (kX1_bit hZ) lkX1_44 (a_CF_s wkX1_bit lkX1_44 hdX1_bit) rfl rfl,
    trivial⟩)
def eX1_work : List (Nat × aEnt) := [(0, .aload_n 0, 0, 0, []),
  (1, .getfield 28, 0, 0, []),
  (4, .iconst 2, 2, 0, []),
  (5, .if_icmp .lt 48, 0, 53, []),
  (8, .aload_n 0, 0, 0, []),
  (9, .dup, 0, 0, []),
  (10, .getfield 28, 0, 0, []),
  (13, .iconst 1, 1, 0, []),
  (14, .isub, 0, 0, []),
  (15, .putfield 28, 0, 0, []),
  (18, .aload_n 0, 0, 0, []),
  (19, .getfield 15, 0, 0, []),
  (22, .aload_n 0, 0, 0, []),
  (23, .getfield 28, 0, 0, []),
  (26, .iconst 1, 1, 0, []),
  (27, .isub, 0, 0, []),
  (28, .iload_n 1, 0, 0, []),
  (29, .aload_n 0, 0, 0, []),
  (30, .getfield 15, 0, 0, []),
  (33, .aload_n 0, 0, 0, []),
  (34, .getfield 28, 0, 0, []),
  (37, .iconst 1, 1, 0, []),
  (38, .isub, 0, 0, []),
  (39, .iaload, 0, 0, []),
  (40, .aload_n 0, 0, 0, []),
  (41, .getfield 15, 0, 0, []),
  (44, .aload_n 0, 0, 0, []),
  (45, .getfield 28, 0, 0, []),
  (48, .iaload, 0, 0, []),
  (49, .invokestatic 48, 0, 0, []),
  (52, .iastore, 0, 0, []),
  (53, .return_, 0, 0, [])]
set_option maxRecDepth 20000 in
theorem ckX1_work : eX1_work.all (a_eok cX1_work) = true := b_code [42,180,0,28,5,161,0,48,42,89,180,0,28,4,100,181,0,28,42,180,0,15,42,180,0,28,4,100,27,42,180,0,15,42,180,0,28,4,100,46,42,180,0,15,42,180,0,28,46,184,0,48,79,177] [] (by decide +kernel) (by decide +kernel) (by decide +kernel) (by decide +kernel)
noncomputable def pX1_work : aPrg := (eX1_work,
  fdX1, [(48, fX1_join, 3, 2000, 0)], [], [], [], 2, [(53, [0, 1])])
noncomputable def fX1_work : aMF := a_fn none shp pX1_work 2 2
set_option maxRecDepth 20000 in
theorem wkX1_join : ∀ w ∈ [Cond.code yX1_join cX1_join 3 (some .int), .initialized yX1_join.cls, .static yX1_join], w ∈ lw_g := a_ps [886, 99, 885] rfl rfl
theorem hdX1_join : yX1_join.cls ≠ "java/lang/invoke/MethodHandle" ∧ yX1_join.cls ≠ "java/lang/invoke/VarHandle" ∧ (parseMethodDescriptor yX1_join.desc).map (fun d => d.parameters.length) = some 3 := by decide +kernel
set_option maxRecDepth 20000 in
theorem lkX1_48 : Cond.methodLink RX1 48 yX1_join ∈ lw_g := a_p1 884 rfl rfl
set_option maxRecDepth 20000 in
theorem kX1_work {l : Launch} {G : aG} (hZ : a_Z l G) : a_Con l G shp yX1_work (.code yX1_work cX1_work 2 none) 3 58 fX1_work :=
  a_mth none hZ.1 hZ.2.1 shp_len (fun _ h => nomatch h) hZ.2.2.1 (by decide +kernel) rfl (foX1 rfl) (a_cok_of trivial) ckX1_work rfl rfl (trivial) (⟨a_CQ_s hZ.2.1 (kX1_join hZ) lkX1_48 (a_CF_s wkX1_join lkX1_48 hdX1_join) rfl rfl,
    trivial⟩)
def eX1_reckon : List (Nat × aEnt) := [(0, .aload_n 0, 0, 0, []),
  (1, .iconst 0, 0, 0, []),
  (2, .putfield 28, 0, 0, []),
  (5, .iconst 0, 0, 0, []),
  (6, .istore 5, 0, 0, []),
  (8, .iload 5, 0, 0, []),
  (10, .aload_n 0, 0, 0, []),
  (11, .getfield 18, 0, 0, []),
  (14, .if_icmp .ge 159, 0, 173, []),
  (17, .aload_n 0, 0, 0, []),
  (18, .getfield 9, 0, 0, []),
  (21, .iload 5, 0, 0, []),
  (23, .iaload, 0, 0, []),
  (24, .istore 6, 0, 0, []),
  (26, .iload 6, 0, 0, []),
  (28, .tableswitch 119 (-14) (-1) #[112, 119, 119, 119, 119, 119, 119, 105, 119, 119, 96, 88, 80, 72], 0, 147, [((-14), 140), ((-13), 147), ((-12), 147), ((-11), 147), ((-10), 147), ((-9), 147), ((-8), 147), ((-7), 133), ((-6), 147), ((-5), 147), ((-4), 124), ((-3), 116), ((-2), 108), ((-1), 100)]),
  (100, .aload_n 0, 0, 0, []),
  (101, .iload_n 1, 0, 0, []),
  (102, .invokevirtual 31, 0, 0, []),
  (105, .goto 62, 0, 167, []),
  (108, .aload_n 0, 0, 0, []),
  (109, .iload_n 2, 0, 0, []),
  (110, .invokevirtual 31, 0, 0, []),
  (113, .goto 54, 0, 167, []),
  (116, .aload_n 0, 0, 0, []),
  (117, .iload_n 3, 0, 0, []),
  (118, .invokevirtual 31, 0, 0, []),
  (121, .goto 46, 0, 167, []),
  (124, .aload_n 0, 0, 0, []),
  (125, .iload 4, 0, 0, []),
  (127, .invokevirtual 31, 0, 0, []),
  (130, .goto 37, 0, 167, []),
  (133, .aload_n 0, 0, 0, []),
  (134, .invokevirtual 35, 0, 0, []),
  (137, .goto 30, 0, 167, []),
  (140, .aload_n 0, 0, 0, []),
  (141, .invokevirtual 38, 0, 0, []),
  (144, .goto 23, 0, 167, []),
  (147, .iload 6, 0, 0, []),
  (149, .ifCond .lt 12, 0, 161, []),
  (152, .aload_n 0, 0, 0, []),
  (153, .iload 6, 0, 0, []),
  (155, .invokevirtual 31, 0, 0, []),
  (158, .goto 9, 0, 167, []),
  (161, .aload_n 0, 0, 0, []),
  (162, .iload 6, 0, 0, []),
  (164, .invokevirtual 41, 0, 0, []),
  (167, .iinc 5 1, 1, 0, []),
  (170, .goto (-162), 0, 8, []),
  (173, .aload_n 0, 0, 0, []),
  (174, .getfield 28, 0, 0, []),
  (177, .ifCond .le 17, 0, 194, []),
  (180, .aload_n 0, 0, 0, []),
  (181, .getfield 15, 0, 0, []),
  (184, .aload_n 0, 0, 0, []),
  (185, .getfield 28, 0, 0, []),
  (188, .iconst 1, 1, 0, []),
  (189, .isub, 0, 0, []),
  (190, .iaload, 0, 0, []),
  (191, .goto 4, 0, 195, []),
  (194, .iconst 0, 0, 0, []),
  (195, .ireturn, 0, 0, [])]
set_option maxRecDepth 20000 in
theorem ckX1_reckon : eX1_reckon.all (a_eok cX1_reckon) = true := b_code [42,3,181,0,28,3,54,5,21,5,42,180,0,18,162,0,159,42,180,0,9,21,5,46,54,6,21,6,170,0,0,0,0,0,0,119,255,255,255,242,255,255,255,255,0,0,0,112,0,0,0,119,0,0,0,119,0,0,0,119,0,0,0,119,0,0,0,119,0,0,0,119,0,0,0,105,0,0,0,119,0,0,0,119,0,0,0,96,0,0,0,88,0,0,0,80,0,0,0,72,42,27,182,0,31,167,0,62,42,28,182,0,31,167,0,54,42,29,182,0,31,167,0,46,42,21,4,182,0,31,167,0,37,42,182,0,35,167,0,30,42,182,0,38,167,0,23,21,6,155,0,12,42,21,6,182,0,31,167,0,9,42,21,6,182,0,41,132,5,1,167,255,94,42,180,0,28,158,0,17,42,180,0,15,42,180,0,28,4,100,46,167,0,4,3,172] [(28, 72)] (by decide +kernel) (by decide +kernel) (by decide +kernel) (by decide +kernel)
noncomputable def pX1_reckon : aPrg := (eX1_reckon,
  fdX1, [(31, fX1_push, 2, 1, 1), (35, fX1_turn, 1, 1, 1), (38, fX1_choose, 1, 1, 1), (41, fX1_work, 2, 1, 1)], [], [], [], 0, [(8, [6]), (167, [6]), (195, [0, 1, 2, 3, 4, 5, 6])])
noncomputable def fX1_reckon : aMF := a_fn none shp pX1_reckon 7 5
set_option maxRecDepth 20000 in
theorem wkX1_push : ∀ w ∈ [Cond.code yX1_push cX1_push 2 none, .initialized yX1_push.cls, .instanceMethod yX1_push, .selects yX1_push.cls yX1_push yX1_push], w ∈ lw_g := a_ps [868, 99, 867, 34] rfl rfl
theorem hdX1_push : yX1_push.cls ≠ "java/lang/invoke/MethodHandle" ∧ yX1_push.cls ≠ "java/lang/invoke/VarHandle" ∧ (parseMethodDescriptor yX1_push.desc).map (fun d => d.parameters.length) = some 1 := by decide +kernel
set_option maxRecDepth 20000 in
theorem lkX1_31 : Cond.methodLink RX1 31 yX1_push ∈ lw_g := a_p1 865 rfl rfl
set_option maxRecDepth 20000 in
theorem wkX1_turn : ∀ w ∈ [Cond.code yX1_turn cX1_turn 1 none, .initialized yX1_turn.cls, .instanceMethod yX1_turn, .selects yX1_turn.cls yX1_turn yX1_turn], w ∈ lw_g := a_ps [872, 99, 871, 35] rfl rfl
theorem hdX1_turn : yX1_turn.cls ≠ "java/lang/invoke/MethodHandle" ∧ yX1_turn.cls ≠ "java/lang/invoke/VarHandle" ∧ (parseMethodDescriptor yX1_turn.desc).map (fun d => d.parameters.length) = some 0 := by decide +kernel
set_option maxRecDepth 20000 in
theorem lkX1_35 : Cond.methodLink RX1 35 yX1_turn ∈ lw_g := a_p1 869 rfl rfl
set_option maxRecDepth 20000 in
theorem wkX1_choose : ∀ w ∈ [Cond.code yX1_choose cX1_choose 1 none, .initialized yX1_choose.cls, .instanceMethod yX1_choose, .selects yX1_choose.cls yX1_choose yX1_choose], w ∈ lw_g := a_ps [879, 99, 878, 36] rfl rfl
theorem hdX1_choose : yX1_choose.cls ≠ "java/lang/invoke/MethodHandle" ∧ yX1_choose.cls ≠ "java/lang/invoke/VarHandle" ∧ (parseMethodDescriptor yX1_choose.desc).map (fun d => d.parameters.length) = some 0 := by decide +kernel
set_option maxRecDepth 20000 in
theorem lkX1_38 : Cond.methodLink RX1 38 yX1_choose ∈ lw_g := a_p1 876 rfl rfl
set_option maxRecDepth 20000 in
theorem wkX1_work : ∀ w ∈ [Cond.code yX1_work cX1_work 2 none, .initialized yX1_work.cls, .instanceMethod yX1_work, .selects yX1_work.cls yX1_work yX1_work], w ∈ lw_g := a_ps [883, 99, 882, 37] rfl rfl
theorem hdX1_work : yX1_work.cls ≠ "java/lang/invoke/MethodHandle" ∧ yX1_work.cls ≠ "java/lang/invoke/VarHandle" ∧ (parseMethodDescriptor yX1_work.desc).map (fun d => d.parameters.length) = some 1 := by decide +kernel
set_option maxRecDepth 20000 in
theorem lkX1_41 : Cond.methodLink RX1 41 yX1_work ∈ lw_g := a_p1 880 rfl rfl
set_option maxRecDepth 20000 in
theorem kX1_reckon {l : Launch} {G : aG} (hZ : a_Z l G) : a_Con l G shp yX1_reckon (.code yX1_reckon cX1_reckon 7 (some .int)) 4 79 fX1_reckon :=
  a_mth none hZ.1 hZ.2.1 shp_len (fun _ h => nomatch h) hZ.2.2.1 (by decide +kernel) rfl (foX1 rfl) (a_cok_of trivial) ckX1_reckon rfl rfl (trivial) (⟨a_CQ_v hZ.2.1 (kX1_push hZ) lkX1_31 (a_CF_v TX1 4 wkX1_push lkX1_31 hdX1_push ⟨by decide, by decide⟩ rfl) rfl rfl,
    ⟨a_CQ_v hZ.2.1 (kX1_turn hZ) lkX1_35 (a_CF_v TX1 4 wkX1_turn lkX1_35 hdX1_turn ⟨by decide, by decide⟩ rfl) rfl rfl,
    ⟨a_CQ_v hZ.2.1 (kX1_choose hZ) lkX1_38 (a_CF_v TX1 4 wkX1_choose lkX1_38 hdX1_choose ⟨by decide, by decide⟩ rfl) rfl rfl,
    ⟨a_CQ_v hZ.2.1 (kX1_work hZ) lkX1_41 (a_CF_v TX1 4 wkX1_work lkX1_41 hdX1_work ⟨by decide, by decide⟩ rfl) rfl rfl,
    trivial⟩⟩⟩⟩)
def eX2_meetNew : List (Nat × aEnt) := [(0, .aload_n 0, 0, 0, []),
  (1, .getfield 28, 0, 0, []),
  (4, .sipush 4000, 4000, 0, []),
  (7, .if_icmp .lt 9, 0, 16, []),
  (10, .aload_n 0, 0, 0, []),
  (11, .iconst 1, 1, 0, []),
  (12, .putfield 32, 0, 0, []),
  (15, .return_, 0, 0, []),
  (16, .aload_n 0, 0, 0, []),
  (17, .getfield 15, 0, 0, []),
  (20, .iload_n 2, 0, 0, []),
  (21, .iload_n 1, 0, 0, []),
  (22, .iastore, 0, 0, []),
  (23, .aload_n 0, 0, 0, []),
  (24, .getfield 11, 0, 0, []),
  (27, .aload_n 0, 0, 0, []),
  (28, .getfield 28, 0, 0, []),
  (31, .iload_n 1, 0, 0, []),
  (32, .iastore, 0, 0, []),
  (33, .aload_n 0, 0, 0, []),
  (34, .dup, 0, 0, []),
  (35, .getfield 28, 0, 0, []),
  (38, .iconst 1, 1, 0, []),
  (39, .iadd, 0, 0, []),
  (40, .putfield 28, 0, 0, []),
  (43, .return_, 0, 0, [])]
set_option maxRecDepth 20000 in
theorem ckX2_meetNew : eX2_meetNew.all (a_eok cX2_meetNew) = true := b_code [42,180,0,28,17,15,160,161,0,9,42,4,181,0,32,177,42,180,0,15,28,27,79,42,180,0,11,42,180,0,28,27,79,42,89,180,0,28,4,96,181,0,28,177] [] (by decide +kernel) (by decide +kernel) (by decide +kernel) (by decide +kernel)
noncomputable def pX2_meetNew : aPrg := (eX2_meetNew,
  fdX2, [], [], [], [], 2, [])
noncomputable def fX2_meetNew : aMF := a_fn none shp pX2_meetNew 3 3
set_option maxRecDepth 20000 in
theorem kX2_meetNew {l : Launch} {G : aG} (hZ : a_Z l G) : a_Con l G shp yX2_meetNew (.code yX2_meetNew cX2_meetNew 3 none) 1 16 fX2_meetNew :=
  a_mth none hZ.1 hZ.2.1 shp_len (fun _ h => nomatch h) hZ.2.2.1 (by decide +kernel) rfl (foX2 rfl) (a_cok_of trivial) ckX2_meetNew rfl rfl (trivial) (trivial)
def eX2_meet : List (Nat × aEnt) := [(0, .iload_n 1, 0, 0, []),
  (1, .iload_n 2, 0, 0, []),
  (2, .bipush 12, 12, 0, []),
  (4, .ishl, 0, 0, []),
  (5, .ior, 0, 0, []),
  (6, .istore_n 3, 0, 0, []),
  (7, .iload_n 3, 0, 0, []),
  (8, .ldc 66, 0, 0, []),
  (10, .imul, 0, 0, []),
  (11, .bipush 19, 19, 0, []),
  (13, .iushr, 0, 0, []),
  (14, .istore 4, 0, 0, []),
  (16, .iconst 0, 0, 0, []),
  (17, .istore 5, 0, 0, []),
  (19, .iload 5, 0, 0, []),
  (21, .sipush 8192, 8192, 0, []),
  (24, .if_icmp .ge 49, 0, 73, []),
  (27, .aload_n 0, 0, 0, []),
  (28, .getfield 15, 0, 0, []),
  (31, .iload 4, 0, 0, []),
  (33, .iaload, 0, 0, []),
  (34, .istore 6, 0, 0, []),
  (36, .iload 6, 0, 0, []),
  (38, .iload_n 3, 0, 0, []),
  (39, .if_icmp .ne 4, 0, 43, []),
  (42, .return_, 0, 0, []),
  (43, .iload 6, 0, 0, []),
  (45, .iconst (-1), (-1), 0, []),
  (46, .if_icmp .ne 11, 0, 57, []),
  (49, .aload_n 0, 0, 0, []),
  (50, .iload_n 3, 0, 0, []),
  (51, .iload 4, 0, 0, []),
  (53, .invokevirtual 67, 0, 0, []),
  (56, .return_, 0, 0, []),
  (57, .iload 4, 0, 0, []),
  (59, .iconst 1, 1, 0, []),
  (60, .iadd, 0, 0, []),
  (61, .sipush 8191, 8191, 0, []),
  (64, .iand, 0, 0, []),
  (65, .istore 4, 0, 0, []),
  (67, .iinc 5 1, 1, 0, []),
  (70, .goto (-51), 0, 19, []),
  (73, .return_, 0, 0, [])]
set_option maxRecDepth 20000 in
theorem ckX2_meet : eX2_meet.all (a_eok cX2_meet) = true := b_code [27,28,16,12,120,128,62,29,18,66,104,16,19,124,54,4,3,54,5,21,5,17,32,0,162,0,49,42,180,0,15,21,4,46,54,6,21,6,29,160,0,4,177,21,6,2,160,0,11,42,29,21,4,182,0,67,177,21,4,4,96,17,31,255,126,54,4,132,5,1,167,255,205,177] [] (by decide +kernel) (by decide +kernel) (by decide +kernel) (by decide +kernel)
noncomputable def pX2_meet : aPrg := (eX2_meet,
  fdX2, [(67, fX2_meetNew, 3, 2, 1)], [(66, .int (-1640531535 : Int32))], [], [], 2, [(19, [1, 2, 6])])
noncomputable def fX2_meet : aMF := a_fn none shp pX2_meet 7 3
set_option maxRecDepth 20000 in
theorem wkX2_meetNew : ∀ w ∈ [Cond.code yX2_meetNew cX2_meetNew 3 none, .initialized yX2_meetNew.cls, .instanceMethod yX2_meetNew, .selects yX2_meetNew.cls yX2_meetNew yX2_meetNew], w ∈ lw_g := a_ps [1006, 103, 1005, 42] rfl rfl
theorem hdX2_meetNew : yX2_meetNew.cls ≠ "java/lang/invoke/MethodHandle" ∧ yX2_meetNew.cls ≠ "java/lang/invoke/VarHandle" ∧ (parseMethodDescriptor yX2_meetNew.desc).map (fun d => d.parameters.length) = some 2 := by decide +kernel
set_option maxRecDepth 20000 in
theorem lkX2_67 : Cond.methodLink RX2 67 yX2_meetNew ∈ lw_g := a_p1 1003 rfl rfl
set_option maxRecDepth 20000 in
theorem kX2_meet {l : Launch} {G : aG} (hZ : a_Z l G) : a_Con l G shp yX2_meet (.code yX2_meet cX2_meet 7 none) 2 38 fX2_meet :=
  a_mth none hZ.1 hZ.2.1 shp_len (fun _ h => nomatch h) hZ.2.2.1 (by decide +kernel) rfl (foX2 rfl) (a_cok_of ⟨a_p1 1002 rfl rfl, trivial⟩) ckX2_meet rfl rfl (trivial) (⟨a_CQ_v hZ.2.1 (kX2_meetNew hZ) lkX2_67 (a_CF_v TX2 5 wkX2_meetNew lkX2_67 hdX2_meetNew ⟨by decide, by decide⟩ rfl) rfl rfl,
    trivial⟩)
def eX2_tradeForEach : List (Nat × aEnt) := [(0, .iload 4, 0, 0, []),
  (2, .istore 7, 0, 0, []),
  (4, .iload 4, 0, 0, []),
  (6, .invokestatic 60, 0, 0, []),
  (9, .istore 8, 0, 0, []),
  (11, .iload 8, 0, 0, []),
  (13, .ifCond .le 48, 0, 61, []),
  (16, .iload 7, 0, 0, []),
  (18, .iload 7, 0, 0, []),
  (20, .ineg, 0, 0, []),
  (21, .iand, 0, 0, []),
  (22, .istore 9, 0, 0, []),
  (24, .iload 7, 0, 0, []),
  (26, .iload 9, 0, 0, []),
  (28, .ixor, 0, 0, []),
  (29, .istore 7, 0, 0, []),
  (31, .iload_n 3, 0, 0, []),
  (32, .iload 9, 0, 0, []),
  (34, .ior, 0, 0, []),
  (35, .istore 10, 0, 0, []),
  (37, .aload_n 0, 0, 0, []),
  (38, .iload_n 1, 0, 0, []),
  (39, .iload 10, 0, 0, []),
  (41, .iload 5, 0, 0, []),
  (43, .iand, 0, 0, []),
  (44, .ixor, 0, 0, []),
  (45, .iload_n 2, 0, 0, []),
  (46, .iload 10, 0, 0, []),
  (48, .iload 6, 0, 0, []),
  (50, .iand, 0, 0, []),
  (51, .ixor, 0, 0, []),
  (52, .invokevirtual 36, 0, 0, []),
  (55, .iinc 8 (-1), (-1), 0, []),
  (58, .goto (-47), 0, 11, []),
  (61, .return_, 0, 0, [])]
set_option maxRecDepth 20000 in
theorem ckX2_tradeForEach : eX2_tradeForEach.all (a_eok cX2_tradeForEach) = true := b_code [21,4,54,7,21,4,184,0,60,54,8,21,8,158,0,48,21,7,21,7,116,126,54,9,21,7,21,9,130,54,7,29,21,9,128,54,10,42,27,21,10,21,5,126,130,28,21,10,21,6,126,130,182,0,36,132,8,255,167,255,209,177] [] (by decide +kernel) (by decide +kernel) (by decide +kernel) (by decide +kernel)
noncomputable def pX2_tradeForEach : aPrg := (eX2_tradeForEach,
  fdX2, [(60, fJ6_bitCount_0f7a4, 1, 2000, 0), (36, fX2_meet, 3, 2, 1)], [], [], [], 2, [(11, [4, 9, 10])])
noncomputable def fX2_tradeForEach : aMF := a_fn none shp pX2_tradeForEach 11 7
set_option maxRecDepth 20000 in
theorem lkX2_60 : Cond.methodLink RX2 60 yJ6_bitCount_0f7a4 ∈ lw_g := a_p1 1016 rfl rfl
set_option maxRecDepth 20000 in
theorem wkX2_meet : ∀ w ∈ [Cond.code yX2_meet cX2_meet 7 none, .initialized yX2_meet.cls, .instanceMethod yX2_meet, .selects yX2_meet.cls yX2_meet yX2_meet], w ∈ lw_g := a_ps [1001, 103, 1000, 41] rfl rfl
theorem hdX2_meet : yX2_meet.cls ≠ "java/lang/invoke/MethodHandle" ∧ yX2_meet.cls ≠ "java/lang/invoke/VarHandle" ∧ (parseMethodDescriptor yX2_meet.desc).map (fun d => d.parameters.length) = some 2 := by decide +kernel
set_option maxRecDepth 20000 in
theorem lkX2_36 : Cond.methodLink RX2 36 yX2_meet ∈ lw_g := a_p1 998 rfl rfl
set_option maxRecDepth 20000 in
theorem kX2_tradeForEach {l : Launch} {G : aG} (hZ : a_Z l G) : a_Con l G shp yX2_tradeForEach (.code yX2_tradeForEach cX2_tradeForEach 11 none) 3 64 fX2_tradeForEach :=
  a_mth none hZ.1 hZ.2.1 shp_len (fun _ h => nomatch h) hZ.2.2.1 (by decide +kernel) rfl (foX2 rfl) (a_cok_of trivial) ckX2_tradeForEach rfl rfl (trivial) (⟨a_CQ_s hZ.2.1 (kJ6_bitCount_0f7a4 hZ) lkX2_60 (a_CF_s wkJ6_bitCount_0f7a4 lkX2_60 hdJ6_bitCount_0f7a4) rfl rfl,
    ⟨a_CQ_v hZ.2.1 (kX2_meet hZ) lkX2_36 (a_CF_v TX2 5 wkX2_meet lkX2_36 hdX2_meet ⟨by decide, by decide⟩ rfl) rfl rfl,
    trivial⟩⟩)
def eX2_goOn : List (Nat × aEnt) := [(0, .iload_n 3, 0, 0, []),
  (1, .iload_n 1, 0, 0, []),
  (2, .iconst (-1), (-1), 0, []),
  (3, .ixor, 0, 0, []),
  (4, .iand, 0, 0, []),
  (5, .iload_n 2, 0, 0, []),
  (6, .iconst (-1), (-1), 0, []),
  (7, .ixor, 0, 0, []),
  (8, .iand, 0, 0, []),
  (9, .istore 4, 0, 0, []),
  (11, .iconst 0, 0, 0, []),
  (12, .istore 5, 0, 0, []),
  (14, .iload 5, 0, 0, []),
  (16, .aload_n 0, 0, 0, []),
  (17, .getfield 18, 0, 0, []),
  (20, .getfield 48, 0, 0, []),
  (23, .if_icmp .ge 101, 0, 124, []),
  (26, .aload_n 0, 0, 0, []),
  (27, .getfield 32, 0, 0, []),
  (30, .ifCond .ne 94, 0, 124, []),
  (33, .aload_n 0, 0, 0, []),
  (34, .getfield 18, 0, 0, []),
  (37, .getfield 53, 0, 0, []),
  (40, .iload 5, 0, 0, []),
  (42, .iaload, 0, 0, []),
  (43, .iload 4, 0, 0, []),
  (45, .iand, 0, 0, []),
  (46, .istore 6, 0, 0, []),
  (48, .iload_n 1, 0, 0, []),
  (49, .iload 5, 0, 0, []),
  (51, .invokestatic 40, 0, 0, []),
  (54, .ifCond .eq 39, 0, 93, []),
  (57, .aload_n 0, 0, 0, []),
  (58, .iload_n 1, 0, 0, []),
  (59, .iload_n 2, 0, 0, []),
  (60, .iconst 1, 1, 0, []),
  (61, .iload 5, 0, 0, []),
  (63, .ishl, 0, 0, []),
  (64, .iload 6, 0, 0, []),
  (66, .sipush 4095, 4095, 0, []),
  (69, .iconst 0, 0, 0, []),
  (70, .invokevirtual 56, 0, 0, []),
  (73, .aload_n 0, 0, 0, []),
  (74, .iload_n 1, 0, 0, []),
  (75, .iload_n 2, 0, 0, []),
  (76, .iconst 1, 1, 0, []),
  (77, .iload 5, 0, 0, []),
  (79, .ishl, 0, 0, []),
  (80, .iload_n 2, 0, 0, []),
  (81, .sipush 4095, 4095, 0, []),
  (84, .sipush 4095, 4095, 0, []),
  (87, .invokevirtual 56, 0, 0, []),
  (90, .goto 28, 0, 118, []),
  (93, .iload_n 2, 0, 0, []),
  (94, .iload 5, 0, 0, []),
  (96, .invokestatic 40, 0, 0, []),
  (99, .ifCond .eq 19, 0, 118, []),
  (102, .aload_n 0, 0, 0, []),
  (103, .iload_n 1, 0, 0, []),
  (104, .iload_n 2, 0, 0, []),
  (105, .iconst 1, 1, 0, []),
  (106, .iload 5, 0, 0, []),
  (108, .ishl, 0, 0, []),
  (109, .iload 6, 0, 0, []),
  (111, .iconst 0, 0, 0, []),
  (112, .sipush 4095, 4095, 0, []),
  (115, .invokevirtual 56, 0, 0, []),
  (118, .iinc 5 1, 1, 0, []),
  (121, .goto (-107), 0, 14, []),
  (124, .return_, 0, 0, [])]
set_option maxRecDepth 20000 in
theorem ckX2_goOn : eX2_goOn.all (a_eok cX2_goOn) = true := b_code [29,27,2,130,126,28,2,130,126,54,4,3,54,5,21,5,42,180,0,18,180,0,48,162,0,101,42,180,0,32,154,0,94,42,180,0,18,180,0,53,21,5,46,21,4,126,54,6,27,21,5,184,0,40,153,0,39,42,27,28,4,21,5,120,21,6,17,15,255,3,182,0,56,42,27,28,4,21,5,120,28,17,15,255,17,15,255,182,0,56,167,0,28,28,21,5,184,0,40,153,0,19,42,27,28,4,21,5,120,21,6,3,17,15,255,182,0,56,132,5,1,167,255,149,177] [] (by decide +kernel) (by decide +kernel) (by decide +kernel) (by decide +kernel)
noncomputable def pX2_goOn : aPrg := (eX2_goOn,
  fdX2, [(40, fX8_holds, 2, 2000, 0), (56, fX2_tradeForEach, 7, 2, 1)], [], [], [], 2, [(14, [3, 6]), (118, [3, 6]), (124, [0, 1, 2, 3, 4, 5, 6])])
noncomputable def fX2_goOn : aMF := a_fn none shp pX2_goOn 7 4
set_option maxRecDepth 20000 in
theorem wkX2_tradeForEach : ∀ w ∈ [Cond.code yX2_tradeForEach cX2_tradeForEach 11 none, .initialized yX2_tradeForEach.cls, .instanceMethod yX2_tradeForEach, .selects yX2_tradeForEach.cls yX2_tradeForEach yX2_tradeForEach], w ∈ lw_g := a_ps [1015, 103, 1014, 44] rfl rfl
theorem hdX2_tradeForEach : yX2_tradeForEach.cls ≠ "java/lang/invoke/MethodHandle" ∧ yX2_tradeForEach.cls ≠ "java/lang/invoke/VarHandle" ∧ (parseMethodDescriptor yX2_tradeForEach.desc).map (fun d => d.parameters.length) = some 6 := by decide +kernel
set_option maxRecDepth 20000 in
theorem lkX2_56 : Cond.methodLink RX2 56 yX2_tradeForEach ∈ lw_g := a_p1 1012 rfl rfl
set_option maxRecDepth 20000 in
theorem kX2_goOn {l : Launch} {G : aG} (hZ : a_Z l G) : a_Con l G shp yX2_goOn (.code yX2_goOn cX2_goOn 7 none) 4 94 fX2_goOn :=
  a_mth none hZ.1 hZ.2.1 shp_len (fun _ h => nomatch h) hZ.2.2.1 (by decide +kernel) rfl (foX2 rfl) (a_cok_of trivial) ckX2_goOn rfl rfl (trivial) (⟨a_CQ_sn hZ.2.1 (kX8_holds hZ) (a_CF_sn wkX8_holds "StoutShelf" 1007 rfl hdX8_holds) (a_fn_nt rfl rfl) rfl rfl,
    ⟨a_CQ_v hZ.2.1 (kX2_tradeForEach hZ) lkX2_56 (a_CF_v TX2 5 wkX2_tradeForEach lkX2_56 hdX2_tradeForEach ⟨by decide, by decide⟩ rfl) rfl rfl,
    trivial⟩⟩)
def eX2_fewestMoves : List (Nat × aEnt) := [(0, .iload_n 1, 0, 0, []),
  (1, .iload_n 2, 0, 0, []),
  (2, .ior, 0, 0, []),
  (3, .iload_n 3, 0, 0, []),
  (4, .ior, 0, 0, []),
  (5, .istore 5, 0, 0, []),
  (7, .aload_n 0, 0, 0, []),
  (8, .getfield 15, 0, 0, []),
  (11, .iconst (-1), (-1), 0, []),
  (12, .invokestatic 22, 0, 0, []),
  (15, .aload_n 0, 0, 0, []),
  (16, .iconst 0, 0, 0, []),
  (17, .putfield 28, 0, 0, []),
  (20, .aload_n 0, 0, 0, []),
  (21, .iconst 0, 0, 0, []),
  (22, .putfield 32, 0, 0, []),
  (25, .aload_n 0, 0, 0, []),
  (26, .iload_n 1, 0, 0, []),
  (27, .iload_n 2, 0, 0, []),
  (28, .invokevirtual 36, 0, 0, []),
  (31, .iconst (-1), (-1), 0, []),
  (32, .istore 6, 0, 0, []),
  (34, .iconst 0, 0, 0, []),
  (35, .istore 7, 0, 0, []),
  (37, .iconst 0, 0, 0, []),
  (38, .istore 8, 0, 0, []),
  (40, .iload 8, 0, 0, []),
  (42, .sipush 4000, 4000, 0, []),
  (45, .if_icmp .ge 100, 0, 145, []),
  (48, .iload 7, 0, 0, []),
  (50, .aload_n 0, 0, 0, []),
  (51, .getfield 28, 0, 0, []),
  (54, .if_icmp .ge 91, 0, 145, []),
  (57, .aload_n 0, 0, 0, []),
  (58, .getfield 28, 0, 0, []),
  (61, .istore 9, 0, 0, []),
  (63, .iload 7, 0, 0, []),
  (65, .iload 9, 0, 0, []),
  (67, .if_icmp .ge 62, 0, 129, []),
  (70, .aload_n 0, 0, 0, []),
  (71, .getfield 32, 0, 0, []),
  (74, .ifCond .ne 55, 0, 129, []),
  (77, .aload_n 0, 0, 0, []),
  (78, .getfield 11, 0, 0, []),
  (81, .iload 7, 0, 0, []),
  (83, .iaload, 0, 0, []),
  (84, .istore 10, 0, 0, []),
  (86, .iload 6, 0, 0, []),
  (88, .iconst (-1), (-1), 0, []),
  (89, .if_icmp .ne 17, 0, 106, []),
  (92, .iload 10, 0, 0, []),
  (94, .iload 4, 0, 0, []),
  (96, .invokestatic 40, 0, 0, []),
  (99, .ifCond .eq 7, 0, 106, []),
  (102, .iload 8, 0, 0, []),
  (104, .istore 6, 0, 0, []),
  (106, .aload_n 0, 0, 0, []),
  (107, .iload 10, 0, 0, []),
  (109, .sipush 4095, 4095, 0, []),
  (112, .iand, 0, 0, []),
  (113, .iload 10, 0, 0, []),
  (115, .bipush 12, 12, 0, []),
  (117, .ishr, 0, 0, []),
  (118, .iload 5, 0, 0, []),
  (120, .invokevirtual 44, 0, 0, []),
  (123, .iinc 7 1, 1, 0, []),
  (126, .goto (-63), 0, 63, []),
  (129, .aload_n 0, 0, 0, []),
  (130, .getfield 32, 0, 0, []),
  (133, .ifCond .eq 6, 0, 139, []),
  (136, .bipush (-2), (-2), 0, []),
  (138, .ireturn, 0, 0, []),
  (139, .iinc 8 1, 1, 0, []),
  (142, .goto (-102), 0, 40, []),
  (145, .iload 6, 0, 0, []),
  (147, .ireturn, 0, 0, [])]
set_option maxRecDepth 20000 in
theorem ckX2_fewestMoves : eX2_fewestMoves.all (a_eok cX2_fewestMoves) = true := b_code [27,28,128,29,128,54,5,42,180,0,15,2,184,0,22,42,3,181,0,28,42,3,181,0,32,42,27,28,182,0,36,2,54,6,3,54,7,3,54,8,21,8,17,15,160,162,0,100,21,7,42,180,0,28,162,0,91,42,180,0,28,54,9,21,7,21,9,162,0,62,42,180,0,32,154,0,55,42,180,0,11,21,7,46,54,10,21,6,2,160,0,17,21,10,21,4,184,0,40,153,0,7,21,8,54,6,42,21,10,17,15,255,126,21,10,16,12,122,21,5,182,0,44,132,7,1,167,255,193,42,180,0,32,153,0,6,16,254,172,132,8,1,167,255,154,21,6,172] [] (by decide +kernel) (by decide +kernel) (by decide +kernel) (by decide +kernel)
noncomputable def pX2_fewestMoves : aPrg := (eX2_fewestMoves,
  fdX2, [(22, fJ7_fill_53178, 2, 2000, 1), (36, fX2_meet, 3, 2, 1), (40, fX8_holds, 2, 2000, 0), (44, fX2_goOn, 4, 2, 1)], [], [], [], 0, [(40, [1, 2, 3, 9, 10]), (63, [1, 2, 3, 10]), (106, [1, 2, 3]), (129, [1, 2, 3, 9, 10]), (145, [0, 1, 2, 3, 4, 5, 7, 8, 9, 10])])
noncomputable def fX2_fewestMoves : aMF := a_fn none shp pX2_fewestMoves 11 5
set_option maxRecDepth 20000 in
theorem lkX2_22 : Cond.methodLink RX2 22 yJ7_fill_53178 ∈ lw_g := a_p1 997 rfl rfl
set_option maxRecDepth 20000 in
theorem wkX2_goOn : ∀ w ∈ [Cond.code yX2_goOn cX2_goOn 7 none, .initialized yX2_goOn.cls, .instanceMethod yX2_goOn, .selects yX2_goOn.cls yX2_goOn yX2_goOn], w ∈ lw_g := a_ps [1011, 103, 1010, 43] rfl rfl
theorem hdX2_goOn : yX2_goOn.cls ≠ "java/lang/invoke/MethodHandle" ∧ yX2_goOn.cls ≠ "java/lang/invoke/VarHandle" ∧ (parseMethodDescriptor yX2_goOn.desc).map (fun d => d.parameters.length) = some 3 := by decide +kernel
set_option maxRecDepth 20000 in
theorem lkX2_44 : Cond.methodLink RX2 44 yX2_goOn ∈ lw_g := a_p1 1008 rfl rfl
set_option maxRecDepth 20000 in
theorem kX2_fewestMoves {l : Launch} {G : aG} (hZ : a_Z l G) : a_Con l G shp yX2_fewestMoves (.code yX2_fewestMoves cX2_fewestMoves 11 (some .int)) 5 120 fX2_fewestMoves :=
  a_mth none hZ.1 hZ.2.1 shp_len (fun _ h => nomatch h) hZ.2.2.1 (by decide +kernel) rfl (foX2 rfl) (a_cok_of trivial) ckX2_fewestMoves rfl rfl (trivial) (⟨a_CQ_s hZ.2.1 (kJ7_fill_53178 hZ) lkX2_22 (a_CF_s wkJ7_fill_53178 lkX2_22 hdJ7_fill_53178) rfl rfl,
    ⟨a_CQ_v hZ.2.1 (kX2_meet hZ) lkX2_36 (a_CF_v TX2 5 wkX2_meet lkX2_36 hdX2_meet ⟨by decide, by decide⟩ rfl) rfl rfl,
    ⟨a_CQ_sn hZ.2.1 (kX8_holds hZ) (a_CF_sn wkX8_holds "StoutShelf" 1007 rfl hdX8_holds) (a_fn_nt rfl rfl) rfl rfl,
    ⟨a_CQ_v hZ.2.1 (kX2_goOn hZ) lkX2_44 (a_CF_v TX2 5 wkX2_goOn lkX2_44 hdX2_goOn ⟨by decide, by decide⟩ rfl) rfl rfl,
    trivial⟩⟩⟩⟩)
