/-! ===== programs and contracts, written by wip/whole/gen.py ===== -/
def eX3_readLaw : List (Nat × aEnt) := [(0, .aload_n 0, 0, 0, []),
  (1, .getfield 19, 0, 0, []),
  (4, .getfield 122, 0, 0, []),
  (7, .ifCond .eq 9, 0, 16, []),
  (10, .aload_n 0, 0, 0, []),
  (11, .iconst 4, 4, 0, []),
  (12, .invokevirtual 65, 0, 0, []),
  (15, .ireturn, 0, 0, []),
  (16, .aload_n 0, 0, 0, []),
  (17, .getfield 19, 0, 0, []),
  (20, .iconst 1, 1, 0, []),
  (21, .putfield 122, 0, 0, []),
  (24, .aload_n 0, 0, 0, []),
  (25, .getfield 19, 0, 0, []),
  (28, .getfield 126, 0, 0, []),
  (31, .invokevirtual 129, 0, 0, []),
  (34, .aload_n 0, 0, 0, []),
  (35, .getfield 15, 0, 0, []),
  (38, .invokevirtual 79, 0, 0, []),
  (41, .aload_n 0, 0, 0, []),
  (42, .iconst 0, 0, 0, []),
  (43, .invokevirtual 132, 0, 0, []),
  (46, .ireturn, 0, 0, [])]
set_option maxRecDepth 20000 in
theorem ckX3_readLaw : eX3_readLaw.all (a_eok cX3_readLaw) = true := b_code [42,180,0,19,180,0,122,153,0,9,42,7,182,0,65,172,42,180,0,19,4,181,0,122,42,180,0,19,180,0,126,182,0,129,42,180,0,15,182,0,79,42,3,182,0,132,172] [] (by decide +kernel) (by decide +kernel) (by decide +kernel) (by decide +kernel)
noncomputable def pX3_readLaw : aPrg := (eX3_readLaw,
  fdX3, [(65, fX3_refuse, 2, 3, 0), (129, fX1_clear, 1, 1, 1), (79, fX5_next, 1, 5, 1), (132, fX3_readExpr, 2, 3, 0)], [], [], [], 1, [])
noncomputable def fX3_readLaw : aMF := a_fn none shp pX3_readLaw 1 1
set_option maxRecDepth 20000 in
theorem lkX3_129 : Cond.methodLink RX3 129 yX1_clear ∈ lw_g := a_p1 793 rfl rfl
set_option maxRecDepth 20000 in
theorem kX3_readLaw {l : Launch} {G : aG} (hZ : a_Z l G) : a_Con l G shp yX3_readLaw (.code yX3_readLaw cX3_readLaw 1 (some .boolean)) 79 3025 fX3_readLaw :=
  a_mth none hZ.1 hZ.2.1 shp_len (fun _ h => nomatch h) hZ.2.2.1 (by decide +kernel) rfl (foX3 rfl) (a_cok_of trivial) ckX3_readLaw rfl rfl (trivial) (⟨a_CQ_v hZ.2.1 (kX3_refuse hZ) lkX3_65 (a_CF_v TX3 4 wkX3_refuse lkX3_65 hdX3_refuse ⟨by decide, by decide⟩ rfl) rfl rfl,
    ⟨a_CQ_v hZ.2.1 (kX1_clear hZ) lkX3_129 (a_CF_v TX1 4 wkX1_clear lkX3_129 hdX1_clear ⟨by decide, by decide⟩ rfl) rfl rfl,
    ⟨a_CQ_v hZ.2.1 (kX5_next hZ) lkX3_79 (a_CF_v TX5 7 wkX5_next lkX3_79 hdX5_next ⟨by decide, by decide⟩ rfl) rfl rfl,
    ⟨a_CQ_v hZ.2.1 (kX3_readExpr hZ) lkX3_132 (a_CF_v TX3 4 wkX3_readExpr lkX3_132 hdX3_readExpr ⟨by decide, by decide⟩ rfl) rfl rfl,
    trivial⟩⟩⟩⟩)
def eX3_readAll : List (Nat × aEnt) := [(0, .aload_n 0, 0, 0, []),
  (1, .iconst 0, 0, 0, []),
  (2, .putfield 23, 0, 0, []),
  (5, .aload_n 0, 0, 0, []),
  (6, .iconst (-1), (-1), 0, []),
  (7, .putfield 9, 0, 0, []),
  (10, .aload_n 0, 0, 0, []),
  (11, .getfield 19, 0, 0, []),
  (14, .invokevirtual 26, 0, 0, []),
  (17, .aload_n 0, 0, 0, []),
  (18, .getfield 15, 0, 0, []),
  (21, .iload_n 1, 0, 0, []),
  (22, .invokevirtual 31, 0, 0, []),
  (25, .iconst 1, 1, 0, []),
  (26, .istore_n 2, 0, 0, []),
  (27, .iconst 0, 0, 0, []),
  (28, .istore_n 3, 0, 0, []),
  (29, .iload_n 3, 0, 0, []),
  (30, .sipush 700, 700, 0, []),
  (33, .if_icmp .ge 134, 0, 167, []),
  (36, .iload_n 2, 0, 0, []),
  (37, .ifCond .eq 130, 0, 167, []),
  (40, .aload_n 0, 0, 0, []),
  (41, .getfield 15, 0, 0, []),
  (44, .getfield 37, 0, 0, []),
  (47, .ifCond .eq 120, 0, 167, []),
  (50, .aload_n 0, 0, 0, []),
  (51, .getfield 15, 0, 0, []),
  (54, .ldc 40, 0, 0, []),
  (56, .invokevirtual 42, 0, 0, []),
  (59, .ifCond .eq 13, 0, 72, []),
  (62, .aload_n 0, 0, 0, []),
  (63, .invokevirtual 46, 0, 0, []),
  (66, .ifCond .eq 93, 0, 159, []),
  (69, .goto 77, 0, 146, []),
  (72, .aload_n 0, 0, 0, []),
  (73, .getfield 15, 0, 0, []),
  (76, .ldc 50, 0, 0, []),
  (78, .invokevirtual 42, 0, 0, []),
  (81, .ifCond .eq 13, 0, 94, []),
  (84, .aload_n 0, 0, 0, []),
  (85, .invokevirtual 52, 0, 0, []),
  (88, .ifCond .eq 71, 0, 159, []),
  (91, .goto 55, 0, 146, []),
  (94, .aload_n 0, 0, 0, []),
  (95, .getfield 15, 0, 0, []),
  (98, .ldc 55, 0, 0, []),
  (100, .invokevirtual 42, 0, 0, []),
  (103, .ifCond .eq 13, 0, 116, []),
  (106, .aload_n 0, 0, 0, []),
  (107, .invokevirtual 57, 0, 0, []),
  (110, .ifCond .eq 49, 0, 159, []),
  (113, .goto 33, 0, 146, []),
  (116, .aload_n 0, 0, 0, []),
  (117, .getfield 15, 0, 0, []),
  (120, .ldc 60, 0, 0, []),
  (122, .invokevirtual 42, 0, 0, []),
  (125, .ifCond .eq 13, 0, 138, []),
  (128, .aload_n 0, 0, 0, []),
  (129, .invokevirtual 62, 0, 0, []),
  (132, .ifCond .eq 27, 0, 159, []),
  (135, .goto 11, 0, 146, []),
  (138, .aload_n 0, 0, 0, []),
  (139, .iconst 1, 1, 0, []),
  (140, .invokevirtual 65, 0, 0, []),
  (143, .ifCond .eq 16, 0, 159, []),
  (146, .aload_n 0, 0, 0, []),
  (147, .bipush 59, 59, 0, []),
  (149, .invokevirtual 69, 0, 0, []),
  (152, .ifCond .eq 7, 0, 159, []),
  (155, .iconst 1, 1, 0, []),
  (156, .goto 4, 0, 160, []),
  (159, .iconst 0, 0, 0, []),
  (160, .istore_n 2, 0, 0, []),
  (161, .iinc 3 1, 1, 0, []),
  (164, .goto (-135), 0, 29, []),
  (167, .aload_n 0, 0, 0, []),
  (168, .getfield 23, 0, 0, []),
  (171, .ireturn, 0, 0, [])]
set_option maxRecDepth 20000 in
theorem ckX3_readAll : eX3_readAll.all (a_eok cX3_readAll) = true := b_code [42,3,181,0,23,42,2,181,0,9,42,180,0,19,182,0,26,42,180,0,15,27,182,0,31,4,61,3,62,29,17,2,188,162,0,134,28,153,0,130,42,180,0,15,180,0,37,153,0,120,42,180,0,15,18,40,182,0,42,153,0,13,42,182,0,46,153,0,93,167,0,77,42,180,0,15,18,50,182,0,42,153,0,13,42,182,0,52,153,0,71,167,0,55,42,180,0,15,18,55,182,0,42,153,0,13,42,182,0,57,153,0,49,167,0,33,42,180,0,15,18,60,182,0,42,153,0,13,42,182,0,62,153,0,27,167,0,11,42,4,182,0,65,153,0,16,42,16,59,182,0,69,153,0,7,4,167,0,4,3,61,132,3,1,167,255,121,42,180,0,23,172] [] (by decide +kernel) (by decide +kernel) (by decide +kernel) (by decide +kernel)
noncomputable def pX3_readAll : aPrg := (eX3_readAll,
  fdX3, [(26, fX6_clear, 1, 6, 1), (31, fX5_begin, 2, 5, 1), (42, fX5_isWord, 2, 5, 0), (46, fX3_readReader, 1, 3, 0), (52, fX3_readBook, 1, 3, 0), (57, fX3_readWants, 1, 3, 0), (62, fX3_readLaw, 1, 3, 0), (65, fX3_refuse, 2, 3, 0), (69, fX3_needSign, 2, 3, 0)], [(40, .ref 1000), (50, .ref 1001), (55, .ref 1002), (60, .ref 1003)], [], [], 0, [(29, [1]), (146, [1, 2]), (159, [1, 2]), (160, [1, 2]), (167, [1, 2, 3])])
noncomputable def fX3_readAll : aMF := a_fn none shp pX3_readAll 4 2
set_option maxRecDepth 20000 in
theorem wkX6_clear : ∀ w ∈ [Cond.code yX6_clear cX6_clear 1 none, .initialized yX6_clear.cls, .instanceMethod yX6_clear, .selects yX6_clear.cls yX6_clear yX6_clear], w ∈ lw_g := a_ps [658, 98, 656, 657] rfl rfl
theorem hdX6_clear : yX6_clear.cls ≠ "java/lang/invoke/MethodHandle" ∧ yX6_clear.cls ≠ "java/lang/invoke/VarHandle" ∧ (parseMethodDescriptor yX6_clear.desc).map (fun d => d.parameters.length) = some 0 := by decide +kernel
set_option maxRecDepth 20000 in
theorem lkX3_26 : Cond.methodLink RX3 26 yX6_clear ∈ lw_g := a_p1 655 rfl rfl
set_option maxRecDepth 20000 in
theorem wkX5_begin : ∀ w ∈ [Cond.code yX5_begin cX5_begin 2 none, .initialized yX5_begin.cls, .instanceMethod yX5_begin, .selects yX5_begin.cls yX5_begin yX5_begin], w ∈ lw_g := a_ps [671, 97, 669, 670] rfl rfl
theorem hdX5_begin : yX5_begin.cls ≠ "java/lang/invoke/MethodHandle" ∧ yX5_begin.cls ≠ "java/lang/invoke/VarHandle" ∧ (parseMethodDescriptor yX5_begin.desc).map (fun d => d.parameters.length) = some 1 := by decide +kernel
set_option maxRecDepth 20000 in
theorem lkX3_31 : Cond.methodLink RX3 31 yX5_begin ∈ lw_g := a_p1 668 rfl rfl
set_option maxRecDepth 20000 in
theorem wkX3_readReader : ∀ w ∈ [Cond.code yX3_readReader cX3_readReader 1 (some .boolean), .initialized yX3_readReader.cls, .instanceMethod yX3_readReader, .selects yX3_readReader.cls yX3_readReader yX3_readReader], w ∈ lw_g := a_ps [748, 100, 747, 15] rfl rfl
theorem hdX3_readReader : yX3_readReader.cls ≠ "java/lang/invoke/MethodHandle" ∧ yX3_readReader.cls ≠ "java/lang/invoke/VarHandle" ∧ (parseMethodDescriptor yX3_readReader.desc).map (fun d => d.parameters.length) = some 0 := by decide +kernel
set_option maxRecDepth 20000 in
theorem lkX3_46 : Cond.methodLink RX3 46 yX3_readReader ∈ lw_g := a_p1 745 rfl rfl
set_option maxRecDepth 20000 in
theorem wkX3_readBook : ∀ w ∈ [Cond.code yX3_readBook cX3_readBook 4 (some .boolean), .initialized yX3_readBook.cls, .instanceMethod yX3_readBook, .selects yX3_readBook.cls yX3_readBook yX3_readBook], w ∈ lw_g := a_ps [758, 100, 757, 17] rfl rfl
theorem hdX3_readBook : yX3_readBook.cls ≠ "java/lang/invoke/MethodHandle" ∧ yX3_readBook.cls ≠ "java/lang/invoke/VarHandle" ∧ (parseMethodDescriptor yX3_readBook.desc).map (fun d => d.parameters.length) = some 0 := by decide +kernel
set_option maxRecDepth 20000 in
theorem lkX3_52 : Cond.methodLink RX3 52 yX3_readBook ∈ lw_g := a_p1 755 rfl rfl
set_option maxRecDepth 20000 in
theorem wkX3_readWants : ∀ w ∈ [Cond.code yX3_readWants cX3_readWants 2 (some .boolean), .initialized yX3_readWants.cls, .instanceMethod yX3_readWants, .selects yX3_readWants.cls yX3_readWants yX3_readWants], w ∈ lw_g := a_ps [787, 100, 786, 23] rfl rfl
theorem hdX3_readWants : yX3_readWants.cls ≠ "java/lang/invoke/MethodHandle" ∧ yX3_readWants.cls ≠ "java/lang/invoke/VarHandle" ∧ (parseMethodDescriptor yX3_readWants.desc).map (fun d => d.parameters.length) = some 0 := by decide +kernel
set_option maxRecDepth 20000 in
theorem lkX3_57 : Cond.methodLink RX3 57 yX3_readWants ∈ lw_g := a_p1 784 rfl rfl
set_option maxRecDepth 20000 in
theorem wkX3_readLaw : ∀ w ∈ [Cond.code yX3_readLaw cX3_readLaw 1 (some .boolean), .initialized yX3_readLaw.cls, .instanceMethod yX3_readLaw, .selects yX3_readLaw.cls yX3_readLaw yX3_readLaw], w ∈ lw_g := a_ps [792, 100, 791, 24] rfl rfl
theorem hdX3_readLaw : yX3_readLaw.cls ≠ "java/lang/invoke/MethodHandle" ∧ yX3_readLaw.cls ≠ "java/lang/invoke/VarHandle" ∧ (parseMethodDescriptor yX3_readLaw.desc).map (fun d => d.parameters.length) = some 0 := by decide +kernel
set_option maxRecDepth 20000 in
theorem lkX3_62 : Cond.methodLink RX3 62 yX3_readLaw ∈ lw_g := a_p1 789 rfl rfl
set_option maxRecDepth 20000 in
theorem kX3_readAll {l : Launch} {G : aG} (hZ : a_Z l G) : a_Con l G shp yX3_readAll (.code yX3_readAll cX3_readAll 4 (some .int)) 80 3045 fX3_readAll :=
  a_mth none hZ.1 hZ.2.1 shp_len (fun _ h => nomatch h) hZ.2.2.1 (by decide +kernel) rfl (foX3 rfl) (a_cok_of ⟨⟨_, z_0 hZ⟩, ⟨⟨_, z_1 hZ⟩, ⟨⟨_, z_2 hZ⟩, ⟨⟨_, z_3 hZ⟩, trivial⟩⟩⟩⟩) ckX3_readAll rfl rfl (trivial) (⟨a_CQ_v hZ.2.1 (kX6_clear hZ) lkX3_26 (a_CF_v TX6 9 wkX6_clear lkX3_26 hdX6_clear ⟨by decide, by decide⟩ rfl) rfl rfl,
    ⟨a_CQ_v hZ.2.1 (kX5_begin hZ) lkX3_31 (a_CF_v TX5 7 wkX5_begin lkX3_31 hdX5_begin ⟨by decide, by decide⟩ rfl) rfl rfl,
    ⟨a_CQ_v hZ.2.1 (kX5_isWord hZ) lkX3_42 (a_CF_v TX5 7 wkX5_isWord lkX3_42 hdX5_isWord ⟨by decide, by decide⟩ rfl) rfl rfl,
    ⟨a_CQ_v hZ.2.1 (kX3_readReader hZ) lkX3_46 (a_CF_v TX3 4 wkX3_readReader lkX3_46 hdX3_readReader ⟨by decide, by decide⟩ rfl) rfl rfl,
    ⟨a_CQ_v hZ.2.1 (kX3_readBook hZ) lkX3_52 (a_CF_v TX3 4 wkX3_readBook lkX3_52 hdX3_readBook ⟨by decide, by decide⟩ rfl) rfl rfl,
    ⟨a_CQ_v hZ.2.1 (kX3_readWants hZ) lkX3_57 (a_CF_v TX3 4 wkX3_readWants lkX3_57 hdX3_readWants ⟨by decide, by decide⟩ rfl) rfl rfl,
    ⟨a_CQ_v hZ.2.1 (kX3_readLaw hZ) lkX3_62 (a_CF_v TX3 4 wkX3_readLaw lkX3_62 hdX3_readLaw ⟨by decide, by decide⟩ rfl) rfl rfl,
    ⟨a_CQ_v hZ.2.1 (kX3_refuse hZ) lkX3_65 (a_CF_v TX3 4 wkX3_refuse lkX3_65 hdX3_refuse ⟨by decide, by decide⟩ rfl) rfl rfl,
    ⟨a_CQ_v hZ.2.1 (kX3_needSign hZ) lkX3_69 (a_CF_v TX3 4 wkX3_needSign lkX3_69 hdX3_needSign ⟨by decide, by decide⟩ rfl) rfl rfl,
    trivial⟩⟩⟩⟩⟩⟩⟩⟩⟩)
def eX4_begin : List (Nat × aEnt) := [(0, .aload_n 1, 0, 0, []),
  (1, .iconst 0, 0, 0, []),
  (2, .aload_n 0, 0, 0, []),
  (3, .getfield 9, 0, 0, []),
  (6, .iconst 0, 0, 0, []),
  (7, .bipush 6, 6, 0, []),
  (9, .invokestatic 21, 0, 0, []),
  (12, .aload_n 0, 0, 0, []),
  (13, .iconst 0, 0, 0, []),
  (14, .putfield 27, 0, 0, []),
  (17, .aload_n 0, 0, 0, []),
  (18, .iconst 0, 0, 0, []),
  (19, .putfield 31, 0, 0, []),
  (22, .return_, 0, 0, [])]
set_option maxRecDepth 20000 in
theorem ckX4_begin : eX4_begin.all (a_eok cX4_begin) = true := b_code [43,3,42,180,0,9,3,16,6,184,0,21,42,3,181,0,27,42,3,181,0,31,177] [] (by decide +kernel) (by decide +kernel) (by decide +kernel) (by decide +kernel)
noncomputable def pX4_begin : aPrg := (eX4_begin,
  fdX4, [(21, a_acp, 5, 2000, 1)], [], [], [], 2, [])
noncomputable def fX4_begin : aMF := a_fn none shp pX4_begin 2 2
set_option maxRecDepth 20000 in
theorem kX4_begin {l : Launch} {G : aG} (hZ : a_Z l G) : a_Con l G shp yX4_begin (.code yX4_begin cX4_begin 2 none) 2 60 fX4_begin :=
  a_mth none hZ.1 hZ.2.1 shp_len (fun _ h => nomatch h) hZ.2.2.1 (by decide +kernel) rfl (foX4 rfl) (a_cok_of trivial) ckX4_begin rfl rfl (trivial) (⟨q_acp hZ 572 rfl rfl rfl,
    trivial⟩)
def eX4_take : List (Nat × aEnt) := [(0, .aload_n 1, 0, 0, []),
  (1, .getfield 9, 0, 0, []),
  (4, .iconst 0, 0, 0, []),
  (5, .aload_n 0, 0, 0, []),
  (6, .getfield 9, 0, 0, []),
  (9, .iconst 0, 0, 0, []),
  (10, .bipush 6, 6, 0, []),
  (12, .invokestatic 21, 0, 0, []),
  (15, .aload_n 1, 0, 0, []),
  (16, .getfield 15, 0, 0, []),
  (19, .iconst 0, 0, 0, []),
  (20, .aload_n 0, 0, 0, []),
  (21, .getfield 15, 0, 0, []),
  (24, .iconst 0, 0, 0, []),
  (25, .sipush 800, 800, 0, []),
  (28, .invokestatic 21, 0, 0, []),
  (31, .aload_n 1, 0, 0, []),
  (32, .getfield 18, 0, 0, []),
  (35, .iconst 0, 0, 0, []),
  (36, .aload_n 0, 0, 0, []),
  (37, .getfield 18, 0, 0, []),
  (40, .iconst 0, 0, 0, []),
  (41, .bipush 24, 24, 0, []),
  (43, .invokestatic 21, 0, 0, []),
  (46, .aload_n 0, 0, 0, []),
  (47, .aload_n 1, 0, 0, []),
  (48, .getfield 27, 0, 0, []),
  (51, .putfield 27, 0, 0, []),
  (54, .aload_n 0, 0, 0, []),
  (55, .aload_n 1, 0, 0, []),
  (56, .getfield 31, 0, 0, []),
  (59, .putfield 31, 0, 0, []),
  (62, .return_, 0, 0, [])]
set_option maxRecDepth 20000 in
theorem ckX4_take : eX4_take.all (a_eok cX4_take) = true := b_code [43,180,0,9,3,42,180,0,9,3,16,6,184,0,21,43,180,0,15,3,42,180,0,15,3,17,3,32,184,0,21,43,180,0,18,3,42,180,0,18,3,16,24,184,0,21,42,43,180,0,27,181,0,27,42,43,180,0,31,181,0,31,177] [] (by decide +kernel) (by decide +kernel) (by decide +kernel) (by decide +kernel)
noncomputable def pX4_take : aPrg := (eX4_take,
  fdX4, [(21, a_acp, 5, 2000, 1)], [], [], [], 2, [])
noncomputable def fX4_take : aMF := a_fn none shp pX4_take 2 2
set_option maxRecDepth 20000 in
theorem kX4_take {l : Launch} {G : aG} (hZ : a_Z l G) : a_Con l G shp yX4_take (.code yX4_take cX4_take 2 none) 2 60 fX4_take :=
  a_mth none hZ.1 hZ.2.1 shp_len (fun _ h => nomatch h) hZ.2.2.1 (by decide +kernel) rfl (foX4 rfl) (a_cok_of trivial) ckX4_take rfl rfl (trivial) (⟨q_acp hZ 572 rfl rfl rfl,
    trivial⟩)
def eX4_tradeMove : List (Nat × aEnt) := [(0, .aload_n 0, 0, 0, []),
  (1, .getfield 15, 0, 0, []),
  (4, .iload_n 1, 0, 0, []),
  (5, .iconst 3, 3, 0, []),
  (6, .iadd, 0, 0, []),
  (7, .iaload, 0, 0, []),
  (8, .istore_n 2, 0, 0, []),
  (9, .aload_n 0, 0, 0, []),
  (10, .getfield 9, 0, 0, []),
  (13, .aload_n 0, 0, 0, []),
  (14, .getfield 15, 0, 0, []),
  (17, .iload_n 1, 0, 0, []),
  (18, .iaload, 0, 0, []),
  (19, .iload_n 2, 0, 0, []),
  (20, .iconst (-1), (-1), 0, []),
  (21, .if_icmp .ne 7, 0, 28, []),
  (24, .iconst 5, 5, 0, []),
  (25, .goto 4, 0, 29, []),
  (28, .iload_n 2, 0, 0, []),
  (29, .aload_n 0, 0, 0, []),
  (30, .getfield 15, 0, 0, []),
  (33, .iload_n 1, 0, 0, []),
  (34, .iconst 1, 1, 0, []),
  (35, .iadd, 0, 0, []),
  (36, .iaload, 0, 0, []),
  (37, .aload_n 0, 0, 0, []),
  (38, .getfield 15, 0, 0, []),
  (41, .iload_n 1, 0, 0, []),
  (42, .iconst 2, 2, 0, []),
  (43, .iadd, 0, 0, []),
  (44, .iaload, 0, 0, []),
  (45, .invokestatic 38, 0, 0, []),
  (48, .return_, 0, 0, [])]
set_option maxRecDepth 20000 in
theorem ckX4_tradeMove : eX4_tradeMove.all (a_eok cX4_tradeMove) = true := b_code [42,180,0,15,27,6,96,46,61,42,180,0,9,42,180,0,15,27,46,28,2,160,0,7,8,167,0,4,28,42,180,0,15,27,4,96,46,42,180,0,15,27,5,96,46,184,0,38,177] [] (by decide +kernel) (by decide +kernel) (by decide +kernel) (by decide +kernel)
noncomputable def pX4_tradeMove : aPrg := (eX4_tradeMove,
  fdX4, [(38, fX8_trade, 5, 2000, 1)], [], [], [], 2, [(29, [2])])
noncomputable def fX4_tradeMove : aMF := a_fn none shp pX4_tradeMove 3 2
set_option maxRecDepth 20000 in
theorem kX4_tradeMove {l : Launch} {G : aG} (hZ : a_Z l G) : a_Con l G shp yX4_tradeMove (.code yX4_tradeMove cX4_tradeMove 3 none) 2 41 fX4_tradeMove :=
  a_mth none hZ.1 hZ.2.1 shp_len (fun _ h => nomatch h) hZ.2.2.1 (by decide +kernel) rfl (foX4 rfl) (a_cok_of trivial) ckX4_tradeMove rfl rfl (trivial) (⟨a_CQ_sn hZ.2.1 (kX8_trade hZ) (a_CF_sn wkX8_trade "StoutShelf" 454 rfl hdX8_trade) (a_fn_nt rfl rfl) rfl rfl,
    trivial⟩)
def eX4_writeMove : List (Nat × aEnt) := [(0, .iconst 4, 4, 0, []),
  (1, .aload_n 0, 0, 0, []),
  (2, .getfield 27, 0, 0, []),
  (5, .imul, 0, 0, []),
  (6, .istore 5, 0, 0, []),
  (8, .aload_n 0, 0, 0, []),
  (9, .getfield 15, 0, 0, []),
  (12, .iload 5, 0, 0, []),
  (14, .iload_n 1, 0, 0, []),
  (15, .iastore, 0, 0, []),
  (16, .aload_n 0, 0, 0, []),
  (17, .getfield 15, 0, 0, []),
  (20, .iload 5, 0, 0, []),
  (22, .iconst 1, 1, 0, []),
  (23, .iadd, 0, 0, []),
  (24, .iload_n 2, 0, 0, []),
  (25, .iastore, 0, 0, []),
  (26, .aload_n 0, 0, 0, []),
  (27, .getfield 15, 0, 0, []),
  (30, .iload 5, 0, 0, []),
  (32, .iconst 2, 2, 0, []),
  (33, .iadd, 0, 0, []),
  (34, .iload_n 3, 0, 0, []),
  (35, .iastore, 0, 0, []),
  (36, .aload_n 0, 0, 0, []),
  (37, .getfield 15, 0, 0, []),
  (40, .iload 5, 0, 0, []),
  (42, .iconst 3, 3, 0, []),
  (43, .iadd, 0, 0, []),
  (44, .iload 4, 0, 0, []),
  (46, .iastore, 0, 0, []),
  (47, .aload_n 0, 0, 0, []),
  (48, .dup, 0, 0, []),
  (49, .getfield 27, 0, 0, []),
  (52, .iconst 1, 1, 0, []),
  (53, .iadd, 0, 0, []),
  (54, .putfield 27, 0, 0, []),
  (57, .aload_n 0, 0, 0, []),
  (58, .iload 5, 0, 0, []),
  (60, .invokevirtual 34, 0, 0, []),
  (63, .return_, 0, 0, [])]
set_option maxRecDepth 20000 in
theorem ckX4_writeMove : eX4_writeMove.all (a_eok cX4_writeMove) = true := b_code [7,42,180,0,27,104,54,5,42,180,0,15,21,5,27,79,42,180,0,15,21,5,4,96,28,79,42,180,0,15,21,5,5,96,29,79,42,180,0,15,21,5,6,96,21,4,79,42,89,180,0,27,4,96,181,0,27,42,21,5,182,0,34,177] [] (by decide +kernel) (by decide +kernel) (by decide +kernel) (by decide +kernel)
noncomputable def pX4_writeMove : aPrg := (eX4_writeMove,
  fdX4, [(34, fX4_tradeMove, 2, 4, 1)], [], [], [], 2, [])
noncomputable def fX4_writeMove : aMF := a_fn none shp pX4_writeMove 6 5
set_option maxRecDepth 20000 in
theorem wkX4_tradeMove : ∀ w ∈ [Cond.code yX4_tradeMove cX4_tradeMove 3 none, .initialized yX4_tradeMove.cls, .instanceMethod yX4_tradeMove, .selects yX4_tradeMove.cls yX4_tradeMove yX4_tradeMove], w ∈ lw_g := a_ps [453, 101, 452, 3] rfl rfl
theorem hdX4_tradeMove : yX4_tradeMove.cls ≠ "java/lang/invoke/MethodHandle" ∧ yX4_tradeMove.cls ≠ "java/lang/invoke/VarHandle" ∧ (parseMethodDescriptor yX4_tradeMove.desc).map (fun d => d.parameters.length) = some 1 := by decide +kernel
set_option maxRecDepth 20000 in
theorem lkX4_34 : Cond.methodLink RX4 34 yX4_tradeMove ∈ lw_g := a_p1 450 rfl rfl
set_option maxRecDepth 20000 in
theorem kX4_writeMove {l : Launch} {G : aG} (hZ : a_Z l G) : a_Con l G shp yX4_writeMove (.code yX4_writeMove cX4_writeMove 6 none) 3 63 fX4_writeMove :=
  a_mth none hZ.1 hZ.2.1 shp_len (fun _ h => nomatch h) hZ.2.2.1 (by decide +kernel) rfl (foX4 rfl) (a_cok_of trivial) ckX4_writeMove rfl rfl (trivial) (⟨a_CQ_v hZ.2.1 (kX4_tradeMove hZ) lkX4_34 (a_CF_v TX4 5 wkX4_tradeMove lkX4_34 hdX4_tradeMove ⟨by decide, by decide⟩ rfl) rfl rfl,
    trivial⟩)
def eX4_takeBackMove : List (Nat × aEnt) := [(0, .aload_n 0, 0, 0, []),
  (1, .dup, 0, 0, []),
  (2, .getfield 27, 0, 0, []),
  (5, .iconst 1, 1, 0, []),
  (6, .isub, 0, 0, []),
  (7, .putfield 27, 0, 0, []),
  (10, .aload_n 0, 0, 0, []),
  (11, .iconst 4, 4, 0, []),
  (12, .aload_n 0, 0, 0, []),
  (13, .getfield 27, 0, 0, []),
  (16, .imul, 0, 0, []),
  (17, .invokevirtual 34, 0, 0, []),
  (20, .return_, 0, 0, [])]
set_option maxRecDepth 20000 in
theorem ckX4_takeBackMove : eX4_takeBackMove.all (a_eok cX4_takeBackMove) = true := b_code [42,89,180,0,27,4,100,181,0,27,42,7,42,180,0,27,104,182,0,34,177] [] (by decide +kernel) (by decide +kernel) (by decide +kernel) (by decide +kernel)
noncomputable def pX4_takeBackMove : aPrg := (eX4_takeBackMove,
  fdX4, [(34, fX4_tradeMove, 2, 4, 1)], [], [], [], 2, [])
noncomputable def fX4_takeBackMove : aMF := a_fn none shp pX4_takeBackMove 1 1
set_option maxRecDepth 20000 in
theorem kX4_takeBackMove {l : Launch} {G : aG} (hZ : a_Z l G) : a_Con l G shp yX4_takeBackMove (.code yX4_takeBackMove cX4_takeBackMove 1 none) 3 63 fX4_takeBackMove :=
  a_mth none hZ.1 hZ.2.1 shp_len (fun _ h => nomatch h) hZ.2.2.1 (by decide +kernel) rfl (foX4 rfl) (a_cok_of trivial) ckX4_takeBackMove rfl rfl (trivial) (⟨a_CQ_v hZ.2.1 (kX4_tradeMove hZ) lkX4_34 (a_CF_v TX4 5 wkX4_tradeMove lkX4_34 hdX4_tradeMove ⟨by decide, by decide⟩ rfl) rfl rfl,
    trivial⟩)
def eX4_writeEvent : List (Nat × aEnt) := [(0, .iconst 3, 3, 0, []),
  (1, .aload_n 0, 0, 0, []),
  (2, .getfield 31, 0, 0, []),
  (5, .imul, 0, 0, []),
  (6, .istore 4, 0, 0, []),
  (8, .aload_n 0, 0, 0, []),
  (9, .getfield 18, 0, 0, []),
  (12, .iload 4, 0, 0, []),
  (14, .iload_n 1, 0, 0, []),
  (15, .iastore, 0, 0, []),
  (16, .aload_n 0, 0, 0, []),
  (17, .getfield 18, 0, 0, []),
  (20, .iload 4, 0, 0, []),
  (22, .iconst 1, 1, 0, []),
  (23, .iadd, 0, 0, []),
  (24, .iload_n 2, 0, 0, []),
  (25, .iastore, 0, 0, []),
  (26, .aload_n 0, 0, 0, []),
  (27, .getfield 18, 0, 0, []),
  (30, .iload 4, 0, 0, []),
  (32, .iconst 2, 2, 0, []),
  (33, .iadd, 0, 0, []),
  (34, .iload_n 3, 0, 0, []),
  (35, .iastore, 0, 0, []),
  (36, .aload_n 0, 0, 0, []),
  (37, .dup, 0, 0, []),
  (38, .getfield 31, 0, 0, []),
  (41, .iconst 1, 1, 0, []),
  (42, .iadd, 0, 0, []),
  (43, .putfield 31, 0, 0, []),
  (46, .return_, 0, 0, [])]
set_option maxRecDepth 20000 in
theorem ckX4_writeEvent : eX4_writeEvent.all (a_eok cX4_writeEvent) = true := b_code [6,42,180,0,31,104,54,4,42,180,0,18,21,4,27,79,42,180,0,18,21,4,4,96,28,79,42,180,0,18,21,4,5,96,29,79,42,89,180,0,31,4,96,181,0,31,177] [] (by decide +kernel) (by decide +kernel) (by decide +kernel) (by decide +kernel)
noncomputable def pX4_writeEvent : aPrg := (eX4_writeEvent,
  fdX4, [], [], [], [], 2, [])
noncomputable def fX4_writeEvent : aMF := a_fn none shp pX4_writeEvent 5 4
set_option maxRecDepth 20000 in
theorem kX4_writeEvent {l : Launch} {G : aG} (hZ : a_Z l G) : a_Con l G shp yX4_writeEvent (.code yX4_writeEvent cX4_writeEvent 5 none) 1 16 fX4_writeEvent :=
  a_mth none hZ.1 hZ.2.1 shp_len (fun _ h => nomatch h) hZ.2.2.1 (by decide +kernel) rfl (foX4 rfl) (a_cok_of trivial) ckX4_writeEvent rfl rfl (trivial) (trivial)
def eX4_isMoved : List (Nat × aEnt) := [(0, .iconst 4, 4, 0, []),
  (1, .iload_n 2, 0, 0, []),
  (2, .imul, 0, 0, []),
  (3, .istore_n 3, 0, 0, []),
  (4, .aload_n 0, 0, 0, []),
  (5, .getfield 15, 0, 0, []),
  (8, .iload_n 3, 0, 0, []),
  (9, .iconst 1, 1, 0, []),
  (10, .iadd, 0, 0, []),
  (11, .iaload, 0, 0, []),
  (12, .iload_n 1, 0, 0, []),
  (13, .if_icmp .eq 15, 0, 28, []),
  (16, .aload_n 0, 0, 0, []),
  (17, .getfield 15, 0, 0, []),
  (20, .iload_n 3, 0, 0, []),
  (21, .iconst 2, 2, 0, []),
  (22, .iadd, 0, 0, []),
  (23, .iaload, 0, 0, []),
  (24, .iload_n 1, 0, 0, []),
  (25, .if_icmp .ne 7, 0, 32, []),
  (28, .iconst 1, 1, 0, []),
  (29, .goto 4, 0, 33, []),
  (32, .iconst 0, 0, 0, []),
  (33, .ireturn, 0, 0, [])]
set_option maxRecDepth 20000 in
theorem ckX4_isMoved : eX4_isMoved.all (a_eok cX4_isMoved) = true := b_code [7,28,104,62,42,180,0,15,29,4,96,46,27,159,0,15,42,180,0,15,29,5,96,46,27,160,0,7,4,167,0,4,3,172] [] (by decide +kernel) (by decide +kernel) (by decide +kernel) (by decide +kernel)
noncomputable def pX4_isMoved : aPrg := (eX4_isMoved,
  fdX4, [], [], [], [], 1, [(28, [0, 1, 2, 3]), (33, [0, 1, 2, 3])])
noncomputable def fX4_isMoved : aMF := a_fn none shp pX4_isMoved 4 3
set_option maxRecDepth 20000 in
theorem kX4_isMoved {l : Launch} {G : aG} (hZ : a_Z l G) : a_Con l G shp yX4_isMoved (.code yX4_isMoved cX4_isMoved 4 (some .boolean)) 1 16 fX4_isMoved :=
  a_mth none hZ.1 hZ.2.1 shp_len (fun _ h => nomatch h) hZ.2.2.1 (by decide +kernel) rfl (foX4 rfl) (a_cok_of trivial) ckX4_isMoved rfl rfl (trivial) (trivial)
def eX4_changesOf : List (Nat × aEnt) := [(0, .iconst 0, 0, 0, []),
  (1, .istore_n 2, 0, 0, []),
  (2, .iconst 0, 0, 0, []),
  (3, .istore_n 3, 0, 0, []),
  (4, .iload_n 3, 0, 0, []),
  (5, .aload_n 0, 0, 0, []),
  (6, .getfield 27, 0, 0, []),
  (9, .if_icmp .ge 21, 0, 30, []),
  (12, .aload_n 0, 0, 0, []),
  (13, .iload_n 1, 0, 0, []),
  (14, .iload_n 3, 0, 0, []),
  (15, .invokevirtual 42, 0, 0, []),
  (18, .ifCond .eq 6, 0, 24, []),
  (21, .iinc 2 1, 1, 0, []),
  (24, .iinc 3 1, 1, 0, []),
  (27, .goto (-23), 0, 4, []),
  (30, .iload_n 2, 0, 0, []),
  (31, .ireturn, 0, 0, [])]
set_option maxRecDepth 20000 in
theorem ckX4_changesOf : eX4_changesOf.all (a_eok cX4_changesOf) = true := b_code [3,61,3,62,29,42,180,0,27,162,0,21,42,27,29,182,0,42,153,0,6,132,2,1,132,3,1,167,255,233,28,172] [] (by decide +kernel) (by decide +kernel) (by decide +kernel) (by decide +kernel)
noncomputable def pX4_changesOf : aPrg := (eX4_changesOf,
  fdX4, [(42, fX4_isMoved, 3, 4, 0)], [], [], [], 0, [])
noncomputable def fX4_changesOf : aMF := a_fn none shp pX4_changesOf 4 2
set_option maxRecDepth 20000 in
theorem wkX4_isMoved : ∀ w ∈ [Cond.code yX4_isMoved cX4_isMoved 4 (some .boolean), .initialized yX4_isMoved.cls, .instanceMethod yX4_isMoved, .selects yX4_isMoved.cls yX4_isMoved yX4_isMoved], w ∈ lw_g := a_ps [1115, 101, 1114, 51] rfl rfl
theorem hdX4_isMoved : yX4_isMoved.cls ≠ "java/lang/invoke/MethodHandle" ∧ yX4_isMoved.cls ≠ "java/lang/invoke/VarHandle" ∧ (parseMethodDescriptor yX4_isMoved.desc).map (fun d => d.parameters.length) = some 2 := by decide +kernel
set_option maxRecDepth 20000 in
theorem lkX4_42 : Cond.methodLink RX4 42 yX4_isMoved ∈ lw_g := a_p1 1112 rfl rfl
set_option maxRecDepth 20000 in
theorem kX4_changesOf {l : Launch} {G : aG} (hZ : a_Z l G) : a_Con l G shp yX4_changesOf (.code yX4_changesOf cX4_changesOf 4 (some .int)) 2 39 fX4_changesOf :=
  a_mth none hZ.1 hZ.2.1 shp_len (fun _ h => nomatch h) hZ.2.2.1 (by decide +kernel) rfl (foX4 rfl) (a_cok_of trivial) ckX4_changesOf rfl rfl (trivial) (⟨a_CQ_v hZ.2.1 (kX4_isMoved hZ) lkX4_42 (a_CF_v TX4 5 wkX4_isMoved lkX4_42 hdX4_isMoved ⟨by decide, by decide⟩ rfl) rfl rfl,
    trivial⟩)
def eX4_placeAfterChange : List (Nat × aEnt) := [(0, .iconst 0, 0, 0, []),
  (1, .istore_n 3, 0, 0, []),
  (2, .iconst 0, 0, 0, []),
  (3, .istore 4, 0, 0, []),
  (5, .iload 4, 0, 0, []),
  (7, .aload_n 0, 0, 0, []),
  (8, .getfield 27, 0, 0, []),
  (11, .if_icmp .ge 66, 0, 77, []),
  (14, .aload_n 0, 0, 0, []),
  (15, .iload_n 1, 0, 0, []),
  (16, .iload 4, 0, 0, []),
  (18, .invokevirtual 42, 0, 0, []),
  (21, .ifCond .eq 50, 0, 71, []),
  (24, .iinc 3 1, 1, 0, []),
  (27, .iload_n 3, 0, 0, []),
  (28, .iload_n 2, 0, 0, []),
  (29, .if_icmp .ne 42, 0, 71, []),
  (32, .iconst 4, 4, 0, []),
  (33, .iload 4, 0, 0, []),
  (35, .imul, 0, 0, []),
  (36, .istore 5, 0, 0, []),
  (38, .aload_n 0, 0, 0, []),
  (39, .getfield 15, 0, 0, []),
  (42, .iload 5, 0, 0, []),
  (44, .iconst 1, 1, 0, []),
  (45, .iadd, 0, 0, []),
  (46, .iaload, 0, 0, []),
  (47, .iload_n 1, 0, 0, []),
  (48, .if_icmp .ne 15, 0, 63, []),
  (51, .aload_n 0, 0, 0, []),
  (52, .getfield 15, 0, 0, []),
  (55, .iload 5, 0, 0, []),
  (57, .iconst 3, 3, 0, []),
  (58, .iadd, 0, 0, []),
  (59, .iaload, 0, 0, []),
  (60, .goto 10, 0, 70, []),
  (63, .aload_n 0, 0, 0, []),
  (64, .getfield 15, 0, 0, []),
  (67, .iload 5, 0, 0, []),
  (69, .iaload, 0, 0, []),
  (70, .ireturn, 0, 0, []),
  (71, .iinc 4 1, 1, 0, []),
  (74, .goto (-69), 0, 5, []),
  (77, .iconst (-1), (-1), 0, []),
  (78, .ireturn, 0, 0, [])]
set_option maxRecDepth 20000 in
theorem ckX4_placeAfterChange : eX4_placeAfterChange.all (a_eok cX4_placeAfterChange) = true := b_code [3,62,3,54,4,21,4,42,180,0,27,162,0,66,42,27,21,4,182,0,42,153,0,50,132,3,1,29,28,160,0,42,7,21,4,104,54,5,42,180,0,15,21,5,4,96,46,27,160,0,15,42,180,0,15,21,5,6,96,46,167,0,10,42,180,0,15,21,5,46,172,132,4,1,167,255,187,2,172] [] (by decide +kernel) (by decide +kernel) (by decide +kernel) (by decide +kernel)
noncomputable def pX4_placeAfterChange : aPrg := (eX4_placeAfterChange,
  fdX4, [(42, fX4_isMoved, 3, 4, 0)], [], [], [], 0, [(5, [5]), (70, [0, 1, 2, 3, 4, 5]), (71, [5])])
noncomputable def fX4_placeAfterChange : aMF := a_fn none shp pX4_placeAfterChange 6 3
set_option maxRecDepth 20000 in
theorem kX4_placeAfterChange {l : Launch} {G : aG} (hZ : a_Z l G) : a_Con l G shp yX4_placeAfterChange (.code yX4_placeAfterChange cX4_placeAfterChange 6 (some .int)) 2 39 fX4_placeAfterChange :=
  a_mth none hZ.1 hZ.2.1 shp_len (fun _ h => nomatch h) hZ.2.2.1 (by decide +kernel) rfl (foX4 rfl) (a_cok_of trivial) ckX4_placeAfterChange rfl rfl (trivial) (⟨a_CQ_v hZ.2.1 (kX4_isMoved hZ) lkX4_42 (a_CF_v TX4 5 wkX4_isMoved lkX4_42 hdX4_isMoved ⟨by decide, by decide⟩ rfl) rfl rfl,
    trivial⟩)
def eX5_put : List (Nat × aEnt) := [(0, .aload_n 0, 0, 0, []),
  (1, .getfield 15, 0, 0, []),
  (4, .sipush 696, 696, 0, []),
  (7, .if_icmp .le 4, 0, 11, []),
  (10, .return_, 0, 0, []),
  (11, .aload_n 0, 0, 0, []),
  (12, .getfield 9, 0, 0, []),
  (15, .aload_n 0, 0, 0, []),
  (16, .getfield 15, 0, 0, []),
  (19, .iload_n 1, 0, 0, []),
  (20, .bipush 24, 24, 0, []),
  (22, .iushr, 0, 0, []),
  (23, .i2b, 0, 0, []),
  (24, .bastore, 0, 0, []),
  (25, .aload_n 0, 0, 0, []),
  (26, .getfield 9, 0, 0, []),
  (29, .aload_n 0, 0, 0, []),
  (30, .getfield 15, 0, 0, []),
  (33, .iconst 1, 1, 0, []),
  (34, .iadd, 0, 0, []),
  (35, .iload_n 1, 0, 0, []),
  (36, .bipush 16, 16, 0, []),
  (38, .iushr, 0, 0, []),
  (39, .i2b, 0, 0, []),
  (40, .bastore, 0, 0, []),
  (41, .aload_n 0, 0, 0, []),
  (42, .getfield 9, 0, 0, []),
  (45, .aload_n 0, 0, 0, []),
  (46, .getfield 15, 0, 0, []),
  (49, .iconst 2, 2, 0, []),
  (50, .iadd, 0, 0, []),
  (51, .iload_n 1, 0, 0, []),
  (52, .bipush 8, 8, 0, []),
  (54, .iushr, 0, 0, []),
  (55, .i2b, 0, 0, []),
  (56, .bastore, 0, 0, []),
  (57, .aload_n 0, 0, 0, []),
  (58, .getfield 9, 0, 0, []),
  (61, .aload_n 0, 0, 0, []),
  (62, .getfield 15, 0, 0, []),
  (65, .iconst 3, 3, 0, []),
  (66, .iadd, 0, 0, []),
  (67, .iload_n 1, 0, 0, []),
  (68, .i2b, 0, 0, []),
  (69, .bastore, 0, 0, []),
  (70, .aload_n 0, 0, 0, []),
  (71, .dup, 0, 0, []),
  (72, .getfield 15, 0, 0, []),
  (75, .iconst 4, 4, 0, []),
  (76, .iadd, 0, 0, []),
  (77, .putfield 15, 0, 0, []),
  (80, .return_, 0, 0, [])]
set_option maxRecDepth 20000 in
theorem ckX5_put : eX5_put.all (a_eok cX5_put) = true := b_code [42,180,0,15,17,2,184,164,0,4,177,42,180,0,9,42,180,0,15,27,16,24,124,145,84,42,180,0,9,42,180,0,15,4,96,27,16,16,124,145,84,42,180,0,9,42,180,0,15,5,96,27,16,8,124,145,84,42,180,0,9,42,180,0,15,6,96,27,145,84,42,89,180,0,15,7,96,181,0,15,177] [] (by decide +kernel) (by decide +kernel) (by decide +kernel) (by decide +kernel)
noncomputable def pX5_put : aPrg := (eX5_put,
  fdX5, [], [], [], [], 2, [])
noncomputable def fX5_put : aMF := a_fn none shp pX5_put 2 2
set_option maxRecDepth 20000 in
theorem kX5_put {l : Launch} {G : aG} (hZ : a_Z l G) : a_Con l G shp yX5_put (.code yX5_put cX5_put 2 none) 1 16 fX5_put :=
  a_mth none hZ.1 hZ.2.1 shp_len (fun _ h => nomatch h) hZ.2.2.1 (by decide +kernel) rfl (foX5 rfl) (a_cok_of trivial) ckX5_put rfl rfl (trivial) (trivial)
def eX6_take : List (Nat × aEnt) := [(0, .aload_n 0, 0, 0, []),
  (1, .aload_n 1, 0, 0, []),
  (2, .getfield 34, 0, 0, []),
  (5, .putfield 34, 0, 0, []),
  (8, .aload_n 0, 0, 0, []),
  (9, .aload_n 1, 0, 0, []),
  (10, .getfield 38, 0, 0, []),
  (13, .putfield 38, 0, 0, []),
  (16, .aload_n 0, 0, 0, []),
  (17, .getfield 12, 0, 0, []),
  (20, .aload_n 1, 0, 0, []),
  (21, .getfield 12, 0, 0, []),
  (24, .invokevirtual 58, 0, 0, []),
  (27, .aload_n 1, 0, 0, []),
  (28, .getfield 18, 0, 0, []),
  (31, .iconst 0, 0, 0, []),
  (32, .aload_n 0, 0, 0, []),
  (33, .getfield 18, 0, 0, []),
  (36, .iconst 0, 0, 0, []),
  (37, .bipush 48, 48, 0, []),
  (39, .invokestatic 62, 0, 0, []),
  (42, .aload_n 1, 0, 0, []),
  (43, .getfield 22, 0, 0, []),
  (46, .iconst 0, 0, 0, []),
  (47, .aload_n 0, 0, 0, []),
  (48, .getfield 22, 0, 0, []),
  (51, .iconst 0, 0, 0, []),
  (52, .iconst 5, 5, 0, []),
  (53, .invokestatic 62, 0, 0, []),
  (56, .aload_n 1, 0, 0, []),
  (57, .getfield 25, 0, 0, []),
  (60, .iconst 0, 0, 0, []),
  (61, .aload_n 0, 0, 0, []),
  (62, .getfield 25, 0, 0, []),
  (65, .iconst 0, 0, 0, []),
  (66, .bipush 6, 6, 0, []),
  (68, .invokestatic 62, 0, 0, []),
  (71, .return_, 0, 0, [])]
set_option maxRecDepth 20000 in
theorem ckX6_take : eX6_take.all (a_eok cX6_take) = true := b_code [42,43,180,0,34,181,0,34,42,43,180,0,38,181,0,38,42,180,0,12,43,180,0,12,182,0,58,43,180,0,18,3,42,180,0,18,3,16,48,184,0,62,43,180,0,22,3,42,180,0,22,3,8,184,0,62,43,180,0,25,3,42,180,0,25,3,16,6,184,0,62,177] [] (by decide +kernel) (by decide +kernel) (by decide +kernel) (by decide +kernel)
noncomputable def pX6_take : aPrg := (eX6_take,
  fdX6, [(58, fX1_take, 2, 1, 1), (62, a_acp, 5, 2000, 1)], [], [], [], 2, [])
noncomputable def fX6_take : aMF := a_fn none shp pX6_take 2 2
set_option maxRecDepth 20000 in
theorem wkX1_take : ∀ w ∈ [Cond.code yX1_take cX1_take 2 none, .initialized yX1_take.cls, .instanceMethod yX1_take, .selects yX1_take.cls yX1_take yX1_take], w ∈ lw_g := a_ps [850, 99, 848, 849] rfl rfl
theorem hdX1_take : yX1_take.cls ≠ "java/lang/invoke/MethodHandle" ∧ yX1_take.cls ≠ "java/lang/invoke/VarHandle" ∧ (parseMethodDescriptor yX1_take.desc).map (fun d => d.parameters.length) = some 1 := by decide +kernel
set_option maxRecDepth 20000 in
theorem lkX6_58 : Cond.methodLink RX6 58 yX1_take ∈ lw_g := a_p1 847 rfl rfl
set_option maxRecDepth 20000 in
theorem kX6_take {l : Launch} {G : aG} (hZ : a_Z l G) : a_Con l G shp yX6_take (.code yX6_take cX6_take 2 none) 3 81 fX6_take :=
  a_mth none hZ.1 hZ.2.1 shp_len (fun _ h => nomatch h) hZ.2.2.1 (by decide +kernel) rfl (foX6 rfl) (a_cok_of trivial) ckX6_take rfl rfl (trivial) (⟨a_CQ_v hZ.2.1 (kX1_take hZ) lkX6_58 (a_CF_v TX1 4 wkX1_take lkX6_58 hdX1_take ⟨by decide, by decide⟩ rfl) rfl rfl,
    ⟨q_acp hZ 852 rfl rfl rfl,
    trivial⟩⟩)
def eX6_pagesWithMore : List (Nat × aEnt) := [(0, .iconst 4, 4, 0, []),
  (1, .iload_n 1, 0, 0, []),
  (2, .imul, 0, 0, []),
  (3, .istore_n 3, 0, 0, []),
  (4, .aload_n 0, 0, 0, []),
  (5, .getfield 12, 0, 0, []),
  (8, .aload_n 0, 0, 0, []),
  (9, .getfield 18, 0, 0, []),
  (12, .iload_n 3, 0, 0, []),
  (13, .iaload, 0, 0, []),
  (14, .aload_n 0, 0, 0, []),
  (15, .getfield 18, 0, 0, []),
  (18, .iload_n 3, 0, 0, []),
  (19, .iconst 1, 1, 0, []),
  (20, .iadd, 0, 0, []),
  (21, .iaload, 0, 0, []),
  (22, .iload_n 2, 0, 0, []),
  (23, .iadd, 0, 0, []),
  (24, .aload_n 0, 0, 0, []),
  (25, .getfield 18, 0, 0, []),
  (28, .iload_n 3, 0, 0, []),
  (29, .iconst 2, 2, 0, []),
  (30, .iadd, 0, 0, []),
  (31, .iaload, 0, 0, []),
  (32, .aload_n 0, 0, 0, []),
  (33, .getfield 18, 0, 0, []),
  (36, .iload_n 3, 0, 0, []),
  (37, .iconst 3, 3, 0, []),
  (38, .iadd, 0, 0, []),
  (39, .iaload, 0, 0, []),
  (40, .invokevirtual 76, 0, 0, []),
  (43, .ireturn, 0, 0, [])]
set_option maxRecDepth 20000 in
theorem ckX6_pagesWithMore : eX6_pagesWithMore.all (a_eok cX6_pagesWithMore) = true := b_code [7,27,104,62,42,180,0,12,42,180,0,18,29,46,42,180,0,18,29,4,96,46,28,96,42,180,0,18,29,5,96,46,42,180,0,18,29,6,96,46,182,0,76,172] [] (by decide +kernel) (by decide +kernel) (by decide +kernel) (by decide +kernel)
noncomputable def pX6_pagesWithMore : aPrg := (eX6_pagesWithMore,
  fdX6, [(76, fX1_reckon, 5, 1, 0)], [], [], [], 0, [])
noncomputable def fX6_pagesWithMore : aMF := a_fn none shp pX6_pagesWithMore 4 3
set_option maxRecDepth 20000 in
theorem wkX1_reckon : ∀ w ∈ [Cond.code yX1_reckon cX1_reckon 7 (some .int), .initialized yX1_reckon.cls, .instanceMethod yX1_reckon, .selects yX1_reckon.cls yX1_reckon yX1_reckon], w ∈ lw_g := a_ps [864, 99, 862, 863] rfl rfl
theorem hdX1_reckon : yX1_reckon.cls ≠ "java/lang/invoke/MethodHandle" ∧ yX1_reckon.cls ≠ "java/lang/invoke/VarHandle" ∧ (parseMethodDescriptor yX1_reckon.desc).map (fun d => d.parameters.length) = some 4 := by decide +kernel
set_option maxRecDepth 20000 in
theorem lkX6_76 : Cond.methodLink RX6 76 yX1_reckon ∈ lw_g := a_p1 861 rfl rfl
set_option maxRecDepth 20000 in
theorem kX6_pagesWithMore {l : Launch} {G : aG} (hZ : a_Z l G) : a_Con l G shp yX6_pagesWithMore (.code yX6_pagesWithMore cX6_pagesWithMore 4 (some .int)) 5 105 fX6_pagesWithMore :=
  a_mth none hZ.1 hZ.2.1 shp_len (fun _ h => nomatch h) hZ.2.2.1 (by decide +kernel) rfl (foX6 rfl) (a_cok_of trivial) ckX6_pagesWithMore rfl rfl (trivial) (⟨a_CQ_v hZ.2.1 (kX1_reckon hZ) lkX6_76 (a_CF_v TX1 4 wkX1_reckon lkX6_76 hdX1_reckon ⟨by decide, by decide⟩ rfl) rfl rfl,
    trivial⟩)
def eX6_booksUnder : List (Nat × aEnt) := [(0, .iconst 0, 0, 0, []),
  (1, .istore_n 2, 0, 0, []),
  (2, .iconst 0, 0, 0, []),
  (3, .istore_n 3, 0, 0, []),
  (4, .iload_n 3, 0, 0, []),
  (5, .aload_n 0, 0, 0, []),
  (6, .getfield 34, 0, 0, []),
  (9, .if_icmp .ge 25, 0, 34, []),
  (12, .aload_n 0, 0, 0, []),
  (13, .getfield 28, 0, 0, []),
  (16, .iload_n 3, 0, 0, []),
  (17, .iaload, 0, 0, []),
  (18, .iload_n 1, 0, 0, []),
  (19, .if_icmp .ge 9, 0, 28, []),
  (22, .iload_n 2, 0, 0, []),
  (23, .iconst 1, 1, 0, []),
  (24, .iload_n 3, 0, 0, []),
  (25, .ishl, 0, 0, []),
  (26, .ior, 0, 0, []),
  (27, .istore_n 2, 0, 0, []),
  (28, .iinc 3 1, 1, 0, []),
  (31, .goto (-27), 0, 4, []),
  (34, .iload_n 2, 0, 0, []),
  (35, .ireturn, 0, 0, [])]
set_option maxRecDepth 20000 in
theorem ckX6_booksUnder : eX6_booksUnder.all (a_eok cX6_booksUnder) = true := b_code [3,61,3,62,29,42,180,0,34,162,0,25,42,180,0,28,29,46,27,162,0,9,28,4,29,120,128,61,132,3,1,167,255,229,28,172] [] (by decide +kernel) (by decide +kernel) (by decide +kernel) (by decide +kernel)
noncomputable def pX6_booksUnder : aPrg := (eX6_booksUnder,
  fdX6, [], [], [], [], 0, [])
noncomputable def fX6_booksUnder : aMF := a_fn none shp pX6_booksUnder 4 2
set_option maxRecDepth 20000 in
theorem kX6_booksUnder {l : Launch} {G : aG} (hZ : a_Z l G) : a_Con l G shp yX6_booksUnder (.code yX6_booksUnder cX6_booksUnder 4 (some .int)) 1 16 fX6_booksUnder :=
  a_mth none hZ.1 hZ.2.1 shp_len (fun _ h => nomatch h) hZ.2.2.1 (by decide +kernel) rfl (foX6 rfl) (a_cok_of trivial) ckX6_booksUnder rfl rfl (trivial) (trivial)
def eX6_reckon : List (Nat × aEnt) := [(0, .iconst 0, 0, 0, []),
  (1, .istore_n 1, 0, 0, []),
  (2, .iload_n 1, 0, 0, []),
  (3, .aload_n 0, 0, 0, []),
  (4, .getfield 34, 0, 0, []),
  (7, .if_icmp .ge 21, 0, 28, []),
  (10, .aload_n 0, 0, 0, []),
  (11, .getfield 28, 0, 0, []),
  (14, .iload_n 1, 0, 0, []),
  (15, .aload_n 0, 0, 0, []),
  (16, .iload_n 1, 0, 0, []),
  (17, .iconst 0, 0, 0, []),
  (18, .invokevirtual 68, 0, 0, []),
  (21, .iastore, 0, 0, []),
  (22, .iinc 1 1, 1, 0, []),
  (25, .goto (-23), 0, 2, []),
  (28, .iconst 0, 0, 0, []),
  (29, .istore_n 1, 0, 0, []),
  (30, .iload_n 1, 0, 0, []),
  (31, .aload_n 0, 0, 0, []),
  (32, .getfield 34, 0, 0, []),
  (35, .if_icmp .ge 25, 0, 60, []),
  (38, .aload_n 0, 0, 0, []),
  (39, .getfield 31, 0, 0, []),
  (42, .iload_n 1, 0, 0, []),
  (43, .aload_n 0, 0, 0, []),
  (44, .aload_n 0, 0, 0, []),
  (45, .getfield 28, 0, 0, []),
  (48, .iload_n 1, 0, 0, []),
  (49, .iaload, 0, 0, []),
  (50, .invokevirtual 72, 0, 0, []),
  (53, .iastore, 0, 0, []),
  (54, .iinc 1 1, 1, 0, []),
  (57, .goto (-27), 0, 30, []),
  (60, .return_, 0, 0, [])]
set_option maxRecDepth 20000 in
theorem ckX6_reckon : eX6_reckon.all (a_eok cX6_reckon) = true := b_code [3,60,27,42,180,0,34,162,0,21,42,180,0,28,27,42,27,3,182,0,68,79,132,1,1,167,255,233,3,60,27,42,180,0,34,162,0,25,42,180,0,31,27,42,42,180,0,28,27,46,182,0,72,79,132,1,1,167,255,229,177] [] (by decide +kernel) (by decide +kernel) (by decide +kernel) (by decide +kernel)
noncomputable def pX6_reckon : aPrg := (eX6_reckon,
  fdX6, [(68, fX6_pagesWithMore, 3, 6, 0), (72, fX6_booksUnder, 2, 6, 0)], [], [], [], 2, [])
noncomputable def fX6_reckon : aMF := a_fn none shp pX6_reckon 2 1
set_option maxRecDepth 20000 in
theorem wkX6_pagesWithMore : ∀ w ∈ [Cond.code yX6_pagesWithMore cX6_pagesWithMore 4 (some .int), .initialized yX6_pagesWithMore.cls, .instanceMethod yX6_pagesWithMore, .selects yX6_pagesWithMore.cls yX6_pagesWithMore yX6_pagesWithMore], w ∈ lw_g := a_ps [860, 98, 858, 859] rfl rfl
theorem hdX6_pagesWithMore : yX6_pagesWithMore.cls ≠ "java/lang/invoke/MethodHandle" ∧ yX6_pagesWithMore.cls ≠ "java/lang/invoke/VarHandle" ∧ (parseMethodDescriptor yX6_pagesWithMore.desc).map (fun d => d.parameters.length) = some 2 := by decide +kernel
set_option maxRecDepth 20000 in
theorem lkX6_68 : Cond.methodLink RX6 68 yX6_pagesWithMore ∈ lw_g := a_p1 857 rfl rfl
set_option maxRecDepth 20000 in
theorem wkX6_booksUnder : ∀ w ∈ [Cond.code yX6_booksUnder cX6_booksUnder 4 (some .int), .initialized yX6_booksUnder.cls, .instanceMethod yX6_booksUnder, .selects yX6_booksUnder.cls yX6_booksUnder yX6_booksUnder], w ∈ lw_g := a_ps [890, 98, 888, 889] rfl rfl
theorem hdX6_booksUnder : yX6_booksUnder.cls ≠ "java/lang/invoke/MethodHandle" ∧ yX6_booksUnder.cls ≠ "java/lang/invoke/VarHandle" ∧ (parseMethodDescriptor yX6_booksUnder.desc).map (fun d => d.parameters.length) = some 1 := by decide +kernel
set_option maxRecDepth 20000 in
theorem lkX6_72 : Cond.methodLink RX6 72 yX6_booksUnder ∈ lw_g := a_p1 887 rfl rfl
set_option maxRecDepth 20000 in
theorem kX6_reckon {l : Launch} {G : aG} (hZ : a_Z l G) : a_Con l G shp yX6_reckon (.code yX6_reckon cX6_reckon 2 none) 6 128 fX6_reckon :=
  a_mth none hZ.1 hZ.2.1 shp_len (fun _ h => nomatch h) hZ.2.2.1 (by decide +kernel) rfl (foX6 rfl) (a_cok_of trivial) ckX6_reckon rfl rfl (trivial) (⟨a_CQ_v hZ.2.1 (kX6_pagesWithMore hZ) lkX6_68 (a_CF_v TX6 9 wkX6_pagesWithMore lkX6_68 hdX6_pagesWithMore ⟨by decide, by decide⟩ rfl) rfl rfl,
    ⟨a_CQ_v hZ.2.1 (kX6_booksUnder hZ) lkX6_72 (a_CF_v TX6 9 wkX6_booksUnder lkX6_72 hdX6_booksUnder ⟨by decide, by decide⟩ rfl) rfl rfl,
    trivial⟩⟩)
def eX6_pagesBound : List (Nat × aEnt) := [(0, .iconst 4, 4, 0, []),
  (1, .iload_n 1, 0, 0, []),
  (2, .imul, 0, 0, []),
  (3, .istore_n 3, 0, 0, []),
  (4, .iconst 4, 4, 0, []),
  (5, .iload_n 2, 0, 0, []),
  (6, .imul, 0, 0, []),
  (7, .istore 4, 0, 0, []),
  (9, .aload_n 0, 0, 0, []),
  (10, .getfield 12, 0, 0, []),
  (13, .aload_n 0, 0, 0, []),
  (14, .getfield 18, 0, 0, []),
  (17, .iload_n 3, 0, 0, []),
  (18, .iaload, 0, 0, []),
  (19, .aload_n 0, 0, 0, []),
  (20, .getfield 18, 0, 0, []),
  (23, .iload 4, 0, 0, []),
  (25, .iaload, 0, 0, []),
  (26, .iadd, 0, 0, []),
  (27, .aload_n 0, 0, 0, []),
  (28, .getfield 18, 0, 0, []),
  (31, .iload_n 3, 0, 0, []),
  (32, .iconst 1, 1, 0, []),
  (33, .iadd, 0, 0, []),
  (34, .iaload, 0, 0, []),
  (35, .aload_n 0, 0, 0, []),
  (36, .getfield 18, 0, 0, []),
  (39, .iload 4, 0, 0, []),
  (41, .iconst 1, 1, 0, []),
  (42, .iadd, 0, 0, []),
  (43, .iaload, 0, 0, []),
  (44, .iadd, 0, 0, []),
  (45, .aload_n 0, 0, 0, []),
  (46, .getfield 18, 0, 0, []),
  (49, .iload_n 3, 0, 0, []),
  (50, .iconst 2, 2, 0, []),
  (51, .iadd, 0, 0, []),
  (52, .iaload, 0, 0, []),
  (53, .aload_n 0, 0, 0, []),
  (54, .getfield 18, 0, 0, []),
  (57, .iload 4, 0, 0, []),
  (59, .iconst 2, 2, 0, []),
  (60, .iadd, 0, 0, []),
  (61, .iaload, 0, 0, []),
  (62, .iadd, 0, 0, []),
  (63, .aload_n 0, 0, 0, []),
  (64, .getfield 18, 0, 0, []),
  (67, .iload_n 3, 0, 0, []),
  (68, .iconst 3, 3, 0, []),
  (69, .iadd, 0, 0, []),
  (70, .iaload, 0, 0, []),
  (71, .aload_n 0, 0, 0, []),
  (72, .getfield 18, 0, 0, []),
  (75, .iload 4, 0, 0, []),
  (77, .iconst 3, 3, 0, []),
  (78, .iadd, 0, 0, []),
  (79, .iaload, 0, 0, []),
  (80, .iadd, 0, 0, []),
  (81, .invokevirtual 76, 0, 0, []),
  (84, .ireturn, 0, 0, [])]
set_option maxRecDepth 20000 in
theorem ckX6_pagesBound : eX6_pagesBound.all (a_eok cX6_pagesBound) = true := b_code [7,27,104,62,7,28,104,54,4,42,180,0,12,42,180,0,18,29,46,42,180,0,18,21,4,46,96,42,180,0,18,29,4,96,46,42,180,0,18,21,4,4,96,46,96,42,180,0,18,29,5,96,46,42,180,0,18,21,4,5,96,46,96,42,180,0,18,29,6,96,46,42,180,0,18,21,4,6,96,46,96,182,0,76,172] [] (by decide +kernel) (by decide +kernel) (by decide +kernel) (by decide +kernel)
noncomputable def pX6_pagesBound : aPrg := (eX6_pagesBound,
  fdX6, [(76, fX1_reckon, 5, 1, 0)], [], [], [], 0, [])
noncomputable def fX6_pagesBound : aMF := a_fn none shp pX6_pagesBound 5 3
set_option maxRecDepth 20000 in
theorem kX6_pagesBound {l : Launch} {G : aG} (hZ : a_Z l G) : a_Con l G shp yX6_pagesBound (.code yX6_pagesBound cX6_pagesBound 5 (some .int)) 5 105 fX6_pagesBound :=
  a_mth none hZ.1 hZ.2.1 shp_len (fun _ h => nomatch h) hZ.2.2.1 (by decide +kernel) rfl (foX6 rfl) (a_cok_of trivial) ckX6_pagesBound rfl rfl (trivial) (⟨a_CQ_v hZ.2.1 (kX1_reckon hZ) lkX6_76 (a_CF_v TX1 4 wkX1_reckon lkX6_76 hdX1_reckon ⟨by decide, by decide⟩ rfl) rfl rfl,
    trivial⟩)
def eX6_pagesTogether : List (Nat × aEnt) := [(0, .iconst 0, 0, 0, []),
  (1, .istore_n 2, 0, 0, []),
  (2, .iconst 0, 0, 0, []),
  (3, .istore_n 3, 0, 0, []),
  (4, .iload_n 3, 0, 0, []),
  (5, .aload_n 0, 0, 0, []),
  (6, .getfield 34, 0, 0, []),
  (9, .if_icmp .ge 26, 0, 35, []),
  (12, .iload_n 1, 0, 0, []),
  (13, .iload_n 3, 0, 0, []),
  (14, .invokestatic 80, 0, 0, []),
  (17, .ifCond .eq 12, 0, 29, []),
  (20, .iload_n 2, 0, 0, []),
  (21, .aload_n 0, 0, 0, []),
  (22, .getfield 28, 0, 0, []),
  (25, .iload_n 3, 0, 0, []),
  (26, .iaload, 0, 0, []),
  (27, .iadd, 0, 0, []),
  (28, .istore_n 2, 0, 0, []),
  (29, .iinc 3 1, 1, 0, []),
  (32, .goto (-28), 0, 4, []),
  (35, .iload_n 2, 0, 0, []),
  (36, .ireturn, 0, 0, [])]
set_option maxRecDepth 20000 in
theorem ckX6_pagesTogether : eX6_pagesTogether.all (a_eok cX6_pagesTogether) = true := b_code [3,61,3,62,29,42,180,0,34,162,0,26,27,29,184,0,80,153,0,12,28,42,180,0,28,29,46,96,61,132,3,1,167,255,228,28,172] [] (by decide +kernel) (by decide +kernel) (by decide +kernel) (by decide +kernel)
noncomputable def pX6_pagesTogether : aPrg := (eX6_pagesTogether,
  fdX6, [(80, fX8_holds, 2, 2000, 0)], [], [], [], 0, [])
noncomputable def fX6_pagesTogether : aMF := a_fn none shp pX6_pagesTogether 4 2
set_option maxRecDepth 20000 in
theorem kX6_pagesTogether {l : Launch} {G : aG} (hZ : a_Z l G) : a_Con l G shp yX6_pagesTogether (.code yX6_pagesTogether cX6_pagesTogether 4 (some .int)) 2 37 fX6_pagesTogether :=
  a_mth none hZ.1 hZ.2.1 shp_len (fun _ h => nomatch h) hZ.2.2.1 (by decide +kernel) rfl (foX6 rfl) (a_cok_of trivial) ckX6_pagesTogether rfl rfl (trivial) (⟨a_CQ_sn hZ.2.1 (kX8_holds hZ) (a_CF_sn wkX8_holds "StoutShelf" 439 rfl hdX8_holds) (a_fn_nt rfl rfl) rfl rfl,
    trivial⟩)
def eX6_takeableFor : List (Nat × aEnt) := [(0, .iconst 0, 0, 0, []),
  (1, .istore_n 2, 0, 0, []),
  (2, .iconst 0, 0, 0, []),
  (3, .istore_n 3, 0, 0, []),
  (4, .iload_n 3, 0, 0, []),
  (5, .aload_n 0, 0, 0, []),
  (6, .getfield 34, 0, 0, []),
  (9, .if_icmp .ge 26, 0, 35, []),
  (12, .iload_n 1, 0, 0, []),
  (13, .iload_n 3, 0, 0, []),
  (14, .invokestatic 80, 0, 0, []),
  (17, .ifCond .eq 12, 0, 29, []),
  (20, .iload_n 2, 0, 0, []),
  (21, .aload_n 0, 0, 0, []),
  (22, .getfield 31, 0, 0, []),
  (25, .iload_n 3, 0, 0, []),
  (26, .iaload, 0, 0, []),
  (27, .ior, 0, 0, []),
  (28, .istore_n 2, 0, 0, []),
  (29, .iinc 3 1, 1, 0, []),
  (32, .goto (-28), 0, 4, []),
  (35, .iload_n 2, 0, 0, []),
  (36, .ireturn, 0, 0, [])]
set_option maxRecDepth 20000 in
theorem ckX6_takeableFor : eX6_takeableFor.all (a_eok cX6_takeableFor) = true := b_code [3,61,3,62,29,42,180,0,34,162,0,26,27,29,184,0,80,153,0,12,28,42,180,0,31,29,46,128,61,132,3,1,167,255,228,28,172] [] (by decide +kernel) (by decide +kernel) (by decide +kernel) (by decide +kernel)
noncomputable def pX6_takeableFor : aPrg := (eX6_takeableFor,
  fdX6, [(80, fX8_holds, 2, 2000, 0)], [], [], [], 0, [])
noncomputable def fX6_takeableFor : aMF := a_fn none shp pX6_takeableFor 4 2
set_option maxRecDepth 20000 in
theorem kX6_takeableFor {l : Launch} {G : aG} (hZ : a_Z l G) : a_Con l G shp yX6_takeableFor (.code yX6_takeableFor cX6_takeableFor 4 (some .int)) 2 37 fX6_takeableFor :=
  a_mth none hZ.1 hZ.2.1 shp_len (fun _ h => nomatch h) hZ.2.2.1 (by decide +kernel) rfl (foX6 rfl) (a_cok_of trivial) ckX6_takeableFor rfl rfl (trivial) (⟨a_CQ_sn hZ.2.1 (kX8_holds hZ) (a_CF_sn wkX8_holds "StoutShelf" 439 rfl hdX8_holds) (a_fn_nt rfl rfl) rfl rfl,
    trivial⟩)
def eX6_isServed : List (Nat × aEnt) := [(0, .aload_n 0, 0, 0, []),
  (1, .getfield 22, 0, 0, []),
  (4, .iload_n 2, 0, 0, []),
  (5, .iaload, 0, 0, []),
  (6, .iconst (-1), (-1), 0, []),
  (7, .if_icmp .eq 22, 0, 29, []),
  (10, .aload_n 1, 0, 0, []),
  (11, .iload_n 2, 0, 0, []),
  (12, .iaload, 0, 0, []),
  (13, .aload_n 0, 0, 0, []),
  (14, .getfield 22, 0, 0, []),
  (17, .iload_n 2, 0, 0, []),
  (18, .iaload, 0, 0, []),
  (19, .invokestatic 80, 0, 0, []),
  (22, .ifCond .eq 7, 0, 29, []),
  (25, .iconst 1, 1, 0, []),
  (26, .goto 4, 0, 30, []),
  (29, .iconst 0, 0, 0, []),
  (30, .ireturn, 0, 0, [])]
set_option maxRecDepth 20000 in
theorem ckX6_isServed : eX6_isServed.all (a_eok cX6_isServed) = true := b_code [42,180,0,22,28,46,2,159,0,22,43,28,46,42,180,0,22,28,46,184,0,80,153,0,7,4,167,0,4,3,172] [] (by decide +kernel) (by decide +kernel) (by decide +kernel) (by decide +kernel)
noncomputable def pX6_isServed : aPrg := (eX6_isServed,
  fdX6, [(80, fX8_holds, 2, 2000, 0)], [], [], [], 1, [(29, [0, 1, 2]), (30, [0, 1, 2])])
noncomputable def fX6_isServed : aMF := a_fn none shp pX6_isServed 3 3
set_option maxRecDepth 20000 in
theorem kX6_isServed {l : Launch} {G : aG} (hZ : a_Z l G) : a_Con l G shp yX6_isServed (.code yX6_isServed cX6_isServed 3 (some .boolean)) 2 37 fX6_isServed :=
  a_mth none hZ.1 hZ.2.1 shp_len (fun _ h => nomatch h) hZ.2.2.1 (by decide +kernel) rfl (foX6 rfl) (a_cok_of trivial) ckX6_isServed rfl rfl (trivial) (⟨a_CQ_sn hZ.2.1 (kX8_holds hZ) (a_CF_sn wkX8_holds "StoutShelf" 439 rfl hdX8_holds) (a_fn_nt rfl rfl) rfl rfl,
    trivial⟩)
def eX7_weigh : List (Nat × aEnt) := [(0, .iconst 0, 0, 0, []),
  (1, .istore_n 2, 0, 0, []),
  (2, .iconst 0, 0, 0, []),
  (3, .istore_n 3, 0, 0, []),
  (4, .iload_n 3, 0, 0, []),
  (5, .aload_n 0, 0, 0, []),
  (6, .getfield 28, 0, 0, []),
  (9, .getfield 55, 0, 0, []),
  (12, .if_icmp .ge 27, 0, 39, []),
  (15, .aload_n 0, 0, 0, []),
  (16, .getfield 28, 0, 0, []),
  (19, .aload_n 0, 0, 0, []),
  (20, .getfield 9, 0, 0, []),
  (23, .iload_n 3, 0, 0, []),
  (24, .invokevirtual 82, 0, 0, []),
  (27, .ifCond .eq 6, 0, 33, []),
  (30, .iinc 2 1, 1, 0, []),
  (33, .iinc 3 1, 1, 0, []),
  (36, .goto (-32), 0, 4, []),
  (39, .iload_n 2, 0, 0, []),
  (40, .aload_n 0, 0, 0, []),
  (41, .getfield 41, 0, 0, []),
  (44, .if_icmp .le 28, 0, 72, []),
  (47, .aload_n 0, 0, 0, []),
  (48, .iload_n 2, 0, 0, []),
  (49, .putfield 41, 0, 0, []),
  (52, .aload_n 0, 0, 0, []),
  (53, .iload_n 1, 0, 0, []),
  (54, .putfield 48, 0, 0, []),
  (57, .aload_n 0, 0, 0, []),
  (58, .getfield 15, 0, 0, []),
  (61, .iconst 0, 0, 0, []),
  (62, .aload_n 0, 0, 0, []),
  (63, .getfield 18, 0, 0, []),
  (66, .iconst 0, 0, 0, []),
  (67, .bipush 15, 15, 0, []),
  (69, .invokestatic 32, 0, 0, []),
  (72, .return_, 0, 0, [])]
set_option maxRecDepth 20000 in
theorem ckX7_weigh : eX7_weigh.all (a_eok cX7_weigh) = true := b_code [3,61,3,62,29,42,180,0,28,180,0,55,162,0,27,42,180,0,28,42,180,0,9,29,182,0,82,153,0,6,132,2,1,132,3,1,167,255,224,28,42,180,0,41,164,0,28,42,28,181,0,41,42,27,181,0,48,42,180,0,15,3,42,180,0,18,3,16,15,184,0,32,177] [] (by decide +kernel) (by decide +kernel) (by decide +kernel) (by decide +kernel)
noncomputable def pX7_weigh : aPrg := (eX7_weigh,
  fdX7, [(82, fX6_isServed, 3, 6, 0), (32, a_acp, 5, 2000, 1)], [], [], [], 2, [(72, [0, 1, 2, 3])])
noncomputable def fX7_weigh : aMF := a_fn none shp pX7_weigh 4 2
set_option maxRecDepth 20000 in
theorem wkX6_isServed : ∀ w ∈ [Cond.code yX6_isServed cX6_isServed 3 (some .boolean), .initialized yX6_isServed.cls, .instanceMethod yX6_isServed, .selects yX6_isServed.cls yX6_isServed yX6_isServed], w ∈ lw_g := a_ps [497, 98, 495, 496] rfl rfl
theorem hdX6_isServed : yX6_isServed.cls ≠ "java/lang/invoke/MethodHandle" ∧ yX6_isServed.cls ≠ "java/lang/invoke/VarHandle" ∧ (parseMethodDescriptor yX6_isServed.desc).map (fun d => d.parameters.length) = some 2 := by decide +kernel
set_option maxRecDepth 20000 in
theorem lkX7_82 : Cond.methodLink RX7 82 yX6_isServed ∈ lw_g := a_p1 494 rfl rfl
set_option maxRecDepth 20000 in
theorem kX7_weigh {l : Launch} {G : aG} (hZ : a_Z l G) : a_Con l G shp yX7_weigh (.code yX7_weigh cX7_weigh 4 none) 3 60 fX7_weigh :=
  a_mth none hZ.1 hZ.2.1 shp_len (fun _ h => nomatch h) hZ.2.2.1 (by decide +kernel) rfl (foX7 rfl) (a_cok_of trivial) ckX7_weigh rfl rfl (trivial) (⟨a_CQ_v hZ.2.1 (kX6_isServed hZ) lkX7_82 (a_CF_v TX6 9 wkX6_isServed lkX7_82 hdX6_isServed ⟨by decide, by decide⟩ rfl) rfl rfl,
    ⟨q_acp hZ 483 rfl rfl rfl,
    trivial⟩⟩)
def eX7_tryPlace : List (Nat × aEnt) := [(0, .aload_n 0, 0, 0, []),
  (1, .iload_n 1, 0, 0, []),
  (2, .invokevirtual 51, 0, 0, []),
  (5, .iload_n 1, 0, 0, []),
  (6, .iconst 5, 5, 0, []),
  (7, .if_icmp .lt 4, 0, 11, []),
  (10, .return_, 0, 0, []),
  (11, .iconst 0, 0, 0, []),
  (12, .istore_n 3, 0, 0, []),
  (13, .iload_n 3, 0, 0, []),
  (14, .aload_n 0, 0, 0, []),
  (15, .getfield 28, 0, 0, []),
  (18, .getfield 55, 0, 0, []),
  (21, .if_icmp .ge 28, 0, 49, []),
  (24, .iload_n 2, 0, 0, []),
  (25, .iload_n 3, 0, 0, []),
  (26, .ishr, 0, 0, []),
  (27, .iconst 1, 1, 0, []),
  (28, .iand, 0, 0, []),
  (29, .ifCond .ne 14, 0, 43, []),
  (32, .aload_n 0, 0, 0, []),
  (33, .iload_n 1, 0, 0, []),
  (34, .iload_n 2, 0, 0, []),
  (35, .iconst 1, 1, 0, []),
  (36, .iload_n 3, 0, 0, []),
  (37, .ishl, 0, 0, []),
  (38, .ior, 0, 0, []),
  (39, .iload_n 3, 0, 0, []),
  (40, .invokevirtual 60, 0, 0, []),
  (43, .iinc 3 1, 1, 0, []),
  (46, .goto (-33), 0, 13, []),
  (49, .return_, 0, 0, [])]
set_option maxRecDepth 20000 in
theorem ckX7_tryPlace : eX7_tryPlace.all (a_eok cX7_tryPlace) = true := b_code [42,27,182,0,51,27,8,161,0,4,177,3,62,29,42,180,0,28,180,0,55,162,0,28,28,29,122,4,126,154,0,14,42,27,28,4,29,120,128,29,182,0,60,132,3,1,167,255,223,177] [] (by decide +kernel) (by decide +kernel) (by decide +kernel) (by decide +kernel)
noncomputable def pX7_tryPlace (g : Nat → aMF) : aPrg := (eX7_tryPlace,
  fdX7, [(51, fX7_weigh, 2, 7, 1), (60, (g 1), 4, 7, 1)], [], [], [], 2, [])
def eX7_tryReader : List (Nat × aEnt) := [(0, .aload_n 0, 0, 0, []),
  (1, .getfield 9, 0, 0, []),
  (4, .iload_n 3, 0, 0, []),
  (5, .iaload, 0, 0, []),
  (6, .istore 4, 0, 0, []),
  (8, .aload_n 0, 0, 0, []),
  (9, .getfield 9, 0, 0, []),
  (12, .iconst 5, 5, 0, []),
  (13, .iaload, 0, 0, []),
  (14, .istore 5, 0, 0, []),
  (16, .iconst 0, 0, 0, []),
  (17, .istore 6, 0, 0, []),
  (19, .iload 6, 0, 0, []),
  (21, .aload_n 0, 0, 0, []),
  (22, .getfield 28, 0, 0, []),
  (25, .getfield 64, 0, 0, []),
  (28, .if_icmp .ge 95, 0, 123, []),
  (31, .aload_n 0, 0, 0, []),
  (32, .getfield 38, 0, 0, []),
  (35, .sipush 20000, 20000, 0, []),
  (38, .if_icmp .gt 85, 0, 123, []),
  (41, .iload 4, 0, 0, []),
  (43, .iload 6, 0, 0, []),
  (45, .invokestatic 67, 0, 0, []),
  (48, .ifCond .eq 19, 0, 67, []),
  (51, .aload_n 0, 0, 0, []),
  (52, .getfield 28, 0, 0, []),
  (55, .getfield 71, 0, 0, []),
  (58, .iload 6, 0, 0, []),
  (60, .iaload, 0, 0, []),
  (61, .iload 5, 0, 0, []),
  (63, .iand, 0, 0, []),
  (64, .goto 4, 0, 68, []),
  (67, .iconst 0, 0, 0, []),
  (68, .istore 7, 0, 0, []),
  (70, .iconst 0, 0, 0, []),
  (71, .istore 8, 0, 0, []),
  (73, .iload 8, 0, 0, []),
  (75, .aload_n 0, 0, 0, []),
  (76, .getfield 28, 0, 0, []),
  (79, .getfield 64, 0, 0, []),
  (82, .if_icmp .ge 35, 0, 117, []),
  (85, .iload 7, 0, 0, []),
  (87, .ifCond .eq 30, 0, 117, []),
  (90, .iload 7, 0, 0, []),
  (92, .iload 8, 0, 0, []),
  (94, .invokestatic 67, 0, 0, []),
  (97, .ifCond .eq 14, 0, 111, []),
  (100, .aload_n 0, 0, 0, []),
  (101, .iload_n 1, 0, 0, []),
  (102, .iload_n 2, 0, 0, []),
  (103, .iload_n 3, 0, 0, []),
  (104, .iload 6, 0, 0, []),
  (106, .iload 8, 0, 0, []),
  (108, .invokevirtual 74, 0, 0, []),
  (111, .iinc 8 1, 1, 0, []),
  (114, .goto (-41), 0, 73, []),
  (117, .iinc 6 1, 1, 0, []),
  (120, .goto (-101), 0, 19, []),
  (123, .return_, 0, 0, [])]
set_option maxRecDepth 20000 in
theorem ckX7_tryReader : eX7_tryReader.all (a_eok cX7_tryReader) = true := b_code [42,180,0,9,29,46,54,4,42,180,0,9,8,46,54,5,3,54,6,21,6,42,180,0,28,180,0,64,162,0,95,42,180,0,38,17,78,32,163,0,85,21,4,21,6,184,0,67,153,0,19,42,180,0,28,180,0,71,21,6,46,21,5,126,167,0,4,3,54,7,3,54,8,21,8,42,180,0,28,180,0,64,162,0,35,21,7,153,0,30,21,7,21,8,184,0,67,153,0,14,42,27,28,29,21,6,21,8,182,0,74,132,8,1,167,255,215,132,6,1,167,255,155,177] [] (by decide +kernel) (by decide +kernel) (by decide +kernel) (by decide +kernel)
noncomputable def pX7_tryReader (g : Nat → aMF) : aPrg := (eX7_tryReader,
  fdX7, [(67, fX8_holds, 2, 2000, 0), (74, (g 2), 6, 7, 1)], [], [], [], 2, [(19, [7, 8]), (68, [7, 8]), (117, [7, 8]), (123, [0, 1, 2, 3, 4, 5, 6, 7, 8])])
def eX7_tryExchange : List (Nat × aEnt) := [(0, .aload_n 0, 0, 0, []),
  (1, .dup, 0, 0, []),
  (2, .getfield 38, 0, 0, []),
  (5, .iconst 1, 1, 0, []),
  (6, .iadd, 0, 0, []),
  (7, .putfield 38, 0, 0, []),
  (10, .aload_n 0, 0, 0, []),
  (11, .getfield 38, 0, 0, []),
  (14, .sipush 20000, 20000, 0, []),
  (17, .if_icmp .le 4, 0, 21, []),
  (20, .return_, 0, 0, []),
  (21, .iconst 3, 3, 0, []),
  (22, .iload_n 1, 0, 0, []),
  (23, .imul, 0, 0, []),
  (24, .istore 6, 0, 0, []),
  (26, .aload_n 0, 0, 0, []),
  (27, .getfield 15, 0, 0, []),
  (30, .iload 6, 0, 0, []),
  (32, .iload_n 3, 0, 0, []),
  (33, .iastore, 0, 0, []),
  (34, .aload_n 0, 0, 0, []),
  (35, .getfield 15, 0, 0, []),
  (38, .iload 6, 0, 0, []),
  (40, .iconst 1, 1, 0, []),
  (41, .iadd, 0, 0, []),
  (42, .iload 4, 0, 0, []),
  (44, .iastore, 0, 0, []),
  (45, .aload_n 0, 0, 0, []),
  (46, .getfield 15, 0, 0, []),
  (49, .iload 6, 0, 0, []),
  (51, .iconst 2, 2, 0, []),
  (52, .iadd, 0, 0, []),
  (53, .iload 5, 0, 0, []),
  (55, .iastore, 0, 0, []),
  (56, .aload_n 0, 0, 0, []),
  (57, .getfield 9, 0, 0, []),
  (60, .iload_n 3, 0, 0, []),
  (61, .iconst 5, 5, 0, []),
  (62, .iload 4, 0, 0, []),
  (64, .iload 5, 0, 0, []),
  (66, .invokestatic 78, 0, 0, []),
  (69, .aload_n 0, 0, 0, []),
  (70, .iload_n 1, 0, 0, []),
  (71, .iconst 1, 1, 0, []),
  (72, .iadd, 0, 0, []),
  (73, .iload_n 2, 0, 0, []),
  (74, .invokevirtual 44, 0, 0, []),
  (77, .aload_n 0, 0, 0, []),
  (78, .getfield 9, 0, 0, []),
  (81, .iload_n 3, 0, 0, []),
  (82, .iconst 5, 5, 0, []),
  (83, .iload 4, 0, 0, []),
  (85, .iload 5, 0, 0, []),
  (87, .invokestatic 78, 0, 0, []),
  (90, .return_, 0, 0, [])]
set_option maxRecDepth 20000 in
theorem ckX7_tryExchange : eX7_tryExchange.all (a_eok cX7_tryExchange) = true := b_code [42,89,180,0,38,4,96,181,0,38,42,180,0,38,17,78,32,164,0,4,177,6,27,104,54,6,42,180,0,15,21,6,29,79,42,180,0,15,21,6,4,96,21,4,79,42,180,0,15,21,6,5,96,21,5,79,42,180,0,9,29,8,21,4,21,5,184,0,78,42,27,4,96,28,182,0,44,42,180,0,9,29,8,21,4,21,5,184,0,78,177] [] (by decide +kernel) (by decide +kernel) (by decide +kernel) (by decide +kernel)
noncomputable def pX7_tryExchange (g : Nat → aMF) : aPrg := (eX7_tryExchange,
  fdX7, [(78, fX8_trade, 5, 2000, 1), (44, (g 0), 3, 7, 1)], [], [], [], 2, [])
noncomputable def fWK : Nat → Nat → aMF
  | 0 => fun _ _ _ => none
  | d + 1 => fun i => match i with
    | 0 => a_fn none shp (pX7_tryPlace (fWK d)) 4 3
    | 1 => a_fn none shp (pX7_tryReader (fWK d)) 9 4
    | _ => a_fn none shp (pX7_tryExchange (fWK d)) 7 6
set_option maxRecDepth 20000 in
theorem wkX7_weigh : ∀ w ∈ [Cond.code yX7_weigh cX7_weigh 4 none, .initialized yX7_weigh.cls, .instanceMethod yX7_weigh, .selects yX7_weigh.cls yX7_weigh yX7_weigh], w ∈ lw_g := a_ps [493, 102, 492, 6] rfl rfl
theorem hdX7_weigh : yX7_weigh.cls ≠ "java/lang/invoke/MethodHandle" ∧ yX7_weigh.cls ≠ "java/lang/invoke/VarHandle" ∧ (parseMethodDescriptor yX7_weigh.desc).map (fun d => d.parameters.length) = some 1 := by decide +kernel
set_option maxRecDepth 20000 in
theorem lkX7_51 : Cond.methodLink RX7 51 yX7_weigh ∈ lw_g := a_p1 490 rfl rfl
set_option maxRecDepth 20000 in
theorem wkX7_tryReader : ∀ w ∈ [Cond.code yX7_tryReader cX7_tryReader 9 none, .initialized yX7_tryReader.cls, .instanceMethod yX7_tryReader, .selects yX7_tryReader.cls yX7_tryReader yX7_tryReader], w ∈ lw_g := a_ps [501, 102, 500, 7] rfl rfl
theorem hdX7_tryReader : yX7_tryReader.cls ≠ "java/lang/invoke/MethodHandle" ∧ yX7_tryReader.cls ≠ "java/lang/invoke/VarHandle" ∧ (parseMethodDescriptor yX7_tryReader.desc).map (fun d => d.parameters.length) = some 3 := by decide +kernel
set_option maxRecDepth 20000 in
theorem lkX7_60 : Cond.methodLink RX7 60 yX7_tryReader ∈ lw_g := a_p1 498 rfl rfl
set_option maxRecDepth 20000 in
theorem wkX7_tryExchange : ∀ w ∈ [Cond.code yX7_tryExchange cX7_tryExchange 7 none, .initialized yX7_tryExchange.cls, .instanceMethod yX7_tryExchange, .selects yX7_tryExchange.cls yX7_tryExchange yX7_tryExchange], w ∈ lw_g := a_ps [506, 102, 505, 8] rfl rfl
theorem hdX7_tryExchange : yX7_tryExchange.cls ≠ "java/lang/invoke/MethodHandle" ∧ yX7_tryExchange.cls ≠ "java/lang/invoke/VarHandle" ∧ (parseMethodDescriptor yX7_tryExchange.desc).map (fun d => d.parameters.length) = some 5 := by decide +kernel
set_option maxRecDepth 20000 in
theorem lkX7_74 : Cond.methodLink RX7 74 yX7_tryExchange ∈ lw_g := a_p1 503 rfl rfl
set_option maxRecDepth 20000 in
theorem wkX7_tryPlace : ∀ w ∈ [Cond.code yX7_tryPlace cX7_tryPlace 4 none, .initialized yX7_tryPlace.cls, .instanceMethod yX7_tryPlace, .selects yX7_tryPlace.cls yX7_tryPlace yX7_tryPlace], w ∈ lw_g := a_ps [489, 102, 488, 5] rfl rfl
theorem hdX7_tryPlace : yX7_tryPlace.cls ≠ "java/lang/invoke/MethodHandle" ∧ yX7_tryPlace.cls ≠ "java/lang/invoke/VarHandle" ∧ (parseMethodDescriptor yX7_tryPlace.desc).map (fun d => d.parameters.length) = some 2 := by decide +kernel
set_option maxRecDepth 20000 in
theorem lkX7_44 : Cond.methodLink RX7 44 yX7_tryPlace ∈ lw_g := a_p1 486 rfl rfl
set_option maxRecDepth 20000 in
theorem kfWK {l : Launch} {G : aG} (hZ : a_Z l G) : ∀ d : Nat, a_Con l G shp yX7_tryPlace (.code yX7_tryPlace cX7_tryPlace 4 none) (4 + d) (83 + 40 * d) (fWK d 0) ∧
    a_Con l G shp yX7_tryReader (.code yX7_tryReader cX7_tryReader 9 none) (4 + d) (83 + 40 * d) (fWK d 1) ∧
    a_Con l G shp yX7_tryExchange (.code yX7_tryExchange cX7_tryExchange 7 none) (4 + d) (83 + 40 * d) (fWK d 2)
  | 0 => ⟨(fun _ _ _ _ h => nomatch h), (fun _ _ _ _ h => nomatch h), (fun _ _ _ _ h => nomatch h)⟩
  | d + 1 => by
    have ih := kfWK hZ d
    refine ⟨?_, ?_, ?_⟩
    · exact a_mth none hZ.1 hZ.2.1 shp_len (fun _ h => nomatch h) hZ.2.2.1 (by decide +kernel) rfl (foX7 rfl) (a_cok_of trivial) ckX7_tryPlace rfl rfl (trivial) (⟨a_CQ_v hZ.2.1 (kX7_weigh hZ) lkX7_51 (a_CF_v TX7 9 wkX7_weigh lkX7_51 hdX7_weigh ⟨by decide, by decide⟩ rfl) (Nat.ble_eq_true_of_le (by omega)) (Nat.ble_eq_true_of_le (by omega)),
    ⟨a_CQ_v hZ.2.1 (ih.2.1) lkX7_60 (a_CF_v TX7 9 wkX7_tryReader lkX7_60 hdX7_tryReader ⟨by decide, by decide⟩ rfl) (Nat.ble_eq_true_of_le (by omega)) (Nat.ble_eq_true_of_le (by omega)),
    trivial⟩⟩)
    · exact a_mth none hZ.1 hZ.2.1 shp_len (fun _ h => nomatch h) hZ.2.2.1 (by decide +kernel) rfl (foX7 rfl) (a_cok_of trivial) ckX7_tryReader rfl rfl (trivial) (⟨a_CQ_sn hZ.2.1 (kX8_holds hZ) (a_CF_sn wkX8_holds "StoutShelf" 502 rfl hdX8_holds) (a_fn_nt rfl rfl) (Nat.ble_eq_true_of_le (by omega)) (Nat.ble_eq_true_of_le (by omega)),
    ⟨a_CQ_v hZ.2.1 (ih.2.2) lkX7_74 (a_CF_v TX7 9 wkX7_tryExchange lkX7_74 hdX7_tryExchange ⟨by decide, by decide⟩ rfl) (Nat.ble_eq_true_of_le (by omega)) (Nat.ble_eq_true_of_le (by omega)),
    trivial⟩⟩)
    · exact a_mth none hZ.1 hZ.2.1 shp_len (fun _ h => nomatch h) hZ.2.2.1 (by decide +kernel) rfl (foX7 rfl) (a_cok_of trivial) ckX7_tryExchange rfl rfl (trivial) (⟨a_CQ_sn hZ.2.1 (kX8_trade hZ) (a_CF_sn wkX8_trade "StoutShelf" 507 rfl hdX8_trade) (a_fn_nt rfl rfl) (Nat.ble_eq_true_of_le (by omega)) (Nat.ble_eq_true_of_le (by omega)),
    ⟨a_CQ_v hZ.2.1 (ih.1) lkX7_44 (a_CF_v TX7 9 wkX7_tryPlace lkX7_44 hdX7_tryPlace ⟨by decide, by decide⟩ rfl) (Nat.ble_eq_true_of_le (by omega)) (Nat.ble_eq_true_of_le (by omega)),
    trivial⟩⟩)
noncomputable abbrev fX7_tryPlace : aMF := fWK 20 0
theorem kX7_tryPlace {l : Launch} {G : aG} (hZ : a_Z l G) : a_Con l G shp yX7_tryPlace (.code yX7_tryPlace cX7_tryPlace 4 none) 24 883 fX7_tryPlace := (kfWK hZ 20).1
noncomputable abbrev fX7_tryReader : aMF := fWK 20 1
theorem kX7_tryReader {l : Launch} {G : aG} (hZ : a_Z l G) : a_Con l G shp yX7_tryReader (.code yX7_tryReader cX7_tryReader 9 none) 24 883 fX7_tryReader := (kfWK hZ 20).2.1
noncomputable abbrev fX7_tryExchange : aMF := fWK 20 2
theorem kX7_tryExchange {l : Launch} {G : aG} (hZ : a_Z l G) : a_Con l G shp yX7_tryExchange (.code yX7_tryExchange cX7_tryExchange 7 none) 24 883 fX7_tryExchange := (kfWK hZ 20).2.2
def eX7_plan : List (Nat × aEnt) := [(0, .aload_n 1, 0, 0, []),
  (1, .iconst 0, 0, 0, []),
  (2, .aload_n 0, 0, 0, []),
  (3, .getfield 9, 0, 0, []),
  (6, .iconst 0, 0, 0, []),
  (7, .bipush 6, 6, 0, []),
  (9, .invokestatic 32, 0, 0, []),
  (12, .aload_n 0, 0, 0, []),
  (13, .iconst 0, 0, 0, []),
  (14, .putfield 38, 0, 0, []),
  (17, .aload_n 0, 0, 0, []),
  (18, .iconst (-1), (-1), 0, []),
  (19, .putfield 41, 0, 0, []),
  (22, .aload_n 0, 0, 0, []),
  (23, .iconst 0, 0, 0, []),
  (24, .iconst 0, 0, 0, []),
  (25, .invokevirtual 44, 0, 0, []),
  (28, .aload_n 0, 0, 0, []),
  (29, .getfield 38, 0, 0, []),
  (32, .sipush 20000, 20000, 0, []),
  (35, .if_icmp .le 6, 0, 41, []),
  (38, .bipush (-2), (-2), 0, []),
  (40, .ireturn, 0, 0, []),
  (41, .aload_n 0, 0, 0, []),
  (42, .getfield 18, 0, 0, []),
  (45, .iconst 0, 0, 0, []),
  (46, .aload_n 0, 0, 0, []),
  (47, .getfield 21, 0, 0, []),
  (50, .iconst 0, 0, 0, []),
  (51, .bipush 15, 15, 0, []),
  (53, .invokestatic 32, 0, 0, []),
  (56, .aload_n 0, 0, 0, []),
  (57, .aload_n 0, 0, 0, []),
  (58, .getfield 48, 0, 0, []),
  (61, .putfield 24, 0, 0, []),
  (64, .aload_n 0, 0, 0, []),
  (65, .getfield 41, 0, 0, []),
  (68, .ireturn, 0, 0, [])]
set_option maxRecDepth 20000 in
theorem ckX7_plan : eX7_plan.all (a_eok cX7_plan) = true := b_code [43,3,42,180,0,9,3,16,6,184,0,32,42,3,181,0,38,42,2,181,0,41,42,3,3,182,0,44,42,180,0,38,17,78,32,164,0,6,16,254,172,42,180,0,18,3,42,180,0,21,3,16,15,184,0,32,42,42,180,0,48,181,0,24,42,180,0,41,172] [] (by decide +kernel) (by decide +kernel) (by decide +kernel) (by decide +kernel)
noncomputable def pX7_plan : aPrg := (eX7_plan,
  fdX7, [(32, a_acp, 5, 2000, 1), (44, fX7_tryPlace, 3, 7, 1)], [], [], [], 0, [])
noncomputable def fX7_plan : aMF := a_fn none shp pX7_plan 2 2
set_option maxRecDepth 20000 in
theorem kX7_plan {l : Launch} {G : aG} (hZ : a_Z l G) : a_Con l G shp yX7_plan (.code yX7_plan cX7_plan 2 (some .int)) 25 906 fX7_plan :=
  a_mth none hZ.1 hZ.2.1 shp_len (fun _ h => nomatch h) hZ.2.2.1 (by decide +kernel) rfl (foX7 rfl) (a_cok_of trivial) ckX7_plan rfl rfl (trivial) (⟨q_acp hZ 483 rfl rfl rfl,
    ⟨a_CQ_v hZ.2.1 (kX7_tryPlace hZ) lkX7_44 (a_CF_v TX7 9 wkX7_tryPlace lkX7_44 hdX7_tryPlace ⟨by decide, by decide⟩ rfl) rfl rfl,
    trivial⟩⟩)
def eX8_feed : List (Nat × aEnt) := [(0, .aload_n 0, 0, 0, []),
  (1, .getfield 12, 0, 0, []),
  (4, .getfield 78, 0, 0, []),
  (7, .sipush 680, 680, 0, []),
  (10, .if_icmp .le 5, 0, 15, []),
  (13, .iconst (-1), (-1), 0, []),
  (14, .ireturn, 0, 0, []),
  (15, .aload_n 0, 0, 0, []),
  (16, .getfield 12, 0, 0, []),
  (19, .iload_n 1, 0, 0, []),
  (20, .invokevirtual 81, 0, 0, []),
  (23, .aload_n 0, 0, 0, []),
  (24, .getfield 12, 0, 0, []),
  (27, .iload_n 2, 0, 0, []),
  (28, .invokevirtual 81, 0, 0, []),
  (31, .aload_n 0, 0, 0, []),
  (32, .getfield 12, 0, 0, []),
  (35, .iload_n 3, 0, 0, []),
  (36, .invokevirtual 81, 0, 0, []),
  (39, .aload_n 0, 0, 0, []),
  (40, .getfield 12, 0, 0, []),
  (43, .iload 4, 0, 0, []),
  (45, .invokevirtual 81, 0, 0, []),
  (48, .aload_n 0, 0, 0, []),
  (49, .getfield 12, 0, 0, []),
  (52, .iload 5, 0, 0, []),
  (54, .invokevirtual 81, 0, 0, []),
  (57, .aload_n 0, 0, 0, []),
  (58, .getfield 12, 0, 0, []),
  (61, .getfield 78, 0, 0, []),
  (64, .ireturn, 0, 0, [])]
set_option maxRecDepth 20000 in
theorem ckX8_feed : eX8_feed.all (a_eok cX8_feed) = true := b_code [42,180,0,12,180,0,78,17,2,168,164,0,5,2,172,42,180,0,12,27,182,0,81,42,180,0,12,28,182,0,81,42,180,0,12,29,182,0,81,42,180,0,12,21,4,182,0,81,42,180,0,12,21,5,182,0,81,42,180,0,12,180,0,78,172] [] (by decide +kernel) (by decide +kernel) (by decide +kernel) (by decide +kernel)
noncomputable def pX8_feed : aPrg := (eX8_feed,
  fdX8, [(81, fX5_put, 2, 5, 1)], [], [], [], 0, [])
noncomputable def fX8_feed : aMF := a_fn none shp pX8_feed 6 6
set_option maxRecDepth 20000 in
theorem wkX5_put : ∀ w ∈ [Cond.code yX5_put cX5_put 2 none, .initialized yX5_put.cls, .instanceMethod yX5_put, .selects yX5_put.cls yX5_put yX5_put], w ∈ lw_g := a_ps [414, 97, 412, 413] rfl rfl
theorem hdX5_put : yX5_put.cls ≠ "java/lang/invoke/MethodHandle" ∧ yX5_put.cls ≠ "java/lang/invoke/VarHandle" ∧ (parseMethodDescriptor yX5_put.desc).map (fun d => d.parameters.length) = some 1 := by decide +kernel
set_option maxRecDepth 20000 in
theorem lkX8_81 : Cond.methodLink RX8 81 yX5_put ∈ lw_g := a_p1 411 rfl rfl
set_option maxRecDepth 20000 in
theorem kX8_feed {l : Launch} {G : aG} (hZ : a_Z l G) : a_Con l G shp yX8_feed (.code yX8_feed cX8_feed 6 (some .int)) 2 37 fX8_feed :=
  a_mth none hZ.1 hZ.2.1 shp_len (fun _ h => nomatch h) hZ.2.2.1 (by decide +kernel) rfl (foX8 rfl) (a_cok_of trivial) ckX8_feed rfl rfl (trivial) (⟨a_CQ_v hZ.2.1 (kX5_put hZ) lkX8_81 (a_CF_v TX5 7 wkX5_put lkX8_81 hdX5_put ⟨by decide, by decide⟩ rfl) rfl rfl,
    trivial⟩)
