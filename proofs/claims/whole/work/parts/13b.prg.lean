/-! ===== programs and contracts, written by wip/whole/gen.py ===== -/
def eX6_clear : List (Nat × aEnt) := [(0, .aload_n 0, 0, 0, []),
  (1, .iconst 0, 0, 0, []),
  (2, .putfield 34, 0, 0, []),
  (5, .aload_n 0, 0, 0, []),
  (6, .iconst 0, 0, 0, []),
  (7, .putfield 38, 0, 0, []),
  (10, .aload_n 0, 0, 0, []),
  (11, .iconst 0, 0, 0, []),
  (12, .putfield 41, 0, 0, []),
  (15, .aload_n 0, 0, 0, []),
  (16, .getfield 12, 0, 0, []),
  (19, .invokevirtual 45, 0, 0, []),
  (22, .aload_n 0, 0, 0, []),
  (23, .getfield 12, 0, 0, []),
  (26, .iconst (-1), (-1), 0, []),
  (27, .invokevirtual 48, 0, 0, []),
  (30, .aload_n 0, 0, 0, []),
  (31, .getfield 18, 0, 0, []),
  (34, .iconst 0, 0, 0, []),
  (35, .invokestatic 52, 0, 0, []),
  (38, .aload_n 0, 0, 0, []),
  (39, .getfield 22, 0, 0, []),
  (42, .iconst (-1), (-1), 0, []),
  (43, .invokestatic 52, 0, 0, []),
  (46, .aload_n 0, 0, 0, []),
  (47, .getfield 25, 0, 0, []),
  (50, .iconst 0, 0, 0, []),
  (51, .invokestatic 52, 0, 0, []),
  (54, .return_, 0, 0, [])]
set_option maxRecDepth 20000 in
theorem ckX6_clear : eX6_clear.all (a_eok cX6_clear) = true := b_code [42,3,181,0,34,42,3,181,0,38,42,3,181,0,41,42,180,0,12,182,0,45,42,180,0,12,2,182,0,48,42,180,0,18,3,184,0,52,42,180,0,22,2,184,0,52,42,180,0,25,3,184,0,52,177] [] (by decide +kernel) (by decide +kernel) (by decide +kernel) (by decide +kernel)
noncomputable def pX6_clear : aPrg := (eX6_clear,
  fdX6, [(45, fX1_clear, 1, 1, 1), (48, fX1_add, 2, 1, 1), (52, fJ7_fill_53178, 2, 2000, 1)], [], [], [], 2, [])
noncomputable def fX6_clear : aMF := a_fn none shp pX6_clear 1 1
set_option maxRecDepth 20000 in
theorem wkX1_clear : ∀ w ∈ [Cond.code yX1_clear cX1_clear 1 none, .initialized yX1_clear.cls, .instanceMethod yX1_clear, .selects yX1_clear.cls yX1_clear yX1_clear], w ∈ lw_g := a_ps [662, 99, 660, 661] rfl rfl
theorem hdX1_clear : yX1_clear.cls ≠ "java/lang/invoke/MethodHandle" ∧ yX1_clear.cls ≠ "java/lang/invoke/VarHandle" ∧ (parseMethodDescriptor yX1_clear.desc).map (fun d => d.parameters.length) = some 0 := by decide +kernel
set_option maxRecDepth 20000 in
theorem lkX6_45 : Cond.methodLink RX6 45 yX1_clear ∈ lw_g := a_p1 659 rfl rfl
set_option maxRecDepth 20000 in
theorem wkX1_add : ∀ w ∈ [Cond.code yX1_add cX1_add 2 none, .initialized yX1_add.cls, .instanceMethod yX1_add, .selects yX1_add.cls yX1_add yX1_add], w ∈ lw_g := a_ps [666, 99, 664, 665] rfl rfl
theorem hdX1_add : yX1_add.cls ≠ "java/lang/invoke/MethodHandle" ∧ yX1_add.cls ≠ "java/lang/invoke/VarHandle" ∧ (parseMethodDescriptor yX1_add.desc).map (fun d => d.parameters.length) = some 1 := by decide +kernel
set_option maxRecDepth 20000 in
theorem lkX6_48 : Cond.methodLink RX6 48 yX1_add ∈ lw_g := a_p1 663 rfl rfl
set_option maxRecDepth 20000 in
theorem lkX6_52 : Cond.methodLink RX6 52 yJ7_fill_53178 ∈ lw_g := a_p1 667 rfl rfl
set_option maxRecDepth 20000 in
theorem kX6_clear {l : Launch} {G : aG} (hZ : a_Z l G) : a_Con l G shp yX6_clear (.code yX6_clear cX6_clear 1 none) 2 39 fX6_clear :=
  a_mth none hZ.1 hZ.2.1 shp_len (fun _ h => nomatch h) hZ.2.2.1 (by decide +kernel) rfl (foX6 rfl) (a_cok_of trivial) ckX6_clear rfl rfl (trivial) (⟨a_CQ_v hZ.2.1 (kX1_clear hZ) lkX6_45 (a_CF_v TX1 4 wkX1_clear lkX6_45 hdX1_clear ⟨by decide, by decide⟩ rfl) rfl rfl,
    ⟨a_CQ_v hZ.2.1 (kX1_add hZ) lkX6_48 (a_CF_v TX1 4 wkX1_add lkX6_48 hdX1_add ⟨by decide, by decide⟩ rfl) rfl rfl,
    ⟨a_CQ_s hZ.2.1 (kJ7_fill_53178 hZ) lkX6_52 (a_CF_s wkJ7_fill_53178 lkX6_52 hdJ7_fill_53178) rfl rfl,
    trivial⟩⟩⟩)
def eX5_at : List (Nat × aEnt) := [(0, .iload_n 1, 0, 0, []),
  (1, .ifCond .lt 31, 0, 32, []),
  (4, .iload_n 1, 0, 0, []),
  (5, .aload_n 0, 0, 0, []),
  (6, .getfield 19, 0, 0, []),
  (9, .if_icmp .ge 23, 0, 32, []),
  (12, .iload_n 1, 0, 0, []),
  (13, .sipush 700, 700, 0, []),
  (16, .if_icmp .ge 16, 0, 32, []),
  (19, .aload_n 0, 0, 0, []),
  (20, .getfield 9, 0, 0, []),
  (23, .iload_n 1, 0, 0, []),
  (24, .baload, 0, 0, []),
  (25, .sipush 255, 255, 0, []),
  (28, .iand, 0, 0, []),
  (29, .goto 4, 0, 33, []),
  (32, .iconst (-1), (-1), 0, []),
  (33, .ireturn, 0, 0, [])]
set_option maxRecDepth 20000 in
theorem ckX5_at : eX5_at.all (a_eok cX5_at) = true := b_code [27,155,0,31,27,42,180,0,19,162,0,23,27,17,2,188,162,0,16,42,180,0,9,27,51,17,0,255,126,167,0,4,2,172] [] (by decide +kernel) (by decide +kernel) (by decide +kernel) (by decide +kernel)
noncomputable def pX5_at : aPrg := (eX5_at,
  fdX5, [], [], [], [], 0, [(32, [0, 1]), (33, [0, 1])])
noncomputable def fX5_at : aMF := a_fn none shp pX5_at 2 2
set_option maxRecDepth 20000 in
theorem kX5_at {l : Launch} {G : aG} (hZ : a_Z l G) : a_Con l G shp yX5_at (.code yX5_at cX5_at 2 (some .int)) 1 16 fX5_at :=
  a_mth none hZ.1 hZ.2.1 shp_len (fun _ h => nomatch h) hZ.2.2.1 (by decide +kernel) rfl (foX5 rfl) (a_cok_of trivial) ckX5_at rfl rfl (trivial) (trivial)
def eX5_isBlank : List (Nat × aEnt) := [(0, .iload_n 0, 0, 0, []),
  (1, .bipush 32, 32, 0, []),
  (3, .if_icmp .eq 9, 0, 12, []),
  (6, .iload_n 0, 0, 0, []),
  (7, .bipush 10, 10, 0, []),
  (9, .if_icmp .ne 7, 0, 16, []),
  (12, .iconst 1, 1, 0, []),
  (13, .goto 4, 0, 17, []),
  (16, .iconst 0, 0, 0, []),
  (17, .ireturn, 0, 0, [])]
set_option maxRecDepth 20000 in
theorem ckX5_isBlank : eX5_isBlank.all (a_eok cX5_isBlank) = true := b_code [26,16,32,159,0,9,26,16,10,160,0,7,4,167,0,4,3,172] [] (by decide +kernel) (by decide +kernel) (by decide +kernel) (by decide +kernel)
noncomputable def pX5_isBlank : aPrg := (eX5_isBlank,
  fdX5, [], [], [], [], 1, [(12, [0]), (17, [0])])
noncomputable def fX5_isBlank : aMF := a_fn none shp pX5_isBlank 1 1
set_option maxRecDepth 20000 in
theorem kX5_isBlank {l : Launch} {G : aG} (hZ : a_Z l G) : a_Con l G shp yX5_isBlank (.code yX5_isBlank cX5_isBlank 1 (some .boolean)) 1 16 fX5_isBlank :=
  a_mth none hZ.1 hZ.2.1 shp_len (fun _ h => nomatch h) hZ.2.2.1 (by decide +kernel) rfl (foX5 rfl) (a_cok_of trivial) ckX5_isBlank rfl rfl (trivial) (trivial)
def eJ9_min_7cf53 : List (Nat × aEnt) := [(0, .iload_n 0, 0, 0, []),
  (1, .iload_n 1, 0, 0, []),
  (2, .if_icmp .gt 7, 0, 9, []),
  (5, .iload_n 0, 0, 0, []),
  (6, .goto 4, 0, 10, []),
  (9, .iload_n 1, 0, 0, []),
  (10, .ireturn, 0, 0, [])]
set_option maxRecDepth 20000 in
theorem ckJ9_min_7cf53 : eJ9_min_7cf53.all (a_eok cJ9_min_7cf53) = true := b_code [26,27,163,0,7,26,167,0,4,27,172] [] (by decide +kernel) (by decide +kernel) (by decide +kernel) (by decide +kernel)
noncomputable def pJ9_min_7cf53 : aPrg := (eJ9_min_7cf53,
  [], [], [], [], [], 0, [(10, [0, 1])])
noncomputable def fJ9_min_7cf53 : aMF := a_fn none shp pJ9_min_7cf53 2 2
set_option maxRecDepth 20000 in
theorem kJ9_min_7cf53 {l : Launch} {G : aG} (hZ : a_Z l G) : a_Con l G shp yJ9_min_7cf53 (.code yJ9_min_7cf53 cJ9_min_7cf53 2 (some .int)) 1 16 fJ9_min_7cf53 :=
  a_mtj none hZ.1 hZ.2.1 shp_len (fun _ h => nomatch h) hZ.2.2.1 (by decide +kernel) rfl (a_fok_of [] rfl rfl) (a_cok_of trivial) ckJ9_min_7cf53 rfl rfl rfl rfl
def eX5_isLetter : List (Nat × aEnt) := [(0, .iload_n 0, 0, 0, []),
  (1, .bipush 97, 97, 0, []),
  (3, .if_icmp .lt 13, 0, 16, []),
  (6, .iload_n 0, 0, 0, []),
  (7, .bipush 122, 122, 0, []),
  (9, .if_icmp .gt 7, 0, 16, []),
  (12, .iconst 1, 1, 0, []),
  (13, .goto 4, 0, 17, []),
  (16, .iconst 0, 0, 0, []),
  (17, .ireturn, 0, 0, [])]
set_option maxRecDepth 20000 in
theorem ckX5_isLetter : eX5_isLetter.all (a_eok cX5_isLetter) = true := b_code [26,16,97,161,0,13,26,16,122,163,0,7,4,167,0,4,3,172] [] (by decide +kernel) (by decide +kernel) (by decide +kernel) (by decide +kernel)
noncomputable def pX5_isLetter : aPrg := (eX5_isLetter,
  fdX5, [], [], [], [], 1, [(16, [0]), (17, [0])])
noncomputable def fX5_isLetter : aMF := a_fn none shp pX5_isLetter 1 1
set_option maxRecDepth 20000 in
theorem kX5_isLetter {l : Launch} {G : aG} (hZ : a_Z l G) : a_Con l G shp yX5_isLetter (.code yX5_isLetter cX5_isLetter 1 (some .boolean)) 1 16 fX5_isLetter :=
  a_mth none hZ.1 hZ.2.1 shp_len (fun _ h => nomatch h) hZ.2.2.1 (by decide +kernel) rfl (foX5 rfl) (a_cok_of trivial) ckX5_isLetter rfl rfl (trivial) (trivial)
def eX5_isDigit : List (Nat × aEnt) := [(0, .iload_n 0, 0, 0, []),
  (1, .bipush 48, 48, 0, []),
  (3, .if_icmp .lt 13, 0, 16, []),
  (6, .iload_n 0, 0, 0, []),
  (7, .bipush 57, 57, 0, []),
  (9, .if_icmp .gt 7, 0, 16, []),
  (12, .iconst 1, 1, 0, []),
  (13, .goto 4, 0, 17, []),
  (16, .iconst 0, 0, 0, []),
  (17, .ireturn, 0, 0, [])]
set_option maxRecDepth 20000 in
theorem ckX5_isDigit : eX5_isDigit.all (a_eok cX5_isDigit) = true := b_code [26,16,48,161,0,13,26,16,57,163,0,7,4,167,0,4,3,172] [] (by decide +kernel) (by decide +kernel) (by decide +kernel) (by decide +kernel)
noncomputable def pX5_isDigit : aPrg := (eX5_isDigit,
  fdX5, [], [], [], [], 1, [(16, [0]), (17, [0])])
noncomputable def fX5_isDigit : aMF := a_fn none shp pX5_isDigit 1 1
set_option maxRecDepth 20000 in
theorem kX5_isDigit {l : Launch} {G : aG} (hZ : a_Z l G) : a_Con l G shp yX5_isDigit (.code yX5_isDigit cX5_isDigit 1 (some .boolean)) 1 16 fX5_isDigit :=
  a_mth none hZ.1 hZ.2.1 shp_len (fun _ h => nomatch h) hZ.2.2.1 (by decide +kernel) rfl (foX5 rfl) (a_cok_of trivial) ckX5_isDigit rfl rfl (trivial) (trivial)
def eX5_next : List (Nat × aEnt) := [(0, .aload_n 0, 0, 0, []),
  (1, .aload_n 0, 0, 0, []),
  (2, .getfield 22, 0, 0, []),
  (5, .putfield 28, 0, 0, []),
  (8, .aload_n 0, 0, 0, []),
  (9, .getfield 28, 0, 0, []),
  (12, .aload_n 0, 0, 0, []),
  (13, .getfield 19, 0, 0, []),
  (16, .if_icmp .ge 30, 0, 46, []),
  (19, .aload_n 0, 0, 0, []),
  (20, .aload_n 0, 0, 0, []),
  (21, .getfield 28, 0, 0, []),
  (24, .invokevirtual 31, 0, 0, []),
  (27, .invokestatic 35, 0, 0, []),
  (30, .ifCond .eq 16, 0, 46, []),
  (33, .aload_n 0, 0, 0, []),
  (34, .dup, 0, 0, []),
  (35, .getfield 28, 0, 0, []),
  (38, .iconst 1, 1, 0, []),
  (39, .iadd, 0, 0, []),
  (40, .putfield 28, 0, 0, []),
  (43, .goto (-35), 0, 8, []),
  (46, .aload_n 0, 0, 0, []),
  (47, .aload_n 0, 0, 0, []),
  (48, .getfield 28, 0, 0, []),
  (51, .invokevirtual 31, 0, 0, []),
  (54, .istore_n 1, 0, 0, []),
  (55, .aload_n 0, 0, 0, []),
  (56, .aload_n 0, 0, 0, []),
  (57, .getfield 28, 0, 0, []),
  (60, .iconst 1, 1, 0, []),
  (61, .iadd, 0, 0, []),
  (62, .aload_n 0, 0, 0, []),
  (63, .getfield 19, 0, 0, []),
  (66, .invokestatic 39, 0, 0, []),
  (69, .putfield 22, 0, 0, []),
  (72, .iload_n 1, 0, 0, []),
  (73, .iconst (-1), (-1), 0, []),
  (74, .if_icmp .ne 11, 0, 85, []),
  (77, .aload_n 0, 0, 0, []),
  (78, .iconst 0, 0, 0, []),
  (79, .putfield 45, 0, 0, []),
  (82, .goto 174, 0, 256, []),
  (85, .iload_n 1, 0, 0, []),
  (86, .invokestatic 48, 0, 0, []),
  (89, .ifCond .eq 46, 0, 135, []),
  (92, .aload_n 0, 0, 0, []),
  (93, .iconst 1, 1, 0, []),
  (94, .putfield 45, 0, 0, []),
  (97, .aload_n 0, 0, 0, []),
  (98, .getfield 22, 0, 0, []),
  (101, .aload_n 0, 0, 0, []),
  (102, .getfield 19, 0, 0, []),
  (105, .if_icmp .ge 151, 0, 256, []),
  (108, .aload_n 0, 0, 0, []),
  (109, .aload_n 0, 0, 0, []),
  (110, .getfield 22, 0, 0, []),
  (113, .invokevirtual 31, 0, 0, []),
  (116, .invokestatic 48, 0, 0, []),
  (119, .ifCond .eq 137, 0, 256, []),
  (122, .aload_n 0, 0, 0, []),
  (123, .dup, 0, 0, []),
  (124, .getfield 22, 0, 0, []),
  (127, .iconst 1, 1, 0, []),
  (128, .iadd, 0, 0, []),
  (129, .putfield 22, 0, 0, []),
  (132, .goto (-35), 0, 97, []),
  (135, .iload_n 1, 0, 0, []),
  (136, .invokestatic 51, 0, 0, []),
  (139, .ifCond .eq 112, 0, 251, []),
  (142, .aload_n 0, 0, 0, []),
  (143, .iconst 2, 2, 0, []),
  (144, .putfield 45, 0, 0, []),
  (147, .aload_n 0, 0, 0, []),
  (148, .iload_n 1, 0, 0, []),
  (149, .bipush 48, 48, 0, []),
  (151, .isub, 0, 0, []),
  (152, .putfield 54, 0, 0, []),
  (155, .aload_n 0, 0, 0, []),
  (156, .getfield 22, 0, 0, []),
  (159, .aload_n 0, 0, 0, []),
  (160, .getfield 19, 0, 0, []),
  (163, .if_icmp .ge 93, 0, 256, []),
  (166, .aload_n 0, 0, 0, []),
  (167, .aload_n 0, 0, 0, []),
  (168, .getfield 22, 0, 0, []),
  (171, .invokevirtual 31, 0, 0, []),
  (174, .invokestatic 51, 0, 0, []),
  (177, .ifCond .eq 79, 0, 256, []),
  (180, .aload_n 0, 0, 0, []),
  (181, .getfield 54, 0, 0, []),
  (184, .iconst (-1), (-1), 0, []),
  (185, .if_icmp .eq 20, 0, 205, []),
  (188, .aload_n 0, 0, 0, []),
  (189, .getfield 22, 0, 0, []),
  (192, .aload_n 0, 0, 0, []),
  (193, .getfield 28, 0, 0, []),
  (196, .isub, 0, 0, []),
  (197, .iconst 4, 4, 0, []),
  (198, .if_icmp .ge 7, 0, 205, []),
  (201, .iconst 1, 1, 0, []),
  (202, .goto 4, 0, 206, []),
  (205, .iconst 0, 0, 0, []),
  (206, .istore_n 2, 0, 0, []),
  (207, .aload_n 0, 0, 0, []),
  (208, .iload_n 2, 0, 0, []),
  (209, .ifCond .eq 25, 0, 234, []),
  (212, .bipush 10, 10, 0, []),
  (214, .aload_n 0, 0, 0, []),
  (215, .getfield 54, 0, 0, []),
  (218, .imul, 0, 0, []),
  (219, .aload_n 0, 0, 0, []),
  (220, .aload_n 0, 0, 0, []),
  (221, .getfield 22, 0, 0, []),
  (224, .invokevirtual 31, 0, 0, []),
  (227, .iadd, 0, 0, []),
  (228, .bipush 48, 48, 0, []),
  (230, .isub, 0, 0, []),
  (231, .goto 4, 0, 235, []),
  (234, .iconst (-1), (-1), 0, []),
  (235, .putfield 54, 0, 0, []),
  (238, .aload_n 0, 0, 0, []),
  (239, .dup, 0, 0, []),
  (240, .getfield 22, 0, 0, []),
  (243, .iconst 1, 1, 0, []),
  (244, .iadd, 0, 0, []),
  (245, .putfield 22, 0, 0, []),
  (248, .goto (-93), 0, 155, []),
  (251, .aload_n 0, 0, 0, []),
  (252, .iconst 3, 3, 0, []),
  (253, .putfield 45, 0, 0, []),
  (256, .return_, 0, 0, [])]
set_option maxRecDepth 20000 in
theorem ckX5_next : eX5_next.all (a_eok cX5_next) = true := b_code [42,42,180,0,22,181,0,28,42,180,0,28,42,180,0,19,162,0,30,42,42,180,0,28,182,0,31,184,0,35,153,0,16,42,89,180,0,28,4,96,181,0,28,167,255,221,42,42,180,0,28,182,0,31,60,42,42,180,0,28,4,96,42,180,0,19,184,0,39,181,0,22,27,2,160,0,11,42,3,181,0,45,167,0,174,27,184,0,48,153,0,46,42,4,181,0,45,42,180,0,22,42,180,0,19,162,0,151,42,42,180,0,22,182,0,31,184,0,48,153,0,137,42,89,180,0,22,4,96,181,0,22,167,255,221,27,184,0,51,153,0,112,42,5,181,0,45,42,27,16,48,100,181,0,54,42,180,0,22,42,180,0,19,162,0,93,42,42,180,0,22,182,0,31,184,0,51,153,0,79,42,180,0,54,2,159,0,20,42,180,0,22,42,180,0,28,100,7,162,0,7,4,167,0,4,3,61,42,28,153,0,25,16,10,42,180,0,54,104,42,42,180,0,22,182,0,31,96,16,48,100,167,0,4,2,181,0,54,42,89,180,0,22,4,96,181,0,22,167,255,163,42,6,181,0,45,177] [] (by decide +kernel) (by decide +kernel) (by decide +kernel) (by decide +kernel)
noncomputable def pX5_next : aPrg := (eX5_next,
  fdX5, [(31, fX5_at, 2, 5, 0), (35, fX5_isBlank, 1, 2000, 0), (39, fJ9_min_7cf53, 2, 2000, 0), (48, fX5_isLetter, 1, 2000, 0), (51, fX5_isDigit, 1, 2000, 0)], [], [], [], 2, [(8, [1, 2]), (46, [1, 2]), (97, [1, 2]), (155, [1, 2]), (205, [1, 2]), (206, [1, 2]), (235, [1, 2]), (256, [0, 1, 2])])
noncomputable def fX5_next : aMF := a_fn none shp pX5_next 3 1
set_option maxRecDepth 20000 in
theorem wkX5_at : ∀ w ∈ [Cond.code yX5_at cX5_at 2 (some .int), .initialized yX5_at.cls, .instanceMethod yX5_at, .selects yX5_at.cls yX5_at yX5_at], w ∈ lw_g := a_ps [679, 97, 678, 14] rfl rfl
theorem hdX5_at : yX5_at.cls ≠ "java/lang/invoke/MethodHandle" ∧ yX5_at.cls ≠ "java/lang/invoke/VarHandle" ∧ (parseMethodDescriptor yX5_at.desc).map (fun d => d.parameters.length) = some 1 := by decide +kernel
set_option maxRecDepth 20000 in
theorem lkX5_31 : Cond.methodLink RX5 31 yX5_at ∈ lw_g := a_p1 676 rfl rfl
set_option maxRecDepth 20000 in
theorem wkX5_isBlank : ∀ w ∈ [Cond.code yX5_isBlank cX5_isBlank 1 (some .boolean), .initialized yX5_isBlank.cls, .static yX5_isBlank], w ∈ lw_g := a_ps [682, 97, 681] rfl rfl
theorem hdX5_isBlank : yX5_isBlank.cls ≠ "java/lang/invoke/MethodHandle" ∧ yX5_isBlank.cls ≠ "java/lang/invoke/VarHandle" ∧ (parseMethodDescriptor yX5_isBlank.desc).map (fun d => d.parameters.length) = some 1 := by decide +kernel
set_option maxRecDepth 20000 in
theorem lkX5_35 : Cond.methodLink RX5 35 yX5_isBlank ∈ lw_g := a_p1 680 rfl rfl
set_option maxRecDepth 20000 in
theorem wkJ9_min_7cf53 : ∀ w ∈ [Cond.code yJ9_min_7cf53 cJ9_min_7cf53 2 (some .int), .initialized yJ9_min_7cf53.cls, .static yJ9_min_7cf53], w ∈ lw_g := a_ps [685, 111, 684] rfl rfl
theorem hdJ9_min_7cf53 : yJ9_min_7cf53.cls ≠ "java/lang/invoke/MethodHandle" ∧ yJ9_min_7cf53.cls ≠ "java/lang/invoke/VarHandle" ∧ (parseMethodDescriptor yJ9_min_7cf53.desc).map (fun d => d.parameters.length) = some 2 := by decide +kernel
set_option maxRecDepth 20000 in
theorem lkX5_39 : Cond.methodLink RX5 39 yJ9_min_7cf53 ∈ lw_g := a_p1 683 rfl rfl
set_option maxRecDepth 20000 in
theorem wkX5_isLetter : ∀ w ∈ [Cond.code yX5_isLetter cX5_isLetter 1 (some .boolean), .initialized yX5_isLetter.cls, .static yX5_isLetter], w ∈ lw_g := a_ps [688, 97, 687] rfl rfl
theorem hdX5_isLetter : yX5_isLetter.cls ≠ "java/lang/invoke/MethodHandle" ∧ yX5_isLetter.cls ≠ "java/lang/invoke/VarHandle" ∧ (parseMethodDescriptor yX5_isLetter.desc).map (fun d => d.parameters.length) = some 1 := by decide +kernel
set_option maxRecDepth 20000 in
theorem lkX5_48 : Cond.methodLink RX5 48 yX5_isLetter ∈ lw_g := a_p1 686 rfl rfl
set_option maxRecDepth 20000 in
theorem wkX5_isDigit : ∀ w ∈ [Cond.code yX5_isDigit cX5_isDigit 1 (some .boolean), .initialized yX5_isDigit.cls, .static yX5_isDigit], w ∈ lw_g := a_ps [691, 97, 690] rfl rfl
theorem hdX5_isDigit : yX5_isDigit.cls ≠ "java/lang/invoke/MethodHandle" ∧ yX5_isDigit.cls ≠ "java/lang/invoke/VarHandle" ∧ (parseMethodDescriptor yX5_isDigit.desc).map (fun d => d.parameters.length) = some 1 := by decide +kernel
set_option maxRecDepth 20000 in
theorem lkX5_51 : Cond.methodLink RX5 51 yX5_isDigit ∈ lw_g := a_p1 689 rfl rfl
set_option maxRecDepth 20000 in
theorem kX5_next {l : Launch} {G : aG} (hZ : a_Z l G) : a_Con l G shp yX5_next (.code yX5_next cX5_next 3 none) 2 37 fX5_next :=
  a_mth none hZ.1 hZ.2.1 shp_len (fun _ h => nomatch h) hZ.2.2.1 (by decide +kernel) rfl (foX5 rfl) (a_cok_of trivial) ckX5_next rfl rfl (trivial) (⟨a_CQ_v hZ.2.1 (kX5_at hZ) lkX5_31 (a_CF_v TX5 7 wkX5_at lkX5_31 hdX5_at ⟨by decide, by decide⟩ rfl) rfl rfl,
    ⟨a_CQ_s hZ.2.1 (kX5_isBlank hZ) lkX5_35 (a_CF_s wkX5_isBlank lkX5_35 hdX5_isBlank) rfl rfl,
    ⟨a_CQ_s hZ.2.1 (kJ9_min_7cf53 hZ) lkX5_39 (a_CF_s wkJ9_min_7cf53 lkX5_39 hdJ9_min_7cf53) rfl rfl,
    ⟨a_CQ_s hZ.2.1 (kX5_isLetter hZ) lkX5_48 (a_CF_s wkX5_isLetter lkX5_48 hdX5_isLetter) rfl rfl,
    ⟨a_CQ_s hZ.2.1 (kX5_isDigit hZ) lkX5_51 (a_CF_s wkX5_isDigit lkX5_51 hdX5_isDigit) rfl rfl,
    trivial⟩⟩⟩⟩⟩)
def eX5_begin : List (Nat × aEnt) := [(0, .aload_n 0, 0, 0, []),
  (1, .iload_n 1, 0, 0, []),
  (2, .putfield 19, 0, 0, []),
  (5, .aload_n 0, 0, 0, []),
  (6, .iconst 0, 0, 0, []),
  (7, .putfield 22, 0, 0, []),
  (10, .aload_n 0, 0, 0, []),
  (11, .invokevirtual 25, 0, 0, []),
  (14, .return_, 0, 0, [])]
set_option maxRecDepth 20000 in
theorem ckX5_begin : eX5_begin.all (a_eok cX5_begin) = true := b_code [42,27,181,0,19,42,3,181,0,22,42,182,0,25,177] [] (by decide +kernel) (by decide +kernel) (by decide +kernel) (by decide +kernel)
noncomputable def pX5_begin : aPrg := (eX5_begin,
  fdX5, [(25, fX5_next, 1, 5, 1)], [], [], [], 2, [])
noncomputable def fX5_begin : aMF := a_fn none shp pX5_begin 2 2
set_option maxRecDepth 20000 in
theorem wkX5_next : ∀ w ∈ [Cond.code yX5_next cX5_next 3 none, .initialized yX5_next.cls, .instanceMethod yX5_next, .selects yX5_next.cls yX5_next yX5_next], w ∈ lw_g := a_ps [675, 97, 673, 674] rfl rfl
theorem hdX5_next : yX5_next.cls ≠ "java/lang/invoke/MethodHandle" ∧ yX5_next.cls ≠ "java/lang/invoke/VarHandle" ∧ (parseMethodDescriptor yX5_next.desc).map (fun d => d.parameters.length) = some 0 := by decide +kernel
set_option maxRecDepth 20000 in
theorem lkX5_25 : Cond.methodLink RX5 25 yX5_next ∈ lw_g := a_p1 672 rfl rfl
set_option maxRecDepth 20000 in
theorem kX5_begin {l : Launch} {G : aG} (hZ : a_Z l G) : a_Con l G shp yX5_begin (.code yX5_begin cX5_begin 2 none) 3 59 fX5_begin :=
  a_mth none hZ.1 hZ.2.1 shp_len (fun _ h => nomatch h) hZ.2.2.1 (by decide +kernel) rfl (foX5 rfl) (a_cok_of trivial) ckX5_begin rfl rfl (trivial) (⟨a_CQ_v hZ.2.1 (kX5_next hZ) lkX5_25 (a_CF_v TX5 7 wkX5_next lkX5_25 hdX5_next ⟨by decide, by decide⟩ rfl) rfl rfl,
    trivial⟩)
def eX5_isWord : List (Nat × aEnt) := [(0, .aload_n 0, 0, 0, []),
  (1, .getfield 45, 0, 0, []),
  (4, .iconst 1, 1, 0, []),
  (5, .if_icmp .ne 19, 0, 24, []),
  (8, .aload_n 0, 0, 0, []),
  (9, .getfield 22, 0, 0, []),
  (12, .aload_n 0, 0, 0, []),
  (13, .getfield 28, 0, 0, []),
  (16, .isub, 0, 0, []),
  (17, .aload_n 1, 0, 0, []),
  (18, .invokevirtual 57, 0, 0, []),
  (21, .if_icmp .eq 5, 0, 26, []),
  (24, .iconst 0, 0, 0, []),
  (25, .ireturn, 0, 0, []),
  (26, .iconst 0, 0, 0, []),
  (27, .istore_n 2, 0, 0, []),
  (28, .iload_n 2, 0, 0, []),
  (29, .aload_n 1, 0, 0, []),
  (30, .invokevirtual 57, 0, 0, []),
  (33, .if_icmp .ge 29, 0, 62, []),
  (36, .aload_n 0, 0, 0, []),
  (37, .aload_n 0, 0, 0, []),
  (38, .getfield 28, 0, 0, []),
  (41, .iload_n 2, 0, 0, []),
  (42, .iadd, 0, 0, []),
  (43, .invokevirtual 31, 0, 0, []),
  (46, .aload_n 1, 0, 0, []),
  (47, .iload_n 2, 0, 0, []),
  (48, .invokevirtual 62, 0, 0, []),
  (51, .if_icmp .eq 5, 0, 56, []),
  (54, .iconst 0, 0, 0, []),
  (55, .ireturn, 0, 0, []),
  (56, .iinc 2 1, 1, 0, []),
  (59, .goto (-31), 0, 28, []),
  (62, .iconst 1, 1, 0, []),
  (63, .ireturn, 0, 0, [])]
set_option maxRecDepth 20000 in
theorem ckX5_isWord : eX5_isWord.all (a_eok cX5_isWord) = true := b_code [42,180,0,45,4,160,0,19,42,180,0,22,42,180,0,28,100,43,182,0,57,159,0,5,3,172,3,61,28,43,182,0,57,162,0,29,42,42,180,0,28,28,96,182,0,31,43,28,182,0,62,159,0,5,3,172,132,2,1,167,255,225,4,172] [] (by decide +kernel) (by decide +kernel) (by decide +kernel) (by decide +kernel)
noncomputable def pX5_isWord : aPrg := (eX5_isWord,
  fdX5, [(57, a_slen, 1, 1000, 0), (31, fX5_at, 2, 5, 0), (62, a_schr, 2, 1000, 0)], [], [], [], 1, [(24, [0, 1, 2])])
noncomputable def fX5_isWord : aMF := a_fn none shp pX5_isWord 3 2
set_option maxRecDepth 20000 in
theorem kX5_isWord {l : Launch} {G : aG} (hZ : a_Z l G) : a_Con l G shp yX5_isWord (.code yX5_isWord cX5_isWord 3 (some .boolean)) 6 160 fX5_isWord :=
  a_mth none hZ.1 hZ.2.1 shp_len (fun _ h => nomatch h) hZ.2.2.1 (by decide +kernel) rfl (foX5 rfl) (a_cok_of trivial) ckX5_isWord rfl rfl (trivial) (⟨q_slen hZ 697 rfl rfl rfl,
    ⟨a_CQ_v hZ.2.1 (kX5_at hZ) lkX5_31 (a_CF_v TX5 7 wkX5_at lkX5_31 hdX5_at ⟨by decide, by decide⟩ rfl) rfl rfl,
    ⟨q_schr hZ 707 rfl rfl rfl,
    trivial⟩⟩⟩)
def eX3_refuse : List (Nat × aEnt) := [(0, .aload_n 0, 0, 0, []),
  (1, .iload_n 1, 0, 0, []),
  (2, .putfield 23, 0, 0, []),
  (5, .aload_n 0, 0, 0, []),
  (6, .aload_n 0, 0, 0, []),
  (7, .getfield 15, 0, 0, []),
  (10, .getfield 73, 0, 0, []),
  (13, .putfield 9, 0, 0, []),
  (16, .iconst 0, 0, 0, []),
  (17, .ireturn, 0, 0, [])]
set_option maxRecDepth 20000 in
theorem ckX3_refuse : eX3_refuse.all (a_eok cX3_refuse) = true := b_code [42,27,181,0,23,42,42,180,0,15,180,0,73,181,0,9,3,172] [] (by decide +kernel) (by decide +kernel) (by decide +kernel) (by decide +kernel)
noncomputable def pX3_refuse : aPrg := (eX3_refuse,
  fdX3, [], [], [], [], 1, [])
noncomputable def fX3_refuse : aMF := a_fn none shp pX3_refuse 2 2
set_option maxRecDepth 20000 in
theorem kX3_refuse {l : Launch} {G : aG} (hZ : a_Z l G) : a_Con l G shp yX3_refuse (.code yX3_refuse cX3_refuse 2 (some .boolean)) 1 16 fX3_refuse :=
  a_mth none hZ.1 hZ.2.1 shp_len (fun _ h => nomatch h) hZ.2.2.1 (by decide +kernel) rfl (foX3 rfl) (a_cok_of trivial) ckX3_refuse rfl rfl (trivial) (trivial)
def eX3_readReader : List (Nat × aEnt) := [(0, .aload_n 0, 0, 0, []),
  (1, .getfield 19, 0, 0, []),
  (4, .getfield 76, 0, 0, []),
  (7, .iconst 5, 5, 0, []),
  (8, .if_icmp .lt 9, 0, 17, []),
  (11, .aload_n 0, 0, 0, []),
  (12, .iconst 2, 2, 0, []),
  (13, .invokevirtual 65, 0, 0, []),
  (16, .ireturn, 0, 0, []),
  (17, .aload_n 0, 0, 0, []),
  (18, .getfield 19, 0, 0, []),
  (21, .dup, 0, 0, []),
  (22, .getfield 76, 0, 0, []),
  (25, .iconst 1, 1, 0, []),
  (26, .iadd, 0, 0, []),
  (27, .putfield 76, 0, 0, []),
  (30, .aload_n 0, 0, 0, []),
  (31, .getfield 15, 0, 0, []),
  (34, .invokevirtual 79, 0, 0, []),
  (37, .iconst 1, 1, 0, []),
  (38, .ireturn, 0, 0, [])]
set_option maxRecDepth 20000 in
theorem ckX3_readReader : eX3_readReader.all (a_eok cX3_readReader) = true := b_code [42,180,0,19,180,0,76,8,161,0,9,42,5,182,0,65,172,42,180,0,19,89,180,0,76,4,96,181,0,76,42,180,0,15,182,0,79,4,172] [] (by decide +kernel) (by decide +kernel) (by decide +kernel) (by decide +kernel)
noncomputable def pX3_readReader : aPrg := (eX3_readReader,
  fdX3, [(65, fX3_refuse, 2, 3, 0), (79, fX5_next, 1, 5, 1)], [], [], [], 1, [])
noncomputable def fX3_readReader : aMF := a_fn none shp pX3_readReader 1 1
set_option maxRecDepth 20000 in
theorem wkX3_refuse : ∀ w ∈ [Cond.code yX3_refuse cX3_refuse 2 (some .boolean), .initialized yX3_refuse.cls, .instanceMethod yX3_refuse, .selects yX3_refuse.cls yX3_refuse yX3_refuse], w ∈ lw_g := a_ps [752, 100, 751, 16] rfl rfl
theorem hdX3_refuse : yX3_refuse.cls ≠ "java/lang/invoke/MethodHandle" ∧ yX3_refuse.cls ≠ "java/lang/invoke/VarHandle" ∧ (parseMethodDescriptor yX3_refuse.desc).map (fun d => d.parameters.length) = some 1 := by decide +kernel
set_option maxRecDepth 20000 in
theorem lkX3_65 : Cond.methodLink RX3 65 yX3_refuse ∈ lw_g := a_p1 749 rfl rfl
set_option maxRecDepth 20000 in
theorem lkX3_79 : Cond.methodLink RX3 79 yX5_next ∈ lw_g := a_p1 753 rfl rfl
set_option maxRecDepth 20000 in
theorem kX3_readReader {l : Launch} {G : aG} (hZ : a_Z l G) : a_Con l G shp yX3_readReader (.code yX3_readReader cX3_readReader 1 (some .boolean)) 3 59 fX3_readReader :=
  a_mth none hZ.1 hZ.2.1 shp_len (fun _ h => nomatch h) hZ.2.2.1 (by decide +kernel) rfl (foX3 rfl) (a_cok_of trivial) ckX3_readReader rfl rfl (trivial) (⟨a_CQ_v hZ.2.1 (kX3_refuse hZ) lkX3_65 (a_CF_v TX3 4 wkX3_refuse lkX3_65 hdX3_refuse ⟨by decide, by decide⟩ rfl) rfl rfl,
    ⟨a_CQ_v hZ.2.1 (kX5_next hZ) lkX3_79 (a_CF_v TX5 7 wkX5_next lkX3_79 hdX5_next ⟨by decide, by decide⟩ rfl) rfl rfl,
    trivial⟩⟩)
def eX3_needNumber : List (Nat × aEnt) := [(0, .aload_n 0, 0, 0, []),
  (1, .getfield 15, 0, 0, []),
  (4, .getfield 37, 0, 0, []),
  (7, .iconst 2, 2, 0, []),
  (8, .if_icmp .eq 9, 0, 17, []),
  (11, .aload_n 0, 0, 0, []),
  (12, .iconst 1, 1, 0, []),
  (13, .invokevirtual 65, 0, 0, []),
  (16, .ireturn, 0, 0, []),
  (17, .aload_n 0, 0, 0, []),
  (18, .getfield 15, 0, 0, []),
  (21, .getfield 105, 0, 0, []),
  (24, .iconst (-1), (-1), 0, []),
  (25, .if_icmp .ne 11, 0, 36, []),
  (28, .aload_n 0, 0, 0, []),
  (29, .iconst 2, 2, 0, []),
  (30, .invokevirtual 65, 0, 0, []),
  (33, .ifCond .eq 7, 0, 40, []),
  (36, .iconst 1, 1, 0, []),
  (37, .goto 4, 0, 41, []),
  (40, .iconst 0, 0, 0, []),
  (41, .ireturn, 0, 0, [])]
set_option maxRecDepth 20000 in
theorem ckX3_needNumber : eX3_needNumber.all (a_eok cX3_needNumber) = true := b_code [42,180,0,15,180,0,37,5,159,0,9,42,4,182,0,65,172,42,180,0,15,180,0,105,2,160,0,11,42,5,182,0,65,153,0,7,4,167,0,4,3,172] [] (by decide +kernel) (by decide +kernel) (by decide +kernel) (by decide +kernel)
noncomputable def pX3_needNumber : aPrg := (eX3_needNumber,
  fdX3, [(65, fX3_refuse, 2, 3, 0)], [], [], [], 1, [(36, [0]), (41, [0])])
noncomputable def fX3_needNumber : aMF := a_fn none shp pX3_needNumber 1 1
set_option maxRecDepth 20000 in
theorem kX3_needNumber {l : Launch} {G : aG} (hZ : a_Z l G) : a_Con l G shp yX3_needNumber (.code yX3_needNumber cX3_needNumber 1 (some .boolean)) 2 37 fX3_needNumber :=
  a_mth none hZ.1 hZ.2.1 shp_len (fun _ h => nomatch h) hZ.2.2.1 (by decide +kernel) rfl (foX3 rfl) (a_cok_of trivial) ckX3_needNumber rfl rfl (trivial) (⟨a_CQ_v hZ.2.1 (kX3_refuse hZ) lkX3_65 (a_CF_v TX3 4 wkX3_refuse lkX3_65 hdX3_refuse ⟨by decide, by decide⟩ rfl) rfl rfl,
    trivial⟩)
def eX3_readPart : List (Nat × aEnt) := [(0, .aload_n 0, 0, 0, []),
  (1, .invokevirtual 102, 0, 0, []),
  (4, .ifCond .ne 5, 0, 9, []),
  (7, .iconst 0, 0, 0, []),
  (8, .ireturn, 0, 0, []),
  (9, .aload_n 0, 0, 0, []),
  (10, .getfield 15, 0, 0, []),
  (13, .getfield 105, 0, 0, []),
  (16, .iload_n 2, 0, 0, []),
  (17, .if_icmp .lt 15, 0, 32, []),
  (20, .aload_n 0, 0, 0, []),
  (21, .getfield 15, 0, 0, []),
  (24, .getfield 105, 0, 0, []),
  (27, .bipush 99, 99, 0, []),
  (29, .if_icmp .le 9, 0, 38, []),
  (32, .aload_n 0, 0, 0, []),
  (33, .iconst 2, 2, 0, []),
  (34, .invokevirtual 65, 0, 0, []),
  (37, .ireturn, 0, 0, []),
  (38, .aload_n 0, 0, 0, []),
  (39, .getfield 19, 0, 0, []),
  (42, .getfield 108, 0, 0, []),
  (45, .iload_n 1, 0, 0, []),
  (46, .aload_n 0, 0, 0, []),
  (47, .getfield 15, 0, 0, []),
  (50, .getfield 105, 0, 0, []),
  (53, .iastore, 0, 0, []),
  (54, .aload_n 0, 0, 0, []),
  (55, .getfield 15, 0, 0, []),
  (58, .invokevirtual 79, 0, 0, []),
  (61, .iconst 1, 1, 0, []),
  (62, .ireturn, 0, 0, [])]
set_option maxRecDepth 20000 in
theorem ckX3_readPart : eX3_readPart.all (a_eok cX3_readPart) = true := b_code [42,182,0,102,154,0,5,3,172,42,180,0,15,180,0,105,28,161,0,15,42,180,0,15,180,0,105,16,99,164,0,9,42,5,182,0,65,172,42,180,0,19,180,0,108,27,42,180,0,15,180,0,105,79,42,180,0,15,182,0,79,4,172] [] (by decide +kernel) (by decide +kernel) (by decide +kernel) (by decide +kernel)
noncomputable def pX3_readPart : aPrg := (eX3_readPart,
  fdX3, [(102, fX3_needNumber, 1, 3, 0), (65, fX3_refuse, 2, 3, 0), (79, fX5_next, 1, 5, 1)], [], [], [], 1, [(32, [1, 2])])
noncomputable def fX3_readPart : aMF := a_fn none shp pX3_readPart 3 3
set_option maxRecDepth 20000 in
theorem wkX3_needNumber : ∀ w ∈ [Cond.code yX3_needNumber cX3_needNumber 1 (some .boolean), .initialized yX3_needNumber.cls, .instanceMethod yX3_needNumber, .selects yX3_needNumber.cls yX3_needNumber yX3_needNumber], w ∈ lw_g := a_ps [766, 100, 765, 19] rfl rfl
theorem hdX3_needNumber : yX3_needNumber.cls ≠ "java/lang/invoke/MethodHandle" ∧ yX3_needNumber.cls ≠ "java/lang/invoke/VarHandle" ∧ (parseMethodDescriptor yX3_needNumber.desc).map (fun d => d.parameters.length) = some 0 := by decide +kernel
set_option maxRecDepth 20000 in
theorem lkX3_102 : Cond.methodLink RX3 102 yX3_needNumber ∈ lw_g := a_p1 763 rfl rfl
set_option maxRecDepth 20000 in
theorem kX3_readPart {l : Launch} {G : aG} (hZ : a_Z l G) : a_Con l G shp yX3_readPart (.code yX3_readPart cX3_readPart 3 (some .boolean)) 3 59 fX3_readPart :=
  a_mth none hZ.1 hZ.2.1 shp_len (fun _ h => nomatch h) hZ.2.2.1 (by decide +kernel) rfl (foX3 rfl) (a_cok_of trivial) ckX3_readPart rfl rfl (trivial) (⟨a_CQ_v hZ.2.1 (kX3_needNumber hZ) lkX3_102 (a_CF_v TX3 4 wkX3_needNumber lkX3_102 hdX3_needNumber ⟨by decide, by decide⟩ rfl) rfl rfl,
    ⟨a_CQ_v hZ.2.1 (kX3_refuse hZ) lkX3_65 (a_CF_v TX3 4 wkX3_refuse lkX3_65 hdX3_refuse ⟨by decide, by decide⟩ rfl) rfl rfl,
    ⟨a_CQ_v hZ.2.1 (kX5_next hZ) lkX3_79 (a_CF_v TX5 7 wkX5_next lkX3_79 hdX5_next ⟨by decide, by decide⟩ rfl) rfl rfl,
    trivial⟩⟩⟩)
def eX3_readPerhaps : List (Nat × aEnt) := [(0, .aload_n 0, 0, 0, []),
  (1, .getfield 15, 0, 0, []),
  (4, .aload_n 1, 0, 0, []),
  (5, .invokevirtual 42, 0, 0, []),
  (8, .ifCond .ne 5, 0, 13, []),
  (11, .iconst 1, 1, 0, []),
  (12, .ireturn, 0, 0, []),
  (13, .aload_n 0, 0, 0, []),
  (14, .getfield 15, 0, 0, []),
  (17, .invokevirtual 79, 0, 0, []),
  (20, .aload_n 0, 0, 0, []),
  (21, .iload_n 2, 0, 0, []),
  (22, .iconst 0, 0, 0, []),
  (23, .invokevirtual 85, 0, 0, []),
  (26, .ireturn, 0, 0, [])]
set_option maxRecDepth 20000 in
theorem ckX3_readPerhaps : eX3_readPerhaps.all (a_eok cX3_readPerhaps) = true := b_code [42,180,0,15,43,182,0,42,154,0,5,4,172,42,180,0,15,182,0,79,42,28,3,182,0,85,172] [] (by decide +kernel) (by decide +kernel) (by decide +kernel) (by decide +kernel)
noncomputable def pX3_readPerhaps : aPrg := (eX3_readPerhaps,
  fdX3, [(42, fX5_isWord, 2, 5, 0), (79, fX5_next, 1, 5, 1), (85, fX3_readPart, 3, 3, 0)], [], [], [], 1, [])
noncomputable def fX3_readPerhaps : aMF := a_fn none shp pX3_readPerhaps 3 3
set_option maxRecDepth 20000 in
theorem wkX5_isWord : ∀ w ∈ [Cond.code yX5_isWord cX5_isWord 3 (some .boolean), .initialized yX5_isWord.cls, .instanceMethod yX5_isWord, .selects yX5_isWord.cls yX5_isWord yX5_isWord], w ∈ lw_g := a_ps [696, 97, 694, 695] rfl rfl
theorem hdX5_isWord : yX5_isWord.cls ≠ "java/lang/invoke/MethodHandle" ∧ yX5_isWord.cls ≠ "java/lang/invoke/VarHandle" ∧ (parseMethodDescriptor yX5_isWord.desc).map (fun d => d.parameters.length) = some 1 := by decide +kernel
set_option maxRecDepth 20000 in
theorem lkX3_42 : Cond.methodLink RX3 42 yX5_isWord ∈ lw_g := a_p1 693 rfl rfl
set_option maxRecDepth 20000 in
theorem wkX3_readPart : ∀ w ∈ [Cond.code yX3_readPart cX3_readPart 3 (some .boolean), .initialized yX3_readPart.cls, .instanceMethod yX3_readPart, .selects yX3_readPart.cls yX3_readPart yX3_readPart], w ∈ lw_g := a_ps [762, 100, 761, 18] rfl rfl
theorem hdX3_readPart : yX3_readPart.cls ≠ "java/lang/invoke/MethodHandle" ∧ yX3_readPart.cls ≠ "java/lang/invoke/VarHandle" ∧ (parseMethodDescriptor yX3_readPart.desc).map (fun d => d.parameters.length) = some 2 := by decide +kernel
set_option maxRecDepth 20000 in
theorem lkX3_85 : Cond.methodLink RX3 85 yX3_readPart ∈ lw_g := a_p1 759 rfl rfl
set_option maxRecDepth 20000 in
theorem kX3_readPerhaps {l : Launch} {G : aG} (hZ : a_Z l G) : a_Con l G shp yX3_readPerhaps (.code yX3_readPerhaps cX3_readPerhaps 3 (some .boolean)) 7 182 fX3_readPerhaps :=
  a_mth none hZ.1 hZ.2.1 shp_len (fun _ h => nomatch h) hZ.2.2.1 (by decide +kernel) rfl (foX3 rfl) (a_cok_of trivial) ckX3_readPerhaps rfl rfl (trivial) (⟨a_CQ_v hZ.2.1 (kX5_isWord hZ) lkX3_42 (a_CF_v TX5 7 wkX5_isWord lkX3_42 hdX5_isWord ⟨by decide, by decide⟩ rfl) rfl rfl,
    ⟨a_CQ_v hZ.2.1 (kX5_next hZ) lkX3_79 (a_CF_v TX5 7 wkX5_next lkX3_79 hdX5_next ⟨by decide, by decide⟩ rfl) rfl rfl,
    ⟨a_CQ_v hZ.2.1 (kX3_readPart hZ) lkX3_85 (a_CF_v TX3 4 wkX3_readPart lkX3_85 hdX3_readPart ⟨by decide, by decide⟩ rfl) rfl rfl,
    trivial⟩⟩⟩)
def eX3_needToldAhead : List (Nat × aEnt) := [(0, .aload_n 0, 0, 0, []),
  (1, .invokevirtual 102, 0, 0, []),
  (4, .ifCond .ne 5, 0, 9, []),
  (7, .iconst 0, 0, 0, []),
  (8, .ireturn, 0, 0, []),
  (9, .aload_n 0, 0, 0, []),
  (10, .getfield 15, 0, 0, []),
  (13, .getfield 105, 0, 0, []),
  (16, .iload_n 1, 0, 0, []),
  (17, .if_icmp .lt 11, 0, 28, []),
  (20, .aload_n 0, 0, 0, []),
  (21, .iconst 3, 3, 0, []),
  (22, .invokevirtual 65, 0, 0, []),
  (25, .ifCond .eq 7, 0, 32, []),
  (28, .iconst 1, 1, 0, []),
  (29, .goto 4, 0, 33, []),
  (32, .iconst 0, 0, 0, []),
  (33, .ireturn, 0, 0, [])]
set_option maxRecDepth 20000 in
theorem ckX3_needToldAhead : eX3_needToldAhead.all (a_eok cX3_needToldAhead) = true := b_code [42,182,0,102,154,0,5,3,172,42,180,0,15,180,0,105,27,161,0,11,42,6,182,0,65,153,0,7,4,167,0,4,3,172] [] (by decide +kernel) (by decide +kernel) (by decide +kernel) (by decide +kernel)
noncomputable def pX3_needToldAhead : aPrg := (eX3_needToldAhead,
  fdX3, [(102, fX3_needNumber, 1, 3, 0), (65, fX3_refuse, 2, 3, 0)], [], [], [], 1, [(28, [0, 1]), (33, [0, 1])])
noncomputable def fX3_needToldAhead : aMF := a_fn none shp pX3_needToldAhead 2 2
set_option maxRecDepth 20000 in
theorem kX3_needToldAhead {l : Launch} {G : aG} (hZ : a_Z l G) : a_Con l G shp yX3_needToldAhead (.code yX3_needToldAhead cX3_needToldAhead 2 (some .boolean)) 3 57 fX3_needToldAhead :=
  a_mth none hZ.1 hZ.2.1 shp_len (fun _ h => nomatch h) hZ.2.2.1 (by decide +kernel) rfl (foX3 rfl) (a_cok_of trivial) ckX3_needToldAhead rfl rfl (trivial) (⟨a_CQ_v hZ.2.1 (kX3_needNumber hZ) lkX3_102 (a_CF_v TX3 4 wkX3_needNumber lkX3_102 hdX3_needNumber ⟨by decide, by decide⟩ rfl) rfl rfl,
    ⟨a_CQ_v hZ.2.1 (kX3_refuse hZ) lkX3_65 (a_CF_v TX3 4 wkX3_refuse lkX3_65 hdX3_refuse ⟨by decide, by decide⟩ rfl) rfl rfl,
    trivial⟩⟩)
def eX3_readOwner : List (Nat × aEnt) := [(0, .iconst 5, 5, 0, []),
  (1, .istore_n 2, 0, 0, []),
  (2, .aload_n 0, 0, 0, []),
  (3, .getfield 15, 0, 0, []),
  (6, .ldc 112, 0, 0, []),
  (8, .invokevirtual 42, 0, 0, []),
  (11, .ifCond .eq 41, 0, 52, []),
  (14, .aload_n 0, 0, 0, []),
  (15, .getfield 15, 0, 0, []),
  (18, .invokevirtual 79, 0, 0, []),
  (21, .aload_n 0, 0, 0, []),
  (22, .aload_n 0, 0, 0, []),
  (23, .getfield 19, 0, 0, []),
  (26, .getfield 76, 0, 0, []),
  (29, .invokevirtual 114, 0, 0, []),
  (32, .ifCond .ne 5, 0, 37, []),
  (35, .iconst 0, 0, 0, []),
  (36, .ireturn, 0, 0, []),
  (37, .aload_n 0, 0, 0, []),
  (38, .getfield 15, 0, 0, []),
  (41, .getfield 105, 0, 0, []),
  (44, .istore_n 2, 0, 0, []),
  (45, .aload_n 0, 0, 0, []),
  (46, .getfield 15, 0, 0, []),
  (49, .invokevirtual 79, 0, 0, []),
  (52, .aload_n 0, 0, 0, []),
  (53, .getfield 19, 0, 0, []),
  (56, .getfield 117, 0, 0, []),
  (59, .iload_n 2, 0, 0, []),
  (60, .dup2, 0, 0, []),
  (61, .iaload, 0, 0, []),
  (62, .iconst 1, 1, 0, []),
  (63, .iload_n 1, 0, 0, []),
  (64, .ishl, 0, 0, []),
  (65, .ior, 0, 0, []),
  (66, .iastore, 0, 0, []),
  (67, .iconst 1, 1, 0, []),
  (68, .ireturn, 0, 0, [])]
set_option maxRecDepth 20000 in
theorem ckX3_readOwner : eX3_readOwner.all (a_eok cX3_readOwner) = true := b_code [8,61,42,180,0,15,18,112,182,0,42,153,0,41,42,180,0,15,182,0,79,42,42,180,0,19,180,0,76,182,0,114,154,0,5,3,172,42,180,0,15,180,0,105,61,42,180,0,15,182,0,79,42,180,0,19,180,0,117,28,92,46,4,27,120,128,79,4,172] [] (by decide +kernel) (by decide +kernel) (by decide +kernel) (by decide +kernel)
noncomputable def pX3_readOwner : aPrg := (eX3_readOwner,
  fdX3, [(42, fX5_isWord, 2, 5, 0), (79, fX5_next, 1, 5, 1), (114, fX3_needToldAhead, 2, 3, 0)], [(112, .ref 1007)], [], [], 1, [])
noncomputable def fX3_readOwner : aMF := a_fn none shp pX3_readOwner 3 2
set_option maxRecDepth 20000 in
theorem wkX3_needToldAhead : ∀ w ∈ [Cond.code yX3_needToldAhead cX3_needToldAhead 2 (some .boolean), .initialized yX3_needToldAhead.cls, .instanceMethod yX3_needToldAhead, .selects yX3_needToldAhead.cls yX3_needToldAhead yX3_needToldAhead], w ∈ lw_g := a_ps [782, 100, 781, 22] rfl rfl
theorem hdX3_needToldAhead : yX3_needToldAhead.cls ≠ "java/lang/invoke/MethodHandle" ∧ yX3_needToldAhead.cls ≠ "java/lang/invoke/VarHandle" ∧ (parseMethodDescriptor yX3_needToldAhead.desc).map (fun d => d.parameters.length) = some 1 := by decide +kernel
set_option maxRecDepth 20000 in
theorem lkX3_114 : Cond.methodLink RX3 114 yX3_needToldAhead ∈ lw_g := a_p1 779 rfl rfl
set_option maxRecDepth 20000 in
theorem kX3_readOwner {l : Launch} {G : aG} (hZ : a_Z l G) : a_Con l G shp yX3_readOwner (.code yX3_readOwner cX3_readOwner 3 (some .boolean)) 7 182 fX3_readOwner :=
  a_mth none hZ.1 hZ.2.1 shp_len (fun _ h => nomatch h) hZ.2.2.1 (by decide +kernel) rfl (foX3 rfl) (a_cok_of ⟨⟨_, z_7 hZ⟩, trivial⟩) ckX3_readOwner rfl rfl (trivial) (⟨a_CQ_v hZ.2.1 (kX5_isWord hZ) lkX3_42 (a_CF_v TX5 7 wkX5_isWord lkX3_42 hdX5_isWord ⟨by decide, by decide⟩ rfl) rfl rfl,
    ⟨a_CQ_v hZ.2.1 (kX5_next hZ) lkX3_79 (a_CF_v TX5 7 wkX5_next lkX3_79 hdX5_next ⟨by decide, by decide⟩ rfl) rfl rfl,
    ⟨a_CQ_v hZ.2.1 (kX3_needToldAhead hZ) lkX3_114 (a_CF_v TX3 4 wkX3_needToldAhead lkX3_114 hdX3_needToldAhead ⟨by decide, by decide⟩ rfl) rfl rfl,
    trivial⟩⟩⟩)
def eX3_readBook : List (Nat × aEnt) := [(0, .aload_n 0, 0, 0, []),
  (1, .getfield 19, 0, 0, []),
  (4, .getfield 82, 0, 0, []),
  (7, .istore_n 1, 0, 0, []),
  (8, .iload_n 1, 0, 0, []),
  (9, .bipush 12, 12, 0, []),
  (11, .if_icmp .lt 9, 0, 20, []),
  (14, .aload_n 0, 0, 0, []),
  (15, .iconst 2, 2, 0, []),
  (16, .invokevirtual 65, 0, 0, []),
  (19, .ireturn, 0, 0, []),
  (20, .aload_n 0, 0, 0, []),
  (21, .getfield 15, 0, 0, []),
  (24, .invokevirtual 79, 0, 0, []),
  (27, .iconst 4, 4, 0, []),
  (28, .iload_n 1, 0, 0, []),
  (29, .imul, 0, 0, []),
  (30, .istore_n 2, 0, 0, []),
  (31, .aload_n 0, 0, 0, []),
  (32, .iload_n 2, 0, 0, []),
  (33, .iconst 1, 1, 0, []),
  (34, .invokevirtual 85, 0, 0, []),
  (37, .ifCond .eq 51, 0, 88, []),
  (40, .aload_n 0, 0, 0, []),
  (41, .ldc 89, 0, 0, []),
  (43, .iload_n 2, 0, 0, []),
  (44, .iconst 1, 1, 0, []),
  (45, .iadd, 0, 0, []),
  (46, .invokevirtual 91, 0, 0, []),
  (49, .ifCond .eq 39, 0, 88, []),
  (52, .aload_n 0, 0, 0, []),
  (53, .ldc 95, 0, 0, []),
  (55, .iload_n 2, 0, 0, []),
  (56, .iconst 2, 2, 0, []),
  (57, .iadd, 0, 0, []),
  (58, .invokevirtual 91, 0, 0, []),
  (61, .ifCond .eq 27, 0, 88, []),
  (64, .aload_n 0, 0, 0, []),
  (65, .ldc 97, 0, 0, []),
  (67, .iload_n 2, 0, 0, []),
  (68, .iconst 3, 3, 0, []),
  (69, .iadd, 0, 0, []),
  (70, .invokevirtual 91, 0, 0, []),
  (73, .ifCond .eq 15, 0, 88, []),
  (76, .aload_n 0, 0, 0, []),
  (77, .iload_n 1, 0, 0, []),
  (78, .invokevirtual 99, 0, 0, []),
  (81, .ifCond .eq 7, 0, 88, []),
  (84, .iconst 1, 1, 0, []),
  (85, .goto 4, 0, 89, []),
  (88, .iconst 0, 0, 0, []),
  (89, .istore_n 3, 0, 0, []),
  (90, .aload_n 0, 0, 0, []),
  (91, .getfield 19, 0, 0, []),
  (94, .dup, 0, 0, []),
  (95, .getfield 82, 0, 0, []),
  (98, .iconst 1, 1, 0, []),
  (99, .iadd, 0, 0, []),
  (100, .putfield 82, 0, 0, []),
  (103, .iload_n 3, 0, 0, []),
  (104, .ireturn, 0, 0, [])]
set_option maxRecDepth 20000 in
theorem ckX3_readBook : eX3_readBook.all (a_eok cX3_readBook) = true := b_code [42,180,0,19,180,0,82,60,27,16,12,161,0,9,42,5,182,0,65,172,42,180,0,15,182,0,79,7,27,104,61,42,28,4,182,0,85,153,0,51,42,18,89,28,4,96,182,0,91,153,0,39,42,18,95,28,5,96,182,0,91,153,0,27,42,18,97,28,6,96,182,0,91,153,0,15,42,27,182,0,99,153,0,7,4,167,0,4,3,62,42,180,0,19,89,180,0,82,4,96,181,0,82,29,172] [] (by decide +kernel) (by decide +kernel) (by decide +kernel) (by decide +kernel)
noncomputable def pX3_readBook : aPrg := (eX3_readBook,
  fdX3, [(65, fX3_refuse, 2, 3, 0), (79, fX5_next, 1, 5, 1), (85, fX3_readPart, 3, 3, 0), (91, fX3_readPerhaps, 3, 3, 0), (99, fX3_readOwner, 2, 3, 0)], [(89, .ref 1004), (95, .ref 1005), (97, .ref 1006)], [], [], 1, [(88, [1, 2, 3]), (89, [1, 2, 3])])
noncomputable def fX3_readBook : aMF := a_fn none shp pX3_readBook 4 1
set_option maxRecDepth 20000 in
theorem wkX3_readPerhaps : ∀ w ∈ [Cond.code yX3_readPerhaps cX3_readPerhaps 3 (some .boolean), .initialized yX3_readPerhaps.cls, .instanceMethod yX3_readPerhaps, .selects yX3_readPerhaps.cls yX3_readPerhaps yX3_readPerhaps], w ∈ lw_g := a_ps [771, 100, 770, 20] rfl rfl
theorem hdX3_readPerhaps : yX3_readPerhaps.cls ≠ "java/lang/invoke/MethodHandle" ∧ yX3_readPerhaps.cls ≠ "java/lang/invoke/VarHandle" ∧ (parseMethodDescriptor yX3_readPerhaps.desc).map (fun d => d.parameters.length) = some 2 := by decide +kernel
set_option maxRecDepth 20000 in
theorem lkX3_91 : Cond.methodLink RX3 91 yX3_readPerhaps ∈ lw_g := a_p1 768 rfl rfl
set_option maxRecDepth 20000 in
theorem wkX3_readOwner : ∀ w ∈ [Cond.code yX3_readOwner cX3_readOwner 3 (some .boolean), .initialized yX3_readOwner.cls, .instanceMethod yX3_readOwner, .selects yX3_readOwner.cls yX3_readOwner yX3_readOwner], w ∈ lw_g := a_ps [777, 100, 776, 21] rfl rfl
theorem hdX3_readOwner : yX3_readOwner.cls ≠ "java/lang/invoke/MethodHandle" ∧ yX3_readOwner.cls ≠ "java/lang/invoke/VarHandle" ∧ (parseMethodDescriptor yX3_readOwner.desc).map (fun d => d.parameters.length) = some 1 := by decide +kernel
set_option maxRecDepth 20000 in
theorem lkX3_99 : Cond.methodLink RX3 99 yX3_readOwner ∈ lw_g := a_p1 774 rfl rfl
set_option maxRecDepth 20000 in
theorem kX3_readBook {l : Launch} {G : aG} (hZ : a_Z l G) : a_Con l G shp yX3_readBook (.code yX3_readBook cX3_readBook 4 (some .boolean)) 8 204 fX3_readBook :=
  a_mth none hZ.1 hZ.2.1 shp_len (fun _ h => nomatch h) hZ.2.2.1 (by decide +kernel) rfl (foX3 rfl) (a_cok_of ⟨⟨_, z_4 hZ⟩, ⟨⟨_, z_5 hZ⟩, ⟨⟨_, z_6 hZ⟩, trivial⟩⟩⟩) ckX3_readBook rfl rfl (trivial) (⟨a_CQ_v hZ.2.1 (kX3_refuse hZ) lkX3_65 (a_CF_v TX3 4 wkX3_refuse lkX3_65 hdX3_refuse ⟨by decide, by decide⟩ rfl) rfl rfl,
    ⟨a_CQ_v hZ.2.1 (kX5_next hZ) lkX3_79 (a_CF_v TX5 7 wkX5_next lkX3_79 hdX5_next ⟨by decide, by decide⟩ rfl) rfl rfl,
    ⟨a_CQ_v hZ.2.1 (kX3_readPart hZ) lkX3_85 (a_CF_v TX3 4 wkX3_readPart lkX3_85 hdX3_readPart ⟨by decide, by decide⟩ rfl) rfl rfl,
    ⟨a_CQ_v hZ.2.1 (kX3_readPerhaps hZ) lkX3_91 (a_CF_v TX3 4 wkX3_readPerhaps lkX3_91 hdX3_readPerhaps ⟨by decide, by decide⟩ rfl) rfl rfl,
    ⟨a_CQ_v hZ.2.1 (kX3_readOwner hZ) lkX3_99 (a_CF_v TX3 4 wkX3_readOwner lkX3_99 hdX3_readOwner ⟨by decide, by decide⟩ rfl) rfl rfl,
    trivial⟩⟩⟩⟩⟩)
def eX3_readWants : List (Nat × aEnt) := [(0, .aload_n 0, 0, 0, []),
  (1, .getfield 15, 0, 0, []),
  (4, .invokevirtual 79, 0, 0, []),
  (7, .aload_n 0, 0, 0, []),
  (8, .aload_n 0, 0, 0, []),
  (9, .getfield 19, 0, 0, []),
  (12, .getfield 76, 0, 0, []),
  (15, .invokevirtual 114, 0, 0, []),
  (18, .ifCond .ne 5, 0, 23, []),
  (21, .iconst 0, 0, 0, []),
  (22, .ireturn, 0, 0, []),
  (23, .aload_n 0, 0, 0, []),
  (24, .getfield 15, 0, 0, []),
  (27, .getfield 105, 0, 0, []),
  (30, .istore_n 1, 0, 0, []),
  (31, .aload_n 0, 0, 0, []),
  (32, .getfield 19, 0, 0, []),
  (35, .getfield 120, 0, 0, []),
  (38, .iload_n 1, 0, 0, []),
  (39, .iaload, 0, 0, []),
  (40, .iconst (-1), (-1), 0, []),
  (41, .if_icmp .eq 9, 0, 50, []),
  (44, .aload_n 0, 0, 0, []),
  (45, .iconst 4, 4, 0, []),
  (46, .invokevirtual 65, 0, 0, []),
  (49, .ireturn, 0, 0, []),
  (50, .aload_n 0, 0, 0, []),
  (51, .getfield 15, 0, 0, []),
  (54, .invokevirtual 79, 0, 0, []),
  (57, .aload_n 0, 0, 0, []),
  (58, .aload_n 0, 0, 0, []),
  (59, .getfield 19, 0, 0, []),
  (62, .getfield 82, 0, 0, []),
  (65, .invokevirtual 114, 0, 0, []),
  (68, .ifCond .ne 5, 0, 73, []),
  (71, .iconst 0, 0, 0, []),
  (72, .ireturn, 0, 0, []),
  (73, .aload_n 0, 0, 0, []),
  (74, .getfield 19, 0, 0, []),
  (77, .getfield 120, 0, 0, []),
  (80, .iload_n 1, 0, 0, []),
  (81, .aload_n 0, 0, 0, []),
  (82, .getfield 15, 0, 0, []),
  (85, .getfield 105, 0, 0, []),
  (88, .iastore, 0, 0, []),
  (89, .aload_n 0, 0, 0, []),
  (90, .getfield 15, 0, 0, []),
  (93, .invokevirtual 79, 0, 0, []),
  (96, .iconst 1, 1, 0, []),
  (97, .ireturn, 0, 0, [])]
set_option maxRecDepth 20000 in
theorem ckX3_readWants : eX3_readWants.all (a_eok cX3_readWants) = true := b_code [42,180,0,15,182,0,79,42,42,180,0,19,180,0,76,182,0,114,154,0,5,3,172,42,180,0,15,180,0,105,60,42,180,0,19,180,0,120,27,46,2,159,0,9,42,7,182,0,65,172,42,180,0,15,182,0,79,42,42,180,0,19,180,0,82,182,0,114,154,0,5,3,172,42,180,0,19,180,0,120,27,42,180,0,15,180,0,105,79,42,180,0,15,182,0,79,4,172] [] (by decide +kernel) (by decide +kernel) (by decide +kernel) (by decide +kernel)
noncomputable def pX3_readWants : aPrg := (eX3_readWants,
  fdX3, [(79, fX5_next, 1, 5, 1), (114, fX3_needToldAhead, 2, 3, 0), (65, fX3_refuse, 2, 3, 0)], [], [], [], 1, [])
noncomputable def fX3_readWants : aMF := a_fn none shp pX3_readWants 2 1
set_option maxRecDepth 20000 in
theorem kX3_readWants {l : Launch} {G : aG} (hZ : a_Z l G) : a_Con l G shp yX3_readWants (.code yX3_readWants cX3_readWants 2 (some .boolean)) 4 78 fX3_readWants :=
  a_mth none hZ.1 hZ.2.1 shp_len (fun _ h => nomatch h) hZ.2.2.1 (by decide +kernel) rfl (foX3 rfl) (a_cok_of trivial) ckX3_readWants rfl rfl (trivial) (⟨a_CQ_v hZ.2.1 (kX5_next hZ) lkX3_79 (a_CF_v TX5 7 wkX5_next lkX3_79 hdX5_next ⟨by decide, by decide⟩ rfl) rfl rfl,
    ⟨a_CQ_v hZ.2.1 (kX3_needToldAhead hZ) lkX3_114 (a_CF_v TX3 4 wkX3_needToldAhead lkX3_114 hdX3_needToldAhead ⟨by decide, by decide⟩ rfl) rfl rfl,
    ⟨a_CQ_v hZ.2.1 (kX3_refuse hZ) lkX3_65 (a_CF_v TX3 4 wkX3_refuse lkX3_65 hdX3_refuse ⟨by decide, by decide⟩ rfl) rfl rfl,
    trivial⟩⟩⟩)
def eX5_isSign : List (Nat × aEnt) := [(0, .aload_n 0, 0, 0, []),
  (1, .getfield 45, 0, 0, []),
  (4, .iconst 3, 3, 0, []),
  (5, .if_icmp .ne 19, 0, 24, []),
  (8, .aload_n 0, 0, 0, []),
  (9, .aload_n 0, 0, 0, []),
  (10, .getfield 28, 0, 0, []),
  (13, .invokevirtual 31, 0, 0, []),
  (16, .iload_n 1, 0, 0, []),
  (17, .if_icmp .ne 7, 0, 24, []),
  (20, .iconst 1, 1, 0, []),
  (21, .goto 4, 0, 25, []),
  (24, .iconst 0, 0, 0, []),
  (25, .ireturn, 0, 0, [])]
set_option maxRecDepth 20000 in
theorem ckX5_isSign : eX5_isSign.all (a_eok cX5_isSign) = true := b_code [42,180,0,45,6,160,0,19,42,42,180,0,28,182,0,31,27,160,0,7,4,167,0,4,3,172] [] (by decide +kernel) (by decide +kernel) (by decide +kernel) (by decide +kernel)
noncomputable def pX5_isSign : aPrg := (eX5_isSign,
  fdX5, [(31, fX5_at, 2, 5, 0)], [], [], [], 1, [(24, [0, 1]), (25, [0, 1])])
noncomputable def fX5_isSign : aMF := a_fn none shp pX5_isSign 2 2
set_option maxRecDepth 20000 in
theorem kX5_isSign {l : Launch} {G : aG} (hZ : a_Z l G) : a_Con l G shp yX5_isSign (.code yX5_isSign cX5_isSign 2 (some .boolean)) 2 37 fX5_isSign :=
  a_mth none hZ.1 hZ.2.1 shp_len (fun _ h => nomatch h) hZ.2.2.1 (by decide +kernel) rfl (foX5 rfl) (a_cok_of trivial) ckX5_isSign rfl rfl (trivial) (⟨a_CQ_v hZ.2.1 (kX5_at hZ) lkX5_31 (a_CF_v TX5 7 wkX5_at lkX5_31 hdX5_at ⟨by decide, by decide⟩ rfl) rfl rfl,
    trivial⟩)
def eX3_operatorOf : List (Nat × aEnt) := [(0, .iload_n 1, 0, 0, []),
  (1, .tableswitch 141 0 3 #[31, 50, 69, 105], 0, 142, [(0, 32), (1, 51), (2, 70), (3, 106)]),
  (32, .aload_n 0, 0, 0, []),
  (33, .getfield 15, 0, 0, []),
  (36, .ldc 154, 0, 0, []),
  (38, .invokevirtual 42, 0, 0, []),
  (41, .ifCond .eq 8, 0, 49, []),
  (44, .bipush (-5), (-5), 0, []),
  (46, .goto 4, 0, 50, []),
  (49, .iconst 0, 0, 0, []),
  (50, .ireturn, 0, 0, []),
  (51, .aload_n 0, 0, 0, []),
  (52, .getfield 15, 0, 0, []),
  (55, .ldc 156, 0, 0, []),
  (57, .invokevirtual 42, 0, 0, []),
  (60, .ifCond .eq 8, 0, 68, []),
  (63, .bipush (-6), (-6), 0, []),
  (65, .goto 4, 0, 69, []),
  (68, .iconst 0, 0, 0, []),
  (69, .ireturn, 0, 0, []),
  (70, .aload_n 0, 0, 0, []),
  (71, .getfield 15, 0, 0, []),
  (74, .bipush 60, 60, 0, []),
  (76, .invokevirtual 135, 0, 0, []),
  (79, .ifCond .eq 8, 0, 87, []),
  (82, .bipush (-8), (-8), 0, []),
  (84, .goto 21, 0, 105, []),
  (87, .aload_n 0, 0, 0, []),
  (88, .getfield 15, 0, 0, []),
  (91, .bipush 61, 61, 0, []),
  (93, .invokevirtual 135, 0, 0, []),
  (96, .ifCond .eq 8, 0, 104, []),
  (99, .bipush (-9), (-9), 0, []),
  (101, .goto 4, 0, 105, []),
  (104, .iconst 0, 0, 0, []),
  (105, .ireturn, 0, 0, []),
  (106, .aload_n 0, 0, 0, []),
  (107, .getfield 15, 0, 0, []),
  (110, .bipush 43, 43, 0, []),
  (112, .invokevirtual 135, 0, 0, []),
  (115, .ifCond .eq 8, 0, 123, []),
  (118, .bipush (-10), (-10), 0, []),
  (120, .goto 21, 0, 141, []),
  (123, .aload_n 0, 0, 0, []),
  (124, .getfield 15, 0, 0, []),
  (127, .bipush 45, 45, 0, []),
  (129, .invokevirtual 135, 0, 0, []),
  (132, .ifCond .eq 8, 0, 140, []),
  (135, .bipush (-11), (-11), 0, []),
  (137, .goto 4, 0, 141, []),
  (140, .iconst 0, 0, 0, []),
  (141, .ireturn, 0, 0, []),
  (142, .aload_n 0, 0, 0, []),
  (143, .getfield 15, 0, 0, []),
  (146, .bipush 42, 42, 0, []),
  (148, .invokevirtual 135, 0, 0, []),
  (151, .ifCond .eq 8, 0, 159, []),
  (154, .bipush (-12), (-12), 0, []),
  (156, .goto 21, 0, 177, []),
  (159, .aload_n 0, 0, 0, []),
  (160, .getfield 15, 0, 0, []),
  (163, .bipush 47, 47, 0, []),
  (165, .invokevirtual 135, 0, 0, []),
  (168, .ifCond .eq 8, 0, 176, []),
  (171, .bipush (-13), (-13), 0, []),
  (173, .goto 4, 0, 177, []),
  (176, .iconst 0, 0, 0, []),
  (177, .ireturn, 0, 0, [])]
set_option maxRecDepth 20000 in
theorem ckX3_operatorOf : eX3_operatorOf.all (a_eok cX3_operatorOf) = true := b_code [27,170,0,0,0,0,0,141,0,0,0,0,0,0,0,3,0,0,0,31,0,0,0,50,0,0,0,69,0,0,0,105,42,180,0,15,18,154,182,0,42,153,0,8,16,251,167,0,4,3,172,42,180,0,15,18,156,182,0,42,153,0,8,16,250,167,0,4,3,172,42,180,0,15,16,60,182,0,135,153,0,8,16,248,167,0,21,42,180,0,15,16,61,182,0,135,153,0,8,16,247,167,0,4,3,172,42,180,0,15,16,43,182,0,135,153,0,8,16,246,167,0,21,42,180,0,15,16,45,182,0,135,153,0,8,16,245,167,0,4,3,172,42,180,0,15,16,42,182,0,135,153,0,8,16,244,167,0,21,42,180,0,15,16,47,182,0,135,153,0,8,16,243,167,0,4,3,172] [(1, 31)] (by decide +kernel) (by decide +kernel) (by decide +kernel) (by decide +kernel)
noncomputable def pX3_operatorOf : aPrg := (eX3_operatorOf,
  fdX3, [(42, fX5_isWord, 2, 5, 0), (135, fX5_isSign, 2, 5, 0)], [(154, .ref 1008), (156, .ref 1009)], [], [], 0, [(50, [0, 1]), (69, [0, 1]), (105, [0, 1]), (141, [0, 1]), (177, [0, 1])])
noncomputable def fX3_operatorOf : aMF := a_fn none shp pX3_operatorOf 2 2
set_option maxRecDepth 20000 in
theorem wkX5_isSign : ∀ w ∈ [Cond.code yX5_isSign cX5_isSign 2 (some .boolean), .initialized yX5_isSign.cls, .instanceMethod yX5_isSign, .selects yX5_isSign.cls yX5_isSign yX5_isSign], w ∈ lw_g := a_ps [801, 97, 799, 800] rfl rfl
theorem hdX5_isSign : yX5_isSign.cls ≠ "java/lang/invoke/MethodHandle" ∧ yX5_isSign.cls ≠ "java/lang/invoke/VarHandle" ∧ (parseMethodDescriptor yX5_isSign.desc).map (fun d => d.parameters.length) = some 1 := by decide +kernel
set_option maxRecDepth 20000 in
theorem lkX3_135 : Cond.methodLink RX3 135 yX5_isSign ∈ lw_g := a_p1 798 rfl rfl
set_option maxRecDepth 20000 in
theorem kX3_operatorOf {l : Launch} {G : aG} (hZ : a_Z l G) : a_Con l G shp yX3_operatorOf (.code yX3_operatorOf cX3_operatorOf 2 (some .int)) 7 182 fX3_operatorOf :=
  a_mth none hZ.1 hZ.2.1 shp_len (fun _ h => nomatch h) hZ.2.2.1 (by decide +kernel) rfl (foX3 rfl) (a_cok_of ⟨⟨_, z_8 hZ⟩, ⟨⟨_, z_9 hZ⟩, trivial⟩⟩) ckX3_operatorOf rfl rfl (trivial) (⟨a_CQ_v hZ.2.1 (kX5_isWord hZ) lkX3_42 (a_CF_v TX5 7 wkX5_isWord lkX3_42 hdX5_isWord ⟨by decide, by decide⟩ rfl) rfl rfl,
    ⟨a_CQ_v hZ.2.1 (kX5_isSign hZ) lkX3_135 (a_CF_v TX5 7 wkX5_isSign lkX3_135 hdX5_isSign ⟨by decide, by decide⟩ rfl) rfl rfl,
    trivial⟩⟩)
def eX3_needSign : List (Nat × aEnt) := [(0, .aload_n 0, 0, 0, []),
  (1, .getfield 15, 0, 0, []),
  (4, .iload_n 1, 0, 0, []),
  (5, .invokevirtual 135, 0, 0, []),
  (8, .ifCond .ne 9, 0, 17, []),
  (11, .aload_n 0, 0, 0, []),
  (12, .iconst 1, 1, 0, []),
  (13, .invokevirtual 65, 0, 0, []),
  (16, .ireturn, 0, 0, []),
  (17, .aload_n 0, 0, 0, []),
  (18, .getfield 15, 0, 0, []),
  (21, .invokevirtual 79, 0, 0, []),
  (24, .iconst 1, 1, 0, []),
  (25, .ireturn, 0, 0, [])]
set_option maxRecDepth 20000 in
theorem ckX3_needSign : eX3_needSign.all (a_eok cX3_needSign) = true := b_code [42,180,0,15,27,182,0,135,154,0,9,42,4,182,0,65,172,42,180,0,15,182,0,79,4,172] [] (by decide +kernel) (by decide +kernel) (by decide +kernel) (by decide +kernel)
noncomputable def pX3_needSign : aPrg := (eX3_needSign,
  fdX3, [(135, fX5_isSign, 2, 5, 0), (65, fX3_refuse, 2, 3, 0), (79, fX5_next, 1, 5, 1)], [], [], [], 1, [])
noncomputable def fX3_needSign : aMF := a_fn none shp pX3_needSign 2 2
set_option maxRecDepth 20000 in
theorem kX3_needSign {l : Launch} {G : aG} (hZ : a_Z l G) : a_Con l G shp yX3_needSign (.code yX3_needSign cX3_needSign 2 (some .boolean)) 3 59 fX3_needSign :=
  a_mth none hZ.1 hZ.2.1 shp_len (fun _ h => nomatch h) hZ.2.2.1 (by decide +kernel) rfl (foX3 rfl) (a_cok_of trivial) ckX3_needSign rfl rfl (trivial) (⟨a_CQ_v hZ.2.1 (kX5_isSign hZ) lkX3_135 (a_CF_v TX5 7 wkX5_isSign lkX3_135 hdX5_isSign ⟨by decide, by decide⟩ rfl) rfl rfl,
    ⟨a_CQ_v hZ.2.1 (kX3_refuse hZ) lkX3_65 (a_CF_v TX3 4 wkX3_refuse lkX3_65 hdX3_refuse ⟨by decide, by decide⟩ rfl) rfl rfl,
    ⟨a_CQ_v hZ.2.1 (kX5_next hZ) lkX3_79 (a_CF_v TX5 7 wkX5_next lkX3_79 hdX5_next ⟨by decide, by decide⟩ rfl) rfl rfl,
    trivial⟩⟩⟩)
def eX3_needWord : List (Nat × aEnt) := [(0, .aload_n 0, 0, 0, []),
  (1, .getfield 15, 0, 0, []),
  (4, .aload_n 1, 0, 0, []),
  (5, .invokevirtual 42, 0, 0, []),
  (8, .ifCond .ne 9, 0, 17, []),
  (11, .aload_n 0, 0, 0, []),
  (12, .iconst 1, 1, 0, []),
  (13, .invokevirtual 65, 0, 0, []),
  (16, .ireturn, 0, 0, []),
  (17, .aload_n 0, 0, 0, []),
  (18, .getfield 15, 0, 0, []),
  (21, .invokevirtual 79, 0, 0, []),
  (24, .iconst 1, 1, 0, []),
  (25, .ireturn, 0, 0, [])]
set_option maxRecDepth 20000 in
theorem ckX3_needWord : eX3_needWord.all (a_eok cX3_needWord) = true := b_code [42,180,0,15,43,182,0,42,154,0,9,42,4,182,0,65,172,42,180,0,15,182,0,79,4,172] [] (by decide +kernel) (by decide +kernel) (by decide +kernel) (by decide +kernel)
noncomputable def pX3_needWord : aPrg := (eX3_needWord,
  fdX3, [(42, fX5_isWord, 2, 5, 0), (65, fX3_refuse, 2, 3, 0), (79, fX5_next, 1, 5, 1)], [], [], [], 1, [])
noncomputable def fX3_needWord : aMF := a_fn none shp pX3_needWord 2 2
set_option maxRecDepth 20000 in
theorem kX3_needWord {l : Launch} {G : aG} (hZ : a_Z l G) : a_Con l G shp yX3_needWord (.code yX3_needWord cX3_needWord 2 (some .boolean)) 7 182 fX3_needWord :=
  a_mth none hZ.1 hZ.2.1 shp_len (fun _ h => nomatch h) hZ.2.2.1 (by decide +kernel) rfl (foX3 rfl) (a_cok_of trivial) ckX3_needWord rfl rfl (trivial) (⟨a_CQ_v hZ.2.1 (kX5_isWord hZ) lkX3_42 (a_CF_v TX5 7 wkX5_isWord lkX3_42 hdX5_isWord ⟨by decide, by decide⟩ rfl) rfl rfl,
    ⟨a_CQ_v hZ.2.1 (kX3_refuse hZ) lkX3_65 (a_CF_v TX3 4 wkX3_refuse lkX3_65 hdX3_refuse ⟨by decide, by decide⟩ rfl) rfl rfl,
    ⟨a_CQ_v hZ.2.1 (kX5_next hZ) lkX3_79 (a_CF_v TX5 7 wkX5_next lkX3_79 hdX5_next ⟨by decide, by decide⟩ rfl) rfl rfl,
    trivial⟩⟩⟩)
def eX3_readValue : List (Nat × aEnt) := [(0, .aload_n 0, 0, 0, []),
  (1, .getfield 15, 0, 0, []),
  (4, .ldc 177, 0, 0, []),
  (6, .invokevirtual 42, 0, 0, []),
  (9, .ifCond .eq 7, 0, 16, []),
  (12, .iconst (-1), (-1), 0, []),
  (13, .goto 55, 0, 68, []),
  (16, .aload_n 0, 0, 0, []),
  (17, .getfield 15, 0, 0, []),
  (20, .ldc 89, 0, 0, []),
  (22, .invokevirtual 42, 0, 0, []),
  (25, .ifCond .eq 8, 0, 33, []),
  (28, .bipush (-2), (-2), 0, []),
  (30, .goto 38, 0, 68, []),
  (33, .aload_n 0, 0, 0, []),
  (34, .getfield 15, 0, 0, []),
  (37, .ldc 95, 0, 0, []),
  (39, .invokevirtual 42, 0, 0, []),
  (42, .ifCond .eq 8, 0, 50, []),
  (45, .bipush (-3), (-3), 0, []),
  (47, .goto 21, 0, 68, []),
  (50, .aload_n 0, 0, 0, []),
  (51, .getfield 15, 0, 0, []),
  (54, .ldc 97, 0, 0, []),
  (56, .invokevirtual 42, 0, 0, []),
  (59, .ifCond .eq 8, 0, 67, []),
  (62, .bipush (-4), (-4), 0, []),
  (64, .goto 4, 0, 68, []),
  (67, .iconst 0, 0, 0, []),
  (68, .istore_n 1, 0, 0, []),
  (69, .iload_n 1, 0, 0, []),
  (70, .ifCond .ne 9, 0, 79, []),
  (73, .aload_n 0, 0, 0, []),
  (74, .iconst 3, 3, 0, []),
  (75, .invokevirtual 65, 0, 0, []),
  (78, .ireturn, 0, 0, []),
  (79, .aload_n 0, 0, 0, []),
  (80, .getfield 19, 0, 0, []),
  (83, .getfield 126, 0, 0, []),
  (86, .iload_n 1, 0, 0, []),
  (87, .invokevirtual 151, 0, 0, []),
  (90, .aload_n 0, 0, 0, []),
  (91, .getfield 15, 0, 0, []),
  (94, .invokevirtual 79, 0, 0, []),
  (97, .iconst 1, 1, 0, []),
  (98, .ireturn, 0, 0, [])]
set_option maxRecDepth 20000 in
theorem ckX3_readValue : eX3_readValue.all (a_eok cX3_readValue) = true := b_code [42,180,0,15,18,177,182,0,42,153,0,7,2,167,0,55,42,180,0,15,18,89,182,0,42,153,0,8,16,254,167,0,38,42,180,0,15,18,95,182,0,42,153,0,8,16,253,167,0,21,42,180,0,15,18,97,182,0,42,153,0,8,16,252,167,0,4,3,60,27,154,0,9,42,6,182,0,65,172,42,180,0,19,180,0,126,27,182,0,151,42,180,0,15,182,0,79,4,172] [] (by decide +kernel) (by decide +kernel) (by decide +kernel) (by decide +kernel)
noncomputable def pX3_readValue : aPrg := (eX3_readValue,
  fdX3, [(42, fX5_isWord, 2, 5, 0), (65, fX3_refuse, 2, 3, 0), (151, fX1_add, 2, 1, 1), (79, fX5_next, 1, 5, 1)], [(177, .ref 1015), (89, .ref 1004), (95, .ref 1005), (97, .ref 1006)], [], [], 1, [(68, [1])])
noncomputable def fX3_readValue : aMF := a_fn none shp pX3_readValue 2 1
set_option maxRecDepth 20000 in
theorem lkX3_151 : Cond.methodLink RX3 151 yX1_add ∈ lw_g := a_p1 817 rfl rfl
set_option maxRecDepth 20000 in
theorem kX3_readValue {l : Launch} {G : aG} (hZ : a_Z l G) : a_Con l G shp yX3_readValue (.code yX3_readValue cX3_readValue 2 (some .boolean)) 7 182 fX3_readValue :=
  a_mth none hZ.1 hZ.2.1 shp_len (fun _ h => nomatch h) hZ.2.2.1 (by decide +kernel) rfl (foX3 rfl) (a_cok_of ⟨⟨_, z_15 hZ⟩, ⟨⟨_, z_4 hZ⟩, ⟨⟨_, z_5 hZ⟩, ⟨⟨_, z_6 hZ⟩, trivial⟩⟩⟩⟩) ckX3_readValue rfl rfl (trivial) (⟨a_CQ_v hZ.2.1 (kX5_isWord hZ) lkX3_42 (a_CF_v TX5 7 wkX5_isWord lkX3_42 hdX5_isWord ⟨by decide, by decide⟩ rfl) rfl rfl,
    ⟨a_CQ_v hZ.2.1 (kX3_refuse hZ) lkX3_65 (a_CF_v TX3 4 wkX3_refuse lkX3_65 hdX3_refuse ⟨by decide, by decide⟩ rfl) rfl rfl,
    ⟨a_CQ_v hZ.2.1 (kX1_add hZ) lkX3_151 (a_CF_v TX1 4 wkX1_add lkX3_151 hdX1_add ⟨by decide, by decide⟩ rfl) rfl rfl,
    ⟨a_CQ_v hZ.2.1 (kX5_next hZ) lkX3_79 (a_CF_v TX5 7 wkX5_next lkX3_79 hdX5_next ⟨by decide, by decide⟩ rfl) rfl rfl,
    trivial⟩⟩⟩⟩)
def eX3_readExpr : List (Nat × aEnt) := [(0, .iload_n 1, 0, 0, []),
  (1, .iconst 5, 5, 0, []),
  (2, .if_icmp .le 57, 0, 59, []),
  (5, .aload_n 0, 0, 0, []),
  (6, .getfield 15, 0, 0, []),
  (9, .getfield 37, 0, 0, []),
  (12, .iconst 2, 2, 0, []),
  (13, .if_icmp .eq 26, 0, 39, []),
  (16, .aload_n 0, 0, 0, []),
  (17, .getfield 15, 0, 0, []),
  (20, .getfield 37, 0, 0, []),
  (23, .iconst 1, 1, 0, []),
  (24, .if_icmp .eq 15, 0, 39, []),
  (27, .aload_n 0, 0, 0, []),
  (28, .getfield 15, 0, 0, []),
  (31, .bipush 40, 40, 0, []),
  (33, .invokevirtual 135, 0, 0, []),
  (36, .ifCond .eq 7, 0, 43, []),
  (39, .iconst 1, 1, 0, []),
  (40, .goto 4, 0, 44, []),
  (43, .iconst 0, 0, 0, []),
  (44, .istore_n 2, 0, 0, []),
  (45, .aload_n 0, 0, 0, []),
  (46, .iload_n 2, 0, 0, []),
  (47, .ifCond .eq 7, 0, 54, []),
  (50, .iconst 2, 2, 0, []),
  (51, .goto 4, 0, 55, []),
  (54, .iconst 1, 1, 0, []),
  (55, .invokevirtual 65, 0, 0, []),
  (58, .ireturn, 0, 0, []),
  (59, .aload_n 0, 0, 0, []),
  (60, .iconst 0, 0, 0, []),
  (61, .iload_n 1, 0, 0, []),
  (62, .invokevirtual 138, 0, 0, []),
  (65, .ireturn, 0, 0, [])]
set_option maxRecDepth 20000 in
theorem ckX3_readExpr : eX3_readExpr.all (a_eok cX3_readExpr) = true := b_code [27,8,164,0,57,42,180,0,15,180,0,37,5,159,0,26,42,180,0,15,180,0,37,4,159,0,15,42,180,0,15,16,40,182,0,135,153,0,7,4,167,0,4,3,61,42,28,153,0,7,5,167,0,4,4,182,0,65,172,42,3,27,182,0,138,172] [] (by decide +kernel) (by decide +kernel) (by decide +kernel) (by decide +kernel)
noncomputable def pX3_readExpr (g : Nat → aMF) : aPrg := (eX3_readExpr,
  fdX3, [(135, fX5_isSign, 2, 5, 0), (65, fX3_refuse, 2, 3, 0), (138, (g 1), 3, 3, 0)], [], [], [], 1, [(39, [1, 2]), (44, [1, 2]), (55, [0, 1, 2])])
def eX3_readLevel : List (Nat × aEnt) := [(0, .iload_n 1, 0, 0, []),
  (1, .iconst 2, 2, 0, []),
  (2, .if_icmp .ne 9, 0, 11, []),
  (5, .aload_n 0, 0, 0, []),
  (6, .iload_n 2, 0, 0, []),
  (7, .invokevirtual 141, 0, 0, []),
  (10, .ireturn, 0, 0, []),
  (11, .iload_n 1, 0, 0, []),
  (12, .iconst 5, 5, 0, []),
  (13, .if_icmp .lt 9, 0, 22, []),
  (16, .aload_n 0, 0, 0, []),
  (17, .iload_n 2, 0, 0, []),
  (18, .invokevirtual 144, 0, 0, []),
  (21, .ireturn, 0, 0, []),
  (22, .aload_n 0, 0, 0, []),
  (23, .iload_n 1, 0, 0, []),
  (24, .iconst 1, 1, 0, []),
  (25, .iadd, 0, 0, []),
  (26, .iload_n 2, 0, 0, []),
  (27, .invokevirtual 138, 0, 0, []),
  (30, .istore_n 3, 0, 0, []),
  (31, .iconst 0, 0, 0, []),
  (32, .istore 4, 0, 0, []),
  (34, .iload 4, 0, 0, []),
  (36, .sipush 700, 700, 0, []),
  (39, .if_icmp .ge 56, 0, 95, []),
  (42, .iload_n 3, 0, 0, []),
  (43, .ifCond .eq 52, 0, 95, []),
  (46, .aload_n 0, 0, 0, []),
  (47, .iload_n 1, 0, 0, []),
  (48, .invokevirtual 147, 0, 0, []),
  (51, .istore 5, 0, 0, []),
  (53, .iload 5, 0, 0, []),
  (55, .ifCond .ne 6, 0, 61, []),
  (58, .goto 37, 0, 95, []),
  (61, .aload_n 0, 0, 0, []),
  (62, .getfield 15, 0, 0, []),
  (65, .invokevirtual 79, 0, 0, []),
  (68, .aload_n 0, 0, 0, []),
  (69, .iload_n 1, 0, 0, []),
  (70, .iconst 1, 1, 0, []),
  (71, .iadd, 0, 0, []),
  (72, .iload_n 2, 0, 0, []),
  (73, .invokevirtual 138, 0, 0, []),
  (76, .istore_n 3, 0, 0, []),
  (77, .aload_n 0, 0, 0, []),
  (78, .getfield 19, 0, 0, []),
  (81, .getfield 126, 0, 0, []),
  (84, .iload 5, 0, 0, []),
  (86, .invokevirtual 151, 0, 0, []),
  (89, .iinc 4 1, 1, 0, []),
  (92, .goto (-58), 0, 34, []),
  (95, .iload_n 3, 0, 0, []),
  (96, .ireturn, 0, 0, [])]
set_option maxRecDepth 20000 in
theorem ckX3_readLevel : eX3_readLevel.all (a_eok cX3_readLevel) = true := b_code [27,5,160,0,9,42,28,182,0,141,172,27,8,161,0,9,42,28,182,0,144,172,42,27,4,96,28,182,0,138,62,3,54,4,21,4,17,2,188,162,0,56,29,153,0,52,42,27,182,0,147,54,5,21,5,154,0,6,167,0,37,42,180,0,15,182,0,79,42,27,4,96,28,182,0,138,62,42,180,0,19,180,0,126,21,5,182,0,151,132,4,1,167,255,198,29,172] [] (by decide +kernel) (by decide +kernel) (by decide +kernel) (by decide +kernel)
noncomputable def pX3_readLevel (g : Nat → aMF) : aPrg := (eX3_readLevel,
  fdX3, [(141, (g 2), 2, 3, 0), (144, (g 3), 2, 3, 0), (138, (g 1), 3, 3, 0), (147, fX3_operatorOf, 2, 3, 0), (79, fX5_next, 1, 5, 1), (151, fX1_add, 2, 1, 1)], [], [], [], 1, [(34, [5]), (95, [0, 1, 2, 4, 5])])
def eX3_readTest : List (Nat × aEnt) := [(0, .iconst 0, 0, 0, []),
  (1, .istore_n 2, 0, 0, []),
  (2, .iload_n 2, 0, 0, []),
  (3, .bipush 6, 6, 0, []),
  (5, .if_icmp .ge 28, 0, 33, []),
  (8, .aload_n 0, 0, 0, []),
  (9, .getfield 15, 0, 0, []),
  (12, .ldc 158, 0, 0, []),
  (14, .invokevirtual 42, 0, 0, []),
  (17, .ifCond .eq 16, 0, 33, []),
  (20, .iinc 2 1, 1, 0, []),
  (23, .aload_n 0, 0, 0, []),
  (24, .getfield 15, 0, 0, []),
  (27, .invokevirtual 79, 0, 0, []),
  (30, .goto (-28), 0, 2, []),
  (33, .aload_n 0, 0, 0, []),
  (34, .getfield 15, 0, 0, []),
  (37, .ldc 158, 0, 0, []),
  (39, .invokevirtual 42, 0, 0, []),
  (42, .ifCond .eq 9, 0, 51, []),
  (45, .aload_n 0, 0, 0, []),
  (46, .iconst 2, 2, 0, []),
  (47, .invokevirtual 65, 0, 0, []),
  (50, .ireturn, 0, 0, []),
  (51, .aload_n 0, 0, 0, []),
  (52, .iconst 3, 3, 0, []),
  (53, .iload_n 1, 0, 0, []),
  (54, .invokevirtual 138, 0, 0, []),
  (57, .istore_n 3, 0, 0, []),
  (58, .iload_n 3, 0, 0, []),
  (59, .ifCond .eq 11, 0, 70, []),
  (62, .aload_n 0, 0, 0, []),
  (63, .iconst 2, 2, 0, []),
  (64, .invokevirtual 147, 0, 0, []),
  (67, .goto 4, 0, 71, []),
  (70, .iconst 0, 0, 0, []),
  (71, .istore 4, 0, 0, []),
  (73, .iload 4, 0, 0, []),
  (75, .ifCond .eq 29, 0, 104, []),
  (78, .aload_n 0, 0, 0, []),
  (79, .getfield 15, 0, 0, []),
  (82, .invokevirtual 79, 0, 0, []),
  (85, .aload_n 0, 0, 0, []),
  (86, .iconst 3, 3, 0, []),
  (87, .iload_n 1, 0, 0, []),
  (88, .invokevirtual 138, 0, 0, []),
  (91, .istore_n 3, 0, 0, []),
  (92, .aload_n 0, 0, 0, []),
  (93, .getfield 19, 0, 0, []),
  (96, .getfield 126, 0, 0, []),
  (99, .iload 4, 0, 0, []),
  (101, .invokevirtual 151, 0, 0, []),
  (104, .iconst 0, 0, 0, []),
  (105, .istore 5, 0, 0, []),
  (107, .iload 5, 0, 0, []),
  (109, .iload_n 2, 0, 0, []),
  (110, .if_icmp .ge 21, 0, 131, []),
  (113, .aload_n 0, 0, 0, []),
  (114, .getfield 19, 0, 0, []),
  (117, .getfield 126, 0, 0, []),
  (120, .bipush (-7), (-7), 0, []),
  (122, .invokevirtual 151, 0, 0, []),
  (125, .iinc 5 1, 1, 0, []),
  (128, .goto (-21), 0, 107, []),
  (131, .iload_n 3, 0, 0, []),
  (132, .ireturn, 0, 0, [])]
set_option maxRecDepth 20000 in
theorem ckX3_readTest : eX3_readTest.all (a_eok cX3_readTest) = true := b_code [3,61,28,16,6,162,0,28,42,180,0,15,18,158,182,0,42,153,0,16,132,2,1,42,180,0,15,182,0,79,167,255,228,42,180,0,15,18,158,182,0,42,153,0,9,42,5,182,0,65,172,42,6,27,182,0,138,62,29,153,0,11,42,5,182,0,147,167,0,4,3,54,4,21,4,153,0,29,42,180,0,15,182,0,79,42,6,27,182,0,138,62,42,180,0,19,180,0,126,21,4,182,0,151,3,54,5,21,5,28,162,0,21,42,180,0,19,180,0,126,16,249,182,0,151,132,5,1,167,255,235,29,172] [] (by decide +kernel) (by decide +kernel) (by decide +kernel) (by decide +kernel)
noncomputable def pX3_readTest (g : Nat → aMF) : aPrg := (eX3_readTest,
  fdX3, [(42, fX5_isWord, 2, 5, 0), (79, fX5_next, 1, 5, 1), (65, fX3_refuse, 2, 3, 0), (138, (g 1), 3, 3, 0), (147, fX3_operatorOf, 2, 3, 0), (151, fX1_add, 2, 1, 1)], [(158, .ref 1010)], [], [], 1, [(2, [3, 4, 5]), (33, [3, 4, 5]), (71, [4, 5]), (104, [1, 4, 5]), (107, [1, 4])])
def eX3_readSingle : List (Nat × aEnt) := [(0, .aload_n 0, 0, 0, []),
  (1, .getfield 15, 0, 0, []),
  (4, .bipush 40, 40, 0, []),
  (6, .invokevirtual 135, 0, 0, []),
  (9, .ifCond .eq 35, 0, 44, []),
  (12, .aload_n 0, 0, 0, []),
  (13, .getfield 15, 0, 0, []),
  (16, .invokevirtual 79, 0, 0, []),
  (19, .aload_n 0, 0, 0, []),
  (20, .iload_n 1, 0, 0, []),
  (21, .iconst 1, 1, 0, []),
  (22, .iadd, 0, 0, []),
  (23, .invokevirtual 132, 0, 0, []),
  (26, .ifCond .eq 16, 0, 42, []),
  (29, .aload_n 0, 0, 0, []),
  (30, .bipush 41, 41, 0, []),
  (32, .invokevirtual 69, 0, 0, []),
  (35, .ifCond .eq 7, 0, 42, []),
  (38, .iconst 1, 1, 0, []),
  (39, .goto 4, 0, 43, []),
  (42, .iconst 0, 0, 0, []),
  (43, .ireturn, 0, 0, []),
  (44, .aload_n 0, 0, 0, []),
  (45, .getfield 15, 0, 0, []),
  (48, .ldc 160, 0, 0, []),
  (50, .invokevirtual 42, 0, 0, []),
  (53, .ifCond .eq 9, 0, 62, []),
  (56, .aload_n 0, 0, 0, []),
  (57, .iload_n 1, 0, 0, []),
  (58, .invokevirtual 162, 0, 0, []),
  (61, .ireturn, 0, 0, []),
  (62, .aload_n 0, 0, 0, []),
  (63, .getfield 15, 0, 0, []),
  (66, .getfield 37, 0, 0, []),
  (69, .iconst 1, 1, 0, []),
  (70, .if_icmp .ne 8, 0, 78, []),
  (73, .aload_n 0, 0, 0, []),
  (74, .invokevirtual 165, 0, 0, []),
  (77, .ireturn, 0, 0, []),
  (78, .aload_n 0, 0, 0, []),
  (79, .invokevirtual 102, 0, 0, []),
  (82, .ifCond .ne 5, 0, 87, []),
  (85, .iconst 0, 0, 0, []),
  (86, .ireturn, 0, 0, []),
  (87, .aload_n 0, 0, 0, []),
  (88, .getfield 19, 0, 0, []),
  (91, .getfield 126, 0, 0, []),
  (94, .aload_n 0, 0, 0, []),
  (95, .getfield 15, 0, 0, []),
  (98, .getfield 105, 0, 0, []),
  (101, .invokevirtual 151, 0, 0, []),
  (104, .aload_n 0, 0, 0, []),
  (105, .getfield 15, 0, 0, []),
  (108, .invokevirtual 79, 0, 0, []),
  (111, .iconst 1, 1, 0, []),
  (112, .ireturn, 0, 0, [])]
set_option maxRecDepth 20000 in
theorem ckX3_readSingle : eX3_readSingle.all (a_eok cX3_readSingle) = true := b_code [42,180,0,15,16,40,182,0,135,153,0,35,42,180,0,15,182,0,79,42,27,4,96,182,0,132,153,0,16,42,16,41,182,0,69,153,0,7,4,167,0,4,3,172,42,180,0,15,18,160,182,0,42,153,0,9,42,27,182,0,162,172,42,180,0,15,180,0,37,4,160,0,8,42,182,0,165,172,42,182,0,102,154,0,5,3,172,42,180,0,19,180,0,126,42,180,0,15,180,0,105,182,0,151,42,180,0,15,182,0,79,4,172] [] (by decide +kernel) (by decide +kernel) (by decide +kernel) (by decide +kernel)
noncomputable def pX3_readSingle (g : Nat → aMF) : aPrg := (eX3_readSingle,
  fdX3, [(135, fX5_isSign, 2, 5, 0), (79, fX5_next, 1, 5, 1), (132, (g 0), 2, 3, 0), (69, fX3_needSign, 2, 3, 0), (42, fX5_isWord, 2, 5, 0), (162, (g 4), 2, 3, 0), (165, fX3_readValue, 1, 3, 0), (102, fX3_needNumber, 1, 3, 0), (151, fX1_add, 2, 1, 1)], [(160, .ref 1011)], [], [], 1, [(42, [0, 1]), (43, [0, 1])])
def eX3_readIf : List (Nat × aEnt) := [(0, .aload_n 0, 0, 0, []),
  (1, .getfield 15, 0, 0, []),
  (4, .invokevirtual 79, 0, 0, []),
  (7, .aload_n 0, 0, 0, []),
  (8, .iload_n 1, 0, 0, []),
  (9, .iconst 1, 1, 0, []),
  (10, .iadd, 0, 0, []),
  (11, .invokevirtual 132, 0, 0, []),
  (14, .ifCond .eq 54, 0, 68, []),
  (17, .aload_n 0, 0, 0, []),
  (18, .ldc 168, 0, 0, []),
  (20, .invokevirtual 170, 0, 0, []),
  (23, .ifCond .eq 45, 0, 68, []),
  (26, .aload_n 0, 0, 0, []),
  (27, .iload_n 1, 0, 0, []),
  (28, .iconst 1, 1, 0, []),
  (29, .iadd, 0, 0, []),
  (30, .invokevirtual 132, 0, 0, []),
  (33, .ifCond .eq 35, 0, 68, []),
  (36, .aload_n 0, 0, 0, []),
  (37, .ldc 173, 0, 0, []),
  (39, .invokevirtual 170, 0, 0, []),
  (42, .ifCond .eq 26, 0, 68, []),
  (45, .aload_n 0, 0, 0, []),
  (46, .iload_n 1, 0, 0, []),
  (47, .iconst 1, 1, 0, []),
  (48, .iadd, 0, 0, []),
  (49, .invokevirtual 132, 0, 0, []),
  (52, .ifCond .eq 16, 0, 68, []),
  (55, .aload_n 0, 0, 0, []),
  (56, .ldc 175, 0, 0, []),
  (58, .invokevirtual 170, 0, 0, []),
  (61, .ifCond .eq 7, 0, 68, []),
  (64, .iconst 1, 1, 0, []),
  (65, .goto 4, 0, 69, []),
  (68, .iconst 0, 0, 0, []),
  (69, .istore_n 2, 0, 0, []),
  (70, .aload_n 0, 0, 0, []),
  (71, .getfield 19, 0, 0, []),
  (74, .getfield 126, 0, 0, []),
  (77, .bipush (-14), (-14), 0, []),
  (79, .invokevirtual 151, 0, 0, []),
  (82, .iload_n 2, 0, 0, []),
  (83, .ireturn, 0, 0, [])]
set_option maxRecDepth 20000 in
theorem ckX3_readIf : eX3_readIf.all (a_eok cX3_readIf) = true := b_code [42,180,0,15,182,0,79,42,27,4,96,182,0,132,153,0,54,42,18,168,182,0,170,153,0,45,42,27,4,96,182,0,132,153,0,35,42,18,173,182,0,170,153,0,26,42,27,4,96,182,0,132,153,0,16,42,18,175,182,0,170,153,0,7,4,167,0,4,3,61,42,180,0,19,180,0,126,16,242,182,0,151,28,172] [] (by decide +kernel) (by decide +kernel) (by decide +kernel) (by decide +kernel)
noncomputable def pX3_readIf (g : Nat → aMF) : aPrg := (eX3_readIf,
  fdX3, [(79, fX5_next, 1, 5, 1), (132, (g 0), 2, 3, 0), (170, fX3_needWord, 2, 3, 0), (151, fX1_add, 2, 1, 1)], [(168, .ref 1012), (173, .ref 1013), (175, .ref 1014)], [], [], 1, [(68, [1, 2]), (69, [1, 2])])
noncomputable def fRD : Nat → Nat → aMF
  | 0 => fun _ _ _ => none
  | d + 1 => fun i => match i with
    | 0 => a_fn none shp (pX3_readExpr (fRD d)) 3 2
    | 1 => a_fn none shp (pX3_readLevel (fRD d)) 6 3
    | 2 => a_fn none shp (pX3_readTest (fRD d)) 6 2
    | 3 => a_fn none shp (pX3_readSingle (fRD d)) 2 2
    | _ => a_fn none shp (pX3_readIf (fRD d)) 3 2
set_option maxRecDepth 20000 in
theorem wkX3_readLevel : ∀ w ∈ [Cond.code yX3_readLevel cX3_readLevel 6 (some .boolean), .initialized yX3_readLevel.cls, .instanceMethod yX3_readLevel, .selects yX3_readLevel.cls yX3_readLevel yX3_readLevel], w ∈ lw_g := a_ps [805, 100, 804, 26] rfl rfl
theorem hdX3_readLevel : yX3_readLevel.cls ≠ "java/lang/invoke/MethodHandle" ∧ yX3_readLevel.cls ≠ "java/lang/invoke/VarHandle" ∧ (parseMethodDescriptor yX3_readLevel.desc).map (fun d => d.parameters.length) = some 2 := by decide +kernel
set_option maxRecDepth 20000 in
theorem lkX3_138 : Cond.methodLink RX3 138 yX3_readLevel ∈ lw_g := a_p1 802 rfl rfl
set_option maxRecDepth 20000 in
theorem wkX3_readTest : ∀ w ∈ [Cond.code yX3_readTest cX3_readTest 6 (some .boolean), .initialized yX3_readTest.cls, .instanceMethod yX3_readTest, .selects yX3_readTest.cls yX3_readTest yX3_readTest], w ∈ lw_g := a_ps [809, 100, 808, 27] rfl rfl
theorem hdX3_readTest : yX3_readTest.cls ≠ "java/lang/invoke/MethodHandle" ∧ yX3_readTest.cls ≠ "java/lang/invoke/VarHandle" ∧ (parseMethodDescriptor yX3_readTest.desc).map (fun d => d.parameters.length) = some 1 := by decide +kernel
set_option maxRecDepth 20000 in
theorem lkX3_141 : Cond.methodLink RX3 141 yX3_readTest ∈ lw_g := a_p1 806 rfl rfl
set_option maxRecDepth 20000 in
theorem wkX3_readSingle : ∀ w ∈ [Cond.code yX3_readSingle cX3_readSingle 2 (some .boolean), .initialized yX3_readSingle.cls, .instanceMethod yX3_readSingle, .selects yX3_readSingle.cls yX3_readSingle yX3_readSingle], w ∈ lw_g := a_ps [821, 100, 820, 29] rfl rfl
theorem hdX3_readSingle : yX3_readSingle.cls ≠ "java/lang/invoke/MethodHandle" ∧ yX3_readSingle.cls ≠ "java/lang/invoke/VarHandle" ∧ (parseMethodDescriptor yX3_readSingle.desc).map (fun d => d.parameters.length) = some 1 := by decide +kernel
set_option maxRecDepth 20000 in
theorem lkX3_144 : Cond.methodLink RX3 144 yX3_readSingle ∈ lw_g := a_p1 818 rfl rfl
set_option maxRecDepth 20000 in
theorem wkX3_operatorOf : ∀ w ∈ [Cond.code yX3_operatorOf cX3_operatorOf 2 (some .int), .initialized yX3_operatorOf.cls, .instanceMethod yX3_operatorOf, .selects yX3_operatorOf.cls yX3_operatorOf yX3_operatorOf], w ∈ lw_g := a_ps [814, 100, 813, 28] rfl rfl
theorem hdX3_operatorOf : yX3_operatorOf.cls ≠ "java/lang/invoke/MethodHandle" ∧ yX3_operatorOf.cls ≠ "java/lang/invoke/VarHandle" ∧ (parseMethodDescriptor yX3_operatorOf.desc).map (fun d => d.parameters.length) = some 1 := by decide +kernel
set_option maxRecDepth 20000 in
theorem lkX3_147 : Cond.methodLink RX3 147 yX3_operatorOf ∈ lw_g := a_p1 811 rfl rfl
set_option maxRecDepth 20000 in
theorem wkX3_readExpr : ∀ w ∈ [Cond.code yX3_readExpr cX3_readExpr 3 (some .boolean), .initialized yX3_readExpr.cls, .instanceMethod yX3_readExpr, .selects yX3_readExpr.cls yX3_readExpr yX3_readExpr], w ∈ lw_g := a_ps [797, 100, 796, 25] rfl rfl
theorem hdX3_readExpr : yX3_readExpr.cls ≠ "java/lang/invoke/MethodHandle" ∧ yX3_readExpr.cls ≠ "java/lang/invoke/VarHandle" ∧ (parseMethodDescriptor yX3_readExpr.desc).map (fun d => d.parameters.length) = some 1 := by decide +kernel
set_option maxRecDepth 20000 in
theorem lkX3_132 : Cond.methodLink RX3 132 yX3_readExpr ∈ lw_g := a_p1 794 rfl rfl
set_option maxRecDepth 20000 in
theorem wkX3_needSign : ∀ w ∈ [Cond.code yX3_needSign cX3_needSign 2 (some .boolean), .initialized yX3_needSign.cls, .instanceMethod yX3_needSign, .selects yX3_needSign.cls yX3_needSign yX3_needSign], w ∈ lw_g := a_ps [825, 100, 824, 30] rfl rfl
theorem hdX3_needSign : yX3_needSign.cls ≠ "java/lang/invoke/MethodHandle" ∧ yX3_needSign.cls ≠ "java/lang/invoke/VarHandle" ∧ (parseMethodDescriptor yX3_needSign.desc).map (fun d => d.parameters.length) = some 1 := by decide +kernel
set_option maxRecDepth 20000 in
theorem lkX3_69 : Cond.methodLink RX3 69 yX3_needSign ∈ lw_g := a_p1 822 rfl rfl
set_option maxRecDepth 20000 in
theorem wkX3_readIf : ∀ w ∈ [Cond.code yX3_readIf cX3_readIf 3 (some .boolean), .initialized yX3_readIf.cls, .instanceMethod yX3_readIf, .selects yX3_readIf.cls yX3_readIf yX3_readIf], w ∈ lw_g := a_ps [830, 100, 829, 31] rfl rfl
theorem hdX3_readIf : yX3_readIf.cls ≠ "java/lang/invoke/MethodHandle" ∧ yX3_readIf.cls ≠ "java/lang/invoke/VarHandle" ∧ (parseMethodDescriptor yX3_readIf.desc).map (fun d => d.parameters.length) = some 1 := by decide +kernel
set_option maxRecDepth 20000 in
theorem lkX3_162 : Cond.methodLink RX3 162 yX3_readIf ∈ lw_g := a_p1 827 rfl rfl
set_option maxRecDepth 20000 in
theorem wkX3_readValue : ∀ w ∈ [Cond.code yX3_readValue cX3_readValue 2 (some .boolean), .initialized yX3_readValue.cls, .instanceMethod yX3_readValue, .selects yX3_readValue.cls yX3_readValue yX3_readValue], w ∈ lw_g := a_ps [841, 100, 840, 33] rfl rfl
theorem hdX3_readValue : yX3_readValue.cls ≠ "java/lang/invoke/MethodHandle" ∧ yX3_readValue.cls ≠ "java/lang/invoke/VarHandle" ∧ (parseMethodDescriptor yX3_readValue.desc).map (fun d => d.parameters.length) = some 0 := by decide +kernel
set_option maxRecDepth 20000 in
theorem lkX3_165 : Cond.methodLink RX3 165 yX3_readValue ∈ lw_g := a_p1 838 rfl rfl
set_option maxRecDepth 20000 in
theorem wkX3_needWord : ∀ w ∈ [Cond.code yX3_needWord cX3_needWord 2 (some .boolean), .initialized yX3_needWord.cls, .instanceMethod yX3_needWord, .selects yX3_needWord.cls yX3_needWord yX3_needWord], w ∈ lw_g := a_ps [835, 100, 834, 32] rfl rfl
theorem hdX3_needWord : yX3_needWord.cls ≠ "java/lang/invoke/MethodHandle" ∧ yX3_needWord.cls ≠ "java/lang/invoke/VarHandle" ∧ (parseMethodDescriptor yX3_needWord.desc).map (fun d => d.parameters.length) = some 1 := by decide +kernel
set_option maxRecDepth 20000 in
theorem lkX3_170 : Cond.methodLink RX3 170 yX3_needWord ∈ lw_g := a_p1 832 rfl rfl
set_option maxRecDepth 20000 in
theorem kfRD {l : Launch} {G : aG} (hZ : a_Z l G) : ∀ d : Nat, a_Con l G shp yX3_readExpr (.code yX3_readExpr cX3_readExpr 3 (some .boolean)) (8 + d) (203 + 40 * d) (fRD d 0) ∧
    a_Con l G shp yX3_readLevel (.code yX3_readLevel cX3_readLevel 6 (some .boolean)) (8 + d) (203 + 40 * d) (fRD d 1) ∧
    a_Con l G shp yX3_readTest (.code yX3_readTest cX3_readTest 6 (some .boolean)) (8 + d) (203 + 40 * d) (fRD d 2) ∧
    a_Con l G shp yX3_readSingle (.code yX3_readSingle cX3_readSingle 2 (some .boolean)) (8 + d) (203 + 40 * d) (fRD d 3) ∧
    a_Con l G shp yX3_readIf (.code yX3_readIf cX3_readIf 3 (some .boolean)) (8 + d) (203 + 40 * d) (fRD d 4)
  | 0 => ⟨(fun _ _ _ _ h => nomatch h), (fun _ _ _ _ h => nomatch h), (fun _ _ _ _ h => nomatch h), (fun _ _ _ _ h => nomatch h), (fun _ _ _ _ h => nomatch h)⟩
  | d + 1 => by
    have ih := kfRD hZ d
    refine ⟨?_, ?_, ?_, ?_, ?_⟩
    · exact a_mth none hZ.1 hZ.2.1 shp_len (fun _ h => nomatch h) hZ.2.2.1 (by decide +kernel) rfl (foX3 rfl) (a_cok_of trivial) ckX3_readExpr rfl rfl (trivial) (⟨a_CQ_v hZ.2.1 (kX5_isSign hZ) lkX3_135 (a_CF_v TX5 7 wkX5_isSign lkX3_135 hdX5_isSign ⟨by decide, by decide⟩ rfl) (Nat.ble_eq_true_of_le (by omega)) (Nat.ble_eq_true_of_le (by omega)),
    ⟨a_CQ_v hZ.2.1 (kX3_refuse hZ) lkX3_65 (a_CF_v TX3 4 wkX3_refuse lkX3_65 hdX3_refuse ⟨by decide, by decide⟩ rfl) (Nat.ble_eq_true_of_le (by omega)) (Nat.ble_eq_true_of_le (by omega)),
    ⟨a_CQ_v hZ.2.1 (ih.2.1) lkX3_138 (a_CF_v TX3 4 wkX3_readLevel lkX3_138 hdX3_readLevel ⟨by decide, by decide⟩ rfl) (Nat.ble_eq_true_of_le (by omega)) (Nat.ble_eq_true_of_le (by omega)),
    trivial⟩⟩⟩)
    · exact a_mth none hZ.1 hZ.2.1 shp_len (fun _ h => nomatch h) hZ.2.2.1 (by decide +kernel) rfl (foX3 rfl) (a_cok_of trivial) ckX3_readLevel rfl rfl (trivial) (⟨a_CQ_v hZ.2.1 (ih.2.2.1) lkX3_141 (a_CF_v TX3 4 wkX3_readTest lkX3_141 hdX3_readTest ⟨by decide, by decide⟩ rfl) (Nat.ble_eq_true_of_le (by omega)) (Nat.ble_eq_true_of_le (by omega)),
    ⟨a_CQ_v hZ.2.1 (ih.2.2.2.1) lkX3_144 (a_CF_v TX3 4 wkX3_readSingle lkX3_144 hdX3_readSingle ⟨by decide, by decide⟩ rfl) (Nat.ble_eq_true_of_le (by omega)) (Nat.ble_eq_true_of_le (by omega)),
    ⟨a_CQ_v hZ.2.1 (ih.2.1) lkX3_138 (a_CF_v TX3 4 wkX3_readLevel lkX3_138 hdX3_readLevel ⟨by decide, by decide⟩ rfl) (Nat.ble_eq_true_of_le (by omega)) (Nat.ble_eq_true_of_le (by omega)),
    ⟨a_CQ_v hZ.2.1 (kX3_operatorOf hZ) lkX3_147 (a_CF_v TX3 4 wkX3_operatorOf lkX3_147 hdX3_operatorOf ⟨by decide, by decide⟩ rfl) (Nat.ble_eq_true_of_le (by omega)) (Nat.ble_eq_true_of_le (by omega)),
    ⟨a_CQ_v hZ.2.1 (kX5_next hZ) lkX3_79 (a_CF_v TX5 7 wkX5_next lkX3_79 hdX5_next ⟨by decide, by decide⟩ rfl) (Nat.ble_eq_true_of_le (by omega)) (Nat.ble_eq_true_of_le (by omega)),
    ⟨a_CQ_v hZ.2.1 (kX1_add hZ) lkX3_151 (a_CF_v TX1 4 wkX1_add lkX3_151 hdX1_add ⟨by decide, by decide⟩ rfl) (Nat.ble_eq_true_of_le (by omega)) (Nat.ble_eq_true_of_le (by omega)),
    trivial⟩⟩⟩⟩⟩⟩)
    · exact a_mth none hZ.1 hZ.2.1 shp_len (fun _ h => nomatch h) hZ.2.2.1 (by decide +kernel) rfl (foX3 rfl) (a_cok_of ⟨⟨_, z_10 hZ⟩, trivial⟩) ckX3_readTest rfl rfl (trivial) (⟨a_CQ_v hZ.2.1 (kX5_isWord hZ) lkX3_42 (a_CF_v TX5 7 wkX5_isWord lkX3_42 hdX5_isWord ⟨by decide, by decide⟩ rfl) (Nat.ble_eq_true_of_le (by omega)) (Nat.ble_eq_true_of_le (by omega)),
    ⟨a_CQ_v hZ.2.1 (kX5_next hZ) lkX3_79 (a_CF_v TX5 7 wkX5_next lkX3_79 hdX5_next ⟨by decide, by decide⟩ rfl) (Nat.ble_eq_true_of_le (by omega)) (Nat.ble_eq_true_of_le (by omega)),
    ⟨a_CQ_v hZ.2.1 (kX3_refuse hZ) lkX3_65 (a_CF_v TX3 4 wkX3_refuse lkX3_65 hdX3_refuse ⟨by decide, by decide⟩ rfl) (Nat.ble_eq_true_of_le (by omega)) (Nat.ble_eq_true_of_le (by omega)),
    ⟨a_CQ_v hZ.2.1 (ih.2.1) lkX3_138 (a_CF_v TX3 4 wkX3_readLevel lkX3_138 hdX3_readLevel ⟨by decide, by decide⟩ rfl) (Nat.ble_eq_true_of_le (by omega)) (Nat.ble_eq_true_of_le (by omega)),
    ⟨a_CQ_v hZ.2.1 (kX3_operatorOf hZ) lkX3_147 (a_CF_v TX3 4 wkX3_operatorOf lkX3_147 hdX3_operatorOf ⟨by decide, by decide⟩ rfl) (Nat.ble_eq_true_of_le (by omega)) (Nat.ble_eq_true_of_le (by omega)),
    ⟨a_CQ_v hZ.2.1 (kX1_add hZ) lkX3_151 (a_CF_v TX1 4 wkX1_add lkX3_151 hdX1_add ⟨by decide, by decide⟩ rfl) (Nat.ble_eq_true_of_le (by omega)) (Nat.ble_eq_true_of_le (by omega)),
    trivial⟩⟩⟩⟩⟩⟩)
    · exact a_mth none hZ.1 hZ.2.1 shp_len (fun _ h => nomatch h) hZ.2.2.1 (by decide +kernel) rfl (foX3 rfl) (a_cok_of ⟨⟨_, z_11 hZ⟩, trivial⟩) ckX3_readSingle rfl rfl (trivial) (⟨a_CQ_v hZ.2.1 (kX5_isSign hZ) lkX3_135 (a_CF_v TX5 7 wkX5_isSign lkX3_135 hdX5_isSign ⟨by decide, by decide⟩ rfl) (Nat.ble_eq_true_of_le (by omega)) (Nat.ble_eq_true_of_le (by omega)),
    ⟨a_CQ_v hZ.2.1 (kX5_next hZ) lkX3_79 (a_CF_v TX5 7 wkX5_next lkX3_79 hdX5_next ⟨by decide, by decide⟩ rfl) (Nat.ble_eq_true_of_le (by omega)) (Nat.ble_eq_true_of_le (by omega)),
    ⟨a_CQ_v hZ.2.1 (ih.1) lkX3_132 (a_CF_v TX3 4 wkX3_readExpr lkX3_132 hdX3_readExpr ⟨by decide, by decide⟩ rfl) (Nat.ble_eq_true_of_le (by omega)) (Nat.ble_eq_true_of_le (by omega)),
    ⟨a_CQ_v hZ.2.1 (kX3_needSign hZ) lkX3_69 (a_CF_v TX3 4 wkX3_needSign lkX3_69 hdX3_needSign ⟨by decide, by decide⟩ rfl) (Nat.ble_eq_true_of_le (by omega)) (Nat.ble_eq_true_of_le (by omega)),
    ⟨a_CQ_v hZ.2.1 (kX5_isWord hZ) lkX3_42 (a_CF_v TX5 7 wkX5_isWord lkX3_42 hdX5_isWord ⟨by decide, by decide⟩ rfl) (Nat.ble_eq_true_of_le (by omega)) (Nat.ble_eq_true_of_le (by omega)),
    ⟨a_CQ_v hZ.2.1 (ih.2.2.2.2) lkX3_162 (a_CF_v TX3 4 wkX3_readIf lkX3_162 hdX3_readIf ⟨by decide, by decide⟩ rfl) (Nat.ble_eq_true_of_le (by omega)) (Nat.ble_eq_true_of_le (by omega)),
    ⟨a_CQ_v hZ.2.1 (kX3_readValue hZ) lkX3_165 (a_CF_v TX3 4 wkX3_readValue lkX3_165 hdX3_readValue ⟨by decide, by decide⟩ rfl) (Nat.ble_eq_true_of_le (by omega)) (Nat.ble_eq_true_of_le (by omega)),
    ⟨a_CQ_v hZ.2.1 (kX3_needNumber hZ) lkX3_102 (a_CF_v TX3 4 wkX3_needNumber lkX3_102 hdX3_needNumber ⟨by decide, by decide⟩ rfl) (Nat.ble_eq_true_of_le (by omega)) (Nat.ble_eq_true_of_le (by omega)),
    ⟨a_CQ_v hZ.2.1 (kX1_add hZ) lkX3_151 (a_CF_v TX1 4 wkX1_add lkX3_151 hdX1_add ⟨by decide, by decide⟩ rfl) (Nat.ble_eq_true_of_le (by omega)) (Nat.ble_eq_true_of_le (by omega)),
    trivial⟩⟩⟩⟩⟩⟩⟩⟩⟩)
    · exact a_mth none hZ.1 hZ.2.1 shp_len (fun _ h => nomatch h) hZ.2.2.1 (by decide +kernel) rfl (foX3 rfl) (a_cok_of ⟨⟨_, z_12 hZ⟩, ⟨⟨_, z_13 hZ⟩, ⟨⟨_, z_14 hZ⟩, trivial⟩⟩⟩) ckX3_readIf rfl rfl (trivial) (⟨a_CQ_v hZ.2.1 (kX5_next hZ) lkX3_79 (a_CF_v TX5 7 wkX5_next lkX3_79 hdX5_next ⟨by decide, by decide⟩ rfl) (Nat.ble_eq_true_of_le (by omega)) (Nat.ble_eq_true_of_le (by omega)),
    ⟨a_CQ_v hZ.2.1 (ih.1) lkX3_132 (a_CF_v TX3 4 wkX3_readExpr lkX3_132 hdX3_readExpr ⟨by decide, by decide⟩ rfl) (Nat.ble_eq_true_of_le (by omega)) (Nat.ble_eq_true_of_le (by omega)),
    ⟨a_CQ_v hZ.2.1 (kX3_needWord hZ) lkX3_170 (a_CF_v TX3 4 wkX3_needWord lkX3_170 hdX3_needWord ⟨by decide, by decide⟩ rfl) (Nat.ble_eq_true_of_le (by omega)) (Nat.ble_eq_true_of_le (by omega)),
    ⟨a_CQ_v hZ.2.1 (kX1_add hZ) lkX3_151 (a_CF_v TX1 4 wkX1_add lkX3_151 hdX1_add ⟨by decide, by decide⟩ rfl) (Nat.ble_eq_true_of_le (by omega)) (Nat.ble_eq_true_of_le (by omega)),
    trivial⟩⟩⟩⟩)
noncomputable abbrev fX3_readExpr : aMF := fRD 70 0
theorem kX3_readExpr {l : Launch} {G : aG} (hZ : a_Z l G) : a_Con l G shp yX3_readExpr (.code yX3_readExpr cX3_readExpr 3 (some .boolean)) 78 3003 fX3_readExpr := (kfRD hZ 70).1
noncomputable abbrev fX3_readLevel : aMF := fRD 70 1
theorem kX3_readLevel {l : Launch} {G : aG} (hZ : a_Z l G) : a_Con l G shp yX3_readLevel (.code yX3_readLevel cX3_readLevel 6 (some .boolean)) 78 3003 fX3_readLevel := (kfRD hZ 70).2.1
noncomputable abbrev fX3_readTest : aMF := fRD 70 2
theorem kX3_readTest {l : Launch} {G : aG} (hZ : a_Z l G) : a_Con l G shp yX3_readTest (.code yX3_readTest cX3_readTest 6 (some .boolean)) 78 3003 fX3_readTest := (kfRD hZ 70).2.2.1
noncomputable abbrev fX3_readSingle : aMF := fRD 70 3
theorem kX3_readSingle {l : Launch} {G : aG} (hZ : a_Z l G) : a_Con l G shp yX3_readSingle (.code yX3_readSingle cX3_readSingle 2 (some .boolean)) 78 3003 fX3_readSingle := (kfRD hZ 70).2.2.2.1
noncomputable abbrev fX3_readIf : aMF := fRD 70 4
theorem kX3_readIf {l : Launch} {G : aG} (hZ : a_Z l G) : a_Con l G shp yX3_readIf (.code yX3_readIf cX3_readIf 3 (some .boolean)) 78 3003 fX3_readIf := (kfRD hZ 70).2.2.2.2
