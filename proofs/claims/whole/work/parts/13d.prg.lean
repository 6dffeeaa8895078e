/-! ===== programs and contracts, written by wip/whole/gen.py ===== -/
def eX8_library : List (Nat × aEnt) := [(0, .iload_n 1, 0, 0, []),
  (1, .ifCond .lt 14, 0, 15, []),
  (4, .iload_n 1, 0, 0, []),
  (5, .aload_n 0, 0, 0, []),
  (6, .getfield 12, 0, 0, []),
  (9, .getfield 78, 0, 0, []),
  (12, .if_icmp .le 13, 0, 25, []),
  (15, .new 85, 0, 0, []),
  (25, .aload_n 0, 0, 0, []),
  (26, .getfield 31, 0, 0, []),
  (29, .iload_n 1, 0, 0, []),
  (30, .invokevirtual 92, 0, 0, []),
  (33, .istore_n 2, 0, 0, []),
  (34, .aload_n 0, 0, 0, []),
  (35, .getfield 12, 0, 0, []),
  (38, .iconst 0, 0, 0, []),
  (39, .putfield 78, 0, 0, []),
  (42, .aload_n 0, 0, 0, []),
  (43, .aload_n 0, 0, 0, []),
  (44, .getfield 31, 0, 0, []),
  (47, .getfield 96, 0, 0, []),
  (50, .putfield 74, 0, 0, []),
  (53, .iload_n 2, 0, 0, []),
  (54, .ifCond .eq 15, 0, 69, []),
  (57, .aload_n 0, 0, 0, []),
  (58, .dup, 0, 0, []),
  (59, .getfield 99, 0, 0, []),
  (62, .iconst 1, 1, 0, []),
  (63, .iadd, 0, 0, []),
  (64, .putfield 99, 0, 0, []),
  (67, .iload_n 2, 0, 0, []),
  (68, .ireturn, 0, 0, []),
  (69, .aload_n 0, 0, 0, []),
  (70, .getfield 23, 0, 0, []),
  (73, .aload_n 0, 0, 0, []),
  (74, .getfield 19, 0, 0, []),
  (77, .invokevirtual 102, 0, 0, []),
  (80, .aload_n 0, 0, 0, []),
  (81, .getfield 23, 0, 0, []),
  (84, .invokevirtual 105, 0, 0, []),
  (87, .aload_n 0, 0, 0, []),
  (88, .getfield 38, 0, 0, []),
  (91, .aload_n 0, 0, 0, []),
  (92, .getfield 23, 0, 0, []),
  (95, .getfield 108, 0, 0, []),
  (98, .invokevirtual 111, 0, 0, []),
  (101, .aload_n 0, 0, 0, []),
  (102, .getfield 50, 0, 0, []),
  (105, .iconst (-1), (-1), 0, []),
  (106, .putfield 115, 0, 0, []),
  (109, .aload_n 0, 0, 0, []),
  (110, .iconst 0, 0, 0, []),
  (111, .putfield 118, 0, 0, []),
  (114, .iconst 0, 0, 0, []),
  (115, .ireturn, 0, 0, [])]
set_option maxRecDepth 20000 in
theorem ckX8_library : eX8_library.all (a_eok cX8_library) = true := b_code [27,155,0,14,27,42,180,0,12,180,0,78,164,0,13,187,0,85,89,18,87,183,0,89,191,42,180,0,31,27,182,0,92,61,42,180,0,12,3,181,0,78,42,42,180,0,31,180,0,96,181,0,74,28,153,0,15,42,89,180,0,99,4,96,181,0,99,28,172,42,180,0,23,42,180,0,19,182,0,102,42,180,0,23,182,0,105,42,180,0,38,42,180,0,23,180,0,108,182,0,111,42,180,0,50,2,181,0,115,42,3,181,0,118,3,172] [] (by decide +kernel) (by decide +kernel) (by decide +kernel) (by decide +kernel)
noncomputable def pX8_library : aPrg := (eX8_library,
  fdX8, [(92, fX3_readAll, 2, 3, 0), (102, fX6_take, 2, 6, 1), (105, fX6_reckon, 1, 6, 1), (111, fX4_begin, 2, 4, 1)], [], [], [(15, 1)], 0, [(15, [0, 1, 2])])
noncomputable def fX8_library : aMF := a_fn none shp pX8_library 3 2
theorem tkX8_library_15 {l : Launch} {G : aG} (hZ : a_Z l G) : a_tok G RX8 cX8_library 81 3068 15 1 :=
  a_tok_s (own := RX8) (cc := cX8_library) (ik := 85) (is := 87) (ic := 89) (ix := 7) (rx := prog_16_method_2_code) (sa := g_ad G 1016) (text := "the tape has not so many bytes") rxX1 (by decide) ⟨by decide +kernel, by decide +kernel⟩ ⟨by decide +kernel, by decide +kernel, by decide +kernel⟩ clX1 inX1 (z_16 hZ) atX1 rfl rfl
set_option maxRecDepth 20000 in
theorem wkX3_readAll : ∀ w ∈ [Cond.code yX3_readAll cX3_readAll 4 (some .int), .initialized yX3_readAll.cls, .instanceMethod yX3_readAll, .selects yX3_readAll.cls yX3_readAll yX3_readAll], w ∈ lw_g := a_ps [654, 100, 652, 653] rfl rfl
theorem hdX3_readAll : yX3_readAll.cls ≠ "java/lang/invoke/MethodHandle" ∧ yX3_readAll.cls ≠ "java/lang/invoke/VarHandle" ∧ (parseMethodDescriptor yX3_readAll.desc).map (fun d => d.parameters.length) = some 1 := by decide +kernel
set_option maxRecDepth 20000 in
theorem lkX8_92 : Cond.methodLink RX8 92 yX3_readAll ∈ lw_g := a_p1 651 rfl rfl
set_option maxRecDepth 20000 in
theorem wkX6_take : ∀ w ∈ [Cond.code yX6_take cX6_take 2 none, .initialized yX6_take.cls, .instanceMethod yX6_take, .selects yX6_take.cls yX6_take yX6_take], w ∈ lw_g := a_ps [846, 98, 844, 845] rfl rfl
theorem hdX6_take : yX6_take.cls ≠ "java/lang/invoke/MethodHandle" ∧ yX6_take.cls ≠ "java/lang/invoke/VarHandle" ∧ (parseMethodDescriptor yX6_take.desc).map (fun d => d.parameters.length) = some 1 := by decide +kernel
set_option maxRecDepth 20000 in
theorem lkX8_102 : Cond.methodLink RX8 102 yX6_take ∈ lw_g := a_p1 843 rfl rfl
set_option maxRecDepth 20000 in
theorem wkX6_reckon : ∀ w ∈ [Cond.code yX6_reckon cX6_reckon 2 none, .initialized yX6_reckon.cls, .instanceMethod yX6_reckon, .selects yX6_reckon.cls yX6_reckon yX6_reckon], w ∈ lw_g := a_ps [856, 98, 854, 855] rfl rfl
theorem hdX6_reckon : yX6_reckon.cls ≠ "java/lang/invoke/MethodHandle" ∧ yX6_reckon.cls ≠ "java/lang/invoke/VarHandle" ∧ (parseMethodDescriptor yX6_reckon.desc).map (fun d => d.parameters.length) = some 0 := by decide +kernel
set_option maxRecDepth 20000 in
theorem lkX8_105 : Cond.methodLink RX8 105 yX6_reckon ∈ lw_g := a_p1 853 rfl rfl
set_option maxRecDepth 20000 in
theorem wkX4_begin : ∀ w ∈ [Cond.code yX4_begin cX4_begin 2 none, .initialized yX4_begin.cls, .instanceMethod yX4_begin, .selects yX4_begin.cls yX4_begin yX4_begin], w ∈ lw_g := a_ps [894, 101, 892, 893] rfl rfl
theorem hdX4_begin : yX4_begin.cls ≠ "java/lang/invoke/MethodHandle" ∧ yX4_begin.cls ≠ "java/lang/invoke/VarHandle" ∧ (parseMethodDescriptor yX4_begin.desc).map (fun d => d.parameters.length) = some 1 := by decide +kernel
set_option maxRecDepth 20000 in
theorem lkX8_111 : Cond.methodLink RX8 111 yX4_begin ∈ lw_g := a_p1 891 rfl rfl
set_option maxRecDepth 20000 in
theorem kX8_library {l : Launch} {G : aG} (hZ : a_Z l G) : a_Con l G shp yX8_library (.code yX8_library cX8_library 3 (some .int)) 81 3068 fX8_library :=
  a_mth none hZ.1 hZ.2.1 shp_len (fun _ h => nomatch h) hZ.2.2.1 (by decide +kernel) rfl (foX8 rfl) (a_cok_of trivial) ckX8_library rfl rfl (⟨tkX8_library_15 hZ, trivial⟩) (⟨a_CQ_v hZ.2.1 (kX3_readAll hZ) lkX8_92 (a_CF_v TX3 4 wkX3_readAll lkX8_92 hdX3_readAll ⟨by decide, by decide⟩ rfl) rfl rfl,
    ⟨a_CQ_v hZ.2.1 (kX6_take hZ) lkX8_102 (a_CF_v TX6 9 wkX6_take lkX8_102 hdX6_take ⟨by decide, by decide⟩ rfl) rfl rfl,
    ⟨a_CQ_v hZ.2.1 (kX6_reckon hZ) lkX8_105 (a_CF_v TX6 9 wkX6_reckon lkX8_105 hdX6_reckon ⟨by decide, by decide⟩ rfl) rfl rfl,
    ⟨a_CQ_v hZ.2.1 (kX4_begin hZ) lkX8_111 (a_CF_v TX4 5 wkX4_begin lkX8_111 hdX4_begin ⟨by decide, by decide⟩ rfl) rfl rfl,
    trivial⟩⟩⟩⟩)
def eX8_fault : List (Nat × aEnt) := [(0, .aload_n 0, 0, 0, []),
  (1, .getfield 74, 0, 0, []),
  (4, .ireturn, 0, 0, [])]
set_option maxRecDepth 20000 in
theorem ckX8_fault : eX8_fault.all (a_eok cX8_fault) = true := b_code [42,180,0,74,172] [] (by decide +kernel) (by decide +kernel) (by decide +kernel) (by decide +kernel)
noncomputable def pX8_fault : aPrg := (eX8_fault,
  fdX8, [], [], [], [], 0, [])
noncomputable def fX8_fault : aMF := a_fn none shp pX8_fault 1 1
set_option maxRecDepth 20000 in
theorem kX8_fault {l : Launch} {G : aG} (hZ : a_Z l G) : a_Con l G shp yX8_fault (.code yX8_fault cX8_fault 1 (some .int)) 1 16 fX8_fault :=
  a_mth none hZ.1 hZ.2.1 shp_len (fun _ h => nomatch h) hZ.2.2.1 (by decide +kernel) rfl (foX8 rfl) (a_cok_of trivial) ckX8_fault rfl rfl (trivial) (trivial)
def eX8_count : List (Nat × aEnt) := [(0, .iload_n 1, 0, 0, []),
  (1, .tableswitch 123 0 8 #[51, 59, 67, 84, 92, 100, 108, 113, 118], 0, 124, [(0, 52), (1, 60), (2, 68), (3, 85), (4, 93), (5, 101), (6, 109), (7, 114), (8, 119)]),
  (52, .aload_n 0, 0, 0, []),
  (53, .getfield 23, 0, 0, []),
  (56, .getfield 122, 0, 0, []),
  (59, .ireturn, 0, 0, []),
  (60, .aload_n 0, 0, 0, []),
  (61, .getfield 23, 0, 0, []),
  (64, .getfield 125, 0, 0, []),
  (67, .ireturn, 0, 0, []),
  (68, .aload_n 0, 0, 0, []),
  (69, .getfield 23, 0, 0, []),
  (72, .aload_n 0, 0, 0, []),
  (73, .getfield 38, 0, 0, []),
  (76, .getfield 128, 0, 0, []),
  (79, .iconst 5, 5, 0, []),
  (80, .iaload, 0, 0, []),
  (81, .invokevirtual 131, 0, 0, []),
  (84, .ireturn, 0, 0, []),
  (85, .aload_n 0, 0, 0, []),
  (86, .getfield 38, 0, 0, []),
  (89, .getfield 134, 0, 0, []),
  (92, .ireturn, 0, 0, []),
  (93, .aload_n 0, 0, 0, []),
  (94, .getfield 38, 0, 0, []),
  (97, .getfield 137, 0, 0, []),
  (100, .ireturn, 0, 0, []),
  (101, .aload_n 0, 0, 0, []),
  (102, .getfield 12, 0, 0, []),
  (105, .getfield 78, 0, 0, []),
  (108, .ireturn, 0, 0, []),
  (109, .aload_n 0, 0, 0, []),
  (110, .getfield 99, 0, 0, []),
  (113, .ireturn, 0, 0, []),
  (114, .aload_n 0, 0, 0, []),
  (115, .getfield 140, 0, 0, []),
  (118, .ireturn, 0, 0, []),
  (119, .aload_n 0, 0, 0, []),
  (120, .getfield 143, 0, 0, []),
  (123, .ireturn, 0, 0, []),
  (124, .new 146, 0, 0, [])]
set_option maxRecDepth 20000 in
theorem ckX8_count : eX8_count.all (a_eok cX8_count) = true := b_code [27,170,0,0,0,0,0,123,0,0,0,0,0,0,0,8,0,0,0,51,0,0,0,59,0,0,0,67,0,0,0,84,0,0,0,92,0,0,0,100,0,0,0,108,0,0,0,113,0,0,0,118,42,180,0,23,180,0,122,172,42,180,0,23,180,0,125,172,42,180,0,23,42,180,0,38,180,0,128,8,46,182,0,131,172,42,180,0,38,180,0,134,172,42,180,0,38,180,0,137,172,42,180,0,12,180,0,78,172,42,180,0,99,172,42,180,0,140,172,42,180,0,143,172,187,0,146,89,18,148,183,0,150,191] [(1, 51)] (by decide +kernel) (by decide +kernel) (by decide +kernel) (by decide +kernel)
noncomputable def pX8_count : aPrg := (eX8_count,
  fdX8, [(131, fX6_pagesTogether, 2, 6, 0)], [], [], [(124, 0)], 0, [])
noncomputable def fX8_count : aMF := a_fn none shp pX8_count 2 2
theorem tkX8_count_124 {l : Launch} {G : aG} (hZ : a_Z l G) : a_tok G RX8 cX8_count 6 90 124 0 :=
  a_tok_s (own := RX8) (cc := cX8_count) (ik := 146) (is := 148) (ic := 150) (ix := 13) (rx := prog_28_method_4_code) (sa := g_ad G 1017) (text := "no such count") rxX0 (by decide) ⟨by decide +kernel, by decide +kernel⟩ ⟨by decide +kernel, by decide +kernel, by decide +kernel⟩ clX0 inX0 (z_17 hZ) atX0 rfl rfl
set_option maxRecDepth 20000 in
theorem wkX6_pagesTogether : ∀ w ∈ [Cond.code yX6_pagesTogether cX6_pagesTogether 4 (some .int), .initialized yX6_pagesTogether.cls, .instanceMethod yX6_pagesTogether, .selects yX6_pagesTogether.cls yX6_pagesTogether yX6_pagesTogether], w ∈ lw_g := a_ps [906, 98, 904, 905] rfl rfl
theorem hdX6_pagesTogether : yX6_pagesTogether.cls ≠ "java/lang/invoke/MethodHandle" ∧ yX6_pagesTogether.cls ≠ "java/lang/invoke/VarHandle" ∧ (parseMethodDescriptor yX6_pagesTogether.desc).map (fun d => d.parameters.length) = some 1 := by decide +kernel
set_option maxRecDepth 20000 in
theorem lkX8_131 : Cond.methodLink RX8 131 yX6_pagesTogether ∈ lw_g := a_p1 903 rfl rfl
set_option maxRecDepth 20000 in
theorem kX8_count {l : Launch} {G : aG} (hZ : a_Z l G) : a_Con l G shp yX8_count (.code yX8_count cX8_count 2 (some .int)) 6 90 fX8_count :=
  a_mth none hZ.1 hZ.2.1 shp_len (fun _ h => nomatch h) hZ.2.2.1 (by decide +kernel) rfl (foX8 rfl) (a_cok_of trivial) ckX8_count rfl rfl (⟨tkX8_count_124 hZ, trivial⟩) (⟨a_CQ_v hZ.2.1 (kX6_pagesTogether hZ) lkX8_131 (a_CF_v TX6 9 wkX6_pagesTogether lkX8_131 hdX6_pagesTogether ⟨by decide, by decide⟩ rfl) rfl rfl,
    trivial⟩)
def eX8_isBook : List (Nat × aEnt) := [(0, .iload_n 1, 0, 0, []),
  (1, .ifCond .lt 18, 0, 19, []),
  (4, .iload_n 1, 0, 0, []),
  (5, .aload_n 0, 0, 0, []),
  (6, .getfield 23, 0, 0, []),
  (9, .getfield 122, 0, 0, []),
  (12, .if_icmp .ge 7, 0, 19, []),
  (15, .iconst 1, 1, 0, []),
  (16, .goto 4, 0, 20, []),
  (19, .iconst 0, 0, 0, []),
  (20, .ireturn, 0, 0, [])]
set_option maxRecDepth 20000 in
theorem ckX8_isBook : eX8_isBook.all (a_eok cX8_isBook) = true := b_code [27,155,0,18,27,42,180,0,23,180,0,122,162,0,7,4,167,0,4,3,172] [] (by decide +kernel) (by decide +kernel) (by decide +kernel) (by decide +kernel)
noncomputable def pX8_isBook : aPrg := (eX8_isBook,
  fdX8, [], [], [], [], 1, [(19, [0, 1]), (20, [0, 1])])
noncomputable def fX8_isBook : aMF := a_fn none shp pX8_isBook 2 2
set_option maxRecDepth 20000 in
theorem kX8_isBook {l : Launch} {G : aG} (hZ : a_Z l G) : a_Con l G shp yX8_isBook (.code yX8_isBook cX8_isBook 2 (some .boolean)) 1 16 fX8_isBook :=
  a_mth none hZ.1 hZ.2.1 shp_len (fun _ h => nomatch h) hZ.2.2.1 (by decide +kernel) rfl (foX8 rfl) (a_cok_of trivial) ckX8_isBook rfl rfl (trivial) (trivial)
def eX8_needBook : List (Nat × aEnt) := [(0, .aload_n 0, 0, 0, []),
  (1, .iload_n 1, 0, 0, []),
  (2, .invokevirtual 194, 0, 0, []),
  (5, .ifCond .ne 14, 0, 19, []),
  (8, .new 146, 0, 0, []),
  (19, .return_, 0, 0, [])]
set_option maxRecDepth 20000 in
theorem ckX8_needBook : eX8_needBook.all (a_eok cX8_needBook) = true := b_code [42,27,182,0,194,154,0,14,187,0,146,89,19,1,38,183,0,150,191,177] [] (by decide +kernel) (by decide +kernel) (by decide +kernel) (by decide +kernel)
noncomputable def pX8_needBook : aPrg := (eX8_needBook,
  fdX8, [(194, fX8_isBook, 2, 8, 0)], [], [], [(8, 0)], 2, [])
noncomputable def fX8_needBook : aMF := a_fn none shp pX8_needBook 2 2
theorem tkX8_needBook_8 {l : Launch} {G : aG} (hZ : a_Z l G) : a_tok G RX8 cX8_needBook 6 90 8 0 :=
  a_tok_w (own := RX8) (cc := cX8_needBook) (ik := 146) (is := 294) (ic := 150) (ix := 13) (rx := prog_28_method_4_code) (sa := g_ad G 1026) (text := "no such book") rxX0 (by decide) ⟨by decide +kernel, by decide +kernel⟩ ⟨by decide +kernel, by decide +kernel, by decide +kernel⟩ clX0 inX0 (z_26 hZ) atX0 rfl rfl
set_option maxRecDepth 20000 in
theorem wkX8_isBook : ∀ w ∈ [Cond.code yX8_isBook cX8_isBook 2 (some .boolean), .initialized yX8_isBook.cls, .instanceMethod yX8_isBook, .selects yX8_isBook.cls yX8_isBook yX8_isBook], w ∈ lw_g := a_ps [434, 96, 433, 1] rfl rfl
theorem hdX8_isBook : yX8_isBook.cls ≠ "java/lang/invoke/MethodHandle" ∧ yX8_isBook.cls ≠ "java/lang/invoke/VarHandle" ∧ (parseMethodDescriptor yX8_isBook.desc).map (fun d => d.parameters.length) = some 1 := by decide +kernel
set_option maxRecDepth 20000 in
theorem lkX8_194 : Cond.methodLink RX8 194 yX8_isBook ∈ lw_g := a_p1 431 rfl rfl
set_option maxRecDepth 20000 in
theorem kX8_needBook {l : Launch} {G : aG} (hZ : a_Z l G) : a_Con l G shp yX8_needBook (.code yX8_needBook cX8_needBook 2 none) 6 90 fX8_needBook :=
  a_mth none hZ.1 hZ.2.1 shp_len (fun _ h => nomatch h) hZ.2.2.1 (by decide +kernel) rfl (foX8 rfl) (a_cok_of trivial) ckX8_needBook rfl rfl (⟨tkX8_needBook_8 hZ, trivial⟩) (⟨a_CQ_v hZ.2.1 (kX8_isBook hZ) lkX8_194 (a_CF_v TX8 15 wkX8_isBook lkX8_194 hdX8_isBook ⟨by decide, by decide⟩ rfl) rfl rfl,
    trivial⟩)
def eX8_needWhat : List (Nat × aEnt) := [(0, .iload_n 0, 0, 0, []),
  (1, .ifCond .lt 8, 0, 9, []),
  (4, .iload_n 0, 0, 0, []),
  (5, .iload_n 1, 0, 0, []),
  (6, .if_icmp .lt 14, 0, 20, []),
  (9, .new 146, 0, 0, []),
  (20, .return_, 0, 0, [])]
set_option maxRecDepth 20000 in
theorem ckX8_needWhat : eX8_needWhat.all (a_eok cX8_needWhat) = true := b_code [26,155,0,8,26,27,161,0,14,187,0,146,89,19,1,42,183,0,150,191,177] [] (by decide +kernel) (by decide +kernel) (by decide +kernel) (by decide +kernel)
noncomputable def pX8_needWhat : aPrg := (eX8_needWhat,
  fdX8, [], [], [], [(9, 0)], 2, [(9, [0, 1])])
noncomputable def fX8_needWhat : aMF := a_fn none shp pX8_needWhat 2 2
theorem tkX8_needWhat_9 {l : Launch} {G : aG} (hZ : a_Z l G) : a_tok G RX8 cX8_needWhat 6 90 9 0 :=
  a_tok_w (own := RX8) (cc := cX8_needWhat) (ik := 146) (is := 298) (ic := 150) (ix := 13) (rx := prog_28_method_4_code) (sa := g_ad G 1028) (text := "no such what") rxX0 (by decide) ⟨by decide +kernel, by decide +kernel⟩ ⟨by decide +kernel, by decide +kernel, by decide +kernel⟩ clX0 inX0 (z_28 hZ) atX0 rfl rfl
set_option maxRecDepth 20000 in
theorem kX8_needWhat {l : Launch} {G : aG} (hZ : a_Z l G) : a_Con l G shp yX8_needWhat (.code yX8_needWhat cX8_needWhat 2 none) 6 90 fX8_needWhat :=
  a_mth none hZ.1 hZ.2.1 shp_len (fun _ h => nomatch h) hZ.2.2.1 (by decide +kernel) rfl (foX8 rfl) (a_cok_of trivial) ckX8_needWhat rfl rfl (⟨tkX8_needWhat_9 hZ, trivial⟩) (trivial)
def eX8_placeOf : List (Nat × aEnt) := [(0, .iconst 0, 0, 0, []),
  (1, .istore_n 2, 0, 0, []),
  (2, .iload_n 2, 0, 0, []),
  (3, .iconst 5, 5, 0, []),
  (4, .if_icmp .ge 21, 0, 25, []),
  (7, .aload_n 0, 0, 0, []),
  (8, .iload_n 2, 0, 0, []),
  (9, .iaload, 0, 0, []),
  (10, .iload_n 1, 0, 0, []),
  (11, .invokestatic 212, 0, 0, []),
  (14, .ifCond .eq 5, 0, 19, []),
  (17, .iload_n 2, 0, 0, []),
  (18, .ireturn, 0, 0, []),
  (19, .iinc 2 1, 1, 0, []),
  (22, .goto (-20), 0, 2, []),
  (25, .iconst (-1), (-1), 0, []),
  (26, .ireturn, 0, 0, [])]
set_option maxRecDepth 20000 in
theorem ckX8_placeOf : eX8_placeOf.all (a_eok cX8_placeOf) = true := b_code [3,61,28,8,162,0,21,42,28,46,27,184,0,212,153,0,5,28,172,132,2,1,167,255,236,2,172] [] (by decide +kernel) (by decide +kernel) (by decide +kernel) (by decide +kernel)
noncomputable def pX8_placeOf : aPrg := (eX8_placeOf,
  fdX8, [(212, fX8_holds, 2, 2000, 0)], [], [], [], 0, [])
noncomputable def fX8_placeOf : aMF := a_fn none shp pX8_placeOf 3 2
set_option maxRecDepth 20000 in
theorem lkX8_212 : Cond.methodLink RX8 212 yX8_holds ∈ lw_g := a_p1 465 rfl rfl
set_option maxRecDepth 20000 in
theorem kX8_placeOf {l : Launch} {G : aG} (hZ : a_Z l G) : a_Con l G shp yX8_placeOf (.code yX8_placeOf cX8_placeOf 3 (some .int)) 2 37 fX8_placeOf :=
  a_mth none hZ.1 hZ.2.1 shp_len (fun _ h => nomatch h) hZ.2.2.1 (by decide +kernel) rfl (foX8 rfl) (a_cok_of trivial) ckX8_placeOf rfl rfl (trivial) (⟨a_CQ_s hZ.2.1 (kX8_holds hZ) lkX8_212 (a_CF_s wkX8_holds lkX8_212 hdX8_holds) rfl rfl,
    trivial⟩)
def eX8_book : List (Nat × aEnt) := [(0, .aload_n 0, 0, 0, []),
  (1, .iload_n 1, 0, 0, []),
  (2, .invokevirtual 151, 0, 0, []),
  (5, .iload_n 2, 0, 0, []),
  (6, .bipush 6, 6, 0, []),
  (8, .invokestatic 154, 0, 0, []),
  (11, .iload_n 2, 0, 0, []),
  (12, .iconst 4, 4, 0, []),
  (13, .if_icmp .ge 17, 0, 30, []),
  (16, .aload_n 0, 0, 0, []),
  (17, .getfield 23, 0, 0, []),
  (20, .getfield 158, 0, 0, []),
  (23, .iconst 4, 4, 0, []),
  (24, .iload_n 1, 0, 0, []),
  (25, .imul, 0, 0, []),
  (26, .iload_n 2, 0, 0, []),
  (27, .iadd, 0, 0, []),
  (28, .iaload, 0, 0, []),
  (29, .ireturn, 0, 0, []),
  (30, .iload_n 2, 0, 0, []),
  (31, .iconst 4, 4, 0, []),
  (32, .if_icmp .ne 15, 0, 47, []),
  (35, .aload_n 0, 0, 0, []),
  (36, .getfield 23, 0, 0, []),
  (39, .getfield 161, 0, 0, []),
  (42, .iload_n 1, 0, 0, []),
  (43, .iaload, 0, 0, []),
  (44, .goto 14, 0, 58, []),
  (47, .aload_n 0, 0, 0, []),
  (48, .getfield 38, 0, 0, []),
  (51, .getfield 128, 0, 0, []),
  (54, .iload_n 1, 0, 0, []),
  (55, .invokestatic 164, 0, 0, []),
  (58, .ireturn, 0, 0, [])]
set_option maxRecDepth 20000 in
theorem ckX8_book : eX8_book.all (a_eok cX8_book) = true := b_code [42,27,182,0,151,28,16,6,184,0,154,28,7,162,0,17,42,180,0,23,180,0,158,7,27,104,28,96,46,172,28,7,160,0,15,42,180,0,23,180,0,161,27,46,167,0,14,42,180,0,38,180,0,128,27,184,0,164,172] [] (by decide +kernel) (by decide +kernel) (by decide +kernel) (by decide +kernel)
noncomputable def pX8_book : aPrg := (eX8_book,
  fdX8, [(151, fX8_needBook, 2, 8, 1), (154, fX8_needWhat, 2, 2000, 1), (164, fX8_placeOf, 2, 2000, 0)], [], [], [], 0, [(58, [0, 1, 2])])
noncomputable def fX8_book : aMF := a_fn none shp pX8_book 3 3
set_option maxRecDepth 20000 in
theorem wkX8_needBook : ∀ w ∈ [Cond.code yX8_needBook cX8_needBook 2 none, .initialized yX8_needBook.cls, .instanceMethod yX8_needBook, .selects yX8_needBook.cls yX8_needBook yX8_needBook], w ∈ lw_g := a_ps [933, 96, 932, 38] rfl rfl
theorem hdX8_needBook : yX8_needBook.cls ≠ "java/lang/invoke/MethodHandle" ∧ yX8_needBook.cls ≠ "java/lang/invoke/VarHandle" ∧ (parseMethodDescriptor yX8_needBook.desc).map (fun d => d.parameters.length) = some 1 := by decide +kernel
set_option maxRecDepth 20000 in
theorem lkX8_151 : Cond.methodLink RX8 151 yX8_needBook ∈ lw_g := a_p1 930 rfl rfl
set_option maxRecDepth 20000 in
theorem wkX8_needWhat : ∀ w ∈ [Cond.code yX8_needWhat cX8_needWhat 2 none, .initialized yX8_needWhat.cls, .static yX8_needWhat], w ∈ lw_g := a_ps [937, 96, 936] rfl rfl
theorem hdX8_needWhat : yX8_needWhat.cls ≠ "java/lang/invoke/MethodHandle" ∧ yX8_needWhat.cls ≠ "java/lang/invoke/VarHandle" ∧ (parseMethodDescriptor yX8_needWhat.desc).map (fun d => d.parameters.length) = some 2 := by decide +kernel
set_option maxRecDepth 20000 in
theorem lkX8_154 : Cond.methodLink RX8 154 yX8_needWhat ∈ lw_g := a_p1 935 rfl rfl
set_option maxRecDepth 20000 in
theorem wkX8_placeOf : ∀ w ∈ [Cond.code yX8_placeOf cX8_placeOf 3 (some .int), .initialized yX8_placeOf.cls, .static yX8_placeOf], w ∈ lw_g := a_ps [941, 96, 940] rfl rfl
theorem hdX8_placeOf : yX8_placeOf.cls ≠ "java/lang/invoke/MethodHandle" ∧ yX8_placeOf.cls ≠ "java/lang/invoke/VarHandle" ∧ (parseMethodDescriptor yX8_placeOf.desc).map (fun d => d.parameters.length) = some 2 := by decide +kernel
set_option maxRecDepth 20000 in
theorem lkX8_164 : Cond.methodLink RX8 164 yX8_placeOf ∈ lw_g := a_p1 939 rfl rfl
set_option maxRecDepth 20000 in
theorem kX8_book {l : Launch} {G : aG} (hZ : a_Z l G) : a_Con l G shp yX8_book (.code yX8_book cX8_book 3 (some .int)) 7 111 fX8_book :=
  a_mth none hZ.1 hZ.2.1 shp_len (fun _ h => nomatch h) hZ.2.2.1 (by decide +kernel) rfl (foX8 rfl) (a_cok_of trivial) ckX8_book rfl rfl (trivial) (⟨a_CQ_v hZ.2.1 (kX8_needBook hZ) lkX8_151 (a_CF_v TX8 15 wkX8_needBook lkX8_151 hdX8_needBook ⟨by decide, by decide⟩ rfl) rfl rfl,
    ⟨a_CQ_s hZ.2.1 (kX8_needWhat hZ) lkX8_154 (a_CF_s wkX8_needWhat lkX8_154 hdX8_needWhat) rfl rfl,
    ⟨a_CQ_s hZ.2.1 (kX8_placeOf hZ) lkX8_164 (a_CF_s wkX8_placeOf lkX8_164 hdX8_placeOf) rfl rfl,
    trivial⟩⟩⟩)
def eX8_isReader : List (Nat × aEnt) := [(0, .iload_n 1, 0, 0, []),
  (1, .ifCond .lt 18, 0, 19, []),
  (4, .iload_n 1, 0, 0, []),
  (5, .aload_n 0, 0, 0, []),
  (6, .getfield 23, 0, 0, []),
  (9, .getfield 125, 0, 0, []),
  (12, .if_icmp .ge 7, 0, 19, []),
  (15, .iconst 1, 1, 0, []),
  (16, .goto 4, 0, 20, []),
  (19, .iconst 0, 0, 0, []),
  (20, .ireturn, 0, 0, [])]
set_option maxRecDepth 20000 in
theorem ckX8_isReader : eX8_isReader.all (a_eok cX8_isReader) = true := b_code [27,155,0,18,27,42,180,0,23,180,0,125,162,0,7,4,167,0,4,3,172] [] (by decide +kernel) (by decide +kernel) (by decide +kernel) (by decide +kernel)
noncomputable def pX8_isReader : aPrg := (eX8_isReader,
  fdX8, [], [], [], [], 1, [(19, [0, 1]), (20, [0, 1])])
noncomputable def fX8_isReader : aMF := a_fn none shp pX8_isReader 2 2
set_option maxRecDepth 20000 in
theorem kX8_isReader {l : Launch} {G : aG} (hZ : a_Z l G) : a_Con l G shp yX8_isReader (.code yX8_isReader cX8_isReader 2 (some .boolean)) 1 16 fX8_isReader :=
  a_mth none hZ.1 hZ.2.1 shp_len (fun _ h => nomatch h) hZ.2.2.1 (by decide +kernel) rfl (foX8 rfl) (a_cok_of trivial) ckX8_isReader rfl rfl (trivial) (trivial)
def eX8_needReader : List (Nat × aEnt) := [(0, .aload_n 0, 0, 0, []),
  (1, .iload_n 1, 0, 0, []),
  (2, .invokevirtual 190, 0, 0, []),
  (5, .ifCond .ne 14, 0, 19, []),
  (8, .new 146, 0, 0, []),
  (19, .return_, 0, 0, [])]
set_option maxRecDepth 20000 in
theorem ckX8_needReader : eX8_needReader.all (a_eok cX8_needReader) = true := b_code [42,27,182,0,190,154,0,14,187,0,146,89,19,1,40,183,0,150,191,177] [] (by decide +kernel) (by decide +kernel) (by decide +kernel) (by decide +kernel)
noncomputable def pX8_needReader : aPrg := (eX8_needReader,
  fdX8, [(190, fX8_isReader, 2, 8, 0)], [], [], [(8, 0)], 2, [])
noncomputable def fX8_needReader : aMF := a_fn none shp pX8_needReader 2 2
theorem tkX8_needReader_8 {l : Launch} {G : aG} (hZ : a_Z l G) : a_tok G RX8 cX8_needReader 6 90 8 0 :=
  a_tok_w (own := RX8) (cc := cX8_needReader) (ik := 146) (is := 296) (ic := 150) (ix := 13) (rx := prog_28_method_4_code) (sa := g_ad G 1027) (text := "no such reader") rxX0 (by decide) ⟨by decide +kernel, by decide +kernel⟩ ⟨by decide +kernel, by decide +kernel, by decide +kernel⟩ clX0 inX0 (z_27 hZ) atX0 rfl rfl
set_option maxRecDepth 20000 in
theorem wkX8_isReader : ∀ w ∈ [Cond.code yX8_isReader cX8_isReader 2 (some .boolean), .initialized yX8_isReader.cls, .instanceMethod yX8_isReader, .selects yX8_isReader.cls yX8_isReader yX8_isReader], w ∈ lw_g := a_ps [430, 96, 429, 0] rfl rfl
theorem hdX8_isReader : yX8_isReader.cls ≠ "java/lang/invoke/MethodHandle" ∧ yX8_isReader.cls ≠ "java/lang/invoke/VarHandle" ∧ (parseMethodDescriptor yX8_isReader.desc).map (fun d => d.parameters.length) = some 1 := by decide +kernel
set_option maxRecDepth 20000 in
theorem lkX8_190 : Cond.methodLink RX8 190 yX8_isReader ∈ lw_g := a_p1 427 rfl rfl
set_option maxRecDepth 20000 in
theorem kX8_needReader {l : Launch} {G : aG} (hZ : a_Z l G) : a_Con l G shp yX8_needReader (.code yX8_needReader cX8_needReader 2 none) 6 90 fX8_needReader :=
  a_mth none hZ.1 hZ.2.1 shp_len (fun _ h => nomatch h) hZ.2.2.1 (by decide +kernel) rfl (foX8 rfl) (a_cok_of trivial) ckX8_needReader rfl rfl (⟨tkX8_needReader_8 hZ, trivial⟩) (⟨a_CQ_v hZ.2.1 (kX8_isReader hZ) lkX8_190 (a_CF_v TX8 15 wkX8_isReader lkX8_190 hdX8_isReader ⟨by decide, by decide⟩ rfl) rfl rfl,
    trivial⟩)
def eX8_reader : List (Nat × aEnt) := [(0, .aload_n 0, 0, 0, []),
  (1, .iload_n 1, 0, 0, []),
  (2, .invokevirtual 168, 0, 0, []),
  (5, .iload_n 2, 0, 0, []),
  (6, .iconst 3, 3, 0, []),
  (7, .invokestatic 154, 0, 0, []),
  (10, .iload_n 2, 0, 0, []),
  (11, .ifCond .ne 13, 0, 24, []),
  (14, .aload_n 0, 0, 0, []),
  (15, .getfield 23, 0, 0, []),
  (18, .getfield 171, 0, 0, []),
  (21, .iload_n 1, 0, 0, []),
  (22, .iaload, 0, 0, []),
  (23, .ireturn, 0, 0, []),
  (24, .iload_n 2, 0, 0, []),
  (25, .iconst 1, 1, 0, []),
  (26, .if_icmp .ne 13, 0, 39, []),
  (29, .aload_n 0, 0, 0, []),
  (30, .getfield 38, 0, 0, []),
  (33, .getfield 128, 0, 0, []),
  (36, .iload_n 1, 0, 0, []),
  (37, .iaload, 0, 0, []),
  (38, .ireturn, 0, 0, []),
  (39, .aload_n 0, 0, 0, []),
  (40, .getfield 23, 0, 0, []),
  (43, .aload_n 0, 0, 0, []),
  (44, .getfield 38, 0, 0, []),
  (47, .getfield 128, 0, 0, []),
  (50, .iload_n 1, 0, 0, []),
  (51, .invokevirtual 174, 0, 0, []),
  (54, .ifCond .eq 7, 0, 61, []),
  (57, .iconst 1, 1, 0, []),
  (58, .goto 4, 0, 62, []),
  (61, .iconst 0, 0, 0, []),
  (62, .ireturn, 0, 0, [])]
set_option maxRecDepth 20000 in
theorem ckX8_reader : eX8_reader.all (a_eok cX8_reader) = true := b_code [42,27,182,0,168,28,6,184,0,154,28,154,0,13,42,180,0,23,180,0,171,27,46,172,28,4,160,0,13,42,180,0,38,180,0,128,27,46,172,42,180,0,23,42,180,0,38,180,0,128,27,182,0,174,153,0,7,4,167,0,4,3,172] [] (by decide +kernel) (by decide +kernel) (by decide +kernel) (by decide +kernel)
noncomputable def pX8_reader : aPrg := (eX8_reader,
  fdX8, [(168, fX8_needReader, 2, 8, 1), (154, fX8_needWhat, 2, 2000, 1), (174, fX6_isServed, 3, 6, 0)], [], [], [], 0, [(62, [0, 1, 2])])
noncomputable def fX8_reader : aMF := a_fn none shp pX8_reader 3 3
set_option maxRecDepth 20000 in
theorem wkX8_needReader : ∀ w ∈ [Cond.code yX8_needReader cX8_needReader 2 none, .initialized yX8_needReader.cls, .instanceMethod yX8_needReader, .selects yX8_needReader.cls yX8_needReader yX8_needReader], w ∈ lw_g := a_ps [952, 96, 951, 39] rfl rfl
theorem hdX8_needReader : yX8_needReader.cls ≠ "java/lang/invoke/MethodHandle" ∧ yX8_needReader.cls ≠ "java/lang/invoke/VarHandle" ∧ (parseMethodDescriptor yX8_needReader.desc).map (fun d => d.parameters.length) = some 1 := by decide +kernel
set_option maxRecDepth 20000 in
theorem lkX8_168 : Cond.methodLink RX8 168 yX8_needReader ∈ lw_g := a_p1 949 rfl rfl
set_option maxRecDepth 20000 in
theorem lkX8_174 : Cond.methodLink RX8 174 yX6_isServed ∈ lw_g := a_p1 954 rfl rfl
set_option maxRecDepth 20000 in
theorem kX8_reader {l : Launch} {G : aG} (hZ : a_Z l G) : a_Con l G shp yX8_reader (.code yX8_reader cX8_reader 3 (some .int)) 7 111 fX8_reader :=
  a_mth none hZ.1 hZ.2.1 shp_len (fun _ h => nomatch h) hZ.2.2.1 (by decide +kernel) rfl (foX8 rfl) (a_cok_of trivial) ckX8_reader rfl rfl (trivial) (⟨a_CQ_v hZ.2.1 (kX8_needReader hZ) lkX8_168 (a_CF_v TX8 15 wkX8_needReader lkX8_168 hdX8_needReader ⟨by decide, by decide⟩ rfl) rfl rfl,
    ⟨a_CQ_s hZ.2.1 (kX8_needWhat hZ) lkX8_154 (a_CF_s wkX8_needWhat lkX8_154 hdX8_needWhat) rfl rfl,
    ⟨a_CQ_v hZ.2.1 (kX6_isServed hZ) lkX8_174 (a_CF_v TX6 9 wkX6_isServed lkX8_174 hdX6_isServed ⟨by decide, by decide⟩ rfl) rfl rfl,
    trivial⟩⟩⟩)
def eX8_judge : List (Nat × aEnt) := [(0, .aload_n 0, 0, 0, []),
  (1, .iload_n 1, 0, 0, []),
  (2, .invokevirtual 190, 0, 0, []),
  (5, .ifCond .eq 19, 0, 24, []),
  (8, .aload_n 0, 0, 0, []),
  (9, .iload_n 2, 0, 0, []),
  (10, .invokevirtual 194, 0, 0, []),
  (13, .ifCond .eq 11, 0, 24, []),
  (16, .aload_n 0, 0, 0, []),
  (17, .iload_n 3, 0, 0, []),
  (18, .invokevirtual 194, 0, 0, []),
  (21, .ifCond .ne 5, 0, 26, []),
  (24, .iconst 1, 1, 0, []),
  (25, .ireturn, 0, 0, []),
  (26, .aload_n 0, 0, 0, []),
  (27, .getfield 23, 0, 0, []),
  (30, .aload_n 0, 0, 0, []),
  (31, .getfield 38, 0, 0, []),
  (34, .getfield 128, 0, 0, []),
  (37, .iload_n 1, 0, 0, []),
  (38, .iload_n 2, 0, 0, []),
  (39, .iload_n 3, 0, 0, []),
  (40, .invokevirtual 197, 0, 0, []),
  (43, .ireturn, 0, 0, [])]
set_option maxRecDepth 20000 in
theorem ckX8_judge : eX8_judge.all (a_eok cX8_judge) = true := b_code [42,27,182,0,190,153,0,19,42,28,182,0,194,153,0,11,42,29,182,0,194,154,0,5,4,172,42,180,0,23,42,180,0,38,180,0,128,27,28,29,182,0,197,172] [] (by decide +kernel) (by decide +kernel) (by decide +kernel) (by decide +kernel)
noncomputable def pX8_judge : aPrg := (eX8_judge,
  fdX8, [(190, fX8_isReader, 2, 8, 0), (194, fX8_isBook, 2, 8, 0), (197, fX6_troubleOf, 5, 6, 0)], [], [], [], 0, [(24, [0, 1, 2, 3])])
noncomputable def fX8_judge : aMF := a_fn none shp pX8_judge 4 4
set_option maxRecDepth 20000 in
theorem lkX8_197 : Cond.methodLink RX8 197 yX6_troubleOf ∈ lw_g := a_p1 435 rfl rfl
set_option maxRecDepth 20000 in
theorem kX8_judge {l : Launch} {G : aG} (hZ : a_Z l G) : a_Con l G shp yX8_judge (.code yX8_judge cX8_judge 4 (some .int)) 3 61 fX8_judge :=
  a_mth none hZ.1 hZ.2.1 shp_len (fun _ h => nomatch h) hZ.2.2.1 (by decide +kernel) rfl (foX8 rfl) (a_cok_of trivial) ckX8_judge rfl rfl (trivial) (⟨a_CQ_v hZ.2.1 (kX8_isReader hZ) lkX8_190 (a_CF_v TX8 15 wkX8_isReader lkX8_190 hdX8_isReader ⟨by decide, by decide⟩ rfl) rfl rfl,
    ⟨a_CQ_v hZ.2.1 (kX8_isBook hZ) lkX8_194 (a_CF_v TX8 15 wkX8_isBook lkX8_194 hdX8_isBook ⟨by decide, by decide⟩ rfl) rfl rfl,
    ⟨a_CQ_v hZ.2.1 (kX6_troubleOf hZ) lkX8_197 (a_CF_v TX6 9 wkX6_troubleOf lkX8_197 hdX6_troubleOf ⟨by decide, by decide⟩ rfl) rfl rfl,
    trivial⟩⟩⟩)
def eX8_settle : List (Nat × aEnt) := [(0, .iload_n 1, 0, 0, []),
  (1, .istore 6, 0, 0, []),
  (3, .iload 6, 0, 0, []),
  (5, .ifCond .ne 19, 0, 24, []),
  (8, .aload_n 0, 0, 0, []),
  (9, .getfield 38, 0, 0, []),
  (12, .getfield 134, 0, 0, []),
  (15, .sipush 200, 200, 0, []),
  (18, .if_icmp .lt 6, 0, 24, []),
  (21, .iconst 5, 5, 0, []),
  (22, .istore 6, 0, 0, []),
  (24, .iload 6, 0, 0, []),
  (26, .ifCond .ne 19, 0, 45, []),
  (29, .aload_n 0, 0, 0, []),
  (30, .getfield 38, 0, 0, []),
  (33, .iload_n 2, 0, 0, []),
  (34, .iload_n 3, 0, 0, []),
  (35, .iload 4, 0, 0, []),
  (37, .iload 5, 0, 0, []),
  (39, .invokevirtual 300, 0, 0, []),
  (42, .goto 13, 0, 55, []),
  (45, .aload_n 0, 0, 0, []),
  (46, .dup, 0, 0, []),
  (47, .getfield 140, 0, 0, []),
  (50, .iconst 1, 1, 0, []),
  (51, .iadd, 0, 0, []),
  (52, .putfield 140, 0, 0, []),
  (55, .iload 6, 0, 0, []),
  (57, .ireturn, 0, 0, [])]
set_option maxRecDepth 20000 in
theorem ckX8_settle : eX8_settle.all (a_eok cX8_settle) = true := b_code [27,54,6,21,6,154,0,19,42,180,0,38,180,0,134,17,0,200,161,0,6,8,54,6,21,6,154,0,19,42,180,0,38,28,29,21,4,21,5,182,1,44,167,0,13,42,89,180,0,140,4,96,181,0,140,21,6,172] [] (by decide +kernel) (by decide +kernel) (by decide +kernel) (by decide +kernel)
noncomputable def pX8_settle : aPrg := (eX8_settle,
  fdX8, [(300, fX4_writeMove, 5, 4, 1)], [], [], [], 0, [(24, [1]), (55, [0, 1, 2, 3, 4, 5])])
noncomputable def fX8_settle : aMF := a_fn none shp pX8_settle 7 6
set_option maxRecDepth 20000 in
theorem wkX4_writeMove : ∀ w ∈ [Cond.code yX4_writeMove cX4_writeMove 6 none, .initialized yX4_writeMove.cls, .instanceMethod yX4_writeMove, .selects yX4_writeMove.cls yX4_writeMove yX4_writeMove], w ∈ lw_g := a_ps [449, 101, 447, 448] rfl rfl
theorem hdX4_writeMove : yX4_writeMove.cls ≠ "java/lang/invoke/MethodHandle" ∧ yX4_writeMove.cls ≠ "java/lang/invoke/VarHandle" ∧ (parseMethodDescriptor yX4_writeMove.desc).map (fun d => d.parameters.length) = some 4 := by decide +kernel
set_option maxRecDepth 20000 in
theorem lkX8_300 : Cond.methodLink RX8 300 yX4_writeMove ∈ lw_g := a_p1 446 rfl rfl
set_option maxRecDepth 20000 in
theorem kX8_settle {l : Launch} {G : aG} (hZ : a_Z l G) : a_Con l G shp yX8_settle (.code yX8_settle cX8_settle 7 (some .int)) 4 88 fX8_settle :=
  a_mth none hZ.1 hZ.2.1 shp_len (fun _ h => nomatch h) hZ.2.2.1 (by decide +kernel) rfl (foX8 rfl) (a_cok_of trivial) ckX8_settle rfl rfl (trivial) (⟨a_CQ_v hZ.2.1 (kX4_writeMove hZ) lkX8_300 (a_CF_v TX4 5 wkX4_writeMove lkX8_300 hdX4_writeMove ⟨by decide, by decide⟩ rfl) rfl rfl,
    trivial⟩)
def eX8_exchange : List (Nat × aEnt) := [(0, .aload_n 0, 0, 0, []),
  (1, .aload_n 0, 0, 0, []),
  (2, .iload_n 1, 0, 0, []),
  (3, .iload_n 2, 0, 0, []),
  (4, .iload_n 3, 0, 0, []),
  (5, .invokevirtual 178, 0, 0, []),
  (8, .iload_n 1, 0, 0, []),
  (9, .iload_n 2, 0, 0, []),
  (10, .iload_n 3, 0, 0, []),
  (11, .iconst (-1), (-1), 0, []),
  (12, .invokevirtual 182, 0, 0, []),
  (15, .ireturn, 0, 0, [])]
set_option maxRecDepth 20000 in
theorem ckX8_exchange : eX8_exchange.all (a_eok cX8_exchange) = true := b_code [42,42,27,28,29,182,0,178,27,28,29,2,182,0,182,172] [] (by decide +kernel) (by decide +kernel) (by decide +kernel) (by decide +kernel)
noncomputable def pX8_exchange : aPrg := (eX8_exchange,
  fdX8, [(178, fX8_judge, 4, 8, 0), (182, fX8_settle, 6, 8, 0)], [], [], [], 0, [])
noncomputable def fX8_exchange : aMF := a_fn none shp pX8_exchange 4 4
set_option maxRecDepth 20000 in
theorem wkX8_judge : ∀ w ∈ [Cond.code yX8_judge cX8_judge 4 (some .int), .initialized yX8_judge.cls, .instanceMethod yX8_judge, .selects yX8_judge.cls yX8_judge yX8_judge], w ∈ lw_g := a_ps [426, 96, 424, 425] rfl rfl
theorem hdX8_judge : yX8_judge.cls ≠ "java/lang/invoke/MethodHandle" ∧ yX8_judge.cls ≠ "java/lang/invoke/VarHandle" ∧ (parseMethodDescriptor yX8_judge.desc).map (fun d => d.parameters.length) = some 3 := by decide +kernel
set_option maxRecDepth 20000 in
theorem lkX8_178 : Cond.methodLink RX8 178 yX8_judge ∈ lw_g := a_p1 423 rfl rfl
set_option maxRecDepth 20000 in
theorem wkX8_settle : ∀ w ∈ [Cond.code yX8_settle cX8_settle 7 (some .int), .initialized yX8_settle.cls, .instanceMethod yX8_settle, .selects yX8_settle.cls yX8_settle yX8_settle], w ∈ lw_g := a_ps [445, 96, 444, 2] rfl rfl
theorem hdX8_settle : yX8_settle.cls ≠ "java/lang/invoke/MethodHandle" ∧ yX8_settle.cls ≠ "java/lang/invoke/VarHandle" ∧ (parseMethodDescriptor yX8_settle.desc).map (fun d => d.parameters.length) = some 5 := by decide +kernel
set_option maxRecDepth 20000 in
theorem lkX8_182 : Cond.methodLink RX8 182 yX8_settle ∈ lw_g := a_p1 442 rfl rfl
set_option maxRecDepth 20000 in
theorem kX8_exchange {l : Launch} {G : aG} (hZ : a_Z l G) : a_Con l G shp yX8_exchange (.code yX8_exchange cX8_exchange 4 (some .int)) 5 114 fX8_exchange :=
  a_mth none hZ.1 hZ.2.1 shp_len (fun _ h => nomatch h) hZ.2.2.1 (by decide +kernel) rfl (foX8 rfl) (a_cok_of trivial) ckX8_exchange rfl rfl (trivial) (⟨a_CQ_v hZ.2.1 (kX8_judge hZ) lkX8_178 (a_CF_v TX8 15 wkX8_judge lkX8_178 hdX8_judge ⟨by decide, by decide⟩ rfl) rfl rfl,
    ⟨a_CQ_v hZ.2.1 (kX8_settle hZ) lkX8_182 (a_CF_v TX8 15 wkX8_settle lkX8_182 hdX8_settle ⟨by decide, by decide⟩ rfl) rfl rfl,
    trivial⟩⟩)
def eX8_troubleOfSwap : List (Nat × aEnt) := [(0, .aload_n 0, 0, 0, []),
  (1, .iload_n 1, 0, 0, []),
  (2, .invokevirtual 190, 0, 0, []),
  (5, .ifCond .eq 33, 0, 38, []),
  (8, .aload_n 0, 0, 0, []),
  (9, .iload_n 3, 0, 0, []),
  (10, .invokevirtual 190, 0, 0, []),
  (13, .ifCond .eq 25, 0, 38, []),
  (16, .aload_n 0, 0, 0, []),
  (17, .iload_n 2, 0, 0, []),
  (18, .invokevirtual 194, 0, 0, []),
  (21, .ifCond .eq 17, 0, 38, []),
  (24, .aload_n 0, 0, 0, []),
  (25, .iload 4, 0, 0, []),
  (27, .invokevirtual 194, 0, 0, []),
  (30, .ifCond .eq 8, 0, 38, []),
  (33, .iload_n 1, 0, 0, []),
  (34, .iload_n 3, 0, 0, []),
  (35, .if_icmp .ne 5, 0, 40, []),
  (38, .iconst 1, 1, 0, []),
  (39, .ireturn, 0, 0, []),
  (40, .aload_n 0, 0, 0, []),
  (41, .getfield 38, 0, 0, []),
  (44, .getfield 128, 0, 0, []),
  (47, .iload_n 1, 0, 0, []),
  (48, .iaload, 0, 0, []),
  (49, .iload_n 2, 0, 0, []),
  (50, .invokestatic 212, 0, 0, []),
  (53, .ifCond .ne 5, 0, 58, []),
  (56, .iconst 2, 2, 0, []),
  (57, .ireturn, 0, 0, []),
  (58, .aload_n 0, 0, 0, []),
  (59, .getfield 38, 0, 0, []),
  (62, .getfield 128, 0, 0, []),
  (65, .iload_n 3, 0, 0, []),
  (66, .iaload, 0, 0, []),
  (67, .iload 4, 0, 0, []),
  (69, .invokestatic 212, 0, 0, []),
  (72, .ifCond .eq 7, 0, 79, []),
  (75, .iconst 0, 0, 0, []),
  (76, .goto 4, 0, 80, []),
  (79, .iconst 3, 3, 0, []),
  (80, .ireturn, 0, 0, [])]
set_option maxRecDepth 20000 in
theorem ckX8_troubleOfSwap : eX8_troubleOfSwap.all (a_eok cX8_troubleOfSwap) = true := b_code [42,27,182,0,190,153,0,33,42,29,182,0,190,153,0,25,42,28,182,0,194,153,0,17,42,21,4,182,0,194,153,0,8,27,29,160,0,5,4,172,42,180,0,38,180,0,128,27,46,28,184,0,212,154,0,5,5,172,42,180,0,38,180,0,128,29,46,21,4,184,0,212,153,0,7,3,167,0,4,6,172] [] (by decide +kernel) (by decide +kernel) (by decide +kernel) (by decide +kernel)
noncomputable def pX8_troubleOfSwap : aPrg := (eX8_troubleOfSwap,
  fdX8, [(190, fX8_isReader, 2, 8, 0), (194, fX8_isBook, 2, 8, 0), (212, fX8_holds, 2, 2000, 0)], [], [], [], 0, [(38, [0, 1, 2, 3, 4]), (80, [0, 1, 2, 3, 4])])
noncomputable def fX8_troubleOfSwap : aMF := a_fn none shp pX8_troubleOfSwap 5 5
set_option maxRecDepth 20000 in
theorem kX8_troubleOfSwap {l : Launch} {G : aG} (hZ : a_Z l G) : a_Con l G shp yX8_troubleOfSwap (.code yX8_troubleOfSwap cX8_troubleOfSwap 5 (some .int)) 2 37 fX8_troubleOfSwap :=
  a_mth none hZ.1 hZ.2.1 shp_len (fun _ h => nomatch h) hZ.2.2.1 (by decide +kernel) rfl (foX8 rfl) (a_cok_of trivial) ckX8_troubleOfSwap rfl rfl (trivial) (⟨a_CQ_v hZ.2.1 (kX8_isReader hZ) lkX8_190 (a_CF_v TX8 15 wkX8_isReader lkX8_190 hdX8_isReader ⟨by decide, by decide⟩ rfl) rfl rfl,
    ⟨a_CQ_v hZ.2.1 (kX8_isBook hZ) lkX8_194 (a_CF_v TX8 15 wkX8_isBook lkX8_194 hdX8_isBook ⟨by decide, by decide⟩ rfl) rfl rfl,
    ⟨a_CQ_s hZ.2.1 (kX8_holds hZ) lkX8_212 (a_CF_s wkX8_holds lkX8_212 hdX8_holds) rfl rfl,
    trivial⟩⟩⟩)
def eX8_swap : List (Nat × aEnt) := [(0, .aload_n 0, 0, 0, []),
  (1, .aload_n 0, 0, 0, []),
  (2, .iload_n 1, 0, 0, []),
  (3, .iload_n 2, 0, 0, []),
  (4, .iload_n 3, 0, 0, []),
  (5, .iload 4, 0, 0, []),
  (7, .invokevirtual 186, 0, 0, []),
  (10, .iload_n 1, 0, 0, []),
  (11, .iload_n 2, 0, 0, []),
  (12, .iload 4, 0, 0, []),
  (14, .iload_n 3, 0, 0, []),
  (15, .invokevirtual 182, 0, 0, []),
  (18, .ireturn, 0, 0, [])]
set_option maxRecDepth 20000 in
theorem ckX8_swap : eX8_swap.all (a_eok cX8_swap) = true := b_code [42,42,27,28,29,21,4,182,0,186,27,28,21,4,29,182,0,182,172] [] (by decide +kernel) (by decide +kernel) (by decide +kernel) (by decide +kernel)
noncomputable def pX8_swap : aPrg := (eX8_swap,
  fdX8, [(186, fX8_troubleOfSwap, 5, 8, 0), (182, fX8_settle, 6, 8, 0)], [], [], [], 0, [])
noncomputable def fX8_swap : aMF := a_fn none shp pX8_swap 5 5
set_option maxRecDepth 20000 in
theorem wkX8_troubleOfSwap : ∀ w ∈ [Cond.code yX8_troubleOfSwap cX8_troubleOfSwap 5 (some .int), .initialized yX8_troubleOfSwap.cls, .instanceMethod yX8_troubleOfSwap, .selects yX8_troubleOfSwap.cls yX8_troubleOfSwap yX8_troubleOfSwap], w ∈ lw_g := a_ps [464, 96, 463, 4] rfl rfl
theorem hdX8_troubleOfSwap : yX8_troubleOfSwap.cls ≠ "java/lang/invoke/MethodHandle" ∧ yX8_troubleOfSwap.cls ≠ "java/lang/invoke/VarHandle" ∧ (parseMethodDescriptor yX8_troubleOfSwap.desc).map (fun d => d.parameters.length) = some 4 := by decide +kernel
set_option maxRecDepth 20000 in
theorem lkX8_186 : Cond.methodLink RX8 186 yX8_troubleOfSwap ∈ lw_g := a_p1 461 rfl rfl
set_option maxRecDepth 20000 in
theorem kX8_swap {l : Launch} {G : aG} (hZ : a_Z l G) : a_Con l G shp yX8_swap (.code yX8_swap cX8_swap 5 (some .int)) 5 114 fX8_swap :=
  a_mth none hZ.1 hZ.2.1 shp_len (fun _ h => nomatch h) hZ.2.2.1 (by decide +kernel) rfl (foX8 rfl) (a_cok_of trivial) ckX8_swap rfl rfl (trivial) (⟨a_CQ_v hZ.2.1 (kX8_troubleOfSwap hZ) lkX8_186 (a_CF_v TX8 15 wkX8_troubleOfSwap lkX8_186 hdX8_troubleOfSwap ⟨by decide, by decide⟩ rfl) rfl rfl,
    ⟨a_CQ_v hZ.2.1 (kX8_settle hZ) lkX8_182 (a_CF_v TX8 15 wkX8_settle lkX8_182 hdX8_settle ⟨by decide, by decide⟩ rfl) rfl rfl,
    trivial⟩⟩)
def eX8_undo : List (Nat × aEnt) := [(0, .aload_n 0, 0, 0, []),
  (1, .getfield 38, 0, 0, []),
  (4, .getfield 134, 0, 0, []),
  (7, .ifCond .ne 5, 0, 12, []),
  (10, .iconst (-1), (-1), 0, []),
  (11, .ireturn, 0, 0, []),
  (12, .aload_n 0, 0, 0, []),
  (13, .getfield 38, 0, 0, []),
  (16, .invokevirtual 201, 0, 0, []),
  (19, .aload_n 0, 0, 0, []),
  (20, .getfield 38, 0, 0, []),
  (23, .getfield 134, 0, 0, []),
  (26, .ireturn, 0, 0, [])]
set_option maxRecDepth 20000 in
theorem ckX8_undo : eX8_undo.all (a_eok cX8_undo) = true := b_code [42,180,0,38,180,0,134,154,0,5,2,172,42,180,0,38,182,0,201,42,180,0,38,180,0,134,172] [] (by decide +kernel) (by decide +kernel) (by decide +kernel) (by decide +kernel)
noncomputable def pX8_undo : aPrg := (eX8_undo,
  fdX8, [(201, fX4_takeBackMove, 1, 4, 1)], [], [], [], 0, [])
noncomputable def fX8_undo : aMF := a_fn none shp pX8_undo 1 1
set_option maxRecDepth 20000 in
theorem wkX4_takeBackMove : ∀ w ∈ [Cond.code yX4_takeBackMove cX4_takeBackMove 1 none, .initialized yX4_takeBackMove.cls, .instanceMethod yX4_takeBackMove, .selects yX4_takeBackMove.cls yX4_takeBackMove yX4_takeBackMove], w ∈ lw_g := a_ps [474, 101, 472, 473] rfl rfl
theorem hdX4_takeBackMove : yX4_takeBackMove.cls ≠ "java/lang/invoke/MethodHandle" ∧ yX4_takeBackMove.cls ≠ "java/lang/invoke/VarHandle" ∧ (parseMethodDescriptor yX4_takeBackMove.desc).map (fun d => d.parameters.length) = some 0 := by decide +kernel
set_option maxRecDepth 20000 in
theorem lkX8_201 : Cond.methodLink RX8 201 yX4_takeBackMove ∈ lw_g := a_p1 471 rfl rfl
set_option maxRecDepth 20000 in
theorem kX8_undo {l : Launch} {G : aG} (hZ : a_Z l G) : a_Con l G shp yX8_undo (.code yX8_undo cX8_undo 1 (some .int)) 4 83 fX8_undo :=
  a_mth none hZ.1 hZ.2.1 shp_len (fun _ h => nomatch h) hZ.2.2.1 (by decide +kernel) rfl (foX8 rfl) (a_cok_of trivial) ckX8_undo rfl rfl (trivial) (⟨a_CQ_v hZ.2.1 (kX4_takeBackMove hZ) lkX8_201 (a_CF_v TX4 5 wkX4_takeBackMove lkX8_201 hdX4_takeBackMove ⟨by decide, by decide⟩ rfl) rfl rfl,
    trivial⟩)
def eX8_move : List (Nat × aEnt) := [(0, .iload_n 2, 0, 0, []),
  (1, .iconst 4, 4, 0, []),
  (2, .invokestatic 154, 0, 0, []),
  (5, .iload_n 1, 0, 0, []),
  (6, .ifCond .lt 14, 0, 20, []),
  (9, .iload_n 1, 0, 0, []),
  (10, .aload_n 0, 0, 0, []),
  (11, .getfield 38, 0, 0, []),
  (14, .getfield 134, 0, 0, []),
  (17, .if_icmp .lt 13, 0, 30, []),
  (20, .new 146, 0, 0, []),
  (30, .aload_n 0, 0, 0, []),
  (31, .getfield 38, 0, 0, []),
  (34, .getfield 206, 0, 0, []),
  (37, .iconst 4, 4, 0, []),
  (38, .iload_n 1, 0, 0, []),
  (39, .imul, 0, 0, []),
  (40, .iload_n 2, 0, 0, []),
  (41, .iadd, 0, 0, []),
  (42, .iaload, 0, 0, []),
  (43, .ireturn, 0, 0, [])]
set_option maxRecDepth 20000 in
theorem ckX8_move : eX8_move.all (a_eok cX8_move) = true := b_code [28,7,184,0,154,27,155,0,14,27,42,180,0,38,180,0,134,161,0,13,187,0,146,89,18,204,183,0,150,191,42,180,0,38,180,0,206,7,27,104,28,96,46,172] [] (by decide +kernel) (by decide +kernel) (by decide +kernel) (by decide +kernel)
noncomputable def pX8_move : aPrg := (eX8_move,
  fdX8, [(154, fX8_needWhat, 2, 2000, 1)], [], [], [(20, 0)], 0, [(20, [0, 1, 2])])
noncomputable def fX8_move : aMF := a_fn none shp pX8_move 3 3
theorem tkX8_move_20 {l : Launch} {G : aG} (hZ : a_Z l G) : a_tok G RX8 cX8_move 7 111 20 0 :=
  a_tok_s (own := RX8) (cc := cX8_move) (ik := 146) (is := 204) (ic := 150) (ix := 13) (rx := prog_28_method_4_code) (sa := g_ad G 1018) (text := "no such move") rxX0 (by decide) ⟨by decide +kernel, by decide +kernel⟩ ⟨by decide +kernel, by decide +kernel, by decide +kernel⟩ clX0 inX0 (z_18 hZ) atX0 rfl rfl
set_option maxRecDepth 20000 in
theorem kX8_move {l : Launch} {G : aG} (hZ : a_Z l G) : a_Con l G shp yX8_move (.code yX8_move cX8_move 3 (some .int)) 7 111 fX8_move :=
  a_mth none hZ.1 hZ.2.1 shp_len (fun _ h => nomatch h) hZ.2.2.1 (by decide +kernel) rfl (foX8 rfl) (a_cok_of trivial) ckX8_move rfl rfl (⟨tkX8_move_20 hZ, trivial⟩) (⟨a_CQ_s hZ.2.1 (kX8_needWhat hZ) lkX8_154 (a_CF_s wkX8_needWhat lkX8_154 hdX8_needWhat) rfl rfl,
    trivial⟩)
def eX8_reachNow : List (Nat × aEnt) := [(0, .aload_n 0, 0, 0, []),
  (1, .getfield 38, 0, 0, []),
  (4, .getfield 128, 0, 0, []),
  (7, .iload_n 1, 0, 0, []),
  (8, .iaload, 0, 0, []),
  (9, .istore_n 2, 0, 0, []),
  (10, .iload_n 2, 0, 0, []),
  (11, .aload_n 0, 0, 0, []),
  (12, .getfield 23, 0, 0, []),
  (15, .iload_n 2, 0, 0, []),
  (16, .invokevirtual 261, 0, 0, []),
  (19, .aload_n 0, 0, 0, []),
  (20, .getfield 38, 0, 0, []),
  (23, .getfield 128, 0, 0, []),
  (26, .iconst 5, 5, 0, []),
  (27, .iaload, 0, 0, []),
  (28, .iand, 0, 0, []),
  (29, .ior, 0, 0, []),
  (30, .ireturn, 0, 0, [])]
set_option maxRecDepth 20000 in
theorem ckX8_reachNow : eX8_reachNow.all (a_eok cX8_reachNow) = true := b_code [42,180,0,38,180,0,128,27,46,61,28,42,180,0,23,28,182,1,5,42,180,0,38,180,0,128,8,46,126,128,172] [] (by decide +kernel) (by decide +kernel) (by decide +kernel) (by decide +kernel)
noncomputable def pX8_reachNow : aPrg := (eX8_reachNow,
  fdX8, [(261, fX6_takeableFor, 2, 6, 0)], [], [], [], 0, [])
noncomputable def fX8_reachNow : aMF := a_fn none shp pX8_reachNow 3 2
set_option maxRecDepth 20000 in
theorem wkX6_takeableFor : ∀ w ∈ [Cond.code yX6_takeableFor cX6_takeableFor 4 (some .int), .initialized yX6_takeableFor.cls, .instanceMethod yX6_takeableFor, .selects yX6_takeableFor.cls yX6_takeableFor yX6_takeableFor], w ∈ lw_g := a_ps [977, 98, 975, 976] rfl rfl
theorem hdX6_takeableFor : yX6_takeableFor.cls ≠ "java/lang/invoke/MethodHandle" ∧ yX6_takeableFor.cls ≠ "java/lang/invoke/VarHandle" ∧ (parseMethodDescriptor yX6_takeableFor.desc).map (fun d => d.parameters.length) = some 1 := by decide +kernel
set_option maxRecDepth 20000 in
theorem lkX8_261 : Cond.methodLink RX8 261 yX6_takeableFor ∈ lw_g := a_p1 974 rfl rfl
set_option maxRecDepth 20000 in
theorem kX8_reachNow {l : Launch} {G : aG} (hZ : a_Z l G) : a_Con l G shp yX8_reachNow (.code yX8_reachNow cX8_reachNow 3 (some .int)) 3 60 fX8_reachNow :=
  a_mth none hZ.1 hZ.2.1 shp_len (fun _ h => nomatch h) hZ.2.2.1 (by decide +kernel) rfl (foX8 rfl) (a_cok_of trivial) ckX8_reachNow rfl rfl (trivial) (⟨a_CQ_v hZ.2.1 (kX6_takeableFor hZ) lkX8_261 (a_CF_v TX6 9 wkX6_takeableFor lkX8_261 hdX6_takeableFor ⟨by decide, by decide⟩ rfl) rfl rfl,
    trivial⟩)
def eX8_reach : List (Nat × aEnt) := [(0, .aload_n 0, 0, 0, []),
  (1, .iload_n 1, 0, 0, []),
  (2, .invokevirtual 168, 0, 0, []),
  (5, .aload_n 0, 0, 0, []),
  (6, .iload_n 1, 0, 0, []),
  (7, .invokevirtual 209, 0, 0, []),
  (10, .ireturn, 0, 0, [])]
set_option maxRecDepth 20000 in
theorem ckX8_reach : eX8_reach.all (a_eok cX8_reach) = true := b_code [42,27,182,0,168,42,27,182,0,209,172] [] (by decide +kernel) (by decide +kernel) (by decide +kernel) (by decide +kernel)
noncomputable def pX8_reach : aPrg := (eX8_reach,
  fdX8, [(168, fX8_needReader, 2, 8, 1), (209, fX8_reachNow, 2, 8, 0)], [], [], [], 0, [])
noncomputable def fX8_reach : aMF := a_fn none shp pX8_reach 2 2
set_option maxRecDepth 20000 in
theorem wkX8_reachNow : ∀ w ∈ [Cond.code yX8_reachNow cX8_reachNow 3 (some .int), .initialized yX8_reachNow.cls, .instanceMethod yX8_reachNow, .selects yX8_reachNow.cls yX8_reachNow yX8_reachNow], w ∈ lw_g := a_ps [973, 96, 972, 40] rfl rfl
theorem hdX8_reachNow : yX8_reachNow.cls ≠ "java/lang/invoke/MethodHandle" ∧ yX8_reachNow.cls ≠ "java/lang/invoke/VarHandle" ∧ (parseMethodDescriptor yX8_reachNow.desc).map (fun d => d.parameters.length) = some 1 := by decide +kernel
set_option maxRecDepth 20000 in
theorem lkX8_209 : Cond.methodLink RX8 209 yX8_reachNow ∈ lw_g := a_p1 970 rfl rfl
set_option maxRecDepth 20000 in
theorem kX8_reach {l : Launch} {G : aG} (hZ : a_Z l G) : a_Con l G shp yX8_reach (.code yX8_reach cX8_reach 2 (some .int)) 7 111 fX8_reach :=
  a_mth none hZ.1 hZ.2.1 shp_len (fun _ h => nomatch h) hZ.2.2.1 (by decide +kernel) rfl (foX8 rfl) (a_cok_of trivial) ckX8_reach rfl rfl (trivial) (⟨a_CQ_v hZ.2.1 (kX8_needReader hZ) lkX8_168 (a_CF_v TX8 15 wkX8_needReader lkX8_168 hdX8_needReader ⟨by decide, by decide⟩ rfl) rfl rfl,
    ⟨a_CQ_v hZ.2.1 (kX8_reachNow hZ) lkX8_209 (a_CF_v TX8 15 wkX8_reachNow lkX8_209 hdX8_reachNow ⟨by decide, by decide⟩ rfl) rfl rfl,
    trivial⟩⟩)
def eX8_way : List (Nat × aEnt) := [(0, .aload_n 0, 0, 0, []),
  (1, .iload_n 1, 0, 0, []),
  (2, .invokevirtual 168, 0, 0, []),
  (5, .aload_n 0, 0, 0, []),
  (6, .iload_n 2, 0, 0, []),
  (7, .invokevirtual 151, 0, 0, []),
  (10, .aload_n 0, 0, 0, []),
  (11, .getfield 38, 0, 0, []),
  (14, .getfield 128, 0, 0, []),
  (17, .iload_n 1, 0, 0, []),
  (18, .iaload, 0, 0, []),
  (19, .iload_n 2, 0, 0, []),
  (20, .invokestatic 212, 0, 0, []),
  (23, .ifCond .eq 5, 0, 28, []),
  (26, .iconst 0, 0, 0, []),
  (27, .ireturn, 0, 0, []),
  (28, .aload_n 0, 0, 0, []),
  (29, .iload_n 1, 0, 0, []),
  (30, .invokevirtual 209, 0, 0, []),
  (33, .iload_n 2, 0, 0, []),
  (34, .invokestatic 212, 0, 0, []),
  (37, .ifCond .eq 7, 0, 44, []),
  (40, .iconst 1, 1, 0, []),
  (41, .goto 4, 0, 45, []),
  (44, .iconst (-1), (-1), 0, []),
  (45, .ireturn, 0, 0, [])]
set_option maxRecDepth 20000 in
theorem ckX8_way : eX8_way.all (a_eok cX8_way) = true := b_code [42,27,182,0,168,42,28,182,0,151,42,180,0,38,180,0,128,27,46,28,184,0,212,153,0,5,3,172,42,27,182,0,209,28,184,0,212,153,0,7,4,167,0,4,2,172] [] (by decide +kernel) (by decide +kernel) (by decide +kernel) (by decide +kernel)
noncomputable def pX8_way : aPrg := (eX8_way,
  fdX8, [(168, fX8_needReader, 2, 8, 1), (151, fX8_needBook, 2, 8, 1), (212, fX8_holds, 2, 2000, 0), (209, fX8_reachNow, 2, 8, 0)], [], [], [], 0, [(45, [0, 1, 2])])
noncomputable def fX8_way : aMF := a_fn none shp pX8_way 3 3
set_option maxRecDepth 20000 in
theorem kX8_way {l : Launch} {G : aG} (hZ : a_Z l G) : a_Con l G shp yX8_way (.code yX8_way cX8_way 3 (some .int)) 7 111 fX8_way :=
  a_mth none hZ.1 hZ.2.1 shp_len (fun _ h => nomatch h) hZ.2.2.1 (by decide +kernel) rfl (foX8 rfl) (a_cok_of trivial) ckX8_way rfl rfl (trivial) (⟨a_CQ_v hZ.2.1 (kX8_needReader hZ) lkX8_168 (a_CF_v TX8 15 wkX8_needReader lkX8_168 hdX8_needReader ⟨by decide, by decide⟩ rfl) rfl rfl,
    ⟨a_CQ_v hZ.2.1 (kX8_needBook hZ) lkX8_151 (a_CF_v TX8 15 wkX8_needBook lkX8_151 hdX8_needBook ⟨by decide, by decide⟩ rfl) rfl rfl,
    ⟨a_CQ_s hZ.2.1 (kX8_holds hZ) lkX8_212 (a_CF_s wkX8_holds lkX8_212 hdX8_holds) rfl rfl,
    ⟨a_CQ_v hZ.2.1 (kX8_reachNow hZ) lkX8_209 (a_CF_v TX8 15 wkX8_reachNow lkX8_209 hdX8_reachNow ⟨by decide, by decide⟩ rfl) rfl rfl,
    trivial⟩⟩⟩⟩)
def eX8_together : List (Nat × aEnt) := [(0, .aload_n 0, 0, 0, []),
  (1, .iload_n 1, 0, 0, []),
  (2, .invokevirtual 168, 0, 0, []),
  (5, .aload_n 0, 0, 0, []),
  (6, .iload_n 2, 0, 0, []),
  (7, .invokevirtual 168, 0, 0, []),
  (10, .aload_n 0, 0, 0, []),
  (11, .iload_n 3, 0, 0, []),
  (12, .invokevirtual 151, 0, 0, []),
  (15, .iload_n 1, 0, 0, []),
  (16, .iload_n 2, 0, 0, []),
  (17, .if_icmp .ne 13, 0, 30, []),
  (20, .new 85, 0, 0, []),
  (30, .aload_n 0, 0, 0, []),
  (31, .getfield 57, 0, 0, []),
  (34, .aload_n 0, 0, 0, []),
  (35, .getfield 38, 0, 0, []),
  (38, .getfield 128, 0, 0, []),
  (41, .iload_n 1, 0, 0, []),
  (42, .iaload, 0, 0, []),
  (43, .aload_n 0, 0, 0, []),
  (44, .getfield 38, 0, 0, []),
  (47, .getfield 128, 0, 0, []),
  (50, .iload_n 2, 0, 0, []),
  (51, .iaload, 0, 0, []),
  (52, .aload_n 0, 0, 0, []),
  (53, .getfield 38, 0, 0, []),
  (56, .getfield 128, 0, 0, []),
  (59, .iconst 5, 5, 0, []),
  (60, .iaload, 0, 0, []),
  (61, .iload_n 3, 0, 0, []),
  (62, .invokevirtual 218, 0, 0, []),
  (65, .ireturn, 0, 0, [])]
set_option maxRecDepth 20000 in
theorem ckX8_together : eX8_together.all (a_eok cX8_together) = true := b_code [42,27,182,0,168,42,28,182,0,168,42,29,182,0,151,27,28,160,0,13,187,0,85,89,18,216,183,0,89,191,42,180,0,57,42,180,0,38,180,0,128,27,46,42,180,0,38,180,0,128,28,46,42,180,0,38,180,0,128,8,46,29,182,0,218,172] [] (by decide +kernel) (by decide +kernel) (by decide +kernel) (by decide +kernel)
noncomputable def pX8_together : aPrg := (eX8_together,
  fdX8, [(168, fX8_needReader, 2, 8, 1), (151, fX8_needBook, 2, 8, 1), (218, fX2_fewestMoves, 5, 2, 0)], [], [], [(20, 1)], 0, [])
noncomputable def fX8_together : aMF := a_fn none shp pX8_together 4 4
theorem tkX8_together_20 {l : Launch} {G : aG} (hZ : a_Z l G) : a_tok G RX8 cX8_together 7 150 20 1 :=
  a_tok_s (own := RX8) (cc := cX8_together) (ik := 85) (is := 216) (ic := 89) (ix := 7) (rx := prog_16_method_2_code) (sa := g_ad G 1019) (text := "a friend is another reader") rxX1 (by decide) ⟨by decide +kernel, by decide +kernel⟩ ⟨by decide +kernel, by decide +kernel, by decide +kernel⟩ clX1 inX1 (z_19 hZ) atX1 rfl rfl
set_option maxRecDepth 20000 in
theorem wkX2_fewestMoves : ∀ w ∈ [Cond.code yX2_fewestMoves cX2_fewestMoves 11 (some .int), .initialized yX2_fewestMoves.cls, .instanceMethod yX2_fewestMoves, .selects yX2_fewestMoves.cls yX2_fewestMoves yX2_fewestMoves], w ∈ lw_g := a_ps [996, 103, 994, 995] rfl rfl
theorem hdX2_fewestMoves : yX2_fewestMoves.cls ≠ "java/lang/invoke/MethodHandle" ∧ yX2_fewestMoves.cls ≠ "java/lang/invoke/VarHandle" ∧ (parseMethodDescriptor yX2_fewestMoves.desc).map (fun d => d.parameters.length) = some 4 := by decide +kernel
set_option maxRecDepth 20000 in
theorem lkX8_218 : Cond.methodLink RX8 218 yX2_fewestMoves ∈ lw_g := a_p1 993 rfl rfl
set_option maxRecDepth 20000 in
theorem kX8_together {l : Launch} {G : aG} (hZ : a_Z l G) : a_Con l G shp yX8_together (.code yX8_together cX8_together 4 (some .int)) 7 150 fX8_together :=
  a_mth none hZ.1 hZ.2.1 shp_len (fun _ h => nomatch h) hZ.2.2.1 (by decide +kernel) rfl (foX8 rfl) (a_cok_of trivial) ckX8_together rfl rfl (⟨tkX8_together_20 hZ, trivial⟩) (⟨a_CQ_v hZ.2.1 (kX8_needReader hZ) lkX8_168 (a_CF_v TX8 15 wkX8_needReader lkX8_168 hdX8_needReader ⟨by decide, by decide⟩ rfl) rfl rfl,
    ⟨a_CQ_v hZ.2.1 (kX8_needBook hZ) lkX8_151 (a_CF_v TX8 15 wkX8_needBook lkX8_151 hdX8_needBook ⟨by decide, by decide⟩ rfl) rfl rfl,
    ⟨a_CQ_v hZ.2.1 (kX2_fewestMoves hZ) lkX8_218 (a_CF_v TX2 5 wkX2_fewestMoves lkX8_218 hdX2_fewestMoves ⟨by decide, by decide⟩ rfl) rfl rfl,
    trivial⟩⟩⟩)
def eX8_week : List (Nat × aEnt) := [(0, .aload_n 0, 0, 0, []),
  (1, .getfield 50, 0, 0, []),
  (4, .aload_n 0, 0, 0, []),
  (5, .getfield 38, 0, 0, []),
  (8, .getfield 128, 0, 0, []),
  (11, .invokevirtual 221, 0, 0, []),
  (14, .ireturn, 0, 0, [])]
set_option maxRecDepth 20000 in
theorem ckX8_week : eX8_week.all (a_eok cX8_week) = true := b_code [42,180,0,50,42,180,0,38,180,0,128,182,0,221,172] [] (by decide +kernel) (by decide +kernel) (by decide +kernel) (by decide +kernel)
noncomputable def pX8_week : aPrg := (eX8_week,
  fdX8, [(221, fX7_plan, 2, 7, 0)], [], [], [], 0, [])
noncomputable def fX8_week : aMF := a_fn none shp pX8_week 1 1
set_option maxRecDepth 20000 in
theorem wkX7_plan : ∀ w ∈ [Cond.code yX7_plan cX7_plan 2 (some .int), .initialized yX7_plan.cls, .instanceMethod yX7_plan, .selects yX7_plan.cls yX7_plan yX7_plan], w ∈ lw_g := a_ps [482, 102, 480, 481] rfl rfl
theorem hdX7_plan : yX7_plan.cls ≠ "java/lang/invoke/MethodHandle" ∧ yX7_plan.cls ≠ "java/lang/invoke/VarHandle" ∧ (parseMethodDescriptor yX7_plan.desc).map (fun d => d.parameters.length) = some 1 := by decide +kernel
set_option maxRecDepth 20000 in
theorem lkX8_221 : Cond.methodLink RX8 221 yX7_plan ∈ lw_g := a_p1 479 rfl rfl
set_option maxRecDepth 20000 in
theorem kX8_week {l : Launch} {G : aG} (hZ : a_Z l G) : a_Con l G shp yX8_week (.code yX8_week cX8_week 1 (some .int)) 26 927 fX8_week :=
  a_mth none hZ.1 hZ.2.1 shp_len (fun _ h => nomatch h) hZ.2.2.1 (by decide +kernel) rfl (foX8 rfl) (a_cok_of trivial) ckX8_week rfl rfl (trivial) (⟨a_CQ_v hZ.2.1 (kX7_plan hZ) lkX8_221 (a_CF_v TX7 9 wkX7_plan lkX8_221 hdX7_plan ⟨by decide, by decide⟩ rfl) rfl rfl,
    trivial⟩)
def eX8_row : List (Nat × aEnt) := [(0, .aload_n 0, 0, 0, []),
  (1, .getfield 50, 0, 0, []),
  (4, .getfield 115, 0, 0, []),
  (7, .iconst (-1), (-1), 0, []),
  (8, .if_icmp .ne 13, 0, 21, []),
  (11, .new 146, 0, 0, []),
  (21, .iload_n 1, 0, 0, []),
  (22, .iconst (-1), (-1), 0, []),
  (23, .if_icmp .ne 11, 0, 34, []),
  (26, .aload_n 0, 0, 0, []),
  (27, .getfield 50, 0, 0, []),
  (30, .getfield 115, 0, 0, []),
  (33, .ireturn, 0, 0, []),
  (34, .iload_n 2, 0, 0, []),
  (35, .iconst 3, 3, 0, []),
  (36, .invokestatic 154, 0, 0, []),
  (39, .iload_n 1, 0, 0, []),
  (40, .ifCond .lt 14, 0, 54, []),
  (43, .iload_n 1, 0, 0, []),
  (44, .aload_n 0, 0, 0, []),
  (45, .getfield 50, 0, 0, []),
  (48, .getfield 115, 0, 0, []),
  (51, .if_icmp .lt 13, 0, 64, []),
  (54, .new 146, 0, 0, []),
  (64, .aload_n 0, 0, 0, []),
  (65, .getfield 50, 0, 0, []),
  (68, .getfield 229, 0, 0, []),
  (71, .iconst 3, 3, 0, []),
  (72, .iload_n 1, 0, 0, []),
  (73, .imul, 0, 0, []),
  (74, .iload_n 2, 0, 0, []),
  (75, .iadd, 0, 0, []),
  (76, .iaload, 0, 0, []),
  (77, .ireturn, 0, 0, [])]
set_option maxRecDepth 20000 in
theorem ckX8_row : eX8_row.all (a_eok cX8_row) = true := b_code [42,180,0,50,180,0,115,2,160,0,13,187,0,146,89,18,225,183,0,150,191,27,2,160,0,11,42,180,0,50,180,0,115,172,28,6,184,0,154,27,155,0,14,27,42,180,0,50,180,0,115,161,0,13,187,0,146,89,18,227,183,0,150,191,42,180,0,50,180,0,229,6,27,104,28,96,46,172] [] (by decide +kernel) (by decide +kernel) (by decide +kernel) (by decide +kernel)
noncomputable def pX8_row : aPrg := (eX8_row,
  fdX8, [(154, fX8_needWhat, 2, 2000, 1)], [], [], [(11, 0), (54, 0)], 0, [(54, [0, 1, 2])])
noncomputable def fX8_row : aMF := a_fn none shp pX8_row 3 3
theorem tkX8_row_11 {l : Launch} {G : aG} (hZ : a_Z l G) : a_tok G RX8 cX8_row 7 111 11 0 :=
  a_tok_s (own := RX8) (cc := cX8_row) (ik := 146) (is := 225) (ic := 150) (ix := 13) (rx := prog_28_method_4_code) (sa := g_ad G 1020) (text := "no row is kept") rxX0 (by decide) ⟨by decide +kernel, by decide +kernel⟩ ⟨by decide +kernel, by decide +kernel, by decide +kernel⟩ clX0 inX0 (z_20 hZ) atX0 rfl rfl
theorem tkX8_row_54 {l : Launch} {G : aG} (hZ : a_Z l G) : a_tok G RX8 cX8_row 7 111 54 0 :=
  a_tok_s (own := RX8) (cc := cX8_row) (ik := 146) (is := 227) (ic := 150) (ix := 13) (rx := prog_28_method_4_code) (sa := g_ad G 1021) (text := "no such exchange in the row") rxX0 (by decide) ⟨by decide +kernel, by decide +kernel⟩ ⟨by decide +kernel, by decide +kernel, by decide +kernel⟩ clX0 inX0 (z_21 hZ) atX0 rfl rfl
set_option maxRecDepth 20000 in
theorem kX8_row {l : Launch} {G : aG} (hZ : a_Z l G) : a_Con l G shp yX8_row (.code yX8_row cX8_row 3 (some .int)) 7 111 fX8_row :=
  a_mth none hZ.1 hZ.2.1 shp_len (fun _ h => nomatch h) hZ.2.2.1 (by decide +kernel) rfl (foX8 rfl) (a_cok_of trivial) ckX8_row rfl rfl (⟨tkX8_row_11 hZ, ⟨tkX8_row_54 hZ, trivial⟩⟩) (⟨a_CQ_s hZ.2.1 (kX8_needWhat hZ) lkX8_154 (a_CF_s wkX8_needWhat lkX8_154 hdX8_needWhat) rfl rfl,
    trivial⟩)
def eX8_isLost : List (Nat × aEnt) := [(0, .aload_n 0, 0, 0, []),
  (1, .getfield 38, 0, 0, []),
  (4, .getfield 128, 0, 0, []),
  (7, .iconst 5, 5, 0, []),
  (8, .iaload, 0, 0, []),
  (9, .iload_n 1, 0, 0, []),
  (10, .invokestatic 212, 0, 0, []),
  (13, .ifCond .ne 5, 0, 18, []),
  (16, .iconst 0, 0, 0, []),
  (17, .ireturn, 0, 0, []),
  (18, .iconst 0, 0, 0, []),
  (19, .istore_n 2, 0, 0, []),
  (20, .iload_n 2, 0, 0, []),
  (21, .aload_n 0, 0, 0, []),
  (22, .getfield 23, 0, 0, []),
  (25, .getfield 125, 0, 0, []),
  (28, .if_icmp .ge 34, 0, 62, []),
  (31, .aload_n 0, 0, 0, []),
  (32, .getfield 23, 0, 0, []),
  (35, .aload_n 0, 0, 0, []),
  (36, .getfield 38, 0, 0, []),
  (39, .getfield 128, 0, 0, []),
  (42, .iload_n 2, 0, 0, []),
  (43, .iaload, 0, 0, []),
  (44, .invokevirtual 261, 0, 0, []),
  (47, .iload_n 1, 0, 0, []),
  (48, .invokestatic 212, 0, 0, []),
  (51, .ifCond .eq 5, 0, 56, []),
  (54, .iconst 0, 0, 0, []),
  (55, .ireturn, 0, 0, []),
  (56, .iinc 2 1, 1, 0, []),
  (59, .goto (-39), 0, 20, []),
  (62, .iconst 1, 1, 0, []),
  (63, .ireturn, 0, 0, [])]
set_option maxRecDepth 20000 in
theorem ckX8_isLost : eX8_isLost.all (a_eok cX8_isLost) = true := b_code [42,180,0,38,180,0,128,8,46,27,184,0,212,154,0,5,3,172,3,61,28,42,180,0,23,180,0,125,162,0,34,42,180,0,23,42,180,0,38,180,0,128,28,46,182,1,5,27,184,0,212,153,0,5,3,172,132,2,1,167,255,217,4,172] [] (by decide +kernel) (by decide +kernel) (by decide +kernel) (by decide +kernel)
noncomputable def pX8_isLost : aPrg := (eX8_isLost,
  fdX8, [(212, fX8_holds, 2, 2000, 0), (261, fX6_takeableFor, 2, 6, 0)], [], [], [], 1, [])
noncomputable def fX8_isLost : aMF := a_fn none shp pX8_isLost 3 2
set_option maxRecDepth 20000 in
theorem kX8_isLost {l : Launch} {G : aG} (hZ : a_Z l G) : a_Con l G shp yX8_isLost (.code yX8_isLost cX8_isLost 3 (some .boolean)) 3 60 fX8_isLost :=
  a_mth none hZ.1 hZ.2.1 shp_len (fun _ h => nomatch h) hZ.2.2.1 (by decide +kernel) rfl (foX8 rfl) (a_cok_of trivial) ckX8_isLost rfl rfl (trivial) (⟨a_CQ_s hZ.2.1 (kX8_holds hZ) lkX8_212 (a_CF_s wkX8_holds lkX8_212 hdX8_holds) rfl rfl,
    ⟨a_CQ_v hZ.2.1 (kX6_takeableFor hZ) lkX8_261 (a_CF_v TX6 9 wkX6_takeableFor lkX8_261 hdX6_takeableFor ⟨by decide, by decide⟩ rfl) rfl rfl,
    trivial⟩⟩)
def eX8_freedBy : List (Nat × aEnt) := [(0, .iconst 0, 0, 0, []),
  (1, .istore_n 3, 0, 0, []),
  (2, .iload_n 3, 0, 0, []),
  (3, .aload_n 0, 0, 0, []),
  (4, .getfield 23, 0, 0, []),
  (7, .getfield 122, 0, 0, []),
  (10, .if_icmp .ge 48, 0, 58, []),
  (13, .aload_n 0, 0, 0, []),
  (14, .getfield 38, 0, 0, []),
  (17, .getfield 128, 0, 0, []),
  (20, .iconst 5, 5, 0, []),
  (21, .iaload, 0, 0, []),
  (22, .iload_n 3, 0, 0, []),
  (23, .invokestatic 212, 0, 0, []),
  (26, .ifCond .ne 26, 0, 52, []),
  (29, .aload_n 0, 0, 0, []),
  (30, .getfield 23, 0, 0, []),
  (33, .iload_n 3, 0, 0, []),
  (34, .iload_n 2, 0, 0, []),
  (35, .invokevirtual 240, 0, 0, []),
  (38, .aload_n 0, 0, 0, []),
  (39, .getfield 23, 0, 0, []),
  (42, .getfield 161, 0, 0, []),
  (45, .iload_n 1, 0, 0, []),
  (46, .iaload, 0, 0, []),
  (47, .if_icmp .le 5, 0, 52, []),
  (50, .iload_n 3, 0, 0, []),
  (51, .ireturn, 0, 0, []),
  (52, .iinc 3 1, 1, 0, []),
  (55, .goto (-53), 0, 2, []),
  (58, .iconst (-1), (-1), 0, []),
  (59, .ireturn, 0, 0, [])]
set_option maxRecDepth 20000 in
theorem ckX8_freedBy : eX8_freedBy.all (a_eok cX8_freedBy) = true := b_code [3,62,29,42,180,0,23,180,0,122,162,0,48,42,180,0,38,180,0,128,8,46,29,184,0,212,154,0,26,42,180,0,23,29,28,182,0,240,42,180,0,23,180,0,161,27,46,164,0,5,29,172,132,3,1,167,255,203,2,172] [] (by decide +kernel) (by decide +kernel) (by decide +kernel) (by decide +kernel)
noncomputable def pX8_freedBy : aPrg := (eX8_freedBy,
  fdX8, [(212, fX8_holds, 2, 2000, 0), (240, fX6_pagesWithMore, 3, 6, 0)], [], [], [], 0, [])
noncomputable def fX8_freedBy : aMF := a_fn none shp pX8_freedBy 4 3
set_option maxRecDepth 20000 in
theorem lkX8_240 : Cond.methodLink RX8 240 yX6_pagesWithMore ∈ lw_g := a_p1 1041 rfl rfl
set_option maxRecDepth 20000 in
theorem kX8_freedBy {l : Launch} {G : aG} (hZ : a_Z l G) : a_Con l G shp yX8_freedBy (.code yX8_freedBy cX8_freedBy 4 (some .int)) 6 128 fX8_freedBy :=
  a_mth none hZ.1 hZ.2.1 shp_len (fun _ h => nomatch h) hZ.2.2.1 (by decide +kernel) rfl (foX8 rfl) (a_cok_of trivial) ckX8_freedBy rfl rfl (trivial) (⟨a_CQ_s hZ.2.1 (kX8_holds hZ) lkX8_212 (a_CF_s wkX8_holds lkX8_212 hdX8_holds) rfl rfl,
    ⟨a_CQ_v hZ.2.1 (kX6_pagesWithMore hZ) lkX8_240 (a_CF_v TX6 9 wkX6_pagesWithMore lkX8_240 hdX6_pagesWithMore ⟨by decide, by decide⟩ rfl) rfl rfl,
    trivial⟩⟩)
def eX8_lost : List (Nat × aEnt) := [(0, .aload_n 0, 0, 0, []),
  (1, .iload_n 1, 0, 0, []),
  (2, .invokevirtual 151, 0, 0, []),
  (5, .iload_n 2, 0, 0, []),
  (6, .iconst 2, 2, 0, []),
  (7, .invokestatic 154, 0, 0, []),
  (10, .aload_n 0, 0, 0, []),
  (11, .iload_n 1, 0, 0, []),
  (12, .invokevirtual 231, 0, 0, []),
  (15, .ifCond .ne 13, 0, 28, []),
  (18, .iload_n 2, 0, 0, []),
  (19, .ifCond .ne 7, 0, 26, []),
  (22, .iconst 0, 0, 0, []),
  (23, .goto 4, 0, 27, []),
  (26, .iconst (-1), (-1), 0, []),
  (27, .ireturn, 0, 0, []),
  (28, .iconst 1, 1, 0, []),
  (29, .istore_n 3, 0, 0, []),
  (30, .iload_n 3, 0, 0, []),
  (31, .bipush 99, 99, 0, []),
  (33, .if_icmp .gt 34, 0, 67, []),
  (36, .aload_n 0, 0, 0, []),
  (37, .iload_n 1, 0, 0, []),
  (38, .iload_n 3, 0, 0, []),
  (39, .invokevirtual 234, 0, 0, []),
  (42, .istore 4, 0, 0, []),
  (44, .iload 4, 0, 0, []),
  (46, .iconst (-1), (-1), 0, []),
  (47, .if_icmp .eq 14, 0, 61, []),
  (50, .iload_n 2, 0, 0, []),
  (51, .ifCond .ne 7, 0, 58, []),
  (54, .iload_n 3, 0, 0, []),
  (55, .goto 5, 0, 60, []),
  (58, .iload 4, 0, 0, []),
  (60, .ireturn, 0, 0, []),
  (61, .iinc 3 1, 1, 0, []),
  (64, .goto (-34), 0, 30, []),
  (67, .iconst (-1), (-1), 0, []),
  (68, .ireturn, 0, 0, [])]
set_option maxRecDepth 20000 in
theorem ckX8_lost : eX8_lost.all (a_eok cX8_lost) = true := b_code [42,27,182,0,151,28,5,184,0,154,42,27,182,0,231,154,0,13,28,154,0,7,3,167,0,4,2,172,4,62,29,16,99,163,0,34,42,27,29,182,0,234,54,4,21,4,2,159,0,14,28,154,0,7,29,167,0,5,21,4,172,132,3,1,167,255,222,2,172] [] (by decide +kernel) (by decide +kernel) (by decide +kernel) (by decide +kernel)
noncomputable def pX8_lost : aPrg := (eX8_lost,
  fdX8, [(151, fX8_needBook, 2, 8, 1), (154, fX8_needWhat, 2, 2000, 1), (231, fX8_isLost, 2, 8, 0), (234, fX8_freedBy, 3, 8, 0)], [], [], [], 0, [(27, [0, 1, 2, 3, 4]), (30, [4]), (60, [0, 1, 2, 3, 4])])
noncomputable def fX8_lost : aMF := a_fn none shp pX8_lost 5 3
set_option maxRecDepth 20000 in
theorem wkX8_isLost : ∀ w ∈ [Cond.code yX8_isLost cX8_isLost 3 (some .boolean), .initialized yX8_isLost.cls, .instanceMethod yX8_isLost, .selects yX8_isLost.cls yX8_isLost yX8_isLost], w ∈ lw_g := a_ps [1036, 96, 1035, 45] rfl rfl
theorem hdX8_isLost : yX8_isLost.cls ≠ "java/lang/invoke/MethodHandle" ∧ yX8_isLost.cls ≠ "java/lang/invoke/VarHandle" ∧ (parseMethodDescriptor yX8_isLost.desc).map (fun d => d.parameters.length) = some 1 := by decide +kernel
set_option maxRecDepth 20000 in
theorem lkX8_231 : Cond.methodLink RX8 231 yX8_isLost ∈ lw_g := a_p1 1033 rfl rfl
set_option maxRecDepth 20000 in
theorem wkX8_freedBy : ∀ w ∈ [Cond.code yX8_freedBy cX8_freedBy 4 (some .int), .initialized yX8_freedBy.cls, .instanceMethod yX8_freedBy, .selects yX8_freedBy.cls yX8_freedBy yX8_freedBy], w ∈ lw_g := a_ps [1040, 96, 1039, 46] rfl rfl
theorem hdX8_freedBy : yX8_freedBy.cls ≠ "java/lang/invoke/MethodHandle" ∧ yX8_freedBy.cls ≠ "java/lang/invoke/VarHandle" ∧ (parseMethodDescriptor yX8_freedBy.desc).map (fun d => d.parameters.length) = some 2 := by decide +kernel
set_option maxRecDepth 20000 in
theorem lkX8_234 : Cond.methodLink RX8 234 yX8_freedBy ∈ lw_g := a_p1 1037 rfl rfl
set_option maxRecDepth 20000 in
theorem kX8_lost {l : Launch} {G : aG} (hZ : a_Z l G) : a_Con l G shp yX8_lost (.code yX8_lost cX8_lost 5 (some .int)) 7 151 fX8_lost :=
  a_mth none hZ.1 hZ.2.1 shp_len (fun _ h => nomatch h) hZ.2.2.1 (by decide +kernel) rfl (foX8 rfl) (a_cok_of trivial) ckX8_lost rfl rfl (trivial) (⟨a_CQ_v hZ.2.1 (kX8_needBook hZ) lkX8_151 (a_CF_v TX8 15 wkX8_needBook lkX8_151 hdX8_needBook ⟨by decide, by decide⟩ rfl) rfl rfl,
    ⟨a_CQ_s hZ.2.1 (kX8_needWhat hZ) lkX8_154 (a_CF_s wkX8_needWhat lkX8_154 hdX8_needWhat) rfl rfl,
    ⟨a_CQ_v hZ.2.1 (kX8_isLost hZ) lkX8_231 (a_CF_v TX8 15 wkX8_isLost lkX8_231 hdX8_isLost ⟨by decide, by decide⟩ rfl) rfl rfl,
    ⟨a_CQ_v hZ.2.1 (kX8_freedBy hZ) lkX8_234 (a_CF_v TX8 15 wkX8_freedBy lkX8_234 hdX8_freedBy ⟨by decide, by decide⟩ rfl) rfl rfl,
    trivial⟩⟩⟩⟩)
def eX8_reachIf : List (Nat × aEnt) := [(0, .aload_n 0, 0, 0, []),
  (1, .getfield 23, 0, 0, []),
  (4, .iload_n 1, 0, 0, []),
  (5, .iconst 1, 1, 0, []),
  (6, .iload_n 2, 0, 0, []),
  (7, .ishl, 0, 0, []),
  (8, .iconst (-1), (-1), 0, []),
  (9, .ixor, 0, 0, []),
  (10, .iand, 0, 0, []),
  (11, .invokevirtual 261, 0, 0, []),
  (14, .aload_n 0, 0, 0, []),
  (15, .getfield 23, 0, 0, []),
  (18, .iload_n 3, 0, 0, []),
  (19, .invokevirtual 304, 0, 0, []),
  (22, .ior, 0, 0, []),
  (23, .istore 4, 0, 0, []),
  (25, .iload_n 1, 0, 0, []),
  (26, .iload 4, 0, 0, []),
  (28, .aload_n 0, 0, 0, []),
  (29, .getfield 38, 0, 0, []),
  (32, .getfield 128, 0, 0, []),
  (35, .iconst 5, 5, 0, []),
  (36, .iaload, 0, 0, []),
  (37, .iand, 0, 0, []),
  (38, .ior, 0, 0, []),
  (39, .ireturn, 0, 0, [])]
set_option maxRecDepth 20000 in
theorem ckX8_reachIf : eX8_reachIf.all (a_eok cX8_reachIf) = true := b_code [42,180,0,23,27,4,28,120,2,130,126,182,1,5,42,180,0,23,29,182,1,48,128,54,4,27,21,4,42,180,0,38,180,0,128,8,46,126,128,172] [] (by decide +kernel) (by decide +kernel) (by decide +kernel) (by decide +kernel)
noncomputable def pX8_reachIf : aPrg := (eX8_reachIf,
  fdX8, [(261, fX6_takeableFor, 2, 6, 0), (304, fX6_booksUnder, 2, 6, 0)], [], [], [], 0, [])
noncomputable def fX8_reachIf : aMF := a_fn none shp pX8_reachIf 5 4
set_option maxRecDepth 20000 in
theorem lkX8_304 : Cond.methodLink RX8 304 yX6_booksUnder ∈ lw_g := a_p1 1054 rfl rfl
set_option maxRecDepth 20000 in
theorem kX8_reachIf {l : Launch} {G : aG} (hZ : a_Z l G) : a_Con l G shp yX8_reachIf (.code yX8_reachIf cX8_reachIf 5 (some .int)) 3 60 fX8_reachIf :=
  a_mth none hZ.1 hZ.2.1 shp_len (fun _ h => nomatch h) hZ.2.2.1 (by decide +kernel) rfl (foX8 rfl) (a_cok_of trivial) ckX8_reachIf rfl rfl (trivial) (⟨a_CQ_v hZ.2.1 (kX6_takeableFor hZ) lkX8_261 (a_CF_v TX6 9 wkX6_takeableFor lkX8_261 hdX6_takeableFor ⟨by decide, by decide⟩ rfl) rfl rfl,
    ⟨a_CQ_v hZ.2.1 (kX6_booksUnder hZ) lkX8_304 (a_CF_v TX6 9 wkX6_booksUnder lkX8_304 hdX6_booksUnder ⟨by decide, by decide⟩ rfl) rfl rfl,
    trivial⟩⟩)
def eX8_worth : List (Nat × aEnt) := [(0, .aload_n 0, 0, 0, []),
  (1, .iload_n 1, 0, 0, []),
  (2, .invokevirtual 151, 0, 0, []),
  (5, .aload_n 0, 0, 0, []),
  (6, .getfield 38, 0, 0, []),
  (9, .getfield 128, 0, 0, []),
  (12, .iload_n 1, 0, 0, []),
  (13, .invokestatic 164, 0, 0, []),
  (16, .istore_n 2, 0, 0, []),
  (17, .iload_n 2, 0, 0, []),
  (18, .ifCond .lt 8, 0, 26, []),
  (21, .iload_n 2, 0, 0, []),
  (22, .iconst 5, 5, 0, []),
  (23, .if_icmp .lt 13, 0, 36, []),
  (26, .new 85, 0, 0, []),
  (36, .aload_n 0, 0, 0, []),
  (37, .getfield 38, 0, 0, []),
  (40, .getfield 128, 0, 0, []),
  (43, .iload_n 2, 0, 0, []),
  (44, .iaload, 0, 0, []),
  (45, .istore_n 3, 0, 0, []),
  (46, .aload_n 0, 0, 0, []),
  (47, .iload_n 3, 0, 0, []),
  (48, .iload_n 1, 0, 0, []),
  (49, .aload_n 0, 0, 0, []),
  (50, .getfield 23, 0, 0, []),
  (53, .iload_n 1, 0, 0, []),
  (54, .iconst 1, 1, 0, []),
  (55, .invokevirtual 240, 0, 0, []),
  (58, .invokevirtual 243, 0, 0, []),
  (61, .istore 4, 0, 0, []),
  (63, .iload 4, 0, 0, []),
  (65, .invokestatic 246, 0, 0, []),
  (68, .aload_n 0, 0, 0, []),
  (69, .iload_n 2, 0, 0, []),
  (70, .invokevirtual 209, 0, 0, []),
  (73, .invokestatic 246, 0, 0, []),
  (76, .isub, 0, 0, []),
  (77, .ireturn, 0, 0, [])]
set_option maxRecDepth 20000 in
theorem ckX8_worth : eX8_worth.all (a_eok cX8_worth) = true := b_code [42,27,182,0,151,42,180,0,38,180,0,128,27,184,0,164,61,28,155,0,8,28,8,161,0,13,187,0,85,89,18,238,183,0,89,191,42,180,0,38,180,0,128,28,46,62,42,29,27,42,180,0,23,27,4,182,0,240,182,0,243,54,4,21,4,184,0,246,42,28,182,0,209,184,0,246,100,172] [] (by decide +kernel) (by decide +kernel) (by decide +kernel) (by decide +kernel)
noncomputable def pX8_worth : aPrg := (eX8_worth,
  fdX8, [(151, fX8_needBook, 2, 8, 1), (164, fX8_placeOf, 2, 2000, 0), (240, fX6_pagesWithMore, 3, 6, 0), (243, fX8_reachIf, 4, 8, 0), (246, fJ6_bitCount_0f7a4, 1, 2000, 0), (209, fX8_reachNow, 2, 8, 0)], [], [], [(26, 1)], 0, [(26, [0, 1, 2, 3, 4])])
noncomputable def fX8_worth : aMF := a_fn none shp pX8_worth 5 2
theorem tkX8_worth_26 {l : Launch} {G : aG} (hZ : a_Z l G) : a_tok G RX8 cX8_worth 7 128 26 1 :=
  a_tok_s (own := RX8) (cc := cX8_worth) (ik := 85) (is := 238) (ic := 89) (ix := 7) (rx := prog_16_method_2_code) (sa := g_ad G 1022) (text := "no reader has the book") rxX1 (by decide) ⟨by decide +kernel, by decide +kernel⟩ ⟨by decide +kernel, by decide +kernel, by decide +kernel⟩ clX1 inX1 (z_22 hZ) atX1 rfl rfl
set_option maxRecDepth 20000 in
theorem wkX8_reachIf : ∀ w ∈ [Cond.code yX8_reachIf cX8_reachIf 5 (some .int), .initialized yX8_reachIf.cls, .instanceMethod yX8_reachIf, .selects yX8_reachIf.cls yX8_reachIf yX8_reachIf], w ∈ lw_g := a_ps [1053, 96, 1052, 47] rfl rfl
theorem hdX8_reachIf : yX8_reachIf.cls ≠ "java/lang/invoke/MethodHandle" ∧ yX8_reachIf.cls ≠ "java/lang/invoke/VarHandle" ∧ (parseMethodDescriptor yX8_reachIf.desc).map (fun d => d.parameters.length) = some 3 := by decide +kernel
set_option maxRecDepth 20000 in
theorem lkX8_243 : Cond.methodLink RX8 243 yX8_reachIf ∈ lw_g := a_p1 1050 rfl rfl
set_option maxRecDepth 20000 in
theorem lkX8_246 : Cond.methodLink RX8 246 yJ6_bitCount_0f7a4 ∈ lw_g := a_p1 1055 rfl rfl
set_option maxRecDepth 20000 in
theorem kX8_worth {l : Launch} {G : aG} (hZ : a_Z l G) : a_Con l G shp yX8_worth (.code yX8_worth cX8_worth 5 (some .int)) 7 128 fX8_worth :=
  a_mth none hZ.1 hZ.2.1 shp_len (fun _ h => nomatch h) hZ.2.2.1 (by decide +kernel) rfl (foX8 rfl) (a_cok_of trivial) ckX8_worth rfl rfl (⟨tkX8_worth_26 hZ, trivial⟩) (⟨a_CQ_v hZ.2.1 (kX8_needBook hZ) lkX8_151 (a_CF_v TX8 15 wkX8_needBook lkX8_151 hdX8_needBook ⟨by decide, by decide⟩ rfl) rfl rfl,
    ⟨a_CQ_s hZ.2.1 (kX8_placeOf hZ) lkX8_164 (a_CF_s wkX8_placeOf lkX8_164 hdX8_placeOf) rfl rfl,
    ⟨a_CQ_v hZ.2.1 (kX6_pagesWithMore hZ) lkX8_240 (a_CF_v TX6 9 wkX6_pagesWithMore lkX8_240 hdX6_pagesWithMore ⟨by decide, by decide⟩ rfl) rfl rfl,
    ⟨a_CQ_v hZ.2.1 (kX8_reachIf hZ) lkX8_243 (a_CF_v TX8 15 wkX8_reachIf lkX8_243 hdX8_reachIf ⟨by decide, by decide⟩ rfl) rfl rfl,
    ⟨a_CQ_s hZ.2.1 (kJ6_bitCount_0f7a4 hZ) lkX8_246 (a_CF_s wkJ6_bitCount_0f7a4 lkX8_246 hdJ6_bitCount_0f7a4) rfl rfl,
    ⟨a_CQ_v hZ.2.1 (kX8_reachNow hZ) lkX8_209 (a_CF_v TX8 15 wkX8_reachNow lkX8_209 hdX8_reachNow ⟨by decide, by decide⟩ rfl) rfl rfl,
    trivial⟩⟩⟩⟩⟩⟩)
def eX8_bindingPays : List (Nat × aEnt) := [(0, .aload_n 0, 0, 0, []),
  (1, .getfield 38, 0, 0, []),
  (4, .getfield 128, 0, 0, []),
  (7, .iload_n 1, 0, 0, []),
  (8, .iaload, 0, 0, []),
  (9, .iconst 1, 1, 0, []),
  (10, .iload_n 3, 0, 0, []),
  (11, .ishl, 0, 0, []),
  (12, .iconst (-1), (-1), 0, []),
  (13, .ixor, 0, 0, []),
  (14, .iand, 0, 0, []),
  (15, .istore 4, 0, 0, []),
  (17, .aload_n 0, 0, 0, []),
  (18, .iload 4, 0, 0, []),
  (20, .iload_n 2, 0, 0, []),
  (21, .aload_n 0, 0, 0, []),
  (22, .getfield 23, 0, 0, []),
  (25, .iload_n 2, 0, 0, []),
  (26, .iload_n 3, 0, 0, []),
  (27, .invokevirtual 307, 0, 0, []),
  (30, .invokevirtual 243, 0, 0, []),
  (33, .istore 5, 0, 0, []),
  (35, .iload 5, 0, 0, []),
  (37, .invokestatic 246, 0, 0, []),
  (40, .aload_n 0, 0, 0, []),
  (41, .iload_n 1, 0, 0, []),
  (42, .invokevirtual 209, 0, 0, []),
  (45, .invokestatic 246, 0, 0, []),
  (48, .isub, 0, 0, []),
  (49, .iconst 1, 1, 0, []),
  (50, .iadd, 0, 0, []),
  (51, .ireturn, 0, 0, [])]
set_option maxRecDepth 20000 in
theorem ckX8_bindingPays : eX8_bindingPays.all (a_eok cX8_bindingPays) = true := b_code [42,180,0,38,180,0,128,27,46,4,29,120,2,130,126,54,4,42,21,4,28,42,180,0,23,28,29,182,1,51,182,0,243,54,5,21,5,184,0,246,42,27,182,0,209,184,0,246,100,4,96,172] [] (by decide +kernel) (by decide +kernel) (by decide +kernel) (by decide +kernel)
noncomputable def pX8_bindingPays : aPrg := (eX8_bindingPays,
  fdX8, [(307, fX6_pagesBound, 3, 6, 0), (243, fX8_reachIf, 4, 8, 0), (246, fJ6_bitCount_0f7a4, 1, 2000, 0), (209, fX8_reachNow, 2, 8, 0)], [], [], [], 0, [])
noncomputable def fX8_bindingPays : aMF := a_fn none shp pX8_bindingPays 6 4
set_option maxRecDepth 20000 in
theorem wkX6_pagesBound : ∀ w ∈ [Cond.code yX6_pagesBound cX6_pagesBound 5 (some .int), .initialized yX6_pagesBound.cls, .instanceMethod yX6_pagesBound, .selects yX6_pagesBound.cls yX6_pagesBound yX6_pagesBound], w ∈ lw_g := a_ps [1070, 98, 1068, 1069] rfl rfl
theorem hdX6_pagesBound : yX6_pagesBound.cls ≠ "java/lang/invoke/MethodHandle" ∧ yX6_pagesBound.cls ≠ "java/lang/invoke/VarHandle" ∧ (parseMethodDescriptor yX6_pagesBound.desc).map (fun d => d.parameters.length) = some 2 := by decide +kernel
set_option maxRecDepth 20000 in
theorem lkX8_307 : Cond.methodLink RX8 307 yX6_pagesBound ∈ lw_g := a_p1 1067 rfl rfl
set_option maxRecDepth 20000 in
theorem kX8_bindingPays {l : Launch} {G : aG} (hZ : a_Z l G) : a_Con l G shp yX8_bindingPays (.code yX8_bindingPays cX8_bindingPays 6 (some .int)) 6 129 fX8_bindingPays :=
  a_mth none hZ.1 hZ.2.1 shp_len (fun _ h => nomatch h) hZ.2.2.1 (by decide +kernel) rfl (foX8 rfl) (a_cok_of trivial) ckX8_bindingPays rfl rfl (trivial) (⟨a_CQ_v hZ.2.1 (kX6_pagesBound hZ) lkX8_307 (a_CF_v TX6 9 wkX6_pagesBound lkX8_307 hdX6_pagesBound ⟨by decide, by decide⟩ rfl) rfl rfl,
    ⟨a_CQ_v hZ.2.1 (kX8_reachIf hZ) lkX8_243 (a_CF_v TX8 15 wkX8_reachIf lkX8_243 hdX8_reachIf ⟨by decide, by decide⟩ rfl) rfl rfl,
    ⟨a_CQ_s hZ.2.1 (kJ6_bitCount_0f7a4 hZ) lkX8_246 (a_CF_s wkJ6_bitCount_0f7a4 lkX8_246 hdJ6_bitCount_0f7a4) rfl rfl,
    ⟨a_CQ_v hZ.2.1 (kX8_reachNow hZ) lkX8_209 (a_CF_v TX8 15 wkX8_reachNow lkX8_209 hdX8_reachNow ⟨by decide, by decide⟩ rfl) rfl rfl,
    trivial⟩⟩⟩⟩)
def eX8_bind : List (Nat × aEnt) := [(0, .aload_n 0, 0, 0, []),
  (1, .iload_n 1, 0, 0, []),
  (2, .invokevirtual 168, 0, 0, []),
  (5, .iload_n 2, 0, 0, []),
  (6, .iconst 2, 2, 0, []),
  (7, .invokestatic 154, 0, 0, []),
  (10, .iconst (-1), (-1), 0, []),
  (11, .istore_n 3, 0, 0, []),
  (12, .iconst 0, 0, 0, []),
  (13, .istore 4, 0, 0, []),
  (15, .iconst 0, 0, 0, []),
  (16, .istore 5, 0, 0, []),
  (18, .iload 5, 0, 0, []),
  (20, .aload_n 0, 0, 0, []),
  (21, .getfield 23, 0, 0, []),
  (24, .getfield 122, 0, 0, []),
  (27, .if_icmp .ge 103, 0, 130, []),
  (30, .iload 5, 0, 0, []),
  (32, .iconst 1, 1, 0, []),
  (33, .iadd, 0, 0, []),
  (34, .istore 6, 0, 0, []),
  (36, .iload 6, 0, 0, []),
  (38, .aload_n 0, 0, 0, []),
  (39, .getfield 23, 0, 0, []),
  (42, .getfield 122, 0, 0, []),
  (45, .if_icmp .ge 79, 0, 124, []),
  (48, .aload_n 0, 0, 0, []),
  (49, .getfield 38, 0, 0, []),
  (52, .getfield 128, 0, 0, []),
  (55, .iload_n 1, 0, 0, []),
  (56, .iaload, 0, 0, []),
  (57, .iload 5, 0, 0, []),
  (59, .invokestatic 212, 0, 0, []),
  (62, .ifCond .eq 56, 0, 118, []),
  (65, .aload_n 0, 0, 0, []),
  (66, .getfield 38, 0, 0, []),
  (69, .getfield 128, 0, 0, []),
  (72, .iload_n 1, 0, 0, []),
  (73, .iaload, 0, 0, []),
  (74, .iload 6, 0, 0, []),
  (76, .invokestatic 212, 0, 0, []),
  (79, .ifCond .eq 39, 0, 118, []),
  (82, .aload_n 0, 0, 0, []),
  (83, .iload_n 1, 0, 0, []),
  (84, .iload 5, 0, 0, []),
  (86, .iload 6, 0, 0, []),
  (88, .invokevirtual 251, 0, 0, []),
  (91, .istore 7, 0, 0, []),
  (93, .iload_n 3, 0, 0, []),
  (94, .iconst (-1), (-1), 0, []),
  (95, .if_icmp .eq 10, 0, 105, []),
  (98, .iload 7, 0, 0, []),
  (100, .iload 4, 0, 0, []),
  (102, .if_icmp .le 16, 0, 118, []),
  (105, .bipush 16, 16, 0, []),
  (107, .iload 5, 0, 0, []),
  (109, .imul, 0, 0, []),
  (110, .iload 6, 0, 0, []),
  (112, .iadd, 0, 0, []),
  (113, .istore_n 3, 0, 0, []),
  (114, .iload 7, 0, 0, []),
  (116, .istore 4, 0, 0, []),
  (118, .iinc 6 1, 1, 0, []),
  (121, .goto (-85), 0, 36, []),
  (124, .iinc 5 1, 1, 0, []),
  (127, .goto (-109), 0, 18, []),
  (130, .iload_n 2, 0, 0, []),
  (131, .ifCond .ne 7, 0, 138, []),
  (134, .iload_n 3, 0, 0, []),
  (135, .goto 5, 0, 140, []),
  (138, .iload 4, 0, 0, []),
  (140, .ireturn, 0, 0, [])]
set_option maxRecDepth 20000 in
theorem ckX8_bind : eX8_bind.all (a_eok cX8_bind) = true := b_code [42,27,182,0,168,28,5,184,0,154,2,62,3,54,4,3,54,5,21,5,42,180,0,23,180,0,122,162,0,103,21,5,4,96,54,6,21,6,42,180,0,23,180,0,122,162,0,79,42,180,0,38,180,0,128,27,46,21,5,184,0,212,153,0,56,42,180,0,38,180,0,128,27,46,21,6,184,0,212,153,0,39,42,27,21,5,21,6,182,0,251,54,7,29,2,159,0,10,21,7,21,4,164,0,16,16,16,21,5,104,21,6,96,62,21,7,54,4,132,6,1,167,255,171,132,5,1,167,255,147,28,154,0,7,29,167,0,5,21,4,172] [] (by decide +kernel) (by decide +kernel) (by decide +kernel) (by decide +kernel)
noncomputable def pX8_bind : aPrg := (eX8_bind,
  fdX8, [(168, fX8_needReader, 2, 8, 1), (154, fX8_needWhat, 2, 2000, 1), (212, fX8_holds, 2, 2000, 0), (251, fX8_bindingPays, 4, 8, 0)], [], [], [], 0, [(18, [6, 7]), (36, [7]), (105, [3, 4]), (118, [7]), (140, [0, 1, 2, 3, 4, 5, 6, 7])])
noncomputable def fX8_bind : aMF := a_fn none shp pX8_bind 8 3
set_option maxRecDepth 20000 in
theorem wkX8_bindingPays : ∀ w ∈ [Cond.code yX8_bindingPays cX8_bindingPays 6 (some .int), .initialized yX8_bindingPays.cls, .instanceMethod yX8_bindingPays, .selects yX8_bindingPays.cls yX8_bindingPays yX8_bindingPays], w ∈ lw_g := a_ps [1066, 96, 1065, 48] rfl rfl
theorem hdX8_bindingPays : yX8_bindingPays.cls ≠ "java/lang/invoke/MethodHandle" ∧ yX8_bindingPays.cls ≠ "java/lang/invoke/VarHandle" ∧ (parseMethodDescriptor yX8_bindingPays.desc).map (fun d => d.parameters.length) = some 3 := by decide +kernel
set_option maxRecDepth 20000 in
theorem lkX8_251 : Cond.methodLink RX8 251 yX8_bindingPays ∈ lw_g := a_p1 1063 rfl rfl
set_option maxRecDepth 20000 in
theorem kX8_bind {l : Launch} {G : aG} (hZ : a_Z l G) : a_Con l G shp yX8_bind (.code yX8_bind cX8_bind 8 (some .int)) 7 154 fX8_bind :=
  a_mth none hZ.1 hZ.2.1 shp_len (fun _ h => nomatch h) hZ.2.2.1 (by decide +kernel) rfl (foX8 rfl) (a_cok_of trivial) ckX8_bind rfl rfl (trivial) (⟨a_CQ_v hZ.2.1 (kX8_needReader hZ) lkX8_168 (a_CF_v TX8 15 wkX8_needReader lkX8_168 hdX8_needReader ⟨by decide, by decide⟩ rfl) rfl rfl,
    ⟨a_CQ_s hZ.2.1 (kX8_needWhat hZ) lkX8_154 (a_CF_s wkX8_needWhat lkX8_154 hdX8_needWhat) rfl rfl,
    ⟨a_CQ_s hZ.2.1 (kX8_holds hZ) lkX8_212 (a_CF_s wkX8_holds lkX8_212 hdX8_holds) rfl rfl,
    ⟨a_CQ_v hZ.2.1 (kX8_bindingPays hZ) lkX8_251 (a_CF_v TX8 15 wkX8_bindingPays lkX8_251 hdX8_bindingPays ⟨by decide, by decide⟩ rfl) rfl rfl,
    trivial⟩⟩⟩⟩)
def eX8_readersAbleWith : List (Nat × aEnt) := [(0, .iconst 0, 0, 0, []),
  (1, .istore_n 2, 0, 0, []),
  (2, .iconst 0, 0, 0, []),
  (3, .istore_n 3, 0, 0, []),
  (4, .iload_n 3, 0, 0, []),
  (5, .aload_n 0, 0, 0, []),
  (6, .getfield 23, 0, 0, []),
  (9, .getfield 125, 0, 0, []),
  (12, .if_icmp .ge 23, 0, 35, []),
  (15, .aload_n 0, 0, 0, []),
  (16, .getfield 70, 0, 0, []),
  (19, .iload_n 3, 0, 0, []),
  (20, .iaload, 0, 0, []),
  (21, .iload_n 1, 0, 0, []),
  (22, .iand, 0, 0, []),
  (23, .ifCond .eq 6, 0, 29, []),
  (26, .iinc 2 1, 1, 0, []),
  (29, .iinc 3 1, 1, 0, []),
  (32, .goto (-28), 0, 4, []),
  (35, .iload_n 2, 0, 0, []),
  (36, .ireturn, 0, 0, [])]
set_option maxRecDepth 20000 in
theorem ckX8_readersAbleWith : eX8_readersAbleWith.all (a_eok cX8_readersAbleWith) = true := b_code [3,61,3,62,29,42,180,0,23,180,0,125,162,0,23,42,180,0,70,29,46,27,126,153,0,6,132,2,1,132,3,1,167,255,228,28,172] [] (by decide +kernel) (by decide +kernel) (by decide +kernel) (by decide +kernel)
noncomputable def pX8_readersAbleWith : aPrg := (eX8_readersAbleWith,
  fdX8, [], [], [], [], 0, [])
noncomputable def fX8_readersAbleWith : aMF := a_fn none shp pX8_readersAbleWith 4 2
set_option maxRecDepth 20000 in
theorem kX8_readersAbleWith {l : Launch} {G : aG} (hZ : a_Z l G) : a_Con l G shp yX8_readersAbleWith (.code yX8_readersAbleWith cX8_readersAbleWith 4 (some .int)) 1 16 fX8_readersAbleWith :=
  a_mth none hZ.1 hZ.2.1 shp_len (fun _ h => nomatch h) hZ.2.2.1 (by decide +kernel) rfl (foX8 rfl) (a_cok_of trivial) ckX8_readersAbleWith rfl rfl (trivial) (trivial)
def eX8_fire : List (Nat × aEnt) := [(0, .iload_n 1, 0, 0, []),
  (1, .ifCond .lt 9, 0, 10, []),
  (4, .iload_n 1, 0, 0, []),
  (5, .bipush 12, 12, 0, []),
  (7, .if_icmp .le 13, 0, 20, []),
  (10, .new 85, 0, 0, []),
  (20, .aload_n 0, 0, 0, []),
  (21, .getfield 38, 0, 0, []),
  (24, .getfield 128, 0, 0, []),
  (27, .iconst 5, 5, 0, []),
  (28, .iaload, 0, 0, []),
  (29, .istore_n 2, 0, 0, []),
  (30, .iload_n 1, 0, 0, []),
  (31, .iload_n 2, 0, 0, []),
  (32, .invokestatic 246, 0, 0, []),
  (35, .invokestatic 256, 0, 0, []),
  (38, .istore_n 3, 0, 0, []),
  (39, .iconst 0, 0, 0, []),
  (40, .istore 4, 0, 0, []),
  (42, .iload 4, 0, 0, []),
  (44, .aload_n 0, 0, 0, []),
  (45, .getfield 23, 0, 0, []),
  (48, .getfield 125, 0, 0, []),
  (51, .if_icmp .ge 33, 0, 84, []),
  (54, .aload_n 0, 0, 0, []),
  (55, .getfield 70, 0, 0, []),
  (58, .iload 4, 0, 0, []),
  (60, .aload_n 0, 0, 0, []),
  (61, .getfield 23, 0, 0, []),
  (64, .aload_n 0, 0, 0, []),
  (65, .getfield 38, 0, 0, []),
  (68, .getfield 128, 0, 0, []),
  (71, .iload 4, 0, 0, []),
  (73, .iaload, 0, 0, []),
  (74, .invokevirtual 261, 0, 0, []),
  (77, .iastore, 0, 0, []),
  (78, .iinc 4 1, 1, 0, []),
  (81, .goto (-39), 0, 42, []),
  (84, .iconst 0, 0, 0, []),
  (85, .istore 4, 0, 0, []),
  (87, .iconst (-1), (-1), 0, []),
  (88, .istore 5, 0, 0, []),
  (90, .iconst 0, 0, 0, []),
  (91, .istore 6, 0, 0, []),
  (93, .iload 6, 0, 0, []),
  (95, .iload_n 2, 0, 0, []),
  (96, .if_icmp .gt 50, 0, 146, []),
  (99, .iload 6, 0, 0, []),
  (101, .iload_n 2, 0, 0, []),
  (102, .iconst (-1), (-1), 0, []),
  (103, .ixor, 0, 0, []),
  (104, .iand, 0, 0, []),
  (105, .ifCond .ne 35, 0, 140, []),
  (108, .iload 6, 0, 0, []),
  (110, .invokestatic 246, 0, 0, []),
  (113, .iload_n 3, 0, 0, []),
  (114, .if_icmp .ne 26, 0, 140, []),
  (117, .aload_n 0, 0, 0, []),
  (118, .iload 6, 0, 0, []),
  (120, .invokevirtual 264, 0, 0, []),
  (123, .istore 7, 0, 0, []),
  (125, .iload 7, 0, 0, []),
  (127, .iload 5, 0, 0, []),
  (129, .if_icmp .le 11, 0, 140, []),
  (132, .iload 7, 0, 0, []),
  (134, .istore 5, 0, 0, []),
  (136, .iload 6, 0, 0, []),
  (138, .istore 4, 0, 0, []),
  (140, .iinc 6 1, 1, 0, []),
  (143, .goto (-50), 0, 93, []),
  (146, .iload 4, 0, 0, []),
  (148, .ireturn, 0, 0, [])]
set_option maxRecDepth 20000 in
theorem ckX8_fire : eX8_fire.all (a_eok cX8_fire) = true := b_code [27,155,0,9,27,16,12,164,0,13,187,0,85,89,18,254,183,0,89,191,42,180,0,38,180,0,128,8,46,61,27,28,184,0,246,184,1,0,62,3,54,4,21,4,42,180,0,23,180,0,125,162,0,33,42,180,0,70,21,4,42,180,0,23,42,180,0,38,180,0,128,21,4,46,182,1,5,79,132,4,1,167,255,217,3,54,4,2,54,5,3,54,6,21,6,28,163,0,50,21,6,28,2,130,126,154,0,35,21,6,184,0,246,29,160,0,26,42,21,6,182,1,8,54,7,21,7,21,5,164,0,11,21,7,54,5,21,6,54,4,132,6,1,167,255,206,21,4,172] [] (by decide +kernel) (by decide +kernel) (by decide +kernel) (by decide +kernel)
noncomputable def pX8_fire : aPrg := (eX8_fire,
  fdX8, [(246, fJ6_bitCount_0f7a4, 1, 2000, 0), (256, fJ9_min_7cf53, 2, 2000, 0), (261, fX6_takeableFor, 2, 6, 0), (264, fX8_readersAbleWith, 2, 8, 0)], [], [], [(10, 1)], 0, [(10, [0, 1, 2, 3, 4, 5, 6, 7]), (42, [1, 5, 6, 7]), (93, [1, 7]), (140, [1, 7])])
noncomputable def fX8_fire : aMF := a_fn none shp pX8_fire 8 2
theorem tkX8_fire_10 {l : Launch} {G : aG} (hZ : a_Z l G) : a_tok G RX8 cX8_fire 6 90 10 1 :=
  a_tok_s (own := RX8) (cc := cX8_fire) (ik := 85) (is := 254) (ic := 89) (ix := 7) (rx := prog_16_method_2_code) (sa := g_ad G 1023) (text := "a fire leaves 0 to 12 books") rxX1 (by decide) ⟨by decide +kernel, by decide +kernel⟩ ⟨by decide +kernel, by decide +kernel, by decide +kernel⟩ clX1 inX1 (z_23 hZ) atX1 rfl rfl
set_option maxRecDepth 20000 in
theorem lkX8_256 : Cond.methodLink RX8 256 yJ9_min_7cf53 ∈ lw_g := a_p1 1079 rfl rfl
set_option maxRecDepth 20000 in
theorem wkX8_readersAbleWith : ∀ w ∈ [Cond.code yX8_readersAbleWith cX8_readersAbleWith 4 (some .int), .initialized yX8_readersAbleWith.cls, .instanceMethod yX8_readersAbleWith, .selects yX8_readersAbleWith.cls yX8_readersAbleWith yX8_readersAbleWith], w ∈ lw_g := a_ps [1083, 96, 1082, 49] rfl rfl
theorem hdX8_readersAbleWith : yX8_readersAbleWith.cls ≠ "java/lang/invoke/MethodHandle" ∧ yX8_readersAbleWith.cls ≠ "java/lang/invoke/VarHandle" ∧ (parseMethodDescriptor yX8_readersAbleWith.desc).map (fun d => d.parameters.length) = some 1 := by decide +kernel
set_option maxRecDepth 20000 in
theorem lkX8_264 : Cond.methodLink RX8 264 yX8_readersAbleWith ∈ lw_g := a_p1 1080 rfl rfl
set_option maxRecDepth 20000 in
theorem kX8_fire {l : Launch} {G : aG} (hZ : a_Z l G) : a_Con l G shp yX8_fire (.code yX8_fire cX8_fire 8 (some .int)) 6 90 fX8_fire :=
  a_mth none hZ.1 hZ.2.1 shp_len (fun _ h => nomatch h) hZ.2.2.1 (by decide +kernel) rfl (foX8 rfl) (a_cok_of trivial) ckX8_fire rfl rfl (⟨tkX8_fire_10 hZ, trivial⟩) (⟨a_CQ_s hZ.2.1 (kJ6_bitCount_0f7a4 hZ) lkX8_246 (a_CF_s wkJ6_bitCount_0f7a4 lkX8_246 hdJ6_bitCount_0f7a4) rfl rfl,
    ⟨a_CQ_s hZ.2.1 (kJ9_min_7cf53 hZ) lkX8_256 (a_CF_s wkJ9_min_7cf53 lkX8_256 hdJ9_min_7cf53) rfl rfl,
    ⟨a_CQ_v hZ.2.1 (kX6_takeableFor hZ) lkX8_261 (a_CF_v TX6 9 wkX6_takeableFor lkX8_261 hdX6_takeableFor ⟨by decide, by decide⟩ rfl) rfl rfl,
    ⟨a_CQ_v hZ.2.1 (kX8_readersAbleWith hZ) lkX8_264 (a_CF_v TX8 15 wkX8_readersAbleWith lkX8_264 hdX8_readersAbleWith ⟨by decide, by decide⟩ rfl) rfl rfl,
    trivial⟩⟩⟩⟩)
def eX8_event : List (Nat × aEnt) := [(0, .aload_n 0, 0, 0, []),
  (1, .iload_n 1, 0, 0, []),
  (2, .invokevirtual 190, 0, 0, []),
  (5, .ifCond .eq 23, 0, 28, []),
  (8, .aload_n 0, 0, 0, []),
  (9, .iload_n 2, 0, 0, []),
  (10, .invokevirtual 194, 0, 0, []),
  (13, .ifCond .eq 15, 0, 28, []),
  (16, .aload_n 0, 0, 0, []),
  (17, .iload_n 3, 0, 0, []),
  (18, .invokevirtual 194, 0, 0, []),
  (21, .ifCond .eq 7, 0, 28, []),
  (24, .iconst 1, 1, 0, []),
  (25, .goto 4, 0, 29, []),
  (28, .iconst 0, 0, 0, []),
  (29, .istore 4, 0, 0, []),
  (31, .iload 4, 0, 0, []),
  (33, .ifCond .eq 20, 0, 53, []),
  (36, .iload_n 2, 0, 0, []),
  (37, .iload_n 3, 0, 0, []),
  (38, .if_icmp .eq 15, 0, 53, []),
  (41, .aload_n 0, 0, 0, []),
  (42, .getfield 38, 0, 0, []),
  (45, .getfield 137, 0, 0, []),
  (48, .bipush 8, 8, 0, []),
  (50, .if_icmp .lt 15, 0, 65, []),
  (53, .aload_n 0, 0, 0, []),
  (54, .dup, 0, 0, []),
  (55, .getfield 143, 0, 0, []),
  (58, .iconst 1, 1, 0, []),
  (59, .iadd, 0, 0, []),
  (60, .putfield 143, 0, 0, []),
  (63, .iconst (-1), (-1), 0, []),
  (64, .ireturn, 0, 0, []),
  (65, .aload_n 0, 0, 0, []),
  (66, .getfield 38, 0, 0, []),
  (69, .iload_n 1, 0, 0, []),
  (70, .iload_n 2, 0, 0, []),
  (71, .iload_n 3, 0, 0, []),
  (72, .invokevirtual 267, 0, 0, []),
  (75, .aload_n 0, 0, 0, []),
  (76, .getfield 38, 0, 0, []),
  (79, .getfield 137, 0, 0, []),
  (82, .ireturn, 0, 0, [])]
set_option maxRecDepth 20000 in
theorem ckX8_event : eX8_event.all (a_eok cX8_event) = true := b_code [42,27,182,0,190,153,0,23,42,28,182,0,194,153,0,15,42,29,182,0,194,153,0,7,4,167,0,4,3,54,4,21,4,153,0,20,28,29,159,0,15,42,180,0,38,180,0,137,16,8,161,0,15,42,89,180,0,143,4,96,181,0,143,2,172,42,180,0,38,27,28,29,182,1,11,42,180,0,38,180,0,137,172] [] (by decide +kernel) (by decide +kernel) (by decide +kernel) (by decide +kernel)
noncomputable def pX8_event : aPrg := (eX8_event,
  fdX8, [(190, fX8_isReader, 2, 8, 0), (194, fX8_isBook, 2, 8, 0), (267, fX4_writeEvent, 4, 4, 1)], [], [], [], 0, [(28, [4]), (29, [4]), (53, [1, 2, 3, 4])])
noncomputable def fX8_event : aMF := a_fn none shp pX8_event 5 4
set_option maxRecDepth 20000 in
theorem wkX4_writeEvent : ∀ w ∈ [Cond.code yX4_writeEvent cX4_writeEvent 5 none, .initialized yX4_writeEvent.cls, .instanceMethod yX4_writeEvent, .selects yX4_writeEvent.cls yX4_writeEvent yX4_writeEvent], w ∈ lw_g := a_ps [515, 101, 513, 514] rfl rfl
theorem hdX4_writeEvent : yX4_writeEvent.cls ≠ "java/lang/invoke/MethodHandle" ∧ yX4_writeEvent.cls ≠ "java/lang/invoke/VarHandle" ∧ (parseMethodDescriptor yX4_writeEvent.desc).map (fun d => d.parameters.length) = some 3 := by decide +kernel
set_option maxRecDepth 20000 in
theorem lkX8_267 : Cond.methodLink RX8 267 yX4_writeEvent ∈ lw_g := a_p1 512 rfl rfl
set_option maxRecDepth 20000 in
theorem kX8_event {l : Launch} {G : aG} (hZ : a_Z l G) : a_Con l G shp yX8_event (.code yX8_event cX8_event 5 (some .int)) 2 40 fX8_event :=
  a_mth none hZ.1 hZ.2.1 shp_len (fun _ h => nomatch h) hZ.2.2.1 (by decide +kernel) rfl (foX8 rfl) (a_cok_of trivial) ckX8_event rfl rfl (trivial) (⟨a_CQ_v hZ.2.1 (kX8_isReader hZ) lkX8_190 (a_CF_v TX8 15 wkX8_isReader lkX8_190 hdX8_isReader ⟨by decide, by decide⟩ rfl) rfl rfl,
    ⟨a_CQ_v hZ.2.1 (kX8_isBook hZ) lkX8_194 (a_CF_v TX8 15 wkX8_isBook lkX8_194 hdX8_isBook ⟨by decide, by decide⟩ rfl) rfl rfl,
    ⟨a_CQ_v hZ.2.1 (kX4_writeEvent hZ) lkX8_267 (a_CF_v TX4 5 wkX4_writeEvent lkX8_267 hdX4_writeEvent ⟨by decide, by decide⟩ rfl) rfl rfl,
    trivial⟩⟩⟩)
