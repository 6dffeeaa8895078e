/-! ===== the law's helpers, written by wip/whole/law.py ===== -/
set_option maxRecDepth 20000 in
theorem clL_13 : Cond.classLink RL 13 (a_en 1) ∈ lw_g := a_p1 580 rfl rfl
set_option maxRecDepth 20000 in
theorem clL_18 : Cond.classLink RL 18 (a_en 0) ∈ lw_g := a_p1 898 rfl rfl
set_option maxRecDepth 20000 in
theorem csL_0 : Cond.castable (a_en 0) (a_en 0) ∈ lw_tbl := List.mem_of_getElem? (i := 909) rfl
set_option maxRecDepth 20000 in
theorem csL_1 : Cond.castable (a_en 1) (a_en 1) ∈ lw_tbl := List.mem_of_getElem? (i := 587) rfl
def eL_library : List (Nat × aEnt) := [(0, .aload_n 2, 0, 0, []),
  (1, .iconst 0, 0, 0, []),
  (2, .aload_n 0, 0, 0, []),
  (3, .iload_n 1, 0, 0, []),
  (4, .invokevirtual 7, 0, 0, []),
  (7, .i2l, 0, 0, []),
  (8, .lastore, 0, 0, []),
  (9, .goto 6, 0, 15, []),
  (12, .astore_n 3, 0, 0, []),
  (13, .iconst 1, 1, 0, []),
  (14, .ireturn, 0, 0, []),
  (15, .iconst 0, 0, 0, []),
  (16, .ireturn, 0, 0, [])]
set_option maxRecDepth 20000 in
theorem ckL_library : eL_library.all (a_eok cL_library) = true := b_code [44,3,42,27,182,0,7,133,80,167,0,6,78,4,172,3,172] [] (by decide +kernel) (by decide +kernel) (by decide +kernel) (by decide +kernel)
noncomputable def pL_library : aPrg := (eL_library,
  [], [(7, fX8_library, 2, 8, 0)], [], [(1, 13, 3)], [], 0, [])
noncomputable def fL_library : aMF := a_fn none shp pL_library 4 3
set_option maxRecDepth 20000 in
theorem wkX8_library : ∀ w ∈ [Cond.code yX8_library cX8_library 3 (some .int), .initialized yX8_library.cls, .instanceMethod yX8_library, .selects yX8_library.cls yX8_library yX8_library], w ∈ lw_g := a_ps [584, 96, 582, 583] rfl rfl
theorem hdX8_library : yX8_library.cls ≠ "java/lang/invoke/MethodHandle" ∧ yX8_library.cls ≠ "java/lang/invoke/VarHandle" ∧ (parseMethodDescriptor yX8_library.desc).map (fun d => d.parameters.length) = some 1 := by decide +kernel
set_option maxRecDepth 20000 in
theorem lkL_7 : Cond.methodLink RL 7 yX8_library ∈ lw_g := a_p1 581 rfl rfl
set_option maxRecDepth 20000 in
theorem kL_library {l : Launch} {G : aG} (hZ : a_Z l G) : a_ConW l G shp yL_library (.codeWith yL_library cL_library 4 (some .int) [(0, 9, 12, 13)]) 82 3090 fL_library :=
  a_mthW (c0 := 4) hZ.2.1 (by decide +kernel) rfl (a_fok_of [] rfl rfl) ckL_library rfl rfl rfl rfl
    (fun s hW => ⟨⟨[], ⟨0, 9, 12, 13⟩, [], rfl, (fun w hw => by cases hw), by decide, by decide, clL_13, csL_1, by decide, Or.inl ⟨3, rfl, by decide +kernel, rfl⟩⟩,
      trivial⟩)
    (⟨a_CQ_v hZ.2.1 (kX8_library hZ) lkL_7 (a_CF_v TX8 15 wkX8_library lkL_7 hdX8_library ⟨by decide, by decide⟩ rfl) rfl rfl, trivial⟩)
theorem moL_library {l : Launch} {G : aG} (hZ : a_Z l G) : ∀ (as : List Value) (σ : aMem) (o : aOut) (σ' : aMem), fL_library as σ = some (o, σ') → a_wt as ≤ as.length → σ.2.2 ≤ σ'.2.2 := a_fn_mono (fun n f na ci rk hm => by
  rcases List.mem_singleton.mp hm with e
  cases e
  exact fun as σ o σ' h hw => (kX8_library hZ as σ o σ' h hw).1)
set_option maxRecDepth 20000 in
theorem wkL_library : ∀ w ∈ [Cond.codeWith yL_library cL_library 4 (some .int) [(0, 9, 12, 13)], .initialized yL_library.cls, .static yL_library, .methodLink RL 70 yL_library], w ∈ lw_g := a_ps [579, 95, 578, 577] rfl rfl
theorem hdL_library : yL_library.cls ≠ "java/lang/invoke/MethodHandle" ∧ yL_library.cls ≠ "java/lang/invoke/VarHandle" ∧ (parseMethodDescriptor yL_library.desc).map (fun d => d.parameters.length) = some 3 := by decide +kernel
def eL_count : List (Nat × aEnt) := [(0, .aload_n 2, 0, 0, []),
  (1, .iconst 0, 0, 0, []),
  (2, .aload_n 0, 0, 0, []),
  (3, .iload_n 1, 0, 0, []),
  (4, .invokevirtual 15, 0, 0, []),
  (7, .i2l, 0, 0, []),
  (8, .lastore, 0, 0, []),
  (9, .goto 6, 0, 15, []),
  (12, .astore_n 3, 0, 0, []),
  (13, .iconst 1, 1, 0, []),
  (14, .ireturn, 0, 0, []),
  (15, .iconst 0, 0, 0, []),
  (16, .ireturn, 0, 0, [])]
set_option maxRecDepth 20000 in
theorem ckL_count : eL_count.all (a_eok cL_count) = true := b_code [44,3,42,27,182,0,15,133,80,167,0,6,78,4,172,3,172] [] (by decide +kernel) (by decide +kernel) (by decide +kernel) (by decide +kernel)
noncomputable def pL_count : aPrg := (eL_count,
  [], [(15, fX8_count, 2, 8, 0)], [], [(0, 13, 3)], [], 0, [])
noncomputable def fL_count : aMF := a_fn none shp pL_count 4 3
set_option maxRecDepth 20000 in
theorem wkX8_count : ∀ w ∈ [Cond.code yX8_count cX8_count 2 (some .int), .initialized yX8_count.cls, .instanceMethod yX8_count, .selects yX8_count.cls yX8_count yX8_count], w ∈ lw_g := a_ps [902, 96, 900, 901] rfl rfl
theorem hdX8_count : yX8_count.cls ≠ "java/lang/invoke/MethodHandle" ∧ yX8_count.cls ≠ "java/lang/invoke/VarHandle" ∧ (parseMethodDescriptor yX8_count.desc).map (fun d => d.parameters.length) = some 1 := by decide +kernel
set_option maxRecDepth 20000 in
theorem lkL_15 : Cond.methodLink RL 15 yX8_count ∈ lw_g := a_p1 899 rfl rfl
set_option maxRecDepth 20000 in
theorem kL_count {l : Launch} {G : aG} (hZ : a_Z l G) : a_ConW l G shp yL_count (.codeWith yL_count cL_count 4 (some .int) [(0, 9, 12, 18)]) 7 111 fL_count :=
  a_mthW (c0 := 4) hZ.2.1 (by decide +kernel) rfl (a_fok_of [] rfl rfl) ckL_count rfl rfl rfl rfl
    (fun s hW => ⟨⟨[], ⟨0, 9, 12, 18⟩, [], rfl, (fun w hw => by cases hw), by decide, by decide, clL_18, csL_0, by decide, Or.inl ⟨3, rfl, by decide +kernel, rfl⟩⟩,
      trivial⟩)
    (⟨a_CQ_v hZ.2.1 (kX8_count hZ) lkL_15 (a_CF_v TX8 15 wkX8_count lkL_15 hdX8_count ⟨by decide, by decide⟩ rfl) rfl rfl, trivial⟩)
theorem moL_count {l : Launch} {G : aG} (hZ : a_Z l G) : ∀ (as : List Value) (σ : aMem) (o : aOut) (σ' : aMem), fL_count as σ = some (o, σ') → a_wt as ≤ as.length → σ.2.2 ≤ σ'.2.2 := a_fn_mono (fun n f na ci rk hm => by
  rcases List.mem_singleton.mp hm with e
  cases e
  exact fun as σ o σ' h hw => (kX8_count hZ as σ o σ' h hw).1)
set_option maxRecDepth 20000 in
theorem wkL_count : ∀ w ∈ [Cond.codeWith yL_count cL_count 4 (some .int) [(0, 9, 12, 18)], .initialized yL_count.cls, .static yL_count, .methodLink RL 84 yL_count], w ∈ lw_g := a_ps [897, 95, 896, 895] rfl rfl
theorem hdL_count : yL_count.cls ≠ "java/lang/invoke/MethodHandle" ∧ yL_count.cls ≠ "java/lang/invoke/VarHandle" ∧ (parseMethodDescriptor yL_count.desc).map (fun d => d.parameters.length) = some 3 := by decide +kernel
def eL_book : List (Nat × aEnt) := [(0, .aload_n 3, 0, 0, []),
  (1, .iconst 0, 0, 0, []),
  (2, .aload_n 0, 0, 0, []),
  (3, .iload_n 1, 0, 0, []),
  (4, .iload_n 2, 0, 0, []),
  (5, .invokevirtual 20, 0, 0, []),
  (8, .i2l, 0, 0, []),
  (9, .lastore, 0, 0, []),
  (10, .goto 7, 0, 17, []),
  (13, .astore 4, 0, 0, []),
  (15, .iconst 1, 1, 0, []),
  (16, .ireturn, 0, 0, []),
  (17, .iconst 0, 0, 0, []),
  (18, .ireturn, 0, 0, [])]
set_option maxRecDepth 20000 in
theorem ckL_book : eL_book.all (a_eok cL_book) = true := b_code [45,3,42,27,28,182,0,20,133,80,167,0,7,58,4,4,172,3,172] [] (by decide +kernel) (by decide +kernel) (by decide +kernel) (by decide +kernel)
noncomputable def pL_book : aPrg := (eL_book,
  [], [(20, fX8_book, 3, 8, 0)], [], [(0, 15, 4)], [], 0, [])
noncomputable def fL_book : aMF := a_fn none shp pL_book 5 4
set_option maxRecDepth 20000 in
theorem wkX8_book : ∀ w ∈ [Cond.code yX8_book cX8_book 3 (some .int), .initialized yX8_book.cls, .instanceMethod yX8_book, .selects yX8_book.cls yX8_book yX8_book], w ∈ lw_g := a_ps [929, 96, 927, 928] rfl rfl
theorem hdX8_book : yX8_book.cls ≠ "java/lang/invoke/MethodHandle" ∧ yX8_book.cls ≠ "java/lang/invoke/VarHandle" ∧ (parseMethodDescriptor yX8_book.desc).map (fun d => d.parameters.length) = some 2 := by decide +kernel
set_option maxRecDepth 20000 in
theorem lkL_20 : Cond.methodLink RL 20 yX8_book ∈ lw_g := a_p1 926 rfl rfl
set_option maxRecDepth 20000 in
theorem kL_book {l : Launch} {G : aG} (hZ : a_Z l G) : a_ConW l G shp yL_book (.codeWith yL_book cL_book 5 (some .int) [(0, 10, 13, 18)]) 8 133 fL_book :=
  a_mthW (c0 := 5) hZ.2.1 (by decide +kernel) rfl (a_fok_of [] rfl rfl) ckL_book rfl rfl rfl rfl
    (fun s hW => ⟨⟨[], ⟨0, 10, 13, 18⟩, [], rfl, (fun w hw => by cases hw), by decide, by decide, clL_18, csL_0, by decide, Or.inr ⟨by decide +kernel, rfl⟩⟩,
      trivial⟩)
    (⟨a_CQ_v hZ.2.1 (kX8_book hZ) lkL_20 (a_CF_v TX8 15 wkX8_book lkL_20 hdX8_book ⟨by decide, by decide⟩ rfl) rfl rfl, trivial⟩)
theorem moL_book {l : Launch} {G : aG} (hZ : a_Z l G) : ∀ (as : List Value) (σ : aMem) (o : aOut) (σ' : aMem), fL_book as σ = some (o, σ') → a_wt as ≤ as.length → σ.2.2 ≤ σ'.2.2 := a_fn_mono (fun n f na ci rk hm => by
  rcases List.mem_singleton.mp hm with e
  cases e
  exact fun as σ o σ' h hw => (kX8_book hZ as σ o σ' h hw).1)
set_option maxRecDepth 20000 in
theorem wkL_book : ∀ w ∈ [Cond.codeWith yL_book cL_book 5 (some .int) [(0, 10, 13, 18)], .initialized yL_book.cls, .static yL_book, .methodLink RL 87 yL_book], w ∈ lw_g := a_ps [925, 95, 924, 923] rfl rfl
theorem hdL_book : yL_book.cls ≠ "java/lang/invoke/MethodHandle" ∧ yL_book.cls ≠ "java/lang/invoke/VarHandle" ∧ (parseMethodDescriptor yL_book.desc).map (fun d => d.parameters.length) = some 4 := by decide +kernel
def eL_reader : List (Nat × aEnt) := [(0, .aload_n 3, 0, 0, []),
  (1, .iconst 0, 0, 0, []),
  (2, .aload_n 0, 0, 0, []),
  (3, .iload_n 1, 0, 0, []),
  (4, .iload_n 2, 0, 0, []),
  (5, .invokevirtual 24, 0, 0, []),
  (8, .i2l, 0, 0, []),
  (9, .lastore, 0, 0, []),
  (10, .goto 7, 0, 17, []),
  (13, .astore 4, 0, 0, []),
  (15, .iconst 1, 1, 0, []),
  (16, .ireturn, 0, 0, []),
  (17, .iconst 0, 0, 0, []),
  (18, .ireturn, 0, 0, [])]
set_option maxRecDepth 20000 in
theorem ckL_reader : eL_reader.all (a_eok cL_reader) = true := b_code [45,3,42,27,28,182,0,24,133,80,167,0,7,58,4,4,172,3,172] [] (by decide +kernel) (by decide +kernel) (by decide +kernel) (by decide +kernel)
noncomputable def pL_reader : aPrg := (eL_reader,
  [], [(24, fX8_reader, 3, 8, 0)], [], [(0, 15, 4)], [], 0, [])
noncomputable def fL_reader : aMF := a_fn none shp pL_reader 5 4
set_option maxRecDepth 20000 in
theorem wkX8_reader : ∀ w ∈ [Cond.code yX8_reader cX8_reader 3 (some .int), .initialized yX8_reader.cls, .instanceMethod yX8_reader, .selects yX8_reader.cls yX8_reader yX8_reader], w ∈ lw_g := a_ps [948, 96, 946, 947] rfl rfl
theorem hdX8_reader : yX8_reader.cls ≠ "java/lang/invoke/MethodHandle" ∧ yX8_reader.cls ≠ "java/lang/invoke/VarHandle" ∧ (parseMethodDescriptor yX8_reader.desc).map (fun d => d.parameters.length) = some 2 := by decide +kernel
set_option maxRecDepth 20000 in
theorem lkL_24 : Cond.methodLink RL 24 yX8_reader ∈ lw_g := a_p1 945 rfl rfl
set_option maxRecDepth 20000 in
theorem kL_reader {l : Launch} {G : aG} (hZ : a_Z l G) : a_ConW l G shp yL_reader (.codeWith yL_reader cL_reader 5 (some .int) [(0, 10, 13, 18)]) 8 133 fL_reader :=
  a_mthW (c0 := 5) hZ.2.1 (by decide +kernel) rfl (a_fok_of [] rfl rfl) ckL_reader rfl rfl rfl rfl
    (fun s hW => ⟨⟨[], ⟨0, 10, 13, 18⟩, [], rfl, (fun w hw => by cases hw), by decide, by decide, clL_18, csL_0, by decide, Or.inr ⟨by decide +kernel, rfl⟩⟩,
      trivial⟩)
    (⟨a_CQ_v hZ.2.1 (kX8_reader hZ) lkL_24 (a_CF_v TX8 15 wkX8_reader lkL_24 hdX8_reader ⟨by decide, by decide⟩ rfl) rfl rfl, trivial⟩)
theorem moL_reader {l : Launch} {G : aG} (hZ : a_Z l G) : ∀ (as : List Value) (σ : aMem) (o : aOut) (σ' : aMem), fL_reader as σ = some (o, σ') → a_wt as ≤ as.length → σ.2.2 ≤ σ'.2.2 := a_fn_mono (fun n f na ci rk hm => by
  rcases List.mem_singleton.mp hm with e
  cases e
  exact fun as σ o σ' h hw => (kX8_reader hZ as σ o σ' h hw).1)
set_option maxRecDepth 20000 in
theorem wkL_reader : ∀ w ∈ [Cond.codeWith yL_reader cL_reader 5 (some .int) [(0, 10, 13, 18)], .initialized yL_reader.cls, .static yL_reader, .methodLink RL 91 yL_reader], w ∈ lw_g := a_ps [944, 95, 943, 942] rfl rfl
theorem hdL_reader : yL_reader.cls ≠ "java/lang/invoke/MethodHandle" ∧ yL_reader.cls ≠ "java/lang/invoke/VarHandle" ∧ (parseMethodDescriptor yL_reader.desc).map (fun d => d.parameters.length) = some 4 := by decide +kernel
def eL_move : List (Nat × aEnt) := [(0, .aload_n 3, 0, 0, []),
  (1, .iconst 0, 0, 0, []),
  (2, .aload_n 0, 0, 0, []),
  (3, .iload_n 1, 0, 0, []),
  (4, .iload_n 2, 0, 0, []),
  (5, .invokevirtual 27, 0, 0, []),
  (8, .i2l, 0, 0, []),
  (9, .lastore, 0, 0, []),
  (10, .goto 7, 0, 17, []),
  (13, .astore 4, 0, 0, []),
  (15, .iconst 1, 1, 0, []),
  (16, .ireturn, 0, 0, []),
  (17, .iconst 0, 0, 0, []),
  (18, .ireturn, 0, 0, [])]
set_option maxRecDepth 20000 in
theorem ckL_move : eL_move.all (a_eok cL_move) = true := b_code [45,3,42,27,28,182,0,27,133,80,167,0,7,58,4,4,172,3,172] [] (by decide +kernel) (by decide +kernel) (by decide +kernel) (by decide +kernel)
noncomputable def pL_move : aPrg := (eL_move,
  [], [(27, fX8_move, 3, 8, 0)], [], [(0, 15, 4)], [], 0, [])
noncomputable def fL_move : aMF := a_fn none shp pL_move 5 4
set_option maxRecDepth 20000 in
theorem wkX8_move : ∀ w ∈ [Cond.code yX8_move cX8_move 3 (some .int), .initialized yX8_move.cls, .instanceMethod yX8_move, .selects yX8_move.cls yX8_move yX8_move], w ∈ lw_g := a_ps [961, 96, 959, 960] rfl rfl
theorem hdX8_move : yX8_move.cls ≠ "java/lang/invoke/MethodHandle" ∧ yX8_move.cls ≠ "java/lang/invoke/VarHandle" ∧ (parseMethodDescriptor yX8_move.desc).map (fun d => d.parameters.length) = some 2 := by decide +kernel
set_option maxRecDepth 20000 in
theorem lkL_27 : Cond.methodLink RL 27 yX8_move ∈ lw_g := a_p1 958 rfl rfl
set_option maxRecDepth 20000 in
theorem kL_move {l : Launch} {G : aG} (hZ : a_Z l G) : a_ConW l G shp yL_move (.codeWith yL_move cL_move 5 (some .int) [(0, 10, 13, 18)]) 8 133 fL_move :=
  a_mthW (c0 := 5) hZ.2.1 (by decide +kernel) rfl (a_fok_of [] rfl rfl) ckL_move rfl rfl rfl rfl
    (fun s hW => ⟨⟨[], ⟨0, 10, 13, 18⟩, [], rfl, (fun w hw => by cases hw), by decide, by decide, clL_18, csL_0, by decide, Or.inr ⟨by decide +kernel, rfl⟩⟩,
      trivial⟩)
    (⟨a_CQ_v hZ.2.1 (kX8_move hZ) lkL_27 (a_CF_v TX8 15 wkX8_move lkL_27 hdX8_move ⟨by decide, by decide⟩ rfl) rfl rfl, trivial⟩)
theorem moL_move {l : Launch} {G : aG} (hZ : a_Z l G) : ∀ (as : List Value) (σ : aMem) (o : aOut) (σ' : aMem), fL_move as σ = some (o, σ') → a_wt as ≤ as.length → σ.2.2 ≤ σ'.2.2 := a_fn_mono (fun n f na ci rk hm => by
  rcases List.mem_singleton.mp hm with e
  cases e
  exact fun as σ o σ' h hw => (kX8_move hZ as σ o σ' h hw).1)
set_option maxRecDepth 20000 in
theorem wkL_move : ∀ w ∈ [Cond.codeWith yL_move cL_move 5 (some .int) [(0, 10, 13, 18)], .initialized yL_move.cls, .static yL_move, .methodLink RL 111 yL_move], w ∈ lw_g := a_ps [957, 95, 956, 955] rfl rfl
theorem hdL_move : yL_move.cls ≠ "java/lang/invoke/MethodHandle" ∧ yL_move.cls ≠ "java/lang/invoke/VarHandle" ∧ (parseMethodDescriptor yL_move.desc).map (fun d => d.parameters.length) = some 4 := by decide +kernel
def eL_reach : List (Nat × aEnt) := [(0, .aload_n 2, 0, 0, []),
  (1, .iconst 0, 0, 0, []),
  (2, .aload_n 0, 0, 0, []),
  (3, .iload_n 1, 0, 0, []),
  (4, .invokevirtual 30, 0, 0, []),
  (7, .i2l, 0, 0, []),
  (8, .lastore, 0, 0, []),
  (9, .goto 6, 0, 15, []),
  (12, .astore_n 3, 0, 0, []),
  (13, .iconst 1, 1, 0, []),
  (14, .ireturn, 0, 0, []),
  (15, .iconst 0, 0, 0, []),
  (16, .ireturn, 0, 0, [])]
set_option maxRecDepth 20000 in
theorem ckL_reach : eL_reach.all (a_eok cL_reach) = true := b_code [44,3,42,27,182,0,30,133,80,167,0,6,78,4,172,3,172] [] (by decide +kernel) (by decide +kernel) (by decide +kernel) (by decide +kernel)
noncomputable def pL_reach : aPrg := (eL_reach,
  [], [(30, fX8_reach, 2, 8, 0)], [], [(0, 13, 3)], [], 0, [])
noncomputable def fL_reach : aMF := a_fn none shp pL_reach 4 3
set_option maxRecDepth 20000 in
theorem wkX8_reach : ∀ w ∈ [Cond.code yX8_reach cX8_reach 2 (some .int), .initialized yX8_reach.cls, .instanceMethod yX8_reach, .selects yX8_reach.cls yX8_reach yX8_reach], w ∈ lw_g := a_ps [969, 96, 967, 968] rfl rfl
theorem hdX8_reach : yX8_reach.cls ≠ "java/lang/invoke/MethodHandle" ∧ yX8_reach.cls ≠ "java/lang/invoke/VarHandle" ∧ (parseMethodDescriptor yX8_reach.desc).map (fun d => d.parameters.length) = some 1 := by decide +kernel
set_option maxRecDepth 20000 in
theorem lkL_30 : Cond.methodLink RL 30 yX8_reach ∈ lw_g := a_p1 966 rfl rfl
set_option maxRecDepth 20000 in
theorem kL_reach {l : Launch} {G : aG} (hZ : a_Z l G) : a_ConW l G shp yL_reach (.codeWith yL_reach cL_reach 4 (some .int) [(0, 9, 12, 18)]) 8 132 fL_reach :=
  a_mthW (c0 := 4) hZ.2.1 (by decide +kernel) rfl (a_fok_of [] rfl rfl) ckL_reach rfl rfl rfl rfl
    (fun s hW => ⟨⟨[], ⟨0, 9, 12, 18⟩, [], rfl, (fun w hw => by cases hw), by decide, by decide, clL_18, csL_0, by decide, Or.inl ⟨3, rfl, by decide +kernel, rfl⟩⟩,
      trivial⟩)
    (⟨a_CQ_v hZ.2.1 (kX8_reach hZ) lkL_30 (a_CF_v TX8 15 wkX8_reach lkL_30 hdX8_reach ⟨by decide, by decide⟩ rfl) rfl rfl, trivial⟩)
theorem moL_reach {l : Launch} {G : aG} (hZ : a_Z l G) : ∀ (as : List Value) (σ : aMem) (o : aOut) (σ' : aMem), fL_reach as σ = some (o, σ') → a_wt as ≤ as.length → σ.2.2 ≤ σ'.2.2 := a_fn_mono (fun n f na ci rk hm => by
  rcases List.mem_singleton.mp hm with e
  cases e
  exact fun as σ o σ' h hw => (kX8_reach hZ as σ o σ' h hw).1)
set_option maxRecDepth 20000 in
theorem wkL_reach : ∀ w ∈ [Cond.codeWith yL_reach cL_reach 4 (some .int) [(0, 9, 12, 18)], .initialized yL_reach.cls, .static yL_reach, .methodLink RL 114 yL_reach], w ∈ lw_g := a_ps [965, 95, 964, 963] rfl rfl
theorem hdL_reach : yL_reach.cls ≠ "java/lang/invoke/MethodHandle" ∧ yL_reach.cls ≠ "java/lang/invoke/VarHandle" ∧ (parseMethodDescriptor yL_reach.desc).map (fun d => d.parameters.length) = some 3 := by decide +kernel
def eL_way : List (Nat × aEnt) := [(0, .aload_n 3, 0, 0, []),
  (1, .iconst 0, 0, 0, []),
  (2, .aload_n 0, 0, 0, []),
  (3, .iload_n 1, 0, 0, []),
  (4, .iload_n 2, 0, 0, []),
  (5, .invokevirtual 33, 0, 0, []),
  (8, .i2l, 0, 0, []),
  (9, .lastore, 0, 0, []),
  (10, .goto 7, 0, 17, []),
  (13, .astore 4, 0, 0, []),
  (15, .iconst 1, 1, 0, []),
  (16, .ireturn, 0, 0, []),
  (17, .iconst 0, 0, 0, []),
  (18, .ireturn, 0, 0, [])]
set_option maxRecDepth 20000 in
theorem ckL_way : eL_way.all (a_eok cL_way) = true := b_code [45,3,42,27,28,182,0,33,133,80,167,0,7,58,4,4,172,3,172] [] (by decide +kernel) (by decide +kernel) (by decide +kernel) (by decide +kernel)
noncomputable def pL_way : aPrg := (eL_way,
  [], [(33, fX8_way, 3, 8, 0)], [], [(0, 15, 4)], [], 0, [])
noncomputable def fL_way : aMF := a_fn none shp pL_way 5 4
set_option maxRecDepth 20000 in
theorem wkX8_way : ∀ w ∈ [Cond.code yX8_way cX8_way 3 (some .int), .initialized yX8_way.cls, .instanceMethod yX8_way, .selects yX8_way.cls yX8_way yX8_way], w ∈ lw_g := a_ps [984, 96, 982, 983] rfl rfl
theorem hdX8_way : yX8_way.cls ≠ "java/lang/invoke/MethodHandle" ∧ yX8_way.cls ≠ "java/lang/invoke/VarHandle" ∧ (parseMethodDescriptor yX8_way.desc).map (fun d => d.parameters.length) = some 2 := by decide +kernel
set_option maxRecDepth 20000 in
theorem lkL_33 : Cond.methodLink RL 33 yX8_way ∈ lw_g := a_p1 981 rfl rfl
set_option maxRecDepth 20000 in
theorem kL_way {l : Launch} {G : aG} (hZ : a_Z l G) : a_ConW l G shp yL_way (.codeWith yL_way cL_way 5 (some .int) [(0, 10, 13, 18)]) 8 133 fL_way :=
  a_mthW (c0 := 5) hZ.2.1 (by decide +kernel) rfl (a_fok_of [] rfl rfl) ckL_way rfl rfl rfl rfl
    (fun s hW => ⟨⟨[], ⟨0, 10, 13, 18⟩, [], rfl, (fun w hw => by cases hw), by decide, by decide, clL_18, csL_0, by decide, Or.inr ⟨by decide +kernel, rfl⟩⟩,
      trivial⟩)
    (⟨a_CQ_v hZ.2.1 (kX8_way hZ) lkL_33 (a_CF_v TX8 15 wkX8_way lkL_33 hdX8_way ⟨by decide, by decide⟩ rfl) rfl rfl, trivial⟩)
theorem moL_way {l : Launch} {G : aG} (hZ : a_Z l G) : ∀ (as : List Value) (σ : aMem) (o : aOut) (σ' : aMem), fL_way as σ = some (o, σ') → a_wt as ≤ as.length → σ.2.2 ≤ σ'.2.2 := a_fn_mono (fun n f na ci rk hm => by
  rcases List.mem_singleton.mp hm with e
  cases e
  exact fun as σ o σ' h hw => (kX8_way hZ as σ o σ' h hw).1)
set_option maxRecDepth 20000 in
theorem wkL_way : ∀ w ∈ [Cond.codeWith yL_way cL_way 5 (some .int) [(0, 10, 13, 18)], .initialized yL_way.cls, .static yL_way, .methodLink RL 117 yL_way], w ∈ lw_g := a_ps [980, 95, 979, 978] rfl rfl
theorem hdL_way : yL_way.cls ≠ "java/lang/invoke/MethodHandle" ∧ yL_way.cls ≠ "java/lang/invoke/VarHandle" ∧ (parseMethodDescriptor yL_way.desc).map (fun d => d.parameters.length) = some 4 := by decide +kernel
def eL_together : List (Nat × aEnt) := [(0, .aload 4, 0, 0, []),
  (2, .iconst 0, 0, 0, []),
  (3, .aload_n 0, 0, 0, []),
  (4, .iload_n 1, 0, 0, []),
  (5, .iload_n 2, 0, 0, []),
  (6, .iload_n 3, 0, 0, []),
  (7, .invokevirtual 36, 0, 0, []),
  (10, .i2l, 0, 0, []),
  (11, .lastore, 0, 0, []),
  (12, .goto 11, 0, 23, []),
  (15, .astore 5, 0, 0, []),
  (17, .iconst 1, 1, 0, []),
  (18, .ireturn, 0, 0, []),
  (19, .astore 5, 0, 0, []),
  (21, .iconst 2, 2, 0, []),
  (22, .ireturn, 0, 0, []),
  (23, .iconst 0, 0, 0, []),
  (24, .ireturn, 0, 0, [])]
set_option maxRecDepth 20000 in
theorem ckL_together : eL_together.all (a_eok cL_together) = true := b_code [25,4,3,42,27,28,29,182,0,36,133,80,167,0,11,58,5,4,172,58,5,5,172,3,172] [] (by decide +kernel) (by decide +kernel) (by decide +kernel) (by decide +kernel)
noncomputable def pL_together : aPrg := (eL_together,
  [], [(36, fX8_together, 4, 8, 0)], [], [(0, 17, 5), (1, 21, 5)], [], 0, [])
noncomputable def fL_together : aMF := a_fn none shp pL_together 6 5
set_option maxRecDepth 20000 in
theorem wkX8_together : ∀ w ∈ [Cond.code yX8_together cX8_together 4 (some .int), .initialized yX8_together.cls, .instanceMethod yX8_together, .selects yX8_together.cls yX8_together yX8_together], w ∈ lw_g := a_ps [991, 96, 989, 990] rfl rfl
theorem hdX8_together : yX8_together.cls ≠ "java/lang/invoke/MethodHandle" ∧ yX8_together.cls ≠ "java/lang/invoke/VarHandle" ∧ (parseMethodDescriptor yX8_together.desc).map (fun d => d.parameters.length) = some 3 := by decide +kernel
set_option maxRecDepth 20000 in
theorem lkL_36 : Cond.methodLink RL 36 yX8_together ∈ lw_g := a_p1 988 rfl rfl
set_option maxRecDepth 20000 in
theorem kL_together {l : Launch} {G : aG} (hZ : a_Z l G) (hN : va_Nc (a_en 1) (a_en 0) (g_s G)) : a_ConW l G shp yL_together (.codeWith yL_together cL_together 6 (some .int) [(0, 12, 15, 18), (0, 12, 19, 13)]) 8 173 fL_together :=
  a_mthW (c0 := 7) hZ.2.1 (by decide +kernel) rfl (a_fok_of [] rfl rfl) ckL_together rfl rfl rfl rfl
    (fun s hW => ⟨⟨[], ⟨0, 12, 15, 18⟩, [⟨0, 12, 19, 13⟩], rfl, (fun w hw => by cases hw), by decide, by decide, clL_18, csL_0, by decide, Or.inr ⟨by decide +kernel, rfl⟩⟩,
      ⟨⟨[⟨0, 12, 15, 18⟩], ⟨0, 12, 19, 13⟩, [], rfl, (fun w hw => by rcases List.mem_singleton.mp hw with rfl; exact ⟨by decide, _, clL_18, va_Nc.moved hW.alike hN⟩), by decide, by decide, clL_13, csL_1, by decide, Or.inr ⟨by decide +kernel, rfl⟩⟩,
      trivial⟩⟩)
    (⟨a_CQ_v hZ.2.1 (kX8_together hZ) lkL_36 (a_CF_v TX8 15 wkX8_together lkL_36 hdX8_together ⟨by decide, by decide⟩ rfl) rfl rfl, trivial⟩)
theorem moL_together {l : Launch} {G : aG} (hZ : a_Z l G) : ∀ (as : List Value) (σ : aMem) (o : aOut) (σ' : aMem), fL_together as σ = some (o, σ') → a_wt as ≤ as.length → σ.2.2 ≤ σ'.2.2 := a_fn_mono (fun n f na ci rk hm => by
  rcases List.mem_singleton.mp hm with e
  cases e
  exact fun as σ o σ' h hw => (kX8_together hZ as σ o σ' h hw).1)
set_option maxRecDepth 20000 in
theorem wkL_together : ∀ w ∈ [Cond.codeWith yL_together cL_together 6 (some .int) [(0, 12, 15, 18), (0, 12, 19, 13)], .initialized yL_together.cls, .static yL_together, .methodLink RL 120 yL_together], w ∈ lw_g := a_ps [987, 95, 986, 985] rfl rfl
theorem hdL_together : yL_together.cls ≠ "java/lang/invoke/MethodHandle" ∧ yL_together.cls ≠ "java/lang/invoke/VarHandle" ∧ (parseMethodDescriptor yL_together.desc).map (fun d => d.parameters.length) = some 5 := by decide +kernel
def eL_row : List (Nat × aEnt) := [(0, .aload_n 3, 0, 0, []),
  (1, .iconst 0, 0, 0, []),
  (2, .aload_n 0, 0, 0, []),
  (3, .iload_n 1, 0, 0, []),
  (4, .iload_n 2, 0, 0, []),
  (5, .invokevirtual 40, 0, 0, []),
  (8, .i2l, 0, 0, []),
  (9, .lastore, 0, 0, []),
  (10, .goto 7, 0, 17, []),
  (13, .astore 4, 0, 0, []),
  (15, .iconst 1, 1, 0, []),
  (16, .ireturn, 0, 0, []),
  (17, .iconst 0, 0, 0, []),
  (18, .ireturn, 0, 0, [])]
set_option maxRecDepth 20000 in
theorem ckL_row : eL_row.all (a_eok cL_row) = true := b_code [45,3,42,27,28,182,0,40,133,80,167,0,7,58,4,4,172,3,172] [] (by decide +kernel) (by decide +kernel) (by decide +kernel) (by decide +kernel)
noncomputable def pL_row : aPrg := (eL_row,
  [], [(40, fX8_row, 3, 8, 0)], [], [(0, 15, 4)], [], 0, [])
noncomputable def fL_row : aMF := a_fn none shp pL_row 5 4
set_option maxRecDepth 20000 in
theorem wkX8_row : ∀ w ∈ [Cond.code yX8_row cX8_row 3 (some .int), .initialized yX8_row.cls, .instanceMethod yX8_row, .selects yX8_row.cls yX8_row yX8_row], w ∈ lw_g := a_ps [1023, 96, 1021, 1022] rfl rfl
theorem hdX8_row : yX8_row.cls ≠ "java/lang/invoke/MethodHandle" ∧ yX8_row.cls ≠ "java/lang/invoke/VarHandle" ∧ (parseMethodDescriptor yX8_row.desc).map (fun d => d.parameters.length) = some 2 := by decide +kernel
set_option maxRecDepth 20000 in
theorem lkL_40 : Cond.methodLink RL 40 yX8_row ∈ lw_g := a_p1 1020 rfl rfl
set_option maxRecDepth 20000 in
theorem kL_row {l : Launch} {G : aG} (hZ : a_Z l G) : a_ConW l G shp yL_row (.codeWith yL_row cL_row 5 (some .int) [(0, 10, 13, 18)]) 8 133 fL_row :=
  a_mthW (c0 := 5) hZ.2.1 (by decide +kernel) rfl (a_fok_of [] rfl rfl) ckL_row rfl rfl rfl rfl
    (fun s hW => ⟨⟨[], ⟨0, 10, 13, 18⟩, [], rfl, (fun w hw => by cases hw), by decide, by decide, clL_18, csL_0, by decide, Or.inr ⟨by decide +kernel, rfl⟩⟩,
      trivial⟩)
    (⟨a_CQ_v hZ.2.1 (kX8_row hZ) lkL_40 (a_CF_v TX8 15 wkX8_row lkL_40 hdX8_row ⟨by decide, by decide⟩ rfl) rfl rfl, trivial⟩)
theorem moL_row {l : Launch} {G : aG} (hZ : a_Z l G) : ∀ (as : List Value) (σ : aMem) (o : aOut) (σ' : aMem), fL_row as σ = some (o, σ') → a_wt as ≤ as.length → σ.2.2 ≤ σ'.2.2 := a_fn_mono (fun n f na ci rk hm => by
  rcases List.mem_singleton.mp hm with e
  cases e
  exact fun as σ o σ' h hw => (kX8_row hZ as σ o σ' h hw).1)
set_option maxRecDepth 20000 in
theorem wkL_row : ∀ w ∈ [Cond.codeWith yL_row cL_row 5 (some .int) [(0, 10, 13, 18)], .initialized yL_row.cls, .static yL_row, .methodLink RL 128 yL_row], w ∈ lw_g := a_ps [1019, 95, 1018, 1017] rfl rfl
theorem hdL_row : yL_row.cls ≠ "java/lang/invoke/MethodHandle" ∧ yL_row.cls ≠ "java/lang/invoke/VarHandle" ∧ (parseMethodDescriptor yL_row.desc).map (fun d => d.parameters.length) = some 4 := by decide +kernel
def eL_lost : List (Nat × aEnt) := [(0, .aload_n 3, 0, 0, []),
  (1, .iconst 0, 0, 0, []),
  (2, .aload_n 0, 0, 0, []),
  (3, .iload_n 1, 0, 0, []),
  (4, .iload_n 2, 0, 0, []),
  (5, .invokevirtual 43, 0, 0, []),
  (8, .i2l, 0, 0, []),
  (9, .lastore, 0, 0, []),
  (10, .goto 7, 0, 17, []),
  (13, .astore 4, 0, 0, []),
  (15, .iconst 1, 1, 0, []),
  (16, .ireturn, 0, 0, []),
  (17, .iconst 0, 0, 0, []),
  (18, .ireturn, 0, 0, [])]
set_option maxRecDepth 20000 in
theorem ckL_lost : eL_lost.all (a_eok cL_lost) = true := b_code [45,3,42,27,28,182,0,43,133,80,167,0,7,58,4,4,172,3,172] [] (by decide +kernel) (by decide +kernel) (by decide +kernel) (by decide +kernel)
noncomputable def pL_lost : aPrg := (eL_lost,
  [], [(43, fX8_lost, 3, 8, 0)], [], [(0, 15, 4)], [], 0, [])
noncomputable def fL_lost : aMF := a_fn none shp pL_lost 5 4
set_option maxRecDepth 20000 in
theorem wkX8_lost : ∀ w ∈ [Cond.code yX8_lost cX8_lost 5 (some .int), .initialized yX8_lost.cls, .instanceMethod yX8_lost, .selects yX8_lost.cls yX8_lost yX8_lost], w ∈ lw_g := a_ps [1032, 96, 1030, 1031] rfl rfl
theorem hdX8_lost : yX8_lost.cls ≠ "java/lang/invoke/MethodHandle" ∧ yX8_lost.cls ≠ "java/lang/invoke/VarHandle" ∧ (parseMethodDescriptor yX8_lost.desc).map (fun d => d.parameters.length) = some 2 := by decide +kernel
set_option maxRecDepth 20000 in
theorem lkL_43 : Cond.methodLink RL 43 yX8_lost ∈ lw_g := a_p1 1029 rfl rfl
set_option maxRecDepth 20000 in
theorem kL_lost {l : Launch} {G : aG} (hZ : a_Z l G) : a_ConW l G shp yL_lost (.codeWith yL_lost cL_lost 5 (some .int) [(0, 10, 13, 18)]) 8 175 fL_lost :=
  a_mthW (c0 := 5) hZ.2.1 (by decide +kernel) rfl (a_fok_of [] rfl rfl) ckL_lost rfl rfl rfl rfl
    (fun s hW => ⟨⟨[], ⟨0, 10, 13, 18⟩, [], rfl, (fun w hw => by cases hw), by decide, by decide, clL_18, csL_0, by decide, Or.inr ⟨by decide +kernel, rfl⟩⟩,
      trivial⟩)
    (⟨a_CQ_v hZ.2.1 (kX8_lost hZ) lkL_43 (a_CF_v TX8 15 wkX8_lost lkL_43 hdX8_lost ⟨by decide, by decide⟩ rfl) rfl rfl, trivial⟩)
theorem moL_lost {l : Launch} {G : aG} (hZ : a_Z l G) : ∀ (as : List Value) (σ : aMem) (o : aOut) (σ' : aMem), fL_lost as σ = some (o, σ') → a_wt as ≤ as.length → σ.2.2 ≤ σ'.2.2 := a_fn_mono (fun n f na ci rk hm => by
  rcases List.mem_singleton.mp hm with e
  cases e
  exact fun as σ o σ' h hw => (kX8_lost hZ as σ o σ' h hw).1)
set_option maxRecDepth 20000 in
theorem wkL_lost : ∀ w ∈ [Cond.codeWith yL_lost cL_lost 5 (some .int) [(0, 10, 13, 18)], .initialized yL_lost.cls, .static yL_lost, .methodLink RL 131 yL_lost], w ∈ lw_g := a_ps [1028, 95, 1027, 1026] rfl rfl
theorem hdL_lost : yL_lost.cls ≠ "java/lang/invoke/MethodHandle" ∧ yL_lost.cls ≠ "java/lang/invoke/VarHandle" ∧ (parseMethodDescriptor yL_lost.desc).map (fun d => d.parameters.length) = some 4 := by decide +kernel
def eL_worth : List (Nat × aEnt) := [(0, .aload_n 2, 0, 0, []),
  (1, .iconst 0, 0, 0, []),
  (2, .aload_n 0, 0, 0, []),
  (3, .iload_n 1, 0, 0, []),
  (4, .invokevirtual 46, 0, 0, []),
  (7, .i2l, 0, 0, []),
  (8, .lastore, 0, 0, []),
  (9, .goto 9, 0, 18, []),
  (12, .astore_n 3, 0, 0, []),
  (13, .iconst 1, 1, 0, []),
  (14, .ireturn, 0, 0, []),
  (15, .astore_n 3, 0, 0, []),
  (16, .iconst 2, 2, 0, []),
  (17, .ireturn, 0, 0, []),
  (18, .iconst 0, 0, 0, []),
  (19, .ireturn, 0, 0, [])]
set_option maxRecDepth 20000 in
theorem ckL_worth : eL_worth.all (a_eok cL_worth) = true := b_code [44,3,42,27,182,0,46,133,80,167,0,9,78,4,172,78,5,172,3,172] [] (by decide +kernel) (by decide +kernel) (by decide +kernel) (by decide +kernel)
noncomputable def pL_worth : aPrg := (eL_worth,
  [], [(46, fX8_worth, 2, 8, 0)], [], [(0, 13, 3), (1, 16, 3)], [], 0, [])
noncomputable def fL_worth : aMF := a_fn none shp pL_worth 4 3
set_option maxRecDepth 20000 in
theorem wkX8_worth : ∀ w ∈ [Cond.code yX8_worth cX8_worth 5 (some .int), .initialized yX8_worth.cls, .instanceMethod yX8_worth, .selects yX8_worth.cls yX8_worth yX8_worth], w ∈ lw_g := a_ps [1048, 96, 1046, 1047] rfl rfl
theorem hdX8_worth : yX8_worth.cls ≠ "java/lang/invoke/MethodHandle" ∧ yX8_worth.cls ≠ "java/lang/invoke/VarHandle" ∧ (parseMethodDescriptor yX8_worth.desc).map (fun d => d.parameters.length) = some 1 := by decide +kernel
set_option maxRecDepth 20000 in
theorem lkL_46 : Cond.methodLink RL 46 yX8_worth ∈ lw_g := a_p1 1045 rfl rfl
set_option maxRecDepth 20000 in
theorem kL_worth {l : Launch} {G : aG} (hZ : a_Z l G) (hN : va_Nc (a_en 1) (a_en 0) (g_s G)) : a_ConW l G shp yL_worth (.codeWith yL_worth cL_worth 4 (some .int) [(0, 9, 12, 18), (0, 9, 15, 13)]) 8 152 fL_worth :=
  a_mthW (c0 := 4) hZ.2.1 (by decide +kernel) rfl (a_fok_of [] rfl rfl) ckL_worth rfl rfl rfl rfl
    (fun s hW => ⟨⟨[], ⟨0, 9, 12, 18⟩, [⟨0, 9, 15, 13⟩], rfl, (fun w hw => by cases hw), by decide, by decide, clL_18, csL_0, by decide, Or.inl ⟨3, rfl, by decide +kernel, rfl⟩⟩,
      ⟨⟨[⟨0, 9, 12, 18⟩], ⟨0, 9, 15, 13⟩, [], rfl, (fun w hw => by rcases List.mem_singleton.mp hw with rfl; exact ⟨by decide, _, clL_18, va_Nc.moved hW.alike hN⟩), by decide, by decide, clL_13, csL_1, by decide, Or.inl ⟨3, rfl, by decide +kernel, rfl⟩⟩,
      trivial⟩⟩)
    (⟨a_CQ_v hZ.2.1 (kX8_worth hZ) lkL_46 (a_CF_v TX8 15 wkX8_worth lkL_46 hdX8_worth ⟨by decide, by decide⟩ rfl) rfl rfl, trivial⟩)
theorem moL_worth {l : Launch} {G : aG} (hZ : a_Z l G) : ∀ (as : List Value) (σ : aMem) (o : aOut) (σ' : aMem), fL_worth as σ = some (o, σ') → a_wt as ≤ as.length → σ.2.2 ≤ σ'.2.2 := a_fn_mono (fun n f na ci rk hm => by
  rcases List.mem_singleton.mp hm with e
  cases e
  exact fun as σ o σ' h hw => (kX8_worth hZ as σ o σ' h hw).1)
set_option maxRecDepth 20000 in
theorem wkL_worth : ∀ w ∈ [Cond.codeWith yL_worth cL_worth 4 (some .int) [(0, 9, 12, 18), (0, 9, 15, 13)], .initialized yL_worth.cls, .static yL_worth, .methodLink RL 134 yL_worth], w ∈ lw_g := a_ps [1044, 95, 1043, 1042] rfl rfl
theorem hdL_worth : yL_worth.cls ≠ "java/lang/invoke/MethodHandle" ∧ yL_worth.cls ≠ "java/lang/invoke/VarHandle" ∧ (parseMethodDescriptor yL_worth.desc).map (fun d => d.parameters.length) = some 3 := by decide +kernel
def eL_bind : List (Nat × aEnt) := [(0, .aload_n 3, 0, 0, []),
  (1, .iconst 0, 0, 0, []),
  (2, .aload_n 0, 0, 0, []),
  (3, .iload_n 1, 0, 0, []),
  (4, .iload_n 2, 0, 0, []),
  (5, .invokevirtual 49, 0, 0, []),
  (8, .i2l, 0, 0, []),
  (9, .lastore, 0, 0, []),
  (10, .goto 7, 0, 17, []),
  (13, .astore 4, 0, 0, []),
  (15, .iconst 1, 1, 0, []),
  (16, .ireturn, 0, 0, []),
  (17, .iconst 0, 0, 0, []),
  (18, .ireturn, 0, 0, [])]
set_option maxRecDepth 20000 in
theorem ckL_bind : eL_bind.all (a_eok cL_bind) = true := b_code [45,3,42,27,28,182,0,49,133,80,167,0,7,58,4,4,172,3,172] [] (by decide +kernel) (by decide +kernel) (by decide +kernel) (by decide +kernel)
noncomputable def pL_bind : aPrg := (eL_bind,
  [], [(49, fX8_bind, 3, 8, 0)], [], [(0, 15, 4)], [], 0, [])
noncomputable def fL_bind : aMF := a_fn none shp pL_bind 5 4
set_option maxRecDepth 20000 in
theorem wkX8_bind : ∀ w ∈ [Cond.code yX8_bind cX8_bind 8 (some .int), .initialized yX8_bind.cls, .instanceMethod yX8_bind, .selects yX8_bind.cls yX8_bind yX8_bind], w ∈ lw_g := a_ps [1062, 96, 1060, 1061] rfl rfl
theorem hdX8_bind : yX8_bind.cls ≠ "java/lang/invoke/MethodHandle" ∧ yX8_bind.cls ≠ "java/lang/invoke/VarHandle" ∧ (parseMethodDescriptor yX8_bind.desc).map (fun d => d.parameters.length) = some 2 := by decide +kernel
set_option maxRecDepth 20000 in
theorem lkL_49 : Cond.methodLink RL 49 yX8_bind ∈ lw_g := a_p1 1059 rfl rfl
set_option maxRecDepth 20000 in
theorem kL_bind {l : Launch} {G : aG} (hZ : a_Z l G) : a_ConW l G shp yL_bind (.codeWith yL_bind cL_bind 5 (some .int) [(0, 10, 13, 18)]) 8 181 fL_bind :=
  a_mthW (c0 := 5) hZ.2.1 (by decide +kernel) rfl (a_fok_of [] rfl rfl) ckL_bind rfl rfl rfl rfl
    (fun s hW => ⟨⟨[], ⟨0, 10, 13, 18⟩, [], rfl, (fun w hw => by cases hw), by decide, by decide, clL_18, csL_0, by decide, Or.inr ⟨by decide +kernel, rfl⟩⟩,
      trivial⟩)
    (⟨a_CQ_v hZ.2.1 (kX8_bind hZ) lkL_49 (a_CF_v TX8 15 wkX8_bind lkL_49 hdX8_bind ⟨by decide, by decide⟩ rfl) rfl rfl, trivial⟩)
theorem moL_bind {l : Launch} {G : aG} (hZ : a_Z l G) : ∀ (as : List Value) (σ : aMem) (o : aOut) (σ' : aMem), fL_bind as σ = some (o, σ') → a_wt as ≤ as.length → σ.2.2 ≤ σ'.2.2 := a_fn_mono (fun n f na ci rk hm => by
  rcases List.mem_singleton.mp hm with e
  cases e
  exact fun as σ o σ' h hw => (kX8_bind hZ as σ o σ' h hw).1)
set_option maxRecDepth 20000 in
theorem wkL_bind : ∀ w ∈ [Cond.codeWith yL_bind cL_bind 5 (some .int) [(0, 10, 13, 18)], .initialized yL_bind.cls, .static yL_bind, .methodLink RL 137 yL_bind], w ∈ lw_g := a_ps [1058, 95, 1057, 1056] rfl rfl
theorem hdL_bind : yL_bind.cls ≠ "java/lang/invoke/MethodHandle" ∧ yL_bind.cls ≠ "java/lang/invoke/VarHandle" ∧ (parseMethodDescriptor yL_bind.desc).map (fun d => d.parameters.length) = some 4 := by decide +kernel
def eL_fire : List (Nat × aEnt) := [(0, .aload_n 2, 0, 0, []),
  (1, .iconst 0, 0, 0, []),
  (2, .aload_n 0, 0, 0, []),
  (3, .iload_n 1, 0, 0, []),
  (4, .invokevirtual 52, 0, 0, []),
  (7, .i2l, 0, 0, []),
  (8, .lastore, 0, 0, []),
  (9, .goto 6, 0, 15, []),
  (12, .astore_n 3, 0, 0, []),
  (13, .iconst 1, 1, 0, []),
  (14, .ireturn, 0, 0, []),
  (15, .iconst 0, 0, 0, []),
  (16, .ireturn, 0, 0, [])]
set_option maxRecDepth 20000 in
theorem ckL_fire : eL_fire.all (a_eok cL_fire) = true := b_code [44,3,42,27,182,0,52,133,80,167,0,6,78,4,172,3,172] [] (by decide +kernel) (by decide +kernel) (by decide +kernel) (by decide +kernel)
noncomputable def pL_fire : aPrg := (eL_fire,
  [], [(52, fX8_fire, 2, 8, 0)], [], [(1, 13, 3)], [], 0, [])
noncomputable def fL_fire : aMF := a_fn none shp pL_fire 4 3
set_option maxRecDepth 20000 in
theorem wkX8_fire : ∀ w ∈ [Cond.code yX8_fire cX8_fire 8 (some .int), .initialized yX8_fire.cls, .instanceMethod yX8_fire, .selects yX8_fire.cls yX8_fire yX8_fire], w ∈ lw_g := a_ps [1077, 96, 1075, 1076] rfl rfl
theorem hdX8_fire : yX8_fire.cls ≠ "java/lang/invoke/MethodHandle" ∧ yX8_fire.cls ≠ "java/lang/invoke/VarHandle" ∧ (parseMethodDescriptor yX8_fire.desc).map (fun d => d.parameters.length) = some 1 := by decide +kernel
set_option maxRecDepth 20000 in
theorem lkL_52 : Cond.methodLink RL 52 yX8_fire ∈ lw_g := a_p1 1074 rfl rfl
set_option maxRecDepth 20000 in
theorem kL_fire {l : Launch} {G : aG} (hZ : a_Z l G) : a_ConW l G shp yL_fire (.codeWith yL_fire cL_fire 4 (some .int) [(0, 9, 12, 13)]) 7 117 fL_fire :=
  a_mthW (c0 := 4) hZ.2.1 (by decide +kernel) rfl (a_fok_of [] rfl rfl) ckL_fire rfl rfl rfl rfl
    (fun s hW => ⟨⟨[], ⟨0, 9, 12, 13⟩, [], rfl, (fun w hw => by cases hw), by decide, by decide, clL_13, csL_1, by decide, Or.inl ⟨3, rfl, by decide +kernel, rfl⟩⟩,
      trivial⟩)
    (⟨a_CQ_v hZ.2.1 (kX8_fire hZ) lkL_52 (a_CF_v TX8 15 wkX8_fire lkL_52 hdX8_fire ⟨by decide, by decide⟩ rfl) rfl rfl, trivial⟩)
theorem moL_fire {l : Launch} {G : aG} (hZ : a_Z l G) : ∀ (as : List Value) (σ : aMem) (o : aOut) (σ' : aMem), fL_fire as σ = some (o, σ') → a_wt as ≤ as.length → σ.2.2 ≤ σ'.2.2 := a_fn_mono (fun n f na ci rk hm => by
  rcases List.mem_singleton.mp hm with e
  cases e
  exact fun as σ o σ' h hw => (kX8_fire hZ as σ o σ' h hw).1)
set_option maxRecDepth 20000 in
theorem wkL_fire : ∀ w ∈ [Cond.codeWith yL_fire cL_fire 4 (some .int) [(0, 9, 12, 13)], .initialized yL_fire.cls, .static yL_fire, .methodLink RL 140 yL_fire], w ∈ lw_g := a_ps [1073, 95, 1072, 1071] rfl rfl
theorem hdL_fire : yL_fire.cls ≠ "java/lang/invoke/MethodHandle" ∧ yL_fire.cls ≠ "java/lang/invoke/VarHandle" ∧ (parseMethodDescriptor yL_fire.desc).map (fun d => d.parameters.length) = some 3 := by decide +kernel
def eL_there : List (Nat × aEnt) := [(0, .aload_n 3, 0, 0, []),
  (1, .iconst 0, 0, 0, []),
  (2, .aload_n 0, 0, 0, []),
  (3, .iload_n 1, 0, 0, []),
  (4, .iload_n 2, 0, 0, []),
  (5, .invokevirtual 55, 0, 0, []),
  (8, .i2l, 0, 0, []),
  (9, .lastore, 0, 0, []),
  (10, .goto 11, 0, 21, []),
  (13, .astore 4, 0, 0, []),
  (15, .iconst 1, 1, 0, []),
  (16, .ireturn, 0, 0, []),
  (17, .astore 4, 0, 0, []),
  (19, .iconst 2, 2, 0, []),
  (20, .ireturn, 0, 0, []),
  (21, .iconst 0, 0, 0, []),
  (22, .ireturn, 0, 0, [])]
set_option maxRecDepth 20000 in
theorem ckL_there : eL_there.all (a_eok cL_there) = true := b_code [45,3,42,27,28,182,0,55,133,80,167,0,11,58,4,4,172,58,4,5,172,3,172] [] (by decide +kernel) (by decide +kernel) (by decide +kernel) (by decide +kernel)
noncomputable def pL_there : aPrg := (eL_there,
  [], [(55, fX8_there, 3, 8, 0)], [], [(0, 15, 4), (1, 19, 4)], [], 0, [])
noncomputable def fL_there : aMF := a_fn none shp pL_there 5 4
set_option maxRecDepth 20000 in
theorem wkX8_there : ∀ w ∈ [Cond.code yX8_there cX8_there 3 (some .int), .initialized yX8_there.cls, .instanceMethod yX8_there, .selects yX8_there.cls yX8_there yX8_there], w ∈ lw_g := a_ps [1090, 96, 1088, 1089] rfl rfl
theorem hdX8_there : yX8_there.cls ≠ "java/lang/invoke/MethodHandle" ∧ yX8_there.cls ≠ "java/lang/invoke/VarHandle" ∧ (parseMethodDescriptor yX8_there.desc).map (fun d => d.parameters.length) = some 2 := by decide +kernel
set_option maxRecDepth 20000 in
theorem lkL_55 : Cond.methodLink RL 55 yX8_there ∈ lw_g := a_p1 1087 rfl rfl
set_option maxRecDepth 20000 in
theorem kL_there {l : Launch} {G : aG} (hZ : a_Z l G) (hN : va_Nc (a_en 1) (a_en 0) (g_s G)) : a_ConW l G shp yL_there (.codeWith yL_there cL_there 5 (some .int) [(0, 10, 13, 18), (0, 10, 17, 13)]) 8 154 fL_there :=
  a_mthW (c0 := 5) hZ.2.1 (by decide +kernel) rfl (a_fok_of [] rfl rfl) ckL_there rfl rfl rfl rfl
    (fun s hW => ⟨⟨[], ⟨0, 10, 13, 18⟩, [⟨0, 10, 17, 13⟩], rfl, (fun w hw => by cases hw), by decide, by decide, clL_18, csL_0, by decide, Or.inr ⟨by decide +kernel, rfl⟩⟩,
      ⟨⟨[⟨0, 10, 13, 18⟩], ⟨0, 10, 17, 13⟩, [], rfl, (fun w hw => by rcases List.mem_singleton.mp hw with rfl; exact ⟨by decide, _, clL_18, va_Nc.moved hW.alike hN⟩), by decide, by decide, clL_13, csL_1, by decide, Or.inr ⟨by decide +kernel, rfl⟩⟩,
      trivial⟩⟩)
    (⟨a_CQ_v hZ.2.1 (kX8_there hZ) lkL_55 (a_CF_v TX8 15 wkX8_there lkL_55 hdX8_there ⟨by decide, by decide⟩ rfl) rfl rfl, trivial⟩)
theorem moL_there {l : Launch} {G : aG} (hZ : a_Z l G) : ∀ (as : List Value) (σ : aMem) (o : aOut) (σ' : aMem), fL_there as σ = some (o, σ') → a_wt as ≤ as.length → σ.2.2 ≤ σ'.2.2 := a_fn_mono (fun n f na ci rk hm => by
  rcases List.mem_singleton.mp hm with e
  cases e
  exact fun as σ o σ' h hw => (kX8_there hZ as σ o σ' h hw).1)
set_option maxRecDepth 20000 in
theorem wkL_there : ∀ w ∈ [Cond.codeWith yL_there cL_there 5 (some .int) [(0, 10, 13, 18), (0, 10, 17, 13)], .initialized yL_there.cls, .static yL_there, .methodLink RL 155 yL_there], w ∈ lw_g := a_ps [1086, 95, 1085, 1084] rfl rfl
theorem hdL_there : yL_there.cls ≠ "java/lang/invoke/MethodHandle" ∧ yL_there.cls ≠ "java/lang/invoke/VarHandle" ∧ (parseMethodDescriptor yL_there.desc).map (fun d => d.parameters.length) = some 4 := by decide +kernel
def eL_hands : List (Nat × aEnt) := [(0, .aload_n 3, 0, 0, []),
  (1, .iconst 0, 0, 0, []),
  (2, .aload_n 0, 0, 0, []),
  (3, .iload_n 1, 0, 0, []),
  (4, .iload_n 2, 0, 0, []),
  (5, .invokevirtual 58, 0, 0, []),
  (8, .i2l, 0, 0, []),
  (9, .lastore, 0, 0, []),
  (10, .goto 7, 0, 17, []),
  (13, .astore 4, 0, 0, []),
  (15, .iconst 1, 1, 0, []),
  (16, .ireturn, 0, 0, []),
  (17, .iconst 0, 0, 0, []),
  (18, .ireturn, 0, 0, [])]
set_option maxRecDepth 20000 in
theorem ckL_hands : eL_hands.all (a_eok cL_hands) = true := b_code [45,3,42,27,28,182,0,58,133,80,167,0,7,58,4,4,172,3,172] [] (by decide +kernel) (by decide +kernel) (by decide +kernel) (by decide +kernel)
noncomputable def pL_hands : aPrg := (eL_hands,
  [], [(58, fX8_hands, 3, 8, 0)], [], [(0, 15, 4)], [], 0, [])
noncomputable def fL_hands : aMF := a_fn none shp pL_hands 5 4
set_option maxRecDepth 20000 in
theorem wkX8_hands : ∀ w ∈ [Cond.code yX8_hands cX8_hands 3 (some .int), .initialized yX8_hands.cls, .instanceMethod yX8_hands, .selects yX8_hands.cls yX8_hands yX8_hands], w ∈ lw_g := a_ps [1107, 96, 1105, 1106] rfl rfl
theorem hdX8_hands : yX8_hands.cls ≠ "java/lang/invoke/MethodHandle" ∧ yX8_hands.cls ≠ "java/lang/invoke/VarHandle" ∧ (parseMethodDescriptor yX8_hands.desc).map (fun d => d.parameters.length) = some 2 := by decide +kernel
set_option maxRecDepth 20000 in
theorem lkL_58 : Cond.methodLink RL 58 yX8_hands ∈ lw_g := a_p1 1104 rfl rfl
set_option maxRecDepth 20000 in
theorem kL_hands {l : Launch} {G : aG} (hZ : a_Z l G) : a_ConW l G shp yL_hands (.codeWith yL_hands cL_hands 5 (some .int) [(0, 10, 13, 18)]) 8 133 fL_hands :=
  a_mthW (c0 := 5) hZ.2.1 (by decide +kernel) rfl (a_fok_of [] rfl rfl) ckL_hands rfl rfl rfl rfl
    (fun s hW => ⟨⟨[], ⟨0, 10, 13, 18⟩, [], rfl, (fun w hw => by cases hw), by decide, by decide, clL_18, csL_0, by decide, Or.inr ⟨by decide +kernel, rfl⟩⟩,
      trivial⟩)
    (⟨a_CQ_v hZ.2.1 (kX8_hands hZ) lkL_58 (a_CF_v TX8 15 wkX8_hands lkL_58 hdX8_hands ⟨by decide, by decide⟩ rfl) rfl rfl, trivial⟩)
theorem moL_hands {l : Launch} {G : aG} (hZ : a_Z l G) : ∀ (as : List Value) (σ : aMem) (o : aOut) (σ' : aMem), fL_hands as σ = some (o, σ') → a_wt as ≤ as.length → σ.2.2 ≤ σ'.2.2 := a_fn_mono (fun n f na ci rk hm => by
  rcases List.mem_singleton.mp hm with e
  cases e
  exact fun as σ o σ' h hw => (kX8_hands hZ as σ o σ' h hw).1)
set_option maxRecDepth 20000 in
theorem wkL_hands : ∀ w ∈ [Cond.codeWith yL_hands cL_hands 5 (some .int) [(0, 10, 13, 18)], .initialized yL_hands.cls, .static yL_hands, .methodLink RL 162 yL_hands], w ∈ lw_g := a_ps [1103, 95, 1102, 1101] rfl rfl
theorem hdL_hands : yL_hands.cls ≠ "java/lang/invoke/MethodHandle" ∧ yL_hands.cls ≠ "java/lang/invoke/VarHandle" ∧ (parseMethodDescriptor yL_hands.desc).map (fun d => d.parameters.length) = some 4 := by decide +kernel
