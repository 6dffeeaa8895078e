/-! ===== decoding by encoding: written by wip/whole/mkdec.py ===== -/
def b_bl (cc : ByteArray) : List Nat := cc.data.toList.map UInt8.toNat
abbrev b_rd (cc : ByteArray) (p b : Nat) : Prop := (Reader.u1 : Decoder Nat) cc p = .ok (b, p + 1)
theorem b_u1 {cc : ByteArray} {p b : Nat} (h : (b_bl cc)[p]? = some b) : b_rd cc p b := by
  unfold b_bl at h
  rw [List.getElem?_map] at h
  have hlt : p < cc.size := by
    cases hx : cc.data.toList[p]? with
    | none => rw [hx] at h; cases h
    | some x =>
      have := (List.getElem?_eq_some_iff.mp hx).1
      simpa using this
  have hb : cc[p].toNat = b := by
    have e : cc.data.toList[p]? = some cc[p] := by
      rw [List.getElem?_eq_getElem (by simpa using hlt)]
      rfl
    rw [e] at h
    exact Option.some.inj h
  show (dite (p < cc.size) _ _ : Decoder Nat) cc p = _
  rw [dif_pos hlt]
  show Except.ok (cc[p].toNat, p + 1) = _
  rw [hb]
theorem b_fin {cc : ByteArray} {pc k : Nat} {i : Instr} (h : (Decoder.instr pc).runAt cc pc = .ok (i, pc + k)) : decode cc pc = .ok (i, k) := by
  unfold decode
  rw [h]
  show Except.ok (i, pc + k - pc) = _
  rw [Nat.add_sub_cancel_left]
def b_s1 (x : Int) : Nat := if 0 ≤ x then x.toNat else (x + 256).toNat
def b_s2 (x : Int) : Nat := if 0 ≤ x then x.toNat else (x + 65536).toNat
theorem b_s1_ok {x : Int} (h : -128 ≤ x ∧ x < 128) : Reader.signed 8 (b_s1 x) = x := by
  unfold Reader.signed b_s1
  split <;> split <;> omega
theorem b_s2_ok {x : Int} (h : -32768 ≤ x ∧ x < 32768) : Reader.signed 16 (b_s2 x / 256 * 256 + b_s2 x % 256) = x := by
  rw [Nat.div_add_mod' (b_s2 x) 256]
  unfold Reader.signed b_s2
  split <;> split <;> omega
def b_enc (i : Instr) : Option (List Nat) := match i with
  | .iconst n => if -1 ≤ n ∧ n ≤ 5 then some [(n + 3).toNat] else none
  | .lconst k => some [9 + k.val]
  | .iaload => some [46]
  | .laload => some [47]
  | .baload => some [51]
  | .iastore => some [79]
  | .lastore => some [80]
  | .bastore => some [84]
  | .pop => some [87]
  | .dup => some [89]
  | .dup2 => some [92]
  | .iadd => some [96]
  | .isub => some [100]
  | .lsub => some [101]
  | .imul => some [104]
  | .idiv => some [108]
  | .irem => some [112]
  | .ineg => some [116]
  | .ishl => some [120]
  | .lshl => some [121]
  | .ishr => some [122]
  | .iushr => some [124]
  | .iand => some [126]
  | .ior => some [128]
  | .lor => some [129]
  | .ixor => some [130]
  | .i2l => some [133]
  | .i2b => some [145]
  | .lcmp => some [148]
  | .ireturn => some [172]
  | .lreturn => some [173]
  | .return_ => some [177]
  | .arraylength => some [190]
  | .athrow => some [191]
  | .iload_n k => some [26 + k.val]
  | .lload_n k => some [30 + k.val]
  | .aload_n k => some [42 + k.val]
  | .istore_n k => some [59 + k.val]
  | .lstore_n k => some [63 + k.val]
  | .astore_n k => some [75 + k.val]
  | .ldc n => some [18, n]
  | .iload n => some [21, n]
  | .lload n => some [22, n]
  | .aload n => some [25, n]
  | .istore n => some [54, n]
  | .lstore n => some [55, n]
  | .astore n => some [58, n]
  | .ldc_w n => some [19, n / 256, n % 256]
  | .ldc2_w n => some [20, n / 256, n % 256]
  | .getfield n => some [180, n / 256, n % 256]
  | .putfield n => some [181, n / 256, n % 256]
  | .invokevirtual n => some [182, n / 256, n % 256]
  | .invokespecial n => some [183, n / 256, n % 256]
  | .invokestatic n => some [184, n / 256, n % 256]
  | .new n => some [187, n / 256, n % 256]
  | .sipush n => if -32768 ≤ n ∧ n < 32768 then some [17, b_s2 n / 256, b_s2 n % 256] else none
  | .goto n => if -32768 ≤ n ∧ n < 32768 then some [167, b_s2 n / 256, b_s2 n % 256] else none
  | .bipush n => if -128 ≤ n ∧ n < 128 then some [16, b_s1 n] else none
  | .iinc k n => if -128 ≤ n ∧ n < 128 then some [132, k, b_s1 n] else none
  | .ifCond .eq n => if -32768 ≤ n ∧ n < 32768 then some [153, b_s2 n / 256, b_s2 n % 256] else none
  | .ifCond .ne n => if -32768 ≤ n ∧ n < 32768 then some [154, b_s2 n / 256, b_s2 n % 256] else none
  | .ifCond .lt n => if -32768 ≤ n ∧ n < 32768 then some [155, b_s2 n / 256, b_s2 n % 256] else none
  | .ifCond .ge n => if -32768 ≤ n ∧ n < 32768 then some [156, b_s2 n / 256, b_s2 n % 256] else none
  | .ifCond .gt n => if -32768 ≤ n ∧ n < 32768 then some [157, b_s2 n / 256, b_s2 n % 256] else none
  | .ifCond .le n => if -32768 ≤ n ∧ n < 32768 then some [158, b_s2 n / 256, b_s2 n % 256] else none
  | .if_icmp .eq n => if -32768 ≤ n ∧ n < 32768 then some [159, b_s2 n / 256, b_s2 n % 256] else none
  | .if_icmp .ne n => if -32768 ≤ n ∧ n < 32768 then some [160, b_s2 n / 256, b_s2 n % 256] else none
  | .if_icmp .lt n => if -32768 ≤ n ∧ n < 32768 then some [161, b_s2 n / 256, b_s2 n % 256] else none
  | .if_icmp .ge n => if -32768 ≤ n ∧ n < 32768 then some [162, b_s2 n / 256, b_s2 n % 256] else none
  | .if_icmp .gt n => if -32768 ≤ n ∧ n < 32768 then some [163, b_s2 n / 256, b_s2 n % 256] else none
  | .if_icmp .le n => if -32768 ≤ n ∧ n < 32768 then some [164, b_s2 n / 256, b_s2 n % 256] else none
  | _ => none
theorem b_g0 {cc : ByteArray} {pc : Nat} {bs rest : List Nat} (h : ∀ k b, bs[k]? = some b → b_rd cc (pc + k) b) : (∀ b, bs[0]? = some b → b_rd cc pc b) := fun b hb => h 0 b hb
set_option maxHeartbeats 4000000 in
theorem b_enc_ok {cc : ByteArray} {pc : Nat} {i : Instr} {bs : List Nat} (he : b_enc i = some bs) (h : ∀ (k b : Nat), bs[k]? = some b → b_rd cc (pc + k) b) : decode cc pc = .ok (i, bs.length) := by
  cases i with
  | iconst n =>
    unfold b_enc at he; simp only at he
    split at he
    · rename_i hn
      cases he
      refine b_fin ?_
      rcases (show n = -1 ∨ n = 0 ∨ n = 1 ∨ n = 2 ∨ n = 3 ∨ n = 4 ∨ n = 5 by omega) with rfl | rfl | rfl | rfl | rfl | rfl | rfl
      · show ((Reader.u1 : Decoder Nat) cc pc).bind _ = _
        rw [show (Reader.u1 : Decoder Nat) cc pc = .ok (2, pc + 1) from h 0 _ rfl]
        rfl
      · show ((Reader.u1 : Decoder Nat) cc pc).bind _ = _
        rw [show (Reader.u1 : Decoder Nat) cc pc = .ok (3, pc + 1) from h 0 _ rfl]
        rfl
      · show ((Reader.u1 : Decoder Nat) cc pc).bind _ = _
        rw [show (Reader.u1 : Decoder Nat) cc pc = .ok (4, pc + 1) from h 0 _ rfl]
        rfl
      · show ((Reader.u1 : Decoder Nat) cc pc).bind _ = _
        rw [show (Reader.u1 : Decoder Nat) cc pc = .ok (5, pc + 1) from h 0 _ rfl]
        rfl
      · show ((Reader.u1 : Decoder Nat) cc pc).bind _ = _
        rw [show (Reader.u1 : Decoder Nat) cc pc = .ok (6, pc + 1) from h 0 _ rfl]
        rfl
      · show ((Reader.u1 : Decoder Nat) cc pc).bind _ = _
        rw [show (Reader.u1 : Decoder Nat) cc pc = .ok (7, pc + 1) from h 0 _ rfl]
        rfl
      · show ((Reader.u1 : Decoder Nat) cc pc).bind _ = _
        rw [show (Reader.u1 : Decoder Nat) cc pc = .ok (8, pc + 1) from h 0 _ rfl]
        rfl
    · cases he
  | lconst k =>
    cases he
    refine b_fin ?_
    match k, h with
    | ⟨0, _⟩, h =>
      show ((Reader.u1 : Decoder Nat) cc pc).bind _ = _
      rw [show (Reader.u1 : Decoder Nat) cc pc = .ok (9, pc + 1) from h 0 _ rfl]
      rfl
    | ⟨1, _⟩, h =>
      show ((Reader.u1 : Decoder Nat) cc pc).bind _ = _
      rw [show (Reader.u1 : Decoder Nat) cc pc = .ok (10, pc + 1) from h 0 _ rfl]
      rfl
  | iaload =>
    cases he
    refine b_fin ?_
    show ((Reader.u1 : Decoder Nat) cc pc).bind _ = _
    rw [show (Reader.u1 : Decoder Nat) cc pc = .ok (46, pc + 1) from h 0 _ rfl]
    rfl
  | laload =>
    cases he
    refine b_fin ?_
    show ((Reader.u1 : Decoder Nat) cc pc).bind _ = _
    rw [show (Reader.u1 : Decoder Nat) cc pc = .ok (47, pc + 1) from h 0 _ rfl]
    rfl
  | baload =>
    cases he
    refine b_fin ?_
    show ((Reader.u1 : Decoder Nat) cc pc).bind _ = _
    rw [show (Reader.u1 : Decoder Nat) cc pc = .ok (51, pc + 1) from h 0 _ rfl]
    rfl
  | iastore =>
    cases he
    refine b_fin ?_
    show ((Reader.u1 : Decoder Nat) cc pc).bind _ = _
    rw [show (Reader.u1 : Decoder Nat) cc pc = .ok (79, pc + 1) from h 0 _ rfl]
    rfl
  | lastore =>
    cases he
    refine b_fin ?_
    show ((Reader.u1 : Decoder Nat) cc pc).bind _ = _
    rw [show (Reader.u1 : Decoder Nat) cc pc = .ok (80, pc + 1) from h 0 _ rfl]
    rfl
  | bastore =>
    cases he
    refine b_fin ?_
    show ((Reader.u1 : Decoder Nat) cc pc).bind _ = _
    rw [show (Reader.u1 : Decoder Nat) cc pc = .ok (84, pc + 1) from h 0 _ rfl]
    rfl
  | pop =>
    cases he
    refine b_fin ?_
    show ((Reader.u1 : Decoder Nat) cc pc).bind _ = _
    rw [show (Reader.u1 : Decoder Nat) cc pc = .ok (87, pc + 1) from h 0 _ rfl]
    rfl
  | dup =>
    cases he
    refine b_fin ?_
    show ((Reader.u1 : Decoder Nat) cc pc).bind _ = _
    rw [show (Reader.u1 : Decoder Nat) cc pc = .ok (89, pc + 1) from h 0 _ rfl]
    rfl
  | dup2 =>
    cases he
    refine b_fin ?_
    show ((Reader.u1 : Decoder Nat) cc pc).bind _ = _
    rw [show (Reader.u1 : Decoder Nat) cc pc = .ok (92, pc + 1) from h 0 _ rfl]
    rfl
  | iadd =>
    cases he
    refine b_fin ?_
    show ((Reader.u1 : Decoder Nat) cc pc).bind _ = _
    rw [show (Reader.u1 : Decoder Nat) cc pc = .ok (96, pc + 1) from h 0 _ rfl]
    rfl
  | isub =>
    cases he
    refine b_fin ?_
    show ((Reader.u1 : Decoder Nat) cc pc).bind _ = _
    rw [show (Reader.u1 : Decoder Nat) cc pc = .ok (100, pc + 1) from h 0 _ rfl]
    rfl
  | lsub =>
    cases he
    refine b_fin ?_
    show ((Reader.u1 : Decoder Nat) cc pc).bind _ = _
    rw [show (Reader.u1 : Decoder Nat) cc pc = .ok (101, pc + 1) from h 0 _ rfl]
    rfl
  | imul =>
    cases he
    refine b_fin ?_
    show ((Reader.u1 : Decoder Nat) cc pc).bind _ = _
    rw [show (Reader.u1 : Decoder Nat) cc pc = .ok (104, pc + 1) from h 0 _ rfl]
    rfl
  | idiv =>
    cases he
    refine b_fin ?_
    show ((Reader.u1 : Decoder Nat) cc pc).bind _ = _
    rw [show (Reader.u1 : Decoder Nat) cc pc = .ok (108, pc + 1) from h 0 _ rfl]
    rfl
  | irem =>
    cases he
    refine b_fin ?_
    show ((Reader.u1 : Decoder Nat) cc pc).bind _ = _
    rw [show (Reader.u1 : Decoder Nat) cc pc = .ok (112, pc + 1) from h 0 _ rfl]
    rfl
  | ineg =>
    cases he
    refine b_fin ?_
    show ((Reader.u1 : Decoder Nat) cc pc).bind _ = _
    rw [show (Reader.u1 : Decoder Nat) cc pc = .ok (116, pc + 1) from h 0 _ rfl]
    rfl
  | ishl =>
    cases he
    refine b_fin ?_
    show ((Reader.u1 : Decoder Nat) cc pc).bind _ = _
    rw [show (Reader.u1 : Decoder Nat) cc pc = .ok (120, pc + 1) from h 0 _ rfl]
    rfl
  | lshl =>
    cases he
    refine b_fin ?_
    show ((Reader.u1 : Decoder Nat) cc pc).bind _ = _
    rw [show (Reader.u1 : Decoder Nat) cc pc = .ok (121, pc + 1) from h 0 _ rfl]
    rfl
  | ishr =>
    cases he
    refine b_fin ?_
    show ((Reader.u1 : Decoder Nat) cc pc).bind _ = _
    rw [show (Reader.u1 : Decoder Nat) cc pc = .ok (122, pc + 1) from h 0 _ rfl]
    rfl
  | iushr =>
    cases he
    refine b_fin ?_
    show ((Reader.u1 : Decoder Nat) cc pc).bind _ = _
    rw [show (Reader.u1 : Decoder Nat) cc pc = .ok (124, pc + 1) from h 0 _ rfl]
    rfl
  | iand =>
    cases he
    refine b_fin ?_
    show ((Reader.u1 : Decoder Nat) cc pc).bind _ = _
    rw [show (Reader.u1 : Decoder Nat) cc pc = .ok (126, pc + 1) from h 0 _ rfl]
    rfl
  | ior =>
    cases he
    refine b_fin ?_
    show ((Reader.u1 : Decoder Nat) cc pc).bind _ = _
    rw [show (Reader.u1 : Decoder Nat) cc pc = .ok (128, pc + 1) from h 0 _ rfl]
    rfl
  | lor =>
    cases he
    refine b_fin ?_
    show ((Reader.u1 : Decoder Nat) cc pc).bind _ = _
    rw [show (Reader.u1 : Decoder Nat) cc pc = .ok (129, pc + 1) from h 0 _ rfl]
    rfl
  | ixor =>
    cases he
    refine b_fin ?_
    show ((Reader.u1 : Decoder Nat) cc pc).bind _ = _
    rw [show (Reader.u1 : Decoder Nat) cc pc = .ok (130, pc + 1) from h 0 _ rfl]
    rfl
  | i2l =>
    cases he
    refine b_fin ?_
    show ((Reader.u1 : Decoder Nat) cc pc).bind _ = _
    rw [show (Reader.u1 : Decoder Nat) cc pc = .ok (133, pc + 1) from h 0 _ rfl]
    rfl
  | i2b =>
    cases he
    refine b_fin ?_
    show ((Reader.u1 : Decoder Nat) cc pc).bind _ = _
    rw [show (Reader.u1 : Decoder Nat) cc pc = .ok (145, pc + 1) from h 0 _ rfl]
    rfl
  | lcmp =>
    cases he
    refine b_fin ?_
    show ((Reader.u1 : Decoder Nat) cc pc).bind _ = _
    rw [show (Reader.u1 : Decoder Nat) cc pc = .ok (148, pc + 1) from h 0 _ rfl]
    rfl
  | ireturn =>
    cases he
    refine b_fin ?_
    show ((Reader.u1 : Decoder Nat) cc pc).bind _ = _
    rw [show (Reader.u1 : Decoder Nat) cc pc = .ok (172, pc + 1) from h 0 _ rfl]
    rfl
  | lreturn =>
    cases he
    refine b_fin ?_
    show ((Reader.u1 : Decoder Nat) cc pc).bind _ = _
    rw [show (Reader.u1 : Decoder Nat) cc pc = .ok (173, pc + 1) from h 0 _ rfl]
    rfl
  | return_ =>
    cases he
    refine b_fin ?_
    show ((Reader.u1 : Decoder Nat) cc pc).bind _ = _
    rw [show (Reader.u1 : Decoder Nat) cc pc = .ok (177, pc + 1) from h 0 _ rfl]
    rfl
  | arraylength =>
    cases he
    refine b_fin ?_
    show ((Reader.u1 : Decoder Nat) cc pc).bind _ = _
    rw [show (Reader.u1 : Decoder Nat) cc pc = .ok (190, pc + 1) from h 0 _ rfl]
    rfl
  | athrow =>
    cases he
    refine b_fin ?_
    show ((Reader.u1 : Decoder Nat) cc pc).bind _ = _
    rw [show (Reader.u1 : Decoder Nat) cc pc = .ok (191, pc + 1) from h 0 _ rfl]
    rfl
  | iload_n k =>
    cases he
    refine b_fin ?_
    match k, h with
    | ⟨0, _⟩, h =>
      show ((Reader.u1 : Decoder Nat) cc pc).bind _ = _
      rw [show (Reader.u1 : Decoder Nat) cc pc = .ok (26, pc + 1) from h 0 _ rfl]
      rfl
    | ⟨1, _⟩, h =>
      show ((Reader.u1 : Decoder Nat) cc pc).bind _ = _
      rw [show (Reader.u1 : Decoder Nat) cc pc = .ok (27, pc + 1) from h 0 _ rfl]
      rfl
    | ⟨2, _⟩, h =>
      show ((Reader.u1 : Decoder Nat) cc pc).bind _ = _
      rw [show (Reader.u1 : Decoder Nat) cc pc = .ok (28, pc + 1) from h 0 _ rfl]
      rfl
    | ⟨3, _⟩, h =>
      show ((Reader.u1 : Decoder Nat) cc pc).bind _ = _
      rw [show (Reader.u1 : Decoder Nat) cc pc = .ok (29, pc + 1) from h 0 _ rfl]
      rfl
  | lload_n k =>
    cases he
    refine b_fin ?_
    match k, h with
    | ⟨0, _⟩, h =>
      show ((Reader.u1 : Decoder Nat) cc pc).bind _ = _
      rw [show (Reader.u1 : Decoder Nat) cc pc = .ok (30, pc + 1) from h 0 _ rfl]
      rfl
    | ⟨1, _⟩, h =>
      show ((Reader.u1 : Decoder Nat) cc pc).bind _ = _
      rw [show (Reader.u1 : Decoder Nat) cc pc = .ok (31, pc + 1) from h 0 _ rfl]
      rfl
    | ⟨2, _⟩, h =>
      show ((Reader.u1 : Decoder Nat) cc pc).bind _ = _
      rw [show (Reader.u1 : Decoder Nat) cc pc = .ok (32, pc + 1) from h 0 _ rfl]
      rfl
    | ⟨3, _⟩, h =>
      show ((Reader.u1 : Decoder Nat) cc pc).bind _ = _
      rw [show (Reader.u1 : Decoder Nat) cc pc = .ok (33, pc + 1) from h 0 _ rfl]
      rfl
  | aload_n k =>
    cases he
    refine b_fin ?_
    match k, h with
    | ⟨0, _⟩, h =>
      show ((Reader.u1 : Decoder Nat) cc pc).bind _ = _
      rw [show (Reader.u1 : Decoder Nat) cc pc = .ok (42, pc + 1) from h 0 _ rfl]
      rfl
    | ⟨1, _⟩, h =>
      show ((Reader.u1 : Decoder Nat) cc pc).bind _ = _
      rw [show (Reader.u1 : Decoder Nat) cc pc = .ok (43, pc + 1) from h 0 _ rfl]
      rfl
    | ⟨2, _⟩, h =>
      show ((Reader.u1 : Decoder Nat) cc pc).bind _ = _
      rw [show (Reader.u1 : Decoder Nat) cc pc = .ok (44, pc + 1) from h 0 _ rfl]
      rfl
    | ⟨3, _⟩, h =>
      show ((Reader.u1 : Decoder Nat) cc pc).bind _ = _
      rw [show (Reader.u1 : Decoder Nat) cc pc = .ok (45, pc + 1) from h 0 _ rfl]
      rfl
  | istore_n k =>
    cases he
    refine b_fin ?_
    match k, h with
    | ⟨0, _⟩, h =>
      show ((Reader.u1 : Decoder Nat) cc pc).bind _ = _
      rw [show (Reader.u1 : Decoder Nat) cc pc = .ok (59, pc + 1) from h 0 _ rfl]
      rfl
    | ⟨1, _⟩, h =>
      show ((Reader.u1 : Decoder Nat) cc pc).bind _ = _
      rw [show (Reader.u1 : Decoder Nat) cc pc = .ok (60, pc + 1) from h 0 _ rfl]
      rfl
    | ⟨2, _⟩, h =>
      show ((Reader.u1 : Decoder Nat) cc pc).bind _ = _
      rw [show (Reader.u1 : Decoder Nat) cc pc = .ok (61, pc + 1) from h 0 _ rfl]
      rfl
    | ⟨3, _⟩, h =>
      show ((Reader.u1 : Decoder Nat) cc pc).bind _ = _
      rw [show (Reader.u1 : Decoder Nat) cc pc = .ok (62, pc + 1) from h 0 _ rfl]
      rfl
  | lstore_n k =>
    cases he
    refine b_fin ?_
    match k, h with
    | ⟨0, _⟩, h =>
      show ((Reader.u1 : Decoder Nat) cc pc).bind _ = _
      rw [show (Reader.u1 : Decoder Nat) cc pc = .ok (63, pc + 1) from h 0 _ rfl]
      rfl
    | ⟨1, _⟩, h =>
      show ((Reader.u1 : Decoder Nat) cc pc).bind _ = _
      rw [show (Reader.u1 : Decoder Nat) cc pc = .ok (64, pc + 1) from h 0 _ rfl]
      rfl
    | ⟨2, _⟩, h =>
      show ((Reader.u1 : Decoder Nat) cc pc).bind _ = _
      rw [show (Reader.u1 : Decoder Nat) cc pc = .ok (65, pc + 1) from h 0 _ rfl]
      rfl
    | ⟨3, _⟩, h =>
      show ((Reader.u1 : Decoder Nat) cc pc).bind _ = _
      rw [show (Reader.u1 : Decoder Nat) cc pc = .ok (66, pc + 1) from h 0 _ rfl]
      rfl
  | astore_n k =>
    cases he
    refine b_fin ?_
    match k, h with
    | ⟨0, _⟩, h =>
      show ((Reader.u1 : Decoder Nat) cc pc).bind _ = _
      rw [show (Reader.u1 : Decoder Nat) cc pc = .ok (75, pc + 1) from h 0 _ rfl]
      rfl
    | ⟨1, _⟩, h =>
      show ((Reader.u1 : Decoder Nat) cc pc).bind _ = _
      rw [show (Reader.u1 : Decoder Nat) cc pc = .ok (76, pc + 1) from h 0 _ rfl]
      rfl
    | ⟨2, _⟩, h =>
      show ((Reader.u1 : Decoder Nat) cc pc).bind _ = _
      rw [show (Reader.u1 : Decoder Nat) cc pc = .ok (77, pc + 1) from h 0 _ rfl]
      rfl
    | ⟨3, _⟩, h =>
      show ((Reader.u1 : Decoder Nat) cc pc).bind _ = _
      rw [show (Reader.u1 : Decoder Nat) cc pc = .ok (78, pc + 1) from h 0 _ rfl]
      rfl
  | ldc n =>
    cases he
    refine b_fin ?_
    show ((Reader.u1 : Decoder Nat) cc pc).bind _ = _
    rw [show (Reader.u1 : Decoder Nat) cc pc = .ok (18, pc + 1) from h 0 _ rfl]
    show Except.bind ((Reader.u1 : Decoder Nat) cc (pc + 1)) _ = _
    rw [show (Reader.u1 : Decoder Nat) cc (pc + 1) = .ok (n, pc + 1 + 1) from h 1 _ rfl]
    rfl
  | iload n =>
    cases he
    refine b_fin ?_
    show ((Reader.u1 : Decoder Nat) cc pc).bind _ = _
    rw [show (Reader.u1 : Decoder Nat) cc pc = .ok (21, pc + 1) from h 0 _ rfl]
    show Except.bind ((Reader.u1 : Decoder Nat) cc (pc + 1)) _ = _
    rw [show (Reader.u1 : Decoder Nat) cc (pc + 1) = .ok (n, pc + 1 + 1) from h 1 _ rfl]
    rfl
  | lload n =>
    cases he
    refine b_fin ?_
    show ((Reader.u1 : Decoder Nat) cc pc).bind _ = _
    rw [show (Reader.u1 : Decoder Nat) cc pc = .ok (22, pc + 1) from h 0 _ rfl]
    show Except.bind ((Reader.u1 : Decoder Nat) cc (pc + 1)) _ = _
    rw [show (Reader.u1 : Decoder Nat) cc (pc + 1) = .ok (n, pc + 1 + 1) from h 1 _ rfl]
    rfl
  | aload n =>
    cases he
    refine b_fin ?_
    show ((Reader.u1 : Decoder Nat) cc pc).bind _ = _
    rw [show (Reader.u1 : Decoder Nat) cc pc = .ok (25, pc + 1) from h 0 _ rfl]
    show Except.bind ((Reader.u1 : Decoder Nat) cc (pc + 1)) _ = _
    rw [show (Reader.u1 : Decoder Nat) cc (pc + 1) = .ok (n, pc + 1 + 1) from h 1 _ rfl]
    rfl
  | istore n =>
    cases he
    refine b_fin ?_
    show ((Reader.u1 : Decoder Nat) cc pc).bind _ = _
    rw [show (Reader.u1 : Decoder Nat) cc pc = .ok (54, pc + 1) from h 0 _ rfl]
    show Except.bind ((Reader.u1 : Decoder Nat) cc (pc + 1)) _ = _
    rw [show (Reader.u1 : Decoder Nat) cc (pc + 1) = .ok (n, pc + 1 + 1) from h 1 _ rfl]
    rfl
  | lstore n =>
    cases he
    refine b_fin ?_
    show ((Reader.u1 : Decoder Nat) cc pc).bind _ = _
    rw [show (Reader.u1 : Decoder Nat) cc pc = .ok (55, pc + 1) from h 0 _ rfl]
    show Except.bind ((Reader.u1 : Decoder Nat) cc (pc + 1)) _ = _
    rw [show (Reader.u1 : Decoder Nat) cc (pc + 1) = .ok (n, pc + 1 + 1) from h 1 _ rfl]
    rfl
  | astore n =>
    cases he
    refine b_fin ?_
    show ((Reader.u1 : Decoder Nat) cc pc).bind _ = _
    rw [show (Reader.u1 : Decoder Nat) cc pc = .ok (58, pc + 1) from h 0 _ rfl]
    show Except.bind ((Reader.u1 : Decoder Nat) cc (pc + 1)) _ = _
    rw [show (Reader.u1 : Decoder Nat) cc (pc + 1) = .ok (n, pc + 1 + 1) from h 1 _ rfl]
    rfl
  | ldc_w n =>
    cases he
    refine b_fin ?_
    show ((Reader.u1 : Decoder Nat) cc pc).bind _ = _
    rw [show (Reader.u1 : Decoder Nat) cc pc = .ok (19, pc + 1) from h 0 _ rfl]
    show Except.bind (Except.bind ((Reader.u1 : Decoder Nat) cc (pc + 1)) _) _ = _
    rw [show (Reader.u1 : Decoder Nat) cc (pc + 1) = .ok (n / 256, pc + 1 + 1) from h 1 _ rfl]
    show Except.bind (Except.bind ((Reader.u1 : Decoder Nat) cc (pc + 2)) _) _ = _
    rw [show (Reader.u1 : Decoder Nat) cc (pc + 2) = .ok (n % 256, pc + 2 + 1) from h 2 _ rfl]
    show Except.ok (Instr.ldc_w (n / 256 * 256 + n % 256), pc + 3) = _
    rw [Nat.div_add_mod' n 256]
    rfl
  | ldc2_w n =>
    cases he
    refine b_fin ?_
    show ((Reader.u1 : Decoder Nat) cc pc).bind _ = _
    rw [show (Reader.u1 : Decoder Nat) cc pc = .ok (20, pc + 1) from h 0 _ rfl]
    show Except.bind (Except.bind ((Reader.u1 : Decoder Nat) cc (pc + 1)) _) _ = _
    rw [show (Reader.u1 : Decoder Nat) cc (pc + 1) = .ok (n / 256, pc + 1 + 1) from h 1 _ rfl]
    show Except.bind (Except.bind ((Reader.u1 : Decoder Nat) cc (pc + 2)) _) _ = _
    rw [show (Reader.u1 : Decoder Nat) cc (pc + 2) = .ok (n % 256, pc + 2 + 1) from h 2 _ rfl]
    show Except.ok (Instr.ldc2_w (n / 256 * 256 + n % 256), pc + 3) = _
    rw [Nat.div_add_mod' n 256]
    rfl
  | getfield n =>
    cases he
    refine b_fin ?_
    show ((Reader.u1 : Decoder Nat) cc pc).bind _ = _
    rw [show (Reader.u1 : Decoder Nat) cc pc = .ok (180, pc + 1) from h 0 _ rfl]
    show Except.bind (Except.bind ((Reader.u1 : Decoder Nat) cc (pc + 1)) _) _ = _
    rw [show (Reader.u1 : Decoder Nat) cc (pc + 1) = .ok (n / 256, pc + 1 + 1) from h 1 _ rfl]
    show Except.bind (Except.bind ((Reader.u1 : Decoder Nat) cc (pc + 2)) _) _ = _
    rw [show (Reader.u1 : Decoder Nat) cc (pc + 2) = .ok (n % 256, pc + 2 + 1) from h 2 _ rfl]
    show Except.ok (Instr.getfield (n / 256 * 256 + n % 256), pc + 3) = _
    rw [Nat.div_add_mod' n 256]
    rfl
  | putfield n =>
    cases he
    refine b_fin ?_
    show ((Reader.u1 : Decoder Nat) cc pc).bind _ = _
    rw [show (Reader.u1 : Decoder Nat) cc pc = .ok (181, pc + 1) from h 0 _ rfl]
    show Except.bind (Except.bind ((Reader.u1 : Decoder Nat) cc (pc + 1)) _) _ = _
    rw [show (Reader.u1 : Decoder Nat) cc (pc + 1) = .ok (n / 256, pc + 1 + 1) from h 1 _ rfl]
    show Except.bind (Except.bind ((Reader.u1 : Decoder Nat) cc (pc + 2)) _) _ = _
    rw [show (Reader.u1 : Decoder Nat) cc (pc + 2) = .ok (n % 256, pc + 2 + 1) from h 2 _ rfl]
    show Except.ok (Instr.putfield (n / 256 * 256 + n % 256), pc + 3) = _
    rw [Nat.div_add_mod' n 256]
    rfl
  | invokevirtual n =>
    cases he
    refine b_fin ?_
    show ((Reader.u1 : Decoder Nat) cc pc).bind _ = _
    rw [show (Reader.u1 : Decoder Nat) cc pc = .ok (182, pc + 1) from h 0 _ rfl]
    show Except.bind (Except.bind ((Reader.u1 : Decoder Nat) cc (pc + 1)) _) _ = _
    rw [show (Reader.u1 : Decoder Nat) cc (pc + 1) = .ok (n / 256, pc + 1 + 1) from h 1 _ rfl]
    show Except.bind (Except.bind ((Reader.u1 : Decoder Nat) cc (pc + 2)) _) _ = _
    rw [show (Reader.u1 : Decoder Nat) cc (pc + 2) = .ok (n % 256, pc + 2 + 1) from h 2 _ rfl]
    show Except.ok (Instr.invokevirtual (n / 256 * 256 + n % 256), pc + 3) = _
    rw [Nat.div_add_mod' n 256]
    rfl
  | invokespecial n =>
    cases he
    refine b_fin ?_
    show ((Reader.u1 : Decoder Nat) cc pc).bind _ = _
    rw [show (Reader.u1 : Decoder Nat) cc pc = .ok (183, pc + 1) from h 0 _ rfl]
    show Except.bind (Except.bind ((Reader.u1 : Decoder Nat) cc (pc + 1)) _) _ = _
    rw [show (Reader.u1 : Decoder Nat) cc (pc + 1) = .ok (n / 256, pc + 1 + 1) from h 1 _ rfl]
    show Except.bind (Except.bind ((Reader.u1 : Decoder Nat) cc (pc + 2)) _) _ = _
    rw [show (Reader.u1 : Decoder Nat) cc (pc + 2) = .ok (n % 256, pc + 2 + 1) from h 2 _ rfl]
    show Except.ok (Instr.invokespecial (n / 256 * 256 + n % 256), pc + 3) = _
    rw [Nat.div_add_mod' n 256]
    rfl
  | invokestatic n =>
    cases he
    refine b_fin ?_
    show ((Reader.u1 : Decoder Nat) cc pc).bind _ = _
    rw [show (Reader.u1 : Decoder Nat) cc pc = .ok (184, pc + 1) from h 0 _ rfl]
    show Except.bind (Except.bind ((Reader.u1 : Decoder Nat) cc (pc + 1)) _) _ = _
    rw [show (Reader.u1 : Decoder Nat) cc (pc + 1) = .ok (n / 256, pc + 1 + 1) from h 1 _ rfl]
    show Except.bind (Except.bind ((Reader.u1 : Decoder Nat) cc (pc + 2)) _) _ = _
    rw [show (Reader.u1 : Decoder Nat) cc (pc + 2) = .ok (n % 256, pc + 2 + 1) from h 2 _ rfl]
    show Except.ok (Instr.invokestatic (n / 256 * 256 + n % 256), pc + 3) = _
    rw [Nat.div_add_mod' n 256]
    rfl
  | new n =>
    cases he
    refine b_fin ?_
    show ((Reader.u1 : Decoder Nat) cc pc).bind _ = _
    rw [show (Reader.u1 : Decoder Nat) cc pc = .ok (187, pc + 1) from h 0 _ rfl]
    show Except.bind (Except.bind ((Reader.u1 : Decoder Nat) cc (pc + 1)) _) _ = _
    rw [show (Reader.u1 : Decoder Nat) cc (pc + 1) = .ok (n / 256, pc + 1 + 1) from h 1 _ rfl]
    show Except.bind (Except.bind ((Reader.u1 : Decoder Nat) cc (pc + 2)) _) _ = _
    rw [show (Reader.u1 : Decoder Nat) cc (pc + 2) = .ok (n % 256, pc + 2 + 1) from h 2 _ rfl]
    show Except.ok (Instr.new (n / 256 * 256 + n % 256), pc + 3) = _
    rw [Nat.div_add_mod' n 256]
    rfl
  | sipush n =>
    unfold b_enc at he; simp only at he
    split at he
    · rename_i hn
      cases he
      refine b_fin ?_
      show ((Reader.u1 : Decoder Nat) cc pc).bind _ = _
      rw [show (Reader.u1 : Decoder Nat) cc pc = .ok (17, pc + 1) from h 0 _ rfl]
      show Except.bind (Except.map _ (Except.bind ((Reader.u1 : Decoder Nat) cc (pc + 1)) _)) _ = _
      rw [show (Reader.u1 : Decoder Nat) cc (pc + 1) = .ok (b_s2 n / 256, pc + 1 + 1) from h 1 _ rfl]
      show Except.bind (Except.map _ (Except.bind ((Reader.u1 : Decoder Nat) cc (pc + 2)) _)) _ = _
      rw [show (Reader.u1 : Decoder Nat) cc (pc + 2) = .ok (b_s2 n % 256, pc + 2 + 1) from h 2 _ rfl]
      show Except.ok (Instr.sipush (Reader.signed 16 (b_s2 n / 256 * 256 + b_s2 n % 256)), pc + 3) = _
      rw [b_s2_ok hn]
      rfl
    · cases he
  | goto n =>
    unfold b_enc at he; simp only at he
    split at he
    · rename_i hn
      cases he
      refine b_fin ?_
      show ((Reader.u1 : Decoder Nat) cc pc).bind _ = _
      rw [show (Reader.u1 : Decoder Nat) cc pc = .ok (167, pc + 1) from h 0 _ rfl]
      show Except.bind (Except.map _ (Except.bind ((Reader.u1 : Decoder Nat) cc (pc + 1)) _)) _ = _
      rw [show (Reader.u1 : Decoder Nat) cc (pc + 1) = .ok (b_s2 n / 256, pc + 1 + 1) from h 1 _ rfl]
      show Except.bind (Except.map _ (Except.bind ((Reader.u1 : Decoder Nat) cc (pc + 2)) _)) _ = _
      rw [show (Reader.u1 : Decoder Nat) cc (pc + 2) = .ok (b_s2 n % 256, pc + 2 + 1) from h 2 _ rfl]
      show Except.ok (Instr.goto (Reader.signed 16 (b_s2 n / 256 * 256 + b_s2 n % 256)), pc + 3) = _
      rw [b_s2_ok hn]
      rfl
    · cases he
  | bipush n =>
    unfold b_enc at he; simp only at he
    split at he
    · rename_i hn
      cases he
      refine b_fin ?_
      show ((Reader.u1 : Decoder Nat) cc pc).bind _ = _
      rw [show (Reader.u1 : Decoder Nat) cc pc = .ok (16, pc + 1) from h 0 _ rfl]
      show Except.bind (Except.map _ ((Reader.u1 : Decoder Nat) cc (pc + 1))) _ = _
      rw [show (Reader.u1 : Decoder Nat) cc (pc + 1) = .ok (b_s1 n, pc + 1 + 1) from h 1 _ rfl]
      show Except.ok (Instr.bipush (Reader.signed 8 (b_s1 n)), pc + 2) = _
      rw [b_s1_ok hn]
      rfl
    · cases he
  | iinc k n =>
    unfold b_enc at he; simp only at he
    split at he
    · rename_i hn
      cases he
      refine b_fin ?_
      show ((Reader.u1 : Decoder Nat) cc pc).bind _ = _
      rw [show (Reader.u1 : Decoder Nat) cc pc = .ok (132, pc + 1) from h 0 _ rfl]
      show Except.bind ((Reader.u1 : Decoder Nat) cc (pc + 1)) _ = _
      rw [show (Reader.u1 : Decoder Nat) cc (pc + 1) = .ok (k, pc + 1 + 1) from h 1 _ rfl]
      show Except.bind (Except.map _ ((Reader.u1 : Decoder Nat) cc (pc + 2))) _ = _
      rw [show (Reader.u1 : Decoder Nat) cc (pc + 2) = .ok (b_s1 n, pc + 2 + 1) from h 2 _ rfl]
      show Except.ok (Instr.iinc k (Reader.signed 8 (b_s1 n)), pc + 3) = _
      rw [b_s1_ok hn]
      rfl
    · cases he
  | ifCond cnd n =>
    cases cnd with
    | eq =>
      unfold b_enc at he; simp only at he
      split at he
      · rename_i hn
        cases he
        refine b_fin ?_
        show ((Reader.u1 : Decoder Nat) cc pc).bind _ = _
        rw [show (Reader.u1 : Decoder Nat) cc pc = .ok (153, pc + 1) from h 0 _ rfl]
        show Except.bind (Except.map _ (Except.bind ((Reader.u1 : Decoder Nat) cc (pc + 1)) _)) _ = _
        rw [show (Reader.u1 : Decoder Nat) cc (pc + 1) = .ok (b_s2 n / 256, pc + 1 + 1) from h 1 _ rfl]
        show Except.bind (Except.map _ (Except.bind ((Reader.u1 : Decoder Nat) cc (pc + 2)) _)) _ = _
        rw [show (Reader.u1 : Decoder Nat) cc (pc + 2) = .ok (b_s2 n % 256, pc + 2 + 1) from h 2 _ rfl]
        show Except.ok (Instr.ifCond .eq (Reader.signed 16 (b_s2 n / 256 * 256 + b_s2 n % 256)), pc + 3) = _
        rw [b_s2_ok hn]
        rfl
      · cases he
    | ne =>
      unfold b_enc at he; simp only at he
      split at he
      · rename_i hn
        cases he
        refine b_fin ?_
        show ((Reader.u1 : Decoder Nat) cc pc).bind _ = _
        rw [show (Reader.u1 : Decoder Nat) cc pc = .ok (154, pc + 1) from h 0 _ rfl]
        show Except.bind (Except.map _ (Except.bind ((Reader.u1 : Decoder Nat) cc (pc + 1)) _)) _ = _
        rw [show (Reader.u1 : Decoder Nat) cc (pc + 1) = .ok (b_s2 n / 256, pc + 1 + 1) from h 1 _ rfl]
        show Except.bind (Except.map _ (Except.bind ((Reader.u1 : Decoder Nat) cc (pc + 2)) _)) _ = _
        rw [show (Reader.u1 : Decoder Nat) cc (pc + 2) = .ok (b_s2 n % 256, pc + 2 + 1) from h 2 _ rfl]
        show Except.ok (Instr.ifCond .ne (Reader.signed 16 (b_s2 n / 256 * 256 + b_s2 n % 256)), pc + 3) = _
        rw [b_s2_ok hn]
        rfl
      · cases he
    | lt =>
      unfold b_enc at he; simp only at he
      split at he
      · rename_i hn
        cases he
        refine b_fin ?_
        show ((Reader.u1 : Decoder Nat) cc pc).bind _ = _
        rw [show (Reader.u1 : Decoder Nat) cc pc = .ok (155, pc + 1) from h 0 _ rfl]
        show Except.bind (Except.map _ (Except.bind ((Reader.u1 : Decoder Nat) cc (pc + 1)) _)) _ = _
        rw [show (Reader.u1 : Decoder Nat) cc (pc + 1) = .ok (b_s2 n / 256, pc + 1 + 1) from h 1 _ rfl]
        show Except.bind (Except.map _ (Except.bind ((Reader.u1 : Decoder Nat) cc (pc + 2)) _)) _ = _
        rw [show (Reader.u1 : Decoder Nat) cc (pc + 2) = .ok (b_s2 n % 256, pc + 2 + 1) from h 2 _ rfl]
        show Except.ok (Instr.ifCond .lt (Reader.signed 16 (b_s2 n / 256 * 256 + b_s2 n % 256)), pc + 3) = _
        rw [b_s2_ok hn]
        rfl
      · cases he
    | ge =>
      unfold b_enc at he; simp only at he
      split at he
      · rename_i hn
        cases he
        refine b_fin ?_
        show ((Reader.u1 : Decoder Nat) cc pc).bind _ = _
        rw [show (Reader.u1 : Decoder Nat) cc pc = .ok (156, pc + 1) from h 0 _ rfl]
        show Except.bind (Except.map _ (Except.bind ((Reader.u1 : Decoder Nat) cc (pc + 1)) _)) _ = _
        rw [show (Reader.u1 : Decoder Nat) cc (pc + 1) = .ok (b_s2 n / 256, pc + 1 + 1) from h 1 _ rfl]
        show Except.bind (Except.map _ (Except.bind ((Reader.u1 : Decoder Nat) cc (pc + 2)) _)) _ = _
        rw [show (Reader.u1 : Decoder Nat) cc (pc + 2) = .ok (b_s2 n % 256, pc + 2 + 1) from h 2 _ rfl]
        show Except.ok (Instr.ifCond .ge (Reader.signed 16 (b_s2 n / 256 * 256 + b_s2 n % 256)), pc + 3) = _
        rw [b_s2_ok hn]
        rfl
      · cases he
    | gt =>
      unfold b_enc at he; simp only at he
      split at he
      · rename_i hn
        cases he
        refine b_fin ?_
        show ((Reader.u1 : Decoder Nat) cc pc).bind _ = _
        rw [show (Reader.u1 : Decoder Nat) cc pc = .ok (157, pc + 1) from h 0 _ rfl]
        show Except.bind (Except.map _ (Except.bind ((Reader.u1 : Decoder Nat) cc (pc + 1)) _)) _ = _
        rw [show (Reader.u1 : Decoder Nat) cc (pc + 1) = .ok (b_s2 n / 256, pc + 1 + 1) from h 1 _ rfl]
        show Except.bind (Except.map _ (Except.bind ((Reader.u1 : Decoder Nat) cc (pc + 2)) _)) _ = _
        rw [show (Reader.u1 : Decoder Nat) cc (pc + 2) = .ok (b_s2 n % 256, pc + 2 + 1) from h 2 _ rfl]
        show Except.ok (Instr.ifCond .gt (Reader.signed 16 (b_s2 n / 256 * 256 + b_s2 n % 256)), pc + 3) = _
        rw [b_s2_ok hn]
        rfl
      · cases he
    | le =>
      unfold b_enc at he; simp only at he
      split at he
      · rename_i hn
        cases he
        refine b_fin ?_
        show ((Reader.u1 : Decoder Nat) cc pc).bind _ = _
        rw [show (Reader.u1 : Decoder Nat) cc pc = .ok (158, pc + 1) from h 0 _ rfl]
        show Except.bind (Except.map _ (Except.bind ((Reader.u1 : Decoder Nat) cc (pc + 1)) _)) _ = _
        rw [show (Reader.u1 : Decoder Nat) cc (pc + 1) = .ok (b_s2 n / 256, pc + 1 + 1) from h 1 _ rfl]
        show Except.bind (Except.map _ (Except.bind ((Reader.u1 : Decoder Nat) cc (pc + 2)) _)) _ = _
        rw [show (Reader.u1 : Decoder Nat) cc (pc + 2) = .ok (b_s2 n % 256, pc + 2 + 1) from h 2 _ rfl]
        show Except.ok (Instr.ifCond .le (Reader.signed 16 (b_s2 n / 256 * 256 + b_s2 n % 256)), pc + 3) = _
        rw [b_s2_ok hn]
        rfl
      · cases he
  | if_icmp cnd n =>
    cases cnd with
    | eq =>
      unfold b_enc at he; simp only at he
      split at he
      · rename_i hn
        cases he
        refine b_fin ?_
        show ((Reader.u1 : Decoder Nat) cc pc).bind _ = _
        rw [show (Reader.u1 : Decoder Nat) cc pc = .ok (159, pc + 1) from h 0 _ rfl]
        show Except.bind (Except.map _ (Except.bind ((Reader.u1 : Decoder Nat) cc (pc + 1)) _)) _ = _
        rw [show (Reader.u1 : Decoder Nat) cc (pc + 1) = .ok (b_s2 n / 256, pc + 1 + 1) from h 1 _ rfl]
        show Except.bind (Except.map _ (Except.bind ((Reader.u1 : Decoder Nat) cc (pc + 2)) _)) _ = _
        rw [show (Reader.u1 : Decoder Nat) cc (pc + 2) = .ok (b_s2 n % 256, pc + 2 + 1) from h 2 _ rfl]
        show Except.ok (Instr.if_icmp .eq (Reader.signed 16 (b_s2 n / 256 * 256 + b_s2 n % 256)), pc + 3) = _
        rw [b_s2_ok hn]
        rfl
      · cases he
    | ne =>
      unfold b_enc at he; simp only at he
      split at he
      · rename_i hn
        cases he
        refine b_fin ?_
        show ((Reader.u1 : Decoder Nat) cc pc).bind _ = _
        rw [show (Reader.u1 : Decoder Nat) cc pc = .ok (160, pc + 1) from h 0 _ rfl]
        show Except.bind (Except.map _ (Except.bind ((Reader.u1 : Decoder Nat) cc (pc + 1)) _)) _ = _
        rw [show (Reader.u1 : Decoder Nat) cc (pc + 1) = .ok (b_s2 n / 256, pc + 1 + 1) from h 1 _ rfl]
        show Except.bind (Except.map _ (Except.bind ((Reader.u1 : Decoder Nat) cc (pc + 2)) _)) _ = _
        rw [show (Reader.u1 : Decoder Nat) cc (pc + 2) = .ok (b_s2 n % 256, pc + 2 + 1) from h 2 _ rfl]
        show Except.ok (Instr.if_icmp .ne (Reader.signed 16 (b_s2 n / 256 * 256 + b_s2 n % 256)), pc + 3) = _
        rw [b_s2_ok hn]
        rfl
      · cases he
    | lt =>
      unfold b_enc at he; simp only at he
      split at he
      · rename_i hn
        cases he
        refine b_fin ?_
        show ((Reader.u1 : Decoder Nat) cc pc).bind _ = _
        rw [show (Reader.u1 : Decoder Nat) cc pc = .ok (161, pc + 1) from h 0 _ rfl]
        show Except.bind (Except.map _ (Except.bind ((Reader.u1 : Decoder Nat) cc (pc + 1)) _)) _ = _
        rw [show (Reader.u1 : Decoder Nat) cc (pc + 1) = .ok (b_s2 n / 256, pc + 1 + 1) from h 1 _ rfl]
        show Except.bind (Except.map _ (Except.bind ((Reader.u1 : Decoder Nat) cc (pc + 2)) _)) _ = _
        rw [show (Reader.u1 : Decoder Nat) cc (pc + 2) = .ok (b_s2 n % 256, pc + 2 + 1) from h 2 _ rfl]
        show Except.ok (Instr.if_icmp .lt (Reader.signed 16 (b_s2 n / 256 * 256 + b_s2 n % 256)), pc + 3) = _
        rw [b_s2_ok hn]
        rfl
      · cases he
    | ge =>
      unfold b_enc at he; simp only at he
      split at he
      · rename_i hn
        cases he
        refine b_fin ?_
        show ((Reader.u1 : Decoder Nat) cc pc).bind _ = _
        rw [show (Reader.u1 : Decoder Nat) cc pc = .ok (162, pc + 1) from h 0 _ rfl]
        show Except.bind (Except.map _ (Except.bind ((Reader.u1 : Decoder Nat) cc (pc + 1)) _)) _ = _
        rw [show (Reader.u1 : Decoder Nat) cc (pc + 1) = .ok (b_s2 n / 256, pc + 1 + 1) from h 1 _ rfl]
        show Except.bind (Except.map _ (Except.bind ((Reader.u1 : Decoder Nat) cc (pc + 2)) _)) _ = _
        rw [show (Reader.u1 : Decoder Nat) cc (pc + 2) = .ok (b_s2 n % 256, pc + 2 + 1) from h 2 _ rfl]
        show Except.ok (Instr.if_icmp .ge (Reader.signed 16 (b_s2 n / 256 * 256 + b_s2 n % 256)), pc + 3) = _
        rw [b_s2_ok hn]
        rfl
      · cases he
    | gt =>
      unfold b_enc at he; simp only at he
      split at he
      · rename_i hn
        cases he
        refine b_fin ?_
        show ((Reader.u1 : Decoder Nat) cc pc).bind _ = _
        rw [show (Reader.u1 : Decoder Nat) cc pc = .ok (163, pc + 1) from h 0 _ rfl]
        show Except.bind (Except.map _ (Except.bind ((Reader.u1 : Decoder Nat) cc (pc + 1)) _)) _ = _
        rw [show (Reader.u1 : Decoder Nat) cc (pc + 1) = .ok (b_s2 n / 256, pc + 1 + 1) from h 1 _ rfl]
        show Except.bind (Except.map _ (Except.bind ((Reader.u1 : Decoder Nat) cc (pc + 2)) _)) _ = _
        rw [show (Reader.u1 : Decoder Nat) cc (pc + 2) = .ok (b_s2 n % 256, pc + 2 + 1) from h 2 _ rfl]
        show Except.ok (Instr.if_icmp .gt (Reader.signed 16 (b_s2 n / 256 * 256 + b_s2 n % 256)), pc + 3) = _
        rw [b_s2_ok hn]
        rfl
      · cases he
    | le =>
      unfold b_enc at he; simp only at he
      split at he
      · rename_i hn
        cases he
        refine b_fin ?_
        show ((Reader.u1 : Decoder Nat) cc pc).bind _ = _
        rw [show (Reader.u1 : Decoder Nat) cc pc = .ok (164, pc + 1) from h 0 _ rfl]
        show Except.bind (Except.map _ (Except.bind ((Reader.u1 : Decoder Nat) cc (pc + 1)) _)) _ = _
        rw [show (Reader.u1 : Decoder Nat) cc (pc + 1) = .ok (b_s2 n / 256, pc + 1 + 1) from h 1 _ rfl]
        show Except.bind (Except.map _ (Except.bind ((Reader.u1 : Decoder Nat) cc (pc + 2)) _)) _ = _
        rw [show (Reader.u1 : Decoder Nat) cc (pc + 2) = .ok (b_s2 n % 256, pc + 2 + 1) from h 2 _ rfl]
        show Except.ok (Instr.if_icmp .le (Reader.signed 16 (b_s2 n / 256 * 256 + b_s2 n % 256)), pc + 3) = _
        rw [b_s2_ok hn]
        rfl
      · cases he
  | _ => cases he
/-- the bytes of a list of entries, one behind another -/
def b_pre : List Nat → List Nat → Option (List Nat)
  | [], r => some r
  | a :: t, b :: r => match Nat.beq a b with
    | true => b_pre t r
    | false => none
  | _ :: _, [] => none
theorem b_pre_spec : ∀ {a bs r : List Nat}, b_pre a bs = some r → bs = a ++ r
  | [], _, _, h => by unfold b_pre at h; cases h; rfl
  | x :: t, [], _, h => by unfold b_pre at h; cases h
  | x :: t, b :: bs, r, h => by
    unfold b_pre at h
    split at h
    · rename_i hb
      rw [Nat.eq_of_beq_eq_true hb, b_pre_spec h]; rfl
    · cases h
/-- entries against the bytes, one behind another; a row of 'sk' (pc, bytes) is not encoded but asked of the decoder itself -/
def b_one (sk : List (Nat × Nat)) (e : Nat × aEnt) (bs : List Nat) : Option (Nat × List Nat) := match a_lk sk e.1 with
  | some n => some (n, bs.drop n)
  | none => match b_enc e.2.1 with
    | some en => match b_pre en bs, Nat.beq en.length (a_ilen e.2.1) && !a_isw e.2.1 with
      | some r, true => some (en.length, r)
      | _, _ => none
    | none => none
def b_chk (sk : List (Nat × Nat)) : List (Nat × aEnt) → Nat → List Nat → Bool
  | [], _, _ => true
  | e :: t, pc, bs => match Nat.ble pc e.1 with
    | true => match b_one sk e (bs.drop (e.1 - pc)) with
      | some (n, r) => b_chk sk t (e.1 + n) r
      | none => false
    | false => false
def b_sok (cc : ByteArray) (sk : List (Nat × Nat)) (e : Nat × aEnt) : Bool := match a_lk sk e.1 with
  | some _ => a_dok cc e.1 e.2.1
  | none => true
theorem b_dok_of {cc : ByteArray} {pc : Nat} {i : Instr} (h : decode cc pc = .ok (i, a_ilen i)) : a_dok cc pc i = true := by
  unfold a_dok
  rw [h]
  simp only [decide_true, Bool.true_and]
  rw [Nat.beq_refl, Bool.or_true]
theorem b_chk_ok {cc : ByteArray} {sk : List (Nat × Nat)} : ∀ {es : List (Nat × aEnt)} {pc : Nat} {bs : List Nat}, (∀ k, bs[k]? = (b_bl cc)[pc + k]?) → b_chk sk es pc bs = true → ∀ e ∈ es, a_lk sk e.1 = none → a_dok cc e.1 e.2.1 = true
  | [], _, _, _, _, _, h, _ => by cases h
  | e :: t, pc, bs, hbs, h, e', he', hs => by
    unfold b_chk at h
    split at h
    · rename_i hle
      have hle := Nat.le_of_ble_eq_true hle
      split at h
      · rename_i n r hone
        have hd : ∀ k, (bs.drop (e.1 - pc))[k]? = (b_bl cc)[e.1 + k]? := fun k => by
          rw [List.getElem?_drop, hbs]
          congr 1
          omega
        have key : (∀ k, r[k]? = (b_bl cc)[e.1 + n + k]?) ∧ (a_lk sk e.1 = none → a_dok cc e.1 e.2.1 = true) := by
          unfold b_one at hone
          split at hone
          · rename_i n9 hn9
            cases hone
            refine ⟨fun k => by rw [List.getElem?_drop, hd]; congr 1; omega, fun hh => by rw [hn9] at hh; cases hh⟩
          · split at hone
            · rename_i en hen
              split at hone
              · rename_i r9 hr9 hl9
                cases hone
                have hsp := b_pre_spec hr9
                have hpre : ∀ (k b : Nat), en[k]? = some b → b_rd cc (e.1 + k) b := fun k b hk => by
                  refine b_u1 ?_
                  rw [← hd k, hsp, List.getElem?_append_left (List.getElem?_eq_some_iff.mp hk).1]
                  exact hk
                simp only [Bool.and_eq_true] at hl9
                refine ⟨fun k => ?_, fun _ => b_dok_of ?_⟩
                · rw [Nat.add_assoc, ← hd, hsp, List.getElem?_append_right (by omega)]
                  congr 1
                  omega
                · rw [b_enc_ok hen hpre, Nat.eq_of_beq_eq_true hl9.1]
              · cases hone
            · cases hone
        rcases List.mem_cons.mp he' with rfl | he'
        · exact key.2 hs
        · exact b_chk_ok key.1 h e' he' hs
      · cases h
    · cases h
/-- a program's rows are the code's -/
theorem b_code {cc : ByteArray} {es : List (Nat × aEnt)} (bl : List Nat) (sk : List (Nat × Nat)) (hb : b_bl cc = bl) (h1 : b_chk sk es 0 bl = true) (h2 : es.all (b_sok cc sk) = true) (h3 : es.all (fun e => a_iok e.1 e.2) = true) : es.all (a_eok cc) = true := by
  refine List.all_eq_true.mpr (fun e he => ?_)
  unfold a_eok
  rw [List.all_eq_true.mp h3 e he, Bool.and_true]
  cases hs : a_lk sk e.1 with
  | none => exact b_chk_ok (cc := cc) (sk := sk) (pc := 0) (bs := bl) (fun k => by rw [hb, Nat.zero_add]) h1 e he hs
  | some n =>
    have := List.all_eq_true.mp h2 e he
    unfold b_sok at this
    rw [hs] at this
    exact this
