/-! ===== String.length, String.charAt of the constants, written by wip/whole/strs.py ===== -/
def a_PU (G : aG) (av : List Value) : Array Value → State → Prop := va_Pc av (fun U => (g_s G).WarmedH U.vm ∧ (g_s G).heap.size ≤ U.heap.size ∧ ∀ q, q < (g_s G).heap.size → U.heap[q]? = (g_s G).heap[q]?)
def a_QU (v : Option Value) : Array Value → State → Outcome → State → Prop := fun _ st o t => o = .returned v ∧ t.heap = st.heap
abbrev a_rU (fr lo : Nat) : Room := { frames := fr, cells := 0, slots := 0, locals := lo }
/-- a method that only reads what was there at the law's entry -/
def a_MU (l : Launch) (G : aG) (y : MethodName) (w : Cond) (fr lo : Nat) (av : List Value) (v : Option Value) : Prop := Met l y [w] (a_rU fr lo) (a_PU G av) (a_QU v) 0 0 (fun _ => False)
section US
variable {p : Program} {l : Launch} {e : Env} {R : Room} {s : State} {m : MethodId} {args : Array Value} {below : List Frame} {meth : Method} {c : Code} {Q : State → Prop} {G : aG} {H : Heap} {locs : List Loc} {cells slots : Nat} {ls : Array Slot} {rest : List Value}
theorem a_goU {pc : Nat} {st0 : List Value} {v : Option Value} {a : Array Value} (hr : va_Run p l e R s m args below meth c H locs cells slots 0 0 (F0 m pc ls st0) rest (a_QU v a) (fun _ => False))
    (kk : W p l e R s m args below meth c H locs cells slots Q (F0 m (pc + 3) ls (v.toList ++ rest))) : W p l e R s m args below meth c H locs cells slots Q (F0 m pc ls st0) := by
  intro T hT X
  obtain ⟨v9, st₀, t, T', L, h0, X', hL, e1, e2, ⟨hv, hh⟩, st⟩ := hr T hT X
  cases hv
  obtain ⟨t2, a1, b1⟩ := kk T' (by rw [e1, hh, h0]) (Stand.forget X' (fun q h => (hL q h).elim))
  exact ⟨t2, st t2 a1, b1⟩
theorem a_goUS {own : String} {cc : ByteArray} {y : MethodName} {bytes : ByteArray} {maxL fr lo n na nL pc : Nat} {ret : Option FieldType} {As : List Value} {v : Option Value} (hx : p.tables.exec = Jvm.exec) (hb : c.code = cc) (hml : c.maxLocals = nL) (hown : s.vm.findClass own = some m.cls) (hts : ∀ w ∈ lw_g, w.before args s = true)
    (hM : a_MU l G y (.code y bytes maxL ret) fr lo As v) (hw : ∀ w ∈ [Cond.code y bytes maxL ret, .initialized y.cls, .static y, .methodLink own n y], w ∈ lw_g) (hd : y.cls ≠ "java/lang/invoke/MethodHandle" ∧ y.cls ≠ "java/lang/invoke/VarHandle" ∧ (parseMethodDescriptor y.desc).map (fun d => d.parameters.length) = some na)
    (hR : Nat.ble (fr + 1) R.frames = true ∧ Nat.ble (8 + (maxL + 11) + lo) R.locals = true) (hWs : (g_s G).WarmedH s.vm) (hH : (g_s G).heap.size ≤ H.size ∧ ∀ q, q < (g_s G).heap.size → H[q]? = (g_s G).heap[q]?) (hlen : As.length = na) (hls : ls.size = nL) (hwt : (rest.map fun v => v.category).sum ≤ 8) (hdg : decode cc pc = .ok (.invokestatic n, 3)) (hc : cells ≤ R.cells ∧ slots ≤ R.slots)
    (kk : W p l e R s m args below meth c H locs cells slots Q (F0 m (pc + 3) ls (v.toList ++ rest))) : W p l e R s m args below meth c H locs cells slots Q (F0 m pc ls (As.reverse ++ rest)) := by
  have c1 := hw _ List.mem_cons_self
  have hws : ∀ w ∈ [Cond.code y bytes maxL ret], ∀ (a' : Array Value) (U : State), s.WarmedH U.vm → w.before a' U = true := fun w hw a' U hW => by
    rcases List.mem_singleton.mp hw with rfl
    exact word_at hW (good_of_word (List.mem_filter.mp c1).2) (hts _ c1)
  have hnp : ∀ sig, parseMethodDescriptor y.desc = some sig → na = sig.parameters.length := fun sig hs => by
    have := hd.2.2
    rw [hs] at this
    exact (Option.some.inj this).symm
  have key : va_Run p l e R s m args below meth c H locs cells slots 0 0 (F0 m pc ls (As.reverse ++ rest)) rest (a_QU v As.toArray) (fun _ => False) :=
    va_runS (As := As) (rest := rest) (n := na) (index := n) (own := own) (bytes := bytes) (maxL := maxL) (ret := ret) ⟨hx, hb, hml, hown, hts⟩ hM ⟨⟨rfl, rfl, Nat.le_of_ble_eq_true hR.1, Nat.le_of_ble_eq_true hR.2, hws, List.mem_singleton.mpr rfl, hts _ c1, hts _ (hw (.initialized y.cls) (by simp)), ⟨hd.1, hd.2.1⟩, hnp, hts _ (hw (.methodLink own n y) (by simp))⟩, hts _ (hw (.static y) (by simp))⟩ ⟨fun _ _ _ _ h => h, fun U hU hW => ⟨rfl, State.WarmedH.trans hWs hW, by rw [hU]; exact hH.1, by rw [hU]; exact hH.2⟩⟩ rfl hlen hls rfl (lv_room hwt) hdg ⟨hc.1, hc.2⟩
  exact a_goU key kk
theorem a_goUV {own : String} {cc : ByteArray} {y : MethodName} {bytes : ByteArray} {maxL fr lo n na nL pc b : Nat} {ret : Option FieldType} {As : List Value} {v : Option Value} (hx : p.tables.exec = Jvm.exec) (hb : c.code = cc) (hml : c.maxLocals = nL) (hown : s.vm.findClass own = some m.cls) (hts : ∀ w ∈ lw_g, w.before args s = true)
    (hM : a_MU l G y (.code y bytes maxL ret) fr lo (.ref b :: As) v) (hw : ∀ w ∈ [Cond.code y bytes maxL ret, .initialized y.cls, .instanceMethod y, .selects y.cls y y], w ∈ lw_g) (hlk : Cond.methodLink own n y ∈ lw_g) (hd : y.cls ≠ "java/lang/invoke/MethodHandle" ∧ y.cls ≠ "java/lang/invoke/VarHandle" ∧ (parseMethodDescriptor y.desc).map (fun d => d.parameters.length) = some na)
    (hR : fr + 1 ≤ R.frames ∧ 8 + (maxL + 11) + lo ≤ R.locals) (hWs : (g_s G).WarmedH s.vm) (hH : (g_s G).heap.size ≤ H.size ∧ ∀ q, q < (g_s G).heap.size → H[q]? = (g_s G).heap[q]?) (hrv : ∃ cell : Cell, H[b]? = some cell ∧ cell.vm.isStatics = false ∧ s.vm.findClass y.cls = some cell.cls) (hlen : As.length = na) (hls : ls.size = nL) (hwt : (rest.map fun v => v.category).sum ≤ 8) (hdg : decode cc pc = .ok (.invokevirtual n, 3)) (hc : cells ≤ R.cells ∧ slots ≤ R.slots)
    (kk : W p l e R s m args below meth c H locs cells slots Q (F0 m (pc + 3) ls (v.toList ++ rest))) : W p l e R s m args below meth c H locs cells slots Q (F0 m pc ls (As.reverse ++ .ref b :: rest)) := by
  have c1 := hw _ List.mem_cons_self
  have hws : ∀ w ∈ [Cond.code y bytes maxL ret], ∀ (a' : Array Value) (U : State), s.WarmedH U.vm → w.before a' U = true := fun w hw a' U hW => by
    rcases List.mem_singleton.mp hw with rfl
    exact word_at hW (good_of_word (List.mem_filter.mp c1).2) (hts _ c1)
  have hnp : ∀ sig, parseMethodDescriptor y.desc = some sig → na = sig.parameters.length := fun sig hs => by
    have := hd.2.2
    rw [hs] at this
    exact (Option.some.inj this).symm
  have key : va_Run p l e R s m args below meth c H locs cells slots 0 0 (F0 m pc ls (As.reverse ++ .ref b :: rest)) rest (a_QU v (Value.ref b :: As).toArray) (fun _ => False) :=
    va_runV (C := y.cls) (b := b) (As := As) (rest := rest) (n := na) (index := n) (own := own) (bytes := bytes) (maxL := maxL) (ret := ret) ⟨hx, hb, hml, hown, hts⟩ hM ⟨⟨rfl, rfl, hR.1, hR.2, hws, List.mem_singleton.mpr rfl, hts _ c1, hts _ (hw (.initialized y.cls) (by simp)), ⟨hd.1, hd.2.1⟩, hnp, hts _ hlk⟩, hts _ (hw (.instanceMethod y) (by simp)), hts _ (hw (.selects y.cls y y) (by simp))⟩ ⟨fun _ _ _ _ h => h, hrv, fun U hU hW => ⟨rfl, State.WarmedH.trans hWs hW, by rw [hU]; exact hH.1, by rw [hU]; exact hH.2⟩⟩ rfl hlen hls rfl (lv_room hwt) hdg ⟨hc.1, hc.2⟩
  exact a_goU key kk
end US
theorem a_shr0 (x : Int32) : x >>> ((0 : Int32) &&& 31) = x := by
  rw [show (0 : Int32) &&& 31 = 0 from by decide]
  apply Int32.toBitVec_inj.mp
  simp
theorem z_asc1 : ∀ n : Nat, n < 128 → ((Int32.ofNat n &&& 255).toUInt32 % 65536).toInt32 = Int32.ofNat n ∧ narrow .char (.int (Int32.ofNat n)) = .int (Int32.ofNat n) := by decide +kernel
theorem z_asc2 : zs.all (fun q => (q.2.2.toList.map Char.toNat).all (fun n => Nat.blt n 128)) = true := by decide +kernel
theorem z_asc {i : Nat} {q : String × Nat × String} (hi : zs[i]? = some q) (j : Nat) : (q.2.2.toList.map Char.toNat).getD j 0 < 128 := by
  have h := List.all_eq_true.mp z_asc2 q (List.mem_of_getElem? hi)
  rw [List.getD_eq_getElem?_getD]
  cases hj : (q.2.2.toList.map Char.toNat)[j]? with
  | none => exact Nat.zero_lt_succ _
  | some n => exact Nat.blt_eq.mp (List.all_eq_true.mp h n (List.mem_of_getElem? hj))
theorem dJ0_coder_7d493_0 : decode cJ0_coder_7d493 0 = .ok (.getstatic 38, 3) := by decide +kernel
theorem dJ0_coder_7d493_3 : decode cJ0_coder_7d493 3 = .ok (.ifCond .eq 10, 3) := by decide +kernel
theorem dJ0_coder_7d493_6 : decode cJ0_coder_7d493 6 = .ok (.aload_n 0, 1) := by decide +kernel
theorem dJ0_coder_7d493_7 : decode cJ0_coder_7d493 7 = .ok (.getfield 15, 3) := by decide +kernel
theorem dJ0_coder_7d493_10 : decode cJ0_coder_7d493 10 = .ok (.goto 4, 3) := by decide +kernel
theorem dJ0_coder_7d493_14 : decode cJ0_coder_7d493 14 = .ok (.ireturn, 1) := by decide +kernel
theorem dJ0_length_8abf5_0 : decode cJ0_length_8abf5 0 = .ok (.aload_n 0, 1) := by decide +kernel
theorem dJ0_length_8abf5_1 : decode cJ0_length_8abf5 1 = .ok (.getfield 9, 3) := by decide +kernel
theorem dJ0_length_8abf5_4 : decode cJ0_length_8abf5 4 = .ok (.arraylength, 1) := by decide +kernel
theorem dJ0_length_8abf5_5 : decode cJ0_length_8abf5 5 = .ok (.aload_n 0, 1) := by decide +kernel
theorem dJ0_length_8abf5_6 : decode cJ0_length_8abf5 6 = .ok (.invokevirtual 335, 3) := by decide +kernel
theorem dJ0_length_8abf5_9 : decode cJ0_length_8abf5 9 = .ok (.ishr, 1) := by decide +kernel
theorem dJ0_length_8abf5_10 : decode cJ0_length_8abf5 10 = .ok (.ireturn, 1) := by decide +kernel
theorem dJ0_charAt_5068e_0 : decode cJ0_charAt_5068e 0 = .ok (.aload_n 0, 1) := by decide +kernel
theorem dJ0_charAt_5068e_1 : decode cJ0_charAt_5068e 1 = .ok (.invokevirtual 492, 3) := by decide +kernel
theorem dJ0_charAt_5068e_4 : decode cJ0_charAt_5068e 4 = .ok (.ifCond .eq 12, 3) := by decide +kernel
theorem dJ0_charAt_5068e_7 : decode cJ0_charAt_5068e 7 = .ok (.aload_n 0, 1) := by decide +kernel
theorem dJ0_charAt_5068e_8 : decode cJ0_charAt_5068e 8 = .ok (.getfield 9, 3) := by decide +kernel
theorem dJ0_charAt_5068e_11 : decode cJ0_charAt_5068e 11 = .ok (.iload_n 1, 1) := by decide +kernel
theorem dJ0_charAt_5068e_12 : decode cJ0_charAt_5068e 12 = .ok (.invokestatic 495, 3) := by decide +kernel
theorem dJ0_charAt_5068e_15 : decode cJ0_charAt_5068e 15 = .ok (.ireturn, 1) := by decide +kernel
theorem dJ0_isLatin1_aae02_0 : decode cJ0_isLatin1_aae02 0 = .ok (.getstatic 38, 3) := by decide +kernel
theorem dJ0_isLatin1_aae02_3 : decode cJ0_isLatin1_aae02 3 = .ok (.ifCond .eq 14, 3) := by decide +kernel
theorem dJ0_isLatin1_aae02_6 : decode cJ0_isLatin1_aae02 6 = .ok (.aload_n 0, 1) := by decide +kernel
theorem dJ0_isLatin1_aae02_7 : decode cJ0_isLatin1_aae02 7 = .ok (.getfield 15, 3) := by decide +kernel
theorem dJ0_isLatin1_aae02_10 : decode cJ0_isLatin1_aae02 10 = .ok (.ifCond .ne 7, 3) := by decide +kernel
theorem dJ0_isLatin1_aae02_13 : decode cJ0_isLatin1_aae02 13 = .ok (.iconst 1, 1) := by decide +kernel
theorem dJ0_isLatin1_aae02_14 : decode cJ0_isLatin1_aae02 14 = .ok (.goto 4, 3) := by decide +kernel
theorem dJ0_isLatin1_aae02_18 : decode cJ0_isLatin1_aae02 18 = .ok (.ireturn, 1) := by decide +kernel
theorem dJ0_checkIndex_df160_0 : decode cJ0_checkIndex_df160 0 = .ok (.iload_n 0, 1) := by decide +kernel
theorem dJ0_checkIndex_df160_1 : decode cJ0_checkIndex_df160 1 = .ok (.iload_n 1, 1) := by decide +kernel
theorem dJ0_checkIndex_df160_2 : decode cJ0_checkIndex_df160 2 = .ok (.getstatic 1053, 3) := by decide +kernel
theorem dJ0_checkIndex_df160_5 : decode cJ0_checkIndex_df160 5 = .ok (.invokestatic 1059, 3) := by decide +kernel
theorem dJ0_checkIndex_df160_8 : decode cJ0_checkIndex_df160 8 = .ok (.pop, 1) := by decide +kernel
theorem dJ0_checkIndex_df160_9 : decode cJ0_checkIndex_df160 9 = .ok (.return_, 1) := by decide +kernel
theorem dJ1_charAt_3b067_0 : decode cJ1_charAt_3b067 0 = .ok (.iload_n 1, 1) := by decide +kernel
theorem dJ1_charAt_3b067_1 : decode cJ1_charAt_3b067 1 = .ok (.aload_n 0, 1) := by decide +kernel
theorem dJ1_charAt_3b067_2 : decode cJ1_charAt_3b067 2 = .ok (.arraylength, 1) := by decide +kernel
theorem dJ1_charAt_3b067_3 : decode cJ1_charAt_3b067 3 = .ok (.invokestatic 9, 3) := by decide +kernel
theorem dJ1_charAt_3b067_6 : decode cJ1_charAt_3b067 6 = .ok (.aload_n 0, 1) := by decide +kernel
theorem dJ1_charAt_3b067_7 : decode cJ1_charAt_3b067 7 = .ok (.iload_n 1, 1) := by decide +kernel
theorem dJ1_charAt_3b067_8 : decode cJ1_charAt_3b067 8 = .ok (.baload, 1) := by decide +kernel
theorem dJ1_charAt_3b067_9 : decode cJ1_charAt_3b067 9 = .ok (.sipush 255, 3) := by decide +kernel
theorem dJ1_charAt_3b067_12 : decode cJ1_charAt_3b067 12 = .ok (.iand, 1) := by decide +kernel
theorem dJ1_charAt_3b067_13 : decode cJ1_charAt_3b067 13 = .ok (.i2c, 1) := by decide +kernel
theorem dJ1_charAt_3b067_14 : decode cJ1_charAt_3b067 14 = .ok (.ireturn, 1) := by decide +kernel
theorem dJ3_checkIndex_8e157_0 : decode cJ3_checkIndex_8e157 0 = .ok (.iload_n 0, 1) := by decide +kernel
theorem dJ3_checkIndex_8e157_1 : decode cJ3_checkIndex_8e157 1 = .ok (.ifCond .lt 8, 3) := by decide +kernel
theorem dJ3_checkIndex_8e157_4 : decode cJ3_checkIndex_8e157 4 = .ok (.iload_n 0, 1) := by decide +kernel
theorem dJ3_checkIndex_8e157_5 : decode cJ3_checkIndex_8e157 5 = .ok (.iload_n 1, 1) := by decide +kernel
theorem dJ3_checkIndex_8e157_6 : decode cJ3_checkIndex_8e157 6 = .ok (.if_icmp .lt 10, 3) := by decide +kernel
theorem dJ3_checkIndex_8e157_16 : decode cJ3_checkIndex_8e157 16 = .ok (.iload_n 0, 1) := by decide +kernel
theorem dJ3_checkIndex_8e157_17 : decode cJ3_checkIndex_8e157 17 = .ok (.ireturn, 1) := by decide +kernel
section UM
variable {l : Launch} {G : aG}
set_option maxHeartbeats 1000000 in
theorem uS_pci (hZ : a_Z l G) {i n : Int32} {w : Value} (hi : ¬ i < 0) (hn : i < n) (hw : w.category = 1) : a_MU l G yJ3_checkIndex_8e157 (.code yJ3_checkIndex_8e157 cJ3_checkIndex_8e157 3 (some .int)) 1 16 [.int i, .int n, w] (some (.int i)) := by
  refine va_MetF (cc := cJ3_checkIndex_8e157) (maxL := 3) (ret := some .int) (by decide +kernel) rfl ?_
  intro p e s m args below meth c s₁ B hml hv
  obtain ⟨rfl, hWs, hbs, hbh⟩ := hv
  have hx := B.exec
  have hb := B.bytes
  have hr := B.returns
  have hlocks := B.notSynchronized
  have hl := lv_entry ([.int i, .int n, w]) (n := 3) (by
    rw [a_sl1 _ (fun v hv => by simp at hv; rcases hv with rfl | rfl | rfl <;> first | rfl | exact hw)]
    exact Nat.le_refl _)
  rw [lg_entry_eq]
  generalize (lg_sl ([.int i, .int n, w]) ++ List.replicate (3 - (lg_sl ([.int i, .int n, w])).length) Slot.unset).toArray = ls at hl ⊢
  have hl : lv_has ls 3 [(0, .int i), (1, .int n)] := ⟨hl.1, hl.2.1, fun q hq => hl.2.2 q (by
    have e : lv_args 0 [.int i, .int n, w] = [(0, .int i), (1, .int n), (2, w)] := by
      simp [lv_args, hw, Value.category]
    rw [e]
    simp at hq
    rcases hq with rfl | rfl <;> simp)⟩
  refine lv_iload_n hx hb dJ3_checkIndex_8e157_0 rfl (lv_at hl 0 rfl) ?_
  refine lv_if_lt (tgt := 9) hx hb (off := 8) dJ3_checkIndex_8e157_1 (by decide) (fun h => absurd h hi) (fun _ => ?_)
  refine lv_iload_n hx hb dJ3_checkIndex_8e157_4 rfl (lv_at hl 0 rfl) ?_
  refine lv_iload_n hx hb dJ3_checkIndex_8e157_5 rfl (lv_at hl 1 rfl) ?_
  refine lv_icmp_lt (tgt := 16) hx hb (off := 10) dJ3_checkIndex_8e157_6 (by decide) (fun _ => ?_) (fun h => absurd hn h)
  refine lv_iload_n hx hb dJ3_checkIndex_8e157_16 rfl (lv_at hl 0 rfl) ?_
  exact W.iret hx hb hr (fun t ht _ => ⟨rfl, ht⟩) (fun q h => by cases h) dJ3_checkIndex_8e157_17
set_option maxRecDepth 20000 in
theorem wS_pci : ∀ w ∈ [Cond.code yJ3_checkIndex_8e157 cJ3_checkIndex_8e157 3 (some .int), .initialized yJ3_checkIndex_8e157.cls, .static yJ3_checkIndex_8e157, .methodLink RJ0 1059 yJ3_checkIndex_8e157], w ∈ lw_g := a_ps [725, 114, 724, 723] rfl rfl
set_option maxRecDepth 20000 in
theorem wS_sci : ∀ w ∈ [Cond.code yJ0_checkIndex_df160 cJ0_checkIndex_df160 2 none, .initialized yJ0_checkIndex_df160.cls, .static yJ0_checkIndex_df160, .methodLink RJ1 9 yJ0_checkIndex_df160], w ∈ lw_g := a_ps [720, 112, 719, 718] rfl rfl
set_option maxRecDepth 20000 in
theorem wS_lca : ∀ w ∈ [Cond.code yJ1_charAt_3b067 cJ1_charAt_3b067 2 (some .char), .initialized yJ1_charAt_3b067.cls, .static yJ1_charAt_3b067, .methodLink RJ0 495 yJ1_charAt_3b067], w ∈ lw_g := a_ps [717, 113, 716, 715] rfl rfl
set_option maxRecDepth 20000 in
theorem wS_coder : ∀ w ∈ [Cond.code yJ0_coder_7d493 cJ0_coder_7d493 1 (some .byte), .initialized yJ0_coder_7d493.cls, .instanceMethod yJ0_coder_7d493, .selects yJ0_coder_7d493.cls yJ0_coder_7d493 yJ0_coder_7d493, .methodLink RJ0 335 yJ0_coder_7d493], w ∈ lw_g := a_ps [704, 112, 702, 703, 701] rfl rfl
set_option maxRecDepth 20000 in
theorem wS_isLatin1 : ∀ w ∈ [Cond.code yJ0_isLatin1_aae02 cJ0_isLatin1_aae02 1 (some .boolean), .initialized yJ0_isLatin1_aae02.cls, .instanceMethod yJ0_isLatin1_aae02, .selects yJ0_isLatin1_aae02.cls yJ0_isLatin1_aae02 yJ0_isLatin1_aae02, .methodLink RJ0 492 yJ0_isLatin1_aae02], w ∈ lw_g := a_ps [714, 112, 712, 713, 711] rfl rfl
set_option maxRecDepth 20000 in
theorem wS_length : ∀ w ∈ [Cond.code yJ0_length_8abf5 cJ0_length_8abf5 1 (some .int), .initialized yJ0_length_8abf5.cls, .instanceMethod yJ0_length_8abf5, .selects yJ0_length_8abf5.cls yJ0_length_8abf5 yJ0_length_8abf5], w ∈ lw_g := a_ps [700, 112, 698, 699] rfl rfl
set_option maxRecDepth 20000 in
theorem wS_charAt : ∀ w ∈ [Cond.code yJ0_charAt_5068e cJ0_charAt_5068e 2 (some .char), .initialized yJ0_charAt_5068e.cls, .instanceMethod yJ0_charAt_5068e, .selects yJ0_charAt_5068e.cls yJ0_charAt_5068e yJ0_charAt_5068e], w ∈ lw_g := a_ps [710, 112, 708, 709] rfl rfl
set_option maxHeartbeats 1000000 in
set_option maxRecDepth 20000 in
theorem uS_sci (hZ : a_Z l G) {i n : Int32} (hi : ¬ i < 0) (hn : i < n) : a_MU l G yJ0_checkIndex_df160 (.code yJ0_checkIndex_df160 cJ0_checkIndex_df160 2 none) 2 38 [.int i, .int n] none := by
  refine va_MetF (cc := cJ0_checkIndex_df160) (maxL := 2) (ret := none) (by decide +kernel) rfl ?_
  intro p e s m args below meth c s₁ B hml hv
  obtain ⟨rfl, hWs, hbs, hbh⟩ := hv
  have hG := hZ.2.1
  have hx := B.exec
  have hb := B.bytes
  have hr := B.returns
  have hlocks := B.notSynchronized
  have hts := a_hts (args := ([.int i, .int n] : List Value).toArray) hG hWs
  have hown : s.vm.findClass RJ0 = some m.cls := findClass_of_methodNamed B.named
  have hold : ∀ a : Nat, a < (g_s G).heap.size → ¬ a_sA G a → s.heap[a]? = (g_s G).heap[a]? := fun a ha _ => hbh a ha
  have hC := (hZ.2.2.2.2.2.2.moved hWs.alike).kept hold
  have hl := lv_entry ([.int i, .int n]) (n := 2) (Nat.le_of_ble_eq_true rfl)
  rw [lg_entry_eq]
  generalize (lg_sl ([.int i, .int n]) ++ List.replicate (2 - (lg_sl ([.int i, .int n])).length) Slot.unset).toArray = ls at hl ⊢
  have hl : lv_has ls 2 [(0, .int i), (1, .int n)] := hl
  refine lv_iload_n hx hb dJ0_checkIndex_df160_0 rfl (lv_at hl 0 rfl) ?_
  refine lv_iload_n hx hb dJ0_checkIndex_df160_1 rfl (lv_at hl 1 rfl) ?_
  have fin : ∀ w : Value, w.category = 1 → W p l e (headSpec [Cond.code yJ0_checkIndex_df160 cJ0_checkIndex_df160 2 none] (a_rU 2 38)).room s m ([.int i, .int n] : List Value).toArray below meth c s.heap [] 0 0 (MQ below (a_QU none) ([.int i, .int n] : List Value).toArray s 0 0 (fun _ => False)) (F0 m 5 ls (w :: .int n :: .int i :: [])) := by
    intro w hw
    refine a_goUS (na := 3) (As := [.int i, .int n, w]) (rest := []) hx hb hml hown hts (uS_pci hZ hi hn hw) wS_pci (by decide +kernel) ⟨rfl, rfl⟩ hWs ⟨hbs, hbh⟩ rfl hl.1 (Nat.zero_le _) dJ0_checkIndex_df160_5 ⟨Nat.zero_le _, Nat.zero_le _⟩ ?_
    refine lv_pop hx hb dJ0_checkIndex_df160_8 rfl ?_
    exact W.vret hx hb hr (fun t ht _ => ⟨rfl, ht⟩) (fun q h => by cases h) dJ0_checkIndex_df160_9
  rcases hC with hC | ⟨t, hC⟩
  · exact va_gets (A := a_sA G) hx hb hC va_S.rf hown (hts (.fieldLink RJ0 1053 "jdk/internal/util/Preconditions" "SIOOBE_FORMATTER" "Ljava/util/function/BiFunction;") (a_p1 721 rfl rfl)) (fun _ h => h) dJ0_checkIndex_df160_2 (fin .null rfl)
  · exact va_gets (A := a_sA G) hx hb hC va_S.rf hown (hts (.fieldLink RJ0 1053 "jdk/internal/util/Preconditions" "SIOOBE_FORMATTER" "Ljava/util/function/BiFunction;") (a_p1 721 rfl rfl)) (fun _ h => h) dJ0_checkIndex_df160_2 (fin (.ref t) rfl)
set_option maxHeartbeats 1000000 in
set_option maxRecDepth 20000 in
theorem uS_lca (hZ : a_Z l G) {i : Nat} {q : String × Nat × String} (hi : zs[i]? = some q) {adV : Nat → Nat} (hT : va_T .byte (adV i) q.2.2.length (fun j => .int (Int32.ofNat ((q.2.2.toList.map Char.toNat).getD j 0))) (a_sA G) (g_s G) (g_s G).heap) (hlen : q.2.2.length < 2 ^ 31) {j : Int32} (hj : a_ok j q.2.2.length = true) :
    a_MU l G yJ1_charAt_3b067 (.code yJ1_charAt_3b067 cJ1_charAt_3b067 2 (some .char)) 3 59 [.ref (adV i), .int j] (some (.int (Int32.ofNat ((q.2.2.toList.map Char.toNat).getD j.toNatClampNeg 0)))) := by
  refine va_MetF (cc := cJ1_charAt_3b067) (maxL := 2) (ret := some .char) (by decide +kernel) rfl ?_
  intro p e s m args below meth c s₁ B hml hv
  obtain ⟨rfl, hWs, hbs, hbh⟩ := hv
  have hG := hZ.2.1
  have hx := B.exec
  have hb := B.bytes
  have hr := B.returns
  have hlocks := B.notSynchronized
  have hts := a_hts (args := ([.ref (adV i), .int j] : List Value).toArray) hG hWs
  have hown : s.vm.findClass RJ1 = some m.cls := findClass_of_methodNamed B.named
  have hold : ∀ a : Nat, a < (g_s G).heap.size → ¬ a_sA G a → s.heap[a]? = (g_s G).heap[a]? := fun a ha _ => hbh a ha
  have hT := (hT.moved hWs.alike).kept hold
  have hin := a_ok_in hj
  have h0 : ¬ j < 0 := by
    intro h
    exact hin (Or.inl h)
  have hnl : j.toNatClampNeg < q.2.2.length := Nat.not_le.mp fun z => hin (Or.inr z)
  have hjl : j < Int32.ofNat q.2.2.length := by
    have h1 := Int32.not_lt.mp h0
    have h2 : (0 : Int) ≤ j.toInt := by simpa using Int32.le_iff_toInt_le.mp h1
    have h3 : j.toInt = (j.toNatClampNeg : Int) := by
      show j.toInt = ((j.toInt.toNat : Nat) : Int)
      omega
    apply Int32.lt_iff_toInt_lt.mpr
    rw [Int32.toInt_ofNat_of_lt hlen]
    omega
  have hl := lv_entry ([.ref (adV i), .int j]) (n := 2) (Nat.le_of_ble_eq_true rfl)
  rw [lg_entry_eq]
  generalize (lg_sl ([.ref (adV i), .int j]) ++ List.replicate (2 - (lg_sl ([.ref (adV i), .int j])).length) Slot.unset).toArray = ls at hl ⊢
  have hl : lv_has ls 2 [(0, .ref (adV i)), (1, .int j)] := hl
  refine lv_iload_n hx hb dJ1_charAt_3b067_0 rfl (lv_at hl 1 rfl) ?_
  refine lv_aload_n hx hb dJ1_charAt_3b067_1 rfl (lv_at hl 0 rfl) ?_
  refine va_tlen (A := a_sA G) hx hb hT va_S.rf rfl dJ1_charAt_3b067_2 ?_
  refine a_goUS (na := 2) (As := [.int j, .int (Int32.ofNat q.2.2.length)]) (rest := []) hx hb hml hown hts (uS_sci hZ h0 hjl) wS_sci (by decide +kernel) ⟨rfl, rfl⟩ hWs ⟨hbs, hbh⟩ rfl hl.1 (Nat.zero_le _) dJ1_charAt_3b067_3 ⟨Nat.zero_le _, Nat.zero_le _⟩ ?_
  refine lv_aload_n hx hb dJ1_charAt_3b067_6 rfl (lv_at hl 0 rfl) ?_
  refine lv_iload_n hx hb dJ1_charAt_3b067_7 rfl (lv_at hl 1 rfl) ?_
  refine va_tb (A := a_sA G) hx hb hT va_S.rf hin rfl dJ1_charAt_3b067_8 ?_
  refine lv_sipush (v := 255) hx hb (n := 255) dJ1_charAt_3b067_9 (by decide) ?_
  refine lv_iand hx hb dJ1_charAt_3b067_12 ?_
  have hz := z_asc1 _ (z_asc hi j.toNatClampNeg)
  refine lv_i2c hx hb dJ1_charAt_3b067_13 hz.1 ?_
  exact W.zret hx hb hr hz.2 (fun t ht _ => ⟨rfl, ht⟩) (fun q h => by cases h) dJ1_charAt_3b067_14
set_option maxHeartbeats 1000000 in
set_option maxRecDepth 20000 in
theorem uS_coder (hZ : a_Z l G) {i : Nat} {q : String × Nat × String} (hi : zs[i]? = some q) : a_MU l G yJ0_coder_7d493 (.code yJ0_coder_7d493 cJ0_coder_7d493 1 (some .byte)) 1 16 [.ref (g_ad G (1000 + i))] (some (.int 0)) := by
  refine va_MetF (cc := cJ0_coder_7d493) (maxL := 1) (ret := some .byte) (by decide +kernel) rfl ?_
  intro p e s m args below meth c s₁ B hml hv
  obtain ⟨rfl, hWs, hbs, hbh⟩ := hv
  have hG := hZ.2.1
  have hx := B.exec
  have hb := B.bytes
  have hr := B.returns
  have hlocks := B.notSynchronized
  have hts := a_hts (args := ([.ref (g_ad G (1000 + i))] : List Value).toArray) hG hWs
  have hown : s.vm.findClass RJ0 = some m.cls := findClass_of_methodNamed B.named
  have hold : ∀ a : Nat, a < (g_s G).heap.size → ¬ a_sA G a → s.heap[a]? = (g_s G).heap[a]? := fun a ha _ => hbh a ha
  obtain ⟨⟨adV, hV⟩, hC, -⟩ := hZ.2.2.2.2
  have hC := (hC.moved hWs.alike).kept hold
  have hF := ((hV i q hi).2.1.moved hWs.alike).kept hold
  have hl := lv_entry ([.ref (g_ad G (1000 + i))]) (n := 1) (Nat.le_of_ble_eq_true rfl)
  rw [lg_entry_eq]
  generalize (lg_sl ([.ref (g_ad G (1000 + i))]) ++ List.replicate (1 - (lg_sl ([.ref (g_ad G (1000 + i))])).length) Slot.unset).toArray = ls at hl ⊢
  have hl : lv_has ls 1 [(0, .ref (g_ad G (1000 + i)))] := hl
  refine va_gets (A := a_sA G) hx hb hC va_S.rf hown (hts (.fieldLink RJ0 38 "java/lang/String" "COMPACT_STRINGS" "Z") (a_p1 705 rfl rfl)) (fun _ h => h) dJ0_coder_7d493_0 ?_
  refine lv_if_eq (tgt := 13) hx hb (off := 10) dJ0_coder_7d493_3 (by decide) (fun h => absurd h (by decide)) (fun _ => ?_)
  refine lv_aload_n hx hb dJ0_coder_7d493_6 rfl (lv_at hl 0 rfl) ?_
  refine vk_getf (A := a_sA G) hx hb hF va_S.rf hown (hts (.fieldLink RJ0 15 "java/lang/String" "coder" "B") (a_p1 1649 rfl rfl)) (fun _ h => h) dJ0_coder_7d493_7 ?_
  refine lv_goto (tgt := 14) hx hb (off := 4) dJ0_coder_7d493_10 (by decide) ?_
  exact W.zret hx hb hr rfl (fun t ht _ => ⟨rfl, ht⟩) (fun q h => by cases h) dJ0_coder_7d493_14
set_option maxHeartbeats 1000000 in
set_option maxRecDepth 20000 in
theorem uS_isLatin1 (hZ : a_Z l G) {i : Nat} {q : String × Nat × String} (hi : zs[i]? = some q) : a_MU l G yJ0_isLatin1_aae02 (.code yJ0_isLatin1_aae02 cJ0_isLatin1_aae02 1 (some .boolean)) 1 16 [.ref (g_ad G (1000 + i))] (some (.int 1)) := by
  refine va_MetF (cc := cJ0_isLatin1_aae02) (maxL := 1) (ret := some .boolean) (by decide +kernel) rfl ?_
  intro p e s m args below meth c s₁ B hml hv
  obtain ⟨rfl, hWs, hbs, hbh⟩ := hv
  have hG := hZ.2.1
  have hx := B.exec
  have hb := B.bytes
  have hr := B.returns
  have hlocks := B.notSynchronized
  have hts := a_hts (args := ([.ref (g_ad G (1000 + i))] : List Value).toArray) hG hWs
  have hown : s.vm.findClass RJ0 = some m.cls := findClass_of_methodNamed B.named
  have hold : ∀ a : Nat, a < (g_s G).heap.size → ¬ a_sA G a → s.heap[a]? = (g_s G).heap[a]? := fun a ha _ => hbh a ha
  obtain ⟨⟨adV, hV⟩, hC, -⟩ := hZ.2.2.2.2
  have hC := (hC.moved hWs.alike).kept hold
  have hF := ((hV i q hi).2.1.moved hWs.alike).kept hold
  have hl := lv_entry ([.ref (g_ad G (1000 + i))]) (n := 1) (Nat.le_of_ble_eq_true rfl)
  rw [lg_entry_eq]
  generalize (lg_sl ([.ref (g_ad G (1000 + i))]) ++ List.replicate (1 - (lg_sl ([.ref (g_ad G (1000 + i))])).length) Slot.unset).toArray = ls at hl ⊢
  have hl : lv_has ls 1 [(0, .ref (g_ad G (1000 + i)))] := hl
  refine va_gets (A := a_sA G) hx hb hC va_S.rf hown (hts (.fieldLink RJ0 38 "java/lang/String" "COMPACT_STRINGS" "Z") (a_p1 705 rfl rfl)) (fun _ h => h) dJ0_isLatin1_aae02_0 ?_
  refine lv_if_eq (tgt := 17) hx hb (off := 14) dJ0_isLatin1_aae02_3 (by decide) (fun h => absurd h (by decide)) (fun _ => ?_)
  refine lv_aload_n hx hb dJ0_isLatin1_aae02_6 rfl (lv_at hl 0 rfl) ?_
  refine vk_getf (A := a_sA G) hx hb hF va_S.rf hown (hts (.fieldLink RJ0 15 "java/lang/String" "coder" "B") (a_p1 1649 rfl rfl)) (fun _ h => h) dJ0_isLatin1_aae02_7 ?_
  refine lv_if_ne (tgt := 17) hx hb (off := 7) dJ0_isLatin1_aae02_10 (by decide) (fun h => absurd rfl h) (fun _ => ?_)
  refine lv_iconst (v := 1) hx hb (n := 1) dJ0_isLatin1_aae02_13 (by decide) ?_
  refine lv_goto (tgt := 18) hx hb (off := 4) dJ0_isLatin1_aae02_14 (by decide) ?_
  exact W.zret hx hb hr rfl (fun t ht _ => ⟨rfl, ht⟩) (fun q h => by cases h) dJ0_isLatin1_aae02_18
set_option maxHeartbeats 1000000 in
set_option maxRecDepth 20000 in
theorem uS_length (hZ : a_Z l G) {i : Nat} {q : String × Nat × String} (hi : zs[i]? = some q) : a_MU l G yJ0_length_8abf5 (.code yJ0_length_8abf5 cJ0_length_8abf5 1 (some .int)) 2 36 [.ref (g_ad G (1000 + i))] (some (.int (Int32.ofNat q.2.2.length))) := by
  refine va_MetF (cc := cJ0_length_8abf5) (maxL := 1) (ret := some .int) (by decide +kernel) rfl ?_
  intro p e s m args below meth c s₁ B hml hv
  obtain ⟨rfl, hWs, hbs, hbh⟩ := hv
  have hG := hZ.2.1
  have hx := B.exec
  have hb := B.bytes
  have hr := B.returns
  have hlocks := B.notSynchronized
  have hts := a_hts (args := ([.ref (g_ad G (1000 + i))] : List Value).toArray) hG hWs
  have hown : s.vm.findClass RJ0 = some m.cls := findClass_of_methodNamed B.named
  have hold : ∀ a : Nat, a < (g_s G).heap.size → ¬ a_sA G a → s.heap[a]? = (g_s G).heap[a]? := fun a ha _ => hbh a ha
  obtain ⟨⟨adV, hV⟩, hC, -⟩ := id hZ.2.2.2.2
  obtain ⟨v1, v2, v3, v4⟩ := hV i q hi
  have hO := (v1.moved hWs.alike).kept hold
  have hF := (v3.moved hWs.alike).kept hold
  have hT := (v4.moved hWs.alike).kept hold
  obtain ⟨cell, o1, o2, o3, -⟩ := hO
  have hl := lv_entry ([.ref (g_ad G (1000 + i))]) (n := 1) (Nat.le_of_ble_eq_true rfl)
  rw [lg_entry_eq]
  generalize (lg_sl ([.ref (g_ad G (1000 + i))]) ++ List.replicate (1 - (lg_sl ([.ref (g_ad G (1000 + i))])).length) Slot.unset).toArray = ls at hl ⊢
  have hl : lv_has ls 1 [(0, .ref (g_ad G (1000 + i)))] := hl
  refine lv_aload_n hx hb dJ0_length_8abf5_0 rfl (lv_at hl 0 rfl) ?_
  refine vk_getf (A := a_sA G) hx hb hF va_S.rf hown (hts (.fieldLink RJ0 9 "java/lang/String" "value" "[B") (a_p1 1648 rfl rfl)) (fun _ h => h) dJ0_length_8abf5_1 ?_
  refine va_tlen (A := a_sA G) hx hb hT va_S.rf rfl dJ0_length_8abf5_4 ?_
  refine lv_aload_n hx hb dJ0_length_8abf5_5 rfl (lv_at hl 0 rfl) ?_
  refine a_goUV (b := g_ad G (1000 + i)) (As := []) (rest := [.int (Int32.ofNat q.2.2.length)]) hx hb hml hown hts (uS_coder hZ hi) (fun w hw => wS_coder w (by simp at hw ⊢; rcases hw with h | h | h | h <;> simp [h])) (wS_coder _ (by simp)) (by decide +kernel) ⟨Nat.le_of_ble_eq_true rfl, Nat.le_of_ble_eq_true rfl⟩ hWs ⟨hbs, hbh⟩ ⟨cell, o1, o2, o3⟩ rfl hl.1 (Nat.le_of_ble_eq_true rfl) dJ0_length_8abf5_6 ⟨Nat.zero_le _, Nat.zero_le _⟩ ?_
  refine lv_ishr hx hb dJ0_length_8abf5_9 ?_
  rw [a_shr0]
  exact W.iret hx hb hr (fun t ht _ => ⟨rfl, ht⟩) (fun q h => by cases h) dJ0_length_8abf5_10
theorem z_short : zs.all (fun q => Nat.blt q.2.2.length 1000) = true := by decide +kernel
set_option maxHeartbeats 1000000 in
set_option maxRecDepth 20000 in
theorem uS_charAt (hZ : a_Z l G) {i : Nat} {q : String × Nat × String} (hi : zs[i]? = some q) {j : Int32} (hj : a_ok j q.2.2.length = true) : a_MU l G yJ0_charAt_5068e (.code yJ0_charAt_5068e cJ0_charAt_5068e 2 (some .char)) 4 80 [.ref (g_ad G (1000 + i)), .int j] (some (.int (Int32.ofNat ((q.2.2.toList.map Char.toNat).getD j.toNatClampNeg 0)))) := by
  refine va_MetF (cc := cJ0_charAt_5068e) (maxL := 2) (ret := some .char) (by decide +kernel) rfl ?_
  intro p e s m args below meth c s₁ B hml hv
  obtain ⟨rfl, hWs, hbs, hbh⟩ := hv
  have hG := hZ.2.1
  have hx := B.exec
  have hb := B.bytes
  have hr := B.returns
  have hlocks := B.notSynchronized
  have hts := a_hts (args := ([.ref (g_ad G (1000 + i)), .int j] : List Value).toArray) hG hWs
  have hown : s.vm.findClass RJ0 = some m.cls := findClass_of_methodNamed B.named
  have hold : ∀ a : Nat, a < (g_s G).heap.size → ¬ a_sA G a → s.heap[a]? = (g_s G).heap[a]? := fun a ha _ => hbh a ha
  obtain ⟨⟨adV, hV⟩, hC, -⟩ := id hZ.2.2.2.2
  obtain ⟨v1, v2, v3, v4⟩ := hV i q hi
  have hO := (v1.moved hWs.alike).kept hold
  have hF := (v3.moved hWs.alike).kept hold
  have hlen : q.2.2.length < 2 ^ 31 := Nat.lt_trans (Nat.blt_eq.mp (List.all_eq_true.mp z_short q (List.mem_of_getElem? hi))) (by decide)
  obtain ⟨cell, o1, o2, o3, -⟩ := hO
  have hl := lv_entry ([.ref (g_ad G (1000 + i)), .int j]) (n := 2) (Nat.le_of_ble_eq_true rfl)
  rw [lg_entry_eq]
  generalize (lg_sl ([.ref (g_ad G (1000 + i)), .int j]) ++ List.replicate (2 - (lg_sl ([.ref (g_ad G (1000 + i)), .int j])).length) Slot.unset).toArray = ls at hl ⊢
  have hl : lv_has ls 2 [(0, .ref (g_ad G (1000 + i))), (1, .int j)] := hl
  refine lv_aload_n hx hb dJ0_charAt_5068e_0 rfl (lv_at hl 0 rfl) ?_
  refine a_goUV (b := g_ad G (1000 + i)) (As := []) (rest := []) hx hb hml hown hts (uS_isLatin1 hZ hi) (fun w hw => wS_isLatin1 w (by simp at hw ⊢; rcases hw with h | h | h | h <;> simp [h])) (wS_isLatin1 _ (by simp)) (by decide +kernel) ⟨Nat.le_of_ble_eq_true rfl, Nat.le_of_ble_eq_true rfl⟩ hWs ⟨hbs, hbh⟩ ⟨cell, o1, o2, o3⟩ rfl hl.1 (Nat.zero_le _) dJ0_charAt_5068e_1 ⟨Nat.zero_le _, Nat.zero_le _⟩ ?_
  refine lv_if_eq (tgt := 16) hx hb (off := 12) dJ0_charAt_5068e_4 (by decide) (fun h => absurd h (by decide)) (fun _ => ?_)
  refine lv_aload_n hx hb dJ0_charAt_5068e_7 rfl (lv_at hl 0 rfl) ?_
  refine vk_getf (A := a_sA G) hx hb hF va_S.rf hown (hts (.fieldLink RJ0 9 "java/lang/String" "value" "[B") (a_p1 1648 rfl rfl)) (fun _ h => h) dJ0_charAt_5068e_8 ?_
  refine lv_iload_n hx hb dJ0_charAt_5068e_11 rfl (lv_at hl 1 rfl) ?_
  refine a_goUS (na := 2) (As := [.ref (adV i), .int j]) (rest := []) hx hb hml hown hts (uS_lca hZ hi v4 hlen hj) wS_lca (by decide +kernel) ⟨rfl, rfl⟩ hWs ⟨hbs, hbh⟩ rfl hl.1 (Nat.zero_le _) dJ0_charAt_5068e_12 ⟨Nat.zero_le _, Nat.zero_le _⟩ ?_
  exact W.zret hx hb hr (z_asc1 _ (z_asc hi j.toNatClampNeg)).2 (fun t ht _ => ⟨rfl, ht⟩) (fun q h => by cases h) dJ0_charAt_5068e_15
end UM
theorem z_at {k : Nat} (h : (Nat.ble 1000 k && Nat.blt k (1000 + zs.length)) = true) : ∃ i q, k = 1000 + i ∧ zs[i]? = some q ∧ z_len k = q.2.2.length ∧ ∀ j, z_chr k j = Int32.ofNat ((q.2.2.toList.map Char.toNat).getD j 0) := by
  simp only [Bool.and_eq_true] at h
  have h1 := Nat.le_of_ble_eq_true h.1
  have h2 : k < 1000 + zs.length := Nat.blt_eq.mp h.2
  have h3 : k - 1000 < zs.length := by omega
  have hq : zs[k - 1000]? = some zs[k - 1000] := List.getElem?_eq_getElem h3
  refine ⟨k - 1000, zs[k - 1000], by omega, hq, ?_, fun j => ?_⟩
  · unfold z_len; rw [hq]
  · unfold z_chr; rw [hq]
theorem q_slen {l : Launch} {G : aG} {own : String} {cc : ByteArray} {P : aPrg} {fr lo n : Nat} (hZ : a_Z l G) (i : Nat) (hw : lw_tbl[i]? = some (Cond.methodLink own n yJ0_length_8abf5)) (h1 : Nat.ble 6 fr = true) (h2 : Nat.ble 160 lo = true) : a_CQ l G shp own cc P fr lo (n, a_slen, 1, 1000, 0) := by
  refine ⟨fun as σ o σ' h _ => ?_, ?_⟩
  · unfold a_slen at h
    simp only at h
    split at h
    · split at h
      · cases h; exact Nat.le_refl _
      · cases h
    · cases h
  · intro p e R s m args below meth c Q nL g0 gf Fin virt hM hR1 hR2 hRc pc hEg hEx L as r σ hdg hv hwr hlen hwa h
    obtain ⟨hx, hb, hml, hown, hWs, hbs, hbh⟩ := id hM
    have hG := hZ.2.1
    have hts := a_hts (args := args) hG hWs
    have r1 := Nat.le_of_ble_eq_true h1
    have r2 := Nat.le_of_ble_eq_true h2
    cases virt with
    | false => exact absurd hv (by simp [a_vok])
    | true =>
      simp only at h hdg
      unfold a_slen at h
      split at h
      · rename_i k
        split at h
        · rename_i hk
          obtain ⟨i0, q, rfl, hq, hzl, -⟩ := z_at hk
          rw [hzl] at h
          have h9 : a_K p l e R s m args below meth c Q G shp nL g0 gf (pc + 3) L (.int (Int32.ofNat q.2.2.length) :: r) σ := h
          intro H locs ls hP hS hL hX hg
          have hwt : ((r.map (a_cv (g_ad G))).map fun v => v.category).sum ≤ 8 := by rw [a_wt_sum]; exact hwr
          have hWh : a_Wh G shp σ H := a_Wh_of hG hbs hbh hP hS hX
          obtain ⟨⟨adV, hV⟩, -, -⟩ := id hZ.2.2.2.2
          obtain ⟨cell, o1, o2, o3, -⟩ := ((hV i0 q hq).1.moved hWs.alike).kept (H1 := H) (fun a ha _ => hWh.2.2.1 a ha)
          have := h9.1
          exact a_goUV (b := g_ad G (1000 + i0)) (As := []) (rest := r.map (a_cv (g_ad G))) hx hb hml hown hts (uS_length hZ hq) wS_length (List.mem_filter.mpr ⟨List.mem_of_getElem? hw, rfl⟩) (by decide +kernel) ⟨by omega, by omega⟩ hWs ⟨hWh.2.1, hWh.2.2.1⟩ ⟨cell, o1, o2, o3⟩ rfl hL.1 hwt hdg ⟨by omega, by omega⟩ (h9.2 H locs ls hP hS hL hX hg)
        · exact h.elim
      · exact h.elim
theorem q_schr {l : Launch} {G : aG} {own : String} {cc : ByteArray} {P : aPrg} {fr lo n : Nat} (hZ : a_Z l G) (i : Nat) (hw : lw_tbl[i]? = some (Cond.methodLink own n yJ0_charAt_5068e)) (h1 : Nat.ble 6 fr = true) (h2 : Nat.ble 160 lo = true) : a_CQ l G shp own cc P fr lo (n, a_schr, 2, 1000, 0) := by
  refine ⟨fun as σ o σ' h _ => ?_, ?_⟩
  · unfold a_schr at h
    simp only at h
    split at h
    · split at h
      · cases h; exact Nat.le_refl _
      · cases h
    · cases h
  · intro p e R s m args below meth c Q nL g0 gf Fin virt hM hR1 hR2 hRc pc hEg hEx L as r σ hdg hv hwr hlen hwa h
    obtain ⟨hx, hb, hml, hown, hWs, hbs, hbh⟩ := id hM
    have hG := hZ.2.1
    have hts := a_hts (args := args) hG hWs
    have r1 := Nat.le_of_ble_eq_true h1
    have r2 := Nat.le_of_ble_eq_true h2
    cases virt with
    | false => exact absurd hv (by simp [a_vok])
    | true =>
      simp only at h hdg
      unfold a_schr at h
      split at h
      · rename_i k j
        split at h
        · rename_i hk
          have hk2 : (Nat.ble 1000 k && Nat.blt k (1000 + zs.length)) = true ∧ a_ok j (z_len k) = true := by
            simp only [Bool.and_eq_true] at hk ⊢
            exact ⟨⟨hk.1, hk.2.1⟩, hk.2.2⟩
          obtain ⟨i0, q, rfl, hq, hzl, hzc⟩ := z_at hk2.1
          rw [hzc] at h
          have hj := hk2.2
          rw [hzl] at hj
          have h9 : a_K p l e R s m args below meth c Q G shp nL g0 gf (pc + 3) L (.int (Int32.ofNat ((q.2.2.toList.map Char.toNat).getD j.toNatClampNeg 0)) :: r) σ := h
          intro H locs ls hP hS hL hX hg
          have hwt : ((r.map (a_cv (g_ad G))).map fun v => v.category).sum ≤ 8 := by rw [a_wt_sum]; exact hwr
          have hWh : a_Wh G shp σ H := a_Wh_of hG hbs hbh hP hS hX
          obtain ⟨⟨adV, hV⟩, -, -⟩ := id hZ.2.2.2.2
          obtain ⟨cell, o1, o2, o3, -⟩ := ((hV i0 q hq).1.moved hWs.alike).kept (H1 := H) (fun a ha _ => hWh.2.2.1 a ha)
          have := h9.1
          exact a_goUV (na := 1) (b := g_ad G (1000 + i0)) (As := [.int j]) (rest := r.map (a_cv (g_ad G))) hx hb hml hown hts (uS_charAt hZ hq hj) wS_charAt (List.mem_filter.mpr ⟨List.mem_of_getElem? hw, rfl⟩) (by decide +kernel) ⟨by omega, by omega⟩ hWs ⟨hWh.2.1, hWh.2.2.1⟩ ⟨cell, o1, o2, o3⟩ rfl hL.1 hwt hdg ⟨by omega, by omega⟩ (h9.2 H locs ls hP hS hL hX hg)
        · exact h.elim
      · exact h.elim
