/-! ===== constructors: contracts, rows ===== -/
theorem a_hts0 {s0 s : State} {args : Array Value} (h : ∃ aa : Array Value, ∀ w ∈ lw_tbl, w.before aa s0 = true) (hW : s0.WarmedH s.vm) : ∀ w ∈ lw_g, w.before args s = true := by
  obtain ⟨aa, haa⟩ := h
  intro w hw
  exact word_at hW (good_of_word (List.mem_filter.mp hw).2) (haa w (List.mem_filter.mp hw).1)
/-- what a constructor stands on: the tables' words, the classes and array classes -/
def c_H (s0 : State) (D : va_G) (ca : Nat → ClassId) : Prop := (∃ aa : Array Value, ∀ w ∈ lw_tbl, w.before aa s0 = true) ∧ va_K D vwCl (a_tys ca) s0
abbrev c_rm (fr lo mc ms : Nat) : Room := { frames := fr, cells := mc, slots := ms, locals := lo }
def c_P (s0 : State) (D : va_G) (as : List Value) (w0 : va_W) (sz : Nat) : Array Value → State → Prop := va_Pc as (fun U => U.heap.size = sz ∧ s0.WarmedH U.vm ∧ va_P D vwCl w0 U.heap ∧ va_D (fun _ => True) w0)
abbrev c_B (D : va_G) (A : Nat → Prop) (w1 : (Nat → Nat) → va_W) : (Nat → Nat) → State → Prop := fun u t => va_P D vwCl (w1 u) t.heap ∧ va_D A (w1 u)
/-- a constructor's contract: the cells w0 become w1 u, u the new cells' addresses -/
def c_M (l : Launch) (s0 : State) (D : va_G) (y : MethodName) (w : Cond) (fr lo mc ms : Nat) (as : List Value) (w0 : va_W) (w1 : (Nat → Nat) → va_W) : Prop := ∀ sz : Nat, Met l y [w] (c_rm fr lo mc ms) (c_P s0 D as w0 sz) (va_Qv (fun _ : Nat → Nat => True) (c_B D (va_A w0 sz) w1) (va_A w0 sz)) mc ms (va_A w0 sz)
def c_X (p : Program) (s0 s : State) (D : va_G) (ca : Nat → ClassId) (m : MethodId) (args : Array Value) (meth : Method) (c : Code) (cc : ByteArray) (own : String) (nL : Nat) (A : Nat → Prop) : Prop :=
  p.tables.exec = Jvm.exec ∧ c.code = cc ∧ meth.sig.returnType = none ∧ meth.locks = false ∧ meth.name = "<init>" ∧ (∀ w ∈ lw_g, w.before args s = true) ∧ s.vm.findClass own = some m.cls ∧ c.maxLocals = nL ∧ va_K D vwCl (a_tys ca) s ∧ s0.WarmedH s.vm ∧ (∀ q, s.heap.size ≤ q → A q)
theorem c_start {l : Launch} {s0 : State} {D : va_G} {ca : Nat → ClassId} {y : MethodName} {cc : ByteArray} {nL fr lo mc ms : Nat} {as : List Value} {w0 : va_W} {w1 : (Nat → Nat) → va_W} (hc : c_H s0 D ca) (hpl : plainName y.cls = true) (hyn : y.name = "<init>")
    (hh : ∀ (p : Program) (e : Env) (s : State) (m : MethodId) (below : List Frame) (meth : Method) (c : Code) (A : Nat → Prop), c_X p s0 s D ca m as.toArray meth c cc y.cls nL A → va_P D vwCl w0 s.heap → va_D A w0 → W p l e (headSpec [Cond.code y cc nL none] (c_rm fr lo mc ms)).room s m as.toArray below meth c s.heap [] 0 0 (MQ below (va_Qv (fun _ : Nat → Nat => True) (c_B D A w1) A) as.toArray s mc ms A) (entryFrame m as.toArray nL)) : c_M l s0 D y (.code y cc nL none) fr lo mc ms as w0 w1 := by
  intro sz
  refine va_MetF (cc := cc) (maxL := nL) (ret := none) (plainFor_of_name hpl) rfl ?_
  intro p e s m args below meth c s₁ B hml hv
  obtain ⟨rfl, hsz, hWs, hP, hD0⟩ := hv
  subst hsz
  exact hh p e s m below meth c (va_A w0 s.heap.size) ⟨B.exec, B.bytes, B.returns, B.notSynchronized, (name_of_methodNamed B.named B.method).1.trans hyn, a_hts0 hc.1 hWs, findClass_of_methodNamed B.named, hml, va_K.moved hWs.alike hc.2, hWs, fun q h => Or.inr h⟩ hP hD0.self
section CR
variable {p : Program} {l : Launch} {e : Env} {R : Room} {s0 s : State} {m : MethodId} {args : Array Value} {below : List Frame} {meth : Method} {c : Code} {Q : State → Prop} {H : Heap} {locs : List Loc} {cells slots : Nat} {ls : Array Slot} {rest : List Value} {D : va_G} {ca : Nat → ClassId} {cc : ByteArray} {A : Nat → Prop} {ws : va_W} {pc : Nat}
theorem c_newa (t : Nat) (hx : p.tables.exec = Jvm.exec) (hb : c.code = cc) {atype : ArrayType} (harr : (Cond.arrayClass (newarray.typeOf atype)).before args s = true) {ty : FieldType} (hty : newarray.typeOf atype = ty) (hK : va_K D vwCl (a_tys ca) s) (ht : (a_tys ca)[t]? = some (ca t, ty)) (hu : ∀ c1 c2 : ClassId, va_RA s c1 ty → va_RA s c2 ty → c1 = c2)
    (hP : va_P D vwCl ws H) (hD : va_D A ws) (hS : va_S A s.heap H locs) (hA : ∀ q, s.heap.size ≤ q → A q) {n : Int32} {N' : Nat} {a0 : vp_A} (ha : ∀ cA : ClassId, vp_cell cA a0 = arrV cA N' (fun _ => defaultValue ty)) (hn : ¬ n < 0) (hN : n.toNatClampNeg = N') (hbytes : N' * componentBytes ty ≤ 536870912) (hcells : cells + 1 ≤ R.cells) (hslots : slots + N' ≤ R.slots) (hdg : decode cc pc = .ok (.newarray atype, 2))
    (kk : ∀ (q : Nat) (H1 : Heap), va_P D vwCl (ws ++ [(q, .inl (ca t, a0))]) H1 → va_D A (ws ++ [(q, .inl (ca t, a0))]) → va_S A s.heap H1 locs → W p l e R s m args below meth c H1 locs (cells + 1) (slots + N') Q (F0 m (pc + 2) ls (.ref q :: rest))) : W p l e R s m args below meth c H locs cells slots Q (F0 m pc ls (.int n :: rest)) := by
  refine va_newa hx hb harr hty hK hP hD hS hA ha hn hN hbytes hcells hslots hdg (fun q cA H1 hK1 hP1 hD1 hS1 => ?_)
  have e1 : cA = ca t := hu cA (ca t) (hK1.2 4 (cA, ty) rfl).2 (hK.2 t (ca t, ty) ht).2
  subst e1
  exact kk q H1 hP1 hD1 hS1
theorem c_one {b : Nat} {e0 : va_E} {wr w1 : va_W} {H1 : Heap} (hP : va_P D vwCl (wr ++ [(b, e0)]) H) (hD : va_D A (wr ++ [(b, e0)])) (hk : ∀ q : Nat, q < H.size → ¬ va_A [(b, e0)] H.size q → H1[q]? = H[q]?) (hF : ∀ q, va_A [(b, e0)] H.size q → A q) (hP1 : va_P D vwCl w1 H1) (hD1 : va_D (va_A [(b, e0)] H.size) w1) : va_P D vwCl (wr ++ w1) H1 ∧ va_D A (wr ++ w1) := by
  have hat : ∀ (k : Nat) (q : Nat × va_E), wr[k]? = some q → (wr ++ [(b, e0)])[k]? = some q := fun k q hq => by
    rw [List.getElem?_append_left (List.getElem?_eq_some_iff.mp hq).1]; exact hq
  have hlast : (wr ++ [(b, e0)])[wr.length]? = some (b, e0) := by simp
  have apart : ∀ (k : Nat) (q : Nat × va_E), wr[k]? = some q → q.1 < H.size ∧ ¬ va_A [(b, e0)] H.size q.1 := by
    intro k q hq
    have hl := (hP k q (hat k q hq)).lt
    refine ⟨hl, fun h => ?_⟩
    rcases h with ⟨k2, e, h⟩ | h
    · have hz : k2 < 1 := (List.getElem?_eq_some_iff.mp h).1
      rw [show k2 = 0 by omega] at h
      cases h
      have hij := hD.1 k wr.length q (q.1, e0) (hat k q hq) hlast rfl
      have := (List.getElem?_eq_some_iff.mp hq).1
      omega
    · omega
  refine ⟨va_P.app (fun k q hq => ?_) hP1, va_D.app ⟨fun i j x y hx hy hxy => hD.1 i j x y (hat i x hx) (hat j y hy) hxy, fun k q hq => hD.2 k q (hat k q hq)⟩ (hD1.weaken (fun k q _ h => hF q.1 h)) (fun i j x y hx hy hxy => ?_)⟩
  · obtain ⟨g1, g2⟩ := apart k q hq
    exact (hP k q (hat k q hq)).kept (hk q.1 g1 g2)
  · exact (apart i x hx).2 (by rw [hxy]; exact hD1.2 j y hy)
/-- a constructor is called, on the cell that was made last -/
theorem c_call {own : String} {y : MethodName} {bytes : ByteArray} {maxL fr lo mc ms n na nL b : Nat} {As : List Value} {e0 : va_E} {wr : va_W} {w1 : (Nat → Nat) → va_W} (hx : p.tables.exec = Jvm.exec) (hb : c.code = cc) (hml : c.maxLocals = nL) (hown : s.vm.findClass own = some m.cls) (hts : ∀ w ∈ lw_g, w.before args s = true) (hWs : s0.WarmedH s.vm) (h0 : ∃ aa : Array Value, ∀ w ∈ lw_tbl, w.before aa s0 = true)
    (hM : c_M l s0 D y (.code y bytes maxL none) fr lo mc ms (.ref b :: As) [(b, e0)] w1) (hlk : Cond.methodLink own n y ∈ lw_g ∨ ∃ host, Cond.methodLinkNest own n y host ∈ lw_tbl) (hw : ∀ w ∈ [Cond.code y bytes maxL none, .initialized y.cls, .instanceMethod y], w ∈ lw_g) (hyn : y.name = "<init>") (hd : y.cls ≠ "java/lang/invoke/MethodHandle" ∧ y.cls ≠ "java/lang/invoke/VarHandle" ∧ (parseMethodDescriptor y.desc).map (fun d => d.parameters.length) = some na)
    (hR : fr + 1 ≤ R.frames ∧ 8 + (maxL + 11) + lo ≤ R.locals) (hP : va_P D vwCl (wr ++ [(b, e0)]) H) (hD : va_D A (wr ++ [(b, e0)])) (hS : va_S A s.heap H locs) (hA : ∀ q, s.heap.size ≤ q → A q) (hlen : As.length = na) (hls : ls.size = nL) (hwt : (rest.map fun v => v.category).sum ≤ 8) (hdg : decode cc pc = .ok (.invokespecial n, 3)) (hf : cells + mc ≤ R.cells ∧ slots + ms ≤ R.slots)
    (kk : ∀ (u : Nat → Nat) (H1 : Heap) (locs1 : List Loc), va_P D vwCl (wr ++ w1 u) H1 → va_D A (wr ++ w1 u) → va_S A s.heap H1 locs1 → W p l e R s m args below meth c H1 locs1 (cells + mc) (slots + ms) Q (F0 m (pc + 3) ls rest)) : W p l e R s m args below meth c H locs cells slots Q (F0 m pc ls (As.reverse ++ .ref b :: rest)) := by
  have c1 := hw _ List.mem_cons_self
  have hws : ∀ w ∈ [Cond.code y bytes maxL none], ∀ (a' : Array Value) (U : State), s.WarmedH U.vm → w.before a' U = true := fun w hw a' U hW => by
    rcases List.mem_singleton.mp hw with rfl
    exact word_at hW (good_of_word (List.mem_filter.mp c1).2) (hts _ c1)
  have hnp : ∀ sig, parseMethodDescriptor y.desc = some sig → na = sig.parameters.length := fun sig hs => by
    have := hd.2.2
    rw [hs] at this
    exact (Option.some.inj this).symm
  have hlast : (wr ++ [(b, e0)])[wr.length]? = some (b, e0) := by simp
  have hPc : va_P D vwCl [(b, e0)] H := fun k q hq => by
    have hz : k < 1 := (List.getElem?_eq_some_iff.mp hq).1
    rw [show k = 0 by omega] at hq
    cases hq
    exact hP _ _ hlast
  have hDc : va_D (fun _ => True) [(b, e0)] := ⟨fun i j x y hx hy _ => by
    have h1 : i < 1 := (List.getElem?_eq_some_iff.mp hx).1
    have h2 : j < 1 := (List.getElem?_eq_some_iff.mp hy).1
    omega, fun _ _ _ => trivial⟩
  have hF : ∀ q, va_A [(b, e0)] H.size q → A q := by
    intro q h
    rcases h with ⟨k, e, h⟩ | h
    · have hz : k < 1 := (List.getElem?_eq_some_iff.mp h).1
      rw [show k = 0 by omega] at h
      cases h
      exact hD.2 _ _ hlast
    · exact hA q (Nat.le_trans hS.1 h)
  have hPre : ∀ U : State, U.heap = H → s.WarmedH U.vm → c_P s0 D (.ref b :: As) [(b, e0)] H.size (Value.ref b :: As).toArray U := fun U hU hW => ⟨rfl, by rw [hU], State.WarmedH.trans hWs hW, by rw [hU]; exact hPc, hDc⟩
  have key : va_Run p l e R s m args below meth c H locs cells slots mc ms (F0 m pc ls (As.reverse ++ .ref b :: rest)) rest (va_Qv (fun _ : Nat → Nat => True) (c_B D (va_A [(b, e0)] H.size) w1) (va_A [(b, e0)] H.size) (Value.ref b :: As).toArray) (va_A [(b, e0)] H.size) := by
    rcases hlk with c7 | ⟨host, c7⟩
    · exact va_runI (As := As) (rest := rest) (n := na) (index := n) (own := own) (bytes := bytes) (maxL := maxL) ⟨hx, hb, hml, hown, hts⟩ (hM H.size) ⟨⟨rfl, rfl, hR.1, hR.2, hws, List.mem_singleton.mpr rfl, hts _ c1, hts _ (hw (.initialized y.cls) (by simp)), ⟨hd.1, hd.2.1⟩, hnp, hts _ c7⟩, hyn, hts _ (hw (.instanceMethod y) (by simp))⟩ ⟨fun _ _ _ _ h => h, hPre⟩ rfl hlen hls rfl (lv_room hwt) hdg hf
    · obtain ⟨aa, haa⟩ := h0
      have hnw : va_Nw (.methodLinkNest own n y host) s := va_Nw.warmM hWs (va_Nw.of rfl (haa _ c7))
      exact va_runIN (As := As) (rest := rest) (n := na) (index := n) (own := own) (host := host) (bytes := bytes) (maxL := maxL) (Ts := lw_g) ⟨hx, hb, hml, hown, hts⟩ (hM H.size) ⟨⟨⟨rfl, rfl, hR.1, hR.2, hws, List.mem_singleton.mpr rfl⟩, hts _ c1, hts _ (hw (.initialized y.cls) (by simp)), ⟨hd.1, hd.2.1⟩, hnp, va_Nw.use rfl hnw⟩, hyn, hts _ (hw (.instanceMethod y) (by simp))⟩ ⟨fun _ _ _ _ h => h, hPre⟩ rfl hlen hls rfl (lv_room hwt) hdg hf
  refine va_callv key hS (fun q _ h => hF q h) hF (fun u t H1 locs1 ht hvm hw9 hB hz1 hk1 hS1 => ?_)
  obtain ⟨hP1, hD1⟩ := hB
  rw [ht] at hP1
  obtain ⟨g1, g2⟩ := c_one hP hD hk1 hF hP1 hD1
  exact kk u H1 locs1 g1 g2 hS1
end CR
theorem c_uI {s : State} : ∀ c1 c2 : ClassId, va_RA s c1 .int → va_RA s c2 .int → c1 = c2 := fun _ _ h1 h2 => Option.some.inj (h1.symm.trans h2)
theorem c_uB {s : State} : ∀ c1 c2 : ClassId, va_RA s c1 .byte → va_RA s c2 .byte → c1 = c2 := fun _ _ h1 h2 => Option.some.inj (h1.symm.trans h2)
theorem c_uZ {s : State} : ∀ c1 c2 : ClassId, va_RA s c1 .boolean → va_RA s c2 .boolean → c1 = c2 := fun _ _ h1 h2 => Option.some.inj (h1.symm.trans h2)
theorem c_uJ {s : State} : ∀ c1 c2 : ClassId, va_RA s c1 .long → va_RA s c2 .long → c1 = c2 := fun _ _ h1 h2 => Option.some.inj (h1.symm.trans h2)
