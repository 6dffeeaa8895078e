/-! ===== soundness: an abstract step is the machine's ===== -/
def a_isw : Instr → Bool
  | .tableswitch _ _ _ _ => true
  | _ => false
def a_ilen : Instr → Nat
  | .bipush _ => 2 | .ldc _ => 2 | .iload _ => 2 | .lload _ => 2 | .aload _ => 2 | .istore _ => 2 | .lstore _ => 2 | .astore _ => 2 | .newarray _ => 2
  | .sipush _ => 3 | .ldc_w _ => 3 | .ldc2_w _ => 3 | .iinc _ _ => 3 | .ifCond _ _ => 3 | .if_icmp _ _ => 3 | .goto _ => 3 | .getfield _ => 3 | .putfield _ => 3 | .invokevirtual _ => 3 | .invokestatic _ => 3 | .invokespecial _ => 3 | .new _ => 3
  | _ => 1
def a_dok (cc : ByteArray) (pc : Nat) (i : Instr) : Bool := match decode cc pc with
  | .ok (j, len) => decide (j = i) && (a_isw i || Nat.beq len (a_ilen i))
  | .error _ => false
theorem a_dok_ok {cc : ByteArray} {pc : Nat} {i : Instr} (h : a_dok cc pc i = true) (hs : a_isw i = false) : decode cc pc = .ok (i, a_ilen i) := by
  unfold a_dok at h
  split at h
  · rename_i j len hd
    simp only [hs, Bool.false_or, Bool.and_eq_true, decide_eq_true_eq] at h
    rw [hd, h.1, Nat.eq_of_beq_eq_true h.2]
  · cases h
theorem a_dok_sw {cc : ByteArray} {pc : Nat} {i : Instr} (h : a_dok cc pc i = true) : ∃ len, decode cc pc = .ok (i, len) := by
  unfold a_dok at h
  split at h
  · rename_i j len hd
    simp only [Bool.and_eq_true, decide_eq_true_eq] at h
    exact ⟨len, by rw [hd, h.1]⟩
  · cases h
def a_swok (pc : Nat) (lo : Int) (offs : Array Int) (sw : List (Int32 × Nat)) (j : Nat) : Bool := match sw[j]?, offs[j]? with
  | some q, some o => decide (q.1.toInt = lo + j) && decide ((pc : Int) + o = (q.2 : Int))
  | _, _ => false
def a_iok (pc : Nat) (q : aEnt) : Bool := match q.1 with
  | .iconst n => decide (Int32.ofInt n = q.2.1)
  | .bipush n => decide ((Int8.ofInt n).toInt32 = q.2.1)
  | .sipush n => decide ((Int16.ofInt n).toInt32 = q.2.1)
  | .iinc _ n => decide (Int32.ofInt n = q.2.1)
  | .lconst n => decide (Int64.ofNat n.val = q.2.1.toInt64)
  | .ifCond _ off => decide ((pc : Int) + off = (q.2.2.1 : Int))
  | .if_icmp _ off => decide ((pc : Int) + off = (q.2.2.1 : Int))
  | .goto off => decide ((pc : Int) + off = (q.2.2.1 : Int))
  | .tableswitch d lo hi offs => decide ((pc : Int) + d = (q.2.2.1 : Int)) && (decide (hi - lo + 1 = (offs.size : Int)) && (decide (q.2.2.2.length = offs.size) && (List.range offs.size).all (a_swok pc lo offs q.2.2.2)))
  | _ => true
def a_eok (cc : ByteArray) (e : Nat × aEnt) : Bool := a_dok cc e.1 e.2.1 && a_iok e.1 e.2
theorem a_lk_mem {α : Type} : ∀ {l : List (Nat × α)} {n : Nat} {x : α}, a_lk l n = some x → (n, x) ∈ l
  | [], _, _, h => by unfold a_lk at h; cases h
  | q :: t, n, x, h => by
    unfold a_lk at h
    split at h
    · rename_i hb
      cases h
      have := Nat.eq_of_beq_eq_true hb
      subst this
      exact List.mem_cons_self
    · exact List.mem_cons_of_mem _ (a_lk_mem h)
theorem a_sw_spec {ρ : Type} (K1 : Nat → ρ) (x : Int32) (d : Nat) : ∀ sw : List (Int32 × Nat), (a_sw K1 x d sw = K1 d ∧ ∀ q ∈ sw, x ≠ q.1) ∨ ∃ (j : Nat) (q : Int32 × Nat), sw[j]? = some q ∧ x = q.1 ∧ a_sw K1 x d sw = K1 q.2
  | [] => Or.inl ⟨rfl, fun _ h => by cases h⟩
  | q :: t => by
    unfold a_sw
    split
    · rename_i h
      exact Or.inr ⟨0, q, rfl, h, rfl⟩
    · rename_i h
      rcases a_sw_spec K1 x d t with ⟨h1, h2⟩ | ⟨j, q', h1, h2, h3⟩
      · exact Or.inl ⟨h1, fun q' hq => (List.mem_cons.mp hq).elim (fun e => e ▸ h) (h2 q')⟩
      · exact Or.inr ⟨j + 1, q', h1, h2, h3⟩
/-- which cells may change: the world's, and new ones -/
def a_A (ad : Nat → Nat) (N sz : Nat) : Nat → Prop := fun q => (∃ k, k < N ∧ q = ad k) ∨ sz ≤ q
abbrev a_ty : Nat → FieldType := fun t => match t with
  | 0 => .int
  | 1 => .boolean
  | _ => .long
abbrev lw_g : List Cond := lw_tbl.filter goodWord
/-- the shapes are the classes' -/
def a_shok (sh : List aShp) : Prop := ∀ (k ci : Nat) (fk : List (Nat ⊕ Nat)), sh[k]? = some (.inr (ci, fk)) → ∃ (C : String) (T : u_T) (N : Nat), vwCl[ci]? = some (C, T, N) ∧ fk.length = N ∧ ∀ (j t : Nat), fk[j]? = some (.inl t) → t ≤ 2 ∧ parseFieldDescriptor (T j).2.2.1 = some (a_ty t) ∧ (T j).2.2.2 = false
/-- the classes' own rows -/
def a_clok : Prop := ∀ (ci : Nat) (C : String) (T : u_T) (N : Nat), vwCl[ci]? = some (C, T, N) → (∃ ty0 : Nat → FieldType, ∀ k, k < N → parseFieldDescriptor (T k).2.2.1 = some (ty0 k)) ∧ (∀ a, a < N → ∀ b, b < N → a ≠ b → (T a).2.1 ≠ (T b).2.1) ∧ ∀ w ∈ u_ws C T N, w ∈ lw_g
/-- what holds at the law's entry, and of the cells' addresses -/
def a_GF (G : aG) (sh : List aShp) : Prop := (∀ i j, i < sh.length → j < sh.length → g_ad G i = g_ad G j → i = j) ∧ (∀ k, k < sh.length → (g_s G).heap.size ≤ g_ad G k) ∧ va_K (g_D G) vwCl (a_tys (g_ca G)) (g_s G) ∧ (∃ aa : Array Value, ∀ w ∈ lw_tbl, w.before aa (g_s G) = true) ∧ va_X (g_ad G 900) (g_n G) (g_xs G) (g_s G) (g_s G).heap ∧ a_shok sh ∧ a_clok
theorem a_GF.D {G : aG} {sh : List aShp} (h : a_GF G sh) (σ : aMem) (sz : Nat) : va_D (a_A (g_ad G) sh.length sz) (a_wl (g_ad G) (g_ca G) sh σ) := by
  refine ⟨fun i j p q hi hj hpq => ?_, fun k q hk => ?_⟩
  · rw [a_wl_get] at hi hj
    cases hx : sh[i]? with
    | none => rw [hx] at hi; cases hi
    | some x =>
      cases hy : sh[j]? with
      | none => rw [hy] at hj; cases hj
      | some y =>
        rw [hx] at hi; rw [hy] at hj
        cases hi; cases hj
        exact h.1 i j (List.getElem?_eq_some_iff.mp hx).1 (List.getElem?_eq_some_iff.mp hy).1 hpq
  · rw [a_wl_get] at hk
    cases hx : sh[k]? with
    | none => rw [hx] at hk; cases hk
    | some x =>
      rw [hx] at hk
      cases hk
      exact Or.inl ⟨k, (List.getElem?_eq_some_iff.mp hx).1, rfl⟩
section AW
variable (p : Program) (l : Launch) (e : Env) (R : Room) (s : State) (m : MethodId) (args : Array Value) (below : List Frame) (meth : Method) (c : Code) (Q : State → Prop) (G : aG) (sh : List aShp) (nL g0 : Nat)
def a_W (pc : Nat) (L : aLs) (st : List Value) (σ : aMem) : Prop :=
  ∀ (H : Heap) (locs : List Loc) (ls : Array Slot), va_P (g_D G) vwCl (a_wl (g_ad G) (g_ca G) sh σ) H → va_S (a_A (g_ad G) sh.length s.heap.size) s.heap H locs → a_L (g_ad G) nL ls L → (∀ j, j < g_n G → σ.1 900 j = g_xs G j) →
    g0 ≤ σ.2.2 → W p l e R s m args below meth c H locs (σ.2.2 - g0) (6 * (σ.2.2 - g0)) Q (F0 m pc ls (st.map (a_cv (g_ad G))))
/-- .. and no more exceptions than gf -/
def a_K (gf : Nat) (pc : Nat) (L : aLs) (st : List Value) (σ : aMem) : Prop := σ.2.2 ≤ gf ∧ a_W p l e R s m args below meth c Q G sh nL g0 pc L st σ
/-- a method's own frame: its code, its class, the tables behind those of the law's entry, old cells as they were there -/
def a_M (own : String) (cc : ByteArray) : Prop := p.tables.exec = Jvm.exec ∧ c.code = cc ∧ c.maxLocals = nL ∧ s.vm.findClass own = some m.cls ∧ (g_s G).WarmedH s.vm ∧ (g_s G).heap.size ≤ s.heap.size ∧ ∀ q, q < (g_s G).heap.size → s.heap[q]? = (g_s G).heap[q]?
/-- fields by their pool places -/
def a_fok (own : String) (P : aPrg) : Prop := ∀ (n ci j : Nat), (n, ci, j) ∈ a_flds P → ∃ (C : String) (T : u_T) (N : Nat), vwCl[ci]? = some (C, T, N) ∧ j < N ∧ Cond.fieldLink own n (T j).1 (T j).2.1 (T j).2.2.1 ∈ lw_g
/-- constants by their pool places -/
def a_cok (own : String) (P : aPrg) : Prop := (∀ n x, (n, Value.int x) ∈ a_cons P → Cond.constant own n x ∈ lw_g) ∧ (∀ n x, (n, Value.long x) ∈ a_cons P → Cond.constantLong own n x ∈ lw_g) ∧ ∀ n k, (n, Value.ref k) ∈ a_cons P → ∃ tx, vk_R own n tx (g_ad G k) (g_s G)
end AW
theorem a_hts {G : aG} {sh : List aShp} {s : State} {args : Array Value} (hG : a_GF G sh) (hW : (g_s G).WarmedH s.vm) : ∀ w ∈ lw_g, w.before args s = true := by
  intro w hw
  obtain ⟨h1, h2⟩ := List.mem_filter.mp hw
  obtain ⟨aa, h3⟩ := hG.2.2.2.1
  exact word_at hW (good_of_word h2) (h3 w h1)
section AS
variable {p : Program} {l : Launch} {e : Env} {R : Room} {s : State} {m : MethodId} {args : Array Value} {below : List Frame} {meth : Method} {c : Code} {Q : State → Prop} {G : aG} {sh : List aShp} {nL g0 : Nat}
theorem a_ins_sound {gf : Nat} {sl : Option Nat} {own : String} {cc : ByteArray} {P : aPrg} {Fin : aOut → aMem → Prop} (hG : a_GF G sh) (hN : sh.length ≤ 900) (hsl : ∀ n, sl = some n → n = g_n G) (hM : a_M p s m c G nL own cc) (hF : a_fok own P) (hC : a_cok G own P)
    (hRi : ∀ pc L x σ, decode cc pc = .ok (.ireturn, 1) → (a_ret P = 0 ∨ (a_ret P = 1 ∧ (x = 0 ∨ x = 1))) → Fin (.inl (some (.int x))) σ → a_W p l e R s m args below meth c Q G sh nL g0 pc L [.int x] σ)
    (hRv : ∀ pc L σ, decode cc pc = .ok (.return_, 1) → a_ret P = 2 → Fin (.inl none) σ → a_W p l e R s m args below meth c Q G sh nL g0 pc L [] σ)
    (hRl : ∀ pc L x σ, decode cc pc = .ok (.lreturn, 1) → a_ret P = 3 → Fin (.inl (some (.long x))) σ → a_W p l e R s m args below meth c Q G sh nL g0 pc L [.long x] σ)
    (hTh : ∀ pc L st x σ, (pc, x) ∈ a_thr P → a_wt st ≤ 8 → Fin (.inr x) (a_tk σ) → a_W p l e R s m args below meth c Q G sh nL g0 pc L st σ)
    (hCa : ∀ (virt : Bool) n f na ci rk, (n, f, na, ci, rk) ∈ a_cals P → ∀ pc L as r σ, decode cc pc = .ok (if virt then .invokevirtual n else .invokestatic n, 3) → (∃ e, (pc, (if virt then .invokevirtual n else .invokestatic n), e) ∈ a_code P) → a_vok sh virt ci as = true → a_wt r ≤ 8 → as.length = na → a_wt as ≤ na →
      a_crk (a_K p l e R s m args below meth c Q G sh nL g0 gf) False Fin P rk (f as σ) (pc + 3) L r →
      a_W p l e R s m args below meth c Q G sh nL g0 pc L (as.reverse ++ r) σ)
    (i : Instr) (imm : Int32) (tgt : Nat) (sw : List (Int32 × Nat)) (pc : Nat) (L : aLs) (st : List Value) (σ : aMem) (hok : a_eok cc (pc, i, imm, tgt, sw) = true) (hmem : (pc, i, imm, tgt, sw) ∈ a_code P)
    (h : a_ins (a_K p l e R s m args below meth c Q G sh nL g0 gf) False Fin sl sh P i imm tgt sw pc L st σ) : a_W p l e R s m args below meth c Q G sh nL g0 pc L st σ := by
  obtain ⟨hx, hb, hml, hown, hWs, hbs, hbh⟩ := id hM
  have hts := a_hts (args := args) hG hWs
  have hK : va_K (g_D G) vwCl (a_tys (g_ca G)) s := va_K.moved hWs.alike hG.2.2.1
  have hD := fun σ => hG.D σ s.heap.size
  unfold a_eok at hok
  simp only [Bool.and_eq_true] at hok
  obtain ⟨hd, hi⟩ := hok
  have hdg : a_isw i = false → decode cc pc = .ok (i, a_ilen i) := fun hs => a_dok_ok hd hs
  cases i with
  | iconst n =>
    have hv : Int32.ofInt n = imm := by simpa [a_iok] using hi
    intro H locs ls hP hS hL hX hg
    exact lv_iconst hx hb (hdg rfl) hv (h.2 H locs ls hP hS hL hX hg)
  | bipush n =>
    have hv : (Int8.ofInt n).toInt32 = imm := by simpa [a_iok] using hi
    intro H locs ls hP hS hL hX hg
    exact lv_bipush hx hb (hdg rfl) hv (h.2 H locs ls hP hS hL hX hg)
  | sipush n =>
    have hv : (Int16.ofInt n).toInt32 = imm := by simpa [a_iok] using hi
    intro H locs ls hP hS hL hX hg
    exact lv_sipush hx hb (hdg rfl) hv (h.2 H locs ls hP hS hL hX hg)
  | lconst n =>
    have hv : Int64.ofNat n.val = imm.toInt64 := by simpa [a_iok] using hi
    intro H locs ls hP hS hL hX hg
    exact lv_lconst hx hb (hdg rfl) hv (h.2 H locs ls hP hS hL hX hg)
  | iload_n k =>
    unfold a_ins a_ild at h; simp only at h
    split at h
    · rename_i x hk
      intro H locs ls hP hS hL hX hg
      exact lv_iload_n hx hb (hdg rfl) rfl (hL.2.2.2 _ _ hk) (h.2 H locs ls hP hS hL hX hg)
    · exact h.elim
  | iload k =>
    unfold a_ins a_ild at h; simp only at h
    split at h
    · rename_i x hk
      intro H locs ls hP hS hL hX hg
      exact lv_iload hx hb (hdg rfl) (hL.2.2.2 _ _ hk) (h.2 H locs ls hP hS hL hX hg)
    · exact h.elim
  | lload_n k =>
    unfold a_ins a_lld at h; simp only at h
    split at h
    · rename_i x hk
      intro H locs ls hP hS hL hX hg
      exact lv_lload_n hx hb (hdg rfl) rfl (hL.2.2.2 _ _ hk) (h.2 H locs ls hP hS hL hX hg)
    · exact h.elim
  | lload k =>
    unfold a_ins a_lld at h; simp only at h
    split at h
    · rename_i x hk
      intro H locs ls hP hS hL hX hg
      exact lv_lload hx hb (hdg rfl) (hL.2.2.2 _ _ hk) (h.2 H locs ls hP hS hL hX hg)
    · exact h.elim
  | aload_n k =>
    unfold a_ins a_ald at h; simp only at h
    split at h
    · rename_i x hk
      intro H locs ls hP hS hL hX hg
      exact lv_aload_n hx hb (hdg rfl) rfl (hL.2.2.2 _ _ hk) (h.2 H locs ls hP hS hL hX hg)
    · exact h.elim
  | aload k =>
    unfold a_ins a_ald at h; simp only at h
    split at h
    · rename_i x hk
      intro H locs ls hP hS hL hX hg
      exact lv_aload hx hb (hdg rfl) (hL.2.2.2 _ _ hk) (h.2 H locs ls hP hS hL hX hg)
    · exact h.elim
  | istore_n k =>
    unfold a_ins a_ist at h; simp only at h
    split at h
    · rename_i x r
      split at h
      · rename_i hk
        have hk' := Nat.blt_eq.mp hk
        intro H locs ls hP hS hL hX hg
        have hn : k.val < nL := by rw [← hL.2.1]; exact hk'
        exact lv_istore_n hx hb (hdg rfl) rfl hL.has hn rfl (fun ls' hl => h.2 H locs ls' hP hS (a_L.s1 (v := .int x) hL.2.1 hn hl) hX hg)
      · exact h.elim
    · exact h.elim
  | istore k =>
    unfold a_ins a_ist at h; simp only at h
    split at h
    · rename_i x r
      split at h
      · rename_i hk
        have hk' := Nat.blt_eq.mp hk
        intro H locs ls hP hS hL hX hg
        have hn : k < nL := by rw [← hL.2.1]; exact hk'
        exact lv_istore hx hb (hdg rfl) hL.has hn rfl (fun ls' hl => h.2 H locs ls' hP hS (a_L.s1 (v := .int x) hL.2.1 hn hl) hX hg)
      · exact h.elim
    · exact h.elim
  | lstore_n k =>
    unfold a_ins a_lst at h; simp only at h
    split at h
    · rename_i x r
      split at h
      · rename_i hk
        have hk' := Nat.blt_eq.mp hk
        intro H locs ls hP hS hL hX hg
        have hn : k.val + 1 < nL := by rw [← hL.2.1]; exact hk'
        exact lv_lstore_n hx hb (hdg rfl) rfl hL.has hn rfl (fun ls' hl => h.2 H locs ls' hP hS (a_L.s2 (v := .long x) hL.2.1 hn hl) hX hg)
      · exact h.elim
    · exact h.elim
  | lstore k =>
    unfold a_ins a_lst at h; simp only at h
    split at h
    · rename_i x r
      split at h
      · rename_i hk
        have hk' := Nat.blt_eq.mp hk
        intro H locs ls hP hS hL hX hg
        have hn : k + 1 < nL := by rw [← hL.2.1]; exact hk'
        exact lv_lstore hx hb (hdg rfl) hL.has hn rfl (fun ls' hl => h.2 H locs ls' hP hS (a_L.s2 (v := .long x) hL.2.1 hn hl) hX hg)
      · exact h.elim
    · exact h.elim
  | astore_n k =>
    unfold a_ins a_ast at h; simp only at h
    split at h
    · rename_i x r
      split at h
      · rename_i hk
        have hk' := Nat.blt_eq.mp hk
        intro H locs ls hP hS hL hX hg
        have hn : k.val < nL := by rw [← hL.2.1]; exact hk'
        exact lv_astore_n hx hb (hdg rfl) rfl hL.has hn rfl (fun ls' hl => h.2 H locs ls' hP hS (a_L.s1 (v := .ref x) hL.2.1 hn hl) hX hg)
      · exact h.elim
    · exact h.elim
  | astore k =>
    unfold a_ins a_ast at h; simp only at h
    split at h
    · rename_i x r
      split at h
      · rename_i hk
        have hk' := Nat.blt_eq.mp hk
        intro H locs ls hP hS hL hX hg
        have hn : k < nL := by rw [← hL.2.1]; exact hk'
        exact lv_astore hx hb (hdg rfl) hL.has hn rfl (fun ls' hl => h.2 H locs ls' hP hS (a_L.s1 (v := .ref x) hL.2.1 hn hl) hX hg)
      · exact h.elim
    · exact h.elim
  | iinc k n =>
    have hv : Int32.ofInt n = imm := by simpa [a_iok] using hi
    unfold a_ins a_inc at h; simp only at h
    split at h
    · rename_i x hk
      intro H locs ls hP hS hL hX hg
      have hn : k < nL := by rw [← hL.2.1]; exact (List.getElem?_eq_some_iff.mp hk).1
      obtain ⟨k9, hk9⟩ := List.getElem?_of_mem (a_ll_mem (ad := g_ad G) hk)
      exact lv_iinc hx hb (hdg rfl) hL.has hk9 (v := x + imm) (by rw [hv]) hn rfl (fun ls' hl => h.2 H locs ls' hP hS (a_L.s1 (v := .int (x + imm)) hL.2.1 hn hl) hX hg)
    · exact h.elim
  | iadd =>
    unfold a_ins a_bin at h; simp only at h
    split at h
    · intro H locs ls hP hS hL hX hg
      exact lv_iadd hx hb (hdg rfl) (h.2 H locs ls hP hS hL hX hg)
    · exact h.elim
  | isub =>
    unfold a_ins a_bin at h; simp only at h
    split at h
    · intro H locs ls hP hS hL hX hg
      exact lv_isub hx hb (hdg rfl) (h.2 H locs ls hP hS hL hX hg)
    · exact h.elim
  | imul =>
    unfold a_ins a_bin at h; simp only at h
    split at h
    · intro H locs ls hP hS hL hX hg
      exact lv_imul hx hb (hdg rfl) (h.2 H locs ls hP hS hL hX hg)
    · exact h.elim
  | iand =>
    unfold a_ins a_bin at h; simp only at h
    split at h
    · intro H locs ls hP hS hL hX hg
      exact lv_iand hx hb (hdg rfl) (h.2 H locs ls hP hS hL hX hg)
    · exact h.elim
  | ior =>
    unfold a_ins a_bin at h; simp only at h
    split at h
    · intro H locs ls hP hS hL hX hg
      exact lv_ior hx hb (hdg rfl) (h.2 H locs ls hP hS hL hX hg)
    · exact h.elim
  | ixor =>
    unfold a_ins a_bin at h; simp only at h
    split at h
    · intro H locs ls hP hS hL hX hg
      exact lv_ixor hx hb (hdg rfl) (h.2 H locs ls hP hS hL hX hg)
    · exact h.elim
  | ishl =>
    unfold a_ins a_bin at h; simp only at h
    split at h
    · intro H locs ls hP hS hL hX hg
      exact lv_ishl hx hb (hdg rfl) (h.2 H locs ls hP hS hL hX hg)
    · exact h.elim
  | ishr =>
    unfold a_ins a_bin at h; simp only at h
    split at h
    · intro H locs ls hP hS hL hX hg
      exact lv_ishr hx hb (hdg rfl) (h.2 H locs ls hP hS hL hX hg)
    · exact h.elim
  | iushr =>
    unfold a_ins a_bin at h; simp only at h
    split at h
    · intro H locs ls hP hS hL hX hg
      exact lv_iushr hx hb (hdg rfl) rfl (h.2 H locs ls hP hS hL hX hg)
    · exact h.elim
  | idiv =>
    unfold a_ins a_dv at h; simp only at h
    split at h
    · split at h
      · exact h.elim
      · rename_i hne
        intro H locs ls hP hS hL hX hg
        exact lv_idiv hx hb (hdg rfl) hne (h.2 H locs ls hP hS hL hX hg)
    · exact h.elim
  | irem =>
    unfold a_ins a_dv at h; simp only at h
    split at h
    · split at h
      · exact h.elim
      · rename_i hne
        intro H locs ls hP hS hL hX hg
        exact lv_irem hx hb (hdg rfl) hne (h.2 H locs ls hP hS hL hX hg)
    · exact h.elim
  | ineg =>
    unfold a_ins a_un at h; simp only at h
    split at h
    · intro H locs ls hP hS hL hX hg
      exact lv_ineg hx hb (hdg rfl) (h.2 H locs ls hP hS hL hX hg)
    · exact h.elim
  | i2l =>
    unfold a_ins a_un at h; simp only at h
    split at h
    · intro H locs ls hP hS hL hX hg
      exact lv_i2l hx hb (hdg rfl) rfl (h.2 H locs ls hP hS hL hX hg)
    · exact h.elim
  | i2b =>
    unfold a_ins a_un at h; simp only at h
    split at h
    · intro H locs ls hP hS hL hX hg
      exact lv_i2b hx hb (hdg rfl) rfl (h.2 H locs ls hP hS hL hX hg)
    · exact h.elim
  | lor =>
    unfold a_ins a_lbin at h; simp only at h
    split at h
    · intro H locs ls hP hS hL hX hg
      exact lv_lor hx hb (hdg rfl) (h.2 H locs ls hP hS hL hX hg)
    · exact h.elim
  | lsub =>
    unfold a_ins a_lbin at h; simp only at h
    split at h
    · intro H locs ls hP hS hL hX hg
      exact lv_lsub hx hb (hdg rfl) (h.2 H locs ls hP hS hL hX hg)
    · exact h.elim
  | lshl =>
    unfold a_ins a_lsh at h; simp only at h
    split at h
    · intro H locs ls hP hS hL hX hg
      exact lv_lshl hx hb (hdg rfl) rfl (h.2 H locs ls hP hS hL hX hg)
    · exact h.elim
  | lcmp =>
    unfold a_ins a_lcm at h; simp only at h
    split at h
    · intro H locs ls hP hS hL hX hg
      exact W.lcmp hx hb (hdg rfl) (h.2 H locs ls hP hS hL hX hg)
    · exact h.elim
  | dup =>
    unfold a_ins a_dup at h; simp only at h
    split at h
    · intro H locs ls hP hS hL hX hg
      exact lv_dup hx hb (hdg rfl) rfl (h.2 H locs ls hP hS hL hX hg)
    · intro H locs ls hP hS hL hX hg
      exact lv_dup hx hb (hdg rfl) rfl (h.2 H locs ls hP hS hL hX hg)
    · exact h.elim
  | pop =>
    unfold a_ins a_pop at h; simp only at h
    split at h
    · intro H locs ls hP hS hL hX hg
      exact lv_pop hx hb (hdg rfl) rfl (h.2 H locs ls hP hS hL hX hg)
    · intro H locs ls hP hS hL hX hg
      exact lv_pop hx hb (hdg rfl) rfl (h.2 H locs ls hP hS hL hX hg)
    · exact h.elim
  | dup2 =>
    unfold a_ins a_dup2 at h; simp only at h
    split at h
    · intro H locs ls hP hS hL hX hg
      exact lv_dup2_11 hx hb (hdg rfl) rfl rfl (h.2 H locs ls hP hS hL hX hg)
    · exact h.elim
  | goto off =>
    have ht : (pc : Int) + off = (tgt : Int) := by simpa [a_iok] using hi
    intro H locs ls hP hS hL hX hg
    exact lv_goto hx hb (hdg rfl) ht (h.2 H locs ls hP hS hL hX hg)
  | ifCond cnd off =>
    have ht : (pc : Int) + off = (tgt : Int) := by simpa [a_iok] using hi
    unfold a_ins a_if at h; simp only at h
    split at h
    · rename_i x r
      intro H locs ls hP hS hL hX hg
      have go : ∀ {pc' : Nat}, a_W p l e R s m args below meth c Q G sh nL g0 pc' L r σ → W p l e R s m args below meth c H locs (σ.2.2 - g0) (6 * (σ.2.2 - g0)) Q (F0 m pc' ls (r.map (a_cv (g_ad G)))) := fun k => k H locs ls hP hS hL hX hg
      cases cnd <;> unfold a_br at h <;> simp only at h <;> split at h
      · rename_i hc; exact lv_if_eq hx hb (hdg rfl) ht (fun _ => go h.2) (fun hn => absurd hc hn)
      · rename_i hc; exact lv_if_eq hx hb (hdg rfl) ht (fun hn => absurd hn hc) (fun _ => go h.2)
      · rename_i hc; exact lv_if_ne hx hb (hdg rfl) ht (fun hn => absurd hc hn) (fun _ => go h.2)
      · rename_i hc; exact lv_if_ne hx hb (hdg rfl) ht (fun _ => go h.2) (fun hn => absurd hn hc)
      · rename_i hc; exact lv_if_lt hx hb (hdg rfl) ht (fun _ => go h.2) (fun hn => absurd hc hn)
      · rename_i hc; exact lv_if_lt hx hb (hdg rfl) ht (fun hn => absurd hn hc) (fun _ => go h.2)
      · rename_i hc; exact lv_if_ge hx hb (hdg rfl) ht (fun _ => go h.2) (fun hn => absurd hc hn)
      · rename_i hc; exact lv_if_ge hx hb (hdg rfl) ht (fun hn => absurd hn hc) (fun _ => go h.2)
      · rename_i hc; exact lv_if_gt hx hb (hdg rfl) ht (fun _ => go h.2) (fun hn => absurd hc hn)
      · rename_i hc; exact lv_if_gt hx hb (hdg rfl) ht (fun hn => absurd hn hc) (fun _ => go h.2)
      · rename_i hc; exact lv_if_le hx hb (hdg rfl) ht (fun _ => go h.2) (fun hn => absurd hc hn)
      · rename_i hc; exact lv_if_le hx hb (hdg rfl) ht (fun hn => absurd hn hc) (fun _ => go h.2)
    · exact h.elim
  | if_icmp cnd off =>
    have ht : (pc : Int) + off = (tgt : Int) := by simpa [a_iok] using hi
    unfold a_ins a_ic at h; simp only at h
    split at h
    · rename_i y x r
      intro H locs ls hP hS hL hX hg
      have go : ∀ {pc' : Nat}, a_W p l e R s m args below meth c Q G sh nL g0 pc' L r σ → W p l e R s m args below meth c H locs (σ.2.2 - g0) (6 * (σ.2.2 - g0)) Q (F0 m pc' ls (r.map (a_cv (g_ad G)))) := fun k => k H locs ls hP hS hL hX hg
      cases cnd <;> unfold a_br at h <;> simp only at h <;> split at h
      · rename_i hc; exact lv_icmp_eq hx hb (hdg rfl) ht (fun _ => go h.2) (fun hn => absurd hc hn)
      · rename_i hc; exact lv_icmp_eq hx hb (hdg rfl) ht (fun hn => absurd hn hc) (fun _ => go h.2)
      · rename_i hc; exact lv_icmp_ne hx hb (hdg rfl) ht (fun hn => absurd hc hn) (fun _ => go h.2)
      · rename_i hc; exact lv_icmp_ne hx hb (hdg rfl) ht (fun _ => go h.2) (fun hn => absurd hn hc)
      · rename_i hc; exact lv_icmp_lt hx hb (hdg rfl) ht (fun _ => go h.2) (fun hn => absurd hc hn)
      · rename_i hc; exact lv_icmp_lt hx hb (hdg rfl) ht (fun hn => absurd hn hc) (fun _ => go h.2)
      · rename_i hc; exact lv_icmp_ge hx hb (hdg rfl) ht (fun _ => go h.2) (fun hn => absurd hc hn)
      · rename_i hc; exact lv_icmp_ge hx hb (hdg rfl) ht (fun hn => absurd hn hc) (fun _ => go h.2)
      · rename_i hc; exact lv_icmp_gt hx hb (hdg rfl) ht (fun _ => go h.2) (fun hn => absurd hc hn)
      · rename_i hc; exact lv_icmp_gt hx hb (hdg rfl) ht (fun hn => absurd hn hc) (fun _ => go h.2)
      · rename_i hc; exact lv_icmp_le hx hb (hdg rfl) ht (fun _ => go h.2) (fun hn => absurd hc hn)
      · rename_i hc; exact lv_icmp_le hx hb (hdg rfl) ht (fun hn => absurd hn hc) (fun _ => go h.2)
    · exact h.elim
  | tableswitch d lo hi' offs =>
    obtain ⟨len, hdl⟩ := a_dok_sw hd
    simp only [a_iok, Bool.and_eq_true, decide_eq_true_eq, List.all_eq_true, List.mem_range] at hi
    obtain ⟨h1, h2, h3, h4⟩ := hi
    unfold a_ins a_ts at h; simp only at h
    split at h
    · rename_i x r
      intro H locs ls hP hS hL hX hg
      rcases a_sw_spec (fun t => a_K p l e R s m args below meth c Q G sh nL g0 gf t L r σ) x tgt sw with ⟨q1, q2⟩ | ⟨j, q, q1, q2, q3⟩
      · rw [q1] at h
        refine lv_tableOut hx hb hdl ?_ h1 (h.2 H locs ls hP hS hL hX hg)
        by_cases c1 : x.toInt < lo
        · exact Or.inl c1
        by_cases c2 : hi' < x.toInt
        · exact Or.inr c2
        exfalso
        have hj : (x.toInt - lo).toNat < offs.size := by omega
        have h5 := h4 _ hj
        unfold a_swok at h5
        split at h5
        · rename_i q o hq ho
          simp only [Bool.and_eq_true, decide_eq_true_eq] at h5
          refine q2 q (List.mem_of_getElem? hq) ?_
          rw [← Int32.toInt_inj, h5.1]
          omega
        · cases h5
      · rw [q3] at h
        have hj : j < offs.size := by rw [← h3]; exact (List.getElem?_eq_some_iff.mp q1).1
        have h5 := h4 j hj
        unfold a_swok at h5
        rw [q1] at h5
        split at h5
        · rename_i q' o hq ho
          cases hq
          simp only [Bool.and_eq_true, decide_eq_true_eq] at h5
          refine lv_tableIn hx hb hdl (by rw [q2]; omega) (by rw [q2]; omega) (off := o) (by rw [q2, h5.1, show (lo + (j : Int) - lo).toNat = j by omega]; exact ho) h5.2 (h.2 H locs ls hP hS hL hX hg)
        · cases h5
    · exact h.elim
  | ldc n =>
    unfold a_ins a_ldc at h; simp only at h
    split at h
    · rename_i x hv
      intro H locs ls hP hS hL hX hg
      have k := h.2 H locs ls hP hS hL hX hg
      exact lv_ldc hx hb hown (hts _ (hC.1 n x (a_lk_mem hv))) (hdg rfl) k
    · rename_i x hv
      intro H locs ls hP hS hL hX hg
      have k := h.2 H locs ls hP hS hL hX hg
      obtain ⟨tx, hw⟩ := hC.2.2 n x (a_lk_mem hv)
      exact va_ldcS hx hb hown (vk_R.warm hWs hw) (hdg rfl) k
    · exact h.elim
  | ldc_w n =>
    unfold a_ins a_ldw at h; simp only at h
    split at h
    · rename_i x hv
      intro H locs ls hP hS hL hX hg
      exact lv_ldcw hx hb hown (hts _ (hC.1 n x (a_lk_mem hv))) (hdg rfl) (h.2 H locs ls hP hS hL hX hg)
    · exact h.elim
  | ldc2_w n =>
    unfold a_ins a_ld2 at h; simp only at h
    split at h
    · rename_i x hv
      intro H locs ls hP hS hL hX hg
      exact lv_ldc2 hx hb hown (hts _ (hC.2.1 n x (a_lk_mem hv))) (hdg rfl) (h.2 H locs ls hP hS hL hX hg)
    · exact h.elim
  | iaload =>
    unfold a_ins a_ial at h; simp only at h
    split at h
    · rename_i j k r
      split at h
      · rename_i n hk
        split at h
        · rename_i hj
          intro H locs ls hP hS hL hX hg
          exact va_iald hx hb hK hP k 0 ((a_wl_at hk).trans (by rw [a_ce_i (by decide)])) rfl (a_ok_in hj) (hdg rfl) (h.2 H locs ls hP hS hL hX hg)
        · exact h.elim
      · split at h
        · rename_i n h9
          split at h
          · rename_i hj
            have hk9 := Nat.eq_of_beq_eq_true h9
            subst hk9
            intro H locs ls hP hS hL hX hg
            have hn := hsl _ rfl
            subst hn
            have hX0 : va_X (g_ad G 900) (g_n G) (g_xs G) s s.heap := va_X.moved hWs.alike (hG.2.2.2.2.1.kept (hbh _ (by
              obtain ⟨scr, h1, -⟩ := hG.2.2.2.2.1
              exact (Array.getElem?_eq_some_iff.mp h1).1)))
            have hin := vp_in_iff.mp (a_ok_in hj)
            have hlt : j.toNatClampNeg < g_n G := by
              show j.toInt.toNat < _
              omega
            have hbl : g_ad G 900 < s.heap.size := by
              obtain ⟨scr, h1, -⟩ := hX0
              exact (Array.getElem?_eq_some_iff.mp h1).1
            have hbA : ¬ a_A (g_ad G) sh.length s.heap.size (g_ad G 900) := by
              obtain ⟨scr, h1, -⟩ := hG.2.2.2.2.1
              have h2 := (Array.getElem?_eq_some_iff.mp h1).1
              rintro (⟨k, hk, he⟩ | hz)
              · have := hG.2.1 k hk
                omega
              · omega
            have hk := h.2 H locs ls hP hS hL hX hg
            rw [hX _ hlt] at hk
            exact va_sld hx hb hX0 hbl hbA hS (a_ok_in hj) (hdg rfl) hk
          · exact h.elim
        · exact h.elim
      · exact h.elim
    · exact h.elim
  | baload =>
    unfold a_ins a_bal at h; simp only at h
    split at h
    · rename_i j k r
      split at h
      · rename_i n hk
        split at h
        · rename_i hj
          intro H locs ls hP hS hL hX hg
          exact va_bald hx hb hK hP k 1 ((a_wl_at hk).trans (by rw [a_ce_i (by decide)])) rfl (a_ok_in hj) (hdg rfl) (h.2 H locs ls hP hS hL hX hg)
        · exact h.elim
      · rename_i n hk
        split at h
        · rename_i hj
          intro H locs ls hP hS hL hX hg
          exact va_zald hx hb hK hP k 2 ((a_wl_at hk).trans (by rw [a_ce_i (by decide)])) rfl (a_ok_in hj) (hdg rfl) (h.2 H locs ls hP hS hL hX hg)
        · exact h.elim
      · exact h.elim
    · exact h.elim
  | laload =>
    unfold a_ins a_lal at h; simp only at h
    split at h
    · rename_i j k r
      split at h
      · rename_i n hk
        split at h
        · rename_i hj
          intro H locs ls hP hS hL hX hg
          exact va_lald hx hb hK hP k 3 (a_wl_at hk) rfl (a_ok_in hj) (hdg rfl) (h.2 H locs ls hP hS hL hX hg)
        · exact h.elim
      · exact h.elim
    · exact h.elim
  | iastore =>
    unfold a_ins a_ias at h; simp only at h
    split at h
    · rename_i x j k r
      split at h
      · rename_i n hk
        split at h
        · rename_i hj
          intro H locs ls hP hS hL hX hg
          have hne : (900 : Nat) ≠ k := fun e => absurd (List.getElem?_eq_some_iff.mp hk).1 (Nat.not_lt.mpr (e ▸ hN))
          refine va_iast hx hb hK hP (hD σ) hS k 0 ((a_wl_at hk).trans (by rw [a_ce_i (by decide)])) rfl (a_ok_in hj) (hdg rfl) (fun H1 locs1 hP1 _ hS1 => ?_)
          rw [a_wl_ia hk (by decide)] at hP1
          exact h.2 H1 locs1 ls hP1 hS1 hL (fun i hi => by rw [a_si_ne hne]; exact hX i hi) hg
        · exact h.elim
      · exact h.elim
    · exact h.elim
  | bastore =>
    unfold a_ins a_bas at h; simp only at h
    split at h
    · rename_i x j k r
      split at h
      · rename_i n hk
        split at h
        · rename_i hj
          intro H locs ls hP hS hL hX hg
          have hne : (900 : Nat) ≠ k := fun e => absurd (List.getElem?_eq_some_iff.mp hk).1 (Nat.not_lt.mpr (e ▸ hN))
          refine va_bast hx hb hK hP (hD σ) hS k 1 ((a_wl_at hk).trans (by rw [a_ce_i (by decide)])) rfl (a_ok_in hj) (hdg rfl) (fun H1 locs1 hP1 _ hS1 => ?_)
          rw [a_wl_ia hk (by decide)] at hP1
          exact h.2 H1 locs1 ls hP1 hS1 hL (fun i hi => by rw [a_si_ne hne]; exact hX i hi) hg
        · exact h.elim
      · rename_i n hk
        split at h
        · rename_i hj
          intro H locs ls hP hS hL hX hg
          have hne : (900 : Nat) ≠ k := fun e => absurd (List.getElem?_eq_some_iff.mp hk).1 (Nat.not_lt.mpr (e ▸ hN))
          refine va_zast hx hb hK hP (hD σ) hS k 2 ((a_wl_at hk).trans (by rw [a_ce_i (by decide)])) rfl (a_ok_in hj) (hdg rfl) (fun H1 locs1 hP1 _ hS1 => ?_)
          rw [a_wl_ia hk (by decide)] at hP1
          exact h.2 H1 locs1 ls hP1 hS1 hL (fun i hi => by rw [a_si_ne hne]; exact hX i hi) hg
        · exact h.elim
      · exact h.elim
    · exact h.elim
  | lastore =>
    unfold a_ins a_las at h; simp only at h
    split at h
    · rename_i x j k r
      split at h
      · rename_i n hk
        split at h
        · rename_i hj
          intro H locs ls hP hS hL hX hg
          refine va_last hx hb hK hP (hD σ) hS k 3 (a_wl_at hk) rfl (a_ok_in hj) (hdg rfl) (fun H1 locs1 hP1 _ hS1 => ?_)
          rw [a_wl_la hk] at hP1
          exact h.2 H1 locs1 ls hP1 hS1 hL hX hg
        · exact h.elim
      · exact h.elim
    · exact h.elim
  | arraylength =>
    unfold a_ins a_len at h; simp only at h
    split at h
    · rename_i k r
      split at h
      · rename_i t n hk
        split at h
        · rename_i ht
          have ht := Nat.le_of_ble_eq_true ht
          intro H locs ls hP hS hL hX hg
          rcases (show t = 0 ∨ t = 1 ∨ t = 2 ∨ t = 3 by omega) with rfl | rfl | rfl | rfl
          · exact va_alen hx hb hK hP k 0 (a_wl_at hk) rfl rfl (hdg rfl) (h.2 H locs ls hP hS hL hX hg)
          · exact va_alen hx hb hK hP k 1 (a_wl_at hk) rfl rfl (hdg rfl) (h.2 H locs ls hP hS hL hX hg)
          · exact va_alen hx hb hK hP k 2 (a_wl_at hk) rfl rfl (hdg rfl) (h.2 H locs ls hP hS hL hX hg)
          · exact va_alen hx hb hK hP k 3 (a_wl_at hk) rfl rfl (hdg rfl) (h.2 H locs ls hP hS hL hX hg)
        · exact h.elim
      · split at h
        · rename_i n h9
          have hk9 := Nat.eq_of_beq_eq_true h9
          subst hk9
          have hn := hsl _ rfl
          subst hn
          intro H locs ls hP hS hL hX hg
          have hX0 : va_X (g_ad G 900) (g_n G) (g_xs G) s s.heap := va_X.moved hWs.alike (hG.2.2.2.2.1.kept (hbh _ (by
            obtain ⟨scr, h1, -⟩ := hG.2.2.2.2.1
            exact (Array.getElem?_eq_some_iff.mp h1).1)))
          have hbl : g_ad G 900 < s.heap.size := by
            obtain ⟨scr, h1, -⟩ := hX0
            exact (Array.getElem?_eq_some_iff.mp h1).1
          have hbA : ¬ a_A (g_ad G) sh.length s.heap.size (g_ad G 900) := by
            obtain ⟨scr, h1, -⟩ := hG.2.2.2.2.1
            have h2 := (Array.getElem?_eq_some_iff.mp h1).1
            rintro (⟨k, hk, he⟩ | hz)
            · have := hG.2.1 k hk
              omega
            · omega
          exact va_slen hx hb hX0 hbl hbA hS (hdg rfl) (h.2 H locs ls hP hS hL hX hg)
        · exact h.elim
      · exact h.elim
    · exact h.elim
  | getfield n =>
    unfold a_ins a_gf at h; simp only at h
    split at h
    · rename_i k r
      split at h
      · rename_i ci j c2 fk hf hk
        have hf := a_lk_mem hf
        obtain ⟨C, T, N, hc, hj, hw⟩ := hF n ci j hf
        obtain ⟨-, -, hin⟩ := hG.2.2.2.2.2.2 ci C T N hc
        intro H locs ls hP hS hL hX hg
        have key : ∀ v, Nat.beq c2 ci = true → fk[j]? = some v → W p l e R s m args below meth c H locs (σ.2.2 - g0) (6 * (σ.2.2 - g0)) Q (F0 m (pc + 3) ls (a_fv (g_ad G) σ k (v, j) :: r.map (a_cv (g_ad G)))) → W p l e R s m args below meth c H locs (σ.2.2 - g0) (6 * (σ.2.2 - g0)) Q (F0 m pc ls ((Value.ref k :: r).map (a_cv (g_ad G)))) := by
          intro v hci hv kk
          have hci := Nat.eq_of_beq_eq_true hci
          subst hci
          exact va_get (C := C) (T := T) (N := N) hx hb hts hin hown hK hP k (a_wl_at hk) hc j hj (hts _ hw) (fun _ h => h) (a_fv_get hv) (hdg rfl) kk
        split at h
        · rename_i h1 h2
          exact key _ h1 h2 (h.2 H locs ls hP hS hL hX hg)
        · rename_i t ht h1 h2
          refine key _ h1 h2 ?_
          have := h.2 H locs ls hP hS hL hX hg
          have e1 : a_fv (g_ad G) σ k (Sum.inl t, j) = .int (σ.1 k j) := by
            unfold a_fv
            split
            · rename_i h3; cases h3; exact absurd rfl ht
            · rfl
            · rename_i h3; cases h3
          rw [e1]
          exact this
        · rename_i q h1 h2
          exact key _ h1 h2 (h.2 H locs ls hP hS hL hX hg)
        · exact h.elim
      · exact h.elim
    · exact h.elim
  | putfield n =>
    unfold a_ins a_pf at h; simp only at h
    have key : ∀ (k ci j c2 : Nat) (fk : List (Nat ⊕ Nat)) (t : Nat) (v : Value) (r : List Value) (H : Heap) (locs : List Loc) (ls : Array Slot), va_P (g_D G) vwCl (a_wl (g_ad G) (g_ca G) sh σ) H → va_S (a_A (g_ad G) sh.length s.heap.size) s.heap H locs →
        a_lk (a_flds P) n = some (ci, j) → sh[k]? = some (.inr (c2, fk)) → Nat.beq c2 ci = true → fk[j]? = some (.inl t) → narrow (a_ty t) v = v → fits (a_ty t) v = true →
        (∀ (H1 : Heap) (locs1 : List Loc), va_P (g_D G) vwCl ((a_wl (g_ad G) (g_ca G) sh σ).set k (g_ad G k, .inr (c2, (fk.zipIdx.map (a_fv (g_ad G) σ k)).set j v))) H1 → va_S (a_A (g_ad G) sh.length s.heap.size) s.heap H1 locs1 → W p l e R s m args below meth c H1 locs1 (σ.2.2 - g0) (6 * (σ.2.2 - g0)) Q (F0 m (pc + 3) ls r)) →
        W p l e R s m args below meth c H locs (σ.2.2 - g0) (6 * (σ.2.2 - g0)) Q (F0 m pc ls (v :: .ref (g_ad G k) :: r)) := by
      intro k ci j c2 fk t v r H locs ls hP hS hf hk hci hj hnar hfit kk
      have hci := Nat.eq_of_beq_eq_true hci
      subst hci
      obtain ⟨C, T, N, hc, hjN, hw⟩ := hF n _ j (a_lk_mem hf)
      obtain ⟨⟨ty0, hty⟩, hnm, hin⟩ := hG.2.2.2.2.2.2 _ C T N hc
      obtain ⟨C2, T2, N2, hc2, hlen, hfk⟩ := hG.2.2.2.2.2.1 k _ fk hk
      cases hc.symm.trans hc2
      obtain ⟨-, hd2, hfin⟩ := hfk j t hj
      exact va_put (C := C) (T := T) (N := N) hx hb hts hin ty0 hty hnm hown hK hP (hD σ) hS k (a_wl_at hk) hc j hjN (hts _ hw) (fun _ h => h) hfin hd2 hnar hfit (by simpa using (List.getElem?_eq_some_iff.mp hj).1) (hdg rfl) (fun H1 locs1 a1 _ a3 => kk H1 locs1 a1 a3)
    split at h
    · rename_i x k r
      split at h
      · rename_i ci j c2 fk hf hk
        have hne : (900 : Nat) ≠ k := fun e => absurd (List.getElem?_eq_some_iff.mp hk).1 (Nat.not_lt.mpr (e ▸ hN))
        intro H locs ls hP hS hL hX hg
        split at h
        · rename_i h1 h2
          refine key k ci j c2 fk 0 (.int x) _ H locs ls hP hS hf hk h1 h2 rfl rfl (fun H1 locs1 hP1 hS1 => ?_)
          rw [a_wl_io hk h2 (by decide)] at hP1
          exact h.2 H1 locs1 ls hP1 hS1 hL (fun i hi => by rw [a_si_ne hne]; exact hX i hi) hg
        · rename_i h1 h2
          split at h
          · rename_i h01
            refine key k ci j c2 fk 1 (.int x) _ H locs ls hP hS hf hk h1 h2 (by rcases h01 with rfl | rfl <;> rfl) (by rcases h01 with rfl | rfl <;> rfl) (fun H1 locs1 hP1 hS1 => ?_)
            rw [a_wl_io hk h2 (by decide)] at hP1
            exact h.2 H1 locs1 ls hP1 hS1 hL (fun i hi => by rw [a_si_ne hne]; exact hX i hi) hg
          · exact h.elim
        · exact h.elim
      · exact h.elim
    · rename_i x k r
      split at h
      · rename_i ci j c2 fk hf hk
        intro H locs ls hP hS hL hX hg
        split at h
        · rename_i h1 h2
          refine key k ci j c2 fk 2 (.long x) _ H locs ls hP hS hf hk h1 h2 rfl rfl (fun H1 locs1 hP1 hS1 => ?_)
          rw [a_wl_lo hk h2] at hP1
          exact h.2 H1 locs1 ls hP1 hS1 hL hX hg
        · exact h.elim
      · exact h.elim
    · exact h.elim
  | invokevirtual n =>
    unfold a_ins a_call at h; simp only at h
    split at h
    · exact h.elim
    · rename_i f na ci rk hf
      split at h
      · exact h.elim
      · rename_i as r hta
        obtain ⟨e1, e2⟩ := a_take_eq hta
        split at h
        · exact h.elim
        · rename_i hb9
          simp only [Bool.and_eq_true] at hb9
          rw [e1]
          refine hCa true n f na ci rk (a_lk_mem hf) pc L as r σ (hdg rfl) ⟨_, hmem⟩ hb9.2.2 (Nat.le_of_ble_eq_true hb9.1) e2 (Nat.le_of_ble_eq_true hb9.2.1) h
  | invokestatic n =>
    unfold a_ins a_call at h; simp only at h
    split at h
    · exact h.elim
    · rename_i f na ci rk hf
      split at h
      · exact h.elim
      · rename_i as r hta
        obtain ⟨e1, e2⟩ := a_take_eq hta
        split at h
        · exact h.elim
        · rename_i hb9
          simp only [Bool.and_eq_true] at hb9
          rw [e1]
          refine hCa false n f na ci rk (a_lk_mem hf) pc L as r σ (hdg rfl) ⟨_, hmem⟩ hb9.2.2 (Nat.le_of_ble_eq_true hb9.1) e2 (Nat.le_of_ble_eq_true hb9.2.1) h
  | ireturn =>
    unfold a_ins a_rti at h; simp only at h
    split at h
    · split at h
      · rename_i h0
        exact hRi pc L _ σ (hdg rfl) (Or.inl h0) h
      · rename_i h0
        split at h
        · rename_i h01
          exact hRi pc L _ σ (hdg rfl) (Or.inr ⟨h0, h01⟩) h
        · exact h.elim
      · exact h.elim
    · exact h.elim
  | return_ =>
    unfold a_ins a_rtv at h; simp only at h
    split at h
    · split at h
      · rename_i h0
        exact hRv pc L σ (hdg rfl) h0 h
      · exact h.elim
    · exact h.elim
  | lreturn =>
    unfold a_ins a_rtl at h; simp only at h
    split at h
    · split at h
      · rename_i h0
        exact hRl pc L _ σ (hdg rfl) h0 h
      · exact h.elim
    · exact h.elim
  | new n =>
    unfold a_ins a_th at h; simp only at h
    split at h
    · rename_i x hx9
      split at h
      · rename_i h8
        exact hTh pc L st x σ (a_lk_mem hx9) (Nat.le_of_ble_eq_true h8) h
      · exact h.elim
    · exact h.elim
  | _ => exact False.elim h
end AS
