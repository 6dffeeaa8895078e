/-! ===== runs are the machine's; calls by contract; a method's contract out of its checks ===== -/
theorem a_ins_nt {sl : Option Nat} {sh : List aShp} {P : aPrg} (ht : a_thr P = []) (hh : ∀ n f na ci rk, (n, f, na, ci, rk) ∈ a_cals P → ∀ (as : List Value) (σ : aMem) (x : Nat) (σ' : aMem), f as σ ≠ some (.inr x, σ')) (i : Instr) (imm : Int32) (tgt : Nat) (sw : List (Int32 × Nat)) (pc : Nat) (L : aLs) (st : List Value) (σ : aMem) :
    a_ins (fun _ _ _ _ => True) True (fun o _ => ∃ v, o = .inl v) sl sh P i imm tgt sw pc L st σ := by
  have hcall : ∀ virt n pc, a_call (fun _ _ _ _ => True) True (fun o _ => ∃ v, o = .inl v) sh P virt n pc L st σ := by
    intro virt n pc
    unfold a_call
    split
    · trivial
    · rename_i f na ci rk hfl
      split
      · trivial
      · rename_i as r hta
        split
        · trivial
        · have hm := hh n f na ci rk (a_lk_mem hfl) as σ
          generalize f as σ = o at hm
          match o, hm with
          | none, _ => rw [a_crk_none]; trivial
          | some (.inl v, τ), hm =>
            rcases a_crk_ret (K := fun _ _ _ (_ : aMem) => True) (Rt := fun (o : aOut) (_ : aMem) => ∃ v, o = .inl v) (N := True) (P := P) (rk := rk) (v := v) (σ' := τ) (pc := pc) (L := L) (r := r) with h | h <;> (rw [h]; trivial)
          | some (.inr x, τ), hm => exact absurd rfl (hm x τ)
  cases i <;> unfold a_ins <;> simp only
  all_goals first
    | trivial
    | exact hcall ..
    | (unfold a_rti; split <;> first | trivial | (split <;> first | trivial | exact ⟨_, rfl⟩ | (split <;> first | trivial | exact ⟨_, rfl⟩)))
    | (unfold a_rtv; split <;> first | trivial | (split <;> first | trivial | exact ⟨_, rfl⟩))
    | (unfold a_rtl; split <;> first | trivial | (split <;> first | trivial | exact ⟨_, rfl⟩))
    | (unfold a_th; rw [ht]; exact trivial)
    | (unfold a_ts; split <;> first | trivial | (rename_i x r; rcases a_sw_spec (fun _ => True) x tgt sw with ⟨q1, -⟩ | ⟨j, q, -, -, q3⟩ <;> first | (rw [q1]; trivial) | (rw [q3]; trivial)))
    | (unfold a_if; split <;> first | trivial | (unfold a_br; split <;> split <;> trivial))
    | (unfold a_ic; split <;> first | trivial | (unfold a_br; split <;> split <;> trivial))
    | (unfold a_ild; split <;> trivial)
    | (unfold a_lld; split <;> trivial)
    | (unfold a_ald; split <;> trivial)
    | (unfold a_ist; split <;> first | trivial | (split <;> trivial))
    | (unfold a_ast; split <;> first | trivial | (split <;> trivial))
    | (unfold a_lst; split <;> first | trivial | (split <;> trivial))
    | (unfold a_inc; split <;> trivial)
    | (unfold a_bin; split <;> trivial)
    | (unfold a_dv; split <;> first | trivial | (split <;> trivial))
    | (unfold a_lbin; split <;> trivial)
    | (unfold a_un; split <;> trivial)
    | (unfold a_lcm; split <;> trivial)
    | (unfold a_lsh; split <;> trivial)
    | (unfold a_dup; split <;> trivial)
    | (unfold a_pop; split <;> trivial)
    | (unfold a_dup2; split <;> trivial)
    | (unfold a_ial; split <;> first | trivial | (split <;> first | trivial | (split <;> first | trivial | (split <;> trivial))))
    | (unfold a_bal; split <;> first | trivial | (split <;> first | trivial | (split <;> trivial)))
    | (unfold a_lal; split <;> first | trivial | (split <;> first | trivial | (split <;> trivial)))
    | (unfold a_ias; split <;> first | trivial | (split <;> first | trivial | (split <;> trivial)))
    | (unfold a_bas; split <;> first | trivial | (split <;> first | trivial | (split <;> trivial)))
    | (unfold a_las; split <;> first | trivial | (split <;> first | trivial | (split <;> trivial)))
    | (unfold a_len; split <;> first | trivial | (split <;> first | trivial | (split <;> trivial)))
    | (unfold a_gf; split <;> first | trivial | (split <;> first | trivial | (split <;> trivial)))
    | (unfold a_pf; split <;> first | trivial | (split <;> first | trivial | (split <;> first | trivial | (split <;> trivial))))
    | (unfold a_ldc; split <;> trivial)
    | (unfold a_ldw; split <;> trivial)
    | (unfold a_ld2; split <;> trivial)
theorem a_run_nt {sl : Option Nat} {sh : List aShp} {P : aPrg} (ht : a_thr P = []) (hh : ∀ n f na ci rk, (n, f, na, ci, rk) ∈ a_cals P → ∀ (as : List Value) (σ : aMem) (x : Nat) (σ' : aMem), f as σ ≠ some (.inr x, σ')) :
    ∀ (n : Nat) (pc : Nat) (L : aLs) (st : List Value) (σ : aMem) (r : aRes), a_runN sl sh P n pc L st σ = some r → ∃ v, r.1 = .inl v
  | 0, _, _, _, _, _, h => by simp [a_runN] at h
  | n + 1, pc, L, st, σ, r, h => by
    unfold a_runN at h
    rw [a_sem_nat] at h
    have key : a_sem (fun _ _ _ (_ : aMem) => True) True (fun (o : aOut) (_ : aMem) => ∃ v, o = .inl v) sl sh P pc L st σ := by
      unfold a_sem
      split
      · trivial
      · exact a_ins_nt ht hh ..
    rw [a_sem_nat] at key
    generalize a_stp sl sh P pc L st σ = x at h key
    match x, h, key with
    | none, h, _ => cases h
    | some (.inl (pc', L', st', σ')), h, key => exact a_run_nt ht hh n pc' (a_mk P pc' L') st' σ' r h
    | some (.inr (o, σ')), h, key => cases h; exact key
section AR
variable {p : Program} {l : Launch} {e : Env} {R : Room} {s : State} {m : MethodId} {args : Array Value} {below : List Frame} {meth : Method} {c : Code} {Q : State → Prop} {G : aG} {sh : List aShp} {nL g0 : Nat}
/-- behind a call that returns -/
theorem a_goR {H : Heap} {locs : List Loc} {cells slots mc ms pc : Nat} {ls : Array Slot} {st0 rest : List Value} {v : Option Value} {σ' : aMem} {a : Array Value}
    (hr : va_Run p l e R s m args below meth c H locs cells slots mc ms (F0 m pc ls st0) rest (a_Qr G sh v σ' H.size a) (a_A (g_ad G) sh.length H.size)) (hS : va_S (a_A (g_ad G) sh.length s.heap.size) s.heap H locs)
    (kk : ∀ (H1 : Heap) (locs1 : List Loc), a_Wh G sh σ' H1 → va_S (a_A (g_ad G) sh.length s.heap.size) s.heap H1 locs1 → W p l e R s m args below meth c H1 locs1 (cells + mc) (slots + ms) Q (F0 m (pc + 3) ls ((v.map (a_cv (g_ad G))).toList ++ rest))) :
    W p l e R s m args below meth c H locs cells slots Q (F0 m pc ls st0) := by
  intro T hT X
  obtain ⟨v9, st₀, t, T', L, h0, X', hL, e1, e2, ⟨hv, hB, hF⟩, st⟩ := hr T hT X
  cases hv
  obtain ⟨k1, k2, k3⟩ := vx_keep h0 e1 hS (fun q _ h => a_A_sub hS.1 q h) (fun q h => a_A_sub hS.1 q h) hL hF
  obtain ⟨t2, a1, b1⟩ := kk T'.heap (locs ++ L) (by rw [e1]; exact hB) k3 T' rfl X'
  exact ⟨t2, st t2 a1, b1⟩
/-- behind a call that throws -/
theorem a_goX {H : Heap} {locs : List Loc} {cells slots mc ms pc : Nat} {ls : Array Slot} {st0 rest : List Value} {x : Nat} {σ' : aMem}
    (hr : vx_Run p l e R s m args below meth c H locs cells slots mc ms (F0 m pc ls st0) rest (fun _ _ _ => False) (a_Qx G sh x σ' H.size) (a_A (g_ad G) sh.length H.size)) (hS : va_S (a_A (g_ad G) sh.length s.heap.size) s.heap H locs)
    (kx : ∀ (H1 : Heap) (locs1 : List Loc) (q : Addr) (ce : Cell), a_Wh G sh σ' H1 → va_S (a_A (g_ad G) sh.length s.heap.size) s.heap H1 locs1 → H1[q]? = some ce → ce.vm = .none → s.vm.findClass (a_en x) = some ce.cls → vx_W p l e R s m args below meth c H1 locs1 (cells + mc) (slots + ms) Q (F0 m pc ls rest) q) :
    W p l e R s m args below meth c H locs cells slots Q (F0 m pc ls st0) := by
  intro T hT X
  rcases hr T hT X with ⟨v9, st₀, t, T', L, h0, X', hL, e1, e2, hF, st⟩ | ⟨q, st₀, t, T', L, E, ce, h0, X', hL, e1, e2, ⟨hE, hB, hF⟩, hce, hcv, hcl, st⟩
  · exact hF.elim
  · subst hE
    obtain ⟨k1, k2, k3⟩ := vx_keep h0 e1 hS (fun q _ h => a_A_sub hS.1 q h) (fun q h => a_A_sub hS.1 q h) hL hF
    obtain ⟨t2, a1, b1⟩ := kx T'.heap (locs ++ L) q ce (by rw [e1]; exact hB) k3 (by rw [e1]; exact hce) hcv hcl T' rfl X'
    exact ⟨t2, st.trans a1, b1⟩
/-- a run is the machine's -/
theorem a_run_sound {sl : Option Nat} {own : String} {cc : ByteArray} {P : aPrg} {rf : aRes} (hG : a_GF G sh) (hN : sh.length ≤ 900) (hsl : ∀ n, sl = some n → n = g_n G) (hM : a_M p s m c G nL own cc) (hF : a_fok own P) (hC : a_cok G own P) (hcode : ∀ e ∈ a_code P, a_eok cc e = true)
    (hmono : ∀ n f na ci rk, (n, f, na, ci, rk) ∈ a_cals P → ∀ (as : List Value) (σ : aMem) (o : aOut) (σ' : aMem), f as σ = some (o, σ') → a_wt as ≤ as.length → σ.2.2 ≤ σ'.2.2)
    (hRi : ∀ pc L x σ, decode cc pc = .ok (.ireturn, 1) → (a_ret P = 0 ∨ (a_ret P = 1 ∧ (x = 0 ∨ x = 1))) → rf = (.inl (some (.int x)), σ) → a_W p l e R s m args below meth c Q G sh nL g0 pc L [.int x] σ)
    (hRv : ∀ pc L σ, decode cc pc = .ok (.return_, 1) → a_ret P = 2 → rf = (.inl none, σ) → a_W p l e R s m args below meth c Q G sh nL g0 pc L [] σ)
    (hRl : ∀ pc L x σ, decode cc pc = .ok (.lreturn, 1) → a_ret P = 3 → rf = (.inl (some (.long x)), σ) → a_W p l e R s m args below meth c Q G sh nL g0 pc L [.long x] σ)
    (hTh : ∀ pc L st x σ, (pc, x) ∈ a_thr P → a_wt st ≤ 8 → rf = (.inr x, a_tk σ) → a_W p l e R s m args below meth c Q G sh nL g0 pc L st σ)
    (hCa : ∀ (virt : Bool) n f na ci rk, (n, f, na, ci, rk) ∈ a_cals P → ∀ pc L as r σ, decode cc pc = .ok (if virt then .invokevirtual n else .invokestatic n, 3) → (∃ e, (pc, (if virt then .invokevirtual n else .invokestatic n), e) ∈ a_code P) → a_vok sh virt ci as = true → a_wt r ≤ 8 → as.length = na → a_wt as ≤ na →
      a_crk (a_K p l e R s m args below meth c Q G sh nL g0 rf.2.2.2) False (fun o σ => rf = (o, σ)) P rk (f as σ) (pc + 3) L r →
      a_W p l e R s m args below meth c Q G sh nL g0 pc L (as.reverse ++ r) σ) :
    ∀ (n : Nat) (pc : Nat) (L : aLs) (st : List Value) (σ : aMem), a_runN sl sh P n pc L st σ = some rf → a_W p l e R s m args below meth c Q G sh nL g0 pc L st σ := by
  intro n
  induction n with
  | zero => intro pc L st σ h; simp [a_runN] at h
  | succ n ih =>
    intro pc L st σ h
    have key : a_sem (a_K p l e R s m args below meth c Q G sh nL g0 rf.2.2.2) False (fun o σ => rf = (o, σ)) sl sh P pc L st σ := by
      unfold a_runN at h
      rw [a_sem_nat] at h ⊢
      generalize a_stp sl sh P pc L st σ = x at h ⊢
      match x, h with
      | none, h => cases h
      | some (.inl (pc', L', st', σ')), h => exact ⟨a_run_mono hmono n _ _ _ _ _ h, fun H locs ls hP hS hL hX hg => ih _ _ _ _ h H locs ls hP hS (a_L_mk P pc' hL) hX hg⟩
      | some (.inr (o, σ')), h => exact (Option.some.inj h).symm
    unfold a_sem at key
    split at key
    · exact key.elim
    · rename_i i imm tgt sw hlk
      have hmem := a_lk_mem hlk
      exact a_ins_sound hG hN hsl hM hF hC hRi hRv hRl hTh hCa i imm tgt sw pc L st σ (hcode _ hmem) hmem key
/-- what a call's pool place says -/
def a_CF (own : String) (n : Nat) (y : MethodName) (bytes : ByteArray) (maxL : Nat) (ret : Option FieldType) (na ci : Nat) (virt : Bool) : Prop :=
  Cond.code y bytes maxL ret ∈ lw_g ∧ Cond.initialized y.cls ∈ lw_g ∧ (y.cls ≠ "java/lang/invoke/MethodHandle" ∧ y.cls ≠ "java/lang/invoke/VarHandle") ∧ (parseMethodDescriptor y.desc).map (fun d => d.parameters.length) = some (if virt then na - 1 else na) ∧
  (virt = true → 1 ≤ na ∧ ci < 1000 ∧ Cond.instanceMethod y ∈ lw_g ∧ Cond.selects y.cls y y ∈ lw_g ∧ ∃ (T : u_T) (N : Nat), vwCl[ci]? = some (y.cls, T, N)) ∧ (virt = false → Cond.static y ∈ lw_g) ∧ (Cond.methodLink own n y ∈ lw_g ∨ ∃ host, Cond.methodLinkNest own n y host ∈ lw_tbl)
theorem a_rcv_at {ci : Nat} {as : List Value} (h : a_rcv sh ci as = true) (hc : ci < 1000) : ∃ k as' fk, as = .ref k :: as' ∧ sh[k]? = some (.inr (ci, fk)) := by
  unfold a_rcv at h
  split at h
  · rename_i k as'
    split at h
    · rename_i q hq
      have := Nat.eq_of_beq_eq_true h
      obtain ⟨c9, fk⟩ := q
      exact ⟨k, as', fk, rfl, by rw [hq, ← this]⟩
    · simp only [Bool.and_eq_true] at h
      have := Nat.eq_of_beq_eq_true h.1
      omega
  · cases h
/-- a call by contract -/
theorem a_call_sound {own : String} {cc : ByteArray} {P : aPrg} {Fin : aOut → aMem → Prop} {gf : Nat} {f : aMF} {y : MethodName} {bytes : ByteArray} {maxL fr lo n na ci rk : Nat} {ret : Option FieldType} {virt : Bool} (hG : a_GF G sh) (hM : a_M p s m c G nL own cc)
    (hCon : a_Con l G sh y (.code y bytes maxL ret) fr lo f) (hCF : a_CF own n y bytes maxL ret na ci virt) (hR : fr + 1 ≤ R.frames ∧ 8 + (maxL + 11) + lo ≤ R.locals) (hRc : gf - g0 ≤ R.cells ∧ 6 * (gf - g0) ≤ R.slots)
    (hnx : Cond.methodLink own n y ∈ lw_g ∨ ∀ (as : List Value) (σ : aMem) (x : Nat) (σ' : aMem), f as σ ≠ some (.inr x, σ'))
    (pc : Nat) (hEg : ∀ L x σ', a_exc (a_K p l e R s m args below meth c Q G sh nL g0 gf) Fin P L x σ' → σ'.2.2 ≤ gf)
    (hEx : ∀ L x σ', a_exc (a_K p l e R s m args below meth c Q G sh nL g0 gf) Fin P L x σ' → ∀ (H1 : Heap) (locs1 : List Loc) (ls : Array Slot) (r : List Value) (q : Addr) (ce : Cell), a_Wh G sh σ' H1 → va_S (a_A (g_ad G) sh.length s.heap.size) s.heap H1 locs1 → a_L (g_ad G) nL ls L → g0 ≤ σ'.2.2 → H1[q]? = some ce → ce.vm = .none → s.vm.findClass (a_en x) = some ce.cls →
      vx_W p l e R s m args below meth c H1 locs1 (σ'.2.2 - g0) (6 * (σ'.2.2 - g0)) Q (F0 m pc ls r) q)
    (L : aLs) (as r : List Value) (σ : aMem) (hdg : decode cc pc = .ok (if virt then .invokevirtual n else .invokestatic n, 3)) (hrcv : virt = true → a_rcv sh ci as = true) (hwr : a_wt r ≤ 8) (hlen : as.length = na) (hwa : a_wt as ≤ na)
    (h : a_crk (a_K p l e R s m args below meth c Q G sh nL g0 gf) False Fin P rk (f as σ) (pc + 3) L r) : a_W p l e R s m args below meth c Q G sh nL g0 pc L (as.reverse ++ r) σ := by
  obtain ⟨hx, hb, hml, hown, hWs, hbs, hbh⟩ := id hM
  have hts := a_hts (args := args) hG hWs
  have hK : va_K (g_D G) vwCl (a_tys (g_ca G)) s := va_K.moved hWs.alike hG.2.2.1
  obtain ⟨c1, c2, c3, c4, c5, c6, c7⟩ := hCF
  have hcode := hts _ c1
  have hini := hts _ c2
  have hgood : ∀ w ∈ lw_g, ∀ (a' : Array Value) (U : State), s.WarmedH U.vm → w.before a' U = true := fun w hw a' U hW => word_at hW (good_of_word (List.mem_filter.mp hw).2) (hts w hw)
  have hws : ∀ w ∈ [Cond.code y bytes maxL ret], ∀ (a' : Array Value) (U : State), s.WarmedH U.vm → w.before a' U = true := fun w hw => by
    rcases List.mem_singleton.mp hw with rfl
    exact hgood _ c1
  have hnp : ∀ sig, parseMethodDescriptor y.desc = some sig → (if virt then na - 1 else na) = sig.parameters.length := fun sig hs => by
    rw [hs] at c4
    exact (Option.some.inj c4).symm
  intro H locs ls hP hS hL hX hg
  have hWh : a_Wh G sh σ H := a_Wh_of hG hbs hbh hP hS hX
  have hPre : ∀ U : State, U.heap = H → s.WarmedH U.vm → a_Pre G sh as σ H.size (as.map (a_cv (g_ad G))).toArray U := fun U hU hW => ⟨rfl, by rw [hU], State.WarmedH.trans hWs hW, by rw [hU]; exact hWh⟩
  have hstk : (as.reverse ++ r).map (a_cv (g_ad G)) = (as.map (a_cv (g_ad G))).reverse ++ r.map (a_cv (g_ad G)) := by simp
  have hwt : ((r.map (a_cv (g_ad G))).map fun v => v.category).sum ≤ 8 := by rw [a_wt_sum]; exact hwr
  rw [hstk]
  cases hfo : f as σ with
  | none => rw [hfo, a_crk_none] at h; exact h.elim
  | some q =>
    obtain ⟨o, σ'⟩ := q
    obtain ⟨hmon, hcon⟩ := hCon as σ o σ' hfo (by rw [hlen]; exact hwa)
    cases o with
    | inl v =>
      have h9 : a_K p l e R s m args below meth c Q G sh nL g0 gf (pc + 3) L (v.toList ++ r) σ' := by
        rw [hfo] at h
        rcases a_crk_ret (K := a_K p l e R s m args below meth c Q G sh nL g0 gf) (Rt := Fin) (N := False) (P := P) (rk := rk) (v := v) (σ' := σ') (pc := pc + 3) (L := L) (r := r) with hh | hh
        · rw [hh] at h; exact h.elim
        · rw [hh] at h; exact h
      have hMet : Met l y [Cond.code y bytes maxL ret] (a_rm fr lo (σ'.2.2 - σ.2.2)) (a_Pre G sh as σ H.size) (a_Qr G sh v σ' H.size) (σ'.2.2 - σ.2.2) (6 * (σ'.2.2 - σ.2.2)) (a_A (g_ad G) sh.length H.size) := hcon H.size
      have e1 : σ.2.2 - g0 + (σ'.2.2 - σ.2.2) = σ'.2.2 - g0 := by omega
      have e2 : 6 * (σ.2.2 - g0) + 6 * (σ'.2.2 - σ.2.2) = 6 * (σ'.2.2 - g0) := by omega
      have hf : σ.2.2 - g0 + (σ'.2.2 - σ.2.2) ≤ R.cells ∧ 6 * (σ.2.2 - g0) + 6 * (σ'.2.2 - σ.2.2) ≤ R.slots := by
        rw [e1, e2]
        have := h9.1
        constructor <;> omega
      have key : va_Run p l e R s m args below meth c H locs (σ.2.2 - g0) (6 * (σ.2.2 - g0)) (σ'.2.2 - σ.2.2) (6 * (σ'.2.2 - σ.2.2)) (F0 m pc ls ((as.map (a_cv (g_ad G))).reverse ++ r.map (a_cv (g_ad G)))) (r.map (a_cv (g_ad G))) (a_Qr G sh v σ' H.size (as.map (a_cv (g_ad G))).toArray) (a_A (g_ad G) sh.length H.size) := by
        cases virt with
        | false =>
          rcases c7 with c7 | ⟨host, c7⟩
          · exact va_runS (As := as.map (a_cv (g_ad G))) (rest := r.map (a_cv (g_ad G))) (n := na) (index := n) (own := own) (bytes := bytes) (maxL := maxL) (ret := ret) ⟨hx, hb, hml, hown, hts⟩ hMet ⟨⟨rfl, rfl, hR.1, hR.2, hws, List.mem_singleton.mpr rfl, hcode, hini, c3, hnp, hts _ c7⟩, hts _ (c6 rfl)⟩ ⟨a_Pre_blind _ _ _ _ _, hPre⟩ rfl (by rw [List.length_map]; exact hlen) hL.1 rfl (lv_room hwt) hdg hf
          · obtain ⟨aa, haa⟩ := hG.2.2.2.1
            have hnw : va_Nw (.methodLinkNest own n y host) s := va_Nw.warmM hWs (va_Nw.of rfl (haa _ c7))
            exact va_runSN (As := as.map (a_cv (g_ad G))) (rest := r.map (a_cv (g_ad G))) (n := na) (index := n) (own := own) (host := host) (bytes := bytes) (maxL := maxL) (ret := ret) (Ts := lw_g) ⟨hx, hb, hml, hown, hts⟩ hMet ⟨⟨⟨rfl, rfl, hR.1, hR.2, hws, List.mem_singleton.mpr rfl⟩, hcode, hini, c3, hnp, va_Nw.use rfl hnw⟩, hts _ (c6 rfl), trivial⟩ ⟨a_Pre_blind _ _ _ _ _, hPre⟩ rfl (by rw [List.length_map]; exact hlen) hL.1 rfl (lv_room hwt) hdg hf
        | true =>
          obtain ⟨hna, hci, ci1, ci2, T9, N9, hcl⟩ := c5 rfl
          obtain ⟨k, as', fk, has, hk⟩ := a_rcv_at (hrcv rfl) hci
          have hrv := va_recv (q0 := k) (ci := ci) hK hP hcl (a_wl_at hk)
          subst has
          rcases c7 with c7 | ⟨host, c7⟩
          · exact va_runV (C := y.cls) (b := g_ad G k) (As := as'.map (a_cv (g_ad G))) (rest := r.map (a_cv (g_ad G))) (n := na - 1) (index := n) (own := own) (bytes := bytes) (maxL := maxL) (ret := ret) ⟨hx, hb, hml, hown, hts⟩ hMet ⟨⟨rfl, rfl, hR.1, hR.2, hws, List.mem_singleton.mpr rfl, hcode, hini, c3, hnp, hts _ c7⟩, hts _ ci1, hts _ ci2⟩ ⟨a_Pre_blind _ _ _ _ _, hrv, hPre⟩ rfl (by rw [List.length_map]; simp at hlen; omega) hL.1 (by simp [a_cv]) (lv_room hwt) hdg hf
          · obtain ⟨aa, haa⟩ := hG.2.2.2.1
            have hnw : va_Nw (.methodLinkNest own n y host) s := va_Nw.warmM hWs (va_Nw.of rfl (haa _ c7))
            exact va_runVN (C := y.cls) (b := g_ad G k) (As := as'.map (a_cv (g_ad G))) (rest := r.map (a_cv (g_ad G))) (n := na - 1) (index := n) (own := own) (host := host) (bytes := bytes) (maxL := maxL) (ret := ret) (Ts := lw_g) ⟨hx, hb, hml, hown, hts⟩ hMet ⟨⟨⟨rfl, rfl, hR.1, hR.2, hws, List.mem_singleton.mpr rfl⟩, hcode, hini, c3, hnp, va_Nw.use rfl hnw⟩, hts _ ci1, hts _ ci2⟩ ⟨a_Pre_blind _ _ _ _ _, hrv, hPre⟩ rfl (by rw [List.length_map]; simp at hlen; omega) hL.1 (by simp [a_cv]) (lv_room hwt) hdg hf
      refine a_goR key hS (fun H1 locs1 hB hS1 => ?_)
      rw [e1, e2]
      have := h9.2 H1 locs1 ls hB.1 hS1 hL hB.2.2.2 (by omega)
      have e3 : (v.toList ++ r).map (a_cv (g_ad G)) = (v.map (a_cv (g_ad G))).toList ++ r.map (a_cv (g_ad G)) := by cases v <;> rfl
      rw [e3] at this
      exact this
    | inr x =>
      rw [hfo, a_crk_thr] at h
      have hgx := hEg L x σ' h
      have hMet : vx_Met l y [Cond.code y bytes maxL ret] (a_rm fr lo (σ'.2.2 - σ.2.2)) (a_Pre G sh as σ H.size) (fun _ _ _ _ => False) (a_Qx G sh x σ' H.size) (σ'.2.2 - σ.2.2) (6 * (σ'.2.2 - σ.2.2)) (a_A (g_ad G) sh.length H.size) := hcon H.size
      have c7 : Cond.methodLink own n y ∈ lw_g := hnx.elim id (fun h9 => absurd hfo (h9 as σ x σ'))
      have e1 : σ.2.2 - g0 + (σ'.2.2 - σ.2.2) = σ'.2.2 - g0 := by omega
      have e2 : 6 * (σ.2.2 - g0) + 6 * (σ'.2.2 - σ.2.2) = 6 * (σ'.2.2 - g0) := by omega
      have hf : σ.2.2 - g0 + (σ'.2.2 - σ.2.2) ≤ R.cells ∧ 6 * (σ.2.2 - g0) + 6 * (σ'.2.2 - σ.2.2) ≤ R.slots := by
        rw [e1, e2]
        constructor <;> omega
      have key : vx_Run p l e R s m args below meth c H locs (σ.2.2 - g0) (6 * (σ.2.2 - g0)) (σ'.2.2 - σ.2.2) (6 * (σ'.2.2 - σ.2.2)) (F0 m pc ls ((as.map (a_cv (g_ad G))).reverse ++ r.map (a_cv (g_ad G)))) (r.map (a_cv (g_ad G))) (fun _ _ _ => False) (a_Qx G sh x σ' H.size) (a_A (g_ad G) sh.length H.size) := by
        cases virt with
        | false =>
          exact vx_runS (As := as.map (a_cv (g_ad G))) (rest := r.map (a_cv (g_ad G))) (n := na) (index := n) (own := own) (bytes := bytes) (maxL := maxL) (ret := ret) ⟨hx, hb, hml, hown, hts⟩ hMet ⟨⟨rfl, rfl, hR.1, hR.2, hws, List.mem_singleton.mpr rfl, hcode, hini, c3, hnp, hts _ c7⟩, hts _ (c6 rfl)⟩ ⟨a_Pre_blind _ _ _ _ _, hPre⟩ rfl (by rw [List.length_map]; exact hlen) hL.1 rfl (lv_room hwt) hdg hf
        | true =>
          obtain ⟨hna, hci, ci1, ci2, T9, N9, hcl⟩ := c5 rfl
          obtain ⟨k, as', fk, has, hk⟩ := a_rcv_at (hrcv rfl) hci
          have hrv := va_recv (q0 := k) (ci := ci) hK hP hcl (a_wl_at hk)
          subst has
          exact vx_runV (C := y.cls) (b := g_ad G k) (As := as'.map (a_cv (g_ad G))) (rest := r.map (a_cv (g_ad G))) (n := na - 1) (index := n) (own := own) (bytes := bytes) (maxL := maxL) (ret := ret) ⟨hx, hb, hml, hown, hts⟩ hMet ⟨⟨rfl, rfl, hR.1, hR.2, hws, List.mem_singleton.mpr rfl, hcode, hini, c3, hnp, hts _ c7⟩, hts _ ci1, hts _ ci2⟩ ⟨a_Pre_blind _ _ _ _ _, hrv, hPre⟩ rfl (by rw [List.length_map]; simp at hlen; omega) hL.1 (by simp [a_cv]) (lv_room hwt) hdg hf
      refine a_goX key hS (fun H1 locs1 q ce hB hS1 k1 k2 k3 => ?_)
      rw [e1, e2]
      exact hEx L x σ' h H1 locs1 ls _ q ce hB hS1 hL (by omega) k1 k2 k3
end AR
