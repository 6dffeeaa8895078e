/-! ===== methods with handlers that only return ===== -/
section AH
variable {p : Program} {l : Launch} {e : Env} {R : Room} {s : State} {m : MethodId} {args : Array Value} {below : List Frame} {meth : Method} {c : Code} {Q : State → Prop} {G : aG} {sh : List aShp} {nL g0 : Nat}
/-- the handler that takes exception x, for the call at pc: it goes on at h, local k forgotten -/
def a_hk (s : State) (own : String) (cc : ByteArray) (nL : Nat) (hh : List (Nat × Nat × Nat × Nat)) (x h k pc : Nat) : Prop :=
  ∃ (pre : List ExceptionTableEntry) (z : ExceptionTableEntry) (suf : List ExceptionTableEntry), tableOf hh = pre ++ z :: suf ∧ (∀ w ∈ pre, w.catchType ≠ 0 ∧ ∃ nm : String, Cond.classLink own w.catchType nm ∈ lw_g ∧ va_Nc (a_en x) nm s) ∧ covers z pc = true ∧ z.catchType ≠ 0 ∧ Cond.classLink own z.catchType (a_en x) ∈ lw_g ∧ Cond.castable (a_en x) (a_en x) ∈ lw_tbl ∧ k < nL ∧
    ((∃ kf : Fin 4, kf.val = k ∧ decode cc z.handlerPc = .ok (.astore_n kf, 1) ∧ h = z.handlerPc + 1) ∨ (decode cc z.handlerPc = .ok (.astore k, 2) ∧ h = z.handlerPc + 2))
theorem a_hnd_sound {own : String} {cc : ByteArray} {hh : List (Nat × Nat × Nat × Nat)} {x h k pc gf : Nat} {L : aLs} {σ' : aMem} (hG : a_GF G sh) (hM : a_M p s m c G nL own cc) (htab : c.exceptionTable.toList = tableOf hh) (hok : a_hk s own cc nL hh x h k pc) (K : a_K p l e R s m args below meth c Q G sh nL g0 gf h ((a_kill L (k - 1)).set k none) [] σ') :
    ∀ (H1 : Heap) (locs1 : List Loc) (ls : Array Slot) (r : List Value) (q : Addr) (ce : Cell), a_Wh G sh σ' H1 → va_S (a_A (g_ad G) sh.length s.heap.size) s.heap H1 locs1 → a_L (g_ad G) nL ls L → g0 ≤ σ'.2.2 → H1[q]? = some ce → ce.vm = .none → s.vm.findClass (a_en x) = some ce.cls →
      vx_W p l e R s m args below meth c H1 locs1 (σ'.2.2 - g0) (6 * (σ'.2.2 - g0)) Q (F0 m pc ls r) q := by
  obtain ⟨hx, hb, hml, hown, hWs, hbs, hbh⟩ := id hM
  obtain ⟨pre, z, suf, h1, h2, h3, h4, h5, h6, h7, h8⟩ := hok
  intro H1 locs1 ls r q ce hB hS hL hg k1 k2 k3
  have hts := a_hts (args := args) hG hWs
  refine vx_catch (own := own) (name := a_en x) (E := a_en x) (ce := ce) hown pre z suf (htab.trans h1) (fun w hw => ?_) h3 h4 (hts _ h5) (a_ww_at hG hWs h6 rfl) k1 k2 k3 ?_
  · obtain ⟨w1, nm, w2, w3⟩ := h2 w hw
    exact Or.inr ⟨w1, nm, hts _ w2, w3⟩
  · rcases h8 with ⟨kf, rfl, d, rfl⟩ | ⟨d, rfl⟩
    · exact lv_astore_n hx hb d rfl hL.has h7 rfl (fun ls' hl => K.2 H1 locs1 ls' hB.1 hS (a_L_sn hL.2.1 hl) hB.2.2.2 hg)
    · exact lv_astore hx hb d hL.has h7 rfl (fun ls' hl => K.2 H1 locs1 ls' hB.1 hS (a_L_sn hL.2.1 hl) hB.2.2.2 hg)
end AH
/-- a method's contract, where it returns -/
def a_ConW (l : Launch) (G : aG) (sh : List aShp) (y : MethodName) (w : Cond) (fr lo : Nat) (f : aMF) : Prop :=
  ∀ (as : List Value) (σ : aMem) (v : Option Value) (σ' : aMem), f as σ = some (.inl v, σ') → a_wt as ≤ as.length → σ.2.2 ≤ σ'.2.2 ∧ ∀ sz : Nat, Met l y [w] (a_rm fr lo (σ'.2.2 - σ.2.2)) (a_Pre G sh as σ sz) (a_Qr G sh v σ' sz) (σ'.2.2 - σ.2.2) (6 * (σ'.2.2 - σ.2.2)) (a_A (g_ad G) sh.length sz)
set_option maxHeartbeats 1000000 in
theorem a_methodW {l : Launch} {G : aG} {sh : List aShp} {y : MethodName} {cc : ByteArray} {nL na : Nat} {ret : Option FieldType} {P : aPrg} {fr lo : Nat} {hh : List (Nat × Nat × Nat × Nat)} (sl : Option Nat) (hG : a_GF G sh) (hN : sh.length ≤ 900) (hsl : ∀ n, sl = some n → n = g_n G) (hy : plainName y.cls = true) (hret : ret = a_rty (a_ret P)) (hF : a_fok y.cls P) (hC : a_cok G y.cls P) (hcode : (a_code P).all (a_eok cc) = true)
    (hna : na ≤ nL) (hth : a_thr P = [])
    (hhk : ∀ (s : State), (g_s G).WarmedH s.vm → ∀ x h k, a_lk (a_hnd P) x = some (h, k) → ∀ (pc n : Nat) (virt : Bool), (∃ ee, (pc, (if virt then Instr.invokevirtual n else .invokestatic n), ee) ∈ a_code P) → a_hk s y.cls cc nL hh x h k pc)
    (hcm : ∀ n f na ci rk, (n, f, na, ci, rk) ∈ a_cals P → ∀ (as : List Value) (σ : aMem) (o : aOut) (σ' : aMem), f as σ = some (o, σ') → a_wt as ≤ as.length → σ.2.2 ≤ σ'.2.2)
    (hca : ∀ n f na ci rk, (n, f, na, ci, rk) ∈ a_cals P → a_CR l G sh y.cls cc P fr lo n f na ci rk) :
    a_ConW l G sh y (.codeWith y cc nL ret hh) fr lo (a_fn sl sh P nL na) := by
  intro as σ v σ' hrun0 hwt
  have hrun2 : as.length = na ∧ a_run sl sh P 0 (a_lcl nL as) [] σ = some (.inl v, σ') := by
    unfold a_fn at hrun0
    split at hrun0
    · rename_i h9
      exact ⟨Nat.eq_of_beq_eq_true h9, hrun0⟩
    · cases hrun0
  obtain ⟨hlen0, hrun⟩ := hrun2
  have hcode' : ∀ e ∈ a_code P, a_eok cc e = true := List.all_eq_true.mp hcode
  obtain ⟨N, hN9⟩ := a_run_to hrun
  have hmon := a_run_mono hcm N _ _ _ _ _ hN9
  refine ⟨hmon, fun sz => ?_⟩
  have hone := a_wt_one hwt
  have hle : as.length ≤ nL := by omega
  show Met l y [.codeWith y cc nL ret hh] _ _ _ _ _ _
  refine va_MetW (cc := cc) (maxL := nL) (ret := ret) (hh := hh) hy rfl ?_
  intro p e s m args below meth c s₁ B hml hv
  obtain ⟨rfl, hsz, hWs, hB⟩ := hv
  subst hsz
  have hM : a_M p s m c G nL y.cls cc := ⟨B.exec, B.bytes, hml, findClass_of_methodNamed B.named, hWs, hB.2.1, hB.2.2.1⟩
  have htab : c.exceptionTable.toList = tableOf hh := vx_table (x := y) B (atoms_spec (ws := [Cond.codeWith y cc nL ret hh]) B.pre _ (List.mem_singleton.mpr rfl))
  have hlk := B.notSynchronized
  have hrt := B.returns
  rw [lg_entry_eq]
  have key := a_run_sound (p := p) (l := l) (e := e) (R := (headSpec [Cond.codeWith y cc nL ret hh] (a_rm fr lo (σ'.2.2 - σ.2.2))).room) (s := s) (m := m) (args := (as.map (a_cv (g_ad G))).toArray) (below := below) (meth := meth) (c := c)
    (Q := MQ below (a_Qr G sh v σ' s.heap.size) (as.map (a_cv (g_ad G))).toArray s (σ'.2.2 - σ.2.2) (6 * (σ'.2.2 - σ.2.2)) (a_A (g_ad G) sh.length s.heap.size)) (G := G) (sh := sh) (nL := nL) (g0 := σ.2.2) (own := y.cls) (cc := cc) (rf := (.inl v, σ')) hG hN hsl hM hF hC hcode' hcm
    (by
      intro pc L x τ hd hr he
      obtain ⟨e1, e2⟩ := Prod.mk.inj he
      cases Sum.inl.inj e1
      subst e2
      intro H locs ls hP hS hL hX hg
      have hq : ∀ t : State, t.heap = H → s.WarmedH t.vm → a_Qr G sh (some (.int x)) σ' s.heap.size (as.map (a_cv (g_ad G))).toArray s (.returned (some (.int x))) t := fun t ht _ => ⟨rfl, by rw [ht]; exact a_Wh_of hG hB.2.1 hB.2.2.1 hP hS hX, hS.F ht⟩
      rcases hr with hr | ⟨hr, h01⟩
      · rw [hr] at hret
        exact W.iret B.exec B.bytes (hrt.trans hret) hq (fun q h => hS.2.2 q h) hd
      · rw [hr] at hret
        exact W.zret B.exec B.bytes (hrt.trans hret) (by rcases h01 with rfl | rfl <;> rfl) hq (fun q h => hS.2.2 q h) hd)
    (by
      intro pc L τ hd hr he
      obtain ⟨e1, e2⟩ := Prod.mk.inj he
      cases Sum.inl.inj e1
      subst e2
      intro H locs ls hP hS hL hX hg
      rw [hr] at hret
      exact W.vret B.exec B.bytes (hrt.trans hret) (fun t ht _ => ⟨rfl, by rw [ht]; exact a_Wh_of hG hB.2.1 hB.2.2.1 hP hS hX, hS.F ht⟩) (fun q h => hS.2.2 q h) hd)
    (by
      intro pc L x τ hd hr he
      obtain ⟨e1, e2⟩ := Prod.mk.inj he
      cases Sum.inl.inj e1
      subst e2
      intro H locs ls hP hS hL hX hg
      rw [hr] at hret
      exact W.lret B.exec B.bytes (hrt.trans hret) (fun t ht _ => ⟨rfl, by rw [ht]; exact a_Wh_of hG hB.2.1 hB.2.2.1 hP hS hX, hS.F ht⟩) (fun q h => hS.2.2 q h) hd)
    (by
      intro pc L st x τ _ _ he
      cases (Prod.mk.inj he).1)
    (by
      intro virt n f na ci rk hmem pc L as9 r τ hd hmc hv hwr hlen hwa h9
      refine hca n f na ci rk hmem p e _ s m _ below meth c _ nL σ.2.2 σ'.2.2 (fun o τ => ((Sum.inl v, σ') : aRes) = (o, τ)) virt hM (Nat.le_refl _) (Nat.le_refl _) ⟨Nat.le_refl _, Nat.le_refl _⟩ pc ?_ ?_ L as9 r τ hd hv hwr hlen hwa h9
      · intro L x τ he
        unfold a_exc at he
        split at he
        · exact he.1
        · cases (Prod.mk.inj he).1
      · intro L x τ he
        unfold a_exc at he
        split at he
        · rename_i h k hlk9
          exact a_hnd_sound hG hM htab (hhk s hWs x h k hlk9 pc n virt hmc) he
        · cases (Prod.mk.inj he).1)
    N 0 (a_lcl nL as) [] σ hN9
  have := key s.heap [] _ hB.1 va_S.rf (a_L.entry (ad := g_ad G) hone hle) hB.2.2.2 (Nat.le_refl _)
  rw [Nat.sub_self] at this
  exact this
