/-! ===== a method's contract out of its checks ===== -/
abbrev a_nm : List String := ["java/lang/RuntimeException", "java/lang/Exception"]
/-- what throwing asks of the law's entry -/
def a_XG (G : aG) : Prop := vx_Zq Bundle.tN "UNASSIGNED_STACK" Bundle.steD (fun q => (g_s G).heap.size ≤ q) (g_s G) (g_s G).heap ∧ vx_Zq Bundle.tN "SUPPRESSED_SENTINEL" Bundle.listD (fun q => (g_s G).heap.size ≤ q) (g_s G) (g_s G).heap
/-- words that stay true: the good ones, and two more kinds -/
def a_ww (w : Cond) : Bool := match w with
  | .castable _ _ => true
  | .declares _ => true
  | w => goodWord w
theorem a_ww_at {G : aG} {sh : List aShp} {s : State} {args : Array Value} {w : Cond} (hG : a_GF G sh) (hW : (g_s G).WarmedH s.vm) (hm : w ∈ lw_tbl) (h : a_ww w = true) : w.before args s = true := by
  obtain ⟨aa, haa⟩ := hG.2.2.2.1
  unfold a_ww at h
  split at h
  · exact va_Nw.use rfl (va_Nw.warmC hW (va_Nw.of rfl (haa _ hm)))
  · exact va_Nw.use rfl (va_Nw.warmD hW (va_Nw.of rfl (haa _ hm)))
  · exact word_at hW (good_of_word h) (haa _ hm)
theorem a_ww_ot {w : Cond} (h : a_ww w = true) : vx_ot w = true := by
  unfold a_ww at h
  split at h
  · rfl
  · rfl
  · unfold vx_ot; rw [h, Bool.or_true]
/-- 'throw new E("text")' at pc -/
def a_tok (G : aG) (own : String) (cc : ByteArray) (fr lo pc x : Nat) : Prop := x ≤ 1 ∧ ∃ (ik is ic ix sa : Nat) (rx : ByteArray) (text : String), a_rx rx ix ∧ (decode cc pc = .ok (.new ik, 3) ∧ decode cc (pc + 3) = .ok (.dup, 1)) ∧
  ((decode cc (pc + 4) = .ok (.ldc is, 2) ∧ decode cc (pc + 6) = .ok (.invokespecial ic, 3) ∧ decode cc (pc + 9) = .ok (.athrow, 1)) ∨ (decode cc (pc + 4) = .ok (.ldc_w is, 3) ∧ decode cc (pc + 7) = .ok (.invokespecial ic, 3) ∧ decode cc (pc + 10) = .ok (.athrow, 1))) ∧
  Cond.classLink own ik (a_en x) ∈ lw_g ∧ Cond.initialized (a_en x) ∈ lw_g ∧ vk_R own is text sa (g_s G) ∧ (∀ w ∈ a_atX own ic (a_en x) ix rx a_nm, w ∈ lw_tbl ∧ a_ww w = true) ∧ 6 ≤ fr ∧ 90 ≤ lo
abbrev a_rty : Nat → Option FieldType := fun k => match k with
  | 0 => some .int
  | 1 => some .boolean
  | 2 => none
  | _ => some .long
/-- the rule of a call, in every frame with enough room -/
def a_CR (l : Launch) (G : aG) (sh : List aShp) (own : String) (cc : ByteArray) (P : aPrg) (fr lo : Nat) (n : Nat) (f : aMF) (na ci rk : Nat) : Prop :=
  ∀ (p : Program) (e : Env) (R : Room) (s : State) (m : MethodId) (args : Array Value) (below : List Frame) (meth : Method) (c : Code) (Q : State → Prop) (nL g0 gf : Nat) (Fin : aOut → aMem → Prop) (virt : Bool), a_M p s m c G nL own cc → fr ≤ R.frames → lo ≤ R.locals → gf - g0 ≤ R.cells ∧ 6 * (gf - g0) ≤ R.slots →
    ∀ pc : Nat, (∀ L x σ', a_exc (a_K p l e R s m args below meth c Q G sh nL g0 gf) Fin P L x σ' → σ'.2.2 ≤ gf) →
    (∀ L x σ', a_exc (a_K p l e R s m args below meth c Q G sh nL g0 gf) Fin P L x σ' → ∀ (H1 : Heap) (locs1 : List Loc) (ls : Array Slot) (r : List Value) (q : Addr) (ce : Cell), a_Wh G sh σ' H1 → va_S (a_A (g_ad G) sh.length s.heap.size) s.heap H1 locs1 → a_L (g_ad G) nL ls L → g0 ≤ σ'.2.2 → H1[q]? = some ce → ce.vm = .none → s.vm.findClass (a_en x) = some ce.cls →
      vx_W p l e R s m args below meth c H1 locs1 (σ'.2.2 - g0) (6 * (σ'.2.2 - g0)) Q (F0 m pc ls r) q) →
    ∀ (L : aLs) (as r : List Value) (σ : aMem), decode cc pc = .ok (if virt then .invokevirtual n else .invokestatic n, 3) → a_vok sh virt ci as = true → a_wt r ≤ 8 → as.length = na → a_wt as ≤ na →
    a_crk (a_K p l e R s m args below meth c Q G sh nL g0 gf) False Fin P rk (f as σ) (pc + 3) L r → a_W p l e R s m args below meth c Q G sh nL g0 pc L (as.reverse ++ r) σ
/-- a call of a Java method -/
theorem a_CR_java {l : Launch} {G : aG} {sh : List aShp} {own : String} {cc : ByteArray} {P : aPrg} {fr lo : Nat} {n : Nat} {f : aMF} {na ci rk : Nat} {y : MethodName} {bytes : ByteArray} {maxL fr' lo' : Nat} {ret : Option FieldType} {virt : Bool} (hG : a_GF G sh) (hCon : a_Con l G sh y (.code y bytes maxL ret) fr' lo' f) (hCF : a_CF own n y bytes maxL ret na ci virt) (hci : virt = false → ci = 2000) (hf : fr' + 1 ≤ fr) (hl : 8 + (maxL + 11) + lo' ≤ lo)
    (hnx : Cond.methodLink own n y ∈ lw_g ∨ ∀ (as : List Value) (σ : aMem) (x : Nat) (σ' : aMem), f as σ ≠ some (.inr x, σ')) : a_CR l G sh own cc P fr lo n f na ci rk := by
  intro p e R s m args below meth c Q nL g0 gf Fin v2 hM h1 h2 h3 pc hEg hEx L as r σ hdg hv hwr hlen hwa h
  have hvv : v2 = virt := by
    cases v2 with
    | true =>
      cases virt with
      | true => rfl
      | false =>
        exfalso
        rw [hci rfl] at hv
        unfold a_vok a_rcv at hv
        simp only at hv
        split at hv
        · rename_i k as'
          split at hv
          · rename_i q hq
            have e1 := Nat.eq_of_beq_eq_true hv
            obtain ⟨c9, fk⟩ := q
            obtain ⟨C, T, N, hc, -⟩ := hG.2.2.2.2.2.1 k c9 fk hq
            simp only at e1
            rw [e1] at hc
            cases hc
          · simp at hv
        · cases hv
    | false =>
      cases virt with
      | false => rfl
      | true =>
        exfalso
        have e1 : ci = 2000 := Nat.eq_of_beq_eq_true hv
        have := (hCF.2.2.2.2.1 rfl).2.1
        omega
  subst hvv
  refine a_call_sound hG hM hCon hCF ⟨by omega, by omega⟩ h3 hnx pc hEg hEx L as r σ hdg (fun hh => ?_) hwr hlen hwa h
  subst hh
  exact hv
/-- a method as a function of its arguments and the memory -/
noncomputable def a_fn (sl : Option Nat) (sh : List aShp) (P : aPrg) (nL na : Nat) : aMF := fun as σ => match Nat.beq as.length na with
  | true => a_run sl sh P 0 (a_lcl nL as) [] σ
  | false => none
set_option maxHeartbeats 1000000 in
theorem a_method {l : Launch} {G : aG} {sh : List aShp} {y : MethodName} {cc : ByteArray} {nL na : Nat} {ret : Option FieldType} {P : aPrg} {fr lo : Nat} (sl : Option Nat) (hl : l.stackTraces = false) (hG : a_GF G sh) (hN : sh.length ≤ 900) (hsl : ∀ n, sl = some n → n = g_n G) (hXG : a_XG G) (hy : plainFor y = true) (hy2 : a_thr P = [] ∨ plainName y.cls = true) (hret : ret = a_rty (a_ret P)) (hF : a_fok y.cls P) (hC : a_cok G y.cls P) (hcode : (a_code P).all (a_eok cc) = true) (hnh : a_hnd P = [])
    (hna : na ≤ nL)
    (hth : ∀ pc x, (pc, x) ∈ a_thr P → a_tok G y.cls cc fr lo pc x)
    (hcm : ∀ n f na ci rk, (n, f, na, ci, rk) ∈ a_cals P → ∀ (as : List Value) (σ : aMem) (o : aOut) (σ' : aMem), f as σ = some (o, σ') → a_wt as ≤ as.length → σ.2.2 ≤ σ'.2.2)
    (hca : ∀ n f na ci rk, (n, f, na, ci, rk) ∈ a_cals P → a_CR l G sh y.cls cc P fr lo n f na ci rk)
    (hnt : plainName y.cls = true ∨ ∀ n f na ci rk, (n, f, na, ci, rk) ∈ a_cals P → ∀ (as : List Value) (σ : aMem) (x : Nat) (σ' : aMem), f as σ ≠ some (.inr x, σ')) :
    a_Con l G sh y (.code y cc nL ret) fr lo (a_fn sl sh P nL na) := by
  intro as σ o σ' hrun0 hwt
  have hrun2 : as.length = na ∧ a_run sl sh P 0 (a_lcl nL as) [] σ = some (o, σ') := by
    unfold a_fn at hrun0
    split at hrun0
    · rename_i h9
      exact ⟨Nat.eq_of_beq_eq_true h9, hrun0⟩
    · cases hrun0
  obtain ⟨hlen0, hrun⟩ := hrun2
  have hcode' : ∀ e ∈ a_code P, a_eok cc e = true := List.all_eq_true.mp hcode
  obtain ⟨N, hN9⟩ := a_run_to hrun
  have hmon := a_run_mono hcm N _ _ _ _ _ hN9
  refine ⟨hmon, fun sz => ?_⟩
  have hone := a_wt_one hwt
  have hle : as.length ≤ nL := by omega
  have hexc : ∀ {ρ : Type} (K : Nat → aLs → List Value → aMem → ρ) (Rt : aOut → aMem → ρ) (L : aLs) (x : Nat) (τ : aMem), a_exc K Rt P L x τ = Rt (.inr x) τ := by
    intro ρ K Rt L x τ
    unfold a_exc
    rw [hnh]
    rfl
  cases o with
  | inl v =>
    show Met l y [.code y cc nL ret] _ _ _ _ _ _
    refine va_MetF (cc := cc) (maxL := nL) (ret := ret) hy rfl ?_
    intro p e s m args below meth c s₁ B hml hv
    obtain ⟨rfl, hsz, hWs, hB⟩ := hv
    subst hsz
    have hM : a_M p s m c G nL y.cls cc := ⟨B.exec, B.bytes, hml, findClass_of_methodNamed B.named, hWs, hB.2.1, hB.2.2.1⟩
    have hlk := B.notSynchronized
    have hrt := B.returns
    rw [lg_entry_eq]
    have key := a_run_sound (p := p) (l := l) (e := e) (R := (headSpec [Cond.code y cc nL ret] (a_rm fr lo (σ'.2.2 - σ.2.2))).room) (s := s) (m := m) (args := (as.map (a_cv (g_ad G))).toArray) (below := below) (meth := meth) (c := c)
      (Q := MQ below (a_Qr G sh v σ' s.heap.size) (as.map (a_cv (g_ad G))).toArray s (σ'.2.2 - σ.2.2) (6 * (σ'.2.2 - σ.2.2)) (a_A (g_ad G) sh.length s.heap.size)) (G := G) (sh := sh) (nL := nL) (g0 := σ.2.2) (own := y.cls) (cc := cc) (rf := (.inl v, σ')) hG hN hsl hM hF hC hcode' hcm
      (by
        intro pc L x τ hd hr he
        obtain ⟨e1, e2⟩ := Prod.mk.inj he
        cases Sum.inl.inj e1
        subst e2
        intro H locs ls hP hS hL hX hg
        have hq : ∀ t : State, t.heap = H → s.WarmedH t.vm → a_Qr G sh (some (.int x)) σ' s.heap.size (as.map (a_cv (g_ad G))).toArray s (.returned (some (.int x))) t := fun t ht _ => ⟨rfl, by rw [ht]; exact a_Wh_of hG hB.2.1 hB.2.2.1 hP hS hX, hS.F ht⟩
        rcases hr with hr | ⟨hr, h01⟩
        · rw [hr] at hret
          exact W.iret B.exec B.bytes (hrt.trans hret) hq (fun q h => hS.2.2 q h) hd
        · rw [hr] at hret
          exact W.zret B.exec B.bytes (hrt.trans hret) (by rcases h01 with rfl | rfl <;> rfl) hq (fun q h => hS.2.2 q h) hd)
      (by
        intro pc L τ hd hr he
        obtain ⟨e1, e2⟩ := Prod.mk.inj he
        cases Sum.inl.inj e1
        subst e2
        intro H locs ls hP hS hL hX hg
        rw [hr] at hret
        exact W.vret B.exec B.bytes (hrt.trans hret) (fun t ht _ => ⟨rfl, by rw [ht]; exact a_Wh_of hG hB.2.1 hB.2.2.1 hP hS hX, hS.F ht⟩) (fun q h => hS.2.2 q h) hd)
      (by
        intro pc L x τ hd hr he
        obtain ⟨e1, e2⟩ := Prod.mk.inj he
        cases Sum.inl.inj e1
        subst e2
        intro H locs ls hP hS hL hX hg
        rw [hr] at hret
        exact W.lret B.exec B.bytes (hrt.trans hret) (fun t ht _ => ⟨rfl, by rw [ht]; exact a_Wh_of hG hB.2.1 hB.2.2.1 hP hS hX, hS.F ht⟩) (fun q h => hS.2.2 q h) hd)
      (by
        intro pc L st x τ _ _ he
        cases (Prod.mk.inj he).1)
      (by
        intro virt n f na ci rk hmem pc L as9 r τ hd _ hv hwr hlen hwa h9
        refine hca n f na ci rk hmem p e _ s m _ below meth c _ nL σ.2.2 σ'.2.2 (fun o τ => ((Sum.inl v, σ') : aRes) = (o, τ)) virt hM (Nat.le_refl _) (Nat.le_refl _) ⟨Nat.le_refl _, Nat.le_refl _⟩ pc ?_ ?_ L as9 r τ hd hv hwr hlen hwa h9
        · intro L x τ he
          rw [hexc] at he
          cases (Prod.mk.inj he).1
        · intro L x τ he
          rw [hexc] at he
          cases (Prod.mk.inj he).1)
      N 0 (a_lcl nL as) [] σ hN9
    have := key s.heap [] _ hB.1 va_S.rf (a_L.entry (ad := g_ad G) hone hle) hB.2.2.2 (Nat.le_refl _)
    rw [Nat.sub_self] at this
    exact this
  | inr x =>
    have hpn : plainName y.cls = true := by
      rcases hy2 with h1 | h1
      · rcases hnt with h2 | h2
        · exact h2
        · obtain ⟨v, hv⟩ := a_run_nt h1 h2 N _ _ _ _ _ hN9
          cases hv
      · exact h1
    show vx_Met l y [.code y cc nL ret] _ _ _ _ _ _ _
    refine vx_ofW (cc := cc) (maxL := nL) (ret := ret) hpn rfl ?_
    intro p e s m args below meth c s₁ B hml htab hv
    obtain ⟨rfl, hsz, hWs, hB⟩ := hv
    subst hsz
    have hM : a_M p s m c G nL y.cls cc := ⟨B.exec, B.bytes, hml, findClass_of_methodNamed B.named, hWs, hB.2.1, hB.2.2.1⟩
    have hlk := B.notSynchronized
    have hown := findClass_of_methodNamed B.named
    rw [lg_entry_eq]
    have hts := a_hts (args := (as.map (a_cv (g_ad G))).toArray) hG hWs
    have hA9 : ∀ q, a_A (g_ad G) sh.length s.heap.size q → (g_s G).heap.size ≤ q := by
      intro q hq
      rcases hq with ⟨k, hk, rfl⟩ | hz
      · exact hG.2.1 k hk
      · exact Nat.le_trans hB.2.1 hz
    have hold : ∀ q : Nat, q < (g_s G).heap.size → ¬ (g_s G).heap.size ≤ q → s.heap[q]? = (g_s G).heap[q]? := fun q h1 _ => hB.2.2.1 q h1
    have hU := ((hXG.1.moved hWs.alike).kept hold).narrow hA9
    have hV := ((hXG.2.moved hWs.alike).kept hold).narrow hA9
    have key := a_run_sound (p := p) (l := l) (e := e) (R := (headSpec [Cond.code y cc nL ret] (a_rm fr lo (σ'.2.2 - σ.2.2))).room) (s := s) (m := m) (args := (as.map (a_cv (g_ad G))).toArray) (below := below) (meth := meth) (c := c)
      (Q := vx_MQ below (fun _ _ _ _ => False) (a_Qx G sh x σ' s.heap.size) (as.map (a_cv (g_ad G))).toArray s (σ'.2.2 - σ.2.2) (6 * (σ'.2.2 - σ.2.2)) (a_A (g_ad G) sh.length s.heap.size)) (G := G) (sh := sh) (nL := nL) (g0 := σ.2.2) (own := y.cls) (cc := cc) (rf := (.inr x, σ')) hG hN hsl hM hF hC hcode' hcm
      (by intro pc L x τ _ _ he; cases (Prod.mk.inj he).1)
      (by intro pc L τ _ _ he; cases (Prod.mk.inj he).1)
      (by intro pc L x τ _ _ he; cases (Prod.mk.inj he).1)
      (by
        intro pc L st x9 τ hmem hst he
        obtain ⟨e1, e2⟩ := Prod.mk.inj he
        cases Sum.inr.inj e1
        subst e2
        obtain ⟨hx1, ik, is, ic, ix, sa, rx, text, hrx, ⟨d0, d3⟩, hdd, w1, w2, w3, w4, hfr, hlo⟩ := hth pc x hmem
        intro H locs ls hP hS hL hX hg
        have hat : ∀ w ∈ a_atX y.cls ic (a_en x) ix rx a_nm, w.before (as.map (a_cv (g_ad G))).toArray s = true := fun w hw => a_ww_at hG hWs (w4 w hw).1 (w4 w hw).2
        have hgd : ∀ w ∈ Cond.classLink y.cls ik (a_en x) :: Cond.initialized (a_en x) :: a_atX y.cls ic (a_en x) ix rx a_nm, vx_ot w = true := by
          intro w hw
          have key : ∀ w ∈ lw_g, vx_ot w = true := fun w hw => by
            unfold vx_ot
            rw [(List.mem_filter.mp hw).2, Bool.or_true]
          rcases List.mem_cons.mp hw with rfl | hw
          · exact key _ w1
          rcases List.mem_cons.mp hw with rfl | hw
          · exact key _ w2
          exact a_ww_ot (w4 w hw).2
        have hcls : Bundle.fit (a_en x) = true := by
          rcases (show x = 0 ∨ x = 1 by omega) with rfl | rfl <;> decide +kernel
        have hnms : ∀ n ∈ a_nm, Bundle.fit n = true := by decide +kernel
        have hg9 : τ.2.2 + 1 = (a_tk τ).2.2 := rfl
        have hwt9 : ((st.map (a_cv (g_ad G))).map fun v => v.category).sum ≤ 8 := by rw [a_wt_sum]; exact hst
        have hxx : ∀ t : State, s.vm.Alike t.vm → H.size ≤ t.heap.size → (∀ q : Nat, q < H.size → t.heap[q]? = H[q]?) → a_Qx G sh x (a_tk τ) s.heap.size (a_en x) s t := by
          intro t _ hsz9 hsame
          have hPt : va_P (g_D G) vwCl (a_wl (g_ad G) (g_ca G) sh (a_tk τ)) t.heap := hP.kept (fun k q hk => hsame _ (hP k q hk).lt)
          have hSt : va_S (a_A (g_ad G) sh.length s.heap.size) s.heap t.heap locs := ⟨Nat.le_trans hS.1 hsz9, fun q h1 h2 => by rw [hsame q (Nat.lt_of_lt_of_le h1 hS.1)]; exact hS.2.1 q h1 h2, hS.2.2⟩
          exact ⟨rfl, a_Wh_of hG hB.2.1 hB.2.2.1 hPt hSt hX, hSt.F rfl⟩
        have hc1 : τ.2.2 - σ.2.2 + 1 = (a_tk τ).2.2 - σ.2.2 := by omega
        have hs1 : 6 * (τ.2.2 - σ.2.2) + 6 = 6 * ((a_tk τ).2.2 - σ.2.2) := by omega
        have r1 : a_nm.length + 3 < (headSpec [Cond.code y cc nL ret] (a_rm fr lo ((a_tk τ).2.2 - σ.2.2))).room.frames := show 2 + 3 < fr by omega
        have r2 : ((st.map (a_cv (g_ad G))).map fun v => v.category).sum + (13 * (a_nm.length + 1) + 43) ≤ (headSpec [Cond.code y cc nL ret] (a_rm fr lo ((a_tk τ).2.2 - σ.2.2))).room.locals := show _ + (13 * (2 + 1) + 43) ≤ lo by omega
        have r3 : τ.2.2 - σ.2.2 + 1 ≤ (headSpec [Cond.code y cc nL ret] (a_rm fr lo ((a_tk τ).2.2 - σ.2.2))).room.cells := show _ ≤ (a_tk τ).2.2 - σ.2.2 by omega
        have r4 : 6 * (τ.2.2 - σ.2.2) + 6 ≤ (headSpec [Cond.code y cc nL ret] (a_rm fr lo ((a_tk τ).2.2 - σ.2.2))).room.slots := show _ ≤ 6 * ((a_tk τ).2.2 - σ.2.2) by omega
        rcases hdd with ⟨d4, d6, d9⟩ | ⟨d4, d7, d10⟩
        · exact ax_throwS B.exec B.bytes hl hrx hown hcls hnms (hts _ w1) (hts _ w2) (vk_R.warm hWs w3) hat hgd hU hV hS (hL.1.trans hml.symm) d0 d3 d4 d6 d9 (fun z hz => (htab z hz).elim) r1 r2 r3 r4 hlk hxx (fun q h => hS.2.2 q h) (by omega) (by omega)
        · exact ax_throwW B.exec B.bytes hl hrx hown hcls hnms (hts _ w1) (hts _ w2) (vk_R.warm hWs w3) hat hgd hU hV hS (hL.1.trans hml.symm) d0 d3 d4 d7 d10 (fun z hz => (htab z hz).elim) r1 r2 r3 r4 hlk hxx (fun q h => hS.2.2 q h) (by omega) (by omega))
      (by
        intro virt n f na ci rk hmem pc L as9 r τ hd _ hv hwr hlen hwa h9
        refine hca n f na ci rk hmem p e _ s m _ below meth c _ nL σ.2.2 σ'.2.2 (fun o τ => ((Sum.inr x, σ') : aRes) = (o, τ)) virt hM (Nat.le_refl _) (Nat.le_refl _) ⟨Nat.le_refl _, Nat.le_refl _⟩ pc ?_ ?_ L as9 r τ hd hv hwr hlen hwa h9
        · intro L x τ he
          rw [hexc] at he
          rw [(Prod.mk.inj he).2]
          exact Nat.le_refl _
        · intro L x9 τ he H1 locs1 ls r9 q ce hB1 hS1 hL1 hg1 k1 k2 k3
          rw [hexc] at he
          obtain ⟨e1, e2⟩ := Prod.mk.inj he
          cases Sum.inr.inj e1
          subst e2
          exact vx_out (fun z hz => (htab z hz).elim) hlk k1 k2 k3 (fun t ht _ => ⟨rfl, by rw [ht]; exact hB1, hS1.F ht⟩) (fun q h => hS1.2.2 q h) (Nat.le_refl _) (Nat.le_refl _))
      N 0 (a_lcl nL as) [] σ hN9
    have := key s.heap [] _ hB.1 va_S.rf (a_L.entry (ad := g_ad G) hone hle) hB.2.2.2 (Nat.le_refl _)
    rw [Nat.sub_self] at this
    exact this
