/-! ===== the law's calls ===== -/
theorem a_fn_mono {sl : Option Nat} {sh : List aShp} {P : aPrg} {nL na : Nat} (hf : ∀ n f na ci rk, (n, f, na, ci, rk) ∈ a_cals P → ∀ (as : List Value) (σ : aMem) (o : aOut) (σ' : aMem), f as σ = some (o, σ') → a_wt as ≤ as.length → σ.2.2 ≤ σ'.2.2) : ∀ (as : List Value) (σ : aMem) (o : aOut) (σ' : aMem), a_fn sl sh P nL na as σ = some (o, σ') → a_wt as ≤ as.length → σ.2.2 ≤ σ'.2.2 := by
  intro as σ o σ' h _
  unfold a_fn at h
  split at h
  · obtain ⟨N, hN⟩ := a_run_to h
    exact a_run_mono hf N _ _ _ _ _ hN
  · cases h
/-- the one place where a method calls -/
theorem a_hk_pc {P : aPrg} {c0 : Nat} (h : (a_code P).all (fun e => match e.2.1 with
    | .invokevirtual _ => Nat.beq e.1 c0
    | .invokestatic _ => Nat.beq e.1 c0
    | _ => true) = true) {pc n : Nat} {virt : Bool} (he : ∃ ee, (pc, (if virt then Instr.invokevirtual n else .invokestatic n), ee) ∈ a_code P) : pc = c0 := by
  obtain ⟨ee, hm⟩ := he
  have h1 := List.all_eq_true.mp h _ hm
  cases virt
  · exact Nat.eq_of_beq_eq_true h1
  · exact Nat.eq_of_beq_eq_true h1
theorem a_mthW {l : Launch} {G : aG} {y : MethodName} {cc : ByteArray} {nL na : Nat} {P : aPrg} {fr lo c0 : Nat} {hh : List (Nat × Nat × Nat × Nat)} (hG : a_GF G shp) (hy : plainName y.cls = true) (hret : a_ret P = 0) (hF : a_fok y.cls P) (hcode : (a_code P).all (a_eok cc) = true) (hcons : a_cons P = [])
    (hna : Nat.ble na nL = true) (hth : a_thr P = []) (hpc : (a_code P).all (fun e => match e.2.1 with
    | .invokevirtual _ => Nat.beq e.1 c0
    | .invokestatic _ => Nat.beq e.1 c0
    | _ => true) = true)
    (hhk : ∀ (s : State), (g_s G).WarmedH s.vm → a_all (fun q => a_hk s y.cls cc nL hh q.1 q.2.1 q.2.2 c0) (a_hnd P))
    (hca : a_all (a_CQ l G shp y.cls cc P fr lo) (a_cals P)) :
    a_ConW l G shp y (.codeWith y cc nL (some .int) hh) fr lo (a_fn none shp P nL na) := by
  refine a_methodW none hG shp_len (fun _ h => nomatch h) hy (by rw [hret]; rfl) hF (a_cok_of (by rw [hcons]; trivial)) hcode (Nat.le_of_ble_eq_true hna) hth ?_ (fun n f na ci rk hm => (a_all_mem hca (n, f, na, ci, rk) hm).1) (fun n f na ci rk hm => (a_all_mem hca (n, f, na, ci, rk) hm).2)
  intro s hW x h k hlk pc n virt hm
  rw [a_hk_pc hpc hm]
  exact a_all_mem (hhk s hW) (x, h, k) (a_lk_mem hlk)
/-- the rule of a call in a method that catches nothing and throws nothing -/
def a_CLr (l : Launch) (G : aG) (own : String) (cc : ByteArray) (P : aPrg) (fr lo : Nat) (q : a_cq) : Prop :=
  (∀ (as : List Value) (σ : aMem) (o : aOut) (σ' : aMem), q.2.1 as σ = some (o, σ') → a_wt as ≤ as.length → σ.2.2 ≤ σ'.2.2) ∧
  ∀ (p : Program) (e : Env) (R : Room) (s : State) (m : MethodId) (args : Array Value) (below : List Frame) (meth : Method) (c : Code) (Q : State → Prop) (nL g0 gf : Nat) (Fin : aOut → aMem → Prop) (virt : Bool), a_M p s m c G nL own cc → fr ≤ R.frames → lo ≤ R.locals → gf - g0 ≤ R.cells ∧ 6 * (gf - g0) ≤ R.slots →
    ∀ pc : Nat, (∀ L x σ', ¬ a_exc (a_K p l e R s m args below meth c Q G shp nL g0 gf) Fin P L x σ') →
    ∀ (L : aLs) (as r : List Value) (σ : aMem), decode cc pc = .ok (if virt then .invokevirtual q.1 else .invokestatic q.1, 3) → a_vok shp virt q.2.2.2.1 as = true → a_wt r ≤ 8 → as.length = q.2.2.1 → a_wt as ≤ q.2.2.1 →
    a_crk (a_K p l e R s m args below meth c Q G shp nL g0 gf) False Fin P q.2.2.2.2 (q.2.1 as σ) (pc + 3) L r → a_W p l e R s m args below meth c Q G shp nL g0 pc L (as.reverse ++ r) σ
theorem a_CL_q {l : Launch} {G : aG} {own : String} {cc : ByteArray} {P : aPrg} {fr lo : Nat} {q : a_cq} (h : a_CQ l G shp own cc P fr lo q) : a_CLr l G own cc P fr lo q := by
  refine ⟨h.1, ?_⟩
  intro p e R s m args below meth c Q nL g0 gf Fin virt hM h1 h2 h3 pc hno L as r σ hdg hv hwr hlen hwa hk
  exact h.2 p e R s m args below meth c Q nL g0 gf Fin virt hM h1 h2 h3 pc (fun L x σ' hx => absurd hx (hno L x σ')) (fun L x σ' hx => absurd hx (hno L x σ')) L as r σ hdg hv hwr hlen hwa hk
theorem a_CL_w {l : Launch} {G : aG} {own : String} {cc : ByteArray} {P : aPrg} {fr lo : Nat} {n : Nat} {f : aMF} {na rk : Nat} {y : MethodName} {bytes : ByteArray} {maxL fr' lo' : Nat} {ret : Option FieldType} {hh : List (Nat × Nat × Nat × Nat)} (hG : a_GF G shp)
    (hmo : ∀ (as : List Value) (σ : aMem) (o : aOut) (σ' : aMem), f as σ = some (o, σ') → a_wt as ≤ as.length → σ.2.2 ≤ σ'.2.2) (hCon : a_ConW l G shp y (.codeWith y bytes maxL ret hh) fr' lo' f)
    (hw : ∀ w ∈ [Cond.codeWith y bytes maxL ret hh, .initialized y.cls, .static y, .methodLink own n y], w ∈ lw_g) (hd : y.cls ≠ "java/lang/invoke/MethodHandle" ∧ y.cls ≠ "java/lang/invoke/VarHandle" ∧ (parseMethodDescriptor y.desc).map (fun d => d.parameters.length) = some na) (h1 : Nat.ble (fr' + 1) fr = true) (h2 : Nat.ble (8 + (maxL + 11) + lo') lo = true) : a_CLr l G own cc P fr lo (n, f, na, 2000, rk) := by
  refine ⟨hmo, ?_⟩
  intro p e R s m args below meth c Q nL g0 gf Fin virt hM g1 g2 g3 pc hno L as r σ hdg hv hwr hlen hwa hk
  have r1 := Nat.le_of_ble_eq_true h1
  have r2 := Nat.le_of_ble_eq_true h2
  cases virt with
  | true =>
    exfalso
    unfold a_vok a_rcv at hv
    simp only at hv
    split at hv
    · rename_i k as'
      split at hv
      · rename_i q hq
        have e1 := Nat.eq_of_beq_eq_true hv
        obtain ⟨c9, fk⟩ := q
        obtain ⟨C, T, N, hc, -⟩ := hG.2.2.2.2.2.1 k c9 fk hq
        simp only at e1
        rw [e1] at hc
        cases hc
      · simp at hv
    · cases hv
  | false => exact a_callW hG hM hCon hw hd ⟨by omega, by omega⟩ g3 pc hno L as r σ hdg hwr hlen hwa hk
