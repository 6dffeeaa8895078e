/-! ===== calls of methods with handlers ===== -/
section AC
variable {p : Program} {l : Launch} {e : Env} {R : Room} {s : State} {m : MethodId} {args : Array Value} {below : List Frame} {meth : Method} {c : Code} {Q : State → Prop} {G : aG} {sh : List aShp} {nL g0 : Nat}
theorem a_callW {own : String} {cc : ByteArray} {P : aPrg} {Fin : aOut → aMem → Prop} {gf : Nat} {f : aMF} {y : MethodName} {bytes : ByteArray} {maxL fr lo n na rk : Nat} {ret : Option FieldType} {hh : List (Nat × Nat × Nat × Nat)} (hG : a_GF G sh) (hM : a_M p s m c G nL own cc)
    (hCon : a_ConW l G sh y (.codeWith y bytes maxL ret hh) fr lo f) (hw : ∀ w ∈ [Cond.codeWith y bytes maxL ret hh, .initialized y.cls, .static y, .methodLink own n y], w ∈ lw_g) (hd : y.cls ≠ "java/lang/invoke/MethodHandle" ∧ y.cls ≠ "java/lang/invoke/VarHandle" ∧ (parseMethodDescriptor y.desc).map (fun d => d.parameters.length) = some na) (hR : fr + 1 ≤ R.frames ∧ 8 + (maxL + 11) + lo ≤ R.locals) (hRc : gf - g0 ≤ R.cells ∧ 6 * (gf - g0) ≤ R.slots)
    (pc : Nat) (hno : ∀ L x σ', ¬ a_exc (a_K p l e R s m args below meth c Q G sh nL g0 gf) Fin P L x σ')
    (L : aLs) (as r : List Value) (σ : aMem) (hdg : decode cc pc = .ok (.invokestatic n, 3)) (hwr : a_wt r ≤ 8) (hlen : as.length = na) (hwa : a_wt as ≤ na)
    (h : a_crk (a_K p l e R s m args below meth c Q G sh nL g0 gf) False Fin P rk (f as σ) (pc + 3) L r) : a_W p l e R s m args below meth c Q G sh nL g0 pc L (as.reverse ++ r) σ := by
  obtain ⟨hx, hb, hml, hown, hWs, hbs, hbh⟩ := id hM
  have hts := a_hts (args := args) hG hWs
  have c1 := hw _ (List.mem_cons_self)
  have c2 := hw (.initialized y.cls) (by simp)
  have c3 := hw (.static y) (by simp)
  have c4 := hw (.methodLink own n y) (by simp)
  have hcode := hts _ c1
  have hini := hts _ c2
  have hgood : ∀ w ∈ lw_g, ∀ (a' : Array Value) (U : State), s.WarmedH U.vm → w.before a' U = true := fun w hw a' U hW => word_at hW (good_of_word (List.mem_filter.mp hw).2) (hts w hw)
  have hws : ∀ w ∈ [Cond.codeWith y bytes maxL ret hh], ∀ (a' : Array Value) (U : State), s.WarmedH U.vm → w.before a' U = true := fun w hw => by
    rcases List.mem_singleton.mp hw with rfl
    exact hgood _ c1
  have hnp : ∀ sig, parseMethodDescriptor y.desc = some sig → na = sig.parameters.length := fun sig hs => by
    have := hd.2.2
    rw [hs] at this
    exact (Option.some.inj this).symm
  intro H locs ls hP hS hL hX hg
  have hWh : a_Wh G sh σ H := a_Wh_of hG hbs hbh hP hS hX
  have hPre : ∀ U : State, U.heap = H → s.WarmedH U.vm → a_Pre G sh as σ H.size (as.map (a_cv (g_ad G))).toArray U := fun U hU hW => ⟨rfl, by rw [hU], State.WarmedH.trans hWs hW, by rw [hU]; exact hWh⟩
  have hstk : (as.reverse ++ r).map (a_cv (g_ad G)) = (as.map (a_cv (g_ad G))).reverse ++ r.map (a_cv (g_ad G)) := by simp
  have hwt : ((r.map (a_cv (g_ad G))).map fun v => v.category).sum ≤ 8 := by rw [a_wt_sum]; exact hwr
  rw [hstk]
  cases hfo : f as σ with
  | none => rw [hfo, a_crk_none] at h; exact h.elim
  | some q =>
    obtain ⟨o, σ'⟩ := q
    cases o with
    | inl v =>
      obtain ⟨hmon, hcon⟩ := hCon as σ v σ' hfo (by rw [hlen]; exact hwa)
      have h9 : a_K p l e R s m args below meth c Q G sh nL g0 gf (pc + 3) L (v.toList ++ r) σ' := by
        rw [hfo] at h
        rcases a_crk_ret (K := a_K p l e R s m args below meth c Q G sh nL g0 gf) (Rt := Fin) (N := False) (P := P) (rk := rk) (v := v) (σ' := σ') (pc := pc + 3) (L := L) (r := r) with hh | hh
        · rw [hh] at h; exact h.elim
        · rw [hh] at h; exact h
      have hMet : Met l y [Cond.codeWith y bytes maxL ret hh] (a_rm fr lo (σ'.2.2 - σ.2.2)) (a_Pre G sh as σ H.size) (a_Qr G sh v σ' H.size) (σ'.2.2 - σ.2.2) (6 * (σ'.2.2 - σ.2.2)) (a_A (g_ad G) sh.length H.size) := hcon H.size
      have e1 : σ.2.2 - g0 + (σ'.2.2 - σ.2.2) = σ'.2.2 - g0 := by omega
      have e2 : 6 * (σ.2.2 - g0) + 6 * (σ'.2.2 - σ.2.2) = 6 * (σ'.2.2 - g0) := by omega
      have hf : σ.2.2 - g0 + (σ'.2.2 - σ.2.2) ≤ R.cells ∧ 6 * (σ.2.2 - g0) + 6 * (σ'.2.2 - σ.2.2) ≤ R.slots := by
        rw [e1, e2]
        have := h9.1
        constructor <;> omega
      have key : va_Run p l e R s m args below meth c H locs (σ.2.2 - g0) (6 * (σ.2.2 - g0)) (σ'.2.2 - σ.2.2) (6 * (σ'.2.2 - σ.2.2)) (F0 m pc ls ((as.map (a_cv (g_ad G))).reverse ++ r.map (a_cv (g_ad G)))) (r.map (a_cv (g_ad G))) (a_Qr G sh v σ' H.size (as.map (a_cv (g_ad G))).toArray) (a_A (g_ad G) sh.length H.size) :=
        vx_runSW (As := as.map (a_cv (g_ad G))) (rest := r.map (a_cv (g_ad G))) (n := na) (index := n) (own := own) (bytes := bytes) (maxL := maxL) (ret := ret) (hh := hh) ⟨hx, hb, hml, hown, hts⟩ hMet ⟨⟨rfl, rfl, hR.1, hR.2, hws, List.mem_singleton.mpr rfl⟩, hcode, hini, ⟨hd.1, hd.2.1⟩, hnp, hts _ c4, hts _ c3⟩ ⟨a_Pre_blind _ _ _ _ _, hPre⟩ rfl (by rw [List.length_map]; exact hlen) hL.1 rfl (lv_room hwt) hdg hf
      refine a_goR key hS (fun H1 locs1 hB hS1 => ?_)
      rw [e1, e2]
      have := h9.2 H1 locs1 ls hB.1 hS1 hL hB.2.2.2 (by omega)
      have e3 : (v.toList ++ r).map (a_cv (g_ad G)) = (v.map (a_cv (g_ad G))).toList ++ r.map (a_cv (g_ad G)) := by cases v <;> rfl
      rw [e3] at this
      exact this
    | inr x =>
      rw [hfo, a_crk_thr] at h
      exact absurd h (hno L x σ')
end AC
