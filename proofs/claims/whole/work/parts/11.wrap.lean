/-! ===== what the printed programs use ===== -/
def a_all {α : Type} (φ : α → Prop) : List α → Prop
  | [] => True
  | q :: t => φ q ∧ a_all φ t
theorem a_all_mem {α : Type} {φ : α → Prop} : ∀ {l : List α}, a_all φ l → ∀ q ∈ l, φ q
  | [], _, _, h => by cases h
  | _ :: _, h, q, hq => (List.mem_cons.mp hq).elim (fun e => e ▸ h.1) (fun h2 => a_all_mem h.2 q h2)
theorem a_ps {ws : List Cond} (ps : List Nat) (h : ws = ps.filterMap (fun i => lw_tbl[i]?)) (hg : ws.all goodWord = true) : ∀ w ∈ ws, w ∈ lw_g := by
  intro w hw
  refine List.mem_filter.mpr ⟨?_, List.all_eq_true.mp hg w hw⟩
  rw [h] at hw
  obtain ⟨i, -, hi⟩ := List.mem_filterMap.mp hw
  exact List.mem_of_getElem? hi
theorem a_p1 {w : Cond} (i : Nat) (h : lw_tbl[i]? = some w) (hg : goodWord w = true) : w ∈ lw_g := List.mem_filter.mpr ⟨List.mem_of_getElem? h, hg⟩
def a_shb (x : aShp) : Bool := match x with
  | .inl _ => true
  | .inr q => match vwCl[q.1]? with
    | some r => Nat.beq q.2.length r.2.2 && (List.range q.2.length).all (fun j => match q.2[j]? with
      | some (.inl t) => Nat.ble t 2 && (decide (parseFieldDescriptor (r.2.1 j).2.2.1 = some (a_ty t)) && !(r.2.1 j).2.2.2)
      | _ => true)
    | none => false
theorem a_shok_of {sh : List aShp} (h : sh.all a_shb = true) : a_shok sh := by
  intro k ci fk hk
  have h1 := List.all_eq_true.mp h _ (List.mem_of_getElem? hk)
  unfold a_shb at h1
  simp only at h1
  split at h1
  · rename_i r hr
    obtain ⟨C, T, N⟩ := r
    simp only [Bool.and_eq_true, List.all_eq_true, List.mem_range] at h1
    refine ⟨C, T, N, hr, Nat.eq_of_beq_eq_true h1.1, fun j t hj => ?_⟩
    have h2 := h1.2 j (List.getElem?_eq_some_iff.mp hj).1
    rw [hj] at h2
    simp only [Bool.and_eq_true, decide_eq_true_eq, Bool.not_eq_true'] at h2
    exact ⟨Nat.le_of_ble_eq_true h2.1, h2.2.1, h2.2.2⟩
  · cases h1
def a_fw (own : String) (e : Nat × Nat × Nat) : Cond := match vwCl[e.2.1]? with
  | some q => .fieldLink own e.1 (q.2.1 e.2.2).1 (q.2.1 e.2.2).2.1 (q.2.1 e.2.2).2.2.1
  | none => .tt
def a_fb (e : Nat × Nat × Nat) : Bool := match vwCl[e.2.1]? with
  | some q => Nat.blt e.2.2 q.2.2
  | none => false
theorem a_fok_of {own : String} {P : aPrg} (ps : List Nat) (h : (a_flds P).map (a_fw own) = ps.filterMap (fun i => lw_tbl[i]?)) (hb : (a_flds P).all a_fb = true) : a_fok own P := by
  intro n ci j hm
  have h1 := List.all_eq_true.mp hb _ hm
  unfold a_fb at h1
  simp only at h1
  split at h1
  · rename_i q hq
    obtain ⟨C, T, N⟩ := q
    have h2 : a_fw own (n, ci, j) ∈ (a_flds P).map (a_fw own) := List.mem_map_of_mem hm
    rw [h] at h2
    obtain ⟨i, -, hi⟩ := List.mem_filterMap.mp h2
    have h3 := List.mem_of_getElem? hi
    unfold a_fw at h3
    simp only at h3
    rw [hq] at h3
    exact ⟨C, T, N, hq, Nat.blt_eq.mp h1, List.mem_filter.mpr ⟨h3, rfl⟩⟩
  · cases h1
theorem a_CF_v {own : String} {n : Nat} {y : MethodName} {bytes : ByteArray} {maxL : Nat} {ret : Option FieldType} {na ci : Nat} (T : u_T) (N : Nat) (hw : ∀ w ∈ [Cond.code y bytes maxL ret, .initialized y.cls, .instanceMethod y, .selects y.cls y y], w ∈ lw_g) (hl : Cond.methodLink own n y ∈ lw_g) (hd : y.cls ≠ "java/lang/invoke/MethodHandle" ∧ y.cls ≠ "java/lang/invoke/VarHandle" ∧ (parseMethodDescriptor y.desc).map (fun d => d.parameters.length) = some (na - 1)) (hn : 1 ≤ na ∧ ci < 1000) (hc : vwCl[ci]? = some (y.cls, T, N)) : a_CF own n y bytes maxL ret na ci true :=
  ⟨hw _ (by simp), hw _ (by simp), ⟨hd.1, hd.2.1⟩, hd.2.2, fun _ => ⟨hn.1, hn.2, hw _ (by simp), hw _ (by simp), T, N, hc⟩, (fun h => nomatch h), Or.inl hl⟩
theorem a_CF_s {own : String} {n : Nat} {y : MethodName} {bytes : ByteArray} {maxL : Nat} {ret : Option FieldType} {na : Nat} (hw : ∀ w ∈ [Cond.code y bytes maxL ret, .initialized y.cls, .static y], w ∈ lw_g) (hl : Cond.methodLink own n y ∈ lw_g) (hd : y.cls ≠ "java/lang/invoke/MethodHandle" ∧ y.cls ≠ "java/lang/invoke/VarHandle" ∧ (parseMethodDescriptor y.desc).map (fun d => d.parameters.length) = some na) : a_CF own n y bytes maxL ret na 2000 false :=
  ⟨hw _ (by simp), hw _ (by simp), ⟨hd.1, hd.2.1⟩, hd.2.2, (fun h => nomatch h), fun _ => hw _ (by simp), Or.inl hl⟩
theorem a_CF_sn {own : String} {n : Nat} {y : MethodName} {bytes : ByteArray} {maxL : Nat} {ret : Option FieldType} {na : Nat} (hw : ∀ w ∈ [Cond.code y bytes maxL ret, .initialized y.cls, .static y], w ∈ lw_g) (host : String) (i : Nat) (hl : lw_tbl[i]? = some (Cond.methodLinkNest own n y host)) (hd : y.cls ≠ "java/lang/invoke/MethodHandle" ∧ y.cls ≠ "java/lang/invoke/VarHandle" ∧ (parseMethodDescriptor y.desc).map (fun d => d.parameters.length) = some na) : a_CF own n y bytes maxL ret na 2000 false :=
  ⟨hw _ (by simp), hw _ (by simp), ⟨hd.1, hd.2.1⟩, hd.2.2, (fun h => nomatch h), fun _ => hw _ (by simp), Or.inr ⟨host, List.mem_of_getElem? hl⟩⟩
abbrev a_cq : Type := Nat × aMF × Nat × Nat × Nat
/-- what is asked of a call's place -/
def a_CQ (l : Launch) (G : aG) (sh : List aShp) (own : String) (cc : ByteArray) (P : aPrg) (fr lo : Nat) (q : a_cq) : Prop :=
  (∀ (as : List Value) (σ : aMem) (o : aOut) (σ' : aMem), q.2.1 as σ = some (o, σ') → a_wt as ≤ as.length → σ.2.2 ≤ σ'.2.2) ∧ a_CR l G sh own cc P fr lo q.1 q.2.1 q.2.2.1 q.2.2.2.1 q.2.2.2.2
theorem a_CQ_v {l : Launch} {G : aG} {sh : List aShp} {own : String} {cc : ByteArray} {P : aPrg} {fr lo : Nat} {n : Nat} {f : aMF} {na ci rk : Nat} {y : MethodName} {bytes : ByteArray} {maxL fr' lo' : Nat} {ret : Option FieldType} (hG : a_GF G sh) (hCon : a_Con l G sh y (.code y bytes maxL ret) fr' lo' f) (hl : Cond.methodLink own n y ∈ lw_g) (hCF : a_CF own n y bytes maxL ret na ci true) (h1 : Nat.ble (fr' + 1) fr = true) (h2 : Nat.ble (8 + (maxL + 11) + lo') lo = true) : a_CQ l G sh own cc P fr lo (n, f, na, ci, rk) :=
  ⟨fun as σ o σ' h hw => (hCon as σ o σ' h hw).1, a_CR_java hG hCon hCF ((fun h => nomatch h)) (Nat.le_of_ble_eq_true h1) (Nat.le_of_ble_eq_true h2) (Or.inl hl)⟩
theorem a_CQ_s {l : Launch} {G : aG} {sh : List aShp} {own : String} {cc : ByteArray} {P : aPrg} {fr lo : Nat} {n : Nat} {f : aMF} {na rk : Nat} {y : MethodName} {bytes : ByteArray} {maxL fr' lo' : Nat} {ret : Option FieldType} (hG : a_GF G sh) (hCon : a_Con l G sh y (.code y bytes maxL ret) fr' lo' f) (hl : Cond.methodLink own n y ∈ lw_g) (hCF : a_CF own n y bytes maxL ret na 2000 false) (h1 : Nat.ble (fr' + 1) fr = true) (h2 : Nat.ble (8 + (maxL + 11) + lo') lo = true) : a_CQ l G sh own cc P fr lo (n, f, na, 2000, rk) :=
  ⟨fun as σ o σ' h hw => (hCon as σ o σ' h hw).1, a_CR_java hG hCon hCF (fun _ => rfl) (Nat.le_of_ble_eq_true h1) (Nat.le_of_ble_eq_true h2) (Or.inl hl)⟩
theorem a_CQ_sn {l : Launch} {G : aG} {sh : List aShp} {own : String} {cc : ByteArray} {P : aPrg} {fr lo : Nat} {n : Nat} {f : aMF} {na rk : Nat} {y : MethodName} {bytes : ByteArray} {maxL fr' lo' : Nat} {ret : Option FieldType} (hG : a_GF G sh) (hCon : a_Con l G sh y (.code y bytes maxL ret) fr' lo' f) (hCF : a_CF own n y bytes maxL ret na 2000 false) (hnt : ∀ (as : List Value) (σ : aMem) (x : Nat) (σ' : aMem), f as σ ≠ some (.inr x, σ')) (h1 : Nat.ble (fr' + 1) fr = true) (h2 : Nat.ble (8 + (maxL + 11) + lo') lo = true) : a_CQ l G sh own cc P fr lo (n, f, na, 2000, rk) :=
  ⟨fun as σ o σ' h hw => (hCon as σ o σ' h hw).1, a_CR_java hG hCon hCF (fun _ => rfl) (Nat.le_of_ble_eq_true h1) (Nat.le_of_ble_eq_true h2) (Or.inr hnt)⟩
/-- a function that calls nothing and throws nothing -/
theorem a_fn_nt {sl : Option Nat} {sh : List aShp} {P : aPrg} {nL na : Nat} (h1 : a_thr P = []) (h2 : a_cals P = []) : ∀ (as : List Value) (σ : aMem) (x : Nat) (σ' : aMem), a_fn sl sh P nL na as σ ≠ some (.inr x, σ') := by
  intro as σ x σ' h
  unfold a_fn at h
  split at h
  · obtain ⟨N, hN⟩ := a_run_to h
    obtain ⟨v, hv⟩ := a_run_nt h1 (fun n f na ci rk hm => by rw [h2] at hm; cases hm) N _ _ _ _ _ hN
    cases hv
  · cases h
/-- a method's contract -/
theorem a_mth {l : Launch} {G : aG} {sh : List aShp} {y : MethodName} {cc : ByteArray} {nL na : Nat} {ret : Option FieldType} {P : aPrg} {fr lo : Nat} (sl : Option Nat) (hl : l.stackTraces = false) (hG : a_GF G sh) (hN : sh.length ≤ 900) (hsl : ∀ n, sl = some n → n = g_n G) (hXG : a_XG G) (hy : plainName y.cls = true) (hret : ret = a_rty (a_ret P)) (hF : a_fok y.cls P) (hC : a_cok G y.cls P) (hcode : (a_code P).all (a_eok cc) = true) (hnh : a_hnd P = []) (hna : Nat.ble na nL = true)
    (hth : a_all (fun q => a_tok G y.cls cc fr lo q.1 q.2) (a_thr P)) (hca : a_all (a_CQ l G sh y.cls cc P fr lo) (a_cals P)) :
    a_Con l G sh y (.code y cc nL ret) fr lo (a_fn sl sh P nL na) := by
  refine a_method sl hl hG hN hsl hXG (plainFor_of_name hy) (Or.inr hy) hret hF hC hcode hnh (Nat.le_of_ble_eq_true hna) (fun pc x hm => a_all_mem hth (pc, x) hm) (fun n f na ci rk hm => (a_all_mem hca (n, f, na, ci, rk) hm).1) (fun n f na ci rk hm => (a_all_mem hca (n, f, na, ci, rk) hm).2) (Or.inl hy)
/-- .. of the JDK's: nothing called, nothing thrown -/
theorem a_mtj {l : Launch} {G : aG} {sh : List aShp} {y : MethodName} {cc : ByteArray} {nL na : Nat} {ret : Option FieldType} {P : aPrg} {fr lo : Nat} (sl : Option Nat) (hl : l.stackTraces = false) (hG : a_GF G sh) (hN : sh.length ≤ 900) (hsl : ∀ n, sl = some n → n = g_n G) (hXG : a_XG G) (hy : plainFor y = true) (hret : ret = a_rty (a_ret P)) (hF : a_fok y.cls P) (hC : a_cok G y.cls P) (hcode : (a_code P).all (a_eok cc) = true) (hnh : a_hnd P = []) (hna : Nat.ble na nL = true)
    (hth : a_thr P = []) (hca : a_cals P = []) :
    a_Con l G sh y (.code y cc nL ret) fr lo (a_fn sl sh P nL na) := by
  refine a_method sl hl hG hN hsl hXG hy (Or.inl hth) hret hF hC hcode hnh (Nat.le_of_ble_eq_true hna) (fun pc x hm => by rw [hth] at hm; cases hm) (fun n f na ci rk hm => by rw [hca] at hm; cases hm) (fun n f na ci rk hm => by rw [hca] at hm; cases hm) (Or.inr (fun n f na ci rk hm => by rw [hca] at hm; cases hm))
