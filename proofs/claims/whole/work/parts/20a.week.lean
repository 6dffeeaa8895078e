/-! ===== the week: what both do ===== -/
def eR (e : Nat) : Nat := e / 144
def eL (e : Nat) : Nat := e / 12 % 12
def eT (e : Nat) : Nat := e % 12
theorem e_all (e : Nat) : e = 144 * eR e + 12 * eL e + eT e := by
  unfold eR eL eT
  omega
theorem eL_lt (e : Nat) : eL e < 12 := Nat.mod_lt _ (by decide)
theorem eT_lt (e : Nat) : eT e < 12 := Nat.mod_lt _ (by decide)
theorem eR_lt {e nr : Nat} (h : e < 144 * nr) : eR e < nr := by
  unfold eR
  omega
/-- whether an exchange can be -/
def canE (nb : Nat) (pg o : Nat → Int32) (e : Nat) : Bool := decide (eL e < nb) && decide (eT e < nb) && decide (tro o pg (eR e) (eL e) (eT e) = 0)
def apE (o : Nat → Int32) (e : Nat) : Nat → Int32 := otr o (eR e) 5 (eL e) (eT e)
/-- whether a reader has made one of the first d -/
def dnB (path : Nat → Nat) (d r : Nat) : Bool := ex d fun k => decide (eR (path k) = r)
def upN (f : Nat → Nat) (d e : Nat) : Nat → Nat := fun i => if i = d then e else f i
def svd (nr : Nat) (wn o : Nat → Int32) : Nat := cntP (fun r => srv o wn r) nr
/-- tries, the most that are served, the row -/
def wgh (nr : Nat) (wn : Nat → Int32) (d : Nat) (path : Nat → Nat) (o : Nat → Int32) (q : Nat × Nat × Nat × (Nat → Nat)) : Nat × Nat × Nat × (Nat → Nat) := if q.2.1 < svd nr wn o then (q.1, svd nr wn o, d, path) else q
def wch (nr : Nat) (wn : Nat → Int32) (rec : Nat → (Nat → Nat) → (Nat → Int32) → Option (Nat × Nat × Nat × (Nat → Nat)) → Option (Nat × Nat × Nat × (Nat → Nat))) (d : Nat) (path : Nat → Nat) (o : Nat → Int32) (e : Nat) : Option (Nat × Nat × Nat × (Nat → Nat)) → Option (Nat × Nat × Nat × (Nat → Nat))
  | none => none
  | some q => if q.1 = 20000 then none else rec (d + 1) (upN path d e) (apE o e) (some (wgh nr wn (d + 1) (upN path d e) (apE o e) (q.1 + 1, q.2)))
def wlp (nb nr : Nat) (pg wn : Nat → Int32) (rec : Nat → (Nat → Nat) → (Nat → Int32) → Option (Nat × Nat × Nat × (Nat → Nat)) → Option (Nat × Nat × Nat × (Nat → Nat))) (d : Nat) (path : Nat → Nat) (o : Nat → Int32) : Nat → Nat → Option (Nat × Nat × Nat × (Nat → Nat)) → Option (Nat × Nat × Nat × (Nat → Nat))
  | 0, _, σ => σ
  | m + 1, e, σ => wlp nb nr pg wn rec d path o m (e + 1) (if (!dnB path d (eR e) && canE nb pg o e) = true then wch nr wn rec d path o e σ else σ)
def wnd (nb nr : Nat) (pg wn : Nat → Int32) : Nat → Nat → (Nat → Nat) → (Nat → Int32) → Option (Nat × Nat × Nat × (Nat → Nat)) → Option (Nat × Nat × Nat × (Nat → Nat))
  | 0, _, _, _, σ => σ
  | r + 1, d, path, o, σ => wlp nb nr pg wn (wnd nb nr pg wn r) d path o (144 * nr) 0 σ
theorem wlp_app {nb nr : Nat} {pg wn : Nat → Int32} {rec : Nat → (Nat → Nat) → (Nat → Int32) → Option (Nat × Nat × Nat × (Nat → Nat)) → Option (Nat × Nat × Nat × (Nat → Nat))} {d : Nat} {path : Nat → Nat} {o : Nat → Int32} : ∀ (m n e : Nat) (σ : Option (Nat × Nat × Nat × (Nat → Nat))), wlp nb nr pg wn rec d path o (m + n) e σ = wlp nb nr pg wn rec d path o n (e + m) (wlp nb nr pg wn rec d path o m e σ)
  | 0, n, e, σ => by simp [wlp]
  | m + 1, n, e, σ => by
    rw [show m + 1 + n = (m + n) + 1 by omega]
    show wlp nb nr pg wn rec d path o (m + n) (e + 1) _ = _
    rw [wlp_app m n (e + 1), show e + 1 + m = e + (m + 1) by omega]
    rfl
theorem wlp_no {nb nr : Nat} {pg wn : Nat → Int32} {rec : Nat → (Nat → Nat) → (Nat → Int32) → Option (Nat × Nat × Nat × (Nat → Nat)) → Option (Nat × Nat × Nat × (Nat → Nat))} {d : Nat} {path : Nat → Nat} {o : Nat → Int32} : ∀ (m e : Nat) (σ : Option (Nat × Nat × Nat × (Nat → Nat))), (∀ j, e ≤ j → j < e + m → (!dnB path d (eR j) && canE nb pg o j) = false) → wlp nb nr pg wn rec d path o m e σ = σ
  | 0, _, _, _ => rfl
  | m + 1, e, σ, h => by
    unfold wlp
    rw [h e (by omega) (by omega)]
    simp only [Bool.false_eq_true, if_false]
    exact wlp_no m (e + 1) σ (fun j h1 h2 => h j (by omega) (by omega))
theorem wlp_none {nb nr : Nat} {pg wn : Nat → Int32} {rec : Nat → (Nat → Nat) → (Nat → Int32) → Option (Nat × Nat × Nat × (Nat → Nat)) → Option (Nat × Nat × Nat × (Nat → Nat))} {d : Nat} {path : Nat → Nat} {o : Nat → Int32} : ∀ (m e : Nat), wlp nb nr pg wn rec d path o m e none = none
  | 0, _ => rfl
  | m + 1, e => by
    unfold wlp
    have : (if (!dnB path d (eR e) && canE nb pg o e) = true then wch nr wn rec d path o e none else none) = none := by
      split <;> rfl
    rw [this]
    exact wlp_none m (e + 1)
theorem svd_le (nr : Nat) (wn o : Nat → Int32) : svd nr wn o ≤ nr := cntP_le _ _
theorem dnB_up {path : Nat → Nat} {d e r : Nat} : dnB (upN path d e) (d + 1) r = (dnB path d r || decide (eR e = r)) := by
  unfold dnB
  show (ex d _ || _) = _
  have h1 : (ex d fun k => decide (eR (upN path d e k) = r)) = ex d fun k => decide (eR (path k) = r) := by
    apply Bool.eq_iff_iff.mpr
    rw [ex_iff, ex_iff]
    constructor
    · rintro ⟨k, hk, h⟩
      refine ⟨k, hk, ?_⟩
      unfold upN at h
      rw [if_neg (by omega)] at h
      exact h
    · rintro ⟨k, hk, h⟩
      refine ⟨k, hk, ?_⟩
      unfold upN
      rw [if_neg (by omega)]
      exact h
  rw [h1]
  unfold upN
  simp
theorem canE_ok {nb nr : Nat} {pg o : Nat → Int32} {e : Nat} (h : canE nb pg o e = true) : eL e < nb ∧ eT e < nb ∧ eL e ≠ eT e ∧ o (eL e) = nI (eR e) ∧ o (eT e) = nN ∧ tro o pg (eR e) (eL e) (eT e) = 0 := by
  unfold canE at h
  simp only [Bool.and_eq_true, decide_eq_true_eq] at h
  obtain ⟨⟨h1, h2⟩, h3⟩ := h
  have h4 := tro_0 h3
  refine ⟨h1, h2, ?_, h4.1, h4.2, h3⟩
  intro c
  unfold tro at h3
  rw [if_pos h4.1, if_pos h4.2, c, if_neg (fun q => Int32.lt_irrefl q)] at h3
  omega
theorem own_ap {nb nr e : Nat} {pg o : Nat → Int32} (hnr : nr ≤ 5) (he : eR e < nr) (hc : canE nb pg o e = true) (ho : ∀ b, b < nb → o b = nN ∨ ∃ r, r < nr ∧ o b = nI r) : (∀ b, b < nb → apE o e b = nN ∨ ∃ r, r < nr ∧ apE o e b = nI r) ∧ ∀ k, k < 6 → xtr (oset nb o) (eR e) 5 (eL e) (eT e) k = oset nb (apE o e) k := by
  obtain ⟨h1, h2, h3, h4, h5, -⟩ := canE_ok (nr := nr) hc
  refine ⟨otr_ok ho hnr he (.inl rfl), ?_⟩
  exact oset_tr (by omega) (by omega) (by omega) h1 h2 h3 (by rw [plc_r (by omega)]; exact h4) (by rw [plc_5]; exact h5)
theorem xtr_xtr (x : Nat → Nat) (r p l t k : Nat) : xtr (xtr x r p l t) r p l t k = x k := by
  unfold xtr
  split
  · rw [Nat.xor_assoc, Nat.xor_self, Nat.xor_zero]
  · rfl
theorem sOk_cg {sets : Nat → Int32} {x y : Nat → Nat} (h : sOk sets x) (hxy : ∀ k, k < 6 → x k = y k) : sOk sets y := by
  intro k hk
  rw [← hxy k hk]
  exact h k hk
/-! how many are served: of both -/
theorem sX9_served {s : aMem} {nb nr : Nat} (hnb : nb ≤ 12) (hnr : nr ≤ 5) (h2 : s.1 43 2 = nI nr) (hw : wOk nb nr (s.1 47)) : fX9_served [.ref 43] s = some (.inl (some (.int (nI (svd nr (s.1 47) (s.1 45))))), s) := by
  have key : ∀ m r, r + m = nr → a_run none shp pX9_served 4 [some (.ref 43), some (.int (nI (cntP (fun r => srv (s.1 45) (s.1 47) r) r))), some (.int (nI r))] [] s = some (.inl (some (.int (nI (svd nr (s.1 47) (s.1 45))))), s) := by
    intro m
    induction m with
    | zero =>
      intro r hr
      rw [tX9_served_4, h2]
      simp (disch := omega) only [i_leT, i_leF, i_ltT, i_ltF, i_eqT, i_eqF, i_okT, i_n1, i_n2, i_n3, i_n4, i_n5, i_n6, i_n7, i_n8, k_cl, if_true, if_false]
      rw [show r = nr by omega]
      rfl
    | succ m ih =>
      intro r hr
      rw [tX9_served_4, h2]
      try simp only [k_lit, k_nN, k_ofN, nI_add]
      simp (disch := omega) only [i_leT, i_leF, i_ltT, i_ltF, i_eqT, i_eqF, i_okT, i_n1, i_n2, i_n3, i_n4, i_n5, i_n6, i_n7, i_n8, k_cl, if_true, if_false]
      rw [sX9_isServed hnb hnr hw (by omega), b_bi]
      have ih2 := ih (r + 1) (by omega)
      rw [show cntP (fun r => srv (s.1 45) (s.1 47) r) (r + 1) = cntP (fun r => srv (s.1 45) (s.1 47) r) r + (srv (s.1 45) (s.1 47) r).toNat from rfl] at ih2
      cases e : srv (s.1 45) (s.1 47) r
      · rw [e] at ih2
        simp only [Bool.toNat_false] at ih2 ⊢
        simp (disch := omega) only [i_leT, i_leF, i_ltT, i_ltF, i_eqT, i_eqF, i_okT, i_n1, i_n2, i_n3, i_n4, i_n5, i_n6, i_n7, i_n8, k_cl, if_true, if_false]
        exact ih2
      · rw [e] at ih2
        simp only [Bool.toNat_true] at ih2 ⊢
        simp (disch := omega) only [i_leT, i_leF, i_ltT, i_ltF, i_eqT, i_eqF, i_okT, i_n1, i_n2, i_n3, i_n4, i_n5, i_n6, i_n7, i_n8, k_cl, if_true, if_false]
        exact ih2
  rw [tX9_served]
  try simp only [k_lit, k_nN, k_ofN]
  exact key nr 0 (by omega)
theorem sX9_isDoneBy {s : aMem} {path : Nat → Nat} {d r : Nat} (hd : d ≤ 5) (hp : ∀ k, k < d → s.1 66 k = nI (path k) ∧ path k < 720) (hr : r < 1000) : fX9_isDoneBy [.ref 43, .int (nI r), .int (nI d)] s = some (.inl (some (.int (nI (dnB path d r).toNat))), s) := by
  have key : ∀ m k, k + m = d → (∀ j, j < k → decide (eR (path j) = r) = false) → a_run none shp pX9_isDoneBy 2 [some (.ref 43), some (.int (nI r)), some (.int (nI d)), some (.int (nI k))] [] s = some (.inl (some (.int (nI (dnB path d r).toNat))), s) := by
    intro m
    induction m with
    | zero =>
      intro k hk hj
      rw [tX9_isDoneBy_2]
      try simp only [k_lit, k_nN, k_ofN]
      simp (disch := omega) only [i_leT, i_leF, i_ltT, i_ltF, i_eqT, i_eqF, i_okT, i_n1, i_n2, i_n3, i_n4, i_n5, i_n6, i_n7, i_n8, k_cl, if_true, if_false]
      have : dnB path d r = false := by
        apply Bool.eq_false_iff.mpr
        unfold dnB
        rw [Ne, ex_iff]
        rintro ⟨j, hj2, h⟩
        rw [hj j (by omega)] at h
        cases h
      rw [this]
      rfl
    | succ m ih =>
      intro k hk hj
      obtain ⟨p1, p2⟩ := hp k (by omega)
      rw [tX9_isDoneBy_2]
      try simp only [k_lit, k_nN, k_ofN, nI_add]
      simp (disch := omega) only [i_leT, i_leF, i_ltT, i_ltF, i_eqT, i_eqF, i_okT, i_n1, i_n2, i_n3, i_n4, i_n5, i_n6, i_n7, i_n8, k_cl, if_true, if_false]
      rw [p1, pk_div (by omega) (by omega) (by omega)]
      by_cases e : eR (path k) = r
      · rw [show path k / 144 = r from e]
        simp (disch := omega) only [i_leT, i_leF, i_ltT, i_ltF, i_eqT, i_eqF, i_okT, i_n1, i_n2, i_n3, i_n4, i_n5, i_n6, i_n7, i_n8, k_cl, if_true, if_false]
        have : dnB path d r = true := by
          unfold dnB
          rw [ex_iff]
          exact ⟨k, by omega, by simp [e]⟩
        rw [this]
        rfl
      · have e2 : path k / 144 ≠ r := e
        simp (disch := omega) only [i_leT, i_leF, i_ltT, i_ltF, i_eqT, i_eqF, i_okT, i_n1, i_n2, i_n3, i_n4, i_n5, i_n6, i_n7, i_n8, k_cl, if_true, if_false]
        refine ih (k + 1) (by omega) (fun j hj2 => ?_)
        by_cases c : j = k
        · rw [c]; simp [e]
        · exact hj j (by omega)
  rw [tX9_isDoneBy]
  try simp only [k_lit, k_nN, k_ofN]
  exact key d 0 (by omega) (fun j h => absurd h (Nat.not_lt_zero j))
