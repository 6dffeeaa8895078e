/-! ===== System.arraycopy over int arrays ===== -/
noncomputable def a_acp : aMF := fun as σ => match as with
  | [.ref a, .int sp, .ref b, .int dp, .int n] => match shp[a]?, shp[b]? with
    | some (.inl (0, n0)), some (.inl (0, n1)) => if (0 ≤ sp.toInt ∧ 0 ≤ dp.toInt ∧ 0 ≤ n.toInt) ∧ sp.toNatClampNeg + n.toNatClampNeg ≤ n0 ∧ dp.toNatClampNeg + n.toNatClampNeg ≤ n1 then some (.inl none, (va_up σ.1 b (va_cpy (σ.1 a) (σ.1 b) sp.toNatClampNeg dp.toNatClampNeg n.toNatClampNeg), σ.2)) else none
    | _, _ => none
  | _ => none
theorem a_nneg {x : Int32} (h : 0 ≤ x.toInt) : ¬ x < 0 := by
  intro h2
  have := Int32.lt_iff_toInt_lt.mp h2
  simp at this
  omega
set_option maxRecDepth 20000 in
theorem w_acp : ∀ w ∈ [Cond.native arraycopyName, .static arraycopyName, .initialized "java/lang/System"], w ∈ lw_g := a_ps [485, 484, 116] rfl rfl
theorem q_acp {l : Launch} {G : aG} {own : String} {cc : ByteArray} {P : aPrg} {fr lo n : Nat} (hZ : a_Z l G) (i : Nat) (hw : lw_tbl[i]? = some (Cond.methodLink own n arraycopyName)) (h1 : Nat.ble 2 fr = true) (h2 : Nat.ble 60 lo = true) : a_CQ l G shp own cc P fr lo (n, a_acp, 5, 2000, 1) := by
  refine ⟨fun as σ o σ' h _ => ?_, ?_⟩
  · unfold a_acp at h
    simp only at h
    split at h
    · split at h
      · split at h
        · cases h; exact Nat.le_refl _
        · cases h
      · cases h
    · cases h
  · intro p e R s m args below meth c Q nL g0 gf Fin virt hM hR1 hR2 hRc pc hEg hEx L as r σ hdg hv hwr hlen hwa h
    obtain ⟨hx, hb, hml, hown, hWs, hbs, hbh⟩ := id hM
    have hG := hZ.2.1
    have hts := a_hts (args := args) hG hWs
    have hK : va_K (g_D G) vwCl (a_tys (g_ca G)) s := va_K.moved hWs.alike hG.2.2.1
    cases virt with
    | true =>
      exfalso
      unfold a_vok a_rcv at hv
      simp only at hv
      split at hv
      · rename_i k as'
        split at hv
        · rename_i q hq
          have e1 := Nat.eq_of_beq_eq_true hv
          obtain ⟨c9, fk⟩ := q
          obtain ⟨C, T, N, hc, -⟩ := hG.2.2.2.2.2.1 k c9 fk hq
          simp only at e1
          rw [e1] at hc
          cases hc
        · simp at hv
      · cases hv
    | false =>
      simp only at h hdg
      unfold a_acp at h
      split at h
      · rename_i a sp b dp n9
        split at h
        · rename_i n0 n1 ha hb9
          split at h
          · rename_i hc
            have h9 : a_K p l e R s m args below meth c Q G shp nL g0 gf (pc + 3) L r (va_up σ.1 b (va_cpy (σ.1 a) (σ.1 b) sp.toNatClampNeg dp.toNatClampNeg n9.toNatClampNeg), σ.2) := h
            intro H locs ls hP hS hL hX hg
            have hwt : ((r.map (a_cv (g_ad G))).map fun v => v.category).sum ≤ 8 := by rw [a_wt_sum]; exact hwr
            have r1 := Nat.le_of_ble_eq_true h1
            have r2 := Nat.le_of_ble_eq_true h2
            have r3 : nativeFrameWords "java/lang/System" "arraycopy" 5 + 11 ≤ 40 := by decide +kernel
            refine va_copyi (rest := r.map (a_cv (g_ad G))) hx hb (hml.trans hL.1.symm) hown (hts _ (List.mem_filter.mpr ⟨List.mem_of_getElem? hw, rfl⟩)) (hts _ (w_acp _ (by simp))) (hts _ (w_acp _ (by simp))) (hts _ (w_acp _ (by simp))) hK hP (hG.D σ s.heap.size) hS a b 0 0 ((a_wl_at ha).trans (by rw [a_ce_i (by decide)])) ((a_wl_at hb9).trans (by rw [a_ce_i (by decide)])) rfl rfl rfl (a_nneg hc.1.1) (a_nneg hc.1.2.1) (a_nneg hc.1.2.2) hc.2.1 hc.2.2 (fun _ _ => rfl) (by omega) (by omega) hdg (fun H1 locs1 hP1 _ hS1 => ?_)
            have hne : (900 : Nat) ≠ b := fun e => absurd (List.getElem?_eq_some_iff.mp hb9).1 (Nat.not_lt.mpr (e ▸ shp_len))
            refine h9.2 H1 locs1 ls ?_ hS1 hL (fun j hj => ?_) hg
            · have e9 := a_wl_set (ad := g_ad G) (ca := g_ca G) (σ := σ) (τ := (va_up σ.1 b (va_cpy (σ.1 a) (σ.1 b) sp.toNatClampNeg dp.toNatClampNeg n9.toNatClampNeg), σ.2)) (e := .inl (g_ca G 0, n1, .inl (va_cpy (σ.1 a) (σ.1 b) sp.toNatClampNeg dp.toNatClampNeg n9.toNatClampNeg))) hb9 (by rw [a_ce_i (by decide)]; simp [va_up]) (fun i hi => ⟨by simp [va_up, hi], rfl⟩)
              rw [e9] at hP1
              exact hP1
            · show va_up σ.1 b _ 900 j = _
              unfold va_up
              rw [if_neg hne]
              exact hX j hj
          · exact h.elim
        · exact h.elim
      · exact h.elim
/-! ===== String.length, String.charAt of the constants ===== -/
def z_len (k : Nat) : Nat := match zs[k - 1000]? with
  | some q => q.2.2.length
  | none => 0
def z_chr (k j : Nat) : Int32 := match zs[k - 1000]? with
  | some q => Int32.ofNat ((q.2.2.toList.map Char.toNat).getD j 0)
  | none => 0
noncomputable def a_slen : aMF := fun as σ => match as with
  | [.ref k] => match Nat.ble 1000 k && Nat.blt k (1000 + zs.length) with
    | true => some (.inl (some (.int (Int32.ofNat (z_len k)))), σ)
    | false => none
  | _ => none
noncomputable def a_schr : aMF := fun as σ => match as with
  | [.ref k, .int j] => match Nat.ble 1000 k && (Nat.blt k (1000 + zs.length) && a_ok j (z_len k)) with
    | true => some (.inl (some (.int (z_chr k j.toNatClampNeg))), σ)
    | false => none
  | _ => none
