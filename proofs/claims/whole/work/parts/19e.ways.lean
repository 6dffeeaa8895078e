/-! ===== the model's walk through the orders ===== -/
def thv (bo : Bool) (bh : Nat) (sh : Nat → Bool) (d S : Nat) (t : Bool) : Bool := if bo = true then (if d = bh then sh S else t) else true
def cw (cf : Nat → Nat → Bool) (sh : Nat → Bool) (ne T : Nat) (bo : Bool) (bh : Nat) : Nat → Nat → Nat → Bool → Nat
  | 0, d, S, t => (thv bo bh sh d S t).toNat
  | r + 1, d, S, t => sm (fun k => if (T.testBit k && !S.testBit k && cf S k) = true then cw cf sh ne T bo bh r (d + 1) (S ||| 2 ^ k) (thv bo bh sh d S t) else 0) ne
def fin (one : Nat) (st : Nat × Nat) (c : Nat) : Nat × Nat := if one = 0 then (st.1 + c, st.2) else if st.2 = 0 ∧ 0 < c then (st.1 + 1, 1) else st
theorem fin_0 (one : Nat) (st : Nat × Nat) : fin one st 0 = st := by
  unfold fin
  split
  · rfl
  · rw [if_neg (by omega)]
theorem fin_add (one : Nat) (st : Nat × Nat) (a b : Nat) : fin one (fin one st a) b = fin one st (a + b) := by
  unfold fin
  by_cases h : one = 0
  · simp only [h, if_true]
    rw [Nat.add_assoc]
  · simp only [h, if_false]
    by_cases h1 : st.2 = 0 ∧ 0 < a
    · rw [if_pos h1, if_neg (by simp), if_pos ⟨h1.1, by omega⟩]
    · rw [if_neg h1]
      by_cases h2 : st.2 = 0 ∧ 0 < b
      · rw [if_pos h2, if_pos ⟨h2.1, by omega⟩]
      · rw [if_neg h2, if_neg]
        rintro ⟨c1, c2⟩
        by_cases ha : 0 < a
        · exact h1 ⟨c1, ha⟩
        · exact h2 ⟨c1, by omega⟩
def fgo (one : Nat) (st : Nat × Nat) : Prop := st.2 ≤ 1 ∧ (one = 0 → st.2 = 0)
theorem fin_go {one c : Nat} {st : Nat × Nat} (h : fgo one st) : fgo one (fin one st c) := by
  unfold fin
  split
  · exact h
  · split
    · rename_i h1 h2
      exact ⟨Nat.le_refl _, fun e => absurd e h1⟩
    · exact h
theorem sm_hd (f : Nat → Nat) (m : Nat) : sm f (m + 1) = f 0 + sm (fun j => f (j + 1)) m := by
  rw [Nat.add_comm m 1, sm_app]
  simp only [sm, Nat.zero_add]
  congr 1
  exact sm_cg (fun j _ => by rw [Nat.add_comm])
/-- what the model's walk rests on -/
def WB (nb nr ne : Nat) (pg em : Nat → Int32) (s : aMem) : Prop := (nb ≤ 12 ∧ nr ≤ 5 ∧ ne ≤ 8) ∧ s.1 43 1 = nI nb ∧ s.1 43 2 = nI nr ∧ s.1 43 53 = nI ne ∧ s.1 49 = pg ∧ s.1 69 = em ∧ ∃ ev, evs nb nr ne ev em
def wI (nb ne : Nat) (em : Nat → Int32) (x0 : Nat → Nat) (S : Nat) (s t : aMem) (o : Nat → Int32) : Prop := fr [45, 70] [] s t ∧ t.1 45 = o ∧ (∀ r, r < 6 → oset nb o r = xg em x0 ne S r) ∧ t.2 = s.2
theorem WB_fr {nb nr ne : Nat} {pg em : Nat → Int32} {s t : aMem} (h : WB nb nr ne pg em s) (f : fr [45, 70] [] s t) : WB nb nr ne pg em t := by
  have A : ∀ k, k ≠ 45 → k ≠ 70 → t.1 k = s.1 k := by
    intro k h1 h2
    funext j
    exact f.1 k j (by simp [h1, h2]) (by simp)
  unfold WB at h ⊢
  rw [A 43 (by decide) (by decide), A 49 (by decide) (by decide), A 69 (by decide) (by decide)]
  exact h
theorem sX9_canBe {nb nr r l t : Nat} {s : aMem} (hnb : nb ≤ 12) (hnr : nr ≤ 5) (h1 : s.1 43 1 = nI nb) (h2 : s.1 43 2 = nI nr) (hr : r < nr) (hl : l < nb) (ht : t < nb) : fX9_canBe [.ref 43, .int (nI (144 * r + 12 * l + t))] s = some (.inl (some (.int (nI (decide (tro (s.1 45) (s.1 49) r l t = 0)).toNat))), s) := by
  have hle := tro_le (s.1 45) (s.1 49) r l t
  rw [tX9_canBe]
  try simp only [k_lit, k_nN, k_ofN]
  rw [dv144 (by omega) (by omega) (by omega), rm144 (by omega) (by omega) (by omega), dv12 (by omega) (by omega) (by omega), rm12 (by omega) (by omega), sX9_troubleT h1 h2 hnb hnr hr hl ht, b_bi]
  by_cases e : tro (s.1 45) (s.1 49) r l t = 0
  · rw [e]
    simp (disch := omega) only [i_leT, i_leF, i_ltT, i_ltF, i_eqT, i_eqF, i_okT, i_n1, i_n2, i_n3, i_n4, i_n5, i_n6, i_n7, i_n8, k_cl, if_true, if_false]
    simp
  · simp (disch := omega) only [i_leT, i_leF, i_ltT, i_ltF, i_eqT, i_eqF, i_okT, i_n1, i_n2, i_n3, i_n4, i_n5, i_n6, i_n7, i_n8, k_cl, if_true, if_false]
    simp [e]
theorem sX9_turns0F {r l t : Nat} {s : aMem} (hr : r < 5) (hl : l < 12) (ht : t < 12) (hlt : l ≠ t) : ∃ u, fX9_turns0 [.ref 43, .int (nI (144 * r + 12 * l + t)), .int (nI 0)] s = some (.inl none, u) ∧ fr [45] [] s u ∧ u.1 45 = otr (s.1 45) r 5 l t ∧ u.2 = s.2 := by
  rw [tX9_turns0]
  try simp only [k_lit, k_nN, k_ofN]
  rw [dv144 (by omega) (by omega) (by omega), rm144 (by omega) (by omega) (by omega), dv12 (by omega) (by omega) (by omega), rm12 (by omega) (by omega)]
  simp (disch := omega) only [i_leT, i_leF, i_ltT, i_ltF, i_eqT, i_eqF, i_okT, i_n1, i_n2, i_n3, i_n4, i_n5, i_n6, i_n7, i_n8, k_cl, if_true, if_false]
  refine ⟨_, rfl, fr_si (fr_si (fr_rfl s) (by simp)) (by simp), ?_, rfl⟩
  funext b
  unfold otr
  rw [plc_r hr, plc_5]
  simp only [m_si, if_true]
  by_cases e1 : b = l
  · subst e1
    simp [hlt]
  · by_cases e2 : b = t
    · subst e2
      simp [e1]
    · simp [e1, e2]
theorem sX9_turns0T {r l t : Nat} {s : aMem} {o : Nat → Int32} (hr : r < 5) (hl : l < 12) (ht : t < 12) (hlt : l ≠ t) (ho : s.1 45 = otr o r 5 l t) (h1 : o l = nI r) (h2 : o t = nN) : ∃ u, fX9_turns0 [.ref 43, .int (nI (144 * r + 12 * l + t)), .int (nI 1)] s = some (.inl none, u) ∧ fr [45] [] s u ∧ u.1 45 = o ∧ u.2 = s.2 := by
  rw [tX9_turns0]
  try simp only [k_lit, k_nN, k_ofN]
  rw [dv144 (by omega) (by omega) (by omega), rm144 (by omega) (by omega) (by omega), dv12 (by omega) (by omega) (by omega), rm12 (by omega) (by omega)]
  simp (disch := omega) only [i_leT, i_leF, i_ltT, i_ltF, i_eqT, i_eqF, i_okT, i_n1, i_n2, i_n3, i_n4, i_n5, i_n6, i_n7, i_n8, k_cl, if_true, if_false]
  refine ⟨_, rfl, fr_si (fr_si (fr_rfl s) (by simp)) (by simp), ?_, rfl⟩
  funext b
  simp only [m_si, if_true, ho]
  unfold otr
  by_cases e1 : b = l
  · subst e1
    simp [hlt, h1]
  · by_cases e2 : b = t
    · subst e2
      simp [h2]
    · simp [e1, e2]
theorem tro_0 {o pg : Nat → Int32} {r l t : Nat} (h : tro o pg r l t = 0) : o l = nI r ∧ o t = nN := by
  unfold tro at h
  by_cases e1 : o l = nI r
  · by_cases e2 : o t = nN
    · exact ⟨e1, e2⟩
    · rw [if_pos e1, if_neg e2] at h; omega
  · rw [if_neg e1] at h; omega
theorem w_can {nb nr ne S k : Nat} {pg em : Nat → Int32} {x0 : Nat → Nat} {s t : aMem} {o : Nat → Int32} (hB : WB nb nr ne pg em s) (hw : wI nb ne em x0 S s t o) (hk : k < ne) : fX9_canBe [.ref 43, .int (em k)] t = some (.inl (some (.int (nI (cF em pg x0 ne S k).toNat))), t) ∧ (cF em pg x0 ne S k = true → o (el em k) = nI (er em k) ∧ o (et em k) = nN) := by
  obtain ⟨⟨hnb, hnr, hne⟩, b1, b2, b3, b4, b5, ev, hev⟩ := WB_fr hB hw.1
  obtain ⟨q1, q2, q3, q4, -, -, -, q8⟩ := ev_ok hev hnb hnr hk
  have e : tro o pg (er em k) (el em k) (et em k) = trx (xg em x0 ne S) pg (er em k) (el em k) (et em k) := by
    rw [← trx_o (nb := nb) (by omega) q2 q3]
    unfold trx
    rw [hw.2.2.1 _ (by omega), hw.2.2.1 5 (by omega)]
  refine ⟨?_, fun h => ?_⟩
  · conv => lhs; rw [q8]
    rw [sX9_canBe hnb hnr b1 b2 q1 q2 q3, hw.2.1, b4, e]
    rfl
  · unfold cF at h
    rw [decide_eq_true_eq, ← e] at h
    exact tro_0 h
theorem w_go {nb nr ne S k : Nat} {pg em : Nat → Int32} {x0 : Nat → Nat} {s t : aMem} {o : Nat → Int32} (hB : WB nb nr ne pg em s) (hw : wI nb ne em x0 S s t o) (hk : k < ne) (hS : S.testBit k = false) (hc : cF em pg x0 ne S k = true) : ∃ u, fX9_turns0 [.ref 43, .int (em k), .int (nI 0)] t = some (.inl none, u) ∧ fr [45] [] t u ∧ wI nb ne em x0 (S ||| 2 ^ k) s u (otr o (er em k) 5 (el em k) (et em k)) := by
  obtain ⟨⟨hnb, hnr, hne⟩, b1, b2, b3, b4, b5, ev, hev⟩ := WB_fr hB hw.1
  obtain ⟨q1, q2, q3, q4, -, -, -, q8⟩ := ev_ok hev hnb hnr hk
  obtain ⟨c1, c2⟩ := (w_can hB hw hk).2 hc
  obtain ⟨u, hu, fu, eu, lu⟩ := sX9_turns0F (s := t) (r := er em k) (l := el em k) (t := et em k) (by omega) (by omega) (by omega) q4
  refine ⟨u, ?_, fu, fr_trans hw.1 (fr_mono fu (by simp) (by simp)), ?_, fun r hr => ?_, lu.trans hw.2.2.2⟩
  · conv => lhs; rw [q8]
    exact hu
  · rw [eu, hw.2.1]
  · rw [xg_add hS hk, ← hw.2.2.1 r hr, ← xtr_m, oset_tr (by omega) (by omega) (by omega) q2 q3 q4 (by rw [plc_r (by omega)]; exact c1) (by rw [plc_5]; exact c2) r hr]
theorem w_bk {nb nr ne S k : Nat} {pg em : Nat → Int32} {x0 : Nat → Nat} {s t u : aMem} {o : Nat → Int32} (hB : WB nb nr ne pg em s) (hw : wI nb ne em x0 S s t o) (hk : k < ne) (hc : cF em pg x0 ne S k = true) (hu : wI nb ne em x0 (S ||| 2 ^ k) s u (otr o (er em k) 5 (el em k) (et em k))) : ∃ w, fX9_turns0 [.ref 43, .int (em k), .int (nI 1)] u = some (.inl none, w) ∧ fr [45] [] u w ∧ wI nb ne em x0 S s w o := by
  obtain ⟨⟨hnb, hnr, hne⟩, b1, b2, b3, b4, b5, ev, hev⟩ := WB_fr hB hw.1
  obtain ⟨q1, q2, q3, q4, -, -, -, q8⟩ := ev_ok hev hnb hnr hk
  obtain ⟨c1, c2⟩ := (w_can hB hw hk).2 hc
  obtain ⟨w, hw1, fw1, ew, lw⟩ := sX9_turns0T (s := u) (o := o) (r := er em k) (l := el em k) (t := et em k) (by omega) (by omega) (by omega) q4 hu.2.1 c1 c2
  refine ⟨w, ?_, fw1, fr_trans hu.1 (fr_mono fw1 (by simp) (by simp)), ew, hw.2.2.1, lw.trans hu.2.2.2⟩
  conv => lhs; rw [q8]
  exact hw1
