/-! ===== the week of the class ===== -/
def rwX (t : aMem) (cell n : Nat) (f : Nat → Nat) : Prop := ∀ i, i < n → t.1 cell (3 * i) = nI (eR (f i)) ∧ t.1 cell (3 * i + 1) = nI (eL (f i)) ∧ t.1 cell (3 * i + 2) = nI (eT (f i))
def stX (B : Nat) (t : aMem) (σ : Option (Nat × Nat × Nat × (Nat → Nat))) : Prop := match σ with
  | some q => q.1 ≤ 20000 ∧ t.1 30 6 = nI q.1 ∧ t.1 30 5 = nI q.2.1 ∧ q.2.1 ≤ 5 ∧ t.1 30 4 = nI q.2.2.1 ∧ q.2.2.1 ≤ 5 ∧ rwX t 33 q.2.2.1 q.2.2.2
  | none => ∃ n, 20000 < n ∧ n ≤ B ∧ t.1 30 6 = nI n
theorem stX_mono {B B' : Nat} {t : aMem} {σ : Option (Nat × Nat × Nat × (Nat → Nat))} (h : stX B t σ) (hB : B ≤ B') : stX B' t σ := by
  cases σ with
  | some q => exact h
  | none =>
    obtain ⟨n, h1, h2, h3⟩ := h
    exact ⟨n, h1, by omega, h3⟩
def wX (nb nr : Nat) (s t : aMem) (p : Nat) (path : Nat → Nat) (o : Nat → Int32) : Prop := fr [31, 32, 33] [(30, 4), (30, 5), (30, 6)] s t ∧ Own nb nr (t.1 31) o ∧ rwX t 32 p path
def XB (nb nr : Nat) (pg wn : Nat → Int32) (s : aMem) : Prop := (nb ≤ 12 ∧ nr ≤ 5) ∧ s.1 12 0 = nI nb ∧ s.1 12 1 = nI nr ∧ fwOk nb (s.1 20) (s.1 19) ∧ (∀ b, b < nb → s.1 19 b = pg b) ∧ (∀ r, r < nr → s.1 17 r = wn r) ∧ wOk nb nr wn
theorem XB_fr {nb nr : Nat} {pg wn : Nat → Int32} {s t : aMem} (h : XB nb nr pg wn s) (f : fr [31, 32, 33] [(30, 4), (30, 5), (30, 6)] s t) : XB nb nr pg wn t := by
  have A : ∀ k, k ≠ 31 → k ≠ 32 → k ≠ 33 → k ≠ 30 → t.1 k = s.1 k := by
    intro k h1 h2 h3 h4
    funext j
    exact f.1 k j (by simp [h1, h2, h3]) (by simp [h4])
  unfold XB at h ⊢
  rw [A 12 (by decide) (by decide) (by decide) (by decide), A 20 (by decide) (by decide) (by decide) (by decide), A 19 (by decide) (by decide) (by decide) (by decide), A 17 (by decide) (by decide) (by decide) (by decide)]
  exact h
theorem srv_cg {wn wn' o : Nat → Int32} {r : Nat} (h : wn r = wn' r) : srv o wn r = srv o wn' r := by
  unfold srv
  rw [h]
theorem sX7_weigh {nb nr : Nat} {pg wn : Nat → Int32} {t : aMem} {o : Nat → Int32} {v : Int32} (hB : XB nb nr pg wn t) (hO : Own nb nr (t.1 31) o) : ∃ u, fX7_weigh [.ref 30, .int v] t = some (.inl none, u) ∧ fr [33] [(30, 4), (30, 5)] t u ∧ (nI (svd nr wn o) ≤ t.1 30 5 → u = t) ∧ (¬ nI (svd nr wn o) ≤ t.1 30 5 → u.1 30 5 = nI (svd nr wn o) ∧ u.1 30 4 = v ∧ ∀ j, j < 15 → u.1 33 j = t.1 32 j) := by
  obtain ⟨⟨hnb, hnr⟩, b1, r1, hfw, hpg, hwn, hwo⟩ := id hB
  have hw17 : wOk nb nr (t.1 17) := fun r hr => by rw [hwn r hr]; exact hwo r hr
  have key : ∀ m r, r + m = nr → ∃ u, a_run none shp pX7_weigh 4 [some (.ref 30), some (.int v), some (.int (nI (cntP (fun r => srv o wn r) r))), some (.int (nI r))] [] t = some (.inl none, u) ∧ fr [33] [(30, 4), (30, 5)] t u ∧ (nI (svd nr wn o) ≤ t.1 30 5 → u = t) ∧ (¬ nI (svd nr wn o) ≤ t.1 30 5 → u.1 30 5 = nI (svd nr wn o) ∧ u.1 30 4 = v ∧ ∀ j, j < 15 → u.1 33 j = t.1 32 j) := by
    intro m
    induction m with
    | zero =>
      intro r hr
      have : r = nr := by omega
      subst this
      rw [tX7_weigh_4, r1]
      try simp only [k_lit, k_nN, k_ofN]
      simp (disch := omega) only [i_leT, i_leF, i_ltT, i_ltF, i_eqT, i_eqF, i_okT, i_n1, i_n2, i_n3, i_n4, i_n5, i_n6, i_n7, i_n8, k_cl, if_true, if_false]
      rw [show cntP (fun r => srv o wn r) r = svd r wn o from rfl]
      by_cases e : nI (svd r wn o) ≤ t.1 30 5
      · rw [if_pos e]
        exact ⟨t, rfl, fr_rfl t, fun _ => rfl, fun h => absurd e h⟩
      · rw [if_neg e]
        obtain ⟨u, hu, fu, vu⟩ := p_acp (s := a_si (a_si t 30 5 (nI (svd r wn o))) 30 4 v) (a := 32) (b := 33) (n := 15) rfl rfl (by omega) (by omega) (by omega)
        rw [hu, b_bv]
        refine ⟨u, rfl, fr_trans (fr_si (fr_si (fr_rfl t) (by simp)) (by simp)) (fr_mono fu (by simp) (by simp)), fun h => absurd h e, fun _ => ⟨?_, ?_, fun j hj => ?_⟩⟩
        · rw [fu.1 30 5 (by decide) (by simp)]
          simp [m_si]
        · rw [fu.1 30 4 (by decide) (by simp)]
          simp [m_si]
        · rw [vu, if_pos hj]
          simp [m_si]
    | succ m ih =>
      intro r hr
      rw [tX7_weigh_4, r1]
      try simp only [k_lit, k_nN, k_ofN]
      simp (disch := omega) only [i_leT, i_leF, i_ltT, i_ltF, i_eqT, i_eqF, i_okT, i_n1, i_n2, i_n3, i_n4, i_n5, i_n6, i_n7, i_n8, k_cl, if_true, if_false]
      rw [sX6_isServed31 hnb hnr hO hw17 (by omega), b_bi, tX7_weigh_27, srv_cg (hwn r (by omega))]
      try simp only [k_lit, k_nN, k_ofN, nI_add]
      have ih2 := ih (r + 1) (by omega)
      rw [show cntP (fun r => srv o wn r) (r + 1) = cntP (fun r => srv o wn r) r + (srv o wn r).toNat from rfl] at ih2
      cases e : srv o wn r
      · rw [e] at ih2
        simp only [Bool.toNat_false, Nat.add_zero] at ih2
        simp only [Bool.toNat_false]
        simp (disch := omega) only [i_leT, i_leF, i_ltT, i_ltF, i_eqT, i_eqF, i_okT, i_n1, i_n2, i_n3, i_n4, i_n5, i_n6, i_n7, i_n8, k_cl, if_true, if_false]
        exact ih2
      · rw [e] at ih2
        simp only [Bool.toNat_true] at ih2
        simp only [Bool.toNat_true]
        simp (disch := omega) only [i_leT, i_leF, i_ltT, i_ltF, i_eqT, i_eqF, i_okT, i_n1, i_n2, i_n3, i_n4, i_n5, i_n6, i_n7, i_n8, k_cl, if_true, if_false]
        exact ih2
  rw [tX7_weigh]
  try simp only [k_lit, k_nN, k_ofN]
  exact key nr 0 (by omega)
/-- weighing, over the picture -/
theorem wX_wgh {nb nr p : Nat} {pg wn : Nat → Int32} {s t : aMem} {o : Nat → Int32} {path : Nat → Nat} {B : Nat} {q : Nat × Nat × Nat × (Nat → Nat)} (hB : XB nb nr pg wn s) (hw : wX nb nr s t p path o) (hp : p ≤ 5) (hst : stX B t (some q)) : ∃ u, fX7_weigh [.ref 30, .int (nI p)] t = some (.inl none, u) ∧ wX nb nr s u p path o ∧ stX B u (some (wgh nr wn p path o q)) := by
  obtain ⟨f, hO, hr⟩ := id hw
  obtain ⟨u, hu, fu, c1, c2⟩ := sX7_weigh (v := nI p) (XB_fr hB f) hO
  have hsl := svd_le nr wn o
  have hnr := hB.1.2
  obtain ⟨s1, s2, s3, s4, s5, s6, s7⟩ := hst
  by_cases e : q.2.1 < svd nr wn o
  · have hn : ¬ nI (svd nr wn o) ≤ t.1 30 5 := by
      rw [s3]
      exact nI_ge e (by omega)
    obtain ⟨d1, d2, d3⟩ := c2 hn
    have ew : wgh nr wn p path o q = (q.1, svd nr wn o, p, path) := by
      unfold wgh
      rw [if_pos e]
    rw [ew]
    refine ⟨u, hu, ⟨fr_trans f (fr_mono fu (by simp) (by simp)), ?_, ?_⟩, s1, ?_, d1, (by show svd nr wn o ≤ 5; omega), d2, hp, ?_⟩
    · rw [show u.1 31 = t.1 31 from by funext j; exact fu.1 31 j (by decide) (by simp)]
      exact hO
    · intro i hi
      rw [fu.1 32 _ (by decide) (by simp), fu.1 32 _ (by decide) (by simp), fu.1 32 _ (by decide) (by simp)]
      exact hr i hi
    · rw [fu.1 30 6 (by decide) (by decide)]
      exact s2
    · intro i hi
      have hi2 : i < p := hi
      rw [d3 _ (by omega), d3 _ (by omega), d3 _ (by omega)]
      exact hr i hi
  · have hn : nI (svd nr wn o) ≤ t.1 30 5 := by
      rw [s3]
      exact nI_le (by omega) (by omega)
    have ew : wgh nr wn p path o q = q := by
      unfold wgh
      rw [if_neg e]
    rw [ew]
    rw [c1 hn] at hu
    exact ⟨t, hu, hw, s1, s2, s3, s4, s5, s6, s7⟩
theorem uPl (d : Nat) (a b : Int32) (s : aMem) : fWK (d + 1) 0 [.ref 30, .int a, .int b] s = a_run none shp (pX7_tryPlace (fWK d)) 0 [some (.ref 30), some (.int a), some (.int b), none] [] s := rfl
theorem uRd (d : Nat) (a b c : Int32) (s : aMem) : fWK (d + 1) 1 [.ref 30, .int a, .int b, .int c] s = a_run none shp (pX7_tryReader (fWK d)) 0 [some (.ref 30), some (.int a), some (.int b), some (.int c), none, none, none, none, none] [] s := rfl
theorem uEx (d : Nat) (a b c e f : Int32) (s : aMem) : fWK (d + 1) 2 [.ref 30, .int a, .int b, .int c, .int e, .int f] s = a_run none shp (pX7_tryExchange (fWK d)) 0 [some (.ref 30), some (.int a), some (.int b), some (.int c), some (.int e), some (.int f), none] [] s := rfl
/-- what is claimed of a node's loop -/
def NdX (nb nr : Nat) (pg wn : Nat → Int32) (s : aMem) (rem f : Nat) : Prop := ∀ p path o G t q, p + rem = nr → G < 2 ^ nr → pcN 8 G = p → (∀ r, r < nr → G.testBit r = dnB path p r) → wX nb nr s t p path o → stX 20000 t (some q) → ∃ u, a_run none shp (pX7_tryPlace (fWK (3 * rem + f))) 5 [some (.ref 30), some (.int (nI p)), some (.int (nI G)), none] [] t = some (.inl none, u) ∧ wX nb nr s u p path o ∧ stX (20100 - 12 * p) u (wnd nb nr pg wn rem p path o (some q))
/-- a try of one exchange -/
theorem wX_try {nb nr : Nat} {pg wn : Nat → Int32} {s : aMem} {rem f p e G B : Nat} {path : Nat → Nat} {o : Nat → Int32} {t : aMem} {σ : Option (Nat × Nat × Nat × (Nat → Nat))} (hB : XB nb nr pg wn s) (hN : NdX nb nr pg wn s rem f) (hp : p + (rem + 1) = nr) (he : eR e < nr) (hc : canE nb pg o e = true) (hd : dnB path p (eR e) = false) (hG : G < 2 ^ nr) (hpc : pcN 8 G = p) (hGd : ∀ r, r < nr → G.testBit r = dnB path p r) (hw : wX nb nr s t p path o) (hst : stX B t σ) (hB2 : 20001 ≤ B) (hB3 : 20100 - 12 * (p + 1) ≤ B) (hB4 : B < 30000) : ∃ u, fWK (3 * rem + f + 2) 2 [.ref 30, .int (nI p), .int (nI (G ||| 2 ^ eR e)), .int (nI (eR e)), .int (nI (eL e)), .int (nI (eT e))] t = some (.inl none, u) ∧ wX nb nr s u p path o ∧ stX (B + 1) u (wch nr wn (wnd nb nr pg wn rem) p path o e σ) := by
  obtain ⟨⟨hnb, hnr⟩, -⟩ := id hB
  obtain ⟨f0, hO, hr⟩ := id hw
  obtain ⟨k1, k2, k3, k4, k5, -⟩ := canE_ok (nr := nr) hc
  rw [uEx, tX7_tryExchange]
  try simp only [k_lit, k_nN, k_ofN]
  have spent : ∀ n, 20000 ≤ n → n ≤ B → t.1 30 6 = nI n → (if t.1 30 6 + nI 1 ≤ nI 20000 then (none : Option aRes) else some (.inl none, a_si t 30 6 (t.1 30 6 + nI 1))) = some (.inl none, a_si t 30 6 (nI (n + 1))) := by
    intro n h1 h2 h3
    rw [h3, nI_add, i_leF (by omega) (by omega)]
  have keep : ∀ z : Int32, wX nb nr s (a_si t 30 6 z) p path o := by
    intro z
    refine ⟨fr_si f0 (by simp), ?_, ?_⟩
    · rw [show (a_si t 30 6 z).1 31 = t.1 31 from by funext j; simp [m_si]]
      exact hO
    · intro i hi
      simpa [m_si] using hr i hi
  cases σ with
  | none =>
    obtain ⟨n, h1, h2, h3⟩ := hst
    rw [h3, nI_add, i_leF (by omega) (by omega)]
    exact ⟨_, rfl, keep _, n + 1, by omega, by omega, by simp [m_si]⟩
  | some q =>
    obtain ⟨s1, s2, s3, s4, s5, s6, s7⟩ := id hst
    rw [show wch nr wn (wnd nb nr pg wn rem) p path o e (some q) = if q.1 = 20000 then none else wnd nb nr pg wn rem (p + 1) (upN path p e) (apE o e) (some (wgh nr wn (p + 1) (upN path p e) (apE o e) (q.1 + 1, q.2))) from rfl]
    by_cases e2 : q.1 = 20000
    · rw [if_pos e2, s2, e2, nI_add, i_leF (by omega) (by omega)]
      exact ⟨_, rfl, keep _, 20001, by omega, by omega, by simp [m_si]⟩
    · rw [if_neg e2, s2, nI_add, i_leT (by omega) (by omega), pk_mul, nI_add, nI_add]
      simp (disch := omega) only [i_leT, i_leF, i_ltT, i_ltF, i_eqT, i_eqF, i_okT, i_n1, i_n2, i_n3, i_n4, i_n5, i_n6, i_n7, i_n8, k_cl, if_true, if_false]
      -- the exchange is made
      have hs0 : sOk ((a_si (a_si (a_si (a_si t 30 6 (nI (q.1 + 1))) 32 (3 * p) (nI (eR e))) 32 (3 * p + 1) (nI (eL e))) 32 (3 * p + 2) (nI (eT e))).1 31) (oset nb o) := by
        intro k hk
        simpa [m_si] using Own_s hnb hO k hk
      obtain ⟨u1, hu1, fu1, xu1⟩ := sX8_trade31 hs0 (r := eR e) (p := 5) (l := eL e) (t := eT e) (by omega) (by omega) (by omega) (eL_lt e) (eT_lt e)
      obtain ⟨oa1, oa2⟩ := own_ap hnr he hc hO.2.2
      have hO1 : Own nb nr (u1.1 31) (apE o e) := Own_of (sOk_cg xu1 oa2) oa1
      have hf1 : fr [31, 32, 33] [(30, 4), (30, 5), (30, 6)] s u1 := fr_trans (fr_si (fr_si (fr_si (fr_si f0 (k := 30) (j := 6) (x := nI (q.1 + 1)) (by simp)) (k := 32) (j := 3 * p) (x := nI (eR e)) (by simp)) (k := 32) (j := 3 * p + 1) (x := nI (eL e)) (by simp)) (k := 32) (j := 3 * p + 2) (x := nI (eT e)) (by simp)) (fr_mono fu1 (by simp) (by simp))
      have hr1 : rwX u1 32 (p + 1) (upN path p e) := by
        intro i hi
        rw [fu1.1 32 _ (by decide) (by simp), fu1.1 32 _ (by decide) (by simp), fu1.1 32 _ (by decide) (by simp)]
        unfold upN
        by_cases ei : i = p
        · subst ei
          simp [m_si]
        · have := hr i (by omega)
          have n1 : ¬ 3 * i = 3 * p := by omega
          have n2 : ¬ 3 * i = 3 * p + 1 := by omega
          have n3 : ¬ 3 * i = 3 * p + 2 := by omega
          have n4 : ¬ 3 * i + 1 = 3 * p := by omega
          have n5 : ¬ 3 * i + 1 = 3 * p + 2 := by omega
          have n6 : ¬ 3 * i + 2 = 3 * p := by omega
          have n7 : ¬ 3 * i + 2 = 3 * p + 1 := by omega
          simpa [m_si, ei, n1, n2, n3, n4, n5, n6, n7] using this
      have hst1 : stX 20000 u1 (some (q.1 + 1, q.2)) := by
        refine ⟨by show q.1 + 1 ≤ 20000; omega, ?_, ?_, s4, ?_, s6, ?_⟩
        · rw [fu1.1 30 6 (by decide) (by simp)]
          simp [m_si]
        · rw [fu1.1 30 5 (by decide) (by simp)]
          simpa [m_si] using s3
        · rw [fu1.1 30 4 (by decide) (by simp)]
          simpa [m_si] using s5
        · intro i hi
          rw [fu1.1 33 _ (by decide) (by simp), fu1.1 33 _ (by decide) (by simp), fu1.1 33 _ (by decide) (by simp)]
          simpa [m_si] using s7 i hi
      obtain ⟨u2, hu2, wu2, su2⟩ := wX_wgh (p := p + 1) hB ⟨hf1, hO1, hr1⟩ (by omega) hst1
      have hGb : G.testBit (eR e) = false := by rw [hGd _ he, hd]
      obtain ⟨u3, hu3, wu3, su3⟩ := hN (p + 1) (upN path p e) (apE o e) (G ||| 2 ^ eR e) u2 _ (by omega) (lt_or hG he) (by rw [pcN_xor hGb 8 (by omega), hpc]) (fun r hr2 => by
        rw [dnB_up, Nat.testBit_or, pow_bit, hGd r hr2]) wu2 su2
      -- it is taken back
      obtain ⟨f3, hO3, hr3⟩ := wu3
      obtain ⟨u4, hu4, fu4, xu4⟩ := sX8_trade31 (Own_s hnb hO3) (r := eR e) (p := 5) (l := eL e) (t := eT e) (by omega) (by omega) (by omega) (eL_lt e) (eT_lt e)
      refine ⟨u4, ?_, ⟨fr_trans f3 (fr_mono fu4 (by simp) (by simp)), ?_, ?_⟩, ?_⟩
      · rw [hu1, b_bv, tX7_tryExchange_69]
        try simp only [k_lit, k_nN, k_ofN, nI_add]
        rw [show 3 * rem + f + 1 = (3 * rem + f) + 1 from rfl, uPl, tX7_tryPlace, hu2, b_bv, hu3, b_bv, tX7_tryExchange_77]
        try simp only [k_lit, k_nN, k_ofN]
        rw [hu4, b_bv]
      · refine Own_of (sOk_cg xu4 (fun k hk => ?_)) hO.2.2
        have : xtr (oset nb (apE o e)) (eR e) 5 (eL e) (eT e) k = xtr (xtr (oset nb o) (eR e) 5 (eL e) (eT e)) (eR e) 5 (eL e) (eT e) k := by
          unfold xtr
          have h2 := oa2 k hk
          unfold xtr at h2
          rw [← h2]
        rw [this, xtr_xtr]
      · intro i hi
        have := hr3 i (by omega)
        unfold upN at this
        rw [if_neg (by omega)] at this
        rw [fu4.1 32 _ (by decide) (by simp), fu4.1 32 _ (by decide) (by simp), fu4.1 32 _ (by decide) (by simp)]
        exact this
      · have h9 : stX (B + 1) u3 (wnd nb nr pg wn rem (p + 1) (upN path p e) (apE o e) (some (wgh nr wn (p + 1) (upN path p e) (apE o e) (q.1 + 1, q.2)))) := stX_mono su3 (by omega)
        revert h9
        generalize wnd nb nr pg wn rem (p + 1) (upN path p e) (apE o e) (some (wgh nr wn (p + 1) (upN path p e) (apE o e) (q.1 + 1, q.2))) = σ'
        intro h9
        cases σ' with
        | none =>
          obtain ⟨n, g1, g2, g3⟩ := h9
          exact ⟨n, g1, g2, by rw [fu4.1 30 6 (by decide) (by simp)]; exact g3⟩
        | some z =>
          obtain ⟨g1, g2, g3, g4, g5, g6, g7⟩ := h9
          refine ⟨g1, ?_, ?_, g4, ?_, g6, fun i hi => ?_⟩
          · rw [fu4.1 30 6 (by decide) (by simp)]; exact g2
          · rw [fu4.1 30 5 (by decide) (by simp)]; exact g3
          · rw [fu4.1 30 4 (by decide) (by simp)]; exact g5
          · rw [fu4.1 33 _ (by decide) (by simp), fu4.1 33 _ (by decide) (by simp), fu4.1 33 _ (by decide) (by simp)]
            exact g7 i hi
