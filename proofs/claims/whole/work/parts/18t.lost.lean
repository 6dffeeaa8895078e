/-! ===== lost ===== -/
def pwm (c : List (Nat × Nat)) (bk : Nat → Int32) (b : Nat) (v : Int32) : Int32 := pgv c (pf (bk (4 * b)) (bk (4 * b + 1) + v) (bk (4 * b + 2)) (bk (4 * b + 3)))
def pbd (c : List (Nat × Nat)) (bk : Nat → Int32) (a b : Nat) : Int32 := pgv c (pf (bk (4 * a) + bk (4 * b)) (bk (4 * a + 1) + bk (4 * b + 1)) (bk (4 * a + 2) + bk (4 * b + 2)) (bk (4 * a + 3) + bk (4 * b + 3)))
theorem sX6_pagesWithMore {s : aMem} {nb nr b : Nat} {c : List (Nat × Nat)} (hL : LibI nb nr c s) (hb : b < nb) (v : Int32) : ∃ u, fX6_pagesWithMore [.ref 12, .int (nI b), .int v] s = some (.inl (some (.int (pwm c (s.1 44) b v))), u) ∧ fr [15] [(13, 3)] s u := by
  obtain ⟨⟨hnb, hnr⟩, -, -, hpt, -, -, -, hc, -⟩ := id hL
  obtain ⟨u, hu, fu⟩ := sX1_reckon (hc (by omega)) (s.1 44 (4 * b)) (s.1 44 (4 * b + 1) + v) (s.1 44 (4 * b + 2)) (s.1 44 (4 * b + 3))
  refine ⟨u, ?_, fu⟩
  rw [tX6_pagesWithMore]
  try simp only [k_lit, k_nN, k_ofN, pk_mul, nI_add]
  simp (disch := omega) only [i_leT, i_leF, i_ltT, i_ltF, i_eqT, i_eqF, i_okT, i_n1, i_n2, i_n3, i_n4, i_n5, i_n6, i_n7, i_n8, k_cl, if_true, if_false]
  rw [hpt _ (by omega), hpt _ (by omega), hpt _ (by omega), hpt _ (by omega), hu, b_bi]
  rfl
theorem sX6_pagesBound {s : aMem} {nb nr a b : Nat} {c : List (Nat × Nat)} (hL : LibI nb nr c s) (ha : a < nb) (hb : b < nb) : ∃ u, fX6_pagesBound [.ref 12, .int (nI a), .int (nI b)] s = some (.inl (some (.int (pbd c (s.1 44) a b))), u) ∧ fr [15] [(13, 3)] s u := by
  obtain ⟨⟨hnb, hnr⟩, -, -, hpt, -, -, -, hc, -⟩ := id hL
  obtain ⟨u, hu, fu⟩ := sX1_reckon (hc (by omega)) (s.1 44 (4 * a) + s.1 44 (4 * b)) (s.1 44 (4 * a + 1) + s.1 44 (4 * b + 1)) (s.1 44 (4 * a + 2) + s.1 44 (4 * b + 2)) (s.1 44 (4 * a + 3) + s.1 44 (4 * b + 3))
  refine ⟨u, ?_, fu⟩
  rw [tX6_pagesBound]
  try simp only [k_lit, k_nN, k_ofN, pk_mul, nI_add]
  simp (disch := omega) only [i_leT, i_leF, i_ltT, i_ltF, i_eqT, i_eqF, i_okT, i_n1, i_n2, i_n3, i_n4, i_n5, i_n6, i_n7, i_n8, k_cl, if_true, if_false]
  rw [hpt (4 * a) (by omega), hpt (4 * a + 1) (by omega), hpt (4 * a + 2) (by omega), hpt (4 * a + 3) (by omega), hpt (4 * b) (by omega), hpt (4 * b + 1) (by omega), hpt (4 * b + 2) (by omega), hpt (4 * b + 3) (by omega), hu, b_bi]
  rfl
/-- the first from k on, of m -/
def fnd (p : Nat → Bool) : Nat → Nat → Option Nat
  | 0, _ => none
  | m + 1, k => if p k = true then some k else fnd p m (k + 1)
def oI (o : Option Nat) : Int32 := match o with
  | some k => nI k
  | none => nN
theorem fnd_lt {p : Nat → Bool} : ∀ {m k b : Nat}, fnd p m k = some b → k ≤ b ∧ b < k + m
  | 0, _, _, h => by cases h
  | m + 1, k, b, h => by
    unfold fnd at h
    split at h
    · cases h; omega
    · have := fnd_lt h; omega
def lfr (p : Nat → Nat → Bool) (nb : Nat) : Nat → Nat → Option (Nat × Nat)
  | 0, _ => none
  | m + 1, k => match fnd (p k) nb 0 with
    | some b => some (k, b)
    | none => lfr p nb m (k + 1)
/-- a book that would free the lost one -/
def fre (c : List (Nat × Nat)) (bk o pg : Nat → Int32) (l k b : Nat) : Bool := decide (o b ≠ nN) && decide (pg l < pwm c bk b (nI k))
def lst (nb : Nat) (o pg : Nat → Int32) (b : Nat) : Bool := decide (o b = nN) && !(ex nb fun k => decide (o k ≠ nN) && decide (pg b < pg k))
def lsv (r : Option (Nat × Nat)) (w : Nat) : Int32 := match r with
  | some q => if w = 0 then nI q.1 else nI q.2
  | none => nN
theorem sX8_freedBy {s : aMem} {nb nr l k : Nat} {c : List (Nat × Nat)} (hL : LibI nb nr c s) (hO : Own nb nr (s.1 23) (s.1 45)) (hl : l < nb) (hk : k < 1000) : ∃ u, fX8_freedBy [.ref 0, .int (nI l), .int (nI k)] s = some (.inl (some (.int (oI (fnd (fre c (s.1 44) (s.1 45) (s.1 49) l k) nb 0)))), u) ∧ fr [15] [(13, 3)] s u := by
  obtain ⟨⟨hnb, hnr⟩, ⟨b1, b2⟩, -, -, -, hpg, -, -, -⟩ := id hL
  have key : ∀ m j t, j + m = nb → fr [15] [(13, 3)] s t → ∃ u, a_run none shp pX8_freedBy 2 [some (.ref 0), some (.int (nI l)), some (.int (nI k)), some (.int (nI j))] [] t = some (.inl (some (.int (oI (fnd (fre c (s.1 44) (s.1 45) (s.1 49) l k) m j)))), u) ∧ fr [15] [(13, 3)] s u := by
    intro m
    induction m with
    | zero =>
      intro j t hj f
      refine ⟨t, ?_, f⟩
      rw [tX8_freedBy_2, f.1 12 0 (by decide) (by decide), b1]
      try simp only [k_lit, k_nN, k_ofN]
      simp (disch := omega) only [i_leT, i_leF, i_ltT, i_ltF, i_eqT, i_eqF, i_okT, i_n1, i_n2, i_n3, i_n4, i_n5, i_n6, i_n7, i_n8, k_cl, if_true, if_false]
      rfl
    | succ m ih =>
      intro j t hj f
      have e5 := (Own_s hnb hO 5 (by omega))
      have hj2 : j < nb := by omega
      have hbit : (oset nb (s.1 45) 5).testBit j = decide (s.1 45 j = nN) := by
        rw [oset_p]; exact ob hj2
      rw [tX8_freedBy_2, f.1 12 0 (by decide) (by decide), b1]
      try simp only [k_lit, k_nN, k_ofN]
      simp (disch := omega) only [i_leT, i_leF, i_ltT, i_ltF, i_eqT, i_eqF, i_okT, i_n1, i_n2, i_n3, i_n4, i_n5, i_n6, i_n7, i_n8, k_cl, if_true, if_false]
      rw [f.1 23 5 (by decide) (by decide), e5.1, k_holds _ j (by omega) (by omega), b_bi, tX8_freedBy_26, hbit]
      try simp only [k_lit, k_nN, k_ofN, nI_add]
      unfold fnd fre
      by_cases eo : s.1 45 j = nN
      · simp only [eo, decide_true, Bool.toNat_true, ne_eq, not_true_eq_false, decide_false, Bool.false_and, Bool.false_eq_true, if_false]
        simp (disch := omega) only [i_leT, i_leF, i_ltT, i_ltF, i_eqT, i_eqF, i_okT, i_n1, i_n2, i_n3, i_n4, i_n5, i_n6, i_n7, i_n8, k_cl, if_true, if_false]
        exact ih (j + 1) t (by omega) f
      · simp only [eo, decide_false, Bool.toNat_false, ne_eq, not_false_eq_true, decide_true, Bool.true_and]
        simp (disch := omega) only [i_leT, i_leF, i_ltT, i_ltF, i_eqT, i_eqF, i_okT, i_n1, i_n2, i_n3, i_n4, i_n5, i_n6, i_n7, i_n8, k_cl, if_true, if_false]
        obtain ⟨u1, hu1, fu1⟩ := sX6_pagesWithMore (LibI_fx hL (fx_fr f) rfl rfl) hj2 (nI k)
        have f2 := fr_trans f fu1
        rw [hu1, b_bi, tX8_freedBy_38, f2.1 19 _ (by decide) (by simp)]
        try simp only [k_lit, k_nN, k_ofN, nI_add]
        simp (disch := omega) only [i_leT, i_leF, i_ltT, i_ltF, i_eqT, i_eqF, i_okT, i_n1, i_n2, i_n3, i_n4, i_n5, i_n6, i_n7, i_n8, k_cl, if_true, if_false]
        rw [hpg l hl, show t.1 44 = s.1 44 from by funext i; exact f.1 44 i (by decide) (by simp)]
        by_cases e2 : s.1 49 l < pwm c (s.1 44) j (nI k)
        · rw [if_neg (Int32.not_le.mpr e2)]
          exact ⟨u1, by simp [e2, oI], f2⟩
        · rw [if_pos (Int32.not_lt.mp e2)]
          simp only [e2, decide_false, Bool.false_eq_true, if_false]
          exact ih (j + 1) u1 (by omega) f2
  rw [tX8_freedBy]
  exact key nb 0 s (by omega) (fr_rfl s)
theorem sX8_isLost {s : aMem} {nb nr b : Nat} {c : List (Nat × Nat)} (hL : LibI nb nr c s) (hO : Own nb nr (s.1 23) (s.1 45)) (hb : b < nb) : fX8_isLost [.ref 0, .int (nI b)] s = some (.inl (some (.int (nI (lst nb (s.1 45) (s.1 49) b).toNat))), s) := by
  obtain ⟨⟨hnb, hnr⟩, ⟨b1, b2⟩, ⟨r1, r2⟩, -, -, hpg, hfw, -, -⟩ := id hL
  have hs := Own_s hnb hO
  have hbit : (oset nb (s.1 45) 5).testBit b = decide (s.1 45 b = nN) := by
    rw [oset_p]; exact ob hb
  have tkr : ∀ r, r < nr → (msk nb (tkb nb (s.1 19) (oset nb (s.1 45) r))).testBit b = ex nb fun k => decide (s.1 45 k = nI r) && decide (s.1 49 b < s.1 49 k) := by
    intro r hr
    rw [msk_bit]
    simp only [hb, decide_true, Bool.true_and]
    rw [tkb_cg (fun b hb => hpg b hb) hb]
    apply Bool.eq_iff_iff.mpr
    unfold tkb
    rw [ex_iff, ex_iff]
    constructor
    · rintro ⟨k, hk, h⟩
      refine ⟨k, hk, ?_⟩
      rw [oset_p, ob hk, plc_r (by omega)] at h
      exact h
    · rintro ⟨k, hk, h⟩
      refine ⟨k, hk, ?_⟩
      rw [oset_p, ob hk, plc_r (by omega)]
      exact h
  have key : ∀ m r, r + m = nr → s.1 45 b = nN → (∀ j, j < r → (ex nb fun k => decide (s.1 45 k = nI j) && decide (s.1 49 b < s.1 49 k)) = false) → a_run none shp pX8_isLost 20 [some (.ref 0), some (.int (nI b)), some (.int (nI r))] [] s = some (.inl (some (.int (nI (lst nb (s.1 45) (s.1 49) b).toNat))), s) := by
    intro m
    induction m with
    | zero =>
      intro r hr ho hj
      rw [tX8_isLost_20, r1]
      try simp only [k_lit, k_nN, k_ofN]
      simp (disch := omega) only [i_leT, i_leF, i_ltT, i_ltF, i_eqT, i_eqF, i_okT, i_n1, i_n2, i_n3, i_n4, i_n5, i_n6, i_n7, i_n8, k_cl, if_true, if_false]
      have : (ex nb fun k => decide (s.1 45 k ≠ nN) && decide (s.1 49 b < s.1 49 k)) = false := by
        apply Bool.eq_false_iff.mpr
        rw [Ne, ex_iff]
        rintro ⟨k, hk, h⟩
        simp only [Bool.and_eq_true, decide_eq_true_eq] at h
        rcases hO.2.2 k hk with e | ⟨j, hj2, e⟩
        · exact h.1 e
        · have h2 := hj j (by omega)
          rw [Bool.eq_false_iff, Ne, ex_iff] at h2
          exact h2 ⟨k, hk, by simp [e, h.2]⟩
      unfold lst
      rw [this]
      simp [ho]
    | succ m ih =>
      intro r hr ho hj
      have h4 := (hs r (by omega)).2
      rw [tX8_isLost_20, r1]
      try simp only [k_lit, k_nN, k_ofN]
      simp (disch := omega) only [i_leT, i_leF, i_ltT, i_ltF, i_eqT, i_eqF, i_okT, i_n1, i_n2, i_n3, i_n4, i_n5, i_n6, i_n7, i_n8, k_cl, if_true, if_false]
      rw [(hs r (by omega)).1, sX6_takeableFor b1 hnb hfw h4, b_bi, tX8_isLost_47, k_holds _ b (by have := @msk_12 nb (tkb nb (s.1 19) (oset nb (s.1 45) r)) hnb; omega) (by omega), b_bi, tX8_isLost_51, tkr r (by omega)]
      try simp only [k_lit, k_nN, k_ofN, nI_add]
      cases e : ex nb fun k => decide (s.1 45 k = nI r) && decide (s.1 49 b < s.1 49 k)
      · simp only [Bool.toNat_false]
        simp (disch := omega) only [i_leT, i_leF, i_ltT, i_ltF, i_eqT, i_eqF, i_okT, i_n1, i_n2, i_n3, i_n4, i_n5, i_n6, i_n7, i_n8, k_cl, if_true, if_false]
        refine ih (r + 1) (by omega) ho (fun j h => ?_)
        by_cases e2 : j = r
        · rw [e2]; exact e
        · exact hj j (by omega)
      · simp only [Bool.toNat_true]
        simp (disch := omega) only [i_leT, i_leF, i_ltT, i_ltF, i_eqT, i_eqF, i_okT, i_n1, i_n2, i_n3, i_n4, i_n5, i_n6, i_n7, i_n8, k_cl, if_true, if_false]
        have : (ex nb fun k => decide (s.1 45 k ≠ nN) && decide (s.1 49 b < s.1 49 k)) = true := by
          rw [ex_iff] at e ⊢
          obtain ⟨k, hk, h⟩ := e
          simp only [Bool.and_eq_true, decide_eq_true_eq] at h
          exact ⟨k, hk, by simp [h.1, h.2, k_nN1 (n := r) (by omega)]⟩
        unfold lst
        rw [this]
        simp
  rw [tX8_isLost, (hs 5 (by omega)).1, k_holds _ b (by have := (hs 5 (by omega)).2; omega) (by omega), b_bi, tX8_isLost_13, hbit]
  try simp only [k_lit, k_nN, k_ofN]
  by_cases eo : s.1 45 b = nN
  · simp only [eo, decide_true, Bool.toNat_true]
    simp (disch := omega) only [i_leT, i_leF, i_ltT, i_ltF, i_eqT, i_eqF, i_okT, i_n1, i_n2, i_n3, i_n4, i_n5, i_n6, i_n7, i_n8, k_cl, if_true, if_false]
    exact key nr 0 (by omega) eo (fun j h => absurd h (Nat.not_lt_zero j))
  · simp only [eo, decide_false, Bool.toNat_false]
    simp (disch := omega) only [i_leT, i_leF, i_ltT, i_ltF, i_eqT, i_eqF, i_okT, i_n1, i_n2, i_n3, i_n4, i_n5, i_n6, i_n7, i_n8, k_cl, if_true, if_false]
    unfold lst
    simp [eo]
theorem op_lost {s : aMem} (hI : Inv s) (v w : Int32) : agr (fX8_lost [.ref 0, .int v, .int w]) (fX9_lost [.ref 43, .int v, .int w]) (fun _ => 1) s := by
  obtain ⟨nb, nr, c, hL, hN, -, -, -, -⟩ := id hI
  obtain ⟨⟨hnb, hnr⟩, ⟨b1, b2⟩, ⟨r1, r2⟩, -, -, hpg, hfw, hcd, -⟩ := id hL
  have bad : ∀ s2 : aMem, a_bi (ρ := Option aRes) (fX9_right [.ref 43, .int (nI 0), .int (nI 1)] (a_si s2 43 0 (nI 0))) (fun r2 s1 => a_run none shp pX9_lost 32 [some (.ref 43), some (.int v), some (.int w), none, none, none] [.int r2] s1) none (fun x s1 => some (.inr x, s1)) = some (.inl (some (.int (nI 0))), a_si (a_si s2 43 0 (nI 0)) 43 0 (nI 1)) := by
    intro s2
    rw [sX9_rightF (by simp [m_si]) (by omega) (by omega), b_bi, tX9_lost_32]
    try simp only [k_lit, k_nN, k_ofN]
    simp (disch := omega) only [i_leT, i_leF, i_ltT, i_ltF, i_eqT, i_eqF, i_okT, i_n1, i_n2, i_n3, i_n4, i_n5, i_n6, i_n7, i_n8, k_cl, if_true, if_false]
  by_cases hv : vb nb v
  · obtain ⟨b, hb, rfl⟩ := hv
    by_cases hw : vb 2 w
    · obtain ⟨j, hj, rfl⟩ := hw
      -- the class
      have hX : ∃ u, fX8_lost [.ref 0, .int (nI b), .int (nI j)] s = some (.inl (some (.int (if lst nb (s.1 45) (s.1 49) b = true then lsv (lfr (fre c (s.1 44) (s.1 45) (s.1 49) b) nb 99 1) j else if j = 0 then nI 0 else nN))), u) ∧ fr [15] [(13, 3)] s u := by
        have key : ∀ m k t, k + m = 100 → fr [15] [(13, 3)] s t → ∃ u, a_run none shp pX8_lost 30 [some (.ref 0), some (.int (nI b)), some (.int (nI j)), some (.int (nI k)), none] [] t = some (.inl (some (.int (lsv (lfr (fre c (s.1 44) (s.1 45) (s.1 49) b) nb m k) j))), u) ∧ fr [15] [(13, 3)] s u := by
          intro m
          induction m with
          | zero =>
            intro k t hk f
            refine ⟨t, ?_, f⟩
            rw [tX8_lost_30]
            try simp only [k_lit, k_nN, k_ofN]
            simp (disch := omega) only [i_leT, i_leF, i_ltT, i_ltF, i_eqT, i_eqF, i_okT, i_n1, i_n2, i_n3, i_n4, i_n5, i_n6, i_n7, i_n8, k_cl, if_true, if_false]
            rfl
          | succ m ih =>
            intro k t hk f
            have E : ∀ q, q ≠ 15 → q ≠ 13 → t.1 q = s.1 q := by
              intro q h1 h2
              funext i
              exact f.1 q i (by simp [h1]) (by simp [h2])
            obtain ⟨u, hu, fu⟩ := sX8_freedBy (s := t) (k := k) (LibI_fx hL (fx_fr f) rfl rfl) (by rw [E 23 (by decide) (by decide), E 45 (by decide) (by decide)]; exact hN.1) hb (by omega)
            rw [E 44 (by decide) (by decide), E 45 (by decide) (by decide), E 49 (by decide) (by decide)] at hu
            rw [tX8_lost_30]
            try simp only [k_lit, k_nN, k_ofN]
            simp (disch := omega) only [i_leT, i_leF, i_ltT, i_ltF, i_eqT, i_eqF, i_okT, i_n1, i_n2, i_n3, i_n4, i_n5, i_n6, i_n7, i_n8, k_cl, if_true, if_false]
            rw [hu, b_bi, tX8_lost_42]
            try simp only [k_lit, k_nN, k_ofN, nI_add]
            unfold lfr
            cases e : fnd (fre c (s.1 44) (s.1 45) (s.1 49) b k) nb 0 with
            | none =>
              rw [show oI none = nN from rfl]
              simp (disch := omega) only [i_leT, i_leF, i_ltT, i_ltF, i_eqT, i_eqF, i_okT, i_n1, i_n2, i_n3, i_n4, i_n5, i_n6, i_n7, i_n8, k_cl, if_true, if_false]
              exact ih (k + 1) u (by omega) (fr_trans f fu)
            | some d =>
              have := fnd_lt e
              rw [show oI (some d) = nI d from rfl]
              simp (disch := omega) only [i_leT, i_leF, i_ltT, i_ltF, i_eqT, i_eqF, i_okT, i_n1, i_n2, i_n3, i_n4, i_n5, i_n6, i_n7, i_n8, k_cl, if_true, if_false]
              refine ⟨u, ?_, fr_trans f fu⟩
              simp only [lsv]
              by_cases e0 : j = 0
              · subst e0
                simp (disch := omega) only [i_leT, i_leF, i_ltT, i_ltF, i_eqT, i_eqF, i_okT, i_n1, i_n2, i_n3, i_n4, i_n5, i_n6, i_n7, i_n8, k_cl, if_true, if_false]
              · simp (disch := omega) only [i_leT, i_leF, i_ltT, i_ltF, i_eqT, i_eqF, i_okT, i_n1, i_n2, i_n3, i_n4, i_n5, i_n6, i_n7, i_n8, k_cl, if_true, if_false]
                rw [if_neg e0]
        rw [tX8_lost, sX8_needBookT b1 hnb hb, b_bv, tX8_lost_5]
        try simp only [k_lit, k_nN, k_ofN]
        rw [sX8_needWhatT (by omega) hj, b_bv, tX8_lost_10, sX8_isLost hL hN.1 hb, b_bi, tX8_lost_15]
        try simp only [k_lit, k_nN, k_ofN]
        cases e : lst nb (s.1 45) (s.1 49) b
        · simp only [Bool.toNat_false, Bool.false_eq_true, if_false]
          simp (disch := omega) only [i_leT, i_leF, i_ltT, i_ltF, i_eqT, i_eqF, i_okT, i_n1, i_n2, i_n3, i_n4, i_n5, i_n6, i_n7, i_n8, k_cl, if_true, if_false]
          refine ⟨s, ?_, fr_rfl s⟩
          by_cases e0 : j = 0
          · subst e0
            simp (disch := omega) only [i_leT, i_leF, i_ltT, i_ltF, i_eqT, i_eqF, i_okT, i_n1, i_n2, i_n3, i_n4, i_n5, i_n6, i_n7, i_n8, k_cl, if_true, if_false]
          · simp (disch := omega) only [i_leT, i_leF, i_ltT, i_ltF, i_eqT, i_eqF, i_okT, i_n1, i_n2, i_n3, i_n4, i_n5, i_n6, i_n7, i_n8, k_cl, if_true, if_false]
            rw [if_neg e0]
        · simp only [Bool.toNat_true, if_true]
          simp (disch := omega) only [i_leT, i_leF, i_ltT, i_ltF, i_eqT, i_eqF, i_okT, i_n1, i_n2, i_n3, i_n4, i_n5, i_n6, i_n7, i_n8, k_cl, if_true, if_false]
          exact key 99 1 s (by omega) (fr_rfl s)
      obtain ⟨u, hu, fu⟩ := hX
      refine agr_q hI hu (fr_mono fu (by decide) (by decide)) (fun s2 h2 => ?_)
      -- the model
      have E45 : ∀ t : aMem, fr [58] [] (a_si s2 43 0 (nI 0)) t → t.1 45 = s.1 45 ∧ t.1 49 = s.1 49 ∧ t.1 44 = s.1 44 ∧ t.1 48 = s.1 48 ∧ t.1 43 1 = nI nb := by
        intro t f
        refine ⟨?_, ?_, ?_, ?_, ?_⟩
        · funext i; rw [f.1 45 i (by decide) (by simp), z_ne (by decide), scA h2 45 rfl rfl]
        · funext i; rw [f.1 49 i (by decide) (by simp), z_ne (by decide), scA h2 49 rfl rfl]
        · funext i; rw [f.1 44 i (by decide) (by simp), z_ne (by decide), scA h2 44 rfl rfl]
        · funext i; rw [f.1 48 i (by decide) (by simp), z_ne (by decide), scA h2 48 rfl rfl]
        · rw [f.1 43 1 (by decide) (by simp)]
          simp [m_si, scB h2 43 1 rfl rfl, b2]
      have inner : ∀ (k : Nat), k < 1000 → ∀ m i t, i + m = nb → fr [58] [] (a_si s2 43 0 (nI 0)) t → ∃ t', a_run none shp pX9_lost 135 [some (.ref 43), some (.int (nI b)), some (.int (nI j)), none, some (.int (nI k)), some (.int (nI i))] [] t = (match fnd (fre c (s.1 44) (s.1 45) (s.1 49) b k) m i with | some d => some (.inl (some (.int (if j = 0 then nI k else nI d))), t') | none => a_run none shp pX9_lost 125 [some (.ref 43), some (.int (nI b)), some (.int (nI j)), none, some (.int (nI (k + 1))), none] [] t') ∧ fr [58] [] (a_si s2 43 0 (nI 0)) t' := by
        intro k hk m
        induction m with
        | zero =>
          intro i t hi f
          refine ⟨t, ?_, f⟩
          rw [tX9_lost_135, (E45 t f).2.2.2.2]
          try simp only [k_lit, k_nN, k_ofN, nI_add]
          simp (disch := omega) only [i_leT, i_leF, i_ltT, i_ltF, i_eqT, i_eqF, i_okT, i_n1, i_n2, i_n3, i_n4, i_n5, i_n6, i_n7, i_n8, k_cl, if_true, if_false]
          rfl
        | succ m ih =>
          intro i t hi f
          obtain ⟨q1, q2, q3, q4, q5⟩ := E45 t f
          rw [tX9_lost_135, q5, q1, q3]
          try simp only [k_lit, k_nN, k_ofN, pk_mul, nI_add]
          simp (disch := omega) only [i_leT, i_leF, i_ltT, i_ltF, i_eqT, i_eqF, i_okT, i_n1, i_n2, i_n3, i_n4, i_n5, i_n6, i_n7, i_n8, k_cl, if_true, if_false]
          unfold fnd fre
          by_cases eo : s.1 45 i = nN
          · rw [if_pos eo]
            simp only [eo, ne_eq, not_true_eq_false, decide_false, Bool.false_and, Bool.false_eq_true, if_false]
            exact ih (i + 1) t (by omega) f
          · rw [if_neg eo]
            obtain ⟨t1, ht1, ft1⟩ := sX9_reckons (s := t) (c := c) (xc := s.1 14) (xn := s.1 13 1) (by rw [q4]; exact hcd (by omega)) (s.1 44 (4 * i)) (s.1 44 (4 * i + 1) + nI k) (s.1 44 (4 * i + 2)) (s.1 44 (4 * i + 3))
            have f2 := fr_trans f ft1
            rw [ht1, b_bi, tX9_lost_204, (E45 t1 f2).2.1]
            try simp only [k_lit, k_nN, k_ofN, nI_add]
            simp (disch := omega) only [i_leT, i_leF, i_ltT, i_ltF, i_eqT, i_eqF, i_okT, i_n1, i_n2, i_n3, i_n4, i_n5, i_n6, i_n7, i_n8, k_cl, if_true, if_false]
            simp only [eo, ne_eq, not_false_eq_true, decide_true, Bool.true_and]
            rw [show pgv c (pf (s.1 44 (4 * i)) (s.1 44 (4 * i + 1) + nI k) (s.1 44 (4 * i + 2)) (s.1 44 (4 * i + 3))) = pwm c (s.1 44) i (nI k) from rfl]
            by_cases e2 : s.1 49 b < pwm c (s.1 44) i (nI k)
            · rw [if_neg (Int32.not_le.mpr e2)]
              refine ⟨t1, ?_, f2⟩
              simp only [e2, decide_true, if_true]
              by_cases e0 : j = 0
              · subst e0
                simp (disch := omega) only [i_leT, i_leF, i_ltT, i_ltF, i_eqT, i_eqF, i_okT, i_n1, i_n2, i_n3, i_n4, i_n5, i_n6, i_n7, i_n8, k_cl, if_true, if_false]
              · simp (disch := omega) only [i_leT, i_leF, i_ltT, i_ltF, i_eqT, i_eqF, i_okT, i_n1, i_n2, i_n3, i_n4, i_n5, i_n6, i_n7, i_n8, k_cl, if_true, if_false]
                rw [if_neg e0]
            · rw [if_pos (Int32.not_lt.mp e2)]
              simp only [e2, decide_false, Bool.false_eq_true, if_false]
              exact ih (i + 1) t1 (by omega) f2
      have outer : ∀ m k t, k + m = 100 → fr [58] [] (a_si s2 43 0 (nI 0)) t → ∃ t', a_run none shp pX9_lost 125 [some (.ref 43), some (.int (nI b)), some (.int (nI j)), none, some (.int (nI k)), none] [] t = some (.inl (some (.int (lsv (lfr (fre c (s.1 44) (s.1 45) (s.1 49) b) nb m k) j))), t') ∧ fr [58] [] (a_si s2 43 0 (nI 0)) t' := by
        intro m
        induction m with
        | zero =>
          intro k t hk f
          refine ⟨t, ?_, f⟩
          rw [tX9_lost_125]
          try simp only [k_lit, k_nN, k_ofN]
          simp (disch := omega) only [i_leT, i_leF, i_ltT, i_ltF, i_eqT, i_eqF, i_okT, i_n1, i_n2, i_n3, i_n4, i_n5, i_n6, i_n7, i_n8, k_cl, if_true, if_false]
          rfl
        | succ m ih =>
          intro k t hk f
          rw [tX9_lost_125]
          try simp only [k_lit, k_nN, k_ofN]
          simp (disch := omega) only [i_leT, i_leF, i_ltT, i_ltF, i_eqT, i_eqF, i_okT, i_n1, i_n2, i_n3, i_n4, i_n5, i_n6, i_n7, i_n8, k_cl, if_true, if_false]
          obtain ⟨t1, e1, f1⟩ := inner k (by omega) nb 0 t (by omega) f
          rw [e1]
          unfold lfr
          cases e : fnd (fre c (s.1 44) (s.1 45) (s.1 49) b k) nb 0 with
          | none => exact ih (k + 1) t1 (by omega) f1
          | some d => exact ⟨t1, rfl, f1⟩
      have scan : ∀ m i (z : Bool), i + m = nb → z = (decide (s.1 45 b = nN) && !(ex i fun k => decide (s.1 45 k ≠ nN) && decide (s.1 49 b < s.1 49 k))) → a_run none shp pX9_lost 56 [some (.ref 43), some (.int (nI b)), some (.int (nI j)), some (.int (nI z.toNat)), some (.int (nI i)), none] [] (a_si s2 43 0 (nI 0)) = if lst nb (s.1 45) (s.1 49) b = true then a_run none shp pX9_lost 125 [some (.ref 43), some (.int (nI b)), some (.int (nI j)), none, some (.int (nI 1)), none] [] (a_si s2 43 0 (nI 0)) else some (.inl (some (.int (if j = 0 then nI 0 else nN))), a_si s2 43 0 (nI 0)) := by
        intro m
        obtain ⟨q1, q2, q3, q4, q5⟩ := E45 _ (fr_rfl _)
        induction m with
        | zero =>
          intro i z hi hz
          have : i = nb := by omega
          subst this
          have hz2 : lst i (s.1 45) (s.1 49) b = z := hz.symm
          rw [tX9_lost_56, q5, hz2]
          try simp only [k_lit, k_nN, k_ofN]
          cases z
          · simp only [Bool.toNat_false, Bool.false_eq_true, if_false]
            simp (disch := omega) only [i_leT, i_leF, i_ltT, i_ltF, i_eqT, i_eqF, i_okT, i_n1, i_n2, i_n3, i_n4, i_n5, i_n6, i_n7, i_n8, k_cl, if_true, if_false]
            by_cases e0 : j = 0
            · subst e0
              simp (disch := omega) only [i_leT, i_leF, i_ltT, i_ltF, i_eqT, i_eqF, i_okT, i_n1, i_n2, i_n3, i_n4, i_n5, i_n6, i_n7, i_n8, k_cl, if_true, if_false]
            · simp (disch := omega) only [i_leT, i_leF, i_ltT, i_ltF, i_eqT, i_eqF, i_okT, i_n1, i_n2, i_n3, i_n4, i_n5, i_n6, i_n7, i_n8, k_cl, if_true, if_false]
              rw [if_neg e0]
          · simp only [Bool.toNat_true, if_true]
            simp (disch := omega) only [i_leT, i_leF, i_ltT, i_ltF, i_eqT, i_eqF, i_okT, i_n1, i_n2, i_n3, i_n4, i_n5, i_n6, i_n7, i_n8, k_cl, if_true, if_false]
        | succ m ih =>
          intro i z hi hz
          rw [tX9_lost_56, q5, q1, q2]
          try simp only [k_lit, k_nN, k_ofN, nI_add]
          have ex1 : (ex (i + 1) fun k => decide (s.1 45 k ≠ nN) && decide (s.1 49 b < s.1 49 k)) = ((ex i fun k => decide (s.1 45 k ≠ nN) && decide (s.1 49 b < s.1 49 k)) || (decide (s.1 45 i ≠ nN) && decide (s.1 49 b < s.1 49 i))) := rfl
          have go := fun (z' : Bool) (hz' : z' = (decide (s.1 45 b = nN) && !((ex i fun k => decide (s.1 45 k ≠ nN) && decide (s.1 49 b < s.1 49 k)) || (decide (s.1 45 i ≠ nN) && decide (s.1 49 b < s.1 49 i))))) => ih (i + 1) z' (by omega) (by rw [ex1]; exact hz')
          cases z
          · simp only [Bool.toNat_false]
            simp (disch := omega) only [i_leT, i_leF, i_ltT, i_ltF, i_eqT, i_eqF, i_okT, i_n1, i_n2, i_n3, i_n4, i_n5, i_n6, i_n7, i_n8, k_cl, if_true, if_false]
            refine go false ?_
            rw [Bool.not_or, ← Bool.and_assoc, ← hz, Bool.false_and]
          · simp only [Bool.toNat_true]
            simp (disch := omega) only [i_leT, i_leF, i_ltT, i_ltF, i_eqT, i_eqF, i_okT, i_n1, i_n2, i_n3, i_n4, i_n5, i_n6, i_n7, i_n8, k_cl, if_true, if_false]
            by_cases eo : s.1 45 i = nN
            · rw [if_pos eo]
              refine go true ?_
              rw [Bool.not_or, ← Bool.and_assoc, ← hz]
              simp [eo]
            · rw [if_neg eo]
              by_cases e2 : s.1 49 b < s.1 49 i
              · rw [if_pos e2]
                refine go false ?_
                rw [Bool.not_or, ← Bool.and_assoc, ← hz]
                simp [eo, e2]
              · rw [if_neg e2]
                refine go true ?_
                rw [Bool.not_or, ← Bool.and_assoc, ← hz]
                simp [eo, e2]
      have hM : fX9_lost [.ref 43, .int (nI b), .int (nI j)] s2 = a_run none shp pX9_lost 56 [some (.ref 43), some (.int (nI b)), some (.int (nI j)), some (.int (nI (decide (s.1 45 b = nN)).toNat)), some (.int (nI 0)), none] [] (a_si s2 43 0 (nI 0)) := by
        obtain ⟨q1, q2, q3, q4, q5⟩ := E45 _ (fr_rfl _)
        rw [tX9_lost]
        try simp only [k_lit, k_nN, k_ofN]
        rw [sX9_isBookT q5 hnb hb, b_bi, tX9_lost_11]
        try simp only [k_lit, k_nN, k_ofN]
        simp (disch := omega) only [i_leT, i_leF, i_ltT, i_ltF, i_eqT, i_eqF, i_okT, i_n1, i_n2, i_n3, i_n4, i_n5, i_n6, i_n7, i_n8, k_cl, if_true, if_false]
        have h32 : a_run none shp pX9_lost 32 [some (.ref 43), some (.int (nI b)), some (.int (nI j)), none, none, none] [.int (nI 1)] (a_si s2 43 0 (nI 0)) = a_run none shp pX9_lost 56 [some (.ref 43), some (.int (nI b)), some (.int (nI j)), some (.int (nI (decide (s.1 45 b = nN)).toNat)), some (.int (nI 0)), none] [] (a_si s2 43 0 (nI 0)) := by
          rw [tX9_lost_32, q1]
          try simp only [k_lit, k_nN, k_ofN]
          simp (disch := omega) only [i_leT, i_leF, i_ltT, i_ltF, i_eqT, i_eqF, i_okT, i_n1, i_n2, i_n3, i_n4, i_n5, i_n6, i_n7, i_n8, k_cl, if_true, if_false]
          by_cases eo : s.1 45 b = nN
          · rw [if_pos eo]; simp [eo]
          · rw [if_neg eo]; simp [eo]
        rw [sX9_rightT (by simp [m_si])]
        simp only [b_bi, h32]
        rcases (show j = 0 ∨ j = 1 by omega) with e | e <;> subst e
        · simp (disch := omega) only [i_leT, i_leF, i_ltT, i_ltF, i_eqT, i_eqF, i_okT, i_n1, i_n2, i_n3, i_n4, i_n5, i_n6, i_n7, i_n8, k_cl, if_true, if_false]
        · simp (disch := omega) only [i_leT, i_leF, i_ltT, i_ltF, i_eqT, i_eqF, i_okT, i_n1, i_n2, i_n3, i_n4, i_n5, i_n6, i_n7, i_n8, k_cl, if_true, if_false]
      rw [hM, scan nb 0 _ (by omega) (by simp [ex])]
      cases e : lst nb (s.1 45) (s.1 49) b
      · simp only [Bool.false_eq_true, if_false]
        exact ⟨_, rfl, by simp [m_si], fr_si (fr_rfl s2) (.inr (by decide))⟩
      · simp only [if_true]
        obtain ⟨t, e1, f1⟩ := outer 99 1 _ (by omega) (fr_rfl _)
        refine ⟨t, e1, ?_, fr_trans (fr_si (fr_rfl s2) (.inr (by decide))) (fr_mono f1 (by decide) (by simp))⟩
        rw [f1.1 43 0 (by decide) (by simp)]
        simp [m_si]
    · refine agr_x (x := 0) (s1 := s) hI ?_ (fr_rfl s) (by omega) (fun s2 h2 => ⟨nI 0, a_si (a_si s2 43 0 (nI 0)) 43 0 (nI 1), ?_, by simp [m_si], fr_si (fr_si (fr_rfl s2) (.inr (by decide))) (.inr (by decide))⟩)
      · rw [tX8_lost, sX8_needBookT b1 hnb hb, b_bv, tX8_lost_5]
        try simp only [k_lit, k_nN, k_ofN]
        rw [sX8_needWhatF (by omega) hw, b_bvx]
      · rw [tX9_lost]
        try simp only [k_lit, k_nN, k_ofN]
        rw [sX9_isBookT (nb := nb) (by simp [m_si, scB h2 43 1 rfl rfl, b2]) hnb hb, b_bi, tX9_lost_11]
        try simp only [k_lit, k_nN, k_ofN]
        simp (disch := omega) only [i_leT, i_leF, i_ltT, i_ltF, i_eqT, i_eqF, i_okT, i_n1, i_n2, i_n3, i_n4, i_n5, i_n6, i_n7, i_n8, k_cl, if_true, if_false]
        have n0 : w ≠ nI 0 := fun e => hw ⟨0, by omega, e⟩
        have n1 : w ≠ nI 1 := fun e => hw ⟨1, by omega, e⟩
        rw [if_neg n0, if_neg n1]
        exact bad s2
  · refine agr_x (x := 0) (s1 := s) hI ?_ (fr_rfl s) (by omega) (fun s2 h2 => ⟨nI 0, a_si (a_si s2 43 0 (nI 0)) 43 0 (nI 1), ?_, by simp [m_si], fr_si (fr_si (fr_rfl s2) (.inr (by decide))) (.inr (by decide))⟩)
    · rw [tX8_lost, sX8_needBookF b1 hnb hv, b_bvx]
    · rw [tX9_lost]
      try simp only [k_lit, k_nN, k_ofN]
      rw [sX9_isBookF (nb := nb) (by simp [m_si, scB h2 43 1 rfl rfl, b2]) hnb hv, b_bi, tX9_lost_11]
      try simp only [k_lit, k_nN, k_ofN]
      simp (disch := omega) only [i_leT, i_leF, i_ltT, i_ltF, i_eqT, i_eqF, i_okT, i_n1, i_n2, i_n3, i_n4, i_n5, i_n6, i_n7, i_n8, k_cl, if_true, if_false]
      exact bad s2
