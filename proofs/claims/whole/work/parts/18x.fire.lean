/-! ===== fire agrees ===== -/
def fxr (o : Option (Nat × Nat)) : Int32 × Int32 := match o with
  | none => (nI 0, nN)
  | some q => (nI q.1, nI q.2)
def fmr (o : Option (Nat × Nat)) : Int32 × Int32 := match o with
  | none => (nN, nI 0)
  | some q => (nI q.1, nI q.2)
def fgd (o : Option (Nat × Nat)) : Prop := match o with
  | none => True
  | some q => q.1 < 4096 ∧ q.2 ≤ 5
theorem fsp_gd {z left k : Nat} {ab : Nat → Nat} {o : Option (Nat × Nat)} (hk : k < 4096) (ha : ab k ≤ 5) (h : fgd o) : fgd (fsp z left ab k o) := by
  unfold fsp
  split
  · cases o with
    | none => exact ⟨hk, ha⟩
    | some q =>
      simp only
      split
      · exact ⟨hk, ha⟩
      · exact h
  · exact h
theorem fab_le {nb nr st : Nat} {o pg : Nat → Int32} (hnr : nr ≤ 5) : fab nb nr o pg st ≤ 5 := Nat.le_trans (cntP_le _ _) hnr
theorem op_fire {s : aMem} (hI : Inv s) (v : Int32) : agr (fX8_fire [.ref 0, .int v]) (fX9_fire [.ref 43, .int v]) (fun _ => 1) s := by
  obtain ⟨nb, nr, c, hL, hN, -, -, -, -⟩ := id hI
  obtain ⟨⟨hnb, hnr⟩, ⟨b1, b2⟩, ⟨r1, r2⟩, -, -, hpg, hfw, -, -⟩ := id hL
  have hO := hN.1
  have hs := Own_s hnb hO
  by_cases hv : vb 13 v
  · obtain ⟨n, hn, rfl⟩ := hv
    have hz := oset_lt nb (s.1 45) 5
    have hz4 := lt12 hz hnb
    have hpz := pc_le (oset nb (s.1 45) 5)
    have h2n : 2 ^ nb ≤ 4096 := by
      have : 2 ^ nb ≤ 2 ^ 12 := Nat.pow_le_pow_right (by decide) hnb
      omega
    -- the class: the first loop
    have l1 : ∀ (lf : Nat) m r t, r + m = nr → fr [42] [] s t → (∀ j, j < r → t.1 42 j = nI (msk nb (tkb nb (s.1 49) (oset nb (s.1 45) j)))) → ∃ u, a_run none shp pX8_fire 42 [some (.ref 0), none, some (.int (nI (oset nb (s.1 45) 5))), some (.int (nI lf)), some (.int (nI r)), none, none, none] [] t = a_run none shp pX8_fire 93 [some (.ref 0), none, some (.int (nI (oset nb (s.1 45) 5))), some (.int (nI lf)), some (.int (nI 0)), some (.int nN), some (.int (nI 0)), none] [] u ∧ fr [42] [] s u ∧ ∀ j, j < nr → u.1 42 j = nI (msk nb (tkb nb (s.1 49) (oset nb (s.1 45) j))) := by
      intro lf m
      induction m with
      | zero =>
        intro r t hr f hj
        refine ⟨t, ?_, f, fun j h => hj j (by omega)⟩
        rw [tX8_fire_42, f.1 12 1 (by decide) (by simp), r1]
        try simp only [k_lit, k_nN, k_ofN]
        simp (disch := omega) only [i_leT, i_leF, i_ltT, i_ltF, i_eqT, i_eqF, i_okT, i_n1, i_n2, i_n3, i_n4, i_n5, i_n6, i_n7, i_n8, k_cl, if_true, if_false]
      | succ m ih =>
        intro r t hr f hj
        have E : ∀ q, q ≠ 42 → t.1 q = s.1 q := by
          intro q h1
          funext i
          exact f.1 q i (by simp [h1]) (by simp)
        rw [tX8_fire_42, f.1 12 1 (by decide) (by simp), r1]
        try simp only [k_lit, k_nN, k_ofN]
        simp (disch := omega) only [i_leT, i_leF, i_ltT, i_ltF, i_eqT, i_eqF, i_okT, i_n1, i_n2, i_n3, i_n4, i_n5, i_n6, i_n7, i_n8, k_cl, if_true, if_false]
        rw [E 23 (by decide), (hs r (by omega)).1, sX6_takeableFor (s := t) (nb := nb) (by rw [E 12 (by decide)]; exact b1) hnb (by rw [E 20 (by decide), E 19 (by decide)]; exact hfw) (hs r (by omega)).2, b_bi, tX8_fire_77, E 19 (by decide)]
        try simp only [k_lit, k_nN, k_ofN, nI_add]
        simp (disch := omega) only [i_leT, i_leF, i_ltT, i_ltF, i_eqT, i_eqF, i_okT, i_n1, i_n2, i_n3, i_n4, i_n5, i_n6, i_n7, i_n8, k_cl, if_true, if_false]
        refine ih (r + 1) _ (by omega) (fr_si f (by simp)) (fun j h => ?_)
        simp only [m_si, if_true]
        by_cases e : j = r
        · rw [if_pos e, e, msk_congr (fun b hb => tkb_cg (fun b hb => hpg b hb) hb)]
        · rw [if_neg e]; exact hj j (by omega)
    -- readersAbleWith
    have ra : ∀ (u : aMem), fr [42] [] s u → (∀ j, j < nr → u.1 42 j = nI (msk nb (tkb nb (s.1 49) (oset nb (s.1 45) j)))) → ∀ k, k < 2 ^ nb → fX8_readersAbleWith [.ref 0, .int (nI k)] u = some (.inl (some (.int (nI (fab nb nr (s.1 45) (s.1 49) k)))), u) := by
      intro u f hu k hk
      have key : ∀ m r, r + m = nr → a_run none shp pX8_readersAbleWith 4 [some (.ref 0), some (.int (nI k)), some (.int (nI (cntP (fun r => cant nb (s.1 49) (oset nb (s.1 45) r) k) r))), some (.int (nI r))] [] u = some (.inl (some (.int (nI (fab nb nr (s.1 45) (s.1 49) k)))), u) := by
        intro m
        induction m with
        | zero =>
          intro r hr
          rw [tX8_readersAbleWith_4, f.1 12 1 (by decide) (by simp), r1]
          simp (disch := omega) only [i_leT, i_leF, i_ltT, i_ltF, i_eqT, i_eqF, i_okT, i_n1, i_n2, i_n3, i_n4, i_n5, i_n6, i_n7, i_n8, k_cl, if_true, if_false]
          rw [show r = nr by omega]
          rfl
        | succ m ih =>
          intro r hr
          rw [tX8_readersAbleWith_4, f.1 12 1 (by decide) (by simp), r1]
          try simp only [k_lit, k_nN, k_ofN, nI_add]
          simp (disch := omega) only [i_leT, i_leF, i_ltT, i_ltF, i_eqT, i_eqF, i_okT, i_n1, i_n2, i_n3, i_n4, i_n5, i_n6, i_n7, i_n8, k_cl, if_true, if_false]
          rw [hu r (by omega), k_and]
          have h4 : msk nb (tkb nb (s.1 49) (oset nb (s.1 45) r)) &&& k < 4096 := lt12 (Nat.and_lt_two_pow _ hk) hnb
          have ih2 := ih (r + 1) (by omega)
          rw [show cntP (fun r => cant nb (s.1 49) (oset nb (s.1 45) r) k) (r + 1) = cntP (fun r => cant nb (s.1 49) (oset nb (s.1 45) r) k) r + (cant nb (s.1 49) (oset nb (s.1 45) r) k).toNat from rfl] at ih2
          have hcx := cant_x (pg := s.1 49) (x := oset nb (s.1 45) r) hk
          cases e : cant nb (s.1 49) (oset nb (s.1 45) r) k
          · rw [e] at hcx ih2
            have h0 : msk nb (tkb nb (s.1 49) (oset nb (s.1 45) r)) &&& k = 0 := by rw [hcx]
            rw [h0]
            simp (disch := omega) only [i_leT, i_leF, i_ltT, i_ltF, i_eqT, i_eqF, i_okT, i_n1, i_n2, i_n3, i_n4, i_n5, i_n6, i_n7, i_n8, k_cl, if_true, if_false]
            simp only [Bool.toNat_false, Nat.add_zero] at ih2
            exact ih2
          · rw [e] at hcx ih2
            have h0 : msk nb (tkb nb (s.1 49) (oset nb (s.1 45) r)) &&& k ≠ 0 := by rw [Ne, hcx]; simp
            simp (disch := omega) only [i_leT, i_leF, i_ltT, i_ltF, i_eqT, i_eqF, i_okT, i_n1, i_n2, i_n3, i_n4, i_n5, i_n6, i_n7, i_n8, k_cl, if_true, if_false]
            simp only [Bool.toNat_true] at ih2
            exact ih2
      rw [tX8_readersAbleWith]
      exact key nr 0 (by omega)
    -- the class: the second loop
    have l2 : ∀ (lf : Nat), lf ≤ 12 → ∀ (u : aMem), fr [42] [] s u → (∀ j, j < nr → u.1 42 j = nI (msk nb (tkb nb (s.1 49) (oset nb (s.1 45) j)))) → ∀ m k o, k + m = oset nb (s.1 45) 5 + 1 → fgd o → a_run none shp pX8_fire 93 [some (.ref 0), none, some (.int (nI (oset nb (s.1 45) 5))), some (.int (nI lf)), some (.int (fxr o).1), some (.int (fxr o).2), some (.int (nI k)), none] [] u = some (.inl (some (.int (fxr (ffd (oset nb (s.1 45) 5) lf (fab nb nr (s.1 45) (s.1 49)) m k o)).1)), u) := by
      intro lf hlf u f hu m
      induction m with
      | zero =>
        intro k o hk ho
        rw [tX8_fire_93]
        simp (disch := omega) only [i_leT, i_leF, i_ltT, i_ltF, i_eqT, i_eqF, i_okT, i_n1, i_n2, i_n3, i_n4, i_n5, i_n6, i_n7, i_n8, k_cl, if_true, if_false]
        rfl
      | succ m ih =>
        intro k o hk ho
        have hab := @fab_le nb nr k (s.1 45) (s.1 49) hnr
        have hpk := pc_le k
        have ih2 := ih (k + 1) (fsp (oset nb (s.1 45) 5) lf (fab nb nr (s.1 45) (s.1 49)) k o) (by omega) (fsp_gd (by omega) hab ho)
        rw [show ffd (oset nb (s.1 45) 5) lf (fab nb nr (s.1 45) (s.1 49)) (m + 1) k o = ffd (oset nb (s.1 45) 5) lf (fab nb nr (s.1 45) (s.1 49)) m (k + 1) (fsp (oset nb (s.1 45) 5) lf (fab nb nr (s.1 45) (s.1 49)) k o) from rfl]
        rw [← ih2, tX8_fire_93]
        try simp only [k_lit, k_nN, k_ofN, nI_add]
        simp (disch := omega) only [i_leT, i_leF, i_ltT, i_ltF, i_eqT, i_eqF, i_okT, i_n1, i_n2, i_n3, i_n4, i_n5, i_n6, i_n7, i_n8, k_cl, if_true, if_false]
        rw [k_not]
        have h4 : k ^^^ (k &&& oset nb (s.1 45) 5) < 4096 := Nat.xor_lt_two_pow (n := 12) (show k < 2 ^ 12 by omega) (Nat.and_lt_two_pow _ hz4)
        by_cases e1 : k ^^^ (k &&& oset nb (s.1 45) 5) = 0
        · rw [e1]
          simp (disch := omega) only [i_leT, i_leF, i_ltT, i_ltF, i_eqT, i_eqF, i_okT, i_n1, i_n2, i_n3, i_n4, i_n5, i_n6, i_n7, i_n8, k_cl, if_true, if_false]
          rw [sJ6_bitCount (by omega), b_bi, tX8_fire_113]
          try simp only [k_lit, k_nN, k_ofN, nI_add]
          by_cases e2 : pc k = lf
          · rw [e2]
            simp (disch := omega) only [i_leT, i_leF, i_ltT, i_ltF, i_eqT, i_eqF, i_okT, i_n1, i_n2, i_n3, i_n4, i_n5, i_n6, i_n7, i_n8, k_cl, if_true, if_false]
            rw [ra u f hu k (by omega), b_bi, tX8_fire_123]
            try simp only [k_lit, k_nN, k_ofN, nI_add]
            have eok : fok (oset nb (s.1 45) 5) lf k = true := by simp [fok, e1, e2]
            unfold fsp
            rw [if_pos eok]
            cases o with
            | none =>
              rw [show (fxr none).2 = nN from rfl]
              simp (disch := omega) only [i_leT, i_leF, i_ltT, i_ltF, i_eqT, i_eqF, i_okT, i_n1, i_n2, i_n3, i_n4, i_n5, i_n6, i_n7, i_n8, k_cl, if_true, if_false]
              rfl
            | some q =>
              have := ho.2
              rw [show (fxr (some q)).2 = nI q.2 from rfl]
              by_cases e3 : q.2 < fab nb nr (s.1 45) (s.1 49) k
              · simp (disch := omega) only [i_leT, i_leF, i_ltT, i_ltF, i_eqT, i_eqF, i_okT, i_n1, i_n2, i_n3, i_n4, i_n5, i_n6, i_n7, i_n8, k_cl, if_true, if_false]
                simp only [e3, if_true]
                rfl
              · simp (disch := omega) only [i_leT, i_leF, i_ltT, i_ltF, i_eqT, i_eqF, i_okT, i_n1, i_n2, i_n3, i_n4, i_n5, i_n6, i_n7, i_n8, k_cl, if_true, if_false]
                simp only [e3, if_false]
                rfl
          · have eok : fok (oset nb (s.1 45) 5) lf k = false := by simp [fok, e2]
            unfold fsp
            rw [eok]
            simp only [Bool.false_eq_true, if_false]
            simp (disch := omega) only [i_leT, i_leF, i_ltT, i_ltF, i_eqT, i_eqF, i_okT, i_n1, i_n2, i_n3, i_n4, i_n5, i_n6, i_n7, i_n8, k_cl, if_true, if_false]
        · have eok : fok (oset nb (s.1 45) 5) lf k = false := by simp [fok, e1]
          unfold fsp
          rw [eok]
          simp only [Bool.false_eq_true, if_false]
          simp (disch := omega) only [i_leT, i_leF, i_ltT, i_ltF, i_eqT, i_eqF, i_okT, i_n1, i_n2, i_n3, i_n4, i_n5, i_n6, i_n7, i_n8, k_cl, if_true, if_false]
    -- how many are left, and that there is a set
    have hlf : ∃ lf, lf ≤ 12 ∧ lf = (if n < pc (oset nb (s.1 45) 5) then n else pc (oset nb (s.1 45) 5)) ∧ lf ≤ pc (oset nb (s.1 45) 5) := by
      refine ⟨_, ?_, rfl, ?_⟩ <;> split <;> omega
    obtain ⟨lf, hlf1, hlf2, hlf3⟩ := hlf
    obtain ⟨y, hy1, hy2⟩ := sub_ex (oset nb (s.1 45) 5) 12 lf hlf3
    have hysub : y ^^^ (y &&& oset nb (s.1 45) 5) = 0 := sub_of (fun b hb => (hy1 b hb).1)
    have hyok : fok (oset nb (s.1 45) 5) lf y = true := by
      simp only [fok, hysub, decide_true, Bool.true_and, decide_eq_true_eq]
      exact hy2
    have hyle := sub_le hysub
    obtain ⟨q, hq⟩ := ffd_found (ab := fab nb nr (s.1 45) (s.1 49)) (oset nb (s.1 45) 5 + 1) 0 y none (by omega) (by omega) hyok
    obtain ⟨u, hu1, hu2, hu3⟩ := l1 lf nr 0 s (by omega) (fr_rfl s) (fun j h => absurd h (Nat.not_lt_zero j))
    refine agr_q (r := nI q.1) (s1 := u) hI ?_ (fr_mono hu2 (by decide) (by simp)) (fun s2 h2 => ?_)
    · rw [tX8_fire]
      try simp only [k_lit, k_nN, k_ofN]
      simp (disch := omega) only [i_leT, i_leF, i_ltT, i_ltF, i_eqT, i_eqF, i_okT, i_n1, i_n2, i_n3, i_n4, i_n5, i_n6, i_n7, i_n8, k_cl, if_true, if_false]
      rw [(hs 5 (by omega)).1, sJ6_bitCount hz4, b_bi, tX8_fire_35, tJ9_min_7cf53]
      have hmin : (if nI (pc (oset nb (s.1 45) 5)) < nI n then some (.inl (some (.int (nI (pc (oset nb (s.1 45) 5))))), s) else some (.inl (some (.int (nI n))), s) : Option aRes) = some (.inl (some (.int (nI lf))), s) := by
        by_cases e : pc (oset nb (s.1 45) 5) < n
        · rw [i_ltT e (by omega), hlf2, if_neg (by omega)]
        · rw [i_ltF (by omega) (by omega), hlf2]
          by_cases e2 : n < pc (oset nb (s.1 45) 5)
          · rw [if_pos e2]
          · rw [if_neg e2, show n = pc (oset nb (s.1 45) 5) by omega]
      rw [hmin, b_bi, tX8_fire_38]
      try simp only [k_lit, k_nN, k_ofN]
      rw [hu1]
      have := l2 lf hlf1 u hu2 hu3 (oset nb (s.1 45) 5 + 1) 0 none (by omega) trivial
      rw [hq] at this
      exact this
    · -- the model
      have q1 : (a_si s2 43 0 (nI 0)).1 43 1 = nI nb := by simp [m_si, scB h2 43 1 rfl rfl, b2]
      have q2 : (a_si s2 43 0 (nI 0)).1 43 2 = nI nr := by simp [m_si, scB h2 43 2 rfl rfl, r2]
      have q45 : (a_si s2 43 0 (nI 0)).1 45 = s.1 45 := by rw [z_ne (by decide), scA h2 45 rfl rfl]
      have q49 : (a_si s2 43 0 (nI 0)).1 49 = s.1 49 := by rw [z_ne (by decide), scA h2 49 rfl rfl]
      have inM : ∀ (k : Nat), k < 4096 → ∀ (v4 v5 : Int32) m r, r + m = nr → a_run none shp pX9_fire 92 [some (.ref 43), none, some (.int (nI (oset nb (s.1 45) 5))), some (.int (nI lf)), some (.int v4), some (.int v5), some (.int (nI k)), some (.int (nI (cntP (fun r => cant nb (s.1 49) (oset nb (s.1 45) r) k) r))), some (.int (nI r))] [] (a_si s2 43 0 (nI 0)) = if v4 = nN ∨ v5 < nI (fab nb nr (s.1 45) (s.1 49) k) then a_run none shp pX9_fire 54 [some (.ref 43), none, some (.int (nI (oset nb (s.1 45) 5))), some (.int (nI lf)), some (.int (nI k)), some (.int (nI (fab nb nr (s.1 45) (s.1 49) k))), some (.int (nI (k + 1))), none, none] [] (a_si s2 43 0 (nI 0)) else a_run none shp pX9_fire 54 [some (.ref 43), none, some (.int (nI (oset nb (s.1 45) 5))), some (.int (nI lf)), some (.int v4), some (.int v5), some (.int (nI (k + 1))), none, none] [] (a_si s2 43 0 (nI 0)) := by
        intro k hk v4 v5 m
        induction m with
        | zero =>
          intro r hr
          have : r = nr := by omega
          subst this
          rw [tX9_fire_92, q2]
          try simp only [k_lit, k_nN, k_ofN]
          simp (disch := omega) only [i_leT, i_leF, i_ltT, i_ltF, i_eqT, i_eqF, i_okT, i_n1, i_n2, i_n3, i_n4, i_n5, i_n6, i_n7, i_n8, k_cl, if_true, if_false]
          rw [tX9_fire_148, tX9_fire_156, tX9_fire_156]
          try simp only [k_lit, k_nN, k_ofN, nI_add]
          rw [show cntP (fun r => cant nb (s.1 49) (oset nb (s.1 45) r) k) r = fab nb r (s.1 45) (s.1 49) k from rfl]
          by_cases e1 : v4 = nN
          · rw [if_pos e1, if_pos (.inl e1)]
          · rw [if_neg e1]
            by_cases e2 : v5 < nI (fab nb r (s.1 45) (s.1 49) k)
            · rw [if_pos e2, if_pos (.inr e2)]
            · rw [if_neg e2, if_neg (fun h => h.elim e1 e2)]
        | succ m ih =>
          intro r hr
          rw [tX9_fire_92, q2]
          try simp only [k_lit, k_nN, k_ofN]
          rw [i_leF (by omega) (by omega), sX9_hasOfr q1 hnb (by omega), b_bi, tX9_fire_110, q45, sX9_canTake hnb q1 (lt12 (oset_lt _ _ _) hnb) hk, b_bi, tX9_fire_115, q49]
          try simp only [k_lit, k_nN, k_ofN]
          have ih2 := ih (r + 1) (by omega)
          rw [show cntP (fun r => cant nb (s.1 49) (oset nb (s.1 45) r) k) (r + 1) = cntP (fun r => cant nb (s.1 49) (oset nb (s.1 45) r) k) r + (cant nb (s.1 49) (oset nb (s.1 45) r) k).toNat from rfl] at ih2
          cases e : cant nb (s.1 49) (oset nb (s.1 45) r) k
          · rw [e] at ih2
            simp only [Bool.toNat_false] at ih2 ⊢
            simp (disch := omega) only [i_leT, i_leF, i_ltT, i_ltF, i_eqT, i_eqF, i_okT, i_n1, i_n2, i_n3, i_n4, i_n5, i_n6, i_n7, i_n8, k_cl, if_true, if_false]
            rw [tX9_fire_123]
            try simp only [k_lit, k_nN, k_ofN, nI_add]
            exact ih2
          · rw [e] at ih2
            simp only [Bool.toNat_true] at ih2 ⊢
            simp (disch := omega) only [i_leT, i_leF, i_ltT, i_ltF, i_eqT, i_eqF, i_okT, i_n1, i_n2, i_n3, i_n4, i_n5, i_n6, i_n7, i_n8, k_cl, if_true, if_false]
            rw [tX9_fire_123]
            try simp only [k_lit, k_nN, k_ofN, nI_add]
            exact ih2
      have ouM : ∀ m k o, k + m = 2 ^ nb → fgd o → a_run none shp pX9_fire 54 [some (.ref 43), none, some (.int (nI (oset nb (s.1 45) 5))), some (.int (nI lf)), some (.int (fmr o).1), some (.int (fmr o).2), some (.int (nI k)), none, none] [] (a_si s2 43 0 (nI 0)) = some (.inl (some (.int (fmr (ffd (oset nb (s.1 45) 5) lf (fab nb nr (s.1 45) (s.1 49)) m k o)).1)), a_si s2 43 0 (nI 0)) := by
        intro m
        induction m with
        | zero =>
          intro k o hk ho
          rw [tX9_fire_54, q1]
          try simp only [k_lit, k_nN, k_ofN]
          rw [k_one (by omega)]
          simp (disch := omega) only [i_leT, i_leF, i_ltT, i_ltF, i_eqT, i_eqF, i_okT, i_n1, i_n2, i_n3, i_n4, i_n5, i_n6, i_n7, i_n8, k_cl, if_true, if_false]
          rfl
        | succ m ih =>
          intro k o hk ho
          have hab := @fab_le nb nr k (s.1 45) (s.1 49) hnr
          have hpk := pc_le k
          have ih2 := ih (k + 1) (fsp (oset nb (s.1 45) 5) lf (fab nb nr (s.1 45) (s.1 49)) k o) (by omega) (fsp_gd (by omega) hab ho)
          rw [show ffd (oset nb (s.1 45) 5) lf (fab nb nr (s.1 45) (s.1 49)) (m + 1) k o = ffd (oset nb (s.1 45) 5) lf (fab nb nr (s.1 45) (s.1 49)) m (k + 1) (fsp (oset nb (s.1 45) 5) lf (fab nb nr (s.1 45) (s.1 49)) k o) from rfl]
          rw [← ih2, tX9_fire_54, q1]
          try simp only [k_lit, k_nN, k_ofN]
          rw [k_one (by omega), i_leF (by omega) (by omega), k_not, tX9_fire_156]
          try simp only [k_lit, k_nN, k_ofN, nI_add]
          have h4 : k ^^^ (k &&& oset nb (s.1 45) 5) < 4096 := Nat.xor_lt_two_pow (n := 12) (show k < 2 ^ 12 by omega) (Nat.and_lt_two_pow _ hz4)
          by_cases e1 : k ^^^ (k &&& oset nb (s.1 45) 5) = 0
          · rw [e1]
            simp (disch := omega) only [i_leT, i_leF, i_ltT, i_ltF, i_eqT, i_eqF, i_okT, i_n1, i_n2, i_n3, i_n4, i_n5, i_n6, i_n7, i_n8, k_cl, if_true, if_false]
            rw [sX9_bits (by omega), b_bi, tX9_fire_79, tX9_fire_156]
            try simp only [k_lit, k_nN, k_ofN, nI_add]
            by_cases e2 : pc k = lf
            · rw [e2]
              simp (disch := omega) only [i_leT, i_leF, i_ltT, i_ltF, i_eqT, i_eqF, i_okT, i_n1, i_n2, i_n3, i_n4, i_n5, i_n6, i_n7, i_n8, k_cl, if_true, if_false]
              have hin := inM k (by omega) (fmr o).1 (fmr o).2 nr 0 (by omega)
              rw [show cntP (fun r => cant nb (s.1 49) (oset nb (s.1 45) r) k) 0 = 0 from rfl] at hin
              rw [hin]
              have eok : fok (oset nb (s.1 45) 5) lf k = true := by simp [fok, e1, e2]
              unfold fsp
              rw [if_pos eok]
              cases o with
              | none =>
                rw [if_pos (.inl rfl)]
                rfl
              | some q =>
                have g1 := ho.1
                have g2 := ho.2
                have n1 : ¬ nI q.1 = nN := fun e => nN_ne (by omega) e.symm
                by_cases e3 : q.2 < fab nb nr (s.1 45) (s.1 49) k
                · have h3 : (fmr (some q)).1 = nN ∨ (fmr (some q)).2 < nI (fab nb nr (s.1 45) (s.1 49) k) := .inr (nI_lt e3 (by omega))
                  rw [if_pos h3]
                  simp only [e3, if_true]
                  rfl
                · have h3 : ¬ ((fmr (some q)).1 = nN ∨ (fmr (some q)).2 < nI (fab nb nr (s.1 45) (s.1 49) k)) := fun h => h.elim n1 (nI_nlt (by omega) (by omega))
                  rw [if_neg h3]
                  simp only [e3, if_false]
            · have eok : fok (oset nb (s.1 45) 5) lf k = false := by simp [fok, e2]
              unfold fsp
              rw [eok]
              simp only [Bool.false_eq_true, if_false]
              simp (disch := omega) only [i_leT, i_leF, i_ltT, i_ltF, i_eqT, i_eqF, i_okT, i_n1, i_n2, i_n3, i_n4, i_n5, i_n6, i_n7, i_n8, k_cl, if_true, if_false]
          · have eok : fok (oset nb (s.1 45) 5) lf k = false := by simp [fok, e1]
            unfold fsp
            rw [eok]
            simp only [Bool.false_eq_true, if_false]
            simp (disch := omega) only [i_leT, i_leF, i_ltT, i_ltF, i_eqT, i_eqF, i_okT, i_n1, i_n2, i_n3, i_n4, i_n5, i_n6, i_n7, i_n8, k_cl, if_true, if_false]
      refine ⟨a_si s2 43 0 (nI 0), ?_, by simp [m_si], fr_si (fr_rfl s2) (.inr (by decide))⟩
      rw [tX9_fire]
      try simp only [k_lit, k_nN, k_ofN]
      rw [sX9_withinT (n := 12) (by omega) (by omega), b_bi, tX9_fire_13]
      try simp only [k_lit, k_nN, k_ofN]
      rw [sX9_rightT (by simp [m_si]), b_bi, tX9_fire_17]
      try simp only [k_lit, k_nN, k_ofN]
      simp (disch := omega) only [i_leT, i_leF, i_ltT, i_ltF, i_eqT, i_eqF, i_okT, i_n1, i_n2, i_n3, i_n4, i_n5, i_n6, i_n7, i_n8, k_cl, if_true, if_false]
      rw [sX9_hasOf5 q1 hnb, b_bi, tX9_fire_27, q45, sX9_bits hz4, b_bi, tX9_fire_33]
      have h44 : a_run none shp pX9_fire 44 [some (.ref 43), none, some (.int (nI (oset nb (s.1 45) 5))), none, none, none, none, none, none] [.int (nI lf)] (a_si s2 43 0 (nI 0)) = some (.inl (some (.int (nI q.1))), a_si s2 43 0 (nI 0)) := by
        rw [tX9_fire_44]
        try simp only [k_lit, k_nN, k_ofN]
        have := ouM (2 ^ nb) 0 none (by omega) trivial
        rw [show 2 ^ nb = (oset nb (s.1 45) 5 + 1) + (2 ^ nb - (oset nb (s.1 45) 5 + 1)) by omega, ffd_app, hq, ffd_no _ _ _ (fun j h1 h2 => ?_)] at this
        · exact this
        · apply Bool.eq_false_iff.mpr
          intro h
          unfold fok at h
          simp only [Bool.and_eq_true, decide_eq_true_eq] at h
          have := sub_le h.1
          omega
      by_cases e : n < pc (oset nb (s.1 45) 5)
      · rw [i_leF (by omega) (by omega)]
        rw [if_pos e] at hlf2
        rw [← hlf2]
        exact h44
      · rw [i_leT (by omega) (by omega), sX9_bits hz4, b_bi]
        rw [if_neg e] at hlf2
        rw [← hlf2]
        exact h44
  · refine agr_x (x := 1) (s1 := s) hI ?_ (fr_rfl s) (by omega) (fun s2 h2 => ⟨nI 0, a_si (a_si s2 43 0 (nI 0)) 43 0 (nI 1), ?_, by simp [m_si], fr_si (fr_si (fr_rfl s2) (.inr (by decide))) (.inr (by decide))⟩)
    · rw [tX8_fire]
      try simp only [k_lit, k_nN, k_ofN]
      rcases vb_no (by omega) hv with h1 | ⟨h1, h3⟩
      · rw [if_pos h1]
      · rw [if_neg h1, if_neg]
        intro h4
        exact absurd (Int32.le_trans h3 h4) (nI_ge (by omega) (by omega))
    · rw [tX9_fire]
      try simp only [k_lit, k_nN, k_ofN]
      rw [sX9_withinF (n := 12) (by omega) hv, b_bi, tX9_fire_13]
      try simp only [k_lit, k_nN, k_ofN]
      rw [sX9_rightF (by simp [m_si]) (by omega) (by omega), b_bi, tX9_fire_17]
      try simp only [k_lit, k_nN, k_ofN]
      simp (disch := omega) only [i_leT, i_leF, i_ltT, i_ltF, i_eqT, i_eqF, i_okT, i_n1, i_n2, i_n3, i_n4, i_n5, i_n6, i_n7, i_n8, k_cl, if_true, if_false]
