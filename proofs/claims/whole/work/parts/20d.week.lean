/-! ===== the week of the model ===== -/
def MB (nb nr : Nat) (pg wn : Nat → Int32) (s : aMem) : Prop := (nb ≤ 12 ∧ nr ≤ 5) ∧ s.1 43 1 = nI nb ∧ s.1 43 2 = nI nr ∧ s.1 49 = pg ∧ s.1 47 = wn ∧ wOk nb nr wn
theorem MB_fr {nb nr : Nat} {pg wn : Nat → Int32} {s t : aMem} (h : MB nb nr pg wn s) (f : fr [45, 66, 67] [(43, 48), (43, 49)] s t) : MB nb nr pg wn t := by
  have A : ∀ k, k ≠ 45 → k ≠ 66 → k ≠ 67 → k ≠ 43 → t.1 k = s.1 k := by
    intro k h1 h2 h3 h4
    funext j
    exact f.1 k j (by simp [h1, h2, h3]) (by simp [h4])
  unfold MB at h ⊢
  rw [f.1 43 1 (by decide) (by decide), f.1 43 2 (by decide) (by decide), A 49 (by decide) (by decide) (by decide) (by decide), A 47 (by decide) (by decide) (by decide) (by decide)]
  exact h
def Pth (nb nr : Nat) (pg o0 : Nat → Int32) (path : Nat → Nat) : Nat → (Nat → Int32) → Prop
  | 0, o => o = o0
  | d + 1, o => ∃ o', Pth nb nr pg o0 path d o' ∧ eR (path d) < nr ∧ canE nb pg o' (path d) = true ∧ o = apE o' (path d)
theorem Pth_cg {nb nr : Nat} {pg o0 : Nat → Int32} {path path' : Nat → Nat} : ∀ {d : Nat} {o : Nat → Int32}, (∀ k, k < d → path k = path' k) → Pth nb nr pg o0 path d o → Pth nb nr pg o0 path' d o
  | 0, _, _, h => h
  | d + 1, o, hp, ⟨o', h1, h2, h3, h4⟩ => by
    rw [hp d (by omega)] at h2 h3 h4
    exact ⟨o', Pth_cg (fun k hk => hp k (by omega)) h1, h2, h3, h4⟩
def mW (s t : aMem) (d : Nat) (path : Nat → Nat) (o : Nat → Int32) (q : Nat × Nat × Nat × (Nat → Nat)) : Prop := (fr [45, 66, 67] [(43, 48), (43, 49)] s t ∧ t.2 = s.2) ∧ t.1 45 = o ∧ (∀ k, k < d → t.1 66 k = nI (path k) ∧ path k < 720) ∧ (q.1 ≤ 20000 ∧ q.2.1 ≤ 5 ∧ q.2.2.1 ≤ 5) ∧ t.1 43 48 = nI q.1 ∧ t.1 43 49 = nI q.2.2.1 ∧ ∀ i, i < q.2.2.1 → t.1 67 i = nI (q.2.2.2 i) ∧ q.2.2.2 i < 720
theorem m_canE {nb nr e : Nat} {pg wn o : Nat → Int32} {t : aMem} (hB : MB nb nr pg wn t) (ho : t.1 45 = o) (he : e < 144 * nr) : fX9_canBe [.ref 43, .int (nI e)] t = some (.inl (some (.int (nI (canE nb pg o e).toNat))), t) := by
  obtain ⟨⟨hnb, hnr⟩, b1, b2, b3, -⟩ := hB
  have hr := eR_lt he
  have hl := eL_lt e
  have ht := eT_lt e
  by_cases h : eL e < nb ∧ eT e < nb
  · have := sX9_canBe hnb hnr b1 b2 hr h.1 h.2
    rw [← e_all, ho, b3] at this
    rw [this]
    unfold canE
    simp [h.1, h.2]
  · have hc : canE nb pg o e = false := by
      unfold canE
      by_cases h1 : eL e < nb
      · have h2 : ¬ eT e < nb := fun c => h ⟨h1, c⟩
        simp [h2]
      · simp [h1]
    rw [hc, tX9_canBe]
    try simp only [k_lit, k_nN, k_ofN]
    have hv : ¬ (vb nr (nI (eR e)) ∧ vb nb (nI (eL e)) ∧ vb nb (nI (eT e))) := by
      rintro ⟨-, ⟨a, ha, ea⟩, ⟨b, hb, eb⟩⟩
      rw [nI_eq (by omega) (by omega)] at ea eb
      exact h ⟨by omega, by omega⟩
    have e1 := dv144 (r := eR e) (l := eL e) (t := eT e) (by omega) hl ht
    have e2 := dv12 (r := eR e) (l := eL e) (t := eT e) (by omega) hl ht
    have e3 := rm144 (r := eR e) (l := eL e) (t := eT e) (by omega) hl ht
    rw [← e_all] at e1 e2 e3
    rw [e1, e3, e2, rm12 (by omega) hl, sX9_troubleF b1 b2 hnb hnr hv, b_bi]
    simp (disch := omega) only [i_leT, i_leF, i_ltT, i_ltF, i_eqT, i_eqF, i_okT, i_n1, i_n2, i_n3, i_n4, i_n5, i_n6, i_n7, i_n8, k_cl, if_true, if_false]
    rfl
/-- the exchanges are taken back, from the last on -/
theorem m_unw {nb nr : Nat} {pg o0 : Nat → Int32} {path : Nat → Nat} (hnb : nb ≤ 12) (hnr : nr ≤ 5) : ∀ d o t, d ≤ 5 → Pth nb nr pg o0 path d o → t.1 45 = o → (∀ k, k < d → t.1 66 k = nI (path k) ∧ path k < 720) → ∃ u, a_run none shp pX9_week 151 [some (.ref 43), none, none, none, some (.int (nI d + nN))] [] t = some (.inl (some (.int (-nI 2))), u) ∧ fr [45] [] t u ∧ u.2 = t.2 ∧ u.1 45 = o0 := by
  intro d
  induction d with
  | zero =>
    intro o t hd hP ho hk
    refine ⟨t, ?_, fr_rfl t, rfl, ?_⟩
    · rw [tX9_week_151]
      try simp only [k_lit, k_nN, k_ofN]
      rw [if_pos (by decide)]
    · have : o = o0 := hP
      rw [ho, this]
  | succ d ih =>
    intro o t hd hP ho hk
    obtain ⟨o', h1, h2, h3, h4⟩ := hP
    obtain ⟨c1, c2, c3, c4, c5, -⟩ := canE_ok (nr := nr) h3
    obtain ⟨k1, k2⟩ := hk d (by omega)
    obtain ⟨w, hw, fw1, ew, lw⟩ := sX9_turns0T (s := t) (o := o') (r := eR (path d)) (l := eL (path d)) (t := eT (path d)) (by omega) (eL_lt _) (eT_lt _) c3 (by rw [ho, h4]; rfl) c4 c5
    rw [← e_all] at hw
    obtain ⟨u, hu, fu, lu, eu⟩ := ih o' w (by omega) h1 ew (fun k hk2 => by rw [fw1.1 66 k (by decide) (by simp)]; exact hk k (by omega))
    refine ⟨u, ?_, fr_trans fw1 fu, lu.trans lw, eu⟩
    rw [nI_m1, tX9_week_151]
    try simp only [k_lit, k_nN, k_ofN]
    simp (disch := omega) only [i_leT, i_leF, i_ltT, i_ltF, i_eqT, i_eqF, i_okT, i_n1, i_n2, i_n3, i_n4, i_n5, i_n6, i_n7, i_n8, k_cl, if_true, if_false]
    rw [k1, hw, b_bv, tX9_week_168]
    try simp only [k_lit, k_nN, k_ofN]
    exact hu
def wlL (nb nr : Nat) (pg wn : Nat → Int32) (rem d : Nat) (path : Nat → Nat) (o : Nat → Int32) (m e : Nat) (σ : Option (Nat × Nat × Nat × (Nat → Nat))) : Option (Nat × Nat × Nat × (Nat → Nat)) := match rem with
  | 0 => σ
  | r + 1 => wlp nb nr pg wn (wnd nb nr pg wn r) d path o m e σ
theorem wnd_L (nb nr : Nat) (pg wn : Nat → Int32) (rem d : Nat) (path : Nat → Nat) (o : Nat → Int32) (σ : Option (Nat × Nat × Nat × (Nat → Nat))) : wnd nb nr pg wn rem d path o σ = wlL nb nr pg wn rem d path o (144 * nr) 0 σ := by
  cases rem <;> rfl
/-- where the walk ends: back at the place above, or spent -/
def mE (nb nr : Nat) (s : aMem) (d : Nat) (path : Nat → Nat) (o o0 : Nat → Int32) (R : Option aRes) (σ : Option (Nat × Nat × Nat × (Nat → Nat))) : Prop := match σ with
  | some q => ∃ u, R = a_run none shp pX9_week 29 [some (.ref 43), some (.int (nI q.2.1)), some (.int (nI d + nN)), none, none] [] u ∧ mW s u d path o q
  | none => ∃ u, R = some (.inl (some (.int (-nI 2))), u) ∧ (fr [45, 66, 67] [(43, 48), (43, 49)] s u ∧ u.2 = s.2) ∧ u.1 45 = o0
theorem m_lp {nb nr : Nat} {pg wn : Nat → Int32} {s : aMem} {o0 : Nat → Int32} (hB : MB nb nr pg wn s) : ∀ rem d, d + rem = nr → ∀ path o m e t q, e + m = 144 * nr → mW s t d path o q → Pth nb nr pg o0 path d o → mE nb nr s d path o o0 (a_run none shp pX9_week 63 [some (.ref 43), some (.int (nI q.2.1)), some (.int (nI d)), some (.int (nI e)), none] [] t) (wlL nb nr pg wn rem d path o m e (some q)) := by
  obtain ⟨⟨hnb, hnr⟩, -⟩ := id hB
  intro rem
  induction rem with
  | zero =>
    intro d hd path o m
    induction m with
    | zero =>
      intro e t q he hw hP
      refine ⟨t, ?_, hw⟩
      rw [tX9_week_63, (MB_fr hB hw.1.1).2.2.1]
      try simp only [k_lit, k_nN, k_ofN, pk_mul]
      simp (disch := omega) only [i_leT, i_leF, i_ltT, i_ltF, i_eqT, i_eqF, i_okT, i_n1, i_n2, i_n3, i_n4, i_n5, i_n6, i_n7, i_n8, k_cl, if_true, if_false]
    | succ m ih =>
      intro e t q he hw hP
      obtain ⟨u, hu, wu⟩ := ih (e + 1) t q (by omega) hw hP
      refine ⟨u, ?_, wu⟩
      rw [tX9_week_63, (MB_fr hB hw.1.1).2.2.1]
      try simp only [k_lit, k_nN, k_ofN, pk_mul, nI_add]
      simp (disch := omega) only [i_leT, i_leF, i_ltT, i_ltF, i_eqT, i_eqF, i_okT, i_n1, i_n2, i_n3, i_n4, i_n5, i_n6, i_n7, i_n8, k_cl, if_true, if_false]
      exact hu
  | succ rem ihr =>
    intro d hd path o m
    induction m with
    | zero =>
      intro e t q he hw hP
      refine ⟨t, ?_, hw⟩
      rw [tX9_week_63, (MB_fr hB hw.1.1).2.2.1]
      try simp only [k_lit, k_nN, k_ofN, pk_mul]
      simp (disch := omega) only [i_leT, i_leF, i_ltT, i_ltF, i_eqT, i_eqF, i_okT, i_n1, i_n2, i_n3, i_n4, i_n5, i_n6, i_n7, i_n8, k_cl, if_true, if_false]
    | succ m ih =>
      intro e t q he hw hP
      have hBt := MB_fr hB hw.1.1
      obtain ⟨⟨f, lt⟩, h45, h66, ⟨z1, z2, z3⟩, h48, h49, h67⟩ := id hw
      have hst : wlL nb nr pg wn (rem + 1) d path o (m + 1) e (some q) = wlp nb nr pg wn (wnd nb nr pg wn rem) d path o m (e + 1) (if (!dnB path d (eR e) && canE nb pg o e) = true then wch nr wn (wnd nb nr pg wn rem) d path o e (some q) else some q) := rfl
      have heR : eR e < nr := eR_lt (by omega)
      have eq63 := tX9_week_63 (nI q.2.1) (nI d) (nI e) t
      simp only [k_lit, k_nN, k_ofN, pk_mul, nI_add] at eq63
      rw [hBt.2.2.1, pk_mul, i_leF (by omega) (by omega), i_eqF (show d ≠ nr by omega) (by omega) (by omega), pk_div (by omega) (by omega) (by omega), show e / 144 = eR e from rfl, sX9_isDoneBy (by omega) h66 (by omega), b_bi] at eq63
      have eq93 := tX9_week_93 (nI q.2.1) (nI d) (nI e) (nI (dnB path d (eR e)).toNat) t
      simp only [k_lit, k_nN, k_ofN, nI_add] at eq93
      rw [eq93] at eq63
      cases ed : dnB path d (eR e)
      · rw [ed, Bool.toNat_false, i_eqT rfl, m_canE hBt h45 (by omega), b_bi] at eq63
        have eq101 := tX9_week_101 (nI q.2.1) (nI d) (nI e) (nI (canE nb pg o e).toNat) t
        simp only [k_lit, k_nN, k_ofN, pk_mul, nI_add] at eq101
        rw [eq101] at eq63
        cases ec : canE nb pg o e
        · rw [ec, Bool.toNat_false, i_eqT rfl] at eq63
          rw [eq63, hst, ed, ec]
          exact ih (e + 1) t q (by omega) hw hP
        · rw [ec, Bool.toNat_true, i_eqF (by decide) (by decide) (by decide), hBt.2.2.1, pk_mul, i_eqF (show d ≠ nr by omega) (by omega) (by omega), i_ltT (by omega) (by omega), h48] at eq63
          rw [hst, ed, ec]
          simp only [Bool.not_false, Bool.and_self, if_true]
          rw [show wch nr wn (wnd nb nr pg wn rem) d path o e (some q) = if q.1 = 20000 then none else wnd nb nr pg wn rem (d + 1) (upN path d e) (apE o e) (some (wgh nr wn (d + 1) (upN path d e) (apE o e) (q.1 + 1, q.2))) from rfl]
          by_cases e2 : q.1 = 20000
          · rw [if_pos e2, wlp_none]
            rw [e2, i_eqT rfl, show nI d - nI 1 = nI d + nN from Int32.sub_eq_add_neg _ _] at eq63
            obtain ⟨u, hu, fu, lu, eu⟩ := m_unw hnb hnr d o t (by omega) hP h45 h66
            exact ⟨u, by rw [eq63, hu], ⟨fr_trans f (fr_mono fu (by simp) (by simp)), lu.trans lt⟩, eu⟩
          · rw [if_neg e2]
            obtain ⟨c1, c2, c3, c4, c5, -⟩ := canE_ok (nr := nr) ec
            rw [i_eqF e2 (by omega) (by omega), i_okT (by omega) (by omega), nI_add, k_cl (by omega)] at eq63
            -- it is made
            obtain ⟨t2, ht2, ft2, et2, lt2⟩ := sX9_turns0F (s := a_si (a_si t 43 48 (nI (q.1 + 1))) 66 d (nI e)) (r := eR e) (l := eL e) (t := eT e) (by omega) (eL_lt _) (eT_lt _) c3
            rw [← e_all] at ht2
            have et3 : t2.1 45 = apE o e := by
              rw [et2]
              unfold apE
              rw [← h45]
              congr 1
            have F2 : fr [45, 66, 67] [(43, 48), (43, 49)] s t2 := fr_trans (fr_si (fr_si f (k := 43) (j := 48) (x := nI (q.1 + 1)) (by simp)) (k := 66) (j := d) (x := nI e) (by simp)) (fr_mono ft2 (by simp) (by simp))
            have hB2 := MB_fr hB F2
            rw [ht2, b_bv, tX9_week_200, sX9_served hnb hnr hB2.2.2.1 (by rw [hB2.2.2.2.2.1]; exact hB2.2.2.2.2.2), b_bi, hB2.2.2.2.2.1, et3] at eq63
            have eq204 := tX9_week_204 (nI q.2.1) (nI d) (nI e) (nI (svd nr wn (apE o e))) t2
            simp only [k_lit, k_nN, k_ofN, nI_add] at eq204
            rw [eq204] at eq63
            have hsl := svd_le nr wn (apE o e)
            have hP1 : Pth nb nr pg o0 (upN path d e) (d + 1) (apE o e) := by
              have hd1 : upN path d e d = e := by simp [upN]
              refine ⟨o, Pth_cg (fun k hk => ?_) hP, by rw [hd1]; exact heR, by rw [hd1]; exact ec, by rw [hd1]⟩
              unfold upN
              rw [if_neg (by omega)]
            have k66 : ∀ k, k < d + 1 → t2.1 66 k = nI (upN path d e k) ∧ upN path d e k < 720 := by
              intro k hk
              rw [ft2.1 66 k (by decide) (by simp)]
              unfold upN
              by_cases ek : k = d
              · subst ek
                simp [m_si]
                omega
              · have := h66 k (by omega)
                simpa [m_si, ek] using this
            have v48 : t2.1 43 48 = nI (q.1 + 1) := by
              rw [ft2.1 43 48 (by decide) (by simp)]
              simp [m_si]
            have v49 : t2.1 43 49 = nI q.2.2.1 := by
              rw [ft2.1 43 49 (by decide) (by simp)]
              simpa [m_si] using h49
            have v67 : ∀ i, t2.1 67 i = t.1 67 i := by
              intro i
              rw [ft2.1 67 i (by decide) (by simp)]
              simp [m_si]
            have L2 : t2.2 = s.2 := lt2.trans lt
            -- weighing: in both cases the walk goes on one place deeper
            have deep : ∃ t3, a_run none shp pX9_week 63 [some (.ref 43), some (.int (nI q.2.1)), some (.int (nI d)), some (.int (nI e)), none] [] t = a_run none shp pX9_week 63 [some (.ref 43), some (.int (nI (wgh nr wn (d + 1) (upN path d e) (apE o e) (q.1 + 1, q.2)).2.1)), some (.int (nI (d + 1))), some (.int (nI 0)), none] [] t3 ∧ mW s t3 (d + 1) (upN path d e) (apE o e) (wgh nr wn (d + 1) (upN path d e) (apE o e) (q.1 + 1, q.2)) := by
              have go : ∀ (b : Nat) (w : aMem), w.1 66 (d + 1) = nN → a_run none shp pX9_week 29 [some (.ref 43), some (.int (nI b)), some (.int (nI (d + 1))), none, none] [] w = a_run none shp pX9_week 63 [some (.ref 43), some (.int (nI b)), some (.int (nI (d + 1))), some (.int (nI 0)), none] [] w := by
                intro b w hwn
                rw [tX9_week_29]
                try simp only [k_lit, k_nN, k_ofN]
                simp (disch := omega) only [i_leT, i_leF, i_ltT, i_ltF, i_eqT, i_eqF, i_okT, i_n1, i_n2, i_n3, i_n4, i_n5, i_n6, i_n7, i_n8, k_cl, if_true, if_false]
                rw [hwn]
                simp (disch := omega) only [i_leT, i_leF, i_ltT, i_ltF, i_eqT, i_eqF, i_okT, i_n1, i_n2, i_n3, i_n4, i_n5, i_n6, i_n7, i_n8, k_cl, if_true, if_false]
                rw [tX9_week_54]
                try simp only [k_lit, k_nN, k_ofN]
                simp (disch := omega) only [i_leT, i_leF, i_ltT, i_ltF, i_eqT, i_eqF, i_okT, i_n1, i_n2, i_n3, i_n4, i_n5, i_n6, i_n7, i_n8, k_cl, if_true, if_false]
                rw [hwn, nN_a1]
              by_cases e3 : q.2.1 < svd nr wn (apE o e)
              · have ew : wgh nr wn (d + 1) (upN path d e) (apE o e) (q.1 + 1, q.2) = (q.1 + 1, svd nr wn (apE o e), d + 1, upN path d e) := by
                  unfold wgh
                  rw [if_pos e3]
                rw [i_leF e3 (by omega), sX9_served hnb hnr hB2.2.2.1 (by rw [hB2.2.2.2.2.1]; exact hB2.2.2.2.2.2), b_bi, hB2.2.2.2.2.1, et3] at eq63
                have eq212 := tX9_week_212 (nI q.2.1) (nI d) (nI e) (nI (svd nr wn (apE o e))) t2
                simp only [k_lit, k_nN, k_ofN, nI_add] at eq212
                rw [eq212] at eq63
                have copy : ∀ n k w, k + n = d + 1 → fr [67] [] (a_si t2 43 49 (nI (d + 1))) w → w.2 = t2.2 → (∀ j, j < k → w.1 67 j = t2.1 66 j) → ∃ w', a_run none shp pX9_week 223 [some (.ref 43), some (.int (nI (svd nr wn (apE o e)))), some (.int (nI d)), none, some (.int (nI k))] [] w = a_run none shp pX9_week 29 [some (.ref 43), some (.int (nI (svd nr wn (apE o e)))), some (.int (nI (d + 1))), none, none] [] (a_si w' 66 (d + 1) nN) ∧ fr [67] [] (a_si t2 43 49 (nI (d + 1))) w' ∧ w'.2 = t2.2 ∧ ∀ j, j < d + 1 → w'.1 67 j = t2.1 66 j := by
                  intro n
                  induction n with
                  | zero =>
                    intro k w hk fw1 lw hj
                    refine ⟨w, ?_, fw1, lw, fun j h => hj j (by omega)⟩
                    rw [tX9_week_223]
                    try simp only [k_lit, k_nN, k_ofN, nI_add]
                    simp (disch := omega) only [i_leT, i_leF, i_ltT, i_ltF, i_eqT, i_eqF, i_okT, i_n1, i_n2, i_n3, i_n4, i_n5, i_n6, i_n7, i_n8, k_cl, if_true, if_false]
                  | succ n ihn =>
                    intro k w hk fw1 lw hj
                    rw [tX9_week_223]
                    try simp only [k_lit, k_nN, k_ofN, nI_add]
                    simp (disch := omega) only [i_leT, i_leF, i_ltT, i_ltF, i_eqT, i_eqF, i_okT, i_n1, i_n2, i_n3, i_n4, i_n5, i_n6, i_n7, i_n8, k_cl, if_true, if_false]
                    refine ihn (k + 1) _ (by omega) (fr_si fw1 (by simp)) lw (fun j h => ?_)
                    simp only [m_si, if_true]
                    by_cases ej : j = k
                    · rw [if_pos ej, ej, fw1.1 66 k (by decide) (by simp)]
                      simp [m_si]
                    · rw [if_neg ej]
                      exact hj j (by omega)
                obtain ⟨w', hw', fw', lw', vw'⟩ := copy (d + 1) 0 _ (by omega) (fr_rfl _) rfl (fun j h => absurd h (Nat.not_lt_zero j))
                rw [hw', go _ _ (by simp [m_si])] at eq63
                rw [ew]
                refine ⟨_, eq63, ⟨fr_si (fr_trans (fr_si F2 (k := 43) (j := 49) (x := nI (d + 1)) (by simp)) (fr_mono fw' (by simp) (by simp))) (by simp), lw'.trans L2⟩, ?_, fun k hk => ?_, ⟨by show q.1 + 1 ≤ 20000; omega, by show svd nr wn (apE o e) ≤ 5; omega, by show d + 1 ≤ 5; omega⟩, ?_, ?_, fun i hi => ?_⟩
                · rw [← et3]
                  funext j
                  simp only [m_si, show ((45 : Nat) = 66) = False from by simp, if_false]
                  rw [fw'.1 45 j (by decide) (by simp)]
                  simp [m_si]
                · have hk2 := k66 k hk
                  simp only [m_si, if_true, show ¬ k = d + 1 by omega, if_false]
                  rw [fw'.1 66 k (by decide) (by simp)]
                  simpa [m_si] using hk2
                · simp only [m_si, show ((43 : Nat) = 66) = False from by simp, if_false]
                  rw [fw'.1 43 48 (by decide) (by simp)]
                  simpa [m_si] using v48
                · simp only [m_si, show ((43 : Nat) = 66) = False from by simp, if_false]
                  rw [fw'.1 43 49 (by decide) (by simp)]
                  simp [m_si]
                · have hi2 : i < d + 1 := hi
                  simp only [m_si, show ((67 : Nat) = 66) = False from by simp, if_false]
                  rw [vw' i hi2]
                  exact k66 i hi2
              · have ew : wgh nr wn (d + 1) (upN path d e) (apE o e) (q.1 + 1, q.2) = (q.1 + 1, q.2) := by
                  unfold wgh
                  rw [if_neg e3]
                rw [i_leT (by omega) (by omega), i_okT (by omega) (by omega), k_cl (by omega), go _ _ (by simp [m_si])] at eq63
                rw [ew]
                refine ⟨_, eq63, ⟨fr_si F2 (by simp), L2⟩, ?_, fun k hk => ?_, ⟨by show q.1 + 1 ≤ 20000; omega, z2, z3⟩, ?_, ?_, fun i hi => ?_⟩
                · rw [← et3]
                  funext j
                  simp [m_si]
                · have hk2 := k66 k hk
                  simpa [m_si, show ¬ k = d + 1 by omega] using hk2
                · simpa [m_si] using v48
                · simpa [m_si] using v49
                · have := h67 i hi
                  rw [← v67] at this
                  simpa [m_si] using this
            obtain ⟨t3, eq3, w3⟩ := deep
            have hch := ihr (d + 1) (by omega) (upN path d e) (apE o e) (144 * nr) 0 t3 _ (by omega) w3 hP1
            rw [← eq3, ← wnd_L] at hch
            revert hch
            generalize wnd nb nr pg wn rem (d + 1) (upN path d e) (apE o e) (some (wgh nr wn (d + 1) (upN path d e) (apE o e) (q.1 + 1, q.2))) = σ'
            intro hch
            cases σ' with
            | none =>
              rw [wlp_none]
              exact hch
            | some q' =>
              obtain ⟨u, hu, wu⟩ := hch
              obtain ⟨⟨fu, lu⟩, u45, u66, uz, u48, u49, u67⟩ := wu
              obtain ⟨g1, g2⟩ := u66 d (by omega)
              have hd1 : upN path d e d = e := by simp [upN]
              rw [hd1] at g1
              obtain ⟨w, hw1, fw1, ew, lw⟩ := sX9_turns0T (s := u) (o := o) (r := eR e) (l := eL e) (t := eT e) (by omega) (eL_lt _) (eT_lt _) c3 u45 c4 c5
              rw [← e_all] at hw1
              have ew66 : w.1 66 d = nI e := by rw [fw1.1 66 d (by decide) (by simp), g1]
              have mw : mW s w d path o q' := by
                refine ⟨⟨fr_trans fu (fr_mono fw1 (by simp) (by simp)), lw.trans lu⟩, ew, fun k hk => ?_, uz, ?_, ?_, fun i hi => ?_⟩
                · rw [fw1.1 66 k (by decide) (by simp)]
                  have := u66 k (by omega)
                  unfold upN at this
                  rw [if_neg (by omega)] at this
                  exact this
                · rw [fw1.1 43 48 (by decide) (by simp)]; exact u48
                · rw [fw1.1 43 49 (by decide) (by simp)]; exact u49
                · rw [fw1.1 67 i (by decide) (by simp)]; exact u67 i hi
              have hback : a_run none shp pX9_week 63 [some (.ref 43), some (.int (nI q.2.1)), some (.int (nI d)), some (.int (nI e)), none] [] t = a_run none shp pX9_week 63 [some (.ref 43), some (.int (nI q'.2.1)), some (.int (nI d)), some (.int (nI (e + 1))), none] [] w := by
                rw [hu, nI_m1, tX9_week_29]
                try simp only [k_lit, k_nN, k_ofN]
                simp (disch := omega) only [i_leT, i_leF, i_ltT, i_ltF, i_eqT, i_eqF, i_okT, i_n1, i_n2, i_n3, i_n4, i_n5, i_n6, i_n7, i_n8, k_cl, if_true, if_false]
                rw [g1]
                simp (disch := omega) only [i_leT, i_leF, i_ltT, i_ltF, i_eqT, i_eqF, i_okT, i_n1, i_n2, i_n3, i_n4, i_n5, i_n6, i_n7, i_n8, k_cl, if_true, if_false]
                rw [hw1, b_bv, tX9_week_54]
                try simp only [k_lit, k_nN, k_ofN]
                simp (disch := omega) only [i_leT, i_leF, i_ltT, i_ltF, i_eqT, i_eqF, i_okT, i_n1, i_n2, i_n3, i_n4, i_n5, i_n6, i_n7, i_n8, k_cl, if_true, if_false]
                rw [ew66, nI_add]
              rw [hback]
              exact ih (e + 1) w q' (by omega) mw hP
      · rw [ed, Bool.toNat_true, i_eqF (by decide) (by decide) (by decide)] at eq63
        rw [eq63, hst, ed]
        exact ih (e + 1) t q (by omega) hw hP
