/-! ===== worth ===== -/
def gup (g : Nat → Int32) (a : Nat) (p : Int32) (k : Nat) : Int32 := if k = a then p else g k
theorem wo_bit (x a c : Nat) : (x ^^^ (x &&& 2 ^ a)).testBit c = (x.testBit c && !decide (a = c)) := by
  rw [Nat.testBit_xor, Nat.testBit_and, pow_bit]
  cases x.testBit c <;> cases decide (a = c) <;> rfl
theorem wo_lt {x a n : Nat} (h : x < 2 ^ n) : x ^^^ (x &&& 2 ^ a) < 2 ^ n := by
  apply set_lt
  intro c hc
  rw [wo_bit, set_hi h hc, Bool.false_and]
theorem rif {nb x z a : Nat} {g : Nat → Int32} {p : Int32} (hz : z < 2 ^ nb) (hx : x < 2 ^ nb) (ha : x.testBit a = true) (hd : ∀ c, z.testBit c = true → x.testBit c = false) : x ||| ((msk nb (tkb nb g (x ^^^ (x &&& 2 ^ a))) ||| msk nb fun c => decide (g c < p)) &&& z) = rch nb (gup g a p) x (x ||| z) := by
  have hy : x ||| z < 2 ^ nb := Nat.or_lt_two_pow hx hz
  apply Nat.eq_of_testBit_eq
  intro c
  apply Bool.eq_iff_iff.mpr
  rw [rch_bit nb _ hy]
  unfold al
  rw [Nat.testBit_or, Nat.testBit_and, Nat.testBit_or, Nat.testBit_or, msk_bit, msk_bit]
  cases hxc : x.testBit c
  · simp only [Bool.false_or, Bool.false_eq_true, false_or]
    cases hzc : z.testBit c
    · simp
    · simp only [Bool.and_true, true_and]
      have hc : c < nb := by
        by_cases e : c < nb
        · exact e
        · rw [set_hi hz (by omega)] at hzc; cases hzc
      have hca : c ≠ a := by
        intro e
        rw [e, ha] at hxc
        cases hxc
      have han : a < nb := by
        by_cases e : a < nb
        · exact e
        · rw [set_hi hx (by omega)] at ha; cases ha
      simp only [hc, decide_true, Bool.true_and, Bool.or_eq_true, decide_eq_true_eq]
      unfold tkb
      rw [ex_iff, ex_iff]
      constructor
      · rintro (⟨k, hk, h⟩ | h)
        · rw [wo_bit] at h
          simp only [Bool.and_eq_true, Bool.not_eq_true', decide_eq_false_iff_not, decide_eq_true_eq] at h
          refine ⟨k, hk, ?_⟩
          have : k ≠ a := fun e => h.1.2 e.symm
          simp [gup, hca, this, h.1.1, h.2]
        · exact ⟨a, han, by simp [gup, hca, ha, h]⟩
      · rintro ⟨k, hk, h⟩
        simp only [Bool.and_eq_true, decide_eq_true_eq] at h
        by_cases e : k = a
        · subst e
          right
          simpa [gup, hca] using h.2
        · left
          refine ⟨k, hk, ?_⟩
          rw [wo_bit]
          have h2 : g c < g k := by simpa [gup, hca, e] using h.2
          have : ¬ a = k := fun q => e q.symm
          simp [h.1, this, h2]
  · simp
theorem sX8_reachIf {s : aMem} {nb nr h a : Nat} {c : List (Nat × Nat)} {p : Int32} (hL : LibI nb nr c s) (hO : Own nb nr (s.1 23) (s.1 45)) (hh : h < 2 ^ nb) (ha : a < nb) (hha : h.testBit a = true) (hd : ∀ c, (oset nb (s.1 45) 5).testBit c = true → h.testBit c = false) : fX8_reachIf [.ref 0, .int (nI h), .int (nI a), .int p] s = some (.inl (some (.int (nI (rch nb (gup (s.1 49) a p) h (h ||| oset nb (s.1 45) 5))))), s) := by
  obtain ⟨⟨hnb, hnr⟩, ⟨b1, b2⟩, ⟨r1, r2⟩, -, -, hpg, hfw, -, -⟩ := id hL
  have h4 := lt12 (wo_lt (a := a) hh) hnb
  rw [tX8_reachIf]
  try simp only [k_lit, k_nN, k_ofN]
  rw [k_one (by omega), k_not, sX6_takeableFor b1 hnb hfw h4, b_bi, tX8_reachIf_14, sX6_booksUnder b1 hnb, b_bi, tX8_reachIf_22, (Own_s hnb hO 5 (by omega)).1, k_or, k_and, k_or]
  have e := rif (g := s.1 49) (p := p) (oset_lt nb (s.1 45) 5) hh hha hd
  rw [← e, msk_congr (n := nb) (p := tkb nb (s.1 19) (h ^^^ (h &&& 2 ^ a))) (fun b hb => tkb_cg (fun b hb => hpg b hb) hb), msk_congr (n := nb) (p := fun c => decide (s.1 19 c < p)) (q := fun c => decide (s.1 49 c < p)) (fun b hb => by rw [hpg b hb])]
theorem sh_dis {nb r : Nat} {o : Nat → Int32} (hr : r < 5) : ∀ c, (oset nb o 5).testBit c = true → (oset nb o r).testBit c = false := by
  intro c h
  rw [oset_p, msk_bit] at h ⊢
  simp only [Bool.and_eq_true, decide_eq_true_eq] at h
  rw [h.2, plc_5, plc_r hr]
  simp [k_nN2 (n := r) (by omega)]
theorem op_worth {s : aMem} (hI : Inv s) (v : Int32) : agr (fX8_worth [.ref 0, .int v]) (fX9_worth [.ref 43, .int v]) (fun x => x + 1) s := by
  obtain ⟨nb, nr, c, hL, hN, -, -, -, -⟩ := id hI
  obtain ⟨⟨hnb, hnr⟩, ⟨b1, b2⟩, ⟨r1, r2⟩, -, -, hpg, hfw, hcd, -⟩ := id hL
  have hO := hN.1
  by_cases hv : vb nb v
  · obtain ⟨b, hb, rfl⟩ := hv
    have hM : ∀ s2 : aMem, fw s s2 → fX9_worth [.ref 43, .int (nI b)] s2 = a_run none shp pX9_worth 15 [some (.ref 43), some (.int (nI b)), none, none] [.int (nI 1)] (a_si s2 43 0 (nI 0)) := by
      intro s2 h2
      rw [tX9_worth]
      try simp only [k_lit, k_nN, k_ofN]
      rw [sX9_isBookT (nb := nb) (by simp [m_si, scB h2 43 1 rfl rfl, b2]) hnb hb, b_bi, tX9_worth_11]
      try simp only [k_lit, k_nN, k_ofN]
      rw [sX9_rightT (by simp [m_si]), b_bi]
    rcases hO.2.2 b hb with e | ⟨r, hr, e⟩
    · refine agr_x (x := 1) (s1 := s) hI ?_ (fr_rfl s) (by omega) (fun s2 h2 => ⟨nI 0, a_si (a_si s2 43 0 (nI 0)) 43 0 (nI 2), ?_, by simp [m_si], fr_si (fr_si (fr_rfl s2) (.inr (by decide))) (.inr (by decide))⟩)
      · rw [tX8_worth, sX8_needBookT b1 hnb hb, b_bv, tX8_worth_5, sX8_placeOf23 hnb hnr hO hb, b_bi, tX8_worth_16, e]
        try simp only [k_lit, k_nN, k_ofN]
        rw [if_pos (show nN < nI 0 by decide)]
      · rw [hM s2 h2, tX9_worth_15]
        try simp only [k_lit, k_nN, k_ofN]
        simp (disch := omega) only [i_leT, i_leF, i_ltT, i_ltF, i_eqT, i_eqF, i_okT, i_n1, i_n2, i_n3, i_n4, i_n5, i_n6, i_n7, i_n8, k_cl, if_true, if_false]
        rw [z_ne (by decide), scA h2 45 rfl rfl, e]
        simp (disch := omega) only [i_leT, i_leF, i_ltT, i_ltF, i_eqT, i_eqF, i_okT, i_n1, i_n2, i_n3, i_n4, i_n5, i_n6, i_n7, i_n8, k_cl, if_true, if_false]
        rw [sX9_rightF (by simp [m_si]) (by omega) (by omega), b_bi, tX9_worth_38]
        try simp only [k_lit, k_nN, k_ofN]
        simp (disch := omega) only [i_leT, i_leF, i_ltT, i_ltF, i_eqT, i_eqF, i_okT, i_n1, i_n2, i_n3, i_n4, i_n5, i_n6, i_n7, i_n8, k_cl, if_true, if_false]
    · have hx := oset_lt nb (s.1 45) r
      have hz := oset_lt nb (s.1 45) 5
      have hy : oset nb (s.1 45) r ||| oset nb (s.1 45) 5 < 2 ^ nb := Nat.or_lt_two_pow hx hz
      have hxb : (oset nb (s.1 45) r).testBit b = true := by
        rw [oset_p, ob hb, plc_r (by omega), e]
        simp
      have hR1 := lt12 (rch_lt (g := s.1 49) hx hy) hnb
      have hR2 := lt12 (rch_lt (g := gup (s.1 49) b (pwm c (s.1 44) b (nI 1))) hx hy) hnb
      obtain ⟨u, hu, fu⟩ := sX6_pagesWithMore hL hb (nI 1)
      have E : ∀ q, q ≠ 15 → q ≠ 13 → u.1 q = s.1 q := by
        intro q h1 h2
        funext i
        exact fu.1 q i (by simp [h1]) (by simp [h2])
      have hL2 := LibI_fx hL (fx_fr fu) rfl rfl
      have hO2 : Own nb nr (u.1 23) (u.1 45) := by rw [E 23 (by decide) (by decide), E 45 (by decide) (by decide)]; exact hO
      have hri := sX8_reachIf (s := u) (h := oset nb (s.1 45) r) (a := b) (p := pwm c (s.1 44) b (nI 1)) hL2 hO2 hx hb hxb (by rw [E 45 (by decide) (by decide)]; exact sh_dis (by omega))
      have hrn := sX8_reachNow (s := u) (r := r) hL2 hO2 hr
      rw [E 45 (by decide) (by decide), E 49 (by decide) (by decide)] at hri hrn
      refine agr_q (r := nI (pc (rch nb (gup (s.1 49) b (pwm c (s.1 44) b (nI 1))) (oset nb (s.1 45) r) (oset nb (s.1 45) r ||| oset nb (s.1 45) 5))) - nI (pc (rch nb (s.1 49) (oset nb (s.1 45) r) (oset nb (s.1 45) r ||| oset nb (s.1 45) 5)))) (s1 := u) hI ?_ (fr_mono fu (by decide) (by decide)) (fun s2 h2 => ?_)
      · rw [tX8_worth, sX8_needBookT b1 hnb hb, b_bv, tX8_worth_5, sX8_placeOf23 hnb hnr hO hb, b_bi, tX8_worth_16, e]
        try simp only [k_lit, k_nN, k_ofN]
        simp (disch := omega) only [i_leT, i_leF, i_ltT, i_ltF, i_eqT, i_eqF, i_okT, i_n1, i_n2, i_n3, i_n4, i_n5, i_n6, i_n7, i_n8, k_cl, if_true, if_false]
        rw [hu, b_bi, tX8_worth_58, (Own_s hnb hO r (by omega)).1, hri, b_bi, tX8_worth_61, sJ6_bitCount hR2, b_bi, tX8_worth_68, hrn, b_bi, tX8_worth_73, sJ6_bitCount hR1, b_bi, tX8_worth_76]
      · obtain ⟨t, Q, Q1, q, p1, p2, p3, -⟩ := sX9_reachOf (s := a_si s2 43 0 (nI 0)) (r := r) hnb (by simp [m_si, scB h2 43 1 rfl rfl, b2]) (by omega)
        rw [z_ne (by decide), z_ne (by decide), scA h2 45 rfl rfl, scA h2 49 rfl rfl] at p1
        have T : ∀ k, k ≠ 60 → k ≠ 61 → k ≠ 62 → k ≠ 43 → t.1 k = s2.1 k := by
          intro k h1 h2 h3 h4
          funext i
          rw [p2.1 k i (by simp [h1, h2, h3]) (by simp [h4]), z_ne h4]
        obtain ⟨t1, ht1, ft1⟩ := sX9_reckons (s := t) (c := c) (xc := s.1 14) (xn := s.1 13 1) (by rw [T 48 (by decide) (by decide) (by decide) (by decide), scA h2 48 rfl rfl]; exact hcd (by omega)) (s.1 44 (4 * b)) (s.1 44 (4 * b + 1) + nI 1) (s.1 44 (4 * b + 2)) (s.1 44 (4 * b + 3))
        have t45 : t1.1 45 = s.1 45 := by
          funext i
          rw [ft1.1 45 i (by decide) (by simp), T 45 (by decide) (by decide) (by decide) (by decide), scA h2 45 rfl rfl]
        have t431 : t1.1 43 1 = nI nb := by
          rw [ft1.1 43 1 (by decide) (by simp), p2.1 43 1 (by decide) (by decide)]
          simp [m_si, scB h2 43 1 rfl rfl, b2]
        have w431 : (a_si t1 62 b (pwm c (s.1 44) b (nI 1))).1 43 1 = nI nb := by simpa [m_si] using t431
        have w45 : (a_si t1 62 b (pwm c (s.1 44) b (nI 1))).1 45 = s.1 45 := by
          funext i
          simp [m_si, t45]
        obtain ⟨t2, Q2, Q3, q2, g1, g2, -⟩ := sX9_comesTo (s := a_si t1 62 b (pwm c (s.1 44) b (nI 1))) hnb w431 hx hy
        have eg : rch nb ((a_si t1 62 b (pwm c (s.1 44) b (nI 1))).1 62) (oset nb (s.1 45) r) (oset nb (s.1 45) r ||| oset nb (s.1 45) 5) = rch nb (gup (s.1 49) b (pwm c (s.1 44) b (nI 1))) (oset nb (s.1 45) r) (oset nb (s.1 45) r ||| oset nb (s.1 45) 5) := by
          apply rch_cg
          intro k hk
          unfold gup
          simp only [m_si, if_true]
          by_cases ek : k = b
          · rw [if_pos ek, if_pos ek]
          · rw [if_neg ek, if_neg ek, ft1.1 62 k (by decide) (by simp), p3 k (by omega), z_ne (by decide), scA h2 49 rfl rfl]
        rw [eg] at g1
        have F : fr scM scF s2 t2 := fr_trans (fr_si (fr_rfl s2) (k := 43) (j := 0) (x := nI 0) (.inr (by decide))) (fr_trans (fr_mono p2 (by decide) (by decide)) (fr_trans (fr_mono ft1 (by decide) (by simp)) (fr_trans (fr_si (fr_rfl t1) (.inl (by decide))) (fr_mono g2 (by decide) (by decide)))))
        refine ⟨t2, ?_, ?_, F⟩
        · rw [hM s2 h2, tX9_worth_15]
          try simp only [k_lit, k_nN, k_ofN]
          simp (disch := omega) only [i_leT, i_leF, i_ltT, i_ltF, i_eqT, i_eqF, i_okT, i_n1, i_n2, i_n3, i_n4, i_n5, i_n6, i_n7, i_n8, k_cl, if_true, if_false]
          rw [z_ne (by decide), scA h2 45 rfl rfl, e]
          simp (disch := omega) only [i_leT, i_leF, i_ltT, i_ltF, i_eqT, i_eqF, i_okT, i_n1, i_n2, i_n3, i_n4, i_n5, i_n6, i_n7, i_n8, k_cl, if_true, if_false]
          rw [sX9_rightT (by simp [m_si]), b_bi, tX9_worth_38]
          try simp only [k_lit, k_nN, k_ofN]
          simp (disch := omega) only [i_leT, i_leF, i_ltT, i_ltF, i_eqT, i_eqF, i_okT, i_n1, i_n2, i_n3, i_n4, i_n5, i_n6, i_n7, i_n8, k_cl, if_true, if_false]
          rw [z_ne (by decide), scA h2 45 rfl rfl, e, p1, b_bi, tX9_worth_55, sX9_bits hR1, b_bi, tX9_worth_58]
          try simp only [k_lit, k_nN, k_ofN, pk_mul, nI_add]
          simp (disch := omega) only [i_leT, i_leF, i_ltT, i_ltF, i_eqT, i_eqF, i_okT, i_n1, i_n2, i_n3, i_n4, i_n5, i_n6, i_n7, i_n8, k_cl, if_true, if_false]
          rw [T 44 (by decide) (by decide) (by decide) (by decide), scA h2 44 rfl rfl, ht1, b_bi, tX9_worth_108]
          try simp only [k_lit, k_nN, k_ofN]
          simp (disch := omega) only [i_leT, i_leF, i_ltT, i_ltF, i_eqT, i_eqF, i_okT, i_n1, i_n2, i_n3, i_n4, i_n5, i_n6, i_n7, i_n8, k_cl, if_true, if_false]
          rw [show pgv c (pf (s.1 44 (4 * b)) (s.1 44 (4 * b + 1) + nI 1) (s.1 44 (4 * b + 2)) (s.1 44 (4 * b + 3))) = pwm c (s.1 44) b (nI 1) from rfl, sX9_hasOfr w431 hnb (by omega), b_bi, tX9_worth_115, sX9_hasOfr w431 hnb (by omega), b_bi, tX9_worth_120]
          try simp only [k_lit, k_nN, k_ofN]
          rw [sX9_hasOf5 w431 hnb, b_bi, tX9_worth_125, w45, k_or, g1, b_bi, tX9_worth_129, sX9_bits hR2, b_bi, tX9_worth_132]
        · rw [g2.1 43 0 (by decide) (by decide)]
          simp only [m_si, show ((43 : Nat) = 62) = False from by simp, if_false]
          rw [ft1.1 43 0 (by decide) (by simp), p2.1 43 0 (by decide) (by decide)]
          simp [m_si]
  · refine agr_x (x := 0) (s1 := s) hI ?_ (fr_rfl s) (by omega) (fun s2 h2 => ⟨nI 0, a_si (a_si s2 43 0 (nI 0)) 43 0 (nI 1), ?_, by simp [m_si], fr_si (fr_si (fr_rfl s2) (.inr (by decide))) (.inr (by decide))⟩)
    · rw [tX8_worth, sX8_needBookF b1 hnb hv, b_bvx]
    · rw [tX9_worth]
      try simp only [k_lit, k_nN, k_ofN]
      rw [sX9_isBookF (nb := nb) (by simp [m_si, scB h2 43 1 rfl rfl, b2]) hnb hv, b_bi, tX9_worth_11]
      try simp only [k_lit, k_nN, k_ofN]
      rw [sX9_rightF (by simp [m_si]) (by omega) (by omega), b_bi, tX9_worth_15]
      try simp only [k_lit, k_nN, k_ofN]
      simp (disch := omega) only [i_leT, i_leF, i_ltT, i_ltF, i_eqT, i_eqF, i_okT, i_n1, i_n2, i_n3, i_n4, i_n5, i_n6, i_n7, i_n8, k_cl, if_true, if_false]
