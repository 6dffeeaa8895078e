/-! ===== bind ===== -/
def bst (x : Nat) (py : Nat → Nat → Int32) (a b : Nat) (st : Int32 × Int32) : Int32 × Int32 := if (x.testBit a && x.testBit b) = true then (if st.1 = nN ∨ st.2 < py a b then (nI (16 * a + b), py a b) else st) else st
def bin (x : Nat) (py : Nat → Nat → Int32) (a : Nat) : Nat → Nat → Int32 × Int32 → Int32 × Int32
  | 0, _, st => st
  | m + 1, b, st => bin x py a m (b + 1) (bst x py a b st)
def bou (x : Nat) (py : Nat → Nat → Int32) (nb : Nat) : Nat → Nat → Int32 × Int32 → Int32 × Int32
  | 0, _, st => st
  | m + 1, a, st => bou x py nb m (a + 1) (bin x py a m (a + 1) st)
/-- by how much a binding pays -/
def bpy (nb : Nat) (c : List (Nat × Nat)) (bk o pg : Nat → Int32) (r a b : Nat) : Int32 := nI (pc (rch nb (gup pg a (pbd c bk a b)) (oset nb o r ^^^ (oset nb o r &&& 2 ^ b)) ((oset nb o r ^^^ (oset nb o r &&& 2 ^ b)) ||| oset nb o 5))) - nI (pc (rch nb pg (oset nb o r) (oset nb o r ||| oset nb o 5))) + nI 1
theorem sX8_bindingPays {s : aMem} {nb nr r a b : Nat} {c : List (Nat × Nat)} (hL : LibI nb nr c s) (hO : Own nb nr (s.1 23) (s.1 45)) (hr : r < nr) (hab : a < b) (hb : b < nb) (hxa : (oset nb (s.1 45) r).testBit a = true) : ∃ u, fX8_bindingPays [.ref 0, .int (nI r), .int (nI a), .int (nI b)] s = some (.inl (some (.int (bpy nb c (s.1 44) (s.1 45) (s.1 49) r a b))), u) ∧ fr [15] [(13, 3)] s u := by
  obtain ⟨⟨hnb, hnr⟩, ⟨b1, b2⟩, ⟨r1, r2⟩, -, -, hpg, hfw, hcd, -⟩ := id hL
  have hx := oset_lt nb (s.1 45) r
  have hz := oset_lt nb (s.1 45) 5
  have hy : oset nb (s.1 45) r ||| oset nb (s.1 45) 5 < 2 ^ nb := Nat.or_lt_two_pow hx hz
  have hx2 := wo_lt (a := b) hx
  have hy2 : (oset nb (s.1 45) r ^^^ (oset nb (s.1 45) r &&& 2 ^ b)) ||| oset nb (s.1 45) 5 < 2 ^ nb := Nat.or_lt_two_pow hx2 hz
  obtain ⟨u, hu, fu⟩ := sX6_pagesBound hL (show a < nb by omega) hb
  have E : ∀ q, q ≠ 15 → q ≠ 13 → u.1 q = s.1 q := by
    intro q h1 h2
    funext i
    exact fu.1 q i (by simp [h1]) (by simp [h2])
  have hL2 := LibI_fx hL (fx_fr fu) rfl rfl
  have hO2 : Own nb nr (u.1 23) (u.1 45) := by rw [E 23 (by decide) (by decide), E 45 (by decide) (by decide)]; exact hO
  have hri := sX8_reachIf (s := u) (h := oset nb (s.1 45) r ^^^ (oset nb (s.1 45) r &&& 2 ^ b)) (a := a) (p := pbd c (s.1 44) a b) hL2 hO2 hx2 (show a < nb by omega) (by
    rw [wo_bit, hxa]
    have : ¬ b = a := by omega
    simp [this]) (by
    rw [E 45 (by decide) (by decide)]
    intro q hq
    rw [wo_bit, sh_dis (by omega) q hq, Bool.false_and])
  have hrn := sX8_reachNow (s := u) (r := r) hL2 hO2 hr
  rw [E 45 (by decide) (by decide), E 49 (by decide) (by decide)] at hri hrn
  refine ⟨u, ?_, fu⟩
  rw [tX8_bindingPays]
  try simp only [k_lit, k_nN, k_ofN]
  simp (disch := omega) only [i_leT, i_leF, i_ltT, i_ltF, i_eqT, i_eqF, i_okT, i_n1, i_n2, i_n3, i_n4, i_n5, i_n6, i_n7, i_n8, k_cl, if_true, if_false]
  rw [(Own_s hnb hO r (by omega)).1, k_one (by omega), k_not, hu, b_bi, tX8_bindingPays_30, hri, b_bi, tX8_bindingPays_33, sJ6_bitCount (lt12 (rch_lt hx2 hy2) hnb), b_bi, tX8_bindingPays_40, hrn, b_bi, tX8_bindingPays_45, sJ6_bitCount (lt12 (rch_lt hx hy) hnb), b_bi, tX8_bindingPays_48]
  try simp only [k_lit, k_nN, k_ofN]
  rfl
theorem op_bind {s : aMem} (hI : Inv s) (v w : Int32) : agr (fX8_bind [.ref 0, .int v, .int w]) (fX9_bind [.ref 43, .int v, .int w]) (fun _ => 1) s := by
  obtain ⟨nb, nr, c, hL, hN, -, -, -, -⟩ := id hI
  obtain ⟨⟨hnb, hnr⟩, ⟨b1, b2⟩, ⟨r1, r2⟩, -, -, hpg, hfw, hcd, -⟩ := id hL
  have hO := hN.1
  have bad : ∀ s2 : aMem, a_run none shp pX9_bind 27 [some (.ref 43), some (.int v), some (.int w), none, none, none, none, none, none, none, none] [.ref 43] (a_si s2 43 0 (nI 0)) = some (.inl (some (.int (nI 0))), a_si (a_si s2 43 0 (nI 0)) 43 0 (nI 1)) := by
    intro s2
    rw [tX9_bind_27, tX9_bind_28]
    try simp only [k_lit, k_nN, k_ofN]
    rw [sX9_rightF (by simp [m_si]) (by omega) (by omega), b_bi, tX9_bind_32]
    try simp only [k_lit, k_nN, k_ofN]
    simp (disch := omega) only [i_leT, i_leF, i_ltT, i_ltF, i_eqT, i_eqF, i_okT, i_n1, i_n2, i_n3, i_n4, i_n5, i_n6, i_n7, i_n8, k_cl, if_true, if_false]
  by_cases hv : vb nr v
  · obtain ⟨r, hr, rfl⟩ := hv
    by_cases hw : vb 2 w
    · obtain ⟨j, hj, rfl⟩ := hw
      have hx := oset_lt nb (s.1 45) r
      have hx4 := lt12 hx hnb
      have hz := oset_lt nb (s.1 45) 5
      have hy : oset nb (s.1 45) r ||| oset nb (s.1 45) 5 < 2 ^ nb := Nat.or_lt_two_pow hx hz
      -- the class
      have inX : ∀ a, a < nb → ∀ m b t (st : Int32 × Int32), b + m = nb → a < b → fr [15] [(13, 3)] s t → ∃ u, a_run none shp pX8_bind 36 [some (.ref 0), some (.int (nI r)), some (.int (nI j)), some (.int st.1), some (.int st.2), some (.int (nI a)), some (.int (nI b)), none] [] t = a_run none shp pX8_bind 18 [some (.ref 0), some (.int (nI r)), some (.int (nI j)), some (.int (bin (oset nb (s.1 45) r) (bpy nb c (s.1 44) (s.1 45) (s.1 49) r) a m b st).1), some (.int (bin (oset nb (s.1 45) r) (bpy nb c (s.1 44) (s.1 45) (s.1 49) r) a m b st).2), some (.int (nI (a + 1))), none, none] [] u ∧ fr [15] [(13, 3)] s u := by
        intro a ha m
        induction m with
        | zero =>
          intro b t st hb hab f
          refine ⟨t, ?_, f⟩
          rw [tX8_bind_36, f.1 12 0 (by decide) (by decide), b1]
          try simp only [k_lit, k_nN, k_ofN, nI_add]
          simp (disch := omega) only [i_leT, i_leF, i_ltT, i_ltF, i_eqT, i_eqF, i_okT, i_n1, i_n2, i_n3, i_n4, i_n5, i_n6, i_n7, i_n8, k_cl, if_true, if_false]
          rfl
        | succ m ih =>
          intro b t st hb hab f
          have E : ∀ q, q ≠ 15 → q ≠ 13 → t.1 q = s.1 q := by
            intro q h1 h2
            funext i
            exact f.1 q i (by simp [h1]) (by simp [h2])
          have hbin : bin (oset nb (s.1 45) r) (bpy nb c (s.1 44) (s.1 45) (s.1 49) r) a (m + 1) b st = bin (oset nb (s.1 45) r) (bpy nb c (s.1 44) (s.1 45) (s.1 49) r) a m (b + 1) (bst (oset nb (s.1 45) r) (bpy nb c (s.1 44) (s.1 45) (s.1 49) r) a b st) := rfl
          rw [hbin, tX8_bind_36, f.1 12 0 (by decide) (by decide), b1]
          try simp only [k_lit, k_nN, k_ofN]
          simp (disch := omega) only [i_leT, i_leF, i_ltT, i_ltF, i_eqT, i_eqF, i_okT, i_n1, i_n2, i_n3, i_n4, i_n5, i_n6, i_n7, i_n8, k_cl, if_true, if_false]
          rw [f.1 23 r (by decide) (by simp), (Own_s hnb hO r (by omega)).1, k_holds _ a (by omega) (by omega), b_bi, tX8_bind_62]
          try simp only [k_lit, k_nN, k_ofN, nI_add]
          unfold bst
          cases ea : (oset nb (s.1 45) r).testBit a
          · simp only [Bool.toNat_false, Bool.false_and, Bool.false_eq_true, if_false]
            simp (disch := omega) only [i_leT, i_leF, i_ltT, i_ltF, i_eqT, i_eqF, i_okT, i_n1, i_n2, i_n3, i_n4, i_n5, i_n6, i_n7, i_n8, k_cl, if_true, if_false]
            exact ih (b + 1) t st (by omega) (by omega) f
          · simp only [Bool.toNat_true, Bool.true_and]
            simp (disch := omega) only [i_leT, i_leF, i_ltT, i_ltF, i_eqT, i_eqF, i_okT, i_n1, i_n2, i_n3, i_n4, i_n5, i_n6, i_n7, i_n8, k_cl, if_true, if_false]
            rw [f.1 23 r (by decide) (by simp), (Own_s hnb hO r (by omega)).1, k_holds _ b (by omega) (by omega), b_bi, tX8_bind_79]
            try simp only [k_lit, k_nN, k_ofN, nI_add]
            cases eb : (oset nb (s.1 45) r).testBit b
            · simp only [Bool.toNat_false, Bool.false_eq_true, if_false]
              simp (disch := omega) only [i_leT, i_leF, i_ltT, i_ltF, i_eqT, i_eqF, i_okT, i_n1, i_n2, i_n3, i_n4, i_n5, i_n6, i_n7, i_n8, k_cl, if_true, if_false]
              exact ih (b + 1) t st (by omega) (by omega) f
            · simp only [Bool.toNat_true, if_true]
              simp (disch := omega) only [i_leT, i_leF, i_ltT, i_ltF, i_eqT, i_eqF, i_okT, i_n1, i_n2, i_n3, i_n4, i_n5, i_n6, i_n7, i_n8, k_cl, if_true, if_false]
              obtain ⟨u, hu, fu⟩ := sX8_bindingPays (s := t) (r := r) (a := a) (b := b) (LibI_fx hL (fx_fr f) rfl rfl) (by rw [E 23 (by decide) (by decide), E 45 (by decide) (by decide)]; exact hO) hr hab (by omega) (by rw [E 45 (by decide) (by decide)]; exact ea)
              rw [E 44 (by decide) (by decide), E 45 (by decide) (by decide), E 49 (by decide) (by decide)] at hu
              rw [hu, b_bi, tX8_bind_91]
              try simp only [k_lit, k_nN, k_ofN, pk_mul, nI_add]
              have f2 := fr_trans f fu
              by_cases e1 : st.1 = nN
              · rw [if_pos e1, if_pos (.inl e1)]
                exact ih (b + 1) u (_, _) (by omega) (by omega) f2
              · rw [if_neg e1]
                by_cases e2 : st.2 < bpy nb c (s.1 44) (s.1 45) (s.1 49) r a b
                · rw [if_neg (Int32.not_le.mpr e2), if_pos (.inr e2)]
                  exact ih (b + 1) u (_, _) (by omega) (by omega) f2
                · rw [if_pos (Int32.not_lt.mp e2), if_neg (fun h => h.elim e1 e2)]
                  exact ih (b + 1) u st (by omega) (by omega) f2
      have ouX : ∀ m a t (st : Int32 × Int32), a + m = nb → fr [15] [(13, 3)] s t → ∃ u, a_run none shp pX8_bind 18 [some (.ref 0), some (.int (nI r)), some (.int (nI j)), some (.int st.1), some (.int st.2), some (.int (nI a)), none, none] [] t = some (.inl (some (.int (if j = 0 then (bou (oset nb (s.1 45) r) (bpy nb c (s.1 44) (s.1 45) (s.1 49) r) nb m a st).1 else (bou (oset nb (s.1 45) r) (bpy nb c (s.1 44) (s.1 45) (s.1 49) r) nb m a st).2))), u) ∧ fr [15] [(13, 3)] s u := by
        intro m
        induction m with
        | zero =>
          intro a t st ha f
          refine ⟨t, ?_, f⟩
          rw [tX8_bind_18, f.1 12 0 (by decide) (by decide), b1]
          try simp only [k_lit, k_nN, k_ofN]
          simp (disch := omega) only [i_leT, i_leF, i_ltT, i_ltF, i_eqT, i_eqF, i_okT, i_n1, i_n2, i_n3, i_n4, i_n5, i_n6, i_n7, i_n8, k_cl, if_true, if_false]
          by_cases e0 : j = 0
          · subst e0
            simp (disch := omega) only [i_leT, i_leF, i_ltT, i_ltF, i_eqT, i_eqF, i_okT, i_n1, i_n2, i_n3, i_n4, i_n5, i_n6, i_n7, i_n8, k_cl, if_true, if_false]
            rfl
          · simp (disch := omega) only [i_leT, i_leF, i_ltT, i_ltF, i_eqT, i_eqF, i_okT, i_n1, i_n2, i_n3, i_n4, i_n5, i_n6, i_n7, i_n8, k_cl, if_true, if_false]
            rw [if_neg e0]
            rfl
        | succ m ih =>
          intro a t st ha f
          rw [tX8_bind_18, f.1 12 0 (by decide) (by decide), b1]
          try simp only [k_lit, k_nN, k_ofN, nI_add]
          simp (disch := omega) only [i_leT, i_leF, i_ltT, i_ltF, i_eqT, i_eqF, i_okT, i_n1, i_n2, i_n3, i_n4, i_n5, i_n6, i_n7, i_n8, k_cl, if_true, if_false]
          obtain ⟨u, hu, fu⟩ := inX a (by omega) m (a + 1) t st (by omega) (by omega) f
          rw [hu]
          exact ih (a + 1) u _ (by omega) fu
      obtain ⟨u, hu, fu⟩ := ouX nb 0 s (nN, nI 0) (by omega) (fr_rfl s)
      have hX : fX8_bind [.ref 0, .int (nI r), .int (nI j)] s = some (.inl (some (.int (if j = 0 then (bou (oset nb (s.1 45) r) (bpy nb c (s.1 44) (s.1 45) (s.1 49) r) nb nb 0 (nN, nI 0)).1 else (bou (oset nb (s.1 45) r) (bpy nb c (s.1 44) (s.1 45) (s.1 49) r) nb nb 0 (nN, nI 0)).2))), u) := by
        rw [tX8_bind, sX8_needReaderT r1 hnr hr, b_bv, tX8_bind_5]
        try simp only [k_lit, k_nN, k_ofN]
        rw [sX8_needWhatT (by omega) hj, b_bv, tX8_bind_10]
        try simp only [k_lit, k_nN, k_ofN]
        exact hu
      refine agr_q hI hX (fr_mono fu (by decide) (by decide)) (fun s2 h2 => ?_)
      -- the model
      have M0 : ∀ t : aMem, fr [58, 60, 61, 62] [(43, 40)] (a_si s2 43 0 (nI 0)) t → t.1 45 = s.1 45 ∧ t.1 49 = s.1 49 ∧ t.1 44 = s.1 44 ∧ t.1 48 = s.1 48 ∧ t.1 43 1 = nI nb := by
        intro t f
        refine ⟨?_, ?_, ?_, ?_, ?_⟩
        · funext i; rw [f.1 45 i (by decide) (by simp), z_ne (by decide), scA h2 45 rfl rfl]
        · funext i; rw [f.1 49 i (by decide) (by simp), z_ne (by decide), scA h2 49 rfl rfl]
        · funext i; rw [f.1 44 i (by decide) (by simp), z_ne (by decide), scA h2 44 rfl rfl]
        · funext i; rw [f.1 48 i (by decide) (by simp), z_ne (by decide), scA h2 48 rfl rfl]
        · rw [f.1 43 1 (by decide) (by decide)]
          simp [m_si, scB h2 43 1 rfl rfl, b2]
      -- one binding
      have one : ∀ (a b : Nat) (t : aMem) (v4 v5 v6 : Int32), a < b → b < nb → fr [58, 60, 61, 62] [(43, 40)] (a_si s2 43 0 (nI 0)) t → ∃ t', a_bv (fX9_copies [.ref 43, .ref 49, .ref 62] t) (fun s1 => a_run none shp pX9_bind 119 [some (.ref 43), none, some (.int (nI j)), some (.int (nI (oset nb (s.1 45) r))), some (.int v4), some (.int v5), some (.int v6), some (.int (nI a)), some (.int (nI b)), none, none] [] s1) none (fun x s1 => some (.inr x, s1)) = a_run none shp pX9_bind 245 [some (.ref 43), none, some (.int (nI j)), some (.int (nI (oset nb (s.1 45) r))), some (.int v4), some (.int v5), some (.int v6), some (.int (nI a)), some (.int (nI b)), some (.int (nI (oset nb (s.1 45) r ^^^ (oset nb (s.1 45) r &&& 2 ^ b)))), none] [.int (nI (pc (rch nb (gup (s.1 49) a (pbd c (s.1 44) a b)) (oset nb (s.1 45) r ^^^ (oset nb (s.1 45) r &&& 2 ^ b)) ((oset nb (s.1 45) r ^^^ (oset nb (s.1 45) r &&& 2 ^ b)) ||| oset nb (s.1 45) 5))))] t' ∧ fr [58, 60, 61, 62] [(43, 40)] (a_si s2 43 0 (nI 0)) t' := by
        intro a b t v4 v5 v6 hab hb f
        obtain ⟨t1, e1, f1, g1⟩ := c49_62 t
        have F1 : fr [58, 60, 61, 62] [(43, 40)] (a_si s2 43 0 (nI 0)) t1 := fr_trans f (fr_mono f1 (by simp) (by simp))
        obtain ⟨q1, q2, q3, q4, q5⟩ := M0 t1 F1
        obtain ⟨t2, ht2, ft2⟩ := sX9_reckons (s := t1) (c := c) (xc := s.1 14) (xn := s.1 13 1) (by rw [q4]; exact hcd (by omega)) (s.1 44 (4 * a) + s.1 44 (4 * b)) (s.1 44 (4 * a + 1) + s.1 44 (4 * b + 1)) (s.1 44 (4 * a + 2) + s.1 44 (4 * b + 2)) (s.1 44 (4 * a + 3) + s.1 44 (4 * b + 3))
        have F2 : fr [58, 60, 61, 62] [(43, 40)] (a_si s2 43 0 (nI 0)) (a_si t2 62 a (pbd c (s.1 44) a b)) := fr_si (fr_trans F1 (fr_mono ft2 (by simp) (by simp))) (by simp)
        obtain ⟨p1, p2, p3, p4, p5⟩ := M0 _ F2
        have hx2 := wo_lt (a := b) hx
        have hy2 : (oset nb (s.1 45) r ^^^ (oset nb (s.1 45) r &&& 2 ^ b)) ||| oset nb (s.1 45) 5 < 2 ^ nb := Nat.or_lt_two_pow hx2 hz
        obtain ⟨t3, Q2, Q3, q2', y1, y2, -⟩ := sX9_comesTo (s := a_si t2 62 a (pbd c (s.1 44) a b)) hnb p5 hx2 hy2
        have eg : rch nb ((a_si t2 62 a (pbd c (s.1 44) a b)).1 62) (oset nb (s.1 45) r ^^^ (oset nb (s.1 45) r &&& 2 ^ b)) ((oset nb (s.1 45) r ^^^ (oset nb (s.1 45) r &&& 2 ^ b)) ||| oset nb (s.1 45) 5) = rch nb (gup (s.1 49) a (pbd c (s.1 44) a b)) (oset nb (s.1 45) r ^^^ (oset nb (s.1 45) r &&& 2 ^ b)) ((oset nb (s.1 45) r ^^^ (oset nb (s.1 45) r &&& 2 ^ b)) ||| oset nb (s.1 45) 5) := by
          apply rch_cg
          intro k hk
          unfold gup
          simp only [m_si, if_true]
          by_cases ek : k = a
          · rw [if_pos ek, if_pos ek]
          · rw [if_neg ek, if_neg ek, ft2.1 62 k (by decide) (by simp), g1 k (by omega), (M0 t f).2.1]
        rw [eg] at y1
        refine ⟨t3, ?_, fr_trans F2 (fr_mono y2 (by simp) (by simp))⟩
        rw [e1, b_bv, tX9_bind_119]
        try simp only [k_lit, k_nN, k_ofN, pk_mul, nI_add]
        simp (disch := omega) only [i_leT, i_leF, i_ltT, i_ltF, i_eqT, i_eqF, i_okT, i_n1, i_n2, i_n3, i_n4, i_n5, i_n6, i_n7, i_n8, k_cl, if_true, if_false]
        rw [q3, ht2, b_bi, tX9_bind_217]
        try simp only [k_lit, k_nN, k_ofN]
        simp (disch := omega) only [i_leT, i_leF, i_ltT, i_ltF, i_eqT, i_eqF, i_okT, i_n1, i_n2, i_n3, i_n4, i_n5, i_n6, i_n7, i_n8, k_cl, if_true, if_false]
        rw [show pgv c (pf (s.1 44 (4 * a) + s.1 44 (4 * b)) (s.1 44 (4 * a + 1) + s.1 44 (4 * b + 1)) (s.1 44 (4 * a + 2) + s.1 44 (4 * b + 2)) (s.1 44 (4 * a + 3) + s.1 44 (4 * b + 3))) = pbd c (s.1 44) a b from rfl, sX9_hasOf5 p5 hnb, b_bi, k_one (by omega), k_not, tX9_bind_238, p1, k_or, y1, b_bi, tX9_bind_242, sX9_bits (lt12 (rch_lt hx2 hy2) hnb), b_bi]
      have inM : ∀ a, a < nb → ∀ m b t (st : Int32 × Int32), b + m = nb → a < b → fr [58, 60, 61, 62] [(43, 40)] (a_si s2 43 0 (nI 0)) t → ∃ u, a_run none shp pX9_bind 77 [some (.ref 43), none, some (.int (nI j)), some (.int (nI (oset nb (s.1 45) r))), some (.int (nI (pc (rch nb (s.1 49) (oset nb (s.1 45) r) (oset nb (s.1 45) r ||| oset nb (s.1 45) 5))))), some (.int st.1), some (.int st.2), some (.int (nI a)), some (.int (nI b)), none, none] [] t = a_run none shp pX9_bind 62 [some (.ref 43), none, some (.int (nI j)), some (.int (nI (oset nb (s.1 45) r))), some (.int (nI (pc (rch nb (s.1 49) (oset nb (s.1 45) r) (oset nb (s.1 45) r ||| oset nb (s.1 45) 5))))), some (.int (bin (oset nb (s.1 45) r) (bpy nb c (s.1 44) (s.1 45) (s.1 49) r) a m b st).1), some (.int (bin (oset nb (s.1 45) r) (bpy nb c (s.1 44) (s.1 45) (s.1 49) r) a m b st).2), some (.int (nI (a + 1))), none, none, none] [] u ∧ fr [58, 60, 61, 62] [(43, 40)] (a_si s2 43 0 (nI 0)) u := by
        intro a ha m
        induction m with
        | zero =>
          intro b t st hb hab f
          refine ⟨t, ?_, f⟩
          rw [tX9_bind_77, (M0 t f).2.2.2.2]
          try simp only [k_lit, k_nN, k_ofN]
          rw [i_leT (by omega) (by omega), nI_add]
          rfl
        | succ m ih =>
          intro b t st hb hab f
          have hbin : bin (oset nb (s.1 45) r) (bpy nb c (s.1 44) (s.1 45) (s.1 49) r) a (m + 1) b st = bin (oset nb (s.1 45) r) (bpy nb c (s.1 44) (s.1 45) (s.1 49) r) a m (b + 1) (bst (oset nb (s.1 45) r) (bpy nb c (s.1 44) (s.1 45) (s.1 49) r) a b st) := rfl
          rw [hbin, tX9_bind_77, (M0 t f).2.2.2.2]
          try simp only [k_lit, k_nN, k_ofN]
          rw [i_leF (by omega) (by omega)]
          unfold bst
          cases ea : (oset nb (s.1 45) r).testBit a
          · simp only [Bool.false_and, Bool.false_eq_true, if_false]
            rw [ib0T ea (by omega) (by omega), tX9_bind_282]
            try simp only [k_lit, k_nN, k_ofN, nI_add]
            exact ih (b + 1) t st (by omega) (by omega) f
          · simp only [Bool.true_and]
            rw [ib0F ea (by omega) (by omega)]
            cases eb : (oset nb (s.1 45) r).testBit b
            · simp only [Bool.false_eq_true, if_false]
              rw [ib0T eb (by omega) (by omega), tX9_bind_282]
              try simp only [k_lit, k_nN, k_ofN, nI_add]
              exact ih (b + 1) t st (by omega) (by omega) f
            · simp only [if_true]
              rw [ib0F eb (by omega) (by omega)]
              obtain ⟨t1, e1, f1⟩ := one a b t (nI (pc (rch nb (s.1 49) (oset nb (s.1 45) r) (oset nb (s.1 45) r ||| oset nb (s.1 45) 5)))) st.1 st.2 hab (by omega) f
              rw [e1, tX9_bind_245]
              try simp only [k_lit, k_nN, k_ofN]
              rw [show nI (pc (rch nb (gup (s.1 49) a (pbd c (s.1 44) a b)) (oset nb (s.1 45) r ^^^ (oset nb (s.1 45) r &&& 2 ^ b)) ((oset nb (s.1 45) r ^^^ (oset nb (s.1 45) r &&& 2 ^ b)) ||| oset nb (s.1 45) 5))) - nI (pc (rch nb (s.1 49) (oset nb (s.1 45) r) (oset nb (s.1 45) r ||| oset nb (s.1 45) 5))) + nI 1 = bpy nb c (s.1 44) (s.1 45) (s.1 49) r a b from rfl, tX9_bind_268, tX9_bind_282, tX9_bind_282]
              try simp only [k_lit, k_nN, k_ofN, pk_mul, nI_add]
              by_cases e1 : st.1 = nN
              · rw [if_pos e1, if_pos (.inl e1)]
                exact ih (b + 1) t1 (_, _) (by omega) (by omega) f1
              · rw [if_neg e1]
                by_cases e2 : st.2 < bpy nb c (s.1 44) (s.1 45) (s.1 49) r a b
                · rw [if_pos e2, if_pos (.inr e2)]
                  exact ih (b + 1) t1 (_, _) (by omega) (by omega) f1
                · rw [if_neg e2, if_neg (fun h => h.elim e1 e2)]
                  exact ih (b + 1) t1 st (by omega) (by omega) f1
      have ouM : ∀ m a t (st : Int32 × Int32), a + m = nb → fr [58, 60, 61, 62] [(43, 40)] (a_si s2 43 0 (nI 0)) t → ∃ u, a_run none shp pX9_bind 62 [some (.ref 43), none, some (.int (nI j)), some (.int (nI (oset nb (s.1 45) r))), some (.int (nI (pc (rch nb (s.1 49) (oset nb (s.1 45) r) (oset nb (s.1 45) r ||| oset nb (s.1 45) 5))))), some (.int st.1), some (.int st.2), some (.int (nI a)), none, none, none] [] t = some (.inl (some (.int (if j = 0 then (bou (oset nb (s.1 45) r) (bpy nb c (s.1 44) (s.1 45) (s.1 49) r) nb m a st).1 else (bou (oset nb (s.1 45) r) (bpy nb c (s.1 44) (s.1 45) (s.1 49) r) nb m a st).2))), u) ∧ fr [58, 60, 61, 62] [(43, 40)] (a_si s2 43 0 (nI 0)) u := by
        intro m
        induction m with
        | zero =>
          intro a t st ha f
          refine ⟨t, ?_, f⟩
          rw [tX9_bind_62, (M0 t f).2.2.2.2]
          try simp only [k_lit, k_nN, k_ofN]
          rw [i_leT (by omega) (by omega), tX9_bind_305, tX9_bind_305]
          by_cases e0 : j = 0
          · subst e0
            simp (disch := omega) only [i_leT, i_leF, i_ltT, i_ltF, i_eqT, i_eqF, i_okT, i_n1, i_n2, i_n3, i_n4, i_n5, i_n6, i_n7, i_n8, k_cl, if_true, if_false]
            rfl
          · simp (disch := omega) only [i_leT, i_leF, i_ltT, i_ltF, i_eqT, i_eqF, i_okT, i_n1, i_n2, i_n3, i_n4, i_n5, i_n6, i_n7, i_n8, k_cl, if_true, if_false]
            rw [if_neg e0]
            rfl
        | succ m ih =>
          intro a t st ha f
          rw [tX9_bind_62, (M0 t f).2.2.2.2]
          try simp only [k_lit, k_nN, k_ofN, nI_add]
          rw [i_leF (by omega) (by omega)]
          obtain ⟨u, hu, fu⟩ := inM a (by omega) m (a + 1) t st (by omega) (by omega) f
          rw [hu]
          exact ih (a + 1) u _ (by omega) fu
      obtain ⟨t, Q, Q1, q, p1, p2, p3, -⟩ := sX9_reachOf (s := a_si s2 43 0 (nI 0)) (r := r) hnb (by simp [m_si, scB h2 43 1 rfl rfl, b2]) (by omega)
      rw [z_ne (by decide), z_ne (by decide), scA h2 45 rfl rfl, scA h2 49 rfl rfl] at p1
      obtain ⟨t9, e9, f9⟩ := ouM nb 0 t (nN, nI 0) (by omega) (fr_mono p2 (by simp) (by simp))
      refine ⟨t9, ?_, ?_, fr_trans (fr_si (fr_rfl s2) (k := 43) (j := 0) (x := nI 0) (.inr (by decide))) (fr_mono f9 (by decide) (by decide))⟩
      · have h28 : a_run none shp pX9_bind 23 [some (.ref 43), some (.int (nI r)), some (.int (nI j)), none, none, none, none, none, none, none, none] [.ref 43] (a_si s2 43 0 (nI 0)) = a_run none shp pX9_bind 32 [some (.ref 43), some (.int (nI r)), some (.int (nI j)), none, none, none, none, none, none, none, none] [.int (nI 1)] (a_si s2 43 0 (nI 0)) := by
          rw [tX9_bind_23, tX9_bind_28]
          try simp only [k_lit, k_nN, k_ofN]
          rw [sX9_rightT (by simp [m_si]), b_bi]
        have h32 : a_run none shp pX9_bind 32 [some (.ref 43), some (.int (nI r)), some (.int (nI j)), none, none, none, none, none, none, none, none] [.int (nI 1)] (a_si s2 43 0 (nI 0)) = a_run none shp pX9_bind 62 [some (.ref 43), none, some (.int (nI j)), some (.int (nI (oset nb (s.1 45) r))), some (.int (nI (pc (rch nb (s.1 49) (oset nb (s.1 45) r) (oset nb (s.1 45) r ||| oset nb (s.1 45) 5))))), some (.int nN), some (.int (nI 0)), some (.int (nI 0)), none, none, none] [] t := by
          rw [tX9_bind_32]
          try simp only [k_lit, k_nN, k_ofN]
          simp (disch := omega) only [i_leT, i_leF, i_ltT, i_ltF, i_eqT, i_eqF, i_okT, i_n1, i_n2, i_n3, i_n4, i_n5, i_n6, i_n7, i_n8, k_cl, if_true, if_false]
          rw [sX9_hasOfr (M0 _ (fr_rfl _)).2.2.2.2 hnb (by omega), b_bi, tX9_bind_42, p1, b_bi, tX9_bind_48, sX9_bits (lt12 (rch_lt hx hy) hnb), b_bi, tX9_bind_51, (M0 _ (fr_rfl _)).1]
          try simp only [k_lit, k_nN, k_ofN]
        rw [tX9_bind]
        try simp only [k_lit, k_nN, k_ofN]
        rw [sX9_isReaderT (nb := nr) (by simp [m_si, scB h2 43 2 rfl rfl, r2]) hnr hr, b_bi, tX9_bind_11]
        try simp only [k_lit, k_nN, k_ofN]
        rw [h28, h32, e9]
        simp (disch := omega) only [i_leT, i_leF, i_ltT, i_ltF, i_eqT, i_eqF, i_okT, i_n1, i_n2, i_n3, i_n4, i_n5, i_n6, i_n7, i_n8, k_cl, if_true, if_false]
        rcases (show j = 0 ∨ j = 1 by omega) with e | e <;> subst e
        · simp (disch := omega) only [i_leT, i_leF, i_ltT, i_ltF, i_eqT, i_eqF, i_okT, i_n1, i_n2, i_n3, i_n4, i_n5, i_n6, i_n7, i_n8, k_cl, if_true, if_false]
        · simp (disch := omega) only [i_leT, i_leF, i_ltT, i_ltF, i_eqT, i_eqF, i_okT, i_n1, i_n2, i_n3, i_n4, i_n5, i_n6, i_n7, i_n8, k_cl, if_true, if_false]
      · rw [f9.1 43 0 (by decide) (by decide)]
        simp [m_si]
    · refine agr_x (x := 0) (s1 := s) hI ?_ (fr_rfl s) (by omega) (fun s2 h2 => ⟨nI 0, a_si (a_si s2 43 0 (nI 0)) 43 0 (nI 1), ?_, by simp [m_si], fr_si (fr_si (fr_rfl s2) (.inr (by decide))) (.inr (by decide))⟩)
      · rw [tX8_bind, sX8_needReaderT r1 hnr hr, b_bv, tX8_bind_5]
        try simp only [k_lit, k_nN, k_ofN]
        rw [sX8_needWhatF (by omega) hw, b_bvx]
      · rw [tX9_bind]
        try simp only [k_lit, k_nN, k_ofN]
        rw [sX9_isReaderT (nb := nr) (by simp [m_si, scB h2 43 2 rfl rfl, r2]) hnr hr, b_bi, tX9_bind_11]
        try simp only [k_lit, k_nN, k_ofN]
        simp (disch := omega) only [i_leT, i_leF, i_ltT, i_ltF, i_eqT, i_eqF, i_okT, i_n1, i_n2, i_n3, i_n4, i_n5, i_n6, i_n7, i_n8, k_cl, if_true, if_false]
        have n0 : w ≠ nI 0 := fun e => hw ⟨0, by omega, e⟩
        have n1 : w ≠ nI 1 := fun e => hw ⟨1, by omega, e⟩
        rw [if_neg n0, if_neg n1]
        exact bad s2
  · refine agr_x (x := 0) (s1 := s) hI ?_ (fr_rfl s) (by omega) (fun s2 h2 => ⟨nI 0, a_si (a_si s2 43 0 (nI 0)) 43 0 (nI 1), ?_, by simp [m_si], fr_si (fr_si (fr_rfl s2) (.inr (by decide))) (.inr (by decide))⟩)
    · rw [tX8_bind, sX8_needReaderF r1 hnr hv, b_bvx]
    · rw [tX9_bind]
      try simp only [k_lit, k_nN, k_ofN]
      rw [sX9_isReaderF (nb := nr) (by simp [m_si, scB h2 43 2 rfl rfl, r2]) hnr hv, b_bi, tX9_bind_11]
      try simp only [k_lit, k_nN, k_ofN]
      simp (disch := omega) only [i_leT, i_leF, i_ltT, i_ltF, i_eqT, i_eqF, i_okT, i_n1, i_n2, i_n3, i_n4, i_n5, i_n6, i_n7, i_n8, k_cl, if_true, if_false]
      exact bad s2
