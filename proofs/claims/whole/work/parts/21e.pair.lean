/-! ===== the model's search ===== -/
def hM (v : Nat) : Nat := (nI v * nI 40503 ^^^ nI v >>> (nI 9 &&& nI 31)).toBitVec.toNat % 2 ^ 14
theorem hM_lt (v : Nat) : hM v < 16384 := Nat.mod_lt _ (by decide)
theorem k_hM (v : Nat) : (nI v * nI 40503 ^^^ nI v >>> (nI 9 &&& nI 31)) &&& nI 16383 = nI (hM v) := pk_and _ 14 (by decide)
theorem k_m14 {p : Nat} (h : p < 100000) : nI p &&& nI 16383 = nI (p % 16384) := pk_andN (by omega) 14 (by decide)
def pM (s t : aMem) (T : Nat → Option Nat) (L D : Nat → Nat) (n : Nat) (sp : Nat) : Prop := (fr [63, 64, 65] [(43, 44), (43, 45)] s t) ∧ tb 16384 hM T L n ∧ (n ≤ 4000 ∧ t.1 43 44 = nI n ∧ t.1 43 45 = nI sp ∧ sp ≤ 1) ∧ (∀ i, i < n → t.1 63 i = nI (L i) ∧ L i < 16777216 ∧ t.1 64 i = nI (D i)) ∧ ∀ p, p < 16384 → t.1 65 p = match T p with
  | none => nI 0
  | some i => nI (i + 1)
theorem sX9_comes {n sp x y d : Nat} {s t : aMem} {T : Nat → Option Nat} {L D : Nat → Nat} (h : pM s t T L D n sp) (hx : x < 4096) (hy : y < 4096) : ∃ u, fX9_comes [.ref 43, .int (nI x), .int (nI y), .int (nI d)] t = some (.inl none, u) ∧ ((∃ i, i < n ∧ L i = enc x y ∧ u = t) ∨ ((∀ i, i < n → L i ≠ enc x y) ∧ n = 4000 ∧ pM s u T L D n 1) ∨ ((∀ i, i < n → L i ≠ enc x y) ∧ n < 4000 ∧ ∃ T', pM s u T' (upN L n (enc x y)) (upN D n d) (n + 1) sp)) := by
  obtain ⟨f, ht, ⟨hn, h3, h4, hsp⟩, h63, h65⟩ := id h
  have hv := enc_lt hx hy
  obtain ⟨c, hc, hb, hout⟩ := tb_probe (by omega) ht (show n < 16384 by omega) (enc x y)
  have hH := hM_lt (enc x y)
  have walk : ∀ m k, k + m = c → a_run none shp pX9_comes 26 [some (.ref 43), none, none, some (.int (nI d)), some (.int (nI (enc x y))), some (.int (nI ((hM (enc x y) + k) % 16384)))] [] t = a_run none shp pX9_comes 26 [some (.ref 43), none, none, some (.int (nI d)), some (.int (nI (enc x y))), some (.int (nI ((hM (enc x y) + c) % 16384)))] [] t := by
    intro m
    induction m with
    | zero =>
      intro k hk
      rw [show k = c by omega]
    | succ m ih =>
      intro k hk
      obtain ⟨i, hi, e1, e2⟩ := hb k (by omega)
      have hp : (hM (enc x y) + k) % 16384 < 16384 := Nat.mod_lt _ (by omega)
      have hcell := h65 _ hp
      rw [e1] at hcell
      simp only at hcell
      obtain ⟨q1, q2, -⟩ := h63 i hi
      rw [tX9_comes_26]
      try simp only [k_lit, k_nN, k_ofN]
      rw [i_okT (by omega) (by omega), k_cl (by omega), hcell, i_eqF (by omega) (by omega) (by omega), i_okT (by omega) (by omega), k_pred, i_okT (by omega) (by omega), k_cl (by omega), q1, i_eqF e2 (by omega) (by omega), nI_add, k_m14 (by omega), Nat.mod_add_mod]
      exact ih (k + 1) (by omega)
  have hp : (hM (enc x y) + c) % 16384 < 16384 := Nat.mod_lt _ (by omega)
  have hcell := h65 _ hp
  have start : fX9_comes [.ref 43, .int (nI x), .int (nI y), .int (nI d)] t = a_run none shp pX9_comes 26 [some (.ref 43), none, none, some (.int (nI d)), some (.int (nI (enc x y))), some (.int (nI ((hM (enc x y) + c) % 16384)))] [] t := by
    rw [tX9_comes]
    try simp only [k_lit, k_nN, k_ofN]
    rw [k_enc hx hy, k_hM]
    have := walk c 0 (by omega)
    rw [Nat.add_zero, Nat.mod_eq_of_lt hH] at this
    exact this
  rw [start, tX9_comes_26]
  try simp only [k_lit, k_nN, k_ofN]
  rw [i_okT (by omega) (by omega), k_cl (by omega)]
  rcases hout with ⟨he, hno⟩ | ⟨i, hi, e1, e2⟩
  · rw [he] at hcell
    simp only at hcell
    rw [hcell, i_eqT rfl, i_okT (by omega) (by omega), i_eqT rfl, h3, nI_add]
    by_cases e4 : n = 4000
    · rw [i_eqT e4]
      refine ⟨_, rfl, .inr (.inl ⟨hno, e4, fr_si f (by simp), ht, ⟨hn, ?_, ?_, by omega⟩, fun i hi => ?_, fun p hp2 => ?_⟩)⟩
      · simpa [m_si] using h3
      · simp [m_si]
      · simpa [m_si] using h63 i hi
      · simpa [m_si] using h65 p hp2
    · rw [i_eqF e4 (by omega) (by omega)]
      simp (disch := omega) only [i_leT, i_leF, i_ltT, i_ltF, i_eqT, i_eqF, i_okT, i_n1, i_n2, i_n3, i_n4, i_n5, i_n6, i_n7, i_n8, k_cl, if_true, if_false]
      refine ⟨_, rfl, .inr (.inr ⟨hno, by omega, upT T ((hM (enc x y) + c) % 16384) n, fr_si (fr_si (fr_si (fr_si f (by simp)) (by simp)) (by simp)) (by simp), tb_ins (by omega) ht hc hb he, ⟨by omega, ?_, ?_, hsp⟩, fun i hi => ?_, fun p hp2 => ?_⟩)⟩
      · simp [m_si]
      · simpa [m_si] using h4
      · by_cases ei : i = n
        · subst ei
          rw [upN_s, upN_s]
          simp [m_si, hv]
        · rw [upN_n ei, upN_n ei]
          simpa [m_si, ei] using h63 i (by omega)
      · unfold upT
        by_cases ep : p = (hM (enc x y) + c) % 16384
        · subst ep
          simp [m_si]
        · have := h65 p hp2
          rw [if_neg ep]
          simp only [m_si, show ((65 : Nat) = 43) = False from by simp, show ((65 : Nat) = 64) = False from by simp, show ((65 : Nat) = 63) = False from by simp, if_false, if_true, ep]
          rw [this]
  · rw [e1] at hcell
    simp only at hcell
    obtain ⟨q1, q2, -⟩ := h63 i hi
    rw [hcell, i_eqF (by omega) (by omega) (by omega), i_okT (by omega) (by omega), k_pred, i_okT (by omega) (by omega), k_cl (by omega), q1, e2, i_eqT rfl, i_okT (by omega) (by omega), i_eqF (by omega) (by omega) (by omega)]
    exact ⟨t, rfl, .inl ⟨i, hi, e2, rfl⟩⟩
def gM (nb : Nat) (pg : Nat → Int32) (P v0 : Nat) (s t : aMem) (L D : Nat → Nat) (n k d sp : Nat) : Prop := (∃ T, pM s t T L D n sp) ∧ bq (scp nb pg P) v0 L D n k ∧ (k < n) ∧ (sp = 1 → big (scp nb pg P) v0) ∧ D k + 1 = d
theorem gM_comes {nb P v0 n k d sp x y : Nat} {pg : Nat → Int32} {s t : aMem} {L D : Nat → Nat} (hg : gM nb pg P v0 s t L D n k d sp) (hx : x < 4096) (hy : y < 4096) (hs : scp nb pg P (L k) (enc x y)) : ∃ u L' D' n' sp', fX9_comes [.ref 43, .int (nI x), .int (nI y), .int (nI d)] t = some (.inl none, u) ∧ gM nb pg P v0 s u L' D' n' k d sp' ∧ ext d L D L' D' n n' ∧ sp ≤ sp' ∧ (sp' = 0 → knw L' D' n' k (enc x y)) := by
  obtain ⟨⟨T, hp⟩, hq, hk, hb, hd⟩ := hg
  obtain ⟨u, hu, hcase⟩ := sX9_comes (d := d) hp hx hy
  have hsp := hp.2.2.1.2.2.2
  rcases hcase with ⟨i, hi, e1, e2⟩ | ⟨hno, hn4, hp'⟩ | ⟨hno, hn4, T', hp'⟩
  · subst e2
    exact ⟨u, L, D, n, sp, hu, ⟨⟨T, hp⟩, hq, hk, hb, hd⟩, ext_rfl d L D n, Nat.le_refl _, fun _ => ⟨i, hi, e1, hq.2.2.2.2.2.2 i hi hk⟩⟩
  · subst hn4
    have hbig : big (scp nb pg P) v0 := bq_big hq ⟨D k + 1, L k, (hq.2.2.2.2.1 k hk).1, hs⟩ hno
    exact ⟨u, L, D, 4000, 1, hu, ⟨⟨T, hp'⟩, hq, hk, fun _ => hbig, hd⟩, ext_rfl d L D 4000, hsp, fun h => absurd h (by omega)⟩
  · have hbn := bq_new hq hk hn4 hs hno
    rw [hd] at hbn
    refine ⟨u, upN L n (enc x y), upN D n d, n + 1, sp, hu, ⟨⟨T', hp'⟩, hbn, by omega, hb, by rw [upN_n (by omega)]; exact hd⟩, ⟨by omega, fun i hi => ⟨upN_n (by omega), upN_n (by omega)⟩, fun i h1 h2 => by rw [show i = n by omega, upN_s]⟩, Nat.le_refl _, fun _ => ⟨n, by omega, upN_s _ _ _, ?_⟩⟩
    rw [upN_s, upN_n (by omega)]
    omega
def wst (tu x z a b : Nat) : Nat := if tu = 0 then enc (swp x a b) z else enc z (swp x a b)
/-- the exchanges of one of both -/
theorem gM_exch {nb P v0 k d x z tu : Nat} {pg : Nat → Int32} {s t : aMem} {L D : Nat → Nat} {n sp : Nat} (hnb : nb ≤ 12) (hP : P < 2 ^ nb) (hb1 : s.1 43 1 = nI nb) (h49 : s.1 49 = pg) (htu : tu = 0 ∨ tu = 1) (hx : x < 2 ^ nb) (hz : z < 2 ^ nb) (hg : gM nb pg P v0 s t L D n k d sp) (hs : ∀ a b, a < nb → b < nb → x.testBit a = true → (P.testBit b = true ∧ x.testBit b = false ∧ z.testBit b = false) → pg b < pg a → scp nb pg P (L k) (wst tu x z a b)) : ∃ u L' D' n' sp', fX9_exchanges [.ref 43, .int (nI x), .int (nI z), .int (nI P), .int (nI tu), .int (nI d)] t = some (.inl none, u) ∧ gM nb pg P v0 s u L' D' n' k d sp' ∧ ext d L D L' D' n n' ∧ sp ≤ sp' ∧ (sp' = 0 → ∀ a b, a < nb → b < nb → x.testBit a = true → (P.testBit b = true ∧ x.testBit b = false ∧ z.testBit b = false) → pg b < pg a → knw L' D' n' k (wst tu x z a b)) := by
  have hk := hg.2.2.1
  have hx4 := lt12 hx hnb
  have hz4 := lt12 hz hnb
  have hP4 := lt12 hP hnb
  have hxz4 : x ||| z < 4096 := lt12 (Nat.or_lt_two_pow hx hz) hnb
  have inner : ∀ a, a < nb → x.testBit a = true → ∀ m b t L1 D1 n1 sp1, b + m = nb → gM nb pg P v0 s t L1 D1 n1 k d sp1 → L1 k = L k → ∃ u L' D' n' sp', a_run none shp pX9_exchanges 27 [some (.ref 43), some (.int (nI x)), some (.int (nI z)), some (.int (nI P)), some (.int (nI tu)), some (.int (nI d)), some (.int (nI a)), some (.int (nI b)), none] [] t = a_run none shp pX9_exchanges 3 [some (.ref 43), some (.int (nI x)), some (.int (nI z)), some (.int (nI P)), some (.int (nI tu)), some (.int (nI d)), some (.int (nI (a + 1))), none, none] [] u ∧ gM nb pg P v0 s u L' D' n' k d sp' ∧ ext d L1 D1 L' D' n1 n' ∧ sp1 ≤ sp' ∧ (sp' = 0 → ∀ c, b ≤ c → c < nb → (P.testBit c = true ∧ x.testBit c = false ∧ z.testBit c = false) → pg c < pg a → knw L' D' n' k (wst tu x z a c)) := by
    intro a ha hxa m
    induction m with
    | zero =>
      intro b t L1 D1 n1 sp1 hb hg1 hLk
      obtain ⟨⟨T, hp⟩, -⟩ := id hg1
      refine ⟨t, L1, D1, n1, sp1, ?_, hg1, ext_rfl d L1 D1 n1, Nat.le_refl _, fun _ c h1 h2 => by omega⟩
      rw [tX9_exchanges_27, hp.1.1 43 1 (by decide) (by decide), hb1]
      try simp only [k_lit, k_nN, k_ofN]
      rw [i_leT (by omega) (by omega), nI_add]
    | succ m ih =>
      intro b t L1 D1 n1 sp1 hb hg1 hLk
      obtain ⟨⟨T, hp⟩, hq, hkn1, -⟩ := id hg1
      have t49 : t.1 49 = pg := by rw [← h49]; funext j; exact hp.1.1 49 j (by decide) (by simp)
      have eq27 := tX9_exchanges_27 (nI x) (nI z) (nI P) (nI tu) (nI d) (nI a) (nI b) t
      simp only [k_lit, k_nN, k_ofN] at eq27
      rw [hp.1.1 43 1 (by decide) (by decide), hb1, i_leF (by omega) (by omega), k_or, nI_add] at eq27
      -- nothing at b
      have skip : a_run none shp pX9_exchanges 27 [some (.ref 43), some (.int (nI x)), some (.int (nI z)), some (.int (nI P)), some (.int (nI tu)), some (.int (nI d)), some (.int (nI a)), some (.int (nI b)), none] [] t = a_run none shp pX9_exchanges 27 [some (.ref 43), some (.int (nI x)), some (.int (nI z)), some (.int (nI P)), some (.int (nI tu)), some (.int (nI d)), some (.int (nI a)), some (.int (nI (b + 1))), none] [] t → ¬ ((P.testBit b = true ∧ x.testBit b = false ∧ z.testBit b = false) ∧ pg b < pg a) → ∃ u L' D' n' sp', a_run none shp pX9_exchanges 27 [some (.ref 43), some (.int (nI x)), some (.int (nI z)), some (.int (nI P)), some (.int (nI tu)), some (.int (nI d)), some (.int (nI a)), some (.int (nI b)), none] [] t = a_run none shp pX9_exchanges 3 [some (.ref 43), some (.int (nI x)), some (.int (nI z)), some (.int (nI P)), some (.int (nI tu)), some (.int (nI d)), some (.int (nI (a + 1))), none, none] [] u ∧ gM nb pg P v0 s u L' D' n' k d sp' ∧ ext d L1 D1 L' D' n1 n' ∧ sp1 ≤ sp' ∧ (sp' = 0 → ∀ c, b ≤ c → c < nb → (P.testBit c = true ∧ x.testBit c = false ∧ z.testBit c = false) → pg c < pg a → knw L' D' n' k (wst tu x z a c)) := by
        intro he hn
        obtain ⟨u, L', D', n', sp', h1, h2, h3, h4, h5⟩ := ih (b + 1) t L1 D1 n1 sp1 (by omega) hg1 hLk
        refine ⟨u, L', D', n', sp', he.trans h1, h2, h3, h4, fun e0 c g1 g2 g3 g4 => ?_⟩
        by_cases e : c = b
        · subst e; exact absurd ⟨g3, g4⟩ hn
        · exact h5 e0 c (by omega) g2 g3 g4
      cases exz : (x ||| z).testBit b
      · rw [ib1F exz (by omega) (by omega)] at eq27
        rw [Nat.testBit_or, Bool.or_eq_false_iff] at exz
        cases eP : P.testBit b
        · rw [ib0T eP (by omega) (by omega)] at eq27
          exact skip eq27 (fun c => by rw [eP] at c; cases c.1.1)
        · rw [ib0F eP (by omega) (by omega), i_okT (by omega) (by omega), i_okT (by omega) (by omega), k_cl (by omega), k_cl (by omega), t49, k_swp (by omega) (by omega)] at eq27
          by_cases e3 : pg b < pg a
          · rw [if_pos e3] at eq27
            have hsw := swp_lt (a := a) hx (show b < nb by omega)
            have hsc := hs a b ha (by omega) hxa ⟨eP, exz.1, exz.2⟩ e3
            have fin3 : ∀ (p1 p2 : Nat), p1 < 4096 → p2 < 4096 → wst tu x z a b = enc p1 p2 → a_run none shp pX9_exchanges 27 [some (.ref 43), some (.int (nI x)), some (.int (nI z)), some (.int (nI P)), some (.int (nI tu)), some (.int (nI d)), some (.int (nI a)), some (.int (nI b)), none] [] t = a_run none shp pX9_exchanges 115 [some (.ref 43), some (.int (nI x)), some (.int (nI z)), some (.int (nI P)), some (.int (nI tu)), some (.int (nI d)), some (.int (nI a)), some (.int (nI b)), none] [.int (nI p2), .int (nI p1), .ref 43] t → ∃ u L' D' n' sp', a_run none shp pX9_exchanges 27 [some (.ref 43), some (.int (nI x)), some (.int (nI z)), some (.int (nI P)), some (.int (nI tu)), some (.int (nI d)), some (.int (nI a)), some (.int (nI b)), none] [] t = a_run none shp pX9_exchanges 3 [some (.ref 43), some (.int (nI x)), some (.int (nI z)), some (.int (nI P)), some (.int (nI tu)), some (.int (nI d)), some (.int (nI (a + 1))), none, none] [] u ∧ gM nb pg P v0 s u L' D' n' k d sp' ∧ ext d L1 D1 L' D' n1 n' ∧ sp1 ≤ sp' ∧ (sp' = 0 → ∀ c, b ≤ c → c < nb → (P.testBit c = true ∧ x.testBit c = false ∧ z.testBit c = false) → pg c < pg a → knw L' D' n' k (wst tu x z a c)) := by
              intro p1 p2 hp1 hp2 hw he
              obtain ⟨u, L2, D2, n2, sp2, hu, g2, x2, q2, k2⟩ := gM_comes hg1 hp1 hp2 (by rw [hLk, ← hw]; exact hsc)
              obtain ⟨u3, L3, D3, n3, sp3, h1, h2, h3, h4, h5⟩ := ih (b + 1) u L2 D2 n2 sp2 (by omega) g2 (by rw [(x2.2.1 k hkn1).1, hLk])
              refine ⟨u3, L3, D3, n3, sp3, ?_, h2, ext_tr x2 h3, by omega, fun e0 c y1 y2 y3 y4 => ?_⟩
              · rw [he, tX9_exchanges_115, hu, b_bv]
                try simp only [k_lit, k_nN, k_ofN, nI_add]
                exact h1
              · by_cases e : c = b
                · subst e
                  rw [hw]
                  exact knw_ext (k2 (by omega)) g2.2.2.1 h3
                · exact h5 e0 c (by omega) y2 y3 y4
            rcases htu with e | e
            · subst e
              rw [i_eqT rfl, i_eqT rfl] at eq27
              exact fin3 (swp x a b) z (lt12 hsw hnb) hz4 rfl eq27
            · subst e
              rw [i_eqF (by omega) (by omega) (by omega), i_eqF (by omega) (by omega) (by omega)] at eq27
              exact fin3 z (swp x a b) hz4 (lt12 hsw hnb) rfl eq27
          · rw [if_neg e3] at eq27
            exact skip eq27 (fun c => e3 c.2)
      · rw [ib1T exz (by omega) (by omega)] at eq27
        rw [Nat.testBit_or, Bool.or_eq_true] at exz
        refine skip eq27 (fun c => ?_)
        rcases exz with e | e
        · rw [e] at c; cases c.1.2.1
        · rw [e] at c; cases c.1.2.2
  have outer : ∀ m a t L1 D1 n1 sp1, a + m = nb → gM nb pg P v0 s t L1 D1 n1 k d sp1 → L1 k = L k → ∃ u L' D' n' sp', a_run none shp pX9_exchanges 3 [some (.ref 43), some (.int (nI x)), some (.int (nI z)), some (.int (nI P)), some (.int (nI tu)), some (.int (nI d)), some (.int (nI a)), none, none] [] t = some (.inl none, u) ∧ gM nb pg P v0 s u L' D' n' k d sp' ∧ ext d L1 D1 L' D' n1 n' ∧ sp1 ≤ sp' ∧ (sp' = 0 → ∀ e c, a ≤ e → e < nb → c < nb → x.testBit e = true → (P.testBit c = true ∧ x.testBit c = false ∧ z.testBit c = false) → pg c < pg e → knw L' D' n' k (wst tu x z e c)) := by
    intro m
    induction m with
    | zero =>
      intro a t L1 D1 n1 sp1 ha hg1 hLk
      obtain ⟨⟨T, hp⟩, -⟩ := id hg1
      refine ⟨t, L1, D1, n1, sp1, ?_, hg1, ext_rfl d L1 D1 n1, Nat.le_refl _, fun _ e c h1 h2 => by omega⟩
      rw [tX9_exchanges_3, hp.1.1 43 1 (by decide) (by decide), hb1]
      try simp only [k_lit, k_nN, k_ofN]
      rw [i_leT (by omega) (by omega)]
    | succ m ih =>
      intro a t L1 D1 n1 sp1 ha hg1 hLk
      obtain ⟨⟨T, hp⟩, hq, hkn1, -⟩ := id hg1
      have eq3 := tX9_exchanges_3 (nI x) (nI z) (nI P) (nI tu) (nI d) (nI a) t
      simp only [k_lit, k_nN, k_ofN] at eq3
      rw [hp.1.1 43 1 (by decide) (by decide), hb1, i_leF (by omega) (by omega), nI_add] at eq3
      cases exa : x.testBit a
      · rw [ib0T exa (by omega) (by omega)] at eq3
        obtain ⟨u, L', D', n', sp', h1, h2, h3, h4, h5⟩ := ih (a + 1) t L1 D1 n1 sp1 (by omega) hg1 hLk
        refine ⟨u, L', D', n', sp', eq3.trans h1, h2, h3, h4, fun e0 e c g1 g2 g3 g4 => ?_⟩
        by_cases ee : e = a
        · subst ee; rw [exa] at g4; cases g4
        · exact h5 e0 e c (by omega) g2 g3 g4
      · rw [ib0F exa (by omega) (by omega)] at eq3
        obtain ⟨u, L2, D2, n2, sp2, q1, q2, q3, q4, q5⟩ := inner a (by omega) exa nb 0 t L1 D1 n1 sp1 (by omega) hg1 hLk
        obtain ⟨u3, L3, D3, n3, sp3, h1, h2, h3, h4, h5⟩ := ih (a + 1) u L2 D2 n2 sp2 (by omega) q2 (by rw [(q3.2.1 k hkn1).1, hLk])
        refine ⟨u3, L3, D3, n3, sp3, eq3.trans (q1.trans h1), h2, ext_tr q3 h3, by omega, fun e0 e c g1 g2 g3 g4 g5 g6 => ?_⟩
        by_cases ee : e = a
        · subst ee
          exact knw_ext (q5 (by omega) c (by omega) g3 g5 g6) q2.2.2.1 h3
        · exact h5 e0 e c (by omega) g2 g3 g4 g5 g6
  rw [tX9_exchanges]
  try simp only [k_lit, k_nN, k_ofN]
  obtain ⟨u, L', D', n', sp', h1, h2, h3, h4, h5⟩ := outer nb 0 t L D n sp (by omega) hg rfl
  exact ⟨u, L', D', n', sp', h1, h2, h3, h4, fun e0 a b g1 g2 g3 g4 g5 => h5 e0 a b (by omega) g1 g2 g3 g4 g5⟩
