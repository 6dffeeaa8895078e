/-! ===== states of two; the class's table ===== -/
def enc (x y : Nat) : Nat := x + 4096 * y
theorem enc_or {x y : Nat} (h : x < 4096) : x ||| y * 4096 = enc x y := by
  unfold enc
  have := Nat.two_pow_add_eq_or_of_lt (i := 12) (b := x) h y
  rw [Nat.or_comm, Nat.mul_comm]
  rw [show (2 : Nat) ^ 12 = 4096 from rfl] at this
  omega
theorem enc_x {x y : Nat} (h : x < 4096) : enc x y % 4096 = x := by
  unfold enc
  omega
theorem enc_y {x y : Nat} (h : x < 4096) : enc x y / 4096 = y := by
  unfold enc
  omega
theorem enc_lt {x y : Nat} (h : x < 4096) (h2 : y < 4096) : enc x y < 16777216 := by
  unfold enc
  omega
theorem enc_bit {x y b : Nat} (h : x < 4096) (hb : b < 12) : (enc x y).testBit b = x.testBit b := by
  have e : x = enc x y % 2 ^ 12 := (enc_x (y := y) h).symm
  conv => rhs; rw [e]
  rw [Nat.testBit_mod_two_pow]
  simp [hb]
theorem k_enc {x y : Nat} (hx : x < 4096) (hy : y < 4096) : nI x ||| (nI y <<< (nI 12 &&& nI 31)) = nI (enc x y) := by
  rw [k_shl (by omega) (by omega), k_or, show (2 : Nat) ^ 12 = 4096 from rfl, enc_or hx]
theorem k_dx {v : Nat} (hv : v < 16777216) : nI v &&& nI 4095 = nI (v % 4096) := pk_andN (by omega) 12 (by decide)
theorem k_dy {v : Nat} (hv : v < 16777216) : nI v >>> (nI 12 &&& nI 31) = nI (v / 4096) := by
  rw [k_shr (by omega) (by omega)]
/-- the steps -/
def sp1 (nb : Nat) (pg : Nat → Int32) (P x y : Nat) (w : Nat) : Prop := ∃ a b, a < nb ∧ b < nb ∧ x.testBit a = true ∧ (P.testBit b = true ∧ x.testBit b = false ∧ y.testBit b = false) ∧ pg b < pg a ∧ w = enc (swp x a b) y
def sp2 (nb : Nat) (pg : Nat → Int32) (P x y : Nat) (w : Nat) : Prop := ∃ a b, a < nb ∧ b < nb ∧ y.testBit a = true ∧ (P.testBit b = true ∧ x.testBit b = false ∧ y.testBit b = false) ∧ pg b < pg a ∧ w = enc x (swp y a b)
def sp3 (nb x y : Nat) (w : Nat) : Prop := ∃ a b, a < nb ∧ b < nb ∧ x.testBit a = true ∧ y.testBit b = true ∧ w = enc (swp x a b) (swp y b a)
def scp (nb : Nat) (pg : Nat → Int32) (P : Nat) (v w : Nat) : Prop := sp1 nb pg P (v % 4096) (v / 4096) w ∨ sp2 nb pg P (v % 4096) (v / 4096) w ∨ sp3 nb (v % 4096) (v / 4096) w
/-- a state as it must be -/
def vok (nb v : Nat) : Prop := v < 16777216 ∧ v % 4096 < 2 ^ nb ∧ v / 4096 < 2 ^ nb ∧ ∀ b, (v % 4096).testBit b = true → (v / 4096).testBit b = false
theorem vok_enc {nb x y : Nat} (hnb : nb ≤ 12) (hx : x < 2 ^ nb) (hy : y < 2 ^ nb) (hd : ∀ b, x.testBit b = true → y.testBit b = false) : vok nb (enc x y) := by
  have hx4 := lt12 hx hnb
  have hy4 := lt12 hy hnb
  refine ⟨enc_lt hx4 hy4, ?_, ?_, ?_⟩
  · rw [enc_x hx4]; exact hx
  · rw [enc_y hx4]; exact hy
  · rw [enc_x hx4, enc_y hx4]; exact hd
theorem vok_e {nb v : Nat} (h : vok nb v) : v = enc (v % 4096) (v / 4096) := by
  unfold enc
  omega
theorem vok_sc {nb P v w : Nat} {pg : Nat → Int32} (hnb : nb ≤ 12) (h : vok nb v) (hs : scp nb pg P v w) : vok nb w := by
  obtain ⟨h1, h2, h3, h4⟩ := h
  rcases hs with ⟨a, b, ha, hb, q1, ⟨q2, q3, q4⟩, q5, rfl⟩ | ⟨a, b, ha, hb, q1, ⟨q2, q3, q4⟩, q5, rfl⟩ | ⟨a, b, ha, hb, q1, q2, rfl⟩
  · refine vok_enc hnb (swp_lt h2 hb) h3 (fun c hc => ?_)
    rw [swp_bit] at hc
    by_cases e : b = c
    · rw [← e]; exact q4
    · simp only [e, decide_false, Bool.or_false, Bool.and_eq_true] at hc
      exact h4 c hc.1
  · refine vok_enc hnb h2 (swp_lt h3 hb) (fun c hc => ?_)
    rw [swp_bit]
    by_cases e : b = c
    · rw [← e, q3] at hc; cases hc
    · simp [h4 c hc, e]
  · refine vok_enc hnb (swp_lt h2 hb) (swp_lt h3 ha) (fun c hc => ?_)
    rw [swp_bit] at hc ⊢
    by_cases e : a = c
    · subst e
      by_cases e2 : b = a
      · subst e2
        rw [h4 b q1] at q2
        cases q2
      · simp [e2] at hc
    · by_cases e2 : b = c
      · simp [e, e2]
      · simp only [e, e2, decide_false, Bool.not_false, Bool.and_true, Bool.or_false] at hc ⊢
        exact h4 c hc
theorem vok_rc {nb P v0 : Nat} {pg : Nat → Int32} (hnb : nb ≤ 12) (h0 : vok nb v0) : ∀ d w, rc (scp nb pg P) v0 d w → vok nb w
  | 0, w, h => by rw [show w = v0 from h]; exact h0
  | d + 1, w, ⟨u, hu, hs⟩ => vok_sc hnb (vok_rc hnb h0 d u hu) hs
/-! the class's table -/
def hX (v : Nat) : Nat := (nI v * -nI 1640531535).toBitVec.toNat / 2 ^ 19
theorem hX_lt (v : Nat) : hX v < 8192 := by
  unfold hX
  have := (nI v * -nI 1640531535).toBitVec.isLt
  omega
theorem nI_toNat (x : Int32) : x = nI x.toBitVec.toNat := by
  apply k_inj
  rw [k_bv, BitVec.ofNat_toNat, BitVec.setWidth_eq]
theorem k_hX (v : Nat) : ((nI v * -nI 1640531535 : Int32).toUInt32 >>> (Int32.toUInt32 (nI 19) &&& Int32.toUInt32 (nI 31))).toInt32 = nI (hX v) := by
  unfold hX
  conv => lhs; rw [nI_toNat (nI v * -nI 1640531535)]
  exact pk_ushrN (nI v * -nI 1640531535).toBitVec.isLt (nI 19) 19 (by decide)
theorem k_m13 {p : Nat} (h : p < 100000) : nI p &&& nI 8191 = nI (p % 8192) := pk_andN (by omega) 13 (by decide)
/-- the class's picture: its list, its table -/
def pX (nb : Nat) (s t : aMem) (T : Nat → Option Nat) (L : Nat → Nat) (n : Nat) (sp : Nat) : Prop := (fr [36, 37] [(35, 3), (35, 4)] s t) ∧ tb 8192 hX T L n ∧ (n ≤ 4000 ∧ t.1 35 3 = nI n ∧ t.1 35 4 = nI sp ∧ sp ≤ 1) ∧ (∀ i, i < n → t.1 36 i = nI (L i) ∧ L i < 16777216) ∧ ∀ p, p < 8192 → t.1 37 p = match T p with
  | none => nN
  | some i => nI (L i)
theorem sX2_meet {nb n sp x y : Nat} {s t : aMem} {T : Nat → Option Nat} {L : Nat → Nat} (h : pX nb s t T L n sp) (hx : x < 4096) (hy : y < 4096) : ∃ u, fX2_meet [.ref 35, .int (nI x), .int (nI y)] t = some (.inl none, u) ∧ ((∃ i, i < n ∧ L i = enc x y ∧ u = t) ∨ ((∀ i, i < n → L i ≠ enc x y) ∧ n = 4000 ∧ pX nb s u T L n 1) ∨ ((∀ i, i < n → L i ≠ enc x y) ∧ n < 4000 ∧ ∃ T', pX nb s u T' (upN L n (enc x y)) (n + 1) sp)) := by
  obtain ⟨f, ht, ⟨hn, h3, h4, hsp⟩, h36, h37⟩ := id h
  have hv := enc_lt hx hy
  obtain ⟨c, hc, hb, hout⟩ := tb_probe (by omega) ht (show n < 8192 by omega) (enc x y)
  have hH := hX_lt (enc x y)
  -- up to the place
  have walk : ∀ m k, k + m = c → a_run none shp pX2_meet 19 [some (.ref 35), none, none, some (.int (nI (enc x y))), some (.int (nI ((hX (enc x y) + k) % 8192))), some (.int (nI k)), none] [] t = a_run none shp pX2_meet 19 [some (.ref 35), none, none, some (.int (nI (enc x y))), some (.int (nI ((hX (enc x y) + c) % 8192))), some (.int (nI c)), none] [] t := by
    intro m
    induction m with
    | zero =>
      intro k hk
      rw [show k = c by omega]
    | succ m ih =>
      intro k hk
      obtain ⟨i, hi, e1, e2⟩ := hb k (by omega)
      have hp : (hX (enc x y) + k) % 8192 < 8192 := Nat.mod_lt _ (by omega)
      have hcell := h37 _ hp
      rw [e1] at hcell
      have hLi := (h36 i hi).2
      rw [tX2_meet_19]
      try simp only [k_lit, k_nN, k_ofN]
      simp (disch := omega) only [i_leT, i_leF, i_ltT, i_ltF, i_eqT, i_eqF, i_okT, i_n1, i_n2, i_n3, i_n4, i_n5, i_n6, i_n7, i_n8, k_cl, if_true, if_false]
      rw [hcell]
      simp only
      rw [i_eqF e2 (by omega) (by omega), i_n1 (by omega), nI_add, nI_add, k_m13 (by omega), Nat.mod_add_mod]
      exact ih (k + 1) (by omega)
  have hp : (hX (enc x y) + c) % 8192 < 8192 := Nat.mod_lt _ (by omega)
  have hcell := h37 _ hp
  have start : fX2_meet [.ref 35, .int (nI x), .int (nI y)] t = a_run none shp pX2_meet 19 [some (.ref 35), none, none, some (.int (nI (enc x y))), some (.int (nI ((hX (enc x y) + c) % 8192))), some (.int (nI c)), none] [] t := by
    rw [tX2_meet]
    try simp only [k_lit, k_nN, k_ofN]
    rw [k_enc hx hy, k_hX]
    have := walk c 0 (by omega)
    rw [Nat.add_zero, Nat.mod_eq_of_lt hH] at this
    exact this
  rw [start, tX2_meet_19]
  try simp only [k_lit, k_nN, k_ofN]
  simp (disch := omega) only [i_leT, i_leF, i_ltT, i_ltF, i_eqT, i_eqF, i_okT, i_n1, i_n2, i_n3, i_n4, i_n5, i_n6, i_n7, i_n8, k_cl, if_true, if_false]
  rcases hout with ⟨he, hno⟩ | ⟨i, hi, e1, e2⟩
  · rw [he] at hcell
    simp only at hcell
    rw [hcell]
    simp (disch := omega) only [i_leT, i_leF, i_ltT, i_ltF, i_eqT, i_eqF, i_okT, i_n1, i_n2, i_n3, i_n4, i_n5, i_n6, i_n7, i_n8, k_cl, if_true, if_false]
    rw [tX2_meetNew, h3]
    try simp only [k_lit, k_nN, k_ofN, nI_add]
    by_cases e4 : n = 4000
    · subst e4
      simp (disch := omega) only [i_leT, i_leF, i_ltT, i_ltF, i_eqT, i_eqF, i_okT, i_n1, i_n2, i_n3, i_n4, i_n5, i_n6, i_n7, i_n8, k_cl, if_true, if_false]
      rw [b_bv]
      refine ⟨_, rfl, .inr (.inl ⟨hno, trivial, fr_si f (by simp), ht, ⟨hn, ?_, ?_, by omega⟩, fun i hi => ?_, fun p hp2 => ?_⟩)⟩
      · simpa [m_si] using h3
      · simp [m_si]
      · simpa [m_si] using h36 i hi
      · simpa [m_si] using h37 p hp2
    · simp (disch := omega) only [i_leT, i_leF, i_ltT, i_ltF, i_eqT, i_eqF, i_okT, i_n1, i_n2, i_n3, i_n4, i_n5, i_n6, i_n7, i_n8, k_cl, if_true, if_false]
      rw [b_bv]
      refine ⟨_, rfl, .inr (.inr ⟨hno, by omega, upT T ((hX (enc x y) + c) % 8192) n, fr_si (fr_si (fr_si f (by simp)) (by simp)) (by simp), tb_ins (by omega) ht hc hb he, ⟨by omega, ?_, ?_, hsp⟩, fun i hi => ?_, fun p hp2 => ?_⟩)⟩
      · simp [m_si]
      · simpa [m_si] using h4
      · by_cases ei : i = n
        · subst ei
          rw [upN_s]
          simp [m_si, hv]
        · rw [upN_n ei]
          simpa [m_si, ei] using h36 i (by omega)
      · unfold upT
        by_cases ep : p = (hX (enc x y) + c) % 8192
        · subst ep
          simp [m_si, upN_s]
        · have := h37 p hp2
          rw [if_neg ep]
          simp only [m_si, show ((37 : Nat) = 35) = False from by simp, show ((37 : Nat) = 36) = False from by simp, if_false, if_true, ep]
          rw [this]
          cases hT : T p with
          | none => rfl
          | some j =>
            have := ht.1 p j hp2 hT
            simp only
            rw [upN_n (by omega)]
  · rw [e1] at hcell
    simp only at hcell
    rw [hcell, e2]
    simp (disch := omega) only [i_leT, i_leF, i_ltT, i_ltF, i_eqT, i_eqF, i_okT, i_n1, i_n2, i_n3, i_n4, i_n5, i_n6, i_n7, i_n8, k_cl, if_true, if_false]
    exact ⟨t, rfl, .inl ⟨i, hi, e2, rfl⟩⟩
