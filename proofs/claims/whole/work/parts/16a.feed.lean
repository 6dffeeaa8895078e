/-! ===== feed ===== -/
def byA (v : Int32) (i : Nat) : Int32 := (v >>> (nI (24 - 8 * i) &&& nI 31)) &&& nI 255
theorem by_x (n : Nat) (hn : n ≤ 24) (v : Int32) : vp_nar .byte ((((v : Int32).toUInt32 >>> ((nI n).toUInt32 &&& (nI 31).toUInt32)).toInt32 : Int32).toInt8.toInt32) &&& nI 255 = (v >>> (nI n &&& nI 31)) &&& nI 255 := by
  rw [pk_vb]
  refine (bp_b _).trans ?_
  show (_ &&& (255 : Int32)) = _ &&& (255 : Int32)
  apply b_ext
  intro i hi
  rw [b_and, b_and, b_255]
  have e1 := b_ushr n (by omega) v i
  have e2 := b_sshr n (by omega) v hi
  by_cases h : i < 8
  · rw [if_pos (by omega)] at e2
    exact congrArg (· && decide (i < 8)) (e1.trans e2.symm)
  · simp [h]
theorem by_x0 (v : Int32) : vp_nar .byte ((v : Int32).toInt8.toInt32) &&& nI 255 = (v >>> (nI 0 &&& nI 31)) &&& nI 255 := by
  rw [pk_vb]
  refine (bp_b _).trans ?_
  have : v >>> (nI 0 &&& nI 31) = v := by
    apply b_ext
    intro i hi
    have e2 := b_sshr 0 (by omega) v hi
    rw [if_pos (by omega)] at e2
    rw [Nat.zero_add] at e2
    exact e2
  rw [this]
  rfl
theorem sX5_put (v : Int32) (s : aMem) (n : Nat) (h : s.1 1 1 = nI n) (hn : n + 4 ≤ 700) : ∃ t, fX5_put [.ref 1, .int v] s = some (.inl none, t) ∧ fr [2] [(1, 1)] s t ∧ t.1 1 1 = nI (n + 4) ∧ ∀ j, t.1 2 j &&& nI 255 = if n ≤ j ∧ j < n + 4 then byA v (j - n) else s.1 2 j &&& nI 255 := by
  rw [tX5_put]
  simp only [k_lit, h, nI_add]
  simp (disch := omega) only [i_leT, i_okT, k_cl]
  refine ⟨_, rfl, ?_, ?_, ?_⟩
  · exact fr_si (fr_si (fr_si (fr_si (fr_si (fr_rfl s) (by simp)) (by simp)) (by simp)) (by simp)) (by simp)
  · simp [m_si]
  · intro j
    simp only [m_si]
    simp only [if_true, show ((2 : Nat) = 1) = False from by simp, if_false]
    by_cases h3 : j = n + 3
    · subst h3
      rw [if_pos rfl, if_pos (by omega), by_x0]
      unfold byA
      congr 4
      omega
    rw [if_neg h3]
    by_cases h2 : j = n + 2
    · subst h2
      rw [if_pos rfl, if_pos (by omega), by_x 8 (by omega)]
      unfold byA
      congr 4
      omega
    rw [if_neg h2]
    by_cases h1 : j = n + 1
    · subst h1
      rw [if_pos rfl, if_pos (by omega), by_x 16 (by omega)]
      unfold byA
      congr 4
      omega
    rw [if_neg h1]
    by_cases h0 : j = n
    · subst h0
      rw [if_pos rfl, if_pos (by omega), by_x 24 (by omega)]
      unfold byA
      congr 4
      omega
    rw [if_neg h0, if_neg (by omega)]
theorem sX9_lays (v : Int32) (s : aMem) (n : Nat) (h : s.1 43 10 = nI n) (hn : n + 4 ≤ 700) : ∃ t, fX9_lays [.ref 43, .int v] s = some (.inl none, t) ∧ fr [50] [(43, 10)] s t ∧ t.1 43 10 = nI (n + 4) ∧ ∀ j, t.1 50 j = if n ≤ j ∧ j < n + 4 then byA v (j - n) else s.1 50 j := by
  have e1 : (24 : Int32) + (-8) = nI 16 := by decide
  have e2 : nI 16 + (-8) = nI 8 := by decide
  have e3 : nI 8 + (-8) = nI 0 := by decide
  have e4 : (nI 0 + (-8) < 0) = True := by simp; decide
  have f1 : ((24 : Int32) < 0) = False := by simp
  have f2 : (nI 16 < 0) = False := by simp; decide
  have f3 : (nI 8 < 0) = False := by simp; decide
  have f4 : (nI 0 < 0) = False := by simp; decide
  rw [tX9_lays, tX9_lays_3]
  simp only [f1, if_false, e1]
  rw [tX9_lays_3]
  simp only [f2, if_false, e2]
  rw [tX9_lays_3]
  simp only [f3, if_false, e3]
  rw [tX9_lays_3]
  simp only [f4, if_false]
  rw [tX9_lays_3]
  simp only [e4, if_true]
  simp only [m_si, if_true, h, k_lit, nI_add, show ((43 : Nat) = 50) = False from by simp, if_false]
  simp (disch := omega) only [i_okT, k_cl]
  refine ⟨_, rfl, ?_, ?_, ?_⟩
  · exact fr_si (fr_si (fr_si (fr_si (fr_si (fr_si (fr_si (fr_si (fr_rfl s) (by simp)) (by simp)) (by simp)) (by simp)) (by simp)) (by simp)) (by simp)) (by simp)
  · simp [m_si]
  · intro j
    simp only [m_si]
    simp only [if_true, show ((50 : Nat) = 43) = False from by simp, if_false]
    by_cases h3 : j = n + 1 + 1 + 1
    · subst h3
      rw [if_pos rfl, if_pos (by omega)]
      unfold byA
      congr 4
      omega
    rw [if_neg h3]
    by_cases h2 : j = n + 1 + 1
    · subst h2
      rw [if_pos rfl, if_pos (by omega)]
      unfold byA
      congr 4
      omega
    rw [if_neg h2]
    by_cases h1 : j = n + 1
    · subst h1
      rw [if_pos rfl, if_pos (by omega)]
      unfold byA
      congr 4
      omega
    rw [if_neg h1]
    by_cases h0 : j = n
    · subst h0
      rw [if_pos rfl, if_pos (by omega)]
      unfold byA
      congr 4
      omega
    rw [if_neg h0, if_neg (by omega)]
def feB (a b c d e : Int32) (i : Nat) : Int32 := if i < 4 then byA a i else if i < 8 then byA b (i - 4) else if i < 12 then byA c (i - 8) else if i < 16 then byA d (i - 12) else byA e (i - 16)
theorem feB_go {a b c d e : Int32} {n j : Nat} {x : Int32} : (if n + 4 + 4 + 4 + 4 ≤ j ∧ j < n + 4 + 4 + 4 + 4 + 4 then byA e (j - (n + 4 + 4 + 4 + 4)) else if n + 4 + 4 + 4 ≤ j ∧ j < n + 4 + 4 + 4 + 4 then byA d (j - (n + 4 + 4 + 4)) else if n + 4 + 4 ≤ j ∧ j < n + 4 + 4 + 4 then byA c (j - (n + 4 + 4)) else if n + 4 ≤ j ∧ j < n + 4 + 4 then byA b (j - (n + 4)) else if n ≤ j ∧ j < n + 4 then byA a (j - n) else x) = if n ≤ j ∧ j < n + 20 then feB a b c d e (j - n) else x := by
  unfold feB
  by_cases h : n ≤ j ∧ j < n + 20
  · rw [if_pos h]
    by_cases h4 : j - n < 4
    · rw [if_neg (by omega), if_neg (by omega), if_neg (by omega), if_neg (by omega), if_pos (by omega), if_pos h4]
    rw [if_neg h4]
    by_cases h8 : j - n < 8
    · rw [if_neg (by omega), if_neg (by omega), if_neg (by omega), if_pos (by omega), if_pos h8]
      congr 1
    rw [if_neg h8]
    by_cases h12 : j - n < 12
    · rw [if_neg (by omega), if_neg (by omega), if_pos (by omega), if_pos h12]
      congr 1
    rw [if_neg h12]
    by_cases h16 : j - n < 16
    · rw [if_neg (by omega), if_pos (by omega), if_pos h16]
      congr 1
    rw [if_neg h16, if_pos (by omega)]
    congr 1
  · rw [if_neg h, if_neg (by omega), if_neg (by omega), if_neg (by omega), if_neg (by omega), if_neg (by omega)]
theorem sX8_feed (a b c d e : Int32) (s : aMem) (n : Nat) (h : s.1 1 1 = nI n) (hn : n ≤ 680) : ∃ t, fX8_feed [.ref 0, .int a, .int b, .int c, .int d, .int e] s = some (.inl (some (.int (nI (n + 20)))), t) ∧ fr [2] [(1, 1)] s t ∧ t.1 1 1 = nI (n + 20) ∧ ∀ j, t.1 2 j &&& nI 255 = if n ≤ j ∧ j < n + 20 then feB a b c d e (j - n) else s.1 2 j &&& nI 255 := by
  obtain ⟨t1, e1, f1, g1, h1⟩ := sX5_put a s n h (by omega)
  obtain ⟨t2, e2, f2, g2, h2⟩ := sX5_put b t1 _ g1 (by omega)
  obtain ⟨t3, e3, f3, g3, h3⟩ := sX5_put c t2 _ g2 (by omega)
  obtain ⟨t4, e4, f4, g4, h4⟩ := sX5_put d t3 _ g3 (by omega)
  obtain ⟨t5, e5, f5, g5, h5⟩ := sX5_put e t4 _ g4 (by omega)
  refine ⟨t5, ?_, fr_trans (fr_trans (fr_trans (fr_trans f1 f2) f3) f4) f5, g5, fun j => ?_⟩
  · rw [tX8_feed]
    simp only [k_lit, h]
    simp (disch := omega) only [i_leT]
    rw [e1, b_bv, tX8_feed_23, e2, b_bv, tX8_feed_31, e3, b_bv, tX8_feed_39, e4, b_bv, tX8_feed_48, e5, b_bv, tX8_feed_57, g5]
  · rw [h5, h4, h3, h2, h1]
    exact feB_go
theorem sX8_feedF (a b c d e : Int32) (s : aMem) (n : Nat) (h : s.1 1 1 = nI n) (hn : 680 < n) (h7 : n ≤ 700) : fX8_feed [.ref 0, .int a, .int b, .int c, .int d, .int e] s = some (.inl (some (.int nN)), s) := by
  rw [tX8_feed]
  simp only [k_lit, h]
  simp (disch := omega) only [i_leF, k_nN]
theorem sX9_feed (a b c d e : Int32) (s : aMem) (n : Nat) (h : s.1 43 10 = nI n) (hn : n ≤ 680) : ∃ t, fX9_feed [.ref 43, .int a, .int b, .int c, .int d, .int e] s = some (.inl (some (.int (nI (n + 20)))), t) ∧ fr [50] [(43, 10), (43, 0)] s t ∧ t.1 43 0 = 0 ∧ t.1 43 10 = nI (n + 20) ∧ ∀ j, t.1 50 j = if n ≤ j ∧ j < n + 20 then feB a b c d e (j - n) else s.1 50 j := by
  obtain ⟨t1, e1, f1, g1, h1⟩ := sX9_lays a (a_si s 43 0 0) n (by simpa [m_si] using h) (by omega)
  obtain ⟨t2, e2, f2, g2, h2⟩ := sX9_lays b t1 _ g1 (by omega)
  obtain ⟨t3, e3, f3, g3, h3⟩ := sX9_lays c t2 _ g2 (by omega)
  obtain ⟨t4, e4, f4, g4, h4⟩ := sX9_lays d t3 _ g3 (by omega)
  obtain ⟨t5, e5, f5, g5, h5⟩ := sX9_lays e t4 _ g4 (by omega)
  have F := fr_trans (fr_trans (fr_trans (fr_trans f1 f2) f3) f4) f5
  refine ⟨t5, ?_, fr_trans (fr_si (fr_rfl s) (by simp)) (fr_mono F (by simp) (by simp)), ?_, g5, fun j => ?_⟩
  · rw [tX9_feed]
    simp only [k_lit, h, nI_add]
    simp (disch := omega) only [i_leT]
    simp only [k_lit] at e1
    rw [e1, b_bv, tX9_feed_25, e2, b_bv, tX9_feed_30, e3, b_bv, tX9_feed_35, e4, b_bv, tX9_feed_41, e5, b_bv, tX9_feed_47, g5]
  · rw [F.1 43 0 (by simp) (by simp)]
    simp [m_si]
  · rw [h5, h4, h3, h2, h1, feB_go]
    simp [m_si]
theorem sX9_feedF (a b c d e : Int32) (s : aMem) (n : Nat) (h : s.1 43 10 = nI n) (hn : 680 < n) (h7 : n ≤ 700) : fX9_feed [.ref 43, .int a, .int b, .int c, .int d, .int e] s = some (.inl (some (.int nN)), a_si s 43 0 0) := by
  rw [tX9_feed]
  simp only [k_lit, h, nI_add]
  simp (disch := omega) only [i_leF, k_nN]
