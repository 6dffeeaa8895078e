/-! ===== tokens, as the model sees them ===== -/
def isSg (c : Nat) : Bool := decide (c = 59) || (decide (c = 40) || (decide (c = 41) || (decide (c = 43) || (decide (c = 45) || (decide (c = 42) || (decide (c = 47) || (decide (c = 60) || decide (c = 61))))))))
def srt (B : Nat → Nat) (n f : Nat) : Nat := if kd B n f = 3 then (if isSg (B f) = true then 3 else 4) else kd B n f
def pkf (g : Nat → Nat) : Nat → Nat
  | 0 => 0
  | j + 1 => 32 * pkf g j + g j
theorem pkf_lt {g : Nat → Nat} : ∀ k, (∀ j, j < k → g j < 32) → pkf g k < 32 ^ k
  | 0, _ => by simp [pkf]
  | k + 1, h => by
    have h1 := pkf_lt k (fun j hj => h j (by omega))
    have h2 := h k (by omega)
    unfold pkf
    rw [Nat.pow_succ]
    omega
def mn6 (x : Nat) : Nat := if x ≤ 6 then x else 6
def mn4 (x : Nat) : Nat := if x ≤ 4 then x else 4
def mB (B : Nat → Nat) (n : Nat) (s : aMem) : Prop := ∀ j, j < n → s.1 50 j = nI (B j)
def MTo (B : Nat → Nat) (n f : Nat) (s : aMem) : Prop := f ≤ n ∧ s.1 43 14 = nI n ∧ s.1 43 15 = nI (ed B n f) ∧ s.1 43 16 = nI (srt B n f) ∧ s.1 43 17 = nI f ∧ s.1 43 18 = nI (ed B n f - f) ∧ (kd B n f = 2 → s.1 43 19 = nI (nm B n f)) ∧ s.1 43 20 = nI (if f < n then B f else 0) ∧ (kd B n f = 1 → s.2.1 43 21 = lN (pkf (fun j => B (f + j) - 96) (mn6 (ed B n f - f)))) ∧ mB B n s
theorem sX9_byteAtT {B : Nat → Nat} {n i : Nat} {s : aMem} (hn : n ≤ 700) (h6 : s.1 43 14 = nI n) (hb : mB B n s) (hi : i < n) : fX9_byteAt [.ref 43, .int (nI i)] s = some (.inl (some (.int (nI (B i)))), s) := by
  rw [tX9_byteAt, h6]
  try simp only [k_lit, k_nN, k_ofN]
  simp (disch := omega) only [i_leT, i_leF, i_ltT, i_ltF, i_eqT, i_eqF, i_okT, i_n1, i_n2, i_n3, i_n4, i_n5, i_n6, i_n7, i_n8, k_cl, if_true, if_false]
  rw [hb i hi]
theorem sX9_byteAtF {n i : Nat} {s : aMem} (hn : n ≤ 700) (h6 : s.1 43 14 = nI n) (hi : n ≤ i) (hi2 : i < 10000) : fX9_byteAt [.ref 43, .int (nI i)] s = some (.inl (some (.int (nI 0))), s) := by
  rw [tX9_byteAt, h6]
  try simp only [k_lit, k_nN, k_ofN]
  simp (disch := omega) only [i_leT, i_leF, i_ltT, i_ltF, i_eqT, i_eqF, i_okT, i_n1, i_n2, i_n3, i_n4, i_n5, i_n6, i_n7, i_n8, k_cl, if_true, if_false]
theorem mB_fr {B : Nat → Nat} {n : Nat} {s t : aMem} (h : mB B n s) (f : ∀ j, t.1 50 j = s.1 50 j) : mB B n t := by
  intro j hj
  rw [f j]
  exact h j hj
theorem or32 (a c : Nat) (hc : c < 32) : a * 32 ||| c = 32 * a + c := by
  have := Nat.two_pow_add_eq_or_of_lt (i := 5) (b := c) hc a
  rw [show (2 : Nat) ^ 5 = 32 from rfl] at this
  rw [this, Nat.mul_comm]
theorem k_pack {a c : Nat} (ha : a < 32 ^ 11) (hc : c < 32) : (lN a <<< ((nI 5).toInt64 &&& 63)) ||| (nI c).toInt64 = lN (32 * a + c) := by
  have h11 : 32 ^ 11 = 36028797018963968 := by decide
  rw [wb_shl a (by omega), nI_l (by omega), show (2 : Nat) ^ 5 = 32 from rfl, wb_or (by omega) (by omega), or32 a c hc]
theorem sX9_goesO {B : Nat → Nat} {n p : Nat} {s : aMem} (hn : n ≤ 700) (hB : ∀ j, j < n → B j < 256) (hp : p ≤ n) (h15 : s.1 43 15 = nI p) (h14 : s.1 43 14 = nI n) (hb : mB B n s) : ∃ u, fX9_goes [.ref 43] s = some (.inl none, u) ∧ fr [] [(43, 15), (43, 16), (43, 17), (43, 18), (43, 19), (43, 20), (43, 21)] s u ∧ MTo B n (SK B n p) u := by
  have word : ∀ (f : Nat), f < n → bL (B f) = true → ∀ m t u, t + m = n → f ≤ t → (∀ j, f ≤ j → j < t → bL (B j) = true) → WE B n f = WE B n t → fr [] [(43, 15), (43, 16), (43, 17), (43, 18), (43, 19), (43, 20), (43, 21)] s u → u.1 43 17 = nI f → u.1 43 15 = nI t → u.1 43 20 = nI (B f) → u.2.1 43 21 = lN (pkf (fun j => B (f + j) - 96) (mn6 (t - f))) → ∃ w, a_run none shp pX9_goes 108 [some (.ref 43), none] [] u = some (.inl none, w) ∧ fr [] [(43, 15), (43, 16), (43, 17), (43, 18), (43, 19), (43, 20), (43, 21)] s w ∧ MTo B n f w := by
    intro f hf hL m
    have hkd : kd B n f = 1 := by
      unfold kd
      rw [if_neg (by omega), if_pos hL]
    have hed : ed B n f = WE B n f := by
      unfold ed
      rw [if_neg (by omega), if_pos hL, WE_st hf, if_pos hL]
    have hsrt : srt B n f = 1 := by simp [srt, hkd]
    have fin : ∀ t u, f ≤ t → t ≤ n → WE B n f = t → fr [] [(43, 15), (43, 16), (43, 17), (43, 18), (43, 19), (43, 20), (43, 21)] s u → u.1 43 17 = nI f → u.1 43 15 = nI t → u.1 43 20 = nI (B f) → u.2.1 43 21 = lN (pkf (fun j => B (f + j) - 96) (mn6 (t - f))) → MTo B n f (a_si (a_si u 43 16 (nI 1)) 43 18 (nI (t - f))) := by
      intro t u h1 h2 hw fu u17 u15 u20 u21
      refine ⟨by omega, ?_, ?_, ?_, ?_, ?_, fun c => by omega, ?_, fun _ => ?_, mB_fr hb (fun j => ?_)⟩
      · have : u.1 43 14 = nI n := by rw [fu.1 43 14 (by simp) (by decide)]; exact h14
        simpa [m_si] using this
      · rw [hed, hw]; simpa [m_si] using u15
      · rw [hsrt]; simp [m_si]
      · simpa [m_si] using u17
      · rw [hed, hw]; simp [m_si]
      · rw [if_pos hf]; simpa [m_si] using u20
      · rw [hed, hw]; exact u21
      · have : u.1 50 j = s.1 50 j := fu.1 50 j (by simp) (by simp)
        simpa [m_si] using this
    induction m with
    | zero =>
      intro t u ht hft hin hw fu u17 u15 u20 u21
      have u14 : u.1 43 14 = nI n := by rw [fu.1 43 14 (by simp) (by decide)]; exact h14
      have htn : t = n := by omega
      refine ⟨_, ?_, fr_si (fr_si fu (by simp)) (by simp), fin t u hft (by omega) (by rw [hw, htn, WE_n]) fu u17 u15 u20 u21⟩
      rw [tX9_goes_108, u15, sX9_byteAtF hn u14 (by omega) (by omega), b_bi, tX9_goes_116, sX9_isLetter (by omega), b_bi, tX9_goes_119, u15, u17]
      try simp only [k_lit, k_nN, k_ofN]
      rw [show (bL 0).toNat = 0 from rfl, pk_sub hft]
      simp (disch := omega) only [i_leT, i_leF, i_ltT, i_ltF, i_eqT, i_eqF, i_okT, i_n1, i_n2, i_n3, i_n4, i_n5, i_n6, i_n7, i_n8, k_cl, if_true, if_false]
    | succ m ih =>
      intro t u ht hft hin hw fu u17 u15 u20 u21
      have u14 : u.1 43 14 = nI n := by rw [fu.1 43 14 (by simp) (by decide)]; exact h14
      have ub : mB B n u := mB_fr hb (fun j => fu.1 50 j (by simp) (by simp))
      rw [WE_st (show t < n by omega)] at hw
      rw [tX9_goes_108, u15, sX9_byteAtT hn u14 ub (by omega), b_bi, tX9_goes_116, sX9_isLetter (hB t (by omega)), b_bi, tX9_goes_119, u15, u17]
      try simp only [k_lit, k_nN, k_ofN]
      rw [pk_sub hft]
      cases e : bL (B t)
      · rw [e] at hw
        simp only [Bool.toNat_false]
        simp (disch := omega) only [i_leT, i_leF, i_ltT, i_ltF, i_eqT, i_eqF, i_okT, i_n1, i_n2, i_n3, i_n4, i_n5, i_n6, i_n7, i_n8, k_cl, if_true, if_false]
        exact ⟨_, rfl, fr_si (fr_si fu (by simp)) (by simp), fin t u hft (by omega) (by simpa using hw) fu u17 u15 u20 u21⟩
      · rw [e] at hw
        simp only [Bool.toNat_true]
        have hin2 : ∀ j, f ≤ j → j < t + 1 → bL (B j) = true := by
          intro j h1 h2
          by_cases c : j = t
          · rw [c]; exact e
          · exact hin j h1 (by omega)
        simp (disch := omega) only [i_leT, i_leF, i_ltT, i_ltF, i_eqT, i_eqF, i_okT, i_n1, i_n2, i_n3, i_n4, i_n5, i_n6, i_n7, i_n8, k_cl, if_true, if_false]
        by_cases e6 : 6 ≤ t - f
        · rw [i_leT e6 (by omega), nI_add]
          refine ih (t + 1) _ (by omega) (by omega) hin2 (by simpa using hw) (fr_si fu (by simp)) ?_ ?_ ?_ ?_
          · simpa [m_si] using u17
          · simp [m_si]
          · simpa [m_si] using u20
          · rw [m_si2, u21]
            congr 1
            unfold mn6
            by_cases e7 : t - f = 6
            · rw [if_pos (by omega), if_neg (by omega), e7]
            · rw [if_neg (by omega), if_neg (by omega)]
        · rw [i_leF (by omega) (by omega), sX9_byteAtT hn u14 ub (by omega), b_bi, tX9_goes_151, u15]
          try simp only [k_lit, k_nN, k_ofN, nI_add]
          have e9 := e
          unfold bL at e9
          simp only [Bool.and_eq_true, decide_eq_true_eq] at e9
          have hd : ∀ j, j < t - f → (fun j => B (f + j) - 96) j < 32 := by
            intro j hj
            have := hin (f + j) (by omega) (by omega)
            unfold bL at this
            simp only [Bool.and_eq_true, decide_eq_true_eq] at this
            show B (f + j) - 96 < 32
            omega
          have hlt := pkf_lt (t - f) hd
          have h6 : 32 ^ (t - f) ≤ 32 ^ 11 := Nat.pow_le_pow_right (by decide) (by omega)
          rw [pk_sub (show 96 ≤ B t by omega), u21]
          rw [show mn6 (t - f) = t - f from if_pos (by omega), k_pack (by omega) (by omega)]
          refine ih (t + 1) _ (by omega) (by omega) hin2 (by simpa using hw) (fr_si (fr_sl fu (by simp)) (by simp)) ?_ ?_ ?_ ?_
          · simpa [m_si, m_sl1] using u17
          · simp [m_si]
          · simpa [m_si, m_sl1] using u20
          · rw [m_si2, m_sl]
            simp only [if_true]
            congr 1
            rw [show mn6 (t + 1 - f) = (t - f) + 1 from by unfold mn6; rw [if_pos (by omega)]; omega]
            show _ = 32 * pkf (fun j => B (f + j) - 96) (t - f) + (B (f + (t - f)) - 96)
            rw [show f + (t - f) = t by omega]
  have numb : ∀ (f : Nat), f < n → bL (B f) = false → bD (B f) = true → ∀ m t u, t + m = n → f ≤ t → (∀ j, f ≤ j → j < t → bD (B j) = true) → DE B n f = DE B n t → fr [] [(43, 15), (43, 16), (43, 17), (43, 18), (43, 19), (43, 20), (43, 21)] s u → u.1 43 17 = nI f → u.1 43 15 = nI t → u.1 43 20 = nI (B f) → u.1 43 19 = nI (vl B f (mn4 (t - f))) → ∃ w, a_run none shp pX9_goes 187 [some (.ref 43), none] [] u = some (.inl none, w) ∧ fr [] [(43, 15), (43, 16), (43, 17), (43, 18), (43, 19), (43, 20), (43, 21)] s w ∧ MTo B n f w := by
    intro f hf hL hD m
    have hkd : kd B n f = 2 := by
      unfold kd
      rw [if_neg (by omega), hL, hD]
      rfl
    have hed : ed B n f = DE B n f := by
      unfold ed
      rw [if_neg (by omega), hL, hD, DE_st hf, hD]
      rfl
    have hsrt : srt B n f = 2 := by simp [srt, hkd]
    have fin : ∀ t u, f ≤ t → t ≤ n → DE B n f = t → fr [] [(43, 15), (43, 16), (43, 17), (43, 18), (43, 19), (43, 20), (43, 21)] s u → u.1 43 17 = nI f → u.1 43 15 = nI t → u.1 43 20 = nI (B f) → u.1 43 19 = nI (vl B f (mn4 (t - f))) → MTo B n f (a_si (a_si u 43 16 (nI 2)) 43 18 (nI (t - f))) := by
      intro t u h1 h2 hw fu u17 u15 u20 u19
      refine ⟨by omega, ?_, ?_, ?_, ?_, ?_, fun _ => ?_, ?_, fun c => by omega, mB_fr hb (fun j => ?_)⟩
      · have : u.1 43 14 = nI n := by rw [fu.1 43 14 (by simp) (by decide)]; exact h14
        simpa [m_si] using this
      · rw [hed, hw]; simpa [m_si] using u15
      · rw [hsrt]; simp [m_si]
      · simpa [m_si] using u17
      · rw [hed, hw]; simp [m_si]
      · unfold nm
        rw [hed, hw]
        simpa [m_si, mn4] using u19
      · rw [if_pos hf]; simpa [m_si] using u20
      · have : u.1 50 j = s.1 50 j := fu.1 50 j (by simp) (by simp)
        simpa [m_si] using this
    induction m with
    | zero =>
      intro t u ht hft hin hw fu u17 u15 u20 u19
      have u14 : u.1 43 14 = nI n := by rw [fu.1 43 14 (by simp) (by decide)]; exact h14
      have htn : t = n := by omega
      refine ⟨_, ?_, fr_si (fr_si fu (by simp)) (by simp), fin t u hft (by omega) (by rw [hw, htn, DE_n]) fu u17 u15 u20 u19⟩
      rw [tX9_goes_187, u15, sX9_byteAtF hn u14 (by omega) (by omega), b_bi, tX9_goes_195, sX9_isDigit (by omega), b_bi, tX9_goes_198, u15, u17]
      try simp only [k_lit, k_nN, k_ofN]
      rw [show (bD 0).toNat = 0 from rfl, pk_sub hft]
      simp (disch := omega) only [i_leT, i_leF, i_ltT, i_ltF, i_eqT, i_eqF, i_okT, i_n1, i_n2, i_n3, i_n4, i_n5, i_n6, i_n7, i_n8, k_cl, if_true, if_false]
    | succ m ih =>
      intro t u ht hft hin hw fu u17 u15 u20 u19
      have u14 : u.1 43 14 = nI n := by rw [fu.1 43 14 (by simp) (by decide)]; exact h14
      have ub : mB B n u := mB_fr hb (fun j => fu.1 50 j (by simp) (by simp))
      rw [DE_st (show t < n by omega)] at hw
      rw [tX9_goes_187, u15, sX9_byteAtT hn u14 ub (by omega), b_bi, tX9_goes_195, sX9_isDigit (hB t (by omega)), b_bi, tX9_goes_198, u15, u17]
      try simp only [k_lit, k_nN, k_ofN]
      rw [pk_sub hft]
      cases e : bD (B t)
      · rw [e] at hw
        simp only [Bool.toNat_false]
        simp (disch := omega) only [i_leT, i_leF, i_ltT, i_ltF, i_eqT, i_eqF, i_okT, i_n1, i_n2, i_n3, i_n4, i_n5, i_n6, i_n7, i_n8, k_cl, if_true, if_false]
        exact ⟨_, rfl, fr_si (fr_si fu (by simp)) (by simp), fin t u hft (by omega) (by simpa using hw) fu u17 u15 u20 u19⟩
      · rw [e] at hw
        simp only [Bool.toNat_true]
        have hin2 : ∀ j, f ≤ j → j < t + 1 → bD (B j) = true := by
          intro j h1 h2
          by_cases c : j = t
          · rw [c]; exact e
          · exact hin j h1 (by omega)
        simp (disch := omega) only [i_leT, i_leF, i_ltT, i_ltF, i_eqT, i_eqF, i_okT, i_n1, i_n2, i_n3, i_n4, i_n5, i_n6, i_n7, i_n8, k_cl, if_true, if_false]
        by_cases e4 : 4 ≤ t - f
        · rw [i_leT e4 (by omega), nI_add]
          refine ih (t + 1) _ (by omega) (by omega) hin2 (by simpa using hw) (fr_si fu (by simp)) ?_ ?_ ?_ ?_
          · simpa [m_si] using u17
          · simp [m_si]
          · simpa [m_si] using u20
          · have : mn4 (t + 1 - f) = mn4 (t - f) := by
              unfold mn4
              by_cases e7 : t - f = 4
              · rw [if_neg (by omega), if_pos (by omega), e7]
              · rw [if_neg (by omega), if_neg (by omega)]
            rw [this]
            simpa [m_si] using u19
        · rw [i_leF (by omega) (by omega), sX9_byteAtT hn u14 ub (by omega), b_bi, tX9_goes_230, u15]
          try simp only [k_lit, k_nN, k_ofN, nI_add]
          have e9 := e
          unfold bD at e9
          simp only [Bool.and_eq_true, decide_eq_true_eq] at e9
          refine ih (t + 1) _ (by omega) (by omega) hin2 (by simpa using hw) (fr_si (fr_si fu (by simp)) (by simp)) ?_ ?_ ?_ ?_
          · simpa [m_si] using u17
          · simp [m_si]
          · simpa [m_si] using u20
          · have h1 : mn4 (t - f) = t - f := if_pos (by omega)
            have h2 : mn4 (t + 1 - f) = (t - f) + 1 := by unfold mn4; rw [if_pos (by omega)]; omega
            rw [h2, show vl B f (t - f + 1) = 10 * vl B f (t - f) + (B (f + (t - f)) - 48) from rfl, show f + (t - f) = t by omega]
            simp only [m_si, if_true, show ((19 : Nat) = 15) = False from by simp, if_false]
            rw [u19, h1, pk_mul, nI_add, pk_sub (by omega)]
            congr 1
            omega
  have kind : ∀ f u, f ≤ n → fr [] [(43, 15), (43, 16), (43, 17), (43, 18), (43, 19), (43, 20), (43, 21)] s u → u.1 43 15 = nI f → ∃ w, a_bi (fX9_byteAt [.ref 43, .int (u.1 43 15)] (a_si (a_sl (a_si u 43 17 (u.1 43 15)) 43 21 ((nI 0).toInt64)) 43 19 (nI 0))) (fun r2 s1 => a_run none shp pX9_goes 76 [some (.ref 43), none] [.int r2] s1) none (fun x s1 => some (.inr x, s1)) = some (.inl none, w) ∧ fr [] [(43, 15), (43, 16), (43, 17), (43, 18), (43, 19), (43, 20), (43, 21)] s w ∧ MTo B n f w := by
    intro f u hf fu u15
    rw [u15]
    generalize hv : a_si (a_sl (a_si u 43 17 (nI f)) 43 21 ((nI 0).toInt64)) 43 19 (nI 0) = v
    have fv : fr [] [(43, 15), (43, 16), (43, 17), (43, 18), (43, 19), (43, 20), (43, 21)] s v := by
      rw [← hv]
      exact fr_si (fr_sl (fr_si fu (by simp)) (by simp)) (by simp)
    have v14 : v.1 43 14 = nI n := by rw [fv.1 43 14 (by simp) (by decide)]; exact h14
    have vbb : mB B n v := mB_fr hb (fun j => fv.1 50 j (by simp) (by simp))
    have v15 : v.1 43 15 = nI f := by rw [← hv]; simpa [m_si, m_sl1] using u15
    have v17 : v.1 43 17 = nI f := by rw [← hv]; simp [m_si, m_sl1]
    have v19 : v.1 43 19 = nI 0 := by rw [← hv]; simp [m_si]
    have v21 : v.2.1 43 21 = lN 0 := by
      rw [← hv, m_si2, m_sl]
      simp only [if_true]
      exact nI_l (by omega)
    by_cases e : n ≤ f
    · have hfn : f = n := by omega
      rw [sX9_byteAtF hn v14 e (by omega), b_bi, tX9_goes_76, v15, v14, v17]
      try simp only [k_lit, k_nN, k_ofN]
      rw [i_ltF e (by omega), pk_sub (Nat.le_refl _)]
      have hkd : kd B n f = 0 := by simp [kd, e]
      refine ⟨_, rfl, fr_si (fr_si (fr_si fv (by simp)) (by simp)) (by simp), hf, ?_, ?_, ?_, ?_, ?_, fun c => by omega, ?_, fun c => by omega, mB_fr vbb (fun j => by simp [m_si])⟩
      · simpa [m_si] using v14
      · rw [show ed B n f = n from by simp [ed, e]]
        rw [← hfn]
        simpa [m_si] using v15
      · simp [m_si, srt, hkd]
      · simpa [m_si] using v17
      · rw [show ed B n f = n from by simp [ed, e], hfn]
        simp [m_si]
      · rw [if_neg (by omega)]; simp [m_si]
    · have hBf := hB f (by omega)
      rw [sX9_byteAtT hn v14 vbb (by omega), b_bi, tX9_goes_76, v15, v14]
      try simp only [k_lit, k_nN, k_ofN]
      rw [i_ltT (by omega) (by omega), sX9_isLetter hBf, b_bi, tX9_goes_105]
      try simp only [k_lit, k_nN, k_ofN]
      have fw1 : fr [] [(43, 15), (43, 16), (43, 17), (43, 18), (43, 19), (43, 20), (43, 21)] s (a_si v 43 20 (nI (B f))) := fr_si fv (by simp)
      cases eL : bL (B f)
      · simp only [Bool.toNat_false]
        simp (disch := omega) only [i_leT, i_leF, i_ltT, i_ltF, i_eqT, i_eqF, i_okT, i_n1, i_n2, i_n3, i_n4, i_n5, i_n6, i_n7, i_n8, k_cl, if_true, if_false]
        rw [sX9_isDigit hBf, b_bi, tX9_goes_184]
        try simp only [k_lit, k_nN, k_ofN, nI_add]
        cases eD : bD (B f)
        · rw [Bool.toNat_false, i_eqT rfl]
          have hkd : kd B n f = 3 := by simp [kd, e, eL, eD]
          have hed : ed B n f = f + 1 := by simp [ed, e, eL, eD]
          have w15 : (a_si v 43 20 (nI (B f))).1 43 15 = nI f := by simpa [m_si] using v15
          have w17 : (a_si v 43 20 (nI (B f))).1 43 17 = nI f := by simpa [m_si] using v17
          have out : ∀ z : Nat, z = srt B n f → ∃ w, some (.inl none, a_si (a_si (a_si (a_si v 43 20 (nI (B f))) 43 15 (nI (f + 1))) 43 16 (nI z)) 43 18 (nI (f + 1) - nI f)) = (some (.inl none, w) : Option aRes) ∧ fr [] [(43, 15), (43, 16), (43, 17), (43, 18), (43, 19), (43, 20), (43, 21)] s w ∧ MTo B n f w := by
            intro z hz
            rw [pk_sub (by omega)]
            refine ⟨_, rfl, fr_si (fr_si (fr_si fw1 (by simp)) (by simp)) (by simp), hf, ?_, ?_, ?_, ?_, ?_, fun c => by omega, ?_, fun c => by omega, mB_fr vbb (fun j => by simp [m_si])⟩
            · simpa [m_si] using v14
            · rw [hed]; simp [m_si]
            · rw [← hz]; simp [m_si]
            · simpa [m_si] using v17
            · rw [hed]; simp [m_si]
            · rw [if_pos (by omega)]; simp [m_si]
          rw [w15, w17, nI_add]
          by_cases c1 : B f = 59
          · rw [i_eqT c1]; exact out 3 (by simp [srt, hkd, isSg, c1])
          · rw [i_eqF c1 (by omega) (by omega)]
            by_cases c2 : B f = 40
            · rw [i_eqT c2]; exact out 3 (by simp [srt, hkd, isSg, c2])
            · rw [i_eqF c2 (by omega) (by omega)]
              by_cases c3 : B f = 41
              · rw [i_eqT c3]; exact out 3 (by simp [srt, hkd, isSg, c3])
              · rw [i_eqF c3 (by omega) (by omega)]
                by_cases c4 : B f = 43
                · rw [i_eqT c4]; exact out 3 (by simp [srt, hkd, isSg, c4])
                · rw [i_eqF c4 (by omega) (by omega)]
                  by_cases c5 : B f = 45
                  · rw [i_eqT c5]; exact out 3 (by simp [srt, hkd, isSg, c5])
                  · rw [i_eqF c5 (by omega) (by omega)]
                    by_cases c6 : B f = 42
                    · rw [i_eqT c6]; exact out 3 (by simp [srt, hkd, isSg, c6])
                    · rw [i_eqF c6 (by omega) (by omega)]
                      by_cases c7 : B f = 47
                      · rw [i_eqT c7]; exact out 3 (by simp [srt, hkd, isSg, c7])
                      · rw [i_eqF c7 (by omega) (by omega)]
                        by_cases c8 : B f = 60
                        · rw [i_eqT c8]; exact out 3 (by simp [srt, hkd, isSg, c8])
                        · rw [i_eqF c8 (by omega) (by omega)]
                          by_cases c9 : B f = 61
                          · rw [i_eqT c9]; exact out 3 (by simp [srt, hkd, isSg, c9])
                          · rw [i_eqF c9 (by omega) (by omega)]
                            exact out 4 (by simp [srt, hkd, isSg, c1, c2, c3, c4, c5, c6, c7, c8, c9])
        · rw [Bool.toNat_true, i_eqF (by decide) (by decide) (by decide)]
          refine numb f (by omega) eL eD (n - f) f _ (by omega) (Nat.le_refl _) (fun j h1 h2 => by omega) rfl fw1 ?_ ?_ ?_ ?_
          · simpa [m_si] using v17
          · simpa [m_si] using v15
          · simp [m_si]
          · rw [Nat.sub_self]
            simpa [m_si, mn4, vl] using v19
      · simp only [Bool.toNat_true]
        simp (disch := omega) only [i_leT, i_leF, i_ltT, i_ltF, i_eqT, i_eqF, i_okT, i_n1, i_n2, i_n3, i_n4, i_n5, i_n6, i_n7, i_n8, k_cl, if_true, if_false]
        refine word f (by omega) eL (n - f) f _ (by omega) (Nat.le_refl _) (fun j h1 h2 => by omega) rfl fw1 ?_ ?_ ?_ ?_
        · simpa [m_si] using v17
        · simpa [m_si] using v15
        · simp [m_si]
        · rw [Nat.sub_self]
          exact v21
  have skip : ∀ m q u, q + m = n → SK B n p = SK B n q → fr [] [(43, 15), (43, 16), (43, 17), (43, 18), (43, 19), (43, 20), (43, 21)] s u → u.1 43 15 = nI q → ∃ w, a_run none shp pX9_goes 0 [some (.ref 43), none] [] u = some (.inl none, w) ∧ fr [] [(43, 15), (43, 16), (43, 17), (43, 18), (43, 19), (43, 20), (43, 21)] s w ∧ MTo B n (SK B n p) w := by
    intro m
    induction m with
    | zero =>
      intro q u hq hs fu u15
      have u14 : u.1 43 14 = nI n := by rw [fu.1 43 14 (by simp) (by decide)]; exact h14
      have hqn : q = n := by omega
      obtain ⟨w, h1, h2, h3⟩ := kind q u (by omega) fu u15
      rw [hs, show SK B n q = q from by rw [hqn, SK_n]]
      refine ⟨w, ?_, h2, h3⟩
      rw [tX9_goes_0, u14]
      try simp only [k_lit, k_nN, k_ofN]
      rw [show (if nI n ≤ u.1 43 15 then _ else _) = _ from if_pos (by rw [u15]; exact nI_le (by omega) (by omega))]
      exact h1
    | succ m ih =>
      intro q u hq hs fu u15
      have u14 : u.1 43 14 = nI n := by rw [fu.1 43 14 (by simp) (by decide)]; exact h14
      have ub : mB B n u := mB_fr hb (fun j => fu.1 50 j (by simp) (by simp))
      have hsq := SK_st (B := B) (show q < n by omega)
      have hat := sX9_byteAtT hn u14 ub (show q < n by omega)
      have hBq := hB q (by omega)
      obtain ⟨w, h1, h2, h3⟩ := kind q u (by omega) fu u15
      have eq0 := tX9_goes_0 u
      have eq19 := tX9_goes_19 (nI (B q)) u
      have eq32 := tX9_goes_32 (nI (B q)) u
      simp only [k_lit, k_nN, k_ofN] at eq0 eq19 eq32
      rw [u14] at eq0
      rw [u15] at eq0 eq19 eq32 h1
      rw [i_leF (by omega) (by omega), hat, b_bi] at eq0
      rw [hat, b_bi, nI_add] at eq19
      rw [nI_add] at eq32
      rw [eq0, eq19, eq32]
      by_cases c1 : B q = 32
      · rw [i_eqT c1]
        have : bB (B q) = true := by simp [bB, c1]
        rw [this] at hsq
        exact ih (q + 1) _ (by omega) (by rw [hs, hsq]; simp) (fr_si fu (by simp)) (by simp [m_si])
      · rw [i_eqF c1 (by omega) (by omega)]
        by_cases c2 : B q = 10
        · rw [i_eqT c2]
          have : bB (B q) = true := by simp [bB, c2]
          rw [this] at hsq
          exact ih (q + 1) _ (by omega) (by rw [hs, hsq]; simp) (fr_si fu (by simp)) (by simp [m_si])
        · rw [i_eqF c2 (by omega) (by omega)]
          have : bB (B q) = false := by simp [bB, c1, c2]
          rw [this] at hsq
          have hsq2 : SK B n q = q := by simpa using hsq
          rw [hs, hsq2]
          exact ⟨w, h1, h2, h3⟩
  have e0 : fX9_goes [.ref 43] s = a_run none shp pX9_goes 0 [some (.ref 43), none] [] s := by rw [tX9_goes, tX9_goes_0]
  rw [e0]
  exact skip (n - p) p s (by omega) rfl (fr_rfl s) h15
