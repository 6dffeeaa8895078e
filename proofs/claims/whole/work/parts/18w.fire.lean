/-! ===== fire ===== -/
def fok (z left k : Nat) : Bool := decide (k ^^^ (k &&& z) = 0) && decide (pc k = left)
def fsp (z left : Nat) (ab : Nat → Nat) (k : Nat) (o : Option (Nat × Nat)) : Option (Nat × Nat) := if fok z left k = true then (match o with
  | none => some (k, ab k)
  | some q => if q.2 < ab k then some (k, ab k) else some q) else o
def ffd (z left : Nat) (ab : Nat → Nat) : Nat → Nat → Option (Nat × Nat) → Option (Nat × Nat)
  | 0, _, o => o
  | m + 1, k, o => ffd z left ab m (k + 1) (fsp z left ab k o)
theorem ffd_some (z left : Nat) (ab : Nat → Nat) : ∀ (m k : Nat) (q : Nat × Nat), ∃ q', ffd z left ab m k (some q) = some q'
  | 0, _, q => ⟨q, rfl⟩
  | m + 1, k, q => by
    unfold ffd fsp
    split
    · simp only
      split
      · exact ffd_some z left ab m (k + 1) _
      · exact ffd_some z left ab m (k + 1) _
    · exact ffd_some z left ab m (k + 1) _
theorem ffd_found {z left : Nat} {ab : Nat → Nat} : ∀ (m k j : Nat) (o : Option (Nat × Nat)), k ≤ j → j < k + m → fok z left j = true → ∃ q, ffd z left ab m k o = some q
  | 0, _, _, _, h1, h2, _ => by omega
  | m + 1, k, j, o, h1, h2, h3 => by
    unfold ffd
    by_cases e : j = k
    · subst e
      unfold fsp
      rw [if_pos h3]
      cases o with
      | none => exact ffd_some z left ab m (j + 1) _
      | some q =>
        simp only
        split
        · exact ffd_some z left ab m (j + 1) _
        · exact ffd_some z left ab m (j + 1) _
    · exact ffd_found m (k + 1) j _ (by omega) (by omega) h3
theorem ffd_app {z left : Nat} {ab : Nat → Nat} : ∀ (m n k : Nat) (o : Option (Nat × Nat)), ffd z left ab (m + n) k o = ffd z left ab n (k + m) (ffd z left ab m k o)
  | 0, n, k, o => by simp [ffd]
  | m + 1, n, k, o => by
    rw [show m + 1 + n = (m + n) + 1 by omega]
    show ffd z left ab (m + n) (k + 1) (fsp z left ab k o) = _
    rw [ffd_app m n (k + 1), show k + (m + 1) = k + 1 + m by omega]
    rfl
theorem ffd_no {z left : Nat} {ab : Nat → Nat} : ∀ (m k : Nat) (o : Option (Nat × Nat)), (∀ j, k ≤ j → j < k + m → fok z left j = false) → ffd z left ab m k o = o
  | 0, _, _, _ => rfl
  | m + 1, k, o, h => by
    unfold ffd fsp
    rw [h k (by omega) (by omega)]
    simp only [Bool.false_eq_true, if_false]
    exact ffd_no m (k + 1) o (fun j h1 h2 => h j (by omega) (by omega))
theorem sub_bit {k z : Nat} (h : k ^^^ (k &&& z) = 0) : k &&& z = k := by
  apply Nat.eq_of_testBit_eq
  intro b
  have := congrArg (Nat.testBit · b) h
  simp only [Nat.testBit_xor, Nat.testBit_and, Nat.zero_testBit] at this ⊢
  cases h1 : k.testBit b <;> cases h2 : z.testBit b <;> simp [h1, h2] at this ⊢
theorem sub_le {k z : Nat} (h : k ^^^ (k &&& z) = 0) : k ≤ z := by
  have := sub_bit h
  rw [← this]
  exact Nat.and_le_right
theorem sub_of {k z : Nat} (h : ∀ b, k.testBit b = true → z.testBit b = true) : k ^^^ (k &&& z) = 0 := by
  apply Nat.eq_of_testBit_eq
  intro b
  rw [Nat.testBit_xor, Nat.testBit_and, Nat.zero_testBit]
  cases h1 : k.testBit b
  · simp
  · simp [h b h1]
theorem pcN_cg {x y : Nat} : ∀ {n : Nat}, (∀ b, b < n → x.testBit b = y.testBit b) → pcN n x = pcN n y
  | 0, _ => rfl
  | n + 1, h => by
    unfold pcN
    rw [pcN_cg (fun b hb => h b (by omega)), h n (by omega)]
theorem sub_ex (x : Nat) : ∀ m n, n ≤ pcN m x → ∃ y, (∀ b, y.testBit b = true → x.testBit b = true ∧ b < m) ∧ pcN m y = n
  | 0, n, h => ⟨0, by simp, by simp [pcN] at h ⊢; omega⟩
  | m + 1, n, h => by
    unfold pcN at h
    by_cases e : n ≤ pcN m x
    · obtain ⟨y, h1, h2⟩ := sub_ex x m n e
      refine ⟨y, fun b hb => ⟨(h1 b hb).1, by have := (h1 b hb).2; omega⟩, ?_⟩
      unfold pcN
      have : y.testBit m = false := by
        cases hy : y.testBit m
        · rfl
        · have := (h1 m hy).2; omega
      rw [h2, this]
      rfl
    · cases hx : x.testBit m
      · rw [hx] at h; simp at h; omega
      · rw [hx] at h
        simp only [Bool.toNat_true] at h
        obtain ⟨y, h1, h2⟩ := sub_ex x m (n - 1) (by omega)
        have hy : ∀ b, b < m → (y ||| 2 ^ m).testBit b = y.testBit b := by
          intro b hb
          rw [Nat.testBit_or, pow_bit]
          have : ¬ m = b := by omega
          simp [this]
        refine ⟨y ||| 2 ^ m, fun b hb => ?_, ?_⟩
        · rw [Nat.testBit_or, pow_bit, Bool.or_eq_true, decide_eq_true_eq] at hb
          rcases hb with hb | hb
          · exact ⟨(h1 b hb).1, by have := (h1 b hb).2; omega⟩
          · subst hb; exact ⟨hx, by omega⟩
        · unfold pcN
          rw [pcN_cg hy, h2, Nat.testBit_or, pow_bit]
          simp
          omega
/-- whether one who has these can take of those -/
def cant (nb : Nat) (pg : Nat → Int32) (x st : Nat) : Bool := ex nb fun a => ex nb fun b => x.testBit a && (st.testBit b && decide (pg b < pg a))
def fab (nb nr : Nat) (o pg : Nat → Int32) (st : Nat) : Nat := cntP (fun r => cant nb pg (oset nb o r) st) nr
theorem cant_x {nb x st : Nat} {pg : Nat → Int32} (hs : st < 2 ^ nb) : (msk nb (tkb nb pg x) &&& st = 0) = (cant nb pg x st = false) := by
  apply propext
  constructor
  · intro h
    apply Bool.eq_false_iff.mpr
    unfold cant
    rw [Ne, ex_iff]
    rintro ⟨a, ha, h2⟩
    rw [ex_iff] at h2
    obtain ⟨b, hb, h3⟩ := h2
    simp only [Bool.and_eq_true, decide_eq_true_eq] at h3
    have := congrArg (Nat.testBit · b) h
    simp only [Nat.testBit_and, msk_bit, Nat.zero_testBit, hb, decide_true, Bool.true_and, h3.2.1, Bool.and_true] at this
    rw [Bool.eq_false_iff, Ne] at this
    apply this
    unfold tkb
    rw [ex_iff]
    exact ⟨a, ha, by simp [h3.1, h3.2.2]⟩
  · intro h
    rw [Bool.eq_false_iff] at h
    apply Nat.eq_of_testBit_eq
    intro b
    rw [Nat.testBit_and, msk_bit, Nat.zero_testBit]
    cases hb : st.testBit b
    · simp
    · simp only [Bool.and_true]
      apply Bool.eq_false_iff.mpr
      intro h2
      simp only [Bool.and_eq_true, decide_eq_true_eq] at h2
      apply h
      unfold cant
      rw [ex_iff]
      have h3 := h2.2
      unfold tkb at h3
      rw [ex_iff] at h3
      obtain ⟨a, ha, h4⟩ := h3
      refine ⟨a, ha, ?_⟩
      rw [ex_iff]
      simp only [Bool.and_eq_true, decide_eq_true_eq] at h4
      exact ⟨b, h2.1, by simp [h4.1, h4.2, hb]⟩
theorem sX9_canTake {s : aMem} {nb x st : Nat} (hnb : nb ≤ 12) (h1 : s.1 43 1 = nI nb) (hx : x < 4096) (hs : st < 4096) : fX9_canTake [.ref 43, .int (nI x), .int (nI st)] s = some (.inl (some (.int (nI (cant nb (s.1 49) x st).toNat))), s) := by
  have inner : ∀ a, a < nb → ∀ m b, b + m = nb → (∀ j, j < b → (x.testBit a && (st.testBit j && decide (s.1 49 j < s.1 49 a))) = false) → a_run none shp pX9_canTake 13 [some (.ref 43), some (.int (nI x)), some (.int (nI st)), some (.int (nI a)), some (.int (nI b))] [] s = if (ex nb fun b => x.testBit a && (st.testBit b && decide (s.1 49 b < s.1 49 a))) = true then some (.inl (some (.int (nI 1))), s) else a_run none shp pX9_canTake 2 [some (.ref 43), some (.int (nI x)), some (.int (nI st)), some (.int (nI (a + 1))), none] [] s := by
    intro a ha m
    induction m with
    | zero =>
      intro b hb hj
      rw [tX9_canTake_13, h1]
      try simp only [k_lit, k_nN, k_ofN]
      rw [i_leT (by omega) (by omega), nI_add, if_neg]
      rw [ex_iff]
      rintro ⟨j, hj2, h⟩
      rw [hj j (by omega)] at h
      cases h
    | succ m ih =>
      intro b hb hj
      have nx : (x.testBit a && (st.testBit b && decide (s.1 49 b < s.1 49 a))) = false → ∀ j, j < b + 1 → (x.testBit a && (st.testBit j && decide (s.1 49 j < s.1 49 a))) = false := by
        intro h j hj2
        by_cases e : j = b
        · rw [e]; exact h
        · exact hj j (by omega)
      rw [tX9_canTake_13, h1]
      try simp only [k_lit, k_nN, k_ofN]
      rw [i_leF (by omega) (by omega), nI_add]
      cases ea : x.testBit a
      · rw [ib1F ea (by omega) (by omega), ih (b + 1) (by omega) (nx (by simp [ea])), ea]
      · rw [ib1T ea (by omega) (by omega)]
        cases eb : st.testBit b
        · rw [ib1F eb (by omega) (by omega), ih (b + 1) (by omega) (nx (by simp [eb])), ea]
        · rw [ib1T eb (by omega) (by omega)]
          simp (disch := omega) only [i_leT, i_leF, i_ltT, i_ltF, i_eqT, i_eqF, i_okT, i_n1, i_n2, i_n3, i_n4, i_n5, i_n6, i_n7, i_n8, k_cl, if_true, if_false]
          by_cases e : s.1 49 b < s.1 49 a
          · rw [if_neg (Int32.not_le.mpr e), if_pos]
            rw [ex_iff]
            exact ⟨b, by omega, by simp [eb, e]⟩
          · rw [if_pos (Int32.not_lt.mp e), ih (b + 1) (by omega) (nx (by simp [e])), ea]
  have outer : ∀ m a, a + m = nb → (∀ j, j < a → (ex nb fun b => x.testBit j && (st.testBit b && decide (s.1 49 b < s.1 49 j))) = false) → a_run none shp pX9_canTake 2 [some (.ref 43), some (.int (nI x)), some (.int (nI st)), some (.int (nI a)), none] [] s = some (.inl (some (.int (nI (cant nb (s.1 49) x st).toNat))), s) := by
    intro m
    induction m with
    | zero =>
      intro a ha hj
      rw [tX9_canTake_2, h1]
      try simp only [k_lit, k_nN, k_ofN]
      simp (disch := omega) only [i_leT, i_leF, i_ltT, i_ltF, i_eqT, i_eqF, i_okT, i_n1, i_n2, i_n3, i_n4, i_n5, i_n6, i_n7, i_n8, k_cl, if_true, if_false]
      have : cant nb (s.1 49) x st = false := by
        apply Bool.eq_false_iff.mpr
        unfold cant
        rw [Ne, ex_iff]
        rintro ⟨j, hj2, h⟩
        rw [hj j (by omega)] at h
        cases h
      rw [this]
      rfl
    | succ m ih =>
      intro a ha hj
      rw [tX9_canTake_2, h1]
      try simp only [k_lit, k_nN, k_ofN]
      simp (disch := omega) only [i_leT, i_leF, i_ltT, i_ltF, i_eqT, i_eqF, i_okT, i_n1, i_n2, i_n3, i_n4, i_n5, i_n6, i_n7, i_n8, k_cl, if_true, if_false]
      rw [inner a (by omega) nb 0 (by omega) (fun j h => absurd h (Nat.not_lt_zero j))]
      cases e : (ex nb fun b => x.testBit a && (st.testBit b && decide (s.1 49 b < s.1 49 a)))
      · simp only [Bool.false_eq_true, if_false]
        refine ih (a + 1) (by omega) (fun j hj2 => ?_)
        by_cases e2 : j = a
        · rw [e2]; exact e
        · exact hj j (by omega)
      · simp only [if_true]
        have : cant nb (s.1 49) x st = true := by
          unfold cant
          rw [ex_iff]
          exact ⟨a, by omega, e⟩
        rw [this]
        rfl
  rw [tX9_canTake]
  try simp only [k_lit, k_nN, k_ofN]
  exact outer nb 0 (by omega) (fun j h => absurd h (Nat.not_lt_zero j))
