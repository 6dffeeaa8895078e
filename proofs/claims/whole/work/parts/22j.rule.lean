/-! ===== what both say of an expression: its rules ===== -/
abbrev PR := Sum (Nat × List (Nat × Nat)) (Nat × Nat)
def pre (c : List (Nat × Nat)) (r : PR) : PR := match r with
  | .inl (g, c') => .inl (g, c ++ c')
  | .inr e => .inr e
def post (q : Nat × Nat) (r : PR) : PR := match r with
  | .inl (g, c') => .inl (g, c' ++ [q])
  | .inr e => .inr e
def opr (B : Nat → Nat) (n l g : Nat) : Option Nat := match l with
  | 0 => if isW B n g 10 = true then some 0 else none
  | 1 => if isW B n g 9 = true then some 1 else none
  | 2 => if sgn B n g 60 = true then some 3 else if sgn B n g 61 = true then some 4 else none
  | 3 => if sgn B n g 43 = true then some 5 else if sgn B n g 45 = true then some 6 else none
  | _ => if sgn B n g 42 = true then some 7 else if sgn B n g 47 = true then some 8 else none
def sgm (l : Nat) : Nat := match l with
  | 0 => 1
  | 1 => 2
  | 2 => 3
  | 3 => 5
  | 4 => 6
  | _ => 7
def nO (B : Nat → Nat) (n l g : Nat) : Prop := (l ≤ 4 → opr B n 4 g = none) ∧ (l ≤ 3 → opr B n 3 g = none) ∧ (l ≤ 1 → opr B n 1 g = none) ∧ (l = 0 → opr B n 0 g = none)
def bS (d : Nat) : Nat := 1 + 7 * (5 - d)
def Pu (B : Nat → Nat) (n l bt h0 f : Nat) (r : PR) : Prop := match r with
  | .inl (g, c) => f + c.length ≤ g ∧ g ≤ n ∧ (∀ q, q ∈ c → stOk q) ∧ (∀ h, h + bt ≤ 64 → sfH c (h + h0) (h + 1)) ∧ nO B n l g
  | .inr (k, p) => (0 < k ∧ k < 5) ∧ p ≤ n
def TK (B : Nat → Nat) (n f : Nat) (r : PR) : Prop := tk B n f = false → r = .inr (1, f)
def MRz (B : Nat → Nat) (n σ : Nat) (W : List Nat) (Z : List Int32) (d : Nat) (ts : Nat → Nat) (A : Option aRes) (s : aMem) (r : PR) : Prop := match r with
  | .inl (g, c) => ∃ u P O' ts', A = ML u ∧ frM s u ∧ ME B n g (P ++ W) O' (d + 1) ts' u ∧ O' ++ P.map nI = Z ++ c.flatMap mst ∧ (∀ x, x ∈ P → x < 14 ∧ σ ≤ stre x) ∧ (∀ j, j ≤ d → ts' j = ts j) ∧ (5 ≤ σ → ts' (d + 1) = ts (d + 1)) ∧ (σ ≤ 4 → (sgn B n g 60 = true ∨ sgn B n g 61 = true) → ts' (d + 1) = 1)
  | .inr (k, p) => ∃ u, A = some (.inl none, u) ∧ frM s u ∧ MEd n k p u
theorem sfH_app : ∀ (a b : List (Nat × Nat)) (x y z : Nat), sfH a x y → sfH b y z → sfH (a ++ b) x z
  | [], b, x, y, z, h1, h2 => by
    simp only [sfH] at h1
    rw [h1]
    exact h2
  | (2, 2) :: t, b, x, y, z, h1, h2 => ⟨h1.1, sfH_app t b _ y z h1.2 h2⟩
  | (2, 9) :: t, b, x, y, z, h1, h2 => ⟨h1.1, sfH_app t b _ y z h1.2 h2⟩
  | (2, 0) :: t, b, x, y, z, h1, h2 => ⟨h1.1, sfH_app t b _ y z h1.2 h2⟩
  | (2, 1) :: t, b, x, y, z, h1, h2 => ⟨h1.1, sfH_app t b _ y z h1.2 h2⟩
  | (2, 3) :: t, b, x, y, z, h1, h2 => ⟨h1.1, sfH_app t b _ y z h1.2 h2⟩
  | (2, 4) :: t, b, x, y, z, h1, h2 => ⟨h1.1, sfH_app t b _ y z h1.2 h2⟩
  | (2, 5) :: t, b, x, y, z, h1, h2 => ⟨h1.1, sfH_app t b _ y z h1.2 h2⟩
  | (2, 6) :: t, b, x, y, z, h1, h2 => ⟨h1.1, sfH_app t b _ y z h1.2 h2⟩
  | (2, 7) :: t, b, x, y, z, h1, h2 => ⟨h1.1, sfH_app t b _ y z h1.2 h2⟩
  | (2, 8) :: t, b, x, y, z, h1, h2 => ⟨h1.1, sfH_app t b _ y z h1.2 h2⟩
  | (2, i + 10) :: t, b, x, y, z, h1, h2 => ⟨h1.1, sfH_app t b _ y z h1.2 h2⟩
  | (0, v) :: t, b, x, y, z, h1, h2 => ⟨h1.1, sfH_app t b _ y z h1.2 h2⟩
  | (1, v) :: t, b, x, y, z, h1, h2 => ⟨h1.1, sfH_app t b _ y z h1.2 h2⟩
  | (i + 3, v) :: t, b, x, y, z, h1, h2 => ⟨h1.1, sfH_app t b _ y z h1.2 h2⟩
theorem sfH_op {i h : Nat} (hi : i < 10) (h2 : i ≠ 2) (h9 : i ≠ 9) : sfH [(2, i)] (h + 2) (h + 1) := by
  have : i = 0 ∨ i = 1 ∨ i = 3 ∨ i = 4 ∨ i = 5 ∨ i = 6 ∨ i = 7 ∨ i = 8 := by omega
  rcases this with e | e | e | e | e | e | e | e <;> subst e <;> simp [sfH]
theorem mst_op {i : Nat} : mst (2, i) = [nI (mop i)] := rfl
theorem opr_some {B : Nat → Nat} {n l g i : Nat} (hl : l < 5) (h : opr B n l g = some i) : (l = 0 ∧ i = 0 ∧ isW B n g 10 = true) ∨ (l = 1 ∧ i = 1 ∧ isW B n g 9 = true) ∨ (l = 2 ∧ i = 3 ∧ sgn B n g 60 = true) ∨ (l = 2 ∧ i = 4 ∧ sgn B n g 61 = true) ∨ (l = 3 ∧ i = 5 ∧ sgn B n g 43 = true) ∨ (l = 3 ∧ i = 6 ∧ sgn B n g 45 = true) ∨ (l = 4 ∧ i = 7 ∧ sgn B n g 42 = true) ∨ (l = 4 ∧ i = 8 ∧ sgn B n g 47 = true) := by
  have : l = 0 ∨ l = 1 ∨ l = 2 ∨ l = 3 ∨ l = 4 := by omega
  rcases this with e | e | e | e | e <;> subst e <;> simp only [opr] at h
  · by_cases c : isW B n g 10 = true
    · rw [if_pos c] at h; cases h; simp [c]
    · rw [if_neg c] at h; cases h
  · by_cases c : isW B n g 9 = true
    · rw [if_pos c] at h; cases h; simp [c]
    · rw [if_neg c] at h; cases h
  · by_cases c : sgn B n g 60 = true
    · rw [if_pos c] at h; cases h; simp [c]
    · rw [if_neg c] at h
      by_cases c : sgn B n g 61 = true
      · rw [if_pos c] at h; cases h; simp [c]
      · rw [if_neg c] at h; cases h
  · by_cases c : sgn B n g 43 = true
    · rw [if_pos c] at h; cases h; simp [c]
    · rw [if_neg c] at h
      by_cases c : sgn B n g 45 = true
      · rw [if_pos c] at h; cases h; simp [c]
      · rw [if_neg c] at h; cases h
  · by_cases c : sgn B n g 42 = true
    · rw [if_pos c] at h; cases h; simp [c]
    · rw [if_neg c] at h
      by_cases c : sgn B n g 47 = true
      · rw [if_pos c] at h; cases h; simp [c]
      · rw [if_neg c] at h; cases h
theorem opr_2n {B : Nat → Nat} {n g : Nat} (h : opr B n 2 g = none) : ¬ (sgn B n g 60 = true ∨ sgn B n g 61 = true) := by
  simp only [opr] at h
  by_cases c : sgn B n g 60 = true
  · rw [if_pos c] at h; cases h
  · rw [if_neg c] at h
    by_cases c2 : sgn B n g 61 = true
    · rw [if_pos c2] at h; cases h
    · simp [c, c2]
theorem nop_of {B : Nat → Nat} {n g t : Nat} (h : nO B n 0 g) (ht : (sgn B n g 60 = true ∨ sgn B n g 61 = true) → t = 1) : nop B n g t := by
  obtain ⟨h4, h3, h1, h0⟩ := h
  have h4 := h4 (by omega)
  have h3 := h3 (by omega)
  have h1 := h1 (by omega)
  have h0 := h0 rfl
  simp only [opr] at h4 h3 h1 h0
  refine ⟨⟨?_, ?_⟩, ⟨?_, ?_, ?_, ?_⟩, ht⟩
  · cases e : isW B n g 9
    · rfl
    · rw [if_pos e] at h1; cases h1
  · cases e : isW B n g 10
    · rfl
    · rw [if_pos e] at h0; cases h0
  · cases e : sgn B n g 43
    · rfl
    · rw [if_pos e] at h3; cases h3
  · cases e : sgn B n g 45
    · rfl
    · by_cases c : sgn B n g 43 = true
      · rw [if_pos c] at h3; cases h3
      · rw [if_neg c, if_pos e] at h3; cases h3
  · cases e : sgn B n g 42
    · rfl
    · rw [if_pos e] at h4; cases h4
  · cases e : sgn B n g 47
    · rfl
    · by_cases c : sgn B n g 42 = true
      · rw [if_pos c] at h4; cases h4
      · rw [if_neg c, if_pos e] at h4; cases h4
theorem MRz_pre {B : Nat → Nat} {n σ : Nat} {W : List Nat} {Z Z' : List Int32} {d : Nat} {ts ts1 : Nat → Nat} {A A' : Option aRes} {s u : aMem} {c : List (Nat × Nat)} {r : PR} (h : MRz B n σ W Z' d ts1 A' u r) (hA : A = A') (hf : frM s u) (hz : Z' = Z ++ c.flatMap mst) (h1 : ∀ j, j ≤ d → ts1 j = ts j) (h2 : 5 ≤ σ → ts1 (d + 1) = ts (d + 1)) : MRz B n σ W Z d ts A s (pre c r) := by
  rcases r with ⟨g, c'⟩ | ⟨k, p⟩
  · obtain ⟨v, P, O', ts', q1, q2, q3, q4, q5, q6, q7, q8⟩ := h
    refine ⟨v, P, O', ts', hA.trans q1, frM_tr hf q2, q3, ?_, q5, fun j hj => (q6 j hj).trans (h1 j hj), fun hs => (q7 hs).trans (h2 hs), q8⟩
    rw [q4, hz, List.flatMap_append, List.append_assoc]
  · obtain ⟨v, q1, q2, q3⟩ := h
    exact ⟨v, hA.trans q1, frM_tr hf q2, q3⟩
theorem MRz_post {B : Nat → Nat} {n σ σ1 x : Nat} {W : List Nat} {Z : List Int32} {d : Nat} {ts : Nat → Nat} {A : Option aRes} {s : aMem} {q : Nat × Nat} {r : PR} (h : MRz B n σ1 (x :: W) Z d ts A s r) (hx : x < 14 ∧ σ ≤ stre x) (hs : σ ≤ σ1) (hq : mst q = [nI x]) (h4 : σ ≤ 4 → σ1 ≤ 4 ∨ ts (d + 1) = 1) : MRz B n σ W Z d ts A s (post q r) := by
  rcases r with ⟨g, c'⟩ | ⟨k, p⟩
  · obtain ⟨v, P, O', ts', q1, q2, q3, q4, q5, q6, q7, q8⟩ := h
    refine ⟨v, P ++ [x], O', ts', q1, q2, by simpa using q3, ?_, fun y hy => ?_, q6, fun hs' => q7 (by omega), fun h4' hg => ?_⟩
    · rw [List.map_append, ← List.append_assoc, q4, List.flatMap_append]
      simp [hq]
    · rcases List.mem_append.mp hy with e | e
      · exact ⟨(q5 y e).1, Nat.le_trans hs (q5 y e).2⟩
      · rw [List.mem_singleton.mp e]; exact hx
    · by_cases c : σ1 ≤ 4
      · exact q8 c hg
      · rcases h4 h4' with e | e
        · omega
        · rw [q7 (by omega)]; exact e
  · exact h
theorem MRz_wk {B : Nat → Nat} {n σ σ1 : Nat} {W : List Nat} {Z : List Int32} {d : Nat} {ts : Nat → Nat} {A : Option aRes} {s : aMem} {r : PR} (h : MRz B n σ1 W Z d ts A s r) (hs : σ ≤ σ1) (h4 : σ ≤ 4 → σ1 ≤ 4) : MRz B n σ W Z d ts A s r := by
  rcases r with ⟨g, c'⟩ | ⟨k, p⟩
  · obtain ⟨v, P, O', ts', q1, q2, q3, q4, q5, q6, q7, q8⟩ := h
    exact ⟨v, P, O', ts', q1, q2, q3, q4, fun y hy => ⟨(q5 y hy).1, Nat.le_trans hs (q5 y hy).2⟩, q6, fun hs' => q7 (by omega), fun h4' hg => q8 (h4 h4') hg⟩
  · exact h
theorem lowW_mono {σ σ1 : Nat} {W : List Nat} (h : lowW σ W) (hs : σ ≤ σ1) : lowW σ1 W := fun x W' e => by
  rcases h x W' e with c | c
  · exact .inl c
  · exact .inr (by omega)
theorem lowW_cons {σ x : Nat} {W : List Nat} (h : 14 ≤ x ∨ stre x < σ) : lowW σ (x :: W) := fun y W' e => by
  cases e
  exact h
noncomputable def stt (l nt : Nat) (s : aMem) : Option aRes := if l ≤ 2 then OPl 1 s else OP79 nt s
/-- an operator of level l is met -/
theorem ML_op {B : Nat → Nat} {n f l i : Nat} {P W : List Nat} {O : List Int32} {d : Nat} {ts : Nat → Nat} {s : aMem} (hn : n ≤ 700) (hB : ∀ j, j < n → B j < 256) (hl : l = 0 ∨ l = 1 ∨ l = 3 ∨ l = 4) (hi : opr B n l f = some i) (h : ME B n f (P ++ W) O d ts s) (hP : ∀ x, x ∈ P → x < 14 ∧ sgm l ≤ stre x) (hW : lowW (sgm l) W) : ∃ u ts1, ML s = stt (l + 1) 0 u ∧ frM s u ∧ ME B n (nx B n f) (mop i :: W) (O ++ P.map nI) d ts1 u ∧ (∀ j, j < d → ts1 j = ts j) ∧ (5 ≤ sgm l → ts1 d = ts d) ∧ (l + 1 ≤ 2 → ts1 d = 0) ∧ lowW (sgm (l + 1)) (mop i :: W) ∧ (mop i < 14 ∧ sgm l ≤ stre (mop i)) ∧ (i < 10 ∧ i ≠ 2 ∧ i ≠ 9) ∧ f < n := by
  have hlt : f < n := by
    apply Classical.byContradiction
    intro q
    have hk : kd B n f = 0 := by simp [kd]; omega
    rcases opr_some (by omega) hi with ⟨_, _, c⟩ | ⟨_, _, c⟩ | ⟨_, _, c⟩ | ⟨_, _, c⟩ | ⟨_, _, c⟩ | ⟨_, _, c⟩ | ⟨_, _, c⟩ | ⟨_, _, c⟩
    · have := (isW_iff.mp c).1; omega
    · have := (isW_iff.mp c).1; omega
    all_goals (have := (sg_nW c).2.2.1; omega)
  rcases opr_some (by omega) hi with ⟨c1, c2, c⟩ | ⟨c1, c2, c⟩ | ⟨c1, c2, c⟩ | ⟨c1, c2, c⟩ | ⟨c1, c2, c⟩ | ⟨c1, c2, c⟩ | ⟨c1, c2, c⟩ | ⟨c1, c2, c⟩ <;> subst c1 <;> subst c2
  · obtain ⟨u, e, f1, m⟩ := ML_and (k := 10) (x := 5) (σ := 1) hn hB (by omega) h hP hW c
    exact ⟨u, _, e, f1, m, fun j hj => upN_n (by omega), fun q => absurd q (by decide), fun _ => upN_s _ _ _, lowW_cons (.inr (by decide)), by decide, by decide, hlt⟩
  · obtain ⟨u, e, f1, m⟩ := ML_and (k := 9) (x := 4) (σ := 2) hn hB (by omega) h hP hW c
    exact ⟨u, _, e, f1, m, fun j hj => upN_n (by omega), fun q => absurd q (by decide), fun _ => upN_s _ _ _, lowW_cons (.inr (by decide)), by decide, by decide, hlt⟩
  · omega
  · omega
  · obtain ⟨u, e, f1, m⟩ := ML_add (c := 43) (x := 8) hn hB h hP hW (by omega) c
    exact ⟨u, _, e.trans (OPl_0 m.2.1), f1, m, fun j hj => rfl, fun q => rfl, fun q => absurd q (by decide), lowW_cons (.inr (by decide)), by decide, by decide, hlt⟩
  · obtain ⟨u, e, f1, m⟩ := ML_add (c := 45) (x := 9) hn hB h hP hW (by omega) c
    exact ⟨u, _, e.trans (OPl_0 m.2.1), f1, m, fun j hj => rfl, fun q => rfl, fun q => absurd q (by decide), lowW_cons (.inr (by decide)), by decide, by decide, hlt⟩
  · obtain ⟨u, e, f1, m⟩ := ML_mul (c := 42) (x := 10) hn hB h hP hW (by omega) c
    exact ⟨u, _, e.trans (OPl_0 m.2.1), f1, m, fun j hj => rfl, fun q => rfl, fun q => absurd q (by decide), lowW_cons (.inr (by decide)), by decide, by decide, hlt⟩
  · obtain ⟨u, e, f1, m⟩ := ML_mul (c := 47) (x := 11) hn hB h hP hW (by omega) c
    exact ⟨u, _, e.trans (OPl_0 m.2.1), f1, m, fun j hj => rfl, fun q => rfl, fun q => absurd q (by decide), lowW_cons (.inr (by decide)), by decide, by decide, hlt⟩
