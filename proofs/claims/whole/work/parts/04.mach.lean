/-! ===== an abstract machine over numbered cells: one instruction in the style of continuations, runs, their unfolding ===== -/
/-- ints, longs, how many exceptions were made -/
abbrev aMem : Type := (Nat → Nat → Int32) × (Nat → Nat → Int64) × Nat
abbrev aOut : Type := Option Value ⊕ Nat
abbrev aRes : Type := aOut × aMem
abbrev aMF : Type := List Value → aMem → Option aRes
abbrev aLs : Type := List (Option Value)
/-- a cell's shape: .inl (element type, length): 0 int, 1 byte, 2 boolean, 3 long; .inr (class, fields): .inl 0 int, 1 boolean, 2 long, .inr a reference to that cell -/
abbrev aShp : Type := (Nat × Nat) ⊕ (Nat × List (Nat ⊕ Nat))
abbrev aEnt : Type := Instr × Int32 × Nat × List (Int32 × Nat)
/-- code, fields (pool place: class, slot), calls (pool place: function, arguments, receiver's class, kind of answer), constants, handlers (exception: pc behind the store, local), throws (pc: exception), kind of answer -/
abbrev aPrg : Type := List (Nat × aEnt) × List (Nat × Nat × Nat) × List (Nat × aMF × Nat × Nat × Nat) × List (Nat × Value) × List (Nat × Nat × Nat) × List (Nat × Nat) × Nat × List (Nat × List Nat)
abbrev a_code (P : aPrg) : List (Nat × aEnt) := P.1
abbrev a_flds (P : aPrg) : List (Nat × Nat × Nat) := P.2.1
abbrev a_cals (P : aPrg) : List (Nat × aMF × Nat × Nat × Nat) := P.2.2.1
abbrev a_cons (P : aPrg) : List (Nat × Value) := P.2.2.2.1
abbrev a_hnd (P : aPrg) : List (Nat × Nat × Nat) := P.2.2.2.2.1
abbrev a_thr (P : aPrg) : List (Nat × Nat) := P.2.2.2.2.2.1
abbrev a_ret (P : aPrg) : Nat := P.2.2.2.2.2.2.1
/-- locals that are forgotten on the way to a pc -/
abbrev a_msk (P : aPrg) : List (Nat × List Nat) := P.2.2.2.2.2.2.2
def a_lk {α : Type} : List (Nat × α) → Nat → Option α
  | [], _ => none
  | q :: t, n => match Nat.beq q.1 n with
    | true => some q.2
    | false => a_lk t n
def a_fg : List Nat → aLs → aLs
  | [], L => L
  | k :: t, L => a_fg t (L.set k none)
def a_mk (P : aPrg) (pc : Nat) (L : aLs) : aLs := match a_lk (a_msk P) pc with
  | some ks => a_fg ks L
  | none => L
def a_si (σ : aMem) (k j : Nat) (x : Int32) : aMem := (va_up σ.1 k (upd (σ.1 k) j x), σ.2)
def a_sl (σ : aMem) (k j : Nat) (x : Int64) : aMem := (σ.1, va_up σ.2.1 k (vp_updL (σ.2.1 k) j x), σ.2.2)
def a_tk (σ : aMem) : aMem := (σ.1, σ.2.1, σ.2.2 + 1)
def a_ok (j : Int32) (n : Nat) : Bool := decide (0 ≤ j.toInt) && decide (j.toInt < n)
def a_take : Nat → List Value → List Value → Option (List Value × List Value)
  | 0, acc, r => some (acc, r)
  | n + 1, acc, v :: r => a_take n (v :: acc) r
  | _ + 1, _, [] => none
def a_wt : List Value → Nat
  | [] => 0
  | v :: r => v.category + a_wt r
def a_rcv (sh : List aShp) (ci : Nat) (as : List Value) : Bool := match as with
  | .ref k :: _ => match sh[k]? with
    | some (.inr q) => Nat.beq q.1 ci
    | _ => Nat.beq ci 1000 && Nat.ble 1000 k
  | _ => false
def a_vok (sh : List aShp) (virt : Bool) (ci : Nat) (as : List Value) : Bool := match virt with
  | true => a_rcv sh ci as
  | false => Nat.beq ci 2000
def a_kill (L : aLs) (i : Nat) : aLs := match L[i]? with
  | some (some (.long _)) => L.set i none
  | some (some (.double _)) => L.set i none
  | _ => L
def a_s1 (L : aLs) (i : Nat) (v : Value) : aLs := (a_kill L (i - 1)).set i (some v)
def a_s2 (L : aLs) (i : Nat) (v : Value) : aLs := ((a_kill L (i - 1)).set (i + 1) none).set i (some v)
section AM
variable {ρ : Type}
def a_bi (o : Option aRes) (K : Int32 → aMem → ρ) (N : ρ) (X : Nat → aMem → ρ) : ρ := match o with
  | some (.inl (some (.int r)), σ) => K r σ
  | some (.inr x, σ) => X x σ
  | _ => N
def a_bv (o : Option aRes) (K : aMem → ρ) (N : ρ) (X : Nat → aMem → ρ) : ρ := match o with
  | some (.inl none, σ) => K σ
  | some (.inr x, σ) => X x σ
  | _ => N
def a_bl (o : Option aRes) (K : Int64 → aMem → ρ) (N : ρ) (X : Nat → aMem → ρ) : ρ := match o with
  | some (.inl (some (.long r)), σ) => K r σ
  | some (.inr x, σ) => X x σ
  | _ => N
variable (K : Nat → aLs → List Value → aMem → ρ) (N : ρ) (Rt : aOut → aMem → ρ)
def a_ild (pc : Nat) (k : Nat) (L : aLs) (st : List Value) (σ : aMem) : ρ := match L[k]? with
  | some (some (.int x)) => K pc L (.int x :: st) σ
  | _ => N
def a_lld (pc : Nat) (k : Nat) (L : aLs) (st : List Value) (σ : aMem) : ρ := match L[k]? with
  | some (some (.long x)) => K pc L (.long x :: st) σ
  | _ => N
def a_ald (pc : Nat) (k : Nat) (L : aLs) (st : List Value) (σ : aMem) : ρ := match L[k]? with
  | some (some (.ref x)) => K pc L (.ref x :: st) σ
  | _ => N
def a_ist (pc : Nat) (k : Nat) (L : aLs) (st : List Value) (σ : aMem) : ρ := match st with
  | .int x :: r => match Nat.blt k L.length with
    | true => K pc (a_s1 L k (.int x)) r σ
    | false => N
  | _ => N
def a_ast (pc : Nat) (k : Nat) (L : aLs) (st : List Value) (σ : aMem) : ρ := match st with
  | .ref x :: r => match Nat.blt k L.length with
    | true => K pc (a_s1 L k (.ref x)) r σ
    | false => N
  | _ => N
def a_lst (pc : Nat) (k : Nat) (L : aLs) (st : List Value) (σ : aMem) : ρ := match st with
  | .long x :: r => match Nat.blt (k + 1) L.length with
    | true => K pc (a_s2 L k (.long x)) r σ
    | false => N
  | _ => N
def a_inc (pc : Nat) (k : Nat) (imm : Int32) (L : aLs) (st : List Value) (σ : aMem) : ρ := match L[k]? with
  | some (some (.int x)) => K pc (a_s1 L k (.int (x + imm))) st σ
  | _ => N
def a_bin (f : Int32 → Int32 → Int32) (pc : Nat) (L : aLs) (st : List Value) (σ : aMem) : ρ := match st with
  | .int y :: .int x :: r => K pc L (.int (f x y) :: r) σ
  | _ => N
def a_dv (f : Int32 → Int32 → Int32) (pc : Nat) (L : aLs) (st : List Value) (σ : aMem) : ρ := match st with
  | .int y :: .int x :: r => if y = 0 then N else K pc L (.int (f x y) :: r) σ
  | _ => N
def a_lbin (f : Int64 → Int64 → Int64) (pc : Nat) (L : aLs) (st : List Value) (σ : aMem) : ρ := match st with
  | .long y :: .long x :: r => K pc L (.long (f x y) :: r) σ
  | _ => N
def a_un (f : Int32 → Value) (pc : Nat) (L : aLs) (st : List Value) (σ : aMem) : ρ := match st with
  | .int x :: r => K pc L (f x :: r) σ
  | _ => N
def a_lcm (pc : Nat) (L : aLs) (st : List Value) (σ : aMem) : ρ := match st with
  | .long y :: .long x :: r => K pc L (.int (lg_cmp x y) :: r) σ
  | _ => N
def a_lsh (pc : Nat) (L : aLs) (st : List Value) (σ : aMem) : ρ := match st with
  | .int y :: .long x :: r => K pc L (.long (x <<< (y.toInt64 &&& 63)) :: r) σ
  | _ => N
def a_br (c : ClassFile.Cond) (x y : Int32) (a b : ρ) : ρ := match c with
  | .eq => if x = y then a else b
  | .ne => if x = y then b else a
  | .lt => if x < y then a else b
  | .ge => if y ≤ x then a else b
  | .gt => if y < x then a else b
  | .le => if x ≤ y then a else b
def a_if (c : ClassFile.Cond) (tgt pc : Nat) (L : aLs) (st : List Value) (σ : aMem) : ρ := match st with
  | .int x :: r => a_br c x 0 (K tgt L r σ) (K pc L r σ)
  | _ => N
def a_ic (c : ClassFile.Cond) (tgt pc : Nat) (L : aLs) (st : List Value) (σ : aMem) : ρ := match st with
  | .int y :: .int x :: r => a_br c x y (K tgt L r σ) (K pc L r σ)
  | _ => N
def a_sw (K1 : Nat → ρ) (x : Int32) (d : Nat) : List (Int32 × Nat) → ρ
  | [] => K1 d
  | q :: t => if x = q.1 then K1 q.2 else a_sw K1 x d t
def a_ts (tgt : Nat) (sw : List (Int32 × Nat)) (L : aLs) (st : List Value) (σ : aMem) : ρ := match st with
  | .int x :: r => a_sw (fun t => K t L r σ) x tgt sw
  | _ => N
def a_dup (pc : Nat) (L : aLs) (st : List Value) (σ : aMem) : ρ := match st with
  | .int x :: r => K pc L (.int x :: .int x :: r) σ
  | .ref x :: r => K pc L (.ref x :: .ref x :: r) σ
  | _ => N
def a_pop (pc : Nat) (L : aLs) (st : List Value) (σ : aMem) : ρ := match st with
  | .int _ :: r => K pc L r σ
  | .ref _ :: r => K pc L r σ
  | _ => N
def a_dup2 (pc : Nat) (L : aLs) (st : List Value) (σ : aMem) : ρ := match st with
  | .int x :: .ref y :: r => K pc L (.int x :: .ref y :: .int x :: .ref y :: r) σ
  | _ => N
def a_ial (sl : Option Nat) (sh : List aShp) (pc : Nat) (L : aLs) (st : List Value) (σ : aMem) : ρ := match st with
  | .int j :: .ref k :: r => match sh[k]? with
    | some (.inl (0, n)) => if a_ok j n = true then K pc L (.int (σ.1 k j.toNatClampNeg) :: r) σ else N
    | none => match sl, Nat.beq k 900 with
      | some n, true => if a_ok j n = true then K pc L (.int (σ.1 900 j.toNatClampNeg) :: r) σ else N
      | _, _ => N
    | _ => N
  | _ => N
def a_bal (sh : List aShp) (pc : Nat) (L : aLs) (st : List Value) (σ : aMem) : ρ := match st with
  | .int j :: .ref k :: r => match sh[k]? with
    | some (.inl (1, n)) => if a_ok j n = true then K pc L (.int (σ.1 k j.toNatClampNeg) :: r) σ else N
    | some (.inl (2, n)) => if a_ok j n = true then K pc L (.int (σ.1 k j.toNatClampNeg) :: r) σ else N
    | _ => N
  | _ => N
def a_lal (sh : List aShp) (pc : Nat) (L : aLs) (st : List Value) (σ : aMem) : ρ := match st with
  | .int j :: .ref k :: r => match sh[k]? with
    | some (.inl (3, n)) => if a_ok j n = true then K pc L (.long (σ.2.1 k j.toNatClampNeg) :: r) σ else N
    | _ => N
  | _ => N
def a_ias (sh : List aShp) (pc : Nat) (L : aLs) (st : List Value) (σ : aMem) : ρ := match st with
  | .int x :: .int j :: .ref k :: r => match sh[k]? with
    | some (.inl (0, n)) => if a_ok j n = true then K pc L r (a_si σ k j.toNatClampNeg x) else N
    | _ => N
  | _ => N
def a_bas (sh : List aShp) (pc : Nat) (L : aLs) (st : List Value) (σ : aMem) : ρ := match st with
  | .int x :: .int j :: .ref k :: r => match sh[k]? with
    | some (.inl (1, n)) => if a_ok j n = true then K pc L r (a_si σ k j.toNatClampNeg (vp_nar .byte x)) else N
    | some (.inl (2, n)) => if a_ok j n = true then K pc L r (a_si σ k j.toNatClampNeg (vp_nar .boolean x)) else N
    | _ => N
  | _ => N
def a_las (sh : List aShp) (pc : Nat) (L : aLs) (st : List Value) (σ : aMem) : ρ := match st with
  | .long x :: .int j :: .ref k :: r => match sh[k]? with
    | some (.inl (3, n)) => if a_ok j n = true then K pc L r (a_sl σ k j.toNatClampNeg x) else N
    | _ => N
  | _ => N
def a_len (sl : Option Nat) (sh : List aShp) (pc : Nat) (L : aLs) (st : List Value) (σ : aMem) : ρ := match st with
  | .ref k :: r => match sh[k]? with
    | some (.inl (t, n)) => match Nat.ble t 3 with
      | true => K pc L (.int (Int32.ofNat n) :: r) σ
      | false => N
    | none => match sl, Nat.beq k 900 with
      | some n, true => K pc L (.int (Int32.ofNat n) :: r) σ
      | _, _ => N
    | _ => N
  | _ => N
def a_gf (sh : List aShp) (P : aPrg) (n : Nat) (pc : Nat) (L : aLs) (st : List Value) (σ : aMem) : ρ := match st with
  | .ref k :: r => match a_lk (a_flds P) n, sh[k]? with
    | some (ci, j), some (.inr (c2, fk)) => match Nat.beq c2 ci, fk[j]? with
      | true, some (.inl 2) => K pc L (.long (σ.2.1 k j) :: r) σ
      | true, some (.inl _) => K pc L (.int (σ.1 k j) :: r) σ
      | true, some (.inr q) => K pc L (.ref q :: r) σ
      | _, _ => N
    | _, _ => N
  | _ => N
def a_pf (sh : List aShp) (P : aPrg) (n : Nat) (pc : Nat) (L : aLs) (st : List Value) (σ : aMem) : ρ := match st with
  | .int x :: .ref k :: r => match a_lk (a_flds P) n, sh[k]? with
    | some (ci, j), some (.inr (c2, fk)) => match Nat.beq c2 ci, fk[j]? with
      | true, some (.inl 0) => K pc L r (a_si σ k j x)
      | true, some (.inl 1) => if x = 0 ∨ x = 1 then K pc L r (a_si σ k j x) else N
      | _, _ => N
    | _, _ => N
  | .long x :: .ref k :: r => match a_lk (a_flds P) n, sh[k]? with
    | some (ci, j), some (.inr (c2, fk)) => match Nat.beq c2 ci, fk[j]? with
      | true, some (.inl 2) => K pc L r (a_sl σ k j x)
      | _, _ => N
    | _, _ => N
  | _ => N
def a_ldc (P : aPrg) (n : Nat) (pc : Nat) (L : aLs) (st : List Value) (σ : aMem) : ρ := match a_lk (a_cons P) n with
  | some (.int x) => K pc L (.int x :: st) σ
  | some (.ref x) => K pc L (.ref x :: st) σ
  | _ => N
def a_ldw (P : aPrg) (n : Nat) (pc : Nat) (L : aLs) (st : List Value) (σ : aMem) : ρ := match a_lk (a_cons P) n with
  | some (.int x) => K pc L (.int x :: st) σ
  | _ => N
def a_ld2 (P : aPrg) (n : Nat) (pc : Nat) (L : aLs) (st : List Value) (σ : aMem) : ρ := match a_lk (a_cons P) n with
  | some (.long x) => K pc L (.long x :: st) σ
  | _ => N
def a_exc (P : aPrg) (L : aLs) (x : Nat) (σ : aMem) : ρ := match a_lk (a_hnd P) x with
  | some (h, k) => K h ((a_kill L (k - 1)).set k none) [] σ
  | none => Rt (.inr x) σ
def a_crk (P : aPrg) (rk : Nat) (o : Option aRes) (pc : Nat) (L : aLs) (r : List Value) : ρ := match rk with
  | 0 => a_bi o (fun x σ' => K pc L (.int x :: r) σ') N (fun x σ' => a_exc K Rt P L x σ')
  | 1 => a_bv o (fun σ' => K pc L r σ') N (fun x σ' => a_exc K Rt P L x σ')
  | _ => a_bl o (fun x σ' => K pc L (.long x :: r) σ') N (fun x σ' => a_exc K Rt P L x σ')
def a_call (sh : List aShp) (P : aPrg) (virt : Bool) (n : Nat) (pc : Nat) (L : aLs) (st : List Value) (σ : aMem) : ρ := match a_lk (a_cals P) n with
  | none => N
  | some (f, na, ci, rk) => match a_take na [] st with
    | none => N
    | some (as, r) => match Nat.ble (a_wt r) 8 && (Nat.ble (a_wt as) na && a_vok sh virt ci as) with
      | false => N
      | true => a_crk K N Rt P rk (f as σ) pc L r
def a_rti (P : aPrg) (st : List Value) (σ : aMem) : ρ := match st with
  | [.int x] => match a_ret P with
    | 0 => Rt (.inl (some (.int x))) σ
    | 1 => if x = 0 ∨ x = 1 then Rt (.inl (some (.int x))) σ else N
    | _ => N
  | _ => N
def a_rtv (P : aPrg) (st : List Value) (σ : aMem) : ρ := match st with
  | [] => match a_ret P with
    | 2 => Rt (.inl none) σ
    | _ => N
  | _ => N
def a_rtl (P : aPrg) (st : List Value) (σ : aMem) : ρ := match st with
  | [.long x] => match a_ret P with
    | 3 => Rt (.inl (some (.long x))) σ
    | _ => N
  | _ => N
def a_th (P : aPrg) (pc : Nat) (st : List Value) (σ : aMem) : ρ := match a_lk (a_thr P) pc with
  | some x => match Nat.ble (a_wt st) 8 with
    | true => Rt (.inr x) (a_tk σ)
    | false => N
  | none => N
def a_ins (sl : Option Nat) (sh : List aShp) (P : aPrg) (i : Instr) (imm : Int32) (tgt : Nat) (sw : List (Int32 × Nat)) (pc : Nat) (L : aLs) (st : List Value) (σ : aMem) : ρ := match i with
  | .iconst _ => K (pc + 1) L (.int imm :: st) σ
  | .bipush _ => K (pc + 2) L (.int imm :: st) σ
  | .sipush _ => K (pc + 3) L (.int imm :: st) σ
  | .lconst _ => K (pc + 1) L (.long imm.toInt64 :: st) σ
  | .ldc n => a_ldc K N P n (pc + 2) L st σ
  | .ldc_w n => a_ldw K N P n (pc + 3) L st σ
  | .ldc2_w n => a_ld2 K N P n (pc + 3) L st σ
  | .iload_n k => a_ild K N (pc + 1) k.val L st σ
  | .iload k => a_ild K N (pc + 2) k L st σ
  | .lload_n k => a_lld K N (pc + 1) k.val L st σ
  | .lload k => a_lld K N (pc + 2) k L st σ
  | .aload_n k => a_ald K N (pc + 1) k.val L st σ
  | .aload k => a_ald K N (pc + 2) k L st σ
  | .istore_n k => a_ist K N (pc + 1) k.val L st σ
  | .istore k => a_ist K N (pc + 2) k L st σ
  | .lstore_n k => a_lst K N (pc + 1) k.val L st σ
  | .lstore k => a_lst K N (pc + 2) k L st σ
  | .astore_n k => a_ast K N (pc + 1) k.val L st σ
  | .astore k => a_ast K N (pc + 2) k L st σ
  | .iinc k _ => a_inc K N (pc + 3) k imm L st σ
  | .iadd => a_bin K N (fun x y => x + y) (pc + 1) L st σ
  | .isub => a_bin K N (fun x y => x - y) (pc + 1) L st σ
  | .imul => a_bin K N (fun x y => x * y) (pc + 1) L st σ
  | .iand => a_bin K N (fun x y => x &&& y) (pc + 1) L st σ
  | .ior => a_bin K N (fun x y => x ||| y) (pc + 1) L st σ
  | .ixor => a_bin K N (fun x y => x ^^^ y) (pc + 1) L st σ
  | .ishl => a_bin K N (fun x y => x <<< (y &&& 31)) (pc + 1) L st σ
  | .ishr => a_bin K N (fun x y => x >>> (y &&& 31)) (pc + 1) L st σ
  | .iushr => a_bin K N (fun x y => (x.toUInt32 >>> (y.toUInt32 &&& Int32.toUInt32 31)).toInt32) (pc + 1) L st σ
  | .idiv => a_dv K N (fun x y => x / y) (pc + 1) L st σ
  | .irem => a_dv K N (fun x y => x - x / y * y) (pc + 1) L st σ
  | .ineg => a_un K N (fun x => .int (-x)) (pc + 1) L st σ
  | .i2l => a_un K N (fun x => .long x.toInt64) (pc + 1) L st σ
  | .i2b => a_un K N (fun x => .int x.toInt8.toInt32) (pc + 1) L st σ
  | .lor => a_lbin K N (fun x y => x ||| y) (pc + 1) L st σ
  | .lsub => a_lbin K N (fun x y => x - y) (pc + 1) L st σ
  | .lshl => a_lsh K N (pc + 1) L st σ
  | .lcmp => a_lcm K N (pc + 1) L st σ
  | .dup => a_dup K N (pc + 1) L st σ
  | .pop => a_pop K N (pc + 1) L st σ
  | .dup2 => a_dup2 K N (pc + 1) L st σ
  | .ifCond c _ => a_if K N c tgt (pc + 3) L st σ
  | .if_icmp c _ => a_ic K N c tgt (pc + 3) L st σ
  | .goto _ => K tgt L st σ
  | .tableswitch _ _ _ _ => a_ts K N tgt sw L st σ
  | .iaload => a_ial K N sl sh (pc + 1) L st σ
  | .baload => a_bal K N sh (pc + 1) L st σ
  | .laload => a_lal K N sh (pc + 1) L st σ
  | .iastore => a_ias K N sh (pc + 1) L st σ
  | .bastore => a_bas K N sh (pc + 1) L st σ
  | .lastore => a_las K N sh (pc + 1) L st σ
  | .arraylength => a_len K N sl sh (pc + 1) L st σ
  | .getfield n => a_gf K N sh P n (pc + 3) L st σ
  | .putfield n => a_pf K N sh P n (pc + 3) L st σ
  | .invokevirtual n => a_call K N Rt sh P true n (pc + 3) L st σ
  | .invokestatic n => a_call K N Rt sh P false n (pc + 3) L st σ
  | .ireturn => a_rti N Rt P st σ
  | .return_ => a_rtv N Rt P st σ
  | .lreturn => a_rtl N Rt P st σ
  | .new _ => a_th N Rt P pc st σ
  | _ => N
def a_sem (sl : Option Nat) (sh : List aShp) (P : aPrg) (pc : Nat) (L : aLs) (st : List Value) (σ : aMem) : ρ := match a_lk (a_code P) pc with
  | none => N
  | some (i, imm, tgt, sw) => a_ins K N Rt sl sh P i imm tgt sw pc L st σ
end AM
abbrev aSt : Type := Nat × aLs × List Value × aMem
/-- one step, as data -/
def a_stp (sl : Option Nat) (sh : List aShp) (P : aPrg) (pc : Nat) (L : aLs) (st : List Value) (σ : aMem) : Option (aSt ⊕ aRes) :=
  a_sem (fun pc L st σ => some (.inl (pc, L, st, σ))) none (fun o σ => some (.inr (o, σ))) sl sh P pc L st σ
def a_el {ρ : Type} (K : Nat → aLs → List Value → aMem → ρ) (N : ρ) (Rt : aOut → aMem → ρ) : Option (aSt ⊕ aRes) → ρ
  | none => N
  | some (.inl (pc, L, st, σ)) => K pc L st σ
  | some (.inr (o, σ)) => Rt o σ
