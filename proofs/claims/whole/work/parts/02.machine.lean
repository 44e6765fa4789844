/-! An abstract machine over numbered cells: instructions with their links resolved, blocks, values that are numbers of cells instead of addresses. -/
abbrev xI : Type := Instr × Nat × Nat
abbrev xL : Type := List (Option Value)
abbrev xH : Type := List (Nat × Nat) × (Nat → Nat → Int32) × (Nat → Nat → Int64) × (Nat → Nat → Option Nat)
/-- kinds of cells: below 20 an object of that class; from 20 on arrays -/
def xm_ty : Nat → FieldType
  | 20 => .int
  | 21 => .boolean
  | 22 => .byte
  | 23 => .long
  | 24 => .object "ThreePlates$Bench"
  | _ => .object "ThreePlates$Round"
def xm_cat : FieldType → Nat
  | .long => 1
  | .object _ => 2
  | .array _ => 2
  | _ => 0
def xm_len : Instr → Nat
  | .bipush _ => 2
  | .iload _ => 2
  | .lload _ => 2
  | .aload _ => 2
  | .istore _ => 2
  | .lstore _ => 2
  | .astore _ => 2
  | .ldc _ => 2
  | .newarray _ => 2
  | .sipush _ => 3
  | .iinc _ _ => 3
  | .getfield _ => 3
  | .putfield _ => 3
  | .ldc_w _ => 3
  | .ldc2_w _ => 3
  | .ifCond _ _ => 3
  | .if_icmp _ _ => 3
  | .goto _ => 3
  | .invokevirtual _ => 3
  | .invokespecial _ => 3
  | .invokestatic _ => 3
  | .new _ => 3
  | .anewarray _ => 3
  | _ => 1
/-- a function changed at one place -/
def xm_up {α : Type} (f : Nat → Nat → α) (a i : Nat) (v : α) : Nat → Nat → α := fun b j => if b = a then (if j = i then v else f b j) else f b j
def xm_row {α : Type} (f : Nat → Nat → α) (a : Nat) (r : Nat → α) : Nat → Nat → α := fun b => if b = a then r else f b
def xm_fv (fty : Nat → Nat → FieldType) (σ : xH) (ci id k : Nat) : Value := match xm_cat (fty ci k) with
  | 0 => .int (σ.2.1 id k)
  | 1 => .long (σ.2.2.1 id k)
  | _ => va_rf (σ.2.2.2 id k)
def xm_isI (fty : Nat → Nat → FieldType) (ci k : Nat) (x : Int32) : Bool := match fty ci k with
  | .int => true
  | .boolean => (x == 0) || (x == 1)
  | _ => false
/-- which index is in a row of n -/
def xm_in (i : Int32) (n : Nat) : Bool := decide (0 ≤ i) && decide (i.toNatClampNeg < n)
/-- a store to a local of one word; of two words; a long whose second half is overwritten goes -/
def xm_clr (l : xL) (i : Nat) : xL := match i with
  | 0 => l
  | j + 1 => match l[j]? with
    | some (some w) => if w.category = 2 then l.set j none else l
    | _ => l
def xm_st1 (l : xL) (i : Nat) (v : Value) : Option xL := if i < l.length then some ((xm_clr l i).set i (some v)) else none
def xm_st2 (l : xL) (i : Nat) (v : Value) : Option xL := if i + 1 < l.length then some (((xm_clr l i).set i (some v)).set (i + 1) none) else none
def xm_ld (l : xL) (i : Nat) (st : List Value) (c : Value → Bool) : Option (xL × List Value) := match l[i]? with
  | some (some v) => if c v then some (l, v :: st) else none
  | _ => none
def xm_isi : Value → Bool
  | .int _ => true
  | _ => false
def xm_isl : Value → Bool
  | .long _ => true
  | _ => false
def xm_isr : Value → Bool
  | .ref _ => true
  | .retAddr _ => true
  | _ => false
def xm_b2 (f : Int32 → Int32 → Int32) (l : xL) (st : List Value) : Option (xL × List Value) := match st with
  | .int y :: .int x :: r => some (l, .int (f x y) :: r)
  | _ => none
def xm_d2 (f : Int32 → Int32 → Int32) (l : xL) (st : List Value) : Option (xL × List Value) := match st with
  | .int y :: .int x :: r => if y = 0 then none else some (l, .int (f x y) :: r)
  | _ => none
def xm_b2l (f : Int64 → Int64 → Int64) (l : xL) (st : List Value) : Option (xL × List Value) := match st with
  | .long y :: .long x :: r => some (l, .long (f x y) :: r)
  | _ => none
def xm_d2l (f : Int64 → Int64 → Int64) (l : xL) (st : List Value) : Option (xL × List Value) := match st with
  | .long y :: .long x :: r => if y = 0 then none else some (l, .long (f x y) :: r)
  | _ => none
def xm_ush (x y : Int32) : Int32 := (x.toUInt32 >>> (y.toUInt32 &&& Int32.toUInt32 31)).toInt32
/-- instructions that touch neither heap nor script -/
def xm_p (q : xI) (l : xL) (st : List Value) : Option (xL × List Value) := match q.1 with
  | .iconst n => some (l, .int (Int32.ofInt n) :: st)
  | .bipush n => some (l, .int (Int8.ofInt n).toInt32 :: st)
  | .sipush n => some (l, .int (Int16.ofInt n).toInt32 :: st)
  | .lconst n => some (l, .long (Int64.ofNat (n : Nat)) :: st)
  | .ldc _ => some (l, .int (Int32.ofNat q.2.1) :: st)
  | .ldc_w _ => some (l, .int (Int32.ofNat q.2.1) :: st)
  | .ldc2_w _ => some (l, .long (Int64.ofNat q.2.1) :: st)
  | .iload_n i => xm_ld l i st xm_isi
  | .iload i => xm_ld l i st xm_isi
  | .lload_n i => xm_ld l i st xm_isl
  | .lload i => xm_ld l i st xm_isl
  | .aload_n i => xm_ld l i st xm_isr
  | .aload i => xm_ld l i st xm_isr
  | .istore_n i => match st with
    | .int x :: r => (xm_st1 l i (.int x)).map (fun l' => (l', r))
    | _ => none
  | .istore i => match st with
    | .int x :: r => (xm_st1 l i (.int x)).map (fun l' => (l', r))
    | _ => none
  | .lstore_n i => match st with
    | .long x :: r => (xm_st2 l i (.long x)).map (fun l' => (l', r))
    | _ => none
  | .lstore i => match st with
    | .long x :: r => (xm_st2 l i (.long x)).map (fun l' => (l', r))
    | _ => none
  | .astore_n i => match st with
    | .ref x :: r => (xm_st1 l i (.ref x)).map (fun l' => (l', r))
    | _ => none
  | .astore i => match st with
    | .ref x :: r => (xm_st1 l i (.ref x)).map (fun l' => (l', r))
    | _ => none
  | .iinc i n => match l[i]? with
    | some (some (.int x)) => (xm_st1 l i (.int (x + Int32.ofInt n))).map (fun l' => (l', st))
    | _ => none
  | .iadd => xm_b2 (fun x y => x + y) l st
  | .isub => xm_b2 (fun x y => x - y) l st
  | .imul => xm_b2 (fun x y => x * y) l st
  | .iand => xm_b2 (fun x y => x &&& y) l st
  | .ior => xm_b2 (fun x y => x ||| y) l st
  | .ixor => xm_b2 (fun x y => x ^^^ y) l st
  | .ishl => xm_b2 (fun x y => x <<< (y &&& 31)) l st
  | .ishr => xm_b2 (fun x y => x >>> (y &&& 31)) l st
  | .iushr => xm_b2 xm_ush l st
  | .idiv => xm_d2 (fun x y => x / y) l st
  | .irem => xm_d2 (fun x y => x - x / y * y) l st
  | .ineg => match st with
    | .int x :: r => some (l, .int (-x) :: r)
    | _ => none
  | .ladd => xm_b2l (fun x y => x + y) l st
  | .lsub => xm_b2l (fun x y => x - y) l st
  | .lmul => xm_b2l (fun x y => x * y) l st
  | .lor => xm_b2l (fun x y => x ||| y) l st
  | .ldiv => xm_d2l (fun x y => x / y) l st
  | .lrem => xm_d2l (fun x y => x - x / y * y) l st
  | .lneg => match st with
    | .long x :: r => some (l, .long (-x) :: r)
    | _ => none
  | .lshl => match st with
    | .int y :: .long x :: r => some (l, .long (x <<< (y.toInt64 &&& 63)) :: r)
    | _ => none
  | .lcmp => match st with
    | .long y :: .long x :: r => some (l, .int (lg_cmp x y) :: r)
    | _ => none
  | .i2l => match st with
    | .int x :: r => some (l, .long x.toInt64 :: r)
    | _ => none
  | .l2i => match st with
    | .long x :: r => some (l, .int x.toInt32 :: r)
    | _ => none
  | .i2b => match st with
    | .int x :: r => some (l, .int x.toInt8.toInt32 :: r)
    | _ => none
  | .dup => match st with
    | .int x :: r => some (l, .int x :: .int x :: r)
    | .ref x :: r => some (l, .ref x :: .ref x :: r)
    | _ => none
  | .pop => match st with
    | .int _ :: r => some (l, r)
    | .ref _ :: r => some (l, r)
    | _ => none
  | .dup2 => match st with
    | .int x :: .ref y :: r => some (l, .int x :: .ref y :: .int x :: .ref y :: r)
    | .long x :: r => some (l, .long x :: .long x :: r)
    | _ => none
  | _ => none
/-- loads and stores; sc: the law's script, a row of L ints xs -/
def xm_h (fty : Nat → Nat → FieldType) (sc : Option (Nat × (Nat → Int32))) (q : xI) (st : List Value) (σ : xH) : Option (List Value × xH) := match q.1 with
  | .getfield _ => match st with
    | .ref id :: r => match σ.1[id]? with
      | some (k, n) => if k = q.2.1 ∧ q.2.2 < n then some (xm_fv fty σ q.2.1 id q.2.2 :: r, σ) else none
      | none => none
    | _ => none
  | .putfield _ => match st with
    | .int x :: .ref id :: r => match σ.1[id]? with
      | some (k, n) => if k = q.2.1 ∧ q.2.2 < n ∧ xm_isI fty q.2.1 q.2.2 x = true then some (r, σ.1, xm_up σ.2.1 id q.2.2 x, σ.2.2.1, σ.2.2.2) else none
      | none => none
    | .long x :: .ref id :: r => match σ.1[id]? with
      | some (k, n) => if k = q.2.1 ∧ q.2.2 < n ∧ fty q.2.1 q.2.2 = .long then some (r, σ.1, σ.2.1, xm_up σ.2.2.1 id q.2.2 x, σ.2.2.2) else none
      | none => none
    | .ref x :: .ref id :: r => match σ.1[id]? with
      | some (k, n) => if k = q.2.1 ∧ q.2.2 < n ∧ xm_cat (fty q.2.1 q.2.2) = 2 then some (r, σ.1, σ.2.1, σ.2.2.1, xm_up σ.2.2.2 id q.2.2 (some x)) else none
      | none => none
    | _ => none
  | .arraylength => match st with
    | .ref id :: r => match σ.1[id]? with
      | some (k, n) => if 20 ≤ k ∧ k < 26 then some (.int (Int32.ofNat n) :: r, σ) else none
      | none => none
    | .retAddr _ :: r => match sc with
      | some (L, _) => some (.int (Int32.ofNat L) :: r, σ)
      | none => none
    | _ => none
  | .iaload => match st with
    | .int i :: .ref id :: r => match σ.1[id]? with
      | some (k, n) => if k = 20 ∧ xm_in i n = true then some (.int (σ.2.1 id i.toNatClampNeg) :: r, σ) else none
      | none => none
    | .int i :: .retAddr _ :: r => match sc with
      | some (L, xs) => if xm_in i L = true then some (.int (xs i.toNatClampNeg) :: r, σ) else none
      | none => none
    | _ => none
  | .baload => match st with
    | .int i :: .ref id :: r => match σ.1[id]? with
      | some (k, n) => if (k = 21 ∨ k = 22) ∧ xm_in i n = true then some (.int (σ.2.1 id i.toNatClampNeg) :: r, σ) else none
      | none => none
    | _ => none
  | .laload => match st with
    | .int i :: .ref id :: r => match σ.1[id]? with
      | some (k, n) => if k = 23 ∧ xm_in i n = true then some (.long (σ.2.2.1 id i.toNatClampNeg) :: r, σ) else none
      | none => none
    | _ => none
  | .aaload => match st with
    | .int i :: .ref id :: r => match σ.1[id]? with
      | some (k, n) => if (k = 24 ∨ k = 25) ∧ xm_in i n = true then some (va_rf (σ.2.2.2 id i.toNatClampNeg) :: r, σ) else none
      | none => none
    | _ => none
  | .iastore => match st with
    | .int x :: .int i :: .ref id :: r => match σ.1[id]? with
      | some (k, n) => if k = 20 ∧ xm_in i n = true then some (r, σ.1, xm_up σ.2.1 id i.toNatClampNeg x, σ.2.2.1, σ.2.2.2) else none
      | none => none
    | _ => none
  | .bastore => match st with
    | .int x :: .int i :: .ref id :: r => match σ.1[id]? with
      | some (k, n) => if (k = 21 ∨ k = 22) ∧ xm_in i n = true then some (r, σ.1, xm_up σ.2.1 id i.toNatClampNeg (vp_nar (xm_ty k) x), σ.2.2.1, σ.2.2.2) else none
      | none => none
    | _ => none
  | .lastore => match st with
    | .long x :: .int i :: .ref id :: r => match σ.1[id]? with
      | some (k, n) => if k = 23 ∧ xm_in i n = true then some (r, σ.1, σ.2.1, xm_up σ.2.2.1 id i.toNatClampNeg x, σ.2.2.2) else none
      | none => none
    | _ => none
  | .aastore => match st with
    | .ref x :: .int i :: .ref id :: r => match σ.1[id]?, σ.1[x]? with
      | some (k, n), some (kx, _) => if ((k = 24 ∧ kx = 0) ∨ (k = 25 ∧ kx = 6)) ∧ xm_in i n = true then some (r, σ.1, σ.2.1, σ.2.2.1, xm_up σ.2.2.2 id i.toNatClampNeg (some x)) else none
      | _, _ => none
    | _ => none
  | _ => none
/-- branches: the place where it goes on; a: the target -/
def xm_j (q : xI) (pc : Nat) (st : List Value) : Option (Nat × List Value) := match q.1 with
  | .goto _ => some (q.2.1, st)
  | .ifCond .eq _ => match st with
    | .int x :: r => some (if x = 0 then q.2.1 else pc + 3, r)
    | _ => none
  | .ifCond .ne _ => match st with
    | .int x :: r => some (if x = 0 then pc + 3 else q.2.1, r)
    | _ => none
  | .ifCond .lt _ => match st with
    | .int x :: r => some (if x < 0 then q.2.1 else pc + 3, r)
    | _ => none
  | .ifCond .ge _ => match st with
    | .int x :: r => some (if 0 ≤ x then q.2.1 else pc + 3, r)
    | _ => none
  | .ifCond .gt _ => match st with
    | .int x :: r => some (if 0 < x then q.2.1 else pc + 3, r)
    | _ => none
  | .ifCond .le _ => match st with
    | .int x :: r => some (if x ≤ 0 then q.2.1 else pc + 3, r)
    | _ => none
  | .if_icmp .eq _ => match st with
    | .int y :: .int x :: r => some (if x = y then q.2.1 else pc + 3, r)
    | _ => none
  | .if_icmp .ne _ => match st with
    | .int y :: .int x :: r => some (if x = y then pc + 3 else q.2.1, r)
    | _ => none
  | .if_icmp .lt _ => match st with
    | .int y :: .int x :: r => some (if x < y then q.2.1 else pc + 3, r)
    | _ => none
  | .if_icmp .ge _ => match st with
    | .int y :: .int x :: r => some (if y ≤ x then q.2.1 else pc + 3, r)
    | _ => none
  | .if_icmp .gt _ => match st with
    | .int y :: .int x :: r => some (if y < x then q.2.1 else pc + 3, r)
    | _ => none
  | .if_icmp .le _ => match st with
    | .int y :: .int x :: r => some (if x ≤ y then q.2.1 else pc + 3, r)
    | _ => none
  | .tableswitch d lo hi os => match st with
    | .int x :: r => if x.toInt < lo ∨ hi < x.toInt then (if 0 ≤ (pc : Int) + d then some (((pc : Int) + d).toNat, r) else none) else
        (match os[(x.toInt - lo).toNat]? with
         | some o => if 0 ≤ (pc : Int) + o then some (((pc : Int) + o).toNat, r) else none
         | none => none)
    | _ => none
  | _ => none
