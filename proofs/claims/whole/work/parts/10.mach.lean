/-! THE MACHINE: a small one over terms, that runs a method's code; it answers 'none' where it can't go on. Values are terms: .int, .long, .null, .index k (the cell k of its own heap), .arg i (an int that isn't known), and what is made of these; .result: nothing is said of it. -/
abbrev s_C : Type := Nat × Nat × List Term
abbrev s_H : Type := Nat × List (List s_C)
abbrev s_I : Type := Instr × Nat × Nat × Nat × Nat
abbrev s_F : Type := List ((Nat × Term × Term) × Bool)
abbrev s_S : Type := Nat × List Term × List Term × s_H × Nat × Nat
abbrev s_O : Type := (Option Term ⊕ Nat) × s_H × Nat × Nat
abbrev s_R : Type := Option (s_S ⊕ s_O)
abbrev s_Hd : Type := Nat × Nat × Nat × Nat × Nat
def s_nth {α : Type} : List α → Nat → Option α
  | [], _ => none
  | x :: _, 0 => some x
  | _ :: xs, n + 1 => s_nth xs n
def s_setK {α β : Type} : List α → Nat → α → (List α → Option β) → Option β
  | [], _, _, _ => none
  | _ :: xs, 0, c, k => k (c :: xs)
  | x :: xs, n + 1, c, k => s_setK xs n c (fun ys => k (x :: ys))
def s_fN {β : Type} (n : Nat) (k : Nat → Option β) : Option β := match n with
  | 0 => k 0
  | m + 1 => k (m + 1)
def s_fI {β : Type} (x : Int32) (k : Term → Option β) : Option β := match x.toBitVec.toNat with
  | 0 => k (.int 0)
  | m + 1 => k (.int (Int32.ofNat (m + 1)))
def s_fL {β : Type} (x : Int64) (k : Term → Option β) : Option β := match x.toBitVec.toNat with
  | 0 => k (.long 0)
  | m + 1 => k (.long (Int64.ofNat (m + 1)))
def s_get (h : s_H) (k : Nat) : Option s_C := match s_nth h.2 (k / 32) with
  | none => none
  | some r => s_nth r (k % 32)
def s_put {β : Type} (h : s_H) (k : Nat) (c : s_C) (q : s_H → Option β) : Option β := match s_nth h.2 (k / 32) with
  | none => none
  | some r => s_setK r (k % 32) c (fun r' => s_setK h.2 (k / 32) r' (fun h' => q (h.1, h')))
def s_push {β : Type} (h : s_H) (c : s_C) (q : s_H → Option β) : Option β := s_put h h.1 c (fun h' => s_fN (h.1 + 1) (fun n => q (n, h'.2)))
/-- 1 an int, 2 a long, 3 a reference, 0: nothing is said -/
def s_ty : Term → Nat
  | .int _ => 1
  | .long _ => 2
  | .null => 3
  | .index _ => 3
  | .arg _ => 1
  | .add _ _ => 1
  | .sub _ _ => 1
  | .mul _ _ => 1
  | .div _ _ => 1
  | .rem _ _ => 1
  | .op1 o _ => match o with
    | .ineg => 1
    | .l2i => 1
    | .lneg => 2
    | .i2l => 2
    | _ => 0
  | .op2 o _ _ => match o with
    | .iand => 1
    | .ior => 1
    | .ixor => 1
    | .ishl => 1
    | .ishr => 1
    | .iushr => 1
    | .lcmp => 1
    | .ladd => 2
    | .lsub => 2
    | .lmul => 2
    | .lrem => 2
    | .ldiv => 2
    | .land => 2
    | .lor => 2
    | .lxor => 2
    | .lshl => 2
    | .lshr => 2
    | .lushr => 2
    | _ => 0
  | _ => 0
def s_ld {β : Type} (ty : Nat) (ls : List Term) (n : Nat) (k : Term → Option β) : Option β := match s_nth ls n with
  | none => none
  | some v => if Nat.beq (s_ty v) ty then k v else none
def s_stK {β : Type} : List Term → Nat → Term → (List Term → Option β) → Option β
  | [], _, _, _ => none
  | _ :: xs, 0, v, k => k (v :: xs)
  | x :: xs, n + 1, v, k => if Nat.beq n 0 && Nat.beq (s_ty x) 2 then s_stK xs n v (fun ys => k (.result :: ys)) else s_stK xs n v (fun ys => k (x :: ys))
def s_st {β : Type} (ty : Nat) (ls : List Term) (n : Nat) (st : List Term) (k : List Term → List Term → Option β) : Option β := match st with
  | [] => none
  | v :: r => if Nat.beq (s_ty v) ty then s_stK ls n v (fun l1 => if Nat.beq ty 2 then s_setK l1 (n + 1) .result (fun l2 => k l2 r) else k l1 r) else none
/-- two ints -/
def s_i2 {β : Type} (f : Int32 → Int32 → Int32) (t : Term → Term → Term) (st : List Term) (k : List Term → Option β) : Option β := match st with
  | .int y :: .int x :: r => s_fI (f x y) (fun v => k (v :: r))
  | b :: a :: r => if Nat.beq (s_ty a) 1 && Nat.beq (s_ty b) 1 then k (t a b :: r) else none
  | _ => none
/-- a division's: the second one is known, and isn't 0 -/
def s_d2 {β : Type} (f : Int32 → Int32 → Int32) (t : Term → Term → Term) (st : List Term) (k : List Term → Option β) : Option β := match st with
  | .int y :: a :: r => if decide (y = 0) then none else s_i2 f t (.int y :: a :: r) k
  | _ => none
def s_l2 {β : Type} (f : Int64 → Int64 → Int64) (t : Term → Term → Term) (st : List Term) (k : List Term → Option β) : Option β := match st with
  | .long y :: .long x :: r => s_fL (f x y) (fun v => k (v :: r))
  | b :: a :: r => if Nat.beq (s_ty a) 2 && Nat.beq (s_ty b) 2 then k (t a b :: r) else none
  | _ => none
def s_dl {β : Type} (f : Int64 → Int64 → Int64) (t : Term → Term → Term) (st : List Term) (k : List Term → Option β) : Option β := match st with
  | .long y :: a :: r => if decide (y = 0) then none else s_l2 f t (.long y :: a :: r) k
  | _ => none
def s_sh {β : Type} (f : Int64 → Int32 → Int64) (t : Term → Term → Term) (st : List Term) (k : List Term → Option β) : Option β := match st with
  | .int y :: .long x :: r => s_fL (f x y) (fun v => k (v :: r))
  | b :: a :: r => if Nat.beq (s_ty a) 2 && Nat.beq (s_ty b) 1 then k (t a b :: r) else none
  | _ => none
def s_lc {β : Type} (st : List Term) (k : List Term → Option β) : Option β := match st with
  | .long y :: .long x :: r => s_fI (lg_cmp x y) (fun v => k (v :: r))
  | b :: a :: r => if Nat.beq (s_ty a) 2 && Nat.beq (s_ty b) 2 then k (.op2 .lcmp a b :: r) else none
  | _ => none
def s_u {β : Type} (st : List Term) (o : Nat) (k : List Term → Option β) : Option β := match st with
  | [] => none
  | a :: r => match o with
    | 0 => match a with
      | .int x => s_fI (-x) (fun v => k (v :: r))
      | a => if Nat.beq (s_ty a) 1 then k (.op1 .ineg a :: r) else none
    | 1 => match a with
      | .long x => s_fL (-x) (fun v => k (v :: r))
      | a => if Nat.beq (s_ty a) 2 then k (.op1 .lneg a :: r) else none
    | 2 => match a with
      | .int x => s_fL x.toInt64 (fun v => k (v :: r))
      | a => if Nat.beq (s_ty a) 1 then k (.op1 .i2l a :: r) else none
    | _ => match a with
      | .long x => s_fI x.toInt32 (fun v => k (v :: r))
      | a => if Nat.beq (s_ty a) 2 then k (.op1 .l2i a :: r) else none
def s_eqT : Term → Term → Bool
  | .int x, .int y => decide (x = y)
  | .long x, .long y => decide (x = y)
  | .arg i, .arg j => Nat.beq i j
  | .add a b, .add c d => s_eqT a c && s_eqT b d
  | .sub a b, .sub c d => s_eqT a c && s_eqT b d
  | .mul a b, .mul c d => s_eqT a c && s_eqT b d
  | .div a b, .div c d => s_eqT a c && s_eqT b d
  | .rem a b, .rem c d => s_eqT a c && s_eqT b d
  | .op1 o a, .op1 p c => decide (o = p) && s_eqT a c
  | .op2 o a b, .op2 p c d => decide (o = p) && s_eqT a c && s_eqT b d
  | _, _ => false
def s_look : s_F → Nat → Term → Term → Option Bool
  | [], _, _, _ => none
  | ((c, a, b), r) :: F, d, x, y => if Nat.beq c d && s_eqT a x && s_eqT b y then some r else s_look F d x y
/-- c = 0: are they the same; else: is the first one less -/
def s_cmp (c : Nat) (x y : Int32) : Bool := match c with
  | 0 => decide (x = y)
  | _ => decide (x < y)
def s_cond (F : s_F) (c : Nat) (a b : Term) : Option Bool := match a, b with
  | .int x, .int y => some (s_cmp c x y)
  | a, b => if Nat.beq (s_ty a) 1 && Nat.beq (s_ty b) 1 then s_look F c a b else none
def s_con (F : s_F) (c : ClassFile.Cond) (a b : Term) : Option Bool := match c with
  | .eq => s_cond F 0 a b
  | .ne => (s_cond F 0 a b).map not
  | .lt => s_cond F 1 a b
  | .ge => (s_cond F 1 a b).map not
  | .gt => s_cond F 1 b a
  | .le => (s_cond F 1 b a).map not
def s_wt : List Term → Nat
  | [] => 0
  | v :: r => (if Nat.beq (s_ty v) 2 then 2 else 1) + s_wt r
def s_take {β : Type} : Nat → List Term → List Term → (List Term → List Term → Option β) → Option β
  | 0, st, acc, k => k acc st
  | _ + 1, [], _, _ => none
  | n + 1, v :: st, acc, k => s_take n st (v :: acc) k
def s_ini : Nat → List Term → List Term
  | 0, _ => []
  | n + 1, [] => .result :: s_ini n []
  | 1, v :: _ => [if Nat.beq (s_ty v) 2 then .result else v]
  | n + 2, v :: vs => if Nat.beq (s_ty v) 2 then v :: .result :: s_ini n vs else v :: s_ini (n + 1) vs
def s_hnd : List s_Hd → Nat → Nat → Option (Nat × Nat)
  | [], _, _ => none
  | (lo, hi, to, ex, slot) :: r, pc, E => if Nat.ble lo pc && Nat.blt pc hi && Nat.beq ex E then some (to, slot) else s_hnd r pc E
def s_inA {β : Type} (i : Int32) (ts : List Term) (k : Nat → Option β) : Option β := if decide (i < 0) then none else s_fN i.toNatClampNeg k
def s_pushN (c : s_C) : Nat → s_H → (s_H → s_R) → s_R
  | 0, h, k => k h
  | n + 1, h, k => s_push h c (fun h' => s_pushN c n h' k)
def s_bool (t : Term) : Bool := match t with
  | .int x => decide (x = 0) || decide (x = 1)
  | _ => false
/-- may v be stored in a field of this kind: 1 an int, 2 a long, 3 a reference, 4 a boolean -/
def s_okF (c : Nat) (v : Term) : Bool := match c with
  | 4 => s_bool v
  | _ => Nat.beq (s_ty v) c && Nat.blt 0 c
/-- may v stand in an array with this tag: 0 int, 1 long, 2 and 3 of objects, 5 boolean -/
def s_okA (h : s_H) (comp : Nat → Nat) (tag : Nat) (v : Term) : Bool := match tag with
  | 0 => Nat.beq (s_ty v) 1
  | 1 => Nat.beq (s_ty v) 2
  | 5 => s_bool v
  | 4 => false
  | tag => match v with
    | .null => true
    | .index q => match s_get h q with
      | some (1, t, _) => Nat.beq t (comp tag)
      | _ => false
    | _ => false
def s_ob (h : s_H) (ci : Nat) (t : Term) : Bool := match t with
  | .index q => match s_get h q with
    | some (1, t, _) => Nat.beq t ci
    | _ => false
  | _ => false
def s_isR (t : Term) : Bool := match t with
  | .index _ => true
  | _ => false
def s_hd1 (l : List Term) : Term := match l with
  | [] => .null
  | t :: _ => t
def s_astK (h : s_H) (comp : Nat → Nat) (tag : Nat) (st : List Term) (k : List Term → s_H → s_R) : s_R := match st with
  | v :: .int i :: .index q :: r => match s_get h q with
    | some (0, t, ts) => if Nat.beq t tag && Nat.blt 0 q && s_okA h comp t v then s_inA i ts (fun j => s_setK ts j v (fun ts' => s_put h q (0, t, ts') (fun h' => k r h'))) else none
    | _ => none
  | _ => none
def s_aldK (h : s_H) (lo hi : Nat) (st : List Term) (k : List Term → s_R) : s_R := match st with
  | .int i :: .index q :: r => match s_get h q with
    | some (kd, t, ts) => if (Nat.beq kd 0 || Nat.beq kd 2) && Nat.ble lo t && Nat.ble t hi then s_inA i ts (fun j => match s_nth ts j with
      | some v => k (v :: r)
      | none => none) else none
    | none => none
  | _ => none
/-- what stands beside the code: 'df': a new object's fields; 'comp': which class an array's objects have; 'call': a method called -/
def s_exec (F : s_F) (df : Nat → List Term) (comp : Nat → Nat) (call : Nat → List Term → s_H → Option s_O) (hd : List s_Hd) (pc : Nat) (e : s_I) (ls st : List Term) (h : s_H) (kc ks : Nat) : s_R :=
  match e with
  | (i, nx, a, b, c) => match i with
    | .aconst_null => some (.inl (nx, ls, .null :: st, h, kc, ks))
    | .iconst _ => some (.inl (nx, ls, .int (Int32.ofNat a) :: st, h, kc, ks))
    | .bipush _ => some (.inl (nx, ls, .int (Int32.ofNat a) :: st, h, kc, ks))
    | .sipush _ => some (.inl (nx, ls, .int (Int32.ofNat a) :: st, h, kc, ks))
    | .lconst _ => some (.inl (nx, ls, .long (Int64.ofNat a) :: st, h, kc, ks))
    | .ldc2_w _ => some (.inl (nx, ls, .long (Int64.ofNat a) :: st, h, kc, ks))
    | .iload _ => s_ld 1 ls a (fun v => some (.inl (nx, ls, v :: st, h, kc, ks)))
    | .iload_n _ => s_ld 1 ls a (fun v => some (.inl (nx, ls, v :: st, h, kc, ks)))
    | .lload _ => s_ld 2 ls a (fun v => some (.inl (nx, ls, v :: st, h, kc, ks)))
    | .lload_n _ => s_ld 2 ls a (fun v => some (.inl (nx, ls, v :: st, h, kc, ks)))
    | .aload _ => s_ld 3 ls a (fun v => some (.inl (nx, ls, v :: st, h, kc, ks)))
    | .aload_n _ => s_ld 3 ls a (fun v => some (.inl (nx, ls, v :: st, h, kc, ks)))
    | .istore _ => s_st 1 ls a st (fun l r => some (.inl (nx, l, r, h, kc, ks)))
    | .istore_n _ => s_st 1 ls a st (fun l r => some (.inl (nx, l, r, h, kc, ks)))
    | .lstore _ => s_st 2 ls a st (fun l r => some (.inl (nx, l, r, h, kc, ks)))
    | .lstore_n _ => s_st 2 ls a st (fun l r => some (.inl (nx, l, r, h, kc, ks)))
    | .astore _ => s_st 3 ls a st (fun l r => some (.inl (nx, l, r, h, kc, ks)))
    | .astore_n _ => s_st 3 ls a st (fun l r => some (.inl (nx, l, r, h, kc, ks)))
    | .iinc _ _ => s_ld 1 ls a (fun v => s_i2 (fun x y => x + y) .add [.int (Int32.ofNat b), v] (fun r => s_stK ls a (s_hd1 r) (fun l => some (.inl (nx, l, st, h, kc, ks)))))
    | .iadd => s_i2 (fun x y => x + y) .add st (fun r => some (.inl (nx, ls, r, h, kc, ks)))
    | .isub => s_i2 (fun x y => x - y) .sub st (fun r => some (.inl (nx, ls, r, h, kc, ks)))
    | .imul => s_i2 (fun x y => x * y) .mul st (fun r => some (.inl (nx, ls, r, h, kc, ks)))
    | .idiv => s_d2 (fun x y => x / y) .div st (fun r => some (.inl (nx, ls, r, h, kc, ks)))
    | .irem => s_d2 (fun x y => x - x / y * y) .rem st (fun r => some (.inl (nx, ls, r, h, kc, ks)))
    | .iand => s_i2 (fun x y => x &&& y) (.op2 .iand) st (fun r => some (.inl (nx, ls, r, h, kc, ks)))
    | .ior => s_i2 (fun x y => x ||| y) (.op2 .ior) st (fun r => some (.inl (nx, ls, r, h, kc, ks)))
    | .ixor => s_i2 (fun x y => x ^^^ y) (.op2 .ixor) st (fun r => some (.inl (nx, ls, r, h, kc, ks)))
    | .ishl => s_i2 (fun x y => x <<< (y &&& 31)) (.op2 .ishl) st (fun r => some (.inl (nx, ls, r, h, kc, ks)))
    | .ishr => s_i2 (fun x y => x >>> (y &&& 31)) (.op2 .ishr) st (fun r => some (.inl (nx, ls, r, h, kc, ks)))
    | .ladd => s_l2 (fun x y => x + y) (.op2 .ladd) st (fun r => some (.inl (nx, ls, r, h, kc, ks)))
    | .lsub => s_l2 (fun x y => x - y) (.op2 .lsub) st (fun r => some (.inl (nx, ls, r, h, kc, ks)))
    | .lmul => s_l2 (fun x y => x * y) (.op2 .lmul) st (fun r => some (.inl (nx, ls, r, h, kc, ks)))
    | .lrem => s_dl (fun x y => x - x / y * y) (.op2 .lrem) st (fun r => some (.inl (nx, ls, r, h, kc, ks)))
    | .ldiv => s_dl (fun x y => x / y) (.op2 .ldiv) st (fun r => some (.inl (nx, ls, r, h, kc, ks)))
    | .land => s_l2 (fun x y => x &&& y) (.op2 .land) st (fun r => some (.inl (nx, ls, r, h, kc, ks)))
    | .lor => s_l2 (fun x y => x ||| y) (.op2 .lor) st (fun r => some (.inl (nx, ls, r, h, kc, ks)))
    | .lxor => s_l2 (fun x y => x ^^^ y) (.op2 .lxor) st (fun r => some (.inl (nx, ls, r, h, kc, ks)))
    | .lshl => s_sh (fun x y => x <<< (y.toInt64 &&& 63)) (.op2 .lshl) st (fun r => some (.inl (nx, ls, r, h, kc, ks)))
    | .lshr => s_sh (fun x y => x >>> (y.toInt64 &&& 63)) (.op2 .lshr) st (fun r => some (.inl (nx, ls, r, h, kc, ks)))
    | .lushr => s_sh (fun x y => (x.toUInt64 >>> (y.toInt64.toUInt64 &&& Int64.toUInt64 63)).toInt64) (.op2 .lushr) st (fun r => some (.inl (nx, ls, r, h, kc, ks)))
    | .lcmp => s_lc st (fun r => some (.inl (nx, ls, r, h, kc, ks)))
    | .ineg => s_u st 0 (fun r => some (.inl (nx, ls, r, h, kc, ks)))
    | .lneg => s_u st 1 (fun r => some (.inl (nx, ls, r, h, kc, ks)))
    | .i2l => s_u st 2 (fun r => some (.inl (nx, ls, r, h, kc, ks)))
    | .l2i => s_u st 3 (fun r => some (.inl (nx, ls, r, h, kc, ks)))
    | .dup => match st with
      | v :: r => if Nat.beq (s_ty v) 1 || Nat.beq (s_ty v) 3 then some (.inl (nx, ls, v :: v :: r, h, kc, ks)) else none
      | [] => none
    | .pop => match st with
      | v :: r => if Nat.beq (s_ty v) 1 || Nat.beq (s_ty v) 3 then some (.inl (nx, ls, r, h, kc, ks)) else none
      | [] => none
    | .dup2 => match st with
      | v :: w :: r => if (Nat.beq (s_ty v) 1 || Nat.beq (s_ty v) 3) && (Nat.beq (s_ty w) 1 || Nat.beq (s_ty w) 3) then some (.inl (nx, ls, v :: w :: v :: w :: r, h, kc, ks)) else none
      | _ => none
    | .goto _ => some (.inl (nx, ls, st, h, kc, ks))
    | .ifCond cc _ => match st with
      | x :: r => match s_con F cc x (.int 0) with
        | some true => some (.inl (a, ls, r, h, kc, ks))
        | some false => some (.inl (nx, ls, r, h, kc, ks))
        | none => none
      | [] => none
    | .if_icmp cc _ => match st with
      | y :: x :: r => match s_con F cc x y with
        | some true => some (.inl (a, ls, r, h, kc, ks))
        | some false => some (.inl (nx, ls, r, h, kc, ks))
        | none => none
      | _ => none
    | .ifnull _ => match st with
      | .null :: r => some (.inl (a, ls, r, h, kc, ks))
      | .index _ :: r => some (.inl (nx, ls, r, h, kc, ks))
      | _ => none
    | .ifnonnull _ => match st with
      | .null :: r => some (.inl (nx, ls, r, h, kc, ks))
      | .index _ :: r => some (.inl (a, ls, r, h, kc, ks))
      | _ => none
    | .tableswitch dflt lo hi offs => match st with
      | .int x :: r => if decide (x.toInt < lo) || decide (hi < x.toInt) then some (.inl (a, ls, r, h, kc, ks)) else match s_nth offs.toList (x.toInt - lo).toNat with
        | some off => if decide (0 ≤ (pc : Int) + off) then some (.inl (((pc : Int) + off).toNat, ls, r, h, kc, ks)) else none
        | none => none
      | _ => none
    | .getfield _ => match st with
      | .index q :: r => match s_get h q with
        | some (1, t, fs) => if Nat.beq t a then match s_nth fs b with
          | some v => some (.inl (nx, ls, v :: r, h, kc, ks))
          | none => none else none
        | _ => none
      | _ => none
    | .putfield _ => match st with
      | v :: .index q :: r => match s_get h q with
        | some (1, t, fs) => if Nat.beq t a && Nat.blt 0 q && s_okF c v then s_setK fs b v (fun fs' => s_put h q (1, t, fs') (fun h' => some (.inl (nx, ls, r, h', kc, ks)))) else none
        | _ => none
      | _ => none
    | .iaload => s_aldK h 0 0 st (fun r => some (.inl (nx, ls, r, h, kc, ks)))
    | .laload => s_aldK h 1 1 st (fun r => some (.inl (nx, ls, r, h, kc, ks)))
    | .baload => s_aldK h 5 5 st (fun r => some (.inl (nx, ls, r, h, kc, ks)))
    | .aaload => s_aldK h 2 4 st (fun r => some (.inl (nx, ls, r, h, kc, ks)))
    | .iastore => s_astK h comp 0 st (fun r h' => some (.inl (nx, ls, r, h', kc, ks)))
    | .lastore => s_astK h comp 1 st (fun r h' => some (.inl (nx, ls, r, h', kc, ks)))
    | .bastore => s_astK h comp 5 st (fun r h' => some (.inl (nx, ls, r, h', kc, ks)))
    | .aastore => s_astK h comp a st (fun r h' => some (.inl (nx, ls, r, h', kc, ks)))
    | .arraylength => match st with
      | .index q :: r => match s_get h q with
        | some (kd, _, ts) => if Nat.beq kd 0 || Nat.beq kd 2 then s_fI (Int32.ofNat ts.length) (fun v => some (.inl (nx, ls, v :: r, h, kc, ks))) else none
        | none => none
      | _ => none
    | .newarray _ => match st with
      | .int n :: r => s_inA n [] (fun N => if Nat.ble N 60000000 then s_push h (0, a, List.replicate N (if Nat.beq a 1 then .long 0 else .int 0)) (fun h' => s_fN (ks + N) (fun ks' => s_fN (kc + 1) (fun kc' => some (.inl (nx, ls, .index h.1 :: r, h', kc', ks'))))) else none)
      | _ => none
    | .anewarray _ => match st with
      | .int n :: r => s_inA n [] (fun N => if Nat.ble N 60000000 then s_push h (0, a, List.replicate N .null) (fun h' => s_fN (ks + N) (fun ks' => s_fN (kc + 1) (fun kc' => some (.inl (nx, ls, .index h.1 :: r, h', kc', ks'))))) else none)
      | _ => none
    | .multianewarray _ _ => match st with
      | .int k :: .int n :: r => s_inA n [] (fun N => s_inA k [] (fun K => if Nat.ble N 60000000 && Nat.ble K 60000000 then s_push h (0, 4, (List.range N).map (fun j => .index (h.1 + 1 + j))) (fun h1 => s_pushN (0, 0, List.replicate K (.int 0)) N h1 (fun h2 => s_fN (ks + N + N * K) (fun ks' => s_fN (kc + 1 + N) (fun kc' => some (.inl (nx, ls, .index h.1 :: r, h2, kc', ks')))))) else none))
      | _ => none
    | .new _ => if Nat.beq c 1 then (if Nat.ble (s_wt st) 8 then some (.inr (.inr a, h, kc + 1, ks + 6)) else none)
        else s_push h (1, a, df a) (fun h' => s_fN (ks + b) (fun ks' => s_fN (kc + 1) (fun kc' => some (.inl (nx, ls, .index h.1 :: st, h', kc', ks')))))
    | .invokespecial _ => if Nat.beq c 9 then (match st with
        | .index _ :: r => if Nat.ble (s_wt r) 8 then some (.inl (nx, ls, r, h, kc, ks)) else none
        | _ => none) else s_take b st [] (fun as r => if Nat.ble (s_wt r) 8 && s_isR (s_hd1 as) then (match call a as h with
        | some (.inl none, h', k, n) => s_fN (kc + k) (fun kc' => s_fN (ks + n) (fun ks' => some (.inl (nx, ls, r, h', kc', ks'))))
        | _ => none) else none)
    | .invokestatic _ => s_take b st [] (fun as r => if Nat.ble (s_wt r) 8 then (match call a as h with
        | some (.inl v, h', k, n) => s_fN (kc + k) (fun kc' => s_fN (ks + n) (fun ks' => some (.inl (nx, ls, v.toList ++ r, h', kc', ks'))))
        | some (.inr E, h', k, n) => match s_hnd hd pc E with
          | none => match hd with
            | [] => some (.inr (.inr E, h', kc + k, ks + n))
            | _ => none
          | some (to, slot) => s_stK ls slot .result (fun l => some (.inl (to, l, [], h', kc + k, ks + n)))
        | none => none) else none)
    | .invokevirtual _ => s_take b st [] (fun as r => if Nat.ble (s_wt r) 8 && s_ob h c (s_hd1 as) then (match call a as h with
        | some (.inl v, h', k, n) => s_fN (kc + k) (fun kc' => s_fN (ks + n) (fun ks' => some (.inl (nx, ls, v.toList ++ r, h', kc', ks'))))
        | some (.inr E, h', k, n) => match s_hnd hd pc E with
          | none => match hd with
            | [] => some (.inr (.inr E, h', kc + k, ks + n))
            | _ => none
          | some (to, slot) => s_stK ls slot .result (fun l => some (.inl (to, l, [], h', kc + k, ks + n)))
        | none => none) else none)
    | .return_ => match st with
      | [] => some (.inr (.inl none, h, kc, ks))
      | _ => none
    | .ireturn => match st with
      | [v] => if (if Nat.beq a 1 then s_bool v else Nat.beq (s_ty v) 1) then some (.inr (.inl (some v), h, kc, ks)) else none
      | _ => none
    | .lreturn => match st with
      | [v] => if Nat.beq (s_ty v) 2 then some (.inr (.inl (some v), h, kc, ks)) else none
      | _ => none
    | .areturn => match st with
      | [v] => if Nat.beq (s_ty v) 3 then some (.inr (.inl (some v), h, kc, ks)) else none
      | _ => none
    | _ => none
abbrev s_Cd : Type := List (List (Option s_I))
abbrev s_P : Type := List (List (Option (s_Cd × Nat × List s_Hd)))
def s_at {α : Type} (w : Nat) (t : List (List (Option α))) (n : Nat) : Option α := match s_nth t (n / w) with
  | none => none
  | some r => match s_nth r (n % w) with
    | none => none
    | some x => x
def s_run (F : s_F) (df : Nat → List Term) (comp : Nat → Nat) (call : Nat → List Term → s_H → Option s_O) (cd : s_Cd) (hd : List s_Hd) : Nat → s_S → Option s_O
  | 0, _ => none
  | n + 1, (pc, ls, st, h, kc, ks) => match s_at 32 cd pc with
    | none => none
    | some e => match s_exec F df comp call hd pc e ls st h kc ks with
      | none => none
      | some (.inl (pc', ls', st', h', kc', ks')) => if Nat.ble kc kc' && Nat.ble ks ks' then s_run F df comp call cd hd n (pc', ls', st', h', kc', ks') else none
      | some (.inr (o, h', kc', ks')) => if Nat.ble kc kc' && Nat.ble ks ks' then some (o, h', kc', ks') else none
def s_call (F : s_F) (df : Nat → List Term) (comp : Nat → Nat) (P : s_P) (fuel : Nat) : Nat → Nat → List Term → s_H → Option s_O
  | 0, _, _, _ => none
  | d + 1, y, as, h => match s_at 16 P y with
    | none => none
    | some (cd, nL, hd) => s_run F df comp (s_call F df comp P fuel d) cd hd fuel (0, s_ini nL as, [], h, 0, 0)
