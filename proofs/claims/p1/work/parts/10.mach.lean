/-! THE MACHINE: a small one over terms, that runs a method's code; it answers 'none' where it can't go on. Values are terms: .int, .long, .null, .index k (the cell k of its own heap), .arg i (an int that isn't known), and what is made of these; .result: nothing is said of it. -/
abbrev s_C : Type := Nat × Nat × List Term
abbrev s_H : Type := Nat × List (List (List s_C))
abbrev s_I : Type := Nat × Instr × Nat × Nat × Nat × Nat
abbrev s_F : Type := List ((Nat × Term × Term) × Bool)
abbrev s_S : Type := Nat × List Term × List Term × s_H × Nat × Nat
abbrev s_O : Type := (Option Term ⊕ Nat) × s_H × Nat × Nat
abbrev s_R : Type := Option (s_S ⊕ s_O)
abbrev s_Hd : Type := Nat × Nat × Nat × Nat × Nat
noncomputable def s_nth {α : Type} (l : List α) : Nat → Option α := List.rec (motive := fun _ => Nat → Option α) (fun _ => none) (fun x _ ih n => Nat.rec (motive := fun _ => Option α) (some x) (fun m _ => ih m) n) l
noncomputable def s_setK {α β : Type} (c : α) (l : List α) : Nat → (List α → Option β) → Option β := List.rec (motive := fun _ => Nat → (List α → Option β) → Option β) (fun _ _ => none) (fun x xs ih n k => Nat.rec (motive := fun _ => Option β) (k (c :: xs)) (fun m _ => ih m (fun ys => k (x :: ys))) n) l
def s_fN {β : Type} (n : Nat) (k : Nat → Option β) : Option β := match n with
  | 0 => k 0
  | m + 1 => k (m + 1)
def s_fI {β : Type} (x : Int32) (k : Term → Option β) : Option β := match x.toBitVec.toNat with
  | 0 => k (.int 0)
  | m + 1 => k (.int (Int32.ofNat (m + 1)))
def s_fL {β : Type} (x : Int64) (k : Term → Option β) : Option β := match x.toBitVec.toNat with
  | 0 => k (.long 0)
  | m + 1 => k (.long (Int64.ofNat (m + 1)))
noncomputable def s_get (h : s_H) (k : Nat) : Option s_C := match s_nth h.2 (k / 144) with
  | none => none
  | some r => match s_nth r (k / 12 % 12) with
    | none => none
    | some r2 => s_nth r2 (k % 12)
noncomputable def s_put {β : Type} (h : s_H) (k : Nat) (c : s_C) (q : s_H → Option β) : Option β := match s_nth h.2 (k / 144) with
  | none => none
  | some r => match s_nth r (k / 12 % 12) with
    | none => none
    | some r2 => s_setK c r2 (k % 12) (fun r3 => s_setK r3 r (k / 12 % 12) (fun r4 => s_setK r4 h.2 (k / 144) (fun h' => q (h.1, h'))))
noncomputable def s_push {β : Type} (h : s_H) (c : s_C) (q : s_H → Option β) : Option β := s_put h h.1 c (fun h' => s_fN (h.1 + 1) (fun n => q (n, h'.2)))
/-- 1 an int, 2 a long, 3 a reference, 0: nothing is said -/
def s_ty : Term → Nat
  | .int _ => 1
  | .long _ => 2
  | .null => 3
  | .index _ => 3
  | .arg _ => 1
  | .add _ _ => 1
  | .sub _ _ => 1
  | .mul _ _ => 1
  | .div _ _ => 1
  | .rem _ _ => 1
  | .op1 o _ => match o with
    | .ineg => 1
    | .l2i => 1
    | .lneg => 2
    | .i2l => 2
    | _ => 0
  | .op2 o _ _ => match o with
    | .iand => 1
    | .ior => 1
    | .ixor => 1
    | .ishl => 1
    | .ishr => 1
    | .iushr => 1
    | .lcmp => 1
    | .ladd => 2
    | .lsub => 2
    | .lmul => 2
    | .lrem => 2
    | .ldiv => 2
    | .land => 2
    | .lor => 2
    | .lxor => 2
    | .lshl => 2
    | .lshr => 2
    | .lushr => 2
    | _ => 0
  | _ => 0
noncomputable def s_ld {β : Type} (ty : Nat) (ls : List Term) (n : Nat) (k : Term → Option β) : Option β := match s_nth ls n with
  | none => none
  | some v => if Nat.beq (s_ty v) ty then k v else none
noncomputable def s_stK {β : Type} (v : Term) (l : List Term) : Nat → (List Term → Option β) → Option β := List.rec (motive := fun _ => Nat → (List Term → Option β) → Option β) (fun _ _ => none) (fun x xs ih n k => Nat.rec (motive := fun _ => Option β) (k (v :: xs)) (fun m _ => match Nat.beq m 0 && Nat.beq (s_ty x) 2 with
  | true => ih m (fun ys => k (.result :: ys))
  | false => ih m (fun ys => k (x :: ys))) n) l
noncomputable def s_st {β : Type} (ty : Nat) (ls : List Term) (n : Nat) (st : List Term) (k : List Term → List Term → Option β) : Option β := match st with
  | [] => none
  | v :: r => if Nat.beq (s_ty v) ty then s_stK v ls n (fun l1 => if Nat.beq ty 2 then s_setK .result l1 (n + 1) (fun l2 => k l2 r) else k l1 r) else none
/-- two ints -/
def s_i2 {β : Type} (f : Int32 → Int32 → Int32) (t : Term → Term → Term) (st : List Term) (k : List Term → Option β) : Option β := match st with
  | .int y :: .int x :: r => s_fI (f x y) (fun v => k (v :: r))
  | b :: a :: r => if Nat.beq (s_ty a) 1 && Nat.beq (s_ty b) 1 then k (t a b :: r) else none
  | _ => none
/-- a division's: the second one is known, and isn't 0 -/
def s_d2 {β : Type} (f : Int32 → Int32 → Int32) (t : Term → Term → Term) (st : List Term) (k : List Term → Option β) : Option β := match st with
  | .int y :: a :: r => if decide (y = 0) then none else s_i2 f t (.int y :: a :: r) k
  | _ => none
def s_l2 {β : Type} (f : Int64 → Int64 → Int64) (t : Term → Term → Term) (st : List Term) (k : List Term → Option β) : Option β := match st with
  | .long y :: .long x :: r => s_fL (f x y) (fun v => k (v :: r))
  | b :: a :: r => if Nat.beq (s_ty a) 2 && Nat.beq (s_ty b) 2 then k (t a b :: r) else none
  | _ => none
def s_dl {β : Type} (f : Int64 → Int64 → Int64) (t : Term → Term → Term) (st : List Term) (k : List Term → Option β) : Option β := match st with
  | .long y :: a :: r => if decide (y = 0) then none else s_l2 f t (.long y :: a :: r) k
  | _ => none
def s_sh {β : Type} (f : Int64 → Int32 → Int64) (t : Term → Term → Term) (st : List Term) (k : List Term → Option β) : Option β := match st with
  | .int y :: .long x :: r => s_fL (f x y) (fun v => k (v :: r))
  | b :: a :: r => if Nat.beq (s_ty a) 2 && Nat.beq (s_ty b) 1 then k (t a b :: r) else none
  | _ => none
def s_lc {β : Type} (st : List Term) (k : List Term → Option β) : Option β := match st with
  | .long y :: .long x :: r => s_fI (lg_cmp x y) (fun v => k (v :: r))
  | b :: a :: r => if Nat.beq (s_ty a) 2 && Nat.beq (s_ty b) 2 then k (.op2 .lcmp a b :: r) else none
  | _ => none
def s_u {β : Type} (st : List Term) (o : Nat) (k : List Term → Option β) : Option β := match st with
  | [] => none
  | a :: r => match o with
    | 0 => match a with
      | .int x => s_fI (-x) (fun v => k (v :: r))
      | a => if Nat.beq (s_ty a) 1 then k (.op1 .ineg a :: r) else none
    | 1 => match a with
      | .long x => s_fL (-x) (fun v => k (v :: r))
      | a => if Nat.beq (s_ty a) 2 then k (.op1 .lneg a :: r) else none
    | 2 => match a with
      | .int x => s_fL x.toInt64 (fun v => k (v :: r))
      | a => if Nat.beq (s_ty a) 1 then k (.op1 .i2l a :: r) else none
    | _ => match a with
      | .long x => s_fI x.toInt32 (fun v => k (v :: r))
      | a => if Nat.beq (s_ty a) 2 then k (.op1 .l2i a :: r) else none
def s_eqT : Term → Term → Bool
  | .int x, .int y => decide (x = y)
  | .long x, .long y => decide (x = y)
  | .arg i, .arg j => Nat.beq i j
  | .add a b, .add c d => s_eqT a c && s_eqT b d
  | .sub a b, .sub c d => s_eqT a c && s_eqT b d
  | .mul a b, .mul c d => s_eqT a c && s_eqT b d
  | .div a b, .div c d => s_eqT a c && s_eqT b d
  | .rem a b, .rem c d => s_eqT a c && s_eqT b d
  | .op1 o a, .op1 p c => decide (o = p) && s_eqT a c
  | .op2 o a b, .op2 p c d => decide (o = p) && s_eqT a c && s_eqT b d
  | _, _ => false
def s_look : s_F → Nat → Term → Term → Option Bool
  | [], _, _, _ => none
  | ((c, a, b), r) :: F, d, x, y => if Nat.beq c d && s_eqT a x && s_eqT b y then some r else s_look F d x y
/-- c = 0: are they the same; else: is the first one less -/
def s_cmp (c : Nat) (x y : Int32) : Bool := match c with
  | 0 => decide (x = y)
  | _ => decide (x < y)
def s_cond (F : s_F) (c : Nat) (a b : Term) : Option Bool := match a, b with
  | .int x, .int y => some (s_cmp c x y)
  | a, b => if Nat.beq (s_ty a) 1 && Nat.beq (s_ty b) 1 then s_look F c a b else none
def s_con (F : s_F) (c : ClassFile.Cond) (a b : Term) : Option Bool := match c with
  | .eq => s_cond F 0 a b
  | .ne => (s_cond F 0 a b).map not
  | .lt => s_cond F 1 a b
  | .ge => (s_cond F 1 a b).map not
  | .gt => s_cond F 1 b a
  | .le => (s_cond F 1 b a).map not
def s_wt : List Term → Nat
  | [] => 0
  | v :: r => (if Nat.beq (s_ty v) 2 then 2 else 1) + s_wt r
def s_take {β : Type} : Nat → List Term → List Term → (List Term → List Term → Option β) → Option β
  | 0, st, acc, k => k acc st
  | _ + 1, [], _, _ => none
  | n + 1, v :: st, acc, k => s_take n st (v :: acc) k
def s_ini : Nat → List Term → List Term
  | 0, _ => []
  | n + 1, [] => .result :: s_ini n []
  | 1, v :: _ => [if Nat.beq (s_ty v) 2 then .result else v]
  | n + 2, v :: vs => if Nat.beq (s_ty v) 2 then v :: .result :: s_ini n vs else v :: s_ini (n + 1) vs
def s_hnd : List s_Hd → Nat → Nat → Option (Nat × Nat)
  | [], _, _ => none
  | (lo, hi, to, ex, slot) :: r, pc, E => if Nat.ble lo pc && Nat.blt pc hi && Nat.beq ex E then some (to, slot) else s_hnd r pc E
noncomputable def s_inA {β : Type} (i : Int32) (ts : List Term) (k : Nat → Option β) : Option β := if decide (i < 0) then none else s_fN i.toNatClampNeg k
noncomputable def s_pushN (c : s_C) : Nat → s_H → (s_H → s_R) → s_R
  | 0, h, k => k h
  | n + 1, h, k => s_push h c (fun h' => s_pushN c n h' k)
def s_bool (t : Term) : Bool := match t with
  | .int x => decide (x = 0) || decide (x = 1)
  | _ => false
/-- may v be stored in a field of this kind: 1 an int, 2 a long, 3 a reference, 4 a boolean -/
def s_okF (c : Nat) (v : Term) : Bool := match c with
  | 4 => s_bool v
  | _ => Nat.beq (s_ty v) c && Nat.blt 0 c
/-- may v stand in an array with this tag: 0 int, 1 long, 2 and 3 of objects, 5 boolean -/
noncomputable def s_okA (h : s_H) (comp : Nat → Nat) (tag : Nat) (v : Term) : Bool := match tag with
  | 0 => Nat.beq (s_ty v) 1
  | 1 => Nat.beq (s_ty v) 2
  | 5 => s_bool v
  | 4 => false
  | tag => match v with
    | .null => true
    | .index q => match s_get h q with
      | some (1, t, _) => Nat.beq t (comp tag)
      | _ => false
    | _ => false
noncomputable def s_ob (h : s_H) (ci : Nat) (t : Term) : Bool := match t with
  | .index q => match s_get h q with
    | some (1, t, _) => Nat.beq t ci
    | _ => false
  | _ => false
def s_isR (t : Term) : Bool := match t with
  | .index _ => true
  | _ => false
def s_hd1 (l : List Term) : Term := match l with
  | [] => .null
  | t :: _ => t
noncomputable def s_astK (h : s_H) (comp : Nat → Nat) (lo hi : Nat) (st : List Term) (k : List Term → s_H → s_R) : s_R := match st with
  | v :: .int i :: .index q :: r => match s_get h q with
    | some (0, t, ts) => if Nat.ble lo t && Nat.ble t hi && Nat.blt 0 q && s_okA h comp t v then s_inA i ts (fun j => s_setK v ts j (fun ts' => s_put h q (0, t, ts') (fun h' => k r h'))) else none
    | _ => none
  | _ => none
noncomputable def s_aldK (h : s_H) (lo hi : Nat) (st : List Term) (k : List Term → s_R) : s_R := match st with
  | .int i :: .index q :: r => match s_get h q with
    | some (kd, t, ts) => if (Nat.beq kd 0 || Nat.beq kd 2) && Nat.ble lo t && Nat.ble t hi then s_inA i ts (fun j => match s_nth ts j with
      | some v => k (v :: r)
      | none => none) else none
    | none => none
  | _ => none
/-- what stands beside the code: 'df': a new object's fields; 'comp': which class an array's objects have; 'call': a method called -/
abbrev s_Hn : Type := s_F → (Nat → List Term) → (Nat → Nat) → (Nat → List Term → s_H → Option s_O) → List s_Hd → Nat → s_I → List Term → List Term → s_H → Nat → Nat → s_R
noncomputable def s_x_aconst_null : s_Hn := fun F df comp call hd pc e ls st h kc ks => match e with
  | (_, i, nx, a, b, c) => some (.inl (nx, ls, .null :: st, h, kc, ks))
noncomputable def s_x_iconst : s_Hn := fun F df comp call hd pc e ls st h kc ks => match e with
  | (_, i, nx, a, b, c) => some (.inl (nx, ls, .int (Int32.ofNat a) :: st, h, kc, ks))
noncomputable def s_x_bipush : s_Hn := fun F df comp call hd pc e ls st h kc ks => match e with
  | (_, i, nx, a, b, c) => some (.inl (nx, ls, .int (Int32.ofNat a) :: st, h, kc, ks))
noncomputable def s_x_sipush : s_Hn := fun F df comp call hd pc e ls st h kc ks => match e with
  | (_, i, nx, a, b, c) => some (.inl (nx, ls, .int (Int32.ofNat a) :: st, h, kc, ks))
noncomputable def s_x_lconst : s_Hn := fun F df comp call hd pc e ls st h kc ks => match e with
  | (_, i, nx, a, b, c) => some (.inl (nx, ls, .long (Int64.ofNat a) :: st, h, kc, ks))
noncomputable def s_x_ldc2_w : s_Hn := fun F df comp call hd pc e ls st h kc ks => match e with
  | (_, i, nx, a, b, c) => some (.inl (nx, ls, .long (Int64.ofNat a) :: st, h, kc, ks))
noncomputable def s_x_ldc_w : s_Hn := fun F df comp call hd pc e ls st h kc ks => match e with
  | (_, i, nx, a, b, c) => some (.inl (nx, ls, .int (Int32.ofNat a) :: st, h, kc, ks))
noncomputable def s_x_ldc : s_Hn := fun F df comp call hd pc e ls st h kc ks => match e with
  | (_, i, nx, a, b, c) => some (.inl (nx, ls, .int (Int32.ofNat a) :: st, h, kc, ks))
noncomputable def s_x_iload : s_Hn := fun F df comp call hd pc e ls st h kc ks => match e with
  | (_, i, nx, a, b, c) => s_ld 1 ls a (fun v => some (.inl (nx, ls, v :: st, h, kc, ks)))
noncomputable def s_x_iload_n : s_Hn := fun F df comp call hd pc e ls st h kc ks => match e with
  | (_, i, nx, a, b, c) => s_ld 1 ls a (fun v => some (.inl (nx, ls, v :: st, h, kc, ks)))
noncomputable def s_x_lload : s_Hn := fun F df comp call hd pc e ls st h kc ks => match e with
  | (_, i, nx, a, b, c) => s_ld 2 ls a (fun v => some (.inl (nx, ls, v :: st, h, kc, ks)))
noncomputable def s_x_lload_n : s_Hn := fun F df comp call hd pc e ls st h kc ks => match e with
  | (_, i, nx, a, b, c) => s_ld 2 ls a (fun v => some (.inl (nx, ls, v :: st, h, kc, ks)))
noncomputable def s_x_aload : s_Hn := fun F df comp call hd pc e ls st h kc ks => match e with
  | (_, i, nx, a, b, c) => s_ld 3 ls a (fun v => some (.inl (nx, ls, v :: st, h, kc, ks)))
noncomputable def s_x_aload_n : s_Hn := fun F df comp call hd pc e ls st h kc ks => match e with
  | (_, i, nx, a, b, c) => s_ld 3 ls a (fun v => some (.inl (nx, ls, v :: st, h, kc, ks)))
noncomputable def s_x_istore : s_Hn := fun F df comp call hd pc e ls st h kc ks => match e with
  | (_, i, nx, a, b, c) => s_st 1 ls a st (fun l r => some (.inl (nx, l, r, h, kc, ks)))
noncomputable def s_x_istore_n : s_Hn := fun F df comp call hd pc e ls st h kc ks => match e with
  | (_, i, nx, a, b, c) => s_st 1 ls a st (fun l r => some (.inl (nx, l, r, h, kc, ks)))
noncomputable def s_x_lstore : s_Hn := fun F df comp call hd pc e ls st h kc ks => match e with
  | (_, i, nx, a, b, c) => s_st 2 ls a st (fun l r => some (.inl (nx, l, r, h, kc, ks)))
noncomputable def s_x_lstore_n : s_Hn := fun F df comp call hd pc e ls st h kc ks => match e with
  | (_, i, nx, a, b, c) => s_st 2 ls a st (fun l r => some (.inl (nx, l, r, h, kc, ks)))
noncomputable def s_x_astore : s_Hn := fun F df comp call hd pc e ls st h kc ks => match e with
  | (_, i, nx, a, b, c) => s_st 3 ls a st (fun l r => some (.inl (nx, l, r, h, kc, ks)))
noncomputable def s_x_astore_n : s_Hn := fun F df comp call hd pc e ls st h kc ks => match e with
  | (_, i, nx, a, b, c) => s_st 3 ls a st (fun l r => some (.inl (nx, l, r, h, kc, ks)))
noncomputable def s_x_iinc : s_Hn := fun F df comp call hd pc e ls st h kc ks => match e with
  | (_, i, nx, a, b, c) => s_ld 1 ls a (fun v => s_i2 (fun x y => x + y) .add [.int (Int32.ofNat b), v] (fun r => s_stK (s_hd1 r) ls a (fun l => some (.inl (nx, l, st, h, kc, ks)))))
noncomputable def s_x_iadd : s_Hn := fun F df comp call hd pc e ls st h kc ks => match e with
  | (_, i, nx, a, b, c) => s_i2 (fun x y => x + y) .add st (fun r => some (.inl (nx, ls, r, h, kc, ks)))
noncomputable def s_x_isub : s_Hn := fun F df comp call hd pc e ls st h kc ks => match e with
  | (_, i, nx, a, b, c) => s_i2 (fun x y => x - y) .sub st (fun r => some (.inl (nx, ls, r, h, kc, ks)))
noncomputable def s_x_imul : s_Hn := fun F df comp call hd pc e ls st h kc ks => match e with
  | (_, i, nx, a, b, c) => s_i2 (fun x y => x * y) .mul st (fun r => some (.inl (nx, ls, r, h, kc, ks)))
noncomputable def s_x_idiv : s_Hn := fun F df comp call hd pc e ls st h kc ks => match e with
  | (_, i, nx, a, b, c) => s_d2 (fun x y => x / y) .div st (fun r => some (.inl (nx, ls, r, h, kc, ks)))
noncomputable def s_x_irem : s_Hn := fun F df comp call hd pc e ls st h kc ks => match e with
  | (_, i, nx, a, b, c) => s_d2 (fun x y => x - x / y * y) .rem st (fun r => some (.inl (nx, ls, r, h, kc, ks)))
noncomputable def s_x_iand : s_Hn := fun F df comp call hd pc e ls st h kc ks => match e with
  | (_, i, nx, a, b, c) => s_i2 (fun x y => x &&& y) (.op2 .iand) st (fun r => some (.inl (nx, ls, r, h, kc, ks)))
noncomputable def s_x_ior : s_Hn := fun F df comp call hd pc e ls st h kc ks => match e with
  | (_, i, nx, a, b, c) => s_i2 (fun x y => x ||| y) (.op2 .ior) st (fun r => some (.inl (nx, ls, r, h, kc, ks)))
noncomputable def s_x_ixor : s_Hn := fun F df comp call hd pc e ls st h kc ks => match e with
  | (_, i, nx, a, b, c) => s_i2 (fun x y => x ^^^ y) (.op2 .ixor) st (fun r => some (.inl (nx, ls, r, h, kc, ks)))
noncomputable def s_x_ishl : s_Hn := fun F df comp call hd pc e ls st h kc ks => match e with
  | (_, i, nx, a, b, c) => s_i2 (fun x y => x <<< (y &&& 31)) (.op2 .ishl) st (fun r => some (.inl (nx, ls, r, h, kc, ks)))
noncomputable def s_x_ishr : s_Hn := fun F df comp call hd pc e ls st h kc ks => match e with
  | (_, i, nx, a, b, c) => s_i2 (fun x y => x >>> (y &&& 31)) (.op2 .ishr) st (fun r => some (.inl (nx, ls, r, h, kc, ks)))
noncomputable def s_x_ladd : s_Hn := fun F df comp call hd pc e ls st h kc ks => match e with
  | (_, i, nx, a, b, c) => s_l2 (fun x y => x + y) (.op2 .ladd) st (fun r => some (.inl (nx, ls, r, h, kc, ks)))
noncomputable def s_x_lsub : s_Hn := fun F df comp call hd pc e ls st h kc ks => match e with
  | (_, i, nx, a, b, c) => s_l2 (fun x y => x - y) (.op2 .lsub) st (fun r => some (.inl (nx, ls, r, h, kc, ks)))
noncomputable def s_x_lmul : s_Hn := fun F df comp call hd pc e ls st h kc ks => match e with
  | (_, i, nx, a, b, c) => s_l2 (fun x y => x * y) (.op2 .lmul) st (fun r => some (.inl (nx, ls, r, h, kc, ks)))
noncomputable def s_x_lrem : s_Hn := fun F df comp call hd pc e ls st h kc ks => match e with
  | (_, i, nx, a, b, c) => s_dl (fun x y => x - x / y * y) (.op2 .lrem) st (fun r => some (.inl (nx, ls, r, h, kc, ks)))
noncomputable def s_x_ldiv : s_Hn := fun F df comp call hd pc e ls st h kc ks => match e with
  | (_, i, nx, a, b, c) => s_dl (fun x y => x / y) (.op2 .ldiv) st (fun r => some (.inl (nx, ls, r, h, kc, ks)))
noncomputable def s_x_land : s_Hn := fun F df comp call hd pc e ls st h kc ks => match e with
  | (_, i, nx, a, b, c) => s_l2 (fun x y => x &&& y) (.op2 .land) st (fun r => some (.inl (nx, ls, r, h, kc, ks)))
noncomputable def s_x_lor : s_Hn := fun F df comp call hd pc e ls st h kc ks => match e with
  | (_, i, nx, a, b, c) => s_l2 (fun x y => x ||| y) (.op2 .lor) st (fun r => some (.inl (nx, ls, r, h, kc, ks)))
noncomputable def s_x_lxor : s_Hn := fun F df comp call hd pc e ls st h kc ks => match e with
  | (_, i, nx, a, b, c) => s_l2 (fun x y => x ^^^ y) (.op2 .lxor) st (fun r => some (.inl (nx, ls, r, h, kc, ks)))
noncomputable def s_x_lshl : s_Hn := fun F df comp call hd pc e ls st h kc ks => match e with
  | (_, i, nx, a, b, c) => s_sh (fun x y => x <<< (y.toInt64 &&& 63)) (.op2 .lshl) st (fun r => some (.inl (nx, ls, r, h, kc, ks)))
noncomputable def s_x_lshr : s_Hn := fun F df comp call hd pc e ls st h kc ks => match e with
  | (_, i, nx, a, b, c) => s_sh (fun x y => x >>> (y.toInt64 &&& 63)) (.op2 .lshr) st (fun r => some (.inl (nx, ls, r, h, kc, ks)))
noncomputable def s_x_lushr : s_Hn := fun F df comp call hd pc e ls st h kc ks => match e with
  | (_, i, nx, a, b, c) => s_sh (fun x y => (x.toUInt64 >>> (y.toInt64.toUInt64 &&& Int64.toUInt64 63)).toInt64) (.op2 .lushr) st (fun r => some (.inl (nx, ls, r, h, kc, ks)))
noncomputable def s_x_lcmp : s_Hn := fun F df comp call hd pc e ls st h kc ks => match e with
  | (_, i, nx, a, b, c) => s_lc st (fun r => some (.inl (nx, ls, r, h, kc, ks)))
noncomputable def s_x_ineg : s_Hn := fun F df comp call hd pc e ls st h kc ks => match e with
  | (_, i, nx, a, b, c) => s_u st 0 (fun r => some (.inl (nx, ls, r, h, kc, ks)))
noncomputable def s_x_lneg : s_Hn := fun F df comp call hd pc e ls st h kc ks => match e with
  | (_, i, nx, a, b, c) => s_u st 1 (fun r => some (.inl (nx, ls, r, h, kc, ks)))
noncomputable def s_x_i2l : s_Hn := fun F df comp call hd pc e ls st h kc ks => match e with
  | (_, i, nx, a, b, c) => s_u st 2 (fun r => some (.inl (nx, ls, r, h, kc, ks)))
noncomputable def s_x_l2i : s_Hn := fun F df comp call hd pc e ls st h kc ks => match e with
  | (_, i, nx, a, b, c) => s_u st 3 (fun r => some (.inl (nx, ls, r, h, kc, ks)))
noncomputable def s_x_dup : s_Hn := fun F df comp call hd pc e ls st h kc ks => match e with
  | (_, i, nx, a, b, c) => match st with
      | v :: r => if Nat.beq (s_ty v) 1 || Nat.beq (s_ty v) 3 then some (.inl (nx, ls, v :: v :: r, h, kc, ks)) else none
      | [] => none
noncomputable def s_x_pop : s_Hn := fun F df comp call hd pc e ls st h kc ks => match e with
  | (_, i, nx, a, b, c) => match st with
      | v :: r => if Nat.beq (s_ty v) 1 || Nat.beq (s_ty v) 3 then some (.inl (nx, ls, r, h, kc, ks)) else none
      | [] => none
noncomputable def s_x_dup2 : s_Hn := fun F df comp call hd pc e ls st h kc ks => match e with
  | (_, i, nx, a, b, c) => match st with
      | v :: w :: r => if (Nat.beq (s_ty v) 1 || Nat.beq (s_ty v) 3) && (Nat.beq (s_ty w) 1 || Nat.beq (s_ty w) 3) then some (.inl (nx, ls, v :: w :: v :: w :: r, h, kc, ks)) else none
      | _ => none
noncomputable def s_x_goto : s_Hn := fun F df comp call hd pc e ls st h kc ks => match e with
  | (_, i, nx, a, b, c) => some (.inl (nx, ls, st, h, kc, ks))
noncomputable def s_x_ifCond : s_Hn := fun F df comp call hd pc e ls st h kc ks => match e with
  | (_, i, nx, a, b, c) => match i with
    | .ifCond cc _ => match st with
      | x :: r => match s_con F cc x (.int 0) with
        | some true => some (.inl (a, ls, r, h, kc, ks))
        | some false => some (.inl (nx, ls, r, h, kc, ks))
        | none => none
      | [] => none
    | _ => none
noncomputable def s_x_if_icmp : s_Hn := fun F df comp call hd pc e ls st h kc ks => match e with
  | (_, i, nx, a, b, c) => match i with
    | .if_icmp cc _ => match st with
      | y :: x :: r => match s_con F cc x y with
        | some true => some (.inl (a, ls, r, h, kc, ks))
        | some false => some (.inl (nx, ls, r, h, kc, ks))
        | none => none
      | _ => none
    | _ => none
noncomputable def s_x_ifnull : s_Hn := fun F df comp call hd pc e ls st h kc ks => match e with
  | (_, i, nx, a, b, c) => match st with
      | .null :: r => some (.inl (a, ls, r, h, kc, ks))
      | .index _ :: r => some (.inl (nx, ls, r, h, kc, ks))
      | _ => none
noncomputable def s_x_ifnonnull : s_Hn := fun F df comp call hd pc e ls st h kc ks => match e with
  | (_, i, nx, a, b, c) => match st with
      | .null :: r => some (.inl (nx, ls, r, h, kc, ks))
      | .index _ :: r => some (.inl (a, ls, r, h, kc, ks))
      | _ => none
noncomputable def s_x_tableswitch : s_Hn := fun F df comp call hd pc e ls st h kc ks => match e with
  | (_, i, nx, a, b, c) => match i with
    | .tableswitch dflt lo hi offs => match st with
      | .int x :: r => if decide (x.toInt < lo) || decide (hi < x.toInt) then some (.inl (a, ls, r, h, kc, ks)) else match s_nth offs.toList (x.toInt - lo).toNat with
        | some off => if decide (0 ≤ (pc : Int) + off) then some (.inl (((pc : Int) + off).toNat, ls, r, h, kc, ks)) else none
        | none => none
      | _ => none
    | _ => none
noncomputable def s_x_getfield : s_Hn := fun F df comp call hd pc e ls st h kc ks => match e with
  | (_, i, nx, a, b, c) => match st with
      | .index q :: r => match s_get h q with
        | some (1, t, fs) => if Nat.beq t a then match s_nth fs b with
          | some v => some (.inl (nx, ls, v :: r, h, kc, ks))
          | none => none else none
        | _ => none
      | _ => none
noncomputable def s_x_putfield : s_Hn := fun F df comp call hd pc e ls st h kc ks => match e with
  | (_, i, nx, a, b, c) => match st with
      | v :: .index q :: r => match s_get h q with
        | some (1, t, fs) => if Nat.beq t a && Nat.blt 0 q && s_okF c v then s_setK v fs b (fun fs' => s_put h q (1, t, fs') (fun h' => some (.inl (nx, ls, r, h', kc, ks)))) else none
        | _ => none
      | _ => none
noncomputable def s_x_iaload : s_Hn := fun F df comp call hd pc e ls st h kc ks => match e with
  | (_, i, nx, a, b, c) => s_aldK h 0 0 st (fun r => some (.inl (nx, ls, r, h, kc, ks)))
noncomputable def s_x_laload : s_Hn := fun F df comp call hd pc e ls st h kc ks => match e with
  | (_, i, nx, a, b, c) => s_aldK h 1 1 st (fun r => some (.inl (nx, ls, r, h, kc, ks)))
noncomputable def s_x_baload : s_Hn := fun F df comp call hd pc e ls st h kc ks => match e with
  | (_, i, nx, a, b, c) => s_aldK h 5 5 st (fun r => some (.inl (nx, ls, r, h, kc, ks)))
noncomputable def s_x_aaload : s_Hn := fun F df comp call hd pc e ls st h kc ks => match e with
  | (_, i, nx, a, b, c) => s_aldK h 2 4 st (fun r => some (.inl (nx, ls, r, h, kc, ks)))
noncomputable def s_x_iastore : s_Hn := fun F df comp call hd pc e ls st h kc ks => match e with
  | (_, i, nx, a, b, c) => s_astK h comp 0 0 st (fun r h' => some (.inl (nx, ls, r, h', kc, ks)))
noncomputable def s_x_lastore : s_Hn := fun F df comp call hd pc e ls st h kc ks => match e with
  | (_, i, nx, a, b, c) => s_astK h comp 1 1 st (fun r h' => some (.inl (nx, ls, r, h', kc, ks)))
noncomputable def s_x_bastore : s_Hn := fun F df comp call hd pc e ls st h kc ks => match e with
  | (_, i, nx, a, b, c) => s_astK h comp 5 5 st (fun r h' => some (.inl (nx, ls, r, h', kc, ks)))
noncomputable def s_x_aastore : s_Hn := fun F df comp call hd pc e ls st h kc ks => match e with
  | (_, i, nx, a, b, c) => s_astK h comp 2 3 st (fun r h' => some (.inl (nx, ls, r, h', kc, ks)))
noncomputable def s_x_arraylength : s_Hn := fun F df comp call hd pc e ls st h kc ks => match e with
  | (_, i, nx, a, b, c) => match st with
      | .index q :: r => match s_get h q with
        | some (kd, _, ts) => if Nat.beq kd 0 || Nat.beq kd 2 then s_fI (Int32.ofNat ts.length) (fun v => some (.inl (nx, ls, v :: r, h, kc, ks))) else none
        | none => none
      | _ => none
noncomputable def s_x_newarray : s_Hn := fun F df comp call hd pc e ls st h kc ks => match e with
  | (_, i, nx, a, b, c) => match st with
      | .int n :: r => s_inA n [] (fun N => if Nat.ble N 60000000 then s_push h (0, a, List.replicate N (if Nat.beq a 1 then .long 0 else .int 0)) (fun h' => s_fN (ks + N) (fun ks' => s_fN (kc + 1) (fun kc' => some (.inl (nx, ls, .index h.1 :: r, h', kc', ks'))))) else none)
      | _ => none
noncomputable def s_x_anewarray : s_Hn := fun F df comp call hd pc e ls st h kc ks => match e with
  | (_, i, nx, a, b, c) => match st with
      | .int n :: r => s_inA n [] (fun N => if Nat.ble N 60000000 then s_push h (0, a, List.replicate N .null) (fun h' => s_fN (ks + N) (fun ks' => s_fN (kc + 1) (fun kc' => some (.inl (nx, ls, .index h.1 :: r, h', kc', ks'))))) else none)
      | _ => none
noncomputable def s_x_multianewarray : s_Hn := fun F df comp call hd pc e ls st h kc ks => match e with
  | (_, i, nx, a, b, c) => match st with
      | .int k :: .int n :: r => s_inA n [] (fun N => s_inA k [] (fun K => if Nat.ble N 60000000 && Nat.ble K 60000000 then s_push h (0, 4, (List.range N).map (fun j => .index (h.1 + 1 + j))) (fun h1 => s_pushN (0, 0, List.replicate K (.int 0)) N h1 (fun h2 => s_fN (ks + N + N * K) (fun ks' => s_fN (kc + 1 + N) (fun kc' => some (.inl (nx, ls, .index h.1 :: r, h2, kc', ks')))))) else none))
      | _ => none
noncomputable def s_x_new : s_Hn := fun F df comp call hd pc e ls st h kc ks => match e with
  | (_, i, nx, a, b, c) => if Nat.beq c 1 then (if Nat.ble (s_wt st) 8 then some (.inr (.inr a, h, kc + 1, ks + 6)) else none)
        else s_push h (1, a, df a) (fun h' => s_fN (ks + b) (fun ks' => s_fN (kc + 1) (fun kc' => some (.inl (nx, ls, .index h.1 :: st, h', kc', ks')))))
noncomputable def s_x_invokespecial : s_Hn := fun F df comp call hd pc e ls st h kc ks => match e with
  | (_, i, nx, a, b, c) => if Nat.beq c 9 then (match st with
        | .index _ :: r => if Nat.ble (s_wt r) 8 then some (.inl (nx, ls, r, h, kc, ks)) else none
        | _ => none) else s_take b st [] (fun as r => if Nat.ble (s_wt r) 8 && s_isR (s_hd1 as) then (match call a as h with
        | some (.inl none, h', k, n) => s_fN (kc + k) (fun kc' => s_fN (ks + n) (fun ks' => some (.inl (nx, ls, r, h', kc', ks'))))
        | _ => none) else none)
noncomputable def s_x_invokestatic : s_Hn := fun F df comp call hd pc e ls st h kc ks => match e with
  | (_, i, nx, a, b, c) => s_take b st [] (fun as r => if Nat.ble (s_wt r) 8 then (match call a as h with
        | some (.inl v, h', k, n) => s_fN (kc + k) (fun kc' => s_fN (ks + n) (fun ks' => some (.inl (nx, ls, v.toList ++ r, h', kc', ks'))))
        | some (.inr E, h', k, n) => match s_hnd hd pc E with
          | none => match hd with
            | [] => some (.inr (.inr E, h', kc + k, ks + n))
            | _ => none
          | some (to, slot) => s_stK .result ls slot (fun l => some (.inl (to, l, [], h', kc + k, ks + n)))
        | none => none) else none)
noncomputable def s_x_invokevirtual : s_Hn := fun F df comp call hd pc e ls st h kc ks => match e with
  | (_, i, nx, a, b, c) => s_take b st [] (fun as r => if Nat.ble (s_wt r) 8 && s_ob h c (s_hd1 as) then (match call a as h with
        | some (.inl v, h', k, n) => s_fN (kc + k) (fun kc' => s_fN (ks + n) (fun ks' => some (.inl (nx, ls, v.toList ++ r, h', kc', ks'))))
        | some (.inr E, h', k, n) => match s_hnd hd pc E with
          | none => match hd with
            | [] => some (.inr (.inr E, h', kc + k, ks + n))
            | _ => none
          | some (to, slot) => s_stK .result ls slot (fun l => some (.inl (to, l, [], h', kc + k, ks + n)))
        | none => none) else none)
noncomputable def s_x_return_ : s_Hn := fun F df comp call hd pc e ls st h kc ks => match e with
  | (_, i, nx, a, b, c) => match st with
      | [] => some (.inr (.inl none, h, kc, ks))
      | _ => none
noncomputable def s_x_ireturn : s_Hn := fun F df comp call hd pc e ls st h kc ks => match e with
  | (_, i, nx, a, b, c) => match st with
      | [v] => if (if Nat.beq a 1 then s_bool v else Nat.beq (s_ty v) 1) then some (.inr (.inl (some v), h, kc, ks)) else none
      | _ => none
noncomputable def s_x_lreturn : s_Hn := fun F df comp call hd pc e ls st h kc ks => match e with
  | (_, i, nx, a, b, c) => match st with
      | [v] => if Nat.beq (s_ty v) 2 then some (.inr (.inl (some v), h, kc, ks)) else none
      | _ => none
noncomputable def s_x_iushr : s_Hn := fun F df comp call hd pc e ls st h kc ks => match e with
  | (_, i, nx, a, b, c) => match st with
    | .int y :: .int x :: r => s_fI ((x.toUInt32 >>> (y.toUInt32 &&& Int32.toUInt32 31)).toInt32) (fun v => some (.inl (nx, ls, v :: r, h, kc, ks)))
    | _ => none
noncomputable def s_x_areturn : s_Hn := fun F df comp call hd pc e ls st h kc ks => match e with
  | (_, i, nx, a, b, c) => match st with
      | [v] => if Nat.beq (s_ty v) 3 then some (.inr (.inl (some v), h, kc, ks)) else none
      | _ => none
noncomputable def s_hn : List (List (Option s_Hn)) := [[some s_x_aconst_null, some s_x_iconst, some s_x_bipush, some s_x_sipush, some s_x_lconst, some s_x_ldc2_w, some s_x_iload, some s_x_iload_n],
  [some s_x_lload, some s_x_lload_n, some s_x_aload, some s_x_aload_n, some s_x_istore, some s_x_istore_n, some s_x_lstore, some s_x_lstore_n],
  [some s_x_astore, some s_x_astore_n, some s_x_iinc, some s_x_iadd, some s_x_isub, some s_x_imul, some s_x_idiv, some s_x_irem],
  [some s_x_iand, some s_x_ior, some s_x_ixor, some s_x_ishl, some s_x_ishr, some s_x_ladd, some s_x_lsub, some s_x_lmul],
  [some s_x_lrem, some s_x_ldiv, some s_x_land, some s_x_lor, some s_x_lxor, some s_x_lshl, some s_x_lshr, some s_x_lushr],
  [some s_x_lcmp, some s_x_ineg, some s_x_lneg, some s_x_i2l, some s_x_l2i, some s_x_dup, some s_x_pop, some s_x_dup2],
  [some s_x_goto, some s_x_ifCond, some s_x_if_icmp, some s_x_ifnull, some s_x_ifnonnull, some s_x_tableswitch, some s_x_getfield, some s_x_putfield],
  [some s_x_iaload, some s_x_laload, some s_x_baload, some s_x_aaload, some s_x_iastore, some s_x_lastore, some s_x_bastore, some s_x_aastore],
  [some s_x_arraylength, some s_x_newarray, some s_x_anewarray, some s_x_multianewarray, some s_x_new, some s_x_invokespecial, some s_x_invokestatic, some s_x_invokevirtual],
  [some s_x_return_, some s_x_ireturn, some s_x_lreturn, some s_x_areturn, some s_x_iushr, some s_x_ldc_w, some s_x_ldc]]
abbrev s_Cd : Type := List (List (Option s_I))
abbrev s_P : Type := List (List (Option (s_Cd × Nat × List s_Hd)))
noncomputable def s_at {α : Type} (w : Nat) (t : List (List (Option α))) (n : Nat) : Option α := match s_nth t (n / w) with
  | none => none
  | some r => match s_nth r (n % w) with
    | none => none
    | some x => x
noncomputable def s_exec : s_Hn := fun F df comp call hd pc e ls st h kc ks => match s_at 8 s_hn e.1 with
  | none => none
  | some f => f F df comp call hd pc e ls st h kc ks
noncomputable def s_run (F : s_F) (df : Nat → List Term) (comp : Nat → Nat) (call : Nat → List Term → s_H → Option s_O) (cd : s_Cd) (hd : List s_Hd) (n : Nat) : s_S → Option s_O := Nat.rec (motive := fun _ => s_S → Option s_O) (fun _ => none) (fun _ ih σ => match σ with
  | (pc, ls, st, h, kc, ks) => match s_at 32 cd pc with
    | none => none
    | some e => match s_exec F df comp call hd pc e ls st h kc ks with
      | none => none
      | some (.inl (pc', ls', st', h', kc', ks')) => match Nat.ble kc kc' && Nat.ble ks ks' with
        | true => ih (pc', ls', st', h', kc', ks')
        | false => none
      | some (.inr (o, h', kc', ks')) => match Nat.ble 68 e.1 && Nat.ble kc kc' && Nat.ble ks ks' with
        | true => some (o, h', kc', ks')
        | false => none) n
noncomputable def s_call (F : s_F) (df : Nat → List Term) (comp : Nat → Nat) (P : s_P) (fuel : Nat) (d : Nat) : Nat → List Term → s_H → Option s_O := Nat.rec (motive := fun _ => Nat → List Term → s_H → Option s_O) (fun _ _ _ => none) (fun _ ih y as h => match s_at 16 P y with
  | none => none
  | some (cd, nL, hd) => if Nat.ble (s_wt as) nL then s_run F df comp ih cd hd fuel (0, s_ini nL as, [], h, 0, 0) else none) d
