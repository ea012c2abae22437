/-! THE CHECK: what stands in a method's table is its code, and its links are among the tables' words -/
abbrev s_M : Type := MethodName × ByteArray × Nat × Option FieldType × List (Nat × Nat × Nat × Nat)
def s_cw (M : s_M) : Cond := match M.2.2.2.2 with
  | [] => .code M.1 M.2.1 M.2.2.1 M.2.2.2.1
  | hh => .codeWith M.1 M.2.1 M.2.2.1 M.2.2.2.1 hh
def s_np (d : String) : Option Nat := (parseMethodDescriptor d).map (fun q => q.parameters.length)
def s_fin (i : Nat) : Option (Fin 4) := match i with
  | 0 => some 0
  | 1 => some 1
  | 2 => some 2
  | 3 => some 3
  | _ => none
def s_isRf (t : FieldType) : Bool := match t with
  | .object _ => true
  | .array _ => true
  | _ => false
def s_fty (c : Nat) (t : FieldType) : Bool := match c with
  | 1 => decide (t = .int)
  | 2 => decide (t = .long)
  | 4 => decide (t = .boolean)
  | _ => s_isRf t
noncomputable def s_chkI (mi : Nat → Option s_M) (M : s_M) (Wm : List Cond) (pc : Nat) (e : s_I) : Bool := match e with
  | (o, i, nx, a, b, c) => match i with
    | .aconst_null => decide (o = 0 ∧ nx = pc + 1 ∧ decode M.2.1 pc = .ok (.aconst_null, 1))
    | .iconst n => decide (o = 1 ∧ nx = pc + 1 ∧ decode M.2.1 pc = .ok (.iconst n, 1) ∧ Int32.ofInt n = Int32.ofNat a)
    | .bipush n => decide (o = 2 ∧ nx = pc + 2 ∧ decode M.2.1 pc = .ok (.bipush n, 2) ∧ (Int8.ofInt n).toInt32 = Int32.ofNat a)
    | .sipush n => decide (o = 3 ∧ nx = pc + 3 ∧ decode M.2.1 pc = .ok (.sipush n, 3) ∧ (Int16.ofInt n).toInt32 = Int32.ofNat a)
    | .lconst n => decide (o = 4 ∧ nx = pc + 1 ∧ decode M.2.1 pc = .ok (.lconst n, 1) ∧ Int64.ofNat (n : Nat) = Int64.ofNat a)
    | .ldc2_w n => decide (o = 5 ∧ nx = pc + 3 ∧ decode M.2.1 pc = .ok (.ldc2_w n, 3) ∧ Cond.constantLong M.1.cls n (Int64.ofNat a) ∈ Wm)
    | .ldc_w n => decide (o = 77 ∧ nx = pc + 3 ∧ decode M.2.1 pc = .ok (.ldc_w n, 3) ∧ Cond.constant M.1.cls n (Int32.ofNat a) ∈ Wm)
    | .ldc n => decide (o = 78 ∧ nx = pc + 2 ∧ decode M.2.1 pc = .ok (.ldc n, 2) ∧ Cond.constant M.1.cls n (Int32.ofNat a) ∈ Wm)
    | .iload n => decide (o = 6 ∧ nx = pc + 2 ∧ decode M.2.1 pc = .ok (.iload n, 2) ∧ n = a)
    | .iload_n n => decide (o = 7 ∧ nx = pc + 1 ∧ decode M.2.1 pc = .ok (.iload_n n, 1) ∧ (n : Nat) = a)
    | .lload n => decide (o = 8 ∧ nx = pc + 2 ∧ decode M.2.1 pc = .ok (.lload n, 2) ∧ n = a)
    | .lload_n n => decide (o = 9 ∧ nx = pc + 1 ∧ decode M.2.1 pc = .ok (.lload_n n, 1) ∧ (n : Nat) = a)
    | .aload n => decide (o = 10 ∧ nx = pc + 2 ∧ decode M.2.1 pc = .ok (.aload n, 2) ∧ n = a)
    | .aload_n n => decide (o = 11 ∧ nx = pc + 1 ∧ decode M.2.1 pc = .ok (.aload_n n, 1) ∧ (n : Nat) = a)
    | .istore n => decide (o = 12 ∧ nx = pc + 2 ∧ decode M.2.1 pc = .ok (.istore n, 2) ∧ n = a)
    | .istore_n n => decide (o = 13 ∧ nx = pc + 1 ∧ decode M.2.1 pc = .ok (.istore_n n, 1) ∧ (n : Nat) = a)
    | .lstore n => decide (o = 14 ∧ nx = pc + 2 ∧ decode M.2.1 pc = .ok (.lstore n, 2) ∧ n = a)
    | .lstore_n n => decide (o = 15 ∧ nx = pc + 1 ∧ decode M.2.1 pc = .ok (.lstore_n n, 1) ∧ (n : Nat) = a)
    | .astore n => decide (o = 16 ∧ nx = pc + 2 ∧ decode M.2.1 pc = .ok (.astore n, 2) ∧ n = a)
    | .astore_n n => decide (o = 17 ∧ nx = pc + 1 ∧ decode M.2.1 pc = .ok (.astore_n n, 1) ∧ (n : Nat) = a)
    | .iinc n k => decide (o = 18 ∧ nx = pc + 3 ∧ decode M.2.1 pc = .ok (.iinc n k, 3) ∧ n = a ∧ Int32.ofInt k = Int32.ofNat b)
    | .iadd => decide (o = 19 ∧ nx = pc + 1 ∧ decode M.2.1 pc = .ok (.iadd, 1))
    | .isub => decide (o = 20 ∧ nx = pc + 1 ∧ decode M.2.1 pc = .ok (.isub, 1))
    | .imul => decide (o = 21 ∧ nx = pc + 1 ∧ decode M.2.1 pc = .ok (.imul, 1))
    | .iand => decide (o = 24 ∧ nx = pc + 1 ∧ decode M.2.1 pc = .ok (.iand, 1))
    | .ior => decide (o = 25 ∧ nx = pc + 1 ∧ decode M.2.1 pc = .ok (.ior, 1))
    | .ixor => decide (o = 26 ∧ nx = pc + 1 ∧ decode M.2.1 pc = .ok (.ixor, 1))
    | .ishl => decide (o = 27 ∧ nx = pc + 1 ∧ decode M.2.1 pc = .ok (.ishl, 1))
    | .ishr => decide (o = 28 ∧ nx = pc + 1 ∧ decode M.2.1 pc = .ok (.ishr, 1))
    | .idiv => decide (o = 22 ∧ nx = pc + 1 ∧ decode M.2.1 pc = .ok (.idiv, 1))
    | .irem => decide (o = 23 ∧ nx = pc + 1 ∧ decode M.2.1 pc = .ok (.irem, 1))
    | .ladd => decide (o = 29 ∧ nx = pc + 1 ∧ decode M.2.1 pc = .ok (.ladd, 1))
    | .lsub => decide (o = 30 ∧ nx = pc + 1 ∧ decode M.2.1 pc = .ok (.lsub, 1))
    | .lmul => decide (o = 31 ∧ nx = pc + 1 ∧ decode M.2.1 pc = .ok (.lmul, 1))
    | .land => decide (o = 34 ∧ nx = pc + 1 ∧ decode M.2.1 pc = .ok (.land, 1))
    | .lor => decide (o = 35 ∧ nx = pc + 1 ∧ decode M.2.1 pc = .ok (.lor, 1))
    | .lxor => decide (o = 36 ∧ nx = pc + 1 ∧ decode M.2.1 pc = .ok (.lxor, 1))
    | .lrem => decide (o = 32 ∧ nx = pc + 1 ∧ decode M.2.1 pc = .ok (.lrem, 1))
    | .ldiv => decide (o = 33 ∧ nx = pc + 1 ∧ decode M.2.1 pc = .ok (.ldiv, 1))
    | .lshl => decide (o = 37 ∧ nx = pc + 1 ∧ decode M.2.1 pc = .ok (.lshl, 1))
    | .lshr => decide (o = 38 ∧ nx = pc + 1 ∧ decode M.2.1 pc = .ok (.lshr, 1))
    | .lushr => decide (o = 39 ∧ nx = pc + 1 ∧ decode M.2.1 pc = .ok (.lushr, 1))
    | .lcmp => decide (o = 40 ∧ nx = pc + 1 ∧ decode M.2.1 pc = .ok (.lcmp, 1))
    | .ineg => decide (o = 41 ∧ nx = pc + 1 ∧ decode M.2.1 pc = .ok (.ineg, 1))
    | .lneg => decide (o = 42 ∧ nx = pc + 1 ∧ decode M.2.1 pc = .ok (.lneg, 1))
    | .i2l => decide (o = 43 ∧ nx = pc + 1 ∧ decode M.2.1 pc = .ok (.i2l, 1))
    | .l2i => decide (o = 44 ∧ nx = pc + 1 ∧ decode M.2.1 pc = .ok (.l2i, 1))
    | .dup => decide (o = 45 ∧ nx = pc + 1 ∧ decode M.2.1 pc = .ok (.dup, 1))
    | .pop => decide (o = 46 ∧ nx = pc + 1 ∧ decode M.2.1 pc = .ok (.pop, 1))
    | .dup2 => decide (o = 47 ∧ nx = pc + 1 ∧ decode M.2.1 pc = .ok (.dup2, 1))
    | .iushr => decide (o = 76 ∧ nx = pc + 1 ∧ decode M.2.1 pc = .ok (.iushr, 1))
    | .goto n => decide (o = 48 ∧ decode M.2.1 pc = .ok (.goto n, 3) ∧ (pc : Int) + n = (nx : Int))
    | .ifCond q n => decide (o = 49 ∧ nx = pc + 3 ∧ decode M.2.1 pc = .ok (.ifCond q n, 3) ∧ (pc : Int) + n = (a : Int))
    | .if_icmp q n => decide (o = 50 ∧ nx = pc + 3 ∧ decode M.2.1 pc = .ok (.if_icmp q n, 3) ∧ (pc : Int) + n = (a : Int))
    | .ifnull n => decide (o = 51 ∧ nx = pc + 3 ∧ decode M.2.1 pc = .ok (.ifnull n, 3) ∧ (pc : Int) + n = (a : Int))
    | .ifnonnull n => decide (o = 52 ∧ nx = pc + 3 ∧ decode M.2.1 pc = .ok (.ifnonnull n, 3) ∧ (pc : Int) + n = (a : Int))
    | .tableswitch d lo hi offs => decide (o = 53 ∧ decode M.2.1 pc = .ok (.tableswitch d lo hi offs, nx - pc) ∧ (pc : Int) + d = (a : Int))
    | .getfield n => match s_cl[a]? with
      | none => false
      | some r => decide (o = 54 ∧ nx = pc + 3 ∧ decode M.2.1 pc = .ok (.getfield n, 3) ∧ b < r.2.2 ∧ Cond.fieldLink M.1.cls n r.1 (r.2.1 b).2.1 (r.2.1 b).2.2.1 ∈ Wm)
    | .putfield n => match s_cl[a]? with
      | none => false
      | some r => decide (o = 55 ∧ nx = pc + 3 ∧ decode M.2.1 pc = .ok (.putfield n, 3) ∧ b < r.2.2 ∧ Cond.fieldLink M.1.cls n r.1 (r.2.1 b).2.1 (r.2.1 b).2.2.1 ∈ Wm ∧ s_fty c (s_ft a b) = true ∧ ((r.2.1 b).2.2.2 = false ∨ (M.1.name = "<init>" ∧ r.1 = M.1.cls)))
    | .iaload => decide (o = 56 ∧ nx = pc + 1 ∧ decode M.2.1 pc = .ok (.iaload, 1))
    | .laload => decide (o = 57 ∧ nx = pc + 1 ∧ decode M.2.1 pc = .ok (.laload, 1))
    | .baload => decide (o = 58 ∧ nx = pc + 1 ∧ decode M.2.1 pc = .ok (.baload, 1))
    | .aaload => decide (o = 59 ∧ nx = pc + 1 ∧ decode M.2.1 pc = .ok (.aaload, 1))
    | .iastore => decide (o = 60 ∧ nx = pc + 1 ∧ decode M.2.1 pc = .ok (.iastore, 1))
    | .lastore => decide (o = 61 ∧ nx = pc + 1 ∧ decode M.2.1 pc = .ok (.lastore, 1))
    | .bastore => decide (o = 62 ∧ nx = pc + 1 ∧ decode M.2.1 pc = .ok (.bastore, 1))
    | .aastore => decide (o = 63 ∧ nx = pc + 1 ∧ decode M.2.1 pc = .ok (.aastore, 1))
    | .arraylength => decide (o = 64 ∧ nx = pc + 1 ∧ decode M.2.1 pc = .ok (.arraylength, 1))
    | .newarray t => decide (o = 65 ∧ nx = pc + 2 ∧ decode M.2.1 pc = .ok (.newarray t, 2) ∧ newarray.typeOf t = s_aty a ∧ (a = 0 ∨ a = 1 ∨ a = 5) ∧ Cond.arrayClass (newarray.typeOf t) ∈ Wm)
    | .anewarray n => match s_aty a with
      | .object C => decide (o = 66 ∧ nx = pc + 3 ∧ decode M.2.1 pc = .ok (.anewarray n, 3) ∧ Cond.classLink M.1.cls n C ∈ Wm ∧ Cond.arrayOver (.object C) ∈ Wm)
      | _ => false
    | .multianewarray n 2 => decide (o = 67 ∧ nx = pc + 4 ∧ decode M.2.1 pc = .ok (.multianewarray n 2, 4) ∧ Cond.classLink M.1.cls n ("[" ++ (FieldType.array .int).toString) ∈ Wm ∧ Cond.arrayOver (.array .int) ∈ Wm ∧ Cond.arrayClass .int ∈ Wm)
    | .new n => match c with
      | 1 => decide (o = 68 ∧ a < 4 ∧ M.2.2.2.2 = [] ∧ decode M.2.1 pc = .ok (.new n, 3) ∧ decode M.2.1 (pc + 3) = .ok (.dup, 1) ∧ decode M.2.1 (pc + 4) = .ok (.invokespecial b, 3) ∧ decode M.2.1 (pc + 7) = .ok (.athrow, 1) ∧ Bundle.fit (s_exn a) = true ∧ Cond.classLink M.1.cls n (s_exn a) ∈ Wm ∧ Cond.methodLink M.1.cls b (Bundle.init0 (s_exn a)) ∈ Wm)
      | 0 => match s_cl[a]? with
        | none => false
        | some r => decide (o = 68 ∧ nx = pc + 3 ∧ decode M.2.1 pc = .ok (.new n, 3) ∧ b = r.2.2 ∧ Cond.classLink M.1.cls n r.1 ∈ Wm ∧ Cond.initialized r.1 ∈ Wm)
      | _ => false
    | .invokespecial n => match c with
      | 9 => decide (o = 69 ∧ nx = pc + 3 ∧ decode M.2.1 pc = .ok (.invokespecial n, 3) ∧ Cond.methodLink M.1.cls n objectInit ∈ Wm ∧ Cond.instanceMethod objectInit ∈ Wm ∧ Cond.code objectInit ⟨#[0xb1]⟩ 1 none ∈ Wm)
      | 0 => match mi a with
        | none => false
        | some N => decide (o = 69 ∧ nx = pc + 3 ∧ decode M.2.1 pc = .ok (.invokespecial n, 3) ∧ N.1.name = "<init>" ∧ N.2.2.2.1 = none ∧ N.2.2.2.2 = [] ∧ s_np N.1.desc = some (b - 1) ∧ 0 < b ∧ Cond.instanceMethod N.1 ∈ Wm ∧ (Cond.methodLink M.1.cls n N.1 ∈ Wm ∨ Cond.methodLinkNest M.1.cls n N.1 "FormulaWorks" ∈ Wm))
      | _ => false
    | .invokestatic n => match mi a with
      | none => false
      | some N => decide (o = 70 ∧ nx = pc + 3 ∧ decode M.2.1 pc = .ok (.invokestatic n, 3) ∧ s_np N.1.desc = some b ∧ Cond.methodLink M.1.cls n N.1 ∈ Wm ∧ Cond.static N.1 ∈ Wm)
    | .invokevirtual n => match mi a with
      | none => false
      | some N => match s_cl[c]? with
        | none => false
        | some r => decide (o = 71 ∧ nx = pc + 3 ∧ decode M.2.1 pc = .ok (.invokevirtual n, 3) ∧ s_np N.1.desc = some (b - 1) ∧ 0 < b ∧ Cond.methodLink M.1.cls n N.1 ∈ Wm ∧ Cond.instanceMethod N.1 ∈ Wm ∧ Cond.selects r.1 N.1 N.1 ∈ Wm ∧ N.2.2.2.2 = [])
    | .return_ => decide (o = 72 ∧ decode M.2.1 pc = .ok (.return_, 1) ∧ M.2.2.2.1 = none)
    | .ireturn => decide (o = 73 ∧ decode M.2.1 pc = .ok (.ireturn, 1) ∧ ((a = 0 ∧ M.2.2.2.1 = some .int) ∨ (a = 1 ∧ M.2.2.2.1 = some .boolean)))
    | .lreturn => decide (o = 74 ∧ decode M.2.1 pc = .ok (.lreturn, 1) ∧ M.2.2.2.1 = some .long)
    | .areturn => decide (o = 75 ∧ decode M.2.1 pc = .ok (.areturn, 1)) && (match M.2.2.2.1 with
      | some t => s_isRf t
      | none => false)
    | _ => false
/-! THE PICTURE: how the machine's state stands for the JVM's -/
def s_LR (ρ : Nat → Int32) (ad : List Nat) (nL : Nat) (L : List Term) (ls : Array Slot) : Prop := ls.size = nL ∧ lv_wf ls ∧ L.length ≤ nL ∧ ∀ (i : Nat) (t : Term), L[i]? = some t → t = .result ∨ ∃ v, s_den ρ ad t = some v ∧ ls[i]? = some (.val v)
def s_OA (dC : Nat → ClassId) (dI : Nat → Nat → Nat) (ρ : Nat → Int32) (ad : List Nat) (H : Heap) (ci : Nat) (fs : List Term) (a : Nat) : Prop := ∃ r : vw_C, s_cl[ci]? = some r ∧ fs.length = r.2.2 ∧ ∃ cell : Cell, H[a]? = some cell ∧ cell.cls = dC ci ∧ cell.vm = .none ∧ ∀ (k : Nat) (t : Term), fs[k]? = some t → ∃ v, s_den ρ ad t = some v ∧ cell.slots[dI ci k]? = some v
def s_AA (s : State) (ρ : Nat → Int32) (ad : List Nat) (H : Heap) (kd tag : Nat) (ts : List Term) (a : Nat) : Prop := ∃ cell : Cell, H[a]? = some cell ∧ s.isArrayOf cell (s_aty tag) ∧ cell.vm ≠ .unknown ∧ s_DS ρ ad ts cell.slots.toList ∧ (kd = 0 → va_RA s cell.cls (s_aty tag))
def s_CA (s : State) (dC : Nat → ClassId) (dI : Nat → Nat → Nat) (ρ : Nat → Int32) (ad : List Nat) (H : Heap) (c : s_C) (a : Nat) : Prop := (c.1 = 1 ∧ s_OA dC dI ρ ad H c.2.1 c.2.2 a) ∨ ((c.1 = 0 ∨ c.1 = 2) ∧ s_AA s ρ ad H c.1 c.2.1 c.2.2 a)
def s_HR (s : State) (dC : Nat → ClassId) (dI : Nat → Nat → Nat) (ρ : Nat → Int32) (ad : List Nat) (base : Nat) (h : s_H) (H : Heap) : Prop := h.1 = ad.length ∧ (∀ (i j a : Nat), ad[i]? = some a → ad[j]? = some a → i = j) ∧ (∀ (k a : Nat), ad[k]? = some a → a < H.size ∧ (0 < k → base ≤ a)) ∧ ∀ (k : Nat) (c : s_C), s_get h k = some c → c.1 = 9 ∨ ∃ a, ad[k]? = some a ∧ s_CA s dC dI ρ ad H c a
def s_FR (base : Nat) (s : State) (H : Heap) (locs : List Loc) : Prop := s.heap.size ≤ H.size ∧ (∀ q : Nat, q < base → H[q]? = s.heap[q]?) ∧ ∀ z ∈ locs, base ≤ z.base
def s_SR (s : State) (dC : Nat → ClassId) (dI : Nat → Nat → Nat) (ρ : Nat → Int32) (base nL : Nat) (ad : List Nat) (L st : List Term) (h : s_H) (H : Heap) (ls : Array Slot) (vs : List Value) (locs : List Loc) : Prop := s_LR ρ ad nL L ls ∧ s_DS ρ ad st vs ∧ s_HR s dC dI ρ ad base h H ∧ s_FR base s H locs
def s_Cx (p : Program) (s : State) (m : MethodId) (args : Array Value) (meth : Method) (c : Code) (M : s_M) : Prop := p.tables.exec = Jvm.exec ∧ c.code = M.2.1 ∧ c.maxLocals = M.2.2.1 ∧ meth.sig.returnType = M.2.2.2.1 ∧ meth.locks = false ∧ s.vm.findClass M.1.cls = some m.cls ∧ meth.name = M.1.name ∧ (∀ w ∈ s_gd, w.before args s = true) ∧ c.exceptionTable.toList = tableOf M.2.2.2.2
def s_Cl (dC : Nat → ClassId) (dI : Nat → Nat → Nat) (s : State) : Prop := ∀ (ci : Nat) (r : vw_C), s_cl[ci]? = some r → u_Kn s r.1 r.2.1 r.2.2 (dC ci) (dI ci)
def s_Kk (p : Program) (l : Launch) (e : Env) (R : Room) (s : State) (m : MethodId) (args : Array Value) (below : List Frame) (meth : Method) (c : Code) (Q : State → Prop) (dC : Nat → ClassId) (dI : Nat → Nat → Nat) (ρ : Nat → Int32) (base nL : Nat) (ad : List Nat) (pc : Nat) (L st : List Term) (h : s_H) (kc ks : Nat) : Prop := ∀ (ad' : List Nat) (H : Heap) (ls : Array Slot) (vs : List Value) (locs : List Loc), (∃ x, ad' = ad ++ x) → s_SR s dC dI ρ base nL ad' L st h H ls vs locs → W p l e R s m args below meth c H locs kc ks Q (F0 m pc ls vs)
theorem s_ext (ad : List Nat) : ∃ x, ad = ad ++ x := ⟨[], (List.append_nil _).symm⟩
/-! small ones -/
theorem s_ld_s {β : Type} {ty n : Nat} {L : List Term} {k : Term → Option β} {r : β} (h : s_ld ty L n k = some r) : ∃ v, L[n]? = some v ∧ s_ty v = ty ∧ k v = some r := by
  unfold s_ld at h
  rw [s_nth_eq] at h
  cases e : L[n]? with
  | none => rw [e] at h; cases h
  | some v =>
    rw [e] at h
    simp only [] at h
    split at h
    · rename_i hq
      exact ⟨v, rfl, Nat.eq_of_beq_eq_true hq, h⟩
    · cases h
theorem s_LR_at {ρ : Nat → Int32} {ad : List Nat} {nL i : Nat} {L : List Term} {ls : Array Slot} {t : Term} (h : s_LR ρ ad nL L ls) (hi : L[i]? = some t) (ht : ¬ s_ty t = 0) : ∃ v, s_den ρ ad t = some v ∧ ls[i]? = some (.val v) := by
  rcases h.2.2.2 i t hi with q | q
  · subst q; exact absurd rfl ht
  · exact q
theorem s_i2_s {β : Type} {f : Int32 → Int32 → Int32} {t : Term → Term → Term} {st : List Term} {k : List Term → Option β} {r : β} {ρ : Nat → Int32} {ad : List Nat} {vs : List Value} (h : s_i2 f t st k = some r) (hS : s_DS ρ ad st vs) (ht : ∀ a b, s_den ρ ad (t a b) = s_b2 f (s_den ρ ad a) (s_den ρ ad b)) : ∃ x y st' vs' u, vs = .int y :: .int x :: vs' ∧ k (u :: st') = some r ∧ s_den ρ ad u = some (.int (f x y)) ∧ s_DS ρ ad st' vs' := by
  unfold s_i2 at h
  split at h
  · obtain ⟨v1, vs1, rfl, e1, hS1⟩ := s_DS_c hS
    obtain ⟨v2, vs2, rfl, e2, hS2⟩ := s_DS_c hS1
    cases e1; cases e2
    rw [s_fI_e] at h
    exact ⟨_, _, _, _, _, rfl, h, rfl, hS2⟩
  · obtain ⟨v1, vs1, rfl, e1, hS1⟩ := s_DS_c hS
    obtain ⟨v2, vs2, rfl, e2, hS2⟩ := s_DS_c hS1
    split at h
    · rename_i hc
      simp only [Bool.and_eq_true] at hc
      obtain ⟨x, rfl⟩ := s_is1 e2 (Nat.eq_of_beq_eq_true hc.1)
      obtain ⟨y, rfl⟩ := s_is1 e1 (Nat.eq_of_beq_eq_true hc.2)
      exact ⟨x, y, _, _, _, rfl, h, by rw [ht, e1, e2]; rfl, hS2⟩
    · cases h
  · cases h
theorem s_d2_s {β : Type} {f : Int32 → Int32 → Int32} {t : Term → Term → Term} {st : List Term} {k : List Term → Option β} {r : β} {ρ : Nat → Int32} {ad : List Nat} {vs : List Value} (h : s_d2 f t st k = some r) (hS : s_DS ρ ad st vs) (ht : ∀ a b, s_den ρ ad (t a b) = s_b2 f (s_den ρ ad a) (s_den ρ ad b)) : ∃ x y st' vs' u, ¬ y = 0 ∧ vs = .int y :: .int x :: vs' ∧ k (u :: st') = some r ∧ s_den ρ ad u = some (.int (f x y)) ∧ s_DS ρ ad st' vs' := by
  unfold s_d2 at h
  split at h
  · rename_i y a r0
    split at h
    · cases h
    · rename_i hy
      obtain ⟨x, y', st1, vs1, u, rfl, h1, h2, h3⟩ := s_i2_s h hS ht
      have hyy : y' = y := by have := hS.1; cases this; rfl
      subst hyy
      exact ⟨x, y', st1, vs1, u, by simpa using hy, rfl, h1, h2, h3⟩
  · cases h
theorem s_l2_s {β : Type} {f : Int64 → Int64 → Int64} {t : Term → Term → Term} {st : List Term} {k : List Term → Option β} {r : β} {ρ : Nat → Int32} {ad : List Nat} {vs : List Value} (h : s_l2 f t st k = some r) (hS : s_DS ρ ad st vs) (ht : ∀ a b, s_den ρ ad (t a b) = s_bl f (s_den ρ ad a) (s_den ρ ad b)) : ∃ x y st' vs' u, vs = .long y :: .long x :: vs' ∧ k (u :: st') = some r ∧ s_den ρ ad u = some (.long (f x y)) ∧ s_DS ρ ad st' vs' := by
  unfold s_l2 at h
  split at h
  · obtain ⟨v1, vs1, rfl, e1, hS1⟩ := s_DS_c hS
    obtain ⟨v2, vs2, rfl, e2, hS2⟩ := s_DS_c hS1
    cases e1; cases e2
    rw [s_fL_e] at h
    exact ⟨_, _, _, _, _, rfl, h, rfl, hS2⟩
  · obtain ⟨v1, vs1, rfl, e1, hS1⟩ := s_DS_c hS
    obtain ⟨v2, vs2, rfl, e2, hS2⟩ := s_DS_c hS1
    split at h
    · rename_i hc
      simp only [Bool.and_eq_true] at hc
      obtain ⟨x, rfl⟩ := s_is2 e2 (Nat.eq_of_beq_eq_true hc.1)
      obtain ⟨y, rfl⟩ := s_is2 e1 (Nat.eq_of_beq_eq_true hc.2)
      exact ⟨x, y, _, _, _, rfl, h, by rw [ht, e1, e2]; rfl, hS2⟩
    · cases h
  · cases h
theorem s_dl_s {β : Type} {f : Int64 → Int64 → Int64} {t : Term → Term → Term} {st : List Term} {k : List Term → Option β} {r : β} {ρ : Nat → Int32} {ad : List Nat} {vs : List Value} (h : s_dl f t st k = some r) (hS : s_DS ρ ad st vs) (ht : ∀ a b, s_den ρ ad (t a b) = s_bl f (s_den ρ ad a) (s_den ρ ad b)) : ∃ x y st' vs' u, ¬ y = 0 ∧ vs = .long y :: .long x :: vs' ∧ k (u :: st') = some r ∧ s_den ρ ad u = some (.long (f x y)) ∧ s_DS ρ ad st' vs' := by
  unfold s_dl at h
  split at h
  · rename_i y a r0
    split at h
    · cases h
    · rename_i hy
      obtain ⟨x, y', st1, vs1, u, rfl, h1, h2, h3⟩ := s_l2_s h hS ht
      have hyy : y' = y := by have := hS.1; cases this; rfl
      subst hyy
      exact ⟨x, y', st1, vs1, u, by simpa using hy, rfl, h1, h2, h3⟩
  · cases h
theorem s_sh_s {β : Type} {f : Int64 → Int32 → Int64} {t : Term → Term → Term} {st : List Term} {k : List Term → Option β} {r : β} {ρ : Nat → Int32} {ad : List Nat} {vs : List Value} (h : s_sh f t st k = some r) (hS : s_DS ρ ad st vs) (ht : ∀ a b, s_den ρ ad (t a b) = s_bs f (s_den ρ ad a) (s_den ρ ad b)) : ∃ x y st' vs' u, vs = .int y :: .long x :: vs' ∧ k (u :: st') = some r ∧ s_den ρ ad u = some (.long (f x y)) ∧ s_DS ρ ad st' vs' := by
  unfold s_sh at h
  split at h
  · obtain ⟨v1, vs1, rfl, e1, hS1⟩ := s_DS_c hS
    obtain ⟨v2, vs2, rfl, e2, hS2⟩ := s_DS_c hS1
    cases e1; cases e2
    rw [s_fL_e] at h
    exact ⟨_, _, _, _, _, rfl, h, rfl, hS2⟩
  · obtain ⟨v1, vs1, rfl, e1, hS1⟩ := s_DS_c hS
    obtain ⟨v2, vs2, rfl, e2, hS2⟩ := s_DS_c hS1
    split at h
    · rename_i hc
      simp only [Bool.and_eq_true] at hc
      obtain ⟨x, rfl⟩ := s_is2 e2 (Nat.eq_of_beq_eq_true hc.1)
      obtain ⟨y, rfl⟩ := s_is1 e1 (Nat.eq_of_beq_eq_true hc.2)
      exact ⟨x, y, _, _, _, rfl, h, by rw [ht, e1, e2]; rfl, hS2⟩
    · cases h
  · cases h
theorem s_lc_s {β : Type} {st : List Term} {k : List Term → Option β} {r : β} {ρ : Nat → Int32} {ad : List Nat} {vs : List Value} (h : s_lc st k = some r) (hS : s_DS ρ ad st vs) : ∃ x y st' vs' u, vs = .long y :: .long x :: vs' ∧ k (u :: st') = some r ∧ s_den ρ ad u = some (.int (lg_cmp x y)) ∧ s_DS ρ ad st' vs' := by
  unfold s_lc at h
  split at h
  · obtain ⟨v1, vs1, rfl, e1, hS1⟩ := s_DS_c hS
    obtain ⟨v2, vs2, rfl, e2, hS2⟩ := s_DS_c hS1
    cases e1; cases e2
    rw [s_fI_e] at h
    exact ⟨_, _, _, _, _, rfl, h, rfl, hS2⟩
  · obtain ⟨v1, vs1, rfl, e1, hS1⟩ := s_DS_c hS
    obtain ⟨v2, vs2, rfl, e2, hS2⟩ := s_DS_c hS1
    split at h
    · rename_i hc
      simp only [Bool.and_eq_true] at hc
      obtain ⟨x, rfl⟩ := s_is2 e2 (Nat.eq_of_beq_eq_true hc.1)
      obtain ⟨y, rfl⟩ := s_is2 e1 (Nat.eq_of_beq_eq_true hc.2)
      exact ⟨x, y, _, _, _, rfl, h, by simp only [s_den, s_o2, e1, e2]; rfl, hS2⟩
    · cases h
  · cases h
theorem s_u_s {β : Type} {st : List Term} {o : Nat} {k : List Term → Option β} {r : β} {ρ : Nat → Int32} {ad : List Nat} {vs : List Value} (h : s_u st o k = some r) (hS : s_DS ρ ad st vs) : ∃ st' vs' u, k (u :: st') = some r ∧ s_DS ρ ad st' vs' ∧ (
    (o = 0 ∧ ∃ x, vs = .int x :: vs' ∧ s_den ρ ad u = some (.int (-x))) ∨ (o = 1 ∧ ∃ x, vs = .long x :: vs' ∧ s_den ρ ad u = some (.long (-x))) ∨ (o = 2 ∧ ∃ x, vs = .int x :: vs' ∧ s_den ρ ad u = some (.long x.toInt64)) ∨ (1 < o ∧ ¬ o = 2 ∧ ∃ x, vs = .long x :: vs' ∧ s_den ρ ad u = some (.int x.toInt32))) := by
  cases st with
  | nil => cases h
  | cons t st =>
    obtain ⟨v1, vs1, rfl, e1, hS1⟩ := s_DS_c hS
    simp only [s_u] at h
    split at h
    · split at h
      · cases e1
        rw [s_fI_e] at h
        exact ⟨_, _, _, h, hS1, Or.inl ⟨rfl, _, rfl, rfl⟩⟩
      · split at h
        · rename_i hc
          obtain ⟨x, rfl⟩ := s_is1 e1 (Nat.eq_of_beq_eq_true hc)
          exact ⟨_, _, _, h, hS1, Or.inl ⟨rfl, _, rfl, by simp only [s_den, e1]; rfl⟩⟩
        · cases h
    · split at h
      · cases e1
        rw [s_fL_e] at h
        exact ⟨_, _, _, h, hS1, Or.inr (Or.inl ⟨rfl, _, rfl, rfl⟩)⟩
      · split at h
        · rename_i hc
          obtain ⟨x, rfl⟩ := s_is2 e1 (Nat.eq_of_beq_eq_true hc)
          exact ⟨_, _, _, h, hS1, Or.inr (Or.inl ⟨rfl, _, rfl, by simp only [s_den, e1]; rfl⟩)⟩
        · cases h
    · split at h
      · cases e1
        rw [s_fL_e] at h
        exact ⟨_, _, _, h, hS1, Or.inr (Or.inr (Or.inl ⟨rfl, _, rfl, rfl⟩))⟩
      · split at h
        · rename_i hc
          obtain ⟨x, rfl⟩ := s_is1 e1 (Nat.eq_of_beq_eq_true hc)
          exact ⟨_, _, _, h, hS1, Or.inr (Or.inr (Or.inl ⟨rfl, _, rfl, by simp only [s_den, e1]; rfl⟩))⟩
        · cases h
    · rename_i n0 n1 n2
      have ho : 1 < o ∧ ¬ o = 2 := by
        have b0 : ¬ o = 0 := n0
        have b1 : ¬ o = 1 := n1
        have b2 : ¬ o = 2 := n2
        exact ⟨by omega, b2⟩
      split at h
      · cases e1
        rw [s_fI_e] at h
        exact ⟨_, _, _, h, hS1, Or.inr (Or.inr (Or.inr ⟨ho.1, ho.2, _, rfl, rfl⟩))⟩
      · split at h
        · rename_i hc
          obtain ⟨x, rfl⟩ := s_is2 e1 (Nat.eq_of_beq_eq_true hc)
          exact ⟨_, _, _, h, hS1, Or.inr (Or.inr (Or.inr ⟨ho.1, ho.2, _, rfl, by simp only [s_den, e1]; rfl⟩))⟩
        · cases h
