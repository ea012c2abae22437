/-! further instructions -/
section S71
variable {P : s_P} {d : Nat} {cd : s_Cd} {hd : List s_Hd} {Q : s_O → Prop} {pc pc' nx a b c kc ks kc' ks' : Nat} {i : Instr} {ls ls' st st' : List Term} {h h' : s_H} {x y z : Int} {o q q' n j tg : Nat} {v w t : Term} {l ts fs as rest : List Term} {li : List Int}
theorem s_i2_e {β : Type} {f : Int32 → Int32 → Int32} {t : Term → Term → Term} {x y : Int32} {k : List Term → Option β} : s_i2 f t (.int y :: .int x :: st) k = k (.int (f x y) :: st) := s_fI_e (f x y) (fun v => k (v :: st))
theorem s_d2_e {β : Type} {f : Int32 → Int32 → Int32} {t : Term → Term → Term} {x y : Int32} {k : List Term → Option β} (h0 : ¬ y = 0) : s_d2 f t (.int y :: .int x :: st) k = k (.int (f x y) :: st) := by
  show (if decide (y = 0) = true then none else s_i2 f t (.int y :: .int x :: st) k) = _
  rw [decide_eq_false h0, if_neg (by decide), s_i2_e]
theorem s_l2_e {β : Type} {f : Int64 → Int64 → Int64} {t : Term → Term → Term} {x y : Int64} {k : List Term → Option β} : s_l2 f t (.long y :: .long x :: st) k = k (.long (f x y) :: st) := s_fL_e (f x y) (fun v => k (v :: st))
theorem s_dl_e {β : Type} {f : Int64 → Int64 → Int64} {t : Term → Term → Term} {x y : Int64} {k : List Term → Option β} (h0 : ¬ y = 0) : s_dl f t (.long y :: .long x :: st) k = k (.long (f x y) :: st) := by
  show (if decide (y = 0) = true then none else s_l2 f t (.long y :: .long x :: st) k) = _
  rw [decide_eq_false h0, if_neg (by decide), s_l2_e]
theorem s_sh_e {β : Type} {f : Int64 → Int32 → Int64} {t : Term → Term → Term} {x : Int64} {y : Int32} {k : List Term → Option β} : s_sh f t (.int y :: .long x :: st) k = k (.long (f x y) :: st) := s_fL_e (f x y) (fun v => k (v :: st))
theorem s_lc_e {β : Type} {x y : Int64} {k : List Term → Option β} : s_lc (.long y :: .long x :: st) k = k (.int (lg_cmp x y) :: st) := s_fI_e (lg_cmp x y) (fun v => k (v :: st))
theorem w_iinc (he : s_at 32 cd pc = some (18, i, nx, a, b, c)) (hv : s_nth ls a = some (vi x)) (z : Int) (hz : Int32.ofNat b = Int32.ofInt z) (hl : s_stK (vi (x + z)) ls a some = some ls') (k : wr P d cd hd (nx, ls', st, h, kc, ks) Q) : wr P d cd hd (pc, ls, st, h, kc, ks) Q := by
  refine w_stepH he s_at_iinc (fun call => ?_) (Nat.le_refl _) (Nat.le_refl _) k
  show s_ld 1 ls a (fun v => s_i2 (fun x y => x + y) .add [.int (Int32.ofNat b), v] (fun r => s_stK (s_hd1 r) ls a (fun l => some (Sum.inl (nx, l, st, h, kc, ks) : s_S ⊕ s_O)))) = some (Sum.inl (nx, ls', st, h, kc, ks))
  unfold s_ld
  rw [hv]
  show s_i2 (fun x y => x + y) .add [.int (Int32.ofNat b), vi x] (fun r => s_stK (s_hd1 r) ls a (fun l => some (Sum.inl (nx, l, st, h, kc, ks) : s_S ⊕ s_O))) = _
  rw [s_i2_e, hz, ← Int32.ofInt_add]
  show s_stK (vi (x + z)) ls a (fun l => some (Sum.inl (nx, l, st, h, kc, ks) : s_S ⊕ s_O)) = _
  rw [s_stK_k hl]
/-- two ints -/
theorem w_i2 (he : s_at 32 cd pc = some (o, i, nx, a, b, c)) (hz : o = 19 ∧ z = x + y ∨ o = 20 ∧ z = x - y ∨ o = 21 ∧ z = x * y) (k : wr P d cd hd (nx, ls, vi z :: st, h, kc, ks) Q) : wr P d cd hd (pc, ls, vi y :: vi x :: st, h, kc, ks) Q := by
  rcases hz with ⟨rfl, rfl⟩ | ⟨rfl, rfl⟩ | ⟨rfl, rfl⟩
  · refine w_stepH he s_at_iadd (fun call => ?_) (Nat.le_refl _) (Nat.le_refl _) k
    show s_i2 (fun x y => x + y) .add (vi y :: vi x :: st) (fun r => some (Sum.inl (nx, ls, r, h, kc, ks) : s_S ⊕ s_O)) = _
    rw [s_i2_e, ← Int32.ofInt_add]
  · refine w_stepH he s_at_isub (fun call => ?_) (Nat.le_refl _) (Nat.le_refl _) k
    show s_i2 (fun x y => x - y) .sub (vi y :: vi x :: st) (fun r => some (Sum.inl (nx, ls, r, h, kc, ks) : s_S ⊕ s_O)) = _
    rw [s_i2_e, ← Int32.ofInt_sub]
  · refine w_stepH he s_at_imul (fun call => ?_) (Nat.le_refl _) (Nat.le_refl _) k
    show s_i2 (fun x y => x * y) .mul (vi y :: vi x :: st) (fun r => some (Sum.inl (nx, ls, r, h, kc, ks) : s_S ⊕ s_O)) = _
    rw [s_i2_e, ← Int32.ofInt_mul]
theorem w_iadd (he : s_at 32 cd pc = some (19, i, nx, a, b, c)) (k : wr P d cd hd (nx, ls, vi (x + y) :: st, h, kc, ks) Q) : wr P d cd hd (pc, ls, vi y :: vi x :: st, h, kc, ks) Q := w_i2 he (Or.inl ⟨rfl, rfl⟩) k
theorem w_isub (he : s_at 32 cd pc = some (20, i, nx, a, b, c)) (k : wr P d cd hd (nx, ls, vi (x - y) :: st, h, kc, ks) Q) : wr P d cd hd (pc, ls, vi y :: vi x :: st, h, kc, ks) Q := w_i2 he (Or.inr (Or.inl ⟨rfl, rfl⟩)) k
theorem w_imul (he : s_at 32 cd pc = some (21, i, nx, a, b, c)) (k : wr P d cd hd (nx, ls, vi (x * y) :: st, h, kc, ks) Q) : wr P d cd hd (pc, ls, vi y :: vi x :: st, h, kc, ks) Q := w_i2 he (Or.inr (Or.inr ⟨rfl, rfl⟩)) k
theorem vi_ne0 (hy : In3 y) (h0 : y ≠ 0) : ¬ Int32.ofInt y = 0 := fun q => h0 ((vi_eq hy (by decide)).mp q)
theorem vl_ne0 (hy : In6 y) (h0 : y ≠ 0) : ¬ Int64.ofInt y = 0 := fun q => h0 ((vl_eq hy (by decide)).mp q)
theorem w_idiv (he : s_at 32 cd pc = some (22, i, nx, a, b, c)) (hx : In3 x) (hy : In3 y) (h0 : y ≠ 0) (k : wr P d cd hd (nx, ls, vi (x.tdiv y) :: st, h, kc, ks) Q) : wr P d cd hd (pc, ls, vi y :: vi x :: st, h, kc, ks) Q := by
  refine w_stepH he s_at_idiv (fun call => ?_) (Nat.le_refl _) (Nat.le_refl _) k
  show s_d2 (fun x y => x / y) .div (vi y :: vi x :: st) (fun r => some (Sum.inl (nx, ls, r, h, kc, ks) : s_S ⊕ s_O)) = _
  rw [s_d2_e (vi_ne0 hy h0), vi_div hx hy]
theorem w_irem (he : s_at 32 cd pc = some (23, i, nx, a, b, c)) (hx : In3 x) (hy : In3 y) (h0 : y ≠ 0) (k : wr P d cd hd (nx, ls, vi (x.tmod y) :: st, h, kc, ks) Q) : wr P d cd hd (pc, ls, vi y :: vi x :: st, h, kc, ks) Q := by
  refine w_stepH he s_at_irem (fun call => ?_) (Nat.le_refl _) (Nat.le_refl _) k
  show s_d2 (fun x y => x - x / y * y) .rem (vi y :: vi x :: st) (fun r => some (Sum.inl (nx, ls, r, h, kc, ks) : s_S ⊕ s_O)) = _
  rw [s_d2_e (vi_ne0 hy h0), vi_rem hx hy]
/-- two ints by their bits: the machine's own number -/
def zi (o : Nat) (x y : Int) : Int := (match o with
  | 24 => Int32.ofInt x &&& Int32.ofInt y
  | 25 => Int32.ofInt x ||| Int32.ofInt y
  | 26 => Int32.ofInt x ^^^ Int32.ofInt y
  | 27 => Int32.ofInt x <<< (Int32.ofInt y &&& 31)
  | 28 => Int32.ofInt x >>> (Int32.ofInt y &&& 31)
  | _ => ((Int32.ofInt x).toUInt32 >>> ((Int32.ofInt y).toUInt32 &&& Int32.toUInt32 31)).toInt32 : Int32).toInt
theorem zi_e : vi (zi o x y) = .int (match o with
  | 24 => Int32.ofInt x &&& Int32.ofInt y
  | 25 => Int32.ofInt x ||| Int32.ofInt y
  | 26 => Int32.ofInt x ^^^ Int32.ofInt y
  | 27 => Int32.ofInt x <<< (Int32.ofInt y &&& 31)
  | 28 => Int32.ofInt x >>> (Int32.ofInt y &&& 31)
  | _ => ((Int32.ofInt x).toUInt32 >>> ((Int32.ofInt y).toUInt32 &&& Int32.toUInt32 31)).toInt32 : Int32) := by
  show Term.int (Int32.ofInt (zi o x y)) = _
  unfold zi
  rw [Int32.ofInt_toInt]
theorem w_ib (he : s_at 32 cd pc = some (o, i, nx, a, b, c)) (ho : o = 24 ∨ o = 25 ∨ o = 26 ∨ o = 27 ∨ o = 28 ∨ o = 76) (k : wr P d cd hd (nx, ls, vi (zi o x y) :: st, h, kc, ks) Q) : wr P d cd hd (pc, ls, vi y :: vi x :: st, h, kc, ks) Q := by
  rcases ho with rfl | rfl | rfl | rfl | rfl | rfl
  · refine w_stepH he s_at_iand (fun call => ?_) (Nat.le_refl _) (Nat.le_refl _) k
    show s_i2 (fun x y => x &&& y) (.op2 .iand) (vi y :: vi x :: st) (fun r => some (Sum.inl (nx, ls, r, h, kc, ks) : s_S ⊕ s_O)) = _
    rw [s_i2_e]
    exact congrArg (fun t => (some (Sum.inl (nx, ls, t :: st, h, kc, ks)) : Option (s_S ⊕ s_O))) (zi_e (o := 24) (x := x) (y := y)).symm
  · refine w_stepH he s_at_ior (fun call => ?_) (Nat.le_refl _) (Nat.le_refl _) k
    show s_i2 (fun x y => x ||| y) (.op2 .ior) (vi y :: vi x :: st) (fun r => some (Sum.inl (nx, ls, r, h, kc, ks) : s_S ⊕ s_O)) = _
    rw [s_i2_e]
    exact congrArg (fun t => (some (Sum.inl (nx, ls, t :: st, h, kc, ks)) : Option (s_S ⊕ s_O))) (zi_e (o := 25) (x := x) (y := y)).symm
  · refine w_stepH he s_at_ixor (fun call => ?_) (Nat.le_refl _) (Nat.le_refl _) k
    show s_i2 (fun x y => x ^^^ y) (.op2 .ixor) (vi y :: vi x :: st) (fun r => some (Sum.inl (nx, ls, r, h, kc, ks) : s_S ⊕ s_O)) = _
    rw [s_i2_e]
    exact congrArg (fun t => (some (Sum.inl (nx, ls, t :: st, h, kc, ks)) : Option (s_S ⊕ s_O))) (zi_e (o := 26) (x := x) (y := y)).symm
  · refine w_stepH he s_at_ishl (fun call => ?_) (Nat.le_refl _) (Nat.le_refl _) k
    show s_i2 (fun x y => x <<< (y &&& 31)) (.op2 .ishl) (vi y :: vi x :: st) (fun r => some (Sum.inl (nx, ls, r, h, kc, ks) : s_S ⊕ s_O)) = _
    rw [s_i2_e]
    exact congrArg (fun t => (some (Sum.inl (nx, ls, t :: st, h, kc, ks)) : Option (s_S ⊕ s_O))) (zi_e (o := 27) (x := x) (y := y)).symm
  · refine w_stepH he s_at_ishr (fun call => ?_) (Nat.le_refl _) (Nat.le_refl _) k
    show s_i2 (fun x y => x >>> (y &&& 31)) (.op2 .ishr) (vi y :: vi x :: st) (fun r => some (Sum.inl (nx, ls, r, h, kc, ks) : s_S ⊕ s_O)) = _
    rw [s_i2_e]
    exact congrArg (fun t => (some (Sum.inl (nx, ls, t :: st, h, kc, ks)) : Option (s_S ⊕ s_O))) (zi_e (o := 28) (x := x) (y := y)).symm
  · refine w_stepH he s_at_iushr (fun call => ?_) (Nat.le_refl _) (Nat.le_refl _) k
    show s_fI (((Int32.ofInt x).toUInt32 >>> ((Int32.ofInt y).toUInt32 &&& Int32.toUInt32 31)).toInt32) (fun v => some (Sum.inl (nx, ls, v :: st, h, kc, ks) : s_S ⊕ s_O)) = _
    rw [s_fI_e]
    exact congrArg (fun t => (some (Sum.inl (nx, ls, t :: st, h, kc, ks)) : Option (s_S ⊕ s_O))) (zi_e (o := 76) (x := x) (y := y)).symm
/-- two longs -/
theorem w_l2 (he : s_at 32 cd pc = some (o, i, nx, a, b, c)) (hz : o = 29 ∧ z = x + y ∨ o = 30 ∧ z = x - y ∨ o = 31 ∧ z = x * y) (k : wr P d cd hd (nx, ls, vl z :: st, h, kc, ks) Q) : wr P d cd hd (pc, ls, vl y :: vl x :: st, h, kc, ks) Q := by
  rcases hz with ⟨rfl, rfl⟩ | ⟨rfl, rfl⟩ | ⟨rfl, rfl⟩
  · refine w_stepH he s_at_ladd (fun call => ?_) (Nat.le_refl _) (Nat.le_refl _) k
    show s_l2 (fun x y => x + y) (.op2 .ladd) (vl y :: vl x :: st) (fun r => some (Sum.inl (nx, ls, r, h, kc, ks) : s_S ⊕ s_O)) = _
    rw [s_l2_e, ← Int64.ofInt_add]
  · refine w_stepH he s_at_lsub (fun call => ?_) (Nat.le_refl _) (Nat.le_refl _) k
    show s_l2 (fun x y => x - y) (.op2 .lsub) (vl y :: vl x :: st) (fun r => some (Sum.inl (nx, ls, r, h, kc, ks) : s_S ⊕ s_O)) = _
    rw [s_l2_e, ← Int64.ofInt_sub]
  · refine w_stepH he s_at_lmul (fun call => ?_) (Nat.le_refl _) (Nat.le_refl _) k
    show s_l2 (fun x y => x * y) (.op2 .lmul) (vl y :: vl x :: st) (fun r => some (Sum.inl (nx, ls, r, h, kc, ks) : s_S ⊕ s_O)) = _
    rw [s_l2_e, ← Int64.ofInt_mul]
theorem w_ladd (he : s_at 32 cd pc = some (29, i, nx, a, b, c)) (k : wr P d cd hd (nx, ls, vl (x + y) :: st, h, kc, ks) Q) : wr P d cd hd (pc, ls, vl y :: vl x :: st, h, kc, ks) Q := w_l2 he (Or.inl ⟨rfl, rfl⟩) k
theorem w_lsub (he : s_at 32 cd pc = some (30, i, nx, a, b, c)) (k : wr P d cd hd (nx, ls, vl (x - y) :: st, h, kc, ks) Q) : wr P d cd hd (pc, ls, vl y :: vl x :: st, h, kc, ks) Q := w_l2 he (Or.inr (Or.inl ⟨rfl, rfl⟩)) k
theorem w_lmul (he : s_at 32 cd pc = some (31, i, nx, a, b, c)) (k : wr P d cd hd (nx, ls, vl (x * y) :: st, h, kc, ks) Q) : wr P d cd hd (pc, ls, vl y :: vl x :: st, h, kc, ks) Q := w_l2 he (Or.inr (Or.inr ⟨rfl, rfl⟩)) k
theorem w_lrem (he : s_at 32 cd pc = some (32, i, nx, a, b, c)) (hx : In6 x) (hy : In6 y) (h0 : y ≠ 0) (k : wr P d cd hd (nx, ls, vl (x.tmod y) :: st, h, kc, ks) Q) : wr P d cd hd (pc, ls, vl y :: vl x :: st, h, kc, ks) Q := by
  refine w_stepH he s_at_lrem (fun call => ?_) (Nat.le_refl _) (Nat.le_refl _) k
  show s_dl (fun x y => x - x / y * y) (.op2 .lrem) (vl y :: vl x :: st) (fun r => some (Sum.inl (nx, ls, r, h, kc, ks) : s_S ⊕ s_O)) = _
  rw [s_dl_e (vl_ne0 hy h0), vl_rem hx hy]
theorem w_ldiv (he : s_at 32 cd pc = some (33, i, nx, a, b, c)) (hx : In6 x) (hy : In6 y) (h0 : y ≠ 0) (k : wr P d cd hd (nx, ls, vl (x.tdiv y) :: st, h, kc, ks) Q) : wr P d cd hd (pc, ls, vl y :: vl x :: st, h, kc, ks) Q := by
  refine w_stepH he s_at_ldiv (fun call => ?_) (Nat.le_refl _) (Nat.le_refl _) k
  show s_dl (fun x y => x / y) (.op2 .ldiv) (vl y :: vl x :: st) (fun r => some (Sum.inl (nx, ls, r, h, kc, ks) : s_S ⊕ s_O)) = _
  rw [s_dl_e (vl_ne0 hy h0), vl_div hx hy]
def zl (o : Nat) (x y : Int) : Int := (match o with
  | 34 => Int64.ofInt x &&& Int64.ofInt y
  | 35 => Int64.ofInt x ||| Int64.ofInt y
  | 36 => Int64.ofInt x ^^^ Int64.ofInt y
  | 37 => Int64.ofInt x <<< ((Int32.ofInt y).toInt64 &&& 63)
  | 38 => Int64.ofInt x >>> ((Int32.ofInt y).toInt64 &&& 63)
  | _ => ((Int64.ofInt x).toUInt64 >>> ((Int32.ofInt y).toInt64.toUInt64 &&& Int64.toUInt64 63)).toInt64 : Int64).toInt
theorem zl_e : vl (zl o x y) = .long (match o with
  | 34 => Int64.ofInt x &&& Int64.ofInt y
  | 35 => Int64.ofInt x ||| Int64.ofInt y
  | 36 => Int64.ofInt x ^^^ Int64.ofInt y
  | 37 => Int64.ofInt x <<< ((Int32.ofInt y).toInt64 &&& 63)
  | 38 => Int64.ofInt x >>> ((Int32.ofInt y).toInt64 &&& 63)
  | _ => ((Int64.ofInt x).toUInt64 >>> ((Int32.ofInt y).toInt64.toUInt64 &&& Int64.toUInt64 63)).toInt64 : Int64) := by
  show Term.long (Int64.ofInt (zl o x y)) = _
  unfold zl
  rw [Int64.ofInt_toInt]
theorem w_lb (he : s_at 32 cd pc = some (o, i, nx, a, b, c)) (ho : o = 34 ∨ o = 35 ∨ o = 36) (k : wr P d cd hd (nx, ls, vl (zl o x y) :: st, h, kc, ks) Q) : wr P d cd hd (pc, ls, vl y :: vl x :: st, h, kc, ks) Q := by
  rcases ho with rfl | rfl | rfl
  · refine w_stepH he s_at_land (fun call => ?_) (Nat.le_refl _) (Nat.le_refl _) k
    show s_l2 (fun x y => x &&& y) (.op2 .land) (vl y :: vl x :: st) (fun r => some (Sum.inl (nx, ls, r, h, kc, ks) : s_S ⊕ s_O)) = _
    rw [s_l2_e]
    exact congrArg (fun t => (some (Sum.inl (nx, ls, t :: st, h, kc, ks)) : Option (s_S ⊕ s_O))) (zl_e (o := 34) (x := x) (y := y)).symm
  · refine w_stepH he s_at_lor (fun call => ?_) (Nat.le_refl _) (Nat.le_refl _) k
    show s_l2 (fun x y => x ||| y) (.op2 .lor) (vl y :: vl x :: st) (fun r => some (Sum.inl (nx, ls, r, h, kc, ks) : s_S ⊕ s_O)) = _
    rw [s_l2_e]
    exact congrArg (fun t => (some (Sum.inl (nx, ls, t :: st, h, kc, ks)) : Option (s_S ⊕ s_O))) (zl_e (o := 35) (x := x) (y := y)).symm
  · refine w_stepH he s_at_lxor (fun call => ?_) (Nat.le_refl _) (Nat.le_refl _) k
    show s_l2 (fun x y => x ^^^ y) (.op2 .lxor) (vl y :: vl x :: st) (fun r => some (Sum.inl (nx, ls, r, h, kc, ks) : s_S ⊕ s_O)) = _
    rw [s_l2_e]
    exact congrArg (fun t => (some (Sum.inl (nx, ls, t :: st, h, kc, ks)) : Option (s_S ⊕ s_O))) (zl_e (o := 36) (x := x) (y := y)).symm
theorem w_lsh (he : s_at 32 cd pc = some (o, i, nx, a, b, c)) (ho : o = 37 ∨ o = 38 ∨ o = 39) (k : wr P d cd hd (nx, ls, vl (zl o x y) :: st, h, kc, ks) Q) : wr P d cd hd (pc, ls, vi y :: vl x :: st, h, kc, ks) Q := by
  rcases ho with rfl | rfl | rfl
  · refine w_stepH he s_at_lshl (fun call => ?_) (Nat.le_refl _) (Nat.le_refl _) k
    show s_sh (fun x y => x <<< (y.toInt64 &&& 63)) (.op2 .lshl) (vi y :: vl x :: st) (fun r => some (Sum.inl (nx, ls, r, h, kc, ks) : s_S ⊕ s_O)) = _
    rw [s_sh_e]
    exact congrArg (fun t => (some (Sum.inl (nx, ls, t :: st, h, kc, ks)) : Option (s_S ⊕ s_O))) (zl_e (o := 37) (x := x) (y := y)).symm
  · refine w_stepH he s_at_lshr (fun call => ?_) (Nat.le_refl _) (Nat.le_refl _) k
    show s_sh (fun x y => x >>> (y.toInt64 &&& 63)) (.op2 .lshr) (vi y :: vl x :: st) (fun r => some (Sum.inl (nx, ls, r, h, kc, ks) : s_S ⊕ s_O)) = _
    rw [s_sh_e]
    exact congrArg (fun t => (some (Sum.inl (nx, ls, t :: st, h, kc, ks)) : Option (s_S ⊕ s_O))) (zl_e (o := 38) (x := x) (y := y)).symm
  · refine w_stepH he s_at_lushr (fun call => ?_) (Nat.le_refl _) (Nat.le_refl _) k
    show s_sh (fun x y => (x.toUInt64 >>> (y.toInt64.toUInt64 &&& Int64.toUInt64 63)).toInt64) (.op2 .lushr) (vi y :: vl x :: st) (fun r => some (Sum.inl (nx, ls, r, h, kc, ks) : s_S ⊕ s_O)) = _
    rw [s_sh_e]
    exact congrArg (fun t => (some (Sum.inl (nx, ls, t :: st, h, kc, ks)) : Option (s_S ⊕ s_O))) (zl_e (o := 39) (x := x) (y := y)).symm
theorem w_ineg (he : s_at 32 cd pc = some (41, i, nx, a, b, c)) (k : wr P d cd hd (nx, ls, vi (-x) :: st, h, kc, ks) Q) : wr P d cd hd (pc, ls, vi x :: st, h, kc, ks) Q := by
  refine w_stepH he s_at_ineg (fun call => ?_) (Nat.le_refl _) (Nat.le_refl _) k
  show s_fI (-Int32.ofInt x) (fun v => some (Sum.inl (nx, ls, v :: st, h, kc, ks) : s_S ⊕ s_O)) = _
  rw [s_fI_e, ← Int32.ofInt_neg]
theorem w_lneg (he : s_at 32 cd pc = some (42, i, nx, a, b, c)) (k : wr P d cd hd (nx, ls, vl (-x) :: st, h, kc, ks) Q) : wr P d cd hd (pc, ls, vl x :: st, h, kc, ks) Q := by
  refine w_stepH he s_at_lneg (fun call => ?_) (Nat.le_refl _) (Nat.le_refl _) k
  show s_fL (-Int64.ofInt x) (fun v => some (Sum.inl (nx, ls, v :: st, h, kc, ks) : s_S ⊕ s_O)) = _
  rw [s_fL_e, ← Int64.ofInt_neg]
theorem w_i2l (he : s_at 32 cd pc = some (43, i, nx, a, b, c)) (hx : In3 x) (k : wr P d cd hd (nx, ls, vl x :: st, h, kc, ks) Q) : wr P d cd hd (pc, ls, vi x :: st, h, kc, ks) Q := by
  refine w_stepH he s_at_i2l (fun call => ?_) (Nat.le_refl _) (Nat.le_refl _) k
  show s_fL (Int32.ofInt x).toInt64 (fun v => some (Sum.inl (nx, ls, v :: st, h, kc, ks) : s_S ⊕ s_O)) = _
  rw [s_fL_e, vi_64 hx]
theorem w_l2i (he : s_at 32 cd pc = some (44, i, nx, a, b, c)) (k : wr P d cd hd (nx, ls, vi x :: st, h, kc, ks) Q) : wr P d cd hd (pc, ls, vl x :: st, h, kc, ks) Q := by
  refine w_stepH he s_at_l2i (fun call => ?_) (Nat.le_refl _) (Nat.le_refl _) k
  show s_fI (Int64.ofInt x).toInt32 (fun v => some (Sum.inl (nx, ls, v :: st, h, kc, ks) : s_S ⊕ s_O)) = _
  rw [s_fI_e, vl_32]
theorem w_dup (he : s_at 32 cd pc = some (45, i, nx, a, b, c)) (hv : (Nat.beq (s_ty v) 1 || Nat.beq (s_ty v) 3) = true) (k : wr P d cd hd (nx, ls, v :: v :: st, h, kc, ks) Q) : wr P d cd hd (pc, ls, v :: st, h, kc, ks) Q := by
  refine w_stepH he s_at_dup (fun call => ?_) (Nat.le_refl _) (Nat.le_refl _) k
  show (if (Nat.beq (s_ty v) 1 || Nat.beq (s_ty v) 3) = true then some (Sum.inl (nx, ls, v :: v :: st, h, kc, ks) : s_S ⊕ s_O) else none) = _
  rw [if_pos hv]
theorem w_pop (he : s_at 32 cd pc = some (46, i, nx, a, b, c)) (hv : (Nat.beq (s_ty v) 1 || Nat.beq (s_ty v) 3) = true) (k : wr P d cd hd (nx, ls, st, h, kc, ks) Q) : wr P d cd hd (pc, ls, v :: st, h, kc, ks) Q := by
  refine w_stepH he s_at_pop (fun call => ?_) (Nat.le_refl _) (Nat.le_refl _) k
  show (if (Nat.beq (s_ty v) 1 || Nat.beq (s_ty v) 3) = true then some (Sum.inl (nx, ls, st, h, kc, ks) : s_S ⊕ s_O) else none) = _
  rw [if_pos hv]
theorem w_dup2 (he : s_at 32 cd pc = some (47, i, nx, a, b, c)) (hv : ((Nat.beq (s_ty v) 1 || Nat.beq (s_ty v) 3) && (Nat.beq (s_ty w) 1 || Nat.beq (s_ty w) 3)) = true) (k : wr P d cd hd (nx, ls, v :: w :: v :: w :: st, h, kc, ks) Q) : wr P d cd hd (pc, ls, v :: w :: st, h, kc, ks) Q := by
  refine w_stepH he s_at_dup2 (fun call => ?_) (Nat.le_refl _) (Nat.le_refl _) k
  show (if ((Nat.beq (s_ty v) 1 || Nat.beq (s_ty v) 3) && (Nat.beq (s_ty w) 1 || Nat.beq (s_ty w) 3)) = true then some (Sum.inl (nx, ls, v :: w :: v :: w :: st, h, kc, ks) : s_S ⊕ s_O) else none) = _
  rw [if_pos hv]
/-! branches -/
theorem w_goto (he : s_at 32 cd pc = some (48, i, nx, a, b, c)) (k : wr P d cd hd (nx, ls, st, h, kc, ks) Q) : wr P d cd hd (pc, ls, st, h, kc, ks) Q := w_stepH he s_at_goto (fun call => rfl) (Nat.le_refl _) (Nat.le_refl _) k
/-- does a condition hold -/
def zc (cc : ClassFile.Cond) (x y : Int) : Prop := match cc with
  | .eq => x = y
  | .ne => x ≠ y
  | .lt => x < y
  | .ge => y ≤ x
  | .gt => y < x
  | .le => x ≤ y
theorem zc_con {cc : ClassFile.Cond} (hx : In3 x) (hy : In3 y) : (zc cc x y → s_con [] cc (vi x) (vi y) = some true) ∧ (¬ zc cc x y → s_con [] cc (vi x) (vi y) = some false) := by
  have e0 : ∀ x y : Int, s_cond [] 0 (vi x) (vi y) = some (decide (Int32.ofInt x = Int32.ofInt y)) := fun _ _ => rfl
  have e1 : ∀ x y : Int, s_cond [] 1 (vi x) (vi y) = some (decide (Int32.ofInt x < Int32.ofInt y)) := fun _ _ => rfl
  cases cc with
  | eq =>
    show (x = y → s_cond [] 0 (vi x) (vi y) = _) ∧ (¬ x = y → s_cond [] 0 (vi x) (vi y) = _)
    rw [e0]
    exact ⟨fun h => by rw [decide_eq_true ((vi_eq hx hy).mpr h)], fun h => by rw [decide_eq_false (fun q => h ((vi_eq hx hy).mp q))]⟩
  | ne =>
    show (x ≠ y → (s_cond [] 0 (vi x) (vi y)).map not = _) ∧ (¬ x ≠ y → (s_cond [] 0 (vi x) (vi y)).map not = _)
    rw [e0]
    exact ⟨fun h => by rw [decide_eq_false (fun q => h ((vi_eq hx hy).mp q))]; rfl, fun h => by rw [decide_eq_true ((vi_eq hx hy).mpr (Decidable.of_not_not h))]; rfl⟩
  | lt =>
    show (x < y → s_cond [] 1 (vi x) (vi y) = _) ∧ (¬ x < y → s_cond [] 1 (vi x) (vi y) = _)
    rw [e1]
    exact ⟨fun h => by rw [decide_eq_true ((vi_lt hx hy).mpr h)], fun h => by rw [decide_eq_false (fun q => h ((vi_lt hx hy).mp q))]⟩
  | ge =>
    show (y ≤ x → (s_cond [] 1 (vi x) (vi y)).map not = _) ∧ (¬ y ≤ x → (s_cond [] 1 (vi x) (vi y)).map not = _)
    rw [e1]
    exact ⟨fun h => by rw [decide_eq_false (fun q => absurd ((vi_lt hx hy).mp q) (by omega))]; rfl, fun h => by rw [decide_eq_true ((vi_lt hx hy).mpr (by omega))]; rfl⟩
  | gt =>
    show (y < x → s_cond [] 1 (vi y) (vi x) = _) ∧ (¬ y < x → s_cond [] 1 (vi y) (vi x) = _)
    rw [e1]
    exact ⟨fun h => by rw [decide_eq_true ((vi_lt hy hx).mpr h)], fun h => by rw [decide_eq_false (fun q => h ((vi_lt hy hx).mp q))]⟩
  | le =>
    show (x ≤ y → (s_cond [] 1 (vi y) (vi x)).map not = _) ∧ (¬ x ≤ y → (s_cond [] 1 (vi y) (vi x)).map not = _)
    rw [e1]
    exact ⟨fun h => by rw [decide_eq_false (fun q => absurd ((vi_lt hy hx).mp q) (by omega))]; rfl, fun h => by rw [decide_eq_true ((vi_lt hy hx).mpr (by omega))]; rfl⟩
theorem w_if2 {cc : ClassFile.Cond} {off : Int} (he : s_at 32 cd pc = some (50, .if_icmp cc off, nx, a, b, c)) (hx : In3 x) (hy : In3 y) (k1 : zc cc x y → wr P d cd hd (a, ls, st, h, kc, ks) Q) (k2 : ¬ zc cc x y → wr P d cd hd (nx, ls, st, h, kc, ks) Q) : wr P d cd hd (pc, ls, vi y :: vi x :: st, h, kc, ks) Q := by
  have hz := @zc_con x y cc hx hy
  by_cases hc : zc cc x y
  · refine w_stepH he s_at_if_icmp (fun call => ?_) (Nat.le_refl _) (Nat.le_refl _) (k1 hc)
    show (match s_con [] cc (vi x) (vi y) with
      | some true => some (Sum.inl (a, ls, st, h, kc, ks))
      | some false => some (Sum.inl (nx, ls, st, h, kc, ks))
      | none => none) = _
    rw [hz.1 hc]
  · refine w_stepH he s_at_if_icmp (fun call => ?_) (Nat.le_refl _) (Nat.le_refl _) (k2 hc)
    show (match s_con [] cc (vi x) (vi y) with
      | some true => some (Sum.inl (a, ls, st, h, kc, ks))
      | some false => some (Sum.inl (nx, ls, st, h, kc, ks))
      | none => none) = _
    rw [hz.2 hc]
theorem w_if1 {cc : ClassFile.Cond} {off : Int} (he : s_at 32 cd pc = some (49, .ifCond cc off, nx, a, b, c)) (hx : In3 x) (k1 : zc cc x 0 → wr P d cd hd (a, ls, st, h, kc, ks) Q) (k2 : ¬ zc cc x 0 → wr P d cd hd (nx, ls, st, h, kc, ks) Q) : wr P d cd hd (pc, ls, vi x :: st, h, kc, ks) Q := by
  have hz := @zc_con x 0 cc hx (by decide)
  by_cases hc : zc cc x 0
  · refine w_stepH he s_at_ifCond (fun call => ?_) (Nat.le_refl _) (Nat.le_refl _) (k1 hc)
    show (match s_con [] cc (vi x) (.int 0) with
      | some true => some (Sum.inl (a, ls, st, h, kc, ks))
      | some false => some (Sum.inl (nx, ls, st, h, kc, ks))
      | none => none) = _
    have := hz.1 hc
    rw [show (Term.int 0) = vi 0 from rfl, this]
  · refine w_stepH he s_at_ifCond (fun call => ?_) (Nat.le_refl _) (Nat.le_refl _) (k2 hc)
    show (match s_con [] cc (vi x) (.int 0) with
      | some true => some (Sum.inl (a, ls, st, h, kc, ks))
      | some false => some (Sum.inl (nx, ls, st, h, kc, ks))
      | none => none) = _
    have := hz.2 hc
    rw [show (Term.int 0) = vi 0 from rfl, this]
/-- two longs compared, and the branch behind -/
theorem w_lcmp {cc : ClassFile.Cond} {off : Int} {nx1 a1 b1 c1 : Nat} {i1 : Instr} (he1 : s_at 32 cd pc = some (40, i1, nx1, a1, b1, c1)) (he : s_at 32 cd nx1 = some (49, .ifCond cc off, nx, a, b, c)) (hx : In6 x) (hy : In6 y) (k1 : zc cc x y → wr P d cd hd (a, ls, st, h, kc, ks) Q) (k2 : ¬ zc cc x y → wr P d cd hd (nx, ls, st, h, kc, ks) Q) : wr P d cd hd (pc, ls, vl y :: vl x :: st, h, kc, ks) Q := by
  have e : Term.int (lg_cmp (Int64.ofInt x) (Int64.ofInt y)) = vi (if y < x then 1 else if x = y then 0 else -1) := by
    show Term.int (if Int64.ofInt x > Int64.ofInt y then 1 else if Int64.ofInt x = Int64.ofInt y then 0 else -1) = _
    by_cases h1 : y < x
    · rw [if_pos ((vl_lt hy hx).mpr h1), if_pos h1]; rfl
    · rw [if_neg (fun q => h1 ((vl_lt hy hx).mp q)), if_neg h1]
      by_cases h2 : x = y
      · rw [if_pos ((vl_eq hx hy).mpr h2), if_pos h2]; rfl
      · rw [if_neg (fun q => h2 ((vl_eq hx hy).mp q)), if_neg h2]; rfl
  refine w_stepH he1 s_at_lcmp (pc' := nx1) (ls' := ls) (st' := Term.int (lg_cmp (Int64.ofInt x) (Int64.ofInt y)) :: st) (h' := h) (kc' := kc) (ks' := ks) (fun call => ?_) (Nat.le_refl _) (Nat.le_refl _) ?_
  · show s_lc (vl y :: vl x :: st) (fun r => some (Sum.inl (nx1, ls, r, h, kc, ks) : s_S ⊕ s_O)) = _
    rw [s_lc_e]
  · rw [e]
    refine w_if1 he (by split <;> (try split) <;> decide) (fun q => k1 ?_) (fun q => k2 ?_)
    · cases cc <;> simp only [zc] at q ⊢ <;> split at q <;> (try split at q) <;> omega
    · cases cc <;> simp only [zc] at q ⊢ <;> split at q <;> (try split at q) <;> omega
theorem w_ifnull (he : s_at 32 cd pc = some (51, i, nx, a, b, c)) (k1 : v = .null → wr P d cd hd (a, ls, st, h, kc, ks) Q) (k2 : ∀ q, v = .index q → wr P d cd hd (nx, ls, st, h, kc, ks) Q) (hv : s_ty v = 3) : wr P d cd hd (pc, ls, v :: st, h, kc, ks) Q := by
  rcases s_ty3 hv with rfl | ⟨q, rfl⟩
  · exact w_stepH he s_at_ifnull (fun call => rfl) (Nat.le_refl _) (Nat.le_refl _) (k1 rfl)
  · exact w_stepH he s_at_ifnull (fun call => rfl) (Nat.le_refl _) (Nat.le_refl _) (k2 q rfl)
theorem w_ifnonnull (he : s_at 32 cd pc = some (52, i, nx, a, b, c)) (k1 : ∀ q, v = .index q → wr P d cd hd (a, ls, st, h, kc, ks) Q) (k2 : v = .null → wr P d cd hd (nx, ls, st, h, kc, ks) Q) (hv : s_ty v = 3) : wr P d cd hd (pc, ls, v :: st, h, kc, ks) Q := by
  rcases s_ty3 hv with rfl | ⟨q, rfl⟩
  · exact w_stepH he s_at_ifnonnull (fun call => rfl) (Nat.le_refl _) (Nat.le_refl _) (k2 rfl)
  · exact w_stepH he s_at_ifnonnull (fun call => rfl) (Nat.le_refl _) (Nat.le_refl _) (k1 q rfl)
end S71
