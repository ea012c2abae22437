/-! WHAT A TERM STANDS FOR, and the machine's lists -/
def s_b2 (f : Int32 → Int32 → Int32) : Option Value → Option Value → Option Value
  | some (.int x), some (.int y) => some (.int (f x y))
  | _, _ => none
def s_bl (f : Int64 → Int64 → Int64) : Option Value → Option Value → Option Value
  | some (.long x), some (.long y) => some (.long (f x y))
  | _, _ => none
def s_bs (f : Int64 → Int32 → Int64) : Option Value → Option Value → Option Value
  | some (.long x), some (.int y) => some (.long (f x y))
  | _, _ => none
def s_bc : Option Value → Option Value → Option Value
  | some (.long x), some (.long y) => some (.int (lg_cmp x y))
  | _, _ => none
def s_o2 (o : Binary) (x y : Option Value) : Option Value := match o with
  | .iand => s_b2 (fun x y => x &&& y) x y
  | .ior => s_b2 (fun x y => x ||| y) x y
  | .ixor => s_b2 (fun x y => x ^^^ y) x y
  | .ishl => s_b2 (fun x y => x <<< (y &&& 31)) x y
  | .ishr => s_b2 (fun x y => x >>> (y &&& 31)) x y
  | .ladd => s_bl (fun x y => x + y) x y
  | .lsub => s_bl (fun x y => x - y) x y
  | .lmul => s_bl (fun x y => x * y) x y
  | .lrem => s_bl (fun x y => x - x / y * y) x y
  | .ldiv => s_bl (fun x y => x / y) x y
  | .land => s_bl (fun x y => x &&& y) x y
  | .lor => s_bl (fun x y => x ||| y) x y
  | .lxor => s_bl (fun x y => x ^^^ y) x y
  | .lshl => s_bs (fun x y => x <<< (y.toInt64 &&& 63)) x y
  | .lshr => s_bs (fun x y => x >>> (y.toInt64 &&& 63)) x y
  | .lushr => s_bs (fun x y => (x.toUInt64 >>> (y.toInt64.toUInt64 &&& Int64.toUInt64 63)).toInt64) x y
  | .lcmp => s_bc x y
  | _ => none
def s_o1 (o : Unary) (x : Option Value) : Option Value := match o, x with
  | .ineg, some (.int x) => some (.int (-x))
  | .lneg, some (.long x) => some (.long (-x))
  | .i2l, some (.int x) => some (.long x.toInt64)
  | .l2i, some (.long x) => some (.int x.toInt32)
  | _, _ => none
def s_den (ρ : Nat → Int32) (ad : List Nat) : Term → Option Value
  | .int v => some (.int v)
  | .long v => some (.long v)
  | .null => some .null
  | .index k => (ad[k]?).map Value.ref
  | .arg i => some (.int (ρ i))
  | .add a b => s_b2 (fun x y => x + y) (s_den ρ ad a) (s_den ρ ad b)
  | .sub a b => s_b2 (fun x y => x - y) (s_den ρ ad a) (s_den ρ ad b)
  | .mul a b => s_b2 (fun x y => x * y) (s_den ρ ad a) (s_den ρ ad b)
  | .div a b => s_b2 (fun x y => x / y) (s_den ρ ad a) (s_den ρ ad b)
  | .rem a b => s_b2 (fun x y => x - x / y * y) (s_den ρ ad a) (s_den ρ ad b)
  | .op1 o a => s_o1 o (s_den ρ ad a)
  | .op2 o a b => s_o2 o (s_den ρ ad a) (s_den ρ ad b)
  | _ => none
theorem s_b2_inv {f : Int32 → Int32 → Int32} {x y : Option Value} {v : Value} (h : s_b2 f x y = some v) : ∃ a b, x = some (.int a) ∧ y = some (.int b) ∧ v = .int (f a b) := by
  unfold s_b2 at h
  split at h
  · cases h; exact ⟨_, _, rfl, rfl, rfl⟩
  · cases h
theorem s_bl_inv {f : Int64 → Int64 → Int64} {x y : Option Value} {v : Value} (h : s_bl f x y = some v) : ∃ a b, x = some (.long a) ∧ y = some (.long b) ∧ v = .long (f a b) := by
  unfold s_bl at h
  split at h
  · cases h; exact ⟨_, _, rfl, rfl, rfl⟩
  · cases h
theorem s_bs_inv {f : Int64 → Int32 → Int64} {x y : Option Value} {v : Value} (h : s_bs f x y = some v) : ∃ a b, x = some (.long a) ∧ y = some (.int b) ∧ v = .long (f a b) := by
  unfold s_bs at h
  split at h
  · cases h; exact ⟨_, _, rfl, rfl, rfl⟩
  · cases h
theorem s_bc_inv {x y : Option Value} {v : Value} (h : s_bc x y = some v) : ∃ a b, x = some (.long a) ∧ y = some (.long b) ∧ v = .int (lg_cmp a b) := by
  unfold s_bc at h
  split at h
  · cases h; exact ⟨_, _, rfl, rfl, rfl⟩
  · cases h
theorem s_o2_some {o : Binary} {x y : Option Value} {v : Value} (h : s_o2 o x y = some v) : ∃ a b, x = some a ∧ y = some b := by
  cases o <;> simp only [s_o2] at h <;> first
    | exact absurd h (by simp)
    | exact Exists.elim (s_b2_inv h) fun a q => Exists.elim q fun b w => ⟨_, _, w.1, w.2.1⟩
    | exact Exists.elim (s_bl_inv h) fun a q => Exists.elim q fun b w => ⟨_, _, w.1, w.2.1⟩
    | exact Exists.elim (s_bs_inv h) fun a q => Exists.elim q fun b w => ⟨_, _, w.1, w.2.1⟩
    | exact Exists.elim (s_bc_inv h) fun a q => Exists.elim q fun b w => ⟨_, _, w.1, w.2.1⟩
theorem s_o1_some {o : Unary} {x : Option Value} {v : Value} (h : s_o1 o x = some v) : ∃ a, x = some a := by
  cases x with
  | none => cases o <;> simp [s_o1] at h
  | some a => exact ⟨a, rfl⟩
theorem s_den_mono {ρ : Nat → Int32} {ad : List Nat} (l : List Nat) : ∀ (t : Term) (v : Value), s_den ρ ad t = some v → s_den ρ (ad ++ l) t = some v := by
  intro t
  induction t with
  | index k =>
    intro v h
    simp only [s_den, Option.map_eq_some_iff] at h ⊢
    obtain ⟨a, h1, h2⟩ := h
    exact ⟨a, by rw [List.getElem?_append_left (List.getElem?_eq_some_iff.mp h1).1]; exact h1, h2⟩
  | add a b iha ihb => intro v h; simp only [s_den] at h ⊢; obtain ⟨x, y, h1, h2, rfl⟩ := s_b2_inv h; rw [iha _ h1, ihb _ h2]; rfl
  | sub a b iha ihb => intro v h; simp only [s_den] at h ⊢; obtain ⟨x, y, h1, h2, rfl⟩ := s_b2_inv h; rw [iha _ h1, ihb _ h2]; rfl
  | mul a b iha ihb => intro v h; simp only [s_den] at h ⊢; obtain ⟨x, y, h1, h2, rfl⟩ := s_b2_inv h; rw [iha _ h1, ihb _ h2]; rfl
  | div a b iha ihb => intro v h; simp only [s_den] at h ⊢; obtain ⟨x, y, h1, h2, rfl⟩ := s_b2_inv h; rw [iha _ h1, ihb _ h2]; rfl
  | rem a b iha ihb => intro v h; simp only [s_den] at h ⊢; obtain ⟨x, y, h1, h2, rfl⟩ := s_b2_inv h; rw [iha _ h1, ihb _ h2]; rfl
  | op1 o a iha => intro v h; simp only [s_den] at h ⊢; obtain ⟨x, h1⟩ := s_o1_some h; rw [iha _ h1]; rw [h1] at h; exact h
  | op2 o a b iha ihb => intro v h; simp only [s_den] at h ⊢; obtain ⟨x, y, h1, h2⟩ := s_o2_some h; rw [iha _ h1, ihb _ h2]; rw [h1, h2] at h; exact h
  | _ => intro v h; first | exact h | (simp only [s_den] at h ⊢; exact h) | (simp [s_den] at h)
/-- what a term stands for has the term's type -/
theorem s_cat {ρ : Nat → Int32} {ad : List Nat} {t : Term} {v : Value} (h : s_den ρ ad t = some v) : (s_ty t = 1 ∧ ∃ x, v = .int x) ∨ (s_ty t = 2 ∧ ∃ x, v = .long x) ∨ (s_ty t = 3 ∧ ((t = .null ∧ v = .null) ∨ ∃ k a, t = .index k ∧ v = .ref a ∧ ad[k]? = some a)) := by
  cases t with
  | int x => cases h; exact Or.inl ⟨rfl, _, rfl⟩
  | long x => cases h; exact Or.inr (Or.inl ⟨rfl, _, rfl⟩)
  | null => cases h; exact Or.inr (Or.inr ⟨rfl, Or.inl ⟨rfl, rfl⟩⟩)
  | index k =>
    simp only [s_den, Option.map_eq_some_iff] at h
    obtain ⟨a, h1, h2⟩ := h
    exact Or.inr (Or.inr ⟨rfl, Or.inr ⟨k, a, rfl, h2.symm, h1⟩⟩)
  | arg i => cases h; exact Or.inl ⟨rfl, _, rfl⟩
  | add a b => obtain ⟨x, y, -, -, rfl⟩ := s_b2_inv h; exact Or.inl ⟨rfl, _, rfl⟩
  | sub a b => obtain ⟨x, y, -, -, rfl⟩ := s_b2_inv h; exact Or.inl ⟨rfl, _, rfl⟩
  | mul a b => obtain ⟨x, y, -, -, rfl⟩ := s_b2_inv h; exact Or.inl ⟨rfl, _, rfl⟩
  | div a b => obtain ⟨x, y, -, -, rfl⟩ := s_b2_inv h; exact Or.inl ⟨rfl, _, rfl⟩
  | rem a b => obtain ⟨x, y, -, -, rfl⟩ := s_b2_inv h; exact Or.inl ⟨rfl, _, rfl⟩
  | op1 o a =>
    simp only [s_den] at h
    cases hx : s_den ρ ad a with
    | none => rw [hx] at h; cases o <;> simp [s_o1] at h
    | some w => rw [hx] at h; cases o <;> cases w <;> simp [s_o1] at h <;> subst h <;> simp [s_ty]
  | op2 o a b =>
    simp only [s_den] at h
    cases o <;> simp only [s_o2] at h <;> first
      | exact absurd h (by simp)
      | exact Exists.elim (s_b2_inv h) fun a q => Exists.elim q fun b w => Or.inl ⟨rfl, _, w.2.2⟩
      | exact Exists.elim (s_bl_inv h) fun a q => Exists.elim q fun b w => Or.inr (Or.inl ⟨rfl, _, w.2.2⟩)
      | exact Exists.elim (s_bs_inv h) fun a q => Exists.elim q fun b w => Or.inr (Or.inl ⟨rfl, _, w.2.2⟩)
      | exact Exists.elim (s_bc_inv h) fun a q => Exists.elim q fun b w => Or.inl ⟨rfl, _, w.2.2⟩
  | _ => simp [s_den] at h
theorem s_is1 {ρ : Nat → Int32} {ad : List Nat} {t : Term} {v : Value} (h : s_den ρ ad t = some v) (ht : s_ty t = 1) : ∃ x, v = .int x := by
  rcases s_cat h with ⟨-, q⟩ | ⟨q, -⟩ | ⟨q, -⟩
  · exact q
  · rw [ht] at q; cases q
  · rw [ht] at q; cases q
theorem s_is2 {ρ : Nat → Int32} {ad : List Nat} {t : Term} {v : Value} (h : s_den ρ ad t = some v) (ht : s_ty t = 2) : ∃ x, v = .long x := by
  rcases s_cat h with ⟨q, -⟩ | ⟨-, q⟩ | ⟨q, -⟩
  · rw [ht] at q; cases q
  · exact q
  · rw [ht] at q; cases q
theorem s_is3 {ρ : Nat → Int32} {ad : List Nat} {t : Term} {v : Value} (h : s_den ρ ad t = some v) (ht : s_ty t = 3) : v = .null ∨ ∃ a, v = .ref a := by
  rcases s_cat h with ⟨q, -⟩ | ⟨q, -⟩ | ⟨-, ⟨-, q⟩ | ⟨_, a, -, q, -⟩⟩
  · rw [ht] at q; cases q
  · rw [ht] at q; cases q
  · exact Or.inl q
  · exact Or.inr ⟨a, q⟩
theorem s_cat1 {ρ : Nat → Int32} {ad : List Nat} {t : Term} {v : Value} (h : s_den ρ ad t = some v) (ht : ¬ s_ty t = 2) : v.category = 1 := by
  rcases s_cat h with ⟨-, x, rfl⟩ | ⟨q, -⟩ | ⟨-, ⟨-, rfl⟩ | ⟨_, a, -, rfl, -⟩⟩
  · rfl
  · exact absurd q ht
  · rfl
  · rfl
/-- lists of terms, and what they stand for -/
def s_DS (ρ : Nat → Int32) (ad : List Nat) : List Term → List Value → Prop
  | [], [] => True
  | t :: ts, v :: vs => s_den ρ ad t = some v ∧ s_DS ρ ad ts vs
  | _, _ => False
theorem s_DS_c {ρ : Nat → Int32} {ad : List Nat} {t : Term} {ts : List Term} {vs : List Value} (h : s_DS ρ ad (t :: ts) vs) : ∃ v vs', vs = v :: vs' ∧ s_den ρ ad t = some v ∧ s_DS ρ ad ts vs' := by
  cases vs with
  | nil => exact h.elim
  | cons v vs => exact ⟨v, vs, rfl, h.1, h.2⟩
theorem s_DS_n {ρ : Nat → Int32} {ad : List Nat} {vs : List Value} (h : s_DS ρ ad [] vs) : vs = [] := by
  cases vs with
  | nil => rfl
  | cons v vs => exact h.elim
theorem s_DS_mono {ρ : Nat → Int32} {ad : List Nat} (l : List Nat) : ∀ {ts : List Term} {vs : List Value}, s_DS ρ ad ts vs → s_DS ρ (ad ++ l) ts vs
  | [], vs, h => by rw [s_DS_n h]; trivial
  | t :: ts, vs, h => by
    obtain ⟨v, vs', rfl, h1, h2⟩ := s_DS_c h
    exact ⟨s_den_mono l t v h1, s_DS_mono l h2⟩
theorem s_DS_len {ρ : Nat → Int32} {ad : List Nat} : ∀ {ts : List Term} {vs : List Value}, s_DS ρ ad ts vs → ts.length = vs.length
  | [], vs, h => by rw [s_DS_n h]; rfl
  | t :: ts, vs, h => by
    obtain ⟨v, vs', rfl, h1, h2⟩ := s_DS_c h
    simp [s_DS_len h2]
theorem s_nth_eq {α : Type} : ∀ (l : List α) (n : Nat), s_nth l n = l[n]?
  | [], n => by simp [s_nth]
  | x :: xs, 0 => rfl
  | x :: xs, n + 1 => by
    have := s_nth_eq xs n
    simp only [List.getElem?_cons_succ]
    rw [← this]
    rfl
theorem s_DS_nth {ρ : Nat → Int32} {ad : List Nat} : ∀ {ts : List Term} {vs : List Value} {i : Nat} {t : Term}, s_DS ρ ad ts vs → ts[i]? = some t → ∃ v, s_den ρ ad t = some v ∧ vs[i]? = some v
  | [], vs, i, t, h, hi => by simp at hi
  | t0 :: ts, vs, 0, t, h, hi => by
    obtain ⟨v, vs', rfl, h1, h2⟩ := s_DS_c h
    simp at hi; subst hi
    exact ⟨v, h1, rfl⟩
  | t0 :: ts, vs, i + 1, t, h, hi => by
    obtain ⟨v, vs', rfl, h1, h2⟩ := s_DS_c h
    rw [List.getElem?_cons_succ] at hi ⊢
    exact s_DS_nth h2 hi
theorem s_DS_set {ρ : Nat → Int32} {ad : List Nat} {t : Term} {v : Value} (ht : s_den ρ ad t = some v) : ∀ {ts : List Term} {vs : List Value} (i : Nat), s_DS ρ ad ts vs → s_DS ρ ad (ts.set i t) (vs.set i v)
  | [], vs, i, h => by rw [s_DS_n h]; trivial
  | t0 :: ts, vs, 0, h => by
    obtain ⟨v0, vs', rfl, h1, h2⟩ := s_DS_c h
    exact ⟨ht, h2⟩
  | t0 :: ts, vs, i + 1, h => by
    obtain ⟨v0, vs', rfl, h1, h2⟩ := s_DS_c h
    exact ⟨h1, s_DS_set ht i h2⟩
theorem s_DS_rep {ρ : Nat → Int32} {ad : List Nat} {t : Term} {v : Value} (ht : s_den ρ ad t = some v) : ∀ n : Nat, s_DS ρ ad (List.replicate n t) (List.replicate n v)
  | 0 => trivial
  | n + 1 => ⟨ht, s_DS_rep ht n⟩
theorem s_DS_app {ρ : Nat → Int32} {ad : List Nat} : ∀ {ts ts2 : List Term} {vs vs2 : List Value}, s_DS ρ ad ts vs → s_DS ρ ad ts2 vs2 → s_DS ρ ad (ts ++ ts2) (vs ++ vs2)
  | [], ts2, vs, vs2, h, h2 => by rw [s_DS_n h]; exact h2
  | t :: ts, ts2, vs, vs2, h, h2 => by
    obtain ⟨v, vs', rfl, h1, h3⟩ := s_DS_c h
    exact ⟨h1, s_DS_app h3 h2⟩
theorem s_setK_s {α β : Type} {c : α} : ∀ {l : List α} {i : Nat} {k : List α → Option β} {r : β}, s_setK c l i k = some r → i < l.length ∧ k (l.set i c) = some r
  | [], i, k, r, h => by simp [s_setK] at h
  | x :: xs, 0, k, r, h => ⟨by simp, h⟩
  | x :: xs, n + 1, k, r, h => by
    have h' : s_setK c xs n (fun ys => k (x :: ys)) = some r := h
    obtain ⟨h1, h2⟩ := s_setK_s h'
    exact ⟨by simp; omega, h2⟩
theorem s_fN_e {β : Type} (n : Nat) (k : Nat → Option β) : s_fN n k = k n := by cases n <;> rfl
theorem s_fI_e {β : Type} (x : Int32) (k : Term → Option β) : s_fI x k = k (.int x) := by
  have h : Int32.ofNat x.toBitVec.toNat = x := by
    apply Int32.toBitVec_inj.mp
    simp [Int32.ofNat]
  unfold s_fI
  split
  · rename_i h0
    rw [h0] at h
    rw [← h]; rfl
  · rename_i m h0
    rw [h0] at h
    rw [h]
theorem s_fL_e {β : Type} (x : Int64) (k : Term → Option β) : s_fL x k = k (.long x) := by
  have h : Int64.ofNat x.toBitVec.toNat = x := by
    apply Int64.toBitVec_inj.mp
    simp [Int64.ofNat]
  unfold s_fL
  split
  · rename_i h0
    rw [h0] at h
    rw [← h]; rfl
  · rename_i m h0
    rw [h0] at h
    rw [h]
theorem s_put_s {β : Type} {h : s_H} {k : Nat} {c : s_C} {q : s_H → Option β} {r : β} (e : s_put h k c q = some r) : ∃ h', q h' = some r ∧ h'.1 = h.1 ∧ (∃ c0, s_get h k = some c0) ∧ ∀ j, s_get h' j = if j = k then some c else s_get h j := by
  unfold s_put at e
  cases e1 : s_nth h.2 (k / 144) with
  | none => rw [e1] at e; cases e
  | some r1 =>
    rw [e1] at e
    cases e2 : s_nth r1 (k / 12 % 12) with
    | none => simp only [e2] at e; cases e
    | some r2 =>
      simp only [e2] at e
      obtain ⟨l3, e⟩ := s_setK_s e
      obtain ⟨l2, e⟩ := s_setK_s e
      obtain ⟨l1, e⟩ := s_setK_s e
      refine ⟨_, e, rfl, ⟨r2[k % 12], ?_⟩, fun j => ?_⟩
      · simp only [s_get, e1, e2, s_nth_eq]
        exact List.getElem?_eq_getElem l3
      · simp only [s_nth_eq] at e1 e2
        simp only [s_get, s_nth_eq]
        by_cases hj : j = k
        · subst hj
          simp [l1, l2, l3]
        · rw [if_neg hj]
          by_cases h1 : j / 144 = k / 144
          · rw [h1, List.getElem?_set_self l1, e1]
            by_cases h2 : j / 12 % 12 = k / 12 % 12
            · simp only [h2, List.getElem?_set_self l2, e2]
              rw [List.getElem?_set_ne (by omega)]
            · simp only []
              rw [List.getElem?_set_ne (fun q => h2 q.symm)]
          · rw [List.getElem?_set_ne (fun q => h1 q.symm)]
theorem s_push_s {β : Type} {h : s_H} {c : s_C} {q : s_H → Option β} {r : β} (e : s_push h c q = some r) : ∃ h', q h' = some r ∧ h'.1 = h.1 + 1 ∧ ∀ j, s_get h' j = if j = h.1 then some c else s_get h j := by
  unfold s_push at e
  obtain ⟨h1, e1, e2, -, e4⟩ := s_put_s e
  rw [s_fN_e] at e1
  exact ⟨(h.1 + 1, h1.2), e1, rfl, fun j => e4 j⟩
theorem s_stK_s {β : Type} {v : Term} : ∀ {l : List Term} {i : Nat} {k : List Term → Option β} {r : β}, s_stK v l i k = some r → ∃ l', k l' = some r ∧ l'.length = l.length ∧ i < l.length ∧ l'[i]? = some v ∧ ∀ (j : Nat) (u : Term), j ≠ i → l'[j]? = some u → u = .result ∨ (l[j]? = some u ∧ ¬ (j + 1 = i ∧ s_ty u = 2))
  | [], i, k, r, h => by simp [s_stK] at h
  | x :: xs, 0, k, r, h => by
    refine ⟨v :: xs, h, rfl, by simp, rfl, fun j u hj hu => Or.inr ?_⟩
    cases j with
    | zero => exact absurd rfl hj
    | succ j => exact ⟨by simpa using hu, by omega⟩
  | x :: xs, n + 1, k, r, h => by
    have h' : (match Nat.beq n 0 && Nat.beq (s_ty x) 2 with
      | true => s_stK v xs n (fun ys => k (.result :: ys))
      | false => s_stK v xs n (fun ys => k (x :: ys))) = some r := h
    cases hb : (Nat.beq n 0 && Nat.beq (s_ty x) 2) with
    | true =>
      rw [hb] at h'
      obtain ⟨l', e1, e2, e3, e4, e5⟩ := s_stK_s h'
      refine ⟨_, e1, by simp [e2], by simp; omega, by simpa using e4, fun j u hj hu => ?_⟩
      cases j with
      | zero => simp at hu; exact Or.inl hu.symm
      | succ j =>
        rcases e5 j u (by omega) (by simpa using hu) with q | ⟨q1, q2⟩
        · exact Or.inl q
        · exact Or.inr ⟨by simpa using q1, fun z => q2 ⟨by omega, z.2⟩⟩
    | false =>
      rw [hb] at h'
      obtain ⟨l', e1, e2, e3, e4, e5⟩ := s_stK_s h'
      refine ⟨_, e1, by simp [e2], by simp; omega, by simpa using e4, fun j u hj hu => ?_⟩
      cases j with
      | zero =>
        simp at hu
        subst hu
        refine Or.inr ⟨rfl, fun z => ?_⟩
        have hn : n = 0 := by omega
        subst hn
        rw [z.2] at hb
        cases hb
      | succ j =>
        rcases e5 j u (by omega) (by simpa using hu) with q | ⟨q1, q2⟩
        · exact Or.inl q
        · exact Or.inr ⟨by simpa using q1, fun z => q2 ⟨by omega, z.2⟩⟩
theorem s_take_s {β : Type} : ∀ {n : Nat} {st acc : List Term} {k : List Term → List Term → Option β} {r : β}, s_take n st acc k = some r → ∃ as rest, k (as ++ acc) rest = some r ∧ st = as.reverse ++ rest ∧ as.length = n
  | 0, st, acc, k, r, h => ⟨[], st, h, rfl, rfl⟩
  | n + 1, [], acc, k, r, h => by simp [s_take] at h
  | n + 1, v :: st, acc, k, r, h => by
    obtain ⟨as, rest, h1, h2, h3⟩ := s_take_s (show s_take n st (v :: acc) k = some r from h)
    exact ⟨as ++ [v], rest, by simpa using h1, by rw [h2]; simp, by simp [h3]⟩
theorem s_eqT_s : ∀ {a b : Term}, s_eqT a b = true → a = b := by
  intro a
  induction a with
  | int x => intro b h; cases b <;> simp_all [s_eqT]
  | long x => intro b h; cases b <;> simp_all [s_eqT]
  | arg i => intro b h; cases b <;> simp_all [s_eqT]
  | add x y ihx ihy => intro b h; cases b <;> simp [s_eqT] at h; rw [ihx h.1, ihy h.2]
  | sub x y ihx ihy => intro b h; cases b <;> simp [s_eqT] at h; rw [ihx h.1, ihy h.2]
  | mul x y ihx ihy => intro b h; cases b <;> simp [s_eqT] at h; rw [ihx h.1, ihy h.2]
  | div x y ihx ihy => intro b h; cases b <;> simp [s_eqT] at h; rw [ihx h.1, ihy h.2]
  | rem x y ihx ihy => intro b h; cases b <;> simp [s_eqT] at h; rw [ihx h.1, ihy h.2]
  | op1 o x ihx => intro b h; cases b <;> simp [s_eqT] at h; rw [h.1, ihx h.2]
  | op2 o x y ihx ihy => intro b h; cases b <;> simp [s_eqT] at h; rw [h.1.1, ihx h.1.2, ihy h.2]
  | _ => intro b h; simp [s_eqT] at h
/-- the facts hold -/
def s_FH (ρ : Nat → Int32) (F : s_F) : Prop := ∀ q ∈ F, ∀ (ad : List Nat) (x y : Int32), s_den ρ ad q.1.2.1 = some (.int x) → s_den ρ ad q.1.2.2 = some (.int y) → s_cmp q.1.1 x y = q.2
theorem s_look_s {ρ : Nat → Int32} : ∀ {F : s_F} {c : Nat} {a b : Term} {r : Bool}, s_FH ρ F → s_look F c a b = some r → ∀ (ad : List Nat) (x y : Int32), s_den ρ ad a = some (.int x) → s_den ρ ad b = some (.int y) → s_cmp c x y = r
  | [], c, a, b, r, hF, h => by simp [s_look] at h
  | ((c0, a0, b0), r0) :: F, c, a, b, r, hF, h => by
    simp only [s_look] at h
    split at h
    · rename_i hb
      simp only [Bool.and_eq_true] at hb
      obtain ⟨⟨h1, h2⟩, h3⟩ := hb
      cases h
      have e1 := Nat.eq_of_beq_eq_true h1
      have e2 := s_eqT_s h2
      have e3 := s_eqT_s h3
      subst e1; subst e2; subst e3
      exact hF _ List.mem_cons_self
    · exact s_look_s (fun q hq => hF q (List.mem_cons_of_mem _ hq)) h
theorem s_cond_s {ρ : Nat → Int32} {F : s_F} {c : Nat} {a b : Term} {r : Bool} (hF : s_FH ρ F) (h : s_cond F c a b = some r) {ad : List Nat} {v w : Value} (ha : s_den ρ ad a = some v) (hb : s_den ρ ad b = some w) : ∃ x y, v = .int x ∧ w = .int y ∧ s_cmp c x y = r := by
  unfold s_cond at h
  split at h
  · cases ha; cases hb; exact ⟨_, _, rfl, rfl, Option.some.inj h⟩
  · split at h
    · rename_i hc
      simp only [Bool.and_eq_true] at hc
      obtain ⟨x, rfl⟩ := s_is1 ha (Nat.eq_of_beq_eq_true hc.1)
      obtain ⟨y, rfl⟩ := s_is1 hb (Nat.eq_of_beq_eq_true hc.2)
      exact ⟨x, y, rfl, rfl, s_look_s hF h ad x y ha hb⟩
    · cases h
