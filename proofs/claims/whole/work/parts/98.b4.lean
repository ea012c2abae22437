/-! clearing a table: what stays, and the steps -/
/-- the y for which all rows come to 0 -/
def ker (M : Nat → Nat → zp_F) (h : Nat) (y : Nat → zp_F) : Prop := ∀ n, n < h → zp_sum (fun i => M n i * y i) 48 = 0
/-- how many columns ahead have a row of their own -/
def pc (R : Nat → Int) : Nat → Nat
  | 0 => 0
  | j + 1 => pc R j + (if R j = -1 then 0 else 1)
theorem pc_le (R : Nat → Int) {i : Nat} : ∀ {j : Nat}, i ≤ j → pc R i ≤ pc R j
  | 0, h => by rw [show i = 0 by omega]; exact Nat.le_refl _
  | j + 1, h => by
    by_cases e : i = j + 1
    · rw [e]; exact Nat.le_refl _
    · exact Nat.le_trans (pc_le R (show i ≤ j by omega)) (Nat.le_add_right _ _)
theorem pc_lt {R : Nat → Int} {i j : Nat} (h : i < j) (hp : R i ≠ -1) : pc R i < pc R j := by
  have := pc_le R (show i + 1 ≤ j from h)
  have e : pc R (i + 1) = pc R i + 1 := by
    show pc R i + (if R i = -1 then 0 else 1) = _
    rw [if_neg hp]
  omega
theorem pc_b (R : Nat → Int) : ∀ j, pc R j ≤ j
  | 0 => Nat.le_refl _
  | j + 1 => by
    have := pc_b R j
    show pc R j + (if R j = -1 then 0 else 1) ≤ j + 1
    split <;> omega
theorem pc_congr {R R' : Nat → Int} : ∀ {c : Nat}, (∀ j, j < c → R' j = R j) → pc R' c = pc R c
  | 0, _ => rfl
  | c + 1, h => by
    show pc R' c + (if R' c = -1 then 0 else 1) = pc R c + (if R c = -1 then 0 else 1)
    rw [pc_congr (fun j hj => h j (by omega)), h c (by omega)]
/-- the first c columns of B are clear, and B is M for all that rows can tell -/
def rr (M B : Nat → Nat → zp_F) (h c : Nat) (R : Nat → Int) : Prop :=
  (∀ y, ker M h y ↔ ker B h y) ∧ ∀ j, j < c → (R j = -1 ∧ ∀ n, n < h → pc R j ≤ n → B n j = 0) ∨ (R j = pc R j ∧ pc R j < h ∧ B (pc R j) j = 1 ∧ ∀ n, n < h → n ≠ pc R j → B n j = 0)
theorem rr_0 (M : Nat → Nat → zp_F) (h : Nat) (R : Nat → Int) : rr M M h 0 R := ⟨fun _ => Iff.rfl, fun j hj => absurd hj (Nat.not_lt_zero j)⟩
theorem rr_free {M B : Nat → Nat → zp_F} {h c : Nat} {R R' : Nat → Int} (a : rr M B h c R) (e : ∀ j, j < c → R' j = R j) (e1 : R' c = -1) (z : ∀ n, n < h → pc R c ≤ n → B n c = 0) : rr M B h (c + 1) R' := by
  refine ⟨a.1, fun j hj => ?_⟩
  by_cases hc : j = c
  · subst hc
    refine .inl ⟨e1, fun n hn hp => z n hn ?_⟩
    rw [pc_congr e] at hp
    exact hp
  · have hj2 : j < c := by omega
    rw [e j hj2, pc_congr (R := R) (R' := R') (c := j) (fun i hi2 => e i (by omega))]
    exact a.2 j hj2
/-- row k times b comes to r, row r to k -/
def op1 (M : Nat → Nat → zp_F) (k r : Nat) (b : zp_F) : Nat → Nat → zp_F := fun n i => if n = r then M k i * b else if n = k then M r i else M n i
/-- so many times row r is taken from all others of h -/
def op2 (M : Nat → Nat → zp_F) (h r c : Nat) : Nat → Nat → zp_F := fun n i => if n < h ∧ n ≠ r then M n i - M n c * M r i else M n i
theorem sum_sc {f : Nat → zp_F} (b : zp_F) (y : Nat → zp_F) (n : Nat) : zp_sum (fun i => f i * b * y i) n = b * zp_sum (fun i => f i * y i) n := by
  rw [← zp_sum_mul]
  exact zp_sum_congr (fun i _ => @sc_h2 zp_F _ (f i) b (y i))
where sc_h2 : ∀ {R : Type} [Lean.Grind.CommRing R] (a b c : R), a * b * c = b * (a * c) := by intro R _ a b c; grind
theorem sum_df {f g : Nat → zp_F} (b : zp_F) (y : Nat → zp_F) (n : Nat) : zp_sum (fun i => (f i - b * g i) * y i) n = zp_sum (fun i => f i * y i) n + (-b) * zp_sum (fun i => g i * y i) n := by
  rw [← zp_sum_mul, ← zp_sum_add]
  exact zp_sum_congr (fun i _ => @df_h zp_F _ _ _ _ _)
where df_h : ∀ {R : Type} [Lean.Grind.CommRing R] (a b c d : R), (a - b * c) * d = a * d + -b * (c * d) := by intro R _ a b c d; grind
theorem zp_ml0 (a : zp_F) : a * 0 = 0 := zp_h15 a
theorem zp_0ml (a : zp_F) : 0 * a = 0 := (@zp_h20 zp_F _ _ _).trans (zp_h15 a)
theorem ad_0 (a : zp_F) : a + 0 = a := @fil_t.fl_h9 zp_F _ a
theorem ker_op1 {M : Nat → Nat → zp_F} {h k r : Nat} {b : zp_F} (hk : k < h) (hr : r < h) (b0 : b ≠ 0) (y : Nat → zp_F) : ker M h y ↔ ker (op1 M k r b) h y := by
  have e1 : ∀ n, n = r → zp_sum (fun i => op1 M k r b n i * y i) 48 = b * zp_sum (fun i => M k i * y i) 48 := fun n e => by
    rw [← sum_sc]
    refine zp_sum_congr (fun i _ => ?_)
    show (if n = r then M k i * b else if n = k then M r i else M n i) * y i = _
    rw [if_pos e]
  have e2 : ∀ n, n ≠ r → n = k → zp_sum (fun i => op1 M k r b n i * y i) 48 = zp_sum (fun i => M r i * y i) 48 := fun n e e' => by
    refine zp_sum_congr (fun i _ => ?_)
    show (if n = r then M k i * b else if n = k then M r i else M n i) * y i = _
    rw [if_neg e, if_pos e']
  have e3 : ∀ n, n ≠ r → n ≠ k → zp_sum (fun i => op1 M k r b n i * y i) 48 = zp_sum (fun i => M n i * y i) 48 := fun n e e' => by
    refine zp_sum_congr (fun i _ => ?_)
    show (if n = r then M k i * b else if n = k then M r i else M n i) * y i = _
    rw [if_neg e, if_neg e']
  refine ⟨fun a n hn => ?_, fun a n hn => ?_⟩
  · by_cases h1 : n = r
    · rw [e1 n h1, a k hk, zp_ml0]
    · by_cases h2 : n = k
      · rw [e2 n h1 h2]; exact a r hr
      · rw [e3 n h1 h2]; exact a n hn
  · have ar := a r hr
    rw [e1 r rfl] at ar
    have ak : zp_sum (fun i => M k i * y i) 48 = 0 := (zp_dom ar).resolve_left b0
    by_cases h2 : n = k
    · rw [h2]; exact ak
    · by_cases h1 : n = r
      · by_cases h3 : k = r
        · exact absurd (h1.trans h3.symm) h2
        · have := a k hk
          rw [e2 k h3 rfl] at this
          rw [h1]; exact this
      · have := a n hn
        rw [e3 n h1 h2] at this
        exact this
theorem ker_op2 {M : Nat → Nat → zp_F} {h r c : Nat} (hr : r < h) (y : Nat → zp_F) : ker M h y ↔ ker (op2 M h r c) h y := by
  have e1 : zp_sum (fun i => op2 M h r c r i * y i) 48 = zp_sum (fun i => M r i * y i) 48 := by
    refine zp_sum_congr (fun i _ => ?_)
    show (if r < h ∧ r ≠ r then M r i - M r c * M r i else M r i) * y i = _
    rw [if_neg (fun w => w.2 rfl)]
  have e2 : ∀ n, n < h → n ≠ r → zp_sum (fun i => op2 M h r c n i * y i) 48 = zp_sum (fun i => M n i * y i) 48 + (-(M n c)) * zp_sum (fun i => M r i * y i) 48 := fun n hn e => by
    rw [← sum_df]
    refine zp_sum_congr (fun i _ => ?_)
    show (if n < h ∧ n ≠ r then M n i - M n c * M r i else M n i) * y i = _
    rw [if_pos ⟨hn, e⟩]
  refine ⟨fun a n hn => ?_, fun a n hn => ?_⟩
  · by_cases h1 : n = r
    · rw [h1, e1]; exact a r hr
    · rw [e2 n hn h1, a n hn, a r hr, zp_ml0]; exact ad_0 0
  · have ar := a r hr
    rw [e1] at ar
    by_cases h1 : n = r
    · rw [h1]; exact ar
    · have := a n hn
      rw [e2 n hn h1, ar, zp_ml0, ad_0] at this
      exact this
theorem rr_piv {M B : Nat → Nat → zp_F} {h c k r : Nat} {R R' : Nat → Int} (a : rr M B h c R) (e : ∀ j, j < c → R' j = R j) (er : r = pc R c) (e1 : R' c = r) (hk : k < h) (hrk : r ≤ k) (nz : B k c ≠ 0) : rr M (op2 (op1 B k r (B k c ^ 32001)) h r c) h (c + 1) R' := by
  have hr : r < h := by omega
  have b0 : B k c ^ 32001 ≠ 0 := pow_ne nz 32001
  refine ⟨fun y => (a.1 y).trans ((ker_op1 hk hr b0 y).trans (ker_op2 hr y)), fun j hj => ?_⟩
  have q2 : ∀ n i, op2 (op1 B k r (B k c ^ 32001)) h r c n i = if n < h ∧ n ≠ r then op1 B k r (B k c ^ 32001) n i - op1 B k r (B k c ^ 32001) n c * op1 B k r (B k c ^ 32001) r i else op1 B k r (B k c ^ 32001) n i := fun _ _ => rfl
  have q1 : ∀ n i, op1 B k r (B k c ^ 32001) n i = if n = r then B k i * (B k c ^ 32001) else if n = k then B r i else B n i := fun _ _ => rfl
  have q1r : ∀ i, op1 B k r (B k c ^ 32001) r i = B k i * (B k c ^ 32001) := fun i => by rw [q1, if_pos rfl]
  -- a column in which rows r and k are 0 stays as it is
  have same : ∀ i, B k i = 0 → B r i = 0 → ∀ n, op2 (op1 B k r (B k c ^ 32001)) h r c n i = B n i := fun i zk zr n => by
    have s1 : op1 B k r (B k c ^ 32001) n i = B n i := by
      rw [q1]
      by_cases h1 : n = r
      · rw [if_pos h1, zk, h1, zr, zp_0ml]
      · rw [if_neg h1]
        by_cases h2 : n = k
        · rw [if_pos h2, h2, zk, zr]
        · rw [if_neg h2]
    rw [q2, s1, q1r, zk, zp_0ml, zp_ml0]
    split
    · exact @pv_h zp_F _ _
    · rfl
  by_cases hc : j = c
  · subst hc
    refine .inr ?_
    rw [pc_congr e, ← er]
    refine ⟨e1, hr, ?_, fun n hn hn2 => ?_⟩
    · rw [q2, if_neg (fun w => w.2 rfl), q1r]
      exact zp_inv nz
    · rw [q2, if_pos ⟨hn, hn2⟩, q1r, zp_inv nz]
      exact @pv_h2 zp_F _ _
  · have hj2 : j < c := by omega
    rw [e j hj2, pc_congr (R := R) (R' := R') (c := j) (fun i hi2 => e i (by omega))]
    rcases a.2 j hj2 with ⟨x1, x2⟩ | ⟨x1, x2, x3, x4⟩
    · have l := pc_le R (show j ≤ c by omega)
      have sm' := same j (x2 k hk (by omega)) (x2 r hr (by omega))
      exact .inl ⟨x1, fun n hn hp => by rw [sm']; exact x2 n hn hp⟩
    · have l := pc_lt (R := R) hj2 (by omega)
      have sm' := same j (x4 k hk (by omega)) (x4 r hr (by omega))
      exact .inr ⟨x1, x2, by rw [sm']; exact x3, fun n hn hp => by rw [sm']; exact x4 n hn hp⟩
where
  pv_h : ∀ {R : Type} [Lean.Grind.CommRing R] (a : R), a - 0 = a := by intro R _ a; grind
  pv_h2 : ∀ {R : Type} [Lean.Grind.CommRing R] (a : R), a - a * 1 = 0 := by intro R _ a; grind
/-- a column without a row has its number of kernel -/
theorem rr_ker {M B : Nat → Nat → zp_F} {h c : Nat} {R : Nat → Int} (a : rr M B h c R) (c48 : c ≤ 48) {j : Nat} (hj : j < c) (hR : R j = -1) : ker M h (fun i => if i = j then 1 else if i < j ∧ R i ≠ -1 then -(B (pc R i) j) else 0) := by
  refine (a.1 _).mpr (fun n hn => ?_)
  -- the sum over the columns ahead of m
  have key : ∀ m, m ≤ j → zp_sum (fun i => B n i * (if i = j then 1 else if i < j ∧ R i ≠ -1 then -(B (pc R i) j) else 0)) m = if n < pc R m then -(B n j) else 0 := by
    intro m
    induction m with
    | zero => intro _; exact (if_neg (Nat.not_lt_zero n)).symm
    | succ m ih =>
      intro hm
      show zp_sum _ m + B n m * (if m = j then 1 else if m < j ∧ R m ≠ -1 then -(B (pc R m) j) else 0) = _
      rw [ih (by omega), if_neg (show ¬ m = j by omega)]
      show _ = if n < pc R m + (if R m = -1 then 0 else 1) then -(B n j) else 0
      rcases a.2 m (by omega) with ⟨x1, x2⟩ | ⟨x1, x2, x3, x4⟩
      · rw [if_neg (show ¬ (m < j ∧ R m ≠ -1) from fun w => w.2 x1), if_pos x1, zp_ml0, ad_0]; rfl
      · have x1' : R m ≠ -1 := by omega
        rw [if_pos (show m < j ∧ R m ≠ -1 from ⟨by omega, x1'⟩), if_neg x1']
        by_cases h1 : n = pc R m
        · rw [if_neg (show ¬ n < pc R m by omega), if_pos (show n < pc R m + 1 by omega), h1, x3]
          exact @kr_h zp_F _ _
        · rw [x4 n hn h1, zp_0ml, ad_0]
          by_cases h2 : n < pc R m
          · rw [if_pos h2, if_pos (show n < pc R m + 1 by omega)]
          · rw [if_neg h2, if_neg (show ¬ n < pc R m + 1 by omega)]
  have tail : ∀ e, zp_sum (fun i => B n (j + 1 + i) * (if j + 1 + i = j then 1 else if j + 1 + i < j ∧ R (j + 1 + i) ≠ -1 then -(B (pc R (j + 1 + i)) j) else 0)) e = 0 := fun e => zp_sum_zero (fun i _ => by
    rw [if_neg (show ¬ j + 1 + i = j by omega), if_neg (show ¬ (j + 1 + i < j ∧ R (j + 1 + i) ≠ -1) from fun w => by omega), zp_ml0])
  have cut' := zp_sum_cut (fun i => B n i * (if i = j then 1 else if i < j ∧ R i ≠ -1 then -(B (pc R i) j) else 0)) (j + 1) (48 - (j + 1))
  rw [show j + 1 + (48 - (j + 1)) = 48 by omega] at cut'
  rw [cut', tail, ad_0]
  show zp_sum _ j + B n j * (if j = j then 1 else if j < j ∧ R j ≠ -1 then -(B (pc R j) j) else 0) = 0
  rw [key j (Nat.le_refl _), if_pos rfl]
  by_cases h2 : n < pc R j
  · rw [if_pos h2]; exact @kr_h2 zp_F _ _
  · rw [if_neg h2]
    rcases a.2 j hj with ⟨x1, x2⟩ | ⟨x1, _⟩
    · rw [x2 n hn (by omega)]; exact @kr_h3 zp_F _
    · omega
where
  kr_h : ∀ {R : Type} [Lean.Grind.CommRing R] (a : R), 0 + 1 * -a = -a := by intro R _ a; grind
  kr_h2 : ∀ {R : Type} [Lean.Grind.CommRing R] (a : R), -a + a * 1 = 0 := by intro R _ a; grind
  kr_h3 : ∀ {R : Type} [Lean.Grind.CommRing R], (0 : R) + 0 * 1 = 0 := by intro R _; grind
/-- a column with a row: what the rows tell of what is behind it -/
theorem rr_tell {M B : Nat → Nat → zp_F} {h c : Nat} {R : Nat → Int} (a : rr M B h c R) (c48 : c ≤ 48) {y : Nat → zp_F} (hy : ker M h y) {j : Nat} (hj : j < c) (hR : R j ≠ -1) (hz : ∀ i, j < i → i < 48 → y i = 0) : y j = 0 := by
  have k := (a.1 y).mp hy
  rcases a.2 j hj with ⟨x1, _⟩ | ⟨x1, x2, x3, x4⟩
  · exact absurd x1 hR
  · have kn := k (pc R j) x2
    have ahead : zp_sum (fun i => B (pc R j) i * y i) j = 0 := zp_sum_zero (fun i hi2 => by
      rcases a.2 i (by omega) with ⟨y1, y2⟩ | ⟨y1, y2, y3, y4⟩
      · rw [y2 _ x2 (pc_le R (by omega)), zp_0ml]
      · have := pc_lt (R := R) hi2 (by omega)
        rw [y4 _ x2 (by omega), zp_0ml])
    have cut' := zp_sum_cut (fun i => B (pc R j) i * y i) (j + 1) (48 - (j + 1))
    rw [show j + 1 + (48 - (j + 1)) = 48 by omega] at cut'
    have tail : zp_sum (fun i => B (pc R j) (j + 1 + i) * y (j + 1 + i)) (48 - (j + 1)) = 0 := zp_sum_zero (fun i hi2 => by
      rw [hz (j + 1 + i) (by omega) (by omega), zp_ml0])
    rw [kn, tail, ad_0] at cut'
    have e : zp_sum (fun i => B (pc R j) i * y i) (j + 1) = zp_sum (fun i => B (pc R j) i * y i) j + B (pc R j) j * y j := rfl
    rw [e, ahead, x3] at cut'
    exact (@tl_h zp_F _ _).trans cut'.symm
where tl_h : ∀ {R : Type} [Lean.Grind.CommRing R] (a : R), a = 0 + 1 * a := by intro R _ a; grind
