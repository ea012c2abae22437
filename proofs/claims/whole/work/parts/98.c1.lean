/-! the reference's resultant in the picture -/
/-- the table of as many rows of the one as the other one's degree, each a place on, and the other way round -/
def syl (a b : zp_R) (m n : Nat) : Nat → Nat → zp_F := fun i j => if i < n then (if i ≤ j ∧ j ≤ i + m then a.1 (m - (j - i)) else 0) else if i - n ≤ j ∧ j ≤ i - n + n then b.1 (n - (j - (i - n))) else 0
def f8 (M : Nat → Nat → zp_F) : Nat → Int := fun t => ((M (t / 80) (t % 80)).val : Int)
theorem f8_at (M : Nat → Nat → zp_F) {n i : Nat} (hi2 : i < 80) : f8 M (80 * n + i) = ((M n i).val : Int) := by
  unfold f8
  rw [show (80 * n + i) / 80 = n by omega, show (80 * n + i) % 80 = i by omega]
theorem f8_put (M : Nat → Nat → zp_F) {n i : Nat} (hi2 : i < 80) (z : zp_F) {t0 : Nat} (ht : t0 = 80 * n + i) {x : Int} (hx : x = (z.val : Int)) : (fun t => if t = t0 then x else f8 M t) = f8 (put1 M n i z) := by
  funext t
  unfold f8 put1
  subst hx
  subst ht
  by_cases h1 : t = 80 * n + i
  · rw [if_pos h1, if_pos ⟨by omega, by omega⟩]
  · rw [if_neg h1, if_neg (fun w => h1 (by omega))]
theorem gi_f8 {A : Nat → Nat → Int} {M : Nat → Nat → zp_F} (e : A 1313 = f8 M) {n i : Nat} (hi2 : i < 80) (hn : n < 80) {x : Int} (hx : x = 80 * (n : Int) + i) : gi (mk 6400 (A 1313)) x = ((M n i).val : Int) := by
  rw [gi_mk (by omega) (by omega), e, show x.toNat = 80 * n + i by omega, f8_at M hi2]
theorem md_neg (a : zp_F) : (-(a.val : Int)) % 32003 = ((-a : zp_F).val : Int) := by
  rw [← nF_v, nF_neg, nF_val]
/-- rows ahead of i, and of row i the first e places told, of syl; r0 rows ahead -/
def sy1 (S : Nat → Nat → zp_F) (n i e : Nat) : Nat → Nat → zp_F := fun r j => if r < n + i ∨ (r = n + i ∧ i ≤ j ∧ j < i + e) then S r j else 0
theorem sy1_put {S : Nat → Nat → zp_F} {n i e : Nat} : put1 (sy1 S n i e) (n + i) (i + e) (S (n + i) (i + e)) = sy1 S n i (e + 1) := by
  funext r j
  unfold put1 sy1
  by_cases h1 : r = n + i ∧ j = i + e
  · rw [if_pos h1, if_pos (.inr ⟨h1.1, by omega, by omega⟩), h1.1, h1.2]
  · rw [if_neg h1]
    by_cases h2 : r < n + i ∨ (r = n + i ∧ i ≤ j ∧ j < i + e)
    · rw [if_pos h2, if_pos (by omega)]
    · rw [if_neg h2, if_neg (by omega)]
theorem sy1_s {S : Nat → Nat → zp_F} {n i w : Nat} (z : ∀ j, ¬ (i ≤ j ∧ j < i + w) → S (n + i) j = 0) : sy1 S n i w = sy1 S n (i + 1) 0 := by
  funext r j
  unfold sy1
  by_cases h1 : r < n + i
  · rw [if_pos (.inl h1), if_pos (.inl (by omega))]
  · by_cases h2 : r = n + i
    · rw [if_pos (c := r < n + (i + 1) ∨ _) (.inl (by omega))]
      by_cases h3 : i ≤ j ∧ j < i + w
      · rw [if_pos (.inr ⟨h2, h3⟩)]
      · rw [if_neg (by omega), h2, z j h3]
    · rw [if_neg (by omega), if_neg (by omega)]
/-- rows c and r changed about -/
def sw2 (M : Nat → Nat → zp_F) (r c : Nat) : Nat → Nat → zp_F := fun a e => if a = c then M r e else if a = r then M c e else M a e
theorem mix_sw2 {M : Nat → Nat → zp_F} {r c i : Nat} : put1 (put1 (mix M (sw2 M r c) i) r i (M c i)) c i (M r i) = mix M (sw2 M r c) (i + 1) := by
  funext n e
  unfold put1 mix sw2
  by_cases h1 : e = i
  · subst h1
    rw [if_pos (Nat.lt_succ_self e), if_neg (Nat.lt_irrefl e)]
    by_cases h2 : n = c
    · rw [if_pos ⟨h2, rfl⟩, if_pos h2]
    · rw [if_neg (fun w => h2 w.1), if_neg h2]
      by_cases h3 : n = r
      · rw [if_pos ⟨h3, rfl⟩, if_pos h3]
      · rw [if_neg (fun w => h3 w.1), if_neg h3]
  · rw [if_neg (fun w => h1 w.2), if_neg (fun w => h1 w.2)]
    by_cases h2 : e < i
    · rw [if_pos h2, if_pos (show e < i + 1 by omega)]
    · rw [if_neg h2, if_neg (show ¬ e < i + 1 by omega)]
/-- so many times row c taken from row n, from place c on, before N -/
def rop (M : Nat → Nat → zp_F) (n c N : Nat) (z : zp_F) : Nat → Nat → zp_F := fun a e => if a = n ∧ c ≤ e ∧ e < N then M a e - z * M c e else M a e
theorem rop_put {M : Nat → Nat → zp_F} {n c i : Nat} {z : zp_F} (hnc : n ≠ c) (hi2 : c ≤ i) : put1 (rop M n c i z) n i (M n i - z * M c i) = rop M n c (i + 1) z := by
  funext a e
  unfold put1 rop
  by_cases h1 : a = n ∧ e = i
  · rw [if_pos h1, if_pos ⟨h1.1, by omega, by omega⟩, h1.1, h1.2]
  · rw [if_neg h1]
    by_cases h2 : a = n ∧ c ≤ e ∧ e < i
    · rw [if_pos h2, if_pos ⟨h2.1, by omega, by omega⟩]
    · rw [if_neg h2, if_neg (by omega)]
theorem rop_0 {M : Nat → Nat → zp_F} {n c N : Nat} : rop M n c N 0 = M := by
  funext a e
  unfold rop
  split
  · exact @row_0.row_h zp_F _ _ _
  · rfl
theorem rop_c {M : Nat → Nat → zp_F} {n c : Nat} {z : zp_F} : rop M n c c z = M := by
  funext a e
  unfold rop
  rw [if_neg (by omega)]
def sb (M : Nat → Nat → zp_F) (c : Nat) : Nat → Nat → zp_F := fun a b => M (c + a) (c + b)
theorem dt_rop {M : Nat → Nat → zp_F} {n c N : Nat} {z : zp_F} (h1 : c < n) (h2 : n < N) : dt (N - c) (sb (rop M n c N z) c) = dt (N - c) (sb M c) := by
  rw [← dt_add (fun x => zp_two) (n := N - c) (M := sb M c) (r := n - c) (k := 0) (-z) (by omega) (by omega) (by omega)]
  refine dt_congr (fun i j hi2 hj => ?_)
  show (if c + i = n ∧ c ≤ c + j ∧ c + j < N then M (c + i) (c + j) - z * M c (c + j) else M (c + i) (c + j)) = if i = n - c then -z * M (c + 0) (c + j) + M (c + (n - c)) (c + j) else M (c + i) (c + j)
  by_cases q : i = n - c
  · rw [if_pos ⟨by omega, by omega, by omega⟩, if_pos q, q]
    exact @dr_h zp_F _ _ _ _
  · rw [if_neg (by omega), if_neg q]
where dr_h : ∀ {R : Type} [Lean.Grind.CommRing R] (a b z : R), a - z * b = -z * b + a := by intro R _ a b z; grind
theorem dt_sw2 {M : Nat → Nat → zp_F} {r c N : Nat} (h1 : c ≤ r) (h2 : r < N) : dt (N - c) (sb (mix M (sw2 M r c) N) c) = (if c < r then -1 else 1) * dt (N - c) (sb M c) := by
  by_cases q : c < r
  · rw [if_pos q]
    have := dt_swap (fun x => zp_two) (n := N - c) (M := sb M c) (i := 0) (j := r - c) (by omega) (by omega)
    refine Eq.trans ?_ (this.trans (@sw_h zp_F _ _))
    refine dt_congr (fun i j hi2 hj => ?_)
    show (if c + j < N then (if c + i = c then M r (c + j) else if c + i = r then M c (c + j) else M (c + i) (c + j)) else M (c + i) (c + j)) = if i = r - c then M (c + 0) (c + j) else if i = 0 then M (c + (r - c)) (c + j) else M (c + i) (c + j)
    rw [if_pos (by omega)]
    by_cases q1 : i = 0
    · rw [if_pos (by omega), if_neg (by omega), if_pos q1, show c + (r - c) = r by omega]
    · rw [if_neg (by omega)]
      by_cases q2 : i = r - c
      · rw [if_pos (by omega), if_pos q2]; rfl
      · rw [if_neg (by omega), if_neg q2, if_neg q1]
  · have e : r = c := by omega
    subst e
    rw [if_neg q]
    refine Eq.trans (dt_congr (fun i j hi2 hj => ?_)) (@sw_h2 zp_F _ _)
    show (if r + j < N then (if r + i = r then M r (r + j) else if r + i = r then M r (r + j) else M (r + i) (r + j)) else M (r + i) (r + j)) = M (r + i) (r + j)
    by_cases q1 : i = 0
    · subst q1
      rw [if_pos (show r + 0 = r from rfl)]; split <;> rfl
    · rw [if_neg (show ¬ r + i = r by omega), if_neg (show ¬ r + i = r by omega)]; split <;> rfl
where
  sw_h : ∀ {R : Type} [Lean.Grind.CommRing R] (a : R), -a = -1 * a := by intro R _ a; grind
  sw_h2 : ∀ {R : Type} [Lean.Grind.CommRing R] (a : R), a = 1 * a := by intro R _ a; grind
/-- what a resultant is: code and number -/
def resS (cnt : Int) (T : Nat → th) (x y : Int) (c v : Int) : Prop := ∃ c0, wS cnt T x y c0 ∧ (c0 ≠ 0 → c = c0 ∧ v = 0) ∧ (c0 = 0 → match T x.toNat, T y.toNat with
  | .inl (a, _), .inl (b, _) => ((a = zp_C 0 ∨ b = zp_C 0) → c = 2 ∧ v = 0) ∧ (¬ (a = zp_C 0 ∨ b = zp_C 0) → c = 0 ∧ v = ((dt ((hi a).toNat + (hi b).toNat) (syl a b (hi a).toNat (hi b).toNat)).val : Int))
  | _, _ => True)
section
variable {d : Nat} {h : s_H} {s : Nat → Int} {A : Nat → Nat → Int}
theorem RV_8 (hv : RV h s A) {M : Nat → Nat → zp_F} {g : Nat → Int} (e : g = f8 M) : RV (hp h 1313 (al 6400 g)) s (up A 1313 (f8 M)) := by
  rw [← e]; exact Rp_shifted hv g
theorem FR_8 (hv : RV h s A) (C : s_C) : FR h (hp h 1313 C) := FR_put hv (c := 1313) (by decide) (by decide) C
theorem res_swap {x1 x2 : Int} {M : Nat → Nat → zp_F} {m n c r : Nat} (hN : m + n ≤ 80) (hc : c < 80) (hr : r < 80) {z : Int} {t6 : Term} {Q : s_O → Prop} (hv : RV h s A) (K : ∀ (h' : s_H) (t10 t11 t12 t13 t14 : Term), RV h' s (up A 1313 (f8 (mix M (sw2 M r c) (m + n)))) → FR h h' → wr sw_P d sw_c583 sw_h583 (347, [.index 1290, vi x1, vi x2, vi (m : Int), vi (n : Int), vl z, t6, vi (c : Int), vi (r : Int), vi ((m + n : Nat) : Int), t10, t11, t12, t13, t14], [], h', 0, 0) Q) : ∀ (l i : Nat) (B : Nat → Nat → Int) (h' : s_H) (t10 t11 t12 t13 t14 : Term), i + l = m + n → RV h' s B → FR h h' → (∀ x, x ≠ 1313 → B x = A x) → B 1313 = f8 (mix M (sw2 M r c) i) → wr sw_P d sw_c583 sw_h583 (276, [.index 1290, vi x1, vi x2, vi (m : Int), vi (n : Int), vl z, t6, vi (c : Int), vi (r : Int), vi (i : Int), t10, t11, t12, t13, t14], [], h', 0, 0) Q := by
  intro l
  induction l with
  | zero =>
    intro i B h' t10 t11 t12 t13 t14 hi2 v rr' o g
    refine k583_276 (fun _ => ?_) (fun w => absurd w (by omega)) (c1 := by unfold In3; omega) (c2 := by unfold In3; omega)
    have iN : i = m + n := by omega
    subst iN
    refine K h' t10 t11 t12 t13 t14 ?_ rr'
    have e : up A 1313 (f8 (mix M (sw2 M r c) (m + n))) = B := by
      funext x
      by_cases hx : x = 1313
      · rw [hx, up_at, g]
      · rw [up_ne _ _ hx, o x hx]
    rw [e]; exact v
  | succ l ih =>
    intro i B h' t10 t11 t12 t13 t14 hi2 v rr' o g
    refine k583_276 (fun w => absurd w (by omega)) (fun _ => ?_) (c1 := by unfold In3; omega) (c2 := by unfold In3; omega)
    have mlt : ∀ n', mix M (sw2 M r c) i n' i = M n' i := fun n' => if_neg (Nat.lt_irrefl i)
    have g1 : gi (mk 6400 (B 1313)) (80 * (r : Int) + i) = ((M r i).val : Int) := by rw [gi_f8 g (n := r) (i := i) (by omega) hr rfl, mlt]
    have g2 : gi (mk 6400 (B 1313)) (80 * (c : Int) + i) = ((M c i).val : Int) := by rw [gi_f8 g (n := c) (i := i) (by omega) hc rfl, mlt]
    refine k583_285 v.1 (Ra_shifted v) ((hp_ne (Ra_shifted v) (by decide)).trans v.1) (hp_at (Ra_shifted v)) ?_ (c10 := by rw [mk_len]; omega) (c11 := by omega) (c12 := by unfold In3; omega) (c13 := by rw [mk_len]; omega) (c14 := by omega) (c15 := by unfold In3; omega) (c24 := by rw [List.length_set, mk_len]; omega)
    rw [g1, g2, mk_set]
    have e1 := f8_put (mix M (sw2 M r c) i) (n := r) (i := i) (by omega) (M c i) (t0 := (80 * (r : Int) + i).toNat) (by omega) rfl
    have e2 := f8_put (put1 (mix M (sw2 M r c) i) r i (M c i)) (n := c) (i := i) (by omega) (M r i) (t0 := (80 * (c : Int) + i).toNat) (by omega) rfl
    rw [g, e1, mk_set, e2, mix_sw2]
    have v1 := RV_8 v (M := put1 (mix M (sw2 M r c) i) r i (M c i)) rfl
    have v2 := RV_8 v1 (M := mix M (sw2 M r c) (i + 1)) rfl
    exact ih (i + 1) _ _ _ _ _ _ _ (by omega) v2 (FR_trans rr' (FR_trans (FR_8 v _) (FR_8 v1 _))) (fun x hx => by rw [up_ne _ _ hx, up_ne _ _ hx, o x hx]) (up_at _ _ _)
theorem res_row {x1 x2 x8 x9 : Int} {M : Nat → Nat → zp_F} {m n c i : Nat} (hN : m + n ≤ 80) (hc : c < m + n) (hi2 : i < m + n) (hci : i ≠ c) {z : Int} {t6 t10 : Term} {q : zp_F} {Q : s_O → Prop} (hv : RV h s A) (hM : A 1313 = f8 M) (K : ∀ (h' : s_H) (t13 : Term) (u : Int), RV h' s (up A 1313 (f8 (rop M i c (m + n) q))) → FR h h' → wr sw_P (d + 1) sw_c583 sw_h583 (496, [.index 1290, vi x1, vi x2, vi (m : Int), vi (n : Int), vl z, t6, vi (c : Int), vi x8, vl x9, t10, vi (i : Int), vl (q.val : Int), t13, vi u], [], h', 0, 0) Q) : ∀ (l e : Nat) (B : Nat → Nat → Int) (h' : s_H) (t13 : Term), e + l = m + n → c ≤ e → RV h' s B → FR h h' → (∀ x, x ≠ 1313 → B x = A x) → B 1313 = f8 (rop M i c e q) → wr sw_P (d + 1) sw_c583 sw_h583 (428, [.index 1290, vi x1, vi x2, vi (m : Int), vi (n : Int), vl z, t6, vi (c : Int), vi x8, vl x9, t10, vi (i : Int), vl (q.val : Int), t13, vi (e : Int)], [], h', 0, 0) Q := by
  have ql := q.isLt
  intro l
  induction l with
  | zero =>
    intro e B h' t13 he hce v rr' o g
    refine k583_428 (fun _ => ?_) (fun w => absurd w (by omega)) (c1 := by unfold In3; omega) (c2 := by unfold In3; omega)
    have eN : e = m + n := by omega
    subst eN
    refine K h' t13 _ ?_ rr'
    have e : up A 1313 (f8 (rop M i c (m + n) q)) = B := by
      funext x
      by_cases hx : x = 1313
      · rw [hx, up_at, g]
      · rw [up_ne _ _ hx, o x hx]
    rw [e]; exact v
  | succ l ih =>
    intro e B h' t13 he hce v rr' o g
    refine k583_428 (fun w => absurd w (by omega)) (fun _ => ?_) (c1 := by unfold In3; omega) (c2 := by unfold In3; omega)
    refine k583_437 (fun w => ?_) (fun w => ?_) (c1 := in6_of (by omega) (by omega))
    · have z0 : q = 0 := F_ext (by show (q.val : Int) = 0; omega)
      refine K h' t13 _ ?_ rr'
      have e : up A 1313 (f8 (rop M i c (m + n) q)) = B := by
        funext x
        by_cases hx : x = 1313
        · rw [hx, up_at, g, z0, rop_0, rop_0]
        · rw [up_ne _ _ hx, o x hx]
      rw [e]; exact v
    · have r1 : rop M i c e q i e = M i e := if_neg (by omega)
      have r2 : rop M i c e q c e = M c e := if_neg (by omega)
      have g1 : gi (mk 6400 (B 1313)) (80 * (i : Int) + e) = ((M i e).val : Int) := by rw [gi_f8 g (n := i) (i := e) (by omega) (by omega) rfl, r1]
      have g2 : gi (mk 6400 (B 1313)) (80 * (c : Int) + e) = ((M c e).val : Int) := by rw [gi_f8 g (n := c) (i := e) (by omega) (by omega) rfl, r2]
      refine k583_444 v.1 (Ra_shifted v) (wm_mono (wq_r ?_) (t_modulo (by rw [g1, g2]; exact in_dif _ _ _))) (c10 := by rw [mk_len]; omega) (c11 := by omega) (c12 := by unfold In3; omega) (c13 := by rw [mk_len]; omega) (c14 := by omega) (c15 := by unfold In3; omega)
      rw [g1, g2, md_dif]
      refine k583_489 (Ra_shifted v) ?_ (c4 := by rw [mk_len]; omega) (c5 := by omega) (c6 := by unfold In3; omega)
      have e1 := f8_put (rop M i c e q) (n := i) (i := e) (by omega) (M i e - q * M c e) (t0 := (80 * (i : Int) + e).toNat) (by omega) rfl
      rw [mk_set, g, e1, rop_put hci hce]
      exact ih (e + 1) _ _ _ (by omega) (by omega) (RV_8 v (M := rop M i c (e + 1) q) rfl) (FR_trans rr' (FR_8 v _)) (fun x hx => by rw [up_ne _ _ hx, o x hx]) (up_at _ _ _)
theorem res_rows {x1 x2 x8 : Int} {M0 : Nat → Nat → zp_F} {m n c : Nat} (hN : m + n ≤ 80) (hc : c < m + n) {z : Int} {t6 : Term} {Q : s_O → Prop} (hv : RV h s A) (p0 : M0 c c ≠ 0) (K : ∀ (h' : s_H) (M : Nat → Nat → zp_F) (t10 t12 t13 t14 : Term), RV h' s (up A 1313 (f8 M)) → FR h h' → dt (m + n - c) (sb M c) = dt (m + n - c) (sb M0 c) → M c c = M0 c c → (∀ i, c < i → i < m + n → M i c = 0) → wr sw_P (d + 1) sw_c583 sw_h583 (502, [.index 1290, vi x1, vi x2, vi (m : Int), vi (n : Int), vl z, t6, vi (c : Int), vi x8, vl ((M0 c c ^ 32001).val : Int), t10, vi ((m + n : Nat) : Int), t12, t13, t14], [], h', 0, 0) Q) : ∀ (l i : Nat) (B : Nat → Nat → Int) (M : Nat → Nat → zp_F) (h' : s_H) (t10 t12 t13 t14 : Term), i + l = m + n → c < i → RV h' s B → FR h h' → (∀ x, x ≠ 1313 → B x = A x) → B 1313 = f8 M → dt (m + n - c) (sb M c) = dt (m + n - c) (sb M0 c) → M c c = M0 c c → (∀ a, c < a → a < i → M a c = 0) → wr sw_P (d + 1) sw_c583 sw_h583 (393, [.index 1290, vi x1, vi x2, vi (m : Int), vi (n : Int), vl z, t6, vi (c : Int), vi x8, vl ((M0 c c ^ 32001).val : Int), t10, vi (i : Int), t12, t13, t14], [], h', 0, 0) Q := by
  intro l
  induction l with
  | zero =>
    intro i B M h' t10 t12 t13 t14 hi2 hci v rr' o g d1 d2 d3
    refine k583_393 (fun _ => ?_) (fun w => absurd w (by omega)) (c1 := by unfold In3; omega) (c2 := by unfold In3; omega)
    have iN : i = m + n := by omega
    subst iN
    refine K h' M t10 t12 t13 t14 ?_ rr' d1 d2 d3
    have e : up A 1313 (f8 M) = B := by
      funext x
      by_cases hx : x = 1313
      · rw [hx, up_at, g]
      · rw [up_ne _ _ hx, o x hx]
    rw [e]; exact v
  | succ l ih =>
    intro i B M h' t10 t12 t13 t14 hi2 hci v rr' o g d1 d2 d3
    refine k583_393 (fun w => absurd w (by omega)) (fun _ => ?_) (c1 := by unfold In3; omega) (c2 := by unfold In3; omega)
    have g1 := gi_f8 g (n := i) (i := c) (by omega) (by omega) (x := 80 * (i : Int) + c) rfl
    refine k583_402 v.1 (Ra_shifted v) ?_ (c10 := by rw [mk_len]; omega) (c11 := by omega) (c12 := by unfold In3; omega) (c13 := by rw [g1]; exact in_mul _ _)
    rw [g1, tm_mul]
    refine res_row (d := d) (M := M) (c := c) (i := i) (q := M i c * M0 c c ^ 32001) hN hc (by omega) (by omega) v g (fun h2 t13' u' v2 r2 => ?_) (m + n - c) c B h' _ (by omega) (Nat.le_refl _) v (FR_refl h') (fun _ _ => rfl) (by rw [g, rop_c])
    refine k583_496 ?_
    have z1 : rop M i c (m + n) (M i c * M0 c c ^ 32001) i c = 0 := by
      show (if i = i ∧ c ≤ c ∧ c < m + n then M i c - M i c * M0 c c ^ 32001 * M c c else M i c) = 0
      rw [if_pos ⟨rfl, Nat.le_refl _, hc⟩, d2]
      exact @rr_h zp_F _ _ _ _ (zp_inv p0)
    refine ih (i + 1) _ (rop M i c (m + n) (M i c * M0 c c ^ 32001)) h2 _ _ _ _ (by omega) (by omega) v2 (FR_trans rr' r2) (fun x hx => by rw [up_ne _ _ hx, o x hx]) (up_at _ _ _) ((dt_rop (by omega) (by omega)).trans d1) ?_ (fun a ha hb => ?_)
    · rw [← d2]; exact if_neg (by omega)
    · by_cases q : a = i
      · rw [q, z1]
      · rw [← d3 a ha (by omega)]; exact if_neg (by omega)
where rr_h : ∀ {R : Type} [Lean.Grind.CommRing R] (a p q : R), p * q = 1 → a - a * q * p = 0 := by intro R _ a p q h; grind
end
