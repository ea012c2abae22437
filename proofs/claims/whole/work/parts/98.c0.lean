/-! determinants -/
def sg {R : Type} [Lean.Grind.CommRing R] : Nat → R
  | 0 => 1
  | n + 1 => -sg n
def mnr {R : Type} [Lean.Grind.CommRing R] (M : Nat → Nat → R) (i : Nat) : Nat → Nat → R := fun a b => M (if a < i then a else a + 1) (b + 1)
def dt {R : Type} [Lean.Grind.CommRing R] : Nat → (Nat → Nat → R) → R
  | 0, _ => 1
  | n + 1, M => zp_sum (fun i => sg i * (M i 0 * dt n (mnr M i))) (n + 1)
theorem dt_s {R : Type} [Lean.Grind.CommRing R] (n : Nat) (M : Nat → Nat → R) : dt (n + 1) M = zp_sum (fun i => sg i * (M i 0 * dt n (mnr M i))) (n + 1) := rfl
theorem dt_congr {R : Type} [Lean.Grind.CommRing R] : ∀ {n : Nat} {M N : Nat → Nat → R}, (∀ i j, i < n → j < n → M i j = N i j) → dt n M = dt n N
  | 0, _, _, _ => rfl
  | n + 1, M, N, h => by
    rw [dt_s, dt_s]
    refine zp_sum_congr (fun i hi2 => ?_)
    rw [h i 0 hi2 (by omega), dt_congr (n := n) (M := mnr M i) (N := mnr N i) (fun a b ha hb => by
      unfold mnr
      exact h _ _ (by split <;> omega) (by omega))]
/-- k and the next one changed about -/
def tr (k i : Nat) : Nat := if i = k then k + 1 else if i = k + 1 then k else i
def swr {R : Type} [Lean.Grind.CommRing R] (M : Nat → Nat → R) (k : Nat) : Nat → Nat → R := fun i j => M (tr k i) j
theorem sum_tr {R : Type} [Lean.Grind.CommRing R] (f : Nat → R) (k : Nat) : ∀ n, k + 1 < n → zp_sum (fun i => f (tr k i)) n = zp_sum f n
  | 0, h => absurd h (by omega)
  | n + 1, h => by
    by_cases e : n = k + 1
    · subst e
      show zp_sum (fun i => f (tr k i)) k + f (tr k k) + f (tr k (k + 1)) = zp_sum f k + f k + f (k + 1)
      rw [zp_sum_congr (f := fun i => f (tr k i)) (g := f) (n := k) (fun i hi2 => by
        show f (tr k i) = f i
        unfold tr; rw [if_neg (by omega), if_neg (by omega)])]
      have e1 : tr k k = k + 1 := if_pos rfl
      have e2 : tr k (k + 1) = k := by unfold tr; rw [if_neg (by omega), if_pos rfl]
      rw [e1, e2]
      grind
    · show zp_sum (fun i => f (tr k i)) n + f (tr k n) = zp_sum f n + f n
      rw [sum_tr f k n (by omega)]
      have : tr k n = n := by unfold tr; rw [if_neg (by omega), if_neg (by omega)]
      rw [this]
theorem sum_neg {R : Type} [Lean.Grind.CommRing R] (f : Nat → R) (n : Nat) : zp_sum (fun i => -f i) n = -zp_sum f n := by
  have := zp_sum_mul (-1) f n
  rw [show -zp_sum f n = -1 * zp_sum f n by grind, ← this]
  exact zp_sum_congr (fun i _ => by grind)
theorem dt_swr {R : Type} [Lean.Grind.CommRing R] : ∀ (n : Nat) (M : Nat → Nat → R) (k : Nat), k + 1 < n → dt n (swr M k) = -dt n M
  | 0, _, _, h => absurd h (by omega)
  | n + 1, M, k, h => by
    rw [dt_s, dt_s, ← sum_tr (fun i => sg i * (M i 0 * dt n (mnr M i))) k (n + 1) h, ← sum_neg]
    refine zp_sum_congr (fun i hi2 => ?_)
    show sg i * (M (tr k i) 0 * dt n (mnr (swr M k) i)) = -(sg (tr k i) * (M (tr k i) 0 * dt n (mnr M (tr k i))))
    by_cases c1 : i < k
    · have e : tr k i = i := by unfold tr; rw [if_neg (by omega), if_neg (by omega)]
      have e2 : dt n (mnr (swr M k) i) = -dt n (mnr M i) := by
        rw [← dt_swr n (mnr M i) (k - 1) (by omega)]
        refine dt_congr (fun a b _ _ => ?_)
        show M (tr k (if a < i then a else a + 1)) (b + 1) = M (if tr (k - 1) a < i then tr (k - 1) a else tr (k - 1) a + 1) (b + 1)
        congr 1
        unfold tr
        repeat' split
        all_goals omega
      rw [e, e2]; grind
    · by_cases c2 : k + 1 < i
      · have e : tr k i = i := by unfold tr; rw [if_neg (by omega), if_neg (by omega)]
        have e2 : dt n (mnr (swr M k) i) = -dt n (mnr M i) := by
          rw [← dt_swr n (mnr M i) k (by omega)]
          refine dt_congr (fun a b _ _ => ?_)
          show M (tr k (if a < i then a else a + 1)) (b + 1) = M (if tr k a < i then tr k a else tr k a + 1) (b + 1)
          congr 1
          unfold tr
          repeat' split
          all_goals omega
        rw [e, e2]; grind
      · by_cases c3 : i = k
        · subst c3
          have e : tr i i = i + 1 := if_pos rfl
          have e2 : dt n (mnr (swr M i) i) = dt n (mnr M (i + 1)) := dt_congr (fun a b _ _ => by
            show M (tr i (if a < i then a else a + 1)) (b + 1) = M (if a < i + 1 then a else a + 1) (b + 1)
            congr 1
            unfold tr
            repeat' split
            all_goals omega)
          rw [e, e2]
          show sg i * _ = -(-sg i * _)
          grind
        · have c4 : i = k + 1 := by omega
          subst c4
          have e : tr k (k + 1) = k := by unfold tr; rw [if_neg (by omega), if_pos rfl]
          have e2 : dt n (mnr (swr M k) (k + 1)) = dt n (mnr M k) := dt_congr (fun a b _ _ => by
            show M (tr k (if a < k + 1 then a else a + 1)) (b + 1) = M (if a < k then a else a + 1) (b + 1)
            congr 1
            unfold tr
            repeat' split
            all_goals omega)
          rw [e, e2]
          show -sg k * _ = -(sg k * _)
          grind
/-- one row put in place of r -/
def rs {R : Type} [Lean.Grind.CommRing R] (M : Nat → Nat → R) (r : Nat) (v : Nat → R) : Nat → Nat → R := fun i j => if i = r then v j else M i j
theorem dt_lin {R : Type} [Lean.Grind.CommRing R] : ∀ (n : Nat) (M : Nat → Nat → R) (r : Nat) (c : R) (u v : Nat → R), r < n → dt n (rs M r (fun j => c * u j + v j)) = c * dt n (rs M r u) + dt n (rs M r v)
  | 0, _, _, _, _, _, h => absurd h (by omega)
  | n + 1, M, r, c, u, v, h => by
    rw [dt_s, dt_s, dt_s, ← zp_sum_mul, ← zp_sum_add]
    refine zp_sum_congr (fun i hi2 => ?_)
    have at0 : ∀ w : Nat → R, rs M r w i 0 = if i = r then w 0 else M i 0 := fun _ => rfl
    by_cases c1 : i = r
    · subst c1
      have e : ∀ w : Nat → R, dt n (mnr (rs M i w) i) = dt n (mnr M i) := fun w => dt_congr (fun a b _ _ => by
        show (if (if a < i then a else a + 1) = i then w (b + 1) else M (if a < i then a else a + 1) (b + 1)) = M (if a < i then a else a + 1) (b + 1)
        rw [if_neg (by split <;> omega)])
      rw [at0, at0, at0, if_pos rfl, if_pos rfl, if_pos rfl, e, e, e]
      grind
    · have e : ∀ w : Nat → R, dt n (mnr (rs M r w) i) = dt n (rs (mnr M i) (if r < i then r else r - 1) (fun j => w (j + 1))) := fun w => dt_congr (fun a b _ _ => by
        show (if (if a < i then a else a + 1) = r then w (b + 1) else M (if a < i then a else a + 1) (b + 1)) = if a = (if r < i then r else r - 1) then w (b + 1) else M (if a < i then a else a + 1) (b + 1)
        have cl : (if a < i then a else a + 1) = r ↔ a = (if r < i then r else r - 1) := by
          by_cases q1 : a < i
          · by_cases q2 : r < i
            · rw [if_pos q1, if_pos q2]
            · rw [if_pos q1, if_neg q2]; omega
          · by_cases q2 : r < i
            · rw [if_neg q1, if_pos q2]; omega
            · rw [if_neg q1, if_neg q2]; omega
        by_cases q : (if a < i then a else a + 1) = r
        · rw [if_pos q, if_pos (cl.mp q)]
        · rw [if_neg q, if_neg (fun w => q (cl.mpr w))])
      rw [at0, at0, at0, if_neg c1, if_neg c1, if_neg c1, e, e, e, dt_lin n (mnr M i) (if r < i then r else r - 1) c (fun j => u (j + 1)) (fun j => v (j + 1)) (by split <;> omega)]
      grind
theorem rs_self {R : Type} [Lean.Grind.CommRing R] (M : Nat → Nat → R) (r : Nat) : rs M r (M r) = M := by
  funext i j
  unfold rs
  split
  · next e => rw [e]
  · rfl
theorem dt_eq {R : Type} [Lean.Grind.CommRing R] (h2 : ∀ x : R, x = -x → x = 0) {n : Nat} : ∀ (l : Nat) (M : Nat → Nat → R) (i j : Nat), j = i + 1 + l → j < n → (∀ e, M i e = M j e) → dt n M = 0
  | 0, M, i, j, hl, hj, he => by
    have hj2 : j = i + 1 := by omega
    subst hj2
    refine h2 _ ?_
    rw [← dt_swr n M i hj]
    refine dt_congr (fun a b _ _ => ?_)
    show M a b = M (tr i a) b
    unfold tr
    by_cases q : a = i
    · rw [if_pos q, q, he]
    · rw [if_neg q]
      by_cases q2 : a = i + 1
      · rw [if_pos q2, q2, he]
      · rw [if_neg q2]
  | l + 1, M, i, j, hl, hj, he => by
    obtain ⟨t, rfl⟩ : ∃ t, j = t + 1 := ⟨i + 1 + l, by omega⟩
    have e := dt_eq (n := n) h2 l (swr M t) i t (by omega) (by omega) (fun e => by
      show M (tr t i) e = M (tr t t) e
      have e1 : tr t i = i := by unfold tr; rw [if_neg (by omega), if_neg (by omega)]
      have e2 : tr t t = t + 1 := if_pos rfl
      rw [e1, e2, he])
    rw [dt_swr n M t hj] at e
    have : dt n M = -(-dt n M) := by grind
    rw [this, e]; grind
theorem dt_add {R : Type} [Lean.Grind.CommRing R] (h2 : ∀ x : R, x = -x → x = 0) {n : Nat} {M : Nat → Nat → R} {r k : Nat} (c : R) (hr : r < n) (hk : k < n) (hne : k ≠ r) : dt n (rs M r (fun j => c * M k j + M r j)) = dt n M := by
  rw [dt_lin n M r c (M k) (M r) hr, rs_self]
  have z : dt n (rs M r (M k)) = 0 := by
    by_cases q : k < r
    · refine dt_eq h2 (r - k - 1) _ k r (by omega) hr (fun e => ?_)
      show (if k = r then M k e else M k e) = if r = r then M k e else M r e
      rw [if_neg hne, if_pos rfl]
    · refine dt_eq h2 (k - r - 1) _ r k (by omega) hk (fun e => ?_)
      show (if r = r then M k e else M r e) = if k = r then M k e else M k e
      rw [if_neg hne, if_pos rfl]
  rw [z]; grind
/-- rows i and j changed about -/
theorem dt_swap {R : Type} [Lean.Grind.CommRing R] (h2 : ∀ x : R, x = -x → x = 0) {n : Nat} {M : Nat → Nat → R} {i j : Nat} (hij : i < j) (hj : j < n) : dt n (rs (rs M i (M j)) j (M i)) = -dt n M := by
  have z : ∀ w : Nat → R, dt n (rs (rs M i w) j w) = 0 := fun w => dt_eq h2 (j - i - 1) _ i j (by omega) hj (fun e => by
    show (if i = j then w e else if i = i then w e else M i e) = if j = j then w e else _
    rw [if_neg (by omega), if_pos rfl, if_pos rfl])
  have comm : ∀ u v : Nat → R, rs (rs M i u) j v = rs (rs M j v) i u := fun u v => by
    funext a b
    unfold rs
    by_cases q : a = i
    · rw [if_neg (by omega), if_pos q, if_pos q]
    · rw [if_neg q, if_neg q]
  have a0 := z (fun e => 1 * M i e + M j e)
  rw [dt_lin n (rs M i (fun e => 1 * M i e + M j e)) j 1 (M i) (M j) hj, comm, comm, dt_lin n (rs M j (M i)) i 1 (M i) (M j) (by omega), dt_lin n (rs M j (M j)) i 1 (M i) (M j) (by omega), ← comm, ← comm, ← comm, ← comm, z, z, rs_self, rs_self] at a0
  grind
theorem dt_first {R : Type} [Lean.Grind.CommRing R] {n : Nat} {M : Nat → Nat → R} (z : ∀ i, 1 ≤ i → i < n + 1 → M i 0 = 0) : dt (n + 1) M = M 0 0 * dt n (fun a b => M (a + 1) (b + 1)) := by
  rw [dt_s, zp_sum_head, zp_sum_zero (f := fun i => sg (i + 1) * (M (i + 1) 0 * dt n (mnr M (i + 1)))) (fun i hi2 => by
    show sg (i + 1) * (M (i + 1) 0 * dt n (mnr M (i + 1))) = 0
    rw [z (i + 1) (by omega) (by omega)]; grind)]
  have e : dt n (mnr M 0) = dt n (fun a b => M (a + 1) (b + 1)) := dt_congr (fun a b _ _ => by
    show M (if a < 0 then a else a + 1) (b + 1) = _
    rw [if_neg (by omega)])
  rw [e]
  show (1 : R) * (M 0 0 * _) + 0 = _
  grind
theorem dt_z {R : Type} [Lean.Grind.CommRing R] {n : Nat} {M : Nat → Nat → R} (z : ∀ i, i < n + 1 → M i 0 = 0) : dt (n + 1) M = 0 := by
  rw [dt_s]
  exact zp_sum_zero (fun i hi2 => by
    show sg i * (M i 0 * dt n (mnr M i)) = 0
    rw [z i hi2]; grind)
theorem zp_two {x : zp_F} (h : x = -x) : x = 0 := by
  have e : (2 : zp_F) * x = 0 := @tw_h zp_F _ x h
  rcases zp_dom e with q | q
  · exact absurd q (by decide)
  · exact q
where tw_h : ∀ {R : Type} [Lean.Grind.CommRing R] (x : R), x = -x → 2 * x = 0 := by intro R _ x h; grind
