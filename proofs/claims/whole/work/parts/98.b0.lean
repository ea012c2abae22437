/-! a bottom put in is not nothing -/
theorem fl_h0 {R : Type} [Lean.Grind.CommRing R] (b x e : R) : 0 * b + 0 * x = 0 := by grind
theorem fl_h1 {R : Type} [Lean.Grind.CommRing R] (b E e : R) : 0 * b + 1 * E = E * (1 + e * 0) := by grind
theorem fl_h2 {R : Type} [Lean.Grind.CommRing R] {F E B e w b c e' : R} (h : F = E * (B + e * w)) : F * b + c * (E * e' * e) = E * (B * b + e * (w * b + c * e')) := by grind
theorem fl_h3 {R : Type} [Lean.Grind.CommRing R] {B e w u v : R} (h : B + e * w = 0) (h1 : u * B + v * e = 1) : e * (v + -(u * w)) = 1 := by grind
theorem fl_h4 {R : Type} [Lean.Grind.CommRing R] {a : R} (h : a * 0 = (1 : R)) : (0 : R) = 1 := by grind
theorem npow_add (f : zp_R) (m : Nat) : ∀ n : Nat, zp_npow f (m + n) = zp_mul (zp_npow f m) (zp_npow f n) := @zp_pow_add zp_R zp_ring f m
theorem fil_0 {p b e : zp_R} {m t : Nat} (dp : zp_deg p (t + 1)) : ∀ n, n + t ≤ m → fil p b e m n = zp_C 0
  | 0, _ => rfl
  | n + 1, h => by
    show zp_add (zp_mul (fil p b e m n) b) (zp_mul (zp_C (p.1 (m - n))) (zp_npow e n)) = zp_C 0
    rw [fil_0 dp n (by omega), dp (m - n) (by omega)]
    exact @fl_h0 zp_R zp_ring b (zp_npow e n) e
theorem fil_1 {p b e : zp_R} {m t : Nat} (ht : t ≤ m) (tp : p.1 t = 1) (dp : zp_deg p (t + 1)) : ∀ j, j ≤ t → ∃ w, fil p b e m (m - t + 1 + j) = zp_mul (zp_npow e (m - t)) (zp_add (zp_npow b j) (zp_mul e w))
  | 0, _ => by
    refine ⟨zp_C 0, ?_⟩
    show zp_add (zp_mul (fil p b e m (m - t)) b) (zp_mul (zp_C (p.1 (m - (m - t)))) (zp_npow e (m - t))) = zp_mul (zp_npow e (m - t)) (zp_add (zp_C 1) (zp_mul e (zp_C 0)))
    rw [fil_0 dp (m - t) (by omega), show m - (m - t) = t by omega, tp, zp_C1]
    exact @fl_h1 zp_R zp_ring b (zp_npow e (m - t)) e
  | j + 1, h => by
    obtain ⟨w, ih⟩ := fil_1 ht tp dp j (by omega)
    refine ⟨zp_add (zp_mul w b) (zp_mul (zp_C (p.1 (m - (m - t + 1 + j)))) (zp_npow e j)), ?_⟩
    show zp_add (zp_mul (fil p b e m (m - t + 1 + j)) b) (zp_mul (zp_C (p.1 (m - (m - t + 1 + j)))) (zp_npow e (m - t + 1 + j))) = _
    rw [show m - t + 1 + j = m - t + (j + 1) by omega] at ih ⊢
    rw [npow_add e (m - t) (j + 1), npow_s, npow_s]
    have := @fl_h2 zp_R zp_ring _ _ _ _ _ b (zp_C (p.1 (m - (m - t + (j + 1))))) (zp_npow e j) ih
    refine Eq.trans ?_ this
    exact congrArg (zp_add _) (congrArg (zp_mul _) (@fl_h5 zp_R zp_ring (zp_npow e (m - t)) (zp_npow e j) e))
where fl_h5 : ∀ {R : Type} [Lean.Grind.CommRing R] (a b c : R), a * (b * c) = a * b * c := by intro R _ a b c; grind
theorem fil_a {p b e : zp_R} {m t : Nat} (ht : t ≤ m) (tp : p.1 t = 1) (dp : zp_deg p (t + 1)) (he : mo e) (hc : co b e) (de : zp_deg e 176) (h1 : 1 ≤ hi e) : fil p b e m (m + 1) ≠ zp_C 0 := fun h0 => by
  obtain ⟨w, hw⟩ := fil_1 (b := b) (e := e) ht tp dp t (Nat.le_refl _)
  rw [show m - t + 1 + t = m + 1 by omega, h0] at hw
  have a1 := mo_ne (mo_npow he (m - t)) hw.symm
  obtain ⟨u, v, a2⟩ := co_npow hc t
  rw [zp_C1] at a2
  have a3 : zp_mul e (zp_add v (zp_neg (zp_mul u w))) = (letI := zp_ring; (1 : zp_R)) := @fl_h3 zp_R zp_ring _ _ _ _ _ a1 a2
  obtain ⟨_, q1, q2⟩ := mo_hi he de
  have a4 := zp_monic_deg (t := 0) q1 q2 (W := zp_add v (zp_neg (zp_mul u w))) (by rw [a3, ← zp_C1]; exact deg_le (zp_C_deg 1) (by omega))
  rw [zp_zero_of a4] at a3
  have a5 : zp_C 0 = (letI := zp_ring; (1 : zp_R)) := @fl_h4 zp_R zp_ring e a3
  rw [← zp_C1] at a5
  have : (zp_C 0).1 0 = (zp_C 1).1 0 := by rw [a5]
  exact absurd this (by decide)
theorem fil_deg {p b e : zp_R} {m H : Nat} (hb : zp_deg b (H + 1)) (he : zp_deg e (H + 1)) : ∀ n, zp_deg (fil p b e m (n + 1)) (H * n + 1)
  | 0 => by
    show zp_deg (zp_add (zp_mul (zp_C 0) b) (zp_mul (zp_C (p.1 (m - 0))) (zp_npow e 0))) 1
    refine deg_add (fun i hi2 => ?_) (deg_Cm _ (zp_C_deg 1))
    rw [zp_C_mul1]; exact @fl_h6 zp_F _ _
  | n + 1 => by
    show zp_deg (zp_add (zp_mul (fil p b e m (n + 1)) b) (zp_mul (zp_C (p.1 (m - (n + 1)))) (zp_npow e (n + 1)))) (H * n + H + 1)
    exact deg_add (zp_deg_mul (n := H * n) (m := H) (fil_deg hb he n) hb) (deg_Cm _ (npow_deg he (n + 1)))
where fl_h6 : ∀ {R : Type} [Lean.Grind.CommRing R] (a : R), 0 * a = 0 := by intro R _ a; grind
theorem npow_1 : ∀ n : Nat, zp_npow (zp_C 1) n = zp_C 1
  | 0 => rfl
  | n + 1 => by
    rw [npow_s, npow_1 n, zp_C_mul]; rfl
theorem fil_t {p b : zp_R} {m t B : Nat} (ht : t ≤ m) (tp : p.1 t = 1) (dp : zp_deg p (t + 1)) (hB : 1 ≤ B) (db : zp_deg b (B + 1)) : ∀ j, j ≤ t → (fil p b (zp_C 1) m (m - t + 1 + j)).1 (B * j) = b.1 B ^ j ∧ zp_deg (fil p b (zp_C 1) m (m - t + 1 + j)) (B * j + 1)
  | 0, _ => by
    have e0 : fil p b (zp_C 1) m (m - t + 1 + 0) = zp_C 1 := by
      show zp_add (zp_mul (fil p b (zp_C 1) m (m - t)) b) (zp_mul (zp_C (p.1 (m - (m - t)))) (zp_npow (zp_C 1) (m - t))) = zp_C 1
      rw [fil_0 dp (m - t) (by omega), show m - (m - t) = t by omega, tp, npow_1, zp_C1]
      exact @fl_h7 zp_R zp_ring b
    rw [e0]
    exact ⟨rfl, zp_C_deg 1⟩
  | j + 1, h => by
    obtain ⟨i1, i2⟩ := fil_t ht tp dp hB db j (by omega)
    have e1 : fil p b (zp_C 1) m (m - t + 1 + (j + 1)) = zp_add (zp_mul (fil p b (zp_C 1) m (m - t + 1 + j)) b) (zp_C (p.1 (m - (m - t + 1 + j)))) := by
      show zp_add (zp_mul (fil p b (zp_C 1) m (m - t + 1 + j)) b) (zp_mul (zp_C (p.1 (m - (m - t + 1 + j)))) (zp_npow (zp_C 1) (m - t + 1 + j))) = _
      rw [npow_1, zp_C_mul]
      congr 2
      exact @fl_h8 zp_F _ _
    rw [e1]
    refine ⟨?_, deg_add (zp_deg_mul i2 db) (deg_le (zp_C_deg _) (by have : B * (j + 1) = B * j + B := rfl; omega))⟩
    show (zp_mul (fil p b (zp_C 1) m (m - t + 1 + j)) b).1 (B * j + B) + (if B * j + B = 0 then p.1 (m - (m - t + 1 + j)) else 0) = b.1 B ^ (j + 1)
    rw [mul_top i2 db, i1, if_neg (by omega), zp_pow_succ]
    exact @fl_h9 zp_F _ _
where
  fl_h7 : ∀ {R : Type} [Lean.Grind.CommRing R] (a : R), 0 * a + 1 * 1 = 1 := by intro R _ a; grind
  fl_h8 : ∀ {R : Type} [Lean.Grind.CommRing R] (a : R), a * 1 = a := by intro R _ a; grind
  fl_h9 : ∀ {R : Type} [Lean.Grind.CommRing R] (a : R), a + 0 = a := by intro R _ a; grind
theorem pow_ne {a : zp_F} (h : a ≠ 0) : ∀ n : Nat, a ^ n ≠ 0
  | 0 => by rw [zp_pow_zero]; exact zp_F10
  | n + 1 => fun q => by
    rw [zp_pow_succ] at q
    rcases zp_dom q with q | q
    · exact pow_ne h n q
    · exact h q
theorem fil_b {p b : zp_R} {m t B : Nat} (ht : t ≤ m) (tp : p.1 t = 1) (dp : zp_deg p (t + 1)) (hB : 1 ≤ B) (db : zp_deg b (B + 1)) (nb : b.1 B ≠ 0) : fil p b (zp_C 1) m (m + 1) ≠ zp_C 0 := fun h0 => by
  have := (fil_t ht tp dp hB db t (Nat.le_refl _)).1
  rw [show m - t + 1 + t = m + 1 by omega, h0, zp_C00] at this
  exact pow_ne nb t this.symm
/-- at a point -/
theorem fil_ev {p b e : zp_R} {m : Nat} (a : zp_F) (h1 : zp_ev a e = 1) : ∀ n, n ≤ m + 1 → zp_ev a (fil p b e m n) = zp_sum (fun i => p.1 (m + 1 - n + i) * zp_ev a b ^ i) n
  | 0, _ => zp_ev_C a 0
  | n + 1, h => by
    show zp_ev a (zp_add (zp_mul (fil p b e m n) b) (zp_mul (zp_C (p.1 (m - n))) (zp_npow e n))) = _
    rw [zp_ev_add, zp_ev_mul, zp_ev_mul, zp_ev_C, zp_ev_pow, h1, zp_one_pow, fil_ev a h1 n (by omega), zp_sum_head, zp_pow_zero, show m + 1 - (n + 1) = m - n by omega]
    have e1 : zp_sum (fun i => p.1 (m - n + (i + 1)) * zp_ev a b ^ (i + 1)) n = zp_ev a b * zp_sum (fun i => p.1 (m + 1 - n + i) * zp_ev a b ^ i) n := by
      rw [← zp_sum_mul]
      refine zp_sum_congr (fun i hi2 => ?_)
      rw [show m - n + (i + 1) = m + 1 - n + i by omega, zp_pow_succ]
      exact @fl_h10 zp_F _ _ _ _
    rw [e1]
    exact @fl_h11 zp_F _ _ _ _
where
  fl_h10 : ∀ {R : Type} [Lean.Grind.CommRing R] (a b c : R), a * (b * c) = c * (a * b) := by intro R _ a b c; grind
  fl_h11 : ∀ {R : Type} [Lean.Grind.CommRing R] (x y c : R), x * y + c * 1 = c * 1 + y * x := by intro R _ x y c; grind
theorem fil_c {p b : zp_R} {m : Nat} (dp : zp_deg p (m + 1)) (db : zp_deg b 1) (hv : zp_ev (b.1 0) p ≠ 0) : fil p b (zp_C 1) m (m + 1) ≠ zp_C 0 := fun h0 => by
  have e1 := fil_ev (p := p) (b := b) (e := zp_C 1) (m := m) 0 (zp_ev_C 0 1) (m + 1) (Nat.le_refl _)
  have e2 : zp_ev 0 b = b.1 0 := by
    rw [zp_ev_eq 0 db]
    show 0 + b.1 0 * (0 : zp_F) ^ 0 = b.1 0
    rw [zp_pow_zero]
    exact @fl_h12 zp_F _ _
  rw [h0, zp_ev_C, e2] at e1
  refine hv ?_
  rw [zp_ev_eq (b.1 0) dp]
  refine Eq.trans ?_ e1.symm
  refine zp_sum_congr (fun i _ => ?_)
  rw [show m + 1 - (m + 1) + i = i by omega]
where fl_h12 : ∀ {R : Type} [Lean.Grind.CommRing R] (x : R), 0 + x * 1 = x := by intro R _ x; grind
theorem hi_top {b : zp_R} (h : 0 ≤ hi b) (hd : zp_deg b 176) : b.1 (hi b).toNat ≠ 0 ∧ zp_deg b ((hi b).toNat + 1) :=
  ⟨hi_ne (by omega), fun i hi2 => hi_deg hd i (by omega)⟩
theorem mo_1 {e : zp_R} (he : mo e) (de : zp_deg e 176) (h : hi e < 1) : e = zp_C 1 := by
  obtain ⟨q0, q1, q2⟩ := mo_hi he de
  rw [show (hi e).toNat = 0 by omega] at q1 q2
  refine zp_ext (fun i => ?_)
  show e.1 i = if i = 0 then 1 else 0
  by_cases h0 : i = 0
  · rw [h0, q1]; rfl
  · rw [if_neg h0]; exact q2 i (by omega)
/-- what is below isn't 0 -/
theorem fil_ne {p b e : zp_R} {m : Nat} (hp : mo p) (dp : zp_deg p 176) (hm : hi p ≤ m) (he : mo e) (hc : co b e) (db : zp_deg b 176) (de : zp_deg e 176) (h : 1 ≤ gd b e ∨ zp_ev (b.1 0) p ≠ 0) : fil p b e m (m + 1) ≠ zp_C 0 := by
  obtain ⟨q0, q1, q2⟩ := mo_hi hp dp
  by_cases h1 : 1 ≤ hi e
  · exact fil_a (t := (hi p).toNat) (by omega) q1 q2 he hc de h1
  · have e1 := mo_1 he de (by omega)
    subst e1
    by_cases h2 : 1 ≤ hi b
    · obtain ⟨t1, t2⟩ := hi_top (b := b) (by omega) db
      exact fil_b (t := (hi p).toNat) (B := (hi b).toNat) (by omega) q1 q2 (by omega) t2 t1
    · rcases h with h | h
      · unfold gd at h
        split at h <;> omega
      · exact fil_c (deg_le q2 (by omega)) (fun i hi2 => hi_deg db i (by omega)) h
