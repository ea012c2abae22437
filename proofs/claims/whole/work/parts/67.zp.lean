/-! eighth part: no polynomial of degree 2 d, prime to its slope, has squares (not 0) alone as its values -/
def zp_vl : List Nat := [1, 16002, 12001, 10001, 21752, 10376, 24221, 19830, 3890, 7426, 16090, 9379, 19796, 26800, 21790, 12392, 12772, 24123, 17891, 18051, 6505]
def zp_v (n : Nat) : zp_F := Fin.ofNat 32003 (zp_vl.getD n 0)
theorem zp_v_c : ∀ n, n < 21 → 2 ≤ n → zp_c zp_v zp_v n = 0 := by decide +kernel
theorem zp_v_0 : ∀ n, n < 21 → zp_v n ≠ 0 := by decide +kernel
theorem zp_c_CC (v : Nat → zp_F) (n : Nat) : @zp_c zp_R zp_ring (fun i => zp_C (v i)) (fun i => zp_C (v i)) n = zp_C (zp_c v v n) := by
  have key : ∀ k, @zp_sum zp_R zp_ring (fun i => zp_mul (zp_C (v i)) (zp_C (v (n - i)))) k = zp_C (zp_sum (fun i => v i * v (n - i)) k) := by
    intro k
    induction k with
    | zero => rfl
    | succ k ih =>
      show zp_add (@zp_sum zp_R zp_ring (fun i => zp_mul (zp_C (v i)) (zp_C (v (n - i)))) k) (zp_mul (zp_C (v k)) (zp_C (v (n - k)))) = zp_C (zp_sum (fun i => v i * v (n - i)) k + v k * v (n - k))
      rw [ih, zp_C_mul]
      exact zp_ext (fun i => by
        show (if i = 0 then zp_sum (fun i => v i * v (n - i)) k else 0) + (if i = 0 then v k * v (n - k) else 0) = if i = 0 then _ else 0
        split <;> grind)
  exact key (n + 1)
theorem zp_C_deg (c : zp_F) : zp_deg (zp_C c) 1 := fun i hi => if_neg (by omega)
theorem zp_C1 : (zp_C 1 : zp_R) = (letI := zp_ring; 1) := zp_ext (fun i => by
  show (if i = 0 then (1 : zp_F) else 0) = if i = 0 then (0 : zp_F) + 1 else 0
  split <;> grind)
theorem zp_h12 {R : Type} [Lean.Grind.CommRing R] {a b q r : R} (h : a - 1 = b * q + r) (hr : r = 0) : a = 1 + b * q := by grind
theorem zp_h13 {R : Type} [Lean.Grind.CommRing R] {b : R} (h : b * 0 = 1) : (0 : R) = 1 := by grind
theorem zp_squares {h s t : zp_R} {d : Nat} (hd : 1 ≤ d) (hd2 : d ≤ 20) (h1 : h.1 (2 * d) = 1) (h2 : zp_deg h (2 * d + 1)) (hsq : ∀ a : zp_F, zp_ev a h ^ 16001 = 1) (hst : zp_mul (zp_D h) s = zp_add (zp_C 1) (zp_mul h t)) : False := by
  letI := zp_ring
  obtain ⟨hn, hn0, hn1, hdn, N, hN⟩ := zp_taylor (2 * d) h h2
  -- the power is 1 and a multiple of L
  have hw : ∃ w, h ^ 16001 = 1 + zp_L * w := by
    obtain ⟨n, hnn⟩ := (h ^ 16001 - 1).2
    obtain ⟨q, r, e, hr⟩ := zp_divm zp_L_top zp_L_deg n (h ^ 16001 - 1) hnn
    refine ⟨q, zp_h12 e (zp_roots 32003 r (Nat.le_refl _) hr (fun i hi => ?_))⟩
    have e1 := congrArg (zp_ev (zp_nat i)) e
    rw [zp_ev_add, zp_ev_mul, zp_L_ev] at e1
    have e2 : zp_ev (zp_nat i) (h ^ 16001 - 1) = zp_ev (zp_nat i) (zp_npow h 16001) + -zp_ev (zp_nat i) (zp_C 1) := by
      rw [← zp_ev_neg, ← zp_ev_add, zp_C1]
      rfl
    rw [e2, zp_ev_pow, hsq, zp_ev_C] at e1
    exact zp_h14 e1
  obtain ⟨w, hw⟩ := hw
  refine @zp_none zp_R zp_ring zp_deg zp_degD hn (fun n => zp_C (zp_v n)) (zp_C 16002) zp_L w s t (zp_C (zp_v d ^ 32001)) d 16000 32003 N 20 hd hd2 ?_ (zp_C_deg _) ?_ ?_ ?_ ?_ ?_ rfl ?_ zp_L_deg ?_ ?_ ?_ ?_ ?_
  · show zp_mul (zp_C (zp_nat 2)) (zp_C 16002) = 1
    rw [zp_C_mul, ← zp_C1]
    exact congrArg zp_C (by decide +kernel)
  · exact hdn
  · show zp_C (zp_v 0) = 1
    rw [← zp_C1]
    exact congrArg zp_C (by decide +kernel)
  · exact congrArg zp_C (by decide +kernel)
  · intro n hn2 hn20
    rw [zp_c_CC, zp_v_c n (by omega) hn2]
    rfl
  · show zp_mul (zp_C (zp_v d)) (zp_C (zp_v d ^ 32001)) = 1
    rw [zp_C_mul, zp_inv (zp_v_0 d (by omega)), zp_C1]
  · have : 2 * d * d ≤ 2 * 20 * 20 := Nat.mul_le_mul (by omega) hd2
    omega
  · intro e W hW
    have h3 := zp_monic_deg (zp_L_pow e).1 (zp_L_pow e).2 (t := 0) hW
    have h4 := zp_zero_of h3
    show zp_L ^ e * W = 0
    rw [h4]
    show zp_L ^ e * 0 = 0
    generalize zp_L ^ e = y
    exact zp_h15 y
  · intro M hM
    show zp_npow (hn 0) 32003 = _
    rw [hn0]
    exact hN M hM
  · show hn 0 ^ 16001 = _
    rw [hn0]
    exact hw
  · rw [hn0, hn1, ← zp_C1]
    exact hst
  · intro W hW
    rw [hn0] at hW
    have h3 : zp_deg (zp_mul h W) (2 * d + 0) := fun i hi => by
      have : zp_mul h W = zp_C 1 := by rw [zp_C1]; exact hW
      rw [this]
      exact if_neg (by omega)
    have h4 := zp_zero_of (zp_monic_deg h1 h2 h3)
    rw [h4] at hW
    have h5 : (0 : zp_R) = 1 := zp_h13 (show h * (0 : zp_R) = 1 from hW)
    have h6 : (zp_C 0 : zp_R) = zp_C 1 := by rw [zp_C1]; exact h5
    have h7 := congrFun (congrArg Subtype.val h6) 0
    exact absurd (show (0 : zp_F) = 1 from h7).symm zp_F10
