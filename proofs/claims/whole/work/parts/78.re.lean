/-! the reference: more of its polynomials -/
/-- two cells changed -/
theorem hp_2 {h : s_H} {a b : Nat} {A0 B0 A B : s_C} (ha : s_get h a = some A0) (hb : s_get h b = some B0) (j : Nat) (h1 : j ≠ a) (h2 : j ≠ b) : s_get (hp (hp h a A) b B) j = s_get h j := by
  by_cases hab : b = a
  · subst hab
    rw [hp_ne (hp_at ha) h2, hp_ne ha h1]
  · rw [hp_ne (by rw [hp_ne ha hab]; exact hb) h2, hp_ne ha h1]
theorem t_multiplyBy {d : Nat} {h : s_H} {p q : Nat} {s : Nat → Int} {f g : zp_R} {X : Nat → Int} (hr : ro h s) (hx : s_get h 1304 = some (al 176 X)) (hp0 : 0 < p) (hp1 : p ≠ 1304) (hq1 : q ≠ 1304) (hf : s_get h p = some (pl f)) (hg : s_get h q = some (pl g)) : wm sw_P (d + 3) 532 [.index 1290, .index p, .index q] h (qv (hp (hp h 1304 (pl (zp_mul f g))) p (pl (zp_mul f g)))) := by
  refine wm_in (cd := sw_c532) (nL := 3) (hd := sw_h532) rfl rfl ?_
  refine k532_0 hr (wm_mono (wq_v ?_) (t_multiply hr hx hp1 hq1 hf hg))
  refine k532_6 (f4 := rF s) ((hp_ne hx (by decide)).trans hr) (wm_mono (wq_v ?_) (t_copy (g := cf f) hp0 (Ne.symm hp1) ((hp_ne hx hp1).trans hf) (hp_at hx)))
  exact k532_14 rfl
theorem zp_nat_nF (n : Nat) : (zp_nat n : zp_F) = nF (n : Int) := F_ext (by
  rw [zp_natF, nF_v]
  show (((n % 32003 : Nat)) : Int) = _
  omega)
theorem t_slope {d : Nat} {h : s_H} {c e : Nat} {f : zp_R} {G0 : Nat → Int} (hc : 0 < c) (hce : e ≠ c) (hg : s_get h c = some (al 176 G0)) (he : s_get h e = some (pl f)) (hd : zp_deg f 176) : wm sw_P (d + 1) 596 [.index c, .index e] h (qv (hp h c (pl (zp_D f)))) := by
  refine wm_in (cd := sw_c596) (nL := 3) (hd := sw_h596) rfl rfl ?_
  refine k596_0 ?_
  have e1 : ∀ i, cf (zp_D f) i = cf f (i + 1) * (i + 1) % 32003 := fun i => by
    show ((zp_nat (i + 1) * f.1 (i + 1) : zp_F).val : Int) = _
    rw [zp_nat_nF, ← nF_cf f (i + 1), ← nF_mul, nF_v, Int.mul_comm]
    rfl
  have loop := row_up (n := 176) (g := G0) (F := cf (zp_D f)) (hd := fun k C => wr sw_P d sw_c596 sw_h596 (2, [.index c, .index e, vi k], [], hp h c C, 0, 0) (qv (hp h c (pl (zp_D f))))) (fun k G hk h1 h2 hn => by
    refine k596_2 (fun q => absurd q (by omega)) (fun q => ?_)
    refine k596_9 (fun q2 => ?_) (fun q2 => ?_)
    · refine k596_37 ?_
      refine k596_38 (hp_at hg) ?_ (c4 := by rw [mk_len]; omega)
      rw [hp_hp hg, mk_set]
      have : cf (zp_D f) k = 0 := by
        rw [e1, show cf f (k + 1) = 0 from by unfold cf; rw [hd (k + 1) (by omega)]; rfl]
        omega
      rw [this] at hn
      exact hn
    · have e2 : gi (mk 176 (cf f)) ((k : Int) + 1) = cf f (k + 1) := gi_mkn (k := k + 1) (by omega)
      have b := cf_b f (k + 1)
      have b2 : 0 ≤ cf f (k + 1) * ((k : Int) + 1) ∧ cf f (k + 1) * ((k : Int) + 1) ≤ 32003 * 176 := ⟨Int.mul_nonneg b.1 (by omega), Int.mul_le_mul (by omega) (by omega) (by omega) (by decide)⟩
      refine k596_20 (by rw [hp_ne hg hce]; exact he) ?_ (c8 := by rw [e2]; exact in6_of (by omega) (by omega))
      refine k596_38 (hp_at hg) ?_ (c4 := by rw [mk_len]; omega)
      rw [hp_hp hg, mk_set, e2, tmod_nn b2.1, ← e1]
      exact hn) (k596_2 (fun q => k596_45 rfl) (fun q => absurd q (by omega)))
  rw [hp_same hg] at loop
  exact loop
theorem t_makeMonic {d : Nat} {h : s_H} {c : Nat} {f : zp_R} (hc : 0 < c) (hg : s_get h c = some (pl f)) : wm sw_P (d + 3) 521 [.index c] h (qv (hp h c (pl (if hi f < 0 then f else zp_mul (zp_C ((f.1 (hi f).toNat) ^ 32001)) f)))) := by
  refine wm_in (cd := sw_c521) (nL := 2) (hd := sw_h521) rfl rfl ?_
  have b := hi_b f
  refine k521_0 (wm_mono (wq_r ?_) (t_highp hg))
  refine k521_4 (fun q => ?_) (fun q => ?_)
  · refine k521_19 ?_
    rw [if_pos q, hp_same hg]
  · have e1 : gi (mk 176 (cf f)) (hi f) = cf f (hi f).toNat := gi_mk (by omega) (by omega)
    have b1 := cf_b f (hi f).toNat
    rw [if_neg q]
    refine k521_9 hg (wm_mono (wq_r ?_) (t_inverse (z := gi (mk 176 (cf f)) (hi f)) (by rw [e1]; exact ⟨by omega, by omega⟩)))
    have bz := ((nF (gi (mk 176 (cf f)) (hi f))) ^ 32001 : zp_F).isLt
    refine k521_16 (wm_mono (wq_v ?_) (t_scale hc hg ⟨by omega, by omega⟩))
    refine k521_19 ?_
    rw [nF_val, e1, nF_cf]
/-- the value at a number, by Horner -/
def hor (f : zp_R) (x : zp_F) : Nat → zp_F
  | 0 => 0
  | n + 1 => f.1 0 + x * hor (zp_sh f) x n
theorem hor_ev (x : zp_F) : ∀ (n : Nat) (f : zp_R), hor f x n = zp_sum (fun i => f.1 i * x ^ i) n
  | 0, f => rfl
  | n + 1, f => by
    rw [zp_sum_head, zp_pow_zero, hor, hor_ev x n (zp_sh f), ← zp_sum_mul]
    have : zp_sum (fun i => x * ((zp_sh f).1 i * x ^ i)) n = zp_sum (fun i => f.1 (i + 1) * x ^ (i + 1)) n := zp_sum_congr (fun i hi => by
      show x * (f.1 (i + 1) * x ^ i) = _
      rw [zp_pow_succ]; grind)
    rw [this]; grind
/-- the numbers from power k on, at x -/
def horu (f : zp_R) (x : zp_F) (n : Nat) : Nat → zp_F
  | 0 => 0
  | m + 1 => horu f x n m * x + f.1 (n - (m + 1))
theorem horu_s (f : zp_R) (x : zp_F) (n : Nat) : ∀ m : Nat, m ≤ n → zp_sum (fun i => f.1 i * x ^ i) n = zp_sum (fun i => f.1 i * x ^ i) (n - m) + x ^ (n - m) * horu f x n m
  | 0, _ => by
    show _ = zp_sum (fun i => f.1 i * x ^ i) n + x ^ n * 0
    generalize zp_sum (fun i => f.1 i * x ^ i) n = a
    generalize x ^ n = b
    grind
  | m + 1, hm => by
    rw [horu_s f x n m (by omega), show n - m = (n - (m + 1)) + 1 by omega, horu]
    show zp_sum (fun i => f.1 i * x ^ i) (n - (m + 1)) + f.1 (n - (m + 1)) * x ^ (n - (m + 1)) + x ^ (n - (m + 1) + 1) * horu f x n m = _
    rw [zp_pow_succ]
    generalize zp_sum (fun i => f.1 i * x ^ i) (n - (m + 1)) = a
    generalize x ^ (n - (m + 1)) = b
    generalize horu f x n m = c
    generalize f.1 (n - (m + 1)) = e
    grind
theorem t_valueAt {d : Nat} {h : s_H} {c : Nat} {f : zp_R} {z : Int} (hg : s_get h c = some (pl f)) (hd : zp_deg f 176) (hz : 0 ≤ z ∧ z < 32003) : wm sw_P (d + 2) 613 [.index c, vl z] h (qr (vl ((zp_ev (nF z) f).val : Int)) h) := by
  refine wm_in (cd := sw_c613) (nL := 6) (hd := sw_h613) rfl rfl ?_
  have b := hi_b f
  refine k613_0 (wm_mono (wq_r ?_) (t_highp hg))
  refine k613_6 ?_
  obtain ⟨n, hn⟩ : ∃ n : Nat, (n : Int) = hi f + 1 := ⟨(hi f + 1).toNat, by omega⟩
  have e0 : zp_ev (nF z) f = horu f (nF z) n n := by
    rw [zp_ev_eq (nF z) (N := n) (fun i hi2 => by
      by_cases h2 : i < 176
      · exact cf_0 (rdeg_0 (cf f) 176 i (by show hi f < (i : Int); omega) h2)
      · exact hd i (by omega)), horu_s f (nF z) n n (Nat.le_refl _), Nat.sub_self, zp_pow_zero]
    show (0 : zp_F) + 1 * horu f (nF z) n n = _
    generalize horu f (nF z) n n = y
    grind
  have loop : ∀ (m : Nat) (k : Nat) (t t' : Term), m + k = n → wr sw_P (d + 1) sw_c613 sw_h613 (8, [.index c, vl z, t, vl ((horu f (nF z) n m).val : Int), t', vi ((k : Int) - 1)], [], h, 0, 0) (qr (vl ((zp_ev (nF z) f).val : Int)) h) := by
    intro m k
    induction k generalizing m with
    | zero =>
      intro t t' hm
      refine k613_8 (fun q => k613_32 ?_) (fun q => absurd q (by omega))
      rw [e0, show m = n by omega]
    | succ k ih =>
      intro t t' hm
      rw [show ((k + 1 : Nat) : Int) - 1 = k by omega]
      refine k613_8 (fun q => absurd q (by omega)) (fun q => ?_)
      have e1 : gi (mk 176 (cf f)) (k : Int) = cf f k := gi_mkn (by omega)
      have b1 := cf_b f k
      have b2 := (horu f (nF z) n m).isLt
      have b3 := mm_le (x := ((horu f (nF z) n m).val : Int)) (y := z) ⟨by omega, by omega⟩ hz
      refine k613_13 hg ?_ (c8 := by rw [e1]; exact in6_of (by omega) (by omega))
      rw [e1, tmod_nn (by omega)]
      have := ih (m + 1) (s_uu t) .result (by omega)
      have e2 : ((horu f (nF z) n (m + 1)).val : Int) = (((horu f (nF z) n m).val : Int) * z + cf f k) % 32003 := by
        rw [horu, F_add, F_mul, nF_is hz, show n - (m + 1) = k by omega]
        show (_ % 32003 + cf f k) % 32003 = _
        omega
      rw [e2] at this
      exact this
  have := loop 0 n (s_uu .result) (s_uu .result) (by omega)
  rw [hn, show hi f + 1 - 1 = hi f by omega] at this
  exact this
