/-! the reference: degrees, values, inverses -/
/-- the highest power below n at which a row isn't 0 -/
def rdeg (g : Nat → Int) : Nat → Int
  | 0 => -1
  | n + 1 => if g n = 0 then rdeg g n else n
theorem rdeg_b (g : Nat → Int) : ∀ n : Nat, -1 ≤ rdeg g n ∧ rdeg g n < n
  | 0 => ⟨Int.le_refl _, by show (-1 : Int) < 0; decide⟩
  | n + 1 => by
    have := rdeg_b g n
    unfold rdeg
    split <;> omega
theorem rdeg_0 (g : Nat → Int) : ∀ (n : Nat) (i : Nat), rdeg g n < i → i < n → g i = 0
  | 0, i, h1, h2 => absurd h2 (by omega)
  | n + 1, i, h1, h2 => by
    unfold rdeg at h1
    split at h1
    · rename_i q
      by_cases hi : i = n
      · rw [hi]; exact q
      · exact rdeg_0 g n i h1 (by omega)
    · omega
theorem rdeg_ne (g : Nat → Int) : ∀ (n k : Nat), rdeg g n = k → g k ≠ 0
  | 0, k, h => by simp only [rdeg] at h; omega
  | n + 1, k, h => by
    unfold rdeg at h
    split at h
    · exact rdeg_ne g n k h
    · rename_i q
      have : k = n := by omega
      rw [this]; exact q
abbrev hi (f : zp_R) : Int := rdeg (cf f) 176
theorem hi_b (f : zp_R) : -1 ≤ hi f ∧ hi f < 176 := rdeg_b _ 176
theorem t_high {d : Nat} {h : s_H} {c : Nat} {g : Nat → Int} (hg : s_get h c = some (al 176 g)) (hb : ∀ i, i < 176 → In6 (g i)) : wm sw_P (d + 1) 463 [.index c] h (qr (vi (rdeg g 176)) h) := by
  refine wm_in (cd := sw_c463) (nL := 2) (hd := sw_h463) rfl rfl ?_
  refine k463_0 ?_
  have loop : ∀ n : Nat, n ≤ 176 → rdeg g 176 = rdeg g n → wr sw_P d sw_c463 sw_h463 (4, [.index c, vi ((n : Int) - 1)], [], h, 0, 0) (qr (vi (rdeg g 176)) h) := by
    intro n
    induction n with
    | zero =>
      intro _ e
      refine k463_4 (fun q => k463_22 ?_) (fun q => absurd q (by omega))
      rw [e]; rfl
    | succ n ih =>
      intro hn e
      have e2 : ((n + 1 : Nat) : Int) - 1 = n := by omega
      rw [e2]
      refine k463_4 (fun q => absurd q (by omega)) (fun q => ?_)
      have e3 : gi (mk 176 g) (n : Int) = g n := gi_mkn (by omega)
      refine k463_8 hg (fun q => ?_) (fun q => ?_) (c8 := by rw [e3]; exact hb n (by omega))
      · rw [e3] at q
        refine k463_22 ?_
        rw [e, rdeg, if_neg q]
      · rw [e3] at q
        refine k463_16 ?_
        exact ih (by omega) (by rw [e, rdeg, if_pos (Decidable.of_not_not q)])
  exact loop 176 (Nat.le_refl _) rfl
theorem t_highp {d : Nat} {h : s_H} {c : Nat} {f : zp_R} (hg : s_get h c = some (pl f)) : wm sw_P (d + 1) 463 [.index c] h (qr (vi (hi f)) h) := t_high hg (fun i _ => by have := cf_b f i; exact ⟨by omega, by omega⟩)
theorem t_isOne {d : Nat} {h : s_H} {c : Nat} {f : zp_R} (hg : s_get h c = some (pl f)) : wm sw_P (d + 2) 483 [.index c] h (qr (vi (if hi f = 0 ∧ cf f 0 = 1 then 1 else 0)) h) := by
  refine wm_in (cd := sw_c483) (nL := 1) (hd := sw_h483) rfl rfl ?_
  have b := hi_b f
  refine k483_0 (wm_mono (wq_r ?_) (t_highp hg))
  have e3 : gi (mk 176 (cf f)) 0 = cf f 0 := gi_mkn (k := 0) (by decide)
  have b2 := cf_b f 0
  refine k483_4 (fun q => ?_) (fun q => ?_)
  · refine k483_19 (k483_20 ?_)
    rw [if_neg (by omega)]
  · refine k483_7 hg (fun q2 => ?_) (fun q2 => ?_) (c5 := by rw [mk_len]; decide) (c6 := by rw [e3]; exact ⟨by omega, by omega⟩)
    · rw [e3] at q2
      refine k483_19 (k483_20 ?_)
      rw [if_neg (by omega)]
    · rw [e3] at q2
      refine k483_15 (k483_20 ?_)
      rw [if_pos (by omega)]
/-- the power that the inverse is -/
theorem t_inverse {d : Nat} {h : s_H} {z : Int} (hz : In6 z) : wm sw_P (d + 2) 467 [vl z] h (qr (vl ((nF z ^ 32001 : zp_F).val : Int)) h) := by
  refine wm_in (cd := sw_c467) (nL := 7) (hd := sw_h467) rfl rfl ?_
  refine k467_0 (wm_mono (wq_r ?_) (t_modulo hz))
  refine k467_6 ?_
  have loop : ∀ (k r b : Nat) (t1 t3 t5 : Term), k ≤ 32001 → r < 32003 → b < 32003 → (nF r) * (nF b) ^ k = nF z ^ 32001 → wr sw_P (d + 1) sw_c467 sw_h467 (13, [vl z, t1, vl r, t3, vl b, t5, vi k], [], h, 0, 0) (qr (vl ((nF z ^ 32001 : zp_F).val : Int)) h) := by
    intro k
    induction k using Nat.strongRecOn with
    | _ k ih =>
      intro r b t1 t3 t5 hk hr hb e
      refine k467_13 (fun q => ?_) (fun q => ?_)
      · have : k = 0 := by omega
        subst this
        rw [zp_pow_zero] at e
        refine k467_59 ?_
        rw [← e]
        have : nF (r : Int) * 1 = nF r := by generalize nF (r : Int) = y; grind
        rw [this, nF_is (by omega)]
      · have m2 : Int.tmod (k : Int) 2 = (k : Int) % 2 := Int.tmod_eq_emod_of_nonneg (by omega)
        have m3 : Int.tdiv (k : Int) 2 = (k : Int) / 2 := Int.tdiv_eq_ediv_of_nonneg (by omega)
        have bb := mm_le (x := (b : Int)) (y := b) (by omega) (by omega)
        have rb := mm_le (x := (r : Int)) (y := b) (by omega) (by omega)
        have b2 := md_lt ((b : Int) * b)
        have r2 := md_lt ((r : Int) * b)
        have step : ∀ (s : Int) (t1 t3 : Term), 0 ≤ s → s < 32003 → nF s * (nF b * nF b) ^ (k / 2) = nF z ^ 32001 → wr sw_P (d + 1) sw_c467 sw_h467 (38, [vl z, t1, vl r, t3, vl b, t5, vi k], [vl s], h, 0, 0) (qr (vl ((nF z ^ 32001 : zp_F).val : Int)) h) := fun s t1 t3 s0 s1 es => by
          refine k467_38 ?_ (c1 := in6_of (by omega) (by omega))
          rw [m3, tmod_nn bb.1]
          have := ih (k / 2) (by omega) s.toNat ((b : Int) * b % 32003).toNat (s_uu t1) .result .result (by omega) (by omega) (by omega) (by
            rw [show ((s.toNat : Nat) : Int) = s by omega, show ((((b : Int) * b % 32003).toNat : Nat) : Int) = (b : Int) * b % 32003 by omega, nF_md, nF_mul]
            exact es)
          rw [show ((s.toNat : Nat) : Int) = s by omega, show ((((b : Int) * b % 32003).toNat : Nat) : Int) = (b : Int) * b % 32003 by omega, show ((k / 2 : Nat) : Int) = (k : Int) / 2 by omega] at this
          exact this
        have sq : ∀ n : Nat, (nF b * nF b) ^ n = nF b ^ (n + n) := fun n => by rw [zp_pow_mul, zp_pow_add]
        refine k467_18 (fun q1 => ?_) (fun q1 => ?_) (c2 := by rw [m2]; constructor <;> omega)
        · rw [m2] at q1
          refine k467_37 (step r t1 t3 (by omega) (by omega) ?_)
          rw [sq, show k / 2 + k / 2 = k by omega]; exact e
        · rw [m2] at q1
          refine k467_26 ?_ (c1 := in6_of (by omega) (by omega))
          rw [tmod_nn rb.1]
          refine step _ t1 t3 r2.1 r2.2 ?_
          rw [nF_md, nF_mul, sq, ← e]
          have : (nF b : zp_F) ^ k = nF b ^ (k / 2 + k / 2) * nF b := by rw [← zp_pow_succ]; congr 1; omega
          rw [this]
          generalize nF (b : Int) ^ (k / 2 + k / 2) = w
          generalize nF (b : Int) = y
          generalize nF (r : Int) = x
          grind
  have hm := md_lt z
  have := loop 32001 1 (z % 32003).toNat (s_uu .result) (s_uu .result) .result (Nat.le_refl _) (by decide) (by omega) (by
    rw [show (((z % 32003).toNat : Nat) : Int) = z % 32003 by omega, nF_md]
    show nF 1 * _ = _
    rw [nF_1]
    generalize nF z ^ 32001 = w
    grind)
  rw [show (((z % 32003).toNat : Nat) : Int) = z % 32003 by omega] at this
  exact this
