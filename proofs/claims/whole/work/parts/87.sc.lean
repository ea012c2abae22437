/-! the reference: keeping series, their quotient -/
section
variable {d : Nat} {h : s_H} {s : Nat → Int} {A : Nat → Nat → Int}
/-- a row cut off at 25 -/
def c25 (f : zp_R) : Nat → Int := fun k => if k < 25 then cf f k else 0
def ksQ (s : Nat → Int) (A : Nat → Nat → Int) (bad : Int) (f : zp_R) : Term → (Nat → Int) → (Nat → Nat → Int) → Prop := fun v s' A' => (s 1 = 150 → v = vi 0 ∧ s' = up s 0 bad ∧ A' = A) ∧ (s 1 ≠ 150 → v = vi (s 1) ∧ s' = up (up s 0 0) 1 (s 1 + 1) ∧ A' = kept A (s 1).toNat 1 (c25 f) (fun _ => 0))
theorem V_keepSeries (hv : RV h s A) (hm : 0 ≤ s 1 ∧ s 1 ≤ 150) {f : zp_R} (hf : A 1302 = cf f) {bad : Int} : wm sw_P (d + 2) 499 [.index 1290, vi bad] h (RA h (ksQ s A bad f)) := by
  refine wm_in (cd := sw_c499) (nL := 3) (hd := sw_h499) rfl rfl ?_
  refine k499_0 (z5 := s 1) hv.1 (fun q => ?_) (fun q => ?_) (c7 := by unfold In3; omega)
  · have v0 := RV_fld hv (up s 0 0) (rF_0 s 0)
    refine k499_16 (z11 := s 1) hv.1 (hp_at hv.1) (Ra_kind v0) ?_ (c16 := by rw [mk_len]; omega) (c17 := hm.1) (c18 := by unfold In3; omega)
    rw [mk_set]
    have w0 := Rp_kind v0 (fun i => if i = (s 1).toNat then 1 else A 1291 i)
    have loop : ∀ (l k : Nat) (B : Nat → Nat → Int) (h' : s_H), k + l = 41 → RV h' (up s 0 0) B → FR h h' → (∀ j, j ≠ 1291 → j ≠ 1292 → j ≠ 1293 → B j = A j) → (∀ i, i < 150 → B 1291 i = if i = (s 1).toNat then 1 else A 1291 i) → (∀ i, i < 6150 → B 1292 i = if 41 * (s 1).toNat ≤ i ∧ i < 41 * (s 1).toNat + k then c25 f (i - 41 * (s 1).toNat) else A 1292 i) → (∀ i, i < 6150 → B 1293 i = if 41 * (s 1).toNat ≤ i ∧ i < 41 * (s 1).toNat + k then 0 else A 1293 i) → wr sw_P (d + 1) sw_c499 sw_h499 (33, [.index 1290, vi bad, vi (k : Int)], [], h', 0, 0) (RA h (ksQ s A bad f)) := by
      intro l
      induction l with
      | zero =>
        intro k B h' hk v r o g0 g1 g2
        have k41 : k = 41 := by omega
        subst k41
        refine k499_33 (fun _ => ?_) (fun z => absurd z (by omega))
        have vk := kept_of (A := A) (m := (s 1).toNat) (k := 1) (n := c25 f) (e := fun _ => 0) v o g0 g1 g2
        have vf := RV_fld vk (up (up s 0 0) 1 (s 1 + 1)) (rF_1 (up s 0 0) (s 1 + 1))
        exact k499_91 (z5 := s 1) (z11 := s 1 + 1) v.1 (hp_at v.1) ⟨vi (s 1 + 1 - 1), _, _, _, vf, FR_trans r (FR_fld v _), ⟨fun z => absurd z q, fun _ => ⟨by rw [show s 1 + 1 - 1 = s 1 by omega], rfl, rfl⟩⟩, rfl⟩
      | succ l ih =>
        intro k B h' hk v r o g0 g1 g2
        refine k499_33 (fun z => absurd z (by omega)) (fun _ => ?_)
        have nxt : ∀ z : Int, z = c25 f k → wr sw_P (d + 1) sw_c499 sw_h499 (69, [.index 1290, vi bad, vi (k : Int)], [vi z, vi (41 * s 1 + (k : Int)), .index 1292], h', 0, 0) (RA h (ksQ s A bad f)) := by
          intro z ez
          have w1 := Rp_tops v (fun i => if i = (41 * s 1 + (k : Int)).toNat then z else B 1292 i)
          have w2 := Rp_bottoms w1 (fun i => if i = (41 * s 1 + (k : Int)).toNat then 0 else B 1293 i)
          refine k499_69 (z14 := s 1) (Ra_tops v) ((hp_ne (Ra_tops v) (by decide)).trans v.1) ((hp_ne (Ra_tops v) (by decide)).trans (Ra_bottoms v)) ?_ (c4 := by rw [mk_len]; omega) (c5 := by omega) (c6 := by unfold In3; omega) (c19 := by rw [mk_len]; omega) (c20 := by omega) (c21 := by unfold In3; omega)
          rw [mk_set, mk_set]
          refine ih (k + 1) _ _ (by omega) w2 (FR_trans r (FR_trans (FR_put v (c := 1292) (by decide) (by decide) _) (FR_put w1 (c := 1293) (by decide) (by decide) _))) (fun j h1 h2 h3 => by rw [up_ne _ _ h3, up_ne _ _ h2, o j h1 h2 h3]) (fun i hi2 => by rw [up_ne _ _ (by decide), up_ne _ _ (by decide)]; exact g0 i hi2) (fun i hi2 => ?_) (fun i hi2 => ?_)
          · rw [up_ne _ _ (by decide), up_at]
            exact wr_step ez g1 (by omega) i hi2
          · rw [up_at]
            exact wr_step (n := fun _ => 0) rfl g2 (by omega) i hi2
        refine k499_39 (z7 := s 1) v.1 (fun q5 => ?_) (fun q5 => ?_)
        · exact k499_68 (nxt 0 (if_neg (by omega)).symm)
        · have g5 : gi (mk 176 (B 1302)) (k : Int) = c25 f k := by
            unfold c25
            rw [if_pos (by omega), gi_mkn (by omega), o 1302 (by decide) (by decide) (by decide), hf]
          exact k499_58 v.1 (Ra_rt v) (nxt _ g5) (c10 := by rw [mk_len]; omega)
    exact loop 41 0 _ _ rfl w0 (FR_trans (FR_fld hv _) (FR_put v0 (c := 1291) (by decide) (by decide) _)) (fun j h1 h2 h3 => up_ne _ _ h1) (fun i hi2 => by rw [up_at]) (fun i hi2 => by rw [up_ne _ _ (by decide), if_neg (by omega)]) (fun i hi2 => by rw [up_ne _ _ (by decide), if_neg (by omega)])
  · refine k499_10 hv.1 (wm_mono (wq_A (fun v h1 s1 A1 v1 r1 φ => ?_)) (V_raise hv))
    obtain ⟨e1, e2, e3⟩ := φ
    rw [e1]
    exact k499_15 ⟨vi 0, h1, s1, A1, v1, r1, ⟨fun _ => ⟨rfl, e2, e3⟩, fun z => absurd z q⟩, rfl⟩
/-- Q's series is a's through b's -/
def qs (a b Q : zp_R) (n : Nat) : Prop := zp_deg Q n ∧ ∀ m, m < n → zp_c b.1 Q.1 m = a.1 m
theorem qs_h1 {R : Type} [Lean.Grind.CommRing R] {b0 bi a S : R} (h : b0 * bi = 1) : b0 * ((a - S) * bi) + S = a := by grind
theorem qs_step {a b Q : zp_R} {n : Nat} (hq : qs a b Q n) (hb : b.1 0 ≠ 0) : qs a b (zp_add Q (zp_T ((a.1 n - zp_sum (fun j => b.1 (j + 1) * Q.1 (n - (j + 1))) n) * b.1 0 ^ 32001) n)) (n + 1) := by
  obtain ⟨h1, h2⟩ := hq
  generalize ec : (a.1 n - zp_sum (fun j => b.1 (j + 1) * Q.1 (n - (j + 1))) n) * b.1 0 ^ 32001 = c
  have e : ∀ i, (zp_add Q (zp_T c n)).1 i = if i = n then c else Q.1 i := fun i => by
    show Q.1 i + (if i = n then c else 0) = _
    by_cases hi2 : i = n
    · rw [if_pos hi2, if_pos hi2, h1 i (by omega)]; grind
    · rw [if_neg hi2, if_neg hi2]; grind
  refine ⟨fun i hi2 => ?_, fun m hm => ?_⟩
  · rw [e, if_neg (by omega), h1 i (by omega)]
  · show zp_sum (fun i => b.1 i * (zp_add Q (zp_T c n)).1 (m - i)) (m + 1) = a.1 m
    by_cases hmn : m = n
    · subst hmn
      rw [zp_sum_head, e, if_pos (by omega)]
      have : zp_sum (fun i => b.1 (i + 1) * (zp_add Q (zp_T c m)).1 (m - (i + 1))) m = zp_sum (fun j => b.1 (j + 1) * Q.1 (m - (j + 1))) m := zp_sum_congr (fun i hi2 => by rw [e, if_neg (by omega)])
      rw [this, ← ec]
      exact qs_h1 (zp_inv hb)
    · rw [← h2 m (by omega)]
      exact zp_sum_congr (fun i hi2 => by rw [e, if_neg (by omega)])
theorem V_quotientSeries (hv : RV h s A) {a b : zp_R} (ha : A 1298 = cf a) (hb : A 1300 = cf b) (b0 : b.1 0 ≠ 0) : wm sw_P (d + 3) 569 [.index 1290] h (RN h (fun s' A' => s' = s ∧ ∃ Q, qs a b Q 25 ∧ A' = up A 1302 (cf Q))) := by
  refine wm_in (cd := sw_c569) (nL := 7) (hd := sw_h569) rfl rfl ?_
  have e1 : gi (mk 176 (A 1300)) 0 = cf b 0 := by rw [hb]; exact gi_mkn (k := 0) (by decide)
  have b1 := cf_b b 0
  refine k569_0 hv.1 (Ra_bt hv) (wm_mono (wq_r ?_) (t_inverse (by rw [e1]; exact ⟨by omega, by omega⟩))) (c10 := by rw [mk_len]; decide)
  rw [e1, nF_cf]
  refine k569_9 hv.1 (wm_mono (wq_v ?_) (t_empty (by decide) (Ra_rt hv)))
  have w0 := Rp_rt hv (fun _ => 0)
  have e0 : (fun _ => (0 : Int)) = cf (zp_C 0) := by
    funext i
    unfold cf
    rw [zp_C00]; rfl
  rw [e0] at w0
  rw [e0]
  refine k569_17 ?_
  have bi := (b.1 0 ^ 32001 : zp_F).isLt
  have outer : ∀ (l n : Nat) (Q : zp_R) (h' : s_H) (t2 t4 t5 t6 : Term), n + l = 25 → RV h' s (up A 1302 (cf Q)) → FR h h' → qs a b Q n → wr sw_P (d + 2) sw_c569 sw_h569 (19, [.index 1290, vl ((b.1 0 ^ 32001 : zp_F).val : Int), t2, vi (n : Int), t4, t5, t6], [], h', 0, 0) (RN h (fun s' A' => s' = s ∧ ∃ Q, qs a b Q 25 ∧ A' = up A 1302 (cf Q))) := by
    intro l
    induction l with
    | zero =>
      intro n Q h' t2 t4 t5 t6 hn v r hq
      have n25 : n = 25 := by omega
      subst n25
      exact k569_19 (fun _ => k569_93 ⟨h', s, _, v, r, ⟨rfl, Q, hq, rfl⟩, rfl⟩) (fun z => absurd z (by omega))
    | succ l ih =>
      intro n Q h' t2 t4 t5 t6 hn v r hq
      refine k569_19 (fun z => absurd z (by omega)) (fun _ => ?_)
      have e2 : gi (mk 176 (up A 1302 (cf Q) 1298)) (n : Int) = cf a n := by rw [gi_mkn (by omega), up_ne _ _ (by decide), ha]
      refine k569_25 v.1 (Ra_at v) ?_ (c10 := by rw [mk_len]; omega)
      rw [e2]
      have inner : ∀ (p k : Nat) (t5 : Term), k + p = n → wr sw_P (d + 2) sw_c569 sw_h569 (36, [.index 1290, vl ((b.1 0 ^ 32001 : zp_F).val : Int), t2, vi (n : Int), vl ((a.1 n - zp_sum (fun j => b.1 (j + 1) * Q.1 (n - (j + 1))) k : zp_F).val : Int), t5, vi ((k : Int) + 1)], [], h', 0, 0) (RN h (fun s' A' => s' = s ∧ ∃ Q, qs a b Q 25 ∧ A' = up A 1302 (cf Q))) := by
        intro p
        induction p with
        | zero =>
          intro k t5 hk
          have kn : k = n := by omega
          subst kn
          refine k569_36 (fun _ => ?_) (fun z => absurd z (by omega))
          have bs := (a.1 k - zp_sum (fun j => b.1 (j + 1) * Q.1 (k - (j + 1))) k : zp_F).isLt
          have b3 := mm_le (x := ((a.1 k - zp_sum (fun j => b.1 (j + 1) * Q.1 (k - (j + 1))) k : zp_F).val : Int)) (y := ((b.1 0 ^ 32001 : zp_F).val : Int)) ⟨by omega, by omega⟩ ⟨by omega, by omega⟩
          refine k569_73 v.1 (Ra_rt v) ?_ (c7 := in6_of (by omega) (by omega)) (c11 := by rw [mk_len]; omega)
          rw [mk_set, tmod_nn b3.1, ← F_mul]
          have w := Rp_rt v (fun i => if i = (k : Int).toNat then (((a.1 k - zp_sum (fun j => b.1 (j + 1) * Q.1 (k - (j + 1))) k) * b.1 0 ^ 32001 : zp_F).val : Int) else up A 1302 (cf Q) 1302 i)
          have eA : up (up A 1302 (cf Q)) 1302 (fun i => if i = (k : Int).toNat then (((a.1 k - zp_sum (fun j => b.1 (j + 1) * Q.1 (k - (j + 1))) k) * b.1 0 ^ 32001 : zp_F).val : Int) else up A 1302 (cf Q) 1302 i) = up A 1302 (cf (zp_add Q (zp_T ((a.1 k - zp_sum (fun j => b.1 (j + 1) * Q.1 (k - (j + 1))) k) * b.1 0 ^ 32001) k))) := by
            generalize (a.1 k - zp_sum (fun j => b.1 (j + 1) * Q.1 (k - (j + 1))) k) * b.1 0 ^ 32001 = c
            funext j
            by_cases hj : j = 1302
            · subst hj
              rw [up_at, up_at, up_at]
              funext i
              unfold cf
              show _ = ((Q.1 i + (if i = k then c else 0) : zp_F).val : Int)
              by_cases hi2 : i = k
              · rw [if_pos (by omega), if_pos hi2, hq.1 i (by omega)]
                exact F_cg (by grind)
              · rw [if_neg (by omega), if_neg hi2]
                exact F_cg (by grind)
            · rw [up_ne _ _ hj, up_ne _ _ hj, up_ne _ _ hj]
          rw [eA] at w
          exact ih (k + 1) _ _ _ _ _ _ (by omega) w (FR_trans r (FR_put v (c := 1302) (by decide) (by decide) _)) (qs_step hq b0)
        | succ p ih2 =>
          intro k t5 hk
          refine k569_36 (fun z => absurd z (by omega)) (fun _ => ?_)
          have g1 : gi (mk 176 (up A 1302 (cf Q) 1300)) ((k : Int) + 1) = cf b (k + 1) := by
            rw [show (k : Int) + 1 = ((k + 1 : Nat) : Int) by omega, gi_mkn (by omega), up_ne _ _ (by decide), hb]
          have g2 : gi (mk 176 (up A 1302 (cf Q) 1302)) ((n : Int) - ((k : Int) + 1)) = cf Q (n - (k + 1)) := by
            rw [show (n : Int) - ((k : Int) + 1) = ((n - (k + 1) : Nat) : Int) by omega, gi_mkn (by omega), up_at]
          have bs := (a.1 n - zp_sum (fun j => b.1 (j + 1) * Q.1 (n - (j + 1))) k : zp_F).isLt
          have b3 := mm_le (cf_b b (k + 1)) (cf_b Q (n - (k + 1)))
          refine k569_42 v.1 (Ra_bt v) (Ra_rt v) (wm_mono (wq_r ?_) (t_modulo (by rw [g1, g2]; exact in6_of (by omega) (by omega)))) (c10 := by rw [mk_len]; omega) (c18 := by rw [mk_len]; omega)
          refine k569_65 ?_
          rw [g1, g2]
          have e5 : (((a.1 n - zp_sum (fun j => b.1 (j + 1) * Q.1 (n - (j + 1))) k : zp_F).val : Int) - cf b (k + 1) * cf Q (n - (k + 1))) % 32003 = ((a.1 n - zp_sum (fun j => b.1 (j + 1) * Q.1 (n - (j + 1))) (k + 1) : zp_F).val : Int) := by
            rw [← nF_v, nF_sub, nF_val, nF_mul, nF_cf, nF_cf]
            show _ = ((a.1 n - (zp_sum (fun j => b.1 (j + 1) * Q.1 (n - (j + 1))) k + b.1 (k + 1) * Q.1 (n - (k + 1))) : zp_F).val : Int)
            refine F_cg ?_
            generalize zp_sum (fun j => b.1 (j + 1) * Q.1 (n - (j + 1))) k = S
            generalize b.1 (k + 1) * Q.1 (n - (k + 1)) = y
            generalize a.1 n = z
            grind
          rw [e5]
          have := ih2 (k + 1) .result (by omega)
          exact this
      have := inner n 0 .result (by omega)
      have e6 : cf a n = ((a.1 n - zp_sum (fun j => b.1 (j + 1) * Q.1 (n - (j + 1))) 0 : zp_F).val : Int) := by
        unfold cf
        refine F_cg ?_
        show a.1 n = a.1 n - 0
        generalize a.1 n = z
        grind
      rw [e6]
      exact this
  exact outer 25 0 (zp_C 0) _ _ _ _ _ rfl w0 (FR_put hv (c := 1302) (by decide) (by decide) _) ⟨fun i _ => zp_C00 i, fun m hm => absurd hm (by omega)⟩
end
