/-! the reference: sum, product and quotient of fractions; two of one kind -/
theorem deg_mul81 {f g : zp_R} (hf : zp_deg f 41) (hg : zp_deg g 41) : zp_deg (zp_mul f g) 176 := deg_le (zp_deg_mul (n := 40) (m := 40) hf hg) (by decide)
theorem deg_Cm {f : zp_R} {n : Nat} (c : zp_F) (hf : zp_deg f n) : zp_deg (zp_mul (zp_C c) f) n := fun i hi2 => by rw [zp_C_mul1, hf i hi2]; exact zp_h15 _
theorem deg_add {f g : zp_R} {n : Nat} (hf : zp_deg f n) (hg : zp_deg g n) : zp_deg (zp_add f g) n := fun i hi2 => by
  show f.1 i + g.1 i = 0
  rw [hf i hi2, hg i hi2]; rfl
section
variable {d : Nat} {h : s_H} {s : Nat → Int} {A : Nat → Nat → Int}
theorem V_number (hv : RV h s A) (hm : 0 ≤ s 1 ∧ s 1 ≤ 150) {z : Int} (hz : In6 z) : wm sw_P (d + 4) 539 [.index 1290, vl z] h (RA h (kQ s (up (up A 1302 (cf (zp_C (nF z)))) 1303 (cf (zp_C 1))) 1 (zp_C (nF z)) (zp_C 1))) := by
  refine wm_in (cd := sw_c539) (nL := 3) (hd := sw_h539) rfl rfl ?_
  refine k539_0 hv.1 (wm_mono (wq_Q (fun h1 v1 r1 => ?_)) (V_become hv (c := 1302) rfl hz))
  refine k539_8 v1.1 (wm_mono (wq_Q (fun h2 v2 r2 => ?_)) (V_become v1 (c := 1303) rfl (z := 1) (by decide)))
  rw [nF_1] at v2
  refine k539_16 v2.1 (wm_mono (wq_A (fun v h3 s3 A3 v3 r3 φ => ?_)) (V_keep v2 hm (N := zp_C (nF z)) (D := zp_C 1) (by rw [up_ne _ _ (by decide), up_at]) (up_at _ _ _)))
  by_cases q : full s (zp_C (nF z)) (zp_C 1)
  · obtain ⟨e1, e2⟩ := φ.1 q
    subst e1
    exact k539_21 ⟨_, h3, s3, A3, v3, FR_trans r1 (FR_trans r2 r3), φ, rfl⟩
  · obtain ⟨e1, e2⟩ := φ.2 q
    subst e1
    exact k539_21 ⟨_, h3, s3, A3, v3, FR_trans r1 (FR_trans r2 r3), φ, rfl⟩
/-- what the three ways of counting end with -/
def lQ (s : Nat → Int) (A : Nat → Nat → Int) (n m : zp_R) : (Nat → Int) → (Nat → Nat → Int) → Prop := fun s' A' => s' = s ∧ (∃ N D, cn n m N D ∧ zp_deg N 176 ∧ zp_deg D 176 ∧ A' 1302 = cf N ∧ A' 1303 = cf D) ∧ sm A A' [1302, 1303, 1304, 1305, 1306, 1307]
theorem V_sumAll (hv : RV h s A) {a b c e : zp_R} (ha : A 1298 = cf a) (hb : A 1299 = cf b) (hc : A 1300 = cf c) (he : A 1301 = cf e) (da : zp_deg a 41) (db : zp_deg b 41) (dc : zp_deg c 41) (de : zp_deg e 41) (b0 : 0 ≤ hi b) (e0 : 0 ≤ hi e) {z : Int} (hz : In6 z) : wm sw_P (d + 7) 602 [.index 1290, vl z] h (RN h (lQ s A (zp_add (zp_mul a e) (zp_mul (zp_C (nF z)) (zp_mul c b))) (zp_mul b e))) := by
  refine wm_in (cd := sw_c602) (nL := 3) (hd := sw_h602) rfl rfl ?_
  refine k602_0 hv.1 (wm_mono (wq_Q (fun h1 v1 r1 => ?_)) (V_multiply hv (p := 1298) (q := 1301) rfl rfl (by decide) (by decide) ha he))
  refine k602_12 v1.1 (wm_mono (wq_Q (fun h2 v2 r2 => ?_)) (V_copy v1 (c := 1302) (e := 1304) rfl rfl (by decide)))
  refine k602_23 v2.1 (wm_mono (wq_Q (fun h3 v3 r3 => ?_)) (V_multiply v2 (p := 1300) (q := 1299) rfl rfl (by decide) (by decide) (f := c) (g := b) (by rw [up_ne _ _ (by decide), up_ne _ _ (by decide), hc]) (by rw [up_ne _ _ (by decide), up_ne _ _ (by decide), hb])))
  refine k602_35 v3.1 (wm_mono (wq_Q (fun h4 v4 r4 => ?_)) (V_more v3 (c := 1302) (e := 1304) rfl rfl (by decide) (f := zp_mul a e) (g := zp_mul c b) (by rw [up_ne _ _ (by decide), up_at, up_at]) (up_at _ _ _) hz))
  refine k602_47 v4.1 (wm_mono (wq_Q (fun h5 v5 r5 => ?_)) (V_multiply v4 (p := 1299) (q := 1301) rfl rfl (by decide) (by decide) (f := b) (g := e) (by rw [up_ne _ _ (by decide), up_ne _ _ (by decide), up_ne _ _ (by decide), up_ne _ _ (by decide), hb]) (by rw [up_ne _ _ (by decide), up_ne _ _ (by decide), up_ne _ _ (by decide), up_ne _ _ (by decide), he])))
  refine k602_59 v5.1 (wm_mono (wq_Q (fun h6 v6 r6 => ?_)) (V_copy v5 (c := 1303) (e := 1304) rfl rfl (by decide)))
  refine k602_70 v6.1 (wm_mono (wq_N (fun h7 s7 A7 v7 r7 φ => ?_)) (V_lower v6 (n := zp_add (zp_mul a e) (zp_mul (zp_C (nF z)) (zp_mul c b))) (m := zp_mul b e) (by rw [up_ne _ _ (by decide), up_ne _ _ (by decide), up_at]) (by rw [up_at, up_at]) (deg_add (deg_mul81 da de) (deg_Cm _ (deg_mul81 dc db))) (deg_mul81 db de) (mul_ne db de b0 e0)))
  obtain ⟨e1, e2, e3⟩ := φ
  exact k602_74 ⟨h7, s7, A7, v7, FR_trans r1 (FR_trans r2 (FR_trans r3 (FR_trans r4 (FR_trans r5 (FR_trans r6 r7))))), ⟨e1, e2, sm_tr (sm_up (sm_up (sm_up (sm_up (sm_up (sm_up sm_refl _ rfl) _ rfl) _ rfl) _ rfl) _ rfl) _ rfl) (sm_sub e3 rfl)⟩, rfl⟩
theorem V_productAll (hv : RV h s A) {a b c e : zp_R} (ha : A 1298 = cf a) (hb : A 1299 = cf b) (hc : A 1300 = cf c) (he : A 1301 = cf e) (da : zp_deg a 41) (db : zp_deg b 41) (dc : zp_deg c 41) (de : zp_deg e 41) (b0 : 0 ≤ hi b) (e0 : 0 ≤ hi e) : wm sw_P (d + 7) 564 [.index 1290] h (RN h (lQ s A (zp_mul a c) (zp_mul b e))) := by
  refine wm_in (cd := sw_c564) (nL := 1) (hd := sw_h564) rfl rfl ?_
  refine k564_0 hv.1 (wm_mono (wq_Q (fun h1 v1 r1 => ?_)) (V_multiply hv (p := 1298) (q := 1300) rfl rfl (by decide) (by decide) ha hc))
  refine k564_12 v1.1 (wm_mono (wq_Q (fun h2 v2 r2 => ?_)) (V_copy v1 (c := 1302) (e := 1304) rfl rfl (by decide)))
  refine k564_23 v2.1 (wm_mono (wq_Q (fun h5 v5 r5 => ?_)) (V_multiply v2 (p := 1299) (q := 1301) rfl rfl (by decide) (by decide) (f := b) (g := e) (by rw [up_ne _ _ (by decide), up_ne _ _ (by decide), hb]) (by rw [up_ne _ _ (by decide), up_ne _ _ (by decide), he])))
  refine k564_35 v5.1 (wm_mono (wq_Q (fun h6 v6 r6 => ?_)) (V_copy v5 (c := 1303) (e := 1304) rfl rfl (by decide)))
  refine k564_46 v6.1 (wm_mono (wq_N (fun h7 s7 A7 v7 r7 φ => ?_)) (V_lower v6 (n := zp_mul a c) (m := zp_mul b e) (by rw [up_ne _ _ (by decide), up_ne _ _ (by decide), up_at, up_at]) (by rw [up_at, up_at]) (deg_mul81 da dc) (deg_mul81 db de) (mul_ne db de b0 e0)))
  obtain ⟨e1, e2, e3⟩ := φ
  exact k564_50 ⟨h7, s7, A7, v7, FR_trans r1 (FR_trans r2 (FR_trans r5 (FR_trans r6 r7))), ⟨e1, e2, sm_tr (sm_up (sm_up (sm_up (sm_up sm_refl _ rfl) _ rfl) _ rfl) _ rfl) (sm_sub e3 rfl)⟩, rfl⟩
theorem V_quotientAll (hv : RV h s A) {a b c e : zp_R} (ha : A 1298 = cf a) (hb : A 1299 = cf b) (hc : A 1300 = cf c) (he : A 1301 = cf e) (da : zp_deg a 41) (db : zp_deg b 41) (dc : zp_deg c 41) (de : zp_deg e 41) (b0 : 0 ≤ hi b) (c0 : 0 ≤ hi c) : wm sw_P (d + 7) 568 [.index 1290] h (RN h (lQ s A (zp_mul a e) (zp_mul b c))) := by
  refine wm_in (cd := sw_c568) (nL := 1) (hd := sw_h568) rfl rfl ?_
  refine k568_0 hv.1 (wm_mono (wq_Q (fun h1 v1 r1 => ?_)) (V_multiply hv (p := 1298) (q := 1301) rfl rfl (by decide) (by decide) ha he))
  refine k568_12 v1.1 (wm_mono (wq_Q (fun h2 v2 r2 => ?_)) (V_copy v1 (c := 1302) (e := 1304) rfl rfl (by decide)))
  refine k568_23 v2.1 (wm_mono (wq_Q (fun h5 v5 r5 => ?_)) (V_multiply v2 (p := 1299) (q := 1300) rfl rfl (by decide) (by decide) (f := b) (g := c) (by rw [up_ne _ _ (by decide), up_ne _ _ (by decide), hb]) (by rw [up_ne _ _ (by decide), up_ne _ _ (by decide), hc])))
  refine k568_35 v5.1 (wm_mono (wq_Q (fun h6 v6 r6 => ?_)) (V_copy v5 (c := 1303) (e := 1304) rfl rfl (by decide)))
  refine k568_46 v6.1 (wm_mono (wq_N (fun h7 s7 A7 v7 r7 φ => ?_)) (V_lower v6 (n := zp_mul a e) (m := zp_mul b c) (by rw [up_ne _ _ (by decide), up_ne _ _ (by decide), up_at, up_at]) (by rw [up_at, up_at]) (deg_mul81 da de) (deg_mul81 db dc) (mul_ne db dc b0 c0)))
  obtain ⟨e1, e2, e3⟩ := φ
  exact k568_50 ⟨h7, s7, A7, v7, FR_trans r1 (FR_trans r2 (FR_trans r5 (FR_trans r6 r7))), ⟨e1, e2, sm_tr (sm_up (sm_up (sm_up (sm_up sm_refl _ rfl) _ rfl) _ rfl) _ rfl) (sm_sub e3 rfl)⟩, rfl⟩
/-- bounds of the kinds and rows -/
def RB (s : Nat → Int) (A : Nat → Nat → Int) : Prop := (0 ≤ s 1 ∧ s 1 ≤ 150) ∧ (∀ i, i < 150 → 0 ≤ A 1291 i ∧ A 1291 i ≤ 3) ∧ (∀ i, i < 6150 → 0 ≤ A 1292 i ∧ A 1292 i < 32003) ∧ (∀ i, i < 6150 → 0 ≤ A 1293 i ∧ A 1293 i < 32003)
theorem RB_k {s : Nat → Int} {A : Nat → Nat → Int} (hb : RB s A) (i : Nat) (hi2 : i < 150) : In3 (A 1291 i) := by
  have := hb.2.1 i hi2
  unfold In3; omega
theorem RB_t {s : Nat → Int} {A : Nat → Nat → Int} (hb : RB s A) (i : Nat) (hi2 : i < 6150) : In3 (A 1292 i) := by
  have := hb.2.2.1 i hi2
  unfold In3; omega
theorem RB_b {s : Nat → Int} {A : Nat → Nat → Int} (hb : RB s A) (i : Nat) (hi2 : i < 6150) : In3 (A 1293 i) := by
  have := hb.2.2.2 i hi2
  unfold In3; omega
/-- what areTwo finds: 1, 2 or 0 -/
noncomputable def two (s : Nat → Int) (A : Nat → Nat → Int) (x y m : Int) : Int :=
  if ¬ (0 ≤ x ∧ x < s 1 ∧ 0 ≤ y ∧ y < s 1) then 1 else if A 1291 x.toNat ≠ A 1291 y.toNat ∨ A 1291 x.toNat = 3 ∨ (m = 0 ∧ A 1291 x.toNat = 2) then 2 else 0
theorem V_areTwo (hv : RV h s A) (hB : RB s A) {x y m : Int} (hx : In3 x) (hy : In3 y) (hm : m = 0 ∨ m = 1) : wm sw_P (d + 3) 401 [.index 1290, vi x, vi y, vi m] h (RA h (fun v s' A' => s' = up s 0 (two s A x y m) ∧ (two s A x y m ≠ 0 → v = vi 0 ∧ A' = A) ∧ (two s A x y m = 0 → v = vi 1 ∧ A' = up (up (up (up A 1298 (fp A 1292 x.toNat)) 1299 (fp A 1293 x.toNat)) 1300 (fp A 1292 y.toNat)) 1301 (fp A 1293 y.toNat)))) := by
  refine wm_in (cd := sw_c401) (nL := 4) (hd := sw_h401) rfl rfl ?_
  have b1 := hB.1
  -- the end, by what was found
  have fin : ∀ z : Int, z = two s A x y m → (z = 0 ∨ z = 1 ∨ z = 2) → wr sw_P (d + 2) sw_c401 sw_h401 (63, [.index 1290, vi x, vi y, vi m], [vi z, .index 1290], h, 0, 0) (RA h (fun v s' A' => s' = up s 0 (two s A x y m) ∧ (two s A x y m ≠ 0 → v = vi 0 ∧ A' = A) ∧ (two s A x y m = 0 → v = vi 1 ∧ A' = up (up (up (up A 1298 (fp A 1292 x.toNat)) 1299 (fp A 1293 x.toNat)) 1300 (fp A 1292 y.toNat)) 1301 (fp A 1293 y.toNat)))) := by
    intro z ez hz
    have v0 := RV_fld hv (up s 0 z) (rF_0 s z)
    have r0 := FR_fld hv (1, 11, (rF s).set 0 (vi z))
    refine k401_63 (z10 := z) hv.1 (hp_at hv.1) (fun q => ?_) (fun q => ?_) (c12 := by unfold In3; omega)
    · have z0 : z = 0 := by omega
      have hin : 0 ≤ x ∧ x < s 1 ∧ 0 ≤ y ∧ y < s 1 := by
        refine Decidable.byContradiction (fun w => ?_)
        have : two s A x y m = 1 := if_pos w
        omega
      refine k401_75 v0.1 (wm_mono (wq_Q (fun h1 v1 r1 => ?_)) (V_load v0 (t := 1298) (b := 1299) rfl rfl (by decide) (x := x) ⟨hin.1, by omega⟩ (RB_t hB) (RB_b hB)))
      refine k401_88 v1.1 (wm_mono (wq_Q (fun h2 v2 r2 => ?_)) (V_load v1 (t := 1300) (b := 1301) rfl rfl (by decide) (x := y) ⟨hin.2.2.1, by omega⟩ (fun i hi2 => by rw [up_ne _ _ (by decide), up_ne _ _ (by decide)]; exact RB_t hB i hi2) (fun i hi2 => by rw [up_ne _ _ (by decide), up_ne _ _ (by decide)]; exact RB_b hB i hi2)))
      exact k401_101 ⟨_, h2, _, _, v2, FR_trans r0 (FR_trans r1 r2), ⟨by rw [ez], fun w => absurd (ez.symm.trans z0) w, fun _ => ⟨rfl, rfl⟩⟩, rfl⟩
    · exact k401_73 ⟨_, _, _, _, v0, r0, ⟨by rw [ez], fun _ => ⟨rfl, rfl⟩, fun w => absurd (ez.trans w) (by omega)⟩, rfl⟩
  refine k401_0 hv.1 (wm_mono (wq_r ?_) (V_isThere hv b1 hx))
  by_cases qx : 0 ≤ x ∧ x < s 1
  · rw [if_pos qx]
    refine k401_6 (fun q => absurd q (by decide)) (fun _ => ?_)
    refine k401_9 hv.1 (wm_mono (wq_r ?_) (V_isThere hv b1 hy))
    by_cases qy : 0 ≤ y ∧ y < s 1
    · rw [if_pos qy]
      refine k401_14 (fun _ => ?_) (fun q => absurd (by decide) q)
      have ex : gi (mk 150 (A 1291)) x = A 1291 x.toNat := gi_mk qx.1 (by omega)
      have ey : gi (mk 150 (A 1291)) y = A 1291 y.toNat := gi_mk qy.1 (by omega)
      have ht : two s A x y m = if A 1291 x.toNat ≠ A 1291 y.toNat ∨ A 1291 x.toNat = 3 ∨ (m = 0 ∧ A 1291 x.toNat = 2) then 2 else 0 := if_neg (fun w => w ⟨qx.1, qx.2, qy⟩)
      have f2 : (A 1291 x.toNat ≠ A 1291 y.toNat ∨ A 1291 x.toNat = 3 ∨ (m = 0 ∧ A 1291 x.toNat = 2)) → wr sw_P (d + 2) sw_c401 sw_h401 (58, [.index 1290, vi x, vi y, vi m], [.index 1290], h, 0, 0) (RA h (fun v s' A' => s' = up s 0 (two s A x y m) ∧ (two s A x y m ≠ 0 → v = vi 0 ∧ A' = A) ∧ (two s A x y m = 0 → v = vi 1 ∧ A' = up (up (up (up A 1298 (fp A 1292 x.toNat)) 1299 (fp A 1293 x.toNat)) 1300 (fp A 1292 y.toNat)) 1301 (fp A 1293 y.toNat)))) := fun w => k401_58 (fin 2 (by rw [ht, if_pos w]) (by omega))
      have f0 : ¬ (A 1291 x.toNat ≠ A 1291 y.toNat ∨ A 1291 x.toNat = 3 ∨ (m = 0 ∧ A 1291 x.toNat = 2)) → wr sw_P (d + 2) sw_c401 sw_h401 (62, [.index 1290, vi x, vi y, vi m], [.index 1290], h, 0, 0) (RA h (fun v s' A' => s' = up s 0 (two s A x y m) ∧ (two s A x y m ≠ 0 → v = vi 0 ∧ A' = A) ∧ (two s A x y m = 0 → v = vi 1 ∧ A' = up (up (up (up A 1298 (fp A 1292 x.toNat)) 1299 (fp A 1293 x.toNat)) 1300 (fp A 1292 y.toNat)) 1301 (fp A 1293 y.toNat)))) := fun w => k401_62 (fin 0 (by rw [ht, if_neg w]) (by omega))
      have kx := RB_k hB x.toNat (by omega)
      have ky := RB_k hB y.toNat (by omega)
      refine k401_21 hv.1 (Ra_kind hv) (fun q => ?_) (fun q => ?_) (c10 := by rw [mk_len]; omega) (c11 := qx.1) (c12 := hx) (c13 := by rw [mk_len]; omega) (c14 := qy.1) (c15 := hy) (c16 := by rw [ex]; exact kx) (c17 := by rw [ey]; exact ky)
      · rw [ex, ey] at q
        exact f2 (.inl q)
      · rw [ex, ey] at q
        refine k401_36 hv.1 (wm_mono (wq_r ?_) (V_is hv (x := x) (k := 3) ⟨qx.1, by omega⟩ kx (by decide)))
        by_cases q3 : A 1291 x.toNat = 3
        · rw [if_pos q3]
          exact k401_42 (fun _ => f2 (.inr (.inl q3))) (fun z => absurd (by decide) z)
        · rw [if_neg q3]
          refine k401_42 (fun z => absurd rfl z) (fun _ => ?_)
          refine k401_45 (fun q4 => f0 (by omega)) (fun q4 => ?_) (c1 := by unfold In3; omega)
          refine k401_49 hv.1 (wm_mono (wq_r ?_) (V_is hv (x := x) (k := 2) ⟨qx.1, by omega⟩ kx (by decide)))
          by_cases q5 : A 1291 x.toNat = 2
          · rw [if_pos q5]
            exact k401_55 (fun z => absurd z (by decide)) (fun _ => f2 (.inr (.inr ⟨by omega, q5⟩)))
          · rw [if_neg q5]
            exact k401_55 (fun _ => f0 (by omega)) (fun z => absurd rfl z)
    · rw [if_neg qy]
      refine k401_14 (fun z => absurd rfl z) (fun _ => k401_17 (fin 1 ?_ (by omega)))
      exact (if_pos (fun w => qy w.2.2)).symm
  · rw [if_neg qx]
    refine k401_6 (fun _ => k401_17 (fin 1 ?_ (by omega))) (fun z => absurd rfl z)
    exact (if_pos (fun w => qx ⟨w.1, w.2.1⟩)).symm
end
