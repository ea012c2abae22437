/-! the reference's findFixed, the whole of it -/
def fxA : List Nat := [1304, 1305, 1308, 1309, 1310, 1317, 1318, 1320]
section
variable {d : Nat} {h : s_H} {s : Nat → Int} {A : Nat → Nat → Int}
theorem V_findFixed (hv : RV h s A) {n : Nat} {W : zp_R} (hW : A 1300 = cf W) (en : hi W = n) (n1 : 1 ≤ n) (n41 : n ≤ 41) (dW : zp_deg W 176) : wm sw_P (d + 5) 451 [.index 1290, .index 1300, vi (n : Int)] h (RN h (fun s' A' => fxq s s' ∧ sm A A' fxA ∧ ∃ B R, rr (tc (fxG W (md W (zp_X 32003))) n n 0) B n n R ∧ s' 35 = (fcn R n : Int) ∧ ∀ c, c < n → R c = -1 → ft A' (fcn R c) = cf (kerq B R n c))) := by
  refine wm_in (cd := sw_c451) (nL := 5) (hd := sw_h451) rfl rfl ?_
  have h0 : 0 ≤ hi W := by omega
  refine k451_0 hv.1 (wm_mono (wq_Q (fun h1 v1 r1 => ?_)) (V_become hv (c := 1308) rfl (z := 0) (by decide)))
  rw [nF_0] at v1
  refine k451_8 v1.1 (RV_l v1 (c := 1308) rfl) ((hp_ne (RV_l v1 (c := 1308) rfl) (by decide)).trans v1.1) ?_ (c10 := by rw [mk_len]; decide)
  rw [mk_set]
  have ex : (fun i => if i = Int.toNat 1 then (1 : Int) else up A 1308 (cf (zp_C 0)) 1308 i) = cf (zp_X 1) := by
    funext i
    rw [up_at]
    show (if i = 1 then (1 : Int) else (((if i = 0 then 0 else 0 : zp_F)).val : Int)) = (((if i = 1 then 1 else 0 : zp_F)).val : Int)
    by_cases q : i = 1
    · rw [if_pos q, if_pos q]; rfl
    · rw [if_neg q, if_neg q]
      by_cases q2 : i = 0
      · rw [if_pos q2]
      · rw [if_neg q2]
  rw [ex]
  have v2 := RV_w v1 (c := 1308) rfl (cf (zp_X 1))
  have r2 := FR_w v1 (c := 1308) rfl (al 176 (cf (zp_X 1)))
  refine wm_mono (wq_N (fun h3 s3 A3 v3 r3 φ => ?_)) (V_divide v2 (p := 1308) (q := 1300) rfl rfl (by decide) (by decide) (by decide) (f := zp_X 1) (g := W) (up_at _ _ _) (by rw [up_ne _ _ (by decide), up_ne _ _ (by decide)]; exact hW) (deg_le (zp_T_deg 1 1) (by decide)) dW h0)
  obtain ⟨e3, Q, X, x1, x2, x3, x4, x5⟩ := φ
  subst e3
  have cX : cg W (zp_X 1) X := cg_dv x1
  refine k451_24 v3.1 (wm_mono (wq_Q (fun h4 v4 r4 => ?_)) (V_copy v3 (c := 1310) (e := 1308) rfl rfl (by decide)))
  refine k451_35 v4.1 (wm_mono (wq_Q (fun h5 v5 r5 => ?_)) (V_become v4 (c := 1309) rfl (z := 1) (by decide)))
  rw [nF_1] at v5
  have m5 : sm A (up (up A3 1310 (A3 1308)) 1309 (cf (zp_C 1))) fxA := by
    rw [x5]
    exact sm_up (sm_up (sm_up (sm_up (sm_up (sm_up sm_refl _ rfl) _ rfl) _ rfl) _ rfl) _ rfl) _ rfl
  have dX : zp_deg X (hi W).toNat := x2
  refine W_pow v5 (FR_trans r1 (FR_trans r2 (FR_trans r3 (FR_trans r4 r5)))) (p := 1300) rfl rfl (W := W) (X := X) ((m5 1300 rfl).trans hW) (by omega) (by omega) dW (by rw [up_ne _ _ (by decide), up_at, x5, up_at]) dX (up_at _ _ _) (fun D h6 v6 r6 mD eV => ?_)
  have eV2 : md W (zp_npow X 32003) = md W (zp_X 32003) := by
    rw [← zp_X_pow 32003]
    exact (md_eq h0 dW (cg_pow cX 32003)).symm
  rw [eV2] at eV
  have mAD : sm A D fxA := sm_tr m5 (sm_sub mD rfl)
  refine W_tab v6 r6 (p := 1300) rfl rfl (n := n) (W := W) (V := md W (zp_X 32003)) ((mAD 1300 rfl).trans hW) en n1 n41 dW eV (by
    have := md_deg h0 dW (zp_X 32003)
    rw [en] at this
    exact this) (fun E h7 t7 v7 r7 mE gE => ?_)
  refine W_base v7 r7 (p := 1300) n41 gE (fun F B R s8 h8 t8 v8 r8 mF q8 e35 a8 g8 => ?_)
  exact k451_340 ⟨h8, s8, F, v8, r8, ⟨q8, sm_tr mAD (sm_tr (sm_sub mE rfl) (sm_sub mF rfl)), B, R, a8, e35, g8⟩, rfl⟩
end
