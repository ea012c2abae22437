/-! the reference's partBy: what a part has of a sum less a number -/
section
variable {d : Nat} {h : s_H} {s : Nat → Int} {A : Nat → Nat → Int}
theorem pst_C (V : zp_R) (z : zp_F) : pst V 0 (V.1 0 + z) = zp_add V (zp_C z) := zp_ext (fun i => by
  show (if i = 0 then V.1 0 + z else V.1 i) = V.1 i + (if i = 0 then z else 0)
  by_cases q : i = 0
  · rw [if_pos q, if_pos q, q]
  · rw [if_neg q, if_neg q]
    exact (@Lean.Grind.Semiring.add_zero zp_F _ (V.1 i)).symm)
theorem W_root {Q : s_O → Prop} {h' : s_H} (hv : RV h' s A) (rr : FR h h') {W V : zp_R} (hW : A 1312 = cf W) (hV : A 1311 = cf V) (dW : zp_deg W 176) (dV : zp_deg V 176) {n : Nat} (hn : n < 32003) {x1 x2 x3 x4 x5 : Int} {t7 : Term} (K : ∀ (D : Nat → Nat → Int) (h2 : s_H) (G : zp_R), RV h2 s D → FR h h2 → sm A D [1305, 1306, 1307] → isG W (zp_add V (zp_C (nF (-(n : Int))))) G → zp_deg G 176 → D 1306 = cf G → wr sw_P (d + 4) sw_c546 sw_h546 (175, [.index 1290, vi x1, vi x2, vi x3, vi x4, vi x5, vi (n : Int), t7], [], h2, 0, 0) Q) : wr sw_P (d + 4) sw_c546 sw_h546 (130, [.index 1290, vi x1, vi x2, vi x3, vi x4, vi x5, vi (n : Int), t7], [], h', 0, 0) Q := by
  refine k546_130 hv.1 (wm_mono (wq_Q (fun h1 v1 r1 => ?_)) (V_copy hv (c := 1306) (e := 1312) rfl rfl (by decide)))
  rw [hW] at v1
  refine k546_141 v1.1 (wm_mono (wq_Q (fun h2 v2 r2 => ?_)) (V_copy v1 (c := 1307) (e := 1311) rfl rfl (by decide)))
  rw [up_ne _ _ (show (1311 : Nat) ≠ 1306 by decide), hV] at v2
  have g0 : gi (mk 176 (up (up A 1306 (cf W)) 1307 (cf V) 1307)) 0 = ((V.1 0).val : Int) := by rw [up_at]; exact gi_mkn (k := 0) (by decide)
  have bz := F_bd (V.1 0)
  refine k546_152 v2.1 (Ra_h v2) (wm_mono (wq_r ?_) (t_modulo (by rw [g0]; exact in6_of (by omega) (by omega)))) (c10 := by rw [mk_len]; decide) (c11 := by unfold In3; omega)
  rw [g0]
  have ez : (((V.1 0).val : Int) - (n : Int)) % 32003 = ((V.1 0 + nF (-(n : Int)) : zp_F).val : Int) := by
    rw [← nF_v, nF_sub, nF_val, nF_neg, sb_h1]
  rw [ez]
  refine k546_170 (Ra_h v2) ((hp_ne (Ra_h v2) (by decide)).trans v2.1) ?_ (c4 := by rw [mk_len]; decide) (c5 := by decide) (c6 := by decide)
  rw [mk_set, up_at, cf_pst V (n := 0) (t0 := Int.toNat 0) rfl rfl, pst_C]
  have v3 := RV_w v2 (c := 1307) rfl (cf (zp_add V (zp_C (nF (-(n : Int))))))
  have r3 := FR_w v2 (c := 1307) rfl (al 176 (cf (zp_add V (zp_C (nF (-(n : Int)))))))
  refine wm_mono (wq_N (fun h4 s4 A4 v4 r4 φ => ?_)) (V_findCommon v3 (f := W) (g := zp_add V (zp_C (nF (-(n : Int))))) (by rw [up_ne _ _ (by decide), up_ne _ _ (by decide), up_at]) (up_at _ _ _) dW (deg_add dV (deg_le (zp_C_deg _) (by decide))))
  obtain ⟨e4, ⟨G, hG, dG, eG⟩, m4⟩ := φ
  subst e4
  exact K A4 h4 G v4 (FR_trans rr (FR_trans r1 (FR_trans r2 (FR_trans r3 r4)))) (sm_tr (sm_up (sm_up (sm_up sm_refl _ rfl) _ rfl) _ rfl) m4) hG dG eG
end
