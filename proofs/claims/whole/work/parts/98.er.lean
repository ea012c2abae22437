/-! the reference's findFixed: a power by squares -/
theorem pq_h1 {R : Type} [Lean.Grind.CommRing R] {p u : R} (e : p = p) : p * (u * u) = p * u * u := by grind
theorem pq_h2 {R : Type} [Lean.Grind.CommRing R] (t p u : R) : t * (p * u) = t * u * p := by grind
theorem pq_h3 {R : Type} [Lean.Grind.CommRing R] (t : R) : t * 1 = t := by grind
theorem pq_h4 {R : Type} [Lean.Grind.CommRing R] (t : R) : 1 * t = t := by grind
theorem npow_sq (u : zp_R) : ∀ k, zp_npow (zp_mul u u) k = zp_npow u (2 * k)
  | 0 => rfl
  | k + 1 => by
    rw [npow_s, npow_sq u k, show 2 * (k + 1) = 2 * k + 1 + 1 by omega, npow_s, npow_s]
    exact @pq_h1 zp_R zp_ring _ u rfl
/-- t times u to the k, where k is odd or even -/
theorem npow_half (t u : zp_R) (k : Nat) : zp_mul (if k % 2 = 1 then zp_mul t u else t) (zp_npow (zp_mul u u) (k / 2)) = zp_mul t (zp_npow u k) := by
  rw [npow_sq]
  by_cases q : k % 2 = 1
  · rw [if_pos q]
    have e : zp_npow u k = zp_mul (zp_npow u (2 * (k / 2))) u := by
      rw [← npow_s, show 2 * (k / 2) + 1 = k by omega]
    rw [e]
    exact (@pq_h2 zp_R zp_ring t _ u).symm
  · rw [if_neg q, show 2 * (k / 2) = k by omega]
section
variable {d : Nat} {h : s_H} {s : Nat → Int} {A : Nat → Nat → Int}
def fxR : List Nat := [1304, 1305, 1308, 1309, 1310]
theorem W_pow {Q : s_O → Prop} {h' : s_H} (hv : RV h' s A) (rr : FR h h') {p : Nat} (hp : P9 p = true) (hp9 : p = 1300) {x2 : Int} {W X : zp_R} (hW : A p = cf W) (h1 : 1 ≤ hi W) (h41 : hi W ≤ 41) (dW : zp_deg W 176) (hX : A 1310 = cf X) (dX : zp_deg X (hi W).toNat) (hT : A 1309 = cf (zp_C 1)) {t3 t4 : Term} (K : ∀ (D : Nat → Nat → Int) (h2 : s_H), RV h2 s D → FR h h2 → sm A D fxR → D 1309 = cf (md W (zp_npow X 32003)) → wr sw_P (d + 4) sw_c451 sw_h451 (127, [.index 1290, .index p, vi x2, vi 0, t4], [], h2, 0, 0) Q) : wr sw_P (d + 4) sw_c451 sw_h451 (43, [.index 1290, .index p, vi x2, t3, t4], [], h', 0, 0) Q := by
  obtain ⟨n, en⟩ : ∃ n : Nat, hi W = n := ⟨(hi W).toNat, by omega⟩
  have h0 : 0 ≤ hi W := by omega
  have dn : ∀ f g : zp_R, zp_deg f (hi W).toNat → zp_deg g (hi W).toNat → zp_deg (zp_mul f g) 176 := fun f g hf hg => deg_mul81 (deg_le hf (by omega)) (deg_le hg (by omega))
  have loop : ∀ (l k : Nat) (T U : zp_R) (B : Nat → Nat → Int) (h' : s_H), k ≤ l → l ≤ 32003 → RV h' s B → FR h h' → sm A B fxR → B 1309 = cf T → B 1310 = cf U → zp_deg T (hi W).toNat → zp_deg U (hi W).toNat → cg W (zp_npow X 32003) (zp_mul T (zp_npow U k)) → wr sw_P (d + 4) sw_c451 sw_h451 (47, [.index 1290, .index p, vi x2, vi (k : Int), t4], [], h', 0, 0) Q := by
    intro l
    induction l using Nat.strongRecOn with
    | ind l ih =>
      intro k T U B h' hk hl v rr mB eT eU dT dU hc
      refine k451_47 (fun w => ?_) (fun w => ?_) (c1 := by unfold In3; omega)
      · have k0 : k = 0 := by omega
        subst k0
        have hc2 : cg W (zp_npow X 32003) T := by
          have e : zp_mul T (zp_npow U 0) = T := @pq_h3 zp_R zp_ring T
          rw [e] at hc
          exact hc
        exact K B h' v rr mB (by rw [md_cg h0 dW hc2 dT]; exact eT)
      have pW : ∀ {C : Nat → Nat → Int}, sm A C fxR → C p = cf W := fun m => (m p (by rw [hp9]; rfl)).trans hW
      have half : ∀ (T' : zp_R) (C : Nat → Nat → Int) (h2 : s_H), RV h2 s C → FR h h2 → sm A C fxR → C 1309 = cf T' → C 1310 = cf U → zp_deg T' (hi W).toNat → cg W (if k % 2 = 1 then zp_mul T U else T) T' → wr sw_P (d + 4) sw_c451 sw_h451 (89, [.index 1290, .index p, vi x2, vi (k : Int), t4], [], h2, 0, 0) Q := fun T' C h2 v2 rr2 mC eT' eU' dT' hc' => by
        refine k451_89 v2.1 (wm_mono (wq_Q (fun h3 v3 r3 => ?_)) (V_copy v2 (c := 1308) (e := 1310) rfl rfl (by decide)))
        have mC3 : sm A (up C 1308 (C 1310)) fxR := sm_up mC _ rfl
        refine k451_100 v3.1 (wm_mono (wq_N (fun h4 s4 A4 v4 r4 φ => ?_)) (V_mulMod v3 (q := 1310) (p := p) rfl hp (by decide) (by omega) (by omega) (by omega) (S := U) (g := U) (W := W) (by rw [up_at]; exact eU') (by rw [up_ne _ _ (by decide)]; exact eU') (pW mC3) (dn U U dU dU) dW h0))
        obtain ⟨e4, m4, e8⟩ := φ
        subst e4
        refine k451_109 v4.1 (wm_mono (wq_Q (fun h5 v5 r5 => ?_)) (V_copy v4 (c := 1310) (e := 1308) rfl rfl (by decide)))
        refine k451_120 ?_ (c1 := by unfold In3; omega)
        rw [show Int.tdiv (k : Int) 2 = ((k / 2 : Nat) : Int) by rw [Int.tdiv_eq_ediv_of_nonneg (by omega)]; omega]
        refine ih (k / 2) (by omega) (k / 2) T' (md W (zp_mul U U)) _ h5 (Nat.le_refl _) (by omega) v5 (FR_trans rr2 (FR_trans r3 (FR_trans r4 r5))) (sm_up (sm_tr mC3 (sm_sub m4 rfl)) _ rfl) (by rw [up_ne _ _ (by decide), m4 1309 rfl, up_ne _ _ (by decide)]; exact eT') (by rw [up_at]; exact e8) dT' (md_deg h0 dW _) ?_
        refine cg_tr hc ?_
        rw [← npow_half T U k]
        exact cg_mul hc' (cg_pow (md_c h0 dW _) _)
      have et : Int.tmod (k : Int) 2 = ((k % 2 : Nat) : Int) := by rw [Int.tmod_eq_emod_of_nonneg (by omega)]; omega
      refine k451_51 (fun w2 => ?_) (fun w2 => ?_) (c1 := by unfold In3; omega) (c2 := by rw [et]; unfold In3; omega)
      · rw [et] at w2
        exact half T B h' v rr mB eT eU dT (by rw [if_neg (by omega)]; exact cg_refl W T)
      · rw [et] at w2
        refine k451_58 v.1 (wm_mono (wq_Q (fun h2 v2 r2 => ?_)) (V_copy v (c := 1308) (e := 1309) rfl rfl (by decide)))
        have mB2 : sm A (up B 1308 (B 1309)) fxR := sm_up mB _ rfl
        refine k451_69 v2.1 (wm_mono (wq_N (fun h3 s3 A3 v3 r3 φ => ?_)) (V_mulMod v2 (q := 1310) (p := p) rfl hp (by decide) (by omega) (by omega) (by omega) (S := T) (g := U) (W := W) (by rw [up_at]; exact eT) (by rw [up_ne _ _ (by decide)]; exact eU) (pW mB2) (dn T U dT dU) dW h0))
        obtain ⟨e3, m3, e8⟩ := φ
        subst e3
        refine k451_78 v3.1 (wm_mono (wq_Q (fun h4 v4 r4 => ?_)) (V_copy v3 (c := 1309) (e := 1308) rfl rfl (by decide)))
        refine half (md W (zp_mul T U)) _ h4 v4 (FR_trans rr (FR_trans r2 (FR_trans r3 r4))) (sm_up (sm_tr mB2 (sm_sub m3 rfl)) _ rfl) (by rw [up_at]; exact e8) (by rw [up_ne _ _ (by decide), m3 1310 rfl, up_ne _ _ (by decide)]; exact eU) (md_deg h0 dW _) ?_
        rw [if_pos (by omega)]
        exact md_c h0 dW _
  refine k451_43 (loop 32003 32003 (zp_C 1) X A h' (Nat.le_refl _) (Nat.le_refl _) hv rr sm_refl hT hX (deg_le (zp_C_deg _) (by omega)) dX ?_)
  rw [show zp_mul (zp_C 1) (zp_npow X 32003) = zp_npow X 32003 from @pq_h4 zp_R zp_ring _]
  exact cg_refl _ _
end
