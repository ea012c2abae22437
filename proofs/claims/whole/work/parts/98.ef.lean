/-! the reference's findMinors, the whole of it -/
section
variable {d : Nat} {h : s_H} {s : Nat → Int} {A : Nat → Nat → Int}
theorem sh_lt {k i : Nat} (hk : k < 5) : (zi 27 1 (k : Int) ≤ (i : Int)) ↔ 2 ^ k ≤ i := by rw [zs hk]; omega
theorem V_findMinors (hv : RV h s A) {f R C : Nat} {M : Nat → Nat → zp_R} (hf : f < 150) (hR : 1 ≤ R ∧ R ≤ 4) (hC : 1 ≤ C ∧ C ≤ 4) (hM : mat A f R C M) (hb : ∀ t, t < 26400 → 0 ≤ A 1296 t ∧ A 1296 t < 32003) : wm sw_P (d + 3) 453 [.index 1290, vi (f : Int)] h (RN h (fun s' A' => s' = s ∧ sm A A' minR ∧ mins A' R C M)) := by
  refine wm_in (cd := sw_c453) (nL := 8) (hd := sw_h453) rfl rfl ?_
  have pR := Nat.pow_le_pow_right (show 0 < 2 by decide) hR.2
  have pC := Nat.pow_le_pow_right (show 0 < 2 by decide) hC.2
  have dM : ∀ i j, i < R → j < C → zp_deg (M i j) 11 := fun i j h1 h2 => me_deg (hM.2.2 i j h1 h2)
  have eR : ∀ {B : Nat → Nat → Int}, sm A B minR → gi (mk 150 (B 1294)) (f : Int) = (R : Int) := fun mB => by rw [mB 1294 rfl, gi_mkn (by omega)]; exact hM.1
  have eC : ∀ {B : Nat → Nat → Int}, sm A B minR → gi (mk 150 (B 1295)) (f : Int) = (C : Int) := fun mB => by rw [mB 1295 rfl, gi_mkn (by omega)]; exact hM.2.1
  have outer : ∀ (l r : Nat) (B : Nat → Nat → Int) (h' : s_H) (t3 t4 t5 t6 t7 : Term), r + l = 2 ^ R → RV h' s B → FR h h' → sm A B minR → (∀ r' c', r' < r → c' < 2 ^ C → bts r' = bts c' → mi B r' c' = cf (mnq M C r' c')) → wr sw_P (d + 2) sw_c453 sw_h453 (2, [.index 1290, vi (f : Int), vi (r : Int), t3, t4, t5, t6, t7], [], h', 0, 0) (RN h (fun s' A' => s' = s ∧ sm A A' minR ∧ mins A' R C M)) := by
    intro l
    induction l with
    | zero =>
      intro r B h' t3 t4 t5 t6 t7 hr v rr mB g
      refine k453_2 v.1 (Ra_rows v) (fun _ => k453_236 ⟨h', s, B, v, rr, ⟨rfl, mB, fun r' c' h1 h2 h3 => g r' c' (by omega) h2 h3⟩, rfl⟩) (fun w => absurd (by rw [eR mB]; first | exact (sh_lt (k := R) (i := r) (by omega)).mpr (by omega) | exact (sh_lt (k := C) (i := c) (by omega)).mpr (by omega)) w) (c10 := by rw [mk_len]; omega) (c11 := by omega) (c12 := by unfold In3; omega) (c13 := by unfold In3; omega) (c14 := by rw [eR mB, zs (by omega)]; unfold In3; omega)
    | succ l ih =>
      intro r B h' t3 t4 t5 t6 t7 hr v rr mB g
      have r16 : r < 16 := by omega
      refine k453_2 v.1 (Ra_rows v) (fun w => absurd ((sh_lt (k := R) (i := r) (by omega)).mp (by rw [eR mB] at w; exact w)) (by omega)) (fun _ => k453_14 ?_) (c10 := by rw [mk_len]; omega) (c11 := by omega) (c12 := by unfold In3; omega) (c13 := by unfold In3; omega) (c14 := by rw [eR mB, zs (by omega)]; unfold In3; omega)
      have inner : ∀ (p c : Nat) (B : Nat → Nat → Int) (h' : s_H) (t4 t5 t6 t7 : Term), c + p = 2 ^ C → RV h' s B → FR h h' → sm A B minR → (∀ r' c', (r' < r ∨ (r' = r ∧ c' < c)) → c' < 2 ^ C → bts r' = bts c' → mi B r' c' = cf (mnq M C r' c')) → wr sw_P (d + 2) sw_c453 sw_h453 (16, [.index 1290, vi (f : Int), vi (r : Int), vi (c : Int), t4, t5, t6, t7], [], h', 0, 0) (RN h (fun s' A' => s' = s ∧ sm A A' minR ∧ mins A' R C M)) := by
        intro p
        induction p with
        | zero =>
          intro c B h' t4 t5 t6 t7 hc v rr mB g
          refine k453_16 v.1 (Ra_columns v) (fun _ => k453_230 (ih (r + 1) B h' _ _ _ _ _ (by omega) v rr mB (fun r' c' h1 h2 h3 => g r' c' (by omega) h2 h3))) (fun w => absurd (by rw [eC mB]; first | exact (sh_lt (k := R) (i := r) (by omega)).mpr (by omega) | exact (sh_lt (k := C) (i := c) (by omega)).mpr (by omega)) w) (c10 := by rw [mk_len]; omega) (c11 := by omega) (c12 := by unfold In3; omega) (c13 := by unfold In3; omega) (c14 := by rw [eC mB, zs (by omega)]; unfold In3; omega)
        | succ p ih2 =>
          intro c B h' t4 t5 t6 t7 hc v rr mB g
          have c16 : c < 16 := by omega
          have bR : bts r ≤ 4 := by unfold bts; omega
          have bC : bts c ≤ 4 := by unfold bts; omega
          refine k453_16 v.1 (Ra_columns v) (fun w => absurd ((sh_lt (k := C) (i := c) (by omega)).mp (by rw [eC mB] at w; exact w)) (by omega)) (fun _ => ?_) (c10 := by rw [mk_len]; omega) (c11 := by omega) (c12 := by unfold In3; omega) (c13 := by unfold In3; omega) (c14 := by rw [eC mB, zs (by omega)]; unfold In3; omega)
          refine k453_28 (wm_mono (wq_r ?_) (V_bits r16))
          refine k453_32 (wm_mono (wq_r ?_) (V_bits c16))
          refine k453_36 (fun w => ?_) (fun w => k453_39 ?_) (c1 := by unfold In3; omega) (c2 := by unfold In3; omega)
          rotate_left
          · refine k453_224 (ih2 (c + 1) B h' _ _ _ _ (by omega) v rr mB (fun r' c' h1 h2 h3 => ?_))
            by_cases q : r' = r ∧ c' = c
            · rw [q.1, q.2] at h3
              omega
            · exact g r' c' (by omega) h2 h3
          have hrc : bts r = bts c := by omega
          have fin : ∀ (B2 : Nat → Nat → Int) (h2 : s_H) (x4 x5 x7 : Int) (t6 : Term), RV h2 s B2 → FR h h2 → sm B B2 [1304, 1308, 1309, 1310] → B2 1310 = cf (mnq M C r c) → wr sw_P (d + 2) sw_c453 sw_h453 (184, [.index 1290, vi (f : Int), vi (r : Int), vi (c : Int), vi x4, vl x5, t6, vi x7], [], h2, 0, 0) (RN h (fun s' A' => s' = s ∧ sm A A' minR ∧ mins A' R C M)) := fun B2 h2 x4 x5 x7 t6 v2 rr2 mB2 e2 => by
            refine W_store v2 rr2 r16 c16 e2 (mnq_deg hR.2 dM (by omega)) (fun D h3 t6' x7' v3 rr3 o e3 e4 => ?_)
            refine k453_224 (ih2 (c + 1) D h3 _ _ _ _ (by omega) v3 rr3 (sm_tr (sm_tr mB (sm_sub mB2 rfl)) (fun j hj => o j (fun w => by rw [w] at hj; exact absurd hj (by decide)))) (fun r' c' h1 h2 h3 => ?_))
            by_cases q : r' = r ∧ c' = c
            · rw [q.1, q.2]; exact e3
            · rw [e4 r' c' (by omega) (by omega), ← g r' c' (by omega) h2 h3]
              unfold mi
              rw [mB2 1329 rfl]
          refine k453_42 v.1 (wm_mono (wq_Q (fun h2 v2 r2 => ?_)) (V_empty v (c := 1310) rfl))
          refine k453_49 (fun r0 => ?_) (fun r0 => ?_) (c1 := by unfold In3; omega)
          · have r0' : r ≠ 0 := by omega
            have M2 : mat (up B 1310 (cf (zp_C 0))) f R C M := by
              obtain ⟨p3, p4, p5⟩ := hM
              refine ⟨by rw [up_ne _ _ (by decide), mB 1294 rfl]; exact p3, by rw [up_ne _ _ (by decide), mB 1295 rfl]; exact p4, fun i j h1 h2 => ?_⟩
              rw [← p5 i j h1 h2]
              unfold me
              rw [up_ne _ _ (by decide), mB 1296 rfl]
            refine k453_60 ?_
            have f0 := fst_0 r16 r0'
            have fb := fst_b r16 r0'
            have loop : ∀ (l j : Nat), j + l = fst0 r → wr sw_P (d + 2) sw_c453 sw_h453 (63, [.index 1290, vi (f : Int), vi (r : Int), vi (c : Int), vi (j : Int), t5, t6, t7], [], h2, 0, 0) (RN h (fun s' A' => s' = s ∧ sm A A' minR ∧ mins A' R C M)) := by
              intro l
              induction l with
              | zero =>
                intro j hj
                have ej : j = fst0 r := by omega
                subst ej
                have zz := zb r16 fb.2.2
                rw [f0.1] at zz
                refine k453_63 (fun w => absurd w (by omega)) (fun _ => ?_) (c1 := by unfold In3; omega)
                refine k453_67 (fun _ => ?_) (fun w => absurd (by rw [zz]; decide) w) (c1 := by rw [zz]; decide)
                refine W_lap v2 (FR_trans rr r2) hf hR.2 hC.2 M2 (by rw [up_ne _ _ (by decide), mB 1296 rfl]; exact hb) (by omega) (by omega) hrc r0' (fun r' c' h1 h2 h3 => ?_) (up_at _ _ _) (fun D h3 t6' x5 x7 v3 rr3 mD e3 => fin D h3 _ x5 x7 t6' v3 rr3 (sm_tr (sm_up sm_refl _ rfl) mD) e3)
                rw [← g r' c' (.inl h1) h2 h3]
                unfold mi
                rw [up_ne _ _ (by decide)]
              | succ l ih3 =>
                intro j hj
                have zz := zb r16 (show j < 4 by omega)
                rw [f0.2 j (by omega)] at zz
                refine k453_63 (fun w => absurd w (by omega)) (fun _ => ?_) (c1 := by unfold In3; omega)
                exact k453_67 (fun w => absurd zz w) (fun _ => k453_76 (ih3 (j + 1) (by omega))) (c1 := by rw [zz]; decide)
            exact loop _ 0 (Nat.zero_add _)
          · have r0' : r = 0 := by omega
            have c0' : c = 0 := bts_0 c16 (by rw [← hrc, r0']; rfl)
            refine k453_53 v2.1 (Ra_u v2) ?_ (c10 := by rw [mk_len]; decide)
            rw [mk_set]
            have eu : (fun i => if i = Int.toNat 0 then (1 : Int) else up B 1310 (cf (zp_C 0)) 1310 i) = cf (zp_C 1) := by
              funext i
              rw [up_at]
              show (if i = 0 then (1 : Int) else (((if i = 0 then 0 else 0 : zp_F)).val : Int)) = (((if i = 0 then 1 else 0 : zp_F)).val : Int)
              by_cases q : i = 0
              · rw [if_pos q, if_pos q]; rfl
              · rw [if_neg q, if_neg q, if_neg q]
            rw [eu]
            refine k453_60 (k453_63 (fun _ => k453_82 ?_) (fun w => absurd (by omega) w) (c1 := by unfold In3; omega))
            have v3 := RV_w v2 (c := 1310) rfl (cf (zp_C 1))
            have mB3 : sm B (up (up B 1310 (cf (zp_C 0))) 1310 (cf (zp_C 1))) [1304, 1308, 1309, 1310] := sm_up (sm_up sm_refl _ rfl) _ rfl
            have mB4 : sm A (up (up B 1310 (cf (zp_C 0))) 1310 (cf (zp_C 1))) minR := sm_tr mB (sm_sub mB3 rfl)
            refine k453_88 v3.1 (Ra_columns v3) (fun w => absurd (by rw [eC mB4] at w; exact w) (by omega)) (fun _ => ?_) (c10 := by rw [mk_len]; omega) (c11 := by omega) (c12 := by unfold In3; omega) (c13 := by decide) (c14 := by rw [eC mB4]; unfold In3; omega)
            refine k453_99 (fun _ => ?_) (fun w => absurd (by omega) w) (c1 := by unfold In3; omega)
            exact fin _ _ _ _ _ _ v3 (FR_trans rr (FR_trans r2 (FR_w v2 (c := 1310) rfl _))) mB3 (by rw [up_at, r0', mnq_0])
      exact inner _ 0 B h' _ _ _ _ (Nat.zero_add _) v rr mB (fun r' c' h1 h2 h3 => g r' c' (by omega) h2 h3)
  exact k453_0 (outer _ 0 A h _ _ _ _ _ (Nat.zero_add _) hv (FR_refl h) sm_refl (fun r' c' h1 => absurd h1 (by omega)))
end
