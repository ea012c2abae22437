/-! the reference's keepFactor: how often a factor divides -/
/-- f divides g so often, and no more -/
def oft (g f : zp_R) (n : Nat) : Prop := ∃ G, g = zp_mul (zp_npow f n) G ∧ ¬ dv f G
theorem of_h1 {R : Type} [Lean.Grind.CommRing R] {g p f G Q r : R} (e : g = p * G) (e1 : G = f * Q + r) (hr : r = 0) : g = p * f * Q := by grind
theorem of_h2 {R : Type} [Lean.Grind.CommRing R] {f Q q r : R} (e : f * q = f * Q + r) : f * (q - Q) = r := by grind
theorem of_h3 {R : Type} [Lean.Grind.CommRing R] {f W r : R} (e : f * W = r) (h : W = 0) : r = 0 := by grind
theorem of_h4 {R : Type} [Lean.Grind.CommRing R] {f Q r : R} (h : r = 0) : f * Q + r = f * Q := by grind
theorem of_h5 {R : Type} [Lean.Grind.CommRing R] {f Q : R} (h : Q = 0) : f * Q = 0 := by grind
theorem deg0 {f : zp_R} (h : zp_deg f 0) : f = zp_C 0 := zp_zero_of (fun i _ => h i (Nat.zero_le i))
/-- what isn't divided leaves something -/
theorem nodv {f G Q R : zp_R} {n : Nat} (h1 : f.1 n = 1) (h2 : zp_deg f (n + 1)) (e : G = zp_add (zp_mul f Q) R) (dR : zp_deg R n) (r0 : R ≠ zp_C 0) : ¬ dv f G := fun w => by
  obtain ⟨q, w⟩ := w
  have k := @of_h2 zp_R zp_ring f Q q R (w.symm.trans e)
  have z := deg0 (zp_monic_deg h1 h2 (t := 0) (W := zp_ring.sub q Q) (by
    have : zp_mul f (zp_ring.sub q Q) = R := k
    rw [this]; exact dR))
  exact r0 (@of_h3 zp_R zp_ring f _ R k z)
section
variable {d : Nat} {h : s_H} {s : Nat → Int} {A : Nat → Nat → Int}
theorem W_often {X : s_O → Prop} {h' : s_H} (hv : RV h' s A) (rr : FR h h') {p : Nat} {x1 : Int} {f g : zp_R} {n : Nat} (hf : A 1312 = cf f) (f1 : f.1 n = 1) (f2 : zp_deg f (n + 1)) (n1 : 1 ≤ n) (n41 : n ≤ 41) (hg : A 1309 = cf g) (dg : zp_deg g 176) (g0 : g ≠ zp_C 0) {t4 : Term} (K : ∀ (D : Nat → Nat → Int) (h2 : s_H) (k : Nat), RV h2 s D → FR h h2 → sm A D [1305, 1309] → oft g f k → k ≤ 176 → wr sw_P (d + 4) sw_c497 sw_h497 (150, [.index 1290, vi x1, .index p, vi (k : Int), vi 0], [], h2, 0, 0) X) : wr sw_P (d + 4) sw_c497 sw_h497 (91, [.index 1290, vi x1, .index p, vi 0, t4], [], h', 0, 0) X := by
  have df : zp_deg f 176 := deg_le f2 (by omega)
  have hif : hi f = n := hi_mo f1 f2 df
  have loop : ∀ (l k : Nat) (G : zp_R) (B : Nat → Nat → Int) (h' : s_H), k + l ≤ 176 → zp_deg G l → G ≠ zp_C 0 → g = zp_mul (zp_npow f k) G → RV h' s B → FR h h' → sm A B [1305, 1309] → B 1309 = cf G → wr sw_P (d + 4) sw_c497 sw_h497 (94, [.index 1290, vi x1, .index p, vi (k : Int), vi 1], [], h', 0, 0) X := by
    intro l
    induction l using Nat.strongRecOn with
    | ind l ih =>
      intro k G B h' hk dG G0 e v rr mB eG
      have dG6 : zp_deg G 176 := deg_le dG (by omega)
      refine k497_94 (fun w => absurd w (by decide)) (fun _ => ?_) (c1 := by decide)
      refine k497_99 v.1 (wm_mono (wq_N (fun h2 s2 A2 v2 r2 φ => ?_)) (V_divide v (p := 1309) (q := 1312) rfl rfl (by decide) (by decide) (by decide) eG ((mB 1312 rfl).trans hf) dG6 df (by omega)))
      obtain ⟨e2, Q, R, x1, x2, x3, x4, x5⟩ := φ
      subst e2
      have eR : A2 1309 = cf R := by rw [x5, up_at]
      have eQ : A2 1305 = cf Q := by rw [x5, up_ne _ _ (by decide), up_at]
      have m2 : sm A A2 [1305, 1309] := by rw [x5]; exact sm_up (sm_up mB _ rfl) _ rfl
      have bh := hi_b R
      refine k497_111 v2.1 (wm_mono (wq_r ?_) (V_high v2 (c := 1309) rfl eR))
      refine k497_118 (fun w => ?_) (fun w => ?_) (c1 := by unfold In3; omega)
      · -- it doesn't divide
        have nd := nodv f1 f2 x1 (deg_le x2 (by omega)) (zp_ne0 (f := R) w)
        refine k497_125 (k497_126 (fun _ => ?_) (fun w => absurd rfl w) (c1 := by decide))
        refine k497_136 v2.1 (wm_mono (wq_Q (fun h3 v3 r3 => ?_)) (V_copy v2 (c := 1309) (e := 1305) rfl rfl (by decide)))
        refine k497_147 (k497_94 (fun _ => ?_) (fun w => absurd rfl w) (c1 := by decide))
        exact K _ h3 k v3 (FR_trans rr (FR_trans r2 r3)) (sm_up m2 _ rfl) ⟨G, e, nd⟩ (by omega)
      · have R0 := hi_0 x3 (by omega)
        have eGQ : G = zp_mul f Q := x1.trans (@of_h4 zp_R zp_ring f Q R R0)
        have Q0 : Q ≠ zp_C 0 := fun w2 => G0 (eGQ.trans (@of_h5 zp_R zp_ring f Q w2))
        have ln : n < l := by
          refine Nat.lt_of_not_le (fun w2 => Q0 (deg0 (zp_monic_deg f1 f2 (t := 0) ?_)))
          rw [← eGQ]
          exact deg_le dG w2
        have dQ : zp_deg Q (l - n) := zp_monic_deg f1 f2 (by rw [← eGQ]; exact deg_le dG (by omega))
        refine k497_121 (k497_126 (fun w => absurd w (by decide)) (fun _ => k497_133 ?_) (c1 := by decide))
        refine k497_136 v2.1 (wm_mono (wq_Q (fun h3 v3 r3 => ?_)) (V_copy v2 (c := 1309) (e := 1305) rfl rfl (by decide)))
        refine k497_147 ?_
        exact ih (l - n) (by omega) (k + 1) Q _ h3 (by omega) dQ Q0 (@of_h1 zp_R zp_ring g (zp_npow f k) f G Q R e x1 R0) v3 (FR_trans rr (FR_trans r2 r3)) (sm_up m2 _ rfl) (by rw [up_at]; exact eQ)
  exact k497_91 (loop 176 0 g A h' (by decide) dg g0 (by
    show g = zp_mul (zp_C 1) g
    exact (@Lean.Grind.Semiring.one_mul zp_R zp_ring.toSemiring g).symm) hv rr sm_refl hg)
end
