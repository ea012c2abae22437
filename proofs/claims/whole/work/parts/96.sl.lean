/-! the reference's powers in the picture -/
theorem npow_s (f : zp_R) (n : Nat) : zp_npow f (n + 1) = zp_mul (zp_npow f n) f := rfl
theorem npow_deg {f : zp_R} {H : Nat} (h : zp_deg f (H + 1)) : ∀ n : Nat, zp_deg (zp_npow f n) (H * n + 1)
  | 0 => zp_C_deg 1
  | n + 1 => by
    rw [npow_s]
    exact zp_deg_mul (n := H * n) (m := H) (npow_deg h n) h
theorem mo_mul {f g : zp_R} (hf : mo f) (hg : mo g) : mo (zp_mul f g) := by
  obtain ⟨n, a1, a2⟩ := hf
  obtain ⟨m, b1, b2⟩ := hg
  refine ⟨n + m, ?_, zp_deg_mul a2 b2⟩
  rw [mul_top a2 b2, a1, b1]; rfl
theorem mo_npow {f : zp_R} (hf : mo f) : ∀ n : Nat, mo (zp_npow f n)
  | 0 => ⟨0, rfl, zp_C_deg 1⟩
  | n + 1 => mo_mul (mo_npow hf n) hf
theorem co_h1 {R : Type} [Lean.Grind.CommRing R] {u v x y N M D : R} (e : u * N + v * D = 1) (e1 : x * M + y * D = 1) : (u * x) * (N * M) + (u * N * y + v * x * M + v * D * y) * D = 1 := by grind
theorem co_h2 {R : Type} [Lean.Grind.CommRing R] {u v N D : R} (e : u * N + v * D = 1) : v * D + u * N = 1 := by grind
theorem co_mul {N M D : zp_R} (h1 : co N D) (h2 : co M D) : co (zp_mul N M) D := by
  obtain ⟨u, v, e⟩ := h1
  obtain ⟨x, y, e1⟩ := h2
  rw [zp_C1] at e e1
  exact ⟨_, _, (@co_h1 zp_R zp_ring u v x y N M D e e1).trans zp_C1.symm⟩
theorem co_sym {N D : zp_R} (h : co N D) : co D N := by
  obtain ⟨u, v, e⟩ := h
  rw [zp_C1] at e
  exact ⟨v, u, by rw [zp_C1]; exact @co_h2 zp_R zp_ring u v N D e⟩
theorem co_one (D : zp_R) : co (zp_C 1) D := co_sym (co_1 D)
theorem co_npow {N D : zp_R} (h : co N D) : ∀ n : Nat, co (zp_npow N n) D
  | 0 => co_one D
  | n + 1 => co_mul (co_npow h n) h
/-- the greater of the degrees -/
def gd (a b : zp_R) : Int := if hi a > hi b then hi a else hi b
theorem gd_b (a b : zp_R) : hi a ≤ gd a b ∧ hi b ≤ gd a b ∧ gd a b < 176 := by
  have := hi_b a
  have := hi_b b
  unfold gd
  split <;> omega
section
variable {d : Nat} {h : s_H} {s : Nat → Int} {A : Nat → Nat → Int}
theorem V_isPower (hv : RV h s A) {a b : zp_R} (ha : A 1298 = cf a) (hb : A 1299 = cf b) (b0 : 0 ≤ hi b) {n : Nat} (hn : n ≤ 99) : wm sw_P (d + 4) 484 [.index 1290, vi (n : Int)] h (RA h (fun v s' A' => s' = s ∧ sm A A' scr ∧ ((0 < n ∧ 40 < gd a b * n) → v = vi 0) ∧ (¬ (0 < n ∧ 40 < gd a b * n) → v = vi 1 ∧ A' 1302 = cf (zp_npow a n) ∧ A' 1303 = cf (zp_npow b n)))) := by
  refine wm_in (cd := sw_c484) (nL := 4) (hd := sw_h484) rfl rfl ?_
  have ba := hi_b a
  have bb := hi_b b
  have bg := gd_b a b
  refine k484_0 hv.1 (wm_mono (wq_r ?_) (V_high hv (c := 1298) rfl ha))
  refine k484_7 hv.1 (wm_mono (wq_r ?_) (V_high hv (c := 1299) rfl hb))
  refine k484_14 (wm_mono (wq_r ?_) (V_max (x := hi a) (y := hi b) (by unfold In3; omega) (by unfold In3; omega)))
  rw [show (if hi a > hi b then hi a else hi b) = gd a b from rfl]
  refine k484_17 hv.1 (wm_mono (wq_Q (fun h1 v1 r1 => ?_)) (V_become hv (c := 1302) rfl (z := 1) (by decide)))
  refine k484_26 v1.1 (wm_mono (wq_Q (fun h2 v2 r2 => ?_)) (V_become v1 (c := 1303) rfl (z := 1) (by decide)))
  rw [nF_1] at v2
  have m2 : sm A (up (up A 1302 (cf (zp_C 1))) 1303 (cf (zp_C 1))) scr := sm_up (sm_up sm_refl _ rfl) _ rfl
  have loop : ¬ (0 < n ∧ 40 < gd a b * n) → ∀ (l k : Nat) (B : Nat → Nat → Int) (h' : s_H), k + l = n → RV h' s B → FR h h' → sm A B scr → B 1298 = cf a → B 1299 = cf b → B 1302 = cf (zp_npow a k) → B 1303 = cf (zp_npow b k) → wr sw_P (d + 3) sw_c484 sw_h484 (50, [.index 1290, vi (n : Int), vi (gd a b), vi (k : Int)], [], h', 0, 0) (RA h (fun v s' A' => s' = s ∧ sm A A' scr ∧ ((0 < n ∧ 40 < gd a b * n) → v = vi 0) ∧ (¬ (0 < n ∧ 40 < gd a b * n) → v = vi 1 ∧ A' 1302 = cf (zp_npow a n) ∧ A' 1303 = cf (zp_npow b n)))) := by
    intro hq l
    induction l with
    | zero =>
      intro k B h' hk v r m g1 g2 g3 g4
      have kn : k = n := by omega
      subst kn
      exact k484_50 (fun _ => k484_85 ⟨vi 1, h', s, B, v, r, ⟨rfl, m, fun w => absurd w hq, fun _ => ⟨rfl, g3, g4⟩⟩, rfl⟩) (fun w => absurd w (by omega))
    | succ l ih =>
      intro k B h' hk v r m g1 g2 g3 g4
      refine k484_50 (fun w => absurd w (by omega)) (fun _ => ?_)
      refine k484_55 v.1 (wm_mono (wq_Q (fun h3 v3 r3 => ?_)) (V_multiplyBy v (p := 1302) (q := 1298) rfl rfl (by decide) (by decide) g3 g1))
      refine k484_67 v3.1 (wm_mono (wq_Q (fun h4 v4 r4 => ?_)) (V_multiplyBy v3 (p := 1303) (q := 1299) rfl rfl (by decide) (by decide) (f := zp_npow b k) (g := b) (by rw [up_ne _ _ (by decide), up_ne _ _ (by decide)]; exact g4) (by rw [up_ne _ _ (by decide), up_ne _ _ (by decide)]; exact g2)))
      refine k484_79 (ih (k + 1) _ _ (by omega) v4 (FR_trans r (FR_trans r3 r4)) (sm_up (sm_up (sm_up (sm_up m _ rfl) _ rfl) _ rfl) _ rfl) ?_ ?_ ?_ ?_)
      · rw [up_ne _ _ (by decide), up_ne _ _ (by decide), up_ne _ _ (by decide), up_ne _ _ (by decide)]; exact g1
      · rw [up_ne _ _ (by decide), up_ne _ _ (by decide), up_ne _ _ (by decide), up_ne _ _ (by decide)]; exact g2
      · rw [up_ne _ _ (by decide), up_ne _ _ (by decide), up_at, npow_s]
      · rw [up_at, npow_s]
  have start : ¬ (0 < n ∧ 40 < gd a b * n) → wr sw_P (d + 3) sw_c484 sw_h484 (48, [.index 1290, vi (n : Int), vi (gd a b), s_uu .result], [], h2, 0, 0) (RA h (fun v s' A' => s' = s ∧ sm A A' scr ∧ ((0 < n ∧ 40 < gd a b * n) → v = vi 0) ∧ (¬ (0 < n ∧ 40 < gd a b * n) → v = vi 1 ∧ A' 1302 = cf (zp_npow a n) ∧ A' 1303 = cf (zp_npow b n)))) := fun hq => k484_48 (loop hq n 0 _ h2 (by omega) v2 (FR_trans r1 r2) m2 (by rw [up_ne _ _ (by decide), up_ne _ _ (by decide), ha]) (by rw [up_ne _ _ (by decide), up_ne _ _ (by decide), hb]) (by rw [up_ne _ _ (by decide), up_at]; rfl) (by rw [up_at]; rfl))
  have bm : 0 ≤ gd a b * (n : Int) ∧ gd a b * (n : Int) ≤ 175 * 99 := ⟨Int.mul_nonneg (by omega) (by omega), Int.mul_le_mul (by omega) (by omega) (by omega) (by decide)⟩
  refine k484_34 (fun q => start (fun w => absurd w.1 (by omega))) (fun q => ?_)
  refine k484_38 (fun q2 => start (fun w => absurd w.2 (by omega))) (fun q2 => ?_) (c1 := by unfold In3; omega)
  exact k484_46 ⟨vi 0, h2, s, _, v2, FR_trans r1 r2, ⟨rfl, m2, fun _ => rfl, fun w => absurd ⟨by omega, by omega⟩ w⟩, rfl⟩
end
