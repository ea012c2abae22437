/-! the reference's partBy: one sum that stays is loaded, one part is put down -/
theorem ft_deg {A : Nat → Nat → Int} {k : Nat} {f : zp_R} (e : ft A k = cf f) : zp_deg f 41 := fun i hi2 => cf_0 (by rw [← e]; exact if_neg (by omega))
section
variable {d : Nat} {h : s_H} {s : Nat → Int} {A : Nat → Nat → Int}
theorem W_loadFix {Q : s_O → Prop} {h' : s_H} (hv : RV h' s A) (rr : FR h h') {c : Nat} (hc : c < 41) {x2 x3 : Int} {t4 t5 t6 t7 : Term} (K : ∀ (h2 : s_H) (x4 : Int), RV h2 s (up A 1311 (ft A c)) → FR h h2 → wr sw_P (d + 1) sw_c546 sw_h546 (59, [.index 1290, vi (c : Int), vi x2, vi x3, vi x4, t5, t6, t7], [], h2, 0, 0) Q) : wr sw_P (d + 1) sw_c546 sw_h546 (17, [.index 1290, vi (c : Int), vi x2, vi x3, t4, t5, t6, t7], [], h', 0, 0) Q := by
  refine k546_17 hv.1 (wm_mono (wq_Q (fun h1 v1 r1 => ?_)) (V_empty hv (c := 1311) rfl))
  have loop : ∀ (l i : Nat) (B : Nat → Nat → Int) (h' : s_H), i + l = 41 → RV h' s B → FR h h' → (∀ x, x ≠ 1311 → B x = A x) → (∀ x, x < 176 → B 1311 x = if x < i then ft A c x else 0) → wr sw_P (d + 1) sw_c546 sw_h546 (27, [.index 1290, vi (c : Int), vi x2, vi x3, vi (i : Int), t5, t6, t7], [], h', 0, 0) Q := by
    intro l
    induction l with
    | zero =>
      intro i B h' hi2 v rr o g
      refine k546_27 (fun _ => ?_) (fun z => absurd (by omega) z) (c1 := by unfold In3; omega)
      have v3 := RV_c v (c := 1311) rfl (g := ft A c) (fun x hx => by
        rw [g x hx]
        by_cases h6 : x < i
        · rw [if_pos h6]
        · rw [if_neg h6]
          exact (if_neg (by omega)).symm)
      have e : up B 1311 (ft A c) = up A 1311 (ft A c) := by
        funext x
        by_cases hx : x = 1311
        · rw [hx, up_at, up_at]
        · rw [up_ne _ _ hx, up_ne _ _ hx, o x hx]
      rw [e] at v3
      exact K h' _ v3 rr
    | succ l ih =>
      intro i B h' hi2 v rr o g
      have g1 : gi (mk 1681 (B 1320)) (41 * (c : Int) + (i : Int)) = ft A c i := by
        rw [show (41 * (c : Int) + (i : Int)) = ((41 * c + i : Nat) : Int) by omega, gi_mkn (by omega), o 1320 (by decide)]
        exact (if_pos (by omega)).symm
      refine k546_27 (fun z => absurd z (by omega)) (fun _ => ?_) (c1 := by unfold In3; omega)
      refine k546_34 v.1 (Ra_fixedAt v) (Ra_v v) ?_ (c12 := by rw [mk_len]; omega) (c13 := by omega) (c14 := by unfold In3; omega) (c18 := by rw [mk_len]; omega) (c19 := by omega) (c20 := by unfold In3; omega)
      rw [g1, mk_set, Int.toNat_natCast]
      refine ih (i + 1) _ _ (by omega) (RV_w v (c := 1311) rfl _) (FR_trans rr (FR_w v (c := 1311) rfl _)) (fun x hx => by rw [up_ne _ _ hx]; exact o x hx) (fun x hx => ?_)
      rw [up_at]
      show (if x = i then _ else _) = _
      by_cases q5 : x = i
      · rw [if_pos q5, if_pos (by omega), q5]
      · rw [if_neg q5, g x hx]
        by_cases q6 : x < i
        · rw [if_pos q6, if_pos (by omega)]
        · rw [if_neg q6, if_neg (by omega)]
  exact k546_24 (loop 41 0 _ h1 rfl v1 (FR_trans rr r1) (fun x hx => up_ne _ _ hx) (fun x hx => by
    rw [up_at, if_neg (by omega)]
    unfold cf
    rw [zp_C00]; rfl))
theorem W_putPart {Q : s_O → Prop} {h' : s_H} (hv : RV h' s A) (rr : FR h h') {k : Nat} (hk : k < 41) {G : zp_R} (hG : A 1306 = cf G) (dG : zp_deg G 42) {x1 x2 x4 x5 x6 : Int} {t7 : Term} (K : ∀ (D : Nat → Nat → Int) (h2 : s_H) (x7 : Int), RV h2 s D → FR h h2 → (∀ x, x ≠ 1319 → D x = A x) → ptn A D 1319 k G → wr sw_P (d + 1) sw_c546 sw_h546 (226, [.index 1290, vi x1, vi x2, vi (k : Int), vi x4, vi x5, vi x6, vi x7], [], h2, 0, 0) Q) : wr sw_P (d + 1) sw_c546 sw_h546 (191, [.index 1290, vi x1, vi x2, vi (k : Int), vi x4, vi x5, vi x6, t7], [], h', 0, 0) Q := by
  have loop : ∀ (l i : Nat) (B : Nat → Nat → Int) (h' : s_H), i + l = 42 → RV h' s B → FR h h' → (∀ x, x ≠ 1319 → B x = A x) → (∀ t, B 1319 t = if 42 * k ≤ t ∧ t < 42 * k + i then cf G (t - 42 * k) else A 1319 t) → wr sw_P (d + 1) sw_c546 sw_h546 (194, [.index 1290, vi x1, vi x2, vi (k : Int), vi x4, vi x5, vi x6, vi (i : Int)], [], h', 0, 0) Q := by
    intro l
    induction l with
    | zero =>
      intro i B h' hi2 v rr o g
      have e42 : i = 42 := by omega
      subst e42
      exact k546_194 (fun _ => K B h' _ v rr o (pt_fill dG g)) (fun w => absurd (by decide) w) (c1 := by decide)
    | succ l ih =>
      intro i B h' hi2 v rr o g
      have g1 : gi (mk 176 (B 1306)) (i : Int) = cf G i := by rw [o 1306 (by decide), hG]; exact gi_mkn (by omega)
      refine k546_194 (fun w => absurd w (by omega)) (fun _ => ?_) (c1 := by unfold In3; omega)
      refine k546_201 v.1 (Ra_g v) (Ra_partAt v) ?_ (c12 := by rw [mk_len]; omega) (c13 := by omega) (c14 := by unfold In3; omega) (c18 := by rw [mk_len]; omega) (c19 := by omega) (c20 := by unfold In3; omega)
      rw [g1, mk_set, show (42 * (k : Int) + (i : Int)).toNat = 42 * k + i by omega]
      refine ih (i + 1) _ _ (by omega) (Rp_partAt v _) (FR_trans rr (FR_put v (c := 1319) (by decide) (by decide) _)) (fun x hx => by rw [up_ne _ _ hx]; exact o x hx) (fun t => ?_)
      rw [up_at]
      show (if t = 42 * k + i then _ else _) = _
      by_cases q : t = 42 * k + i
      · rw [if_pos q, if_pos (by omega), show t - 42 * k = i by omega]
      · rw [if_neg q, g]
        by_cases q2 : 42 * k ≤ t ∧ t < 42 * k + i
        · rw [if_pos q2, if_pos (by omega)]
        · rw [if_neg q2, if_neg (by omega)]
  exact k546_191 (loop 42 0 A h' rfl hv rr (fun _ _ => rfl) (fun t => by rw [if_neg (by omega)]))
end
