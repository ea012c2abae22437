/-! the reference's findCore: the integral of what is whole; the columns -/
theorem pst_of {f g : zp_R} {n : Nat} {z : zp_F} (h : g.1 n = z) (o : ∀ i, i ≠ n → g.1 i = f.1 i) : pst f n z = g := zp_ext (fun i => by
  show (if i = n then z else f.1 i) = g.1 i
  by_cases q : i = n
  · rw [if_pos q, q, h]
  · rw [if_neg q, o i q])
section
variable {d : Nat} {h : s_H} {s : Nat → Int} {A : Nat → Nat → Int}
theorem W_intg {Q : s_O → Prop} {h' : s_H} (hv : RV h' s A) (rr : FR h h') {Qq : zp_R} (hQ : A 1309 = cf Qq) (hz : A 1325 = cf (zp_C 0)) {t1 t2 t3 t4 : Term} (N : ∀ (h2 : s_H) (x1 : Int), RV h2 s (up A 1325 (cf (itg Qq 41))) → FR h h2 → wr sw_P (d + 2) sw_c449 sw_h449 (51, [.index 1290, vi x1, t2, t3, t4], [], h2, 0, 0) Q) : wr sw_P (d + 2) sw_c449 sw_h449 (11, [.index 1290, t1, t2, t3, t4], [], h', 0, 0) Q := by
  have loop : ∀ (l k : Nat) (B : Nat → Nat → Int) (h' : s_H), k + l = 41 → RV h' s B → FR h h' → (∀ x, x ≠ 1325 → B x = A x) → B 1325 = cf (itg Qq k) → wr sw_P (d + 2) sw_c449 sw_h449 (13, [.index 1290, vi (k : Int), t2, t3, t4], [], h', 0, 0) Q := by
    intro l
    induction l with
    | zero =>
      intro k B h' hk v r o g
      have ek : k = 41 := by omega
      subst ek
      refine k449_13 (fun _ => ?_) (fun w => absurd (by decide) w) (c1 := by decide)
      have e : up A 1325 (cf (itg Qq 41)) = B := by
        funext x
        by_cases q : x = 1325
        · rw [q, up_at, g]
        · rw [up_ne _ _ q, o x q]
      refine N h' _ ?_ r
      rw [e]; exact v
    | succ l ih =>
      intro k B h' hk v r o g
      have g9 : gi (mk 176 (B 1309)) (k : Int) = ((Qq.1 k).val : Int) := by rw [o 1309 (by decide), hQ]; exact gi_mkn (by omega)
      refine k449_13 (fun w => absurd w (by omega)) (fun _ => ?_) (c1 := by unfold In3; omega)
      refine k449_19 v.1 (RV_l v (c := 1309) rfl) (wm_mono (wq_r ?_) (t_inverse (in6_of (by omega) (by omega)))) (c12 := by rw [mk_len]; omega) (c13 := by omega) (c14 := by unfold In3; omega)
      have b1 := F_bd (Qq.1 k)
      have b2 := F_bd (nF ((k : Int) + 1) ^ 32001)
      have bm : ((Qq.1 k).val : Int) * (((nF ((k : Int) + 1) ^ 32001 : zp_F)).val : Int) ≤ 32003 * 32003 := Int.mul_le_mul (by omega) (by omega) (by omega) (by omega)
      have bn : 0 ≤ ((Qq.1 k).val : Int) * (((nF ((k : Int) + 1) ^ 32001 : zp_F)).val : Int) := Int.mul_nonneg (by omega) (by omega)
      refine k449_39 (RV_l v (c := 1325) rfl) ?_ (c1 := by rw [g9]; exact in6_of (by omega) (by omega)) (c5 := by rw [mk_len]; omega) (c6 := by omega) (c7 := by unfold In3; omega)
      rw [g9, tm_mul, mk_set, g, cf_pst (itg Qq k) (n := k + 1) (z := Qq.1 k * nF ((k : Int) + 1) ^ 32001) (t0 := ((k : Int) + 1).toNat) (by omega) rfl, itg_s]
      have := ih (k + 1) _ _ (by omega) (RV_w v (c := 1325) rfl (cf (itg Qq (k + 1)))) (FR_trans r (FR_w v (c := 1325) rfl _)) (fun x hx => by rw [up_ne _ _ hx]; exact o x hx) (up_at _ _ _)
      exact this
  exact k449_11 (loop 41 0 A h' rfl hv rr (fun _ _ => rfl) (by rw [hz, itg_0]))
/-- a column of the first kind comes to v -/
theorem W_colA {Q : s_O → Prop} {n m c : Nat} {W V : zp_R} (cm : c < m) (mn : m ≤ n) (n40 : n ≤ 40) (dW : zp_deg W (n - m + 1)) (dV : zp_deg V (n - m)) {A : Nat → Nat → Int} (hW : A 1322 = cf W) (hV : A 1310 = cf V) (N : ∀ (h2 : s_H) (x4 : Int), RV h2 s (up A 1311 (cf (zp_add (zp_mul (zp_D (zp_X c)) W) (zp_neg (zp_mul (zp_X c) V))))) → FR h h2 → wr sw_P (d + 1) sw_c449 sw_h449 (312, [.index 1290, vi (n : Int), vi (m : Int), vi (c : Int), vi x4], [], h2, 0, 0) Q) : ∀ (l e : Nat) (B : Nat → Nat → Int) (h' : s_H), e + c + l = n + 1 → RV h' s B → FR h h' → (∀ x, x ≠ 1311 → B x = A x) → B 1311 = cf (hvp W V c e 0) → wr sw_P (d + 1) sw_c449 sw_h449 (185, [.index 1290, vi (n : Int), vi (m : Int), vi (c : Int), vi (e : Int)], [], h', 0, 0) Q := by
  intro l
  induction l with
  | zero =>
    intro e B h' he v r o g
    refine k449_185 (fun _ => k449_272 ?_) (fun w => absurd (by omega) w) (c1 := by unfold In3; omega) (c2 := by unfold In3; omega)
    rw [show e = n + 1 - c by omega, hvp_n cm mn dW dV] at g
    have e : up A 1311 (cf (zp_add (zp_mul (zp_D (zp_X c)) W) (zp_neg (zp_mul (zp_X c) V)))) = B := by
      funext x
      by_cases q : x = 1311
      · rw [q, up_at, g]
      · rw [up_ne _ _ q, o x q]
    refine N h' _ ?_ r
    rw [e]; exact v
  | succ l ih =>
    intro e B h' he v r o g
    refine k449_185 (fun w => absurd w (by omega)) (fun _ => ?_) (c1 := by unfold In3; omega) (c2 := by unfold In3; omega)
    have second : ∀ (B : Nat → Nat → Int) (h' : s_H), RV h' s B → FR h h' → (∀ x, x ≠ 1311 → B x = A x) → B 1311 = cf (hvp W V c e 1) → wr sw_P (d + 1) sw_c449 sw_h449 (237, [.index 1290, vi (n : Int), vi (m : Int), vi (c : Int), vi (e : Int)], [], h', 0, 0) Q := fun B h' v r o g => by
      have g1 : gi (mk 176 (B 1311)) ((c : Int) + (e : Int)) = (((hvp W V c e 1).1 (c + e)).val : Int) := by
        rw [show (c : Int) + (e : Int) = ((c + e : Nat) : Int) by omega, g]; exact gi_mkn (by omega)
      have g2 : gi (mk 176 (B 1310)) (e : Int) = ((V.1 e).val : Int) := by rw [o 1310 (by decide), hV]; exact gi_mkn (by omega)
      have b1 := F_bd ((hvp W V c e 1).1 (c + e))
      have b2 := F_bd (V.1 e)
      refine k449_237 v.1 (RV_l v (c := 1311) rfl) (RV_l v (c := 1310) rfl) (wm_mono (wq_r ?_) (t_modulo (by rw [g1, g2]; exact in6_of (by omega) (by omega)))) (c10 := by rw [mk_len]; omega) (c11 := by omega) (c12 := by unfold In3; omega) (c18 := by rw [mk_len]; omega) (c19 := by omega) (c20 := by unfold In3; omega)
      refine k449_265 (RV_l v (c := 1311) rfl) ?_ (c4 := by rw [mk_len]; omega) (c5 := by omega) (c6 := by unfold In3; omega)
      have hb := hvp_b W V c e
      rw [g1, g2, mk_set, g, cf_pst (hvp W V c e 1) (n := c + e) (z := (hvp W V c e 1).1 (c + e) - V.1 e) (t0 := ((c : Int) + (e : Int)).toNat) (by omega) (by rw [← nF_v, nF_sub, nF_val, nF_val]), pst_of hb.1.symm hb.2]
      have := ih (e + 1) _ _ (by omega) (RV_w v (c := 1311) rfl (cf (hvp W V c (e + 1) 0))) (FR_trans r (FR_w v (c := 1311) rfl _)) (fun x hx => by rw [up_ne _ _ hx]; exact o x hx) (up_at _ _ _)
      exact this
    refine k449_193 (fun w => ?_) (fun w => ?_) (c1 := by unfold In3; omega)
    · have c0 : c = 0 := by omega
      have e0 : e = 0 := by omega
      refine second B h' v r o ?_
      rw [g, c0, e0, hvp_z]
    · have g1 : gi (mk 176 (B 1311)) ((c : Int) + (e : Int) - 1) = (((hvp W V c e 0).1 (c + e - 1)).val : Int) := by
        rw [show (c : Int) + (e : Int) - 1 = ((c + e - 1 : Nat) : Int) by omega, g]; exact gi_mkn (by omega)
      have g2 : gi (mk 176 (B 1322)) (e : Int) = ((W.1 e).val : Int) := by rw [o 1322 (by decide), hW]; exact gi_mkn (by omega)
      have b1 := F_bd ((hvp W V c e 0).1 (c + e - 1))
      have b2 := F_bd (W.1 e)
      have bm : (c : Int) * ((W.1 e).val : Int) ≤ 41 * 32003 := Int.mul_le_mul (by omega) (by omega) (by omega) (by omega)
      have bn : 0 ≤ (c : Int) * ((W.1 e).val : Int) := Int.mul_nonneg (by omega) (by omega)
      refine k449_200 v.1 (RV_l v (c := 1311) rfl) (RV_l v (c := 1322) rfl) ?_ (c10 := by rw [mk_len]; omega) (c11 := by omega) (c12 := by unfold In3; omega) (c13 := by unfold In3; omega) (c19 := by rw [mk_len]; omega) (c20 := by omega) (c21 := by unfold In3; omega) (c22 := by rw [g1, g2]; exact in6_of (by omega) (by omega))
      have ha := hvp_a W V (c := c) (e := e) (by omega)
      rw [g1, g2, mk_set, g, tmod_nn (by omega), cf_pst (hvp W V c e 0) (n := c + e - 1) (z := (hvp W V c e 0).1 (c + e - 1) + zp_nat c * W.1 e) (t0 := ((c : Int) + (e : Int) - 1).toNat) (by omega) (by rw [← nF_v, nF_add, nF_mul, nF_val, nF_val, nF_nat]), pst_of ha.1.symm ha.2]
      exact second _ _ (RV_w v (c := 1311) rfl (cf (hvp W V c e 1))) (FR_trans r (FR_w v (c := 1311) rfl _)) (fun x hx => by rw [up_ne _ _ hx]; exact o x hx) (up_at _ _ _)
/-- a column of the second kind comes to v -/
theorem W_colB {Q : s_O → Prop} {n m c : Nat} {U : zp_R} (cm : m ≤ c) (cn : c < n) (n40 : n ≤ 40) (dU : zp_deg U (m + 1)) {A : Nat → Nat → Int} (hU : A 1321 = cf U) (N : ∀ (h2 : s_H) (x4 : Int), RV h2 s (up A 1311 (cf (zp_mul (zp_X (c - m)) U))) → FR h h2 → wr sw_P (d + 1) sw_c449 sw_h449 (312, [.index 1290, vi (n : Int), vi (m : Int), vi (c : Int), vi x4], [], h2, 0, 0) Q) : ∀ (l e : Nat) (B : Nat → Nat → Int) (h' : s_H), e + (c - m) + l = n → RV h' s B → FR h h' → (∀ x, x ≠ 1311 → B x = A x) → B 1311 = cf (hup U (c - m) e) → wr sw_P (d + 1) sw_c449 sw_h449 (278, [.index 1290, vi (n : Int), vi (m : Int), vi (c : Int), vi (e : Int)], [], h', 0, 0) Q := by
  intro l
  induction l with
  | zero =>
    intro e B h' he v r o g
    refine k449_278 (fun _ => ?_) (fun w => absurd (by omega) w) (c1 := by unfold In3; omega) (c2 := by unfold In3; omega)
    rw [show e = n - (c - m) by omega, hup_n dU (by omega)] at g
    have e : up A 1311 (cf (zp_mul (zp_X (c - m)) U)) = B := by
      funext x
      by_cases q : x = 1311
      · rw [q, up_at, g]
      · rw [up_ne _ _ q, o x q]
    refine N h' _ ?_ r
    rw [e]; exact v
  | succ l ih =>
    intro e B h' he v r o g
    have g1 : gi (mk 176 (B 1321)) (e : Int) = ((U.1 e).val : Int) := by rw [o 1321 (by decide), hU]; exact gi_mkn (by omega)
    refine k449_278 (fun w => absurd w (by omega)) (fun _ => ?_) (c1 := by unfold In3; omega) (c2 := by unfold In3; omega)
    refine k449_288 v.1 (RV_l v (c := 1321) rfl) (RV_l v (c := 1311) rfl) ?_ (c12 := by rw [mk_len]; omega) (c13 := by omega) (c14 := by unfold In3; omega) (c18 := by rw [mk_len]; omega) (c19 := by omega) (c20 := by unfold In3; omega)
    rw [g1, mk_set, g, cf_pst (hup U (c - m) e) (n := c - m + e) (z := U.1 e) (t0 := ((e : Int) + (c : Int) - (m : Int)).toNat) (by omega) rfl, hup_s]
    have := ih (e + 1) _ _ (by omega) (RV_w v (c := 1311) rfl (cf (hup U (c - m) (e + 1)))) (FR_trans r (FR_w v (c := 1311) rfl _)) (fun x hx => by rw [up_ne _ _ hx]; exact o x hx) (up_at _ _ _)
    exact this
/-- v becomes column c -/
theorem W_colT {Q : s_O → Prop} {n c : Nat} {S : Nat → zp_R} {x2 : Int} (cn : c < n) (n40 : n ≤ 40) {A : Nat → Nat → Int} (hS : A 1311 = cf (S c)) (N : ∀ (h2 : s_H) (x4 : Int), RV h2 s (up A 1317 (fl (tc S n (c + 1) 0))) → FR h h2 → wr sw_P (d + 1) sw_c449 sw_h449 (346, [.index 1290, vi (n : Int), vi x2, vi (c : Int), vi x4], [], h2, 0, 0) Q) : ∀ (l e : Nat) (B : Nat → Nat → Int) (h' : s_H), e + l = n → RV h' s B → FR h h' → (∀ x, x ≠ 1317 → B x = A x) → B 1317 = fl (tc S n c e) → wr sw_P (d + 1) sw_c449 sw_h449 (315, [.index 1290, vi (n : Int), vi x2, vi (c : Int), vi (e : Int)], [], h', 0, 0) Q := by
  intro l
  induction l with
  | zero =>
    intro e B h' he v r o g
    refine k449_315 (fun _ => ?_) (fun w => absurd (by omega) w) (c1 := by unfold In3; omega) (c2 := by unfold In3; omega)
    rw [show e = n by omega, tc_s] at g
    have e : up A 1317 (fl (tc S n (c + 1) 0)) = B := by
      funext x
      by_cases q : x = 1317
      · rw [q, up_at, g]
      · rw [up_ne _ _ q, o x q]
    refine N h' _ ?_ r
    rw [e]; exact v
  | succ l ih =>
    intro e B h' he v r o g
    have g1 : gi (mk 176 (B 1311)) (e : Int) = (((S c).1 e).val : Int) := by rw [o 1311 (by decide), hS]; exact gi_mkn (by omega)
    refine k449_315 (fun w => absurd w (by omega)) (fun _ => ?_) (c1 := by unfold In3; omega) (c2 := by unfold In3; omega)
    refine k449_321 v.1 (RV_l v (c := 1311) rfl) (Ra_table v) ?_ (c12 := by rw [mk_len]; omega) (c13 := by omega) (c14 := by unfold In3; omega) (c18 := by rw [mk_len]; omega) (c19 := by omega) (c20 := by unfold In3; omega)
    have e5 := fl_put (tc S n c e) (n := e) (i := c) (by omega) ((S c).1 e) (t0 := (48 * (e : Int) + c).toNat) (by omega) (x := gi (mk 176 (B 1311)) (e : Int)) g1
    rw [mk_set, g, e5, tc_put (S := S) (show e < n by omega)]
    have := ih (e + 1) _ _ (by omega) (RV_t v (g := fl (tc S n c (e + 1))) rfl) (FR_trans r (FR_t v _)) (fun x hx => by rw [up_ne _ _ hx, o x hx]) (up_at _ _ _)
    exact this
end
