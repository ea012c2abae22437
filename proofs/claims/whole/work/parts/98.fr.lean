/-! closed sums: the wide table and what it tells -/
theorem mvf_X (c : Nat) (hc : c < 176) (z : zp_F) : mvf (zp_X c) z = zp_npow (zp_add (zp_X 1) (zp_C z)) c := by
  have e1 : mvf (zp_X c) z = cmo (zp_T 1 c) (zp_add (zp_X 1) (zp_C z)) (c + 1) := cmo_ext (zp_T_deg 1 c) (by omega)
  rw [e1, cmo_T, zp_C1]
  exact @im_h zp_R zp_ring _
where im_h : ∀ {R : Type} [Lean.Grind.CommRing R] (a : R), 1 * a = a := by intro R _ a; grind
theorem gop_sum {a b q : zp_R} (dq : zp_deg q 21) : gop a b q = @zp_sum zp_R zp_ring (fun c => zp_mul (zp_C (q.1 c)) (gop a b (zp_X c))) 21 := by
  have e1 : mvf q 1 = @zp_sum zp_R zp_ring (fun c => zp_mul (zp_C (q.1 c)) (mvf (zp_X c) 1)) 21 := by
    have e2 : mvf q 1 = cmo q (zp_add (zp_X 1) (zp_C 1)) 21 := cmo_ext dq (by decide)
    rw [e2]
    exact @zp_sum_congr zp_R zp_ring _ _ 21 (fun c hc => by rw [mvf_X c (by omega)])
  have e3 : q = @zp_sum zp_R zp_ring (fun c => zp_mul (zp_C (q.1 c)) (zp_X c)) 21 := by
    refine (cmo_X dq).symm.trans (@zp_sum_congr zp_R zp_ring _ _ 21 (fun c _ => ?_))
    rw [zp_X_pow]
  have e4 : @zp_sum zp_R zp_ring (fun c => zp_mul (zp_C (q.1 c)) (gop a b (zp_X c))) 21 = @zp_sum zp_R zp_ring (fun c => zp_add (zp_mul a (zp_mul (zp_C (q.1 c)) (mvf (zp_X c) 1))) (zp_mul (zp_neg (mvf b (nF (-1)))) (zp_mul (zp_C (q.1 c)) (zp_X c)))) 21 := @zp_sum_congr zp_R zp_ring _ _ 21 (fun c _ => @gs_h zp_R zp_ring _ _ _ _ _)
  have e5 := @zp_sum_add zp_R zp_ring (fun c => zp_mul a (zp_mul (zp_C (q.1 c)) (mvf (zp_X c) 1))) (fun c => zp_mul (zp_neg (mvf b (nF (-1)))) (zp_mul (zp_C (q.1 c)) (zp_X c))) 21
  have e6 := @zp_sum_mul zp_R zp_ring a (fun c => zp_mul (zp_C (q.1 c)) (mvf (zp_X c) 1)) 21
  have e7 := @zp_sum_mul zp_R zp_ring (zp_neg (mvf b (nF (-1)))) (fun c => zp_mul (zp_C (q.1 c)) (zp_X c)) 21
  refine Eq.trans ?_ (e4.trans e5).symm
  refine Eq.trans ?_ (congr (congrArg zp_add e6) e7).symm
  rw [← e1, ← e3]
  exact @gs_h2 zp_R zp_ring _ _ _ _
where
  gs_h : ∀ {R : Type} [Lean.Grind.CommRing R] (c a V b X : R), c * (a * V + -(b * X)) = a * (c * V) + -b * (c * X) := by intro R _ c a V b X; grind
  gs_h2 : ∀ {R : Type} [Lean.Grind.CommRing R] (a V b q : R), a * V + -(b * q) = a * V + -b * q := by intro R _ a V b q; grind
def wM (a b D : zp_R) : Nat → Nat → zp_F := fun r c => if c < 21 then (gop a b (zp_X c)).1 r else if c = 21 then D.1 r else 0
theorem sum_21 {f : Nat → zp_F} (h : ∀ c, 22 ≤ c → f c = 0) : zp_sum f 48 = zp_sum f 21 + f 21 := by
  rw [zp_sum_ext (n := 22) (m := 48) h (by decide)]
  rfl
/-- q's numbers and t in column 21 -/
def wy (q : zp_R) (t : zp_F) : Nat → zp_F := fun i => if i < 21 then q.1 i else if i = 21 then t else 0
theorem wM_ker {a b D q : zp_R} {t : zp_F} (da : zp_deg a 41) (db : zp_deg b 41) (dD : zp_deg D 61) (dq : zp_deg q 21) : ker (wM a b D) 80 (wy q t) ↔ zp_add (gop a b q) (zp_mul (zp_C t) D) = zp_C 0 := by
  have row : ∀ r, zp_sum (fun i => wM a b D r i * wy q t i) 48 = (zp_add (gop a b q) (zp_mul (zp_C t) D)).1 r := fun r => by
    rw [sum_21 (fun c hc => by
      unfold wy
      rw [if_neg (by omega), if_neg (by omega)]; exact zp_ml0 _)]
    have e1 : zp_sum (fun i => wM a b D r i * wy q t i) 21 = (gop a b q).1 r := by
      rw [gop_sum dq, sum_cf]
      refine zp_sum_congr (fun c hc => ?_)
      unfold wM wy
      rw [if_pos hc, if_pos hc, zp_C_mul1]
      exact @zp_h20 zp_F _ _ _
    have a1 : wM a b D r 21 = D.1 r := by
      unfold wM
      rw [if_neg (by decide), if_pos rfl]
    have a2 : wy q t 21 = t := by
      unfold wy
      rw [if_neg (by decide), if_pos rfl]
    have e2 : wM a b D r 21 * wy q t 21 = (zp_mul (zp_C t) D).1 r := by
      rw [a1, a2, zp_C_mul1]
      exact @zp_h20 zp_F _ _ _
    rw [e1, e2]
    rfl
  refine ⟨fun k => zp_ext (fun r => ?_), fun e r _ => ?_⟩
  · by_cases hr : r < 80
    · rw [← row r, k r hr, zp_C00]
    · have := deg_add (gop_deg da db dq) (deg_Cm t dD) r (by omega)
      rw [this, zp_C00]
  · rw [row r, e, zp_C00]
theorem solw_fin (B : Nat → Nat → zp_F) (R : Nat → Int) (n : Nat) : zp_fin (fun i => if i < n ∧ R i ≠ -1 then B (pc R i) 21 else 0) := ⟨n, fun i hi2 => if_neg (fun w => by omega)⟩
/-- what column 21 tells of the first n columns -/
def solw (B : Nat → Nat → zp_F) (R : Nat → Int) (n : Nat) : zp_R := ⟨fun i => if i < n ∧ R i ≠ -1 then B (pc R i) 21 else 0, solw_fin B R n⟩
theorem solw_deg (B : Nat → Nat → zp_F) (R : Nat → Int) (n : Nat) : zp_deg (solw B R n) n := fun i hi2 => if_neg (fun w => by omega)
/-- where rows are met, that comes to D -/
theorem wm_sol {a b D : zp_R} {B : Nat → Nat → zp_F} {R : Nat → Int} {n : Nat} (n21 : n ≤ 21) (da : zp_deg a 41) (db : zp_deg b 41) (dD : zp_deg D 61) (rw_ : rr (wM a b D) B 80 n R) (z : ∀ i, pc R n ≤ i → i < 80 → B i 21 = 0) : gop a b (solw B R n) = D := by
  have dq := deg_le (solw_deg B R n) n21
  have k : ker B 80 (wy (solw B R n) (-1)) := fun r hr => by
    rw [sum_21 (fun c hc => by
      unfold wy
      rw [if_neg (by omega), if_neg (by omega)]; exact zp_ml0 _)]
    have key : ∀ m, m ≤ n → zp_sum (fun i => B r i * wy (solw B R n) (-1) i) m = if r < pc R m then B r 21 else 0 := by
      intro m
      induction m with
      | zero => intro _; exact (if_neg (Nat.not_lt_zero r)).symm
      | succ m ih =>
        intro hm
        show zp_sum _ m + B r m * wy (solw B R n) (-1) m = if r < pc R m + (if R m = -1 then 0 else 1) then B r 21 else 0
        have em : wy (solw B R n) (-1) m = if m < n ∧ R m ≠ -1 then B (pc R m) 21 else 0 := by
          unfold wy
          rw [if_pos (by omega)]; rfl
        rw [ih (by omega), em]
        rcases rw_.2 m (by omega) with ⟨x1, x2⟩ | ⟨x1, x2, x3, x4⟩
        · rw [if_neg (show ¬ (m < n ∧ R m ≠ -1) from fun w => w.2 x1), if_pos x1, zp_ml0, ad_0]; rfl
        · have x1' : R m ≠ -1 := by omega
          rw [if_pos (show m < n ∧ R m ≠ -1 from ⟨by omega, x1'⟩), if_neg x1']
          by_cases h1 : r = pc R m
          · rw [if_neg (show ¬ r < pc R m by omega), if_pos (show r < pc R m + 1 by omega), h1, x3]
            exact @ws_h zp_F _ _
          · rw [x4 r hr h1, zp_0ml, ad_0]
            by_cases h2 : r < pc R m
            · rw [if_pos h2, if_pos (show r < pc R m + 1 by omega)]
            · rw [if_neg h2, if_neg (show ¬ r < pc R m + 1 by omega)]
    have e21 : zp_sum (fun i => B r i * wy (solw B R n) (-1) i) 21 = zp_sum (fun i => B r i * wy (solw B R n) (-1) i) n := by
      have c := zp_sum_cut (fun i => B r i * wy (solw B R n) (-1) i) n (21 - n)
      rw [show n + (21 - n) = 21 by omega] at c
      rw [c, zp_sum_zero (n := 21 - n) (fun i hi2 => by
        have : wy (solw B R n) (-1) (n + i) = 0 := by
          unfold wy
          rw [if_pos (by omega)]
          exact if_neg (fun w => by omega)
        rw [this]; exact zp_ml0 _)]
      exact ad_0 _
    have t : wy (solw B R n) (-1) 21 = -1 := by
      unfold wy
      rw [if_neg (by omega), if_pos rfl]
    rw [e21, key n (Nat.le_refl n), t]
    by_cases h2 : r < pc R n
    · rw [if_pos h2]; exact @ws_h2 zp_F _ _
    · rw [if_neg h2, z r (by omega) hr]; exact @ws_h3 zp_F _
  have k2 := (wM_ker da db dD dq).mp ((rw_.1 _).mpr k)
  exact @ws_h4 zp_R zp_ring _ _ (by
    have e : zp_C (-1) = zp_neg (zp_C 1) := cg_C_neg 1
    rw [e, zp_C1] at k2
    exact k2)
where
  ws_h : ∀ {R : Type} [Lean.Grind.CommRing R] (a : R), 0 + 1 * a = a := by intro R _ a; grind
  ws_h2 : ∀ {R : Type} [Lean.Grind.CommRing R] (a : R), a + a * -1 = 0 := by intro R _ a; grind
  ws_h3 : ∀ {R : Type} [Lean.Grind.CommRing R], (0 : R) + 0 * -1 = 0 := by intro R _; grind
  ws_h4 : ∀ {R : Type} [Lean.Grind.CommRing R] {a D : R} (_ : a + -1 * D = 0), a = D := by intro R _ a D e; grind
theorem wt_h {R : Type} [Lean.Grind.CommRing R] (a : R) : a + -1 * a = 0 := by grind
theorem wt_h2 {R : Type} [Lean.Grind.CommRing R] {a : R} (e : 0 + a * -1 = 0) : a = 0 := by grind
/-- where something comes to D, rows are met -/
theorem wm_met {a b D q : zp_R} {B : Nat → Nat → zp_F} {R : Nat → Int} {n : Nat} (n21 : n ≤ 21) (da : zp_deg a 41) (db : zp_deg b 41) (dD : zp_deg D 61) (rw_ : rr (wM a b D) B 80 n R) (dq : zp_deg q n) (e : gop a b q = D) : ∀ i, pc R n ≤ i → i < 80 → B i 21 = 0 := fun i h1 h2 => by
  have k := (rw_.1 _).mp ((wM_ker (t := -1) da db dD (deg_le dq n21)).mpr (by
    have e2 : zp_C (-1) = zp_neg (zp_C 1) := cg_C_neg 1
    rw [e, e2, zp_C1]
    exact @wt_h zp_R zp_ring _)) i h2
  rw [sum_21 (fun c hc => by
    unfold wy
    rw [if_neg (by omega), if_neg (by omega)]; exact zp_ml0 _)] at k
  have z : zp_sum (fun c => B i c * wy q (-1) c) 21 = 0 := zp_sum_zero (fun c hc => by
    by_cases q2 : c < n
    · have : B i c = 0 := by
        have le := pc_le R (show c + 1 ≤ n by omega)
        have el : pc R (c + 1) = pc R c + (if R c = -1 then 0 else 1) := rfl
        rcases rw_.2 c q2 with ⟨x1, x2⟩ | ⟨x1, x2, x3, x4⟩
        · exact x2 i h2 (by rw [if_pos x1] at el; omega)
        · rw [if_neg (show ¬ R c = -1 by omega)] at el
          exact x4 i h2 (by omega)
      rw [this]; exact zp_0ml _
    · have : wy q (-1) c = 0 := by
        unfold wy
        rw [if_pos hc]; exact dq c (by omega)
      rw [this]; exact zp_ml0 _)
  have t : wy q (-1) 21 = -1 := by
    unfold wy
    rw [if_neg (by omega), if_pos rfl]
  rw [z, t] at k
  exact @wt_h2 zp_F _ _ k
/-- a free power's column has no row -/
theorem wm_free {a b D : zp_R} {B : Nat → Nat → zp_F} {R : Nat → Int} {n i : Nat} (n21 : n < 21) (da : zp_deg a 41) (db : zp_deg b 41) (dD : zp_deg D 61) (rw_ : rr (wM a b D) B 80 (n + 1) R) (h : gfr a b n i) : R i = -1 := Classical.byContradiction (fun w => by
  have hi3 : i ≤ n := h.1
  have a1 : i + 1 ≤ 21 := by omega
  have a2 : i < n + 1 := by omega
  have a3 : n + 1 ≤ 48 := by omega
  have a4 : ∀ j, i < j → i + 1 ≤ j := fun j hj => hj
  have a5 : i < 21 := by omega
  obtain ⟨hi2, q, dq, q0, e⟩ := h
  have k := (wM_ker (t := 0) da db dD (deg_le dq a1)).mpr (by
    rw [e]
    exact @wf_h zp_R zp_ring _)
  have z := rr_tell rw_ a3 k a2 w (fun j h1 h2 => by
    unfold wy
    by_cases q2 : j < 21
    · rw [if_pos q2]; exact dq j (a4 j h1)
    · rw [if_neg q2]
      split <;> rfl)
  have z2 : wy q 0 i = q.1 i := by
    unfold wy
    rw [if_pos a5]
  rw [z2] at z
  exact q0 z)
where wf_h : ∀ {R : Type} [Lean.Grind.CommRing R] (a : R), 0 + 0 * a = 0 := by intro R _ a; grind
