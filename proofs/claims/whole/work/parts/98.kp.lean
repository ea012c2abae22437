/-! the class: the calls common, divided, combined, kind, count, degree, at -/
section
variable {D : Nat} {h : s_H} {n : Nat} {T : Nat → th} {tx lf lp tk : Int}
theorem wS_1 {x y : Int} (w : ¬ (0 ≤ x ∧ x < (n : Int) ∧ 0 ≤ y ∧ y < (n : Int))) : wS n T x y 1 := ⟨fun _ => rfl, fun q => absurd q w⟩
theorem wS_2 {x y : Int} (b : 0 ≤ x ∧ x < (n : Int) ∧ 0 ≤ y ∧ y < (n : Int)) (no : (∀ f, T x.toNat ≠ th_fr f (zp_C 1)) ∨ (∀ f, T y.toNat ≠ th_fr f (zp_C 1))) : wS n T x y 2 := ⟨fun q => absurd b q, fun _ => by
  revert no
  generalize T x.toNat = t
  generalize T y.toNat = u
  intro no
  rcases t with ⟨N1, D1⟩ | f | ⟨r, w1, M⟩ | ⟨n1, so, va⟩ <;> rcases u with ⟨N2, D2⟩ | g | ⟨r2, w2, M2⟩ | ⟨n2, so2, va2⟩
  · refine ⟨fun q => ?_, fun _ => rfl⟩
    exfalso
    rcases no with w | w
    · exact w N1 (by rw [q.1])
    · exact w N2 (by rw [q.2])
  all_goals rfl⟩
theorem wS_0 {x y : Int} (b : 0 ≤ x ∧ x < (n : Int) ∧ 0 ≤ y ∧ y < (n : Int)) {f g : zp_R} (e1 : T x.toNat = th_fr f (zp_C 1)) (e2 : T y.toNat = th_fr g (zp_C 1)) : wS n T x y 0 := ⟨fun q => absurd b q, fun _ => by
  rw [e1, e2]
  exact ⟨fun _ => rfl, fun q => absurd ⟨rfl, rfl⟩ q⟩⟩
/-- the cell and the top of a whole one -/
theorem KT_whole {c : Nat} {t : th} {f : zp_R} (Kt : KT h c t) (e : t = th_fr f (zp_C 1)) (lo : 1376 ≤ h.1) : ∃ q lq r lr, s_get h c = some (1, 8, [vi 0, .index q, .index r, vi 0, vi 0, .null, .null, vi 0]) ∧ PF h q lq f ∧ PF h r lr (zp_C 1) ∧ 39 ≤ q ∧ q ≠ 1278 ∧ q ≠ 1277 ∧ q ≠ 1279 ∧ q + 1 < h.1 ∧ kp h q := by
  rw [e] at Kt
  obtain ⟨q, lq, r, lr, g, k1, _, P, P2, _⟩ := Kt
  have : q = 1276 ∨ (1376 ≤ q ∧ q + 1 < h.1) := k1
  exact ⟨q, lq, r, lr, g, P, P2, by omega, by omega, by omega, by omega, by omega, k1⟩
/-- both 0? -/
theorem u_oneNotZero {a b q1 l1 r1 q2 l2 r2 : Nat} {f g : zp_R} (ga : s_get h a = some (1, 8, [vi 0, .index q1, .index r1, vi 0, vi 0, .null, .null, vi 0])) (gb : s_get h b = some (1, 8, [vi 0, .index q2, .index r2, vi 0, vi 0, .null, .null, vi 0])) (Pf : PF h q1 l1 f) (Pg : PF h q2 l2 g) : wm sw_P (D + 1) 53 [.index a, .index b] h (fun out => (¬ (f = zp_C 0 ∧ g = zp_C 0) ∧ qv h out) ∨ ((f = zp_C 0 ∧ g = zp_C 0) ∧ out = (.inr 1, h, 1, 6))) := by
  refine wm_in (cd := sw_c53) (nL := 2) (hd := sw_h53) rfl rfl ?_
  obtain ⟨e1, _, P1, b1, _, x1, y1⟩ := id Pf
  obtain ⟨e2, _, P2, b2, _, x2, y2⟩ := id Pg
  have c1 := b1.1
  have c2 := b2.1
  refine k53_0 (z10 := e1) ga P1.2.1 (fun w => k53_28 (.inl ⟨fun q => by have := dgp_none q.1 b1; omega, rfl⟩)) (fun w => ?_) (c12 := by unfold In3; omega)
  exact k53_10 (z10 := e2) gb P2.2.1 (fun w2 => k53_28 (.inl ⟨fun q => by have := dgp_none q.2 b2; omega, rfl⟩)) (fun w2 => k53_20 (.inr ⟨⟨dgp_0 b1 (by omega), dgp_0 b2 (by omega)⟩, rfl⟩)) (c12 := by unfold In3; omega)
theorem deg176 {f : zp_R} (h : zp_deg f 41) : zp_deg f 176 := deg_le h (by decide)
/-- wide is kept -/
theorem keep_wide {h0 : s_H} {d' nx : Nat} {cd : s_Cd} {ls : List Term} {l : List Nat} {X : zp_R} {bad : Int} {R : Sum th Int → Prop} (H : CA h n T tx lf lp tk) (rm : RM h0 100) (lo0 : 1376 ≤ h0.1) (E : CF PA h0 h) (e1 : h.1 = h0.1) (P : PF h 1278 192 X) (dX : zp_deg X 176) (eb : exl l bad = 0) (φ : ∀ res, keeps n X bad res → R res) (ret : ∀ (v : Int) (h' : s_H) (x y : Nat), (fun out => ∃ res, R res ∧ CE 100 4000 100 l h0 n T tx lf lp tk res out) (.inl (some (vi v)), h', x, y) → wr sw_P d' cd [] (nx, ls, [vi v], h', x, y) (fun out => ∃ res, R res ∧ CE 100 4000 100 l h0 n T tx lf lp tk res out)) : wm sw_P (D + 3) 41 [.index 1, .index 1278] h (wq sw_P d' cd [] nx ls [] 0 0 (fun out => ∃ res, R res ∧ CE 100 4000 100 l h0 n T tx lf lp tk res out)) := by
  refine wm_mono (fun out => ?_) (u_keepWhole H (RM_A rm E lo0 (by omega)) P dX (by have := H.1.2; omega) (bad := bad) eb)
  intro ⟨res, r1, r2⟩
  exact wq_CE ret E (by omega) (by omega) (by omega) (fun out c => ⟨res, φ res r1, c⟩) out r2
/-- THE CALL common -/
theorem u_common (H : CA h n T tx lf lp tk) (rm : RM h 100) {x y : Int} (hx : In3 x) (hy : In3 y) : wm sw_P (D + 4) 12 [.index 1, vi x, vi y] h (fun out => ∃ res, comS n T x y res ∧ CE 100 4000 100 [3, 1, 0] h n T tx lf lp tk res out) := by
  refine wm_in (cd := sw_c12) (nL := 5) (hd := sw_h12) rfl rfl ?_
  have lo := H.1.2
  obtain ⟨_, _, A, _, wd, _⟩ := id H
  have no1 : ¬ (0 ≤ x ∧ x < (n : Int) ∧ 0 ≤ y ∧ y < (n : Int)) → comS n T x y (.inr 1) := fun w => ⟨1, wS_1 w, fun _ => rfl, fun q => absurd q (by first | (simp [kd]; done) | decide)⟩
  refine k12_0 H.1.1 (r_thing H hx (fun a x0 xn ka Ka => ?_) (fun w => CE_x H 1 rfl (no1 (fun q => w ⟨q.1, q.2.1⟩)) (by omega) (by omega)))
  refine k12_5 H.1.1 (r_thing H hy (fun b y0 yn kb Kb => ?_) (fun w => CE_x H 1 rfl (no1 (fun q => w q.2.2)) (by omega) (by omega)))
  have b0 : 0 ≤ x ∧ x < (n : Int) ∧ 0 ≤ y ∧ y < (n : Int) := ⟨x0, xn, y0, yn⟩
  have no2 : (∀ f, T x.toNat ≠ th_fr f (zp_C 1)) ∨ (∀ f, T y.toNat ≠ th_fr f (zp_C 1)) → comS n T x y (.inr 2) := fun w => ⟨2, wS_2 b0 w, fun _ => rfl, fun q => absurd q (by first | (simp [kd]; done) | decide)⟩
  refine k12_11 (r_whole Ka ka (fun f ef df => ?_) (fun w => CE_x H 2 rfl (no2 (.inl w)) (by omega) (by omega)))
  refine k12_17 (r_whole Kb kb (fun g eg dg => ?_) (fun w => CE_x H 2 rfl (no2 (.inr w)) (by omega) (by omega)))
  have sp : ∀ res, comF n (th_fr f (zp_C 1)) (th_fr g (zp_C 1)) res → comS n T x y res := fun res w => ⟨0, wS_0 b0 ef eg, fun q => absurd rfl q, fun _ => by rw [ef, eg]; exact w⟩
  obtain ⟨q1, l1, r1, m1, ga, Pf, _, x1, x2, x3, x4, x5, _⟩ := KT_whole Ka ef lo
  obtain ⟨q2, l2, r2, m2, gb, Pg, _, y1, y2, y3, y4, y5, _⟩ := KT_whole Kb eg lo
  refine k12_22 (wm_mono (fun out => ?_) (u_oneNotZero ga gb Pf Pg))
  intro w
  rcases w with ⟨ne, w⟩ | ⟨w0, w⟩
  · refine wq_v ?_ out w
    refine k12_28 H.1.1 ga gb A.1 (wm_mono (wq_AN (fun h1 ⟨C, gC, P⟩ F1 A1 => ?_)) (u_setCommon A (by decide) Pf Pg wd (.inr x1) (.inr y1) (.inr (by decide)) (fD df (by omega)) (fD dg (by omega)) (fun C gC => fD (isG_fit gC df dg) (by omega))))
    obtain ⟨H1, C1', e1⟩ := CA_wide H F1 A1 (PF_E P)
    exact k12_48 H1.1.1 (keep_wide H1 rm lo C1' e1 P (deg176 (isG_fit gC df dg)) (bad := 3) rfl (fun res w => sp res ⟨fun q => absurd q ne, fun _ => ⟨C, gC, w.1, w.2⟩⟩) (fun v h' x y q => k12_56 q))
  · rw [w]
    exact ⟨rfl, CE_x H 2 rfl (sp _ ⟨fun _ => rfl, fun q => absurd w0 q⟩) (by omega) (by omega)⟩
theorem cx_dv {R : Type} [Lean.Grind.CommRing R] (a b : R) : a = a + b + -b := by grind
/-- THE CALL divided -/
theorem u_divided (H : CA h n T tx lf lp tk) (rm : RM h 100) {x y z : Int} (hx : In3 x) (hy : In3 y) (hz : In3 z) : wm sw_P (D + 4) 19 [.index 1, vi x, vi y, vi z] h (fun out => ∃ res, divS n T x y z res ∧ CE 100 4000 100 [3, 1, 2, 0] h n T tx lf lp tk res out) := by
  refine wm_in (cd := sw_c19) (nL := 6) (hd := sw_h19) rfl rfl ?_
  have lo := H.1.2
  obtain ⟨_, _, A, _, wd, _⟩ := id H
  have no1 : ¬ (0 ≤ x ∧ x < (n : Int) ∧ 0 ≤ y ∧ y < (n : Int)) → divS n T x y z (.inr 1) := fun w => ⟨1, ⟨1, wS_1 w, fun _ => rfl, fun q => absurd q (by first | (simp [kd]; done) | decide)⟩, fun _ => rfl, fun q => absurd q (by first | (simp [kd]; done) | decide)⟩
  refine k19_0 H.1.1 (r_thing H hx (fun a x0 xn ka Ka => ?_) (fun w => CE_x H 1 rfl (no1 (fun q => w ⟨q.1, q.2.1⟩)) (by omega) (by omega)))
  refine k19_5 H.1.1 (r_thing H hy (fun b y0 yn kb Kb => ?_) (fun w => CE_x H 1 rfl (no1 (fun q => w q.2.2)) (by omega) (by omega)))
  have b0 : 0 ≤ x ∧ x < (n : Int) ∧ 0 ≤ y ∧ y < (n : Int) := ⟨x0, xn, y0, yn⟩
  have no2 : (∀ f, T x.toNat ≠ th_fr f (zp_C 1)) ∨ (∀ f, T y.toNat ≠ th_fr f (zp_C 1)) → divS n T x y z (.inr 2) := fun w => ⟨2, ⟨2, wS_2 b0 w, fun _ => rfl, fun q => absurd q (by first | (simp [kd]; done) | decide)⟩, fun _ => rfl, fun q => absurd q (by first | (simp [kd]; done) | decide)⟩
  refine k19_12 (r_whole Ka ka (fun f ef df => ?_) (fun w => CE_x H 2 rfl (no2 (.inl w)) (by omega) (by omega)))
  refine k19_19 (r_whole Kb kb (fun g eg dg => ?_) (fun w => CE_x H 2 rfl (no2 (.inr w)) (by omega) (by omega)))
  refine k19_24 (r_01 hz (fun z01 => ?_) (fun w => CE_x H 2 rfl ⟨2, ⟨0, wS_0 b0 ef eg, fun q => absurd rfl q, fun _ => (if_neg w).symm⟩, fun _ => rfl, fun q => absurd q (by first | (simp [kd]; done) | decide)⟩ (by omega) (by omega)))
  have sp : ∀ res, divF n z (th_fr f (zp_C 1)) (th_fr g (zp_C 1)) res → divS n T x y z res := fun res w => ⟨0, ⟨0, wS_0 b0 ef eg, fun q => absurd rfl q, fun _ => (if_pos z01).symm⟩, fun q => absurd rfl q, fun _ => by rw [ef, eg]; exact w⟩
  obtain ⟨q1, l1, r1, m1, ga, Pf, _, x1, x2, x3, x4, x5, _⟩ := KT_whole Ka ef lo
  obtain ⟨q2, l2, r2, m2, gb, Pg, _, y1, y2, y3, y4, y5, _⟩ := KT_whole Kb eg lo
  obtain ⟨e2, _, P2, b2, _, p2, p3⟩ := id Pg
  have c2 := b2.1
  refine k19_28 (z10 := e2) gb P2.2.1 (fun w => ?_) (fun w => k19_39 (CE_x H 3 rfl (sp _ ⟨fun _ => rfl, fun q => absurd (dgp_0 b2 (by omega)) q⟩) (by omega) (by omega))) (c12 := by unfold In3; omega)
  have g0 : g ≠ zp_C 0 := fun e => by have := dgp_none e b2; omega
  obtain ⟨m, dm, m41⟩ := dgp_no g0 dg
  have hm := dgp_of dm (by omega)
  obtain ⟨ef1, _, _, bf1, _⟩ := id Pf
  have dgQ : ∀ {Q R : zp_R}, f = zp_add (zp_mul g Q) R → zp_deg R m → zp_deg Q 41 := fun {Q R} e dR => by
    by_cases fm : ef1 < m
    · have fz : zp_deg f m := dgp_deg bf1 fm
      have gq : zp_deg (zp_mul g Q) m := by
        have : zp_mul g Q = zp_add f (zp_neg R) := by rw [e]; exact @cx_dv zp_R zp_ring _ _
        rw [this]
        refine deg_add fz (fun i hi2 => ?_)
        show -(R.1 i) = 0
        rw [dR i hi2]
        decide
      by_cases q0 : Q = zp_C 0
      · rw [q0]
        exact fun i _ => zp_C00 i
      · obtain ⟨nq, hq⟩ := Q.2
        obtain ⟨k, dk, _⟩ := dgp_no q0 hq
        have := dgp_mul dm dk (by omega) (by omega)
        exact absurd (gq (m + k) (by omega)) (this.2.2 (m + k) (by omega))
    · have f41 := fD (L := 41) df (by omega) ef1 bf1
      obtain ⟨k, ek⟩ : ∃ k : Nat, ef1 = k := ⟨ef1.toNat, by omega⟩
      subst ek
      exact deg_le (quo_dgp e bf1 dm dR (by omega)) (by omega)
  have go : ∀ v : Int, (v = 1 ∧ z = 0) ∨ (v = 0 ∧ z ≠ 0) → wr sw_P (D + 3) sw_c19 sw_h19 (70, [.index 1, vi x, vi y, vi z, .index a, .index b], [vi v, .index q2, .index q1, .index 5], h, 0, 0) (fun out => ∃ res, divS n T x y z res ∧ CE 100 4000 100 [3, 1, 2, 0] h n T tx lf lp tk res out) := fun v hv => by
    have fit : ∀ Q R, f = zp_add (zp_mul g Q) R → zp_deg R m → zp_deg (if v = 0 then R else Q) 41 := fun Q R e dR => by
      split
      · exact deg_le dR (by omega)
      · exact dgQ e dR
    refine k19_70 H.1.1 A.1 (wm_mono (wq_AN (fun h1 ⟨Q, R, e, dR, P⟩ F1 A1 => ?_)) (u_setDivided A (by decide) Pf Pg wd (.inr x1) (.inr y1) (.inr (by decide)) dm (fD df (by omega)) (z := v) (by unfold In3; omega) (fun Q R e dR => fD (fit Q R e dR) (by omega))))
    obtain ⟨H1, C1', e1⟩ := CA_wide H F1 A1 (PF_E P)
    refine k19_77 H1.1.1 (keep_wide H1 rm lo C1' e1 P (deg176 (fit Q R e dR)) (bad := 4) rfl (fun res w => sp res ⟨fun q => absurd q g0, fun _ => ⟨Q, R, e, by rw [hm]; exact dR, deg176 (dgQ e dR), ?_⟩⟩) (fun v h' x y q => k19_85 q))
    have : (if z = 0 then Q else R) = if v = 0 then R else Q := by
      rcases hv with ⟨v1, z0⟩ | ⟨v1, z0⟩
      · rw [if_pos z0, if_neg (by omega)]
      · rw [if_neg z0, if_pos v1]
    rw [this]
    exact w
  exact k19_47 H.1.1 ga gb (fun w => k19_69 (go 0 (.inr ⟨rfl, w⟩))) (fun w => k19_65 (go 1 (.inl ⟨rfl, Classical.byContradiction w⟩))) (c19 := hz)
/-- THE CALL combined -/
theorem u_combined (H : CA h n T tx lf lp tk) (rm : RM h 100) {x y z : Int} (hx : In3 x) (hy : In3 y) (hz : In3 z) : wm sw_P (D + 5) 11 [.index 1, vi x, vi y, vi z] h (fun out => ∃ res, cmbS n T x y z res ∧ CE 100 4000 100 [3, 1, 0] h n T tx lf lp tk res out) := by
  refine wm_in (cd := sw_c11) (nL := 6) (hd := sw_h11) rfl rfl ?_
  have lo := H.1.2
  obtain ⟨_, _, A, _, wd, _⟩ := id H
  have no1 : ¬ (0 ≤ x ∧ x < (n : Int) ∧ 0 ≤ y ∧ y < (n : Int)) → cmbS n T x y z (.inr 1) := fun w => ⟨1, ⟨1, wS_1 w, fun _ => rfl, fun q => absurd q (by first | (simp [kd]; done) | decide)⟩, fun _ => rfl, fun q => absurd q (by first | (simp [kd]; done) | decide)⟩
  refine k11_0 H.1.1 (r_thing H hx (fun a x0 xn ka Ka => ?_) (fun w => CE_x H 1 rfl (no1 (fun q => w ⟨q.1, q.2.1⟩)) (by omega) (by omega)))
  refine k11_5 H.1.1 (r_thing H hy (fun b y0 yn kb Kb => ?_) (fun w => CE_x H 1 rfl (no1 (fun q => w q.2.2)) (by omega) (by omega)))
  have b0 : 0 ≤ x ∧ x < (n : Int) ∧ 0 ≤ y ∧ y < (n : Int) := ⟨x0, xn, y0, yn⟩
  have no2 : (∀ f, T x.toNat ≠ th_fr f (zp_C 1)) ∨ (∀ f, T y.toNat ≠ th_fr f (zp_C 1)) → cmbS n T x y z (.inr 2) := fun w => ⟨2, ⟨2, wS_2 b0 w, fun _ => rfl, fun q => absurd q (by first | (simp [kd]; done) | decide)⟩, fun _ => rfl, fun q => absurd q (by first | (simp [kd]; done) | decide)⟩
  refine k11_12 (r_whole Ka ka (fun f ef df => ?_) (fun w => CE_x H 2 rfl (no2 (.inl w)) (by omega) (by omega)))
  refine k11_19 (r_whole Kb kb (fun g eg dg => ?_) (fun w => CE_x H 2 rfl (no2 (.inr w)) (by omega) (by omega)))
  have no3 : ¬ (0 ≤ z ∧ z ≤ 1) → cmbS n T x y z (.inr 2) := fun w => ⟨2, ⟨0, wS_0 b0 ef eg, fun q => absurd rfl q, fun _ => (if_neg w).symm⟩, fun _ => rfl, fun q => absurd q (by first | (simp [kd]; done) | decide)⟩
  have sp : (0 ≤ z ∧ z ≤ 1) → ∀ res, cmbF n z (th_fr f (zp_C 1)) (th_fr g (zp_C 1)) res → cmbS n T x y z res := fun z01 res w => ⟨0, ⟨0, wS_0 b0 ef eg, fun q => absurd rfl q, fun _ => (if_pos z01).symm⟩, fun q => absurd rfl q, fun _ => by rw [ef, eg]; exact w⟩
  obtain ⟨q1, l1, r1, m1, ga, Pf, _, x1, x2, x3, x4, x5, _⟩ := KT_whole Ka ef lo
  obtain ⟨q2, l2, r2, m2, gb, Pg, _, y1, y2, y3, y4, y5, _⟩ := KT_whole Kb eg lo
  refine k11_24 (wm_mono (fun out => ?_) (u_oneNotZero ga gb Pf Pg))
  intro w
  rcases w with ⟨ne, w⟩ | ⟨w0, w⟩
  · refine wq_v ?_ out w
    refine k11_31 (r_01 hz (fun z01 => ?_) (fun w => CE_x H 2 rfl (no3 w) (by omega) (by omega)))
    have go : ∀ v : Int, (v = 1 ∧ z = 0) ∨ (v = 0 ∧ z ≠ 0) → wr sw_P (D + 4) sw_c11 sw_h11 (58, [.index 1, vi x, vi y, vi z, .index a, .index b], [vi v, .index q2, .index q1, .index 5], h, 0, 0) (fun out => ∃ res, cmbS n T x y z res ∧ CE 100 4000 100 [3, 1, 0] h n T tx lf lp tk res out) := fun v hv => by
      refine k11_58 H.1.1 A.1 (wm_mono (wq_AN (fun h1 ⟨X, cX, P⟩ F1 A1 => ?_)) (u_setCombined A (by decide) Pf Pg wd (.inr x1) (.inr y1) (by decide) (by unfold apt; omega) (by unfold apt; omega) (deg_le df (by decide)) (deg_le dg (by decide)) ne (z := v) (by unfold In3; omega)))
      obtain ⟨H1, C1', e1⟩ := CA_wide H F1 A1 (PF_E P)
      have df6 := deg176 df
      have hf := hi_b f
      by_cases g0 : g = zp_C 0
      · have eX := cX.1 g0
        have f0 : f ≠ zp_C 0 := fun e => ne ⟨e, g0⟩
        have dX : zp_deg X 176 := by
          rw [eX]
          split
          · exact deg_le (zp_C_deg 0) (by decide)
          · exact deg_le (zp_C_deg _) (by decide)
        refine k11_65 H1.1.1 (keep_wide H1 rm lo C1' e1 P dX (bad := 3) rfl (fun res w => sp z01 res ⟨fun q => absurd q ne, fun _ _ => ?_, fun q => absurd g0 q⟩) (fun v h' x y q => k11_73 q))
        have : (if z = 0 then zp_C (f.1 (hi f).toNat ^ 32001) else zp_C 0) = X := by
          rw [eX]
          rcases hv with ⟨v1, z0⟩ | ⟨v1, z0⟩
          · rw [if_pos z0, if_neg (by omega)]
          · rw [if_neg z0, if_pos v1]
        rw [this]
        exact w
      · obtain ⟨C, S, U, vv, gC, ev, dv, dS, dU, es, eX⟩ := cX.2 g0
        have dC := isG_fit gC df dg
        have v0 : vv ≠ zp_C 0 := fun e => g0 (by rw [ev, e, zp_mul0])
        have C0 : C ≠ zp_C 0 := fun e => g0 (by rw [ev]; exact zp_mul_0 (.inl e))
        have dv41 : zp_deg vv 41 := mul_lo (f := vv) (q := C) (g := g) (by rw [ev]; exact @zp_h20 zp_R zp_ring C vv) C0 dg
        have hv1 := hi_lt dv41 (Nat.le_refl _)
        have dS6 : zp_deg S 176 := deg_le dS (by omega)
        have dX : zp_deg X 176 := by
          rw [eX]
          split
          · exact dU
          · exact dS6
        refine k11_65 H1.1.1 (keep_wide H1 rm lo C1' e1 P dX (bad := 3) rfl (fun res w => sp z01 res ⟨fun q => absurd q ne, fun _ q => absurd q g0, fun _ => ⟨C, S, U, vv, gC, ev, dv41, dS, dU, es, ?_⟩⟩) (fun v h' x y q => k11_73 q))
        have : (if z = 0 then S else U) = X := by
          rw [eX]
          rcases hv with ⟨v1, z0⟩ | ⟨v1, z0⟩
          · rw [if_pos z0, if_neg (by omega)]
          · rw [if_neg z0, if_pos v1]
        rw [this]
        exact w
    exact k11_35 H.1.1 ga gb (fun w => k11_57 (go 0 (.inr ⟨rfl, w⟩))) (fun w => k11_53 (go 1 (.inl ⟨rfl, Classical.byContradiction w⟩))) (c19 := hz)
  · rw [w]
    refine ⟨rfl, ?_⟩
    by_cases z01 : 0 ≤ z ∧ z ≤ 1
    · exact CE_x H 2 rfl (sp z01 _ ⟨fun _ => rfl, fun q => absurd w0.1 q, fun q => absurd w0.2 q⟩) (by omega) (by omega)
    · exact CE_x H 2 rfl (no3 z01) (by omega) (by omega)
/-- THE CALL kind -/
theorem u_kind (H : CA h n T tx lf lp tk) {x : Int} (hx : In3 x) : wm sw_P (D + 2) 42 [.index 1, vi x] h (fun out => ∃ c v, kinS n T x c v ∧ CV 100 4000 100 [3] h n T tx lf lp tk c v out) := by
  refine wm_in (cd := sw_c42) (nL := 2) (hd := sw_h42) rfl rfl ?_
  refine k42_0 H.1.1 (r_thing H hx (fun a x0 xn ka Ka => ?_) (fun w => ⟨1, 0, ⟨fun _ => ⟨rfl, rfl⟩, fun q => absurd q w⟩, CV_x H 1 0 (by decide) rfl (by omega) (by omega)⟩))
  obtain ⟨fs, g⟩ := KT_kd Ka
  exact k42_5 (z4 := kd (T x.toNat)) g ⟨0, _, ⟨fun q => absurd ⟨x0, xn⟩ q, fun _ => ⟨rfl, rfl⟩⟩, CV_v H _ (by omega) (by omega)⟩
/-- THE CALL count -/
theorem u_count (H : CA h n T tx lf lp tk) : wm sw_P (D + 1) 15 [.index 1] h (qr (vi (n : Int)) h) := by
  refine wm_in (cd := sw_c15) (nL := 1) (hd := sw_h15) rfl rfl ?_
  exact k15_0 (z5 := (n : Int)) H.1.1 rfl
end
