/-! the picture: matrices; what sums come to; the reference's sums -/
theorem RI_inM {s s' : Nat → Int} {A B : Nat → Nat → Int} {T : Nat → th} {m : Nat} {dn : Nat → Nat → Prop} {M : Nat → Nat → zp_R} (h : RI s A T) (em : s 1 = m) (es : s' 1 = s 1) (a : inM A B m dn M) : RI s' B T := by
  have a0 : B 1291 = A 1291 := a.1 1291 rfl
  have a1 : B 1292 = A 1292 := a.1 1292 rfl
  have a2 : B 1293 = A 1293 := a.1 1293 rfl
  have a3 : B 1294 = A 1294 := a.1 1294 rfl
  have a4 : B 1295 = A 1295 := a.1 1295 rfl
  refine ⟨?_, fun t ht => ?_, fun i hi2 => ?_⟩
  · unfold RB
    rw [es, a0, a1, a2]
    exact h.1
  · have := h.2.1 t ht
    have := a.2.2.1 t
    omega
  · rw [es] at hi2
    exact isT_same (h.2.2 i hi2) (by rw [a0]) (by unfold fp; rw [a1]) (by unfold fp; rw [a2]) (by rw [a3]) (by rw [a4]) (fun x y hx hy => inM_me a (by omega) hx hy) (a.1 1349 rfl) (a.1 1350 rfl) (a.1 1351 rfl)
theorem RI_newM {s s' : Nat → Int} {A A' : Nat → Nat → Int} {T : Nat → th} {m r c : Nat} {M : Nat → Nat → zp_R} (h : RI s A T) (em : s 1 = m) (hm : m < 150) (es : s' 1 = s 1 + 1) (hr : 1 ≤ r ∧ r ≤ 4) (hc : 1 ≤ c ∧ c ≤ 4) (a : newM A A' m r c M) : RI s' A' (up T m (th_ma r c M)) ∧ sm A A' (sto ++ scr) := by
  obtain ⟨B, b, rfl⟩ := a
  have hB := RI_inM (s' := s) h em rfl b
  have a0 : keptM B m r c 1291 = fun i => if i = m then 2 else B 1291 i := by unfold keptM; rw [up_ne _ _ (by decide), up_ne _ _ (by decide), up_at]
  have a3 : keptM B m r c 1294 = fun i => if i = m then (r : Int) else B 1294 i := by unfold keptM; rw [up_ne _ _ (by decide), up_at]
  have a4 : keptM B m r c 1295 = fun i => if i = m then (c : Int) else B 1295 i := by unfold keptM; rw [up_at]
  have o : ∀ j, j ≠ 1291 → j ≠ 1294 → j ≠ 1295 → keptM B m r c j = B j := fun j h1 h2 h3 => by unfold keptM; rw [up_ne _ _ h3, up_ne _ _ h2, up_ne _ _ h1]
  have a1 := o 1292 (by decide) (by decide) (by decide)
  have a2 := o 1293 (by decide) (by decide) (by decide)
  have a5 := o 1296 (by decide) (by decide) (by decide)
  refine ⟨⟨⟨by have := hB.1.1; omega, fun i hi2 => ?_, ?_, ?_⟩, ?_, fun i hi2 => ?_⟩, ?_⟩
  · rw [a0]
    show 0 ≤ (if i = m then 2 else B 1291 i) ∧ (if i = m then 2 else B 1291 i) ≤ 3
    split
    · decide
    · exact hB.1.2.1 i hi2
  · rw [a1]; exact hB.1.2.2.1
  · rw [a2]; exact hB.1.2.2.2
  · rw [a5]; exact hB.2.1
  · by_cases q : i = m
    · subst q
      rw [up_at]
      refine ⟨by rw [a0]; exact if_pos rfl, hr, hc, by rw [a3]; exact if_pos rfl, by rw [a4]; exact if_pos rfl, fun x y hx hy => ?_⟩
      rw [← b.2.2.2 x y (by omega) (by omega) ⟨hx, hy⟩]
      unfold me
      rw [a5]
    · rw [up_ne _ _ q]
      exact isT_same (hB.2.2 i (by omega)) (by rw [a0]; exact if_neg q) (by unfold fp; rw [a1]) (by unfold fp; rw [a2]) (by rw [a3]; exact if_neg q) (by rw [a4]; exact if_neg q) (fun _ _ _ _ => by unfold me; rw [a5]) (o 1349 (by decide) (by decide) (by decide)) (o 1350 (by decide) (by decide) (by decide)) (o 1351 (by decide) (by decide) (by decide))
  · exact sm_up (sm_up (sm_up (sm_sub b.1 rfl) _ rfl) _ rfl) _ rfl
theorem sm_all {A B C : Nat → Nat → Int} (a : sm A B scr) (b : sm B C (sto ++ scr)) : sm A C (sto ++ scr) := sm_tr (sm_sub a rfl) b
/-- what a matrix more comes to in the picture -/
theorem ends_new {s : Nat → Int} {A B A' : Nat → Nat → Int} {T : Nat → th} {r c : Nat} {M : Nat → Nat → zp_R} {c0 : Int} {v : Term} {s' : Nat → Int} (h : RI s A T) (m : sm A B scr) (hr : 1 ≤ r ∧ r ≤ 4) (hc : 1 ≤ c ∧ c ≤ 4) (q : s 1 ≠ 150) (e1 : v = vi (up s 0 c0 1)) (e2 : s' = up (up (up s 0 c0) 0 0) 1 (up s 0 c0 1 + 1)) (e3 : newM B A' (up s 0 c0 1).toNat r c M) : ends s A T (.inl (th_ma r c M)) v s' A' := by
  have e5 : up s 0 c0 1 = s 1 := rfl
  have e4 : up (up (up s 0 c0) 0 0) 1 (up s 0 c0 1 + 1) = up (up s 0 0) 1 (s 1 + 1) := by rw [up2]; rfl
  rw [e4] at e2
  rw [e5] at e1 e3
  have b0 := h.1.1
  have := RI_newM (s' := up (up s 0 0) 1 (s 1 + 1)) (RI_sc (s' := s) h m rfl) (show s 1 = ((s 1).toNat : Nat) by omega) (by omega) rfl hr hc e3
  rw [e1, e2]
  exact ⟨sm_all m this.2, rfl, rfl, this.1⟩
theorem ends_bad {s : Nat → Int} {A B : Nat → Nat → Int} {T : Nat → th} {c0 k : Int} {v : Term} {s' : Nat → Int} {A' : Nat → Nat → Int} (h : RI s A T) (m : sm A B scr) (e1 : v = vi 0) (e2 : s' = up (up s 0 c0) 0 k) (e3 : A' = B) : ends s A T (.inr k) v s' A' := by
  rw [e1, e2, e3, up2]
  exact ⟨sm_sub m rfl, rfl, rfl, RI_sc h m rfl⟩
/-- what sums (z = 1) and differences (z = -1) come to -/
def addS (cnt : Int) (T : Nat → th) (z x y : Int) (res : Sum th Int) : Prop :=
  (¬ (0 ≤ x ∧ x < cnt ∧ 0 ≤ y ∧ y < cnt) → res = .inr 1) ∧ ((0 ≤ x ∧ x < cnt ∧ 0 ≤ y ∧ y < cnt) →
  match T x.toNat, T y.toNat with
  | .inl (a, b), .inl (c, e) => ∃ N D, cn (zp_add (zp_mul a e) (zp_mul (zp_C (nF z)) (zp_mul c b))) (zp_mul b e) N D ∧ ((cnt = 150 ∨ 40 < hi N ∨ 40 < hi D) → res = .inr 3) ∧ (¬ (cnt = 150 ∨ 40 < hi N ∨ 40 < hi D) → res = .inl (th_fr N D))
  | .inr (.inl f), .inr (.inl g) => (cnt = 150 → res = .inr 3) ∧ (cnt ≠ 150 → res = .inl (th_se (zp_add f (zp_mul (zp_C (nF z)) g))))
  | .inr (.inr (.inl (r, c, M))), .inr (.inr (.inl (r2, c2, M2))) => ((r ≠ r2 ∨ c ≠ c2) → res = .inr 2) ∧ (r = r2 ∧ c = c2 → cnt = 150 → res = .inr 3) ∧ (r = r2 ∧ c = c2 → cnt ≠ 150 → res = .inl (th_ma r c (fun i j => zp_add (M i j) (zp_mul (zp_C (nF z)) (M2 i j)))))
  | _, _ => res = .inr 2)
def kd : th → Int
  | .inl _ => 0
  | .inr (.inl _) => 1
  | .inr (.inr (.inl _)) => 2
  | .inr (.inr (.inr _)) => 3
theorem isT_kd {A : Nat → Nat → Int} {i : Nat} {t : th} (h : isT A i t) : A 1291 i = kd t := by
  rcases t with ⟨N, D⟩ | f | ⟨r, c, M⟩ | ⟨n, so, va⟩
  · exact h.1
  · exact h.1
  · exact h.1
  · exact h.1
theorem kdn {a b : Int} (h : a = b) (hd : decide (a = b) = false) : False := of_decide_eq_false hd h
theorem fr_deg {A : Nat → Nat → Int} {c i : Nat} {f : zp_R} (h : fp A c i = cf f) : zp_deg f 41 := fun k hk => cf_0 (by rw [← h]; exact if_neg (by omega))
theorem mo_pos {D : zp_R} (h : mo D) (hd : zp_deg D 176) : 0 ≤ hi D := (mo_hi h hd).1
theorem c25_cf {f : zp_R} (hd : zp_deg f 25) : c25 f = cf f := by
  funext k
  unfold c25
  by_cases hk : k < 25
  · rw [if_pos hk]
  · rw [if_neg hk]
    unfold cf
    rw [hd k (by omega)]; rfl
section
variable {d : Nat} {h : s_H} {s : Nat → Int} {A : Nat → Nat → Int}
theorem V_added (hv : RV h s A) {T : Nat → th} (hR : RI s A T) {x y z : Int} (hx : In3 x) (hy : In3 y) (hz : In6 z) : wm sw_P (d + 8) 395 [.index 1290, vi x, vi y, vl z] h (RA h (fun v s' A' => ∃ res, addS (s 1) T z x y res ∧ ends s A T res v s' A')) := by
  refine wm_in (cd := sw_c395) (nL := 5) (hd := sw_h395) rfl rfl ?_
  have b0 := hR.1.1
  refine k395_0 hv.1 (wm_mono (wq_A (fun v1 h1 s1 A1 w1 r1 φ => ?_)) (V_areTwo hv hR.1 hx hy (.inr rfl)))
  obtain ⟨e1, e2, e3⟩ := φ
  by_cases q : two s A x y 1 = 0
  · obtain ⟨ev, eA⟩ := e3 q
    rw [q] at e1
    rw [ev]
    refine k395_7 (fun _ => ?_) (fun w => absurd (by decide) w)
    have hin : 0 ≤ x ∧ x < s 1 ∧ 0 ≤ y ∧ y < s 1 := by
      refine Decidable.byContradiction (fun w => ?_)
      have : two s A x y 1 = 1 := if_pos w
      omega
    have m1 : sm A A1 scr := by rw [eA]; exact sm_up (sm_up (sm_up (sm_up sm_refl _ rfl) _ rfl) _ rfl) _ rfl
    have R1 := RI_sc (s' := s1) hR m1 (by rw [e1]; rfl)
    have s11 : s1 1 = s 1 := by rw [e1]; rfl
    obtain ⟨f, ef⟩ : ∃ f : Nat, x = f := ⟨x.toNat, by omega⟩
    obtain ⟨k, ek⟩ : ∃ k : Nat, y = k := ⟨y.toNat, by omega⟩
    subst ef
    subst ek
    have hf := hR.2.2 f (by omega)
    have hk := hR.2.2 k (by omega)
    have hf1 := R1.2.2 f (by omega)
    have hk1 := R1.2.2 k (by omega)
    have kf := isT_kd hf
    have kk := isT_kd hk
    have kf1 := isT_kd hf1
    have xf : (f : Int).toNat = f := by omega
    have yk : (k : Int).toNat = k := by omega
    have g98 : A1 1298 = fp A 1292 f := by rw [eA, up_ne _ _ (by decide), up_ne _ _ (by decide), up_ne _ _ (by decide), up_at, xf]
    have g99 : A1 1299 = fp A 1293 f := by rw [eA, up_ne _ _ (by decide), up_ne _ _ (by decide), up_at, xf]
    have g00 : A1 1300 = fp A 1292 k := by rw [eA, up_ne _ _ (by decide), up_at, yk]
    have g01 : A1 1301 = fp A 1293 k := by rw [eA, up_at, yk]
    have qk : kd (T f) = kd (T k) ∧ kd (T f) ≠ 3 := by
      have : two s A f k 1 = if A 1291 (f : Int).toNat ≠ A 1291 (k : Int).toNat ∨ A 1291 (f : Int).toNat = 3 ∨ ((1 : Int) = 0 ∧ A 1291 (f : Int).toNat = 2) then 2 else 0 := if_neg (fun w => w hin)
      rw [this, xf, yk, kf, kk] at q
      refine ⟨Decidable.byContradiction (fun w => ?_), fun w => ?_⟩
      · rw [if_pos (.inl w)] at q; exact absurd q (by decide)
      · rw [if_pos (.inr (.inl w))] at q; exact absurd q (by decide)
    have sp : ∀ res : Sum th Int, (match T f, T k with
      | .inl (a, b), .inl (c, e) => ∃ N D, cn (zp_add (zp_mul a e) (zp_mul (zp_C (nF z)) (zp_mul c b))) (zp_mul b e) N D ∧ ((s 1 = 150 ∨ 40 < hi N ∨ 40 < hi D) → res = .inr 3) ∧ (¬ (s 1 = 150 ∨ 40 < hi N ∨ 40 < hi D) → res = .inl (th_fr N D))
      | .inr (.inl f), .inr (.inl g) => (s 1 = 150 → res = .inr 3) ∧ (s 1 ≠ 150 → res = .inl (th_se (zp_add f (zp_mul (zp_C (nF z)) g))))
      | .inr (.inr (.inl (r, c, M))), .inr (.inr (.inl (r2, c2, M2))) => ((r ≠ r2 ∨ c ≠ c2) → res = .inr 2) ∧ (r = r2 ∧ c = c2 → s 1 = 150 → res = .inr 3) ∧ (r = r2 ∧ c = c2 → s 1 ≠ 150 → res = .inl (th_ma r c (fun i j => zp_add (M i j) (zp_mul (zp_C (nF z)) (M2 i j)))))
      | _, _ => res = .inr 2) → addS (s 1) T z f k res := fun res w => ⟨fun w2 => absurd hin w2, fun _ => by rw [xf, yk]; exact w⟩
    have kd3 : 0 ≤ kd (T f) ∧ kd (T f) ≤ 3 := by rw [← kf]; exact hR.1.2.1 f (by omega)
    have i3 : In3 (A1 1291 (f : Int).toNat) := by show In3 (A1 1291 f); rw [kf1]; unfold In3; omega
    have ik : A1 1291 (f : Int).toNat = kd (T f) := kf1
    refine k395_12 w1.1 (wm_mono (wq_r ?_) (V_is w1 (x := (f : Int)) (k := 2) ⟨by omega, by omega⟩ i3 (by decide)))
    rw [ik]
    rcases ef1 : T f with ⟨a, b⟩ | a | ⟨r, c, M⟩ | ⟨n, so, va⟩
    · rw [ef1] at hf hf1 sp qk
      rcases ek1 : T k with ⟨c, e⟩ | c | ⟨r, c, M⟩ | ⟨n, so, va⟩
      · rw [ek1] at hk hk1 sp
        refine k395_18 (fun _ => ?_) (fun w => absurd rfl w)
        refine k395_29 w1.1 (wm_mono (wq_r ?_) (V_is w1 (x := (f : Int)) (k := 1) ⟨by omega, by omega⟩ i3 (by decide)))
        rw [ik, ef1]
        refine k395_35 (fun _ => ?_) (fun w => absurd rfl w)
        obtain ⟨_, p1, p2, p3, p4⟩ := hf
        obtain ⟨_, p5, p6, p7, p8⟩ := hk
        have d1 := fr_deg p1
        have d2 := fr_deg p2
        have d3 := fr_deg p5
        have d4 := fr_deg p6
        refine k395_67 w1.1 (wm_mono (wq_N (fun h2 s2 A2 w2 r2 φ => ?_)) (V_sumAll w1 (g98.trans p1) (g99.trans p2) (g00.trans p5) (g01.trans p6) d1 d2 d3 d4 (mo_pos p3 (deg_le d2 (by decide))) (mo_pos p7 (deg_le d4 (by decide))) hz))
        obtain ⟨es2, ⟨N, D, hcn, dN, dD, gN, gD⟩, m2⟩ := φ
        rw [es2] at w2
        refine k395_72 w2.1 (wm_mono (wq_A (fun v3 h3 s3 A3 w3 r3 φ => ?_)) (V_keep w2 (by rw [s11]; exact b0) gN gD))
        rw [e1] at φ
        obtain ⟨res, z1, z2, z3⟩ := ends_kQ 0 hR (sm_tr m1 (sm_sub m2 rfl)) dN dD hcn.2.2 hcn.2.1 φ
        have fin : ∃ u : Int, v3 = vi u := by
          rcases res with t | u
          · exact ⟨_, z3.2.1⟩
          · exact ⟨_, z3.2.1⟩
        obtain ⟨u, eu⟩ := fin
        subst eu
        exact k395_77 ⟨_, h3, s3, A3, w3, FR_trans r1 (FR_trans r2 r3), ⟨res, sp res ⟨N, D, hcn, z1, z2⟩, z3⟩, rfl⟩
      · rw [ek1] at qk; exact (kdn qk.1 rfl).elim
      · rw [ek1] at qk; exact (kdn qk.1 rfl).elim
      · rw [ek1] at qk; exact (kdn qk.1 rfl).elim
    · rw [ef1] at hf hf1 sp qk
      rcases ek1 : T k with ⟨c, e⟩ | c | ⟨r, c, M⟩ | ⟨n, so, va⟩
      · rw [ek1] at qk; exact (kdn qk.1 rfl).elim
      · rw [ek1] at hk hk1 sp
        refine k395_18 (fun _ => ?_) (fun w => absurd rfl w)
        refine k395_29 w1.1 (wm_mono (wq_r ?_) (V_is w1 (x := (f : Int)) (k := 1) ⟨by omega, by omega⟩ i3 (by decide)))
        rw [ik, ef1]
        refine k395_35 (fun w => (kdn w rfl).elim) (fun _ => ?_)
        obtain ⟨_, p1, p2, p3⟩ := hf
        obtain ⟨_, p5, p6, p7⟩ := hk
        refine k395_38 w1.1 (wm_mono (wq_Q (fun h2 w2 r2 => ?_)) (V_copy w1 (c := 1302) (e := 1298) rfl rfl (by decide)))
        refine k395_49 w2.1 (wm_mono (wq_Q (fun h3 w3 r3 => ?_)) (V_more w2 (c := 1302) (e := 1300) rfl rfl (by decide) (f := a) (g := c) (by rw [up_at]; exact g98.trans p1) (by rw [up_ne _ _ (by decide)]; exact g00.trans p5) hz))
        refine k395_61 w3.1 (wm_mono (wq_A (fun v4 h4 s4 A4 w4 r4 φ => ?_)) (V_keepSeries w3 (by rw [s11]; exact b0) (up_at _ _ _)))
        rw [e1] at φ
        have d25 := deg_add p3 (deg_Cm (nF z) p7)
        obtain ⟨res, z1, z2, z3⟩ := ends_ksQ 0 hR (sm_up (sm_up m1 _ rfl) _ rfl) d25 (c25_cf d25) φ
        have fin : ∃ u : Int, v4 = vi u := by
          rcases res with t | u
          · exact ⟨_, z3.2.1⟩
          · exact ⟨_, z3.2.1⟩
        obtain ⟨u, eu⟩ := fin
        subst eu
        exact k395_66 ⟨_, h4, s4, A4, w4, FR_trans r1 (FR_trans r2 (FR_trans r3 r4)), ⟨res, sp res ⟨z1, z2⟩, z3⟩, rfl⟩
      · rw [ek1] at qk; exact (kdn qk.1 rfl).elim
      · rw [ek1] at qk; exact (kdn qk.1 rfl).elim
    · rw [ef1] at hf hf1 sp qk
      rcases ek1 : T k with ⟨c, e⟩ | c2 | ⟨r2, c2, M2⟩ | ⟨n, so, va⟩
      · rw [ek1] at qk; exact (kdn qk.1 rfl).elim
      · rw [ek1] at qk; exact (kdn qk.1 rfl).elim
      · rw [ek1] at hk hk1 sp
        refine k395_18 (fun w => (kdn w rfl).elim) (fun _ => ?_)
        obtain ⟨_, p1, p2, p3⟩ := hf1
        obtain ⟨_, p5, p6, p7⟩ := hk1
        refine k395_21 w1.1 (wm_mono (wq_A (fun v3 h3 s3 A3 w3 r3 φ => ?_)) (V_addMatrices w1 (by rw [s11]; exact b0) (by rw [s11]; omega) (by rw [s11]; omega) p1.2 p2.2 p5.2 p6.2 p3 p7 R1.2.1 hz))
        rw [e1] at φ
        obtain ⟨y1, y2, y3⟩ := φ
        by_cases q1 : r = r2 ∧ c = c2
        · by_cases q2 : s 1 = 150
          · obtain ⟨y4, y5, y6⟩ := y2 q1 q2
            subst y4
            exact k395_28 ⟨_, h3, s3, A3, w3, FR_trans r1 r3, ⟨.inr 3, sp _ ⟨fun w => absurd q1 (by omega), fun _ _ => rfl, fun _ w => absurd q2 w⟩, ends_bad hR m1 rfl y5 y6⟩, rfl⟩
          · obtain ⟨y4, y5, y6⟩ := y3 q1 q2
            subst y4
            exact k395_28 ⟨_, h3, s3, A3, w3, FR_trans r1 r3, ⟨.inl (th_ma r c (fun i j => zp_add (M i j) (zp_mul (zp_C (nF z)) (M2 i j)))), sp _ ⟨fun w => absurd q1 (by omega), fun _ w => absurd w q2, fun _ _ => rfl⟩, ends_new hR m1 p1 p2 q2 rfl y5 y6⟩, rfl⟩
        · obtain ⟨y4, y5, y6⟩ := y1 (by omega)
          subst y4
          exact k395_28 ⟨_, h3, s3, A3, w3, FR_trans r1 r3, ⟨.inr 2, sp _ ⟨fun _ => rfl, fun w => absurd w q1, fun w => absurd w q1⟩, ends_bad hR m1 rfl y5 y6⟩, rfl⟩
      · rw [ek1] at qk; exact (kdn qk.1 rfl).elim
    · rw [ef1] at qk
      exact absurd rfl qk.2
  · obtain ⟨ev, eA⟩ := e2 q
    rw [ev]
    refine k395_7 (fun w => absurd rfl w) (fun _ => k395_10 ⟨vi 0, h1, s1, A1, w1, r1, ⟨.inr (two s A x y 1), ?_, ?_⟩, rfl⟩)
    · refine ⟨fun w => ?_, fun w => ?_⟩
      · have : two s A x y 1 = 1 := if_pos w
        rw [this]
      · have ht : two s A x y 1 = if A 1291 x.toNat ≠ A 1291 y.toNat ∨ A 1291 x.toNat = 3 ∨ ((1 : Int) = 0 ∧ A 1291 x.toNat = 2) then 2 else 0 := if_neg (fun w2 => w2 w)
        have kf := isT_kd (hR.2.2 x.toNat (by omega))
        have kk := isT_kd (hR.2.2 y.toNat (by omega))
        rw [kf, kk] at ht
        revert ht
        generalize T x.toNat = tx
        generalize T y.toNat = ty
        intro ht
        rcases tx with ⟨a, b⟩ | a | ⟨r, c, M⟩ | ⟨n, so, va⟩ <;> rcases ty with ⟨a2, b2⟩ | a2 | ⟨r2, c2, M2⟩ | ⟨n2, so2, va2⟩ <;> first | exact absurd (ht.trans (rfl : _ = (0 : Int))) q | exact congrArg Sum.inr (ht.trans (rfl : _ = (2 : Int)))
    · rw [e1, eA]
      exact ⟨sm_refl, rfl, rfl, RI_sc hR sm_refl rfl⟩
end
