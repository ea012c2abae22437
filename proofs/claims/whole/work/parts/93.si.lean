/-! the picture: two of one kind, at once; the reference's add, less, times, over -/
/-- a call of two things of one kind: F says what it comes to -/
def binS (cnt : Int) (T : Nat → th) (m x y : Int) (F : th → th → Sum th Int → Prop) (res : Sum th Int) : Prop :=
  (¬ (0 ≤ x ∧ x < cnt ∧ 0 ≤ y ∧ y < cnt) → res = .inr 1) ∧
  ((0 ≤ x ∧ x < cnt ∧ 0 ≤ y ∧ y < cnt) → (kd (T x.toNat) ≠ kd (T y.toNat) ∨ kd (T x.toNat) = 3 ∨ (m = 0 ∧ kd (T x.toNat) = 2)) → res = .inr 2) ∧
  ((0 ≤ x ∧ x < cnt ∧ 0 ≤ y ∧ y < cnt) → ¬ (kd (T x.toNat) ≠ kd (T y.toNat) ∨ kd (T x.toNat) = 3 ∨ (m = 0 ∧ kd (T x.toNat) = 2)) → F (T x.toNat) (T y.toNat) res)
theorem binS_bad {s : Nat → Int} {A : Nat → Nat → Int} {T : Nat → th} {m x y : Int} {F : th → th → Sum th Int → Prop} (hR : RI s A T) (q : two s A x y m ≠ 0) : binS (s 1) T m x y F (.inr (two s A x y m)) := by
  have b0 := hR.1.1
  refine ⟨fun w => ?_, fun w w2 => ?_, fun w w2 => ?_⟩
  · have : two s A x y m = 1 := if_pos w
    rw [this]
  · have ht : two s A x y m = if A 1291 x.toNat ≠ A 1291 y.toNat ∨ A 1291 x.toNat = 3 ∨ (m = 0 ∧ A 1291 x.toNat = 2) then 2 else 0 := if_neg (fun w2 => w2 w)
    rw [isT_kd (hR.2.2 x.toNat (by omega)), isT_kd (hR.2.2 y.toNat (by omega)), if_pos w2] at ht
    rw [ht]
  · have ht : two s A x y m = if A 1291 x.toNat ≠ A 1291 y.toNat ∨ A 1291 x.toNat = 3 ∨ (m = 0 ∧ A 1291 x.toNat = 2) then 2 else 0 := if_neg (fun w2 => w2 w)
    rw [isT_kd (hR.2.2 x.toNat (by omega)), isT_kd (hR.2.2 y.toNat (by omega)), if_neg w2] at ht
    exact absurd ht q
def tQ (s : Nat → Int) (A : Nat → Nat → Int) (T : Nat → th) (x y m : Int) : Term → (Nat → Int) → (Nat → Nat → Int) → Prop := fun v s1 A1 =>
  (v = vi 0 ∧ s1 = up s 0 (two s A x y m) ∧ two s A x y m ≠ 0 ∧ A1 = A) ∨ (v = vi 1 ∧ s1 = up s 0 0 ∧ ∃ f k : Nat, x = f ∧ y = k ∧ (f : Int) < s 1 ∧ (k : Int) < s 1 ∧ ¬ (kd (T f) ≠ kd (T k) ∨ kd (T f) = 3 ∨ (m = 0 ∧ kd (T f) = 2)) ∧ sm A A1 scr ∧ A1 1298 = fp A 1292 f ∧ A1 1299 = fp A 1293 f ∧ A1 1300 = fp A 1292 k ∧ A1 1301 = fp A 1293 k)
theorem cut_fin (f : zp_R) (n : Nat) : zp_fin (fun k => if k < n then f.1 k else 0) := ⟨n, fun i hi2 => if_neg (by omega)⟩
/-- the powers below n -/
def cut (f : zp_R) (n : Nat) : zp_R := ⟨fun k => if k < n then f.1 k else 0, cut_fin f n⟩
theorem cut_deg (f : zp_R) (n : Nat) : zp_deg (cut f n) n := fun i hi2 => if_neg (by omega)
theorem cut_25 (f : zp_R) : c25 f = cf (cut f 25) := by
  funext k
  unfold c25 cf
  show _ = ((if k < 25 then f.1 k else 0 : zp_F).val : Int)
  by_cases hk : k < 25
  · rw [if_pos hk, if_pos hk]
  · rw [if_neg hk, if_neg hk]; rfl
/-- what products come to -/
def timF (cnt : Int) (t u : th) (res : Sum th Int) : Prop := match t, u with
  | .inl (a, b), .inl (c, e) => ∃ N D, cn (zp_mul a c) (zp_mul b e) N D ∧ ((cnt = 150 ∨ 40 < hi N ∨ 40 < hi D) → res = .inr 3) ∧ (¬ (cnt = 150 ∨ 40 < hi N ∨ 40 < hi D) → res = .inl (th_fr N D))
  | .inr (.inl f), .inr (.inl g) => (cnt = 150 → res = .inr 3) ∧ (cnt ≠ 150 → res = .inl (th_se (cut (zp_mul f g) 25)))
  | .inr (.inr (.inl (r, c, M))), .inr (.inr (.inl (r2, c2, M2))) => (c ≠ r2 → res = .inr 2) ∧ (c = r2 → cnt = 150 → res = .inr 3) ∧ (c = r2 → cnt ≠ 150 → (∃ i j, i < r ∧ j < c2 ∧ 10 < hi (mpr M M2 i j c)) → res = .inr 3) ∧ (c = r2 → cnt ≠ 150 → ¬ (∃ i j, i < r ∧ j < c2 ∧ 10 < hi (mpr M M2 i j c)) → res = .inl (th_ma r c2 (fun i j => mpr M M2 i j c)))
  | _, _ => True
/-- what quotients come to -/
def ovF (cnt : Int) (t u : th) (res : Sum th Int) : Prop := match t, u with
  | .inl (a, b), .inl (c, e) => (c = zp_C 0 → res = .inr 3) ∧ (c ≠ zp_C 0 → ∃ N D, cn (zp_mul a e) (zp_mul b c) N D ∧ ((cnt = 150 ∨ 40 < hi N ∨ 40 < hi D) → res = .inr 4) ∧ (¬ (cnt = 150 ∨ 40 < hi N ∨ 40 < hi D) → res = .inl (th_fr N D)))
  | .inr (.inl f), .inr (.inl g) => (g.1 0 = 0 → res = .inr 3) ∧ (g.1 0 ≠ 0 → ∃ Q, qs f g Q 25 ∧ (cnt = 150 → res = .inr 4) ∧ (cnt ≠ 150 → res = .inl (th_se Q)))
  | _, _ => True
theorem ends_vi {s : Nat → Int} {A : Nat → Nat → Int} {T : Nat → th} {res : Sum th Int} {v : Term} {s' : Nat → Int} {A' : Nat → Nat → Int} (h : ends s A T res v s' A') : ∃ u : Int, v = vi u := by
  rcases res with t | u
  · exact ⟨_, h.2.1⟩
  · exact ⟨_, h.2.1⟩
section
variable {d : Nat} {h : s_H} {s : Nat → Int} {A : Nat → Nat → Int}
theorem V_two (hv : RV h s A) {T : Nat → th} (hR : RI s A T) {x y m : Int} (hx : In3 x) (hy : In3 y) (hm : m = 0 ∨ m = 1) : wm sw_P (d + 3) 401 [.index 1290, vi x, vi y, vi m] h (RA h (tQ s A T x y m)) := by
  refine wm_mono (fun out => ?_) (V_areTwo hv hR.1 hx hy hm)
  intro ⟨v, h1, s1, A1, w1, r1, ⟨e1, e2, e3⟩, eo⟩
  refine ⟨v, h1, s1, A1, w1, r1, ?_, eo⟩
  have b0 := hR.1.1
  by_cases q : two s A x y m = 0
  · obtain ⟨ev, eA⟩ := e3 q
    have hin : 0 ≤ x ∧ x < s 1 ∧ 0 ≤ y ∧ y < s 1 := by
      refine Decidable.byContradiction (fun w => ?_)
      have : two s A x y m = 1 := if_pos w
      omega
    obtain ⟨f, ef⟩ : ∃ f : Nat, x = f := ⟨x.toNat, by omega⟩
    obtain ⟨k, ek⟩ : ∃ k : Nat, y = k := ⟨y.toNat, by omega⟩
    subst ef
    subst ek
    have xf : (f : Int).toNat = f := by omega
    have yk : (k : Int).toNat = k := by omega
    refine .inr ⟨ev, by rw [e1, q], f, k, rfl, rfl, hin.2.1, hin.2.2.2, fun w => ?_, by rw [eA]; exact sm_up (sm_up (sm_up (sm_up sm_refl _ rfl) _ rfl) _ rfl) _ rfl, by rw [eA, up_ne _ _ (by decide), up_ne _ _ (by decide), up_ne _ _ (by decide), up_at, xf], by rw [eA, up_ne _ _ (by decide), up_ne _ _ (by decide), up_at, xf], by rw [eA, up_ne _ _ (by decide), up_at, yk], by rw [eA, up_at, yk]⟩
    have ht : two s A f k m = if A 1291 (f : Int).toNat ≠ A 1291 (k : Int).toNat ∨ A 1291 (f : Int).toNat = 3 ∨ (m = 0 ∧ A 1291 (f : Int).toNat = 2) then 2 else 0 := if_neg (fun w => w hin)
    rw [xf, yk, isT_kd (hR.2.2 f (by omega)), isT_kd (hR.2.2 k (by omega)), if_pos w, q] at ht
    exact absurd ht (by decide)
  · obtain ⟨ev, eA⟩ := e2 q
    exact .inl ⟨ev, e1, q, eA⟩
theorem V_add (hv : RV h s A) {T : Nat → th} (hR : RI s A T) {x y : Int} (hx : In3 x) (hy : In3 y) : wm sw_P (d + 9) 393 [.index 1290, vi x, vi y] h (RA h (fun v s' A' => ∃ res, addS (s 1) T 1 x y res ∧ ends s A T res v s' A')) := by
  refine wm_in (cd := sw_c393) (nL := 3) (hd := sw_h393) rfl rfl ?_
  refine k393_0 hv.1 (wm_mono (wq_A (fun v1 h1 s1 A1 w1 r1 φ => ?_)) (V_added hv hR hx hy (z := 1) (by decide)))
  obtain ⟨res, z1, z2⟩ := φ
  obtain ⟨u, eu⟩ := ends_vi z2
  subst eu
  exact k393_7 ⟨_, h1, s1, A1, w1, r1, ⟨res, z1, z2⟩, rfl⟩
theorem V_times (hv : RV h s A) {T : Nat → th} (hR : RI s A T) {x y : Int} (hx : In3 x) (hy : In3 y) : wm sw_P (d + 8) 607 [.index 1290, vi x, vi y] h (RA h (fun v s' A' => ∃ res, binS (s 1) T 1 x y (timF (s 1)) res ∧ ends s A T res v s' A')) := by
  refine wm_in (cd := sw_c607) (nL := 3) (hd := sw_h607) rfl rfl ?_
  have b0 := hR.1.1
  refine k607_0 hv.1 (wm_mono (wq_A (fun v1 h1 s1 A1 w1 r1 φ => ?_)) (V_two hv hR hx hy (.inr rfl)))
  rcases φ with ⟨ev, e1, q, eA⟩ | ⟨ev, e1, f, k, ef, ek, lf, lk, qk, m1, g98, g99, g00, g01⟩
  · rw [ev]
    refine k607_7 (fun w => absurd rfl w) (fun _ => k607_10 ⟨vi 0, h1, s1, A1, w1, r1, ⟨.inr (two s A x y 1), binS_bad hR q, ?_⟩, rfl⟩)
    rw [e1, eA]
    exact ⟨sm_refl, rfl, rfl, RI_sc hR sm_refl rfl⟩
  · rw [ev]
    subst ef
    subst ek
    refine k607_7 (fun _ => ?_) (fun w => absurd (by decide) w)
    have R1 := RI_sc (s' := s1) hR m1 (by rw [e1]; rfl)
    have s11 : s1 1 = s 1 := by rw [e1]; rfl
    have hf := hR.2.2 f (by omega)
    have hk := hR.2.2 k (by omega)
    have hf1 := R1.2.2 f (by omega)
    have hk1 := R1.2.2 k (by omega)
    have kf1 := isT_kd hf1
    have sp : ∀ res : Sum th Int, timF (s 1) (T f) (T k) res → binS (s 1) T 1 f k (timF (s 1)) res := fun res w => ⟨fun w2 => absurd ⟨by omega, lf, by omega, lk⟩ w2, fun _ w2 => absurd w2 qk, fun _ _ => w⟩
    have kd3 : 0 ≤ kd (T f) ∧ kd (T f) ≤ 3 := by rw [← kf1]; exact R1.1.2.1 f (by omega)
    have i3 : In3 (A1 1291 (f : Int).toNat) := by show In3 (A1 1291 f); rw [kf1]; unfold In3; omega
    have ik : A1 1291 (f : Int).toNat = kd (T f) := kf1
    refine k607_12 w1.1 (wm_mono (wq_r ?_) (V_is w1 (x := (f : Int)) (k := 2) ⟨by omega, by omega⟩ i3 (by decide)))
    rw [ik]
    have qk1 : kd (T f) = kd (T k) := Decidable.byContradiction (fun w => qk (.inl w))
    have qk2 : kd (T f) ≠ 3 := fun w => qk (.inr (.inl w))
    rcases ef1 : T f with ⟨a, b⟩ | a | ⟨r, c, M⟩ | ⟨n, so, va⟩
    · rw [ef1] at hf hf1 sp qk1
      rcases ek1 : T k with ⟨c, e⟩ | c | ⟨r, c, M⟩ | ⟨n, so, va⟩
      · rw [ek1] at hk hk1 sp
        refine k607_18 (fun _ => ?_) (fun w => absurd rfl w)
        refine k607_28 w1.1 (wm_mono (wq_r ?_) (V_is w1 (x := (f : Int)) (k := 1) ⟨by omega, by omega⟩ i3 (by decide)))
        rw [ik, ef1]
        refine k607_34 (fun _ => ?_) (fun w => absurd rfl w)
        obtain ⟨_, p1, p2, p3, p4⟩ := hf
        obtain ⟨_, p5, p6, p7, p8⟩ := hk
        have d1 := fr_deg p1
        have d2 := fr_deg p2
        have d3 := fr_deg p5
        have d4 := fr_deg p6
        refine k607_66 w1.1 (wm_mono (wq_N (fun h2 s2 A2 w2 r2 φ => ?_)) (V_productAll w1 (g98.trans p1) (g99.trans p2) (g00.trans p5) (g01.trans p6) d1 d2 d3 d4 (mo_pos p3 (deg_le d2 (by decide))) (mo_pos p7 (deg_le d4 (by decide)))))
        obtain ⟨es2, ⟨N, D, hcn, dN, dD, gN, gD⟩, m2⟩ := φ
        rw [es2] at w2
        refine k607_70 w2.1 (wm_mono (wq_A (fun v3 h3 s3 A3 w3 r3 φ => ?_)) (V_keep w2 (by rw [s11]; exact b0) gN gD))
        rw [e1] at φ
        obtain ⟨res, z1, z2, z3⟩ := ends_kQ 0 hR (sm_tr m1 (sm_sub m2 rfl)) dN dD hcn.2.2 hcn.2.1 φ
        obtain ⟨u, eu⟩ := ends_vi z3
        subst eu
        exact k607_75 ⟨_, h3, s3, A3, w3, FR_trans r1 (FR_trans r2 r3), ⟨res, sp res ⟨N, D, hcn, z1, z2⟩, z3⟩, rfl⟩
      · rw [ek1] at qk1; exact (kdn qk1 rfl).elim
      · rw [ek1] at qk1; exact (kdn qk1 rfl).elim
      · rw [ek1] at qk1; exact (kdn qk1 rfl).elim
    · rw [ef1] at hf hf1 sp qk1
      rcases ek1 : T k with ⟨c, e⟩ | c | ⟨r, c, M⟩ | ⟨n, so, va⟩
      · rw [ek1] at qk1; exact (kdn qk1 rfl).elim
      · rw [ek1] at hk hk1 sp
        refine k607_18 (fun _ => ?_) (fun w => absurd rfl w)
        refine k607_28 w1.1 (wm_mono (wq_r ?_) (V_is w1 (x := (f : Int)) (k := 1) ⟨by omega, by omega⟩ i3 (by decide)))
        rw [ik, ef1]
        refine k607_34 (fun w => (kdn w rfl).elim) (fun _ => ?_)
        obtain ⟨_, p1, p2, p3⟩ := hf
        obtain ⟨_, p5, p6, p7⟩ := hk
        refine k607_37 w1.1 (wm_mono (wq_Q (fun h2 w2 r2 => ?_)) (V_multiply w1 (p := 1298) (q := 1300) rfl rfl (by decide) (by decide) (g98.trans p1) (g00.trans p5)))
        refine k607_49 w2.1 (wm_mono (wq_Q (fun h3 w3 r3 => ?_)) (V_copy w2 (c := 1302) (e := 1304) rfl rfl (by decide)))
        refine k607_60 w3.1 (wm_mono (wq_A (fun v4 h4 s4 A4 w4 r4 φ => ?_)) (V_keepSeries w3 (by rw [s11]; exact b0) (f := zp_mul a c) (by rw [up_at, up_at])))
        rw [e1] at φ
        obtain ⟨res, z1, z2, z3⟩ := ends_ksQ 0 hR (sm_up (sm_up m1 _ rfl) _ rfl) (cut_deg (zp_mul a c) 25) (cut_25 _) φ
        obtain ⟨u, eu⟩ := ends_vi z3
        subst eu
        exact k607_65 ⟨_, h4, s4, A4, w4, FR_trans r1 (FR_trans r2 (FR_trans r3 r4)), ⟨res, sp res ⟨z1, z2⟩, z3⟩, rfl⟩
      · rw [ek1] at qk1; exact (kdn qk1 rfl).elim
      · rw [ek1] at qk1; exact (kdn qk1 rfl).elim
    · rw [ef1] at hf hf1 sp qk1
      rcases ek1 : T k with ⟨c, e⟩ | c2 | ⟨r2, c2, M2⟩ | ⟨n, so, va⟩
      · rw [ek1] at qk1; exact (kdn qk1 rfl).elim
      · rw [ek1] at qk1; exact (kdn qk1 rfl).elim
      · rw [ek1] at hk hk1 sp
        refine k607_18 (fun w => (kdn w rfl).elim) (fun _ => ?_)
        obtain ⟨_, p1, p2, p3⟩ := hf1
        obtain ⟨_, p5, p6, p7⟩ := hk1
        refine k607_21 w1.1 (wm_mono (wq_A (fun v3 h3 s3 A3 w3 r3 φ => ?_)) (V_multiplyMatrices w1 (by rw [s11]; exact b0) (by rw [s11]; omega) (by rw [s11]; omega) p1.2 p2.2 p5.2 p6.2 p3 p7 R1.2.1))
        rw [e1] at φ
        obtain ⟨y1, y2, y3, y4⟩ := φ
        by_cases q1 : c = r2
        · by_cases q2 : s 1 = 150
          · obtain ⟨y5, y6, y7⟩ := y2 q1 q2
            subst y5
            exact k607_27 ⟨_, h3, s3, A3, w3, FR_trans r1 r3, ⟨.inr 3, sp _ ⟨fun w => absurd q1 w, fun _ _ => rfl, fun _ w => absurd q2 w, fun _ w => absurd q2 w⟩, ends_bad hR m1 rfl y6 y7⟩, rfl⟩
          · by_cases q3 : ∃ i j, i < r ∧ j < c2 ∧ 10 < hi (mpr M M2 i j c)
            · obtain ⟨y5, y6, y7⟩ := y3 q1 q2 q3
              subst y5
              have em : up s 0 0 1 = (((up s 0 0 1).toNat : Nat) : Int) := by show s 1 = ((s 1).toNat : Int); omega
              have R3 := RI_inM (s' := up s 0 3) (RI_sc (s' := up s 0 0) hR m1 rfl) em rfl y7
              rw [up2] at y6
              refine k607_27 ⟨_, h3, s3, A3, w3, FR_trans r1 r3, ⟨.inr 3, sp _ ⟨fun w => absurd q1 w, fun _ w => absurd w q2, fun _ _ _ => rfl, fun _ _ w => absurd q3 w⟩, ?_⟩, rfl⟩
              exact ⟨sm_all m1 (sm_sub y7.1 rfl), rfl, y6, by rw [y6]; exact R3⟩
            · obtain ⟨y5, y6, y7⟩ := y4 q1 q2 q3
              subst y5
              exact k607_27 ⟨_, h3, s3, A3, w3, FR_trans r1 r3, ⟨.inl (th_ma r c2 (fun i j => mpr M M2 i j c)), sp _ ⟨fun w => absurd q1 w, fun _ w => absurd w q2, fun _ _ w => absurd w q3, fun _ _ _ => rfl⟩, ends_new hR m1 p1 p6 q2 rfl y6 y7⟩, rfl⟩
        · obtain ⟨y5, y6, y7⟩ := y1 q1
          subst y5
          exact k607_27 ⟨_, h3, s3, A3, w3, FR_trans r1 r3, ⟨.inr 2, sp _ ⟨fun _ => rfl, fun w => absurd w q1, fun w => absurd w q1, fun w => absurd w q1⟩, ends_bad hR m1 rfl y6 y7⟩, rfl⟩
      · rw [ek1] at qk1; exact (kdn qk1 rfl).elim
    · rw [ef1] at qk2
      exact absurd rfl qk2
end
