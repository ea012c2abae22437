/-! the class: the calls derive, put, value, common, divided, combined -/
theorem fil_z {p b : zp_R} {m : Nat} (dp : zp_deg p (m + 1)) (db : zp_deg b 1) (hv : zp_ev (b.1 0) p = 0) : fil p b (zp_C 1) m (m + 1) = zp_C 0 := by
  have e1 := fil_ev (p := p) (b := b) (e := zp_C 1) (m := m) 0 (zp_ev_C 0 1) (m + 1) (Nat.le_refl _)
  have e2 : zp_ev 0 b = b.1 0 := by
    rw [zp_ev_eq 0 db]
    show 0 + b.1 0 * (0 : zp_F) ^ 0 = b.1 0
    rw [zp_pow_zero]
    exact @fil_c.fl_h12 zp_F _ _
  have d1 : zp_deg (fil p b (zp_C 1) m (m + 1)) 1 := by
    have := fil_deg (p := p) (m := m) (b := b) (e := zp_C 1) (H := 0) db (zp_C_deg 1) m
    rw [Nat.zero_mul] at this
    exact this
  have e3 : zp_ev 0 (fil p b (zp_C 1) m (m + 1)) = (fil p b (zp_C 1) m (m + 1)).1 0 := by
    rw [zp_ev_eq 0 d1]
    show 0 + (fil p b (zp_C 1) m (m + 1)).1 0 * (0 : zp_F) ^ 0 = _
    rw [zp_pow_zero]
    exact @fil_c.fl_h12 zp_F _ _
  have e4 : (fil p b (zp_C 1) m (m + 1)).1 0 = 0 := by
    rw [← e3, e1, e2, ← hv, zp_ev_eq (b.1 0) dp]
    refine zp_sum_congr (fun i _ => ?_)
    rw [show m + 1 - (m + 1) + i = i by omega]
  refine zp_ext (fun i => ?_)
  rw [zp_C00]
  by_cases q : i = 0
  · rw [q, e4]
  · exact d1 i (by omega)
/-- an answer that is a number, or a code -/
def CV (a b g : Nat) (l : List Nat) (h : s_H) (n : Nat) (T : Nat → th) (tx lf lp tk : Int) (c v : Int) : s_O → Prop := fun out => ∃ h' kc ks, kc ≤ a ∧ ks ≤ b ∧ CF PA h h' ∧ h'.1 ≤ h.1 + g ∧ CA h' n T tx lf lp tk ∧ ((c = 0 ∧ out = (.inl (some (vi v)), h', kc, ks)) ∨ (c ≠ 0 ∧ out = (.inr (exl l c), h', kc, ks)))
section
variable {D : Nat} {h : s_H} {n : Nat} {T : Nat → th} {tx lf lp tk : Int}
theorem CV_x {a b g : Nat} {l : List Nat} (H : CA h n T tx lf lp tk) (c v : Int) (c0 : c ≠ 0) {e : Nat} (ek : exl l c = e) {x y : Nat} (hx : x ≤ a) (hy : y ≤ b) : CV a b g l h n T tx lf lp tk c v (.inr e, h, x, y) := ⟨h, x, y, hx, hy, CF_refl _ _, by omega, H, .inr ⟨c0, by rw [ek]⟩⟩
theorem CV_v {a b g : Nat} {l : List Nat} (H : CA h n T tx lf lp tk) (v : Int) {x y : Nat} (hx : x ≤ a) (hy : y ≤ b) : CV a b g l h n T tx lf lp tk 0 v (.inl (some (vi v)), h, x, y) := ⟨h, x, y, hx, hy, CF_refl _ _, by omega, H, .inl ⟨rfl, rfl⟩⟩
theorem unS_1 {ok : Int → Prop} {x : Int} {F : th → Sum th Int → Prop} (w : ¬ (0 ≤ x ∧ x < (n : Int))) : unS n T ok x F (.inr 1) := ⟨fun _ => rfl, fun q => absurd q w, fun q => absurd q w⟩
theorem unS_2 {ok : Int → Prop} {x : Int} {F : th → Sum th Int → Prop} (x0 : 0 ≤ x ∧ x < (n : Int)) (w : ¬ ok (kd (T x.toNat))) : unS n T ok x F (.inr 2) := ⟨fun q => absurd x0 q, fun _ _ => rfl, fun _ q => absurd q w⟩
theorem unS_3 {ok : Int → Prop} {x : Int} {F : th → Sum th Int → Prop} {res : Sum th Int} (x0 : 0 ≤ x ∧ x < (n : Int)) (w : ok (kd (T x.toNat))) (f : F (T x.toNat) res) : unS n T ok x F res := ⟨fun q => absurd x0 q, fun _ q => absurd w q, fun _ _ => f⟩
/-- THE CALL derive -/
theorem u_derive (H : CA h n T tx lf lp tk) (rm : RM h 100) {x : Int} (hx : In3 x) : wm sw_P (D + 5) 17 [.index 1, vi x] h (fun out => ∃ res, unS n T (fun k => k ≠ 2 ∧ k ≠ 3) x (derF n) res ∧ CE 100 4000 100 [3, 1, 0] h n T tx lf lp tk res out) := by
  refine wm_in (cd := sw_c17) (nL := 3) (hd := sw_h17) rfl rfl ?_
  have lo := H.1.2
  obtain ⟨_, _, A, _, _, ⟨z, o1⟩, _⟩ := id H
  refine k17_0 H.1.1 (r_thing H hx (fun a x0 xn ka Ka => ?_) (fun w => CE_x H 1 rfl (unS_1 w) (by omega) (by omega)))
  have u2 := fun w => unS_2 (n := n) (T := T) (ok := fun k => k ≠ 2 ∧ k ≠ 3) (F := derF n) ⟨x0, xn⟩ w
  have u3 := fun res w f => unS_3 (n := n) (T := T) (ok := fun k => k ≠ 2 ∧ k ≠ 3) (F := derF n) (res := res) ⟨x0, xn⟩ w f
  obtain ⟨t, et⟩ : ∃ t, T x.toNat = t := ⟨_, rfl⟩
  rw [et] at Ka u2 u3
  clear et
  rcases t with ⟨N1, D1⟩ | f | ⟨r, w, M⟩ | ⟨n1, so, va⟩
  · obtain ⟨ta, dN, dD, mD, _⟩ := KT_T Ka ka
    obtain ⟨_, _, _, _, ga, _⟩ := id Ka
    refine k17_5 (z5 := 0) ga (fun _ => k17_26 (r_kind Ka (by decide) (fun _ => ?_) (fun w => absurd rfl w))) (fun w => absurd (by decide) w) (c7 := by decide)
    have e40 : ∀ {f : zp_R}, zp_deg f 41 → zp_deg f 91 := fun df => deg_le df (by decide)
    refine k17_31 H.1.1 A.1 (wm_mono (wq_AV (fun h1 S1 F1 A1 => ?_)) (u_slopeOf A (by decide) ta o1 (by decide) (e40 dN) (e40 dD) (mo_0 mD)))
    obtain ⟨H1, C1', e1⟩ := CA_res H F1 A1 (setS_OE S1)
    have G0 : zp_mul D1 D1 ≠ zp_C 0 := mulN0 (mo_0 mD) (mo_0 mD)
    have d81 : ∀ {f g : zp_R}, zp_deg f 41 → zp_deg g 41 → zp_deg (zp_mul f g) 176 := fun df dg => deg_le (zp_deg_mul (n := 40) (m := 40) df dg) (by decide)
    refine k17_44 H1.1.1 (wm_mono (fun out => ?_) (u_keepSet H1 (RM_A rm C1' lo (by omega)) S1 (by decide) (by omega) G0 (deg_add (d81 (Dn_deg dN) dD) (deg_Cm _ (d81 dN (Dn_deg dD)))) (d81 dD dD) (bad := 3) (l := [3, 1, 0]) rfl))
    intro ⟨res, ⟨N, Dn, cc, fk⟩, r2⟩
    refine wq_CE (fun v h' x y q => k17_47 q) C1' (by omega) (by omega) (by omega) (fun out c => ⟨res, u3 res ⟨by simp [kd], by simp [kd]⟩ ⟨N, Dn, ?_, fk⟩, c⟩) out r2
    have es : slT 1 N1 D1 = zp_add (zp_mul (zp_D N1) D1) (zp_mul (zp_C (nF (-1))) (zp_mul (zp_D D1) N1)) := by
      unfold slT
      rw [show nF (32003 - 1) = nF (-1) by decide +kernel]
      exact congrArg (fun g => zp_add (zp_mul (zp_D N1) D1) (zp_mul (zp_C (nF (-1))) g)) (@zp_h20 zp_R zp_ring N1 (zp_D D1))
    rw [← es]
    exact cc
  · obtain ⟨p, ga, kp1, gp, dp⟩ := id Ka
    refine k17_5 (z5 := 1) ga (fun w => absurd rfl w) (fun _ => ?_) (c7 := by decide)
    refine k17_14 ga (wm_mono (wq_SN (fun h1 a' R eR dR F1 e1 l1 S1 => ?_)) (u_slopeS (RM_le rm (by omega)) (by omega) (a := p) (f := f) ⟨gp, by have := kp1.1; omega, kp1.2⟩ dp))
    have H1 := CA_G H F1
    refine k17_22 H1.1.1 (wm_mono (fun out => ?_) (u_keepSeries H1 (RM_N rm F1 (by omega)) ⟨by omega, S1.2.2⟩ S1.1 dR (bad := 3) (l := [3, 1, 0]) rfl))
    intro ⟨res, r1, r2, r3⟩
    rw [eR] at r2
    exact wq_CE (fun v h' x y q => k17_25 q) (CF_NA F1) (by omega) (by omega) (by omega) (fun out c => ⟨res, u3 res ⟨by simp [kd], by simp [kd]⟩ ⟨r1, r2⟩, c⟩) out r3
  · obtain ⟨_, ga⟩ := KT_ce Ka
    exact k17_5 (z5 := 2) ga (fun _ => k17_26 (r_kind Ka (by decide) (fun w => absurd w (by first | (simp [kd]; done) | decide)) (fun _ => CE_x H 2 rfl (u2 (fun w => w.1 rfl)) (by omega) (by omega)))) (fun w => absurd (by decide) w) (c7 := by decide)
  · obtain ⟨_, ga, _⟩ := id Ka
    exact k17_5 (z5 := 3) ga (fun _ => k17_26 (r_kind Ka (by decide) (fun w => absurd w (by first | (simp [kd]; done) | decide)) (fun _ => CE_x H 2 rfl (u2 (fun w => w.2 rfl)) (by omega) (by omega)))) (fun w => absurd (by decide) w) (c7 := by decide)
/-- THE CALL put -/
theorem u_put (H : CA h n T tx lf lp tk) (rm : RM h 100) {x y : Int} (hx : In3 x) (hy : In3 y) : wm sw_P (D + 5) 71 [.index 1, vi x, vi y] h (fun out => ∃ res, binS n T 0 x y (putF n) res ∧ CE 100 4000 100 [3, 1, 2, 0] h n T tx lf lp tk res out) := by
  refine wm_in (cd := sw_c71) (nL := 5) (hd := sw_h71) rfl rfl ?_
  have lo := H.1.2
  obtain ⟨_, _, A, _, _, ⟨z, o1⟩, _⟩ := id H
  have bad : ∀ {c : Prop}, ¬ c → (c = (0 ≤ x ∧ x < n) ∨ c = (0 ≤ y ∧ y < n)) → binS n T 0 x y (putF n) (.inr 1) := fun {c} nc w => by
    have no : ¬ (0 ≤ x ∧ x < n ∧ 0 ≤ y ∧ y < n) := fun q => by
      rcases w with w | w
      · rw [w] at nc; exact absurd ⟨q.1, q.2.1⟩ nc
      · rw [w] at nc; exact absurd ⟨q.2.2.1, q.2.2.2⟩ nc
    exact ⟨fun _ => rfl, fun q => absurd q no, fun q => absurd q no⟩
  refine k71_0 H.1.1 (r_thing H hx (fun a x0 xn ka Ka => ?_) (fun w => CE_x H 1 rfl (bad w (.inl rfl)) (by omega) (by omega)))
  refine k71_5 H.1.1 (r_thing H hy (fun b y0 yn kb Kb => ?_) (fun w => CE_x H 1 rfl (bad w (.inr rfl)) (by omega) (by omega)))
  have b0 : 0 ≤ x ∧ x < n ∧ 0 ≤ y ∧ y < n := ⟨x0, xn, y0, yn⟩
  have sp : ∀ res, (kd (T x.toNat) ≠ kd (T y.toNat) ∨ kd (T x.toNat) = 3 ∨ kd (T x.toNat) = 2 → res = .inr 2) → (¬ (kd (T x.toNat) ≠ kd (T y.toNat) ∨ kd (T x.toNat) = 3 ∨ kd (T x.toNat) = 2) → putF n (T x.toNat) (T y.toNat) res) → binS n T 0 x y (putF n) res := fun res w1 w2 => ⟨fun q => absurd b0 q, fun _ q => w1 (by
    rcases q with q | q | q
    · exact .inl q
    · exact .inr (.inl q)
    · exact .inr (.inr q.2)), fun _ q => w2 (fun q2 => q (by
    rcases q2 with q2 | q2 | q2
    · exact .inl q2
    · exact .inr (.inl q2)
    · exact .inr (.inr ⟨rfl, q2⟩)))⟩
  obtain ⟨t, et⟩ : ∃ t, T x.toNat = t := ⟨_, rfl⟩
  obtain ⟨u, eu⟩ : ∃ u, T y.toNat = u := ⟨_, rfl⟩
  rw [et] at Ka
  rw [eu] at Kb
  rw [et, eu] at sp
  clear et eu
  have bt := kd_b t
  obtain ⟨fs, ga⟩ := KT_kd Ka
  refine k71_11 (z6 := kd t) ga (r_kind Kb (by unfold In3; omega) (fun e => ?_) (fun e => CE_x H 2 rfl (sp _ (fun _ => rfl) (fun q => absurd (.inl (fun w => e w.symm)) q)) (by omega) (by omega)))
  have no : kd t ≠ 1 → kd t ≠ 0 → wr sw_P (D + 4) sw_c71 sw_h71 (22, [.index 1, vi x, vi y, .index a, .index b], [], h, 0, 0) (fun out => ∃ res, binS n T 0 x y (putF n) res ∧ CE 100 4000 100 [3, 1, 2, 0] h n T tx lf lp tk res out) := fun n1 n0 => by
    have q : kd t ≠ kd u ∨ kd t = 3 ∨ kd t = 2 := by omega
    refine k71_22 (z5 := kd t) ga (fun _ => k71_65 (r_kind Ka (by decide) (fun w => absurd w n0) (fun _ => CE_x H 2 rfl (sp _ (fun _ => rfl) (fun q2 => absurd q q2)) (by omega) (by omega)))) (fun w => absurd n1 w) (c7 := by unfold In3; omega)
  rcases t with ⟨N1, D1⟩ | f | ⟨r, w, M⟩ | ⟨n1, so, va⟩ <;> rcases u with ⟨N2, D2⟩ | g | ⟨r2, w2, M2⟩ | ⟨n2, so2, va2⟩
  · obtain ⟨ta, dN, dD, mD, cND⟩ := KT_T Ka ka
    obtain ⟨tb, dN2, dD2, mD2, cND2⟩ := KT_T Kb kb
    obtain ⟨_, _, _, _, _, _, _, ⟨e1, _, _, be1, _⟩, ⟨f1, _, _, bf1, _⟩, _⟩ := id Ka
    obtain ⟨_, _, _, _, _, _, _, ⟨e2, _, _, be2, _⟩, ⟨f2, _, _, bf2, _⟩, _⟩ := id Kb
    have e141 : e1 < 41 := fD dN (by omega) e1 be1
    have f141 : f1 < 41 := fD dD (by omega) f1 bf1
    have e241 : e2 < 41 := fD dN2 (by omega) e2 be2
    have f241 : f2 < 41 := fD dD2 (by omega) f2 bf2
    have f10 : 0 ≤ f1 := Int.not_lt.mp (fun q => mo_0 mD (dgp_0 bf1 q))
    have f20 : 0 ≤ f2 := Int.not_lt.mp (fun q => mo_0 mD2 (dgp_0 bf2 q))
    have dN6 := deg_le dN (show 41 ≤ 176 by decide)
    have dD6 := deg_le dD (show 41 ≤ 176 by decide)
    have dN26 := deg_le dN2 (show 41 ≤ 176 by decide)
    have dD26 := deg_le dD2 (show 41 ≤ 176 by decide)
    have eg := gd_dgp be1 bf1 dN6 dD6 f10 (by omega) (by omega)
    have eg2 := gd_dgp be2 bf2 dN26 dD26 f20 (by omega) (by omega)
    obtain ⟨m, em⟩ : ∃ m : Nat, ((if e1 ≤ f1 then f1 else e1) : Int) = m := ⟨(if e1 ≤ f1 then f1 else e1).toNat, by split <;> omega⟩
    obtain ⟨Hh, eH⟩ : ∃ Hh : Nat, ((if e2 ≤ f2 then f2 else e2) : Int) = Hh := ⟨(if e2 ≤ f2 then f2 else e2).toNat, by split <;> omega⟩
    have gm : gd N1 D1 = m := eg.symm.trans em
    have gH : gd N2 D2 = Hh := eg2.symm.trans eH
    have m40 : m ≤ 40 := by split at em <;> omega
    have H40 : Hh ≤ 40 := by split at eH <;> omega
    have hf1 := dgp_of bf1 (by omega)
    have fm : f1 ≤ m := by split at em <;> omega
    have e1m : e1 ≤ m := by split at em <;> omega
    have f2H : f2 ≤ Hh := by split at eH <;> omega
    have e2H : e2 ≤ Hh := by split at eH <;> omega
    have mul : ((m * Hh : Nat) : Int) = (m : Int) * (Hh : Int) := Int.natCast_mul _ _
    refine k71_22 (z5 := 0) ga (fun _ => ?_) (fun w => absurd (by decide) w) (c7 := by decide)
    refine k71_65 (r_kind Ka (by decide) (fun _ => ?_) (fun w => absurd rfl w))
    refine k71_70 H.1.1 A.1 (wm_mono (wq_AV (fun h1 S1 F1 A1 => ?_)) (u_insert A (by decide) ta tb o1 (by decide) be1 bf1 be2 bf2 em eH (by omega) (by omega)))
    have sp2 : ∀ res, putF n (.inl (N1, D1)) (.inl (N2, D2)) res → binS n T 0 x y (putF n) res := fun res w => sp res (fun q => absurd q (by first | (simp [kd]; done) | decide)) (fun _ => w)
    -- a constant with no value below
    have zer : (gd N2 D2 < 1 ∧ zp_ev (N2.1 0) D1 = 0) ↔ (m * Hh ≤ 40 ∧ fil D1 N2 D2 m (m + 1) = zp_C 0) := by
      refine ⟨fun ⟨q1, q2⟩ => ?_, fun ⟨q1, q2⟩ => ?_⟩
      · have H0 : Hh = 0 := by omega
        subst H0
        have eD : D2 = zp_C 1 := mo_1 mD2 dD26 (by rw [dgp_of bf2 (by omega)]; omega)
        subst eD
        exact ⟨by omega, fil_z (dgp_deg bf1 (by omega)) (dgp_deg be2 (by omega)) q2⟩
      · by_cases w : 1 ≤ gd N2 D2 ∨ zp_ev (N2.1 0) D1 ≠ 0
        · exact absurd q2 (fil_ne mD dD6 (by omega) mD2 cND2 dN26 dD26 w)
        · exact ⟨by omega, Classical.byContradiction (fun q => w (.inr q))⟩
    by_cases big : 40 < m * Hh
    · have O5 := S1.1 big
      obtain ⟨H1, C1', e1'⟩ := CA_res H F1 A1 ⟨5, O5⟩
      refine k71_85 H1.1.1 (wm_mono (wq_CE (res := .inr 4) (fun v h' x y q => k71_88 q) C1' (by omega) (by omega) (by omega) (fun out c => ⟨.inr 4, sp2 _ ⟨fun w => absurd (zer.mp w).1 (by omega), fun _ => ⟨fun _ => rfl, fun w => absurd ?_ w⟩⟩, c⟩)) (u_keepBad H1 O5 rfl))
      rw [gm, gH]
      refine ⟨?_, by omega⟩
      have : m ≠ 0 := fun z => by rw [z, Nat.zero_mul] at big; omega
      omega
    · obtain ⟨s0, s1⟩ := S1.2 (by omega)
      by_cases fz : fil D1 N2 D2 m (m + 1) = zp_C 0
      · have O4 := s0 fz
        obtain ⟨H1, C1', e1'⟩ := CA_res H F1 A1 ⟨4, O4⟩
        exact k71_85 H1.1.1 (wm_mono (wq_CE (res := .inr 3) (fun v h' x y q => k71_88 q) C1' (by omega) (by omega) (by omega) (fun out c => ⟨.inr 3, sp2 _ ⟨fun _ => rfl, fun w => absurd (zer.mpr ⟨by omega, fz⟩) w⟩, c⟩)) (u_keepZero H1 O4 rfl))
      · have SS := s1 fz
        obtain ⟨H1, C1', e1'⟩ := CA_res H F1 A1 (setS_OE SS)
        have dfil : ∀ {p : zp_R}, zp_deg (fil p N2 D2 m (m + 1)) 176 := fun {p} => by
          have := fil_deg (p := p) (m := m) (b := N2) (e := D2) (H := Hh) (dgp_deg be2 (by omega)) (dgp_deg bf2 (by omega)) m
          refine deg_le this ?_
          rw [Nat.mul_comm]
          omega
        refine k71_85 H1.1.1 (wm_mono (fun out => ?_) (u_keepSet H1 (RM_A rm C1' lo (by omega)) SS (by decide) (by omega) fz dfil dfil (bad := 4) (l := [3, 1, 2, 0]) rfl))
        intro ⟨res, ⟨N, Dn, cc, fk⟩, r2⟩
        refine wq_CE (fun v h' x y q => k71_88 q) C1' (by omega) (by omega) (by omega) (fun out c => ⟨res, sp2 _ ⟨fun w => absurd (zer.mp w).2 fz, fun _ => ⟨fun w => ?_, fun _ => ⟨N, Dn, ?_, fk⟩⟩⟩, c⟩) out r2
        · rw [gm, gH] at w
          omega
        · rw [gm, show ((m : Int)).toNat = m by omega]
          exact cc
  · exact absurd e (by first | (simp [kd]; done) | decide)
  · exact absurd e (by first | (simp [kd]; done) | decide)
  · exact absurd e (by first | (simp [kd]; done) | decide)
  · exact absurd e (by first | (simp [kd]; done) | decide)
  · obtain ⟨p, ga, kp1, gp, dp⟩ := id Ka
    obtain ⟨q, gb, kq1, gq, dq⟩ := id Kb
    have sp2 : ∀ res, putF n (.inr (.inl f)) (.inr (.inl g)) res → binS n T 0 x y (putF n) res := fun res w => sp res (fun q => absurd q (by first | (simp [kd]; done) | decide)) (fun _ => w)
    have e0 : gi (mk 25 (cf g)) 0 = ((g.1 0).val : Int) := gi_cf' (n := 0) rfl (by decide)
    have l0 := (g.1 0).isLt
    refine k71_22 (z5 := 1) ga (fun w => absurd rfl w) (fun _ => ?_) (c7 := by decide)
    refine k71_30 (a8 := mk 25 (cf g)) gb gq (fun w => ?_) (fun w => k71_40 (CE_x H 2 rfl (sp2 _ ⟨fun _ => rfl, fun q => absurd (by rw [e0, q]; rfl) w⟩) (by omega) (by omega))) (c10 := by rw [mk_len]; omega) (c11 := by rw [e0]; unfold In3; omega)
    have g0 : g.1 0 = 0 := F_ext (by rw [← e0, w]; rfl)
    refine k71_48 ga gb (wm_mono (wq_SN (fun h1 a' R eR dR F1 e1 l1 S1 => ?_)) (u_insertedS (RM_le rm (by omega)) (by omega) (a := p) (f := f) (b := q) (g := g) ⟨gp, by have := kp1.1; omega, kp1.2⟩ ⟨gq, by have := kq1.1; omega, kq1.2⟩ g0))
    have H1 := CA_G H F1
    refine k71_61 H1.1.1 (wm_mono (fun out => ?_) (u_keepSeries H1 (RM_N rm F1 (by omega)) ⟨by omega, S1.2.2⟩ S1.1 dR (bad := 4) (l := [3, 1, 2, 0]) rfl))
    intro ⟨res, r1, r2, r3⟩
    rw [eR] at r2
    exact wq_CE (fun v h' x y q => k71_64 q) (CF_NA F1) (by omega) (by omega) (by omega) (fun out c => ⟨res, sp2 _ ⟨fun q => absurd g0 q, fun _ => ⟨r1, r2⟩⟩, c⟩) out r3
  · exact absurd e (by first | (simp [kd]; done) | decide)
  · exact absurd e (by first | (simp [kd]; done) | decide)
  · exact absurd e (by first | (simp [kd]; done) | decide)
  · exact absurd e (by first | (simp [kd]; done) | decide)
  · exact no (by simp [kd]) (by simp [kd])
  · exact absurd e (by first | (simp [kd]; done) | decide)
  · exact absurd e (by first | (simp [kd]; done) | decide)
  · exact absurd e (by first | (simp [kd]; done) | decide)
  · exact absurd e (by first | (simp [kd]; done) | decide)
  · exact no (by simp [kd]) (by simp [kd])
/-- the value of a fraction at a number; -1 where it has none -/
def vlR (N Dn : zp_R) (z v : Int) : Prop := (zp_ev (nF z) Dn = 0 → v = -1) ∧ (zp_ev (nF z) Dn ≠ 0 → v = ((zp_ev (nF z) N * zp_ev (nF z) Dn ^ 32001 : zp_F).val : Int))
theorem u_valueAtT {a : Nat} {N Dn : zp_R} (ta : TRD h a N Dn) {x : Int} (hx : 0 ≤ x ∧ x < 32003) : wm sw_P (D + 2) 99 [.index a, vi x] h (fun out => ∃ v : Int, vlR N Dn x v ∧ qr (vi v) h out) := by
  refine wm_in (cd := sw_c99) (nL := 3) (hd := sw_h99) rfl rfl ?_
  obtain ⟨q, lq, r, lr, z, _, _, _, ga, PN, PD⟩ := ta
  have l1 := (zp_ev (nF x) Dn).isLt
  refine k99_0 ga (PF_c PD) (wm_mono (wq_r ?_) (u_valueAt PD hx))
  refine k99_8 (fun w => ?_) (fun w => k99_13 ⟨-1, ⟨fun _ => rfl, fun q => absurd (fun e => q (F_ext (by rw [e]; rfl))) w⟩, rfl⟩) (c1 := by unfold In3; omega)
  have ne : zp_ev (nF x) Dn ≠ 0 := fun e => w (by rw [e]; rfl)
  refine k99_15 ga (PF_c PN) (wm_mono (wq_r ?_) (u_valueAt PN hx))
  refine k99_23 (r_inv (zp_ev (nF x) Dn) ne (fun v v0 _ ev => ?_))
  have evv : v = ((zp_ev (nF x) Dn ^ 32001 : zp_F).val : Int) := by
    rw [← ev, cf_nF (by omega)]
  rw [evv]
  refine k99_27 ⟨_, ⟨fun e => absurd e ne, fun _ => tm_pr _ _⟩, rfl⟩ (c1 := pr_In3 _ _)
/-- THE CALL value -/
theorem u_value (H : CA h n T tx lf lp tk) {x z : Int} (hx : In3 x) (hz : In6 z) : wm sw_P (D + 4) 98 [.index 1, vi x, vl z] h (fun out => ∃ c v, valS n T x z c v ∧ CV 100 4000 100 [3, 1] h n T tx lf lp tk c v out) := by
  refine wm_in (cd := sw_c98) (nL := 4) (hd := sw_h98) rfl rfl ?_
  have two : ∀ (x0 : 0 ≤ x ∧ x < n), kd (T x.toNat) ≠ 0 → valS n T x z 2 0 := fun x0 k => ⟨fun q => absurd x0 q, fun _ => by
    revert k
    generalize T x.toNat = t
    intro k
    rcases t with ⟨N, Dn⟩ | f | ⟨r, w, M⟩ | ⟨n1, so, va⟩
    · exact absurd rfl k
    · exact ⟨rfl, rfl⟩
    · exact ⟨rfl, rfl⟩
    · exact ⟨rfl, rfl⟩⟩
  refine k98_0 H.1.1 (r_ofKind H hx (by decide) (fun a x0 xn ka Ka k0 => ?_) (fun w => ⟨1, 0, ⟨fun _ => ⟨rfl, rfl⟩, fun q => absurd q w⟩, CV_x H 1 0 (by decide) rfl (by omega) (by omega)⟩) (fun x0 xn k0 => ⟨2, 0, two ⟨x0, xn⟩ k0, CV_x H 2 0 (by decide) rfl (by omega) (by omega)⟩))
  have sp : ∀ v, (∀ N Dn, T x.toNat = .inl (N, Dn) → vlR N Dn z v) → valS n T x z 0 v := fun v w => ⟨fun q => absurd ⟨x0, xn⟩ q, fun _ => by
    revert w k0
    generalize T x.toNat = t
    intro k0 w
    rcases t with ⟨N, Dn⟩ | f | ⟨r, w', M⟩ | ⟨n1, so, va⟩
    · exact ⟨rfl, w N Dn rfl⟩
    · exact absurd k0 (by first | (simp [kd]; done) | decide)
    · exact absurd k0 (by first | (simp [kd]; done) | decide)
    · exact absurd k0 (by first | (simp [kd]; done) | decide)⟩
  obtain ⟨t, et⟩ : ∃ t, T x.toNat = t := ⟨_, rfl⟩
  rw [et] at Ka k0 sp
  clear et
  rcases t with ⟨N1, D1⟩ | f | ⟨r, w, M⟩ | ⟨n1, so, va⟩
  · obtain ⟨ta, _⟩ := KT_T Ka ka
    have l1 := (nF z).isLt
    refine k98_6 (wm_mono (wq_r ?_) (u_residue hz))
    refine k98_10 (wm_mono (fun out => ?_) (u_valueAtT ta (x := ((nF z).val : Int)) (by omega)))
    intro ⟨v, hv, eo⟩
    refine wq_r ?_ out eo
    refine k98_13 ⟨0, v, sp v (fun N Dn e => ?_), CV_v H v (by omega) (by omega)⟩
    obtain ⟨rfl, rfl⟩ := Prod.mk.inj (Sum.inl.inj e)
    unfold vlR at hv
    rw [nF_val] at hv
    exact hv
  · exact absurd k0 (by first | (simp [kd]; done) | decide)
  · exact absurd k0 (by first | (simp [kd]; done) | decide)
  · exact absurd k0 (by first | (simp [kd]; done) | decide)
end
