/-! the class: the calls degree, at, series, exponential, logarithm, root, entry -/
section
variable {D : Nat} {h : s_H} {n : Nat} {T : Nat → th} {tx lf lp tk : Int}
/-- THE CALL degree -/
theorem u_degree (H : CA h n T tx lf lp tk) {x p : Int} (hx : In3 x) (hp' : In3 p) : wm sw_P (D + 3) 16 [.index 1, vi x, vi p] h (fun out => ∃ c v, degS n T x p c v ∧ CV 100 4000 100 [3, 1] h n T tx lf lp tk c v out) := by
  refine wm_in (cd := sw_c16) (nL := 4) (hd := sw_h16) rfl rfl ?_
  refine k16_0 H.1.1 (r_thing H hx (fun a x0 xn ka Ka => ?_) (fun w => ⟨1, 0, ⟨fun _ => ⟨rfl, rfl⟩, fun q => absurd q w⟩, CV_x H 1 0 (by decide) rfl (by omega) (by omega)⟩))
  have bad : (kd (T x.toNat) = 3 ∨ ¬ (0 ≤ p ∧ p ≤ 1)) → degS n T x p 2 0 := fun w => ⟨fun q => absurd ⟨x0, xn⟩ q, fun _ => ⟨fun _ => ⟨rfl, rfl⟩, fun q => absurd w q⟩⟩
  have sp : ∀ v, ¬ (kd (T x.toNat) = 3 ∨ ¬ (0 ≤ p ∧ p ≤ 1)) → degF p (T x.toNat) v → degS n T x p 0 v := fun v w f => ⟨fun q => absurd ⟨x0, xn⟩ q, fun _ => ⟨fun q => absurd q w, fun _ => ⟨rfl, f⟩⟩⟩
  refine k16_5 (r_01 hp' (fun p01 => ?_) (fun w => ⟨2, 0, bad (.inr w), CV_x H 2 0 (by decide) rfl (by omega) (by omega)⟩))
  obtain ⟨t, et⟩ : ∃ t, T x.toNat = t := ⟨_, rfl⟩
  rw [et] at Ka bad sp
  clear et
  rcases t with ⟨N1, D1⟩ | f | ⟨r, w, M⟩ | ⟨n1, so, va⟩
  · have ok : ¬ (kd (.inl (N1, D1)) = 3 ∨ ¬ (0 ≤ p ∧ p ≤ 1)) := fun q => by
      rcases q with q | q
      · exact absurd q (by first | (simp [kd]; done) | decide)
      · exact q p01
    obtain ⟨q, lq, r, lr, ga, _, _, PN, PD, dN, dD, _⟩ := id Ka
    obtain ⟨e1, _, P1, b1, _, x1, y1⟩ := id PN
    obtain ⟨e2, _, P2, b2, _, x2, y2⟩ := id PD
    have h1 := dgp_of b1 (by have := fD (L := 41) dN (by omega) e1 b1; omega)
    have h2 := dgp_of b2 (by have := fD (L := 41) dD (by omega) e2 b2; omega)
    refine k16_10 (z5 := 0) ga (fun w => absurd rfl w) (fun _ => ?_) (c7 := by decide)
    refine k16_17 (fun w => k16_31 (z10 := e2) ga P2.2.1 (k16_38 ⟨0, e2, sp e2 ok ?_, CV_v H e2 (by omega) (by omega)⟩)) (fun w => k16_21 (z10 := e1) ga P1.2.1 (k16_38 ⟨0, e1, sp e1 ok ?_, CV_v H e1 (by omega) (by omega)⟩)) (c1 := hp')
    · show e2 = if p = 0 then hi N1 else hi D1
      rw [if_neg w, h2]
    · show e1 = if p = 0 then hi N1 else hi D1
      rw [if_pos (Classical.byContradiction w), h1]
  · have ok : ¬ (kd (.inr (.inl f)) = 3 ∨ ¬ (0 ≤ p ∧ p ≤ 1)) := fun q => by
      rcases q with q | q
      · exact absurd q (by first | (simp [kd]; done) | decide)
      · exact q p01
    obtain ⟨b, ga, kb, gb, df⟩ := id Ka
    refine k16_10 (z5 := 1) ga (fun _ => ?_) (fun w => absurd (by decide) w) (c7 := by decide)
    refine k16_39 (z5 := 1) ga (fun _ => ?_) (fun w => absurd (by decide) w) (c7 := by decide)
    refine k16_63 (r_kind Ka (by decide) (fun _ => ?_) (fun w => absurd rfl w))
    have lp' := u_leastPower (D := D + 1) (h := h) (a := b) (f := f) ⟨gb, by have := kb.1; omega, kb.2⟩
    have ex : ∃ k, frst f k := by
      obtain ⟨_, _, k, k1, k2, k3, _⟩ := lp'
      exact ⟨k, k1, k2, k3⟩
    refine k16_68 (fun w => k16_82 (k16_84 ⟨0, 24, sp 24 ok ?_, CV_v H 24 (by omega) (by omega)⟩)) (fun w => k16_72 ga (wm_mono (fun out => ?_) lp')) (c1 := hp')
    · obtain ⟨k, hk⟩ := ex
      exact ⟨k, hk, by rw [if_neg w]⟩
    · intro ⟨k, k1, k2, k3, eo⟩
      refine wq_r ?_ out eo
      exact k16_79 (k16_84 ⟨0, (k : Int), sp _ ok ⟨k, ⟨k1, k2, k3⟩, by rw [if_pos (Classical.byContradiction w)]⟩, CV_v H _ (by omega) (by omega)⟩)
  · have ok : ¬ (kd (.inr (.inr (.inl (r, w, M)))) = 3 ∨ ¬ (0 ≤ p ∧ p ≤ 1)) := fun q => by
      rcases q with q | q
      · exact absurd q (by first | (simp [kd]; done) | decide)
      · exact q p01
    obtain ⟨_, ga⟩ := KT_ce Ka
    refine k16_10 (z5 := 2) ga (fun _ => ?_) (fun w => absurd (by decide) w) (c7 := by decide)
    refine k16_39 (z5 := 2) ga (fun w => absurd rfl w) (fun _ => ?_) (c7 := by decide)
    refine k16_47 (fun w2 => k16_58 (z5 := (w : Int)) ga (k16_62 ⟨0, _, sp _ ok ?_, CV_v H _ (by omega) (by omega)⟩)) (fun w2 => k16_51 (z5 := (r : Int)) ga (k16_62 ⟨0, _, sp _ ok ?_, CV_v H _ (by omega) (by omega)⟩)) (c1 := hp')
    · show (w : Int) = if p = 0 then (r : Int) else (w : Int)
      rw [if_neg w2]
    · show (r : Int) = if p = 0 then (r : Int) else (w : Int)
      rw [if_pos (Classical.byContradiction w2)]
  · obtain ⟨_, ga, _⟩ := id Ka
    refine k16_10 (z5 := 3) ga (fun _ => ?_) (fun w => absurd (by decide) w) (c7 := by decide)
    refine k16_39 (z5 := 3) ga (fun _ => ?_) (fun w => absurd (by decide) w) (c7 := by decide)
    exact k16_63 (r_kind Ka (by decide) (fun w => absurd w (by first | (simp [kd]; done) | decide)) (fun _ => ⟨2, 0, bad (.inl rfl), CV_x H 2 0 (by decide) rfl (by omega) (by omega)⟩))
/-- THE CALL at -/
theorem u_at (H : CA h n T tx lf lp tk) {x p k : Int} (hx : In3 x) (hp' : In3 p) (hk : In3 k) : wm sw_P (D + 3) 5 [.index 1, vi x, vi p, vi k] h (fun out => ∃ c v, atS n T x p k c v ∧ CV 100 4000 100 [3, 1] h n T tx lf lp tk c v out) := by
  refine wm_in (cd := sw_c5) (nL := 5) (hd := sw_h5) rfl rfl ?_
  refine k5_0 H.1.1 (r_thing H hx (fun a x0 xn ka Ka => ?_) (fun w => ⟨1, 0, ⟨fun _ => ⟨rfl, rfl⟩, fun q => absurd q w⟩, CV_x H 1 0 (by decide) rfl (by omega) (by omega)⟩))
  have bad : (2 ≤ kd (T x.toNat) ∨ ¬ (0 ≤ p ∧ p ≤ 1)) → atS n T x p k 2 0 := fun w => ⟨fun q => absurd ⟨x0, xn⟩ q, fun _ => ⟨fun _ => ⟨rfl, rfl⟩, fun q => absurd w q⟩⟩
  have sp : ∀ v, ¬ (2 ≤ kd (T x.toNat) ∨ ¬ (0 ≤ p ∧ p ≤ 1)) → (¬ (0 ≤ k ∧ k ≤ 40) → v = 0) → ((0 ≤ k ∧ k ≤ 40) → atF p k (T x.toNat) v) → atS n T x p k 0 v := fun v w f1 f2 => ⟨fun q => absurd ⟨x0, xn⟩ q, fun _ => ⟨fun q => absurd q w, fun _ => ⟨rfl, f1, f2⟩⟩⟩
  refine k5_5 (r_01 hp' (fun p01 => ?_) (fun w => ⟨2, 0, bad (.inr w), CV_x H 2 0 (by decide) rfl (by omega) (by omega)⟩))
  obtain ⟨t, et⟩ : ∃ t, T x.toNat = t := ⟨_, rfl⟩
  rw [et] at Ka bad sp
  clear et
  rcases t with ⟨N1, D1⟩ | f | ⟨r, w, M⟩ | ⟨n1, so, va⟩
  · have ok : ¬ (2 ≤ kd (.inl (N1, D1)) ∨ ¬ (0 ≤ p ∧ p ≤ 1)) := fun q => by
      rcases q with q | q
      · exact absurd q (by first | (simp [kd]; done) | decide)
      · exact q p01
    obtain ⟨q, lq, r, lr, ga, _, _, PN, PD, dN, dD, _⟩ := id Ka
    refine k5_11 (z5 := 0) ga (fun w => absurd rfl w) (fun _ => ?_) (c7 := by decide)
    have z0 : ∀ {g : zp_R}, zp_deg g 41 → ¬ (0 ≤ k ∧ k ≤ 40) → (if 0 ≤ k then cf g k.toNat else 0) = 0 := fun {g} dg w => by
      by_cases k0 : 0 ≤ k
      · rw [if_pos k0]
        unfold cf
        rw [dg k.toNat (by omega)]
        rfl
      · rw [if_neg k0]
    refine k5_19 (fun w => k5_31 ga (k5_36 (PF_c PD) (wm_mono (wq_r ?_) (u_coef PD hk)))) (fun w => k5_23 ga (k5_36 (PF_c PN) (wm_mono (wq_r ?_) (u_coef PN hk)))) (c1 := hp')
    · refine k5_40 ⟨0, _, sp _ ok (z0 dD) (fun k0 => ?_), CV_v H _ (by omega) (by omega)⟩
      rw [if_pos k0.1]
      show cf D1 k.toNat = if p = 0 then _ else _
      rw [if_neg w]
      rfl
    · refine k5_40 ⟨0, _, sp _ ok (z0 dN) (fun k0 => ?_), CV_v H _ (by omega) (by omega)⟩
      rw [if_pos k0.1]
      show cf N1 k.toNat = if p = 0 then _ else _
      rw [if_pos (Classical.byContradiction w)]
      rfl
  · have ok : ¬ (2 ≤ kd (.inr (.inl f)) ∨ ¬ (0 ≤ p ∧ p ≤ 1)) := fun q => by
      rcases q with q | q
      · exact absurd q (by first | (simp [kd]; done) | decide)
      · exact q p01
    obtain ⟨b, ga, kb, gb, df⟩ := id Ka
    have z25 : ¬ (0 ≤ k ∧ k < 25) → 0 ≤ k → ((f.1 k.toNat).val : Int) = 0 := fun w k0 => by
      rw [df k.toNat (by omega)]
      rfl
    refine k5_11 (z5 := 1) ga (fun _ => k5_41 (r_kind Ka (by decide) (fun _ => ?_) (fun w => absurd rfl w))) (fun w => absurd (by decide) w) (c7 := by decide)
    have zero : ¬ (0 ≤ k ∧ k < 25) → wr sw_P (D + 2) sw_c5 sw_h5 (61, [.index 1, vi x, vi p, vi k, .index a], [], h, 0, 0) (fun out => ∃ c v, atS n T x p k c v ∧ CV 100 4000 100 [3, 1] h n T tx lf lp tk c v out) := fun w => k5_61 (k5_72 ⟨0, 0, sp 0 ok (fun _ => rfl) (fun k0 => (z25 w k0.1).symm), CV_v H 0 (by omega) (by omega)⟩)
    have hlen : ((mk 25 (cf f)).map vi).length = 25 := by rw [List.length_map, mk_len]
    refine k5_47 (fun w => zero (fun q => by omega)) (fun w => ?_) (c1 := hk)
    refine k5_51 (a8 := (mk 25 (cf f)).map vi) (tg10 := 0) ga gb (fun w2 => ?_) (fun w2 => zero (fun q => w2 (by rw [hlen]; omega))) (c11 := hk) (c12 := by rw [hlen]; decide)
    rw [hlen] at w2
    have e1 : gi (mk 25 (cf f)) k = ((f.1 k.toNat).val : Int) := gi_cf' (n := k.toNat) (by omega) (by omega)
    refine k5_65 (a8 := mk 25 (cf f)) ga gb (k5_72 ⟨0, _, sp _ ok (fun q => absurd ⟨by omega, by omega⟩ q) (fun k0 => e1), CV_v H _ (by omega) (by omega)⟩) (c10 := by rw [mk_len]; omega) (c11 := by omega) (c12 := hk)
  · obtain ⟨_, ga⟩ := KT_ce Ka
    exact k5_11 (z5 := 2) ga (fun _ => k5_41 (r_kind Ka (by decide) (fun w => absurd w (by first | (simp [kd]; done) | decide)) (fun _ => ⟨2, 0, bad (.inl (by first | (simp [kd]; done) | decide)), CV_x H 2 0 (by decide) rfl (by omega) (by omega)⟩))) (fun w => absurd (by decide) w) (c7 := by decide)
  · obtain ⟨_, ga, _⟩ := id Ka
    exact k5_11 (z5 := 3) ga (fun _ => k5_41 (r_kind Ka (by decide) (fun w => absurd w (by first | (simp [kd]; done) | decide)) (fun _ => ⟨2, 0, bad (.inl (by first | (simp [kd]; done) | decide)), CV_x H 2 0 (by decide) rfl (by omega) (by omega)⟩))) (fun w => absurd (by decide) w) (c7 := by decide)
/-- a thing of one kind is told -/
theorem kd_cases {t : th} : (kd t = 0 → ∃ N Dn, t = th_fr N Dn) ∧ (kd t = 1 → ∃ f, t = th_se f) ∧ (kd t = 2 → ∃ r w M, t = th_ma r w M) ∧ (kd t = 3 → ∃ k so va, t = th_fo k so va) := by
  rcases t with ⟨N1, D1⟩ | f | ⟨r, w, M⟩ | ⟨n1, so, va⟩
  · exact ⟨fun _ => ⟨_, _, rfl⟩, fun w => absurd w (by first | (simp [kd]; done) | decide), fun w => absurd w (by first | (simp [kd]; done) | decide), fun w => absurd w (by first | (simp [kd]; done) | decide)⟩
  · exact ⟨fun w => absurd w (by first | (simp [kd]; done) | decide), fun _ => ⟨_, rfl⟩, fun w => absurd w (by first | (simp [kd]; done) | decide), fun w => absurd w (by first | (simp [kd]; done) | decide)⟩
  · exact ⟨fun w => absurd w (by first | (simp [kd]; done) | decide), fun w => absurd w (by first | (simp [kd]; done) | decide), fun _ => ⟨_, _, _, rfl⟩, fun w => absurd w (by first | (simp [kd]; done) | decide)⟩
  · exact ⟨fun w => absurd w (by first | (simp [kd]; done) | decide), fun w => absurd w (by first | (simp [kd]; done) | decide), fun w => absurd w (by first | (simp [kd]; done) | decide), fun _ => ⟨_, _, _, rfl⟩⟩
/-- a new series is kept at a call's end -/
theorem keep_new {h0 : s_H} {d' nx : Nat} {cd : s_Cd} {ls : List Term} {l : List Nat} {f : zp_R} {bad : Int} {R : Sum th Int → Prop} {kc ks a g : Nat} (H0 : CA h0 n T tx lf lp tk) (rm : RM h0 100) (F : CF PN h0 h) (e1 : h.1 = h0.1 + g) (g90 : g ≤ 80) (la : h0.1 ≤ a) (S : SR h a f) (df : zp_deg f 25) (ka : kc ≤ 80) (kb : ks ≤ 3000) (eb : exl l bad = 0) (φ : ∀ res, ((n : Int) = 150 → res = .inr bad) → ((n : Int) ≠ 150 → res = .inl (th_se f)) → R res) (ret : ∀ (v : Int) (h' : s_H) (x y : Nat), (fun out => ∃ res, R res ∧ CE 100 4000 100 l h0 n T tx lf lp tk res out) (.inl (some (vi v)), h', x, y) → wr sw_P d' cd [] (nx, ls, [vi v], h', x, y) (fun out => ∃ res, R res ∧ CE 100 4000 100 l h0 n T tx lf lp tk res out)) : wm sw_P (D + 3) 39 [.index 1, .index a] h (wq sw_P d' cd [] nx ls [] kc ks (fun out => ∃ res, R res ∧ CE 100 4000 100 l h0 n T tx lf lp tk res out)) := by
  have H1 := CA_G H0 F
  have lo := H0.1.2
  refine wm_mono (fun out => ?_) (u_keepSeries H1 (RM_N rm F (by omega)) ⟨by omega, S.2.2⟩ S.1 df (bad := bad) eb)
  intro ⟨res, r1, r2, r3⟩
  exact wq_CE ret (CF_NA F) (by omega) (by omega) (by omega) (fun out c => ⟨res, φ res r1 r2, c⟩) out r3
/-- THE CALL series -/
theorem u_series (H : CA h n T tx lf lp tk) (rm : RM h 100) {x : Int} (hx : In3 x) : wm sw_P (D + 4) 85 [.index 1, vi x] h (fun out => ∃ res, unS n T (fun k => k = 0) x (serF n) res ∧ CE 100 4000 100 [3, 1, 2, 0] h n T tx lf lp tk res out) := by
  refine wm_in (cd := sw_c85) (nL := 3) (hd := sw_h85) rfl rfl ?_
  have lo := H.1.2
  refine k85_0 H.1.1 (r_ofKind H hx (by decide) (fun a x0 xn ka Ka k0 => ?_) (fun w => CE_x H 1 rfl (unS_1 w) (by omega) (by omega)) (fun x0 xn w => CE_x H 2 rfl (unS_2 ⟨x0, xn⟩ w) (by omega) (by omega)))
  obtain ⟨N, Dn, et⟩ := kd_cases.1 k0
  have sp : ∀ res, serF n (th_fr N Dn) res → unS n T (fun k => k = 0) x (serF n) res := fun res w => unS_3 ⟨x0, xn⟩ k0 (by rw [et]; exact w)
  rw [et] at Ka
  obtain ⟨q, lq, r, lr, ga, kq, kr, PN, PD, dN, dD, _⟩ := id Ka
  have q1 : q + 1 < h.1 := by rcases kq with w | w <;> omega
  have r1 : r + 1 < h.1 := by rcases kr with w | w <;> omega
  have lD := (Dn.1 0).isLt
  refine k85_6 ga (PF_c PD) (r_coef PD (i := 0) (by omega) ?_)
  have c0 : cf Dn 0 = ((Dn.1 0).val : Int) := rfl
  refine k85_15 (fun w => ?_) (fun w => k85_18 (CE_x H 3 rfl (sp _ ⟨fun _ => rfl, fun q => absurd (F_ext (by rw [← c0, Classical.byContradiction w]; rfl)) q⟩) (by omega) (by omega))) (c1 := by rw [c0]; unfold In3; omega)
  have D0 : Dn.1 0 ≠ 0 := fun e => w (by rw [c0, e]; rfl)
  refine k85_26 (wm_mono (wq_SN (fun h1 b f ef df F1 g1 b1 S1 => ?_)) (u_ofFractionS (RM_le rm (by omega)) (by omega) ga ka.2 PN PD q1 r1 D0))
  exact k85_31 (CA_G H F1).1.1 (keep_new H rm F1 g1 (by omega) b1 S1 df (by omega) (by omega) (bad := 4) rfl (fun res w1 w2 => sp res ⟨fun q => absurd q D0, fun _ => ⟨f, ef, w1, w2⟩⟩) (fun v h' x y q => k85_34 q))
/-- THE CALL exponential -/
theorem u_exponential (H : CA h n T tx lf lp tk) (rm : RM h 100) {x : Int} (hx : In3 x) : wm sw_P (D + 4) 22 [.index 1, vi x] h (fun out => ∃ res, unS n T (fun k => k = 1) x (expF n) res ∧ CE 100 4000 100 [3, 1, 0] h n T tx lf lp tk res out) := by
  refine wm_in (cd := sw_c22) (nL := 3) (hd := sw_h22) rfl rfl ?_
  have lo := H.1.2
  refine k22_0 H.1.1 (r_ofKind H hx (by decide) (fun a x0 xn ka Ka k0 => ?_) (fun w => CE_x H 1 rfl (unS_1 w) (by omega) (by omega)) (fun x0 xn w => CE_x H 2 rfl (unS_2 ⟨x0, xn⟩ w) (by omega) (by omega)))
  obtain ⟨f, et⟩ := kd_cases.2.1 k0
  have sp : ∀ res, expF n (th_se f) res → unS n T (fun k => k = 1) x (expF n) res := fun res w => unS_3 ⟨x0, xn⟩ k0 (by rw [et]; exact w)
  rw [et] at Ka
  obtain ⟨b, ga, kb, gb, df⟩ := id Ka
  have e0 : gi (mk 25 (cf f)) 0 = ((f.1 0).val : Int) := gi_cf' (n := 0) rfl (by decide)
  have l0 := (f.1 0).isLt
  refine k22_6 (a8 := mk 25 (cf f)) ga gb (fun w => ?_) (fun w => k22_16 (CE_x H 2 rfl (sp _ ⟨fun _ => rfl, fun q => absurd (by rw [e0, q]; rfl) w⟩) (by omega) (by omega))) (c10 := by rw [mk_len]; omega) (c11 := by rw [e0]; unfold In3; omega)
  have f0 : f.1 0 = 0 := F_ext (by rw [← e0, w]; rfl)
  refine k22_24 ga (wm_mono (wq_SN (fun h1 c R ef dR F1 g1 b1 S1 => ?_)) (u_raisedS (RM_le rm (by omega)) (by omega) (a := b) (f := f) ⟨gb, by have := kb.1; omega, kb.2⟩))
  exact k22_32 (CA_G H F1).1.1 (keep_new H rm F1 g1 (by omega) b1 S1 dR (by omega) (by omega) (bad := 3) rfl (fun res w1 w2 => sp res ⟨fun q => absurd f0 q, fun _ => ⟨R, ef, w1, w2⟩⟩) (fun v h' x y q => k22_35 q))
theorem log_of {f Q : zp_R} (df : zp_deg f 25) (f0 : f.1 0 = 1) (q : qs (zp_D f) f Q 25) : logR f (itg Q 24) 25 := by
  have at' : ∀ i, i < 24 → nF ((i + 1 : Nat) : Int) * (itg Q 24).1 (i + 1) = Q.1 i := fun i hi2 => by
    have e : (itg Q 24).1 (i + 1) = Q.1 i * nF ((i + 1 : Nat) : Int) ^ 32001 := by
      show (if i + 1 = 0 ∨ 24 < i + 1 then (0 : zp_F) else Q.1 (i + 1 - 1) * nF ((i + 1 : Nat) : Int) ^ 32001) = _
      rw [if_neg (by omega), show i + 1 - 1 = i by omega]
    have ne : nF ((i + 1 : Nat) : Int) ≠ 0 := fun w => by
      have := (nF_is0 (x := ((i + 1 : Nat) : Int)) (by omega)).mp w
      omega
    have iv := zp_inv ne
    rw [e]
    exact lo_h iv
  refine ⟨itg_deg Q 24, rfl, fun n n1 n2 => ?_⟩
  obtain ⟨m, em⟩ : ∃ m, n = m + 1 := ⟨n - 1, by omega⟩
  subst em
  have c := q.2 m (by omega)
  rw [zp_c_comm] at c
  have c' : zp_sum (fun i => Q.1 i * f.1 (m - i)) m + Q.1 m * f.1 0 = zp_nat (m + 1) * f.1 (m + 1) := by
    refine Eq.trans ?_ c
    show _ = zp_sum (fun i => Q.1 i * f.1 (m - i)) m + Q.1 m * f.1 (m - m)
    rw [Nat.sub_self]
  rw [zp_nat_nF, f0] at c'
  have s : zp_sum (fun i => nF ((i + 1 : Nat) : Int) * (itg Q 24).1 (i + 1) * f.1 (m + 1 - (i + 1))) (m + 1 - 1) = zp_sum (fun i => Q.1 i * f.1 (m - i)) m := by
    rw [show m + 1 - 1 = m by omega]
    exact zp_sum_congr (fun i hi2 => by rw [at' i (by omega), show m + 1 - (i + 1) = m - i by omega])
  have e : (itg Q 24).1 (m + 1) = Q.1 m * nF ((m + 1 : Nat) : Int) ^ 32001 := by
    show (if m + 1 = 0 ∨ 24 < m + 1 then (0 : zp_F) else Q.1 (m + 1 - 1) * nF ((m + 1 : Nat) : Int) ^ 32001) = _
    rw [if_neg (by omega), show m + 1 - 1 = m by omega]
  rw [s, e]
  exact congrArg (fun y => y * nF ((m + 1 : Nat) : Int) ^ 32001) (lo_h2 c')
where
  lo_h : ∀ {a b c : zp_F}, a * b = 1 → a * (c * b) = c := by intro a b c h; grind
  lo_h2 : ∀ {s q r : zp_F}, s + q * 1 = r → q = r - s := by intro s q r h; grind
/-- THE CALL logarithm -/
theorem u_logarithm (H : CA h n T tx lf lp tk) (rm : RM h 100) {x : Int} (hx : In3 x) : wm sw_P (D + 4) 47 [.index 1, vi x] h (fun out => ∃ res, unS n T (fun k => k = 1) x (logF n) res ∧ CE 100 4000 100 [3, 1, 0] h n T tx lf lp tk res out) := by
  refine wm_in (cd := sw_c47) (nL := 3) (hd := sw_h47) rfl rfl ?_
  have lo := H.1.2
  refine k47_0 H.1.1 (r_ofKind H hx (by decide) (fun a x0 xn ka Ka k0 => ?_) (fun w => CE_x H 1 rfl (unS_1 w) (by omega) (by omega)) (fun x0 xn w => CE_x H 2 rfl (unS_2 ⟨x0, xn⟩ w) (by omega) (by omega)))
  obtain ⟨f, et⟩ := kd_cases.2.1 k0
  have sp : ∀ res, logF n (th_se f) res → unS n T (fun k => k = 1) x (logF n) res := fun res w => unS_3 ⟨x0, xn⟩ k0 (by rw [et]; exact w)
  rw [et] at Ka
  obtain ⟨b, ga, kb, gb, df⟩ := id Ka
  have e0 : gi (mk 25 (cf f)) 0 = ((f.1 0).val : Int) := gi_cf' (n := 0) rfl (by decide)
  have l0 := (f.1 0).isLt
  refine k47_6 (a8 := mk 25 (cf f)) ga gb (fun w => ?_) (fun w => k47_17 (CE_x H 2 rfl (sp _ ⟨fun _ => rfl, fun q => absurd (by rw [e0, q]; rfl) w⟩) (by omega) (by omega))) (c10 := by rw [mk_len]; omega) (c11 := by rw [e0]; unfold In3; omega)
  have f0 : f.1 0 = 1 := F_ext (by rw [← e0, w]; rfl)
  have Sb : SR h b f := ⟨gb, by have := kb.1; omega, kb.2⟩
  refine k47_25 ga (wm_mono (wq_SN (fun h1 c R ef dR F1 g1 b1 S1 => ?_)) (u_slopeS (RM_le rm (by omega)) (by omega) Sb df))
  subst ef
  refine k47_33 ((F1.2 a id (.inl ka.2)).trans ga) (wm_mono (wq_SN (fun h2 c2 Q2 ef2 dR2 F2 g2 b2 S2 => ?_)) (u_quotientS (RM_N rm F1 (by omega)) (by omega) S1 (SR_N F1 Sb) (by rw [f0]; decide)))
  refine k47_40 (wm_mono (wq_SN (fun h3 c3 R3 ef3 dR3 F3 g3 b3 S3 => ?_)) (u_integralS (RM_N rm (CF_trans F1 F2) (by omega)) (by omega) S2))
  subst ef3
  have F13 := CF_trans F1 (CF_trans F2 F3)
  exact k47_43 (CA_G H F13).1.1 (keep_new H rm F13 (g := 3) (by omega) (by omega) (by omega) S3 dR3 (by omega) (by omega) (bad := 3) rfl (fun res w1 w2 => sp res ⟨fun q => absurd f0 q, fun _ => ⟨itg Q2 24, log_of df f0 ef2, w1, w2⟩⟩) (fun v h' x y q => k47_46 q))
end
