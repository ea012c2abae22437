/-! the class: the calls own, companion, term, sum -/
section
variable {D d nx : Nat} {cd : s_Cd} {ls rest : List Term} {Q : s_O → Prop} {h : s_H} {n : Nat} {T : Nat → th} {tx lf lp tk : Int}
theorem wq_MN {r w : Nat} {S : Nat → Nat → zp_R} (K : ∀ h1 x y, MF h h1 h.1 r w S r 0 (2 + 2 * (r * w)) → AL h1 0 → x ≤ 40 → y ≤ 3400 → wr sw_P d cd [] (nx, ls, .index h.1 :: rest, h1, x, y) Q) : ∀ out, MN h 0 r w S out → wq sw_P d cd [] nx ls rest 0 0 Q out := fun out ⟨h1, x, y, MM, A1, b1, b2, eo⟩ => by
  rw [eo]
  exact K h1 _ _ MM A1 (by omega) (by omega)
/-- a matrix on the way is kept at a call's end -/
theorem keep_MF {h1 : s_H} {l : List Nat} {r w : Nat} {S : Nat → Nat → zp_R} {bad : Int} {R : Sum th Int → Prop} {kc ks : Nat} (H : CA h n T tx lf lp tk) (MM : MF h h1 h.1 r w S r 0 (2 + 2 * (r * w))) (A1 : AL h1 0) (ka : kc ≤ 40) (kb : ks ≤ 3400) (r1 : 1 ≤ r ∧ r ≤ 4) (w1 : 1 ≤ w ∧ w ≤ 4) (dS : ∀ i j, i < r → j < w → zp_deg (S i j) 176) (eb : exl l bad = 0) (φ : ∀ res, kmR n r w S bad res → R res) (ret : ∀ (v : Int) (h' : s_H) (x y : Nat), (fun out => ∃ res, R res ∧ CE 100 4000 100 l h n T tx lf lp tk res out) (.inl (some (vi v)), h', x, y) → wr sw_P d cd [] (nx, ls, [vi v], h', x, y) (fun out => ∃ res, R res ∧ CE 100 4000 100 l h n T tx lf lp tk res out)) : wm sw_P (D + 3) 38 [.index 1, .index h.1] h1 (wq sw_P d cd [] nx ls [] kc ks (fun out => ∃ res, R res ∧ CE 100 4000 100 l h n T tx lf lp tk res out)) := by
  have F := MM.1
  have H1 := CA_MF H F A1
  have eg := MM.2.1
  have b16 : r * w ≤ 4 * 4 := Nat.mul_le_mul r1.2 w1.2
  refine wm_mono (fun out => ?_) (u_keepMF H1 MM H.1.2 r1 w1 dS eb)
  intro ⟨res, q1, q2⟩
  exact wq_CE ret (CF_BA (CF_RB F)) (by omega) (by omega) (by omega) (fun out c => ⟨res, φ res q1, c⟩) out q2
theorem KT_d11 {c r w : Nat} {M : Nat → Nat → zp_R} (K : KT h c (th_ma r w M)) {i j : Nat} (h1 : i < r) (h2 : j < w) : zp_deg (M i j) 11 := by
  obtain ⟨_, _, _, _, _, _, _, _, k7⟩ := K
  obtain ⟨_, _, _, _, _, d11⟩ := k7 i j h1 h2
  exact d11
theorem kmR_small {cnt : Int} {r w : Nat} {S : Nat → Nat → zp_R} {bad : Int} {res : Sum th Int} (k : kmR cnt r w S bad res) (d : ∀ i j, i < r → j < w → zp_deg (S i j) 11) : (cnt = 150 → res = .inr bad) ∧ (cnt ≠ 150 → res = .inl (th_ma r w S)) := ⟨k.1, fun q => k.2.2 q (fun ⟨i, j, h1, h2, big⟩ => by
  have := (deg_hi (m := 10) (deg_le (d i j h1 h2) (by decide))).mp (d i j h1 h2)
  omega)⟩
theorem cx_ow (a b : zp_F) : a + b = b + a := by grind
theorem cx_ow2 (b : zp_F) : 0 + b = b := by grind
theorem ownM_e (M : Nat → Nat → zp_R) : (fun i j => if i = j then zp_add (zp_X 1) (zp_mul (zp_C (nF 32002)) (M i j)) else zp_add (zp_C 0) (zp_mul (zp_C (nF 32002)) (M i j))) = ownM M := by
  funext i j
  unfold ownM
  by_cases q : i = j
  · rw [if_pos q, if_pos q]
    refine zp_ext (fun k => ?_)
    show (if k = 1 then (1 : zp_F) else 0) + (zp_mul (zp_C (nF 32002)) (M i j)).1 k = if k = 1 then _ else _
    by_cases q2 : k = 1
    · rw [if_pos q2, if_pos q2, q2]
      exact cx_ow _ _
    · rw [if_neg q2, if_neg q2]
      exact cx_ow2 _
  · rw [if_neg q, if_neg q]
    refine zp_ext (fun k => ?_)
    show (zp_C 0).1 k + (zp_mul (zp_C (nF 32002)) (M i j)).1 k = _
    rw [zp_C00]
    exact cx_ow2 _
theorem sqF_2 {x : Int} {F : Nat → (Nat → Nat → zp_R) → Sum th Int → Prop} (x0 : 0 ≤ x ∧ x < (n : Int)) (no : ∀ r M, T x.toNat ≠ th_ma r r M) : sqF n T x F (.inr 2) := by
  refine ⟨2, ⟨fun q => absurd x0 q, fun _ => ?_⟩, fun _ => rfl, fun q => absurd q (by first | (simp [kd]; done) | decide)⟩
  revert no
  generalize T x.toNat = t
  intro no
  rcases t with ⟨N1, D1⟩ | f | ⟨r, w, M⟩ | ⟨n1, so, va⟩
  · rfl
  · rfl
  · exact ⟨fun e => absurd (by rw [e]) (no w M), fun _ => rfl⟩
  · rfl
theorem sqF_0 {x : Int} {F : Nat → (Nat → Nat → zp_R) → Sum th Int → Prop} {r : Nat} {M : Nat → Nat → zp_R} {res : Sum th Int} (x0 : 0 ≤ x ∧ x < (n : Int)) (e : T x.toNat = th_ma r r M) (w1 : (n : Int) = 150 → res = .inr 3) (w2 : (n : Int) ≠ 150 → F r M res) : sqF n T x F res := by
  refine ⟨0, ⟨fun q => absurd x0 q, fun _ => ?_⟩, fun q => absurd rfl q, fun _ => ?_⟩
  · rw [e]
    exact ⟨fun _ => rfl, fun q => absurd rfl q⟩
  · rw [e]
    exact ⟨w1, w2⟩
/-- THE CALL own -/
theorem u_own (H : CA h n T tx lf lp tk) (mo' : MO h) (rm : RM h 100) {x : Int} (hx : In3 x) : wm sw_P (D + 5) 67 [.index 1, vi x] h (fun out => ∃ res, sqF n T x ownF res ∧ CE 100 4000 100 [3, 1, 0] h n T tx lf lp tk res out) := by
  refine wm_in (cd := sw_c67) (nL := 3) (hd := sw_h67) rfl rfl ?_
  have lo := H.1.2
  obtain ⟨_, _, A, _⟩ := id H
  refine k67_0 H.1.1 (r_ofKind H hx (by decide) (fun a x0 xn ka Ka k0 => ?_) (fun w => CE_x H 1 rfl ⟨1, ⟨fun _ => rfl, fun q => absurd q w⟩, fun _ => rfl, fun q => absurd q (by first | (simp [kd]; done) | decide)⟩ (by omega) (by omega)) (fun x0 xn w => CE_x H 2 rfl (sqF_2 ⟨x0, xn⟩ (fun r M e => w (by rw [e]; rfl))) (by omega) (by omega)))
  obtain ⟨r, w, M, et⟩ := kd_cases.2.2.1 k0
  rw [et] at Ka
  refine k67_6 (r_square Ka (fun e => ?_) (fun e => CE_x H 2 rfl (sqF_2 ⟨x0, xn⟩ (fun r' M' e' => e (by
    rw [et] at e'
    have e2 := Sum.inl.inj (Sum.inr.inj (Sum.inr.inj e'))
    rw [(Prod.mk.inj e2).1, (Prod.mk.inj (Prod.mk.inj e2).2).1]))) (by omega) (by omega)))
  subst e
  obtain ⟨r14, _⟩ := KT_rw Ka
  refine k67_11 H.1.1 mo' (wm_mono (wq_MN (fun h1 kc ks MM A1 b1 b2 => ?_)) (u_ownOf A (by decide) mo' lo (RM_le rm (by omega)) Ka ka))
  rw [ownM_e] at MM
  have dO : ∀ i j, i < r → j < r → zp_deg (ownM M i j) 11 := fun i j h1 h2 => by
    rw [← ownM_e]
    show zp_deg (if i = j then _ else _) 11
    split
    · exact deg_add (fun k hk => (dgp_X 1).2.1 k (by omega)) (deg_Cm _ (KT_d11 Ka h1 h2))
    · exact deg_add (deg_le (zp_C_deg 0) (by decide)) (deg_Cm _ (KT_d11 Ka h1 h2))
  refine k67_20 (CA_MF H MM.1 A1).1.1 (keep_MF H MM A1 b1 b2 r14 r14 (fun i j h1 h2 => deg_le (dO i j h1 h2) (by decide)) (bad := 3) rfl (fun res k => ?_) (fun v h' x y q => k67_23 q))
  obtain ⟨s1, s2⟩ := kmR_small k dO
  exact sqF_0 ⟨x0, xn⟩ et s1 s2
/-- THE CALL companion -/
theorem u_companion (H : CA h n T tx lf lp tk) (mo' : MO h) (rm : RM h 100) {x : Int} (hx : In3 x) : wm sw_P (D + 5) 13 [.index 1, vi x] h (fun out => ∃ res, unS n T (fun k => k = 0) x (cmpF n) res ∧ CE 100 4000 100 [3, 1, 0] h n T tx lf lp tk res out) := by
  refine wm_in (cd := sw_c13) (nL := 4) (hd := sw_h13) rfl rfl ?_
  have lo := H.1.2
  obtain ⟨_, _, A, _⟩ := id H
  refine k13_0 H.1.1 (r_thing H hx (fun a x0 xn ka Ka => ?_) (fun w => CE_x H 1 rfl (unS_1 w) (by omega) (by omega)))
  have bad : (∀ f, T x.toNat = th_fr f (zp_C 1) → ¬ ((1 ≤ hi f ∧ hi f ≤ 4) ∧ f.1 (hi f).toNat = 1)) → unS n T (fun k => k = 0) x (cmpF n) (.inr 2) := fun w => by
    by_cases k0 : kd (T x.toNat) = 0
    · obtain ⟨N, Dn, et⟩ := kd_cases.1 k0
      refine unS_3 ⟨x0, xn⟩ k0 ?_
      rw [et]
      exact ⟨fun _ => rfl, fun q => absurd q.2 (w N (by rw [et, q.1]))⟩
    · exact unS_2 ⟨x0, xn⟩ k0
  refine k13_5 (r_whole Ka ka (fun f ef df => ?_) (fun w => CE_x H 2 rfl (bad (fun f e => absurd e (w f))) (by omega) (by omega)))
  have bad2 : ¬ ((1 ≤ hi f ∧ hi f ≤ 4) ∧ f.1 (hi f).toNat = 1) → unS n T (fun k => k = 0) x (cmpF n) (.inr 2) := fun w => bad (fun f' e => by
    rw [ef] at e
    rw [← (Prod.mk.inj (Sum.inl.inj e)).1]
    exact w)
  obtain ⟨q1, l1, r1, m1, ga, Pf, _, x1, x2, x3, x4, x5, kq⟩ := KT_whole Ka ef lo
  obtain ⟨e1, _, P1, b1, _, y1, y2⟩ := id Pf
  have c1 := b1.1
  have e41 := fD (L := 41) df (by omega) e1 b1
  have he := dgp_of b1 (by omega)
  refine k13_10 (z10 := e1) ga P1.2.1 (fun w => k13_39 (CE_x H 2 rfl (bad2 (fun q => by omega)) (by omega) (by omega))) (fun w1 => ?_) (c12 := by unfold In3; omega)
  refine k13_23 (fun w => k13_39 (CE_x H 2 rfl (bad2 (fun q => by omega)) (by omega) (by omega))) (fun w4 => ?_) (c1 := by unfold In3; omega)
  obtain ⟨m, em⟩ : ∃ m : Nat, e1 = m := ⟨e1.toNat, by omega⟩
  subst em
  refine k13_28 ga (PF_c Pf) (r_lead Pf b1 ?_)
  have lm := (f.1 m).isLt
  refine k13_35 (fun w => ?_) (fun w => k13_39 (CE_x H 2 rfl (bad2 (fun q => by
    have q2 := q.2
    rw [he, show ((m : Int)).toNat = m by omega] at q2
    exact w (by rw [q2]; rfl))) (by omega) (by omega))) (c1 := by unfold In3; omega)
  have fm : f.1 m = 1 := F_ext (by rw [w]; rfl)
  have ok : zp_C 1 = zp_C 1 ∧ (1 ≤ hi f ∧ hi f ≤ 4) ∧ f.1 (hi f).toNat = 1 := ⟨rfl, by rw [he]; omega, by rw [he, show ((m : Int)).toNat = m by omega]; exact fm⟩
  have sp : ∀ res, ((n : Int) = 150 → res = .inr 3) → ((n : Int) ≠ 150 → res = .inl (th_ma m m (cmpM f m))) → unS n T (fun k => k = 0) x (cmpF n) res := fun res s1 s2 => unS_3 ⟨x0, xn⟩ (by rw [ef]; rfl) (by
    rw [ef]
    refine ⟨fun q => absurd ok q, fun _ => ⟨s1, fun q => ?_⟩⟩
    rw [he, show ((m : Int)).toNat = m by omega]
    exact s2 q)
  refine k13_47 H.1.1 ga mo' (wm_mono (wq_MN (fun h1 kc ks MM A1 b1' b2 => ?_)) (u_companionOf A (by decide) mo' lo (RM_le rm (by omega)) Pf kq b1 (by omega)))
  have dO : ∀ i j, i < m → j < m → zp_deg (cmpM f m i j) 11 := fun i j h1 h2 => by
    unfold cmpM
    split
    · exact deg_le (zp_C_deg _) (by decide)
    · split <;> exact deg_le (zp_C_deg _) (by decide)
  refine k13_59 (CA_MF H MM.1 A1).1.1 (keep_MF H MM A1 b1' b2 (by omega) (by omega) (fun i j h1 h2 => deg_le (dO i j h1 h2) (by decide)) (bad := 3) rfl (fun res k => ?_) (fun v h' x y q => k13_62 q))
  obtain ⟨s1, s2⟩ := kmR_small k dO
  exact sp res s1 s2
/-- the value of a fraction where it must have one -/
theorem r_valueThere {kc ks : Nat} {a : Nat} {N Dn : zp_R} (ta : TRD h a N Dn) {x : Int} (hx : 0 ≤ x ∧ x < 32003) (ok : zp_ev (nF x) Dn ≠ 0 → wr sw_P d cd [] (nx, ls, vi ((zp_ev (nF x) N * zp_ev (nF x) Dn ^ 32001 : zp_F).val : Int) :: rest, h, kc, ks) Q) (bad : zp_ev (nF x) Dn = 0 → Q (.inr 2, h, kc + 1, ks + 6)) : wm sw_P (D + 3) 100 [.index a, vi x] h (wq sw_P d cd [] nx ls rest kc ks Q) := by
  by_cases e : zp_ev (nF x) Dn = 0
  · refine wm_mono (Q' := fun out => out = (.inr 2, h, 1, 6)) (fun out eo => by rw [eo]; exact ⟨rfl, bad e⟩) ?_
    refine wm_in (cd := sw_c100) (nL := 3) (hd := sw_h100) rfl rfl ?_
    refine k100_0 (wm_mono (fun out => ?_) (u_valueAtT ta hx))
    intro ⟨v, hv, eo⟩
    refine wq_r ?_ out eo
    rw [hv.1 e]
    exact k100_5 (fun w => absurd w (by first | (simp [kd]; done) | decide)) (fun _ => k100_10 rfl) (c1 := by decide)
  · refine wm_mono (Q' := qr (vi ((zp_ev (nF x) N * zp_ev (nF x) Dn ^ 32001 : zp_F).val : Int)) h) (fun out eo => wq_r (ok e) out eo) ?_
    refine wm_in (cd := sw_c100) (nL := 3) (hd := sw_h100) rfl rfl ?_
    refine k100_0 (wm_mono (fun out => ?_) (u_valueAtT ta hx))
    intro ⟨v, hv, eo⟩
    refine wq_r ?_ out eo
    have l := (zp_ev (nF x) N * zp_ev (nF x) Dn ^ 32001 : zp_F).isLt
    rw [hv.2 e]
    exact k100_5 (fun _ => k100_18 rfl) (fun w => absurd (by omega) w) (c1 := by unfold In3; omega)
theorem r_terms {kc ks : Nat} {a : Nat} {N Dn : zp_R} {z : Int} (ta : TRD h a N Dn) (hz : In3 z) (ok : N ≠ zp_C 0 → 0 ≤ z → z ≤ 60 → wr sw_P d cd [] (nx, ls, rest, h, kc, ks) Q) (bad : (N = zp_C 0 ∨ ¬ (0 ≤ z ∧ z ≤ 60)) → Q (.inr 1, h, kc + 1, ks + 6)) : wm sw_P (D + 1) 57 [.index a, vi z] h (wq sw_P d cd [] nx ls rest kc ks Q) := by
  obtain ⟨q, lq, r, lr, zz, _, _, _, ga, PN, PD⟩ := ta
  obtain ⟨e1, _, P1, b1, _, y1, y2⟩ := id PN
  have c1 := b1.1
  by_cases e : N = zp_C 0 ∨ ¬ (0 ≤ z ∧ z ≤ 60)
  · refine wm_mono (Q' := fun out => out = (.inr 1, h, 1, 6)) (fun out eo => by rw [eo]; exact ⟨rfl, bad e⟩) ?_
    refine wm_in (cd := sw_c57) (nL := 2) (hd := sw_h57) rfl rfl ?_
    refine k57_0 (z10 := e1) ga P1.2.1 (fun _ => k57_20 rfl) (fun w => k57_10 (fun _ => k57_20 rfl) (fun w2 => k57_14 (fun w3 => ?_) (fun _ => k57_20 rfl) (c1 := hz)) (c1 := hz)) (c12 := by unfold In3; omega)
    exfalso
    rcases e with e | e
    · have := dgp_none e b1
      omega
    · omega
  · refine wm_mono (fun out eo => wq_v (ok (fun q => e (.inl q)) (by omega) (by omega)) out eo) (Q' := qv h) ?_
    refine wm_in (cd := sw_c57) (nL := 2) (hd := sw_h57) rfl rfl ?_
    exact k57_0 (z10 := e1) ga P1.2.1 (fun w => absurd (.inl (dgp_0 b1 w)) e) (fun w => k57_10 (fun w2 => absurd w2 (by omega)) (fun w2 => k57_14 (fun w3 => k57_28 rfl) (fun w3 => absurd (by omega) w3) (c1 := hz)) (c1 := hz)) (c12 := by unfold In3; omega)
theorem htS_1 {x z last : Int} (w : ¬ (0 ≤ x ∧ x < (n : Int))) : htS n T x z last 1 := ⟨fun _ => rfl, fun q => absurd q w⟩
theorem htS_k {x z last : Int} (x0 : 0 ≤ x ∧ x < (n : Int)) (k : kd (T x.toNat) ≠ 0) : htS n T x z last 2 := ⟨fun q => absurd x0 q, fun _ => by
  revert k
  generalize T x.toNat = t
  intro k
  rcases t with ⟨N1, D1⟩ | f | ⟨r, w, M⟩ | ⟨n1, so, va⟩
  · exact absurd rfl k
  · exact rfl
  · exact rfl
  · exact rfl⟩
theorem htS_f {x z last : Int} {N Dn : zp_R} {c : Int} (x0 : 0 ≤ x ∧ x < (n : Int)) (e : T x.toNat = th_fr N Dn) (f : htF z last (th_fr N Dn) c) : htS n T x z last c := ⟨fun q => absurd x0 q, fun _ => by rw [e]; exact f⟩
theorem cx_tr (a b c : zp_F) : a * (b * c) = a * b * c := by grind
/-- THE CALL term -/
theorem u_term (H : CA h n T tx lf lp tk) {x z : Int} (hx : In3 x) (hz : In3 z) : wm sw_P (D + 4) 92 [.index 1, vi x, vi z] h (fun out => ∃ c v, trmS n T x z c v ∧ CV 100 4000 100 [3, 1, 2] h n T tx lf lp tk c v out) := by
  refine wm_in (cd := sw_c92) (nL := 6) (hd := sw_h92) rfl rfl ?_
  refine k92_0 H.1.1 (r_ofKind H hx (by decide) (fun a x0 xn ka Ka k0 => ?_) (fun w => ⟨1, 0, ⟨htS_1 w, fun _ => rfl, fun q => absurd q (by first | (simp [kd]; done) | decide)⟩, CV_x H 1 0 (by decide) rfl (by omega) (by omega)⟩) (fun x0 xn w => ⟨2, 0, ⟨htS_k ⟨x0, xn⟩ w, fun _ => rfl, fun q => absurd q (by first | (simp [kd]; done) | decide)⟩, CV_x H 2 0 (by decide) rfl (by omega) (by omega)⟩))
  obtain ⟨N, Dn, et⟩ := kd_cases.1 k0
  rw [et] at Ka
  obtain ⟨ta, dN, dD, _⟩ := KT_T Ka ka
  refine k92_6 (r_terms ta hz (fun N0 z0 z60 => k92_12 ?_) (fun w => ⟨2, 0, ⟨htS_f ⟨x0, xn⟩ et ⟨fun _ => rfl, fun q => absurd w q⟩, fun _ => rfl, fun q => absurd q (by first | (simp [kd]; done) | decide)⟩, CV_x H 2 0 (by decide) rfl (by omega) (by omega)⟩))
  obtain ⟨m, em⟩ : ∃ m : Nat, z = m := ⟨z.toNat, by omega⟩
  subst em
  have ok : ¬ (N = zp_C 0 ∨ ¬ (0 ≤ (m : Int) ∧ (m : Int) ≤ 60)) := fun q => by
    rcases q with q | q
    · exact N0 q
    · omega
  have loop : ∀ (l i : Nat), i + l = m → (∀ k : Nat, k < i → zp_ev (nF (k : Int)) Dn ≠ 0) → wr sw_P (D + 3) sw_c92 sw_h92 (18, [.index 1, vi x, vi (m : Int), .index a, vi ((tmv N Dn i).val : Int), vi (i : Int)], [], h, 0, 0) (fun out => ∃ c v, trmS n T x m c v ∧ CV 100 4000 100 [3, 1, 2] h n T tx lf lp tk c v out) := by
    intro l
    induction l with
    | zero =>
      intro i hi2 all
      have e : i = m := by omega
      subst e
      refine k92_18 (fun _ => k92_45 ⟨0, _, ⟨htS_f ⟨x0, xn⟩ et ⟨fun q => absurd q ok, fun _ => ⟨fun ⟨k, k1, k2⟩ => absurd k2 (all k (by omega)), fun _ => rfl⟩⟩, fun q => absurd rfl q, fun _ => ?_⟩, CV_v H _ (by omega) (by omega)⟩) (fun q => absurd (Int.le_refl _) q) (c1 := by unfold In3; omega) (c2 := by unfold In3; omega)
      rw [et]
      show _ = ((tmv N Dn ((i : Int)).toNat).val : Int)
      rw [show ((i : Int)).toNat = i by omega]
    | succ l ih =>
      intro i hi2 all
      refine k92_18 (fun q => absurd q (by omega)) (fun _ => ?_) (c1 := by unfold In3; omega) (c2 := by unfold In3; omega)
      refine k92_24 (r_valueThere ta (x := (i : Int)) (by omega) (fun ne => ?_) (fun e => ⟨3, 0, ⟨htS_f ⟨x0, xn⟩ et ⟨fun q => absurd q ok, fun _ => ⟨fun _ => rfl, fun q => absurd e (q i (by omega))⟩⟩, fun _ => rfl, fun q => absurd q (by first | (simp [kd]; done) | decide)⟩, CV_x H 3 0 (by decide) rfl (by omega) (by omega)⟩))
      refine k92_32 ?_ (c1 := pr_In3 _ _)
      rw [tm_pr, show (i : Int) + 1 = ((i + 1 : Nat) : Int) by omega]
      have e : tmv N Dn i * (zp_ev (nF (i : Int)) N * zp_ev (nF (i : Int)) Dn ^ 32001) = tmv N Dn (i + 1) := by
        rw [tmv_s]
        exact cx_tr _ _ _
      rw [e]
      refine ih (i + 1) (by omega) (fun k hk => ?_)
      by_cases q : k = i
      · rw [q]; exact ne
      · exact all k (by omega)
  exact loop m 0 (by omega) (fun k hk => absurd hk (Nat.not_lt_zero k))
theorem sm_s (f : Nat → zp_F) (n : Nat) : zp_sum f (n + 1) = zp_sum f n + f n := rfl
/-- THE CALL sum -/
theorem u_sumC (H : CA h n T tx lf lp tk) {x z : Int} (hx : In3 x) (hz : In3 z) : wm sw_P (D + 4) 89 [.index 1, vi x, vi z] h (fun out => ∃ c v, sumS n T x z c v ∧ CV 100 4000 100 [3, 1, 2] h n T tx lf lp tk c v out) := by
  refine wm_in (cd := sw_c89) (nL := 7) (hd := sw_h89) rfl rfl ?_
  refine k89_0 H.1.1 (r_ofKind H hx (by decide) (fun a x0 xn ka Ka k0 => ?_) (fun w => ⟨1, 0, ⟨htS_1 w, fun _ => rfl, fun q => absurd q (by first | (simp [kd]; done) | decide)⟩, CV_x H 1 0 (by decide) rfl (by omega) (by omega)⟩) (fun x0 xn w => ⟨2, 0, ⟨htS_k ⟨x0, xn⟩ w, fun _ => rfl, fun q => absurd q (by first | (simp [kd]; done) | decide)⟩, CV_x H 2 0 (by decide) rfl (by omega) (by omega)⟩))
  obtain ⟨N, Dn, et⟩ := kd_cases.1 k0
  rw [et] at Ka
  obtain ⟨ta, dN, dD, _⟩ := KT_T Ka ka
  refine k89_6 (r_terms ta hz (fun N0 z0 z60 => ?_) (fun w => ⟨2, 0, ⟨htS_f ⟨x0, xn⟩ et ⟨fun _ => rfl, fun q => absurd w q⟩, fun _ => rfl, fun q => absurd q (by first | (simp [kd]; done) | decide)⟩, CV_x H 2 0 (by decide) rfl (by omega) (by omega)⟩))
  obtain ⟨m, em⟩ : ∃ m : Nat, z = m := ⟨z.toNat, by omega⟩
  subst em
  have ok : ¬ (N = zp_C 0 ∨ ¬ (0 ≤ (m : Int) ∧ (m : Int) ≤ 60)) := fun q => by
    rcases q with q | q
    · exact N0 q
    · omega
  have fin : ∀ v : Int, v = ((zp_sum (tmv N Dn) m).val : Int) → (∀ k : Nat, (k : Int) < (m : Int) - 1 → zp_ev (nF (k : Int)) Dn ≠ 0) → sumS n T x m 0 v := fun v ev all => ⟨htS_f ⟨x0, xn⟩ et ⟨fun q => absurd q ok, fun _ => ⟨fun ⟨k, k1, k2⟩ => absurd k2 (all k k1), fun _ => rfl⟩⟩, fun q => absurd rfl q, fun _ => by
    rw [et]
    show _ = ((zp_sum (tmv N Dn) ((m : Int)).toNat).val : Int)
    rw [show ((m : Int)).toNat = m by omega]
    exact ev⟩
  have loop : ∀ (l i : Nat), i + 1 + l = m → (∀ k : Nat, k < i → zp_ev (nF (k : Int)) Dn ≠ 0) → wr sw_P (D + 3) sw_c89 sw_h89 (29, [.index 1, vi x, vi (m : Int), .index a, vi ((tmv N Dn i).val : Int), vi ((zp_sum (tmv N Dn) (i + 1)).val : Int), vi (i : Int)], [], h, 0, 0) (fun out => ∃ c v, sumS n T x m c v ∧ CV 100 4000 100 [3, 1, 2] h n T tx lf lp tk c v out) := by
    intro l
    induction l with
    | zero =>
      intro i hi2 all
      have e : m = i + 1 := by omega
      subst e
      exact k89_29 (fun _ => k89_69 ⟨0, _, fin _ rfl (fun k hk => all k (by omega)), CV_v H _ (by omega) (by omega)⟩) (fun q => absurd (by omega) q) (c1 := by unfold In3; omega) (c2 := by unfold In3; omega)
    | succ l ih =>
      intro i hi2 all
      refine k89_29 (fun q => absurd q (by omega)) (fun _ => ?_) (c1 := by unfold In3; omega) (c2 := by unfold In3; omega)
      refine k89_37 (r_valueThere ta (x := (i : Int)) (by omega) (fun ne => ?_) (fun e => ⟨3, 0, ⟨htS_f ⟨x0, xn⟩ et ⟨fun q => absurd q ok, fun _ => ⟨fun _ => rfl, fun q => absurd e (q i (by omega))⟩⟩, fun _ => rfl, fun q => absurd q (by first | (simp [kd]; done) | decide)⟩, CV_x H 3 0 (by decide) rfl (by omega) (by omega)⟩))
      have e : tmv N Dn i * (zp_ev (nF (i : Int)) N * zp_ev (nF (i : Int)) Dn ^ 32001) = tmv N Dn (i + 1) := by
        rw [tmv_s]
        exact cx_tr _ _ _
      have b1 := (zp_sum (tmv N Dn) (i + 1)).isLt
      have b2 := (tmv N Dn (i + 1)).isLt
      refine k89_45 ?_ (c1 := pr_In3 _ _) (c3 := by rw [tm_pr, e]; unfold In3; omega)
      have e2 : Int.tmod (((zp_sum (tmv N Dn) (i + 1)).val : Int) + ((tmv N Dn (i + 1)).val : Int)) 32003 = ((zp_sum (tmv N Dn) (i + 1 + 1)).val : Int) := by
        rw [tmod_nn (by omega), ← nF_v, nF_add, nF_val, nF_val, sm_s (tmv N Dn) (i + 1)]
      rw [tm_pr, e, e2, show (i : Int) + 1 = ((i + 1 : Nat) : Int) by omega]
      refine ih (i + 1) (by omega) (fun k hk => ?_)
      by_cases q : k = i
      · rw [q]; exact ne
      · exact all k (by omega)
  refine k89_12 (fun w => k89_23 (k89_24 ?_)) (fun w => k89_19 (k89_24 ?_)) (c2 := hz)
  · have s1 : ((zp_sum (tmv N Dn) (0 + 1)).val : Int) = 1 := by
      have : zp_sum (tmv N Dn) (0 + 1) = 1 := by
        show (0 : zp_F) + 1 = 1
        decide
      rw [this]
      rfl
    have l := loop (m - 1) 0 (by omega) (fun k hk => absurd hk (Nat.not_lt_zero k))
    rw [s1] at l
    exact l
  · have m0 : m = 0 := by omega
    subst m0
    exact k89_29 (fun _ => k89_69 ⟨0, _, fin _ rfl (fun k hk => by omega), CV_v H _ (by omega) (by omega)⟩) (fun q => absurd (by decide) q) (c1 := by decide) (c2 := by decide)
end
