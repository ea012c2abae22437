/-! the class: what the calls need; two things joined -/
theorem KT_kd {h : s_H} {c : Nat} {t : th} (K : KT h c t) : ∃ fs, s_get h c = some (1, 8, vi (kd t) :: fs) := by
  rcases t with ⟨N, Dn⟩ | f | ⟨r, w, M⟩ | ⟨n, so, va⟩
  · obtain ⟨_, _, _, _, g, _⟩ := K
    exact ⟨_, g⟩
  · obtain ⟨_, g, _⟩ := K
    exact ⟨_, g⟩
  · obtain ⟨_, _, g, _⟩ := K
    exact ⟨_, g⟩
  · obtain ⟨_, g, _⟩ := K
    exact ⟨_, g⟩
theorem KT_T {h : s_H} {c : Nat} {N Dn : zp_R} (K : KT h c (th_fr N Dn)) (k : kt h c) : TRD h c N Dn ∧ zp_deg N 41 ∧ zp_deg Dn 41 ∧ mo Dn ∧ co N Dn := by
  obtain ⟨q, lq, r, lr, h1, h2, h3, h4, h5, h6⟩ := K
  have b : ∀ {q}, kp h q → 39 ≤ q := fun {q} w => by rcases w with w | w <;> omega
  exact ⟨⟨q, lq, r, lr, 0, by have := k.1; omega, b h2, b h3, h1, h4, h5⟩, h6⟩
theorem mem3 {t p : Nat} (hp : p ∈ [t, t + 1, t + 3]) : p = t ∨ p = t + 1 ∨ p = t + 3 := by
  rcases List.mem_cons.mp hp with q | q
  · exact .inl q
  · rcases List.mem_cons.mp q with q | q
    · exact .inr (.inl q)
    · exact .inr (.inr (List.mem_singleton.mp q))
theorem setS_OE {h : s_H} {t : Nat} {F G : zp_R} (S : setS h t F G) : ∃ z, OE h t z := by
  obtain ⟨N, M, cc, w⟩ := S
  rcases w with ⟨w, _⟩ | ⟨w, _⟩
  · exact ⟨0, OUT_E w⟩
  · exact ⟨5, w⟩
/-- a worker has filled in result -/
theorem CA_res {h h' : s_H} {n : Nat} {T : Nat → th} {tx lf lp tk : Int} (H : CA h n T tx lf lp tk) (F : FA [1280, 1280 + 1, 1280 + 3] 0 h h') (A : AL h' 0) (o : ∃ z, OE h' 1280 z) : CA h' n T tx lf lp tk ∧ CF PA h h' ∧ h'.1 = h.1 := by
  have cf : CF PB h h' := CF_FA F (fun p hp => by have := mem3 hp; unfold PB; omega) (fun j j1 j2 => .inl ⟨j1, j2⟩)
  obtain ⟨_, _, _, _, w, _, z, o2⟩ := id H
  exact ⟨CA_keep H cf A (PE_A w F (.inr (by omega)) (fun p hp => by have := mem3 hp; unfold apt; omega)) o ⟨z, OE_A o2 F (by omega) (fun p hp => by have := mem3 hp; omega)⟩, CF_BA cf, F.1⟩
/-- a worker has filled in wide -/
theorem CA_wide {h h' : s_H} {n : Nat} {T : Nat → th} {tx lf lp tk : Int} (H : CA h n T tx lf lp tk) (F : FA [1278] 0 h h') (A : AL h' 0) (w : PE h' 1278 192) : CA h' n T tx lf lp tk ∧ CF PA h h' ∧ h'.1 = h.1 := by
  have cf : CF PB h h' := CF_FA F (fun p hp => by rw [List.mem_singleton.mp hp]; unfold PB; omega) (fun j j1 j2 => .inl ⟨j1, j2⟩)
  obtain ⟨_, _, _, _, _, ⟨z1, o1⟩, z2, o2⟩ := id H
  exact ⟨CA_keep H cf A w ⟨z1, OE_A o1 F (by omega) (fun p hp => by rw [List.mem_singleton.mp hp]; omega)⟩ ⟨z2, OE_A o2 F (by omega) (fun p hp => by rw [List.mem_singleton.mp hp]; omega)⟩, CF_BA cf, F.1⟩
theorem RM_A {h h' : s_H} {m m' : Nat} (r : RM h m) (a : CF PA h h') (lo : 1376 ≤ h.1) (hm : h'.1 + m' ≤ h.1 + m) : RM h' m' := RM_CF r a (fun j p => (FX_A j p).1) lo hm
section
variable {D d nx kc ks : Nat} {cd : s_Cd} {ls rest : List Term} {Q : s_O → Prop} {h : s_H} {n : Nat} {T : Nat → th} {tx lf lp tk : Int}
theorem r_thing (H : CA h n T tx lf lp tk) {x : Int} (hx : In3 x) (K : ∀ c, 0 ≤ x → x < n → kt h c → KT h c (T x.toNat) → wr sw_P d cd [] (nx, ls, .index c :: rest, h, kc, ks) Q) (bad : ¬ (0 ≤ x ∧ x < n) → Q (.inr 3, h, kc + 1, ks + 6)) : wm sw_P (D + 1) 93 [.index 1, vi x] h (wq sw_P d cd [] nx ls rest kc ks Q) := by
  refine wm_mono (fun out => ?_) (u_thing H hx)
  intro w
  rcases w with ⟨c, ⟨x0, xn⟩, k, KT', eo⟩ | ⟨w, eo⟩
  · exact wq_r (K c x0 xn k KT') out eo
  · rw [eo]
    exact ⟨rfl, bad w⟩
theorem r_kind {c : Nat} {t : th} (Kt : KT h c t) {k : Int} (hk : In3 k) (ok : kd t = k → wr sw_P d cd [] (nx, ls, rest, h, kc, ks) Q) (bad : kd t ≠ k → Q (.inr 1, h, kc + 1, ks + 6)) : wm sw_P (D + 1) 52 [.index c, vi k] h (wq sw_P d cd [] nx ls rest kc ks Q) := by
  obtain ⟨fs, g⟩ := KT_kd Kt
  have b := kd_b t
  by_cases e : kd t = k
  · refine wm_mono (fun out eo => wq_v (ok e) out eo) (Q' := qv h) ?_
    refine wm_in (cd := sw_c52) (nL := 2) (hd := sw_h52) rfl rfl ?_
    exact k52_0 (z5 := kd t) g (fun _ => k52_16 rfl) (fun w => absurd e w) (c7 := by unfold In3; omega) (c8 := hk)
  · refine wm_mono (Q' := fun out => out = (.inr 1, h, 1, 6)) (fun out eo => by rw [eo]; exact ⟨rfl, bad e⟩) ?_
    refine wm_in (cd := sw_c52) (nL := 2) (hd := sw_h52) rfl rfl ?_
    exact k52_0 (z5 := kd t) g (fun w => absurd w e) (fun _ => k52_8 rfl) (c7 := by unfold In3; omega) (c8 := hk)
theorem r_ofKind (H : CA h n T tx lf lp tk) {x k : Int} (hx : In3 x) (hk : In3 k) (K : ∀ c, 0 ≤ x → x < n → kt h c → KT h c (T x.toNat) → kd (T x.toNat) = k → wr sw_P d cd [] (nx, ls, .index c :: rest, h, kc, ks) Q) (bad : ¬ (0 ≤ x ∧ x < n) → Q (.inr 3, h, kc + 1, ks + 6)) (bad2 : 0 ≤ x → x < n → kd (T x.toNat) ≠ k → Q (.inr 1, h, kc + 1, ks + 6)) : wm sw_P (D + 2) 64 [.index 1, vi x, vi k] h (wq sw_P d cd [] nx ls rest kc ks Q) := by
  refine wm_mono (Q' := fun out => (∃ c, 0 ≤ x ∧ x < n ∧ kt h c ∧ KT h c (T x.toNat) ∧ kd (T x.toNat) = k ∧ qr (.index c) h out) ∨ (¬ (0 ≤ x ∧ x < n) ∧ out = (.inr 3, h, 1, 6)) ∨ (0 ≤ x ∧ x < n ∧ kd (T x.toNat) ≠ k ∧ out = (.inr 1, h, 1, 6))) (fun out w => ?_) ?_
  · rcases w with ⟨c, w1, w2, w3, w4, w5, eo⟩ | ⟨w, eo⟩ | ⟨w1, w2, w3, eo⟩
    · exact wq_r (K c w1 w2 w3 w4 w5) out eo
    · rw [eo]
      exact ⟨rfl, bad w⟩
    · rw [eo]
      exact ⟨rfl, bad2 w1 w2 w3⟩
  · refine wm_in (cd := sw_c64) (nL := 4) (hd := sw_h64) rfl rfl ?_
    refine k64_0 H.1.1 (r_thing H hx (fun c x0 xn kc' Kc => k64_5 (r_kind Kc hk (fun e => k64_11 (.inl ⟨c, x0, xn, kc', Kc, e, rfl⟩)) (fun e => .inr (.inr ⟨x0, xn, e, rfl⟩)))) (fun w => .inr (.inl ⟨w, rfl⟩)))
theorem r_01 {x : Int} (hx : In3 x) (ok : 0 ≤ x ∧ x ≤ 1 → wr sw_P d cd [] (nx, ls, rest, h, kc, ks) Q) (bad : ¬ (0 ≤ x ∧ x ≤ 1) → Q (.inr 1, h, kc + 1, ks + 6)) : wm sw_P (D + 1) 59 [vi x] h (wq sw_P d cd [] nx ls rest kc ks Q) := by
  by_cases e : 0 ≤ x ∧ x ≤ 1
  · refine wm_mono (fun out eo => wq_v (ok e) out eo) (Q' := qv h) ?_
    refine wm_in (cd := sw_c59) (nL := 1) (hd := sw_h59) rfl rfl ?_
    exact k59_0 (fun _ => k59_17 rfl) (fun w => k59_4 (fun _ => k59_17 rfl) (fun w2 => absurd e (by omega)) (c1 := hx)) (c1 := hx)
  · refine wm_mono (Q' := fun out => out = (.inr 1, h, 1, 6)) (fun out eo => by rw [eo]; exact ⟨rfl, bad e⟩) ?_
    refine wm_in (cd := sw_c59) (nL := 1) (hd := sw_h59) rfl rfl ?_
    exact k59_0 (fun w => absurd (by omega) e) (fun w => k59_4 (fun w => absurd (by omega) e) (fun w2 => k59_9 rfl) (c1 := hx)) (c1 := hx)
theorem r_below {x y : Int} (hx : In3 x) (hy : In3 y) (ok : 0 ≤ x ∧ x < y → wr sw_P d cd [] (nx, ls, rest, h, kc, ks) Q) (bad : ¬ (0 ≤ x ∧ x < y) → Q (.inr 3, h, kc + 1, ks + 6)) : wm sw_P (D + 1) 51 [vi x, vi y] h (wq sw_P d cd [] nx ls rest kc ks Q) := by
  by_cases e : 0 ≤ x ∧ x < y
  · refine wm_mono (fun out eo => wq_v (ok e) out eo) (Q' := qv h) ?_
    refine wm_in (cd := sw_c51) (nL := 2) (hd := sw_h51) rfl rfl ?_
    exact k51_0 (fun w => absurd w (by omega)) (fun w => k51_4 (fun _ => k51_17 rfl) (fun w2 => absurd e.2 w2) (c1 := hx) (c2 := hy)) (c1 := hx)
  · refine wm_mono (Q' := fun out => out = (.inr 3, h, 1, 6)) (fun out eo => by rw [eo]; exact ⟨rfl, bad e⟩) ?_
    refine wm_in (cd := sw_c51) (nL := 2) (hd := sw_h51) rfl rfl ?_
    exact k51_0 (fun w => k51_9 rfl) (fun w => k51_4 (fun w => absurd (by omega) e) (fun w2 => k51_9 rfl) (c1 := hx) (c2 := hy)) (c1 := hx)
/-- a whole one -/
theorem r_whole {c : Nat} {t : th} (Kt : KT h c t) (kc' : kt h c) (ok : ∀ f, t = th_fr f (zp_C 1) → zp_deg f 41 → wr sw_P d cd [] (nx, ls, rest, h, kc, ks) Q) (bad : (∀ f, t ≠ th_fr f (zp_C 1)) → Q (.inr 1, h, kc + 1, ks + 6)) : wm sw_P (D + 2) 58 [.index c] h (wq sw_P d cd [] nx ls rest kc ks Q) := by
  by_cases e : ∃ f, t = th_fr f (zp_C 1)
  · obtain ⟨f, ef⟩ := e
    rw [ef] at Kt
    obtain ⟨tr, df, _⟩ := KT_T Kt kc'
    refine wm_mono (fun out eo => wq_v (ok f ef df) out eo) (Q' := qv h) ?_
    refine wm_in (cd := sw_c58) (nL := 1) (hd := sw_h58) rfl rfl ?_
    obtain ⟨q, lq, r, lr, g, _⟩ := id Kt
    have d1 : dgp (zp_C 1) 0 := ⟨by decide, fun i hi2 => zp_C_deg 1 i (by omega), fun i hi2 => by
      have : i = 0 := by omega
      subst this
      show (if 0 = 0 then (1 : zp_F) else 0) ≠ 0
      decide⟩
    refine k58_0 (z5 := 0) g (fun w => absurd rfl w) (fun _ => k58_7 g (wm_mono (wq_r ?_) (u_isWhole tr d1))) (c7 := by decide)
    rw [if_pos rfl]
    exact k58_11 (fun _ => k58_22 rfl) (fun w => absurd (by decide) w) (c1 := by decide)
  · refine wm_mono (Q' := fun out => out = (.inr 1, h, 1, 6)) (fun out eo => by rw [eo]; exact ⟨rfl, bad (fun f w => e ⟨f, w⟩)⟩) ?_
    refine wm_in (cd := sw_c58) (nL := 1) (hd := sw_h58) rfl rfl ?_
    obtain ⟨fs, g⟩ := KT_kd Kt
    have b := kd_b t
    refine k58_0 (z5 := kd t) g (fun _ => k58_14 rfl) (fun w => ?_) (c7 := by unfold In3; omega)
    have k0 : kd t = 0 := Classical.byContradiction w
    rcases t with ⟨N, Dn⟩ | f | ⟨r, w, M⟩ | ⟨n, so, va⟩
    · obtain ⟨tr, dN, dD, mD, _⟩ := KT_T Kt kc'
      obtain ⟨mm, dm, _⟩ := dgp_mo mD
      refine k58_7 g (wm_mono (wq_r ?_) (u_isWhole tr dm))
      have ne : ¬ ((mm : Int) = 0) := fun z => by
        have h0 := dgp_of dm (by have := dgp_deg dm (n := mm + 1) (by omega); have h41 : mm < 41 := Nat.not_le.mp (fun q => dm.2.2 mm rfl (dD mm q)); omega)
        exact e ⟨N, by rw [mo_1 mD (deg_le dD (by decide)) (by omega)]⟩
      rw [if_neg ne]
      exact k58_11 (fun w => absurd rfl w) (fun _ => k58_14 rfl) (c1 := by decide)
    · exact absurd k0 (by first | (simp [kd]; done) | decide)
    · exact absurd k0 (by first | (simp [kd]; done) | decide)
    · exact absurd k0 (by first | (simp [kd]; done) | decide)
end
section
variable {D : Nat} {h : s_H} {n : Nat} {T : Nat → th} {tx lf lp tk : Int}
theorem dgp_le41 {f : zp_R} (df : zp_deg f 41) : ∀ e, dgp f e → e ≤ 90 := fun e he => by have := fD (L := 41) df (by omega) e he; omega
theorem mo_0 {f : zp_R} (h : mo f) : f ≠ zp_C 0 := mo_n0 h
theorem mulN0 {f g : zp_R} (hf : f ≠ zp_C 0) (hg : g ≠ zp_C 0) : zp_mul f g ≠ zp_C 0 := fun e => by
  obtain ⟨a, ha⟩ := f.2
  obtain ⟨b, hb⟩ := g.2
  obtain ⟨x, hx⟩ := dgp_ex a ha
  obtain ⟨y, hy⟩ := dgp_ex b hb
  have x0 : 0 ≤ x := Int.not_lt.mp (fun w => hf (dgp_0 hx w))
  have y0 : 0 ≤ y := Int.not_lt.mp (fun w => hg (dgp_0 hy w))
  have := dgp_none e (dgp_mul hx hy x0 y0)
  omega
/-- two fractions -/
theorem u_joinedF (H : CA h n T tx lf lp tk) (rm : RM h 20) {x : Int} (hx : x = 42 ∨ x = 43 ∨ x = 45 ∨ x = 47) {a b : Nat} {Na Da Nb Db : zp_R} (Ka : KT h a (th_fr Na Da)) (ka : kt h a) (Kb : KT h b (th_fr Nb Db)) (kb : kt h b) {bad zer : Int} {l : List Nat} (eb : exl l bad = 0) (ez : x = 47 → exl l zer = 2) : wm sw_P (D + 5) 32 [.index 1, vi x, .index a, .index b] h (fun out => ∃ res, ((x = 47 ∧ Nb = zp_C 0 → res = .inr zer) ∧ (¬ (x = 47 ∧ Nb = zp_C 0) → ∃ N Dn, cn (jnT x Na Da Nb Db) (jnB x Da Nb Db) N Dn ∧ fkR n N Dn bad res)) ∧ CE 15 300 20 l h n T tx lf lp tk res out) := by
  refine wm_in (cd := sw_c32) (nL := 4) (hd := sw_h32) rfl rfl ?_
  obtain ⟨ta, na, da, ma, _⟩ := KT_T Ka ka
  obtain ⟨tb, nb, db, mb, _⟩ := KT_T Kb kb
  obtain ⟨_, _, _, _, ga, _⟩ := id Ka
  obtain ⟨_, _, A, _, _, ⟨z, o1⟩, _⟩ := id H
  have lo := H.1.2
  refine k32_0 (z6 := 0) ga (r_kind Kb (by decide) (fun _ => ?_) (fun w => absurd rfl w))
  refine k32_8 (z5 := 0) ga (fun _ => ?_) (fun w => absurd (by decide) w) (c7 := by decide)
  refine k32_33 (z5 := 0) ga (fun _ => ?_) (fun w => absurd (by decide) w) (c7 := by decide)
  refine k32_53 (r_kind Ka (by decide) (fun _ => ?_) (fun w => absurd rfl w))
  by_cases zz : x = 47 ∧ Nb = zp_C 0
  · obtain ⟨e47, eN⟩ := zz
    subst e47
    rw [eN] at tb
    refine k32_58 H.1.1 A.1 (wm_mono (wq_AV (fun h1 O1 F1 A1 => ?_)) (u_joinZ A ta tb o1 (by decide)))
    obtain ⟨H1, C1', e1⟩ := CA_res H F1 A1 ⟨4, O1⟩
    refine k32_73 H1.1.1 (wm_mono (wq_CE (res := .inr zer) (fun v h' x y q => k32_76 q) C1' (by omega) (by omega) (by omega) (fun out c => ⟨.inr zer, ⟨fun _ => rfl, fun w => absurd ⟨rfl, eN⟩ w⟩, c⟩)) (u_keepZero H1 O1 (ez rfl)))
  · have G0 : jnB x Da Nb Db ≠ zp_C 0 := by
      unfold jnB
      by_cases q : x = 47
      · rw [if_pos q]
        exact mulN0 (mo_0 ma) (fun e => zz ⟨q, e⟩)
      · rw [if_neg q]
        exact mulN0 (mo_0 ma) (mo_0 mb)
    have d81 : ∀ {f g : zp_R}, zp_deg f 41 → zp_deg g 41 → zp_deg (zp_mul f g) 176 := fun df dg => deg_le (zp_deg_mul (n := 40) (m := 40) df dg) (by decide)
    have dT : zp_deg (jnT x Na Da Nb Db) 176 := by
      unfold jnT
      split
      · exact d81 na nb
      · split
        · exact d81 na db
        · exact deg_add (d81 na db) (deg_Cm _ (d81 nb da))
    have dB : zp_deg (jnB x Da Nb Db) 176 := by
      unfold jnB
      split
      · exact d81 da nb
      · exact d81 da db
    refine k32_58 H.1.1 A.1 (wm_mono (wq_AV (fun h1 S1 F1 A1 => ?_)) (u_join A (by decide) hx ta tb o1 (by decide) (dgp_le41 na) (dgp_le41 da) (dgp_le41 nb) (dgp_le41 db) G0))
    obtain ⟨H1, C1', e1⟩ := CA_res H F1 A1 (setS_OE S1)
    refine k32_73 H1.1.1 (wm_mono (fun out => ?_) (u_keepSet H1 (RM_A rm C1' lo (by omega)) S1 (by decide) (by omega) G0 dT dB eb))
    intro ⟨res, r1, r2⟩
    exact wq_CE (fun v h' x y q => k32_76 q) C1' (by omega) (by omega) (by omega) (fun out c => ⟨res, ⟨fun w => absurd w zz, fun _ => r1⟩, c⟩) out r2
/-- two series -/
theorem u_joinedS (H : CA h n T tx lf lp tk) (rm : RM h 20) {x : Int} (hx : x = 42 ∨ x = 43 ∨ x = 45 ∨ x = 47) {a b : Nat} {f g : zp_R} (Ka : KT h a (th_se f)) (Kb : KT h b (th_se g)) {bad zer : Int} {l : List Nat} (eb : exl l bad = 0) (ez : x = 47 → exl l zer = 2) : wm sw_P (D + 5) 32 [.index 1, vi x, .index a, .index b] h (fun out => ∃ res, ((x = 47 ∧ g.1 0 = 0 → res = .inr zer) ∧ (¬ (x = 47 ∧ g.1 0 = 0) → ∃ R, (x = 42 → R = cut (zp_mul f g) 25) ∧ (x = 47 → qs f g R 25) ∧ (x ≠ 42 → x ≠ 47 → R = cut (zp_add f (zp_mul (zp_C (nF (if x = 43 then 1 else 32002))) g)) 25) ∧ ((n : Int) = 150 → res = .inr bad) ∧ ((n : Int) ≠ 150 → res = .inl (th_se R)))) ∧ CE 15 300 20 l h n T tx lf lp tk res out) := by
  refine wm_in (cd := sw_c32) (nL := 4) (hd := sw_h32) rfl rfl ?_
  have lo := H.1.2
  obtain ⟨p, ga, kp1, gp, dp⟩ := id Ka
  obtain ⟨q, gb, kq1, gq, dq⟩ := id Kb
  have Sp : SR h p f := ⟨gp, by have := kp1.1; omega, kp1.2⟩
  have Sq : SR h q g := ⟨gq, by have := kq1.1; omega, kq1.2⟩
  have ix : In3 x := by unfold In3; omega
  refine k32_0 (z6 := 1) ga (r_kind Kb (by decide) (fun _ => ?_) (fun w => absurd rfl w))
  refine k32_8 (z5 := 1) ga (fun w => absurd rfl w) (fun _ => ?_) (c7 := by decide)
  by_cases zz : x = 47 ∧ g.1 0 = 0
  · refine k32_16 ga gb (wm_mono (Q' := fun out => out = (.inr 2, h, 1, 6)) (fun out eo => ?_) ?_)
    · rw [eo]
      exact ⟨rfl, .inr zer, ⟨fun _ => rfl, fun w => absurd zz w⟩, CE_t H (CF_refl _ _) zer (ez zz.1) (by omega) (by omega) (by omega)⟩
    · refine wm_in (cd := sw_c34) (nL := 3) (hd := sw_h34) rfl rfl ?_
      have e0 : gi (mk 25 (cf g)) 0 = 0 := by
        have e1 : gi (mk 25 (cf g)) 0 = ((g.1 0).val : Int) := gi_cf' (n := 0) rfl (by decide)
        rw [e1, zz.2]
        rfl
      exact k34_0 (fun _ => k34_12 (fun _ => k34_37 (a3 := mk 25 (cf g)) gq (fun w => absurd e0 w) (fun _ => k34_43 rfl) (c5 := by rw [mk_len]; omega) (c6 := by rw [e0]; decide)) (fun w => absurd zz.1 w) (c1 := ix)) (fun w => absurd (by omega) w) (c1 := ix)
  · have fin : ∀ (h1 : s_H) (a' : Nat) (R : zp_R) (kc ks : Nat), kc ≤ 3 → ks ≤ 100 → ((x = 42 → R = cut (zp_mul f g) 25) ∧ (x = 47 → qs f g R 25) ∧ (x ≠ 42 → x ≠ 47 → R = cut (zp_add f (zp_mul (zp_C (nF (if x = 43 then 1 else 32002))) g)) 25)) → zp_deg R 25 → CF PN h h1 → h1.1 = h.1 + 1 → h.1 ≤ a' → SR h1 a' R → wr sw_P (D + 4) sw_c32 sw_h32 (29, [.index 1, vi x, .index a, .index b], [.index a', .index 1], h1, kc, ks) (fun out => ∃ res, ((x = 47 ∧ g.1 0 = 0 → res = .inr zer) ∧ (¬ (x = 47 ∧ g.1 0 = 0) → ∃ R, (x = 42 → R = cut (zp_mul f g) 25) ∧ (x = 47 → qs f g R 25) ∧ (x ≠ 42 → x ≠ 47 → R = cut (zp_add f (zp_mul (zp_C (nF (if x = 43 then 1 else 32002))) g)) 25) ∧ ((n : Int) = 150 → res = .inr bad) ∧ ((n : Int) ≠ 150 → res = .inl (th_se R)))) ∧ CE 15 300 20 l h n T tx lf lp tk res out) := fun h1 a' R kc ks b1 b2 φ dR F1 e1 l1 S1 => by
      have H1 := CA_G H F1
      refine k32_29 H1.1.1 (wm_mono (fun out => ?_) (u_keepSeries H1 (RM_N rm F1 (by omega)) ⟨by omega, S1.2.2⟩ S1.1 dR eb))
      intro ⟨res, r1, r2, r3⟩
      exact wq_CE (fun v h' x y q => k32_32 q) (CF_NA F1) (by omega) (by omega) (by omega) (fun out c => ⟨res, ⟨fun w => absurd w zz, fun _ => ⟨R, φ.1, φ.2.1, φ.2.2, r1, r2⟩⟩, c⟩) out r3
    refine k32_16 ga gb (wm_mono (Q' := SN h 1 (fun R => (x = 42 → R = cut (zp_mul f g) 25) ∧ (x = 47 → qs f g R 25) ∧ (x ≠ 42 → x ≠ 47 → R = cut (zp_add f (zp_mul (zp_C (nF (if x = 43 then 1 else 32002))) g)) 25))) (wq_SN (fun h1 a' R φ dR F1 e1 l1 S1 => fin h1 a' R _ _ (by omega) (by omega) φ dR F1 e1 l1 S1)) ?_)
    refine wm_in (cd := sw_c34) (nL := 3) (hd := sw_h34) rfl rfl ?_
    have rm1 := RM_le rm (show 1 ≤ 20 by decide)
    have ret : ∀ {φ : zp_R → Prop} {ψ : zp_R → Prop} (imp : ∀ R, φ R → ψ R) {d nx : Nat} {cd : s_Cd} {ls : List Term}, (∀ h' a' x y, (SN h 1 ψ) (.inl (some (.index a')), h', x, y) → wr sw_P d cd [] (nx, ls, [.index a'], h', x, y) (SN h 1 ψ)) → ∀ out, SN h 1 φ out → wq sw_P d cd [] nx ls [] 0 0 (SN h 1 ψ) out := fun {φ ψ} imp {d nx cd ls} k out w => by
      obtain ⟨h', a', R, φR, dR, F1, e1, l1, S1, eo⟩ := w
      rw [eo]
      exact k h' a' _ _ ⟨h', a', R, imp R φR, dR, F1, e1, l1, S1, by rw [Nat.zero_add, Nat.zero_add]⟩
    refine k34_0 (fun n42 => k34_12 (fun e47 => ?_) (fun n47 => ?_) (c1 := ix)) (fun w => ?_) (c1 := ix)
    · have g0 : g.1 0 ≠ 0 := fun e => zz ⟨e47, e⟩
      have e0 : gi (mk 25 (cf g)) 0 = ((g.1 0).val : Int) := gi_cf' (n := 0) rfl (by decide)
      have l0 := (g.1 0).isLt
      refine k34_37 (a3 := mk 25 (cf g)) gq (fun _ => ?_) (fun w => ?_) (c5 := by rw [mk_len]; omega) (c6 := by rw [e0]; unfold In3; omega)
      · exact k34_51 (wm_mono (ret (fun R hR => ⟨fun w => absurd w n42, fun _ => hR, fun _ w => absurd e47 w⟩) (fun h' a' x y q => k34_56 q)) (u_quotientS rm1 (by omega) Sp Sq g0))
      · exfalso
        have := Classical.byContradiction w
        rw [e0] at this
        exact g0 (F_ext (by rw [this]; rfl))
    · have go : ∀ v : Int, v = (if x = 43 then 1 else 32002) → wr sw_P (D + 3) sw_c34 sw_h34 (33, [vi x, .index p, .index q], [vi v, .index q, .index p], h, 0, 0) (SN h 1 (fun R => (x = 42 → R = cut (zp_mul f g) 25) ∧ (x = 47 → qs f g R 25) ∧ (x ≠ 42 → x ≠ 47 → R = cut (zp_add f (zp_mul (zp_C (nF (if x = 43 then 1 else 32002))) g)) 25))) := fun v ev => k34_33 (wm_mono (ret (fun R hR => ⟨fun w => absurd w n42, fun w => absurd w n47, fun _ _ => by rw [← ev]; exact hR⟩) (fun h' a' x y q => k34_36 q)) (u_plusS rm1 (by omega) Sp Sq (by rw [ev]; split <;> decide)))
      exact k34_18 (fun w => k34_30 (go 32002 (if_neg w).symm)) (fun w => k34_26 (go 1 (if_pos (Classical.byContradiction w)).symm)) (c3 := ix)
    · have e42 : x = 42 := Classical.byContradiction w
      exact k34_6 (wm_mono (ret (fun R hR => ⟨fun _ => hR, fun w => absurd (e42.symm.trans w) (by decide), fun w => absurd e42 w⟩) (fun h' a' x y q => k34_11 q)) (u_productS rm1 (by omega) Sp Sq))
/-- what can't be joined -/
theorem u_joinedK (H : CA h n T tx lf lp tk) {x : Int} {a b : Nat} {t u : th} (Ka : KT h a t) (Kb : KT h b u) (ne : kd t ≠ kd u ∨ kd t = 3) : wm sw_P (D + 5) 32 [.index 1, vi x, .index a, .index b] h (fun out => out = (.inr 1, h, 1, 6)) := by
  refine wm_in (cd := sw_c32) (nL := 4) (hd := sw_h32) rfl rfl ?_
  obtain ⟨fa, ga⟩ := KT_kd Ka
  have ba := kd_b t
  refine k32_0 (z6 := kd t) ga (r_kind Kb (by unfold In3; omega) (fun e => ?_) (fun _ => rfl))
  have k3 : kd t = 3 := by
    rcases ne with w | w
    · exact absurd e.symm w
    · exact w
  refine k32_8 (z5 := kd t) ga (fun _ => ?_) (fun w => absurd (by omega) w) (c7 := by unfold In3; omega)
  refine k32_33 (z5 := kd t) ga (fun _ => ?_) (fun w => absurd (by omega) w) (c7 := by unfold In3; omega)
  exact k32_53 (r_kind Ka (by decide) (fun e => absurd e (by omega)) (fun _ => rfl))
end
