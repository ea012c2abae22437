/-! the reference's findOwn, factors, isFactor, factor, often in the picture -/
/-- what the factors are of: the bottom, of a whole one the top -/
def ownp (a b : zp_R) : zp_R := if hi b = 0 ∧ cf b 0 = 1 then a else b
theorem ffL_A {A B : Nat → Nat → Int} (m : sm A B ffL) : sm A B scrA := sm_sub m rfl
/-- factors: the code, the answer -/
def fcsS (cnt : Int) (T : Nat → th) (x c a : Int) : Prop :=
  (¬ (0 ≤ x ∧ x < cnt) → c = 1 ∧ a = 0) ∧ ((0 ≤ x ∧ x < cnt) → match T x.toNat with
  | .inl (N, D) => c = 0 ∧ ∃ n F G O, facR (ownp N D) n F G O ∧ a = (n : Int)
  | _ => c = 2 ∧ a = 0)
def isfQ (s : Nat → Int) (A : Nat → Nat → Int) (T : Nat → th) (x k : Int) : Term → (Nat → Int) → (Nat → Nat → Int) → Prop := fun v s' A' =>
  sq s s' ∧ sm A A' scrA ∧ ((v = vi 0 ∧ one s T x 0 ≠ 0 ∧ s' 0 = one s T x 0) ∨ ∃ (f : Nat) (a b : zp_R) (n : Nat) (F : Nat → zp_R) (G O : Nat → Nat), x = (f : Int) ∧ (f : Int) < s 1 ∧ T f = .inl (a, b) ∧ n ≤ 40 ∧ ffR A' (ownp a b) n F G O ∧ ((v = vi 0 ∧ ¬ (0 ≤ k ∧ k < n) ∧ s' 0 = 1) ∨ (v = vi 1 ∧ (0 ≤ k ∧ k < n) ∧ s' 0 = 0)))
/-- factor k -/
def ftrF (cnt k : Int) (t : th) (res : Sum th Int) : Prop := match t with
  | .inl (a, b) => ∃ n F G O, facR (ownp a b) n F G O ∧ (¬ (0 ≤ k ∧ k < (n : Int)) → res = .inr 1) ∧ ((0 ≤ k ∧ k < (n : Int)) → keeps cnt (F k.toNat) 3 res)
  | _ => True
/-- often: the code, the answer -/
def oftS (cnt : Int) (T : Nat → th) (x k c a : Int) : Prop :=
  (¬ (0 ≤ x ∧ x < cnt) → c = 1 ∧ a = 0) ∧ ((0 ≤ x ∧ x < cnt) → match T x.toNat with
  | .inl (N, D) => ∃ n F G O, facR (ownp N D) n F G O ∧ (¬ (0 ≤ k ∧ k < (n : Int)) → c = 1 ∧ a = 0) ∧ ((0 ≤ k ∧ k < (n : Int)) → c = 0 ∧ a = (O k.toNat : Int))
  | _ => c = 2 ∧ a = 0)
theorem one_c {s : Nat → Int} {T : Nat → th} {x : Int} (q : one s T x 0 ≠ 0) : (¬ (0 ≤ x ∧ x < s 1) ∧ one s T x 0 = 1) ∨ ((0 ≤ x ∧ x < s 1) ∧ kd (T x.toNat) ≠ 0 ∧ one s T x 0 = 2) := by
  unfold one at q ⊢
  by_cases w : 0 ≤ x ∧ x < s 1
  · rw [if_neg (not_not_intro w)] at q ⊢
    by_cases w2 : kd (T x.toNat) = 0
    · rw [if_pos w2] at q; exact absurd rfl q
    · rw [if_neg w2]; exact .inr ⟨w, w2, rfl⟩
  · rw [if_pos w]; exact .inl ⟨w, rfl⟩
section
variable {d : Nat} {h : s_H} {s : Nat → Int} {A : Nat → Nat → Int}
theorem V_findOwn (hv : RV h s A) {a b : zp_R} (ha : A 1298 = cf a) (hb : A 1299 = cf b) (da : zp_deg a 41) (db : zp_deg b 41) : wm sw_P (d + 8) 454 [.index 1290] h (RN h (fun s' A' => ffq s s' ∧ sm A A' ffL ∧ ∃ (n : Nat) (F : Nat → zp_R) (D O : Nat → Nat), n ≤ 40 ∧ s' 26 = (n : Int) ∧ ffR A' (ownp a b) n F D O)) := by
  refine wm_in (cd := sw_c454) (nL := 1) (hd := sw_h454) rfl rfl ?_
  refine k454_0 hv.1 (wm_mono (wq_r ?_) (V_isOne hv (c := 1299) rfl hb))
  unfold ownp
  by_cases q : hi b = 0 ∧ cf b 0 = 1
  · rw [if_pos q]
    refine k454_7 (fun w => absurd w (by decide)) (fun _ => ?_) (c1 := by decide)
    rw [if_pos q]
    refine k454_10 hv.1 (wm_mono (wq_N (fun h1 s1 A1 v1 r1 φ => ?_)) (V_findFactors hv (p := 1298) rfl (.inl rfl) ha da))
    exact k454_18 (k454_29 ⟨h1, s1, A1, v1, r1, φ, rfl⟩)
  · rw [if_neg q]
    refine k454_7 (fun _ => ?_) (fun w => absurd rfl w) (c1 := by decide)
    rw [if_neg q]
    refine k454_21 hv.1 (wm_mono (wq_N (fun h1 s1 A1 v1 r1 φ => ?_)) (V_findFactors hv (p := 1299) rfl (.inr rfl) hb db))
    exact k454_29 ⟨h1, s1, A1, v1, r1, φ, rfl⟩
theorem V_factors (hv : RV h s A) {T : Nat → th} (hR : RI s A T) {x : Int} (hx : In3 x) : wm sw_P (d + 9) 444 [.index 1290, vi x] h (RA h (fun v s' A' => ∃ c a, fcsS (s 1) T x c a ∧ v = vi a ∧ s' 0 = c ∧ sq s s' ∧ sm A A' scrA ∧ RI s' A' T)) := by
  refine wm_in (cd := sw_c444) (nL := 2) (hd := sw_h444) rfl rfl ?_
  refine k444_0 hv.1 (wm_mono (wq_A (fun v1 h1 s1 A1 w1 r1 φ => ?_)) (V_isOf hv hR hx (k := 0) (by decide)))
  rcases φ with ⟨ev, e1, q, eA⟩ | ⟨ev, e1, q, f, ef, lf, kf, m1, g, _⟩
  · rw [ev]
    have q1 : sq s s1 := by rw [e1]; exact sq_up (sq_refl s) _ rfl
    have m1 : sm A A1 scrA := by rw [eA]; exact sm_refl
    refine k444_6 (fun w => absurd rfl w) (fun _ => k444_9 ⟨vi 0, h1, s1, A1, w1, r1, ⟨one s T x 0, 0, ?_, rfl, by rw [e1, up_at], q1, m1, RI_a hR m1 q1⟩, rfl⟩)
    rcases one_c q with ⟨w, e⟩ | ⟨w, w2, e⟩
    · exact ⟨fun _ => ⟨e, rfl⟩, fun w2 => absurd w2 w⟩
    · refine ⟨fun w3 => absurd w w3, fun _ => ?_⟩
      rcases et : T x.toNat with ⟨a, b⟩ | t
      · rw [et] at w2; exact absurd rfl w2
      · rcases t with a | t
        · exact ⟨e, rfl⟩
        · rcases t with ⟨r, c, M⟩ | ⟨n, so, va⟩ <;> exact ⟨e, rfl⟩
  · rw [ev]
    subst ef
    have xf : (f : Int).toNat = f := by omega
    obtain ⟨g98, g99⟩ := g (by decide)
    have hf := hR.2.2 f lf
    have q1 : sq s s1 := by rw [e1]; exact sq_up (sq_refl s) _ rfl
    refine k444_6 (fun _ => ?_) (fun w => absurd (by decide) w)
    rcases ef1 : T f with ⟨a, b⟩ | t
    · rw [ef1] at hf
      obtain ⟨_, p1, p2, p3, p4⟩ := hf
      refine k444_11 w1.1 (wm_mono (wq_N (fun h2 s2 A2 w2 r2 φ => ?_)) (V_findOwn w1 (g98.trans p1) (g99.trans p2) (fr_deg p1) (fr_deg p2)))
      obtain ⟨q2, m2, n, F, D, O, n40, e26, ff⟩ := φ
      have q2' := sq_tr q1 (ffq_sq q2)
      have m2' := sm_tr (scr_A m1) (ffL_A m2)
      refine k444_15 (z5 := (n : Int)) w2.1 ⟨vi (n : Int), h2, s2, A2, w2, FR_trans r1 r2, ⟨0, (n : Int), ?_, rfl, ?_, q2', m2', RI_a hR m2' q2'⟩, rfl⟩ (n6 := by
        show some (vi (s2 26)) = _
        rw [e26])
      · refine ⟨fun w => absurd ⟨by omega, lf⟩ w, fun _ => ?_⟩
        rw [xf, ef1]
        exact ⟨rfl, n, F, D, O, ff.1, rfl⟩
      · rw [q2 0 (by decide) (by decide) (by decide) (by decide) (by decide), e1, up_at]
    · rw [ef1] at kf
      rcases t with a | ⟨r, c, M⟩ | ⟨n, so, va⟩
      · exact (kdn kf rfl).elim
      · exact (kdn kf rfl).elim
      · exact (kdn kf rfl).elim
theorem V_isFactor (hv : RV h s A) {T : Nat → th} (hR : RI s A T) {x k : Int} (hx : In3 x) (hk : In3 k) : wm sw_P (d + 9) 477 [.index 1290, vi x, vi k] h (RA h (isfQ s A T x k)) := by
  refine wm_in (cd := sw_c477) (nL := 3) (hd := sw_h477) rfl rfl ?_
  have kb : -2147483648 ≤ k ∧ k ≤ 2147483647 := by unfold In3 at hk; omega
  refine k477_0 hv.1 (wm_mono (wq_A (fun v1 h1 s1 A1 w1 r1 φ => ?_)) (V_isOf hv hR hx (k := 0) (by decide)))
  rcases φ with ⟨ev, e1, q, eA⟩ | ⟨ev, e1, q, f, ef, lf, kf, m1, g, _⟩
  · rw [ev]
    have q1 : sq s s1 := by rw [e1]; exact sq_up (sq_refl s) _ rfl
    exact k477_6 (fun w => absurd rfl w) (fun _ => k477_9 ⟨vi 0, h1, s1, A1, w1, r1, ⟨q1, by rw [eA]; exact sm_refl, .inl ⟨rfl, q, by rw [e1, up_at]⟩⟩, rfl⟩)
  · rw [ev]
    subst ef
    obtain ⟨g98, g99⟩ := g (by decide)
    have hf := hR.2.2 f lf
    have q1 : sq s s1 := by rw [e1]; exact sq_up (sq_refl s) _ rfl
    refine k477_6 (fun _ => ?_) (fun w => absurd (by decide) w)
    rcases ef1 : T f with ⟨a, b⟩ | t
    · rw [ef1] at hf
      obtain ⟨_, p1, p2, p3, p4⟩ := hf
      refine k477_11 w1.1 (wm_mono (wq_N (fun h2 s2 A2 w2 r2 φ => ?_)) (V_findOwn w1 (g98.trans p1) (g99.trans p2) (fr_deg p1) (fr_deg p2)))
      obtain ⟨q2, m2, n, F, D, O, n40, e26, ff⟩ := φ
      have q2' := sq_tr q1 (ffq_sq q2)
      have m2' := sm_tr (scr_A m1) (ffL_A m2)
      have v0 : ∀ z : Int, RV (hp h2 1290 (1, 11, (rF s2).set 0 (vi z))) (up s2 0 z) A2 := fun z => RV_fld w2 (up s2 0 z) (rF_0 s2 z)
      have r0 : ∀ z : Int, FR h (hp h2 1290 (1, 11, (rF s2).set 0 (vi z))) := fun z => FR_trans r1 (FR_trans r2 (FR_fld w2 _))
      refine k477_15 (z6 := (n : Int)) w2.1 (wm_mono (wq_r ?_) (t_in (in6_of (by omega) (by omega)) (by decide) (in6_of (by omega) (by omega)))) (n7 := by
        show some (vi (s2 26)) = _
        rw [e26]) (c2 := hk) (c8 := by unfold In3; omega)
      by_cases w : 0 ≤ k ∧ k ≤ (n : Int) - 1
      · rw [if_pos w]
        refine k477_29 (fun w2 => absurd w2 (by decide)) (fun _ => k477_32 ?_) (c1 := by decide)
        refine k477_37 (z10 := 0) w2.1 (hp_at w2.1) (fun w3 => absurd rfl w3) (fun _ => k477_47 (k477_52 ?_ (c1 := .inr rfl))) (c12 := by decide)
        exact ⟨vi 1, _, _, A2, v0 0, r0 0, ⟨sq_up q2' _ rfl, m2', .inr ⟨f, a, b, n, F, D, O, rfl, lf, ef1, n40, ff, .inr ⟨rfl, ⟨by omega, by omega⟩, up_at _ _ _⟩⟩⟩, rfl⟩
      · rw [if_neg w]
        refine k477_29 (fun _ => k477_36 ?_) (fun w2 => absurd rfl w2) (c1 := by decide)
        refine k477_37 (z10 := 1) w2.1 (hp_at w2.1) (fun _ => k477_51 (k477_52 ?_ (c1 := .inl rfl))) (fun w3 => absurd (by decide) w3) (c12 := by decide)
        exact ⟨vi 0, _, _, A2, v0 1, r0 1, ⟨sq_up q2' _ rfl, m2', .inr ⟨f, a, b, n, F, D, O, rfl, lf, ef1, n40, ff, .inl ⟨rfl, fun w3 => w ⟨w3.1, by omega⟩, up_at _ _ _⟩⟩⟩, rfl⟩
    · rw [ef1] at kf
      rcases t with a | ⟨r, c, M⟩ | ⟨n, so, va⟩
      · exact (kdn kf rfl).elim
      · exact (kdn kf rfl).elim
      · exact (kdn kf rfl).elim
theorem V_factor (hv : RV h s A) {T : Nat → th} (hR : RI s A T) {x k : Int} (hx : In3 x) (hk : In3 k) : wm sw_P (d + 10) 443 [.index 1290, vi x, vi k] h (RA h (fun v s' A' => ∃ res, unS (s 1) T (fun n => n = 0) x (ftrF (s 1) k) res ∧ endz s A T res v s' A')) := by
  refine wm_in (cd := sw_c443) (nL := 3) (hd := sw_h443) rfl rfl ?_
  have b0 := hR.1.1
  refine k443_0 hv.1 (wm_mono (wq_A (fun v1 h1 s1 A1 w1 r1 φ => ?_)) (V_isFactor hv hR hx hk))
  obtain ⟨q1, m1, φ⟩ := φ
  have bad : ∀ c : Int, v1 = vi 0 → s1 0 = c → unS (s 1) T (fun n => n = 0) x (ftrF (s 1) k) (.inr c) → wr sw_P (d + 9) sw_c443 sw_h443 (6, [.index 1290, vi x, vi k], [v1], h1, 0, 0) (RA h (fun v s' A' => ∃ res, unS (s 1) T (fun n => n = 0) x (ftrF (s 1) k) res ∧ endz s A T res v s' A')) := fun c ev ec u => by
    rw [ev]
    exact k443_6 (fun w => absurd rfl w) (fun _ => k443_9 ⟨vi 0, h1, s1, A1, w1, r1, ⟨.inr c, u, sm_sub m1 rfl, fun j _ hj => q1 j hj, rfl, ec, sq_1 q1, RI_a hR m1 q1⟩, rfl⟩)
  rcases φ with ⟨ev, q, ec⟩ | ⟨f, a, b, n, F, D, O, ef, lf, ef1, n40, ff, φ⟩
  · exact bad _ ev ec (one_un q)
  · subst ef
    have xf : (f : Int).toNat = f := by omega
    have sp : ∀ res : Sum th Int, ftrF (s 1) k (T f) res → unS (s 1) T (fun n => n = 0) f (ftrF (s 1) k) res := fun res w => ⟨fun w2 => absurd ⟨by omega, lf⟩ w2, fun _ w2 => (w2 (by rw [xf, ef1]; rfl)).elim, fun _ _ => by rw [xf]; exact w⟩
    rw [ef1] at sp
    rcases φ with ⟨ev, nk, ec⟩ | ⟨ev, yk, ec⟩
    · exact bad 1 ev ec (sp _ ⟨n, F, D, O, ff.1, fun _ => rfl, fun w => absurd w nk⟩)
    · rw [ev]
      obtain ⟨k', ek⟩ : ∃ k' : Nat, k = k' := ⟨k.toNat, by omega⟩
      subst ek
      have kk : (k' : Int).toNat = k' := by omega
      have fk := ff.2 k' (by omega)
      refine k443_6 (fun _ => ?_) (fun w => absurd (by decide) w)
      refine k443_11 w1.1 (wm_mono (wq_Q (fun h2 w2 r2 => ?_)) (V_loadFactor w1 (p := 1302) rfl (k := k') (by omega)))
      rw [fk.1] at w2
      refine k443_20 w2.1 (wm_mono (wq_Q (fun h3 w3 r3 => ?_)) (V_become w2 (c := 1303) rfl (z := 1) (by decide)))
      rw [nF_1] at w3
      refine k443_28 w3.1 (wm_mono (wq_A (fun v4 h4 s4 A4 w4 r4 φ => ?_)) (V_keep w3 (by rw [sq_1 q1]; exact b0) (N := F k') (D := zp_C 1) (by rw [up_ne _ _ (by decide), up_at]) (up_at _ _ _)))
      obtain ⟨res, z1, z3⟩ := endz_keeps hR q1 (sm_up (sm_up m1 _ rfl) _ rfl) (deg_le (pt_deg fk.1) (by decide)) φ
      obtain ⟨u, eu⟩ := endz_vi z3
      subst eu
      exact k443_33 ⟨_, h4, s4, A4, w4, FR_trans r1 (FR_trans r2 (FR_trans r3 r4)), ⟨res, sp res ⟨n, F, D, O, ff.1, fun w => absurd yk w, fun _ => by rw [kk]; exact z1⟩, z3⟩, rfl⟩
theorem V_often (hv : RV h s A) {T : Nat → th} (hR : RI s A T) {x k : Int} (hx : In3 x) (hk : In3 k) : wm sw_P (d + 10) 542 [.index 1290, vi x, vi k] h (RA h (fun v s' A' => ∃ c a, oftS (s 1) T x k c a ∧ v = vi a ∧ s' 0 = c ∧ sq s s' ∧ sm A A' scrA ∧ RI s' A' T)) := by
  refine wm_in (cd := sw_c542) (nL := 3) (hd := sw_h542) rfl rfl ?_
  refine k542_0 hv.1 (wm_mono (wq_A (fun v1 h1 s1 A1 w1 r1 φ => ?_)) (V_isFactor hv hR hx hk))
  obtain ⟨q1, m1, φ⟩ := φ
  have fin : ∀ c a : Int, oftS (s 1) T x k c a → s1 0 = c → wr sw_P (d + 9) sw_c542 sw_h542 (19, [.index 1290, vi x, vi k], [vi a], h1, 0, 0) (RA h (fun v s' A' => ∃ c a, oftS (s 1) T x k c a ∧ v = vi a ∧ s' 0 = c ∧ sq s s' ∧ sm A A' scrA ∧ RI s' A' T)) := fun c a u ec => k542_19 ⟨vi a, h1, s1, A1, w1, r1, ⟨c, a, u, rfl, ec, q1, m1, RI_a hR m1 q1⟩, rfl⟩
  rcases φ with ⟨ev, q, ec⟩ | ⟨f, a, b, n, F, D, O, ef, lf, ef1, n40, ff, φ⟩
  · rw [ev]
    refine k542_6 (fun _ => k542_18 (fin _ 0 ?_ ec)) (fun w => absurd rfl w)
    rcases one_c q with ⟨w, e⟩ | ⟨w, w2, e⟩
    · exact ⟨fun _ => ⟨e, rfl⟩, fun w2 => absurd w2 w⟩
    · refine ⟨fun w3 => absurd w w3, fun _ => ?_⟩
      rcases et : T x.toNat with ⟨a, b⟩ | t
      · rw [et] at w2; exact absurd rfl w2
      · rcases t with a | t
        · exact ⟨e, rfl⟩
        · rcases t with ⟨r, c, M⟩ | ⟨n, so, va⟩ <;> exact ⟨e, rfl⟩
  · subst ef
    have xf : (f : Int).toNat = f := by omega
    rcases φ with ⟨ev, nk, ec⟩ | ⟨ev, yk, ec⟩
    · rw [ev]
      refine k542_6 (fun _ => k542_18 (fin 1 0 ?_ ec)) (fun w => absurd rfl w)
      refine ⟨fun w => absurd ⟨by omega, lf⟩ w, fun _ => ?_⟩
      rw [xf, ef1]
      exact ⟨n, F, D, O, ff.1, fun _ => ⟨rfl, rfl⟩, fun w => absurd w nk⟩
    · rw [ev]
      obtain ⟨k', ek⟩ : ∃ k' : Nat, k = k' := ⟨k.toNat, by omega⟩
      subst ek
      have kk : (k' : Int).toNat = k' := by omega
      have fk := ff.2 k' (by omega)
      refine k542_6 (fun w => absurd w (by decide)) (fun _ => ?_)
      refine k542_9 w1.1 (Ra_factorOften w1) ?_ (c10 := by rw [mk_len]; omega) (c11 := by omega) (c12 := by unfold In3; omega)
      rw [gi_mkn (by omega), fk.2.2.1]
      refine fin 0 _ ⟨fun w => absurd ⟨by omega, lf⟩ w, fun _ => ?_⟩ ec
      rw [xf, ef1]
      exact ⟨n, F, D, O, ff.1, fun w => absurd yk w, fun _ => ⟨rfl, by rw [kk]⟩⟩
end
