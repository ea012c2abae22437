/-! the reference's take, matrix and clear: what is taken -/
/-- n polynomials are taken -/
def TKI (s : Nat → Int) (A : Nat → Nat → Int) (n : Nat) (P : Nat → zp_R) : Prop := s 8 = n ∧ n ≤ 16 ∧ ∀ k, k < n → zp_deg (P k) 11 ∧ ∀ i, i < 11 → A 1297 (11 * k + i) = (((P k).1 i).val : Int)
theorem TKI_sm {s s' : Nat → Int} {A B : Nat → Nat → Int} {n : Nat} {P : Nat → zp_R} (h : TKI s A n P) (e : s' 8 = s 8) (m : B 1297 = A 1297) : TKI s' B n P := ⟨e.trans h.1, h.2.1, fun k hk => ⟨(h.2.2 k hk).1, fun i hi2 => by rw [m]; exact (h.2.2 k hk).2 i hi2⟩⟩
/-- the code of a thing to be taken -/
def tkC (cnt : Int) (T : Nat → th) (x c : Int) : Prop := (¬ (0 ≤ x ∧ x < cnt) → c = 1) ∧ ((0 ≤ x ∧ x < cnt) → match T x.toNat with
  | .inl (a, b) => ((b = zp_C 1 ∧ hi a ≤ 10) → c = 0) ∧ (¬ (b = zp_C 1 ∧ hi a ≤ 10) → c = 2)
  | _ => c = 2)
def tkQ (s : Nat → Int) (A : Nat → Nat → Int) (T : Nat → th) (n : Nat) (P : Nat → zp_R) (x : Int) : Term → (Nat → Int) → (Nat → Nat → Int) → Prop := fun v s' A' => RI s' A' T ∧ ∃ c, tkC (s 1) T x c ∧ ((c ≠ 0 ∧ v = vi 0 ∧ s' = up s 0 c ∧ sm A A' scr) ∨ (c = 0 ∧ n = 16 ∧ v = vi (-1) ∧ s' = up s 0 0 ∧ sm A A' scr) ∨ (c = 0 ∧ n < 16 ∧ v = vi ((n : Int) + 1) ∧ s' = up (up s 0 0) 8 ((n : Int) + 1) ∧ sm A A' (1297 :: scr) ∧ ∃ (f : Nat) (a : zp_R), x = f ∧ T f = th_fr a (zp_C 1) ∧ TKI s' A' (n + 1) (up P n a)))
/-- what a matrix made of what is taken comes to -/
def matS (cnt : Int) (n : Nat) (P : Nat → zp_R) (x y : Int) (c : Int) (res : th) : Prop := (¬ (((1 ≤ x ∧ x ≤ 4) ∧ 1 ≤ y ∧ y ≤ 4) ∧ (n : Int) = x * y) → c = 1) ∧ ((((1 ≤ x ∧ x ≤ 4) ∧ 1 ≤ y ∧ y ≤ 4) ∧ (n : Int) = x * y) → (cnt = 150 → c = 2) ∧ (cnt ≠ 150 → c = 0 ∧ res = th_ma x.toNat y.toNat (fun i j => P (y.toNat * i + j))))
section
variable {d : Nat} {h : s_H} {s : Nat → Int} {A : Nat → Nat → Int}
theorem V_take (hv : RV h s A) {T : Nat → th} (hR : RI s A T) {n : Nat} {P : Nat → zp_R} (hK : TKI s A n P) {x : Int} (hx : In3 x) : wm sw_P (d + 4) 603 [.index 1290, vi x] h (RA h (tkQ s A T n P x)) := by
  refine wm_in (cd := sw_c603) (nL := 3) (hd := sw_h603) rfl rfl ?_
  have b0 := hR.1.1
  refine k603_0 hv.1 (wm_mono (wq_A (fun v1 h1 s1 A1 w1 r1 φ => ?_)) (V_isOf hv hR hx (k := 0) (by decide)))
  rcases φ with ⟨ev, e1, q, eA⟩ | ⟨ev, e1, q, f, ef, lf, kf, m1, g, _⟩
  · rw [ev]
    refine k603_6 (fun w => absurd rfl w) (fun _ => k603_9 ⟨vi 0, h1, s1, A1, w1, r1, ⟨by rw [eA]; exact RI_sc hR sm_refl (by rw [e1]; rfl), one s T x 0, ⟨fun w => if_pos w, fun w => ?_⟩, .inl ⟨q, rfl, e1, by rw [eA]; exact sm_refl⟩⟩, rfl⟩)
    have ho : one s T x 0 = if kd (T x.toNat) = 0 then 0 else 2 := if_neg (fun w3 => w3 w)
    rcases ef1 : T x.toNat with ⟨a, b⟩ | t
    · rw [ef1] at ho
      exact absurd (ho.trans (if_pos rfl)) q
    · have k0 : ¬ kd (T x.toNat) = 0 := fun w2 => q (ho.trans (if_pos w2))
      rw [if_neg k0] at ho
      exact ho
  rw [ev]
  subst ef
  have xf : (f : Int).toNat = f := by omega
  obtain ⟨g98, g99⟩ := g (by decide)
  have hf := hR.2.2 f lf
  refine k603_6 (fun _ => ?_) (fun w => absurd (by decide) w)
  have R1 : RI s1 A1 T := RI_sc hR m1 (by rw [e1]; rfl)
  rcases ef1 : T f with ⟨a, b⟩ | a | ⟨r, c, M⟩ | ⟨n', so, va⟩
  · rw [ef1] at hf
    obtain ⟨_, p1, p2, p3, p4⟩ := hf
    have h98 := g98.trans p1
    have h99 := g99.trans p2
    have d1 := deg_le (fr_deg p1) (show 41 ≤ 176 by decide)
    have d2 := deg_le (fr_deg p2) (show 41 ≤ 176 by decide)
    have ba := hi_b a
    have sp : ∀ c : Int, ((b = zp_C 1 ∧ hi a ≤ 10) → c = 0) ∧ (¬ (b = zp_C 1 ∧ hi a ≤ 10) → c = 2) → tkC (s 1) T f c := fun c w => ⟨fun w2 => absurd ⟨by omega, lf⟩ w2, fun _ => by rw [xf, ef1]; exact w⟩
    have bad : ¬ (b = zp_C 1 ∧ hi a ≤ 10) → wr sw_P (d + 3) sw_c603 sw_h603 (33, [.index 1290, vi (f : Int), .result], [], h1, 0, 0) (RA h (tkQ s A T n P f)) := fun hb => by
      refine k603_33 w1.1 (wm_mono (wq_A (fun v3 h3 s3 A3 w3 r3 φ => ?_)) (V_raise w1))
      obtain ⟨y1, y2, y3⟩ := φ
      rw [e1, up2] at y2
      subst y1
      exact k603_38 ⟨_, h3, s3, A3, w3, FR_trans r1 r3, ⟨by rw [y3]; exact RI_sc hR m1 (by rw [y2]; rfl), 2, sp 2 ⟨fun w => absurd w hb, fun _ => rfl⟩, .inl ⟨by decide, rfl, y2, by rw [y3]; exact m1⟩⟩, rfl⟩
    refine k603_11 w1.1 (wm_mono (wq_r ?_) (V_isOne w1 (c := 1299) rfl h99))
    by_cases q2 : hi b = 0 ∧ cf b 0 = 1
    case neg =>
      rw [if_neg q2]
      exact k603_18 (fun _ => bad (fun w => q2 ((one_C d2).mpr w.1))) (fun w => absurd rfl w)
    rw [if_pos q2]
    have bo := (one_C d2).mp q2
    refine k603_18 (fun w => absurd w (by decide)) (fun _ => ?_)
    refine k603_21 w1.1 (wm_mono (wq_r ?_) (V_high w1 (c := 1298) rfl h98))
    refine k603_28 (fun q3 => ?_) (fun q3 => bad (fun w => q3 w.2)) (c1 := by unfold In3; omega)
    have ok : tkC (s 1) T f 0 := sp 0 ⟨fun _ => rfl, fun w => absurd ⟨bo, q3⟩ w⟩
    have e18 : s1 8 = n := by rw [e1, up_ne _ _ (by decide)]; exact hK.1
    have n16 := hK.2.1
    have dA : zp_deg a 11 := fun i hi2 => hi_deg d1 i (by omega)
    refine k603_39 (z5 := s1 8) w1.1 (fun q4 => ?_) (fun q4 => ?_) (c7 := by rw [e18]; unfold In3; omega)
    · rw [e18] at q4
      refine k603_50 ?_
      have loop : ∀ (l k : Nat) (B : Nat → Nat → Int) (h' : s_H), k + l = 11 → RV h' s1 B → FR h h' → (∀ x, x ≠ 1297 → B x = A1 x) → (∀ t, B 1297 t = if 11 * n ≤ t ∧ t < 11 * n + k then cf a (t - 11 * n) else A1 1297 t) → wr sw_P (d + 3) sw_c603 sw_h603 (52, [.index 1290, vi (f : Int), vi (k : Int)], [], h', 0, 0) (RA h (tkQ s A T n P f)) := by
        intro l
        induction l with
        | zero =>
          intro k B h' hk v rr o g
          have k11 : k = 11 := by omega
          subst k11
          refine k603_52 (fun _ => ?_) (fun w => absurd w (by omega))
          have v2 := RV_fld v (up s1 8 ((n : Int) + 1)) (rF_8 s1 ((n : Int) + 1))
          have hg := k603_85 (P := sw_P) (d := d + 3) (Q := RA h (tkQ s A T n P f)) (h := h') (kc := 0) (ks := 0) (r0 := .index 1290) (x1 := (f : Int)) (x2 := ((11 : Nat) : Int)) (z5 := s1 8) (z11 := s1 8 + 1) v.1 (hp_at v.1)
          rw [e18] at hg
          have mB : sm A B (1297 :: scr) := sm_tr (sm_sub m1 rfl) (fun j hj => o j (fun e => by rw [e] at hj; exact absurd hj (by decide)))
          have RB' : RI (up s1 8 ((n : Int) + 1)) B T := RI_k R1 o rfl rfl
          refine hg ⟨vi ((n : Int) + 1), _, _, B, v2, FR_trans rr (FR_fld v _), ⟨RB', 0, ok, .inr (.inr ⟨rfl, by omega, rfl, by rw [e1], mB, f, a, rfl, by rw [ef1, bo], ?_⟩)⟩, rfl⟩
          refine ⟨by rw [up_at]; omega, by omega, fun k hk => ?_⟩
          by_cases q5 : k = n
          · subst q5
            rw [up_at]
            refine ⟨dA, fun i hi2 => ?_⟩
            rw [g, if_pos (by omega), show 11 * k + i - 11 * k = i by omega]; rfl
          · rw [up_ne _ _ q5]
            have kk := hK.2.2 k (by omega)
            refine ⟨kk.1, fun i hi2 => ?_⟩
            rw [g, if_neg (by omega), m1 1297 rfl]
            exact kk.2 i hi2
        | succ l ih =>
          intro k B h' hk v rr o g
          have gn : gi (mk 176 (B 1298)) (k : Int) = cf a k := by rw [o 1298 (by decide), h98]; exact gi_mkn (by omega)
          refine k603_52 (fun w => absurd w (by omega)) (fun _ => ?_)
          refine k603_58 (z7 := s1 8) v.1 (RV_l v (c := 1298) rfl) (Ra_takes v) ?_ (c14 := by rw [mk_len]; omega) (c15 := by omega) (c16 := by unfold In3; omega) (c20 := by rw [mk_len, e18]; omega) (c21 := by rw [e18]; omega) (c22 := by rw [e18]; unfold In3; omega)
          rw [gn, mk_set, e18]
          refine ih (k + 1) _ _ (by omega) (Rp_takes v _) (FR_trans rr (FR_put v (c := 1297) (by decide) (by decide) _)) (fun x hx => by rw [up_ne _ _ hx, o x hx]) (fun t => ?_)
          rw [up_at]
          show (if t = (11 * (n : Int) + k).toNat then cf a k else B 1297 t) = _
          by_cases q5 : t = 11 * n + k
          · rw [if_pos (by omega), if_pos (show 11 * n ≤ t ∧ t < 11 * n + (k + 1) by omega), show t - 11 * n = k by omega]
          · rw [if_neg (by omega), g t]
            by_cases q6 : 11 * n ≤ t ∧ t < 11 * n + k
            · rw [if_pos q6, if_pos (show 11 * n ≤ t ∧ t < 11 * n + (k + 1) by omega)]
            · rw [if_neg q6, if_neg (show ¬ (11 * n ≤ t ∧ t < 11 * n + (k + 1)) by omega)]
      exact loop 11 0 A1 h1 rfl w1 r1 (fun _ _ => rfl) (fun t => by rw [if_neg (by omega)])
    · rw [e18] at q4
      exact k603_48 ⟨_, h1, s1, A1, w1, r1, ⟨R1, 0, ok, .inr (.inl ⟨rfl, by omega, rfl, e1, m1⟩)⟩, rfl⟩
  · rw [ef1] at kf; exact (kdn kf rfl).elim
  · rw [ef1] at kf; exact (kdn kf rfl).elim
  · rw [ef1] at kf; exact (kdn kf rfl).elim
theorem V_clear (hv : RV h s A) : wm sw_P (d + 1) 415 [.index 1290] h (RN h (fun s' A' => s' = up (up (up (up s 0 0) 1 0) 8 0) 50 0 ∧ A' = A)) := by
  refine wm_in (cd := sw_c415) (nL := 1) (hd := sw_h415) rfl rfl ?_
  have v1 := RV_fld hv (up s 0 0) (rF_0 s 0)
  have v2 := RV_fld v1 (up (up s 0 0) 1 0) (rF_1 _ 0)
  have v3 := RV_fld v2 (up (up (up s 0 0) 1 0) 8 0) (rF_8 _ 0)
  have v4 := RV_fld v3 (up (up (up (up s 0 0) 1 0) 8 0) 50 0) (rF_50 _ 0)
  exact k415_0 hv.1 v1.1 v2.1 v3.1 ⟨_, _, A, v4, FR_trans (FR_fld hv _) (FR_trans (FR_fld v1 _) (FR_trans (FR_fld v2 _) (FR_fld v3 _))), ⟨rfl, rfl⟩, rfl⟩
end
