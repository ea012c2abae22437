/-! the reference's degree and at in the picture -/
/-- k is the first place with a number, 25 if there is none -/
def frst (f : zp_R) (k : Nat) : Prop := k ≤ 25 ∧ (∀ i, i < k → f.1 i = 0) ∧ (k < 25 → f.1 k ≠ 0)
def degF (p : Int) (t : th) (v : Int) : Prop := match t with
  | .inl (a, b) => v = if p = 0 then hi a else hi b
  | .inr (.inl f) => ∃ k, frst f k ∧ v = if p = 0 then (k : Int) else 24
  | .inr (.inr (.inl (r, c, _))) => v = if p = 0 then (r : Int) else c
  | _ => True
def degS (cnt : Int) (T : Nat → th) (x p : Int) (c v : Int) : Prop := (¬ (0 ≤ x ∧ x < cnt) → c = 1 ∧ v = 0) ∧ ((0 ≤ x ∧ x < cnt) → ((kd (T x.toNat) = 3 ∨ ¬ (0 ≤ p ∧ p ≤ 1)) → c = 2 ∧ v = 0) ∧ (¬ (kd (T x.toNat) = 3 ∨ ¬ (0 ≤ p ∧ p ≤ 1)) → c = 0 ∧ degF p (T x.toNat) v))
def atF (p k : Int) (t : th) (v : Int) : Prop := match t with
  | .inl (a, b) => v = if p = 0 then ((a.1 k.toNat).val : Int) else ((b.1 k.toNat).val : Int)
  | .inr (.inl f) => v = ((f.1 k.toNat).val : Int)
  | _ => True
def atS (cnt : Int) (T : Nat → th) (x p k : Int) (c v : Int) : Prop := (¬ (0 ≤ x ∧ x < cnt) → c = 1 ∧ v = 0) ∧ ((0 ≤ x ∧ x < cnt) → ((2 ≤ kd (T x.toNat) ∨ ¬ (0 ≤ p ∧ p ≤ 1)) → c = 2 ∧ v = 0) ∧ (¬ (2 ≤ kd (T x.toNat) ∨ ¬ (0 ≤ p ∧ p ≤ 1)) → c = 0 ∧ (¬ (0 ≤ k ∧ k ≤ 40) → v = 0) ∧ ((0 ≤ k ∧ k ≤ 40) → atF p k (T x.toNat) v)))
theorem kd_b (t : th) : 0 ≤ kd t ∧ kd t ≤ 3 := by
  rcases t with ⟨a, b⟩ | a | ⟨r, c, M⟩ | ⟨n, so, va⟩
  · exact (⟨by decide, by decide⟩ : (0 : Int) ≤ 0 ∧ (0 : Int) ≤ 3)
  · exact (⟨by decide, by decide⟩ : (0 : Int) ≤ 1 ∧ (1 : Int) ≤ 3)
  · exact (⟨by decide, by decide⟩ : (0 : Int) ≤ 2 ∧ (2 : Int) ≤ 3)
  · exact (⟨by decide, by decide⟩ : (0 : Int) ≤ 3 ∧ (3 : Int) ≤ 3)
theorem fp_at {A : Nat → Nat → Int} {c i : Nat} {f : zp_R} (e : fp A c i = cf f) {k : Nat} (hk : k ≤ 40) : A c (41 * i + k) = ((f.1 k).val : Int) := by
  have := congrFun e k
  unfold fp at this
  rw [if_pos hk] at this
  exact this
section
variable {d : Nat} {h : s_H} {s : Nat → Int} {A : Nat → Nat → Int}
theorem V_degree (hv : RV h s A) {T : Nat → th} (hR : RI s A T) {x p : Int} (hx : In3 x) (hp' : In3 p) : wm sw_P (d + 4) 429 [.index 1290, vi x, vi p] h (RA h (fun v s' A' => ∃ c a, degS (s 1) T x p c a ∧ v = vi a ∧ s' = up s 0 c ∧ sm A A' scr ∧ RI s' A' T)) := by
  refine wm_in (cd := sw_c429) (nL := 4) (hd := sw_h429) rfl rfl ?_
  have b0 := hR.1.1
  have v0 : ∀ z : Int, RV (hp h 1290 (1, 11, (rF s).set 0 (vi z))) (up s 0 z) A := fun z => RV_fld hv (up s 0 z) (rF_0 s z)
  have r0 : ∀ z : Int, FR h (hp h 1290 (1, 11, (rF s).set 0 (vi z))) := fun z => FR_fld hv _
  have bad : ∀ z : Int, 0 < z → z < 3 → degS (s 1) T x p z 0 → wr sw_P (d + 3) sw_c429 sw_h429 (37, [.index 1290, vi x, vi p, .result], [vi z, .index 1290], h, 0, 0) (RA h (fun v s' A' => ∃ c a, degS (s 1) T x p c a ∧ v = vi a ∧ s' = up s 0 c ∧ sm A A' scr ∧ RI s' A' T)) := by
    intro z hz2 hz3 hs
    refine k429_37 (z10 := z) hv.1 (hp_at hv.1) (fun w => absurd w (by omega)) (fun _ => ?_) (c12 := by unfold In3; omega)
    exact k429_47 ⟨_, _, _, _, v0 z, r0 z, ⟨z, 0, hs, rfl, rfl, sm_refl, RI_sc hR sm_refl rfl⟩, rfl⟩
  refine k429_0 hv.1 (wm_mono (wq_r ?_) (V_isThere hv b0 hx))
  by_cases hin : 0 ≤ x ∧ x < s 1
  · rw [if_pos hin]
    refine k429_6 (fun _ => ?_) (fun w => absurd (by decide) w)
    obtain ⟨f, ef⟩ : ∃ f : Nat, x = f := ⟨x.toNat, by omega⟩
    subst ef
    have xf : (f : Int).toNat = f := by omega
    have hf := hR.2.2 f (by omega)
    have kf := isT_kd hf
    have k3 := hR.1.2.1 f (by omega)
    have i3 : In3 (A 1291 (f : Int).toNat) := by rw [xf]; unfold In3; omega
    have ik : A 1291 (f : Int).toNat = kd (T f) := kf
    have sp : ∀ v : Int, ¬ (kd (T f) = 3 ∨ ¬ (0 ≤ p ∧ p ≤ 1)) → degF p (T f) v → degS (s 1) T f p 0 v := fun v q w => ⟨fun w2 => absurd hin w2, fun _ => ⟨fun w2 => absurd (by rw [xf] at w2; exact w2) q, fun _ => ⟨rfl, by rw [xf]; exact w⟩⟩⟩
    have two2 : (kd (T f) = 3 ∨ ¬ (0 ≤ p ∧ p ≤ 1)) → wr sw_P (d + 3) sw_c429 sw_h429 (32, [.index 1290, vi (f : Int), vi p, .result], [.index 1290], h, 0, 0) (RA h (fun v s' A' => ∃ c a, degS (s 1) T f p c a ∧ v = vi a ∧ s' = up s 0 c ∧ sm A A' scr ∧ RI s' A' T)) := fun q => k429_32 (bad 2 (by decide) (by decide) ⟨fun w => absurd hin w, fun _ => ⟨fun _ => ⟨rfl, rfl⟩, fun w => absurd q (by rw [xf] at w; exact w)⟩⟩)
    refine k429_13 hv.1 (wm_mono (wq_r ?_) (V_is hv (x := (f : Int)) (k := 3) ⟨by omega, by omega⟩ i3 (by decide)))
    rw [ik]
    by_cases q2 : kd (T f) = 3
    · rw [if_pos q2]
      exact k429_19 (fun _ => two2 (.inl q2)) (fun w => absurd (by decide) w)
    · rw [if_neg q2]
      refine k429_19 (fun w => absurd rfl w) (fun _ => ?_)
      refine k429_22 (wm_mono (wq_r ?_) (t_in (x := p) (lo := 0) (hi := 1) (by unfold In6; unfold In3 at hp'; omega) (by decide) (by decide))) (c1 := hp')
      by_cases q3 : 0 ≤ p ∧ p ≤ 1
      · rw [if_pos q3]
        refine k429_29 (fun _ => k429_36 ?_) (fun w => absurd (by decide) w)
        have ok : ¬ (kd (T f) = 3 ∨ ¬ (0 ≤ p ∧ p ≤ 1)) := fun w => by
          rcases w with w | w
          · exact q2 w
          · exact w q3
        have w0 := v0 0
        have R0 : RI (up s 0 0) A T := RI_sc hR sm_refl rfl
        refine k429_37 (z10 := 0) hv.1 (hp_at hv.1) (fun _ => ?_) (fun w => absurd (by decide) w)
        refine k429_49 w0.1 (wm_mono (wq_r ?_) (V_is w0 (x := (f : Int)) (k := 2) ⟨by omega, by omega⟩ i3 (by decide)))
        rw [ik]
        have fin : ∀ (v : Int) (B : Nat → Nat → Int) (h' : s_H), RV h' (up s 0 0) B → FR h h' → sm A B scr → degF p (T f) v → (RA h (fun v s' A' => ∃ c a, degS (s 1) T f p c a ∧ v = vi a ∧ s' = up s 0 c ∧ sm A A' scr ∧ RI s' A' T)) (.inl (some (vi v)), h', 0, 0) := fun v B h' hv' r m w => ⟨_, h', _, B, hv', r, ⟨0, v, sp v ok w, rfl, rfl, m, RI_sc hR m rfl⟩, rfl⟩
        rcases ef1 : T f with ⟨a, b⟩ | a | ⟨r, c, M⟩ | ⟨n, so, va⟩
        · rw [ef1] at hf fin
          obtain ⟨_, p1, p2, p3, p4⟩ := hf
          refine k429_55 (fun _ => ?_) (fun w => absurd rfl w)
          refine k429_78 w0.1 (wm_mono (wq_Q (fun h1 w1 r1 => ?_)) (V_load w0 (t := 1298) (b := 1299) rfl rfl (by decide) (x := (f : Int)) ⟨by omega, by omega⟩ (RB_t hR.1) (RB_b hR.1)))
          rw [xf] at w1
          have m1 : sm A (up (up A 1298 (fp A 1292 f)) 1299 (fp A 1293 f)) scr := sm_up (sm_up sm_refl _ rfl) _ rfl
          have g98 : up (up A 1298 (fp A 1292 f)) 1299 (fp A 1293 f) 1298 = cf a := by rw [up_ne _ _ (by decide), up_at, p1]
          have g99 : up (up A 1298 (fp A 1292 f)) 1299 (fp A 1293 f) 1299 = cf b := by rw [up_at, p2]
          have i3' : In3 (up (up A 1298 (fp A 1292 f)) 1299 (fp A 1293 f) 1291 (f : Int).toNat) := by rw [up_ne _ _ (by decide), up_ne _ _ (by decide)]; exact i3
          refine k429_91 w1.1 (wm_mono (wq_r ?_) (V_is w1 (x := (f : Int)) (k := 0) ⟨by omega, by omega⟩ i3' (by decide)))
          rw [up_ne _ _ (by decide), up_ne _ _ (by decide), ik, ef1]
          rw [if_pos (show kd (Sum.inl (a, b)) = 0 from rfl)]
          refine k429_97 (fun w => absurd w (by decide)) (fun _ => ?_)
          have ba := hi_b a
          have bb := hi_b b
          refine k429_100 (fun q4 => ?_) (fun q4 => ?_)
          · exact k429_114 w1.1 (wm_mono (wq_r (k429_121 (fin _ _ h1 w1 (FR_trans (r0 0) r1) m1 (if_neg (by omega)).symm))) (V_high w1 (c := 1299) rfl g99))
          · exact k429_104 w1.1 (wm_mono (wq_r (k429_111 (k429_121 (fin _ _ h1 w1 (FR_trans (r0 0) r1) m1 (if_pos (by omega)).symm)))) (V_high w1 (c := 1298) rfl g98))
        · rw [ef1] at hf fin
          obtain ⟨_, p1, p2, p3⟩ := hf
          refine k429_55 (fun _ => ?_) (fun w => absurd rfl w)
          refine k429_78 w0.1 (wm_mono (wq_Q (fun h1 w1 r1 => ?_)) (V_load w0 (t := 1298) (b := 1299) rfl rfl (by decide) (x := (f : Int)) ⟨by omega, by omega⟩ (RB_t hR.1) (RB_b hR.1)))
          rw [xf] at w1
          have m1 : sm A (up (up A 1298 (fp A 1292 f)) 1299 (fp A 1293 f)) scr := sm_up (sm_up sm_refl _ rfl) _ rfl
          have g98 : up (up A 1298 (fp A 1292 f)) 1299 (fp A 1293 f) 1298 = cf a := by rw [up_ne _ _ (by decide), up_at, p1]
          have i3' : In3 (up (up A 1298 (fp A 1292 f)) 1299 (fp A 1293 f) 1291 (f : Int).toNat) := by rw [up_ne _ _ (by decide), up_ne _ _ (by decide)]; exact i3
          refine k429_91 w1.1 (wm_mono (wq_r ?_) (V_is w1 (x := (f : Int)) (k := 0) ⟨by omega, by omega⟩ i3' (by decide)))
          rw [up_ne _ _ (by decide), up_ne _ _ (by decide), ik, ef1]
          refine k429_97 (fun _ => k429_122 ?_) (fun w => absurd rfl w)
          have ed : ∀ k, frst a k → wr sw_P (d + 3) sw_c429 sw_h429 (147, [.index 1290, vi (f : Int), vi p, vi (k : Int)], [], h1, 0, 0) (RA h (fun v s' A' => ∃ c a, degS (s 1) T f p c a ∧ v = vi a ∧ s' = up s 0 c ∧ sm A A' scr ∧ RI s' A' T)) := fun k hk => by
            refine k429_147 (fun q4 => k429_155 (k429_157 ?_)) (fun q4 => k429_151 (k429_157 ?_))
            · exact fin _ _ h1 w1 (FR_trans (r0 0) r1) m1 ⟨k, hk, (if_neg (by omega)).symm⟩
            · exact fin _ _ h1 w1 (FR_trans (r0 0) r1) m1 ⟨k, hk, (if_pos (by omega)).symm⟩
          have loop : ∀ (l k : Nat), k + l = 25 → (∀ i, i < k → a.1 i = 0) → wr sw_P (d + 3) sw_c429 sw_h429 (124, [.index 1290, vi (f : Int), vi p, vi (k : Int)], [], h1, 0, 0) (RA h (fun v s' A' => ∃ c a, degS (s 1) T f p c a ∧ v = vi a ∧ s' = up s 0 c ∧ sm A A' scr ∧ RI s' A' T)) := by
            intro l
            induction l with
            | zero =>
              intro k hk z
              exact k429_124 (fun _ => ed k ⟨by omega, z, fun w => by omega⟩) (fun w => absurd w (by omega))
            | succ l ih =>
              intro k hk z
              have gk : gi (mk 176 (up (up A 1298 (fp A 1292 f)) 1299 (fp A 1293 f) 1298)) (k : Int) = ((a.1 k).val : Int) := by rw [g98]; exact gi_mkn (by omega)
              have bz := (a.1 k).isLt
              refine k429_124 (fun w => absurd w (by omega)) (fun _ => ?_)
              refine k429_130 w1.1 (Ra_at w1) (fun w => ?_) (fun w => ?_) (c10 := by rw [mk_len]; omega) (c11 := by omega) (c12 := by unfold In3; omega) (c13 := by rw [gk]; exact in6_of (by omega) (by omega))
              · rw [gk] at w
                exact ed k ⟨by omega, z, fun _ q => w (by rw [q]; rfl)⟩
              · rw [gk] at w
                have zk : a.1 k = 0 := F_ext (by show ((a.1 k).val : Int) = 0; omega)
                refine k429_141 (ih (k + 1) (by omega) (fun i hi2 => ?_))
                by_cases q : i = k
                · rw [q, zk]
                · exact z i (by omega)
          exact loop 25 0 rfl (fun i hi2 => absurd hi2 (Nat.not_lt_zero i))
        · rw [ef1] at hf fin
          obtain ⟨_, p1, p2, p3, p4, p5⟩ := hf
          have g1 : gi (mk 150 (A 1294)) (f : Int) = (r : Int) := by rw [gi_mkn (by omega)]; exact p3
          have g3 : gi (mk 150 (A 1295)) (f : Int) = (c : Int) := by rw [gi_mkn (by omega)]; exact p4
          rw [if_pos (show kd (Sum.inr (Sum.inr (Sum.inl (r, c, M)))) = 2 from rfl)]
          refine k429_55 (fun w => absurd w (by decide)) (fun _ => ?_)
          refine k429_58 (fun q4 => ?_) (fun q4 => ?_)
          · refine k429_71 w0.1 (Ra_columns w0) (k429_77 ?_) (c10 := by rw [mk_len]; omega) (c11 := by omega) (c12 := by unfold In3; omega)
            rw [g3]
            exact fin _ A _ w0 (r0 0) sm_refl (if_neg (by omega)).symm
          · refine k429_62 w0.1 (Ra_rows w0) (k429_77 ?_) (c10 := by rw [mk_len]; omega) (c11 := by omega) (c12 := by unfold In3; omega)
            rw [g1]
            exact fin _ A _ w0 (r0 0) sm_refl (if_pos (by omega)).symm
        · rw [ef1] at q2
          exact absurd rfl q2
      · rw [if_neg q3]
        exact k429_29 (fun w => absurd rfl w) (fun _ => two2 (.inr q3))
  · rw [if_neg hin]
    refine k429_6 (fun w => absurd rfl w) (fun _ => k429_9 (bad 1 (by decide) (by decide) ⟨fun _ => ⟨rfl, rfl⟩, fun w => absurd w hin⟩))
theorem V_at (hv : RV h s A) {T : Nat → th} (hR : RI s A T) {x p k : Int} (hx : In3 x) (hp' : In3 p) (hk : In3 k) : wm sw_P (d + 3) 404 [.index 1290, vi x, vi p, vi k] h (RA h (fun v s' A' => ∃ c a, atS (s 1) T x p k c a ∧ v = vi a ∧ s' = up s 0 c ∧ A' = A ∧ RI s' A' T)) := by
  refine wm_in (cd := sw_c404) (nL := 4) (hd := sw_h404) rfl rfl ?_
  have b0 := hR.1.1
  have v0 : ∀ z : Int, RV (hp h 1290 (1, 11, (rF s).set 0 (vi z))) (up s 0 z) A := fun z => RV_fld hv (up s 0 z) (rF_0 s z)
  have r0 : ∀ z : Int, FR h (hp h 1290 (1, 11, (rF s).set 0 (vi z))) := fun z => FR_fld hv _
  have bad : ∀ z : Int, 0 < z → z < 3 → atS (s 1) T x p k z 0 → wr sw_P (d + 2) sw_c404 sw_h404 (46, [.index 1290, vi x, vi p, vi k], [vi z, .index 1290], h, 0, 0) (RA h (fun v s' A' => ∃ c a, atS (s 1) T x p k c a ∧ v = vi a ∧ s' = up s 0 c ∧ A' = A ∧ RI s' A' T)) := by
    intro z hz2 hz3 hs
    refine k404_46 (z10 := z) hv.1 (hp_at hv.1) (fun _ => ?_) (fun w => absurd w (by omega)) (c12 := by unfold In3; omega)
    exact k404_68 ⟨_, _, _, _, v0 z, r0 z, ⟨z, 0, hs, rfl, rfl, rfl, RI_sc hR sm_refl rfl⟩, rfl⟩
  refine k404_0 hv.1 (wm_mono (wq_r ?_) (V_isThere hv b0 hx))
  by_cases hin : 0 ≤ x ∧ x < s 1
  · rw [if_pos hin]
    refine k404_6 (fun _ => ?_) (fun w => absurd (by decide) w)
    obtain ⟨f, ef⟩ : ∃ f : Nat, x = f := ⟨x.toNat, by omega⟩
    subst ef
    have xf : (f : Int).toNat = f := by omega
    have hf := hR.2.2 f (by omega)
    have kf := isT_kd hf
    have k3 := hR.1.2.1 f (by omega)
    have i3 : In3 (A 1291 (f : Int).toNat) := by rw [xf]; unfold In3; omega
    have ik : A 1291 (f : Int).toNat = kd (T f) := kf
    have kb := kd_b (T f)
    have two2 : (2 ≤ kd (T f) ∨ ¬ (0 ≤ p ∧ p ≤ 1)) → wr sw_P (d + 2) sw_c404 sw_h404 (41, [.index 1290, vi (f : Int), vi p, vi k], [.index 1290], h, 0, 0) (RA h (fun v s' A' => ∃ c a, atS (s 1) T f p k c a ∧ v = vi a ∧ s' = up s 0 c ∧ A' = A ∧ RI s' A' T)) := fun q => k404_41 (bad 2 (by decide) (by decide) ⟨fun w => absurd hin w, fun _ => ⟨fun _ => ⟨rfl, rfl⟩, fun w => absurd q (by rw [xf] at w; exact w)⟩⟩)
    refine k404_13 hv.1 (wm_mono (wq_r ?_) (V_is hv (x := (f : Int)) (k := 2) ⟨by omega, by omega⟩ i3 (by decide)))
    rw [ik]
    by_cases q1 : kd (T f) = 2
    · rw [if_pos q1]
      exact k404_19 (fun _ => two2 (.inl (by omega))) (fun w => absurd (by decide) w)
    rw [if_neg q1]
    refine k404_19 (fun w => absurd rfl w) (fun _ => ?_)
    refine k404_22 hv.1 (wm_mono (wq_r ?_) (V_is hv (x := (f : Int)) (k := 3) ⟨by omega, by omega⟩ i3 (by decide)))
    rw [ik]
    by_cases q2 : kd (T f) = 3
    · rw [if_pos q2]
      exact k404_28 (fun _ => two2 (.inl (by omega))) (fun w => absurd (by decide) w)
    rw [if_neg q2]
    refine k404_28 (fun w => absurd rfl w) (fun _ => ?_)
    refine k404_31 (wm_mono (wq_r ?_) (t_in (x := p) (lo := 0) (hi := 1) (by unfold In6; unfold In3 at hp'; omega) (by decide) (by decide))) (c1 := hp')
    by_cases q3 : 0 ≤ p ∧ p ≤ 1
    · rw [if_pos q3]
      refine k404_38 (fun _ => k404_45 ?_) (fun w => absurd (by decide) w)
      have ok : ¬ (2 ≤ kd (T f) ∨ ¬ (0 ≤ p ∧ p ≤ 1)) := fun w => by
        rcases w with w | w
        · omega
        · exact w q3
      have w0 := v0 0
      refine k404_46 (z10 := 0) hv.1 (hp_at hv.1) (fun w => absurd w (by decide)) (fun _ => ?_)
      have fin : ∀ v : Int, (¬ (0 ≤ k ∧ k ≤ 40) → v = 0) → ((0 ≤ k ∧ k ≤ 40) → atF p k (T f) v) → (RA h (fun v s' A' => ∃ c a, atS (s 1) T f p k c a ∧ v = vi a ∧ s' = up s 0 c ∧ A' = A ∧ RI s' A' T)) (.inl (some (vi v)), hp h 1290 (1, 11, (rF s).set 0 (vi 0)), 0, 0) := fun v h1 h2 => ⟨_, _, _, A, w0, r0 0, ⟨0, v, ⟨fun w => absurd hin w, fun _ => ⟨fun w => absurd (by rw [xf] at w; exact w) ok, fun _ => ⟨rfl, h1, fun w => by rw [xf]; exact h2 w⟩⟩⟩, rfl, rfl, rfl, RI_sc hR sm_refl rfl⟩, rfl⟩
      refine k404_56 (wm_mono (wq_r ?_) (t_in (x := k) (lo := 0) (hi := 40) (by unfold In6; unfold In3 at hk; omega) (by decide) (by decide))) (c1 := hk)
      by_cases q4 : 0 ≤ k ∧ k ≤ 40
      · rw [if_pos q4]
        refine k404_65 (fun _ => ?_) (fun w => absurd (by decide) w)
        have et : ∀ c : Nat, 41 * (f : Int) + k = ((41 * f + k.toNat : Nat) : Int) := fun _ => by omega
        have g1 : gi (mk 6150 (A 1292)) (41 * (f : Int) + k) = A 1292 (41 * f + k.toNat) := by rw [et 0]; exact gi_mkn (by omega)
        have g2 : gi (mk 6150 (A 1293)) (41 * (f : Int) + k) = A 1293 (41 * f + k.toNat) := by rw [et 0]; exact gi_mkn (by omega)
        have tp : ∀ v : Int, v = A 1292 (41 * f + k.toNat) → atF p k (T f) v → wr sw_P (d + 2) sw_c404 sw_h404 (83, [.index 1290, vi (f : Int), vi p, vi k], [], hp h 1290 (1, 11, (rF s).set 0 (vi 0)), 0, 0) (RA h (fun v s' A' => ∃ c a, atS (s 1) T f p k c a ∧ v = vi a ∧ s' = up s 0 c ∧ A' = A ∧ RI s' A' T)) := fun v ev w => by
          refine k404_83 w0.1 (Ra_tops w0) (k404_108 ?_) (c10 := by rw [mk_len]; omega) (c11 := by omega) (c12 := by unfold In3; omega)
          rw [g1, ← ev]
          exact fin v (fun w2 => absurd q4 w2) (fun _ => w)
        rcases ef1 : T f with ⟨a, b⟩ | a | ⟨r, c, M⟩ | ⟨n, so, va⟩
        · rw [ef1] at hf fin tp ik
          obtain ⟨_, p1, p2, p3, p4⟩ := hf
          have t1 := fp_at p1 (k := k.toNat) (by omega)
          have t2 := fp_at p2 (k := k.toNat) (by omega)
          refine k404_70 (fun q5 => ?_) (fun q5 => ?_)
          · exact tp _ t1.symm (if_pos q5).symm
          · refine k404_74 w0.1 (wm_mono (wq_r ?_) (V_is w0 (x := (f : Int)) (k := 1) ⟨by omega, by omega⟩ i3 (by decide)))
            rw [ik]
            refine k404_80 (fun _ => ?_) (fun w => absurd rfl w)
            refine k404_97 w0.1 (Ra_bottoms w0) (k404_108 ?_) (c10 := by rw [mk_len]; omega) (c11 := by omega) (c12 := by unfold In3; omega)
            rw [g2, t2]
            exact fin _ (fun w2 => absurd q4 w2) (fun _ => (if_neg q5).symm)
        · rw [ef1] at hf fin tp ik
          obtain ⟨_, p1, p2, p3⟩ := hf
          have t1 := fp_at p1 (k := k.toNat) (by omega)
          refine k404_70 (fun q5 => ?_) (fun q5 => ?_)
          · exact tp _ t1.symm rfl
          · refine k404_74 w0.1 (wm_mono (wq_r ?_) (V_is w0 (x := (f : Int)) (k := 1) ⟨by omega, by omega⟩ i3 (by decide)))
            rw [ik]
            rw [if_pos (show kd (Sum.inr (Sum.inl a)) = 1 from rfl)]
            exact k404_80 (fun w => absurd w (by decide)) (fun _ => tp _ t1.symm rfl)
        · rw [ef1] at q1; exact absurd rfl q1
        · rw [ef1] at q2; exact absurd rfl q2
      · rw [if_neg q4]
        exact k404_65 (fun w => absurd rfl w) (fun _ => k404_68 (fin 0 (fun _ => rfl) (fun w => absurd w q4)))
    · rw [if_neg q3]
      exact k404_38 (fun w => absurd rfl w) (fun _ => two2 (.inr q3))
  · rw [if_neg hin]
    refine k404_6 (fun w => absurd rfl w) (fun _ => k404_9 (bad 1 (by decide) (by decide) ⟨fun _ => ⟨rfl, rfl⟩, fun w => absurd w hin⟩))
end
