/-! the reference's obeys in the picture -/
section
variable {d : Nat} {h : s_H} {s : Nat → Int} {A : Nat → Nat → Int}
theorem V_obeys (hv : RV h s A) {T : Nat → th} (hR : RI s A T) {x y : Int} (hx : In3 x) (hy : In3 y) : wm sw_P (d + 4) 541 [.index 1290, vi x, vi y] h (RA h (fun v s' A' => ∃ c a, obeS (s 1) T x y c a ∧ v = vi a ∧ s' = up s 0 c ∧ sm A A' scr ∧ RI s' A' T)) := by
  refine wm_in (cd := sw_c541) (nL := 8) (hd := sw_h541) rfl rfl ?_
  have b0 := hR.1.1
  have bad : ∀ (z : Int) (B : Nat → Nat → Int) (h' : s_H), 0 < z → z < 4 → obeS (s 1) T x y z 0 → RV h' s B → FR h h' → sm A B scr → wr sw_P (d + 3) sw_c541 sw_h541 (43, [.index 1290, vi x, vi y, .result, .result, .result, .result, .result], [vi z, .index 1290], h', 0, 0) (RA h (fun v s' A' => ∃ c a, obeS (s 1) T x y c a ∧ v = vi a ∧ s' = up s 0 c ∧ sm A A' scr ∧ RI s' A' T)) := by
    intro z B h' hz2 hz3 hs v r m
    refine k541_43 (z10 := z) v.1 (hp_at v.1) (fun w => absurd w (by omega)) (fun _ => k541_53 ?_) (c12 := by unfold In3; omega)
    exact ⟨_, _, _, _, RV_fld v (up s 0 z) (rF_0 s z), FR_trans r (FR_fld v _), ⟨z, 0, hs, rfl, rfl, m, RI_sc hR m rfl⟩, rfl⟩
  refine k541_0 hv.1 (wm_mono (wq_r ?_) (V_isThere hv b0 hx))
  by_cases qx : 0 ≤ x ∧ x < s 1
  case neg =>
    rw [if_neg qx]
    exact k541_6 (fun _ => k541_17 (bad 1 A h (by decide) (by decide) ⟨fun _ => ⟨rfl, rfl⟩, fun w => absurd ⟨w.1, w.2.1⟩ qx⟩ hv (FR_refl h) sm_refl)) (fun w => absurd rfl w)
  rw [if_pos qx]
  refine k541_6 (fun w => absurd w (by decide)) (fun _ => ?_)
  refine k541_9 hv.1 (wm_mono (wq_r ?_) (V_isThere hv b0 hy))
  by_cases qy : 0 ≤ y ∧ y < s 1
  case neg =>
    rw [if_neg qy]
    exact k541_14 (fun w => absurd rfl w) (fun _ => k541_17 (bad 1 A h (by decide) (by decide) ⟨fun _ => ⟨rfl, rfl⟩, fun w => absurd w.2.2 qy⟩ hv (FR_refl h) sm_refl))
  rw [if_pos qy]
  refine k541_14 (fun _ => ?_) (fun w => absurd (by decide) w)
  obtain ⟨f, ef⟩ : ∃ f : Nat, x = f := ⟨x.toNat, by omega⟩
  obtain ⟨k, ek⟩ : ∃ k : Nat, y = k := ⟨y.toNat, by omega⟩
  subst ef
  subst ek
  have xf : (f : Int).toNat = f := by omega
  have yk : (k : Int).toNat = k := by omega
  refine k541_21 hv.1 (wm_mono (wq_A (fun v1 h1 s1 A1 w1 r1 φ => ?_)) (V_isRule hv hR (f := f) (by omega)))
  obtain ⟨e1, m1, y1, y2⟩ := φ
  subst e1
  have m1' : sm A A1 scr := sm_sub m1 rfl
  have R1 : RI s1 A1 T := RI_sc hR m1' rfl
  have hin : 0 ≤ (f : Int) ∧ (f : Int) < s1 1 ∧ 0 ≤ (k : Int) ∧ (k : Int) < s1 1 := ⟨qx.1, qx.2, qy⟩
  have two2 : ¬ rkO 1 (T f) (T k) → wr sw_P (d + 3) sw_c541 sw_h541 (38, [.index 1290, vi (f : Int), vi (k : Int), .result, .result, .result, .result, .result], [.index 1290], h1, 0, 0) (RA h (fun v s' A' => ∃ c a, obeS (s1 1) T f k c a ∧ v = vi a ∧ s' = up s1 0 c ∧ sm A A' scr ∧ RI s' A' T)) := fun q => k541_38 (bad 2 A1 h1 (by decide) (by decide) ⟨fun w => absurd hin w, fun _ => ⟨fun _ => ⟨rfl, rfl⟩, fun w => absurd (by rw [xf, yk] at w; exact w) q⟩⟩ w1 r1 m1')
  have hk := R1.2.2 k qy.2
  have ik : A1 1291 (k : Int).toNat = kd (T k) := isT_kd hk
  have kb := kd_b (T k)
  have i3 : In3 (A1 1291 (k : Int).toNat) := by rw [ik]; unfold In3; omega
  by_cases q1 : rulP (T f)
  case neg =>
    rw [y2 q1]
    exact k541_26 (fun _ => two2 (fun w => q1 w.1)) (fun w => absurd rfl w)
  rw [y1 q1]
  refine k541_26 (fun w => absurd w (by decide)) (fun _ => ?_)
  refine k541_29 w1.1 (wm_mono (wq_r ?_) (V_is w1 (x := (k : Int)) (k := 1) ⟨by omega, by omega⟩ i3 (by decide)))
  rw [ik]
  by_cases q4 : kd (T k) = 1
  case neg =>
    rw [if_neg q4]
    exact k541_35 (fun w => absurd rfl w) (fun _ => two2 (fun w => q4 w.2))
  rw [if_pos q4]
  refine k541_35 (fun _ => k541_42 ?_) (fun w => absurd (by decide) w)
  have ok : rkO 1 (T f) (T k) := ⟨q1, q4⟩
  have sp : ∀ v : Int, obeF (T f) (T k) v → obeS (s1 1) T f k 0 v := fun ro y => ⟨fun w => absurd hin w, fun _ => ⟨fun w => absurd (by rw [xf, yk]; exact ok) w, fun _ => ⟨rfl, by rw [xf, yk]; exact y⟩⟩⟩
  refine k541_43 (z10 := 0) w1.1 (hp_at w1.1) (fun _ => ?_) (fun w => absurd (by decide) w)
  have w2 := RV_fld w1 (up s1 0 0) (rF_0 s1 0)
  have r2 : FR h (hp h1 1290 (1, 11, (rF s1).set 0 (vi 0))) := FR_trans r1 (FR_fld w1 _)
  obtain ⟨L, M, tf⟩ := rul_ma q1
  have R2 : RI (up s1 0 0) A1 T := RI_sc hR m1' rfl
  have hf2 := R2.2.2 f qx.2
  rw [tf] at hf2
  obtain ⟨q0, hL⟩ := row0_T hf2 (RI_me R2)
  refine k541_55 w2.1 (wm_mono (wq_Q (fun h3 w3 r3 => ?_)) (V_load w2 (t := 1298) (b := 1299) rfl rfl (by decide) (x := (k : Int)) ⟨by omega, by omega⟩ (RB_t R1.1) (RB_b R1.1)))
  rw [yk] at w3
  have m3 : sm A (up (up A1 1298 (fp A1 1292 k)) 1299 (fp A1 1293 k)) scr := sm_up (sm_up m1' _ rfl) _ rfl
  have q03 := row0_sm q0 (B := up (up A1 1298 (fp A1 1292 k)) 1299 (fp A1 1293 k)) (sm_up (sm_up sm_refl _ rfl) _ rfl)
  rcases ek1 : T k with ⟨a, b⟩ | a | ⟨r', c, M'⟩ | ⟨n, so, va⟩
  · rw [ek1] at q4; exact (kdn q4 rfl).elim
  · rw [ek1] at hk
    obtain ⟨_, p1, p2, p3⟩ := hk
    have h98 : up (up A1 1298 (fp A1 1292 k)) 1299 (fp A1 1293 k) 1298 = cf a := by rw [up_ne _ _ (by decide), up_at, p1]
    have mF : ∀ v : Int, ((∀ n : Nat, n + L - 1 < 25 → rsm (M 0) a.1 n L = 0) → v = 1) → (¬ (∀ n : Nat, n + L - 1 < 25 → rsm (M 0) a.1 n L = 0) → v = 0) → obeF (T f) (T k) v := fun res y1 y2 => by rw [tf, ek1]; exact ⟨y1, y2⟩
    refine k541_68 ?_
    have loop : ∀ (l n : Nat) (b : Int) (B : Nat → Nat → Int) (h' : s_H) (t5 t6 t7 : Term), n + l = 26 - L → RV h' (up s1 0 0) B → FR h h' → sm (up (up A1 1298 (fp A1 1292 k)) 1299 (fp A1 1293 k)) B [1308] → (b = 1 ∧ (∀ j, j < n → rsm (M 0) a.1 j L = 0) ∨ b = 0 ∧ ∃ j, j < n ∧ rsm (M 0) a.1 j L ≠ 0) → wr sw_P (d + 3) sw_c541 sw_h541 (73, [.index 1290, vi (f : Int), vi (k : Int), vi b, vi (n : Int), t5, t6, t7], [], h', 0, 0) (RA h (fun v s' A' => ∃ c a, obeS (s1 1) T f k c a ∧ v = vi a ∧ s' = up s1 0 c ∧ sm A A' scr ∧ RI s' A' T)) := by
      intro l
      induction l with
      | zero =>
        intro n b B h' t5 t6 t7 hn v rr m hb
        have q0' := row0_sm q03 (sm_sub (M := scr) m rfl)
        have g1 : gi (mk 150 (B 1295)) (f : Int) = (L : Int) := by rw [gi_mkn (by omega)]; exact q0'.1
        refine k541_73 v.1 (Ra_columns v) (fun _ => ?_) (fun w => absurd w (by rw [g1]; omega)) (c10 := by rw [mk_len]; omega) (c11 := by omega) (c12 := by unfold In3; omega) (c13 := by rw [g1]; unfold In3; omega)
        have mm := sm_tr m3 (sm_sub (M := scr) m rfl)
        refine k541_164 ⟨_, h', _, B, v, rr, ⟨0, b, sp b (mF b (fun w => ?_) (fun w => ?_)), rfl, rfl, mm, RI_sc hR mm rfl⟩, rfl⟩ (c1 := by rcases hb with ⟨b1, _⟩ | ⟨b1, _⟩ <;> omega)
        · rcases hb with ⟨b1, _⟩ | ⟨_, j, j1, j2⟩
          · exact b1
          · exact absurd (w j (by omega)) j2
        · rcases hb with ⟨_, b2⟩ | ⟨b1, _⟩
          · exact absurd (fun n hn => b2 n (by omega)) w
          · exact b1
      | succ l ih =>
        intro n b B h' t5 t6 t7 hn v rr m hb
        have q0' := row0_sm q03 (sm_sub (M := scr) m rfl)
        have g1 : gi (mk 150 (B 1295)) (f : Int) = (L : Int) := by rw [gi_mkn (by omega)]; exact q0'.1
        refine k541_73 v.1 (Ra_columns v) (fun w => absurd w (by rw [g1]; omega)) (fun _ => k541_89 ?_) (c10 := by rw [mk_len]; omega) (c11 := by omega) (c12 := by unfold In3; omega) (c13 := by rw [g1]; unfold In3; omega)
        have ib : In3 b := by rcases hb with ⟨b1, _⟩ | ⟨b1, _⟩ <;> (rw [b1]; decide)
        have inner : ∀ (l2 i : Nat) (C : Nat → Nat → Int) (h2 : s_H) (t6 : Term), i + l2 = L → RV h2 (up s1 0 0) C → FR h h2 → sm B C [1308] → wr sw_P (d + 3) sw_c541 sw_h541 (95, [.index 1290, vi (f : Int), vi (k : Int), vi b, vi (n : Int), vl ((zp_sum (fun i => zp_ev (nF (n : Int)) (M 0 i) * a.1 (n + i)) i).val : Int), t6, vi (i : Int)], [], h2, 0, 0) (RA h (fun v s' A' => ∃ c a, obeS (s1 1) T f k c a ∧ v = vi a ∧ s' = up s1 0 c ∧ sm A A' scr ∧ RI s' A' T)) := by
          intro l2
          induction l2 with
          | zero =>
            intro i C h2 t6 hi2 v' r' m'
            have iL : i = L := by omega
            subst iL
            have q0'' := row0_sm q0' (sm_sub (M := scr) m' rfl)
            have g1' : gi (mk 150 (C 1295)) (f : Int) = (i : Int) := by rw [gi_mkn (by omega)]; exact q0''.1
            have bs := (zp_sum (fun j => zp_ev (nF (n : Int)) (M 0 j) * a.1 (n + j)) i).isLt
            refine k541_95 v'.1 (Ra_columns v') (fun _ => ?_) (fun w => absurd w (by rw [g1']; omega)) (c10 := by rw [mk_len]; omega) (c11 := by omega) (c12 := by unfold In3; omega) (c13 := by unfold In3; omega) (c14 := by rw [g1']; unfold In3; omega)
            have no : (rsm (M 0) a.1 n i ≠ 0 ∨ b = 0) → wr sw_P (d + 3) sw_c541 sw_h541 (156, [.index 1290, vi (f : Int), vi (k : Int), vi b, vi (n : Int), vl ((zp_sum (fun j => zp_ev (nF (n : Int)) (M 0 j) * a.1 (n + j)) i).val : Int), t6, vi (i : Int)], [], h2, 0, 0) (RA h (fun v s' A' => ∃ c a, obeS (s1 1) T f k c a ∧ v = vi a ∧ s' = up s1 0 c ∧ sm A A' scr ∧ RI s' A' T)) := fun w => by
              refine k541_156 (k541_157 ?_)
              refine ih (n + 1) 0 C h2 _ _ _ (by omega) v' r' (sm_tr m m') (.inr ⟨rfl, ?_⟩)
              rcases w with w | w
              · exact ⟨n, by omega, w⟩
              · rcases hb with ⟨b1, _⟩ | ⟨_, j, j1, j2⟩
                · omega
                · exact ⟨j, by omega, j2⟩
            refine k541_141 (fun w => no (.inr w)) (fun w => ?_) (c1 := ib)
            refine k541_145 (fun w2 => no (.inl (fun q => w2 ?_))) (fun w2 => ?_) (c1 := in6_of (by omega) (by omega))
            · have q' : zp_sum (fun j => zp_ev (nF (n : Int)) (M 0 j) * a.1 (n + j)) i = 0 := q
              rw [q']; rfl
            · have z0 : rsm (M 0) a.1 n i = 0 := F_ext (by show ((zp_sum (fun j => zp_ev (nF (n : Int)) (M 0 j) * a.1 (n + j)) i).val : Int) = 0; omega)
              refine k541_152 (k541_157 ?_)
              refine ih (n + 1) 1 C h2 _ _ _ (by omega) v' r' (sm_tr m m') (.inl ⟨rfl, fun j hj => ?_⟩)
              rcases hb with ⟨_, b2⟩ | ⟨b1, _⟩
              · by_cases q : j = n
                · rw [q]; exact z0
                · exact b2 j (by omega)
              · exact absurd b1 w
          | succ l2 ih2 =>
            intro i C h2 t6 hi2 v' r' m'
            have q0'' := row0_sm q0' (sm_sub (M := scr) m' rfl)
            have g1' : gi (mk 150 (C 1295)) (f : Int) = (L : Int) := by rw [gi_mkn (by omega)]; exact q0''.1
            refine k541_95 v'.1 (Ra_columns v') (fun w => absurd w (by rw [g1']; omega)) (fun _ => ?_) (c10 := by rw [mk_len]; omega) (c11 := by omega) (c12 := by unfold In3; omega) (c13 := by unfold In3; omega) (c14 := by rw [g1']; unfold In3; omega)
            refine k541_106 v'.1 (wm_mono (wq_A (fun v5 h5 s5 A5 w5 r5 φ => ?_)) (V_ruleAt v' (f := f) (by omega) hL q0'' (i := i) (by omega) (n := n) (by omega)))
            obtain ⟨e5, m5, ev5⟩ := φ
            subst e5
            subst ev5
            have gC : A5 1298 = cf a := (m5 1298 rfl).trans ((m' 1298 rfl).trans ((m 1298 rfl).trans h98))
            have gn : gi (mk 176 (A5 1298)) ((n : Int) + i) = ((a.1 (n + i)).val : Int) := by rw [gC, show (n : Int) + i = ((n + i : Nat) : Int) by omega]; exact gi_mkn (by omega)
            refine k541_117 w5.1 (Ra_at w5) ?_ (c10 := by rw [mk_len]; omega) (c11 := by omega) (c12 := by unfold In3; omega) (c13 := by rw [gn]; exact in_acc _ _ _)
            rw [gn, tm_ab]
            exact ih2 (i + 1) _ _ _ (by omega) w5 (FR_trans r' r5) (sm_tr m' m5)
        exact inner L 0 B h' _ (by omega) v rr sm_refl
    exact loop (26 - L) 0 1 _ h3 _ _ _ (by omega) w3 (FR_trans r2 r3) sm_refl (.inl ⟨rfl, fun j hj => absurd hj (Nat.not_lt_zero j)⟩)
  · rw [ek1] at q4; exact (kdn q4 rfl).elim
  · rw [ek1] at q4; exact (kdn q4 rfl).elim
end
