/-! the class: the call same -/
section
variable {D : Nat} {h : s_H} {n : Nat} {T : Nat → th} {tx lf lp tk : Int}
/-- 1 if it holds, 0 if not -/
def tf (p : Prop) (v : Int) : Prop := (p → v = 1) ∧ (¬ p → v = 0)
theorem tf_01 {p : Prop} {v : Int} (h : tf p v) : v = 0 ∨ v = 1 := by
  by_cases q : p
  · exact .inr (h.1 q)
  · exact .inl (h.2 q)
theorem r_same {d nx kc ks : Nat} {cd : s_Cd} {ls rest : List Term} {Q : s_O → Prop} {p q Lp Lq : Nat} {f g : zp_R} (Pf : PF h p Lp f) (Pg : PF h q Lq g) (ok : f = g → wr sw_P d cd [] (nx, ls, vi 1 :: rest, h, kc, ks) Q) (no : f ≠ g → wr sw_P d cd [] (nx, ls, vi 0 :: rest, h, kc, ks) Q) : wm sw_P (D + 1) 177 [.index p, .index q] h (wq sw_P d cd [] nx ls rest kc ks Q) := by
  refine wm_mono (wq_r ?_) (u_sameAs Pf Pg)
  by_cases e : f = g
  · rw [if_pos e]
    exact ok e
  · rw [if_neg e]
    exact no e
theorem u_sameEntries {a b r w r2 w2 : Nat} {M N : Nat → Nat → zp_R} (Ka : KT h a (th_ma r w M)) (Kb : KT h b (th_ma r2 w2 N)) : wm sw_P (D + 2) 269 [.index a, .index b] h (fun out => ∃ v : Int, tf (eqT (th_ma r w M) (th_ma r2 w2 N)) v ∧ qr (vi v) h out) := by
  refine wm_in (cd := sw_c269) (nL := 3) (hd := sw_h269) rfl rfl ?_
  obtain ⟨ea, la, ga, _, gla, lla, r14, w14, ha⟩ := Ka
  obtain ⟨eb, lb, gb, _, glb, llb, r24, w24, hb⟩ := Kb
  have no : ¬ eqT (th_ma r w M) (th_ma r2 w2 N) → ∃ v : Int, tf (eqT (th_ma r w M) (th_ma r2 w2 N)) v ∧ qr (vi v) h (.inl (some (vi 0)), h, 0, 0) := fun q => ⟨0, ⟨fun w => absurd w q, fun _ => rfl⟩, rfl⟩
  refine k269_0 (z5 := (r : Int)) (z11 := (r2 : Int)) ga gb (fun q => k269_22 (no (fun e => q (by rw [e.1])))) (fun q => ?_) (c13 := by unfold In3; omega) (c14 := by unfold In3; omega)
  refine k269_11 (z5 := (w : Int)) (z11 := (w2 : Int)) ga gb (fun q2 => k269_24 ?_) (fun q2 => k269_22 (no (fun e => q2 (by rw [e.2.1])))) (c13 := by unfold In3; omega) (c14 := by unfold In3; omega)
  have er : r = r2 := by omega
  have ew : w = w2 := by omega
  subst er ew
  have b16 : r * w ≤ 4 * 4 := Nat.mul_le_mul r14.2 w14.2
  -- entry t of both
  have ij : ∀ t, t < r * w → ∃ i j, i < r ∧ j < w ∧ t = i * w + j := fun t ht => ⟨t / w, t % w, (Nat.div_lt_iff_lt_mul (by omega)).mpr ht, Nat.mod_lt _ (by omega), by
    have := Nat.div_add_mod t w
    rw [Nat.mul_comm] at this
    exact this.symm⟩
  have loop : ∀ (l t : Nat), t + l = r * w → (∀ i j, i < r → j < w → i * w + j < t → M i j = N i j) → wr sw_P (D + 1) sw_c269 sw_h269 (26, [.index a, .index b, vi (t : Int)], [], h, 0, 0) (fun out => ∃ v : Int, tf (eqT (th_ma r w M) (th_ma r w N)) v ∧ qr (vi v) h out) := by
    intro l
    induction l with
    | zero =>
      intro t ht all
      have bd : ∀ i j, i < r → j < w → i * w + j < r * w := fun i j h1 h2 => by
        have := Nat.mul_le_mul_right w (show i + 1 ≤ r by omega)
        rw [Nat.succ_mul] at this
        omega
      exact k269_26 ga gla (fun _ => k269_70 ⟨1, ⟨fun _ => rfl, fun q => absurd ⟨rfl, rfl, fun i j h1 h2 => all i j h1 h2 (by have := bd i j h1 h2; omega)⟩ q⟩, rfl⟩) (fun q => absurd (by rw [lla]; omega) q) (c11 := by unfold In3; omega) (c12 := by rw [lla]; unfold In3; omega)
    | succ l ih =>
      intro t ht all
      obtain ⟨i, j, i1, j1, et⟩ := ij t (by omega)
      obtain ⟨p, lp, n1, _, Pp, _⟩ := ha i j i1 j1
      obtain ⟨q, lq, n2, _, Pq, _⟩ := hb i j i1 j1
      refine k269_26 ga gla (fun q => absurd q (by rw [lla]; omega)) (fun _ => ?_) (c11 := by unfold In3; omega) (c12 := by rw [lla]; unfold In3; omega)
      refine k269_35 gb glb (fun q => absurd q (by rw [llb]; omega)) (fun _ => ?_) (c11 := by unfold In3; omega) (c12 := by rw [llb]; unfold In3; omega)
      refine k269_44 (v11 := .index p) (v26 := .index q) ga gla gb glb (PF_c Pp) (r_same Pp Pq (fun e => ?_) (fun e => ?_)) (n12 := by rw [show ((t : Int)).toNat = t by omega, et]; exact n1) (n27 := by rw [show ((t : Int)).toNat = t by omega, et]; exact n2) (c14 := by unfold In3; omega) (c15 := by omega)
      · refine k269_59 (fun _ => k269_64 ?_) (fun w => absurd (by decide) w) (c1 := by decide)
        rw [show (t : Int) + 1 = ((t + 1 : Nat) : Int) by omega]
        refine ih (t + 1) (by omega) (fun i' j' h1 h2 h3 => ?_)
        by_cases same : i' = i ∧ j' = j
        · obtain ⟨rfl, rfl⟩ := same
          exact e
        · have := idx_ne h2 j1 same
          exact all i' j' h1 h2 (by omega)
      · exact k269_59 (fun w => absurd rfl w) (fun _ => k269_62 (no (fun w => e (w.2.2 i j i1 j1)))) (c1 := by decide)
  exact loop (r * w) 0 (by omega) (fun i j _ _ q => absurd q (Nat.not_lt_zero _))
/-- two rows of numbers -/
theorem u_sameNumbers {a b p q La Lb : Nat} {z z2 : Int} {f g : Nat → Int} (ga : s_get h a = some (1, 8, [vi z, .null, .null, vi 0, vi 0, .null, .index p, vi 0])) (gb : s_get h b = some (1, 8, [vi z2, .null, .null, vi 0, vi 0, .null, .index q, vi 0])) (gp : s_get h p = some (ai La f)) (gq : s_get h q = some (ai Lb g)) (l1 : La ≤ 1000) (l2 : Lb ≤ 1000) (fb : ∀ i, i < La → In3 (f i)) (gbd : ∀ i, i < Lb → In3 (g i)) : wm sw_P (D + 1) 270 [.index a, .index b] h (fun out => ∃ v : Int, tf (La = Lb ∧ ∀ i, i < La → f i = g i) v ∧ qr (vi v) h out) := by
  refine wm_in (cd := sw_c270) (nL := 3) (hd := sw_h270) rfl rfl ?_
  have ha : ((mk La f).map vi).length = La := by rw [List.length_map, mk_len]
  have hb : ((mk Lb g).map vi).length = Lb := by rw [List.length_map, mk_len]
  have no : ¬ (La = Lb ∧ ∀ i, i < La → f i = g i) → ∃ v : Int, tf (La = Lb ∧ ∀ i, i < La → f i = g i) v ∧ qr (vi v) h (.inl (some (vi 0)), h, 0, 0) := fun q => ⟨0, ⟨fun w => absurd w q, fun _ => rfl⟩, rfl⟩
  refine k270_0 (a8 := (mk La f).map vi) (a18 := (mk Lb g).map vi) (tg10 := 0) (tg20 := 0) ga gp gb gq (fun w => k270_15 ?_) (fun w => k270_13 (no (fun e => w (by rw [ha, hb, e.1])))) (c21 := by rw [ha]; unfold In3; omega) (c22 := by rw [hb]; unfold In3; omega)
  rw [ha, hb] at w
  have eL : La = Lb := by omega
  subst eL
  have loop : ∀ (l t : Nat), t + l = La → (∀ i, i < t → f i = g i) → wr sw_P D sw_c270 sw_h270 (17, [.index a, .index b, vi (t : Int)], [], h, 0, 0) (fun out => ∃ v : Int, tf (La = La ∧ ∀ i, i < La → f i = g i) v ∧ qr (vi v) h out) := by
    intro l
    induction l with
    | zero =>
      intro t ht all
      exact k270_17 (a8 := (mk La f).map vi) (tg10 := 0) ga gp (fun _ => k270_49 ⟨1, ⟨fun _ => rfl, fun q => absurd ⟨rfl, fun i hi2 => all i (by omega)⟩ q⟩, rfl⟩) (fun q => absurd (by rw [ha]; omega) q) (c11 := by unfold In3; omega) (c12 := by rw [ha]; unfold In3; omega)
    | succ l ih =>
      intro t ht all
      have e1 : gi (mk La f) (t : Int) = f t := gi_mkn (by omega)
      have e2 : gi (mk La g) (t : Int) = g t := gi_mkn (by omega)
      refine k270_17 (a8 := (mk La f).map vi) (tg10 := 0) ga gp (fun q => absurd q (by rw [ha]; omega)) (fun _ => ?_) (c11 := by unfold In3; omega) (c12 := by rw [ha]; unfold In3; omega)
      refine k270_26 (a8 := mk La f) (a20 := mk La g) ga gp gb gq (fun e => k270_43 ?_) (fun e => k270_41 (no (fun w => e (by rw [e1, e2]; exact w.2 t (by omega))))) (c10 := by rw [mk_len]; omega) (c11 := by omega) (c12 := by unfold In3; omega) (c22 := by rw [mk_len]; omega) (c23 := by rw [e1]; exact fb t (by omega)) (c24 := by rw [e2]; exact gbd t (by omega))
      rw [e1, e2] at e
      rw [show (t : Int) + 1 = ((t + 1 : Nat) : Int) by omega]
      refine ih (t + 1) (by omega) (fun i hi2 => ?_)
      by_cases q : i = t
      · rw [q, e]
      · exact all i (by omega)
  exact loop La 0 (by omega) (fun i hi2 => absurd hi2 (Nat.not_lt_zero i))
/-- sameAs of two kept things -/
theorem u_sameAsT {a b : Nat} {t u : th} (Ka : KT h a t) (Kb : KT h b u) : wm sw_P (D + 3) 268 [.index a, .index b] h (fun out => ∃ v : Int, tf (eqT t u) v ∧ qr (vi v) h out) := by
  refine wm_in (cd := sw_c268) (nL := 2) (hd := sw_h268) rfl rfl ?_
  obtain ⟨fa, ga⟩ := KT_kd Ka
  obtain ⟨fb, gb⟩ := KT_kd Kb
  have ba := kd_b t
  have bb := kd_b u
  refine k268_0 (z5 := kd t) (z11 := kd u) ga gb (fun e => ?_) (fun e => k268_11 ⟨0, ⟨fun w => ?_, fun _ => rfl⟩, rfl⟩) (c13 := by unfold In3; omega) (c14 := by unfold In3; omega)
  rotate_left
  · exfalso
    rcases t with ⟨N1, D1⟩ | f | ⟨r, w1, M⟩ | ⟨n1, so, va⟩ <;> rcases u with ⟨N2, D2⟩ | g | ⟨r2, w2, M2⟩ | ⟨n2, so2, va2⟩
    all_goals first
      | exact e rfl
      | exact w.elim
  rcases t with ⟨N1, D1⟩ | f | ⟨r, w1, M⟩ | ⟨n1, so, va⟩ <;> rcases u with ⟨N2, D2⟩ | g | ⟨r2, w2, M2⟩ | ⟨n2, so2, va2⟩
  · obtain ⟨q1, l1, r1, m1, ga, _, _, P1, P2, _⟩ := Ka
    obtain ⟨q2, l2, r2, m2, gb, _, _, P3, P4, _⟩ := Kb
    have fin : ∀ v : Int, tf (eqT (.inl (N1, D1)) (.inl (N2, D2))) v → wr sw_P (D + 2) sw_c268 sw_h268 (53, [.index a, .index b], [vi v], h, 0, 0) (fun out => ∃ v : Int, tf (eqT (.inl (N1, D1)) (.inl (N2, D2))) v ∧ qr (vi v) h out) := fun v hv => k268_53 ⟨v, hv, rfl⟩ (c1 := tf_01 hv)
    refine k268_13 (z5 := 0) ga (fun w => absurd rfl w) (fun _ => ?_) (c7 := by decide)
    refine k268_20 ga gb (PF_c P1) (r_same P1 P3 (fun e1 => ?_) (fun e1 => ?_))
    · refine k268_31 (fun w => absurd w (by first | (simp [kd]; done) | decide)) (fun _ => ?_) (c1 := by decide)
      refine k268_34 ga gb (PF_c P2) (r_same P2 P4 (fun e2 => ?_) (fun e2 => ?_))
      · exact k268_45 (fun w => absurd w (by first | (simp [kd]; done) | decide)) (fun _ => k268_48 (fin 1 ⟨fun _ => rfl, fun q => absurd ⟨e1, e2⟩ q⟩)) (c1 := by decide)
      · exact k268_45 (fun _ => k268_52 (fin 0 ⟨fun q => absurd q.2 e2, fun _ => rfl⟩)) (fun w => absurd rfl w) (c1 := by decide)
    · exact k268_31 (fun _ => k268_52 (fin 0 ⟨fun q => absurd q.1 e1, fun _ => rfl⟩)) (fun w => absurd rfl w) (c1 := by decide)
  · exact absurd e (by first | (simp [kd]; done) | decide)
  · exact absurd e (by first | (simp [kd]; done) | decide)
  · exact absurd e (by first | (simp [kd]; done) | decide)
  · exact absurd e (by first | (simp [kd]; done) | decide)
  · obtain ⟨p, ga, kp1, gp, dp⟩ := Ka
    obtain ⟨q, gb, kq1, gq, dq⟩ := Kb
    refine k268_13 (z5 := 1) ga (fun _ => ?_) (fun w => absurd (by decide) w) (c7 := by decide)
    refine k268_54 (z5 := 1) ga (fun _ => ?_) (fun w => absurd (by decide) w) (c7 := by decide)
    have b3 : ∀ (f : zp_R) (i : Nat), In3 (cf f i) := fun f i => by have := cf_b f i; unfold In3; omega
    refine k268_70 ga (wm_mono (fun out => ?_) (u_sameNumbers ga gb gp gq (by decide) (by decide) (fun i _ => b3 f i) (fun i _ => b3 g i)))
    intro ⟨v, hv, eo⟩
    refine wq_r ?_ out eo
    have iff : (25 = 25 ∧ ∀ i, i < 25 → cf f i = cf g i) ↔ f = g := ⟨fun w => zp_ext (fun i => by
      by_cases q : i < 25
      · exact F_ext (w.2 i q)
      · rw [dp i (by omega), dq i (by omega)]), fun w => ⟨rfl, fun i _ => by rw [w]⟩⟩
    refine k268_75 ⟨v, ⟨fun w => hv.1 (iff.mpr w), fun w => hv.2 (fun q => w (iff.mp q))⟩, rfl⟩ (c1 := tf_01 hv)
  · exact absurd e (by first | (simp [kd]; done) | decide)
  · exact absurd e (by first | (simp [kd]; done) | decide)
  · exact absurd e (by first | (simp [kd]; done) | decide)
  · exact absurd e (by first | (simp [kd]; done) | decide)
  · obtain ⟨_, ga⟩ := KT_ce Ka
    refine k268_13 (z5 := 2) ga (fun _ => ?_) (fun w => absurd (by decide) w) (c7 := by decide)
    refine k268_54 (z5 := 2) ga (fun w => absurd rfl w) (fun _ => ?_) (c7 := by decide)
    refine k268_62 ga (wm_mono (fun out => ?_) (u_sameEntries Ka Kb))
    intro ⟨v, hv, eo⟩
    refine wq_r ?_ out eo
    exact k268_67 (k268_75 ⟨v, hv, rfl⟩ (c1 := tf_01 hv))
  · exact absurd e (by first | (simp [kd]; done) | decide)
  · exact absurd e (by first | (simp [kd]; done) | decide)
  · exact absurd e (by first | (simp [kd]; done) | decide)
  · exact absurd e (by first | (simp [kd]; done) | decide)
  · obtain ⟨p, ga, kp1, gp, d1, d2⟩ := Ka
    obtain ⟨q, gb, kq1, gq, d3, d4⟩ := Kb
    refine k268_13 (z5 := 3) ga (fun _ => ?_) (fun w => absurd (by decide) w) (c7 := by decide)
    refine k268_54 (z5 := 3) ga (fun _ => ?_) (fun w => absurd (by decide) w) (c7 := by decide)
    have b1 : ∀ i, i < n1 → In3 (va i * 8 + so i) := fun i hi2 => by have := d2.1 i hi2; unfold In3; omega
    have b2 : ∀ i, i < n2 → In3 (va2 i * 8 + so2 i) := fun i hi2 => by have := d4.1 i hi2; unfold In3; omega
    refine k268_70 ga (wm_mono (fun out => ?_) (u_sameNumbers ga gb gp gq (by omega) (by omega) b1 b2))
    intro ⟨v, hv, eo⟩
    refine wq_r ?_ out eo
    have iff : (n1 = n2 ∧ ∀ i, i < n1 → va i * 8 + so i = va2 i * 8 + so2 i) ↔ (n1 = n2 ∧ ∀ k, k < n1 → so k = so2 k ∧ va k = va2 k) := ⟨fun w => ⟨w.1, fun k hk => by
      have := w.2 k hk
      have h1 := d2.1 k hk
      have h2 := d4.1 k (by have := w.1; omega)
      omega⟩, fun w => ⟨w.1, fun k hk => by rw [(w.2 k hk).1, (w.2 k hk).2]⟩⟩
    refine k268_75 ⟨v, ⟨fun w => hv.1 (iff.mpr w), fun w => hv.2 (fun q => w (iff.mp q))⟩, rfl⟩ (c1 := tf_01 hv)
/-- THE CALL same -/
theorem u_sameC (H : CA h n T tx lf lp tk) {x y : Int} (hx : In3 x) (hy : In3 y) : wm sw_P (D + 4) 84 [.index 1, vi x, vi y] h (fun out => ∃ c v, samS n T x y c v ∧ CV 100 4000 100 [3] h n T tx lf lp tk c v out) := by
  refine wm_in (cd := sw_c84) (nL := 4) (hd := sw_h84) rfl rfl ?_
  have no1 : ¬ (0 ≤ x ∧ x < (n : Int) ∧ 0 ≤ y ∧ y < (n : Int)) → samS n T x y 1 0 := fun w => ⟨fun _ => ⟨rfl, rfl⟩, fun q => absurd q w⟩
  refine k84_0 H.1.1 (r_thing H hx (fun a x0 xn ka Ka => ?_) (fun w => ⟨1, 0, no1 (fun q => w ⟨q.1, q.2.1⟩), CV_x H 1 0 (by decide) rfl (by omega) (by omega)⟩))
  refine k84_5 H.1.1 (r_thing H hy (fun b y0 yn kb Kb => ?_) (fun w => ⟨1, 0, no1 (fun q => w q.2.2), CV_x H 1 0 (by decide) rfl (by omega) (by omega)⟩))
  obtain ⟨fa, ga⟩ := KT_kd Ka
  refine k84_12 ga (wm_mono (fun out => ?_) (u_sameAsT Ka Kb))
  intro ⟨v, hv, eo⟩
  refine wq_r ?_ out eo
  exact k84_15 ⟨0, v, ⟨fun q => absurd ⟨x0, xn, y0, yn⟩ q, fun _ => ⟨rfl, hv.1, hv.2⟩⟩, CV_v H v (by omega) (by omega)⟩ (c1 := tf_01 hv)
end
