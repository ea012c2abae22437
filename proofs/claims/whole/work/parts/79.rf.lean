/-! the reference: division -/
theorem zp_T_mul (c : zp_F) (j : Nat) (g : zp_R) (m : Nat) : (zp_mul (zp_T c j) g).1 m = if j ≤ m then c * g.1 (m - j) else 0 := by
  show zp_sum (fun i => (if i = j then c else 0) * g.1 (m - i)) (m + 1) = _
  by_cases h : j ≤ m
  · rw [if_pos h]
    rw [zp_sum_part (m := j + 1) (by omega) (fun i h1 h2 => by rw [if_neg (by omega)]; grind)]
    show zp_sum (fun i => (if i = j then c else 0) * g.1 (m - i)) j + (if j = j then c else 0) * g.1 (m - j) = _
    rw [zp_sum_zero (fun i hi => by rw [if_neg (by omega)]; grind), if_pos rfl]
    grind
  · rw [if_neg h]
    exact zp_sum_zero (fun i hi => by rw [if_neg (by omega)]; grind)
theorem zp_deg_T (c : zp_F) (j : Nat) {g : zp_R} {n : Nat} (hg : zp_deg g n) : zp_deg (zp_mul (zp_T c j) g) (j + n) := fun m hm => by
  rw [zp_T_mul]
  split
  · rw [hg (m - j) (by omega)]; grind
  · rfl
theorem zp_h16 {R : Type} [Lean.Grind.CommRing R] {f g Q F T : R} (h : f = g * Q + F) : f = g * (Q + T) + (F + -(T * g)) := by grind
theorem hi_deg {f : zp_R} (hd : zp_deg f 176) : zp_deg f (hi f + 1).toNat := fun i h1 => by
  have := hi_b f
  by_cases h2 : i < 176
  · exact cf_0 (rdeg_0 (cf f) 176 i (by show hi f < (i : Int); omega) h2)
  · exact hd i (by omega)
theorem hi_ne {f : zp_R} {n : Nat} (h : hi f = n) : f.1 n ≠ 0 := fun q => rdeg_ne (cf f) 176 n h (by unfold cf; rw [q]; rfl)
theorem zp_h18 {R : Type} [Lean.Grind.CommRing R] (x : R) : x = 0 + x := by grind
theorem zp_h19 {R : Type} [Lean.Grind.CommRing R] (x : R) : x = x + 0 := by grind
theorem zp_h17 {R : Type} [Lean.Grind.CommRing R] {f g : R} : f = g * 0 + f := by grind
theorem F_cg {a b : zp_F} (h : a = b) : (a.val : Int) = b.val := by rw [h]
/-- two cells, one after the other: the other way round -/
theorem hp_comm {h : s_H} {a b : Nat} {A0 B0 A B : s_C} (ha : s_get h a = some A0) (hb : s_get h b = some B0) (hab : a ≠ b) : hp (hp h a A) b B = hp (hp h b B) a A := by
  obtain ⟨r1, r2, e1, e2, e3⟩ := s_get_i ha
  obtain ⟨t1, t2, f1, f2, f3⟩ := s_get_i hb
  have l1 := (List.getElem?_eq_some_iff.mp e1).1
  have l2 := (List.getElem?_eq_some_iff.mp e2).1
  have m1 := (List.getElem?_eq_some_iff.mp f1).1
  have m2 := (List.getElem?_eq_some_iff.mp f2).1
  unfold hp
  by_cases h1 : a / 144 = b / 144
  · rw [h1] at e1 l1
    cases Option.some.inj (e1.symm.trans f1)
    by_cases h2 : a / 12 % 12 = b / 12 % 12
    · rw [h2] at e2 l2
      cases Option.some.inj (e2.symm.trans f2)
      have h3 : a % 12 ≠ b % 12 := fun h3 => hab (by omega)
      simp only [h1, h2, List.getD_eq_getElem?_getD, e1, e2, Option.getD_some, List.getElem?_set_self m1, List.getElem?_set_self m2, List.set_set]
      rw [List.set_comm _ _ h3]
    · have h2' : ¬ b / 12 % 12 = a / 12 % 12 := fun q => h2 q.symm
      simp only [h1, List.getD_eq_getElem?_getD, e1, Option.getD_some, List.getElem?_set_self m1, List.getElem?_set_ne h2, List.getElem?_set_ne h2', List.set_set, e2, f2]
      rw [List.set_comm _ _ h2]
  · have h1' : ¬ b / 144 = a / 144 := fun q => h1 q.symm
    simp only [List.getD_eq_getElem?_getD, List.getElem?_set_ne h1, List.getElem?_set_ne h1', e1, f1, e2, f2, Option.getD_some]
    rw [List.set_comm _ _ h1]
theorem t_divide {d : Nat} {h : s_H} {p q : Nat} {s : Nat → Int} {f g : zp_R} {X : Nat → Int} {n : Nat} (hr : ro h s) (hx : s_get h 1305 = some (al 176 X)) (hp0 : 0 < p) (hp1 : p ≠ 1305) (hq1 : q ≠ 1305) (hpq : q ≠ p) (hpr : p ≠ 1290) (hf : s_get h p = some (pl f)) (hg : s_get h q = some (pl g)) (hd : zp_deg f 176) (hdg0 : zp_deg g 176) (hn : hi g = n) : wm sw_P (d + 3) 433 [.index 1290, .index p, .index q] h (fun out => ∃ Q R, f = zp_add (zp_mul g Q) R ∧ zp_deg R n ∧ zp_deg R 176 ∧ zp_deg Q 176 ∧ out = (.inl none, hp (hp h 1305 (pl Q)) p (pl R), 0, 0)) := by
  refine wm_in (cd := sw_c433) (nL := 10) (hd := sw_h433) rfl rfl ?_
  have bf := hi_b f
  have bg := hi_b g
  refine k433_0 (wm_mono (wq_r ?_) (t_highp hg))
  rw [hn]
  have e1 : gi (mk 176 (cf g)) (n : Int) = cf g n := gi_mkn (by omega)
  have b1 := cf_b g n
  refine k433_4 hg (wm_mono (wq_r ?_) (t_inverse (by rw [e1]; exact ⟨by omega, by omega⟩)))
  rw [e1, nF_cf]
  refine k433_11 hr (wm_mono (wq_v ?_) (t_empty (by decide) hx))
  have fx : ∀ C j, j ≠ 1305 → s_get (hp h 1305 C) j = s_get h j := fun C j hj => hp_ne hx hj
  refine k433_20 (wm_mono (wq_r ?_) (t_highp (f := f) ((fx _ _ hp1).trans hf)))
  refine k433_24 ?_
  have hby : g.1 n * g.1 n ^ 32001 = 1 := zp_inv (hi_ne hn)
  have bby := (g.1 n ^ 32001 : zp_F).isLt
  -- going down; F and Q stand at the head with k
  have outer : ∀ (m : Nat) (k : Int) (F Q : zp_R) (t5 t7 t8 t9 : Term), k = (n : Int) + m - 1 → k < 176 → f = zp_add (zp_mul g Q) F → zp_deg F (k + 1).toNat → zp_deg Q 176 → (∀ i : Nat, (i : Int) ≤ k - n → Q.1 i = 0) → wr sw_P (d + 2) sw_c433 sw_h433 (26, [.index 1290, .index p, .index q, vi n, vl ((g.1 n ^ 32001 : zp_F).val : Int), t5, vi k, t7, t8, t9], [], hp (hp h 1305 (pl Q)) p (pl F), 0, 0) (fun out => ∃ Q R, f = zp_add (zp_mul g Q) R ∧ zp_deg R n ∧ zp_deg R 176 ∧ zp_deg Q 176 ∧ out = (.inl none, hp (hp h 1305 (pl Q)) p (pl R), 0, 0)) := by
    intro m
    induction m with
    | zero =>
      intro k F Q t5 t7 t8 t9 hk hk2 e hF hQ hQ0
      refine k433_26 (fun _ => k433_113 ?_) (fun z => absurd z (by omega))
      exact ⟨Q, F, e, fun i hi => hF i (by omega), fun i hi => hF i (by omega), hQ, rfl⟩
    | succ m ih =>
      intro k F Q t5 t7 t8 t9 hk hk2 e hF hQ hQ0
      obtain ⟨K, rfl⟩ : ∃ K : Nat, k = K := ⟨k.toNat, by omega⟩
      have hpc : s_get (hp h 1305 (pl Q)) p = some (pl f) := (fx _ _ hp1).trans hf
      have gq : ∀ (A : zp_R) (C : s_C), s_get (hp (hp h 1305 (pl A)) p C) q = some (pl g) := fun A C => by rw [hp_ne ((fx _ _ hp1).trans hf) hpq, fx _ _ hq1]; exact hg
      have gr : ∀ (A : zp_R) (C : s_C), s_get (hp (hp h 1305 (pl A)) p C) 1290 = some (1, 11, rF s) := fun A C => by rw [hp_ne ((fx _ _ hp1).trans hf) (Ne.symm hpr), fx _ _ (by decide)]; exact hr
      have gx : ∀ (A : zp_R) (C : s_C), s_get (hp (hp h 1305 (pl A)) p C) 1305 = some (pl A) := fun A C => by rw [hp_ne ((fx _ _ hp1).trans hf) (Ne.symm hp1), hp_at hx]
      refine k433_26 (fun z => absurd z (by omega)) (fun _ => ?_)
      let c : zp_F := F.1 K * g.1 n ^ 32001
      have e2 : gi (mk 176 (cf F)) (K : Int) = cf F K := gi_mkn (by omega)
      have bF := cf_b F K
      have bb := mm_le bF (y := ((g.1 n ^ 32001 : zp_F).val : Int)) ⟨by omega, by omega⟩
      have ec : cf F K * ((g.1 n ^ 32001 : zp_F).val : Int) % 32003 = (c.val : Int) := (F_mul _ _).symm
      refine k433_32 (f11 := rF s) (hp_at hpc) (gr Q _) (gx Q _) ?_ (c8 := by rw [e2]; exact in6_of (by omega) (by omega)) (c18 := by rw [mk_len]; omega)
      rw [e2, tmod_nn bb.1, ec, mk_set]
      -- the heap behind: Q has one number more
      let Q' := zp_add Q (zp_T c (K - n))
      have eQ : al 176 (fun i => if i = ((K : Int) - n).toNat then (c.val : Int) else cf Q i) = pl Q' := al_congr (fun i hi => by
        show _ = ((Q.1 i + (if i = K - n then c else 0) : zp_F).val : Int)
        by_cases h5 : i = K - n
        · rw [if_pos (by omega), if_pos h5, hQ0 i (by omega)]
          exact F_cg (zp_h18 c)
        · rw [if_neg (by omega), if_neg h5]
          exact F_cg (zp_h19 _))
      have eh : hp (hp (hp h 1305 (pl Q)) p (pl F)) 1305 (al 176 (fun i => if i = ((K : Int) - n).toNat then (c.val : Int) else cf Q i)) = hp (hp h 1305 (pl Q')) p (pl F) := by
        rw [eQ, hp_comm hpc (hp_at hx) hp1, hp_hp hx]
      show wr sw_P (d + 2) sw_c433 sw_h433 (59, [.index 1290, .index p, .index q, vi n, vl ((g.1 n ^ 32001 : zp_F).val : Int), t5, vi K, vl (c.val : Int), .result, vi 0], [], hp (hp (hp h 1305 (pl Q)) p (pl F)) 1305 (al 176 (fun i => if i = ((K : Int) - n).toNat then (c.val : Int) else cf Q i)), 0, 0) _
      rw [eh]
      let F' := zp_add F (zp_neg (zp_mul (zp_T c (K - n)) g))
      have eF : ∀ i, F'.1 i = F.1 i + -(if K - n ≤ i then c * g.1 (i - (K - n)) else 0) := fun i => by
        show F.1 i + -(zp_mul (zp_T c (K - n)) g).1 i = _
        rw [zp_T_mul]
      have hdg : zp_deg g (n + 1) := fun i hi2 => by
        by_cases h2 : i < 176
        · exact cf_0 (rdeg_0 (cf g) 176 i (by show hi g < (i : Int); omega) h2)
        · exact hdg0 i (by omega)
      have next : ∀ G : Nat → Int, (∀ i, i < 176 → G i = cf F' i) → ∀ t t9, wr sw_P (d + 2) sw_c433 sw_h433 (107, [.index 1290, .index p, .index q, vi n, vl ((g.1 n ^ 32001 : zp_F).val : Int), t5, vi K, vl (c.val : Int), t, vi t9], [], hp (hp h 1305 (pl Q')) p (al 176 G), 0, 0) (fun out => ∃ Q R, f = zp_add (zp_mul g Q) R ∧ zp_deg R n ∧ zp_deg R 176 ∧ zp_deg Q 176 ∧ out = (.inl none, hp (hp h 1305 (pl Q)) p (pl R), 0, 0)) := fun G hG t t9 => by
        refine k433_107 ?_
        rw [al_congr hG]
        refine ih _ F' Q' _ _ _ _ (by omega) (by omega) (@zp_h16 zp_R zp_ring f g Q F (zp_T c (K - n)) e) (fun i hi2 => ?_) (fun i hi2 => ?_) (fun i hi2 => ?_)
        · rw [eF]
          by_cases h5 : i = K
          · subst h5
            rw [if_pos (by omega), show i - (i - n) = n by omega]
            show F.1 i + -(F.1 i * g.1 n ^ 32001 * g.1 n) = 0
            generalize F.1 i = y
            generalize g.1 n ^ 32001 = w at hby ⊢
            generalize g.1 n = v at hby ⊢
            have : y * w * v = y * (v * w) := by grind
            rw [this, hby]; grind
          · rw [hF i (by omega)]
            split
            · rw [hdg (i - (K - n)) (by omega)]; grind
            · grind
        · show Q.1 i + (if i = K - n then c else 0) = 0
          rw [hQ i hi2, if_neg (by omega)]; grind
        · show Q.1 i + (if i = K - n then c else 0) = 0
          rw [hQ0 i (by omega), if_neg (by omega)]; grind
      by_cases hc0 : c = 0
      · -- nothing is taken away
        have hz : (c.val : Int) = 0 := by rw [hc0]; rfl
        have eFF : ∀ i, i < 176 → cf F i = cf F' i := fun i hi2 => by
          unfold cf
          rw [eF, hc0]
          refine F_cg ?_
          generalize F.1 i = y
          split <;> grind
        refine k433_59 (fun z => next (cf F) eFF _ _) (fun _ => ?_) (c1 := by decide)
        exact k433_65 (fun _ => next (cf F) eFF _ _) (fun z => absurd z (by omega)) (c1 := by rw [hz]; decide)
      · have hcp : 0 < (c.val : Int) := by
          have : c.val ≠ 0 := fun z => hc0 (Fin.ext z)
          omega
        have bc := c.isLt
        have inner : ∀ (l b : Nat) (G : Nat → Int) (t : Term), b + l = n + 1 → (∀ i, i < 176 → G i = if K - n ≤ i ∧ i < K - n + b then cf F' i else cf F i) → wr sw_P (d + 2) sw_c433 sw_h433 (59, [.index 1290, .index p, .index q, vi n, vl ((g.1 n ^ 32001 : zp_F).val : Int), t5, vi K, vl (c.val : Int), t, vi b], [], hp (hp h 1305 (pl Q')) p (al 176 G), 0, 0) (fun out => ∃ Q R, f = zp_add (zp_mul g Q) R ∧ zp_deg R n ∧ zp_deg R 176 ∧ zp_deg Q 176 ∧ out = (.inl none, hp (hp h 1305 (pl Q)) p (pl R), 0, 0)) := by
          intro l
          induction l with
          | zero =>
            intro b G t hb hG
            refine k433_59 (fun _ => next G (fun i hi2 => ?_) _ _) (fun z => absurd z (by omega))
            rw [hG i hi2]
            split
            · rfl
            · rename_i h5
              unfold cf
              rw [eF]
              refine F_cg ?_
              by_cases h6 : K - n ≤ i
              · rw [if_pos h6, hdg (i - (K - n)) (by omega)]
                generalize F.1 i = y
                grind
              · rw [if_neg h6]
                generalize F.1 i = y
                grind
          | succ l ih2 =>
            intro b G t hb hG
            refine k433_59 (fun z => absurd z (by omega)) (fun _ => ?_)
            refine k433_65 (fun z => absurd z (by omega)) (fun _ => ?_) (c1 := ⟨by omega, by omega⟩)
            have e3 : gi (mk 176 G) ((K : Int) - n + b) = cf F (K - n + b) := by
              rw [show (K : Int) - n + b = ((K - n + b : Nat) : Int) by omega, gi_mkn (by omega), hG _ (by omega), if_neg (by omega)]
            have e4 : gi (mk 176 (cf g)) (b : Int) = cf g b := gi_mkn (by omega)
            have b3 := cf_b F (K - n + b)
            have b4 := mm_le (x := (c.val : Int)) ⟨by omega, by omega⟩ (cf_b g b)
            refine k433_72 (hp_at ((fx _ _ hp1).trans hf)) (gq Q' _) (wm_mono (wq_r ?_) (t_modulo (by rw [e3, e4]; exact in6_of (by omega) (by omega)))) (c5 := by rw [mk_len]; omega) (c12 := by rw [mk_len]; omega)
            refine k433_100 (hp_at ((fx _ _ hp1).trans hf)) ?_ (c4 := by rw [mk_len]; omega)
            rw [hp_hp ((fx _ _ hp1).trans hf), mk_set, e3, e4]
            refine ih2 (b + 1) _ _ (by omega) (fun i hi2 => ?_)
            show (if i = ((K : Int) - n + b).toNat then _ else G i) = _
            by_cases h5 : i = K - n + b
            · rw [if_pos (by omega), if_pos (by omega), h5]
              unfold cf
              rw [eF, if_pos (by omega), show K - n + b - (K - n) = b by omega]
              have : F.1 (K - n + b) + -(c * g.1 b) = nF (cf F (K - n + b) - (c.val : Int) * cf g b) := by
                rw [nF_sub, nF_cf, nF_mul, nF_val, nF_cf]
                generalize F.1 (K - n + b) = y
                generalize c * g.1 b = w
                grind
              rw [this, nF_v]
              rfl
            · rw [if_neg (by omega), hG i hi2]
              by_cases h6 : K - n ≤ i ∧ i < K - n + b
              · rw [if_pos h6, if_pos (by omega)]
              · rw [if_neg h6, if_neg (by omega)]
        refine inner (n + 1) 0 (cf F) _ (by omega) (fun i hi2 => ?_)
        rw [if_neg (by omega)]
  have e0 : al 176 (fun _ => 0) = pl (zp_C 0) := al_congr (fun i hi2 => by
    show (0 : Int) = (((if i = 0 then (0 : zp_F) else 0)).val : Int)
    split <;> rfl)
  have hend : f = zp_add (zp_mul g (zp_C 0)) f := @zp_h17 zp_R zp_ring f g
  have same : hp (hp h 1305 (pl (zp_C 0))) p (pl f) = hp h 1305 (pl (zp_C 0)) := hp_same ((fx _ _ hp1).trans hf)
  rw [e0]
  by_cases hlt : hi f < n
  · refine k433_26 (fun _ => k433_113 ?_) (fun z => absurd hlt z)
    exact ⟨zp_C 0, f, hend, fun i hi2 => hi_deg hd i (by omega), hd, fun i hi2 => if_neg (by omega), by rw [same]⟩
  · have := outer (hi f - n + 1).toNat (hi f) f (zp_C 0) (s_uu .result) .result .result .result (by omega) (by omega) hend (hi_deg hd) (fun i hi2 => if_neg (by omega)) (fun i hi2 => by
      show (if i = 0 then (0 : zp_F) else 0) = 0
      split <;> rfl)
    rw [same] at this
    exact this
