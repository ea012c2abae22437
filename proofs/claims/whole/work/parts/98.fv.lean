/-! the reference's reader: sums and terms are put by, loaded again; a bracket begins; a node is put down; the text is taken -/
/-- f at place n of rows of 41 each -/
def pfn (A B : Nat → Nat → Int) (c n : Nat) (f : zp_R) : Prop := fp B c n = cf f ∧ ∀ k, k ≠ n → fp B c k = fp A c k
theorem fp_fill {A B : Nat → Nat → Int} {c n : Nat} {f : zp_R} (df : zp_deg f 41) (g : ∀ t, B c t = if 41 * n ≤ t ∧ t < 41 * n + 41 then cf f (t - 41 * n) else A c t) : pfn A B c n f := by
  refine ⟨?_, fun k hk => ?_⟩
  · funext x
    unfold fp
    by_cases q : x ≤ 40
    · rw [if_pos q, g, if_pos (by omega), show 41 * n + x - 41 * n = x by omega]
    · rw [if_neg q]
      unfold cf
      rw [df x (by omega)]; rfl
  · funext x
    unfold fp
    by_cases q : x ≤ 40
    · rw [if_pos q, if_pos q, g, if_neg (by omega)]
    · rw [if_neg q, if_neg q]
section
variable {d : Nat} {h : s_H} {s : Nat → Int} {A : Nat → Nat → Int}
theorem V_storeSum (hv : RV h s A) {n : Nat} (hn : s 59 = (n : Int)) (n20 : n ≤ 20) {N D : zp_R} (gN : A 1302 = cf N) (gD : A 1303 = cf D) (dN : zp_deg N 41) (dD : zp_deg D 41) : wm sw_P (d + 1) 599 [.index 1290] h (RN h (fun s' A' => s' = s ∧ (∀ x, x ≠ 1342 → x ≠ 1343 → A' x = A x) ∧ pfn A A' 1342 n N ∧ pfn A A' 1343 n D)) := by
  refine wm_in (cd := sw_c599) (nL := 2) (hd := sw_h599) rfl rfl ?_
  have loop : ∀ (l i : Nat) (B : Nat → Nat → Int) (h' : s_H), i + l = 41 → RV h' s B → FR h h' → (∀ x, x ≠ 1342 → x ≠ 1343 → B x = A x) → (∀ t, B 1342 t = if 41 * n ≤ t ∧ t < 41 * n + i then cf N (t - 41 * n) else A 1342 t) → (∀ t, B 1343 t = if 41 * n ≤ t ∧ t < 41 * n + i then cf D (t - 41 * n) else A 1343 t) → wr sw_P d sw_c599 sw_h599 (2, [.index 1290, vi (i : Int)], [], h', 0, 0) (RN h (fun s' A' => s' = s ∧ (∀ x, x ≠ 1342 → x ≠ 1343 → A' x = A x) ∧ pfn A A' 1342 n N ∧ pfn A A' 1343 n D)) := by
    intro l
    induction l with
    | zero =>
      intro i B h' hi2 v r o g1 g2
      have ei : i = 41 := by omega
      subst ei
      exact k599_2 (fun _ => k599_54 ⟨h', s, B, v, r, ⟨rfl, o, fp_fill dN g1, fp_fill dD g2⟩, rfl⟩) (fun w => absurd (by decide) w) (c1 := by decide)
    | succ l ih =>
      intro i B h' hi2 v r o g1 g2
      have e1 : gi (mk 176 (B 1302)) (i : Int) = cf N i := by rw [o 1302 (by decide) (by decide), gN]; exact gi_mkn (by omega)
      have e2 : gi (mk 176 (B 1303)) (i : Int) = cf D i := by rw [o 1303 (by decide) (by decide), gD]; exact gi_mkn (by omega)
      refine k599_2 (fun w => absurd w (by omega)) (fun _ => ?_) (c1 := by unfold In3; omega)
      have v1 := Rp_sumTop v (fun t => if t = (41 * (n : Int) + (i : Int)).toNat then cf N i else B 1342 t)
      refine k599_8 (z7 := (n : Int)) (z28 := (n : Int)) (a12 := mk 176 (B 1302)) (a33 := mk 176 (B 1303)) (a37 := mk 861 (B 1343)) v.1 (RV_l v (c := 1302) rfl) (Ra_sumTop v) ((hp_ne (Ra_sumTop v) (by decide)).trans v.1) ((hp_ne (Ra_sumTop v) (by decide)).trans (RV_l v (c := 1303) rfl)) ((hp_ne (Ra_sumTop v) (by decide)).trans (Ra_sumBottom v)) ?_ (n8 := by
        show some (vi (s 59)) = _
        rw [hn]) (n29 := by
        show some (vi (s 59)) = _
        rw [hn]) (c14 := by rw [mk_len]; omega) (c15 := by omega) (c16 := by unfold In3; omega) (c20 := by rw [mk_len]; omega) (c21 := by omega) (c22 := by unfold In3; omega) (c35 := by rw [mk_len]; omega) (c39 := by rw [mk_len]; omega) (c40 := by omega) (c41 := by unfold In3; omega)
      rw [e1, e2, mk_set, mk_set]
      have v2 := Rp_sumBottom v1 (fun t => if t = (41 * (n : Int) + (i : Int)).toNat then cf D i else B 1343 t)
      refine ih (i + 1) _ _ (by omega) v2 (FR_trans r (FR_trans (FR_put v (c := 1342) (by decide) (by decide) _) (FR_put v1 (c := 1343) (by decide) (by decide) _))) (fun x y1 y2 => by rw [up_ne _ _ y2, up_ne _ _ y1, o x y1 y2]) (fun t => ?_) (fun t => ?_)
      · rw [up_ne _ _ (by decide), up_at]
        show (if t = (41 * (n : Int) + (i : Int)).toNat then cf N i else B 1342 t) = _
        by_cases q : t = 41 * n + i
        · rw [if_pos (by omega), if_pos (by omega), show t - 41 * n = i by omega]
        · rw [if_neg (by omega), g1]
          by_cases q2 : 41 * n ≤ t ∧ t < 41 * n + i
          · rw [if_pos q2, if_pos (by omega)]
          · rw [if_neg q2, if_neg (by omega)]
      · rw [up_at]
        show (if t = (41 * (n : Int) + (i : Int)).toNat then cf D i else B 1343 t) = _
        by_cases q : t = 41 * n + i
        · rw [if_pos (by omega), if_pos (by omega), show t - 41 * n = i by omega]
        · rw [if_neg (by omega), g2]
          by_cases q2 : 41 * n ≤ t ∧ t < 41 * n + i
          · rw [if_pos q2, if_pos (by omega)]
          · rw [if_neg q2, if_neg (by omega)]
  exact k599_0 (loop 41 0 A h rfl hv (FR_refl h) (fun _ _ _ => rfl) (fun t => by rw [if_neg (by omega)]) (fun t => by rw [if_neg (by omega)]))
theorem V_storeTerm (hv : RV h s A) {n : Nat} (hn : s 59 = (n : Int)) (n20 : n ≤ 20) {N D : zp_R} (gN : A 1302 = cf N) (gD : A 1303 = cf D) (dN : zp_deg N 41) (dD : zp_deg D 41) : wm sw_P (d + 1) 600 [.index 1290] h (RN h (fun s' A' => s' = s ∧ (∀ x, x ≠ 1344 → x ≠ 1345 → A' x = A x) ∧ pfn A A' 1344 n N ∧ pfn A A' 1345 n D)) := by
  refine wm_in (cd := sw_c600) (nL := 2) (hd := sw_h600) rfl rfl ?_
  have loop : ∀ (l i : Nat) (B : Nat → Nat → Int) (h' : s_H), i + l = 41 → RV h' s B → FR h h' → (∀ x, x ≠ 1344 → x ≠ 1345 → B x = A x) → (∀ t, B 1344 t = if 41 * n ≤ t ∧ t < 41 * n + i then cf N (t - 41 * n) else A 1344 t) → (∀ t, B 1345 t = if 41 * n ≤ t ∧ t < 41 * n + i then cf D (t - 41 * n) else A 1345 t) → wr sw_P d sw_c600 sw_h600 (2, [.index 1290, vi (i : Int)], [], h', 0, 0) (RN h (fun s' A' => s' = s ∧ (∀ x, x ≠ 1344 → x ≠ 1345 → A' x = A x) ∧ pfn A A' 1344 n N ∧ pfn A A' 1345 n D)) := by
    intro l
    induction l with
    | zero =>
      intro i B h' hi2 v r o g1 g2
      have ei : i = 41 := by omega
      subst ei
      exact k600_2 (fun _ => k600_54 ⟨h', s, B, v, r, ⟨rfl, o, fp_fill dN g1, fp_fill dD g2⟩, rfl⟩) (fun w => absurd (by decide) w) (c1 := by decide)
    | succ l ih =>
      intro i B h' hi2 v r o g1 g2
      have e1 : gi (mk 176 (B 1302)) (i : Int) = cf N i := by rw [o 1302 (by decide) (by decide), gN]; exact gi_mkn (by omega)
      have e2 : gi (mk 176 (B 1303)) (i : Int) = cf D i := by rw [o 1303 (by decide) (by decide), gD]; exact gi_mkn (by omega)
      refine k600_2 (fun w => absurd w (by omega)) (fun _ => ?_) (c1 := by unfold In3; omega)
      have v1 := Rp_termTop v (fun t => if t = (41 * (n : Int) + (i : Int)).toNat then cf N i else B 1344 t)
      refine k600_8 (z7 := (n : Int)) (z28 := (n : Int)) (a12 := mk 176 (B 1302)) (a33 := mk 176 (B 1303)) (a37 := mk 861 (B 1345)) v.1 (RV_l v (c := 1302) rfl) (Ra_termTop v) ((hp_ne (Ra_termTop v) (by decide)).trans v.1) ((hp_ne (Ra_termTop v) (by decide)).trans (RV_l v (c := 1303) rfl)) ((hp_ne (Ra_termTop v) (by decide)).trans (Ra_termBottom v)) ?_ (n8 := by
        show some (vi (s 59)) = _
        rw [hn]) (n29 := by
        show some (vi (s 59)) = _
        rw [hn]) (c14 := by rw [mk_len]; omega) (c15 := by omega) (c16 := by unfold In3; omega) (c20 := by rw [mk_len]; omega) (c21 := by omega) (c22 := by unfold In3; omega) (c35 := by rw [mk_len]; omega) (c39 := by rw [mk_len]; omega) (c40 := by omega) (c41 := by unfold In3; omega)
      rw [e1, e2, mk_set, mk_set]
      have v2 := Rp_termBottom v1 (fun t => if t = (41 * (n : Int) + (i : Int)).toNat then cf D i else B 1345 t)
      refine ih (i + 1) _ _ (by omega) v2 (FR_trans r (FR_trans (FR_put v (c := 1344) (by decide) (by decide) _) (FR_put v1 (c := 1345) (by decide) (by decide) _))) (fun x y1 y2 => by rw [up_ne _ _ y2, up_ne _ _ y1, o x y1 y2]) (fun t => ?_) (fun t => ?_)
      · rw [up_ne _ _ (by decide), up_at]
        show (if t = (41 * (n : Int) + (i : Int)).toNat then cf N i else B 1344 t) = _
        by_cases q : t = 41 * n + i
        · rw [if_pos (by omega), if_pos (by omega), show t - 41 * n = i by omega]
        · rw [if_neg (by omega), g1]
          by_cases q2 : 41 * n ≤ t ∧ t < 41 * n + i
          · rw [if_pos q2, if_pos (by omega)]
          · rw [if_neg q2, if_neg (by omega)]
      · rw [up_at]
        show (if t = (41 * (n : Int) + (i : Int)).toNat then cf D i else B 1345 t) = _
        by_cases q : t = 41 * n + i
        · rw [if_pos (by omega), if_pos (by omega), show t - 41 * n = i by omega]
        · rw [if_neg (by omega), g2]
          by_cases q2 : 41 * n ≤ t ∧ t < 41 * n + i
          · rw [if_pos q2, if_pos (by omega)]
          · rw [if_neg q2, if_neg (by omega)]
  exact k600_0 (loop 41 0 A h rfl hv (FR_refl h) (fun _ _ _ => rfl) (fun t => by rw [if_neg (by omega)]) (fun t => by rw [if_neg (by omega)]))
/-- the first 41 numbers of a row -/
def c41 (f : Nat → Int) (i : Nat) : Nat → Int := fun x => if x < i then f x else 0
theorem c41_s {f : Nat → Int} {i : Nat} {t0 : Nat} (ht : t0 = i) {z : Int} (hz : z = f i) : (fun x => if x = t0 then z else c41 f i x) = c41 f (i + 1) := by
  funext x
  show (if x = t0 then z else if x < i then f x else 0) = if x < i + 1 then f x else 0
  by_cases q : x = i
  · rw [if_pos (by omega), if_pos (by omega), q, hz]
  · rw [if_neg (by omega)]
    by_cases q2 : x < i
    · rw [if_pos q2, if_pos (by omega)]
    · rw [if_neg q2, if_neg (by omega)]
theorem c41_0 (f : Nat → Int) : c41 f 0 = cf (zp_C 0) := by
  funext x
  show (if x < 0 then f x else 0) = _
  rw [if_neg (Nat.not_lt_zero x)]
  unfold cf
  rw [zp_C00]; rfl
theorem c41_fp {A : Nat → Nat → Int} {c n : Nat} : c41 (fp A c n) 41 = fp A c n := by
  funext x
  show (if x < 41 then fp A c n x else 0) = fp A c n x
  by_cases q : x < 41
  · rw [if_pos q]
  · rw [if_neg q]
    exact (if_neg (by omega)).symm
theorem V_loadBoth (hv : RV h s A) {n : Nat} (hn : s 59 = (n : Int)) (n20 : n ≤ 20) {z : Int} (hz : z = 0 ∨ z = 1) : wm sw_P (d + 2) 506 [.index 1290, vi z] h (RQ h s (up (up (up (up A 1298 (fp A (if z = 0 then 1344 else 1342) n)) 1299 (fp A (if z = 0 then 1345 else 1343) n)) 1300 (A 1302)) 1301 (A 1303))) := by
  refine wm_in (cd := sw_c506) (nL := 3) (hd := sw_h506) rfl rfl ?_
  refine k506_0 hv.1 (wm_mono (wq_Q (fun h1 v1 r1 => ?_)) (V_empty hv (c := 1298) rfl))
  refine k506_7 v1.1 (wm_mono (wq_Q (fun h2 v2 r2 => k506_14 ?_)) (V_empty v1 (c := 1299) rfl))
  have zi' : In3 z := by rcases hz with e | e <;> rw [e] <;> decide
  have loop : ∀ (l i : Nat) (B : Nat → Nat → Int) (h' : s_H), i + l = 41 → RV h' s B → FR h h' → (∀ x, x ≠ 1298 → x ≠ 1299 → B x = A x) → B 1298 = c41 (fp A (if z = 0 then 1344 else 1342) n) i → B 1299 = c41 (fp A (if z = 0 then 1345 else 1343) n) i → wr sw_P (d + 1) sw_c506 sw_h506 (16, [.index 1290, vi z, vi (i : Int)], [], h', 0, 0) (RQ h s (up (up (up (up A 1298 (fp A (if z = 0 then 1344 else 1342) n)) 1299 (fp A (if z = 0 then 1345 else 1343) n)) 1300 (A 1302)) 1301 (A 1303))) := by
    intro l
    induction l with
    | zero =>
      intro i B h' hi2 v r o g1 g2
      have ei : i = 41 := by omega
      subst ei
      refine k506_16 (fun _ => ?_) (fun w => absurd (by decide) w) (c1 := by decide)
      refine k506_110 v.1 (wm_mono (wq_Q (fun h3 v3 r3 => ?_)) (V_copy v (c := 1300) (e := 1302) rfl rfl (by decide)))
      refine k506_121 v3.1 (wm_mono (wq_Q (fun h4 v4 r4 => ?_)) (V_copy v3 (c := 1301) (e := 1303) rfl rfl (by decide)))
      have e : up (up B 1300 (B 1302)) 1301 (up B 1300 (B 1302) 1303) = up (up (up (up A 1298 (fp A (if z = 0 then 1344 else 1342) n)) 1299 (fp A (if z = 0 then 1345 else 1343) n)) 1300 (A 1302)) 1301 (A 1303) := by
        funext x
        by_cases q1 : x = 1301
        · rw [q1, up_at, up_at, up_ne _ _ (by decide), o 1303 (by decide) (by decide)]
        · rw [up_ne _ _ q1, up_ne _ _ q1]
          by_cases q2 : x = 1300
          · rw [q2, up_at, up_at, o 1302 (by decide) (by decide)]
          · rw [up_ne _ _ q2, up_ne _ _ q2]
            by_cases q3 : x = 1299
            · rw [q3, up_at, g2, c41_fp]
            · rw [up_ne _ _ q3]
              by_cases q4 : x = 1298
              · rw [q4, up_at, g1, c41_fp]
              · rw [up_ne _ _ q4, o x q4 q3]
      rw [e] at v4
      exact k506_132 ⟨h4, s, _, v4, FR_trans r (FR_trans r3 r4), ⟨rfl, rfl⟩, rfl⟩
    | succ l ih =>
      intro i B h' hi2 v r o g1 g2
      have hf : ∀ (c : Nat) (C : Nat → Nat → Int), C c = A c → gi (mk 861 (C c)) (41 * (n : Int) + (i : Int)) = fp A c n i := fun c C e => by
        rw [show 41 * (n : Int) + (i : Int) = ((41 * n + i : Nat) : Int) by omega, gi_mkn (by omega), e]
        exact (if_pos (by omega)).symm
      refine k506_16 (fun w => absurd w (by omega)) (fun _ => ?_) (c1 := by unfold In3; omega)
      -- the second number
      have second : ∀ (C : Nat → Nat → Int) (h3 : s_H), RV h3 s C → FR h h3 → (∀ x, x ≠ 1298 → x ≠ 1299 → C x = A x) → C 1298 = c41 (fp A (if z = 0 then 1344 else 1342) n) (i + 1) → C 1299 = c41 (fp A (if z = 0 then 1345 else 1343) n) i → (∀ u : Int, u = fp A (if z = 0 then 1345 else 1343) n i → wr sw_P (d + 1) sw_c506 sw_h506 (103, [.index 1290, vi z, vi (i : Int)], [vl u, vi (i : Int), .index 1299], h3, 0, 0) (RQ h s (up (up (up (up A 1298 (fp A (if z = 0 then 1344 else 1342) n)) 1299 (fp A (if z = 0 then 1345 else 1343) n)) 1300 (A 1302)) 1301 (A 1303)))) := fun C h3 v3 r3 o3 k1 k2 u eu => by
        refine k506_103 (RV_l v3 (c := 1299) rfl) ?_ (c4 := by rw [mk_len]; omega) (c5 := by omega) (c6 := by unfold In3; omega)
        rw [mk_set, k2, c41_s (i := i) (t0 := Int.toNat (i : Int)) rfl eu]
        have := ih (i + 1) _ _ (by omega) (RV_w v3 (c := 1299) rfl (c41 (fp A (if z = 0 then 1345 else 1343) n) (i + 1))) (FR_trans r3 (FR_w v3 (c := 1299) rfl _)) (fun x y1 y2 => by rw [up_ne _ _ y2]; exact o3 x y1 y2) (by rw [up_ne _ _ (by decide)]; exact k1) (up_at _ _ _)
        exact this
      have first : ∀ u : Int, u = fp A (if z = 0 then 1344 else 1342) n i → wr sw_P (d + 1) sw_c506 sw_h506 (62, [.index 1290, vi z, vi (i : Int)], [vl u, vi (i : Int), .index 1298], h', 0, 0) (RQ h s (up (up (up (up A 1298 (fp A (if z = 0 then 1344 else 1342) n)) 1299 (fp A (if z = 0 then 1345 else 1343) n)) 1300 (A 1302)) 1301 (A 1303))) := fun u eu => by
        have v3 := RV_w v (c := 1298) rfl (c41 (fp A (if z = 0 then 1344 else 1342) n) (i + 1))
        have r3 := FR_trans r (FR_w v (c := 1298) rfl (al 176 (c41 (fp A (if z = 0 then 1344 else 1342) n) (i + 1))))
        have es : (mk 176 (B 1298)).set (Int.toNat (i : Int)) u = mk 176 (c41 (fp A (if z = 0 then 1344 else 1342) n) (i + 1)) := by
          rw [mk_set, g1, c41_s (i := i) (t0 := Int.toNat (i : Int)) rfl eu]
        have o3 : ∀ x, x ≠ 1298 → x ≠ 1299 → up B 1298 (c41 (fp A (if z = 0 then 1344 else 1342) n) (i + 1)) x = A x := fun x y1 y2 => by rw [up_ne _ _ y1]; exact o x y1 y2
        have sec := second _ _ v3 r3 o3 (up_at _ _ _) (by rw [up_ne _ _ (by decide)]; exact g2)
        refine k506_62 (RV_l v (c := 1298) rfl) ((hp_ne (RV_l v (c := 1298) rfl) (by decide)).trans v.1) (fun w => ?_) (fun w => ?_) (c4 := by rw [mk_len]; omega) (c5 := by omega) (c6 := by unfold In3; omega) (c14 := zi')
        · rw [es]
          refine k506_89 (z7 := (n : Int)) v3.1 (Ra_termBottom v3) ?_ (n8 := by
            show some (vi (s 59)) = _
            rw [hn]) (c12 := by rw [mk_len]; omega) (c13 := by omega) (c14 := by unfold In3; omega)
          rw [hf 1345 _ (by rw [up_ne _ _ (by decide)]; exact o 1345 (by decide) (by decide))]
          exact sec _ (by rw [if_pos w])
        · rw [es]
          refine k506_72 (z7 := (n : Int)) v3.1 (Ra_sumBottom v3) ?_ (n8 := by
            show some (vi (s 59)) = _
            rw [hn]) (c12 := by rw [mk_len]; omega) (c13 := by omega) (c14 := by unfold In3; omega)
          rw [hf 1343 _ (by rw [up_ne _ _ (by decide)]; exact o 1343 (by decide) (by decide))]
          exact sec _ (by rw [if_neg w])
      refine k506_22 v.1 (fun w => ?_) (fun w => ?_) (c7 := zi')
      · refine k506_48 (z7 := (n : Int)) v.1 (Ra_termTop v) ?_ (n8 := by
          show some (vi (s 59)) = _
          rw [hn]) (c12 := by rw [mk_len]; omega) (c13 := by omega) (c14 := by unfold In3; omega)
        rw [hf 1344 B (o 1344 (by decide) (by decide))]
        exact first _ (by rw [if_pos w])
      · refine k506_31 (z7 := (n : Int)) v.1 (Ra_sumTop v) ?_ (n8 := by
          show some (vi (s 59)) = _
          rw [hn]) (c12 := by rw [mk_len]; omega) (c13 := by omega) (c14 := by unfold In3; omega)
        rw [hf 1342 B (o 1342 (by decide) (by decide))]
        exact first _ (by rw [if_neg w])
  have := loop 41 0 _ h2 (Nat.zero_add _) v2 (FR_trans r1 r2) (fun x y1 y2 => by rw [up_ne _ _ y2, up_ne _ _ y1]) (by rw [up_ne _ _ (by decide), up_at, c41_0]) (by rw [up_at, c41_0])
  exact this
end
