/-! the reference's isAnswered -/
/-- columns ahead of k are in the wide table, and e places of column k -/
def wfl (B : Nat → Nat → Int) (M : Nat → Nat → zp_F) (k e : Nat) : Prop := ∀ n i, n < 80 → i < 22 → (i < k ∨ (i = k ∧ n < e)) → B 1326 (24 * n + i) = ((M n i).val : Int)
theorem wfl_put {B : Nat → Nat → Int} {M : Nat → Nat → zp_F} {k e : Nat} (h : wfl B M k e) (hk : k < 22) {t0 : Nat} (ht : t0 = 24 * e + k) {x : Int} (hx : x = ((M e k).val : Int)) : wfl (up B 1326 (fun t => if t = t0 then x else B 1326 t)) M k (e + 1) := fun n i hn hi2 w => by
  rw [up_at]
  show (if 24 * n + i = t0 then x else B 1326 (24 * n + i)) = _
  by_cases q : n = e ∧ i = k
  · rw [if_pos (by omega), hx, q.1, q.2]
  · rw [if_neg (by omega), h n i hn hi2 (by omega)]
theorem wfl_s {B : Nat → Nat → Int} {M : Nat → Nat → zp_F} {k : Nat} (h : wfl B M k 80) : wfl B M (k + 1) 0 := fun n i hn hi2 w => h n i hn hi2 (by omega)
def iaL : List Nat := [1299, 1304, 1308, 1309, 1310, 1326, 1327]
section
variable {d : Nat} {h : s_H} {s : Nat → Int} {A : Nat → Nat → Int}
theorem V_isAnswered (hv : RV h s A) {a b D : zp_R} (ha : A 1298 = cf a) (hb : A 1299 = cf b) (hD : A 1312 = cf D) (da : zp_deg a 41) (db : zp_deg b 41) (dD : zp_deg D 61) : wm sw_P (d + 5) 471 [.index 1290] h (RA h (fun v s' A' => s' = s ∧ sm A A' iaL ∧ A' 1299 = cf (mvf b (nF (-1))) ∧ ((v = vi 1 ∧ ∃ e q, e ≤ 20 ∧ gan a b D e q ∧ zp_deg q 21 ∧ A' 1308 = cf q) ∨ (v = vi 0 ∧ ∀ q, zp_deg q 21 → gop a b q ≠ D)))) := by
  refine wm_in (cd := sw_c471) (nL := 6) (hd := sw_h471) rfl rfl ?_
  have db6 := deg_le db (show 41 ≤ 176 by decide)
  refine k471_0 hv.1 (wm_mono (wq_Q (fun h1 v1 r1 => k471_10 ?_)) (V_move hv (t := 1299) rfl hb db6 (z := -1) (by decide)))
  obtain ⟨bb, ebb⟩ : ∃ bb, mvf b (nF (-1)) = bb := ⟨_, rfl⟩
  rw [ebb] at v1
  rw [ebb]
  have W1 : nF 1 = 1 := nF_1
  -- the end: the columns are cleared till the rows are met
  have fin : ∀ (B : Nat → Nat → Int) (h' : s_H) (t2 t3 t4 t5 : Term), RV h' s B → FR h h' → sm A B iaL → B 1299 = cf bb → wlr B (wM a b D) → wr sw_P (d + 4) sw_c471 sw_h471 (155, [.index 1290, vi 80, t2, t3, t4, t5], [], h', 0, 0) (RA h (fun v s' A' => s' = s ∧ sm A A' iaL ∧ A' 1299 = cf bb ∧ ((v = vi 1 ∧ ∃ e q, e ≤ 20 ∧ gan a b D e q ∧ zp_deg q 21 ∧ A' 1308 = cf q) ∨ (v = vi 0 ∧ ∀ q, zp_deg q 21 → gop a b q ≠ D)))) := by
    intro B h' t2 t3 t4 t5 v r m g99 hw
    refine k471_155 ?_
    have loop : ∀ (l k : Nat) (N : Nat → Nat → zp_F) (C : Nat → Nat → Int) (h2 : s_H) (t3 t4 t5 : Term), k + l = 21 → RV h2 s C → FR h h2 → sm A C iaL → C 1299 = cf bb → wlr C N → rr (wM a b D) N 80 k (C 1327) → (∀ e, e < k → ∀ q, zp_deg q (e + 1) → gop a b q ≠ D) → wr sw_P (d + 4) sw_c471 sw_h471 (159, [.index 1290, vi (pc (C 1327) k : Int), vi (k : Int), t3, t4, t5], [], h2, 0, 0) (RA h (fun v s' A' => s' = s ∧ sm A A' iaL ∧ A' 1299 = cf bb ∧ ((v = vi 1 ∧ ∃ e q, e ≤ 20 ∧ gan a b D e q ∧ zp_deg q 21 ∧ A' 1308 = cf q) ∨ (v = vi 0 ∧ ∀ q, zp_deg q 21 → gop a b q ≠ D)))) := by
      intro l
      induction l with
      | zero =>
        intro k N C h2 t3 t4 t5 hk v2 r2 m2 k99 w2 rw_ no
        have ek : k = 21 := by omega
        subst ek
        exact k471_159 (fun _ => k471_351 ⟨vi 0, h2, s, C, v2, r2, ⟨rfl, m2, k99, .inr ⟨rfl, fun q dq => no 20 (by decide) q dq⟩⟩, rfl⟩) (fun w => absurd (by decide) w) (c1 := by decide)
      | succ l ih =>
        intro k N C h2 t3 t4 t5 hk v2 r2 m2 k99 w2 rw_ no
        have pb := pc_b (C 1327) k
        refine k471_159 (fun w => absurd w (by omega)) (fun _ => k471_165 ?_) (c1 := by unfold In3; omega)
        -- when a column's row is told
        have told : ∀ (N2 : Nat → Nat → zp_F) (C2 : Nat → Nat → Int) (h3 : s_H) (x3 : Int) (t4 t5 : Term), RV h3 s C2 → FR h h3 → sm A C2 iaL → C2 1299 = cf bb → wlr C2 N2 → rr (wM a b D) N2 80 (k + 1) (C2 1327) → wr sw_P (d + 4) sw_c471 sw_h471 (228, [.index 1290, vi (pc (C2 1327) (k + 1) : Int), vi (k : Int), vi x3, t4, t5], [], h3, 0, 0) (RA h (fun v s' A' => s' = s ∧ sm A A' iaL ∧ A' 1299 = cf bb ∧ ((v = vi 1 ∧ ∃ e q, e ≤ 20 ∧ gan a b D e q ∧ zp_deg q 21 ∧ A' 1308 = cf q) ∨ (v = vi 0 ∧ ∀ q, zp_deg q 21 → gop a b q ≠ D)))) := by
          intro N2 C2 h3 x3 t4 t5 v3 r3 m3 k99' w3 rw3
          have pb2 := pc_b (C2 1327) (k + 1)
          have look : ∀ (l2 i : Nat) (x4 : Int), i + l2 = 80 → pc (C2 1327) (k + 1) ≤ i → ((x4 = 1 ∧ ∀ j, pc (C2 1327) (k + 1) ≤ j → j < i → N2 j 21 = 0) ∨ (x4 = 0 ∧ ∃ j, pc (C2 1327) (k + 1) ≤ j ∧ j < i ∧ N2 j 21 ≠ 0)) → wr sw_P (d + 4) sw_c471 sw_h471 (234, [.index 1290, vi (pc (C2 1327) (k + 1) : Int), vi (k : Int), vi x3, vi x4, vi (i : Int)], [], h3, 0, 0) (RA h (fun v s' A' => s' = s ∧ sm A A' iaL ∧ A' 1299 = cf bb ∧ ((v = vi 1 ∧ ∃ e q, e ≤ 20 ∧ gan a b D e q ∧ zp_deg q 21 ∧ A' 1308 = cf q) ∨ (v = vi 0 ∧ ∀ q, zp_deg q 21 → gop a b q ≠ D)))) := by
            intro l2
            induction l2 with
            | zero =>
              intro i x4 hi2 pi w4
              have ei : i = 80 := by omega
              subst ei
              refine k471_234 (fun _ => ?_) (fun w => absurd (by decide) w) (c1 := by decide)
              rcases w4 with ⟨x1, z⟩ | ⟨x1, j, j1, j2, j3⟩
              · subst x1
                refine k471_277 (fun _ => ?_) (fun w => absurd (by decide) w) (c1 := by decide)
                have ans := wm_sol (by omega) da db dD rw3 z
                have isan : gan a b D k (solw N2 (C2 1327) (k + 1)) := ⟨solw_deg _ _ _, ans, fun i fr => by
                  have e := wm_free (by omega) da db dD rw3 fr
                  show (if i < k + 1 ∧ C2 1327 i ≠ -1 then N2 (pc (C2 1327) i) 21 else 0) = 0
                  exact if_neg (fun w => w.2 e), fun e' h1 q' h2 => no e' h1 q' h2⟩
                refine k471_285 v3.1 (wm_mono (wq_Q (fun h4 v4 r4 => k471_292 ?_)) (V_empty v3 (c := 1308) rfl))
                have gather : ∀ (l3 i : Nat) (E : Nat → Nat → Int) (h5 : s_H), i + l3 = k + 1 → RV h5 s E → FR h h5 → (∀ x, x ≠ 1308 → E x = C2 x) → E 1308 = cf (solw N2 (C2 1327) i) → wr sw_P (d + 4) sw_c471 sw_h471 (295, [.index 1290, vi (pc (C2 1327) (k + 1) : Int), vi (k : Int), vi x3, vi 1, vi (i : Int)], [], h5, 0, 0) (RA h (fun v s' A' => s' = s ∧ sm A A' iaL ∧ A' 1299 = cf bb ∧ ((v = vi 1 ∧ ∃ e q, e ≤ 20 ∧ gan a b D e q ∧ zp_deg q 21 ∧ A' 1308 = cf q) ∨ (v = vi 0 ∧ ∀ q, zp_deg q 21 → gop a b q ≠ D)))) := by
                  intro l3
                  induction l3 with
                  | zero =>
                    intro i E h5 hi2 v5 r5 o5 g5
                    have ei : i = k + 1 := by omega
                    subst ei
                    refine k471_295 (fun _ => k471_343 ⟨vi 1, h5, s, E, v5, r5, ⟨rfl, sm_tr m3 (fun x hx => o5 x (fun w => by rw [w] at hx; exact absurd hx (by decide))), by rw [o5 1299 (by decide)]; exact k99', .inl ⟨rfl, k, _, by omega, isan, deg_le (solw_deg _ _ _) (by omega), g5⟩⟩, rfl⟩) (fun w => absurd (by omega) w) (c1 := by unfold In3; omega) (c2 := by unfold In3; omega)
                  | succ l3 ih3 =>
                    intro i E h5 hi2 v5 r5 o5 g5
                    have e1 : gi (mk 21 (E 1327)) (i : Int) = C2 1327 i := by rw [gi_mkn (by omega), o5 1327 (by decide)]
                    have cb : -1 ≤ C2 1327 i ∧ C2 1327 i ≤ 80 := by
                      have := pc_b (C2 1327) i
                      rcases rw3.2 i (by omega) with ⟨z1, _⟩ | ⟨z1, _⟩ <;> omega
                    have go : ∀ (E : Nat → Nat → Int) (h6 : s_H), RV h6 s E → FR h h6 → (∀ x, x ≠ 1308 → E x = C2 x) → E 1308 = cf (solw N2 (C2 1327) (i + 1)) → wr sw_P (d + 4) sw_c471 sw_h471 (337, [.index 1290, vi (pc (C2 1327) (k + 1) : Int), vi (k : Int), vi x3, vi 1, vi (i : Int)], [], h6, 0, 0) (RA h (fun v s' A' => s' = s ∧ sm A A' iaL ∧ A' 1299 = cf bb ∧ ((v = vi 1 ∧ ∃ e q, e ≤ 20 ∧ gan a b D e q ∧ zp_deg q 21 ∧ A' 1308 = cf q) ∨ (v = vi 0 ∧ ∀ q, zp_deg q 21 → gop a b q ≠ D)))) := fun E h6 v6 r6 o6 g6 => by
                      refine k471_337 ?_
                      have := ih3 (i + 1) E h6 (by omega) v6 r6 o6 g6
                      exact this
                    refine k471_295 (fun w => absurd w (by omega)) (fun _ => ?_) (c1 := by unfold In3; omega) (c2 := by unfold In3; omega)
                    refine k471_301 v5.1 (Ra_wideRow v5) (fun w => ?_) (fun w => ?_) (c10 := by rw [mk_len]; omega) (c11 := by omega) (c12 := by unfold In3; omega) (c13 := by rw [e1]; unfold In3; omega)
                    · rw [e1] at w
                      refine go E h5 v5 r5 o5 ?_
                      rw [g5]
                      refine congrArg cf (zp_ext (fun x => ?_))
                      show (if x < i ∧ C2 1327 x ≠ -1 then N2 (pc (C2 1327) x) 21 else 0) = if x < i + 1 ∧ C2 1327 x ≠ -1 then N2 (pc (C2 1327) x) 21 else 0
                      by_cases q : x < i ∧ C2 1327 x ≠ -1
                      · rw [if_pos q, if_pos ⟨by omega, q.2⟩]
                      · rw [if_neg q, if_neg (fun w5 => by
                          by_cases xi : x = i
                          · rw [xi] at w5; exact w5.2 w
                          · exact q ⟨by omega, w5.2⟩)]
                    · rw [e1] at w
                      have e3 : C2 1327 i = pc (C2 1327) i := by
                        rcases rw3.2 i (by omega) with ⟨z1, _⟩ | ⟨z1, _⟩
                        · exact absurd z1 w
                        · exact z1
                      have p80 := pc_b (C2 1327) i
                      have wE : wlr E N2 := fun n i hn hi3 => by rw [o5 1326 (by decide)]; exact w3 n i hn hi3
                      have e2 : gi (mk 1920 (E 1326)) (24 * (C2 1327 i) + 21) = ((N2 (pc (C2 1327) i) 21).val : Int) := wlr_gi wE (n := pc (C2 1327) i) (i := 21) (by omega) (by decide) (by omega)
                      refine k471_312 v5.1 (Ra_wideRow v5) (Ra_wide v5) (RV_l v5 (c := 1308) rfl) ?_ (c14 := by rw [mk_len]; omega) (c15 := by omega) (c16 := by unfold In3; omega) (c20 := by rw [e1, mk_len]; omega) (c21 := by rw [e1]; omega) (c22 := by rw [e1]; unfold In3; omega) (c26 := by rw [mk_len]; omega)
                      have es : pst (solw N2 (C2 1327) i) i (N2 (pc (C2 1327) i) 21) = solw N2 (C2 1327) (i + 1) := zp_ext (fun x => by
                        show (if x = i then N2 (pc (C2 1327) i) 21 else if x < i ∧ C2 1327 x ≠ -1 then N2 (pc (C2 1327) x) 21 else 0) = if x < i + 1 ∧ C2 1327 x ≠ -1 then N2 (pc (C2 1327) x) 21 else 0
                        by_cases xi : x = i
                        · rw [if_pos xi, if_pos ⟨by omega, by rw [xi]; exact w⟩, xi]
                        · rw [if_neg xi]
                          by_cases q : x < i ∧ C2 1327 x ≠ -1
                          · rw [if_pos q, if_pos ⟨by omega, q.2⟩]
                          · rw [if_neg q, if_neg (fun w5 => q ⟨by omega, w5.2⟩)])
                      rw [e1, e2, mk_set, g5, cf_pst (solw N2 (C2 1327) i) (n := i) (z := N2 (pc (C2 1327) i) 21) (t0 := Int.toNat (i : Int)) rfl rfl, es]
                      exact go _ _ (RV_w v5 (c := 1308) rfl (cf (solw N2 (C2 1327) (i + 1)))) (FR_trans r5 (FR_w v5 (c := 1308) rfl _)) (fun x hx => by rw [up_ne _ _ hx]; exact o5 x hx) (up_at _ _ _)
                exact gather (k + 1) 0 _ h4 (Nat.zero_add _) v4 (FR_trans r3 r4) (fun x hx => up_ne _ _ hx) (by
                  rw [up_at]
                  exact congrArg cf (zp_zero_of (solw_deg N2 (C2 1327) 0)).symm)
              · subst x1
                refine k471_277 (fun w => absurd rfl w) (fun _ => k471_282 (k471_345 ?_)) (c1 := by decide)
                have := ih (k + 1) N2 C2 h3 (vi x3) (vi 0) (vi ((80 : Nat) : Int)) (by omega) v3 r3 m3 k99' w3 rw3 (fun e he q dq eq => by
                  by_cases ek : e = k
                  · rw [ek] at dq
                    exact j3 (wm_met (by omega) da db dD rw3 dq eq j j1 j2)
                  · exact no e (by omega) q dq eq)
                exact this
            | succ l2 ih2 =>
              intro i x4 hi2 pi w4
              refine k471_234 (fun w => absurd w (by omega)) (fun _ => ?_) (c1 := by unfold In3; omega)
              have e1 : gi (mk 1920 (C2 1326)) (24 * (i : Int) + 21) = ((N2 i 21).val : Int) := wlr_gi w3 (n := i) (i := 21) (by omega) (by decide) rfl
              have bz := F_bd (N2 i 21)
              rcases w4 with ⟨x1, z⟩ | ⟨x1, j, j1, j2, j3⟩
              · subst x1
                refine k471_241 (fun w => absurd w (by decide)) (fun _ => ?_) (c1 := by decide)
                refine k471_246 v3.1 (Ra_wide v3) (fun w => k471_268 (k471_269 ?_)) (fun w => k471_264 (k471_269 ?_)) (c10 := by rw [mk_len]; omega) (c11 := by omega) (c12 := by unfold In3; omega) (c13 := by rw [e1]; exact in6_of (by omega) (by omega))
                · rw [e1] at w
                  have := ih2 (i + 1) 0 (by omega) (by omega) (.inr ⟨rfl, i, pi, by omega, fun q => w (by rw [q]; rfl)⟩)
                  exact this
                · rw [e1] at w
                  have z0 : N2 i 21 = 0 := F_ext (Classical.byContradiction w)
                  have := ih2 (i + 1) 1 (by omega) (by omega) (.inl ⟨rfl, fun j h1 h2 => by
                    by_cases ji : j = i
                    · rw [ji]; exact z0
                    · exact z j h1 (by omega)⟩)
                  exact this
              · subst x1
                refine k471_241 (fun _ => k471_268 (k471_269 ?_)) (fun w => absurd rfl w) (c1 := by decide)
                have := ih2 (i + 1) 0 (by omega) (by omega) (.inr ⟨rfl, j, j1, by omega, j3⟩)
                exact this
          exact k471_228 (look (80 - pc (C2 1327) (k + 1)) (pc (C2 1327) (k + 1)) 1 (by omega) (Nat.le_refl _) (.inl ⟨rfl, fun j h1 h2 => absurd h2 (by omega)⟩))
        -- the first row that has something in this column
        have find : ∀ (l2 n : Nat), n + l2 = 80 → pc (C 1327) k ≤ n → (∀ j, pc (C 1327) k ≤ j → j < n → N j k = 0) → wr sw_P (d + 4) sw_c471 sw_h471 (167, [.index 1290, vi (pc (C 1327) k : Int), vi (k : Int), vi (n : Int), t4, t5], [], h2, 0, 0) (RA h (fun v s' A' => s' = s ∧ sm A A' iaL ∧ A' 1299 = cf bb ∧ ((v = vi 1 ∧ ∃ e q, e ≤ 20 ∧ gan a b D e q ∧ zp_deg q 21 ∧ A' 1308 = cf q) ∨ (v = vi 0 ∧ ∀ q, zp_deg q 21 → gop a b q ≠ D)))) := by
          intro l2
          induction l2 with
          | zero =>
            intro n hn pn z
            have en : n = 80 := by omega
            subst en
            refine k471_167 (fun _ => ?_) (fun w => absurd (by decide) w) (c1 := by decide)
            refine k471_195 v2.1 (fun w => absurd rfl w) (fun _ => k471_206 ?_) (c7 := by decide)
            have v3 := Rp_wideRow v2 (fun i => if i = k then -1 else C 1327 i)
            have a3 := rr_free (R' := fun i => if i = k then -1 else C 1327 i) rw_ (fun j hj => if_neg (by omega)) (if_pos rfl) (fun n h1 h2 => z n h2 h1)
            refine k471_211 (Ra_wideRow v2) (fun _ => ?_) (fun w => absurd (by decide) w) (c4 := by rw [mk_len]; omega) (c5 := by omega) (c6 := by unfold In3; omega) (c8 := by decide)
            rw [mk_set, Int.toNat_natCast]
            have ep : pc (up C 1327 (fun i => if i = k then -1 else C 1327 i) 1327) (k + 1) = pc (C 1327) k := by
              rw [up_at]
              show pc (fun i => if i = k then -1 else C 1327 i) k + (if (if k = k then (-1 : Int) else C 1327 k) = -1 then 0 else 1) = _
              rw [if_pos rfl, if_pos rfl, pc_congr (R := C 1327) (R' := fun i => if i = k then -1 else C 1327 i) (fun j hj => if_neg (by omega))]
              rfl
            have := told N (up C 1327 (fun i => if i = k then -1 else C 1327 i)) _ ((80 : Nat) : Int) t4 t5 v3 (FR_trans r2 (FR_put v2 (c := 1327) (by decide) (by decide) _)) (sm_up m2 _ rfl) (by rw [up_ne _ _ (by decide)]; exact k99) (fun n i hn hi3 => by rw [up_ne _ _ (by decide)]; exact w2 n i hn hi3) (by rw [up_at]; exact a3)
            rw [ep] at this
            exact this
          | succ l2 ih2 =>
            intro n hn pn z
            have e1 : gi (mk 1920 (C 1326)) (24 * (n : Int) + (k : Int)) = ((N n k).val : Int) := wlr_gi w2 (n := n) (i := k) (by omega) (by omega) rfl
            have bz := F_bd (N n k)
            refine k471_167 (fun w => absurd w (by omega)) (fun _ => ?_) (c1 := by unfold In3; omega)
            refine k471_173 v2.1 (Ra_wide v2) (fun w => ?_) (fun w => k471_189 ?_) (c10 := by rw [mk_len]; omega) (c11 := by omega) (c12 := by unfold In3; omega) (c13 := by rw [e1]; exact in6_of (by omega) (by omega))
            · rw [e1] at w
              have nz : N n k ≠ 0 := fun q => w (by rw [q]; rfl)
              refine k471_195 v2.1 (fun _ => k471_210 ?_) (fun w3 => absurd (show (n : Int) ≠ 80 by omega) w3) (c7 := by unfold In3; omega)
              have v3 := Rp_wideRow v2 (fun i => if i = k then (pc (C 1327) k : Int) else C 1327 i)
              refine k471_211 (Ra_wideRow v2) (fun w3 => absurd w3 (by omega)) (fun _ => ?_) (c4 := by rw [mk_len]; omega) (c5 := by omega) (c6 := by unfold In3; omega) (c8 := by unfold In3; omega)
              rw [mk_set, Int.toNat_natCast]
              have w3 : wlr (up C 1327 (fun i => if i = k then (pc (C 1327) k : Int) else C 1327 i)) N := fun n i hn hi3 => by rw [up_ne _ _ (by decide)]; exact w2 n i hn hi3
              refine k471_218 v3.1 (wm_mono (wq_N (fun h4 s4 C4 v4 r4 φ => k471_225 ?_)) (V_bringOut v3 w3 (k := n) (r := pc (C 1327) k) (c := k) (by omega) (by omega) (by omega)))
              obtain ⟨es4, o4, w4⟩ := φ
              subst es4
              have a3 := rr_piv (R' := fun i => if i = k then (pc (C 1327) k : Int) else C 1327 i) rw_ (fun j hj => if_neg (by omega)) rfl (if_pos rfl) (show n < 80 by omega) pn nz
              have c27 : C4 1327 = fun i => if i = k then (pc (C 1327) k : Int) else C 1327 i := by rw [o4 1327 (by decide), up_at]
              have ep : pc (C4 1327) (k + 1) = pc (C 1327) k + 1 := by
                rw [c27]
                show pc (fun i => if i = k then (pc (C 1327) k : Int) else C 1327 i) k + (if (if k = k then (pc (C 1327) k : Int) else C 1327 k) = -1 then 0 else 1) = _
                rw [if_pos rfl, if_neg (by omega), pc_congr (R := C 1327) (R' := fun i => if i = k then (pc (C 1327) k : Int) else C 1327 i) (fun j hj => if_neg (by omega))]
              have := told _ C4 h4 (n : Int) t4 t5 v4 (FR_trans r2 (FR_trans (FR_put v2 (c := 1327) (by decide) (by decide) _) r4)) (sm_tr (sm_up m2 (c := 1327) (fun i => if i = k then (pc (C 1327) k : Int) else C 1327 i) rfl) (fun x hx => o4 x (fun w => by rw [w] at hx; exact absurd hx (by decide)))) (by rw [o4 1299 (by decide), up_ne _ _ (by decide)]; exact k99) w4 (by rw [c27]; exact a3)
              rw [ep] at this
              exact this
            · rw [e1] at w
              have z0 : N n k = 0 := F_ext (Classical.byContradiction w)
              have := ih2 (n + 1) (by omega) (by omega) (fun j h1 h2 => by
                by_cases jn : j = n
                · rw [jn]; exact z0
                · exact z j h1 (by omega))
              exact this
        exact find (80 - pc (C 1327) k) (pc (C 1327) k) (by omega) (Nat.le_refl _) (fun j h1 h2 => absurd h2 (by omega))
    have := loop 21 0 (wM a b D) B h' t3 t4 t5 (by omega) v r m g99 hw (rr_0 _ _ _) (fun e he => absurd he (Nat.not_lt_zero e))
    exact this
  -- column 21
  have last : ∀ (l e : Nat) (B : Nat → Nat → Int) (h' : s_H) (t2 t3 t4 t5 : Term), e + l = 80 → RV h' s B → FR h h' → sm A B iaL → B 1299 = cf bb → wfl B (wM a b D) 21 e → wr sw_P (d + 4) sw_c471 sw_h471 (125, [.index 1290, vi (e : Int), t2, t3, t4, t5], [], h', 0, 0) (RA h (fun v s' A' => s' = s ∧ sm A A' iaL ∧ A' 1299 = cf bb ∧ ((v = vi 1 ∧ ∃ e q, e ≤ 20 ∧ gan a b D e q ∧ zp_deg q 21 ∧ A' 1308 = cf q) ∨ (v = vi 0 ∧ ∀ q, zp_deg q 21 → gop a b q ≠ D)))) := by
    intro l
    induction l with
    | zero =>
      intro e B h' t2 t3 t4 t5 he v r m g99 w
      have ee : e = 80 := by omega
      subst ee
      exact k471_125 (fun _ => fin B h' _ _ _ _ v r m g99 (fun n i hn hi2 => w n i hn hi2 (by omega))) (fun w => absurd (by decide) w) (c1 := by decide)
    | succ l ih =>
      intro e B h' t2 t3 t4 t5 he v r m g99 w
      have g1 : gi (mk 176 (B 1312)) (e : Int) = ((D.1 e).val : Int) := by rw [m 1312 rfl, hD]; exact gi_mkn (by omega)
      refine k471_125 (fun w => absurd w (by omega)) (fun _ => ?_) (c1 := by unfold In3; omega)
      refine k471_131 v.1 (RV_l v (c := 1312) rfl) (Ra_wide v) ?_ (c12 := by rw [mk_len]; omega) (c13 := by omega) (c14 := by unfold In3; omega) (c18 := by rw [mk_len]; omega) (c19 := by omega) (c20 := by unfold In3; omega)
      have wp := wfl_put w (by decide) (t0 := (24 * (e : Int) + 21).toNat) (by omega) (x := gi (mk 176 (B 1312)) (e : Int)) (by
        rw [g1]
        unfold wM
        rw [if_neg (by decide), if_pos rfl])
      rw [mk_set]
      have := ih (e + 1) _ _ t2 t3 t4 t5 (by omega) (Rp_wide v _) (FR_trans r (FR_put v (c := 1326) (by decide) (by decide) _)) (sm_up m _ rfl) (by rw [up_ne _ _ (by decide)]; exact g99) wp
      exact this
  -- the columns
  have cols : ∀ (l k : Nat) (B : Nat → Nat → Int) (h' : s_H) (t2 t3 t4 t5 : Term), k + l = 21 → RV h' s B → FR h h' → sm A B iaL → B 1299 = cf bb → wfl B (wM a b D) k 0 → wr sw_P (d + 4) sw_c471 sw_h471 (12, [.index 1290, vi (k : Int), t2, t3, t4, t5], [], h', 0, 0) (RA h (fun v s' A' => s' = s ∧ sm A A' iaL ∧ A' 1299 = cf bb ∧ ((v = vi 1 ∧ ∃ e q, e ≤ 20 ∧ gan a b D e q ∧ zp_deg q 21 ∧ A' 1308 = cf q) ∨ (v = vi 0 ∧ ∀ q, zp_deg q 21 → gop a b q ≠ D)))) := by
    intro l
    induction l with
    | zero =>
      intro k B h' t2 t3 t4 t5 hk v r m g99 w
      have ek : k = 21 := by omega
      subst ek
      exact k471_12 (fun _ => k471_123 (last 80 0 B h' _ _ _ _ (Nat.zero_add 80) v r m g99 w)) (fun w => absurd (by decide) w) (c1 := by decide)
    | succ l ih =>
      intro k B h' t2 t3 t4 t5 hk v r m g99 w
      refine k471_12 (fun w => absurd w (by omega)) (fun _ => ?_) (c1 := by unfold In3; omega)
      refine k471_18 v.1 (wm_mono (wq_Q (fun h2 v2 r2 => ?_)) (V_become v (c := 1309) rfl (z := 0) (by decide)))
      rw [nF_0] at v2
      have eX : (fun i => if i = (k : Int).toNat then (1 : Int) else cf (zp_C 0) i) = cf (zp_X k) := by
        rw [cf_pst (zp_C 0) (n := k) (z := 1) (t0 := (k : Int).toNat) (by omega) (x := 1) rfl]
        refine congrArg cf (zp_ext (fun i => ?_))
        show (if i = k then (1 : zp_F) else (zp_C 0).1 i) = if i = k then 1 else 0
        rw [zp_C00]
      have v3 := RV_w v2 (c := 1309) rfl (cf (zp_X k))
      have eset : (mk 176 (up B 1309 (cf (zp_C 0)) 1309)).set (k : Int).toNat 1 = mk 176 (cf (zp_X k)) := by
        rw [mk_set, up_at, eX]
      refine k471_26 v2.1 (RV_l v2 (c := 1309) rfl) ((hp_ne (RV_l v2 (c := 1309) rfl) (by decide)).trans v2.1) ?_ (c10 := by rw [mk_len]; omega) (c11 := by omega) (c12 := by unfold In3; omega)
      rw [eset]
      refine wm_mono (wq_Q (fun h4 v4 r4 => ?_)) (V_multiply v3 (p := 1299) (q := 1309) rfl rfl (by decide) (by decide) (f := bb) (g := zp_X k) (by rw [up_ne _ _ (by decide), up_ne _ _ (by decide)]; exact g99) (up_at _ _ _))
      refine k471_45 v4.1 (wm_mono (wq_Q (fun h5 v5 r5 => ?_)) (V_copy v4 (c := 1310) (e := 1304) rfl rfl (by decide)))
      rw [up_at] at v5
      have dX : zp_deg (zp_X k) 176 := deg_le (zp_T_deg 1 k) (by omega)
      refine k471_56 v5.1 (wm_mono (wq_Q (fun h6 v6 r6 => ?_)) (V_move v5 (t := 1309) rfl (f := zp_X k) (by rw [up_ne _ _ (by decide), up_ne _ _ (by decide), up_at]) dX (z := 1) (by decide)))
      rw [W1] at v6
      refine k471_64 v6.1 (wm_mono (wq_Q (fun h7 v7 r7 => k471_76 ?_)) (V_multiply v6 (p := 1298) (q := 1309) rfl rfl (by decide) (by decide) (f := a) (g := mvf (zp_X k) 1) (by rw [up_ne _ _ (by decide), up_ne _ _ (by decide), up_ne _ _ (by decide), up_ne _ _ (by decide), up_ne _ _ (by decide), m 1298 rfl, ha]) (up_at _ _ _)))
      have eg : gop a b (zp_X k) = zp_add (zp_mul a (mvf (zp_X k) 1)) (zp_neg (zp_mul bb (zp_X k))) := by
        unfold gop
        rw [ebb]
      have start : ∀ (l2 e : Nat) (C : Nat → Nat → Int) (h8 : s_H), e + l2 = 80 → RV h8 s C → FR h h8 → sm A C iaL → C 1299 = cf bb → C 1304 = cf (zp_mul a (mvf (zp_X k) 1)) → C 1310 = cf (zp_mul bb (zp_X k)) → wfl C (wM a b D) k e → wr sw_P (d + 4) sw_c471 sw_h471 (78, [.index 1290, vi (k : Int), vi (e : Int), t3, t4, t5], [], h8, 0, 0) (RA h (fun v s' A' => s' = s ∧ sm A A' iaL ∧ A' 1299 = cf bb ∧ ((v = vi 1 ∧ ∃ e q, e ≤ 20 ∧ gan a b D e q ∧ zp_deg q 21 ∧ A' 1308 = cf q) ∨ (v = vi 0 ∧ ∀ q, zp_deg q 21 → gop a b q ≠ D)))) := by
        intro l2
        induction l2 with
        | zero =>
          intro e C h8 he v8 r8 m8 k99 k04 k10 w8
          have ee : e = 80 := by omega
          subst ee
          refine k471_78 (fun _ => k471_117 ?_) (fun w => absurd (by decide) w) (c1 := by decide)
          have := ih (k + 1) C h8 (vi ((80 : Nat) : Int)) t3 t4 t5 (by omega) v8 r8 m8 k99 (wfl_s w8)
          exact this
        | succ l2 ih2 =>
          intro e C h8 he v8 r8 m8 k99 k04 k10 w8
          have g1 : gi (mk 176 (C 1304)) (e : Int) = (((zp_mul a (mvf (zp_X k) 1)).1 e).val : Int) := by rw [k04]; exact gi_mkn (by omega)
          have g2 : gi (mk 176 (C 1310)) (e : Int) = (((zp_mul bb (zp_X k)).1 e).val : Int) := by rw [k10]; exact gi_mkn (by omega)
          have b1 := F_bd ((zp_mul a (mvf (zp_X k) 1)).1 e)
          have b2 := F_bd ((zp_mul bb (zp_X k)).1 e)
          refine k471_78 (fun w => absurd w (by omega)) (fun _ => ?_) (c1 := by unfold In3; omega)
          refine k471_84 v8.1 (RV_l v8 (c := 1304) rfl) (RV_l v8 (c := 1310) rfl) (wm_mono (wq_r ?_) (t_modulo (by rw [g1, g2]; exact in6_of (by omega) (by omega)))) (c12 := by rw [mk_len]; omega) (c13 := by omega) (c14 := by unfold In3; omega) (c20 := by rw [mk_len]; omega)
          refine k471_110 (Ra_wide v8) ?_ (c4 := by rw [mk_len]; omega) (c5 := by omega) (c6 := by unfold In3; omega)
          have ev : ((gi (mk 176 (C 1304)) (e : Int)) - (gi (mk 176 (C 1310)) (e : Int))) % 32003 = ((wM a b D e k).val : Int) := by
            rw [g1, g2, ← nF_v, nF_sub, nF_val, nF_val]
            unfold wM
            rw [if_pos (by omega), eg]
            show ((_ - _ : zp_F).val : Int) = ((_ + -_ : zp_F).val : Int)
            rw [sb_h1]
          have wp := wfl_put w8 (by omega) (t0 := (24 * (e : Int) + (k : Int)).toNat) (by omega) (x := ((gi (mk 176 (C 1304)) (e : Int)) - (gi (mk 176 (C 1310)) (e : Int))) % 32003) ev
          rw [mk_set]
          have := ih2 (e + 1) _ _ (by omega) (Rp_wide v8 _) (FR_trans r8 (FR_put v8 (c := 1326) (by decide) (by decide) _)) (sm_up m8 _ rfl) (by rw [up_ne _ _ (by decide)]; exact k99) (by rw [up_ne _ _ (by decide)]; exact k04) (by rw [up_ne _ _ (by decide)]; exact k10) wp
          exact this
      have fin2 := start 80 0 _ h7 (Nat.zero_add 80) v7 (FR_trans r (FR_trans r2 (FR_trans (FR_w v2 (c := 1309) rfl _) (FR_trans r4 (FR_trans r5 (FR_trans r6 r7)))))) (sm_up (sm_up (sm_up (sm_up (sm_up (sm_up m _ rfl) _ rfl) _ rfl) _ rfl) _ rfl) _ rfl) (by rw [up_ne _ _ (by decide), up_ne _ _ (by decide), up_ne _ _ (by decide), up_ne _ _ (by decide), up_ne _ _ (by decide), up_ne _ _ (by decide)]; exact g99) (up_at _ _ _) (by rw [up_ne _ _ (by decide), up_ne _ _ (by decide), up_at]) (fun n i hn hi2 w5 => by
        rw [up_ne _ _ (by decide), up_ne _ _ (by decide), up_ne _ _ (by decide), up_ne _ _ (by decide), up_ne _ _ (by decide), up_ne _ _ (by decide)]
        exact w n i hn hi2 w5)
      exact fin2
  have := cols 21 0 _ h1 .result .result .result .result (Nat.zero_add 21) v1 r1 (sm_up sm_refl _ rfl) (up_at _ _ _) (fun n i _ _ w => absurd w (by omega))
  exact this
end
