/-! the reference's partBy, the whole of it -/
def pbR (s : Nat → Int) (A : Nat → Nat → Int) (B F : zp_R) (b : Nat) (P : Nat → zp_R) (s' : Nat → Int) (A' : Nat → Nat → Int) : Prop :=
  ∃ (m : Nat) (P' : Nat → zp_R), s' 33 = (m : Int) ∧ pbq s s' ∧ sm A A' pbL ∧ b ≤ m ∧ prts B m P' ∧ cov B m P' ∧ (∀ j, j < m → pt A' 1319 j = cf (P' j)) ∧ (∀ j, j < m → cst F (P' j)) ∧ ∀ j, j < m → ∃ i, i < b ∧ dv (P' j) (P i)
theorem cg_C_neg (z : zp_F) : zp_C (-z) = zp_neg (zp_C z) := zp_ext (fun i => by
  show (if i = 0 then (-z : zp_F) else 0) = -(if i = 0 then z else 0)
  split
  · rfl
  · exact (@cmo_L.cl_h1 zp_F _).symm)
theorem cst_cg {F R W f : zp_R} {z : zp_F} (hf : dv f W) (c : cg W F R) (w : dv f (zp_add R (zp_C z))) : cst F f := ⟨z, dv_cg hf (cg_add c (cg_refl W (zp_C z))) w⟩
section
variable {d : Nat} {h : s_H} {s : Nat → Int} {A : Nat → Nat → Int}
theorem V_partBy (hv : RV h s A) {c b nB : Nat} (hc : c < 41) {B F : zp_R} {P : Nat → zp_R} (hB : mon B nB) (n40 : nB ≤ 40) (hs : s 33 = (b : Int)) (hp : prts B b P) (hcov : cov B b P) (hP : ∀ j, j < b → pt A 1319 j = cf (P j)) (hF : ft A c = cf F) (cF : cg B (zp_npow F 32003) F) : wm sw_P (d + 6) 546 [.index 1290, vi (c : Int)] h (RN h (pbR s A B F b P)) := by
  refine wm_in (cd := sw_c546) (nL := 8) (hd := sw_h546) rfl rfl ?_
  have b40 := prts_le hB hp
  have hg := k546_0 (P := sw_P) (d := d + 5) (Q := RN h (pbR s A B F b P)) (h := h) (kc := 0) (ks := 0) (r0 := .index 1290) (x1 := (c : Int)) (t2 := .result) (t3 := .result) (t4 := .result) (t5 := .result) (t6 := .result) (t7 := .result) (z5 := s 33) hv.1
  rw [hs] at hg
  refine hg ?_
  have loop : ∀ (l k m : Nat) (P' : Nat → zp_R) (s1 : Nat → Int) (D : Nat → Nat → Int) (h1 : s_H) (t4 t5 t6 t7 : Term), k + l = b → RV h1 s1 D → FR h h1 → s1 33 = (m : Int) → pbq s s1 → sm A D pbL → b ≤ m → prts B m P' → cov B m P' → (∀ j, j < m → pt D 1319 j = cf (P' j)) → (∀ j, j < m → (j < k ∨ b ≤ j) → cst F (P' j)) → (∀ j, j < m → ∃ i, i < b ∧ dv (P' j) (P i)) → wr sw_P (d + 5) sw_c546 sw_h546 (7, [.index 1290, vi (c : Int), vi (b : Int), vi (k : Int), t4, t5, t6, t7], [], h1, 0, 0) (RN h (pbR s A B F b P)) := by
    intro l
    induction l with
    | zero =>
      intro k m P' s1 D h1 t4 t5 t6 t7 hk v r es q a bm p' c' g cs i'
      refine k546_7 (fun _ => k546_241 ⟨h1, s1, D, v, r, ⟨m, P', es, q, a, bm, p', c', g, fun j hj => cs j hj (by omega), i'⟩, rfl⟩) (fun w => absurd (by omega) w) (c1 := by unfold In3; omega) (c2 := by unfold In3; omega)
    | succ l ih =>
      intro k m P' s1 D h1 t4 t5 t6 t7 hk v r es q a bm p' c' g cs i'
      have m40 := prts_le hB p'
      have km : k < m := by omega
      obtain ⟨W, eW⟩ : ∃ W, P' k = W := ⟨_, rfl⟩
      have gW := g k km
      rw [eW] at gW
      obtain ⟨moW, W1, WB⟩ := p'.1 k km
      rw [eW] at moW W1 WB
      have dW := pt_deg gW
      have dW6 := deg_le dW (show 42 ≤ 176 by decide)
      have h0 := mo_pos moW dW6
      refine k546_7 (fun w => absurd w (by omega)) (fun _ => ?_) (c1 := by unfold In3; omega) (c2 := by unfold In3; omega)
      refine k546_12 v.1 (wm_mono (wq_Q (fun h2 v2 r2 => ?_)) (V_loadPart v (k := k) (by omega)))
      rw [gW] at v2
      refine W_loadFix (d := d + 4) v2 (FR_refl h2) (c := c) hc (fun h3 x4 v3 r3 => ?_)
      have eF : ft (up D 1312 (cf W)) c = cf F := by
        rw [← hF]
        unfold ft
        rw [up_ne _ _ (by decide), a 1320 rfl]
      rw [eF] at v3
      refine k546_59 v3.1 (wm_mono (wq_N (fun h4 s4 D4 v4 r4 φ => ?_)) (V_divide v3 (p := 1311) (q := 1312) rfl rfl (by decide) (by decide) (by decide) (up_at _ _ _) (by rw [up_ne _ _ (by decide), up_at]) (deg_le (ft_deg hF) (by decide)) dW6 h0))
      obtain ⟨es4, Qq, R, eFR, dR, dR6, _, eD4⟩ := φ
      subst es4
      have cFR : cg W F R := cg_dv eFR
      have g11 : D4 1311 = cf R := by rw [eD4, up_at]
      have g12 : D4 1312 = cf W := by rw [eD4, up_ne _ _ (by decide), up_ne _ _ (by decide), up_ne _ _ (by decide), up_at]
      have a4 : sm A D4 pbL := by
        rw [eD4]
        exact sm_up (sm_up (sm_up (sm_up a _ rfl) _ rfl) _ rfl) _ rfl
      have g4 : ∀ j, j < m → pt D4 1319 j = cf (P' j) := fun j hj => by
        rw [← g j hj]
        unfold pt
        rw [eD4, up_ne _ _ (by decide), up_ne _ _ (by decide), up_ne _ _ (by decide), up_ne _ _ (by decide)]
      have R4 : FR h h4 := FR_trans r (FR_trans r2 (FR_trans r3 r4))
      have bR := hi_b R
      refine k546_71 v4.1 (wm_mono (wq_r ?_) (V_high v4 (c := 1311) rfl g11))
      refine k546_78 (fun w => ?_) (fun w => ?_) (c1 := by unfold In3; omega)
      · have lW := hi_lt dW (Nat.le_refl _)
        refine k546_85 v4.1 (wm_mono (wq_A (fun v5 h5 s5 D5 w5 r5 φ => ?_)) (V_findLeast v4 (W := W) (V := R) g12 g11 dW h0 (deg_le dR (by omega))))
        obtain ⟨dd, L, ev5, hL, ddW, g03, q5, m5⟩ := φ
        subst ev5
        refine k546_89 ?_
        have fin : ∀ f, irr f → dv f W → ∃ x, x < 32003 ∧ dv f (vl_ R x) := fun f hf fW => by
          have c1 : cg f F R := cg_of fW cFR
          have c2 : cg f (zp_npow R 32003) R := cg_tr (cg_symm (cg_pow c1 32003)) (cg_tr (cg_of (dv_tr2 WB fW) cF) c1)
          exact irr_num hf c2
        refine W_parts (d := d) (h := h) (Q := RN h (pbR s A B F b P)) (B := B) (W := W) (R := R) (L := L) (P0 := P') (c := c) (b := b) (k := k) (m0 := m) (dd := dd) hB n40 p' km eW dW (deg_le dR6 (by decide)) hL (by omega) fin ?_ 32003 0 m 0 P' s5 D5 h5 _ (by omega) w5 (FR_trans R4 r5) (sm_tr a4 (sm_sub m5 rfl)) (by rw [cl_33 q5]; exact es) (pbq_tr q (pbq_cl q5)) (fun j hj => ?_) mid_0 (rts_0 L) (by rw [m5 1312 rfl]; exact g12) (by rw [m5 1311 rfl]; exact g11) g03
        · intro m' e n P2 s6 D6 h6 y4 t5 t6 t7 v6 r6 a6 es6 q6 g6 md fin6
          obtain ⟨e0, cv⟩ := mid_end md km eW p' fin6
          have pr := mid_prt md km eW p'
          have cnt := md.1
          have kind : ∀ j, j < m' → (dv (P2 j) W ∧ ∃ x, dv (P2 j) (vl_ R x)) ∨ (j < m ∧ j ≠ k ∧ P2 j = P' j) := fun j hj => by
            by_cases q1 : nw k m e j
            · obtain ⟨_, _, w1, x, _, w2⟩ := md.2.2.1 j hj q1
              exact .inl ⟨w1, x, w2⟩
            · have jk : j ≠ k := fun w2 => q1 (.inl ⟨w2, e0⟩)
              have jm : j < m := Nat.lt_of_not_le (fun w2 => q1 (.inr w2))
              exact .inr ⟨jm, jk, md.2.1 j jm (.inl jk)⟩
          refine k546_235 ?_
          have := ih (k + 1) m' P2 s6 D6 h6 (vi y4) t5 t6 t7 (by omega) v6 r6 es6 q6 a6 (by omega) pr (cv c') g6 (fun j hj hjk => by
            rcases kind j hj with ⟨w1, x, w2⟩ | ⟨w1, w2, w3⟩
            · exact cst_cg w1 cFR w2
            · rw [w3]
              exact cs j w1 (by omega)) (fun j hj => by
            rcases kind j hj with ⟨w1, x, w2⟩ | ⟨w1, w2, w3⟩
            · obtain ⟨i, i1, i2⟩ := i' k km
              rw [eW] at i2
              exact ⟨i, i1, dv_tr2 i2 w1⟩
            · rw [w3]
              exact i' j w1)
          exact this
        · rw [← g4 j hj]
          unfold pt
          rw [m5 1319 rfl]
      · have eR : R = zp_C (R.1 0) := zp_ext (fun i => by
          show R.1 i = if i = 0 then R.1 0 else 0
          by_cases q0 : i = 0
          · rw [if_pos q0, q0]
          · rw [if_neg q0]; exact hi_deg dR6 i (by omega))
        refine k546_82 (k546_235 ?_)
        have := ih (k + 1) m P' _ D4 h4 (vi x4) t5 t6 t7 (by omega) v4 R4 es q a4 bm p' c' g4 (fun j hj hjk => by
          by_cases jk : j = k
          · rw [jk, eW]
            refine ⟨-(R.1 0), ?_⟩
            obtain ⟨u, eu⟩ := cFR
            refine ⟨u, Eq.trans ?_ eu⟩
            rw [cg_C_neg, ← eR]
          · exact cs j hj (by omega)) i'
        exact this
  exact loop b 0 b P s A h _ _ _ _ (by omega) hv (FR_refl h) hs (pbq_rf s) sm_refl (Nat.le_refl _) hp hcov hP (fun j _ hj => by omega) (fun j hj => ⟨j, hj, dv_rf _⟩)
end
