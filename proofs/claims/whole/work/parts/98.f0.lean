/-! the reference's partBy: one part by the numbers at which its least polynomial is 0 -/
/-- F is a number modulo f -/
def cst (F f : zp_R) : Prop := ∃ z : zp_F, dv f (zp_add F (zp_C z))
def pbL : List Nat := [1303, 1304, 1305, 1306, 1307, 1308, 1311, 1312, 1317, 1318, 1319]
def pbq (s s' : Nat → Int) : Prop := ∀ j, j ≠ 32 → j ≠ 33 → j ≠ 37 → s' j = s j
theorem pbq_rf (s : Nat → Int) : pbq s s := fun _ _ _ _ => rfl
theorem pbq_tr {s s' s'' : Nat → Int} (a : pbq s s') (b : pbq s' s'') : pbq s s'' := fun j h1 h2 h3 => (b j h1 h2 h3).trans (a j h1 h2 h3)
theorem pbq_cl {s s' : Nat → Int} (h : clq s s') : pbq s s' := fun j h1 h2 h3 => by
  obtain ⟨a, b, e⟩ := h
  rw [e, up_ne _ _ h3, up_ne _ _ h1]
theorem cl_33 {s s' : Nat → Int} (h : clq s s') : s' 33 = s 33 := by
  obtain ⟨a, b, e⟩ := h
  rw [e, up_ne _ _ (by decide), up_ne _ _ (by decide)]
theorem pbq_33 (s : Nat → Int) (z : Int) : pbq s (up s 33 z) := fun j _ h2 _ => up_ne _ _ h2
theorem dv_deg42 {f g : zp_R} (hf : mo f) (hg : mo g) (h : dv f g) (d : zp_deg g 42) : zp_deg f 42 := by
  obtain ⟨n, a, b⟩ := hf
  obtain ⟨m, a', b'⟩ := hg
  have le := mon_le ⟨a, b⟩ ⟨a', b'⟩ h
  have m41 : m < 42 := Nat.lt_of_not_le (fun w => by
    rw [d m w] at a'
    exact zp_F10 a'.symm)
  exact deg_le b (by omega)
section
variable {d : Nat} {h : s_H} {s : Nat → Int} {A : Nat → Nat → Int}
theorem W_parts {Q : s_O → Prop} {B W R L : zp_R} {P0 : Nat → zp_R} {c b k m0 dd nB : Nat} (hB : mon B nB) (n40 : nB ≤ 40) (hp : prts B m0 P0) (hk : k < m0) (hW : P0 k = W) (dW : zp_deg W 42) (dR : zp_deg R 176) (hL : isL W R L dd) (dd41 : dd ≤ 41) (fin : ∀ f, irr f → dv f W → ∃ x, x < 32003 ∧ dv f (vl_ R x)) (K : ∀ (m e n : Nat) (P' : Nat → zp_R) (s2 : Nat → Int) (D : Nat → Nat → Int) (h2 : s_H) (x4 : Int) (t5 t6 t7 : Term), RV h2 s2 D → FR h h2 → sm A D pbL → s2 33 = (m : Int) → pbq s s2 → (∀ j, j < m → pt D 1319 j = cf (P' j)) → mid W R P0 m0 k m e n P' → (∀ f, irr f → dv f W → ∃ x, x < n ∧ dv f (vl_ R x)) → wr sw_P (d + 5) sw_c546 sw_h546 (235, [.index 1290, vi (c : Int), vi (b : Int), vi (k : Int), vi x4, t5, t6, t7], [], h2, 0, 0) Q) : ∀ (l n m e : Nat) (P' : Nat → zp_R) (s2 : Nat → Int) (D : Nat → Nat → Int) (h2 : s_H) (t7 : Term), n + l = 32003 → RV h2 s2 D → FR h h2 → sm A D pbL → s2 33 = (m : Int) → pbq s s2 → (∀ j, j < m → pt D 1319 j = cf (P' j)) → mid W R P0 m0 k m e n P' → rts L n e → D 1312 = cf W → D 1311 = cf R → D 1303 = cf L → wr sw_P (d + 5) sw_c546 sw_h546 (97, [.index 1290, vi (c : Int), vi (b : Int), vi (k : Int), vi (dd : Int), vi (e : Int), vi (n : Int), t7], [], h2, 0, 0) Q := by
  have mL : mon L dd := ⟨hL.1, hL.2.1⟩
  have moW : mo W := by rw [← hW]; exact (hp.1 k hk).1
  have m40 := prts_le hB hp
  intro l
  induction l with
  | zero =>
    intro n m e P' s2 D h2 t7 hn v r a es q g md rt _ _ _
    exact k546_97 (fun _ => K m e n P' s2 D h2 _ _ _ _ v r a es q g md (fun f hf fW => by
      obtain ⟨x, x1, x2⟩ := fin f hf fW
      exact ⟨x, by omega, x2⟩)) (fun w => absurd (by omega) w) (c1 := by unfold In3; omega)
  | succ l ih =>
    intro n m e P' s2 D h2 t7 hn v r a es q g md rt g12 g11 g03
    have le := rts_le rt mL
    refine k546_97 (fun w => absurd w (by omega)) (fun _ => ?_) (c1 := by unfold In3; omega)
    refine k546_105 (fun w => ?_) (fun w => ?_) (c1 := by unfold In3; omega) (c2 := by unfold In3; omega)
    · have ed : e = dd := by omega
      refine K m e n P' s2 D h2 _ _ _ _ v r a es q g md (fun f hf fW => ?_)
      obtain ⟨x, x1, x2⟩ := fin f hf fW
      refine ⟨x, Nat.lt_of_not_le (fun w2 => ?_), x2⟩
      rw [ed] at rt
      exact rts_end rt mL w2 x1 (isL_zero hL hf fW x2)
    · have bz := F_bd (zp_ev (zp_nat n) L)
      refine k546_112 v.1 (wm_mono (wq_r ?_) (t_valueAt (f := L) (RV_q v (c := 1303) rfl g03) (deg_le hL.2.1 (by omega)) (z := (n : Int)) ⟨by omega, by omega⟩)) (c7 := by unfold In3; omega)
      rw [nF_nat]
      refine k546_122 (fun z => ?_) (fun z => ?_) (c1 := in6_of (by omega) (by omega))
      · have z0 : zp_ev (zp_nat n) L = 0 := F_ext z
        refine W_root (d := d + 1) v (FR_refl h2) (W := W) (V := R) g12 g11 (deg_le dW (by decide)) dR (n := n) (by omega) (fun D3 h3 G v3 r3 s3 hG dG eG => ?_)
        have md2 := mid_y md hk moW (by omega) hL z0 hG
        have pr2 := mid_prt md2 hk hW hp
        have b2 := prts_le hB pr2
        have cnt := md.1
        have mG : mo G := by
          have := (pr2.1 (if e = 0 then k else m) (by
            by_cases q0 : e = 0
            · rw [if_pos q0]; omega
            · rw [if_neg q0]; omega)).1
          rw [pu_at] at this
          exact this
        have dG42 := dv_deg42 mG moW hG.1 dW
        have g3 : ∀ j, j < m → pt D3 1319 j = cf (P' j) := fun j hj => by
          rw [← g j hj]
          unfold pt
          rw [s3 1319 rfl]
        have a3 : sm A D3 pbL := sm_tr a (sm_sub s3 rfl)
        -- after a part was put down
        have next : ∀ (s4 : Nat → Int) (D4 : Nat → Nat → Int) (h4 : s_H) (t7 : Term), RV h4 s4 D4 → FR h h4 → (∀ x, x ≠ 1319 → D4 x = D3 x) → s4 33 = ((m0 + e : Nat) : Int) → pbq s s4 → (∀ j, j < m0 + e → pt D4 1319 j = cf (pu P' (if e = 0 then k else m) G j)) → wr sw_P (d + 5) sw_c546 sw_h546 (226, [.index 1290, vi (c : Int), vi (b : Int), vi (k : Int), vi (dd : Int), vi (e : Int), vi (n : Int), t7], [], h4, 0, 0) Q := fun s4 D4 h4 t7 v4 r4 o4 es4 q4 g4 => by
          refine k546_226 (k546_229 ?_)
          have := ih (n + 1) (m0 + e) (e + 1) _ s4 D4 h4 t7 (by omega) v4 r4 (sm_tr a3 (fun j hj => o4 j (fun w => by rw [w] at hj; exact absurd hj (by decide)))) es4 q4 g4 md2 (rts_y rt (by omega) z0) ((o4 1312 (by decide)).trans ((s3 1312 rfl).trans g12)) ((o4 1311 (by decide)).trans ((s3 1311 rfl).trans g11)) ((o4 1303 (by decide)).trans ((s3 1303 rfl).trans g03))
          exact this
        refine k546_175 (fun w2 => ?_) (fun w2 => ?_) (c1 := by unfold In3; omega)
        · have e0 : e = 0 := by omega
          refine W_putPart (d := d + 4) v3 (FR_refl h3) (k := k) (by omega) eG dG42 (fun D4 h4 x7 v4 r4 o4 p4 => ?_)
          refine next s2 D4 h4 _ v4 (FR_trans r (FR_trans r3 r4)) o4 (by rw [es]; omega) q (fun j hj => ?_)
          rw [if_pos e0]
          by_cases jk : j = k
          · rw [jk, pu_at]; exact p4.1
          · rw [pu_ne jk, p4.2 j jk]; exact g3 j (by omega)
        · refine k546_180 v3.1 (wm_mono (wq_N (fun h4 s4 D4 v4 r4 φ => ?_)) (V_push v3 (p := 1306) (n := m) rfl es (by omega) eG dG42))
          obtain ⟨es4, o4, p4, p5⟩ := φ
          refine k546_188 (next s4 D4 h4 _ v4 (FR_trans r (FR_trans r3 r4)) o4 (by rw [es4, up_at]; omega) (by rw [es4]; exact pbq_tr q (pbq_33 _ _)) (fun j hj => ?_))
          rw [if_neg (show ¬ e = 0 by omega)]
          by_cases jm : j = m
          · rw [jm, pu_at]; exact p4
          · rw [pu_ne jm, p5 j jm]; exact g3 j (by omega)
      · refine k546_127 (k546_229 ?_)
        have := ih (n + 1) m e P' s2 D h2 t7 (by omega) v r a es q g (mid_n md hL (fun w2 => z (by rw [w2]; rfl))) (rts_n rt) g12 g11 g03
        exact this
end
