/-! the reference's findFactors: parting by each sum of the base -/
theorem fcn_sur {R : Nat → Int} : ∀ {n t : Nat}, t < fcn R n → ∃ c, c < n ∧ R c = -1 ∧ fcn R c = t
  | 0, t, h => absurd h (Nat.not_lt_zero t)
  | n + 1, t, h => by
    by_cases q : R n = -1
    · rw [fcn_y q] at h
      by_cases e : t = fcn R n
      · exact ⟨n, Nat.lt_succ_self n, q, e.symm⟩
      · obtain ⟨c, a, b, e⟩ := fcn_sur (R := R) (n := n) (t := t) (by omega)
        exact ⟨c, by omega, b, e⟩
    · rw [fcn_n q] at h
      obtain ⟨c, a, b, e⟩ := fcn_sur (R := R) (n := n) (t := t) h
      exact ⟨c, by omega, b, e⟩
theorem cst_dv {F f g : zp_R} (h : cst F f) (w : dv g f) : cst F g := by
  obtain ⟨z, e⟩ := h
  exact ⟨z, dv_tr2 e w⟩
section
variable {d : Nat} {h : s_H} {s : Nat → Int} {A : Nat → Nat → Int}
theorem W_split {Q : s_O → Prop} {p n : Nat} {B : zp_R} {Bt : Nat → Nat → zp_F} {R : Nat → Int} (hB : mon B n) (n1 : 1 ≤ n) (n40 : n ≤ 40) (sB : sqf B) (a : rr (tc (fxG B (md B (zp_X 32003))) n n 0) Bt n n R) (hft : ∀ c, c < n → R c = -1 → ft A (fcn R c) = cf (kerq Bt R n c)) {x2 : Int} {t4 t5 : Term} (K : ∀ (m : Nat) (P' : Nat → zp_R) (s2 : Nat → Int) (D : Nat → Nat → Int) (h2 : s_H) (x3 : Int), RV h2 s2 D → FR h h2 → sm A D pbL → pbq s s2 → s2 33 = (m : Int) → prts B m P' → cov B m P' → (∀ j, j < m → pt D 1319 j = cf (P' j)) → (∀ j, j < m → irr (P' j)) → wr sw_P (d + 6) sw_c450 sw_h450 (120, [.index 1290, .index p, vi x2, vi x3, t4, t5], [], h2, 0, 0) Q) : ∀ (l c m : Nat) (P' : Nat → zp_R) (s2 : Nat → Int) (D : Nat → Nat → Int) (h2 : s_H), c + l = fcn R n → RV h2 s2 D → FR h h2 → sm A D pbL → pbq s s2 → s2 33 = (m : Int) → s2 35 = (fcn R n : Int) → prts B m P' → cov B m P' → (∀ j, j < m → pt D 1319 j = cf (P' j)) → (∀ c', c' < n → R c' = -1 → fcn R c' < c → ∀ j, j < m → cst (kerq Bt R n c') (P' j)) → wr sw_P (d + 6) sw_c450 sw_h450 (90, [.index 1290, .index p, vi x2, vi (c : Int), t4, t5], [], h2, 0, 0) Q := by
  have rn := fcn_b R n
  intro l
  induction l with
  | zero =>
    intro c m P' s2 D h2 hc v r aD q em ef pr cv g cs
    have m40 := prts_le hB pr
    refine k450_90 (z5 := (fcn R n : Int)) v.1 (fun _ => ?_) (fun w => absurd (by omega) w) (n6 := by
      show some (vi (s2 35)) = _
      rw [ef]) (c7 := by unfold In3; omega) (c8 := by unfold In3; omega)
    refine K m P' s2 D h2 _ v r aD q em pr cv g (fun j hj => end_A hB n1 (by omega) sB pr (fun E dE cE j hj => fx_cst hB n1 (by omega) a dE cE (fun c' h1 h3 => cs c' h1 h3 (by
      have := fcn_lt h3 n h1
      omega) j hj)) hj)
  | succ l ih =>
    intro c m P' s2 D h2 hc v r aD q em ef pr cv g cs
    have m40 := prts_le hB pr
    refine k450_90 (z5 := (fcn R n : Int)) v.1 (fun w => absurd w (by omega)) (fun _ => ?_) (n6 := by
      show some (vi (s2 35)) = _
      rw [ef]) (c7 := by unfold In3; omega) (c8 := by unfold In3; omega)
    refine k450_98 (z5 := (m : Int)) (z7 := (fcn R n : Int)) v.1 (fun w => ?_) (fun w => ?_) (n6 := by
      show some (vi (s2 33)) = _
      rw [em]) (n8 := by
      show some (vi (s2 35)) = _
      rw [ef]) (c9 := by unfold In3; omega) (c10 := by unfold In3; omega)
    · exact K m P' s2 D h2 _ v r aD q em pr cv g (fun j hj => end_B hB n1 (by omega) sB a pr (by omega) hj)
    · obtain ⟨c0, h1, h3, e0⟩ := fcn_sur (R := R) (n := n) (t := c) (by omega)
      have eF : ft D c = cf (kerq Bt R n c0) := by
        rw [← hft c0 h1 h3, e0]
        unfold ft
        rw [aD 1320 rfl]
      refine k450_109 v.1 (wm_mono (wq_N (fun h3' s3 D3 v3 r3 φ => ?_)) (V_partBy v (c := c) (b := m) (by omega) hB n40 em pr cv g eF (fx_base hB n1 (by omega) a h1 h3)))
      obtain ⟨m', P2, e1, e2, e3, _, e4, e5, e6, e7, e8⟩ := φ
      refine k450_114 ?_
      have := ih (c + 1) m' P2 s3 D3 h3' (by omega) v3 (FR_trans r r3) (sm_tr aD e3) (pbq_tr q e2) e1 (by rw [e2 35 (by decide) (by decide) (by decide)]; exact ef) e4 e5 e6 (fun c' y1 y2 y3 j hj => by
        by_cases q0 : fcn R c' = c
        · have : c' = c0 := fcn_inj y2 h3 (by omega)
          rw [this]
          exact e7 j hj
        · obtain ⟨i, i1, i2⟩ := e8 j hj
          exact cst_dv (cs c' y1 y2 (by omega) i i1) i2)
      exact this
end
