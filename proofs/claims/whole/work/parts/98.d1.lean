/-! the reference's same in the picture -/
/-- the same thing -/
def eqT (t u : th) : Prop := match t, u with
  | .inl (a, b), .inl (c, e) => a = c ∧ b = e
  | .inr (.inl f), .inr (.inl g) => f = g
  | .inr (.inr (.inl (r, c, M))), .inr (.inr (.inl (r2, c2, M2))) => r = r2 ∧ c = c2 ∧ ∀ i j, i < r → j < c → M i j = M2 i j
  | .inr (.inr (.inr (n, so, va))), .inr (.inr (.inr (n2, so2, va2))) => n = n2 ∧ ∀ k, k < n → so k = so2 k ∧ va k = va2 k
  | _, _ => False
def samS (cnt : Int) (T : Nat → th) (x y c v : Int) : Prop := (¬ (0 ≤ x ∧ x < cnt ∧ 0 ≤ y ∧ y < cnt) → c = 1 ∧ v = 0) ∧ ((0 ≤ x ∧ x < cnt ∧ 0 ≤ y ∧ y < cnt) → c = 0 ∧ (eqT (T x.toNat) (T y.toNat) → v = 1) ∧ (¬ eqT (T x.toNat) (T y.toNat) → v = 0))
theorem cf_inj {f g : zp_R} (h : ∀ k, k ≤ 40 → (f.1 k).val = ((g.1 k).val : Int)) (df : zp_deg f 41) (dg : zp_deg g 41) : f = g := zp_ext (fun i => by
  by_cases q : i ≤ 40
  · exact F_ext (h i q)
  · rw [df i (by omega), dg i (by omega)])
section
variable {d : Nat} {h : s_H} {s : Nat → Int} {A : Nat → Nat → Int}
theorem V_areSameTrees (hv : RV h s A) {f k n n2 : Nat} {so va so2 va2 : Nat → Int} (hf : f < 150) (hk : k < 150) (t1 : isT A f (th_fo n so va)) (t2 : isT A k (th_fo n2 so2 va2)) : wm sw_P (d + 2) 400 [.index 1290, vi (f : Int), vi (k : Int)] h (fun out => ∃ v : Int, (eqT (th_fo n so va) (th_fo n2 so2 va2) → v = 1) ∧ (¬ eqT (th_fo n so va) (th_fo n2 so2 va2) → v = 0) ∧ qr (vi v) h out) := by
  obtain ⟨_, ⟨p1, p2, _⟩, p3, p4⟩ := t1
  obtain ⟨_, ⟨u1, u2, _⟩, u3, u4⟩ := t2
  refine wm_in (cd := sw_c400) (nL := 5) (hd := sw_h400) rfl rfl ?_
  have g1 : gi (mk 150 (A 1349)) (f : Int) = (n : Int) := by rw [gi_mkn hf]; exact p3
  have g2 : gi (mk 150 (A 1349)) (k : Int) = (n2 : Int) := by rw [gi_mkn hk]; exact u3
  have s1 := Ra_sizes hv
  have s2 := Ra_sorts hv
  have s3 := Ra_values hv
  refine k400_0 hv.1 s1 (fun w => ?_) (fun w => ?_) (c10 := by rw [mk_len]; omega) (c11 := by omega) (c12 := by unfold In3; omega) (c13 := by rw [mk_len]; omega) (c14 := by omega) (c15 := by unfold In3; omega) (c16 := by rw [g1]; unfold In3; omega) (c17 := by rw [g2]; unfold In3; omega)
  · rw [g1, g2] at w
    have nn : n = n2 := by omega
    subst nn
    refine k400_17 ?_
    have loop : ∀ (l i : Nat) (b : Int), i + l = n → (b = 1 ∧ (∀ j, j < i → so j = so2 j ∧ va j = va2 j) ∨ b = 0 ∧ ∃ j, j < i ∧ ¬ (so j = so2 j ∧ va j = va2 j)) → wr sw_P (d + 1) sw_c400 sw_h400 (22, [.index 1290, vi (f : Int), vi (k : Int), vi b, vi (i : Int)], [], h, 0, 0) (fun out => ∃ v : Int, (eqT (th_fo n so va) (th_fo n so2 va2) → v = 1) ∧ (¬ eqT (th_fo n so va) (th_fo n so2 va2) → v = 0) ∧ qr (vi v) h out) := by
      intro l
      induction l with
      | zero =>
        intro i b hi2 hb
        have i_n : i = n := by omega
        subst i_n
        refine k400_22 hv.1 s1 (fun _ => ?_) (fun w => absurd w (by rw [g1]; omega)) (c10 := by rw [mk_len]; omega) (c11 := by omega) (c12 := by unfold In3; omega) (c13 := by unfold In3; omega) (c14 := by rw [g1]; unfold In3; omega)
        refine k400_107 ⟨b, fun w => ?_, fun w => ?_, rfl⟩ (c1 := by rcases hb with ⟨b1, _⟩ | ⟨b1, _⟩ <;> omega)
        · rcases hb with ⟨b1, _⟩ | ⟨_, j, j1, j2⟩
          · exact b1
          · exact absurd (w.2 j j1) j2
        · rcases hb with ⟨_, b2⟩ | ⟨b1, _⟩
          · exact absurd ⟨rfl, b2⟩ w
          · exact b1
      | succ l ih =>
        intro i b hi2 hb
        refine k400_22 hv.1 s1 (fun w => absurd w (by rw [g1]; omega)) (fun _ => ?_) (c10 := by rw [mk_len]; omega) (c11 := by omega) (c12 := by unfold In3; omega) (c13 := by unfold In3; omega) (c14 := by rw [g1]; unfold In3; omega)
        have no : (¬ (so i = so2 i ∧ va i = va2 i) ∨ b = 0) → wr sw_P (d + 1) sw_c400 sw_h400 (99, [.index 1290, vi (f : Int), vi (k : Int), vi b, vi (i : Int)], [], h, 0, 0) (fun out => ∃ v : Int, (eqT (th_fo n so va) (th_fo n so2 va2) → v = 1) ∧ (¬ eqT (th_fo n so va) (th_fo n so2 va2) → v = 0) ∧ qr (vi v) h out) := fun w => by
          refine k400_99 (k400_100 ?_)
          refine ih (i + 1) 0 (by omega) (.inr ⟨rfl, ?_⟩)
          rcases w with w | w
          · exact ⟨i, by omega, w⟩
          · rcases hb with ⟨b1, _⟩ | ⟨_, j, j1, j2⟩
            · omega
            · exact ⟨j, by omega, j2⟩
        refine k400_33 (fun w => no (.inr w)) (fun w => ?_) (c1 := by rcases hb with ⟨b1, _⟩ | ⟨b1, _⟩ <;> (unfold In3; omega))
        have tn := p4 i (by omega)
        have un := u4 i (by omega)
        have b1 := p2 i (by omega)
        have b2 := u2 i (by omega)
        have e1 : gi (mk 30000 (A 1350)) (200 * (f : Int) + i) = so i := by rw [show 200 * (f : Int) + i = ((200 * f + i : Nat) : Int) by omega, gi_mkn (by omega)]; exact tn.1
        have e2 : gi (mk 30000 (A 1350)) (200 * (k : Int) + i) = so2 i := by rw [show 200 * (k : Int) + i = ((200 * k + i : Nat) : Int) by omega, gi_mkn (by omega)]; exact un.1
        have e3 : gi (mk 30000 (A 1351)) (200 * (f : Int) + i) = va i := by rw [show 200 * (f : Int) + i = ((200 * f + i : Nat) : Int) by omega, gi_mkn (by omega)]; exact tn.2
        have e4 : gi (mk 30000 (A 1351)) (200 * (k : Int) + i) = va2 i := by rw [show 200 * (k : Int) + i = ((200 * k + i : Nat) : Int) by omega, gi_mkn (by omega)]; exact un.2
        refine k400_37 hv.1 s2 (fun w2 => ?_) (fun w2 => ?_) (c10 := by rw [mk_len]; omega) (c11 := by omega) (c12 := by unfold In3; omega) (c13 := by rw [mk_len]; omega) (c14 := by omega) (c15 := by unfold In3; omega) (c16 := by rw [e1]; unfold In3; omega) (c17 := by rw [e2]; unfold In3; omega)
        · rw [e1, e2] at w2
          exact no (.inl (fun w3 => w2 w3.1))
        · rw [e1, e2] at w2
          refine k400_66 hv.1 s3 (fun w4 => ?_) (fun w4 => ?_) (c10 := by rw [mk_len]; omega) (c11 := by omega) (c12 := by unfold In3; omega) (c13 := by rw [mk_len]; omega) (c14 := by omega) (c15 := by unfold In3; omega) (c16 := by rw [e3]; unfold In3; omega) (c17 := by rw [e4]; unfold In3; omega)
          · rw [e3, e4] at w4
            exact no (.inl (fun w3 => w4 w3.2))
          · rw [e3, e4] at w4
            refine k400_95 (k400_100 ?_)
            refine ih (i + 1) 1 (by omega) (.inl ⟨rfl, fun j hj => ?_⟩)
            rcases hb with ⟨_, b3⟩ | ⟨b3, _⟩
            · by_cases q : j = i
              · rw [q]; exact ⟨Decidable.byContradiction w2, Decidable.byContradiction w4⟩
              · exact b3 j (by omega)
            · exact absurd b3 w
    exact loop n 0 1 (by omega) (.inl ⟨rfl, fun j hj => absurd hj (Nat.not_lt_zero j)⟩)
  · rw [g1, g2] at w
    refine k400_15 ⟨0, fun w2 => ?_, fun _ => rfl, rfl⟩
    have w3 := w2.1
    omega
end
