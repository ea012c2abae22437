/-! the reference's isAhead: the order of factors -/
/-- f stands ahead of g: degree, then the highest number that differs -/
def ahd (f g : zp_R) : Prop := hi f < hi g ∨ (hi f = hi g ∧ ∃ n, (∀ j, n < j → f.1 j = g.1 j) ∧ (f.1 n).val < (g.1 n).val)
section
variable {d : Nat} {h : s_H} {s : Nat → Int} {A : Nat → Nat → Int}
theorem V_isAhead (hv : RV h s A) {i k : Nat} (hi' : i < 41) (hk : k < 41) {f g : zp_R} (hf : pt A 1319 i = cf f) (hg : pt A 1319 k = cf g) (f0 : f ≠ zp_C 0) (g0 : g ≠ zp_C 0) : wm sw_P (d + 1) 470 [.index 1290, vi (i : Int), vi (k : Int)] h (fun out => ∃ z : Int, ((z = 1 ∧ ahd f g) ∨ (z = 0 ∧ ¬ ahd f g)) ∧ qr (vi z) h out) := by
  refine wm_in (cd := sw_c470) (nL := 5) (hd := sw_h470) rfl rfl ?_
  have df := deg_le (pt_deg hf) (show 42 ≤ 176 by decide)
  have dg := deg_le (pt_deg hg) (show 42 ≤ 176 by decide)
  have hf0 := hi_ge df f0
  have hg0 := hi_ge dg g0
  have tf := (hi_top hf0 df).1
  have tg := (hi_top hg0 dg).1
  have lf : hi f < 42 := hi_lt (pt_deg hf) (Nat.le_refl _)
  have lg : hi g < 42 := hi_lt (pt_deg hg) (Nat.le_refl _)
  have gf : ∀ j : Nat, j < 42 → gi (mk 1722 (A 1319)) (42 * (i : Int) + (j : Int)) = cf f j := fun j hj => by
    rw [show (42 * (i : Int) + (j : Int)) = ((42 * i + j : Nat) : Int) by omega, gi_mkn (by omega), ← hf]
    exact (if_pos (by omega)).symm
  have gg : ∀ j : Nat, j < 42 → gi (mk 1722 (A 1319)) (42 * (k : Int) + (j : Int)) = cf g j := fun j hj => by
    rw [show (42 * (k : Int) + (j : Int)) = ((42 * k + j : Nat) : Int) by omega, gi_mkn (by omega), ← hg]
    exact (if_pos (by omega)).symm
  have fin : ∀ (z x3 x4 : Int) (pc : Nat), pc = 78 ∨ pc = 146 → ((z = 1 ∧ ahd f g) ∨ (z = 0 ∧ ¬ ahd f g)) → wr sw_P d sw_c470 sw_h470 (pc, [.index 1290, vi (i : Int), vi (k : Int), vi x3, vi x4], [vi z], h, 0, 0) (fun out => ∃ z : Int, ((z = 1 ∧ ahd f g) ∨ (z = 0 ∧ ¬ ahd f g)) ∧ qr (vi z) h out) := fun z x3 x4 pc hpc w => by
    rcases hpc with e | e
    · rw [e]; exact k470_78 ⟨z, w, rfl⟩ (c1 := by rcases w with ⟨w, _⟩ | ⟨w, _⟩ <;> omega)
    · rw [e]; exact k470_146 ⟨z, w, rfl⟩ (c1 := by rcases w with ⟨w, _⟩ | ⟨w, _⟩ <;> omega)
  -- the highest number that differs
  have last : ∀ (n : Nat), hi f = hi g → n < 42 → (∀ j, n < j → f.1 j = g.1 j) → ∀ x4 : Int, wr sw_P d sw_c470 sw_h470 (79, [.index 1290, vi (i : Int), vi (k : Int), vi (n : Int), vi x4], [], h, 0, 0) (fun out => ∃ z : Int, ((z = 1 ∧ ahd f g) ∨ (z = 0 ∧ ¬ ahd f g)) ∧ qr (vi z) h out) := by
    intro n e
    have tell : ∀ (n : Nat), n < 42 → (∀ j, n < j → f.1 j = g.1 j) → (n = 0 ∨ f.1 n ≠ g.1 n) → ∀ x4 : Int, wr sw_P d sw_c470 sw_h470 (115, [.index 1290, vi (i : Int), vi (k : Int), vi (n : Int), vi x4], [], h, 0, 0) (fun out => ∃ z : Int, ((z = 1 ∧ ahd f g) ∨ (z = 0 ∧ ¬ ahd f g)) ∧ qr (vi z) h out) := fun n hn ha hb x4 => by
      have b1 := cf_b f n
      have b2 := cf_b g n
      refine k470_115 hv.1 (Ra_partAt hv) (fun w => k470_145 (fin 0 _ _ _ (.inr rfl) (.inr ⟨rfl, fun w2 => ?_⟩))) (fun w => k470_141 (fin 1 _ _ _ (.inr rfl) (.inl ⟨rfl, .inr ⟨e, n, ha, ?_⟩⟩))) (c10 := by rw [mk_len]; omega) (c11 := by omega) (c12 := by unfold In3; omega) (c13 := by rw [mk_len]; omega) (c14 := by omega) (c15 := by unfold In3; omega) (c16 := by rw [gf n hn]; exact in6_of (by omega) (by omega)) (c17 := by rw [gg n hn]; exact in6_of (by omega) (by omega))
      · rw [gf n hn, gg n hn] at w
        unfold cf at w
        rcases w2 with w2 | ⟨_, n', q1, q2⟩
        · omega
        · rcases Nat.lt_trichotomy n' n with q | q | q
          · rcases hb with hb | hb
            · omega
            · exact hb (q1 n q)
          · rw [q] at q2; omega
          · rw [ha n' q] at q2; omega
      · rw [gf n hn, gg n hn] at w
        unfold cf at w
        omega
    induction n with
    | zero =>
      intro hn ha x4
      exact k470_79 (fun _ => tell 0 hn ha (.inl rfl) x4) (fun w => absurd (by omega) w) (c1 := by decide)
    | succ n ih =>
      intro hn ha x4
      have b1 := cf_b f (n + 1)
      have b2 := cf_b g (n + 1)
      refine k470_79 (fun w => absurd w (by omega)) (fun _ => ?_) (c1 := by unfold In3; omega)
      refine k470_83 hv.1 (Ra_partAt hv) (fun w => tell (n + 1) hn ha (.inr (fun e2 => ?_)) x4) (fun w => k470_109 ?_) (c10 := by rw [mk_len]; omega) (c11 := by omega) (c12 := by unfold In3; omega) (c13 := by rw [mk_len]; omega) (c14 := by omega) (c15 := by unfold In3; omega) (c16 := by rw [gf _ hn]; exact in6_of (by omega) (by omega)) (c17 := by rw [gg _ hn]; exact in6_of (by omega) (by omega))
      · rw [gf _ hn, gg _ hn] at w
        exact w (by unfold cf; rw [e2])
      · rw [gf _ hn, gg _ hn] at w
        rw [show ((n + 1 : Nat) : Int) + -1 = (n : Int) by omega]
        refine ih (by omega) (fun j hj => ?_) x4
        by_cases q : j = n + 1
        · rw [q]
          exact F_ext (Classical.byContradiction w)
        · exact ha j (by omega)
  have second : ∀ (l n : Nat), n = (hi g).toNat + l → n < 42 → wr sw_P d sw_c470 sw_h470 (33, [.index 1290, vi (i : Int), vi (k : Int), vi (hi f), vi (n : Int)], [], h, 0, 0) (fun out => ∃ z : Int, ((z = 1 ∧ ahd f g) ∨ (z = 0 ∧ ¬ ahd f g)) ∧ qr (vi z) h out) := by
    intro l
    induction l with
    | zero =>
      intro n hn n42
      have b2 := cf_b g n
      refine k470_33 (fun w => absurd w (by omega)) (fun _ => ?_) (c1 := by unfold In3; omega)
      refine k470_38 hv.1 (Ra_partAt hv) (fun _ => ?_) (fun w => absurd (fun w2 => tg (by rw [gg n n42] at w2; rw [show (hi g).toNat = n by omega]; exact cf_0 w2)) w) (c10 := by rw [mk_len]; omega) (c11 := by omega) (c12 := by unfold In3; omega) (c13 := by rw [gg n n42]; exact in6_of (by omega) (by omega))
      refine k470_61 (fun w => ?_) (fun w => ?_) (c1 := by unfold In3; omega) (c2 := by unfold In3; omega)
      · have e : hi f = hi g := by omega
        have := last n e n42 (fun j hj => by rw [hi_deg df j (by omega), hi_deg dg j (by omega)]) (n : Int)
        rw [show (n : Int) = hi f by omega] at this
        rw [show (n : Int) = hi f by omega]
        exact this
      · refine k470_67 (fun w2 => k470_77 (fin 0 _ _ _ (.inl rfl) (.inr ⟨rfl, fun w3 => ?_⟩))) (fun w2 => k470_73 (fin 1 _ _ _ (.inl rfl) (.inl ⟨rfl, .inl (by omega)⟩))) (c1 := by unfold In3; omega) (c2 := by unfold In3; omega)
        rcases w3 with w3 | ⟨w3, _⟩
        · omega
        · omega
    | succ l ih =>
      intro n hn n42
      have b2 := cf_b g n
      refine k470_33 (fun w => absurd w (by omega)) (fun _ => ?_) (c1 := by unfold In3; omega)
      refine k470_38 hv.1 (Ra_partAt hv) (fun w => absurd (by rw [gg n n42]; unfold cf; rw [hi_deg dg n (by omega)]; rfl) w) (fun _ => k470_55 ?_) (c10 := by rw [mk_len]; omega) (c11 := by omega) (c12 := by unfold In3; omega) (c13 := by rw [gg n n42]; exact in6_of (by omega) (by omega))
      rw [show (n : Int) + -1 = ((n - 1 : Nat) : Int) by omega]
      exact ih (n - 1) (by omega) (by omega)
  have first : ∀ (l n : Nat) (t4 : Term), n = (hi f).toNat + l → n < 42 → wr sw_P d sw_c470 sw_h470 (3, [.index 1290, vi (i : Int), vi (k : Int), vi (n : Int), t4], [], h, 0, 0) (fun out => ∃ z : Int, ((z = 1 ∧ ahd f g) ∨ (z = 0 ∧ ¬ ahd f g)) ∧ qr (vi z) h out) := by
    intro l
    induction l with
    | zero =>
      intro n t4 hn n42
      have b2 := cf_b f n
      refine k470_3 (fun w => absurd w (by omega)) (fun _ => ?_) (c1 := by unfold In3; omega)
      refine k470_7 hv.1 (Ra_partAt hv) (fun _ => k470_29 ?_) (fun w => absurd (fun w2 => tf (by rw [gf n n42] at w2; rw [show (hi f).toNat = n by omega]; exact cf_0 w2)) w) (c10 := by rw [mk_len]; omega) (c11 := by omega) (c12 := by unfold In3; omega) (c13 := by rw [gf n n42]; exact in6_of (by omega) (by omega))
      rw [show (n : Int) = hi f by omega]
      exact second (41 - (hi g).toNat) 41 (by omega) (by decide)
    | succ l ih =>
      intro n t4 hn n42
      have b2 := cf_b f n
      refine k470_3 (fun w => absurd w (by omega)) (fun _ => ?_) (c1 := by unfold In3; omega)
      refine k470_7 hv.1 (Ra_partAt hv) (fun w => absurd (by rw [gf n n42]; unfold cf; rw [hi_deg df n (by omega)]; rfl) w) (fun _ => k470_23 ?_) (c10 := by rw [mk_len]; omega) (c11 := by omega) (c12 := by unfold In3; omega) (c13 := by rw [gf n n42]; exact in6_of (by omega) (by omega))
      rw [show (n : Int) + -1 = ((n - 1 : Nat) : Int) by omega]
      exact ih (n - 1) _ (by omega) (by omega)
  exact k470_0 (first (41 - (hi f).toNat) 41 _ (by omega) (by decide))
end
