/-! the reference's divisorOf: what divides all determinants of a size -/
/-- G is the greatest common divisor of all f that S holds of -/
def gdS (S : zp_R → Prop) (G : zp_R) : Prop := (∀ f, S f → dv G f) ∧ (∀ H, (∀ f, S f → dv H f) → dv H G) ∧ (G = zp_C 0 ∨ mo G)
theorem gd_h1 {R : Type} [Lean.Grind.CommRing R] {f g G H u v a b : R} (e : G = u * f + v * g) (e1 : f = H * a) (e2 : g = H * b) : G = H * (u * a + v * b) := by grind
theorem gd_h2 {R : Type} [Lean.Grind.CommRing R] {f G H a b : R} (e1 : f = G * a) (e2 : G = H * b) : f = H * (b * a) := by grind
theorem gd_h3 {R : Type} [Lean.Grind.CommRing R] (G : R) : 0 = G * 0 := by grind
theorem dv_lin {f g G H : zp_R} (h : lin f g G) (h1 : dv H f) (h2 : dv H g) : dv H G := by
  obtain ⟨u, v, e⟩ := h
  obtain ⟨a, e1⟩ := h1
  obtain ⟨b, e2⟩ := h2
  exact ⟨_, @gd_h1 zp_R zp_ring f g G H u v a b e e1 e2⟩
theorem dv_tr2 {f G H : zp_R} (h1 : dv G f) (h2 : dv H G) : dv H f := by
  obtain ⟨a, e1⟩ := h1
  obtain ⟨b, e2⟩ := h2
  exact ⟨_, @gd_h2 zp_R zp_ring f G H a b e1 e2⟩
theorem dv_00 (G : zp_R) : dv G (zp_C 0) := ⟨zp_C 0, @gd_h3 zp_R zp_ring G⟩
theorem gd_no {S : zp_R → Prop} (h : ∀ f, ¬ S f) : gdS S (zp_C 0) := ⟨fun f hf => absurd hf (h f), fun H _ => dv_00 H, .inl rfl⟩
theorem gd_more {S S' : zp_R → Prop} {G f G' : zp_R} (h : gdS S G) (hG : isG f G G') (hS : ∀ g, S' g ↔ (S g ∨ g = f)) : gdS S' G' := by
  obtain ⟨h1, h2, h3⟩ := h
  obtain ⟨g1, g2, g3, g4⟩ := hG
  refine ⟨fun g hg => ?_, fun H hH => dv_lin g3 (hH f ((hS f).mpr (.inr rfl))) (h2 H (fun g hg => hH g ((hS g).mpr (.inl hg)))), g4⟩
  rcases (hS g).mp hg with q | q
  · exact dv_tr2 (h1 g q) g2
  · rw [q]; exact g1
theorem gd_zero {S S' : zp_R → Prop} {G : zp_R} (h : gdS S G) (hS : ∀ g, S' g ↔ (S g ∨ g = zp_C 0)) : gdS S' G := by
  obtain ⟨h1, h2, h3⟩ := h
  refine ⟨fun g hg => ?_, fun H hH => h2 H (fun g hg => hH g ((hS g).mpr (.inl hg))), h3⟩
  rcases (hS g).mp hg with q | q
  · exact h1 g q
  · rw [q]; exact dv_00 G
theorem gd_same {S S' : zp_R → Prop} {G : zp_R} (h : gdS S G) (hS : ∀ g, S' g ↔ S g) : gdS S' G := ⟨fun g hg => h.1 g ((hS g).mp hg), fun H hH => h.2.1 H (fun g hg => hH g ((hS g).mpr hg)), h.2.2⟩
/-- the determinants of a size -/
def msz (R C : Nat) (M : Nat → Nat → zp_R) (k : Nat) (f : zp_R) : Prop := ∃ r c, r < 2 ^ R ∧ c < 2 ^ C ∧ bts r = k ∧ bts c = k ∧ f = mnq M C r c
def mszU (R C : Nat) (M : Nat → Nat → zp_R) (k a b : Nat) (f : zp_R) : Prop := ∃ r c, (r < a ∨ (r = a ∧ c < b)) ∧ c < 2 ^ C ∧ bts r = k ∧ bts c = k ∧ f = mnq M C r c
section
variable {d : Nat} {h : s_H} {s : Nat → Int} {A : Nat → Nat → Int}
theorem V_divisorOf (hv : RV h s A) {q : Nat} (hq : P9 q = true) (hq9 : q = 1302 ∨ q = 1311) {f R C k : Nat} {M : Nat → Nat → zp_R} (hf : f < 150) (hR : 1 ≤ R ∧ R ≤ 4) (hC : 1 ≤ C ∧ C ≤ 4) (hM : mat A f R C M) (hk : k < 6) (hmn : mins A R C M) : wm sw_P (d + 6) 436 [.index 1290, .index q, vi (f : Int), vi (k : Int)] h (RN h (fun s' A' => s' = s ∧ sm A A' [1302, 1305, 1306, 1307, 1309, 1311] ∧ (∀ j, j = 1302 ∨ j = 1311 → j ≠ q → A' j = A j) ∧ ∃ G, gdS (msz R C M k) G ∧ zp_deg G 176 ∧ A' q = cf G)) := by
  refine wm_in (cd := sw_c436) (nL := 6) (hd := sw_h436) rfl rfl ?_
  have pR := Nat.pow_le_pow_right (show 0 < 2 by decide) hR.2
  have pC := Nat.pow_le_pow_right (show 0 < 2 by decide) hC.2
  have dM : ∀ i j, i < R → j < C → zp_deg (M i j) 11 := fun i j h1 h2 => me_deg (hM.2.2 i j h1 h2)
  have q6 : q ≠ 1306 := by omega
  have q7 : q ≠ 1307 := by omega
  have q8 : q ≠ 1309 := by omega
  have q5 : q ≠ 1305 := by omega
  have qc : [1302, 1305, 1306, 1307, 1309, 1311].contains q = true := by rcases hq9 with w | w <;> rw [w] <;> rfl
  have eR : ∀ {B : Nat → Nat → Int}, sm A B [1302, 1305, 1306, 1307, 1309, 1311] → gi (mk 150 (B 1294)) (f : Int) = (R : Int) := fun mB => by rw [mB 1294 rfl, gi_mkn (by omega)]; exact hM.1
  have eC : ∀ {B : Nat → Nat → Int}, sm A B [1302, 1305, 1306, 1307, 1309, 1311] → gi (mk 150 (B 1295)) (f : Int) = (C : Int) := fun mB => by rw [mB 1295 rfl, gi_mkn (by omega)]; exact hM.2.1
  have outer : ∀ (l r : Nat) (B : Nat → Nat → Int) (h' : s_H) (t5 : Term) (G : zp_R), r + l = 2 ^ R → RV h' s B → FR h h' → sm A B [1302, 1305, 1306, 1307, 1309, 1311] → (∀ j, j = 1302 ∨ j = 1311 → j ≠ q → B j = A j) → gdS (mszU R C M k r 0) G → zp_deg G 176 → B q = cf G → wr sw_P (d + 5) sw_c436 sw_h436 (7, [.index 1290, .index q, vi (f : Int), vi (k : Int), vi (r : Int), t5], [], h', 0, 0) (RN h (fun s' A' => s' = s ∧ sm A A' [1302, 1305, 1306, 1307, 1309, 1311] ∧ (∀ j, j = 1302 ∨ j = 1311 → j ≠ q → A' j = A j) ∧ ∃ G, gdS (msz R C M k) G ∧ zp_deg G 176 ∧ A' q = cf G)) := by
    intro l
    induction l with
    | zero =>
      intro r B h' t5 G hr v rr mB kB hG dG eG
      refine k436_7 v.1 (Ra_rows v) (fun _ => k436_111 ⟨h', s, B, v, rr, ⟨rfl, mB, kB, G, gd_same hG (fun g => ⟨fun w => ?_, fun w => ?_⟩), dG, eG⟩, rfl⟩) (fun w => absurd (by rw [eR mB]; exact (sh_lt (k := R) (i := r) (by omega)).mpr (by omega)) w) (c10 := by rw [mk_len]; omega) (c11 := by omega) (c12 := by unfold In3; omega) (c13 := by unfold In3; omega) (c14 := by rw [eR mB, zs (by omega)]; unfold In3; omega)
      · obtain ⟨a, b, w1, w2, w3, w4, w5⟩ := w
        exact ⟨a, b, .inl (by omega), w2, w3, w4, w5⟩
      · obtain ⟨a, b, w1, w2, w3, w4, w5⟩ := w
        exact ⟨a, b, by omega, w2, w3, w4, w5⟩
    | succ l ih =>
      intro r B h' t5 G hr v rr mB kB hG dG eG
      have r16 : r < 16 := by omega
      refine k436_7 v.1 (Ra_rows v) (fun w => absurd ((sh_lt (k := R) (i := r) (by omega)).mp (by rw [eR mB] at w; exact w)) (by omega)) (fun _ => k436_20 ?_) (c10 := by rw [mk_len]; omega) (c11 := by omega) (c12 := by unfold In3; omega) (c13 := by unfold In3; omega) (c14 := by rw [eR mB, zs (by omega)]; unfold In3; omega)
      have inner : ∀ (p c : Nat) (B : Nat → Nat → Int) (h' : s_H) (G : zp_R), c + p = 2 ^ C → RV h' s B → FR h h' → sm A B [1302, 1305, 1306, 1307, 1309, 1311] → (∀ j, j = 1302 ∨ j = 1311 → j ≠ q → B j = A j) → gdS (mszU R C M k r c) G → zp_deg G 176 → B q = cf G → wr sw_P (d + 5) sw_c436 sw_h436 (23, [.index 1290, .index q, vi (f : Int), vi (k : Int), vi (r : Int), vi (c : Int)], [], h', 0, 0) (RN h (fun s' A' => s' = s ∧ sm A A' [1302, 1305, 1306, 1307, 1309, 1311] ∧ (∀ j, j = 1302 ∨ j = 1311 → j ≠ q → A' j = A j) ∧ ∃ G, gdS (msz R C M k) G ∧ zp_deg G 176 ∧ A' q = cf G)) := by
        intro p
        induction p with
        | zero =>
          intro c B h' G hc v rr mB kB hG dG eG
          refine k436_23 v.1 (Ra_columns v) (fun _ => k436_105 (ih (r + 1) B h' _ G (by omega) v rr mB kB (gd_same hG (fun g => ⟨fun w => ?_, fun w => ?_⟩)) dG eG)) (fun w => absurd (by rw [eC mB]; exact (sh_lt (k := C) (i := c) (by omega)).mpr (by omega)) w) (c10 := by rw [mk_len]; omega) (c11 := by omega) (c12 := by unfold In3; omega) (c13 := by unfold In3; omega) (c14 := by rw [eC mB, zs (by omega)]; unfold In3; omega)
          · obtain ⟨a, b, w1, w2, w3, w4, w5⟩ := w
            exact ⟨a, b, by omega, w2, w3, w4, w5⟩
          · obtain ⟨a, b, w1, w2, w3, w4, w5⟩ := w
            exact ⟨a, b, by omega, w2, w3, w4, w5⟩
        | succ p ih2 =>
          intro c B h' G hc v rr mB kB hG dG eG
          have c16 : c < 16 := by omega
          have bR : bts r ≤ 4 := by unfold bts; omega
          have bC : bts c ≤ 4 := by unfold bts; omega
          refine k436_23 v.1 (Ra_columns v) (fun w => absurd ((sh_lt (k := C) (i := c) (by omega)).mp (by rw [eC mB] at w; exact w)) (by omega)) (fun _ => ?_) (c10 := by rw [mk_len]; omega) (c11 := by omega) (c12 := by unfold In3; omega) (c13 := by unfold In3; omega) (c14 := by rw [eC mB, zs (by omega)]; unfold In3; omega)
          have skip : ¬ (bts r = k ∧ bts c = k) → wr sw_P (d + 5) sw_c436 sw_h436 (99, [.index 1290, .index q, vi (f : Int), vi (k : Int), vi (r : Int), vi (c : Int)], [], h', 0, 0) (RN h (fun s' A' => s' = s ∧ sm A A' [1302, 1305, 1306, 1307, 1309, 1311] ∧ (∀ j, j = 1302 ∨ j = 1311 → j ≠ q → A' j = A j) ∧ ∃ G, gdS (msz R C M k) G ∧ zp_deg G 176 ∧ A' q = cf G)) := fun hn => by
            refine k436_99 (ih2 (c + 1) B h' G (by omega) v rr mB kB (gd_same hG (fun g => ⟨fun w => ?_, fun w => ?_⟩)) dG eG)
            · obtain ⟨a, b, w1, w2, w3, w4, w5⟩ := w
              refine ⟨a, b, ?_, w2, w3, w4, w5⟩
              by_cases e : a = r ∧ b = c
              · rw [e.1] at w3; rw [e.2] at w4; exact absurd ⟨w3, w4⟩ hn
              · omega
            · obtain ⟨a, b, w1, w2, w3, w4, w5⟩ := w
              exact ⟨a, b, by omega, w2, w3, w4, w5⟩
          refine k436_36 (wm_mono (wq_r ?_) (V_bits r16))
          refine k436_41 (fun w => skip (by omega)) (fun w => ?_) (c1 := by unfold In3; omega) (c2 := by unfold In3; omega)
          refine k436_45 (wm_mono (wq_r ?_) (V_bits c16))
          refine k436_50 (fun w2 => ?_) (fun w2 => k436_54 (skip (by omega))) (c1 := by unfold In3; omega) (c2 := by unfold In3; omega)
          have b1 : bts r = k := by omega
          have b2 : bts c = k := by omega
          have hS : ∀ g, mszU R C M k r (c + 1) g ↔ (mszU R C M k r c g ∨ g = mnq M C r c) := fun g => ⟨fun w => by
            obtain ⟨a, b, w1, w2, w3, w4, w5⟩ := w
            by_cases e : a = r ∧ b = c
            · exact .inr (by rw [w5, e.1, e.2])
            · exact .inl ⟨a, b, by omega, w2, w3, w4, w5⟩, fun w => by
            rcases w with w | w
            · obtain ⟨a, b, w1, w2, w3, w4, w5⟩ := w
              exact ⟨a, b, by omega, w2, w3, w4, w5⟩
            · exact ⟨r, c, by omega, by omega, b1, b2, w⟩⟩
          refine k436_57 v.1 (wm_mono (wq_Q (fun h3 v3 r3 => ?_)) (V_loadMinor v (p := 1309) rfl (r := r) (c := c) r16 c16))
          have eM : mi B r c = cf (mnq M C r c) := by
            rw [← hmn r c (by omega) (by omega) (by omega)]
            unfold mi
            rw [mB 1329 rfl]
          rw [eM] at v3
          have dq := deg_le (mnq_deg hR.2 dM (c := c) (show r < 2 ^ R by omega)) (show 41 ≤ 176 by decide)
          have mB3 : sm A (up B 1309 (cf (mnq M C r c))) [1302, 1305, 1306, 1307, 1309, 1311] := sm_up mB _ rfl
          refine k436_69 v3.1 (wm_mono (wq_r ?_) (V_high v3 (c := 1309) rfl (up_at _ _ _)))
          have bh := hi_b (mnq M C r c)
          refine k436_76 (fun w3 => ?_) (fun w3 => k436_79 (k436_99 (ih2 (c + 1) _ h3 G (by omega) v3 (FR_trans rr r3) mB3 (fun j hj hj2 => by rw [up_ne _ _ (by omega)]; exact kB j hj hj2) (gd_zero hG (by rw [hi_0 dq (by omega)] at hS; exact hS)) dG (by rw [up_ne _ _ q8]; exact eG)))) (c1 := by unfold In3; omega)
          refine k436_82 v3.1 (wm_mono (wq_N (fun h4 s4 A4 v4 r4 φ => ?_)) (V_commonOf v3 (p := 1309) (q := q) rfl hq (by decide) q7 q6 (up_at _ _ _) (by rw [up_ne _ _ q8]; exact eG) dq dG))
          obtain ⟨e4, ⟨G', hG', dG', eG'⟩, m4⟩ := φ
          subst e4
          refine k436_91 v4.1 (wm_mono (wq_Q (fun h5 v5 r5 => ?_)) (V_copy v4 (c := q) (e := 1306) hq rfl (Ne.symm q6)))
          refine k436_99 (ih2 (c + 1) _ h5 G' (by omega) v5 (FR_trans rr (FR_trans r3 (FR_trans r4 r5))) (sm_up (sm_tr mB3 (sm_sub m4 rfl)) _ qc) (fun j hj hj2 => ?_) (gd_more hG hG' hS) dG' (by rw [up_at]; exact eG'))
          rw [up_ne _ _ hj2, m4 j (by rcases hj with w | w <;> rw [w] <;> rfl), up_ne _ _ (by omega)]
          exact kB j hj hj2
      exact inner _ 0 B h' G (Nat.zero_add _) v rr mB kB hG dG eG
  refine k436_0 (wm_mono (wq_Q (fun h1 v1 r1 => ?_)) (V_empty hv hq))
  exact k436_4 (outer _ 0 _ h1 _ (zp_C 0) (Nat.zero_add _) v1 r1 (sm_up sm_refl _ qc) (fun j hj hj2 => up_ne _ _ hj2) (gd_no (fun f w => by
    obtain ⟨a, b, w1, _⟩ := w
    omega)) (deg_le (zp_C_deg _) (by decide)) (up_at _ _ _))
end
