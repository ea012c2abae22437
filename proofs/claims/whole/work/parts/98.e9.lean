/-! the reference's isOfNumbers and within in the picture -/
def nums (r c : Nat) (M : Nat → Nat → zp_R) : Prop := r = c ∧ ∀ i j, i < r → j < r → hi (M i j) < 1
/-- the numbers of such a matrix -/
def mN (M : Nat → Nat → zp_R) : Nat → Nat → zp_F := fun i j => (M i j).1 0
/-- a fraction's numbers with the powers of a matrix -/
def witM (a : zp_R) (n : Nat) (M : Nat → Nat → zp_R) : Nat → Nat → zp_R := fun i j => zp_C (zp_sum (fun e => a.1 e * npw n (mN M) e i j) (hi a + 1).toNat)
def witF (cnt : Int) (t u : th) (res : Sum th Int) : Prop := match t, u with
  | .inl (a, b), .inr (.inr (.inl (r, c, M))) => (¬ (b = zp_C 1 ∧ nums r c M) → res = .inr 2) ∧ ((b = zp_C 1 ∧ nums r c M) → (cnt = 150 → res = .inr 3) ∧ (cnt ≠ 150 → res = .inl (th_ma r r (witM a r M))))
  | _, _ => res = .inr 2
def witS (cnt : Int) (T : Nat → th) (x y : Int) (res : Sum th Int) : Prop := (¬ ((0 ≤ x ∧ x < cnt) ∧ 0 ≤ y ∧ y < cnt) → res = .inr 1) ∧ (((0 ≤ x ∧ x < cnt) ∧ 0 ≤ y ∧ y < cnt) → witF cnt (T x.toNat) (T y.toNat) res)
section
variable {d : Nat} {h : s_H} {s : Nat → Int} {A : Nat → Nat → Int}
theorem V_isOfNumbers (hv : RV h s A) {f r c : Nat} {M : Nat → Nat → zp_R} (hf : f < 150) (hr : 1 ≤ r ∧ r ≤ 4) (hc : 1 ≤ c ∧ c ≤ 4) (hM : mat A f r c M) (hb : ∀ t, t < 26400 → 0 ≤ A 1296 t ∧ A 1296 t < 32003) : wm sw_P (d + 3) 482 [.index 1290, vi (f : Int)] h (RA h (fun v s' A' => s' = s ∧ sm A A' [1308] ∧ ((v = vi 1 ∧ nums r c M) ∨ (v = vi 0 ∧ ¬ nums r c M)))) := by
  refine wm_in (cd := sw_c482) (nL := 5) (hd := sw_h482) rfl rfl ?_
  obtain ⟨p3, p4, p5⟩ := hM
  have g1 : gi (mk 150 (A 1294)) (f : Int) = (r : Int) := by rw [gi_mkn (by omega)]; exact p3
  have g3 : gi (mk 150 (A 1295)) (f : Int) = (c : Int) := by rw [gi_mkn (by omega)]; exact p4
  have fin : ∀ (z : Int) (B : Nat → Nat → Int) (h' : s_H) (t3 : Int) (t4 : Term), RV h' s B → FR h h' → sm A B [1308] → ((z = 1 ∧ nums r c M) ∨ (z = 0 ∧ ¬ nums r c M)) → wr sw_P (d + 2) sw_c482 sw_h482 (107, [.index 1290, vi (f : Int), vi z, vi t3, t4], [], h', 0, 0) (RA h (fun v s' A' => s' = s ∧ sm A A' [1308] ∧ ((v = vi 1 ∧ nums r c M) ∨ (v = vi 0 ∧ ¬ nums r c M)))) := fun z B h' t3 t4 v rr mB q => by
    refine k482_107 ⟨vi z, _, s, B, v, rr, ⟨rfl, mB, ?_⟩, rfl⟩ (c1 := by rcases q with ⟨q, _⟩ | ⟨q, _⟩ <;> omega)
    rcases q with ⟨q, w⟩ | ⟨q, w⟩
    · exact .inl ⟨by rw [q], w⟩
    · exact .inr ⟨by rw [q], w⟩
  have outer : ∀ (l i : Nat) (z : Int) (B : Nat → Nat → Int) (h' : s_H) (t4 : Term), i + l = 4 → RV h' s B → FR h h' → sm A B [1308] → ((z = 1 ∧ r = c ∧ ∀ x y, x < i → x < r → y < r → hi (M x y) < 1) ∨ (z = 0 ∧ ¬ nums r c M)) → wr sw_P (d + 2) sw_c482 sw_h482 (23, [.index 1290, vi (f : Int), vi z, vi (i : Int), t4], [], h', 0, 0) (RA h (fun v s' A' => s' = s ∧ sm A A' [1308] ∧ ((v = vi 1 ∧ nums r c M) ∨ (v = vi 0 ∧ ¬ nums r c M)))) := by
    intro l
    induction l with
    | zero =>
      intro i z B h' t4 hi2 v rr mB q
      refine k482_23 (fun _ => fin z B h' _ _ v rr mB ?_) (fun w => absurd (by omega) w) (c1 := by unfold In3; omega)
      rcases q with ⟨q, e, w⟩ | q
      · exact .inl ⟨q, e, fun x y hx hy => w x y (by omega) hx hy⟩
      · exact .inr q
    | succ l ih =>
      intro i z B h' t4 hi2 v rr mB q
      refine k482_23 (fun w => absurd w (by omega)) (fun _ => ?_) (c1 := by unfold In3; omega)
      refine k482_28 (fun w => ?_) (fun w => k482_32 ?_) (c1 := by unfold In3; rcases q with ⟨q, _⟩ | ⟨q, _⟩ <;> omega)
      · refine fin z B h' _ _ v rr mB ?_
        rcases q with ⟨q, _⟩ | q
        · omega
        · exact .inr q
      have inner : ∀ (p j : Nat) (z : Int) (B : Nat → Nat → Int) (h' : s_H), j + p = 4 → RV h' s B → FR h h' → sm A B [1308] → ((z = 1 ∧ r = c ∧ ∀ x y, (x < i ∨ (x = i ∧ y < j)) → x < r → y < r → hi (M x y) < 1) ∨ (z = 0 ∧ ¬ nums r c M)) → wr sw_P (d + 2) sw_c482 sw_h482 (35, [.index 1290, vi (f : Int), vi z, vi (i : Int), vi (j : Int)], [], h', 0, 0) (RA h (fun v s' A' => s' = s ∧ sm A A' [1308] ∧ ((v = vi 1 ∧ nums r c M) ∨ (v = vi 0 ∧ ¬ nums r c M)))) := by
        intro p
        induction p with
        | zero =>
          intro j z B h' hj v rr mB q
          refine k482_35 (fun _ => k482_101 (ih (i + 1) z B h' _ (by omega) v rr mB ?_)) (fun w => absurd (by omega) w) (c1 := by unfold In3; omega)
          rcases q with ⟨q, e, w⟩ | q
          · exact .inl ⟨q, e, fun x y hx hy hy2 => w x y (by omega) hy hy2⟩
          · exact .inr q
        | succ p ih2 =>
          intro j z B h' hj v rr mB q
          have e4 : gi (mk 150 (B 1294)) (f : Int) = (r : Int) := by rw [mB 1294 rfl]; exact g1
          have out : (r ≤ i ∨ r ≤ j) → wr sw_P (d + 2) sw_c482 sw_h482 (101, [.index 1290, vi (f : Int), vi z, vi (i : Int), vi (j : Int)], [], h', 0, 0) (RA h (fun v s' A' => s' = s ∧ sm A A' [1308] ∧ ((v = vi 1 ∧ nums r c M) ∨ (v = vi 0 ∧ ¬ nums r c M)))) := fun hq => by
            refine k482_101 (ih (i + 1) z B h' _ (by omega) v rr mB ?_)
            rcases q with ⟨q, e, w⟩ | q
            · exact .inl ⟨q, e, fun x y hx hy hy2 => w x y (by omega) hy hy2⟩
            · exact .inr q
          refine k482_35 (fun w => absurd w (by omega)) (fun _ => ?_) (c1 := by unfold In3; omega)
          refine k482_41 v.1 (Ra_rows v) (fun w => out (.inl ?_)) (fun w => ?_) (c10 := by rw [mk_len]; omega) (c11 := by omega) (c12 := by unfold In3; omega) (c13 := by unfold In3; omega) (c14 := by rw [e4]; unfold In3; omega)
          · rw [e4] at w; omega
          rw [e4] at w
          refine k482_51 v.1 (Ra_rows v) (fun w => out (.inr ?_)) (fun w2 => ?_) (c10 := by rw [mk_len]; omega) (c11 := by omega) (c12 := by unfold In3; omega) (c13 := by unfold In3; omega) (c14 := by rw [e4]; unfold In3; omega)
          · rw [e4] at w; omega
          rw [e4] at w2
          refine k482_62 v.1 (wm_mono (wq_Q (fun h3 v3 r3 => ?_)) (V_loadEntry v (p := 1308) rfl (m := f) (i := i) (j := j) (by omega) (by omega) (by omega) (fun t ht => by rw [mB 1296 rfl]; have := hb t ht; unfold In3; omega)))
          have mB3 : sm A (up B 1308 (me B f i j)) [1308] := sm_up mB _ rfl
          have nxt : ∀ z' : Int, ((z' = 1 ∧ r = c ∧ ∀ x y, (x < i ∨ (x = i ∧ y < j + 1)) → x < r → y < r → hi (M x y) < 1) ∨ (z' = 0 ∧ ¬ nums r c M)) → wr sw_P (d + 2) sw_c482 sw_h482 (35, [.index 1290, vi (f : Int), vi z', vi (i : Int), vi ((j : Int) + 1)], [], h3, 0, 0) (RA h (fun v s' A' => s' = s ∧ sm A A' [1308] ∧ ((v = vi 1 ∧ nums r c M) ∨ (v = vi 0 ∧ ¬ nums r c M)))) := fun z' w => ih2 (j + 1) z' _ h3 (by omega) v3 (FR_trans rr r3) mB3 w
          refine k482_74 (fun w3 => k482_93 (k482_94 (nxt 0 ?_))) (fun w3 => ?_) (c1 := by unfold In3; rcases q with ⟨q, _⟩ | ⟨q, _⟩ <;> omega)
          · rcases q with ⟨q, _⟩ | q
            · omega
            · exact .inr ⟨rfl, q.2⟩
          rcases q with ⟨q, e, w⟩ | q
          rotate_left
          · omega
          subst e
          have e8 : up B 1308 (me B f i j) 1308 = cf (M i j) := by
            rw [up_at, ← p5 i j (by omega) (by omega)]
            unfold me
            rw [mB 1296 rfl]
          have bh := hi_b (M i j)
          refine k482_78 v3.1 (wm_mono (wq_r ?_) (V_high v3 (c := 1308) rfl e8))
          refine k482_85 (fun w4 => k482_93 (k482_94 (nxt 0 (.inr ⟨rfl, fun w5 => ?_⟩)))) (fun w4 => k482_89 (k482_94 (nxt 1 (.inl ⟨rfl, rfl, fun x y hx hy hy2 => ?_⟩)))) (c1 := by unfold In3; omega)
          · have := w5.2 i j (by omega) (by omega)
            omega
          · by_cases q5 : x = i ∧ y = j
            · rw [q5.1, q5.2]; omega
            · exact w x y (by omega) hy hy2
      exact inner 4 0 z B h' rfl v rr mB (by
        rcases q with ⟨q, e, w⟩ | q
        · exact .inl ⟨q, e, fun x y hx hy hy2 => w x y (by omega) hy hy2⟩
        · exact .inr q)
  refine k482_0 hv.1 (Ra_rows hv) (Ra_columns hv) (fun w => k482_19 (k482_20 (outer 4 0 0 A h _ rfl hv (FR_refl h) sm_refl (.inr ⟨rfl, fun w2 => ?_⟩)))) (fun w => k482_15 (k482_20 (outer 4 0 1 A h _ rfl hv (FR_refl h) sm_refl (.inl ⟨rfl, ?_, fun x y hx => absurd hx (by omega)⟩)))) (c10 := by rw [mk_len]; omega) (c11 := by omega) (c12 := by unfold In3; omega) (c18 := by rw [mk_len]; omega) (c19 := by rw [g1]; unfold In3; omega) (c20 := by rw [g3]; unfold In3; omega)
  · rw [g1, g3] at w
    have := w2.1
    omega
  · rw [g1, g3] at w
    omega
end
