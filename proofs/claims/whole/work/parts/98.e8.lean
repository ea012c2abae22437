/-! the reference's powers of a matrix of numbers -/
/-- power e of the numbers N, n rows and columns -/
def npw (n : Nat) (N : Nat → Nat → zp_F) : Nat → Nat → Nat → zp_F
  | 0 => fun i j => if i = j then 1 else 0
  | e + 1 => fun i j => zp_sum (fun k => npw n N e i k * N k j) n
theorem npw_s (n : Nat) (N : Nat → Nat → zp_F) (e i j : Nat) : npw n N (e + 1) i j = zp_sum (fun k => npw n N e i k * N k j) n := rfl
/-- sixteen numbers, whose n rows and columns are Q -/
def n16 (g : Nat → Int) (n : Nat) (Q : Nat → Nat → zp_F) : Prop := (∀ t, t < 16 → 0 ≤ g t ∧ g t < 32003) ∧ ∀ i j, i < n → j < n → g (4 * i + j) = ((Q i j).val : Int)
theorem F_bd (a : zp_F) : 0 ≤ (a.val : Int) ∧ (a.val : Int) < 32003 := ⟨Int.natCast_nonneg _, by have := a.isLt; omega⟩
section
variable {d : Nat} {h : s_H} {s : Nat → Int} {A : Nat → Nat → Int}
theorem V_nextPower (hv : RV h s A) {m n : Nat} (hm : m < 150) (hn : n ≤ 4) {Q N : Nat → Nat → zp_F} (hQ : n16 (A 1330) n Q) (hN : ∀ i j, i < n → j < n → A 1296 (eb m i j) = ((N i j).val : Int)) : wm sw_P (d + 1) 536 [.index 1290, vi (m : Int), vi (n : Int)] h (RN h (fun s' A' => s' = s ∧ sm A A' [1330, 1332] ∧ n16 (A' 1330) n (fun i j => zp_sum (fun k => Q i k * N k j) n))) := by
  refine wm_in (cd := sw_c536) (nL := 8) (hd := sw_h536) rfl rfl ?_
  refine k536_0 ?_
  have outer : ∀ (l i : Nat) (B : Nat → Nat → Int) (h' : s_H) (t4 t5 t6 t7 : Term), i + l = n → RV h' s B → FR h h' → sm A B [1330, 1332] → (∀ t, t < 16 → B 1332 t = A 1330 t) → (∀ t, t < 16 → 0 ≤ B 1330 t ∧ B 1330 t < 32003) → (∀ x y, x < i → y < n → B 1330 (4 * x + y) = ((zp_sum (fun k => Q x k * N k y) n).val : Int)) → wr sw_P d sw_c536 sw_h536 (28, [.index 1290, vi (m : Int), vi (n : Int), vi (i : Int), t4, t5, t6, t7], [], h', 0, 0) (RN h (fun s' A' => s' = s ∧ sm A A' [1330, 1332] ∧ n16 (A' 1330) n (fun i j => zp_sum (fun k => Q i k * N k j) n))) := by
    intro l
    induction l with
    | zero =>
      intro i B h' t4 t5 t6 t7 hi2 v rr mB c1 c2 c3
      refine k536_28 (fun _ => k536_128 ⟨_, s, B, v, rr, ⟨rfl, mB, c2, fun x y hx hy => c3 x y (by omega) hy⟩, rfl⟩) (fun w => absurd (by omega) w) (c1 := by unfold In3; omega) (c2 := by unfold In3; omega)
    | succ l ih =>
      intro i B h' t4 t5 t6 t7 hi2 v rr mB c1 c2 c3
      refine k536_28 (fun w => absurd w (by omega)) (fun _ => k536_33 ?_) (c1 := by unfold In3; omega) (c2 := by unfold In3; omega)
      have inner : ∀ (p j : Nat) (B : Nat → Nat → Int) (h' : s_H) (t5 t6 t7 : Term), j + p = n → RV h' s B → FR h h' → sm A B [1330, 1332] → (∀ t, t < 16 → B 1332 t = A 1330 t) → (∀ t, t < 16 → 0 ≤ B 1330 t ∧ B 1330 t < 32003) → (∀ x y, (x < i ∨ (x = i ∧ y < j)) → y < n → B 1330 (4 * x + y) = ((zp_sum (fun k => Q x k * N k y) n).val : Int)) → wr sw_P d sw_c536 sw_h536 (36, [.index 1290, vi (m : Int), vi (n : Int), vi (i : Int), vi (j : Int), t5, t6, t7], [], h', 0, 0) (RN h (fun s' A' => s' = s ∧ sm A A' [1330, 1332] ∧ n16 (A' 1330) n (fun i j => zp_sum (fun k => Q i k * N k j) n))) := by
        intro p
        induction p with
        | zero =>
          intro j B h' t5 t6 t7 hj v rr mB c1 c2 c3
          exact k536_36 (fun _ => k536_122 (ih (i + 1) B h' _ _ _ _ (by omega) v rr mB c1 c2 (fun x y hx hy => c3 x y (by omega) hy))) (fun w => absurd (by omega) w) (c1 := by unfold In3; omega) (c2 := by unfold In3; omega)
        | succ p ih2 =>
          intro j B h' t5 t6 t7 hj v rr mB c1 c2 c3
          refine k536_36 (fun w => absurd w (by omega)) (fun _ => k536_42 ?_) (c1 := by unfold In3; omega) (c2 := by unfold In3; omega)
          have dot : ∀ (q k : Nat) (t6 : Term), k + q = n → wr sw_P d sw_c536 sw_h536 (48, [.index 1290, vi (m : Int), vi (n : Int), vi (i : Int), vi (j : Int), vl ((zp_sum (fun k => Q i k * N k j) k).val : Int), t6, vi (k : Int)], [], h', 0, 0) (RN h (fun s' A' => s' = s ∧ sm A A' [1330, 1332] ∧ n16 (A' 1330) n (fun i j => zp_sum (fun k => Q i k * N k j) n))) := by
            intro q
            induction q with
            | zero =>
              intro k t6 hk
              have ek : k = n := by omega
              subst ek
              refine k536_48 (fun _ => ?_) (fun w => absurd (by omega) w) (c1 := by unfold In3; omega) (c2 := by unfold In3; omega)
              refine k536_103 v.1 (Ra_powers v) ?_ (c10 := by rw [mk_len]; omega) (c11 := by omega) (c12 := by unfold In3; omega)
              rw [mk_set, show (4 * (i : Int) + (j : Int)).toNat = 4 * i + j by omega]
              refine ih2 (j + 1) _ _ _ _ _ (by omega) (Rp_powers v _) (FR_trans rr (FR_put v (c := 1330) (by decide) (by decide) _)) (fun x hx => ?_) (fun t ht => ?_) (fun t ht => ?_) (fun x y hx hy => ?_)
              · rw [up_ne _ _ (fun e => by rw [e] at hx; exact absurd hx (by decide))]; exact mB x hx
              · rw [up_ne _ _ (by decide)]; exact c1 t ht
              · rw [up_at]
                show 0 ≤ (if t = 4 * i + j then _ else _) ∧ (if t = 4 * i + j then _ else _) < (32003 : Int)
                by_cases q5 : t = 4 * i + j
                · rw [if_pos q5]; exact F_bd _
                · rw [if_neg q5]; exact c2 t ht
              · rw [up_at]
                show (if 4 * x + y = 4 * i + j then _ else _) = _
                by_cases q5 : x = i ∧ y = j
                · rw [if_pos (by omega), q5.1, q5.2]
                · rw [if_neg (by omega)]; exact c3 x y (by omega) hy
            | succ q ih3 =>
              intro k t6 hk
              refine k536_48 (fun w => absurd w (by omega)) (fun _ => ?_) (c1 := by unfold In3; omega) (c2 := by unfold In3; omega)
              have g1 : gi (mk 16 (B 1332)) (4 * (i : Int) + (k : Int)) = ((Q i k).val : Int) := by
                rw [show (4 * (i : Int) + (k : Int)) = ((4 * i + k : Nat) : Int) by omega, gi_mkn (by omega), c1 _ (by omega)]
                exact hQ.2 i k (by omega) (by omega)
              have g2 : gi (mk 26400 (B 1296)) (176 * (m : Int) + 11 * (4 * (k : Int) + (j : Int))) = ((N k j).val : Int) := by
                rw [show (176 * (m : Int) + 11 * (4 * (k : Int) + (j : Int))) = ((eb m k j : Nat) : Int) by unfold eb; omega, gi_mkn (by unfold eb; omega), mB 1296 rfl]
                exact hN k j (by omega) (by omega)
              have b1 := F_bd (Q i k)
              have b2 := F_bd (N k j)
              have b3 := F_bd (zp_sum (fun k => Q i k * N k j) k)
              have b4 := Int.mul_nonneg b1.1 b2.1
              have b5 : ((Q i k).val : Int) * ((N k j).val : Int) ≤ 32003 * 32003 := Int.mul_le_mul (by omega) (by omega) b2.1 (by omega)
              refine k536_54 v.1 (Ra_spare v) (Ra_entries v) ?_ (c10 := by rw [mk_len]; omega) (c11 := by omega) (c12 := by unfold In3; omega) (c18 := by rw [mk_len]; omega) (c19 := by omega) (c20 := by unfold In3; omega) (c21 := by rw [g2]; unfold In3; omega) (c22 := by rw [g1, g2]; unfold In6; omega)
              rw [g1, g2, tm_ab]
              exact ih3 (k + 1) _ (by omega)
          exact dot n 0 _ (by omega)
      exact inner n 0 B h' _ _ _ (by omega) v rr mB c1 c2 (fun x y hx hy => c3 x y (by omega) hy)
  have first : ∀ (l i : Nat) (B : Nat → Nat → Int) (h' : s_H) (t4 t5 t6 t7 : Term), i + l = 16 → RV h' s B → FR h h' → (∀ x, x ≠ 1332 → B x = A x) → (∀ t, t < i → B 1332 t = A 1330 t) → wr sw_P d sw_c536 sw_h536 (2, [.index 1290, vi (m : Int), vi (n : Int), vi (i : Int), t4, t5, t6, t7], [], h', 0, 0) (RN h (fun s' A' => s' = s ∧ sm A A' [1330, 1332] ∧ n16 (A' 1330) n (fun i j => zp_sum (fun k => Q i k * N k j) n))) := by
    intro l
    induction l with
    | zero =>
      intro i B h' t4 t5 t6 t7 hi2 v rr o g
      refine k536_2 (fun _ => k536_26 ?_) (fun w => absurd (by omega) w) (c1 := by unfold In3; omega)
      exact outer n 0 B h' _ _ _ _ (by omega) v rr (fun x hx => o x (fun e => by rw [e] at hx; exact absurd hx (by decide))) (fun t ht => g t (by omega)) (fun t ht => by rw [o 1330 (by decide)]; exact hQ.1 t ht) (fun x y hx _ => absurd hx (by omega))
    | succ l ih =>
      intro i B h' t4 t5 t6 t7 hi2 v rr o g
      refine k536_2 (fun w => absurd w (by omega)) (fun _ => ?_) (c1 := by unfold In3; omega)
      refine k536_8 v.1 (Ra_powers v) (Ra_spare v) ?_ (c12 := by rw [mk_len]; omega) (c13 := by omega) (c14 := by unfold In3; omega) (c18 := by rw [mk_len]; omega)
      rw [mk_set, gi_mkn (by omega), o 1330 (by decide)]
      refine ih (i + 1) _ _ _ _ _ _ (by omega) (Rp_spare v _) (FR_trans rr (FR_put v (c := 1332) (by decide) (by decide) _)) (fun x hx => by rw [up_ne _ _ hx]; exact o x hx) (fun t ht => ?_)
      rw [up_at]
      show (if t = (i : Int).toNat then _ else _) = _
      by_cases q5 : t = i
      · rw [if_pos (by omega), q5]
      · rw [if_neg (by omega)]; exact g t (by omega)
  exact first 16 0 A h _ _ _ _ rfl hv (FR_refl h) (fun _ _ => rfl) (fun t ht => absurd ht (by omega))
end
