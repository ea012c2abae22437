/-! workCells, its first half: which cells are to be worked -/
theorem clw_0 (A : Nat → Nat → Int) (S : Nat) : ∀ j, clw A 0 S j = S
  | 0 => rfl
  | j + 1 => by
    rw [clw_n (fun w => by rw [Nat.zero_testBit] at w; exact Bool.noConfusion w.1)]
    exact clw_0 A S j
section
variable {d : Nat} {h : s_H} {s : Nat → Int} {A : Nat → Nat → Int}
theorem W_clo (hv : RV h s A) (hB : ShB A) {c : Nat} (hc : c < 16) {Q : s_O → Prop} (K : ∀ (x3 : Int) (t4 t5 t6 : Term), wr sw_P (d + 6) sw_c616 sw_h616 (108, [.index 1290, vi (c : Int), vi (clo A c : Int), vi x3, t4, t5, t6], [], h, 0, 0) Q) (t2 t3 t4 t5 t6 : Term) : wr sw_P (d + 6) sw_c616 sw_h616 (9, [.index 1290, vi (c : Int), t2, t3, t4, t5, t6], [], h, 0, 0) Q := by
  have b31 : ∀ {x : Nat}, x < 2 ^ 16 → x < 2 ^ 31 := fun hx => Nat.lt_trans hx (by decide)
  -- the cells that one cell names
  have inner : ∀ (N S x3 x4 : Nat), N < 2 ^ 16 → S < 2 ^ 16 → (∀ (x5 x6 : Int), wr sw_P (d + 6) sw_c616 sw_h616 (96, [.index 1290, vi (c : Int), vi (clw A N S 16 : Int), vi (x3 : Int), vi (x4 : Int), vi x5, vi x6], [], h, 0, 0) Q) → ∀ (l j : Nat), j + l = 16 → wr sw_P (d + 6) sw_c616 sw_h616 (56, [.index 1290, vi (c : Int), vi (clw A N S j : Int), vi (x3 : Int), vi (x4 : Int), vi (N : Int), vi (j : Int)], [], h, 0, 0) Q := by
    intro N S x3 x4 hN hS next l
    induction l with
    | zero =>
      intro j hj
      have ej : j = 16 := by omega
      subst ej
      exact k616_56 (fun _ => next _ _) (fun w => absurd (by decide) w) (c1 := by decide)
    | succ l ih =>
      intro j hj
      have eb := bit_in (x := N) (k := j) (b31 hN) (by omega)
      have ls := clw_lt A N hS j (by omega)
      have again := ih (j + 1) (by omega)
      refine k616_56 (fun w => absurd w (by omega)) (fun _ => ?_) (c1 := by unfold In3; omega)
      by_cases w : N.testBit j = true
      · rw [if_pos w] at eb
        refine k616_63 (fun x => absurd eb x) (fun _ => ?_) (c1 := by rw [eb]; decide)
        refine k616_74 hv.1 (wm_mono (fun out ⟨z, hz, ho⟩ => wq_r ?_ out ho) (V_isDue hv hB (c := j) (by omega)))
        rcases hz with ⟨ez, du⟩ | ⟨ez, du⟩
        · subst ez
          refine k616_80 (fun x => absurd x (by decide)) (fun _ => k616_83 (k616_90 ?_)) (c1 := by decide)
          rw [zi_shl (by omega), zi_or (b31 ls) (b31 (two_lt (by omega))), ← clw_y ⟨w, du⟩]
          exact again
        · subst ez
          refine k616_80 (fun _ => k616_90 ?_) (fun x => absurd rfl x) (c1 := by decide)
          rw [← clw_n (A := A) (N := N) (S := S) (j := j) (fun x => du x.2)]
          exact again
      · rw [if_neg w] at eb
        refine k616_63 (fun _ => k616_90 ?_) (fun x => absurd (by rw [eb]; decide) x) (c1 := by rw [eb]; decide)
        rw [← clw_n (A := A) (N := N) (S := S) (j := j) (fun x => w x.1)]
        exact again
  -- one lap over the cells
  have lap : ∀ (S x3 : Nat), S < 2 ^ 16 → (∀ (x4 : Int) (t5 t6 : Term), wr sw_P (d + 6) sw_c616 sw_h616 (102, [.index 1290, vi (c : Int), vi (cli A S 16 : Int), vi (x3 : Int), vi x4, t5, t6], [], h, 0, 0) Q) → ∀ (l k : Nat) (t5 t6 : Term), k + l = 16 → wr sw_P (d + 6) sw_c616 sw_h616 (24, [.index 1290, vi (c : Int), vi (cli A S k : Int), vi (x3 : Int), vi (k : Int), t5, t6], [], h, 0, 0) Q := by
    intro S x3 hS next l
    induction l with
    | zero =>
      intro k t5 t6 hk
      have ek : k = 16 := by omega
      subst ek
      exact k616_24 (fun _ => next _ _ _) (fun w => absurd (by decide) w) (c1 := by decide)
    | succ l ih =>
      intro k t5 t6 hk
      have ls := cli_lt A hS k
      have eb := bit_in (x := cli A S k) (k := k) (b31 ls) (by omega)
      have again : ∀ (x5 x6 : Int), wr sw_P (d + 6) sw_c616 sw_h616 (96, [.index 1290, vi (c : Int), vi (cli A S (k + 1) : Int), vi (x3 : Int), vi (k : Int), vi x5, vi x6], [], h, 0, 0) Q := fun x5 x6 => k616_96 (ih (k + 1) _ _ (by omega))
      refine k616_24 (fun w => absurd w (by omega)) (fun _ => ?_) (c1 := by unfold In3; omega)
      by_cases w : (cli A S k).testBit k = true
      · rw [if_pos w] at eb
        refine k616_31 (fun x => absurd eb x) (fun _ => ?_) (c1 := by rw [eb]; decide)
        refine k616_41 hv.1 (wm_mono (wq_r (k616_47 (k616_51 ?_))) (V_named hv hB (c := k) (by omega)))
        refine inner (nms A k) (cli A S k) x3 k (nms_lt A k) ls (fun x5 x6 => ?_) 16 0 (by decide)
        rw [← cli_y w]
        exact again x5 x6
      · rw [if_neg w] at eb
        refine k616_31 (fun _ => k616_50 (k616_51 ?_)) (fun x => absurd (by rw [eb]; decide) x) (c1 := by rw [eb]; decide)
        refine inner 0 (cli A S k) x3 k (by decide) ls (fun x5 x6 => ?_) 16 0 (by decide)
        rw [clw_0, ← cli_n w]
        exact again x5 x6
  -- sixteen laps
  have laps : ∀ (l p : Nat) (t4 t5 t6 : Term), p + l = 16 → wr sw_P (d + 6) sw_c616 sw_h616 (15, [.index 1290, vi (c : Int), vi (itr (fun x => cli A x 16) (2 ^ c) p : Int), vi (p : Int), t4, t5, t6], [], h, 0, 0) Q := by
    intro l
    induction l with
    | zero =>
      intro p t4 t5 t6 hp2
      have ep : p = 16 := by omega
      subst ep
      exact k616_15 (fun _ => K _ _ _ _) (fun w => absurd (by decide) w) (c1 := by decide)
    | succ l ih =>
      intro p t4 t5 t6 hp2
      have ls := itr_lt (f := fun x => cli A x 16) (fun _ hx => cli_lt A hx 16) (two_lt hc) p
      refine k616_15 (fun w => absurd w (by omega)) (fun _ => k616_21 ?_) (c1 := by unfold In3; omega)
      exact lap _ p ls (fun x4 t5 t6 => k616_102 (ih (p + 1) _ _ _ (by omega))) 16 0 _ _ (by decide)
  refine k616_9 ?_
  rw [zi_shl (by omega)]
  exact laps 16 0 _ _ _ (by decide)
end
