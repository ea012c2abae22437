/-! 557: FormulaWorksModel.power(II)I -/
theorem k557_0 {P : s_P} {d : Nat} {Q : s_O → Prop} {h : s_H} {kc ks : Nat} {r0 : Term} {x1 x2 : Int} {q2 : Nat} {f3 : List Term} (g4 : s_get h q2 = some (1, 11, f3)) (k : wm P d 492 [.index q2, vi x1] h (wq P d sw_c557 sw_h557 6 [.index q2, vi x1, vi x2] [.index q2] kc ks Q)) (e_q2 : r0 = .index q2 := by first | rfl | assumption) (y1 : s_ty r0 = 3 := by first | rfl | assumption)  : wr P d sw_c557 sw_h557 (0, [r0, vi x1, vi x2], [], h, kc, ks) Q := by
  refine w_ld rfl rfl (Or.inr (Or.inr ⟨by decide, y1⟩)) ?_
  refine w_ld rfl rfl (Or.inr (Or.inr ⟨by decide, y1⟩)) ?_
  refine w_ld rfl rfl (Or.inl ⟨by decide, rfl⟩) ?_
  subst e_q2
  exact w_cv rfl [.index q2, vi x1] [.index q2] rfl rfl (s_wt_4 rfl) rfl g4 k

theorem k557_6 {P : s_P} {d : Nat} {Q : s_O → Prop} {h : s_H} {kc ks : Nat} {r0 : Term} {x1 x2 : Int} {s0 : Term} {s1 : Int}  (k1 : s1 ≠ 0 → wr P d sw_c557 sw_h557 (13, [r0, vi x1, vi x2], [s0], h, kc, ks) Q) (k2 : ¬ s1 ≠ 0 → wr P d sw_c557 sw_h557 (9, [r0, vi x1, vi x2], [s0], h, kc, ks) Q)  (c1 : In3 s1 := by first | omega | assumption | (simp only [mk_len, List.length_map]; omega) | decide) : wr P d sw_c557 sw_h557 (6, [r0, vi x1, vi x2], [vi s1, s0], h, kc, ks) Q := by
  exact w_if1 rfl c1 k1 k2

theorem k557_9 {P : s_P} {d : Nat} {Q : s_O → Prop} {h : s_H} {kc ks : Nat} {r0 : Term} {x1 x2 : Int} {s0 : Term}  (k : wr P d sw_c557 sw_h557 (39, [r0, vi x1, vi x2], [vi 1, s0], h, kc, ks) Q)   : wr P d sw_c557 sw_h557 (9, [r0, vi x1, vi x2], [s0], h, kc, ks) Q := by
  refine w_c32 rfl (by decide) 1 (by decide) ?_
  refine w_goto rfl ?_
  exact k

theorem k557_13 {P : s_P} {d : Nat} {Q : s_O → Prop} {h : s_H} {kc ks : Nat} {r0 : Term} {x1 x2 : Int} {s0 : Term} {q2 : Nat} {f3 : List Term} (g4 : s_get h q2 = some (1, 11, f3)) (k : wm P d 469 [.index q2, vi x1, vi 0] h (wq P d sw_c557 sw_h557 19 [.index q2, vi x1, vi x2] [s0] kc ks Q)) (e_q2 : r0 = .index q2 := by first | rfl | assumption) (y1 : s_ty r0 = 3 := by first | rfl | assumption)  : wr P d sw_c557 sw_h557 (13, [r0, vi x1, vi x2], [s0], h, kc, ks) Q := by
  refine w_ld rfl rfl (Or.inr (Or.inr ⟨by decide, y1⟩)) ?_
  refine w_ld rfl rfl (Or.inl ⟨by decide, rfl⟩) ?_
  refine w_c32 rfl (by decide) 0 (by decide) ?_
  subst e_q2
  exact w_cv rfl [.index q2, vi x1, vi 0] [s0] rfl rfl (s_wt_4 rfl) rfl g4 k

theorem k557_19 {P : s_P} {d : Nat} {Q : s_O → Prop} {h : s_H} {kc ks : Nat} {r0 : Term} {x1 x2 : Int} {s0 : Term} {s1 : Int}  (k1 : s1 = 0 → wr P d sw_c557 sw_h557 (34, [r0, vi x1, vi x2], [s0], h, kc, ks) Q) (k2 : ¬ s1 = 0 → wr P d sw_c557 sw_h557 (22, [r0, vi x1, vi x2], [s0], h, kc, ks) Q)  (c1 : In3 s1 := by first | omega | assumption | (simp only [mk_len, List.length_map]; omega) | decide) : wr P d sw_c557 sw_h557 (19, [r0, vi x1, vi x2], [vi s1, s0], h, kc, ks) Q := by
  exact w_if1 rfl c1 k1 k2

theorem k557_22 {P : s_P} {d : Nat} {Q : s_O → Prop} {h : s_H} {kc ks : Nat} {r0 : Term} {x1 x2 : Int} {s0 : Term}  (k : wm P d 464 [vl x2, vl 0, vl 99] h (wq P d sw_c557 sw_h557 31 [r0, vi x1, vi x2] [s0] kc ks Q))  (c1 : In3 x2 := by first | omega | assumption | (simp only [mk_len, List.length_map]; omega) | decide) : wr P d sw_c557 sw_h557 (22, [r0, vi x1, vi x2], [s0], h, kc, ks) Q := by
  refine w_ld rfl rfl (Or.inl ⟨by decide, rfl⟩) ?_
  refine w_i2l rfl c1 ?_
  refine w_c64 rfl (by decide) 0 (by decide) ?_
  refine w_c64 rfl (by decide) 99 (by decide) ?_
  exact w_cs rfl [vl x2, vl 0, vl 99] [s0] rfl rfl (s_wt_4 rfl) k

theorem k557_31 {P : s_P} {d : Nat} {Q : s_O → Prop} {h : s_H} {kc ks : Nat} {r0 : Term} {x1 x2 : Int} {s0 : Term} {s1 : Int}  (k1 : s1 ≠ 0 → wr P d sw_c557 sw_h557 (38, [r0, vi x1, vi x2], [s0], h, kc, ks) Q) (k2 : ¬ s1 ≠ 0 → wr P d sw_c557 sw_h557 (34, [r0, vi x1, vi x2], [s0], h, kc, ks) Q)  (c1 : In3 s1 := by first | omega | assumption | (simp only [mk_len, List.length_map]; omega) | decide) : wr P d sw_c557 sw_h557 (31, [r0, vi x1, vi x2], [vi s1, s0], h, kc, ks) Q := by
  exact w_if1 rfl c1 k1 k2

theorem k557_34 {P : s_P} {d : Nat} {Q : s_O → Prop} {h : s_H} {kc ks : Nat} {r0 : Term} {x1 x2 : Int} {s0 : Term}  (k : wr P d sw_c557 sw_h557 (39, [r0, vi x1, vi x2], [vi 2, s0], h, kc, ks) Q)   : wr P d sw_c557 sw_h557 (34, [r0, vi x1, vi x2], [s0], h, kc, ks) Q := by
  refine w_c32 rfl (by decide) 2 (by decide) ?_
  refine w_goto rfl ?_
  exact k

theorem k557_38 {P : s_P} {d : Nat} {Q : s_O → Prop} {h : s_H} {kc ks : Nat} {r0 : Term} {x1 x2 : Int} {s0 : Term}  (k : wr P d sw_c557 sw_h557 (39, [r0, vi x1, vi x2], [vi 0, s0], h, kc, ks) Q)   : wr P d sw_c557 sw_h557 (38, [r0, vi x1, vi x2], [s0], h, kc, ks) Q := by
  refine w_c32 rfl (by decide) 0 (by decide) ?_
  exact k

theorem k557_39 {P : s_P} {d : Nat} {Q : s_O → Prop} {h : s_H} {kc ks : Nat} {r0 : Term} {x1 x2 : Int} {s0 : Term} {s1 : Int} {q1 : Nat} {f2 : List Term} {q7 : Nat} {f8 : List Term} {z10 : Int} (g3 : s_get h q1 = some (1, 11, f2)) (g9 : s_get (hp h q1 (1, 11, f2.set 0 (vi s1))) q7 = some (1, 11, f8)) (k1 : z10 ≤ 0 → wr P d sw_c557 sw_h557 (51, [.index q7, vi x1, vi x2], [], (hp h q1 (1, 11, f2.set 0 (vi s1))), kc, ks) Q) (k2 : ¬ z10 ≤ 0 → wr P d sw_c557 sw_h557 (49, [.index q7, vi x1, vi x2], [], (hp h q1 (1, 11, f2.set 0 (vi s1))), kc, ks) Q) (e_q1 : s0 = .index q1 := by first | rfl | assumption) (e_q7 : r0 = .index q7 := by first | rfl | assumption) (l4 : 0 < f2.length := by first | exact Nat.le_of_ble_eq_true rfl | omega | assumption) (y6 : s_ty r0 = 3 := by first | rfl | assumption) (n11 : s_nth f8 0 = some (vi z10) := by first | rfl | assumption) (c5 : 0 < q1 := by first | omega | assumption | (simp only [mk_len, List.length_map]; omega) | decide) (c12 : In3 z10 := by first | omega | assumption | (simp only [mk_len, List.length_map]; omega) | decide) : wr P d sw_c557 sw_h557 (39, [r0, vi x1, vi x2], [vi s1, s0], h, kc, ks) Q := by
  subst e_q1
  refine w_putf rfl g3 (Nat.ble_eq_true_of_le c5) rfl (Nat.ble_eq_true_of_le l4) ?_
  refine w_ld rfl rfl (Or.inr (Or.inr ⟨by decide, y6⟩)) ?_
  subst e_q7
  refine w_getf rfl g9 n11 ?_
  exact w_if1 rfl c12 k1 k2

theorem k557_49 {P : s_P} {d : Nat} {Q : s_O → Prop} {h : s_H} {kc ks : Nat} {r0 : Term} {x1 x2 : Int}  (k : Q (.inl (some (vi 0)), h, kc, ks))   : wr P d sw_c557 sw_h557 (49, [r0, vi x1, vi x2], [], h, kc, ks) Q := by
  refine w_c32 rfl (by decide) 0 (by decide) ?_
  exact w_iret rfl k

theorem k557_51 {P : s_P} {d : Nat} {Q : s_O → Prop} {h : s_H} {kc ks : Nat} {r0 : Term} {x1 x2 : Int} {q2 : Nat} {f3 : List Term} {v5 v7 : Term} (g4 : s_get h q2 = some (1, 11, f3)) (k : wm P d 505 [.index q2, v5, v7, vi x1] h (wq P d sw_c557 sw_h557 64 [.index q2, vi x1, vi x2] [] kc ks Q)) (e_q2 : r0 = .index q2 := by first | rfl | assumption) (y1 : s_ty r0 = 3 := by first | rfl | assumption) (n6 : s_nth f3 10 = some v5 := by first | rfl | assumption) (n8 : s_nth f3 11 = some v7 := by first | rfl | assumption)  : wr P d sw_c557 sw_h557 (51, [r0, vi x1, vi x2], [], h, kc, ks) Q := by
  refine w_ld rfl rfl (Or.inr (Or.inr ⟨by decide, y1⟩)) ?_
  refine w_ld rfl rfl (Or.inr (Or.inr ⟨by decide, y1⟩)) ?_
  subst e_q2
  refine w_getf rfl g4 n6 ?_
  refine w_ld rfl rfl (Or.inr (Or.inr ⟨by decide, rfl⟩)) ?_
  refine w_getf rfl g4 n8 ?_
  refine w_ld rfl rfl (Or.inl ⟨by decide, rfl⟩) ?_
  exact w_cv rfl [.index q2, v5, v7, vi x1] [] rfl rfl (s_wt_4 rfl) rfl g4 k

theorem k557_64 {P : s_P} {d : Nat} {Q : s_O → Prop} {h : s_H} {kc ks : Nat} {r0 : Term} {x1 x2 : Int} {q2 : Nat} {f3 : List Term} (g4 : s_get h q2 = some (1, 11, f3)) (k : wm P d 484 [.index q2, vi x2] h (wq P d sw_c557 sw_h557 69 [.index q2, vi x1, vi x2] [] kc ks Q)) (e_q2 : r0 = .index q2 := by first | rfl | assumption) (y1 : s_ty r0 = 3 := by first | rfl | assumption)  : wr P d sw_c557 sw_h557 (64, [r0, vi x1, vi x2], [], h, kc, ks) Q := by
  refine w_ld rfl rfl (Or.inr (Or.inr ⟨by decide, y1⟩)) ?_
  refine w_ld rfl rfl (Or.inl ⟨by decide, rfl⟩) ?_
  subst e_q2
  exact w_cv rfl [.index q2, vi x2] [] rfl rfl (s_wt_4 rfl) rfl g4 k

theorem k557_69 {P : s_P} {d : Nat} {Q : s_O → Prop} {h : s_H} {kc ks : Nat} {r0 : Term} {x1 x2 s0 : Int}  (k1 : s0 ≠ 0 → wr P d sw_c557 sw_h557 (78, [r0, vi x1, vi x2], [], h, kc, ks) Q) (k2 : ¬ s0 ≠ 0 → wr P d sw_c557 sw_h557 (72, [r0, vi x1, vi x2], [], h, kc, ks) Q)  (c1 : In3 s0 := by first | omega | assumption | (simp only [mk_len, List.length_map]; omega) | decide) : wr P d sw_c557 sw_h557 (69, [r0, vi x1, vi x2], [vi s0], h, kc, ks) Q := by
  exact w_if1 rfl c1 k1 k2

theorem k557_72 {P : s_P} {d : Nat} {Q : s_O → Prop} {h : s_H} {kc ks : Nat} {r0 : Term} {x1 x2 : Int} {q2 : Nat} {f3 : List Term} (g4 : s_get h q2 = some (1, 11, f3)) (k : wm P d 570 [.index q2, vi 3] h (wq P d sw_c557 sw_h557 77 [.index q2, vi x1, vi x2] [] kc ks Q)) (e_q2 : r0 = .index q2 := by first | rfl | assumption) (y1 : s_ty r0 = 3 := by first | rfl | assumption)  : wr P d sw_c557 sw_h557 (72, [r0, vi x1, vi x2], [], h, kc, ks) Q := by
  refine w_ld rfl rfl (Or.inr (Or.inr ⟨by decide, y1⟩)) ?_
  refine w_c32 rfl (by decide) 3 (by decide) ?_
  subst e_q2
  exact w_cv rfl [.index q2, vi 3] [] rfl rfl (s_wt_4 rfl) rfl g4 k

theorem k557_77 {P : s_P} {d : Nat} {Q : s_O → Prop} {h : s_H} {kc ks : Nat} {r0 : Term} {x1 x2 s0 : Int}  (k : Q (.inl (some (vi s0)), h, kc, ks))   : wr P d sw_c557 sw_h557 (77, [r0, vi x1, vi x2], [vi s0], h, kc, ks) Q := by
  exact w_iret rfl k

theorem k557_78 {P : s_P} {d : Nat} {Q : s_O → Prop} {h : s_H} {kc ks : Nat} {r0 : Term} {x1 x2 : Int} {q2 : Nat} {f3 : List Term} (g4 : s_get h q2 = some (1, 11, f3)) (k : wm P d 495 [.index q2, vi 3] h (wq P d sw_c557 sw_h557 83 [.index q2, vi x1, vi x2] [] kc ks Q)) (e_q2 : r0 = .index q2 := by first | rfl | assumption) (y1 : s_ty r0 = 3 := by first | rfl | assumption)  : wr P d sw_c557 sw_h557 (78, [r0, vi x1, vi x2], [], h, kc, ks) Q := by
  refine w_ld rfl rfl (Or.inr (Or.inr ⟨by decide, y1⟩)) ?_
  refine w_c32 rfl (by decide) 3 (by decide) ?_
  subst e_q2
  exact w_cv rfl [.index q2, vi 3] [] rfl rfl (s_wt_4 rfl) rfl g4 k

theorem k557_83 {P : s_P} {d : Nat} {Q : s_O → Prop} {h : s_H} {kc ks : Nat} {r0 : Term} {x1 x2 s0 : Int}  (k : Q (.inl (some (vi s0)), h, kc, ks))   : wr P d sw_c557 sw_h557 (83, [r0, vi x1, vi x2], [vi s0], h, kc, ks) Q := by
  exact w_iret rfl k

/-! 558: FormulaWorksModel.print(I)V -/
theorem k558_0 {P : s_P} {d : Nat} {Q : s_O → Prop} {h : s_H} {kc ks : Nat} {r0 : Term} {x1 : Int} {q2 : Nat} {f3 : List Term} {z5 : Int} (g4 : s_get h q2 = some (1, 11, f3)) (k1 : 1200 ≤ z5 → wr P d sw_c558 sw_h558 (20, [.index q2, vi x1], [], h, kc, ks) Q) (k2 : ¬ 1200 ≤ z5 → wr P d sw_c558 sw_h558 (10, [.index q2, vi x1], [], h, kc, ks) Q) (e_q2 : r0 = .index q2 := by first | rfl | assumption) (y1 : s_ty r0 = 3 := by first | rfl | assumption) (n6 : s_nth f3 77 = some (vi z5) := by first | rfl | assumption) (c7 : In3 z5 := by first | omega | assumption | (simp only [mk_len, List.length_map]; omega) | decide) : wr P d sw_c558 sw_h558 (0, [r0, vi x1], [], h, kc, ks) Q := by
  refine w_ld rfl rfl (Or.inr (Or.inr ⟨by decide, y1⟩)) ?_
  subst e_q2
  refine w_getf rfl g4 n6 ?_
  refine w_c32 rfl (by decide) 1200 (by decide) ?_
  exact w_if2 rfl c7 (by decide) k1 k2

theorem k558_10 {P : s_P} {d : Nat} {Q : s_O → Prop} {h : s_H} {kc ks : Nat} {r0 : Term} {x1 : Int} {q2 : Nat} {f3 : List Term} {v5 : Term} {z7 : Int} {q9 : Nat} {a10 : List Int} (g4 : s_get h q2 = some (1, 11, f3)) (g11 : s_get h q9 = some (0, 0, a10.map vi)) (k : wr P d sw_c558 sw_h558 (20, [.index q2, vi x1], [], (hp h q9 (0, 0, (a10.set (Int.toNat (z7)) x1).map vi)), kc, ks) Q) (e_q2 : r0 = .index q2 := by first | rfl | assumption) (e_q9 : v5 = .index q9 := by first | rfl | assumption) (y1 : s_ty r0 = 3 := by first | rfl | assumption) (n6 : s_nth f3 78 = some v5 := by first | rfl | assumption) (n8 : s_nth f3 77 = some (vi z7) := by first | rfl | assumption) (c12 : z7 < a10.length := by first | omega | assumption | (simp only [mk_len, List.length_map]; omega) | decide) (c13 : 0 ≤ z7 := by first | omega | assumption | (simp only [mk_len, List.length_map]; omega) | decide) (c14 : In3 z7 := by first | omega | assumption | (simp only [mk_len, List.length_map]; omega) | decide) (c15 : 0 < q9 := by first | omega | assumption | (simp only [mk_len, List.length_map]; omega) | decide) : wr P d sw_c558 sw_h558 (10, [r0, vi x1], [], h, kc, ks) Q := by
  refine w_ld rfl rfl (Or.inr (Or.inr ⟨by decide, y1⟩)) ?_
  subst e_q2
  refine w_getf rfl g4 n6 ?_
  refine w_ld rfl rfl (Or.inr (Or.inr ⟨by decide, rfl⟩)) ?_
  refine w_getf rfl g4 n8 ?_
  refine w_ld rfl rfl (Or.inl ⟨by decide, rfl⟩) ?_
  subst e_q9
  refine w_iast rfl g11 (Nat.ble_eq_true_of_le c15) c14 c13 c12 ?_
  exact k

theorem k558_20 {P : s_P} {d : Nat} {Q : s_O → Prop} {h : s_H} {kc ks : Nat} {r0 : Term} {x1 : Int} {q2 : Nat} {f3 : List Term} {z5 : Int} (g4 : s_get h q2 = some (1, 11, f3)) (k : Q (.inl none, (hp h q2 (1, 11, f3.set 77 (vi (z5 + 1)))), kc, ks)) (e_q2 : r0 = .index q2 := by first | rfl | assumption) (y1 : s_ty r0 = 3 := by first | rfl | assumption) (n6 : s_nth f3 77 = some (vi z5) := by first | rfl | assumption) (l7 : 77 < f3.length := by first | exact Nat.le_of_ble_eq_true rfl | omega | assumption) (c8 : 0 < q2 := by first | omega | assumption | (simp only [mk_len, List.length_map]; omega) | decide) : wr P d sw_c558 sw_h558 (20, [r0, vi x1], [], h, kc, ks) Q := by
  refine w_ld rfl rfl (Or.inr (Or.inr ⟨by decide, y1⟩)) ?_
  refine w_dup rfl (by rw [y1]; rfl) ?_
  subst e_q2
  refine w_getf rfl g4 n6 ?_
  refine w_c32 rfl (by decide) 1 (by decide) ?_
  refine w_iadd rfl ?_
  refine w_putf rfl g4 (Nat.ble_eq_true_of_le c8) rfl (Nat.ble_eq_true_of_le l7) ?_
  exact w_ret rfl k

/-! 559: FormulaWorksModel.printAll()V -/
theorem k559_0 {P : s_P} {d : Nat} {Q : s_O → Prop} {h : s_H} {kc ks : Nat} {r0 t1 : Term} {q2 : Nat} {f3 f7 : List Term} {v9 : Term} (g4 : s_get h q2 = some (1, 11, f3)) (g8 : s_get (hp h q2 (1, 11, f3.set 77 (vi 0))) q2 = some (1, 11, f7)) (k : wm P d 483 [v9] (hp h q2 (1, 11, f3.set 77 (vi 0))) (wq P d sw_c559 sw_h559 12 [.index q2, t1] [] kc ks Q)) (e_q2 : r0 = .index q2 := by first | rfl | assumption) (y1 : s_ty r0 = 3 := by first | rfl | assumption) (l5 : 77 < f3.length := by first | exact Nat.le_of_ble_eq_true rfl | omega | assumption) (n10 : s_nth f7 11 = some v9 := by first | rfl | assumption) (c6 : 0 < q2 := by first | omega | assumption | (simp only [mk_len, List.length_map]; omega) | decide) : wr P d sw_c559 sw_h559 (0, [r0, t1], [], h, kc, ks) Q := by
  refine w_ld rfl rfl (Or.inr (Or.inr ⟨by decide, y1⟩)) ?_
  refine w_c32 rfl (by decide) 0 (by decide) ?_
  subst e_q2
  refine w_putf rfl g4 (Nat.ble_eq_true_of_le c6) rfl (Nat.ble_eq_true_of_le l5) ?_
  refine w_ld rfl rfl (Or.inr (Or.inr ⟨by decide, rfl⟩)) ?_
  refine w_getf rfl g8 n10 ?_
  exact w_cs rfl [v9] [] rfl rfl (s_wt_4 rfl) k

theorem k559_12 {P : s_P} {d : Nat} {Q : s_O → Prop} {h : s_H} {kc ks : Nat} {r0 t1 : Term} {s0 : Int}  (k1 : s0 ≠ 0 → wr P d sw_c559 sw_h559 (23, [r0, vi s0], [], h, kc, ks) Q) (k2 : ¬ s0 ≠ 0 → wr P d sw_c559 sw_h559 (17, [r0, vi s0], [], h, kc, ks) Q) (y1 : s_ty r0 = 3 := by first | rfl | assumption) (c2 : In3 s0 := by first | omega | assumption | (simp only [mk_len, List.length_map]; omega) | decide) : wr P d sw_c559 sw_h559 (12, [r0, t1], [vi s0], h, kc, ks) Q := by
  refine w_st (ls' := [r0, vi s0]) rfl (Or.inl ⟨by decide, rfl⟩) (s_stK_r (pre := []) y1) ?_
  refine w_ld rfl rfl (Or.inl ⟨by decide, rfl⟩) ?_
  exact w_if1 rfl c2 k1 k2

theorem k559_17 {P : s_P} {d : Nat} {Q : s_O → Prop} {h : s_H} {kc ks : Nat} {r0 : Term} {x1 : Int} {q2 : Nat} {f3 : List Term} (g4 : s_get h q2 = some (1, 11, f3)) (k : wm P d 558 [.index q2, vi 40] h (wq P d sw_c559 sw_h559 23 [.index q2, vi x1] [] kc ks Q)) (e_q2 : r0 = .index q2 := by first | rfl | assumption) (y1 : s_ty r0 = 3 := by first | rfl | assumption)  : wr P d sw_c559 sw_h559 (17, [r0, vi x1], [], h, kc, ks) Q := by
  refine w_ld rfl rfl (Or.inr (Or.inr ⟨by decide, y1⟩)) ?_
  refine w_c32 rfl (by decide) 40 (by decide) ?_
  subst e_q2
  exact w_cv rfl [.index q2, vi 40] [] rfl rfl (s_wt_4 rfl) rfl g4 k

theorem k559_23 {P : s_P} {d : Nat} {Q : s_O → Prop} {h : s_H} {kc ks : Nat} {r0 : Term} {x1 : Int} {q2 : Nat} {f3 : List Term} {v5 : Term} (g4 : s_get h q2 = some (1, 11, f3)) (k : wm P d 561 [.index q2, v5] h (wq P d sw_c559 sw_h559 31 [.index q2, vi x1] [] kc ks Q)) (e_q2 : r0 = .index q2 := by first | rfl | assumption) (y1 : s_ty r0 = 3 := by first | rfl | assumption) (n6 : s_nth f3 10 = some v5 := by first | rfl | assumption)  : wr P d sw_c559 sw_h559 (23, [r0, vi x1], [], h, kc, ks) Q := by
  refine w_ld rfl rfl (Or.inr (Or.inr ⟨by decide, y1⟩)) ?_
  refine w_ld rfl rfl (Or.inr (Or.inr ⟨by decide, y1⟩)) ?_
  subst e_q2
  refine w_getf rfl g4 n6 ?_
  exact w_cv rfl [.index q2, v5] [] rfl rfl (s_wt_4 rfl) rfl g4 k

theorem k559_31 {P : s_P} {d : Nat} {Q : s_O → Prop} {h : s_H} {kc ks : Nat} {r0 : Term} {x1 : Int}  (k1 : x1 = 0 → wr P d sw_c559 sw_h559 (36, [r0, vi x1], [], h, kc, ks) Q) (k2 : ¬ x1 = 0 → wr P d sw_c559 sw_h559 (35, [r0, vi x1], [], h, kc, ks) Q)  (c1 : In3 x1 := by first | omega | assumption | (simp only [mk_len, List.length_map]; omega) | decide) : wr P d sw_c559 sw_h559 (31, [r0, vi x1], [], h, kc, ks) Q := by
  refine w_ld rfl rfl (Or.inl ⟨by decide, rfl⟩) ?_
  exact w_if1 rfl c1 k1 k2

theorem k559_35 {P : s_P} {d : Nat} {Q : s_O → Prop} {h : s_H} {kc ks : Nat} {r0 : Term} {x1 : Int}  (k : Q (.inl none, h, kc, ks))   : wr P d sw_c559 sw_h559 (35, [r0, vi x1], [], h, kc, ks) Q := by
  exact w_ret rfl k

theorem k559_36 {P : s_P} {d : Nat} {Q : s_O → Prop} {h : s_H} {kc ks : Nat} {r0 : Term} {x1 : Int} {q2 : Nat} {f3 : List Term} (g4 : s_get h q2 = some (1, 11, f3)) (k : wm P d 558 [.index q2, vi 41] h (wq P d sw_c559 sw_h559 42 [.index q2, vi x1] [] kc ks Q)) (e_q2 : r0 = .index q2 := by first | rfl | assumption) (y1 : s_ty r0 = 3 := by first | rfl | assumption)  : wr P d sw_c559 sw_h559 (36, [r0, vi x1], [], h, kc, ks) Q := by
  refine w_ld rfl rfl (Or.inr (Or.inr ⟨by decide, y1⟩)) ?_
  refine w_c32 rfl (by decide) 41 (by decide) ?_
  subst e_q2
  exact w_cv rfl [.index q2, vi 41] [] rfl rfl (s_wt_4 rfl) rfl g4 k

theorem k559_42 {P : s_P} {d : Nat} {Q : s_O → Prop} {h : s_H} {kc ks : Nat} {r0 : Term} {x1 : Int} {q2 : Nat} {f3 : List Term} (g4 : s_get h q2 = some (1, 11, f3)) (k : wm P d 558 [.index q2, vi 47] h (wq P d sw_c559 sw_h559 48 [.index q2, vi x1] [] kc ks Q)) (e_q2 : r0 = .index q2 := by first | rfl | assumption) (y1 : s_ty r0 = 3 := by first | rfl | assumption)  : wr P d sw_c559 sw_h559 (42, [r0, vi x1], [], h, kc, ks) Q := by
  refine w_ld rfl rfl (Or.inr (Or.inr ⟨by decide, y1⟩)) ?_
  refine w_c32 rfl (by decide) 47 (by decide) ?_
  subst e_q2
  exact w_cv rfl [.index q2, vi 47] [] rfl rfl (s_wt_4 rfl) rfl g4 k

theorem k559_48 {P : s_P} {d : Nat} {Q : s_O → Prop} {h : s_H} {kc ks : Nat} {r0 : Term} {x1 : Int} {q2 : Nat} {f3 : List Term} (g4 : s_get h q2 = some (1, 11, f3)) (k : wm P d 558 [.index q2, vi 40] h (wq P d sw_c559 sw_h559 54 [.index q2, vi x1] [] kc ks Q)) (e_q2 : r0 = .index q2 := by first | rfl | assumption) (y1 : s_ty r0 = 3 := by first | rfl | assumption)  : wr P d sw_c559 sw_h559 (48, [r0, vi x1], [], h, kc, ks) Q := by
  refine w_ld rfl rfl (Or.inr (Or.inr ⟨by decide, y1⟩)) ?_
  refine w_c32 rfl (by decide) 40 (by decide) ?_
  subst e_q2
  exact w_cv rfl [.index q2, vi 40] [] rfl rfl (s_wt_4 rfl) rfl g4 k

theorem k559_54 {P : s_P} {d : Nat} {Q : s_O → Prop} {h : s_H} {kc ks : Nat} {r0 : Term} {x1 : Int} {q2 : Nat} {f3 : List Term} {v5 : Term} (g4 : s_get h q2 = some (1, 11, f3)) (k : wm P d 561 [.index q2, v5] h (wq P d sw_c559 sw_h559 62 [.index q2, vi x1] [] kc ks Q)) (e_q2 : r0 = .index q2 := by first | rfl | assumption) (y1 : s_ty r0 = 3 := by first | rfl | assumption) (n6 : s_nth f3 11 = some v5 := by first | rfl | assumption)  : wr P d sw_c559 sw_h559 (54, [r0, vi x1], [], h, kc, ks) Q := by
  refine w_ld rfl rfl (Or.inr (Or.inr ⟨by decide, y1⟩)) ?_
  refine w_ld rfl rfl (Or.inr (Or.inr ⟨by decide, y1⟩)) ?_
  subst e_q2
  refine w_getf rfl g4 n6 ?_
  exact w_cv rfl [.index q2, v5] [] rfl rfl (s_wt_4 rfl) rfl g4 k

theorem k559_62 {P : s_P} {d : Nat} {Q : s_O → Prop} {h : s_H} {kc ks : Nat} {r0 : Term} {x1 : Int} {q2 : Nat} {f3 : List Term} (g4 : s_get h q2 = some (1, 11, f3)) (k : wm P d 558 [.index q2, vi 41] h (wq P d sw_c559 sw_h559 68 [.index q2, vi x1] [] kc ks Q)) (e_q2 : r0 = .index q2 := by first | rfl | assumption) (y1 : s_ty r0 = 3 := by first | rfl | assumption)  : wr P d sw_c559 sw_h559 (62, [r0, vi x1], [], h, kc, ks) Q := by
  refine w_ld rfl rfl (Or.inr (Or.inr ⟨by decide, y1⟩)) ?_
  refine w_c32 rfl (by decide) 41 (by decide) ?_
  subst e_q2
  exact w_cv rfl [.index q2, vi 41] [] rfl rfl (s_wt_4 rfl) rfl g4 k

theorem k559_68 {P : s_P} {d : Nat} {Q : s_O → Prop} {h : s_H} {kc ks : Nat} {r0 : Term} {x1 : Int}  (k : Q (.inl none, h, kc, ks))   : wr P d sw_c559 sw_h559 (68, [r0, vi x1], [], h, kc, ks) Q := by
  exact w_ret rfl k

/-! 560: FormulaWorksModel.printNumber(J)V -/
theorem k560_0 {P : s_P} {d : Nat} {Q : s_O → Prop} {h : s_H} {kc ks : Nat} {r0 : Term} {x1 : Int} {t2 t3 t4 t5 t6 : Term}  (k : wr P d sw_c560 sw_h560 (2, [r0, vl x1, (s_uu t2), vl 1, .result, t5, t6], [], h, kc, ks) Q)   : wr P d sw_c560 sw_h560 (0, [r0, vl x1, t2, t3, t4, t5, t6], [], h, kc, ks) Q := by
  refine w_c64 rfl (by decide) 1 (by decide) ?_
  refine w_stl (ls' := [r0, vl x1, (s_uu t2), vl 1, t4, t5, t6]) (ls'' := [r0, vl x1, (s_uu t2), vl 1, .result, t5, t6]) rfl ⟨by decide, rfl⟩ (s_stK_t (pre := [r0, vl x1])) rfl ?_
  exact k

theorem k560_2 {P : s_P} {d : Nat} {Q : s_O → Prop} {h : s_H} {kc ks : Nat} {r0 : Term} {x1 : Int} {t2 : Term} {x3 : Int} {t4 t5 t6 : Term}  (k1 : Int.tdiv x1 x3 ≤ 9 → wr P d sw_c560 sw_h560 (21, [r0, vl x1, t2, vl x3, t4, t5, t6], [], h, kc, ks) Q) (k2 : ¬ Int.tdiv x1 x3 ≤ 9 → wr P d sw_c560 sw_h560 (12, [r0, vl x1, t2, vl x3, t4, t5, t6], [], h, kc, ks) Q)  (c1 : x3 ≠ 0 := by first | omega | assumption | (simp only [mk_len, List.length_map]; omega) | decide) (c2 : In6 x1 := by first | omega | assumption | (simp only [mk_len, List.length_map]; omega) | decide) (c3 : In6 x3 := by first | omega | assumption | (simp only [mk_len, List.length_map]; omega) | decide) (c4 : In6 (Int.tdiv x1 x3) := by first | omega | assumption | (simp only [mk_len, List.length_map]; omega) | decide) : wr P d sw_c560 sw_h560 (2, [r0, vl x1, t2, vl x3, t4, t5, t6], [], h, kc, ks) Q := by
  refine w_ld rfl rfl (Or.inr (Or.inl ⟨by decide, rfl⟩)) ?_
  refine w_ld rfl rfl (Or.inr (Or.inl ⟨by decide, rfl⟩)) ?_
  refine w_ldiv rfl c2 c3 c1 ?_
  refine w_c64 rfl (by decide) 9 (by decide) ?_
  exact w_lcmp rfl rfl c4 (by decide) k1 k2

theorem k560_12 {P : s_P} {d : Nat} {Q : s_O → Prop} {h : s_H} {kc ks : Nat} {r0 : Term} {x1 : Int} {t2 : Term} {x3 : Int} {t4 t5 t6 : Term}  (k : wr P d sw_c560 sw_h560 (2, [r0, vl x1, (s_uu t2), vl (x3 * 10), .result, t5, t6], [], h, kc, ks) Q)   : wr P d sw_c560 sw_h560 (12, [r0, vl x1, t2, vl x3, t4, t5, t6], [], h, kc, ks) Q := by
  refine w_ld rfl rfl (Or.inr (Or.inl ⟨by decide, rfl⟩)) ?_
  refine w_c64 rfl (by decide) 10 (by decide) ?_
  refine w_lmul rfl ?_
  refine w_stl (ls' := [r0, vl x1, (s_uu t2), vl (x3 * 10), t4, t5, t6]) (ls'' := [r0, vl x1, (s_uu t2), vl (x3 * 10), .result, t5, t6]) rfl ⟨by decide, rfl⟩ (s_stK_t (pre := [r0, vl x1])) rfl ?_
  refine w_goto rfl ?_
  exact k

theorem k560_21 {P : s_P} {d : Nat} {Q : s_O → Prop} {h : s_H} {kc ks : Nat} {r0 : Term} {x1 : Int} {t2 : Term} {x3 : Int} {t4 t5 t6 : Term}  (k : wr P d sw_c560 sw_h560 (24, [r0, vl x1, t2, vl x3, (s_uu t4), vl x3, .result], [], h, kc, ks) Q)   : wr P d sw_c560 sw_h560 (21, [r0, vl x1, t2, vl x3, t4, t5, t6], [], h, kc, ks) Q := by
  refine w_ld rfl rfl (Or.inr (Or.inl ⟨by decide, rfl⟩)) ?_
  refine w_stl (ls' := [r0, vl x1, t2, vl x3, (s_uu t4), vl x3, t6]) (ls'' := [r0, vl x1, t2, vl x3, (s_uu t4), vl x3, .result]) rfl ⟨by decide, rfl⟩ (s_stK_t (pre := [r0, vl x1, t2, vl x3])) rfl ?_
  exact k

theorem k560_24 {P : s_P} {d : Nat} {Q : s_O → Prop} {h : s_H} {kc ks : Nat} {r0 : Term} {x1 : Int} {t2 : Term} {x3 : Int} {t4 : Term} {x5 : Int} {t6 : Term}  (k1 : x5 ≤ 0 → wr P d sw_c560 sw_h560 (59, [r0, vl x1, t2, vl x3, t4, vl x5, t6], [], h, kc, ks) Q) (k2 : ¬ x5 ≤ 0 → wr P d sw_c560 sw_h560 (31, [r0, vl x1, t2, vl x3, t4, vl x5, t6], [], h, kc, ks) Q)  (c1 : In6 x5 := by first | omega | assumption | (simp only [mk_len, List.length_map]; omega) | decide) : wr P d sw_c560 sw_h560 (24, [r0, vl x1, t2, vl x3, t4, vl x5, t6], [], h, kc, ks) Q := by
  refine w_ld rfl rfl (Or.inr (Or.inl ⟨by decide, rfl⟩)) ?_
  refine w_c64 rfl (by decide) 0 (by decide) ?_
  exact w_lcmp rfl rfl c1 (by decide) k1 k2

theorem k560_31 {P : s_P} {d : Nat} {Q : s_O → Prop} {h : s_H} {kc ks : Nat} {r0 : Term} {x1 : Int} {t2 : Term} {x3 : Int} {t4 : Term} {x5 : Int} {t6 : Term} {q6 : Nat} {f7 : List Term} (g8 : s_get h q6 = some (1, 11, f7)) (k : wm P d 558 [.index q6, vi (48 + (Int.tmod (Int.tdiv x1 x5) 10))] h (wq P d sw_c560 sw_h560 48 [.index q6, vl x1, t2, vl x3, t4, vl x5, t6] [] kc ks Q)) (e_q6 : r0 = .index q6 := by first | rfl | assumption) (y1 : s_ty r0 = 3 := by first | rfl | assumption) (c2 : x5 ≠ 0 := by first | omega | assumption | (simp only [mk_len, List.length_map]; omega) | decide) (c3 : In6 x1 := by first | omega | assumption | (simp only [mk_len, List.length_map]; omega) | decide) (c4 : In6 x5 := by first | omega | assumption | (simp only [mk_len, List.length_map]; omega) | decide) (c5 : In6 (Int.tdiv x1 x5) := by first | omega | assumption | (simp only [mk_len, List.length_map]; omega) | decide) : wr P d sw_c560 sw_h560 (31, [r0, vl x1, t2, vl x3, t4, vl x5, t6], [], h, kc, ks) Q := by
  refine w_ld rfl rfl (Or.inr (Or.inr ⟨by decide, y1⟩)) ?_
  refine w_c64 rfl (by decide) 48 (by decide) ?_
  refine w_ld rfl rfl (Or.inr (Or.inl ⟨by decide, rfl⟩)) ?_
  refine w_ld rfl rfl (Or.inr (Or.inl ⟨by decide, rfl⟩)) ?_
  refine w_ldiv rfl c3 c4 c2 ?_
  refine w_c64 rfl (by decide) 10 (by decide) ?_
  refine w_lrem rfl c5 (by decide) (by decide) ?_
  refine w_ladd rfl ?_
  refine w_l2i rfl ?_
  subst e_q6
  exact w_cv rfl [.index q6, vi (48 + (Int.tmod (Int.tdiv x1 x5) 10))] [] rfl rfl (s_wt_4 rfl) rfl g8 k

theorem k560_48 {P : s_P} {d : Nat} {Q : s_O → Prop} {h : s_H} {kc ks : Nat} {r0 : Term} {x1 : Int} {t2 : Term} {x3 : Int} {t4 : Term} {x5 : Int} {t6 : Term}  (k : wr P d sw_c560 sw_h560 (24, [r0, vl x1, t2, vl x3, (s_uu t4), vl (Int.tdiv x5 10), .result], [], h, kc, ks) Q)  (c1 : In6 x5 := by first | omega | assumption | (simp only [mk_len, List.length_map]; omega) | decide) : wr P d sw_c560 sw_h560 (48, [r0, vl x1, t2, vl x3, t4, vl x5, t6], [], h, kc, ks) Q := by
  refine w_ld rfl rfl (Or.inr (Or.inl ⟨by decide, rfl⟩)) ?_
  refine w_c64 rfl (by decide) 10 (by decide) ?_
  refine w_ldiv rfl c1 (by decide) (by decide) ?_
  refine w_stl (ls' := [r0, vl x1, t2, vl x3, (s_uu t4), vl (Int.tdiv x5 10), t6]) (ls'' := [r0, vl x1, t2, vl x3, (s_uu t4), vl (Int.tdiv x5 10), .result]) rfl ⟨by decide, rfl⟩ (s_stK_t (pre := [r0, vl x1, t2, vl x3])) rfl ?_
  refine w_goto rfl ?_
  exact k

theorem k560_59 {P : s_P} {d : Nat} {Q : s_O → Prop} {h : s_H} {kc ks : Nat} {r0 : Term} {x1 : Int} {t2 : Term} {x3 : Int} {t4 : Term} {x5 : Int} {t6 : Term}  (k : Q (.inl none, h, kc, ks))   : wr P d sw_c560 sw_h560 (59, [r0, vl x1, t2, vl x3, t4, vl x5, t6], [], h, kc, ks) Q := by
  exact w_ret rfl k

/-! 561: FormulaWorksModel.printRow([J)V -/
theorem k561_0 {P : s_P} {d : Nat} {Q : s_O → Prop} {h : s_H} {kc ks : Nat} {r0 r1 t2 t3 : Term}  (k : wm P d 463 [r1] h (wq P d sw_c561 sw_h561 4 [r0, r1, t2, t3] [] kc ks Q)) (y1 : s_ty r1 = 3 := by first | rfl | assumption)  : wr P d sw_c561 sw_h561 (0, [r0, r1, t2, t3], [], h, kc, ks) Q := by
  refine w_ld rfl rfl (Or.inr (Or.inr ⟨by decide, y1⟩)) ?_
  exact w_cs rfl [r1] [] rfl rfl (s_wt_4 rfl) k

theorem k561_4 {P : s_P} {d : Nat} {Q : s_O → Prop} {h : s_H} {kc ks : Nat} {r0 r1 t2 t3 : Term} {s0 : Int}  (k1 : 0 ≤ s0 → wr P d sw_c561 sw_h561 (15, [r0, r1, vi s0, t3], [], h, kc, ks) Q) (k2 : ¬ 0 ≤ s0 → wr P d sw_c561 sw_h561 (9, [r0, r1, vi s0, t3], [], h, kc, ks) Q) (y1 : s_ty r1 = 3 := by first | rfl | assumption) (c2 : In3 s0 := by first | omega | assumption | (simp only [mk_len, List.length_map]; omega) | decide) : wr P d sw_c561 sw_h561 (4, [r0, r1, t2, t3], [vi s0], h, kc, ks) Q := by
  refine w_st (ls' := [r0, r1, vi s0, t3]) rfl (Or.inl ⟨by decide, rfl⟩) (s_stK_r (pre := [r0]) y1) ?_
  refine w_ld rfl rfl (Or.inl ⟨by decide, rfl⟩) ?_
  exact w_if1 rfl c2 k1 k2

theorem k561_9 {P : s_P} {d : Nat} {Q : s_O → Prop} {h : s_H} {kc ks : Nat} {r0 r1 : Term} {x2 : Int} {t3 : Term} {q2 : Nat} {f3 : List Term} (g4 : s_get h q2 = some (1, 11, f3)) (k : wm P d 558 [.index q2, vi 48] h (wq P d sw_c561 sw_h561 15 [.index q2, r1, vi x2, t3] [] kc ks Q)) (e_q2 : r0 = .index q2 := by first | rfl | assumption) (y1 : s_ty r0 = 3 := by first | rfl | assumption)  : wr P d sw_c561 sw_h561 (9, [r0, r1, vi x2, t3], [], h, kc, ks) Q := by
  refine w_ld rfl rfl (Or.inr (Or.inr ⟨by decide, y1⟩)) ?_
  refine w_c32 rfl (by decide) 48 (by decide) ?_
  subst e_q2
  exact w_cv rfl [.index q2, vi 48] [] rfl rfl (s_wt_4 rfl) rfl g4 k

theorem k561_15 {P : s_P} {d : Nat} {Q : s_O → Prop} {h : s_H} {kc ks : Nat} {r0 r1 : Term} {x2 : Int} {t3 : Term}  (k : wr P d sw_c561 sw_h561 (17, [r0, r1, vi x2, vi x2], [], h, kc, ks) Q)   : wr P d sw_c561 sw_h561 (15, [r0, r1, vi x2, t3], [], h, kc, ks) Q := by
  refine w_ld rfl rfl (Or.inl ⟨by decide, rfl⟩) ?_
  refine w_st (ls' := [r0, r1, vi x2, vi x2]) rfl (Or.inl ⟨by decide, rfl⟩) rfl ?_
  exact k

theorem k561_17 {P : s_P} {d : Nat} {Q : s_O → Prop} {h : s_H} {kc ks : Nat} {r0 r1 : Term} {x2 x3 : Int}  (k1 : x3 < 0 → wr P d sw_c561 sw_h561 (118, [r0, r1, vi x2, vi x3], [], h, kc, ks) Q) (k2 : ¬ x3 < 0 → wr P d sw_c561 sw_h561 (21, [r0, r1, vi x2, vi x3], [], h, kc, ks) Q)  (c1 : In3 x3 := by first | omega | assumption | (simp only [mk_len, List.length_map]; omega) | decide) : wr P d sw_c561 sw_h561 (17, [r0, r1, vi x2, vi x3], [], h, kc, ks) Q := by
  refine w_ld rfl rfl (Or.inl ⟨by decide, rfl⟩) ?_
  exact w_if1 rfl c1 k1 k2

theorem k561_21 {P : s_P} {d : Nat} {Q : s_O → Prop} {h : s_H} {kc ks : Nat} {r0 r1 : Term} {x2 x3 : Int} {q2 : Nat} {a3 : List Int} (g4 : s_get h q2 = some (0, 1, a3.map vl)) (k1 : gi a3 x3 ≠ 0 → wr P d sw_c561 sw_h561 (32, [r0, .index q2, vi x2, vi x3], [], h, kc, ks) Q) (k2 : ¬ gi a3 x3 ≠ 0 → wr P d sw_c561 sw_h561 (29, [r0, .index q2, vi x2, vi x3], [], h, kc, ks) Q) (e_q2 : r1 = .index q2 := by first | rfl | assumption) (y1 : s_ty r1 = 3 := by first | rfl | assumption) (c5 : x3 < a3.length := by first | omega | assumption | (simp only [mk_len, List.length_map]; omega) | decide) (c6 : 0 ≤ x3 := by first | omega | assumption | (simp only [mk_len, List.length_map]; omega) | decide) (c7 : In3 x3 := by first | omega | assumption | (simp only [mk_len, List.length_map]; omega) | decide) (c8 : In6 (gi a3 x3) := by first | omega | assumption | (simp only [mk_len, List.length_map]; omega) | decide) : wr P d sw_c561 sw_h561 (21, [r0, r1, vi x2, vi x3], [], h, kc, ks) Q := by
  refine w_ld rfl rfl (Or.inr (Or.inr ⟨by decide, y1⟩)) ?_
  refine w_ld rfl rfl (Or.inl ⟨by decide, rfl⟩) ?_
  subst e_q2
  refine w_lald rfl g4 c7 c6 c5 ?_
  refine w_c64 rfl (by decide) 0 (by decide) ?_
  exact w_lcmp rfl rfl c8 (by decide) k1 k2

theorem k561_29 {P : s_P} {d : Nat} {Q : s_O → Prop} {h : s_H} {kc ks : Nat} {r0 r1 : Term} {x2 x3 : Int}  (k : wr P d sw_c561 sw_h561 (112, [r0, r1, vi x2, vi x3], [], h, kc, ks) Q)   : wr P d sw_c561 sw_h561 (29, [r0, r1, vi x2, vi x3], [], h, kc, ks) Q := by
  refine w_goto rfl ?_
  exact k

theorem k561_32 {P : s_P} {d : Nat} {Q : s_O → Prop} {h : s_H} {kc ks : Nat} {r0 r1 : Term} {x2 x3 : Int}  (k1 : x2 ≤ x3 → wr P d sw_c561 sw_h561 (43, [r0, r1, vi x2, vi x3], [], h, kc, ks) Q) (k2 : ¬ x2 ≤ x3 → wr P d sw_c561 sw_h561 (37, [r0, r1, vi x2, vi x3], [], h, kc, ks) Q)  (c1 : In3 x3 := by first | omega | assumption | (simp only [mk_len, List.length_map]; omega) | decide) (c2 : In3 x2 := by first | omega | assumption | (simp only [mk_len, List.length_map]; omega) | decide) : wr P d sw_c561 sw_h561 (32, [r0, r1, vi x2, vi x3], [], h, kc, ks) Q := by
  refine w_ld rfl rfl (Or.inl ⟨by decide, rfl⟩) ?_
  refine w_ld rfl rfl (Or.inl ⟨by decide, rfl⟩) ?_
  exact w_if2 rfl c1 c2 k1 k2

theorem k561_37 {P : s_P} {d : Nat} {Q : s_O → Prop} {h : s_H} {kc ks : Nat} {r0 r1 : Term} {x2 x3 : Int} {q2 : Nat} {f3 : List Term} (g4 : s_get h q2 = some (1, 11, f3)) (k : wm P d 558 [.index q2, vi 43] h (wq P d sw_c561 sw_h561 43 [.index q2, r1, vi x2, vi x3] [] kc ks Q)) (e_q2 : r0 = .index q2 := by first | rfl | assumption) (y1 : s_ty r0 = 3 := by first | rfl | assumption)  : wr P d sw_c561 sw_h561 (37, [r0, r1, vi x2, vi x3], [], h, kc, ks) Q := by
  refine w_ld rfl rfl (Or.inr (Or.inr ⟨by decide, y1⟩)) ?_
  refine w_c32 rfl (by decide) 43 (by decide) ?_
  subst e_q2
  exact w_cv rfl [.index q2, vi 43] [] rfl rfl (s_wt_4 rfl) rfl g4 k

theorem k561_43 {P : s_P} {d : Nat} {Q : s_O → Prop} {h : s_H} {kc ks : Nat} {r0 r1 : Term} {x2 x3 : Int} {q2 : Nat} {a3 : List Int} (g4 : s_get h q2 = some (0, 1, a3.map vl)) (k1 : gi a3 x3 ≠ 1 → wr P d sw_c561 sw_h561 (55, [r0, .index q2, vi x2, vi x3], [], h, kc, ks) Q) (k2 : ¬ gi a3 x3 ≠ 1 → wr P d sw_c561 sw_h561 (51, [r0, .index q2, vi x2, vi x3], [], h, kc, ks) Q) (e_q2 : r1 = .index q2 := by first | rfl | assumption) (y1 : s_ty r1 = 3 := by first | rfl | assumption) (c5 : x3 < a3.length := by first | omega | assumption | (simp only [mk_len, List.length_map]; omega) | decide) (c6 : 0 ≤ x3 := by first | omega | assumption | (simp only [mk_len, List.length_map]; omega) | decide) (c7 : In3 x3 := by first | omega | assumption | (simp only [mk_len, List.length_map]; omega) | decide) (c8 : In6 (gi a3 x3) := by first | omega | assumption | (simp only [mk_len, List.length_map]; omega) | decide) : wr P d sw_c561 sw_h561 (43, [r0, r1, vi x2, vi x3], [], h, kc, ks) Q := by
  refine w_ld rfl rfl (Or.inr (Or.inr ⟨by decide, y1⟩)) ?_
  refine w_ld rfl rfl (Or.inl ⟨by decide, rfl⟩) ?_
  subst e_q2
  refine w_lald rfl g4 c7 c6 c5 ?_
  refine w_c64 rfl (by decide) 1 (by decide) ?_
  exact w_lcmp rfl rfl c8 (by decide) k1 k2

theorem k561_51 {P : s_P} {d : Nat} {Q : s_O → Prop} {h : s_H} {kc ks : Nat} {r0 r1 : Term} {x2 x3 : Int}  (k1 : x3 ≠ 0 → wr P d sw_c561 sw_h561 (62, [r0, r1, vi x2, vi x3], [], h, kc, ks) Q) (k2 : ¬ x3 ≠ 0 → wr P d sw_c561 sw_h561 (55, [r0, r1, vi x2, vi x3], [], h, kc, ks) Q)  (c1 : In3 x3 := by first | omega | assumption | (simp only [mk_len, List.length_map]; omega) | decide) : wr P d sw_c561 sw_h561 (51, [r0, r1, vi x2, vi x3], [], h, kc, ks) Q := by
  refine w_ld rfl rfl (Or.inl ⟨by decide, rfl⟩) ?_
  exact w_if1 rfl c1 k1 k2

theorem k561_55 {P : s_P} {d : Nat} {Q : s_O → Prop} {h : s_H} {kc ks : Nat} {r0 r1 : Term} {x2 x3 : Int} {q3 : Nat} {a4 : List Int} {q9 : Nat} {f10 : List Term} (g5 : s_get h q3 = some (0, 1, a4.map vl)) (g11 : s_get h q9 = some (1, 11, f10)) (k : wm P d 560 [.index q9, vl (gi a4 x3)] h (wq P d sw_c561 sw_h561 62 [.index q9, .index q3, vi x2, vi x3] [] kc ks Q)) (e_q3 : r1 = .index q3 := by first | rfl | assumption) (e_q9 : r0 = .index q9 := by first | rfl | assumption) (y1 : s_ty r0 = 3 := by first | rfl | assumption) (y2 : s_ty r1 = 3 := by first | rfl | assumption) (c6 : x3 < a4.length := by first | omega | assumption | (simp only [mk_len, List.length_map]; omega) | decide) (c7 : 0 ≤ x3 := by first | omega | assumption | (simp only [mk_len, List.length_map]; omega) | decide) (c8 : In3 x3 := by first | omega | assumption | (simp only [mk_len, List.length_map]; omega) | decide) : wr P d sw_c561 sw_h561 (55, [r0, r1, vi x2, vi x3], [], h, kc, ks) Q := by
  refine w_ld rfl rfl (Or.inr (Or.inr ⟨by decide, y1⟩)) ?_
  refine w_ld rfl rfl (Or.inr (Or.inr ⟨by decide, y2⟩)) ?_
  refine w_ld rfl rfl (Or.inl ⟨by decide, rfl⟩) ?_
  subst e_q3
  refine w_lald rfl g5 c8 c7 c6 ?_
  subst e_q9
  exact w_cv rfl [.index q9, vl (gi a4 x3)] [] rfl rfl (s_wt_4 rfl) rfl g11 k

theorem k561_62 {P : s_P} {d : Nat} {Q : s_O → Prop} {h : s_H} {kc ks : Nat} {r0 r1 : Term} {x2 x3 : Int} {q2 : Nat} {a3 : List Int} (g4 : s_get h q2 = some (0, 1, a3.map vl)) (k1 : gi a3 x3 = 1 → wr P d sw_c561 sw_h561 (80, [r0, .index q2, vi x2, vi x3], [], h, kc, ks) Q) (k2 : ¬ gi a3 x3 = 1 → wr P d sw_c561 sw_h561 (70, [r0, .index q2, vi x2, vi x3], [], h, kc, ks) Q) (e_q2 : r1 = .index q2 := by first | rfl | assumption) (y1 : s_ty r1 = 3 := by first | rfl | assumption) (c5 : x3 < a3.length := by first | omega | assumption | (simp only [mk_len, List.length_map]; omega) | decide) (c6 : 0 ≤ x3 := by first | omega | assumption | (simp only [mk_len, List.length_map]; omega) | decide) (c7 : In3 x3 := by first | omega | assumption | (simp only [mk_len, List.length_map]; omega) | decide) (c8 : In6 (gi a3 x3) := by first | omega | assumption | (simp only [mk_len, List.length_map]; omega) | decide) : wr P d sw_c561 sw_h561 (62, [r0, r1, vi x2, vi x3], [], h, kc, ks) Q := by
  refine w_ld rfl rfl (Or.inr (Or.inr ⟨by decide, y1⟩)) ?_
  refine w_ld rfl rfl (Or.inl ⟨by decide, rfl⟩) ?_
  subst e_q2
  refine w_lald rfl g4 c7 c6 c5 ?_
  refine w_c64 rfl (by decide) 1 (by decide) ?_
  exact w_lcmp rfl rfl c8 (by decide) k1 k2

theorem k561_70 {P : s_P} {d : Nat} {Q : s_O → Prop} {h : s_H} {kc ks : Nat} {r0 r1 : Term} {x2 x3 : Int}  (k1 : x3 ≤ 0 → wr P d sw_c561 sw_h561 (80, [r0, r1, vi x2, vi x3], [], h, kc, ks) Q) (k2 : ¬ x3 ≤ 0 → wr P d sw_c561 sw_h561 (74, [r0, r1, vi x2, vi x3], [], h, kc, ks) Q)  (c1 : In3 x3 := by first | omega | assumption | (simp only [mk_len, List.length_map]; omega) | decide) : wr P d sw_c561 sw_h561 (70, [r0, r1, vi x2, vi x3], [], h, kc, ks) Q := by
  refine w_ld rfl rfl (Or.inl ⟨by decide, rfl⟩) ?_
  exact w_if1 rfl c1 k1 k2

theorem k561_74 {P : s_P} {d : Nat} {Q : s_O → Prop} {h : s_H} {kc ks : Nat} {r0 r1 : Term} {x2 x3 : Int} {q2 : Nat} {f3 : List Term} (g4 : s_get h q2 = some (1, 11, f3)) (k : wm P d 558 [.index q2, vi 42] h (wq P d sw_c561 sw_h561 80 [.index q2, r1, vi x2, vi x3] [] kc ks Q)) (e_q2 : r0 = .index q2 := by first | rfl | assumption) (y1 : s_ty r0 = 3 := by first | rfl | assumption)  : wr P d sw_c561 sw_h561 (74, [r0, r1, vi x2, vi x3], [], h, kc, ks) Q := by
  refine w_ld rfl rfl (Or.inr (Or.inr ⟨by decide, y1⟩)) ?_
  refine w_c32 rfl (by decide) 42 (by decide) ?_
  subst e_q2
  exact w_cv rfl [.index q2, vi 42] [] rfl rfl (s_wt_4 rfl) rfl g4 k

theorem k561_80 {P : s_P} {d : Nat} {Q : s_O → Prop} {h : s_H} {kc ks : Nat} {r0 r1 : Term} {x2 x3 : Int}  (k1 : x3 ≤ 0 → wr P d sw_c561 sw_h561 (90, [r0, r1, vi x2, vi x3], [], h, kc, ks) Q) (k2 : ¬ x3 ≤ 0 → wr P d sw_c561 sw_h561 (84, [r0, r1, vi x2, vi x3], [], h, kc, ks) Q)  (c1 : In3 x3 := by first | omega | assumption | (simp only [mk_len, List.length_map]; omega) | decide) : wr P d sw_c561 sw_h561 (80, [r0, r1, vi x2, vi x3], [], h, kc, ks) Q := by
  refine w_ld rfl rfl (Or.inl ⟨by decide, rfl⟩) ?_
  exact w_if1 rfl c1 k1 k2

theorem k561_84 {P : s_P} {d : Nat} {Q : s_O → Prop} {h : s_H} {kc ks : Nat} {r0 r1 : Term} {x2 x3 : Int} {q2 : Nat} {f3 : List Term} (g4 : s_get h q2 = some (1, 11, f3)) (k : wm P d 558 [.index q2, vi 120] h (wq P d sw_c561 sw_h561 90 [.index q2, r1, vi x2, vi x3] [] kc ks Q)) (e_q2 : r0 = .index q2 := by first | rfl | assumption) (y1 : s_ty r0 = 3 := by first | rfl | assumption)  : wr P d sw_c561 sw_h561 (84, [r0, r1, vi x2, vi x3], [], h, kc, ks) Q := by
  refine w_ld rfl rfl (Or.inr (Or.inr ⟨by decide, y1⟩)) ?_
  refine w_c32 rfl (by decide) 120 (by decide) ?_
  subst e_q2
  exact w_cv rfl [.index q2, vi 120] [] rfl rfl (s_wt_4 rfl) rfl g4 k

theorem k561_90 {P : s_P} {d : Nat} {Q : s_O → Prop} {h : s_H} {kc ks : Nat} {r0 r1 : Term} {x2 x3 : Int}  (k1 : x3 ≤ 1 → wr P d sw_c561 sw_h561 (101, [r0, r1, vi x2, vi x3], [], h, kc, ks) Q) (k2 : ¬ x3 ≤ 1 → wr P d sw_c561 sw_h561 (95, [r0, r1, vi x2, vi x3], [], h, kc, ks) Q)  (c1 : In3 x3 := by first | omega | assumption | (simp only [mk_len, List.length_map]; omega) | decide) : wr P d sw_c561 sw_h561 (90, [r0, r1, vi x2, vi x3], [], h, kc, ks) Q := by
  refine w_ld rfl rfl (Or.inl ⟨by decide, rfl⟩) ?_
  refine w_c32 rfl (by decide) 1 (by decide) ?_
  exact w_if2 rfl c1 (by decide) k1 k2

theorem k561_95 {P : s_P} {d : Nat} {Q : s_O → Prop} {h : s_H} {kc ks : Nat} {r0 r1 : Term} {x2 x3 : Int} {q2 : Nat} {f3 : List Term} (g4 : s_get h q2 = some (1, 11, f3)) (k : wm P d 558 [.index q2, vi 94] h (wq P d sw_c561 sw_h561 101 [.index q2, r1, vi x2, vi x3] [] kc ks Q)) (e_q2 : r0 = .index q2 := by first | rfl | assumption) (y1 : s_ty r0 = 3 := by first | rfl | assumption)  : wr P d sw_c561 sw_h561 (95, [r0, r1, vi x2, vi x3], [], h, kc, ks) Q := by
  refine w_ld rfl rfl (Or.inr (Or.inr ⟨by decide, y1⟩)) ?_
  refine w_c32 rfl (by decide) 94 (by decide) ?_
  subst e_q2
  exact w_cv rfl [.index q2, vi 94] [] rfl rfl (s_wt_4 rfl) rfl g4 k

theorem k561_101 {P : s_P} {d : Nat} {Q : s_O → Prop} {h : s_H} {kc ks : Nat} {r0 r1 : Term} {x2 x3 : Int}  (k1 : x3 ≤ 1 → wr P d sw_c561 sw_h561 (112, [r0, r1, vi x2, vi x3], [], h, kc, ks) Q) (k2 : ¬ x3 ≤ 1 → wr P d sw_c561 sw_h561 (106, [r0, r1, vi x2, vi x3], [], h, kc, ks) Q)  (c1 : In3 x3 := by first | omega | assumption | (simp only [mk_len, List.length_map]; omega) | decide) : wr P d sw_c561 sw_h561 (101, [r0, r1, vi x2, vi x3], [], h, kc, ks) Q := by
  refine w_ld rfl rfl (Or.inl ⟨by decide, rfl⟩) ?_
  refine w_c32 rfl (by decide) 1 (by decide) ?_
  exact w_if2 rfl c1 (by decide) k1 k2

theorem k561_106 {P : s_P} {d : Nat} {Q : s_O → Prop} {h : s_H} {kc ks : Nat} {r0 r1 : Term} {x2 x3 : Int} {q3 : Nat} {f4 : List Term} (g5 : s_get h q3 = some (1, 11, f4)) (k : wm P d 560 [.index q3, vl x3] h (wq P d sw_c561 sw_h561 112 [.index q3, r1, vi x2, vi x3] [] kc ks Q)) (e_q3 : r0 = .index q3 := by first | rfl | assumption) (y1 : s_ty r0 = 3 := by first | rfl | assumption) (c2 : In3 x3 := by first | omega | assumption | (simp only [mk_len, List.length_map]; omega) | decide) : wr P d sw_c561 sw_h561 (106, [r0, r1, vi x2, vi x3], [], h, kc, ks) Q := by
  refine w_ld rfl rfl (Or.inr (Or.inr ⟨by decide, y1⟩)) ?_
  refine w_ld rfl rfl (Or.inl ⟨by decide, rfl⟩) ?_
  refine w_i2l rfl c2 ?_
  subst e_q3
  exact w_cv rfl [.index q3, vl x3] [] rfl rfl (s_wt_4 rfl) rfl g5 k

theorem k561_112 {P : s_P} {d : Nat} {Q : s_O → Prop} {h : s_H} {kc ks : Nat} {r0 r1 : Term} {x2 x3 : Int}  (k : wr P d sw_c561 sw_h561 (17, [r0, r1, vi x2, vi (x3 + (-1))], [], h, kc, ks) Q)   : wr P d sw_c561 sw_h561 (112, [r0, r1, vi x2, vi x3], [], h, kc, ks) Q := by
  refine w_iinc (ls' := [r0, r1, vi x2, vi (x3 + (-1))]) rfl rfl (-1) (by decide) rfl ?_
  refine w_goto rfl ?_
  exact k

theorem k561_118 {P : s_P} {d : Nat} {Q : s_O → Prop} {h : s_H} {kc ks : Nat} {r0 r1 : Term} {x2 x3 : Int}  (k : Q (.inl none, h, kc, ks))   : wr P d sw_c561 sw_h561 (118, [r0, r1, vi x2, vi x3], [], h, kc, ks) Q := by
  exact w_ret rfl k

/-! 562: FormulaWorksModel.printTree()V -/
theorem k562_0 {P : s_P} {d : Nat} {Q : s_O → Prop} {h : s_H} {kc ks : Nat} {r0 t1 t2 t3 t4 t5 : Term} {q2 : Nat} {f3 f7 : List Term} {v9 : Term} {q11 : Nat} {a12 : List Int} (g4 : s_get h q2 = some (1, 11, f3)) (g8 : s_get (hp h q2 (1, 11, f3.set 77 (vi 0))) q2 = some (1, 11, f7)) (g13 : s_get (hp h q2 (1, 11, f3.set 77 (vi 0))) q11 = some (0, 0, a12.map vi)) (k : wr P d sw_c562 sw_h562 (14, [.index q2, vi 1, t2, t3, t4, t5], [], (hp (hp h q2 (1, 11, f3.set 77 (vi 0))) q11 (0, 0, (a12.set (Int.toNat (0)) 0).map vi)), kc, ks) Q) (e_q2 : r0 = .index q2 := by first | rfl | assumption) (e_q11 : v9 = .index q11 := by first | rfl | assumption) (y1 : s_ty r0 = 3 := by first | rfl | assumption) (l5 : 77 < f3.length := by first | exact Nat.le_of_ble_eq_true rfl | omega | assumption) (n10 : s_nth f7 93 = some v9 := by first | rfl | assumption) (c6 : 0 < q2 := by first | omega | assumption | (simp only [mk_len, List.length_map]; omega) | decide) (c14 : (0 : Int) < a12.length := by first | omega | assumption | (simp only [mk_len, List.length_map]; omega) | decide) (c15 : 0 < q11 := by first | omega | assumption | (simp only [mk_len, List.length_map]; omega) | decide) : wr P d sw_c562 sw_h562 (0, [r0, t1, t2, t3, t4, t5], [], h, kc, ks) Q := by
  refine w_ld rfl rfl (Or.inr (Or.inr ⟨by decide, y1⟩)) ?_
  refine w_c32 rfl (by decide) 0 (by decide) ?_
  subst e_q2
  refine w_putf rfl g4 (Nat.ble_eq_true_of_le c6) rfl (Nat.ble_eq_true_of_le l5) ?_
  refine w_c32 rfl (by decide) 1 (by decide) ?_
  refine w_st (ls' := [.index q2, vi 1, t2, t3, t4, t5]) rfl (Or.inl ⟨by decide, rfl⟩) rfl ?_
  refine w_ld rfl rfl (Or.inr (Or.inr ⟨by decide, rfl⟩)) ?_
  refine w_getf rfl g8 n10 ?_
  refine w_c32 rfl (by decide) 0 (by decide) ?_
  refine w_c32 rfl (by decide) 0 (by decide) ?_
  subst e_q11
  refine w_iast rfl g13 (Nat.ble_eq_true_of_le c15) (by decide) (by decide) c14 ?_
  exact k

theorem k562_14 {P : s_P} {d : Nat} {Q : s_O → Prop} {h : s_H} {kc ks : Nat} {r0 : Term} {x1 : Int} {t2 t3 t4 t5 : Term}  (k1 : x1 ≤ 0 → wr P d sw_c562 sw_h562 (250, [r0, vi x1, t2, t3, t4, t5], [], h, kc, ks) Q) (k2 : ¬ x1 ≤ 0 → wr P d sw_c562 sw_h562 (18, [r0, vi x1, t2, t3, t4, t5], [], h, kc, ks) Q)  (c1 : In3 x1 := by first | omega | assumption | (simp only [mk_len, List.length_map]; omega) | decide) : wr P d sw_c562 sw_h562 (14, [r0, vi x1, t2, t3, t4, t5], [], h, kc, ks) Q := by
  refine w_ld rfl rfl (Or.inl ⟨by decide, rfl⟩) ?_
  exact w_if1 rfl c1 k1 k2

theorem k562_18 {P : s_P} {d : Nat} {Q : s_O → Prop} {h : s_H} {kc ks : Nat} {r0 : Term} {x1 : Int} {t2 t3 t4 t5 : Term} {q2 : Nat} {f3 : List Term} {v5 : Term} {q7 : Nat} {a8 : List Int} (g4 : s_get h q2 = some (1, 11, f3)) (g9 : s_get h q7 = some (0, 0, a8.map vi)) (k1 : 0 ≤ gi a8 (x1 + (-1)) → wr P d sw_c562 sw_h562 (41, [.index q2, vi (x1 + (-1)), vi (gi a8 (x1 + (-1))), t3, t4, t5], [], h, kc, ks) Q) (k2 : ¬ 0 ≤ gi a8 (x1 + (-1)) → wr P d sw_c562 sw_h562 (32, [.index q2, vi (x1 + (-1)), vi (gi a8 (x1 + (-1))), t3, t4, t5], [], h, kc, ks) Q) (e_q2 : r0 = .index q2 := by first | rfl | assumption) (e_q7 : v5 = .index q7 := by first | rfl | assumption) (y1 : s_ty r0 = 3 := by first | rfl | assumption) (n6 : s_nth f3 93 = some v5 := by first | rfl | assumption) (c10 : x1 + (-1) < a8.length := by first | omega | assumption | (simp only [mk_len, List.length_map]; omega) | decide) (c11 : 0 ≤ x1 + (-1) := by first | omega | assumption | (simp only [mk_len, List.length_map]; omega) | decide) (c12 : In3 (x1 + (-1)) := by first | omega | assumption | (simp only [mk_len, List.length_map]; omega) | decide) (c13 : In3 (gi a8 (x1 + (-1))) := by first | omega | assumption | (simp only [mk_len, List.length_map]; omega) | decide) : wr P d sw_c562 sw_h562 (18, [r0, vi x1, t2, t3, t4, t5], [], h, kc, ks) Q := by
  refine w_iinc (ls' := [r0, vi (x1 + (-1)), t2, t3, t4, t5]) rfl rfl (-1) (by decide) (s_stK_r (pre := []) y1) ?_
  refine w_ld rfl rfl (Or.inr (Or.inr ⟨by decide, y1⟩)) ?_
  subst e_q2
  refine w_getf rfl g4 n6 ?_
  refine w_ld rfl rfl (Or.inl ⟨by decide, rfl⟩) ?_
  subst e_q7
  refine w_iald rfl g9 (Or.inl rfl) c12 c11 c10 ?_
  refine w_st (ls' := [.index q2, vi (x1 + (-1)), vi (gi a8 (x1 + (-1))), t3, t4, t5]) rfl (Or.inl ⟨by decide, rfl⟩) rfl ?_
  refine w_ld rfl rfl (Or.inl ⟨by decide, rfl⟩) ?_
  exact w_if1 rfl c13 k1 k2

theorem k562_32 {P : s_P} {d : Nat} {Q : s_O → Prop} {h : s_H} {kc ks : Nat} {r0 : Term} {x1 x2 : Int} {t3 t4 t5 : Term} {q2 : Nat} {f3 : List Term} (g4 : s_get h q2 = some (1, 11, f3)) (k : wm P d 558 [.index q2, vi (-x2)] h (wq P d sw_c562 sw_h562 38 [.index q2, vi x1, vi x2, t3, t4, t5] [] kc ks Q)) (e_q2 : r0 = .index q2 := by first | rfl | assumption) (y1 : s_ty r0 = 3 := by first | rfl | assumption)  : wr P d sw_c562 sw_h562 (32, [r0, vi x1, vi x2, t3, t4, t5], [], h, kc, ks) Q := by
  refine w_ld rfl rfl (Or.inr (Or.inr ⟨by decide, y1⟩)) ?_
  refine w_ld rfl rfl (Or.inl ⟨by decide, rfl⟩) ?_
  refine w_ineg rfl ?_
  subst e_q2
  exact w_cv rfl [.index q2, vi (-x2)] [] rfl rfl (s_wt_4 rfl) rfl g4 k

theorem k562_38 {P : s_P} {d : Nat} {Q : s_O → Prop} {h : s_H} {kc ks : Nat} {r0 : Term} {x1 x2 : Int} {t3 t4 t5 : Term}  (k : wr P d sw_c562 sw_h562 (14, [r0, vi x1, vi x2, t3, t4, t5], [], h, kc, ks) Q)   : wr P d sw_c562 sw_h562 (38, [r0, vi x1, vi x2, t3, t4, t5], [], h, kc, ks) Q := by
  refine w_goto rfl ?_
  exact k

theorem k562_41 {P : s_P} {d : Nat} {Q : s_O → Prop} {h : s_H} {kc ks : Nat} {r0 : Term} {x1 x2 : Int} {t3 t4 t5 : Term} {q3 : Nat} {f4 : List Term} {v6 : Term} {q8 : Nat} {a9 : List Int} (g5 : s_get h q3 = some (1, 11, f4)) (g10 : s_get h q8 = some (0, 0, a9.map vi)) (k1 : Int.tmod x2 2 ≠ 1 → wr P d sw_c562 sw_h562 (77, [.index q3, vi x1, vi x2, vi (Int.tdiv x2 2), vi (gi a9 (Int.tdiv x2 2)), t5], [], h, kc, ks) Q) (k2 : ¬ Int.tmod x2 2 ≠ 1 → wr P d sw_c562 sw_h562 (60, [.index q3, vi x1, vi x2, vi (Int.tdiv x2 2), vi (gi a9 (Int.tdiv x2 2)), t5], [], h, kc, ks) Q) (e_q3 : r0 = .index q3 := by first | rfl | assumption) (e_q8 : v6 = .index q8 := by first | rfl | assumption) (y2 : s_ty r0 = 3 := by first | rfl | assumption) (n7 : s_nth f4 83 = some v6 := by first | rfl | assumption) (c1 : In3 x2 := by first | omega | assumption | (simp only [mk_len, List.length_map]; omega) | decide) (c11 : Int.tdiv x2 2 < a9.length := by first | omega | assumption | (simp only [mk_len, List.length_map]; omega) | decide) (c12 : 0 ≤ Int.tdiv x2 2 := by first | omega | assumption | (simp only [mk_len, List.length_map]; omega) | decide) (c13 : In3 (Int.tdiv x2 2) := by first | omega | assumption | (simp only [mk_len, List.length_map]; omega) | decide) (c14 : In3 (Int.tmod x2 2) := by first | omega | assumption | (simp only [mk_len, List.length_map]; omega) | decide) : wr P d sw_c562 sw_h562 (41, [r0, vi x1, vi x2, t3, t4, t5], [], h, kc, ks) Q := by
  refine w_ld rfl rfl (Or.inl ⟨by decide, rfl⟩) ?_
  refine w_c32 rfl (by decide) 2 (by decide) ?_
  refine w_idiv rfl c1 (by decide) (by decide) ?_
  refine w_st (ls' := [r0, vi x1, vi x2, vi (Int.tdiv x2 2), t4, t5]) rfl (Or.inl ⟨by decide, rfl⟩) rfl ?_
  refine w_ld rfl rfl (Or.inr (Or.inr ⟨by decide, y2⟩)) ?_
  subst e_q3
  refine w_getf rfl g5 n7 ?_
  refine w_ld rfl rfl (Or.inl ⟨by decide, rfl⟩) ?_
  subst e_q8
  refine w_iald rfl g10 (Or.inl rfl) c13 c12 c11 ?_
  refine w_st (ls' := [.index q3, vi x1, vi x2, vi (Int.tdiv x2 2), vi (gi a9 (Int.tdiv x2 2)), t5]) rfl (Or.inl ⟨by decide, rfl⟩) rfl ?_
  refine w_ld rfl rfl (Or.inl ⟨by decide, rfl⟩) ?_
  refine w_c32 rfl (by decide) 2 (by decide) ?_
  refine w_irem rfl c1 (by decide) (by decide) ?_
  refine w_c32 rfl (by decide) 1 (by decide) ?_
  exact w_if2 rfl c14 (by decide) k1 k2

theorem k562_60 {P : s_P} {d : Nat} {Q : s_O → Prop} {h : s_H} {kc ks : Nat} {r0 : Term} {x1 x2 x3 x4 : Int} {t5 : Term} {q2 : Nat} {f3 : List Term} (g4 : s_get h q2 = some (1, 11, f3)) (k : wm P d 558 [.index q2, vi 40] h (wq P d sw_c562 sw_h562 66 [.index q2, vi x1, vi x2, vi x3, vi x4, t5] [] kc ks Q)) (e_q2 : r0 = .index q2 := by first | rfl | assumption) (y1 : s_ty r0 = 3 := by first | rfl | assumption)  : wr P d sw_c562 sw_h562 (60, [r0, vi x1, vi x2, vi x3, vi x4, t5], [], h, kc, ks) Q := by
  refine w_ld rfl rfl (Or.inr (Or.inr ⟨by decide, y1⟩)) ?_
  refine w_c32 rfl (by decide) 40 (by decide) ?_
  subst e_q2
  exact w_cv rfl [.index q2, vi 40] [] rfl rfl (s_wt_4 rfl) rfl g4 k

theorem k562_66 {P : s_P} {d : Nat} {Q : s_O → Prop} {h : s_H} {kc ks : Nat} {r0 : Term} {x1 x2 x3 x4 : Int} {t5 : Term} {q2 : Nat} {f3 : List Term} {v5 : Term} {q7 : Nat} {a8 : List Int} (g4 : s_get h q2 = some (1, 11, f3)) (g9 : s_get h q7 = some (0, 0, a8.map vi)) (k : wr P d sw_c562 sw_h562 (77, [.index q2, vi (x1 + 1), vi x2, vi x3, vi x4, t5], [], (hp h q7 (0, 0, (a8.set (Int.toNat (x1)) (-41)).map vi)), kc, ks) Q) (e_q2 : r0 = .index q2 := by first | rfl | assumption) (e_q7 : v5 = .index q7 := by first | rfl | assumption) (y1 : s_ty r0 = 3 := by first | rfl | assumption) (n6 : s_nth f3 93 = some v5 := by first | rfl | assumption) (c10 : x1 < a8.length := by first | omega | assumption | (simp only [mk_len, List.length_map]; omega) | decide) (c11 : 0 ≤ x1 := by first | omega | assumption | (simp only [mk_len, List.length_map]; omega) | decide) (c12 : In3 x1 := by first | omega | assumption | (simp only [mk_len, List.length_map]; omega) | decide) (c13 : 0 < q7 := by first | omega | assumption | (simp only [mk_len, List.length_map]; omega) | decide) : wr P d sw_c562 sw_h562 (66, [r0, vi x1, vi x2, vi x3, vi x4, t5], [], h, kc, ks) Q := by
  refine w_ld rfl rfl (Or.inr (Or.inr ⟨by decide, y1⟩)) ?_
  subst e_q2
  refine w_getf rfl g4 n6 ?_
  refine w_ld rfl rfl (Or.inl ⟨by decide, rfl⟩) ?_
  refine w_c32 rfl (by decide) (-41) (by decide) ?_
  subst e_q7
  refine w_iast rfl g9 (Nat.ble_eq_true_of_le c13) c12 c11 c10 ?_
  refine w_iinc (ls' := [.index q2, vi (x1 + 1), vi x2, vi x3, vi x4, t5]) rfl rfl 1 (by decide) rfl ?_
  exact k

theorem k562_77 {P : s_P} {d : Nat} {Q : s_O → Prop} {h : s_H} {kc ks : Nat} {r0 : Term} {x1 x2 x3 x4 : Int} {t5 : Term}  (k1 : x4 ≠ 0 → wr P d sw_c562 sw_h562 (93, [r0, vi x1, vi x2, vi x3, vi x4, t5], [], h, kc, ks) Q) (k2 : ¬ x4 ≠ 0 → wr P d sw_c562 sw_h562 (82, [r0, vi x1, vi x2, vi x3, vi x4, t5], [], h, kc, ks) Q)  (c1 : In3 x4 := by first | omega | assumption | (simp only [mk_len, List.length_map]; omega) | decide) : wr P d sw_c562 sw_h562 (77, [r0, vi x1, vi x2, vi x3, vi x4, t5], [], h, kc, ks) Q := by
  refine w_ld rfl rfl (Or.inl ⟨by decide, rfl⟩) ?_
  exact w_if1 rfl c1 k1 k2

theorem k562_82 {P : s_P} {d : Nat} {Q : s_O → Prop} {h : s_H} {kc ks : Nat} {r0 : Term} {x1 x2 x3 x4 : Int} {t5 : Term} {q2 : Nat} {f3 : List Term} {v5 : Term} {q7 : Nat} {a8 : List Int} (g4 : s_get h q2 = some (1, 11, f3)) (g9 : s_get h q7 = some (0, 0, a8.map vi)) (k : wm P d 560 [.index q2, vl (gi a8 x3)] h (wq P d sw_c562 sw_h562 93 [.index q2, vi x1, vi x2, vi x3, vi x4, t5] [] kc ks Q)) (e_q2 : r0 = .index q2 := by first | rfl | assumption) (e_q7 : v5 = .index q7 := by first | rfl | assumption) (y1 : s_ty r0 = 3 := by first | rfl | assumption) (n6 : s_nth f3 84 = some v5 := by first | rfl | assumption) (c10 : x3 < a8.length := by first | omega | assumption | (simp only [mk_len, List.length_map]; omega) | decide) (c11 : 0 ≤ x3 := by first | omega | assumption | (simp only [mk_len, List.length_map]; omega) | decide) (c12 : In3 x3 := by first | omega | assumption | (simp only [mk_len, List.length_map]; omega) | decide) (c13 : In3 (gi a8 x3) := by first | omega | assumption | (simp only [mk_len, List.length_map]; omega) | decide) : wr P d sw_c562 sw_h562 (82, [r0, vi x1, vi x2, vi x3, vi x4, t5], [], h, kc, ks) Q := by
  refine w_ld rfl rfl (Or.inr (Or.inr ⟨by decide, y1⟩)) ?_
  refine w_ld rfl rfl (Or.inr (Or.inr ⟨by decide, y1⟩)) ?_
  subst e_q2
  refine w_getf rfl g4 n6 ?_
  refine w_ld rfl rfl (Or.inl ⟨by decide, rfl⟩) ?_
  subst e_q7
  refine w_iald rfl g9 (Or.inl rfl) c12 c11 c10 ?_
  refine w_i2l rfl c13 ?_
  exact w_cv rfl [.index q2, vl (gi a8 x3)] [] rfl rfl (s_wt_4 rfl) rfl g4 k

theorem k562_93 {P : s_P} {d : Nat} {Q : s_O → Prop} {h : s_H} {kc ks : Nat} {r0 : Term} {x1 x2 x3 x4 : Int} {t5 : Term}  (k1 : x4 ≠ 1 → wr P d sw_c562 sw_h562 (105, [r0, vi x1, vi x2, vi x3, vi x4, t5], [], h, kc, ks) Q) (k2 : ¬ x4 ≠ 1 → wr P d sw_c562 sw_h562 (99, [r0, vi x1, vi x2, vi x3, vi x4, t5], [], h, kc, ks) Q)  (c1 : In3 x4 := by first | omega | assumption | (simp only [mk_len, List.length_map]; omega) | decide) : wr P d sw_c562 sw_h562 (93, [r0, vi x1, vi x2, vi x3, vi x4, t5], [], h, kc, ks) Q := by
  refine w_ld rfl rfl (Or.inl ⟨by decide, rfl⟩) ?_
  refine w_c32 rfl (by decide) 1 (by decide) ?_
  exact w_if2 rfl c1 (by decide) k1 k2

theorem k562_99 {P : s_P} {d : Nat} {Q : s_O → Prop} {h : s_H} {kc ks : Nat} {r0 : Term} {x1 x2 x3 x4 : Int} {t5 : Term} {q2 : Nat} {f3 : List Term} (g4 : s_get h q2 = some (1, 11, f3)) (k : wm P d 558 [.index q2, vi 120] h (wq P d sw_c562 sw_h562 105 [.index q2, vi x1, vi x2, vi x3, vi x4, t5] [] kc ks Q)) (e_q2 : r0 = .index q2 := by first | rfl | assumption) (y1 : s_ty r0 = 3 := by first | rfl | assumption)  : wr P d sw_c562 sw_h562 (99, [r0, vi x1, vi x2, vi x3, vi x4, t5], [], h, kc, ks) Q := by
  refine w_ld rfl rfl (Or.inr (Or.inr ⟨by decide, y1⟩)) ?_
  refine w_c32 rfl (by decide) 120 (by decide) ?_
  subst e_q2
  exact w_cv rfl [.index q2, vi 120] [] rfl rfl (s_wt_4 rfl) rfl g4 k

theorem k562_105 {P : s_P} {d : Nat} {Q : s_O → Prop} {h : s_H} {kc ks : Nat} {r0 : Term} {x1 x2 x3 x4 : Int} {t5 : Term}  (k1 : x4 ≠ 6 → wr P d sw_c562 sw_h562 (118, [r0, vi x1, vi x2, vi x3, vi x4, t5], [], h, kc, ks) Q) (k2 : ¬ x4 ≠ 6 → wr P d sw_c562 sw_h562 (112, [r0, vi x1, vi x2, vi x3, vi x4, t5], [], h, kc, ks) Q)  (c1 : In3 x4 := by first | omega | assumption | (simp only [mk_len, List.length_map]; omega) | decide) : wr P d sw_c562 sw_h562 (105, [r0, vi x1, vi x2, vi x3, vi x4, t5], [], h, kc, ks) Q := by
  refine w_ld rfl rfl (Or.inl ⟨by decide, rfl⟩) ?_
  refine w_c32 rfl (by decide) 6 (by decide) ?_
  exact w_if2 rfl c1 (by decide) k1 k2

theorem k562_112 {P : s_P} {d : Nat} {Q : s_O → Prop} {h : s_H} {kc ks : Nat} {r0 : Term} {x1 x2 x3 x4 : Int} {t5 : Term} {q2 : Nat} {f3 : List Term} (g4 : s_get h q2 = some (1, 11, f3)) (k : wm P d 558 [.index q2, vi 45] h (wq P d sw_c562 sw_h562 118 [.index q2, vi x1, vi x2, vi x3, vi x4, t5] [] kc ks Q)) (e_q2 : r0 = .index q2 := by first | rfl | assumption) (y1 : s_ty r0 = 3 := by first | rfl | assumption)  : wr P d sw_c562 sw_h562 (112, [r0, vi x1, vi x2, vi x3, vi x4, t5], [], h, kc, ks) Q := by
  refine w_ld rfl rfl (Or.inr (Or.inr ⟨by decide, y1⟩)) ?_
  refine w_c32 rfl (by decide) 45 (by decide) ?_
  subst e_q2
  exact w_cv rfl [.index q2, vi 45] [] rfl rfl (s_wt_4 rfl) rfl g4 k

theorem k562_118 {P : s_P} {d : Nat} {Q : s_O → Prop} {h : s_H} {kc ks : Nat} {r0 : Term} {x1 x2 x3 x4 : Int} {t5 : Term}  (k1 : x4 ≠ 7 → wr P d sw_c562 sw_h562 (137, [r0, vi x1, vi x2, vi x3, vi x4, t5], [], h, kc, ks) Q) (k2 : ¬ x4 ≠ 7 → wr P d sw_c562 sw_h562 (125, [r0, vi x1, vi x2, vi x3, vi x4, t5], [], h, kc, ks) Q)  (c1 : In3 x4 := by first | omega | assumption | (simp only [mk_len, List.length_map]; omega) | decide) : wr P d sw_c562 sw_h562 (118, [r0, vi x1, vi x2, vi x3, vi x4, t5], [], h, kc, ks) Q := by
  refine w_ld rfl rfl (Or.inl ⟨by decide, rfl⟩) ?_
  refine w_c32 rfl (by decide) 7 (by decide) ?_
  exact w_if2 rfl c1 (by decide) k1 k2

theorem k562_125 {P : s_P} {d : Nat} {Q : s_O → Prop} {h : s_H} {kc ks : Nat} {r0 : Term} {x1 x2 x3 x4 : Int} {t5 : Term} {q2 : Nat} {f3 : List Term} {v5 : Term} {q7 : Nat} {a8 : List Int} (g4 : s_get h q2 = some (1, 11, f3)) (g9 : s_get h q7 = some (0, 0, a8.map vi)) (k : wm P d 548 [.index q2, vi x1, vi (gi a8 x3)] h (wq P d sw_c562 sw_h562 136 [.index q2, vi x1, vi x2, vi x3, vi x4, t5] [] kc ks Q)) (e_q2 : r0 = .index q2 := by first | rfl | assumption) (e_q7 : v5 = .index q7 := by first | rfl | assumption) (y1 : s_ty r0 = 3 := by first | rfl | assumption) (n6 : s_nth f3 84 = some v5 := by first | rfl | assumption) (c10 : x3 < a8.length := by first | omega | assumption | (simp only [mk_len, List.length_map]; omega) | decide) (c11 : 0 ≤ x3 := by first | omega | assumption | (simp only [mk_len, List.length_map]; omega) | decide) (c12 : In3 x3 := by first | omega | assumption | (simp only [mk_len, List.length_map]; omega) | decide) : wr P d sw_c562 sw_h562 (125, [r0, vi x1, vi x2, vi x3, vi x4, t5], [], h, kc, ks) Q := by
  refine w_ld rfl rfl (Or.inr (Or.inr ⟨by decide, y1⟩)) ?_
  refine w_ld rfl rfl (Or.inl ⟨by decide, rfl⟩) ?_
  refine w_ld rfl rfl (Or.inr (Or.inr ⟨by decide, y1⟩)) ?_
  subst e_q2
  refine w_getf rfl g4 n6 ?_
  refine w_ld rfl rfl (Or.inl ⟨by decide, rfl⟩) ?_
  subst e_q7
  refine w_iald rfl g9 (Or.inl rfl) c12 c11 c10 ?_
  exact w_cv rfl [.index q2, vi x1, vi (gi a8 x3)] [] rfl rfl (s_wt_4 rfl) rfl g4 k

theorem k562_136 {P : s_P} {d : Nat} {Q : s_O → Prop} {h : s_H} {kc ks : Nat} {r0 : Term} {x1 x2 x3 x4 : Int} {t5 : Term} {s0 : Int}  (k : wr P d sw_c562 sw_h562 (137, [r0, vi s0, vi x2, vi x3, vi x4, t5], [], h, kc, ks) Q) (y1 : s_ty r0 = 3 := by first | rfl | assumption)  : wr P d sw_c562 sw_h562 (136, [r0, vi x1, vi x2, vi x3, vi x4, t5], [vi s0], h, kc, ks) Q := by
  refine w_st (ls' := [r0, vi s0, vi x2, vi x3, vi x4, t5]) rfl (Or.inl ⟨by decide, rfl⟩) (s_stK_r (pre := []) y1) ?_
  exact k

theorem k562_137 {P : s_P} {d : Nat} {Q : s_O → Prop} {h : s_H} {kc ks : Nat} {r0 : Term} {x1 x2 x3 x4 : Int} {t5 : Term}  (k : wm P d 547 [vi x4] h (wq P d sw_c562 sw_h562 142 [r0, vi x1, vi x2, vi x3, vi x4, t5] [] kc ks Q))   : wr P d sw_c562 sw_h562 (137, [r0, vi x1, vi x2, vi x3, vi x4, t5], [], h, kc, ks) Q := by
  refine w_ld rfl rfl (Or.inl ⟨by decide, rfl⟩) ?_
  exact w_cs rfl [vi x4] [] rfl rfl (s_wt_4 rfl) k

theorem k562_142 {P : s_P} {d : Nat} {Q : s_O → Prop} {h : s_H} {kc ks : Nat} {r0 : Term} {x1 x2 x3 x4 : Int} {t5 : Term} {s0 : Int}  (k1 : s0 ≠ 2 → wr P d sw_c562 sw_h562 (204, [r0, vi x1, vi x2, vi x3, vi x4, t5], [], h, kc, ks) Q) (k2 : ¬ s0 ≠ 2 → wr P d sw_c562 sw_h562 (146, [r0, vi x1, vi x2, vi x3, vi x4, t5], [], h, kc, ks) Q)  (c1 : In3 s0 := by first | omega | assumption | (simp only [mk_len, List.length_map]; omega) | decide) : wr P d sw_c562 sw_h562 (142, [r0, vi x1, vi x2, vi x3, vi x4, t5], [vi s0], h, kc, ks) Q := by
  refine w_c32 rfl (by decide) 2 (by decide) ?_
  exact w_if2 rfl c1 (by decide) k1 k2

theorem k562_146 {P : s_P} {d : Nat} {Q : s_O → Prop} {h : s_H} {kc ks : Nat} {r0 : Term} {x1 x2 x3 x4 : Int} {t5 : Term} {q2 : Nat} {f3 : List Term} (g4 : s_get h q2 = some (1, 11, f3)) (k : wm P d 407 [.index q2, vi (x3 + 1)] h (wq P d sw_c562 sw_h562 153 [.index q2, vi x1, vi x2, vi x3, vi x4, t5] [] kc ks Q)) (e_q2 : r0 = .index q2 := by first | rfl | assumption) (y1 : s_ty r0 = 3 := by first | rfl | assumption)  : wr P d sw_c562 sw_h562 (146, [r0, vi x1, vi x2, vi x3, vi x4, t5], [], h, kc, ks) Q := by
  refine w_ld rfl rfl (Or.inr (Or.inr ⟨by decide, y1⟩)) ?_
  refine w_ld rfl rfl (Or.inl ⟨by decide, rfl⟩) ?_
  refine w_c32 rfl (by decide) 1 (by decide) ?_
  refine w_iadd rfl ?_
  subst e_q2
  exact w_cv rfl [.index q2, vi (x3 + 1)] [] rfl rfl (s_wt_4 rfl) rfl g4 k

theorem k562_153 {P : s_P} {d : Nat} {Q : s_O → Prop} {h : s_H} {kc ks : Nat} {r0 : Term} {x1 x2 x3 x4 : Int} {t5 : Term} {s0 : Int} {q2 : Nat} {f3 : List Term} {v5 v7 : Term} {q9 : Nat} {a10 : List Int} (g4 : s_get h q2 = some (1, 11, f3)) (g11 : s_get h q9 = some (0, 0, a10.map vi)) (k : wm P d 472 [vi x4, vi 1, vi (gi a10 s0)] h (wq P d sw_c562 sw_h562 177 [.index q2, vi x1, vi x2, vi x3, vi x4, vi s0] [vi (2 * s0), vi x1, v5] kc ks Q)) (e_q2 : r0 = .index q2 := by first | rfl | assumption) (e_q9 : v7 = .index q9 := by first | rfl | assumption) (y1 : s_ty r0 = 3 := by first | rfl | assumption) (n6 : s_nth f3 93 = some v5 := by first | rfl | assumption) (n8 : s_nth f3 83 = some v7 := by first | rfl | assumption) (c12 : s0 < a10.length := by first | omega | assumption | (simp only [mk_len, List.length_map]; omega) | decide) (c13 : 0 ≤ s0 := by first | omega | assumption | (simp only [mk_len, List.length_map]; omega) | decide) (c14 : In3 s0 := by first | omega | assumption | (simp only [mk_len, List.length_map]; omega) | decide) : wr P d sw_c562 sw_h562 (153, [r0, vi x1, vi x2, vi x3, vi x4, t5], [vi s0], h, kc, ks) Q := by
  refine w_st (ls' := [r0, vi x1, vi x2, vi x3, vi x4, vi s0]) rfl (Or.inl ⟨by decide, rfl⟩) rfl ?_
  refine w_ld rfl rfl (Or.inr (Or.inr ⟨by decide, y1⟩)) ?_
  subst e_q2
  refine w_getf rfl g4 n6 ?_
  refine w_ld rfl rfl (Or.inl ⟨by decide, rfl⟩) ?_
  refine w_c32 rfl (by decide) 2 (by decide) ?_
  refine w_ld rfl rfl (Or.inl ⟨by decide, rfl⟩) ?_
  refine w_imul rfl ?_
  refine w_ld rfl rfl (Or.inl ⟨by decide, rfl⟩) ?_
  refine w_c32 rfl (by decide) 1 (by decide) ?_
  refine w_ld rfl rfl (Or.inr (Or.inr ⟨by decide, rfl⟩)) ?_
  refine w_getf rfl g4 n8 ?_
  refine w_ld rfl rfl (Or.inl ⟨by decide, rfl⟩) ?_
  subst e_q9
  refine w_iald rfl g11 (Or.inl rfl) c14 c13 c12 ?_
  exact w_cs rfl [vi x4, vi 1, vi (gi a10 s0)] [vi (2 * s0), vi x1, v5] rfl rfl (s_wt_4 rfl) k

theorem k562_177 {P : s_P} {d : Nat} {Q : s_O → Prop} {h : s_H} {kc ks : Nat} {r0 : Term} {x1 x2 x3 x4 x5 : Int} {s0 : Term} {s1 s2 s3 : Int}  (k1 : s3 = 0 → wr P d sw_c562 sw_h562 (184, [r0, vi x1, vi x2, vi x3, vi x4, vi x5], [vi s2, vi s1, s0], h, kc, ks) Q) (k2 : ¬ s3 = 0 → wr P d sw_c562 sw_h562 (180, [r0, vi x1, vi x2, vi x3, vi x4, vi x5], [vi s2, vi s1, s0], h, kc, ks) Q)  (c1 : In3 s3 := by first | omega | assumption | (simp only [mk_len, List.length_map]; omega) | decide) : wr P d sw_c562 sw_h562 (177, [r0, vi x1, vi x2, vi x3, vi x4, vi x5], [vi s3, vi s2, vi s1, s0], h, kc, ks) Q := by
  exact w_if1 rfl c1 k1 k2

theorem k562_180 {P : s_P} {d : Nat} {Q : s_O → Prop} {h : s_H} {kc ks : Nat} {r0 : Term} {x1 x2 x3 x4 x5 : Int} {s0 : Term} {s1 s2 : Int}  (k : wr P d sw_c562 sw_h562 (185, [r0, vi x1, vi x2, vi x3, vi x4, vi x5], [vi 1, vi s2, vi s1, s0], h, kc, ks) Q)   : wr P d sw_c562 sw_h562 (180, [r0, vi x1, vi x2, vi x3, vi x4, vi x5], [vi s2, vi s1, s0], h, kc, ks) Q := by
  refine w_c32 rfl (by decide) 1 (by decide) ?_
  refine w_goto rfl ?_
  exact k

theorem k562_184 {P : s_P} {d : Nat} {Q : s_O → Prop} {h : s_H} {kc ks : Nat} {r0 : Term} {x1 x2 x3 x4 x5 : Int} {s0 : Term} {s1 s2 : Int}  (k : wr P d sw_c562 sw_h562 (185, [r0, vi x1, vi x2, vi x3, vi x4, vi x5], [vi 0, vi s2, vi s1, s0], h, kc, ks) Q)   : wr P d sw_c562 sw_h562 (184, [r0, vi x1, vi x2, vi x3, vi x4, vi x5], [vi s2, vi s1, s0], h, kc, ks) Q := by
  refine w_c32 rfl (by decide) 0 (by decide) ?_
  exact k

theorem k562_185 {P : s_P} {d : Nat} {Q : s_O → Prop} {h : s_H} {kc ks : Nat} {r0 : Term} {x1 x2 x3 x4 x5 : Int} {s0 : Term} {s1 s2 s3 : Int} {q1 : Nat} {a2 : List Int} {q9 : Nat} {f10 : List Term} {v12 : Term} (g3 : s_get h q1 = some (0, 0, a2.map vi)) (g11 : s_get (hp h q1 (0, 0, (a2.set (Int.toNat (s1)) (s2 + s3)).map vi)) q9 = some (1, 11, f10)) (k : wm P d 594 [vi x4] (hp h q1 (0, 0, (a2.set (Int.toNat (s1)) (s2 + s3)).map vi)) (wq P d sw_c562 sw_h562 199 [.index q9, vi x1, vi x2, vi x3, vi x4, vi x5] [vi (x1 + 1), v12] kc ks Q)) (e_q1 : s0 = .index q1 := by first | rfl | assumption) (e_q9 : r0 = .index q9 := by first | rfl | assumption) (y8 : s_ty r0 = 3 := by first | rfl | assumption) (n13 : s_nth f10 93 = some v12 := by first | rfl | assumption) (c4 : s1 < a2.length := by first | omega | assumption | (simp only [mk_len, List.length_map]; omega) | decide) (c5 : 0 ≤ s1 := by first | omega | assumption | (simp only [mk_len, List.length_map]; omega) | decide) (c6 : In3 s1 := by first | omega | assumption | (simp only [mk_len, List.length_map]; omega) | decide) (c7 : 0 < q1 := by first | omega | assumption | (simp only [mk_len, List.length_map]; omega) | decide) : wr P d sw_c562 sw_h562 (185, [r0, vi x1, vi x2, vi x3, vi x4, vi x5], [vi s3, vi s2, vi s1, s0], h, kc, ks) Q := by
  refine w_iadd rfl ?_
  subst e_q1
  refine w_iast rfl g3 (Nat.ble_eq_true_of_le c7) c6 c5 c4 ?_
  refine w_ld rfl rfl (Or.inr (Or.inr ⟨by decide, y8⟩)) ?_
  subst e_q9
  refine w_getf rfl g11 n13 ?_
  refine w_ld rfl rfl (Or.inl ⟨by decide, rfl⟩) ?_
  refine w_c32 rfl (by decide) 1 (by decide) ?_
  refine w_iadd rfl ?_
  refine w_ld rfl rfl (Or.inl ⟨by decide, rfl⟩) ?_
  exact w_cs rfl [vi x4] [vi (x1 + 1), v12] rfl rfl (s_wt_4 rfl) k

theorem k562_199 {P : s_P} {d : Nat} {Q : s_O → Prop} {h : s_H} {kc ks : Nat} {r0 : Term} {x1 x2 x3 x4 x5 : Int} {s0 : Term} {s1 s2 : Int} {q1 : Nat} {a2 : List Int} (g3 : s_get h q1 = some (0, 0, a2.map vi)) (k : wr P d sw_c562 sw_h562 (204, [r0, vi (x1 + 2), vi x2, vi x3, vi x4, vi x5], [], (hp h q1 (0, 0, (a2.set (Int.toNat (s1)) (-s2)).map vi)), kc, ks) Q) (e_q1 : s0 = .index q1 := by first | rfl | assumption) (y8 : s_ty r0 = 3 := by first | rfl | assumption) (c4 : s1 < a2.length := by first | omega | assumption | (simp only [mk_len, List.length_map]; omega) | decide) (c5 : 0 ≤ s1 := by first | omega | assumption | (simp only [mk_len, List.length_map]; omega) | decide) (c6 : In3 s1 := by first | omega | assumption | (simp only [mk_len, List.length_map]; omega) | decide) (c7 : 0 < q1 := by first | omega | assumption | (simp only [mk_len, List.length_map]; omega) | decide) : wr P d sw_c562 sw_h562 (199, [r0, vi x1, vi x2, vi x3, vi x4, vi x5], [vi s2, vi s1, s0], h, kc, ks) Q := by
  refine w_ineg rfl ?_
  subst e_q1
  refine w_iast rfl g3 (Nat.ble_eq_true_of_le c7) c6 c5 c4 ?_
  refine w_iinc (ls' := [r0, vi (x1 + 2), vi x2, vi x3, vi x4, vi x5]) rfl rfl 2 (by decide) (s_stK_r (pre := []) y8) ?_
  exact k

theorem k562_204 {P : s_P} {d : Nat} {Q : s_O → Prop} {h : s_H} {kc ks : Nat} {r0 : Term} {x1 x2 x3 x4 : Int} {t5 : Term}  (k1 : x4 ≤ 1 → wr P d sw_c562 sw_h562 (247, [r0, vi x1, vi x2, vi x3, vi x4, t5], [], h, kc, ks) Q) (k2 : ¬ x4 ≤ 1 → wr P d sw_c562 sw_h562 (210, [r0, vi x1, vi x2, vi x3, vi x4, t5], [], h, kc, ks) Q)  (c1 : In3 x4 := by first | omega | assumption | (simp only [mk_len, List.length_map]; omega) | decide) : wr P d sw_c562 sw_h562 (204, [r0, vi x1, vi x2, vi x3, vi x4, t5], [], h, kc, ks) Q := by
  refine w_ld rfl rfl (Or.inl ⟨by decide, rfl⟩) ?_
  refine w_c32 rfl (by decide) 1 (by decide) ?_
  exact w_if2 rfl c1 (by decide) k1 k2

theorem k562_210 {P : s_P} {d : Nat} {Q : s_O → Prop} {h : s_H} {kc ks : Nat} {r0 : Term} {x1 x2 x3 x4 : Int} {t5 : Term} {q2 : Nat} {f3 : List Term} {v5 v7 : Term} {q9 : Nat} {a10 : List Int} (g4 : s_get h q2 = some (1, 11, f3)) (g11 : s_get h q9 = some (0, 0, a10.map vi)) (k : wm P d 472 [vi x4, vi 0, vi (gi a10 (x3 + 1))] h (wq P d sw_c562 sw_h562 234 [.index q2, vi x1, vi x2, vi x3, vi x4, t5] [vi (2 * (x3 + 1)), vi x1, v5] kc ks Q)) (e_q2 : r0 = .index q2 := by first | rfl | assumption) (e_q9 : v7 = .index q9 := by first | rfl | assumption) (y1 : s_ty r0 = 3 := by first | rfl | assumption) (n6 : s_nth f3 93 = some v5 := by first | rfl | assumption) (n8 : s_nth f3 83 = some v7 := by first | rfl | assumption) (c12 : x3 + 1 < a10.length := by first | omega | assumption | (simp only [mk_len, List.length_map]; omega) | decide) (c13 : 0 ≤ x3 + 1 := by first | omega | assumption | (simp only [mk_len, List.length_map]; omega) | decide) (c14 : In3 (x3 + 1) := by first | omega | assumption | (simp only [mk_len, List.length_map]; omega) | decide) : wr P d sw_c562 sw_h562 (210, [r0, vi x1, vi x2, vi x3, vi x4, t5], [], h, kc, ks) Q := by
  refine w_ld rfl rfl (Or.inr (Or.inr ⟨by decide, y1⟩)) ?_
  subst e_q2
  refine w_getf rfl g4 n6 ?_
  refine w_ld rfl rfl (Or.inl ⟨by decide, rfl⟩) ?_
  refine w_c32 rfl (by decide) 2 (by decide) ?_
  refine w_ld rfl rfl (Or.inl ⟨by decide, rfl⟩) ?_
  refine w_c32 rfl (by decide) 1 (by decide) ?_
  refine w_iadd rfl ?_
  refine w_imul rfl ?_
  refine w_ld rfl rfl (Or.inl ⟨by decide, rfl⟩) ?_
  refine w_c32 rfl (by decide) 0 (by decide) ?_
  refine w_ld rfl rfl (Or.inr (Or.inr ⟨by decide, rfl⟩)) ?_
  refine w_getf rfl g4 n8 ?_
  refine w_ld rfl rfl (Or.inl ⟨by decide, rfl⟩) ?_
  refine w_c32 rfl (by decide) 1 (by decide) ?_
  refine w_iadd rfl ?_
  subst e_q9
  refine w_iald rfl g11 (Or.inl rfl) c14 c13 c12 ?_
  exact w_cs rfl [vi x4, vi 0, vi (gi a10 (x3 + 1))] [vi (2 * (x3 + 1)), vi x1, v5] rfl rfl (s_wt_4 rfl) k

theorem k562_234 {P : s_P} {d : Nat} {Q : s_O → Prop} {h : s_H} {kc ks : Nat} {r0 : Term} {x1 x2 x3 x4 : Int} {t5 s0 : Term} {s1 s2 s3 : Int}  (k1 : s3 = 0 → wr P d sw_c562 sw_h562 (241, [r0, vi x1, vi x2, vi x3, vi x4, t5], [vi s2, vi s1, s0], h, kc, ks) Q) (k2 : ¬ s3 = 0 → wr P d sw_c562 sw_h562 (237, [r0, vi x1, vi x2, vi x3, vi x4, t5], [vi s2, vi s1, s0], h, kc, ks) Q)  (c1 : In3 s3 := by first | omega | assumption | (simp only [mk_len, List.length_map]; omega) | decide) : wr P d sw_c562 sw_h562 (234, [r0, vi x1, vi x2, vi x3, vi x4, t5], [vi s3, vi s2, vi s1, s0], h, kc, ks) Q := by
  exact w_if1 rfl c1 k1 k2

theorem k562_237 {P : s_P} {d : Nat} {Q : s_O → Prop} {h : s_H} {kc ks : Nat} {r0 : Term} {x1 x2 x3 x4 : Int} {t5 s0 : Term} {s1 s2 : Int}  (k : wr P d sw_c562 sw_h562 (242, [r0, vi x1, vi x2, vi x3, vi x4, t5], [vi 1, vi s2, vi s1, s0], h, kc, ks) Q)   : wr P d sw_c562 sw_h562 (237, [r0, vi x1, vi x2, vi x3, vi x4, t5], [vi s2, vi s1, s0], h, kc, ks) Q := by
  refine w_c32 rfl (by decide) 1 (by decide) ?_
  refine w_goto rfl ?_
  exact k

theorem k562_241 {P : s_P} {d : Nat} {Q : s_O → Prop} {h : s_H} {kc ks : Nat} {r0 : Term} {x1 x2 x3 x4 : Int} {t5 s0 : Term} {s1 s2 : Int}  (k : wr P d sw_c562 sw_h562 (242, [r0, vi x1, vi x2, vi x3, vi x4, t5], [vi 0, vi s2, vi s1, s0], h, kc, ks) Q)   : wr P d sw_c562 sw_h562 (241, [r0, vi x1, vi x2, vi x3, vi x4, t5], [vi s2, vi s1, s0], h, kc, ks) Q := by
  refine w_c32 rfl (by decide) 0 (by decide) ?_
  exact k

theorem k562_242 {P : s_P} {d : Nat} {Q : s_O → Prop} {h : s_H} {kc ks : Nat} {r0 : Term} {x1 x2 x3 x4 : Int} {t5 s0 : Term} {s1 s2 s3 : Int} {q1 : Nat} {a2 : List Int} (g3 : s_get h q1 = some (0, 0, a2.map vi)) (k : wr P d sw_c562 sw_h562 (247, [r0, vi (x1 + 1), vi x2, vi x3, vi x4, t5], [], (hp h q1 (0, 0, (a2.set (Int.toNat (s1)) (s2 + s3)).map vi)), kc, ks) Q) (e_q1 : s0 = .index q1 := by first | rfl | assumption) (y8 : s_ty r0 = 3 := by first | rfl | assumption) (c4 : s1 < a2.length := by first | omega | assumption | (simp only [mk_len, List.length_map]; omega) | decide) (c5 : 0 ≤ s1 := by first | omega | assumption | (simp only [mk_len, List.length_map]; omega) | decide) (c6 : In3 s1 := by first | omega | assumption | (simp only [mk_len, List.length_map]; omega) | decide) (c7 : 0 < q1 := by first | omega | assumption | (simp only [mk_len, List.length_map]; omega) | decide) : wr P d sw_c562 sw_h562 (242, [r0, vi x1, vi x2, vi x3, vi x4, t5], [vi s3, vi s2, vi s1, s0], h, kc, ks) Q := by
  refine w_iadd rfl ?_
  subst e_q1
  refine w_iast rfl g3 (Nat.ble_eq_true_of_le c7) c6 c5 c4 ?_
  refine w_iinc (ls' := [r0, vi (x1 + 1), vi x2, vi x3, vi x4, t5]) rfl rfl 1 (by decide) (s_stK_r (pre := []) y8) ?_
  exact k

theorem k562_247 {P : s_P} {d : Nat} {Q : s_O → Prop} {h : s_H} {kc ks : Nat} {r0 : Term} {x1 x2 x3 x4 : Int} {t5 : Term}  (k : wr P d sw_c562 sw_h562 (14, [r0, vi x1, vi x2, vi x3, vi x4, t5], [], h, kc, ks) Q)   : wr P d sw_c562 sw_h562 (247, [r0, vi x1, vi x2, vi x3, vi x4, t5], [], h, kc, ks) Q := by
  refine w_goto rfl ?_
  exact k

theorem k562_250 {P : s_P} {d : Nat} {Q : s_O → Prop} {h : s_H} {kc ks : Nat} {r0 : Term} {x1 : Int} {t2 t3 t4 t5 : Term}  (k : Q (.inl none, h, kc, ks))   : wr P d sw_c562 sw_h562 (250, [r0, vi x1, t2, t3, t4, t5], [], h, kc, ks) Q := by
  exact w_ret rfl k

/-! 563: FormulaWorksModel.printed(I)I -/
theorem k563_0 {P : s_P} {d : Nat} {Q : s_O → Prop} {h : s_H} {kc ks : Nat} {r0 : Term} {x1 : Int} {q2 : Nat} {f3 : List Term} (g4 : s_get h q2 = some (1, 11, f3)) (k : wm P d 485 [.index q2, vi x1] h (wq P d sw_c563 sw_h563 5 [.index q2, vi x1] [] kc ks Q)) (e_q2 : r0 = .index q2 := by first | rfl | assumption) (y1 : s_ty r0 = 3 := by first | rfl | assumption)  : wr P d sw_c563 sw_h563 (0, [r0, vi x1], [], h, kc, ks) Q := by
  refine w_ld rfl rfl (Or.inr (Or.inr ⟨by decide, y1⟩)) ?_
  refine w_ld rfl rfl (Or.inl ⟨by decide, rfl⟩) ?_
  subst e_q2
  exact w_cv rfl [.index q2, vi x1] [] rfl rfl (s_wt_4 rfl) rfl g4 k

theorem k563_5 {P : s_P} {d : Nat} {Q : s_O → Prop} {h : s_H} {kc ks : Nat} {r0 : Term} {x1 s0 : Int}  (k1 : s0 = 0 → wr P d sw_c563 sw_h563 (15, [r0, vi x1], [], h, kc, ks) Q) (k2 : ¬ s0 = 0 → wr P d sw_c563 sw_h563 (8, [r0, vi x1], [], h, kc, ks) Q)  (c1 : In3 s0 := by first | omega | assumption | (simp only [mk_len, List.length_map]; omega) | decide) : wr P d sw_c563 sw_h563 (5, [r0, vi x1], [vi s0], h, kc, ks) Q := by
  exact w_if1 rfl c1 k1 k2

theorem k563_8 {P : s_P} {d : Nat} {Q : s_O → Prop} {h : s_H} {kc ks : Nat} {r0 : Term} {x1 : Int} {q2 : Nat} {f3 : List Term} {z5 : Int} (g4 : s_get h q2 = some (1, 11, f3)) (k : wr P d sw_c563 sw_h563 (16, [.index q2, vi x1], [vi z5], h, kc, ks) Q) (e_q2 : r0 = .index q2 := by first | rfl | assumption) (y1 : s_ty r0 = 3 := by first | rfl | assumption) (n6 : s_nth f3 77 = some (vi z5) := by first | rfl | assumption)  : wr P d sw_c563 sw_h563 (8, [r0, vi x1], [], h, kc, ks) Q := by
  refine w_ld rfl rfl (Or.inr (Or.inr ⟨by decide, y1⟩)) ?_
  subst e_q2
  refine w_getf rfl g4 n6 ?_
  refine w_goto rfl ?_
  exact k

theorem k563_15 {P : s_P} {d : Nat} {Q : s_O → Prop} {h : s_H} {kc ks : Nat} {r0 : Term} {x1 : Int}  (k : wr P d sw_c563 sw_h563 (16, [r0, vi x1], [vi 0], h, kc, ks) Q)   : wr P d sw_c563 sw_h563 (15, [r0, vi x1], [], h, kc, ks) Q := by
  refine w_c32 rfl (by decide) 0 (by decide) ?_
  exact k

theorem k563_16 {P : s_P} {d : Nat} {Q : s_O → Prop} {h : s_H} {kc ks : Nat} {r0 : Term} {x1 s0 : Int}  (k : Q (.inl (some (vi s0)), h, kc, ks))   : wr P d sw_c563 sw_h563 (16, [r0, vi x1], [vi s0], h, kc, ks) Q := by
  exact w_iret rfl k

/-! 564: FormulaWorksModel.productAll()V -/
theorem k564_0 {P : s_P} {d : Nat} {Q : s_O → Prop} {h : s_H} {kc ks : Nat} {r0 : Term} {q2 : Nat} {f3 : List Term} {v5 v7 : Term} (g4 : s_get h q2 = some (1, 11, f3)) (k : wm P d 531 [.index q2, v5, v7] h (wq P d sw_c564 sw_h564 12 [.index q2] [] kc ks Q)) (e_q2 : r0 = .index q2 := by first | rfl | assumption) (y1 : s_ty r0 = 3 := by first | rfl | assumption) (n6 : s_nth f3 10 = some v5 := by first | rfl | assumption) (n8 : s_nth f3 12 = some v7 := by first | rfl | assumption)  : wr P d sw_c564 sw_h564 (0, [r0], [], h, kc, ks) Q := by
  refine w_ld rfl rfl (Or.inr (Or.inr ⟨by decide, y1⟩)) ?_
  refine w_ld rfl rfl (Or.inr (Or.inr ⟨by decide, y1⟩)) ?_
  subst e_q2
  refine w_getf rfl g4 n6 ?_
  refine w_ld rfl rfl (Or.inr (Or.inr ⟨by decide, rfl⟩)) ?_
  refine w_getf rfl g4 n8 ?_
  exact w_cv rfl [.index q2, v5, v7] [] rfl rfl (s_wt_4 rfl) rfl g4 k

theorem k564_12 {P : s_P} {d : Nat} {Q : s_O → Prop} {h : s_H} {kc ks : Nat} {r0 : Term} {q2 : Nat} {f3 : List Term} {v5 v7 : Term} (g4 : s_get h q2 = some (1, 11, f3)) (k : wm P d 425 [v5, v7] h (wq P d sw_c564 sw_h564 23 [.index q2] [] kc ks Q)) (e_q2 : r0 = .index q2 := by first | rfl | assumption) (y1 : s_ty r0 = 3 := by first | rfl | assumption) (n6 : s_nth f3 14 = some v5 := by first | rfl | assumption) (n8 : s_nth f3 16 = some v7 := by first | rfl | assumption)  : wr P d sw_c564 sw_h564 (12, [r0], [], h, kc, ks) Q := by
  refine w_ld rfl rfl (Or.inr (Or.inr ⟨by decide, y1⟩)) ?_
  subst e_q2
  refine w_getf rfl g4 n6 ?_
  refine w_ld rfl rfl (Or.inr (Or.inr ⟨by decide, rfl⟩)) ?_
  refine w_getf rfl g4 n8 ?_
  exact w_cs rfl [v5, v7] [] rfl rfl (s_wt_4 rfl) k

theorem k564_23 {P : s_P} {d : Nat} {Q : s_O → Prop} {h : s_H} {kc ks : Nat} {r0 : Term} {q2 : Nat} {f3 : List Term} {v5 v7 : Term} (g4 : s_get h q2 = some (1, 11, f3)) (k : wm P d 531 [.index q2, v5, v7] h (wq P d sw_c564 sw_h564 35 [.index q2] [] kc ks Q)) (e_q2 : r0 = .index q2 := by first | rfl | assumption) (y1 : s_ty r0 = 3 := by first | rfl | assumption) (n6 : s_nth f3 11 = some v5 := by first | rfl | assumption) (n8 : s_nth f3 13 = some v7 := by first | rfl | assumption)  : wr P d sw_c564 sw_h564 (23, [r0], [], h, kc, ks) Q := by
  refine w_ld rfl rfl (Or.inr (Or.inr ⟨by decide, y1⟩)) ?_
  refine w_ld rfl rfl (Or.inr (Or.inr ⟨by decide, y1⟩)) ?_
  subst e_q2
  refine w_getf rfl g4 n6 ?_
  refine w_ld rfl rfl (Or.inr (Or.inr ⟨by decide, rfl⟩)) ?_
  refine w_getf rfl g4 n8 ?_
  exact w_cv rfl [.index q2, v5, v7] [] rfl rfl (s_wt_4 rfl) rfl g4 k

theorem k564_35 {P : s_P} {d : Nat} {Q : s_O → Prop} {h : s_H} {kc ks : Nat} {r0 : Term} {q2 : Nat} {f3 : List Term} {v5 v7 : Term} (g4 : s_get h q2 = some (1, 11, f3)) (k : wm P d 425 [v5, v7] h (wq P d sw_c564 sw_h564 46 [.index q2] [] kc ks Q)) (e_q2 : r0 = .index q2 := by first | rfl | assumption) (y1 : s_ty r0 = 3 := by first | rfl | assumption) (n6 : s_nth f3 15 = some v5 := by first | rfl | assumption) (n8 : s_nth f3 16 = some v7 := by first | rfl | assumption)  : wr P d sw_c564 sw_h564 (35, [r0], [], h, kc, ks) Q := by
  refine w_ld rfl rfl (Or.inr (Or.inr ⟨by decide, y1⟩)) ?_
  subst e_q2
  refine w_getf rfl g4 n6 ?_
  refine w_ld rfl rfl (Or.inr (Or.inr ⟨by decide, rfl⟩)) ?_
  refine w_getf rfl g4 n8 ?_
  exact w_cs rfl [v5, v7] [] rfl rfl (s_wt_4 rfl) k

theorem k564_46 {P : s_P} {d : Nat} {Q : s_O → Prop} {h : s_H} {kc ks : Nat} {r0 : Term} {q2 : Nat} {f3 : List Term} (g4 : s_get h q2 = some (1, 11, f3)) (k : wm P d 516 [.index q2] h (wq P d sw_c564 sw_h564 50 [.index q2] [] kc ks Q)) (e_q2 : r0 = .index q2 := by first | rfl | assumption) (y1 : s_ty r0 = 3 := by first | rfl | assumption)  : wr P d sw_c564 sw_h564 (46, [r0], [], h, kc, ks) Q := by
  refine w_ld rfl rfl (Or.inr (Or.inr ⟨by decide, y1⟩)) ?_
  subst e_q2
  exact w_cv rfl [.index q2] [] rfl rfl (s_wt_4 rfl) rfl g4 k

theorem k564_50 {P : s_P} {d : Nat} {Q : s_O → Prop} {h : s_H} {kc ks : Nat} {r0 : Term}  (k : Q (.inl none, h, kc, ks))   : wr P d sw_c564 sw_h564 (50, [r0], [], h, kc, ks) Q := by
  exact w_ret rfl k

/-! 565: FormulaWorksModel.push([J)V -/
theorem k565_0 {P : s_P} {d : Nat} {Q : s_O → Prop} {h : s_H} {kc ks : Nat} {r0 r1 t2 : Term}  (k : wr P d sw_c565 sw_h565 (2, [r0, r1, vi 0], [], h, kc, ks) Q) (y1 : s_ty r1 = 3 := by first | rfl | assumption)  : wr P d sw_c565 sw_h565 (0, [r0, r1, t2], [], h, kc, ks) Q := by
  refine w_c32 rfl (by decide) 0 (by decide) ?_
  refine w_st (ls' := [r0, r1, vi 0]) rfl (Or.inl ⟨by decide, rfl⟩) (s_stK_r (pre := [r0]) y1) ?_
  exact k

theorem k565_2 {P : s_P} {d : Nat} {Q : s_O → Prop} {h : s_H} {kc ks : Nat} {r0 r1 : Term} {x2 : Int}  (k1 : 42 ≤ x2 → wr P d sw_c565 sw_h565 (31, [r0, r1, vi x2], [], h, kc, ks) Q) (k2 : ¬ 42 ≤ x2 → wr P d sw_c565 sw_h565 (8, [r0, r1, vi x2], [], h, kc, ks) Q)  (c1 : In3 x2 := by first | omega | assumption | (simp only [mk_len, List.length_map]; omega) | decide) : wr P d sw_c565 sw_h565 (2, [r0, r1, vi x2], [], h, kc, ks) Q := by
  refine w_ld rfl rfl (Or.inl ⟨by decide, rfl⟩) ?_
  refine w_c32 rfl (by decide) 42 (by decide) ?_
  exact w_if2 rfl c1 (by decide) k1 k2

theorem k565_8 {P : s_P} {d : Nat} {Q : s_O → Prop} {h : s_H} {kc ks : Nat} {r0 r1 : Term} {x2 : Int} {q2 : Nat} {f3 : List Term} {v5 : Term} {z7 : Int} {q10 : Nat} {a11 : List Int} {q16 : Nat} {a17 : List Int} (g4 : s_get h q2 = some (1, 11, f3)) (g12 : s_get h q10 = some (0, 1, a11.map vl)) (g18 : s_get h q16 = some (0, 1, a17.map vl)) (k : wr P d sw_c565 sw_h565 (2, [.index q2, .index q10, vi (x2 + 1)], [], (hp h q16 (0, 1, (a17.set (Int.toNat ((42 * z7) + x2)) (gi a11 x2)).map vl)), kc, ks) Q) (e_q2 : r0 = .index q2 := by first | rfl | assumption) (e_q10 : r1 = .index q10 := by first | rfl | assumption) (e_q16 : v5 = .index q16 := by first | rfl | assumption) (y1 : s_ty r0 = 3 := by first | rfl | assumption) (n6 : s_nth f3 34 = some v5 := by first | rfl | assumption) (n8 : s_nth f3 33 = some (vi z7) := by first | rfl | assumption) (y9 : s_ty r1 = 3 := by first | rfl | assumption) (c13 : x2 < a11.length := by first | omega | assumption | (simp only [mk_len, List.length_map]; omega) | decide) (c14 : 0 ≤ x2 := by first | omega | assumption | (simp only [mk_len, List.length_map]; omega) | decide) (c15 : In3 x2 := by first | omega | assumption | (simp only [mk_len, List.length_map]; omega) | decide) (c19 : (42 * z7) + x2 < a17.length := by first | omega | assumption | (simp only [mk_len, List.length_map]; omega) | decide) (c20 : 0 ≤ (42 * z7) + x2 := by first | omega | assumption | (simp only [mk_len, List.length_map]; omega) | decide) (c21 : In3 ((42 * z7) + x2) := by first | omega | assumption | (simp only [mk_len, List.length_map]; omega) | decide) (c22 : 0 < q16 := by first | omega | assumption | (simp only [mk_len, List.length_map]; omega) | decide) : wr P d sw_c565 sw_h565 (8, [r0, r1, vi x2], [], h, kc, ks) Q := by
  refine w_ld rfl rfl (Or.inr (Or.inr ⟨by decide, y1⟩)) ?_
  subst e_q2
  refine w_getf rfl g4 n6 ?_
  refine w_c32 rfl (by decide) 42 (by decide) ?_
  refine w_ld rfl rfl (Or.inr (Or.inr ⟨by decide, rfl⟩)) ?_
  refine w_getf rfl g4 n8 ?_
  refine w_imul rfl ?_
  refine w_ld rfl rfl (Or.inl ⟨by decide, rfl⟩) ?_
  refine w_iadd rfl ?_
  refine w_ld rfl rfl (Or.inr (Or.inr ⟨by decide, y9⟩)) ?_
  refine w_ld rfl rfl (Or.inl ⟨by decide, rfl⟩) ?_
  subst e_q10
  refine w_lald rfl g12 c15 c14 c13 ?_
  subst e_q16
  refine w_last rfl g18 (Nat.ble_eq_true_of_le c22) c21 c20 c19 ?_
  refine w_iinc (ls' := [.index q2, .index q10, vi (x2 + 1)]) rfl rfl 1 (by decide) rfl ?_
  refine w_goto rfl ?_
  exact k

theorem k565_31 {P : s_P} {d : Nat} {Q : s_O → Prop} {h : s_H} {kc ks : Nat} {r0 r1 : Term} {x2 : Int} {q2 : Nat} {f3 : List Term} {z5 : Int} (g4 : s_get h q2 = some (1, 11, f3)) (k : Q (.inl none, (hp h q2 (1, 11, f3.set 33 (vi (z5 + 1)))), kc, ks)) (e_q2 : r0 = .index q2 := by first | rfl | assumption) (y1 : s_ty r0 = 3 := by first | rfl | assumption) (n6 : s_nth f3 33 = some (vi z5) := by first | rfl | assumption) (l7 : 33 < f3.length := by first | exact Nat.le_of_ble_eq_true rfl | omega | assumption) (c8 : 0 < q2 := by first | omega | assumption | (simp only [mk_len, List.length_map]; omega) | decide) : wr P d sw_c565 sw_h565 (31, [r0, r1, vi x2], [], h, kc, ks) Q := by
  refine w_ld rfl rfl (Or.inr (Or.inr ⟨by decide, y1⟩)) ?_
  refine w_dup rfl (by rw [y1]; rfl) ?_
  subst e_q2
  refine w_getf rfl g4 n6 ?_
  refine w_c32 rfl (by decide) 1 (by decide) ?_
  refine w_iadd rfl ?_
  refine w_putf rfl g4 (Nat.ble_eq_true_of_le c8) rfl (Nat.ble_eq_true_of_le l7) ?_
  exact w_ret rfl k

/-! 566: FormulaWorksModel.put(II)I -/
theorem k566_0 {P : s_P} {d : Nat} {Q : s_O → Prop} {h : s_H} {kc ks : Nat} {r0 : Term} {x1 x2 : Int} {t3 t4 : Term} {q2 : Nat} {f3 : List Term} (g4 : s_get h q2 = some (1, 11, f3)) (k : wm P d 401 [.index q2, vi x1, vi x2, vi 0] h (wq P d sw_c566 sw_h566 7 [.index q2, vi x1, vi x2, t3, t4] [] kc ks Q)) (e_q2 : r0 = .index q2 := by first | rfl | assumption) (y1 : s_ty r0 = 3 := by first | rfl | assumption)  : wr P d sw_c566 sw_h566 (0, [r0, vi x1, vi x2, t3, t4], [], h, kc, ks) Q := by
  refine w_ld rfl rfl (Or.inr (Or.inr ⟨by decide, y1⟩)) ?_
  refine w_ld rfl rfl (Or.inl ⟨by decide, rfl⟩) ?_
  refine w_ld rfl rfl (Or.inl ⟨by decide, rfl⟩) ?_
  refine w_c32 rfl (by decide) 0 (by decide) ?_
  subst e_q2
  exact w_cv rfl [.index q2, vi x1, vi x2, vi 0] [] rfl rfl (s_wt_4 rfl) rfl g4 k

theorem k566_7 {P : s_P} {d : Nat} {Q : s_O → Prop} {h : s_H} {kc ks : Nat} {r0 : Term} {x1 x2 : Int} {t3 t4 : Term} {s0 : Int}  (k1 : s0 ≠ 0 → wr P d sw_c566 sw_h566 (12, [r0, vi x1, vi x2, t3, t4], [], h, kc, ks) Q) (k2 : ¬ s0 ≠ 0 → wr P d sw_c566 sw_h566 (10, [r0, vi x1, vi x2, t3, t4], [], h, kc, ks) Q)  (c1 : In3 s0 := by first | omega | assumption | (simp only [mk_len, List.length_map]; omega) | decide) : wr P d sw_c566 sw_h566 (7, [r0, vi x1, vi x2, t3, t4], [vi s0], h, kc, ks) Q := by
  exact w_if1 rfl c1 k1 k2

theorem k566_10 {P : s_P} {d : Nat} {Q : s_O → Prop} {h : s_H} {kc ks : Nat} {r0 : Term} {x1 x2 : Int} {t3 t4 : Term}  (k : Q (.inl (some (vi 0)), h, kc, ks))   : wr P d sw_c566 sw_h566 (10, [r0, vi x1, vi x2, t3, t4], [], h, kc, ks) Q := by
  refine w_c32 rfl (by decide) 0 (by decide) ?_
  exact w_iret rfl k

theorem k566_12 {P : s_P} {d : Nat} {Q : s_O → Prop} {h : s_H} {kc ks : Nat} {r0 : Term} {x1 x2 : Int} {t3 t4 : Term} {q2 : Nat} {f3 : List Term} (g4 : s_get h q2 = some (1, 11, f3)) (k : wm P d 469 [.index q2, vi x1, vi 1] h (wq P d sw_c566 sw_h566 18 [.index q2, vi x1, vi x2, t3, t4] [] kc ks Q)) (e_q2 : r0 = .index q2 := by first | rfl | assumption) (y1 : s_ty r0 = 3 := by first | rfl | assumption)  : wr P d sw_c566 sw_h566 (12, [r0, vi x1, vi x2, t3, t4], [], h, kc, ks) Q := by
  refine w_ld rfl rfl (Or.inr (Or.inr ⟨by decide, y1⟩)) ?_
  refine w_ld rfl rfl (Or.inl ⟨by decide, rfl⟩) ?_
  refine w_c32 rfl (by decide) 1 (by decide) ?_
  subst e_q2
  exact w_cv rfl [.index q2, vi x1, vi 1] [] rfl rfl (s_wt_4 rfl) rfl g4 k

theorem k566_18 {P : s_P} {d : Nat} {Q : s_O → Prop} {h : s_H} {kc ks : Nat} {r0 : Term} {x1 x2 : Int} {t3 t4 : Term} {s0 : Int}  (k1 : s0 = 0 → wr P d sw_c566 sw_h566 (56, [r0, vi x1, vi x2, t3, t4], [], h, kc, ks) Q) (k2 : ¬ s0 = 0 → wr P d sw_c566 sw_h566 (21, [r0, vi x1, vi x2, t3, t4], [], h, kc, ks) Q)  (c1 : In3 s0 := by first | omega | assumption | (simp only [mk_len, List.length_map]; omega) | decide) : wr P d sw_c566 sw_h566 (18, [r0, vi x1, vi x2, t3, t4], [vi s0], h, kc, ks) Q := by
  exact w_if1 rfl c1 k1 k2

theorem k566_21 {P : s_P} {d : Nat} {Q : s_O → Prop} {h : s_H} {kc ks : Nat} {r0 : Term} {x1 x2 : Int} {t3 t4 : Term} {q2 : Nat} {f3 : List Term} {v5 : Term} {q7 : Nat} {a8 : List Int} (g4 : s_get h q2 = some (1, 11, f3)) (g9 : s_get h q7 = some (0, 1, a8.map vl)) (k1 : gi a8 0 = 0 → wr P d sw_c566 sw_h566 (38, [.index q2, vi x1, vi x2, t3, t4], [], h, kc, ks) Q) (k2 : ¬ gi a8 0 = 0 → wr P d sw_c566 sw_h566 (32, [.index q2, vi x1, vi x2, t3, t4], [], h, kc, ks) Q) (e_q2 : r0 = .index q2 := by first | rfl | assumption) (e_q7 : v5 = .index q7 := by first | rfl | assumption) (y1 : s_ty r0 = 3 := by first | rfl | assumption) (n6 : s_nth f3 12 = some v5 := by first | rfl | assumption) (c10 : (0 : Int) < a8.length := by first | omega | assumption | (simp only [mk_len, List.length_map]; omega) | decide) (c11 : In6 (gi a8 0) := by first | omega | assumption | (simp only [mk_len, List.length_map]; omega) | decide) : wr P d sw_c566 sw_h566 (21, [r0, vi x1, vi x2, t3, t4], [], h, kc, ks) Q := by
  refine w_ld rfl rfl (Or.inr (Or.inr ⟨by decide, y1⟩)) ?_
  subst e_q2
  refine w_getf rfl g4 n6 ?_
  refine w_c32 rfl (by decide) 0 (by decide) ?_
  subst e_q7
  refine w_lald rfl g9 (by decide) (by decide) c10 ?_
  refine w_c64 rfl (by decide) 0 (by decide) ?_
  exact w_lcmp rfl rfl c11 (by decide) k1 k2

theorem k566_32 {P : s_P} {d : Nat} {Q : s_O → Prop} {h : s_H} {kc ks : Nat} {r0 : Term} {x1 x2 : Int} {t3 t4 : Term} {q2 : Nat} {f3 : List Term} (g4 : s_get h q2 = some (1, 11, f3)) (k : wm P d 570 [.index q2, vi 2] h (wq P d sw_c566 sw_h566 37 [.index q2, vi x1, vi x2, t3, t4] [] kc ks Q)) (e_q2 : r0 = .index q2 := by first | rfl | assumption) (y1 : s_ty r0 = 3 := by first | rfl | assumption)  : wr P d sw_c566 sw_h566 (32, [r0, vi x1, vi x2, t3, t4], [], h, kc, ks) Q := by
  refine w_ld rfl rfl (Or.inr (Or.inr ⟨by decide, y1⟩)) ?_
  refine w_c32 rfl (by decide) 2 (by decide) ?_
  subst e_q2
  exact w_cv rfl [.index q2, vi 2] [] rfl rfl (s_wt_4 rfl) rfl g4 k

theorem k566_37 {P : s_P} {d : Nat} {Q : s_O → Prop} {h : s_H} {kc ks : Nat} {r0 : Term} {x1 x2 : Int} {t3 t4 : Term} {s0 : Int}  (k : Q (.inl (some (vi s0)), h, kc, ks))   : wr P d sw_c566 sw_h566 (37, [r0, vi x1, vi x2, t3, t4], [vi s0], h, kc, ks) Q := by
  exact w_iret rfl k

theorem k566_38 {P : s_P} {d : Nat} {Q : s_O → Prop} {h : s_H} {kc ks : Nat} {r0 : Term} {x1 x2 : Int} {t3 t4 : Term} {q2 : Nat} {f3 : List Term} {v5 v7 : Term} (g4 : s_get h q2 = some (1, 11, f3)) (k : wm P d 567 [.index q2, v5, v7] h (wq P d sw_c566 sw_h566 50 [.index q2, vi x1, vi x2, t3, t4] [] kc ks Q)) (e_q2 : r0 = .index q2 := by first | rfl | assumption) (y1 : s_ty r0 = 3 := by first | rfl | assumption) (n6 : s_nth f3 10 = some v5 := by first | rfl | assumption) (n8 : s_nth f3 12 = some v7 := by first | rfl | assumption)  : wr P d sw_c566 sw_h566 (38, [r0, vi x1, vi x2, t3, t4], [], h, kc, ks) Q := by
  refine w_ld rfl rfl (Or.inr (Or.inr ⟨by decide, y1⟩)) ?_
  refine w_ld rfl rfl (Or.inr (Or.inr ⟨by decide, y1⟩)) ?_
  subst e_q2
  refine w_getf rfl g4 n6 ?_
  refine w_ld rfl rfl (Or.inr (Or.inr ⟨by decide, rfl⟩)) ?_
  refine w_getf rfl g4 n8 ?_
  exact w_cv rfl [.index q2, v5, v7] [] rfl rfl (s_wt_4 rfl) rfl g4 k

theorem k566_50 {P : s_P} {d : Nat} {Q : s_O → Prop} {h : s_H} {kc ks : Nat} {r0 : Term} {x1 x2 : Int} {t3 t4 : Term} {q2 : Nat} {f3 : List Term} (g4 : s_get h q2 = some (1, 11, f3)) (k : wm P d 499 [.index q2, vi 4] h (wq P d sw_c566 sw_h566 55 [.index q2, vi x1, vi x2, t3, t4] [] kc ks Q)) (e_q2 : r0 = .index q2 := by first | rfl | assumption) (y1 : s_ty r0 = 3 := by first | rfl | assumption)  : wr P d sw_c566 sw_h566 (50, [r0, vi x1, vi x2, t3, t4], [], h, kc, ks) Q := by
  refine w_ld rfl rfl (Or.inr (Or.inr ⟨by decide, y1⟩)) ?_
  refine w_c32 rfl (by decide) 4 (by decide) ?_
  subst e_q2
  exact w_cv rfl [.index q2, vi 4] [] rfl rfl (s_wt_4 rfl) rfl g4 k

theorem k566_55 {P : s_P} {d : Nat} {Q : s_O → Prop} {h : s_H} {kc ks : Nat} {r0 : Term} {x1 x2 : Int} {t3 t4 : Term} {s0 : Int}  (k : Q (.inl (some (vi s0)), h, kc, ks))   : wr P d sw_c566 sw_h566 (55, [r0, vi x1, vi x2, t3, t4], [vi s0], h, kc, ks) Q := by
  exact w_iret rfl k

theorem k566_56 {P : s_P} {d : Nat} {Q : s_O → Prop} {h : s_H} {kc ks : Nat} {r0 : Term} {x1 x2 : Int} {t3 t4 : Term} {q2 : Nat} {f3 : List Term} {v5 : Term} (g4 : s_get h q2 = some (1, 11, f3)) (k : wm P d 463 [v5] h (wq P d sw_c566 sw_h566 63 [.index q2, vi x1, vi x2, t3, t4] [] kc ks Q)) (e_q2 : r0 = .index q2 := by first | rfl | assumption) (y1 : s_ty r0 = 3 := by first | rfl | assumption) (n6 : s_nth f3 10 = some v5 := by first | rfl | assumption)  : wr P d sw_c566 sw_h566 (56, [r0, vi x1, vi x2, t3, t4], [], h, kc, ks) Q := by
  refine w_ld rfl rfl (Or.inr (Or.inr ⟨by decide, y1⟩)) ?_
  subst e_q2
  refine w_getf rfl g4 n6 ?_
  exact w_cs rfl [v5] [] rfl rfl (s_wt_4 rfl) k

theorem k566_63 {P : s_P} {d : Nat} {Q : s_O → Prop} {h : s_H} {kc ks : Nat} {r0 : Term} {x1 x2 : Int} {t3 t4 : Term} {s0 : Int} {q2 : Nat} {f3 : List Term} {v5 : Term} (g4 : s_get h q2 = some (1, 11, f3)) (k : wm P d 463 [v5] h (wq P d sw_c566 sw_h566 70 [.index q2, vi x1, vi x2, t3, t4] [vi s0] kc ks Q)) (e_q2 : r0 = .index q2 := by first | rfl | assumption) (y1 : s_ty r0 = 3 := by first | rfl | assumption) (n6 : s_nth f3 11 = some v5 := by first | rfl | assumption)  : wr P d sw_c566 sw_h566 (63, [r0, vi x1, vi x2, t3, t4], [vi s0], h, kc, ks) Q := by
  refine w_ld rfl rfl (Or.inr (Or.inr ⟨by decide, y1⟩)) ?_
  subst e_q2
  refine w_getf rfl g4 n6 ?_
  exact w_cs rfl [v5] [vi s0] rfl rfl (s_wt_4 rfl) k

theorem k566_70 {P : s_P} {d : Nat} {Q : s_O → Prop} {h : s_H} {kc ks : Nat} {r0 : Term} {x1 x2 : Int} {t3 t4 : Term} {s0 s1 : Int}  (k : wm P d 526 [vi s0, vi s1] h (wq P d sw_c566 sw_h566 73 [r0, vi x1, vi x2, t3, t4] [] kc ks Q))   : wr P d sw_c566 sw_h566 (70, [r0, vi x1, vi x2, t3, t4], [vi s1, vi s0], h, kc, ks) Q := by
  exact w_cs rfl [vi s0, vi s1] [] rfl rfl (s_wt_4 rfl) k

theorem k566_73 {P : s_P} {d : Nat} {Q : s_O → Prop} {h : s_H} {kc ks : Nat} {r0 : Term} {x1 x2 : Int} {t3 t4 : Term} {s0 : Int} {q2 : Nat} {f3 : List Term} {v5 : Term} (g4 : s_get h q2 = some (1, 11, f3)) (k : wm P d 463 [v5] h (wq P d sw_c566 sw_h566 81 [.index q2, vi x1, vi x2, vi s0, t4] [] kc ks Q)) (e_q2 : r0 = .index q2 := by first | rfl | assumption) (y1 : s_ty r0 = 3 := by first | rfl | assumption) (n6 : s_nth f3 12 = some v5 := by first | rfl | assumption)  : wr P d sw_c566 sw_h566 (73, [r0, vi x1, vi x2, t3, t4], [vi s0], h, kc, ks) Q := by
  refine w_st (ls' := [r0, vi x1, vi x2, vi s0, t4]) rfl (Or.inl ⟨by decide, rfl⟩) rfl ?_
  refine w_ld rfl rfl (Or.inr (Or.inr ⟨by decide, y1⟩)) ?_
  subst e_q2
  refine w_getf rfl g4 n6 ?_
  exact w_cs rfl [v5] [] rfl rfl (s_wt_4 rfl) k

theorem k566_81 {P : s_P} {d : Nat} {Q : s_O → Prop} {h : s_H} {kc ks : Nat} {r0 : Term} {x1 x2 x3 : Int} {t4 : Term} {s0 : Int} {q2 : Nat} {f3 : List Term} {v5 : Term} (g4 : s_get h q2 = some (1, 11, f3)) (k : wm P d 463 [v5] h (wq P d sw_c566 sw_h566 88 [.index q2, vi x1, vi x2, vi x3, t4] [vi s0] kc ks Q)) (e_q2 : r0 = .index q2 := by first | rfl | assumption) (y1 : s_ty r0 = 3 := by first | rfl | assumption) (n6 : s_nth f3 13 = some v5 := by first | rfl | assumption)  : wr P d sw_c566 sw_h566 (81, [r0, vi x1, vi x2, vi x3, t4], [vi s0], h, kc, ks) Q := by
  refine w_ld rfl rfl (Or.inr (Or.inr ⟨by decide, y1⟩)) ?_
  subst e_q2
  refine w_getf rfl g4 n6 ?_
  exact w_cs rfl [v5] [vi s0] rfl rfl (s_wt_4 rfl) k

theorem k566_88 {P : s_P} {d : Nat} {Q : s_O → Prop} {h : s_H} {kc ks : Nat} {r0 : Term} {x1 x2 x3 : Int} {t4 : Term} {s0 s1 : Int}  (k : wm P d 526 [vi s0, vi s1] h (wq P d sw_c566 sw_h566 91 [r0, vi x1, vi x2, vi x3, t4] [] kc ks Q))   : wr P d sw_c566 sw_h566 (88, [r0, vi x1, vi x2, vi x3, t4], [vi s1, vi s0], h, kc, ks) Q := by
  exact w_cs rfl [vi s0, vi s1] [] rfl rfl (s_wt_4 rfl) k

theorem k566_91 {P : s_P} {d : Nat} {Q : s_O → Prop} {h : s_H} {kc ks : Nat} {r0 : Term} {x1 x2 x3 : Int} {t4 : Term} {s0 : Int}  (k1 : 1 ≤ s0 → wr P d sw_c566 sw_h566 (123, [r0, vi x1, vi x2, vi x3, vi s0], [], h, kc, ks) Q) (k2 : ¬ 1 ≤ s0 → wr P d sw_c566 sw_h566 (99, [r0, vi x1, vi x2, vi x3, vi s0], [], h, kc, ks) Q)  (c1 : In3 s0 := by first | omega | assumption | (simp only [mk_len, List.length_map]; omega) | decide) : wr P d sw_c566 sw_h566 (91, [r0, vi x1, vi x2, vi x3, t4], [vi s0], h, kc, ks) Q := by
  refine w_st (ls' := [r0, vi x1, vi x2, vi x3, vi s0]) rfl (Or.inl ⟨by decide, rfl⟩) rfl ?_
  refine w_ld rfl rfl (Or.inl ⟨by decide, rfl⟩) ?_
  refine w_c32 rfl (by decide) 1 (by decide) ?_
  exact w_if2 rfl c1 (by decide) k1 k2

theorem k566_99 {P : s_P} {d : Nat} {Q : s_O → Prop} {h : s_H} {kc ks : Nat} {r0 : Term} {x1 x2 x3 x4 : Int} {q2 : Nat} {f3 : List Term} {v5 v7 : Term} {q9 : Nat} {a10 : List Int} (g4 : s_get h q2 = some (1, 11, f3)) (g11 : s_get h q9 = some (0, 1, a10.map vl)) (k : wm P d 613 [v5, vl (gi a10 0)] h (wq P d sw_c566 sw_h566 112 [.index q2, vi x1, vi x2, vi x3, vi x4] [] kc ks Q)) (e_q2 : r0 = .index q2 := by first | rfl | assumption) (e_q9 : v7 = .index q9 := by first | rfl | assumption) (y1 : s_ty r0 = 3 := by first | rfl | assumption) (n6 : s_nth f3 11 = some v5 := by first | rfl | assumption) (n8 : s_nth f3 12 = some v7 := by first | rfl | assumption) (c12 : (0 : Int) < a10.length := by first | omega | assumption | (simp only [mk_len, List.length_map]; omega) | decide) : wr P d sw_c566 sw_h566 (99, [r0, vi x1, vi x2, vi x3, vi x4], [], h, kc, ks) Q := by
  refine w_ld rfl rfl (Or.inr (Or.inr ⟨by decide, y1⟩)) ?_
  subst e_q2
  refine w_getf rfl g4 n6 ?_
  refine w_ld rfl rfl (Or.inr (Or.inr ⟨by decide, rfl⟩)) ?_
  refine w_getf rfl g4 n8 ?_
  refine w_c32 rfl (by decide) 0 (by decide) ?_
  subst e_q9
  refine w_lald rfl g11 (by decide) (by decide) c12 ?_
  exact w_cs rfl [v5, vl (gi a10 0)] [] rfl rfl (s_wt_4 rfl) k

theorem k566_112 {P : s_P} {d : Nat} {Q : s_O → Prop} {h : s_H} {kc ks : Nat} {r0 : Term} {x1 x2 x3 x4 s0 : Int}  (k1 : s0 ≠ 0 → wr P d sw_c566 sw_h566 (123, [r0, vi x1, vi x2, vi x3, vi x4], [], h, kc, ks) Q) (k2 : ¬ s0 ≠ 0 → wr P d sw_c566 sw_h566 (117, [r0, vi x1, vi x2, vi x3, vi x4], [], h, kc, ks) Q)  (c1 : In6 s0 := by first | omega | assumption | (simp only [mk_len, List.length_map]; omega) | decide) : wr P d sw_c566 sw_h566 (112, [r0, vi x1, vi x2, vi x3, vi x4], [vl s0], h, kc, ks) Q := by
  refine w_c64 rfl (by decide) 0 (by decide) ?_
  exact w_lcmp rfl rfl c1 (by decide) k1 k2

theorem k566_117 {P : s_P} {d : Nat} {Q : s_O → Prop} {h : s_H} {kc ks : Nat} {r0 : Term} {x1 x2 x3 x4 : Int} {q2 : Nat} {f3 : List Term} (g4 : s_get h q2 = some (1, 11, f3)) (k : wm P d 570 [.index q2, vi 3] h (wq P d sw_c566 sw_h566 122 [.index q2, vi x1, vi x2, vi x3, vi x4] [] kc ks Q)) (e_q2 : r0 = .index q2 := by first | rfl | assumption) (y1 : s_ty r0 = 3 := by first | rfl | assumption)  : wr P d sw_c566 sw_h566 (117, [r0, vi x1, vi x2, vi x3, vi x4], [], h, kc, ks) Q := by
  refine w_ld rfl rfl (Or.inr (Or.inr ⟨by decide, y1⟩)) ?_
  refine w_c32 rfl (by decide) 3 (by decide) ?_
  subst e_q2
  exact w_cv rfl [.index q2, vi 3] [] rfl rfl (s_wt_4 rfl) rfl g4 k

theorem k566_122 {P : s_P} {d : Nat} {Q : s_O → Prop} {h : s_H} {kc ks : Nat} {r0 : Term} {x1 x2 x3 x4 s0 : Int}  (k : Q (.inl (some (vi s0)), h, kc, ks))   : wr P d sw_c566 sw_h566 (122, [r0, vi x1, vi x2, vi x3, vi x4], [vi s0], h, kc, ks) Q := by
  exact w_iret rfl k

theorem k566_123 {P : s_P} {d : Nat} {Q : s_O → Prop} {h : s_H} {kc ks : Nat} {r0 : Term} {x1 x2 x3 x4 : Int}  (k1 : x3 ≤ 0 → wr P d sw_c566 sw_h566 (142, [r0, vi x1, vi x2, vi x3, vi x4], [], h, kc, ks) Q) (k2 : ¬ x3 ≤ 0 → wr P d sw_c566 sw_h566 (127, [r0, vi x1, vi x2, vi x3, vi x4], [], h, kc, ks) Q)  (c1 : In3 x3 := by first | omega | assumption | (simp only [mk_len, List.length_map]; omega) | decide) : wr P d sw_c566 sw_h566 (123, [r0, vi x1, vi x2, vi x3, vi x4], [], h, kc, ks) Q := by
  refine w_ld rfl rfl (Or.inl ⟨by decide, rfl⟩) ?_
  exact w_if1 rfl c1 k1 k2

theorem k566_127 {P : s_P} {d : Nat} {Q : s_O → Prop} {h : s_H} {kc ks : Nat} {r0 : Term} {x1 x2 x3 x4 : Int}  (k1 : x3 * x4 ≤ 40 → wr P d sw_c566 sw_h566 (142, [r0, vi x1, vi x2, vi x3, vi x4], [], h, kc, ks) Q) (k2 : ¬ x3 * x4 ≤ 40 → wr P d sw_c566 sw_h566 (136, [r0, vi x1, vi x2, vi x3, vi x4], [], h, kc, ks) Q)  (c1 : In3 (x3 * x4) := by first | omega | assumption | (simp only [mk_len, List.length_map]; omega) | decide) : wr P d sw_c566 sw_h566 (127, [r0, vi x1, vi x2, vi x3, vi x4], [], h, kc, ks) Q := by
  refine w_ld rfl rfl (Or.inl ⟨by decide, rfl⟩) ?_
  refine w_ld rfl rfl (Or.inl ⟨by decide, rfl⟩) ?_
  refine w_imul rfl ?_
  refine w_c32 rfl (by decide) 40 (by decide) ?_
  exact w_if2 rfl c1 (by decide) k1 k2

theorem k566_136 {P : s_P} {d : Nat} {Q : s_O → Prop} {h : s_H} {kc ks : Nat} {r0 : Term} {x1 x2 x3 x4 : Int} {q2 : Nat} {f3 : List Term} (g4 : s_get h q2 = some (1, 11, f3)) (k : wm P d 570 [.index q2, vi 4] h (wq P d sw_c566 sw_h566 141 [.index q2, vi x1, vi x2, vi x3, vi x4] [] kc ks Q)) (e_q2 : r0 = .index q2 := by first | rfl | assumption) (y1 : s_ty r0 = 3 := by first | rfl | assumption)  : wr P d sw_c566 sw_h566 (136, [r0, vi x1, vi x2, vi x3, vi x4], [], h, kc, ks) Q := by
  refine w_ld rfl rfl (Or.inr (Or.inr ⟨by decide, y1⟩)) ?_
  refine w_c32 rfl (by decide) 4 (by decide) ?_
  subst e_q2
  exact w_cv rfl [.index q2, vi 4] [] rfl rfl (s_wt_4 rfl) rfl g4 k

theorem k566_141 {P : s_P} {d : Nat} {Q : s_O → Prop} {h : s_H} {kc ks : Nat} {r0 : Term} {x1 x2 x3 x4 s0 : Int}  (k : Q (.inl (some (vi s0)), h, kc, ks))   : wr P d sw_c566 sw_h566 (141, [r0, vi x1, vi x2, vi x3, vi x4], [vi s0], h, kc, ks) Q := by
  exact w_iret rfl k

theorem k566_142 {P : s_P} {d : Nat} {Q : s_O → Prop} {h : s_H} {kc ks : Nat} {r0 : Term} {x1 x2 x3 x4 : Int} {q2 : Nat} {f3 : List Term} {v5 : Term} (g4 : s_get h q2 = some (1, 11, f3)) (k : wm P d 447 [.index q2, v5, vi x3] h (wq P d sw_c566 sw_h566 151 [.index q2, vi x1, vi x2, vi x3, vi x4] [] kc ks Q)) (e_q2 : r0 = .index q2 := by first | rfl | assumption) (y1 : s_ty r0 = 3 := by first | rfl | assumption) (n6 : s_nth f3 10 = some v5 := by first | rfl | assumption)  : wr P d sw_c566 sw_h566 (142, [r0, vi x1, vi x2, vi x3, vi x4], [], h, kc, ks) Q := by
  refine w_ld rfl rfl (Or.inr (Or.inr ⟨by decide, y1⟩)) ?_
  refine w_ld rfl rfl (Or.inr (Or.inr ⟨by decide, y1⟩)) ?_
  subst e_q2
  refine w_getf rfl g4 n6 ?_
  refine w_ld rfl rfl (Or.inl ⟨by decide, rfl⟩) ?_
  exact w_cv rfl [.index q2, v5, vi x3] [] rfl rfl (s_wt_4 rfl) rfl g4 k

theorem k566_151 {P : s_P} {d : Nat} {Q : s_O → Prop} {h : s_H} {kc ks : Nat} {r0 : Term} {x1 x2 x3 x4 : Int} {q2 : Nat} {f3 : List Term} {v5 v7 : Term} (g4 : s_get h q2 = some (1, 11, f3)) (k : wm P d 425 [v5, v7] h (wq P d sw_c566 sw_h566 162 [.index q2, vi x1, vi x2, vi x3, vi x4] [] kc ks Q)) (e_q2 : r0 = .index q2 := by first | rfl | assumption) (y1 : s_ty r0 = 3 := by first | rfl | assumption) (n6 : s_nth f3 14 = some v5 := by first | rfl | assumption) (n8 : s_nth f3 22 = some v7 := by first | rfl | assumption)  : wr P d sw_c566 sw_h566 (151, [r0, vi x1, vi x2, vi x3, vi x4], [], h, kc, ks) Q := by
  refine w_ld rfl rfl (Or.inr (Or.inr ⟨by decide, y1⟩)) ?_
  subst e_q2
  refine w_getf rfl g4 n6 ?_
  refine w_ld rfl rfl (Or.inr (Or.inr ⟨by decide, rfl⟩)) ?_
  refine w_getf rfl g4 n8 ?_
  exact w_cs rfl [v5, v7] [] rfl rfl (s_wt_4 rfl) k

theorem k566_162 {P : s_P} {d : Nat} {Q : s_O → Prop} {h : s_H} {kc ks : Nat} {r0 : Term} {x1 x2 x3 x4 : Int} {q2 : Nat} {f3 : List Term} {v5 : Term} (g4 : s_get h q2 = some (1, 11, f3)) (k : wm P d 447 [.index q2, v5, vi x3] h (wq P d sw_c566 sw_h566 171 [.index q2, vi x1, vi x2, vi x3, vi x4] [] kc ks Q)) (e_q2 : r0 = .index q2 := by first | rfl | assumption) (y1 : s_ty r0 = 3 := by first | rfl | assumption) (n6 : s_nth f3 11 = some v5 := by first | rfl | assumption)  : wr P d sw_c566 sw_h566 (162, [r0, vi x1, vi x2, vi x3, vi x4], [], h, kc, ks) Q := by
  refine w_ld rfl rfl (Or.inr (Or.inr ⟨by decide, y1⟩)) ?_
  refine w_ld rfl rfl (Or.inr (Or.inr ⟨by decide, y1⟩)) ?_
  subst e_q2
  refine w_getf rfl g4 n6 ?_
  refine w_ld rfl rfl (Or.inl ⟨by decide, rfl⟩) ?_
  exact w_cv rfl [.index q2, v5, vi x3] [] rfl rfl (s_wt_4 rfl) rfl g4 k

theorem k566_171 {P : s_P} {d : Nat} {Q : s_O → Prop} {h : s_H} {kc ks : Nat} {r0 : Term} {x1 x2 x3 x4 : Int} {q2 : Nat} {f3 : List Term} {v5 v7 : Term} (g4 : s_get h q2 = some (1, 11, f3)) (k : wm P d 425 [v5, v7] h (wq P d sw_c566 sw_h566 182 [.index q2, vi x1, vi x2, vi x3, vi x4] [] kc ks Q)) (e_q2 : r0 = .index q2 := by first | rfl | assumption) (y1 : s_ty r0 = 3 := by first | rfl | assumption) (n6 : s_nth f3 15 = some v5 := by first | rfl | assumption) (n8 : s_nth f3 22 = some v7 := by first | rfl | assumption)  : wr P d sw_c566 sw_h566 (171, [r0, vi x1, vi x2, vi x3, vi x4], [], h, kc, ks) Q := by
  refine w_ld rfl rfl (Or.inr (Or.inr ⟨by decide, y1⟩)) ?_
  subst e_q2
  refine w_getf rfl g4 n6 ?_
  refine w_ld rfl rfl (Or.inr (Or.inr ⟨by decide, rfl⟩)) ?_
  refine w_getf rfl g4 n8 ?_
  exact w_cs rfl [v5, v7] [] rfl rfl (s_wt_4 rfl) k

theorem k566_182 {P : s_P} {d : Nat} {Q : s_O → Prop} {h : s_H} {kc ks : Nat} {r0 : Term} {x1 x2 x3 x4 : Int} {q2 : Nat} {f3 : List Term} (g4 : s_get h q2 = some (1, 11, f3)) (k : wm P d 516 [.index q2] h (wq P d sw_c566 sw_h566 186 [.index q2, vi x1, vi x2, vi x3, vi x4] [] kc ks Q)) (e_q2 : r0 = .index q2 := by first | rfl | assumption) (y1 : s_ty r0 = 3 := by first | rfl | assumption)  : wr P d sw_c566 sw_h566 (182, [r0, vi x1, vi x2, vi x3, vi x4], [], h, kc, ks) Q := by
  refine w_ld rfl rfl (Or.inr (Or.inr ⟨by decide, y1⟩)) ?_
  subst e_q2
  exact w_cv rfl [.index q2] [] rfl rfl (s_wt_4 rfl) rfl g4 k

theorem k566_186 {P : s_P} {d : Nat} {Q : s_O → Prop} {h : s_H} {kc ks : Nat} {r0 : Term} {x1 x2 x3 x4 : Int} {q2 : Nat} {f3 : List Term} (g4 : s_get h q2 = some (1, 11, f3)) (k : wm P d 495 [.index q2, vi 4] h (wq P d sw_c566 sw_h566 191 [.index q2, vi x1, vi x2, vi x3, vi x4] [] kc ks Q)) (e_q2 : r0 = .index q2 := by first | rfl | assumption) (y1 : s_ty r0 = 3 := by first | rfl | assumption)  : wr P d sw_c566 sw_h566 (186, [r0, vi x1, vi x2, vi x3, vi x4], [], h, kc, ks) Q := by
  refine w_ld rfl rfl (Or.inr (Or.inr ⟨by decide, y1⟩)) ?_
  refine w_c32 rfl (by decide) 4 (by decide) ?_
  subst e_q2
  exact w_cv rfl [.index q2, vi 4] [] rfl rfl (s_wt_4 rfl) rfl g4 k

theorem k566_191 {P : s_P} {d : Nat} {Q : s_O → Prop} {h : s_H} {kc ks : Nat} {r0 : Term} {x1 x2 x3 x4 s0 : Int}  (k : Q (.inl (some (vi s0)), h, kc, ks))   : wr P d sw_c566 sw_h566 (191, [r0, vi x1, vi x2, vi x3, vi x4], [vi s0], h, kc, ks) Q := by
  exact w_iret rfl k

/-! 567: FormulaWorksModel.putSeries([J[J)V -/
theorem k567_0 {P : s_P} {d : Nat} {Q : s_O → Prop} {h : s_H} {kc ks : Nat} {r0 r1 r2 t3 : Term} {q2 : Nat} {f3 : List Term} {v5 : Term} (g4 : s_get h q2 = some (1, 11, f3)) (k : wm P d 438 [v5] h (wq P d sw_c567 sw_h567 7 [.index q2, r1, r2, t3] [] kc ks Q)) (e_q2 : r0 = .index q2 := by first | rfl | assumption) (y1 : s_ty r0 = 3 := by first | rfl | assumption) (n6 : s_nth f3 14 = some v5 := by first | rfl | assumption)  : wr P d sw_c567 sw_h567 (0, [r0, r1, r2, t3], [], h, kc, ks) Q := by
  refine w_ld rfl rfl (Or.inr (Or.inr ⟨by decide, y1⟩)) ?_
  subst e_q2
  refine w_getf rfl g4 n6 ?_
  exact w_cs rfl [v5] [] rfl rfl (s_wt_4 rfl) k

theorem k567_7 {P : s_P} {d : Nat} {Q : s_O → Prop} {h : s_H} {kc ks : Nat} {r0 r1 r2 t3 : Term}  (k : wr P d sw_c567 sw_h567 (10, [r0, r1, r2, vi 24], [], h, kc, ks) Q) (y1 : s_ty r2 = 3 := by first | rfl | assumption)  : wr P d sw_c567 sw_h567 (7, [r0, r1, r2, t3], [], h, kc, ks) Q := by
  refine w_c32 rfl (by decide) 24 (by decide) ?_
  refine w_st (ls' := [r0, r1, r2, vi 24]) rfl (Or.inl ⟨by decide, rfl⟩) (s_stK_r (pre := [r0, r1]) y1) ?_
  exact k

theorem k567_10 {P : s_P} {d : Nat} {Q : s_O → Prop} {h : s_H} {kc ks : Nat} {r0 r1 r2 : Term} {x3 : Int}  (k1 : x3 < 0 → wr P d sw_c567 sw_h567 (56, [r0, r1, r2, vi x3], [], h, kc, ks) Q) (k2 : ¬ x3 < 0 → wr P d sw_c567 sw_h567 (14, [r0, r1, r2, vi x3], [], h, kc, ks) Q)  (c1 : In3 x3 := by first | omega | assumption | (simp only [mk_len, List.length_map]; omega) | decide) : wr P d sw_c567 sw_h567 (10, [r0, r1, r2, vi x3], [], h, kc, ks) Q := by
  refine w_ld rfl rfl (Or.inl ⟨by decide, rfl⟩) ?_
  exact w_if1 rfl c1 k1 k2

theorem k567_14 {P : s_P} {d : Nat} {Q : s_O → Prop} {h : s_H} {kc ks : Nat} {r0 r1 r2 : Term} {x3 : Int} {q2 : Nat} {f3 : List Term} {v5 : Term} (g4 : s_get h q2 = some (1, 11, f3)) (k : wm P d 532 [.index q2, v5, r2] h (wq P d sw_c567 sw_h567 23 [.index q2, r1, r2, vi x3] [] kc ks Q)) (e_q2 : r0 = .index q2 := by first | rfl | assumption) (y1 : s_ty r0 = 3 := by first | rfl | assumption) (n6 : s_nth f3 14 = some v5 := by first | rfl | assumption) (y7 : s_ty r2 = 3 := by first | rfl | assumption)  : wr P d sw_c567 sw_h567 (14, [r0, r1, r2, vi x3], [], h, kc, ks) Q := by
  refine w_ld rfl rfl (Or.inr (Or.inr ⟨by decide, y1⟩)) ?_
  refine w_ld rfl rfl (Or.inr (Or.inr ⟨by decide, y1⟩)) ?_
  subst e_q2
  refine w_getf rfl g4 n6 ?_
  refine w_ld rfl rfl (Or.inr (Or.inr ⟨by decide, y7⟩)) ?_
  exact w_cv rfl [.index q2, v5, r2] [] rfl rfl (s_wt_4 rfl) rfl g4 k

theorem k567_23 {P : s_P} {d : Nat} {Q : s_O → Prop} {h : s_H} {kc ks : Nat} {r0 r1 r2 : Term} {x3 : Int} {q2 : Nat} {f3 : List Term} {v5 : Term} (g4 : s_get h q2 = some (1, 11, f3)) (k : wm P d 428 [v5] h (wq P d sw_c567 sw_h567 30 [.index q2, r1, r2, vi x3] [] kc ks Q)) (e_q2 : r0 = .index q2 := by first | rfl | assumption) (y1 : s_ty r0 = 3 := by first | rfl | assumption) (n6 : s_nth f3 14 = some v5 := by first | rfl | assumption)  : wr P d sw_c567 sw_h567 (23, [r0, r1, r2, vi x3], [], h, kc, ks) Q := by
  refine w_ld rfl rfl (Or.inr (Or.inr ⟨by decide, y1⟩)) ?_
  subst e_q2
  refine w_getf rfl g4 n6 ?_
  exact w_cs rfl [v5] [] rfl rfl (s_wt_4 rfl) k

theorem k567_30 {P : s_P} {d : Nat} {Q : s_O → Prop} {h : s_H} {kc ks : Nat} {r0 r1 r2 : Term} {x3 : Int} {q2 : Nat} {f3 : List Term} {v5 : Term} {q7 : Nat} {a8 : List Int} {q12 : Nat} {a13 : List Int} (g4 : s_get h q2 = some (1, 11, f3)) (g9 : s_get h q7 = some (0, 1, a8.map vl)) (g14 : s_get h q12 = some (0, 1, a13.map vl)) (k : wr P d sw_c567 sw_h567 (10, [.index q2, .index q12, r2, vi (x3 + (-1))], [], (hp h q7 (0, 1, (a8.set (Int.toNat (0)) (Int.tmod ((gi a8 0) + (gi a13 x3)) 32003)).map vl)), kc, ks) Q) (e_q2 : r0 = .index q2 := by first | rfl | assumption) (e_q7 : v5 = .index q7 := by first | rfl | assumption) (e_q12 : r1 = .index q12 := by first | rfl | assumption) (y1 : s_ty r0 = 3 := by first | rfl | assumption) (n6 : s_nth f3 14 = some v5 := by first | rfl | assumption) (y11 : s_ty r1 = 3 := by first | rfl | assumption) (y20 : s_ty r2 = 3 := by first | rfl | assumption) (c10 : (0 : Int) < a8.length := by first | omega | assumption | (simp only [mk_len, List.length_map]; omega) | decide) (c15 : x3 < a13.length := by first | omega | assumption | (simp only [mk_len, List.length_map]; omega) | decide) (c16 : 0 ≤ x3 := by first | omega | assumption | (simp only [mk_len, List.length_map]; omega) | decide) (c17 : In3 x3 := by first | omega | assumption | (simp only [mk_len, List.length_map]; omega) | decide) (c18 : In6 ((gi a8 0) + (gi a13 x3)) := by first | omega | assumption | (simp only [mk_len, List.length_map]; omega) | decide) (c19 : 0 < q7 := by first | omega | assumption | (simp only [mk_len, List.length_map]; omega) | decide) : wr P d sw_c567 sw_h567 (30, [r0, r1, r2, vi x3], [], h, kc, ks) Q := by
  refine w_ld rfl rfl (Or.inr (Or.inr ⟨by decide, y1⟩)) ?_
  subst e_q2
  refine w_getf rfl g4 n6 ?_
  refine w_c32 rfl (by decide) 0 (by decide) ?_
  refine w_ld rfl rfl (Or.inr (Or.inr ⟨by decide, rfl⟩)) ?_
  refine w_getf rfl g4 n6 ?_
  refine w_c32 rfl (by decide) 0 (by decide) ?_
  subst e_q7
  refine w_lald rfl g9 (by decide) (by decide) c10 ?_
  refine w_ld rfl rfl (Or.inr (Or.inr ⟨by decide, y11⟩)) ?_
  refine w_ld rfl rfl (Or.inl ⟨by decide, rfl⟩) ?_
  subst e_q12
  refine w_lald rfl g14 c17 c16 c15 ?_
  refine w_ladd rfl ?_
  refine w_c64 rfl (by decide) 32003 (by decide) ?_
  refine w_lrem rfl c18 (by decide) (by decide) ?_
  refine w_last rfl g9 (Nat.ble_eq_true_of_le c19) (by decide) (by decide) c10 ?_
  refine w_iinc (ls' := [.index q2, .index q12, r2, vi (x3 + (-1))]) rfl rfl (-1) (by decide) (s_stK_r (pre := [.index q2, .index q12]) y20) ?_
  refine w_goto rfl ?_
  exact k

theorem k567_56 {P : s_P} {d : Nat} {Q : s_O → Prop} {h : s_H} {kc ks : Nat} {r0 r1 r2 : Term} {x3 : Int}  (k : Q (.inl none, h, kc, ks))   : wr P d sw_c567 sw_h567 (56, [r0, r1, r2, vi x3], [], h, kc, ks) Q := by
  exact w_ret rfl k

/-! 568: FormulaWorksModel.quotientAll()V -/
theorem k568_0 {P : s_P} {d : Nat} {Q : s_O → Prop} {h : s_H} {kc ks : Nat} {r0 : Term} {q2 : Nat} {f3 : List Term} {v5 v7 : Term} (g4 : s_get h q2 = some (1, 11, f3)) (k : wm P d 531 [.index q2, v5, v7] h (wq P d sw_c568 sw_h568 12 [.index q2] [] kc ks Q)) (e_q2 : r0 = .index q2 := by first | rfl | assumption) (y1 : s_ty r0 = 3 := by first | rfl | assumption) (n6 : s_nth f3 10 = some v5 := by first | rfl | assumption) (n8 : s_nth f3 13 = some v7 := by first | rfl | assumption)  : wr P d sw_c568 sw_h568 (0, [r0], [], h, kc, ks) Q := by
  refine w_ld rfl rfl (Or.inr (Or.inr ⟨by decide, y1⟩)) ?_
  refine w_ld rfl rfl (Or.inr (Or.inr ⟨by decide, y1⟩)) ?_
  subst e_q2
  refine w_getf rfl g4 n6 ?_
  refine w_ld rfl rfl (Or.inr (Or.inr ⟨by decide, rfl⟩)) ?_
  refine w_getf rfl g4 n8 ?_
  exact w_cv rfl [.index q2, v5, v7] [] rfl rfl (s_wt_4 rfl) rfl g4 k

theorem k568_12 {P : s_P} {d : Nat} {Q : s_O → Prop} {h : s_H} {kc ks : Nat} {r0 : Term} {q2 : Nat} {f3 : List Term} {v5 v7 : Term} (g4 : s_get h q2 = some (1, 11, f3)) (k : wm P d 425 [v5, v7] h (wq P d sw_c568 sw_h568 23 [.index q2] [] kc ks Q)) (e_q2 : r0 = .index q2 := by first | rfl | assumption) (y1 : s_ty r0 = 3 := by first | rfl | assumption) (n6 : s_nth f3 14 = some v5 := by first | rfl | assumption) (n8 : s_nth f3 16 = some v7 := by first | rfl | assumption)  : wr P d sw_c568 sw_h568 (12, [r0], [], h, kc, ks) Q := by
  refine w_ld rfl rfl (Or.inr (Or.inr ⟨by decide, y1⟩)) ?_
  subst e_q2
  refine w_getf rfl g4 n6 ?_
  refine w_ld rfl rfl (Or.inr (Or.inr ⟨by decide, rfl⟩)) ?_
  refine w_getf rfl g4 n8 ?_
  exact w_cs rfl [v5, v7] [] rfl rfl (s_wt_4 rfl) k

theorem k568_23 {P : s_P} {d : Nat} {Q : s_O → Prop} {h : s_H} {kc ks : Nat} {r0 : Term} {q2 : Nat} {f3 : List Term} {v5 v7 : Term} (g4 : s_get h q2 = some (1, 11, f3)) (k : wm P d 531 [.index q2, v5, v7] h (wq P d sw_c568 sw_h568 35 [.index q2] [] kc ks Q)) (e_q2 : r0 = .index q2 := by first | rfl | assumption) (y1 : s_ty r0 = 3 := by first | rfl | assumption) (n6 : s_nth f3 11 = some v5 := by first | rfl | assumption) (n8 : s_nth f3 12 = some v7 := by first | rfl | assumption)  : wr P d sw_c568 sw_h568 (23, [r0], [], h, kc, ks) Q := by
  refine w_ld rfl rfl (Or.inr (Or.inr ⟨by decide, y1⟩)) ?_
  refine w_ld rfl rfl (Or.inr (Or.inr ⟨by decide, y1⟩)) ?_
  subst e_q2
  refine w_getf rfl g4 n6 ?_
  refine w_ld rfl rfl (Or.inr (Or.inr ⟨by decide, rfl⟩)) ?_
  refine w_getf rfl g4 n8 ?_
  exact w_cv rfl [.index q2, v5, v7] [] rfl rfl (s_wt_4 rfl) rfl g4 k

theorem k568_35 {P : s_P} {d : Nat} {Q : s_O → Prop} {h : s_H} {kc ks : Nat} {r0 : Term} {q2 : Nat} {f3 : List Term} {v5 v7 : Term} (g4 : s_get h q2 = some (1, 11, f3)) (k : wm P d 425 [v5, v7] h (wq P d sw_c568 sw_h568 46 [.index q2] [] kc ks Q)) (e_q2 : r0 = .index q2 := by first | rfl | assumption) (y1 : s_ty r0 = 3 := by first | rfl | assumption) (n6 : s_nth f3 15 = some v5 := by first | rfl | assumption) (n8 : s_nth f3 16 = some v7 := by first | rfl | assumption)  : wr P d sw_c568 sw_h568 (35, [r0], [], h, kc, ks) Q := by
  refine w_ld rfl rfl (Or.inr (Or.inr ⟨by decide, y1⟩)) ?_
  subst e_q2
  refine w_getf rfl g4 n6 ?_
  refine w_ld rfl rfl (Or.inr (Or.inr ⟨by decide, rfl⟩)) ?_
  refine w_getf rfl g4 n8 ?_
  exact w_cs rfl [v5, v7] [] rfl rfl (s_wt_4 rfl) k

theorem k568_46 {P : s_P} {d : Nat} {Q : s_O → Prop} {h : s_H} {kc ks : Nat} {r0 : Term} {q2 : Nat} {f3 : List Term} (g4 : s_get h q2 = some (1, 11, f3)) (k : wm P d 516 [.index q2] h (wq P d sw_c568 sw_h568 50 [.index q2] [] kc ks Q)) (e_q2 : r0 = .index q2 := by first | rfl | assumption) (y1 : s_ty r0 = 3 := by first | rfl | assumption)  : wr P d sw_c568 sw_h568 (46, [r0], [], h, kc, ks) Q := by
  refine w_ld rfl rfl (Or.inr (Or.inr ⟨by decide, y1⟩)) ?_
  subst e_q2
  exact w_cv rfl [.index q2] [] rfl rfl (s_wt_4 rfl) rfl g4 k

theorem k568_50 {P : s_P} {d : Nat} {Q : s_O → Prop} {h : s_H} {kc ks : Nat} {r0 : Term}  (k : Q (.inl none, h, kc, ks))   : wr P d sw_c568 sw_h568 (50, [r0], [], h, kc, ks) Q := by
  exact w_ret rfl k

/-! 569: FormulaWorksModel.quotientSeries()V -/
theorem k569_0 {P : s_P} {d : Nat} {Q : s_O → Prop} {h : s_H} {kc ks : Nat} {r0 t1 t2 t3 t4 t5 t6 : Term} {q2 : Nat} {f3 : List Term} {v5 : Term} {q7 : Nat} {a8 : List Int} (g4 : s_get h q2 = some (1, 11, f3)) (g9 : s_get h q7 = some (0, 1, a8.map vl)) (k : wm P d 467 [vl (gi a8 0)] h (wq P d sw_c569 sw_h569 9 [.index q2, t1, t2, t3, t4, t5, t6] [] kc ks Q)) (e_q2 : r0 = .index q2 := by first | rfl | assumption) (e_q7 : v5 = .index q7 := by first | rfl | assumption) (y1 : s_ty r0 = 3 := by first | rfl | assumption) (n6 : s_nth f3 12 = some v5 := by first | rfl | assumption) (c10 : (0 : Int) < a8.length := by first | omega | assumption | (simp only [mk_len, List.length_map]; omega) | decide) : wr P d sw_c569 sw_h569 (0, [r0, t1, t2, t3, t4, t5, t6], [], h, kc, ks) Q := by
  refine w_ld rfl rfl (Or.inr (Or.inr ⟨by decide, y1⟩)) ?_
  subst e_q2
  refine w_getf rfl g4 n6 ?_
  refine w_c32 rfl (by decide) 0 (by decide) ?_
  subst e_q7
  refine w_lald rfl g9 (by decide) (by decide) c10 ?_
  exact w_cs rfl [vl (gi a8 0)] [] rfl rfl (s_wt_4 rfl) k

theorem k569_9 {P : s_P} {d : Nat} {Q : s_O → Prop} {h : s_H} {kc ks : Nat} {r0 t1 t2 t3 t4 t5 t6 : Term} {s0 : Int} {q2 : Nat} {f3 : List Term} {v5 : Term} (g4 : s_get h q2 = some (1, 11, f3)) (k : wm P d 438 [v5] h (wq P d sw_c569 sw_h569 17 [.index q2, vl s0, .result, t3, t4, t5, t6] [] kc ks Q)) (e_q2 : r0 = .index q2 := by first | rfl | assumption) (y1 : s_ty r0 = 3 := by first | rfl | assumption) (n6 : s_nth f3 14 = some v5 := by first | rfl | assumption)  : wr P d sw_c569 sw_h569 (9, [r0, t1, t2, t3, t4, t5, t6], [vl s0], h, kc, ks) Q := by
  refine w_stl (ls' := [r0, vl s0, t2, t3, t4, t5, t6]) (ls'' := [r0, vl s0, .result, t3, t4, t5, t6]) rfl ⟨by decide, rfl⟩ (s_stK_r (pre := []) y1) rfl ?_
  refine w_ld rfl rfl (Or.inr (Or.inr ⟨by decide, y1⟩)) ?_
  subst e_q2
  refine w_getf rfl g4 n6 ?_
  exact w_cs rfl [v5] [] rfl rfl (s_wt_4 rfl) k

theorem k569_17 {P : s_P} {d : Nat} {Q : s_O → Prop} {h : s_H} {kc ks : Nat} {r0 : Term} {x1 : Int} {t2 t3 t4 t5 t6 : Term}  (k : wr P d sw_c569 sw_h569 (19, [r0, vl x1, (s_uu t2), vi 0, t4, t5, t6], [], h, kc, ks) Q)   : wr P d sw_c569 sw_h569 (17, [r0, vl x1, t2, t3, t4, t5, t6], [], h, kc, ks) Q := by
  refine w_c32 rfl (by decide) 0 (by decide) ?_
  refine w_st (ls' := [r0, vl x1, (s_uu t2), vi 0, t4, t5, t6]) rfl (Or.inl ⟨by decide, rfl⟩) (s_stK_t (pre := [r0, vl x1])) ?_
  exact k

theorem k569_19 {P : s_P} {d : Nat} {Q : s_O → Prop} {h : s_H} {kc ks : Nat} {r0 : Term} {x1 : Int} {t2 : Term} {x3 : Int} {t4 t5 t6 : Term}  (k1 : 25 ≤ x3 → wr P d sw_c569 sw_h569 (93, [r0, vl x1, t2, vi x3, t4, t5, t6], [], h, kc, ks) Q) (k2 : ¬ 25 ≤ x3 → wr P d sw_c569 sw_h569 (25, [r0, vl x1, t2, vi x3, t4, t5, t6], [], h, kc, ks) Q)  (c1 : In3 x3 := by first | omega | assumption | (simp only [mk_len, List.length_map]; omega) | decide) : wr P d sw_c569 sw_h569 (19, [r0, vl x1, t2, vi x3, t4, t5, t6], [], h, kc, ks) Q := by
  refine w_ld rfl rfl (Or.inl ⟨by decide, rfl⟩) ?_
  refine w_c32 rfl (by decide) 25 (by decide) ?_
  exact w_if2 rfl c1 (by decide) k1 k2

theorem k569_25 {P : s_P} {d : Nat} {Q : s_O → Prop} {h : s_H} {kc ks : Nat} {r0 : Term} {x1 : Int} {t2 : Term} {x3 : Int} {t4 t5 t6 : Term} {q2 : Nat} {f3 : List Term} {v5 : Term} {q7 : Nat} {a8 : List Int} (g4 : s_get h q2 = some (1, 11, f3)) (g9 : s_get h q7 = some (0, 1, a8.map vl)) (k : wr P d sw_c569 sw_h569 (36, [.index q2, vl x1, t2, vi x3, vl (gi a8 x3), .result, vi 1], [], h, kc, ks) Q) (e_q2 : r0 = .index q2 := by first | rfl | assumption) (e_q7 : v5 = .index q7 := by first | rfl | assumption) (y1 : s_ty r0 = 3 := by first | rfl | assumption) (n6 : s_nth f3 10 = some v5 := by first | rfl | assumption) (c10 : x3 < a8.length := by first | omega | assumption | (simp only [mk_len, List.length_map]; omega) | decide) (c11 : 0 ≤ x3 := by first | omega | assumption | (simp only [mk_len, List.length_map]; omega) | decide) (c12 : In3 x3 := by first | omega | assumption | (simp only [mk_len, List.length_map]; omega) | decide) : wr P d sw_c569 sw_h569 (25, [r0, vl x1, t2, vi x3, t4, t5, t6], [], h, kc, ks) Q := by
  refine w_ld rfl rfl (Or.inr (Or.inr ⟨by decide, y1⟩)) ?_
  subst e_q2
  refine w_getf rfl g4 n6 ?_
  refine w_ld rfl rfl (Or.inl ⟨by decide, rfl⟩) ?_
  subst e_q7
  refine w_lald rfl g9 c12 c11 c10 ?_
  refine w_stl (ls' := [.index q2, vl x1, t2, vi x3, vl (gi a8 x3), t5, t6]) (ls'' := [.index q2, vl x1, t2, vi x3, vl (gi a8 x3), .result, t6]) rfl ⟨by decide, rfl⟩ rfl rfl ?_
  refine w_c32 rfl (by decide) 1 (by decide) ?_
  refine w_st (ls' := [.index q2, vl x1, t2, vi x3, vl (gi a8 x3), .result, vi 1]) rfl (Or.inl ⟨by decide, rfl⟩) rfl ?_
  exact k

theorem k569_36 {P : s_P} {d : Nat} {Q : s_O → Prop} {h : s_H} {kc ks : Nat} {r0 : Term} {x1 : Int} {t2 : Term} {x3 x4 : Int} {t5 : Term} {x6 : Int}  (k1 : x3 < x6 → wr P d sw_c569 sw_h569 (73, [r0, vl x1, t2, vi x3, vl x4, t5, vi x6], [], h, kc, ks) Q) (k2 : ¬ x3 < x6 → wr P d sw_c569 sw_h569 (42, [r0, vl x1, t2, vi x3, vl x4, t5, vi x6], [], h, kc, ks) Q)  (c1 : In3 x6 := by first | omega | assumption | (simp only [mk_len, List.length_map]; omega) | decide) (c2 : In3 x3 := by first | omega | assumption | (simp only [mk_len, List.length_map]; omega) | decide) : wr P d sw_c569 sw_h569 (36, [r0, vl x1, t2, vi x3, vl x4, t5, vi x6], [], h, kc, ks) Q := by
  refine w_ld rfl rfl (Or.inl ⟨by decide, rfl⟩) ?_
  refine w_ld rfl rfl (Or.inl ⟨by decide, rfl⟩) ?_
  exact w_if2 rfl c1 c2 k1 k2

theorem k569_42 {P : s_P} {d : Nat} {Q : s_O → Prop} {h : s_H} {kc ks : Nat} {r0 : Term} {x1 : Int} {t2 : Term} {x3 x4 : Int} {t5 : Term} {x6 : Int} {q2 : Nat} {f3 : List Term} {v5 : Term} {q7 : Nat} {a8 : List Int} {v13 : Term} {q15 : Nat} {a16 : List Int} (g4 : s_get h q2 = some (1, 11, f3)) (g9 : s_get h q7 = some (0, 1, a8.map vl)) (g17 : s_get h q15 = some (0, 1, a16.map vl)) (k : wm P d 528 [vl (x4 - ((gi a8 x6) * (gi a16 (x3 - x6))))] h (wq P d sw_c569 sw_h569 65 [.index q2, vl x1, t2, vi x3, vl x4, t5, vi x6] [] kc ks Q)) (e_q2 : r0 = .index q2 := by first | rfl | assumption) (e_q7 : v5 = .index q7 := by first | rfl | assumption) (e_q15 : v13 = .index q15 := by first | rfl | assumption) (y1 : s_ty r0 = 3 := by first | rfl | assumption) (n6 : s_nth f3 12 = some v5 := by first | rfl | assumption) (n14 : s_nth f3 14 = some v13 := by first | rfl | assumption) (c10 : x6 < a8.length := by first | omega | assumption | (simp only [mk_len, List.length_map]; omega) | decide) (c11 : 0 ≤ x6 := by first | omega | assumption | (simp only [mk_len, List.length_map]; omega) | decide) (c12 : In3 x6 := by first | omega | assumption | (simp only [mk_len, List.length_map]; omega) | decide) (c18 : x3 - x6 < a16.length := by first | omega | assumption | (simp only [mk_len, List.length_map]; omega) | decide) (c19 : 0 ≤ x3 - x6 := by first | omega | assumption | (simp only [mk_len, List.length_map]; omega) | decide) (c20 : In3 (x3 - x6) := by first | omega | assumption | (simp only [mk_len, List.length_map]; omega) | decide) : wr P d sw_c569 sw_h569 (42, [r0, vl x1, t2, vi x3, vl x4, t5, vi x6], [], h, kc, ks) Q := by
  refine w_ld rfl rfl (Or.inr (Or.inl ⟨by decide, rfl⟩)) ?_
  refine w_ld rfl rfl (Or.inr (Or.inr ⟨by decide, y1⟩)) ?_
  subst e_q2
  refine w_getf rfl g4 n6 ?_
  refine w_ld rfl rfl (Or.inl ⟨by decide, rfl⟩) ?_
  subst e_q7
  refine w_lald rfl g9 c12 c11 c10 ?_
  refine w_ld rfl rfl (Or.inr (Or.inr ⟨by decide, rfl⟩)) ?_
  refine w_getf rfl g4 n14 ?_
  refine w_ld rfl rfl (Or.inl ⟨by decide, rfl⟩) ?_
  refine w_ld rfl rfl (Or.inl ⟨by decide, rfl⟩) ?_
  refine w_isub rfl ?_
  subst e_q15
  refine w_lald rfl g17 c20 c19 c18 ?_
  refine w_lmul rfl ?_
  refine w_lsub rfl ?_
  exact w_cs rfl [vl (x4 - ((gi a8 x6) * (gi a16 (x3 - x6))))] [] rfl rfl (s_wt_4 rfl) k

theorem k569_65 {P : s_P} {d : Nat} {Q : s_O → Prop} {h : s_H} {kc ks : Nat} {r0 : Term} {x1 : Int} {t2 : Term} {x3 x4 : Int} {t5 : Term} {x6 s0 : Int}  (k : wr P d sw_c569 sw_h569 (36, [r0, vl x1, t2, vi x3, vl s0, .result, vi (x6 + 1)], [], h, kc, ks) Q)   : wr P d sw_c569 sw_h569 (65, [r0, vl x1, t2, vi x3, vl x4, t5, vi x6], [vl s0], h, kc, ks) Q := by
  refine w_stl (ls' := [r0, vl x1, t2, vi x3, vl s0, t5, vi x6]) (ls'' := [r0, vl x1, t2, vi x3, vl s0, .result, vi x6]) rfl ⟨by decide, rfl⟩ rfl rfl ?_
  refine w_iinc (ls' := [r0, vl x1, t2, vi x3, vl s0, .result, vi (x6 + 1)]) rfl rfl 1 (by decide) rfl ?_
  refine w_goto rfl ?_
  exact k

theorem k569_73 {P : s_P} {d : Nat} {Q : s_O → Prop} {h : s_H} {kc ks : Nat} {r0 : Term} {x1 : Int} {t2 : Term} {x3 x4 : Int} {t5 : Term} {x6 : Int} {q2 : Nat} {f3 : List Term} {v5 : Term} {q8 : Nat} {a9 : List Int} (g4 : s_get h q2 = some (1, 11, f3)) (g10 : s_get h q8 = some (0, 1, a9.map vl)) (k : wr P d sw_c569 sw_h569 (19, [.index q2, vl x1, (s_uu t2), vi (x3 + 1), vl x4, t5, vi x6], [], (hp h q8 (0, 1, (a9.set (Int.toNat (x3)) (Int.tmod (x4 * x1) 32003)).map vl)), kc, ks) Q) (e_q2 : r0 = .index q2 := by first | rfl | assumption) (e_q8 : v5 = .index q8 := by first | rfl | assumption) (y1 : s_ty r0 = 3 := by first | rfl | assumption) (n6 : s_nth f3 14 = some v5 := by first | rfl | assumption) (c7 : In6 (x4 * x1) := by first | omega | assumption | (simp only [mk_len, List.length_map]; omega) | decide) (c11 : x3 < a9.length := by first | omega | assumption | (simp only [mk_len, List.length_map]; omega) | decide) (c12 : 0 ≤ x3 := by first | omega | assumption | (simp only [mk_len, List.length_map]; omega) | decide) (c13 : In3 x3 := by first | omega | assumption | (simp only [mk_len, List.length_map]; omega) | decide) (c14 : 0 < q8 := by first | omega | assumption | (simp only [mk_len, List.length_map]; omega) | decide) : wr P d sw_c569 sw_h569 (73, [r0, vl x1, t2, vi x3, vl x4, t5, vi x6], [], h, kc, ks) Q := by
  refine w_ld rfl rfl (Or.inr (Or.inr ⟨by decide, y1⟩)) ?_
  subst e_q2
  refine w_getf rfl g4 n6 ?_
  refine w_ld rfl rfl (Or.inl ⟨by decide, rfl⟩) ?_
  refine w_ld rfl rfl (Or.inr (Or.inl ⟨by decide, rfl⟩)) ?_
  refine w_ld rfl rfl (Or.inr (Or.inl ⟨by decide, rfl⟩)) ?_
  refine w_lmul rfl ?_
  refine w_c64 rfl (by decide) 32003 (by decide) ?_
  refine w_lrem rfl c7 (by decide) (by decide) ?_
  subst e_q8
  refine w_last rfl g10 (Nat.ble_eq_true_of_le c14) c13 c12 c11 ?_
  refine w_iinc (ls' := [.index q2, vl x1, (s_uu t2), vi (x3 + 1), vl x4, t5, vi x6]) rfl rfl 1 (by decide) (s_stK_t (pre := [.index q2, vl x1])) ?_
  refine w_goto rfl ?_
  exact k

theorem k569_93 {P : s_P} {d : Nat} {Q : s_O → Prop} {h : s_H} {kc ks : Nat} {r0 : Term} {x1 : Int} {t2 : Term} {x3 : Int} {t4 t5 t6 : Term}  (k : Q (.inl none, h, kc, ks))   : wr P d sw_c569 sw_h569 (93, [r0, vl x1, t2, vi x3, t4, t5, t6], [], h, kc, ks) Q := by
  exact w_ret rfl k

/-! 570: FormulaWorksModel.raise(I)I -/
theorem k570_0 {P : s_P} {d : Nat} {Q : s_O → Prop} {h : s_H} {kc ks : Nat} {r0 : Term} {x1 : Int} {q2 : Nat} {f3 : List Term} (g4 : s_get h q2 = some (1, 11, f3)) (k : Q (.inl (some (vi 0)), (hp h q2 (1, 11, f3.set 0 (vi x1))), kc, ks)) (e_q2 : r0 = .index q2 := by first | rfl | assumption) (y1 : s_ty r0 = 3 := by first | rfl | assumption) (l5 : 0 < f3.length := by first | exact Nat.le_of_ble_eq_true rfl | omega | assumption) (c6 : 0 < q2 := by first | omega | assumption | (simp only [mk_len, List.length_map]; omega) | decide) : wr P d sw_c570 sw_h570 (0, [r0, vi x1], [], h, kc, ks) Q := by
  refine w_ld rfl rfl (Or.inr (Or.inr ⟨by decide, y1⟩)) ?_
  refine w_ld rfl rfl (Or.inl ⟨by decide, rfl⟩) ?_
  subst e_q2
  refine w_putf rfl g4 (Nat.ble_eq_true_of_le c6) rfl (Nat.ble_eq_true_of_le l5) ?_
  refine w_c32 rfl (by decide) 0 (by decide) ?_
  exact w_iret rfl k

/-! 571: FormulaWorksModel.rank(I)I -/
theorem k571_0 {P : s_P} {d : Nat} {Q : s_O → Prop} {h : s_H} {kc ks : Nat} {r0 : Term} {x1 : Int} {q2 : Nat} {f3 : List Term} (g4 : s_get h q2 = some (1, 11, f3)) (k : wm P d 481 [.index q2, vi x1, vi 2] h (wq P d sw_c571 sw_h571 6 [.index q2, vi x1] [] kc ks Q)) (e_q2 : r0 = .index q2 := by first | rfl | assumption) (y1 : s_ty r0 = 3 := by first | rfl | assumption)  : wr P d sw_c571 sw_h571 (0, [r0, vi x1], [], h, kc, ks) Q := by
  refine w_ld rfl rfl (Or.inr (Or.inr ⟨by decide, y1⟩)) ?_
  refine w_ld rfl rfl (Or.inl ⟨by decide, rfl⟩) ?_
  refine w_c32 rfl (by decide) 2 (by decide) ?_
  subst e_q2
  exact w_cv rfl [.index q2, vi x1, vi 2] [] rfl rfl (s_wt_4 rfl) rfl g4 k

theorem k571_6 {P : s_P} {d : Nat} {Q : s_O → Prop} {h : s_H} {kc ks : Nat} {r0 : Term} {x1 s0 : Int}  (k1 : s0 ≠ 0 → wr P d sw_c571 sw_h571 (11, [r0, vi x1], [], h, kc, ks) Q) (k2 : ¬ s0 ≠ 0 → wr P d sw_c571 sw_h571 (9, [r0, vi x1], [], h, kc, ks) Q)  (c1 : In3 s0 := by first | omega | assumption | (simp only [mk_len, List.length_map]; omega) | decide) : wr P d sw_c571 sw_h571 (6, [r0, vi x1], [vi s0], h, kc, ks) Q := by
  exact w_if1 rfl c1 k1 k2

theorem k571_9 {P : s_P} {d : Nat} {Q : s_O → Prop} {h : s_H} {kc ks : Nat} {r0 : Term} {x1 : Int}  (k : Q (.inl (some (vi 0)), h, kc, ks))   : wr P d sw_c571 sw_h571 (9, [r0, vi x1], [], h, kc, ks) Q := by
  refine w_c32 rfl (by decide) 0 (by decide) ?_
  exact w_iret rfl k

theorem k571_11 {P : s_P} {d : Nat} {Q : s_O → Prop} {h : s_H} {kc ks : Nat} {r0 : Term} {x1 : Int} {q2 : Nat} {f3 : List Term} (g4 : s_get h q2 = some (1, 11, f3)) (k : wm P d 572 [.index q2, vi x1] h (wq P d sw_c571 sw_h571 16 [.index q2, vi x1] [] kc ks Q)) (e_q2 : r0 = .index q2 := by first | rfl | assumption) (y1 : s_ty r0 = 3 := by first | rfl | assumption)  : wr P d sw_c571 sw_h571 (11, [r0, vi x1], [], h, kc, ks) Q := by
  refine w_ld rfl rfl (Or.inr (Or.inr ⟨by decide, y1⟩)) ?_
  refine w_ld rfl rfl (Or.inl ⟨by decide, rfl⟩) ?_
  subst e_q2
  exact w_cv rfl [.index q2, vi x1] [] rfl rfl (s_wt_4 rfl) rfl g4 k

theorem k571_16 {P : s_P} {d : Nat} {Q : s_O → Prop} {h : s_H} {kc ks : Nat} {r0 : Term} {x1 s0 : Int}  (k : Q (.inl (some (vi s0)), h, kc, ks))   : wr P d sw_c571 sw_h571 (16, [r0, vi x1], [vi s0], h, kc, ks) Q := by
  exact w_iret rfl k

/-! 572: FormulaWorksModel.rankOf(I)I -/
theorem k572_0 {P : s_P} {d : Nat} {Q : s_O → Prop} {h : s_H} {kc ks : Nat} {r0 : Term} {x1 : Int} {t2 t3 : Term} {q2 : Nat} {f3 : List Term} (g4 : s_get h q2 = some (1, 11, f3)) (k : wm P d 453 [.index q2, vi x1] h (wq P d sw_c572 sw_h572 5 [.index q2, vi x1, t2, t3] [] kc ks Q)) (e_q2 : r0 = .index q2 := by first | rfl | assumption) (y1 : s_ty r0 = 3 := by first | rfl | assumption)  : wr P d sw_c572 sw_h572 (0, [r0, vi x1, t2, t3], [], h, kc, ks) Q := by
  refine w_ld rfl rfl (Or.inr (Or.inr ⟨by decide, y1⟩)) ?_
  refine w_ld rfl rfl (Or.inl ⟨by decide, rfl⟩) ?_
  subst e_q2
  exact w_cv rfl [.index q2, vi x1] [] rfl rfl (s_wt_4 rfl) rfl g4 k

theorem k572_5 {P : s_P} {d : Nat} {Q : s_O → Prop} {h : s_H} {kc ks : Nat} {r0 : Term} {x1 : Int} {t2 t3 : Term} {q2 : Nat} {f3 : List Term} {v5 : Term} {q7 : Nat} {a8 : List Int} {v13 : Term} {q15 : Nat} {a16 : List Int} (g4 : s_get h q2 = some (1, 11, f3)) (g9 : s_get h q7 = some (0, 0, a8.map vi)) (g17 : s_get h q15 = some (0, 0, a16.map vi)) (k1 : gi a16 x1 ≤ gi a8 x1 → wr P d sw_c572 sw_h572 (29, [.index q2, vi x1, t2, t3], [], h, kc, ks) Q) (k2 : ¬ gi a16 x1 ≤ gi a8 x1 → wr P d sw_c572 sw_h572 (20, [.index q2, vi x1, t2, t3], [], h, kc, ks) Q) (e_q2 : r0 = .index q2 := by first | rfl | assumption) (e_q7 : v5 = .index q7 := by first | rfl | assumption) (e_q15 : v13 = .index q15 := by first | rfl | assumption) (y1 : s_ty r0 = 3 := by first | rfl | assumption) (n6 : s_nth f3 5 = some v5 := by first | rfl | assumption) (n14 : s_nth f3 6 = some v13 := by first | rfl | assumption) (c10 : x1 < a8.length := by first | omega | assumption | (simp only [mk_len, List.length_map]; omega) | decide) (c11 : 0 ≤ x1 := by first | omega | assumption | (simp only [mk_len, List.length_map]; omega) | decide) (c12 : In3 x1 := by first | omega | assumption | (simp only [mk_len, List.length_map]; omega) | decide) (c18 : x1 < a16.length := by first | omega | assumption | (simp only [mk_len, List.length_map]; omega) | decide) (c19 : In3 (gi a8 x1) := by first | omega | assumption | (simp only [mk_len, List.length_map]; omega) | decide) (c20 : In3 (gi a16 x1) := by first | omega | assumption | (simp only [mk_len, List.length_map]; omega) | decide) : wr P d sw_c572 sw_h572 (5, [r0, vi x1, t2, t3], [], h, kc, ks) Q := by
  refine w_ld rfl rfl (Or.inr (Or.inr ⟨by decide, y1⟩)) ?_
  subst e_q2
  refine w_getf rfl g4 n6 ?_
  refine w_ld rfl rfl (Or.inl ⟨by decide, rfl⟩) ?_
  subst e_q7
  refine w_iald rfl g9 (Or.inl rfl) c12 c11 c10 ?_
  refine w_ld rfl rfl (Or.inr (Or.inr ⟨by decide, rfl⟩)) ?_
  refine w_getf rfl g4 n14 ?_
  refine w_ld rfl rfl (Or.inl ⟨by decide, rfl⟩) ?_
  subst e_q15
  refine w_iald rfl g17 (Or.inl rfl) c12 c11 c18 ?_
  exact w_if2 rfl c19 c20 k1 k2

theorem k572_20 {P : s_P} {d : Nat} {Q : s_O → Prop} {h : s_H} {kc ks : Nat} {r0 : Term} {x1 : Int} {t2 t3 : Term} {q2 : Nat} {f3 : List Term} {v5 : Term} {q7 : Nat} {a8 : List Int} (g4 : s_get h q2 = some (1, 11, f3)) (g9 : s_get h q7 = some (0, 0, a8.map vi)) (k : wr P d sw_c572 sw_h572 (35, [.index q2, vi x1, t2, t3], [vi (gi a8 x1)], h, kc, ks) Q) (e_q2 : r0 = .index q2 := by first | rfl | assumption) (e_q7 : v5 = .index q7 := by first | rfl | assumption) (y1 : s_ty r0 = 3 := by first | rfl | assumption) (n6 : s_nth f3 5 = some v5 := by first | rfl | assumption) (c10 : x1 < a8.length := by first | omega | assumption | (simp only [mk_len, List.length_map]; omega) | decide) (c11 : 0 ≤ x1 := by first | omega | assumption | (simp only [mk_len, List.length_map]; omega) | decide) (c12 : In3 x1 := by first | omega | assumption | (simp only [mk_len, List.length_map]; omega) | decide) : wr P d sw_c572 sw_h572 (20, [r0, vi x1, t2, t3], [], h, kc, ks) Q := by
  refine w_ld rfl rfl (Or.inr (Or.inr ⟨by decide, y1⟩)) ?_
  subst e_q2
  refine w_getf rfl g4 n6 ?_
  refine w_ld rfl rfl (Or.inl ⟨by decide, rfl⟩) ?_
  subst e_q7
  refine w_iald rfl g9 (Or.inl rfl) c12 c11 c10 ?_
  refine w_goto rfl ?_
  exact k

theorem k572_29 {P : s_P} {d : Nat} {Q : s_O → Prop} {h : s_H} {kc ks : Nat} {r0 : Term} {x1 : Int} {t2 t3 : Term} {q2 : Nat} {f3 : List Term} {v5 : Term} {q7 : Nat} {a8 : List Int} (g4 : s_get h q2 = some (1, 11, f3)) (g9 : s_get h q7 = some (0, 0, a8.map vi)) (k : wr P d sw_c572 sw_h572 (35, [.index q2, vi x1, t2, t3], [vi (gi a8 x1)], h, kc, ks) Q) (e_q2 : r0 = .index q2 := by first | rfl | assumption) (e_q7 : v5 = .index q7 := by first | rfl | assumption) (y1 : s_ty r0 = 3 := by first | rfl | assumption) (n6 : s_nth f3 6 = some v5 := by first | rfl | assumption) (c10 : x1 < a8.length := by first | omega | assumption | (simp only [mk_len, List.length_map]; omega) | decide) (c11 : 0 ≤ x1 := by first | omega | assumption | (simp only [mk_len, List.length_map]; omega) | decide) (c12 : In3 x1 := by first | omega | assumption | (simp only [mk_len, List.length_map]; omega) | decide) : wr P d sw_c572 sw_h572 (29, [r0, vi x1, t2, t3], [], h, kc, ks) Q := by
  refine w_ld rfl rfl (Or.inr (Or.inr ⟨by decide, y1⟩)) ?_
  subst e_q2
  refine w_getf rfl g4 n6 ?_
  refine w_ld rfl rfl (Or.inl ⟨by decide, rfl⟩) ?_
  subst e_q7
  refine w_iald rfl g9 (Or.inl rfl) c12 c11 c10 ?_
  exact k

theorem k572_35 {P : s_P} {d : Nat} {Q : s_O → Prop} {h : s_H} {kc ks : Nat} {r0 : Term} {x1 : Int} {t2 t3 : Term} {s0 : Int}  (k : wr P d sw_c572 sw_h572 (38, [r0, vi x1, vi s0, vi s0], [], h, kc, ks) Q)   : wr P d sw_c572 sw_h572 (35, [r0, vi x1, t2, t3], [vi s0], h, kc, ks) Q := by
  refine w_st (ls' := [r0, vi x1, vi s0, t3]) rfl (Or.inl ⟨by decide, rfl⟩) rfl ?_
  refine w_ld rfl rfl (Or.inl ⟨by decide, rfl⟩) ?_
  refine w_st (ls' := [r0, vi x1, vi s0, vi s0]) rfl (Or.inl ⟨by decide, rfl⟩) rfl ?_
  exact k

theorem k572_38 {P : s_P} {d : Nat} {Q : s_O → Prop} {h : s_H} {kc ks : Nat} {r0 : Term} {x1 x2 x3 : Int}  (k1 : x3 ≤ 0 → wr P d sw_c572 sw_h572 (70, [r0, vi x1, vi x2, vi x3], [], h, kc, ks) Q) (k2 : ¬ x3 ≤ 0 → wr P d sw_c572 sw_h572 (42, [r0, vi x1, vi x2, vi x3], [], h, kc, ks) Q)  (c1 : In3 x3 := by first | omega | assumption | (simp only [mk_len, List.length_map]; omega) | decide) : wr P d sw_c572 sw_h572 (38, [r0, vi x1, vi x2, vi x3], [], h, kc, ks) Q := by
  refine w_ld rfl rfl (Or.inl ⟨by decide, rfl⟩) ?_
  exact w_if1 rfl c1 k1 k2

theorem k572_42 {P : s_P} {d : Nat} {Q : s_O → Prop} {h : s_H} {kc ks : Nat} {r0 : Term} {x1 x2 x3 : Int} {q2 : Nat} {f3 : List Term} {v5 : Term} (g4 : s_get h q2 = some (1, 11, f3)) (k : wm P d 436 [.index q2, v5, vi x1, vi x3] h (wq P d sw_c572 sw_h572 52 [.index q2, vi x1, vi x2, vi x3] [] kc ks Q)) (e_q2 : r0 = .index q2 := by first | rfl | assumption) (y1 : s_ty r0 = 3 := by first | rfl | assumption) (n6 : s_nth f3 23 = some v5 := by first | rfl | assumption)  : wr P d sw_c572 sw_h572 (42, [r0, vi x1, vi x2, vi x3], [], h, kc, ks) Q := by
  refine w_ld rfl rfl (Or.inr (Or.inr ⟨by decide, y1⟩)) ?_
  refine w_ld rfl rfl (Or.inr (Or.inr ⟨by decide, y1⟩)) ?_
  subst e_q2
  refine w_getf rfl g4 n6 ?_
  refine w_ld rfl rfl (Or.inl ⟨by decide, rfl⟩) ?_
  refine w_ld rfl rfl (Or.inl ⟨by decide, rfl⟩) ?_
  exact w_cv rfl [.index q2, v5, vi x1, vi x3] [] rfl rfl (s_wt_4 rfl) rfl g4 k

theorem k572_52 {P : s_P} {d : Nat} {Q : s_O → Prop} {h : s_H} {kc ks : Nat} {r0 : Term} {x1 x2 x3 : Int} {q2 : Nat} {f3 : List Term} {v5 : Term} (g4 : s_get h q2 = some (1, 11, f3)) (k : wm P d 463 [v5] h (wq P d sw_c572 sw_h572 59 [.index q2, vi x1, vi x2, vi x3] [] kc ks Q)) (e_q2 : r0 = .index q2 := by first | rfl | assumption) (y1 : s_ty r0 = 3 := by first | rfl | assumption) (n6 : s_nth f3 23 = some v5 := by first | rfl | assumption)  : wr P d sw_c572 sw_h572 (52, [r0, vi x1, vi x2, vi x3], [], h, kc, ks) Q := by
  refine w_ld rfl rfl (Or.inr (Or.inr ⟨by decide, y1⟩)) ?_
  subst e_q2
  refine w_getf rfl g4 n6 ?_
  exact w_cs rfl [v5] [] rfl rfl (s_wt_4 rfl) k

theorem k572_59 {P : s_P} {d : Nat} {Q : s_O → Prop} {h : s_H} {kc ks : Nat} {r0 : Term} {x1 x2 x3 s0 : Int}  (k1 : s0 < 0 → wr P d sw_c572 sw_h572 (64, [r0, vi x1, vi x2, vi x3], [], h, kc, ks) Q) (k2 : ¬ s0 < 0 → wr P d sw_c572 sw_h572 (62, [r0, vi x1, vi x2, vi x3], [], h, kc, ks) Q)  (c1 : In3 s0 := by first | omega | assumption | (simp only [mk_len, List.length_map]; omega) | decide) : wr P d sw_c572 sw_h572 (59, [r0, vi x1, vi x2, vi x3], [vi s0], h, kc, ks) Q := by
  exact w_if1 rfl c1 k1 k2

theorem k572_62 {P : s_P} {d : Nat} {Q : s_O → Prop} {h : s_H} {kc ks : Nat} {r0 : Term} {x1 x2 x3 : Int}  (k : Q (.inl (some (vi x3)), h, kc, ks))   : wr P d sw_c572 sw_h572 (62, [r0, vi x1, vi x2, vi x3], [], h, kc, ks) Q := by
  refine w_ld rfl rfl (Or.inl ⟨by decide, rfl⟩) ?_
  exact w_iret rfl k

theorem k572_64 {P : s_P} {d : Nat} {Q : s_O → Prop} {h : s_H} {kc ks : Nat} {r0 : Term} {x1 x2 x3 : Int}  (k : wr P d sw_c572 sw_h572 (38, [r0, vi x1, vi x2, vi (x3 + (-1))], [], h, kc, ks) Q)   : wr P d sw_c572 sw_h572 (64, [r0, vi x1, vi x2, vi x3], [], h, kc, ks) Q := by
  refine w_iinc (ls' := [r0, vi x1, vi x2, vi (x3 + (-1))]) rfl rfl (-1) (by decide) rfl ?_
  refine w_goto rfl ?_
  exact k

theorem k572_70 {P : s_P} {d : Nat} {Q : s_O → Prop} {h : s_H} {kc ks : Nat} {r0 : Term} {x1 x2 x3 : Int}  (k : Q (.inl (some (vi 0)), h, kc, ks))   : wr P d sw_c572 sw_h572 (70, [r0, vi x1, vi x2, vi x3], [], h, kc, ks) Q := by
  refine w_c32 rfl (by decide) 0 (by decide) ?_
  exact w_iret rfl k

/-! 573: FormulaWorksModel.read()I -/
theorem k573_0 {P : s_P} {d : Nat} {Q : s_O → Prop} {h : s_H} {kc ks : Nat} {r0 : Term} {q2 : Nat} {f3 : List Term} {z5 : Int} (g4 : s_get h q2 = some (1, 11, f3)) (k1 : z5 ≠ 150 → wr P d sw_c573 sw_h573 (16, [.index q2], [], h, kc, ks) Q) (k2 : ¬ z5 ≠ 150 → wr P d sw_c573 sw_h573 (10, [.index q2], [], h, kc, ks) Q) (e_q2 : r0 = .index q2 := by first | rfl | assumption) (y1 : s_ty r0 = 3 := by first | rfl | assumption) (n6 : s_nth f3 1 = some (vi z5) := by first | rfl | assumption) (c7 : In3 z5 := by first | omega | assumption | (simp only [mk_len, List.length_map]; omega) | decide) : wr P d sw_c573 sw_h573 (0, [r0], [], h, kc, ks) Q := by
  refine w_ld rfl rfl (Or.inr (Or.inr ⟨by decide, y1⟩)) ?_
  subst e_q2
  refine w_getf rfl g4 n6 ?_
  refine w_c32 rfl (by decide) 150 (by decide) ?_
  exact w_if2 rfl c7 (by decide) k1 k2

theorem k573_10 {P : s_P} {d : Nat} {Q : s_O → Prop} {h : s_H} {kc ks : Nat} {r0 : Term} {q2 : Nat} {f3 : List Term} (g4 : s_get h q2 = some (1, 11, f3)) (k : wm P d 570 [.index q2, vi 1] h (wq P d sw_c573 sw_h573 15 [.index q2] [] kc ks Q)) (e_q2 : r0 = .index q2 := by first | rfl | assumption) (y1 : s_ty r0 = 3 := by first | rfl | assumption)  : wr P d sw_c573 sw_h573 (10, [r0], [], h, kc, ks) Q := by
  refine w_ld rfl rfl (Or.inr (Or.inr ⟨by decide, y1⟩)) ?_
  refine w_c32 rfl (by decide) 1 (by decide) ?_
  subst e_q2
  exact w_cv rfl [.index q2, vi 1] [] rfl rfl (s_wt_4 rfl) rfl g4 k

theorem k573_15 {P : s_P} {d : Nat} {Q : s_O → Prop} {h : s_H} {kc ks : Nat} {r0 : Term} {s0 : Int}  (k : Q (.inl (some (vi s0)), h, kc, ks))   : wr P d sw_c573 sw_h573 (15, [r0], [vi s0], h, kc, ks) Q := by
  exact w_iret rfl k

theorem k573_16 {P : s_P} {d : Nat} {Q : s_O → Prop} {h : s_H} {kc ks : Nat} {r0 : Term} {q2 : Nat} {f3 : List Term} (g4 : s_get h q2 = some (1, 11, f3)) (k : wm P d 579 [.index q2, vi 0] h (wq P d sw_c573 sw_h573 21 [.index q2] [] kc ks Q)) (e_q2 : r0 = .index q2 := by first | rfl | assumption) (y1 : s_ty r0 = 3 := by first | rfl | assumption)  : wr P d sw_c573 sw_h573 (16, [r0], [], h, kc, ks) Q := by
  refine w_ld rfl rfl (Or.inr (Or.inr ⟨by decide, y1⟩)) ?_
  refine w_c32 rfl (by decide) 0 (by decide) ?_
  subst e_q2
  exact w_cv rfl [.index q2, vi 0] [] rfl rfl (s_wt_4 rfl) rfl g4 k

theorem k573_21 {P : s_P} {d : Nat} {Q : s_O → Prop} {h : s_H} {kc ks : Nat} {r0 : Term} {s0 : Int}  (k1 : s0 ≠ 0 → wr P d sw_c573 sw_h573 (30, [r0], [], h, kc, ks) Q) (k2 : ¬ s0 ≠ 0 → wr P d sw_c573 sw_h573 (24, [r0], [], h, kc, ks) Q)  (c1 : In3 s0 := by first | omega | assumption | (simp only [mk_len, List.length_map]; omega) | decide) : wr P d sw_c573 sw_h573 (21, [r0], [vi s0], h, kc, ks) Q := by
  exact w_if1 rfl c1 k1 k2

theorem k573_24 {P : s_P} {d : Nat} {Q : s_O → Prop} {h : s_H} {kc ks : Nat} {r0 : Term} {q2 : Nat} {f3 : List Term} (g4 : s_get h q2 = some (1, 11, f3)) (k : wm P d 570 [.index q2, vi 2] h (wq P d sw_c573 sw_h573 29 [.index q2] [] kc ks Q)) (e_q2 : r0 = .index q2 := by first | rfl | assumption) (y1 : s_ty r0 = 3 := by first | rfl | assumption)  : wr P d sw_c573 sw_h573 (24, [r0], [], h, kc, ks) Q := by
  refine w_ld rfl rfl (Or.inr (Or.inr ⟨by decide, y1⟩)) ?_
  refine w_c32 rfl (by decide) 2 (by decide) ?_
  subst e_q2
  exact w_cv rfl [.index q2, vi 2] [] rfl rfl (s_wt_4 rfl) rfl g4 k

theorem k573_29 {P : s_P} {d : Nat} {Q : s_O → Prop} {h : s_H} {kc ks : Nat} {r0 : Term} {s0 : Int}  (k : Q (.inl (some (vi s0)), h, kc, ks))   : wr P d sw_c573 sw_h573 (29, [r0], [vi s0], h, kc, ks) Q := by
  exact w_iret rfl k

theorem k573_30 {P : s_P} {d : Nat} {Q : s_O → Prop} {h : s_H} {kc ks : Nat} {r0 : Term} {q2 : Nat} {f3 : List Term} (g4 : s_get h q2 = some (1, 11, f3)) (k : wm P d 495 [.index q2, vi 1] h (wq P d sw_c573 sw_h573 35 [.index q2] [] kc ks Q)) (e_q2 : r0 = .index q2 := by first | rfl | assumption) (y1 : s_ty r0 = 3 := by first | rfl | assumption)  : wr P d sw_c573 sw_h573 (30, [r0], [], h, kc, ks) Q := by
  refine w_ld rfl rfl (Or.inr (Or.inr ⟨by decide, y1⟩)) ?_
  refine w_c32 rfl (by decide) 1 (by decide) ?_
  subst e_q2
  exact w_cv rfl [.index q2, vi 1] [] rfl rfl (s_wt_4 rfl) rfl g4 k

theorem k573_35 {P : s_P} {d : Nat} {Q : s_O → Prop} {h : s_H} {kc ks : Nat} {r0 : Term} {s0 : Int}  (k : Q (.inl (some (vi s0)), h, kc, ks))   : wr P d sw_c573 sw_h573 (35, [r0], [vi s0], h, kc, ks) Q := by
  exact w_iret rfl k

/-! 574: FormulaWorksModel.readAtom()V -/
theorem k574_0 {P : s_P} {d : Nat} {Q : s_O → Prop} {h : s_H} {kc ks : Nat} {r0 t1 t2 : Term} {q2 : Nat} {f3 : List Term} {z5 : Int} (g4 : s_get h q2 = some (1, 11, f3)) (k : wm P d 411 [.index q2, vi z5] h (wq P d sw_c574 sw_h574 8 [.index q2, t1, t2] [] kc ks Q)) (e_q2 : r0 = .index q2 := by first | rfl | assumption) (y1 : s_ty r0 = 3 := by first | rfl | assumption) (n6 : s_nth f3 71 = some (vi z5) := by first | rfl | assumption)  : wr P d sw_c574 sw_h574 (0, [r0, t1, t2], [], h, kc, ks) Q := by
  refine w_ld rfl rfl (Or.inr (Or.inr ⟨by decide, y1⟩)) ?_
  refine w_ld rfl rfl (Or.inr (Or.inr ⟨by decide, y1⟩)) ?_
  subst e_q2
  refine w_getf rfl g4 n6 ?_
  exact w_cv rfl [.index q2, vi z5] [] rfl rfl (s_wt_4 rfl) rfl g4 k

theorem k574_8 {P : s_P} {d : Nat} {Q : s_O → Prop} {h : s_H} {kc ks : Nat} {r0 t1 t2 : Term} {s0 : Int} {q2 : Nat} {f3 : List Term} {z5 : Int} (g4 : s_get h q2 = some (1, 11, f3)) (k1 : z5 ≠ 0 → wr P d sw_c574 sw_h574 (50, [.index q2, vi s0, t2], [], h, kc, ks) Q) (k2 : ¬ z5 ≠ 0 → wr P d sw_c574 sw_h574 (16, [.index q2, vi s0, t2], [], h, kc, ks) Q) (e_q2 : r0 = .index q2 := by first | rfl | assumption) (y1 : s_ty r0 = 3 := by first | rfl | assumption) (n6 : s_nth f3 72 = some (vi z5) := by first | rfl | assumption) (c7 : In3 z5 := by first | omega | assumption | (simp only [mk_len, List.length_map]; omega) | decide) : wr P d sw_c574 sw_h574 (8, [r0, t1, t2], [vi s0], h, kc, ks) Q := by
  refine w_st (ls' := [r0, vi s0, t2]) rfl (Or.inl ⟨by decide, rfl⟩) (s_stK_r (pre := []) y1) ?_
  refine w_ld rfl rfl (Or.inr (Or.inr ⟨by decide, y1⟩)) ?_
  subst e_q2
  refine w_getf rfl g4 n6 ?_
  exact w_if1 rfl c7 k1 k2

theorem k574_16 {P : s_P} {d : Nat} {Q : s_O → Prop} {h : s_H} {kc ks : Nat} {r0 : Term} {x1 : Int} {t2 : Term}  (k1 : x1 ≠ 45 → wr P d sw_c574 sw_h574 (50, [r0, vi x1, t2], [], h, kc, ks) Q) (k2 : ¬ x1 ≠ 45 → wr P d sw_c574 sw_h574 (22, [r0, vi x1, t2], [], h, kc, ks) Q)  (c1 : In3 x1 := by first | omega | assumption | (simp only [mk_len, List.length_map]; omega) | decide) : wr P d sw_c574 sw_h574 (16, [r0, vi x1, t2], [], h, kc, ks) Q := by
  refine w_ld rfl rfl (Or.inl ⟨by decide, rfl⟩) ?_
  refine w_c32 rfl (by decide) 45 (by decide) ?_
  exact w_if2 rfl c1 (by decide) k1 k2

theorem k574_22 {P : s_P} {d : Nat} {Q : s_O → Prop} {h : s_H} {kc ks : Nat} {r0 : Term} {x1 : Int} {t2 : Term} {q2 : Nat} {f3 : List Term} {v5 : Term} {z7 : Int} {q9 : Nat} {a10 : List Int} {f16 : List Term} {z18 : Int} {f22 : List Term} (g4 : s_get h q2 = some (1, 11, f3)) (g11 : s_get h q9 = some (0, 5, a10.map vi)) (g17 : s_get (hp h q9 (0, 5, (a10.set (Int.toNat (z7)) 1).map vi)) q2 = some (1, 11, f16)) (g23 : s_get (hp (hp h q9 (0, 5, (a10.set (Int.toNat (z7)) 1).map vi)) q2 (1, 11, f16.set 71 (vi (z18 + 1)))) q2 = some (1, 11, f22)) (k : wr P d sw_c574 sw_h574 (304, [.index q2, vi x1, t2], [], (hp (hp (hp h q9 (0, 5, (a10.set (Int.toNat (z7)) 1).map vi)) q2 (1, 11, f16.set 71 (vi (z18 + 1)))) q2 (1, 11, f22.set 72 (vi 1))), kc, ks) Q) (e_q2 : r0 = .index q2 := by first | rfl | assumption) (e_q9 : v5 = .index q9 := by first | rfl | assumption) (y1 : s_ty r0 = 3 := by first | rfl | assumption) (n6 : s_nth f3 62 = some v5 := by first | rfl | assumption) (n8 : s_nth f3 59 = some (vi z7) := by first | rfl | assumption) (n19 : s_nth f16 71 = some (vi z18) := by first | rfl | assumption) (l20 : 71 < f16.length := by first | exact Nat.le_of_ble_eq_true rfl | omega | assumption) (l24 : 72 < f22.length := by first | exact Nat.le_of_ble_eq_true rfl | omega | assumption) (c12 : z7 < a10.length := by first | omega | assumption | (simp only [mk_len, List.length_map]; omega) | decide) (c13 : 0 ≤ z7 := by first | omega | assumption | (simp only [mk_len, List.length_map]; omega) | decide) (c14 : In3 z7 := by first | omega | assumption | (simp only [mk_len, List.length_map]; omega) | decide) (c15 : 0 < q9 := by first | omega | assumption | (simp only [mk_len, List.length_map]; omega) | decide) (c21 : 0 < q2 := by first | omega | assumption | (simp only [mk_len, List.length_map]; omega) | decide) : wr P d sw_c574 sw_h574 (22, [r0, vi x1, t2], [], h, kc, ks) Q := by
  refine w_ld rfl rfl (Or.inr (Or.inr ⟨by decide, y1⟩)) ?_
  subst e_q2
  refine w_getf rfl g4 n6 ?_
  refine w_ld rfl rfl (Or.inr (Or.inr ⟨by decide, rfl⟩)) ?_
  refine w_getf rfl g4 n8 ?_
  refine w_c32 rfl (by decide) 1 (by decide) ?_
  subst e_q9
  refine w_bast rfl g11 (Nat.ble_eq_true_of_le c15) c14 c13 c12 (by decide) ?_
  refine w_ld rfl rfl (Or.inr (Or.inr ⟨by decide, rfl⟩)) ?_
  refine w_dup rfl rfl ?_
  refine w_getf rfl g17 n19 ?_
  refine w_c32 rfl (by decide) 1 (by decide) ?_
  refine w_iadd rfl ?_
  refine w_putf rfl g17 (Nat.ble_eq_true_of_le c21) rfl (Nat.ble_eq_true_of_le l20) ?_
  refine w_ld rfl rfl (Or.inr (Or.inr ⟨by decide, rfl⟩)) ?_
  refine w_c32 rfl (by decide) 1 (by decide) ?_
  refine w_putf rfl g23 (Nat.ble_eq_true_of_le c21) rfl (Nat.ble_eq_true_of_le l24) ?_
  refine w_goto rfl ?_
  exact k

theorem k574_50 {P : s_P} {d : Nat} {Q : s_O → Prop} {h : s_H} {kc ks : Nat} {r0 : Term} {x1 : Int} {t2 : Term} {q2 : Nat} {f3 : List Term} {z5 : Int} (g4 : s_get h q2 = some (1, 11, f3)) (k : wm P d 475 [.index q2, vi z5] h (wq P d sw_c574 sw_h574 58 [.index q2, vi x1, t2] [] kc ks Q)) (e_q2 : r0 = .index q2 := by first | rfl | assumption) (y1 : s_ty r0 = 3 := by first | rfl | assumption) (n6 : s_nth f3 71 = some (vi z5) := by first | rfl | assumption)  : wr P d sw_c574 sw_h574 (50, [r0, vi x1, t2], [], h, kc, ks) Q := by
  refine w_ld rfl rfl (Or.inr (Or.inr ⟨by decide, y1⟩)) ?_
  refine w_ld rfl rfl (Or.inr (Or.inr ⟨by decide, y1⟩)) ?_
  subst e_q2
  refine w_getf rfl g4 n6 ?_
  exact w_cv rfl [.index q2, vi z5] [] rfl rfl (s_wt_4 rfl) rfl g4 k

theorem k574_58 {P : s_P} {d : Nat} {Q : s_O → Prop} {h : s_H} {kc ks : Nat} {r0 : Term} {x1 : Int} {t2 : Term} {s0 : Int}  (k1 : s0 = 0 → wr P d sw_c574 sw_h574 (127, [r0, vi x1, t2], [], h, kc, ks) Q) (k2 : ¬ s0 = 0 → wr P d sw_c574 sw_h574 (61, [r0, vi x1, t2], [], h, kc, ks) Q)  (c1 : In3 s0 := by first | omega | assumption | (simp only [mk_len, List.length_map]; omega) | decide) : wr P d sw_c574 sw_h574 (58, [r0, vi x1, t2], [vi s0], h, kc, ks) Q := by
  exact w_if1 rfl c1 k1 k2

theorem k574_61 {P : s_P} {d : Nat} {Q : s_O → Prop} {h : s_H} {kc ks : Nat} {r0 : Term} {x1 : Int} {t2 : Term} {q2 : Nat} {f3 : List Term} {z5 : Int} (g4 : s_get h q2 = some (1, 11, f3)) (k : wm P d 432 [.index q2, vi z5, vi 6] h (wq P d sw_c574 sw_h574 71 [.index q2, vi x1, t2] [] kc ks Q)) (e_q2 : r0 = .index q2 := by first | rfl | assumption) (y1 : s_ty r0 = 3 := by first | rfl | assumption) (n6 : s_nth f3 71 = some (vi z5) := by first | rfl | assumption)  : wr P d sw_c574 sw_h574 (61, [r0, vi x1, t2], [], h, kc, ks) Q := by
  refine w_ld rfl rfl (Or.inr (Or.inr ⟨by decide, y1⟩)) ?_
  refine w_ld rfl rfl (Or.inr (Or.inr ⟨by decide, y1⟩)) ?_
  subst e_q2
  refine w_getf rfl g4 n6 ?_
  refine w_c32 rfl (by decide) 6 (by decide) ?_
  exact w_cv rfl [.index q2, vi z5, vi 6] [] rfl rfl (s_wt_4 rfl) rfl g4 k

theorem k574_71 {P : s_P} {d : Nat} {Q : s_O → Prop} {h : s_H} {kc ks : Nat} {r0 : Term} {x1 : Int} {t2 : Term} {s0 : Int} {q2 : Nat} {f3 : List Term} {v5 : Term} {z7 : Int} (g4 : s_get h q2 = some (1, 11, f3)) (k : wm P d 540 [.index q2, vi z7, vi s0] h (wq P d sw_c574 sw_h574 85 [.index q2, vi x1, vi s0] [v5] kc ks Q)) (e_q2 : r0 = .index q2 := by first | rfl | assumption) (y1 : s_ty r0 = 3 := by first | rfl | assumption) (n6 : s_nth f3 14 = some v5 := by first | rfl | assumption) (n8 : s_nth f3 71 = some (vi z7) := by first | rfl | assumption)  : wr P d sw_c574 sw_h574 (71, [r0, vi x1, t2], [vi s0], h, kc, ks) Q := by
  refine w_st (ls' := [r0, vi x1, vi s0]) rfl (Or.inl ⟨by decide, rfl⟩) rfl ?_
  refine w_ld rfl rfl (Or.inr (Or.inr ⟨by decide, y1⟩)) ?_
  subst e_q2
  refine w_getf rfl g4 n6 ?_
  refine w_ld rfl rfl (Or.inr (Or.inr ⟨by decide, rfl⟩)) ?_
  refine w_ld rfl rfl (Or.inr (Or.inr ⟨by decide, rfl⟩)) ?_
  refine w_getf rfl g4 n8 ?_
  refine w_ld rfl rfl (Or.inl ⟨by decide, rfl⟩) ?_
  exact w_cv rfl [.index q2, vi z7, vi s0] [v5] rfl rfl (s_wt_4 rfl) rfl g4 k

theorem k574_85 {P : s_P} {d : Nat} {Q : s_O → Prop} {h : s_H} {kc ks : Nat} {r0 : Term} {x1 x2 : Int} {s0 : Term} {s1 : Int}  (k : wm P d 405 [s0, vl s1] h (wq P d sw_c574 sw_h574 89 [r0, vi x1, vi x2] [] kc ks Q))  (c1 : In3 s1 := by first | omega | assumption | (simp only [mk_len, List.length_map]; omega) | decide) : wr P d sw_c574 sw_h574 (85, [r0, vi x1, vi x2], [vi s1, s0], h, kc, ks) Q := by
  refine w_i2l rfl c1 ?_
  exact w_cs rfl [s0, vl s1] [] rfl rfl (s_wt_4 rfl) k

theorem k574_89 {P : s_P} {d : Nat} {Q : s_O → Prop} {h : s_H} {kc ks : Nat} {r0 : Term} {x1 x2 : Int} {q2 : Nat} {f3 : List Term} {v5 : Term} (g4 : s_get h q2 = some (1, 11, f3)) (k : wm P d 405 [v5, vl 1] h (wq P d sw_c574 sw_h574 97 [.index q2, vi x1, vi x2] [] kc ks Q)) (e_q2 : r0 = .index q2 := by first | rfl | assumption) (y1 : s_ty r0 = 3 := by first | rfl | assumption) (n6 : s_nth f3 15 = some v5 := by first | rfl | assumption)  : wr P d sw_c574 sw_h574 (89, [r0, vi x1, vi x2], [], h, kc, ks) Q := by
  refine w_ld rfl rfl (Or.inr (Or.inr ⟨by decide, y1⟩)) ?_
  subst e_q2
  refine w_getf rfl g4 n6 ?_
  refine w_c64 rfl (by decide) 1 (by decide) ?_
  exact w_cs rfl [v5, vl 1] [] rfl rfl (s_wt_4 rfl) k

theorem k574_97 {P : s_P} {d : Nat} {Q : s_O → Prop} {h : s_H} {kc ks : Nat} {r0 : Term} {x1 x2 : Int} {q2 : Nat} {f3 : List Term} {v5 : Term} {q7 : Nat} {a8 : List Int} (g4 : s_get h q2 = some (1, 11, f3)) (g9 : s_get h q7 = some (0, 1, a8.map vl)) (k : wm P d 437 [.index q2, vi 0, vi (gi a8 0)] h (wq P d sw_c574 sw_h574 109 [.index q2, vi x1, vi x2] [] kc ks Q)) (e_q2 : r0 = .index q2 := by first | rfl | assumption) (e_q7 : v5 = .index q7 := by first | rfl | assumption) (y1 : s_ty r0 = 3 := by first | rfl | assumption) (n6 : s_nth f3 14 = some v5 := by first | rfl | assumption) (c10 : (0 : Int) < a8.length := by first | omega | assumption | (simp only [mk_len, List.length_map]; omega) | decide) : wr P d sw_c574 sw_h574 (97, [r0, vi x1, vi x2], [], h, kc, ks) Q := by
  refine w_ld rfl rfl (Or.inr (Or.inr ⟨by decide, y1⟩)) ?_
  refine w_c32 rfl (by decide) 0 (by decide) ?_
  refine w_ld rfl rfl (Or.inr (Or.inr ⟨by decide, y1⟩)) ?_
  subst e_q2
  refine w_getf rfl g4 n6 ?_
  refine w_c32 rfl (by decide) 0 (by decide) ?_
  subst e_q7
  refine w_lald rfl g9 (by decide) (by decide) c10 ?_
  refine w_l2i rfl ?_
  exact w_cv rfl [.index q2, vi 0, vi (gi a8 0)] [] rfl rfl (s_wt_4 rfl) rfl g4 k

theorem k574_109 {P : s_P} {d : Nat} {Q : s_O → Prop} {h : s_H} {kc ks : Nat} {r0 : Term} {x1 x2 : Int} {q2 : Nat} {f3 : List Term} {z5 : Int} {f9 : List Term} (g4 : s_get h q2 = some (1, 11, f3)) (g10 : s_get (hp h q2 (1, 11, f3.set 71 (vi (z5 + x2)))) q2 = some (1, 11, f9)) (k : wr P d sw_c574 sw_h574 (304, [.index q2, vi x1, vi x2], [], (hp (hp h q2 (1, 11, f3.set 71 (vi (z5 + x2)))) q2 (1, 11, f9.set 72 (vi 2))), kc, ks) Q) (e_q2 : r0 = .index q2 := by first | rfl | assumption) (y1 : s_ty r0 = 3 := by first | rfl | assumption) (n6 : s_nth f3 71 = some (vi z5) := by first | rfl | assumption) (l7 : 71 < f3.length := by first | exact Nat.le_of_ble_eq_true rfl | omega | assumption) (l11 : 72 < f9.length := by first | exact Nat.le_of_ble_eq_true rfl | omega | assumption) (c8 : 0 < q2 := by first | omega | assumption | (simp only [mk_len, List.length_map]; omega) | decide) : wr P d sw_c574 sw_h574 (109, [r0, vi x1, vi x2], [], h, kc, ks) Q := by
  refine w_ld rfl rfl (Or.inr (Or.inr ⟨by decide, y1⟩)) ?_
  refine w_dup rfl (by rw [y1]; rfl) ?_
  subst e_q2
  refine w_getf rfl g4 n6 ?_
  refine w_ld rfl rfl (Or.inl ⟨by decide, rfl⟩) ?_
  refine w_iadd rfl ?_
  refine w_putf rfl g4 (Nat.ble_eq_true_of_le c8) rfl (Nat.ble_eq_true_of_le l7) ?_
  refine w_ld rfl rfl (Or.inr (Or.inr ⟨by decide, rfl⟩)) ?_
  refine w_c32 rfl (by decide) 2 (by decide) ?_
  refine w_putf rfl g10 (Nat.ble_eq_true_of_le c8) rfl (Nat.ble_eq_true_of_le l11) ?_
  refine w_goto rfl ?_
  exact k

theorem k574_127 {P : s_P} {d : Nat} {Q : s_O → Prop} {h : s_H} {kc ks : Nat} {r0 : Term} {x1 : Int} {t2 : Term}  (k1 : x1 ≠ 120 → wr P d sw_c574 sw_h574 (180, [r0, vi x1, t2], [], h, kc, ks) Q) (k2 : ¬ x1 ≠ 120 → wr P d sw_c574 sw_h574 (133, [r0, vi x1, t2], [], h, kc, ks) Q)  (c1 : In3 x1 := by first | omega | assumption | (simp only [mk_len, List.length_map]; omega) | decide) : wr P d sw_c574 sw_h574 (127, [r0, vi x1, t2], [], h, kc, ks) Q := by
  refine w_ld rfl rfl (Or.inl ⟨by decide, rfl⟩) ?_
  refine w_c32 rfl (by decide) 120 (by decide) ?_
  exact w_if2 rfl c1 (by decide) k1 k2

theorem k574_133 {P : s_P} {d : Nat} {Q : s_O → Prop} {h : s_H} {kc ks : Nat} {r0 : Term} {x1 : Int} {t2 : Term} {q2 : Nat} {f3 : List Term} {v5 : Term} (g4 : s_get h q2 = some (1, 11, f3)) (k : wm P d 405 [v5, vl 0] h (wq P d sw_c574 sw_h574 141 [.index q2, vi x1, t2] [] kc ks Q)) (e_q2 : r0 = .index q2 := by first | rfl | assumption) (y1 : s_ty r0 = 3 := by first | rfl | assumption) (n6 : s_nth f3 14 = some v5 := by first | rfl | assumption)  : wr P d sw_c574 sw_h574 (133, [r0, vi x1, t2], [], h, kc, ks) Q := by
  refine w_ld rfl rfl (Or.inr (Or.inr ⟨by decide, y1⟩)) ?_
  subst e_q2
  refine w_getf rfl g4 n6 ?_
  refine w_c64 rfl (by decide) 0 (by decide) ?_
  exact w_cs rfl [v5, vl 0] [] rfl rfl (s_wt_4 rfl) k

theorem k574_141 {P : s_P} {d : Nat} {Q : s_O → Prop} {h : s_H} {kc ks : Nat} {r0 : Term} {x1 : Int} {t2 : Term} {q2 : Nat} {f3 : List Term} {v5 : Term} {q7 : Nat} {a8 : List Int} {f12 : List Term} {v14 : Term} (g4 : s_get h q2 = some (1, 11, f3)) (g9 : s_get h q7 = some (0, 1, a8.map vl)) (g13 : s_get (hp h q7 (0, 1, (a8.set (Int.toNat (1)) 1).map vl)) q2 = some (1, 11, f12)) (k : wm P d 405 [v14, vl 1] (hp h q7 (0, 1, (a8.set (Int.toNat (1)) 1).map vl)) (wq P d sw_c574 sw_h574 156 [.index q2, vi x1, t2] [] kc ks Q)) (e_q2 : r0 = .index q2 := by first | rfl | assumption) (e_q7 : v5 = .index q7 := by first | rfl | assumption) (y1 : s_ty r0 = 3 := by first | rfl | assumption) (n6 : s_nth f3 14 = some v5 := by first | rfl | assumption) (n15 : s_nth f12 15 = some v14 := by first | rfl | assumption) (c10 : (1 : Int) < a8.length := by first | omega | assumption | (simp only [mk_len, List.length_map]; omega) | decide) (c11 : 0 < q7 := by first | omega | assumption | (simp only [mk_len, List.length_map]; omega) | decide) : wr P d sw_c574 sw_h574 (141, [r0, vi x1, t2], [], h, kc, ks) Q := by
  refine w_ld rfl rfl (Or.inr (Or.inr ⟨by decide, y1⟩)) ?_
  subst e_q2
  refine w_getf rfl g4 n6 ?_
  refine w_c32 rfl (by decide) 1 (by decide) ?_
  refine w_c64 rfl (by decide) 1 (by decide) ?_
  subst e_q7
  refine w_last rfl g9 (Nat.ble_eq_true_of_le c11) (by decide) (by decide) c10 ?_
  refine w_ld rfl rfl (Or.inr (Or.inr ⟨by decide, rfl⟩)) ?_
  refine w_getf rfl g13 n15 ?_
  refine w_c64 rfl (by decide) 1 (by decide) ?_
  exact w_cs rfl [v14, vl 1] [] rfl rfl (s_wt_4 rfl) k

theorem k574_156 {P : s_P} {d : Nat} {Q : s_O → Prop} {h : s_H} {kc ks : Nat} {r0 : Term} {x1 : Int} {t2 : Term} {q2 : Nat} {f3 : List Term} (g4 : s_get h q2 = some (1, 11, f3)) (k : wm P d 437 [.index q2, vi 1, vi 0] h (wq P d sw_c574 sw_h574 162 [.index q2, vi x1, t2] [] kc ks Q)) (e_q2 : r0 = .index q2 := by first | rfl | assumption) (y1 : s_ty r0 = 3 := by first | rfl | assumption)  : wr P d sw_c574 sw_h574 (156, [r0, vi x1, t2], [], h, kc, ks) Q := by
  refine w_ld rfl rfl (Or.inr (Or.inr ⟨by decide, y1⟩)) ?_
  refine w_c32 rfl (by decide) 1 (by decide) ?_
  refine w_c32 rfl (by decide) 0 (by decide) ?_
  subst e_q2
  exact w_cv rfl [.index q2, vi 1, vi 0] [] rfl rfl (s_wt_4 rfl) rfl g4 k

theorem k574_162 {P : s_P} {d : Nat} {Q : s_O → Prop} {h : s_H} {kc ks : Nat} {r0 : Term} {x1 : Int} {t2 : Term} {q2 : Nat} {f3 : List Term} {z5 : Int} {f9 : List Term} (g4 : s_get h q2 = some (1, 11, f3)) (g10 : s_get (hp h q2 (1, 11, f3.set 71 (vi (z5 + 1)))) q2 = some (1, 11, f9)) (k : wr P d sw_c574 sw_h574 (304, [.index q2, vi x1, t2], [], (hp (hp h q2 (1, 11, f3.set 71 (vi (z5 + 1)))) q2 (1, 11, f9.set 72 (vi 2))), kc, ks) Q) (e_q2 : r0 = .index q2 := by first | rfl | assumption) (y1 : s_ty r0 = 3 := by first | rfl | assumption) (n6 : s_nth f3 71 = some (vi z5) := by first | rfl | assumption) (l7 : 71 < f3.length := by first | exact Nat.le_of_ble_eq_true rfl | omega | assumption) (l11 : 72 < f9.length := by first | exact Nat.le_of_ble_eq_true rfl | omega | assumption) (c8 : 0 < q2 := by first | omega | assumption | (simp only [mk_len, List.length_map]; omega) | decide) : wr P d sw_c574 sw_h574 (162, [r0, vi x1, t2], [], h, kc, ks) Q := by
  refine w_ld rfl rfl (Or.inr (Or.inr ⟨by decide, y1⟩)) ?_
  refine w_dup rfl (by rw [y1]; rfl) ?_
  subst e_q2
  refine w_getf rfl g4 n6 ?_
  refine w_c32 rfl (by decide) 1 (by decide) ?_
  refine w_iadd rfl ?_
  refine w_putf rfl g4 (Nat.ble_eq_true_of_le c8) rfl (Nat.ble_eq_true_of_le l7) ?_
  refine w_ld rfl rfl (Or.inr (Or.inr ⟨by decide, rfl⟩)) ?_
  refine w_c32 rfl (by decide) 2 (by decide) ?_
  refine w_putf rfl g10 (Nat.ble_eq_true_of_le c8) rfl (Nat.ble_eq_true_of_le l11) ?_
  refine w_goto rfl ?_
  exact k

theorem k574_180 {P : s_P} {d : Nat} {Q : s_O → Prop} {h : s_H} {kc ks : Nat} {r0 : Term} {x1 : Int} {t2 : Term} {q2 : Nat} {f3 : List Term} {z5 : Int} (g4 : s_get h q2 = some (1, 11, f3)) (k1 : z5 < 2 → wr P d sw_c574 sw_h574 (213, [.index q2, vi x1, t2], [], h, kc, ks) Q) (k2 : ¬ z5 < 2 → wr P d sw_c574 sw_h574 (188, [.index q2, vi x1, t2], [], h, kc, ks) Q) (e_q2 : r0 = .index q2 := by first | rfl | assumption) (y1 : s_ty r0 = 3 := by first | rfl | assumption) (n6 : s_nth f3 54 = some (vi z5) := by first | rfl | assumption) (c7 : In3 z5 := by first | omega | assumption | (simp only [mk_len, List.length_map]; omega) | decide) : wr P d sw_c574 sw_h574 (180, [r0, vi x1, t2], [], h, kc, ks) Q := by
  refine w_ld rfl rfl (Or.inr (Or.inr ⟨by decide, y1⟩)) ?_
  subst e_q2
  refine w_getf rfl g4 n6 ?_
  refine w_c32 rfl (by decide) 2 (by decide) ?_
  exact w_if2 rfl c7 (by decide) k1 k2

theorem k574_188 {P : s_P} {d : Nat} {Q : s_O → Prop} {h : s_H} {kc ks : Nat} {r0 : Term} {x1 : Int} {t2 : Term}  (k : wm P d 464 [vl x1, vl 65, vl 80] h (wq P d sw_c574 sw_h574 199 [r0, vi x1, t2] [] kc ks Q))  (c1 : In3 x1 := by first | omega | assumption | (simp only [mk_len, List.length_map]; omega) | decide) : wr P d sw_c574 sw_h574 (188, [r0, vi x1, t2], [], h, kc, ks) Q := by
  refine w_ld rfl rfl (Or.inl ⟨by decide, rfl⟩) ?_
  refine w_i2l rfl c1 ?_
  refine w_c64 rfl (by decide) 65 (by decide) ?_
  refine w_c64 rfl (by decide) 80 (by decide) ?_
  exact w_cs rfl [vl x1, vl 65, vl 80] [] rfl rfl (s_wt_4 rfl) k

theorem k574_199 {P : s_P} {d : Nat} {Q : s_O → Prop} {h : s_H} {kc ks : Nat} {r0 : Term} {x1 : Int} {t2 : Term} {s0 : Int}  (k1 : s0 = 0 → wr P d sw_c574 sw_h574 (213, [r0, vi x1, t2], [], h, kc, ks) Q) (k2 : ¬ s0 = 0 → wr P d sw_c574 sw_h574 (202, [r0, vi x1, t2], [], h, kc, ks) Q)  (c1 : In3 s0 := by first | omega | assumption | (simp only [mk_len, List.length_map]; omega) | decide) : wr P d sw_c574 sw_h574 (199, [r0, vi x1, t2], [vi s0], h, kc, ks) Q := by
  exact w_if1 rfl c1 k1 k2

theorem k574_202 {P : s_P} {d : Nat} {Q : s_O → Prop} {h : s_H} {kc ks : Nat} {r0 : Term} {x1 : Int} {t2 : Term} {q2 : Nat} {f3 : List Term} (g4 : s_get h q2 = some (1, 11, f3)) (k : wm P d 575 [.index q2, vi (x1 - 65)] h (wq P d sw_c574 sw_h574 210 [.index q2, vi x1, t2] [] kc ks Q)) (e_q2 : r0 = .index q2 := by first | rfl | assumption) (y1 : s_ty r0 = 3 := by first | rfl | assumption)  : wr P d sw_c574 sw_h574 (202, [r0, vi x1, t2], [], h, kc, ks) Q := by
  refine w_ld rfl rfl (Or.inr (Or.inr ⟨by decide, y1⟩)) ?_
  refine w_ld rfl rfl (Or.inl ⟨by decide, rfl⟩) ?_
  refine w_c32 rfl (by decide) 65 (by decide) ?_
  refine w_isub rfl ?_
  subst e_q2
  exact w_cv rfl [.index q2, vi (x1 - 65)] [] rfl rfl (s_wt_4 rfl) rfl g4 k

theorem k574_210 {P : s_P} {d : Nat} {Q : s_O → Prop} {h : s_H} {kc ks : Nat} {r0 : Term} {x1 : Int} {t2 : Term}  (k : wr P d sw_c574 sw_h574 (304, [r0, vi x1, t2], [], h, kc, ks) Q)   : wr P d sw_c574 sw_h574 (210, [r0, vi x1, t2], [], h, kc, ks) Q := by
  refine w_goto rfl ?_
  exact k

theorem k574_213 {P : s_P} {d : Nat} {Q : s_O → Prop} {h : s_H} {kc ks : Nat} {r0 : Term} {x1 : Int} {t2 : Term}  (k1 : x1 ≠ 35 → wr P d sw_c574 sw_h574 (242, [r0, vi x1, t2], [], h, kc, ks) Q) (k2 : ¬ x1 ≠ 35 → wr P d sw_c574 sw_h574 (219, [r0, vi x1, t2], [], h, kc, ks) Q)  (c1 : In3 x1 := by first | omega | assumption | (simp only [mk_len, List.length_map]; omega) | decide) : wr P d sw_c574 sw_h574 (213, [r0, vi x1, t2], [], h, kc, ks) Q := by
  refine w_ld rfl rfl (Or.inl ⟨by decide, rfl⟩) ?_
  refine w_c32 rfl (by decide) 35 (by decide) ?_
  exact w_if2 rfl c1 (by decide) k1 k2

theorem k574_219 {P : s_P} {d : Nat} {Q : s_O → Prop} {h : s_H} {kc ks : Nat} {r0 : Term} {x1 : Int} {t2 : Term} {q2 : Nat} {f3 : List Term} {z5 : Int} (g4 : s_get h q2 = some (1, 11, f3)) (k1 : z5 = 1 → wr P d sw_c574 sw_h574 (242, [.index q2, vi x1, t2], [], h, kc, ks) Q) (k2 : ¬ z5 = 1 → wr P d sw_c574 sw_h574 (227, [.index q2, vi x1, t2], [], h, kc, ks) Q) (e_q2 : r0 = .index q2 := by first | rfl | assumption) (y1 : s_ty r0 = 3 := by first | rfl | assumption) (n6 : s_nth f3 54 = some (vi z5) := by first | rfl | assumption) (c7 : In3 z5 := by first | omega | assumption | (simp only [mk_len, List.length_map]; omega) | decide) : wr P d sw_c574 sw_h574 (219, [r0, vi x1, t2], [], h, kc, ks) Q := by
  refine w_ld rfl rfl (Or.inr (Or.inr ⟨by decide, y1⟩)) ?_
  subst e_q2
  refine w_getf rfl g4 n6 ?_
  refine w_c32 rfl (by decide) 1 (by decide) ?_
  exact w_if2 rfl c7 (by decide) k1 k2

theorem k574_227 {P : s_P} {d : Nat} {Q : s_O → Prop} {h : s_H} {kc ks : Nat} {r0 : Term} {x1 : Int} {t2 : Term} {q2 : Nat} {f3 : List Term} {z5 : Int} (g4 : s_get h q2 = some (1, 11, f3)) (k1 : z5 = 2 → wr P d sw_c574 sw_h574 (242, [.index q2, vi x1, t2], [], h, kc, ks) Q) (k2 : ¬ z5 = 2 → wr P d sw_c574 sw_h574 (235, [.index q2, vi x1, t2], [], h, kc, ks) Q) (e_q2 : r0 = .index q2 := by first | rfl | assumption) (y1 : s_ty r0 = 3 := by first | rfl | assumption) (n6 : s_nth f3 54 = some (vi z5) := by first | rfl | assumption) (c7 : In3 z5 := by first | omega | assumption | (simp only [mk_len, List.length_map]; omega) | decide) : wr P d sw_c574 sw_h574 (227, [r0, vi x1, t2], [], h, kc, ks) Q := by
  refine w_ld rfl rfl (Or.inr (Or.inr ⟨by decide, y1⟩)) ?_
  subst e_q2
  refine w_getf rfl g4 n6 ?_
  refine w_c32 rfl (by decide) 2 (by decide) ?_
  exact w_if2 rfl c7 (by decide) k1 k2

theorem k574_235 {P : s_P} {d : Nat} {Q : s_O → Prop} {h : s_H} {kc ks : Nat} {r0 : Term} {x1 : Int} {t2 : Term} {q2 : Nat} {f3 : List Term} (g4 : s_get h q2 = some (1, 11, f3)) (k : wm P d 576 [.index q2] h (wq P d sw_c574 sw_h574 239 [.index q2, vi x1, t2] [] kc ks Q)) (e_q2 : r0 = .index q2 := by first | rfl | assumption) (y1 : s_ty r0 = 3 := by first | rfl | assumption)  : wr P d sw_c574 sw_h574 (235, [r0, vi x1, t2], [], h, kc, ks) Q := by
  refine w_ld rfl rfl (Or.inr (Or.inr ⟨by decide, y1⟩)) ?_
  subst e_q2
  exact w_cv rfl [.index q2] [] rfl rfl (s_wt_4 rfl) rfl g4 k

theorem k574_239 {P : s_P} {d : Nat} {Q : s_O → Prop} {h : s_H} {kc ks : Nat} {r0 : Term} {x1 : Int} {t2 : Term}  (k : wr P d sw_c574 sw_h574 (304, [r0, vi x1, t2], [], h, kc, ks) Q)   : wr P d sw_c574 sw_h574 (239, [r0, vi x1, t2], [], h, kc, ks) Q := by
  refine w_goto rfl ?_
  exact k

theorem k574_242 {P : s_P} {d : Nat} {Q : s_O → Prop} {h : s_H} {kc ks : Nat} {r0 : Term} {x1 : Int} {t2 : Term}  (k1 : x1 ≠ 40 → wr P d sw_c574 sw_h574 (295, [r0, vi x1, t2], [], h, kc, ks) Q) (k2 : ¬ x1 ≠ 40 → wr P d sw_c574 sw_h574 (248, [r0, vi x1, t2], [], h, kc, ks) Q)  (c1 : In3 x1 := by first | omega | assumption | (simp only [mk_len, List.length_map]; omega) | decide) : wr P d sw_c574 sw_h574 (242, [r0, vi x1, t2], [], h, kc, ks) Q := by
  refine w_ld rfl rfl (Or.inl ⟨by decide, rfl⟩) ?_
  refine w_c32 rfl (by decide) 40 (by decide) ?_
  exact w_if2 rfl c1 (by decide) k1 k2

theorem k574_248 {P : s_P} {d : Nat} {Q : s_O → Prop} {h : s_H} {kc ks : Nat} {r0 : Term} {x1 : Int} {t2 : Term} {q2 : Nat} {f3 : List Term} {z5 : Int} (g4 : s_get h q2 = some (1, 11, f3)) (k1 : z5 ≠ 20 → wr P d sw_c574 sw_h574 (268, [.index q2, vi x1, t2], [], h, kc, ks) Q) (k2 : ¬ z5 ≠ 20 → wr P d sw_c574 sw_h574 (257, [.index q2, vi x1, t2], [], h, kc, ks) Q) (e_q2 : r0 = .index q2 := by first | rfl | assumption) (y1 : s_ty r0 = 3 := by first | rfl | assumption) (n6 : s_nth f3 59 = some (vi z5) := by first | rfl | assumption) (c7 : In3 z5 := by first | omega | assumption | (simp only [mk_len, List.length_map]; omega) | decide) : wr P d sw_c574 sw_h574 (248, [r0, vi x1, t2], [], h, kc, ks) Q := by
  refine w_ld rfl rfl (Or.inr (Or.inr ⟨by decide, y1⟩)) ?_
  subst e_q2
  refine w_getf rfl g4 n6 ?_
  refine w_c32 rfl (by decide) 20 (by decide) ?_
  exact w_if2 rfl c7 (by decide) k1 k2

theorem k574_257 {P : s_P} {d : Nat} {Q : s_O → Prop} {h : s_H} {kc ks : Nat} {r0 : Term} {x1 : Int} {t2 : Term} {q2 : Nat} {f3 : List Term} {z5 : Int} (g4 : s_get h q2 = some (1, 11, f3)) (k : wm P d 445 [.index q2, vi 6, vi z5] h (wq P d sw_c574 sw_h574 267 [.index q2, vi x1, t2] [] kc ks Q)) (e_q2 : r0 = .index q2 := by first | rfl | assumption) (y1 : s_ty r0 = 3 := by first | rfl | assumption) (n6 : s_nth f3 71 = some (vi z5) := by first | rfl | assumption)  : wr P d sw_c574 sw_h574 (257, [r0, vi x1, t2], [], h, kc, ks) Q := by
  refine w_ld rfl rfl (Or.inr (Or.inr ⟨by decide, y1⟩)) ?_
  refine w_c32 rfl (by decide) 6 (by decide) ?_
  refine w_ld rfl rfl (Or.inr (Or.inr ⟨by decide, y1⟩)) ?_
  subst e_q2
  refine w_getf rfl g4 n6 ?_
  exact w_cv rfl [.index q2, vi 6, vi z5] [] rfl rfl (s_wt_4 rfl) rfl g4 k

theorem k574_267 {P : s_P} {d : Nat} {Q : s_O → Prop} {h : s_H} {kc ks : Nat} {r0 : Term} {x1 : Int} {t2 : Term}  (k : Q (.inl none, h, kc, ks))   : wr P d sw_c574 sw_h574 (267, [r0, vi x1, t2], [], h, kc, ks) Q := by
  exact w_ret rfl k

theorem k574_268 {P : s_P} {d : Nat} {Q : s_O → Prop} {h : s_H} {kc ks : Nat} {r0 : Term} {x1 : Int} {t2 : Term} {q2 : Nat} {f3 : List Term} {z5 : Int} {f9 : List Term} (g4 : s_get h q2 = some (1, 11, f3)) (g10 : s_get (hp h q2 (1, 11, f3.set 59 (vi (z5 + 1)))) q2 = some (1, 11, f9)) (k : wm P d 406 [.index q2] (hp h q2 (1, 11, f3.set 59 (vi (z5 + 1)))) (wq P d sw_c574 sw_h574 282 [.index q2, vi x1, t2] [] kc ks Q)) (e_q2 : r0 = .index q2 := by first | rfl | assumption) (y1 : s_ty r0 = 3 := by first | rfl | assumption) (n6 : s_nth f3 59 = some (vi z5) := by first | rfl | assumption) (l7 : 59 < f3.length := by first | exact Nat.le_of_ble_eq_true rfl | omega | assumption) (c8 : 0 < q2 := by first | omega | assumption | (simp only [mk_len, List.length_map]; omega) | decide) : wr P d sw_c574 sw_h574 (268, [r0, vi x1, t2], [], h, kc, ks) Q := by
  refine w_ld rfl rfl (Or.inr (Or.inr ⟨by decide, y1⟩)) ?_
  refine w_dup rfl (by rw [y1]; rfl) ?_
  subst e_q2
  refine w_getf rfl g4 n6 ?_
  refine w_c32 rfl (by decide) 1 (by decide) ?_
  refine w_iadd rfl ?_
  refine w_putf rfl g4 (Nat.ble_eq_true_of_le c8) rfl (Nat.ble_eq_true_of_le l7) ?_
  refine w_ld rfl rfl (Or.inr (Or.inr ⟨by decide, rfl⟩)) ?_
  exact w_cv rfl [.index q2] [] rfl rfl (s_wt_4 rfl) rfl g10 k

theorem k574_282 {P : s_P} {d : Nat} {Q : s_O → Prop} {h : s_H} {kc ks : Nat} {r0 : Term} {x1 : Int} {t2 : Term} {q2 : Nat} {f3 : List Term} {z5 : Int} (g4 : s_get h q2 = some (1, 11, f3)) (k : wr P d sw_c574 sw_h574 (304, [.index q2, vi x1, t2], [], (hp h q2 (1, 11, f3.set 71 (vi (z5 + 1)))), kc, ks) Q) (e_q2 : r0 = .index q2 := by first | rfl | assumption) (y1 : s_ty r0 = 3 := by first | rfl | assumption) (n6 : s_nth f3 71 = some (vi z5) := by first | rfl | assumption) (l7 : 71 < f3.length := by first | exact Nat.le_of_ble_eq_true rfl | omega | assumption) (c8 : 0 < q2 := by first | omega | assumption | (simp only [mk_len, List.length_map]; omega) | decide) : wr P d sw_c574 sw_h574 (282, [r0, vi x1, t2], [], h, kc, ks) Q := by
  refine w_ld rfl rfl (Or.inr (Or.inr ⟨by decide, y1⟩)) ?_
  refine w_dup rfl (by rw [y1]; rfl) ?_
  subst e_q2
  refine w_getf rfl g4 n6 ?_
  refine w_c32 rfl (by decide) 1 (by decide) ?_
  refine w_iadd rfl ?_
  refine w_putf rfl g4 (Nat.ble_eq_true_of_le c8) rfl (Nat.ble_eq_true_of_le l7) ?_
  refine w_goto rfl ?_
  exact k

theorem k574_295 {P : s_P} {d : Nat} {Q : s_O → Prop} {h : s_H} {kc ks : Nat} {r0 : Term} {x1 : Int} {t2 : Term} {q2 : Nat} {f3 : List Term} {z5 : Int} (g4 : s_get h q2 = some (1, 11, f3)) (k : wm P d 445 [.index q2, vi 1, vi z5] h (wq P d sw_c574 sw_h574 304 [.index q2, vi x1, t2] [] kc ks Q)) (e_q2 : r0 = .index q2 := by first | rfl | assumption) (y1 : s_ty r0 = 3 := by first | rfl | assumption) (n6 : s_nth f3 71 = some (vi z5) := by first | rfl | assumption)  : wr P d sw_c574 sw_h574 (295, [r0, vi x1, t2], [], h, kc, ks) Q := by
  refine w_ld rfl rfl (Or.inr (Or.inr ⟨by decide, y1⟩)) ?_
  refine w_c32 rfl (by decide) 1 (by decide) ?_
  refine w_ld rfl rfl (Or.inr (Or.inr ⟨by decide, y1⟩)) ?_
  subst e_q2
  refine w_getf rfl g4 n6 ?_
  exact w_cv rfl [.index q2, vi 1, vi z5] [] rfl rfl (s_wt_4 rfl) rfl g4 k

theorem k574_304 {P : s_P} {d : Nat} {Q : s_O → Prop} {h : s_H} {kc ks : Nat} {r0 : Term} {x1 : Int} {t2 : Term}  (k : Q (.inl none, h, kc, ks))   : wr P d sw_c574 sw_h574 (304, [r0, vi x1, t2], [], h, kc, ks) Q := by
  exact w_ret rfl k

/-! 575: FormulaWorksModel.readCell(I)V -/
theorem k575_0 {P : s_P} {d : Nat} {Q : s_O → Prop} {h : s_H} {kc ks : Nat} {r0 : Term} {x1 : Int} {q2 : Nat} {f3 : List Term} (g4 : s_get h q2 = some (1, 11, f3)) (k : wm P d 476 [.index q2, vi x1] h (wq P d sw_c575 sw_h575 5 [.index q2, vi x1] [] kc ks Q)) (e_q2 : r0 = .index q2 := by first | rfl | assumption) (y1 : s_ty r0 = 3 := by first | rfl | assumption)  : wr P d sw_c575 sw_h575 (0, [r0, vi x1], [], h, kc, ks) Q := by
  refine w_ld rfl rfl (Or.inr (Or.inr ⟨by decide, y1⟩)) ?_
  refine w_ld rfl rfl (Or.inl ⟨by decide, rfl⟩) ?_
  subst e_q2
  exact w_cv rfl [.index q2, vi x1] [] rfl rfl (s_wt_4 rfl) rfl g4 k

theorem k575_5 {P : s_P} {d : Nat} {Q : s_O → Prop} {h : s_H} {kc ks : Nat} {r0 : Term} {x1 s0 : Int}  (k1 : s0 = 0 → wr P d sw_c575 sw_h575 (16, [r0, vi x1], [], h, kc, ks) Q) (k2 : ¬ s0 = 0 → wr P d sw_c575 sw_h575 (8, [r0, vi x1], [], h, kc, ks) Q)  (c1 : In3 s0 := by first | omega | assumption | (simp only [mk_len, List.length_map]; omega) | decide) : wr P d sw_c575 sw_h575 (5, [r0, vi x1], [vi s0], h, kc, ks) Q := by
  exact w_if1 rfl c1 k1 k2

theorem k575_8 {P : s_P} {d : Nat} {Q : s_O → Prop} {h : s_H} {kc ks : Nat} {r0 : Term} {x1 : Int} {q2 : Nat} {f3 : List Term} (g4 : s_get h q2 = some (1, 11, f3)) (k : wr P d sw_c575 sw_h575 (57, [.index q2, vi x1], [], (hp h q2 (1, 11, f3.set 76 (vi x1))), kc, ks) Q) (e_q2 : r0 = .index q2 := by first | rfl | assumption) (y1 : s_ty r0 = 3 := by first | rfl | assumption) (l5 : 76 < f3.length := by first | exact Nat.le_of_ble_eq_true rfl | omega | assumption) (c6 : 0 < q2 := by first | omega | assumption | (simp only [mk_len, List.length_map]; omega) | decide) : wr P d sw_c575 sw_h575 (8, [r0, vi x1], [], h, kc, ks) Q := by
  refine w_ld rfl rfl (Or.inr (Or.inr ⟨by decide, y1⟩)) ?_
  refine w_ld rfl rfl (Or.inl ⟨by decide, rfl⟩) ?_
  subst e_q2
  refine w_putf rfl g4 (Nat.ble_eq_true_of_le c6) rfl (Nat.ble_eq_true_of_le l5) ?_
  refine w_goto rfl ?_
  exact k

theorem k575_16 {P : s_P} {d : Nat} {Q : s_O → Prop} {h : s_H} {kc ks : Nat} {r0 : Term} {x1 : Int} {q2 : Nat} {f3 : List Term} (g4 : s_get h q2 = some (1, 11, f3)) (k : wm P d 461 [.index q2, vi x1] h (wq P d sw_c575 sw_h575 21 [.index q2, vi x1] [] kc ks Q)) (e_q2 : r0 = .index q2 := by first | rfl | assumption) (y1 : s_ty r0 = 3 := by first | rfl | assumption)  : wr P d sw_c575 sw_h575 (16, [r0, vi x1], [], h, kc, ks) Q := by
  refine w_ld rfl rfl (Or.inr (Or.inr ⟨by decide, y1⟩)) ?_
  refine w_ld rfl rfl (Or.inl ⟨by decide, rfl⟩) ?_
  subst e_q2
  exact w_cv rfl [.index q2, vi x1] [] rfl rfl (s_wt_4 rfl) rfl g4 k

theorem k575_21 {P : s_P} {d : Nat} {Q : s_O → Prop} {h : s_H} {kc ks : Nat} {r0 : Term} {x1 s0 : Int}  (k1 : s0 ≠ 0 → wr P d sw_c575 sw_h575 (37, [r0, vi x1], [], h, kc, ks) Q) (k2 : ¬ s0 ≠ 0 → wr P d sw_c575 sw_h575 (24, [r0, vi x1], [], h, kc, ks) Q)  (c1 : In3 s0 := by first | omega | assumption | (simp only [mk_len, List.length_map]; omega) | decide) : wr P d sw_c575 sw_h575 (21, [r0, vi x1], [vi s0], h, kc, ks) Q := by
  exact w_if1 rfl c1 k1 k2

theorem k575_24 {P : s_P} {d : Nat} {Q : s_O → Prop} {h : s_H} {kc ks : Nat} {r0 : Term} {x1 : Int} {q2 : Nat} {f3 : List Term} {z5 : Int} (g4 : s_get h q2 = some (1, 11, f3)) (k : wm P d 445 [.index q2, vi 7, vi z5] h (wq P d sw_c575 sw_h575 34 [.index q2, vi x1] [] kc ks Q)) (e_q2 : r0 = .index q2 := by first | rfl | assumption) (y1 : s_ty r0 = 3 := by first | rfl | assumption) (n6 : s_nth f3 71 = some (vi z5) := by first | rfl | assumption)  : wr P d sw_c575 sw_h575 (24, [r0, vi x1], [], h, kc, ks) Q := by
  refine w_ld rfl rfl (Or.inr (Or.inr ⟨by decide, y1⟩)) ?_
  refine w_c32 rfl (by decide) 7 (by decide) ?_
  refine w_ld rfl rfl (Or.inr (Or.inr ⟨by decide, y1⟩)) ?_
  subst e_q2
  refine w_getf rfl g4 n6 ?_
  exact w_cv rfl [.index q2, vi 7, vi z5] [] rfl rfl (s_wt_4 rfl) rfl g4 k

theorem k575_34 {P : s_P} {d : Nat} {Q : s_O → Prop} {h : s_H} {kc ks : Nat} {r0 : Term} {x1 : Int}  (k : wr P d sw_c575 sw_h575 (57, [r0, vi x1], [], h, kc, ks) Q)   : wr P d sw_c575 sw_h575 (34, [r0, vi x1], [], h, kc, ks) Q := by
  refine w_goto rfl ?_
  exact k

theorem k575_37 {P : s_P} {d : Nat} {Q : s_O → Prop} {h : s_H} {kc ks : Nat} {r0 : Term} {x1 : Int} {q2 : Nat} {f3 : List Term} (g4 : s_get h q2 = some (1, 11, f3)) (k : wm P d 507 [.index q2, vi x1] h (wq P d sw_c575 sw_h575 42 [.index q2, vi x1] [] kc ks Q)) (e_q2 : r0 = .index q2 := by first | rfl | assumption) (y1 : s_ty r0 = 3 := by first | rfl | assumption)  : wr P d sw_c575 sw_h575 (37, [r0, vi x1], [], h, kc, ks) Q := by
  refine w_ld rfl rfl (Or.inr (Or.inr ⟨by decide, y1⟩)) ?_
  refine w_ld rfl rfl (Or.inl ⟨by decide, rfl⟩) ?_
  subst e_q2
  exact w_cv rfl [.index q2, vi x1] [] rfl rfl (s_wt_4 rfl) rfl g4 k

theorem k575_42 {P : s_P} {d : Nat} {Q : s_O → Prop} {h : s_H} {kc ks : Nat} {r0 : Term} {x1 : Int} {q2 : Nat} {f3 : List Term} {z5 : Int} {f9 : List Term} (g4 : s_get h q2 = some (1, 11, f3)) (g10 : s_get (hp h q2 (1, 11, f3.set 71 (vi (z5 + 1)))) q2 = some (1, 11, f9)) (k : wr P d sw_c575 sw_h575 (57, [.index q2, vi x1], [], (hp (hp h q2 (1, 11, f3.set 71 (vi (z5 + 1)))) q2 (1, 11, f9.set 72 (vi 2))), kc, ks) Q) (e_q2 : r0 = .index q2 := by first | rfl | assumption) (y1 : s_ty r0 = 3 := by first | rfl | assumption) (n6 : s_nth f3 71 = some (vi z5) := by first | rfl | assumption) (l7 : 71 < f3.length := by first | exact Nat.le_of_ble_eq_true rfl | omega | assumption) (l11 : 72 < f9.length := by first | exact Nat.le_of_ble_eq_true rfl | omega | assumption) (c8 : 0 < q2 := by first | omega | assumption | (simp only [mk_len, List.length_map]; omega) | decide) : wr P d sw_c575 sw_h575 (42, [r0, vi x1], [], h, kc, ks) Q := by
  refine w_ld rfl rfl (Or.inr (Or.inr ⟨by decide, y1⟩)) ?_
  refine w_dup rfl (by rw [y1]; rfl) ?_
  subst e_q2
  refine w_getf rfl g4 n6 ?_
  refine w_c32 rfl (by decide) 1 (by decide) ?_
  refine w_iadd rfl ?_
  refine w_putf rfl g4 (Nat.ble_eq_true_of_le c8) rfl (Nat.ble_eq_true_of_le l7) ?_
  refine w_ld rfl rfl (Or.inr (Or.inr ⟨by decide, rfl⟩)) ?_
  refine w_c32 rfl (by decide) 2 (by decide) ?_
  refine w_putf rfl g10 (Nat.ble_eq_true_of_le c8) rfl (Nat.ble_eq_true_of_le l11) ?_
  exact k

theorem k575_57 {P : s_P} {d : Nat} {Q : s_O → Prop} {h : s_H} {kc ks : Nat} {r0 : Term} {x1 : Int}  (k : Q (.inl none, h, kc, ks))   : wr P d sw_c575 sw_h575 (57, [r0, vi x1], [], h, kc, ks) Q := by
  exact w_ret rfl k

/-! 576: FormulaWorksModel.readHandle()V -/
theorem k576_0 {P : s_P} {d : Nat} {Q : s_O → Prop} {h : s_H} {kc ks : Nat} {r0 t1 t2 : Term} {q2 : Nat} {f3 : List Term} {z5 : Int} (g4 : s_get h q2 = some (1, 11, f3)) (k : wm P d 432 [.index q2, vi (z5 + 1), vi 3] h (wq P d sw_c576 sw_h576 11 [.index q2, t1, t2] [] kc ks Q)) (e_q2 : r0 = .index q2 := by first | rfl | assumption) (y1 : s_ty r0 = 3 := by first | rfl | assumption) (n6 : s_nth f3 71 = some (vi z5) := by first | rfl | assumption)  : wr P d sw_c576 sw_h576 (0, [r0, t1, t2], [], h, kc, ks) Q := by
  refine w_ld rfl rfl (Or.inr (Or.inr ⟨by decide, y1⟩)) ?_
  refine w_ld rfl rfl (Or.inr (Or.inr ⟨by decide, y1⟩)) ?_
  subst e_q2
  refine w_getf rfl g4 n6 ?_
  refine w_c32 rfl (by decide) 1 (by decide) ?_
  refine w_iadd rfl ?_
  refine w_c32 rfl (by decide) 3 (by decide) ?_
  exact w_cv rfl [.index q2, vi (z5 + 1), vi 3] [] rfl rfl (s_wt_4 rfl) rfl g4 k

theorem k576_11 {P : s_P} {d : Nat} {Q : s_O → Prop} {h : s_H} {kc ks : Nat} {r0 t1 t2 : Term} {s0 : Int}  (k1 : s0 ≠ 0 → wr P d sw_c576 sw_h576 (27, [r0, vi s0, t2], [], h, kc, ks) Q) (k2 : ¬ s0 ≠ 0 → wr P d sw_c576 sw_h576 (16, [r0, vi s0, t2], [], h, kc, ks) Q) (y1 : s_ty r0 = 3 := by first | rfl | assumption) (c2 : In3 s0 := by first | omega | assumption | (simp only [mk_len, List.length_map]; omega) | decide) : wr P d sw_c576 sw_h576 (11, [r0, t1, t2], [vi s0], h, kc, ks) Q := by
  refine w_st (ls' := [r0, vi s0, t2]) rfl (Or.inl ⟨by decide, rfl⟩) (s_stK_r (pre := []) y1) ?_
  refine w_ld rfl rfl (Or.inl ⟨by decide, rfl⟩) ?_
  exact w_if1 rfl c2 k1 k2

theorem k576_16 {P : s_P} {d : Nat} {Q : s_O → Prop} {h : s_H} {kc ks : Nat} {r0 : Term} {x1 : Int} {t2 : Term} {q2 : Nat} {f3 : List Term} {z5 : Int} (g4 : s_get h q2 = some (1, 11, f3)) (k : wm P d 445 [.index q2, vi 1, vi (z5 + 1)] h (wq P d sw_c576 sw_h576 27 [.index q2, vi x1, t2] [] kc ks Q)) (e_q2 : r0 = .index q2 := by first | rfl | assumption) (y1 : s_ty r0 = 3 := by first | rfl | assumption) (n6 : s_nth f3 71 = some (vi z5) := by first | rfl | assumption)  : wr P d sw_c576 sw_h576 (16, [r0, vi x1, t2], [], h, kc, ks) Q := by
  refine w_ld rfl rfl (Or.inr (Or.inr ⟨by decide, y1⟩)) ?_
  refine w_c32 rfl (by decide) 1 (by decide) ?_
  refine w_ld rfl rfl (Or.inr (Or.inr ⟨by decide, y1⟩)) ?_
  subst e_q2
  refine w_getf rfl g4 n6 ?_
  refine w_c32 rfl (by decide) 1 (by decide) ?_
  refine w_iadd rfl ?_
  exact w_cv rfl [.index q2, vi 1, vi (z5 + 1)] [] rfl rfl (s_wt_4 rfl) rfl g4 k

theorem k576_27 {P : s_P} {d : Nat} {Q : s_O → Prop} {h : s_H} {kc ks : Nat} {r0 : Term} {x1 : Int} {t2 : Term} {q2 : Nat} {f3 : List Term} {z5 : Int} (g4 : s_get h q2 = some (1, 11, f3)) (k1 : z5 ≤ 0 → wr P d sw_c576 sw_h576 (35, [.index q2, vi x1, t2], [], h, kc, ks) Q) (k2 : ¬ z5 ≤ 0 → wr P d sw_c576 sw_h576 (34, [.index q2, vi x1, t2], [], h, kc, ks) Q) (e_q2 : r0 = .index q2 := by first | rfl | assumption) (y1 : s_ty r0 = 3 := by first | rfl | assumption) (n6 : s_nth f3 55 = some (vi z5) := by first | rfl | assumption) (c7 : In3 z5 := by first | omega | assumption | (simp only [mk_len, List.length_map]; omega) | decide) : wr P d sw_c576 sw_h576 (27, [r0, vi x1, t2], [], h, kc, ks) Q := by
  refine w_ld rfl rfl (Or.inr (Or.inr ⟨by decide, y1⟩)) ?_
  subst e_q2
  refine w_getf rfl g4 n6 ?_
  exact w_if1 rfl c7 k1 k2

theorem k576_34 {P : s_P} {d : Nat} {Q : s_O → Prop} {h : s_H} {kc ks : Nat} {r0 : Term} {x1 : Int} {t2 : Term}  (k : Q (.inl none, h, kc, ks))   : wr P d sw_c576 sw_h576 (34, [r0, vi x1, t2], [], h, kc, ks) Q := by
  exact w_ret rfl k

theorem k576_35 {P : s_P} {d : Nat} {Q : s_O → Prop} {h : s_H} {kc ks : Nat} {r0 : Term} {x1 : Int} {t2 : Term} {q2 : Nat} {f3 : List Term} {z5 : Int} (g4 : s_get h q2 = some (1, 11, f3)) (k : wm P d 540 [.index q2, vi (z5 + 1), vi x1] h (wq P d sw_c576 sw_h576 46 [.index q2, vi x1, t2] [] kc ks Q)) (e_q2 : r0 = .index q2 := by first | rfl | assumption) (y1 : s_ty r0 = 3 := by first | rfl | assumption) (n6 : s_nth f3 71 = some (vi z5) := by first | rfl | assumption)  : wr P d sw_c576 sw_h576 (35, [r0, vi x1, t2], [], h, kc, ks) Q := by
  refine w_ld rfl rfl (Or.inr (Or.inr ⟨by decide, y1⟩)) ?_
  refine w_ld rfl rfl (Or.inr (Or.inr ⟨by decide, y1⟩)) ?_
  subst e_q2
  refine w_getf rfl g4 n6 ?_
  refine w_c32 rfl (by decide) 1 (by decide) ?_
  refine w_iadd rfl ?_
  refine w_ld rfl rfl (Or.inl ⟨by decide, rfl⟩) ?_
  exact w_cv rfl [.index q2, vi (z5 + 1), vi x1] [] rfl rfl (s_wt_4 rfl) rfl g4 k

theorem k576_46 {P : s_P} {d : Nat} {Q : s_O → Prop} {h : s_H} {kc ks : Nat} {r0 : Term} {x1 : Int} {t2 : Term} {s0 : Int} {q2 : Nat} {f3 : List Term} (g4 : s_get h q2 = some (1, 11, f3)) (k : wm P d 492 [.index q2, vi s0] h (wq P d sw_c576 sw_h576 52 [.index q2, vi x1, vi s0] [] kc ks Q)) (e_q2 : r0 = .index q2 := by first | rfl | assumption) (y1 : s_ty r0 = 3 := by first | rfl | assumption)  : wr P d sw_c576 sw_h576 (46, [r0, vi x1, t2], [vi s0], h, kc, ks) Q := by
  refine w_st (ls' := [r0, vi x1, vi s0]) rfl (Or.inl ⟨by decide, rfl⟩) rfl ?_
  refine w_ld rfl rfl (Or.inr (Or.inr ⟨by decide, y1⟩)) ?_
  refine w_ld rfl rfl (Or.inl ⟨by decide, rfl⟩) ?_
  subst e_q2
  exact w_cv rfl [.index q2, vi s0] [] rfl rfl (s_wt_4 rfl) rfl g4 k

theorem k576_52 {P : s_P} {d : Nat} {Q : s_O → Prop} {h : s_H} {kc ks : Nat} {r0 : Term} {x1 x2 s0 : Int}  (k1 : s0 = 0 → wr P d sw_c576 sw_h576 (64, [r0, vi x1, vi x2], [], h, kc, ks) Q) (k2 : ¬ s0 = 0 → wr P d sw_c576 sw_h576 (55, [r0, vi x1, vi x2], [], h, kc, ks) Q)  (c1 : In3 s0 := by first | omega | assumption | (simp only [mk_len, List.length_map]; omega) | decide) : wr P d sw_c576 sw_h576 (52, [r0, vi x1, vi x2], [vi s0], h, kc, ks) Q := by
  exact w_if1 rfl c1 k1 k2

theorem k576_55 {P : s_P} {d : Nat} {Q : s_O → Prop} {h : s_H} {kc ks : Nat} {r0 : Term} {x1 x2 : Int} {q2 : Nat} {f3 : List Term} (g4 : s_get h q2 = some (1, 11, f3)) (k : wm P d 469 [.index q2, vi x2, vi 0] h (wq P d sw_c576 sw_h576 61 [.index q2, vi x1, vi x2] [] kc ks Q)) (e_q2 : r0 = .index q2 := by first | rfl | assumption) (y1 : s_ty r0 = 3 := by first | rfl | assumption)  : wr P d sw_c576 sw_h576 (55, [r0, vi x1, vi x2], [], h, kc, ks) Q := by
  refine w_ld rfl rfl (Or.inr (Or.inr ⟨by decide, y1⟩)) ?_
  refine w_ld rfl rfl (Or.inl ⟨by decide, rfl⟩) ?_
  refine w_c32 rfl (by decide) 0 (by decide) ?_
  subst e_q2
  exact w_cv rfl [.index q2, vi x2, vi 0] [] rfl rfl (s_wt_4 rfl) rfl g4 k

theorem k576_61 {P : s_P} {d : Nat} {Q : s_O → Prop} {h : s_H} {kc ks : Nat} {r0 : Term} {x1 x2 s0 : Int}  (k1 : s0 ≠ 0 → wr P d sw_c576 sw_h576 (74, [r0, vi x1, vi x2], [], h, kc, ks) Q) (k2 : ¬ s0 ≠ 0 → wr P d sw_c576 sw_h576 (64, [r0, vi x1, vi x2], [], h, kc, ks) Q)  (c1 : In3 s0 := by first | omega | assumption | (simp only [mk_len, List.length_map]; omega) | decide) : wr P d sw_c576 sw_h576 (61, [r0, vi x1, vi x2], [vi s0], h, kc, ks) Q := by
  exact w_if1 rfl c1 k1 k2

theorem k576_64 {P : s_P} {d : Nat} {Q : s_O → Prop} {h : s_H} {kc ks : Nat} {r0 : Term} {x1 x2 : Int} {q2 : Nat} {f3 : List Term} {z5 : Int} (g4 : s_get h q2 = some (1, 11, f3)) (k : wm P d 445 [.index q2, vi 3, vi z5] h (wq P d sw_c576 sw_h576 73 [.index q2, vi x1, vi x2] [] kc ks Q)) (e_q2 : r0 = .index q2 := by first | rfl | assumption) (y1 : s_ty r0 = 3 := by first | rfl | assumption) (n6 : s_nth f3 71 = some (vi z5) := by first | rfl | assumption)  : wr P d sw_c576 sw_h576 (64, [r0, vi x1, vi x2], [], h, kc, ks) Q := by
  refine w_ld rfl rfl (Or.inr (Or.inr ⟨by decide, y1⟩)) ?_
  refine w_c32 rfl (by decide) 3 (by decide) ?_
  refine w_ld rfl rfl (Or.inr (Or.inr ⟨by decide, y1⟩)) ?_
  subst e_q2
  refine w_getf rfl g4 n6 ?_
  exact w_cv rfl [.index q2, vi 3, vi z5] [] rfl rfl (s_wt_4 rfl) rfl g4 k

theorem k576_73 {P : s_P} {d : Nat} {Q : s_O → Prop} {h : s_H} {kc ks : Nat} {r0 : Term} {x1 x2 : Int}  (k : Q (.inl none, h, kc, ks))   : wr P d sw_c576 sw_h576 (73, [r0, vi x1, vi x2], [], h, kc, ks) Q := by
  exact w_ret rfl k

theorem k576_74 {P : s_P} {d : Nat} {Q : s_O → Prop} {h : s_H} {kc ks : Nat} {r0 : Term} {x1 x2 : Int} {q2 : Nat} {f3 : List Term} {v5 v7 : Term} (g4 : s_get h q2 = some (1, 11, f3)) (k : wm P d 505 [.index q2, v5, v7, vi x2] h (wq P d sw_c576 sw_h576 87 [.index q2, vi x1, vi x2] [] kc ks Q)) (e_q2 : r0 = .index q2 := by first | rfl | assumption) (y1 : s_ty r0 = 3 := by first | rfl | assumption) (n6 : s_nth f3 14 = some v5 := by first | rfl | assumption) (n8 : s_nth f3 15 = some v7 := by first | rfl | assumption)  : wr P d sw_c576 sw_h576 (74, [r0, vi x1, vi x2], [], h, kc, ks) Q := by
  refine w_ld rfl rfl (Or.inr (Or.inr ⟨by decide, y1⟩)) ?_
  refine w_ld rfl rfl (Or.inr (Or.inr ⟨by decide, y1⟩)) ?_
  subst e_q2
  refine w_getf rfl g4 n6 ?_
  refine w_ld rfl rfl (Or.inr (Or.inr ⟨by decide, rfl⟩)) ?_
  refine w_getf rfl g4 n8 ?_
  refine w_ld rfl rfl (Or.inl ⟨by decide, rfl⟩) ?_
  exact w_cv rfl [.index q2, v5, v7, vi x2] [] rfl rfl (s_wt_4 rfl) rfl g4 k

theorem k576_87 {P : s_P} {d : Nat} {Q : s_O → Prop} {h : s_H} {kc ks : Nat} {r0 : Term} {x1 x2 : Int} {q2 : Nat} {f3 : List Term} {z5 : Int} {f9 : List Term} (g4 : s_get h q2 = some (1, 11, f3)) (g10 : s_get (hp h q2 (1, 11, f3.set 71 (vi (z5 + (x1 + 1))))) q2 = some (1, 11, f9)) (k : Q (.inl none, (hp (hp h q2 (1, 11, f3.set 71 (vi (z5 + (x1 + 1))))) q2 (1, 11, f9.set 72 (vi 2))), kc, ks)) (e_q2 : r0 = .index q2 := by first | rfl | assumption) (y1 : s_ty r0 = 3 := by first | rfl | assumption) (n6 : s_nth f3 71 = some (vi z5) := by first | rfl | assumption) (l7 : 71 < f3.length := by first | exact Nat.le_of_ble_eq_true rfl | omega | assumption) (l11 : 72 < f9.length := by first | exact Nat.le_of_ble_eq_true rfl | omega | assumption) (c8 : 0 < q2 := by first | omega | assumption | (simp only [mk_len, List.length_map]; omega) | decide) : wr P d sw_c576 sw_h576 (87, [r0, vi x1, vi x2], [], h, kc, ks) Q := by
  refine w_ld rfl rfl (Or.inr (Or.inr ⟨by decide, y1⟩)) ?_
  refine w_dup rfl (by rw [y1]; rfl) ?_
  subst e_q2
  refine w_getf rfl g4 n6 ?_
  refine w_ld rfl rfl (Or.inl ⟨by decide, rfl⟩) ?_
  refine w_c32 rfl (by decide) 1 (by decide) ?_
  refine w_iadd rfl ?_
  refine w_iadd rfl ?_
  refine w_putf rfl g4 (Nat.ble_eq_true_of_le c8) rfl (Nat.ble_eq_true_of_le l7) ?_
  refine w_ld rfl rfl (Or.inr (Or.inr ⟨by decide, rfl⟩)) ?_
  refine w_c32 rfl (by decide) 2 (by decide) ?_
  refine w_putf rfl g10 (Nat.ble_eq_true_of_le c8) rfl (Nat.ble_eq_true_of_le l11) ?_
  exact w_ret rfl k

/-! 577: FormulaWorksModel.readPower()V -/
theorem k577_0 {P : s_P} {d : Nat} {Q : s_O → Prop} {h : s_H} {kc ks : Nat} {r0 t1 : Term} {q2 : Nat} {f3 : List Term} {z5 : Int} (g4 : s_get h q2 = some (1, 11, f3)) (k : wm P d 432 [.index q2, vi (z5 + 1), vi 2] h (wq P d sw_c577 sw_h577 11 [.index q2, t1] [] kc ks Q)) (e_q2 : r0 = .index q2 := by first | rfl | assumption) (y1 : s_ty r0 = 3 := by first | rfl | assumption) (n6 : s_nth f3 71 = some (vi z5) := by first | rfl | assumption)  : wr P d sw_c577 sw_h577 (0, [r0, t1], [], h, kc, ks) Q := by
  refine w_ld rfl rfl (Or.inr (Or.inr ⟨by decide, y1⟩)) ?_
  refine w_ld rfl rfl (Or.inr (Or.inr ⟨by decide, y1⟩)) ?_
  subst e_q2
  refine w_getf rfl g4 n6 ?_
  refine w_c32 rfl (by decide) 1 (by decide) ?_
  refine w_iadd rfl ?_
  refine w_c32 rfl (by decide) 2 (by decide) ?_
  exact w_cv rfl [.index q2, vi (z5 + 1), vi 2] [] rfl rfl (s_wt_4 rfl) rfl g4 k

theorem k577_11 {P : s_P} {d : Nat} {Q : s_O → Prop} {h : s_H} {kc ks : Nat} {r0 t1 : Term} {s0 : Int}  (k1 : s0 ≠ 0 → wr P d sw_c577 sw_h577 (27, [r0, vi s0], [], h, kc, ks) Q) (k2 : ¬ s0 ≠ 0 → wr P d sw_c577 sw_h577 (16, [r0, vi s0], [], h, kc, ks) Q) (y1 : s_ty r0 = 3 := by first | rfl | assumption) (c2 : In3 s0 := by first | omega | assumption | (simp only [mk_len, List.length_map]; omega) | decide) : wr P d sw_c577 sw_h577 (11, [r0, t1], [vi s0], h, kc, ks) Q := by
  refine w_st (ls' := [r0, vi s0]) rfl (Or.inl ⟨by decide, rfl⟩) (s_stK_r (pre := []) y1) ?_
  refine w_ld rfl rfl (Or.inl ⟨by decide, rfl⟩) ?_
  exact w_if1 rfl c2 k1 k2

theorem k577_16 {P : s_P} {d : Nat} {Q : s_O → Prop} {h : s_H} {kc ks : Nat} {r0 : Term} {x1 : Int} {q2 : Nat} {f3 : List Term} {z5 : Int} (g4 : s_get h q2 = some (1, 11, f3)) (k : wm P d 445 [.index q2, vi 1, vi (z5 + 1)] h (wq P d sw_c577 sw_h577 27 [.index q2, vi x1] [] kc ks Q)) (e_q2 : r0 = .index q2 := by first | rfl | assumption) (y1 : s_ty r0 = 3 := by first | rfl | assumption) (n6 : s_nth f3 71 = some (vi z5) := by first | rfl | assumption)  : wr P d sw_c577 sw_h577 (16, [r0, vi x1], [], h, kc, ks) Q := by
  refine w_ld rfl rfl (Or.inr (Or.inr ⟨by decide, y1⟩)) ?_
  refine w_c32 rfl (by decide) 1 (by decide) ?_
  refine w_ld rfl rfl (Or.inr (Or.inr ⟨by decide, y1⟩)) ?_
  subst e_q2
  refine w_getf rfl g4 n6 ?_
  refine w_c32 rfl (by decide) 1 (by decide) ?_
  refine w_iadd rfl ?_
  exact w_cv rfl [.index q2, vi 1, vi (z5 + 1)] [] rfl rfl (s_wt_4 rfl) rfl g4 k

theorem k577_27 {P : s_P} {d : Nat} {Q : s_O → Prop} {h : s_H} {kc ks : Nat} {r0 : Term} {x1 : Int} {q2 : Nat} {f3 : List Term} {z5 : Int} (g4 : s_get h q2 = some (1, 11, f3)) (k1 : z5 ≤ 0 → wr P d sw_c577 sw_h577 (35, [.index q2, vi x1], [], h, kc, ks) Q) (k2 : ¬ z5 ≤ 0 → wr P d sw_c577 sw_h577 (34, [.index q2, vi x1], [], h, kc, ks) Q) (e_q2 : r0 = .index q2 := by first | rfl | assumption) (y1 : s_ty r0 = 3 := by first | rfl | assumption) (n6 : s_nth f3 55 = some (vi z5) := by first | rfl | assumption) (c7 : In3 z5 := by first | omega | assumption | (simp only [mk_len, List.length_map]; omega) | decide) : wr P d sw_c577 sw_h577 (27, [r0, vi x1], [], h, kc, ks) Q := by
  refine w_ld rfl rfl (Or.inr (Or.inr ⟨by decide, y1⟩)) ?_
  subst e_q2
  refine w_getf rfl g4 n6 ?_
  exact w_if1 rfl c7 k1 k2

theorem k577_34 {P : s_P} {d : Nat} {Q : s_O → Prop} {h : s_H} {kc ks : Nat} {r0 : Term} {x1 : Int}  (k : Q (.inl none, h, kc, ks))   : wr P d sw_c577 sw_h577 (34, [r0, vi x1], [], h, kc, ks) Q := by
  exact w_ret rfl k

theorem k577_35 {P : s_P} {d : Nat} {Q : s_O → Prop} {h : s_H} {kc ks : Nat} {r0 : Term} {x1 : Int} {q2 : Nat} {f3 : List Term} {v5 v7 : Term} (g4 : s_get h q2 = some (1, 11, f3)) (k : wm P d 425 [v5, v7] h (wq P d sw_c577 sw_h577 46 [.index q2, vi x1] [] kc ks Q)) (e_q2 : r0 = .index q2 := by first | rfl | assumption) (y1 : s_ty r0 = 3 := by first | rfl | assumption) (n6 : s_nth f3 10 = some v5 := by first | rfl | assumption) (n8 : s_nth f3 14 = some v7 := by first | rfl | assumption)  : wr P d sw_c577 sw_h577 (35, [r0, vi x1], [], h, kc, ks) Q := by
  refine w_ld rfl rfl (Or.inr (Or.inr ⟨by decide, y1⟩)) ?_
  subst e_q2
  refine w_getf rfl g4 n6 ?_
  refine w_ld rfl rfl (Or.inr (Or.inr ⟨by decide, rfl⟩)) ?_
  refine w_getf rfl g4 n8 ?_
  exact w_cs rfl [v5, v7] [] rfl rfl (s_wt_4 rfl) k

theorem k577_46 {P : s_P} {d : Nat} {Q : s_O → Prop} {h : s_H} {kc ks : Nat} {r0 : Term} {x1 : Int} {q2 : Nat} {f3 : List Term} {v5 v7 : Term} (g4 : s_get h q2 = some (1, 11, f3)) (k : wm P d 425 [v5, v7] h (wq P d sw_c577 sw_h577 57 [.index q2, vi x1] [] kc ks Q)) (e_q2 : r0 = .index q2 := by first | rfl | assumption) (y1 : s_ty r0 = 3 := by first | rfl | assumption) (n6 : s_nth f3 11 = some v5 := by first | rfl | assumption) (n8 : s_nth f3 15 = some v7 := by first | rfl | assumption)  : wr P d sw_c577 sw_h577 (46, [r0, vi x1], [], h, kc, ks) Q := by
  refine w_ld rfl rfl (Or.inr (Or.inr ⟨by decide, y1⟩)) ?_
  subst e_q2
  refine w_getf rfl g4 n6 ?_
  refine w_ld rfl rfl (Or.inr (Or.inr ⟨by decide, rfl⟩)) ?_
  refine w_getf rfl g4 n8 ?_
  exact w_cs rfl [v5, v7] [] rfl rfl (s_wt_4 rfl) k

theorem k577_57 {P : s_P} {d : Nat} {Q : s_O → Prop} {h : s_H} {kc ks : Nat} {r0 : Term} {x1 : Int} {q2 : Nat} {f3 : List Term} {z5 : Int} (g4 : s_get h q2 = some (1, 11, f3)) (k : wm P d 540 [.index q2, vi (z5 + 1), vi x1] h (wq P d sw_c577 sw_h577 71 [.index q2, vi x1] [vi 7, .index q2] kc ks Q)) (e_q2 : r0 = .index q2 := by first | rfl | assumption) (y1 : s_ty r0 = 3 := by first | rfl | assumption) (n6 : s_nth f3 71 = some (vi z5) := by first | rfl | assumption)  : wr P d sw_c577 sw_h577 (57, [r0, vi x1], [], h, kc, ks) Q := by
  refine w_ld rfl rfl (Or.inr (Or.inr ⟨by decide, y1⟩)) ?_
  refine w_c32 rfl (by decide) 7 (by decide) ?_
  refine w_ld rfl rfl (Or.inr (Or.inr ⟨by decide, y1⟩)) ?_
  refine w_ld rfl rfl (Or.inr (Or.inr ⟨by decide, y1⟩)) ?_
  subst e_q2
  refine w_getf rfl g4 n6 ?_
  refine w_c32 rfl (by decide) 1 (by decide) ?_
  refine w_iadd rfl ?_
  refine w_ld rfl rfl (Or.inl ⟨by decide, rfl⟩) ?_
  exact w_cv rfl [.index q2, vi (z5 + 1), vi x1] [vi 7, .index q2] rfl rfl (s_wt_4 rfl) rfl g4 k

theorem k577_71 {P : s_P} {d : Nat} {Q : s_O → Prop} {h : s_H} {kc ks : Nat} {r0 : Term} {x1 : Int} {s0 : Term} {s1 s2 : Int} {q1 : Nat} {f2 : List Term} (g3 : s_get h q1 = some (1, 11, f2)) (k : wm P d 437 [.index q1, vi s1, vi s2] h (wq P d sw_c577 sw_h577 74 [r0, vi x1] [] kc ks Q)) (e_q1 : s0 = .index q1 := by first | rfl | assumption)  : wr P d sw_c577 sw_h577 (71, [r0, vi x1], [vi s2, vi s1, s0], h, kc, ks) Q := by
  subst e_q1
  exact w_cv rfl [.index q1, vi s1, vi s2] [] rfl rfl (s_wt_4 rfl) rfl g3 k

theorem k577_74 {P : s_P} {d : Nat} {Q : s_O → Prop} {h : s_H} {kc ks : Nat} {r0 : Term} {x1 : Int} {q2 : Nat} {f3 : List Term} {z5 : Int} (g4 : s_get h q2 = some (1, 11, f3)) (k1 : z5 = 1 → wr P d sw_c577 sw_h577 (109, [.index q2, vi x1], [], h, kc, ks) Q) (k2 : ¬ z5 = 1 → wr P d sw_c577 sw_h577 (82, [.index q2, vi x1], [], h, kc, ks) Q) (e_q2 : r0 = .index q2 := by first | rfl | assumption) (y1 : s_ty r0 = 3 := by first | rfl | assumption) (n6 : s_nth f3 54 = some (vi z5) := by first | rfl | assumption) (c7 : In3 z5 := by first | omega | assumption | (simp only [mk_len, List.length_map]; omega) | decide) : wr P d sw_c577 sw_h577 (74, [r0, vi x1], [], h, kc, ks) Q := by
  refine w_ld rfl rfl (Or.inr (Or.inr ⟨by decide, y1⟩)) ?_
  subst e_q2
  refine w_getf rfl g4 n6 ?_
  refine w_c32 rfl (by decide) 1 (by decide) ?_
  exact w_if2 rfl c7 (by decide) k1 k2

theorem k577_82 {P : s_P} {d : Nat} {Q : s_O → Prop} {h : s_H} {kc ks : Nat} {r0 : Term} {x1 : Int} {q2 : Nat} {f3 : List Term} {z5 : Int} (g4 : s_get h q2 = some (1, 11, f3)) (k : wm P d 540 [.index q2, vi (z5 + 1), vi x1] h (wq P d sw_c577 sw_h577 94 [.index q2, vi x1] [.index q2] kc ks Q)) (e_q2 : r0 = .index q2 := by first | rfl | assumption) (y1 : s_ty r0 = 3 := by first | rfl | assumption) (n6 : s_nth f3 71 = some (vi z5) := by first | rfl | assumption)  : wr P d sw_c577 sw_h577 (82, [r0, vi x1], [], h, kc, ks) Q := by
  refine w_ld rfl rfl (Or.inr (Or.inr ⟨by decide, y1⟩)) ?_
  refine w_ld rfl rfl (Or.inr (Or.inr ⟨by decide, y1⟩)) ?_
  refine w_ld rfl rfl (Or.inr (Or.inr ⟨by decide, y1⟩)) ?_
  subst e_q2
  refine w_getf rfl g4 n6 ?_
  refine w_c32 rfl (by decide) 1 (by decide) ?_
  refine w_iadd rfl ?_
  refine w_ld rfl rfl (Or.inl ⟨by decide, rfl⟩) ?_
  exact w_cv rfl [.index q2, vi (z5 + 1), vi x1] [.index q2] rfl rfl (s_wt_4 rfl) rfl g4 k

theorem k577_94 {P : s_P} {d : Nat} {Q : s_O → Prop} {h : s_H} {kc ks : Nat} {r0 : Term} {x1 : Int} {s0 : Term} {s1 : Int} {q1 : Nat} {f2 : List Term} (g3 : s_get h q1 = some (1, 11, f2)) (k : wm P d 484 [.index q1, vi s1] h (wq P d sw_c577 sw_h577 97 [r0, vi x1] [] kc ks Q)) (e_q1 : s0 = .index q1 := by first | rfl | assumption)  : wr P d sw_c577 sw_h577 (94, [r0, vi x1], [vi s1, s0], h, kc, ks) Q := by
  subst e_q1
  exact w_cv rfl [.index q1, vi s1] [] rfl rfl (s_wt_4 rfl) rfl g3 k

theorem k577_97 {P : s_P} {d : Nat} {Q : s_O → Prop} {h : s_H} {kc ks : Nat} {r0 : Term} {x1 s0 : Int}  (k1 : s0 ≠ 0 → wr P d sw_c577 sw_h577 (109, [r0, vi x1], [], h, kc, ks) Q) (k2 : ¬ s0 ≠ 0 → wr P d sw_c577 sw_h577 (100, [r0, vi x1], [], h, kc, ks) Q)  (c1 : In3 s0 := by first | omega | assumption | (simp only [mk_len, List.length_map]; omega) | decide) : wr P d sw_c577 sw_h577 (97, [r0, vi x1], [vi s0], h, kc, ks) Q := by
  exact w_if1 rfl c1 k1 k2

theorem k577_100 {P : s_P} {d : Nat} {Q : s_O → Prop} {h : s_H} {kc ks : Nat} {r0 : Term} {x1 : Int} {q2 : Nat} {f3 : List Term} {z5 : Int} (g4 : s_get h q2 = some (1, 11, f3)) (k : wm P d 445 [.index q2, vi 5, vi z5] h (wq P d sw_c577 sw_h577 109 [.index q2, vi x1] [] kc ks Q)) (e_q2 : r0 = .index q2 := by first | rfl | assumption) (y1 : s_ty r0 = 3 := by first | rfl | assumption) (n6 : s_nth f3 71 = some (vi z5) := by first | rfl | assumption)  : wr P d sw_c577 sw_h577 (100, [r0, vi x1], [], h, kc, ks) Q := by
  refine w_ld rfl rfl (Or.inr (Or.inr ⟨by decide, y1⟩)) ?_
  refine w_c32 rfl (by decide) 5 (by decide) ?_
  refine w_ld rfl rfl (Or.inr (Or.inr ⟨by decide, y1⟩)) ?_
  subst e_q2
  refine w_getf rfl g4 n6 ?_
  exact w_cv rfl [.index q2, vi 5, vi z5] [] rfl rfl (s_wt_4 rfl) rfl g4 k

theorem k577_109 {P : s_P} {d : Nat} {Q : s_O → Prop} {h : s_H} {kc ks : Nat} {r0 : Term} {x1 : Int} {q2 : Nat} {f3 : List Term} {z5 : Int} {f9 : List Term} (g4 : s_get h q2 = some (1, 11, f3)) (g10 : s_get (hp h q2 (1, 11, f3.set 71 (vi (z5 + (x1 + 1))))) q2 = some (1, 11, f9)) (k : Q (.inl none, (hp (hp h q2 (1, 11, f3.set 71 (vi (z5 + (x1 + 1))))) q2 (1, 11, f9.set 72 (vi 3))), kc, ks)) (e_q2 : r0 = .index q2 := by first | rfl | assumption) (y1 : s_ty r0 = 3 := by first | rfl | assumption) (n6 : s_nth f3 71 = some (vi z5) := by first | rfl | assumption) (l7 : 71 < f3.length := by first | exact Nat.le_of_ble_eq_true rfl | omega | assumption) (l11 : 72 < f9.length := by first | exact Nat.le_of_ble_eq_true rfl | omega | assumption) (c8 : 0 < q2 := by first | omega | assumption | (simp only [mk_len, List.length_map]; omega) | decide) : wr P d sw_c577 sw_h577 (109, [r0, vi x1], [], h, kc, ks) Q := by
  refine w_ld rfl rfl (Or.inr (Or.inr ⟨by decide, y1⟩)) ?_
  refine w_dup rfl (by rw [y1]; rfl) ?_
  subst e_q2
  refine w_getf rfl g4 n6 ?_
  refine w_ld rfl rfl (Or.inl ⟨by decide, rfl⟩) ?_
  refine w_c32 rfl (by decide) 1 (by decide) ?_
  refine w_iadd rfl ?_
  refine w_iadd rfl ?_
  refine w_putf rfl g4 (Nat.ble_eq_true_of_le c8) rfl (Nat.ble_eq_true_of_le l7) ?_
  refine w_ld rfl rfl (Or.inr (Or.inr ⟨by decide, rfl⟩)) ?_
  refine w_c32 rfl (by decide) 3 (by decide) ?_
  refine w_putf rfl g10 (Nat.ble_eq_true_of_le c8) rfl (Nat.ble_eq_true_of_le l11) ?_
  exact w_ret rfl k

/-! 578: FormulaWorksModel.readSource(I)V -/
theorem k578_0 {P : s_P} {d : Nat} {Q : s_O → Prop} {h : s_H} {kc ks : Nat} {r0 : Term} {x1 : Int} {q2 : Nat} {f3 f7 f10 f13 f16 f19 f22 f25 f28 : List Term} (g4 : s_get h q2 = some (1, 11, f3)) (g8 : s_get (hp h q2 (1, 11, f3.set 54 (vi x1))) q2 = some (1, 11, f7)) (g11 : s_get (hp (hp h q2 (1, 11, f3.set 54 (vi x1))) q2 (1, 11, f7.set 55 (vi 0))) q2 = some (1, 11, f10)) (g14 : s_get (hp (hp (hp h q2 (1, 11, f3.set 54 (vi x1))) q2 (1, 11, f7.set 55 (vi 0))) q2 (1, 11, f10.set 56 (vi (-1)))) q2 = some (1, 11, f13)) (g17 : s_get (hp (hp (hp (hp h q2 (1, 11, f3.set 54 (vi x1))) q2 (1, 11, f7.set 55 (vi 0))) q2 (1, 11, f10.set 56 (vi (-1)))) q2 (1, 11, f13.set 59 (vi 0))) q2 = some (1, 11, f16)) (g20 : s_get (hp (hp (hp (hp (hp h q2 (1, 11, f3.set 54 (vi x1))) q2 (1, 11, f7.set 55 (vi 0))) q2 (1, 11, f10.set 56 (vi (-1)))) q2 (1, 11, f13.set 59 (vi 0))) q2 (1, 11, f16.set 71 (vi 0))) q2 = some (1, 11, f19)) (g23 : s_get (hp (hp (hp (hp (hp (hp h q2 (1, 11, f3.set 54 (vi x1))) q2 (1, 11, f7.set 55 (vi 0))) q2 (1, 11, f10.set 56 (vi (-1)))) q2 (1, 11, f13.set 59 (vi 0))) q2 (1, 11, f16.set 71 (vi 0))) q2 (1, 11, f19.set 75 (vi 0))) q2 = some (1, 11, f22)) (g26 : s_get (hp (hp (hp (hp (hp (hp (hp h q2 (1, 11, f3.set 54 (vi x1))) q2 (1, 11, f7.set 55 (vi 0))) q2 (1, 11, f10.set 56 (vi (-1)))) q2 (1, 11, f13.set 59 (vi 0))) q2 (1, 11, f16.set 71 (vi 0))) q2 (1, 11, f19.set 75 (vi 0))) q2 (1, 11, f22.set 76 (vi (-1)))) q2 = some (1, 11, f25)) (g29 : s_get (hp (hp (hp (hp (hp (hp (hp (hp h q2 (1, 11, f3.set 54 (vi x1))) q2 (1, 11, f7.set 55 (vi 0))) q2 (1, 11, f10.set 56 (vi (-1)))) q2 (1, 11, f13.set 59 (vi 0))) q2 (1, 11, f16.set 71 (vi 0))) q2 (1, 11, f19.set 75 (vi 0))) q2 (1, 11, f22.set 76 (vi (-1)))) q2 (1, 11, f25.set 88 (vi 0))) q2 = some (1, 11, f28)) (k : wm P d 406 [.index q2] (hp (hp (hp (hp (hp (hp (hp (hp h q2 (1, 11, f3.set 54 (vi x1))) q2 (1, 11, f7.set 55 (vi 0))) q2 (1, 11, f10.set 56 (vi (-1)))) q2 (1, 11, f13.set 59 (vi 0))) q2 (1, 11, f16.set 71 (vi 0))) q2 (1, 11, f19.set 75 (vi 0))) q2 (1, 11, f22.set 76 (vi (-1)))) q2 (1, 11, f25.set 88 (vi 0))) (wq P d sw_c578 sw_h578 44 [.index q2, vi x1] [] kc ks Q)) (e_q2 : r0 = .index q2 := by first | rfl | assumption) (y1 : s_ty r0 = 3 := by first | rfl | assumption) (l5 : 54 < f3.length := by first | exact Nat.le_of_ble_eq_true rfl | omega | assumption) (l9 : 55 < f7.length := by first | exact Nat.le_of_ble_eq_true rfl | omega | assumption) (l12 : 56 < f10.length := by first | exact Nat.le_of_ble_eq_true rfl | omega | assumption) (l15 : 59 < f13.length := by first | exact Nat.le_of_ble_eq_true rfl | omega | assumption) (l18 : 71 < f16.length := by first | exact Nat.le_of_ble_eq_true rfl | omega | assumption) (l21 : 75 < f19.length := by first | exact Nat.le_of_ble_eq_true rfl | omega | assumption) (l24 : 76 < f22.length := by first | exact Nat.le_of_ble_eq_true rfl | omega | assumption) (l27 : 88 < f25.length := by first | exact Nat.le_of_ble_eq_true rfl | omega | assumption) (c6 : 0 < q2 := by first | omega | assumption | (simp only [mk_len, List.length_map]; omega) | decide) : wr P d sw_c578 sw_h578 (0, [r0, vi x1], [], h, kc, ks) Q := by
  refine w_ld rfl rfl (Or.inr (Or.inr ⟨by decide, y1⟩)) ?_
  refine w_ld rfl rfl (Or.inl ⟨by decide, rfl⟩) ?_
  subst e_q2
  refine w_putf rfl g4 (Nat.ble_eq_true_of_le c6) rfl (Nat.ble_eq_true_of_le l5) ?_
  refine w_ld rfl rfl (Or.inr (Or.inr ⟨by decide, rfl⟩)) ?_
  refine w_c32 rfl (by decide) 0 (by decide) ?_
  refine w_putf rfl g8 (Nat.ble_eq_true_of_le c6) rfl (Nat.ble_eq_true_of_le l9) ?_
  refine w_ld rfl rfl (Or.inr (Or.inr ⟨by decide, rfl⟩)) ?_
  refine w_c32 rfl (by decide) (-1) (by decide) ?_
  refine w_putf rfl g11 (Nat.ble_eq_true_of_le c6) rfl (Nat.ble_eq_true_of_le l12) ?_
  refine w_ld rfl rfl (Or.inr (Or.inr ⟨by decide, rfl⟩)) ?_
  refine w_c32 rfl (by decide) 0 (by decide) ?_
  refine w_putf rfl g14 (Nat.ble_eq_true_of_le c6) rfl (Nat.ble_eq_true_of_le l15) ?_
  refine w_ld rfl rfl (Or.inr (Or.inr ⟨by decide, rfl⟩)) ?_
  refine w_c32 rfl (by decide) 0 (by decide) ?_
  refine w_putf rfl g17 (Nat.ble_eq_true_of_le c6) rfl (Nat.ble_eq_true_of_le l18) ?_
  refine w_ld rfl rfl (Or.inr (Or.inr ⟨by decide, rfl⟩)) ?_
  refine w_c32 rfl (by decide) 0 (by decide) ?_
  refine w_putf rfl g20 (Nat.ble_eq_true_of_le c6) (by decide) (Nat.ble_eq_true_of_le l21) ?_
  refine w_ld rfl rfl (Or.inr (Or.inr ⟨by decide, rfl⟩)) ?_
  refine w_c32 rfl (by decide) (-1) (by decide) ?_
  refine w_putf rfl g23 (Nat.ble_eq_true_of_le c6) rfl (Nat.ble_eq_true_of_le l24) ?_
  refine w_ld rfl rfl (Or.inr (Or.inr ⟨by decide, rfl⟩)) ?_
  refine w_c32 rfl (by decide) 0 (by decide) ?_
  refine w_putf rfl g26 (Nat.ble_eq_true_of_le c6) rfl (Nat.ble_eq_true_of_le l27) ?_
  refine w_ld rfl rfl (Or.inr (Or.inr ⟨by decide, rfl⟩)) ?_
  exact w_cv rfl [.index q2] [] rfl rfl (s_wt_4 rfl) rfl g29 k

theorem k578_44 {P : s_P} {d : Nat} {Q : s_O → Prop} {h : s_H} {kc ks : Nat} {r0 : Term} {x1 : Int} {q2 : Nat} {f3 : List Term} {z5 : Int} (g4 : s_get h q2 = some (1, 11, f3)) (k1 : z5 ≠ 0 → wr P d sw_c578 sw_h578 (117, [.index q2, vi x1], [], h, kc, ks) Q) (k2 : ¬ z5 ≠ 0 → wr P d sw_c578 sw_h578 (51, [.index q2, vi x1], [], h, kc, ks) Q) (e_q2 : r0 = .index q2 := by first | rfl | assumption) (y1 : s_ty r0 = 3 := by first | rfl | assumption) (n6 : s_nth f3 55 = some (vi z5) := by first | rfl | assumption) (c7 : In3 z5 := by first | omega | assumption | (simp only [mk_len, List.length_map]; omega) | decide) : wr P d sw_c578 sw_h578 (44, [r0, vi x1], [], h, kc, ks) Q := by
  refine w_ld rfl rfl (Or.inr (Or.inr ⟨by decide, y1⟩)) ?_
  subst e_q2
  refine w_getf rfl g4 n6 ?_
  exact w_if1 rfl c7 k1 k2

theorem k578_51 {P : s_P} {d : Nat} {Q : s_O → Prop} {h : s_H} {kc ks : Nat} {r0 : Term} {x1 : Int} {q2 : Nat} {f3 : List Term} {z5 : Int} (g4 : s_get h q2 = some (1, 11, f3)) (k1 : z5 ≠ (-1) → wr P d sw_c578 sw_h578 (117, [.index q2, vi x1], [], h, kc, ks) Q) (k2 : ¬ z5 ≠ (-1) → wr P d sw_c578 sw_h578 (59, [.index q2, vi x1], [], h, kc, ks) Q) (e_q2 : r0 = .index q2 := by first | rfl | assumption) (y1 : s_ty r0 = 3 := by first | rfl | assumption) (n6 : s_nth f3 76 = some (vi z5) := by first | rfl | assumption) (c7 : In3 z5 := by first | omega | assumption | (simp only [mk_len, List.length_map]; omega) | decide) : wr P d sw_c578 sw_h578 (51, [r0, vi x1], [], h, kc, ks) Q := by
  refine w_ld rfl rfl (Or.inr (Or.inr ⟨by decide, y1⟩)) ?_
  subst e_q2
  refine w_getf rfl g4 n6 ?_
  refine w_c32 rfl (by decide) (-1) (by decide) ?_
  exact w_if2 rfl c7 (by decide) k1 k2

theorem k578_59 {P : s_P} {d : Nat} {Q : s_O → Prop} {h : s_H} {kc ks : Nat} {r0 : Term} {x1 : Int} {q2 : Nat} {f3 : List Term} {z5 : Int} (g4 : s_get h q2 = some (1, 11, f3)) (k1 : 4 ≤ z5 → wr P d sw_c578 sw_h578 (117, [.index q2, vi x1], [], h, kc, ks) Q) (k2 : ¬ 4 ≤ z5 → wr P d sw_c578 sw_h578 (67, [.index q2, vi x1], [], h, kc, ks) Q) (e_q2 : r0 = .index q2 := by first | rfl | assumption) (y1 : s_ty r0 = 3 := by first | rfl | assumption) (n6 : s_nth f3 72 = some (vi z5) := by first | rfl | assumption) (c7 : In3 z5 := by first | omega | assumption | (simp only [mk_len, List.length_map]; omega) | decide) : wr P d sw_c578 sw_h578 (59, [r0, vi x1], [], h, kc, ks) Q := by
  refine w_ld rfl rfl (Or.inr (Or.inr ⟨by decide, y1⟩)) ?_
  subst e_q2
  refine w_getf rfl g4 n6 ?_
  refine w_c32 rfl (by decide) 4 (by decide) ?_
  exact w_if2 rfl c7 (by decide) k1 k2

theorem k578_67 {P : s_P} {d : Nat} {Q : s_O → Prop} {h : s_H} {kc ks : Nat} {r0 : Term} {x1 : Int} {q2 : Nat} {f3 : List Term} {z5 : Int} (g4 : s_get h q2 = some (1, 11, f3)) (k1 : 2 ≤ z5 → wr P d sw_c578 sw_h578 (82, [.index q2, vi x1], [], h, kc, ks) Q) (k2 : ¬ 2 ≤ z5 → wr P d sw_c578 sw_h578 (75, [.index q2, vi x1], [], h, kc, ks) Q) (e_q2 : r0 = .index q2 := by first | rfl | assumption) (y1 : s_ty r0 = 3 := by first | rfl | assumption) (n6 : s_nth f3 72 = some (vi z5) := by first | rfl | assumption) (c7 : In3 z5 := by first | omega | assumption | (simp only [mk_len, List.length_map]; omega) | decide) : wr P d sw_c578 sw_h578 (67, [r0, vi x1], [], h, kc, ks) Q := by
  refine w_ld rfl rfl (Or.inr (Or.inr ⟨by decide, y1⟩)) ?_
  subst e_q2
  refine w_getf rfl g4 n6 ?_
  refine w_c32 rfl (by decide) 2 (by decide) ?_
  exact w_if2 rfl c7 (by decide) k1 k2

theorem k578_75 {P : s_P} {d : Nat} {Q : s_O → Prop} {h : s_H} {kc ks : Nat} {r0 : Term} {x1 : Int} {q2 : Nat} {f3 : List Term} (g4 : s_get h q2 = some (1, 11, f3)) (k : wm P d 574 [.index q2] h (wq P d sw_c578 sw_h578 79 [.index q2, vi x1] [] kc ks Q)) (e_q2 : r0 = .index q2 := by first | rfl | assumption) (y1 : s_ty r0 = 3 := by first | rfl | assumption)  : wr P d sw_c578 sw_h578 (75, [r0, vi x1], [], h, kc, ks) Q := by
  refine w_ld rfl rfl (Or.inr (Or.inr ⟨by decide, y1⟩)) ?_
  subst e_q2
  exact w_cv rfl [.index q2] [] rfl rfl (s_wt_4 rfl) rfl g4 k

theorem k578_79 {P : s_P} {d : Nat} {Q : s_O → Prop} {h : s_H} {kc ks : Nat} {r0 : Term} {x1 : Int}  (k : wr P d sw_c578 sw_h578 (44, [r0, vi x1], [], h, kc, ks) Q)   : wr P d sw_c578 sw_h578 (79, [r0, vi x1], [], h, kc, ks) Q := by
  refine w_goto rfl ?_
  exact k

theorem k578_82 {P : s_P} {d : Nat} {Q : s_O → Prop} {h : s_H} {kc ks : Nat} {r0 : Term} {x1 : Int} {q2 : Nat} {f3 : List Term} {z5 : Int} (g4 : s_get h q2 = some (1, 11, f3)) (k1 : z5 ≠ 2 → wr P d sw_c578 sw_h578 (110, [.index q2, vi x1], [], h, kc, ks) Q) (k2 : ¬ z5 ≠ 2 → wr P d sw_c578 sw_h578 (90, [.index q2, vi x1], [], h, kc, ks) Q) (e_q2 : r0 = .index q2 := by first | rfl | assumption) (y1 : s_ty r0 = 3 := by first | rfl | assumption) (n6 : s_nth f3 72 = some (vi z5) := by first | rfl | assumption) (c7 : In3 z5 := by first | omega | assumption | (simp only [mk_len, List.length_map]; omega) | decide) : wr P d sw_c578 sw_h578 (82, [r0, vi x1], [], h, kc, ks) Q := by
  refine w_ld rfl rfl (Or.inr (Or.inr ⟨by decide, y1⟩)) ?_
  subst e_q2
  refine w_getf rfl g4 n6 ?_
  refine w_c32 rfl (by decide) 2 (by decide) ?_
  exact w_if2 rfl c7 (by decide) k1 k2

theorem k578_90 {P : s_P} {d : Nat} {Q : s_O → Prop} {h : s_H} {kc ks : Nat} {r0 : Term} {x1 : Int} {q2 : Nat} {f3 : List Term} {z5 : Int} (g4 : s_get h q2 = some (1, 11, f3)) (k : wm P d 411 [.index q2, vi z5] h (wq P d sw_c578 sw_h578 98 [.index q2, vi x1] [] kc ks Q)) (e_q2 : r0 = .index q2 := by first | rfl | assumption) (y1 : s_ty r0 = 3 := by first | rfl | assumption) (n6 : s_nth f3 71 = some (vi z5) := by first | rfl | assumption)  : wr P d sw_c578 sw_h578 (90, [r0, vi x1], [], h, kc, ks) Q := by
  refine w_ld rfl rfl (Or.inr (Or.inr ⟨by decide, y1⟩)) ?_
  refine w_ld rfl rfl (Or.inr (Or.inr ⟨by decide, y1⟩)) ?_
  subst e_q2
  refine w_getf rfl g4 n6 ?_
  exact w_cv rfl [.index q2, vi z5] [] rfl rfl (s_wt_4 rfl) rfl g4 k

theorem k578_98 {P : s_P} {d : Nat} {Q : s_O → Prop} {h : s_H} {kc ks : Nat} {r0 : Term} {x1 s0 : Int}  (k1 : s0 ≠ 94 → wr P d sw_c578 sw_h578 (110, [r0, vi x1], [], h, kc, ks) Q) (k2 : ¬ s0 ≠ 94 → wr P d sw_c578 sw_h578 (103, [r0, vi x1], [], h, kc, ks) Q)  (c1 : In3 s0 := by first | omega | assumption | (simp only [mk_len, List.length_map]; omega) | decide) : wr P d sw_c578 sw_h578 (98, [r0, vi x1], [vi s0], h, kc, ks) Q := by
  refine w_c32 rfl (by decide) 94 (by decide) ?_
  exact w_if2 rfl c1 (by decide) k1 k2

theorem k578_103 {P : s_P} {d : Nat} {Q : s_O → Prop} {h : s_H} {kc ks : Nat} {r0 : Term} {x1 : Int} {q2 : Nat} {f3 : List Term} (g4 : s_get h q2 = some (1, 11, f3)) (k : wm P d 577 [.index q2] h (wq P d sw_c578 sw_h578 107 [.index q2, vi x1] [] kc ks Q)) (e_q2 : r0 = .index q2 := by first | rfl | assumption) (y1 : s_ty r0 = 3 := by first | rfl | assumption)  : wr P d sw_c578 sw_h578 (103, [r0, vi x1], [], h, kc, ks) Q := by
  refine w_ld rfl rfl (Or.inr (Or.inr ⟨by decide, y1⟩)) ?_
  subst e_q2
  exact w_cv rfl [.index q2] [] rfl rfl (s_wt_4 rfl) rfl g4 k

theorem k578_107 {P : s_P} {d : Nat} {Q : s_O → Prop} {h : s_H} {kc ks : Nat} {r0 : Term} {x1 : Int}  (k : wr P d sw_c578 sw_h578 (44, [r0, vi x1], [], h, kc, ks) Q)   : wr P d sw_c578 sw_h578 (107, [r0, vi x1], [], h, kc, ks) Q := by
  refine w_goto rfl ?_
  exact k

theorem k578_110 {P : s_P} {d : Nat} {Q : s_O → Prop} {h : s_H} {kc ks : Nat} {r0 : Term} {x1 : Int} {q2 : Nat} {f3 : List Term} (g4 : s_get h q2 = some (1, 11, f3)) (k : wm P d 458 [.index q2] h (wq P d sw_c578 sw_h578 114 [.index q2, vi x1] [] kc ks Q)) (e_q2 : r0 = .index q2 := by first | rfl | assumption) (y1 : s_ty r0 = 3 := by first | rfl | assumption)  : wr P d sw_c578 sw_h578 (110, [r0, vi x1], [], h, kc, ks) Q := by
  refine w_ld rfl rfl (Or.inr (Or.inr ⟨by decide, y1⟩)) ?_
  subst e_q2
  exact w_cv rfl [.index q2] [] rfl rfl (s_wt_4 rfl) rfl g4 k

theorem k578_114 {P : s_P} {d : Nat} {Q : s_O → Prop} {h : s_H} {kc ks : Nat} {r0 : Term} {x1 : Int}  (k : wr P d sw_c578 sw_h578 (44, [r0, vi x1], [], h, kc, ks) Q)   : wr P d sw_c578 sw_h578 (114, [r0, vi x1], [], h, kc, ks) Q := by
  refine w_goto rfl ?_
  exact k

theorem k578_117 {P : s_P} {d : Nat} {Q : s_O → Prop} {h : s_H} {kc ks : Nat} {r0 : Term} {x1 : Int}  (k : Q (.inl none, h, kc, ks))   : wr P d sw_c578 sw_h578 (117, [r0, vi x1], [], h, kc, ks) Q := by
  exact w_ret rfl k

/-! 579: FormulaWorksModel.readText(I)Z -/
theorem k579_0 {P : s_P} {d : Nat} {Q : s_O → Prop} {h : s_H} {kc ks : Nat} {r0 : Term} {x1 : Int} {q2 : Nat} {f3 : List Term} (g4 : s_get h q2 = some (1, 11, f3)) (k : wm P d 604 [.index q2] h (wq P d sw_c579 sw_h579 4 [.index q2, vi x1] [] kc ks Q)) (e_q2 : r0 = .index q2 := by first | rfl | assumption) (y1 : s_ty r0 = 3 := by first | rfl | assumption)  : wr P d sw_c579 sw_h579 (0, [r0, vi x1], [], h, kc, ks) Q := by
  refine w_ld rfl rfl (Or.inr (Or.inr ⟨by decide, y1⟩)) ?_
  subst e_q2
  exact w_cv rfl [.index q2] [] rfl rfl (s_wt_4 rfl) rfl g4 k

theorem k579_4 {P : s_P} {d : Nat} {Q : s_O → Prop} {h : s_H} {kc ks : Nat} {r0 : Term} {x1 : Int} {q2 : Nat} {f3 : List Term} (g4 : s_get h q2 = some (1, 11, f3)) (k : wm P d 578 [.index q2, vi x1] h (wq P d sw_c579 sw_h579 9 [.index q2, vi x1] [] kc ks Q)) (e_q2 : r0 = .index q2 := by first | rfl | assumption) (y1 : s_ty r0 = 3 := by first | rfl | assumption)  : wr P d sw_c579 sw_h579 (4, [r0, vi x1], [], h, kc, ks) Q := by
  refine w_ld rfl rfl (Or.inr (Or.inr ⟨by decide, y1⟩)) ?_
  refine w_ld rfl rfl (Or.inl ⟨by decide, rfl⟩) ?_
  subst e_q2
  exact w_cv rfl [.index q2, vi x1] [] rfl rfl (s_wt_4 rfl) rfl g4 k

theorem k579_9 {P : s_P} {d : Nat} {Q : s_O → Prop} {h : s_H} {kc ks : Nat} {r0 : Term} {x1 : Int} {q2 : Nat} {f3 f7 : List Term} {z9 : Int} {f12 : List Term} {z14 : Int} {f17 : List Term} {z19 : Int} (g4 : s_get h q2 = some (1, 11, f3)) (g8 : s_get (hp h q2 (1, 11, f3.set 50 (vi 0))) q2 = some (1, 11, f7)) (g13 : s_get (hp (hp h q2 (1, 11, f3.set 50 (vi 0))) q2 (1, 11, f7.set 57 (vi z9))) q2 = some (1, 11, f12)) (g18 : s_get (hp (hp (hp h q2 (1, 11, f3.set 50 (vi 0))) q2 (1, 11, f7.set 57 (vi z9))) q2 (1, 11, f12.set 58 (vi z14))) q2 = some (1, 11, f17)) (k1 : z19 ≠ 0 → wr P d sw_c579 sw_h579 (41, [.index q2, vi x1], [], (hp (hp (hp h q2 (1, 11, f3.set 50 (vi 0))) q2 (1, 11, f7.set 57 (vi z9))) q2 (1, 11, f12.set 58 (vi z14))), kc, ks) Q) (k2 : ¬ z19 ≠ 0 → wr P d sw_c579 sw_h579 (37, [.index q2, vi x1], [], (hp (hp (hp h q2 (1, 11, f3.set 50 (vi 0))) q2 (1, 11, f7.set 57 (vi z9))) q2 (1, 11, f12.set 58 (vi z14))), kc, ks) Q) (e_q2 : r0 = .index q2 := by first | rfl | assumption) (y1 : s_ty r0 = 3 := by first | rfl | assumption) (l5 : 50 < f3.length := by first | exact Nat.le_of_ble_eq_true rfl | omega | assumption) (n10 : s_nth f7 55 = some (vi z9) := by first | rfl | assumption) (l11 : 57 < f7.length := by first | exact Nat.le_of_ble_eq_true rfl | omega | assumption) (n15 : s_nth f12 56 = some (vi z14) := by first | rfl | assumption) (l16 : 58 < f12.length := by first | exact Nat.le_of_ble_eq_true rfl | omega | assumption) (n20 : s_nth f17 55 = some (vi z19) := by first | rfl | assumption) (c6 : 0 < q2 := by first | omega | assumption | (simp only [mk_len, List.length_map]; omega) | decide) (c21 : In3 z19 := by first | omega | assumption | (simp only [mk_len, List.length_map]; omega) | decide) : wr P d sw_c579 sw_h579 (9, [r0, vi x1], [], h, kc, ks) Q := by
  refine w_ld rfl rfl (Or.inr (Or.inr ⟨by decide, y1⟩)) ?_
  refine w_c32 rfl (by decide) 0 (by decide) ?_
  subst e_q2
  refine w_putf rfl g4 (Nat.ble_eq_true_of_le c6) rfl (Nat.ble_eq_true_of_le l5) ?_
  refine w_ld rfl rfl (Or.inr (Or.inr ⟨by decide, rfl⟩)) ?_
  refine w_ld rfl rfl (Or.inr (Or.inr ⟨by decide, rfl⟩)) ?_
  refine w_getf rfl g8 n10 ?_
  refine w_putf rfl g8 (Nat.ble_eq_true_of_le c6) rfl (Nat.ble_eq_true_of_le l11) ?_
  refine w_ld rfl rfl (Or.inr (Or.inr ⟨by decide, rfl⟩)) ?_
  refine w_ld rfl rfl (Or.inr (Or.inr ⟨by decide, rfl⟩)) ?_
  refine w_getf rfl g13 n15 ?_
  refine w_putf rfl g13 (Nat.ble_eq_true_of_le c6) rfl (Nat.ble_eq_true_of_le l16) ?_
  refine w_ld rfl rfl (Or.inr (Or.inr ⟨by decide, rfl⟩)) ?_
  refine w_getf rfl g18 n20 ?_
  exact w_if1 rfl c21 k1 k2

theorem k579_37 {P : s_P} {d : Nat} {Q : s_O → Prop} {h : s_H} {kc ks : Nat} {r0 : Term} {x1 : Int}  (k : wr P d sw_c579 sw_h579 (42, [r0, vi x1], [vi 1], h, kc, ks) Q)   : wr P d sw_c579 sw_h579 (37, [r0, vi x1], [], h, kc, ks) Q := by
  refine w_c32 rfl (by decide) 1 (by decide) ?_
  refine w_goto rfl ?_
  exact k

theorem k579_41 {P : s_P} {d : Nat} {Q : s_O → Prop} {h : s_H} {kc ks : Nat} {r0 : Term} {x1 : Int}  (k : wr P d sw_c579 sw_h579 (42, [r0, vi x1], [vi 0], h, kc, ks) Q)   : wr P d sw_c579 sw_h579 (41, [r0, vi x1], [], h, kc, ks) Q := by
  refine w_c32 rfl (by decide) 0 (by decide) ?_
  exact k

theorem k579_42 {P : s_P} {d : Nat} {Q : s_O → Prop} {h : s_H} {kc ks : Nat} {r0 : Term} {x1 s0 : Int}  (k : Q (.inl (some (vi s0)), h, kc, ks))  (c1 : s0 = 0 ∨ s0 = 1 := by first | omega | assumption | (simp only [mk_len, List.length_map]; omega) | decide) : wr P d sw_c579 sw_h579 (42, [r0, vi x1], [vi s0], h, kc, ks) Q := by
  exact w_zret rfl c1 k

/-! 580: FormulaWorksModel.recur(I)I -/
theorem k580_0 {P : s_P} {d : Nat} {Q : s_O → Prop} {h : s_H} {kc ks : Nat} {r0 : Term} {x1 : Int} {t2 t3 t4 t5 t6 t7 : Term} {q2 : Nat} {f3 : List Term} (g4 : s_get h q2 = some (1, 11, f3)) (k : wm P d 492 [.index q2, vi x1] h (wq P d sw_c580 sw_h580 6 [.index q2, vi x1, t2, t3, t4, t5, t6, t7] [.index q2] kc ks Q)) (e_q2 : r0 = .index q2 := by first | rfl | assumption) (y1 : s_ty r0 = 3 := by first | rfl | assumption)  : wr P d sw_c580 sw_h580 (0, [r0, vi x1, t2, t3, t4, t5, t6, t7], [], h, kc, ks) Q := by
  refine w_ld rfl rfl (Or.inr (Or.inr ⟨by decide, y1⟩)) ?_
  refine w_ld rfl rfl (Or.inr (Or.inr ⟨by decide, y1⟩)) ?_
  refine w_ld rfl rfl (Or.inl ⟨by decide, rfl⟩) ?_
  subst e_q2
  exact w_cv rfl [.index q2, vi x1] [.index q2] rfl rfl (s_wt_4 rfl) rfl g4 k

theorem k580_6 {P : s_P} {d : Nat} {Q : s_O → Prop} {h : s_H} {kc ks : Nat} {r0 : Term} {x1 : Int} {t2 t3 t4 t5 t6 t7 s0 : Term} {s1 : Int}  (k1 : s1 ≠ 0 → wr P d sw_c580 sw_h580 (13, [r0, vi x1, t2, t3, t4, t5, t6, t7], [s0], h, kc, ks) Q) (k2 : ¬ s1 ≠ 0 → wr P d sw_c580 sw_h580 (9, [r0, vi x1, t2, t3, t4, t5, t6, t7], [s0], h, kc, ks) Q)  (c1 : In3 s1 := by first | omega | assumption | (simp only [mk_len, List.length_map]; omega) | decide) : wr P d sw_c580 sw_h580 (6, [r0, vi x1, t2, t3, t4, t5, t6, t7], [vi s1, s0], h, kc, ks) Q := by
  exact w_if1 rfl c1 k1 k2

theorem k580_9 {P : s_P} {d : Nat} {Q : s_O → Prop} {h : s_H} {kc ks : Nat} {r0 : Term} {x1 : Int} {t2 t3 t4 t5 t6 t7 s0 : Term}  (k : wr P d sw_c580 sw_h580 (40, [r0, vi x1, t2, t3, t4, t5, t6, t7], [vi 1, s0], h, kc, ks) Q)   : wr P d sw_c580 sw_h580 (9, [r0, vi x1, t2, t3, t4, t5, t6, t7], [s0], h, kc, ks) Q := by
  refine w_c32 rfl (by decide) 1 (by decide) ?_
  refine w_goto rfl ?_
  exact k

theorem k580_13 {P : s_P} {d : Nat} {Q : s_O → Prop} {h : s_H} {kc ks : Nat} {r0 : Term} {x1 : Int} {t2 t3 t4 t5 t6 t7 s0 : Term} {q2 : Nat} {f3 : List Term} (g4 : s_get h q2 = some (1, 11, f3)) (k : wm P d 486 [.index q2, vi x1] h (wq P d sw_c580 sw_h580 18 [.index q2, vi x1, t2, t3, t4, t5, t6, t7] [s0] kc ks Q)) (e_q2 : r0 = .index q2 := by first | rfl | assumption) (y1 : s_ty r0 = 3 := by first | rfl | assumption)  : wr P d sw_c580 sw_h580 (13, [r0, vi x1, t2, t3, t4, t5, t6, t7], [s0], h, kc, ks) Q := by
  refine w_ld rfl rfl (Or.inr (Or.inr ⟨by decide, y1⟩)) ?_
  refine w_ld rfl rfl (Or.inl ⟨by decide, rfl⟩) ?_
  subst e_q2
  exact w_cv rfl [.index q2, vi x1] [s0] rfl rfl (s_wt_4 rfl) rfl g4 k

theorem k580_18 {P : s_P} {d : Nat} {Q : s_O → Prop} {h : s_H} {kc ks : Nat} {r0 : Term} {x1 : Int} {t2 t3 t4 t5 t6 t7 s0 : Term} {s1 : Int}  (k1 : s1 ≠ 0 → wr P d sw_c580 sw_h580 (25, [r0, vi x1, t2, t3, t4, t5, t6, t7], [s0], h, kc, ks) Q) (k2 : ¬ s1 ≠ 0 → wr P d sw_c580 sw_h580 (21, [r0, vi x1, t2, t3, t4, t5, t6, t7], [s0], h, kc, ks) Q)  (c1 : In3 s1 := by first | omega | assumption | (simp only [mk_len, List.length_map]; omega) | decide) : wr P d sw_c580 sw_h580 (18, [r0, vi x1, t2, t3, t4, t5, t6, t7], [vi s1, s0], h, kc, ks) Q := by
  exact w_if1 rfl c1 k1 k2

theorem k580_21 {P : s_P} {d : Nat} {Q : s_O → Prop} {h : s_H} {kc ks : Nat} {r0 : Term} {x1 : Int} {t2 t3 t4 t5 t6 t7 s0 : Term}  (k : wr P d sw_c580 sw_h580 (40, [r0, vi x1, t2, t3, t4, t5, t6, t7], [vi 2, s0], h, kc, ks) Q)   : wr P d sw_c580 sw_h580 (21, [r0, vi x1, t2, t3, t4, t5, t6, t7], [s0], h, kc, ks) Q := by
  refine w_c32 rfl (by decide) 2 (by decide) ?_
  refine w_goto rfl ?_
  exact k

theorem k580_25 {P : s_P} {d : Nat} {Q : s_O → Prop} {h : s_H} {kc ks : Nat} {r0 : Term} {x1 : Int} {t2 t3 t4 t5 t6 t7 s0 : Term} {q2 : Nat} {f3 : List Term} {z5 : Int} (g4 : s_get h q2 = some (1, 11, f3)) (k1 : z5 ≠ 150 → wr P d sw_c580 sw_h580 (39, [.index q2, vi x1, t2, t3, t4, t5, t6, t7], [s0], h, kc, ks) Q) (k2 : ¬ z5 ≠ 150 → wr P d sw_c580 sw_h580 (35, [.index q2, vi x1, t2, t3, t4, t5, t6, t7], [s0], h, kc, ks) Q) (e_q2 : r0 = .index q2 := by first | rfl | assumption) (y1 : s_ty r0 = 3 := by first | rfl | assumption) (n6 : s_nth f3 1 = some (vi z5) := by first | rfl | assumption) (c7 : In3 z5 := by first | omega | assumption | (simp only [mk_len, List.length_map]; omega) | decide) : wr P d sw_c580 sw_h580 (25, [r0, vi x1, t2, t3, t4, t5, t6, t7], [s0], h, kc, ks) Q := by
  refine w_ld rfl rfl (Or.inr (Or.inr ⟨by decide, y1⟩)) ?_
  subst e_q2
  refine w_getf rfl g4 n6 ?_
  refine w_c32 rfl (by decide) 150 (by decide) ?_
  exact w_if2 rfl c7 (by decide) k1 k2

theorem k580_35 {P : s_P} {d : Nat} {Q : s_O → Prop} {h : s_H} {kc ks : Nat} {r0 : Term} {x1 : Int} {t2 t3 t4 t5 t6 t7 s0 : Term}  (k : wr P d sw_c580 sw_h580 (40, [r0, vi x1, t2, t3, t4, t5, t6, t7], [vi 3, s0], h, kc, ks) Q)   : wr P d sw_c580 sw_h580 (35, [r0, vi x1, t2, t3, t4, t5, t6, t7], [s0], h, kc, ks) Q := by
  refine w_c32 rfl (by decide) 3 (by decide) ?_
  refine w_goto rfl ?_
  exact k

theorem k580_39 {P : s_P} {d : Nat} {Q : s_O → Prop} {h : s_H} {kc ks : Nat} {r0 : Term} {x1 : Int} {t2 t3 t4 t5 t6 t7 s0 : Term}  (k : wr P d sw_c580 sw_h580 (40, [r0, vi x1, t2, t3, t4, t5, t6, t7], [vi 0, s0], h, kc, ks) Q)   : wr P d sw_c580 sw_h580 (39, [r0, vi x1, t2, t3, t4, t5, t6, t7], [s0], h, kc, ks) Q := by
  refine w_c32 rfl (by decide) 0 (by decide) ?_
  exact k

theorem k580_40 {P : s_P} {d : Nat} {Q : s_O → Prop} {h : s_H} {kc ks : Nat} {r0 : Term} {x1 : Int} {t2 t3 t4 t5 t6 t7 s0 : Term} {s1 : Int} {q1 : Nat} {f2 : List Term} {q7 : Nat} {f8 : List Term} {z10 : Int} (g3 : s_get h q1 = some (1, 11, f2)) (g9 : s_get (hp h q1 (1, 11, f2.set 0 (vi s1))) q7 = some (1, 11, f8)) (k1 : z10 ≤ 0 → wr P d sw_c580 sw_h580 (52, [.index q7, vi x1, t2, t3, t4, t5, t6, t7], [], (hp h q1 (1, 11, f2.set 0 (vi s1))), kc, ks) Q) (k2 : ¬ z10 ≤ 0 → wr P d sw_c580 sw_h580 (50, [.index q7, vi x1, t2, t3, t4, t5, t6, t7], [], (hp h q1 (1, 11, f2.set 0 (vi s1))), kc, ks) Q) (e_q1 : s0 = .index q1 := by first | rfl | assumption) (e_q7 : r0 = .index q7 := by first | rfl | assumption) (l4 : 0 < f2.length := by first | exact Nat.le_of_ble_eq_true rfl | omega | assumption) (y6 : s_ty r0 = 3 := by first | rfl | assumption) (n11 : s_nth f8 0 = some (vi z10) := by first | rfl | assumption) (c5 : 0 < q1 := by first | omega | assumption | (simp only [mk_len, List.length_map]; omega) | decide) (c12 : In3 z10 := by first | omega | assumption | (simp only [mk_len, List.length_map]; omega) | decide) : wr P d sw_c580 sw_h580 (40, [r0, vi x1, t2, t3, t4, t5, t6, t7], [vi s1, s0], h, kc, ks) Q := by
  subst e_q1
  refine w_putf rfl g3 (Nat.ble_eq_true_of_le c5) rfl (Nat.ble_eq_true_of_le l4) ?_
  refine w_ld rfl rfl (Or.inr (Or.inr ⟨by decide, y6⟩)) ?_
  subst e_q7
  refine w_getf rfl g9 n11 ?_
  exact w_if1 rfl c12 k1 k2

theorem k580_50 {P : s_P} {d : Nat} {Q : s_O → Prop} {h : s_H} {kc ks : Nat} {r0 : Term} {x1 : Int} {t2 t3 t4 t5 t6 t7 : Term}  (k : Q (.inl (some (vi 0)), h, kc, ks))   : wr P d sw_c580 sw_h580 (50, [r0, vi x1, t2, t3, t4, t5, t6, t7], [], h, kc, ks) Q := by
  refine w_c32 rfl (by decide) 0 (by decide) ?_
  exact w_iret rfl k

theorem k580_52 {P : s_P} {d : Nat} {Q : s_O → Prop} {h : s_H} {kc ks : Nat} {r0 : Term} {x1 : Int} {t2 t3 t4 t5 t6 t7 : Term}  (k : wr P d sw_c580 sw_h580 (61, [r0, vi x1, vi 9, vi (-20), vi 0, t5, t6, t7], [], h, kc, ks) Q)   : wr P d sw_c580 sw_h580 (52, [r0, vi x1, t2, t3, t4, t5, t6, t7], [], h, kc, ks) Q := by
  refine w_c32 rfl (by decide) 9 (by decide) ?_
  refine w_st (ls' := [r0, vi x1, vi 9, t3, t4, t5, t6, t7]) rfl (Or.inl ⟨by decide, rfl⟩) rfl ?_
  refine w_c32 rfl (by decide) (-20) (by decide) ?_
  refine w_st (ls' := [r0, vi x1, vi 9, vi (-20), t4, t5, t6, t7]) rfl (Or.inl ⟨by decide, rfl⟩) rfl ?_
  refine w_c32 rfl (by decide) 0 (by decide) ?_
  refine w_st (ls' := [r0, vi x1, vi 9, vi (-20), vi 0, t5, t6, t7]) rfl (Or.inl ⟨by decide, rfl⟩) rfl ?_
  exact k

theorem k580_61 {P : s_P} {d : Nat} {Q : s_O → Prop} {h : s_H} {kc ks : Nat} {r0 : Term} {x1 x2 x3 x4 : Int} {t5 t6 t7 : Term} {q2 : Nat} {f3 : List Term} {v5 : Term} {q7 : Nat} {a8 : List Int} (g4 : s_get h q2 = some (1, 11, f3)) (g9 : s_get h q7 = some (0, 0, a8.map vi)) (k1 : gi a8 x1 ≤ x4 → wr P d sw_c580 sw_h580 (159, [.index q2, vi x1, vi x2, vi x3, vi x4, t5, t6, t7], [], h, kc, ks) Q) (k2 : ¬ gi a8 x1 ≤ x4 → wr P d sw_c580 sw_h580 (72, [.index q2, vi x1, vi x2, vi x3, vi x4, t5, t6, t7], [], h, kc, ks) Q) (e_q2 : r0 = .index q2 := by first | rfl | assumption) (e_q7 : v5 = .index q7 := by first | rfl | assumption) (y1 : s_ty r0 = 3 := by first | rfl | assumption) (n6 : s_nth f3 6 = some v5 := by first | rfl | assumption) (c10 : x1 < a8.length := by first | omega | assumption | (simp only [mk_len, List.length_map]; omega) | decide) (c11 : 0 ≤ x1 := by first | omega | assumption | (simp only [mk_len, List.length_map]; omega) | decide) (c12 : In3 x1 := by first | omega | assumption | (simp only [mk_len, List.length_map]; omega) | decide) (c13 : In3 x4 := by first | omega | assumption | (simp only [mk_len, List.length_map]; omega) | decide) (c14 : In3 (gi a8 x1) := by first | omega | assumption | (simp only [mk_len, List.length_map]; omega) | decide) : wr P d sw_c580 sw_h580 (61, [r0, vi x1, vi x2, vi x3, vi x4, t5, t6, t7], [], h, kc, ks) Q := by
  refine w_ld rfl rfl (Or.inl ⟨by decide, rfl⟩) ?_
  refine w_ld rfl rfl (Or.inr (Or.inr ⟨by decide, y1⟩)) ?_
  subst e_q2
  refine w_getf rfl g4 n6 ?_
  refine w_ld rfl rfl (Or.inl ⟨by decide, rfl⟩) ?_
  subst e_q7
  refine w_iald rfl g9 (Or.inl rfl) c12 c11 c10 ?_
  exact w_if2 rfl c13 c14 k1 k2

theorem k580_72 {P : s_P} {d : Nat} {Q : s_O → Prop} {h : s_H} {kc ks : Nat} {r0 : Term} {x1 x2 x3 x4 : Int} {t5 t6 t7 : Term} {q2 : Nat} {f3 : List Term} {v5 : Term} (g4 : s_get h q2 = some (1, 11, f3)) (k : wm P d 508 [.index q2, v5, vi x1, vi 0, vi x4] h (wq P d sw_c580 sw_h580 84 [.index q2, vi x1, vi x2, vi x3, vi x4, t5, t6, t7] [] kc ks Q)) (e_q2 : r0 = .index q2 := by first | rfl | assumption) (y1 : s_ty r0 = 3 := by first | rfl | assumption) (n6 : s_nth f3 20 = some v5 := by first | rfl | assumption)  : wr P d sw_c580 sw_h580 (72, [r0, vi x1, vi x2, vi x3, vi x4, t5, t6, t7], [], h, kc, ks) Q := by
  refine w_ld rfl rfl (Or.inr (Or.inr ⟨by decide, y1⟩)) ?_
  refine w_ld rfl rfl (Or.inr (Or.inr ⟨by decide, y1⟩)) ?_
  subst e_q2
  refine w_getf rfl g4 n6 ?_
  refine w_ld rfl rfl (Or.inl ⟨by decide, rfl⟩) ?_
  refine w_c32 rfl (by decide) 0 (by decide) ?_
  refine w_ld rfl rfl (Or.inl ⟨by decide, rfl⟩) ?_
  exact w_cv rfl [.index q2, v5, vi x1, vi 0, vi x4] [] rfl rfl (s_wt_4 rfl) rfl g4 k

theorem k580_84 {P : s_P} {d : Nat} {Q : s_O → Prop} {h : s_H} {kc ks : Nat} {r0 : Term} {x1 x2 x3 x4 : Int} {t5 t6 t7 : Term}  (k : wr P d sw_c580 sw_h580 (87, [r0, vi x1, vi x2, vi x3, vi x4, vi 0, t6, t7], [], h, kc, ks) Q)   : wr P d sw_c580 sw_h580 (84, [r0, vi x1, vi x2, vi x3, vi x4, t5, t6, t7], [], h, kc, ks) Q := by
  refine w_c32 rfl (by decide) 0 (by decide) ?_
  refine w_st (ls' := [r0, vi x1, vi x2, vi x3, vi x4, vi 0, t6, t7]) rfl (Or.inl ⟨by decide, rfl⟩) rfl ?_
  exact k

theorem k580_87 {P : s_P} {d : Nat} {Q : s_O → Prop} {h : s_H} {kc ks : Nat} {r0 : Term} {x1 x2 x3 x4 x5 : Int} {t6 t7 : Term}  (k1 : 10 < x5 → wr P d sw_c580 sw_h580 (153, [r0, vi x1, vi x2, vi x3, vi x4, vi x5, t6, t7], [], h, kc, ks) Q) (k2 : ¬ 10 < x5 → wr P d sw_c580 sw_h580 (94, [r0, vi x1, vi x2, vi x3, vi x4, vi x5, t6, t7], [], h, kc, ks) Q)  (c1 : In3 x5 := by first | omega | assumption | (simp only [mk_len, List.length_map]; omega) | decide) : wr P d sw_c580 sw_h580 (87, [r0, vi x1, vi x2, vi x3, vi x4, vi x5, t6, t7], [], h, kc, ks) Q := by
  refine w_ld rfl rfl (Or.inl ⟨by decide, rfl⟩) ?_
  refine w_c32 rfl (by decide) 10 (by decide) ?_
  exact w_if2 rfl c1 (by decide) k1 k2

theorem k580_94 {P : s_P} {d : Nat} {Q : s_O → Prop} {h : s_H} {kc ks : Nat} {r0 : Term} {x1 x2 x3 x4 x5 : Int} {t6 t7 : Term} {q2 : Nat} {f3 : List Term} {v5 : Term} {q7 : Nat} {a8 : List Int} (g4 : s_get h q2 = some (1, 11, f3)) (g9 : s_get h q7 = some (0, 1, a8.map vl)) (k1 : gi a8 x5 ≠ 0 → wr P d sw_c580 sw_h580 (109, [.index q2, vi x1, vi x2, vi x3, vi x4, vi x5, t6, t7], [], h, kc, ks) Q) (k2 : ¬ gi a8 x5 ≠ 0 → wr P d sw_c580 sw_h580 (106, [.index q2, vi x1, vi x2, vi x3, vi x4, vi x5, t6, t7], [], h, kc, ks) Q) (e_q2 : r0 = .index q2 := by first | rfl | assumption) (e_q7 : v5 = .index q7 := by first | rfl | assumption) (y1 : s_ty r0 = 3 := by first | rfl | assumption) (n6 : s_nth f3 20 = some v5 := by first | rfl | assumption) (c10 : x5 < a8.length := by first | omega | assumption | (simp only [mk_len, List.length_map]; omega) | decide) (c11 : 0 ≤ x5 := by first | omega | assumption | (simp only [mk_len, List.length_map]; omega) | decide) (c12 : In3 x5 := by first | omega | assumption | (simp only [mk_len, List.length_map]; omega) | decide) (c13 : In6 (gi a8 x5) := by first | omega | assumption | (simp only [mk_len, List.length_map]; omega) | decide) : wr P d sw_c580 sw_h580 (94, [r0, vi x1, vi x2, vi x3, vi x4, vi x5, t6, t7], [], h, kc, ks) Q := by
  refine w_ld rfl rfl (Or.inr (Or.inr ⟨by decide, y1⟩)) ?_
  subst e_q2
  refine w_getf rfl g4 n6 ?_
  refine w_ld rfl rfl (Or.inl ⟨by decide, rfl⟩) ?_
  subst e_q7
  refine w_lald rfl g9 c12 c11 c10 ?_
  refine w_c64 rfl (by decide) 0 (by decide) ?_
  exact w_lcmp rfl rfl c13 (by decide) k1 k2

theorem k580_106 {P : s_P} {d : Nat} {Q : s_O → Prop} {h : s_H} {kc ks : Nat} {r0 : Term} {x1 x2 x3 x4 x5 : Int} {t6 t7 : Term}  (k : wr P d sw_c580 sw_h580 (147, [r0, vi x1, vi x2, vi x3, vi x4, vi x5, t6, t7], [], h, kc, ks) Q)   : wr P d sw_c580 sw_h580 (106, [r0, vi x1, vi x2, vi x3, vi x4, vi x5, t6, t7], [], h, kc, ks) Q := by
  refine w_goto rfl ?_
  exact k

theorem k580_109 {P : s_P} {d : Nat} {Q : s_O → Prop} {h : s_H} {kc ks : Nat} {r0 : Term} {x1 x2 x3 x4 x5 : Int} {t6 t7 : Term}  (k1 : x2 ≤ x4 - x5 → wr P d sw_c580 sw_h580 (126, [r0, vi x1, vi x2, vi x3, vi x4, vi x5, t6, t7], [], h, kc, ks) Q) (k2 : ¬ x2 ≤ x4 - x5 → wr P d sw_c580 sw_h580 (118, [r0, vi x1, vi x2, vi x3, vi x4, vi x5, t6, t7], [], h, kc, ks) Q)  (c1 : In3 (x4 - x5) := by first | omega | assumption | (simp only [mk_len, List.length_map]; omega) | decide) (c2 : In3 x2 := by first | omega | assumption | (simp only [mk_len, List.length_map]; omega) | decide) : wr P d sw_c580 sw_h580 (109, [r0, vi x1, vi x2, vi x3, vi x4, vi x5, t6, t7], [], h, kc, ks) Q := by
  refine w_ld rfl rfl (Or.inl ⟨by decide, rfl⟩) ?_
  refine w_ld rfl rfl (Or.inl ⟨by decide, rfl⟩) ?_
  refine w_isub rfl ?_
  refine w_ld rfl rfl (Or.inl ⟨by decide, rfl⟩) ?_
  exact w_if2 rfl c1 c2 k1 k2

theorem k580_118 {P : s_P} {d : Nat} {Q : s_O → Prop} {h : s_H} {kc ks : Nat} {r0 : Term} {x1 x2 x3 x4 x5 : Int} {t6 t7 : Term}  (k : wr P d sw_c580 sw_h580 (127, [r0, vi x1, vi x2, vi x3, vi x4, vi x5, t6, t7], [vi (x4 - x5)], h, kc, ks) Q)   : wr P d sw_c580 sw_h580 (118, [r0, vi x1, vi x2, vi x3, vi x4, vi x5, t6, t7], [], h, kc, ks) Q := by
  refine w_ld rfl rfl (Or.inl ⟨by decide, rfl⟩) ?_
  refine w_ld rfl rfl (Or.inl ⟨by decide, rfl⟩) ?_
  refine w_isub rfl ?_
  refine w_goto rfl ?_
  exact k

theorem k580_126 {P : s_P} {d : Nat} {Q : s_O → Prop} {h : s_H} {kc ks : Nat} {r0 : Term} {x1 x2 x3 x4 x5 : Int} {t6 t7 : Term}  (k : wr P d sw_c580 sw_h580 (127, [r0, vi x1, vi x2, vi x3, vi x4, vi x5, t6, t7], [vi x2], h, kc, ks) Q)   : wr P d sw_c580 sw_h580 (126, [r0, vi x1, vi x2, vi x3, vi x4, vi x5, t6, t7], [], h, kc, ks) Q := by
  refine w_ld rfl rfl (Or.inl ⟨by decide, rfl⟩) ?_
  exact k

theorem k580_127 {P : s_P} {d : Nat} {Q : s_O → Prop} {h : s_H} {kc ks : Nat} {r0 : Term} {x1 x2 x3 x4 x5 : Int} {t6 t7 : Term} {s0 : Int}  (k1 : x4 - x5 ≤ x3 → wr P d sw_c580 sw_h580 (145, [r0, vi x1, vi s0, vi x3, vi x4, vi x5, t6, t7], [], h, kc, ks) Q) (k2 : ¬ x4 - x5 ≤ x3 → wr P d sw_c580 sw_h580 (137, [r0, vi x1, vi s0, vi x3, vi x4, vi x5, t6, t7], [], h, kc, ks) Q)  (c1 : In3 (x4 - x5) := by first | omega | assumption | (simp only [mk_len, List.length_map]; omega) | decide) (c2 : In3 x3 := by first | omega | assumption | (simp only [mk_len, List.length_map]; omega) | decide) : wr P d sw_c580 sw_h580 (127, [r0, vi x1, vi x2, vi x3, vi x4, vi x5, t6, t7], [vi s0], h, kc, ks) Q := by
  refine w_st (ls' := [r0, vi x1, vi s0, vi x3, vi x4, vi x5, t6, t7]) rfl (Or.inl ⟨by decide, rfl⟩) rfl ?_
  refine w_ld rfl rfl (Or.inl ⟨by decide, rfl⟩) ?_
  refine w_ld rfl rfl (Or.inl ⟨by decide, rfl⟩) ?_
  refine w_isub rfl ?_
  refine w_ld rfl rfl (Or.inl ⟨by decide, rfl⟩) ?_
  exact w_if2 rfl c1 c2 k1 k2

theorem k580_137 {P : s_P} {d : Nat} {Q : s_O → Prop} {h : s_H} {kc ks : Nat} {r0 : Term} {x1 x2 x3 x4 x5 : Int} {t6 t7 : Term}  (k : wr P d sw_c580 sw_h580 (146, [r0, vi x1, vi x2, vi x3, vi x4, vi x5, t6, t7], [vi (x4 - x5)], h, kc, ks) Q)   : wr P d sw_c580 sw_h580 (137, [r0, vi x1, vi x2, vi x3, vi x4, vi x5, t6, t7], [], h, kc, ks) Q := by
  refine w_ld rfl rfl (Or.inl ⟨by decide, rfl⟩) ?_
  refine w_ld rfl rfl (Or.inl ⟨by decide, rfl⟩) ?_
  refine w_isub rfl ?_
  refine w_goto rfl ?_
  exact k

theorem k580_145 {P : s_P} {d : Nat} {Q : s_O → Prop} {h : s_H} {kc ks : Nat} {r0 : Term} {x1 x2 x3 x4 x5 : Int} {t6 t7 : Term}  (k : wr P d sw_c580 sw_h580 (146, [r0, vi x1, vi x2, vi x3, vi x4, vi x5, t6, t7], [vi x3], h, kc, ks) Q)   : wr P d sw_c580 sw_h580 (145, [r0, vi x1, vi x2, vi x3, vi x4, vi x5, t6, t7], [], h, kc, ks) Q := by
  refine w_ld rfl rfl (Or.inl ⟨by decide, rfl⟩) ?_
  exact k

theorem k580_146 {P : s_P} {d : Nat} {Q : s_O → Prop} {h : s_H} {kc ks : Nat} {r0 : Term} {x1 x2 x3 x4 x5 : Int} {t6 t7 : Term} {s0 : Int}  (k : wr P d sw_c580 sw_h580 (147, [r0, vi x1, vi x2, vi s0, vi x4, vi x5, t6, t7], [], h, kc, ks) Q)   : wr P d sw_c580 sw_h580 (146, [r0, vi x1, vi x2, vi x3, vi x4, vi x5, t6, t7], [vi s0], h, kc, ks) Q := by
  refine w_st (ls' := [r0, vi x1, vi x2, vi s0, vi x4, vi x5, t6, t7]) rfl (Or.inl ⟨by decide, rfl⟩) rfl ?_
  exact k

theorem k580_147 {P : s_P} {d : Nat} {Q : s_O → Prop} {h : s_H} {kc ks : Nat} {r0 : Term} {x1 x2 x3 x4 x5 : Int} {t6 t7 : Term}  (k : wr P d sw_c580 sw_h580 (87, [r0, vi x1, vi x2, vi x3, vi x4, vi (x5 + 1), t6, t7], [], h, kc, ks) Q)   : wr P d sw_c580 sw_h580 (147, [r0, vi x1, vi x2, vi x3, vi x4, vi x5, t6, t7], [], h, kc, ks) Q := by
  refine w_iinc (ls' := [r0, vi x1, vi x2, vi x3, vi x4, vi (x5 + 1), t6, t7]) rfl rfl 1 (by decide) rfl ?_
  refine w_goto rfl ?_
  exact k

theorem k580_153 {P : s_P} {d : Nat} {Q : s_O → Prop} {h : s_H} {kc ks : Nat} {r0 : Term} {x1 x2 x3 x4 x5 : Int} {t6 t7 : Term}  (k : wr P d sw_c580 sw_h580 (61, [r0, vi x1, vi x2, vi x3, vi (x4 + 1), vi x5, t6, t7], [], h, kc, ks) Q)   : wr P d sw_c580 sw_h580 (153, [r0, vi x1, vi x2, vi x3, vi x4, vi x5, t6, t7], [], h, kc, ks) Q := by
  refine w_iinc (ls' := [r0, vi x1, vi x2, vi x3, vi (x4 + 1), vi x5, t6, t7]) rfl rfl 1 (by decide) rfl ?_
  refine w_goto rfl ?_
  exact k

theorem k580_159 {P : s_P} {d : Nat} {Q : s_O → Prop} {h : s_H} {kc ks : Nat} {r0 : Term} {x1 x2 x3 x4 : Int} {t5 t6 t7 : Term}  (k1 : x3 - x2 ≤ 3 → wr P d sw_c580 sw_h580 (172, [r0, vi x1, vi x2, vi x3, vi x4, t5, t6, t7], [], h, kc, ks) Q) (k2 : ¬ x3 - x2 ≤ 3 → wr P d sw_c580 sw_h580 (166, [r0, vi x1, vi x2, vi x3, vi x4, t5, t6, t7], [], h, kc, ks) Q)  (c1 : In3 (x3 - x2) := by first | omega | assumption | (simp only [mk_len, List.length_map]; omega) | decide) : wr P d sw_c580 sw_h580 (159, [r0, vi x1, vi x2, vi x3, vi x4, t5, t6, t7], [], h, kc, ks) Q := by
  refine w_ld rfl rfl (Or.inl ⟨by decide, rfl⟩) ?_
  refine w_ld rfl rfl (Or.inl ⟨by decide, rfl⟩) ?_
  refine w_isub rfl ?_
  refine w_c32 rfl (by decide) 3 (by decide) ?_
  exact w_if2 rfl c1 (by decide) k1 k2

theorem k580_166 {P : s_P} {d : Nat} {Q : s_O → Prop} {h : s_H} {kc ks : Nat} {r0 : Term} {x1 x2 x3 x4 : Int} {t5 t6 t7 : Term} {q2 : Nat} {f3 : List Term} (g4 : s_get h q2 = some (1, 11, f3)) (k : wm P d 570 [.index q2, vi 3] h (wq P d sw_c580 sw_h580 171 [.index q2, vi x1, vi x2, vi x3, vi x4, t5, t6, t7] [] kc ks Q)) (e_q2 : r0 = .index q2 := by first | rfl | assumption) (y1 : s_ty r0 = 3 := by first | rfl | assumption)  : wr P d sw_c580 sw_h580 (166, [r0, vi x1, vi x2, vi x3, vi x4, t5, t6, t7], [], h, kc, ks) Q := by
  refine w_ld rfl rfl (Or.inr (Or.inr ⟨by decide, y1⟩)) ?_
  refine w_c32 rfl (by decide) 3 (by decide) ?_
  subst e_q2
  exact w_cv rfl [.index q2, vi 3] [] rfl rfl (s_wt_4 rfl) rfl g4 k

theorem k580_171 {P : s_P} {d : Nat} {Q : s_O → Prop} {h : s_H} {kc ks : Nat} {r0 : Term} {x1 x2 x3 x4 : Int} {t5 t6 t7 : Term} {s0 : Int}  (k : Q (.inl (some (vi s0)), h, kc, ks))   : wr P d sw_c580 sw_h580 (171, [r0, vi x1, vi x2, vi x3, vi x4, t5, t6, t7], [vi s0], h, kc, ks) Q := by
  exact w_iret rfl k

theorem k580_172 {P : s_P} {d : Nat} {Q : s_O → Prop} {h : s_H} {kc ks : Nat} {r0 : Term} {x1 x2 x3 x4 : Int} {t5 t6 t7 : Term}  (k : wr P d sw_c580 sw_h580 (175, [r0, vi x1, vi x2, vi x3, vi 0, t5, t6, t7], [], h, kc, ks) Q)   : wr P d sw_c580 sw_h580 (172, [r0, vi x1, vi x2, vi x3, vi x4, t5, t6, t7], [], h, kc, ks) Q := by
  refine w_c32 rfl (by decide) 0 (by decide) ?_
  refine w_st (ls' := [r0, vi x1, vi x2, vi x3, vi 0, t5, t6, t7]) rfl (Or.inl ⟨by decide, rfl⟩) rfl ?_
  exact k

theorem k580_175 {P : s_P} {d : Nat} {Q : s_O → Prop} {h : s_H} {kc ks : Nat} {r0 : Term} {x1 x2 x3 x4 : Int} {t5 t6 t7 : Term}  (k1 : x3 - x2 < x4 → wr P d sw_c580 sw_h580 (338, [r0, vi x1, vi x2, vi x3, vi x4, t5, t6, t7], [], h, kc, ks) Q) (k2 : ¬ x3 - x2 < x4 → wr P d sw_c580 sw_h580 (183, [r0, vi x1, vi x2, vi x3, vi x4, t5, t6, t7], [], h, kc, ks) Q)  (c1 : In3 x4 := by first | omega | assumption | (simp only [mk_len, List.length_map]; omega) | decide) (c2 : In3 (x3 - x2) := by first | omega | assumption | (simp only [mk_len, List.length_map]; omega) | decide) : wr P d sw_c580 sw_h580 (175, [r0, vi x1, vi x2, vi x3, vi x4, t5, t6, t7], [], h, kc, ks) Q := by
  refine w_ld rfl rfl (Or.inl ⟨by decide, rfl⟩) ?_
  refine w_ld rfl rfl (Or.inl ⟨by decide, rfl⟩) ?_
  refine w_ld rfl rfl (Or.inl ⟨by decide, rfl⟩) ?_
  refine w_isub rfl ?_
  exact w_if2 rfl c1 c2 k1 k2

theorem k580_183 {P : s_P} {d : Nat} {Q : s_O → Prop} {h : s_H} {kc ks : Nat} {r0 : Term} {x1 x2 x3 x4 : Int} {t5 t6 t7 : Term} {q2 : Nat} {f3 : List Term} {v5 : Term} (g4 : s_get h q2 = some (1, 11, f3)) (k : wm P d 438 [v5] h (wq P d sw_c580 sw_h580 190 [.index q2, vi x1, vi x2, vi x3, vi x4, t5, t6, t7] [] kc ks Q)) (e_q2 : r0 = .index q2 := by first | rfl | assumption) (y1 : s_ty r0 = 3 := by first | rfl | assumption) (n6 : s_nth f3 24 = some v5 := by first | rfl | assumption)  : wr P d sw_c580 sw_h580 (183, [r0, vi x1, vi x2, vi x3, vi x4, t5, t6, t7], [], h, kc, ks) Q := by
  refine w_ld rfl rfl (Or.inr (Or.inr ⟨by decide, y1⟩)) ?_
  subst e_q2
  refine w_getf rfl g4 n6 ?_
  exact w_cs rfl [v5] [] rfl rfl (s_wt_4 rfl) k

theorem k580_190 {P : s_P} {d : Nat} {Q : s_O → Prop} {h : s_H} {kc ks : Nat} {r0 : Term} {x1 x2 x3 x4 : Int} {t5 t6 t7 : Term}  (k : wr P d sw_c580 sw_h580 (193, [r0, vi x1, vi x2, vi x3, vi x4, vi 0, t6, t7], [], h, kc, ks) Q)   : wr P d sw_c580 sw_h580 (190, [r0, vi x1, vi x2, vi x3, vi x4, t5, t6, t7], [], h, kc, ks) Q := by
  refine w_c32 rfl (by decide) 0 (by decide) ?_
  refine w_st (ls' := [r0, vi x1, vi x2, vi x3, vi x4, vi 0, t6, t7]) rfl (Or.inl ⟨by decide, rfl⟩) rfl ?_
  exact k

theorem k580_193 {P : s_P} {d : Nat} {Q : s_O → Prop} {h : s_H} {kc ks : Nat} {r0 : Term} {x1 x2 x3 x4 x5 : Int} {t6 t7 : Term} {q2 : Nat} {f3 : List Term} {v5 : Term} {q7 : Nat} {a8 : List Int} (g4 : s_get h q2 = some (1, 11, f3)) (g9 : s_get h q7 = some (0, 0, a8.map vi)) (k1 : gi a8 x1 ≤ x5 → wr P d sw_c580 sw_h580 (321, [.index q2, vi x1, vi x2, vi x3, vi x4, vi x5, t6, t7], [], h, kc, ks) Q) (k2 : ¬ gi a8 x1 ≤ x5 → wr P d sw_c580 sw_h580 (204, [.index q2, vi x1, vi x2, vi x3, vi x4, vi x5, t6, t7], [], h, kc, ks) Q) (e_q2 : r0 = .index q2 := by first | rfl | assumption) (e_q7 : v5 = .index q7 := by first | rfl | assumption) (y1 : s_ty r0 = 3 := by first | rfl | assumption) (n6 : s_nth f3 6 = some v5 := by first | rfl | assumption) (c10 : x1 < a8.length := by first | omega | assumption | (simp only [mk_len, List.length_map]; omega) | decide) (c11 : 0 ≤ x1 := by first | omega | assumption | (simp only [mk_len, List.length_map]; omega) | decide) (c12 : In3 x1 := by first | omega | assumption | (simp only [mk_len, List.length_map]; omega) | decide) (c13 : In3 x5 := by first | omega | assumption | (simp only [mk_len, List.length_map]; omega) | decide) (c14 : In3 (gi a8 x1) := by first | omega | assumption | (simp only [mk_len, List.length_map]; omega) | decide) : wr P d sw_c580 sw_h580 (193, [r0, vi x1, vi x2, vi x3, vi x4, vi x5, t6, t7], [], h, kc, ks) Q := by
  refine w_ld rfl rfl (Or.inl ⟨by decide, rfl⟩) ?_
  refine w_ld rfl rfl (Or.inr (Or.inr ⟨by decide, y1⟩)) ?_
  subst e_q2
  refine w_getf rfl g4 n6 ?_
  refine w_ld rfl rfl (Or.inl ⟨by decide, rfl⟩) ?_
  subst e_q7
  refine w_iald rfl g9 (Or.inl rfl) c12 c11 c10 ?_
  exact w_if2 rfl c13 c14 k1 k2

theorem k580_204 {P : s_P} {d : Nat} {Q : s_O → Prop} {h : s_H} {kc ks : Nat} {r0 : Term} {x1 x2 x3 x4 x5 : Int} {t6 t7 : Term}  (k : wm P d 464 [vl ((x5 - x2) - x4), vl 0, vl 10] h (wq P d sw_c580 sw_h580 223 [r0, vi x1, vi x2, vi x3, vi x4, vi x5, vi ((x5 - x2) - x4), t7] [] kc ks Q))  (c1 : In3 ((x5 - x2) - x4) := by first | omega | assumption | (simp only [mk_len, List.length_map]; omega) | decide) : wr P d sw_c580 sw_h580 (204, [r0, vi x1, vi x2, vi x3, vi x4, vi x5, t6, t7], [], h, kc, ks) Q := by
  refine w_ld rfl rfl (Or.inl ⟨by decide, rfl⟩) ?_
  refine w_ld rfl rfl (Or.inl ⟨by decide, rfl⟩) ?_
  refine w_isub rfl ?_
  refine w_ld rfl rfl (Or.inl ⟨by decide, rfl⟩) ?_
  refine w_isub rfl ?_
  refine w_st (ls' := [r0, vi x1, vi x2, vi x3, vi x4, vi x5, vi ((x5 - x2) - x4), t7]) rfl (Or.inl ⟨by decide, rfl⟩) rfl ?_
  refine w_ld rfl rfl (Or.inl ⟨by decide, rfl⟩) ?_
  refine w_i2l rfl c1 ?_
  refine w_c64 rfl (by decide) 0 (by decide) ?_
  refine w_c64 rfl (by decide) 10 (by decide) ?_
  exact w_cs rfl [vl ((x5 - x2) - x4), vl 0, vl 10] [] rfl rfl (s_wt_4 rfl) k

theorem k580_223 {P : s_P} {d : Nat} {Q : s_O → Prop} {h : s_H} {kc ks : Nat} {r0 : Term} {x1 x2 x3 x4 x5 x6 : Int} {t7 : Term} {s0 : Int}  (k1 : s0 ≠ 0 → wr P d sw_c580 sw_h580 (229, [r0, vi x1, vi x2, vi x3, vi x4, vi x5, vi x6, t7], [], h, kc, ks) Q) (k2 : ¬ s0 ≠ 0 → wr P d sw_c580 sw_h580 (226, [r0, vi x1, vi x2, vi x3, vi x4, vi x5, vi x6, t7], [], h, kc, ks) Q)  (c1 : In3 s0 := by first | omega | assumption | (simp only [mk_len, List.length_map]; omega) | decide) : wr P d sw_c580 sw_h580 (223, [r0, vi x1, vi x2, vi x3, vi x4, vi x5, vi x6, t7], [vi s0], h, kc, ks) Q := by
  exact w_if1 rfl c1 k1 k2

theorem k580_226 {P : s_P} {d : Nat} {Q : s_O → Prop} {h : s_H} {kc ks : Nat} {r0 : Term} {x1 x2 x3 x4 x5 x6 : Int} {t7 : Term}  (k : wr P d sw_c580 sw_h580 (315, [r0, vi x1, vi x2, vi x3, vi x4, vi x5, vi x6, t7], [], h, kc, ks) Q)   : wr P d sw_c580 sw_h580 (226, [r0, vi x1, vi x2, vi x3, vi x4, vi x5, vi x6, t7], [], h, kc, ks) Q := by
  refine w_goto rfl ?_
  exact k

theorem k580_229 {P : s_P} {d : Nat} {Q : s_O → Prop} {h : s_H} {kc ks : Nat} {r0 : Term} {x1 x2 x3 x4 x5 x6 : Int} {t7 : Term} {q2 : Nat} {f3 : List Term} {v5 : Term} (g4 : s_get h q2 = some (1, 11, f3)) (k : wm P d 508 [.index q2, v5, vi x1, vi 0, vi x5] h (wq P d sw_c580 sw_h580 241 [.index q2, vi x1, vi x2, vi x3, vi x4, vi x5, vi x6, t7] [] kc ks Q)) (e_q2 : r0 = .index q2 := by first | rfl | assumption) (y1 : s_ty r0 = 3 := by first | rfl | assumption) (n6 : s_nth f3 20 = some v5 := by first | rfl | assumption)  : wr P d sw_c580 sw_h580 (229, [r0, vi x1, vi x2, vi x3, vi x4, vi x5, vi x6, t7], [], h, kc, ks) Q := by
  refine w_ld rfl rfl (Or.inr (Or.inr ⟨by decide, y1⟩)) ?_
  refine w_ld rfl rfl (Or.inr (Or.inr ⟨by decide, y1⟩)) ?_
  subst e_q2
  refine w_getf rfl g4 n6 ?_
  refine w_ld rfl rfl (Or.inl ⟨by decide, rfl⟩) ?_
  refine w_c32 rfl (by decide) 0 (by decide) ?_
  refine w_ld rfl rfl (Or.inl ⟨by decide, rfl⟩) ?_
  exact w_cv rfl [.index q2, v5, vi x1, vi 0, vi x5] [] rfl rfl (s_wt_4 rfl) rfl g4 k

theorem k580_241 {P : s_P} {d : Nat} {Q : s_O → Prop} {h : s_H} {kc ks : Nat} {r0 : Term} {x1 x2 x3 x4 x5 x6 : Int} {t7 : Term} {q2 : Nat} {f3 : List Term} {v5 v7 : Term} {q9 : Nat} {a10 : List Int} (g4 : s_get h q2 = some (1, 11, f3)) (g11 : s_get h q9 = some (0, 1, a10.map vl)) (k : wm P d 405 [v5, vl (gi a10 x6)] h (wq P d sw_c580 sw_h580 255 [.index q2, vi x1, vi x2, vi x3, vi x4, vi x5, vi x6, t7] [] kc ks Q)) (e_q2 : r0 = .index q2 := by first | rfl | assumption) (e_q9 : v7 = .index q9 := by first | rfl | assumption) (y1 : s_ty r0 = 3 := by first | rfl | assumption) (n6 : s_nth f3 23 = some v5 := by first | rfl | assumption) (n8 : s_nth f3 20 = some v7 := by first | rfl | assumption) (c12 : x6 < a10.length := by first | omega | assumption | (simp only [mk_len, List.length_map]; omega) | decide) (c13 : 0 ≤ x6 := by first | omega | assumption | (simp only [mk_len, List.length_map]; omega) | decide) (c14 : In3 x6 := by first | omega | assumption | (simp only [mk_len, List.length_map]; omega) | decide) : wr P d sw_c580 sw_h580 (241, [r0, vi x1, vi x2, vi x3, vi x4, vi x5, vi x6, t7], [], h, kc, ks) Q := by
  refine w_ld rfl rfl (Or.inr (Or.inr ⟨by decide, y1⟩)) ?_
  subst e_q2
  refine w_getf rfl g4 n6 ?_
  refine w_ld rfl rfl (Or.inr (Or.inr ⟨by decide, rfl⟩)) ?_
  refine w_getf rfl g4 n8 ?_
  refine w_ld rfl rfl (Or.inl ⟨by decide, rfl⟩) ?_
  subst e_q9
  refine w_lald rfl g11 c14 c13 c12 ?_
  exact w_cs rfl [v5, vl (gi a10 x6)] [] rfl rfl (s_wt_4 rfl) k

theorem k580_255 {P : s_P} {d : Nat} {Q : s_O → Prop} {h : s_H} {kc ks : Nat} {r0 : Term} {x1 x2 x3 x4 x5 x6 : Int} {t7 : Term}  (k : wr P d sw_c580 sw_h580 (258, [r0, vi x1, vi x2, vi x3, vi x4, vi x5, vi x6, vi 0], [], h, kc, ks) Q)   : wr P d sw_c580 sw_h580 (255, [r0, vi x1, vi x2, vi x3, vi x4, vi x5, vi x6, t7], [], h, kc, ks) Q := by
  refine w_c32 rfl (by decide) 0 (by decide) ?_
  refine w_st (ls' := [r0, vi x1, vi x2, vi x3, vi x4, vi x5, vi x6, vi 0]) rfl (Or.inl ⟨by decide, rfl⟩) rfl ?_
  exact k

theorem k580_258 {P : s_P} {d : Nat} {Q : s_O → Prop} {h : s_H} {kc ks : Nat} {r0 : Term} {x1 x2 x3 x4 x5 x6 x7 : Int}  (k1 : x5 ≤ x7 → wr P d sw_c580 sw_h580 (303, [r0, vi x1, vi x2, vi x3, vi x4, vi x5, vi x6, vi x7], [], h, kc, ks) Q) (k2 : ¬ x5 ≤ x7 → wr P d sw_c580 sw_h580 (265, [r0, vi x1, vi x2, vi x3, vi x4, vi x5, vi x6, vi x7], [], h, kc, ks) Q)  (c1 : In3 x7 := by first | omega | assumption | (simp only [mk_len, List.length_map]; omega) | decide) (c2 : In3 x5 := by first | omega | assumption | (simp only [mk_len, List.length_map]; omega) | decide) : wr P d sw_c580 sw_h580 (258, [r0, vi x1, vi x2, vi x3, vi x4, vi x5, vi x6, vi x7], [], h, kc, ks) Q := by
  refine w_ld rfl rfl (Or.inl ⟨by decide, rfl⟩) ?_
  refine w_ld rfl rfl (Or.inl ⟨by decide, rfl⟩) ?_
  exact w_if2 rfl c1 c2 k1 k2

theorem k580_265 {P : s_P} {d : Nat} {Q : s_O → Prop} {h : s_H} {kc ks : Nat} {r0 : Term} {x1 x2 x3 x4 x5 x6 x7 : Int} {q2 : Nat} {f3 : List Term} {v5 : Term} (g4 : s_get h q2 = some (1, 11, f3)) (k : wm P d 405 [v5, vl (x4 - x7)] h (wq P d sw_c580 sw_h580 278 [.index q2, vi x1, vi x2, vi x3, vi x4, vi x5, vi x6, vi x7] [] kc ks Q)) (e_q2 : r0 = .index q2 := by first | rfl | assumption) (y1 : s_ty r0 = 3 := by first | rfl | assumption) (n6 : s_nth f3 22 = some v5 := by first | rfl | assumption) (c7 : In3 (x4 - x7) := by first | omega | assumption | (simp only [mk_len, List.length_map]; omega) | decide) : wr P d sw_c580 sw_h580 (265, [r0, vi x1, vi x2, vi x3, vi x4, vi x5, vi x6, vi x7], [], h, kc, ks) Q := by
  refine w_ld rfl rfl (Or.inr (Or.inr ⟨by decide, y1⟩)) ?_
  subst e_q2
  refine w_getf rfl g4 n6 ?_
  refine w_ld rfl rfl (Or.inl ⟨by decide, rfl⟩) ?_
  refine w_ld rfl rfl (Or.inl ⟨by decide, rfl⟩) ?_
  refine w_isub rfl ?_
  refine w_i2l rfl c7 ?_
  exact w_cs rfl [v5, vl (x4 - x7)] [] rfl rfl (s_wt_4 rfl) k

theorem k580_278 {P : s_P} {d : Nat} {Q : s_O → Prop} {h : s_H} {kc ks : Nat} {r0 : Term} {x1 x2 x3 x4 x5 x6 x7 : Int} {q2 : Nat} {f3 : List Term} {v5 : Term} {q7 : Nat} {a8 : List Int} {f12 : List Term} {v14 v16 : Term} (g4 : s_get h q2 = some (1, 11, f3)) (g9 : s_get h q7 = some (0, 1, a8.map vl)) (g13 : s_get (hp h q7 (0, 1, (a8.set (Int.toNat (1)) 1).map vl)) q2 = some (1, 11, f12)) (k : wm P d 532 [.index q2, v14, v16] (hp h q7 (0, 1, (a8.set (Int.toNat (1)) 1).map vl)) (wq P d sw_c580 sw_h580 297 [.index q2, vi x1, vi x2, vi x3, vi x4, vi x5, vi x6, vi x7] [] kc ks Q)) (e_q2 : r0 = .index q2 := by first | rfl | assumption) (e_q7 : v5 = .index q7 := by first | rfl | assumption) (y1 : s_ty r0 = 3 := by first | rfl | assumption) (n6 : s_nth f3 22 = some v5 := by first | rfl | assumption) (n15 : s_nth f12 23 = some v14 := by first | rfl | assumption) (n17 : s_nth f12 22 = some v16 := by first | rfl | assumption) (c10 : (1 : Int) < a8.length := by first | omega | assumption | (simp only [mk_len, List.length_map]; omega) | decide) (c11 : 0 < q7 := by first | omega | assumption | (simp only [mk_len, List.length_map]; omega) | decide) : wr P d sw_c580 sw_h580 (278, [r0, vi x1, vi x2, vi x3, vi x4, vi x5, vi x6, vi x7], [], h, kc, ks) Q := by
  refine w_ld rfl rfl (Or.inr (Or.inr ⟨by decide, y1⟩)) ?_
  subst e_q2
  refine w_getf rfl g4 n6 ?_
  refine w_c32 rfl (by decide) 1 (by decide) ?_
  refine w_c64 rfl (by decide) 1 (by decide) ?_
  subst e_q7
  refine w_last rfl g9 (Nat.ble_eq_true_of_le c11) (by decide) (by decide) c10 ?_
  refine w_ld rfl rfl (Or.inr (Or.inr ⟨by decide, rfl⟩)) ?_
  refine w_ld rfl rfl (Or.inr (Or.inr ⟨by decide, rfl⟩)) ?_
  refine w_getf rfl g13 n15 ?_
  refine w_ld rfl rfl (Or.inr (Or.inr ⟨by decide, rfl⟩)) ?_
  refine w_getf rfl g13 n17 ?_
  exact w_cv rfl [.index q2, v14, v16] [] rfl rfl (s_wt_4 rfl) rfl g13 k

theorem k580_297 {P : s_P} {d : Nat} {Q : s_O → Prop} {h : s_H} {kc ks : Nat} {r0 : Term} {x1 x2 x3 x4 x5 x6 x7 : Int}  (k : wr P d sw_c580 sw_h580 (258, [r0, vi x1, vi x2, vi x3, vi x4, vi x5, vi x6, vi (x7 + 1)], [], h, kc, ks) Q)   : wr P d sw_c580 sw_h580 (297, [r0, vi x1, vi x2, vi x3, vi x4, vi x5, vi x6, vi x7], [], h, kc, ks) Q := by
  refine w_iinc (ls' := [r0, vi x1, vi x2, vi x3, vi x4, vi x5, vi x6, vi (x7 + 1)]) rfl rfl 1 (by decide) rfl ?_
  refine w_goto rfl ?_
  exact k

theorem k580_303 {P : s_P} {d : Nat} {Q : s_O → Prop} {h : s_H} {kc ks : Nat} {r0 : Term} {x1 x2 x3 x4 x5 x6 x7 : Int} {q2 : Nat} {f3 : List Term} {v5 v7 : Term} (g4 : s_get h q2 = some (1, 11, f3)) (k : wm P d 529 [v5, v7, vl 1] h (wq P d sw_c580 sw_h580 315 [.index q2, vi x1, vi x2, vi x3, vi x4, vi x5, vi x6, vi x7] [] kc ks Q)) (e_q2 : r0 = .index q2 := by first | rfl | assumption) (y1 : s_ty r0 = 3 := by first | rfl | assumption) (n6 : s_nth f3 24 = some v5 := by first | rfl | assumption) (n8 : s_nth f3 23 = some v7 := by first | rfl | assumption)  : wr P d sw_c580 sw_h580 (303, [r0, vi x1, vi x2, vi x3, vi x4, vi x5, vi x6, vi x7], [], h, kc, ks) Q := by
  refine w_ld rfl rfl (Or.inr (Or.inr ⟨by decide, y1⟩)) ?_
  subst e_q2
  refine w_getf rfl g4 n6 ?_
  refine w_ld rfl rfl (Or.inr (Or.inr ⟨by decide, rfl⟩)) ?_
  refine w_getf rfl g4 n8 ?_
  refine w_c64 rfl (by decide) 1 (by decide) ?_
  exact w_cs rfl [v5, v7, vl 1] [] rfl rfl (s_wt_4 rfl) k

theorem k580_315 {P : s_P} {d : Nat} {Q : s_O → Prop} {h : s_H} {kc ks : Nat} {r0 : Term} {x1 x2 x3 x4 x5 x6 : Int} {t7 : Term}  (k : wr P d sw_c580 sw_h580 (193, [r0, vi x1, vi x2, vi x3, vi x4, vi (x5 + 1), vi x6, t7], [], h, kc, ks) Q)   : wr P d sw_c580 sw_h580 (315, [r0, vi x1, vi x2, vi x3, vi x4, vi x5, vi x6, t7], [], h, kc, ks) Q := by
  refine w_iinc (ls' := [r0, vi x1, vi x2, vi x3, vi x4, vi (x5 + 1), vi x6, t7]) rfl rfl 1 (by decide) rfl ?_
  refine w_goto rfl ?_
  exact k

theorem k580_321 {P : s_P} {d : Nat} {Q : s_O → Prop} {h : s_H} {kc ks : Nat} {r0 : Term} {x1 x2 x3 x4 x5 : Int} {t6 t7 : Term} {q2 : Nat} {f3 : List Term} {v5 : Term} (g4 : s_get h q2 = some (1, 11, f3)) (k : wm P d 496 [.index q2, v5, vi 0, vi x4] h (wq P d sw_c580 sw_h580 332 [.index q2, vi x1, vi x2, vi x3, vi x4, vi x5, t6, t7] [] kc ks Q)) (e_q2 : r0 = .index q2 := by first | rfl | assumption) (y1 : s_ty r0 = 3 := by first | rfl | assumption) (n6 : s_nth f3 24 = some v5 := by first | rfl | assumption)  : wr P d sw_c580 sw_h580 (321, [r0, vi x1, vi x2, vi x3, vi x4, vi x5, t6, t7], [], h, kc, ks) Q := by
  refine w_ld rfl rfl (Or.inr (Or.inr ⟨by decide, y1⟩)) ?_
  refine w_ld rfl rfl (Or.inr (Or.inr ⟨by decide, y1⟩)) ?_
  subst e_q2
  refine w_getf rfl g4 n6 ?_
  refine w_c32 rfl (by decide) 0 (by decide) ?_
  refine w_ld rfl rfl (Or.inl ⟨by decide, rfl⟩) ?_
  exact w_cv rfl [.index q2, v5, vi 0, vi x4] [] rfl rfl (s_wt_4 rfl) rfl g4 k

theorem k580_332 {P : s_P} {d : Nat} {Q : s_O → Prop} {h : s_H} {kc ks : Nat} {r0 : Term} {x1 x2 x3 x4 x5 : Int} {t6 t7 : Term}  (k : wr P d sw_c580 sw_h580 (175, [r0, vi x1, vi x2, vi x3, vi (x4 + 1), vi x5, t6, t7], [], h, kc, ks) Q)   : wr P d sw_c580 sw_h580 (332, [r0, vi x1, vi x2, vi x3, vi x4, vi x5, t6, t7], [], h, kc, ks) Q := by
  refine w_iinc (ls' := [r0, vi x1, vi x2, vi x3, vi (x4 + 1), vi x5, t6, t7]) rfl rfl 1 (by decide) rfl ?_
  refine w_goto rfl ?_
  exact k

theorem k580_338 {P : s_P} {d : Nat} {Q : s_O → Prop} {h : s_H} {kc ks : Nat} {r0 : Term} {x1 x2 x3 x4 : Int} {t5 t6 t7 : Term} {q2 : Nat} {f3 : List Term} (g4 : s_get h q2 = some (1, 11, f3)) (k : wm P d 498 [.index q2, vi 1, vi ((x3 - x2) + 1)] h (wq P d sw_c580 sw_h580 348 [.index q2, vi x1, vi x2, vi x3, vi x4, t5, t6, t7] [] kc ks Q)) (e_q2 : r0 = .index q2 := by first | rfl | assumption) (y1 : s_ty r0 = 3 := by first | rfl | assumption)  : wr P d sw_c580 sw_h580 (338, [r0, vi x1, vi x2, vi x3, vi x4, t5, t6, t7], [], h, kc, ks) Q := by
  refine w_ld rfl rfl (Or.inr (Or.inr ⟨by decide, y1⟩)) ?_
  refine w_c32 rfl (by decide) 1 (by decide) ?_
  refine w_ld rfl rfl (Or.inl ⟨by decide, rfl⟩) ?_
  refine w_ld rfl rfl (Or.inl ⟨by decide, rfl⟩) ?_
  refine w_isub rfl ?_
  refine w_c32 rfl (by decide) 1 (by decide) ?_
  refine w_iadd rfl ?_
  subst e_q2
  exact w_cv rfl [.index q2, vi 1, vi ((x3 - x2) + 1)] [] rfl rfl (s_wt_4 rfl) rfl g4 k

theorem k580_348 {P : s_P} {d : Nat} {Q : s_O → Prop} {h : s_H} {kc ks : Nat} {r0 : Term} {x1 x2 x3 x4 : Int} {t5 t6 t7 : Term} {s0 : Int}  (k : Q (.inl (some (vi s0)), h, kc, ks))   : wr P d sw_c580 sw_h580 (348, [r0, vi x1, vi x2, vi x3, vi x4, t5, t6, t7], [vi s0], h, kc, ks) Q := by
  exact w_iret rfl k

/-! 581: FormulaWorksModel.remainder(I)I -/
theorem k581_0 {P : s_P} {d : Nat} {Q : s_O → Prop} {h : s_H} {kc ks : Nat} {r0 : Term} {x1 : Int} {q2 : Nat} {f3 : List Term} (g4 : s_get h q2 = some (1, 11, f3)) (k : wm P d 481 [.index q2, vi x1, vi 0] h (wq P d sw_c581 sw_h581 6 [.index q2, vi x1] [] kc ks Q)) (e_q2 : r0 = .index q2 := by first | rfl | assumption) (y1 : s_ty r0 = 3 := by first | rfl | assumption)  : wr P d sw_c581 sw_h581 (0, [r0, vi x1], [], h, kc, ks) Q := by
  refine w_ld rfl rfl (Or.inr (Or.inr ⟨by decide, y1⟩)) ?_
  refine w_ld rfl rfl (Or.inl ⟨by decide, rfl⟩) ?_
  refine w_c32 rfl (by decide) 0 (by decide) ?_
  subst e_q2
  exact w_cv rfl [.index q2, vi x1, vi 0] [] rfl rfl (s_wt_4 rfl) rfl g4 k

theorem k581_6 {P : s_P} {d : Nat} {Q : s_O → Prop} {h : s_H} {kc ks : Nat} {r0 : Term} {x1 s0 : Int}  (k1 : s0 ≠ 0 → wr P d sw_c581 sw_h581 (11, [r0, vi x1], [], h, kc, ks) Q) (k2 : ¬ s0 ≠ 0 → wr P d sw_c581 sw_h581 (9, [r0, vi x1], [], h, kc, ks) Q)  (c1 : In3 s0 := by first | omega | assumption | (simp only [mk_len, List.length_map]; omega) | decide) : wr P d sw_c581 sw_h581 (6, [r0, vi x1], [vi s0], h, kc, ks) Q := by
  exact w_if1 rfl c1 k1 k2

theorem k581_9 {P : s_P} {d : Nat} {Q : s_O → Prop} {h : s_H} {kc ks : Nat} {r0 : Term} {x1 : Int}  (k : Q (.inl (some (vi 0)), h, kc, ks))   : wr P d sw_c581 sw_h581 (9, [r0, vi x1], [], h, kc, ks) Q := by
  refine w_c32 rfl (by decide) 0 (by decide) ?_
  exact w_iret rfl k

theorem k581_11 {P : s_P} {d : Nat} {Q : s_O → Prop} {h : s_H} {kc ks : Nat} {r0 : Term} {x1 : Int} {q2 : Nat} {f3 : List Term} (g4 : s_get h q2 = some (1, 11, f3)) (k : wm P d 598 [.index q2] h (wq P d sw_c581 sw_h581 15 [.index q2, vi x1] [] kc ks Q)) (e_q2 : r0 = .index q2 := by first | rfl | assumption) (y1 : s_ty r0 = 3 := by first | rfl | assumption)  : wr P d sw_c581 sw_h581 (11, [r0, vi x1], [], h, kc, ks) Q := by
  refine w_ld rfl rfl (Or.inr (Or.inr ⟨by decide, y1⟩)) ?_
  subst e_q2
  exact w_cv rfl [.index q2] [] rfl rfl (s_wt_4 rfl) rfl g4 k

theorem k581_15 {P : s_P} {d : Nat} {Q : s_O → Prop} {h : s_H} {kc ks : Nat} {r0 : Term} {x1 : Int} {q2 : Nat} {f3 : List Term} {v5 v7 : Term} (g4 : s_get h q2 = some (1, 11, f3)) (k : wm P d 425 [v5, v7] h (wq P d sw_c581 sw_h581 26 [.index q2, vi x1] [] kc ks Q)) (e_q2 : r0 = .index q2 := by first | rfl | assumption) (y1 : s_ty r0 = 3 := by first | rfl | assumption) (n6 : s_nth f3 14 = some v5 := by first | rfl | assumption) (n8 : s_nth f3 21 = some v7 := by first | rfl | assumption)  : wr P d sw_c581 sw_h581 (15, [r0, vi x1], [], h, kc, ks) Q := by
  refine w_ld rfl rfl (Or.inr (Or.inr ⟨by decide, y1⟩)) ?_
  subst e_q2
  refine w_getf rfl g4 n6 ?_
  refine w_ld rfl rfl (Or.inr (Or.inr ⟨by decide, rfl⟩)) ?_
  refine w_getf rfl g4 n8 ?_
  exact w_cs rfl [v5, v7] [] rfl rfl (s_wt_4 rfl) k

theorem k581_26 {P : s_P} {d : Nat} {Q : s_O → Prop} {h : s_H} {kc ks : Nat} {r0 : Term} {x1 : Int} {q2 : Nat} {f3 : List Term} {v5 : Term} (g4 : s_get h q2 = some (1, 11, f3)) (k : wm P d 405 [v5, vl 1] h (wq P d sw_c581 sw_h581 34 [.index q2, vi x1] [] kc ks Q)) (e_q2 : r0 = .index q2 := by first | rfl | assumption) (y1 : s_ty r0 = 3 := by first | rfl | assumption) (n6 : s_nth f3 15 = some v5 := by first | rfl | assumption)  : wr P d sw_c581 sw_h581 (26, [r0, vi x1], [], h, kc, ks) Q := by
  refine w_ld rfl rfl (Or.inr (Or.inr ⟨by decide, y1⟩)) ?_
  subst e_q2
  refine w_getf rfl g4 n6 ?_
  refine w_c64 rfl (by decide) 1 (by decide) ?_
  exact w_cs rfl [v5, vl 1] [] rfl rfl (s_wt_4 rfl) k

theorem k581_34 {P : s_P} {d : Nat} {Q : s_O → Prop} {h : s_H} {kc ks : Nat} {r0 : Term} {x1 : Int} {q2 : Nat} {f3 : List Term} (g4 : s_get h q2 = some (1, 11, f3)) (k : wm P d 495 [.index q2, vi 3] h (wq P d sw_c581 sw_h581 39 [.index q2, vi x1] [] kc ks Q)) (e_q2 : r0 = .index q2 := by first | rfl | assumption) (y1 : s_ty r0 = 3 := by first | rfl | assumption)  : wr P d sw_c581 sw_h581 (34, [r0, vi x1], [], h, kc, ks) Q := by
  refine w_ld rfl rfl (Or.inr (Or.inr ⟨by decide, y1⟩)) ?_
  refine w_c32 rfl (by decide) 3 (by decide) ?_
  subst e_q2
  exact w_cv rfl [.index q2, vi 3] [] rfl rfl (s_wt_4 rfl) rfl g4 k

theorem k581_39 {P : s_P} {d : Nat} {Q : s_O → Prop} {h : s_H} {kc ks : Nat} {r0 : Term} {x1 s0 : Int}  (k : Q (.inl (some (vi s0)), h, kc, ks))   : wr P d sw_c581 sw_h581 (39, [r0, vi x1], [vi s0], h, kc, ks) Q := by
  exact w_iret rfl k

/-! 582: FormulaWorksModel.rest(I)I -/
theorem k582_0 {P : s_P} {d : Nat} {Q : s_O → Prop} {h : s_H} {kc ks : Nat} {r0 : Term} {x1 : Int} {q2 : Nat} {f3 : List Term} (g4 : s_get h q2 = some (1, 11, f3)) (k : wm P d 481 [.index q2, vi x1, vi 0] h (wq P d sw_c582 sw_h582 6 [.index q2, vi x1] [] kc ks Q)) (e_q2 : r0 = .index q2 := by first | rfl | assumption) (y1 : s_ty r0 = 3 := by first | rfl | assumption)  : wr P d sw_c582 sw_h582 (0, [r0, vi x1], [], h, kc, ks) Q := by
  refine w_ld rfl rfl (Or.inr (Or.inr ⟨by decide, y1⟩)) ?_
  refine w_ld rfl rfl (Or.inl ⟨by decide, rfl⟩) ?_
  refine w_c32 rfl (by decide) 0 (by decide) ?_
  subst e_q2
  exact w_cv rfl [.index q2, vi x1, vi 0] [] rfl rfl (s_wt_4 rfl) rfl g4 k

theorem k582_6 {P : s_P} {d : Nat} {Q : s_O → Prop} {h : s_H} {kc ks : Nat} {r0 : Term} {x1 s0 : Int}  (k1 : s0 ≠ 0 → wr P d sw_c582 sw_h582 (11, [r0, vi x1], [], h, kc, ks) Q) (k2 : ¬ s0 ≠ 0 → wr P d sw_c582 sw_h582 (9, [r0, vi x1], [], h, kc, ks) Q)  (c1 : In3 s0 := by first | omega | assumption | (simp only [mk_len, List.length_map]; omega) | decide) : wr P d sw_c582 sw_h582 (6, [r0, vi x1], [vi s0], h, kc, ks) Q := by
  exact w_if1 rfl c1 k1 k2

theorem k582_9 {P : s_P} {d : Nat} {Q : s_O → Prop} {h : s_H} {kc ks : Nat} {r0 : Term} {x1 : Int}  (k : Q (.inl (some (vi 0)), h, kc, ks))   : wr P d sw_c582 sw_h582 (9, [r0, vi x1], [], h, kc, ks) Q := by
  refine w_c32 rfl (by decide) 0 (by decide) ?_
  exact w_iret rfl k

theorem k582_11 {P : s_P} {d : Nat} {Q : s_O → Prop} {h : s_H} {kc ks : Nat} {r0 : Term} {x1 : Int} {q2 : Nat} {f3 : List Term} (g4 : s_get h q2 = some (1, 11, f3)) (k : wm P d 449 [.index q2] h (wq P d sw_c582 sw_h582 15 [.index q2, vi x1] [] kc ks Q)) (e_q2 : r0 = .index q2 := by first | rfl | assumption) (y1 : s_ty r0 = 3 := by first | rfl | assumption)  : wr P d sw_c582 sw_h582 (11, [r0, vi x1], [], h, kc, ks) Q := by
  refine w_ld rfl rfl (Or.inr (Or.inr ⟨by decide, y1⟩)) ?_
  subst e_q2
  exact w_cv rfl [.index q2] [] rfl rfl (s_wt_4 rfl) rfl g4 k

theorem k582_15 {P : s_P} {d : Nat} {Q : s_O → Prop} {h : s_H} {kc ks : Nat} {r0 : Term} {x1 : Int} {q2 : Nat} {f3 : List Term} (g4 : s_get h q2 = some (1, 11, f3)) (k : wm P d 523 [.index q2] h (wq P d sw_c582 sw_h582 19 [.index q2, vi x1] [] kc ks Q)) (e_q2 : r0 = .index q2 := by first | rfl | assumption) (y1 : s_ty r0 = 3 := by first | rfl | assumption)  : wr P d sw_c582 sw_h582 (15, [r0, vi x1], [], h, kc, ks) Q := by
  refine w_ld rfl rfl (Or.inr (Or.inr ⟨by decide, y1⟩)) ?_
  subst e_q2
  exact w_cv rfl [.index q2] [] rfl rfl (s_wt_4 rfl) rfl g4 k

theorem k582_19 {P : s_P} {d : Nat} {Q : s_O → Prop} {h : s_H} {kc ks : Nat} {r0 : Term} {x1 : Int} {q2 : Nat} {f3 : List Term} (g4 : s_get h q2 = some (1, 11, f3)) (k : wm P d 495 [.index q2, vi 3] h (wq P d sw_c582 sw_h582 24 [.index q2, vi x1] [] kc ks Q)) (e_q2 : r0 = .index q2 := by first | rfl | assumption) (y1 : s_ty r0 = 3 := by first | rfl | assumption)  : wr P d sw_c582 sw_h582 (19, [r0, vi x1], [], h, kc, ks) Q := by
  refine w_ld rfl rfl (Or.inr (Or.inr ⟨by decide, y1⟩)) ?_
  refine w_c32 rfl (by decide) 3 (by decide) ?_
  subst e_q2
  exact w_cv rfl [.index q2, vi 3] [] rfl rfl (s_wt_4 rfl) rfl g4 k

theorem k582_24 {P : s_P} {d : Nat} {Q : s_O → Prop} {h : s_H} {kc ks : Nat} {r0 : Term} {x1 s0 : Int}  (k : Q (.inl (some (vi s0)), h, kc, ks))   : wr P d sw_c582 sw_h582 (24, [r0, vi x1], [vi s0], h, kc, ks) Q := by
  exact w_iret rfl k

/-! 583: FormulaWorksModel.resultant(II)I -/
theorem k583_0 {P : s_P} {d : Nat} {Q : s_O → Prop} {h : s_H} {kc ks : Nat} {r0 : Term} {x1 x2 : Int} {t3 t4 t5 t6 t7 t8 t9 t10 t11 t12 t13 t14 : Term} {q2 : Nat} {f3 : List Term} (g4 : s_get h q2 = some (1, 11, f3)) (k : wm P d 402 [.index q2, vi x1, vi x2] h (wq P d sw_c583 sw_h583 6 [.index q2, vi x1, vi x2, t3, t4, t5, t6, t7, t8, t9, t10, t11, t12, t13, t14] [] kc ks Q)) (e_q2 : r0 = .index q2 := by first | rfl | assumption) (y1 : s_ty r0 = 3 := by first | rfl | assumption)  : wr P d sw_c583 sw_h583 (0, [r0, vi x1, vi x2, t3, t4, t5, t6, t7, t8, t9, t10, t11, t12, t13, t14], [], h, kc, ks) Q := by
  refine w_ld rfl rfl (Or.inr (Or.inr ⟨by decide, y1⟩)) ?_
  refine w_ld rfl rfl (Or.inl ⟨by decide, rfl⟩) ?_
  refine w_ld rfl rfl (Or.inl ⟨by decide, rfl⟩) ?_
  subst e_q2
  exact w_cv rfl [.index q2, vi x1, vi x2] [] rfl rfl (s_wt_4 rfl) rfl g4 k

theorem k583_6 {P : s_P} {d : Nat} {Q : s_O → Prop} {h : s_H} {kc ks : Nat} {r0 : Term} {x1 x2 : Int} {t3 t4 t5 t6 t7 t8 t9 t10 t11 t12 t13 t14 : Term} {s0 : Int}  (k1 : s0 ≠ 0 → wr P d sw_c583 sw_h583 (11, [r0, vi x1, vi x2, t3, t4, t5, t6, t7, t8, t9, t10, t11, t12, t13, t14], [], h, kc, ks) Q) (k2 : ¬ s0 ≠ 0 → wr P d sw_c583 sw_h583 (9, [r0, vi x1, vi x2, t3, t4, t5, t6, t7, t8, t9, t10, t11, t12, t13, t14], [], h, kc, ks) Q)  (c1 : In3 s0 := by first | omega | assumption | (simp only [mk_len, List.length_map]; omega) | decide) : wr P d sw_c583 sw_h583 (6, [r0, vi x1, vi x2, t3, t4, t5, t6, t7, t8, t9, t10, t11, t12, t13, t14], [vi s0], h, kc, ks) Q := by
  exact w_if1 rfl c1 k1 k2

theorem k583_9 {P : s_P} {d : Nat} {Q : s_O → Prop} {h : s_H} {kc ks : Nat} {r0 : Term} {x1 x2 : Int} {t3 t4 t5 t6 t7 t8 t9 t10 t11 t12 t13 t14 : Term}  (k : Q (.inl (some (vi 0)), h, kc, ks))   : wr P d sw_c583 sw_h583 (9, [r0, vi x1, vi x2, t3, t4, t5, t6, t7, t8, t9, t10, t11, t12, t13, t14], [], h, kc, ks) Q := by
  refine w_c32 rfl (by decide) 0 (by decide) ?_
  exact w_iret rfl k

theorem k583_11 {P : s_P} {d : Nat} {Q : s_O → Prop} {h : s_H} {kc ks : Nat} {r0 : Term} {x1 x2 : Int} {t3 t4 t5 t6 t7 t8 t9 t10 t11 t12 t13 t14 : Term} {q2 : Nat} {f3 : List Term} {v5 : Term} (g4 : s_get h q2 = some (1, 11, f3)) (k : wm P d 463 [v5] h (wq P d sw_c583 sw_h583 18 [.index q2, vi x1, vi x2, t3, t4, t5, t6, t7, t8, t9, t10, t11, t12, t13, t14] [] kc ks Q)) (e_q2 : r0 = .index q2 := by first | rfl | assumption) (y1 : s_ty r0 = 3 := by first | rfl | assumption) (n6 : s_nth f3 10 = some v5 := by first | rfl | assumption)  : wr P d sw_c583 sw_h583 (11, [r0, vi x1, vi x2, t3, t4, t5, t6, t7, t8, t9, t10, t11, t12, t13, t14], [], h, kc, ks) Q := by
  refine w_ld rfl rfl (Or.inr (Or.inr ⟨by decide, y1⟩)) ?_
  subst e_q2
  refine w_getf rfl g4 n6 ?_
  exact w_cs rfl [v5] [] rfl rfl (s_wt_4 rfl) k

theorem k583_18 {P : s_P} {d : Nat} {Q : s_O → Prop} {h : s_H} {kc ks : Nat} {r0 : Term} {x1 x2 : Int} {t3 t4 t5 t6 t7 t8 t9 t10 t11 t12 t13 t14 : Term} {s0 : Int}  (k1 : s0 < 0 → wr P d sw_c583 sw_h583 (31, [r0, vi x1, vi x2, t3, t4, t5, t6, t7, t8, t9, t10, t11, t12, t13, t14], [], h, kc, ks) Q) (k2 : ¬ s0 < 0 → wr P d sw_c583 sw_h583 (21, [r0, vi x1, vi x2, t3, t4, t5, t6, t7, t8, t9, t10, t11, t12, t13, t14], [], h, kc, ks) Q)  (c1 : In3 s0 := by first | omega | assumption | (simp only [mk_len, List.length_map]; omega) | decide) : wr P d sw_c583 sw_h583 (18, [r0, vi x1, vi x2, t3, t4, t5, t6, t7, t8, t9, t10, t11, t12, t13, t14], [vi s0], h, kc, ks) Q := by
  exact w_if1 rfl c1 k1 k2

theorem k583_21 {P : s_P} {d : Nat} {Q : s_O → Prop} {h : s_H} {kc ks : Nat} {r0 : Term} {x1 x2 : Int} {t3 t4 t5 t6 t7 t8 t9 t10 t11 t12 t13 t14 : Term} {q2 : Nat} {f3 : List Term} {v5 : Term} (g4 : s_get h q2 = some (1, 11, f3)) (k : wm P d 463 [v5] h (wq P d sw_c583 sw_h583 28 [.index q2, vi x1, vi x2, t3, t4, t5, t6, t7, t8, t9, t10, t11, t12, t13, t14] [] kc ks Q)) (e_q2 : r0 = .index q2 := by first | rfl | assumption) (y1 : s_ty r0 = 3 := by first | rfl | assumption) (n6 : s_nth f3 12 = some v5 := by first | rfl | assumption)  : wr P d sw_c583 sw_h583 (21, [r0, vi x1, vi x2, t3, t4, t5, t6, t7, t8, t9, t10, t11, t12, t13, t14], [], h, kc, ks) Q := by
  refine w_ld rfl rfl (Or.inr (Or.inr ⟨by decide, y1⟩)) ?_
  subst e_q2
  refine w_getf rfl g4 n6 ?_
  exact w_cs rfl [v5] [] rfl rfl (s_wt_4 rfl) k

theorem k583_28 {P : s_P} {d : Nat} {Q : s_O → Prop} {h : s_H} {kc ks : Nat} {r0 : Term} {x1 x2 : Int} {t3 t4 t5 t6 t7 t8 t9 t10 t11 t12 t13 t14 : Term} {s0 : Int}  (k1 : 0 ≤ s0 → wr P d sw_c583 sw_h583 (37, [r0, vi x1, vi x2, t3, t4, t5, t6, t7, t8, t9, t10, t11, t12, t13, t14], [], h, kc, ks) Q) (k2 : ¬ 0 ≤ s0 → wr P d sw_c583 sw_h583 (31, [r0, vi x1, vi x2, t3, t4, t5, t6, t7, t8, t9, t10, t11, t12, t13, t14], [], h, kc, ks) Q)  (c1 : In3 s0 := by first | omega | assumption | (simp only [mk_len, List.length_map]; omega) | decide) : wr P d sw_c583 sw_h583 (28, [r0, vi x1, vi x2, t3, t4, t5, t6, t7, t8, t9, t10, t11, t12, t13, t14], [vi s0], h, kc, ks) Q := by
  exact w_if1 rfl c1 k1 k2

theorem k583_31 {P : s_P} {d : Nat} {Q : s_O → Prop} {h : s_H} {kc ks : Nat} {r0 : Term} {x1 x2 : Int} {t3 t4 t5 t6 t7 t8 t9 t10 t11 t12 t13 t14 : Term} {q2 : Nat} {f3 : List Term} (g4 : s_get h q2 = some (1, 11, f3)) (k : wm P d 570 [.index q2, vi 2] h (wq P d sw_c583 sw_h583 36 [.index q2, vi x1, vi x2, t3, t4, t5, t6, t7, t8, t9, t10, t11, t12, t13, t14] [] kc ks Q)) (e_q2 : r0 = .index q2 := by first | rfl | assumption) (y1 : s_ty r0 = 3 := by first | rfl | assumption)  : wr P d sw_c583 sw_h583 (31, [r0, vi x1, vi x2, t3, t4, t5, t6, t7, t8, t9, t10, t11, t12, t13, t14], [], h, kc, ks) Q := by
  refine w_ld rfl rfl (Or.inr (Or.inr ⟨by decide, y1⟩)) ?_
  refine w_c32 rfl (by decide) 2 (by decide) ?_
  subst e_q2
  exact w_cv rfl [.index q2, vi 2] [] rfl rfl (s_wt_4 rfl) rfl g4 k

theorem k583_36 {P : s_P} {d : Nat} {Q : s_O → Prop} {h : s_H} {kc ks : Nat} {r0 : Term} {x1 x2 : Int} {t3 t4 t5 t6 t7 t8 t9 t10 t11 t12 t13 t14 : Term} {s0 : Int}  (k : Q (.inl (some (vi s0)), h, kc, ks))   : wr P d sw_c583 sw_h583 (36, [r0, vi x1, vi x2, t3, t4, t5, t6, t7, t8, t9, t10, t11, t12, t13, t14], [vi s0], h, kc, ks) Q := by
  exact w_iret rfl k

theorem k583_37 {P : s_P} {d : Nat} {Q : s_O → Prop} {h : s_H} {kc ks : Nat} {r0 : Term} {x1 x2 : Int} {t3 t4 t5 t6 t7 t8 t9 t10 t11 t12 t13 t14 : Term} {q2 : Nat} {f3 : List Term} {v5 : Term} (g4 : s_get h q2 = some (1, 11, f3)) (k : wm P d 463 [v5] h (wq P d sw_c583 sw_h583 44 [.index q2, vi x1, vi x2, t3, t4, t5, t6, t7, t8, t9, t10, t11, t12, t13, t14] [] kc ks Q)) (e_q2 : r0 = .index q2 := by first | rfl | assumption) (y1 : s_ty r0 = 3 := by first | rfl | assumption) (n6 : s_nth f3 10 = some v5 := by first | rfl | assumption)  : wr P d sw_c583 sw_h583 (37, [r0, vi x1, vi x2, t3, t4, t5, t6, t7, t8, t9, t10, t11, t12, t13, t14], [], h, kc, ks) Q := by
  refine w_ld rfl rfl (Or.inr (Or.inr ⟨by decide, y1⟩)) ?_
  subst e_q2
  refine w_getf rfl g4 n6 ?_
  exact w_cs rfl [v5] [] rfl rfl (s_wt_4 rfl) k

theorem k583_44 {P : s_P} {d : Nat} {Q : s_O → Prop} {h : s_H} {kc ks : Nat} {r0 : Term} {x1 x2 : Int} {t3 t4 t5 t6 t7 t8 t9 t10 t11 t12 t13 t14 : Term} {s0 : Int} {q2 : Nat} {f3 : List Term} {v5 : Term} (g4 : s_get h q2 = some (1, 11, f3)) (k : wm P d 463 [v5] h (wq P d sw_c583 sw_h583 52 [.index q2, vi x1, vi x2, vi s0, t4, t5, t6, t7, t8, t9, t10, t11, t12, t13, t14] [] kc ks Q)) (e_q2 : r0 = .index q2 := by first | rfl | assumption) (y1 : s_ty r0 = 3 := by first | rfl | assumption) (n6 : s_nth f3 12 = some v5 := by first | rfl | assumption)  : wr P d sw_c583 sw_h583 (44, [r0, vi x1, vi x2, t3, t4, t5, t6, t7, t8, t9, t10, t11, t12, t13, t14], [vi s0], h, kc, ks) Q := by
  refine w_st (ls' := [r0, vi x1, vi x2, vi s0, t4, t5, t6, t7, t8, t9, t10, t11, t12, t13, t14]) rfl (Or.inl ⟨by decide, rfl⟩) rfl ?_
  refine w_ld rfl rfl (Or.inr (Or.inr ⟨by decide, y1⟩)) ?_
  subst e_q2
  refine w_getf rfl g4 n6 ?_
  exact w_cs rfl [v5] [] rfl rfl (s_wt_4 rfl) k

theorem k583_52 {P : s_P} {d : Nat} {Q : s_O → Prop} {h : s_H} {kc ks : Nat} {r0 : Term} {x1 x2 x3 : Int} {t4 t5 t6 t7 t8 t9 t10 t11 t12 t13 t14 : Term} {s0 : Int}  (k : wr P d sw_c583 sw_h583 (57, [r0, vi x1, vi x2, vi x3, vi s0, vi 0, t6, t7, t8, t9, t10, t11, t12, t13, t14], [], h, kc, ks) Q)   : wr P d sw_c583 sw_h583 (52, [r0, vi x1, vi x2, vi x3, t4, t5, t6, t7, t8, t9, t10, t11, t12, t13, t14], [vi s0], h, kc, ks) Q := by
  refine w_st (ls' := [r0, vi x1, vi x2, vi x3, vi s0, t5, t6, t7, t8, t9, t10, t11, t12, t13, t14]) rfl (Or.inl ⟨by decide, rfl⟩) rfl ?_
  refine w_c32 rfl (by decide) 0 (by decide) ?_
  refine w_st (ls' := [r0, vi x1, vi x2, vi x3, vi s0, vi 0, t6, t7, t8, t9, t10, t11, t12, t13, t14]) rfl (Or.inl ⟨by decide, rfl⟩) rfl ?_
  exact k

theorem k583_57 {P : s_P} {d : Nat} {Q : s_O → Prop} {h : s_H} {kc ks : Nat} {r0 : Term} {x1 x2 x3 x4 x5 : Int} {t6 t7 t8 t9 t10 t11 t12 t13 t14 : Term}  (k1 : 6400 ≤ x5 → wr P d sw_c583 sw_h583 (79, [r0, vi x1, vi x2, vi x3, vi x4, vi x5, t6, t7, t8, t9, t10, t11, t12, t13, t14], [], h, kc, ks) Q) (k2 : ¬ 6400 ≤ x5 → wr P d sw_c583 sw_h583 (65, [r0, vi x1, vi x2, vi x3, vi x4, vi x5, t6, t7, t8, t9, t10, t11, t12, t13, t14], [], h, kc, ks) Q)  (c1 : In3 x5 := by first | omega | assumption | (simp only [mk_len, List.length_map]; omega) | decide) : wr P d sw_c583 sw_h583 (57, [r0, vi x1, vi x2, vi x3, vi x4, vi x5, t6, t7, t8, t9, t10, t11, t12, t13, t14], [], h, kc, ks) Q := by
  refine w_ld rfl rfl (Or.inl ⟨by decide, rfl⟩) ?_
  refine w_c32 rfl (by decide) 6400 (by decide) ?_
  exact w_if2 rfl c1 (by decide) k1 k2

theorem k583_65 {P : s_P} {d : Nat} {Q : s_O → Prop} {h : s_H} {kc ks : Nat} {r0 : Term} {x1 x2 x3 x4 x5 : Int} {t6 t7 t8 t9 t10 t11 t12 t13 t14 : Term} {q2 : Nat} {f3 : List Term} {v5 : Term} {q7 : Nat} {a8 : List Int} (g4 : s_get h q2 = some (1, 11, f3)) (g9 : s_get h q7 = some (0, 1, a8.map vl)) (k : wr P d sw_c583 sw_h583 (57, [.index q2, vi x1, vi x2, vi x3, vi x4, vi (x5 + 1), t6, t7, t8, t9, t10, t11, t12, t13, t14], [], (hp h q7 (0, 1, (a8.set (Int.toNat (x5)) 0).map vl)), kc, ks) Q) (e_q2 : r0 = .index q2 := by first | rfl | assumption) (e_q7 : v5 = .index q7 := by first | rfl | assumption) (y1 : s_ty r0 = 3 := by first | rfl | assumption) (n6 : s_nth f3 25 = some v5 := by first | rfl | assumption) (c10 : x5 < a8.length := by first | omega | assumption | (simp only [mk_len, List.length_map]; omega) | decide) (c11 : 0 ≤ x5 := by first | omega | assumption | (simp only [mk_len, List.length_map]; omega) | decide) (c12 : In3 x5 := by first | omega | assumption | (simp only [mk_len, List.length_map]; omega) | decide) (c13 : 0 < q7 := by first | omega | assumption | (simp only [mk_len, List.length_map]; omega) | decide) : wr P d sw_c583 sw_h583 (65, [r0, vi x1, vi x2, vi x3, vi x4, vi x5, t6, t7, t8, t9, t10, t11, t12, t13, t14], [], h, kc, ks) Q := by
  refine w_ld rfl rfl (Or.inr (Or.inr ⟨by decide, y1⟩)) ?_
  subst e_q2
  refine w_getf rfl g4 n6 ?_
  refine w_ld rfl rfl (Or.inl ⟨by decide, rfl⟩) ?_
  refine w_c64 rfl (by decide) 0 (by decide) ?_
  subst e_q7
  refine w_last rfl g9 (Nat.ble_eq_true_of_le c13) c12 c11 c10 ?_
  refine w_iinc (ls' := [.index q2, vi x1, vi x2, vi x3, vi x4, vi (x5 + 1), t6, t7, t8, t9, t10, t11, t12, t13, t14]) rfl rfl 1 (by decide) rfl ?_
  refine w_goto rfl ?_
  exact k

theorem k583_79 {P : s_P} {d : Nat} {Q : s_O → Prop} {h : s_H} {kc ks : Nat} {r0 : Term} {x1 x2 x3 x4 x5 : Int} {t6 t7 t8 t9 t10 t11 t12 t13 t14 : Term}  (k : wr P d sw_c583 sw_h583 (82, [r0, vi x1, vi x2, vi x3, vi x4, vi 0, t6, t7, t8, t9, t10, t11, t12, t13, t14], [], h, kc, ks) Q)   : wr P d sw_c583 sw_h583 (79, [r0, vi x1, vi x2, vi x3, vi x4, vi x5, t6, t7, t8, t9, t10, t11, t12, t13, t14], [], h, kc, ks) Q := by
  refine w_c32 rfl (by decide) 0 (by decide) ?_
  refine w_st (ls' := [r0, vi x1, vi x2, vi x3, vi x4, vi 0, t6, t7, t8, t9, t10, t11, t12, t13, t14]) rfl (Or.inl ⟨by decide, rfl⟩) rfl ?_
  exact k

theorem k583_82 {P : s_P} {d : Nat} {Q : s_O → Prop} {h : s_H} {kc ks : Nat} {r0 : Term} {x1 x2 x3 x4 x5 : Int} {t6 t7 t8 t9 t10 t11 t12 t13 t14 : Term}  (k1 : x4 ≤ x5 → wr P d sw_c583 sw_h583 (135, [r0, vi x1, vi x2, vi x3, vi x4, vi x5, t6, t7, t8, t9, t10, t11, t12, t13, t14], [], h, kc, ks) Q) (k2 : ¬ x4 ≤ x5 → wr P d sw_c583 sw_h583 (89, [r0, vi x1, vi x2, vi x3, vi x4, vi x5, t6, t7, t8, t9, t10, t11, t12, t13, t14], [], h, kc, ks) Q)  (c1 : In3 x5 := by first | omega | assumption | (simp only [mk_len, List.length_map]; omega) | decide) (c2 : In3 x4 := by first | omega | assumption | (simp only [mk_len, List.length_map]; omega) | decide) : wr P d sw_c583 sw_h583 (82, [r0, vi x1, vi x2, vi x3, vi x4, vi x5, t6, t7, t8, t9, t10, t11, t12, t13, t14], [], h, kc, ks) Q := by
  refine w_ld rfl rfl (Or.inl ⟨by decide, rfl⟩) ?_
  refine w_ld rfl rfl (Or.inl ⟨by decide, rfl⟩) ?_
  exact w_if2 rfl c1 c2 k1 k2

theorem k583_89 {P : s_P} {d : Nat} {Q : s_O → Prop} {h : s_H} {kc ks : Nat} {r0 : Term} {x1 x2 x3 x4 x5 : Int} {t6 t7 t8 t9 t10 t11 t12 t13 t14 : Term}  (k : wr P d sw_c583 sw_h583 (92, [r0, vi x1, vi x2, vi x3, vi x4, vi x5, vi 0, t7, t8, t9, t10, t11, t12, t13, t14], [], h, kc, ks) Q)   : wr P d sw_c583 sw_h583 (89, [r0, vi x1, vi x2, vi x3, vi x4, vi x5, t6, t7, t8, t9, t10, t11, t12, t13, t14], [], h, kc, ks) Q := by
  refine w_c32 rfl (by decide) 0 (by decide) ?_
  refine w_st (ls' := [r0, vi x1, vi x2, vi x3, vi x4, vi x5, vi 0, t7, t8, t9, t10, t11, t12, t13, t14]) rfl (Or.inl ⟨by decide, rfl⟩) rfl ?_
  exact k

theorem k583_92 {P : s_P} {d : Nat} {Q : s_O → Prop} {h : s_H} {kc ks : Nat} {r0 : Term} {x1 x2 x3 x4 x5 x6 : Int} {t7 t8 t9 t10 t11 t12 t13 t14 : Term}  (k1 : x3 < x6 → wr P d sw_c583 sw_h583 (129, [r0, vi x1, vi x2, vi x3, vi x4, vi x5, vi x6, t7, t8, t9, t10, t11, t12, t13, t14], [], h, kc, ks) Q) (k2 : ¬ x3 < x6 → wr P d sw_c583 sw_h583 (98, [r0, vi x1, vi x2, vi x3, vi x4, vi x5, vi x6, t7, t8, t9, t10, t11, t12, t13, t14], [], h, kc, ks) Q)  (c1 : In3 x6 := by first | omega | assumption | (simp only [mk_len, List.length_map]; omega) | decide) (c2 : In3 x3 := by first | omega | assumption | (simp only [mk_len, List.length_map]; omega) | decide) : wr P d sw_c583 sw_h583 (92, [r0, vi x1, vi x2, vi x3, vi x4, vi x5, vi x6, t7, t8, t9, t10, t11, t12, t13, t14], [], h, kc, ks) Q := by
  refine w_ld rfl rfl (Or.inl ⟨by decide, rfl⟩) ?_
  refine w_ld rfl rfl (Or.inl ⟨by decide, rfl⟩) ?_
  exact w_if2 rfl c1 c2 k1 k2

theorem k583_98 {P : s_P} {d : Nat} {Q : s_O → Prop} {h : s_H} {kc ks : Nat} {r0 : Term} {x1 x2 x3 x4 x5 x6 : Int} {t7 t8 t9 t10 t11 t12 t13 t14 : Term} {q2 : Nat} {f3 : List Term} {v5 v7 : Term} {q9 : Nat} {a10 : List Int} {q15 : Nat} {a16 : List Int} (g4 : s_get h q2 = some (1, 11, f3)) (g11 : s_get h q9 = some (0, 1, a10.map vl)) (g17 : s_get h q15 = some (0, 1, a16.map vl)) (k : wr P d sw_c583 sw_h583 (92, [.index q2, vi x1, vi x2, vi x3, vi x4, vi x5, vi (x6 + 1), t7, t8, t9, t10, t11, t12, t13, t14], [], (hp h q15 (0, 1, (a16.set (Int.toNat (((80 * x5) + x5) + x6)) (gi a10 (x3 - x6))).map vl)), kc, ks) Q) (e_q2 : r0 = .index q2 := by first | rfl | assumption) (e_q9 : v7 = .index q9 := by first | rfl | assumption) (e_q15 : v5 = .index q15 := by first | rfl | assumption) (y1 : s_ty r0 = 3 := by first | rfl | assumption) (n6 : s_nth f3 25 = some v5 := by first | rfl | assumption) (n8 : s_nth f3 10 = some v7 := by first | rfl | assumption) (c12 : x3 - x6 < a10.length := by first | omega | assumption | (simp only [mk_len, List.length_map]; omega) | decide) (c13 : 0 ≤ x3 - x6 := by first | omega | assumption | (simp only [mk_len, List.length_map]; omega) | decide) (c14 : In3 (x3 - x6) := by first | omega | assumption | (simp only [mk_len, List.length_map]; omega) | decide) (c18 : ((80 * x5) + x5) + x6 < a16.length := by first | omega | assumption | (simp only [mk_len, List.length_map]; omega) | decide) (c19 : 0 ≤ ((80 * x5) + x5) + x6 := by first | omega | assumption | (simp only [mk_len, List.length_map]; omega) | decide) (c20 : In3 (((80 * x5) + x5) + x6) := by first | omega | assumption | (simp only [mk_len, List.length_map]; omega) | decide) (c21 : 0 < q15 := by first | omega | assumption | (simp only [mk_len, List.length_map]; omega) | decide) : wr P d sw_c583 sw_h583 (98, [r0, vi x1, vi x2, vi x3, vi x4, vi x5, vi x6, t7, t8, t9, t10, t11, t12, t13, t14], [], h, kc, ks) Q := by
  refine w_ld rfl rfl (Or.inr (Or.inr ⟨by decide, y1⟩)) ?_
  subst e_q2
  refine w_getf rfl g4 n6 ?_
  refine w_c32 rfl (by decide) 80 (by decide) ?_
  refine w_ld rfl rfl (Or.inl ⟨by decide, rfl⟩) ?_
  refine w_imul rfl ?_
  refine w_ld rfl rfl (Or.inl ⟨by decide, rfl⟩) ?_
  refine w_iadd rfl ?_
  refine w_ld rfl rfl (Or.inl ⟨by decide, rfl⟩) ?_
  refine w_iadd rfl ?_
  refine w_ld rfl rfl (Or.inr (Or.inr ⟨by decide, rfl⟩)) ?_
  refine w_getf rfl g4 n8 ?_
  refine w_ld rfl rfl (Or.inl ⟨by decide, rfl⟩) ?_
  refine w_ld rfl rfl (Or.inl ⟨by decide, rfl⟩) ?_
  refine w_isub rfl ?_
  subst e_q9
  refine w_lald rfl g11 c14 c13 c12 ?_
  subst e_q15
  refine w_last rfl g17 (Nat.ble_eq_true_of_le c21) c20 c19 c18 ?_
  refine w_iinc (ls' := [.index q2, vi x1, vi x2, vi x3, vi x4, vi x5, vi (x6 + 1), t7, t8, t9, t10, t11, t12, t13, t14]) rfl rfl 1 (by decide) rfl ?_
  refine w_goto rfl ?_
  exact k

theorem k583_129 {P : s_P} {d : Nat} {Q : s_O → Prop} {h : s_H} {kc ks : Nat} {r0 : Term} {x1 x2 x3 x4 x5 x6 : Int} {t7 t8 t9 t10 t11 t12 t13 t14 : Term}  (k : wr P d sw_c583 sw_h583 (82, [r0, vi x1, vi x2, vi x3, vi x4, vi (x5 + 1), vi x6, t7, t8, t9, t10, t11, t12, t13, t14], [], h, kc, ks) Q)   : wr P d sw_c583 sw_h583 (129, [r0, vi x1, vi x2, vi x3, vi x4, vi x5, vi x6, t7, t8, t9, t10, t11, t12, t13, t14], [], h, kc, ks) Q := by
  refine w_iinc (ls' := [r0, vi x1, vi x2, vi x3, vi x4, vi (x5 + 1), vi x6, t7, t8, t9, t10, t11, t12, t13, t14]) rfl rfl 1 (by decide) rfl ?_
  refine w_goto rfl ?_
  exact k

theorem k583_135 {P : s_P} {d : Nat} {Q : s_O → Prop} {h : s_H} {kc ks : Nat} {r0 : Term} {x1 x2 x3 x4 x5 : Int} {t6 t7 t8 t9 t10 t11 t12 t13 t14 : Term}  (k : wr P d sw_c583 sw_h583 (138, [r0, vi x1, vi x2, vi x3, vi x4, vi 0, t6, t7, t8, t9, t10, t11, t12, t13, t14], [], h, kc, ks) Q)   : wr P d sw_c583 sw_h583 (135, [r0, vi x1, vi x2, vi x3, vi x4, vi x5, t6, t7, t8, t9, t10, t11, t12, t13, t14], [], h, kc, ks) Q := by
  refine w_c32 rfl (by decide) 0 (by decide) ?_
  refine w_st (ls' := [r0, vi x1, vi x2, vi x3, vi x4, vi 0, t6, t7, t8, t9, t10, t11, t12, t13, t14]) rfl (Or.inl ⟨by decide, rfl⟩) rfl ?_
  exact k

theorem k583_138 {P : s_P} {d : Nat} {Q : s_O → Prop} {h : s_H} {kc ks : Nat} {r0 : Term} {x1 x2 x3 x4 x5 : Int} {t6 t7 t8 t9 t10 t11 t12 t13 t14 : Term}  (k1 : x3 ≤ x5 → wr P d sw_c583 sw_h583 (195, [r0, vi x1, vi x2, vi x3, vi x4, vi x5, t6, t7, t8, t9, t10, t11, t12, t13, t14], [], h, kc, ks) Q) (k2 : ¬ x3 ≤ x5 → wr P d sw_c583 sw_h583 (144, [r0, vi x1, vi x2, vi x3, vi x4, vi x5, t6, t7, t8, t9, t10, t11, t12, t13, t14], [], h, kc, ks) Q)  (c1 : In3 x5 := by first | omega | assumption | (simp only [mk_len, List.length_map]; omega) | decide) (c2 : In3 x3 := by first | omega | assumption | (simp only [mk_len, List.length_map]; omega) | decide) : wr P d sw_c583 sw_h583 (138, [r0, vi x1, vi x2, vi x3, vi x4, vi x5, t6, t7, t8, t9, t10, t11, t12, t13, t14], [], h, kc, ks) Q := by
  refine w_ld rfl rfl (Or.inl ⟨by decide, rfl⟩) ?_
  refine w_ld rfl rfl (Or.inl ⟨by decide, rfl⟩) ?_
  exact w_if2 rfl c1 c2 k1 k2

theorem k583_144 {P : s_P} {d : Nat} {Q : s_O → Prop} {h : s_H} {kc ks : Nat} {r0 : Term} {x1 x2 x3 x4 x5 : Int} {t6 t7 t8 t9 t10 t11 t12 t13 t14 : Term}  (k : wr P d sw_c583 sw_h583 (147, [r0, vi x1, vi x2, vi x3, vi x4, vi x5, vi 0, t7, t8, t9, t10, t11, t12, t13, t14], [], h, kc, ks) Q)   : wr P d sw_c583 sw_h583 (144, [r0, vi x1, vi x2, vi x3, vi x4, vi x5, t6, t7, t8, t9, t10, t11, t12, t13, t14], [], h, kc, ks) Q := by
  refine w_c32 rfl (by decide) 0 (by decide) ?_
  refine w_st (ls' := [r0, vi x1, vi x2, vi x3, vi x4, vi x5, vi 0, t7, t8, t9, t10, t11, t12, t13, t14]) rfl (Or.inl ⟨by decide, rfl⟩) rfl ?_
  exact k

theorem k583_147 {P : s_P} {d : Nat} {Q : s_O → Prop} {h : s_H} {kc ks : Nat} {r0 : Term} {x1 x2 x3 x4 x5 x6 : Int} {t7 t8 t9 t10 t11 t12 t13 t14 : Term}  (k1 : x4 < x6 → wr P d sw_c583 sw_h583 (189, [r0, vi x1, vi x2, vi x3, vi x4, vi x5, vi x6, t7, t8, t9, t10, t11, t12, t13, t14], [], h, kc, ks) Q) (k2 : ¬ x4 < x6 → wr P d sw_c583 sw_h583 (154, [r0, vi x1, vi x2, vi x3, vi x4, vi x5, vi x6, t7, t8, t9, t10, t11, t12, t13, t14], [], h, kc, ks) Q)  (c1 : In3 x6 := by first | omega | assumption | (simp only [mk_len, List.length_map]; omega) | decide) (c2 : In3 x4 := by first | omega | assumption | (simp only [mk_len, List.length_map]; omega) | decide) : wr P d sw_c583 sw_h583 (147, [r0, vi x1, vi x2, vi x3, vi x4, vi x5, vi x6, t7, t8, t9, t10, t11, t12, t13, t14], [], h, kc, ks) Q := by
  refine w_ld rfl rfl (Or.inl ⟨by decide, rfl⟩) ?_
  refine w_ld rfl rfl (Or.inl ⟨by decide, rfl⟩) ?_
  exact w_if2 rfl c1 c2 k1 k2

theorem k583_154 {P : s_P} {d : Nat} {Q : s_O → Prop} {h : s_H} {kc ks : Nat} {r0 : Term} {x1 x2 x3 x4 x5 x6 : Int} {t7 t8 t9 t10 t11 t12 t13 t14 : Term} {q2 : Nat} {f3 : List Term} {v5 v7 : Term} {q9 : Nat} {a10 : List Int} {q15 : Nat} {a16 : List Int} (g4 : s_get h q2 = some (1, 11, f3)) (g11 : s_get h q9 = some (0, 1, a10.map vl)) (g17 : s_get h q15 = some (0, 1, a16.map vl)) (k : wr P d sw_c583 sw_h583 (147, [.index q2, vi x1, vi x2, vi x3, vi x4, vi x5, vi (x6 + 1), t7, t8, t9, t10, t11, t12, t13, t14], [], (hp h q15 (0, 1, (a16.set (Int.toNat (((80 * (x4 + x5)) + x5) + x6)) (gi a10 (x4 - x6))).map vl)), kc, ks) Q) (e_q2 : r0 = .index q2 := by first | rfl | assumption) (e_q9 : v7 = .index q9 := by first | rfl | assumption) (e_q15 : v5 = .index q15 := by first | rfl | assumption) (y1 : s_ty r0 = 3 := by first | rfl | assumption) (n6 : s_nth f3 25 = some v5 := by first | rfl | assumption) (n8 : s_nth f3 12 = some v7 := by first | rfl | assumption) (c12 : x4 - x6 < a10.length := by first | omega | assumption | (simp only [mk_len, List.length_map]; omega) | decide) (c13 : 0 ≤ x4 - x6 := by first | omega | assumption | (simp only [mk_len, List.length_map]; omega) | decide) (c14 : In3 (x4 - x6) := by first | omega | assumption | (simp only [mk_len, List.length_map]; omega) | decide) (c18 : ((80 * (x4 + x5)) + x5) + x6 < a16.length := by first | omega | assumption | (simp only [mk_len, List.length_map]; omega) | decide) (c19 : 0 ≤ ((80 * (x4 + x5)) + x5) + x6 := by first | omega | assumption | (simp only [mk_len, List.length_map]; omega) | decide) (c20 : In3 (((80 * (x4 + x5)) + x5) + x6) := by first | omega | assumption | (simp only [mk_len, List.length_map]; omega) | decide) (c21 : 0 < q15 := by first | omega | assumption | (simp only [mk_len, List.length_map]; omega) | decide) : wr P d sw_c583 sw_h583 (154, [r0, vi x1, vi x2, vi x3, vi x4, vi x5, vi x6, t7, t8, t9, t10, t11, t12, t13, t14], [], h, kc, ks) Q := by
  refine w_ld rfl rfl (Or.inr (Or.inr ⟨by decide, y1⟩)) ?_
  subst e_q2
  refine w_getf rfl g4 n6 ?_
  refine w_c32 rfl (by decide) 80 (by decide) ?_
  refine w_ld rfl rfl (Or.inl ⟨by decide, rfl⟩) ?_
  refine w_ld rfl rfl (Or.inl ⟨by decide, rfl⟩) ?_
  refine w_iadd rfl ?_
  refine w_imul rfl ?_
  refine w_ld rfl rfl (Or.inl ⟨by decide, rfl⟩) ?_
  refine w_iadd rfl ?_
  refine w_ld rfl rfl (Or.inl ⟨by decide, rfl⟩) ?_
  refine w_iadd rfl ?_
  refine w_ld rfl rfl (Or.inr (Or.inr ⟨by decide, rfl⟩)) ?_
  refine w_getf rfl g4 n8 ?_
  refine w_ld rfl rfl (Or.inl ⟨by decide, rfl⟩) ?_
  refine w_ld rfl rfl (Or.inl ⟨by decide, rfl⟩) ?_
  refine w_isub rfl ?_
  subst e_q9
  refine w_lald rfl g11 c14 c13 c12 ?_
  subst e_q15
  refine w_last rfl g17 (Nat.ble_eq_true_of_le c21) c20 c19 c18 ?_
  refine w_iinc (ls' := [.index q2, vi x1, vi x2, vi x3, vi x4, vi x5, vi (x6 + 1), t7, t8, t9, t10, t11, t12, t13, t14]) rfl rfl 1 (by decide) rfl ?_
  refine w_goto rfl ?_
  exact k

theorem k583_189 {P : s_P} {d : Nat} {Q : s_O → Prop} {h : s_H} {kc ks : Nat} {r0 : Term} {x1 x2 x3 x4 x5 x6 : Int} {t7 t8 t9 t10 t11 t12 t13 t14 : Term}  (k : wr P d sw_c583 sw_h583 (138, [r0, vi x1, vi x2, vi x3, vi x4, vi (x5 + 1), vi x6, t7, t8, t9, t10, t11, t12, t13, t14], [], h, kc, ks) Q)   : wr P d sw_c583 sw_h583 (189, [r0, vi x1, vi x2, vi x3, vi x4, vi x5, vi x6, t7, t8, t9, t10, t11, t12, t13, t14], [], h, kc, ks) Q := by
  refine w_iinc (ls' := [r0, vi x1, vi x2, vi x3, vi x4, vi (x5 + 1), vi x6, t7, t8, t9, t10, t11, t12, t13, t14]) rfl rfl 1 (by decide) rfl ?_
  refine w_goto rfl ?_
  exact k

theorem k583_195 {P : s_P} {d : Nat} {Q : s_O → Prop} {h : s_H} {kc ks : Nat} {r0 : Term} {x1 x2 x3 x4 x5 : Int} {t6 t7 t8 t9 t10 t11 t12 t13 t14 : Term}  (k : wr P d sw_c583 sw_h583 (201, [r0, vi x1, vi x2, vi x3, vi x4, vl 1, .result, vi 0, t8, t9, t10, t11, t12, t13, t14], [], h, kc, ks) Q)   : wr P d sw_c583 sw_h583 (195, [r0, vi x1, vi x2, vi x3, vi x4, vi x5, t6, t7, t8, t9, t10, t11, t12, t13, t14], [], h, kc, ks) Q := by
  refine w_c64 rfl (by decide) 1 (by decide) ?_
  refine w_stl (ls' := [r0, vi x1, vi x2, vi x3, vi x4, vl 1, t6, t7, t8, t9, t10, t11, t12, t13, t14]) (ls'' := [r0, vi x1, vi x2, vi x3, vi x4, vl 1, .result, t7, t8, t9, t10, t11, t12, t13, t14]) rfl ⟨by decide, rfl⟩ rfl rfl ?_
  refine w_c32 rfl (by decide) 0 (by decide) ?_
  refine w_st (ls' := [r0, vi x1, vi x2, vi x3, vi x4, vl 1, .result, vi 0, t8, t9, t10, t11, t12, t13, t14]) rfl (Or.inl ⟨by decide, rfl⟩) rfl ?_
  exact k

theorem k583_201 {P : s_P} {d : Nat} {Q : s_O → Prop} {h : s_H} {kc ks : Nat} {r0 : Term} {x1 x2 x3 x4 x5 : Int} {t6 : Term} {x7 : Int} {t8 t9 t10 t11 t12 t13 t14 : Term}  (k1 : x3 + x4 ≤ x7 → wr P d sw_c583 sw_h583 (508, [r0, vi x1, vi x2, vi x3, vi x4, vl x5, t6, vi x7, t8, t9, t10, t11, t12, t13, t14], [], h, kc, ks) Q) (k2 : ¬ x3 + x4 ≤ x7 → wr P d sw_c583 sw_h583 (210, [r0, vi x1, vi x2, vi x3, vi x4, vl x5, t6, vi x7, t8, t9, t10, t11, t12, t13, t14], [], h, kc, ks) Q)  (c1 : In3 x7 := by first | omega | assumption | (simp only [mk_len, List.length_map]; omega) | decide) (c2 : In3 (x3 + x4) := by first | omega | assumption | (simp only [mk_len, List.length_map]; omega) | decide) : wr P d sw_c583 sw_h583 (201, [r0, vi x1, vi x2, vi x3, vi x4, vl x5, t6, vi x7, t8, t9, t10, t11, t12, t13, t14], [], h, kc, ks) Q := by
  refine w_ld rfl rfl (Or.inl ⟨by decide, rfl⟩) ?_
  refine w_ld rfl rfl (Or.inl ⟨by decide, rfl⟩) ?_
  refine w_ld rfl rfl (Or.inl ⟨by decide, rfl⟩) ?_
  refine w_iadd rfl ?_
  exact w_if2 rfl c1 c2 k1 k2

theorem k583_210 {P : s_P} {d : Nat} {Q : s_O → Prop} {h : s_H} {kc ks : Nat} {r0 : Term} {x1 x2 x3 x4 x5 : Int} {t6 : Term} {x7 : Int} {t8 t9 t10 t11 t12 t13 t14 : Term}  (k : wr P d sw_c583 sw_h583 (214, [r0, vi x1, vi x2, vi x3, vi x4, vl x5, t6, vi x7, vi x7, t9, t10, t11, t12, t13, t14], [], h, kc, ks) Q)   : wr P d sw_c583 sw_h583 (210, [r0, vi x1, vi x2, vi x3, vi x4, vl x5, t6, vi x7, t8, t9, t10, t11, t12, t13, t14], [], h, kc, ks) Q := by
  refine w_ld rfl rfl (Or.inl ⟨by decide, rfl⟩) ?_
  refine w_st (ls' := [r0, vi x1, vi x2, vi x3, vi x4, vl x5, t6, vi x7, vi x7, t9, t10, t11, t12, t13, t14]) rfl (Or.inl ⟨by decide, rfl⟩) rfl ?_
  exact k

theorem k583_214 {P : s_P} {d : Nat} {Q : s_O → Prop} {h : s_H} {kc ks : Nat} {r0 : Term} {x1 x2 x3 x4 x5 : Int} {t6 : Term} {x7 x8 : Int} {t9 t10 t11 t12 t13 t14 : Term}  (k1 : x3 + x4 ≤ x8 → wr P d sw_c583 sw_h583 (247, [r0, vi x1, vi x2, vi x3, vi x4, vl x5, t6, vi x7, vi x8, t9, t10, t11, t12, t13, t14], [], h, kc, ks) Q) (k2 : ¬ x3 + x4 ≤ x8 → wr P d sw_c583 sw_h583 (223, [r0, vi x1, vi x2, vi x3, vi x4, vl x5, t6, vi x7, vi x8, t9, t10, t11, t12, t13, t14], [], h, kc, ks) Q)  (c1 : In3 x8 := by first | omega | assumption | (simp only [mk_len, List.length_map]; omega) | decide) (c2 : In3 (x3 + x4) := by first | omega | assumption | (simp only [mk_len, List.length_map]; omega) | decide) : wr P d sw_c583 sw_h583 (214, [r0, vi x1, vi x2, vi x3, vi x4, vl x5, t6, vi x7, vi x8, t9, t10, t11, t12, t13, t14], [], h, kc, ks) Q := by
  refine w_ld rfl rfl (Or.inl ⟨by decide, rfl⟩) ?_
  refine w_ld rfl rfl (Or.inl ⟨by decide, rfl⟩) ?_
  refine w_ld rfl rfl (Or.inl ⟨by decide, rfl⟩) ?_
  refine w_iadd rfl ?_
  exact w_if2 rfl c1 c2 k1 k2

theorem k583_223 {P : s_P} {d : Nat} {Q : s_O → Prop} {h : s_H} {kc ks : Nat} {r0 : Term} {x1 x2 x3 x4 x5 : Int} {t6 : Term} {x7 x8 : Int} {t9 t10 t11 t12 t13 t14 : Term} {q2 : Nat} {f3 : List Term} {v5 : Term} {q7 : Nat} {a8 : List Int} (g4 : s_get h q2 = some (1, 11, f3)) (g9 : s_get h q7 = some (0, 1, a8.map vl)) (k1 : gi a8 ((80 * x8) + x7) ≠ 0 → wr P d sw_c583 sw_h583 (247, [.index q2, vi x1, vi x2, vi x3, vi x4, vl x5, t6, vi x7, vi x8, t9, t10, t11, t12, t13, t14], [], h, kc, ks) Q) (k2 : ¬ gi a8 ((80 * x8) + x7) ≠ 0 → wr P d sw_c583 sw_h583 (241, [.index q2, vi x1, vi x2, vi x3, vi x4, vl x5, t6, vi x7, vi x8, t9, t10, t11, t12, t13, t14], [], h, kc, ks) Q) (e_q2 : r0 = .index q2 := by first | rfl | assumption) (e_q7 : v5 = .index q7 := by first | rfl | assumption) (y1 : s_ty r0 = 3 := by first | rfl | assumption) (n6 : s_nth f3 25 = some v5 := by first | rfl | assumption) (c10 : (80 * x8) + x7 < a8.length := by first | omega | assumption | (simp only [mk_len, List.length_map]; omega) | decide) (c11 : 0 ≤ (80 * x8) + x7 := by first | omega | assumption | (simp only [mk_len, List.length_map]; omega) | decide) (c12 : In3 ((80 * x8) + x7) := by first | omega | assumption | (simp only [mk_len, List.length_map]; omega) | decide) (c13 : In6 (gi a8 ((80 * x8) + x7)) := by first | omega | assumption | (simp only [mk_len, List.length_map]; omega) | decide) : wr P d sw_c583 sw_h583 (223, [r0, vi x1, vi x2, vi x3, vi x4, vl x5, t6, vi x7, vi x8, t9, t10, t11, t12, t13, t14], [], h, kc, ks) Q := by
  refine w_ld rfl rfl (Or.inr (Or.inr ⟨by decide, y1⟩)) ?_
  subst e_q2
  refine w_getf rfl g4 n6 ?_
  refine w_c32 rfl (by decide) 80 (by decide) ?_
  refine w_ld rfl rfl (Or.inl ⟨by decide, rfl⟩) ?_
  refine w_imul rfl ?_
  refine w_ld rfl rfl (Or.inl ⟨by decide, rfl⟩) ?_
  refine w_iadd rfl ?_
  subst e_q7
  refine w_lald rfl g9 c12 c11 c10 ?_
  refine w_c64 rfl (by decide) 0 (by decide) ?_
  exact w_lcmp rfl rfl c13 (by decide) k1 k2

theorem k583_241 {P : s_P} {d : Nat} {Q : s_O → Prop} {h : s_H} {kc ks : Nat} {r0 : Term} {x1 x2 x3 x4 x5 : Int} {t6 : Term} {x7 x8 : Int} {t9 t10 t11 t12 t13 t14 : Term}  (k : wr P d sw_c583 sw_h583 (214, [r0, vi x1, vi x2, vi x3, vi x4, vl x5, t6, vi x7, vi (x8 + 1), t9, t10, t11, t12, t13, t14], [], h, kc, ks) Q)   : wr P d sw_c583 sw_h583 (241, [r0, vi x1, vi x2, vi x3, vi x4, vl x5, t6, vi x7, vi x8, t9, t10, t11, t12, t13, t14], [], h, kc, ks) Q := by
  refine w_iinc (ls' := [r0, vi x1, vi x2, vi x3, vi x4, vl x5, t6, vi x7, vi (x8 + 1), t9, t10, t11, t12, t13, t14]) rfl rfl 1 (by decide) rfl ?_
  refine w_goto rfl ?_
  exact k

theorem k583_247 {P : s_P} {d : Nat} {Q : s_O → Prop} {h : s_H} {kc ks : Nat} {r0 : Term} {x1 x2 x3 x4 x5 : Int} {t6 : Term} {x7 x8 : Int} {t9 t10 t11 t12 t13 t14 : Term}  (k1 : x8 ≠ x3 + x4 → wr P d sw_c583 sw_h583 (258, [r0, vi x1, vi x2, vi x3, vi x4, vl x5, t6, vi x7, vi x8, t9, t10, t11, t12, t13, t14], [], h, kc, ks) Q) (k2 : ¬ x8 ≠ x3 + x4 → wr P d sw_c583 sw_h583 (256, [r0, vi x1, vi x2, vi x3, vi x4, vl x5, t6, vi x7, vi x8, t9, t10, t11, t12, t13, t14], [], h, kc, ks) Q)  (c1 : In3 x8 := by first | omega | assumption | (simp only [mk_len, List.length_map]; omega) | decide) (c2 : In3 (x3 + x4) := by first | omega | assumption | (simp only [mk_len, List.length_map]; omega) | decide) : wr P d sw_c583 sw_h583 (247, [r0, vi x1, vi x2, vi x3, vi x4, vl x5, t6, vi x7, vi x8, t9, t10, t11, t12, t13, t14], [], h, kc, ks) Q := by
  refine w_ld rfl rfl (Or.inl ⟨by decide, rfl⟩) ?_
  refine w_ld rfl rfl (Or.inl ⟨by decide, rfl⟩) ?_
  refine w_ld rfl rfl (Or.inl ⟨by decide, rfl⟩) ?_
  refine w_iadd rfl ?_
  exact w_if2 rfl c1 c2 k1 k2

theorem k583_256 {P : s_P} {d : Nat} {Q : s_O → Prop} {h : s_H} {kc ks : Nat} {r0 : Term} {x1 x2 x3 x4 x5 : Int} {t6 : Term} {x7 x8 : Int} {t9 t10 t11 t12 t13 t14 : Term}  (k : Q (.inl (some (vi 0)), h, kc, ks))   : wr P d sw_c583 sw_h583 (256, [r0, vi x1, vi x2, vi x3, vi x4, vl x5, t6, vi x7, vi x8, t9, t10, t11, t12, t13, t14], [], h, kc, ks) Q := by
  refine w_c32 rfl (by decide) 0 (by decide) ?_
  exact w_iret rfl k

theorem k583_258 {P : s_P} {d : Nat} {Q : s_O → Prop} {h : s_H} {kc ks : Nat} {r0 : Term} {x1 x2 x3 x4 x5 : Int} {t6 : Term} {x7 x8 : Int} {t9 t10 t11 t12 t13 t14 : Term}  (k1 : x8 ≤ x7 → wr P d sw_c583 sw_h583 (273, [r0, vi x1, vi x2, vi x3, vi x4, vl x5, t6, vi x7, vi x8, t9, t10, t11, t12, t13, t14], [], h, kc, ks) Q) (k2 : ¬ x8 ≤ x7 → wr P d sw_c583 sw_h583 (265, [r0, vi x1, vi x2, vi x3, vi x4, vl x5, t6, vi x7, vi x8, t9, t10, t11, t12, t13, t14], [], h, kc, ks) Q)  (c1 : In3 x8 := by first | omega | assumption | (simp only [mk_len, List.length_map]; omega) | decide) (c2 : In3 x7 := by first | omega | assumption | (simp only [mk_len, List.length_map]; omega) | decide) : wr P d sw_c583 sw_h583 (258, [r0, vi x1, vi x2, vi x3, vi x4, vl x5, t6, vi x7, vi x8, t9, t10, t11, t12, t13, t14], [], h, kc, ks) Q := by
  refine w_ld rfl rfl (Or.inl ⟨by decide, rfl⟩) ?_
  refine w_ld rfl rfl (Or.inl ⟨by decide, rfl⟩) ?_
  exact w_if2 rfl c1 c2 k1 k2

theorem k583_265 {P : s_P} {d : Nat} {Q : s_O → Prop} {h : s_H} {kc ks : Nat} {r0 : Term} {x1 x2 x3 x4 x5 : Int} {t6 : Term} {x7 x8 : Int} {t9 t10 t11 t12 t13 t14 : Term}  (k : wm P d 528 [vl (-x5)] h (wq P d sw_c583 sw_h583 271 [r0, vi x1, vi x2, vi x3, vi x4, vl x5, t6, vi x7, vi x8, t9, t10, t11, t12, t13, t14] [] kc ks Q))   : wr P d sw_c583 sw_h583 (265, [r0, vi x1, vi x2, vi x3, vi x4, vl x5, t6, vi x7, vi x8, t9, t10, t11, t12, t13, t14], [], h, kc, ks) Q := by
  refine w_ld rfl rfl (Or.inr (Or.inl ⟨by decide, rfl⟩)) ?_
  refine w_lneg rfl ?_
  exact w_cs rfl [vl (-x5)] [] rfl rfl (s_wt_4 rfl) k

theorem k583_271 {P : s_P} {d : Nat} {Q : s_O → Prop} {h : s_H} {kc ks : Nat} {r0 : Term} {x1 x2 x3 x4 x5 : Int} {t6 : Term} {x7 x8 : Int} {t9 t10 t11 t12 t13 t14 : Term} {s0 : Int}  (k : wr P d sw_c583 sw_h583 (273, [r0, vi x1, vi x2, vi x3, vi x4, vl s0, .result, vi x7, vi x8, t9, t10, t11, t12, t13, t14], [], h, kc, ks) Q)   : wr P d sw_c583 sw_h583 (271, [r0, vi x1, vi x2, vi x3, vi x4, vl x5, t6, vi x7, vi x8, t9, t10, t11, t12, t13, t14], [vl s0], h, kc, ks) Q := by
  refine w_stl (ls' := [r0, vi x1, vi x2, vi x3, vi x4, vl s0, t6, vi x7, vi x8, t9, t10, t11, t12, t13, t14]) (ls'' := [r0, vi x1, vi x2, vi x3, vi x4, vl s0, .result, vi x7, vi x8, t9, t10, t11, t12, t13, t14]) rfl ⟨by decide, rfl⟩ rfl rfl ?_
  exact k

theorem k583_273 {P : s_P} {d : Nat} {Q : s_O → Prop} {h : s_H} {kc ks : Nat} {r0 : Term} {x1 x2 x3 x4 x5 : Int} {t6 : Term} {x7 x8 : Int} {t9 t10 t11 t12 t13 t14 : Term}  (k : wr P d sw_c583 sw_h583 (276, [r0, vi x1, vi x2, vi x3, vi x4, vl x5, t6, vi x7, vi x8, vi 0, t10, t11, t12, t13, t14], [], h, kc, ks) Q)   : wr P d sw_c583 sw_h583 (273, [r0, vi x1, vi x2, vi x3, vi x4, vl x5, t6, vi x7, vi x8, t9, t10, t11, t12, t13, t14], [], h, kc, ks) Q := by
  refine w_c32 rfl (by decide) 0 (by decide) ?_
  refine w_st (ls' := [r0, vi x1, vi x2, vi x3, vi x4, vl x5, t6, vi x7, vi x8, vi 0, t10, t11, t12, t13, t14]) rfl (Or.inl ⟨by decide, rfl⟩) rfl ?_
  exact k

theorem k583_276 {P : s_P} {d : Nat} {Q : s_O → Prop} {h : s_H} {kc ks : Nat} {r0 : Term} {x1 x2 x3 x4 x5 : Int} {t6 : Term} {x7 x8 x9 : Int} {t10 t11 t12 t13 t14 : Term}  (k1 : x3 + x4 ≤ x9 → wr P d sw_c583 sw_h583 (347, [r0, vi x1, vi x2, vi x3, vi x4, vl x5, t6, vi x7, vi x8, vi x9, t10, t11, t12, t13, t14], [], h, kc, ks) Q) (k2 : ¬ x3 + x4 ≤ x9 → wr P d sw_c583 sw_h583 (285, [r0, vi x1, vi x2, vi x3, vi x4, vl x5, t6, vi x7, vi x8, vi x9, t10, t11, t12, t13, t14], [], h, kc, ks) Q)  (c1 : In3 x9 := by first | omega | assumption | (simp only [mk_len, List.length_map]; omega) | decide) (c2 : In3 (x3 + x4) := by first | omega | assumption | (simp only [mk_len, List.length_map]; omega) | decide) : wr P d sw_c583 sw_h583 (276, [r0, vi x1, vi x2, vi x3, vi x4, vl x5, t6, vi x7, vi x8, vi x9, t10, t11, t12, t13, t14], [], h, kc, ks) Q := by
  refine w_ld rfl rfl (Or.inl ⟨by decide, rfl⟩) ?_
  refine w_ld rfl rfl (Or.inl ⟨by decide, rfl⟩) ?_
  refine w_ld rfl rfl (Or.inl ⟨by decide, rfl⟩) ?_
  refine w_iadd rfl ?_
  exact w_if2 rfl c1 c2 k1 k2

theorem k583_285 {P : s_P} {d : Nat} {Q : s_O → Prop} {h : s_H} {kc ks : Nat} {r0 : Term} {x1 x2 x3 x4 x5 : Int} {t6 : Term} {x7 x8 x9 : Int} {t10 t11 t12 t13 t14 : Term} {q2 : Nat} {f3 : List Term} {v5 : Term} {q7 : Nat} {a8 : List Int} {f17 : List Term} {v19 : Term} {q21 : Nat} {a22 : List Int} (g4 : s_get h q2 = some (1, 11, f3)) (g9 : s_get h q7 = some (0, 1, a8.map vl)) (g18 : s_get (hp h q7 (0, 1, (a8.set (Int.toNat ((80 * x8) + x9)) (gi a8 ((80 * x7) + x9))).map vl)) q2 = some (1, 11, f17)) (g23 : s_get (hp h q7 (0, 1, (a8.set (Int.toNat ((80 * x8) + x9)) (gi a8 ((80 * x7) + x9))).map vl)) q21 = some (0, 1, a22.map vl)) (k : wr P d sw_c583 sw_h583 (276, [.index q2, vi x1, vi x2, vi x3, vi x4, vl x5, t6, vi x7, vi x8, vi (x9 + 1), vl (gi a8 ((80 * x8) + x9)), .result, t12, t13, t14], [], (hp (hp h q7 (0, 1, (a8.set (Int.toNat ((80 * x8) + x9)) (gi a8 ((80 * x7) + x9))).map vl)) q21 (0, 1, (a22.set (Int.toNat ((80 * x7) + x9)) (gi a8 ((80 * x8) + x9))).map vl)), kc, ks) Q) (e_q2 : r0 = .index q2 := by first | rfl | assumption) (e_q7 : v5 = .index q7 := by first | rfl | assumption) (e_q21 : v19 = .index q21 := by first | rfl | assumption) (y1 : s_ty r0 = 3 := by first | rfl | assumption) (n6 : s_nth f3 25 = some v5 := by first | rfl | assumption) (n20 : s_nth f17 25 = some v19 := by first | rfl | assumption) (c10 : (80 * x8) + x9 < a8.length := by first | omega | assumption | (simp only [mk_len, List.length_map]; omega) | decide) (c11 : 0 ≤ (80 * x8) + x9 := by first | omega | assumption | (simp only [mk_len, List.length_map]; omega) | decide) (c12 : In3 ((80 * x8) + x9) := by first | omega | assumption | (simp only [mk_len, List.length_map]; omega) | decide) (c13 : (80 * x7) + x9 < a8.length := by first | omega | assumption | (simp only [mk_len, List.length_map]; omega) | decide) (c14 : 0 ≤ (80 * x7) + x9 := by first | omega | assumption | (simp only [mk_len, List.length_map]; omega) | decide) (c15 : In3 ((80 * x7) + x9) := by first | omega | assumption | (simp only [mk_len, List.length_map]; omega) | decide) (c16 : 0 < q7 := by first | omega | assumption | (simp only [mk_len, List.length_map]; omega) | decide) (c24 : (80 * x7) + x9 < a22.length := by first | omega | assumption | (simp only [mk_len, List.length_map]; omega) | decide) (c25 : 0 < q21 := by first | omega | assumption | (simp only [mk_len, List.length_map]; omega) | decide) : wr P d sw_c583 sw_h583 (285, [r0, vi x1, vi x2, vi x3, vi x4, vl x5, t6, vi x7, vi x8, vi x9, t10, t11, t12, t13, t14], [], h, kc, ks) Q := by
  refine w_ld rfl rfl (Or.inr (Or.inr ⟨by decide, y1⟩)) ?_
  subst e_q2
  refine w_getf rfl g4 n6 ?_
  refine w_c32 rfl (by decide) 80 (by decide) ?_
  refine w_ld rfl rfl (Or.inl ⟨by decide, rfl⟩) ?_
  refine w_imul rfl ?_
  refine w_ld rfl rfl (Or.inl ⟨by decide, rfl⟩) ?_
  refine w_iadd rfl ?_
  subst e_q7
  refine w_lald rfl g9 c12 c11 c10 ?_
  refine w_stl (ls' := [.index q2, vi x1, vi x2, vi x3, vi x4, vl x5, t6, vi x7, vi x8, vi x9, vl (gi a8 ((80 * x8) + x9)), t11, t12, t13, t14]) (ls'' := [.index q2, vi x1, vi x2, vi x3, vi x4, vl x5, t6, vi x7, vi x8, vi x9, vl (gi a8 ((80 * x8) + x9)), .result, t12, t13, t14]) rfl ⟨by decide, rfl⟩ rfl rfl ?_
  refine w_ld rfl rfl (Or.inr (Or.inr ⟨by decide, rfl⟩)) ?_
  refine w_getf rfl g4 n6 ?_
  refine w_c32 rfl (by decide) 80 (by decide) ?_
  refine w_ld rfl rfl (Or.inl ⟨by decide, rfl⟩) ?_
  refine w_imul rfl ?_
  refine w_ld rfl rfl (Or.inl ⟨by decide, rfl⟩) ?_
  refine w_iadd rfl ?_
  refine w_ld rfl rfl (Or.inr (Or.inr ⟨by decide, rfl⟩)) ?_
  refine w_getf rfl g4 n6 ?_
  refine w_c32 rfl (by decide) 80 (by decide) ?_
  refine w_ld rfl rfl (Or.inl ⟨by decide, rfl⟩) ?_
  refine w_imul rfl ?_
  refine w_ld rfl rfl (Or.inl ⟨by decide, rfl⟩) ?_
  refine w_iadd rfl ?_
  refine w_lald rfl g9 c15 c14 c13 ?_
  refine w_last rfl g9 (Nat.ble_eq_true_of_le c16) c12 c11 c10 ?_
  refine w_ld rfl rfl (Or.inr (Or.inr ⟨by decide, rfl⟩)) ?_
  refine w_getf rfl g18 n20 ?_
  refine w_c32 rfl (by decide) 80 (by decide) ?_
  refine w_ld rfl rfl (Or.inl ⟨by decide, rfl⟩) ?_
  refine w_imul rfl ?_
  refine w_ld rfl rfl (Or.inl ⟨by decide, rfl⟩) ?_
  refine w_iadd rfl ?_
  refine w_ld rfl rfl (Or.inr (Or.inl ⟨by decide, rfl⟩)) ?_
  subst e_q21
  refine w_last rfl g23 (Nat.ble_eq_true_of_le c25) c15 c14 c24 ?_
  refine w_iinc (ls' := [.index q2, vi x1, vi x2, vi x3, vi x4, vl x5, t6, vi x7, vi x8, vi (x9 + 1), vl (gi a8 ((80 * x8) + x9)), .result, t12, t13, t14]) rfl rfl 1 (by decide) rfl ?_
  refine w_goto rfl ?_
  exact k

theorem k583_347 {P : s_P} {d : Nat} {Q : s_O → Prop} {h : s_H} {kc ks : Nat} {r0 : Term} {x1 x2 x3 x4 x5 : Int} {t6 : Term} {x7 x8 x9 : Int} {t10 t11 t12 t13 t14 : Term} {q2 : Nat} {f3 : List Term} {v5 : Term} {q7 : Nat} {a8 : List Int} (g4 : s_get h q2 = some (1, 11, f3)) (g9 : s_get h q7 = some (0, 1, a8.map vl)) (k : wm P d 467 [vl (gi a8 ((80 * x7) + x7))] h (wq P d sw_c583 sw_h583 385 [.index q2, vi x1, vi x2, vi x3, vi x4, vl (Int.tmod (x5 * (gi a8 ((80 * x7) + x7))) 32003), .result, vi x7, vi x8, vi x9, t10, t11, t12, t13, t14] [] kc ks Q)) (e_q2 : r0 = .index q2 := by first | rfl | assumption) (e_q7 : v5 = .index q7 := by first | rfl | assumption) (y1 : s_ty r0 = 3 := by first | rfl | assumption) (n6 : s_nth f3 25 = some v5 := by first | rfl | assumption) (c10 : (80 * x7) + x7 < a8.length := by first | omega | assumption | (simp only [mk_len, List.length_map]; omega) | decide) (c11 : 0 ≤ (80 * x7) + x7 := by first | omega | assumption | (simp only [mk_len, List.length_map]; omega) | decide) (c12 : In3 ((80 * x7) + x7) := by first | omega | assumption | (simp only [mk_len, List.length_map]; omega) | decide) (c13 : In6 (x5 * (gi a8 ((80 * x7) + x7))) := by first | omega | assumption | (simp only [mk_len, List.length_map]; omega) | decide) : wr P d sw_c583 sw_h583 (347, [r0, vi x1, vi x2, vi x3, vi x4, vl x5, t6, vi x7, vi x8, vi x9, t10, t11, t12, t13, t14], [], h, kc, ks) Q := by
  refine w_ld rfl rfl (Or.inr (Or.inl ⟨by decide, rfl⟩)) ?_
  refine w_ld rfl rfl (Or.inr (Or.inr ⟨by decide, y1⟩)) ?_
  subst e_q2
  refine w_getf rfl g4 n6 ?_
  refine w_c32 rfl (by decide) 80 (by decide) ?_
  refine w_ld rfl rfl (Or.inl ⟨by decide, rfl⟩) ?_
  refine w_imul rfl ?_
  refine w_ld rfl rfl (Or.inl ⟨by decide, rfl⟩) ?_
  refine w_iadd rfl ?_
  subst e_q7
  refine w_lald rfl g9 c12 c11 c10 ?_
  refine w_lmul rfl ?_
  refine w_c64 rfl (by decide) 32003 (by decide) ?_
  refine w_lrem rfl c13 (by decide) (by decide) ?_
  refine w_stl (ls' := [.index q2, vi x1, vi x2, vi x3, vi x4, vl (Int.tmod (x5 * (gi a8 ((80 * x7) + x7))) 32003), t6, vi x7, vi x8, vi x9, t10, t11, t12, t13, t14]) (ls'' := [.index q2, vi x1, vi x2, vi x3, vi x4, vl (Int.tmod (x5 * (gi a8 ((80 * x7) + x7))) 32003), .result, vi x7, vi x8, vi x9, t10, t11, t12, t13, t14]) rfl ⟨by decide, rfl⟩ rfl rfl ?_
  refine w_ld rfl rfl (Or.inr (Or.inr ⟨by decide, rfl⟩)) ?_
  refine w_getf rfl g4 n6 ?_
  refine w_c32 rfl (by decide) 80 (by decide) ?_
  refine w_ld rfl rfl (Or.inl ⟨by decide, rfl⟩) ?_
  refine w_imul rfl ?_
  refine w_ld rfl rfl (Or.inl ⟨by decide, rfl⟩) ?_
  refine w_iadd rfl ?_
  refine w_lald rfl g9 c12 c11 c10 ?_
  exact w_cs rfl [vl (gi a8 ((80 * x7) + x7))] [] rfl rfl (s_wt_4 rfl) k

theorem k583_385 {P : s_P} {d : Nat} {Q : s_O → Prop} {h : s_H} {kc ks : Nat} {r0 : Term} {x1 x2 x3 x4 x5 : Int} {t6 : Term} {x7 x8 x9 : Int} {t10 t11 t12 t13 t14 : Term} {s0 : Int}  (k : wr P d sw_c583 sw_h583 (393, [r0, vi x1, vi x2, vi x3, vi x4, vl x5, t6, vi x7, vi x8, vl s0, .result, vi (x7 + 1), t12, t13, t14], [], h, kc, ks) Q)   : wr P d sw_c583 sw_h583 (385, [r0, vi x1, vi x2, vi x3, vi x4, vl x5, t6, vi x7, vi x8, vi x9, t10, t11, t12, t13, t14], [vl s0], h, kc, ks) Q := by
  refine w_stl (ls' := [r0, vi x1, vi x2, vi x3, vi x4, vl x5, t6, vi x7, vi x8, vl s0, t10, t11, t12, t13, t14]) (ls'' := [r0, vi x1, vi x2, vi x3, vi x4, vl x5, t6, vi x7, vi x8, vl s0, .result, t11, t12, t13, t14]) rfl ⟨by decide, rfl⟩ rfl rfl ?_
  refine w_ld rfl rfl (Or.inl ⟨by decide, rfl⟩) ?_
  refine w_c32 rfl (by decide) 1 (by decide) ?_
  refine w_iadd rfl ?_
  refine w_st (ls' := [r0, vi x1, vi x2, vi x3, vi x4, vl x5, t6, vi x7, vi x8, vl s0, .result, vi (x7 + 1), t12, t13, t14]) rfl (Or.inl ⟨by decide, rfl⟩) rfl ?_
  exact k

theorem k583_393 {P : s_P} {d : Nat} {Q : s_O → Prop} {h : s_H} {kc ks : Nat} {r0 : Term} {x1 x2 x3 x4 x5 : Int} {t6 : Term} {x7 x8 x9 : Int} {t10 : Term} {x11 : Int} {t12 t13 t14 : Term}  (k1 : x3 + x4 ≤ x11 → wr P d sw_c583 sw_h583 (502, [r0, vi x1, vi x2, vi x3, vi x4, vl x5, t6, vi x7, vi x8, vl x9, t10, vi x11, t12, t13, t14], [], h, kc, ks) Q) (k2 : ¬ x3 + x4 ≤ x11 → wr P d sw_c583 sw_h583 (402, [r0, vi x1, vi x2, vi x3, vi x4, vl x5, t6, vi x7, vi x8, vl x9, t10, vi x11, t12, t13, t14], [], h, kc, ks) Q)  (c1 : In3 x11 := by first | omega | assumption | (simp only [mk_len, List.length_map]; omega) | decide) (c2 : In3 (x3 + x4) := by first | omega | assumption | (simp only [mk_len, List.length_map]; omega) | decide) : wr P d sw_c583 sw_h583 (393, [r0, vi x1, vi x2, vi x3, vi x4, vl x5, t6, vi x7, vi x8, vl x9, t10, vi x11, t12, t13, t14], [], h, kc, ks) Q := by
  refine w_ld rfl rfl (Or.inl ⟨by decide, rfl⟩) ?_
  refine w_ld rfl rfl (Or.inl ⟨by decide, rfl⟩) ?_
  refine w_ld rfl rfl (Or.inl ⟨by decide, rfl⟩) ?_
  refine w_iadd rfl ?_
  exact w_if2 rfl c1 c2 k1 k2

theorem k583_402 {P : s_P} {d : Nat} {Q : s_O → Prop} {h : s_H} {kc ks : Nat} {r0 : Term} {x1 x2 x3 x4 x5 : Int} {t6 : Term} {x7 x8 x9 : Int} {t10 : Term} {x11 : Int} {t12 t13 t14 : Term} {q2 : Nat} {f3 : List Term} {v5 : Term} {q7 : Nat} {a8 : List Int} (g4 : s_get h q2 = some (1, 11, f3)) (g9 : s_get h q7 = some (0, 1, a8.map vl)) (k : wr P d sw_c583 sw_h583 (428, [.index q2, vi x1, vi x2, vi x3, vi x4, vl x5, t6, vi x7, vi x8, vl x9, t10, vi x11, vl (Int.tmod ((gi a8 ((80 * x11) + x7)) * x9) 32003), .result, vi x7], [], h, kc, ks) Q) (e_q2 : r0 = .index q2 := by first | rfl | assumption) (e_q7 : v5 = .index q7 := by first | rfl | assumption) (y1 : s_ty r0 = 3 := by first | rfl | assumption) (n6 : s_nth f3 25 = some v5 := by first | rfl | assumption) (c10 : (80 * x11) + x7 < a8.length := by first | omega | assumption | (simp only [mk_len, List.length_map]; omega) | decide) (c11 : 0 ≤ (80 * x11) + x7 := by first | omega | assumption | (simp only [mk_len, List.length_map]; omega) | decide) (c12 : In3 ((80 * x11) + x7) := by first | omega | assumption | (simp only [mk_len, List.length_map]; omega) | decide) (c13 : In6 ((gi a8 ((80 * x11) + x7)) * x9) := by first | omega | assumption | (simp only [mk_len, List.length_map]; omega) | decide) : wr P d sw_c583 sw_h583 (402, [r0, vi x1, vi x2, vi x3, vi x4, vl x5, t6, vi x7, vi x8, vl x9, t10, vi x11, t12, t13, t14], [], h, kc, ks) Q := by
  refine w_ld rfl rfl (Or.inr (Or.inr ⟨by decide, y1⟩)) ?_
  subst e_q2
  refine w_getf rfl g4 n6 ?_
  refine w_c32 rfl (by decide) 80 (by decide) ?_
  refine w_ld rfl rfl (Or.inl ⟨by decide, rfl⟩) ?_
  refine w_imul rfl ?_
  refine w_ld rfl rfl (Or.inl ⟨by decide, rfl⟩) ?_
  refine w_iadd rfl ?_
  subst e_q7
  refine w_lald rfl g9 c12 c11 c10 ?_
  refine w_ld rfl rfl (Or.inr (Or.inl ⟨by decide, rfl⟩)) ?_
  refine w_lmul rfl ?_
  refine w_c64 rfl (by decide) 32003 (by decide) ?_
  refine w_lrem rfl c13 (by decide) (by decide) ?_
  refine w_stl (ls' := [.index q2, vi x1, vi x2, vi x3, vi x4, vl x5, t6, vi x7, vi x8, vl x9, t10, vi x11, vl (Int.tmod ((gi a8 ((80 * x11) + x7)) * x9) 32003), t13, t14]) (ls'' := [.index q2, vi x1, vi x2, vi x3, vi x4, vl x5, t6, vi x7, vi x8, vl x9, t10, vi x11, vl (Int.tmod ((gi a8 ((80 * x11) + x7)) * x9) 32003), .result, t14]) rfl ⟨by decide, rfl⟩ rfl rfl ?_
  refine w_ld rfl rfl (Or.inl ⟨by decide, rfl⟩) ?_
  refine w_st (ls' := [.index q2, vi x1, vi x2, vi x3, vi x4, vl x5, t6, vi x7, vi x8, vl x9, t10, vi x11, vl (Int.tmod ((gi a8 ((80 * x11) + x7)) * x9) 32003), .result, vi x7]) rfl (Or.inl ⟨by decide, rfl⟩) rfl ?_
  exact k

theorem k583_428 {P : s_P} {d : Nat} {Q : s_O → Prop} {h : s_H} {kc ks : Nat} {r0 : Term} {x1 x2 x3 x4 x5 : Int} {t6 : Term} {x7 x8 x9 : Int} {t10 : Term} {x11 x12 : Int} {t13 : Term} {x14 : Int}  (k1 : x3 + x4 ≤ x14 → wr P d sw_c583 sw_h583 (496, [r0, vi x1, vi x2, vi x3, vi x4, vl x5, t6, vi x7, vi x8, vl x9, t10, vi x11, vl x12, t13, vi x14], [], h, kc, ks) Q) (k2 : ¬ x3 + x4 ≤ x14 → wr P d sw_c583 sw_h583 (437, [r0, vi x1, vi x2, vi x3, vi x4, vl x5, t6, vi x7, vi x8, vl x9, t10, vi x11, vl x12, t13, vi x14], [], h, kc, ks) Q)  (c1 : In3 x14 := by first | omega | assumption | (simp only [mk_len, List.length_map]; omega) | decide) (c2 : In3 (x3 + x4) := by first | omega | assumption | (simp only [mk_len, List.length_map]; omega) | decide) : wr P d sw_c583 sw_h583 (428, [r0, vi x1, vi x2, vi x3, vi x4, vl x5, t6, vi x7, vi x8, vl x9, t10, vi x11, vl x12, t13, vi x14], [], h, kc, ks) Q := by
  refine w_ld rfl rfl (Or.inl ⟨by decide, rfl⟩) ?_
  refine w_ld rfl rfl (Or.inl ⟨by decide, rfl⟩) ?_
  refine w_ld rfl rfl (Or.inl ⟨by decide, rfl⟩) ?_
  refine w_iadd rfl ?_
  exact w_if2 rfl c1 c2 k1 k2

theorem k583_437 {P : s_P} {d : Nat} {Q : s_O → Prop} {h : s_H} {kc ks : Nat} {r0 : Term} {x1 x2 x3 x4 x5 : Int} {t6 : Term} {x7 x8 x9 : Int} {t10 : Term} {x11 x12 : Int} {t13 : Term} {x14 : Int}  (k1 : x12 ≤ 0 → wr P d sw_c583 sw_h583 (496, [r0, vi x1, vi x2, vi x3, vi x4, vl x5, t6, vi x7, vi x8, vl x9, t10, vi x11, vl x12, t13, vi x14], [], h, kc, ks) Q) (k2 : ¬ x12 ≤ 0 → wr P d sw_c583 sw_h583 (444, [r0, vi x1, vi x2, vi x3, vi x4, vl x5, t6, vi x7, vi x8, vl x9, t10, vi x11, vl x12, t13, vi x14], [], h, kc, ks) Q)  (c1 : In6 x12 := by first | omega | assumption | (simp only [mk_len, List.length_map]; omega) | decide) : wr P d sw_c583 sw_h583 (437, [r0, vi x1, vi x2, vi x3, vi x4, vl x5, t6, vi x7, vi x8, vl x9, t10, vi x11, vl x12, t13, vi x14], [], h, kc, ks) Q := by
  refine w_ld rfl rfl (Or.inr (Or.inl ⟨by decide, rfl⟩)) ?_
  refine w_c64 rfl (by decide) 0 (by decide) ?_
  exact w_lcmp rfl rfl c1 (by decide) k1 k2

theorem k583_444 {P : s_P} {d : Nat} {Q : s_O → Prop} {h : s_H} {kc ks : Nat} {r0 : Term} {x1 x2 x3 x4 x5 : Int} {t6 : Term} {x7 x8 x9 : Int} {t10 : Term} {x11 x12 : Int} {t13 : Term} {x14 : Int} {q2 : Nat} {f3 : List Term} {v5 : Term} {q7 : Nat} {a8 : List Int} (g4 : s_get h q2 = some (1, 11, f3)) (g9 : s_get h q7 = some (0, 1, a8.map vl)) (k : wm P d 528 [vl ((gi a8 ((80 * x11) + x14)) - (x12 * (gi a8 ((80 * x7) + x14))))] h (wq P d sw_c583 sw_h583 489 [.index q2, vi x1, vi x2, vi x3, vi x4, vl x5, t6, vi x7, vi x8, vl x9, t10, vi x11, vl x12, t13, vi x14] [vi ((80 * x11) + x14), .index q7] kc ks Q)) (e_q2 : r0 = .index q2 := by first | rfl | assumption) (e_q7 : v5 = .index q7 := by first | rfl | assumption) (y1 : s_ty r0 = 3 := by first | rfl | assumption) (n6 : s_nth f3 25 = some v5 := by first | rfl | assumption) (c10 : (80 * x11) + x14 < a8.length := by first | omega | assumption | (simp only [mk_len, List.length_map]; omega) | decide) (c11 : 0 ≤ (80 * x11) + x14 := by first | omega | assumption | (simp only [mk_len, List.length_map]; omega) | decide) (c12 : In3 ((80 * x11) + x14) := by first | omega | assumption | (simp only [mk_len, List.length_map]; omega) | decide) (c13 : (80 * x7) + x14 < a8.length := by first | omega | assumption | (simp only [mk_len, List.length_map]; omega) | decide) (c14 : 0 ≤ (80 * x7) + x14 := by first | omega | assumption | (simp only [mk_len, List.length_map]; omega) | decide) (c15 : In3 ((80 * x7) + x14) := by first | omega | assumption | (simp only [mk_len, List.length_map]; omega) | decide) : wr P d sw_c583 sw_h583 (444, [r0, vi x1, vi x2, vi x3, vi x4, vl x5, t6, vi x7, vi x8, vl x9, t10, vi x11, vl x12, t13, vi x14], [], h, kc, ks) Q := by
  refine w_ld rfl rfl (Or.inr (Or.inr ⟨by decide, y1⟩)) ?_
  subst e_q2
  refine w_getf rfl g4 n6 ?_
  refine w_c32 rfl (by decide) 80 (by decide) ?_
  refine w_ld rfl rfl (Or.inl ⟨by decide, rfl⟩) ?_
  refine w_imul rfl ?_
  refine w_ld rfl rfl (Or.inl ⟨by decide, rfl⟩) ?_
  refine w_iadd rfl ?_
  refine w_ld rfl rfl (Or.inr (Or.inr ⟨by decide, rfl⟩)) ?_
  refine w_getf rfl g4 n6 ?_
  refine w_c32 rfl (by decide) 80 (by decide) ?_
  refine w_ld rfl rfl (Or.inl ⟨by decide, rfl⟩) ?_
  refine w_imul rfl ?_
  refine w_ld rfl rfl (Or.inl ⟨by decide, rfl⟩) ?_
  refine w_iadd rfl ?_
  subst e_q7
  refine w_lald rfl g9 c12 c11 c10 ?_
  refine w_ld rfl rfl (Or.inr (Or.inl ⟨by decide, rfl⟩)) ?_
  refine w_ld rfl rfl (Or.inr (Or.inr ⟨by decide, rfl⟩)) ?_
  refine w_getf rfl g4 n6 ?_
  refine w_c32 rfl (by decide) 80 (by decide) ?_
  refine w_ld rfl rfl (Or.inl ⟨by decide, rfl⟩) ?_
  refine w_imul rfl ?_
  refine w_ld rfl rfl (Or.inl ⟨by decide, rfl⟩) ?_
  refine w_iadd rfl ?_
  refine w_lald rfl g9 c15 c14 c13 ?_
  refine w_lmul rfl ?_
  refine w_lsub rfl ?_
  exact w_cs rfl [vl ((gi a8 ((80 * x11) + x14)) - (x12 * (gi a8 ((80 * x7) + x14))))] [vi ((80 * x11) + x14), .index q7] rfl rfl (s_wt_4 rfl) k

theorem k583_489 {P : s_P} {d : Nat} {Q : s_O → Prop} {h : s_H} {kc ks : Nat} {r0 : Term} {x1 x2 x3 x4 x5 : Int} {t6 : Term} {x7 x8 x9 : Int} {t10 : Term} {x11 x12 : Int} {t13 : Term} {x14 : Int} {s0 : Term} {s1 s2 : Int} {q1 : Nat} {a2 : List Int} (g3 : s_get h q1 = some (0, 1, a2.map vl)) (k : wr P d sw_c583 sw_h583 (428, [r0, vi x1, vi x2, vi x3, vi x4, vl x5, t6, vi x7, vi x8, vl x9, t10, vi x11, vl x12, (s_uu t13), vi (x14 + 1)], [], (hp h q1 (0, 1, (a2.set (Int.toNat (s1)) s2).map vl)), kc, ks) Q) (e_q1 : s0 = .index q1 := by first | rfl | assumption) (c4 : s1 < a2.length := by first | omega | assumption | (simp only [mk_len, List.length_map]; omega) | decide) (c5 : 0 ≤ s1 := by first | omega | assumption | (simp only [mk_len, List.length_map]; omega) | decide) (c6 : In3 s1 := by first | omega | assumption | (simp only [mk_len, List.length_map]; omega) | decide) (c7 : 0 < q1 := by first | omega | assumption | (simp only [mk_len, List.length_map]; omega) | decide) : wr P d sw_c583 sw_h583 (489, [r0, vi x1, vi x2, vi x3, vi x4, vl x5, t6, vi x7, vi x8, vl x9, t10, vi x11, vl x12, t13, vi x14], [vl s2, vi s1, s0], h, kc, ks) Q := by
  subst e_q1
  refine w_last rfl g3 (Nat.ble_eq_true_of_le c7) c6 c5 c4 ?_
  refine w_iinc (ls' := [r0, vi x1, vi x2, vi x3, vi x4, vl x5, t6, vi x7, vi x8, vl x9, t10, vi x11, vl x12, (s_uu t13), vi (x14 + 1)]) rfl rfl 1 (by decide) (s_stK_t (pre := [r0, vi x1, vi x2, vi x3, vi x4, vl x5, t6, vi x7, vi x8, vl x9, t10, vi x11, vl x12])) ?_
  refine w_goto rfl ?_
  exact k

theorem k583_496 {P : s_P} {d : Nat} {Q : s_O → Prop} {h : s_H} {kc ks : Nat} {r0 : Term} {x1 x2 x3 x4 x5 : Int} {t6 : Term} {x7 x8 x9 : Int} {t10 : Term} {x11 x12 : Int} {t13 : Term} {x14 : Int}  (k : wr P d sw_c583 sw_h583 (393, [r0, vi x1, vi x2, vi x3, vi x4, vl x5, t6, vi x7, vi x8, vl x9, (s_uu t10), vi (x11 + 1), vl x12, t13, vi x14], [], h, kc, ks) Q)   : wr P d sw_c583 sw_h583 (496, [r0, vi x1, vi x2, vi x3, vi x4, vl x5, t6, vi x7, vi x8, vl x9, t10, vi x11, vl x12, t13, vi x14], [], h, kc, ks) Q := by
  refine w_iinc (ls' := [r0, vi x1, vi x2, vi x3, vi x4, vl x5, t6, vi x7, vi x8, vl x9, (s_uu t10), vi (x11 + 1), vl x12, t13, vi x14]) rfl rfl 1 (by decide) (s_stK_t (pre := [r0, vi x1, vi x2, vi x3, vi x4, vl x5, t6, vi x7, vi x8, vl x9])) ?_
  refine w_goto rfl ?_
  exact k

theorem k583_502 {P : s_P} {d : Nat} {Q : s_O → Prop} {h : s_H} {kc ks : Nat} {r0 : Term} {x1 x2 x3 x4 x5 : Int} {t6 : Term} {x7 x8 x9 : Int} {t10 : Term} {x11 : Int} {t12 t13 t14 : Term}  (k : wr P d sw_c583 sw_h583 (201, [r0, vi x1, vi x2, vi x3, vi x4, vl x5, (s_uu t6), vi (x7 + 1), vi x8, vl x9, t10, vi x11, t12, t13, t14], [], h, kc, ks) Q)   : wr P d sw_c583 sw_h583 (502, [r0, vi x1, vi x2, vi x3, vi x4, vl x5, t6, vi x7, vi x8, vl x9, t10, vi x11, t12, t13, t14], [], h, kc, ks) Q := by
  refine w_iinc (ls' := [r0, vi x1, vi x2, vi x3, vi x4, vl x5, (s_uu t6), vi (x7 + 1), vi x8, vl x9, t10, vi x11, t12, t13, t14]) rfl rfl 1 (by decide) (s_stK_t (pre := [r0, vi x1, vi x2, vi x3, vi x4, vl x5])) ?_
  refine w_goto rfl ?_
  exact k

theorem k583_508 {P : s_P} {d : Nat} {Q : s_O → Prop} {h : s_H} {kc ks : Nat} {r0 : Term} {x1 x2 x3 x4 x5 : Int} {t6 : Term} {x7 : Int} {t8 t9 t10 t11 t12 t13 t14 : Term}  (k : Q (.inl (some (vi x5)), h, kc, ks))   : wr P d sw_c583 sw_h583 (508, [r0, vi x1, vi x2, vi x3, vi x4, vl x5, t6, vi x7, t8, t9, t10, t11, t12, t13, t14], [], h, kc, ks) Q := by
  refine w_ld rfl rfl (Or.inr (Or.inl ⟨by decide, rfl⟩)) ?_
  refine w_l2i rfl ?_
  exact w_iret rfl k

/-! 584: FormulaWorksModel.reverse(I)I -/
theorem k584_0 {P : s_P} {d : Nat} {Q : s_O → Prop} {h : s_H} {kc ks : Nat} {r0 : Term} {x1 : Int} {t2 t3 t4 : Term} {q2 : Nat} {f3 : List Term} (g4 : s_get h q2 = some (1, 11, f3)) (k : wm P d 481 [.index q2, vi x1, vi 1] h (wq P d sw_c584 sw_h584 6 [.index q2, vi x1, t2, t3, t4] [] kc ks Q)) (e_q2 : r0 = .index q2 := by first | rfl | assumption) (y1 : s_ty r0 = 3 := by first | rfl | assumption)  : wr P d sw_c584 sw_h584 (0, [r0, vi x1, t2, t3, t4], [], h, kc, ks) Q := by
  refine w_ld rfl rfl (Or.inr (Or.inr ⟨by decide, y1⟩)) ?_
  refine w_ld rfl rfl (Or.inl ⟨by decide, rfl⟩) ?_
  refine w_c32 rfl (by decide) 1 (by decide) ?_
  subst e_q2
  exact w_cv rfl [.index q2, vi x1, vi 1] [] rfl rfl (s_wt_4 rfl) rfl g4 k

theorem k584_6 {P : s_P} {d : Nat} {Q : s_O → Prop} {h : s_H} {kc ks : Nat} {r0 : Term} {x1 : Int} {t2 t3 t4 : Term} {s0 : Int}  (k1 : s0 ≠ 0 → wr P d sw_c584 sw_h584 (11, [r0, vi x1, t2, t3, t4], [], h, kc, ks) Q) (k2 : ¬ s0 ≠ 0 → wr P d sw_c584 sw_h584 (9, [r0, vi x1, t2, t3, t4], [], h, kc, ks) Q)  (c1 : In3 s0 := by first | omega | assumption | (simp only [mk_len, List.length_map]; omega) | decide) : wr P d sw_c584 sw_h584 (6, [r0, vi x1, t2, t3, t4], [vi s0], h, kc, ks) Q := by
  exact w_if1 rfl c1 k1 k2

theorem k584_9 {P : s_P} {d : Nat} {Q : s_O → Prop} {h : s_H} {kc ks : Nat} {r0 : Term} {x1 : Int} {t2 t3 t4 : Term}  (k : Q (.inl (some (vi 0)), h, kc, ks))   : wr P d sw_c584 sw_h584 (9, [r0, vi x1, t2, t3, t4], [], h, kc, ks) Q := by
  refine w_c32 rfl (by decide) 0 (by decide) ?_
  exact w_iret rfl k

theorem k584_11 {P : s_P} {d : Nat} {Q : s_O → Prop} {h : s_H} {kc ks : Nat} {r0 : Term} {x1 : Int} {t2 t3 t4 : Term} {q2 : Nat} {f3 : List Term} {v5 : Term} {q7 : Nat} {a8 : List Int} (g4 : s_get h q2 = some (1, 11, f3)) (g9 : s_get h q7 = some (0, 1, a8.map vl)) (k1 : gi a8 0 ≠ 0 → wr P d sw_c584 sw_h584 (33, [.index q2, vi x1, t2, t3, t4], [], h, kc, ks) Q) (k2 : ¬ gi a8 0 ≠ 0 → wr P d sw_c584 sw_h584 (22, [.index q2, vi x1, t2, t3, t4], [], h, kc, ks) Q) (e_q2 : r0 = .index q2 := by first | rfl | assumption) (e_q7 : v5 = .index q7 := by first | rfl | assumption) (y1 : s_ty r0 = 3 := by first | rfl | assumption) (n6 : s_nth f3 10 = some v5 := by first | rfl | assumption) (c10 : (0 : Int) < a8.length := by first | omega | assumption | (simp only [mk_len, List.length_map]; omega) | decide) (c11 : In6 (gi a8 0) := by first | omega | assumption | (simp only [mk_len, List.length_map]; omega) | decide) : wr P d sw_c584 sw_h584 (11, [r0, vi x1, t2, t3, t4], [], h, kc, ks) Q := by
  refine w_ld rfl rfl (Or.inr (Or.inr ⟨by decide, y1⟩)) ?_
  subst e_q2
  refine w_getf rfl g4 n6 ?_
  refine w_c32 rfl (by decide) 0 (by decide) ?_
  subst e_q7
  refine w_lald rfl g9 (by decide) (by decide) c10 ?_
  refine w_c64 rfl (by decide) 0 (by decide) ?_
  exact w_lcmp rfl rfl c11 (by decide) k1 k2

theorem k584_22 {P : s_P} {d : Nat} {Q : s_O → Prop} {h : s_H} {kc ks : Nat} {r0 : Term} {x1 : Int} {t2 t3 t4 : Term} {q2 : Nat} {f3 : List Term} {v5 : Term} {q7 : Nat} {a8 : List Int} (g4 : s_get h q2 = some (1, 11, f3)) (g9 : s_get h q7 = some (0, 1, a8.map vl)) (k1 : gi a8 1 ≠ 0 → wr P d sw_c584 sw_h584 (39, [.index q2, vi x1, t2, t3, t4], [], h, kc, ks) Q) (k2 : ¬ gi a8 1 ≠ 0 → wr P d sw_c584 sw_h584 (33, [.index q2, vi x1, t2, t3, t4], [], h, kc, ks) Q) (e_q2 : r0 = .index q2 := by first | rfl | assumption) (e_q7 : v5 = .index q7 := by first | rfl | assumption) (y1 : s_ty r0 = 3 := by first | rfl | assumption) (n6 : s_nth f3 10 = some v5 := by first | rfl | assumption) (c10 : (1 : Int) < a8.length := by first | omega | assumption | (simp only [mk_len, List.length_map]; omega) | decide) (c11 : In6 (gi a8 1) := by first | omega | assumption | (simp only [mk_len, List.length_map]; omega) | decide) : wr P d sw_c584 sw_h584 (22, [r0, vi x1, t2, t3, t4], [], h, kc, ks) Q := by
  refine w_ld rfl rfl (Or.inr (Or.inr ⟨by decide, y1⟩)) ?_
  subst e_q2
  refine w_getf rfl g4 n6 ?_
  refine w_c32 rfl (by decide) 1 (by decide) ?_
  subst e_q7
  refine w_lald rfl g9 (by decide) (by decide) c10 ?_
  refine w_c64 rfl (by decide) 0 (by decide) ?_
  exact w_lcmp rfl rfl c11 (by decide) k1 k2

theorem k584_33 {P : s_P} {d : Nat} {Q : s_O → Prop} {h : s_H} {kc ks : Nat} {r0 : Term} {x1 : Int} {t2 t3 t4 : Term} {q2 : Nat} {f3 : List Term} (g4 : s_get h q2 = some (1, 11, f3)) (k : wm P d 570 [.index q2, vi 2] h (wq P d sw_c584 sw_h584 38 [.index q2, vi x1, t2, t3, t4] [] kc ks Q)) (e_q2 : r0 = .index q2 := by first | rfl | assumption) (y1 : s_ty r0 = 3 := by first | rfl | assumption)  : wr P d sw_c584 sw_h584 (33, [r0, vi x1, t2, t3, t4], [], h, kc, ks) Q := by
  refine w_ld rfl rfl (Or.inr (Or.inr ⟨by decide, y1⟩)) ?_
  refine w_c32 rfl (by decide) 2 (by decide) ?_
  subst e_q2
  exact w_cv rfl [.index q2, vi 2] [] rfl rfl (s_wt_4 rfl) rfl g4 k

theorem k584_38 {P : s_P} {d : Nat} {Q : s_O → Prop} {h : s_H} {kc ks : Nat} {r0 : Term} {x1 : Int} {t2 t3 t4 : Term} {s0 : Int}  (k : Q (.inl (some (vi s0)), h, kc, ks))   : wr P d sw_c584 sw_h584 (38, [r0, vi x1, t2, t3, t4], [vi s0], h, kc, ks) Q := by
  exact w_iret rfl k

theorem k584_39 {P : s_P} {d : Nat} {Q : s_O → Prop} {h : s_H} {kc ks : Nat} {r0 : Term} {x1 : Int} {t2 t3 t4 : Term} {q2 : Nat} {f3 : List Term} {v5 : Term} {q7 : Nat} {a8 : List Int} (g4 : s_get h q2 = some (1, 11, f3)) (g9 : s_get h q7 = some (0, 1, a8.map vl)) (k : wm P d 467 [vl (gi a8 1)] h (wq P d sw_c584 sw_h584 48 [.index q2, vi x1, t2, t3, t4] [] kc ks Q)) (e_q2 : r0 = .index q2 := by first | rfl | assumption) (e_q7 : v5 = .index q7 := by first | rfl | assumption) (y1 : s_ty r0 = 3 := by first | rfl | assumption) (n6 : s_nth f3 10 = some v5 := by first | rfl | assumption) (c10 : (1 : Int) < a8.length := by first | omega | assumption | (simp only [mk_len, List.length_map]; omega) | decide) : wr P d sw_c584 sw_h584 (39, [r0, vi x1, t2, t3, t4], [], h, kc, ks) Q := by
  refine w_ld rfl rfl (Or.inr (Or.inr ⟨by decide, y1⟩)) ?_
  subst e_q2
  refine w_getf rfl g4 n6 ?_
  refine w_c32 rfl (by decide) 1 (by decide) ?_
  subst e_q7
  refine w_lald rfl g9 (by decide) (by decide) c10 ?_
  exact w_cs rfl [vl (gi a8 1)] [] rfl rfl (s_wt_4 rfl) k

theorem k584_48 {P : s_P} {d : Nat} {Q : s_O → Prop} {h : s_H} {kc ks : Nat} {r0 : Term} {x1 : Int} {t2 t3 t4 : Term} {s0 : Int} {q2 : Nat} {f3 : List Term} {v5 : Term} (g4 : s_get h q2 = some (1, 11, f3)) (k : wm P d 438 [v5] h (wq P d sw_c584 sw_h584 56 [.index q2, vi x1, vl s0, .result, t4] [] kc ks Q)) (e_q2 : r0 = .index q2 := by first | rfl | assumption) (y1 : s_ty r0 = 3 := by first | rfl | assumption) (n6 : s_nth f3 20 = some v5 := by first | rfl | assumption)  : wr P d sw_c584 sw_h584 (48, [r0, vi x1, t2, t3, t4], [vl s0], h, kc, ks) Q := by
  refine w_stl (ls' := [r0, vi x1, vl s0, t3, t4]) (ls'' := [r0, vi x1, vl s0, .result, t4]) rfl ⟨by decide, rfl⟩ rfl rfl ?_
  refine w_ld rfl rfl (Or.inr (Or.inr ⟨by decide, y1⟩)) ?_
  subst e_q2
  refine w_getf rfl g4 n6 ?_
  exact w_cs rfl [v5] [] rfl rfl (s_wt_4 rfl) k

theorem k584_56 {P : s_P} {d : Nat} {Q : s_O → Prop} {h : s_H} {kc ks : Nat} {r0 : Term} {x1 x2 : Int} {t3 t4 : Term} {q2 : Nat} {f3 : List Term} {v5 : Term} {q7 : Nat} {a8 : List Int} (g4 : s_get h q2 = some (1, 11, f3)) (g9 : s_get h q7 = some (0, 1, a8.map vl)) (k : wr P d sw_c584 sw_h584 (66, [.index q2, vi x1, vl x2, (s_uu t3), vi 2], [], (hp h q7 (0, 1, (a8.set (Int.toNat (1)) x2).map vl)), kc, ks) Q) (e_q2 : r0 = .index q2 := by first | rfl | assumption) (e_q7 : v5 = .index q7 := by first | rfl | assumption) (y1 : s_ty r0 = 3 := by first | rfl | assumption) (n6 : s_nth f3 20 = some v5 := by first | rfl | assumption) (c10 : (1 : Int) < a8.length := by first | omega | assumption | (simp only [mk_len, List.length_map]; omega) | decide) (c11 : 0 < q7 := by first | omega | assumption | (simp only [mk_len, List.length_map]; omega) | decide) : wr P d sw_c584 sw_h584 (56, [r0, vi x1, vl x2, t3, t4], [], h, kc, ks) Q := by
  refine w_ld rfl rfl (Or.inr (Or.inr ⟨by decide, y1⟩)) ?_
  subst e_q2
  refine w_getf rfl g4 n6 ?_
  refine w_c32 rfl (by decide) 1 (by decide) ?_
  refine w_ld rfl rfl (Or.inr (Or.inl ⟨by decide, rfl⟩)) ?_
  subst e_q7
  refine w_last rfl g9 (Nat.ble_eq_true_of_le c11) (by decide) (by decide) c10 ?_
  refine w_c32 rfl (by decide) 2 (by decide) ?_
  refine w_st (ls' := [.index q2, vi x1, vl x2, (s_uu t3), vi 2]) rfl (Or.inl ⟨by decide, rfl⟩) (s_stK_t (pre := [.index q2, vi x1, vl x2])) ?_
  exact k

theorem k584_66 {P : s_P} {d : Nat} {Q : s_O → Prop} {h : s_H} {kc ks : Nat} {r0 : Term} {x1 x2 : Int} {t3 : Term} {x4 : Int}  (k1 : 25 ≤ x4 → wr P d sw_c584 sw_h584 (115, [r0, vi x1, vl x2, t3, vi x4], [], h, kc, ks) Q) (k2 : ¬ 25 ≤ x4 → wr P d sw_c584 sw_h584 (73, [r0, vi x1, vl x2, t3, vi x4], [], h, kc, ks) Q)  (c1 : In3 x4 := by first | omega | assumption | (simp only [mk_len, List.length_map]; omega) | decide) : wr P d sw_c584 sw_h584 (66, [r0, vi x1, vl x2, t3, vi x4], [], h, kc, ks) Q := by
  refine w_ld rfl rfl (Or.inl ⟨by decide, rfl⟩) ?_
  refine w_c32 rfl (by decide) 25 (by decide) ?_
  exact w_if2 rfl c1 (by decide) k1 k2

theorem k584_73 {P : s_P} {d : Nat} {Q : s_O → Prop} {h : s_H} {kc ks : Nat} {r0 : Term} {x1 x2 : Int} {t3 : Term} {x4 : Int} {q2 : Nat} {f3 : List Term} {v5 v7 : Term} (g4 : s_get h q2 = some (1, 11, f3)) (k : wm P d 567 [.index q2, v5, v7] h (wq P d sw_c584 sw_h584 85 [.index q2, vi x1, vl x2, t3, vi x4] [] kc ks Q)) (e_q2 : r0 = .index q2 := by first | rfl | assumption) (y1 : s_ty r0 = 3 := by first | rfl | assumption) (n6 : s_nth f3 10 = some v5 := by first | rfl | assumption) (n8 : s_nth f3 20 = some v7 := by first | rfl | assumption)  : wr P d sw_c584 sw_h584 (73, [r0, vi x1, vl x2, t3, vi x4], [], h, kc, ks) Q := by
  refine w_ld rfl rfl (Or.inr (Or.inr ⟨by decide, y1⟩)) ?_
  refine w_ld rfl rfl (Or.inr (Or.inr ⟨by decide, y1⟩)) ?_
  subst e_q2
  refine w_getf rfl g4 n6 ?_
  refine w_ld rfl rfl (Or.inr (Or.inr ⟨by decide, rfl⟩)) ?_
  refine w_getf rfl g4 n8 ?_
  exact w_cv rfl [.index q2, v5, v7] [] rfl rfl (s_wt_4 rfl) rfl g4 k

theorem k584_85 {P : s_P} {d : Nat} {Q : s_O → Prop} {h : s_H} {kc ks : Nat} {r0 : Term} {x1 x2 : Int} {t3 : Term} {x4 : Int} {q2 : Nat} {f3 : List Term} {v5 v7 : Term} {q9 : Nat} {a10 : List Int} (g4 : s_get h q2 = some (1, 11, f3)) (g11 : s_get h q9 = some (0, 1, a10.map vl)) (k : wm P d 528 [vl (-(gi a10 x4))] h (wq P d sw_c584 sw_h584 102 [.index q2, vi x1, vl x2, t3, vi x4] [vi x4, v5] kc ks Q)) (e_q2 : r0 = .index q2 := by first | rfl | assumption) (e_q9 : v7 = .index q9 := by first | rfl | assumption) (y1 : s_ty r0 = 3 := by first | rfl | assumption) (n6 : s_nth f3 20 = some v5 := by first | rfl | assumption) (n8 : s_nth f3 14 = some v7 := by first | rfl | assumption) (c12 : x4 < a10.length := by first | omega | assumption | (simp only [mk_len, List.length_map]; omega) | decide) (c13 : 0 ≤ x4 := by first | omega | assumption | (simp only [mk_len, List.length_map]; omega) | decide) (c14 : In3 x4 := by first | omega | assumption | (simp only [mk_len, List.length_map]; omega) | decide) : wr P d sw_c584 sw_h584 (85, [r0, vi x1, vl x2, t3, vi x4], [], h, kc, ks) Q := by
  refine w_ld rfl rfl (Or.inr (Or.inr ⟨by decide, y1⟩)) ?_
  subst e_q2
  refine w_getf rfl g4 n6 ?_
  refine w_ld rfl rfl (Or.inl ⟨by decide, rfl⟩) ?_
  refine w_ld rfl rfl (Or.inr (Or.inr ⟨by decide, rfl⟩)) ?_
  refine w_getf rfl g4 n8 ?_
  refine w_ld rfl rfl (Or.inl ⟨by decide, rfl⟩) ?_
  subst e_q9
  refine w_lald rfl g11 c14 c13 c12 ?_
  refine w_lneg rfl ?_
  exact w_cs rfl [vl (-(gi a10 x4))] [vi x4, v5] rfl rfl (s_wt_4 rfl) k

theorem k584_102 {P : s_P} {d : Nat} {Q : s_O → Prop} {h : s_H} {kc ks : Nat} {r0 : Term} {x1 x2 : Int} {t3 : Term} {x4 : Int} {s0 : Term} {s1 s2 : Int} {q2 : Nat} {a3 : List Int} (g4 : s_get h q2 = some (0, 1, a3.map vl)) (k : wr P d sw_c584 sw_h584 (66, [r0, vi x1, vl x2, (s_uu t3), vi (x4 + 1)], [], (hp h q2 (0, 1, (a3.set (Int.toNat (s1)) (Int.tmod (s2 * x2) 32003)).map vl)), kc, ks) Q) (e_q2 : s0 = .index q2 := by first | rfl | assumption) (c1 : In6 (s2 * x2) := by first | omega | assumption | (simp only [mk_len, List.length_map]; omega) | decide) (c5 : s1 < a3.length := by first | omega | assumption | (simp only [mk_len, List.length_map]; omega) | decide) (c6 : 0 ≤ s1 := by first | omega | assumption | (simp only [mk_len, List.length_map]; omega) | decide) (c7 : In3 s1 := by first | omega | assumption | (simp only [mk_len, List.length_map]; omega) | decide) (c8 : 0 < q2 := by first | omega | assumption | (simp only [mk_len, List.length_map]; omega) | decide) : wr P d sw_c584 sw_h584 (102, [r0, vi x1, vl x2, t3, vi x4], [vl s2, vi s1, s0], h, kc, ks) Q := by
  refine w_ld rfl rfl (Or.inr (Or.inl ⟨by decide, rfl⟩)) ?_
  refine w_lmul rfl ?_
  refine w_c64 rfl (by decide) 32003 (by decide) ?_
  refine w_lrem rfl c1 (by decide) (by decide) ?_
  subst e_q2
  refine w_last rfl g4 (Nat.ble_eq_true_of_le c8) c7 c6 c5 ?_
  refine w_iinc (ls' := [r0, vi x1, vl x2, (s_uu t3), vi (x4 + 1)]) rfl rfl 1 (by decide) (s_stK_t (pre := [r0, vi x1, vl x2])) ?_
  refine w_goto rfl ?_
  exact k

theorem k584_115 {P : s_P} {d : Nat} {Q : s_O → Prop} {h : s_H} {kc ks : Nat} {r0 : Term} {x1 x2 : Int} {t3 : Term} {x4 : Int} {q2 : Nat} {f3 : List Term} {v5 v7 : Term} (g4 : s_get h q2 = some (1, 11, f3)) (k : wm P d 425 [v5, v7] h (wq P d sw_c584 sw_h584 126 [.index q2, vi x1, vl x2, t3, vi x4] [] kc ks Q)) (e_q2 : r0 = .index q2 := by first | rfl | assumption) (y1 : s_ty r0 = 3 := by first | rfl | assumption) (n6 : s_nth f3 14 = some v5 := by first | rfl | assumption) (n8 : s_nth f3 20 = some v7 := by first | rfl | assumption)  : wr P d sw_c584 sw_h584 (115, [r0, vi x1, vl x2, t3, vi x4], [], h, kc, ks) Q := by
  refine w_ld rfl rfl (Or.inr (Or.inr ⟨by decide, y1⟩)) ?_
  subst e_q2
  refine w_getf rfl g4 n6 ?_
  refine w_ld rfl rfl (Or.inr (Or.inr ⟨by decide, rfl⟩)) ?_
  refine w_getf rfl g4 n8 ?_
  exact w_cs rfl [v5, v7] [] rfl rfl (s_wt_4 rfl) k

theorem k584_126 {P : s_P} {d : Nat} {Q : s_O → Prop} {h : s_H} {kc ks : Nat} {r0 : Term} {x1 x2 : Int} {t3 : Term} {x4 : Int} {q2 : Nat} {f3 : List Term} (g4 : s_get h q2 = some (1, 11, f3)) (k : wm P d 499 [.index q2, vi 3] h (wq P d sw_c584 sw_h584 131 [.index q2, vi x1, vl x2, t3, vi x4] [] kc ks Q)) (e_q2 : r0 = .index q2 := by first | rfl | assumption) (y1 : s_ty r0 = 3 := by first | rfl | assumption)  : wr P d sw_c584 sw_h584 (126, [r0, vi x1, vl x2, t3, vi x4], [], h, kc, ks) Q := by
  refine w_ld rfl rfl (Or.inr (Or.inr ⟨by decide, y1⟩)) ?_
  refine w_c32 rfl (by decide) 3 (by decide) ?_
  subst e_q2
  exact w_cv rfl [.index q2, vi 3] [] rfl rfl (s_wt_4 rfl) rfl g4 k

theorem k584_131 {P : s_P} {d : Nat} {Q : s_O → Prop} {h : s_H} {kc ks : Nat} {r0 : Term} {x1 x2 : Int} {t3 : Term} {x4 s0 : Int}  (k : Q (.inl (some (vi s0)), h, kc, ks))   : wr P d sw_c584 sw_h584 (131, [r0, vi x1, vl x2, t3, vi x4], [vi s0], h, kc, ks) Q := by
  exact w_iret rfl k

/-! 585: FormulaWorksModel.root(I)I -/
theorem k585_0 {P : s_P} {d : Nat} {Q : s_O → Prop} {h : s_H} {kc ks : Nat} {r0 : Term} {x1 : Int} {t2 t3 t4 t5 t6 t7 t8 t9 : Term} {q2 : Nat} {f3 : List Term} (g4 : s_get h q2 = some (1, 11, f3)) (k : wm P d 481 [.index q2, vi x1, vi 1] h (wq P d sw_c585 sw_h585 6 [.index q2, vi x1, t2, t3, t4, t5, t6, t7, t8, t9] [] kc ks Q)) (e_q2 : r0 = .index q2 := by first | rfl | assumption) (y1 : s_ty r0 = 3 := by first | rfl | assumption)  : wr P d sw_c585 sw_h585 (0, [r0, vi x1, t2, t3, t4, t5, t6, t7, t8, t9], [], h, kc, ks) Q := by
  refine w_ld rfl rfl (Or.inr (Or.inr ⟨by decide, y1⟩)) ?_
  refine w_ld rfl rfl (Or.inl ⟨by decide, rfl⟩) ?_
  refine w_c32 rfl (by decide) 1 (by decide) ?_
  subst e_q2
  exact w_cv rfl [.index q2, vi x1, vi 1] [] rfl rfl (s_wt_4 rfl) rfl g4 k

theorem k585_6 {P : s_P} {d : Nat} {Q : s_O → Prop} {h : s_H} {kc ks : Nat} {r0 : Term} {x1 : Int} {t2 t3 t4 t5 t6 t7 t8 t9 : Term} {s0 : Int}  (k1 : s0 ≠ 0 → wr P d sw_c585 sw_h585 (11, [r0, vi x1, t2, t3, t4, t5, t6, t7, t8, t9], [], h, kc, ks) Q) (k2 : ¬ s0 ≠ 0 → wr P d sw_c585 sw_h585 (9, [r0, vi x1, t2, t3, t4, t5, t6, t7, t8, t9], [], h, kc, ks) Q)  (c1 : In3 s0 := by first | omega | assumption | (simp only [mk_len, List.length_map]; omega) | decide) : wr P d sw_c585 sw_h585 (6, [r0, vi x1, t2, t3, t4, t5, t6, t7, t8, t9], [vi s0], h, kc, ks) Q := by
  exact w_if1 rfl c1 k1 k2

theorem k585_9 {P : s_P} {d : Nat} {Q : s_O → Prop} {h : s_H} {kc ks : Nat} {r0 : Term} {x1 : Int} {t2 t3 t4 t5 t6 t7 t8 t9 : Term}  (k : Q (.inl (some (vi 0)), h, kc, ks))   : wr P d sw_c585 sw_h585 (9, [r0, vi x1, t2, t3, t4, t5, t6, t7, t8, t9], [], h, kc, ks) Q := by
  refine w_c32 rfl (by decide) 0 (by decide) ?_
  exact w_iret rfl k

theorem k585_11 {P : s_P} {d : Nat} {Q : s_O → Prop} {h : s_H} {kc ks : Nat} {r0 : Term} {x1 : Int} {t2 t3 t4 t5 t6 t7 t8 t9 : Term}  (k : wr P d sw_c585 sw_h585 (16, [r0, vi x1, vl 0, .result, vl 1, .result, t6, t7, t8, t9], [], h, kc, ks) Q)   : wr P d sw_c585 sw_h585 (11, [r0, vi x1, t2, t3, t4, t5, t6, t7, t8, t9], [], h, kc, ks) Q := by
  refine w_c64 rfl (by decide) 0 (by decide) ?_
  refine w_stl (ls' := [r0, vi x1, vl 0, t3, t4, t5, t6, t7, t8, t9]) (ls'' := [r0, vi x1, vl 0, .result, t4, t5, t6, t7, t8, t9]) rfl ⟨by decide, rfl⟩ rfl rfl ?_
  refine w_c64 rfl (by decide) 1 (by decide) ?_
  refine w_stl (ls' := [r0, vi x1, vl 0, .result, vl 1, t5, t6, t7, t8, t9]) (ls'' := [r0, vi x1, vl 0, .result, vl 1, .result, t6, t7, t8, t9]) rfl ⟨by decide, rfl⟩ rfl rfl ?_
  exact k

theorem k585_16 {P : s_P} {d : Nat} {Q : s_O → Prop} {h : s_H} {kc ks : Nat} {r0 : Term} {x1 x2 : Int} {t3 : Term} {x4 : Int} {t5 t6 t7 t8 t9 : Term}  (k1 : 16001 < x4 → wr P d sw_c585 sw_h585 (62, [r0, vi x1, vl x2, t3, vl x4, t5, t6, t7, t8, t9], [], h, kc, ks) Q) (k2 : ¬ 16001 < x4 → wr P d sw_c585 sw_h585 (25, [r0, vi x1, vl x2, t3, vl x4, t5, t6, t7, t8, t9], [], h, kc, ks) Q)  (c1 : In6 x4 := by first | omega | assumption | (simp only [mk_len, List.length_map]; omega) | decide) : wr P d sw_c585 sw_h585 (16, [r0, vi x1, vl x2, t3, vl x4, t5, t6, t7, t8, t9], [], h, kc, ks) Q := by
  refine w_ld rfl rfl (Or.inr (Or.inl ⟨by decide, rfl⟩)) ?_
  refine w_c64 rfl (by decide) 16001 (by decide) ?_
  exact w_lcmp rfl rfl c1 (by decide) k1 k2

theorem k585_25 {P : s_P} {d : Nat} {Q : s_O → Prop} {h : s_H} {kc ks : Nat} {r0 : Term} {x1 x2 : Int} {t3 : Term} {x4 : Int} {t5 t6 t7 t8 t9 : Term}  (k1 : x2 ≠ 0 → wr P d sw_c585 sw_h585 (62, [r0, vi x1, vl x2, t3, vl x4, t5, t6, t7, t8, t9], [], h, kc, ks) Q) (k2 : ¬ x2 ≠ 0 → wr P d sw_c585 sw_h585 (31, [r0, vi x1, vl x2, t3, vl x4, t5, t6, t7, t8, t9], [], h, kc, ks) Q)  (c1 : In6 x2 := by first | omega | assumption | (simp only [mk_len, List.length_map]; omega) | decide) : wr P d sw_c585 sw_h585 (25, [r0, vi x1, vl x2, t3, vl x4, t5, t6, t7, t8, t9], [], h, kc, ks) Q := by
  refine w_ld rfl rfl (Or.inr (Or.inl ⟨by decide, rfl⟩)) ?_
  refine w_c64 rfl (by decide) 0 (by decide) ?_
  exact w_lcmp rfl rfl c1 (by decide) k1 k2

theorem k585_31 {P : s_P} {d : Nat} {Q : s_O → Prop} {h : s_H} {kc ks : Nat} {r0 : Term} {x1 x2 : Int} {t3 : Term} {x4 : Int} {t5 t6 t7 t8 t9 : Term} {q3 : Nat} {f4 : List Term} {v6 : Term} {q8 : Nat} {a9 : List Int} (g5 : s_get h q3 = some (1, 11, f4)) (g10 : s_get h q8 = some (0, 1, a9.map vl)) (k1 : Int.tmod (x4 * x4) 32003 ≠ gi a9 0 → wr P d sw_c585 sw_h585 (53, [.index q3, vi x1, vl x2, t3, vl x4, t5, t6, t7, t8, t9], [], h, kc, ks) Q) (k2 : ¬ Int.tmod (x4 * x4) 32003 ≠ gi a9 0 → wr P d sw_c585 sw_h585 (50, [.index q3, vi x1, vl x2, t3, vl x4, t5, t6, t7, t8, t9], [], h, kc, ks) Q) (e_q3 : r0 = .index q3 := by first | rfl | assumption) (e_q8 : v6 = .index q8 := by first | rfl | assumption) (y2 : s_ty r0 = 3 := by first | rfl | assumption) (n7 : s_nth f4 10 = some v6 := by first | rfl | assumption) (c1 : In6 (x4 * x4) := by first | omega | assumption | (simp only [mk_len, List.length_map]; omega) | decide) (c11 : (0 : Int) < a9.length := by first | omega | assumption | (simp only [mk_len, List.length_map]; omega) | decide) (c12 : In6 (Int.tmod (x4 * x4) 32003) := by first | omega | assumption | (simp only [mk_len, List.length_map]; omega) | decide) (c13 : In6 (gi a9 0) := by first | omega | assumption | (simp only [mk_len, List.length_map]; omega) | decide) : wr P d sw_c585 sw_h585 (31, [r0, vi x1, vl x2, t3, vl x4, t5, t6, t7, t8, t9], [], h, kc, ks) Q := by
  refine w_ld rfl rfl (Or.inr (Or.inl ⟨by decide, rfl⟩)) ?_
  refine w_ld rfl rfl (Or.inr (Or.inl ⟨by decide, rfl⟩)) ?_
  refine w_lmul rfl ?_
  refine w_c64 rfl (by decide) 32003 (by decide) ?_
  refine w_lrem rfl c1 (by decide) (by decide) ?_
  refine w_ld rfl rfl (Or.inr (Or.inr ⟨by decide, y2⟩)) ?_
  subst e_q3
  refine w_getf rfl g5 n7 ?_
  refine w_c32 rfl (by decide) 0 (by decide) ?_
  subst e_q8
  refine w_lald rfl g10 (by decide) (by decide) c11 ?_
  exact w_lcmp rfl rfl c12 c13 k1 k2

theorem k585_50 {P : s_P} {d : Nat} {Q : s_O → Prop} {h : s_H} {kc ks : Nat} {r0 : Term} {x1 x2 : Int} {t3 : Term} {x4 : Int} {t5 t6 t7 t8 t9 : Term}  (k : wr P d sw_c585 sw_h585 (53, [r0, vi x1, vl x4, .result, vl x4, t5, t6, t7, t8, t9], [], h, kc, ks) Q)   : wr P d sw_c585 sw_h585 (50, [r0, vi x1, vl x2, t3, vl x4, t5, t6, t7, t8, t9], [], h, kc, ks) Q := by
  refine w_ld rfl rfl (Or.inr (Or.inl ⟨by decide, rfl⟩)) ?_
  refine w_stl (ls' := [r0, vi x1, vl x4, t3, vl x4, t5, t6, t7, t8, t9]) (ls'' := [r0, vi x1, vl x4, .result, vl x4, t5, t6, t7, t8, t9]) rfl ⟨by decide, rfl⟩ rfl rfl ?_
  exact k

theorem k585_53 {P : s_P} {d : Nat} {Q : s_O → Prop} {h : s_H} {kc ks : Nat} {r0 : Term} {x1 x2 : Int} {t3 : Term} {x4 : Int} {t5 t6 t7 t8 t9 : Term}  (k : wr P d sw_c585 sw_h585 (16, [r0, vi x1, vl x2, (s_uu t3), vl (x4 + 1), .result, t6, t7, t8, t9], [], h, kc, ks) Q)   : wr P d sw_c585 sw_h585 (53, [r0, vi x1, vl x2, t3, vl x4, t5, t6, t7, t8, t9], [], h, kc, ks) Q := by
  refine w_ld rfl rfl (Or.inr (Or.inl ⟨by decide, rfl⟩)) ?_
  refine w_c64 rfl (by decide) 1 (by decide) ?_
  refine w_ladd rfl ?_
  refine w_stl (ls' := [r0, vi x1, vl x2, (s_uu t3), vl (x4 + 1), t5, t6, t7, t8, t9]) (ls'' := [r0, vi x1, vl x2, (s_uu t3), vl (x4 + 1), .result, t6, t7, t8, t9]) rfl ⟨by decide, rfl⟩ (s_stK_t (pre := [r0, vi x1, vl x2])) rfl ?_
  refine w_goto rfl ?_
  exact k

theorem k585_62 {P : s_P} {d : Nat} {Q : s_O → Prop} {h : s_H} {kc ks : Nat} {r0 : Term} {x1 x2 : Int} {t3 : Term} {x4 : Int} {t5 t6 t7 t8 t9 : Term}  (k1 : x2 ≠ 0 → wr P d sw_c585 sw_h585 (74, [r0, vi x1, vl x2, t3, vl x4, t5, t6, t7, t8, t9], [], h, kc, ks) Q) (k2 : ¬ x2 ≠ 0 → wr P d sw_c585 sw_h585 (68, [r0, vi x1, vl x2, t3, vl x4, t5, t6, t7, t8, t9], [], h, kc, ks) Q)  (c1 : In6 x2 := by first | omega | assumption | (simp only [mk_len, List.length_map]; omega) | decide) : wr P d sw_c585 sw_h585 (62, [r0, vi x1, vl x2, t3, vl x4, t5, t6, t7, t8, t9], [], h, kc, ks) Q := by
  refine w_ld rfl rfl (Or.inr (Or.inl ⟨by decide, rfl⟩)) ?_
  refine w_c64 rfl (by decide) 0 (by decide) ?_
  exact w_lcmp rfl rfl c1 (by decide) k1 k2

theorem k585_68 {P : s_P} {d : Nat} {Q : s_O → Prop} {h : s_H} {kc ks : Nat} {r0 : Term} {x1 x2 : Int} {t3 : Term} {x4 : Int} {t5 t6 t7 t8 t9 : Term} {q2 : Nat} {f3 : List Term} (g4 : s_get h q2 = some (1, 11, f3)) (k : wm P d 570 [.index q2, vi 2] h (wq P d sw_c585 sw_h585 73 [.index q2, vi x1, vl x2, t3, vl x4, t5, t6, t7, t8, t9] [] kc ks Q)) (e_q2 : r0 = .index q2 := by first | rfl | assumption) (y1 : s_ty r0 = 3 := by first | rfl | assumption)  : wr P d sw_c585 sw_h585 (68, [r0, vi x1, vl x2, t3, vl x4, t5, t6, t7, t8, t9], [], h, kc, ks) Q := by
  refine w_ld rfl rfl (Or.inr (Or.inr ⟨by decide, y1⟩)) ?_
  refine w_c32 rfl (by decide) 2 (by decide) ?_
  subst e_q2
  exact w_cv rfl [.index q2, vi 2] [] rfl rfl (s_wt_4 rfl) rfl g4 k

theorem k585_73 {P : s_P} {d : Nat} {Q : s_O → Prop} {h : s_H} {kc ks : Nat} {r0 : Term} {x1 x2 : Int} {t3 : Term} {x4 : Int} {t5 t6 t7 t8 t9 : Term} {s0 : Int}  (k : Q (.inl (some (vi s0)), h, kc, ks))   : wr P d sw_c585 sw_h585 (73, [r0, vi x1, vl x2, t3, vl x4, t5, t6, t7, t8, t9], [vi s0], h, kc, ks) Q := by
  exact w_iret rfl k

theorem k585_74 {P : s_P} {d : Nat} {Q : s_O → Prop} {h : s_H} {kc ks : Nat} {r0 : Term} {x1 x2 : Int} {t3 : Term} {x4 : Int} {t5 t6 t7 t8 t9 : Term}  (k : wm P d 467 [vl (2 * x2)] h (wq P d sw_c585 sw_h585 82 [r0, vi x1, vl x2, t3, vl x4, t5, t6, t7, t8, t9] [] kc ks Q))   : wr P d sw_c585 sw_h585 (74, [r0, vi x1, vl x2, t3, vl x4, t5, t6, t7, t8, t9], [], h, kc, ks) Q := by
  refine w_c64 rfl (by decide) 2 (by decide) ?_
  refine w_ld rfl rfl (Or.inr (Or.inl ⟨by decide, rfl⟩)) ?_
  refine w_lmul rfl ?_
  exact w_cs rfl [vl (2 * x2)] [] rfl rfl (s_wt_4 rfl) k

theorem k585_82 {P : s_P} {d : Nat} {Q : s_O → Prop} {h : s_H} {kc ks : Nat} {r0 : Term} {x1 x2 : Int} {t3 : Term} {x4 : Int} {t5 t6 t7 t8 t9 : Term} {s0 : Int} {q2 : Nat} {f3 : List Term} {v5 : Term} (g4 : s_get h q2 = some (1, 11, f3)) (k : wm P d 405 [v5, vl x2] h (wq P d sw_c585 sw_h585 92 [.index q2, vi x1, vl x2, (s_uu t3), vl s0, .result, t6, t7, t8, t9] [] kc ks Q)) (e_q2 : r0 = .index q2 := by first | rfl | assumption) (y1 : s_ty r0 = 3 := by first | rfl | assumption) (n6 : s_nth f3 14 = some v5 := by first | rfl | assumption)  : wr P d sw_c585 sw_h585 (82, [r0, vi x1, vl x2, t3, vl x4, t5, t6, t7, t8, t9], [vl s0], h, kc, ks) Q := by
  refine w_stl (ls' := [r0, vi x1, vl x2, (s_uu t3), vl s0, t5, t6, t7, t8, t9]) (ls'' := [r0, vi x1, vl x2, (s_uu t3), vl s0, .result, t6, t7, t8, t9]) rfl ⟨by decide, rfl⟩ (s_stK_t (pre := [r0, vi x1, vl x2])) rfl ?_
  refine w_ld rfl rfl (Or.inr (Or.inr ⟨by decide, y1⟩)) ?_
  subst e_q2
  refine w_getf rfl g4 n6 ?_
  refine w_ld rfl rfl (Or.inr (Or.inl ⟨by decide, rfl⟩)) ?_
  exact w_cs rfl [v5, vl x2] [] rfl rfl (s_wt_4 rfl) k

theorem k585_92 {P : s_P} {d : Nat} {Q : s_O → Prop} {h : s_H} {kc ks : Nat} {r0 : Term} {x1 x2 : Int} {t3 : Term} {x4 : Int} {t5 t6 t7 t8 t9 : Term}  (k : wr P d sw_c585 sw_h585 (95, [r0, vi x1, vl x2, t3, vl x4, (s_uu t5), vi 1, t7, t8, t9], [], h, kc, ks) Q)   : wr P d sw_c585 sw_h585 (92, [r0, vi x1, vl x2, t3, vl x4, t5, t6, t7, t8, t9], [], h, kc, ks) Q := by
  refine w_c32 rfl (by decide) 1 (by decide) ?_
  refine w_st (ls' := [r0, vi x1, vl x2, t3, vl x4, (s_uu t5), vi 1, t7, t8, t9]) rfl (Or.inl ⟨by decide, rfl⟩) (s_stK_t (pre := [r0, vi x1, vl x2, t3, vl x4])) ?_
  exact k

theorem k585_95 {P : s_P} {d : Nat} {Q : s_O → Prop} {h : s_H} {kc ks : Nat} {r0 : Term} {x1 x2 : Int} {t3 : Term} {x4 : Int} {t5 : Term} {x6 : Int} {t7 t8 t9 : Term}  (k1 : 25 ≤ x6 → wr P d sw_c585 sw_h585 (175, [r0, vi x1, vl x2, t3, vl x4, t5, vi x6, t7, t8, t9], [], h, kc, ks) Q) (k2 : ¬ 25 ≤ x6 → wr P d sw_c585 sw_h585 (102, [r0, vi x1, vl x2, t3, vl x4, t5, vi x6, t7, t8, t9], [], h, kc, ks) Q)  (c1 : In3 x6 := by first | omega | assumption | (simp only [mk_len, List.length_map]; omega) | decide) : wr P d sw_c585 sw_h585 (95, [r0, vi x1, vl x2, t3, vl x4, t5, vi x6, t7, t8, t9], [], h, kc, ks) Q := by
  refine w_ld rfl rfl (Or.inl ⟨by decide, rfl⟩) ?_
  refine w_c32 rfl (by decide) 25 (by decide) ?_
  exact w_if2 rfl c1 (by decide) k1 k2

theorem k585_102 {P : s_P} {d : Nat} {Q : s_O → Prop} {h : s_H} {kc ks : Nat} {r0 : Term} {x1 x2 : Int} {t3 : Term} {x4 : Int} {t5 : Term} {x6 : Int} {t7 t8 t9 : Term} {q2 : Nat} {f3 : List Term} {v5 : Term} {q7 : Nat} {a8 : List Int} (g4 : s_get h q2 = some (1, 11, f3)) (g9 : s_get h q7 = some (0, 1, a8.map vl)) (k : wr P d sw_c585 sw_h585 (114, [.index q2, vi x1, vl x2, t3, vl x4, t5, vi x6, vl (gi a8 x6), .result, vi 1], [], h, kc, ks) Q) (e_q2 : r0 = .index q2 := by first | rfl | assumption) (e_q7 : v5 = .index q7 := by first | rfl | assumption) (y1 : s_ty r0 = 3 := by first | rfl | assumption) (n6 : s_nth f3 10 = some v5 := by first | rfl | assumption) (c10 : x6 < a8.length := by first | omega | assumption | (simp only [mk_len, List.length_map]; omega) | decide) (c11 : 0 ≤ x6 := by first | omega | assumption | (simp only [mk_len, List.length_map]; omega) | decide) (c12 : In3 x6 := by first | omega | assumption | (simp only [mk_len, List.length_map]; omega) | decide) : wr P d sw_c585 sw_h585 (102, [r0, vi x1, vl x2, t3, vl x4, t5, vi x6, t7, t8, t9], [], h, kc, ks) Q := by
  refine w_ld rfl rfl (Or.inr (Or.inr ⟨by decide, y1⟩)) ?_
  subst e_q2
  refine w_getf rfl g4 n6 ?_
  refine w_ld rfl rfl (Or.inl ⟨by decide, rfl⟩) ?_
  subst e_q7
  refine w_lald rfl g9 c12 c11 c10 ?_
  refine w_stl (ls' := [.index q2, vi x1, vl x2, t3, vl x4, t5, vi x6, vl (gi a8 x6), t8, t9]) (ls'' := [.index q2, vi x1, vl x2, t3, vl x4, t5, vi x6, vl (gi a8 x6), .result, t9]) rfl ⟨by decide, rfl⟩ rfl rfl ?_
  refine w_c32 rfl (by decide) 1 (by decide) ?_
  refine w_st (ls' := [.index q2, vi x1, vl x2, t3, vl x4, t5, vi x6, vl (gi a8 x6), .result, vi 1]) rfl (Or.inl ⟨by decide, rfl⟩) rfl ?_
  exact k

theorem k585_114 {P : s_P} {d : Nat} {Q : s_O → Prop} {h : s_H} {kc ks : Nat} {r0 : Term} {x1 x2 : Int} {t3 : Term} {x4 : Int} {t5 : Term} {x6 x7 : Int} {t8 : Term} {x9 : Int}  (k1 : x6 ≤ x9 → wr P d sw_c585 sw_h585 (153, [r0, vi x1, vl x2, t3, vl x4, t5, vi x6, vl x7, t8, vi x9], [], h, kc, ks) Q) (k2 : ¬ x6 ≤ x9 → wr P d sw_c585 sw_h585 (121, [r0, vi x1, vl x2, t3, vl x4, t5, vi x6, vl x7, t8, vi x9], [], h, kc, ks) Q)  (c1 : In3 x9 := by first | omega | assumption | (simp only [mk_len, List.length_map]; omega) | decide) (c2 : In3 x6 := by first | omega | assumption | (simp only [mk_len, List.length_map]; omega) | decide) : wr P d sw_c585 sw_h585 (114, [r0, vi x1, vl x2, t3, vl x4, t5, vi x6, vl x7, t8, vi x9], [], h, kc, ks) Q := by
  refine w_ld rfl rfl (Or.inl ⟨by decide, rfl⟩) ?_
  refine w_ld rfl rfl (Or.inl ⟨by decide, rfl⟩) ?_
  exact w_if2 rfl c1 c2 k1 k2

theorem k585_121 {P : s_P} {d : Nat} {Q : s_O → Prop} {h : s_H} {kc ks : Nat} {r0 : Term} {x1 x2 : Int} {t3 : Term} {x4 : Int} {t5 : Term} {x6 x7 : Int} {t8 : Term} {x9 : Int} {q2 : Nat} {f3 : List Term} {v5 : Term} {q7 : Nat} {a8 : List Int} (g4 : s_get h q2 = some (1, 11, f3)) (g9 : s_get h q7 = some (0, 1, a8.map vl)) (k : wm P d 528 [vl (x7 - ((gi a8 x9) * (gi a8 (x6 - x9))))] h (wq P d sw_c585 sw_h585 145 [.index q2, vi x1, vl x2, t3, vl x4, t5, vi x6, vl x7, t8, vi x9] [] kc ks Q)) (e_q2 : r0 = .index q2 := by first | rfl | assumption) (e_q7 : v5 = .index q7 := by first | rfl | assumption) (y1 : s_ty r0 = 3 := by first | rfl | assumption) (n6 : s_nth f3 14 = some v5 := by first | rfl | assumption) (c10 : x9 < a8.length := by first | omega | assumption | (simp only [mk_len, List.length_map]; omega) | decide) (c11 : 0 ≤ x9 := by first | omega | assumption | (simp only [mk_len, List.length_map]; omega) | decide) (c12 : In3 x9 := by first | omega | assumption | (simp only [mk_len, List.length_map]; omega) | decide) (c13 : x6 - x9 < a8.length := by first | omega | assumption | (simp only [mk_len, List.length_map]; omega) | decide) (c14 : 0 ≤ x6 - x9 := by first | omega | assumption | (simp only [mk_len, List.length_map]; omega) | decide) (c15 : In3 (x6 - x9) := by first | omega | assumption | (simp only [mk_len, List.length_map]; omega) | decide) : wr P d sw_c585 sw_h585 (121, [r0, vi x1, vl x2, t3, vl x4, t5, vi x6, vl x7, t8, vi x9], [], h, kc, ks) Q := by
  refine w_ld rfl rfl (Or.inr (Or.inl ⟨by decide, rfl⟩)) ?_
  refine w_ld rfl rfl (Or.inr (Or.inr ⟨by decide, y1⟩)) ?_
  subst e_q2
  refine w_getf rfl g4 n6 ?_
  refine w_ld rfl rfl (Or.inl ⟨by decide, rfl⟩) ?_
  subst e_q7
  refine w_lald rfl g9 c12 c11 c10 ?_
  refine w_ld rfl rfl (Or.inr (Or.inr ⟨by decide, rfl⟩)) ?_
  refine w_getf rfl g4 n6 ?_
  refine w_ld rfl rfl (Or.inl ⟨by decide, rfl⟩) ?_
  refine w_ld rfl rfl (Or.inl ⟨by decide, rfl⟩) ?_
  refine w_isub rfl ?_
  refine w_lald rfl g9 c15 c14 c13 ?_
  refine w_lmul rfl ?_
  refine w_lsub rfl ?_
  exact w_cs rfl [vl (x7 - ((gi a8 x9) * (gi a8 (x6 - x9))))] [] rfl rfl (s_wt_4 rfl) k

theorem k585_145 {P : s_P} {d : Nat} {Q : s_O → Prop} {h : s_H} {kc ks : Nat} {r0 : Term} {x1 x2 : Int} {t3 : Term} {x4 : Int} {t5 : Term} {x6 x7 : Int} {t8 : Term} {x9 s0 : Int}  (k : wr P d sw_c585 sw_h585 (114, [r0, vi x1, vl x2, t3, vl x4, t5, vi x6, vl s0, .result, vi (x9 + 1)], [], h, kc, ks) Q)   : wr P d sw_c585 sw_h585 (145, [r0, vi x1, vl x2, t3, vl x4, t5, vi x6, vl x7, t8, vi x9], [vl s0], h, kc, ks) Q := by
  refine w_stl (ls' := [r0, vi x1, vl x2, t3, vl x4, t5, vi x6, vl s0, t8, vi x9]) (ls'' := [r0, vi x1, vl x2, t3, vl x4, t5, vi x6, vl s0, .result, vi x9]) rfl ⟨by decide, rfl⟩ rfl rfl ?_
  refine w_iinc (ls' := [r0, vi x1, vl x2, t3, vl x4, t5, vi x6, vl s0, .result, vi (x9 + 1)]) rfl rfl 1 (by decide) rfl ?_
  refine w_goto rfl ?_
  exact k

theorem k585_153 {P : s_P} {d : Nat} {Q : s_O → Prop} {h : s_H} {kc ks : Nat} {r0 : Term} {x1 x2 : Int} {t3 : Term} {x4 : Int} {t5 : Term} {x6 x7 : Int} {t8 : Term} {x9 : Int} {q2 : Nat} {f3 : List Term} {v5 : Term} {q8 : Nat} {a9 : List Int} (g4 : s_get h q2 = some (1, 11, f3)) (g10 : s_get h q8 = some (0, 1, a9.map vl)) (k : wr P d sw_c585 sw_h585 (95, [.index q2, vi x1, vl x2, t3, vl x4, (s_uu t5), vi (x6 + 1), vl x7, t8, vi x9], [], (hp h q8 (0, 1, (a9.set (Int.toNat (x6)) (Int.tmod (x7 * x4) 32003)).map vl)), kc, ks) Q) (e_q2 : r0 = .index q2 := by first | rfl | assumption) (e_q8 : v5 = .index q8 := by first | rfl | assumption) (y1 : s_ty r0 = 3 := by first | rfl | assumption) (n6 : s_nth f3 14 = some v5 := by first | rfl | assumption) (c7 : In6 (x7 * x4) := by first | omega | assumption | (simp only [mk_len, List.length_map]; omega) | decide) (c11 : x6 < a9.length := by first | omega | assumption | (simp only [mk_len, List.length_map]; omega) | decide) (c12 : 0 ≤ x6 := by first | omega | assumption | (simp only [mk_len, List.length_map]; omega) | decide) (c13 : In3 x6 := by first | omega | assumption | (simp only [mk_len, List.length_map]; omega) | decide) (c14 : 0 < q8 := by first | omega | assumption | (simp only [mk_len, List.length_map]; omega) | decide) : wr P d sw_c585 sw_h585 (153, [r0, vi x1, vl x2, t3, vl x4, t5, vi x6, vl x7, t8, vi x9], [], h, kc, ks) Q := by
  refine w_ld rfl rfl (Or.inr (Or.inr ⟨by decide, y1⟩)) ?_
  subst e_q2
  refine w_getf rfl g4 n6 ?_
  refine w_ld rfl rfl (Or.inl ⟨by decide, rfl⟩) ?_
  refine w_ld rfl rfl (Or.inr (Or.inl ⟨by decide, rfl⟩)) ?_
  refine w_ld rfl rfl (Or.inr (Or.inl ⟨by decide, rfl⟩)) ?_
  refine w_lmul rfl ?_
  refine w_c64 rfl (by decide) 32003 (by decide) ?_
  refine w_lrem rfl c7 (by decide) (by decide) ?_
  subst e_q8
  refine w_last rfl g10 (Nat.ble_eq_true_of_le c14) c13 c12 c11 ?_
  refine w_iinc (ls' := [.index q2, vi x1, vl x2, t3, vl x4, (s_uu t5), vi (x6 + 1), vl x7, t8, vi x9]) rfl rfl 1 (by decide) (s_stK_t (pre := [.index q2, vi x1, vl x2, t3, vl x4])) ?_
  refine w_goto rfl ?_
  exact k

theorem k585_175 {P : s_P} {d : Nat} {Q : s_O → Prop} {h : s_H} {kc ks : Nat} {r0 : Term} {x1 x2 : Int} {t3 : Term} {x4 : Int} {t5 : Term} {x6 : Int} {t7 t8 t9 : Term} {q2 : Nat} {f3 : List Term} (g4 : s_get h q2 = some (1, 11, f3)) (k : wm P d 499 [.index q2, vi 3] h (wq P d sw_c585 sw_h585 180 [.index q2, vi x1, vl x2, t3, vl x4, t5, vi x6, t7, t8, t9] [] kc ks Q)) (e_q2 : r0 = .index q2 := by first | rfl | assumption) (y1 : s_ty r0 = 3 := by first | rfl | assumption)  : wr P d sw_c585 sw_h585 (175, [r0, vi x1, vl x2, t3, vl x4, t5, vi x6, t7, t8, t9], [], h, kc, ks) Q := by
  refine w_ld rfl rfl (Or.inr (Or.inr ⟨by decide, y1⟩)) ?_
  refine w_c32 rfl (by decide) 3 (by decide) ?_
  subst e_q2
  exact w_cv rfl [.index q2, vi 3] [] rfl rfl (s_wt_4 rfl) rfl g4 k

theorem k585_180 {P : s_P} {d : Nat} {Q : s_O → Prop} {h : s_H} {kc ks : Nat} {r0 : Term} {x1 x2 : Int} {t3 : Term} {x4 : Int} {t5 : Term} {x6 : Int} {t7 t8 t9 : Term} {s0 : Int}  (k : Q (.inl (some (vi s0)), h, kc, ks))   : wr P d sw_c585 sw_h585 (180, [r0, vi x1, vl x2, t3, vl x4, t5, vi x6, t7, t8, t9], [vi s0], h, kc, ks) Q := by
  exact w_iret rfl k

/-! 586: FormulaWorksModel.row(II)I -/
theorem k586_0 {P : s_P} {d : Nat} {Q : s_O → Prop} {h : s_H} {kc ks : Nat} {r0 : Term} {x1 x2 : Int} {q2 : Nat} {f3 f8 : List Term} {z10 : Int} (g4 : s_get h q2 = some (1, 11, f3)) (g9 : s_get (hp h q2 (1, 11, f3.set 0 (vi 0))) q2 = some (1, 11, f8)) (k : wm P d 464 [vl x1, vl 0, vl (z10 - 1)] (hp h q2 (1, 11, f3.set 0 (vi 0))) (wq P d sw_c586 sw_h586 18 [.index q2, vi x1, vi x2] [] kc ks Q)) (e_q2 : r0 = .index q2 := by first | rfl | assumption) (y1 : s_ty r0 = 3 := by first | rfl | assumption) (l5 : 0 < f3.length := by first | exact Nat.le_of_ble_eq_true rfl | omega | assumption) (n11 : s_nth f8 98 = some (vi z10) := by first | rfl | assumption) (c6 : 0 < q2 := by first | omega | assumption | (simp only [mk_len, List.length_map]; omega) | decide) (c7 : In3 x1 := by first | omega | assumption | (simp only [mk_len, List.length_map]; omega) | decide) (c12 : In3 (z10 - 1) := by first | omega | assumption | (simp only [mk_len, List.length_map]; omega) | decide) : wr P d sw_c586 sw_h586 (0, [r0, vi x1, vi x2], [], h, kc, ks) Q := by
  refine w_ld rfl rfl (Or.inr (Or.inr ⟨by decide, y1⟩)) ?_
  refine w_c32 rfl (by decide) 0 (by decide) ?_
  subst e_q2
  refine w_putf rfl g4 (Nat.ble_eq_true_of_le c6) rfl (Nat.ble_eq_true_of_le l5) ?_
  refine w_ld rfl rfl (Or.inl ⟨by decide, rfl⟩) ?_
  refine w_i2l rfl c7 ?_
  refine w_c64 rfl (by decide) 0 (by decide) ?_
  refine w_ld rfl rfl (Or.inr (Or.inr ⟨by decide, rfl⟩)) ?_
  refine w_getf rfl g9 n11 ?_
  refine w_c32 rfl (by decide) 1 (by decide) ?_
  refine w_isub rfl ?_
  refine w_i2l rfl c12 ?_
  exact w_cs rfl [vl x1, vl 0, vl (z10 - 1)] [] rfl rfl (s_wt_4 rfl) k

theorem k586_18 {P : s_P} {d : Nat} {Q : s_O → Prop} {h : s_H} {kc ks : Nat} {r0 : Term} {x1 x2 s0 : Int}  (k1 : s0 = 0 → wr P d sw_c586 sw_h586 (31, [r0, vi x1, vi x2], [], h, kc, ks) Q) (k2 : ¬ s0 = 0 → wr P d sw_c586 sw_h586 (21, [r0, vi x1, vi x2], [], h, kc, ks) Q)  (c1 : In3 s0 := by first | omega | assumption | (simp only [mk_len, List.length_map]; omega) | decide) : wr P d sw_c586 sw_h586 (18, [r0, vi x1, vi x2], [vi s0], h, kc, ks) Q := by
  exact w_if1 rfl c1 k1 k2

theorem k586_21 {P : s_P} {d : Nat} {Q : s_O → Prop} {h : s_H} {kc ks : Nat} {r0 : Term} {x1 x2 : Int}  (k : wm P d 464 [vl x2, vl 0, vl 1] h (wq P d sw_c586 sw_h586 28 [r0, vi x1, vi x2] [] kc ks Q))  (c1 : In3 x2 := by first | omega | assumption | (simp only [mk_len, List.length_map]; omega) | decide) : wr P d sw_c586 sw_h586 (21, [r0, vi x1, vi x2], [], h, kc, ks) Q := by
  refine w_ld rfl rfl (Or.inl ⟨by decide, rfl⟩) ?_
  refine w_i2l rfl c1 ?_
  refine w_c64 rfl (by decide) 0 (by decide) ?_
  refine w_c64 rfl (by decide) 1 (by decide) ?_
  exact w_cs rfl [vl x2, vl 0, vl 1] [] rfl rfl (s_wt_4 rfl) k

theorem k586_28 {P : s_P} {d : Nat} {Q : s_O → Prop} {h : s_H} {kc ks : Nat} {r0 : Term} {x1 x2 s0 : Int}  (k1 : s0 ≠ 0 → wr P d sw_c586 sw_h586 (35, [r0, vi x1, vi x2], [], h, kc, ks) Q) (k2 : ¬ s0 ≠ 0 → wr P d sw_c586 sw_h586 (31, [r0, vi x1, vi x2], [], h, kc, ks) Q)  (c1 : In3 s0 := by first | omega | assumption | (simp only [mk_len, List.length_map]; omega) | decide) : wr P d sw_c586 sw_h586 (28, [r0, vi x1, vi x2], [vi s0], h, kc, ks) Q := by
  exact w_if1 rfl c1 k1 k2

theorem k586_31 {P : s_P} {d : Nat} {Q : s_O → Prop} {h : s_H} {kc ks : Nat} {r0 : Term} {x1 x2 : Int}  (k : wr P d sw_c586 sw_h586 (54, [r0, vi x1, vi x2], [vi (-1)], h, kc, ks) Q)   : wr P d sw_c586 sw_h586 (31, [r0, vi x1, vi x2], [], h, kc, ks) Q := by
  refine w_c32 rfl (by decide) (-1) (by decide) ?_
  refine w_goto rfl ?_
  exact k

theorem k586_35 {P : s_P} {d : Nat} {Q : s_O → Prop} {h : s_H} {kc ks : Nat} {r0 : Term} {x1 x2 : Int}  (k1 : x2 ≠ 0 → wr P d sw_c586 sw_h586 (48, [r0, vi x1, vi x2], [], h, kc, ks) Q) (k2 : ¬ x2 ≠ 0 → wr P d sw_c586 sw_h586 (39, [r0, vi x1, vi x2], [], h, kc, ks) Q)  (c1 : In3 x2 := by first | omega | assumption | (simp only [mk_len, List.length_map]; omega) | decide) : wr P d sw_c586 sw_h586 (35, [r0, vi x1, vi x2], [], h, kc, ks) Q := by
  refine w_ld rfl rfl (Or.inl ⟨by decide, rfl⟩) ?_
  exact w_if1 rfl c1 k1 k2

theorem k586_39 {P : s_P} {d : Nat} {Q : s_O → Prop} {h : s_H} {kc ks : Nat} {r0 : Term} {x1 x2 : Int} {q2 : Nat} {f3 : List Term} {v5 : Term} {q7 : Nat} {a8 : List Int} (g4 : s_get h q2 = some (1, 11, f3)) (g9 : s_get h q7 = some (0, 0, a8.map vi)) (k : wr P d sw_c586 sw_h586 (54, [.index q2, vi x1, vi x2], [vi (gi a8 x1)], h, kc, ks) Q) (e_q2 : r0 = .index q2 := by first | rfl | assumption) (e_q7 : v5 = .index q7 := by first | rfl | assumption) (y1 : s_ty r0 = 3 := by first | rfl | assumption) (n6 : s_nth f3 99 = some v5 := by first | rfl | assumption) (c10 : x1 < a8.length := by first | omega | assumption | (simp only [mk_len, List.length_map]; omega) | decide) (c11 : 0 ≤ x1 := by first | omega | assumption | (simp only [mk_len, List.length_map]; omega) | decide) (c12 : In3 x1 := by first | omega | assumption | (simp only [mk_len, List.length_map]; omega) | decide) : wr P d sw_c586 sw_h586 (39, [r0, vi x1, vi x2], [], h, kc, ks) Q := by
  refine w_ld rfl rfl (Or.inr (Or.inr ⟨by decide, y1⟩)) ?_
  subst e_q2
  refine w_getf rfl g4 n6 ?_
  refine w_ld rfl rfl (Or.inl ⟨by decide, rfl⟩) ?_
  subst e_q7
  refine w_iald rfl g9 (Or.inl rfl) c12 c11 c10 ?_
  refine w_goto rfl ?_
  exact k

theorem k586_48 {P : s_P} {d : Nat} {Q : s_O → Prop} {h : s_H} {kc ks : Nat} {r0 : Term} {x1 x2 : Int} {q2 : Nat} {f3 : List Term} {v5 : Term} {q7 : Nat} {a8 : List Int} (g4 : s_get h q2 = some (1, 11, f3)) (g9 : s_get h q7 = some (0, 0, a8.map vi)) (k : wr P d sw_c586 sw_h586 (54, [.index q2, vi x1, vi x2], [vi (gi a8 x1)], h, kc, ks) Q) (e_q2 : r0 = .index q2 := by first | rfl | assumption) (e_q7 : v5 = .index q7 := by first | rfl | assumption) (y1 : s_ty r0 = 3 := by first | rfl | assumption) (n6 : s_nth f3 100 = some v5 := by first | rfl | assumption) (c10 : x1 < a8.length := by first | omega | assumption | (simp only [mk_len, List.length_map]; omega) | decide) (c11 : 0 ≤ x1 := by first | omega | assumption | (simp only [mk_len, List.length_map]; omega) | decide) (c12 : In3 x1 := by first | omega | assumption | (simp only [mk_len, List.length_map]; omega) | decide) : wr P d sw_c586 sw_h586 (48, [r0, vi x1, vi x2], [], h, kc, ks) Q := by
  refine w_ld rfl rfl (Or.inr (Or.inr ⟨by decide, y1⟩)) ?_
  subst e_q2
  refine w_getf rfl g4 n6 ?_
  refine w_ld rfl rfl (Or.inl ⟨by decide, rfl⟩) ?_
  subst e_q7
  refine w_iald rfl g9 (Or.inl rfl) c12 c11 c10 ?_
  exact k

theorem k586_54 {P : s_P} {d : Nat} {Q : s_O → Prop} {h : s_H} {kc ks : Nat} {r0 : Term} {x1 x2 s0 : Int}  (k : Q (.inl (some (vi s0)), h, kc, ks))   : wr P d sw_c586 sw_h586 (54, [r0, vi x1, vi x2], [vi s0], h, kc, ks) Q := by
  exact w_iret rfl k

/-! 587: FormulaWorksModel.rows()I -/
theorem k587_0 {P : s_P} {d : Nat} {Q : s_O → Prop} {h : s_H} {kc ks : Nat} {r0 : Term} {q2 : Nat} {f3 f7 : List Term} {z9 : Int} (g4 : s_get h q2 = some (1, 11, f3)) (g8 : s_get (hp h q2 (1, 11, f3.set 0 (vi 0))) q2 = some (1, 11, f7)) (k : Q (.inl (some (vi z9)), (hp h q2 (1, 11, f3.set 0 (vi 0))), kc, ks)) (e_q2 : r0 = .index q2 := by first | rfl | assumption) (y1 : s_ty r0 = 3 := by first | rfl | assumption) (l5 : 0 < f3.length := by first | exact Nat.le_of_ble_eq_true rfl | omega | assumption) (n10 : s_nth f7 98 = some (vi z9) := by first | rfl | assumption) (c6 : 0 < q2 := by first | omega | assumption | (simp only [mk_len, List.length_map]; omega) | decide) : wr P d sw_c587 sw_h587 (0, [r0], [], h, kc, ks) Q := by
  refine w_ld rfl rfl (Or.inr (Or.inr ⟨by decide, y1⟩)) ?_
  refine w_c32 rfl (by decide) 0 (by decide) ?_
  subst e_q2
  refine w_putf rfl g4 (Nat.ble_eq_true_of_le c6) rfl (Nat.ble_eq_true_of_le l5) ?_
  refine w_ld rfl rfl (Or.inr (Or.inr ⟨by decide, rfl⟩)) ?_
  refine w_getf rfl g8 n10 ?_
  exact w_iret rfl k

/-! 588: FormulaWorksModel.rowsFor(II)I -/
theorem k588_0 {P : s_P} {d : Nat} {Q : s_O → Prop} {h : s_H} {kc ks : Nat} {r0 : Term} {x1 x2 : Int} {t3 : Term}  (k : wr P d sw_c588 sw_h588 (2, [r0, vi x1, vi x2, vi 0], [], h, kc, ks) Q)   : wr P d sw_c588 sw_h588 (0, [r0, vi x1, vi x2, t3], [], h, kc, ks) Q := by
  refine w_c32 rfl (by decide) 0 (by decide) ?_
  refine w_st (ls' := [r0, vi x1, vi x2, vi 0]) rfl (Or.inl ⟨by decide, rfl⟩) rfl ?_
  exact k

theorem k588_2 {P : s_P} {d : Nat} {Q : s_O → Prop} {h : s_H} {kc ks : Nat} {r0 : Term} {x1 x2 x3 : Int} {q2 : Nat} {f3 : List Term} {v5 : Term} {q7 : Nat} {a8 : List Int} (g4 : s_get h q2 = some (1, 11, f3)) (g9 : s_get h q7 = some (0, 0, a8.map vi)) (k1 : zi 27 1 (gi a8 x1) ≤ x3 → wr P d sw_c588 sw_h588 (56, [.index q2, vi x1, vi x2, vi x3], [], h, kc, ks) Q) (k2 : ¬ zi 27 1 (gi a8 x1) ≤ x3 → wr P d sw_c588 sw_h588 (14, [.index q2, vi x1, vi x2, vi x3], [], h, kc, ks) Q) (e_q2 : r0 = .index q2 := by first | rfl | assumption) (e_q7 : v5 = .index q7 := by first | rfl | assumption) (y1 : s_ty r0 = 3 := by first | rfl | assumption) (n6 : s_nth f3 5 = some v5 := by first | rfl | assumption) (c10 : x1 < a8.length := by first | omega | assumption | (simp only [mk_len, List.length_map]; omega) | decide) (c11 : 0 ≤ x1 := by first | omega | assumption | (simp only [mk_len, List.length_map]; omega) | decide) (c12 : In3 x1 := by first | omega | assumption | (simp only [mk_len, List.length_map]; omega) | decide) (c13 : In3 x3 := by first | omega | assumption | (simp only [mk_len, List.length_map]; omega) | decide) (c14 : In3 (zi 27 1 (gi a8 x1)) := by first | omega | assumption | (simp only [mk_len, List.length_map]; omega) | decide) : wr P d sw_c588 sw_h588 (2, [r0, vi x1, vi x2, vi x3], [], h, kc, ks) Q := by
  refine w_ld rfl rfl (Or.inl ⟨by decide, rfl⟩) ?_
  refine w_c32 rfl (by decide) 1 (by decide) ?_
  refine w_ld rfl rfl (Or.inr (Or.inr ⟨by decide, y1⟩)) ?_
  subst e_q2
  refine w_getf rfl g4 n6 ?_
  refine w_ld rfl rfl (Or.inl ⟨by decide, rfl⟩) ?_
  subst e_q7
  refine w_iald rfl g9 (Or.inl rfl) c12 c11 c10 ?_
  refine w_ib rfl (by decide) ?_
  exact w_if2 rfl c13 c14 k1 k2

theorem k588_14 {P : s_P} {d : Nat} {Q : s_O → Prop} {h : s_H} {kc ks : Nat} {r0 : Term} {x1 x2 x3 : Int}  (k : wm P d 408 [vi x3] h (wq P d sw_c588 sw_h588 18 [r0, vi x1, vi x2, vi x3] [] kc ks Q))   : wr P d sw_c588 sw_h588 (14, [r0, vi x1, vi x2, vi x3], [], h, kc, ks) Q := by
  refine w_ld rfl rfl (Or.inl ⟨by decide, rfl⟩) ?_
  exact w_cs rfl [vi x3] [] rfl rfl (s_wt_4 rfl) k

theorem k588_18 {P : s_P} {d : Nat} {Q : s_O → Prop} {h : s_H} {kc ks : Nat} {r0 : Term} {x1 x2 x3 s0 : Int}  (k : wm P d 408 [vi x2] h (wq P d sw_c588 sw_h588 22 [r0, vi x1, vi x2, vi x3] [vi s0] kc ks Q))   : wr P d sw_c588 sw_h588 (18, [r0, vi x1, vi x2, vi x3], [vi s0], h, kc, ks) Q := by
  refine w_ld rfl rfl (Or.inl ⟨by decide, rfl⟩) ?_
  exact w_cs rfl [vi x2] [vi s0] rfl rfl (s_wt_4 rfl) k

theorem k588_22 {P : s_P} {d : Nat} {Q : s_O → Prop} {h : s_H} {kc ks : Nat} {r0 : Term} {x1 x2 x3 s0 s1 : Int}  (k1 : s0 = s1 → wr P d sw_c588 sw_h588 (28, [r0, vi x1, vi x2, vi x3], [], h, kc, ks) Q) (k2 : ¬ s0 = s1 → wr P d sw_c588 sw_h588 (25, [r0, vi x1, vi x2, vi x3], [], h, kc, ks) Q)  (c1 : In3 s0 := by first | omega | assumption | (simp only [mk_len, List.length_map]; omega) | decide) (c2 : In3 s1 := by first | omega | assumption | (simp only [mk_len, List.length_map]; omega) | decide) : wr P d sw_c588 sw_h588 (22, [r0, vi x1, vi x2, vi x3], [vi s1, vi s0], h, kc, ks) Q := by
  exact w_if2 rfl c1 c2 k1 k2

theorem k588_25 {P : s_P} {d : Nat} {Q : s_O → Prop} {h : s_H} {kc ks : Nat} {r0 : Term} {x1 x2 x3 : Int}  (k : wr P d sw_c588 sw_h588 (50, [r0, vi x1, vi x2, vi x3], [], h, kc, ks) Q)   : wr P d sw_c588 sw_h588 (25, [r0, vi x1, vi x2, vi x3], [], h, kc, ks) Q := by
  refine w_goto rfl ?_
  exact k

theorem k588_28 {P : s_P} {d : Nat} {Q : s_O → Prop} {h : s_H} {kc ks : Nat} {r0 : Term} {x1 x2 x3 : Int} {q2 : Nat} {f3 : List Term} {v5 : Term} (g4 : s_get h q2 = some (1, 11, f3)) (k : wm P d 510 [.index q2, v5, vi x3, vi x2] h (wq P d sw_c588 sw_h588 38 [.index q2, vi x1, vi x2, vi x3] [] kc ks Q)) (e_q2 : r0 = .index q2 := by first | rfl | assumption) (y1 : s_ty r0 = 3 := by first | rfl | assumption) (n6 : s_nth f3 21 = some v5 := by first | rfl | assumption)  : wr P d sw_c588 sw_h588 (28, [r0, vi x1, vi x2, vi x3], [], h, kc, ks) Q := by
  refine w_ld rfl rfl (Or.inr (Or.inr ⟨by decide, y1⟩)) ?_
  refine w_ld rfl rfl (Or.inr (Or.inr ⟨by decide, y1⟩)) ?_
  subst e_q2
  refine w_getf rfl g4 n6 ?_
  refine w_ld rfl rfl (Or.inl ⟨by decide, rfl⟩) ?_
  refine w_ld rfl rfl (Or.inl ⟨by decide, rfl⟩) ?_
  exact w_cv rfl [.index q2, v5, vi x3, vi x2] [] rfl rfl (s_wt_4 rfl) rfl g4 k

theorem k588_38 {P : s_P} {d : Nat} {Q : s_O → Prop} {h : s_H} {kc ks : Nat} {r0 : Term} {x1 x2 x3 : Int} {q2 : Nat} {f3 : List Term} {v5 : Term} (g4 : s_get h q2 = some (1, 11, f3)) (k : wm P d 463 [v5] h (wq P d sw_c588 sw_h588 45 [.index q2, vi x1, vi x2, vi x3] [] kc ks Q)) (e_q2 : r0 = .index q2 := by first | rfl | assumption) (y1 : s_ty r0 = 3 := by first | rfl | assumption) (n6 : s_nth f3 21 = some v5 := by first | rfl | assumption)  : wr P d sw_c588 sw_h588 (38, [r0, vi x1, vi x2, vi x3], [], h, kc, ks) Q := by
  refine w_ld rfl rfl (Or.inr (Or.inr ⟨by decide, y1⟩)) ?_
  subst e_q2
  refine w_getf rfl g4 n6 ?_
  exact w_cs rfl [v5] [] rfl rfl (s_wt_4 rfl) k

theorem k588_45 {P : s_P} {d : Nat} {Q : s_O → Prop} {h : s_H} {kc ks : Nat} {r0 : Term} {x1 x2 x3 s0 : Int}  (k1 : s0 < 0 → wr P d sw_c588 sw_h588 (50, [r0, vi x1, vi x2, vi x3], [], h, kc, ks) Q) (k2 : ¬ s0 < 0 → wr P d sw_c588 sw_h588 (48, [r0, vi x1, vi x2, vi x3], [], h, kc, ks) Q)  (c1 : In3 s0 := by first | omega | assumption | (simp only [mk_len, List.length_map]; omega) | decide) : wr P d sw_c588 sw_h588 (45, [r0, vi x1, vi x2, vi x3], [vi s0], h, kc, ks) Q := by
  exact w_if1 rfl c1 k1 k2

theorem k588_48 {P : s_P} {d : Nat} {Q : s_O → Prop} {h : s_H} {kc ks : Nat} {r0 : Term} {x1 x2 x3 : Int}  (k : Q (.inl (some (vi x3)), h, kc, ks))   : wr P d sw_c588 sw_h588 (48, [r0, vi x1, vi x2, vi x3], [], h, kc, ks) Q := by
  refine w_ld rfl rfl (Or.inl ⟨by decide, rfl⟩) ?_
  exact w_iret rfl k

theorem k588_50 {P : s_P} {d : Nat} {Q : s_O → Prop} {h : s_H} {kc ks : Nat} {r0 : Term} {x1 x2 x3 : Int}  (k : wr P d sw_c588 sw_h588 (2, [r0, vi x1, vi x2, vi (x3 + 1)], [], h, kc, ks) Q)   : wr P d sw_c588 sw_h588 (50, [r0, vi x1, vi x2, vi x3], [], h, kc, ks) Q := by
  refine w_iinc (ls' := [r0, vi x1, vi x2, vi (x3 + 1)]) rfl rfl 1 (by decide) rfl ?_
  refine w_goto rfl ?_
  exact k

theorem k588_56 {P : s_P} {d : Nat} {Q : s_O → Prop} {h : s_H} {kc ks : Nat} {r0 : Term} {x1 x2 x3 : Int}  (k : Q (.inl (some (vi (-1))), h, kc, ks))   : wr P d sw_c588 sw_h588 (56, [r0, vi x1, vi x2, vi x3], [], h, kc, ks) Q := by
  refine w_c32 rfl (by decide) (-1) (by decide) ?_
  exact w_iret rfl k

/-! 589: FormulaWorksModel.rule(III)I -/
theorem k589_0 {P : s_P} {d : Nat} {Q : s_O → Prop} {h : s_H} {kc ks : Nat} {r0 : Term} {x1 x2 x3 : Int} {t4 t5 t6 t7 t8 t9 t10 : Term} {q2 : Nat} {f3 : List Term} (g4 : s_get h q2 = some (1, 11, f3)) (k : wm P d 481 [.index q2, vi x1, vi 1] h (wq P d sw_c589 sw_h589 6 [.index q2, vi x1, vi x2, vi x3, t4, t5, t6, t7, t8, t9, t10] [] kc ks Q)) (e_q2 : r0 = .index q2 := by first | rfl | assumption) (y1 : s_ty r0 = 3 := by first | rfl | assumption)  : wr P d sw_c589 sw_h589 (0, [r0, vi x1, vi x2, vi x3, t4, t5, t6, t7, t8, t9, t10], [], h, kc, ks) Q := by
  refine w_ld rfl rfl (Or.inr (Or.inr ⟨by decide, y1⟩)) ?_
  refine w_ld rfl rfl (Or.inl ⟨by decide, rfl⟩) ?_
  refine w_c32 rfl (by decide) 1 (by decide) ?_
  subst e_q2
  exact w_cv rfl [.index q2, vi x1, vi 1] [] rfl rfl (s_wt_4 rfl) rfl g4 k

theorem k589_6 {P : s_P} {d : Nat} {Q : s_O → Prop} {h : s_H} {kc ks : Nat} {r0 : Term} {x1 x2 x3 : Int} {t4 t5 t6 t7 t8 t9 t10 : Term} {s0 : Int}  (k1 : s0 ≠ 0 → wr P d sw_c589 sw_h589 (11, [r0, vi x1, vi x2, vi x3, t4, t5, t6, t7, t8, t9, t10], [], h, kc, ks) Q) (k2 : ¬ s0 ≠ 0 → wr P d sw_c589 sw_h589 (9, [r0, vi x1, vi x2, vi x3, t4, t5, t6, t7, t8, t9, t10], [], h, kc, ks) Q)  (c1 : In3 s0 := by first | omega | assumption | (simp only [mk_len, List.length_map]; omega) | decide) : wr P d sw_c589 sw_h589 (6, [r0, vi x1, vi x2, vi x3, t4, t5, t6, t7, t8, t9, t10], [vi s0], h, kc, ks) Q := by
  exact w_if1 rfl c1 k1 k2

theorem k589_9 {P : s_P} {d : Nat} {Q : s_O → Prop} {h : s_H} {kc ks : Nat} {r0 : Term} {x1 x2 x3 : Int} {t4 t5 t6 t7 t8 t9 t10 : Term}  (k : Q (.inl (some (vi 0)), h, kc, ks))   : wr P d sw_c589 sw_h589 (9, [r0, vi x1, vi x2, vi x3, t4, t5, t6, t7, t8, t9, t10], [], h, kc, ks) Q := by
  refine w_c32 rfl (by decide) 0 (by decide) ?_
  exact w_iret rfl k

theorem k589_11 {P : s_P} {d : Nat} {Q : s_O → Prop} {h : s_H} {kc ks : Nat} {r0 : Term} {x1 x2 x3 : Int} {t4 t5 t6 t7 t8 t9 t10 : Term}  (k : wm P d 464 [vl x2, vl 0, vl 3] h (wq P d sw_c589 sw_h589 20 [r0, vi x1, vi x2, vi x3, t4, t5, t6, t7, t8, t9, t10] [] kc ks Q))  (c1 : In3 x2 := by first | omega | assumption | (simp only [mk_len, List.length_map]; omega) | decide) : wr P d sw_c589 sw_h589 (11, [r0, vi x1, vi x2, vi x3, t4, t5, t6, t7, t8, t9, t10], [], h, kc, ks) Q := by
  refine w_ld rfl rfl (Or.inl ⟨by decide, rfl⟩) ?_
  refine w_i2l rfl c1 ?_
  refine w_c64 rfl (by decide) 0 (by decide) ?_
  refine w_c64 rfl (by decide) 3 (by decide) ?_
  exact w_cs rfl [vl x2, vl 0, vl 3] [] rfl rfl (s_wt_4 rfl) k

theorem k589_20 {P : s_P} {d : Nat} {Q : s_O → Prop} {h : s_H} {kc ks : Nat} {r0 : Term} {x1 x2 x3 : Int} {t4 t5 t6 t7 t8 t9 t10 : Term} {s0 : Int}  (k1 : s0 = 0 → wr P d sw_c589 sw_h589 (35, [r0, vi x1, vi x2, vi x3, t4, t5, t6, t7, t8, t9, t10], [], h, kc, ks) Q) (k2 : ¬ s0 = 0 → wr P d sw_c589 sw_h589 (23, [r0, vi x1, vi x2, vi x3, t4, t5, t6, t7, t8, t9, t10], [], h, kc, ks) Q)  (c1 : In3 s0 := by first | omega | assumption | (simp only [mk_len, List.length_map]; omega) | decide) : wr P d sw_c589 sw_h589 (20, [r0, vi x1, vi x2, vi x3, t4, t5, t6, t7, t8, t9, t10], [vi s0], h, kc, ks) Q := by
  exact w_if1 rfl c1 k1 k2

theorem k589_23 {P : s_P} {d : Nat} {Q : s_O → Prop} {h : s_H} {kc ks : Nat} {r0 : Term} {x1 x2 x3 : Int} {t4 t5 t6 t7 t8 t9 t10 : Term}  (k : wm P d 464 [vl x3, vl 0, vl 4] h (wq P d sw_c589 sw_h589 32 [r0, vi x1, vi x2, vi x3, t4, t5, t6, t7, t8, t9, t10] [] kc ks Q))  (c1 : In3 x3 := by first | omega | assumption | (simp only [mk_len, List.length_map]; omega) | decide) : wr P d sw_c589 sw_h589 (23, [r0, vi x1, vi x2, vi x3, t4, t5, t6, t7, t8, t9, t10], [], h, kc, ks) Q := by
  refine w_ld rfl rfl (Or.inl ⟨by decide, rfl⟩) ?_
  refine w_i2l rfl c1 ?_
  refine w_c64 rfl (by decide) 0 (by decide) ?_
  refine w_c64 rfl (by decide) 4 (by decide) ?_
  exact w_cs rfl [vl x3, vl 0, vl 4] [] rfl rfl (s_wt_4 rfl) k

theorem k589_32 {P : s_P} {d : Nat} {Q : s_O → Prop} {h : s_H} {kc ks : Nat} {r0 : Term} {x1 x2 x3 : Int} {t4 t5 t6 t7 t8 t9 t10 : Term} {s0 : Int}  (k1 : s0 ≠ 0 → wr P d sw_c589 sw_h589 (41, [r0, vi x1, vi x2, vi x3, t4, t5, t6, t7, t8, t9, t10], [], h, kc, ks) Q) (k2 : ¬ s0 ≠ 0 → wr P d sw_c589 sw_h589 (35, [r0, vi x1, vi x2, vi x3, t4, t5, t6, t7, t8, t9, t10], [], h, kc, ks) Q)  (c1 : In3 s0 := by first | omega | assumption | (simp only [mk_len, List.length_map]; omega) | decide) : wr P d sw_c589 sw_h589 (32, [r0, vi x1, vi x2, vi x3, t4, t5, t6, t7, t8, t9, t10], [vi s0], h, kc, ks) Q := by
  exact w_if1 rfl c1 k1 k2

theorem k589_35 {P : s_P} {d : Nat} {Q : s_O → Prop} {h : s_H} {kc ks : Nat} {r0 : Term} {x1 x2 x3 : Int} {t4 t5 t6 t7 t8 t9 t10 : Term} {q2 : Nat} {f3 : List Term} (g4 : s_get h q2 = some (1, 11, f3)) (k : wm P d 570 [.index q2, vi 2] h (wq P d sw_c589 sw_h589 40 [.index q2, vi x1, vi x2, vi x3, t4, t5, t6, t7, t8, t9, t10] [] kc ks Q)) (e_q2 : r0 = .index q2 := by first | rfl | assumption) (y1 : s_ty r0 = 3 := by first | rfl | assumption)  : wr P d sw_c589 sw_h589 (35, [r0, vi x1, vi x2, vi x3, t4, t5, t6, t7, t8, t9, t10], [], h, kc, ks) Q := by
  refine w_ld rfl rfl (Or.inr (Or.inr ⟨by decide, y1⟩)) ?_
  refine w_c32 rfl (by decide) 2 (by decide) ?_
  subst e_q2
  exact w_cv rfl [.index q2, vi 2] [] rfl rfl (s_wt_4 rfl) rfl g4 k

theorem k589_40 {P : s_P} {d : Nat} {Q : s_O → Prop} {h : s_H} {kc ks : Nat} {r0 : Term} {x1 x2 x3 : Int} {t4 t5 t6 t7 t8 t9 t10 : Term} {s0 : Int}  (k : Q (.inl (some (vi s0)), h, kc, ks))   : wr P d sw_c589 sw_h589 (40, [r0, vi x1, vi x2, vi x3, t4, t5, t6, t7, t8, t9, t10], [vi s0], h, kc, ks) Q := by
  exact w_iret rfl k

theorem k589_41 {P : s_P} {d : Nat} {Q : s_O → Prop} {h : s_H} {kc ks : Nat} {r0 : Term} {x1 x2 x3 : Int} {t4 t5 t6 t7 t8 t9 t10 : Term} {q2 : Nat} {f3 : List Term} {z5 : Int} (g4 : s_get h q2 = some (1, 11, f3)) (k1 : z5 ≠ 150 → wr P d sw_c589 sw_h589 (57, [.index q2, vi x1, vi x2, vi x3, t4, t5, t6, t7, t8, t9, t10], [], h, kc, ks) Q) (k2 : ¬ z5 ≠ 150 → wr P d sw_c589 sw_h589 (51, [.index q2, vi x1, vi x2, vi x3, t4, t5, t6, t7, t8, t9, t10], [], h, kc, ks) Q) (e_q2 : r0 = .index q2 := by first | rfl | assumption) (y1 : s_ty r0 = 3 := by first | rfl | assumption) (n6 : s_nth f3 1 = some (vi z5) := by first | rfl | assumption) (c7 : In3 z5 := by first | omega | assumption | (simp only [mk_len, List.length_map]; omega) | decide) : wr P d sw_c589 sw_h589 (41, [r0, vi x1, vi x2, vi x3, t4, t5, t6, t7, t8, t9, t10], [], h, kc, ks) Q := by
  refine w_ld rfl rfl (Or.inr (Or.inr ⟨by decide, y1⟩)) ?_
  subst e_q2
  refine w_getf rfl g4 n6 ?_
  refine w_c32 rfl (by decide) 150 (by decide) ?_
  exact w_if2 rfl c7 (by decide) k1 k2

theorem k589_51 {P : s_P} {d : Nat} {Q : s_O → Prop} {h : s_H} {kc ks : Nat} {r0 : Term} {x1 x2 x3 : Int} {t4 t5 t6 t7 t8 t9 t10 : Term} {q2 : Nat} {f3 : List Term} (g4 : s_get h q2 = some (1, 11, f3)) (k : wm P d 570 [.index q2, vi 3] h (wq P d sw_c589 sw_h589 56 [.index q2, vi x1, vi x2, vi x3, t4, t5, t6, t7, t8, t9, t10] [] kc ks Q)) (e_q2 : r0 = .index q2 := by first | rfl | assumption) (y1 : s_ty r0 = 3 := by first | rfl | assumption)  : wr P d sw_c589 sw_h589 (51, [r0, vi x1, vi x2, vi x3, t4, t5, t6, t7, t8, t9, t10], [], h, kc, ks) Q := by
  refine w_ld rfl rfl (Or.inr (Or.inr ⟨by decide, y1⟩)) ?_
  refine w_c32 rfl (by decide) 3 (by decide) ?_
  subst e_q2
  exact w_cv rfl [.index q2, vi 3] [] rfl rfl (s_wt_4 rfl) rfl g4 k

theorem k589_56 {P : s_P} {d : Nat} {Q : s_O → Prop} {h : s_H} {kc ks : Nat} {r0 : Term} {x1 x2 x3 : Int} {t4 t5 t6 t7 t8 t9 t10 : Term} {s0 : Int}  (k : Q (.inl (some (vi s0)), h, kc, ks))   : wr P d sw_c589 sw_h589 (56, [r0, vi x1, vi x2, vi x3, t4, t5, t6, t7, t8, t9, t10], [vi s0], h, kc, ks) Q := by
  exact w_iret rfl k

theorem k589_57 {P : s_P} {d : Nat} {Q : s_O → Prop} {h : s_H} {kc ks : Nat} {r0 : Term} {x1 x2 x3 : Int} {t4 t5 t6 t7 t8 t9 t10 : Term} {q2 : Nat} {f3 : List Term} (g4 : s_get h q2 = some (1, 11, f3)) (k : wm P d 439 [.index q2] h (wq P d sw_c589 sw_h589 74 [.index q2, vi x1, vi x2, vi x3, vi (x3 + 1), vi ((x2 + 1) * (x3 + 1)), t6, t7, t8, t9, t10] [] kc ks Q)) (e_q2 : r0 = .index q2 := by first | rfl | assumption) (y1 : s_ty r0 = 3 := by first | rfl | assumption)  : wr P d sw_c589 sw_h589 (57, [r0, vi x1, vi x2, vi x3, t4, t5, t6, t7, t8, t9, t10], [], h, kc, ks) Q := by
  refine w_ld rfl rfl (Or.inl ⟨by decide, rfl⟩) ?_
  refine w_c32 rfl (by decide) 1 (by decide) ?_
  refine w_iadd rfl ?_
  refine w_st (ls' := [r0, vi x1, vi x2, vi x3, vi (x3 + 1), t5, t6, t7, t8, t9, t10]) rfl (Or.inl ⟨by decide, rfl⟩) rfl ?_
  refine w_ld rfl rfl (Or.inl ⟨by decide, rfl⟩) ?_
  refine w_c32 rfl (by decide) 1 (by decide) ?_
  refine w_iadd rfl ?_
  refine w_ld rfl rfl (Or.inl ⟨by decide, rfl⟩) ?_
  refine w_imul rfl ?_
  refine w_st (ls' := [r0, vi x1, vi x2, vi x3, vi (x3 + 1), vi ((x2 + 1) * (x3 + 1)), t6, t7, t8, t9, t10]) rfl (Or.inl ⟨by decide, rfl⟩) rfl ?_
  refine w_ld rfl rfl (Or.inr (Or.inr ⟨by decide, y1⟩)) ?_
  subst e_q2
  exact w_cv rfl [.index q2] [] rfl rfl (s_wt_4 rfl) rfl g4 k

theorem k589_74 {P : s_P} {d : Nat} {Q : s_O → Prop} {h : s_H} {kc ks : Nat} {r0 : Term} {x1 x2 x3 x4 x5 : Int} {t6 t7 t8 t9 t10 : Term}  (k : wr P d sw_c589 sw_h589 (77, [r0, vi x1, vi x2, vi x3, vi x4, vi x5, vi 0, t7, t8, t9, t10], [], h, kc, ks) Q)   : wr P d sw_c589 sw_h589 (74, [r0, vi x1, vi x2, vi x3, vi x4, vi x5, t6, t7, t8, t9, t10], [], h, kc, ks) Q := by
  refine w_c32 rfl (by decide) 0 (by decide) ?_
  refine w_st (ls' := [r0, vi x1, vi x2, vi x3, vi x4, vi x5, vi 0, t7, t8, t9, t10]) rfl (Or.inl ⟨by decide, rfl⟩) rfl ?_
  exact k

theorem k589_77 {P : s_P} {d : Nat} {Q : s_O → Prop} {h : s_H} {kc ks : Nat} {r0 : Term} {x1 x2 x3 x4 x5 x6 : Int} {t7 t8 t9 t10 : Term}  (k1 : 25 ≤ x6 + x2 → wr P d sw_c589 sw_h589 (174, [r0, vi x1, vi x2, vi x3, vi x4, vi x5, vi x6, t7, t8, t9, t10], [], h, kc, ks) Q) (k2 : ¬ 25 ≤ x6 + x2 → wr P d sw_c589 sw_h589 (86, [r0, vi x1, vi x2, vi x3, vi x4, vi x5, vi x6, t7, t8, t9, t10], [], h, kc, ks) Q)  (c1 : In3 (x6 + x2) := by first | omega | assumption | (simp only [mk_len, List.length_map]; omega) | decide) : wr P d sw_c589 sw_h589 (77, [r0, vi x1, vi x2, vi x3, vi x4, vi x5, vi x6, t7, t8, t9, t10], [], h, kc, ks) Q := by
  refine w_ld rfl rfl (Or.inl ⟨by decide, rfl⟩) ?_
  refine w_ld rfl rfl (Or.inl ⟨by decide, rfl⟩) ?_
  refine w_iadd rfl ?_
  refine w_c32 rfl (by decide) 25 (by decide) ?_
  exact w_if2 rfl c1 (by decide) k1 k2

theorem k589_86 {P : s_P} {d : Nat} {Q : s_O → Prop} {h : s_H} {kc ks : Nat} {r0 : Term} {x1 x2 x3 x4 x5 x6 : Int} {t7 t8 t9 t10 : Term}  (k : wr P d sw_c589 sw_h589 (89, [r0, vi x1, vi x2, vi x3, vi x4, vi x5, vi x6, vi 0, t8, t9, t10], [], h, kc, ks) Q)   : wr P d sw_c589 sw_h589 (86, [r0, vi x1, vi x2, vi x3, vi x4, vi x5, vi x6, t7, t8, t9, t10], [], h, kc, ks) Q := by
  refine w_c32 rfl (by decide) 0 (by decide) ?_
  refine w_st (ls' := [r0, vi x1, vi x2, vi x3, vi x4, vi x5, vi x6, vi 0, t8, t9, t10]) rfl (Or.inl ⟨by decide, rfl⟩) rfl ?_
  exact k

theorem k589_89 {P : s_P} {d : Nat} {Q : s_O → Prop} {h : s_H} {kc ks : Nat} {r0 : Term} {x1 x2 x3 x4 x5 x6 x7 : Int} {t8 t9 t10 : Term}  (k1 : x2 < x7 → wr P d sw_c589 sw_h589 (168, [r0, vi x1, vi x2, vi x3, vi x4, vi x5, vi x6, vi x7, t8, t9, t10], [], h, kc, ks) Q) (k2 : ¬ x2 < x7 → wr P d sw_c589 sw_h589 (95, [r0, vi x1, vi x2, vi x3, vi x4, vi x5, vi x6, vi x7, t8, t9, t10], [], h, kc, ks) Q)  (c1 : In3 x7 := by first | omega | assumption | (simp only [mk_len, List.length_map]; omega) | decide) (c2 : In3 x2 := by first | omega | assumption | (simp only [mk_len, List.length_map]; omega) | decide) : wr P d sw_c589 sw_h589 (89, [r0, vi x1, vi x2, vi x3, vi x4, vi x5, vi x6, vi x7, t8, t9, t10], [], h, kc, ks) Q := by
  refine w_ld rfl rfl (Or.inl ⟨by decide, rfl⟩) ?_
  refine w_ld rfl rfl (Or.inl ⟨by decide, rfl⟩) ?_
  exact w_if2 rfl c1 c2 k1 k2

theorem k589_95 {P : s_P} {d : Nat} {Q : s_O → Prop} {h : s_H} {kc ks : Nat} {r0 : Term} {x1 x2 x3 x4 x5 x6 x7 : Int} {t8 t9 t10 : Term}  (k : wr P d sw_c589 sw_h589 (101, [r0, vi x1, vi x2, vi x3, vi x4, vi x5, vi x6, vi x7, vl 1, .result, vi 0], [], h, kc, ks) Q)   : wr P d sw_c589 sw_h589 (95, [r0, vi x1, vi x2, vi x3, vi x4, vi x5, vi x6, vi x7, t8, t9, t10], [], h, kc, ks) Q := by
  refine w_c64 rfl (by decide) 1 (by decide) ?_
  refine w_stl (ls' := [r0, vi x1, vi x2, vi x3, vi x4, vi x5, vi x6, vi x7, vl 1, t9, t10]) (ls'' := [r0, vi x1, vi x2, vi x3, vi x4, vi x5, vi x6, vi x7, vl 1, .result, t10]) rfl ⟨by decide, rfl⟩ rfl rfl ?_
  refine w_c32 rfl (by decide) 0 (by decide) ?_
  refine w_st (ls' := [r0, vi x1, vi x2, vi x3, vi x4, vi x5, vi x6, vi x7, vl 1, .result, vi 0]) rfl (Or.inl ⟨by decide, rfl⟩) rfl ?_
  exact k

theorem k589_101 {P : s_P} {d : Nat} {Q : s_O → Prop} {h : s_H} {kc ks : Nat} {r0 : Term} {x1 x2 x3 x4 x5 x6 x7 x8 : Int} {t9 : Term} {x10 : Int}  (k1 : x4 ≤ x10 → wr P d sw_c589 sw_h589 (162, [r0, vi x1, vi x2, vi x3, vi x4, vi x5, vi x6, vi x7, vl x8, t9, vi x10], [], h, kc, ks) Q) (k2 : ¬ x4 ≤ x10 → wr P d sw_c589 sw_h589 (108, [r0, vi x1, vi x2, vi x3, vi x4, vi x5, vi x6, vi x7, vl x8, t9, vi x10], [], h, kc, ks) Q)  (c1 : In3 x10 := by first | omega | assumption | (simp only [mk_len, List.length_map]; omega) | decide) (c2 : In3 x4 := by first | omega | assumption | (simp only [mk_len, List.length_map]; omega) | decide) : wr P d sw_c589 sw_h589 (101, [r0, vi x1, vi x2, vi x3, vi x4, vi x5, vi x6, vi x7, vl x8, t9, vi x10], [], h, kc, ks) Q := by
  refine w_ld rfl rfl (Or.inl ⟨by decide, rfl⟩) ?_
  refine w_ld rfl rfl (Or.inl ⟨by decide, rfl⟩) ?_
  exact w_if2 rfl c1 c2 k1 k2

theorem k589_108 {P : s_P} {d : Nat} {Q : s_O → Prop} {h : s_H} {kc ks : Nat} {r0 : Term} {x1 x2 x3 x4 x5 x6 x7 x8 : Int} {t9 : Term} {x10 : Int} {q2 : Nat} {f3 : List Term} {v5 v7 : Term} {q9 : Nat} {a10 : List Int} {q16 : Nat} {a17 : List Int} (g4 : s_get h q2 = some (1, 11, f3)) (g11 : s_get h q9 = some (0, 1, a10.map vl)) (g18 : s_get h q16 = some (0, 1, a17.map vl)) (k : wr P d sw_c589 sw_h589 (101, [.index q2, vi x1, vi x2, vi x3, vi x4, vi x5, vi x6, vi x7, vl (Int.tmod (x8 * x6) 32003), .result, vi (x10 + 1)], [], (hp h q16 (0, 1, (a17.set (Int.toNat (((48 * x6) + (x4 * x7)) + x10)) (Int.tmod (x8 * (gi a10 (x6 + x7))) 32003)).map vl)), kc, ks) Q) (e_q2 : r0 = .index q2 := by first | rfl | assumption) (e_q9 : v7 = .index q9 := by first | rfl | assumption) (e_q16 : v5 = .index q16 := by first | rfl | assumption) (y1 : s_ty r0 = 3 := by first | rfl | assumption) (n6 : s_nth f3 30 = some v5 := by first | rfl | assumption) (n8 : s_nth f3 10 = some v7 := by first | rfl | assumption) (c12 : x6 + x7 < a10.length := by first | omega | assumption | (simp only [mk_len, List.length_map]; omega) | decide) (c13 : 0 ≤ x6 + x7 := by first | omega | assumption | (simp only [mk_len, List.length_map]; omega) | decide) (c14 : In3 (x6 + x7) := by first | omega | assumption | (simp only [mk_len, List.length_map]; omega) | decide) (c15 : In6 (x8 * (gi a10 (x6 + x7))) := by first | omega | assumption | (simp only [mk_len, List.length_map]; omega) | decide) (c19 : ((48 * x6) + (x4 * x7)) + x10 < a17.length := by first | omega | assumption | (simp only [mk_len, List.length_map]; omega) | decide) (c20 : 0 ≤ ((48 * x6) + (x4 * x7)) + x10 := by first | omega | assumption | (simp only [mk_len, List.length_map]; omega) | decide) (c21 : In3 (((48 * x6) + (x4 * x7)) + x10) := by first | omega | assumption | (simp only [mk_len, List.length_map]; omega) | decide) (c22 : 0 < q16 := by first | omega | assumption | (simp only [mk_len, List.length_map]; omega) | decide) (c23 : In3 x6 := by first | omega | assumption | (simp only [mk_len, List.length_map]; omega) | decide) (c24 : In6 (x8 * x6) := by first | omega | assumption | (simp only [mk_len, List.length_map]; omega) | decide) : wr P d sw_c589 sw_h589 (108, [r0, vi x1, vi x2, vi x3, vi x4, vi x5, vi x6, vi x7, vl x8, t9, vi x10], [], h, kc, ks) Q := by
  refine w_ld rfl rfl (Or.inr (Or.inr ⟨by decide, y1⟩)) ?_
  subst e_q2
  refine w_getf rfl g4 n6 ?_
  refine w_c32 rfl (by decide) 48 (by decide) ?_
  refine w_ld rfl rfl (Or.inl ⟨by decide, rfl⟩) ?_
  refine w_imul rfl ?_
  refine w_ld rfl rfl (Or.inl ⟨by decide, rfl⟩) ?_
  refine w_ld rfl rfl (Or.inl ⟨by decide, rfl⟩) ?_
  refine w_imul rfl ?_
  refine w_iadd rfl ?_
  refine w_ld rfl rfl (Or.inl ⟨by decide, rfl⟩) ?_
  refine w_iadd rfl ?_
  refine w_ld rfl rfl (Or.inr (Or.inl ⟨by decide, rfl⟩)) ?_
  refine w_ld rfl rfl (Or.inr (Or.inr ⟨by decide, rfl⟩)) ?_
  refine w_getf rfl g4 n8 ?_
  refine w_ld rfl rfl (Or.inl ⟨by decide, rfl⟩) ?_
  refine w_ld rfl rfl (Or.inl ⟨by decide, rfl⟩) ?_
  refine w_iadd rfl ?_
  subst e_q9
  refine w_lald rfl g11 c14 c13 c12 ?_
  refine w_lmul rfl ?_
  refine w_c64 rfl (by decide) 32003 (by decide) ?_
  refine w_lrem rfl c15 (by decide) (by decide) ?_
  subst e_q16
  refine w_last rfl g18 (Nat.ble_eq_true_of_le c22) c21 c20 c19 ?_
  refine w_ld rfl rfl (Or.inr (Or.inl ⟨by decide, rfl⟩)) ?_
  refine w_ld rfl rfl (Or.inl ⟨by decide, rfl⟩) ?_
  refine w_i2l rfl c23 ?_
  refine w_lmul rfl ?_
  refine w_c64 rfl (by decide) 32003 (by decide) ?_
  refine w_lrem rfl c24 (by decide) (by decide) ?_
  refine w_stl (ls' := [.index q2, vi x1, vi x2, vi x3, vi x4, vi x5, vi x6, vi x7, vl (Int.tmod (x8 * x6) 32003), t9, vi x10]) (ls'' := [.index q2, vi x1, vi x2, vi x3, vi x4, vi x5, vi x6, vi x7, vl (Int.tmod (x8 * x6) 32003), .result, vi x10]) rfl ⟨by decide, rfl⟩ rfl rfl ?_
  refine w_iinc (ls' := [.index q2, vi x1, vi x2, vi x3, vi x4, vi x5, vi x6, vi x7, vl (Int.tmod (x8 * x6) 32003), .result, vi (x10 + 1)]) rfl rfl 1 (by decide) rfl ?_
  refine w_goto rfl ?_
  exact k

theorem k589_162 {P : s_P} {d : Nat} {Q : s_O → Prop} {h : s_H} {kc ks : Nat} {r0 : Term} {x1 x2 x3 x4 x5 x6 x7 x8 : Int} {t9 : Term} {x10 : Int}  (k : wr P d sw_c589 sw_h589 (89, [r0, vi x1, vi x2, vi x3, vi x4, vi x5, vi x6, vi (x7 + 1), vl x8, t9, vi x10], [], h, kc, ks) Q)   : wr P d sw_c589 sw_h589 (162, [r0, vi x1, vi x2, vi x3, vi x4, vi x5, vi x6, vi x7, vl x8, t9, vi x10], [], h, kc, ks) Q := by
  refine w_iinc (ls' := [r0, vi x1, vi x2, vi x3, vi x4, vi x5, vi x6, vi (x7 + 1), vl x8, t9, vi x10]) rfl rfl 1 (by decide) rfl ?_
  refine w_goto rfl ?_
  exact k

theorem k589_168 {P : s_P} {d : Nat} {Q : s_O → Prop} {h : s_H} {kc ks : Nat} {r0 : Term} {x1 x2 x3 x4 x5 x6 x7 : Int} {t8 t9 t10 : Term}  (k : wr P d sw_c589 sw_h589 (77, [r0, vi x1, vi x2, vi x3, vi x4, vi x5, vi (x6 + 1), vi x7, t8, t9, t10], [], h, kc, ks) Q)   : wr P d sw_c589 sw_h589 (168, [r0, vi x1, vi x2, vi x3, vi x4, vi x5, vi x6, vi x7, t8, t9, t10], [], h, kc, ks) Q := by
  refine w_iinc (ls' := [r0, vi x1, vi x2, vi x3, vi x4, vi x5, vi (x6 + 1), vi x7, t8, t9, t10]) rfl rfl 1 (by decide) rfl ?_
  refine w_goto rfl ?_
  exact k

theorem k589_174 {P : s_P} {d : Nat} {Q : s_O → Prop} {h : s_H} {kc ks : Nat} {r0 : Term} {x1 x2 x3 x4 x5 x6 : Int} {t7 t8 t9 t10 : Term} {q2 : Nat} {f3 : List Term} (g4 : s_get h q2 = some (1, 11, f3)) (k : wm P d 417 [.index q2, vi (25 - x2), vi x5] h (wq P d sw_c589 sw_h589 184 [.index q2, vi x1, vi x2, vi x3, vi x4, vi x5, vi x6, t7, t8, t9, t10] [] kc ks Q)) (e_q2 : r0 = .index q2 := by first | rfl | assumption) (y1 : s_ty r0 = 3 := by first | rfl | assumption)  : wr P d sw_c589 sw_h589 (174, [r0, vi x1, vi x2, vi x3, vi x4, vi x5, vi x6, t7, t8, t9, t10], [], h, kc, ks) Q := by
  refine w_ld rfl rfl (Or.inr (Or.inr ⟨by decide, y1⟩)) ?_
  refine w_c32 rfl (by decide) 25 (by decide) ?_
  refine w_ld rfl rfl (Or.inl ⟨by decide, rfl⟩) ?_
  refine w_isub rfl ?_
  refine w_ld rfl rfl (Or.inl ⟨by decide, rfl⟩) ?_
  subst e_q2
  exact w_cv rfl [.index q2, vi (25 - x2), vi x5] [] rfl rfl (s_wt_4 rfl) rfl g4 k

theorem k589_184 {P : s_P} {d : Nat} {Q : s_O → Prop} {h : s_H} {kc ks : Nat} {r0 : Term} {x1 x2 x3 x4 x5 x6 : Int} {t7 t8 t9 t10 : Term}  (k : wr P d sw_c589 sw_h589 (187, [r0, vi x1, vi x2, vi x3, vi x4, vi x5, vi 0, t7, t8, t9, t10], [], h, kc, ks) Q)   : wr P d sw_c589 sw_h589 (184, [r0, vi x1, vi x2, vi x3, vi x4, vi x5, vi x6, t7, t8, t9, t10], [], h, kc, ks) Q := by
  refine w_c32 rfl (by decide) 0 (by decide) ?_
  refine w_st (ls' := [r0, vi x1, vi x2, vi x3, vi x4, vi x5, vi 0, t7, t8, t9, t10]) rfl (Or.inl ⟨by decide, rfl⟩) rfl ?_
  exact k

theorem k589_187 {P : s_P} {d : Nat} {Q : s_O → Prop} {h : s_H} {kc ks : Nat} {r0 : Term} {x1 x2 x3 x4 x5 x6 : Int} {t7 t8 t9 t10 : Term}  (k1 : x5 ≤ x6 → wr P d sw_c589 sw_h589 (211, [r0, vi x1, vi x2, vi x3, vi x4, vi x5, vi x6, t7, t8, t9, t10], [], h, kc, ks) Q) (k2 : ¬ x5 ≤ x6 → wr P d sw_c589 sw_h589 (194, [r0, vi x1, vi x2, vi x3, vi x4, vi x5, vi x6, t7, t8, t9, t10], [], h, kc, ks) Q)  (c1 : In3 x6 := by first | omega | assumption | (simp only [mk_len, List.length_map]; omega) | decide) (c2 : In3 x5 := by first | omega | assumption | (simp only [mk_len, List.length_map]; omega) | decide) : wr P d sw_c589 sw_h589 (187, [r0, vi x1, vi x2, vi x3, vi x4, vi x5, vi x6, t7, t8, t9, t10], [], h, kc, ks) Q := by
  refine w_ld rfl rfl (Or.inl ⟨by decide, rfl⟩) ?_
  refine w_ld rfl rfl (Or.inl ⟨by decide, rfl⟩) ?_
  exact w_if2 rfl c1 c2 k1 k2

theorem k589_194 {P : s_P} {d : Nat} {Q : s_O → Prop} {h : s_H} {kc ks : Nat} {r0 : Term} {x1 x2 x3 x4 x5 x6 : Int} {t7 t8 t9 t10 : Term} {q2 : Nat} {f3 : List Term} {v5 : Term} {q7 : Nat} {a8 : List Int} (g4 : s_get h q2 = some (1, 11, f3)) (g9 : s_get h q7 = some (0, 0, a8.map vi)) (k1 : gi a8 x6 = (-1) → wr P d sw_c589 sw_h589 (211, [.index q2, vi x1, vi x2, vi x3, vi x4, vi x5, vi x6, t7, t8, t9, t10], [], h, kc, ks) Q) (k2 : ¬ gi a8 x6 = (-1) → wr P d sw_c589 sw_h589 (205, [.index q2, vi x1, vi x2, vi x3, vi x4, vi x5, vi x6, t7, t8, t9, t10], [], h, kc, ks) Q) (e_q2 : r0 = .index q2 := by first | rfl | assumption) (e_q7 : v5 = .index q7 := by first | rfl | assumption) (y1 : s_ty r0 = 3 := by first | rfl | assumption) (n6 : s_nth f3 31 = some v5 := by first | rfl | assumption) (c10 : x6 < a8.length := by first | omega | assumption | (simp only [mk_len, List.length_map]; omega) | decide) (c11 : 0 ≤ x6 := by first | omega | assumption | (simp only [mk_len, List.length_map]; omega) | decide) (c12 : In3 x6 := by first | omega | assumption | (simp only [mk_len, List.length_map]; omega) | decide) (c13 : In3 (gi a8 x6) := by first | omega | assumption | (simp only [mk_len, List.length_map]; omega) | decide) : wr P d sw_c589 sw_h589 (194, [r0, vi x1, vi x2, vi x3, vi x4, vi x5, vi x6, t7, t8, t9, t10], [], h, kc, ks) Q := by
  refine w_ld rfl rfl (Or.inr (Or.inr ⟨by decide, y1⟩)) ?_
  subst e_q2
  refine w_getf rfl g4 n6 ?_
  refine w_ld rfl rfl (Or.inl ⟨by decide, rfl⟩) ?_
  subst e_q7
  refine w_iald rfl g9 (Or.inl rfl) c12 c11 c10 ?_
  refine w_c32 rfl (by decide) (-1) (by decide) ?_
  exact w_if2 rfl c13 (by decide) k1 k2

theorem k589_205 {P : s_P} {d : Nat} {Q : s_O → Prop} {h : s_H} {kc ks : Nat} {r0 : Term} {x1 x2 x3 x4 x5 x6 : Int} {t7 t8 t9 t10 : Term}  (k : wr P d sw_c589 sw_h589 (187, [r0, vi x1, vi x2, vi x3, vi x4, vi x5, vi (x6 + 1), t7, t8, t9, t10], [], h, kc, ks) Q)   : wr P d sw_c589 sw_h589 (205, [r0, vi x1, vi x2, vi x3, vi x4, vi x5, vi x6, t7, t8, t9, t10], [], h, kc, ks) Q := by
  refine w_iinc (ls' := [r0, vi x1, vi x2, vi x3, vi x4, vi x5, vi (x6 + 1), t7, t8, t9, t10]) rfl rfl 1 (by decide) rfl ?_
  refine w_goto rfl ?_
  exact k

theorem k589_211 {P : s_P} {d : Nat} {Q : s_O → Prop} {h : s_H} {kc ks : Nat} {r0 : Term} {x1 x2 x3 x4 x5 x6 : Int} {t7 t8 t9 t10 : Term}  (k1 : x6 ≠ x5 → wr P d sw_c589 sw_h589 (220, [r0, vi x1, vi x2, vi x3, vi x4, vi x5, vi x6, t7, t8, t9, t10], [], h, kc, ks) Q) (k2 : ¬ x6 ≠ x5 → wr P d sw_c589 sw_h589 (218, [r0, vi x1, vi x2, vi x3, vi x4, vi x5, vi x6, t7, t8, t9, t10], [], h, kc, ks) Q)  (c1 : In3 x6 := by first | omega | assumption | (simp only [mk_len, List.length_map]; omega) | decide) (c2 : In3 x5 := by first | omega | assumption | (simp only [mk_len, List.length_map]; omega) | decide) : wr P d sw_c589 sw_h589 (211, [r0, vi x1, vi x2, vi x3, vi x4, vi x5, vi x6, t7, t8, t9, t10], [], h, kc, ks) Q := by
  refine w_ld rfl rfl (Or.inl ⟨by decide, rfl⟩) ?_
  refine w_ld rfl rfl (Or.inl ⟨by decide, rfl⟩) ?_
  exact w_if2 rfl c1 c2 k1 k2

theorem k589_218 {P : s_P} {d : Nat} {Q : s_O → Prop} {h : s_H} {kc ks : Nat} {r0 : Term} {x1 x2 x3 x4 x5 x6 : Int} {t7 t8 t9 t10 : Term}  (k : Q (.inl (some (vi (-1))), h, kc, ks))   : wr P d sw_c589 sw_h589 (218, [r0, vi x1, vi x2, vi x3, vi x4, vi x5, vi x6, t7, t8, t9, t10], [], h, kc, ks) Q := by
  refine w_c32 rfl (by decide) (-1) (by decide) ?_
  exact w_iret rfl k

theorem k589_220 {P : s_P} {d : Nat} {Q : s_O → Prop} {h : s_H} {kc ks : Nat} {r0 : Term} {x1 x2 x3 x4 x5 x6 : Int} {t7 t8 t9 t10 : Term}  (k : wr P d sw_c589 sw_h589 (230, [r0, vi x1, vi x2, vi x3, vi x4, vi x5, vi x6, vi (Int.tdiv x6 x4), vi 0, t9, t10], [], h, kc, ks) Q)  (c1 : x4 ≠ 0 := by first | omega | assumption | (simp only [mk_len, List.length_map]; omega) | decide) (c2 : In3 x6 := by first | omega | assumption | (simp only [mk_len, List.length_map]; omega) | decide) (c3 : In3 x4 := by first | omega | assumption | (simp only [mk_len, List.length_map]; omega) | decide) : wr P d sw_c589 sw_h589 (220, [r0, vi x1, vi x2, vi x3, vi x4, vi x5, vi x6, t7, t8, t9, t10], [], h, kc, ks) Q := by
  refine w_ld rfl rfl (Or.inl ⟨by decide, rfl⟩) ?_
  refine w_ld rfl rfl (Or.inl ⟨by decide, rfl⟩) ?_
  refine w_idiv rfl c2 c3 c1 ?_
  refine w_st (ls' := [r0, vi x1, vi x2, vi x3, vi x4, vi x5, vi x6, vi (Int.tdiv x6 x4), t8, t9, t10]) rfl (Or.inl ⟨by decide, rfl⟩) rfl ?_
  refine w_c32 rfl (by decide) 0 (by decide) ?_
  refine w_st (ls' := [r0, vi x1, vi x2, vi x3, vi x4, vi x5, vi x6, vi (Int.tdiv x6 x4), vi 0, t9, t10]) rfl (Or.inl ⟨by decide, rfl⟩) rfl ?_
  exact k

theorem k589_230 {P : s_P} {d : Nat} {Q : s_O → Prop} {h : s_H} {kc ks : Nat} {r0 : Term} {x1 x2 x3 x4 x5 x6 x7 x8 : Int} {t9 t10 : Term}  (k1 : x7 < x8 → wr P d sw_c589 sw_h589 (349, [r0, vi x1, vi x2, vi x3, vi x4, vi x5, vi x6, vi x7, vi x8, t9, t10], [], h, kc, ks) Q) (k2 : ¬ x7 < x8 → wr P d sw_c589 sw_h589 (237, [r0, vi x1, vi x2, vi x3, vi x4, vi x5, vi x6, vi x7, vi x8, t9, t10], [], h, kc, ks) Q)  (c1 : In3 x8 := by first | omega | assumption | (simp only [mk_len, List.length_map]; omega) | decide) (c2 : In3 x7 := by first | omega | assumption | (simp only [mk_len, List.length_map]; omega) | decide) : wr P d sw_c589 sw_h589 (230, [r0, vi x1, vi x2, vi x3, vi x4, vi x5, vi x6, vi x7, vi x8, t9, t10], [], h, kc, ks) Q := by
  refine w_ld rfl rfl (Or.inl ⟨by decide, rfl⟩) ?_
  refine w_ld rfl rfl (Or.inl ⟨by decide, rfl⟩) ?_
  exact w_if2 rfl c1 c2 k1 k2

theorem k589_237 {P : s_P} {d : Nat} {Q : s_O → Prop} {h : s_H} {kc ks : Nat} {r0 : Term} {x1 x2 x3 x4 x5 x6 x7 x8 : Int} {t9 t10 : Term} {q2 : Nat} {f3 : List Term} {v5 : Term} (g4 : s_get h q2 = some (1, 11, f3)) (k : wm P d 438 [v5] h (wq P d sw_c589 sw_h589 244 [.index q2, vi x1, vi x2, vi x3, vi x4, vi x5, vi x6, vi x7, vi x8, t9, t10] [] kc ks Q)) (e_q2 : r0 = .index q2 := by first | rfl | assumption) (y1 : s_ty r0 = 3 := by first | rfl | assumption) (n6 : s_nth f3 20 = some v5 := by first | rfl | assumption)  : wr P d sw_c589 sw_h589 (237, [r0, vi x1, vi x2, vi x3, vi x4, vi x5, vi x6, vi x7, vi x8, t9, t10], [], h, kc, ks) Q := by
  refine w_ld rfl rfl (Or.inr (Or.inr ⟨by decide, y1⟩)) ?_
  subst e_q2
  refine w_getf rfl g4 n6 ?_
  exact w_cs rfl [v5] [] rfl rfl (s_wt_4 rfl) k

theorem k589_244 {P : s_P} {d : Nat} {Q : s_O → Prop} {h : s_H} {kc ks : Nat} {r0 : Term} {x1 x2 x3 x4 x5 x6 x7 x8 : Int} {t9 t10 : Term}  (k : wr P d sw_c589 sw_h589 (247, [r0, vi x1, vi x2, vi x3, vi x4, vi x5, vi x6, vi x7, vi x8, vi 0, t10], [], h, kc, ks) Q)   : wr P d sw_c589 sw_h589 (244, [r0, vi x1, vi x2, vi x3, vi x4, vi x5, vi x6, vi x7, vi x8, t9, t10], [], h, kc, ks) Q := by
  refine w_c32 rfl (by decide) 0 (by decide) ?_
  refine w_st (ls' := [r0, vi x1, vi x2, vi x3, vi x4, vi x5, vi x6, vi x7, vi x8, vi 0, t10]) rfl (Or.inl ⟨by decide, rfl⟩) rfl ?_
  exact k

theorem k589_247 {P : s_P} {d : Nat} {Q : s_O → Prop} {h : s_H} {kc ks : Nat} {r0 : Term} {x1 x2 x3 x4 x5 x6 x7 x8 x9 : Int} {t10 : Term}  (k1 : x4 ≤ x9 → wr P d sw_c589 sw_h589 (332, [r0, vi x1, vi x2, vi x3, vi x4, vi x5, vi x6, vi x7, vi x8, vi x9, t10], [], h, kc, ks) Q) (k2 : ¬ x4 ≤ x9 → wr P d sw_c589 sw_h589 (254, [r0, vi x1, vi x2, vi x3, vi x4, vi x5, vi x6, vi x7, vi x8, vi x9, t10], [], h, kc, ks) Q)  (c1 : In3 x9 := by first | omega | assumption | (simp only [mk_len, List.length_map]; omega) | decide) (c2 : In3 x4 := by first | omega | assumption | (simp only [mk_len, List.length_map]; omega) | decide) : wr P d sw_c589 sw_h589 (247, [r0, vi x1, vi x2, vi x3, vi x4, vi x5, vi x6, vi x7, vi x8, vi x9, t10], [], h, kc, ks) Q := by
  refine w_ld rfl rfl (Or.inl ⟨by decide, rfl⟩) ?_
  refine w_ld rfl rfl (Or.inl ⟨by decide, rfl⟩) ?_
  exact w_if2 rfl c1 c2 k1 k2

theorem k589_254 {P : s_P} {d : Nat} {Q : s_O → Prop} {h : s_H} {kc ks : Nat} {r0 : Term} {x1 x2 x3 x4 x5 x6 x7 x8 x9 : Int} {t10 : Term} {q2 : Nat} {f3 : List Term} {v5 : Term} (g4 : s_get h q2 = some (1, 11, f3)) (k1 : (x4 * x8) + x9 ≠ x6 → wr P d sw_c589 sw_h589 (281, [.index q2, vi x1, vi x2, vi x3, vi x4, vi x5, vi x6, vi x7, vi x8, vi x9, vi ((x4 * x8) + x9)], [vi x9, v5], h, kc, ks) Q) (k2 : ¬ (x4 * x8) + x9 ≠ x6 → wr P d sw_c589 sw_h589 (277, [.index q2, vi x1, vi x2, vi x3, vi x4, vi x5, vi x6, vi x7, vi x8, vi x9, vi ((x4 * x8) + x9)], [vi x9, v5], h, kc, ks) Q) (e_q2 : r0 = .index q2 := by first | rfl | assumption) (y1 : s_ty r0 = 3 := by first | rfl | assumption) (n6 : s_nth f3 20 = some v5 := by first | rfl | assumption) (c7 : In3 ((x4 * x8) + x9) := by first | omega | assumption | (simp only [mk_len, List.length_map]; omega) | decide) (c8 : In3 x6 := by first | omega | assumption | (simp only [mk_len, List.length_map]; omega) | decide) : wr P d sw_c589 sw_h589 (254, [r0, vi x1, vi x2, vi x3, vi x4, vi x5, vi x6, vi x7, vi x8, vi x9, t10], [], h, kc, ks) Q := by
  refine w_ld rfl rfl (Or.inl ⟨by decide, rfl⟩) ?_
  refine w_ld rfl rfl (Or.inl ⟨by decide, rfl⟩) ?_
  refine w_imul rfl ?_
  refine w_ld rfl rfl (Or.inl ⟨by decide, rfl⟩) ?_
  refine w_iadd rfl ?_
  refine w_st (ls' := [r0, vi x1, vi x2, vi x3, vi x4, vi x5, vi x6, vi x7, vi x8, vi x9, vi ((x4 * x8) + x9)]) rfl (Or.inl ⟨by decide, rfl⟩) rfl ?_
  refine w_ld rfl rfl (Or.inr (Or.inr ⟨by decide, y1⟩)) ?_
  subst e_q2
  refine w_getf rfl g4 n6 ?_
  refine w_ld rfl rfl (Or.inl ⟨by decide, rfl⟩) ?_
  refine w_ld rfl rfl (Or.inl ⟨by decide, rfl⟩) ?_
  refine w_ld rfl rfl (Or.inl ⟨by decide, rfl⟩) ?_
  exact w_if2 rfl c7 c8 k1 k2

theorem k589_277 {P : s_P} {d : Nat} {Q : s_O → Prop} {h : s_H} {kc ks : Nat} {r0 : Term} {x1 x2 x3 x4 x5 x6 x7 x8 x9 x10 : Int} {s0 : Term} {s1 : Int}  (k : wr P d sw_c589 sw_h589 (325, [r0, vi x1, vi x2, vi x3, vi x4, vi x5, vi x6, vi x7, vi x8, vi x9, vi x10], [vl 1, vi s1, s0], h, kc, ks) Q)   : wr P d sw_c589 sw_h589 (277, [r0, vi x1, vi x2, vi x3, vi x4, vi x5, vi x6, vi x7, vi x8, vi x9, vi x10], [vi s1, s0], h, kc, ks) Q := by
  refine w_c64 rfl (by decide) 1 (by decide) ?_
  refine w_goto rfl ?_
  exact k

theorem k589_281 {P : s_P} {d : Nat} {Q : s_O → Prop} {h : s_H} {kc ks : Nat} {r0 : Term} {x1 x2 x3 x4 x5 x6 x7 x8 x9 x10 : Int} {s0 : Term} {s1 : Int}  (k1 : x6 < x10 → wr P d sw_c589 sw_h589 (299, [r0, vi x1, vi x2, vi x3, vi x4, vi x5, vi x6, vi x7, vi x8, vi x9, vi x10], [vi s1, s0], h, kc, ks) Q) (k2 : ¬ x6 < x10 → wr P d sw_c589 sw_h589 (288, [r0, vi x1, vi x2, vi x3, vi x4, vi x5, vi x6, vi x7, vi x8, vi x9, vi x10], [vi s1, s0], h, kc, ks) Q)  (c1 : In3 x10 := by first | omega | assumption | (simp only [mk_len, List.length_map]; omega) | decide) (c2 : In3 x6 := by first | omega | assumption | (simp only [mk_len, List.length_map]; omega) | decide) : wr P d sw_c589 sw_h589 (281, [r0, vi x1, vi x2, vi x3, vi x4, vi x5, vi x6, vi x7, vi x8, vi x9, vi x10], [vi s1, s0], h, kc, ks) Q := by
  refine w_ld rfl rfl (Or.inl ⟨by decide, rfl⟩) ?_
  refine w_ld rfl rfl (Or.inl ⟨by decide, rfl⟩) ?_
  exact w_if2 rfl c1 c2 k1 k2

theorem k589_288 {P : s_P} {d : Nat} {Q : s_O → Prop} {h : s_H} {kc ks : Nat} {r0 : Term} {x1 x2 x3 x4 x5 x6 x7 x8 x9 x10 : Int} {s0 : Term} {s1 : Int} {q2 : Nat} {f3 : List Term} {v5 : Term} {q7 : Nat} {a8 : List Int} (g4 : s_get h q2 = some (1, 11, f3)) (g9 : s_get h q7 = some (0, 0, a8.map vi)) (k1 : gi a8 x10 ≠ (-1) → wr P d sw_c589 sw_h589 (303, [.index q2, vi x1, vi x2, vi x3, vi x4, vi x5, vi x6, vi x7, vi x8, vi x9, vi x10], [vi s1, s0], h, kc, ks) Q) (k2 : ¬ gi a8 x10 ≠ (-1) → wr P d sw_c589 sw_h589 (299, [.index q2, vi x1, vi x2, vi x3, vi x4, vi x5, vi x6, vi x7, vi x8, vi x9, vi x10], [vi s1, s0], h, kc, ks) Q) (e_q2 : r0 = .index q2 := by first | rfl | assumption) (e_q7 : v5 = .index q7 := by first | rfl | assumption) (y1 : s_ty r0 = 3 := by first | rfl | assumption) (n6 : s_nth f3 31 = some v5 := by first | rfl | assumption) (c10 : x10 < a8.length := by first | omega | assumption | (simp only [mk_len, List.length_map]; omega) | decide) (c11 : 0 ≤ x10 := by first | omega | assumption | (simp only [mk_len, List.length_map]; omega) | decide) (c12 : In3 x10 := by first | omega | assumption | (simp only [mk_len, List.length_map]; omega) | decide) (c13 : In3 (gi a8 x10) := by first | omega | assumption | (simp only [mk_len, List.length_map]; omega) | decide) : wr P d sw_c589 sw_h589 (288, [r0, vi x1, vi x2, vi x3, vi x4, vi x5, vi x6, vi x7, vi x8, vi x9, vi x10], [vi s1, s0], h, kc, ks) Q := by
  refine w_ld rfl rfl (Or.inr (Or.inr ⟨by decide, y1⟩)) ?_
  subst e_q2
  refine w_getf rfl g4 n6 ?_
  refine w_ld rfl rfl (Or.inl ⟨by decide, rfl⟩) ?_
  subst e_q7
  refine w_iald rfl g9 (Or.inl rfl) c12 c11 c10 ?_
  refine w_c32 rfl (by decide) (-1) (by decide) ?_
  exact w_if2 rfl c13 (by decide) k1 k2

theorem k589_299 {P : s_P} {d : Nat} {Q : s_O → Prop} {h : s_H} {kc ks : Nat} {r0 : Term} {x1 x2 x3 x4 x5 x6 x7 x8 x9 x10 : Int} {s0 : Term} {s1 : Int}  (k : wr P d sw_c589 sw_h589 (325, [r0, vi x1, vi x2, vi x3, vi x4, vi x5, vi x6, vi x7, vi x8, vi x9, vi x10], [vl 0, vi s1, s0], h, kc, ks) Q)   : wr P d sw_c589 sw_h589 (299, [r0, vi x1, vi x2, vi x3, vi x4, vi x5, vi x6, vi x7, vi x8, vi x9, vi x10], [vi s1, s0], h, kc, ks) Q := by
  refine w_c64 rfl (by decide) 0 (by decide) ?_
  refine w_goto rfl ?_
  exact k

theorem k589_303 {P : s_P} {d : Nat} {Q : s_O → Prop} {h : s_H} {kc ks : Nat} {r0 : Term} {x1 x2 x3 x4 x5 x6 x7 x8 x9 x10 : Int} {s0 : Term} {s1 : Int} {q2 : Nat} {f3 : List Term} {v5 v7 : Term} {q9 : Nat} {a10 : List Int} {q15 : Nat} {a16 : List Int} (g4 : s_get h q2 = some (1, 11, f3)) (g11 : s_get h q9 = some (0, 0, a10.map vi)) (g17 : s_get h q15 = some (0, 1, a16.map vl)) (k : wm P d 528 [vl (-(gi a16 ((48 * (gi a10 x10)) + x6)))] h (wq P d sw_c589 sw_h589 325 [.index q2, vi x1, vi x2, vi x3, vi x4, vi x5, vi x6, vi x7, vi x8, vi x9, vi x10] [vi s1, s0] kc ks Q)) (e_q2 : r0 = .index q2 := by first | rfl | assumption) (e_q9 : v7 = .index q9 := by first | rfl | assumption) (e_q15 : v5 = .index q15 := by first | rfl | assumption) (y1 : s_ty r0 = 3 := by first | rfl | assumption) (n6 : s_nth f3 30 = some v5 := by first | rfl | assumption) (n8 : s_nth f3 31 = some v7 := by first | rfl | assumption) (c12 : x10 < a10.length := by first | omega | assumption | (simp only [mk_len, List.length_map]; omega) | decide) (c13 : 0 ≤ x10 := by first | omega | assumption | (simp only [mk_len, List.length_map]; omega) | decide) (c14 : In3 x10 := by first | omega | assumption | (simp only [mk_len, List.length_map]; omega) | decide) (c18 : (48 * (gi a10 x10)) + x6 < a16.length := by first | omega | assumption | (simp only [mk_len, List.length_map]; omega) | decide) (c19 : 0 ≤ (48 * (gi a10 x10)) + x6 := by first | omega | assumption | (simp only [mk_len, List.length_map]; omega) | decide) (c20 : In3 ((48 * (gi a10 x10)) + x6) := by first | omega | assumption | (simp only [mk_len, List.length_map]; omega) | decide) : wr P d sw_c589 sw_h589 (303, [r0, vi x1, vi x2, vi x3, vi x4, vi x5, vi x6, vi x7, vi x8, vi x9, vi x10], [vi s1, s0], h, kc, ks) Q := by
  refine w_ld rfl rfl (Or.inr (Or.inr ⟨by decide, y1⟩)) ?_
  subst e_q2
  refine w_getf rfl g4 n6 ?_
  refine w_c32 rfl (by decide) 48 (by decide) ?_
  refine w_ld rfl rfl (Or.inr (Or.inr ⟨by decide, rfl⟩)) ?_
  refine w_getf rfl g4 n8 ?_
  refine w_ld rfl rfl (Or.inl ⟨by decide, rfl⟩) ?_
  subst e_q9
  refine w_iald rfl g11 (Or.inl rfl) c14 c13 c12 ?_
  refine w_imul rfl ?_
  refine w_ld rfl rfl (Or.inl ⟨by decide, rfl⟩) ?_
  refine w_iadd rfl ?_
  subst e_q15
  refine w_lald rfl g17 c20 c19 c18 ?_
  refine w_lneg rfl ?_
  exact w_cs rfl [vl (-(gi a16 ((48 * (gi a10 x10)) + x6)))] [vi s1, s0] rfl rfl (s_wt_4 rfl) k

theorem k589_325 {P : s_P} {d : Nat} {Q : s_O → Prop} {h : s_H} {kc ks : Nat} {r0 : Term} {x1 x2 x3 x4 x5 x6 x7 x8 x9 x10 : Int} {s0 : Term} {s1 s2 : Int} {q1 : Nat} {a2 : List Int} (g3 : s_get h q1 = some (0, 1, a2.map vl)) (k : wr P d sw_c589 sw_h589 (247, [r0, vi x1, vi x2, vi x3, vi x4, vi x5, vi x6, vi x7, vi x8, vi (x9 + 1), vi x10], [], (hp h q1 (0, 1, (a2.set (Int.toNat (s1)) s2).map vl)), kc, ks) Q) (e_q1 : s0 = .index q1 := by first | rfl | assumption) (c4 : s1 < a2.length := by first | omega | assumption | (simp only [mk_len, List.length_map]; omega) | decide) (c5 : 0 ≤ s1 := by first | omega | assumption | (simp only [mk_len, List.length_map]; omega) | decide) (c6 : In3 s1 := by first | omega | assumption | (simp only [mk_len, List.length_map]; omega) | decide) (c7 : 0 < q1 := by first | omega | assumption | (simp only [mk_len, List.length_map]; omega) | decide) : wr P d sw_c589 sw_h589 (325, [r0, vi x1, vi x2, vi x3, vi x4, vi x5, vi x6, vi x7, vi x8, vi x9, vi x10], [vl s2, vi s1, s0], h, kc, ks) Q := by
  subst e_q1
  refine w_last rfl g3 (Nat.ble_eq_true_of_le c7) c6 c5 c4 ?_
  refine w_iinc (ls' := [r0, vi x1, vi x2, vi x3, vi x4, vi x5, vi x6, vi x7, vi x8, vi (x9 + 1), vi x10]) rfl rfl 1 (by decide) rfl ?_
  refine w_goto rfl ?_
  exact k

theorem k589_332 {P : s_P} {d : Nat} {Q : s_O → Prop} {h : s_H} {kc ks : Nat} {r0 : Term} {x1 x2 x3 x4 x5 x6 x7 x8 x9 : Int} {t10 : Term} {q2 : Nat} {f3 : List Term} {v5 : Term} (g4 : s_get h q2 = some (1, 11, f3)) (k : wm P d 496 [.index q2, v5, vi 0, vi x8] h (wq P d sw_c589 sw_h589 343 [.index q2, vi x1, vi x2, vi x3, vi x4, vi x5, vi x6, vi x7, vi x8, vi x9, t10] [] kc ks Q)) (e_q2 : r0 = .index q2 := by first | rfl | assumption) (y1 : s_ty r0 = 3 := by first | rfl | assumption) (n6 : s_nth f3 20 = some v5 := by first | rfl | assumption)  : wr P d sw_c589 sw_h589 (332, [r0, vi x1, vi x2, vi x3, vi x4, vi x5, vi x6, vi x7, vi x8, vi x9, t10], [], h, kc, ks) Q := by
  refine w_ld rfl rfl (Or.inr (Or.inr ⟨by decide, y1⟩)) ?_
  refine w_ld rfl rfl (Or.inr (Or.inr ⟨by decide, y1⟩)) ?_
  subst e_q2
  refine w_getf rfl g4 n6 ?_
  refine w_c32 rfl (by decide) 0 (by decide) ?_
  refine w_ld rfl rfl (Or.inl ⟨by decide, rfl⟩) ?_
  exact w_cv rfl [.index q2, v5, vi 0, vi x8] [] rfl rfl (s_wt_4 rfl) rfl g4 k

theorem k589_343 {P : s_P} {d : Nat} {Q : s_O → Prop} {h : s_H} {kc ks : Nat} {r0 : Term} {x1 x2 x3 x4 x5 x6 x7 x8 x9 : Int} {t10 : Term}  (k : wr P d sw_c589 sw_h589 (230, [r0, vi x1, vi x2, vi x3, vi x4, vi x5, vi x6, vi x7, vi (x8 + 1), vi x9, t10], [], h, kc, ks) Q)   : wr P d sw_c589 sw_h589 (343, [r0, vi x1, vi x2, vi x3, vi x4, vi x5, vi x6, vi x7, vi x8, vi x9, t10], [], h, kc, ks) Q := by
  refine w_iinc (ls' := [r0, vi x1, vi x2, vi x3, vi x4, vi x5, vi x6, vi x7, vi (x8 + 1), vi x9, t10]) rfl rfl 1 (by decide) rfl ?_
  refine w_goto rfl ?_
  exact k

theorem k589_349 {P : s_P} {d : Nat} {Q : s_O → Prop} {h : s_H} {kc ks : Nat} {r0 : Term} {x1 x2 x3 x4 x5 x6 x7 x8 : Int} {t9 t10 : Term} {q2 : Nat} {f3 : List Term} (g4 : s_get h q2 = some (1, 11, f3)) (k : wm P d 498 [.index q2, vi 1, vi (x7 + 1)] h (wq P d sw_c589 sw_h589 358 [.index q2, vi x1, vi x2, vi x3, vi x4, vi x5, vi x6, vi x7, vi x8, t9, t10] [] kc ks Q)) (e_q2 : r0 = .index q2 := by first | rfl | assumption) (y1 : s_ty r0 = 3 := by first | rfl | assumption)  : wr P d sw_c589 sw_h589 (349, [r0, vi x1, vi x2, vi x3, vi x4, vi x5, vi x6, vi x7, vi x8, t9, t10], [], h, kc, ks) Q := by
  refine w_ld rfl rfl (Or.inr (Or.inr ⟨by decide, y1⟩)) ?_
  refine w_c32 rfl (by decide) 1 (by decide) ?_
  refine w_ld rfl rfl (Or.inl ⟨by decide, rfl⟩) ?_
  refine w_c32 rfl (by decide) 1 (by decide) ?_
  refine w_iadd rfl ?_
  subst e_q2
  exact w_cv rfl [.index q2, vi 1, vi (x7 + 1)] [] rfl rfl (s_wt_4 rfl) rfl g4 k

theorem k589_358 {P : s_P} {d : Nat} {Q : s_O → Prop} {h : s_H} {kc ks : Nat} {r0 : Term} {x1 x2 x3 x4 x5 x6 x7 x8 : Int} {t9 t10 : Term} {s0 : Int}  (k : Q (.inl (some (vi s0)), h, kc, ks))   : wr P d sw_c589 sw_h589 (358, [r0, vi x1, vi x2, vi x3, vi x4, vi x5, vi x6, vi x7, vi x8, t9, t10], [vi s0], h, kc, ks) Q := by
  exact w_iret rfl k

/-! 590: FormulaWorksModel.ruleAt(III)J -/
theorem k590_0 {P : s_P} {d : Nat} {Q : s_O → Prop} {h : s_H} {kc ks : Nat} {r0 : Term} {x1 x2 x3 : Int} {q2 : Nat} {f3 : List Term} {v5 : Term} (g4 : s_get h q2 = some (1, 11, f3)) (k : wm P d 508 [.index q2, v5, vi x1, vi 0, vi x2] h (wq P d sw_c590 sw_h590 11 [.index q2, vi x1, vi x2, vi x3] [] kc ks Q)) (e_q2 : r0 = .index q2 := by first | rfl | assumption) (y1 : s_ty r0 = 3 := by first | rfl | assumption) (n6 : s_nth f3 20 = some v5 := by first | rfl | assumption)  : wr P d sw_c590 sw_h590 (0, [r0, vi x1, vi x2, vi x3], [], h, kc, ks) Q := by
  refine w_ld rfl rfl (Or.inr (Or.inr ⟨by decide, y1⟩)) ?_
  refine w_ld rfl rfl (Or.inr (Or.inr ⟨by decide, y1⟩)) ?_
  subst e_q2
  refine w_getf rfl g4 n6 ?_
  refine w_ld rfl rfl (Or.inl ⟨by decide, rfl⟩) ?_
  refine w_c32 rfl (by decide) 0 (by decide) ?_
  refine w_ld rfl rfl (Or.inl ⟨by decide, rfl⟩) ?_
  exact w_cv rfl [.index q2, v5, vi x1, vi 0, vi x2] [] rfl rfl (s_wt_4 rfl) rfl g4 k

theorem k590_11 {P : s_P} {d : Nat} {Q : s_O → Prop} {h : s_H} {kc ks : Nat} {r0 : Term} {x1 x2 x3 : Int} {q2 : Nat} {f3 : List Term} {v5 : Term} (g4 : s_get h q2 = some (1, 11, f3)) (k : wm P d 613 [v5, vl x3] h (wq P d sw_c590 sw_h590 20 [.index q2, vi x1, vi x2, vi x3] [] kc ks Q)) (e_q2 : r0 = .index q2 := by first | rfl | assumption) (y1 : s_ty r0 = 3 := by first | rfl | assumption) (n6 : s_nth f3 20 = some v5 := by first | rfl | assumption) (c7 : In3 x3 := by first | omega | assumption | (simp only [mk_len, List.length_map]; omega) | decide) : wr P d sw_c590 sw_h590 (11, [r0, vi x1, vi x2, vi x3], [], h, kc, ks) Q := by
  refine w_ld rfl rfl (Or.inr (Or.inr ⟨by decide, y1⟩)) ?_
  subst e_q2
  refine w_getf rfl g4 n6 ?_
  refine w_ld rfl rfl (Or.inl ⟨by decide, rfl⟩) ?_
  refine w_i2l rfl c7 ?_
  exact w_cs rfl [v5, vl x3] [] rfl rfl (s_wt_4 rfl) k

theorem k590_20 {P : s_P} {d : Nat} {Q : s_O → Prop} {h : s_H} {kc ks : Nat} {r0 : Term} {x1 x2 x3 s0 : Int}  (k : Q (.inl (some (vl s0)), h, kc, ks))   : wr P d sw_c590 sw_h590 (20, [r0, vi x1, vi x2, vi x3], [vl s0], h, kc, ks) Q := by
  exact w_lret rfl k

/-! 591: FormulaWorksModel.same(II)Z -/
theorem k591_0 {P : s_P} {d : Nat} {Q : s_O → Prop} {h : s_H} {kc ks : Nat} {r0 : Term} {x1 x2 : Int} {t3 t4 t5 : Term} {q2 : Nat} {f3 : List Term} (g4 : s_get h q2 = some (1, 11, f3)) (k : wm P d 492 [.index q2, vi x1] h (wq P d sw_c591 sw_h591 6 [.index q2, vi x1, vi x2, t3, t4, t5] [.index q2] kc ks Q)) (e_q2 : r0 = .index q2 := by first | rfl | assumption) (y1 : s_ty r0 = 3 := by first | rfl | assumption)  : wr P d sw_c591 sw_h591 (0, [r0, vi x1, vi x2, t3, t4, t5], [], h, kc, ks) Q := by
  refine w_ld rfl rfl (Or.inr (Or.inr ⟨by decide, y1⟩)) ?_
  refine w_ld rfl rfl (Or.inr (Or.inr ⟨by decide, y1⟩)) ?_
  refine w_ld rfl rfl (Or.inl ⟨by decide, rfl⟩) ?_
  subst e_q2
  exact w_cv rfl [.index q2, vi x1] [.index q2] rfl rfl (s_wt_4 rfl) rfl g4 k

theorem k591_6 {P : s_P} {d : Nat} {Q : s_O → Prop} {h : s_H} {kc ks : Nat} {r0 : Term} {x1 x2 : Int} {t3 t4 t5 s0 : Term} {s1 : Int}  (k1 : s1 = 0 → wr P d sw_c591 sw_h591 (21, [r0, vi x1, vi x2, t3, t4, t5], [s0], h, kc, ks) Q) (k2 : ¬ s1 = 0 → wr P d sw_c591 sw_h591 (9, [r0, vi x1, vi x2, t3, t4, t5], [s0], h, kc, ks) Q)  (c1 : In3 s1 := by first | omega | assumption | (simp only [mk_len, List.length_map]; omega) | decide) : wr P d sw_c591 sw_h591 (6, [r0, vi x1, vi x2, t3, t4, t5], [vi s1, s0], h, kc, ks) Q := by
  exact w_if1 rfl c1 k1 k2

theorem k591_9 {P : s_P} {d : Nat} {Q : s_O → Prop} {h : s_H} {kc ks : Nat} {r0 : Term} {x1 x2 : Int} {t3 t4 t5 s0 : Term} {q2 : Nat} {f3 : List Term} (g4 : s_get h q2 = some (1, 11, f3)) (k : wm P d 492 [.index q2, vi x2] h (wq P d sw_c591 sw_h591 14 [.index q2, vi x1, vi x2, t3, t4, t5] [s0] kc ks Q)) (e_q2 : r0 = .index q2 := by first | rfl | assumption) (y1 : s_ty r0 = 3 := by first | rfl | assumption)  : wr P d sw_c591 sw_h591 (9, [r0, vi x1, vi x2, t3, t4, t5], [s0], h, kc, ks) Q := by
  refine w_ld rfl rfl (Or.inr (Or.inr ⟨by decide, y1⟩)) ?_
  refine w_ld rfl rfl (Or.inl ⟨by decide, rfl⟩) ?_
  subst e_q2
  exact w_cv rfl [.index q2, vi x2] [s0] rfl rfl (s_wt_4 rfl) rfl g4 k

theorem k591_14 {P : s_P} {d : Nat} {Q : s_O → Prop} {h : s_H} {kc ks : Nat} {r0 : Term} {x1 x2 : Int} {t3 t4 t5 s0 : Term} {s1 : Int}  (k1 : s1 = 0 → wr P d sw_c591 sw_h591 (21, [r0, vi x1, vi x2, t3, t4, t5], [s0], h, kc, ks) Q) (k2 : ¬ s1 = 0 → wr P d sw_c591 sw_h591 (17, [r0, vi x1, vi x2, t3, t4, t5], [s0], h, kc, ks) Q)  (c1 : In3 s1 := by first | omega | assumption | (simp only [mk_len, List.length_map]; omega) | decide) : wr P d sw_c591 sw_h591 (14, [r0, vi x1, vi x2, t3, t4, t5], [vi s1, s0], h, kc, ks) Q := by
  exact w_if1 rfl c1 k1 k2

theorem k591_17 {P : s_P} {d : Nat} {Q : s_O → Prop} {h : s_H} {kc ks : Nat} {r0 : Term} {x1 x2 : Int} {t3 t4 t5 s0 : Term}  (k : wr P d sw_c591 sw_h591 (22, [r0, vi x1, vi x2, t3, t4, t5], [vi 0, s0], h, kc, ks) Q)   : wr P d sw_c591 sw_h591 (17, [r0, vi x1, vi x2, t3, t4, t5], [s0], h, kc, ks) Q := by
  refine w_c32 rfl (by decide) 0 (by decide) ?_
  refine w_goto rfl ?_
  exact k

theorem k591_21 {P : s_P} {d : Nat} {Q : s_O → Prop} {h : s_H} {kc ks : Nat} {r0 : Term} {x1 x2 : Int} {t3 t4 t5 s0 : Term}  (k : wr P d sw_c591 sw_h591 (22, [r0, vi x1, vi x2, t3, t4, t5], [vi 1, s0], h, kc, ks) Q)   : wr P d sw_c591 sw_h591 (21, [r0, vi x1, vi x2, t3, t4, t5], [s0], h, kc, ks) Q := by
  refine w_c32 rfl (by decide) 1 (by decide) ?_
  exact k

theorem k591_22 {P : s_P} {d : Nat} {Q : s_O → Prop} {h : s_H} {kc ks : Nat} {r0 : Term} {x1 x2 : Int} {t3 t4 t5 s0 : Term} {s1 : Int} {q1 : Nat} {f2 : List Term} {q7 : Nat} {f8 : List Term} {z10 : Int} (g3 : s_get h q1 = some (1, 11, f2)) (g9 : s_get (hp h q1 (1, 11, f2.set 0 (vi s1))) q7 = some (1, 11, f8)) (k1 : 0 < z10 → wr P d sw_c591 sw_h591 (47, [.index q7, vi x1, vi x2, t3, t4, t5], [], (hp h q1 (1, 11, f2.set 0 (vi s1))), kc, ks) Q) (k2 : ¬ 0 < z10 → wr P d sw_c591 sw_h591 (32, [.index q7, vi x1, vi x2, t3, t4, t5], [], (hp h q1 (1, 11, f2.set 0 (vi s1))), kc, ks) Q) (e_q1 : s0 = .index q1 := by first | rfl | assumption) (e_q7 : r0 = .index q7 := by first | rfl | assumption) (l4 : 0 < f2.length := by first | exact Nat.le_of_ble_eq_true rfl | omega | assumption) (y6 : s_ty r0 = 3 := by first | rfl | assumption) (n11 : s_nth f8 0 = some (vi z10) := by first | rfl | assumption) (c5 : 0 < q1 := by first | omega | assumption | (simp only [mk_len, List.length_map]; omega) | decide) (c12 : In3 z10 := by first | omega | assumption | (simp only [mk_len, List.length_map]; omega) | decide) : wr P d sw_c591 sw_h591 (22, [r0, vi x1, vi x2, t3, t4, t5], [vi s1, s0], h, kc, ks) Q := by
  subst e_q1
  refine w_putf rfl g3 (Nat.ble_eq_true_of_le c5) rfl (Nat.ble_eq_true_of_le l4) ?_
  refine w_ld rfl rfl (Or.inr (Or.inr ⟨by decide, y6⟩)) ?_
  subst e_q7
  refine w_getf rfl g9 n11 ?_
  exact w_if1 rfl c12 k1 k2

theorem k591_32 {P : s_P} {d : Nat} {Q : s_O → Prop} {h : s_H} {kc ks : Nat} {r0 : Term} {x1 x2 : Int} {t3 t4 t5 : Term} {q2 : Nat} {f3 : List Term} {v5 : Term} {q7 : Nat} {a8 : List Int} (g4 : s_get h q2 = some (1, 11, f3)) (g9 : s_get h q7 = some (0, 0, a8.map vi)) (k1 : gi a8 x1 = gi a8 x2 → wr P d sw_c591 sw_h591 (49, [.index q2, vi x1, vi x2, t3, t4, t5], [], h, kc, ks) Q) (k2 : ¬ gi a8 x1 = gi a8 x2 → wr P d sw_c591 sw_h591 (47, [.index q2, vi x1, vi x2, t3, t4, t5], [], h, kc, ks) Q) (e_q2 : r0 = .index q2 := by first | rfl | assumption) (e_q7 : v5 = .index q7 := by first | rfl | assumption) (y1 : s_ty r0 = 3 := by first | rfl | assumption) (n6 : s_nth f3 2 = some v5 := by first | rfl | assumption) (c10 : x1 < a8.length := by first | omega | assumption | (simp only [mk_len, List.length_map]; omega) | decide) (c11 : 0 ≤ x1 := by first | omega | assumption | (simp only [mk_len, List.length_map]; omega) | decide) (c12 : In3 x1 := by first | omega | assumption | (simp only [mk_len, List.length_map]; omega) | decide) (c13 : x2 < a8.length := by first | omega | assumption | (simp only [mk_len, List.length_map]; omega) | decide) (c14 : 0 ≤ x2 := by first | omega | assumption | (simp only [mk_len, List.length_map]; omega) | decide) (c15 : In3 x2 := by first | omega | assumption | (simp only [mk_len, List.length_map]; omega) | decide) (c16 : In3 (gi a8 x1) := by first | omega | assumption | (simp only [mk_len, List.length_map]; omega) | decide) (c17 : In3 (gi a8 x2) := by first | omega | assumption | (simp only [mk_len, List.length_map]; omega) | decide) : wr P d sw_c591 sw_h591 (32, [r0, vi x1, vi x2, t3, t4, t5], [], h, kc, ks) Q := by
  refine w_ld rfl rfl (Or.inr (Or.inr ⟨by decide, y1⟩)) ?_
  subst e_q2
  refine w_getf rfl g4 n6 ?_
  refine w_ld rfl rfl (Or.inl ⟨by decide, rfl⟩) ?_
  subst e_q7
  refine w_iald rfl g9 (Or.inl rfl) c12 c11 c10 ?_
  refine w_ld rfl rfl (Or.inr (Or.inr ⟨by decide, rfl⟩)) ?_
  refine w_getf rfl g4 n6 ?_
  refine w_ld rfl rfl (Or.inl ⟨by decide, rfl⟩) ?_
  refine w_iald rfl g9 (Or.inl rfl) c15 c14 c13 ?_
  exact w_if2 rfl c16 c17 k1 k2

theorem k591_47 {P : s_P} {d : Nat} {Q : s_O → Prop} {h : s_H} {kc ks : Nat} {r0 : Term} {x1 x2 : Int} {t3 t4 t5 : Term}  (k : Q (.inl (some (vi 0)), h, kc, ks))   : wr P d sw_c591 sw_h591 (47, [r0, vi x1, vi x2, t3, t4, t5], [], h, kc, ks) Q := by
  refine w_c32 rfl (by decide) 0 (by decide) ?_
  exact w_zret rfl (by decide) k

theorem k591_49 {P : s_P} {d : Nat} {Q : s_O → Prop} {h : s_H} {kc ks : Nat} {r0 : Term} {x1 x2 : Int} {t3 t4 t5 : Term} {q2 : Nat} {f3 : List Term} (g4 : s_get h q2 = some (1, 11, f3)) (k : wm P d 469 [.index q2, vi x1, vi 2] h (wq P d sw_c591 sw_h591 55 [.index q2, vi x1, vi x2, t3, t4, t5] [] kc ks Q)) (e_q2 : r0 = .index q2 := by first | rfl | assumption) (y1 : s_ty r0 = 3 := by first | rfl | assumption)  : wr P d sw_c591 sw_h591 (49, [r0, vi x1, vi x2, t3, t4, t5], [], h, kc, ks) Q := by
  refine w_ld rfl rfl (Or.inr (Or.inr ⟨by decide, y1⟩)) ?_
  refine w_ld rfl rfl (Or.inl ⟨by decide, rfl⟩) ?_
  refine w_c32 rfl (by decide) 2 (by decide) ?_
  subst e_q2
  exact w_cv rfl [.index q2, vi x1, vi 2] [] rfl rfl (s_wt_4 rfl) rfl g4 k

theorem k591_55 {P : s_P} {d : Nat} {Q : s_O → Prop} {h : s_H} {kc ks : Nat} {r0 : Term} {x1 x2 : Int} {t3 t4 t5 : Term} {s0 : Int}  (k1 : s0 = 0 → wr P d sw_c591 sw_h591 (197, [r0, vi x1, vi x2, t3, t4, t5], [], h, kc, ks) Q) (k2 : ¬ s0 = 0 → wr P d sw_c591 sw_h591 (58, [r0, vi x1, vi x2, t3, t4, t5], [], h, kc, ks) Q)  (c1 : In3 s0 := by first | omega | assumption | (simp only [mk_len, List.length_map]; omega) | decide) : wr P d sw_c591 sw_h591 (55, [r0, vi x1, vi x2, t3, t4, t5], [vi s0], h, kc, ks) Q := by
  exact w_if1 rfl c1 k1 k2

theorem k591_58 {P : s_P} {d : Nat} {Q : s_O → Prop} {h : s_H} {kc ks : Nat} {r0 : Term} {x1 x2 : Int} {t3 t4 t5 : Term} {q2 : Nat} {f3 : List Term} {v5 : Term} {q7 : Nat} {a8 : List Int} (g4 : s_get h q2 = some (1, 11, f3)) (g9 : s_get h q7 = some (0, 0, a8.map vi)) (k1 : gi a8 x1 ≠ gi a8 x2 → wr P d sw_c591 sw_h591 (88, [.index q2, vi x1, vi x2, t3, t4, t5], [], h, kc, ks) Q) (k2 : ¬ gi a8 x1 ≠ gi a8 x2 → wr P d sw_c591 sw_h591 (73, [.index q2, vi x1, vi x2, t3, t4, t5], [], h, kc, ks) Q) (e_q2 : r0 = .index q2 := by first | rfl | assumption) (e_q7 : v5 = .index q7 := by first | rfl | assumption) (y1 : s_ty r0 = 3 := by first | rfl | assumption) (n6 : s_nth f3 5 = some v5 := by first | rfl | assumption) (c10 : x1 < a8.length := by first | omega | assumption | (simp only [mk_len, List.length_map]; omega) | decide) (c11 : 0 ≤ x1 := by first | omega | assumption | (simp only [mk_len, List.length_map]; omega) | decide) (c12 : In3 x1 := by first | omega | assumption | (simp only [mk_len, List.length_map]; omega) | decide) (c13 : x2 < a8.length := by first | omega | assumption | (simp only [mk_len, List.length_map]; omega) | decide) (c14 : 0 ≤ x2 := by first | omega | assumption | (simp only [mk_len, List.length_map]; omega) | decide) (c15 : In3 x2 := by first | omega | assumption | (simp only [mk_len, List.length_map]; omega) | decide) (c16 : In3 (gi a8 x1) := by first | omega | assumption | (simp only [mk_len, List.length_map]; omega) | decide) (c17 : In3 (gi a8 x2) := by first | omega | assumption | (simp only [mk_len, List.length_map]; omega) | decide) : wr P d sw_c591 sw_h591 (58, [r0, vi x1, vi x2, t3, t4, t5], [], h, kc, ks) Q := by
  refine w_ld rfl rfl (Or.inr (Or.inr ⟨by decide, y1⟩)) ?_
  subst e_q2
  refine w_getf rfl g4 n6 ?_
  refine w_ld rfl rfl (Or.inl ⟨by decide, rfl⟩) ?_
  subst e_q7
  refine w_iald rfl g9 (Or.inl rfl) c12 c11 c10 ?_
  refine w_ld rfl rfl (Or.inr (Or.inr ⟨by decide, rfl⟩)) ?_
  refine w_getf rfl g4 n6 ?_
  refine w_ld rfl rfl (Or.inl ⟨by decide, rfl⟩) ?_
  refine w_iald rfl g9 (Or.inl rfl) c15 c14 c13 ?_
  exact w_if2 rfl c16 c17 k1 k2

theorem k591_73 {P : s_P} {d : Nat} {Q : s_O → Prop} {h : s_H} {kc ks : Nat} {r0 : Term} {x1 x2 : Int} {t3 t4 t5 : Term} {q2 : Nat} {f3 : List Term} {v5 : Term} {q7 : Nat} {a8 : List Int} (g4 : s_get h q2 = some (1, 11, f3)) (g9 : s_get h q7 = some (0, 0, a8.map vi)) (k1 : gi a8 x1 = gi a8 x2 → wr P d sw_c591 sw_h591 (90, [.index q2, vi x1, vi x2, t3, t4, t5], [], h, kc, ks) Q) (k2 : ¬ gi a8 x1 = gi a8 x2 → wr P d sw_c591 sw_h591 (88, [.index q2, vi x1, vi x2, t3, t4, t5], [], h, kc, ks) Q) (e_q2 : r0 = .index q2 := by first | rfl | assumption) (e_q7 : v5 = .index q7 := by first | rfl | assumption) (y1 : s_ty r0 = 3 := by first | rfl | assumption) (n6 : s_nth f3 6 = some v5 := by first | rfl | assumption) (c10 : x1 < a8.length := by first | omega | assumption | (simp only [mk_len, List.length_map]; omega) | decide) (c11 : 0 ≤ x1 := by first | omega | assumption | (simp only [mk_len, List.length_map]; omega) | decide) (c12 : In3 x1 := by first | omega | assumption | (simp only [mk_len, List.length_map]; omega) | decide) (c13 : x2 < a8.length := by first | omega | assumption | (simp only [mk_len, List.length_map]; omega) | decide) (c14 : 0 ≤ x2 := by first | omega | assumption | (simp only [mk_len, List.length_map]; omega) | decide) (c15 : In3 x2 := by first | omega | assumption | (simp only [mk_len, List.length_map]; omega) | decide) (c16 : In3 (gi a8 x1) := by first | omega | assumption | (simp only [mk_len, List.length_map]; omega) | decide) (c17 : In3 (gi a8 x2) := by first | omega | assumption | (simp only [mk_len, List.length_map]; omega) | decide) : wr P d sw_c591 sw_h591 (73, [r0, vi x1, vi x2, t3, t4, t5], [], h, kc, ks) Q := by
  refine w_ld rfl rfl (Or.inr (Or.inr ⟨by decide, y1⟩)) ?_
  subst e_q2
  refine w_getf rfl g4 n6 ?_
  refine w_ld rfl rfl (Or.inl ⟨by decide, rfl⟩) ?_
  subst e_q7
  refine w_iald rfl g9 (Or.inl rfl) c12 c11 c10 ?_
  refine w_ld rfl rfl (Or.inr (Or.inr ⟨by decide, rfl⟩)) ?_
  refine w_getf rfl g4 n6 ?_
  refine w_ld rfl rfl (Or.inl ⟨by decide, rfl⟩) ?_
  refine w_iald rfl g9 (Or.inl rfl) c15 c14 c13 ?_
  exact w_if2 rfl c16 c17 k1 k2

theorem k591_88 {P : s_P} {d : Nat} {Q : s_O → Prop} {h : s_H} {kc ks : Nat} {r0 : Term} {x1 x2 : Int} {t3 t4 t5 : Term}  (k : Q (.inl (some (vi 0)), h, kc, ks))   : wr P d sw_c591 sw_h591 (88, [r0, vi x1, vi x2, t3, t4, t5], [], h, kc, ks) Q := by
  refine w_c32 rfl (by decide) 0 (by decide) ?_
  exact w_zret rfl (by decide) k

theorem k591_90 {P : s_P} {d : Nat} {Q : s_O → Prop} {h : s_H} {kc ks : Nat} {r0 : Term} {x1 x2 : Int} {t3 t4 t5 : Term}  (k : wr P d sw_c591 sw_h591 (92, [r0, vi x1, vi x2, vi 0, t4, t5], [], h, kc, ks) Q)   : wr P d sw_c591 sw_h591 (90, [r0, vi x1, vi x2, t3, t4, t5], [], h, kc, ks) Q := by
  refine w_c32 rfl (by decide) 0 (by decide) ?_
  refine w_st (ls' := [r0, vi x1, vi x2, vi 0, t4, t5]) rfl (Or.inl ⟨by decide, rfl⟩) rfl ?_
  exact k

theorem k591_92 {P : s_P} {d : Nat} {Q : s_O → Prop} {h : s_H} {kc ks : Nat} {r0 : Term} {x1 x2 x3 : Int} {t4 t5 : Term} {q2 : Nat} {f3 : List Term} {v5 : Term} {q7 : Nat} {a8 : List Int} (g4 : s_get h q2 = some (1, 11, f3)) (g9 : s_get h q7 = some (0, 0, a8.map vi)) (k1 : gi a8 x1 ≤ x3 → wr P d sw_c591 sw_h591 (195, [.index q2, vi x1, vi x2, vi x3, t4, t5], [], h, kc, ks) Q) (k2 : ¬ gi a8 x1 ≤ x3 → wr P d sw_c591 sw_h591 (102, [.index q2, vi x1, vi x2, vi x3, t4, t5], [], h, kc, ks) Q) (e_q2 : r0 = .index q2 := by first | rfl | assumption) (e_q7 : v5 = .index q7 := by first | rfl | assumption) (y1 : s_ty r0 = 3 := by first | rfl | assumption) (n6 : s_nth f3 5 = some v5 := by first | rfl | assumption) (c10 : x1 < a8.length := by first | omega | assumption | (simp only [mk_len, List.length_map]; omega) | decide) (c11 : 0 ≤ x1 := by first | omega | assumption | (simp only [mk_len, List.length_map]; omega) | decide) (c12 : In3 x1 := by first | omega | assumption | (simp only [mk_len, List.length_map]; omega) | decide) (c13 : In3 x3 := by first | omega | assumption | (simp only [mk_len, List.length_map]; omega) | decide) (c14 : In3 (gi a8 x1) := by first | omega | assumption | (simp only [mk_len, List.length_map]; omega) | decide) : wr P d sw_c591 sw_h591 (92, [r0, vi x1, vi x2, vi x3, t4, t5], [], h, kc, ks) Q := by
  refine w_ld rfl rfl (Or.inl ⟨by decide, rfl⟩) ?_
  refine w_ld rfl rfl (Or.inr (Or.inr ⟨by decide, y1⟩)) ?_
  subst e_q2
  refine w_getf rfl g4 n6 ?_
  refine w_ld rfl rfl (Or.inl ⟨by decide, rfl⟩) ?_
  subst e_q7
  refine w_iald rfl g9 (Or.inl rfl) c12 c11 c10 ?_
  exact w_if2 rfl c13 c14 k1 k2

theorem k591_102 {P : s_P} {d : Nat} {Q : s_O → Prop} {h : s_H} {kc ks : Nat} {r0 : Term} {x1 x2 x3 : Int} {t4 t5 : Term}  (k : wr P d sw_c591 sw_h591 (105, [r0, vi x1, vi x2, vi x3, vi 0, t5], [], h, kc, ks) Q)   : wr P d sw_c591 sw_h591 (102, [r0, vi x1, vi x2, vi x3, t4, t5], [], h, kc, ks) Q := by
  refine w_c32 rfl (by decide) 0 (by decide) ?_
  refine w_st (ls' := [r0, vi x1, vi x2, vi x3, vi 0, t5]) rfl (Or.inl ⟨by decide, rfl⟩) rfl ?_
  exact k

theorem k591_105 {P : s_P} {d : Nat} {Q : s_O → Prop} {h : s_H} {kc ks : Nat} {r0 : Term} {x1 x2 x3 x4 : Int} {t5 : Term} {q2 : Nat} {f3 : List Term} {v5 : Term} {q7 : Nat} {a8 : List Int} (g4 : s_get h q2 = some (1, 11, f3)) (g9 : s_get h q7 = some (0, 0, a8.map vi)) (k1 : gi a8 x1 ≤ x4 → wr P d sw_c591 sw_h591 (189, [.index q2, vi x1, vi x2, vi x3, vi x4, t5], [], h, kc, ks) Q) (k2 : ¬ gi a8 x1 ≤ x4 → wr P d sw_c591 sw_h591 (116, [.index q2, vi x1, vi x2, vi x3, vi x4, t5], [], h, kc, ks) Q) (e_q2 : r0 = .index q2 := by first | rfl | assumption) (e_q7 : v5 = .index q7 := by first | rfl | assumption) (y1 : s_ty r0 = 3 := by first | rfl | assumption) (n6 : s_nth f3 6 = some v5 := by first | rfl | assumption) (c10 : x1 < a8.length := by first | omega | assumption | (simp only [mk_len, List.length_map]; omega) | decide) (c11 : 0 ≤ x1 := by first | omega | assumption | (simp only [mk_len, List.length_map]; omega) | decide) (c12 : In3 x1 := by first | omega | assumption | (simp only [mk_len, List.length_map]; omega) | decide) (c13 : In3 x4 := by first | omega | assumption | (simp only [mk_len, List.length_map]; omega) | decide) (c14 : In3 (gi a8 x1) := by first | omega | assumption | (simp only [mk_len, List.length_map]; omega) | decide) : wr P d sw_c591 sw_h591 (105, [r0, vi x1, vi x2, vi x3, vi x4, t5], [], h, kc, ks) Q := by
  refine w_ld rfl rfl (Or.inl ⟨by decide, rfl⟩) ?_
  refine w_ld rfl rfl (Or.inr (Or.inr ⟨by decide, y1⟩)) ?_
  subst e_q2
  refine w_getf rfl g4 n6 ?_
  refine w_ld rfl rfl (Or.inl ⟨by decide, rfl⟩) ?_
  subst e_q7
  refine w_iald rfl g9 (Or.inl rfl) c12 c11 c10 ?_
  exact w_if2 rfl c13 c14 k1 k2

theorem k591_116 {P : s_P} {d : Nat} {Q : s_O → Prop} {h : s_H} {kc ks : Nat} {r0 : Term} {x1 x2 x3 x4 : Int} {t5 : Term}  (k : wr P d sw_c591 sw_h591 (119, [r0, vi x1, vi x2, vi x3, vi x4, vi 0], [], h, kc, ks) Q)   : wr P d sw_c591 sw_h591 (116, [r0, vi x1, vi x2, vi x3, vi x4, t5], [], h, kc, ks) Q := by
  refine w_c32 rfl (by decide) 0 (by decide) ?_
  refine w_st (ls' := [r0, vi x1, vi x2, vi x3, vi x4, vi 0]) rfl (Or.inl ⟨by decide, rfl⟩) rfl ?_
  exact k

theorem k591_119 {P : s_P} {d : Nat} {Q : s_O → Prop} {h : s_H} {kc ks : Nat} {r0 : Term} {x1 x2 x3 x4 x5 : Int}  (k1 : 10 < x5 → wr P d sw_c591 sw_h591 (183, [r0, vi x1, vi x2, vi x3, vi x4, vi x5], [], h, kc, ks) Q) (k2 : ¬ 10 < x5 → wr P d sw_c591 sw_h591 (126, [r0, vi x1, vi x2, vi x3, vi x4, vi x5], [], h, kc, ks) Q)  (c1 : In3 x5 := by first | omega | assumption | (simp only [mk_len, List.length_map]; omega) | decide) : wr P d sw_c591 sw_h591 (119, [r0, vi x1, vi x2, vi x3, vi x4, vi x5], [], h, kc, ks) Q := by
  refine w_ld rfl rfl (Or.inl ⟨by decide, rfl⟩) ?_
  refine w_c32 rfl (by decide) 10 (by decide) ?_
  exact w_if2 rfl c1 (by decide) k1 k2

theorem k591_126 {P : s_P} {d : Nat} {Q : s_O → Prop} {h : s_H} {kc ks : Nat} {r0 : Term} {x1 x2 x3 x4 x5 : Int} {q2 : Nat} {f3 : List Term} {v5 : Term} {q7 : Nat} {a8 : List Int} (g4 : s_get h q2 = some (1, 11, f3)) (g9 : s_get h q7 = some (0, 0, a8.map vi)) (k1 : gi a8 (((176 * x1) + (11 * ((4 * x3) + x4))) + x5) = gi a8 (((176 * x2) + (11 * ((4 * x3) + x4))) + x5) → wr P d sw_c591 sw_h591 (177, [.index q2, vi x1, vi x2, vi x3, vi x4, vi x5], [], h, kc, ks) Q) (k2 : ¬ gi a8 (((176 * x1) + (11 * ((4 * x3) + x4))) + x5) = gi a8 (((176 * x2) + (11 * ((4 * x3) + x4))) + x5) → wr P d sw_c591 sw_h591 (175, [.index q2, vi x1, vi x2, vi x3, vi x4, vi x5], [], h, kc, ks) Q) (e_q2 : r0 = .index q2 := by first | rfl | assumption) (e_q7 : v5 = .index q7 := by first | rfl | assumption) (y1 : s_ty r0 = 3 := by first | rfl | assumption) (n6 : s_nth f3 7 = some v5 := by first | rfl | assumption) (c10 : ((176 * x1) + (11 * ((4 * x3) + x4))) + x5 < a8.length := by first | omega | assumption | (simp only [mk_len, List.length_map]; omega) | decide) (c11 : 0 ≤ ((176 * x1) + (11 * ((4 * x3) + x4))) + x5 := by first | omega | assumption | (simp only [mk_len, List.length_map]; omega) | decide) (c12 : In3 (((176 * x1) + (11 * ((4 * x3) + x4))) + x5) := by first | omega | assumption | (simp only [mk_len, List.length_map]; omega) | decide) (c13 : ((176 * x2) + (11 * ((4 * x3) + x4))) + x5 < a8.length := by first | omega | assumption | (simp only [mk_len, List.length_map]; omega) | decide) (c14 : 0 ≤ ((176 * x2) + (11 * ((4 * x3) + x4))) + x5 := by first | omega | assumption | (simp only [mk_len, List.length_map]; omega) | decide) (c15 : In3 (((176 * x2) + (11 * ((4 * x3) + x4))) + x5) := by first | omega | assumption | (simp only [mk_len, List.length_map]; omega) | decide) (c16 : In3 (gi a8 (((176 * x1) + (11 * ((4 * x3) + x4))) + x5)) := by first | omega | assumption | (simp only [mk_len, List.length_map]; omega) | decide) (c17 : In3 (gi a8 (((176 * x2) + (11 * ((4 * x3) + x4))) + x5)) := by first | omega | assumption | (simp only [mk_len, List.length_map]; omega) | decide) : wr P d sw_c591 sw_h591 (126, [r0, vi x1, vi x2, vi x3, vi x4, vi x5], [], h, kc, ks) Q := by
  refine w_ld rfl rfl (Or.inr (Or.inr ⟨by decide, y1⟩)) ?_
  subst e_q2
  refine w_getf rfl g4 n6 ?_
  refine w_c32 rfl (by decide) 176 (by decide) ?_
  refine w_ld rfl rfl (Or.inl ⟨by decide, rfl⟩) ?_
  refine w_imul rfl ?_
  refine w_c32 rfl (by decide) 11 (by decide) ?_
  refine w_c32 rfl (by decide) 4 (by decide) ?_
  refine w_ld rfl rfl (Or.inl ⟨by decide, rfl⟩) ?_
  refine w_imul rfl ?_
  refine w_ld rfl rfl (Or.inl ⟨by decide, rfl⟩) ?_
  refine w_iadd rfl ?_
  refine w_imul rfl ?_
  refine w_iadd rfl ?_
  refine w_ld rfl rfl (Or.inl ⟨by decide, rfl⟩) ?_
  refine w_iadd rfl ?_
  subst e_q7
  refine w_iald rfl g9 (Or.inl rfl) c12 c11 c10 ?_
  refine w_ld rfl rfl (Or.inr (Or.inr ⟨by decide, rfl⟩)) ?_
  refine w_getf rfl g4 n6 ?_
  refine w_c32 rfl (by decide) 176 (by decide) ?_
  refine w_ld rfl rfl (Or.inl ⟨by decide, rfl⟩) ?_
  refine w_imul rfl ?_
  refine w_c32 rfl (by decide) 11 (by decide) ?_
  refine w_c32 rfl (by decide) 4 (by decide) ?_
  refine w_ld rfl rfl (Or.inl ⟨by decide, rfl⟩) ?_
  refine w_imul rfl ?_
  refine w_ld rfl rfl (Or.inl ⟨by decide, rfl⟩) ?_
  refine w_iadd rfl ?_
  refine w_imul rfl ?_
  refine w_iadd rfl ?_
  refine w_ld rfl rfl (Or.inl ⟨by decide, rfl⟩) ?_
  refine w_iadd rfl ?_
  refine w_iald rfl g9 (Or.inl rfl) c15 c14 c13 ?_
  exact w_if2 rfl c16 c17 k1 k2

theorem k591_175 {P : s_P} {d : Nat} {Q : s_O → Prop} {h : s_H} {kc ks : Nat} {r0 : Term} {x1 x2 x3 x4 x5 : Int}  (k : Q (.inl (some (vi 0)), h, kc, ks))   : wr P d sw_c591 sw_h591 (175, [r0, vi x1, vi x2, vi x3, vi x4, vi x5], [], h, kc, ks) Q := by
  refine w_c32 rfl (by decide) 0 (by decide) ?_
  exact w_zret rfl (by decide) k

theorem k591_177 {P : s_P} {d : Nat} {Q : s_O → Prop} {h : s_H} {kc ks : Nat} {r0 : Term} {x1 x2 x3 x4 x5 : Int}  (k : wr P d sw_c591 sw_h591 (119, [r0, vi x1, vi x2, vi x3, vi x4, vi (x5 + 1)], [], h, kc, ks) Q)   : wr P d sw_c591 sw_h591 (177, [r0, vi x1, vi x2, vi x3, vi x4, vi x5], [], h, kc, ks) Q := by
  refine w_iinc (ls' := [r0, vi x1, vi x2, vi x3, vi x4, vi (x5 + 1)]) rfl rfl 1 (by decide) rfl ?_
  refine w_goto rfl ?_
  exact k

theorem k591_183 {P : s_P} {d : Nat} {Q : s_O → Prop} {h : s_H} {kc ks : Nat} {r0 : Term} {x1 x2 x3 x4 x5 : Int}  (k : wr P d sw_c591 sw_h591 (105, [r0, vi x1, vi x2, vi x3, vi (x4 + 1), vi x5], [], h, kc, ks) Q)   : wr P d sw_c591 sw_h591 (183, [r0, vi x1, vi x2, vi x3, vi x4, vi x5], [], h, kc, ks) Q := by
  refine w_iinc (ls' := [r0, vi x1, vi x2, vi x3, vi (x4 + 1), vi x5]) rfl rfl 1 (by decide) rfl ?_
  refine w_goto rfl ?_
  exact k

theorem k591_189 {P : s_P} {d : Nat} {Q : s_O → Prop} {h : s_H} {kc ks : Nat} {r0 : Term} {x1 x2 x3 x4 : Int} {t5 : Term}  (k : wr P d sw_c591 sw_h591 (92, [r0, vi x1, vi x2, vi (x3 + 1), vi x4, t5], [], h, kc, ks) Q)   : wr P d sw_c591 sw_h591 (189, [r0, vi x1, vi x2, vi x3, vi x4, t5], [], h, kc, ks) Q := by
  refine w_iinc (ls' := [r0, vi x1, vi x2, vi (x3 + 1), vi x4, t5]) rfl rfl 1 (by decide) rfl ?_
  refine w_goto rfl ?_
  exact k

theorem k591_195 {P : s_P} {d : Nat} {Q : s_O → Prop} {h : s_H} {kc ks : Nat} {r0 : Term} {x1 x2 x3 : Int} {t4 t5 : Term}  (k : Q (.inl (some (vi 1)), h, kc, ks))   : wr P d sw_c591 sw_h591 (195, [r0, vi x1, vi x2, vi x3, t4, t5], [], h, kc, ks) Q := by
  refine w_c32 rfl (by decide) 1 (by decide) ?_
  exact w_zret rfl (by decide) k

theorem k591_197 {P : s_P} {d : Nat} {Q : s_O → Prop} {h : s_H} {kc ks : Nat} {r0 : Term} {x1 x2 : Int} {t3 t4 t5 : Term} {q2 : Nat} {f3 : List Term} (g4 : s_get h q2 = some (1, 11, f3)) (k : wm P d 469 [.index q2, vi x1, vi 3] h (wq P d sw_c591 sw_h591 203 [.index q2, vi x1, vi x2, t3, t4, t5] [] kc ks Q)) (e_q2 : r0 = .index q2 := by first | rfl | assumption) (y1 : s_ty r0 = 3 := by first | rfl | assumption)  : wr P d sw_c591 sw_h591 (197, [r0, vi x1, vi x2, t3, t4, t5], [], h, kc, ks) Q := by
  refine w_ld rfl rfl (Or.inr (Or.inr ⟨by decide, y1⟩)) ?_
  refine w_ld rfl rfl (Or.inl ⟨by decide, rfl⟩) ?_
  refine w_c32 rfl (by decide) 3 (by decide) ?_
  subst e_q2
  exact w_cv rfl [.index q2, vi x1, vi 3] [] rfl rfl (s_wt_4 rfl) rfl g4 k

theorem k591_203 {P : s_P} {d : Nat} {Q : s_O → Prop} {h : s_H} {kc ks : Nat} {r0 : Term} {x1 x2 : Int} {t3 t4 t5 : Term} {s0 : Int}  (k1 : s0 = 0 → wr P d sw_c591 sw_h591 (213, [r0, vi x1, vi x2, t3, t4, t5], [], h, kc, ks) Q) (k2 : ¬ s0 = 0 → wr P d sw_c591 sw_h591 (206, [r0, vi x1, vi x2, t3, t4, t5], [], h, kc, ks) Q)  (c1 : In3 s0 := by first | omega | assumption | (simp only [mk_len, List.length_map]; omega) | decide) : wr P d sw_c591 sw_h591 (203, [r0, vi x1, vi x2, t3, t4, t5], [vi s0], h, kc, ks) Q := by
  exact w_if1 rfl c1 k1 k2

theorem k591_206 {P : s_P} {d : Nat} {Q : s_O → Prop} {h : s_H} {kc ks : Nat} {r0 : Term} {x1 x2 : Int} {t3 t4 t5 : Term} {q2 : Nat} {f3 : List Term} (g4 : s_get h q2 = some (1, 11, f3)) (k : wm P d 400 [.index q2, vi x1, vi x2] h (wq P d sw_c591 sw_h591 212 [.index q2, vi x1, vi x2, t3, t4, t5] [] kc ks Q)) (e_q2 : r0 = .index q2 := by first | rfl | assumption) (y1 : s_ty r0 = 3 := by first | rfl | assumption)  : wr P d sw_c591 sw_h591 (206, [r0, vi x1, vi x2, t3, t4, t5], [], h, kc, ks) Q := by
  refine w_ld rfl rfl (Or.inr (Or.inr ⟨by decide, y1⟩)) ?_
  refine w_ld rfl rfl (Or.inl ⟨by decide, rfl⟩) ?_
  refine w_ld rfl rfl (Or.inl ⟨by decide, rfl⟩) ?_
  subst e_q2
  exact w_cv rfl [.index q2, vi x1, vi x2] [] rfl rfl (s_wt_4 rfl) rfl g4 k

theorem k591_212 {P : s_P} {d : Nat} {Q : s_O → Prop} {h : s_H} {kc ks : Nat} {r0 : Term} {x1 x2 : Int} {t3 t4 t5 : Term} {s0 : Int}  (k : Q (.inl (some (vi s0)), h, kc, ks))  (c1 : s0 = 0 ∨ s0 = 1 := by first | omega | assumption | (simp only [mk_len, List.length_map]; omega) | decide) : wr P d sw_c591 sw_h591 (212, [r0, vi x1, vi x2, t3, t4, t5], [vi s0], h, kc, ks) Q := by
  exact w_zret rfl c1 k

theorem k591_213 {P : s_P} {d : Nat} {Q : s_O → Prop} {h : s_H} {kc ks : Nat} {r0 : Term} {x1 x2 : Int} {t3 t4 t5 : Term}  (k : wr P d sw_c591 sw_h591 (215, [r0, vi x1, vi x2, vi 0, t4, t5], [], h, kc, ks) Q)   : wr P d sw_c591 sw_h591 (213, [r0, vi x1, vi x2, t3, t4, t5], [], h, kc, ks) Q := by
  refine w_c32 rfl (by decide) 0 (by decide) ?_
  refine w_st (ls' := [r0, vi x1, vi x2, vi 0, t4, t5]) rfl (Or.inl ⟨by decide, rfl⟩) rfl ?_
  exact k

theorem k591_215 {P : s_P} {d : Nat} {Q : s_O → Prop} {h : s_H} {kc ks : Nat} {r0 : Term} {x1 x2 x3 : Int} {t4 t5 : Term}  (k1 : 40 < x3 → wr P d sw_c591 sw_h591 (288, [r0, vi x1, vi x2, vi x3, t4, t5], [], h, kc, ks) Q) (k2 : ¬ 40 < x3 → wr P d sw_c591 sw_h591 (221, [r0, vi x1, vi x2, vi x3, t4, t5], [], h, kc, ks) Q)  (c1 : In3 x3 := by first | omega | assumption | (simp only [mk_len, List.length_map]; omega) | decide) : wr P d sw_c591 sw_h591 (215, [r0, vi x1, vi x2, vi x3, t4, t5], [], h, kc, ks) Q := by
  refine w_ld rfl rfl (Or.inl ⟨by decide, rfl⟩) ?_
  refine w_c32 rfl (by decide) 40 (by decide) ?_
  exact w_if2 rfl c1 (by decide) k1 k2

theorem k591_221 {P : s_P} {d : Nat} {Q : s_O → Prop} {h : s_H} {kc ks : Nat} {r0 : Term} {x1 x2 x3 : Int} {t4 t5 : Term} {q2 : Nat} {f3 : List Term} {v5 : Term} {q7 : Nat} {a8 : List Int} (g4 : s_get h q2 = some (1, 11, f3)) (g9 : s_get h q7 = some (0, 0, a8.map vi)) (k1 : gi a8 ((41 * x1) + x3) ≠ gi a8 ((41 * x2) + x3) → wr P d sw_c591 sw_h591 (280, [.index q2, vi x1, vi x2, vi x3, t4, t5], [], h, kc, ks) Q) (k2 : ¬ gi a8 ((41 * x1) + x3) ≠ gi a8 ((41 * x2) + x3) → wr P d sw_c591 sw_h591 (246, [.index q2, vi x1, vi x2, vi x3, t4, t5], [], h, kc, ks) Q) (e_q2 : r0 = .index q2 := by first | rfl | assumption) (e_q7 : v5 = .index q7 := by first | rfl | assumption) (y1 : s_ty r0 = 3 := by first | rfl | assumption) (n6 : s_nth f3 3 = some v5 := by first | rfl | assumption) (c10 : (41 * x1) + x3 < a8.length := by first | omega | assumption | (simp only [mk_len, List.length_map]; omega) | decide) (c11 : 0 ≤ (41 * x1) + x3 := by first | omega | assumption | (simp only [mk_len, List.length_map]; omega) | decide) (c12 : In3 ((41 * x1) + x3) := by first | omega | assumption | (simp only [mk_len, List.length_map]; omega) | decide) (c13 : (41 * x2) + x3 < a8.length := by first | omega | assumption | (simp only [mk_len, List.length_map]; omega) | decide) (c14 : 0 ≤ (41 * x2) + x3 := by first | omega | assumption | (simp only [mk_len, List.length_map]; omega) | decide) (c15 : In3 ((41 * x2) + x3) := by first | omega | assumption | (simp only [mk_len, List.length_map]; omega) | decide) (c16 : In3 (gi a8 ((41 * x1) + x3)) := by first | omega | assumption | (simp only [mk_len, List.length_map]; omega) | decide) (c17 : In3 (gi a8 ((41 * x2) + x3)) := by first | omega | assumption | (simp only [mk_len, List.length_map]; omega) | decide) : wr P d sw_c591 sw_h591 (221, [r0, vi x1, vi x2, vi x3, t4, t5], [], h, kc, ks) Q := by
  refine w_ld rfl rfl (Or.inr (Or.inr ⟨by decide, y1⟩)) ?_
  subst e_q2
  refine w_getf rfl g4 n6 ?_
  refine w_c32 rfl (by decide) 41 (by decide) ?_
  refine w_ld rfl rfl (Or.inl ⟨by decide, rfl⟩) ?_
  refine w_imul rfl ?_
  refine w_ld rfl rfl (Or.inl ⟨by decide, rfl⟩) ?_
  refine w_iadd rfl ?_
  subst e_q7
  refine w_iald rfl g9 (Or.inl rfl) c12 c11 c10 ?_
  refine w_ld rfl rfl (Or.inr (Or.inr ⟨by decide, rfl⟩)) ?_
  refine w_getf rfl g4 n6 ?_
  refine w_c32 rfl (by decide) 41 (by decide) ?_
  refine w_ld rfl rfl (Or.inl ⟨by decide, rfl⟩) ?_
  refine w_imul rfl ?_
  refine w_ld rfl rfl (Or.inl ⟨by decide, rfl⟩) ?_
  refine w_iadd rfl ?_
  refine w_iald rfl g9 (Or.inl rfl) c15 c14 c13 ?_
  exact w_if2 rfl c16 c17 k1 k2

theorem k591_246 {P : s_P} {d : Nat} {Q : s_O → Prop} {h : s_H} {kc ks : Nat} {r0 : Term} {x1 x2 x3 : Int} {t4 t5 : Term} {q2 : Nat} {f3 : List Term} (g4 : s_get h q2 = some (1, 11, f3)) (k : wm P d 469 [.index q2, vi x1, vi 0] h (wq P d sw_c591 sw_h591 252 [.index q2, vi x1, vi x2, vi x3, t4, t5] [] kc ks Q)) (e_q2 : r0 = .index q2 := by first | rfl | assumption) (y1 : s_ty r0 = 3 := by first | rfl | assumption)  : wr P d sw_c591 sw_h591 (246, [r0, vi x1, vi x2, vi x3, t4, t5], [], h, kc, ks) Q := by
  refine w_ld rfl rfl (Or.inr (Or.inr ⟨by decide, y1⟩)) ?_
  refine w_ld rfl rfl (Or.inl ⟨by decide, rfl⟩) ?_
  refine w_c32 rfl (by decide) 0 (by decide) ?_
  subst e_q2
  exact w_cv rfl [.index q2, vi x1, vi 0] [] rfl rfl (s_wt_4 rfl) rfl g4 k

theorem k591_252 {P : s_P} {d : Nat} {Q : s_O → Prop} {h : s_H} {kc ks : Nat} {r0 : Term} {x1 x2 x3 : Int} {t4 t5 : Term} {s0 : Int}  (k1 : s0 = 0 → wr P d sw_c591 sw_h591 (282, [r0, vi x1, vi x2, vi x3, t4, t5], [], h, kc, ks) Q) (k2 : ¬ s0 = 0 → wr P d sw_c591 sw_h591 (255, [r0, vi x1, vi x2, vi x3, t4, t5], [], h, kc, ks) Q)  (c1 : In3 s0 := by first | omega | assumption | (simp only [mk_len, List.length_map]; omega) | decide) : wr P d sw_c591 sw_h591 (252, [r0, vi x1, vi x2, vi x3, t4, t5], [vi s0], h, kc, ks) Q := by
  exact w_if1 rfl c1 k1 k2

theorem k591_255 {P : s_P} {d : Nat} {Q : s_O → Prop} {h : s_H} {kc ks : Nat} {r0 : Term} {x1 x2 x3 : Int} {t4 t5 : Term} {q2 : Nat} {f3 : List Term} {v5 : Term} {q7 : Nat} {a8 : List Int} (g4 : s_get h q2 = some (1, 11, f3)) (g9 : s_get h q7 = some (0, 0, a8.map vi)) (k1 : gi a8 ((41 * x1) + x3) = gi a8 ((41 * x2) + x3) → wr P d sw_c591 sw_h591 (282, [.index q2, vi x1, vi x2, vi x3, t4, t5], [], h, kc, ks) Q) (k2 : ¬ gi a8 ((41 * x1) + x3) = gi a8 ((41 * x2) + x3) → wr P d sw_c591 sw_h591 (280, [.index q2, vi x1, vi x2, vi x3, t4, t5], [], h, kc, ks) Q) (e_q2 : r0 = .index q2 := by first | rfl | assumption) (e_q7 : v5 = .index q7 := by first | rfl | assumption) (y1 : s_ty r0 = 3 := by first | rfl | assumption) (n6 : s_nth f3 4 = some v5 := by first | rfl | assumption) (c10 : (41 * x1) + x3 < a8.length := by first | omega | assumption | (simp only [mk_len, List.length_map]; omega) | decide) (c11 : 0 ≤ (41 * x1) + x3 := by first | omega | assumption | (simp only [mk_len, List.length_map]; omega) | decide) (c12 : In3 ((41 * x1) + x3) := by first | omega | assumption | (simp only [mk_len, List.length_map]; omega) | decide) (c13 : (41 * x2) + x3 < a8.length := by first | omega | assumption | (simp only [mk_len, List.length_map]; omega) | decide) (c14 : 0 ≤ (41 * x2) + x3 := by first | omega | assumption | (simp only [mk_len, List.length_map]; omega) | decide) (c15 : In3 ((41 * x2) + x3) := by first | omega | assumption | (simp only [mk_len, List.length_map]; omega) | decide) (c16 : In3 (gi a8 ((41 * x1) + x3)) := by first | omega | assumption | (simp only [mk_len, List.length_map]; omega) | decide) (c17 : In3 (gi a8 ((41 * x2) + x3)) := by first | omega | assumption | (simp only [mk_len, List.length_map]; omega) | decide) : wr P d sw_c591 sw_h591 (255, [r0, vi x1, vi x2, vi x3, t4, t5], [], h, kc, ks) Q := by
  refine w_ld rfl rfl (Or.inr (Or.inr ⟨by decide, y1⟩)) ?_
  subst e_q2
  refine w_getf rfl g4 n6 ?_
  refine w_c32 rfl (by decide) 41 (by decide) ?_
  refine w_ld rfl rfl (Or.inl ⟨by decide, rfl⟩) ?_
  refine w_imul rfl ?_
  refine w_ld rfl rfl (Or.inl ⟨by decide, rfl⟩) ?_
  refine w_iadd rfl ?_
  subst e_q7
  refine w_iald rfl g9 (Or.inl rfl) c12 c11 c10 ?_
  refine w_ld rfl rfl (Or.inr (Or.inr ⟨by decide, rfl⟩)) ?_
  refine w_getf rfl g4 n6 ?_
  refine w_c32 rfl (by decide) 41 (by decide) ?_
  refine w_ld rfl rfl (Or.inl ⟨by decide, rfl⟩) ?_
  refine w_imul rfl ?_
  refine w_ld rfl rfl (Or.inl ⟨by decide, rfl⟩) ?_
  refine w_iadd rfl ?_
  refine w_iald rfl g9 (Or.inl rfl) c15 c14 c13 ?_
  exact w_if2 rfl c16 c17 k1 k2

theorem k591_280 {P : s_P} {d : Nat} {Q : s_O → Prop} {h : s_H} {kc ks : Nat} {r0 : Term} {x1 x2 x3 : Int} {t4 t5 : Term}  (k : Q (.inl (some (vi 0)), h, kc, ks))   : wr P d sw_c591 sw_h591 (280, [r0, vi x1, vi x2, vi x3, t4, t5], [], h, kc, ks) Q := by
  refine w_c32 rfl (by decide) 0 (by decide) ?_
  exact w_zret rfl (by decide) k

theorem k591_282 {P : s_P} {d : Nat} {Q : s_O → Prop} {h : s_H} {kc ks : Nat} {r0 : Term} {x1 x2 x3 : Int} {t4 t5 : Term}  (k : wr P d sw_c591 sw_h591 (215, [r0, vi x1, vi x2, vi (x3 + 1), t4, t5], [], h, kc, ks) Q)   : wr P d sw_c591 sw_h591 (282, [r0, vi x1, vi x2, vi x3, t4, t5], [], h, kc, ks) Q := by
  refine w_iinc (ls' := [r0, vi x1, vi x2, vi (x3 + 1), t4, t5]) rfl rfl 1 (by decide) rfl ?_
  refine w_goto rfl ?_
  exact k

theorem k591_288 {P : s_P} {d : Nat} {Q : s_O → Prop} {h : s_H} {kc ks : Nat} {r0 : Term} {x1 x2 x3 : Int} {t4 t5 : Term}  (k : Q (.inl (some (vi 1)), h, kc, ks))   : wr P d sw_c591 sw_h591 (288, [r0, vi x1, vi x2, vi x3, t4, t5], [], h, kc, ks) Q := by
  refine w_c32 rfl (by decide) 1 (by decide) ?_
  exact w_zret rfl (by decide) k

/-! 592: FormulaWorksModel.scale([JJ)V -/
theorem k592_0 {P : s_P} {d : Nat} {Q : s_O → Prop} {h : s_H} {kc ks : Nat} {r0 : Term} {x1 : Int} {t2 t3 : Term}  (k : wr P d sw_c592 sw_h592 (2, [r0, vl x1, (s_uu t2), vi 0], [], h, kc, ks) Q)   : wr P d sw_c592 sw_h592 (0, [r0, vl x1, t2, t3], [], h, kc, ks) Q := by
  refine w_c32 rfl (by decide) 0 (by decide) ?_
  refine w_st (ls' := [r0, vl x1, (s_uu t2), vi 0]) rfl (Or.inl ⟨by decide, rfl⟩) (s_stK_t (pre := [r0, vl x1])) ?_
  exact k

theorem k592_2 {P : s_P} {d : Nat} {Q : s_O → Prop} {h : s_H} {kc ks : Nat} {r0 : Term} {x1 : Int} {t2 : Term} {x3 : Int}  (k1 : 176 ≤ x3 → wr P d sw_c592 sw_h592 (27, [r0, vl x1, t2, vi x3], [], h, kc, ks) Q) (k2 : ¬ 176 ≤ x3 → wr P d sw_c592 sw_h592 (9, [r0, vl x1, t2, vi x3], [], h, kc, ks) Q)  (c1 : In3 x3 := by first | omega | assumption | (simp only [mk_len, List.length_map]; omega) | decide) : wr P d sw_c592 sw_h592 (2, [r0, vl x1, t2, vi x3], [], h, kc, ks) Q := by
  refine w_ld rfl rfl (Or.inl ⟨by decide, rfl⟩) ?_
  refine w_c32 rfl (by decide) 176 (by decide) ?_
  exact w_if2 rfl c1 (by decide) k1 k2

theorem k592_9 {P : s_P} {d : Nat} {Q : s_O → Prop} {h : s_H} {kc ks : Nat} {r0 : Term} {x1 : Int} {t2 : Term} {x3 : Int} {q2 : Nat} {a3 : List Int} (g4 : s_get h q2 = some (0, 1, a3.map vl)) (k : wr P d sw_c592 sw_h592 (2, [.index q2, vl x1, (s_uu t2), vi (x3 + 1)], [], (hp h q2 (0, 1, (a3.set (Int.toNat (x3)) (Int.tmod ((gi a3 x3) * x1) 32003)).map vl)), kc, ks) Q) (e_q2 : r0 = .index q2 := by first | rfl | assumption) (y1 : s_ty r0 = 3 := by first | rfl | assumption) (c5 : x3 < a3.length := by first | omega | assumption | (simp only [mk_len, List.length_map]; omega) | decide) (c6 : 0 ≤ x3 := by first | omega | assumption | (simp only [mk_len, List.length_map]; omega) | decide) (c7 : In3 x3 := by first | omega | assumption | (simp only [mk_len, List.length_map]; omega) | decide) (c8 : In6 ((gi a3 x3) * x1) := by first | omega | assumption | (simp only [mk_len, List.length_map]; omega) | decide) (c9 : 0 < q2 := by first | omega | assumption | (simp only [mk_len, List.length_map]; omega) | decide) : wr P d sw_c592 sw_h592 (9, [r0, vl x1, t2, vi x3], [], h, kc, ks) Q := by
  refine w_ld rfl rfl (Or.inr (Or.inr ⟨by decide, y1⟩)) ?_
  refine w_ld rfl rfl (Or.inl ⟨by decide, rfl⟩) ?_
  refine w_ld rfl rfl (Or.inr (Or.inr ⟨by decide, y1⟩)) ?_
  refine w_ld rfl rfl (Or.inl ⟨by decide, rfl⟩) ?_
  subst e_q2
  refine w_lald rfl g4 c7 c6 c5 ?_
  refine w_ld rfl rfl (Or.inr (Or.inl ⟨by decide, rfl⟩)) ?_
  refine w_lmul rfl ?_
  refine w_c64 rfl (by decide) 32003 (by decide) ?_
  refine w_lrem rfl c8 (by decide) (by decide) ?_
  refine w_last rfl g4 (Nat.ble_eq_true_of_le c9) c7 c6 c5 ?_
  refine w_iinc (ls' := [.index q2, vl x1, (s_uu t2), vi (x3 + 1)]) rfl rfl 1 (by decide) (s_stK_t (pre := [.index q2, vl x1])) ?_
  refine w_goto rfl ?_
  exact k

theorem k592_27 {P : s_P} {d : Nat} {Q : s_O → Prop} {h : s_H} {kc ks : Nat} {r0 : Term} {x1 : Int} {t2 : Term} {x3 : Int}  (k : Q (.inl none, h, kc, ks))   : wr P d sw_c592 sw_h592 (27, [r0, vl x1, t2, vi x3], [], h, kc, ks) Q := by
  exact w_ret rfl k

/-! 593: FormulaWorksModel.series(I)I -/
theorem k593_0 {P : s_P} {d : Nat} {Q : s_O → Prop} {h : s_H} {kc ks : Nat} {r0 : Term} {x1 : Int} {q2 : Nat} {f3 : List Term} (g4 : s_get h q2 = some (1, 11, f3)) (k : wm P d 481 [.index q2, vi x1, vi 0] h (wq P d sw_c593 sw_h593 6 [.index q2, vi x1] [] kc ks Q)) (e_q2 : r0 = .index q2 := by first | rfl | assumption) (y1 : s_ty r0 = 3 := by first | rfl | assumption)  : wr P d sw_c593 sw_h593 (0, [r0, vi x1], [], h, kc, ks) Q := by
  refine w_ld rfl rfl (Or.inr (Or.inr ⟨by decide, y1⟩)) ?_
  refine w_ld rfl rfl (Or.inl ⟨by decide, rfl⟩) ?_
  refine w_c32 rfl (by decide) 0 (by decide) ?_
  subst e_q2
  exact w_cv rfl [.index q2, vi x1, vi 0] [] rfl rfl (s_wt_4 rfl) rfl g4 k

theorem k593_6 {P : s_P} {d : Nat} {Q : s_O → Prop} {h : s_H} {kc ks : Nat} {r0 : Term} {x1 s0 : Int}  (k1 : s0 ≠ 0 → wr P d sw_c593 sw_h593 (11, [r0, vi x1], [], h, kc, ks) Q) (k2 : ¬ s0 ≠ 0 → wr P d sw_c593 sw_h593 (9, [r0, vi x1], [], h, kc, ks) Q)  (c1 : In3 s0 := by first | omega | assumption | (simp only [mk_len, List.length_map]; omega) | decide) : wr P d sw_c593 sw_h593 (6, [r0, vi x1], [vi s0], h, kc, ks) Q := by
  exact w_if1 rfl c1 k1 k2

theorem k593_9 {P : s_P} {d : Nat} {Q : s_O → Prop} {h : s_H} {kc ks : Nat} {r0 : Term} {x1 : Int}  (k : Q (.inl (some (vi 0)), h, kc, ks))   : wr P d sw_c593 sw_h593 (9, [r0, vi x1], [], h, kc, ks) Q := by
  refine w_c32 rfl (by decide) 0 (by decide) ?_
  exact w_iret rfl k

theorem k593_11 {P : s_P} {d : Nat} {Q : s_O → Prop} {h : s_H} {kc ks : Nat} {r0 : Term} {x1 : Int} {q2 : Nat} {f3 : List Term} {v5 : Term} {q7 : Nat} {a8 : List Int} (g4 : s_get h q2 = some (1, 11, f3)) (g9 : s_get h q7 = some (0, 1, a8.map vl)) (k1 : gi a8 0 ≠ 0 → wr P d sw_c593 sw_h593 (28, [.index q2, vi x1], [], h, kc, ks) Q) (k2 : ¬ gi a8 0 ≠ 0 → wr P d sw_c593 sw_h593 (22, [.index q2, vi x1], [], h, kc, ks) Q) (e_q2 : r0 = .index q2 := by first | rfl | assumption) (e_q7 : v5 = .index q7 := by first | rfl | assumption) (y1 : s_ty r0 = 3 := by first | rfl | assumption) (n6 : s_nth f3 11 = some v5 := by first | rfl | assumption) (c10 : (0 : Int) < a8.length := by first | omega | assumption | (simp only [mk_len, List.length_map]; omega) | decide) (c11 : In6 (gi a8 0) := by first | omega | assumption | (simp only [mk_len, List.length_map]; omega) | decide) : wr P d sw_c593 sw_h593 (11, [r0, vi x1], [], h, kc, ks) Q := by
  refine w_ld rfl rfl (Or.inr (Or.inr ⟨by decide, y1⟩)) ?_
  subst e_q2
  refine w_getf rfl g4 n6 ?_
  refine w_c32 rfl (by decide) 0 (by decide) ?_
  subst e_q7
  refine w_lald rfl g9 (by decide) (by decide) c10 ?_
  refine w_c64 rfl (by decide) 0 (by decide) ?_
  exact w_lcmp rfl rfl c11 (by decide) k1 k2

theorem k593_22 {P : s_P} {d : Nat} {Q : s_O → Prop} {h : s_H} {kc ks : Nat} {r0 : Term} {x1 : Int} {q2 : Nat} {f3 : List Term} (g4 : s_get h q2 = some (1, 11, f3)) (k : wm P d 570 [.index q2, vi 3] h (wq P d sw_c593 sw_h593 27 [.index q2, vi x1] [] kc ks Q)) (e_q2 : r0 = .index q2 := by first | rfl | assumption) (y1 : s_ty r0 = 3 := by first | rfl | assumption)  : wr P d sw_c593 sw_h593 (22, [r0, vi x1], [], h, kc, ks) Q := by
  refine w_ld rfl rfl (Or.inr (Or.inr ⟨by decide, y1⟩)) ?_
  refine w_c32 rfl (by decide) 3 (by decide) ?_
  subst e_q2
  exact w_cv rfl [.index q2, vi 3] [] rfl rfl (s_wt_4 rfl) rfl g4 k

theorem k593_27 {P : s_P} {d : Nat} {Q : s_O → Prop} {h : s_H} {kc ks : Nat} {r0 : Term} {x1 s0 : Int}  (k : Q (.inl (some (vi s0)), h, kc, ks))   : wr P d sw_c593 sw_h593 (27, [r0, vi x1], [vi s0], h, kc, ks) Q := by
  exact w_iret rfl k

theorem k593_28 {P : s_P} {d : Nat} {Q : s_O → Prop} {h : s_H} {kc ks : Nat} {r0 : Term} {x1 : Int} {q2 : Nat} {f3 : List Term} {v5 v7 : Term} (g4 : s_get h q2 = some (1, 11, f3)) (k : wm P d 425 [v5, v7] h (wq P d sw_c593 sw_h593 39 [.index q2, vi x1] [] kc ks Q)) (e_q2 : r0 = .index q2 := by first | rfl | assumption) (y1 : s_ty r0 = 3 := by first | rfl | assumption) (n6 : s_nth f3 12 = some v5 := by first | rfl | assumption) (n8 : s_nth f3 11 = some v7 := by first | rfl | assumption)  : wr P d sw_c593 sw_h593 (28, [r0, vi x1], [], h, kc, ks) Q := by
  refine w_ld rfl rfl (Or.inr (Or.inr ⟨by decide, y1⟩)) ?_
  subst e_q2
  refine w_getf rfl g4 n6 ?_
  refine w_ld rfl rfl (Or.inr (Or.inr ⟨by decide, rfl⟩)) ?_
  refine w_getf rfl g4 n8 ?_
  exact w_cs rfl [v5, v7] [] rfl rfl (s_wt_4 rfl) k

theorem k593_39 {P : s_P} {d : Nat} {Q : s_O → Prop} {h : s_H} {kc ks : Nat} {r0 : Term} {x1 : Int} {q2 : Nat} {f3 : List Term} (g4 : s_get h q2 = some (1, 11, f3)) (k : wm P d 569 [.index q2] h (wq P d sw_c593 sw_h593 43 [.index q2, vi x1] [] kc ks Q)) (e_q2 : r0 = .index q2 := by first | rfl | assumption) (y1 : s_ty r0 = 3 := by first | rfl | assumption)  : wr P d sw_c593 sw_h593 (39, [r0, vi x1], [], h, kc, ks) Q := by
  refine w_ld rfl rfl (Or.inr (Or.inr ⟨by decide, y1⟩)) ?_
  subst e_q2
  exact w_cv rfl [.index q2] [] rfl rfl (s_wt_4 rfl) rfl g4 k

theorem k593_43 {P : s_P} {d : Nat} {Q : s_O → Prop} {h : s_H} {kc ks : Nat} {r0 : Term} {x1 : Int} {q2 : Nat} {f3 : List Term} (g4 : s_get h q2 = some (1, 11, f3)) (k : wm P d 499 [.index q2, vi 4] h (wq P d sw_c593 sw_h593 48 [.index q2, vi x1] [] kc ks Q)) (e_q2 : r0 = .index q2 := by first | rfl | assumption) (y1 : s_ty r0 = 3 := by first | rfl | assumption)  : wr P d sw_c593 sw_h593 (43, [r0, vi x1], [], h, kc, ks) Q := by
  refine w_ld rfl rfl (Or.inr (Or.inr ⟨by decide, y1⟩)) ?_
  refine w_c32 rfl (by decide) 4 (by decide) ?_
  subst e_q2
  exact w_cv rfl [.index q2, vi 4] [] rfl rfl (s_wt_4 rfl) rfl g4 k

theorem k593_48 {P : s_P} {d : Nat} {Q : s_O → Prop} {h : s_H} {kc ks : Nat} {r0 : Term} {x1 s0 : Int}  (k : Q (.inl (some (vi s0)), h, kc, ks))   : wr P d sw_c593 sw_h593 (48, [r0, vi x1], [vi s0], h, kc, ks) Q := by
  exact w_iret rfl k

/-! 594: FormulaWorksModel.signOf(I)I -/
theorem k594_0 {P : s_P} {d : Nat} {Q : s_O → Prop} {h : s_H} {kc ks : Nat} {x0 : Int}  (k1 : x0 ≠ 2 → wr P d sw_c594 sw_h594 (10, [vi x0], [], h, kc, ks) Q) (k2 : ¬ x0 ≠ 2 → wr P d sw_c594 sw_h594 (5, [vi x0], [], h, kc, ks) Q)  (c1 : In3 x0 := by first | omega | assumption | (simp only [mk_len, List.length_map]; omega) | decide) : wr P d sw_c594 sw_h594 (0, [vi x0], [], h, kc, ks) Q := by
  refine w_ld rfl rfl (Or.inl ⟨by decide, rfl⟩) ?_
  refine w_c32 rfl (by decide) 2 (by decide) ?_
  exact w_if2 rfl c1 (by decide) k1 k2

theorem k594_5 {P : s_P} {d : Nat} {Q : s_O → Prop} {h : s_H} {kc ks : Nat} {x0 : Int}  (k : wr P d sw_c594 sw_h594 (32, [vi x0], [vi 43], h, kc, ks) Q)   : wr P d sw_c594 sw_h594 (5, [vi x0], [], h, kc, ks) Q := by
  refine w_c32 rfl (by decide) 43 (by decide) ?_
  refine w_goto rfl ?_
  exact k

theorem k594_10 {P : s_P} {d : Nat} {Q : s_O → Prop} {h : s_H} {kc ks : Nat} {x0 : Int}  (k1 : x0 ≠ 3 → wr P d sw_c594 sw_h594 (20, [vi x0], [], h, kc, ks) Q) (k2 : ¬ x0 ≠ 3 → wr P d sw_c594 sw_h594 (15, [vi x0], [], h, kc, ks) Q)  (c1 : In3 x0 := by first | omega | assumption | (simp only [mk_len, List.length_map]; omega) | decide) : wr P d sw_c594 sw_h594 (10, [vi x0], [], h, kc, ks) Q := by
  refine w_ld rfl rfl (Or.inl ⟨by decide, rfl⟩) ?_
  refine w_c32 rfl (by decide) 3 (by decide) ?_
  exact w_if2 rfl c1 (by decide) k1 k2

theorem k594_15 {P : s_P} {d : Nat} {Q : s_O → Prop} {h : s_H} {kc ks : Nat} {x0 : Int}  (k : wr P d sw_c594 sw_h594 (32, [vi x0], [vi 45], h, kc, ks) Q)   : wr P d sw_c594 sw_h594 (15, [vi x0], [], h, kc, ks) Q := by
  refine w_c32 rfl (by decide) 45 (by decide) ?_
  refine w_goto rfl ?_
  exact k

theorem k594_20 {P : s_P} {d : Nat} {Q : s_O → Prop} {h : s_H} {kc ks : Nat} {x0 : Int}  (k1 : x0 ≠ 4 → wr P d sw_c594 sw_h594 (30, [vi x0], [], h, kc, ks) Q) (k2 : ¬ x0 ≠ 4 → wr P d sw_c594 sw_h594 (25, [vi x0], [], h, kc, ks) Q)  (c1 : In3 x0 := by first | omega | assumption | (simp only [mk_len, List.length_map]; omega) | decide) : wr P d sw_c594 sw_h594 (20, [vi x0], [], h, kc, ks) Q := by
  refine w_ld rfl rfl (Or.inl ⟨by decide, rfl⟩) ?_
  refine w_c32 rfl (by decide) 4 (by decide) ?_
  exact w_if2 rfl c1 (by decide) k1 k2

theorem k594_25 {P : s_P} {d : Nat} {Q : s_O → Prop} {h : s_H} {kc ks : Nat} {x0 : Int}  (k : wr P d sw_c594 sw_h594 (32, [vi x0], [vi 42], h, kc, ks) Q)   : wr P d sw_c594 sw_h594 (25, [vi x0], [], h, kc, ks) Q := by
  refine w_c32 rfl (by decide) 42 (by decide) ?_
  refine w_goto rfl ?_
  exact k

theorem k594_30 {P : s_P} {d : Nat} {Q : s_O → Prop} {h : s_H} {kc ks : Nat} {x0 : Int}  (k : wr P d sw_c594 sw_h594 (32, [vi x0], [vi 47], h, kc, ks) Q)   : wr P d sw_c594 sw_h594 (30, [vi x0], [], h, kc, ks) Q := by
  refine w_c32 rfl (by decide) 47 (by decide) ?_
  exact k

theorem k594_32 {P : s_P} {d : Nat} {Q : s_O → Prop} {h : s_H} {kc ks : Nat} {x0 s0 : Int}  (k : Q (.inl (some (vi s0)), h, kc, ks))   : wr P d sw_c594 sw_h594 (32, [vi x0], [vi s0], h, kc, ks) Q := by
  exact w_iret rfl k

/-! 595: FormulaWorksModel.simple(I)I -/
theorem k595_0 {P : s_P} {d : Nat} {Q : s_O → Prop} {h : s_H} {kc ks : Nat} {r0 : Term} {x1 : Int} {t2 : Term} {q2 : Nat} {f3 : List Term} (g4 : s_get h q2 = some (1, 11, f3)) (k : wm P d 481 [.index q2, vi x1, vi 3] h (wq P d sw_c595 sw_h595 6 [.index q2, vi x1, t2] [] kc ks Q)) (e_q2 : r0 = .index q2 := by first | rfl | assumption) (y1 : s_ty r0 = 3 := by first | rfl | assumption)  : wr P d sw_c595 sw_h595 (0, [r0, vi x1, t2], [], h, kc, ks) Q := by
  refine w_ld rfl rfl (Or.inr (Or.inr ⟨by decide, y1⟩)) ?_
  refine w_ld rfl rfl (Or.inl ⟨by decide, rfl⟩) ?_
  refine w_c32 rfl (by decide) 3 (by decide) ?_
  subst e_q2
  exact w_cv rfl [.index q2, vi x1, vi 3] [] rfl rfl (s_wt_4 rfl) rfl g4 k

theorem k595_6 {P : s_P} {d : Nat} {Q : s_O → Prop} {h : s_H} {kc ks : Nat} {r0 : Term} {x1 : Int} {t2 : Term} {s0 : Int}  (k1 : s0 ≠ 0 → wr P d sw_c595 sw_h595 (11, [r0, vi x1, t2], [], h, kc, ks) Q) (k2 : ¬ s0 ≠ 0 → wr P d sw_c595 sw_h595 (9, [r0, vi x1, t2], [], h, kc, ks) Q)  (c1 : In3 s0 := by first | omega | assumption | (simp only [mk_len, List.length_map]; omega) | decide) : wr P d sw_c595 sw_h595 (6, [r0, vi x1, t2], [vi s0], h, kc, ks) Q := by
  exact w_if1 rfl c1 k1 k2

theorem k595_9 {P : s_P} {d : Nat} {Q : s_O → Prop} {h : s_H} {kc ks : Nat} {r0 : Term} {x1 : Int} {t2 : Term}  (k : Q (.inl (some (vi 0)), h, kc, ks))   : wr P d sw_c595 sw_h595 (9, [r0, vi x1, t2], [], h, kc, ks) Q := by
  refine w_c32 rfl (by decide) 0 (by decide) ?_
  exact w_iret rfl k

theorem k595_11 {P : s_P} {d : Nat} {Q : s_O → Prop} {h : s_H} {kc ks : Nat} {r0 : Term} {x1 : Int} {t2 : Term} {q2 : Nat} {f3 : List Term} {z5 : Int} (g4 : s_get h q2 = some (1, 11, f3)) (k1 : z5 ≠ 150 → wr P d sw_c595 sw_h595 (27, [.index q2, vi x1, t2], [], h, kc, ks) Q) (k2 : ¬ z5 ≠ 150 → wr P d sw_c595 sw_h595 (21, [.index q2, vi x1, t2], [], h, kc, ks) Q) (e_q2 : r0 = .index q2 := by first | rfl | assumption) (y1 : s_ty r0 = 3 := by first | rfl | assumption) (n6 : s_nth f3 1 = some (vi z5) := by first | rfl | assumption) (c7 : In3 z5 := by first | omega | assumption | (simp only [mk_len, List.length_map]; omega) | decide) : wr P d sw_c595 sw_h595 (11, [r0, vi x1, t2], [], h, kc, ks) Q := by
  refine w_ld rfl rfl (Or.inr (Or.inr ⟨by decide, y1⟩)) ?_
  subst e_q2
  refine w_getf rfl g4 n6 ?_
  refine w_c32 rfl (by decide) 150 (by decide) ?_
  exact w_if2 rfl c7 (by decide) k1 k2

theorem k595_21 {P : s_P} {d : Nat} {Q : s_O → Prop} {h : s_H} {kc ks : Nat} {r0 : Term} {x1 : Int} {t2 : Term} {q2 : Nat} {f3 : List Term} (g4 : s_get h q2 = some (1, 11, f3)) (k : wm P d 570 [.index q2, vi 3] h (wq P d sw_c595 sw_h595 26 [.index q2, vi x1, t2] [] kc ks Q)) (e_q2 : r0 = .index q2 := by first | rfl | assumption) (y1 : s_ty r0 = 3 := by first | rfl | assumption)  : wr P d sw_c595 sw_h595 (21, [r0, vi x1, t2], [], h, kc, ks) Q := by
  refine w_ld rfl rfl (Or.inr (Or.inr ⟨by decide, y1⟩)) ?_
  refine w_c32 rfl (by decide) 3 (by decide) ?_
  subst e_q2
  exact w_cv rfl [.index q2, vi 3] [] rfl rfl (s_wt_4 rfl) rfl g4 k

theorem k595_26 {P : s_P} {d : Nat} {Q : s_O → Prop} {h : s_H} {kc ks : Nat} {r0 : Term} {x1 : Int} {t2 : Term} {s0 : Int}  (k : Q (.inl (some (vi s0)), h, kc, ks))   : wr P d sw_c595 sw_h595 (26, [r0, vi x1, t2], [vi s0], h, kc, ks) Q := by
  exact w_iret rfl k

theorem k595_27 {P : s_P} {d : Nat} {Q : s_O → Prop} {h : s_H} {kc ks : Nat} {r0 : Term} {x1 : Int} {t2 : Term} {q2 : Nat} {f3 : List Term} (g4 : s_get h q2 = some (1, 11, f3)) (k : wm P d 512 [.index q2, vi x1] h (wq P d sw_c595 sw_h595 32 [.index q2, vi x1, t2] [] kc ks Q)) (e_q2 : r0 = .index q2 := by first | rfl | assumption) (y1 : s_ty r0 = 3 := by first | rfl | assumption)  : wr P d sw_c595 sw_h595 (27, [r0, vi x1, t2], [], h, kc, ks) Q := by
  refine w_ld rfl rfl (Or.inr (Or.inr ⟨by decide, y1⟩)) ?_
  refine w_ld rfl rfl (Or.inl ⟨by decide, rfl⟩) ?_
  subst e_q2
  exact w_cv rfl [.index q2, vi x1] [] rfl rfl (s_wt_4 rfl) rfl g4 k

theorem k595_32 {P : s_P} {d : Nat} {Q : s_O → Prop} {h : s_H} {kc ks : Nat} {r0 : Term} {x1 : Int} {t2 : Term} {q2 : Nat} {f3 : List Term} (g4 : s_get h q2 = some (1, 11, f3)) (k : wr P d sw_c595 sw_h595 (39, [.index q2, vi x1, vi 1], [], (hp h q2 (1, 11, f3.set 98 (vi 0))), kc, ks) Q) (e_q2 : r0 = .index q2 := by first | rfl | assumption) (y1 : s_ty r0 = 3 := by first | rfl | assumption) (l5 : 98 < f3.length := by first | exact Nat.le_of_ble_eq_true rfl | omega | assumption) (c6 : 0 < q2 := by first | omega | assumption | (simp only [mk_len, List.length_map]; omega) | decide) : wr P d sw_c595 sw_h595 (32, [r0, vi x1, t2], [], h, kc, ks) Q := by
  refine w_ld rfl rfl (Or.inr (Or.inr ⟨by decide, y1⟩)) ?_
  refine w_c32 rfl (by decide) 0 (by decide) ?_
  subst e_q2
  refine w_putf rfl g4 (Nat.ble_eq_true_of_le c6) rfl (Nat.ble_eq_true_of_le l5) ?_
  refine w_c32 rfl (by decide) 1 (by decide) ?_
  refine w_st (ls' := [.index q2, vi x1, vi 1]) rfl (Or.inl ⟨by decide, rfl⟩) rfl ?_
  exact k

theorem k595_39 {P : s_P} {d : Nat} {Q : s_O → Prop} {h : s_H} {kc ks : Nat} {r0 : Term} {x1 x2 : Int}  (k1 : x2 = 0 → wr P d sw_c595 sw_h595 (51, [r0, vi x1, vi x2], [], h, kc, ks) Q) (k2 : ¬ x2 = 0 → wr P d sw_c595 sw_h595 (43, [r0, vi x1, vi x2], [], h, kc, ks) Q)  (c1 : In3 x2 := by first | omega | assumption | (simp only [mk_len, List.length_map]; omega) | decide) : wr P d sw_c595 sw_h595 (39, [r0, vi x1, vi x2], [], h, kc, ks) Q := by
  refine w_ld rfl rfl (Or.inl ⟨by decide, rfl⟩) ?_
  exact w_if1 rfl c1 k1 k2

theorem k595_43 {P : s_P} {d : Nat} {Q : s_O → Prop} {h : s_H} {kc ks : Nat} {r0 : Term} {x1 x2 : Int} {q2 : Nat} {f3 : List Term} (g4 : s_get h q2 = some (1, 11, f3)) (k : wm P d 488 [.index q2] h (wq P d sw_c595 sw_h595 47 [.index q2, vi x1, vi x2] [] kc ks Q)) (e_q2 : r0 = .index q2 := by first | rfl | assumption) (y1 : s_ty r0 = 3 := by first | rfl | assumption)  : wr P d sw_c595 sw_h595 (43, [r0, vi x1, vi x2], [], h, kc, ks) Q := by
  refine w_ld rfl rfl (Or.inr (Or.inr ⟨by decide, y1⟩)) ?_
  subst e_q2
  exact w_cv rfl [.index q2] [] rfl rfl (s_wt_4 rfl) rfl g4 k

theorem k595_47 {P : s_P} {d : Nat} {Q : s_O → Prop} {h : s_H} {kc ks : Nat} {r0 : Term} {x1 x2 s0 : Int}  (k : wr P d sw_c595 sw_h595 (39, [r0, vi x1, vi s0], [], h, kc, ks) Q)   : wr P d sw_c595 sw_h595 (47, [r0, vi x1, vi x2], [vi s0], h, kc, ks) Q := by
  refine w_st (ls' := [r0, vi x1, vi s0]) rfl (Or.inl ⟨by decide, rfl⟩) rfl ?_
  refine w_goto rfl ?_
  exact k

theorem k595_51 {P : s_P} {d : Nat} {Q : s_O → Prop} {h : s_H} {kc ks : Nat} {r0 : Term} {x1 x2 : Int} {q2 : Nat} {f3 f7 : List Term} {z9 : Int} (g4 : s_get h q2 = some (1, 11, f3)) (g8 : s_get (hp h q2 (1, 11, f3.set 85 (vi 0))) q2 = some (1, 11, f7)) (k : wm P d 550 [.index q2, vi 0, vi z9] (hp h q2 (1, 11, f3.set 85 (vi 0))) (wq P d sw_c595 sw_h595 65 [.index q2, vi x1, vi x2] [] kc ks Q)) (e_q2 : r0 = .index q2 := by first | rfl | assumption) (y1 : s_ty r0 = 3 := by first | rfl | assumption) (l5 : 85 < f3.length := by first | exact Nat.le_of_ble_eq_true rfl | omega | assumption) (n10 : s_nth f7 82 = some (vi z9) := by first | rfl | assumption) (c6 : 0 < q2 := by first | omega | assumption | (simp only [mk_len, List.length_map]; omega) | decide) : wr P d sw_c595 sw_h595 (51, [r0, vi x1, vi x2], [], h, kc, ks) Q := by
  refine w_ld rfl rfl (Or.inr (Or.inr ⟨by decide, y1⟩)) ?_
  refine w_c32 rfl (by decide) 0 (by decide) ?_
  subst e_q2
  refine w_putf rfl g4 (Nat.ble_eq_true_of_le c6) rfl (Nat.ble_eq_true_of_le l5) ?_
  refine w_ld rfl rfl (Or.inr (Or.inr ⟨by decide, rfl⟩)) ?_
  refine w_c32 rfl (by decide) 0 (by decide) ?_
  refine w_ld rfl rfl (Or.inr (Or.inr ⟨by decide, rfl⟩)) ?_
  refine w_getf rfl g8 n10 ?_
  exact w_cv rfl [.index q2, vi 0, vi z9] [] rfl rfl (s_wt_4 rfl) rfl g8 k

theorem k595_65 {P : s_P} {d : Nat} {Q : s_O → Prop} {h : s_H} {kc ks : Nat} {r0 : Term} {x1 x2 : Int} {q2 : Nat} {f3 : List Term} (g4 : s_get h q2 = some (1, 11, f3)) (k : wm P d 500 [.index q2, vi 3] h (wq P d sw_c595 sw_h595 70 [.index q2, vi x1, vi x2] [] kc ks Q)) (e_q2 : r0 = .index q2 := by first | rfl | assumption) (y1 : s_ty r0 = 3 := by first | rfl | assumption)  : wr P d sw_c595 sw_h595 (65, [r0, vi x1, vi x2], [], h, kc, ks) Q := by
  refine w_ld rfl rfl (Or.inr (Or.inr ⟨by decide, y1⟩)) ?_
  refine w_c32 rfl (by decide) 3 (by decide) ?_
  subst e_q2
  exact w_cv rfl [.index q2, vi 3] [] rfl rfl (s_wt_4 rfl) rfl g4 k

theorem k595_70 {P : s_P} {d : Nat} {Q : s_O → Prop} {h : s_H} {kc ks : Nat} {r0 : Term} {x1 x2 s0 : Int}  (k : Q (.inl (some (vi s0)), h, kc, ks))   : wr P d sw_c595 sw_h595 (70, [r0, vi x1, vi x2], [vi s0], h, kc, ks) Q := by
  exact w_iret rfl k

/-! 596: FormulaWorksModel.slope([J[J)V -/
theorem k596_0 {P : s_P} {d : Nat} {Q : s_O → Prop} {h : s_H} {kc ks : Nat} {r0 r1 t2 : Term}  (k : wr P d sw_c596 sw_h596 (2, [r0, r1, vi 0], [], h, kc, ks) Q) (y1 : s_ty r1 = 3 := by first | rfl | assumption)  : wr P d sw_c596 sw_h596 (0, [r0, r1, t2], [], h, kc, ks) Q := by
  refine w_c32 rfl (by decide) 0 (by decide) ?_
  refine w_st (ls' := [r0, r1, vi 0]) rfl (Or.inl ⟨by decide, rfl⟩) (s_stK_r (pre := [r0]) y1) ?_
  exact k

theorem k596_2 {P : s_P} {d : Nat} {Q : s_O → Prop} {h : s_H} {kc ks : Nat} {r0 r1 : Term} {x2 : Int}  (k1 : 176 ≤ x2 → wr P d sw_c596 sw_h596 (45, [r0, r1, vi x2], [], h, kc, ks) Q) (k2 : ¬ 176 ≤ x2 → wr P d sw_c596 sw_h596 (9, [r0, r1, vi x2], [], h, kc, ks) Q)  (c1 : In3 x2 := by first | omega | assumption | (simp only [mk_len, List.length_map]; omega) | decide) : wr P d sw_c596 sw_h596 (2, [r0, r1, vi x2], [], h, kc, ks) Q := by
  refine w_ld rfl rfl (Or.inl ⟨by decide, rfl⟩) ?_
  refine w_c32 rfl (by decide) 176 (by decide) ?_
  exact w_if2 rfl c1 (by decide) k1 k2

theorem k596_9 {P : s_P} {d : Nat} {Q : s_O → Prop} {h : s_H} {kc ks : Nat} {r0 r1 : Term} {x2 : Int}  (k1 : 176 ≤ x2 + 1 → wr P d sw_c596 sw_h596 (37, [r0, r1, vi x2], [vi x2, r0], h, kc, ks) Q) (k2 : ¬ 176 ≤ x2 + 1 → wr P d sw_c596 sw_h596 (20, [r0, r1, vi x2], [vi x2, r0], h, kc, ks) Q) (y1 : s_ty r0 = 3 := by first | rfl | assumption) (c2 : In3 (x2 + 1) := by first | omega | assumption | (simp only [mk_len, List.length_map]; omega) | decide) : wr P d sw_c596 sw_h596 (9, [r0, r1, vi x2], [], h, kc, ks) Q := by
  refine w_ld rfl rfl (Or.inr (Or.inr ⟨by decide, y1⟩)) ?_
  refine w_ld rfl rfl (Or.inl ⟨by decide, rfl⟩) ?_
  refine w_ld rfl rfl (Or.inl ⟨by decide, rfl⟩) ?_
  refine w_c32 rfl (by decide) 1 (by decide) ?_
  refine w_iadd rfl ?_
  refine w_c32 rfl (by decide) 176 (by decide) ?_
  exact w_if2 rfl c2 (by decide) k1 k2

theorem k596_20 {P : s_P} {d : Nat} {Q : s_O → Prop} {h : s_H} {kc ks : Nat} {r0 r1 : Term} {x2 : Int} {s0 : Term} {s1 : Int} {q2 : Nat} {a3 : List Int} (g4 : s_get h q2 = some (0, 1, a3.map vl)) (k : wr P d sw_c596 sw_h596 (38, [r0, .index q2, vi x2], [vl (Int.tmod ((gi a3 (x2 + 1)) * (x2 + 1)) 32003), vi s1, s0], h, kc, ks) Q) (e_q2 : r1 = .index q2 := by first | rfl | assumption) (y1 : s_ty r1 = 3 := by first | rfl | assumption) (c5 : x2 + 1 < a3.length := by first | omega | assumption | (simp only [mk_len, List.length_map]; omega) | decide) (c6 : 0 ≤ x2 + 1 := by first | omega | assumption | (simp only [mk_len, List.length_map]; omega) | decide) (c7 : In3 (x2 + 1) := by first | omega | assumption | (simp only [mk_len, List.length_map]; omega) | decide) (c8 : In6 ((gi a3 (x2 + 1)) * (x2 + 1)) := by first | omega | assumption | (simp only [mk_len, List.length_map]; omega) | decide) : wr P d sw_c596 sw_h596 (20, [r0, r1, vi x2], [vi s1, s0], h, kc, ks) Q := by
  refine w_ld rfl rfl (Or.inr (Or.inr ⟨by decide, y1⟩)) ?_
  refine w_ld rfl rfl (Or.inl ⟨by decide, rfl⟩) ?_
  refine w_c32 rfl (by decide) 1 (by decide) ?_
  refine w_iadd rfl ?_
  subst e_q2
  refine w_lald rfl g4 c7 c6 c5 ?_
  refine w_ld rfl rfl (Or.inl ⟨by decide, rfl⟩) ?_
  refine w_c32 rfl (by decide) 1 (by decide) ?_
  refine w_iadd rfl ?_
  refine w_i2l rfl c7 ?_
  refine w_lmul rfl ?_
  refine w_c64 rfl (by decide) 32003 (by decide) ?_
  refine w_lrem rfl c8 (by decide) (by decide) ?_
  refine w_goto rfl ?_
  exact k

theorem k596_37 {P : s_P} {d : Nat} {Q : s_O → Prop} {h : s_H} {kc ks : Nat} {r0 r1 : Term} {x2 : Int} {s0 : Term} {s1 : Int}  (k : wr P d sw_c596 sw_h596 (38, [r0, r1, vi x2], [vl 0, vi s1, s0], h, kc, ks) Q)   : wr P d sw_c596 sw_h596 (37, [r0, r1, vi x2], [vi s1, s0], h, kc, ks) Q := by
  refine w_c64 rfl (by decide) 0 (by decide) ?_
  exact k

theorem k596_38 {P : s_P} {d : Nat} {Q : s_O → Prop} {h : s_H} {kc ks : Nat} {r0 r1 : Term} {x2 : Int} {s0 : Term} {s1 s2 : Int} {q1 : Nat} {a2 : List Int} (g3 : s_get h q1 = some (0, 1, a2.map vl)) (k : wr P d sw_c596 sw_h596 (2, [r0, r1, vi (x2 + 1)], [], (hp h q1 (0, 1, (a2.set (Int.toNat (s1)) s2).map vl)), kc, ks) Q) (e_q1 : s0 = .index q1 := by first | rfl | assumption) (y8 : s_ty r1 = 3 := by first | rfl | assumption) (c4 : s1 < a2.length := by first | omega | assumption | (simp only [mk_len, List.length_map]; omega) | decide) (c5 : 0 ≤ s1 := by first | omega | assumption | (simp only [mk_len, List.length_map]; omega) | decide) (c6 : In3 s1 := by first | omega | assumption | (simp only [mk_len, List.length_map]; omega) | decide) (c7 : 0 < q1 := by first | omega | assumption | (simp only [mk_len, List.length_map]; omega) | decide) : wr P d sw_c596 sw_h596 (38, [r0, r1, vi x2], [vl s2, vi s1, s0], h, kc, ks) Q := by
  subst e_q1
  refine w_last rfl g3 (Nat.ble_eq_true_of_le c7) c6 c5 c4 ?_
  refine w_iinc (ls' := [r0, r1, vi (x2 + 1)]) rfl rfl 1 (by decide) (s_stK_r (pre := [r0]) y8) ?_
  refine w_goto rfl ?_
  exact k

theorem k596_45 {P : s_P} {d : Nat} {Q : s_O → Prop} {h : s_H} {kc ks : Nat} {r0 r1 : Term} {x2 : Int}  (k : Q (.inl none, h, kc, ks))   : wr P d sw_c596 sw_h596 (45, [r0, r1, vi x2], [], h, kc, ks) Q := by
  exact w_ret rfl k

/-! 597: FormulaWorksModel.solved(II)I -/
theorem k597_0 {P : s_P} {d : Nat} {Q : s_O → Prop} {h : s_H} {kc ks : Nat} {r0 : Term} {x1 x2 : Int} {t3 t4 t5 : Term} {q2 : Nat} {f3 : List Term} (g4 : s_get h q2 = some (1, 11, f3)) (k : wm P d 481 [.index q2, vi x1, vi 2] h (wq P d sw_c597 sw_h597 6 [.index q2, vi x1, vi x2, t3, t4, t5] [] kc ks Q)) (e_q2 : r0 = .index q2 := by first | rfl | assumption) (y1 : s_ty r0 = 3 := by first | rfl | assumption)  : wr P d sw_c597 sw_h597 (0, [r0, vi x1, vi x2, t3, t4, t5], [], h, kc, ks) Q := by
  refine w_ld rfl rfl (Or.inr (Or.inr ⟨by decide, y1⟩)) ?_
  refine w_ld rfl rfl (Or.inl ⟨by decide, rfl⟩) ?_
  refine w_c32 rfl (by decide) 2 (by decide) ?_
  subst e_q2
  exact w_cv rfl [.index q2, vi x1, vi 2] [] rfl rfl (s_wt_4 rfl) rfl g4 k

theorem k597_6 {P : s_P} {d : Nat} {Q : s_O → Prop} {h : s_H} {kc ks : Nat} {r0 : Term} {x1 x2 : Int} {t3 t4 t5 : Term} {s0 : Int}  (k1 : s0 ≠ 0 → wr P d sw_c597 sw_h597 (11, [r0, vi x1, vi x2, t3, t4, t5], [], h, kc, ks) Q) (k2 : ¬ s0 ≠ 0 → wr P d sw_c597 sw_h597 (9, [r0, vi x1, vi x2, t3, t4, t5], [], h, kc, ks) Q)  (c1 : In3 s0 := by first | omega | assumption | (simp only [mk_len, List.length_map]; omega) | decide) : wr P d sw_c597 sw_h597 (6, [r0, vi x1, vi x2, t3, t4, t5], [vi s0], h, kc, ks) Q := by
  exact w_if1 rfl c1 k1 k2

theorem k597_9 {P : s_P} {d : Nat} {Q : s_O → Prop} {h : s_H} {kc ks : Nat} {r0 : Term} {x1 x2 : Int} {t3 t4 t5 : Term}  (k : Q (.inl (some (vi 0)), h, kc, ks))   : wr P d sw_c597 sw_h597 (9, [r0, vi x1, vi x2, t3, t4, t5], [], h, kc, ks) Q := by
  refine w_c32 rfl (by decide) 0 (by decide) ?_
  exact w_iret rfl k

theorem k597_11 {P : s_P} {d : Nat} {Q : s_O → Prop} {h : s_H} {kc ks : Nat} {r0 : Term} {x1 x2 : Int} {t3 t4 t5 : Term} {q2 : Nat} {f3 : List Term} {v5 : Term} {q7 : Nat} {a8 : List Int} (g4 : s_get h q2 = some (1, 11, f3)) (g9 : s_get h q7 = some (0, 0, a8.map vi)) (k : wm P d 464 [vl x2, vl 0, vl (((gi a8 x1) - 1) - 1)] h (wq P d sw_c597 sw_h597 30 [.index q2, vi x1, vi x2, vi ((gi a8 x1) - 1), t4, t5] [] kc ks Q)) (e_q2 : r0 = .index q2 := by first | rfl | assumption) (e_q7 : v5 = .index q7 := by first | rfl | assumption) (y1 : s_ty r0 = 3 := by first | rfl | assumption) (n6 : s_nth f3 6 = some v5 := by first | rfl | assumption) (c10 : x1 < a8.length := by first | omega | assumption | (simp only [mk_len, List.length_map]; omega) | decide) (c11 : 0 ≤ x1 := by first | omega | assumption | (simp only [mk_len, List.length_map]; omega) | decide) (c12 : In3 x1 := by first | omega | assumption | (simp only [mk_len, List.length_map]; omega) | decide) (c13 : In3 x2 := by first | omega | assumption | (simp only [mk_len, List.length_map]; omega) | decide) (c14 : In3 (((gi a8 x1) - 1) - 1) := by first | omega | assumption | (simp only [mk_len, List.length_map]; omega) | decide) : wr P d sw_c597 sw_h597 (11, [r0, vi x1, vi x2, t3, t4, t5], [], h, kc, ks) Q := by
  refine w_ld rfl rfl (Or.inr (Or.inr ⟨by decide, y1⟩)) ?_
  subst e_q2
  refine w_getf rfl g4 n6 ?_
  refine w_ld rfl rfl (Or.inl ⟨by decide, rfl⟩) ?_
  subst e_q7
  refine w_iald rfl g9 (Or.inl rfl) c12 c11 c10 ?_
  refine w_c32 rfl (by decide) 1 (by decide) ?_
  refine w_isub rfl ?_
  refine w_st (ls' := [.index q2, vi x1, vi x2, vi ((gi a8 x1) - 1), t4, t5]) rfl (Or.inl ⟨by decide, rfl⟩) rfl ?_
  refine w_ld rfl rfl (Or.inl ⟨by decide, rfl⟩) ?_
  refine w_i2l rfl c13 ?_
  refine w_c64 rfl (by decide) 0 (by decide) ?_
  refine w_ld rfl rfl (Or.inl ⟨by decide, rfl⟩) ?_
  refine w_c32 rfl (by decide) 1 (by decide) ?_
  refine w_isub rfl ?_
  refine w_i2l rfl c14 ?_
  exact w_cs rfl [vl x2, vl 0, vl (((gi a8 x1) - 1) - 1)] [] rfl rfl (s_wt_4 rfl) k

theorem k597_30 {P : s_P} {d : Nat} {Q : s_O → Prop} {h : s_H} {kc ks : Nat} {r0 : Term} {x1 x2 x3 : Int} {t4 t5 : Term} {s0 : Int}  (k1 : s0 ≠ 0 → wr P d sw_c597 sw_h597 (39, [r0, vi x1, vi x2, vi x3, t4, t5], [], h, kc, ks) Q) (k2 : ¬ s0 ≠ 0 → wr P d sw_c597 sw_h597 (33, [r0, vi x1, vi x2, vi x3, t4, t5], [], h, kc, ks) Q)  (c1 : In3 s0 := by first | omega | assumption | (simp only [mk_len, List.length_map]; omega) | decide) : wr P d sw_c597 sw_h597 (30, [r0, vi x1, vi x2, vi x3, t4, t5], [vi s0], h, kc, ks) Q := by
  exact w_if1 rfl c1 k1 k2

theorem k597_33 {P : s_P} {d : Nat} {Q : s_O → Prop} {h : s_H} {kc ks : Nat} {r0 : Term} {x1 x2 x3 : Int} {t4 t5 : Term} {q2 : Nat} {f3 : List Term} (g4 : s_get h q2 = some (1, 11, f3)) (k : wm P d 570 [.index q2, vi 1] h (wq P d sw_c597 sw_h597 38 [.index q2, vi x1, vi x2, vi x3, t4, t5] [] kc ks Q)) (e_q2 : r0 = .index q2 := by first | rfl | assumption) (y1 : s_ty r0 = 3 := by first | rfl | assumption)  : wr P d sw_c597 sw_h597 (33, [r0, vi x1, vi x2, vi x3, t4, t5], [], h, kc, ks) Q := by
  refine w_ld rfl rfl (Or.inr (Or.inr ⟨by decide, y1⟩)) ?_
  refine w_c32 rfl (by decide) 1 (by decide) ?_
  subst e_q2
  exact w_cv rfl [.index q2, vi 1] [] rfl rfl (s_wt_4 rfl) rfl g4 k

theorem k597_38 {P : s_P} {d : Nat} {Q : s_O → Prop} {h : s_H} {kc ks : Nat} {r0 : Term} {x1 x2 x3 : Int} {t4 t5 : Term} {s0 : Int}  (k : Q (.inl (some (vi s0)), h, kc, ks))   : wr P d sw_c597 sw_h597 (38, [r0, vi x1, vi x2, vi x3, t4, t5], [vi s0], h, kc, ks) Q := by
  exact w_iret rfl k

theorem k597_39 {P : s_P} {d : Nat} {Q : s_O → Prop} {h : s_H} {kc ks : Nat} {r0 : Term} {x1 x2 x3 : Int} {t4 t5 : Term} {q2 : Nat} {f3 : List Term} {z5 : Int} (g4 : s_get h q2 = some (1, 11, f3)) (k1 : z5 ≠ 150 → wr P d sw_c597 sw_h597 (55, [.index q2, vi x1, vi x2, vi x3, t4, t5], [], h, kc, ks) Q) (k2 : ¬ z5 ≠ 150 → wr P d sw_c597 sw_h597 (49, [.index q2, vi x1, vi x2, vi x3, t4, t5], [], h, kc, ks) Q) (e_q2 : r0 = .index q2 := by first | rfl | assumption) (y1 : s_ty r0 = 3 := by first | rfl | assumption) (n6 : s_nth f3 1 = some (vi z5) := by first | rfl | assumption) (c7 : In3 z5 := by first | omega | assumption | (simp only [mk_len, List.length_map]; omega) | decide) : wr P d sw_c597 sw_h597 (39, [r0, vi x1, vi x2, vi x3, t4, t5], [], h, kc, ks) Q := by
  refine w_ld rfl rfl (Or.inr (Or.inr ⟨by decide, y1⟩)) ?_
  subst e_q2
  refine w_getf rfl g4 n6 ?_
  refine w_c32 rfl (by decide) 150 (by decide) ?_
  exact w_if2 rfl c7 (by decide) k1 k2

theorem k597_49 {P : s_P} {d : Nat} {Q : s_O → Prop} {h : s_H} {kc ks : Nat} {r0 : Term} {x1 x2 x3 : Int} {t4 t5 : Term} {q2 : Nat} {f3 : List Term} (g4 : s_get h q2 = some (1, 11, f3)) (k : wm P d 570 [.index q2, vi 3] h (wq P d sw_c597 sw_h597 54 [.index q2, vi x1, vi x2, vi x3, t4, t5] [] kc ks Q)) (e_q2 : r0 = .index q2 := by first | rfl | assumption) (y1 : s_ty r0 = 3 := by first | rfl | assumption)  : wr P d sw_c597 sw_h597 (49, [r0, vi x1, vi x2, vi x3, t4, t5], [], h, kc, ks) Q := by
  refine w_ld rfl rfl (Or.inr (Or.inr ⟨by decide, y1⟩)) ?_
  refine w_c32 rfl (by decide) 3 (by decide) ?_
  subst e_q2
  exact w_cv rfl [.index q2, vi 3] [] rfl rfl (s_wt_4 rfl) rfl g4 k

theorem k597_54 {P : s_P} {d : Nat} {Q : s_O → Prop} {h : s_H} {kc ks : Nat} {r0 : Term} {x1 x2 x3 : Int} {t4 t5 : Term} {s0 : Int}  (k : Q (.inl (some (vi s0)), h, kc, ks))   : wr P d sw_c597 sw_h597 (54, [r0, vi x1, vi x2, vi x3, t4, t5], [vi s0], h, kc, ks) Q := by
  exact w_iret rfl k

theorem k597_55 {P : s_P} {d : Nat} {Q : s_O → Prop} {h : s_H} {kc ks : Nat} {r0 : Term} {x1 x2 x3 : Int} {t4 t5 : Term} {q2 : Nat} {f3 : List Term} (g4 : s_get h q2 = some (1, 11, f3)) (k : wm P d 453 [.index q2, vi x1] h (wq P d sw_c597 sw_h597 60 [.index q2, vi x1, vi x2, vi x3, t4, t5] [] kc ks Q)) (e_q2 : r0 = .index q2 := by first | rfl | assumption) (y1 : s_ty r0 = 3 := by first | rfl | assumption)  : wr P d sw_c597 sw_h597 (55, [r0, vi x1, vi x2, vi x3, t4, t5], [], h, kc, ks) Q := by
  refine w_ld rfl rfl (Or.inr (Or.inr ⟨by decide, y1⟩)) ?_
  refine w_ld rfl rfl (Or.inl ⟨by decide, rfl⟩) ?_
  subst e_q2
  exact w_cv rfl [.index q2, vi x1] [] rfl rfl (s_wt_4 rfl) rfl g4 k

theorem k597_60 {P : s_P} {d : Nat} {Q : s_O → Prop} {h : s_H} {kc ks : Nat} {r0 : Term} {x1 x2 x3 : Int} {t4 t5 : Term}  (k : wr P d sw_c597 sw_h597 (66, [r0, vi x1, vi x2, vi x3, vi 0, vi 0], [], h, kc, ks) Q)   : wr P d sw_c597 sw_h597 (60, [r0, vi x1, vi x2, vi x3, t4, t5], [], h, kc, ks) Q := by
  refine w_c32 rfl (by decide) 0 (by decide) ?_
  refine w_st (ls' := [r0, vi x1, vi x2, vi x3, vi 0, t5]) rfl (Or.inl ⟨by decide, rfl⟩) rfl ?_
  refine w_c32 rfl (by decide) 0 (by decide) ?_
  refine w_st (ls' := [r0, vi x1, vi x2, vi x3, vi 0, vi 0]) rfl (Or.inl ⟨by decide, rfl⟩) rfl ?_
  exact k

theorem k597_66 {P : s_P} {d : Nat} {Q : s_O → Prop} {h : s_H} {kc ks : Nat} {r0 : Term} {x1 x2 x3 x4 x5 : Int}  (k1 : x3 ≤ x5 → wr P d sw_c597 sw_h597 (107, [r0, vi x1, vi x2, vi x3, vi x4, vi x5], [], h, kc, ks) Q) (k2 : ¬ x3 ≤ x5 → wr P d sw_c597 sw_h597 (72, [r0, vi x1, vi x2, vi x3, vi x4, vi x5], [], h, kc, ks) Q)  (c1 : In3 x5 := by first | omega | assumption | (simp only [mk_len, List.length_map]; omega) | decide) (c2 : In3 x3 := by first | omega | assumption | (simp only [mk_len, List.length_map]; omega) | decide) : wr P d sw_c597 sw_h597 (66, [r0, vi x1, vi x2, vi x3, vi x4, vi x5], [], h, kc, ks) Q := by
  refine w_ld rfl rfl (Or.inl ⟨by decide, rfl⟩) ?_
  refine w_ld rfl rfl (Or.inl ⟨by decide, rfl⟩) ?_
  exact w_if2 rfl c1 c2 k1 k2

theorem k597_72 {P : s_P} {d : Nat} {Q : s_O → Prop} {h : s_H} {kc ks : Nat} {r0 : Term} {x1 x2 x3 x4 x5 : Int} {q2 : Nat} {f3 : List Term} (g4 : s_get h q2 = some (1, 11, f3)) (k : wm P d 588 [.index q2, vi x1, vi (x4 + (zi 27 1 x5))] h (wq P d sw_c597 sw_h597 86 [.index q2, vi x1, vi x2, vi x3, vi x4, vi x5] [vi x4] kc ks Q)) (e_q2 : r0 = .index q2 := by first | rfl | assumption) (y1 : s_ty r0 = 3 := by first | rfl | assumption)  : wr P d sw_c597 sw_h597 (72, [r0, vi x1, vi x2, vi x3, vi x4, vi x5], [], h, kc, ks) Q := by
  refine w_ld rfl rfl (Or.inl ⟨by decide, rfl⟩) ?_
  refine w_ld rfl rfl (Or.inr (Or.inr ⟨by decide, y1⟩)) ?_
  refine w_ld rfl rfl (Or.inl ⟨by decide, rfl⟩) ?_
  refine w_ld rfl rfl (Or.inl ⟨by decide, rfl⟩) ?_
  refine w_c32 rfl (by decide) 1 (by decide) ?_
  refine w_ld rfl rfl (Or.inl ⟨by decide, rfl⟩) ?_
  refine w_ib rfl (by decide) ?_
  refine w_iadd rfl ?_
  subst e_q2
  exact w_cv rfl [.index q2, vi x1, vi (x4 + (zi 27 1 x5))] [vi x4] rfl rfl (s_wt_4 rfl) rfl g4 k

theorem k597_86 {P : s_P} {d : Nat} {Q : s_O → Prop} {h : s_H} {kc ks : Nat} {r0 : Term} {x1 x2 x3 x4 x5 s0 s1 : Int}  (k1 : s1 = (-1) → wr P d sw_c597 sw_h597 (97, [r0, vi x1, vi x2, vi x3, vi x4, vi x5], [vi s0], h, kc, ks) Q) (k2 : ¬ s1 = (-1) → wr P d sw_c597 sw_h597 (90, [r0, vi x1, vi x2, vi x3, vi x4, vi x5], [vi s0], h, kc, ks) Q)  (c1 : In3 s1 := by first | omega | assumption | (simp only [mk_len, List.length_map]; omega) | decide) : wr P d sw_c597 sw_h597 (86, [r0, vi x1, vi x2, vi x3, vi x4, vi x5], [vi s1, vi s0], h, kc, ks) Q := by
  refine w_c32 rfl (by decide) (-1) (by decide) ?_
  exact w_if2 rfl c1 (by decide) k1 k2

theorem k597_90 {P : s_P} {d : Nat} {Q : s_O → Prop} {h : s_H} {kc ks : Nat} {r0 : Term} {x1 x2 x3 x4 x5 s0 : Int}  (k : wr P d sw_c597 sw_h597 (98, [r0, vi x1, vi x2, vi x3, vi x4, vi x5], [vi (zi 27 1 x5), vi s0], h, kc, ks) Q)   : wr P d sw_c597 sw_h597 (90, [r0, vi x1, vi x2, vi x3, vi x4, vi x5], [vi s0], h, kc, ks) Q := by
  refine w_c32 rfl (by decide) 1 (by decide) ?_
  refine w_ld rfl rfl (Or.inl ⟨by decide, rfl⟩) ?_
  refine w_ib rfl (by decide) ?_
  refine w_goto rfl ?_
  exact k

theorem k597_97 {P : s_P} {d : Nat} {Q : s_O → Prop} {h : s_H} {kc ks : Nat} {r0 : Term} {x1 x2 x3 x4 x5 s0 : Int}  (k : wr P d sw_c597 sw_h597 (98, [r0, vi x1, vi x2, vi x3, vi x4, vi x5], [vi 0, vi s0], h, kc, ks) Q)   : wr P d sw_c597 sw_h597 (97, [r0, vi x1, vi x2, vi x3, vi x4, vi x5], [vi s0], h, kc, ks) Q := by
  refine w_c32 rfl (by decide) 0 (by decide) ?_
  exact k

theorem k597_98 {P : s_P} {d : Nat} {Q : s_O → Prop} {h : s_H} {kc ks : Nat} {r0 : Term} {x1 x2 x3 x4 x5 s0 s1 : Int}  (k : wr P d sw_c597 sw_h597 (66, [r0, vi x1, vi x2, vi x3, vi (s0 + s1), vi (x5 + 1)], [], h, kc, ks) Q)   : wr P d sw_c597 sw_h597 (98, [r0, vi x1, vi x2, vi x3, vi x4, vi x5], [vi s1, vi s0], h, kc, ks) Q := by
  refine w_iadd rfl ?_
  refine w_st (ls' := [r0, vi x1, vi x2, vi x3, vi (s0 + s1), vi x5]) rfl (Or.inl ⟨by decide, rfl⟩) rfl ?_
  refine w_iinc (ls' := [r0, vi x1, vi x2, vi x3, vi (s0 + s1), vi (x5 + 1)]) rfl rfl 1 (by decide) rfl ?_
  refine w_goto rfl ?_
  exact k

theorem k597_107 {P : s_P} {d : Nat} {Q : s_O → Prop} {h : s_H} {kc ks : Nat} {r0 : Term} {x1 x2 x3 x4 x5 : Int} {q2 : Nat} {f3 : List Term} (g4 : s_get h q2 = some (1, 11, f3)) (k : wm P d 588 [.index q2, vi x1, vi (x4 + (zi 27 1 x3))] h (wq P d sw_c597 sw_h597 118 [.index q2, vi x1, vi x2, vi x3, vi x4, vi x5] [] kc ks Q)) (e_q2 : r0 = .index q2 := by first | rfl | assumption) (y1 : s_ty r0 = 3 := by first | rfl | assumption)  : wr P d sw_c597 sw_h597 (107, [r0, vi x1, vi x2, vi x3, vi x4, vi x5], [], h, kc, ks) Q := by
  refine w_ld rfl rfl (Or.inr (Or.inr ⟨by decide, y1⟩)) ?_
  refine w_ld rfl rfl (Or.inl ⟨by decide, rfl⟩) ?_
  refine w_ld rfl rfl (Or.inl ⟨by decide, rfl⟩) ?_
  refine w_c32 rfl (by decide) 1 (by decide) ?_
  refine w_ld rfl rfl (Or.inl ⟨by decide, rfl⟩) ?_
  refine w_ib rfl (by decide) ?_
  refine w_iadd rfl ?_
  subst e_q2
  exact w_cv rfl [.index q2, vi x1, vi (x4 + (zi 27 1 x3))] [] rfl rfl (s_wt_4 rfl) rfl g4 k

theorem k597_118 {P : s_P} {d : Nat} {Q : s_O → Prop} {h : s_H} {kc ks : Nat} {r0 : Term} {x1 x2 x3 x4 x5 s0 : Int}  (k1 : s0 = (-1) → wr P d sw_c597 sw_h597 (124, [r0, vi x1, vi x2, vi x3, vi x4, vi x5], [], h, kc, ks) Q) (k2 : ¬ s0 = (-1) → wr P d sw_c597 sw_h597 (122, [r0, vi x1, vi x2, vi x3, vi x4, vi x5], [], h, kc, ks) Q)  (c1 : In3 s0 := by first | omega | assumption | (simp only [mk_len, List.length_map]; omega) | decide) : wr P d sw_c597 sw_h597 (118, [r0, vi x1, vi x2, vi x3, vi x4, vi x5], [vi s0], h, kc, ks) Q := by
  refine w_c32 rfl (by decide) (-1) (by decide) ?_
  exact w_if2 rfl c1 (by decide) k1 k2

theorem k597_122 {P : s_P} {d : Nat} {Q : s_O → Prop} {h : s_H} {kc ks : Nat} {r0 : Term} {x1 x2 x3 x4 x5 : Int}  (k : Q (.inl (some (vi (-1))), h, kc, ks))   : wr P d sw_c597 sw_h597 (122, [r0, vi x1, vi x2, vi x3, vi x4, vi x5], [], h, kc, ks) Q := by
  refine w_c32 rfl (by decide) (-1) (by decide) ?_
  exact w_iret rfl k

theorem k597_124 {P : s_P} {d : Nat} {Q : s_O → Prop} {h : s_H} {kc ks : Nat} {r0 : Term} {x1 x2 x3 x4 x5 : Int} {q2 : Nat} {f3 : List Term} {v5 : Term} (g4 : s_get h q2 = some (1, 11, f3)) (k : wm P d 438 [v5] h (wq P d sw_c597 sw_h597 131 [.index q2, vi x1, vi x2, vi x3, vi x4, vi x5] [] kc ks Q)) (e_q2 : r0 = .index q2 := by first | rfl | assumption) (y1 : s_ty r0 = 3 := by first | rfl | assumption) (n6 : s_nth f3 14 = some v5 := by first | rfl | assumption)  : wr P d sw_c597 sw_h597 (124, [r0, vi x1, vi x2, vi x3, vi x4, vi x5], [], h, kc, ks) Q := by
  refine w_ld rfl rfl (Or.inr (Or.inr ⟨by decide, y1⟩)) ?_
  subst e_q2
  refine w_getf rfl g4 n6 ?_
  exact w_cs rfl [v5] [] rfl rfl (s_wt_4 rfl) k

theorem k597_131 {P : s_P} {d : Nat} {Q : s_O → Prop} {h : s_H} {kc ks : Nat} {r0 : Term} {x1 x2 x3 x4 x5 : Int} {q2 : Nat} {f3 : List Term} {v5 : Term} (g4 : s_get h q2 = some (1, 11, f3)) (k : wm P d 405 [v5, vl 1] h (wq P d sw_c597 sw_h597 139 [.index q2, vi x1, vi x2, vi x3, vi x4, vi x5] [] kc ks Q)) (e_q2 : r0 = .index q2 := by first | rfl | assumption) (y1 : s_ty r0 = 3 := by first | rfl | assumption) (n6 : s_nth f3 15 = some v5 := by first | rfl | assumption)  : wr P d sw_c597 sw_h597 (131, [r0, vi x1, vi x2, vi x3, vi x4, vi x5], [], h, kc, ks) Q := by
  refine w_ld rfl rfl (Or.inr (Or.inr ⟨by decide, y1⟩)) ?_
  subst e_q2
  refine w_getf rfl g4 n6 ?_
  refine w_c64 rfl (by decide) 1 (by decide) ?_
  exact w_cs rfl [v5, vl 1] [] rfl rfl (s_wt_4 rfl) k

theorem k597_139 {P : s_P} {d : Nat} {Q : s_O → Prop} {h : s_H} {kc ks : Nat} {r0 : Term} {x1 x2 x3 x4 x5 : Int}  (k1 : zi 24 (zi 28 x4 x2) 1 ≠ 0 → wr P d sw_c597 sw_h597 (154, [r0, vi x1, vi x2, vi x3, vi x4, vi x5], [], h, kc, ks) Q) (k2 : ¬ zi 24 (zi 28 x4 x2) 1 ≠ 0 → wr P d sw_c597 sw_h597 (148, [r0, vi x1, vi x2, vi x3, vi x4, vi x5], [], h, kc, ks) Q)  (c1 : In3 (zi 24 (zi 28 x4 x2) 1) := by first | omega | assumption | (simp only [mk_len, List.length_map]; omega) | decide) : wr P d sw_c597 sw_h597 (139, [r0, vi x1, vi x2, vi x3, vi x4, vi x5], [], h, kc, ks) Q := by
  refine w_ld rfl rfl (Or.inl ⟨by decide, rfl⟩) ?_
  refine w_ld rfl rfl (Or.inl ⟨by decide, rfl⟩) ?_
  refine w_ib rfl (by decide) ?_
  refine w_c32 rfl (by decide) 1 (by decide) ?_
  refine w_ib rfl (by decide) ?_
  exact w_if1 rfl c1 k1 k2

theorem k597_148 {P : s_P} {d : Nat} {Q : s_O → Prop} {h : s_H} {kc ks : Nat} {r0 : Term} {x1 x2 x3 x4 x5 : Int} {q2 : Nat} {f3 : List Term} (g4 : s_get h q2 = some (1, 11, f3)) (k : wm P d 495 [.index q2, vi 3] h (wq P d sw_c597 sw_h597 153 [.index q2, vi x1, vi x2, vi x3, vi x4, vi x5] [] kc ks Q)) (e_q2 : r0 = .index q2 := by first | rfl | assumption) (y1 : s_ty r0 = 3 := by first | rfl | assumption)  : wr P d sw_c597 sw_h597 (148, [r0, vi x1, vi x2, vi x3, vi x4, vi x5], [], h, kc, ks) Q := by
  refine w_ld rfl rfl (Or.inr (Or.inr ⟨by decide, y1⟩)) ?_
  refine w_c32 rfl (by decide) 3 (by decide) ?_
  subst e_q2
  exact w_cv rfl [.index q2, vi 3] [] rfl rfl (s_wt_4 rfl) rfl g4 k

theorem k597_153 {P : s_P} {d : Nat} {Q : s_O → Prop} {h : s_H} {kc ks : Nat} {r0 : Term} {x1 x2 x3 x4 x5 s0 : Int}  (k : Q (.inl (some (vi s0)), h, kc, ks))   : wr P d sw_c597 sw_h597 (153, [r0, vi x1, vi x2, vi x3, vi x4, vi x5], [vi s0], h, kc, ks) Q := by
  exact w_iret rfl k

theorem k597_154 {P : s_P} {d : Nat} {Q : s_O → Prop} {h : s_H} {kc ks : Nat} {r0 : Term} {x1 x2 x3 x4 x5 : Int} {q2 : Nat} {f3 : List Term} (g4 : s_get h q2 = some (1, 11, f3)) (k : wm P d 588 [.index q2, vi x1, vi x4] h (wq P d sw_c597 sw_h597 161 [.index q2, vi x1, vi x2, vi x3, vi x4, vi x5] [] kc ks Q)) (e_q2 : r0 = .index q2 := by first | rfl | assumption) (y1 : s_ty r0 = 3 := by first | rfl | assumption)  : wr P d sw_c597 sw_h597 (154, [r0, vi x1, vi x2, vi x3, vi x4, vi x5], [], h, kc, ks) Q := by
  refine w_ld rfl rfl (Or.inr (Or.inr ⟨by decide, y1⟩)) ?_
  refine w_ld rfl rfl (Or.inl ⟨by decide, rfl⟩) ?_
  refine w_ld rfl rfl (Or.inl ⟨by decide, rfl⟩) ?_
  subst e_q2
  exact w_cv rfl [.index q2, vi x1, vi x4] [] rfl rfl (s_wt_4 rfl) rfl g4 k

theorem k597_161 {P : s_P} {d : Nat} {Q : s_O → Prop} {h : s_H} {kc ks : Nat} {r0 : Term} {x1 x2 x3 x4 x5 s0 : Int} {q2 : Nat} {f3 : List Term} {v5 : Term} (g4 : s_get h q2 = some (1, 11, f3)) (k : wm P d 510 [.index q2, v5, vi s0, vi x4] h (wq P d sw_c597 sw_h597 175 [.index q2, vi x1, vi x2, vi x3, vi x4, vi s0] [] kc ks Q)) (e_q2 : r0 = .index q2 := by first | rfl | assumption) (y1 : s_ty r0 = 3 := by first | rfl | assumption) (n6 : s_nth f3 15 = some v5 := by first | rfl | assumption)  : wr P d sw_c597 sw_h597 (161, [r0, vi x1, vi x2, vi x3, vi x4, vi x5], [vi s0], h, kc, ks) Q := by
  refine w_st (ls' := [r0, vi x1, vi x2, vi x3, vi x4, vi s0]) rfl (Or.inl ⟨by decide, rfl⟩) rfl ?_
  refine w_ld rfl rfl (Or.inr (Or.inr ⟨by decide, y1⟩)) ?_
  refine w_ld rfl rfl (Or.inr (Or.inr ⟨by decide, y1⟩)) ?_
  subst e_q2
  refine w_getf rfl g4 n6 ?_
  refine w_ld rfl rfl (Or.inl ⟨by decide, rfl⟩) ?_
  refine w_ld rfl rfl (Or.inl ⟨by decide, rfl⟩) ?_
  exact w_cv rfl [.index q2, v5, vi s0, vi x4] [] rfl rfl (s_wt_4 rfl) rfl g4 k

theorem k597_175 {P : s_P} {d : Nat} {Q : s_O → Prop} {h : s_H} {kc ks : Nat} {r0 : Term} {x1 x2 x3 x4 x5 : Int} {q2 : Nat} {f3 : List Term} {v5 : Term} (g4 : s_get h q2 = some (1, 11, f3)) (k : wm P d 510 [.index q2, v5, vi x5, vi ((x4 - (zi 27 1 x2)) + (zi 27 1 x3))] h (wq P d sw_c597 sw_h597 195 [.index q2, vi x1, vi x2, vi x3, vi x4, vi x5] [] kc ks Q)) (e_q2 : r0 = .index q2 := by first | rfl | assumption) (y1 : s_ty r0 = 3 := by first | rfl | assumption) (n6 : s_nth f3 14 = some v5 := by first | rfl | assumption)  : wr P d sw_c597 sw_h597 (175, [r0, vi x1, vi x2, vi x3, vi x4, vi x5], [], h, kc, ks) Q := by
  refine w_ld rfl rfl (Or.inr (Or.inr ⟨by decide, y1⟩)) ?_
  refine w_ld rfl rfl (Or.inr (Or.inr ⟨by decide, y1⟩)) ?_
  subst e_q2
  refine w_getf rfl g4 n6 ?_
  refine w_ld rfl rfl (Or.inl ⟨by decide, rfl⟩) ?_
  refine w_ld rfl rfl (Or.inl ⟨by decide, rfl⟩) ?_
  refine w_c32 rfl (by decide) 1 (by decide) ?_
  refine w_ld rfl rfl (Or.inl ⟨by decide, rfl⟩) ?_
  refine w_ib rfl (by decide) ?_
  refine w_isub rfl ?_
  refine w_c32 rfl (by decide) 1 (by decide) ?_
  refine w_ld rfl rfl (Or.inl ⟨by decide, rfl⟩) ?_
  refine w_ib rfl (by decide) ?_
  refine w_iadd rfl ?_
  exact w_cv rfl [.index q2, v5, vi x5, vi ((x4 - (zi 27 1 x2)) + (zi 27 1 x3))] [] rfl rfl (s_wt_4 rfl) rfl g4 k

theorem k597_195 {P : s_P} {d : Nat} {Q : s_O → Prop} {h : s_H} {kc ks : Nat} {r0 : Term} {x1 x2 x3 x4 x5 : Int}  (k : wm P d 408 [vi (zi 28 x4 (x2 + 1))] h (wq P d sw_c597 sw_h597 204 [r0, vi x1, vi x2, vi x3, vi x4, vi x5] [] kc ks Q))   : wr P d sw_c597 sw_h597 (195, [r0, vi x1, vi x2, vi x3, vi x4, vi x5], [], h, kc, ks) Q := by
  refine w_ld rfl rfl (Or.inl ⟨by decide, rfl⟩) ?_
  refine w_ld rfl rfl (Or.inl ⟨by decide, rfl⟩) ?_
  refine w_c32 rfl (by decide) 1 (by decide) ?_
  refine w_iadd rfl ?_
  refine w_ib rfl (by decide) ?_
  exact w_cs rfl [vi (zi 28 x4 (x2 + 1))] [] rfl rfl (s_wt_4 rfl) k

theorem k597_204 {P : s_P} {d : Nat} {Q : s_O → Prop} {h : s_H} {kc ks : Nat} {r0 : Term} {x1 x2 x3 x4 x5 s0 : Int}  (k1 : Int.tmod s0 2 ≠ 1 → wr P d sw_c597 sw_h597 (220, [r0, vi x1, vi x2, vi x3, vi x4, vi x5], [], h, kc, ks) Q) (k2 : ¬ Int.tmod s0 2 ≠ 1 → wr P d sw_c597 sw_h597 (210, [r0, vi x1, vi x2, vi x3, vi x4, vi x5], [], h, kc, ks) Q)  (c1 : In3 s0 := by first | omega | assumption | (simp only [mk_len, List.length_map]; omega) | decide) (c2 : In3 (Int.tmod s0 2) := by first | omega | assumption | (simp only [mk_len, List.length_map]; omega) | decide) : wr P d sw_c597 sw_h597 (204, [r0, vi x1, vi x2, vi x3, vi x4, vi x5], [vi s0], h, kc, ks) Q := by
  refine w_c32 rfl (by decide) 2 (by decide) ?_
  refine w_irem rfl c1 (by decide) (by decide) ?_
  refine w_c32 rfl (by decide) 1 (by decide) ?_
  exact w_if2 rfl c2 (by decide) k1 k2

theorem k597_210 {P : s_P} {d : Nat} {Q : s_O → Prop} {h : s_H} {kc ks : Nat} {r0 : Term} {x1 x2 x3 x4 x5 : Int} {q2 : Nat} {f3 : List Term} {v5 : Term} (g4 : s_get h q2 = some (1, 11, f3)) (k : wm P d 592 [v5, vl 32002] h (wq P d sw_c597 sw_h597 220 [.index q2, vi x1, vi x2, vi x3, vi x4, vi x5] [] kc ks Q)) (e_q2 : r0 = .index q2 := by first | rfl | assumption) (y1 : s_ty r0 = 3 := by first | rfl | assumption) (n6 : s_nth f3 14 = some v5 := by first | rfl | assumption)  : wr P d sw_c597 sw_h597 (210, [r0, vi x1, vi x2, vi x3, vi x4, vi x5], [], h, kc, ks) Q := by
  refine w_ld rfl rfl (Or.inr (Or.inr ⟨by decide, y1⟩)) ?_
  subst e_q2
  refine w_getf rfl g4 n6 ?_
  refine w_c64 rfl (by decide) 32002 (by decide) ?_
  exact w_cs rfl [v5, vl 32002] [] rfl rfl (s_wt_4 rfl) k

theorem k597_220 {P : s_P} {d : Nat} {Q : s_O → Prop} {h : s_H} {kc ks : Nat} {r0 : Term} {x1 x2 x3 x4 x5 : Int} {q2 : Nat} {f3 : List Term} (g4 : s_get h q2 = some (1, 11, f3)) (k : wm P d 516 [.index q2] h (wq P d sw_c597 sw_h597 224 [.index q2, vi x1, vi x2, vi x3, vi x4, vi x5] [] kc ks Q)) (e_q2 : r0 = .index q2 := by first | rfl | assumption) (y1 : s_ty r0 = 3 := by first | rfl | assumption)  : wr P d sw_c597 sw_h597 (220, [r0, vi x1, vi x2, vi x3, vi x4, vi x5], [], h, kc, ks) Q := by
  refine w_ld rfl rfl (Or.inr (Or.inr ⟨by decide, y1⟩)) ?_
  subst e_q2
  exact w_cv rfl [.index q2] [] rfl rfl (s_wt_4 rfl) rfl g4 k

theorem k597_224 {P : s_P} {d : Nat} {Q : s_O → Prop} {h : s_H} {kc ks : Nat} {r0 : Term} {x1 x2 x3 x4 x5 : Int} {q2 : Nat} {f3 : List Term} (g4 : s_get h q2 = some (1, 11, f3)) (k : wm P d 495 [.index q2, vi 3] h (wq P d sw_c597 sw_h597 229 [.index q2, vi x1, vi x2, vi x3, vi x4, vi x5] [] kc ks Q)) (e_q2 : r0 = .index q2 := by first | rfl | assumption) (y1 : s_ty r0 = 3 := by first | rfl | assumption)  : wr P d sw_c597 sw_h597 (224, [r0, vi x1, vi x2, vi x3, vi x4, vi x5], [], h, kc, ks) Q := by
  refine w_ld rfl rfl (Or.inr (Or.inr ⟨by decide, y1⟩)) ?_
  refine w_c32 rfl (by decide) 3 (by decide) ?_
  subst e_q2
  exact w_cv rfl [.index q2, vi 3] [] rfl rfl (s_wt_4 rfl) rfl g4 k

theorem k597_229 {P : s_P} {d : Nat} {Q : s_O → Prop} {h : s_H} {kc ks : Nat} {r0 : Term} {x1 x2 x3 x4 x5 s0 : Int}  (k : Q (.inl (some (vi s0)), h, kc, ks))   : wr P d sw_c597 sw_h597 (229, [r0, vi x1, vi x2, vi x3, vi x4, vi x5], [vi s0], h, kc, ks) Q := by
  exact w_iret rfl k

/-! 598: FormulaWorksModel.splitTop()V -/
theorem k598_0 {P : s_P} {d : Nat} {Q : s_O → Prop} {h : s_H} {kc ks : Nat} {r0 : Term} {q2 : Nat} {f3 : List Term} {v5 v7 : Term} (g4 : s_get h q2 = some (1, 11, f3)) (k : wm P d 433 [.index q2, v5, v7] h (wq P d sw_c598 sw_h598 12 [.index q2] [] kc ks Q)) (e_q2 : r0 = .index q2 := by first | rfl | assumption) (y1 : s_ty r0 = 3 := by first | rfl | assumption) (n6 : s_nth f3 10 = some v5 := by first | rfl | assumption) (n8 : s_nth f3 11 = some v7 := by first | rfl | assumption)  : wr P d sw_c598 sw_h598 (0, [r0], [], h, kc, ks) Q := by
  refine w_ld rfl rfl (Or.inr (Or.inr ⟨by decide, y1⟩)) ?_
  refine w_ld rfl rfl (Or.inr (Or.inr ⟨by decide, y1⟩)) ?_
  subst e_q2
  refine w_getf rfl g4 n6 ?_
  refine w_ld rfl rfl (Or.inr (Or.inr ⟨by decide, rfl⟩)) ?_
  refine w_getf rfl g4 n8 ?_
  exact w_cv rfl [.index q2, v5, v7] [] rfl rfl (s_wt_4 rfl) rfl g4 k

theorem k598_12 {P : s_P} {d : Nat} {Q : s_O → Prop} {h : s_H} {kc ks : Nat} {r0 : Term} {q2 : Nat} {f3 : List Term} {v5 v7 : Term} (g4 : s_get h q2 = some (1, 11, f3)) (k : wm P d 425 [v5, v7] h (wq P d sw_c598 sw_h598 23 [.index q2] [] kc ks Q)) (e_q2 : r0 = .index q2 := by first | rfl | assumption) (y1 : s_ty r0 = 3 := by first | rfl | assumption) (n6 : s_nth f3 21 = some v5 := by first | rfl | assumption) (n8 : s_nth f3 17 = some v7 := by first | rfl | assumption)  : wr P d sw_c598 sw_h598 (12, [r0], [], h, kc, ks) Q := by
  refine w_ld rfl rfl (Or.inr (Or.inr ⟨by decide, y1⟩)) ?_
  subst e_q2
  refine w_getf rfl g4 n6 ?_
  refine w_ld rfl rfl (Or.inr (Or.inr ⟨by decide, rfl⟩)) ?_
  refine w_getf rfl g4 n8 ?_
  exact w_cs rfl [v5, v7] [] rfl rfl (s_wt_4 rfl) k

theorem k598_23 {P : s_P} {d : Nat} {Q : s_O → Prop} {h : s_H} {kc ks : Nat} {r0 : Term}  (k : Q (.inl none, h, kc, ks))   : wr P d sw_c598 sw_h598 (23, [r0], [], h, kc, ks) Q := by
  exact w_ret rfl k

/-! 599: FormulaWorksModel.storeSum()V -/
theorem k599_0 {P : s_P} {d : Nat} {Q : s_O → Prop} {h : s_H} {kc ks : Nat} {r0 t1 : Term}  (k : wr P d sw_c599 sw_h599 (2, [r0, vi 0], [], h, kc, ks) Q) (y1 : s_ty r0 = 3 := by first | rfl | assumption)  : wr P d sw_c599 sw_h599 (0, [r0, t1], [], h, kc, ks) Q := by
  refine w_c32 rfl (by decide) 0 (by decide) ?_
  refine w_st (ls' := [r0, vi 0]) rfl (Or.inl ⟨by decide, rfl⟩) (s_stK_r (pre := []) y1) ?_
  exact k

theorem k599_2 {P : s_P} {d : Nat} {Q : s_O → Prop} {h : s_H} {kc ks : Nat} {r0 : Term} {x1 : Int}  (k1 : 41 ≤ x1 → wr P d sw_c599 sw_h599 (54, [r0, vi x1], [], h, kc, ks) Q) (k2 : ¬ 41 ≤ x1 → wr P d sw_c599 sw_h599 (8, [r0, vi x1], [], h, kc, ks) Q)  (c1 : In3 x1 := by first | omega | assumption | (simp only [mk_len, List.length_map]; omega) | decide) : wr P d sw_c599 sw_h599 (2, [r0, vi x1], [], h, kc, ks) Q := by
  refine w_ld rfl rfl (Or.inl ⟨by decide, rfl⟩) ?_
  refine w_c32 rfl (by decide) 41 (by decide) ?_
  exact w_if2 rfl c1 (by decide) k1 k2

theorem k599_8 {P : s_P} {d : Nat} {Q : s_O → Prop} {h : s_H} {kc ks : Nat} {r0 : Term} {x1 : Int} {q2 : Nat} {f3 : List Term} {v5 : Term} {z7 : Int} {v9 : Term} {q11 : Nat} {a12 : List Int} {q17 : Nat} {a18 : List Int} {f24 : List Term} {v26 : Term} {z28 : Int} {v30 : Term} {q32 : Nat} {a33 : List Int} {q36 : Nat} {a37 : List Int} (g4 : s_get h q2 = some (1, 11, f3)) (g13 : s_get h q11 = some (0, 1, a12.map vl)) (g19 : s_get h q17 = some (0, 1, a18.map vl)) (g25 : s_get (hp h q17 (0, 1, (a18.set (Int.toNat ((41 * z7) + x1)) (gi a12 x1)).map vl)) q2 = some (1, 11, f24)) (g34 : s_get (hp h q17 (0, 1, (a18.set (Int.toNat ((41 * z7) + x1)) (gi a12 x1)).map vl)) q32 = some (0, 1, a33.map vl)) (g38 : s_get (hp h q17 (0, 1, (a18.set (Int.toNat ((41 * z7) + x1)) (gi a12 x1)).map vl)) q36 = some (0, 1, a37.map vl)) (k : wr P d sw_c599 sw_h599 (2, [.index q2, vi (x1 + 1)], [], (hp (hp h q17 (0, 1, (a18.set (Int.toNat ((41 * z7) + x1)) (gi a12 x1)).map vl)) q36 (0, 1, (a37.set (Int.toNat ((41 * z28) + x1)) (gi a33 x1)).map vl)), kc, ks) Q) (e_q2 : r0 = .index q2 := by first | rfl | assumption) (e_q11 : v9 = .index q11 := by first | rfl | assumption) (e_q17 : v5 = .index q17 := by first | rfl | assumption) (e_q32 : v30 = .index q32 := by first | rfl | assumption) (e_q36 : v26 = .index q36 := by first | rfl | assumption) (y1 : s_ty r0 = 3 := by first | rfl | assumption) (n6 : s_nth f3 67 = some v5 := by first | rfl | assumption) (n8 : s_nth f3 59 = some (vi z7) := by first | rfl | assumption) (n10 : s_nth f3 14 = some v9 := by first | rfl | assumption) (n27 : s_nth f24 68 = some v26 := by first | rfl | assumption) (n29 : s_nth f24 59 = some (vi z28) := by first | rfl | assumption) (n31 : s_nth f24 15 = some v30 := by first | rfl | assumption) (c14 : x1 < a12.length := by first | omega | assumption | (simp only [mk_len, List.length_map]; omega) | decide) (c15 : 0 ≤ x1 := by first | omega | assumption | (simp only [mk_len, List.length_map]; omega) | decide) (c16 : In3 x1 := by first | omega | assumption | (simp only [mk_len, List.length_map]; omega) | decide) (c20 : (41 * z7) + x1 < a18.length := by first | omega | assumption | (simp only [mk_len, List.length_map]; omega) | decide) (c21 : 0 ≤ (41 * z7) + x1 := by first | omega | assumption | (simp only [mk_len, List.length_map]; omega) | decide) (c22 : In3 ((41 * z7) + x1) := by first | omega | assumption | (simp only [mk_len, List.length_map]; omega) | decide) (c23 : 0 < q17 := by first | omega | assumption | (simp only [mk_len, List.length_map]; omega) | decide) (c35 : x1 < a33.length := by first | omega | assumption | (simp only [mk_len, List.length_map]; omega) | decide) (c39 : (41 * z28) + x1 < a37.length := by first | omega | assumption | (simp only [mk_len, List.length_map]; omega) | decide) (c40 : 0 ≤ (41 * z28) + x1 := by first | omega | assumption | (simp only [mk_len, List.length_map]; omega) | decide) (c41 : In3 ((41 * z28) + x1) := by first | omega | assumption | (simp only [mk_len, List.length_map]; omega) | decide) (c42 : 0 < q36 := by first | omega | assumption | (simp only [mk_len, List.length_map]; omega) | decide) : wr P d sw_c599 sw_h599 (8, [r0, vi x1], [], h, kc, ks) Q := by
  refine w_ld rfl rfl (Or.inr (Or.inr ⟨by decide, y1⟩)) ?_
  subst e_q2
  refine w_getf rfl g4 n6 ?_
  refine w_c32 rfl (by decide) 41 (by decide) ?_
  refine w_ld rfl rfl (Or.inr (Or.inr ⟨by decide, rfl⟩)) ?_
  refine w_getf rfl g4 n8 ?_
  refine w_imul rfl ?_
  refine w_ld rfl rfl (Or.inl ⟨by decide, rfl⟩) ?_
  refine w_iadd rfl ?_
  refine w_ld rfl rfl (Or.inr (Or.inr ⟨by decide, rfl⟩)) ?_
  refine w_getf rfl g4 n10 ?_
  refine w_ld rfl rfl (Or.inl ⟨by decide, rfl⟩) ?_
  subst e_q11
  refine w_lald rfl g13 c16 c15 c14 ?_
  subst e_q17
  refine w_last rfl g19 (Nat.ble_eq_true_of_le c23) c22 c21 c20 ?_
  refine w_ld rfl rfl (Or.inr (Or.inr ⟨by decide, rfl⟩)) ?_
  refine w_getf rfl g25 n27 ?_
  refine w_c32 rfl (by decide) 41 (by decide) ?_
  refine w_ld rfl rfl (Or.inr (Or.inr ⟨by decide, rfl⟩)) ?_
  refine w_getf rfl g25 n29 ?_
  refine w_imul rfl ?_
  refine w_ld rfl rfl (Or.inl ⟨by decide, rfl⟩) ?_
  refine w_iadd rfl ?_
  refine w_ld rfl rfl (Or.inr (Or.inr ⟨by decide, rfl⟩)) ?_
  refine w_getf rfl g25 n31 ?_
  refine w_ld rfl rfl (Or.inl ⟨by decide, rfl⟩) ?_
  subst e_q32
  refine w_lald rfl g34 c16 c15 c35 ?_
  subst e_q36
  refine w_last rfl g38 (Nat.ble_eq_true_of_le c42) c41 c40 c39 ?_
  refine w_iinc (ls' := [.index q2, vi (x1 + 1)]) rfl rfl 1 (by decide) rfl ?_
  refine w_goto rfl ?_
  exact k

theorem k599_54 {P : s_P} {d : Nat} {Q : s_O → Prop} {h : s_H} {kc ks : Nat} {r0 : Term} {x1 : Int}  (k : Q (.inl none, h, kc, ks))   : wr P d sw_c599 sw_h599 (54, [r0, vi x1], [], h, kc, ks) Q := by
  exact w_ret rfl k

/-! 600: FormulaWorksModel.storeTerm()V -/
theorem k600_0 {P : s_P} {d : Nat} {Q : s_O → Prop} {h : s_H} {kc ks : Nat} {r0 t1 : Term}  (k : wr P d sw_c600 sw_h600 (2, [r0, vi 0], [], h, kc, ks) Q) (y1 : s_ty r0 = 3 := by first | rfl | assumption)  : wr P d sw_c600 sw_h600 (0, [r0, t1], [], h, kc, ks) Q := by
  refine w_c32 rfl (by decide) 0 (by decide) ?_
  refine w_st (ls' := [r0, vi 0]) rfl (Or.inl ⟨by decide, rfl⟩) (s_stK_r (pre := []) y1) ?_
  exact k

theorem k600_2 {P : s_P} {d : Nat} {Q : s_O → Prop} {h : s_H} {kc ks : Nat} {r0 : Term} {x1 : Int}  (k1 : 41 ≤ x1 → wr P d sw_c600 sw_h600 (54, [r0, vi x1], [], h, kc, ks) Q) (k2 : ¬ 41 ≤ x1 → wr P d sw_c600 sw_h600 (8, [r0, vi x1], [], h, kc, ks) Q)  (c1 : In3 x1 := by first | omega | assumption | (simp only [mk_len, List.length_map]; omega) | decide) : wr P d sw_c600 sw_h600 (2, [r0, vi x1], [], h, kc, ks) Q := by
  refine w_ld rfl rfl (Or.inl ⟨by decide, rfl⟩) ?_
  refine w_c32 rfl (by decide) 41 (by decide) ?_
  exact w_if2 rfl c1 (by decide) k1 k2

theorem k600_8 {P : s_P} {d : Nat} {Q : s_O → Prop} {h : s_H} {kc ks : Nat} {r0 : Term} {x1 : Int} {q2 : Nat} {f3 : List Term} {v5 : Term} {z7 : Int} {v9 : Term} {q11 : Nat} {a12 : List Int} {q17 : Nat} {a18 : List Int} {f24 : List Term} {v26 : Term} {z28 : Int} {v30 : Term} {q32 : Nat} {a33 : List Int} {q36 : Nat} {a37 : List Int} (g4 : s_get h q2 = some (1, 11, f3)) (g13 : s_get h q11 = some (0, 1, a12.map vl)) (g19 : s_get h q17 = some (0, 1, a18.map vl)) (g25 : s_get (hp h q17 (0, 1, (a18.set (Int.toNat ((41 * z7) + x1)) (gi a12 x1)).map vl)) q2 = some (1, 11, f24)) (g34 : s_get (hp h q17 (0, 1, (a18.set (Int.toNat ((41 * z7) + x1)) (gi a12 x1)).map vl)) q32 = some (0, 1, a33.map vl)) (g38 : s_get (hp h q17 (0, 1, (a18.set (Int.toNat ((41 * z7) + x1)) (gi a12 x1)).map vl)) q36 = some (0, 1, a37.map vl)) (k : wr P d sw_c600 sw_h600 (2, [.index q2, vi (x1 + 1)], [], (hp (hp h q17 (0, 1, (a18.set (Int.toNat ((41 * z7) + x1)) (gi a12 x1)).map vl)) q36 (0, 1, (a37.set (Int.toNat ((41 * z28) + x1)) (gi a33 x1)).map vl)), kc, ks) Q) (e_q2 : r0 = .index q2 := by first | rfl | assumption) (e_q11 : v9 = .index q11 := by first | rfl | assumption) (e_q17 : v5 = .index q17 := by first | rfl | assumption) (e_q32 : v30 = .index q32 := by first | rfl | assumption) (e_q36 : v26 = .index q36 := by first | rfl | assumption) (y1 : s_ty r0 = 3 := by first | rfl | assumption) (n6 : s_nth f3 69 = some v5 := by first | rfl | assumption) (n8 : s_nth f3 59 = some (vi z7) := by first | rfl | assumption) (n10 : s_nth f3 14 = some v9 := by first | rfl | assumption) (n27 : s_nth f24 70 = some v26 := by first | rfl | assumption) (n29 : s_nth f24 59 = some (vi z28) := by first | rfl | assumption) (n31 : s_nth f24 15 = some v30 := by first | rfl | assumption) (c14 : x1 < a12.length := by first | omega | assumption | (simp only [mk_len, List.length_map]; omega) | decide) (c15 : 0 ≤ x1 := by first | omega | assumption | (simp only [mk_len, List.length_map]; omega) | decide) (c16 : In3 x1 := by first | omega | assumption | (simp only [mk_len, List.length_map]; omega) | decide) (c20 : (41 * z7) + x1 < a18.length := by first | omega | assumption | (simp only [mk_len, List.length_map]; omega) | decide) (c21 : 0 ≤ (41 * z7) + x1 := by first | omega | assumption | (simp only [mk_len, List.length_map]; omega) | decide) (c22 : In3 ((41 * z7) + x1) := by first | omega | assumption | (simp only [mk_len, List.length_map]; omega) | decide) (c23 : 0 < q17 := by first | omega | assumption | (simp only [mk_len, List.length_map]; omega) | decide) (c35 : x1 < a33.length := by first | omega | assumption | (simp only [mk_len, List.length_map]; omega) | decide) (c39 : (41 * z28) + x1 < a37.length := by first | omega | assumption | (simp only [mk_len, List.length_map]; omega) | decide) (c40 : 0 ≤ (41 * z28) + x1 := by first | omega | assumption | (simp only [mk_len, List.length_map]; omega) | decide) (c41 : In3 ((41 * z28) + x1) := by first | omega | assumption | (simp only [mk_len, List.length_map]; omega) | decide) (c42 : 0 < q36 := by first | omega | assumption | (simp only [mk_len, List.length_map]; omega) | decide) : wr P d sw_c600 sw_h600 (8, [r0, vi x1], [], h, kc, ks) Q := by
  refine w_ld rfl rfl (Or.inr (Or.inr ⟨by decide, y1⟩)) ?_
  subst e_q2
  refine w_getf rfl g4 n6 ?_
  refine w_c32 rfl (by decide) 41 (by decide) ?_
  refine w_ld rfl rfl (Or.inr (Or.inr ⟨by decide, rfl⟩)) ?_
  refine w_getf rfl g4 n8 ?_
  refine w_imul rfl ?_
  refine w_ld rfl rfl (Or.inl ⟨by decide, rfl⟩) ?_
  refine w_iadd rfl ?_
  refine w_ld rfl rfl (Or.inr (Or.inr ⟨by decide, rfl⟩)) ?_
  refine w_getf rfl g4 n10 ?_
  refine w_ld rfl rfl (Or.inl ⟨by decide, rfl⟩) ?_
  subst e_q11
  refine w_lald rfl g13 c16 c15 c14 ?_
  subst e_q17
  refine w_last rfl g19 (Nat.ble_eq_true_of_le c23) c22 c21 c20 ?_
  refine w_ld rfl rfl (Or.inr (Or.inr ⟨by decide, rfl⟩)) ?_
  refine w_getf rfl g25 n27 ?_
  refine w_c32 rfl (by decide) 41 (by decide) ?_
  refine w_ld rfl rfl (Or.inr (Or.inr ⟨by decide, rfl⟩)) ?_
  refine w_getf rfl g25 n29 ?_
  refine w_imul rfl ?_
  refine w_ld rfl rfl (Or.inl ⟨by decide, rfl⟩) ?_
  refine w_iadd rfl ?_
  refine w_ld rfl rfl (Or.inr (Or.inr ⟨by decide, rfl⟩)) ?_
  refine w_getf rfl g25 n31 ?_
  refine w_ld rfl rfl (Or.inl ⟨by decide, rfl⟩) ?_
  subst e_q32
  refine w_lald rfl g34 c16 c15 c35 ?_
  subst e_q36
  refine w_last rfl g38 (Nat.ble_eq_true_of_le c42) c41 c40 c39 ?_
  refine w_iinc (ls' := [.index q2, vi (x1 + 1)]) rfl rfl 1 (by decide) rfl ?_
  refine w_goto rfl ?_
  exact k

theorem k600_54 {P : s_P} {d : Nat} {Q : s_O → Prop} {h : s_H} {kc ks : Nat} {r0 : Term} {x1 : Int}  (k : Q (.inl none, h, kc, ks))   : wr P d sw_c600 sw_h600 (54, [r0, vi x1], [], h, kc, ks) Q := by
  exact w_ret rfl k

/-! 601: FormulaWorksModel.sum(II)I -/
theorem k601_0 {P : s_P} {d : Nat} {Q : s_O → Prop} {h : s_H} {kc ks : Nat} {r0 : Term} {x1 x2 : Int} {t3 t4 t5 : Term} {q2 : Nat} {f3 : List Term} (g4 : s_get h q2 = some (1, 11, f3)) (k : wm P d 462 [.index q2, vi x1, vi x2, vi (x2 - 1)] h (wq P d sw_c601 sw_h601 9 [.index q2, vi x1, vi x2, t3, t4, t5] [] kc ks Q)) (e_q2 : r0 = .index q2 := by first | rfl | assumption) (y1 : s_ty r0 = 3 := by first | rfl | assumption)  : wr P d sw_c601 sw_h601 (0, [r0, vi x1, vi x2, t3, t4, t5], [], h, kc, ks) Q := by
  refine w_ld rfl rfl (Or.inr (Or.inr ⟨by decide, y1⟩)) ?_
  refine w_ld rfl rfl (Or.inl ⟨by decide, rfl⟩) ?_
  refine w_ld rfl rfl (Or.inl ⟨by decide, rfl⟩) ?_
  refine w_ld rfl rfl (Or.inl ⟨by decide, rfl⟩) ?_
  refine w_c32 rfl (by decide) 1 (by decide) ?_
  refine w_isub rfl ?_
  subst e_q2
  exact w_cv rfl [.index q2, vi x1, vi x2, vi (x2 - 1)] [] rfl rfl (s_wt_4 rfl) rfl g4 k

theorem k601_9 {P : s_P} {d : Nat} {Q : s_O → Prop} {h : s_H} {kc ks : Nat} {r0 : Term} {x1 x2 : Int} {t3 t4 t5 : Term} {s0 : Int}  (k1 : s0 ≠ 0 → wr P d sw_c601 sw_h601 (14, [r0, vi x1, vi x2, t3, t4, t5], [], h, kc, ks) Q) (k2 : ¬ s0 ≠ 0 → wr P d sw_c601 sw_h601 (12, [r0, vi x1, vi x2, t3, t4, t5], [], h, kc, ks) Q)  (c1 : In3 s0 := by first | omega | assumption | (simp only [mk_len, List.length_map]; omega) | decide) : wr P d sw_c601 sw_h601 (9, [r0, vi x1, vi x2, t3, t4, t5], [vi s0], h, kc, ks) Q := by
  exact w_if1 rfl c1 k1 k2

theorem k601_12 {P : s_P} {d : Nat} {Q : s_O → Prop} {h : s_H} {kc ks : Nat} {r0 : Term} {x1 x2 : Int} {t3 t4 t5 : Term}  (k : Q (.inl (some (vi 0)), h, kc, ks))   : wr P d sw_c601 sw_h601 (12, [r0, vi x1, vi x2, t3, t4, t5], [], h, kc, ks) Q := by
  refine w_c32 rfl (by decide) 0 (by decide) ?_
  exact w_iret rfl k

theorem k601_14 {P : s_P} {d : Nat} {Q : s_O → Prop} {h : s_H} {kc ks : Nat} {r0 : Term} {x1 x2 : Int} {t3 t4 t5 : Term}  (k : wr P d sw_c601 sw_h601 (19, [r0, vi x1, vi x2, vl 0, .result, vi 0], [], h, kc, ks) Q)   : wr P d sw_c601 sw_h601 (14, [r0, vi x1, vi x2, t3, t4, t5], [], h, kc, ks) Q := by
  refine w_c64 rfl (by decide) 0 (by decide) ?_
  refine w_stl (ls' := [r0, vi x1, vi x2, vl 0, t4, t5]) (ls'' := [r0, vi x1, vi x2, vl 0, .result, t5]) rfl ⟨by decide, rfl⟩ rfl rfl ?_
  refine w_c32 rfl (by decide) 0 (by decide) ?_
  refine w_st (ls' := [r0, vi x1, vi x2, vl 0, .result, vi 0]) rfl (Or.inl ⟨by decide, rfl⟩) rfl ?_
  exact k

theorem k601_19 {P : s_P} {d : Nat} {Q : s_O → Prop} {h : s_H} {kc ks : Nat} {r0 : Term} {x1 x2 x3 : Int} {t4 : Term} {x5 : Int}  (k1 : x2 ≤ x5 → wr P d sw_c601 sw_h601 (41, [r0, vi x1, vi x2, vl x3, t4, vi x5], [], h, kc, ks) Q) (k2 : ¬ x2 ≤ x5 → wr P d sw_c601 sw_h601 (25, [r0, vi x1, vi x2, vl x3, t4, vi x5], [], h, kc, ks) Q)  (c1 : In3 x5 := by first | omega | assumption | (simp only [mk_len, List.length_map]; omega) | decide) (c2 : In3 x2 := by first | omega | assumption | (simp only [mk_len, List.length_map]; omega) | decide) : wr P d sw_c601 sw_h601 (19, [r0, vi x1, vi x2, vl x3, t4, vi x5], [], h, kc, ks) Q := by
  refine w_ld rfl rfl (Or.inl ⟨by decide, rfl⟩) ?_
  refine w_ld rfl rfl (Or.inl ⟨by decide, rfl⟩) ?_
  exact w_if2 rfl c1 c2 k1 k2

theorem k601_25 {P : s_P} {d : Nat} {Q : s_O → Prop} {h : s_H} {kc ks : Nat} {r0 : Term} {x1 x2 x3 : Int} {t4 : Term} {x5 : Int} {q2 : Nat} {f3 : List Term} {v5 : Term} {q7 : Nat} {a8 : List Int} (g4 : s_get h q2 = some (1, 11, f3)) (g9 : s_get h q7 = some (0, 1, a8.map vl)) (k : wr P d sw_c601 sw_h601 (19, [.index q2, vi x1, vi x2, vl (x3 + (gi a8 x5)), .result, vi (x5 + 1)], [], h, kc, ks) Q) (e_q2 : r0 = .index q2 := by first | rfl | assumption) (e_q7 : v5 = .index q7 := by first | rfl | assumption) (y1 : s_ty r0 = 3 := by first | rfl | assumption) (n6 : s_nth f3 45 = some v5 := by first | rfl | assumption) (c10 : x5 < a8.length := by first | omega | assumption | (simp only [mk_len, List.length_map]; omega) | decide) (c11 : 0 ≤ x5 := by first | omega | assumption | (simp only [mk_len, List.length_map]; omega) | decide) (c12 : In3 x5 := by first | omega | assumption | (simp only [mk_len, List.length_map]; omega) | decide) : wr P d sw_c601 sw_h601 (25, [r0, vi x1, vi x2, vl x3, t4, vi x5], [], h, kc, ks) Q := by
  refine w_ld rfl rfl (Or.inr (Or.inl ⟨by decide, rfl⟩)) ?_
  refine w_ld rfl rfl (Or.inr (Or.inr ⟨by decide, y1⟩)) ?_
  subst e_q2
  refine w_getf rfl g4 n6 ?_
  refine w_ld rfl rfl (Or.inl ⟨by decide, rfl⟩) ?_
  subst e_q7
  refine w_lald rfl g9 c12 c11 c10 ?_
  refine w_ladd rfl ?_
  refine w_stl (ls' := [.index q2, vi x1, vi x2, vl (x3 + (gi a8 x5)), t4, vi x5]) (ls'' := [.index q2, vi x1, vi x2, vl (x3 + (gi a8 x5)), .result, vi x5]) rfl ⟨by decide, rfl⟩ rfl rfl ?_
  refine w_iinc (ls' := [.index q2, vi x1, vi x2, vl (x3 + (gi a8 x5)), .result, vi (x5 + 1)]) rfl rfl 1 (by decide) rfl ?_
  refine w_goto rfl ?_
  exact k

theorem k601_41 {P : s_P} {d : Nat} {Q : s_O → Prop} {h : s_H} {kc ks : Nat} {r0 : Term} {x1 x2 x3 : Int} {t4 : Term} {x5 : Int}  (k : Q (.inl (some (vi (Int.tmod x3 32003))), h, kc, ks))  (c1 : In6 x3 := by first | omega | assumption | (simp only [mk_len, List.length_map]; omega) | decide) : wr P d sw_c601 sw_h601 (41, [r0, vi x1, vi x2, vl x3, t4, vi x5], [], h, kc, ks) Q := by
  refine w_ld rfl rfl (Or.inr (Or.inl ⟨by decide, rfl⟩)) ?_
  refine w_c64 rfl (by decide) 32003 (by decide) ?_
  refine w_lrem rfl c1 (by decide) (by decide) ?_
  refine w_l2i rfl ?_
  exact w_iret rfl k

/-! 602: FormulaWorksModel.sumAll(J)V -/
theorem k602_0 {P : s_P} {d : Nat} {Q : s_O → Prop} {h : s_H} {kc ks : Nat} {r0 : Term} {x1 : Int} {t2 : Term} {q2 : Nat} {f3 : List Term} {v5 v7 : Term} (g4 : s_get h q2 = some (1, 11, f3)) (k : wm P d 531 [.index q2, v5, v7] h (wq P d sw_c602 sw_h602 12 [.index q2, vl x1, t2] [] kc ks Q)) (e_q2 : r0 = .index q2 := by first | rfl | assumption) (y1 : s_ty r0 = 3 := by first | rfl | assumption) (n6 : s_nth f3 10 = some v5 := by first | rfl | assumption) (n8 : s_nth f3 13 = some v7 := by first | rfl | assumption)  : wr P d sw_c602 sw_h602 (0, [r0, vl x1, t2], [], h, kc, ks) Q := by
  refine w_ld rfl rfl (Or.inr (Or.inr ⟨by decide, y1⟩)) ?_
  refine w_ld rfl rfl (Or.inr (Or.inr ⟨by decide, y1⟩)) ?_
  subst e_q2
  refine w_getf rfl g4 n6 ?_
  refine w_ld rfl rfl (Or.inr (Or.inr ⟨by decide, rfl⟩)) ?_
  refine w_getf rfl g4 n8 ?_
  exact w_cv rfl [.index q2, v5, v7] [] rfl rfl (s_wt_4 rfl) rfl g4 k

theorem k602_12 {P : s_P} {d : Nat} {Q : s_O → Prop} {h : s_H} {kc ks : Nat} {r0 : Term} {x1 : Int} {t2 : Term} {q2 : Nat} {f3 : List Term} {v5 v7 : Term} (g4 : s_get h q2 = some (1, 11, f3)) (k : wm P d 425 [v5, v7] h (wq P d sw_c602 sw_h602 23 [.index q2, vl x1, t2] [] kc ks Q)) (e_q2 : r0 = .index q2 := by first | rfl | assumption) (y1 : s_ty r0 = 3 := by first | rfl | assumption) (n6 : s_nth f3 14 = some v5 := by first | rfl | assumption) (n8 : s_nth f3 16 = some v7 := by first | rfl | assumption)  : wr P d sw_c602 sw_h602 (12, [r0, vl x1, t2], [], h, kc, ks) Q := by
  refine w_ld rfl rfl (Or.inr (Or.inr ⟨by decide, y1⟩)) ?_
  subst e_q2
  refine w_getf rfl g4 n6 ?_
  refine w_ld rfl rfl (Or.inr (Or.inr ⟨by decide, rfl⟩)) ?_
  refine w_getf rfl g4 n8 ?_
  exact w_cs rfl [v5, v7] [] rfl rfl (s_wt_4 rfl) k

theorem k602_23 {P : s_P} {d : Nat} {Q : s_O → Prop} {h : s_H} {kc ks : Nat} {r0 : Term} {x1 : Int} {t2 : Term} {q2 : Nat} {f3 : List Term} {v5 v7 : Term} (g4 : s_get h q2 = some (1, 11, f3)) (k : wm P d 531 [.index q2, v5, v7] h (wq P d sw_c602 sw_h602 35 [.index q2, vl x1, t2] [] kc ks Q)) (e_q2 : r0 = .index q2 := by first | rfl | assumption) (y1 : s_ty r0 = 3 := by first | rfl | assumption) (n6 : s_nth f3 12 = some v5 := by first | rfl | assumption) (n8 : s_nth f3 11 = some v7 := by first | rfl | assumption)  : wr P d sw_c602 sw_h602 (23, [r0, vl x1, t2], [], h, kc, ks) Q := by
  refine w_ld rfl rfl (Or.inr (Or.inr ⟨by decide, y1⟩)) ?_
  refine w_ld rfl rfl (Or.inr (Or.inr ⟨by decide, y1⟩)) ?_
  subst e_q2
  refine w_getf rfl g4 n6 ?_
  refine w_ld rfl rfl (Or.inr (Or.inr ⟨by decide, rfl⟩)) ?_
  refine w_getf rfl g4 n8 ?_
  exact w_cv rfl [.index q2, v5, v7] [] rfl rfl (s_wt_4 rfl) rfl g4 k

theorem k602_35 {P : s_P} {d : Nat} {Q : s_O → Prop} {h : s_H} {kc ks : Nat} {r0 : Term} {x1 : Int} {t2 : Term} {q2 : Nat} {f3 : List Term} {v5 v7 : Term} (g4 : s_get h q2 = some (1, 11, f3)) (k : wm P d 529 [v5, v7, vl x1] h (wq P d sw_c602 sw_h602 47 [.index q2, vl x1, t2] [] kc ks Q)) (e_q2 : r0 = .index q2 := by first | rfl | assumption) (y1 : s_ty r0 = 3 := by first | rfl | assumption) (n6 : s_nth f3 14 = some v5 := by first | rfl | assumption) (n8 : s_nth f3 16 = some v7 := by first | rfl | assumption)  : wr P d sw_c602 sw_h602 (35, [r0, vl x1, t2], [], h, kc, ks) Q := by
  refine w_ld rfl rfl (Or.inr (Or.inr ⟨by decide, y1⟩)) ?_
  subst e_q2
  refine w_getf rfl g4 n6 ?_
  refine w_ld rfl rfl (Or.inr (Or.inr ⟨by decide, rfl⟩)) ?_
  refine w_getf rfl g4 n8 ?_
  refine w_ld rfl rfl (Or.inr (Or.inl ⟨by decide, rfl⟩)) ?_
  exact w_cs rfl [v5, v7, vl x1] [] rfl rfl (s_wt_4 rfl) k

theorem k602_47 {P : s_P} {d : Nat} {Q : s_O → Prop} {h : s_H} {kc ks : Nat} {r0 : Term} {x1 : Int} {t2 : Term} {q2 : Nat} {f3 : List Term} {v5 v7 : Term} (g4 : s_get h q2 = some (1, 11, f3)) (k : wm P d 531 [.index q2, v5, v7] h (wq P d sw_c602 sw_h602 59 [.index q2, vl x1, t2] [] kc ks Q)) (e_q2 : r0 = .index q2 := by first | rfl | assumption) (y1 : s_ty r0 = 3 := by first | rfl | assumption) (n6 : s_nth f3 11 = some v5 := by first | rfl | assumption) (n8 : s_nth f3 13 = some v7 := by first | rfl | assumption)  : wr P d sw_c602 sw_h602 (47, [r0, vl x1, t2], [], h, kc, ks) Q := by
  refine w_ld rfl rfl (Or.inr (Or.inr ⟨by decide, y1⟩)) ?_
  refine w_ld rfl rfl (Or.inr (Or.inr ⟨by decide, y1⟩)) ?_
  subst e_q2
  refine w_getf rfl g4 n6 ?_
  refine w_ld rfl rfl (Or.inr (Or.inr ⟨by decide, rfl⟩)) ?_
  refine w_getf rfl g4 n8 ?_
  exact w_cv rfl [.index q2, v5, v7] [] rfl rfl (s_wt_4 rfl) rfl g4 k

theorem k602_59 {P : s_P} {d : Nat} {Q : s_O → Prop} {h : s_H} {kc ks : Nat} {r0 : Term} {x1 : Int} {t2 : Term} {q2 : Nat} {f3 : List Term} {v5 v7 : Term} (g4 : s_get h q2 = some (1, 11, f3)) (k : wm P d 425 [v5, v7] h (wq P d sw_c602 sw_h602 70 [.index q2, vl x1, t2] [] kc ks Q)) (e_q2 : r0 = .index q2 := by first | rfl | assumption) (y1 : s_ty r0 = 3 := by first | rfl | assumption) (n6 : s_nth f3 15 = some v5 := by first | rfl | assumption) (n8 : s_nth f3 16 = some v7 := by first | rfl | assumption)  : wr P d sw_c602 sw_h602 (59, [r0, vl x1, t2], [], h, kc, ks) Q := by
  refine w_ld rfl rfl (Or.inr (Or.inr ⟨by decide, y1⟩)) ?_
  subst e_q2
  refine w_getf rfl g4 n6 ?_
  refine w_ld rfl rfl (Or.inr (Or.inr ⟨by decide, rfl⟩)) ?_
  refine w_getf rfl g4 n8 ?_
  exact w_cs rfl [v5, v7] [] rfl rfl (s_wt_4 rfl) k

theorem k602_70 {P : s_P} {d : Nat} {Q : s_O → Prop} {h : s_H} {kc ks : Nat} {r0 : Term} {x1 : Int} {t2 : Term} {q2 : Nat} {f3 : List Term} (g4 : s_get h q2 = some (1, 11, f3)) (k : wm P d 516 [.index q2] h (wq P d sw_c602 sw_h602 74 [.index q2, vl x1, t2] [] kc ks Q)) (e_q2 : r0 = .index q2 := by first | rfl | assumption) (y1 : s_ty r0 = 3 := by first | rfl | assumption)  : wr P d sw_c602 sw_h602 (70, [r0, vl x1, t2], [], h, kc, ks) Q := by
  refine w_ld rfl rfl (Or.inr (Or.inr ⟨by decide, y1⟩)) ?_
  subst e_q2
  exact w_cv rfl [.index q2] [] rfl rfl (s_wt_4 rfl) rfl g4 k

theorem k602_74 {P : s_P} {d : Nat} {Q : s_O → Prop} {h : s_H} {kc ks : Nat} {r0 : Term} {x1 : Int} {t2 : Term}  (k : Q (.inl none, h, kc, ks))   : wr P d sw_c602 sw_h602 (74, [r0, vl x1, t2], [], h, kc, ks) Q := by
  exact w_ret rfl k

/-! 603: FormulaWorksModel.take(I)I -/
theorem k603_0 {P : s_P} {d : Nat} {Q : s_O → Prop} {h : s_H} {kc ks : Nat} {r0 : Term} {x1 : Int} {t2 : Term} {q2 : Nat} {f3 : List Term} (g4 : s_get h q2 = some (1, 11, f3)) (k : wm P d 481 [.index q2, vi x1, vi 0] h (wq P d sw_c603 sw_h603 6 [.index q2, vi x1, t2] [] kc ks Q)) (e_q2 : r0 = .index q2 := by first | rfl | assumption) (y1 : s_ty r0 = 3 := by first | rfl | assumption)  : wr P d sw_c603 sw_h603 (0, [r0, vi x1, t2], [], h, kc, ks) Q := by
  refine w_ld rfl rfl (Or.inr (Or.inr ⟨by decide, y1⟩)) ?_
  refine w_ld rfl rfl (Or.inl ⟨by decide, rfl⟩) ?_
  refine w_c32 rfl (by decide) 0 (by decide) ?_
  subst e_q2
  exact w_cv rfl [.index q2, vi x1, vi 0] [] rfl rfl (s_wt_4 rfl) rfl g4 k

theorem k603_6 {P : s_P} {d : Nat} {Q : s_O → Prop} {h : s_H} {kc ks : Nat} {r0 : Term} {x1 : Int} {t2 : Term} {s0 : Int}  (k1 : s0 ≠ 0 → wr P d sw_c603 sw_h603 (11, [r0, vi x1, t2], [], h, kc, ks) Q) (k2 : ¬ s0 ≠ 0 → wr P d sw_c603 sw_h603 (9, [r0, vi x1, t2], [], h, kc, ks) Q)  (c1 : In3 s0 := by first | omega | assumption | (simp only [mk_len, List.length_map]; omega) | decide) : wr P d sw_c603 sw_h603 (6, [r0, vi x1, t2], [vi s0], h, kc, ks) Q := by
  exact w_if1 rfl c1 k1 k2

theorem k603_9 {P : s_P} {d : Nat} {Q : s_O → Prop} {h : s_H} {kc ks : Nat} {r0 : Term} {x1 : Int} {t2 : Term}  (k : Q (.inl (some (vi 0)), h, kc, ks))   : wr P d sw_c603 sw_h603 (9, [r0, vi x1, t2], [], h, kc, ks) Q := by
  refine w_c32 rfl (by decide) 0 (by decide) ?_
  exact w_iret rfl k

theorem k603_11 {P : s_P} {d : Nat} {Q : s_O → Prop} {h : s_H} {kc ks : Nat} {r0 : Term} {x1 : Int} {t2 : Term} {q2 : Nat} {f3 : List Term} {v5 : Term} (g4 : s_get h q2 = some (1, 11, f3)) (k : wm P d 483 [v5] h (wq P d sw_c603 sw_h603 18 [.index q2, vi x1, t2] [] kc ks Q)) (e_q2 : r0 = .index q2 := by first | rfl | assumption) (y1 : s_ty r0 = 3 := by first | rfl | assumption) (n6 : s_nth f3 11 = some v5 := by first | rfl | assumption)  : wr P d sw_c603 sw_h603 (11, [r0, vi x1, t2], [], h, kc, ks) Q := by
  refine w_ld rfl rfl (Or.inr (Or.inr ⟨by decide, y1⟩)) ?_
  subst e_q2
  refine w_getf rfl g4 n6 ?_
  exact w_cs rfl [v5] [] rfl rfl (s_wt_4 rfl) k

theorem k603_18 {P : s_P} {d : Nat} {Q : s_O → Prop} {h : s_H} {kc ks : Nat} {r0 : Term} {x1 : Int} {t2 : Term} {s0 : Int}  (k1 : s0 = 0 → wr P d sw_c603 sw_h603 (33, [r0, vi x1, t2], [], h, kc, ks) Q) (k2 : ¬ s0 = 0 → wr P d sw_c603 sw_h603 (21, [r0, vi x1, t2], [], h, kc, ks) Q)  (c1 : In3 s0 := by first | omega | assumption | (simp only [mk_len, List.length_map]; omega) | decide) : wr P d sw_c603 sw_h603 (18, [r0, vi x1, t2], [vi s0], h, kc, ks) Q := by
  exact w_if1 rfl c1 k1 k2

theorem k603_21 {P : s_P} {d : Nat} {Q : s_O → Prop} {h : s_H} {kc ks : Nat} {r0 : Term} {x1 : Int} {t2 : Term} {q2 : Nat} {f3 : List Term} {v5 : Term} (g4 : s_get h q2 = some (1, 11, f3)) (k : wm P d 463 [v5] h (wq P d sw_c603 sw_h603 28 [.index q2, vi x1, t2] [] kc ks Q)) (e_q2 : r0 = .index q2 := by first | rfl | assumption) (y1 : s_ty r0 = 3 := by first | rfl | assumption) (n6 : s_nth f3 10 = some v5 := by first | rfl | assumption)  : wr P d sw_c603 sw_h603 (21, [r0, vi x1, t2], [], h, kc, ks) Q := by
  refine w_ld rfl rfl (Or.inr (Or.inr ⟨by decide, y1⟩)) ?_
  subst e_q2
  refine w_getf rfl g4 n6 ?_
  exact w_cs rfl [v5] [] rfl rfl (s_wt_4 rfl) k

theorem k603_28 {P : s_P} {d : Nat} {Q : s_O → Prop} {h : s_H} {kc ks : Nat} {r0 : Term} {x1 : Int} {t2 : Term} {s0 : Int}  (k1 : s0 ≤ 10 → wr P d sw_c603 sw_h603 (39, [r0, vi x1, t2], [], h, kc, ks) Q) (k2 : ¬ s0 ≤ 10 → wr P d sw_c603 sw_h603 (33, [r0, vi x1, t2], [], h, kc, ks) Q)  (c1 : In3 s0 := by first | omega | assumption | (simp only [mk_len, List.length_map]; omega) | decide) : wr P d sw_c603 sw_h603 (28, [r0, vi x1, t2], [vi s0], h, kc, ks) Q := by
  refine w_c32 rfl (by decide) 10 (by decide) ?_
  exact w_if2 rfl c1 (by decide) k1 k2

theorem k603_33 {P : s_P} {d : Nat} {Q : s_O → Prop} {h : s_H} {kc ks : Nat} {r0 : Term} {x1 : Int} {t2 : Term} {q2 : Nat} {f3 : List Term} (g4 : s_get h q2 = some (1, 11, f3)) (k : wm P d 570 [.index q2, vi 2] h (wq P d sw_c603 sw_h603 38 [.index q2, vi x1, t2] [] kc ks Q)) (e_q2 : r0 = .index q2 := by first | rfl | assumption) (y1 : s_ty r0 = 3 := by first | rfl | assumption)  : wr P d sw_c603 sw_h603 (33, [r0, vi x1, t2], [], h, kc, ks) Q := by
  refine w_ld rfl rfl (Or.inr (Or.inr ⟨by decide, y1⟩)) ?_
  refine w_c32 rfl (by decide) 2 (by decide) ?_
  subst e_q2
  exact w_cv rfl [.index q2, vi 2] [] rfl rfl (s_wt_4 rfl) rfl g4 k

theorem k603_38 {P : s_P} {d : Nat} {Q : s_O → Prop} {h : s_H} {kc ks : Nat} {r0 : Term} {x1 : Int} {t2 : Term} {s0 : Int}  (k : Q (.inl (some (vi s0)), h, kc, ks))   : wr P d sw_c603 sw_h603 (38, [r0, vi x1, t2], [vi s0], h, kc, ks) Q := by
  exact w_iret rfl k

theorem k603_39 {P : s_P} {d : Nat} {Q : s_O → Prop} {h : s_H} {kc ks : Nat} {r0 : Term} {x1 : Int} {t2 : Term} {q2 : Nat} {f3 : List Term} {z5 : Int} (g4 : s_get h q2 = some (1, 11, f3)) (k1 : z5 ≠ 16 → wr P d sw_c603 sw_h603 (50, [.index q2, vi x1, t2], [], h, kc, ks) Q) (k2 : ¬ z5 ≠ 16 → wr P d sw_c603 sw_h603 (48, [.index q2, vi x1, t2], [], h, kc, ks) Q) (e_q2 : r0 = .index q2 := by first | rfl | assumption) (y1 : s_ty r0 = 3 := by first | rfl | assumption) (n6 : s_nth f3 8 = some (vi z5) := by first | rfl | assumption) (c7 : In3 z5 := by first | omega | assumption | (simp only [mk_len, List.length_map]; omega) | decide) : wr P d sw_c603 sw_h603 (39, [r0, vi x1, t2], [], h, kc, ks) Q := by
  refine w_ld rfl rfl (Or.inr (Or.inr ⟨by decide, y1⟩)) ?_
  subst e_q2
  refine w_getf rfl g4 n6 ?_
  refine w_c32 rfl (by decide) 16 (by decide) ?_
  exact w_if2 rfl c7 (by decide) k1 k2

theorem k603_48 {P : s_P} {d : Nat} {Q : s_O → Prop} {h : s_H} {kc ks : Nat} {r0 : Term} {x1 : Int} {t2 : Term}  (k : Q (.inl (some (vi (-1))), h, kc, ks))   : wr P d sw_c603 sw_h603 (48, [r0, vi x1, t2], [], h, kc, ks) Q := by
  refine w_c32 rfl (by decide) (-1) (by decide) ?_
  exact w_iret rfl k

theorem k603_50 {P : s_P} {d : Nat} {Q : s_O → Prop} {h : s_H} {kc ks : Nat} {r0 : Term} {x1 : Int} {t2 : Term}  (k : wr P d sw_c603 sw_h603 (52, [r0, vi x1, vi 0], [], h, kc, ks) Q)   : wr P d sw_c603 sw_h603 (50, [r0, vi x1, t2], [], h, kc, ks) Q := by
  refine w_c32 rfl (by decide) 0 (by decide) ?_
  refine w_st (ls' := [r0, vi x1, vi 0]) rfl (Or.inl ⟨by decide, rfl⟩) rfl ?_
  exact k

theorem k603_52 {P : s_P} {d : Nat} {Q : s_O → Prop} {h : s_H} {kc ks : Nat} {r0 : Term} {x1 x2 : Int}  (k1 : 10 < x2 → wr P d sw_c603 sw_h603 (85, [r0, vi x1, vi x2], [], h, kc, ks) Q) (k2 : ¬ 10 < x2 → wr P d sw_c603 sw_h603 (58, [r0, vi x1, vi x2], [], h, kc, ks) Q)  (c1 : In3 x2 := by first | omega | assumption | (simp only [mk_len, List.length_map]; omega) | decide) : wr P d sw_c603 sw_h603 (52, [r0, vi x1, vi x2], [], h, kc, ks) Q := by
  refine w_ld rfl rfl (Or.inl ⟨by decide, rfl⟩) ?_
  refine w_c32 rfl (by decide) 10 (by decide) ?_
  exact w_if2 rfl c1 (by decide) k1 k2

theorem k603_58 {P : s_P} {d : Nat} {Q : s_O → Prop} {h : s_H} {kc ks : Nat} {r0 : Term} {x1 x2 : Int} {q2 : Nat} {f3 : List Term} {v5 : Term} {z7 : Int} {v9 : Term} {q11 : Nat} {a12 : List Int} {q17 : Nat} {a18 : List Int} (g4 : s_get h q2 = some (1, 11, f3)) (g13 : s_get h q11 = some (0, 1, a12.map vl)) (g19 : s_get h q17 = some (0, 0, a18.map vi)) (k : wr P d sw_c603 sw_h603 (52, [.index q2, vi x1, vi (x2 + 1)], [], (hp h q17 (0, 0, (a18.set (Int.toNat ((11 * z7) + x2)) (gi a12 x2)).map vi)), kc, ks) Q) (e_q2 : r0 = .index q2 := by first | rfl | assumption) (e_q11 : v9 = .index q11 := by first | rfl | assumption) (e_q17 : v5 = .index q17 := by first | rfl | assumption) (y1 : s_ty r0 = 3 := by first | rfl | assumption) (n6 : s_nth f3 9 = some v5 := by first | rfl | assumption) (n8 : s_nth f3 8 = some (vi z7) := by first | rfl | assumption) (n10 : s_nth f3 10 = some v9 := by first | rfl | assumption) (c14 : x2 < a12.length := by first | omega | assumption | (simp only [mk_len, List.length_map]; omega) | decide) (c15 : 0 ≤ x2 := by first | omega | assumption | (simp only [mk_len, List.length_map]; omega) | decide) (c16 : In3 x2 := by first | omega | assumption | (simp only [mk_len, List.length_map]; omega) | decide) (c20 : (11 * z7) + x2 < a18.length := by first | omega | assumption | (simp only [mk_len, List.length_map]; omega) | decide) (c21 : 0 ≤ (11 * z7) + x2 := by first | omega | assumption | (simp only [mk_len, List.length_map]; omega) | decide) (c22 : In3 ((11 * z7) + x2) := by first | omega | assumption | (simp only [mk_len, List.length_map]; omega) | decide) (c23 : 0 < q17 := by first | omega | assumption | (simp only [mk_len, List.length_map]; omega) | decide) : wr P d sw_c603 sw_h603 (58, [r0, vi x1, vi x2], [], h, kc, ks) Q := by
  refine w_ld rfl rfl (Or.inr (Or.inr ⟨by decide, y1⟩)) ?_
  subst e_q2
  refine w_getf rfl g4 n6 ?_
  refine w_c32 rfl (by decide) 11 (by decide) ?_
  refine w_ld rfl rfl (Or.inr (Or.inr ⟨by decide, rfl⟩)) ?_
  refine w_getf rfl g4 n8 ?_
  refine w_imul rfl ?_
  refine w_ld rfl rfl (Or.inl ⟨by decide, rfl⟩) ?_
  refine w_iadd rfl ?_
  refine w_ld rfl rfl (Or.inr (Or.inr ⟨by decide, rfl⟩)) ?_
  refine w_getf rfl g4 n10 ?_
  refine w_ld rfl rfl (Or.inl ⟨by decide, rfl⟩) ?_
  subst e_q11
  refine w_lald rfl g13 c16 c15 c14 ?_
  refine w_l2i rfl ?_
  subst e_q17
  refine w_iast rfl g19 (Nat.ble_eq_true_of_le c23) c22 c21 c20 ?_
  refine w_iinc (ls' := [.index q2, vi x1, vi (x2 + 1)]) rfl rfl 1 (by decide) rfl ?_
  refine w_goto rfl ?_
  exact k

theorem k603_85 {P : s_P} {d : Nat} {Q : s_O → Prop} {h : s_H} {kc ks : Nat} {r0 : Term} {x1 x2 : Int} {q2 : Nat} {f3 : List Term} {z5 : Int} {f9 : List Term} {z11 : Int} (g4 : s_get h q2 = some (1, 11, f3)) (g10 : s_get (hp h q2 (1, 11, f3.set 8 (vi (z5 + 1)))) q2 = some (1, 11, f9)) (k : Q (.inl (some (vi z11)), (hp h q2 (1, 11, f3.set 8 (vi (z5 + 1)))), kc, ks)) (e_q2 : r0 = .index q2 := by first | rfl | assumption) (y1 : s_ty r0 = 3 := by first | rfl | assumption) (n6 : s_nth f3 8 = some (vi z5) := by first | rfl | assumption) (l7 : 8 < f3.length := by first | exact Nat.le_of_ble_eq_true rfl | omega | assumption) (n12 : s_nth f9 8 = some (vi z11) := by first | rfl | assumption) (c8 : 0 < q2 := by first | omega | assumption | (simp only [mk_len, List.length_map]; omega) | decide) : wr P d sw_c603 sw_h603 (85, [r0, vi x1, vi x2], [], h, kc, ks) Q := by
  refine w_ld rfl rfl (Or.inr (Or.inr ⟨by decide, y1⟩)) ?_
  refine w_dup rfl (by rw [y1]; rfl) ?_
  subst e_q2
  refine w_getf rfl g4 n6 ?_
  refine w_c32 rfl (by decide) 1 (by decide) ?_
  refine w_iadd rfl ?_
  refine w_putf rfl g4 (Nat.ble_eq_true_of_le c8) rfl (Nat.ble_eq_true_of_le l7) ?_
  refine w_ld rfl rfl (Or.inr (Or.inr ⟨by decide, rfl⟩)) ?_
  refine w_getf rfl g10 n12 ?_
  exact w_iret rfl k

/-! 604: FormulaWorksModel.takeText()V -/
theorem k604_0 {P : s_P} {d : Nat} {Q : s_O → Prop} {h : s_H} {kc ks : Nat} {r0 t1 : Term} {q2 : Nat} {f3 : List Term} {z5 : Int} (g4 : s_get h q2 = some (1, 11, f3)) (k : wr P d sw_c604 sw_h604 (10, [.index q2, vi 0], [], (hp h q2 (1, 11, f3.set 52 (vi z5))), kc, ks) Q) (e_q2 : r0 = .index q2 := by first | rfl | assumption) (y1 : s_ty r0 = 3 := by first | rfl | assumption) (n6 : s_nth f3 50 = some (vi z5) := by first | rfl | assumption) (l7 : 52 < f3.length := by first | exact Nat.le_of_ble_eq_true rfl | omega | assumption) (c8 : 0 < q2 := by first | omega | assumption | (simp only [mk_len, List.length_map]; omega) | decide) : wr P d sw_c604 sw_h604 (0, [r0, t1], [], h, kc, ks) Q := by
  refine w_ld rfl rfl (Or.inr (Or.inr ⟨by decide, y1⟩)) ?_
  refine w_ld rfl rfl (Or.inr (Or.inr ⟨by decide, y1⟩)) ?_
  subst e_q2
  refine w_getf rfl g4 n6 ?_
  refine w_putf rfl g4 (Nat.ble_eq_true_of_le c8) rfl (Nat.ble_eq_true_of_le l7) ?_
  refine w_c32 rfl (by decide) 0 (by decide) ?_
  refine w_st (ls' := [.index q2, vi 0]) rfl (Or.inl ⟨by decide, rfl⟩) rfl ?_
  exact k

theorem k604_10 {P : s_P} {d : Nat} {Q : s_O → Prop} {h : s_H} {kc ks : Nat} {r0 : Term} {x1 : Int} {q2 : Nat} {f3 : List Term} {z5 : Int} (g4 : s_get h q2 = some (1, 11, f3)) (k1 : z5 ≤ x1 → wr P d sw_c604 sw_h604 (36, [.index q2, vi x1], [], h, kc, ks) Q) (k2 : ¬ z5 ≤ x1 → wr P d sw_c604 sw_h604 (18, [.index q2, vi x1], [], h, kc, ks) Q) (e_q2 : r0 = .index q2 := by first | rfl | assumption) (y1 : s_ty r0 = 3 := by first | rfl | assumption) (n6 : s_nth f3 50 = some (vi z5) := by first | rfl | assumption) (c7 : In3 x1 := by first | omega | assumption | (simp only [mk_len, List.length_map]; omega) | decide) (c8 : In3 z5 := by first | omega | assumption | (simp only [mk_len, List.length_map]; omega) | decide) : wr P d sw_c604 sw_h604 (10, [r0, vi x1], [], h, kc, ks) Q := by
  refine w_ld rfl rfl (Or.inl ⟨by decide, rfl⟩) ?_
  refine w_ld rfl rfl (Or.inr (Or.inr ⟨by decide, y1⟩)) ?_
  subst e_q2
  refine w_getf rfl g4 n6 ?_
  exact w_if2 rfl c7 c8 k1 k2

theorem k604_18 {P : s_P} {d : Nat} {Q : s_O → Prop} {h : s_H} {kc ks : Nat} {r0 : Term} {x1 : Int} {q2 : Nat} {f3 : List Term} {v5 v7 : Term} {q9 : Nat} {a10 : List Int} {q15 : Nat} {a16 : List Int} (g4 : s_get h q2 = some (1, 11, f3)) (g11 : s_get h q9 = some (0, 0, a10.map vi)) (g17 : s_get h q15 = some (0, 0, a16.map vi)) (k : wr P d sw_c604 sw_h604 (10, [.index q2, vi (x1 + 1)], [], (hp h q15 (0, 0, (a16.set (Int.toNat (x1)) (gi a10 x1)).map vi)), kc, ks) Q) (e_q2 : r0 = .index q2 := by first | rfl | assumption) (e_q9 : v7 = .index q9 := by first | rfl | assumption) (e_q15 : v5 = .index q15 := by first | rfl | assumption) (y1 : s_ty r0 = 3 := by first | rfl | assumption) (n6 : s_nth f3 53 = some v5 := by first | rfl | assumption) (n8 : s_nth f3 51 = some v7 := by first | rfl | assumption) (c12 : x1 < a10.length := by first | omega | assumption | (simp only [mk_len, List.length_map]; omega) | decide) (c13 : 0 ≤ x1 := by first | omega | assumption | (simp only [mk_len, List.length_map]; omega) | decide) (c14 : In3 x1 := by first | omega | assumption | (simp only [mk_len, List.length_map]; omega) | decide) (c18 : x1 < a16.length := by first | omega | assumption | (simp only [mk_len, List.length_map]; omega) | decide) (c19 : 0 < q15 := by first | omega | assumption | (simp only [mk_len, List.length_map]; omega) | decide) : wr P d sw_c604 sw_h604 (18, [r0, vi x1], [], h, kc, ks) Q := by
  refine w_ld rfl rfl (Or.inr (Or.inr ⟨by decide, y1⟩)) ?_
  subst e_q2
  refine w_getf rfl g4 n6 ?_
  refine w_ld rfl rfl (Or.inl ⟨by decide, rfl⟩) ?_
  refine w_ld rfl rfl (Or.inr (Or.inr ⟨by decide, rfl⟩)) ?_
  refine w_getf rfl g4 n8 ?_
  refine w_ld rfl rfl (Or.inl ⟨by decide, rfl⟩) ?_
  subst e_q9
  refine w_iald rfl g11 (Or.inl rfl) c14 c13 c12 ?_
  subst e_q15
  refine w_iast rfl g17 (Nat.ble_eq_true_of_le c19) c14 c13 c18 ?_
  refine w_iinc (ls' := [.index q2, vi (x1 + 1)]) rfl rfl 1 (by decide) rfl ?_
  refine w_goto rfl ?_
  exact k

theorem k604_36 {P : s_P} {d : Nat} {Q : s_O → Prop} {h : s_H} {kc ks : Nat} {r0 : Term} {x1 : Int}  (k : Q (.inl none, h, kc, ks))   : wr P d sw_c604 sw_h604 (36, [r0, vi x1], [], h, kc, ks) Q := by
  exact w_ret rfl k

/-! 605: FormulaWorksModel.term(II)I -/
theorem k605_0 {P : s_P} {d : Nat} {Q : s_O → Prop} {h : s_H} {kc ks : Nat} {r0 : Term} {x1 x2 : Int} {q2 : Nat} {f3 : List Term} (g4 : s_get h q2 = some (1, 11, f3)) (k : wm P d 462 [.index q2, vi x1, vi x2, vi x2] h (wq P d sw_c605 sw_h605 7 [.index q2, vi x1, vi x2] [] kc ks Q)) (e_q2 : r0 = .index q2 := by first | rfl | assumption) (y1 : s_ty r0 = 3 := by first | rfl | assumption)  : wr P d sw_c605 sw_h605 (0, [r0, vi x1, vi x2], [], h, kc, ks) Q := by
  refine w_ld rfl rfl (Or.inr (Or.inr ⟨by decide, y1⟩)) ?_
  refine w_ld rfl rfl (Or.inl ⟨by decide, rfl⟩) ?_
  refine w_ld rfl rfl (Or.inl ⟨by decide, rfl⟩) ?_
  refine w_ld rfl rfl (Or.inl ⟨by decide, rfl⟩) ?_
  subst e_q2
  exact w_cv rfl [.index q2, vi x1, vi x2, vi x2] [] rfl rfl (s_wt_4 rfl) rfl g4 k

theorem k605_7 {P : s_P} {d : Nat} {Q : s_O → Prop} {h : s_H} {kc ks : Nat} {r0 : Term} {x1 x2 s0 : Int}  (k1 : s0 = 0 → wr P d sw_c605 sw_h605 (20, [r0, vi x1, vi x2], [], h, kc, ks) Q) (k2 : ¬ s0 = 0 → wr P d sw_c605 sw_h605 (10, [r0, vi x1, vi x2], [], h, kc, ks) Q)  (c1 : In3 s0 := by first | omega | assumption | (simp only [mk_len, List.length_map]; omega) | decide) : wr P d sw_c605 sw_h605 (7, [r0, vi x1, vi x2], [vi s0], h, kc, ks) Q := by
  exact w_if1 rfl c1 k1 k2

theorem k605_10 {P : s_P} {d : Nat} {Q : s_O → Prop} {h : s_H} {kc ks : Nat} {r0 : Term} {x1 x2 : Int} {q2 : Nat} {f3 : List Term} {v5 : Term} {q7 : Nat} {a8 : List Int} (g4 : s_get h q2 = some (1, 11, f3)) (g9 : s_get h q7 = some (0, 1, a8.map vl)) (k : wr P d sw_c605 sw_h605 (21, [.index q2, vi x1, vi x2], [vi (gi a8 x2)], h, kc, ks) Q) (e_q2 : r0 = .index q2 := by first | rfl | assumption) (e_q7 : v5 = .index q7 := by first | rfl | assumption) (y1 : s_ty r0 = 3 := by first | rfl | assumption) (n6 : s_nth f3 45 = some v5 := by first | rfl | assumption) (c10 : x2 < a8.length := by first | omega | assumption | (simp only [mk_len, List.length_map]; omega) | decide) (c11 : 0 ≤ x2 := by first | omega | assumption | (simp only [mk_len, List.length_map]; omega) | decide) (c12 : In3 x2 := by first | omega | assumption | (simp only [mk_len, List.length_map]; omega) | decide) : wr P d sw_c605 sw_h605 (10, [r0, vi x1, vi x2], [], h, kc, ks) Q := by
  refine w_ld rfl rfl (Or.inr (Or.inr ⟨by decide, y1⟩)) ?_
  subst e_q2
  refine w_getf rfl g4 n6 ?_
  refine w_ld rfl rfl (Or.inl ⟨by decide, rfl⟩) ?_
  subst e_q7
  refine w_lald rfl g9 c12 c11 c10 ?_
  refine w_l2i rfl ?_
  refine w_goto rfl ?_
  exact k

theorem k605_20 {P : s_P} {d : Nat} {Q : s_O → Prop} {h : s_H} {kc ks : Nat} {r0 : Term} {x1 x2 : Int}  (k : wr P d sw_c605 sw_h605 (21, [r0, vi x1, vi x2], [vi 0], h, kc, ks) Q)   : wr P d sw_c605 sw_h605 (20, [r0, vi x1, vi x2], [], h, kc, ks) Q := by
  refine w_c32 rfl (by decide) 0 (by decide) ?_
  exact k

theorem k605_21 {P : s_P} {d : Nat} {Q : s_O → Prop} {h : s_H} {kc ks : Nat} {r0 : Term} {x1 x2 s0 : Int}  (k : Q (.inl (some (vi s0)), h, kc, ks))   : wr P d sw_c605 sw_h605 (21, [r0, vi x1, vi x2], [vi s0], h, kc, ks) Q := by
  exact w_iret rfl k

/-! 606: FormulaWorksModel.thrown()I -/
theorem k606_0 {P : s_P} {d : Nat} {Q : s_O → Prop} {h : s_H} {kc ks : Nat} {r0 : Term} {q2 : Nat} {f3 : List Term} {z5 : Int} (g4 : s_get h q2 = some (1, 11, f3)) (k : Q (.inl (some (vi z5)), h, kc, ks)) (e_q2 : r0 = .index q2 := by first | rfl | assumption) (y1 : s_ty r0 = 3 := by first | rfl | assumption) (n6 : s_nth f3 0 = some (vi z5) := by first | rfl | assumption)  : wr P d sw_c606 sw_h606 (0, [r0], [], h, kc, ks) Q := by
  refine w_ld rfl rfl (Or.inr (Or.inr ⟨by decide, y1⟩)) ?_
  subst e_q2
  refine w_getf rfl g4 n6 ?_
  exact w_iret rfl k

/-! 607: FormulaWorksModel.times(II)I -/
theorem k607_0 {P : s_P} {d : Nat} {Q : s_O → Prop} {h : s_H} {kc ks : Nat} {r0 : Term} {x1 x2 : Int} {q2 : Nat} {f3 : List Term} (g4 : s_get h q2 = some (1, 11, f3)) (k : wm P d 401 [.index q2, vi x1, vi x2, vi 1] h (wq P d sw_c607 sw_h607 7 [.index q2, vi x1, vi x2] [] kc ks Q)) (e_q2 : r0 = .index q2 := by first | rfl | assumption) (y1 : s_ty r0 = 3 := by first | rfl | assumption)  : wr P d sw_c607 sw_h607 (0, [r0, vi x1, vi x2], [], h, kc, ks) Q := by
  refine w_ld rfl rfl (Or.inr (Or.inr ⟨by decide, y1⟩)) ?_
  refine w_ld rfl rfl (Or.inl ⟨by decide, rfl⟩) ?_
  refine w_ld rfl rfl (Or.inl ⟨by decide, rfl⟩) ?_
  refine w_c32 rfl (by decide) 1 (by decide) ?_
  subst e_q2
  exact w_cv rfl [.index q2, vi x1, vi x2, vi 1] [] rfl rfl (s_wt_4 rfl) rfl g4 k

theorem k607_7 {P : s_P} {d : Nat} {Q : s_O → Prop} {h : s_H} {kc ks : Nat} {r0 : Term} {x1 x2 s0 : Int}  (k1 : s0 ≠ 0 → wr P d sw_c607 sw_h607 (12, [r0, vi x1, vi x2], [], h, kc, ks) Q) (k2 : ¬ s0 ≠ 0 → wr P d sw_c607 sw_h607 (10, [r0, vi x1, vi x2], [], h, kc, ks) Q)  (c1 : In3 s0 := by first | omega | assumption | (simp only [mk_len, List.length_map]; omega) | decide) : wr P d sw_c607 sw_h607 (7, [r0, vi x1, vi x2], [vi s0], h, kc, ks) Q := by
  exact w_if1 rfl c1 k1 k2

theorem k607_10 {P : s_P} {d : Nat} {Q : s_O → Prop} {h : s_H} {kc ks : Nat} {r0 : Term} {x1 x2 : Int}  (k : Q (.inl (some (vi 0)), h, kc, ks))   : wr P d sw_c607 sw_h607 (10, [r0, vi x1, vi x2], [], h, kc, ks) Q := by
  refine w_c32 rfl (by decide) 0 (by decide) ?_
  exact w_iret rfl k

theorem k607_12 {P : s_P} {d : Nat} {Q : s_O → Prop} {h : s_H} {kc ks : Nat} {r0 : Term} {x1 x2 : Int} {q2 : Nat} {f3 : List Term} (g4 : s_get h q2 = some (1, 11, f3)) (k : wm P d 469 [.index q2, vi x1, vi 2] h (wq P d sw_c607 sw_h607 18 [.index q2, vi x1, vi x2] [] kc ks Q)) (e_q2 : r0 = .index q2 := by first | rfl | assumption) (y1 : s_ty r0 = 3 := by first | rfl | assumption)  : wr P d sw_c607 sw_h607 (12, [r0, vi x1, vi x2], [], h, kc, ks) Q := by
  refine w_ld rfl rfl (Or.inr (Or.inr ⟨by decide, y1⟩)) ?_
  refine w_ld rfl rfl (Or.inl ⟨by decide, rfl⟩) ?_
  refine w_c32 rfl (by decide) 2 (by decide) ?_
  subst e_q2
  exact w_cv rfl [.index q2, vi x1, vi 2] [] rfl rfl (s_wt_4 rfl) rfl g4 k

theorem k607_18 {P : s_P} {d : Nat} {Q : s_O → Prop} {h : s_H} {kc ks : Nat} {r0 : Term} {x1 x2 s0 : Int}  (k1 : s0 = 0 → wr P d sw_c607 sw_h607 (28, [r0, vi x1, vi x2], [], h, kc, ks) Q) (k2 : ¬ s0 = 0 → wr P d sw_c607 sw_h607 (21, [r0, vi x1, vi x2], [], h, kc, ks) Q)  (c1 : In3 s0 := by first | omega | assumption | (simp only [mk_len, List.length_map]; omega) | decide) : wr P d sw_c607 sw_h607 (18, [r0, vi x1, vi x2], [vi s0], h, kc, ks) Q := by
  exact w_if1 rfl c1 k1 k2

theorem k607_21 {P : s_P} {d : Nat} {Q : s_O → Prop} {h : s_H} {kc ks : Nat} {r0 : Term} {x1 x2 : Int} {q2 : Nat} {f3 : List Term} (g4 : s_get h q2 = some (1, 11, f3)) (k : wm P d 533 [.index q2, vi x1, vi x2] h (wq P d sw_c607 sw_h607 27 [.index q2, vi x1, vi x2] [] kc ks Q)) (e_q2 : r0 = .index q2 := by first | rfl | assumption) (y1 : s_ty r0 = 3 := by first | rfl | assumption)  : wr P d sw_c607 sw_h607 (21, [r0, vi x1, vi x2], [], h, kc, ks) Q := by
  refine w_ld rfl rfl (Or.inr (Or.inr ⟨by decide, y1⟩)) ?_
  refine w_ld rfl rfl (Or.inl ⟨by decide, rfl⟩) ?_
  refine w_ld rfl rfl (Or.inl ⟨by decide, rfl⟩) ?_
  subst e_q2
  exact w_cv rfl [.index q2, vi x1, vi x2] [] rfl rfl (s_wt_4 rfl) rfl g4 k

theorem k607_27 {P : s_P} {d : Nat} {Q : s_O → Prop} {h : s_H} {kc ks : Nat} {r0 : Term} {x1 x2 s0 : Int}  (k : Q (.inl (some (vi s0)), h, kc, ks))   : wr P d sw_c607 sw_h607 (27, [r0, vi x1, vi x2], [vi s0], h, kc, ks) Q := by
  exact w_iret rfl k

theorem k607_28 {P : s_P} {d : Nat} {Q : s_O → Prop} {h : s_H} {kc ks : Nat} {r0 : Term} {x1 x2 : Int} {q2 : Nat} {f3 : List Term} (g4 : s_get h q2 = some (1, 11, f3)) (k : wm P d 469 [.index q2, vi x1, vi 1] h (wq P d sw_c607 sw_h607 34 [.index q2, vi x1, vi x2] [] kc ks Q)) (e_q2 : r0 = .index q2 := by first | rfl | assumption) (y1 : s_ty r0 = 3 := by first | rfl | assumption)  : wr P d sw_c607 sw_h607 (28, [r0, vi x1, vi x2], [], h, kc, ks) Q := by
  refine w_ld rfl rfl (Or.inr (Or.inr ⟨by decide, y1⟩)) ?_
  refine w_ld rfl rfl (Or.inl ⟨by decide, rfl⟩) ?_
  refine w_c32 rfl (by decide) 1 (by decide) ?_
  subst e_q2
  exact w_cv rfl [.index q2, vi x1, vi 1] [] rfl rfl (s_wt_4 rfl) rfl g4 k

theorem k607_34 {P : s_P} {d : Nat} {Q : s_O → Prop} {h : s_H} {kc ks : Nat} {r0 : Term} {x1 x2 s0 : Int}  (k1 : s0 = 0 → wr P d sw_c607 sw_h607 (66, [r0, vi x1, vi x2], [], h, kc, ks) Q) (k2 : ¬ s0 = 0 → wr P d sw_c607 sw_h607 (37, [r0, vi x1, vi x2], [], h, kc, ks) Q)  (c1 : In3 s0 := by first | omega | assumption | (simp only [mk_len, List.length_map]; omega) | decide) : wr P d sw_c607 sw_h607 (34, [r0, vi x1, vi x2], [vi s0], h, kc, ks) Q := by
  exact w_if1 rfl c1 k1 k2

theorem k607_37 {P : s_P} {d : Nat} {Q : s_O → Prop} {h : s_H} {kc ks : Nat} {r0 : Term} {x1 x2 : Int} {q2 : Nat} {f3 : List Term} {v5 v7 : Term} (g4 : s_get h q2 = some (1, 11, f3)) (k : wm P d 531 [.index q2, v5, v7] h (wq P d sw_c607 sw_h607 49 [.index q2, vi x1, vi x2] [] kc ks Q)) (e_q2 : r0 = .index q2 := by first | rfl | assumption) (y1 : s_ty r0 = 3 := by first | rfl | assumption) (n6 : s_nth f3 10 = some v5 := by first | rfl | assumption) (n8 : s_nth f3 12 = some v7 := by first | rfl | assumption)  : wr P d sw_c607 sw_h607 (37, [r0, vi x1, vi x2], [], h, kc, ks) Q := by
  refine w_ld rfl rfl (Or.inr (Or.inr ⟨by decide, y1⟩)) ?_
  refine w_ld rfl rfl (Or.inr (Or.inr ⟨by decide, y1⟩)) ?_
  subst e_q2
  refine w_getf rfl g4 n6 ?_
  refine w_ld rfl rfl (Or.inr (Or.inr ⟨by decide, rfl⟩)) ?_
  refine w_getf rfl g4 n8 ?_
  exact w_cv rfl [.index q2, v5, v7] [] rfl rfl (s_wt_4 rfl) rfl g4 k

theorem k607_49 {P : s_P} {d : Nat} {Q : s_O → Prop} {h : s_H} {kc ks : Nat} {r0 : Term} {x1 x2 : Int} {q2 : Nat} {f3 : List Term} {v5 v7 : Term} (g4 : s_get h q2 = some (1, 11, f3)) (k : wm P d 425 [v5, v7] h (wq P d sw_c607 sw_h607 60 [.index q2, vi x1, vi x2] [] kc ks Q)) (e_q2 : r0 = .index q2 := by first | rfl | assumption) (y1 : s_ty r0 = 3 := by first | rfl | assumption) (n6 : s_nth f3 14 = some v5 := by first | rfl | assumption) (n8 : s_nth f3 16 = some v7 := by first | rfl | assumption)  : wr P d sw_c607 sw_h607 (49, [r0, vi x1, vi x2], [], h, kc, ks) Q := by
  refine w_ld rfl rfl (Or.inr (Or.inr ⟨by decide, y1⟩)) ?_
  subst e_q2
  refine w_getf rfl g4 n6 ?_
  refine w_ld rfl rfl (Or.inr (Or.inr ⟨by decide, rfl⟩)) ?_
  refine w_getf rfl g4 n8 ?_
  exact w_cs rfl [v5, v7] [] rfl rfl (s_wt_4 rfl) k

theorem k607_60 {P : s_P} {d : Nat} {Q : s_O → Prop} {h : s_H} {kc ks : Nat} {r0 : Term} {x1 x2 : Int} {q2 : Nat} {f3 : List Term} (g4 : s_get h q2 = some (1, 11, f3)) (k : wm P d 499 [.index q2, vi 3] h (wq P d sw_c607 sw_h607 65 [.index q2, vi x1, vi x2] [] kc ks Q)) (e_q2 : r0 = .index q2 := by first | rfl | assumption) (y1 : s_ty r0 = 3 := by first | rfl | assumption)  : wr P d sw_c607 sw_h607 (60, [r0, vi x1, vi x2], [], h, kc, ks) Q := by
  refine w_ld rfl rfl (Or.inr (Or.inr ⟨by decide, y1⟩)) ?_
  refine w_c32 rfl (by decide) 3 (by decide) ?_
  subst e_q2
  exact w_cv rfl [.index q2, vi 3] [] rfl rfl (s_wt_4 rfl) rfl g4 k

theorem k607_65 {P : s_P} {d : Nat} {Q : s_O → Prop} {h : s_H} {kc ks : Nat} {r0 : Term} {x1 x2 s0 : Int}  (k : Q (.inl (some (vi s0)), h, kc, ks))   : wr P d sw_c607 sw_h607 (65, [r0, vi x1, vi x2], [vi s0], h, kc, ks) Q := by
  exact w_iret rfl k

theorem k607_66 {P : s_P} {d : Nat} {Q : s_O → Prop} {h : s_H} {kc ks : Nat} {r0 : Term} {x1 x2 : Int} {q2 : Nat} {f3 : List Term} (g4 : s_get h q2 = some (1, 11, f3)) (k : wm P d 564 [.index q2] h (wq P d sw_c607 sw_h607 70 [.index q2, vi x1, vi x2] [] kc ks Q)) (e_q2 : r0 = .index q2 := by first | rfl | assumption) (y1 : s_ty r0 = 3 := by first | rfl | assumption)  : wr P d sw_c607 sw_h607 (66, [r0, vi x1, vi x2], [], h, kc, ks) Q := by
  refine w_ld rfl rfl (Or.inr (Or.inr ⟨by decide, y1⟩)) ?_
  subst e_q2
  exact w_cv rfl [.index q2] [] rfl rfl (s_wt_4 rfl) rfl g4 k

theorem k607_70 {P : s_P} {d : Nat} {Q : s_O → Prop} {h : s_H} {kc ks : Nat} {r0 : Term} {x1 x2 : Int} {q2 : Nat} {f3 : List Term} (g4 : s_get h q2 = some (1, 11, f3)) (k : wm P d 495 [.index q2, vi 3] h (wq P d sw_c607 sw_h607 75 [.index q2, vi x1, vi x2] [] kc ks Q)) (e_q2 : r0 = .index q2 := by first | rfl | assumption) (y1 : s_ty r0 = 3 := by first | rfl | assumption)  : wr P d sw_c607 sw_h607 (70, [r0, vi x1, vi x2], [], h, kc, ks) Q := by
  refine w_ld rfl rfl (Or.inr (Or.inr ⟨by decide, y1⟩)) ?_
  refine w_c32 rfl (by decide) 3 (by decide) ?_
  subst e_q2
  exact w_cv rfl [.index q2, vi 3] [] rfl rfl (s_wt_4 rfl) rfl g4 k

theorem k607_75 {P : s_P} {d : Nat} {Q : s_O → Prop} {h : s_H} {kc ks : Nat} {r0 : Term} {x1 x2 s0 : Int}  (k : Q (.inl (some (vi s0)), h, kc, ks))   : wr P d sw_c607 sw_h607 (75, [r0, vi x1, vi x2], [vi s0], h, kc, ks) Q := by
  exact w_iret rfl k

