/-! 411: FormulaWorksModel.byteAt(I)I -/
theorem k411_0 {P : s_P} {d : Nat} {Q : s_O → Prop} {h : s_H} {kc ks : Nat} {r0 : Term} {x1 : Int} {q2 : Nat} {f3 : List Term} {z5 : Int} (g4 : s_get h q2 = some (1, 11, f3)) (k1 : z5 ≤ x1 → wr P d sw_c411 sw_h411 (17, [.index q2, vi x1], [], h, kc, ks) Q) (k2 : ¬ z5 ≤ x1 → wr P d sw_c411 sw_h411 (8, [.index q2, vi x1], [], h, kc, ks) Q) (e_q2 : r0 = .index q2 := by first | rfl | assumption) (y1 : s_ty r0 = 3 := by first | rfl | assumption) (n6 : s_nth f3 52 = some (vi z5) := by first | rfl | assumption) (c7 : In3 x1 := by first | omega | assumption | (simp only [mk_len, List.length_map]; omega) | decide) (c8 : In3 z5 := by first | omega | assumption | (simp only [mk_len, List.length_map]; omega) | decide) : wr P d sw_c411 sw_h411 (0, [r0, vi x1], [], h, kc, ks) Q := by
  refine w_ld rfl rfl (Or.inl ⟨by decide, rfl⟩) ?_
  refine w_ld rfl rfl (Or.inr (Or.inr ⟨by decide, y1⟩)) ?_
  subst e_q2
  refine w_getf rfl g4 n6 ?_
  exact w_if2 rfl c7 c8 k1 k2

theorem k411_8 {P : s_P} {d : Nat} {Q : s_O → Prop} {h : s_H} {kc ks : Nat} {r0 : Term} {x1 : Int} {q2 : Nat} {f3 : List Term} {v5 : Term} {q7 : Nat} {a8 : List Int} (g4 : s_get h q2 = some (1, 11, f3)) (g9 : s_get h q7 = some (0, 0, a8.map vi)) (k : wr P d sw_c411 sw_h411 (18, [.index q2, vi x1], [vi (gi a8 x1)], h, kc, ks) Q) (e_q2 : r0 = .index q2 := by first | rfl | assumption) (e_q7 : v5 = .index q7 := by first | rfl | assumption) (y1 : s_ty r0 = 3 := by first | rfl | assumption) (n6 : s_nth f3 53 = some v5 := by first | rfl | assumption) (c10 : x1 < a8.length := by first | omega | assumption | (simp only [mk_len, List.length_map]; omega) | decide) (c11 : 0 ≤ x1 := by first | omega | assumption | (simp only [mk_len, List.length_map]; omega) | decide) (c12 : In3 x1 := by first | omega | assumption | (simp only [mk_len, List.length_map]; omega) | decide) : wr P d sw_c411 sw_h411 (8, [r0, vi x1], [], h, kc, ks) Q := by
  refine w_ld rfl rfl (Or.inr (Or.inr ⟨by decide, y1⟩)) ?_
  subst e_q2
  refine w_getf rfl g4 n6 ?_
  refine w_ld rfl rfl (Or.inl ⟨by decide, rfl⟩) ?_
  subst e_q7
  refine w_iald rfl g9 (Or.inl rfl) c12 c11 c10 ?_
  refine w_goto rfl ?_
  exact k

theorem k411_17 {P : s_P} {d : Nat} {Q : s_O → Prop} {h : s_H} {kc ks : Nat} {r0 : Term} {x1 : Int}  (k : wr P d sw_c411 sw_h411 (18, [r0, vi x1], [vi 0], h, kc, ks) Q)   : wr P d sw_c411 sw_h411 (17, [r0, vi x1], [], h, kc, ks) Q := by
  refine w_c32 rfl (by decide) 0 (by decide) ?_
  exact k

theorem k411_18 {P : s_P} {d : Nat} {Q : s_O → Prop} {h : s_H} {kc ks : Nat} {r0 : Term} {x1 s0 : Int}  (k : Q (.inl (some (vi s0)), h, kc, ks))   : wr P d sw_c411 sw_h411 (18, [r0, vi x1], [vi s0], h, kc, ks) Q := by
  exact w_iret rfl k

/-! 412: FormulaWorksModel.cell(II)I -/
theorem k412_0 {P : s_P} {d : Nat} {Q : s_O → Prop} {h : s_H} {kc ks : Nat} {r0 : Term} {x1 x2 : Int} {t3 t4 : Term}  (k : wm P d 464 [vl x1, vl 0, vl 15] h (wq P d sw_c412 sw_h412 10 [r0, vi x1, vi x2, t3, t4] [r0] kc ks Q)) (y1 : s_ty r0 = 3 := by first | rfl | assumption) (c2 : In3 x1 := by first | omega | assumption | (simp only [mk_len, List.length_map]; omega) | decide) : wr P d sw_c412 sw_h412 (0, [r0, vi x1, vi x2, t3, t4], [], h, kc, ks) Q := by
  refine w_ld rfl rfl (Or.inr (Or.inr ⟨by decide, y1⟩)) ?_
  refine w_ld rfl rfl (Or.inl ⟨by decide, rfl⟩) ?_
  refine w_i2l rfl c2 ?_
  refine w_c64 rfl (by decide) 0 (by decide) ?_
  refine w_c64 rfl (by decide) 15 (by decide) ?_
  exact w_cs rfl [vl x1, vl 0, vl 15] [r0] rfl rfl (s_wt_4 rfl) k

theorem k412_10 {P : s_P} {d : Nat} {Q : s_O → Prop} {h : s_H} {kc ks : Nat} {r0 : Term} {x1 x2 : Int} {t3 t4 s0 : Term} {s1 : Int}  (k1 : s1 ≠ 0 → wr P d sw_c412 sw_h412 (17, [r0, vi x1, vi x2, t3, t4], [s0], h, kc, ks) Q) (k2 : ¬ s1 ≠ 0 → wr P d sw_c412 sw_h412 (13, [r0, vi x1, vi x2, t3, t4], [s0], h, kc, ks) Q)  (c1 : In3 s1 := by first | omega | assumption | (simp only [mk_len, List.length_map]; omega) | decide) : wr P d sw_c412 sw_h412 (10, [r0, vi x1, vi x2, t3, t4], [vi s1, s0], h, kc, ks) Q := by
  exact w_if1 rfl c1 k1 k2

theorem k412_13 {P : s_P} {d : Nat} {Q : s_O → Prop} {h : s_H} {kc ks : Nat} {r0 : Term} {x1 x2 : Int} {t3 t4 s0 : Term}  (k : wr P d sw_c412 sw_h412 (34, [r0, vi x1, vi x2, t3, t4], [vi 1, s0], h, kc, ks) Q)   : wr P d sw_c412 sw_h412 (13, [r0, vi x1, vi x2, t3, t4], [s0], h, kc, ks) Q := by
  refine w_c32 rfl (by decide) 1 (by decide) ?_
  refine w_goto rfl ?_
  exact k

theorem k412_17 {P : s_P} {d : Nat} {Q : s_O → Prop} {h : s_H} {kc ks : Nat} {r0 : Term} {x1 x2 : Int} {t3 t4 s0 : Term}  (k : wm P d 464 [vl x2, vl 0, vl 3] h (wq P d sw_c412 sw_h412 26 [r0, vi x1, vi x2, t3, t4] [s0] kc ks Q))  (c1 : In3 x2 := by first | omega | assumption | (simp only [mk_len, List.length_map]; omega) | decide) : wr P d sw_c412 sw_h412 (17, [r0, vi x1, vi x2, t3, t4], [s0], h, kc, ks) Q := by
  refine w_ld rfl rfl (Or.inl ⟨by decide, rfl⟩) ?_
  refine w_i2l rfl c1 ?_
  refine w_c64 rfl (by decide) 0 (by decide) ?_
  refine w_c64 rfl (by decide) 3 (by decide) ?_
  exact w_cs rfl [vl x2, vl 0, vl 3] [s0] rfl rfl (s_wt_4 rfl) k

theorem k412_26 {P : s_P} {d : Nat} {Q : s_O → Prop} {h : s_H} {kc ks : Nat} {r0 : Term} {x1 x2 : Int} {t3 t4 s0 : Term} {s1 : Int}  (k1 : s1 ≠ 0 → wr P d sw_c412 sw_h412 (33, [r0, vi x1, vi x2, t3, t4], [s0], h, kc, ks) Q) (k2 : ¬ s1 ≠ 0 → wr P d sw_c412 sw_h412 (29, [r0, vi x1, vi x2, t3, t4], [s0], h, kc, ks) Q)  (c1 : In3 s1 := by first | omega | assumption | (simp only [mk_len, List.length_map]; omega) | decide) : wr P d sw_c412 sw_h412 (26, [r0, vi x1, vi x2, t3, t4], [vi s1, s0], h, kc, ks) Q := by
  exact w_if1 rfl c1 k1 k2

theorem k412_29 {P : s_P} {d : Nat} {Q : s_O → Prop} {h : s_H} {kc ks : Nat} {r0 : Term} {x1 x2 : Int} {t3 t4 s0 : Term}  (k : wr P d sw_c412 sw_h412 (34, [r0, vi x1, vi x2, t3, t4], [vi 2, s0], h, kc, ks) Q)   : wr P d sw_c412 sw_h412 (29, [r0, vi x1, vi x2, t3, t4], [s0], h, kc, ks) Q := by
  refine w_c32 rfl (by decide) 2 (by decide) ?_
  refine w_goto rfl ?_
  exact k

theorem k412_33 {P : s_P} {d : Nat} {Q : s_O → Prop} {h : s_H} {kc ks : Nat} {r0 : Term} {x1 x2 : Int} {t3 t4 s0 : Term}  (k : wr P d sw_c412 sw_h412 (34, [r0, vi x1, vi x2, t3, t4], [vi 0, s0], h, kc, ks) Q)   : wr P d sw_c412 sw_h412 (33, [r0, vi x1, vi x2, t3, t4], [s0], h, kc, ks) Q := by
  refine w_c32 rfl (by decide) 0 (by decide) ?_
  exact k

theorem k412_34 {P : s_P} {d : Nat} {Q : s_O → Prop} {h : s_H} {kc ks : Nat} {r0 : Term} {x1 x2 : Int} {t3 t4 s0 : Term} {s1 : Int} {q1 : Nat} {f2 : List Term} {q7 : Nat} {f8 : List Term} {z10 : Int} (g3 : s_get h q1 = some (1, 11, f2)) (g9 : s_get (hp h q1 (1, 11, f2.set 0 (vi s1))) q7 = some (1, 11, f8)) (k1 : z10 ≤ 0 → wr P d sw_c412 sw_h412 (46, [.index q7, vi x1, vi x2, t3, t4], [], (hp h q1 (1, 11, f2.set 0 (vi s1))), kc, ks) Q) (k2 : ¬ z10 ≤ 0 → wr P d sw_c412 sw_h412 (44, [.index q7, vi x1, vi x2, t3, t4], [], (hp h q1 (1, 11, f2.set 0 (vi s1))), kc, ks) Q) (e_q1 : s0 = .index q1 := by first | rfl | assumption) (e_q7 : r0 = .index q7 := by first | rfl | assumption) (l4 : 0 < f2.length := by first | exact Nat.le_of_ble_eq_true rfl | omega | assumption) (y6 : s_ty r0 = 3 := by first | rfl | assumption) (n11 : s_nth f8 0 = some (vi z10) := by first | rfl | assumption) (c5 : 0 < q1 := by first | omega | assumption | (simp only [mk_len, List.length_map]; omega) | decide) (c12 : In3 z10 := by first | omega | assumption | (simp only [mk_len, List.length_map]; omega) | decide) : wr P d sw_c412 sw_h412 (34, [r0, vi x1, vi x2, t3, t4], [vi s1, s0], h, kc, ks) Q := by
  subst e_q1
  refine w_putf rfl g3 (Nat.ble_eq_true_of_le c5) rfl (Nat.ble_eq_true_of_le l4) ?_
  refine w_ld rfl rfl (Or.inr (Or.inr ⟨by decide, y6⟩)) ?_
  subst e_q7
  refine w_getf rfl g9 n11 ?_
  exact w_if1 rfl c12 k1 k2

theorem k412_44 {P : s_P} {d : Nat} {Q : s_O → Prop} {h : s_H} {kc ks : Nat} {r0 : Term} {x1 x2 : Int} {t3 t4 : Term}  (k : Q (.inl (some (vi 0)), h, kc, ks))   : wr P d sw_c412 sw_h412 (44, [r0, vi x1, vi x2, t3, t4], [], h, kc, ks) Q := by
  refine w_c32 rfl (by decide) 0 (by decide) ?_
  exact w_iret rfl k

theorem k412_46 {P : s_P} {d : Nat} {Q : s_O → Prop} {h : s_H} {kc ks : Nat} {r0 : Term} {x1 x2 : Int} {t3 t4 : Term}  (k1 : x2 ≠ 3 → wr P d sw_c412 sw_h412 (60, [r0, vi x1, vi x2, t3, t4], [], h, kc, ks) Q) (k2 : ¬ x2 ≠ 3 → wr P d sw_c412 sw_h412 (51, [r0, vi x1, vi x2, t3, t4], [], h, kc, ks) Q)  (c1 : In3 x2 := by first | omega | assumption | (simp only [mk_len, List.length_map]; omega) | decide) : wr P d sw_c412 sw_h412 (46, [r0, vi x1, vi x2, t3, t4], [], h, kc, ks) Q := by
  refine w_ld rfl rfl (Or.inl ⟨by decide, rfl⟩) ?_
  refine w_c32 rfl (by decide) 3 (by decide) ?_
  exact w_if2 rfl c1 (by decide) k1 k2

theorem k412_51 {P : s_P} {d : Nat} {Q : s_O → Prop} {h : s_H} {kc ks : Nat} {r0 : Term} {x1 x2 : Int} {t3 t4 : Term} {q2 : Nat} {f3 : List Term} (g4 : s_get h q2 = some (1, 11, f3)) (k : wm P d 460 [.index q2, vi x1] h (wq P d sw_c412 sw_h412 56 [.index q2, vi x1, vi x2, t3, t4] [] kc ks Q)) (e_q2 : r0 = .index q2 := by first | rfl | assumption) (y1 : s_ty r0 = 3 := by first | rfl | assumption)  : wr P d sw_c412 sw_h412 (51, [r0, vi x1, vi x2, t3, t4], [], h, kc, ks) Q := by
  refine w_ld rfl rfl (Or.inr (Or.inr ⟨by decide, y1⟩)) ?_
  refine w_ld rfl rfl (Or.inl ⟨by decide, rfl⟩) ?_
  subst e_q2
  exact w_cv rfl [.index q2, vi x1] [] rfl rfl (s_wt_4 rfl) rfl g4 k

theorem k412_56 {P : s_P} {d : Nat} {Q : s_O → Prop} {h : s_H} {kc ks : Nat} {r0 : Term} {x1 x2 : Int} {t3 t4 : Term} {s0 : Int}  (k : wm P d 524 [vi s0] h (wq P d sw_c412 sw_h412 59 [r0, vi x1, vi x2, t3, t4] [] kc ks Q))   : wr P d sw_c412 sw_h412 (56, [r0, vi x1, vi x2, t3, t4], [vi s0], h, kc, ks) Q := by
  exact w_cs rfl [vi s0] [] rfl rfl (s_wt_4 rfl) k

theorem k412_59 {P : s_P} {d : Nat} {Q : s_O → Prop} {h : s_H} {kc ks : Nat} {r0 : Term} {x1 x2 : Int} {t3 t4 : Term} {s0 : Int}  (k : Q (.inl (some (vi s0)), h, kc, ks))   : wr P d sw_c412 sw_h412 (59, [r0, vi x1, vi x2, t3, t4], [vi s0], h, kc, ks) Q := by
  exact w_iret rfl k

theorem k412_60 {P : s_P} {d : Nat} {Q : s_O → Prop} {h : s_H} {kc ks : Nat} {r0 : Term} {x1 x2 : Int} {t3 t4 : Term} {q2 : Nat} {f3 : List Term} (g4 : s_get h q2 = some (1, 11, f3)) (k : wm P d 616 [.index q2, vi x1] h (wq P d sw_c412 sw_h412 65 [.index q2, vi x1, vi x2, t3, t4] [] kc ks Q)) (e_q2 : r0 = .index q2 := by first | rfl | assumption) (y1 : s_ty r0 = 3 := by first | rfl | assumption)  : wr P d sw_c412 sw_h412 (60, [r0, vi x1, vi x2, t3, t4], [], h, kc, ks) Q := by
  refine w_ld rfl rfl (Or.inr (Or.inr ⟨by decide, y1⟩)) ?_
  refine w_ld rfl rfl (Or.inl ⟨by decide, rfl⟩) ?_
  subst e_q2
  exact w_cv rfl [.index q2, vi x1] [] rfl rfl (s_wt_4 rfl) rfl g4 k

theorem k412_65 {P : s_P} {d : Nat} {Q : s_O → Prop} {h : s_H} {kc ks : Nat} {r0 : Term} {x1 x2 : Int} {t3 t4 : Term} {q2 : Nat} {f3 : List Term} (g4 : s_get h q2 = some (1, 11, f3)) (k : wm P d 474 [.index q2, vi x1] h (wq P d sw_c412 sw_h412 70 [.index q2, vi x1, vi x2, t3, t4] [] kc ks Q)) (e_q2 : r0 = .index q2 := by first | rfl | assumption) (y1 : s_ty r0 = 3 := by first | rfl | assumption)  : wr P d sw_c412 sw_h412 (65, [r0, vi x1, vi x2, t3, t4], [], h, kc, ks) Q := by
  refine w_ld rfl rfl (Or.inr (Or.inr ⟨by decide, y1⟩)) ?_
  refine w_ld rfl rfl (Or.inl ⟨by decide, rfl⟩) ?_
  subst e_q2
  exact w_cv rfl [.index q2, vi x1] [] rfl rfl (s_wt_4 rfl) rfl g4 k

theorem k412_70 {P : s_P} {d : Nat} {Q : s_O → Prop} {h : s_H} {kc ks : Nat} {r0 : Term} {x1 x2 : Int} {t3 t4 : Term} {s0 : Int} {q2 : Nat} {f3 : List Term} {v5 : Term} {q7 : Nat} {a8 : List Int} (g4 : s_get h q2 = some (1, 11, f3)) (g9 : s_get h q7 = some (0, 0, a8.map vi)) (k1 : gi a8 x1 ≠ 0 → wr P d sw_c412 sw_h412 (84, [.index q2, vi x1, vi x2, vi s0, t4], [], h, kc, ks) Q) (k2 : ¬ gi a8 x1 ≠ 0 → wr P d sw_c412 sw_h412 (80, [.index q2, vi x1, vi x2, vi s0, t4], [], h, kc, ks) Q) (e_q2 : r0 = .index q2 := by first | rfl | assumption) (e_q7 : v5 = .index q7 := by first | rfl | assumption) (y1 : s_ty r0 = 3 := by first | rfl | assumption) (n6 : s_nth f3 101 = some v5 := by first | rfl | assumption) (c10 : x1 < a8.length := by first | omega | assumption | (simp only [mk_len, List.length_map]; omega) | decide) (c11 : 0 ≤ x1 := by first | omega | assumption | (simp only [mk_len, List.length_map]; omega) | decide) (c12 : In3 x1 := by first | omega | assumption | (simp only [mk_len, List.length_map]; omega) | decide) (c13 : In3 (gi a8 x1) := by first | omega | assumption | (simp only [mk_len, List.length_map]; omega) | decide) : wr P d sw_c412 sw_h412 (70, [r0, vi x1, vi x2, t3, t4], [vi s0], h, kc, ks) Q := by
  refine w_st (ls' := [r0, vi x1, vi x2, vi s0, t4]) rfl (Or.inl ⟨by decide, rfl⟩) rfl ?_
  refine w_ld rfl rfl (Or.inr (Or.inr ⟨by decide, y1⟩)) ?_
  subst e_q2
  refine w_getf rfl g4 n6 ?_
  refine w_ld rfl rfl (Or.inl ⟨by decide, rfl⟩) ?_
  subst e_q7
  refine w_iald rfl g9 (Or.inl rfl) c12 c11 c10 ?_
  exact w_if1 rfl c13 k1 k2

theorem k412_80 {P : s_P} {d : Nat} {Q : s_O → Prop} {h : s_H} {kc ks : Nat} {r0 : Term} {x1 x2 x3 : Int} {t4 : Term}  (k : wr P d sw_c412 sw_h412 (99, [r0, vi x1, vi x2, vi x3, t4], [vi 0], h, kc, ks) Q)   : wr P d sw_c412 sw_h412 (80, [r0, vi x1, vi x2, vi x3, t4], [], h, kc, ks) Q := by
  refine w_c32 rfl (by decide) 0 (by decide) ?_
  refine w_goto rfl ?_
  exact k

theorem k412_84 {P : s_P} {d : Nat} {Q : s_O → Prop} {h : s_H} {kc ks : Nat} {r0 : Term} {x1 x2 x3 : Int} {t4 : Term}  (k1 : x3 = 0 → wr P d sw_c412 sw_h412 (93, [r0, vi x1, vi x2, vi x3, t4], [], h, kc, ks) Q) (k2 : ¬ x3 = 0 → wr P d sw_c412 sw_h412 (88, [r0, vi x1, vi x2, vi x3, t4], [], h, kc, ks) Q)  (c1 : In3 x3 := by first | omega | assumption | (simp only [mk_len, List.length_map]; omega) | decide) : wr P d sw_c412 sw_h412 (84, [r0, vi x1, vi x2, vi x3, t4], [], h, kc, ks) Q := by
  refine w_ld rfl rfl (Or.inl ⟨by decide, rfl⟩) ?_
  exact w_if1 rfl c1 k1 k2

theorem k412_88 {P : s_P} {d : Nat} {Q : s_O → Prop} {h : s_H} {kc ks : Nat} {r0 : Term} {x1 x2 x3 : Int} {t4 : Term}  (k : wr P d sw_c412 sw_h412 (99, [r0, vi x1, vi x2, vi x3, t4], [vi 8], h, kc, ks) Q)   : wr P d sw_c412 sw_h412 (88, [r0, vi x1, vi x2, vi x3, t4], [], h, kc, ks) Q := by
  refine w_c32 rfl (by decide) 8 (by decide) ?_
  refine w_goto rfl ?_
  exact k

theorem k412_93 {P : s_P} {d : Nat} {Q : s_O → Prop} {h : s_H} {kc ks : Nat} {r0 : Term} {x1 x2 x3 : Int} {t4 : Term} {q2 : Nat} {f3 : List Term} {v5 : Term} {q7 : Nat} {a8 : List Int} (g4 : s_get h q2 = some (1, 11, f3)) (g9 : s_get h q7 = some (0, 0, a8.map vi)) (k : wr P d sw_c412 sw_h412 (99, [.index q2, vi x1, vi x2, vi x3, t4], [vi (gi a8 x1)], h, kc, ks) Q) (e_q2 : r0 = .index q2 := by first | rfl | assumption) (e_q7 : v5 = .index q7 := by first | rfl | assumption) (y1 : s_ty r0 = 3 := by first | rfl | assumption) (n6 : s_nth f3 105 = some v5 := by first | rfl | assumption) (c10 : x1 < a8.length := by first | omega | assumption | (simp only [mk_len, List.length_map]; omega) | decide) (c11 : 0 ≤ x1 := by first | omega | assumption | (simp only [mk_len, List.length_map]; omega) | decide) (c12 : In3 x1 := by first | omega | assumption | (simp only [mk_len, List.length_map]; omega) | decide) : wr P d sw_c412 sw_h412 (93, [r0, vi x1, vi x2, vi x3, t4], [], h, kc, ks) Q := by
  refine w_ld rfl rfl (Or.inr (Or.inr ⟨by decide, y1⟩)) ?_
  subst e_q2
  refine w_getf rfl g4 n6 ?_
  refine w_ld rfl rfl (Or.inl ⟨by decide, rfl⟩) ?_
  subst e_q7
  refine w_iald rfl g9 (Or.inl rfl) c12 c11 c10 ?_
  exact k

theorem k412_99 {P : s_P} {d : Nat} {Q : s_O → Prop} {h : s_H} {kc ks : Nat} {r0 : Term} {x1 x2 x3 : Int} {t4 : Term} {s0 : Int}  (k1 : x2 ≠ 0 → wr P d sw_c412 sw_h412 (129, [r0, vi x1, vi x2, vi x3, vi s0], [], h, kc, ks) Q) (k2 : ¬ x2 ≠ 0 → wr P d sw_c412 sw_h412 (105, [r0, vi x1, vi x2, vi x3, vi s0], [], h, kc, ks) Q)  (c1 : In3 x2 := by first | omega | assumption | (simp only [mk_len, List.length_map]; omega) | decide) : wr P d sw_c412 sw_h412 (99, [r0, vi x1, vi x2, vi x3, t4], [vi s0], h, kc, ks) Q := by
  refine w_st (ls' := [r0, vi x1, vi x2, vi x3, vi s0]) rfl (Or.inl ⟨by decide, rfl⟩) rfl ?_
  refine w_ld rfl rfl (Or.inl ⟨by decide, rfl⟩) ?_
  exact w_if1 rfl c1 k1 k2

theorem k412_105 {P : s_P} {d : Nat} {Q : s_O → Prop} {h : s_H} {kc ks : Nat} {r0 : Term} {x1 x2 x3 x4 : Int} {q2 : Nat} {f3 : List Term} {v5 : Term} {q7 : Nat} {a8 : List Int} (g4 : s_get h q2 = some (1, 11, f3)) (g9 : s_get h q7 = some (0, 0, a8.map vi)) (k1 : gi a8 x1 ≠ 0 → wr P d sw_c412 sw_h412 (118, [.index q2, vi x1, vi x2, vi x3, vi x4], [], h, kc, ks) Q) (k2 : ¬ gi a8 x1 ≠ 0 → wr P d sw_c412 sw_h412 (114, [.index q2, vi x1, vi x2, vi x3, vi x4], [], h, kc, ks) Q) (e_q2 : r0 = .index q2 := by first | rfl | assumption) (e_q7 : v5 = .index q7 := by first | rfl | assumption) (y1 : s_ty r0 = 3 := by first | rfl | assumption) (n6 : s_nth f3 101 = some v5 := by first | rfl | assumption) (c10 : x1 < a8.length := by first | omega | assumption | (simp only [mk_len, List.length_map]; omega) | decide) (c11 : 0 ≤ x1 := by first | omega | assumption | (simp only [mk_len, List.length_map]; omega) | decide) (c12 : In3 x1 := by first | omega | assumption | (simp only [mk_len, List.length_map]; omega) | decide) (c13 : In3 (gi a8 x1) := by first | omega | assumption | (simp only [mk_len, List.length_map]; omega) | decide) : wr P d sw_c412 sw_h412 (105, [r0, vi x1, vi x2, vi x3, vi x4], [], h, kc, ks) Q := by
  refine w_ld rfl rfl (Or.inr (Or.inr ⟨by decide, y1⟩)) ?_
  subst e_q2
  refine w_getf rfl g4 n6 ?_
  refine w_ld rfl rfl (Or.inl ⟨by decide, rfl⟩) ?_
  subst e_q7
  refine w_iald rfl g9 (Or.inl rfl) c12 c11 c10 ?_
  exact w_if1 rfl c13 k1 k2

theorem k412_114 {P : s_P} {d : Nat} {Q : s_O → Prop} {h : s_H} {kc ks : Nat} {r0 : Term} {x1 x2 x3 x4 : Int}  (k : wr P d sw_c412 sw_h412 (128, [r0, vi x1, vi x2, vi x3, vi x4], [vi 0], h, kc, ks) Q)   : wr P d sw_c412 sw_h412 (114, [r0, vi x1, vi x2, vi x3, vi x4], [], h, kc, ks) Q := by
  refine w_c32 rfl (by decide) 0 (by decide) ?_
  refine w_goto rfl ?_
  exact k

theorem k412_118 {P : s_P} {d : Nat} {Q : s_O → Prop} {h : s_H} {kc ks : Nat} {r0 : Term} {x1 x2 x3 x4 : Int}  (k1 : x4 ≠ 0 → wr P d sw_c412 sw_h412 (127, [r0, vi x1, vi x2, vi x3, vi x4], [], h, kc, ks) Q) (k2 : ¬ x4 ≠ 0 → wr P d sw_c412 sw_h412 (123, [r0, vi x1, vi x2, vi x3, vi x4], [], h, kc, ks) Q)  (c1 : In3 x4 := by first | omega | assumption | (simp only [mk_len, List.length_map]; omega) | decide) : wr P d sw_c412 sw_h412 (118, [r0, vi x1, vi x2, vi x3, vi x4], [], h, kc, ks) Q := by
  refine w_ld rfl rfl (Or.inl ⟨by decide, rfl⟩) ?_
  exact w_if1 rfl c1 k1 k2

theorem k412_123 {P : s_P} {d : Nat} {Q : s_O → Prop} {h : s_H} {kc ks : Nat} {r0 : Term} {x1 x2 x3 x4 : Int}  (k : wr P d sw_c412 sw_h412 (128, [r0, vi x1, vi x2, vi x3, vi x4], [vi 1], h, kc, ks) Q)   : wr P d sw_c412 sw_h412 (123, [r0, vi x1, vi x2, vi x3, vi x4], [], h, kc, ks) Q := by
  refine w_c32 rfl (by decide) 1 (by decide) ?_
  refine w_goto rfl ?_
  exact k

theorem k412_127 {P : s_P} {d : Nat} {Q : s_O → Prop} {h : s_H} {kc ks : Nat} {r0 : Term} {x1 x2 x3 x4 : Int}  (k : wr P d sw_c412 sw_h412 (128, [r0, vi x1, vi x2, vi x3, vi x4], [vi 2], h, kc, ks) Q)   : wr P d sw_c412 sw_h412 (127, [r0, vi x1, vi x2, vi x3, vi x4], [], h, kc, ks) Q := by
  refine w_c32 rfl (by decide) 2 (by decide) ?_
  exact k

theorem k412_128 {P : s_P} {d : Nat} {Q : s_O → Prop} {h : s_H} {kc ks : Nat} {r0 : Term} {x1 x2 x3 x4 s0 : Int}  (k : Q (.inl (some (vi s0)), h, kc, ks))   : wr P d sw_c412 sw_h412 (128, [r0, vi x1, vi x2, vi x3, vi x4], [vi s0], h, kc, ks) Q := by
  exact w_iret rfl k

theorem k412_129 {P : s_P} {d : Nat} {Q : s_O → Prop} {h : s_H} {kc ks : Nat} {r0 : Term} {x1 x2 x3 x4 : Int}  (k1 : x2 ≠ 1 → wr P d sw_c412 sw_h412 (137, [r0, vi x1, vi x2, vi x3, vi x4], [], h, kc, ks) Q) (k2 : ¬ x2 ≠ 1 → wr P d sw_c412 sw_h412 (134, [r0, vi x1, vi x2, vi x3, vi x4], [], h, kc, ks) Q)  (c1 : In3 x2 := by first | omega | assumption | (simp only [mk_len, List.length_map]; omega) | decide) : wr P d sw_c412 sw_h412 (129, [r0, vi x1, vi x2, vi x3, vi x4], [], h, kc, ks) Q := by
  refine w_ld rfl rfl (Or.inl ⟨by decide, rfl⟩) ?_
  refine w_c32 rfl (by decide) 1 (by decide) ?_
  exact w_if2 rfl c1 (by decide) k1 k2

theorem k412_134 {P : s_P} {d : Nat} {Q : s_O → Prop} {h : s_H} {kc ks : Nat} {r0 : Term} {x1 x2 x3 x4 : Int}  (k : Q (.inl (some (vi x4)), h, kc, ks))   : wr P d sw_c412 sw_h412 (134, [r0, vi x1, vi x2, vi x3, vi x4], [], h, kc, ks) Q := by
  refine w_ld rfl rfl (Or.inl ⟨by decide, rfl⟩) ?_
  exact w_iret rfl k

theorem k412_137 {P : s_P} {d : Nat} {Q : s_O → Prop} {h : s_H} {kc ks : Nat} {r0 : Term} {x1 x2 x3 x4 : Int}  (k1 : x4 ≠ 0 → wr P d sw_c412 sw_h412 (146, [r0, vi x1, vi x2, vi x3, vi x4], [], h, kc, ks) Q) (k2 : ¬ x4 ≠ 0 → wr P d sw_c412 sw_h412 (142, [r0, vi x1, vi x2, vi x3, vi x4], [], h, kc, ks) Q)  (c1 : In3 x4 := by first | omega | assumption | (simp only [mk_len, List.length_map]; omega) | decide) : wr P d sw_c412 sw_h412 (137, [r0, vi x1, vi x2, vi x3, vi x4], [], h, kc, ks) Q := by
  refine w_ld rfl rfl (Or.inl ⟨by decide, rfl⟩) ?_
  exact w_if1 rfl c1 k1 k2

theorem k412_142 {P : s_P} {d : Nat} {Q : s_O → Prop} {h : s_H} {kc ks : Nat} {r0 : Term} {x1 x2 x3 x4 : Int}  (k : wr P d sw_c412 sw_h412 (160, [r0, vi x1, vi x2, vi x3, vi x4], [vi (-1)], h, kc, ks) Q)   : wr P d sw_c412 sw_h412 (142, [r0, vi x1, vi x2, vi x3, vi x4], [], h, kc, ks) Q := by
  refine w_c32 rfl (by decide) (-1) (by decide) ?_
  refine w_goto rfl ?_
  exact k

theorem k412_146 {P : s_P} {d : Nat} {Q : s_O → Prop} {h : s_H} {kc ks : Nat} {r0 : Term} {x1 x2 x3 x4 : Int}  (k1 : x3 = 0 → wr P d sw_c412 sw_h412 (154, [r0, vi x1, vi x2, vi x3, vi x4], [], h, kc, ks) Q) (k2 : ¬ x3 = 0 → wr P d sw_c412 sw_h412 (150, [r0, vi x1, vi x2, vi x3, vi x4], [], h, kc, ks) Q)  (c1 : In3 x3 := by first | omega | assumption | (simp only [mk_len, List.length_map]; omega) | decide) : wr P d sw_c412 sw_h412 (146, [r0, vi x1, vi x2, vi x3, vi x4], [], h, kc, ks) Q := by
  refine w_ld rfl rfl (Or.inl ⟨by decide, rfl⟩) ?_
  exact w_if1 rfl c1 k1 k2

theorem k412_150 {P : s_P} {d : Nat} {Q : s_O → Prop} {h : s_H} {kc ks : Nat} {r0 : Term} {x1 x2 x3 x4 : Int}  (k : wr P d sw_c412 sw_h412 (160, [r0, vi x1, vi x2, vi x3, vi x4], [vi 0], h, kc, ks) Q)   : wr P d sw_c412 sw_h412 (150, [r0, vi x1, vi x2, vi x3, vi x4], [], h, kc, ks) Q := by
  refine w_c32 rfl (by decide) 0 (by decide) ?_
  refine w_goto rfl ?_
  exact k

theorem k412_154 {P : s_P} {d : Nat} {Q : s_O → Prop} {h : s_H} {kc ks : Nat} {r0 : Term} {x1 x2 x3 x4 : Int} {q2 : Nat} {f3 : List Term} {v5 : Term} {q7 : Nat} {a8 : List Int} (g4 : s_get h q2 = some (1, 11, f3)) (g9 : s_get h q7 = some (0, 0, a8.map vi)) (k : wr P d sw_c412 sw_h412 (160, [.index q2, vi x1, vi x2, vi x3, vi x4], [vi (gi a8 x1)], h, kc, ks) Q) (e_q2 : r0 = .index q2 := by first | rfl | assumption) (e_q7 : v5 = .index q7 := by first | rfl | assumption) (y1 : s_ty r0 = 3 := by first | rfl | assumption) (n6 : s_nth f3 106 = some v5 := by first | rfl | assumption) (c10 : x1 < a8.length := by first | omega | assumption | (simp only [mk_len, List.length_map]; omega) | decide) (c11 : 0 ≤ x1 := by first | omega | assumption | (simp only [mk_len, List.length_map]; omega) | decide) (c12 : In3 x1 := by first | omega | assumption | (simp only [mk_len, List.length_map]; omega) | decide) : wr P d sw_c412 sw_h412 (154, [r0, vi x1, vi x2, vi x3, vi x4], [], h, kc, ks) Q := by
  refine w_ld rfl rfl (Or.inr (Or.inr ⟨by decide, y1⟩)) ?_
  subst e_q2
  refine w_getf rfl g4 n6 ?_
  refine w_ld rfl rfl (Or.inl ⟨by decide, rfl⟩) ?_
  subst e_q7
  refine w_iald rfl g9 (Or.inl rfl) c12 c11 c10 ?_
  exact k

theorem k412_160 {P : s_P} {d : Nat} {Q : s_O → Prop} {h : s_H} {kc ks : Nat} {r0 : Term} {x1 x2 x3 x4 s0 : Int}  (k : Q (.inl (some (vi s0)), h, kc, ks))   : wr P d sw_c412 sw_h412 (160, [r0, vi x1, vi x2, vi x3, vi x4], [vi s0], h, kc, ks) Q := by
  exact w_iret rfl k

/-! 413: FormulaWorksModel.change(III)I -/
theorem k413_0 {P : s_P} {d : Nat} {Q : s_O → Prop} {h : s_H} {kc ks : Nat} {r0 : Term} {x1 x2 x3 : Int} {q2 : Nat} {f3 : List Term} (g4 : s_get h q2 = some (1, 11, f3)) (k : wm P d 481 [.index q2, vi x1, vi 3] h (wq P d sw_c413 sw_h413 6 [.index q2, vi x1, vi x2, vi x3] [] kc ks Q)) (e_q2 : r0 = .index q2 := by first | rfl | assumption) (y1 : s_ty r0 = 3 := by first | rfl | assumption)  : wr P d sw_c413 sw_h413 (0, [r0, vi x1, vi x2, vi x3], [], h, kc, ks) Q := by
  refine w_ld rfl rfl (Or.inr (Or.inr ⟨by decide, y1⟩)) ?_
  refine w_ld rfl rfl (Or.inl ⟨by decide, rfl⟩) ?_
  refine w_c32 rfl (by decide) 3 (by decide) ?_
  subst e_q2
  exact w_cv rfl [.index q2, vi x1, vi 3] [] rfl rfl (s_wt_4 rfl) rfl g4 k

theorem k413_6 {P : s_P} {d : Nat} {Q : s_O → Prop} {h : s_H} {kc ks : Nat} {r0 : Term} {x1 x2 x3 s0 : Int}  (k1 : s0 ≠ 0 → wr P d sw_c413 sw_h413 (11, [r0, vi x1, vi x2, vi x3], [], h, kc, ks) Q) (k2 : ¬ s0 ≠ 0 → wr P d sw_c413 sw_h413 (9, [r0, vi x1, vi x2, vi x3], [], h, kc, ks) Q)  (c1 : In3 s0 := by first | omega | assumption | (simp only [mk_len, List.length_map]; omega) | decide) : wr P d sw_c413 sw_h413 (6, [r0, vi x1, vi x2, vi x3], [vi s0], h, kc, ks) Q := by
  exact w_if1 rfl c1 k1 k2

theorem k413_9 {P : s_P} {d : Nat} {Q : s_O → Prop} {h : s_H} {kc ks : Nat} {r0 : Term} {x1 x2 x3 : Int}  (k : Q (.inl (some (vi 0)), h, kc, ks))   : wr P d sw_c413 sw_h413 (9, [r0, vi x1, vi x2, vi x3], [], h, kc, ks) Q := by
  refine w_c32 rfl (by decide) 0 (by decide) ?_
  exact w_iret rfl k

theorem k413_11 {P : s_P} {d : Nat} {Q : s_O → Prop} {h : s_H} {kc ks : Nat} {r0 : Term} {x1 x2 x3 : Int} {q2 : Nat} {f3 : List Term} (g4 : s_get h q2 = some (1, 11, f3)) (k : wm P d 512 [.index q2, vi x1] h (wq P d sw_c413 sw_h413 16 [.index q2, vi x1, vi x2, vi x3] [] kc ks Q)) (e_q2 : r0 = .index q2 := by first | rfl | assumption) (y1 : s_ty r0 = 3 := by first | rfl | assumption)  : wr P d sw_c413 sw_h413 (11, [r0, vi x1, vi x2, vi x3], [], h, kc, ks) Q := by
  refine w_ld rfl rfl (Or.inr (Or.inr ⟨by decide, y1⟩)) ?_
  refine w_ld rfl rfl (Or.inl ⟨by decide, rfl⟩) ?_
  subst e_q2
  exact w_cv rfl [.index q2, vi x1] [] rfl rfl (s_wt_4 rfl) rfl g4 k

theorem k413_16 {P : s_P} {d : Nat} {Q : s_O → Prop} {h : s_H} {kc ks : Nat} {r0 : Term} {x1 x2 x3 : Int} {q3 : Nat} {f4 : List Term} {z6 : Int} (g5 : s_get h q3 = some (1, 11, f4)) (k : wm P d 464 [vl x2, vl 0, vl (z6 - 1)] h (wq P d sw_c413 sw_h413 29 [.index q3, vi x1, vi x2, vi x3] [] kc ks Q)) (e_q3 : r0 = .index q3 := by first | rfl | assumption) (y2 : s_ty r0 = 3 := by first | rfl | assumption) (n7 : s_nth f4 82 = some (vi z6) := by first | rfl | assumption) (c1 : In3 x2 := by first | omega | assumption | (simp only [mk_len, List.length_map]; omega) | decide) (c8 : In3 (z6 - 1) := by first | omega | assumption | (simp only [mk_len, List.length_map]; omega) | decide) : wr P d sw_c413 sw_h413 (16, [r0, vi x1, vi x2, vi x3], [], h, kc, ks) Q := by
  refine w_ld rfl rfl (Or.inl ⟨by decide, rfl⟩) ?_
  refine w_i2l rfl c1 ?_
  refine w_c64 rfl (by decide) 0 (by decide) ?_
  refine w_ld rfl rfl (Or.inr (Or.inr ⟨by decide, y2⟩)) ?_
  subst e_q3
  refine w_getf rfl g5 n7 ?_
  refine w_c32 rfl (by decide) 1 (by decide) ?_
  refine w_isub rfl ?_
  refine w_i2l rfl c8 ?_
  exact w_cs rfl [vl x2, vl 0, vl (z6 - 1)] [] rfl rfl (s_wt_4 rfl) k

theorem k413_29 {P : s_P} {d : Nat} {Q : s_O → Prop} {h : s_H} {kc ks : Nat} {r0 : Term} {x1 x2 x3 s0 : Int}  (k1 : s0 ≠ 0 → wr P d sw_c413 sw_h413 (38, [r0, vi x1, vi x2, vi x3], [], h, kc, ks) Q) (k2 : ¬ s0 ≠ 0 → wr P d sw_c413 sw_h413 (32, [r0, vi x1, vi x2, vi x3], [], h, kc, ks) Q)  (c1 : In3 s0 := by first | omega | assumption | (simp only [mk_len, List.length_map]; omega) | decide) : wr P d sw_c413 sw_h413 (29, [r0, vi x1, vi x2, vi x3], [vi s0], h, kc, ks) Q := by
  exact w_if1 rfl c1 k1 k2

theorem k413_32 {P : s_P} {d : Nat} {Q : s_O → Prop} {h : s_H} {kc ks : Nat} {r0 : Term} {x1 x2 x3 : Int} {q2 : Nat} {f3 : List Term} (g4 : s_get h q2 = some (1, 11, f3)) (k : wm P d 570 [.index q2, vi 1] h (wq P d sw_c413 sw_h413 37 [.index q2, vi x1, vi x2, vi x3] [] kc ks Q)) (e_q2 : r0 = .index q2 := by first | rfl | assumption) (y1 : s_ty r0 = 3 := by first | rfl | assumption)  : wr P d sw_c413 sw_h413 (32, [r0, vi x1, vi x2, vi x3], [], h, kc, ks) Q := by
  refine w_ld rfl rfl (Or.inr (Or.inr ⟨by decide, y1⟩)) ?_
  refine w_c32 rfl (by decide) 1 (by decide) ?_
  subst e_q2
  exact w_cv rfl [.index q2, vi 1] [] rfl rfl (s_wt_4 rfl) rfl g4 k

theorem k413_37 {P : s_P} {d : Nat} {Q : s_O → Prop} {h : s_H} {kc ks : Nat} {r0 : Term} {x1 x2 x3 s0 : Int}  (k : Q (.inl (some (vi s0)), h, kc, ks))   : wr P d sw_c413 sw_h413 (37, [r0, vi x1, vi x2, vi x3], [vi s0], h, kc, ks) Q := by
  exact w_iret rfl k

theorem k413_38 {P : s_P} {d : Nat} {Q : s_O → Prop} {h : s_H} {kc ks : Nat} {r0 : Term} {x1 x2 x3 : Int}  (k : wm P d 464 [vl x3, vl 0, vl 11] h (wq P d sw_c413 sw_h413 47 [r0, vi x1, vi x2, vi x3] [] kc ks Q))  (c1 : In3 x3 := by first | omega | assumption | (simp only [mk_len, List.length_map]; omega) | decide) : wr P d sw_c413 sw_h413 (38, [r0, vi x1, vi x2, vi x3], [], h, kc, ks) Q := by
  refine w_ld rfl rfl (Or.inl ⟨by decide, rfl⟩) ?_
  refine w_i2l rfl c1 ?_
  refine w_c64 rfl (by decide) 0 (by decide) ?_
  refine w_c64 rfl (by decide) 11 (by decide) ?_
  exact w_cs rfl [vl x3, vl 0, vl 11] [] rfl rfl (s_wt_4 rfl) k

theorem k413_47 {P : s_P} {d : Nat} {Q : s_O → Prop} {h : s_H} {kc ks : Nat} {r0 : Term} {x1 x2 x3 s0 : Int}  (k1 : s0 = 0 → wr P d sw_c413 sw_h413 (59, [r0, vi x1, vi x2, vi x3], [], h, kc, ks) Q) (k2 : ¬ s0 = 0 → wr P d sw_c413 sw_h413 (50, [r0, vi x1, vi x2, vi x3], [], h, kc, ks) Q)  (c1 : In3 s0 := by first | omega | assumption | (simp only [mk_len, List.length_map]; omega) | decide) : wr P d sw_c413 sw_h413 (47, [r0, vi x1, vi x2, vi x3], [vi s0], h, kc, ks) Q := by
  exact w_if1 rfl c1 k1 k2

theorem k413_50 {P : s_P} {d : Nat} {Q : s_O → Prop} {h : s_H} {kc ks : Nat} {r0 : Term} {x1 x2 x3 : Int} {q2 : Nat} {f3 : List Term} (g4 : s_get h q2 = some (1, 11, f3)) (k : wm P d 473 [.index q2, vi x2, vi x3] h (wq P d sw_c413 sw_h413 56 [.index q2, vi x1, vi x2, vi x3] [] kc ks Q)) (e_q2 : r0 = .index q2 := by first | rfl | assumption) (y1 : s_ty r0 = 3 := by first | rfl | assumption)  : wr P d sw_c413 sw_h413 (50, [r0, vi x1, vi x2, vi x3], [], h, kc, ks) Q := by
  refine w_ld rfl rfl (Or.inr (Or.inr ⟨by decide, y1⟩)) ?_
  refine w_ld rfl rfl (Or.inl ⟨by decide, rfl⟩) ?_
  refine w_ld rfl rfl (Or.inl ⟨by decide, rfl⟩) ?_
  subst e_q2
  exact w_cv rfl [.index q2, vi x2, vi x3] [] rfl rfl (s_wt_4 rfl) rfl g4 k

theorem k413_56 {P : s_P} {d : Nat} {Q : s_O → Prop} {h : s_H} {kc ks : Nat} {r0 : Term} {x1 x2 x3 s0 : Int}  (k1 : s0 ≠ 0 → wr P d sw_c413 sw_h413 (65, [r0, vi x1, vi x2, vi x3], [], h, kc, ks) Q) (k2 : ¬ s0 ≠ 0 → wr P d sw_c413 sw_h413 (59, [r0, vi x1, vi x2, vi x3], [], h, kc, ks) Q)  (c1 : In3 s0 := by first | omega | assumption | (simp only [mk_len, List.length_map]; omega) | decide) : wr P d sw_c413 sw_h413 (56, [r0, vi x1, vi x2, vi x3], [vi s0], h, kc, ks) Q := by
  exact w_if1 rfl c1 k1 k2

theorem k413_59 {P : s_P} {d : Nat} {Q : s_O → Prop} {h : s_H} {kc ks : Nat} {r0 : Term} {x1 x2 x3 : Int} {q2 : Nat} {f3 : List Term} (g4 : s_get h q2 = some (1, 11, f3)) (k : wm P d 570 [.index q2, vi 2] h (wq P d sw_c413 sw_h413 64 [.index q2, vi x1, vi x2, vi x3] [] kc ks Q)) (e_q2 : r0 = .index q2 := by first | rfl | assumption) (y1 : s_ty r0 = 3 := by first | rfl | assumption)  : wr P d sw_c413 sw_h413 (59, [r0, vi x1, vi x2, vi x3], [], h, kc, ks) Q := by
  refine w_ld rfl rfl (Or.inr (Or.inr ⟨by decide, y1⟩)) ?_
  refine w_c32 rfl (by decide) 2 (by decide) ?_
  subst e_q2
  exact w_cv rfl [.index q2, vi 2] [] rfl rfl (s_wt_4 rfl) rfl g4 k

theorem k413_64 {P : s_P} {d : Nat} {Q : s_O → Prop} {h : s_H} {kc ks : Nat} {r0 : Term} {x1 x2 x3 s0 : Int}  (k : Q (.inl (some (vi s0)), h, kc, ks))   : wr P d sw_c413 sw_h413 (64, [r0, vi x1, vi x2, vi x3], [vi s0], h, kc, ks) Q := by
  exact w_iret rfl k

theorem k413_65 {P : s_P} {d : Nat} {Q : s_O → Prop} {h : s_H} {kc ks : Nat} {r0 : Term} {x1 x2 x3 : Int} {q2 : Nat} {f3 : List Term} (g4 : s_get h q2 = some (1, 11, f3)) (k : wm P d 500 [.index q2, vi 3] h (wq P d sw_c413 sw_h413 70 [.index q2, vi x1, vi x2, vi x3] [] kc ks Q)) (e_q2 : r0 = .index q2 := by first | rfl | assumption) (y1 : s_ty r0 = 3 := by first | rfl | assumption)  : wr P d sw_c413 sw_h413 (65, [r0, vi x1, vi x2, vi x3], [], h, kc, ks) Q := by
  refine w_ld rfl rfl (Or.inr (Or.inr ⟨by decide, y1⟩)) ?_
  refine w_c32 rfl (by decide) 3 (by decide) ?_
  subst e_q2
  exact w_cv rfl [.index q2, vi 3] [] rfl rfl (s_wt_4 rfl) rfl g4 k

theorem k413_70 {P : s_P} {d : Nat} {Q : s_O → Prop} {h : s_H} {kc ks : Nat} {r0 : Term} {x1 x2 x3 s0 : Int}  (k : Q (.inl (some (vi s0)), h, kc, ks))   : wr P d sw_c413 sw_h413 (70, [r0, vi x1, vi x2, vi x3], [vi s0], h, kc, ks) Q := by
  exact w_iret rfl k

/-! 414: FormulaWorksModel.claim()Z -/
theorem k414_0 {P : s_P} {d : Nat} {Q : s_O → Prop} {h : s_H} {kc ks : Nat} {r0 t1 t2 t3 : Term} {q2 : Nat} {f3 : List Term} (g4 : s_get h q2 = some (1, 11, f3)) (k : wr P d sw_c414 sw_h414 (7, [.index q2, vi 1, t2, t3], [], (hp h q2 (1, 11, f3.set 0 (vi 0))), kc, ks) Q) (e_q2 : r0 = .index q2 := by first | rfl | assumption) (y1 : s_ty r0 = 3 := by first | rfl | assumption) (l5 : 0 < f3.length := by first | exact Nat.le_of_ble_eq_true rfl | omega | assumption) (c6 : 0 < q2 := by first | omega | assumption | (simp only [mk_len, List.length_map]; omega) | decide) : wr P d sw_c414 sw_h414 (0, [r0, t1, t2, t3], [], h, kc, ks) Q := by
  refine w_ld rfl rfl (Or.inr (Or.inr ⟨by decide, y1⟩)) ?_
  refine w_c32 rfl (by decide) 0 (by decide) ?_
  subst e_q2
  refine w_putf rfl g4 (Nat.ble_eq_true_of_le c6) rfl (Nat.ble_eq_true_of_le l5) ?_
  refine w_c32 rfl (by decide) 1 (by decide) ?_
  refine w_st (ls' := [.index q2, vi 1, t2, t3]) rfl (Or.inl ⟨by decide, rfl⟩) rfl ?_
  exact k

theorem k414_7 {P : s_P} {d : Nat} {Q : s_O → Prop} {h : s_H} {kc ks : Nat} {r0 : Term} {x1 : Int} {t2 t3 : Term}  (k1 : x1 = 0 → wr P d sw_c414 sw_h414 (49, [r0, vi x1, t2, t3], [], h, kc, ks) Q) (k2 : ¬ x1 = 0 → wr P d sw_c414 sw_h414 (11, [r0, vi x1, t2, t3], [], h, kc, ks) Q)  (c1 : In3 x1 := by first | omega | assumption | (simp only [mk_len, List.length_map]; omega) | decide) : wr P d sw_c414 sw_h414 (7, [r0, vi x1, t2, t3], [], h, kc, ks) Q := by
  refine w_ld rfl rfl (Or.inl ⟨by decide, rfl⟩) ?_
  exact w_if1 rfl c1 k1 k2

theorem k414_11 {P : s_P} {d : Nat} {Q : s_O → Prop} {h : s_H} {kc ks : Nat} {r0 : Term} {x1 : Int} {t2 t3 : Term} {q2 : Nat} {f3 : List Term} (g4 : s_get h q2 = some (1, 11, f3)) (k : wm P d 604 [.index q2] h (wq P d sw_c414 sw_h414 15 [.index q2, vi x1, t2, t3] [] kc ks Q)) (e_q2 : r0 = .index q2 := by first | rfl | assumption) (y1 : s_ty r0 = 3 := by first | rfl | assumption)  : wr P d sw_c414 sw_h414 (11, [r0, vi x1, t2, t3], [], h, kc, ks) Q := by
  refine w_ld rfl rfl (Or.inr (Or.inr ⟨by decide, y1⟩)) ?_
  subst e_q2
  exact w_cv rfl [.index q2] [] rfl rfl (s_wt_4 rfl) rfl g4 k

theorem k414_15 {P : s_P} {d : Nat} {Q : s_O → Prop} {h : s_H} {kc ks : Nat} {r0 : Term} {x1 : Int} {t2 t3 : Term} {q2 : Nat} {f3 : List Term} (g4 : s_get h q2 = some (1, 11, f3)) (k : wm P d 578 [.index q2, vi 3] h (wq P d sw_c414 sw_h414 20 [.index q2, vi x1, t2, t3] [] kc ks Q)) (e_q2 : r0 = .index q2 := by first | rfl | assumption) (y1 : s_ty r0 = 3 := by first | rfl | assumption)  : wr P d sw_c414 sw_h414 (15, [r0, vi x1, t2, t3], [], h, kc, ks) Q := by
  refine w_ld rfl rfl (Or.inr (Or.inr ⟨by decide, y1⟩)) ?_
  refine w_c32 rfl (by decide) 3 (by decide) ?_
  subst e_q2
  exact w_cv rfl [.index q2, vi 3] [] rfl rfl (s_wt_4 rfl) rfl g4 k

theorem k414_20 {P : s_P} {d : Nat} {Q : s_O → Prop} {h : s_H} {kc ks : Nat} {r0 : Term} {x1 : Int} {t2 t3 : Term} {q2 : Nat} {f3 : List Term} {z5 : Int} (g4 : s_get h q2 = some (1, 11, f3)) (k1 : z5 = (-1) → wr P d sw_c414 sw_h414 (32, [.index q2, vi x1, t2, t3], [], h, kc, ks) Q) (k2 : ¬ z5 = (-1) → wr P d sw_c414 sw_h414 (28, [.index q2, vi x1, t2, t3], [], h, kc, ks) Q) (e_q2 : r0 = .index q2 := by first | rfl | assumption) (y1 : s_ty r0 = 3 := by first | rfl | assumption) (n6 : s_nth f3 76 = some (vi z5) := by first | rfl | assumption) (c7 : In3 z5 := by first | omega | assumption | (simp only [mk_len, List.length_map]; omega) | decide) : wr P d sw_c414 sw_h414 (20, [r0, vi x1, t2, t3], [], h, kc, ks) Q := by
  refine w_ld rfl rfl (Or.inr (Or.inr ⟨by decide, y1⟩)) ?_
  subst e_q2
  refine w_getf rfl g4 n6 ?_
  refine w_c32 rfl (by decide) (-1) (by decide) ?_
  exact w_if2 rfl c7 (by decide) k1 k2

theorem k414_28 {P : s_P} {d : Nat} {Q : s_O → Prop} {h : s_H} {kc ks : Nat} {r0 : Term} {x1 : Int} {t2 t3 : Term}  (k : wr P d sw_c414 sw_h414 (33, [r0, vi x1, t2, t3], [vi 1], h, kc, ks) Q)   : wr P d sw_c414 sw_h414 (28, [r0, vi x1, t2, t3], [], h, kc, ks) Q := by
  refine w_c32 rfl (by decide) 1 (by decide) ?_
  refine w_goto rfl ?_
  exact k

theorem k414_32 {P : s_P} {d : Nat} {Q : s_O → Prop} {h : s_H} {kc ks : Nat} {r0 : Term} {x1 : Int} {t2 t3 : Term}  (k : wr P d sw_c414 sw_h414 (33, [r0, vi x1, t2, t3], [vi 0], h, kc, ks) Q)   : wr P d sw_c414 sw_h414 (32, [r0, vi x1, t2, t3], [], h, kc, ks) Q := by
  refine w_c32 rfl (by decide) 0 (by decide) ?_
  exact k

theorem k414_33 {P : s_P} {d : Nat} {Q : s_O → Prop} {h : s_H} {kc ks : Nat} {r0 : Term} {x1 : Int} {t2 t3 : Term} {s0 : Int}  (k1 : s0 = 0 → wr P d sw_c414 sw_h414 (7, [r0, vi s0, t2, t3], [], h, kc, ks) Q) (k2 : ¬ s0 = 0 → wr P d sw_c414 sw_h414 (38, [r0, vi s0, t2, t3], [], h, kc, ks) Q) (y1 : s_ty r0 = 3 := by first | rfl | assumption) (c2 : In3 s0 := by first | omega | assumption | (simp only [mk_len, List.length_map]; omega) | decide) : wr P d sw_c414 sw_h414 (33, [r0, vi x1, t2, t3], [vi s0], h, kc, ks) Q := by
  refine w_st (ls' := [r0, vi s0, t2, t3]) rfl (Or.inl ⟨by decide, rfl⟩) (s_stK_r (pre := []) y1) ?_
  refine w_ld rfl rfl (Or.inl ⟨by decide, rfl⟩) ?_
  exact w_if1 rfl c2 k1 k2

theorem k414_38 {P : s_P} {d : Nat} {Q : s_O → Prop} {h : s_H} {kc ks : Nat} {r0 : Term} {x1 : Int} {t2 t3 : Term} {q2 : Nat} {f3 : List Term} {z5 : Int} (g4 : s_get h q2 = some (1, 11, f3)) (k : wm P d 616 [.index q2, vi z5] h (wq P d sw_c414 sw_h414 46 [.index q2, vi x1, t2, t3] [] kc ks Q)) (e_q2 : r0 = .index q2 := by first | rfl | assumption) (y1 : s_ty r0 = 3 := by first | rfl | assumption) (n6 : s_nth f3 76 = some (vi z5) := by first | rfl | assumption)  : wr P d sw_c414 sw_h414 (38, [r0, vi x1, t2, t3], [], h, kc, ks) Q := by
  refine w_ld rfl rfl (Or.inr (Or.inr ⟨by decide, y1⟩)) ?_
  refine w_ld rfl rfl (Or.inr (Or.inr ⟨by decide, y1⟩)) ?_
  subst e_q2
  refine w_getf rfl g4 n6 ?_
  exact w_cv rfl [.index q2, vi z5] [] rfl rfl (s_wt_4 rfl) rfl g4 k

theorem k414_46 {P : s_P} {d : Nat} {Q : s_O → Prop} {h : s_H} {kc ks : Nat} {r0 : Term} {x1 : Int} {t2 t3 : Term}  (k : wr P d sw_c414 sw_h414 (7, [r0, vi x1, t2, t3], [], h, kc, ks) Q)   : wr P d sw_c414 sw_h414 (46, [r0, vi x1, t2, t3], [], h, kc, ks) Q := by
  refine w_goto rfl ?_
  exact k

theorem k414_49 {P : s_P} {d : Nat} {Q : s_O → Prop} {h : s_H} {kc ks : Nat} {r0 : Term} {x1 : Int} {t2 t3 : Term} {q2 : Nat} {f3 f7 : List Term} {z9 : Int} {f12 : List Term} {z14 : Int} {f17 : List Term} {z19 : Int} (g4 : s_get h q2 = some (1, 11, f3)) (g8 : s_get (hp h q2 (1, 11, f3.set 50 (vi 0))) q2 = some (1, 11, f7)) (g13 : s_get (hp (hp h q2 (1, 11, f3.set 50 (vi 0))) q2 (1, 11, f7.set 57 (vi z9))) q2 = some (1, 11, f12)) (g18 : s_get (hp (hp (hp h q2 (1, 11, f3.set 50 (vi 0))) q2 (1, 11, f7.set 57 (vi z9))) q2 (1, 11, f12.set 58 (vi z14))) q2 = some (1, 11, f17)) (k1 : z19 ≤ 0 → wr P d sw_c414 sw_h414 (84, [.index q2, vi x1, t2, t3], [], (hp (hp (hp h q2 (1, 11, f3.set 50 (vi 0))) q2 (1, 11, f7.set 57 (vi z9))) q2 (1, 11, f12.set 58 (vi z14))), kc, ks) Q) (k2 : ¬ z19 ≤ 0 → wr P d sw_c414 sw_h414 (77, [.index q2, vi x1, t2, t3], [], (hp (hp (hp h q2 (1, 11, f3.set 50 (vi 0))) q2 (1, 11, f7.set 57 (vi z9))) q2 (1, 11, f12.set 58 (vi z14))), kc, ks) Q) (e_q2 : r0 = .index q2 := by first | rfl | assumption) (y1 : s_ty r0 = 3 := by first | rfl | assumption) (l5 : 50 < f3.length := by first | exact Nat.le_of_ble_eq_true rfl | omega | assumption) (n10 : s_nth f7 55 = some (vi z9) := by first | rfl | assumption) (l11 : 57 < f7.length := by first | exact Nat.le_of_ble_eq_true rfl | omega | assumption) (n15 : s_nth f12 56 = some (vi z14) := by first | rfl | assumption) (l16 : 58 < f12.length := by first | exact Nat.le_of_ble_eq_true rfl | omega | assumption) (n20 : s_nth f17 55 = some (vi z19) := by first | rfl | assumption) (c6 : 0 < q2 := by first | omega | assumption | (simp only [mk_len, List.length_map]; omega) | decide) (c21 : In3 z19 := by first | omega | assumption | (simp only [mk_len, List.length_map]; omega) | decide) : wr P d sw_c414 sw_h414 (49, [r0, vi x1, t2, t3], [], h, kc, ks) Q := by
  refine w_ld rfl rfl (Or.inr (Or.inr ⟨by decide, y1⟩)) ?_
  refine w_c32 rfl (by decide) 0 (by decide) ?_
  subst e_q2
  refine w_putf rfl g4 (Nat.ble_eq_true_of_le c6) rfl (Nat.ble_eq_true_of_le l5) ?_
  refine w_ld rfl rfl (Or.inr (Or.inr ⟨by decide, rfl⟩)) ?_
  refine w_ld rfl rfl (Or.inr (Or.inr ⟨by decide, rfl⟩)) ?_
  refine w_getf rfl g8 n10 ?_
  refine w_putf rfl g8 (Nat.ble_eq_true_of_le c6) rfl (Nat.ble_eq_true_of_le l11) ?_
  refine w_ld rfl rfl (Or.inr (Or.inr ⟨by decide, rfl⟩)) ?_
  refine w_ld rfl rfl (Or.inr (Or.inr ⟨by decide, rfl⟩)) ?_
  refine w_getf rfl g13 n15 ?_
  refine w_putf rfl g13 (Nat.ble_eq_true_of_le c6) rfl (Nat.ble_eq_true_of_le l16) ?_
  refine w_ld rfl rfl (Or.inr (Or.inr ⟨by decide, rfl⟩)) ?_
  refine w_getf rfl g18 n20 ?_
  exact w_if1 rfl c21 k1 k2

theorem k414_77 {P : s_P} {d : Nat} {Q : s_O → Prop} {h : s_H} {kc ks : Nat} {r0 : Term} {x1 : Int} {t2 t3 : Term} {q2 : Nat} {f3 : List Term} (g4 : s_get h q2 = some (1, 11, f3)) (k : Q (.inl (some (vi 0)), (hp h q2 (1, 11, f3.set 0 (vi 1))), kc, ks)) (e_q2 : r0 = .index q2 := by first | rfl | assumption) (y1 : s_ty r0 = 3 := by first | rfl | assumption) (l5 : 0 < f3.length := by first | exact Nat.le_of_ble_eq_true rfl | omega | assumption) (c6 : 0 < q2 := by first | omega | assumption | (simp only [mk_len, List.length_map]; omega) | decide) : wr P d sw_c414 sw_h414 (77, [r0, vi x1, t2, t3], [], h, kc, ks) Q := by
  refine w_ld rfl rfl (Or.inr (Or.inr ⟨by decide, y1⟩)) ?_
  refine w_c32 rfl (by decide) 1 (by decide) ?_
  subst e_q2
  refine w_putf rfl g4 (Nat.ble_eq_true_of_le c6) rfl (Nat.ble_eq_true_of_le l5) ?_
  refine w_c32 rfl (by decide) 0 (by decide) ?_
  exact w_zret rfl (by decide) k

theorem k414_84 {P : s_P} {d : Nat} {Q : s_O → Prop} {h : s_H} {kc ks : Nat} {r0 : Term} {x1 : Int} {t2 t3 : Term}  (k : wr P d sw_c414 sw_h414 (88, [r0, vi x1, vi 1, vi 0], [], h, kc, ks) Q)   : wr P d sw_c414 sw_h414 (84, [r0, vi x1, t2, t3], [], h, kc, ks) Q := by
  refine w_c32 rfl (by decide) 1 (by decide) ?_
  refine w_st (ls' := [r0, vi x1, vi 1, t3]) rfl (Or.inl ⟨by decide, rfl⟩) rfl ?_
  refine w_c32 rfl (by decide) 0 (by decide) ?_
  refine w_st (ls' := [r0, vi x1, vi 1, vi 0]) rfl (Or.inl ⟨by decide, rfl⟩) rfl ?_
  exact k

theorem k414_88 {P : s_P} {d : Nat} {Q : s_O → Prop} {h : s_H} {kc ks : Nat} {r0 : Term} {x1 x2 x3 : Int}  (k1 : 176 ≤ x3 → wr P d sw_c414 sw_h414 (143, [r0, vi x1, vi x2, vi x3], [], h, kc, ks) Q) (k2 : ¬ 176 ≤ x3 → wr P d sw_c414 sw_h414 (95, [r0, vi x1, vi x2, vi x3], [], h, kc, ks) Q)  (c1 : In3 x3 := by first | omega | assumption | (simp only [mk_len, List.length_map]; omega) | decide) : wr P d sw_c414 sw_h414 (88, [r0, vi x1, vi x2, vi x3], [], h, kc, ks) Q := by
  refine w_ld rfl rfl (Or.inl ⟨by decide, rfl⟩) ?_
  refine w_c32 rfl (by decide) 176 (by decide) ?_
  exact w_if2 rfl c1 (by decide) k1 k2

theorem k414_95 {P : s_P} {d : Nat} {Q : s_O → Prop} {h : s_H} {kc ks : Nat} {r0 : Term} {x1 x2 x3 : Int}  (k1 : x2 = 0 → wr P d sw_c414 sw_h414 (135, [r0, vi x1, vi x2, vi x3], [], h, kc, ks) Q) (k2 : ¬ x2 = 0 → wr P d sw_c414 sw_h414 (99, [r0, vi x1, vi x2, vi x3], [], h, kc, ks) Q)  (c1 : In3 x2 := by first | omega | assumption | (simp only [mk_len, List.length_map]; omega) | decide) : wr P d sw_c414 sw_h414 (95, [r0, vi x1, vi x2, vi x3], [], h, kc, ks) Q := by
  refine w_ld rfl rfl (Or.inl ⟨by decide, rfl⟩) ?_
  exact w_if1 rfl c1 k1 k2

theorem k414_99 {P : s_P} {d : Nat} {Q : s_O → Prop} {h : s_H} {kc ks : Nat} {r0 : Term} {x1 x2 x3 : Int} {q2 : Nat} {f3 : List Term} {v5 : Term} {q7 : Nat} {a8 : List Int} {v13 : Term} {q15 : Nat} {a16 : List Int} (g4 : s_get h q2 = some (1, 11, f3)) (g9 : s_get h q7 = some (0, 1, a8.map vl)) (g17 : s_get h q15 = some (0, 1, a16.map vl)) (k1 : gi a8 x3 ≠ gi a16 x3 → wr P d sw_c414 sw_h414 (135, [.index q2, vi x1, vi x2, vi x3], [], h, kc, ks) Q) (k2 : ¬ gi a8 x3 ≠ gi a16 x3 → wr P d sw_c414 sw_h414 (115, [.index q2, vi x1, vi x2, vi x3], [], h, kc, ks) Q) (e_q2 : r0 = .index q2 := by first | rfl | assumption) (e_q7 : v5 = .index q7 := by first | rfl | assumption) (e_q15 : v13 = .index q15 := by first | rfl | assumption) (y1 : s_ty r0 = 3 := by first | rfl | assumption) (n6 : s_nth f3 73 = some v5 := by first | rfl | assumption) (n14 : s_nth f3 14 = some v13 := by first | rfl | assumption) (c10 : x3 < a8.length := by first | omega | assumption | (simp only [mk_len, List.length_map]; omega) | decide) (c11 : 0 ≤ x3 := by first | omega | assumption | (simp only [mk_len, List.length_map]; omega) | decide) (c12 : In3 x3 := by first | omega | assumption | (simp only [mk_len, List.length_map]; omega) | decide) (c18 : x3 < a16.length := by first | omega | assumption | (simp only [mk_len, List.length_map]; omega) | decide) (c19 : In6 (gi a8 x3) := by first | omega | assumption | (simp only [mk_len, List.length_map]; omega) | decide) (c20 : In6 (gi a16 x3) := by first | omega | assumption | (simp only [mk_len, List.length_map]; omega) | decide) : wr P d sw_c414 sw_h414 (99, [r0, vi x1, vi x2, vi x3], [], h, kc, ks) Q := by
  refine w_ld rfl rfl (Or.inr (Or.inr ⟨by decide, y1⟩)) ?_
  subst e_q2
  refine w_getf rfl g4 n6 ?_
  refine w_ld rfl rfl (Or.inl ⟨by decide, rfl⟩) ?_
  subst e_q7
  refine w_lald rfl g9 c12 c11 c10 ?_
  refine w_ld rfl rfl (Or.inr (Or.inr ⟨by decide, rfl⟩)) ?_
  refine w_getf rfl g4 n14 ?_
  refine w_ld rfl rfl (Or.inl ⟨by decide, rfl⟩) ?_
  subst e_q15
  refine w_lald rfl g17 c12 c11 c18 ?_
  exact w_lcmp rfl rfl c19 c20 k1 k2

theorem k414_115 {P : s_P} {d : Nat} {Q : s_O → Prop} {h : s_H} {kc ks : Nat} {r0 : Term} {x1 x2 x3 : Int} {q2 : Nat} {f3 : List Term} {v5 : Term} {q7 : Nat} {a8 : List Int} {v13 : Term} {q15 : Nat} {a16 : List Int} (g4 : s_get h q2 = some (1, 11, f3)) (g9 : s_get h q7 = some (0, 1, a8.map vl)) (g17 : s_get h q15 = some (0, 1, a16.map vl)) (k1 : gi a8 x3 ≠ gi a16 x3 → wr P d sw_c414 sw_h414 (135, [.index q2, vi x1, vi x2, vi x3], [], h, kc, ks) Q) (k2 : ¬ gi a8 x3 ≠ gi a16 x3 → wr P d sw_c414 sw_h414 (131, [.index q2, vi x1, vi x2, vi x3], [], h, kc, ks) Q) (e_q2 : r0 = .index q2 := by first | rfl | assumption) (e_q7 : v5 = .index q7 := by first | rfl | assumption) (e_q15 : v13 = .index q15 := by first | rfl | assumption) (y1 : s_ty r0 = 3 := by first | rfl | assumption) (n6 : s_nth f3 74 = some v5 := by first | rfl | assumption) (n14 : s_nth f3 15 = some v13 := by first | rfl | assumption) (c10 : x3 < a8.length := by first | omega | assumption | (simp only [mk_len, List.length_map]; omega) | decide) (c11 : 0 ≤ x3 := by first | omega | assumption | (simp only [mk_len, List.length_map]; omega) | decide) (c12 : In3 x3 := by first | omega | assumption | (simp only [mk_len, List.length_map]; omega) | decide) (c18 : x3 < a16.length := by first | omega | assumption | (simp only [mk_len, List.length_map]; omega) | decide) (c19 : In6 (gi a8 x3) := by first | omega | assumption | (simp only [mk_len, List.length_map]; omega) | decide) (c20 : In6 (gi a16 x3) := by first | omega | assumption | (simp only [mk_len, List.length_map]; omega) | decide) : wr P d sw_c414 sw_h414 (115, [r0, vi x1, vi x2, vi x3], [], h, kc, ks) Q := by
  refine w_ld rfl rfl (Or.inr (Or.inr ⟨by decide, y1⟩)) ?_
  subst e_q2
  refine w_getf rfl g4 n6 ?_
  refine w_ld rfl rfl (Or.inl ⟨by decide, rfl⟩) ?_
  subst e_q7
  refine w_lald rfl g9 c12 c11 c10 ?_
  refine w_ld rfl rfl (Or.inr (Or.inr ⟨by decide, rfl⟩)) ?_
  refine w_getf rfl g4 n14 ?_
  refine w_ld rfl rfl (Or.inl ⟨by decide, rfl⟩) ?_
  subst e_q15
  refine w_lald rfl g17 c12 c11 c18 ?_
  exact w_lcmp rfl rfl c19 c20 k1 k2

theorem k414_131 {P : s_P} {d : Nat} {Q : s_O → Prop} {h : s_H} {kc ks : Nat} {r0 : Term} {x1 x2 x3 : Int}  (k : wr P d sw_c414 sw_h414 (136, [r0, vi x1, vi x2, vi x3], [vi 1], h, kc, ks) Q)   : wr P d sw_c414 sw_h414 (131, [r0, vi x1, vi x2, vi x3], [], h, kc, ks) Q := by
  refine w_c32 rfl (by decide) 1 (by decide) ?_
  refine w_goto rfl ?_
  exact k

theorem k414_135 {P : s_P} {d : Nat} {Q : s_O → Prop} {h : s_H} {kc ks : Nat} {r0 : Term} {x1 x2 x3 : Int}  (k : wr P d sw_c414 sw_h414 (136, [r0, vi x1, vi x2, vi x3], [vi 0], h, kc, ks) Q)   : wr P d sw_c414 sw_h414 (135, [r0, vi x1, vi x2, vi x3], [], h, kc, ks) Q := by
  refine w_c32 rfl (by decide) 0 (by decide) ?_
  exact k

theorem k414_136 {P : s_P} {d : Nat} {Q : s_O → Prop} {h : s_H} {kc ks : Nat} {r0 : Term} {x1 x2 x3 s0 : Int}  (k : wr P d sw_c414 sw_h414 (88, [r0, vi x1, vi s0, vi (x3 + 1)], [], h, kc, ks) Q)   : wr P d sw_c414 sw_h414 (136, [r0, vi x1, vi x2, vi x3], [vi s0], h, kc, ks) Q := by
  refine w_st (ls' := [r0, vi x1, vi s0, vi x3]) rfl (Or.inl ⟨by decide, rfl⟩) rfl ?_
  refine w_iinc (ls' := [r0, vi x1, vi s0, vi (x3 + 1)]) rfl rfl 1 (by decide) rfl ?_
  refine w_goto rfl ?_
  exact k

theorem k414_143 {P : s_P} {d : Nat} {Q : s_O → Prop} {h : s_H} {kc ks : Nat} {r0 : Term} {x1 x2 x3 : Int}  (k : Q (.inl (some (vi x2)), h, kc, ks))  (c1 : x2 = 0 ∨ x2 = 1 := by first | omega | assumption | (simp only [mk_len, List.length_map]; omega) | decide) : wr P d sw_c414 sw_h414 (143, [r0, vi x1, vi x2, vi x3], [], h, kc, ks) Q := by
  refine w_ld rfl rfl (Or.inl ⟨by decide, rfl⟩) ?_
  exact w_zret rfl c1 k

/-! 415: FormulaWorksModel.clear()V -/
theorem k415_0 {P : s_P} {d : Nat} {Q : s_O → Prop} {h : s_H} {kc ks : Nat} {r0 : Term} {q2 : Nat} {f3 f7 f10 f13 : List Term} (g4 : s_get h q2 = some (1, 11, f3)) (g8 : s_get (hp h q2 (1, 11, f3.set 0 (vi 0))) q2 = some (1, 11, f7)) (g11 : s_get (hp (hp h q2 (1, 11, f3.set 0 (vi 0))) q2 (1, 11, f7.set 1 (vi 0))) q2 = some (1, 11, f10)) (g14 : s_get (hp (hp (hp h q2 (1, 11, f3.set 0 (vi 0))) q2 (1, 11, f7.set 1 (vi 0))) q2 (1, 11, f10.set 8 (vi 0))) q2 = some (1, 11, f13)) (k : Q (.inl none, (hp (hp (hp (hp h q2 (1, 11, f3.set 0 (vi 0))) q2 (1, 11, f7.set 1 (vi 0))) q2 (1, 11, f10.set 8 (vi 0))) q2 (1, 11, f13.set 50 (vi 0))), kc, ks)) (e_q2 : r0 = .index q2 := by first | rfl | assumption) (y1 : s_ty r0 = 3 := by first | rfl | assumption) (l5 : 0 < f3.length := by first | exact Nat.le_of_ble_eq_true rfl | omega | assumption) (l9 : 1 < f7.length := by first | exact Nat.le_of_ble_eq_true rfl | omega | assumption) (l12 : 8 < f10.length := by first | exact Nat.le_of_ble_eq_true rfl | omega | assumption) (l15 : 50 < f13.length := by first | exact Nat.le_of_ble_eq_true rfl | omega | assumption) (c6 : 0 < q2 := by first | omega | assumption | (simp only [mk_len, List.length_map]; omega) | decide) : wr P d sw_c415 sw_h415 (0, [r0], [], h, kc, ks) Q := by
  refine w_ld rfl rfl (Or.inr (Or.inr ⟨by decide, y1⟩)) ?_
  refine w_c32 rfl (by decide) 0 (by decide) ?_
  subst e_q2
  refine w_putf rfl g4 (Nat.ble_eq_true_of_le c6) rfl (Nat.ble_eq_true_of_le l5) ?_
  refine w_ld rfl rfl (Or.inr (Or.inr ⟨by decide, rfl⟩)) ?_
  refine w_c32 rfl (by decide) 0 (by decide) ?_
  refine w_putf rfl g8 (Nat.ble_eq_true_of_le c6) rfl (Nat.ble_eq_true_of_le l9) ?_
  refine w_ld rfl rfl (Or.inr (Or.inr ⟨by decide, rfl⟩)) ?_
  refine w_c32 rfl (by decide) 0 (by decide) ?_
  refine w_putf rfl g11 (Nat.ble_eq_true_of_le c6) rfl (Nat.ble_eq_true_of_le l12) ?_
  refine w_ld rfl rfl (Or.inr (Or.inr ⟨by decide, rfl⟩)) ?_
  refine w_c32 rfl (by decide) 0 (by decide) ?_
  refine w_putf rfl g14 (Nat.ble_eq_true_of_le c6) rfl (Nat.ble_eq_true_of_le l15) ?_
  exact w_ret rfl k

/-! 416: FormulaWorksModel.clearRule(II[J)V -/
theorem k416_0 {P : s_P} {d : Nat} {Q : s_O → Prop} {h : s_H} {kc ks : Nat} {r0 : Term} {x1 x2 : Int} {r3 t4 t5 : Term} {q2 : Nat} {f3 : List Term} (g4 : s_get h q2 = some (1, 11, f3)) (k : wm P d 439 [.index q2] h (wq P d sw_c416 sw_h416 4 [.index q2, vi x1, vi x2, r3, t4, t5] [] kc ks Q)) (e_q2 : r0 = .index q2 := by first | rfl | assumption) (y1 : s_ty r0 = 3 := by first | rfl | assumption)  : wr P d sw_c416 sw_h416 (0, [r0, vi x1, vi x2, r3, t4, t5], [], h, kc, ks) Q := by
  refine w_ld rfl rfl (Or.inr (Or.inr ⟨by decide, y1⟩)) ?_
  subst e_q2
  exact w_cv rfl [.index q2] [] rfl rfl (s_wt_4 rfl) rfl g4 k

theorem k416_4 {P : s_P} {d : Nat} {Q : s_O → Prop} {h : s_H} {kc ks : Nat} {r0 : Term} {x1 x2 : Int} {r3 t4 t5 : Term}  (k : wr P d sw_c416 sw_h416 (7, [r0, vi x1, vi x2, r3, vi 0, t5], [], h, kc, ks) Q) (y1 : s_ty r3 = 3 := by first | rfl | assumption)  : wr P d sw_c416 sw_h416 (4, [r0, vi x1, vi x2, r3, t4, t5], [], h, kc, ks) Q := by
  refine w_c32 rfl (by decide) 0 (by decide) ?_
  refine w_st (ls' := [r0, vi x1, vi x2, r3, vi 0, t5]) rfl (Or.inl ⟨by decide, rfl⟩) (s_stK_r (pre := [r0, vi x1, vi x2]) y1) ?_
  exact k

theorem k416_7 {P : s_P} {d : Nat} {Q : s_O → Prop} {h : s_H} {kc ks : Nat} {r0 : Term} {x1 x2 : Int} {r3 : Term} {x4 : Int} {t5 : Term}  (k1 : 21 ≤ x4 → wr P d sw_c416 sw_h416 (64, [r0, vi x1, vi x2, r3, vi x4, t5], [], h, kc, ks) Q) (k2 : ¬ 21 ≤ x4 → wr P d sw_c416 sw_h416 (14, [r0, vi x1, vi x2, r3, vi x4, t5], [], h, kc, ks) Q)  (c1 : In3 x4 := by first | omega | assumption | (simp only [mk_len, List.length_map]; omega) | decide) : wr P d sw_c416 sw_h416 (7, [r0, vi x1, vi x2, r3, vi x4, t5], [], h, kc, ks) Q := by
  refine w_ld rfl rfl (Or.inl ⟨by decide, rfl⟩) ?_
  refine w_c32 rfl (by decide) 21 (by decide) ?_
  exact w_if2 rfl c1 (by decide) k1 k2

theorem k416_14 {P : s_P} {d : Nat} {Q : s_O → Prop} {h : s_H} {kc ks : Nat} {r0 : Term} {x1 x2 : Int} {r3 : Term} {x4 : Int} {t5 : Term} {q2 : Nat} {f3 : List Term} (g4 : s_get h q2 = some (1, 11, f3)) (k : wm P d 522 [.index q2, vi x1, vi x2, vi x4] h (wq P d sw_c416 sw_h416 22 [.index q2, vi x1, vi x2, r3, vi x4, t5] [] kc ks Q)) (e_q2 : r0 = .index q2 := by first | rfl | assumption) (y1 : s_ty r0 = 3 := by first | rfl | assumption)  : wr P d sw_c416 sw_h416 (14, [r0, vi x1, vi x2, r3, vi x4, t5], [], h, kc, ks) Q := by
  refine w_ld rfl rfl (Or.inr (Or.inr ⟨by decide, y1⟩)) ?_
  refine w_ld rfl rfl (Or.inl ⟨by decide, rfl⟩) ?_
  refine w_ld rfl rfl (Or.inl ⟨by decide, rfl⟩) ?_
  refine w_ld rfl rfl (Or.inl ⟨by decide, rfl⟩) ?_
  subst e_q2
  exact w_cv rfl [.index q2, vi x1, vi x2, vi x4] [] rfl rfl (s_wt_4 rfl) rfl g4 k

theorem k416_22 {P : s_P} {d : Nat} {Q : s_O → Prop} {h : s_H} {kc ks : Nat} {r0 : Term} {x1 x2 : Int} {r3 : Term} {x4 : Int} {t5 : Term}  (k : wr P d sw_c416 sw_h416 (25, [r0, vi x1, vi x2, r3, vi x4, vi 0], [], h, kc, ks) Q)   : wr P d sw_c416 sw_h416 (22, [r0, vi x1, vi x2, r3, vi x4, t5], [], h, kc, ks) Q := by
  refine w_c32 rfl (by decide) 0 (by decide) ?_
  refine w_st (ls' := [r0, vi x1, vi x2, r3, vi x4, vi 0]) rfl (Or.inl ⟨by decide, rfl⟩) rfl ?_
  exact k

theorem k416_25 {P : s_P} {d : Nat} {Q : s_O → Prop} {h : s_H} {kc ks : Nat} {r0 : Term} {x1 x2 : Int} {r3 : Term} {x4 x5 : Int}  (k1 : 41 ≤ x5 → wr P d sw_c416 sw_h416 (58, [r0, vi x1, vi x2, r3, vi x4, vi x5], [], h, kc, ks) Q) (k2 : ¬ 41 ≤ x5 → wr P d sw_c416 sw_h416 (32, [r0, vi x1, vi x2, r3, vi x4, vi x5], [], h, kc, ks) Q)  (c1 : In3 x5 := by first | omega | assumption | (simp only [mk_len, List.length_map]; omega) | decide) : wr P d sw_c416 sw_h416 (25, [r0, vi x1, vi x2, r3, vi x4, vi x5], [], h, kc, ks) Q := by
  refine w_ld rfl rfl (Or.inl ⟨by decide, rfl⟩) ?_
  refine w_c32 rfl (by decide) 41 (by decide) ?_
  exact w_if2 rfl c1 (by decide) k1 k2

theorem k416_32 {P : s_P} {d : Nat} {Q : s_O → Prop} {h : s_H} {kc ks : Nat} {r0 : Term} {x1 x2 : Int} {r3 : Term} {x4 x5 : Int} {q2 : Nat} {f3 : List Term} {v5 v7 : Term} {q9 : Nat} {a10 : List Int} {q15 : Nat} {a16 : List Int} (g4 : s_get h q2 = some (1, 11, f3)) (g11 : s_get h q9 = some (0, 1, a10.map vl)) (g17 : s_get h q15 = some (0, 1, a16.map vl)) (k : wr P d sw_c416 sw_h416 (25, [.index q2, vi x1, vi x2, r3, vi x4, vi (x5 + 1)], [], (hp h q15 (0, 1, (a16.set (Int.toNat ((48 * x5) + x4)) (gi a10 x5)).map vl)), kc, ks) Q) (e_q2 : r0 = .index q2 := by first | rfl | assumption) (e_q9 : v7 = .index q9 := by first | rfl | assumption) (e_q15 : v5 = .index q15 := by first | rfl | assumption) (y1 : s_ty r0 = 3 := by first | rfl | assumption) (n6 : s_nth f3 30 = some v5 := by first | rfl | assumption) (n8 : s_nth f3 22 = some v7 := by first | rfl | assumption) (c12 : x5 < a10.length := by first | omega | assumption | (simp only [mk_len, List.length_map]; omega) | decide) (c13 : 0 ≤ x5 := by first | omega | assumption | (simp only [mk_len, List.length_map]; omega) | decide) (c14 : In3 x5 := by first | omega | assumption | (simp only [mk_len, List.length_map]; omega) | decide) (c18 : (48 * x5) + x4 < a16.length := by first | omega | assumption | (simp only [mk_len, List.length_map]; omega) | decide) (c19 : 0 ≤ (48 * x5) + x4 := by first | omega | assumption | (simp only [mk_len, List.length_map]; omega) | decide) (c20 : In3 ((48 * x5) + x4) := by first | omega | assumption | (simp only [mk_len, List.length_map]; omega) | decide) (c21 : 0 < q15 := by first | omega | assumption | (simp only [mk_len, List.length_map]; omega) | decide) : wr P d sw_c416 sw_h416 (32, [r0, vi x1, vi x2, r3, vi x4, vi x5], [], h, kc, ks) Q := by
  refine w_ld rfl rfl (Or.inr (Or.inr ⟨by decide, y1⟩)) ?_
  subst e_q2
  refine w_getf rfl g4 n6 ?_
  refine w_c32 rfl (by decide) 48 (by decide) ?_
  refine w_ld rfl rfl (Or.inl ⟨by decide, rfl⟩) ?_
  refine w_imul rfl ?_
  refine w_ld rfl rfl (Or.inl ⟨by decide, rfl⟩) ?_
  refine w_iadd rfl ?_
  refine w_ld rfl rfl (Or.inr (Or.inr ⟨by decide, rfl⟩)) ?_
  refine w_getf rfl g4 n8 ?_
  refine w_ld rfl rfl (Or.inl ⟨by decide, rfl⟩) ?_
  subst e_q9
  refine w_lald rfl g11 c14 c13 c12 ?_
  subst e_q15
  refine w_last rfl g17 (Nat.ble_eq_true_of_le c21) c20 c19 c18 ?_
  refine w_iinc (ls' := [.index q2, vi x1, vi x2, r3, vi x4, vi (x5 + 1)]) rfl rfl 1 (by decide) rfl ?_
  refine w_goto rfl ?_
  exact k

theorem k416_58 {P : s_P} {d : Nat} {Q : s_O → Prop} {h : s_H} {kc ks : Nat} {r0 : Term} {x1 x2 : Int} {r3 : Term} {x4 x5 : Int}  (k : wr P d sw_c416 sw_h416 (7, [r0, vi x1, vi x2, r3, vi (x4 + 1), vi x5], [], h, kc, ks) Q) (y1 : s_ty r3 = 3 := by first | rfl | assumption)  : wr P d sw_c416 sw_h416 (58, [r0, vi x1, vi x2, r3, vi x4, vi x5], [], h, kc, ks) Q := by
  refine w_iinc (ls' := [r0, vi x1, vi x2, r3, vi (x4 + 1), vi x5]) rfl rfl 1 (by decide) (s_stK_r (pre := [r0, vi x1, vi x2]) y1) ?_
  refine w_goto rfl ?_
  exact k

theorem k416_64 {P : s_P} {d : Nat} {Q : s_O → Prop} {h : s_H} {kc ks : Nat} {r0 : Term} {x1 x2 : Int} {r3 : Term} {x4 : Int} {t5 : Term}  (k : wr P d sw_c416 sw_h416 (67, [r0, vi x1, vi x2, r3, vi 0, t5], [], h, kc, ks) Q) (y1 : s_ty r3 = 3 := by first | rfl | assumption)  : wr P d sw_c416 sw_h416 (64, [r0, vi x1, vi x2, r3, vi x4, t5], [], h, kc, ks) Q := by
  refine w_c32 rfl (by decide) 0 (by decide) ?_
  refine w_st (ls' := [r0, vi x1, vi x2, r3, vi 0, t5]) rfl (Or.inl ⟨by decide, rfl⟩) (s_stK_r (pre := [r0, vi x1, vi x2]) y1) ?_
  exact k

theorem k416_67 {P : s_P} {d : Nat} {Q : s_O → Prop} {h : s_H} {kc ks : Nat} {r0 : Term} {x1 x2 : Int} {r3 : Term} {x4 : Int} {t5 : Term}  (k1 : 41 ≤ x4 → wr P d sw_c416 sw_h416 (97, [r0, vi x1, vi x2, r3, vi x4, t5], [], h, kc, ks) Q) (k2 : ¬ 41 ≤ x4 → wr P d sw_c416 sw_h416 (74, [r0, vi x1, vi x2, r3, vi x4, t5], [], h, kc, ks) Q)  (c1 : In3 x4 := by first | omega | assumption | (simp only [mk_len, List.length_map]; omega) | decide) : wr P d sw_c416 sw_h416 (67, [r0, vi x1, vi x2, r3, vi x4, t5], [], h, kc, ks) Q := by
  refine w_ld rfl rfl (Or.inl ⟨by decide, rfl⟩) ?_
  refine w_c32 rfl (by decide) 41 (by decide) ?_
  exact w_if2 rfl c1 (by decide) k1 k2

theorem k416_74 {P : s_P} {d : Nat} {Q : s_O → Prop} {h : s_H} {kc ks : Nat} {r0 : Term} {x1 x2 : Int} {r3 : Term} {x4 : Int} {t5 : Term} {q2 : Nat} {f3 : List Term} {v5 : Term} {q8 : Nat} {a9 : List Int} {q14 : Nat} {a15 : List Int} (g4 : s_get h q2 = some (1, 11, f3)) (g10 : s_get h q8 = some (0, 1, a9.map vl)) (g16 : s_get h q14 = some (0, 1, a15.map vl)) (k : wr P d sw_c416 sw_h416 (67, [.index q2, vi x1, vi x2, .index q8, vi (x4 + 1), t5], [], (hp h q14 (0, 1, (a15.set (Int.toNat ((48 * x4) + 47)) (gi a9 x4)).map vl)), kc, ks) Q) (e_q2 : r0 = .index q2 := by first | rfl | assumption) (e_q8 : r3 = .index q8 := by first | rfl | assumption) (e_q14 : v5 = .index q14 := by first | rfl | assumption) (y1 : s_ty r0 = 3 := by first | rfl | assumption) (n6 : s_nth f3 30 = some v5 := by first | rfl | assumption) (y7 : s_ty r3 = 3 := by first | rfl | assumption) (c11 : x4 < a9.length := by first | omega | assumption | (simp only [mk_len, List.length_map]; omega) | decide) (c12 : 0 ≤ x4 := by first | omega | assumption | (simp only [mk_len, List.length_map]; omega) | decide) (c13 : In3 x4 := by first | omega | assumption | (simp only [mk_len, List.length_map]; omega) | decide) (c17 : (48 * x4) + 47 < a15.length := by first | omega | assumption | (simp only [mk_len, List.length_map]; omega) | decide) (c18 : 0 ≤ (48 * x4) + 47 := by first | omega | assumption | (simp only [mk_len, List.length_map]; omega) | decide) (c19 : In3 ((48 * x4) + 47) := by first | omega | assumption | (simp only [mk_len, List.length_map]; omega) | decide) (c20 : 0 < q14 := by first | omega | assumption | (simp only [mk_len, List.length_map]; omega) | decide) : wr P d sw_c416 sw_h416 (74, [r0, vi x1, vi x2, r3, vi x4, t5], [], h, kc, ks) Q := by
  refine w_ld rfl rfl (Or.inr (Or.inr ⟨by decide, y1⟩)) ?_
  subst e_q2
  refine w_getf rfl g4 n6 ?_
  refine w_c32 rfl (by decide) 48 (by decide) ?_
  refine w_ld rfl rfl (Or.inl ⟨by decide, rfl⟩) ?_
  refine w_imul rfl ?_
  refine w_c32 rfl (by decide) 47 (by decide) ?_
  refine w_iadd rfl ?_
  refine w_ld rfl rfl (Or.inr (Or.inr ⟨by decide, y7⟩)) ?_
  refine w_ld rfl rfl (Or.inl ⟨by decide, rfl⟩) ?_
  subst e_q8
  refine w_lald rfl g10 c13 c12 c11 ?_
  subst e_q14
  refine w_last rfl g16 (Nat.ble_eq_true_of_le c20) c19 c18 c17 ?_
  refine w_iinc (ls' := [.index q2, vi x1, vi x2, .index q8, vi (x4 + 1), t5]) rfl rfl 1 (by decide) rfl ?_
  refine w_goto rfl ?_
  exact k

theorem k416_97 {P : s_P} {d : Nat} {Q : s_O → Prop} {h : s_H} {kc ks : Nat} {r0 : Term} {x1 x2 : Int} {r3 : Term} {x4 : Int} {t5 : Term} {q2 : Nat} {f3 : List Term} (g4 : s_get h q2 = some (1, 11, f3)) (k : wm P d 417 [.index q2, vi 41, vi 21] h (wq P d sw_c416 sw_h416 105 [.index q2, vi x1, vi x2, r3, vi x4, t5] [] kc ks Q)) (e_q2 : r0 = .index q2 := by first | rfl | assumption) (y1 : s_ty r0 = 3 := by first | rfl | assumption)  : wr P d sw_c416 sw_h416 (97, [r0, vi x1, vi x2, r3, vi x4, t5], [], h, kc, ks) Q := by
  refine w_ld rfl rfl (Or.inr (Or.inr ⟨by decide, y1⟩)) ?_
  refine w_c32 rfl (by decide) 41 (by decide) ?_
  refine w_c32 rfl (by decide) 21 (by decide) ?_
  subst e_q2
  exact w_cv rfl [.index q2, vi 41, vi 21] [] rfl rfl (s_wt_4 rfl) rfl g4 k

theorem k416_105 {P : s_P} {d : Nat} {Q : s_O → Prop} {h : s_H} {kc ks : Nat} {r0 : Term} {x1 x2 : Int} {r3 : Term} {x4 : Int} {t5 : Term}  (k : Q (.inl none, h, kc, ks))   : wr P d sw_c416 sw_h416 (105, [r0, vi x1, vi x2, r3, vi x4, t5], [], h, kc, ks) Q := by
  exact w_ret rfl k

/-! 417: FormulaWorksModel.clearTable(II)V -/
theorem k417_0 {P : s_P} {d : Nat} {Q : s_O → Prop} {h : s_H} {kc ks : Nat} {r0 : Term} {x1 x2 : Int} {t3 t4 t5 t6 t7 t8 t9 t10 t11 : Term} {q2 : Nat} {f3 : List Term} (g4 : s_get h q2 = some (1, 11, f3)) (k : wr P d sw_c417 sw_h417 (10, [.index q2, vi x1, vi x2, vi 0, vi 0, t5, t6, t7, t8, t9, t10, t11], [], (hp h q2 (1, 11, f3.set 32 (vi 0))), kc, ks) Q) (e_q2 : r0 = .index q2 := by first | rfl | assumption) (y1 : s_ty r0 = 3 := by first | rfl | assumption) (l5 : 32 < f3.length := by first | exact Nat.le_of_ble_eq_true rfl | omega | assumption) (c6 : 0 < q2 := by first | omega | assumption | (simp only [mk_len, List.length_map]; omega) | decide) : wr P d sw_c417 sw_h417 (0, [r0, vi x1, vi x2, t3, t4, t5, t6, t7, t8, t9, t10, t11], [], h, kc, ks) Q := by
  refine w_c32 rfl (by decide) 0 (by decide) ?_
  refine w_st (ls' := [r0, vi x1, vi x2, vi 0, t4, t5, t6, t7, t8, t9, t10, t11]) rfl (Or.inl ⟨by decide, rfl⟩) rfl ?_
  refine w_ld rfl rfl (Or.inr (Or.inr ⟨by decide, y1⟩)) ?_
  refine w_c32 rfl (by decide) 0 (by decide) ?_
  subst e_q2
  refine w_putf rfl g4 (Nat.ble_eq_true_of_le c6) rfl (Nat.ble_eq_true_of_le l5) ?_
  refine w_c32 rfl (by decide) 0 (by decide) ?_
  refine w_st (ls' := [.index q2, vi x1, vi x2, vi 0, vi 0, t5, t6, t7, t8, t9, t10, t11]) rfl (Or.inl ⟨by decide, rfl⟩) rfl ?_
  exact k

theorem k417_10 {P : s_P} {d : Nat} {Q : s_O → Prop} {h : s_H} {kc ks : Nat} {r0 : Term} {x1 x2 x3 x4 : Int} {t5 t6 t7 t8 t9 t10 t11 : Term}  (k1 : x2 ≤ x4 → wr P d sw_c417 sw_h417 (298, [r0, vi x1, vi x2, vi x3, vi x4, t5, t6, t7, t8, t9, t10, t11], [], h, kc, ks) Q) (k2 : ¬ x2 ≤ x4 → wr P d sw_c417 sw_h417 (16, [r0, vi x1, vi x2, vi x3, vi x4, t5, t6, t7, t8, t9, t10, t11], [], h, kc, ks) Q)  (c1 : In3 x4 := by first | omega | assumption | (simp only [mk_len, List.length_map]; omega) | decide) (c2 : In3 x2 := by first | omega | assumption | (simp only [mk_len, List.length_map]; omega) | decide) : wr P d sw_c417 sw_h417 (10, [r0, vi x1, vi x2, vi x3, vi x4, t5, t6, t7, t8, t9, t10, t11], [], h, kc, ks) Q := by
  refine w_ld rfl rfl (Or.inl ⟨by decide, rfl⟩) ?_
  refine w_ld rfl rfl (Or.inl ⟨by decide, rfl⟩) ?_
  exact w_if2 rfl c1 c2 k1 k2

theorem k417_16 {P : s_P} {d : Nat} {Q : s_O → Prop} {h : s_H} {kc ks : Nat} {r0 : Term} {x1 x2 x3 x4 : Int} {t5 t6 t7 t8 t9 t10 t11 : Term}  (k : wr P d sw_c417 sw_h417 (19, [r0, vi x1, vi x2, vi x3, vi x4, vi x3, t6, t7, t8, t9, t10, t11], [], h, kc, ks) Q)   : wr P d sw_c417 sw_h417 (16, [r0, vi x1, vi x2, vi x3, vi x4, t5, t6, t7, t8, t9, t10, t11], [], h, kc, ks) Q := by
  refine w_ld rfl rfl (Or.inl ⟨by decide, rfl⟩) ?_
  refine w_st (ls' := [r0, vi x1, vi x2, vi x3, vi x4, vi x3, t6, t7, t8, t9, t10, t11]) rfl (Or.inl ⟨by decide, rfl⟩) rfl ?_
  exact k

theorem k417_19 {P : s_P} {d : Nat} {Q : s_O → Prop} {h : s_H} {kc ks : Nat} {r0 : Term} {x1 x2 x3 x4 x5 : Int} {t6 t7 t8 t9 t10 t11 : Term}  (k1 : x1 ≤ x5 → wr P d sw_c417 sw_h417 (49, [r0, vi x1, vi x2, vi x3, vi x4, vi x5, t6, t7, t8, t9, t10, t11], [], h, kc, ks) Q) (k2 : ¬ x1 ≤ x5 → wr P d sw_c417 sw_h417 (25, [r0, vi x1, vi x2, vi x3, vi x4, vi x5, t6, t7, t8, t9, t10, t11], [], h, kc, ks) Q)  (c1 : In3 x5 := by first | omega | assumption | (simp only [mk_len, List.length_map]; omega) | decide) (c2 : In3 x1 := by first | omega | assumption | (simp only [mk_len, List.length_map]; omega) | decide) : wr P d sw_c417 sw_h417 (19, [r0, vi x1, vi x2, vi x3, vi x4, vi x5, t6, t7, t8, t9, t10, t11], [], h, kc, ks) Q := by
  refine w_ld rfl rfl (Or.inl ⟨by decide, rfl⟩) ?_
  refine w_ld rfl rfl (Or.inl ⟨by decide, rfl⟩) ?_
  exact w_if2 rfl c1 c2 k1 k2

theorem k417_25 {P : s_P} {d : Nat} {Q : s_O → Prop} {h : s_H} {kc ks : Nat} {r0 : Term} {x1 x2 x3 x4 x5 : Int} {t6 t7 t8 t9 t10 t11 : Term} {q2 : Nat} {f3 : List Term} {v5 : Term} {q7 : Nat} {a8 : List Int} (g4 : s_get h q2 = some (1, 11, f3)) (g9 : s_get h q7 = some (0, 1, a8.map vl)) (k1 : gi a8 ((48 * x5) + x4) ≠ 0 → wr P d sw_c417 sw_h417 (49, [.index q2, vi x1, vi x2, vi x3, vi x4, vi x5, t6, t7, t8, t9, t10, t11], [], h, kc, ks) Q) (k2 : ¬ gi a8 ((48 * x5) + x4) ≠ 0 → wr P d sw_c417 sw_h417 (43, [.index q2, vi x1, vi x2, vi x3, vi x4, vi x5, t6, t7, t8, t9, t10, t11], [], h, kc, ks) Q) (e_q2 : r0 = .index q2 := by first | rfl | assumption) (e_q7 : v5 = .index q7 := by first | rfl | assumption) (y1 : s_ty r0 = 3 := by first | rfl | assumption) (n6 : s_nth f3 30 = some v5 := by first | rfl | assumption) (c10 : (48 * x5) + x4 < a8.length := by first | omega | assumption | (simp only [mk_len, List.length_map]; omega) | decide) (c11 : 0 ≤ (48 * x5) + x4 := by first | omega | assumption | (simp only [mk_len, List.length_map]; omega) | decide) (c12 : In3 ((48 * x5) + x4) := by first | omega | assumption | (simp only [mk_len, List.length_map]; omega) | decide) (c13 : In6 (gi a8 ((48 * x5) + x4)) := by first | omega | assumption | (simp only [mk_len, List.length_map]; omega) | decide) : wr P d sw_c417 sw_h417 (25, [r0, vi x1, vi x2, vi x3, vi x4, vi x5, t6, t7, t8, t9, t10, t11], [], h, kc, ks) Q := by
  refine w_ld rfl rfl (Or.inr (Or.inr ⟨by decide, y1⟩)) ?_
  subst e_q2
  refine w_getf rfl g4 n6 ?_
  refine w_c32 rfl (by decide) 48 (by decide) ?_
  refine w_ld rfl rfl (Or.inl ⟨by decide, rfl⟩) ?_
  refine w_imul rfl ?_
  refine w_ld rfl rfl (Or.inl ⟨by decide, rfl⟩) ?_
  refine w_iadd rfl ?_
  subst e_q7
  refine w_lald rfl g9 c12 c11 c10 ?_
  refine w_c64 rfl (by decide) 0 (by decide) ?_
  exact w_lcmp rfl rfl c13 (by decide) k1 k2

theorem k417_43 {P : s_P} {d : Nat} {Q : s_O → Prop} {h : s_H} {kc ks : Nat} {r0 : Term} {x1 x2 x3 x4 x5 : Int} {t6 t7 t8 t9 t10 t11 : Term}  (k : wr P d sw_c417 sw_h417 (19, [r0, vi x1, vi x2, vi x3, vi x4, vi (x5 + 1), t6, t7, t8, t9, t10, t11], [], h, kc, ks) Q)   : wr P d sw_c417 sw_h417 (43, [r0, vi x1, vi x2, vi x3, vi x4, vi x5, t6, t7, t8, t9, t10, t11], [], h, kc, ks) Q := by
  refine w_iinc (ls' := [r0, vi x1, vi x2, vi x3, vi x4, vi (x5 + 1), t6, t7, t8, t9, t10, t11]) rfl rfl 1 (by decide) rfl ?_
  refine w_goto rfl ?_
  exact k

theorem k417_49 {P : s_P} {d : Nat} {Q : s_O → Prop} {h : s_H} {kc ks : Nat} {r0 : Term} {x1 x2 x3 x4 x5 : Int} {t6 t7 t8 t9 t10 t11 : Term} {q2 : Nat} {f3 : List Term} {v5 : Term} (g4 : s_get h q2 = some (1, 11, f3)) (k1 : x5 ≠ x1 → wr P d sw_c417 sw_h417 (65, [.index q2, vi x1, vi x2, vi x3, vi x4, vi x5, t6, t7, t8, t9, t10, t11], [vi x4, v5], h, kc, ks) Q) (k2 : ¬ x5 ≠ x1 → wr P d sw_c417 sw_h417 (61, [.index q2, vi x1, vi x2, vi x3, vi x4, vi x5, t6, t7, t8, t9, t10, t11], [vi x4, v5], h, kc, ks) Q) (e_q2 : r0 = .index q2 := by first | rfl | assumption) (y1 : s_ty r0 = 3 := by first | rfl | assumption) (n6 : s_nth f3 31 = some v5 := by first | rfl | assumption) (c7 : In3 x5 := by first | omega | assumption | (simp only [mk_len, List.length_map]; omega) | decide) (c8 : In3 x1 := by first | omega | assumption | (simp only [mk_len, List.length_map]; omega) | decide) : wr P d sw_c417 sw_h417 (49, [r0, vi x1, vi x2, vi x3, vi x4, vi x5, t6, t7, t8, t9, t10, t11], [], h, kc, ks) Q := by
  refine w_ld rfl rfl (Or.inr (Or.inr ⟨by decide, y1⟩)) ?_
  subst e_q2
  refine w_getf rfl g4 n6 ?_
  refine w_ld rfl rfl (Or.inl ⟨by decide, rfl⟩) ?_
  refine w_ld rfl rfl (Or.inl ⟨by decide, rfl⟩) ?_
  refine w_ld rfl rfl (Or.inl ⟨by decide, rfl⟩) ?_
  exact w_if2 rfl c7 c8 k1 k2

theorem k417_61 {P : s_P} {d : Nat} {Q : s_O → Prop} {h : s_H} {kc ks : Nat} {r0 : Term} {x1 x2 x3 x4 x5 : Int} {t6 t7 t8 t9 t10 t11 s0 : Term} {s1 : Int}  (k : wr P d sw_c417 sw_h417 (66, [r0, vi x1, vi x2, vi x3, vi x4, vi x5, t6, t7, t8, t9, t10, t11], [vi (-1), vi s1, s0], h, kc, ks) Q)   : wr P d sw_c417 sw_h417 (61, [r0, vi x1, vi x2, vi x3, vi x4, vi x5, t6, t7, t8, t9, t10, t11], [vi s1, s0], h, kc, ks) Q := by
  refine w_c32 rfl (by decide) (-1) (by decide) ?_
  refine w_goto rfl ?_
  exact k

theorem k417_65 {P : s_P} {d : Nat} {Q : s_O → Prop} {h : s_H} {kc ks : Nat} {r0 : Term} {x1 x2 x3 x4 x5 : Int} {t6 t7 t8 t9 t10 t11 s0 : Term} {s1 : Int}  (k : wr P d sw_c417 sw_h417 (66, [r0, vi x1, vi x2, vi x3, vi x4, vi x5, t6, t7, t8, t9, t10, t11], [vi x3, vi s1, s0], h, kc, ks) Q)   : wr P d sw_c417 sw_h417 (65, [r0, vi x1, vi x2, vi x3, vi x4, vi x5, t6, t7, t8, t9, t10, t11], [vi s1, s0], h, kc, ks) Q := by
  refine w_ld rfl rfl (Or.inl ⟨by decide, rfl⟩) ?_
  exact k

theorem k417_66 {P : s_P} {d : Nat} {Q : s_O → Prop} {h : s_H} {kc ks : Nat} {r0 : Term} {x1 x2 x3 x4 x5 : Int} {t6 t7 t8 t9 t10 t11 s0 : Term} {s1 s2 : Int} {q1 : Nat} {a2 : List Int} (g3 : s_get h q1 = some (0, 0, a2.map vi)) (k1 : x5 ≠ x1 → wr P d sw_c417 sw_h417 (86, [r0, vi x1, vi x2, vi x3, vi x4, vi x5, t6, t7, t8, t9, t10, t11], [], (hp h q1 (0, 0, (a2.set (Int.toNat (s1)) s2).map vi)), kc, ks) Q) (k2 : ¬ x5 ≠ x1 → wr P d sw_c417 sw_h417 (73, [r0, vi x1, vi x2, vi x3, vi x4, vi x5, t6, t7, t8, t9, t10, t11], [], (hp h q1 (0, 0, (a2.set (Int.toNat (s1)) s2).map vi)), kc, ks) Q) (e_q1 : s0 = .index q1 := by first | rfl | assumption) (c4 : s1 < a2.length := by first | omega | assumption | (simp only [mk_len, List.length_map]; omega) | decide) (c5 : 0 ≤ s1 := by first | omega | assumption | (simp only [mk_len, List.length_map]; omega) | decide) (c6 : In3 s1 := by first | omega | assumption | (simp only [mk_len, List.length_map]; omega) | decide) (c7 : 0 < q1 := by first | omega | assumption | (simp only [mk_len, List.length_map]; omega) | decide) (c8 : In3 x5 := by first | omega | assumption | (simp only [mk_len, List.length_map]; omega) | decide) (c9 : In3 x1 := by first | omega | assumption | (simp only [mk_len, List.length_map]; omega) | decide) : wr P d sw_c417 sw_h417 (66, [r0, vi x1, vi x2, vi x3, vi x4, vi x5, t6, t7, t8, t9, t10, t11], [vi s2, vi s1, s0], h, kc, ks) Q := by
  subst e_q1
  refine w_iast rfl g3 (Nat.ble_eq_true_of_le c7) c6 c5 c4 ?_
  refine w_ld rfl rfl (Or.inl ⟨by decide, rfl⟩) ?_
  refine w_ld rfl rfl (Or.inl ⟨by decide, rfl⟩) ?_
  exact w_if2 rfl c8 c9 k1 k2

theorem k417_73 {P : s_P} {d : Nat} {Q : s_O → Prop} {h : s_H} {kc ks : Nat} {r0 : Term} {x1 x2 x3 x4 x5 : Int} {t6 t7 t8 t9 t10 t11 : Term} {q2 : Nat} {f3 : List Term} {z5 : Int} (g4 : s_get h q2 = some (1, 11, f3)) (k : wr P d sw_c417 sw_h417 (292, [.index q2, vi x1, vi x2, vi x3, vi x4, vi x5, t6, t7, t8, t9, t10, t11], [], (hp h q2 (1, 11, f3.set 32 (vi (z5 + 1)))), kc, ks) Q) (e_q2 : r0 = .index q2 := by first | rfl | assumption) (y1 : s_ty r0 = 3 := by first | rfl | assumption) (n6 : s_nth f3 32 = some (vi z5) := by first | rfl | assumption) (l7 : 32 < f3.length := by first | exact Nat.le_of_ble_eq_true rfl | omega | assumption) (c8 : 0 < q2 := by first | omega | assumption | (simp only [mk_len, List.length_map]; omega) | decide) : wr P d sw_c417 sw_h417 (73, [r0, vi x1, vi x2, vi x3, vi x4, vi x5, t6, t7, t8, t9, t10, t11], [], h, kc, ks) Q := by
  refine w_ld rfl rfl (Or.inr (Or.inr ⟨by decide, y1⟩)) ?_
  refine w_dup rfl (by rw [y1]; rfl) ?_
  subst e_q2
  refine w_getf rfl g4 n6 ?_
  refine w_c32 rfl (by decide) 1 (by decide) ?_
  refine w_iadd rfl ?_
  refine w_putf rfl g4 (Nat.ble_eq_true_of_le c8) rfl (Nat.ble_eq_true_of_le l7) ?_
  refine w_goto rfl ?_
  exact k

theorem k417_86 {P : s_P} {d : Nat} {Q : s_O → Prop} {h : s_H} {kc ks : Nat} {r0 : Term} {x1 x2 x3 x4 x5 : Int} {t6 t7 t8 t9 t10 t11 : Term} {q2 : Nat} {f3 : List Term} {v5 : Term} {q7 : Nat} {a8 : List Int} (g4 : s_get h q2 = some (1, 11, f3)) (g9 : s_get h q7 = some (0, 1, a8.map vl)) (k : wm P d 467 [vl (gi a8 ((48 * x5) + x4))] h (wq P d sw_c417 sw_h417 102 [.index q2, vi x1, vi x2, vi x3, vi x4, vi x5, t6, t7, t8, t9, t10, t11] [] kc ks Q)) (e_q2 : r0 = .index q2 := by first | rfl | assumption) (e_q7 : v5 = .index q7 := by first | rfl | assumption) (y1 : s_ty r0 = 3 := by first | rfl | assumption) (n6 : s_nth f3 30 = some v5 := by first | rfl | assumption) (c10 : (48 * x5) + x4 < a8.length := by first | omega | assumption | (simp only [mk_len, List.length_map]; omega) | decide) (c11 : 0 ≤ (48 * x5) + x4 := by first | omega | assumption | (simp only [mk_len, List.length_map]; omega) | decide) (c12 : In3 ((48 * x5) + x4) := by first | omega | assumption | (simp only [mk_len, List.length_map]; omega) | decide) : wr P d sw_c417 sw_h417 (86, [r0, vi x1, vi x2, vi x3, vi x4, vi x5, t6, t7, t8, t9, t10, t11], [], h, kc, ks) Q := by
  refine w_ld rfl rfl (Or.inr (Or.inr ⟨by decide, y1⟩)) ?_
  subst e_q2
  refine w_getf rfl g4 n6 ?_
  refine w_c32 rfl (by decide) 48 (by decide) ?_
  refine w_ld rfl rfl (Or.inl ⟨by decide, rfl⟩) ?_
  refine w_imul rfl ?_
  refine w_ld rfl rfl (Or.inl ⟨by decide, rfl⟩) ?_
  refine w_iadd rfl ?_
  subst e_q7
  refine w_lald rfl g9 c12 c11 c10 ?_
  exact w_cs rfl [vl (gi a8 ((48 * x5) + x4))] [] rfl rfl (s_wt_4 rfl) k

theorem k417_102 {P : s_P} {d : Nat} {Q : s_O → Prop} {h : s_H} {kc ks : Nat} {r0 : Term} {x1 x2 x3 x4 x5 : Int} {t6 t7 t8 t9 t10 t11 : Term} {s0 : Int}  (k : wr P d sw_c417 sw_h417 (107, [r0, vi x1, vi x2, vi x3, vi x4, vi x5, vl s0, .result, vi 0, t9, t10, t11], [], h, kc, ks) Q)   : wr P d sw_c417 sw_h417 (102, [r0, vi x1, vi x2, vi x3, vi x4, vi x5, t6, t7, t8, t9, t10, t11], [vl s0], h, kc, ks) Q := by
  refine w_stl (ls' := [r0, vi x1, vi x2, vi x3, vi x4, vi x5, vl s0, t7, t8, t9, t10, t11]) (ls'' := [r0, vi x1, vi x2, vi x3, vi x4, vi x5, vl s0, .result, t8, t9, t10, t11]) rfl ⟨by decide, rfl⟩ rfl rfl ?_
  refine w_c32 rfl (by decide) 0 (by decide) ?_
  refine w_st (ls' := [r0, vi x1, vi x2, vi x3, vi x4, vi x5, vl s0, .result, vi 0, t9, t10, t11]) rfl (Or.inl ⟨by decide, rfl⟩) rfl ?_
  exact k

theorem k417_107 {P : s_P} {d : Nat} {Q : s_O → Prop} {h : s_H} {kc ks : Nat} {r0 : Term} {x1 x2 x3 x4 x5 x6 : Int} {t7 : Term} {x8 : Int} {t9 t10 t11 : Term}  (k1 : 48 ≤ x8 → wr P d sw_c417 sw_h417 (181, [r0, vi x1, vi x2, vi x3, vi x4, vi x5, vl x6, t7, vi x8, t9, t10, t11], [], h, kc, ks) Q) (k2 : ¬ 48 ≤ x8 → wr P d sw_c417 sw_h417 (114, [r0, vi x1, vi x2, vi x3, vi x4, vi x5, vl x6, t7, vi x8, t9, t10, t11], [], h, kc, ks) Q)  (c1 : In3 x8 := by first | omega | assumption | (simp only [mk_len, List.length_map]; omega) | decide) : wr P d sw_c417 sw_h417 (107, [r0, vi x1, vi x2, vi x3, vi x4, vi x5, vl x6, t7, vi x8, t9, t10, t11], [], h, kc, ks) Q := by
  refine w_ld rfl rfl (Or.inl ⟨by decide, rfl⟩) ?_
  refine w_c32 rfl (by decide) 48 (by decide) ?_
  exact w_if2 rfl c1 (by decide) k1 k2

theorem k417_114 {P : s_P} {d : Nat} {Q : s_O → Prop} {h : s_H} {kc ks : Nat} {r0 : Term} {x1 x2 x3 x4 x5 x6 : Int} {t7 : Term} {x8 : Int} {t9 t10 t11 : Term} {q2 : Nat} {f3 : List Term} {v5 : Term} {q7 : Nat} {a8 : List Int} {f18 : List Term} {v20 : Term} {q22 : Nat} {a23 : List Int} (g4 : s_get h q2 = some (1, 11, f3)) (g9 : s_get h q7 = some (0, 1, a8.map vl)) (g19 : s_get (hp h q7 (0, 1, (a8.set (Int.toNat ((48 * x5) + x8)) (gi a8 ((48 * x3) + x8))).map vl)) q2 = some (1, 11, f18)) (g24 : s_get (hp h q7 (0, 1, (a8.set (Int.toNat ((48 * x5) + x8)) (gi a8 ((48 * x3) + x8))).map vl)) q22 = some (0, 1, a23.map vl)) (k : wr P d sw_c417 sw_h417 (107, [.index q2, vi x1, vi x2, vi x3, vi x4, vi x5, vl x6, (s_uu t7), vi (x8 + 1), vl (Int.tmod ((gi a8 ((48 * x5) + x8)) * x6) 32003), .result, t11], [], (hp (hp h q7 (0, 1, (a8.set (Int.toNat ((48 * x5) + x8)) (gi a8 ((48 * x3) + x8))).map vl)) q22 (0, 1, (a23.set (Int.toNat ((48 * x3) + x8)) (Int.tmod ((gi a8 ((48 * x5) + x8)) * x6) 32003)).map vl)), kc, ks) Q) (e_q2 : r0 = .index q2 := by first | rfl | assumption) (e_q7 : v5 = .index q7 := by first | rfl | assumption) (e_q22 : v20 = .index q22 := by first | rfl | assumption) (y1 : s_ty r0 = 3 := by first | rfl | assumption) (n6 : s_nth f3 30 = some v5 := by first | rfl | assumption) (n21 : s_nth f18 30 = some v20 := by first | rfl | assumption) (c10 : (48 * x5) + x8 < a8.length := by first | omega | assumption | (simp only [mk_len, List.length_map]; omega) | decide) (c11 : 0 ≤ (48 * x5) + x8 := by first | omega | assumption | (simp only [mk_len, List.length_map]; omega) | decide) (c12 : In3 ((48 * x5) + x8) := by first | omega | assumption | (simp only [mk_len, List.length_map]; omega) | decide) (c13 : In6 ((gi a8 ((48 * x5) + x8)) * x6) := by first | omega | assumption | (simp only [mk_len, List.length_map]; omega) | decide) (c14 : (48 * x3) + x8 < a8.length := by first | omega | assumption | (simp only [mk_len, List.length_map]; omega) | decide) (c15 : 0 ≤ (48 * x3) + x8 := by first | omega | assumption | (simp only [mk_len, List.length_map]; omega) | decide) (c16 : In3 ((48 * x3) + x8) := by first | omega | assumption | (simp only [mk_len, List.length_map]; omega) | decide) (c17 : 0 < q7 := by first | omega | assumption | (simp only [mk_len, List.length_map]; omega) | decide) (c25 : (48 * x3) + x8 < a23.length := by first | omega | assumption | (simp only [mk_len, List.length_map]; omega) | decide) (c26 : 0 < q22 := by first | omega | assumption | (simp only [mk_len, List.length_map]; omega) | decide) : wr P d sw_c417 sw_h417 (114, [r0, vi x1, vi x2, vi x3, vi x4, vi x5, vl x6, t7, vi x8, t9, t10, t11], [], h, kc, ks) Q := by
  refine w_ld rfl rfl (Or.inr (Or.inr ⟨by decide, y1⟩)) ?_
  subst e_q2
  refine w_getf rfl g4 n6 ?_
  refine w_c32 rfl (by decide) 48 (by decide) ?_
  refine w_ld rfl rfl (Or.inl ⟨by decide, rfl⟩) ?_
  refine w_imul rfl ?_
  refine w_ld rfl rfl (Or.inl ⟨by decide, rfl⟩) ?_
  refine w_iadd rfl ?_
  subst e_q7
  refine w_lald rfl g9 c12 c11 c10 ?_
  refine w_ld rfl rfl (Or.inr (Or.inl ⟨by decide, rfl⟩)) ?_
  refine w_lmul rfl ?_
  refine w_c64 rfl (by decide) 32003 (by decide) ?_
  refine w_lrem rfl c13 (by decide) (by decide) ?_
  refine w_stl (ls' := [.index q2, vi x1, vi x2, vi x3, vi x4, vi x5, vl x6, t7, vi x8, vl (Int.tmod ((gi a8 ((48 * x5) + x8)) * x6) 32003), t10, t11]) (ls'' := [.index q2, vi x1, vi x2, vi x3, vi x4, vi x5, vl x6, t7, vi x8, vl (Int.tmod ((gi a8 ((48 * x5) + x8)) * x6) 32003), .result, t11]) rfl ⟨by decide, rfl⟩ rfl rfl ?_
  refine w_ld rfl rfl (Or.inr (Or.inr ⟨by decide, rfl⟩)) ?_
  refine w_getf rfl g4 n6 ?_
  refine w_c32 rfl (by decide) 48 (by decide) ?_
  refine w_ld rfl rfl (Or.inl ⟨by decide, rfl⟩) ?_
  refine w_imul rfl ?_
  refine w_ld rfl rfl (Or.inl ⟨by decide, rfl⟩) ?_
  refine w_iadd rfl ?_
  refine w_ld rfl rfl (Or.inr (Or.inr ⟨by decide, rfl⟩)) ?_
  refine w_getf rfl g4 n6 ?_
  refine w_c32 rfl (by decide) 48 (by decide) ?_
  refine w_ld rfl rfl (Or.inl ⟨by decide, rfl⟩) ?_
  refine w_imul rfl ?_
  refine w_ld rfl rfl (Or.inl ⟨by decide, rfl⟩) ?_
  refine w_iadd rfl ?_
  refine w_lald rfl g9 c16 c15 c14 ?_
  refine w_last rfl g9 (Nat.ble_eq_true_of_le c17) c12 c11 c10 ?_
  refine w_ld rfl rfl (Or.inr (Or.inr ⟨by decide, rfl⟩)) ?_
  refine w_getf rfl g19 n21 ?_
  refine w_c32 rfl (by decide) 48 (by decide) ?_
  refine w_ld rfl rfl (Or.inl ⟨by decide, rfl⟩) ?_
  refine w_imul rfl ?_
  refine w_ld rfl rfl (Or.inl ⟨by decide, rfl⟩) ?_
  refine w_iadd rfl ?_
  refine w_ld rfl rfl (Or.inr (Or.inl ⟨by decide, rfl⟩)) ?_
  subst e_q22
  refine w_last rfl g24 (Nat.ble_eq_true_of_le c26) c16 c15 c25 ?_
  refine w_iinc (ls' := [.index q2, vi x1, vi x2, vi x3, vi x4, vi x5, vl x6, (s_uu t7), vi (x8 + 1), vl (Int.tmod ((gi a8 ((48 * x5) + x8)) * x6) 32003), .result, t11]) rfl rfl 1 (by decide) (s_stK_t (pre := [.index q2, vi x1, vi x2, vi x3, vi x4, vi x5, vl x6])) ?_
  refine w_goto rfl ?_
  exact k

theorem k417_181 {P : s_P} {d : Nat} {Q : s_O → Prop} {h : s_H} {kc ks : Nat} {r0 : Term} {x1 x2 x3 x4 x5 x6 : Int} {t7 : Term} {x8 : Int} {t9 t10 t11 : Term}  (k : wr P d sw_c417 sw_h417 (184, [r0, vi x1, vi x2, vi x3, vi x4, vi x5, vl x6, (s_uu t7), vi 0, t9, t10, t11], [], h, kc, ks) Q)   : wr P d sw_c417 sw_h417 (181, [r0, vi x1, vi x2, vi x3, vi x4, vi x5, vl x6, t7, vi x8, t9, t10, t11], [], h, kc, ks) Q := by
  refine w_c32 rfl (by decide) 0 (by decide) ?_
  refine w_st (ls' := [r0, vi x1, vi x2, vi x3, vi x4, vi x5, vl x6, (s_uu t7), vi 0, t9, t10, t11]) rfl (Or.inl ⟨by decide, rfl⟩) (s_stK_t (pre := [r0, vi x1, vi x2, vi x3, vi x4, vi x5, vl x6])) ?_
  exact k

theorem k417_184 {P : s_P} {d : Nat} {Q : s_O → Prop} {h : s_H} {kc ks : Nat} {r0 : Term} {x1 x2 x3 x4 x5 x6 : Int} {t7 : Term} {x8 : Int} {t9 t10 t11 : Term}  (k1 : x1 ≤ x8 → wr P d sw_c417 sw_h417 (289, [r0, vi x1, vi x2, vi x3, vi x4, vi x5, vl x6, t7, vi x8, t9, t10, t11], [], h, kc, ks) Q) (k2 : ¬ x1 ≤ x8 → wr P d sw_c417 sw_h417 (190, [r0, vi x1, vi x2, vi x3, vi x4, vi x5, vl x6, t7, vi x8, t9, t10, t11], [], h, kc, ks) Q)  (c1 : In3 x8 := by first | omega | assumption | (simp only [mk_len, List.length_map]; omega) | decide) (c2 : In3 x1 := by first | omega | assumption | (simp only [mk_len, List.length_map]; omega) | decide) : wr P d sw_c417 sw_h417 (184, [r0, vi x1, vi x2, vi x3, vi x4, vi x5, vl x6, t7, vi x8, t9, t10, t11], [], h, kc, ks) Q := by
  refine w_ld rfl rfl (Or.inl ⟨by decide, rfl⟩) ?_
  refine w_ld rfl rfl (Or.inl ⟨by decide, rfl⟩) ?_
  exact w_if2 rfl c1 c2 k1 k2

theorem k417_190 {P : s_P} {d : Nat} {Q : s_O → Prop} {h : s_H} {kc ks : Nat} {r0 : Term} {x1 x2 x3 x4 x5 x6 : Int} {t7 : Term} {x8 : Int} {t9 t10 t11 : Term}  (k1 : x8 ≠ x3 → wr P d sw_c417 sw_h417 (200, [r0, vi x1, vi x2, vi x3, vi x4, vi x5, vl x6, t7, vi x8, t9, t10, t11], [], h, kc, ks) Q) (k2 : ¬ x8 ≠ x3 → wr P d sw_c417 sw_h417 (196, [r0, vi x1, vi x2, vi x3, vi x4, vi x5, vl x6, t7, vi x8, t9, t10, t11], [], h, kc, ks) Q)  (c1 : In3 x8 := by first | omega | assumption | (simp only [mk_len, List.length_map]; omega) | decide) (c2 : In3 x3 := by first | omega | assumption | (simp only [mk_len, List.length_map]; omega) | decide) : wr P d sw_c417 sw_h417 (190, [r0, vi x1, vi x2, vi x3, vi x4, vi x5, vl x6, t7, vi x8, t9, t10, t11], [], h, kc, ks) Q := by
  refine w_ld rfl rfl (Or.inl ⟨by decide, rfl⟩) ?_
  refine w_ld rfl rfl (Or.inl ⟨by decide, rfl⟩) ?_
  exact w_if2 rfl c1 c2 k1 k2

theorem k417_196 {P : s_P} {d : Nat} {Q : s_O → Prop} {h : s_H} {kc ks : Nat} {r0 : Term} {x1 x2 x3 x4 x5 x6 : Int} {t7 : Term} {x8 : Int} {t9 t10 t11 : Term}  (k : wr P d sw_c417 sw_h417 (213, [r0, vi x1, vi x2, vi x3, vi x4, vi x5, vl x6, t7, vi x8, t9, t10, t11], [vl 0], h, kc, ks) Q)   : wr P d sw_c417 sw_h417 (196, [r0, vi x1, vi x2, vi x3, vi x4, vi x5, vl x6, t7, vi x8, t9, t10, t11], [], h, kc, ks) Q := by
  refine w_c64 rfl (by decide) 0 (by decide) ?_
  refine w_goto rfl ?_
  exact k

theorem k417_200 {P : s_P} {d : Nat} {Q : s_O → Prop} {h : s_H} {kc ks : Nat} {r0 : Term} {x1 x2 x3 x4 x5 x6 : Int} {t7 : Term} {x8 : Int} {t9 t10 t11 : Term} {q2 : Nat} {f3 : List Term} {v5 : Term} {q7 : Nat} {a8 : List Int} (g4 : s_get h q2 = some (1, 11, f3)) (g9 : s_get h q7 = some (0, 1, a8.map vl)) (k : wr P d sw_c417 sw_h417 (213, [.index q2, vi x1, vi x2, vi x3, vi x4, vi x5, vl x6, t7, vi x8, t9, t10, t11], [vl (gi a8 ((48 * x8) + x4))], h, kc, ks) Q) (e_q2 : r0 = .index q2 := by first | rfl | assumption) (e_q7 : v5 = .index q7 := by first | rfl | assumption) (y1 : s_ty r0 = 3 := by first | rfl | assumption) (n6 : s_nth f3 30 = some v5 := by first | rfl | assumption) (c10 : (48 * x8) + x4 < a8.length := by first | omega | assumption | (simp only [mk_len, List.length_map]; omega) | decide) (c11 : 0 ≤ (48 * x8) + x4 := by first | omega | assumption | (simp only [mk_len, List.length_map]; omega) | decide) (c12 : In3 ((48 * x8) + x4) := by first | omega | assumption | (simp only [mk_len, List.length_map]; omega) | decide) : wr P d sw_c417 sw_h417 (200, [r0, vi x1, vi x2, vi x3, vi x4, vi x5, vl x6, t7, vi x8, t9, t10, t11], [], h, kc, ks) Q := by
  refine w_ld rfl rfl (Or.inr (Or.inr ⟨by decide, y1⟩)) ?_
  subst e_q2
  refine w_getf rfl g4 n6 ?_
  refine w_c32 rfl (by decide) 48 (by decide) ?_
  refine w_ld rfl rfl (Or.inl ⟨by decide, rfl⟩) ?_
  refine w_imul rfl ?_
  refine w_ld rfl rfl (Or.inl ⟨by decide, rfl⟩) ?_
  refine w_iadd rfl ?_
  subst e_q7
  refine w_lald rfl g9 c12 c11 c10 ?_
  exact k

theorem k417_213 {P : s_P} {d : Nat} {Q : s_O → Prop} {h : s_H} {kc ks : Nat} {r0 : Term} {x1 x2 x3 x4 x5 x6 : Int} {t7 : Term} {x8 : Int} {t9 t10 t11 : Term} {s0 : Int}  (k : wr P d sw_c417 sw_h417 (218, [r0, vi x1, vi x2, vi x3, vi x4, vi x5, vl x6, t7, vi x8, vl s0, .result, vi 0], [], h, kc, ks) Q)   : wr P d sw_c417 sw_h417 (213, [r0, vi x1, vi x2, vi x3, vi x4, vi x5, vl x6, t7, vi x8, t9, t10, t11], [vl s0], h, kc, ks) Q := by
  refine w_stl (ls' := [r0, vi x1, vi x2, vi x3, vi x4, vi x5, vl x6, t7, vi x8, vl s0, t10, t11]) (ls'' := [r0, vi x1, vi x2, vi x3, vi x4, vi x5, vl x6, t7, vi x8, vl s0, .result, t11]) rfl ⟨by decide, rfl⟩ rfl rfl ?_
  refine w_c32 rfl (by decide) 0 (by decide) ?_
  refine w_st (ls' := [r0, vi x1, vi x2, vi x3, vi x4, vi x5, vl x6, t7, vi x8, vl s0, .result, vi 0]) rfl (Or.inl ⟨by decide, rfl⟩) rfl ?_
  exact k

theorem k417_218 {P : s_P} {d : Nat} {Q : s_O → Prop} {h : s_H} {kc ks : Nat} {r0 : Term} {x1 x2 x3 x4 x5 x6 : Int} {t7 : Term} {x8 x9 : Int} {t10 : Term} {x11 : Int}  (k1 : 48 ≤ x11 → wr P d sw_c417 sw_h417 (283, [r0, vi x1, vi x2, vi x3, vi x4, vi x5, vl x6, t7, vi x8, vl x9, t10, vi x11], [], h, kc, ks) Q) (k2 : ¬ 48 ≤ x11 → wr P d sw_c417 sw_h417 (225, [r0, vi x1, vi x2, vi x3, vi x4, vi x5, vl x6, t7, vi x8, vl x9, t10, vi x11], [], h, kc, ks) Q)  (c1 : In3 x11 := by first | omega | assumption | (simp only [mk_len, List.length_map]; omega) | decide) : wr P d sw_c417 sw_h417 (218, [r0, vi x1, vi x2, vi x3, vi x4, vi x5, vl x6, t7, vi x8, vl x9, t10, vi x11], [], h, kc, ks) Q := by
  refine w_ld rfl rfl (Or.inl ⟨by decide, rfl⟩) ?_
  refine w_c32 rfl (by decide) 48 (by decide) ?_
  exact w_if2 rfl c1 (by decide) k1 k2

theorem k417_225 {P : s_P} {d : Nat} {Q : s_O → Prop} {h : s_H} {kc ks : Nat} {r0 : Term} {x1 x2 x3 x4 x5 x6 : Int} {t7 : Term} {x8 x9 : Int} {t10 : Term} {x11 : Int}  (k1 : x9 ≤ 0 → wr P d sw_c417 sw_h417 (283, [r0, vi x1, vi x2, vi x3, vi x4, vi x5, vl x6, t7, vi x8, vl x9, t10, vi x11], [], h, kc, ks) Q) (k2 : ¬ x9 ≤ 0 → wr P d sw_c417 sw_h417 (232, [r0, vi x1, vi x2, vi x3, vi x4, vi x5, vl x6, t7, vi x8, vl x9, t10, vi x11], [], h, kc, ks) Q)  (c1 : In6 x9 := by first | omega | assumption | (simp only [mk_len, List.length_map]; omega) | decide) : wr P d sw_c417 sw_h417 (225, [r0, vi x1, vi x2, vi x3, vi x4, vi x5, vl x6, t7, vi x8, vl x9, t10, vi x11], [], h, kc, ks) Q := by
  refine w_ld rfl rfl (Or.inr (Or.inl ⟨by decide, rfl⟩)) ?_
  refine w_c64 rfl (by decide) 0 (by decide) ?_
  exact w_lcmp rfl rfl c1 (by decide) k1 k2

theorem k417_232 {P : s_P} {d : Nat} {Q : s_O → Prop} {h : s_H} {kc ks : Nat} {r0 : Term} {x1 x2 x3 x4 x5 x6 : Int} {t7 : Term} {x8 x9 : Int} {t10 : Term} {x11 : Int} {q2 : Nat} {f3 : List Term} {v5 : Term} {q7 : Nat} {a8 : List Int} (g4 : s_get h q2 = some (1, 11, f3)) (g9 : s_get h q7 = some (0, 1, a8.map vl)) (k : wm P d 528 [vl ((gi a8 ((48 * x8) + x11)) - (x9 * (gi a8 ((48 * x3) + x11))))] h (wq P d sw_c417 sw_h417 276 [.index q2, vi x1, vi x2, vi x3, vi x4, vi x5, vl x6, t7, vi x8, vl x9, t10, vi x11] [vi ((48 * x8) + x11), .index q7] kc ks Q)) (e_q2 : r0 = .index q2 := by first | rfl | assumption) (e_q7 : v5 = .index q7 := by first | rfl | assumption) (y1 : s_ty r0 = 3 := by first | rfl | assumption) (n6 : s_nth f3 30 = some v5 := by first | rfl | assumption) (c10 : (48 * x8) + x11 < a8.length := by first | omega | assumption | (simp only [mk_len, List.length_map]; omega) | decide) (c11 : 0 ≤ (48 * x8) + x11 := by first | omega | assumption | (simp only [mk_len, List.length_map]; omega) | decide) (c12 : In3 ((48 * x8) + x11) := by first | omega | assumption | (simp only [mk_len, List.length_map]; omega) | decide) (c13 : (48 * x3) + x11 < a8.length := by first | omega | assumption | (simp only [mk_len, List.length_map]; omega) | decide) (c14 : 0 ≤ (48 * x3) + x11 := by first | omega | assumption | (simp only [mk_len, List.length_map]; omega) | decide) (c15 : In3 ((48 * x3) + x11) := by first | omega | assumption | (simp only [mk_len, List.length_map]; omega) | decide) : wr P d sw_c417 sw_h417 (232, [r0, vi x1, vi x2, vi x3, vi x4, vi x5, vl x6, t7, vi x8, vl x9, t10, vi x11], [], h, kc, ks) Q := by
  refine w_ld rfl rfl (Or.inr (Or.inr ⟨by decide, y1⟩)) ?_
  subst e_q2
  refine w_getf rfl g4 n6 ?_
  refine w_c32 rfl (by decide) 48 (by decide) ?_
  refine w_ld rfl rfl (Or.inl ⟨by decide, rfl⟩) ?_
  refine w_imul rfl ?_
  refine w_ld rfl rfl (Or.inl ⟨by decide, rfl⟩) ?_
  refine w_iadd rfl ?_
  refine w_ld rfl rfl (Or.inr (Or.inr ⟨by decide, rfl⟩)) ?_
  refine w_getf rfl g4 n6 ?_
  refine w_c32 rfl (by decide) 48 (by decide) ?_
  refine w_ld rfl rfl (Or.inl ⟨by decide, rfl⟩) ?_
  refine w_imul rfl ?_
  refine w_ld rfl rfl (Or.inl ⟨by decide, rfl⟩) ?_
  refine w_iadd rfl ?_
  subst e_q7
  refine w_lald rfl g9 c12 c11 c10 ?_
  refine w_ld rfl rfl (Or.inr (Or.inl ⟨by decide, rfl⟩)) ?_
  refine w_ld rfl rfl (Or.inr (Or.inr ⟨by decide, rfl⟩)) ?_
  refine w_getf rfl g4 n6 ?_
  refine w_c32 rfl (by decide) 48 (by decide) ?_
  refine w_ld rfl rfl (Or.inl ⟨by decide, rfl⟩) ?_
  refine w_imul rfl ?_
  refine w_ld rfl rfl (Or.inl ⟨by decide, rfl⟩) ?_
  refine w_iadd rfl ?_
  refine w_lald rfl g9 c15 c14 c13 ?_
  refine w_lmul rfl ?_
  refine w_lsub rfl ?_
  exact w_cs rfl [vl ((gi a8 ((48 * x8) + x11)) - (x9 * (gi a8 ((48 * x3) + x11))))] [vi ((48 * x8) + x11), .index q7] rfl rfl (s_wt_4 rfl) k

theorem k417_276 {P : s_P} {d : Nat} {Q : s_O → Prop} {h : s_H} {kc ks : Nat} {r0 : Term} {x1 x2 x3 x4 x5 x6 : Int} {t7 : Term} {x8 x9 : Int} {t10 : Term} {x11 : Int} {s0 : Term} {s1 s2 : Int} {q1 : Nat} {a2 : List Int} (g3 : s_get h q1 = some (0, 1, a2.map vl)) (k : wr P d sw_c417 sw_h417 (218, [r0, vi x1, vi x2, vi x3, vi x4, vi x5, vl x6, t7, vi x8, vl x9, (s_uu t10), vi (x11 + 1)], [], (hp h q1 (0, 1, (a2.set (Int.toNat (s1)) s2).map vl)), kc, ks) Q) (e_q1 : s0 = .index q1 := by first | rfl | assumption) (c4 : s1 < a2.length := by first | omega | assumption | (simp only [mk_len, List.length_map]; omega) | decide) (c5 : 0 ≤ s1 := by first | omega | assumption | (simp only [mk_len, List.length_map]; omega) | decide) (c6 : In3 s1 := by first | omega | assumption | (simp only [mk_len, List.length_map]; omega) | decide) (c7 : 0 < q1 := by first | omega | assumption | (simp only [mk_len, List.length_map]; omega) | decide) : wr P d sw_c417 sw_h417 (276, [r0, vi x1, vi x2, vi x3, vi x4, vi x5, vl x6, t7, vi x8, vl x9, t10, vi x11], [vl s2, vi s1, s0], h, kc, ks) Q := by
  subst e_q1
  refine w_last rfl g3 (Nat.ble_eq_true_of_le c7) c6 c5 c4 ?_
  refine w_iinc (ls' := [r0, vi x1, vi x2, vi x3, vi x4, vi x5, vl x6, t7, vi x8, vl x9, (s_uu t10), vi (x11 + 1)]) rfl rfl 1 (by decide) (s_stK_t (pre := [r0, vi x1, vi x2, vi x3, vi x4, vi x5, vl x6, t7, vi x8, vl x9])) ?_
  refine w_goto rfl ?_
  exact k

theorem k417_283 {P : s_P} {d : Nat} {Q : s_O → Prop} {h : s_H} {kc ks : Nat} {r0 : Term} {x1 x2 x3 x4 x5 x6 : Int} {t7 : Term} {x8 x9 : Int} {t10 : Term} {x11 : Int}  (k : wr P d sw_c417 sw_h417 (184, [r0, vi x1, vi x2, vi x3, vi x4, vi x5, vl x6, (s_uu t7), vi (x8 + 1), vl x9, t10, vi x11], [], h, kc, ks) Q)   : wr P d sw_c417 sw_h417 (283, [r0, vi x1, vi x2, vi x3, vi x4, vi x5, vl x6, t7, vi x8, vl x9, t10, vi x11], [], h, kc, ks) Q := by
  refine w_iinc (ls' := [r0, vi x1, vi x2, vi x3, vi x4, vi x5, vl x6, (s_uu t7), vi (x8 + 1), vl x9, t10, vi x11]) rfl rfl 1 (by decide) (s_stK_t (pre := [r0, vi x1, vi x2, vi x3, vi x4, vi x5, vl x6])) ?_
  refine w_goto rfl ?_
  exact k

theorem k417_289 {P : s_P} {d : Nat} {Q : s_O → Prop} {h : s_H} {kc ks : Nat} {r0 : Term} {x1 x2 x3 x4 x5 x6 : Int} {t7 : Term} {x8 : Int} {t9 t10 t11 : Term}  (k : wr P d sw_c417 sw_h417 (292, [r0, vi x1, vi x2, vi (x3 + 1), vi x4, vi x5, vl x6, t7, vi x8, t9, t10, t11], [], h, kc, ks) Q)   : wr P d sw_c417 sw_h417 (289, [r0, vi x1, vi x2, vi x3, vi x4, vi x5, vl x6, t7, vi x8, t9, t10, t11], [], h, kc, ks) Q := by
  refine w_iinc (ls' := [r0, vi x1, vi x2, vi (x3 + 1), vi x4, vi x5, vl x6, t7, vi x8, t9, t10, t11]) rfl rfl 1 (by decide) rfl ?_
  exact k

theorem k417_292 {P : s_P} {d : Nat} {Q : s_O → Prop} {h : s_H} {kc ks : Nat} {r0 : Term} {x1 x2 x3 x4 x5 : Int} {t6 t7 t8 t9 t10 t11 : Term}  (k : wr P d sw_c417 sw_h417 (10, [r0, vi x1, vi x2, vi x3, vi (x4 + 1), vi x5, t6, t7, t8, t9, t10, t11], [], h, kc, ks) Q)   : wr P d sw_c417 sw_h417 (292, [r0, vi x1, vi x2, vi x3, vi x4, vi x5, t6, t7, t8, t9, t10, t11], [], h, kc, ks) Q := by
  refine w_iinc (ls' := [r0, vi x1, vi x2, vi x3, vi (x4 + 1), vi x5, t6, t7, t8, t9, t10, t11]) rfl rfl 1 (by decide) rfl ?_
  refine w_goto rfl ?_
  exact k

theorem k417_298 {P : s_P} {d : Nat} {Q : s_O → Prop} {h : s_H} {kc ks : Nat} {r0 : Term} {x1 x2 x3 x4 : Int} {t5 t6 t7 t8 t9 t10 t11 : Term} {q2 : Nat} {f3 : List Term} (g4 : s_get h q2 = some (1, 11, f3)) (k : Q (.inl none, (hp h q2 (1, 11, f3.set 37 (vi x3))), kc, ks)) (e_q2 : r0 = .index q2 := by first | rfl | assumption) (y1 : s_ty r0 = 3 := by first | rfl | assumption) (l5 : 37 < f3.length := by first | exact Nat.le_of_ble_eq_true rfl | omega | assumption) (c6 : 0 < q2 := by first | omega | assumption | (simp only [mk_len, List.length_map]; omega) | decide) : wr P d sw_c417 sw_h417 (298, [r0, vi x1, vi x2, vi x3, vi x4, t5, t6, t7, t8, t9, t10, t11], [], h, kc, ks) Q := by
  refine w_ld rfl rfl (Or.inr (Or.inr ⟨by decide, y1⟩)) ?_
  refine w_ld rfl rfl (Or.inl ⟨by decide, rfl⟩) ?_
  subst e_q2
  refine w_putf rfl g4 (Nat.ble_eq_true_of_le c6) rfl (Nat.ble_eq_true_of_le l5) ?_
  exact w_ret rfl k

/-! 418: FormulaWorksModel.closePower()V -/
theorem k418_0 {P : s_P} {d : Nat} {Q : s_O → Prop} {h : s_H} {kc ks : Nat} {r0 : Term} {q2 : Nat} {f3 : List Term} {v5 : Term} {z7 : Int} {q9 : Nat} {a10 : List Int} (g4 : s_get h q2 = some (1, 11, f3)) (g11 : s_get h q9 = some (0, 5, a10.map vi)) (k1 : gi a10 z7 ≠ 0 → wr P d sw_c418 sw_h418 (13, [.index q2], [], h, kc, ks) Q) (k2 : ¬ gi a10 z7 ≠ 0 → wr P d sw_c418 sw_h418 (12, [.index q2], [], h, kc, ks) Q) (e_q2 : r0 = .index q2 := by first | rfl | assumption) (e_q9 : v5 = .index q9 := by first | rfl | assumption) (y1 : s_ty r0 = 3 := by first | rfl | assumption) (n6 : s_nth f3 61 = some v5 := by first | rfl | assumption) (n8 : s_nth f3 59 = some (vi z7) := by first | rfl | assumption) (c12 : z7 < a10.length := by first | omega | assumption | (simp only [mk_len, List.length_map]; omega) | decide) (c13 : 0 ≤ z7 := by first | omega | assumption | (simp only [mk_len, List.length_map]; omega) | decide) (c14 : In3 z7 := by first | omega | assumption | (simp only [mk_len, List.length_map]; omega) | decide) (c15 : In3 (gi a10 z7) := by first | omega | assumption | (simp only [mk_len, List.length_map]; omega) | decide) : wr P d sw_c418 sw_h418 (0, [r0], [], h, kc, ks) Q := by
  refine w_ld rfl rfl (Or.inr (Or.inr ⟨by decide, y1⟩)) ?_
  subst e_q2
  refine w_getf rfl g4 n6 ?_
  refine w_ld rfl rfl (Or.inr (Or.inr ⟨by decide, rfl⟩)) ?_
  refine w_getf rfl g4 n8 ?_
  subst e_q9
  refine w_bald rfl g11 c14 c13 c12 ?_
  exact w_if1 rfl c15 k1 k2

theorem k418_12 {P : s_P} {d : Nat} {Q : s_O → Prop} {h : s_H} {kc ks : Nat} {r0 : Term}  (k : Q (.inl none, h, kc, ks))   : wr P d sw_c418 sw_h418 (12, [r0], [], h, kc, ks) Q := by
  exact w_ret rfl k

theorem k418_13 {P : s_P} {d : Nat} {Q : s_O → Prop} {h : s_H} {kc ks : Nat} {r0 : Term} {q2 : Nat} {f3 : List Term} {z5 : Int} (g4 : s_get h q2 = some (1, 11, f3)) (k1 : z5 ≠ 1 → wr P d sw_c418 sw_h418 (46, [.index q2], [], h, kc, ks) Q) (k2 : ¬ z5 ≠ 1 → wr P d sw_c418 sw_h418 (21, [.index q2], [], h, kc, ks) Q) (e_q2 : r0 = .index q2 := by first | rfl | assumption) (y1 : s_ty r0 = 3 := by first | rfl | assumption) (n6 : s_nth f3 54 = some (vi z5) := by first | rfl | assumption) (c7 : In3 z5 := by first | omega | assumption | (simp only [mk_len, List.length_map]; omega) | decide) : wr P d sw_c418 sw_h418 (13, [r0], [], h, kc, ks) Q := by
  refine w_ld rfl rfl (Or.inr (Or.inr ⟨by decide, y1⟩)) ?_
  subst e_q2
  refine w_getf rfl g4 n6 ?_
  refine w_c32 rfl (by decide) 1 (by decide) ?_
  exact w_if2 rfl c7 (by decide) k1 k2

theorem k418_21 {P : s_P} {d : Nat} {Q : s_O → Prop} {h : s_H} {kc ks : Nat} {r0 : Term} {q2 : Nat} {f3 : List Term} {v5 : Term} {z7 : Int} {q9 : Nat} {a10 : List Int} (g4 : s_get h q2 = some (1, 11, f3)) (g11 : s_get h q9 = some (0, 0, a10.map vi)) (k1 : gi a10 z7 ≠ 42 → wr P d sw_c418 sw_h418 (40, [.index q2], [.index q2], h, kc, ks) Q) (k2 : ¬ gi a10 z7 ≠ 42 → wr P d sw_c418 sw_h418 (36, [.index q2], [.index q2], h, kc, ks) Q) (e_q2 : r0 = .index q2 := by first | rfl | assumption) (e_q9 : v5 = .index q9 := by first | rfl | assumption) (y1 : s_ty r0 = 3 := by first | rfl | assumption) (n6 : s_nth f3 64 = some v5 := by first | rfl | assumption) (n8 : s_nth f3 59 = some (vi z7) := by first | rfl | assumption) (c12 : z7 < a10.length := by first | omega | assumption | (simp only [mk_len, List.length_map]; omega) | decide) (c13 : 0 ≤ z7 := by first | omega | assumption | (simp only [mk_len, List.length_map]; omega) | decide) (c14 : In3 z7 := by first | omega | assumption | (simp only [mk_len, List.length_map]; omega) | decide) (c15 : In3 (gi a10 z7) := by first | omega | assumption | (simp only [mk_len, List.length_map]; omega) | decide) : wr P d sw_c418 sw_h418 (21, [r0], [], h, kc, ks) Q := by
  refine w_ld rfl rfl (Or.inr (Or.inr ⟨by decide, y1⟩)) ?_
  refine w_ld rfl rfl (Or.inr (Or.inr ⟨by decide, y1⟩)) ?_
  subst e_q2
  refine w_getf rfl g4 n6 ?_
  refine w_ld rfl rfl (Or.inr (Or.inr ⟨by decide, rfl⟩)) ?_
  refine w_getf rfl g4 n8 ?_
  subst e_q9
  refine w_iald rfl g11 (Or.inl rfl) c14 c13 c12 ?_
  refine w_c32 rfl (by decide) 42 (by decide) ?_
  exact w_if2 rfl c15 (by decide) k1 k2

theorem k418_36 {P : s_P} {d : Nat} {Q : s_O → Prop} {h : s_H} {kc ks : Nat} {r0 s0 : Term}  (k : wr P d sw_c418 sw_h418 (41, [r0], [vi 4, s0], h, kc, ks) Q)   : wr P d sw_c418 sw_h418 (36, [r0], [s0], h, kc, ks) Q := by
  refine w_c32 rfl (by decide) 4 (by decide) ?_
  refine w_goto rfl ?_
  exact k

theorem k418_40 {P : s_P} {d : Nat} {Q : s_O → Prop} {h : s_H} {kc ks : Nat} {r0 s0 : Term}  (k : wr P d sw_c418 sw_h418 (41, [r0], [vi 5, s0], h, kc, ks) Q)   : wr P d sw_c418 sw_h418 (40, [r0], [s0], h, kc, ks) Q := by
  refine w_c32 rfl (by decide) 5 (by decide) ?_
  exact k

theorem k418_41 {P : s_P} {d : Nat} {Q : s_O → Prop} {h : s_H} {kc ks : Nat} {r0 s0 : Term} {s1 : Int} {q1 : Nat} {f2 : List Term} (g3 : s_get h q1 = some (1, 11, f2)) (k : wm P d 437 [.index q1, vi s1, vi 0] h (wq P d sw_c418 sw_h418 45 [r0] [] kc ks Q)) (e_q1 : s0 = .index q1 := by first | rfl | assumption)  : wr P d sw_c418 sw_h418 (41, [r0], [vi s1, s0], h, kc, ks) Q := by
  refine w_c32 rfl (by decide) 0 (by decide) ?_
  subst e_q1
  exact w_cv rfl [.index q1, vi s1, vi 0] [] rfl rfl (s_wt_4 rfl) rfl g3 k

theorem k418_45 {P : s_P} {d : Nat} {Q : s_O → Prop} {h : s_H} {kc ks : Nat} {r0 : Term}  (k : Q (.inl none, h, kc, ks))   : wr P d sw_c418 sw_h418 (45, [r0], [], h, kc, ks) Q := by
  exact w_ret rfl k

theorem k418_46 {P : s_P} {d : Nat} {Q : s_O → Prop} {h : s_H} {kc ks : Nat} {r0 : Term} {q2 : Nat} {f3 : List Term} (g4 : s_get h q2 = some (1, 11, f3)) (k : wm P d 506 [.index q2, vi 0] h (wq P d sw_c418 sw_h418 51 [.index q2] [] kc ks Q)) (e_q2 : r0 = .index q2 := by first | rfl | assumption) (y1 : s_ty r0 = 3 := by first | rfl | assumption)  : wr P d sw_c418 sw_h418 (46, [r0], [], h, kc, ks) Q := by
  refine w_ld rfl rfl (Or.inr (Or.inr ⟨by decide, y1⟩)) ?_
  refine w_c32 rfl (by decide) 0 (by decide) ?_
  subst e_q2
  exact w_cv rfl [.index q2, vi 0] [] rfl rfl (s_wt_4 rfl) rfl g4 k

theorem k418_51 {P : s_P} {d : Nat} {Q : s_O → Prop} {h : s_H} {kc ks : Nat} {r0 : Term} {q2 : Nat} {f3 : List Term} {v5 : Term} {z7 : Int} {q9 : Nat} {a10 : List Int} (g4 : s_get h q2 = some (1, 11, f3)) (g11 : s_get h q9 = some (0, 0, a10.map vi)) (k1 : gi a10 z7 ≠ 47 → wr P d sw_c418 sw_h418 (90, [.index q2], [], h, kc, ks) Q) (k2 : ¬ gi a10 z7 ≠ 47 → wr P d sw_c418 sw_h418 (65, [.index q2], [], h, kc, ks) Q) (e_q2 : r0 = .index q2 := by first | rfl | assumption) (e_q9 : v5 = .index q9 := by first | rfl | assumption) (y1 : s_ty r0 = 3 := by first | rfl | assumption) (n6 : s_nth f3 64 = some v5 := by first | rfl | assumption) (n8 : s_nth f3 59 = some (vi z7) := by first | rfl | assumption) (c12 : z7 < a10.length := by first | omega | assumption | (simp only [mk_len, List.length_map]; omega) | decide) (c13 : 0 ≤ z7 := by first | omega | assumption | (simp only [mk_len, List.length_map]; omega) | decide) (c14 : In3 z7 := by first | omega | assumption | (simp only [mk_len, List.length_map]; omega) | decide) (c15 : In3 (gi a10 z7) := by first | omega | assumption | (simp only [mk_len, List.length_map]; omega) | decide) : wr P d sw_c418 sw_h418 (51, [r0], [], h, kc, ks) Q := by
  refine w_ld rfl rfl (Or.inr (Or.inr ⟨by decide, y1⟩)) ?_
  subst e_q2
  refine w_getf rfl g4 n6 ?_
  refine w_ld rfl rfl (Or.inr (Or.inr ⟨by decide, rfl⟩)) ?_
  refine w_getf rfl g4 n8 ?_
  subst e_q9
  refine w_iald rfl g11 (Or.inl rfl) c14 c13 c12 ?_
  refine w_c32 rfl (by decide) 47 (by decide) ?_
  exact w_if2 rfl c15 (by decide) k1 k2

theorem k418_65 {P : s_P} {d : Nat} {Q : s_O → Prop} {h : s_H} {kc ks : Nat} {r0 : Term} {q2 : Nat} {f3 : List Term} {v5 : Term} (g4 : s_get h q2 = some (1, 11, f3)) (k : wm P d 463 [v5] h (wq P d sw_c418 sw_h418 72 [.index q2] [] kc ks Q)) (e_q2 : r0 = .index q2 := by first | rfl | assumption) (y1 : s_ty r0 = 3 := by first | rfl | assumption) (n6 : s_nth f3 12 = some v5 := by first | rfl | assumption)  : wr P d sw_c418 sw_h418 (65, [r0], [], h, kc, ks) Q := by
  refine w_ld rfl rfl (Or.inr (Or.inr ⟨by decide, y1⟩)) ?_
  subst e_q2
  refine w_getf rfl g4 n6 ?_
  exact w_cs rfl [v5] [] rfl rfl (s_wt_4 rfl) k

theorem k418_72 {P : s_P} {d : Nat} {Q : s_O → Prop} {h : s_H} {kc ks : Nat} {r0 : Term} {s0 : Int}  (k1 : 0 ≤ s0 → wr P d sw_c418 sw_h418 (90, [r0], [], h, kc, ks) Q) (k2 : ¬ 0 ≤ s0 → wr P d sw_c418 sw_h418 (75, [r0], [], h, kc, ks) Q)  (c1 : In3 s0 := by first | omega | assumption | (simp only [mk_len, List.length_map]; omega) | decide) : wr P d sw_c418 sw_h418 (72, [r0], [vi s0], h, kc, ks) Q := by
  exact w_if1 rfl c1 k1 k2

theorem k418_75 {P : s_P} {d : Nat} {Q : s_O → Prop} {h : s_H} {kc ks : Nat} {r0 : Term} {q2 : Nat} {f3 : List Term} {v5 : Term} {z7 : Int} {q9 : Nat} {a10 : List Int} (g4 : s_get h q2 = some (1, 11, f3)) (g11 : s_get h q9 = some (0, 0, a10.map vi)) (k : wm P d 445 [.index q2, vi 4, vi (gi a10 z7)] h (wq P d sw_c418 sw_h418 89 [.index q2] [] kc ks Q)) (e_q2 : r0 = .index q2 := by first | rfl | assumption) (e_q9 : v5 = .index q9 := by first | rfl | assumption) (y1 : s_ty r0 = 3 := by first | rfl | assumption) (n6 : s_nth f3 66 = some v5 := by first | rfl | assumption) (n8 : s_nth f3 59 = some (vi z7) := by first | rfl | assumption) (c12 : z7 < a10.length := by first | omega | assumption | (simp only [mk_len, List.length_map]; omega) | decide) (c13 : 0 ≤ z7 := by first | omega | assumption | (simp only [mk_len, List.length_map]; omega) | decide) (c14 : In3 z7 := by first | omega | assumption | (simp only [mk_len, List.length_map]; omega) | decide) : wr P d sw_c418 sw_h418 (75, [r0], [], h, kc, ks) Q := by
  refine w_ld rfl rfl (Or.inr (Or.inr ⟨by decide, y1⟩)) ?_
  refine w_c32 rfl (by decide) 4 (by decide) ?_
  refine w_ld rfl rfl (Or.inr (Or.inr ⟨by decide, y1⟩)) ?_
  subst e_q2
  refine w_getf rfl g4 n6 ?_
  refine w_ld rfl rfl (Or.inr (Or.inr ⟨by decide, rfl⟩)) ?_
  refine w_getf rfl g4 n8 ?_
  subst e_q9
  refine w_iald rfl g11 (Or.inl rfl) c14 c13 c12 ?_
  exact w_cv rfl [.index q2, vi 4, vi (gi a10 z7)] [] rfl rfl (s_wt_4 rfl) rfl g4 k

theorem k418_89 {P : s_P} {d : Nat} {Q : s_O → Prop} {h : s_H} {kc ks : Nat} {r0 : Term}  (k : Q (.inl none, h, kc, ks))   : wr P d sw_c418 sw_h418 (89, [r0], [], h, kc, ks) Q := by
  exact w_ret rfl k

theorem k418_90 {P : s_P} {d : Nat} {Q : s_O → Prop} {h : s_H} {kc ks : Nat} {r0 : Term} {q2 : Nat} {f3 : List Term} {v5 : Term} {z7 : Int} {q9 : Nat} {a10 : List Int} (g4 : s_get h q2 = some (1, 11, f3)) (g11 : s_get h q9 = some (0, 0, a10.map vi)) (k1 : gi a10 z7 ≠ 42 → wr P d sw_c418 sw_h418 (111, [.index q2], [], h, kc, ks) Q) (k2 : ¬ gi a10 z7 ≠ 42 → wr P d sw_c418 sw_h418 (104, [.index q2], [], h, kc, ks) Q) (e_q2 : r0 = .index q2 := by first | rfl | assumption) (e_q9 : v5 = .index q9 := by first | rfl | assumption) (y1 : s_ty r0 = 3 := by first | rfl | assumption) (n6 : s_nth f3 64 = some v5 := by first | rfl | assumption) (n8 : s_nth f3 59 = some (vi z7) := by first | rfl | assumption) (c12 : z7 < a10.length := by first | omega | assumption | (simp only [mk_len, List.length_map]; omega) | decide) (c13 : 0 ≤ z7 := by first | omega | assumption | (simp only [mk_len, List.length_map]; omega) | decide) (c14 : In3 z7 := by first | omega | assumption | (simp only [mk_len, List.length_map]; omega) | decide) (c15 : In3 (gi a10 z7) := by first | omega | assumption | (simp only [mk_len, List.length_map]; omega) | decide) : wr P d sw_c418 sw_h418 (90, [r0], [], h, kc, ks) Q := by
  refine w_ld rfl rfl (Or.inr (Or.inr ⟨by decide, y1⟩)) ?_
  subst e_q2
  refine w_getf rfl g4 n6 ?_
  refine w_ld rfl rfl (Or.inr (Or.inr ⟨by decide, rfl⟩)) ?_
  refine w_getf rfl g4 n8 ?_
  subst e_q9
  refine w_iald rfl g11 (Or.inl rfl) c14 c13 c12 ?_
  refine w_c32 rfl (by decide) 42 (by decide) ?_
  exact w_if2 rfl c15 (by decide) k1 k2

theorem k418_104 {P : s_P} {d : Nat} {Q : s_O → Prop} {h : s_H} {kc ks : Nat} {r0 : Term} {q2 : Nat} {f3 : List Term} (g4 : s_get h q2 = some (1, 11, f3)) (k : wm P d 564 [.index q2] h (wq P d sw_c418 sw_h418 108 [.index q2] [] kc ks Q)) (e_q2 : r0 = .index q2 := by first | rfl | assumption) (y1 : s_ty r0 = 3 := by first | rfl | assumption)  : wr P d sw_c418 sw_h418 (104, [r0], [], h, kc, ks) Q := by
  refine w_ld rfl rfl (Or.inr (Or.inr ⟨by decide, y1⟩)) ?_
  subst e_q2
  exact w_cv rfl [.index q2] [] rfl rfl (s_wt_4 rfl) rfl g4 k

theorem k418_108 {P : s_P} {d : Nat} {Q : s_O → Prop} {h : s_H} {kc ks : Nat} {r0 : Term}  (k : wr P d sw_c418 sw_h418 (115, [r0], [], h, kc, ks) Q)   : wr P d sw_c418 sw_h418 (108, [r0], [], h, kc, ks) Q := by
  refine w_goto rfl ?_
  exact k

theorem k418_111 {P : s_P} {d : Nat} {Q : s_O → Prop} {h : s_H} {kc ks : Nat} {r0 : Term} {q2 : Nat} {f3 : List Term} (g4 : s_get h q2 = some (1, 11, f3)) (k : wm P d 568 [.index q2] h (wq P d sw_c418 sw_h418 115 [.index q2] [] kc ks Q)) (e_q2 : r0 = .index q2 := by first | rfl | assumption) (y1 : s_ty r0 = 3 := by first | rfl | assumption)  : wr P d sw_c418 sw_h418 (111, [r0], [], h, kc, ks) Q := by
  refine w_ld rfl rfl (Or.inr (Or.inr ⟨by decide, y1⟩)) ?_
  subst e_q2
  exact w_cv rfl [.index q2] [] rfl rfl (s_wt_4 rfl) rfl g4 k

theorem k418_115 {P : s_P} {d : Nat} {Q : s_O → Prop} {h : s_H} {kc ks : Nat} {r0 : Term} {q2 : Nat} {f3 : List Term} (g4 : s_get h q2 = some (1, 11, f3)) (k : wm P d 479 [.index q2] h (wq P d sw_c418 sw_h418 119 [.index q2] [] kc ks Q)) (e_q2 : r0 = .index q2 := by first | rfl | assumption) (y1 : s_ty r0 = 3 := by first | rfl | assumption)  : wr P d sw_c418 sw_h418 (115, [r0], [], h, kc, ks) Q := by
  refine w_ld rfl rfl (Or.inr (Or.inr ⟨by decide, y1⟩)) ?_
  subst e_q2
  exact w_cv rfl [.index q2] [] rfl rfl (s_wt_4 rfl) rfl g4 k

theorem k418_119 {P : s_P} {d : Nat} {Q : s_O → Prop} {h : s_H} {kc ks : Nat} {r0 : Term} {s0 : Int}  (k1 : s0 = 0 → wr P d sw_c418 sw_h418 (136, [r0], [], h, kc, ks) Q) (k2 : ¬ s0 = 0 → wr P d sw_c418 sw_h418 (122, [r0], [], h, kc, ks) Q)  (c1 : In3 s0 := by first | omega | assumption | (simp only [mk_len, List.length_map]; omega) | decide) : wr P d sw_c418 sw_h418 (119, [r0], [vi s0], h, kc, ks) Q := by
  exact w_if1 rfl c1 k1 k2

theorem k418_122 {P : s_P} {d : Nat} {Q : s_O → Prop} {h : s_H} {kc ks : Nat} {r0 : Term} {q2 : Nat} {f3 : List Term} {v5 : Term} {z7 : Int} {q9 : Nat} {a10 : List Int} (g4 : s_get h q2 = some (1, 11, f3)) (g11 : s_get h q9 = some (0, 0, a10.map vi)) (k : wm P d 445 [.index q2, vi 5, vi (gi a10 z7)] h (wq P d sw_c418 sw_h418 136 [.index q2] [] kc ks Q)) (e_q2 : r0 = .index q2 := by first | rfl | assumption) (e_q9 : v5 = .index q9 := by first | rfl | assumption) (y1 : s_ty r0 = 3 := by first | rfl | assumption) (n6 : s_nth f3 66 = some v5 := by first | rfl | assumption) (n8 : s_nth f3 59 = some (vi z7) := by first | rfl | assumption) (c12 : z7 < a10.length := by first | omega | assumption | (simp only [mk_len, List.length_map]; omega) | decide) (c13 : 0 ≤ z7 := by first | omega | assumption | (simp only [mk_len, List.length_map]; omega) | decide) (c14 : In3 z7 := by first | omega | assumption | (simp only [mk_len, List.length_map]; omega) | decide) : wr P d sw_c418 sw_h418 (122, [r0], [], h, kc, ks) Q := by
  refine w_ld rfl rfl (Or.inr (Or.inr ⟨by decide, y1⟩)) ?_
  refine w_c32 rfl (by decide) 5 (by decide) ?_
  refine w_ld rfl rfl (Or.inr (Or.inr ⟨by decide, y1⟩)) ?_
  subst e_q2
  refine w_getf rfl g4 n6 ?_
  refine w_ld rfl rfl (Or.inr (Or.inr ⟨by decide, rfl⟩)) ?_
  refine w_getf rfl g4 n8 ?_
  subst e_q9
  refine w_iald rfl g11 (Or.inl rfl) c14 c13 c12 ?_
  exact w_cv rfl [.index q2, vi 5, vi (gi a10 z7)] [] rfl rfl (s_wt_4 rfl) rfl g4 k

theorem k418_136 {P : s_P} {d : Nat} {Q : s_O → Prop} {h : s_H} {kc ks : Nat} {r0 : Term}  (k : Q (.inl none, h, kc, ks))   : wr P d sw_c418 sw_h418 (136, [r0], [], h, kc, ks) Q := by
  exact w_ret rfl k

/-! 419: FormulaWorksModel.closeTerm()V -/
theorem k419_0 {P : s_P} {d : Nat} {Q : s_O → Prop} {h : s_H} {kc ks : Nat} {r0 : Term} {q2 : Nat} {f3 : List Term} {v5 : Term} {z7 : Int} {q9 : Nat} {a10 : List Int} (g4 : s_get h q2 = some (1, 11, f3)) (g11 : s_get h q9 = some (0, 5, a10.map vi)) (k1 : gi a10 z7 = 0 → wr P d sw_c419 sw_h419 (19, [.index q2], [], h, kc, ks) Q) (k2 : ¬ gi a10 z7 = 0 → wr P d sw_c419 sw_h419 (12, [.index q2], [], h, kc, ks) Q) (e_q2 : r0 = .index q2 := by first | rfl | assumption) (e_q9 : v5 = .index q9 := by first | rfl | assumption) (y1 : s_ty r0 = 3 := by first | rfl | assumption) (n6 : s_nth f3 62 = some v5 := by first | rfl | assumption) (n8 : s_nth f3 59 = some (vi z7) := by first | rfl | assumption) (c12 : z7 < a10.length := by first | omega | assumption | (simp only [mk_len, List.length_map]; omega) | decide) (c13 : 0 ≤ z7 := by first | omega | assumption | (simp only [mk_len, List.length_map]; omega) | decide) (c14 : In3 z7 := by first | omega | assumption | (simp only [mk_len, List.length_map]; omega) | decide) (c15 : In3 (gi a10 z7) := by first | omega | assumption | (simp only [mk_len, List.length_map]; omega) | decide) : wr P d sw_c419 sw_h419 (0, [r0], [], h, kc, ks) Q := by
  refine w_ld rfl rfl (Or.inr (Or.inr ⟨by decide, y1⟩)) ?_
  subst e_q2
  refine w_getf rfl g4 n6 ?_
  refine w_ld rfl rfl (Or.inr (Or.inr ⟨by decide, rfl⟩)) ?_
  refine w_getf rfl g4 n8 ?_
  subst e_q9
  refine w_bald rfl g11 c14 c13 c12 ?_
  exact w_if1 rfl c15 k1 k2

theorem k419_12 {P : s_P} {d : Nat} {Q : s_O → Prop} {h : s_H} {kc ks : Nat} {r0 : Term} {q2 : Nat} {f3 : List Term} (g4 : s_get h q2 = some (1, 11, f3)) (k : wm P d 437 [.index q2, vi 6, vi 0] h (wq P d sw_c419 sw_h419 19 [.index q2] [] kc ks Q)) (e_q2 : r0 = .index q2 := by first | rfl | assumption) (y1 : s_ty r0 = 3 := by first | rfl | assumption)  : wr P d sw_c419 sw_h419 (12, [r0], [], h, kc, ks) Q := by
  refine w_ld rfl rfl (Or.inr (Or.inr ⟨by decide, y1⟩)) ?_
  refine w_c32 rfl (by decide) 6 (by decide) ?_
  refine w_c32 rfl (by decide) 0 (by decide) ?_
  subst e_q2
  exact w_cv rfl [.index q2, vi 6, vi 0] [] rfl rfl (s_wt_4 rfl) rfl g4 k

theorem k419_19 {P : s_P} {d : Nat} {Q : s_O → Prop} {h : s_H} {kc ks : Nat} {r0 : Term} {q2 : Nat} {f3 : List Term} {v5 : Term} {z7 : Int} {q9 : Nat} {a10 : List Int} (g4 : s_get h q2 = some (1, 11, f3)) (g11 : s_get h q9 = some (0, 5, a10.map vi)) (k1 : gi a10 z7 = 0 → wr P d sw_c419 sw_h419 (41, [.index q2], [], h, kc, ks) Q) (k2 : ¬ gi a10 z7 = 0 → wr P d sw_c419 sw_h419 (31, [.index q2], [], h, kc, ks) Q) (e_q2 : r0 = .index q2 := by first | rfl | assumption) (e_q9 : v5 = .index q9 := by first | rfl | assumption) (y1 : s_ty r0 = 3 := by first | rfl | assumption) (n6 : s_nth f3 62 = some v5 := by first | rfl | assumption) (n8 : s_nth f3 59 = some (vi z7) := by first | rfl | assumption) (c12 : z7 < a10.length := by first | omega | assumption | (simp only [mk_len, List.length_map]; omega) | decide) (c13 : 0 ≤ z7 := by first | omega | assumption | (simp only [mk_len, List.length_map]; omega) | decide) (c14 : In3 z7 := by first | omega | assumption | (simp only [mk_len, List.length_map]; omega) | decide) (c15 : In3 (gi a10 z7) := by first | omega | assumption | (simp only [mk_len, List.length_map]; omega) | decide) : wr P d sw_c419 sw_h419 (19, [r0], [], h, kc, ks) Q := by
  refine w_ld rfl rfl (Or.inr (Or.inr ⟨by decide, y1⟩)) ?_
  subst e_q2
  refine w_getf rfl g4 n6 ?_
  refine w_ld rfl rfl (Or.inr (Or.inr ⟨by decide, rfl⟩)) ?_
  refine w_getf rfl g4 n8 ?_
  subst e_q9
  refine w_bald rfl g11 c14 c13 c12 ?_
  exact w_if1 rfl c15 k1 k2

theorem k419_31 {P : s_P} {d : Nat} {Q : s_O → Prop} {h : s_H} {kc ks : Nat} {r0 : Term} {q2 : Nat} {f3 : List Term} {v5 : Term} (g4 : s_get h q2 = some (1, 11, f3)) (k : wm P d 592 [v5, vl 32002] h (wq P d sw_c419 sw_h419 41 [.index q2] [] kc ks Q)) (e_q2 : r0 = .index q2 := by first | rfl | assumption) (y1 : s_ty r0 = 3 := by first | rfl | assumption) (n6 : s_nth f3 14 = some v5 := by first | rfl | assumption)  : wr P d sw_c419 sw_h419 (31, [r0], [], h, kc, ks) Q := by
  refine w_ld rfl rfl (Or.inr (Or.inr ⟨by decide, y1⟩)) ?_
  subst e_q2
  refine w_getf rfl g4 n6 ?_
  refine w_c64 rfl (by decide) 32002 (by decide) ?_
  exact w_cs rfl [v5, vl 32002] [] rfl rfl (s_wt_4 rfl) k

theorem k419_41 {P : s_P} {d : Nat} {Q : s_O → Prop} {h : s_H} {kc ks : Nat} {r0 : Term} {q2 : Nat} {f3 : List Term} {v5 : Term} {z7 : Int} {q9 : Nat} {a10 : List Int} {f16 : List Term} {v18 : Term} {z20 : Int} {q22 : Nat} {a23 : List Int} (g4 : s_get h q2 = some (1, 11, f3)) (g11 : s_get h q9 = some (0, 5, a10.map vi)) (g17 : s_get (hp h q9 (0, 5, (a10.set (Int.toNat (z7)) 0).map vi)) q2 = some (1, 11, f16)) (g24 : s_get (hp h q9 (0, 5, (a10.set (Int.toNat (z7)) 0).map vi)) q22 = some (0, 5, a23.map vi)) (k1 : gi a23 z20 ≠ 0 → wr P d sw_c419 sw_h419 (64, [.index q2], [], (hp h q9 (0, 5, (a10.set (Int.toNat (z7)) 0).map vi)), kc, ks) Q) (k2 : ¬ gi a23 z20 ≠ 0 → wr P d sw_c419 sw_h419 (63, [.index q2], [], (hp h q9 (0, 5, (a10.set (Int.toNat (z7)) 0).map vi)), kc, ks) Q) (e_q2 : r0 = .index q2 := by first | rfl | assumption) (e_q9 : v5 = .index q9 := by first | rfl | assumption) (e_q22 : v18 = .index q22 := by first | rfl | assumption) (y1 : s_ty r0 = 3 := by first | rfl | assumption) (n6 : s_nth f3 62 = some v5 := by first | rfl | assumption) (n8 : s_nth f3 59 = some (vi z7) := by first | rfl | assumption) (n19 : s_nth f16 60 = some v18 := by first | rfl | assumption) (n21 : s_nth f16 59 = some (vi z20) := by first | rfl | assumption) (c12 : z7 < a10.length := by first | omega | assumption | (simp only [mk_len, List.length_map]; omega) | decide) (c13 : 0 ≤ z7 := by first | omega | assumption | (simp only [mk_len, List.length_map]; omega) | decide) (c14 : In3 z7 := by first | omega | assumption | (simp only [mk_len, List.length_map]; omega) | decide) (c15 : 0 < q9 := by first | omega | assumption | (simp only [mk_len, List.length_map]; omega) | decide) (c25 : z20 < a23.length := by first | omega | assumption | (simp only [mk_len, List.length_map]; omega) | decide) (c26 : 0 ≤ z20 := by first | omega | assumption | (simp only [mk_len, List.length_map]; omega) | decide) (c27 : In3 z20 := by first | omega | assumption | (simp only [mk_len, List.length_map]; omega) | decide) (c28 : In3 (gi a23 z20) := by first | omega | assumption | (simp only [mk_len, List.length_map]; omega) | decide) : wr P d sw_c419 sw_h419 (41, [r0], [], h, kc, ks) Q := by
  refine w_ld rfl rfl (Or.inr (Or.inr ⟨by decide, y1⟩)) ?_
  subst e_q2
  refine w_getf rfl g4 n6 ?_
  refine w_ld rfl rfl (Or.inr (Or.inr ⟨by decide, rfl⟩)) ?_
  refine w_getf rfl g4 n8 ?_
  refine w_c32 rfl (by decide) 0 (by decide) ?_
  subst e_q9
  refine w_bast rfl g11 (Nat.ble_eq_true_of_le c15) c14 c13 c12 (by decide) ?_
  refine w_ld rfl rfl (Or.inr (Or.inr ⟨by decide, rfl⟩)) ?_
  refine w_getf rfl g17 n19 ?_
  refine w_ld rfl rfl (Or.inr (Or.inr ⟨by decide, rfl⟩)) ?_
  refine w_getf rfl g17 n21 ?_
  subst e_q22
  refine w_bald rfl g24 c27 c26 c25 ?_
  exact w_if1 rfl c28 k1 k2

theorem k419_63 {P : s_P} {d : Nat} {Q : s_O → Prop} {h : s_H} {kc ks : Nat} {r0 : Term}  (k : Q (.inl none, h, kc, ks))   : wr P d sw_c419 sw_h419 (63, [r0], [], h, kc, ks) Q := by
  exact w_ret rfl k

theorem k419_64 {P : s_P} {d : Nat} {Q : s_O → Prop} {h : s_H} {kc ks : Nat} {r0 : Term} {q2 : Nat} {f3 : List Term} {z5 : Int} (g4 : s_get h q2 = some (1, 11, f3)) (k1 : z5 ≠ 1 → wr P d sw_c419 sw_h419 (97, [.index q2], [], h, kc, ks) Q) (k2 : ¬ z5 ≠ 1 → wr P d sw_c419 sw_h419 (72, [.index q2], [], h, kc, ks) Q) (e_q2 : r0 = .index q2 := by first | rfl | assumption) (y1 : s_ty r0 = 3 := by first | rfl | assumption) (n6 : s_nth f3 54 = some (vi z5) := by first | rfl | assumption) (c7 : In3 z5 := by first | omega | assumption | (simp only [mk_len, List.length_map]; omega) | decide) : wr P d sw_c419 sw_h419 (64, [r0], [], h, kc, ks) Q := by
  refine w_ld rfl rfl (Or.inr (Or.inr ⟨by decide, y1⟩)) ?_
  subst e_q2
  refine w_getf rfl g4 n6 ?_
  refine w_c32 rfl (by decide) 1 (by decide) ?_
  exact w_if2 rfl c7 (by decide) k1 k2

theorem k419_72 {P : s_P} {d : Nat} {Q : s_O → Prop} {h : s_H} {kc ks : Nat} {r0 : Term} {q2 : Nat} {f3 : List Term} {v5 : Term} {z7 : Int} {q9 : Nat} {a10 : List Int} (g4 : s_get h q2 = some (1, 11, f3)) (g11 : s_get h q9 = some (0, 0, a10.map vi)) (k1 : gi a10 z7 ≠ 43 → wr P d sw_c419 sw_h419 (91, [.index q2], [.index q2], h, kc, ks) Q) (k2 : ¬ gi a10 z7 ≠ 43 → wr P d sw_c419 sw_h419 (87, [.index q2], [.index q2], h, kc, ks) Q) (e_q2 : r0 = .index q2 := by first | rfl | assumption) (e_q9 : v5 = .index q9 := by first | rfl | assumption) (y1 : s_ty r0 = 3 := by first | rfl | assumption) (n6 : s_nth f3 63 = some v5 := by first | rfl | assumption) (n8 : s_nth f3 59 = some (vi z7) := by first | rfl | assumption) (c12 : z7 < a10.length := by first | omega | assumption | (simp only [mk_len, List.length_map]; omega) | decide) (c13 : 0 ≤ z7 := by first | omega | assumption | (simp only [mk_len, List.length_map]; omega) | decide) (c14 : In3 z7 := by first | omega | assumption | (simp only [mk_len, List.length_map]; omega) | decide) (c15 : In3 (gi a10 z7) := by first | omega | assumption | (simp only [mk_len, List.length_map]; omega) | decide) : wr P d sw_c419 sw_h419 (72, [r0], [], h, kc, ks) Q := by
  refine w_ld rfl rfl (Or.inr (Or.inr ⟨by decide, y1⟩)) ?_
  refine w_ld rfl rfl (Or.inr (Or.inr ⟨by decide, y1⟩)) ?_
  subst e_q2
  refine w_getf rfl g4 n6 ?_
  refine w_ld rfl rfl (Or.inr (Or.inr ⟨by decide, rfl⟩)) ?_
  refine w_getf rfl g4 n8 ?_
  subst e_q9
  refine w_iald rfl g11 (Or.inl rfl) c14 c13 c12 ?_
  refine w_c32 rfl (by decide) 43 (by decide) ?_
  exact w_if2 rfl c15 (by decide) k1 k2

theorem k419_87 {P : s_P} {d : Nat} {Q : s_O → Prop} {h : s_H} {kc ks : Nat} {r0 s0 : Term}  (k : wr P d sw_c419 sw_h419 (92, [r0], [vi 2, s0], h, kc, ks) Q)   : wr P d sw_c419 sw_h419 (87, [r0], [s0], h, kc, ks) Q := by
  refine w_c32 rfl (by decide) 2 (by decide) ?_
  refine w_goto rfl ?_
  exact k

theorem k419_91 {P : s_P} {d : Nat} {Q : s_O → Prop} {h : s_H} {kc ks : Nat} {r0 s0 : Term}  (k : wr P d sw_c419 sw_h419 (92, [r0], [vi 3, s0], h, kc, ks) Q)   : wr P d sw_c419 sw_h419 (91, [r0], [s0], h, kc, ks) Q := by
  refine w_c32 rfl (by decide) 3 (by decide) ?_
  exact k

theorem k419_92 {P : s_P} {d : Nat} {Q : s_O → Prop} {h : s_H} {kc ks : Nat} {r0 s0 : Term} {s1 : Int} {q1 : Nat} {f2 : List Term} (g3 : s_get h q1 = some (1, 11, f2)) (k : wm P d 437 [.index q1, vi s1, vi 0] h (wq P d sw_c419 sw_h419 96 [r0] [] kc ks Q)) (e_q1 : s0 = .index q1 := by first | rfl | assumption)  : wr P d sw_c419 sw_h419 (92, [r0], [vi s1, s0], h, kc, ks) Q := by
  refine w_c32 rfl (by decide) 0 (by decide) ?_
  subst e_q1
  exact w_cv rfl [.index q1, vi s1, vi 0] [] rfl rfl (s_wt_4 rfl) rfl g3 k

theorem k419_96 {P : s_P} {d : Nat} {Q : s_O → Prop} {h : s_H} {kc ks : Nat} {r0 : Term}  (k : Q (.inl none, h, kc, ks))   : wr P d sw_c419 sw_h419 (96, [r0], [], h, kc, ks) Q := by
  exact w_ret rfl k

theorem k419_97 {P : s_P} {d : Nat} {Q : s_O → Prop} {h : s_H} {kc ks : Nat} {r0 : Term} {q2 : Nat} {f3 : List Term} (g4 : s_get h q2 = some (1, 11, f3)) (k : wm P d 506 [.index q2, vi 1] h (wq P d sw_c419 sw_h419 102 [.index q2] [] kc ks Q)) (e_q2 : r0 = .index q2 := by first | rfl | assumption) (y1 : s_ty r0 = 3 := by first | rfl | assumption)  : wr P d sw_c419 sw_h419 (97, [r0], [], h, kc, ks) Q := by
  refine w_ld rfl rfl (Or.inr (Or.inr ⟨by decide, y1⟩)) ?_
  refine w_c32 rfl (by decide) 1 (by decide) ?_
  subst e_q2
  exact w_cv rfl [.index q2, vi 1] [] rfl rfl (s_wt_4 rfl) rfl g4 k

theorem k419_102 {P : s_P} {d : Nat} {Q : s_O → Prop} {h : s_H} {kc ks : Nat} {r0 : Term} {q2 : Nat} {f3 : List Term} {v5 : Term} {z7 : Int} {q9 : Nat} {a10 : List Int} (g4 : s_get h q2 = some (1, 11, f3)) (g11 : s_get h q9 = some (0, 0, a10.map vi)) (k1 : gi a10 z7 ≠ 43 → wr P d sw_c419 sw_h419 (121, [.index q2], [.index q2], h, kc, ks) Q) (k2 : ¬ gi a10 z7 ≠ 43 → wr P d sw_c419 sw_h419 (117, [.index q2], [.index q2], h, kc, ks) Q) (e_q2 : r0 = .index q2 := by first | rfl | assumption) (e_q9 : v5 = .index q9 := by first | rfl | assumption) (y1 : s_ty r0 = 3 := by first | rfl | assumption) (n6 : s_nth f3 63 = some v5 := by first | rfl | assumption) (n8 : s_nth f3 59 = some (vi z7) := by first | rfl | assumption) (c12 : z7 < a10.length := by first | omega | assumption | (simp only [mk_len, List.length_map]; omega) | decide) (c13 : 0 ≤ z7 := by first | omega | assumption | (simp only [mk_len, List.length_map]; omega) | decide) (c14 : In3 z7 := by first | omega | assumption | (simp only [mk_len, List.length_map]; omega) | decide) (c15 : In3 (gi a10 z7) := by first | omega | assumption | (simp only [mk_len, List.length_map]; omega) | decide) : wr P d sw_c419 sw_h419 (102, [r0], [], h, kc, ks) Q := by
  refine w_ld rfl rfl (Or.inr (Or.inr ⟨by decide, y1⟩)) ?_
  refine w_ld rfl rfl (Or.inr (Or.inr ⟨by decide, y1⟩)) ?_
  subst e_q2
  refine w_getf rfl g4 n6 ?_
  refine w_ld rfl rfl (Or.inr (Or.inr ⟨by decide, rfl⟩)) ?_
  refine w_getf rfl g4 n8 ?_
  subst e_q9
  refine w_iald rfl g11 (Or.inl rfl) c14 c13 c12 ?_
  refine w_c32 rfl (by decide) 43 (by decide) ?_
  exact w_if2 rfl c15 (by decide) k1 k2

theorem k419_117 {P : s_P} {d : Nat} {Q : s_O → Prop} {h : s_H} {kc ks : Nat} {r0 s0 : Term}  (k : wr P d sw_c419 sw_h419 (124, [r0], [vl 1, s0], h, kc, ks) Q)   : wr P d sw_c419 sw_h419 (117, [r0], [s0], h, kc, ks) Q := by
  refine w_c64 rfl (by decide) 1 (by decide) ?_
  refine w_goto rfl ?_
  exact k

theorem k419_121 {P : s_P} {d : Nat} {Q : s_O → Prop} {h : s_H} {kc ks : Nat} {r0 s0 : Term}  (k : wr P d sw_c419 sw_h419 (124, [r0], [vl (-1), s0], h, kc, ks) Q)   : wr P d sw_c419 sw_h419 (121, [r0], [s0], h, kc, ks) Q := by
  refine w_c64 rfl (by decide) (-1) (by decide) ?_
  exact k

theorem k419_124 {P : s_P} {d : Nat} {Q : s_O → Prop} {h : s_H} {kc ks : Nat} {r0 s0 : Term} {s1 : Int} {q1 : Nat} {f2 : List Term} (g3 : s_get h q1 = some (1, 11, f2)) (k : wm P d 602 [.index q1, vl s1] h (wq P d sw_c419 sw_h419 127 [r0] [] kc ks Q)) (e_q1 : s0 = .index q1 := by first | rfl | assumption)  : wr P d sw_c419 sw_h419 (124, [r0], [vl s1, s0], h, kc, ks) Q := by
  subst e_q1
  exact w_cv rfl [.index q1, vl s1] [] rfl rfl (s_wt_4 rfl) rfl g3 k

theorem k419_127 {P : s_P} {d : Nat} {Q : s_O → Prop} {h : s_H} {kc ks : Nat} {r0 : Term} {q2 : Nat} {f3 : List Term} (g4 : s_get h q2 = some (1, 11, f3)) (k : wm P d 479 [.index q2] h (wq P d sw_c419 sw_h419 131 [.index q2] [] kc ks Q)) (e_q2 : r0 = .index q2 := by first | rfl | assumption) (y1 : s_ty r0 = 3 := by first | rfl | assumption)  : wr P d sw_c419 sw_h419 (127, [r0], [], h, kc, ks) Q := by
  refine w_ld rfl rfl (Or.inr (Or.inr ⟨by decide, y1⟩)) ?_
  subst e_q2
  exact w_cv rfl [.index q2] [] rfl rfl (s_wt_4 rfl) rfl g4 k

theorem k419_131 {P : s_P} {d : Nat} {Q : s_O → Prop} {h : s_H} {kc ks : Nat} {r0 : Term} {s0 : Int}  (k1 : s0 = 0 → wr P d sw_c419 sw_h419 (148, [r0], [], h, kc, ks) Q) (k2 : ¬ s0 = 0 → wr P d sw_c419 sw_h419 (134, [r0], [], h, kc, ks) Q)  (c1 : In3 s0 := by first | omega | assumption | (simp only [mk_len, List.length_map]; omega) | decide) : wr P d sw_c419 sw_h419 (131, [r0], [vi s0], h, kc, ks) Q := by
  exact w_if1 rfl c1 k1 k2

theorem k419_134 {P : s_P} {d : Nat} {Q : s_O → Prop} {h : s_H} {kc ks : Nat} {r0 : Term} {q2 : Nat} {f3 : List Term} {v5 : Term} {z7 : Int} {q9 : Nat} {a10 : List Int} (g4 : s_get h q2 = some (1, 11, f3)) (g11 : s_get h q9 = some (0, 0, a10.map vi)) (k : wm P d 445 [.index q2, vi 5, vi (gi a10 z7)] h (wq P d sw_c419 sw_h419 148 [.index q2] [] kc ks Q)) (e_q2 : r0 = .index q2 := by first | rfl | assumption) (e_q9 : v5 = .index q9 := by first | rfl | assumption) (y1 : s_ty r0 = 3 := by first | rfl | assumption) (n6 : s_nth f3 65 = some v5 := by first | rfl | assumption) (n8 : s_nth f3 59 = some (vi z7) := by first | rfl | assumption) (c12 : z7 < a10.length := by first | omega | assumption | (simp only [mk_len, List.length_map]; omega) | decide) (c13 : 0 ≤ z7 := by first | omega | assumption | (simp only [mk_len, List.length_map]; omega) | decide) (c14 : In3 z7 := by first | omega | assumption | (simp only [mk_len, List.length_map]; omega) | decide) : wr P d sw_c419 sw_h419 (134, [r0], [], h, kc, ks) Q := by
  refine w_ld rfl rfl (Or.inr (Or.inr ⟨by decide, y1⟩)) ?_
  refine w_c32 rfl (by decide) 5 (by decide) ?_
  refine w_ld rfl rfl (Or.inr (Or.inr ⟨by decide, y1⟩)) ?_
  subst e_q2
  refine w_getf rfl g4 n6 ?_
  refine w_ld rfl rfl (Or.inr (Or.inr ⟨by decide, rfl⟩)) ?_
  refine w_getf rfl g4 n8 ?_
  subst e_q9
  refine w_iald rfl g11 (Or.inl rfl) c14 c13 c12 ?_
  exact w_cv rfl [.index q2, vi 5, vi (gi a10 z7)] [] rfl rfl (s_wt_4 rfl) rfl g4 k

theorem k419_148 {P : s_P} {d : Nat} {Q : s_O → Prop} {h : s_H} {kc ks : Nat} {r0 : Term}  (k : Q (.inl none, h, kc, ks))   : wr P d sw_c419 sw_h419 (148, [r0], [], h, kc, ks) Q := by
  exact w_ret rfl k

/-! 420: FormulaWorksModel.closed(I)I -/
theorem k420_0 {P : s_P} {d : Nat} {Q : s_O → Prop} {h : s_H} {kc ks : Nat} {r0 : Term} {x1 : Int} {q2 : Nat} {f3 : List Term} (g4 : s_get h q2 = some (1, 11, f3)) (k : wm P d 481 [.index q2, vi x1, vi 0] h (wq P d sw_c420 sw_h420 6 [.index q2, vi x1] [] kc ks Q)) (e_q2 : r0 = .index q2 := by first | rfl | assumption) (y1 : s_ty r0 = 3 := by first | rfl | assumption)  : wr P d sw_c420 sw_h420 (0, [r0, vi x1], [], h, kc, ks) Q := by
  refine w_ld rfl rfl (Or.inr (Or.inr ⟨by decide, y1⟩)) ?_
  refine w_ld rfl rfl (Or.inl ⟨by decide, rfl⟩) ?_
  refine w_c32 rfl (by decide) 0 (by decide) ?_
  subst e_q2
  exact w_cv rfl [.index q2, vi x1, vi 0] [] rfl rfl (s_wt_4 rfl) rfl g4 k

theorem k420_6 {P : s_P} {d : Nat} {Q : s_O → Prop} {h : s_H} {kc ks : Nat} {r0 : Term} {x1 s0 : Int}  (k1 : s0 ≠ 0 → wr P d sw_c420 sw_h420 (11, [r0, vi x1], [], h, kc, ks) Q) (k2 : ¬ s0 ≠ 0 → wr P d sw_c420 sw_h420 (9, [r0, vi x1], [], h, kc, ks) Q)  (c1 : In3 s0 := by first | omega | assumption | (simp only [mk_len, List.length_map]; omega) | decide) : wr P d sw_c420 sw_h420 (6, [r0, vi x1], [vi s0], h, kc, ks) Q := by
  exact w_if1 rfl c1 k1 k2

theorem k420_9 {P : s_P} {d : Nat} {Q : s_O → Prop} {h : s_H} {kc ks : Nat} {r0 : Term} {x1 : Int}  (k : Q (.inl (some (vi 0)), h, kc, ks))   : wr P d sw_c420 sw_h420 (9, [r0, vi x1], [], h, kc, ks) Q := by
  refine w_c32 rfl (by decide) 0 (by decide) ?_
  exact w_iret rfl k

theorem k420_11 {P : s_P} {d : Nat} {Q : s_O → Prop} {h : s_H} {kc ks : Nat} {r0 : Term} {x1 : Int} {q2 : Nat} {f3 : List Term} {v5 : Term} (g4 : s_get h q2 = some (1, 11, f3)) (k : wm P d 463 [v5] h (wq P d sw_c420 sw_h420 18 [.index q2, vi x1] [] kc ks Q)) (e_q2 : r0 = .index q2 := by first | rfl | assumption) (y1 : s_ty r0 = 3 := by first | rfl | assumption) (n6 : s_nth f3 10 = some v5 := by first | rfl | assumption)  : wr P d sw_c420 sw_h420 (11, [r0, vi x1], [], h, kc, ks) Q := by
  refine w_ld rfl rfl (Or.inr (Or.inr ⟨by decide, y1⟩)) ?_
  subst e_q2
  refine w_getf rfl g4 n6 ?_
  exact w_cs rfl [v5] [] rfl rfl (s_wt_4 rfl) k

theorem k420_18 {P : s_P} {d : Nat} {Q : s_O → Prop} {h : s_H} {kc ks : Nat} {r0 : Term} {x1 s0 : Int}  (k1 : 0 ≤ s0 → wr P d sw_c420 sw_h420 (27, [r0, vi x1], [], h, kc, ks) Q) (k2 : ¬ 0 ≤ s0 → wr P d sw_c420 sw_h420 (21, [r0, vi x1], [], h, kc, ks) Q)  (c1 : In3 s0 := by first | omega | assumption | (simp only [mk_len, List.length_map]; omega) | decide) : wr P d sw_c420 sw_h420 (18, [r0, vi x1], [vi s0], h, kc, ks) Q := by
  exact w_if1 rfl c1 k1 k2

theorem k420_21 {P : s_P} {d : Nat} {Q : s_O → Prop} {h : s_H} {kc ks : Nat} {r0 : Term} {x1 : Int} {q2 : Nat} {f3 : List Term} (g4 : s_get h q2 = some (1, 11, f3)) (k : wm P d 570 [.index q2, vi 2] h (wq P d sw_c420 sw_h420 26 [.index q2, vi x1] [] kc ks Q)) (e_q2 : r0 = .index q2 := by first | rfl | assumption) (y1 : s_ty r0 = 3 := by first | rfl | assumption)  : wr P d sw_c420 sw_h420 (21, [r0, vi x1], [], h, kc, ks) Q := by
  refine w_ld rfl rfl (Or.inr (Or.inr ⟨by decide, y1⟩)) ?_
  refine w_c32 rfl (by decide) 2 (by decide) ?_
  subst e_q2
  exact w_cv rfl [.index q2, vi 2] [] rfl rfl (s_wt_4 rfl) rfl g4 k

theorem k420_26 {P : s_P} {d : Nat} {Q : s_O → Prop} {h : s_H} {kc ks : Nat} {r0 : Term} {x1 s0 : Int}  (k : Q (.inl (some (vi s0)), h, kc, ks))   : wr P d sw_c420 sw_h420 (26, [r0, vi x1], [vi s0], h, kc, ks) Q := by
  exact w_iret rfl k

theorem k420_27 {P : s_P} {d : Nat} {Q : s_O → Prop} {h : s_H} {kc ks : Nat} {r0 : Term} {x1 : Int} {q2 : Nat} {f3 : List Term} {z5 : Int} (g4 : s_get h q2 = some (1, 11, f3)) (k1 : z5 ≠ 150 → wr P d sw_c420 sw_h420 (43, [.index q2, vi x1], [], h, kc, ks) Q) (k2 : ¬ z5 ≠ 150 → wr P d sw_c420 sw_h420 (37, [.index q2, vi x1], [], h, kc, ks) Q) (e_q2 : r0 = .index q2 := by first | rfl | assumption) (y1 : s_ty r0 = 3 := by first | rfl | assumption) (n6 : s_nth f3 1 = some (vi z5) := by first | rfl | assumption) (c7 : In3 z5 := by first | omega | assumption | (simp only [mk_len, List.length_map]; omega) | decide) : wr P d sw_c420 sw_h420 (27, [r0, vi x1], [], h, kc, ks) Q := by
  refine w_ld rfl rfl (Or.inr (Or.inr ⟨by decide, y1⟩)) ?_
  subst e_q2
  refine w_getf rfl g4 n6 ?_
  refine w_c32 rfl (by decide) 150 (by decide) ?_
  exact w_if2 rfl c7 (by decide) k1 k2

theorem k420_37 {P : s_P} {d : Nat} {Q : s_O → Prop} {h : s_H} {kc ks : Nat} {r0 : Term} {x1 : Int} {q2 : Nat} {f3 : List Term} (g4 : s_get h q2 = some (1, 11, f3)) (k : wm P d 570 [.index q2, vi 3] h (wq P d sw_c420 sw_h420 42 [.index q2, vi x1] [] kc ks Q)) (e_q2 : r0 = .index q2 := by first | rfl | assumption) (y1 : s_ty r0 = 3 := by first | rfl | assumption)  : wr P d sw_c420 sw_h420 (37, [r0, vi x1], [], h, kc, ks) Q := by
  refine w_ld rfl rfl (Or.inr (Or.inr ⟨by decide, y1⟩)) ?_
  refine w_c32 rfl (by decide) 3 (by decide) ?_
  subst e_q2
  exact w_cv rfl [.index q2, vi 3] [] rfl rfl (s_wt_4 rfl) rfl g4 k

theorem k420_42 {P : s_P} {d : Nat} {Q : s_O → Prop} {h : s_H} {kc ks : Nat} {r0 : Term} {x1 s0 : Int}  (k : Q (.inl (some (vi s0)), h, kc, ks))   : wr P d sw_c420 sw_h420 (42, [r0, vi x1], [vi s0], h, kc, ks) Q := by
  exact w_iret rfl k

theorem k420_43 {P : s_P} {d : Nat} {Q : s_O → Prop} {h : s_H} {kc ks : Nat} {r0 : Term} {x1 : Int} {q2 : Nat} {f3 : List Term} (g4 : s_get h q2 = some (1, 11, f3)) (k : wm P d 490 [.index q2] h (wq P d sw_c420 sw_h420 47 [.index q2, vi x1] [] kc ks Q)) (e_q2 : r0 = .index q2 := by first | rfl | assumption) (y1 : s_ty r0 = 3 := by first | rfl | assumption)  : wr P d sw_c420 sw_h420 (43, [r0, vi x1], [], h, kc, ks) Q := by
  refine w_ld rfl rfl (Or.inr (Or.inr ⟨by decide, y1⟩)) ?_
  subst e_q2
  exact w_cv rfl [.index q2] [] rfl rfl (s_wt_4 rfl) rfl g4 k

theorem k420_47 {P : s_P} {d : Nat} {Q : s_O → Prop} {h : s_H} {kc ks : Nat} {r0 : Term} {x1 s0 : Int}  (k1 : s0 = 0 → wr P d sw_c420 sw_h420 (57, [r0, vi x1], [], h, kc, ks) Q) (k2 : ¬ s0 = 0 → wr P d sw_c420 sw_h420 (50, [r0, vi x1], [], h, kc, ks) Q)  (c1 : In3 s0 := by first | omega | assumption | (simp only [mk_len, List.length_map]; omega) | decide) : wr P d sw_c420 sw_h420 (47, [r0, vi x1], [vi s0], h, kc, ks) Q := by
  exact w_if1 rfl c1 k1 k2

theorem k420_50 {P : s_P} {d : Nat} {Q : s_O → Prop} {h : s_H} {kc ks : Nat} {r0 : Term} {x1 : Int} {q2 : Nat} {f3 : List Term} (g4 : s_get h q2 = some (1, 11, f3)) (k : wm P d 471 [.index q2] h (wq P d sw_c420 sw_h420 54 [.index q2, vi x1] [] kc ks Q)) (e_q2 : r0 = .index q2 := by first | rfl | assumption) (y1 : s_ty r0 = 3 := by first | rfl | assumption)  : wr P d sw_c420 sw_h420 (50, [r0, vi x1], [], h, kc, ks) Q := by
  refine w_ld rfl rfl (Or.inr (Or.inr ⟨by decide, y1⟩)) ?_
  subst e_q2
  exact w_cv rfl [.index q2] [] rfl rfl (s_wt_4 rfl) rfl g4 k

theorem k420_54 {P : s_P} {d : Nat} {Q : s_O → Prop} {h : s_H} {kc ks : Nat} {r0 : Term} {x1 s0 : Int}  (k1 : s0 ≠ 0 → wr P d sw_c420 sw_h420 (59, [r0, vi x1], [], h, kc, ks) Q) (k2 : ¬ s0 ≠ 0 → wr P d sw_c420 sw_h420 (57, [r0, vi x1], [], h, kc, ks) Q)  (c1 : In3 s0 := by first | omega | assumption | (simp only [mk_len, List.length_map]; omega) | decide) : wr P d sw_c420 sw_h420 (54, [r0, vi x1], [vi s0], h, kc, ks) Q := by
  exact w_if1 rfl c1 k1 k2

theorem k420_57 {P : s_P} {d : Nat} {Q : s_O → Prop} {h : s_H} {kc ks : Nat} {r0 : Term} {x1 : Int}  (k : Q (.inl (some (vi (-1))), h, kc, ks))   : wr P d sw_c420 sw_h420 (57, [r0, vi x1], [], h, kc, ks) Q := by
  refine w_c32 rfl (by decide) (-1) (by decide) ?_
  exact w_iret rfl k

theorem k420_59 {P : s_P} {d : Nat} {Q : s_O → Prop} {h : s_H} {kc ks : Nat} {r0 : Term} {x1 : Int} {q2 : Nat} {f3 : List Term} {v5 v7 : Term} (g4 : s_get h q2 = some (1, 11, f3)) (k : wm P d 531 [.index q2, v5, v7] h (wq P d sw_c420 sw_h420 71 [.index q2, vi x1] [] kc ks Q)) (e_q2 : r0 = .index q2 := by first | rfl | assumption) (y1 : s_ty r0 = 3 := by first | rfl | assumption) (n6 : s_nth f3 11 = some v5 := by first | rfl | assumption) (n8 : s_nth f3 20 = some v7 := by first | rfl | assumption)  : wr P d sw_c420 sw_h420 (59, [r0, vi x1], [], h, kc, ks) Q := by
  refine w_ld rfl rfl (Or.inr (Or.inr ⟨by decide, y1⟩)) ?_
  refine w_ld rfl rfl (Or.inr (Or.inr ⟨by decide, y1⟩)) ?_
  subst e_q2
  refine w_getf rfl g4 n6 ?_
  refine w_ld rfl rfl (Or.inr (Or.inr ⟨by decide, rfl⟩)) ?_
  refine w_getf rfl g4 n8 ?_
  exact w_cv rfl [.index q2, v5, v7] [] rfl rfl (s_wt_4 rfl) rfl g4 k

theorem k420_71 {P : s_P} {d : Nat} {Q : s_O → Prop} {h : s_H} {kc ks : Nat} {r0 : Term} {x1 : Int} {q2 : Nat} {f3 : List Term} {v5 v7 : Term} (g4 : s_get h q2 = some (1, 11, f3)) (k : wm P d 425 [v5, v7] h (wq P d sw_c420 sw_h420 82 [.index q2, vi x1] [] kc ks Q)) (e_q2 : r0 = .index q2 := by first | rfl | assumption) (y1 : s_ty r0 = 3 := by first | rfl | assumption) (n6 : s_nth f3 14 = some v5 := by first | rfl | assumption) (n8 : s_nth f3 16 = some v7 := by first | rfl | assumption)  : wr P d sw_c420 sw_h420 (71, [r0, vi x1], [], h, kc, ks) Q := by
  refine w_ld rfl rfl (Or.inr (Or.inr ⟨by decide, y1⟩)) ?_
  subst e_q2
  refine w_getf rfl g4 n6 ?_
  refine w_ld rfl rfl (Or.inr (Or.inr ⟨by decide, rfl⟩)) ?_
  refine w_getf rfl g4 n8 ?_
  exact w_cs rfl [v5, v7] [] rfl rfl (s_wt_4 rfl) k

theorem k420_82 {P : s_P} {d : Nat} {Q : s_O → Prop} {h : s_H} {kc ks : Nat} {r0 : Term} {x1 : Int} {q2 : Nat} {f3 : List Term} {v5 v7 : Term} (g4 : s_get h q2 = some (1, 11, f3)) (k : wm P d 425 [v5, v7] h (wq P d sw_c420 sw_h420 93 [.index q2, vi x1] [] kc ks Q)) (e_q2 : r0 = .index q2 := by first | rfl | assumption) (y1 : s_ty r0 = 3 := by first | rfl | assumption) (n6 : s_nth f3 15 = some v5 := by first | rfl | assumption) (n8 : s_nth f3 24 = some v7 := by first | rfl | assumption)  : wr P d sw_c420 sw_h420 (82, [r0, vi x1], [], h, kc, ks) Q := by
  refine w_ld rfl rfl (Or.inr (Or.inr ⟨by decide, y1⟩)) ?_
  subst e_q2
  refine w_getf rfl g4 n6 ?_
  refine w_ld rfl rfl (Or.inr (Or.inr ⟨by decide, rfl⟩)) ?_
  refine w_getf rfl g4 n8 ?_
  exact w_cs rfl [v5, v7] [] rfl rfl (s_wt_4 rfl) k

theorem k420_93 {P : s_P} {d : Nat} {Q : s_O → Prop} {h : s_H} {kc ks : Nat} {r0 : Term} {x1 : Int} {q2 : Nat} {f3 : List Term} (g4 : s_get h q2 = some (1, 11, f3)) (k : wm P d 516 [.index q2] h (wq P d sw_c420 sw_h420 97 [.index q2, vi x1] [] kc ks Q)) (e_q2 : r0 = .index q2 := by first | rfl | assumption) (y1 : s_ty r0 = 3 := by first | rfl | assumption)  : wr P d sw_c420 sw_h420 (93, [r0, vi x1], [], h, kc, ks) Q := by
  refine w_ld rfl rfl (Or.inr (Or.inr ⟨by decide, y1⟩)) ?_
  subst e_q2
  exact w_cv rfl [.index q2] [] rfl rfl (s_wt_4 rfl) rfl g4 k

theorem k420_97 {P : s_P} {d : Nat} {Q : s_O → Prop} {h : s_H} {kc ks : Nat} {r0 : Term} {x1 : Int} {q2 : Nat} {f3 : List Term} (g4 : s_get h q2 = some (1, 11, f3)) (k : wm P d 495 [.index q2, vi 3] h (wq P d sw_c420 sw_h420 102 [.index q2, vi x1] [] kc ks Q)) (e_q2 : r0 = .index q2 := by first | rfl | assumption) (y1 : s_ty r0 = 3 := by first | rfl | assumption)  : wr P d sw_c420 sw_h420 (97, [r0, vi x1], [], h, kc, ks) Q := by
  refine w_ld rfl rfl (Or.inr (Or.inr ⟨by decide, y1⟩)) ?_
  refine w_c32 rfl (by decide) 3 (by decide) ?_
  subst e_q2
  exact w_cv rfl [.index q2, vi 3] [] rfl rfl (s_wt_4 rfl) rfl g4 k

theorem k420_102 {P : s_P} {d : Nat} {Q : s_O → Prop} {h : s_H} {kc ks : Nat} {r0 : Term} {x1 s0 : Int}  (k : Q (.inl (some (vi s0)), h, kc, ks))   : wr P d sw_c420 sw_h420 (102, [r0, vi x1], [vi s0], h, kc, ks) Q := by
  exact w_iret rfl k

/-! 421: FormulaWorksModel.combined(III)I -/
theorem k421_0 {P : s_P} {d : Nat} {Q : s_O → Prop} {h : s_H} {kc ks : Nat} {r0 : Term} {x1 x2 x3 : Int} {q2 : Nat} {f3 : List Term} (g4 : s_get h q2 = some (1, 11, f3)) (k : wm P d 403 [.index q2, vi x1, vi x2, vi x3] h (wq P d sw_c421 sw_h421 7 [.index q2, vi x1, vi x2, vi x3] [] kc ks Q)) (e_q2 : r0 = .index q2 := by first | rfl | assumption) (y1 : s_ty r0 = 3 := by first | rfl | assumption)  : wr P d sw_c421 sw_h421 (0, [r0, vi x1, vi x2, vi x3], [], h, kc, ks) Q := by
  refine w_ld rfl rfl (Or.inr (Or.inr ⟨by decide, y1⟩)) ?_
  refine w_ld rfl rfl (Or.inl ⟨by decide, rfl⟩) ?_
  refine w_ld rfl rfl (Or.inl ⟨by decide, rfl⟩) ?_
  refine w_ld rfl rfl (Or.inl ⟨by decide, rfl⟩) ?_
  subst e_q2
  exact w_cv rfl [.index q2, vi x1, vi x2, vi x3] [] rfl rfl (s_wt_4 rfl) rfl g4 k

theorem k421_7 {P : s_P} {d : Nat} {Q : s_O → Prop} {h : s_H} {kc ks : Nat} {r0 : Term} {x1 x2 x3 s0 : Int}  (k1 : s0 ≠ 0 → wr P d sw_c421 sw_h421 (12, [r0, vi x1, vi x2, vi x3], [], h, kc, ks) Q) (k2 : ¬ s0 ≠ 0 → wr P d sw_c421 sw_h421 (10, [r0, vi x1, vi x2, vi x3], [], h, kc, ks) Q)  (c1 : In3 s0 := by first | omega | assumption | (simp only [mk_len, List.length_map]; omega) | decide) : wr P d sw_c421 sw_h421 (7, [r0, vi x1, vi x2, vi x3], [vi s0], h, kc, ks) Q := by
  exact w_if1 rfl c1 k1 k2

theorem k421_10 {P : s_P} {d : Nat} {Q : s_O → Prop} {h : s_H} {kc ks : Nat} {r0 : Term} {x1 x2 x3 : Int}  (k : Q (.inl (some (vi 0)), h, kc, ks))   : wr P d sw_c421 sw_h421 (10, [r0, vi x1, vi x2, vi x3], [], h, kc, ks) Q := by
  refine w_c32 rfl (by decide) 0 (by decide) ?_
  exact w_iret rfl k

theorem k421_12 {P : s_P} {d : Nat} {Q : s_O → Prop} {h : s_H} {kc ks : Nat} {r0 : Term} {x1 x2 x3 : Int} {q2 : Nat} {f3 : List Term} {v5 : Term} (g4 : s_get h q2 = some (1, 11, f3)) (k : wm P d 463 [v5] h (wq P d sw_c421 sw_h421 19 [.index q2, vi x1, vi x2, vi x3] [] kc ks Q)) (e_q2 : r0 = .index q2 := by first | rfl | assumption) (y1 : s_ty r0 = 3 := by first | rfl | assumption) (n6 : s_nth f3 10 = some v5 := by first | rfl | assumption)  : wr P d sw_c421 sw_h421 (12, [r0, vi x1, vi x2, vi x3], [], h, kc, ks) Q := by
  refine w_ld rfl rfl (Or.inr (Or.inr ⟨by decide, y1⟩)) ?_
  subst e_q2
  refine w_getf rfl g4 n6 ?_
  exact w_cs rfl [v5] [] rfl rfl (s_wt_4 rfl) k

theorem k421_19 {P : s_P} {d : Nat} {Q : s_O → Prop} {h : s_H} {kc ks : Nat} {r0 : Term} {x1 x2 x3 s0 : Int}  (k1 : 0 ≤ s0 → wr P d sw_c421 sw_h421 (38, [r0, vi x1, vi x2, vi x3], [], h, kc, ks) Q) (k2 : ¬ 0 ≤ s0 → wr P d sw_c421 sw_h421 (22, [r0, vi x1, vi x2, vi x3], [], h, kc, ks) Q)  (c1 : In3 s0 := by first | omega | assumption | (simp only [mk_len, List.length_map]; omega) | decide) : wr P d sw_c421 sw_h421 (19, [r0, vi x1, vi x2, vi x3], [vi s0], h, kc, ks) Q := by
  exact w_if1 rfl c1 k1 k2

theorem k421_22 {P : s_P} {d : Nat} {Q : s_O → Prop} {h : s_H} {kc ks : Nat} {r0 : Term} {x1 x2 x3 : Int} {q2 : Nat} {f3 : List Term} {v5 : Term} (g4 : s_get h q2 = some (1, 11, f3)) (k : wm P d 463 [v5] h (wq P d sw_c421 sw_h421 29 [.index q2, vi x1, vi x2, vi x3] [] kc ks Q)) (e_q2 : r0 = .index q2 := by first | rfl | assumption) (y1 : s_ty r0 = 3 := by first | rfl | assumption) (n6 : s_nth f3 12 = some v5 := by first | rfl | assumption)  : wr P d sw_c421 sw_h421 (22, [r0, vi x1, vi x2, vi x3], [], h, kc, ks) Q := by
  refine w_ld rfl rfl (Or.inr (Or.inr ⟨by decide, y1⟩)) ?_
  subst e_q2
  refine w_getf rfl g4 n6 ?_
  exact w_cs rfl [v5] [] rfl rfl (s_wt_4 rfl) k

theorem k421_29 {P : s_P} {d : Nat} {Q : s_O → Prop} {h : s_H} {kc ks : Nat} {r0 : Term} {x1 x2 x3 s0 : Int}  (k1 : 0 ≤ s0 → wr P d sw_c421 sw_h421 (38, [r0, vi x1, vi x2, vi x3], [], h, kc, ks) Q) (k2 : ¬ 0 ≤ s0 → wr P d sw_c421 sw_h421 (32, [r0, vi x1, vi x2, vi x3], [], h, kc, ks) Q)  (c1 : In3 s0 := by first | omega | assumption | (simp only [mk_len, List.length_map]; omega) | decide) : wr P d sw_c421 sw_h421 (29, [r0, vi x1, vi x2, vi x3], [vi s0], h, kc, ks) Q := by
  exact w_if1 rfl c1 k1 k2

theorem k421_32 {P : s_P} {d : Nat} {Q : s_O → Prop} {h : s_H} {kc ks : Nat} {r0 : Term} {x1 x2 x3 : Int} {q2 : Nat} {f3 : List Term} (g4 : s_get h q2 = some (1, 11, f3)) (k : wm P d 570 [.index q2, vi 2] h (wq P d sw_c421 sw_h421 37 [.index q2, vi x1, vi x2, vi x3] [] kc ks Q)) (e_q2 : r0 = .index q2 := by first | rfl | assumption) (y1 : s_ty r0 = 3 := by first | rfl | assumption)  : wr P d sw_c421 sw_h421 (32, [r0, vi x1, vi x2, vi x3], [], h, kc, ks) Q := by
  refine w_ld rfl rfl (Or.inr (Or.inr ⟨by decide, y1⟩)) ?_
  refine w_c32 rfl (by decide) 2 (by decide) ?_
  subst e_q2
  exact w_cv rfl [.index q2, vi 2] [] rfl rfl (s_wt_4 rfl) rfl g4 k

theorem k421_37 {P : s_P} {d : Nat} {Q : s_O → Prop} {h : s_H} {kc ks : Nat} {r0 : Term} {x1 x2 x3 s0 : Int}  (k : Q (.inl (some (vi s0)), h, kc, ks))   : wr P d sw_c421 sw_h421 (37, [r0, vi x1, vi x2, vi x3], [vi s0], h, kc, ks) Q := by
  exact w_iret rfl k

theorem k421_38 {P : s_P} {d : Nat} {Q : s_O → Prop} {h : s_H} {kc ks : Nat} {r0 : Term} {x1 x2 x3 : Int} {q2 : Nat} {f3 : List Term} {v5 : Term} (g4 : s_get h q2 = some (1, 11, f3)) (k : wm P d 405 [v5, vl 1] h (wq P d sw_c421 sw_h421 46 [.index q2, vi x1, vi x2, vi x3] [] kc ks Q)) (e_q2 : r0 = .index q2 := by first | rfl | assumption) (y1 : s_ty r0 = 3 := by first | rfl | assumption) (n6 : s_nth f3 15 = some v5 := by first | rfl | assumption)  : wr P d sw_c421 sw_h421 (38, [r0, vi x1, vi x2, vi x3], [], h, kc, ks) Q := by
  refine w_ld rfl rfl (Or.inr (Or.inr ⟨by decide, y1⟩)) ?_
  subst e_q2
  refine w_getf rfl g4 n6 ?_
  refine w_c64 rfl (by decide) 1 (by decide) ?_
  exact w_cs rfl [v5, vl 1] [] rfl rfl (s_wt_4 rfl) k

theorem k421_46 {P : s_P} {d : Nat} {Q : s_O → Prop} {h : s_H} {kc ks : Nat} {r0 : Term} {x1 x2 x3 : Int} {q2 : Nat} {f3 : List Term} {v5 v7 : Term} (g4 : s_get h q2 = some (1, 11, f3)) (k : wm P d 423 [.index q2, v5, v7] h (wq P d sw_c421 sw_h421 58 [.index q2, vi x1, vi x2, vi x3] [] kc ks Q)) (e_q2 : r0 = .index q2 := by first | rfl | assumption) (y1 : s_ty r0 = 3 := by first | rfl | assumption) (n6 : s_nth f3 10 = some v5 := by first | rfl | assumption) (n8 : s_nth f3 12 = some v7 := by first | rfl | assumption)  : wr P d sw_c421 sw_h421 (46, [r0, vi x1, vi x2, vi x3], [], h, kc, ks) Q := by
  refine w_ld rfl rfl (Or.inr (Or.inr ⟨by decide, y1⟩)) ?_
  refine w_ld rfl rfl (Or.inr (Or.inr ⟨by decide, y1⟩)) ?_
  subst e_q2
  refine w_getf rfl g4 n6 ?_
  refine w_ld rfl rfl (Or.inr (Or.inr ⟨by decide, rfl⟩)) ?_
  refine w_getf rfl g4 n8 ?_
  exact w_cv rfl [.index q2, v5, v7] [] rfl rfl (s_wt_4 rfl) rfl g4 k

theorem k421_58 {P : s_P} {d : Nat} {Q : s_O → Prop} {h : s_H} {kc ks : Nat} {r0 : Term} {x1 x2 x3 : Int} {q2 : Nat} {f3 : List Term} {v5 v7 : Term} (g4 : s_get h q2 = some (1, 11, f3)) (k : wm P d 425 [v5, v7] h (wq P d sw_c421 sw_h421 69 [.index q2, vi x1, vi x2, vi x3] [] kc ks Q)) (e_q2 : r0 = .index q2 := by first | rfl | assumption) (y1 : s_ty r0 = 3 := by first | rfl | assumption) (n6 : s_nth f3 24 = some v5 := by first | rfl | assumption) (n8 : s_nth f3 18 = some v7 := by first | rfl | assumption)  : wr P d sw_c421 sw_h421 (58, [r0, vi x1, vi x2, vi x3], [], h, kc, ks) Q := by
  refine w_ld rfl rfl (Or.inr (Or.inr ⟨by decide, y1⟩)) ?_
  subst e_q2
  refine w_getf rfl g4 n6 ?_
  refine w_ld rfl rfl (Or.inr (Or.inr ⟨by decide, rfl⟩)) ?_
  refine w_getf rfl g4 n8 ?_
  exact w_cs rfl [v5, v7] [] rfl rfl (s_wt_4 rfl) k

theorem k421_69 {P : s_P} {d : Nat} {Q : s_O → Prop} {h : s_H} {kc ks : Nat} {r0 : Term} {x1 x2 x3 : Int} {q2 : Nat} {f3 : List Term} {v5 : Term} (g4 : s_get h q2 = some (1, 11, f3)) (k : wm P d 463 [v5] h (wq P d sw_c421 sw_h421 76 [.index q2, vi x1, vi x2, vi x3] [] kc ks Q)) (e_q2 : r0 = .index q2 := by first | rfl | assumption) (y1 : s_ty r0 = 3 := by first | rfl | assumption) (n6 : s_nth f3 12 = some v5 := by first | rfl | assumption)  : wr P d sw_c421 sw_h421 (69, [r0, vi x1, vi x2, vi x3], [], h, kc, ks) Q := by
  refine w_ld rfl rfl (Or.inr (Or.inr ⟨by decide, y1⟩)) ?_
  subst e_q2
  refine w_getf rfl g4 n6 ?_
  exact w_cs rfl [v5] [] rfl rfl (s_wt_4 rfl) k

theorem k421_76 {P : s_P} {d : Nat} {Q : s_O → Prop} {h : s_H} {kc ks : Nat} {r0 : Term} {x1 x2 x3 s0 : Int}  (k1 : 0 ≤ s0 → wr P d sw_c421 sw_h421 (115, [r0, vi x1, vi x2, vi x3], [], h, kc, ks) Q) (k2 : ¬ 0 ≤ s0 → wr P d sw_c421 sw_h421 (79, [r0, vi x1, vi x2, vi x3], [], h, kc, ks) Q)  (c1 : In3 s0 := by first | omega | assumption | (simp only [mk_len, List.length_map]; omega) | decide) : wr P d sw_c421 sw_h421 (76, [r0, vi x1, vi x2, vi x3], [vi s0], h, kc, ks) Q := by
  exact w_if1 rfl c1 k1 k2

theorem k421_79 {P : s_P} {d : Nat} {Q : s_O → Prop} {h : s_H} {kc ks : Nat} {r0 : Term} {x1 x2 x3 : Int} {q2 : Nat} {f3 : List Term} {v5 : Term} (g4 : s_get h q2 = some (1, 11, f3)) (k1 : x3 ≠ 0 → wr P d sw_c421 sw_h421 (105, [.index q2, vi x1, vi x2, vi x3], [v5], h, kc, ks) Q) (k2 : ¬ x3 ≠ 0 → wr P d sw_c421 sw_h421 (87, [.index q2, vi x1, vi x2, vi x3], [v5], h, kc, ks) Q) (e_q2 : r0 = .index q2 := by first | rfl | assumption) (y1 : s_ty r0 = 3 := by first | rfl | assumption) (n6 : s_nth f3 14 = some v5 := by first | rfl | assumption) (c7 : In3 x3 := by first | omega | assumption | (simp only [mk_len, List.length_map]; omega) | decide) : wr P d sw_c421 sw_h421 (79, [r0, vi x1, vi x2, vi x3], [], h, kc, ks) Q := by
  refine w_ld rfl rfl (Or.inr (Or.inr ⟨by decide, y1⟩)) ?_
  subst e_q2
  refine w_getf rfl g4 n6 ?_
  refine w_ld rfl rfl (Or.inl ⟨by decide, rfl⟩) ?_
  exact w_if1 rfl c7 k1 k2

theorem k421_87 {P : s_P} {d : Nat} {Q : s_O → Prop} {h : s_H} {kc ks : Nat} {r0 : Term} {x1 x2 x3 : Int} {s0 : Term} {q2 : Nat} {f3 : List Term} {v5 : Term} (g4 : s_get h q2 = some (1, 11, f3)) (k : wm P d 463 [v5] h (wq P d sw_c421 sw_h421 98 [.index q2, vi x1, vi x2, vi x3] [v5, s0] kc ks Q)) (e_q2 : r0 = .index q2 := by first | rfl | assumption) (y1 : s_ty r0 = 3 := by first | rfl | assumption) (n6 : s_nth f3 10 = some v5 := by first | rfl | assumption)  : wr P d sw_c421 sw_h421 (87, [r0, vi x1, vi x2, vi x3], [s0], h, kc, ks) Q := by
  refine w_ld rfl rfl (Or.inr (Or.inr ⟨by decide, y1⟩)) ?_
  subst e_q2
  refine w_getf rfl g4 n6 ?_
  refine w_ld rfl rfl (Or.inr (Or.inr ⟨by decide, rfl⟩)) ?_
  refine w_getf rfl g4 n6 ?_
  exact w_cs rfl [v5] [v5, s0] rfl rfl (s_wt_4 rfl) k

theorem k421_98 {P : s_P} {d : Nat} {Q : s_O → Prop} {h : s_H} {kc ks : Nat} {r0 : Term} {x1 x2 x3 : Int} {s0 s1 : Term} {s2 : Int} {q1 : Nat} {a2 : List Int} (g3 : s_get h q1 = some (0, 1, a2.map vl)) (k : wm P d 467 [vl (gi a2 s2)] h (wq P d sw_c421 sw_h421 102 [r0, vi x1, vi x2, vi x3] [s0] kc ks Q)) (e_q1 : s1 = .index q1 := by first | rfl | assumption) (c4 : s2 < a2.length := by first | omega | assumption | (simp only [mk_len, List.length_map]; omega) | decide) (c5 : 0 ≤ s2 := by first | omega | assumption | (simp only [mk_len, List.length_map]; omega) | decide) (c6 : In3 s2 := by first | omega | assumption | (simp only [mk_len, List.length_map]; omega) | decide) : wr P d sw_c421 sw_h421 (98, [r0, vi x1, vi x2, vi x3], [vi s2, s1, s0], h, kc, ks) Q := by
  subst e_q1
  refine w_lald rfl g3 c6 c5 c4 ?_
  exact w_cs rfl [vl (gi a2 s2)] [s0] rfl rfl (s_wt_4 rfl) k

theorem k421_102 {P : s_P} {d : Nat} {Q : s_O → Prop} {h : s_H} {kc ks : Nat} {r0 : Term} {x1 x2 x3 : Int} {s0 : Term} {s1 : Int}  (k : wr P d sw_c421 sw_h421 (106, [r0, vi x1, vi x2, vi x3], [vl s1, s0], h, kc, ks) Q)   : wr P d sw_c421 sw_h421 (102, [r0, vi x1, vi x2, vi x3], [vl s1, s0], h, kc, ks) Q := by
  refine w_goto rfl ?_
  exact k

theorem k421_105 {P : s_P} {d : Nat} {Q : s_O → Prop} {h : s_H} {kc ks : Nat} {r0 : Term} {x1 x2 x3 : Int} {s0 : Term}  (k : wr P d sw_c421 sw_h421 (106, [r0, vi x1, vi x2, vi x3], [vl 0, s0], h, kc, ks) Q)   : wr P d sw_c421 sw_h421 (105, [r0, vi x1, vi x2, vi x3], [s0], h, kc, ks) Q := by
  refine w_c64 rfl (by decide) 0 (by decide) ?_
  exact k

theorem k421_106 {P : s_P} {d : Nat} {Q : s_O → Prop} {h : s_H} {kc ks : Nat} {r0 : Term} {x1 x2 x3 : Int} {s0 : Term} {s1 : Int}  (k : wm P d 405 [s0, vl s1] h (wq P d sw_c421 sw_h421 109 [r0, vi x1, vi x2, vi x3] [] kc ks Q))   : wr P d sw_c421 sw_h421 (106, [r0, vi x1, vi x2, vi x3], [vl s1, s0], h, kc, ks) Q := by
  exact w_cs rfl [s0, vl s1] [] rfl rfl (s_wt_4 rfl) k

theorem k421_109 {P : s_P} {d : Nat} {Q : s_O → Prop} {h : s_H} {kc ks : Nat} {r0 : Term} {x1 x2 x3 : Int} {q2 : Nat} {f3 : List Term} (g4 : s_get h q2 = some (1, 11, f3)) (k : wm P d 495 [.index q2, vi 3] h (wq P d sw_c421 sw_h421 114 [.index q2, vi x1, vi x2, vi x3] [] kc ks Q)) (e_q2 : r0 = .index q2 := by first | rfl | assumption) (y1 : s_ty r0 = 3 := by first | rfl | assumption)  : wr P d sw_c421 sw_h421 (109, [r0, vi x1, vi x2, vi x3], [], h, kc, ks) Q := by
  refine w_ld rfl rfl (Or.inr (Or.inr ⟨by decide, y1⟩)) ?_
  refine w_c32 rfl (by decide) 3 (by decide) ?_
  subst e_q2
  exact w_cv rfl [.index q2, vi 3] [] rfl rfl (s_wt_4 rfl) rfl g4 k

theorem k421_114 {P : s_P} {d : Nat} {Q : s_O → Prop} {h : s_H} {kc ks : Nat} {r0 : Term} {x1 x2 x3 s0 : Int}  (k : Q (.inl (some (vi s0)), h, kc, ks))   : wr P d sw_c421 sw_h421 (114, [r0, vi x1, vi x2, vi x3], [vi s0], h, kc, ks) Q := by
  exact w_iret rfl k

theorem k421_115 {P : s_P} {d : Nat} {Q : s_O → Prop} {h : s_H} {kc ks : Nat} {r0 : Term} {x1 x2 x3 : Int} {q2 : Nat} {f3 : List Term} {v5 v7 : Term} (g4 : s_get h q2 = some (1, 11, f3)) (k : wm P d 425 [v5, v7] h (wq P d sw_c421 sw_h421 126 [.index q2, vi x1, vi x2, vi x3] [] kc ks Q)) (e_q2 : r0 = .index q2 := by first | rfl | assumption) (y1 : s_ty r0 = 3 := by first | rfl | assumption) (n6 : s_nth f3 22 = some v5 := by first | rfl | assumption) (n8 : s_nth f3 10 = some v7 := by first | rfl | assumption)  : wr P d sw_c421 sw_h421 (115, [r0, vi x1, vi x2, vi x3], [], h, kc, ks) Q := by
  refine w_ld rfl rfl (Or.inr (Or.inr ⟨by decide, y1⟩)) ?_
  subst e_q2
  refine w_getf rfl g4 n6 ?_
  refine w_ld rfl rfl (Or.inr (Or.inr ⟨by decide, rfl⟩)) ?_
  refine w_getf rfl g4 n8 ?_
  exact w_cs rfl [v5, v7] [] rfl rfl (s_wt_4 rfl) k

theorem k421_126 {P : s_P} {d : Nat} {Q : s_O → Prop} {h : s_H} {kc ks : Nat} {r0 : Term} {x1 x2 x3 : Int} {q2 : Nat} {f3 : List Term} {v5 v7 : Term} (g4 : s_get h q2 = some (1, 11, f3)) (k : wm P d 434 [.index q2, v5, v7] h (wq P d sw_c421 sw_h421 138 [.index q2, vi x1, vi x2, vi x3] [] kc ks Q)) (e_q2 : r0 = .index q2 := by first | rfl | assumption) (y1 : s_ty r0 = 3 := by first | rfl | assumption) (n6 : s_nth f3 22 = some v5 := by first | rfl | assumption) (n8 : s_nth f3 24 = some v7 := by first | rfl | assumption)  : wr P d sw_c421 sw_h421 (126, [r0, vi x1, vi x2, vi x3], [], h, kc, ks) Q := by
  refine w_ld rfl rfl (Or.inr (Or.inr ⟨by decide, y1⟩)) ?_
  refine w_ld rfl rfl (Or.inr (Or.inr ⟨by decide, y1⟩)) ?_
  subst e_q2
  refine w_getf rfl g4 n6 ?_
  refine w_ld rfl rfl (Or.inr (Or.inr ⟨by decide, rfl⟩)) ?_
  refine w_getf rfl g4 n8 ?_
  exact w_cv rfl [.index q2, v5, v7] [] rfl rfl (s_wt_4 rfl) rfl g4 k

theorem k421_138 {P : s_P} {d : Nat} {Q : s_O → Prop} {h : s_H} {kc ks : Nat} {r0 : Term} {x1 x2 x3 : Int} {q2 : Nat} {f3 : List Term} {v5 v7 : Term} (g4 : s_get h q2 = some (1, 11, f3)) (k : wm P d 425 [v5, v7] h (wq P d sw_c421 sw_h421 149 [.index q2, vi x1, vi x2, vi x3] [] kc ks Q)) (e_q2 : r0 = .index q2 := by first | rfl | assumption) (y1 : s_ty r0 = 3 := by first | rfl | assumption) (n6 : s_nth f3 23 = some v5 := by first | rfl | assumption) (n8 : s_nth f3 12 = some v7 := by first | rfl | assumption)  : wr P d sw_c421 sw_h421 (138, [r0, vi x1, vi x2, vi x3], [], h, kc, ks) Q := by
  refine w_ld rfl rfl (Or.inr (Or.inr ⟨by decide, y1⟩)) ?_
  subst e_q2
  refine w_getf rfl g4 n6 ?_
  refine w_ld rfl rfl (Or.inr (Or.inr ⟨by decide, rfl⟩)) ?_
  refine w_getf rfl g4 n8 ?_
  exact w_cs rfl [v5, v7] [] rfl rfl (s_wt_4 rfl) k

theorem k421_149 {P : s_P} {d : Nat} {Q : s_O → Prop} {h : s_H} {kc ks : Nat} {r0 : Term} {x1 x2 x3 : Int} {q2 : Nat} {f3 : List Term} {v5 v7 : Term} (g4 : s_get h q2 = some (1, 11, f3)) (k : wm P d 434 [.index q2, v5, v7] h (wq P d sw_c421 sw_h421 161 [.index q2, vi x1, vi x2, vi x3] [] kc ks Q)) (e_q2 : r0 = .index q2 := by first | rfl | assumption) (y1 : s_ty r0 = 3 := by first | rfl | assumption) (n6 : s_nth f3 23 = some v5 := by first | rfl | assumption) (n8 : s_nth f3 24 = some v7 := by first | rfl | assumption)  : wr P d sw_c421 sw_h421 (149, [r0, vi x1, vi x2, vi x3], [], h, kc, ks) Q := by
  refine w_ld rfl rfl (Or.inr (Or.inr ⟨by decide, y1⟩)) ?_
  refine w_ld rfl rfl (Or.inr (Or.inr ⟨by decide, y1⟩)) ?_
  subst e_q2
  refine w_getf rfl g4 n6 ?_
  refine w_ld rfl rfl (Or.inr (Or.inr ⟨by decide, rfl⟩)) ?_
  refine w_getf rfl g4 n8 ?_
  exact w_cv rfl [.index q2, v5, v7] [] rfl rfl (s_wt_4 rfl) rfl g4 k

theorem k421_161 {P : s_P} {d : Nat} {Q : s_O → Prop} {h : s_H} {kc ks : Nat} {r0 : Term} {x1 x2 x3 : Int} {q2 : Nat} {f3 : List Term} {v5 : Term} (g4 : s_get h q2 = some (1, 11, f3)) (k : wm P d 438 [v5] h (wq P d sw_c421 sw_h421 168 [.index q2, vi x1, vi x2, vi x3] [] kc ks Q)) (e_q2 : r0 = .index q2 := by first | rfl | assumption) (y1 : s_ty r0 = 3 := by first | rfl | assumption) (n6 : s_nth f3 20 = some v5 := by first | rfl | assumption)  : wr P d sw_c421 sw_h421 (161, [r0, vi x1, vi x2, vi x3], [], h, kc, ks) Q := by
  refine w_ld rfl rfl (Or.inr (Or.inr ⟨by decide, y1⟩)) ?_
  subst e_q2
  refine w_getf rfl g4 n6 ?_
  exact w_cs rfl [v5] [] rfl rfl (s_wt_4 rfl) k

theorem k421_168 {P : s_P} {d : Nat} {Q : s_O → Prop} {h : s_H} {kc ks : Nat} {r0 : Term} {x1 x2 x3 : Int} {q2 : Nat} {f3 : List Term} {v5 : Term} (g4 : s_get h q2 = some (1, 11, f3)) (k : wm P d 463 [v5] h (wq P d sw_c421 sw_h421 175 [.index q2, vi x1, vi x2, vi x3] [] kc ks Q)) (e_q2 : r0 = .index q2 := by first | rfl | assumption) (y1 : s_ty r0 = 3 := by first | rfl | assumption) (n6 : s_nth f3 23 = some v5 := by first | rfl | assumption)  : wr P d sw_c421 sw_h421 (168, [r0, vi x1, vi x2, vi x3], [], h, kc, ks) Q := by
  refine w_ld rfl rfl (Or.inr (Or.inr ⟨by decide, y1⟩)) ?_
  subst e_q2
  refine w_getf rfl g4 n6 ?_
  exact w_cs rfl [v5] [] rfl rfl (s_wt_4 rfl) k

theorem k421_175 {P : s_P} {d : Nat} {Q : s_O → Prop} {h : s_H} {kc ks : Nat} {r0 : Term} {x1 x2 x3 s0 : Int}  (k1 : s0 ≤ 0 → wr P d sw_c421 sw_h421 (190, [r0, vi x1, vi x2, vi x3], [], h, kc, ks) Q) (k2 : ¬ s0 ≤ 0 → wr P d sw_c421 sw_h421 (178, [r0, vi x1, vi x2, vi x3], [], h, kc, ks) Q)  (c1 : In3 s0 := by first | omega | assumption | (simp only [mk_len, List.length_map]; omega) | decide) : wr P d sw_c421 sw_h421 (175, [r0, vi x1, vi x2, vi x3], [vi s0], h, kc, ks) Q := by
  exact w_if1 rfl c1 k1 k2

theorem k421_178 {P : s_P} {d : Nat} {Q : s_O → Prop} {h : s_H} {kc ks : Nat} {r0 : Term} {x1 x2 x3 : Int} {q2 : Nat} {f3 : List Term} {v5 v7 : Term} (g4 : s_get h q2 = some (1, 11, f3)) (k : wm P d 468 [.index q2, v5, v7] h (wq P d sw_c421 sw_h421 190 [.index q2, vi x1, vi x2, vi x3] [] kc ks Q)) (e_q2 : r0 = .index q2 := by first | rfl | assumption) (y1 : s_ty r0 = 3 := by first | rfl | assumption) (n6 : s_nth f3 22 = some v5 := by first | rfl | assumption) (n8 : s_nth f3 23 = some v7 := by first | rfl | assumption)  : wr P d sw_c421 sw_h421 (178, [r0, vi x1, vi x2, vi x3], [], h, kc, ks) Q := by
  refine w_ld rfl rfl (Or.inr (Or.inr ⟨by decide, y1⟩)) ?_
  refine w_ld rfl rfl (Or.inr (Or.inr ⟨by decide, y1⟩)) ?_
  subst e_q2
  refine w_getf rfl g4 n6 ?_
  refine w_ld rfl rfl (Or.inr (Or.inr ⟨by decide, rfl⟩)) ?_
  refine w_getf rfl g4 n8 ?_
  exact w_cv rfl [.index q2, v5, v7] [] rfl rfl (s_wt_4 rfl) rfl g4 k

theorem k421_190 {P : s_P} {d : Nat} {Q : s_O → Prop} {h : s_H} {kc ks : Nat} {r0 : Term} {x1 x2 x3 : Int} {q2 : Nat} {f3 : List Term} {v5 v7 : Term} (g4 : s_get h q2 = some (1, 11, f3)) (k : wm P d 425 [v5, v7] h (wq P d sw_c421 sw_h421 201 [.index q2, vi x1, vi x2, vi x3] [] kc ks Q)) (e_q2 : r0 = .index q2 := by first | rfl | assumption) (y1 : s_ty r0 = 3 := by first | rfl | assumption) (n6 : s_nth f3 14 = some v5 := by first | rfl | assumption) (n8 : s_nth f3 20 = some v7 := by first | rfl | assumption)  : wr P d sw_c421 sw_h421 (190, [r0, vi x1, vi x2, vi x3], [], h, kc, ks) Q := by
  refine w_ld rfl rfl (Or.inr (Or.inr ⟨by decide, y1⟩)) ?_
  subst e_q2
  refine w_getf rfl g4 n6 ?_
  refine w_ld rfl rfl (Or.inr (Or.inr ⟨by decide, rfl⟩)) ?_
  refine w_getf rfl g4 n8 ?_
  exact w_cs rfl [v5, v7] [] rfl rfl (s_wt_4 rfl) k

theorem k421_201 {P : s_P} {d : Nat} {Q : s_O → Prop} {h : s_H} {kc ks : Nat} {r0 : Term} {x1 x2 x3 : Int}  (k1 : x3 ≠ 0 → wr P d sw_c421 sw_h421 (211, [r0, vi x1, vi x2, vi x3], [], h, kc, ks) Q) (k2 : ¬ x3 ≠ 0 → wr P d sw_c421 sw_h421 (205, [r0, vi x1, vi x2, vi x3], [], h, kc, ks) Q)  (c1 : In3 x3 := by first | omega | assumption | (simp only [mk_len, List.length_map]; omega) | decide) : wr P d sw_c421 sw_h421 (201, [r0, vi x1, vi x2, vi x3], [], h, kc, ks) Q := by
  refine w_ld rfl rfl (Or.inl ⟨by decide, rfl⟩) ?_
  exact w_if1 rfl c1 k1 k2

theorem k421_205 {P : s_P} {d : Nat} {Q : s_O → Prop} {h : s_H} {kc ks : Nat} {r0 : Term} {x1 x2 x3 : Int} {q2 : Nat} {f3 : List Term} (g4 : s_get h q2 = some (1, 11, f3)) (k : wm P d 495 [.index q2, vi 3] h (wq P d sw_c421 sw_h421 210 [.index q2, vi x1, vi x2, vi x3] [] kc ks Q)) (e_q2 : r0 = .index q2 := by first | rfl | assumption) (y1 : s_ty r0 = 3 := by first | rfl | assumption)  : wr P d sw_c421 sw_h421 (205, [r0, vi x1, vi x2, vi x3], [], h, kc, ks) Q := by
  refine w_ld rfl rfl (Or.inr (Or.inr ⟨by decide, y1⟩)) ?_
  refine w_c32 rfl (by decide) 3 (by decide) ?_
  subst e_q2
  exact w_cv rfl [.index q2, vi 3] [] rfl rfl (s_wt_4 rfl) rfl g4 k

theorem k421_210 {P : s_P} {d : Nat} {Q : s_O → Prop} {h : s_H} {kc ks : Nat} {r0 : Term} {x1 x2 x3 s0 : Int}  (k : Q (.inl (some (vi s0)), h, kc, ks))   : wr P d sw_c421 sw_h421 (210, [r0, vi x1, vi x2, vi x3], [vi s0], h, kc, ks) Q := by
  exact w_iret rfl k

theorem k421_211 {P : s_P} {d : Nat} {Q : s_O → Prop} {h : s_H} {kc ks : Nat} {r0 : Term} {x1 x2 x3 : Int} {q2 : Nat} {f3 : List Term} {v5 v7 : Term} (g4 : s_get h q2 = some (1, 11, f3)) (k : wm P d 531 [.index q2, v5, v7] h (wq P d sw_c421 sw_h421 223 [.index q2, vi x1, vi x2, vi x3] [] kc ks Q)) (e_q2 : r0 = .index q2 := by first | rfl | assumption) (y1 : s_ty r0 = 3 := by first | rfl | assumption) (n6 : s_nth f3 20 = some v5 := by first | rfl | assumption) (n8 : s_nth f3 10 = some v7 := by first | rfl | assumption)  : wr P d sw_c421 sw_h421 (211, [r0, vi x1, vi x2, vi x3], [], h, kc, ks) Q := by
  refine w_ld rfl rfl (Or.inr (Or.inr ⟨by decide, y1⟩)) ?_
  refine w_ld rfl rfl (Or.inr (Or.inr ⟨by decide, y1⟩)) ?_
  subst e_q2
  refine w_getf rfl g4 n6 ?_
  refine w_ld rfl rfl (Or.inr (Or.inr ⟨by decide, rfl⟩)) ?_
  refine w_getf rfl g4 n8 ?_
  exact w_cv rfl [.index q2, v5, v7] [] rfl rfl (s_wt_4 rfl) rfl g4 k

theorem k421_223 {P : s_P} {d : Nat} {Q : s_O → Prop} {h : s_H} {kc ks : Nat} {r0 : Term} {x1 x2 x3 : Int} {q2 : Nat} {f3 : List Term} {v5 v7 : Term} (g4 : s_get h q2 = some (1, 11, f3)) (k : wm P d 425 [v5, v7] h (wq P d sw_c421 sw_h421 234 [.index q2, vi x1, vi x2, vi x3] [] kc ks Q)) (e_q2 : r0 = .index q2 := by first | rfl | assumption) (y1 : s_ty r0 = 3 := by first | rfl | assumption) (n6 : s_nth f3 14 = some v5 := by first | rfl | assumption) (n8 : s_nth f3 24 = some v7 := by first | rfl | assumption)  : wr P d sw_c421 sw_h421 (223, [r0, vi x1, vi x2, vi x3], [], h, kc, ks) Q := by
  refine w_ld rfl rfl (Or.inr (Or.inr ⟨by decide, y1⟩)) ?_
  subst e_q2
  refine w_getf rfl g4 n6 ?_
  refine w_ld rfl rfl (Or.inr (Or.inr ⟨by decide, rfl⟩)) ?_
  refine w_getf rfl g4 n8 ?_
  exact w_cs rfl [v5, v7] [] rfl rfl (s_wt_4 rfl) k

theorem k421_234 {P : s_P} {d : Nat} {Q : s_O → Prop} {h : s_H} {kc ks : Nat} {r0 : Term} {x1 x2 x3 : Int} {q2 : Nat} {f3 : List Term} {v5 v7 : Term} (g4 : s_get h q2 = some (1, 11, f3)) (k : wm P d 529 [v5, v7, vl (-1)] h (wq P d sw_c421 sw_h421 248 [.index q2, vi x1, vi x2, vi x3] [] kc ks Q)) (e_q2 : r0 = .index q2 := by first | rfl | assumption) (y1 : s_ty r0 = 3 := by first | rfl | assumption) (n6 : s_nth f3 14 = some v5 := by first | rfl | assumption) (n8 : s_nth f3 16 = some v7 := by first | rfl | assumption)  : wr P d sw_c421 sw_h421 (234, [r0, vi x1, vi x2, vi x3], [], h, kc, ks) Q := by
  refine w_ld rfl rfl (Or.inr (Or.inr ⟨by decide, y1⟩)) ?_
  subst e_q2
  refine w_getf rfl g4 n6 ?_
  refine w_ld rfl rfl (Or.inr (Or.inr ⟨by decide, rfl⟩)) ?_
  refine w_getf rfl g4 n8 ?_
  refine w_c64 rfl (by decide) (-1) (by decide) ?_
  exact w_cs rfl [v5, v7, vl (-1)] [] rfl rfl (s_wt_4 rfl) k

theorem k421_248 {P : s_P} {d : Nat} {Q : s_O → Prop} {h : s_H} {kc ks : Nat} {r0 : Term} {x1 x2 x3 : Int} {q2 : Nat} {f3 : List Term} {v5 v7 : Term} (g4 : s_get h q2 = some (1, 11, f3)) (k : wm P d 434 [.index q2, v5, v7] h (wq P d sw_c421 sw_h421 260 [.index q2, vi x1, vi x2, vi x3] [] kc ks Q)) (e_q2 : r0 = .index q2 := by first | rfl | assumption) (y1 : s_ty r0 = 3 := by first | rfl | assumption) (n6 : s_nth f3 14 = some v5 := by first | rfl | assumption) (n8 : s_nth f3 12 = some v7 := by first | rfl | assumption)  : wr P d sw_c421 sw_h421 (248, [r0, vi x1, vi x2, vi x3], [], h, kc, ks) Q := by
  refine w_ld rfl rfl (Or.inr (Or.inr ⟨by decide, y1⟩)) ?_
  refine w_ld rfl rfl (Or.inr (Or.inr ⟨by decide, y1⟩)) ?_
  subst e_q2
  refine w_getf rfl g4 n6 ?_
  refine w_ld rfl rfl (Or.inr (Or.inr ⟨by decide, rfl⟩)) ?_
  refine w_getf rfl g4 n8 ?_
  exact w_cv rfl [.index q2, v5, v7] [] rfl rfl (s_wt_4 rfl) rfl g4 k

theorem k421_260 {P : s_P} {d : Nat} {Q : s_O → Prop} {h : s_H} {kc ks : Nat} {r0 : Term} {x1 x2 x3 : Int} {q2 : Nat} {f3 : List Term} (g4 : s_get h q2 = some (1, 11, f3)) (k : wm P d 495 [.index q2, vi 3] h (wq P d sw_c421 sw_h421 265 [.index q2, vi x1, vi x2, vi x3] [] kc ks Q)) (e_q2 : r0 = .index q2 := by first | rfl | assumption) (y1 : s_ty r0 = 3 := by first | rfl | assumption)  : wr P d sw_c421 sw_h421 (260, [r0, vi x1, vi x2, vi x3], [], h, kc, ks) Q := by
  refine w_ld rfl rfl (Or.inr (Or.inr ⟨by decide, y1⟩)) ?_
  refine w_c32 rfl (by decide) 3 (by decide) ?_
  subst e_q2
  exact w_cv rfl [.index q2, vi 3] [] rfl rfl (s_wt_4 rfl) rfl g4 k

theorem k421_265 {P : s_P} {d : Nat} {Q : s_O → Prop} {h : s_H} {kc ks : Nat} {r0 : Term} {x1 x2 x3 s0 : Int}  (k : Q (.inl (some (vi s0)), h, kc, ks))   : wr P d sw_c421 sw_h421 (265, [r0, vi x1, vi x2, vi x3], [vi s0], h, kc, ks) Q := by
  exact w_iret rfl k

/-! 422: FormulaWorksModel.common(II)I -/
theorem k422_0 {P : s_P} {d : Nat} {Q : s_O → Prop} {h : s_H} {kc ks : Nat} {r0 : Term} {x1 x2 : Int} {q2 : Nat} {f3 : List Term} (g4 : s_get h q2 = some (1, 11, f3)) (k : wm P d 402 [.index q2, vi x1, vi x2] h (wq P d sw_c422 sw_h422 6 [.index q2, vi x1, vi x2] [] kc ks Q)) (e_q2 : r0 = .index q2 := by first | rfl | assumption) (y1 : s_ty r0 = 3 := by first | rfl | assumption)  : wr P d sw_c422 sw_h422 (0, [r0, vi x1, vi x2], [], h, kc, ks) Q := by
  refine w_ld rfl rfl (Or.inr (Or.inr ⟨by decide, y1⟩)) ?_
  refine w_ld rfl rfl (Or.inl ⟨by decide, rfl⟩) ?_
  refine w_ld rfl rfl (Or.inl ⟨by decide, rfl⟩) ?_
  subst e_q2
  exact w_cv rfl [.index q2, vi x1, vi x2] [] rfl rfl (s_wt_4 rfl) rfl g4 k

theorem k422_6 {P : s_P} {d : Nat} {Q : s_O → Prop} {h : s_H} {kc ks : Nat} {r0 : Term} {x1 x2 s0 : Int}  (k1 : s0 ≠ 0 → wr P d sw_c422 sw_h422 (11, [r0, vi x1, vi x2], [], h, kc, ks) Q) (k2 : ¬ s0 ≠ 0 → wr P d sw_c422 sw_h422 (9, [r0, vi x1, vi x2], [], h, kc, ks) Q)  (c1 : In3 s0 := by first | omega | assumption | (simp only [mk_len, List.length_map]; omega) | decide) : wr P d sw_c422 sw_h422 (6, [r0, vi x1, vi x2], [vi s0], h, kc, ks) Q := by
  exact w_if1 rfl c1 k1 k2

theorem k422_9 {P : s_P} {d : Nat} {Q : s_O → Prop} {h : s_H} {kc ks : Nat} {r0 : Term} {x1 x2 : Int}  (k : Q (.inl (some (vi 0)), h, kc, ks))   : wr P d sw_c422 sw_h422 (9, [r0, vi x1, vi x2], [], h, kc, ks) Q := by
  refine w_c32 rfl (by decide) 0 (by decide) ?_
  exact w_iret rfl k

theorem k422_11 {P : s_P} {d : Nat} {Q : s_O → Prop} {h : s_H} {kc ks : Nat} {r0 : Term} {x1 x2 : Int} {q2 : Nat} {f3 : List Term} {v5 : Term} (g4 : s_get h q2 = some (1, 11, f3)) (k : wm P d 463 [v5] h (wq P d sw_c422 sw_h422 18 [.index q2, vi x1, vi x2] [] kc ks Q)) (e_q2 : r0 = .index q2 := by first | rfl | assumption) (y1 : s_ty r0 = 3 := by first | rfl | assumption) (n6 : s_nth f3 10 = some v5 := by first | rfl | assumption)  : wr P d sw_c422 sw_h422 (11, [r0, vi x1, vi x2], [], h, kc, ks) Q := by
  refine w_ld rfl rfl (Or.inr (Or.inr ⟨by decide, y1⟩)) ?_
  subst e_q2
  refine w_getf rfl g4 n6 ?_
  exact w_cs rfl [v5] [] rfl rfl (s_wt_4 rfl) k

theorem k422_18 {P : s_P} {d : Nat} {Q : s_O → Prop} {h : s_H} {kc ks : Nat} {r0 : Term} {x1 x2 s0 : Int}  (k1 : 0 ≤ s0 → wr P d sw_c422 sw_h422 (37, [r0, vi x1, vi x2], [], h, kc, ks) Q) (k2 : ¬ 0 ≤ s0 → wr P d sw_c422 sw_h422 (21, [r0, vi x1, vi x2], [], h, kc, ks) Q)  (c1 : In3 s0 := by first | omega | assumption | (simp only [mk_len, List.length_map]; omega) | decide) : wr P d sw_c422 sw_h422 (18, [r0, vi x1, vi x2], [vi s0], h, kc, ks) Q := by
  exact w_if1 rfl c1 k1 k2

theorem k422_21 {P : s_P} {d : Nat} {Q : s_O → Prop} {h : s_H} {kc ks : Nat} {r0 : Term} {x1 x2 : Int} {q2 : Nat} {f3 : List Term} {v5 : Term} (g4 : s_get h q2 = some (1, 11, f3)) (k : wm P d 463 [v5] h (wq P d sw_c422 sw_h422 28 [.index q2, vi x1, vi x2] [] kc ks Q)) (e_q2 : r0 = .index q2 := by first | rfl | assumption) (y1 : s_ty r0 = 3 := by first | rfl | assumption) (n6 : s_nth f3 12 = some v5 := by first | rfl | assumption)  : wr P d sw_c422 sw_h422 (21, [r0, vi x1, vi x2], [], h, kc, ks) Q := by
  refine w_ld rfl rfl (Or.inr (Or.inr ⟨by decide, y1⟩)) ?_
  subst e_q2
  refine w_getf rfl g4 n6 ?_
  exact w_cs rfl [v5] [] rfl rfl (s_wt_4 rfl) k

theorem k422_28 {P : s_P} {d : Nat} {Q : s_O → Prop} {h : s_H} {kc ks : Nat} {r0 : Term} {x1 x2 s0 : Int}  (k1 : 0 ≤ s0 → wr P d sw_c422 sw_h422 (37, [r0, vi x1, vi x2], [], h, kc, ks) Q) (k2 : ¬ 0 ≤ s0 → wr P d sw_c422 sw_h422 (31, [r0, vi x1, vi x2], [], h, kc, ks) Q)  (c1 : In3 s0 := by first | omega | assumption | (simp only [mk_len, List.length_map]; omega) | decide) : wr P d sw_c422 sw_h422 (28, [r0, vi x1, vi x2], [vi s0], h, kc, ks) Q := by
  exact w_if1 rfl c1 k1 k2

theorem k422_31 {P : s_P} {d : Nat} {Q : s_O → Prop} {h : s_H} {kc ks : Nat} {r0 : Term} {x1 x2 : Int} {q2 : Nat} {f3 : List Term} (g4 : s_get h q2 = some (1, 11, f3)) (k : wm P d 570 [.index q2, vi 2] h (wq P d sw_c422 sw_h422 36 [.index q2, vi x1, vi x2] [] kc ks Q)) (e_q2 : r0 = .index q2 := by first | rfl | assumption) (y1 : s_ty r0 = 3 := by first | rfl | assumption)  : wr P d sw_c422 sw_h422 (31, [r0, vi x1, vi x2], [], h, kc, ks) Q := by
  refine w_ld rfl rfl (Or.inr (Or.inr ⟨by decide, y1⟩)) ?_
  refine w_c32 rfl (by decide) 2 (by decide) ?_
  subst e_q2
  exact w_cv rfl [.index q2, vi 2] [] rfl rfl (s_wt_4 rfl) rfl g4 k

theorem k422_36 {P : s_P} {d : Nat} {Q : s_O → Prop} {h : s_H} {kc ks : Nat} {r0 : Term} {x1 x2 s0 : Int}  (k : Q (.inl (some (vi s0)), h, kc, ks))   : wr P d sw_c422 sw_h422 (36, [r0, vi x1, vi x2], [vi s0], h, kc, ks) Q := by
  exact w_iret rfl k

theorem k422_37 {P : s_P} {d : Nat} {Q : s_O → Prop} {h : s_H} {kc ks : Nat} {r0 : Term} {x1 x2 : Int} {q2 : Nat} {f3 : List Term} {v5 v7 : Term} (g4 : s_get h q2 = some (1, 11, f3)) (k : wm P d 423 [.index q2, v5, v7] h (wq P d sw_c422 sw_h422 49 [.index q2, vi x1, vi x2] [] kc ks Q)) (e_q2 : r0 = .index q2 := by first | rfl | assumption) (y1 : s_ty r0 = 3 := by first | rfl | assumption) (n6 : s_nth f3 10 = some v5 := by first | rfl | assumption) (n8 : s_nth f3 12 = some v7 := by first | rfl | assumption)  : wr P d sw_c422 sw_h422 (37, [r0, vi x1, vi x2], [], h, kc, ks) Q := by
  refine w_ld rfl rfl (Or.inr (Or.inr ⟨by decide, y1⟩)) ?_
  refine w_ld rfl rfl (Or.inr (Or.inr ⟨by decide, y1⟩)) ?_
  subst e_q2
  refine w_getf rfl g4 n6 ?_
  refine w_ld rfl rfl (Or.inr (Or.inr ⟨by decide, rfl⟩)) ?_
  refine w_getf rfl g4 n8 ?_
  exact w_cv rfl [.index q2, v5, v7] [] rfl rfl (s_wt_4 rfl) rfl g4 k

theorem k422_49 {P : s_P} {d : Nat} {Q : s_O → Prop} {h : s_H} {kc ks : Nat} {r0 : Term} {x1 x2 : Int} {q2 : Nat} {f3 : List Term} {v5 v7 : Term} (g4 : s_get h q2 = some (1, 11, f3)) (k : wm P d 425 [v5, v7] h (wq P d sw_c422 sw_h422 60 [.index q2, vi x1, vi x2] [] kc ks Q)) (e_q2 : r0 = .index q2 := by first | rfl | assumption) (y1 : s_ty r0 = 3 := by first | rfl | assumption) (n6 : s_nth f3 14 = some v5 := by first | rfl | assumption) (n8 : s_nth f3 18 = some v7 := by first | rfl | assumption)  : wr P d sw_c422 sw_h422 (49, [r0, vi x1, vi x2], [], h, kc, ks) Q := by
  refine w_ld rfl rfl (Or.inr (Or.inr ⟨by decide, y1⟩)) ?_
  subst e_q2
  refine w_getf rfl g4 n6 ?_
  refine w_ld rfl rfl (Or.inr (Or.inr ⟨by decide, rfl⟩)) ?_
  refine w_getf rfl g4 n8 ?_
  exact w_cs rfl [v5, v7] [] rfl rfl (s_wt_4 rfl) k

theorem k422_60 {P : s_P} {d : Nat} {Q : s_O → Prop} {h : s_H} {kc ks : Nat} {r0 : Term} {x1 x2 : Int} {q2 : Nat} {f3 : List Term} {v5 : Term} (g4 : s_get h q2 = some (1, 11, f3)) (k : wm P d 405 [v5, vl 1] h (wq P d sw_c422 sw_h422 68 [.index q2, vi x1, vi x2] [] kc ks Q)) (e_q2 : r0 = .index q2 := by first | rfl | assumption) (y1 : s_ty r0 = 3 := by first | rfl | assumption) (n6 : s_nth f3 15 = some v5 := by first | rfl | assumption)  : wr P d sw_c422 sw_h422 (60, [r0, vi x1, vi x2], [], h, kc, ks) Q := by
  refine w_ld rfl rfl (Or.inr (Or.inr ⟨by decide, y1⟩)) ?_
  subst e_q2
  refine w_getf rfl g4 n6 ?_
  refine w_c64 rfl (by decide) 1 (by decide) ?_
  exact w_cs rfl [v5, vl 1] [] rfl rfl (s_wt_4 rfl) k

theorem k422_68 {P : s_P} {d : Nat} {Q : s_O → Prop} {h : s_H} {kc ks : Nat} {r0 : Term} {x1 x2 : Int} {q2 : Nat} {f3 : List Term} (g4 : s_get h q2 = some (1, 11, f3)) (k : wm P d 495 [.index q2, vi 3] h (wq P d sw_c422 sw_h422 73 [.index q2, vi x1, vi x2] [] kc ks Q)) (e_q2 : r0 = .index q2 := by first | rfl | assumption) (y1 : s_ty r0 = 3 := by first | rfl | assumption)  : wr P d sw_c422 sw_h422 (68, [r0, vi x1, vi x2], [], h, kc, ks) Q := by
  refine w_ld rfl rfl (Or.inr (Or.inr ⟨by decide, y1⟩)) ?_
  refine w_c32 rfl (by decide) 3 (by decide) ?_
  subst e_q2
  exact w_cv rfl [.index q2, vi 3] [] rfl rfl (s_wt_4 rfl) rfl g4 k

theorem k422_73 {P : s_P} {d : Nat} {Q : s_O → Prop} {h : s_H} {kc ks : Nat} {r0 : Term} {x1 x2 s0 : Int}  (k : Q (.inl (some (vi s0)), h, kc, ks))   : wr P d sw_c422 sw_h422 (73, [r0, vi x1, vi x2], [vi s0], h, kc, ks) Q := by
  exact w_iret rfl k

/-! 423: FormulaWorksModel.commonOf([J[J)V -/
theorem k423_0 {P : s_P} {d : Nat} {Q : s_O → Prop} {h : s_H} {kc ks : Nat} {r0 r1 r2 : Term} {q2 : Nat} {f3 : List Term} {v5 : Term} (g4 : s_get h q2 = some (1, 11, f3)) (k : wm P d 425 [v5, r1] h (wq P d sw_c423 sw_h423 8 [.index q2, r1, r2] [] kc ks Q)) (e_q2 : r0 = .index q2 := by first | rfl | assumption) (y1 : s_ty r0 = 3 := by first | rfl | assumption) (n6 : s_nth f3 18 = some v5 := by first | rfl | assumption) (y7 : s_ty r1 = 3 := by first | rfl | assumption)  : wr P d sw_c423 sw_h423 (0, [r0, r1, r2], [], h, kc, ks) Q := by
  refine w_ld rfl rfl (Or.inr (Or.inr ⟨by decide, y1⟩)) ?_
  subst e_q2
  refine w_getf rfl g4 n6 ?_
  refine w_ld rfl rfl (Or.inr (Or.inr ⟨by decide, y7⟩)) ?_
  exact w_cs rfl [v5, r1] [] rfl rfl (s_wt_4 rfl) k

theorem k423_8 {P : s_P} {d : Nat} {Q : s_O → Prop} {h : s_H} {kc ks : Nat} {r0 r1 r2 : Term} {q2 : Nat} {f3 : List Term} {v5 : Term} (g4 : s_get h q2 = some (1, 11, f3)) (k : wm P d 425 [v5, r2] h (wq P d sw_c423 sw_h423 16 [.index q2, r1, r2] [] kc ks Q)) (e_q2 : r0 = .index q2 := by first | rfl | assumption) (y1 : s_ty r0 = 3 := by first | rfl | assumption) (n6 : s_nth f3 19 = some v5 := by first | rfl | assumption) (y7 : s_ty r2 = 3 := by first | rfl | assumption)  : wr P d sw_c423 sw_h423 (8, [r0, r1, r2], [], h, kc, ks) Q := by
  refine w_ld rfl rfl (Or.inr (Or.inr ⟨by decide, y1⟩)) ?_
  subst e_q2
  refine w_getf rfl g4 n6 ?_
  refine w_ld rfl rfl (Or.inr (Or.inr ⟨by decide, y7⟩)) ?_
  exact w_cs rfl [v5, r2] [] rfl rfl (s_wt_4 rfl) k

theorem k423_16 {P : s_P} {d : Nat} {Q : s_O → Prop} {h : s_H} {kc ks : Nat} {r0 r1 r2 : Term} {q2 : Nat} {f3 : List Term} (g4 : s_get h q2 = some (1, 11, f3)) (k : wm P d 448 [.index q2] h (wq P d sw_c423 sw_h423 20 [.index q2, r1, r2] [] kc ks Q)) (e_q2 : r0 = .index q2 := by first | rfl | assumption) (y1 : s_ty r0 = 3 := by first | rfl | assumption)  : wr P d sw_c423 sw_h423 (16, [r0, r1, r2], [], h, kc, ks) Q := by
  refine w_ld rfl rfl (Or.inr (Or.inr ⟨by decide, y1⟩)) ?_
  subst e_q2
  exact w_cv rfl [.index q2] [] rfl rfl (s_wt_4 rfl) rfl g4 k

theorem k423_20 {P : s_P} {d : Nat} {Q : s_O → Prop} {h : s_H} {kc ks : Nat} {r0 r1 r2 : Term}  (k : Q (.inl none, h, kc, ks))   : wr P d sw_c423 sw_h423 (20, [r0, r1, r2], [], h, kc, ks) Q := by
  exact w_ret rfl k

/-! 424: FormulaWorksModel.companion(I)I -/
theorem k424_0 {P : s_P} {d : Nat} {Q : s_O → Prop} {h : s_H} {kc ks : Nat} {r0 : Term} {x1 : Int} {t2 t3 t4 : Term} {q2 : Nat} {f3 : List Term} (g4 : s_get h q2 = some (1, 11, f3)) (k : wm P d 481 [.index q2, vi x1, vi 0] h (wq P d sw_c424 sw_h424 6 [.index q2, vi x1, t2, t3, t4] [] kc ks Q)) (e_q2 : r0 = .index q2 := by first | rfl | assumption) (y1 : s_ty r0 = 3 := by first | rfl | assumption)  : wr P d sw_c424 sw_h424 (0, [r0, vi x1, t2, t3, t4], [], h, kc, ks) Q := by
  refine w_ld rfl rfl (Or.inr (Or.inr ⟨by decide, y1⟩)) ?_
  refine w_ld rfl rfl (Or.inl ⟨by decide, rfl⟩) ?_
  refine w_c32 rfl (by decide) 0 (by decide) ?_
  subst e_q2
  exact w_cv rfl [.index q2, vi x1, vi 0] [] rfl rfl (s_wt_4 rfl) rfl g4 k

theorem k424_6 {P : s_P} {d : Nat} {Q : s_O → Prop} {h : s_H} {kc ks : Nat} {r0 : Term} {x1 : Int} {t2 t3 t4 : Term} {s0 : Int}  (k1 : s0 ≠ 0 → wr P d sw_c424 sw_h424 (11, [r0, vi x1, t2, t3, t4], [], h, kc, ks) Q) (k2 : ¬ s0 ≠ 0 → wr P d sw_c424 sw_h424 (9, [r0, vi x1, t2, t3, t4], [], h, kc, ks) Q)  (c1 : In3 s0 := by first | omega | assumption | (simp only [mk_len, List.length_map]; omega) | decide) : wr P d sw_c424 sw_h424 (6, [r0, vi x1, t2, t3, t4], [vi s0], h, kc, ks) Q := by
  exact w_if1 rfl c1 k1 k2

theorem k424_9 {P : s_P} {d : Nat} {Q : s_O → Prop} {h : s_H} {kc ks : Nat} {r0 : Term} {x1 : Int} {t2 t3 t4 : Term}  (k : Q (.inl (some (vi 0)), h, kc, ks))   : wr P d sw_c424 sw_h424 (9, [r0, vi x1, t2, t3, t4], [], h, kc, ks) Q := by
  refine w_c32 rfl (by decide) 0 (by decide) ?_
  exact w_iret rfl k

theorem k424_11 {P : s_P} {d : Nat} {Q : s_O → Prop} {h : s_H} {kc ks : Nat} {r0 : Term} {x1 : Int} {t2 t3 t4 : Term} {q2 : Nat} {f3 : List Term} {v5 : Term} (g4 : s_get h q2 = some (1, 11, f3)) (k : wm P d 463 [v5] h (wq P d sw_c424 sw_h424 18 [.index q2, vi x1, t2, t3, t4] [] kc ks Q)) (e_q2 : r0 = .index q2 := by first | rfl | assumption) (y1 : s_ty r0 = 3 := by first | rfl | assumption) (n6 : s_nth f3 10 = some v5 := by first | rfl | assumption)  : wr P d sw_c424 sw_h424 (11, [r0, vi x1, t2, t3, t4], [], h, kc, ks) Q := by
  refine w_ld rfl rfl (Or.inr (Or.inr ⟨by decide, y1⟩)) ?_
  subst e_q2
  refine w_getf rfl g4 n6 ?_
  exact w_cs rfl [v5] [] rfl rfl (s_wt_4 rfl) k

theorem k424_18 {P : s_P} {d : Nat} {Q : s_O → Prop} {h : s_H} {kc ks : Nat} {r0 : Term} {x1 : Int} {t2 t3 t4 : Term} {s0 : Int} {q2 : Nat} {f3 : List Term} {v5 : Term} (g4 : s_get h q2 = some (1, 11, f3)) (k : wm P d 483 [v5] h (wq P d sw_c424 sw_h424 26 [.index q2, vi x1, vi s0, t3, t4] [] kc ks Q)) (e_q2 : r0 = .index q2 := by first | rfl | assumption) (y1 : s_ty r0 = 3 := by first | rfl | assumption) (n6 : s_nth f3 11 = some v5 := by first | rfl | assumption)  : wr P d sw_c424 sw_h424 (18, [r0, vi x1, t2, t3, t4], [vi s0], h, kc, ks) Q := by
  refine w_st (ls' := [r0, vi x1, vi s0, t3, t4]) rfl (Or.inl ⟨by decide, rfl⟩) rfl ?_
  refine w_ld rfl rfl (Or.inr (Or.inr ⟨by decide, y1⟩)) ?_
  subst e_q2
  refine w_getf rfl g4 n6 ?_
  exact w_cs rfl [v5] [] rfl rfl (s_wt_4 rfl) k

theorem k424_26 {P : s_P} {d : Nat} {Q : s_O → Prop} {h : s_H} {kc ks : Nat} {r0 : Term} {x1 x2 : Int} {t3 t4 : Term} {s0 : Int}  (k1 : s0 = 0 → wr P d sw_c424 sw_h424 (52, [r0, vi x1, vi x2, t3, t4], [], h, kc, ks) Q) (k2 : ¬ s0 = 0 → wr P d sw_c424 sw_h424 (29, [r0, vi x1, vi x2, t3, t4], [], h, kc, ks) Q)  (c1 : In3 s0 := by first | omega | assumption | (simp only [mk_len, List.length_map]; omega) | decide) : wr P d sw_c424 sw_h424 (26, [r0, vi x1, vi x2, t3, t4], [vi s0], h, kc, ks) Q := by
  exact w_if1 rfl c1 k1 k2

theorem k424_29 {P : s_P} {d : Nat} {Q : s_O → Prop} {h : s_H} {kc ks : Nat} {r0 : Term} {x1 x2 : Int} {t3 t4 : Term}  (k : wm P d 464 [vl x2, vl 1, vl 4] h (wq P d sw_c424 sw_h424 38 [r0, vi x1, vi x2, t3, t4] [] kc ks Q))  (c1 : In3 x2 := by first | omega | assumption | (simp only [mk_len, List.length_map]; omega) | decide) : wr P d sw_c424 sw_h424 (29, [r0, vi x1, vi x2, t3, t4], [], h, kc, ks) Q := by
  refine w_ld rfl rfl (Or.inl ⟨by decide, rfl⟩) ?_
  refine w_i2l rfl c1 ?_
  refine w_c64 rfl (by decide) 1 (by decide) ?_
  refine w_c64 rfl (by decide) 4 (by decide) ?_
  exact w_cs rfl [vl x2, vl 1, vl 4] [] rfl rfl (s_wt_4 rfl) k

theorem k424_38 {P : s_P} {d : Nat} {Q : s_O → Prop} {h : s_H} {kc ks : Nat} {r0 : Term} {x1 x2 : Int} {t3 t4 : Term} {s0 : Int}  (k1 : s0 = 0 → wr P d sw_c424 sw_h424 (52, [r0, vi x1, vi x2, t3, t4], [], h, kc, ks) Q) (k2 : ¬ s0 = 0 → wr P d sw_c424 sw_h424 (41, [r0, vi x1, vi x2, t3, t4], [], h, kc, ks) Q)  (c1 : In3 s0 := by first | omega | assumption | (simp only [mk_len, List.length_map]; omega) | decide) : wr P d sw_c424 sw_h424 (38, [r0, vi x1, vi x2, t3, t4], [vi s0], h, kc, ks) Q := by
  exact w_if1 rfl c1 k1 k2

theorem k424_41 {P : s_P} {d : Nat} {Q : s_O → Prop} {h : s_H} {kc ks : Nat} {r0 : Term} {x1 x2 : Int} {t3 t4 : Term} {q2 : Nat} {f3 : List Term} {v5 : Term} {q7 : Nat} {a8 : List Int} (g4 : s_get h q2 = some (1, 11, f3)) (g9 : s_get h q7 = some (0, 1, a8.map vl)) (k1 : gi a8 x2 = 1 → wr P d sw_c424 sw_h424 (58, [.index q2, vi x1, vi x2, t3, t4], [], h, kc, ks) Q) (k2 : ¬ gi a8 x2 = 1 → wr P d sw_c424 sw_h424 (52, [.index q2, vi x1, vi x2, t3, t4], [], h, kc, ks) Q) (e_q2 : r0 = .index q2 := by first | rfl | assumption) (e_q7 : v5 = .index q7 := by first | rfl | assumption) (y1 : s_ty r0 = 3 := by first | rfl | assumption) (n6 : s_nth f3 10 = some v5 := by first | rfl | assumption) (c10 : x2 < a8.length := by first | omega | assumption | (simp only [mk_len, List.length_map]; omega) | decide) (c11 : 0 ≤ x2 := by first | omega | assumption | (simp only [mk_len, List.length_map]; omega) | decide) (c12 : In3 x2 := by first | omega | assumption | (simp only [mk_len, List.length_map]; omega) | decide) (c13 : In6 (gi a8 x2) := by first | omega | assumption | (simp only [mk_len, List.length_map]; omega) | decide) : wr P d sw_c424 sw_h424 (41, [r0, vi x1, vi x2, t3, t4], [], h, kc, ks) Q := by
  refine w_ld rfl rfl (Or.inr (Or.inr ⟨by decide, y1⟩)) ?_
  subst e_q2
  refine w_getf rfl g4 n6 ?_
  refine w_ld rfl rfl (Or.inl ⟨by decide, rfl⟩) ?_
  subst e_q7
  refine w_lald rfl g9 c12 c11 c10 ?_
  refine w_c64 rfl (by decide) 1 (by decide) ?_
  exact w_lcmp rfl rfl c13 (by decide) k1 k2

theorem k424_52 {P : s_P} {d : Nat} {Q : s_O → Prop} {h : s_H} {kc ks : Nat} {r0 : Term} {x1 x2 : Int} {t3 t4 : Term} {q2 : Nat} {f3 : List Term} (g4 : s_get h q2 = some (1, 11, f3)) (k : wm P d 570 [.index q2, vi 2] h (wq P d sw_c424 sw_h424 57 [.index q2, vi x1, vi x2, t3, t4] [] kc ks Q)) (e_q2 : r0 = .index q2 := by first | rfl | assumption) (y1 : s_ty r0 = 3 := by first | rfl | assumption)  : wr P d sw_c424 sw_h424 (52, [r0, vi x1, vi x2, t3, t4], [], h, kc, ks) Q := by
  refine w_ld rfl rfl (Or.inr (Or.inr ⟨by decide, y1⟩)) ?_
  refine w_c32 rfl (by decide) 2 (by decide) ?_
  subst e_q2
  exact w_cv rfl [.index q2, vi 2] [] rfl rfl (s_wt_4 rfl) rfl g4 k

theorem k424_57 {P : s_P} {d : Nat} {Q : s_O → Prop} {h : s_H} {kc ks : Nat} {r0 : Term} {x1 x2 : Int} {t3 t4 : Term} {s0 : Int}  (k : Q (.inl (some (vi s0)), h, kc, ks))   : wr P d sw_c424 sw_h424 (57, [r0, vi x1, vi x2, t3, t4], [vi s0], h, kc, ks) Q := by
  exact w_iret rfl k

theorem k424_58 {P : s_P} {d : Nat} {Q : s_O → Prop} {h : s_H} {kc ks : Nat} {r0 : Term} {x1 x2 : Int} {t3 t4 : Term} {q2 : Nat} {f3 : List Term} {z5 : Int} (g4 : s_get h q2 = some (1, 11, f3)) (k1 : z5 ≠ 150 → wr P d sw_c424 sw_h424 (74, [.index q2, vi x1, vi x2, t3, t4], [], h, kc, ks) Q) (k2 : ¬ z5 ≠ 150 → wr P d sw_c424 sw_h424 (68, [.index q2, vi x1, vi x2, t3, t4], [], h, kc, ks) Q) (e_q2 : r0 = .index q2 := by first | rfl | assumption) (y1 : s_ty r0 = 3 := by first | rfl | assumption) (n6 : s_nth f3 1 = some (vi z5) := by first | rfl | assumption) (c7 : In3 z5 := by first | omega | assumption | (simp only [mk_len, List.length_map]; omega) | decide) : wr P d sw_c424 sw_h424 (58, [r0, vi x1, vi x2, t3, t4], [], h, kc, ks) Q := by
  refine w_ld rfl rfl (Or.inr (Or.inr ⟨by decide, y1⟩)) ?_
  subst e_q2
  refine w_getf rfl g4 n6 ?_
  refine w_c32 rfl (by decide) 150 (by decide) ?_
  exact w_if2 rfl c7 (by decide) k1 k2

theorem k424_68 {P : s_P} {d : Nat} {Q : s_O → Prop} {h : s_H} {kc ks : Nat} {r0 : Term} {x1 x2 : Int} {t3 t4 : Term} {q2 : Nat} {f3 : List Term} (g4 : s_get h q2 = some (1, 11, f3)) (k : wm P d 570 [.index q2, vi 3] h (wq P d sw_c424 sw_h424 73 [.index q2, vi x1, vi x2, t3, t4] [] kc ks Q)) (e_q2 : r0 = .index q2 := by first | rfl | assumption) (y1 : s_ty r0 = 3 := by first | rfl | assumption)  : wr P d sw_c424 sw_h424 (68, [r0, vi x1, vi x2, t3, t4], [], h, kc, ks) Q := by
  refine w_ld rfl rfl (Or.inr (Or.inr ⟨by decide, y1⟩)) ?_
  refine w_c32 rfl (by decide) 3 (by decide) ?_
  subst e_q2
  exact w_cv rfl [.index q2, vi 3] [] rfl rfl (s_wt_4 rfl) rfl g4 k

theorem k424_73 {P : s_P} {d : Nat} {Q : s_O → Prop} {h : s_H} {kc ks : Nat} {r0 : Term} {x1 x2 : Int} {t3 t4 : Term} {s0 : Int}  (k : Q (.inl (some (vi s0)), h, kc, ks))   : wr P d sw_c424 sw_h424 (73, [r0, vi x1, vi x2, t3, t4], [vi s0], h, kc, ks) Q := by
  exact w_iret rfl k

theorem k424_74 {P : s_P} {d : Nat} {Q : s_O → Prop} {h : s_H} {kc ks : Nat} {r0 : Term} {x1 x2 : Int} {t3 t4 : Term}  (k : wr P d sw_c424 sw_h424 (76, [r0, vi x1, vi x2, vi 0, t4], [], h, kc, ks) Q)   : wr P d sw_c424 sw_h424 (74, [r0, vi x1, vi x2, t3, t4], [], h, kc, ks) Q := by
  refine w_c32 rfl (by decide) 0 (by decide) ?_
  refine w_st (ls' := [r0, vi x1, vi x2, vi 0, t4]) rfl (Or.inl ⟨by decide, rfl⟩) rfl ?_
  exact k

theorem k424_76 {P : s_P} {d : Nat} {Q : s_O → Prop} {h : s_H} {kc ks : Nat} {r0 : Term} {x1 x2 x3 : Int} {t4 : Term}  (k1 : x2 ≤ x3 → wr P d sw_c424 sw_h424 (151, [r0, vi x1, vi x2, vi x3, t4], [], h, kc, ks) Q) (k2 : ¬ x2 ≤ x3 → wr P d sw_c424 sw_h424 (81, [r0, vi x1, vi x2, vi x3, t4], [], h, kc, ks) Q)  (c1 : In3 x3 := by first | omega | assumption | (simp only [mk_len, List.length_map]; omega) | decide) (c2 : In3 x2 := by first | omega | assumption | (simp only [mk_len, List.length_map]; omega) | decide) : wr P d sw_c424 sw_h424 (76, [r0, vi x1, vi x2, vi x3, t4], [], h, kc, ks) Q := by
  refine w_ld rfl rfl (Or.inl ⟨by decide, rfl⟩) ?_
  refine w_ld rfl rfl (Or.inl ⟨by decide, rfl⟩) ?_
  exact w_if2 rfl c1 c2 k1 k2

theorem k424_81 {P : s_P} {d : Nat} {Q : s_O → Prop} {h : s_H} {kc ks : Nat} {r0 : Term} {x1 x2 x3 : Int} {t4 : Term}  (k : wr P d sw_c424 sw_h424 (84, [r0, vi x1, vi x2, vi x3, vi 0], [], h, kc, ks) Q)   : wr P d sw_c424 sw_h424 (81, [r0, vi x1, vi x2, vi x3, t4], [], h, kc, ks) Q := by
  refine w_c32 rfl (by decide) 0 (by decide) ?_
  refine w_st (ls' := [r0, vi x1, vi x2, vi x3, vi 0]) rfl (Or.inl ⟨by decide, rfl⟩) rfl ?_
  exact k

theorem k424_84 {P : s_P} {d : Nat} {Q : s_O → Prop} {h : s_H} {kc ks : Nat} {r0 : Term} {x1 x2 x3 x4 : Int}  (k1 : x2 ≤ x4 → wr P d sw_c424 sw_h424 (145, [r0, vi x1, vi x2, vi x3, vi x4], [], h, kc, ks) Q) (k2 : ¬ x2 ≤ x4 → wr P d sw_c424 sw_h424 (90, [r0, vi x1, vi x2, vi x3, vi x4], [], h, kc, ks) Q)  (c1 : In3 x4 := by first | omega | assumption | (simp only [mk_len, List.length_map]; omega) | decide) (c2 : In3 x2 := by first | omega | assumption | (simp only [mk_len, List.length_map]; omega) | decide) : wr P d sw_c424 sw_h424 (84, [r0, vi x1, vi x2, vi x3, vi x4], [], h, kc, ks) Q := by
  refine w_ld rfl rfl (Or.inl ⟨by decide, rfl⟩) ?_
  refine w_ld rfl rfl (Or.inl ⟨by decide, rfl⟩) ?_
  exact w_if2 rfl c1 c2 k1 k2

theorem k424_90 {P : s_P} {d : Nat} {Q : s_O → Prop} {h : s_H} {kc ks : Nat} {r0 : Term} {x1 x2 x3 x4 : Int} {q2 : Nat} {f3 : List Term} {v5 : Term} (g4 : s_get h q2 = some (1, 11, f3)) (k1 : x4 ≠ x2 - 1 → wr P d sw_c424 sw_h424 (112, [.index q2, vi x1, vi x2, vi x3, vi x4], [v5], h, kc, ks) Q) (k2 : ¬ x4 ≠ x2 - 1 → wr P d sw_c424 sw_h424 (102, [.index q2, vi x1, vi x2, vi x3, vi x4], [v5], h, kc, ks) Q) (e_q2 : r0 = .index q2 := by first | rfl | assumption) (y1 : s_ty r0 = 3 := by first | rfl | assumption) (n6 : s_nth f3 20 = some v5 := by first | rfl | assumption) (c7 : In3 x4 := by first | omega | assumption | (simp only [mk_len, List.length_map]; omega) | decide) (c8 : In3 (x2 - 1) := by first | omega | assumption | (simp only [mk_len, List.length_map]; omega) | decide) : wr P d sw_c424 sw_h424 (90, [r0, vi x1, vi x2, vi x3, vi x4], [], h, kc, ks) Q := by
  refine w_ld rfl rfl (Or.inr (Or.inr ⟨by decide, y1⟩)) ?_
  subst e_q2
  refine w_getf rfl g4 n6 ?_
  refine w_ld rfl rfl (Or.inl ⟨by decide, rfl⟩) ?_
  refine w_ld rfl rfl (Or.inl ⟨by decide, rfl⟩) ?_
  refine w_c32 rfl (by decide) 1 (by decide) ?_
  refine w_isub rfl ?_
  exact w_if2 rfl c7 c8 k1 k2

theorem k424_102 {P : s_P} {d : Nat} {Q : s_O → Prop} {h : s_H} {kc ks : Nat} {r0 : Term} {x1 x2 x3 x4 : Int} {s0 : Term} {q2 : Nat} {f3 : List Term} {v5 : Term} {q7 : Nat} {a8 : List Int} (g4 : s_get h q2 = some (1, 11, f3)) (g9 : s_get h q7 = some (0, 1, a8.map vl)) (k : wr P d sw_c424 sw_h424 (125, [.index q2, vi x1, vi x2, vi x3, vi x4], [vl (-(gi a8 x3)), s0], h, kc, ks) Q) (e_q2 : r0 = .index q2 := by first | rfl | assumption) (e_q7 : v5 = .index q7 := by first | rfl | assumption) (y1 : s_ty r0 = 3 := by first | rfl | assumption) (n6 : s_nth f3 10 = some v5 := by first | rfl | assumption) (c10 : x3 < a8.length := by first | omega | assumption | (simp only [mk_len, List.length_map]; omega) | decide) (c11 : 0 ≤ x3 := by first | omega | assumption | (simp only [mk_len, List.length_map]; omega) | decide) (c12 : In3 x3 := by first | omega | assumption | (simp only [mk_len, List.length_map]; omega) | decide) : wr P d sw_c424 sw_h424 (102, [r0, vi x1, vi x2, vi x3, vi x4], [s0], h, kc, ks) Q := by
  refine w_ld rfl rfl (Or.inr (Or.inr ⟨by decide, y1⟩)) ?_
  subst e_q2
  refine w_getf rfl g4 n6 ?_
  refine w_ld rfl rfl (Or.inl ⟨by decide, rfl⟩) ?_
  subst e_q7
  refine w_lald rfl g9 c12 c11 c10 ?_
  refine w_lneg rfl ?_
  refine w_goto rfl ?_
  exact k

theorem k424_112 {P : s_P} {d : Nat} {Q : s_O → Prop} {h : s_H} {kc ks : Nat} {r0 : Term} {x1 x2 x3 x4 : Int} {s0 : Term}  (k1 : x3 ≠ x4 + 1 → wr P d sw_c424 sw_h424 (124, [r0, vi x1, vi x2, vi x3, vi x4], [s0], h, kc, ks) Q) (k2 : ¬ x3 ≠ x4 + 1 → wr P d sw_c424 sw_h424 (120, [r0, vi x1, vi x2, vi x3, vi x4], [s0], h, kc, ks) Q)  (c1 : In3 x3 := by first | omega | assumption | (simp only [mk_len, List.length_map]; omega) | decide) (c2 : In3 (x4 + 1) := by first | omega | assumption | (simp only [mk_len, List.length_map]; omega) | decide) : wr P d sw_c424 sw_h424 (112, [r0, vi x1, vi x2, vi x3, vi x4], [s0], h, kc, ks) Q := by
  refine w_ld rfl rfl (Or.inl ⟨by decide, rfl⟩) ?_
  refine w_ld rfl rfl (Or.inl ⟨by decide, rfl⟩) ?_
  refine w_c32 rfl (by decide) 1 (by decide) ?_
  refine w_iadd rfl ?_
  exact w_if2 rfl c1 c2 k1 k2

theorem k424_120 {P : s_P} {d : Nat} {Q : s_O → Prop} {h : s_H} {kc ks : Nat} {r0 : Term} {x1 x2 x3 x4 : Int} {s0 : Term}  (k : wr P d sw_c424 sw_h424 (125, [r0, vi x1, vi x2, vi x3, vi x4], [vl 1, s0], h, kc, ks) Q)   : wr P d sw_c424 sw_h424 (120, [r0, vi x1, vi x2, vi x3, vi x4], [s0], h, kc, ks) Q := by
  refine w_c64 rfl (by decide) 1 (by decide) ?_
  refine w_goto rfl ?_
  exact k

theorem k424_124 {P : s_P} {d : Nat} {Q : s_O → Prop} {h : s_H} {kc ks : Nat} {r0 : Term} {x1 x2 x3 x4 : Int} {s0 : Term}  (k : wr P d sw_c424 sw_h424 (125, [r0, vi x1, vi x2, vi x3, vi x4], [vl 0, s0], h, kc, ks) Q)   : wr P d sw_c424 sw_h424 (124, [r0, vi x1, vi x2, vi x3, vi x4], [s0], h, kc, ks) Q := by
  refine w_c64 rfl (by decide) 0 (by decide) ?_
  exact k

theorem k424_125 {P : s_P} {d : Nat} {Q : s_O → Prop} {h : s_H} {kc ks : Nat} {r0 : Term} {x1 x2 x3 x4 : Int} {s0 : Term} {s1 : Int}  (k : wm P d 405 [s0, vl s1] h (wq P d sw_c424 sw_h424 128 [r0, vi x1, vi x2, vi x3, vi x4] [] kc ks Q))   : wr P d sw_c424 sw_h424 (125, [r0, vi x1, vi x2, vi x3, vi x4], [vl s1, s0], h, kc, ks) Q := by
  exact w_cs rfl [s0, vl s1] [] rfl rfl (s_wt_4 rfl) k

theorem k424_128 {P : s_P} {d : Nat} {Q : s_O → Prop} {h : s_H} {kc ks : Nat} {r0 : Term} {x1 x2 x3 x4 : Int} {q2 : Nat} {f3 : List Term} {v5 : Term} (g4 : s_get h q2 = some (1, 11, f3)) (k : wm P d 496 [.index q2, v5, vi x3, vi x4] h (wq P d sw_c424 sw_h424 139 [.index q2, vi x1, vi x2, vi x3, vi x4] [] kc ks Q)) (e_q2 : r0 = .index q2 := by first | rfl | assumption) (y1 : s_ty r0 = 3 := by first | rfl | assumption) (n6 : s_nth f3 20 = some v5 := by first | rfl | assumption)  : wr P d sw_c424 sw_h424 (128, [r0, vi x1, vi x2, vi x3, vi x4], [], h, kc, ks) Q := by
  refine w_ld rfl rfl (Or.inr (Or.inr ⟨by decide, y1⟩)) ?_
  refine w_ld rfl rfl (Or.inr (Or.inr ⟨by decide, y1⟩)) ?_
  subst e_q2
  refine w_getf rfl g4 n6 ?_
  refine w_ld rfl rfl (Or.inl ⟨by decide, rfl⟩) ?_
  refine w_ld rfl rfl (Or.inl ⟨by decide, rfl⟩) ?_
  exact w_cv rfl [.index q2, v5, vi x3, vi x4] [] rfl rfl (s_wt_4 rfl) rfl g4 k

theorem k424_139 {P : s_P} {d : Nat} {Q : s_O → Prop} {h : s_H} {kc ks : Nat} {r0 : Term} {x1 x2 x3 x4 : Int}  (k : wr P d sw_c424 sw_h424 (84, [r0, vi x1, vi x2, vi x3, vi (x4 + 1)], [], h, kc, ks) Q)   : wr P d sw_c424 sw_h424 (139, [r0, vi x1, vi x2, vi x3, vi x4], [], h, kc, ks) Q := by
  refine w_iinc (ls' := [r0, vi x1, vi x2, vi x3, vi (x4 + 1)]) rfl rfl 1 (by decide) rfl ?_
  refine w_goto rfl ?_
  exact k

theorem k424_145 {P : s_P} {d : Nat} {Q : s_O → Prop} {h : s_H} {kc ks : Nat} {r0 : Term} {x1 x2 x3 x4 : Int}  (k : wr P d sw_c424 sw_h424 (76, [r0, vi x1, vi x2, vi (x3 + 1), vi x4], [], h, kc, ks) Q)   : wr P d sw_c424 sw_h424 (145, [r0, vi x1, vi x2, vi x3, vi x4], [], h, kc, ks) Q := by
  refine w_iinc (ls' := [r0, vi x1, vi x2, vi (x3 + 1), vi x4]) rfl rfl 1 (by decide) rfl ?_
  refine w_goto rfl ?_
  exact k

theorem k424_151 {P : s_P} {d : Nat} {Q : s_O → Prop} {h : s_H} {kc ks : Nat} {r0 : Term} {x1 x2 x3 : Int} {t4 : Term} {q2 : Nat} {f3 : List Term} (g4 : s_get h q2 = some (1, 11, f3)) (k : wm P d 498 [.index q2, vi x2, vi x2] h (wq P d sw_c424 sw_h424 157 [.index q2, vi x1, vi x2, vi x3, t4] [] kc ks Q)) (e_q2 : r0 = .index q2 := by first | rfl | assumption) (y1 : s_ty r0 = 3 := by first | rfl | assumption)  : wr P d sw_c424 sw_h424 (151, [r0, vi x1, vi x2, vi x3, t4], [], h, kc, ks) Q := by
  refine w_ld rfl rfl (Or.inr (Or.inr ⟨by decide, y1⟩)) ?_
  refine w_ld rfl rfl (Or.inl ⟨by decide, rfl⟩) ?_
  refine w_ld rfl rfl (Or.inl ⟨by decide, rfl⟩) ?_
  subst e_q2
  exact w_cv rfl [.index q2, vi x2, vi x2] [] rfl rfl (s_wt_4 rfl) rfl g4 k

theorem k424_157 {P : s_P} {d : Nat} {Q : s_O → Prop} {h : s_H} {kc ks : Nat} {r0 : Term} {x1 x2 x3 : Int} {t4 : Term} {s0 : Int}  (k : Q (.inl (some (vi s0)), h, kc, ks))   : wr P d sw_c424 sw_h424 (157, [r0, vi x1, vi x2, vi x3, t4], [vi s0], h, kc, ks) Q := by
  exact w_iret rfl k

/-! 425: FormulaWorksModel.copy([J[J)V -/
theorem k425_0 {P : s_P} {d : Nat} {Q : s_O → Prop} {h : s_H} {kc ks : Nat} {r0 r1 t2 : Term}  (k : wr P d sw_c425 sw_h425 (2, [r0, r1, vi 0], [], h, kc, ks) Q) (y1 : s_ty r1 = 3 := by first | rfl | assumption)  : wr P d sw_c425 sw_h425 (0, [r0, r1, t2], [], h, kc, ks) Q := by
  refine w_c32 rfl (by decide) 0 (by decide) ?_
  refine w_st (ls' := [r0, r1, vi 0]) rfl (Or.inl ⟨by decide, rfl⟩) (s_stK_r (pre := [r0]) y1) ?_
  exact k

theorem k425_2 {P : s_P} {d : Nat} {Q : s_O → Prop} {h : s_H} {kc ks : Nat} {r0 r1 : Term} {x2 : Int}  (k1 : 176 ≤ x2 → wr P d sw_c425 sw_h425 (21, [r0, r1, vi x2], [], h, kc, ks) Q) (k2 : ¬ 176 ≤ x2 → wr P d sw_c425 sw_h425 (9, [r0, r1, vi x2], [], h, kc, ks) Q)  (c1 : In3 x2 := by first | omega | assumption | (simp only [mk_len, List.length_map]; omega) | decide) : wr P d sw_c425 sw_h425 (2, [r0, r1, vi x2], [], h, kc, ks) Q := by
  refine w_ld rfl rfl (Or.inl ⟨by decide, rfl⟩) ?_
  refine w_c32 rfl (by decide) 176 (by decide) ?_
  exact w_if2 rfl c1 (by decide) k1 k2

theorem k425_9 {P : s_P} {d : Nat} {Q : s_O → Prop} {h : s_H} {kc ks : Nat} {r0 r1 : Term} {x2 : Int} {q3 : Nat} {a4 : List Int} {q9 : Nat} {a10 : List Int} (g5 : s_get h q3 = some (0, 1, a4.map vl)) (g11 : s_get h q9 = some (0, 1, a10.map vl)) (k : wr P d sw_c425 sw_h425 (2, [.index q9, .index q3, vi (x2 + 1)], [], (hp h q9 (0, 1, (a10.set (Int.toNat (x2)) (gi a4 x2)).map vl)), kc, ks) Q) (e_q3 : r1 = .index q3 := by first | rfl | assumption) (e_q9 : r0 = .index q9 := by first | rfl | assumption) (y1 : s_ty r0 = 3 := by first | rfl | assumption) (y2 : s_ty r1 = 3 := by first | rfl | assumption) (c6 : x2 < a4.length := by first | omega | assumption | (simp only [mk_len, List.length_map]; omega) | decide) (c7 : 0 ≤ x2 := by first | omega | assumption | (simp only [mk_len, List.length_map]; omega) | decide) (c8 : In3 x2 := by first | omega | assumption | (simp only [mk_len, List.length_map]; omega) | decide) (c12 : x2 < a10.length := by first | omega | assumption | (simp only [mk_len, List.length_map]; omega) | decide) (c13 : 0 < q9 := by first | omega | assumption | (simp only [mk_len, List.length_map]; omega) | decide) : wr P d sw_c425 sw_h425 (9, [r0, r1, vi x2], [], h, kc, ks) Q := by
  refine w_ld rfl rfl (Or.inr (Or.inr ⟨by decide, y1⟩)) ?_
  refine w_ld rfl rfl (Or.inl ⟨by decide, rfl⟩) ?_
  refine w_ld rfl rfl (Or.inr (Or.inr ⟨by decide, y2⟩)) ?_
  refine w_ld rfl rfl (Or.inl ⟨by decide, rfl⟩) ?_
  subst e_q3
  refine w_lald rfl g5 c8 c7 c6 ?_
  subst e_q9
  refine w_last rfl g11 (Nat.ble_eq_true_of_le c13) c8 c7 c12 ?_
  refine w_iinc (ls' := [.index q9, .index q3, vi (x2 + 1)]) rfl rfl 1 (by decide) rfl ?_
  refine w_goto rfl ?_
  exact k

theorem k425_21 {P : s_P} {d : Nat} {Q : s_O → Prop} {h : s_H} {kc ks : Nat} {r0 r1 : Term} {x2 : Int}  (k : Q (.inl none, h, kc, ks))   : wr P d sw_c425 sw_h425 (21, [r0, r1, vi x2], [], h, kc, ks) Q := by
  exact w_ret rfl k

/-! 426: FormulaWorksModel.core(I)I -/
theorem k426_0 {P : s_P} {d : Nat} {Q : s_O → Prop} {h : s_H} {kc ks : Nat} {r0 : Term} {x1 : Int} {q2 : Nat} {f3 : List Term} (g4 : s_get h q2 = some (1, 11, f3)) (k : wm P d 481 [.index q2, vi x1, vi 0] h (wq P d sw_c426 sw_h426 6 [.index q2, vi x1] [] kc ks Q)) (e_q2 : r0 = .index q2 := by first | rfl | assumption) (y1 : s_ty r0 = 3 := by first | rfl | assumption)  : wr P d sw_c426 sw_h426 (0, [r0, vi x1], [], h, kc, ks) Q := by
  refine w_ld rfl rfl (Or.inr (Or.inr ⟨by decide, y1⟩)) ?_
  refine w_ld rfl rfl (Or.inl ⟨by decide, rfl⟩) ?_
  refine w_c32 rfl (by decide) 0 (by decide) ?_
  subst e_q2
  exact w_cv rfl [.index q2, vi x1, vi 0] [] rfl rfl (s_wt_4 rfl) rfl g4 k

theorem k426_6 {P : s_P} {d : Nat} {Q : s_O → Prop} {h : s_H} {kc ks : Nat} {r0 : Term} {x1 s0 : Int}  (k1 : s0 ≠ 0 → wr P d sw_c426 sw_h426 (11, [r0, vi x1], [], h, kc, ks) Q) (k2 : ¬ s0 ≠ 0 → wr P d sw_c426 sw_h426 (9, [r0, vi x1], [], h, kc, ks) Q)  (c1 : In3 s0 := by first | omega | assumption | (simp only [mk_len, List.length_map]; omega) | decide) : wr P d sw_c426 sw_h426 (6, [r0, vi x1], [vi s0], h, kc, ks) Q := by
  exact w_if1 rfl c1 k1 k2

theorem k426_9 {P : s_P} {d : Nat} {Q : s_O → Prop} {h : s_H} {kc ks : Nat} {r0 : Term} {x1 : Int}  (k : Q (.inl (some (vi 0)), h, kc, ks))   : wr P d sw_c426 sw_h426 (9, [r0, vi x1], [], h, kc, ks) Q := by
  refine w_c32 rfl (by decide) 0 (by decide) ?_
  exact w_iret rfl k

theorem k426_11 {P : s_P} {d : Nat} {Q : s_O → Prop} {h : s_H} {kc ks : Nat} {r0 : Term} {x1 : Int} {q2 : Nat} {f3 : List Term} (g4 : s_get h q2 = some (1, 11, f3)) (k : wm P d 449 [.index q2] h (wq P d sw_c426 sw_h426 15 [.index q2, vi x1] [] kc ks Q)) (e_q2 : r0 = .index q2 := by first | rfl | assumption) (y1 : s_ty r0 = 3 := by first | rfl | assumption)  : wr P d sw_c426 sw_h426 (11, [r0, vi x1], [], h, kc, ks) Q := by
  refine w_ld rfl rfl (Or.inr (Or.inr ⟨by decide, y1⟩)) ?_
  subst e_q2
  exact w_cv rfl [.index q2] [] rfl rfl (s_wt_4 rfl) rfl g4 k

theorem k426_15 {P : s_P} {d : Nat} {Q : s_O → Prop} {h : s_H} {kc ks : Nat} {r0 : Term} {x1 : Int} {q2 : Nat} {f3 : List Term} (g4 : s_get h q2 = some (1, 11, f3)) (k : wm P d 520 [.index q2] h (wq P d sw_c426 sw_h426 19 [.index q2, vi x1] [] kc ks Q)) (e_q2 : r0 = .index q2 := by first | rfl | assumption) (y1 : s_ty r0 = 3 := by first | rfl | assumption)  : wr P d sw_c426 sw_h426 (15, [r0, vi x1], [], h, kc, ks) Q := by
  refine w_ld rfl rfl (Or.inr (Or.inr ⟨by decide, y1⟩)) ?_
  subst e_q2
  exact w_cv rfl [.index q2] [] rfl rfl (s_wt_4 rfl) rfl g4 k

theorem k426_19 {P : s_P} {d : Nat} {Q : s_O → Prop} {h : s_H} {kc ks : Nat} {r0 : Term} {x1 : Int} {q2 : Nat} {f3 : List Term} (g4 : s_get h q2 = some (1, 11, f3)) (k : wm P d 495 [.index q2, vi 3] h (wq P d sw_c426 sw_h426 24 [.index q2, vi x1] [] kc ks Q)) (e_q2 : r0 = .index q2 := by first | rfl | assumption) (y1 : s_ty r0 = 3 := by first | rfl | assumption)  : wr P d sw_c426 sw_h426 (19, [r0, vi x1], [], h, kc, ks) Q := by
  refine w_ld rfl rfl (Or.inr (Or.inr ⟨by decide, y1⟩)) ?_
  refine w_c32 rfl (by decide) 3 (by decide) ?_
  subst e_q2
  exact w_cv rfl [.index q2, vi 3] [] rfl rfl (s_wt_4 rfl) rfl g4 k

theorem k426_24 {P : s_P} {d : Nat} {Q : s_O → Prop} {h : s_H} {kc ks : Nat} {r0 : Term} {x1 s0 : Int}  (k : Q (.inl (some (vi s0)), h, kc, ks))   : wr P d sw_c426 sw_h426 (24, [r0, vi x1], [vi s0], h, kc, ks) Q := by
  exact w_iret rfl k

/-! 427: FormulaWorksModel.count()I -/
theorem k427_0 {P : s_P} {d : Nat} {Q : s_O → Prop} {h : s_H} {kc ks : Nat} {r0 : Term} {q2 : Nat} {f3 f7 : List Term} {z9 : Int} (g4 : s_get h q2 = some (1, 11, f3)) (g8 : s_get (hp h q2 (1, 11, f3.set 0 (vi 0))) q2 = some (1, 11, f7)) (k : Q (.inl (some (vi z9)), (hp h q2 (1, 11, f3.set 0 (vi 0))), kc, ks)) (e_q2 : r0 = .index q2 := by first | rfl | assumption) (y1 : s_ty r0 = 3 := by first | rfl | assumption) (l5 : 0 < f3.length := by first | exact Nat.le_of_ble_eq_true rfl | omega | assumption) (n10 : s_nth f7 1 = some (vi z9) := by first | rfl | assumption) (c6 : 0 < q2 := by first | omega | assumption | (simp only [mk_len, List.length_map]; omega) | decide) : wr P d sw_c427 sw_h427 (0, [r0], [], h, kc, ks) Q := by
  refine w_ld rfl rfl (Or.inr (Or.inr ⟨by decide, y1⟩)) ?_
  refine w_c32 rfl (by decide) 0 (by decide) ?_
  subst e_q2
  refine w_putf rfl g4 (Nat.ble_eq_true_of_le c6) rfl (Nat.ble_eq_true_of_le l5) ?_
  refine w_ld rfl rfl (Or.inr (Or.inr ⟨by decide, rfl⟩)) ?_
  refine w_getf rfl g8 n10 ?_
  exact w_iret rfl k

/-! 428: FormulaWorksModel.cutOff([J)V -/
theorem k428_0 {P : s_P} {d : Nat} {Q : s_O → Prop} {h : s_H} {kc ks : Nat} {r0 t1 : Term}  (k : wr P d sw_c428 sw_h428 (3, [r0, vi 25], [], h, kc, ks) Q) (y1 : s_ty r0 = 3 := by first | rfl | assumption)  : wr P d sw_c428 sw_h428 (0, [r0, t1], [], h, kc, ks) Q := by
  refine w_c32 rfl (by decide) 25 (by decide) ?_
  refine w_st (ls' := [r0, vi 25]) rfl (Or.inl ⟨by decide, rfl⟩) (s_stK_r (pre := []) y1) ?_
  exact k

theorem k428_3 {P : s_P} {d : Nat} {Q : s_O → Prop} {h : s_H} {kc ks : Nat} {r0 : Term} {x1 : Int}  (k1 : 176 ≤ x1 → wr P d sw_c428 sw_h428 (20, [r0, vi x1], [], h, kc, ks) Q) (k2 : ¬ 176 ≤ x1 → wr P d sw_c428 sw_h428 (10, [r0, vi x1], [], h, kc, ks) Q)  (c1 : In3 x1 := by first | omega | assumption | (simp only [mk_len, List.length_map]; omega) | decide) : wr P d sw_c428 sw_h428 (3, [r0, vi x1], [], h, kc, ks) Q := by
  refine w_ld rfl rfl (Or.inl ⟨by decide, rfl⟩) ?_
  refine w_c32 rfl (by decide) 176 (by decide) ?_
  exact w_if2 rfl c1 (by decide) k1 k2

theorem k428_10 {P : s_P} {d : Nat} {Q : s_O → Prop} {h : s_H} {kc ks : Nat} {r0 : Term} {x1 : Int} {q2 : Nat} {a3 : List Int} (g4 : s_get h q2 = some (0, 1, a3.map vl)) (k : wr P d sw_c428 sw_h428 (3, [.index q2, vi (x1 + 1)], [], (hp h q2 (0, 1, (a3.set (Int.toNat (x1)) 0).map vl)), kc, ks) Q) (e_q2 : r0 = .index q2 := by first | rfl | assumption) (y1 : s_ty r0 = 3 := by first | rfl | assumption) (c5 : x1 < a3.length := by first | omega | assumption | (simp only [mk_len, List.length_map]; omega) | decide) (c6 : 0 ≤ x1 := by first | omega | assumption | (simp only [mk_len, List.length_map]; omega) | decide) (c7 : In3 x1 := by first | omega | assumption | (simp only [mk_len, List.length_map]; omega) | decide) (c8 : 0 < q2 := by first | omega | assumption | (simp only [mk_len, List.length_map]; omega) | decide) : wr P d sw_c428 sw_h428 (10, [r0, vi x1], [], h, kc, ks) Q := by
  refine w_ld rfl rfl (Or.inr (Or.inr ⟨by decide, y1⟩)) ?_
  refine w_ld rfl rfl (Or.inl ⟨by decide, rfl⟩) ?_
  refine w_c64 rfl (by decide) 0 (by decide) ?_
  subst e_q2
  refine w_last rfl g4 (Nat.ble_eq_true_of_le c8) c7 c6 c5 ?_
  refine w_iinc (ls' := [.index q2, vi (x1 + 1)]) rfl rfl 1 (by decide) rfl ?_
  refine w_goto rfl ?_
  exact k

theorem k428_20 {P : s_P} {d : Nat} {Q : s_O → Prop} {h : s_H} {kc ks : Nat} {r0 : Term} {x1 : Int}  (k : Q (.inl none, h, kc, ks))   : wr P d sw_c428 sw_h428 (20, [r0, vi x1], [], h, kc, ks) Q := by
  exact w_ret rfl k

/-! 429: FormulaWorksModel.degree(II)I -/
theorem k429_0 {P : s_P} {d : Nat} {Q : s_O → Prop} {h : s_H} {kc ks : Nat} {r0 : Term} {x1 x2 : Int} {t3 : Term} {q2 : Nat} {f3 : List Term} (g4 : s_get h q2 = some (1, 11, f3)) (k : wm P d 492 [.index q2, vi x1] h (wq P d sw_c429 sw_h429 6 [.index q2, vi x1, vi x2, t3] [.index q2] kc ks Q)) (e_q2 : r0 = .index q2 := by first | rfl | assumption) (y1 : s_ty r0 = 3 := by first | rfl | assumption)  : wr P d sw_c429 sw_h429 (0, [r0, vi x1, vi x2, t3], [], h, kc, ks) Q := by
  refine w_ld rfl rfl (Or.inr (Or.inr ⟨by decide, y1⟩)) ?_
  refine w_ld rfl rfl (Or.inr (Or.inr ⟨by decide, y1⟩)) ?_
  refine w_ld rfl rfl (Or.inl ⟨by decide, rfl⟩) ?_
  subst e_q2
  exact w_cv rfl [.index q2, vi x1] [.index q2] rfl rfl (s_wt_4 rfl) rfl g4 k

theorem k429_6 {P : s_P} {d : Nat} {Q : s_O → Prop} {h : s_H} {kc ks : Nat} {r0 : Term} {x1 x2 : Int} {t3 s0 : Term} {s1 : Int}  (k1 : s1 ≠ 0 → wr P d sw_c429 sw_h429 (13, [r0, vi x1, vi x2, t3], [s0], h, kc, ks) Q) (k2 : ¬ s1 ≠ 0 → wr P d sw_c429 sw_h429 (9, [r0, vi x1, vi x2, t3], [s0], h, kc, ks) Q)  (c1 : In3 s1 := by first | omega | assumption | (simp only [mk_len, List.length_map]; omega) | decide) : wr P d sw_c429 sw_h429 (6, [r0, vi x1, vi x2, t3], [vi s1, s0], h, kc, ks) Q := by
  exact w_if1 rfl c1 k1 k2

theorem k429_9 {P : s_P} {d : Nat} {Q : s_O → Prop} {h : s_H} {kc ks : Nat} {r0 : Term} {x1 x2 : Int} {t3 s0 : Term}  (k : wr P d sw_c429 sw_h429 (37, [r0, vi x1, vi x2, t3], [vi 1, s0], h, kc, ks) Q)   : wr P d sw_c429 sw_h429 (9, [r0, vi x1, vi x2, t3], [s0], h, kc, ks) Q := by
  refine w_c32 rfl (by decide) 1 (by decide) ?_
  refine w_goto rfl ?_
  exact k

theorem k429_13 {P : s_P} {d : Nat} {Q : s_O → Prop} {h : s_H} {kc ks : Nat} {r0 : Term} {x1 x2 : Int} {t3 s0 : Term} {q2 : Nat} {f3 : List Term} (g4 : s_get h q2 = some (1, 11, f3)) (k : wm P d 469 [.index q2, vi x1, vi 3] h (wq P d sw_c429 sw_h429 19 [.index q2, vi x1, vi x2, t3] [s0] kc ks Q)) (e_q2 : r0 = .index q2 := by first | rfl | assumption) (y1 : s_ty r0 = 3 := by first | rfl | assumption)  : wr P d sw_c429 sw_h429 (13, [r0, vi x1, vi x2, t3], [s0], h, kc, ks) Q := by
  refine w_ld rfl rfl (Or.inr (Or.inr ⟨by decide, y1⟩)) ?_
  refine w_ld rfl rfl (Or.inl ⟨by decide, rfl⟩) ?_
  refine w_c32 rfl (by decide) 3 (by decide) ?_
  subst e_q2
  exact w_cv rfl [.index q2, vi x1, vi 3] [s0] rfl rfl (s_wt_4 rfl) rfl g4 k

theorem k429_19 {P : s_P} {d : Nat} {Q : s_O → Prop} {h : s_H} {kc ks : Nat} {r0 : Term} {x1 x2 : Int} {t3 s0 : Term} {s1 : Int}  (k1 : s1 ≠ 0 → wr P d sw_c429 sw_h429 (32, [r0, vi x1, vi x2, t3], [s0], h, kc, ks) Q) (k2 : ¬ s1 ≠ 0 → wr P d sw_c429 sw_h429 (22, [r0, vi x1, vi x2, t3], [s0], h, kc, ks) Q)  (c1 : In3 s1 := by first | omega | assumption | (simp only [mk_len, List.length_map]; omega) | decide) : wr P d sw_c429 sw_h429 (19, [r0, vi x1, vi x2, t3], [vi s1, s0], h, kc, ks) Q := by
  exact w_if1 rfl c1 k1 k2

theorem k429_22 {P : s_P} {d : Nat} {Q : s_O → Prop} {h : s_H} {kc ks : Nat} {r0 : Term} {x1 x2 : Int} {t3 s0 : Term}  (k : wm P d 464 [vl x2, vl 0, vl 1] h (wq P d sw_c429 sw_h429 29 [r0, vi x1, vi x2, t3] [s0] kc ks Q))  (c1 : In3 x2 := by first | omega | assumption | (simp only [mk_len, List.length_map]; omega) | decide) : wr P d sw_c429 sw_h429 (22, [r0, vi x1, vi x2, t3], [s0], h, kc, ks) Q := by
  refine w_ld rfl rfl (Or.inl ⟨by decide, rfl⟩) ?_
  refine w_i2l rfl c1 ?_
  refine w_c64 rfl (by decide) 0 (by decide) ?_
  refine w_c64 rfl (by decide) 1 (by decide) ?_
  exact w_cs rfl [vl x2, vl 0, vl 1] [s0] rfl rfl (s_wt_4 rfl) k

theorem k429_29 {P : s_P} {d : Nat} {Q : s_O → Prop} {h : s_H} {kc ks : Nat} {r0 : Term} {x1 x2 : Int} {t3 s0 : Term} {s1 : Int}  (k1 : s1 ≠ 0 → wr P d sw_c429 sw_h429 (36, [r0, vi x1, vi x2, t3], [s0], h, kc, ks) Q) (k2 : ¬ s1 ≠ 0 → wr P d sw_c429 sw_h429 (32, [r0, vi x1, vi x2, t3], [s0], h, kc, ks) Q)  (c1 : In3 s1 := by first | omega | assumption | (simp only [mk_len, List.length_map]; omega) | decide) : wr P d sw_c429 sw_h429 (29, [r0, vi x1, vi x2, t3], [vi s1, s0], h, kc, ks) Q := by
  exact w_if1 rfl c1 k1 k2

theorem k429_32 {P : s_P} {d : Nat} {Q : s_O → Prop} {h : s_H} {kc ks : Nat} {r0 : Term} {x1 x2 : Int} {t3 s0 : Term}  (k : wr P d sw_c429 sw_h429 (37, [r0, vi x1, vi x2, t3], [vi 2, s0], h, kc, ks) Q)   : wr P d sw_c429 sw_h429 (32, [r0, vi x1, vi x2, t3], [s0], h, kc, ks) Q := by
  refine w_c32 rfl (by decide) 2 (by decide) ?_
  refine w_goto rfl ?_
  exact k

theorem k429_36 {P : s_P} {d : Nat} {Q : s_O → Prop} {h : s_H} {kc ks : Nat} {r0 : Term} {x1 x2 : Int} {t3 s0 : Term}  (k : wr P d sw_c429 sw_h429 (37, [r0, vi x1, vi x2, t3], [vi 0, s0], h, kc, ks) Q)   : wr P d sw_c429 sw_h429 (36, [r0, vi x1, vi x2, t3], [s0], h, kc, ks) Q := by
  refine w_c32 rfl (by decide) 0 (by decide) ?_
  exact k

theorem k429_37 {P : s_P} {d : Nat} {Q : s_O → Prop} {h : s_H} {kc ks : Nat} {r0 : Term} {x1 x2 : Int} {t3 s0 : Term} {s1 : Int} {q1 : Nat} {f2 : List Term} {q7 : Nat} {f8 : List Term} {z10 : Int} (g3 : s_get h q1 = some (1, 11, f2)) (g9 : s_get (hp h q1 (1, 11, f2.set 0 (vi s1))) q7 = some (1, 11, f8)) (k1 : z10 ≤ 0 → wr P d sw_c429 sw_h429 (49, [.index q7, vi x1, vi x2, t3], [], (hp h q1 (1, 11, f2.set 0 (vi s1))), kc, ks) Q) (k2 : ¬ z10 ≤ 0 → wr P d sw_c429 sw_h429 (47, [.index q7, vi x1, vi x2, t3], [], (hp h q1 (1, 11, f2.set 0 (vi s1))), kc, ks) Q) (e_q1 : s0 = .index q1 := by first | rfl | assumption) (e_q7 : r0 = .index q7 := by first | rfl | assumption) (l4 : 0 < f2.length := by first | exact Nat.le_of_ble_eq_true rfl | omega | assumption) (y6 : s_ty r0 = 3 := by first | rfl | assumption) (n11 : s_nth f8 0 = some (vi z10) := by first | rfl | assumption) (c5 : 0 < q1 := by first | omega | assumption | (simp only [mk_len, List.length_map]; omega) | decide) (c12 : In3 z10 := by first | omega | assumption | (simp only [mk_len, List.length_map]; omega) | decide) : wr P d sw_c429 sw_h429 (37, [r0, vi x1, vi x2, t3], [vi s1, s0], h, kc, ks) Q := by
  subst e_q1
  refine w_putf rfl g3 (Nat.ble_eq_true_of_le c5) rfl (Nat.ble_eq_true_of_le l4) ?_
  refine w_ld rfl rfl (Or.inr (Or.inr ⟨by decide, y6⟩)) ?_
  subst e_q7
  refine w_getf rfl g9 n11 ?_
  exact w_if1 rfl c12 k1 k2

theorem k429_47 {P : s_P} {d : Nat} {Q : s_O → Prop} {h : s_H} {kc ks : Nat} {r0 : Term} {x1 x2 : Int} {t3 : Term}  (k : Q (.inl (some (vi 0)), h, kc, ks))   : wr P d sw_c429 sw_h429 (47, [r0, vi x1, vi x2, t3], [], h, kc, ks) Q := by
  refine w_c32 rfl (by decide) 0 (by decide) ?_
  exact w_iret rfl k

theorem k429_49 {P : s_P} {d : Nat} {Q : s_O → Prop} {h : s_H} {kc ks : Nat} {r0 : Term} {x1 x2 : Int} {t3 : Term} {q2 : Nat} {f3 : List Term} (g4 : s_get h q2 = some (1, 11, f3)) (k : wm P d 469 [.index q2, vi x1, vi 2] h (wq P d sw_c429 sw_h429 55 [.index q2, vi x1, vi x2, t3] [] kc ks Q)) (e_q2 : r0 = .index q2 := by first | rfl | assumption) (y1 : s_ty r0 = 3 := by first | rfl | assumption)  : wr P d sw_c429 sw_h429 (49, [r0, vi x1, vi x2, t3], [], h, kc, ks) Q := by
  refine w_ld rfl rfl (Or.inr (Or.inr ⟨by decide, y1⟩)) ?_
  refine w_ld rfl rfl (Or.inl ⟨by decide, rfl⟩) ?_
  refine w_c32 rfl (by decide) 2 (by decide) ?_
  subst e_q2
  exact w_cv rfl [.index q2, vi x1, vi 2] [] rfl rfl (s_wt_4 rfl) rfl g4 k

theorem k429_55 {P : s_P} {d : Nat} {Q : s_O → Prop} {h : s_H} {kc ks : Nat} {r0 : Term} {x1 x2 : Int} {t3 : Term} {s0 : Int}  (k1 : s0 = 0 → wr P d sw_c429 sw_h429 (78, [r0, vi x1, vi x2, t3], [], h, kc, ks) Q) (k2 : ¬ s0 = 0 → wr P d sw_c429 sw_h429 (58, [r0, vi x1, vi x2, t3], [], h, kc, ks) Q)  (c1 : In3 s0 := by first | omega | assumption | (simp only [mk_len, List.length_map]; omega) | decide) : wr P d sw_c429 sw_h429 (55, [r0, vi x1, vi x2, t3], [vi s0], h, kc, ks) Q := by
  exact w_if1 rfl c1 k1 k2

theorem k429_58 {P : s_P} {d : Nat} {Q : s_O → Prop} {h : s_H} {kc ks : Nat} {r0 : Term} {x1 x2 : Int} {t3 : Term}  (k1 : x2 ≠ 0 → wr P d sw_c429 sw_h429 (71, [r0, vi x1, vi x2, t3], [], h, kc, ks) Q) (k2 : ¬ x2 ≠ 0 → wr P d sw_c429 sw_h429 (62, [r0, vi x1, vi x2, t3], [], h, kc, ks) Q)  (c1 : In3 x2 := by first | omega | assumption | (simp only [mk_len, List.length_map]; omega) | decide) : wr P d sw_c429 sw_h429 (58, [r0, vi x1, vi x2, t3], [], h, kc, ks) Q := by
  refine w_ld rfl rfl (Or.inl ⟨by decide, rfl⟩) ?_
  exact w_if1 rfl c1 k1 k2

theorem k429_62 {P : s_P} {d : Nat} {Q : s_O → Prop} {h : s_H} {kc ks : Nat} {r0 : Term} {x1 x2 : Int} {t3 : Term} {q2 : Nat} {f3 : List Term} {v5 : Term} {q7 : Nat} {a8 : List Int} (g4 : s_get h q2 = some (1, 11, f3)) (g9 : s_get h q7 = some (0, 0, a8.map vi)) (k : wr P d sw_c429 sw_h429 (77, [.index q2, vi x1, vi x2, t3], [vi (gi a8 x1)], h, kc, ks) Q) (e_q2 : r0 = .index q2 := by first | rfl | assumption) (e_q7 : v5 = .index q7 := by first | rfl | assumption) (y1 : s_ty r0 = 3 := by first | rfl | assumption) (n6 : s_nth f3 5 = some v5 := by first | rfl | assumption) (c10 : x1 < a8.length := by first | omega | assumption | (simp only [mk_len, List.length_map]; omega) | decide) (c11 : 0 ≤ x1 := by first | omega | assumption | (simp only [mk_len, List.length_map]; omega) | decide) (c12 : In3 x1 := by first | omega | assumption | (simp only [mk_len, List.length_map]; omega) | decide) : wr P d sw_c429 sw_h429 (62, [r0, vi x1, vi x2, t3], [], h, kc, ks) Q := by
  refine w_ld rfl rfl (Or.inr (Or.inr ⟨by decide, y1⟩)) ?_
  subst e_q2
  refine w_getf rfl g4 n6 ?_
  refine w_ld rfl rfl (Or.inl ⟨by decide, rfl⟩) ?_
  subst e_q7
  refine w_iald rfl g9 (Or.inl rfl) c12 c11 c10 ?_
  refine w_goto rfl ?_
  exact k

theorem k429_71 {P : s_P} {d : Nat} {Q : s_O → Prop} {h : s_H} {kc ks : Nat} {r0 : Term} {x1 x2 : Int} {t3 : Term} {q2 : Nat} {f3 : List Term} {v5 : Term} {q7 : Nat} {a8 : List Int} (g4 : s_get h q2 = some (1, 11, f3)) (g9 : s_get h q7 = some (0, 0, a8.map vi)) (k : wr P d sw_c429 sw_h429 (77, [.index q2, vi x1, vi x2, t3], [vi (gi a8 x1)], h, kc, ks) Q) (e_q2 : r0 = .index q2 := by first | rfl | assumption) (e_q7 : v5 = .index q7 := by first | rfl | assumption) (y1 : s_ty r0 = 3 := by first | rfl | assumption) (n6 : s_nth f3 6 = some v5 := by first | rfl | assumption) (c10 : x1 < a8.length := by first | omega | assumption | (simp only [mk_len, List.length_map]; omega) | decide) (c11 : 0 ≤ x1 := by first | omega | assumption | (simp only [mk_len, List.length_map]; omega) | decide) (c12 : In3 x1 := by first | omega | assumption | (simp only [mk_len, List.length_map]; omega) | decide) : wr P d sw_c429 sw_h429 (71, [r0, vi x1, vi x2, t3], [], h, kc, ks) Q := by
  refine w_ld rfl rfl (Or.inr (Or.inr ⟨by decide, y1⟩)) ?_
  subst e_q2
  refine w_getf rfl g4 n6 ?_
  refine w_ld rfl rfl (Or.inl ⟨by decide, rfl⟩) ?_
  subst e_q7
  refine w_iald rfl g9 (Or.inl rfl) c12 c11 c10 ?_
  exact k

theorem k429_77 {P : s_P} {d : Nat} {Q : s_O → Prop} {h : s_H} {kc ks : Nat} {r0 : Term} {x1 x2 : Int} {t3 : Term} {s0 : Int}  (k : Q (.inl (some (vi s0)), h, kc, ks))   : wr P d sw_c429 sw_h429 (77, [r0, vi x1, vi x2, t3], [vi s0], h, kc, ks) Q := by
  exact w_iret rfl k

theorem k429_78 {P : s_P} {d : Nat} {Q : s_O → Prop} {h : s_H} {kc ks : Nat} {r0 : Term} {x1 x2 : Int} {t3 : Term} {q2 : Nat} {f3 : List Term} {v5 v7 : Term} (g4 : s_get h q2 = some (1, 11, f3)) (k : wm P d 505 [.index q2, v5, v7, vi x1] h (wq P d sw_c429 sw_h429 91 [.index q2, vi x1, vi x2, t3] [] kc ks Q)) (e_q2 : r0 = .index q2 := by first | rfl | assumption) (y1 : s_ty r0 = 3 := by first | rfl | assumption) (n6 : s_nth f3 10 = some v5 := by first | rfl | assumption) (n8 : s_nth f3 11 = some v7 := by first | rfl | assumption)  : wr P d sw_c429 sw_h429 (78, [r0, vi x1, vi x2, t3], [], h, kc, ks) Q := by
  refine w_ld rfl rfl (Or.inr (Or.inr ⟨by decide, y1⟩)) ?_
  refine w_ld rfl rfl (Or.inr (Or.inr ⟨by decide, y1⟩)) ?_
  subst e_q2
  refine w_getf rfl g4 n6 ?_
  refine w_ld rfl rfl (Or.inr (Or.inr ⟨by decide, rfl⟩)) ?_
  refine w_getf rfl g4 n8 ?_
  refine w_ld rfl rfl (Or.inl ⟨by decide, rfl⟩) ?_
  exact w_cv rfl [.index q2, v5, v7, vi x1] [] rfl rfl (s_wt_4 rfl) rfl g4 k

theorem k429_91 {P : s_P} {d : Nat} {Q : s_O → Prop} {h : s_H} {kc ks : Nat} {r0 : Term} {x1 x2 : Int} {t3 : Term} {q2 : Nat} {f3 : List Term} (g4 : s_get h q2 = some (1, 11, f3)) (k : wm P d 469 [.index q2, vi x1, vi 0] h (wq P d sw_c429 sw_h429 97 [.index q2, vi x1, vi x2, t3] [] kc ks Q)) (e_q2 : r0 = .index q2 := by first | rfl | assumption) (y1 : s_ty r0 = 3 := by first | rfl | assumption)  : wr P d sw_c429 sw_h429 (91, [r0, vi x1, vi x2, t3], [], h, kc, ks) Q := by
  refine w_ld rfl rfl (Or.inr (Or.inr ⟨by decide, y1⟩)) ?_
  refine w_ld rfl rfl (Or.inl ⟨by decide, rfl⟩) ?_
  refine w_c32 rfl (by decide) 0 (by decide) ?_
  subst e_q2
  exact w_cv rfl [.index q2, vi x1, vi 0] [] rfl rfl (s_wt_4 rfl) rfl g4 k

theorem k429_97 {P : s_P} {d : Nat} {Q : s_O → Prop} {h : s_H} {kc ks : Nat} {r0 : Term} {x1 x2 : Int} {t3 : Term} {s0 : Int}  (k1 : s0 = 0 → wr P d sw_c429 sw_h429 (122, [r0, vi x1, vi x2, t3], [], h, kc, ks) Q) (k2 : ¬ s0 = 0 → wr P d sw_c429 sw_h429 (100, [r0, vi x1, vi x2, t3], [], h, kc, ks) Q)  (c1 : In3 s0 := by first | omega | assumption | (simp only [mk_len, List.length_map]; omega) | decide) : wr P d sw_c429 sw_h429 (97, [r0, vi x1, vi x2, t3], [vi s0], h, kc, ks) Q := by
  exact w_if1 rfl c1 k1 k2

theorem k429_100 {P : s_P} {d : Nat} {Q : s_O → Prop} {h : s_H} {kc ks : Nat} {r0 : Term} {x1 x2 : Int} {t3 : Term}  (k1 : x2 ≠ 0 → wr P d sw_c429 sw_h429 (114, [r0, vi x1, vi x2, t3], [], h, kc, ks) Q) (k2 : ¬ x2 ≠ 0 → wr P d sw_c429 sw_h429 (104, [r0, vi x1, vi x2, t3], [], h, kc, ks) Q)  (c1 : In3 x2 := by first | omega | assumption | (simp only [mk_len, List.length_map]; omega) | decide) : wr P d sw_c429 sw_h429 (100, [r0, vi x1, vi x2, t3], [], h, kc, ks) Q := by
  refine w_ld rfl rfl (Or.inl ⟨by decide, rfl⟩) ?_
  exact w_if1 rfl c1 k1 k2

theorem k429_104 {P : s_P} {d : Nat} {Q : s_O → Prop} {h : s_H} {kc ks : Nat} {r0 : Term} {x1 x2 : Int} {t3 : Term} {q2 : Nat} {f3 : List Term} {v5 : Term} (g4 : s_get h q2 = some (1, 11, f3)) (k : wm P d 463 [v5] h (wq P d sw_c429 sw_h429 111 [.index q2, vi x1, vi x2, t3] [] kc ks Q)) (e_q2 : r0 = .index q2 := by first | rfl | assumption) (y1 : s_ty r0 = 3 := by first | rfl | assumption) (n6 : s_nth f3 10 = some v5 := by first | rfl | assumption)  : wr P d sw_c429 sw_h429 (104, [r0, vi x1, vi x2, t3], [], h, kc, ks) Q := by
  refine w_ld rfl rfl (Or.inr (Or.inr ⟨by decide, y1⟩)) ?_
  subst e_q2
  refine w_getf rfl g4 n6 ?_
  exact w_cs rfl [v5] [] rfl rfl (s_wt_4 rfl) k

theorem k429_111 {P : s_P} {d : Nat} {Q : s_O → Prop} {h : s_H} {kc ks : Nat} {r0 : Term} {x1 x2 : Int} {t3 : Term} {s0 : Int}  (k : wr P d sw_c429 sw_h429 (121, [r0, vi x1, vi x2, t3], [vi s0], h, kc, ks) Q)   : wr P d sw_c429 sw_h429 (111, [r0, vi x1, vi x2, t3], [vi s0], h, kc, ks) Q := by
  refine w_goto rfl ?_
  exact k

theorem k429_114 {P : s_P} {d : Nat} {Q : s_O → Prop} {h : s_H} {kc ks : Nat} {r0 : Term} {x1 x2 : Int} {t3 : Term} {q2 : Nat} {f3 : List Term} {v5 : Term} (g4 : s_get h q2 = some (1, 11, f3)) (k : wm P d 463 [v5] h (wq P d sw_c429 sw_h429 121 [.index q2, vi x1, vi x2, t3] [] kc ks Q)) (e_q2 : r0 = .index q2 := by first | rfl | assumption) (y1 : s_ty r0 = 3 := by first | rfl | assumption) (n6 : s_nth f3 11 = some v5 := by first | rfl | assumption)  : wr P d sw_c429 sw_h429 (114, [r0, vi x1, vi x2, t3], [], h, kc, ks) Q := by
  refine w_ld rfl rfl (Or.inr (Or.inr ⟨by decide, y1⟩)) ?_
  subst e_q2
  refine w_getf rfl g4 n6 ?_
  exact w_cs rfl [v5] [] rfl rfl (s_wt_4 rfl) k

theorem k429_121 {P : s_P} {d : Nat} {Q : s_O → Prop} {h : s_H} {kc ks : Nat} {r0 : Term} {x1 x2 : Int} {t3 : Term} {s0 : Int}  (k : Q (.inl (some (vi s0)), h, kc, ks))   : wr P d sw_c429 sw_h429 (121, [r0, vi x1, vi x2, t3], [vi s0], h, kc, ks) Q := by
  exact w_iret rfl k

theorem k429_122 {P : s_P} {d : Nat} {Q : s_O → Prop} {h : s_H} {kc ks : Nat} {r0 : Term} {x1 x2 : Int} {t3 : Term}  (k : wr P d sw_c429 sw_h429 (124, [r0, vi x1, vi x2, vi 0], [], h, kc, ks) Q)   : wr P d sw_c429 sw_h429 (122, [r0, vi x1, vi x2, t3], [], h, kc, ks) Q := by
  refine w_c32 rfl (by decide) 0 (by decide) ?_
  refine w_st (ls' := [r0, vi x1, vi x2, vi 0]) rfl (Or.inl ⟨by decide, rfl⟩) rfl ?_
  exact k

theorem k429_124 {P : s_P} {d : Nat} {Q : s_O → Prop} {h : s_H} {kc ks : Nat} {r0 : Term} {x1 x2 x3 : Int}  (k1 : 25 ≤ x3 → wr P d sw_c429 sw_h429 (147, [r0, vi x1, vi x2, vi x3], [], h, kc, ks) Q) (k2 : ¬ 25 ≤ x3 → wr P d sw_c429 sw_h429 (130, [r0, vi x1, vi x2, vi x3], [], h, kc, ks) Q)  (c1 : In3 x3 := by first | omega | assumption | (simp only [mk_len, List.length_map]; omega) | decide) : wr P d sw_c429 sw_h429 (124, [r0, vi x1, vi x2, vi x3], [], h, kc, ks) Q := by
  refine w_ld rfl rfl (Or.inl ⟨by decide, rfl⟩) ?_
  refine w_c32 rfl (by decide) 25 (by decide) ?_
  exact w_if2 rfl c1 (by decide) k1 k2

theorem k429_130 {P : s_P} {d : Nat} {Q : s_O → Prop} {h : s_H} {kc ks : Nat} {r0 : Term} {x1 x2 x3 : Int} {q2 : Nat} {f3 : List Term} {v5 : Term} {q7 : Nat} {a8 : List Int} (g4 : s_get h q2 = some (1, 11, f3)) (g9 : s_get h q7 = some (0, 1, a8.map vl)) (k1 : gi a8 x3 ≠ 0 → wr P d sw_c429 sw_h429 (147, [.index q2, vi x1, vi x2, vi x3], [], h, kc, ks) Q) (k2 : ¬ gi a8 x3 ≠ 0 → wr P d sw_c429 sw_h429 (141, [.index q2, vi x1, vi x2, vi x3], [], h, kc, ks) Q) (e_q2 : r0 = .index q2 := by first | rfl | assumption) (e_q7 : v5 = .index q7 := by first | rfl | assumption) (y1 : s_ty r0 = 3 := by first | rfl | assumption) (n6 : s_nth f3 10 = some v5 := by first | rfl | assumption) (c10 : x3 < a8.length := by first | omega | assumption | (simp only [mk_len, List.length_map]; omega) | decide) (c11 : 0 ≤ x3 := by first | omega | assumption | (simp only [mk_len, List.length_map]; omega) | decide) (c12 : In3 x3 := by first | omega | assumption | (simp only [mk_len, List.length_map]; omega) | decide) (c13 : In6 (gi a8 x3) := by first | omega | assumption | (simp only [mk_len, List.length_map]; omega) | decide) : wr P d sw_c429 sw_h429 (130, [r0, vi x1, vi x2, vi x3], [], h, kc, ks) Q := by
  refine w_ld rfl rfl (Or.inr (Or.inr ⟨by decide, y1⟩)) ?_
  subst e_q2
  refine w_getf rfl g4 n6 ?_
  refine w_ld rfl rfl (Or.inl ⟨by decide, rfl⟩) ?_
  subst e_q7
  refine w_lald rfl g9 c12 c11 c10 ?_
  refine w_c64 rfl (by decide) 0 (by decide) ?_
  exact w_lcmp rfl rfl c13 (by decide) k1 k2

theorem k429_141 {P : s_P} {d : Nat} {Q : s_O → Prop} {h : s_H} {kc ks : Nat} {r0 : Term} {x1 x2 x3 : Int}  (k : wr P d sw_c429 sw_h429 (124, [r0, vi x1, vi x2, vi (x3 + 1)], [], h, kc, ks) Q)   : wr P d sw_c429 sw_h429 (141, [r0, vi x1, vi x2, vi x3], [], h, kc, ks) Q := by
  refine w_iinc (ls' := [r0, vi x1, vi x2, vi (x3 + 1)]) rfl rfl 1 (by decide) rfl ?_
  refine w_goto rfl ?_
  exact k

theorem k429_147 {P : s_P} {d : Nat} {Q : s_O → Prop} {h : s_H} {kc ks : Nat} {r0 : Term} {x1 x2 x3 : Int}  (k1 : x2 ≠ 0 → wr P d sw_c429 sw_h429 (155, [r0, vi x1, vi x2, vi x3], [], h, kc, ks) Q) (k2 : ¬ x2 ≠ 0 → wr P d sw_c429 sw_h429 (151, [r0, vi x1, vi x2, vi x3], [], h, kc, ks) Q)  (c1 : In3 x2 := by first | omega | assumption | (simp only [mk_len, List.length_map]; omega) | decide) : wr P d sw_c429 sw_h429 (147, [r0, vi x1, vi x2, vi x3], [], h, kc, ks) Q := by
  refine w_ld rfl rfl (Or.inl ⟨by decide, rfl⟩) ?_
  exact w_if1 rfl c1 k1 k2

theorem k429_151 {P : s_P} {d : Nat} {Q : s_O → Prop} {h : s_H} {kc ks : Nat} {r0 : Term} {x1 x2 x3 : Int}  (k : wr P d sw_c429 sw_h429 (157, [r0, vi x1, vi x2, vi x3], [vi x3], h, kc, ks) Q)   : wr P d sw_c429 sw_h429 (151, [r0, vi x1, vi x2, vi x3], [], h, kc, ks) Q := by
  refine w_ld rfl rfl (Or.inl ⟨by decide, rfl⟩) ?_
  refine w_goto rfl ?_
  exact k

theorem k429_155 {P : s_P} {d : Nat} {Q : s_O → Prop} {h : s_H} {kc ks : Nat} {r0 : Term} {x1 x2 x3 : Int}  (k : wr P d sw_c429 sw_h429 (157, [r0, vi x1, vi x2, vi x3], [vi 24], h, kc, ks) Q)   : wr P d sw_c429 sw_h429 (155, [r0, vi x1, vi x2, vi x3], [], h, kc, ks) Q := by
  refine w_c32 rfl (by decide) 24 (by decide) ?_
  exact k

theorem k429_157 {P : s_P} {d : Nat} {Q : s_O → Prop} {h : s_H} {kc ks : Nat} {r0 : Term} {x1 x2 x3 s0 : Int}  (k : Q (.inl (some (vi s0)), h, kc, ks))   : wr P d sw_c429 sw_h429 (157, [r0, vi x1, vi x2, vi x3], [vi s0], h, kc, ks) Q := by
  exact w_iret rfl k

/-! 430: FormulaWorksModel.derive(I)I -/
theorem k430_0 {P : s_P} {d : Nat} {Q : s_O → Prop} {h : s_H} {kc ks : Nat} {r0 : Term} {x1 : Int} {q2 : Nat} {f3 : List Term} (g4 : s_get h q2 = some (1, 11, f3)) (k : wm P d 492 [.index q2, vi x1] h (wq P d sw_c430 sw_h430 6 [.index q2, vi x1] [.index q2] kc ks Q)) (e_q2 : r0 = .index q2 := by first | rfl | assumption) (y1 : s_ty r0 = 3 := by first | rfl | assumption)  : wr P d sw_c430 sw_h430 (0, [r0, vi x1], [], h, kc, ks) Q := by
  refine w_ld rfl rfl (Or.inr (Or.inr ⟨by decide, y1⟩)) ?_
  refine w_ld rfl rfl (Or.inr (Or.inr ⟨by decide, y1⟩)) ?_
  refine w_ld rfl rfl (Or.inl ⟨by decide, rfl⟩) ?_
  subst e_q2
  exact w_cv rfl [.index q2, vi x1] [.index q2] rfl rfl (s_wt_4 rfl) rfl g4 k

theorem k430_6 {P : s_P} {d : Nat} {Q : s_O → Prop} {h : s_H} {kc ks : Nat} {r0 : Term} {x1 : Int} {s0 : Term} {s1 : Int}  (k1 : s1 ≠ 0 → wr P d sw_c430 sw_h430 (13, [r0, vi x1], [s0], h, kc, ks) Q) (k2 : ¬ s1 ≠ 0 → wr P d sw_c430 sw_h430 (9, [r0, vi x1], [s0], h, kc, ks) Q)  (c1 : In3 s1 := by first | omega | assumption | (simp only [mk_len, List.length_map]; omega) | decide) : wr P d sw_c430 sw_h430 (6, [r0, vi x1], [vi s1, s0], h, kc, ks) Q := by
  exact w_if1 rfl c1 k1 k2

theorem k430_9 {P : s_P} {d : Nat} {Q : s_O → Prop} {h : s_H} {kc ks : Nat} {r0 : Term} {x1 : Int} {s0 : Term}  (k : wr P d sw_c430 sw_h430 (36, [r0, vi x1], [vi 1, s0], h, kc, ks) Q)   : wr P d sw_c430 sw_h430 (9, [r0, vi x1], [s0], h, kc, ks) Q := by
  refine w_c32 rfl (by decide) 1 (by decide) ?_
  refine w_goto rfl ?_
  exact k

theorem k430_13 {P : s_P} {d : Nat} {Q : s_O → Prop} {h : s_H} {kc ks : Nat} {r0 : Term} {x1 : Int} {s0 : Term} {q2 : Nat} {f3 : List Term} (g4 : s_get h q2 = some (1, 11, f3)) (k : wm P d 469 [.index q2, vi x1, vi 2] h (wq P d sw_c430 sw_h430 19 [.index q2, vi x1] [s0] kc ks Q)) (e_q2 : r0 = .index q2 := by first | rfl | assumption) (y1 : s_ty r0 = 3 := by first | rfl | assumption)  : wr P d sw_c430 sw_h430 (13, [r0, vi x1], [s0], h, kc, ks) Q := by
  refine w_ld rfl rfl (Or.inr (Or.inr ⟨by decide, y1⟩)) ?_
  refine w_ld rfl rfl (Or.inl ⟨by decide, rfl⟩) ?_
  refine w_c32 rfl (by decide) 2 (by decide) ?_
  subst e_q2
  exact w_cv rfl [.index q2, vi x1, vi 2] [s0] rfl rfl (s_wt_4 rfl) rfl g4 k

theorem k430_19 {P : s_P} {d : Nat} {Q : s_O → Prop} {h : s_H} {kc ks : Nat} {r0 : Term} {x1 : Int} {s0 : Term} {s1 : Int}  (k1 : s1 ≠ 0 → wr P d sw_c430 sw_h430 (31, [r0, vi x1], [s0], h, kc, ks) Q) (k2 : ¬ s1 ≠ 0 → wr P d sw_c430 sw_h430 (22, [r0, vi x1], [s0], h, kc, ks) Q)  (c1 : In3 s1 := by first | omega | assumption | (simp only [mk_len, List.length_map]; omega) | decide) : wr P d sw_c430 sw_h430 (19, [r0, vi x1], [vi s1, s0], h, kc, ks) Q := by
  exact w_if1 rfl c1 k1 k2

theorem k430_22 {P : s_P} {d : Nat} {Q : s_O → Prop} {h : s_H} {kc ks : Nat} {r0 : Term} {x1 : Int} {s0 : Term} {q2 : Nat} {f3 : List Term} (g4 : s_get h q2 = some (1, 11, f3)) (k : wm P d 469 [.index q2, vi x1, vi 3] h (wq P d sw_c430 sw_h430 28 [.index q2, vi x1] [s0] kc ks Q)) (e_q2 : r0 = .index q2 := by first | rfl | assumption) (y1 : s_ty r0 = 3 := by first | rfl | assumption)  : wr P d sw_c430 sw_h430 (22, [r0, vi x1], [s0], h, kc, ks) Q := by
  refine w_ld rfl rfl (Or.inr (Or.inr ⟨by decide, y1⟩)) ?_
  refine w_ld rfl rfl (Or.inl ⟨by decide, rfl⟩) ?_
  refine w_c32 rfl (by decide) 3 (by decide) ?_
  subst e_q2
  exact w_cv rfl [.index q2, vi x1, vi 3] [s0] rfl rfl (s_wt_4 rfl) rfl g4 k

theorem k430_28 {P : s_P} {d : Nat} {Q : s_O → Prop} {h : s_H} {kc ks : Nat} {r0 : Term} {x1 : Int} {s0 : Term} {s1 : Int}  (k1 : s1 = 0 → wr P d sw_c430 sw_h430 (35, [r0, vi x1], [s0], h, kc, ks) Q) (k2 : ¬ s1 = 0 → wr P d sw_c430 sw_h430 (31, [r0, vi x1], [s0], h, kc, ks) Q)  (c1 : In3 s1 := by first | omega | assumption | (simp only [mk_len, List.length_map]; omega) | decide) : wr P d sw_c430 sw_h430 (28, [r0, vi x1], [vi s1, s0], h, kc, ks) Q := by
  exact w_if1 rfl c1 k1 k2

theorem k430_31 {P : s_P} {d : Nat} {Q : s_O → Prop} {h : s_H} {kc ks : Nat} {r0 : Term} {x1 : Int} {s0 : Term}  (k : wr P d sw_c430 sw_h430 (36, [r0, vi x1], [vi 2, s0], h, kc, ks) Q)   : wr P d sw_c430 sw_h430 (31, [r0, vi x1], [s0], h, kc, ks) Q := by
  refine w_c32 rfl (by decide) 2 (by decide) ?_
  refine w_goto rfl ?_
  exact k

theorem k430_35 {P : s_P} {d : Nat} {Q : s_O → Prop} {h : s_H} {kc ks : Nat} {r0 : Term} {x1 : Int} {s0 : Term}  (k : wr P d sw_c430 sw_h430 (36, [r0, vi x1], [vi 0, s0], h, kc, ks) Q)   : wr P d sw_c430 sw_h430 (35, [r0, vi x1], [s0], h, kc, ks) Q := by
  refine w_c32 rfl (by decide) 0 (by decide) ?_
  exact k

theorem k430_36 {P : s_P} {d : Nat} {Q : s_O → Prop} {h : s_H} {kc ks : Nat} {r0 : Term} {x1 : Int} {s0 : Term} {s1 : Int} {q1 : Nat} {f2 : List Term} {q7 : Nat} {f8 : List Term} {z10 : Int} (g3 : s_get h q1 = some (1, 11, f2)) (g9 : s_get (hp h q1 (1, 11, f2.set 0 (vi s1))) q7 = some (1, 11, f8)) (k1 : z10 ≤ 0 → wr P d sw_c430 sw_h430 (48, [.index q7, vi x1], [], (hp h q1 (1, 11, f2.set 0 (vi s1))), kc, ks) Q) (k2 : ¬ z10 ≤ 0 → wr P d sw_c430 sw_h430 (46, [.index q7, vi x1], [], (hp h q1 (1, 11, f2.set 0 (vi s1))), kc, ks) Q) (e_q1 : s0 = .index q1 := by first | rfl | assumption) (e_q7 : r0 = .index q7 := by first | rfl | assumption) (l4 : 0 < f2.length := by first | exact Nat.le_of_ble_eq_true rfl | omega | assumption) (y6 : s_ty r0 = 3 := by first | rfl | assumption) (n11 : s_nth f8 0 = some (vi z10) := by first | rfl | assumption) (c5 : 0 < q1 := by first | omega | assumption | (simp only [mk_len, List.length_map]; omega) | decide) (c12 : In3 z10 := by first | omega | assumption | (simp only [mk_len, List.length_map]; omega) | decide) : wr P d sw_c430 sw_h430 (36, [r0, vi x1], [vi s1, s0], h, kc, ks) Q := by
  subst e_q1
  refine w_putf rfl g3 (Nat.ble_eq_true_of_le c5) rfl (Nat.ble_eq_true_of_le l4) ?_
  refine w_ld rfl rfl (Or.inr (Or.inr ⟨by decide, y6⟩)) ?_
  subst e_q7
  refine w_getf rfl g9 n11 ?_
  exact w_if1 rfl c12 k1 k2

theorem k430_46 {P : s_P} {d : Nat} {Q : s_O → Prop} {h : s_H} {kc ks : Nat} {r0 : Term} {x1 : Int}  (k : Q (.inl (some (vi 0)), h, kc, ks))   : wr P d sw_c430 sw_h430 (46, [r0, vi x1], [], h, kc, ks) Q := by
  refine w_c32 rfl (by decide) 0 (by decide) ?_
  exact w_iret rfl k

theorem k430_48 {P : s_P} {d : Nat} {Q : s_O → Prop} {h : s_H} {kc ks : Nat} {r0 : Term} {x1 : Int} {q2 : Nat} {f3 : List Term} {v5 v7 : Term} (g4 : s_get h q2 = some (1, 11, f3)) (k : wm P d 505 [.index q2, v5, v7, vi x1] h (wq P d sw_c430 sw_h430 61 [.index q2, vi x1] [] kc ks Q)) (e_q2 : r0 = .index q2 := by first | rfl | assumption) (y1 : s_ty r0 = 3 := by first | rfl | assumption) (n6 : s_nth f3 10 = some v5 := by first | rfl | assumption) (n8 : s_nth f3 11 = some v7 := by first | rfl | assumption)  : wr P d sw_c430 sw_h430 (48, [r0, vi x1], [], h, kc, ks) Q := by
  refine w_ld rfl rfl (Or.inr (Or.inr ⟨by decide, y1⟩)) ?_
  refine w_ld rfl rfl (Or.inr (Or.inr ⟨by decide, y1⟩)) ?_
  subst e_q2
  refine w_getf rfl g4 n6 ?_
  refine w_ld rfl rfl (Or.inr (Or.inr ⟨by decide, rfl⟩)) ?_
  refine w_getf rfl g4 n8 ?_
  refine w_ld rfl rfl (Or.inl ⟨by decide, rfl⟩) ?_
  exact w_cv rfl [.index q2, v5, v7, vi x1] [] rfl rfl (s_wt_4 rfl) rfl g4 k

theorem k430_61 {P : s_P} {d : Nat} {Q : s_O → Prop} {h : s_H} {kc ks : Nat} {r0 : Term} {x1 : Int} {q2 : Nat} {f3 : List Term} (g4 : s_get h q2 = some (1, 11, f3)) (k : wm P d 469 [.index q2, vi x1, vi 1] h (wq P d sw_c430 sw_h430 67 [.index q2, vi x1] [] kc ks Q)) (e_q2 : r0 = .index q2 := by first | rfl | assumption) (y1 : s_ty r0 = 3 := by first | rfl | assumption)  : wr P d sw_c430 sw_h430 (61, [r0, vi x1], [], h, kc, ks) Q := by
  refine w_ld rfl rfl (Or.inr (Or.inr ⟨by decide, y1⟩)) ?_
  refine w_ld rfl rfl (Or.inl ⟨by decide, rfl⟩) ?_
  refine w_c32 rfl (by decide) 1 (by decide) ?_
  subst e_q2
  exact w_cv rfl [.index q2, vi x1, vi 1] [] rfl rfl (s_wt_4 rfl) rfl g4 k

theorem k430_67 {P : s_P} {d : Nat} {Q : s_O → Prop} {h : s_H} {kc ks : Nat} {r0 : Term} {x1 s0 : Int}  (k1 : s0 = 0 → wr P d sw_c430 sw_h430 (87, [r0, vi x1], [], h, kc, ks) Q) (k2 : ¬ s0 = 0 → wr P d sw_c430 sw_h430 (70, [r0, vi x1], [], h, kc, ks) Q)  (c1 : In3 s0 := by first | omega | assumption | (simp only [mk_len, List.length_map]; omega) | decide) : wr P d sw_c430 sw_h430 (67, [r0, vi x1], [vi s0], h, kc, ks) Q := by
  exact w_if1 rfl c1 k1 k2

theorem k430_70 {P : s_P} {d : Nat} {Q : s_O → Prop} {h : s_H} {kc ks : Nat} {r0 : Term} {x1 : Int} {q2 : Nat} {f3 : List Term} {v5 v7 : Term} (g4 : s_get h q2 = some (1, 11, f3)) (k : wm P d 596 [v5, v7] h (wq P d sw_c430 sw_h430 81 [.index q2, vi x1] [] kc ks Q)) (e_q2 : r0 = .index q2 := by first | rfl | assumption) (y1 : s_ty r0 = 3 := by first | rfl | assumption) (n6 : s_nth f3 14 = some v5 := by first | rfl | assumption) (n8 : s_nth f3 10 = some v7 := by first | rfl | assumption)  : wr P d sw_c430 sw_h430 (70, [r0, vi x1], [], h, kc, ks) Q := by
  refine w_ld rfl rfl (Or.inr (Or.inr ⟨by decide, y1⟩)) ?_
  subst e_q2
  refine w_getf rfl g4 n6 ?_
  refine w_ld rfl rfl (Or.inr (Or.inr ⟨by decide, rfl⟩)) ?_
  refine w_getf rfl g4 n8 ?_
  exact w_cs rfl [v5, v7] [] rfl rfl (s_wt_4 rfl) k

theorem k430_81 {P : s_P} {d : Nat} {Q : s_O → Prop} {h : s_H} {kc ks : Nat} {r0 : Term} {x1 : Int} {q2 : Nat} {f3 : List Term} (g4 : s_get h q2 = some (1, 11, f3)) (k : wm P d 499 [.index q2, vi 3] h (wq P d sw_c430 sw_h430 86 [.index q2, vi x1] [] kc ks Q)) (e_q2 : r0 = .index q2 := by first | rfl | assumption) (y1 : s_ty r0 = 3 := by first | rfl | assumption)  : wr P d sw_c430 sw_h430 (81, [r0, vi x1], [], h, kc, ks) Q := by
  refine w_ld rfl rfl (Or.inr (Or.inr ⟨by decide, y1⟩)) ?_
  refine w_c32 rfl (by decide) 3 (by decide) ?_
  subst e_q2
  exact w_cv rfl [.index q2, vi 3] [] rfl rfl (s_wt_4 rfl) rfl g4 k

theorem k430_86 {P : s_P} {d : Nat} {Q : s_O → Prop} {h : s_H} {kc ks : Nat} {r0 : Term} {x1 s0 : Int}  (k : Q (.inl (some (vi s0)), h, kc, ks))   : wr P d sw_c430 sw_h430 (86, [r0, vi x1], [vi s0], h, kc, ks) Q := by
  exact w_iret rfl k

theorem k430_87 {P : s_P} {d : Nat} {Q : s_O → Prop} {h : s_H} {kc ks : Nat} {r0 : Term} {x1 : Int} {q2 : Nat} {f3 : List Term} {v5 v7 : Term} (g4 : s_get h q2 = some (1, 11, f3)) (k : wm P d 596 [v5, v7] h (wq P d sw_c430 sw_h430 98 [.index q2, vi x1] [] kc ks Q)) (e_q2 : r0 = .index q2 := by first | rfl | assumption) (y1 : s_ty r0 = 3 := by first | rfl | assumption) (n6 : s_nth f3 20 = some v5 := by first | rfl | assumption) (n8 : s_nth f3 10 = some v7 := by first | rfl | assumption)  : wr P d sw_c430 sw_h430 (87, [r0, vi x1], [], h, kc, ks) Q := by
  refine w_ld rfl rfl (Or.inr (Or.inr ⟨by decide, y1⟩)) ?_
  subst e_q2
  refine w_getf rfl g4 n6 ?_
  refine w_ld rfl rfl (Or.inr (Or.inr ⟨by decide, rfl⟩)) ?_
  refine w_getf rfl g4 n8 ?_
  exact w_cs rfl [v5, v7] [] rfl rfl (s_wt_4 rfl) k

theorem k430_98 {P : s_P} {d : Nat} {Q : s_O → Prop} {h : s_H} {kc ks : Nat} {r0 : Term} {x1 : Int} {q2 : Nat} {f3 : List Term} {v5 v7 : Term} (g4 : s_get h q2 = some (1, 11, f3)) (k : wm P d 596 [v5, v7] h (wq P d sw_c430 sw_h430 109 [.index q2, vi x1] [] kc ks Q)) (e_q2 : r0 = .index q2 := by first | rfl | assumption) (y1 : s_ty r0 = 3 := by first | rfl | assumption) (n6 : s_nth f3 21 = some v5 := by first | rfl | assumption) (n8 : s_nth f3 11 = some v7 := by first | rfl | assumption)  : wr P d sw_c430 sw_h430 (98, [r0, vi x1], [], h, kc, ks) Q := by
  refine w_ld rfl rfl (Or.inr (Or.inr ⟨by decide, y1⟩)) ?_
  subst e_q2
  refine w_getf rfl g4 n6 ?_
  refine w_ld rfl rfl (Or.inr (Or.inr ⟨by decide, rfl⟩)) ?_
  refine w_getf rfl g4 n8 ?_
  exact w_cs rfl [v5, v7] [] rfl rfl (s_wt_4 rfl) k

theorem k430_109 {P : s_P} {d : Nat} {Q : s_O → Prop} {h : s_H} {kc ks : Nat} {r0 : Term} {x1 : Int} {q2 : Nat} {f3 : List Term} {v5 v7 : Term} (g4 : s_get h q2 = some (1, 11, f3)) (k : wm P d 531 [.index q2, v5, v7] h (wq P d sw_c430 sw_h430 121 [.index q2, vi x1] [] kc ks Q)) (e_q2 : r0 = .index q2 := by first | rfl | assumption) (y1 : s_ty r0 = 3 := by first | rfl | assumption) (n6 : s_nth f3 20 = some v5 := by first | rfl | assumption) (n8 : s_nth f3 11 = some v7 := by first | rfl | assumption)  : wr P d sw_c430 sw_h430 (109, [r0, vi x1], [], h, kc, ks) Q := by
  refine w_ld rfl rfl (Or.inr (Or.inr ⟨by decide, y1⟩)) ?_
  refine w_ld rfl rfl (Or.inr (Or.inr ⟨by decide, y1⟩)) ?_
  subst e_q2
  refine w_getf rfl g4 n6 ?_
  refine w_ld rfl rfl (Or.inr (Or.inr ⟨by decide, rfl⟩)) ?_
  refine w_getf rfl g4 n8 ?_
  exact w_cv rfl [.index q2, v5, v7] [] rfl rfl (s_wt_4 rfl) rfl g4 k

theorem k430_121 {P : s_P} {d : Nat} {Q : s_O → Prop} {h : s_H} {kc ks : Nat} {r0 : Term} {x1 : Int} {q2 : Nat} {f3 : List Term} {v5 v7 : Term} (g4 : s_get h q2 = some (1, 11, f3)) (k : wm P d 425 [v5, v7] h (wq P d sw_c430 sw_h430 132 [.index q2, vi x1] [] kc ks Q)) (e_q2 : r0 = .index q2 := by first | rfl | assumption) (y1 : s_ty r0 = 3 := by first | rfl | assumption) (n6 : s_nth f3 14 = some v5 := by first | rfl | assumption) (n8 : s_nth f3 16 = some v7 := by first | rfl | assumption)  : wr P d sw_c430 sw_h430 (121, [r0, vi x1], [], h, kc, ks) Q := by
  refine w_ld rfl rfl (Or.inr (Or.inr ⟨by decide, y1⟩)) ?_
  subst e_q2
  refine w_getf rfl g4 n6 ?_
  refine w_ld rfl rfl (Or.inr (Or.inr ⟨by decide, rfl⟩)) ?_
  refine w_getf rfl g4 n8 ?_
  exact w_cs rfl [v5, v7] [] rfl rfl (s_wt_4 rfl) k

theorem k430_132 {P : s_P} {d : Nat} {Q : s_O → Prop} {h : s_H} {kc ks : Nat} {r0 : Term} {x1 : Int} {q2 : Nat} {f3 : List Term} {v5 v7 : Term} (g4 : s_get h q2 = some (1, 11, f3)) (k : wm P d 531 [.index q2, v5, v7] h (wq P d sw_c430 sw_h430 144 [.index q2, vi x1] [] kc ks Q)) (e_q2 : r0 = .index q2 := by first | rfl | assumption) (y1 : s_ty r0 = 3 := by first | rfl | assumption) (n6 : s_nth f3 21 = some v5 := by first | rfl | assumption) (n8 : s_nth f3 10 = some v7 := by first | rfl | assumption)  : wr P d sw_c430 sw_h430 (132, [r0, vi x1], [], h, kc, ks) Q := by
  refine w_ld rfl rfl (Or.inr (Or.inr ⟨by decide, y1⟩)) ?_
  refine w_ld rfl rfl (Or.inr (Or.inr ⟨by decide, y1⟩)) ?_
  subst e_q2
  refine w_getf rfl g4 n6 ?_
  refine w_ld rfl rfl (Or.inr (Or.inr ⟨by decide, rfl⟩)) ?_
  refine w_getf rfl g4 n8 ?_
  exact w_cv rfl [.index q2, v5, v7] [] rfl rfl (s_wt_4 rfl) rfl g4 k

theorem k430_144 {P : s_P} {d : Nat} {Q : s_O → Prop} {h : s_H} {kc ks : Nat} {r0 : Term} {x1 : Int} {q2 : Nat} {f3 : List Term} {v5 v7 : Term} (g4 : s_get h q2 = some (1, 11, f3)) (k : wm P d 529 [v5, v7, vl (-1)] h (wq P d sw_c430 sw_h430 158 [.index q2, vi x1] [] kc ks Q)) (e_q2 : r0 = .index q2 := by first | rfl | assumption) (y1 : s_ty r0 = 3 := by first | rfl | assumption) (n6 : s_nth f3 14 = some v5 := by first | rfl | assumption) (n8 : s_nth f3 16 = some v7 := by first | rfl | assumption)  : wr P d sw_c430 sw_h430 (144, [r0, vi x1], [], h, kc, ks) Q := by
  refine w_ld rfl rfl (Or.inr (Or.inr ⟨by decide, y1⟩)) ?_
  subst e_q2
  refine w_getf rfl g4 n6 ?_
  refine w_ld rfl rfl (Or.inr (Or.inr ⟨by decide, rfl⟩)) ?_
  refine w_getf rfl g4 n8 ?_
  refine w_c64 rfl (by decide) (-1) (by decide) ?_
  exact w_cs rfl [v5, v7, vl (-1)] [] rfl rfl (s_wt_4 rfl) k

theorem k430_158 {P : s_P} {d : Nat} {Q : s_O → Prop} {h : s_H} {kc ks : Nat} {r0 : Term} {x1 : Int} {q2 : Nat} {f3 : List Term} {v5 : Term} (g4 : s_get h q2 = some (1, 11, f3)) (k : wm P d 531 [.index q2, v5, v5] h (wq P d sw_c430 sw_h430 170 [.index q2, vi x1] [] kc ks Q)) (e_q2 : r0 = .index q2 := by first | rfl | assumption) (y1 : s_ty r0 = 3 := by first | rfl | assumption) (n6 : s_nth f3 11 = some v5 := by first | rfl | assumption)  : wr P d sw_c430 sw_h430 (158, [r0, vi x1], [], h, kc, ks) Q := by
  refine w_ld rfl rfl (Or.inr (Or.inr ⟨by decide, y1⟩)) ?_
  refine w_ld rfl rfl (Or.inr (Or.inr ⟨by decide, y1⟩)) ?_
  subst e_q2
  refine w_getf rfl g4 n6 ?_
  refine w_ld rfl rfl (Or.inr (Or.inr ⟨by decide, rfl⟩)) ?_
  refine w_getf rfl g4 n6 ?_
  exact w_cv rfl [.index q2, v5, v5] [] rfl rfl (s_wt_4 rfl) rfl g4 k

theorem k430_170 {P : s_P} {d : Nat} {Q : s_O → Prop} {h : s_H} {kc ks : Nat} {r0 : Term} {x1 : Int} {q2 : Nat} {f3 : List Term} {v5 v7 : Term} (g4 : s_get h q2 = some (1, 11, f3)) (k : wm P d 425 [v5, v7] h (wq P d sw_c430 sw_h430 181 [.index q2, vi x1] [] kc ks Q)) (e_q2 : r0 = .index q2 := by first | rfl | assumption) (y1 : s_ty r0 = 3 := by first | rfl | assumption) (n6 : s_nth f3 15 = some v5 := by first | rfl | assumption) (n8 : s_nth f3 16 = some v7 := by first | rfl | assumption)  : wr P d sw_c430 sw_h430 (170, [r0, vi x1], [], h, kc, ks) Q := by
  refine w_ld rfl rfl (Or.inr (Or.inr ⟨by decide, y1⟩)) ?_
  subst e_q2
  refine w_getf rfl g4 n6 ?_
  refine w_ld rfl rfl (Or.inr (Or.inr ⟨by decide, rfl⟩)) ?_
  refine w_getf rfl g4 n8 ?_
  exact w_cs rfl [v5, v7] [] rfl rfl (s_wt_4 rfl) k

theorem k430_181 {P : s_P} {d : Nat} {Q : s_O → Prop} {h : s_H} {kc ks : Nat} {r0 : Term} {x1 : Int} {q2 : Nat} {f3 : List Term} (g4 : s_get h q2 = some (1, 11, f3)) (k : wm P d 516 [.index q2] h (wq P d sw_c430 sw_h430 185 [.index q2, vi x1] [] kc ks Q)) (e_q2 : r0 = .index q2 := by first | rfl | assumption) (y1 : s_ty r0 = 3 := by first | rfl | assumption)  : wr P d sw_c430 sw_h430 (181, [r0, vi x1], [], h, kc, ks) Q := by
  refine w_ld rfl rfl (Or.inr (Or.inr ⟨by decide, y1⟩)) ?_
  subst e_q2
  exact w_cv rfl [.index q2] [] rfl rfl (s_wt_4 rfl) rfl g4 k

theorem k430_185 {P : s_P} {d : Nat} {Q : s_O → Prop} {h : s_H} {kc ks : Nat} {r0 : Term} {x1 : Int} {q2 : Nat} {f3 : List Term} (g4 : s_get h q2 = some (1, 11, f3)) (k : wm P d 495 [.index q2, vi 3] h (wq P d sw_c430 sw_h430 190 [.index q2, vi x1] [] kc ks Q)) (e_q2 : r0 = .index q2 := by first | rfl | assumption) (y1 : s_ty r0 = 3 := by first | rfl | assumption)  : wr P d sw_c430 sw_h430 (185, [r0, vi x1], [], h, kc, ks) Q := by
  refine w_ld rfl rfl (Or.inr (Or.inr ⟨by decide, y1⟩)) ?_
  refine w_c32 rfl (by decide) 3 (by decide) ?_
  subst e_q2
  exact w_cv rfl [.index q2, vi 3] [] rfl rfl (s_wt_4 rfl) rfl g4 k

theorem k430_190 {P : s_P} {d : Nat} {Q : s_O → Prop} {h : s_H} {kc ks : Nat} {r0 : Term} {x1 s0 : Int}  (k : Q (.inl (some (vi s0)), h, kc, ks))   : wr P d sw_c430 sw_h430 (190, [r0, vi x1], [vi s0], h, kc, ks) Q := by
  exact w_iret rfl k

/-! 431: FormulaWorksModel.determinant(I)I -/
theorem k431_0 {P : s_P} {d : Nat} {Q : s_O → Prop} {h : s_H} {kc ks : Nat} {r0 : Term} {x1 : Int} {q2 : Nat} {f3 : List Term} (g4 : s_get h q2 = some (1, 11, f3)) (k : wm P d 481 [.index q2, vi x1, vi 2] h (wq P d sw_c431 sw_h431 6 [.index q2, vi x1] [] kc ks Q)) (e_q2 : r0 = .index q2 := by first | rfl | assumption) (y1 : s_ty r0 = 3 := by first | rfl | assumption)  : wr P d sw_c431 sw_h431 (0, [r0, vi x1], [], h, kc, ks) Q := by
  refine w_ld rfl rfl (Or.inr (Or.inr ⟨by decide, y1⟩)) ?_
  refine w_ld rfl rfl (Or.inl ⟨by decide, rfl⟩) ?_
  refine w_c32 rfl (by decide) 2 (by decide) ?_
  subst e_q2
  exact w_cv rfl [.index q2, vi x1, vi 2] [] rfl rfl (s_wt_4 rfl) rfl g4 k

theorem k431_6 {P : s_P} {d : Nat} {Q : s_O → Prop} {h : s_H} {kc ks : Nat} {r0 : Term} {x1 s0 : Int}  (k1 : s0 ≠ 0 → wr P d sw_c431 sw_h431 (11, [r0, vi x1], [], h, kc, ks) Q) (k2 : ¬ s0 ≠ 0 → wr P d sw_c431 sw_h431 (9, [r0, vi x1], [], h, kc, ks) Q)  (c1 : In3 s0 := by first | omega | assumption | (simp only [mk_len, List.length_map]; omega) | decide) : wr P d sw_c431 sw_h431 (6, [r0, vi x1], [vi s0], h, kc, ks) Q := by
  exact w_if1 rfl c1 k1 k2

theorem k431_9 {P : s_P} {d : Nat} {Q : s_O → Prop} {h : s_H} {kc ks : Nat} {r0 : Term} {x1 : Int}  (k : Q (.inl (some (vi 0)), h, kc, ks))   : wr P d sw_c431 sw_h431 (9, [r0, vi x1], [], h, kc, ks) Q := by
  refine w_c32 rfl (by decide) 0 (by decide) ?_
  exact w_iret rfl k

theorem k431_11 {P : s_P} {d : Nat} {Q : s_O → Prop} {h : s_H} {kc ks : Nat} {r0 : Term} {x1 : Int} {q2 : Nat} {f3 : List Term} {v5 : Term} {q7 : Nat} {a8 : List Int} {v13 : Term} {q15 : Nat} {a16 : List Int} (g4 : s_get h q2 = some (1, 11, f3)) (g9 : s_get h q7 = some (0, 0, a8.map vi)) (g17 : s_get h q15 = some (0, 0, a16.map vi)) (k1 : gi a8 x1 = gi a16 x1 → wr P d sw_c431 sw_h431 (32, [.index q2, vi x1], [], h, kc, ks) Q) (k2 : ¬ gi a8 x1 = gi a16 x1 → wr P d sw_c431 sw_h431 (26, [.index q2, vi x1], [], h, kc, ks) Q) (e_q2 : r0 = .index q2 := by first | rfl | assumption) (e_q7 : v5 = .index q7 := by first | rfl | assumption) (e_q15 : v13 = .index q15 := by first | rfl | assumption) (y1 : s_ty r0 = 3 := by first | rfl | assumption) (n6 : s_nth f3 5 = some v5 := by first | rfl | assumption) (n14 : s_nth f3 6 = some v13 := by first | rfl | assumption) (c10 : x1 < a8.length := by first | omega | assumption | (simp only [mk_len, List.length_map]; omega) | decide) (c11 : 0 ≤ x1 := by first | omega | assumption | (simp only [mk_len, List.length_map]; omega) | decide) (c12 : In3 x1 := by first | omega | assumption | (simp only [mk_len, List.length_map]; omega) | decide) (c18 : x1 < a16.length := by first | omega | assumption | (simp only [mk_len, List.length_map]; omega) | decide) (c19 : In3 (gi a8 x1) := by first | omega | assumption | (simp only [mk_len, List.length_map]; omega) | decide) (c20 : In3 (gi a16 x1) := by first | omega | assumption | (simp only [mk_len, List.length_map]; omega) | decide) : wr P d sw_c431 sw_h431 (11, [r0, vi x1], [], h, kc, ks) Q := by
  refine w_ld rfl rfl (Or.inr (Or.inr ⟨by decide, y1⟩)) ?_
  subst e_q2
  refine w_getf rfl g4 n6 ?_
  refine w_ld rfl rfl (Or.inl ⟨by decide, rfl⟩) ?_
  subst e_q7
  refine w_iald rfl g9 (Or.inl rfl) c12 c11 c10 ?_
  refine w_ld rfl rfl (Or.inr (Or.inr ⟨by decide, rfl⟩)) ?_
  refine w_getf rfl g4 n14 ?_
  refine w_ld rfl rfl (Or.inl ⟨by decide, rfl⟩) ?_
  subst e_q15
  refine w_iald rfl g17 (Or.inl rfl) c12 c11 c18 ?_
  exact w_if2 rfl c19 c20 k1 k2

theorem k431_26 {P : s_P} {d : Nat} {Q : s_O → Prop} {h : s_H} {kc ks : Nat} {r0 : Term} {x1 : Int} {q2 : Nat} {f3 : List Term} (g4 : s_get h q2 = some (1, 11, f3)) (k : wm P d 570 [.index q2, vi 2] h (wq P d sw_c431 sw_h431 31 [.index q2, vi x1] [] kc ks Q)) (e_q2 : r0 = .index q2 := by first | rfl | assumption) (y1 : s_ty r0 = 3 := by first | rfl | assumption)  : wr P d sw_c431 sw_h431 (26, [r0, vi x1], [], h, kc, ks) Q := by
  refine w_ld rfl rfl (Or.inr (Or.inr ⟨by decide, y1⟩)) ?_
  refine w_c32 rfl (by decide) 2 (by decide) ?_
  subst e_q2
  exact w_cv rfl [.index q2, vi 2] [] rfl rfl (s_wt_4 rfl) rfl g4 k

theorem k431_31 {P : s_P} {d : Nat} {Q : s_O → Prop} {h : s_H} {kc ks : Nat} {r0 : Term} {x1 s0 : Int}  (k : Q (.inl (some (vi s0)), h, kc, ks))   : wr P d sw_c431 sw_h431 (31, [r0, vi x1], [vi s0], h, kc, ks) Q := by
  exact w_iret rfl k

theorem k431_32 {P : s_P} {d : Nat} {Q : s_O → Prop} {h : s_H} {kc ks : Nat} {r0 : Term} {x1 : Int} {q2 : Nat} {f3 : List Term} (g4 : s_get h q2 = some (1, 11, f3)) (k : wm P d 453 [.index q2, vi x1] h (wq P d sw_c431 sw_h431 37 [.index q2, vi x1] [] kc ks Q)) (e_q2 : r0 = .index q2 := by first | rfl | assumption) (y1 : s_ty r0 = 3 := by first | rfl | assumption)  : wr P d sw_c431 sw_h431 (32, [r0, vi x1], [], h, kc, ks) Q := by
  refine w_ld rfl rfl (Or.inr (Or.inr ⟨by decide, y1⟩)) ?_
  refine w_ld rfl rfl (Or.inl ⟨by decide, rfl⟩) ?_
  subst e_q2
  exact w_cv rfl [.index q2, vi x1] [] rfl rfl (s_wt_4 rfl) rfl g4 k

theorem k431_37 {P : s_P} {d : Nat} {Q : s_O → Prop} {h : s_H} {kc ks : Nat} {r0 : Term} {x1 : Int} {q2 : Nat} {f3 : List Term} {v5 v7 : Term} {q9 : Nat} {a10 : List Int} (g4 : s_get h q2 = some (1, 11, f3)) (g11 : s_get h q9 = some (0, 0, a10.map vi)) (k : wm P d 510 [.index q2, v5, vi ((zi 27 1 (gi a10 x1)) - 1), vi ((zi 27 1 (gi a10 x1)) - 1)] h (wq P d sw_c431 sw_h431 65 [.index q2, vi x1] [] kc ks Q)) (e_q2 : r0 = .index q2 := by first | rfl | assumption) (e_q9 : v7 = .index q9 := by first | rfl | assumption) (y1 : s_ty r0 = 3 := by first | rfl | assumption) (n6 : s_nth f3 14 = some v5 := by first | rfl | assumption) (n8 : s_nth f3 5 = some v7 := by first | rfl | assumption) (c12 : x1 < a10.length := by first | omega | assumption | (simp only [mk_len, List.length_map]; omega) | decide) (c13 : 0 ≤ x1 := by first | omega | assumption | (simp only [mk_len, List.length_map]; omega) | decide) (c14 : In3 x1 := by first | omega | assumption | (simp only [mk_len, List.length_map]; omega) | decide) : wr P d sw_c431 sw_h431 (37, [r0, vi x1], [], h, kc, ks) Q := by
  refine w_ld rfl rfl (Or.inr (Or.inr ⟨by decide, y1⟩)) ?_
  refine w_ld rfl rfl (Or.inr (Or.inr ⟨by decide, y1⟩)) ?_
  subst e_q2
  refine w_getf rfl g4 n6 ?_
  refine w_c32 rfl (by decide) 1 (by decide) ?_
  refine w_ld rfl rfl (Or.inr (Or.inr ⟨by decide, rfl⟩)) ?_
  refine w_getf rfl g4 n8 ?_
  refine w_ld rfl rfl (Or.inl ⟨by decide, rfl⟩) ?_
  subst e_q9
  refine w_iald rfl g11 (Or.inl rfl) c14 c13 c12 ?_
  refine w_ib rfl (by decide) ?_
  refine w_c32 rfl (by decide) 1 (by decide) ?_
  refine w_isub rfl ?_
  refine w_c32 rfl (by decide) 1 (by decide) ?_
  refine w_ld rfl rfl (Or.inr (Or.inr ⟨by decide, rfl⟩)) ?_
  refine w_getf rfl g4 n8 ?_
  refine w_ld rfl rfl (Or.inl ⟨by decide, rfl⟩) ?_
  refine w_iald rfl g11 (Or.inl rfl) c14 c13 c12 ?_
  refine w_ib rfl (by decide) ?_
  refine w_c32 rfl (by decide) 1 (by decide) ?_
  refine w_isub rfl ?_
  exact w_cv rfl [.index q2, v5, vi ((zi 27 1 (gi a10 x1)) - 1), vi ((zi 27 1 (gi a10 x1)) - 1)] [] rfl rfl (s_wt_4 rfl) rfl g4 k

theorem k431_65 {P : s_P} {d : Nat} {Q : s_O → Prop} {h : s_H} {kc ks : Nat} {r0 : Term} {x1 : Int} {q2 : Nat} {f3 : List Term} {v5 : Term} (g4 : s_get h q2 = some (1, 11, f3)) (k : wm P d 405 [v5, vl 1] h (wq P d sw_c431 sw_h431 73 [.index q2, vi x1] [] kc ks Q)) (e_q2 : r0 = .index q2 := by first | rfl | assumption) (y1 : s_ty r0 = 3 := by first | rfl | assumption) (n6 : s_nth f3 15 = some v5 := by first | rfl | assumption)  : wr P d sw_c431 sw_h431 (65, [r0, vi x1], [], h, kc, ks) Q := by
  refine w_ld rfl rfl (Or.inr (Or.inr ⟨by decide, y1⟩)) ?_
  subst e_q2
  refine w_getf rfl g4 n6 ?_
  refine w_c64 rfl (by decide) 1 (by decide) ?_
  exact w_cs rfl [v5, vl 1] [] rfl rfl (s_wt_4 rfl) k

theorem k431_73 {P : s_P} {d : Nat} {Q : s_O → Prop} {h : s_H} {kc ks : Nat} {r0 : Term} {x1 : Int} {q2 : Nat} {f3 : List Term} (g4 : s_get h q2 = some (1, 11, f3)) (k : wm P d 495 [.index q2, vi 3] h (wq P d sw_c431 sw_h431 78 [.index q2, vi x1] [] kc ks Q)) (e_q2 : r0 = .index q2 := by first | rfl | assumption) (y1 : s_ty r0 = 3 := by first | rfl | assumption)  : wr P d sw_c431 sw_h431 (73, [r0, vi x1], [], h, kc, ks) Q := by
  refine w_ld rfl rfl (Or.inr (Or.inr ⟨by decide, y1⟩)) ?_
  refine w_c32 rfl (by decide) 3 (by decide) ?_
  subst e_q2
  exact w_cv rfl [.index q2, vi 3] [] rfl rfl (s_wt_4 rfl) rfl g4 k

theorem k431_78 {P : s_P} {d : Nat} {Q : s_O → Prop} {h : s_H} {kc ks : Nat} {r0 : Term} {x1 s0 : Int}  (k : Q (.inl (some (vi s0)), h, kc, ks))   : wr P d sw_c431 sw_h431 (78, [r0, vi x1], [vi s0], h, kc, ks) Q := by
  exact w_iret rfl k

/-! 432: FormulaWorksModel.digits(II)I -/
theorem k432_0 {P : s_P} {d : Nat} {Q : s_O → Prop} {h : s_H} {kc ks : Nat} {r0 : Term} {x1 x2 : Int} {t3 : Term}  (k : wr P d sw_c432 sw_h432 (2, [r0, vi x1, vi x2, vi 0], [], h, kc, ks) Q)   : wr P d sw_c432 sw_h432 (0, [r0, vi x1, vi x2, t3], [], h, kc, ks) Q := by
  refine w_c32 rfl (by decide) 0 (by decide) ?_
  refine w_st (ls' := [r0, vi x1, vi x2, vi 0]) rfl (Or.inl ⟨by decide, rfl⟩) rfl ?_
  exact k

theorem k432_2 {P : s_P} {d : Nat} {Q : s_O → Prop} {h : s_H} {kc ks : Nat} {r0 : Term} {x1 x2 x3 : Int} {q2 : Nat} {f3 : List Term} (g4 : s_get h q2 = some (1, 11, f3)) (k : wm P d 475 [.index q2, vi (x1 + x3)] h (wq P d sw_c432 sw_h432 9 [.index q2, vi x1, vi x2, vi x3] [] kc ks Q)) (e_q2 : r0 = .index q2 := by first | rfl | assumption) (y1 : s_ty r0 = 3 := by first | rfl | assumption)  : wr P d sw_c432 sw_h432 (2, [r0, vi x1, vi x2, vi x3], [], h, kc, ks) Q := by
  refine w_ld rfl rfl (Or.inr (Or.inr ⟨by decide, y1⟩)) ?_
  refine w_ld rfl rfl (Or.inl ⟨by decide, rfl⟩) ?_
  refine w_ld rfl rfl (Or.inl ⟨by decide, rfl⟩) ?_
  refine w_iadd rfl ?_
  subst e_q2
  exact w_cv rfl [.index q2, vi (x1 + x3)] [] rfl rfl (s_wt_4 rfl) rfl g4 k

theorem k432_9 {P : s_P} {d : Nat} {Q : s_O → Prop} {h : s_H} {kc ks : Nat} {r0 : Term} {x1 x2 x3 s0 : Int}  (k1 : s0 = 0 → wr P d sw_c432 sw_h432 (33, [r0, vi x1, vi x2, vi x3], [], h, kc, ks) Q) (k2 : ¬ s0 = 0 → wr P d sw_c432 sw_h432 (12, [r0, vi x1, vi x2, vi x3], [], h, kc, ks) Q)  (c1 : In3 s0 := by first | omega | assumption | (simp only [mk_len, List.length_map]; omega) | decide) : wr P d sw_c432 sw_h432 (9, [r0, vi x1, vi x2, vi x3], [vi s0], h, kc, ks) Q := by
  exact w_if1 rfl c1 k1 k2

theorem k432_12 {P : s_P} {d : Nat} {Q : s_O → Prop} {h : s_H} {kc ks : Nat} {r0 : Term} {x1 x2 x3 : Int}  (k1 : x3 ≠ x2 → wr P d sw_c432 sw_h432 (27, [r0, vi x1, vi x2, vi x3], [], h, kc, ks) Q) (k2 : ¬ x3 ≠ x2 → wr P d sw_c432 sw_h432 (17, [r0, vi x1, vi x2, vi x3], [], h, kc, ks) Q)  (c1 : In3 x3 := by first | omega | assumption | (simp only [mk_len, List.length_map]; omega) | decide) (c2 : In3 x2 := by first | omega | assumption | (simp only [mk_len, List.length_map]; omega) | decide) : wr P d sw_c432 sw_h432 (12, [r0, vi x1, vi x2, vi x3], [], h, kc, ks) Q := by
  refine w_ld rfl rfl (Or.inl ⟨by decide, rfl⟩) ?_
  refine w_ld rfl rfl (Or.inl ⟨by decide, rfl⟩) ?_
  exact w_if2 rfl c1 c2 k1 k2

theorem k432_17 {P : s_P} {d : Nat} {Q : s_O → Prop} {h : s_H} {kc ks : Nat} {r0 : Term} {x1 x2 x3 : Int} {q2 : Nat} {f3 : List Term} (g4 : s_get h q2 = some (1, 11, f3)) (k : wm P d 445 [.index q2, vi 2, vi (x1 + x3)] h (wq P d sw_c432 sw_h432 25 [.index q2, vi x1, vi x2, vi x3] [] kc ks Q)) (e_q2 : r0 = .index q2 := by first | rfl | assumption) (y1 : s_ty r0 = 3 := by first | rfl | assumption)  : wr P d sw_c432 sw_h432 (17, [r0, vi x1, vi x2, vi x3], [], h, kc, ks) Q := by
  refine w_ld rfl rfl (Or.inr (Or.inr ⟨by decide, y1⟩)) ?_
  refine w_c32 rfl (by decide) 2 (by decide) ?_
  refine w_ld rfl rfl (Or.inl ⟨by decide, rfl⟩) ?_
  refine w_ld rfl rfl (Or.inl ⟨by decide, rfl⟩) ?_
  refine w_iadd rfl ?_
  subst e_q2
  exact w_cv rfl [.index q2, vi 2, vi (x1 + x3)] [] rfl rfl (s_wt_4 rfl) rfl g4 k

theorem k432_25 {P : s_P} {d : Nat} {Q : s_O → Prop} {h : s_H} {kc ks : Nat} {r0 : Term} {x1 x2 x3 : Int}  (k : Q (.inl (some (vi x3)), h, kc, ks))   : wr P d sw_c432 sw_h432 (25, [r0, vi x1, vi x2, vi x3], [], h, kc, ks) Q := by
  refine w_ld rfl rfl (Or.inl ⟨by decide, rfl⟩) ?_
  exact w_iret rfl k

theorem k432_27 {P : s_P} {d : Nat} {Q : s_O → Prop} {h : s_H} {kc ks : Nat} {r0 : Term} {x1 x2 x3 : Int}  (k : wr P d sw_c432 sw_h432 (2, [r0, vi x1, vi x2, vi (x3 + 1)], [], h, kc, ks) Q)   : wr P d sw_c432 sw_h432 (27, [r0, vi x1, vi x2, vi x3], [], h, kc, ks) Q := by
  refine w_iinc (ls' := [r0, vi x1, vi x2, vi (x3 + 1)]) rfl rfl 1 (by decide) rfl ?_
  refine w_goto rfl ?_
  exact k

theorem k432_33 {P : s_P} {d : Nat} {Q : s_O → Prop} {h : s_H} {kc ks : Nat} {r0 : Term} {x1 x2 x3 : Int}  (k : Q (.inl (some (vi x3)), h, kc, ks))   : wr P d sw_c432 sw_h432 (33, [r0, vi x1, vi x2, vi x3], [], h, kc, ks) Q := by
  refine w_ld rfl rfl (Or.inl ⟨by decide, rfl⟩) ?_
  exact w_iret rfl k

/-! 433: FormulaWorksModel.divide([J[J)V -/
theorem k433_0 {P : s_P} {d : Nat} {Q : s_O → Prop} {h : s_H} {kc ks : Nat} {r0 r1 r2 t3 t4 t5 t6 t7 t8 t9 : Term}  (k : wm P d 463 [r2] h (wq P d sw_c433 sw_h433 4 [r0, r1, r2, t3, t4, t5, t6, t7, t8, t9] [] kc ks Q)) (y1 : s_ty r2 = 3 := by first | rfl | assumption)  : wr P d sw_c433 sw_h433 (0, [r0, r1, r2, t3, t4, t5, t6, t7, t8, t9], [], h, kc, ks) Q := by
  refine w_ld rfl rfl (Or.inr (Or.inr ⟨by decide, y1⟩)) ?_
  exact w_cs rfl [r2] [] rfl rfl (s_wt_4 rfl) k

theorem k433_4 {P : s_P} {d : Nat} {Q : s_O → Prop} {h : s_H} {kc ks : Nat} {r0 r1 r2 t3 t4 t5 t6 t7 t8 t9 : Term} {s0 : Int} {q2 : Nat} {a3 : List Int} (g4 : s_get h q2 = some (0, 1, a3.map vl)) (k : wm P d 467 [vl (gi a3 s0)] h (wq P d sw_c433 sw_h433 11 [r0, r1, .index q2, vi s0, t4, t5, t6, t7, t8, t9] [] kc ks Q)) (e_q2 : r2 = .index q2 := by first | rfl | assumption) (y1 : s_ty r2 = 3 := by first | rfl | assumption) (c5 : s0 < a3.length := by first | omega | assumption | (simp only [mk_len, List.length_map]; omega) | decide) (c6 : 0 ≤ s0 := by first | omega | assumption | (simp only [mk_len, List.length_map]; omega) | decide) (c7 : In3 s0 := by first | omega | assumption | (simp only [mk_len, List.length_map]; omega) | decide) : wr P d sw_c433 sw_h433 (4, [r0, r1, r2, t3, t4, t5, t6, t7, t8, t9], [vi s0], h, kc, ks) Q := by
  refine w_st (ls' := [r0, r1, r2, vi s0, t4, t5, t6, t7, t8, t9]) rfl (Or.inl ⟨by decide, rfl⟩) (s_stK_r (pre := [r0, r1]) y1) ?_
  refine w_ld rfl rfl (Or.inr (Or.inr ⟨by decide, y1⟩)) ?_
  refine w_ld rfl rfl (Or.inl ⟨by decide, rfl⟩) ?_
  subst e_q2
  refine w_lald rfl g4 c7 c6 c5 ?_
  exact w_cs rfl [vl (gi a3 s0)] [] rfl rfl (s_wt_4 rfl) k

theorem k433_11 {P : s_P} {d : Nat} {Q : s_O → Prop} {h : s_H} {kc ks : Nat} {r0 r1 r2 : Term} {x3 : Int} {t4 t5 t6 t7 t8 t9 : Term} {s0 : Int} {q2 : Nat} {f3 : List Term} {v5 : Term} (g4 : s_get h q2 = some (1, 11, f3)) (k : wm P d 438 [v5] h (wq P d sw_c433 sw_h433 20 [.index q2, r1, r2, vi x3, vl s0, .result, t6, t7, t8, t9] [] kc ks Q)) (e_q2 : r0 = .index q2 := by first | rfl | assumption) (y1 : s_ty r0 = 3 := by first | rfl | assumption) (n6 : s_nth f3 17 = some v5 := by first | rfl | assumption)  : wr P d sw_c433 sw_h433 (11, [r0, r1, r2, vi x3, t4, t5, t6, t7, t8, t9], [vl s0], h, kc, ks) Q := by
  refine w_stl (ls' := [r0, r1, r2, vi x3, vl s0, t5, t6, t7, t8, t9]) (ls'' := [r0, r1, r2, vi x3, vl s0, .result, t6, t7, t8, t9]) rfl ⟨by decide, rfl⟩ rfl rfl ?_
  refine w_ld rfl rfl (Or.inr (Or.inr ⟨by decide, y1⟩)) ?_
  subst e_q2
  refine w_getf rfl g4 n6 ?_
  exact w_cs rfl [v5] [] rfl rfl (s_wt_4 rfl) k

theorem k433_20 {P : s_P} {d : Nat} {Q : s_O → Prop} {h : s_H} {kc ks : Nat} {r0 r1 r2 : Term} {x3 x4 : Int} {t5 t6 t7 t8 t9 : Term}  (k : wm P d 463 [r1] h (wq P d sw_c433 sw_h433 24 [r0, r1, r2, vi x3, vl x4, t5, t6, t7, t8, t9] [] kc ks Q)) (y1 : s_ty r1 = 3 := by first | rfl | assumption)  : wr P d sw_c433 sw_h433 (20, [r0, r1, r2, vi x3, vl x4, t5, t6, t7, t8, t9], [], h, kc, ks) Q := by
  refine w_ld rfl rfl (Or.inr (Or.inr ⟨by decide, y1⟩)) ?_
  exact w_cs rfl [r1] [] rfl rfl (s_wt_4 rfl) k

theorem k433_24 {P : s_P} {d : Nat} {Q : s_O → Prop} {h : s_H} {kc ks : Nat} {r0 r1 r2 : Term} {x3 x4 : Int} {t5 t6 t7 t8 t9 : Term} {s0 : Int}  (k : wr P d sw_c433 sw_h433 (26, [r0, r1, r2, vi x3, vl x4, (s_uu t5), vi s0, t7, t8, t9], [], h, kc, ks) Q)   : wr P d sw_c433 sw_h433 (24, [r0, r1, r2, vi x3, vl x4, t5, t6, t7, t8, t9], [vi s0], h, kc, ks) Q := by
  refine w_st (ls' := [r0, r1, r2, vi x3, vl x4, (s_uu t5), vi s0, t7, t8, t9]) rfl (Or.inl ⟨by decide, rfl⟩) (s_stK_t (pre := [r0, r1, r2, vi x3, vl x4])) ?_
  exact k

theorem k433_26 {P : s_P} {d : Nat} {Q : s_O → Prop} {h : s_H} {kc ks : Nat} {r0 r1 r2 : Term} {x3 x4 : Int} {t5 : Term} {x6 : Int} {t7 t8 t9 : Term}  (k1 : x6 < x3 → wr P d sw_c433 sw_h433 (113, [r0, r1, r2, vi x3, vl x4, t5, vi x6, t7, t8, t9], [], h, kc, ks) Q) (k2 : ¬ x6 < x3 → wr P d sw_c433 sw_h433 (32, [r0, r1, r2, vi x3, vl x4, t5, vi x6, t7, t8, t9], [], h, kc, ks) Q)  (c1 : In3 x6 := by first | omega | assumption | (simp only [mk_len, List.length_map]; omega) | decide) (c2 : In3 x3 := by first | omega | assumption | (simp only [mk_len, List.length_map]; omega) | decide) : wr P d sw_c433 sw_h433 (26, [r0, r1, r2, vi x3, vl x4, t5, vi x6, t7, t8, t9], [], h, kc, ks) Q := by
  refine w_ld rfl rfl (Or.inl ⟨by decide, rfl⟩) ?_
  refine w_ld rfl rfl (Or.inl ⟨by decide, rfl⟩) ?_
  exact w_if2 rfl c1 c2 k1 k2

theorem k433_32 {P : s_P} {d : Nat} {Q : s_O → Prop} {h : s_H} {kc ks : Nat} {r0 r1 r2 : Term} {x3 x4 : Int} {t5 : Term} {x6 : Int} {t7 t8 t9 : Term} {q2 : Nat} {a3 : List Int} {q10 : Nat} {f11 : List Term} {v13 : Term} {q15 : Nat} {a16 : List Int} (g4 : s_get h q2 = some (0, 1, a3.map vl)) (g12 : s_get h q10 = some (1, 11, f11)) (g17 : s_get h q15 = some (0, 1, a16.map vl)) (k : wr P d sw_c433 sw_h433 (59, [.index q10, .index q2, r2, vi x3, vl x4, t5, vi x6, vl (Int.tmod ((gi a3 x6) * x4) 32003), .result, vi 0], [], (hp h q15 (0, 1, (a16.set (Int.toNat (x6 - x3)) (Int.tmod ((gi a3 x6) * x4) 32003)).map vl)), kc, ks) Q) (e_q2 : r1 = .index q2 := by first | rfl | assumption) (e_q10 : r0 = .index q10 := by first | rfl | assumption) (e_q15 : v13 = .index q15 := by first | rfl | assumption) (y1 : s_ty r1 = 3 := by first | rfl | assumption) (y9 : s_ty r0 = 3 := by first | rfl | assumption) (n14 : s_nth f11 17 = some v13 := by first | rfl | assumption) (c5 : x6 < a3.length := by first | omega | assumption | (simp only [mk_len, List.length_map]; omega) | decide) (c6 : 0 ≤ x6 := by first | omega | assumption | (simp only [mk_len, List.length_map]; omega) | decide) (c7 : In3 x6 := by first | omega | assumption | (simp only [mk_len, List.length_map]; omega) | decide) (c8 : In6 ((gi a3 x6) * x4) := by first | omega | assumption | (simp only [mk_len, List.length_map]; omega) | decide) (c18 : x6 - x3 < a16.length := by first | omega | assumption | (simp only [mk_len, List.length_map]; omega) | decide) (c19 : 0 ≤ x6 - x3 := by first | omega | assumption | (simp only [mk_len, List.length_map]; omega) | decide) (c20 : In3 (x6 - x3) := by first | omega | assumption | (simp only [mk_len, List.length_map]; omega) | decide) (c21 : 0 < q15 := by first | omega | assumption | (simp only [mk_len, List.length_map]; omega) | decide) : wr P d sw_c433 sw_h433 (32, [r0, r1, r2, vi x3, vl x4, t5, vi x6, t7, t8, t9], [], h, kc, ks) Q := by
  refine w_ld rfl rfl (Or.inr (Or.inr ⟨by decide, y1⟩)) ?_
  refine w_ld rfl rfl (Or.inl ⟨by decide, rfl⟩) ?_
  subst e_q2
  refine w_lald rfl g4 c7 c6 c5 ?_
  refine w_ld rfl rfl (Or.inr (Or.inl ⟨by decide, rfl⟩)) ?_
  refine w_lmul rfl ?_
  refine w_c64 rfl (by decide) 32003 (by decide) ?_
  refine w_lrem rfl c8 (by decide) (by decide) ?_
  refine w_stl (ls' := [r0, .index q2, r2, vi x3, vl x4, t5, vi x6, vl (Int.tmod ((gi a3 x6) * x4) 32003), t8, t9]) (ls'' := [r0, .index q2, r2, vi x3, vl x4, t5, vi x6, vl (Int.tmod ((gi a3 x6) * x4) 32003), .result, t9]) rfl ⟨by decide, rfl⟩ rfl rfl ?_
  refine w_ld rfl rfl (Or.inr (Or.inr ⟨by decide, y9⟩)) ?_
  subst e_q10
  refine w_getf rfl g12 n14 ?_
  refine w_ld rfl rfl (Or.inl ⟨by decide, rfl⟩) ?_
  refine w_ld rfl rfl (Or.inl ⟨by decide, rfl⟩) ?_
  refine w_isub rfl ?_
  refine w_ld rfl rfl (Or.inr (Or.inl ⟨by decide, rfl⟩)) ?_
  subst e_q15
  refine w_last rfl g17 (Nat.ble_eq_true_of_le c21) c20 c19 c18 ?_
  refine w_c32 rfl (by decide) 0 (by decide) ?_
  refine w_st (ls' := [.index q10, .index q2, r2, vi x3, vl x4, t5, vi x6, vl (Int.tmod ((gi a3 x6) * x4) 32003), .result, vi 0]) rfl (Or.inl ⟨by decide, rfl⟩) rfl ?_
  exact k

theorem k433_59 {P : s_P} {d : Nat} {Q : s_O → Prop} {h : s_H} {kc ks : Nat} {r0 r1 r2 : Term} {x3 x4 : Int} {t5 : Term} {x6 x7 : Int} {t8 : Term} {x9 : Int}  (k1 : x3 < x9 → wr P d sw_c433 sw_h433 (107, [r0, r1, r2, vi x3, vl x4, t5, vi x6, vl x7, t8, vi x9], [], h, kc, ks) Q) (k2 : ¬ x3 < x9 → wr P d sw_c433 sw_h433 (65, [r0, r1, r2, vi x3, vl x4, t5, vi x6, vl x7, t8, vi x9], [], h, kc, ks) Q)  (c1 : In3 x9 := by first | omega | assumption | (simp only [mk_len, List.length_map]; omega) | decide) (c2 : In3 x3 := by first | omega | assumption | (simp only [mk_len, List.length_map]; omega) | decide) : wr P d sw_c433 sw_h433 (59, [r0, r1, r2, vi x3, vl x4, t5, vi x6, vl x7, t8, vi x9], [], h, kc, ks) Q := by
  refine w_ld rfl rfl (Or.inl ⟨by decide, rfl⟩) ?_
  refine w_ld rfl rfl (Or.inl ⟨by decide, rfl⟩) ?_
  exact w_if2 rfl c1 c2 k1 k2

theorem k433_65 {P : s_P} {d : Nat} {Q : s_O → Prop} {h : s_H} {kc ks : Nat} {r0 r1 r2 : Term} {x3 x4 : Int} {t5 : Term} {x6 x7 : Int} {t8 : Term} {x9 : Int}  (k1 : x7 ≤ 0 → wr P d sw_c433 sw_h433 (107, [r0, r1, r2, vi x3, vl x4, t5, vi x6, vl x7, t8, vi x9], [], h, kc, ks) Q) (k2 : ¬ x7 ≤ 0 → wr P d sw_c433 sw_h433 (72, [r0, r1, r2, vi x3, vl x4, t5, vi x6, vl x7, t8, vi x9], [], h, kc, ks) Q)  (c1 : In6 x7 := by first | omega | assumption | (simp only [mk_len, List.length_map]; omega) | decide) : wr P d sw_c433 sw_h433 (65, [r0, r1, r2, vi x3, vl x4, t5, vi x6, vl x7, t8, vi x9], [], h, kc, ks) Q := by
  refine w_ld rfl rfl (Or.inr (Or.inl ⟨by decide, rfl⟩)) ?_
  refine w_c64 rfl (by decide) 0 (by decide) ?_
  exact w_lcmp rfl rfl c1 (by decide) k1 k2

theorem k433_72 {P : s_P} {d : Nat} {Q : s_O → Prop} {h : s_H} {kc ks : Nat} {r0 r1 r2 : Term} {x3 x4 : Int} {t5 : Term} {x6 x7 : Int} {t8 : Term} {x9 : Int} {q2 : Nat} {a3 : List Int} {q9 : Nat} {a10 : List Int} (g4 : s_get h q2 = some (0, 1, a3.map vl)) (g11 : s_get h q9 = some (0, 1, a10.map vl)) (k : wm P d 528 [vl ((gi a3 ((x6 - x3) + x9)) - (x7 * (gi a10 x9)))] h (wq P d sw_c433 sw_h433 100 [r0, .index q2, .index q9, vi x3, vl x4, t5, vi x6, vl x7, t8, vi x9] [vi ((x6 - x3) + x9), .index q2] kc ks Q)) (e_q2 : r1 = .index q2 := by first | rfl | assumption) (e_q9 : r2 = .index q9 := by first | rfl | assumption) (y1 : s_ty r1 = 3 := by first | rfl | assumption) (y8 : s_ty r2 = 3 := by first | rfl | assumption) (c5 : (x6 - x3) + x9 < a3.length := by first | omega | assumption | (simp only [mk_len, List.length_map]; omega) | decide) (c6 : 0 ≤ (x6 - x3) + x9 := by first | omega | assumption | (simp only [mk_len, List.length_map]; omega) | decide) (c7 : In3 ((x6 - x3) + x9) := by first | omega | assumption | (simp only [mk_len, List.length_map]; omega) | decide) (c12 : x9 < a10.length := by first | omega | assumption | (simp only [mk_len, List.length_map]; omega) | decide) (c13 : 0 ≤ x9 := by first | omega | assumption | (simp only [mk_len, List.length_map]; omega) | decide) (c14 : In3 x9 := by first | omega | assumption | (simp only [mk_len, List.length_map]; omega) | decide) : wr P d sw_c433 sw_h433 (72, [r0, r1, r2, vi x3, vl x4, t5, vi x6, vl x7, t8, vi x9], [], h, kc, ks) Q := by
  refine w_ld rfl rfl (Or.inr (Or.inr ⟨by decide, y1⟩)) ?_
  refine w_ld rfl rfl (Or.inl ⟨by decide, rfl⟩) ?_
  refine w_ld rfl rfl (Or.inl ⟨by decide, rfl⟩) ?_
  refine w_isub rfl ?_
  refine w_ld rfl rfl (Or.inl ⟨by decide, rfl⟩) ?_
  refine w_iadd rfl ?_
  refine w_ld rfl rfl (Or.inr (Or.inr ⟨by decide, y1⟩)) ?_
  refine w_ld rfl rfl (Or.inl ⟨by decide, rfl⟩) ?_
  refine w_ld rfl rfl (Or.inl ⟨by decide, rfl⟩) ?_
  refine w_isub rfl ?_
  refine w_ld rfl rfl (Or.inl ⟨by decide, rfl⟩) ?_
  refine w_iadd rfl ?_
  subst e_q2
  refine w_lald rfl g4 c7 c6 c5 ?_
  refine w_ld rfl rfl (Or.inr (Or.inl ⟨by decide, rfl⟩)) ?_
  refine w_ld rfl rfl (Or.inr (Or.inr ⟨by decide, y8⟩)) ?_
  refine w_ld rfl rfl (Or.inl ⟨by decide, rfl⟩) ?_
  subst e_q9
  refine w_lald rfl g11 c14 c13 c12 ?_
  refine w_lmul rfl ?_
  refine w_lsub rfl ?_
  exact w_cs rfl [vl ((gi a3 ((x6 - x3) + x9)) - (x7 * (gi a10 x9)))] [vi ((x6 - x3) + x9), .index q2] rfl rfl (s_wt_4 rfl) k

theorem k433_100 {P : s_P} {d : Nat} {Q : s_O → Prop} {h : s_H} {kc ks : Nat} {r0 r1 r2 : Term} {x3 x4 : Int} {t5 : Term} {x6 x7 : Int} {t8 : Term} {x9 : Int} {s0 : Term} {s1 s2 : Int} {q1 : Nat} {a2 : List Int} (g3 : s_get h q1 = some (0, 1, a2.map vl)) (k : wr P d sw_c433 sw_h433 (59, [r0, r1, r2, vi x3, vl x4, t5, vi x6, vl x7, (s_uu t8), vi (x9 + 1)], [], (hp h q1 (0, 1, (a2.set (Int.toNat (s1)) s2).map vl)), kc, ks) Q) (e_q1 : s0 = .index q1 := by first | rfl | assumption) (c4 : s1 < a2.length := by first | omega | assumption | (simp only [mk_len, List.length_map]; omega) | decide) (c5 : 0 ≤ s1 := by first | omega | assumption | (simp only [mk_len, List.length_map]; omega) | decide) (c6 : In3 s1 := by first | omega | assumption | (simp only [mk_len, List.length_map]; omega) | decide) (c7 : 0 < q1 := by first | omega | assumption | (simp only [mk_len, List.length_map]; omega) | decide) : wr P d sw_c433 sw_h433 (100, [r0, r1, r2, vi x3, vl x4, t5, vi x6, vl x7, t8, vi x9], [vl s2, vi s1, s0], h, kc, ks) Q := by
  subst e_q1
  refine w_last rfl g3 (Nat.ble_eq_true_of_le c7) c6 c5 c4 ?_
  refine w_iinc (ls' := [r0, r1, r2, vi x3, vl x4, t5, vi x6, vl x7, (s_uu t8), vi (x9 + 1)]) rfl rfl 1 (by decide) (s_stK_t (pre := [r0, r1, r2, vi x3, vl x4, t5, vi x6, vl x7])) ?_
  refine w_goto rfl ?_
  exact k

theorem k433_107 {P : s_P} {d : Nat} {Q : s_O → Prop} {h : s_H} {kc ks : Nat} {r0 r1 r2 : Term} {x3 x4 : Int} {t5 : Term} {x6 x7 : Int} {t8 : Term} {x9 : Int}  (k : wr P d sw_c433 sw_h433 (26, [r0, r1, r2, vi x3, vl x4, (s_uu t5), vi (x6 + (-1)), vl x7, t8, vi x9], [], h, kc, ks) Q)   : wr P d sw_c433 sw_h433 (107, [r0, r1, r2, vi x3, vl x4, t5, vi x6, vl x7, t8, vi x9], [], h, kc, ks) Q := by
  refine w_iinc (ls' := [r0, r1, r2, vi x3, vl x4, (s_uu t5), vi (x6 + (-1)), vl x7, t8, vi x9]) rfl rfl (-1) (by decide) (s_stK_t (pre := [r0, r1, r2, vi x3, vl x4])) ?_
  refine w_goto rfl ?_
  exact k

theorem k433_113 {P : s_P} {d : Nat} {Q : s_O → Prop} {h : s_H} {kc ks : Nat} {r0 r1 r2 : Term} {x3 x4 : Int} {t5 : Term} {x6 : Int} {t7 t8 t9 : Term}  (k : Q (.inl none, h, kc, ks))   : wr P d sw_c433 sw_h433 (113, [r0, r1, r2, vi x3, vl x4, t5, vi x6, t7, t8, t9], [], h, kc, ks) Q := by
  exact w_ret rfl k

/-! 434: FormulaWorksModel.divideBy([J[J)V -/
theorem k434_0 {P : s_P} {d : Nat} {Q : s_O → Prop} {h : s_H} {kc ks : Nat} {r0 r1 r2 : Term} {q4 : Nat} {f5 : List Term} (g6 : s_get h q4 = some (1, 11, f5)) (k : wm P d 433 [.index q4, r1, r2] h (wq P d sw_c434 sw_h434 6 [.index q4, r1, r2] [] kc ks Q)) (e_q4 : r0 = .index q4 := by first | rfl | assumption) (y1 : s_ty r0 = 3 := by first | rfl | assumption) (y2 : s_ty r1 = 3 := by first | rfl | assumption) (y3 : s_ty r2 = 3 := by first | rfl | assumption)  : wr P d sw_c434 sw_h434 (0, [r0, r1, r2], [], h, kc, ks) Q := by
  refine w_ld rfl rfl (Or.inr (Or.inr ⟨by decide, y1⟩)) ?_
  refine w_ld rfl rfl (Or.inr (Or.inr ⟨by decide, y2⟩)) ?_
  refine w_ld rfl rfl (Or.inr (Or.inr ⟨by decide, y3⟩)) ?_
  subst e_q4
  exact w_cv rfl [.index q4, r1, r2] [] rfl rfl (s_wt_4 rfl) rfl g6 k

theorem k434_6 {P : s_P} {d : Nat} {Q : s_O → Prop} {h : s_H} {kc ks : Nat} {r0 r1 r2 : Term} {q3 : Nat} {f4 : List Term} {v6 : Term} (g5 : s_get h q3 = some (1, 11, f4)) (k : wm P d 425 [r1, v6] h (wq P d sw_c434 sw_h434 14 [.index q3, r1, r2] [] kc ks Q)) (e_q3 : r0 = .index q3 := by first | rfl | assumption) (y1 : s_ty r1 = 3 := by first | rfl | assumption) (y2 : s_ty r0 = 3 := by first | rfl | assumption) (n7 : s_nth f4 17 = some v6 := by first | rfl | assumption)  : wr P d sw_c434 sw_h434 (6, [r0, r1, r2], [], h, kc, ks) Q := by
  refine w_ld rfl rfl (Or.inr (Or.inr ⟨by decide, y1⟩)) ?_
  refine w_ld rfl rfl (Or.inr (Or.inr ⟨by decide, y2⟩)) ?_
  subst e_q3
  refine w_getf rfl g5 n7 ?_
  exact w_cs rfl [r1, v6] [] rfl rfl (s_wt_4 rfl) k

theorem k434_14 {P : s_P} {d : Nat} {Q : s_O → Prop} {h : s_H} {kc ks : Nat} {r0 r1 r2 : Term}  (k : Q (.inl none, h, kc, ks))   : wr P d sw_c434 sw_h434 (14, [r0, r1, r2], [], h, kc, ks) Q := by
  exact w_ret rfl k

/-! 435: FormulaWorksModel.divided(III)I -/
theorem k435_0 {P : s_P} {d : Nat} {Q : s_O → Prop} {h : s_H} {kc ks : Nat} {r0 : Term} {x1 x2 x3 : Int} {q2 : Nat} {f3 : List Term} (g4 : s_get h q2 = some (1, 11, f3)) (k : wm P d 403 [.index q2, vi x1, vi x2, vi x3] h (wq P d sw_c435 sw_h435 7 [.index q2, vi x1, vi x2, vi x3] [] kc ks Q)) (e_q2 : r0 = .index q2 := by first | rfl | assumption) (y1 : s_ty r0 = 3 := by first | rfl | assumption)  : wr P d sw_c435 sw_h435 (0, [r0, vi x1, vi x2, vi x3], [], h, kc, ks) Q := by
  refine w_ld rfl rfl (Or.inr (Or.inr ⟨by decide, y1⟩)) ?_
  refine w_ld rfl rfl (Or.inl ⟨by decide, rfl⟩) ?_
  refine w_ld rfl rfl (Or.inl ⟨by decide, rfl⟩) ?_
  refine w_ld rfl rfl (Or.inl ⟨by decide, rfl⟩) ?_
  subst e_q2
  exact w_cv rfl [.index q2, vi x1, vi x2, vi x3] [] rfl rfl (s_wt_4 rfl) rfl g4 k

theorem k435_7 {P : s_P} {d : Nat} {Q : s_O → Prop} {h : s_H} {kc ks : Nat} {r0 : Term} {x1 x2 x3 s0 : Int}  (k1 : s0 ≠ 0 → wr P d sw_c435 sw_h435 (12, [r0, vi x1, vi x2, vi x3], [], h, kc, ks) Q) (k2 : ¬ s0 ≠ 0 → wr P d sw_c435 sw_h435 (10, [r0, vi x1, vi x2, vi x3], [], h, kc, ks) Q)  (c1 : In3 s0 := by first | omega | assumption | (simp only [mk_len, List.length_map]; omega) | decide) : wr P d sw_c435 sw_h435 (7, [r0, vi x1, vi x2, vi x3], [vi s0], h, kc, ks) Q := by
  exact w_if1 rfl c1 k1 k2

theorem k435_10 {P : s_P} {d : Nat} {Q : s_O → Prop} {h : s_H} {kc ks : Nat} {r0 : Term} {x1 x2 x3 : Int}  (k : Q (.inl (some (vi 0)), h, kc, ks))   : wr P d sw_c435 sw_h435 (10, [r0, vi x1, vi x2, vi x3], [], h, kc, ks) Q := by
  refine w_c32 rfl (by decide) 0 (by decide) ?_
  exact w_iret rfl k

theorem k435_12 {P : s_P} {d : Nat} {Q : s_O → Prop} {h : s_H} {kc ks : Nat} {r0 : Term} {x1 x2 x3 : Int} {q2 : Nat} {f3 : List Term} {v5 : Term} (g4 : s_get h q2 = some (1, 11, f3)) (k : wm P d 463 [v5] h (wq P d sw_c435 sw_h435 19 [.index q2, vi x1, vi x2, vi x3] [] kc ks Q)) (e_q2 : r0 = .index q2 := by first | rfl | assumption) (y1 : s_ty r0 = 3 := by first | rfl | assumption) (n6 : s_nth f3 12 = some v5 := by first | rfl | assumption)  : wr P d sw_c435 sw_h435 (12, [r0, vi x1, vi x2, vi x3], [], h, kc, ks) Q := by
  refine w_ld rfl rfl (Or.inr (Or.inr ⟨by decide, y1⟩)) ?_
  subst e_q2
  refine w_getf rfl g4 n6 ?_
  exact w_cs rfl [v5] [] rfl rfl (s_wt_4 rfl) k

theorem k435_19 {P : s_P} {d : Nat} {Q : s_O → Prop} {h : s_H} {kc ks : Nat} {r0 : Term} {x1 x2 x3 s0 : Int}  (k1 : 0 ≤ s0 → wr P d sw_c435 sw_h435 (28, [r0, vi x1, vi x2, vi x3], [], h, kc, ks) Q) (k2 : ¬ 0 ≤ s0 → wr P d sw_c435 sw_h435 (22, [r0, vi x1, vi x2, vi x3], [], h, kc, ks) Q)  (c1 : In3 s0 := by first | omega | assumption | (simp only [mk_len, List.length_map]; omega) | decide) : wr P d sw_c435 sw_h435 (19, [r0, vi x1, vi x2, vi x3], [vi s0], h, kc, ks) Q := by
  exact w_if1 rfl c1 k1 k2

theorem k435_22 {P : s_P} {d : Nat} {Q : s_O → Prop} {h : s_H} {kc ks : Nat} {r0 : Term} {x1 x2 x3 : Int} {q2 : Nat} {f3 : List Term} (g4 : s_get h q2 = some (1, 11, f3)) (k : wm P d 570 [.index q2, vi 3] h (wq P d sw_c435 sw_h435 27 [.index q2, vi x1, vi x2, vi x3] [] kc ks Q)) (e_q2 : r0 = .index q2 := by first | rfl | assumption) (y1 : s_ty r0 = 3 := by first | rfl | assumption)  : wr P d sw_c435 sw_h435 (22, [r0, vi x1, vi x2, vi x3], [], h, kc, ks) Q := by
  refine w_ld rfl rfl (Or.inr (Or.inr ⟨by decide, y1⟩)) ?_
  refine w_c32 rfl (by decide) 3 (by decide) ?_
  subst e_q2
  exact w_cv rfl [.index q2, vi 3] [] rfl rfl (s_wt_4 rfl) rfl g4 k

theorem k435_27 {P : s_P} {d : Nat} {Q : s_O → Prop} {h : s_H} {kc ks : Nat} {r0 : Term} {x1 x2 x3 s0 : Int}  (k : Q (.inl (some (vi s0)), h, kc, ks))   : wr P d sw_c435 sw_h435 (27, [r0, vi x1, vi x2, vi x3], [vi s0], h, kc, ks) Q := by
  exact w_iret rfl k

theorem k435_28 {P : s_P} {d : Nat} {Q : s_O → Prop} {h : s_H} {kc ks : Nat} {r0 : Term} {x1 x2 x3 : Int} {q2 : Nat} {f3 : List Term} {v5 v7 : Term} (g4 : s_get h q2 = some (1, 11, f3)) (k : wm P d 433 [.index q2, v5, v7] h (wq P d sw_c435 sw_h435 40 [.index q2, vi x1, vi x2, vi x3] [] kc ks Q)) (e_q2 : r0 = .index q2 := by first | rfl | assumption) (y1 : s_ty r0 = 3 := by first | rfl | assumption) (n6 : s_nth f3 10 = some v5 := by first | rfl | assumption) (n8 : s_nth f3 12 = some v7 := by first | rfl | assumption)  : wr P d sw_c435 sw_h435 (28, [r0, vi x1, vi x2, vi x3], [], h, kc, ks) Q := by
  refine w_ld rfl rfl (Or.inr (Or.inr ⟨by decide, y1⟩)) ?_
  refine w_ld rfl rfl (Or.inr (Or.inr ⟨by decide, y1⟩)) ?_
  subst e_q2
  refine w_getf rfl g4 n6 ?_
  refine w_ld rfl rfl (Or.inr (Or.inr ⟨by decide, rfl⟩)) ?_
  refine w_getf rfl g4 n8 ?_
  exact w_cv rfl [.index q2, v5, v7] [] rfl rfl (s_wt_4 rfl) rfl g4 k

theorem k435_40 {P : s_P} {d : Nat} {Q : s_O → Prop} {h : s_H} {kc ks : Nat} {r0 : Term} {x1 x2 x3 : Int} {q2 : Nat} {f3 : List Term} {v5 : Term} (g4 : s_get h q2 = some (1, 11, f3)) (k1 : x3 ≠ 0 → wr P d sw_c435 sw_h435 (55, [.index q2, vi x1, vi x2, vi x3], [v5], h, kc, ks) Q) (k2 : ¬ x3 ≠ 0 → wr P d sw_c435 sw_h435 (48, [.index q2, vi x1, vi x2, vi x3], [v5], h, kc, ks) Q) (e_q2 : r0 = .index q2 := by first | rfl | assumption) (y1 : s_ty r0 = 3 := by first | rfl | assumption) (n6 : s_nth f3 14 = some v5 := by first | rfl | assumption) (c7 : In3 x3 := by first | omega | assumption | (simp only [mk_len, List.length_map]; omega) | decide) : wr P d sw_c435 sw_h435 (40, [r0, vi x1, vi x2, vi x3], [], h, kc, ks) Q := by
  refine w_ld rfl rfl (Or.inr (Or.inr ⟨by decide, y1⟩)) ?_
  subst e_q2
  refine w_getf rfl g4 n6 ?_
  refine w_ld rfl rfl (Or.inl ⟨by decide, rfl⟩) ?_
  exact w_if1 rfl c7 k1 k2

theorem k435_48 {P : s_P} {d : Nat} {Q : s_O → Prop} {h : s_H} {kc ks : Nat} {r0 : Term} {x1 x2 x3 : Int} {s0 : Term} {q2 : Nat} {f3 : List Term} {v5 : Term} (g4 : s_get h q2 = some (1, 11, f3)) (k : wr P d sw_c435 sw_h435 (59, [.index q2, vi x1, vi x2, vi x3], [v5, s0], h, kc, ks) Q) (e_q2 : r0 = .index q2 := by first | rfl | assumption) (y1 : s_ty r0 = 3 := by first | rfl | assumption) (n6 : s_nth f3 17 = some v5 := by first | rfl | assumption)  : wr P d sw_c435 sw_h435 (48, [r0, vi x1, vi x2, vi x3], [s0], h, kc, ks) Q := by
  refine w_ld rfl rfl (Or.inr (Or.inr ⟨by decide, y1⟩)) ?_
  subst e_q2
  refine w_getf rfl g4 n6 ?_
  refine w_goto rfl ?_
  exact k

theorem k435_55 {P : s_P} {d : Nat} {Q : s_O → Prop} {h : s_H} {kc ks : Nat} {r0 : Term} {x1 x2 x3 : Int} {s0 : Term} {q2 : Nat} {f3 : List Term} {v5 : Term} (g4 : s_get h q2 = some (1, 11, f3)) (k : wr P d sw_c435 sw_h435 (59, [.index q2, vi x1, vi x2, vi x3], [v5, s0], h, kc, ks) Q) (e_q2 : r0 = .index q2 := by first | rfl | assumption) (y1 : s_ty r0 = 3 := by first | rfl | assumption) (n6 : s_nth f3 10 = some v5 := by first | rfl | assumption)  : wr P d sw_c435 sw_h435 (55, [r0, vi x1, vi x2, vi x3], [s0], h, kc, ks) Q := by
  refine w_ld rfl rfl (Or.inr (Or.inr ⟨by decide, y1⟩)) ?_
  subst e_q2
  refine w_getf rfl g4 n6 ?_
  exact k

theorem k435_59 {P : s_P} {d : Nat} {Q : s_O → Prop} {h : s_H} {kc ks : Nat} {r0 : Term} {x1 x2 x3 : Int} {s0 s1 : Term}  (k : wm P d 425 [s0, s1] h (wq P d sw_c435 sw_h435 62 [r0, vi x1, vi x2, vi x3] [] kc ks Q))   : wr P d sw_c435 sw_h435 (59, [r0, vi x1, vi x2, vi x3], [s1, s0], h, kc, ks) Q := by
  exact w_cs rfl [s0, s1] [] rfl rfl (s_wt_4 rfl) k

theorem k435_62 {P : s_P} {d : Nat} {Q : s_O → Prop} {h : s_H} {kc ks : Nat} {r0 : Term} {x1 x2 x3 : Int} {q2 : Nat} {f3 : List Term} {v5 : Term} (g4 : s_get h q2 = some (1, 11, f3)) (k : wm P d 405 [v5, vl 1] h (wq P d sw_c435 sw_h435 70 [.index q2, vi x1, vi x2, vi x3] [] kc ks Q)) (e_q2 : r0 = .index q2 := by first | rfl | assumption) (y1 : s_ty r0 = 3 := by first | rfl | assumption) (n6 : s_nth f3 15 = some v5 := by first | rfl | assumption)  : wr P d sw_c435 sw_h435 (62, [r0, vi x1, vi x2, vi x3], [], h, kc, ks) Q := by
  refine w_ld rfl rfl (Or.inr (Or.inr ⟨by decide, y1⟩)) ?_
  subst e_q2
  refine w_getf rfl g4 n6 ?_
  refine w_c64 rfl (by decide) 1 (by decide) ?_
  exact w_cs rfl [v5, vl 1] [] rfl rfl (s_wt_4 rfl) k

theorem k435_70 {P : s_P} {d : Nat} {Q : s_O → Prop} {h : s_H} {kc ks : Nat} {r0 : Term} {x1 x2 x3 : Int} {q2 : Nat} {f3 : List Term} (g4 : s_get h q2 = some (1, 11, f3)) (k : wm P d 495 [.index q2, vi 4] h (wq P d sw_c435 sw_h435 75 [.index q2, vi x1, vi x2, vi x3] [] kc ks Q)) (e_q2 : r0 = .index q2 := by first | rfl | assumption) (y1 : s_ty r0 = 3 := by first | rfl | assumption)  : wr P d sw_c435 sw_h435 (70, [r0, vi x1, vi x2, vi x3], [], h, kc, ks) Q := by
  refine w_ld rfl rfl (Or.inr (Or.inr ⟨by decide, y1⟩)) ?_
  refine w_c32 rfl (by decide) 4 (by decide) ?_
  subst e_q2
  exact w_cv rfl [.index q2, vi 4] [] rfl rfl (s_wt_4 rfl) rfl g4 k

theorem k435_75 {P : s_P} {d : Nat} {Q : s_O → Prop} {h : s_H} {kc ks : Nat} {r0 : Term} {x1 x2 x3 s0 : Int}  (k : Q (.inl (some (vi s0)), h, kc, ks))   : wr P d sw_c435 sw_h435 (75, [r0, vi x1, vi x2, vi x3], [vi s0], h, kc, ks) Q := by
  exact w_iret rfl k

/-! 436: FormulaWorksModel.divisorOf([JII)V -/
theorem k436_0 {P : s_P} {d : Nat} {Q : s_O → Prop} {h : s_H} {kc ks : Nat} {r0 r1 : Term} {x2 x3 : Int} {t4 t5 : Term}  (k : wm P d 438 [r1] h (wq P d sw_c436 sw_h436 4 [r0, r1, vi x2, vi x3, t4, t5] [] kc ks Q)) (y1 : s_ty r1 = 3 := by first | rfl | assumption)  : wr P d sw_c436 sw_h436 (0, [r0, r1, vi x2, vi x3, t4, t5], [], h, kc, ks) Q := by
  refine w_ld rfl rfl (Or.inr (Or.inr ⟨by decide, y1⟩)) ?_
  exact w_cs rfl [r1] [] rfl rfl (s_wt_4 rfl) k

theorem k436_4 {P : s_P} {d : Nat} {Q : s_O → Prop} {h : s_H} {kc ks : Nat} {r0 r1 : Term} {x2 x3 : Int} {t4 t5 : Term}  (k : wr P d sw_c436 sw_h436 (7, [r0, r1, vi x2, vi x3, vi 0, t5], [], h, kc, ks) Q)   : wr P d sw_c436 sw_h436 (4, [r0, r1, vi x2, vi x3, t4, t5], [], h, kc, ks) Q := by
  refine w_c32 rfl (by decide) 0 (by decide) ?_
  refine w_st (ls' := [r0, r1, vi x2, vi x3, vi 0, t5]) rfl (Or.inl ⟨by decide, rfl⟩) rfl ?_
  exact k

theorem k436_7 {P : s_P} {d : Nat} {Q : s_O → Prop} {h : s_H} {kc ks : Nat} {r0 r1 : Term} {x2 x3 x4 : Int} {t5 : Term} {q2 : Nat} {f3 : List Term} {v5 : Term} {q7 : Nat} {a8 : List Int} (g4 : s_get h q2 = some (1, 11, f3)) (g9 : s_get h q7 = some (0, 0, a8.map vi)) (k1 : zi 27 1 (gi a8 x2) ≤ x4 → wr P d sw_c436 sw_h436 (111, [.index q2, r1, vi x2, vi x3, vi x4, t5], [], h, kc, ks) Q) (k2 : ¬ zi 27 1 (gi a8 x2) ≤ x4 → wr P d sw_c436 sw_h436 (20, [.index q2, r1, vi x2, vi x3, vi x4, t5], [], h, kc, ks) Q) (e_q2 : r0 = .index q2 := by first | rfl | assumption) (e_q7 : v5 = .index q7 := by first | rfl | assumption) (y1 : s_ty r0 = 3 := by first | rfl | assumption) (n6 : s_nth f3 5 = some v5 := by first | rfl | assumption) (c10 : x2 < a8.length := by first | omega | assumption | (simp only [mk_len, List.length_map]; omega) | decide) (c11 : 0 ≤ x2 := by first | omega | assumption | (simp only [mk_len, List.length_map]; omega) | decide) (c12 : In3 x2 := by first | omega | assumption | (simp only [mk_len, List.length_map]; omega) | decide) (c13 : In3 x4 := by first | omega | assumption | (simp only [mk_len, List.length_map]; omega) | decide) (c14 : In3 (zi 27 1 (gi a8 x2)) := by first | omega | assumption | (simp only [mk_len, List.length_map]; omega) | decide) : wr P d sw_c436 sw_h436 (7, [r0, r1, vi x2, vi x3, vi x4, t5], [], h, kc, ks) Q := by
  refine w_ld rfl rfl (Or.inl ⟨by decide, rfl⟩) ?_
  refine w_c32 rfl (by decide) 1 (by decide) ?_
  refine w_ld rfl rfl (Or.inr (Or.inr ⟨by decide, y1⟩)) ?_
  subst e_q2
  refine w_getf rfl g4 n6 ?_
  refine w_ld rfl rfl (Or.inl ⟨by decide, rfl⟩) ?_
  subst e_q7
  refine w_iald rfl g9 (Or.inl rfl) c12 c11 c10 ?_
  refine w_ib rfl (by decide) ?_
  exact w_if2 rfl c13 c14 k1 k2

theorem k436_20 {P : s_P} {d : Nat} {Q : s_O → Prop} {h : s_H} {kc ks : Nat} {r0 r1 : Term} {x2 x3 x4 : Int} {t5 : Term}  (k : wr P d sw_c436 sw_h436 (23, [r0, r1, vi x2, vi x3, vi x4, vi 0], [], h, kc, ks) Q)   : wr P d sw_c436 sw_h436 (20, [r0, r1, vi x2, vi x3, vi x4, t5], [], h, kc, ks) Q := by
  refine w_c32 rfl (by decide) 0 (by decide) ?_
  refine w_st (ls' := [r0, r1, vi x2, vi x3, vi x4, vi 0]) rfl (Or.inl ⟨by decide, rfl⟩) rfl ?_
  exact k

theorem k436_23 {P : s_P} {d : Nat} {Q : s_O → Prop} {h : s_H} {kc ks : Nat} {r0 r1 : Term} {x2 x3 x4 x5 : Int} {q2 : Nat} {f3 : List Term} {v5 : Term} {q7 : Nat} {a8 : List Int} (g4 : s_get h q2 = some (1, 11, f3)) (g9 : s_get h q7 = some (0, 0, a8.map vi)) (k1 : zi 27 1 (gi a8 x2) ≤ x5 → wr P d sw_c436 sw_h436 (105, [.index q2, r1, vi x2, vi x3, vi x4, vi x5], [], h, kc, ks) Q) (k2 : ¬ zi 27 1 (gi a8 x2) ≤ x5 → wr P d sw_c436 sw_h436 (36, [.index q2, r1, vi x2, vi x3, vi x4, vi x5], [], h, kc, ks) Q) (e_q2 : r0 = .index q2 := by first | rfl | assumption) (e_q7 : v5 = .index q7 := by first | rfl | assumption) (y1 : s_ty r0 = 3 := by first | rfl | assumption) (n6 : s_nth f3 6 = some v5 := by first | rfl | assumption) (c10 : x2 < a8.length := by first | omega | assumption | (simp only [mk_len, List.length_map]; omega) | decide) (c11 : 0 ≤ x2 := by first | omega | assumption | (simp only [mk_len, List.length_map]; omega) | decide) (c12 : In3 x2 := by first | omega | assumption | (simp only [mk_len, List.length_map]; omega) | decide) (c13 : In3 x5 := by first | omega | assumption | (simp only [mk_len, List.length_map]; omega) | decide) (c14 : In3 (zi 27 1 (gi a8 x2)) := by first | omega | assumption | (simp only [mk_len, List.length_map]; omega) | decide) : wr P d sw_c436 sw_h436 (23, [r0, r1, vi x2, vi x3, vi x4, vi x5], [], h, kc, ks) Q := by
  refine w_ld rfl rfl (Or.inl ⟨by decide, rfl⟩) ?_
  refine w_c32 rfl (by decide) 1 (by decide) ?_
  refine w_ld rfl rfl (Or.inr (Or.inr ⟨by decide, y1⟩)) ?_
  subst e_q2
  refine w_getf rfl g4 n6 ?_
  refine w_ld rfl rfl (Or.inl ⟨by decide, rfl⟩) ?_
  subst e_q7
  refine w_iald rfl g9 (Or.inl rfl) c12 c11 c10 ?_
  refine w_ib rfl (by decide) ?_
  exact w_if2 rfl c13 c14 k1 k2

theorem k436_36 {P : s_P} {d : Nat} {Q : s_O → Prop} {h : s_H} {kc ks : Nat} {r0 r1 : Term} {x2 x3 x4 x5 : Int}  (k : wm P d 408 [vi x4] h (wq P d sw_c436 sw_h436 41 [r0, r1, vi x2, vi x3, vi x4, vi x5] [] kc ks Q))   : wr P d sw_c436 sw_h436 (36, [r0, r1, vi x2, vi x3, vi x4, vi x5], [], h, kc, ks) Q := by
  refine w_ld rfl rfl (Or.inl ⟨by decide, rfl⟩) ?_
  exact w_cs rfl [vi x4] [] rfl rfl (s_wt_4 rfl) k

theorem k436_41 {P : s_P} {d : Nat} {Q : s_O → Prop} {h : s_H} {kc ks : Nat} {r0 r1 : Term} {x2 x3 x4 x5 s0 : Int}  (k1 : s0 ≠ x3 → wr P d sw_c436 sw_h436 (99, [r0, r1, vi x2, vi x3, vi x4, vi x5], [], h, kc, ks) Q) (k2 : ¬ s0 ≠ x3 → wr P d sw_c436 sw_h436 (45, [r0, r1, vi x2, vi x3, vi x4, vi x5], [], h, kc, ks) Q)  (c1 : In3 s0 := by first | omega | assumption | (simp only [mk_len, List.length_map]; omega) | decide) (c2 : In3 x3 := by first | omega | assumption | (simp only [mk_len, List.length_map]; omega) | decide) : wr P d sw_c436 sw_h436 (41, [r0, r1, vi x2, vi x3, vi x4, vi x5], [vi s0], h, kc, ks) Q := by
  refine w_ld rfl rfl (Or.inl ⟨by decide, rfl⟩) ?_
  exact w_if2 rfl c1 c2 k1 k2

theorem k436_45 {P : s_P} {d : Nat} {Q : s_O → Prop} {h : s_H} {kc ks : Nat} {r0 r1 : Term} {x2 x3 x4 x5 : Int}  (k : wm P d 408 [vi x5] h (wq P d sw_c436 sw_h436 50 [r0, r1, vi x2, vi x3, vi x4, vi x5] [] kc ks Q))   : wr P d sw_c436 sw_h436 (45, [r0, r1, vi x2, vi x3, vi x4, vi x5], [], h, kc, ks) Q := by
  refine w_ld rfl rfl (Or.inl ⟨by decide, rfl⟩) ?_
  exact w_cs rfl [vi x5] [] rfl rfl (s_wt_4 rfl) k

theorem k436_50 {P : s_P} {d : Nat} {Q : s_O → Prop} {h : s_H} {kc ks : Nat} {r0 r1 : Term} {x2 x3 x4 x5 s0 : Int}  (k1 : s0 = x3 → wr P d sw_c436 sw_h436 (57, [r0, r1, vi x2, vi x3, vi x4, vi x5], [], h, kc, ks) Q) (k2 : ¬ s0 = x3 → wr P d sw_c436 sw_h436 (54, [r0, r1, vi x2, vi x3, vi x4, vi x5], [], h, kc, ks) Q)  (c1 : In3 s0 := by first | omega | assumption | (simp only [mk_len, List.length_map]; omega) | decide) (c2 : In3 x3 := by first | omega | assumption | (simp only [mk_len, List.length_map]; omega) | decide) : wr P d sw_c436 sw_h436 (50, [r0, r1, vi x2, vi x3, vi x4, vi x5], [vi s0], h, kc, ks) Q := by
  refine w_ld rfl rfl (Or.inl ⟨by decide, rfl⟩) ?_
  exact w_if2 rfl c1 c2 k1 k2

theorem k436_54 {P : s_P} {d : Nat} {Q : s_O → Prop} {h : s_H} {kc ks : Nat} {r0 r1 : Term} {x2 x3 x4 x5 : Int}  (k : wr P d sw_c436 sw_h436 (99, [r0, r1, vi x2, vi x3, vi x4, vi x5], [], h, kc, ks) Q)   : wr P d sw_c436 sw_h436 (54, [r0, r1, vi x2, vi x3, vi x4, vi x5], [], h, kc, ks) Q := by
  refine w_goto rfl ?_
  exact k

theorem k436_57 {P : s_P} {d : Nat} {Q : s_O → Prop} {h : s_H} {kc ks : Nat} {r0 r1 : Term} {x2 x3 x4 x5 : Int} {q2 : Nat} {f3 : List Term} {v5 : Term} (g4 : s_get h q2 = some (1, 11, f3)) (k : wm P d 510 [.index q2, v5, vi x4, vi x5] h (wq P d sw_c436 sw_h436 69 [.index q2, r1, vi x2, vi x3, vi x4, vi x5] [] kc ks Q)) (e_q2 : r0 = .index q2 := by first | rfl | assumption) (y1 : s_ty r0 = 3 := by first | rfl | assumption) (n6 : s_nth f3 21 = some v5 := by first | rfl | assumption)  : wr P d sw_c436 sw_h436 (57, [r0, r1, vi x2, vi x3, vi x4, vi x5], [], h, kc, ks) Q := by
  refine w_ld rfl rfl (Or.inr (Or.inr ⟨by decide, y1⟩)) ?_
  refine w_ld rfl rfl (Or.inr (Or.inr ⟨by decide, y1⟩)) ?_
  subst e_q2
  refine w_getf rfl g4 n6 ?_
  refine w_ld rfl rfl (Or.inl ⟨by decide, rfl⟩) ?_
  refine w_ld rfl rfl (Or.inl ⟨by decide, rfl⟩) ?_
  exact w_cv rfl [.index q2, v5, vi x4, vi x5] [] rfl rfl (s_wt_4 rfl) rfl g4 k

theorem k436_69 {P : s_P} {d : Nat} {Q : s_O → Prop} {h : s_H} {kc ks : Nat} {r0 r1 : Term} {x2 x3 x4 x5 : Int} {q2 : Nat} {f3 : List Term} {v5 : Term} (g4 : s_get h q2 = some (1, 11, f3)) (k : wm P d 463 [v5] h (wq P d sw_c436 sw_h436 76 [.index q2, r1, vi x2, vi x3, vi x4, vi x5] [] kc ks Q)) (e_q2 : r0 = .index q2 := by first | rfl | assumption) (y1 : s_ty r0 = 3 := by first | rfl | assumption) (n6 : s_nth f3 21 = some v5 := by first | rfl | assumption)  : wr P d sw_c436 sw_h436 (69, [r0, r1, vi x2, vi x3, vi x4, vi x5], [], h, kc, ks) Q := by
  refine w_ld rfl rfl (Or.inr (Or.inr ⟨by decide, y1⟩)) ?_
  subst e_q2
  refine w_getf rfl g4 n6 ?_
  exact w_cs rfl [v5] [] rfl rfl (s_wt_4 rfl) k

theorem k436_76 {P : s_P} {d : Nat} {Q : s_O → Prop} {h : s_H} {kc ks : Nat} {r0 r1 : Term} {x2 x3 x4 x5 s0 : Int}  (k1 : 0 ≤ s0 → wr P d sw_c436 sw_h436 (82, [r0, r1, vi x2, vi x3, vi x4, vi x5], [], h, kc, ks) Q) (k2 : ¬ 0 ≤ s0 → wr P d sw_c436 sw_h436 (79, [r0, r1, vi x2, vi x3, vi x4, vi x5], [], h, kc, ks) Q)  (c1 : In3 s0 := by first | omega | assumption | (simp only [mk_len, List.length_map]; omega) | decide) : wr P d sw_c436 sw_h436 (76, [r0, r1, vi x2, vi x3, vi x4, vi x5], [vi s0], h, kc, ks) Q := by
  exact w_if1 rfl c1 k1 k2

theorem k436_79 {P : s_P} {d : Nat} {Q : s_O → Prop} {h : s_H} {kc ks : Nat} {r0 r1 : Term} {x2 x3 x4 x5 : Int}  (k : wr P d sw_c436 sw_h436 (99, [r0, r1, vi x2, vi x3, vi x4, vi x5], [], h, kc, ks) Q)   : wr P d sw_c436 sw_h436 (79, [r0, r1, vi x2, vi x3, vi x4, vi x5], [], h, kc, ks) Q := by
  refine w_goto rfl ?_
  exact k

theorem k436_82 {P : s_P} {d : Nat} {Q : s_O → Prop} {h : s_H} {kc ks : Nat} {r0 r1 : Term} {x2 x3 x4 x5 : Int} {q2 : Nat} {f3 : List Term} {v5 : Term} (g4 : s_get h q2 = some (1, 11, f3)) (k : wm P d 423 [.index q2, v5, r1] h (wq P d sw_c436 sw_h436 91 [.index q2, r1, vi x2, vi x3, vi x4, vi x5] [] kc ks Q)) (e_q2 : r0 = .index q2 := by first | rfl | assumption) (y1 : s_ty r0 = 3 := by first | rfl | assumption) (n6 : s_nth f3 21 = some v5 := by first | rfl | assumption) (y7 : s_ty r1 = 3 := by first | rfl | assumption)  : wr P d sw_c436 sw_h436 (82, [r0, r1, vi x2, vi x3, vi x4, vi x5], [], h, kc, ks) Q := by
  refine w_ld rfl rfl (Or.inr (Or.inr ⟨by decide, y1⟩)) ?_
  refine w_ld rfl rfl (Or.inr (Or.inr ⟨by decide, y1⟩)) ?_
  subst e_q2
  refine w_getf rfl g4 n6 ?_
  refine w_ld rfl rfl (Or.inr (Or.inr ⟨by decide, y7⟩)) ?_
  exact w_cv rfl [.index q2, v5, r1] [] rfl rfl (s_wt_4 rfl) rfl g4 k

theorem k436_91 {P : s_P} {d : Nat} {Q : s_O → Prop} {h : s_H} {kc ks : Nat} {r0 r1 : Term} {x2 x3 x4 x5 : Int} {q3 : Nat} {f4 : List Term} {v6 : Term} (g5 : s_get h q3 = some (1, 11, f4)) (k : wm P d 425 [r1, v6] h (wq P d sw_c436 sw_h436 99 [.index q3, r1, vi x2, vi x3, vi x4, vi x5] [] kc ks Q)) (e_q3 : r0 = .index q3 := by first | rfl | assumption) (y1 : s_ty r1 = 3 := by first | rfl | assumption) (y2 : s_ty r0 = 3 := by first | rfl | assumption) (n7 : s_nth f4 18 = some v6 := by first | rfl | assumption)  : wr P d sw_c436 sw_h436 (91, [r0, r1, vi x2, vi x3, vi x4, vi x5], [], h, kc, ks) Q := by
  refine w_ld rfl rfl (Or.inr (Or.inr ⟨by decide, y1⟩)) ?_
  refine w_ld rfl rfl (Or.inr (Or.inr ⟨by decide, y2⟩)) ?_
  subst e_q3
  refine w_getf rfl g5 n7 ?_
  exact w_cs rfl [r1, v6] [] rfl rfl (s_wt_4 rfl) k

theorem k436_99 {P : s_P} {d : Nat} {Q : s_O → Prop} {h : s_H} {kc ks : Nat} {r0 r1 : Term} {x2 x3 x4 x5 : Int}  (k : wr P d sw_c436 sw_h436 (23, [r0, r1, vi x2, vi x3, vi x4, vi (x5 + 1)], [], h, kc, ks) Q)   : wr P d sw_c436 sw_h436 (99, [r0, r1, vi x2, vi x3, vi x4, vi x5], [], h, kc, ks) Q := by
  refine w_iinc (ls' := [r0, r1, vi x2, vi x3, vi x4, vi (x5 + 1)]) rfl rfl 1 (by decide) rfl ?_
  refine w_goto rfl ?_
  exact k

theorem k436_105 {P : s_P} {d : Nat} {Q : s_O → Prop} {h : s_H} {kc ks : Nat} {r0 r1 : Term} {x2 x3 x4 x5 : Int}  (k : wr P d sw_c436 sw_h436 (7, [r0, r1, vi x2, vi x3, vi (x4 + 1), vi x5], [], h, kc, ks) Q)   : wr P d sw_c436 sw_h436 (105, [r0, r1, vi x2, vi x3, vi x4, vi x5], [], h, kc, ks) Q := by
  refine w_iinc (ls' := [r0, r1, vi x2, vi x3, vi (x4 + 1), vi x5]) rfl rfl 1 (by decide) rfl ?_
  refine w_goto rfl ?_
  exact k

theorem k436_111 {P : s_P} {d : Nat} {Q : s_O → Prop} {h : s_H} {kc ks : Nat} {r0 r1 : Term} {x2 x3 x4 : Int} {t5 : Term}  (k : Q (.inl none, h, kc, ks))   : wr P d sw_c436 sw_h436 (111, [r0, r1, vi x2, vi x3, vi x4, t5], [], h, kc, ks) Q := by
  exact w_ret rfl k

/-! 437: FormulaWorksModel.emit(II)V -/
theorem k437_0 {P : s_P} {d : Nat} {Q : s_O → Prop} {h : s_H} {kc ks : Nat} {r0 : Term} {x1 x2 : Int} {q2 : Nat} {f3 : List Term} {v5 : Term} {z7 : Int} {q9 : Nat} {a10 : List Int} {f16 : List Term} {v18 : Term} {z20 : Int} {q22 : Nat} {a23 : List Int} {f29 : List Term} {z31 : Int} (g4 : s_get h q2 = some (1, 11, f3)) (g11 : s_get h q9 = some (0, 0, a10.map vi)) (g17 : s_get (hp h q9 (0, 0, (a10.set (Int.toNat (z7)) x1).map vi)) q2 = some (1, 11, f16)) (g24 : s_get (hp h q9 (0, 0, (a10.set (Int.toNat (z7)) x1).map vi)) q22 = some (0, 0, a23.map vi)) (g30 : s_get (hp (hp h q9 (0, 0, (a10.set (Int.toNat (z7)) x1).map vi)) q22 (0, 0, (a23.set (Int.toNat (z20)) x2).map vi)) q2 = some (1, 11, f29)) (k : Q (.inl none, (hp (hp (hp h q9 (0, 0, (a10.set (Int.toNat (z7)) x1).map vi)) q22 (0, 0, (a23.set (Int.toNat (z20)) x2).map vi)) q2 (1, 11, f29.set 88 (vi (z31 + 1)))), kc, ks)) (e_q2 : r0 = .index q2 := by first | rfl | assumption) (e_q9 : v5 = .index q9 := by first | rfl | assumption) (e_q22 : v18 = .index q22 := by first | rfl | assumption) (y1 : s_ty r0 = 3 := by first | rfl | assumption) (n6 : s_nth f3 89 = some v5 := by first | rfl | assumption) (n8 : s_nth f3 88 = some (vi z7) := by first | rfl | assumption) (n19 : s_nth f16 90 = some v18 := by first | rfl | assumption) (n21 : s_nth f16 88 = some (vi z20) := by first | rfl | assumption) (n32 : s_nth f29 88 = some (vi z31) := by first | rfl | assumption) (l33 : 88 < f29.length := by first | exact Nat.le_of_ble_eq_true rfl | omega | assumption) (c12 : z7 < a10.length := by first | omega | assumption | (simp only [mk_len, List.length_map]; omega) | decide) (c13 : 0 ≤ z7 := by first | omega | assumption | (simp only [mk_len, List.length_map]; omega) | decide) (c14 : In3 z7 := by first | omega | assumption | (simp only [mk_len, List.length_map]; omega) | decide) (c15 : 0 < q9 := by first | omega | assumption | (simp only [mk_len, List.length_map]; omega) | decide) (c25 : z20 < a23.length := by first | omega | assumption | (simp only [mk_len, List.length_map]; omega) | decide) (c26 : 0 ≤ z20 := by first | omega | assumption | (simp only [mk_len, List.length_map]; omega) | decide) (c27 : In3 z20 := by first | omega | assumption | (simp only [mk_len, List.length_map]; omega) | decide) (c28 : 0 < q22 := by first | omega | assumption | (simp only [mk_len, List.length_map]; omega) | decide) (c34 : 0 < q2 := by first | omega | assumption | (simp only [mk_len, List.length_map]; omega) | decide) : wr P d sw_c437 sw_h437 (0, [r0, vi x1, vi x2], [], h, kc, ks) Q := by
  refine w_ld rfl rfl (Or.inr (Or.inr ⟨by decide, y1⟩)) ?_
  subst e_q2
  refine w_getf rfl g4 n6 ?_
  refine w_ld rfl rfl (Or.inr (Or.inr ⟨by decide, rfl⟩)) ?_
  refine w_getf rfl g4 n8 ?_
  refine w_ld rfl rfl (Or.inl ⟨by decide, rfl⟩) ?_
  subst e_q9
  refine w_iast rfl g11 (Nat.ble_eq_true_of_le c15) c14 c13 c12 ?_
  refine w_ld rfl rfl (Or.inr (Or.inr ⟨by decide, rfl⟩)) ?_
  refine w_getf rfl g17 n19 ?_
  refine w_ld rfl rfl (Or.inr (Or.inr ⟨by decide, rfl⟩)) ?_
  refine w_getf rfl g17 n21 ?_
  refine w_ld rfl rfl (Or.inl ⟨by decide, rfl⟩) ?_
  subst e_q22
  refine w_iast rfl g24 (Nat.ble_eq_true_of_le c28) c27 c26 c25 ?_
  refine w_ld rfl rfl (Or.inr (Or.inr ⟨by decide, rfl⟩)) ?_
  refine w_dup rfl rfl ?_
  refine w_getf rfl g30 n32 ?_
  refine w_c32 rfl (by decide) 1 (by decide) ?_
  refine w_iadd rfl ?_
  refine w_putf rfl g30 (Nat.ble_eq_true_of_le c34) rfl (Nat.ble_eq_true_of_le l33) ?_
  exact w_ret rfl k

/-! 438: FormulaWorksModel.empty([J)V -/
theorem k438_0 {P : s_P} {d : Nat} {Q : s_O → Prop} {h : s_H} {kc ks : Nat} {r0 t1 : Term}  (k : wr P d sw_c438 sw_h438 (2, [r0, vi 0], [], h, kc, ks) Q) (y1 : s_ty r0 = 3 := by first | rfl | assumption)  : wr P d sw_c438 sw_h438 (0, [r0, t1], [], h, kc, ks) Q := by
  refine w_c32 rfl (by decide) 0 (by decide) ?_
  refine w_st (ls' := [r0, vi 0]) rfl (Or.inl ⟨by decide, rfl⟩) (s_stK_r (pre := []) y1) ?_
  exact k

theorem k438_2 {P : s_P} {d : Nat} {Q : s_O → Prop} {h : s_H} {kc ks : Nat} {r0 : Term} {x1 : Int}  (k1 : 176 ≤ x1 → wr P d sw_c438 sw_h438 (19, [r0, vi x1], [], h, kc, ks) Q) (k2 : ¬ 176 ≤ x1 → wr P d sw_c438 sw_h438 (9, [r0, vi x1], [], h, kc, ks) Q)  (c1 : In3 x1 := by first | omega | assumption | (simp only [mk_len, List.length_map]; omega) | decide) : wr P d sw_c438 sw_h438 (2, [r0, vi x1], [], h, kc, ks) Q := by
  refine w_ld rfl rfl (Or.inl ⟨by decide, rfl⟩) ?_
  refine w_c32 rfl (by decide) 176 (by decide) ?_
  exact w_if2 rfl c1 (by decide) k1 k2

theorem k438_9 {P : s_P} {d : Nat} {Q : s_O → Prop} {h : s_H} {kc ks : Nat} {r0 : Term} {x1 : Int} {q2 : Nat} {a3 : List Int} (g4 : s_get h q2 = some (0, 1, a3.map vl)) (k : wr P d sw_c438 sw_h438 (2, [.index q2, vi (x1 + 1)], [], (hp h q2 (0, 1, (a3.set (Int.toNat (x1)) 0).map vl)), kc, ks) Q) (e_q2 : r0 = .index q2 := by first | rfl | assumption) (y1 : s_ty r0 = 3 := by first | rfl | assumption) (c5 : x1 < a3.length := by first | omega | assumption | (simp only [mk_len, List.length_map]; omega) | decide) (c6 : 0 ≤ x1 := by first | omega | assumption | (simp only [mk_len, List.length_map]; omega) | decide) (c7 : In3 x1 := by first | omega | assumption | (simp only [mk_len, List.length_map]; omega) | decide) (c8 : 0 < q2 := by first | omega | assumption | (simp only [mk_len, List.length_map]; omega) | decide) : wr P d sw_c438 sw_h438 (9, [r0, vi x1], [], h, kc, ks) Q := by
  refine w_ld rfl rfl (Or.inr (Or.inr ⟨by decide, y1⟩)) ?_
  refine w_ld rfl rfl (Or.inl ⟨by decide, rfl⟩) ?_
  refine w_c64 rfl (by decide) 0 (by decide) ?_
  subst e_q2
  refine w_last rfl g4 (Nat.ble_eq_true_of_le c8) c7 c6 c5 ?_
  refine w_iinc (ls' := [.index q2, vi (x1 + 1)]) rfl rfl 1 (by decide) rfl ?_
  refine w_goto rfl ?_
  exact k

theorem k438_19 {P : s_P} {d : Nat} {Q : s_O → Prop} {h : s_H} {kc ks : Nat} {r0 : Term} {x1 : Int}  (k : Q (.inl none, h, kc, ks))   : wr P d sw_c438 sw_h438 (19, [r0, vi x1], [], h, kc, ks) Q := by
  exact w_ret rfl k

/-! 439: FormulaWorksModel.emptyTable()V -/
theorem k439_0 {P : s_P} {d : Nat} {Q : s_O → Prop} {h : s_H} {kc ks : Nat} {r0 t1 : Term}  (k : wr P d sw_c439 sw_h439 (2, [r0, vi 0], [], h, kc, ks) Q) (y1 : s_ty r0 = 3 := by first | rfl | assumption)  : wr P d sw_c439 sw_h439 (0, [r0, t1], [], h, kc, ks) Q := by
  refine w_c32 rfl (by decide) 0 (by decide) ?_
  refine w_st (ls' := [r0, vi 0]) rfl (Or.inl ⟨by decide, rfl⟩) (s_stK_r (pre := []) y1) ?_
  exact k

theorem k439_2 {P : s_P} {d : Nat} {Q : s_O → Prop} {h : s_H} {kc ks : Nat} {r0 : Term} {x1 : Int}  (k1 : 2048 ≤ x1 → wr P d sw_c439 sw_h439 (22, [r0, vi x1], [], h, kc, ks) Q) (k2 : ¬ 2048 ≤ x1 → wr P d sw_c439 sw_h439 (9, [r0, vi x1], [], h, kc, ks) Q)  (c1 : In3 x1 := by first | omega | assumption | (simp only [mk_len, List.length_map]; omega) | decide) : wr P d sw_c439 sw_h439 (2, [r0, vi x1], [], h, kc, ks) Q := by
  refine w_ld rfl rfl (Or.inl ⟨by decide, rfl⟩) ?_
  refine w_c32 rfl (by decide) 2048 (by decide) ?_
  exact w_if2 rfl c1 (by decide) k1 k2

theorem k439_9 {P : s_P} {d : Nat} {Q : s_O → Prop} {h : s_H} {kc ks : Nat} {r0 : Term} {x1 : Int} {q2 : Nat} {f3 : List Term} {v5 : Term} {q7 : Nat} {a8 : List Int} (g4 : s_get h q2 = some (1, 11, f3)) (g9 : s_get h q7 = some (0, 1, a8.map vl)) (k : wr P d sw_c439 sw_h439 (2, [.index q2, vi (x1 + 1)], [], (hp h q7 (0, 1, (a8.set (Int.toNat (x1)) 0).map vl)), kc, ks) Q) (e_q2 : r0 = .index q2 := by first | rfl | assumption) (e_q7 : v5 = .index q7 := by first | rfl | assumption) (y1 : s_ty r0 = 3 := by first | rfl | assumption) (n6 : s_nth f3 30 = some v5 := by first | rfl | assumption) (c10 : x1 < a8.length := by first | omega | assumption | (simp only [mk_len, List.length_map]; omega) | decide) (c11 : 0 ≤ x1 := by first | omega | assumption | (simp only [mk_len, List.length_map]; omega) | decide) (c12 : In3 x1 := by first | omega | assumption | (simp only [mk_len, List.length_map]; omega) | decide) (c13 : 0 < q7 := by first | omega | assumption | (simp only [mk_len, List.length_map]; omega) | decide) : wr P d sw_c439 sw_h439 (9, [r0, vi x1], [], h, kc, ks) Q := by
  refine w_ld rfl rfl (Or.inr (Or.inr ⟨by decide, y1⟩)) ?_
  subst e_q2
  refine w_getf rfl g4 n6 ?_
  refine w_ld rfl rfl (Or.inl ⟨by decide, rfl⟩) ?_
  refine w_c64 rfl (by decide) 0 (by decide) ?_
  subst e_q7
  refine w_last rfl g9 (Nat.ble_eq_true_of_le c13) c12 c11 c10 ?_
  refine w_iinc (ls' := [.index q2, vi (x1 + 1)]) rfl rfl 1 (by decide) rfl ?_
  refine w_goto rfl ?_
  exact k

theorem k439_22 {P : s_P} {d : Nat} {Q : s_O → Prop} {h : s_H} {kc ks : Nat} {r0 : Term} {x1 : Int}  (k : Q (.inl none, h, kc, ks))   : wr P d sw_c439 sw_h439 (22, [r0, vi x1], [], h, kc, ks) Q := by
  exact w_ret rfl k

/-! 440: FormulaWorksModel.enter(I)I -/
theorem k440_0 {P : s_P} {d : Nat} {Q : s_O → Prop} {h : s_H} {kc ks : Nat} {r0 : Term} {x1 : Int} {t2 : Term}  (k : wm P d 464 [vl x1, vl 0, vl 15] h (wq P d sw_c440 sw_h440 10 [r0, vi x1, t2] [r0] kc ks Q)) (y1 : s_ty r0 = 3 := by first | rfl | assumption) (c2 : In3 x1 := by first | omega | assumption | (simp only [mk_len, List.length_map]; omega) | decide) : wr P d sw_c440 sw_h440 (0, [r0, vi x1, t2], [], h, kc, ks) Q := by
  refine w_ld rfl rfl (Or.inr (Or.inr ⟨by decide, y1⟩)) ?_
  refine w_ld rfl rfl (Or.inl ⟨by decide, rfl⟩) ?_
  refine w_i2l rfl c2 ?_
  refine w_c64 rfl (by decide) 0 (by decide) ?_
  refine w_c64 rfl (by decide) 15 (by decide) ?_
  exact w_cs rfl [vl x1, vl 0, vl 15] [r0] rfl rfl (s_wt_4 rfl) k

theorem k440_10 {P : s_P} {d : Nat} {Q : s_O → Prop} {h : s_H} {kc ks : Nat} {r0 : Term} {x1 : Int} {t2 s0 : Term} {s1 : Int}  (k1 : s1 ≠ 0 → wr P d sw_c440 sw_h440 (17, [r0, vi x1, t2], [s0], h, kc, ks) Q) (k2 : ¬ s1 ≠ 0 → wr P d sw_c440 sw_h440 (13, [r0, vi x1, t2], [s0], h, kc, ks) Q)  (c1 : In3 s1 := by first | omega | assumption | (simp only [mk_len, List.length_map]; omega) | decide) : wr P d sw_c440 sw_h440 (10, [r0, vi x1, t2], [vi s1, s0], h, kc, ks) Q := by
  exact w_if1 rfl c1 k1 k2

theorem k440_13 {P : s_P} {d : Nat} {Q : s_O → Prop} {h : s_H} {kc ks : Nat} {r0 : Term} {x1 : Int} {t2 s0 : Term}  (k : wr P d sw_c440 sw_h440 (31, [r0, vi x1, t2], [vi 1, s0], h, kc, ks) Q)   : wr P d sw_c440 sw_h440 (13, [r0, vi x1, t2], [s0], h, kc, ks) Q := by
  refine w_c32 rfl (by decide) 1 (by decide) ?_
  refine w_goto rfl ?_
  exact k

theorem k440_17 {P : s_P} {d : Nat} {Q : s_O → Prop} {h : s_H} {kc ks : Nat} {r0 : Term} {x1 : Int} {t2 s0 : Term} {q2 : Nat} {f3 : List Term} {z5 : Int} (g4 : s_get h q2 = some (1, 11, f3)) (k1 : z5 ≤ 60 → wr P d sw_c440 sw_h440 (30, [.index q2, vi x1, t2], [s0], h, kc, ks) Q) (k2 : ¬ z5 ≤ 60 → wr P d sw_c440 sw_h440 (26, [.index q2, vi x1, t2], [s0], h, kc, ks) Q) (e_q2 : r0 = .index q2 := by first | rfl | assumption) (y1 : s_ty r0 = 3 := by first | rfl | assumption) (n6 : s_nth f3 50 = some (vi z5) := by first | rfl | assumption) (c7 : In3 z5 := by first | omega | assumption | (simp only [mk_len, List.length_map]; omega) | decide) : wr P d sw_c440 sw_h440 (17, [r0, vi x1, t2], [s0], h, kc, ks) Q := by
  refine w_ld rfl rfl (Or.inr (Or.inr ⟨by decide, y1⟩)) ?_
  subst e_q2
  refine w_getf rfl g4 n6 ?_
  refine w_c32 rfl (by decide) 60 (by decide) ?_
  exact w_if2 rfl c7 (by decide) k1 k2

theorem k440_26 {P : s_P} {d : Nat} {Q : s_O → Prop} {h : s_H} {kc ks : Nat} {r0 : Term} {x1 : Int} {t2 s0 : Term}  (k : wr P d sw_c440 sw_h440 (31, [r0, vi x1, t2], [vi 2, s0], h, kc, ks) Q)   : wr P d sw_c440 sw_h440 (26, [r0, vi x1, t2], [s0], h, kc, ks) Q := by
  refine w_c32 rfl (by decide) 2 (by decide) ?_
  refine w_goto rfl ?_
  exact k

theorem k440_30 {P : s_P} {d : Nat} {Q : s_O → Prop} {h : s_H} {kc ks : Nat} {r0 : Term} {x1 : Int} {t2 s0 : Term}  (k : wr P d sw_c440 sw_h440 (31, [r0, vi x1, t2], [vi 0, s0], h, kc, ks) Q)   : wr P d sw_c440 sw_h440 (30, [r0, vi x1, t2], [s0], h, kc, ks) Q := by
  refine w_c32 rfl (by decide) 0 (by decide) ?_
  exact k

theorem k440_31 {P : s_P} {d : Nat} {Q : s_O → Prop} {h : s_H} {kc ks : Nat} {r0 : Term} {x1 : Int} {t2 s0 : Term} {s1 : Int} {q1 : Nat} {f2 : List Term} {q7 : Nat} {f8 : List Term} {z10 : Int} (g3 : s_get h q1 = some (1, 11, f2)) (g9 : s_get (hp h q1 (1, 11, f2.set 0 (vi s1))) q7 = some (1, 11, f8)) (k1 : z10 ≤ 0 → wr P d sw_c440 sw_h440 (43, [.index q7, vi x1, t2], [], (hp h q1 (1, 11, f2.set 0 (vi s1))), kc, ks) Q) (k2 : ¬ z10 ≤ 0 → wr P d sw_c440 sw_h440 (41, [.index q7, vi x1, t2], [], (hp h q1 (1, 11, f2.set 0 (vi s1))), kc, ks) Q) (e_q1 : s0 = .index q1 := by first | rfl | assumption) (e_q7 : r0 = .index q7 := by first | rfl | assumption) (l4 : 0 < f2.length := by first | exact Nat.le_of_ble_eq_true rfl | omega | assumption) (y6 : s_ty r0 = 3 := by first | rfl | assumption) (n11 : s_nth f8 0 = some (vi z10) := by first | rfl | assumption) (c5 : 0 < q1 := by first | omega | assumption | (simp only [mk_len, List.length_map]; omega) | decide) (c12 : In3 z10 := by first | omega | assumption | (simp only [mk_len, List.length_map]; omega) | decide) : wr P d sw_c440 sw_h440 (31, [r0, vi x1, t2], [vi s1, s0], h, kc, ks) Q := by
  subst e_q1
  refine w_putf rfl g3 (Nat.ble_eq_true_of_le c5) rfl (Nat.ble_eq_true_of_le l4) ?_
  refine w_ld rfl rfl (Or.inr (Or.inr ⟨by decide, y6⟩)) ?_
  subst e_q7
  refine w_getf rfl g9 n11 ?_
  exact w_if1 rfl c12 k1 k2

theorem k440_41 {P : s_P} {d : Nat} {Q : s_O → Prop} {h : s_H} {kc ks : Nat} {r0 : Term} {x1 : Int} {t2 : Term}  (k : Q (.inl (some (vi 0)), h, kc, ks))   : wr P d sw_c440 sw_h440 (41, [r0, vi x1, t2], [], h, kc, ks) Q := by
  refine w_c32 rfl (by decide) 0 (by decide) ?_
  exact w_iret rfl k

theorem k440_43 {P : s_P} {d : Nat} {Q : s_O → Prop} {h : s_H} {kc ks : Nat} {r0 : Term} {x1 : Int} {t2 : Term} {q2 : Nat} {f3 : List Term} {v5 : Term} {z7 : Int} {q9 : Nat} {a10 : List Int} (g4 : s_get h q2 = some (1, 11, f3)) (g11 : s_get h q9 = some (0, 0, a10.map vi)) (k : wr P d sw_c440 sw_h440 (55, [.index q2, vi x1, vi 0], [], (hp h q9 (0, 0, (a10.set (Int.toNat (x1)) z7).map vi)), kc, ks) Q) (e_q2 : r0 = .index q2 := by first | rfl | assumption) (e_q9 : v5 = .index q9 := by first | rfl | assumption) (y1 : s_ty r0 = 3 := by first | rfl | assumption) (n6 : s_nth f3 101 = some v5 := by first | rfl | assumption) (n8 : s_nth f3 50 = some (vi z7) := by first | rfl | assumption) (c12 : x1 < a10.length := by first | omega | assumption | (simp only [mk_len, List.length_map]; omega) | decide) (c13 : 0 ≤ x1 := by first | omega | assumption | (simp only [mk_len, List.length_map]; omega) | decide) (c14 : In3 x1 := by first | omega | assumption | (simp only [mk_len, List.length_map]; omega) | decide) (c15 : 0 < q9 := by first | omega | assumption | (simp only [mk_len, List.length_map]; omega) | decide) : wr P d sw_c440 sw_h440 (43, [r0, vi x1, t2], [], h, kc, ks) Q := by
  refine w_ld rfl rfl (Or.inr (Or.inr ⟨by decide, y1⟩)) ?_
  subst e_q2
  refine w_getf rfl g4 n6 ?_
  refine w_ld rfl rfl (Or.inl ⟨by decide, rfl⟩) ?_
  refine w_ld rfl rfl (Or.inr (Or.inr ⟨by decide, rfl⟩)) ?_
  refine w_getf rfl g4 n8 ?_
  subst e_q9
  refine w_iast rfl g11 (Nat.ble_eq_true_of_le c15) c14 c13 c12 ?_
  refine w_c32 rfl (by decide) 0 (by decide) ?_
  refine w_st (ls' := [.index q2, vi x1, vi 0]) rfl (Or.inl ⟨by decide, rfl⟩) rfl ?_
  exact k

theorem k440_55 {P : s_P} {d : Nat} {Q : s_O → Prop} {h : s_H} {kc ks : Nat} {r0 : Term} {x1 x2 : Int} {q2 : Nat} {f3 : List Term} {z5 : Int} (g4 : s_get h q2 = some (1, 11, f3)) (k1 : z5 ≤ x2 → wr P d sw_c440 sw_h440 (86, [.index q2, vi x1, vi x2], [], h, kc, ks) Q) (k2 : ¬ z5 ≤ x2 → wr P d sw_c440 sw_h440 (63, [.index q2, vi x1, vi x2], [], h, kc, ks) Q) (e_q2 : r0 = .index q2 := by first | rfl | assumption) (y1 : s_ty r0 = 3 := by first | rfl | assumption) (n6 : s_nth f3 50 = some (vi z5) := by first | rfl | assumption) (c7 : In3 x2 := by first | omega | assumption | (simp only [mk_len, List.length_map]; omega) | decide) (c8 : In3 z5 := by first | omega | assumption | (simp only [mk_len, List.length_map]; omega) | decide) : wr P d sw_c440 sw_h440 (55, [r0, vi x1, vi x2], [], h, kc, ks) Q := by
  refine w_ld rfl rfl (Or.inl ⟨by decide, rfl⟩) ?_
  refine w_ld rfl rfl (Or.inr (Or.inr ⟨by decide, y1⟩)) ?_
  subst e_q2
  refine w_getf rfl g4 n6 ?_
  exact w_if2 rfl c7 c8 k1 k2

theorem k440_63 {P : s_P} {d : Nat} {Q : s_O → Prop} {h : s_H} {kc ks : Nat} {r0 : Term} {x1 x2 : Int} {q2 : Nat} {f3 : List Term} {v5 v7 : Term} {q9 : Nat} {a10 : List Int} {q15 : Nat} {a16 : List Int} (g4 : s_get h q2 = some (1, 11, f3)) (g11 : s_get h q9 = some (0, 0, a10.map vi)) (g17 : s_get h q15 = some (0, 0, a16.map vi)) (k : wr P d sw_c440 sw_h440 (55, [.index q2, vi x1, vi (x2 + 1)], [], (hp h q15 (0, 0, (a16.set (Int.toNat ((60 * x1) + x2)) (gi a10 x2)).map vi)), kc, ks) Q) (e_q2 : r0 = .index q2 := by first | rfl | assumption) (e_q9 : v7 = .index q9 := by first | rfl | assumption) (e_q15 : v5 = .index q15 := by first | rfl | assumption) (y1 : s_ty r0 = 3 := by first | rfl | assumption) (n6 : s_nth f3 102 = some v5 := by first | rfl | assumption) (n8 : s_nth f3 51 = some v7 := by first | rfl | assumption) (c12 : x2 < a10.length := by first | omega | assumption | (simp only [mk_len, List.length_map]; omega) | decide) (c13 : 0 ≤ x2 := by first | omega | assumption | (simp only [mk_len, List.length_map]; omega) | decide) (c14 : In3 x2 := by first | omega | assumption | (simp only [mk_len, List.length_map]; omega) | decide) (c18 : (60 * x1) + x2 < a16.length := by first | omega | assumption | (simp only [mk_len, List.length_map]; omega) | decide) (c19 : 0 ≤ (60 * x1) + x2 := by first | omega | assumption | (simp only [mk_len, List.length_map]; omega) | decide) (c20 : In3 ((60 * x1) + x2) := by first | omega | assumption | (simp only [mk_len, List.length_map]; omega) | decide) (c21 : 0 < q15 := by first | omega | assumption | (simp only [mk_len, List.length_map]; omega) | decide) : wr P d sw_c440 sw_h440 (63, [r0, vi x1, vi x2], [], h, kc, ks) Q := by
  refine w_ld rfl rfl (Or.inr (Or.inr ⟨by decide, y1⟩)) ?_
  subst e_q2
  refine w_getf rfl g4 n6 ?_
  refine w_c32 rfl (by decide) 60 (by decide) ?_
  refine w_ld rfl rfl (Or.inl ⟨by decide, rfl⟩) ?_
  refine w_imul rfl ?_
  refine w_ld rfl rfl (Or.inl ⟨by decide, rfl⟩) ?_
  refine w_iadd rfl ?_
  refine w_ld rfl rfl (Or.inr (Or.inr ⟨by decide, rfl⟩)) ?_
  refine w_getf rfl g4 n8 ?_
  refine w_ld rfl rfl (Or.inl ⟨by decide, rfl⟩) ?_
  subst e_q9
  refine w_iald rfl g11 (Or.inl rfl) c14 c13 c12 ?_
  subst e_q15
  refine w_iast rfl g17 (Nat.ble_eq_true_of_le c21) c20 c19 c18 ?_
  refine w_iinc (ls' := [.index q2, vi x1, vi (x2 + 1)]) rfl rfl 1 (by decide) rfl ?_
  refine w_goto rfl ?_
  exact k

theorem k440_86 {P : s_P} {d : Nat} {Q : s_O → Prop} {h : s_H} {kc ks : Nat} {r0 : Term} {x1 x2 : Int} {q2 : Nat} {f3 f7 : List Term} {z9 : Int} {f12 : List Term} {v14 : Term} {z16 : Int} {q18 : Nat} {a19 : List Int} {f25 : List Term} {v27 : Term} {q29 : Nat} {a30 : List Int} (g4 : s_get h q2 = some (1, 11, f3)) (g8 : s_get (hp h q2 (1, 11, f3.set 50 (vi 0))) q2 = some (1, 11, f7)) (g13 : s_get (hp (hp h q2 (1, 11, f3.set 50 (vi 0))) q2 (1, 11, f7.set 107 (vi (z9 + 1)))) q2 = some (1, 11, f12)) (g20 : s_get (hp (hp h q2 (1, 11, f3.set 50 (vi 0))) q2 (1, 11, f7.set 107 (vi (z9 + 1)))) q18 = some (0, 0, a19.map vi)) (g26 : s_get (hp (hp (hp h q2 (1, 11, f3.set 50 (vi 0))) q2 (1, 11, f7.set 107 (vi (z9 + 1)))) q18 (0, 0, (a19.set (Int.toNat (x1)) z16).map vi)) q2 = some (1, 11, f25)) (g31 : s_get (hp (hp (hp h q2 (1, 11, f3.set 50 (vi 0))) q2 (1, 11, f7.set 107 (vi (z9 + 1)))) q18 (0, 0, (a19.set (Int.toNat (x1)) z16).map vi)) q29 = some (0, 0, a30.map vi)) (k : Q (.inl (some (vi (gi a30 x1))), (hp (hp (hp h q2 (1, 11, f3.set 50 (vi 0))) q2 (1, 11, f7.set 107 (vi (z9 + 1)))) q18 (0, 0, (a19.set (Int.toNat (x1)) z16).map vi)), kc, ks)) (e_q2 : r0 = .index q2 := by first | rfl | assumption) (e_q18 : v14 = .index q18 := by first | rfl | assumption) (e_q29 : v27 = .index q29 := by first | rfl | assumption) (y1 : s_ty r0 = 3 := by first | rfl | assumption) (l5 : 50 < f3.length := by first | exact Nat.le_of_ble_eq_true rfl | omega | assumption) (n10 : s_nth f7 107 = some (vi z9) := by first | rfl | assumption) (l11 : 107 < f7.length := by first | exact Nat.le_of_ble_eq_true rfl | omega | assumption) (n15 : s_nth f12 108 = some v14 := by first | rfl | assumption) (n17 : s_nth f12 107 = some (vi z16) := by first | rfl | assumption) (n28 : s_nth f25 101 = some v27 := by first | rfl | assumption) (c6 : 0 < q2 := by first | omega | assumption | (simp only [mk_len, List.length_map]; omega) | decide) (c21 : x1 < a19.length := by first | omega | assumption | (simp only [mk_len, List.length_map]; omega) | decide) (c22 : 0 ≤ x1 := by first | omega | assumption | (simp only [mk_len, List.length_map]; omega) | decide) (c23 : In3 x1 := by first | omega | assumption | (simp only [mk_len, List.length_map]; omega) | decide) (c24 : 0 < q18 := by first | omega | assumption | (simp only [mk_len, List.length_map]; omega) | decide) (c32 : x1 < a30.length := by first | omega | assumption | (simp only [mk_len, List.length_map]; omega) | decide) : wr P d sw_c440 sw_h440 (86, [r0, vi x1, vi x2], [], h, kc, ks) Q := by
  refine w_ld rfl rfl (Or.inr (Or.inr ⟨by decide, y1⟩)) ?_
  refine w_c32 rfl (by decide) 0 (by decide) ?_
  subst e_q2
  refine w_putf rfl g4 (Nat.ble_eq_true_of_le c6) rfl (Nat.ble_eq_true_of_le l5) ?_
  refine w_ld rfl rfl (Or.inr (Or.inr ⟨by decide, rfl⟩)) ?_
  refine w_dup rfl rfl ?_
  refine w_getf rfl g8 n10 ?_
  refine w_c32 rfl (by decide) 1 (by decide) ?_
  refine w_iadd rfl ?_
  refine w_putf rfl g8 (Nat.ble_eq_true_of_le c6) rfl (Nat.ble_eq_true_of_le l11) ?_
  refine w_ld rfl rfl (Or.inr (Or.inr ⟨by decide, rfl⟩)) ?_
  refine w_getf rfl g13 n15 ?_
  refine w_ld rfl rfl (Or.inl ⟨by decide, rfl⟩) ?_
  refine w_ld rfl rfl (Or.inr (Or.inr ⟨by decide, rfl⟩)) ?_
  refine w_getf rfl g13 n17 ?_
  subst e_q18
  refine w_iast rfl g20 (Nat.ble_eq_true_of_le c24) c23 c22 c21 ?_
  refine w_ld rfl rfl (Or.inr (Or.inr ⟨by decide, rfl⟩)) ?_
  refine w_getf rfl g26 n28 ?_
  refine w_ld rfl rfl (Or.inl ⟨by decide, rfl⟩) ?_
  subst e_q29
  refine w_iald rfl g31 (Or.inl rfl) c23 c22 c32 ?_
  exact w_iret rfl k

/-! 441: FormulaWorksModel.entry(III)I -/
theorem k441_0 {P : s_P} {d : Nat} {Q : s_O → Prop} {h : s_H} {kc ks : Nat} {r0 : Term} {x1 x2 x3 : Int} {q2 : Nat} {f3 : List Term} (g4 : s_get h q2 = some (1, 11, f3)) (k : wm P d 481 [.index q2, vi x1, vi 2] h (wq P d sw_c441 sw_h441 6 [.index q2, vi x1, vi x2, vi x3] [] kc ks Q)) (e_q2 : r0 = .index q2 := by first | rfl | assumption) (y1 : s_ty r0 = 3 := by first | rfl | assumption)  : wr P d sw_c441 sw_h441 (0, [r0, vi x1, vi x2, vi x3], [], h, kc, ks) Q := by
  refine w_ld rfl rfl (Or.inr (Or.inr ⟨by decide, y1⟩)) ?_
  refine w_ld rfl rfl (Or.inl ⟨by decide, rfl⟩) ?_
  refine w_c32 rfl (by decide) 2 (by decide) ?_
  subst e_q2
  exact w_cv rfl [.index q2, vi x1, vi 2] [] rfl rfl (s_wt_4 rfl) rfl g4 k

theorem k441_6 {P : s_P} {d : Nat} {Q : s_O → Prop} {h : s_H} {kc ks : Nat} {r0 : Term} {x1 x2 x3 s0 : Int}  (k1 : s0 ≠ 0 → wr P d sw_c441 sw_h441 (11, [r0, vi x1, vi x2, vi x3], [], h, kc, ks) Q) (k2 : ¬ s0 ≠ 0 → wr P d sw_c441 sw_h441 (9, [r0, vi x1, vi x2, vi x3], [], h, kc, ks) Q)  (c1 : In3 s0 := by first | omega | assumption | (simp only [mk_len, List.length_map]; omega) | decide) : wr P d sw_c441 sw_h441 (6, [r0, vi x1, vi x2, vi x3], [vi s0], h, kc, ks) Q := by
  exact w_if1 rfl c1 k1 k2

theorem k441_9 {P : s_P} {d : Nat} {Q : s_O → Prop} {h : s_H} {kc ks : Nat} {r0 : Term} {x1 x2 x3 : Int}  (k : Q (.inl (some (vi 0)), h, kc, ks))   : wr P d sw_c441 sw_h441 (9, [r0, vi x1, vi x2, vi x3], [], h, kc, ks) Q := by
  refine w_c32 rfl (by decide) 0 (by decide) ?_
  exact w_iret rfl k

theorem k441_11 {P : s_P} {d : Nat} {Q : s_O → Prop} {h : s_H} {kc ks : Nat} {r0 : Term} {x1 x2 x3 : Int} {q3 : Nat} {f4 : List Term} {v6 : Term} {q8 : Nat} {a9 : List Int} (g5 : s_get h q3 = some (1, 11, f4)) (g10 : s_get h q8 = some (0, 0, a9.map vi)) (k : wm P d 464 [vl x2, vl 0, vl ((gi a9 x1) - 1)] h (wq P d sw_c441 sw_h441 26 [.index q3, vi x1, vi x2, vi x3] [] kc ks Q)) (e_q3 : r0 = .index q3 := by first | rfl | assumption) (e_q8 : v6 = .index q8 := by first | rfl | assumption) (y2 : s_ty r0 = 3 := by first | rfl | assumption) (n7 : s_nth f4 5 = some v6 := by first | rfl | assumption) (c1 : In3 x2 := by first | omega | assumption | (simp only [mk_len, List.length_map]; omega) | decide) (c11 : x1 < a9.length := by first | omega | assumption | (simp only [mk_len, List.length_map]; omega) | decide) (c12 : 0 ≤ x1 := by first | omega | assumption | (simp only [mk_len, List.length_map]; omega) | decide) (c13 : In3 x1 := by first | omega | assumption | (simp only [mk_len, List.length_map]; omega) | decide) (c14 : In3 ((gi a9 x1) - 1) := by first | omega | assumption | (simp only [mk_len, List.length_map]; omega) | decide) : wr P d sw_c441 sw_h441 (11, [r0, vi x1, vi x2, vi x3], [], h, kc, ks) Q := by
  refine w_ld rfl rfl (Or.inl ⟨by decide, rfl⟩) ?_
  refine w_i2l rfl c1 ?_
  refine w_c64 rfl (by decide) 0 (by decide) ?_
  refine w_ld rfl rfl (Or.inr (Or.inr ⟨by decide, y2⟩)) ?_
  subst e_q3
  refine w_getf rfl g5 n7 ?_
  refine w_ld rfl rfl (Or.inl ⟨by decide, rfl⟩) ?_
  subst e_q8
  refine w_iald rfl g10 (Or.inl rfl) c13 c12 c11 ?_
  refine w_c32 rfl (by decide) 1 (by decide) ?_
  refine w_isub rfl ?_
  refine w_i2l rfl c14 ?_
  exact w_cs rfl [vl x2, vl 0, vl ((gi a9 x1) - 1)] [] rfl rfl (s_wt_4 rfl) k

theorem k441_26 {P : s_P} {d : Nat} {Q : s_O → Prop} {h : s_H} {kc ks : Nat} {r0 : Term} {x1 x2 x3 s0 : Int}  (k1 : s0 = 0 → wr P d sw_c441 sw_h441 (47, [r0, vi x1, vi x2, vi x3], [], h, kc, ks) Q) (k2 : ¬ s0 = 0 → wr P d sw_c441 sw_h441 (29, [r0, vi x1, vi x2, vi x3], [], h, kc, ks) Q)  (c1 : In3 s0 := by first | omega | assumption | (simp only [mk_len, List.length_map]; omega) | decide) : wr P d sw_c441 sw_h441 (26, [r0, vi x1, vi x2, vi x3], [vi s0], h, kc, ks) Q := by
  exact w_if1 rfl c1 k1 k2

theorem k441_29 {P : s_P} {d : Nat} {Q : s_O → Prop} {h : s_H} {kc ks : Nat} {r0 : Term} {x1 x2 x3 : Int} {q3 : Nat} {f4 : List Term} {v6 : Term} {q8 : Nat} {a9 : List Int} (g5 : s_get h q3 = some (1, 11, f4)) (g10 : s_get h q8 = some (0, 0, a9.map vi)) (k : wm P d 464 [vl x3, vl 0, vl ((gi a9 x1) - 1)] h (wq P d sw_c441 sw_h441 44 [.index q3, vi x1, vi x2, vi x3] [] kc ks Q)) (e_q3 : r0 = .index q3 := by first | rfl | assumption) (e_q8 : v6 = .index q8 := by first | rfl | assumption) (y2 : s_ty r0 = 3 := by first | rfl | assumption) (n7 : s_nth f4 6 = some v6 := by first | rfl | assumption) (c1 : In3 x3 := by first | omega | assumption | (simp only [mk_len, List.length_map]; omega) | decide) (c11 : x1 < a9.length := by first | omega | assumption | (simp only [mk_len, List.length_map]; omega) | decide) (c12 : 0 ≤ x1 := by first | omega | assumption | (simp only [mk_len, List.length_map]; omega) | decide) (c13 : In3 x1 := by first | omega | assumption | (simp only [mk_len, List.length_map]; omega) | decide) (c14 : In3 ((gi a9 x1) - 1) := by first | omega | assumption | (simp only [mk_len, List.length_map]; omega) | decide) : wr P d sw_c441 sw_h441 (29, [r0, vi x1, vi x2, vi x3], [], h, kc, ks) Q := by
  refine w_ld rfl rfl (Or.inl ⟨by decide, rfl⟩) ?_
  refine w_i2l rfl c1 ?_
  refine w_c64 rfl (by decide) 0 (by decide) ?_
  refine w_ld rfl rfl (Or.inr (Or.inr ⟨by decide, y2⟩)) ?_
  subst e_q3
  refine w_getf rfl g5 n7 ?_
  refine w_ld rfl rfl (Or.inl ⟨by decide, rfl⟩) ?_
  subst e_q8
  refine w_iald rfl g10 (Or.inl rfl) c13 c12 c11 ?_
  refine w_c32 rfl (by decide) 1 (by decide) ?_
  refine w_isub rfl ?_
  refine w_i2l rfl c14 ?_
  exact w_cs rfl [vl x3, vl 0, vl ((gi a9 x1) - 1)] [] rfl rfl (s_wt_4 rfl) k

theorem k441_44 {P : s_P} {d : Nat} {Q : s_O → Prop} {h : s_H} {kc ks : Nat} {r0 : Term} {x1 x2 x3 s0 : Int}  (k1 : s0 ≠ 0 → wr P d sw_c441 sw_h441 (53, [r0, vi x1, vi x2, vi x3], [], h, kc, ks) Q) (k2 : ¬ s0 ≠ 0 → wr P d sw_c441 sw_h441 (47, [r0, vi x1, vi x2, vi x3], [], h, kc, ks) Q)  (c1 : In3 s0 := by first | omega | assumption | (simp only [mk_len, List.length_map]; omega) | decide) : wr P d sw_c441 sw_h441 (44, [r0, vi x1, vi x2, vi x3], [vi s0], h, kc, ks) Q := by
  exact w_if1 rfl c1 k1 k2

theorem k441_47 {P : s_P} {d : Nat} {Q : s_O → Prop} {h : s_H} {kc ks : Nat} {r0 : Term} {x1 x2 x3 : Int} {q2 : Nat} {f3 : List Term} (g4 : s_get h q2 = some (1, 11, f3)) (k : wm P d 570 [.index q2, vi 1] h (wq P d sw_c441 sw_h441 52 [.index q2, vi x1, vi x2, vi x3] [] kc ks Q)) (e_q2 : r0 = .index q2 := by first | rfl | assumption) (y1 : s_ty r0 = 3 := by first | rfl | assumption)  : wr P d sw_c441 sw_h441 (47, [r0, vi x1, vi x2, vi x3], [], h, kc, ks) Q := by
  refine w_ld rfl rfl (Or.inr (Or.inr ⟨by decide, y1⟩)) ?_
  refine w_c32 rfl (by decide) 1 (by decide) ?_
  subst e_q2
  exact w_cv rfl [.index q2, vi 1] [] rfl rfl (s_wt_4 rfl) rfl g4 k

theorem k441_52 {P : s_P} {d : Nat} {Q : s_O → Prop} {h : s_H} {kc ks : Nat} {r0 : Term} {x1 x2 x3 s0 : Int}  (k : Q (.inl (some (vi s0)), h, kc, ks))   : wr P d sw_c441 sw_h441 (52, [r0, vi x1, vi x2, vi x3], [vi s0], h, kc, ks) Q := by
  exact w_iret rfl k

theorem k441_53 {P : s_P} {d : Nat} {Q : s_O → Prop} {h : s_H} {kc ks : Nat} {r0 : Term} {x1 x2 x3 : Int} {q2 : Nat} {f3 : List Term} {v5 : Term} (g4 : s_get h q2 = some (1, 11, f3)) (k : wm P d 508 [.index q2, v5, vi x1, vi x2, vi x3] h (wq P d sw_c441 sw_h441 64 [.index q2, vi x1, vi x2, vi x3] [] kc ks Q)) (e_q2 : r0 = .index q2 := by first | rfl | assumption) (y1 : s_ty r0 = 3 := by first | rfl | assumption) (n6 : s_nth f3 14 = some v5 := by first | rfl | assumption)  : wr P d sw_c441 sw_h441 (53, [r0, vi x1, vi x2, vi x3], [], h, kc, ks) Q := by
  refine w_ld rfl rfl (Or.inr (Or.inr ⟨by decide, y1⟩)) ?_
  refine w_ld rfl rfl (Or.inr (Or.inr ⟨by decide, y1⟩)) ?_
  subst e_q2
  refine w_getf rfl g4 n6 ?_
  refine w_ld rfl rfl (Or.inl ⟨by decide, rfl⟩) ?_
  refine w_ld rfl rfl (Or.inl ⟨by decide, rfl⟩) ?_
  refine w_ld rfl rfl (Or.inl ⟨by decide, rfl⟩) ?_
  exact w_cv rfl [.index q2, v5, vi x1, vi x2, vi x3] [] rfl rfl (s_wt_4 rfl) rfl g4 k

theorem k441_64 {P : s_P} {d : Nat} {Q : s_O → Prop} {h : s_H} {kc ks : Nat} {r0 : Term} {x1 x2 x3 : Int} {q2 : Nat} {f3 : List Term} {v5 : Term} (g4 : s_get h q2 = some (1, 11, f3)) (k : wm P d 405 [v5, vl 1] h (wq P d sw_c441 sw_h441 72 [.index q2, vi x1, vi x2, vi x3] [] kc ks Q)) (e_q2 : r0 = .index q2 := by first | rfl | assumption) (y1 : s_ty r0 = 3 := by first | rfl | assumption) (n6 : s_nth f3 15 = some v5 := by first | rfl | assumption)  : wr P d sw_c441 sw_h441 (64, [r0, vi x1, vi x2, vi x3], [], h, kc, ks) Q := by
  refine w_ld rfl rfl (Or.inr (Or.inr ⟨by decide, y1⟩)) ?_
  subst e_q2
  refine w_getf rfl g4 n6 ?_
  refine w_c64 rfl (by decide) 1 (by decide) ?_
  exact w_cs rfl [v5, vl 1] [] rfl rfl (s_wt_4 rfl) k

theorem k441_72 {P : s_P} {d : Nat} {Q : s_O → Prop} {h : s_H} {kc ks : Nat} {r0 : Term} {x1 x2 x3 : Int} {q2 : Nat} {f3 : List Term} (g4 : s_get h q2 = some (1, 11, f3)) (k : wm P d 495 [.index q2, vi 3] h (wq P d sw_c441 sw_h441 77 [.index q2, vi x1, vi x2, vi x3] [] kc ks Q)) (e_q2 : r0 = .index q2 := by first | rfl | assumption) (y1 : s_ty r0 = 3 := by first | rfl | assumption)  : wr P d sw_c441 sw_h441 (72, [r0, vi x1, vi x2, vi x3], [], h, kc, ks) Q := by
  refine w_ld rfl rfl (Or.inr (Or.inr ⟨by decide, y1⟩)) ?_
  refine w_c32 rfl (by decide) 3 (by decide) ?_
  subst e_q2
  exact w_cv rfl [.index q2, vi 3] [] rfl rfl (s_wt_4 rfl) rfl g4 k

theorem k441_77 {P : s_P} {d : Nat} {Q : s_O → Prop} {h : s_H} {kc ks : Nat} {r0 : Term} {x1 x2 x3 s0 : Int}  (k : Q (.inl (some (vi s0)), h, kc, ks))   : wr P d sw_c441 sw_h441 (77, [r0, vi x1, vi x2, vi x3], [vi s0], h, kc, ks) Q := by
  exact w_iret rfl k

/-! 442: FormulaWorksModel.exponential(I)I -/
theorem k442_0 {P : s_P} {d : Nat} {Q : s_O → Prop} {h : s_H} {kc ks : Nat} {r0 : Term} {x1 : Int} {t2 t3 t4 t5 : Term} {q2 : Nat} {f3 : List Term} (g4 : s_get h q2 = some (1, 11, f3)) (k : wm P d 481 [.index q2, vi x1, vi 1] h (wq P d sw_c442 sw_h442 6 [.index q2, vi x1, t2, t3, t4, t5] [] kc ks Q)) (e_q2 : r0 = .index q2 := by first | rfl | assumption) (y1 : s_ty r0 = 3 := by first | rfl | assumption)  : wr P d sw_c442 sw_h442 (0, [r0, vi x1, t2, t3, t4, t5], [], h, kc, ks) Q := by
  refine w_ld rfl rfl (Or.inr (Or.inr ⟨by decide, y1⟩)) ?_
  refine w_ld rfl rfl (Or.inl ⟨by decide, rfl⟩) ?_
  refine w_c32 rfl (by decide) 1 (by decide) ?_
  subst e_q2
  exact w_cv rfl [.index q2, vi x1, vi 1] [] rfl rfl (s_wt_4 rfl) rfl g4 k

theorem k442_6 {P : s_P} {d : Nat} {Q : s_O → Prop} {h : s_H} {kc ks : Nat} {r0 : Term} {x1 : Int} {t2 t3 t4 t5 : Term} {s0 : Int}  (k1 : s0 ≠ 0 → wr P d sw_c442 sw_h442 (11, [r0, vi x1, t2, t3, t4, t5], [], h, kc, ks) Q) (k2 : ¬ s0 ≠ 0 → wr P d sw_c442 sw_h442 (9, [r0, vi x1, t2, t3, t4, t5], [], h, kc, ks) Q)  (c1 : In3 s0 := by first | omega | assumption | (simp only [mk_len, List.length_map]; omega) | decide) : wr P d sw_c442 sw_h442 (6, [r0, vi x1, t2, t3, t4, t5], [vi s0], h, kc, ks) Q := by
  exact w_if1 rfl c1 k1 k2

theorem k442_9 {P : s_P} {d : Nat} {Q : s_O → Prop} {h : s_H} {kc ks : Nat} {r0 : Term} {x1 : Int} {t2 t3 t4 t5 : Term}  (k : Q (.inl (some (vi 0)), h, kc, ks))   : wr P d sw_c442 sw_h442 (9, [r0, vi x1, t2, t3, t4, t5], [], h, kc, ks) Q := by
  refine w_c32 rfl (by decide) 0 (by decide) ?_
  exact w_iret rfl k

theorem k442_11 {P : s_P} {d : Nat} {Q : s_O → Prop} {h : s_H} {kc ks : Nat} {r0 : Term} {x1 : Int} {t2 t3 t4 t5 : Term} {q2 : Nat} {f3 : List Term} {v5 : Term} {q7 : Nat} {a8 : List Int} (g4 : s_get h q2 = some (1, 11, f3)) (g9 : s_get h q7 = some (0, 1, a8.map vl)) (k1 : gi a8 0 = 0 → wr P d sw_c442 sw_h442 (28, [.index q2, vi x1, t2, t3, t4, t5], [], h, kc, ks) Q) (k2 : ¬ gi a8 0 = 0 → wr P d sw_c442 sw_h442 (22, [.index q2, vi x1, t2, t3, t4, t5], [], h, kc, ks) Q) (e_q2 : r0 = .index q2 := by first | rfl | assumption) (e_q7 : v5 = .index q7 := by first | rfl | assumption) (y1 : s_ty r0 = 3 := by first | rfl | assumption) (n6 : s_nth f3 10 = some v5 := by first | rfl | assumption) (c10 : (0 : Int) < a8.length := by first | omega | assumption | (simp only [mk_len, List.length_map]; omega) | decide) (c11 : In6 (gi a8 0) := by first | omega | assumption | (simp only [mk_len, List.length_map]; omega) | decide) : wr P d sw_c442 sw_h442 (11, [r0, vi x1, t2, t3, t4, t5], [], h, kc, ks) Q := by
  refine w_ld rfl rfl (Or.inr (Or.inr ⟨by decide, y1⟩)) ?_
  subst e_q2
  refine w_getf rfl g4 n6 ?_
  refine w_c32 rfl (by decide) 0 (by decide) ?_
  subst e_q7
  refine w_lald rfl g9 (by decide) (by decide) c10 ?_
  refine w_c64 rfl (by decide) 0 (by decide) ?_
  exact w_lcmp rfl rfl c11 (by decide) k1 k2

theorem k442_22 {P : s_P} {d : Nat} {Q : s_O → Prop} {h : s_H} {kc ks : Nat} {r0 : Term} {x1 : Int} {t2 t3 t4 t5 : Term} {q2 : Nat} {f3 : List Term} (g4 : s_get h q2 = some (1, 11, f3)) (k : wm P d 570 [.index q2, vi 2] h (wq P d sw_c442 sw_h442 27 [.index q2, vi x1, t2, t3, t4, t5] [] kc ks Q)) (e_q2 : r0 = .index q2 := by first | rfl | assumption) (y1 : s_ty r0 = 3 := by first | rfl | assumption)  : wr P d sw_c442 sw_h442 (22, [r0, vi x1, t2, t3, t4, t5], [], h, kc, ks) Q := by
  refine w_ld rfl rfl (Or.inr (Or.inr ⟨by decide, y1⟩)) ?_
  refine w_c32 rfl (by decide) 2 (by decide) ?_
  subst e_q2
  exact w_cv rfl [.index q2, vi 2] [] rfl rfl (s_wt_4 rfl) rfl g4 k

theorem k442_27 {P : s_P} {d : Nat} {Q : s_O → Prop} {h : s_H} {kc ks : Nat} {r0 : Term} {x1 : Int} {t2 t3 t4 t5 : Term} {s0 : Int}  (k : Q (.inl (some (vi s0)), h, kc, ks))   : wr P d sw_c442 sw_h442 (27, [r0, vi x1, t2, t3, t4, t5], [vi s0], h, kc, ks) Q := by
  exact w_iret rfl k

theorem k442_28 {P : s_P} {d : Nat} {Q : s_O → Prop} {h : s_H} {kc ks : Nat} {r0 : Term} {x1 : Int} {t2 t3 t4 t5 : Term} {q2 : Nat} {f3 : List Term} {v5 : Term} (g4 : s_get h q2 = some (1, 11, f3)) (k : wm P d 405 [v5, vl 1] h (wq P d sw_c442 sw_h442 36 [.index q2, vi x1, t2, t3, t4, t5] [] kc ks Q)) (e_q2 : r0 = .index q2 := by first | rfl | assumption) (y1 : s_ty r0 = 3 := by first | rfl | assumption) (n6 : s_nth f3 14 = some v5 := by first | rfl | assumption)  : wr P d sw_c442 sw_h442 (28, [r0, vi x1, t2, t3, t4, t5], [], h, kc, ks) Q := by
  refine w_ld rfl rfl (Or.inr (Or.inr ⟨by decide, y1⟩)) ?_
  subst e_q2
  refine w_getf rfl g4 n6 ?_
  refine w_c64 rfl (by decide) 1 (by decide) ?_
  exact w_cs rfl [v5, vl 1] [] rfl rfl (s_wt_4 rfl) k

theorem k442_36 {P : s_P} {d : Nat} {Q : s_O → Prop} {h : s_H} {kc ks : Nat} {r0 : Term} {x1 : Int} {t2 t3 t4 t5 : Term}  (k : wr P d sw_c442 sw_h442 (38, [r0, vi x1, vi 1, t3, t4, t5], [], h, kc, ks) Q)   : wr P d sw_c442 sw_h442 (36, [r0, vi x1, t2, t3, t4, t5], [], h, kc, ks) Q := by
  refine w_c32 rfl (by decide) 1 (by decide) ?_
  refine w_st (ls' := [r0, vi x1, vi 1, t3, t4, t5]) rfl (Or.inl ⟨by decide, rfl⟩) rfl ?_
  exact k

theorem k442_38 {P : s_P} {d : Nat} {Q : s_O → Prop} {h : s_H} {kc ks : Nat} {r0 : Term} {x1 x2 : Int} {t3 t4 t5 : Term}  (k1 : 25 ≤ x2 → wr P d sw_c442 sw_h442 (116, [r0, vi x1, vi x2, t3, t4, t5], [], h, kc, ks) Q) (k2 : ¬ 25 ≤ x2 → wr P d sw_c442 sw_h442 (44, [r0, vi x1, vi x2, t3, t4, t5], [], h, kc, ks) Q)  (c1 : In3 x2 := by first | omega | assumption | (simp only [mk_len, List.length_map]; omega) | decide) : wr P d sw_c442 sw_h442 (38, [r0, vi x1, vi x2, t3, t4, t5], [], h, kc, ks) Q := by
  refine w_ld rfl rfl (Or.inl ⟨by decide, rfl⟩) ?_
  refine w_c32 rfl (by decide) 25 (by decide) ?_
  exact w_if2 rfl c1 (by decide) k1 k2

theorem k442_44 {P : s_P} {d : Nat} {Q : s_O → Prop} {h : s_H} {kc ks : Nat} {r0 : Term} {x1 x2 : Int} {t3 t4 t5 : Term}  (k : wr P d sw_c442 sw_h442 (49, [r0, vi x1, vi x2, vl 0, .result, vi 1], [], h, kc, ks) Q)   : wr P d sw_c442 sw_h442 (44, [r0, vi x1, vi x2, t3, t4, t5], [], h, kc, ks) Q := by
  refine w_c64 rfl (by decide) 0 (by decide) ?_
  refine w_stl (ls' := [r0, vi x1, vi x2, vl 0, t4, t5]) (ls'' := [r0, vi x1, vi x2, vl 0, .result, t5]) rfl ⟨by decide, rfl⟩ rfl rfl ?_
  refine w_c32 rfl (by decide) 1 (by decide) ?_
  refine w_st (ls' := [r0, vi x1, vi x2, vl 0, .result, vi 1]) rfl (Or.inl ⟨by decide, rfl⟩) rfl ?_
  exact k

theorem k442_49 {P : s_P} {d : Nat} {Q : s_O → Prop} {h : s_H} {kc ks : Nat} {r0 : Term} {x1 x2 x3 : Int} {t4 : Term} {x5 : Int}  (k1 : x2 < x5 → wr P d sw_c442 sw_h442 (93, [r0, vi x1, vi x2, vl x3, t4, vi x5], [], h, kc, ks) Q) (k2 : ¬ x2 < x5 → wr P d sw_c442 sw_h442 (55, [r0, vi x1, vi x2, vl x3, t4, vi x5], [], h, kc, ks) Q)  (c1 : In3 x5 := by first | omega | assumption | (simp only [mk_len, List.length_map]; omega) | decide) (c2 : In3 x2 := by first | omega | assumption | (simp only [mk_len, List.length_map]; omega) | decide) : wr P d sw_c442 sw_h442 (49, [r0, vi x1, vi x2, vl x3, t4, vi x5], [], h, kc, ks) Q := by
  refine w_ld rfl rfl (Or.inl ⟨by decide, rfl⟩) ?_
  refine w_ld rfl rfl (Or.inl ⟨by decide, rfl⟩) ?_
  exact w_if2 rfl c1 c2 k1 k2

theorem k442_55 {P : s_P} {d : Nat} {Q : s_O → Prop} {h : s_H} {kc ks : Nat} {r0 : Term} {x1 x2 x3 : Int} {t4 : Term} {x5 : Int} {q3 : Nat} {f4 : List Term} {v6 : Term} {q8 : Nat} {a9 : List Int} {v14 : Term} {q16 : Nat} {a17 : List Int} (g5 : s_get h q3 = some (1, 11, f4)) (g10 : s_get h q8 = some (0, 1, a9.map vl)) (g18 : s_get h q16 = some (0, 1, a17.map vl)) (k : wr P d sw_c442 sw_h442 (49, [.index q3, vi x1, vi x2, vl (Int.tmod (x3 + ((Int.tmod (x5 * (gi a9 x5)) 32003) * (gi a17 (x2 - x5)))) 32003), .result, vi (x5 + 1)], [], h, kc, ks) Q) (e_q3 : r0 = .index q3 := by first | rfl | assumption) (e_q8 : v6 = .index q8 := by first | rfl | assumption) (e_q16 : v14 = .index q16 := by first | rfl | assumption) (y2 : s_ty r0 = 3 := by first | rfl | assumption) (n7 : s_nth f4 10 = some v6 := by first | rfl | assumption) (n15 : s_nth f4 14 = some v14 := by first | rfl | assumption) (c1 : In3 x5 := by first | omega | assumption | (simp only [mk_len, List.length_map]; omega) | decide) (c11 : x5 < a9.length := by first | omega | assumption | (simp only [mk_len, List.length_map]; omega) | decide) (c12 : 0 ≤ x5 := by first | omega | assumption | (simp only [mk_len, List.length_map]; omega) | decide) (c13 : In6 (x5 * (gi a9 x5)) := by first | omega | assumption | (simp only [mk_len, List.length_map]; omega) | decide) (c19 : x2 - x5 < a17.length := by first | omega | assumption | (simp only [mk_len, List.length_map]; omega) | decide) (c20 : 0 ≤ x2 - x5 := by first | omega | assumption | (simp only [mk_len, List.length_map]; omega) | decide) (c21 : In3 (x2 - x5) := by first | omega | assumption | (simp only [mk_len, List.length_map]; omega) | decide) (c22 : In6 (x3 + ((Int.tmod (x5 * (gi a9 x5)) 32003) * (gi a17 (x2 - x5)))) := by first | omega | assumption | (simp only [mk_len, List.length_map]; omega) | decide) : wr P d sw_c442 sw_h442 (55, [r0, vi x1, vi x2, vl x3, t4, vi x5], [], h, kc, ks) Q := by
  refine w_ld rfl rfl (Or.inr (Or.inl ⟨by decide, rfl⟩)) ?_
  refine w_ld rfl rfl (Or.inl ⟨by decide, rfl⟩) ?_
  refine w_i2l rfl c1 ?_
  refine w_ld rfl rfl (Or.inr (Or.inr ⟨by decide, y2⟩)) ?_
  subst e_q3
  refine w_getf rfl g5 n7 ?_
  refine w_ld rfl rfl (Or.inl ⟨by decide, rfl⟩) ?_
  subst e_q8
  refine w_lald rfl g10 c1 c12 c11 ?_
  refine w_lmul rfl ?_
  refine w_c64 rfl (by decide) 32003 (by decide) ?_
  refine w_lrem rfl c13 (by decide) (by decide) ?_
  refine w_ld rfl rfl (Or.inr (Or.inr ⟨by decide, rfl⟩)) ?_
  refine w_getf rfl g5 n15 ?_
  refine w_ld rfl rfl (Or.inl ⟨by decide, rfl⟩) ?_
  refine w_ld rfl rfl (Or.inl ⟨by decide, rfl⟩) ?_
  refine w_isub rfl ?_
  subst e_q16
  refine w_lald rfl g18 c21 c20 c19 ?_
  refine w_lmul rfl ?_
  refine w_ladd rfl ?_
  refine w_c64 rfl (by decide) 32003 (by decide) ?_
  refine w_lrem rfl c22 (by decide) (by decide) ?_
  refine w_stl (ls' := [.index q3, vi x1, vi x2, vl (Int.tmod (x3 + ((Int.tmod (x5 * (gi a9 x5)) 32003) * (gi a17 (x2 - x5)))) 32003), t4, vi x5]) (ls'' := [.index q3, vi x1, vi x2, vl (Int.tmod (x3 + ((Int.tmod (x5 * (gi a9 x5)) 32003) * (gi a17 (x2 - x5)))) 32003), .result, vi x5]) rfl ⟨by decide, rfl⟩ rfl rfl ?_
  refine w_iinc (ls' := [.index q3, vi x1, vi x2, vl (Int.tmod (x3 + ((Int.tmod (x5 * (gi a9 x5)) 32003) * (gi a17 (x2 - x5)))) 32003), .result, vi (x5 + 1)]) rfl rfl 1 (by decide) rfl ?_
  refine w_goto rfl ?_
  exact k

theorem k442_93 {P : s_P} {d : Nat} {Q : s_O → Prop} {h : s_H} {kc ks : Nat} {r0 : Term} {x1 x2 x3 : Int} {t4 : Term} {x5 : Int} {q2 : Nat} {f3 : List Term} {v5 : Term} (g4 : s_get h q2 = some (1, 11, f3)) (k : wm P d 467 [vl x2] h (wq P d sw_c442 sw_h442 104 [.index q2, vi x1, vi x2, vl x3, t4, vi x5] [vl x3, vi x2, v5] kc ks Q)) (e_q2 : r0 = .index q2 := by first | rfl | assumption) (y1 : s_ty r0 = 3 := by first | rfl | assumption) (n6 : s_nth f3 14 = some v5 := by first | rfl | assumption) (c7 : In3 x2 := by first | omega | assumption | (simp only [mk_len, List.length_map]; omega) | decide) : wr P d sw_c442 sw_h442 (93, [r0, vi x1, vi x2, vl x3, t4, vi x5], [], h, kc, ks) Q := by
  refine w_ld rfl rfl (Or.inr (Or.inr ⟨by decide, y1⟩)) ?_
  subst e_q2
  refine w_getf rfl g4 n6 ?_
  refine w_ld rfl rfl (Or.inl ⟨by decide, rfl⟩) ?_
  refine w_ld rfl rfl (Or.inr (Or.inl ⟨by decide, rfl⟩)) ?_
  refine w_ld rfl rfl (Or.inl ⟨by decide, rfl⟩) ?_
  refine w_i2l rfl c7 ?_
  exact w_cs rfl [vl x2] [vl x3, vi x2, v5] rfl rfl (s_wt_4 rfl) k

theorem k442_104 {P : s_P} {d : Nat} {Q : s_O → Prop} {h : s_H} {kc ks : Nat} {r0 : Term} {x1 x2 x3 : Int} {t4 : Term} {x5 : Int} {s0 : Term} {s1 s2 s3 : Int} {q2 : Nat} {a3 : List Int} (g4 : s_get h q2 = some (0, 1, a3.map vl)) (k : wr P d sw_c442 sw_h442 (38, [r0, vi x1, vi (x2 + 1), vl x3, t4, vi x5], [], (hp h q2 (0, 1, (a3.set (Int.toNat (s1)) (Int.tmod (s2 * s3) 32003)).map vl)), kc, ks) Q) (e_q2 : s0 = .index q2 := by first | rfl | assumption) (c1 : In6 (s2 * s3) := by first | omega | assumption | (simp only [mk_len, List.length_map]; omega) | decide) (c5 : s1 < a3.length := by first | omega | assumption | (simp only [mk_len, List.length_map]; omega) | decide) (c6 : 0 ≤ s1 := by first | omega | assumption | (simp only [mk_len, List.length_map]; omega) | decide) (c7 : In3 s1 := by first | omega | assumption | (simp only [mk_len, List.length_map]; omega) | decide) (c8 : 0 < q2 := by first | omega | assumption | (simp only [mk_len, List.length_map]; omega) | decide) : wr P d sw_c442 sw_h442 (104, [r0, vi x1, vi x2, vl x3, t4, vi x5], [vl s3, vl s2, vi s1, s0], h, kc, ks) Q := by
  refine w_lmul rfl ?_
  refine w_c64 rfl (by decide) 32003 (by decide) ?_
  refine w_lrem rfl c1 (by decide) (by decide) ?_
  subst e_q2
  refine w_last rfl g4 (Nat.ble_eq_true_of_le c8) c7 c6 c5 ?_
  refine w_iinc (ls' := [r0, vi x1, vi (x2 + 1), vl x3, t4, vi x5]) rfl rfl 1 (by decide) rfl ?_
  refine w_goto rfl ?_
  exact k

theorem k442_116 {P : s_P} {d : Nat} {Q : s_O → Prop} {h : s_H} {kc ks : Nat} {r0 : Term} {x1 x2 : Int} {t3 t4 t5 : Term} {q2 : Nat} {f3 : List Term} (g4 : s_get h q2 = some (1, 11, f3)) (k : wm P d 499 [.index q2, vi 3] h (wq P d sw_c442 sw_h442 121 [.index q2, vi x1, vi x2, t3, t4, t5] [] kc ks Q)) (e_q2 : r0 = .index q2 := by first | rfl | assumption) (y1 : s_ty r0 = 3 := by first | rfl | assumption)  : wr P d sw_c442 sw_h442 (116, [r0, vi x1, vi x2, t3, t4, t5], [], h, kc, ks) Q := by
  refine w_ld rfl rfl (Or.inr (Or.inr ⟨by decide, y1⟩)) ?_
  refine w_c32 rfl (by decide) 3 (by decide) ?_
  subst e_q2
  exact w_cv rfl [.index q2, vi 3] [] rfl rfl (s_wt_4 rfl) rfl g4 k

theorem k442_121 {P : s_P} {d : Nat} {Q : s_O → Prop} {h : s_H} {kc ks : Nat} {r0 : Term} {x1 x2 : Int} {t3 t4 t5 : Term} {s0 : Int}  (k : Q (.inl (some (vi s0)), h, kc, ks))   : wr P d sw_c442 sw_h442 (121, [r0, vi x1, vi x2, t3, t4, t5], [vi s0], h, kc, ks) Q := by
  exact w_iret rfl k

/-! 443: FormulaWorksModel.factor(II)I -/
theorem k443_0 {P : s_P} {d : Nat} {Q : s_O → Prop} {h : s_H} {kc ks : Nat} {r0 : Term} {x1 x2 : Int} {q2 : Nat} {f3 : List Term} (g4 : s_get h q2 = some (1, 11, f3)) (k : wm P d 477 [.index q2, vi x1, vi x2] h (wq P d sw_c443 sw_h443 6 [.index q2, vi x1, vi x2] [] kc ks Q)) (e_q2 : r0 = .index q2 := by first | rfl | assumption) (y1 : s_ty r0 = 3 := by first | rfl | assumption)  : wr P d sw_c443 sw_h443 (0, [r0, vi x1, vi x2], [], h, kc, ks) Q := by
  refine w_ld rfl rfl (Or.inr (Or.inr ⟨by decide, y1⟩)) ?_
  refine w_ld rfl rfl (Or.inl ⟨by decide, rfl⟩) ?_
  refine w_ld rfl rfl (Or.inl ⟨by decide, rfl⟩) ?_
  subst e_q2
  exact w_cv rfl [.index q2, vi x1, vi x2] [] rfl rfl (s_wt_4 rfl) rfl g4 k

theorem k443_6 {P : s_P} {d : Nat} {Q : s_O → Prop} {h : s_H} {kc ks : Nat} {r0 : Term} {x1 x2 s0 : Int}  (k1 : s0 ≠ 0 → wr P d sw_c443 sw_h443 (11, [r0, vi x1, vi x2], [], h, kc, ks) Q) (k2 : ¬ s0 ≠ 0 → wr P d sw_c443 sw_h443 (9, [r0, vi x1, vi x2], [], h, kc, ks) Q)  (c1 : In3 s0 := by first | omega | assumption | (simp only [mk_len, List.length_map]; omega) | decide) : wr P d sw_c443 sw_h443 (6, [r0, vi x1, vi x2], [vi s0], h, kc, ks) Q := by
  exact w_if1 rfl c1 k1 k2

theorem k443_9 {P : s_P} {d : Nat} {Q : s_O → Prop} {h : s_H} {kc ks : Nat} {r0 : Term} {x1 x2 : Int}  (k : Q (.inl (some (vi 0)), h, kc, ks))   : wr P d sw_c443 sw_h443 (9, [r0, vi x1, vi x2], [], h, kc, ks) Q := by
  refine w_c32 rfl (by decide) 0 (by decide) ?_
  exact w_iret rfl k

theorem k443_11 {P : s_P} {d : Nat} {Q : s_O → Prop} {h : s_H} {kc ks : Nat} {r0 : Term} {x1 x2 : Int} {q2 : Nat} {f3 : List Term} {v5 : Term} (g4 : s_get h q2 = some (1, 11, f3)) (k : wm P d 509 [.index q2, v5, vi x2] h (wq P d sw_c443 sw_h443 20 [.index q2, vi x1, vi x2] [] kc ks Q)) (e_q2 : r0 = .index q2 := by first | rfl | assumption) (y1 : s_ty r0 = 3 := by first | rfl | assumption) (n6 : s_nth f3 14 = some v5 := by first | rfl | assumption)  : wr P d sw_c443 sw_h443 (11, [r0, vi x1, vi x2], [], h, kc, ks) Q := by
  refine w_ld rfl rfl (Or.inr (Or.inr ⟨by decide, y1⟩)) ?_
  refine w_ld rfl rfl (Or.inr (Or.inr ⟨by decide, y1⟩)) ?_
  subst e_q2
  refine w_getf rfl g4 n6 ?_
  refine w_ld rfl rfl (Or.inl ⟨by decide, rfl⟩) ?_
  exact w_cv rfl [.index q2, v5, vi x2] [] rfl rfl (s_wt_4 rfl) rfl g4 k

theorem k443_20 {P : s_P} {d : Nat} {Q : s_O → Prop} {h : s_H} {kc ks : Nat} {r0 : Term} {x1 x2 : Int} {q2 : Nat} {f3 : List Term} {v5 : Term} (g4 : s_get h q2 = some (1, 11, f3)) (k : wm P d 405 [v5, vl 1] h (wq P d sw_c443 sw_h443 28 [.index q2, vi x1, vi x2] [] kc ks Q)) (e_q2 : r0 = .index q2 := by first | rfl | assumption) (y1 : s_ty r0 = 3 := by first | rfl | assumption) (n6 : s_nth f3 15 = some v5 := by first | rfl | assumption)  : wr P d sw_c443 sw_h443 (20, [r0, vi x1, vi x2], [], h, kc, ks) Q := by
  refine w_ld rfl rfl (Or.inr (Or.inr ⟨by decide, y1⟩)) ?_
  subst e_q2
  refine w_getf rfl g4 n6 ?_
  refine w_c64 rfl (by decide) 1 (by decide) ?_
  exact w_cs rfl [v5, vl 1] [] rfl rfl (s_wt_4 rfl) k

theorem k443_28 {P : s_P} {d : Nat} {Q : s_O → Prop} {h : s_H} {kc ks : Nat} {r0 : Term} {x1 x2 : Int} {q2 : Nat} {f3 : List Term} (g4 : s_get h q2 = some (1, 11, f3)) (k : wm P d 495 [.index q2, vi 3] h (wq P d sw_c443 sw_h443 33 [.index q2, vi x1, vi x2] [] kc ks Q)) (e_q2 : r0 = .index q2 := by first | rfl | assumption) (y1 : s_ty r0 = 3 := by first | rfl | assumption)  : wr P d sw_c443 sw_h443 (28, [r0, vi x1, vi x2], [], h, kc, ks) Q := by
  refine w_ld rfl rfl (Or.inr (Or.inr ⟨by decide, y1⟩)) ?_
  refine w_c32 rfl (by decide) 3 (by decide) ?_
  subst e_q2
  exact w_cv rfl [.index q2, vi 3] [] rfl rfl (s_wt_4 rfl) rfl g4 k

theorem k443_33 {P : s_P} {d : Nat} {Q : s_O → Prop} {h : s_H} {kc ks : Nat} {r0 : Term} {x1 x2 s0 : Int}  (k : Q (.inl (some (vi s0)), h, kc, ks))   : wr P d sw_c443 sw_h443 (33, [r0, vi x1, vi x2], [vi s0], h, kc, ks) Q := by
  exact w_iret rfl k

/-! 444: FormulaWorksModel.factors(I)I -/
theorem k444_0 {P : s_P} {d : Nat} {Q : s_O → Prop} {h : s_H} {kc ks : Nat} {r0 : Term} {x1 : Int} {q2 : Nat} {f3 : List Term} (g4 : s_get h q2 = some (1, 11, f3)) (k : wm P d 481 [.index q2, vi x1, vi 0] h (wq P d sw_c444 sw_h444 6 [.index q2, vi x1] [] kc ks Q)) (e_q2 : r0 = .index q2 := by first | rfl | assumption) (y1 : s_ty r0 = 3 := by first | rfl | assumption)  : wr P d sw_c444 sw_h444 (0, [r0, vi x1], [], h, kc, ks) Q := by
  refine w_ld rfl rfl (Or.inr (Or.inr ⟨by decide, y1⟩)) ?_
  refine w_ld rfl rfl (Or.inl ⟨by decide, rfl⟩) ?_
  refine w_c32 rfl (by decide) 0 (by decide) ?_
  subst e_q2
  exact w_cv rfl [.index q2, vi x1, vi 0] [] rfl rfl (s_wt_4 rfl) rfl g4 k

theorem k444_6 {P : s_P} {d : Nat} {Q : s_O → Prop} {h : s_H} {kc ks : Nat} {r0 : Term} {x1 s0 : Int}  (k1 : s0 ≠ 0 → wr P d sw_c444 sw_h444 (11, [r0, vi x1], [], h, kc, ks) Q) (k2 : ¬ s0 ≠ 0 → wr P d sw_c444 sw_h444 (9, [r0, vi x1], [], h, kc, ks) Q)  (c1 : In3 s0 := by first | omega | assumption | (simp only [mk_len, List.length_map]; omega) | decide) : wr P d sw_c444 sw_h444 (6, [r0, vi x1], [vi s0], h, kc, ks) Q := by
  exact w_if1 rfl c1 k1 k2

theorem k444_9 {P : s_P} {d : Nat} {Q : s_O → Prop} {h : s_H} {kc ks : Nat} {r0 : Term} {x1 : Int}  (k : Q (.inl (some (vi 0)), h, kc, ks))   : wr P d sw_c444 sw_h444 (9, [r0, vi x1], [], h, kc, ks) Q := by
  refine w_c32 rfl (by decide) 0 (by decide) ?_
  exact w_iret rfl k

theorem k444_11 {P : s_P} {d : Nat} {Q : s_O → Prop} {h : s_H} {kc ks : Nat} {r0 : Term} {x1 : Int} {q2 : Nat} {f3 : List Term} (g4 : s_get h q2 = some (1, 11, f3)) (k : wm P d 454 [.index q2] h (wq P d sw_c444 sw_h444 15 [.index q2, vi x1] [] kc ks Q)) (e_q2 : r0 = .index q2 := by first | rfl | assumption) (y1 : s_ty r0 = 3 := by first | rfl | assumption)  : wr P d sw_c444 sw_h444 (11, [r0, vi x1], [], h, kc, ks) Q := by
  refine w_ld rfl rfl (Or.inr (Or.inr ⟨by decide, y1⟩)) ?_
  subst e_q2
  exact w_cv rfl [.index q2] [] rfl rfl (s_wt_4 rfl) rfl g4 k

theorem k444_15 {P : s_P} {d : Nat} {Q : s_O → Prop} {h : s_H} {kc ks : Nat} {r0 : Term} {x1 : Int} {q2 : Nat} {f3 : List Term} {z5 : Int} (g4 : s_get h q2 = some (1, 11, f3)) (k : Q (.inl (some (vi z5)), h, kc, ks)) (e_q2 : r0 = .index q2 := by first | rfl | assumption) (y1 : s_ty r0 = 3 := by first | rfl | assumption) (n6 : s_nth f3 26 = some (vi z5) := by first | rfl | assumption)  : wr P d sw_c444 sw_h444 (15, [r0, vi x1], [], h, kc, ks) Q := by
  refine w_ld rfl rfl (Or.inr (Or.inr ⟨by decide, y1⟩)) ?_
  subst e_q2
  refine w_getf rfl g4 n6 ?_
  exact w_iret rfl k

/-! 445: FormulaWorksModel.fail(II)V -/
theorem k445_0 {P : s_P} {d : Nat} {Q : s_O → Prop} {h : s_H} {kc ks : Nat} {r0 : Term} {x1 x2 : Int} {q2 : Nat} {f3 : List Term} {z5 : Int} (g4 : s_get h q2 = some (1, 11, f3)) (k1 : z5 ≤ 0 → wr P d sw_c445 sw_h445 (8, [.index q2, vi x1, vi x2], [], h, kc, ks) Q) (k2 : ¬ z5 ≤ 0 → wr P d sw_c445 sw_h445 (7, [.index q2, vi x1, vi x2], [], h, kc, ks) Q) (e_q2 : r0 = .index q2 := by first | rfl | assumption) (y1 : s_ty r0 = 3 := by first | rfl | assumption) (n6 : s_nth f3 55 = some (vi z5) := by first | rfl | assumption) (c7 : In3 z5 := by first | omega | assumption | (simp only [mk_len, List.length_map]; omega) | decide) : wr P d sw_c445 sw_h445 (0, [r0, vi x1, vi x2], [], h, kc, ks) Q := by
  refine w_ld rfl rfl (Or.inr (Or.inr ⟨by decide, y1⟩)) ?_
  subst e_q2
  refine w_getf rfl g4 n6 ?_
  exact w_if1 rfl c7 k1 k2

theorem k445_7 {P : s_P} {d : Nat} {Q : s_O → Prop} {h : s_H} {kc ks : Nat} {r0 : Term} {x1 x2 : Int}  (k : Q (.inl none, h, kc, ks))   : wr P d sw_c445 sw_h445 (7, [r0, vi x1, vi x2], [], h, kc, ks) Q := by
  exact w_ret rfl k

theorem k445_8 {P : s_P} {d : Nat} {Q : s_O → Prop} {h : s_H} {kc ks : Nat} {r0 : Term} {x1 x2 : Int} {q2 : Nat} {f3 f7 : List Term} (g4 : s_get h q2 = some (1, 11, f3)) (g8 : s_get (hp h q2 (1, 11, f3.set 55 (vi x1))) q2 = some (1, 11, f7)) (k : Q (.inl none, (hp (hp h q2 (1, 11, f3.set 55 (vi x1))) q2 (1, 11, f7.set 56 (vi x2))), kc, ks)) (e_q2 : r0 = .index q2 := by first | rfl | assumption) (y1 : s_ty r0 = 3 := by first | rfl | assumption) (l5 : 55 < f3.length := by first | exact Nat.le_of_ble_eq_true rfl | omega | assumption) (l9 : 56 < f7.length := by first | exact Nat.le_of_ble_eq_true rfl | omega | assumption) (c6 : 0 < q2 := by first | omega | assumption | (simp only [mk_len, List.length_map]; omega) | decide) : wr P d sw_c445 sw_h445 (8, [r0, vi x1, vi x2], [], h, kc, ks) Q := by
  refine w_ld rfl rfl (Or.inr (Or.inr ⟨by decide, y1⟩)) ?_
  refine w_ld rfl rfl (Or.inl ⟨by decide, rfl⟩) ?_
  subst e_q2
  refine w_putf rfl g4 (Nat.ble_eq_true_of_le c6) rfl (Nat.ble_eq_true_of_le l5) ?_
  refine w_ld rfl rfl (Or.inr (Or.inr ⟨by decide, rfl⟩)) ?_
  refine w_ld rfl rfl (Or.inl ⟨by decide, rfl⟩) ?_
  refine w_putf rfl g8 (Nat.ble_eq_true_of_le c6) rfl (Nat.ble_eq_true_of_le l9) ?_
  exact w_ret rfl k

/-! 446: FormulaWorksModel.fault(I)I -/
theorem k446_0 {P : s_P} {d : Nat} {Q : s_O → Prop} {h : s_H} {kc ks : Nat} {r0 : Term} {x1 : Int} {q2 : Nat} {f3 : List Term} (g4 : s_get h q2 = some (1, 11, f3)) (k1 : x1 ≠ 0 → wr P d sw_c446 sw_h446 (16, [.index q2, vi x1], [], (hp h q2 (1, 11, f3.set 0 (vi 0))), kc, ks) Q) (k2 : ¬ x1 ≠ 0 → wr P d sw_c446 sw_h446 (9, [.index q2, vi x1], [], (hp h q2 (1, 11, f3.set 0 (vi 0))), kc, ks) Q) (e_q2 : r0 = .index q2 := by first | rfl | assumption) (y1 : s_ty r0 = 3 := by first | rfl | assumption) (l5 : 0 < f3.length := by first | exact Nat.le_of_ble_eq_true rfl | omega | assumption) (c6 : 0 < q2 := by first | omega | assumption | (simp only [mk_len, List.length_map]; omega) | decide) (c7 : In3 x1 := by first | omega | assumption | (simp only [mk_len, List.length_map]; omega) | decide) : wr P d sw_c446 sw_h446 (0, [r0, vi x1], [], h, kc, ks) Q := by
  refine w_ld rfl rfl (Or.inr (Or.inr ⟨by decide, y1⟩)) ?_
  refine w_c32 rfl (by decide) 0 (by decide) ?_
  subst e_q2
  refine w_putf rfl g4 (Nat.ble_eq_true_of_le c6) rfl (Nat.ble_eq_true_of_le l5) ?_
  refine w_ld rfl rfl (Or.inl ⟨by decide, rfl⟩) ?_
  exact w_if1 rfl c7 k1 k2

theorem k446_9 {P : s_P} {d : Nat} {Q : s_O → Prop} {h : s_H} {kc ks : Nat} {r0 : Term} {x1 : Int} {q2 : Nat} {f3 : List Term} {z5 : Int} (g4 : s_get h q2 = some (1, 11, f3)) (k : wr P d sw_c446 sw_h446 (29, [.index q2, vi x1], [vi z5], h, kc, ks) Q) (e_q2 : r0 = .index q2 := by first | rfl | assumption) (y1 : s_ty r0 = 3 := by first | rfl | assumption) (n6 : s_nth f3 57 = some (vi z5) := by first | rfl | assumption)  : wr P d sw_c446 sw_h446 (9, [r0, vi x1], [], h, kc, ks) Q := by
  refine w_ld rfl rfl (Or.inr (Or.inr ⟨by decide, y1⟩)) ?_
  subst e_q2
  refine w_getf rfl g4 n6 ?_
  refine w_goto rfl ?_
  exact k

theorem k446_16 {P : s_P} {d : Nat} {Q : s_O → Prop} {h : s_H} {kc ks : Nat} {r0 : Term} {x1 : Int}  (k1 : x1 ≠ 1 → wr P d sw_c446 sw_h446 (28, [r0, vi x1], [], h, kc, ks) Q) (k2 : ¬ x1 ≠ 1 → wr P d sw_c446 sw_h446 (21, [r0, vi x1], [], h, kc, ks) Q)  (c1 : In3 x1 := by first | omega | assumption | (simp only [mk_len, List.length_map]; omega) | decide) : wr P d sw_c446 sw_h446 (16, [r0, vi x1], [], h, kc, ks) Q := by
  refine w_ld rfl rfl (Or.inl ⟨by decide, rfl⟩) ?_
  refine w_c32 rfl (by decide) 1 (by decide) ?_
  exact w_if2 rfl c1 (by decide) k1 k2

theorem k446_21 {P : s_P} {d : Nat} {Q : s_O → Prop} {h : s_H} {kc ks : Nat} {r0 : Term} {x1 : Int} {q2 : Nat} {f3 : List Term} {z5 : Int} (g4 : s_get h q2 = some (1, 11, f3)) (k : wr P d sw_c446 sw_h446 (29, [.index q2, vi x1], [vi z5], h, kc, ks) Q) (e_q2 : r0 = .index q2 := by first | rfl | assumption) (y1 : s_ty r0 = 3 := by first | rfl | assumption) (n6 : s_nth f3 58 = some (vi z5) := by first | rfl | assumption)  : wr P d sw_c446 sw_h446 (21, [r0, vi x1], [], h, kc, ks) Q := by
  refine w_ld rfl rfl (Or.inr (Or.inr ⟨by decide, y1⟩)) ?_
  subst e_q2
  refine w_getf rfl g4 n6 ?_
  refine w_goto rfl ?_
  exact k

theorem k446_28 {P : s_P} {d : Nat} {Q : s_O → Prop} {h : s_H} {kc ks : Nat} {r0 : Term} {x1 : Int}  (k : wr P d sw_c446 sw_h446 (29, [r0, vi x1], [vi (-1)], h, kc, ks) Q)   : wr P d sw_c446 sw_h446 (28, [r0, vi x1], [], h, kc, ks) Q := by
  refine w_c32 rfl (by decide) (-1) (by decide) ?_
  exact k

theorem k446_29 {P : s_P} {d : Nat} {Q : s_O → Prop} {h : s_H} {kc ks : Nat} {r0 : Term} {x1 s0 : Int}  (k : Q (.inl (some (vi s0)), h, kc, ks))   : wr P d sw_c446 sw_h446 (29, [r0, vi x1], [vi s0], h, kc, ks) Q := by
  exact w_iret rfl k

/-! 447: FormulaWorksModel.fillIn([JI)V -/
theorem k447_0 {P : s_P} {d : Nat} {Q : s_O → Prop} {h : s_H} {kc ks : Nat} {r0 r1 : Term} {x2 : Int} {t3 : Term} {q2 : Nat} {f3 : List Term} {v5 : Term} (g4 : s_get h q2 = some (1, 11, f3)) (k : wm P d 438 [v5] h (wq P d sw_c447 sw_h447 7 [.index q2, r1, vi x2, t3] [] kc ks Q)) (e_q2 : r0 = .index q2 := by first | rfl | assumption) (y1 : s_ty r0 = 3 := by first | rfl | assumption) (n6 : s_nth f3 22 = some v5 := by first | rfl | assumption)  : wr P d sw_c447 sw_h447 (0, [r0, r1, vi x2, t3], [], h, kc, ks) Q := by
  refine w_ld rfl rfl (Or.inr (Or.inr ⟨by decide, y1⟩)) ?_
  subst e_q2
  refine w_getf rfl g4 n6 ?_
  exact w_cs rfl [v5] [] rfl rfl (s_wt_4 rfl) k

theorem k447_7 {P : s_P} {d : Nat} {Q : s_O → Prop} {h : s_H} {kc ks : Nat} {r0 r1 : Term} {x2 : Int} {t3 : Term} {q2 : Nat} {f3 : List Term} {v5 : Term} (g4 : s_get h q2 = some (1, 11, f3)) (k : wm P d 405 [v5, vl 1] h (wq P d sw_c447 sw_h447 15 [.index q2, r1, vi x2, t3] [] kc ks Q)) (e_q2 : r0 = .index q2 := by first | rfl | assumption) (y1 : s_ty r0 = 3 := by first | rfl | assumption) (n6 : s_nth f3 23 = some v5 := by first | rfl | assumption)  : wr P d sw_c447 sw_h447 (7, [r0, r1, vi x2, t3], [], h, kc, ks) Q := by
  refine w_ld rfl rfl (Or.inr (Or.inr ⟨by decide, y1⟩)) ?_
  subst e_q2
  refine w_getf rfl g4 n6 ?_
  refine w_c64 rfl (by decide) 1 (by decide) ?_
  exact w_cs rfl [v5, vl 1] [] rfl rfl (s_wt_4 rfl) k

theorem k447_15 {P : s_P} {d : Nat} {Q : s_O → Prop} {h : s_H} {kc ks : Nat} {r0 r1 : Term} {x2 : Int} {t3 : Term}  (k : wr P d sw_c447 sw_h447 (17, [r0, r1, vi x2, vi x2], [], h, kc, ks) Q)   : wr P d sw_c447 sw_h447 (15, [r0, r1, vi x2, t3], [], h, kc, ks) Q := by
  refine w_ld rfl rfl (Or.inl ⟨by decide, rfl⟩) ?_
  refine w_st (ls' := [r0, r1, vi x2, vi x2]) rfl (Or.inl ⟨by decide, rfl⟩) rfl ?_
  exact k

theorem k447_17 {P : s_P} {d : Nat} {Q : s_O → Prop} {h : s_H} {kc ks : Nat} {r0 r1 : Term} {x2 x3 : Int}  (k1 : x3 < 0 → wr P d sw_c447 sw_h447 (65, [r0, r1, vi x2, vi x3], [], h, kc, ks) Q) (k2 : ¬ x3 < 0 → wr P d sw_c447 sw_h447 (21, [r0, r1, vi x2, vi x3], [], h, kc, ks) Q)  (c1 : In3 x3 := by first | omega | assumption | (simp only [mk_len, List.length_map]; omega) | decide) : wr P d sw_c447 sw_h447 (17, [r0, r1, vi x2, vi x3], [], h, kc, ks) Q := by
  refine w_ld rfl rfl (Or.inl ⟨by decide, rfl⟩) ?_
  exact w_if1 rfl c1 k1 k2

theorem k447_21 {P : s_P} {d : Nat} {Q : s_O → Prop} {h : s_H} {kc ks : Nat} {r0 r1 : Term} {x2 x3 : Int} {q2 : Nat} {f3 : List Term} {v5 v7 : Term} (g4 : s_get h q2 = some (1, 11, f3)) (k : wm P d 532 [.index q2, v5, v7] h (wq P d sw_c447 sw_h447 33 [.index q2, r1, vi x2, vi x3] [] kc ks Q)) (e_q2 : r0 = .index q2 := by first | rfl | assumption) (y1 : s_ty r0 = 3 := by first | rfl | assumption) (n6 : s_nth f3 22 = some v5 := by first | rfl | assumption) (n8 : s_nth f3 12 = some v7 := by first | rfl | assumption)  : wr P d sw_c447 sw_h447 (21, [r0, r1, vi x2, vi x3], [], h, kc, ks) Q := by
  refine w_ld rfl rfl (Or.inr (Or.inr ⟨by decide, y1⟩)) ?_
  refine w_ld rfl rfl (Or.inr (Or.inr ⟨by decide, y1⟩)) ?_
  subst e_q2
  refine w_getf rfl g4 n6 ?_
  refine w_ld rfl rfl (Or.inr (Or.inr ⟨by decide, rfl⟩)) ?_
  refine w_getf rfl g4 n8 ?_
  exact w_cv rfl [.index q2, v5, v7] [] rfl rfl (s_wt_4 rfl) rfl g4 k

theorem k447_33 {P : s_P} {d : Nat} {Q : s_O → Prop} {h : s_H} {kc ks : Nat} {r0 r1 : Term} {x2 x3 : Int} {q2 : Nat} {f3 : List Term} {v5 v7 : Term} {q10 : Nat} {a11 : List Int} (g4 : s_get h q2 = some (1, 11, f3)) (g12 : s_get h q10 = some (0, 1, a11.map vl)) (k : wm P d 529 [v5, v7, vl (gi a11 x3)] h (wq P d sw_c447 sw_h447 47 [.index q2, .index q10, vi x2, vi x3] [] kc ks Q)) (e_q2 : r0 = .index q2 := by first | rfl | assumption) (e_q10 : r1 = .index q10 := by first | rfl | assumption) (y1 : s_ty r0 = 3 := by first | rfl | assumption) (n6 : s_nth f3 22 = some v5 := by first | rfl | assumption) (n8 : s_nth f3 23 = some v7 := by first | rfl | assumption) (y9 : s_ty r1 = 3 := by first | rfl | assumption) (c13 : x3 < a11.length := by first | omega | assumption | (simp only [mk_len, List.length_map]; omega) | decide) (c14 : 0 ≤ x3 := by first | omega | assumption | (simp only [mk_len, List.length_map]; omega) | decide) (c15 : In3 x3 := by first | omega | assumption | (simp only [mk_len, List.length_map]; omega) | decide) : wr P d sw_c447 sw_h447 (33, [r0, r1, vi x2, vi x3], [], h, kc, ks) Q := by
  refine w_ld rfl rfl (Or.inr (Or.inr ⟨by decide, y1⟩)) ?_
  subst e_q2
  refine w_getf rfl g4 n6 ?_
  refine w_ld rfl rfl (Or.inr (Or.inr ⟨by decide, rfl⟩)) ?_
  refine w_getf rfl g4 n8 ?_
  refine w_ld rfl rfl (Or.inr (Or.inr ⟨by decide, y9⟩)) ?_
  refine w_ld rfl rfl (Or.inl ⟨by decide, rfl⟩) ?_
  subst e_q10
  refine w_lald rfl g12 c15 c14 c13 ?_
  exact w_cs rfl [v5, v7, vl (gi a11 x3)] [] rfl rfl (s_wt_4 rfl) k

theorem k447_47 {P : s_P} {d : Nat} {Q : s_O → Prop} {h : s_H} {kc ks : Nat} {r0 r1 : Term} {x2 x3 : Int} {q2 : Nat} {f3 : List Term} {v5 v7 : Term} (g4 : s_get h q2 = some (1, 11, f3)) (k : wm P d 532 [.index q2, v5, v7] h (wq P d sw_c447 sw_h447 59 [.index q2, r1, vi x2, vi x3] [] kc ks Q)) (e_q2 : r0 = .index q2 := by first | rfl | assumption) (y1 : s_ty r0 = 3 := by first | rfl | assumption) (n6 : s_nth f3 23 = some v5 := by first | rfl | assumption) (n8 : s_nth f3 13 = some v7 := by first | rfl | assumption)  : wr P d sw_c447 sw_h447 (47, [r0, r1, vi x2, vi x3], [], h, kc, ks) Q := by
  refine w_ld rfl rfl (Or.inr (Or.inr ⟨by decide, y1⟩)) ?_
  refine w_ld rfl rfl (Or.inr (Or.inr ⟨by decide, y1⟩)) ?_
  subst e_q2
  refine w_getf rfl g4 n6 ?_
  refine w_ld rfl rfl (Or.inr (Or.inr ⟨by decide, rfl⟩)) ?_
  refine w_getf rfl g4 n8 ?_
  exact w_cv rfl [.index q2, v5, v7] [] rfl rfl (s_wt_4 rfl) rfl g4 k

theorem k447_59 {P : s_P} {d : Nat} {Q : s_O → Prop} {h : s_H} {kc ks : Nat} {r0 r1 : Term} {x2 x3 : Int}  (k : wr P d sw_c447 sw_h447 (17, [r0, r1, vi x2, vi (x3 + (-1))], [], h, kc, ks) Q)   : wr P d sw_c447 sw_h447 (59, [r0, r1, vi x2, vi x3], [], h, kc, ks) Q := by
  refine w_iinc (ls' := [r0, r1, vi x2, vi (x3 + (-1))]) rfl rfl (-1) (by decide) rfl ?_
  refine w_goto rfl ?_
  exact k

theorem k447_65 {P : s_P} {d : Nat} {Q : s_O → Prop} {h : s_H} {kc ks : Nat} {r0 r1 : Term} {x2 x3 : Int}  (k : Q (.inl none, h, kc, ks))   : wr P d sw_c447 sw_h447 (65, [r0, r1, vi x2, vi x3], [], h, kc, ks) Q := by
  exact w_ret rfl k

/-! 448: FormulaWorksModel.findCommon()V -/
theorem k448_0 {P : s_P} {d : Nat} {Q : s_O → Prop} {h : s_H} {kc ks : Nat} {r0 t1 t2 t3 : Term} {q2 : Nat} {f3 : List Term} {v5 : Term} (g4 : s_get h q2 = some (1, 11, f3)) (k : wm P d 463 [v5] h (wq P d sw_c448 sw_h448 7 [.index q2, t1, t2, t3] [] kc ks Q)) (e_q2 : r0 = .index q2 := by first | rfl | assumption) (y1 : s_ty r0 = 3 := by first | rfl | assumption) (n6 : s_nth f3 19 = some v5 := by first | rfl | assumption)  : wr P d sw_c448 sw_h448 (0, [r0, t1, t2, t3], [], h, kc, ks) Q := by
  refine w_ld rfl rfl (Or.inr (Or.inr ⟨by decide, y1⟩)) ?_
  subst e_q2
  refine w_getf rfl g4 n6 ?_
  exact w_cs rfl [v5] [] rfl rfl (s_wt_4 rfl) k

theorem k448_7 {P : s_P} {d : Nat} {Q : s_O → Prop} {h : s_H} {kc ks : Nat} {r0 t1 t2 t3 : Term} {s0 : Int}  (k1 : s0 < 0 → wr P d sw_c448 sw_h448 (66, [r0, t1, t2, t3], [], h, kc, ks) Q) (k2 : ¬ s0 < 0 → wr P d sw_c448 sw_h448 (10, [r0, t1, t2, t3], [], h, kc, ks) Q)  (c1 : In3 s0 := by first | omega | assumption | (simp only [mk_len, List.length_map]; omega) | decide) : wr P d sw_c448 sw_h448 (7, [r0, t1, t2, t3], [vi s0], h, kc, ks) Q := by
  exact w_if1 rfl c1 k1 k2

theorem k448_10 {P : s_P} {d : Nat} {Q : s_O → Prop} {h : s_H} {kc ks : Nat} {r0 t1 t2 t3 : Term} {q2 : Nat} {f3 : List Term} {v5 v7 : Term} (g4 : s_get h q2 = some (1, 11, f3)) (k : wm P d 433 [.index q2, v5, v7] h (wq P d sw_c448 sw_h448 22 [.index q2, t1, t2, t3] [] kc ks Q)) (e_q2 : r0 = .index q2 := by first | rfl | assumption) (y1 : s_ty r0 = 3 := by first | rfl | assumption) (n6 : s_nth f3 18 = some v5 := by first | rfl | assumption) (n8 : s_nth f3 19 = some v7 := by first | rfl | assumption)  : wr P d sw_c448 sw_h448 (10, [r0, t1, t2, t3], [], h, kc, ks) Q := by
  refine w_ld rfl rfl (Or.inr (Or.inr ⟨by decide, y1⟩)) ?_
  refine w_ld rfl rfl (Or.inr (Or.inr ⟨by decide, y1⟩)) ?_
  subst e_q2
  refine w_getf rfl g4 n6 ?_
  refine w_ld rfl rfl (Or.inr (Or.inr ⟨by decide, rfl⟩)) ?_
  refine w_getf rfl g4 n8 ?_
  exact w_cv rfl [.index q2, v5, v7] [] rfl rfl (s_wt_4 rfl) rfl g4 k

theorem k448_22 {P : s_P} {d : Nat} {Q : s_O → Prop} {h : s_H} {kc ks : Nat} {r0 t1 t2 t3 : Term}  (k : wr P d sw_c448 sw_h448 (24, [r0, vi 0, t2, t3], [], h, kc, ks) Q) (y1 : s_ty r0 = 3 := by first | rfl | assumption)  : wr P d sw_c448 sw_h448 (22, [r0, t1, t2, t3], [], h, kc, ks) Q := by
  refine w_c32 rfl (by decide) 0 (by decide) ?_
  refine w_st (ls' := [r0, vi 0, t2, t3]) rfl (Or.inl ⟨by decide, rfl⟩) (s_stK_r (pre := []) y1) ?_
  exact k

theorem k448_24 {P : s_P} {d : Nat} {Q : s_O → Prop} {h : s_H} {kc ks : Nat} {r0 : Term} {x1 : Int} {t2 t3 : Term}  (k1 : 176 ≤ x1 → wr P d sw_c448 sw_h448 (63, [r0, vi x1, t2, t3], [], h, kc, ks) Q) (k2 : ¬ 176 ≤ x1 → wr P d sw_c448 sw_h448 (31, [r0, vi x1, t2, t3], [], h, kc, ks) Q)  (c1 : In3 x1 := by first | omega | assumption | (simp only [mk_len, List.length_map]; omega) | decide) : wr P d sw_c448 sw_h448 (24, [r0, vi x1, t2, t3], [], h, kc, ks) Q := by
  refine w_ld rfl rfl (Or.inl ⟨by decide, rfl⟩) ?_
  refine w_c32 rfl (by decide) 176 (by decide) ?_
  exact w_if2 rfl c1 (by decide) k1 k2

theorem k448_31 {P : s_P} {d : Nat} {Q : s_O → Prop} {h : s_H} {kc ks : Nat} {r0 : Term} {x1 : Int} {t2 t3 : Term} {q2 : Nat} {f3 : List Term} {v5 : Term} {q7 : Nat} {a8 : List Int} {v13 : Term} {q15 : Nat} {a16 : List Int} {f20 : List Term} {v22 : Term} {q24 : Nat} {a25 : List Int} (g4 : s_get h q2 = some (1, 11, f3)) (g9 : s_get h q7 = some (0, 1, a8.map vl)) (g17 : s_get h q15 = some (0, 1, a16.map vl)) (g21 : s_get (hp h q7 (0, 1, (a8.set (Int.toNat (x1)) (gi a16 x1)).map vl)) q2 = some (1, 11, f20)) (g26 : s_get (hp h q7 (0, 1, (a8.set (Int.toNat (x1)) (gi a16 x1)).map vl)) q24 = some (0, 1, a25.map vl)) (k : wr P d sw_c448 sw_h448 (24, [.index q2, vi (x1 + 1), vl (gi a8 x1), .result], [], (hp (hp h q7 (0, 1, (a8.set (Int.toNat (x1)) (gi a16 x1)).map vl)) q24 (0, 1, (a25.set (Int.toNat (x1)) (gi a8 x1)).map vl)), kc, ks) Q) (e_q2 : r0 = .index q2 := by first | rfl | assumption) (e_q7 : v5 = .index q7 := by first | rfl | assumption) (e_q15 : v13 = .index q15 := by first | rfl | assumption) (e_q24 : v22 = .index q24 := by first | rfl | assumption) (y1 : s_ty r0 = 3 := by first | rfl | assumption) (n6 : s_nth f3 18 = some v5 := by first | rfl | assumption) (n14 : s_nth f3 19 = some v13 := by first | rfl | assumption) (n23 : s_nth f20 19 = some v22 := by first | rfl | assumption) (c10 : x1 < a8.length := by first | omega | assumption | (simp only [mk_len, List.length_map]; omega) | decide) (c11 : 0 ≤ x1 := by first | omega | assumption | (simp only [mk_len, List.length_map]; omega) | decide) (c12 : In3 x1 := by first | omega | assumption | (simp only [mk_len, List.length_map]; omega) | decide) (c18 : x1 < a16.length := by first | omega | assumption | (simp only [mk_len, List.length_map]; omega) | decide) (c19 : 0 < q7 := by first | omega | assumption | (simp only [mk_len, List.length_map]; omega) | decide) (c27 : x1 < a25.length := by first | omega | assumption | (simp only [mk_len, List.length_map]; omega) | decide) (c28 : 0 < q24 := by first | omega | assumption | (simp only [mk_len, List.length_map]; omega) | decide) : wr P d sw_c448 sw_h448 (31, [r0, vi x1, t2, t3], [], h, kc, ks) Q := by
  refine w_ld rfl rfl (Or.inr (Or.inr ⟨by decide, y1⟩)) ?_
  subst e_q2
  refine w_getf rfl g4 n6 ?_
  refine w_ld rfl rfl (Or.inl ⟨by decide, rfl⟩) ?_
  subst e_q7
  refine w_lald rfl g9 c12 c11 c10 ?_
  refine w_stl (ls' := [.index q2, vi x1, vl (gi a8 x1), t3]) (ls'' := [.index q2, vi x1, vl (gi a8 x1), .result]) rfl ⟨by decide, rfl⟩ rfl rfl ?_
  refine w_ld rfl rfl (Or.inr (Or.inr ⟨by decide, rfl⟩)) ?_
  refine w_getf rfl g4 n6 ?_
  refine w_ld rfl rfl (Or.inl ⟨by decide, rfl⟩) ?_
  refine w_ld rfl rfl (Or.inr (Or.inr ⟨by decide, rfl⟩)) ?_
  refine w_getf rfl g4 n14 ?_
  refine w_ld rfl rfl (Or.inl ⟨by decide, rfl⟩) ?_
  subst e_q15
  refine w_lald rfl g17 c12 c11 c18 ?_
  refine w_last rfl g9 (Nat.ble_eq_true_of_le c19) c12 c11 c10 ?_
  refine w_ld rfl rfl (Or.inr (Or.inr ⟨by decide, rfl⟩)) ?_
  refine w_getf rfl g21 n23 ?_
  refine w_ld rfl rfl (Or.inl ⟨by decide, rfl⟩) ?_
  refine w_ld rfl rfl (Or.inr (Or.inl ⟨by decide, rfl⟩)) ?_
  subst e_q24
  refine w_last rfl g26 (Nat.ble_eq_true_of_le c28) c12 c11 c27 ?_
  refine w_iinc (ls' := [.index q2, vi (x1 + 1), vl (gi a8 x1), .result]) rfl rfl 1 (by decide) rfl ?_
  refine w_goto rfl ?_
  exact k

theorem k448_63 {P : s_P} {d : Nat} {Q : s_O → Prop} {h : s_H} {kc ks : Nat} {r0 : Term} {x1 : Int} {t2 t3 : Term}  (k : wr P d sw_c448 sw_h448 (0, [r0, vi x1, t2, t3], [], h, kc, ks) Q)   : wr P d sw_c448 sw_h448 (63, [r0, vi x1, t2, t3], [], h, kc, ks) Q := by
  refine w_goto rfl ?_
  exact k

theorem k448_66 {P : s_P} {d : Nat} {Q : s_O → Prop} {h : s_H} {kc ks : Nat} {r0 t1 t2 t3 : Term} {q2 : Nat} {f3 : List Term} {v5 : Term} (g4 : s_get h q2 = some (1, 11, f3)) (k : wm P d 521 [v5] h (wq P d sw_c448 sw_h448 73 [.index q2, t1, t2, t3] [] kc ks Q)) (e_q2 : r0 = .index q2 := by first | rfl | assumption) (y1 : s_ty r0 = 3 := by first | rfl | assumption) (n6 : s_nth f3 18 = some v5 := by first | rfl | assumption)  : wr P d sw_c448 sw_h448 (66, [r0, t1, t2, t3], [], h, kc, ks) Q := by
  refine w_ld rfl rfl (Or.inr (Or.inr ⟨by decide, y1⟩)) ?_
  subst e_q2
  refine w_getf rfl g4 n6 ?_
  exact w_cs rfl [v5] [] rfl rfl (s_wt_4 rfl) k

theorem k448_73 {P : s_P} {d : Nat} {Q : s_O → Prop} {h : s_H} {kc ks : Nat} {r0 t1 t2 t3 : Term}  (k : Q (.inl none, h, kc, ks))   : wr P d sw_c448 sw_h448 (73, [r0, t1, t2, t3], [], h, kc, ks) Q := by
  exact w_ret rfl k

/-! 449: FormulaWorksModel.findCore()V -/
theorem k449_0 {P : s_P} {d : Nat} {Q : s_O → Prop} {h : s_H} {kc ks : Nat} {r0 t1 t2 t3 t4 : Term} {q2 : Nat} {f3 : List Term} (g4 : s_get h q2 = some (1, 11, f3)) (k : wm P d 598 [.index q2] h (wq P d sw_c449 sw_h449 4 [.index q2, t1, t2, t3, t4] [] kc ks Q)) (e_q2 : r0 = .index q2 := by first | rfl | assumption) (y1 : s_ty r0 = 3 := by first | rfl | assumption)  : wr P d sw_c449 sw_h449 (0, [r0, t1, t2, t3, t4], [], h, kc, ks) Q := by
  refine w_ld rfl rfl (Or.inr (Or.inr ⟨by decide, y1⟩)) ?_
  subst e_q2
  exact w_cv rfl [.index q2] [] rfl rfl (s_wt_4 rfl) rfl g4 k

theorem k449_4 {P : s_P} {d : Nat} {Q : s_O → Prop} {h : s_H} {kc ks : Nat} {r0 t1 t2 t3 t4 : Term} {q2 : Nat} {f3 : List Term} {v5 : Term} (g4 : s_get h q2 = some (1, 11, f3)) (k : wm P d 438 [v5] h (wq P d sw_c449 sw_h449 11 [.index q2, t1, t2, t3, t4] [] kc ks Q)) (e_q2 : r0 = .index q2 := by first | rfl | assumption) (y1 : s_ty r0 = 3 := by first | rfl | assumption) (n6 : s_nth f3 42 = some v5 := by first | rfl | assumption)  : wr P d sw_c449 sw_h449 (4, [r0, t1, t2, t3, t4], [], h, kc, ks) Q := by
  refine w_ld rfl rfl (Or.inr (Or.inr ⟨by decide, y1⟩)) ?_
  subst e_q2
  refine w_getf rfl g4 n6 ?_
  exact w_cs rfl [v5] [] rfl rfl (s_wt_4 rfl) k

theorem k449_11 {P : s_P} {d : Nat} {Q : s_O → Prop} {h : s_H} {kc ks : Nat} {r0 t1 t2 t3 t4 : Term}  (k : wr P d sw_c449 sw_h449 (13, [r0, vi 0, t2, t3, t4], [], h, kc, ks) Q) (y1 : s_ty r0 = 3 := by first | rfl | assumption)  : wr P d sw_c449 sw_h449 (11, [r0, t1, t2, t3, t4], [], h, kc, ks) Q := by
  refine w_c32 rfl (by decide) 0 (by decide) ?_
  refine w_st (ls' := [r0, vi 0, t2, t3, t4]) rfl (Or.inl ⟨by decide, rfl⟩) (s_stK_r (pre := []) y1) ?_
  exact k

theorem k449_13 {P : s_P} {d : Nat} {Q : s_O → Prop} {h : s_H} {kc ks : Nat} {r0 : Term} {x1 : Int} {t2 t3 t4 : Term}  (k1 : 40 < x1 → wr P d sw_c449 sw_h449 (51, [r0, vi x1, t2, t3, t4], [], h, kc, ks) Q) (k2 : ¬ 40 < x1 → wr P d sw_c449 sw_h449 (19, [r0, vi x1, t2, t3, t4], [], h, kc, ks) Q)  (c1 : In3 x1 := by first | omega | assumption | (simp only [mk_len, List.length_map]; omega) | decide) : wr P d sw_c449 sw_h449 (13, [r0, vi x1, t2, t3, t4], [], h, kc, ks) Q := by
  refine w_ld rfl rfl (Or.inl ⟨by decide, rfl⟩) ?_
  refine w_c32 rfl (by decide) 40 (by decide) ?_
  exact w_if2 rfl c1 (by decide) k1 k2

theorem k449_19 {P : s_P} {d : Nat} {Q : s_O → Prop} {h : s_H} {kc ks : Nat} {r0 : Term} {x1 : Int} {t2 t3 t4 : Term} {q2 : Nat} {f3 : List Term} {v5 v7 : Term} {q9 : Nat} {a10 : List Int} (g4 : s_get h q2 = some (1, 11, f3)) (g11 : s_get h q9 = some (0, 1, a10.map vl)) (k : wm P d 467 [vl (x1 + 1)] h (wq P d sw_c449 sw_h449 39 [.index q2, vi x1, t2, t3, t4] [vl (gi a10 x1), vi (x1 + 1), v5] kc ks Q)) (e_q2 : r0 = .index q2 := by first | rfl | assumption) (e_q9 : v7 = .index q9 := by first | rfl | assumption) (y1 : s_ty r0 = 3 := by first | rfl | assumption) (n6 : s_nth f3 42 = some v5 := by first | rfl | assumption) (n8 : s_nth f3 21 = some v7 := by first | rfl | assumption) (c12 : x1 < a10.length := by first | omega | assumption | (simp only [mk_len, List.length_map]; omega) | decide) (c13 : 0 ≤ x1 := by first | omega | assumption | (simp only [mk_len, List.length_map]; omega) | decide) (c14 : In3 x1 := by first | omega | assumption | (simp only [mk_len, List.length_map]; omega) | decide) : wr P d sw_c449 sw_h449 (19, [r0, vi x1, t2, t3, t4], [], h, kc, ks) Q := by
  refine w_ld rfl rfl (Or.inr (Or.inr ⟨by decide, y1⟩)) ?_
  subst e_q2
  refine w_getf rfl g4 n6 ?_
  refine w_ld rfl rfl (Or.inl ⟨by decide, rfl⟩) ?_
  refine w_c32 rfl (by decide) 1 (by decide) ?_
  refine w_iadd rfl ?_
  refine w_ld rfl rfl (Or.inr (Or.inr ⟨by decide, rfl⟩)) ?_
  refine w_getf rfl g4 n8 ?_
  refine w_ld rfl rfl (Or.inl ⟨by decide, rfl⟩) ?_
  subst e_q9
  refine w_lald rfl g11 c14 c13 c12 ?_
  refine w_ld rfl rfl (Or.inl ⟨by decide, rfl⟩) ?_
  refine w_i2l rfl c14 ?_
  refine w_c64 rfl (by decide) 1 (by decide) ?_
  refine w_ladd rfl ?_
  exact w_cs rfl [vl (x1 + 1)] [vl (gi a10 x1), vi (x1 + 1), v5] rfl rfl (s_wt_4 rfl) k

theorem k449_39 {P : s_P} {d : Nat} {Q : s_O → Prop} {h : s_H} {kc ks : Nat} {r0 : Term} {x1 : Int} {t2 t3 t4 s0 : Term} {s1 s2 s3 : Int} {q2 : Nat} {a3 : List Int} (g4 : s_get h q2 = some (0, 1, a3.map vl)) (k : wr P d sw_c449 sw_h449 (13, [r0, vi (x1 + 1), t2, t3, t4], [], (hp h q2 (0, 1, (a3.set (Int.toNat (s1)) (Int.tmod (s2 * s3) 32003)).map vl)), kc, ks) Q) (e_q2 : s0 = .index q2 := by first | rfl | assumption) (y9 : s_ty r0 = 3 := by first | rfl | assumption) (c1 : In6 (s2 * s3) := by first | omega | assumption | (simp only [mk_len, List.length_map]; omega) | decide) (c5 : s1 < a3.length := by first | omega | assumption | (simp only [mk_len, List.length_map]; omega) | decide) (c6 : 0 ≤ s1 := by first | omega | assumption | (simp only [mk_len, List.length_map]; omega) | decide) (c7 : In3 s1 := by first | omega | assumption | (simp only [mk_len, List.length_map]; omega) | decide) (c8 : 0 < q2 := by first | omega | assumption | (simp only [mk_len, List.length_map]; omega) | decide) : wr P d sw_c449 sw_h449 (39, [r0, vi x1, t2, t3, t4], [vl s3, vl s2, vi s1, s0], h, kc, ks) Q := by
  refine w_lmul rfl ?_
  refine w_c64 rfl (by decide) 32003 (by decide) ?_
  refine w_lrem rfl c1 (by decide) (by decide) ?_
  subst e_q2
  refine w_last rfl g4 (Nat.ble_eq_true_of_le c8) c7 c6 c5 ?_
  refine w_iinc (ls' := [r0, vi (x1 + 1), t2, t3, t4]) rfl rfl 1 (by decide) (s_stK_r (pre := []) y9) ?_
  refine w_goto rfl ?_
  exact k

theorem k449_51 {P : s_P} {d : Nat} {Q : s_O → Prop} {h : s_H} {kc ks : Nat} {r0 : Term} {x1 : Int} {t2 t3 t4 : Term} {q2 : Nat} {f3 : List Term} {v5 v7 : Term} (g4 : s_get h q2 = some (1, 11, f3)) (k : wm P d 596 [v5, v7] h (wq P d sw_c449 sw_h449 62 [.index q2, vi x1, t2, t3, t4] [] kc ks Q)) (e_q2 : r0 = .index q2 := by first | rfl | assumption) (y1 : s_ty r0 = 3 := by first | rfl | assumption) (n6 : s_nth f3 20 = some v5 := by first | rfl | assumption) (n8 : s_nth f3 11 = some v7 := by first | rfl | assumption)  : wr P d sw_c449 sw_h449 (51, [r0, vi x1, t2, t3, t4], [], h, kc, ks) Q := by
  refine w_ld rfl rfl (Or.inr (Or.inr ⟨by decide, y1⟩)) ?_
  subst e_q2
  refine w_getf rfl g4 n6 ?_
  refine w_ld rfl rfl (Or.inr (Or.inr ⟨by decide, rfl⟩)) ?_
  refine w_getf rfl g4 n8 ?_
  exact w_cs rfl [v5, v7] [] rfl rfl (s_wt_4 rfl) k

theorem k449_62 {P : s_P} {d : Nat} {Q : s_O → Prop} {h : s_H} {kc ks : Nat} {r0 : Term} {x1 : Int} {t2 t3 t4 : Term} {q2 : Nat} {f3 : List Term} {v5 v7 : Term} (g4 : s_get h q2 = some (1, 11, f3)) (k : wm P d 423 [.index q2, v5, v7] h (wq P d sw_c449 sw_h449 74 [.index q2, vi x1, t2, t3, t4] [] kc ks Q)) (e_q2 : r0 = .index q2 := by first | rfl | assumption) (y1 : s_ty r0 = 3 := by first | rfl | assumption) (n6 : s_nth f3 11 = some v5 := by first | rfl | assumption) (n8 : s_nth f3 20 = some v7 := by first | rfl | assumption)  : wr P d sw_c449 sw_h449 (62, [r0, vi x1, t2, t3, t4], [], h, kc, ks) Q := by
  refine w_ld rfl rfl (Or.inr (Or.inr ⟨by decide, y1⟩)) ?_
  refine w_ld rfl rfl (Or.inr (Or.inr ⟨by decide, y1⟩)) ?_
  subst e_q2
  refine w_getf rfl g4 n6 ?_
  refine w_ld rfl rfl (Or.inr (Or.inr ⟨by decide, rfl⟩)) ?_
  refine w_getf rfl g4 n8 ?_
  exact w_cv rfl [.index q2, v5, v7] [] rfl rfl (s_wt_4 rfl) rfl g4 k

theorem k449_74 {P : s_P} {d : Nat} {Q : s_O → Prop} {h : s_H} {kc ks : Nat} {r0 : Term} {x1 : Int} {t2 t3 t4 : Term} {q2 : Nat} {f3 : List Term} {v5 v7 : Term} (g4 : s_get h q2 = some (1, 11, f3)) (k : wm P d 425 [v5, v7] h (wq P d sw_c449 sw_h449 85 [.index q2, vi x1, t2, t3, t4] [] kc ks Q)) (e_q2 : r0 = .index q2 := by first | rfl | assumption) (y1 : s_ty r0 = 3 := by first | rfl | assumption) (n6 : s_nth f3 38 = some v5 := by first | rfl | assumption) (n8 : s_nth f3 18 = some v7 := by first | rfl | assumption)  : wr P d sw_c449 sw_h449 (74, [r0, vi x1, t2, t3, t4], [], h, kc, ks) Q := by
  refine w_ld rfl rfl (Or.inr (Or.inr ⟨by decide, y1⟩)) ?_
  subst e_q2
  refine w_getf rfl g4 n6 ?_
  refine w_ld rfl rfl (Or.inr (Or.inr ⟨by decide, rfl⟩)) ?_
  refine w_getf rfl g4 n8 ?_
  exact w_cs rfl [v5, v7] [] rfl rfl (s_wt_4 rfl) k

theorem k449_85 {P : s_P} {d : Nat} {Q : s_O → Prop} {h : s_H} {kc ks : Nat} {r0 : Term} {x1 : Int} {t2 t3 t4 : Term} {q2 : Nat} {f3 : List Term} {v5 v7 : Term} (g4 : s_get h q2 = some (1, 11, f3)) (k : wm P d 425 [v5, v7] h (wq P d sw_c449 sw_h449 96 [.index q2, vi x1, t2, t3, t4] [] kc ks Q)) (e_q2 : r0 = .index q2 := by first | rfl | assumption) (y1 : s_ty r0 = 3 := by first | rfl | assumption) (n6 : s_nth f3 39 = some v5 := by first | rfl | assumption) (n8 : s_nth f3 11 = some v7 := by first | rfl | assumption)  : wr P d sw_c449 sw_h449 (85, [r0, vi x1, t2, t3, t4], [], h, kc, ks) Q := by
  refine w_ld rfl rfl (Or.inr (Or.inr ⟨by decide, y1⟩)) ?_
  subst e_q2
  refine w_getf rfl g4 n6 ?_
  refine w_ld rfl rfl (Or.inr (Or.inr ⟨by decide, rfl⟩)) ?_
  refine w_getf rfl g4 n8 ?_
  exact w_cs rfl [v5, v7] [] rfl rfl (s_wt_4 rfl) k

theorem k449_96 {P : s_P} {d : Nat} {Q : s_O → Prop} {h : s_H} {kc ks : Nat} {r0 : Term} {x1 : Int} {t2 t3 t4 : Term} {q2 : Nat} {f3 : List Term} {v5 v7 : Term} (g4 : s_get h q2 = some (1, 11, f3)) (k : wm P d 434 [.index q2, v5, v7] h (wq P d sw_c449 sw_h449 108 [.index q2, vi x1, t2, t3, t4] [] kc ks Q)) (e_q2 : r0 = .index q2 := by first | rfl | assumption) (y1 : s_ty r0 = 3 := by first | rfl | assumption) (n6 : s_nth f3 39 = some v5 := by first | rfl | assumption) (n8 : s_nth f3 38 = some v7 := by first | rfl | assumption)  : wr P d sw_c449 sw_h449 (96, [r0, vi x1, t2, t3, t4], [], h, kc, ks) Q := by
  refine w_ld rfl rfl (Or.inr (Or.inr ⟨by decide, y1⟩)) ?_
  refine w_ld rfl rfl (Or.inr (Or.inr ⟨by decide, y1⟩)) ?_
  subst e_q2
  refine w_getf rfl g4 n6 ?_
  refine w_ld rfl rfl (Or.inr (Or.inr ⟨by decide, rfl⟩)) ?_
  refine w_getf rfl g4 n8 ?_
  exact w_cv rfl [.index q2, v5, v7] [] rfl rfl (s_wt_4 rfl) rfl g4 k

theorem k449_108 {P : s_P} {d : Nat} {Q : s_O → Prop} {h : s_H} {kc ks : Nat} {r0 : Term} {x1 : Int} {t2 t3 t4 : Term} {q2 : Nat} {f3 : List Term} {v5 v7 : Term} (g4 : s_get h q2 = some (1, 11, f3)) (k : wm P d 596 [v5, v7] h (wq P d sw_c449 sw_h449 119 [.index q2, vi x1, t2, t3, t4] [] kc ks Q)) (e_q2 : r0 = .index q2 := by first | rfl | assumption) (y1 : s_ty r0 = 3 := by first | rfl | assumption) (n6 : s_nth f3 22 = some v5 := by first | rfl | assumption) (n8 : s_nth f3 38 = some v7 := by first | rfl | assumption)  : wr P d sw_c449 sw_h449 (108, [r0, vi x1, t2, t3, t4], [], h, kc, ks) Q := by
  refine w_ld rfl rfl (Or.inr (Or.inr ⟨by decide, y1⟩)) ?_
  subst e_q2
  refine w_getf rfl g4 n6 ?_
  refine w_ld rfl rfl (Or.inr (Or.inr ⟨by decide, rfl⟩)) ?_
  refine w_getf rfl g4 n8 ?_
  exact w_cs rfl [v5, v7] [] rfl rfl (s_wt_4 rfl) k

theorem k449_119 {P : s_P} {d : Nat} {Q : s_O → Prop} {h : s_H} {kc ks : Nat} {r0 : Term} {x1 : Int} {t2 t3 t4 : Term} {q2 : Nat} {f3 : List Term} {v5 v7 : Term} (g4 : s_get h q2 = some (1, 11, f3)) (k : wm P d 532 [.index q2, v5, v7] h (wq P d sw_c449 sw_h449 131 [.index q2, vi x1, t2, t3, t4] [] kc ks Q)) (e_q2 : r0 = .index q2 := by first | rfl | assumption) (y1 : s_ty r0 = 3 := by first | rfl | assumption) (n6 : s_nth f3 22 = some v5 := by first | rfl | assumption) (n8 : s_nth f3 39 = some v7 := by first | rfl | assumption)  : wr P d sw_c449 sw_h449 (119, [r0, vi x1, t2, t3, t4], [], h, kc, ks) Q := by
  refine w_ld rfl rfl (Or.inr (Or.inr ⟨by decide, y1⟩)) ?_
  refine w_ld rfl rfl (Or.inr (Or.inr ⟨by decide, y1⟩)) ?_
  subst e_q2
  refine w_getf rfl g4 n6 ?_
  refine w_ld rfl rfl (Or.inr (Or.inr ⟨by decide, rfl⟩)) ?_
  refine w_getf rfl g4 n8 ?_
  exact w_cv rfl [.index q2, v5, v7] [] rfl rfl (s_wt_4 rfl) rfl g4 k

theorem k449_131 {P : s_P} {d : Nat} {Q : s_O → Prop} {h : s_H} {kc ks : Nat} {r0 : Term} {x1 : Int} {t2 t3 t4 : Term} {q2 : Nat} {f3 : List Term} {v5 v7 : Term} (g4 : s_get h q2 = some (1, 11, f3)) (k : wm P d 434 [.index q2, v5, v7] h (wq P d sw_c449 sw_h449 143 [.index q2, vi x1, t2, t3, t4] [] kc ks Q)) (e_q2 : r0 = .index q2 := by first | rfl | assumption) (y1 : s_ty r0 = 3 := by first | rfl | assumption) (n6 : s_nth f3 22 = some v5 := by first | rfl | assumption) (n8 : s_nth f3 38 = some v7 := by first | rfl | assumption)  : wr P d sw_c449 sw_h449 (131, [r0, vi x1, t2, t3, t4], [], h, kc, ks) Q := by
  refine w_ld rfl rfl (Or.inr (Or.inr ⟨by decide, y1⟩)) ?_
  refine w_ld rfl rfl (Or.inr (Or.inr ⟨by decide, y1⟩)) ?_
  subst e_q2
  refine w_getf rfl g4 n6 ?_
  refine w_ld rfl rfl (Or.inr (Or.inr ⟨by decide, rfl⟩)) ?_
  refine w_getf rfl g4 n8 ?_
  exact w_cv rfl [.index q2, v5, v7] [] rfl rfl (s_wt_4 rfl) rfl g4 k

theorem k449_143 {P : s_P} {d : Nat} {Q : s_O → Prop} {h : s_H} {kc ks : Nat} {r0 : Term} {x1 : Int} {t2 t3 t4 : Term} {q2 : Nat} {f3 : List Term} {v5 : Term} (g4 : s_get h q2 = some (1, 11, f3)) (k : wm P d 463 [v5] h (wq P d sw_c449 sw_h449 150 [.index q2, vi x1, t2, t3, t4] [] kc ks Q)) (e_q2 : r0 = .index q2 := by first | rfl | assumption) (y1 : s_ty r0 = 3 := by first | rfl | assumption) (n6 : s_nth f3 11 = some v5 := by first | rfl | assumption)  : wr P d sw_c449 sw_h449 (143, [r0, vi x1, t2, t3, t4], [], h, kc, ks) Q := by
  refine w_ld rfl rfl (Or.inr (Or.inr ⟨by decide, y1⟩)) ?_
  subst e_q2
  refine w_getf rfl g4 n6 ?_
  exact w_cs rfl [v5] [] rfl rfl (s_wt_4 rfl) k

theorem k449_150 {P : s_P} {d : Nat} {Q : s_O → Prop} {h : s_H} {kc ks : Nat} {r0 : Term} {x1 : Int} {t2 t3 t4 : Term} {s0 : Int} {q2 : Nat} {f3 : List Term} {v5 : Term} (g4 : s_get h q2 = some (1, 11, f3)) (k : wm P d 463 [v5] h (wq P d sw_c449 sw_h449 158 [.index q2, vi s0, t2, t3, t4] [] kc ks Q)) (e_q2 : r0 = .index q2 := by first | rfl | assumption) (y1 : s_ty r0 = 3 := by first | rfl | assumption) (n6 : s_nth f3 38 = some v5 := by first | rfl | assumption)  : wr P d sw_c449 sw_h449 (150, [r0, vi x1, t2, t3, t4], [vi s0], h, kc, ks) Q := by
  refine w_st (ls' := [r0, vi s0, t2, t3, t4]) rfl (Or.inl ⟨by decide, rfl⟩) (s_stK_r (pre := []) y1) ?_
  refine w_ld rfl rfl (Or.inr (Or.inr ⟨by decide, y1⟩)) ?_
  subst e_q2
  refine w_getf rfl g4 n6 ?_
  exact w_cs rfl [v5] [] rfl rfl (s_wt_4 rfl) k

theorem k449_158 {P : s_P} {d : Nat} {Q : s_O → Prop} {h : s_H} {kc ks : Nat} {r0 : Term} {x1 : Int} {t2 t3 t4 : Term} {s0 : Int} {q2 : Nat} {f3 : List Term} (g4 : s_get h q2 = some (1, 11, f3)) (k : wm P d 439 [.index q2] h (wq P d sw_c449 sw_h449 163 [.index q2, vi x1, vi s0, t3, t4] [] kc ks Q)) (e_q2 : r0 = .index q2 := by first | rfl | assumption) (y1 : s_ty r0 = 3 := by first | rfl | assumption)  : wr P d sw_c449 sw_h449 (158, [r0, vi x1, t2, t3, t4], [vi s0], h, kc, ks) Q := by
  refine w_st (ls' := [r0, vi x1, vi s0, t3, t4]) rfl (Or.inl ⟨by decide, rfl⟩) rfl ?_
  refine w_ld rfl rfl (Or.inr (Or.inr ⟨by decide, y1⟩)) ?_
  subst e_q2
  exact w_cv rfl [.index q2] [] rfl rfl (s_wt_4 rfl) rfl g4 k

theorem k449_163 {P : s_P} {d : Nat} {Q : s_O → Prop} {h : s_H} {kc ks : Nat} {r0 : Term} {x1 x2 : Int} {t3 t4 : Term}  (k : wr P d sw_c449 sw_h449 (165, [r0, vi x1, vi x2, vi 0, t4], [], h, kc, ks) Q)   : wr P d sw_c449 sw_h449 (163, [r0, vi x1, vi x2, t3, t4], [], h, kc, ks) Q := by
  refine w_c32 rfl (by decide) 0 (by decide) ?_
  refine w_st (ls' := [r0, vi x1, vi x2, vi 0, t4]) rfl (Or.inl ⟨by decide, rfl⟩) rfl ?_
  exact k

theorem k449_165 {P : s_P} {d : Nat} {Q : s_O → Prop} {h : s_H} {kc ks : Nat} {r0 : Term} {x1 x2 x3 : Int} {t4 : Term}  (k1 : x1 ≤ x3 → wr P d sw_c449 sw_h449 (352, [r0, vi x1, vi x2, vi x3, t4], [], h, kc, ks) Q) (k2 : ¬ x1 ≤ x3 → wr P d sw_c449 sw_h449 (170, [r0, vi x1, vi x2, vi x3, t4], [], h, kc, ks) Q)  (c1 : In3 x3 := by first | omega | assumption | (simp only [mk_len, List.length_map]; omega) | decide) (c2 : In3 x1 := by first | omega | assumption | (simp only [mk_len, List.length_map]; omega) | decide) : wr P d sw_c449 sw_h449 (165, [r0, vi x1, vi x2, vi x3, t4], [], h, kc, ks) Q := by
  refine w_ld rfl rfl (Or.inl ⟨by decide, rfl⟩) ?_
  refine w_ld rfl rfl (Or.inl ⟨by decide, rfl⟩) ?_
  exact w_if2 rfl c1 c2 k1 k2

theorem k449_170 {P : s_P} {d : Nat} {Q : s_O → Prop} {h : s_H} {kc ks : Nat} {r0 : Term} {x1 x2 x3 : Int} {t4 : Term} {q2 : Nat} {f3 : List Term} {v5 : Term} (g4 : s_get h q2 = some (1, 11, f3)) (k : wm P d 438 [v5] h (wq P d sw_c449 sw_h449 177 [.index q2, vi x1, vi x2, vi x3, t4] [] kc ks Q)) (e_q2 : r0 = .index q2 := by first | rfl | assumption) (y1 : s_ty r0 = 3 := by first | rfl | assumption) (n6 : s_nth f3 23 = some v5 := by first | rfl | assumption)  : wr P d sw_c449 sw_h449 (170, [r0, vi x1, vi x2, vi x3, t4], [], h, kc, ks) Q := by
  refine w_ld rfl rfl (Or.inr (Or.inr ⟨by decide, y1⟩)) ?_
  subst e_q2
  refine w_getf rfl g4 n6 ?_
  exact w_cs rfl [v5] [] rfl rfl (s_wt_4 rfl) k

theorem k449_177 {P : s_P} {d : Nat} {Q : s_O → Prop} {h : s_H} {kc ks : Nat} {r0 : Term} {x1 x2 x3 : Int} {t4 : Term}  (k1 : x2 ≤ x3 → wr P d sw_c449 sw_h449 (275, [r0, vi x1, vi x2, vi x3, t4], [], h, kc, ks) Q) (k2 : ¬ x2 ≤ x3 → wr P d sw_c449 sw_h449 (182, [r0, vi x1, vi x2, vi x3, t4], [], h, kc, ks) Q)  (c1 : In3 x3 := by first | omega | assumption | (simp only [mk_len, List.length_map]; omega) | decide) (c2 : In3 x2 := by first | omega | assumption | (simp only [mk_len, List.length_map]; omega) | decide) : wr P d sw_c449 sw_h449 (177, [r0, vi x1, vi x2, vi x3, t4], [], h, kc, ks) Q := by
  refine w_ld rfl rfl (Or.inl ⟨by decide, rfl⟩) ?_
  refine w_ld rfl rfl (Or.inl ⟨by decide, rfl⟩) ?_
  exact w_if2 rfl c1 c2 k1 k2

theorem k449_182 {P : s_P} {d : Nat} {Q : s_O → Prop} {h : s_H} {kc ks : Nat} {r0 : Term} {x1 x2 x3 : Int} {t4 : Term}  (k : wr P d sw_c449 sw_h449 (185, [r0, vi x1, vi x2, vi x3, vi 0], [], h, kc, ks) Q)   : wr P d sw_c449 sw_h449 (182, [r0, vi x1, vi x2, vi x3, t4], [], h, kc, ks) Q := by
  refine w_c32 rfl (by decide) 0 (by decide) ?_
  refine w_st (ls' := [r0, vi x1, vi x2, vi x3, vi 0]) rfl (Or.inl ⟨by decide, rfl⟩) rfl ?_
  exact k

theorem k449_185 {P : s_P} {d : Nat} {Q : s_O → Prop} {h : s_H} {kc ks : Nat} {r0 : Term} {x1 x2 x3 x4 : Int}  (k1 : x1 < x4 + x3 → wr P d sw_c449 sw_h449 (272, [r0, vi x1, vi x2, vi x3, vi x4], [], h, kc, ks) Q) (k2 : ¬ x1 < x4 + x3 → wr P d sw_c449 sw_h449 (193, [r0, vi x1, vi x2, vi x3, vi x4], [], h, kc, ks) Q)  (c1 : In3 (x4 + x3) := by first | omega | assumption | (simp only [mk_len, List.length_map]; omega) | decide) (c2 : In3 x1 := by first | omega | assumption | (simp only [mk_len, List.length_map]; omega) | decide) : wr P d sw_c449 sw_h449 (185, [r0, vi x1, vi x2, vi x3, vi x4], [], h, kc, ks) Q := by
  refine w_ld rfl rfl (Or.inl ⟨by decide, rfl⟩) ?_
  refine w_ld rfl rfl (Or.inl ⟨by decide, rfl⟩) ?_
  refine w_iadd rfl ?_
  refine w_ld rfl rfl (Or.inl ⟨by decide, rfl⟩) ?_
  exact w_if2 rfl c1 c2 k1 k2

theorem k449_193 {P : s_P} {d : Nat} {Q : s_O → Prop} {h : s_H} {kc ks : Nat} {r0 : Term} {x1 x2 x3 x4 : Int}  (k1 : x3 + x4 ≤ 0 → wr P d sw_c449 sw_h449 (237, [r0, vi x1, vi x2, vi x3, vi x4], [], h, kc, ks) Q) (k2 : ¬ x3 + x4 ≤ 0 → wr P d sw_c449 sw_h449 (200, [r0, vi x1, vi x2, vi x3, vi x4], [], h, kc, ks) Q)  (c1 : In3 (x3 + x4) := by first | omega | assumption | (simp only [mk_len, List.length_map]; omega) | decide) : wr P d sw_c449 sw_h449 (193, [r0, vi x1, vi x2, vi x3, vi x4], [], h, kc, ks) Q := by
  refine w_ld rfl rfl (Or.inl ⟨by decide, rfl⟩) ?_
  refine w_ld rfl rfl (Or.inl ⟨by decide, rfl⟩) ?_
  refine w_iadd rfl ?_
  exact w_if1 rfl c1 k1 k2

theorem k449_200 {P : s_P} {d : Nat} {Q : s_O → Prop} {h : s_H} {kc ks : Nat} {r0 : Term} {x1 x2 x3 x4 : Int} {q2 : Nat} {f3 : List Term} {v5 : Term} {q7 : Nat} {a8 : List Int} {v14 : Term} {q16 : Nat} {a17 : List Int} (g4 : s_get h q2 = some (1, 11, f3)) (g9 : s_get h q7 = some (0, 1, a8.map vl)) (g18 : s_get h q16 = some (0, 1, a17.map vl)) (k : wr P d sw_c449 sw_h449 (237, [.index q2, vi x1, vi x2, vi x3, vi x4], [], (hp h q7 (0, 1, (a8.set (Int.toNat ((x3 + x4) - 1)) (Int.tmod ((gi a8 ((x3 + x4) - 1)) + (x3 * (gi a17 x4))) 32003)).map vl)), kc, ks) Q) (e_q2 : r0 = .index q2 := by first | rfl | assumption) (e_q7 : v5 = .index q7 := by first | rfl | assumption) (e_q16 : v14 = .index q16 := by first | rfl | assumption) (y1 : s_ty r0 = 3 := by first | rfl | assumption) (n6 : s_nth f3 23 = some v5 := by first | rfl | assumption) (n15 : s_nth f3 39 = some v14 := by first | rfl | assumption) (c10 : (x3 + x4) - 1 < a8.length := by first | omega | assumption | (simp only [mk_len, List.length_map]; omega) | decide) (c11 : 0 ≤ (x3 + x4) - 1 := by first | omega | assumption | (simp only [mk_len, List.length_map]; omega) | decide) (c12 : In3 ((x3 + x4) - 1) := by first | omega | assumption | (simp only [mk_len, List.length_map]; omega) | decide) (c13 : In3 x3 := by first | omega | assumption | (simp only [mk_len, List.length_map]; omega) | decide) (c19 : x4 < a17.length := by first | omega | assumption | (simp only [mk_len, List.length_map]; omega) | decide) (c20 : 0 ≤ x4 := by first | omega | assumption | (simp only [mk_len, List.length_map]; omega) | decide) (c21 : In3 x4 := by first | omega | assumption | (simp only [mk_len, List.length_map]; omega) | decide) (c22 : In6 ((gi a8 ((x3 + x4) - 1)) + (x3 * (gi a17 x4))) := by first | omega | assumption | (simp only [mk_len, List.length_map]; omega) | decide) (c23 : 0 < q7 := by first | omega | assumption | (simp only [mk_len, List.length_map]; omega) | decide) : wr P d sw_c449 sw_h449 (200, [r0, vi x1, vi x2, vi x3, vi x4], [], h, kc, ks) Q := by
  refine w_ld rfl rfl (Or.inr (Or.inr ⟨by decide, y1⟩)) ?_
  subst e_q2
  refine w_getf rfl g4 n6 ?_
  refine w_ld rfl rfl (Or.inl ⟨by decide, rfl⟩) ?_
  refine w_ld rfl rfl (Or.inl ⟨by decide, rfl⟩) ?_
  refine w_iadd rfl ?_
  refine w_c32 rfl (by decide) 1 (by decide) ?_
  refine w_isub rfl ?_
  refine w_ld rfl rfl (Or.inr (Or.inr ⟨by decide, rfl⟩)) ?_
  refine w_getf rfl g4 n6 ?_
  refine w_ld rfl rfl (Or.inl ⟨by decide, rfl⟩) ?_
  refine w_ld rfl rfl (Or.inl ⟨by decide, rfl⟩) ?_
  refine w_iadd rfl ?_
  refine w_c32 rfl (by decide) 1 (by decide) ?_
  refine w_isub rfl ?_
  subst e_q7
  refine w_lald rfl g9 c12 c11 c10 ?_
  refine w_ld rfl rfl (Or.inl ⟨by decide, rfl⟩) ?_
  refine w_i2l rfl c13 ?_
  refine w_ld rfl rfl (Or.inr (Or.inr ⟨by decide, rfl⟩)) ?_
  refine w_getf rfl g4 n15 ?_
  refine w_ld rfl rfl (Or.inl ⟨by decide, rfl⟩) ?_
  subst e_q16
  refine w_lald rfl g18 c21 c20 c19 ?_
  refine w_lmul rfl ?_
  refine w_ladd rfl ?_
  refine w_c64 rfl (by decide) 32003 (by decide) ?_
  refine w_lrem rfl c22 (by decide) (by decide) ?_
  refine w_last rfl g9 (Nat.ble_eq_true_of_le c23) c12 c11 c10 ?_
  exact k

theorem k449_237 {P : s_P} {d : Nat} {Q : s_O → Prop} {h : s_H} {kc ks : Nat} {r0 : Term} {x1 x2 x3 x4 : Int} {q2 : Nat} {f3 : List Term} {v5 : Term} {q7 : Nat} {a8 : List Int} {v13 : Term} {q15 : Nat} {a16 : List Int} (g4 : s_get h q2 = some (1, 11, f3)) (g9 : s_get h q7 = some (0, 1, a8.map vl)) (g17 : s_get h q15 = some (0, 1, a16.map vl)) (k : wm P d 528 [vl ((gi a8 (x3 + x4)) - (gi a16 x4))] h (wq P d sw_c449 sw_h449 265 [.index q2, vi x1, vi x2, vi x3, vi x4] [vi (x3 + x4), .index q7] kc ks Q)) (e_q2 : r0 = .index q2 := by first | rfl | assumption) (e_q7 : v5 = .index q7 := by first | rfl | assumption) (e_q15 : v13 = .index q15 := by first | rfl | assumption) (y1 : s_ty r0 = 3 := by first | rfl | assumption) (n6 : s_nth f3 23 = some v5 := by first | rfl | assumption) (n14 : s_nth f3 22 = some v13 := by first | rfl | assumption) (c10 : x3 + x4 < a8.length := by first | omega | assumption | (simp only [mk_len, List.length_map]; omega) | decide) (c11 : 0 ≤ x3 + x4 := by first | omega | assumption | (simp only [mk_len, List.length_map]; omega) | decide) (c12 : In3 (x3 + x4) := by first | omega | assumption | (simp only [mk_len, List.length_map]; omega) | decide) (c18 : x4 < a16.length := by first | omega | assumption | (simp only [mk_len, List.length_map]; omega) | decide) (c19 : 0 ≤ x4 := by first | omega | assumption | (simp only [mk_len, List.length_map]; omega) | decide) (c20 : In3 x4 := by first | omega | assumption | (simp only [mk_len, List.length_map]; omega) | decide) : wr P d sw_c449 sw_h449 (237, [r0, vi x1, vi x2, vi x3, vi x4], [], h, kc, ks) Q := by
  refine w_ld rfl rfl (Or.inr (Or.inr ⟨by decide, y1⟩)) ?_
  subst e_q2
  refine w_getf rfl g4 n6 ?_
  refine w_ld rfl rfl (Or.inl ⟨by decide, rfl⟩) ?_
  refine w_ld rfl rfl (Or.inl ⟨by decide, rfl⟩) ?_
  refine w_iadd rfl ?_
  refine w_ld rfl rfl (Or.inr (Or.inr ⟨by decide, rfl⟩)) ?_
  refine w_getf rfl g4 n6 ?_
  refine w_ld rfl rfl (Or.inl ⟨by decide, rfl⟩) ?_
  refine w_ld rfl rfl (Or.inl ⟨by decide, rfl⟩) ?_
  refine w_iadd rfl ?_
  subst e_q7
  refine w_lald rfl g9 c12 c11 c10 ?_
  refine w_ld rfl rfl (Or.inr (Or.inr ⟨by decide, rfl⟩)) ?_
  refine w_getf rfl g4 n14 ?_
  refine w_ld rfl rfl (Or.inl ⟨by decide, rfl⟩) ?_
  subst e_q15
  refine w_lald rfl g17 c20 c19 c18 ?_
  refine w_lsub rfl ?_
  exact w_cs rfl [vl ((gi a8 (x3 + x4)) - (gi a16 x4))] [vi (x3 + x4), .index q7] rfl rfl (s_wt_4 rfl) k

theorem k449_265 {P : s_P} {d : Nat} {Q : s_O → Prop} {h : s_H} {kc ks : Nat} {r0 : Term} {x1 x2 x3 x4 : Int} {s0 : Term} {s1 s2 : Int} {q1 : Nat} {a2 : List Int} (g3 : s_get h q1 = some (0, 1, a2.map vl)) (k : wr P d sw_c449 sw_h449 (185, [r0, vi x1, vi x2, vi x3, vi (x4 + 1)], [], (hp h q1 (0, 1, (a2.set (Int.toNat (s1)) s2).map vl)), kc, ks) Q) (e_q1 : s0 = .index q1 := by first | rfl | assumption) (c4 : s1 < a2.length := by first | omega | assumption | (simp only [mk_len, List.length_map]; omega) | decide) (c5 : 0 ≤ s1 := by first | omega | assumption | (simp only [mk_len, List.length_map]; omega) | decide) (c6 : In3 s1 := by first | omega | assumption | (simp only [mk_len, List.length_map]; omega) | decide) (c7 : 0 < q1 := by first | omega | assumption | (simp only [mk_len, List.length_map]; omega) | decide) : wr P d sw_c449 sw_h449 (265, [r0, vi x1, vi x2, vi x3, vi x4], [vl s2, vi s1, s0], h, kc, ks) Q := by
  subst e_q1
  refine w_last rfl g3 (Nat.ble_eq_true_of_le c7) c6 c5 c4 ?_
  refine w_iinc (ls' := [r0, vi x1, vi x2, vi x3, vi (x4 + 1)]) rfl rfl 1 (by decide) rfl ?_
  refine w_goto rfl ?_
  exact k

theorem k449_272 {P : s_P} {d : Nat} {Q : s_O → Prop} {h : s_H} {kc ks : Nat} {r0 : Term} {x1 x2 x3 x4 : Int}  (k : wr P d sw_c449 sw_h449 (312, [r0, vi x1, vi x2, vi x3, vi x4], [], h, kc, ks) Q)   : wr P d sw_c449 sw_h449 (272, [r0, vi x1, vi x2, vi x3, vi x4], [], h, kc, ks) Q := by
  refine w_goto rfl ?_
  exact k

theorem k449_275 {P : s_P} {d : Nat} {Q : s_O → Prop} {h : s_H} {kc ks : Nat} {r0 : Term} {x1 x2 x3 : Int} {t4 : Term}  (k : wr P d sw_c449 sw_h449 (278, [r0, vi x1, vi x2, vi x3, vi 0], [], h, kc, ks) Q)   : wr P d sw_c449 sw_h449 (275, [r0, vi x1, vi x2, vi x3, t4], [], h, kc, ks) Q := by
  refine w_c32 rfl (by decide) 0 (by decide) ?_
  refine w_st (ls' := [r0, vi x1, vi x2, vi x3, vi 0]) rfl (Or.inl ⟨by decide, rfl⟩) rfl ?_
  exact k

theorem k449_278 {P : s_P} {d : Nat} {Q : s_O → Prop} {h : s_H} {kc ks : Nat} {r0 : Term} {x1 x2 x3 x4 : Int}  (k1 : x1 ≤ (x4 + x3) - x2 → wr P d sw_c449 sw_h449 (312, [r0, vi x1, vi x2, vi x3, vi x4], [], h, kc, ks) Q) (k2 : ¬ x1 ≤ (x4 + x3) - x2 → wr P d sw_c449 sw_h449 (288, [r0, vi x1, vi x2, vi x3, vi x4], [], h, kc, ks) Q)  (c1 : In3 ((x4 + x3) - x2) := by first | omega | assumption | (simp only [mk_len, List.length_map]; omega) | decide) (c2 : In3 x1 := by first | omega | assumption | (simp only [mk_len, List.length_map]; omega) | decide) : wr P d sw_c449 sw_h449 (278, [r0, vi x1, vi x2, vi x3, vi x4], [], h, kc, ks) Q := by
  refine w_ld rfl rfl (Or.inl ⟨by decide, rfl⟩) ?_
  refine w_ld rfl rfl (Or.inl ⟨by decide, rfl⟩) ?_
  refine w_iadd rfl ?_
  refine w_ld rfl rfl (Or.inl ⟨by decide, rfl⟩) ?_
  refine w_isub rfl ?_
  refine w_ld rfl rfl (Or.inl ⟨by decide, rfl⟩) ?_
  exact w_if2 rfl c1 c2 k1 k2

theorem k449_288 {P : s_P} {d : Nat} {Q : s_O → Prop} {h : s_H} {kc ks : Nat} {r0 : Term} {x1 x2 x3 x4 : Int} {q2 : Nat} {f3 : List Term} {v5 v7 : Term} {q9 : Nat} {a10 : List Int} {q15 : Nat} {a16 : List Int} (g4 : s_get h q2 = some (1, 11, f3)) (g11 : s_get h q9 = some (0, 1, a10.map vl)) (g17 : s_get h q15 = some (0, 1, a16.map vl)) (k : wr P d sw_c449 sw_h449 (278, [.index q2, vi x1, vi x2, vi x3, vi (x4 + 1)], [], (hp h q15 (0, 1, (a16.set (Int.toNat ((x4 + x3) - x2)) (gi a10 x4)).map vl)), kc, ks) Q) (e_q2 : r0 = .index q2 := by first | rfl | assumption) (e_q9 : v7 = .index q9 := by first | rfl | assumption) (e_q15 : v5 = .index q15 := by first | rfl | assumption) (y1 : s_ty r0 = 3 := by first | rfl | assumption) (n6 : s_nth f3 23 = some v5 := by first | rfl | assumption) (n8 : s_nth f3 38 = some v7 := by first | rfl | assumption) (c12 : x4 < a10.length := by first | omega | assumption | (simp only [mk_len, List.length_map]; omega) | decide) (c13 : 0 ≤ x4 := by first | omega | assumption | (simp only [mk_len, List.length_map]; omega) | decide) (c14 : In3 x4 := by first | omega | assumption | (simp only [mk_len, List.length_map]; omega) | decide) (c18 : (x4 + x3) - x2 < a16.length := by first | omega | assumption | (simp only [mk_len, List.length_map]; omega) | decide) (c19 : 0 ≤ (x4 + x3) - x2 := by first | omega | assumption | (simp only [mk_len, List.length_map]; omega) | decide) (c20 : In3 ((x4 + x3) - x2) := by first | omega | assumption | (simp only [mk_len, List.length_map]; omega) | decide) (c21 : 0 < q15 := by first | omega | assumption | (simp only [mk_len, List.length_map]; omega) | decide) : wr P d sw_c449 sw_h449 (288, [r0, vi x1, vi x2, vi x3, vi x4], [], h, kc, ks) Q := by
  refine w_ld rfl rfl (Or.inr (Or.inr ⟨by decide, y1⟩)) ?_
  subst e_q2
  refine w_getf rfl g4 n6 ?_
  refine w_ld rfl rfl (Or.inl ⟨by decide, rfl⟩) ?_
  refine w_ld rfl rfl (Or.inl ⟨by decide, rfl⟩) ?_
  refine w_iadd rfl ?_
  refine w_ld rfl rfl (Or.inl ⟨by decide, rfl⟩) ?_
  refine w_isub rfl ?_
  refine w_ld rfl rfl (Or.inr (Or.inr ⟨by decide, rfl⟩)) ?_
  refine w_getf rfl g4 n8 ?_
  refine w_ld rfl rfl (Or.inl ⟨by decide, rfl⟩) ?_
  subst e_q9
  refine w_lald rfl g11 c14 c13 c12 ?_
  subst e_q15
  refine w_last rfl g17 (Nat.ble_eq_true_of_le c21) c20 c19 c18 ?_
  refine w_iinc (ls' := [.index q2, vi x1, vi x2, vi x3, vi (x4 + 1)]) rfl rfl 1 (by decide) rfl ?_
  refine w_goto rfl ?_
  exact k

theorem k449_312 {P : s_P} {d : Nat} {Q : s_O → Prop} {h : s_H} {kc ks : Nat} {r0 : Term} {x1 x2 x3 x4 : Int}  (k : wr P d sw_c449 sw_h449 (315, [r0, vi x1, vi x2, vi x3, vi 0], [], h, kc, ks) Q)   : wr P d sw_c449 sw_h449 (312, [r0, vi x1, vi x2, vi x3, vi x4], [], h, kc, ks) Q := by
  refine w_c32 rfl (by decide) 0 (by decide) ?_
  refine w_st (ls' := [r0, vi x1, vi x2, vi x3, vi 0]) rfl (Or.inl ⟨by decide, rfl⟩) rfl ?_
  exact k

theorem k449_315 {P : s_P} {d : Nat} {Q : s_O → Prop} {h : s_H} {kc ks : Nat} {r0 : Term} {x1 x2 x3 x4 : Int}  (k1 : x1 ≤ x4 → wr P d sw_c449 sw_h449 (346, [r0, vi x1, vi x2, vi x3, vi x4], [], h, kc, ks) Q) (k2 : ¬ x1 ≤ x4 → wr P d sw_c449 sw_h449 (321, [r0, vi x1, vi x2, vi x3, vi x4], [], h, kc, ks) Q)  (c1 : In3 x4 := by first | omega | assumption | (simp only [mk_len, List.length_map]; omega) | decide) (c2 : In3 x1 := by first | omega | assumption | (simp only [mk_len, List.length_map]; omega) | decide) : wr P d sw_c449 sw_h449 (315, [r0, vi x1, vi x2, vi x3, vi x4], [], h, kc, ks) Q := by
  refine w_ld rfl rfl (Or.inl ⟨by decide, rfl⟩) ?_
  refine w_ld rfl rfl (Or.inl ⟨by decide, rfl⟩) ?_
  exact w_if2 rfl c1 c2 k1 k2

theorem k449_321 {P : s_P} {d : Nat} {Q : s_O → Prop} {h : s_H} {kc ks : Nat} {r0 : Term} {x1 x2 x3 x4 : Int} {q2 : Nat} {f3 : List Term} {v5 v7 : Term} {q9 : Nat} {a10 : List Int} {q15 : Nat} {a16 : List Int} (g4 : s_get h q2 = some (1, 11, f3)) (g11 : s_get h q9 = some (0, 1, a10.map vl)) (g17 : s_get h q15 = some (0, 1, a16.map vl)) (k : wr P d sw_c449 sw_h449 (315, [.index q2, vi x1, vi x2, vi x3, vi (x4 + 1)], [], (hp h q15 (0, 1, (a16.set (Int.toNat ((48 * x4) + x3)) (gi a10 x4)).map vl)), kc, ks) Q) (e_q2 : r0 = .index q2 := by first | rfl | assumption) (e_q9 : v7 = .index q9 := by first | rfl | assumption) (e_q15 : v5 = .index q15 := by first | rfl | assumption) (y1 : s_ty r0 = 3 := by first | rfl | assumption) (n6 : s_nth f3 30 = some v5 := by first | rfl | assumption) (n8 : s_nth f3 23 = some v7 := by first | rfl | assumption) (c12 : x4 < a10.length := by first | omega | assumption | (simp only [mk_len, List.length_map]; omega) | decide) (c13 : 0 ≤ x4 := by first | omega | assumption | (simp only [mk_len, List.length_map]; omega) | decide) (c14 : In3 x4 := by first | omega | assumption | (simp only [mk_len, List.length_map]; omega) | decide) (c18 : (48 * x4) + x3 < a16.length := by first | omega | assumption | (simp only [mk_len, List.length_map]; omega) | decide) (c19 : 0 ≤ (48 * x4) + x3 := by first | omega | assumption | (simp only [mk_len, List.length_map]; omega) | decide) (c20 : In3 ((48 * x4) + x3) := by first | omega | assumption | (simp only [mk_len, List.length_map]; omega) | decide) (c21 : 0 < q15 := by first | omega | assumption | (simp only [mk_len, List.length_map]; omega) | decide) : wr P d sw_c449 sw_h449 (321, [r0, vi x1, vi x2, vi x3, vi x4], [], h, kc, ks) Q := by
  refine w_ld rfl rfl (Or.inr (Or.inr ⟨by decide, y1⟩)) ?_
  subst e_q2
  refine w_getf rfl g4 n6 ?_
  refine w_c32 rfl (by decide) 48 (by decide) ?_
  refine w_ld rfl rfl (Or.inl ⟨by decide, rfl⟩) ?_
  refine w_imul rfl ?_
  refine w_ld rfl rfl (Or.inl ⟨by decide, rfl⟩) ?_
  refine w_iadd rfl ?_
  refine w_ld rfl rfl (Or.inr (Or.inr ⟨by decide, rfl⟩)) ?_
  refine w_getf rfl g4 n8 ?_
  refine w_ld rfl rfl (Or.inl ⟨by decide, rfl⟩) ?_
  subst e_q9
  refine w_lald rfl g11 c14 c13 c12 ?_
  subst e_q15
  refine w_last rfl g17 (Nat.ble_eq_true_of_le c21) c20 c19 c18 ?_
  refine w_iinc (ls' := [.index q2, vi x1, vi x2, vi x3, vi (x4 + 1)]) rfl rfl 1 (by decide) rfl ?_
  refine w_goto rfl ?_
  exact k

theorem k449_346 {P : s_P} {d : Nat} {Q : s_O → Prop} {h : s_H} {kc ks : Nat} {r0 : Term} {x1 x2 x3 x4 : Int}  (k : wr P d sw_c449 sw_h449 (165, [r0, vi x1, vi x2, vi (x3 + 1), vi x4], [], h, kc, ks) Q)   : wr P d sw_c449 sw_h449 (346, [r0, vi x1, vi x2, vi x3, vi x4], [], h, kc, ks) Q := by
  refine w_iinc (ls' := [r0, vi x1, vi x2, vi (x3 + 1), vi x4]) rfl rfl 1 (by decide) rfl ?_
  refine w_goto rfl ?_
  exact k

theorem k449_352 {P : s_P} {d : Nat} {Q : s_O → Prop} {h : s_H} {kc ks : Nat} {r0 : Term} {x1 x2 x3 : Int} {t4 : Term}  (k : wr P d sw_c449 sw_h449 (354, [r0, vi x1, vi x2, vi 0, t4], [], h, kc, ks) Q)   : wr P d sw_c449 sw_h449 (352, [r0, vi x1, vi x2, vi x3, t4], [], h, kc, ks) Q := by
  refine w_c32 rfl (by decide) 0 (by decide) ?_
  refine w_st (ls' := [r0, vi x1, vi x2, vi 0, t4]) rfl (Or.inl ⟨by decide, rfl⟩) rfl ?_
  exact k

theorem k449_354 {P : s_P} {d : Nat} {Q : s_O → Prop} {h : s_H} {kc ks : Nat} {r0 : Term} {x1 x2 x3 : Int} {t4 : Term}  (k1 : x1 ≤ x3 → wr P d sw_c449 sw_h449 (383, [r0, vi x1, vi x2, vi x3, t4], [], h, kc, ks) Q) (k2 : ¬ x1 ≤ x3 → wr P d sw_c449 sw_h449 (359, [r0, vi x1, vi x2, vi x3, t4], [], h, kc, ks) Q)  (c1 : In3 x3 := by first | omega | assumption | (simp only [mk_len, List.length_map]; omega) | decide) (c2 : In3 x1 := by first | omega | assumption | (simp only [mk_len, List.length_map]; omega) | decide) : wr P d sw_c449 sw_h449 (354, [r0, vi x1, vi x2, vi x3, t4], [], h, kc, ks) Q := by
  refine w_ld rfl rfl (Or.inl ⟨by decide, rfl⟩) ?_
  refine w_ld rfl rfl (Or.inl ⟨by decide, rfl⟩) ?_
  exact w_if2 rfl c1 c2 k1 k2

theorem k449_359 {P : s_P} {d : Nat} {Q : s_O → Prop} {h : s_H} {kc ks : Nat} {r0 : Term} {x1 x2 x3 : Int} {t4 : Term} {q2 : Nat} {f3 : List Term} {v5 v7 : Term} {q9 : Nat} {a10 : List Int} {q15 : Nat} {a16 : List Int} (g4 : s_get h q2 = some (1, 11, f3)) (g11 : s_get h q9 = some (0, 1, a10.map vl)) (g17 : s_get h q15 = some (0, 1, a16.map vl)) (k : wr P d sw_c449 sw_h449 (354, [.index q2, vi x1, vi x2, vi (x3 + 1), t4], [], (hp h q15 (0, 1, (a16.set (Int.toNat ((48 * x3) + 47)) (gi a10 x3)).map vl)), kc, ks) Q) (e_q2 : r0 = .index q2 := by first | rfl | assumption) (e_q9 : v7 = .index q9 := by first | rfl | assumption) (e_q15 : v5 = .index q15 := by first | rfl | assumption) (y1 : s_ty r0 = 3 := by first | rfl | assumption) (n6 : s_nth f3 30 = some v5 := by first | rfl | assumption) (n8 : s_nth f3 10 = some v7 := by first | rfl | assumption) (c12 : x3 < a10.length := by first | omega | assumption | (simp only [mk_len, List.length_map]; omega) | decide) (c13 : 0 ≤ x3 := by first | omega | assumption | (simp only [mk_len, List.length_map]; omega) | decide) (c14 : In3 x3 := by first | omega | assumption | (simp only [mk_len, List.length_map]; omega) | decide) (c18 : (48 * x3) + 47 < a16.length := by first | omega | assumption | (simp only [mk_len, List.length_map]; omega) | decide) (c19 : 0 ≤ (48 * x3) + 47 := by first | omega | assumption | (simp only [mk_len, List.length_map]; omega) | decide) (c20 : In3 ((48 * x3) + 47) := by first | omega | assumption | (simp only [mk_len, List.length_map]; omega) | decide) (c21 : 0 < q15 := by first | omega | assumption | (simp only [mk_len, List.length_map]; omega) | decide) : wr P d sw_c449 sw_h449 (359, [r0, vi x1, vi x2, vi x3, t4], [], h, kc, ks) Q := by
  refine w_ld rfl rfl (Or.inr (Or.inr ⟨by decide, y1⟩)) ?_
  subst e_q2
  refine w_getf rfl g4 n6 ?_
  refine w_c32 rfl (by decide) 48 (by decide) ?_
  refine w_ld rfl rfl (Or.inl ⟨by decide, rfl⟩) ?_
  refine w_imul rfl ?_
  refine w_c32 rfl (by decide) 47 (by decide) ?_
  refine w_iadd rfl ?_
  refine w_ld rfl rfl (Or.inr (Or.inr ⟨by decide, rfl⟩)) ?_
  refine w_getf rfl g4 n8 ?_
  refine w_ld rfl rfl (Or.inl ⟨by decide, rfl⟩) ?_
  subst e_q9
  refine w_lald rfl g11 c14 c13 c12 ?_
  subst e_q15
  refine w_last rfl g17 (Nat.ble_eq_true_of_le c21) c20 c19 c18 ?_
  refine w_iinc (ls' := [.index q2, vi x1, vi x2, vi (x3 + 1), t4]) rfl rfl 1 (by decide) rfl ?_
  refine w_goto rfl ?_
  exact k

theorem k449_383 {P : s_P} {d : Nat} {Q : s_O → Prop} {h : s_H} {kc ks : Nat} {r0 : Term} {x1 x2 x3 : Int} {t4 : Term} {q2 : Nat} {f3 : List Term} (g4 : s_get h q2 = some (1, 11, f3)) (k : wm P d 417 [.index q2, vi x1, vi x1] h (wq P d sw_c449 sw_h449 389 [.index q2, vi x1, vi x2, vi x3, t4] [] kc ks Q)) (e_q2 : r0 = .index q2 := by first | rfl | assumption) (y1 : s_ty r0 = 3 := by first | rfl | assumption)  : wr P d sw_c449 sw_h449 (383, [r0, vi x1, vi x2, vi x3, t4], [], h, kc, ks) Q := by
  refine w_ld rfl rfl (Or.inr (Or.inr ⟨by decide, y1⟩)) ?_
  refine w_ld rfl rfl (Or.inl ⟨by decide, rfl⟩) ?_
  refine w_ld rfl rfl (Or.inl ⟨by decide, rfl⟩) ?_
  subst e_q2
  exact w_cv rfl [.index q2, vi x1, vi x1] [] rfl rfl (s_wt_4 rfl) rfl g4 k

theorem k449_389 {P : s_P} {d : Nat} {Q : s_O → Prop} {h : s_H} {kc ks : Nat} {r0 : Term} {x1 x2 x3 : Int} {t4 : Term} {q2 : Nat} {f3 : List Term} {v5 : Term} (g4 : s_get h q2 = some (1, 11, f3)) (k : wm P d 438 [v5] h (wq P d sw_c449 sw_h449 396 [.index q2, vi x1, vi x2, vi x3, t4] [] kc ks Q)) (e_q2 : r0 = .index q2 := by first | rfl | assumption) (y1 : s_ty r0 = 3 := by first | rfl | assumption) (n6 : s_nth f3 40 = some v5 := by first | rfl | assumption)  : wr P d sw_c449 sw_h449 (389, [r0, vi x1, vi x2, vi x3, t4], [], h, kc, ks) Q := by
  refine w_ld rfl rfl (Or.inr (Or.inr ⟨by decide, y1⟩)) ?_
  subst e_q2
  refine w_getf rfl g4 n6 ?_
  exact w_cs rfl [v5] [] rfl rfl (s_wt_4 rfl) k

theorem k449_396 {P : s_P} {d : Nat} {Q : s_O → Prop} {h : s_H} {kc ks : Nat} {r0 : Term} {x1 x2 x3 : Int} {t4 : Term} {q2 : Nat} {f3 : List Term} {v5 : Term} (g4 : s_get h q2 = some (1, 11, f3)) (k : wm P d 438 [v5] h (wq P d sw_c449 sw_h449 403 [.index q2, vi x1, vi x2, vi x3, t4] [] kc ks Q)) (e_q2 : r0 = .index q2 := by first | rfl | assumption) (y1 : s_ty r0 = 3 := by first | rfl | assumption) (n6 : s_nth f3 41 = some v5 := by first | rfl | assumption)  : wr P d sw_c449 sw_h449 (396, [r0, vi x1, vi x2, vi x3, t4], [], h, kc, ks) Q := by
  refine w_ld rfl rfl (Or.inr (Or.inr ⟨by decide, y1⟩)) ?_
  subst e_q2
  refine w_getf rfl g4 n6 ?_
  exact w_cs rfl [v5] [] rfl rfl (s_wt_4 rfl) k

theorem k449_403 {P : s_P} {d : Nat} {Q : s_O → Prop} {h : s_H} {kc ks : Nat} {r0 : Term} {x1 x2 x3 : Int} {t4 : Term}  (k : wr P d sw_c449 sw_h449 (405, [r0, vi x1, vi x2, vi 0, t4], [], h, kc, ks) Q)   : wr P d sw_c449 sw_h449 (403, [r0, vi x1, vi x2, vi x3, t4], [], h, kc, ks) Q := by
  refine w_c32 rfl (by decide) 0 (by decide) ?_
  refine w_st (ls' := [r0, vi x1, vi x2, vi 0, t4]) rfl (Or.inl ⟨by decide, rfl⟩) rfl ?_
  exact k

theorem k449_405 {P : s_P} {d : Nat} {Q : s_O → Prop} {h : s_H} {kc ks : Nat} {r0 : Term} {x1 x2 x3 : Int} {t4 : Term}  (k1 : x1 ≤ x3 → wr P d sw_c449 sw_h449 (472, [r0, vi x1, vi x2, vi x3, t4], [], h, kc, ks) Q) (k2 : ¬ x1 ≤ x3 → wr P d sw_c449 sw_h449 (410, [r0, vi x1, vi x2, vi x3, t4], [], h, kc, ks) Q)  (c1 : In3 x3 := by first | omega | assumption | (simp only [mk_len, List.length_map]; omega) | decide) (c2 : In3 x1 := by first | omega | assumption | (simp only [mk_len, List.length_map]; omega) | decide) : wr P d sw_c449 sw_h449 (405, [r0, vi x1, vi x2, vi x3, t4], [], h, kc, ks) Q := by
  refine w_ld rfl rfl (Or.inl ⟨by decide, rfl⟩) ?_
  refine w_ld rfl rfl (Or.inl ⟨by decide, rfl⟩) ?_
  exact w_if2 rfl c1 c2 k1 k2

theorem k449_410 {P : s_P} {d : Nat} {Q : s_O → Prop} {h : s_H} {kc ks : Nat} {r0 : Term} {x1 x2 x3 : Int} {t4 : Term}  (k1 : x2 ≤ x3 → wr P d sw_c449 sw_h449 (441, [r0, vi x1, vi x2, vi x3, t4], [], h, kc, ks) Q) (k2 : ¬ x2 ≤ x3 → wr P d sw_c449 sw_h449 (415, [r0, vi x1, vi x2, vi x3, t4], [], h, kc, ks) Q)  (c1 : In3 x3 := by first | omega | assumption | (simp only [mk_len, List.length_map]; omega) | decide) (c2 : In3 x2 := by first | omega | assumption | (simp only [mk_len, List.length_map]; omega) | decide) : wr P d sw_c449 sw_h449 (410, [r0, vi x1, vi x2, vi x3, t4], [], h, kc, ks) Q := by
  refine w_ld rfl rfl (Or.inl ⟨by decide, rfl⟩) ?_
  refine w_ld rfl rfl (Or.inl ⟨by decide, rfl⟩) ?_
  exact w_if2 rfl c1 c2 k1 k2

theorem k449_415 {P : s_P} {d : Nat} {Q : s_O → Prop} {h : s_H} {kc ks : Nat} {r0 : Term} {x1 x2 x3 : Int} {t4 : Term} {q2 : Nat} {f3 : List Term} {v5 v7 v9 : Term} {q11 : Nat} {a12 : List Int} {q17 : Nat} {a18 : List Int} {q23 : Nat} {a24 : List Int} (g4 : s_get h q2 = some (1, 11, f3)) (g13 : s_get h q11 = some (0, 0, a12.map vi)) (g19 : s_get h q17 = some (0, 1, a18.map vl)) (g25 : s_get h q23 = some (0, 1, a24.map vl)) (k : wr P d sw_c449 sw_h449 (466, [.index q2, vi x1, vi x2, vi x3, t4], [], (hp h q23 (0, 1, (a24.set (Int.toNat (x3)) (gi a18 ((48 * (gi a12 x3)) + 47))).map vl)), kc, ks) Q) (e_q2 : r0 = .index q2 := by first | rfl | assumption) (e_q11 : v9 = .index q11 := by first | rfl | assumption) (e_q17 : v7 = .index q17 := by first | rfl | assumption) (e_q23 : v5 = .index q23 := by first | rfl | assumption) (y1 : s_ty r0 = 3 := by first | rfl | assumption) (n6 : s_nth f3 40 = some v5 := by first | rfl | assumption) (n8 : s_nth f3 30 = some v7 := by first | rfl | assumption) (n10 : s_nth f3 31 = some v9 := by first | rfl | assumption) (c14 : x3 < a12.length := by first | omega | assumption | (simp only [mk_len, List.length_map]; omega) | decide) (c15 : 0 ≤ x3 := by first | omega | assumption | (simp only [mk_len, List.length_map]; omega) | decide) (c16 : In3 x3 := by first | omega | assumption | (simp only [mk_len, List.length_map]; omega) | decide) (c20 : (48 * (gi a12 x3)) + 47 < a18.length := by first | omega | assumption | (simp only [mk_len, List.length_map]; omega) | decide) (c21 : 0 ≤ (48 * (gi a12 x3)) + 47 := by first | omega | assumption | (simp only [mk_len, List.length_map]; omega) | decide) (c22 : In3 ((48 * (gi a12 x3)) + 47) := by first | omega | assumption | (simp only [mk_len, List.length_map]; omega) | decide) (c26 : x3 < a24.length := by first | omega | assumption | (simp only [mk_len, List.length_map]; omega) | decide) (c27 : 0 < q23 := by first | omega | assumption | (simp only [mk_len, List.length_map]; omega) | decide) : wr P d sw_c449 sw_h449 (415, [r0, vi x1, vi x2, vi x3, t4], [], h, kc, ks) Q := by
  refine w_ld rfl rfl (Or.inr (Or.inr ⟨by decide, y1⟩)) ?_
  subst e_q2
  refine w_getf rfl g4 n6 ?_
  refine w_ld rfl rfl (Or.inl ⟨by decide, rfl⟩) ?_
  refine w_ld rfl rfl (Or.inr (Or.inr ⟨by decide, rfl⟩)) ?_
  refine w_getf rfl g4 n8 ?_
  refine w_c32 rfl (by decide) 48 (by decide) ?_
  refine w_ld rfl rfl (Or.inr (Or.inr ⟨by decide, rfl⟩)) ?_
  refine w_getf rfl g4 n10 ?_
  refine w_ld rfl rfl (Or.inl ⟨by decide, rfl⟩) ?_
  subst e_q11
  refine w_iald rfl g13 (Or.inl rfl) c16 c15 c14 ?_
  refine w_imul rfl ?_
  refine w_c32 rfl (by decide) 47 (by decide) ?_
  refine w_iadd rfl ?_
  subst e_q17
  refine w_lald rfl g19 c22 c21 c20 ?_
  subst e_q23
  refine w_last rfl g25 (Nat.ble_eq_true_of_le c27) c16 c15 c26 ?_
  refine w_goto rfl ?_
  exact k

theorem k449_441 {P : s_P} {d : Nat} {Q : s_O → Prop} {h : s_H} {kc ks : Nat} {r0 : Term} {x1 x2 x3 : Int} {t4 : Term} {q2 : Nat} {f3 : List Term} {v5 v7 v9 : Term} {q11 : Nat} {a12 : List Int} {q17 : Nat} {a18 : List Int} {q23 : Nat} {a24 : List Int} (g4 : s_get h q2 = some (1, 11, f3)) (g13 : s_get h q11 = some (0, 0, a12.map vi)) (g19 : s_get h q17 = some (0, 1, a18.map vl)) (g25 : s_get h q23 = some (0, 1, a24.map vl)) (k : wr P d sw_c449 sw_h449 (466, [.index q2, vi x1, vi x2, vi x3, t4], [], (hp h q23 (0, 1, (a24.set (Int.toNat (x3 - x2)) (gi a18 ((48 * (gi a12 x3)) + 47))).map vl)), kc, ks) Q) (e_q2 : r0 = .index q2 := by first | rfl | assumption) (e_q11 : v9 = .index q11 := by first | rfl | assumption) (e_q17 : v7 = .index q17 := by first | rfl | assumption) (e_q23 : v5 = .index q23 := by first | rfl | assumption) (y1 : s_ty r0 = 3 := by first | rfl | assumption) (n6 : s_nth f3 41 = some v5 := by first | rfl | assumption) (n8 : s_nth f3 30 = some v7 := by first | rfl | assumption) (n10 : s_nth f3 31 = some v9 := by first | rfl | assumption) (c14 : x3 < a12.length := by first | omega | assumption | (simp only [mk_len, List.length_map]; omega) | decide) (c15 : 0 ≤ x3 := by first | omega | assumption | (simp only [mk_len, List.length_map]; omega) | decide) (c16 : In3 x3 := by first | omega | assumption | (simp only [mk_len, List.length_map]; omega) | decide) (c20 : (48 * (gi a12 x3)) + 47 < a18.length := by first | omega | assumption | (simp only [mk_len, List.length_map]; omega) | decide) (c21 : 0 ≤ (48 * (gi a12 x3)) + 47 := by first | omega | assumption | (simp only [mk_len, List.length_map]; omega) | decide) (c22 : In3 ((48 * (gi a12 x3)) + 47) := by first | omega | assumption | (simp only [mk_len, List.length_map]; omega) | decide) (c26 : x3 - x2 < a24.length := by first | omega | assumption | (simp only [mk_len, List.length_map]; omega) | decide) (c27 : 0 ≤ x3 - x2 := by first | omega | assumption | (simp only [mk_len, List.length_map]; omega) | decide) (c28 : In3 (x3 - x2) := by first | omega | assumption | (simp only [mk_len, List.length_map]; omega) | decide) (c29 : 0 < q23 := by first | omega | assumption | (simp only [mk_len, List.length_map]; omega) | decide) : wr P d sw_c449 sw_h449 (441, [r0, vi x1, vi x2, vi x3, t4], [], h, kc, ks) Q := by
  refine w_ld rfl rfl (Or.inr (Or.inr ⟨by decide, y1⟩)) ?_
  subst e_q2
  refine w_getf rfl g4 n6 ?_
  refine w_ld rfl rfl (Or.inl ⟨by decide, rfl⟩) ?_
  refine w_ld rfl rfl (Or.inl ⟨by decide, rfl⟩) ?_
  refine w_isub rfl ?_
  refine w_ld rfl rfl (Or.inr (Or.inr ⟨by decide, rfl⟩)) ?_
  refine w_getf rfl g4 n8 ?_
  refine w_c32 rfl (by decide) 48 (by decide) ?_
  refine w_ld rfl rfl (Or.inr (Or.inr ⟨by decide, rfl⟩)) ?_
  refine w_getf rfl g4 n10 ?_
  refine w_ld rfl rfl (Or.inl ⟨by decide, rfl⟩) ?_
  subst e_q11
  refine w_iald rfl g13 (Or.inl rfl) c16 c15 c14 ?_
  refine w_imul rfl ?_
  refine w_c32 rfl (by decide) 47 (by decide) ?_
  refine w_iadd rfl ?_
  subst e_q17
  refine w_lald rfl g19 c22 c21 c20 ?_
  subst e_q23
  refine w_last rfl g25 (Nat.ble_eq_true_of_le c29) c28 c27 c26 ?_
  exact k

theorem k449_466 {P : s_P} {d : Nat} {Q : s_O → Prop} {h : s_H} {kc ks : Nat} {r0 : Term} {x1 x2 x3 : Int} {t4 : Term}  (k : wr P d sw_c449 sw_h449 (405, [r0, vi x1, vi x2, vi (x3 + 1), t4], [], h, kc, ks) Q)   : wr P d sw_c449 sw_h449 (466, [r0, vi x1, vi x2, vi x3, t4], [], h, kc, ks) Q := by
  refine w_iinc (ls' := [r0, vi x1, vi x2, vi (x3 + 1), t4]) rfl rfl 1 (by decide) rfl ?_
  refine w_goto rfl ?_
  exact k

theorem k449_472 {P : s_P} {d : Nat} {Q : s_O → Prop} {h : s_H} {kc ks : Nat} {r0 : Term} {x1 x2 x3 : Int} {t4 : Term}  (k : Q (.inl none, h, kc, ks))   : wr P d sw_c449 sw_h449 (472, [r0, vi x1, vi x2, vi x3, t4], [], h, kc, ks) Q := by
  exact w_ret rfl k

/-! 450: FormulaWorksModel.findFactors([J)V -/
theorem k450_0 {P : s_P} {d : Nat} {Q : s_O → Prop} {h : s_H} {kc ks : Nat} {r0 r1 t2 t3 t4 t5 : Term} {q2 : Nat} {f3 f7 : List Term} (g4 : s_get h q2 = some (1, 11, f3)) (g8 : s_get (hp h q2 (1, 11, f3.set 26 (vi 0))) q2 = some (1, 11, f7)) (k : wm P d 463 [r1] (hp (hp h q2 (1, 11, f3.set 26 (vi 0))) q2 (1, 11, f7.set 33 (vi 0))) (wq P d sw_c450 sw_h450 14 [.index q2, r1, t2, t3, t4, t5] [] kc ks Q)) (e_q2 : r0 = .index q2 := by first | rfl | assumption) (y1 : s_ty r0 = 3 := by first | rfl | assumption) (l5 : 26 < f3.length := by first | exact Nat.le_of_ble_eq_true rfl | omega | assumption) (l9 : 33 < f7.length := by first | exact Nat.le_of_ble_eq_true rfl | omega | assumption) (y10 : s_ty r1 = 3 := by first | rfl | assumption) (c6 : 0 < q2 := by first | omega | assumption | (simp only [mk_len, List.length_map]; omega) | decide) : wr P d sw_c450 sw_h450 (0, [r0, r1, t2, t3, t4, t5], [], h, kc, ks) Q := by
  refine w_ld rfl rfl (Or.inr (Or.inr ⟨by decide, y1⟩)) ?_
  refine w_c32 rfl (by decide) 0 (by decide) ?_
  subst e_q2
  refine w_putf rfl g4 (Nat.ble_eq_true_of_le c6) rfl (Nat.ble_eq_true_of_le l5) ?_
  refine w_ld rfl rfl (Or.inr (Or.inr ⟨by decide, rfl⟩)) ?_
  refine w_c32 rfl (by decide) 0 (by decide) ?_
  refine w_putf rfl g8 (Nat.ble_eq_true_of_le c6) rfl (Nat.ble_eq_true_of_le l9) ?_
  refine w_ld rfl rfl (Or.inr (Or.inr ⟨by decide, y10⟩)) ?_
  exact w_cs rfl [r1] [] rfl rfl (s_wt_4 rfl) k

theorem k450_14 {P : s_P} {d : Nat} {Q : s_O → Prop} {h : s_H} {kc ks : Nat} {r0 r1 t2 t3 t4 t5 : Term} {s0 : Int}  (k1 : 1 ≤ s0 → wr P d sw_c450 sw_h450 (19, [r0, r1, t2, t3, t4, t5], [], h, kc, ks) Q) (k2 : ¬ 1 ≤ s0 → wr P d sw_c450 sw_h450 (18, [r0, r1, t2, t3, t4, t5], [], h, kc, ks) Q)  (c1 : In3 s0 := by first | omega | assumption | (simp only [mk_len, List.length_map]; omega) | decide) : wr P d sw_c450 sw_h450 (14, [r0, r1, t2, t3, t4, t5], [vi s0], h, kc, ks) Q := by
  refine w_c32 rfl (by decide) 1 (by decide) ?_
  exact w_if2 rfl c1 (by decide) k1 k2

theorem k450_18 {P : s_P} {d : Nat} {Q : s_O → Prop} {h : s_H} {kc ks : Nat} {r0 r1 t2 t3 t4 t5 : Term}  (k : Q (.inl none, h, kc, ks))   : wr P d sw_c450 sw_h450 (18, [r0, r1, t2, t3, t4, t5], [], h, kc, ks) Q := by
  exact w_ret rfl k

theorem k450_19 {P : s_P} {d : Nat} {Q : s_O → Prop} {h : s_H} {kc ks : Nat} {r0 r1 t2 t3 t4 t5 : Term} {q2 : Nat} {f3 : List Term} {v5 : Term} (g4 : s_get h q2 = some (1, 11, f3)) (k : wm P d 596 [v5, r1] h (wq P d sw_c450 sw_h450 27 [.index q2, r1, t2, t3, t4, t5] [] kc ks Q)) (e_q2 : r0 = .index q2 := by first | rfl | assumption) (y1 : s_ty r0 = 3 := by first | rfl | assumption) (n6 : s_nth f3 20 = some v5 := by first | rfl | assumption) (y7 : s_ty r1 = 3 := by first | rfl | assumption)  : wr P d sw_c450 sw_h450 (19, [r0, r1, t2, t3, t4, t5], [], h, kc, ks) Q := by
  refine w_ld rfl rfl (Or.inr (Or.inr ⟨by decide, y1⟩)) ?_
  subst e_q2
  refine w_getf rfl g4 n6 ?_
  refine w_ld rfl rfl (Or.inr (Or.inr ⟨by decide, y7⟩)) ?_
  exact w_cs rfl [v5, r1] [] rfl rfl (s_wt_4 rfl) k

theorem k450_27 {P : s_P} {d : Nat} {Q : s_O → Prop} {h : s_H} {kc ks : Nat} {r0 r1 t2 t3 t4 t5 : Term} {q3 : Nat} {f4 : List Term} {v6 : Term} (g5 : s_get h q3 = some (1, 11, f4)) (k : wm P d 423 [.index q3, r1, v6] h (wq P d sw_c450 sw_h450 36 [.index q3, r1, t2, t3, t4, t5] [] kc ks Q)) (e_q3 : r0 = .index q3 := by first | rfl | assumption) (y1 : s_ty r0 = 3 := by first | rfl | assumption) (y2 : s_ty r1 = 3 := by first | rfl | assumption) (n7 : s_nth f4 20 = some v6 := by first | rfl | assumption)  : wr P d sw_c450 sw_h450 (27, [r0, r1, t2, t3, t4, t5], [], h, kc, ks) Q := by
  refine w_ld rfl rfl (Or.inr (Or.inr ⟨by decide, y1⟩)) ?_
  refine w_ld rfl rfl (Or.inr (Or.inr ⟨by decide, y2⟩)) ?_
  refine w_ld rfl rfl (Or.inr (Or.inr ⟨by decide, y1⟩)) ?_
  subst e_q3
  refine w_getf rfl g5 n7 ?_
  exact w_cv rfl [.index q3, r1, v6] [] rfl rfl (s_wt_4 rfl) rfl g5 k

theorem k450_36 {P : s_P} {d : Nat} {Q : s_O → Prop} {h : s_H} {kc ks : Nat} {r0 r1 t2 t3 t4 t5 : Term} {q2 : Nat} {f3 : List Term} {v5 : Term} (g4 : s_get h q2 = some (1, 11, f3)) (k : wm P d 425 [v5, r1] h (wq P d sw_c450 sw_h450 44 [.index q2, r1, t2, t3, t4, t5] [] kc ks Q)) (e_q2 : r0 = .index q2 := by first | rfl | assumption) (y1 : s_ty r0 = 3 := by first | rfl | assumption) (n6 : s_nth f3 12 = some v5 := by first | rfl | assumption) (y7 : s_ty r1 = 3 := by first | rfl | assumption)  : wr P d sw_c450 sw_h450 (36, [r0, r1, t2, t3, t4, t5], [], h, kc, ks) Q := by
  refine w_ld rfl rfl (Or.inr (Or.inr ⟨by decide, y1⟩)) ?_
  subst e_q2
  refine w_getf rfl g4 n6 ?_
  refine w_ld rfl rfl (Or.inr (Or.inr ⟨by decide, y7⟩)) ?_
  exact w_cs rfl [v5, r1] [] rfl rfl (s_wt_4 rfl) k

theorem k450_44 {P : s_P} {d : Nat} {Q : s_O → Prop} {h : s_H} {kc ks : Nat} {r0 r1 t2 t3 t4 t5 : Term} {q2 : Nat} {f3 : List Term} {v5 v7 : Term} (g4 : s_get h q2 = some (1, 11, f3)) (k : wm P d 434 [.index q2, v5, v7] h (wq P d sw_c450 sw_h450 56 [.index q2, r1, t2, t3, t4, t5] [] kc ks Q)) (e_q2 : r0 = .index q2 := by first | rfl | assumption) (y1 : s_ty r0 = 3 := by first | rfl | assumption) (n6 : s_nth f3 12 = some v5 := by first | rfl | assumption) (n8 : s_nth f3 18 = some v7 := by first | rfl | assumption)  : wr P d sw_c450 sw_h450 (44, [r0, r1, t2, t3, t4, t5], [], h, kc, ks) Q := by
  refine w_ld rfl rfl (Or.inr (Or.inr ⟨by decide, y1⟩)) ?_
  refine w_ld rfl rfl (Or.inr (Or.inr ⟨by decide, y1⟩)) ?_
  subst e_q2
  refine w_getf rfl g4 n6 ?_
  refine w_ld rfl rfl (Or.inr (Or.inr ⟨by decide, rfl⟩)) ?_
  refine w_getf rfl g4 n8 ?_
  exact w_cv rfl [.index q2, v5, v7] [] rfl rfl (s_wt_4 rfl) rfl g4 k

theorem k450_56 {P : s_P} {d : Nat} {Q : s_O → Prop} {h : s_H} {kc ks : Nat} {r0 r1 t2 t3 t4 t5 : Term} {q2 : Nat} {f3 : List Term} {v5 : Term} (g4 : s_get h q2 = some (1, 11, f3)) (k : wm P d 521 [v5] h (wq P d sw_c450 sw_h450 63 [.index q2, r1, t2, t3, t4, t5] [] kc ks Q)) (e_q2 : r0 = .index q2 := by first | rfl | assumption) (y1 : s_ty r0 = 3 := by first | rfl | assumption) (n6 : s_nth f3 12 = some v5 := by first | rfl | assumption)  : wr P d sw_c450 sw_h450 (56, [r0, r1, t2, t3, t4, t5], [], h, kc, ks) Q := by
  refine w_ld rfl rfl (Or.inr (Or.inr ⟨by decide, y1⟩)) ?_
  subst e_q2
  refine w_getf rfl g4 n6 ?_
  exact w_cs rfl [v5] [] rfl rfl (s_wt_4 rfl) k

theorem k450_63 {P : s_P} {d : Nat} {Q : s_O → Prop} {h : s_H} {kc ks : Nat} {r0 r1 t2 t3 t4 t5 : Term} {q2 : Nat} {f3 : List Term} {v5 : Term} (g4 : s_get h q2 = some (1, 11, f3)) (k : wm P d 463 [v5] h (wq P d sw_c450 sw_h450 70 [.index q2, r1, t2, t3, t4, t5] [] kc ks Q)) (e_q2 : r0 = .index q2 := by first | rfl | assumption) (y1 : s_ty r0 = 3 := by first | rfl | assumption) (n6 : s_nth f3 12 = some v5 := by first | rfl | assumption)  : wr P d sw_c450 sw_h450 (63, [r0, r1, t2, t3, t4, t5], [], h, kc, ks) Q := by
  refine w_ld rfl rfl (Or.inr (Or.inr ⟨by decide, y1⟩)) ?_
  subst e_q2
  refine w_getf rfl g4 n6 ?_
  exact w_cs rfl [v5] [] rfl rfl (s_wt_4 rfl) k

theorem k450_70 {P : s_P} {d : Nat} {Q : s_O → Prop} {h : s_H} {kc ks : Nat} {r0 r1 t2 t3 t4 t5 : Term} {s0 : Int} {q3 : Nat} {f4 : List Term} {v6 : Term} (g5 : s_get h q3 = some (1, 11, f4)) (k : wm P d 451 [.index q3, v6, vi s0] h (wq P d sw_c450 sw_h450 80 [.index q3, r1, vi s0, t3, t4, t5] [] kc ks Q)) (e_q3 : r0 = .index q3 := by first | rfl | assumption) (y1 : s_ty r1 = 3 := by first | rfl | assumption) (y2 : s_ty r0 = 3 := by first | rfl | assumption) (n7 : s_nth f4 12 = some v6 := by first | rfl | assumption)  : wr P d sw_c450 sw_h450 (70, [r0, r1, t2, t3, t4, t5], [vi s0], h, kc, ks) Q := by
  refine w_st (ls' := [r0, r1, vi s0, t3, t4, t5]) rfl (Or.inl ⟨by decide, rfl⟩) (s_stK_r (pre := [r0]) y1) ?_
  refine w_ld rfl rfl (Or.inr (Or.inr ⟨by decide, y2⟩)) ?_
  refine w_ld rfl rfl (Or.inr (Or.inr ⟨by decide, y2⟩)) ?_
  subst e_q3
  refine w_getf rfl g5 n7 ?_
  refine w_ld rfl rfl (Or.inl ⟨by decide, rfl⟩) ?_
  exact w_cv rfl [.index q3, v6, vi s0] [] rfl rfl (s_wt_4 rfl) rfl g5 k

theorem k450_80 {P : s_P} {d : Nat} {Q : s_O → Prop} {h : s_H} {kc ks : Nat} {r0 r1 : Term} {x2 : Int} {t3 t4 t5 : Term} {q2 : Nat} {f3 : List Term} {v5 : Term} (g4 : s_get h q2 = some (1, 11, f3)) (k : wm P d 565 [.index q2, v5] h (wq P d sw_c450 sw_h450 88 [.index q2, r1, vi x2, t3, t4, t5] [] kc ks Q)) (e_q2 : r0 = .index q2 := by first | rfl | assumption) (y1 : s_ty r0 = 3 := by first | rfl | assumption) (n6 : s_nth f3 12 = some v5 := by first | rfl | assumption)  : wr P d sw_c450 sw_h450 (80, [r0, r1, vi x2, t3, t4, t5], [], h, kc, ks) Q := by
  refine w_ld rfl rfl (Or.inr (Or.inr ⟨by decide, y1⟩)) ?_
  refine w_ld rfl rfl (Or.inr (Or.inr ⟨by decide, y1⟩)) ?_
  subst e_q2
  refine w_getf rfl g4 n6 ?_
  exact w_cv rfl [.index q2, v5] [] rfl rfl (s_wt_4 rfl) rfl g4 k

theorem k450_88 {P : s_P} {d : Nat} {Q : s_O → Prop} {h : s_H} {kc ks : Nat} {r0 r1 : Term} {x2 : Int} {t3 t4 t5 : Term}  (k : wr P d sw_c450 sw_h450 (90, [r0, r1, vi x2, vi 0, t4, t5], [], h, kc, ks) Q)   : wr P d sw_c450 sw_h450 (88, [r0, r1, vi x2, t3, t4, t5], [], h, kc, ks) Q := by
  refine w_c32 rfl (by decide) 0 (by decide) ?_
  refine w_st (ls' := [r0, r1, vi x2, vi 0, t4, t5]) rfl (Or.inl ⟨by decide, rfl⟩) rfl ?_
  exact k

theorem k450_90 {P : s_P} {d : Nat} {Q : s_O → Prop} {h : s_H} {kc ks : Nat} {r0 r1 : Term} {x2 x3 : Int} {t4 t5 : Term} {q2 : Nat} {f3 : List Term} {z5 : Int} (g4 : s_get h q2 = some (1, 11, f3)) (k1 : z5 ≤ x3 → wr P d sw_c450 sw_h450 (120, [.index q2, r1, vi x2, vi x3, t4, t5], [], h, kc, ks) Q) (k2 : ¬ z5 ≤ x3 → wr P d sw_c450 sw_h450 (98, [.index q2, r1, vi x2, vi x3, t4, t5], [], h, kc, ks) Q) (e_q2 : r0 = .index q2 := by first | rfl | assumption) (y1 : s_ty r0 = 3 := by first | rfl | assumption) (n6 : s_nth f3 35 = some (vi z5) := by first | rfl | assumption) (c7 : In3 x3 := by first | omega | assumption | (simp only [mk_len, List.length_map]; omega) | decide) (c8 : In3 z5 := by first | omega | assumption | (simp only [mk_len, List.length_map]; omega) | decide) : wr P d sw_c450 sw_h450 (90, [r0, r1, vi x2, vi x3, t4, t5], [], h, kc, ks) Q := by
  refine w_ld rfl rfl (Or.inl ⟨by decide, rfl⟩) ?_
  refine w_ld rfl rfl (Or.inr (Or.inr ⟨by decide, y1⟩)) ?_
  subst e_q2
  refine w_getf rfl g4 n6 ?_
  exact w_if2 rfl c7 c8 k1 k2

theorem k450_98 {P : s_P} {d : Nat} {Q : s_O → Prop} {h : s_H} {kc ks : Nat} {r0 r1 : Term} {x2 x3 : Int} {t4 t5 : Term} {q2 : Nat} {f3 : List Term} {z5 z7 : Int} (g4 : s_get h q2 = some (1, 11, f3)) (k1 : z7 ≤ z5 → wr P d sw_c450 sw_h450 (120, [.index q2, r1, vi x2, vi x3, t4, t5], [], h, kc, ks) Q) (k2 : ¬ z7 ≤ z5 → wr P d sw_c450 sw_h450 (109, [.index q2, r1, vi x2, vi x3, t4, t5], [], h, kc, ks) Q) (e_q2 : r0 = .index q2 := by first | rfl | assumption) (y1 : s_ty r0 = 3 := by first | rfl | assumption) (n6 : s_nth f3 33 = some (vi z5) := by first | rfl | assumption) (n8 : s_nth f3 35 = some (vi z7) := by first | rfl | assumption) (c9 : In3 z5 := by first | omega | assumption | (simp only [mk_len, List.length_map]; omega) | decide) (c10 : In3 z7 := by first | omega | assumption | (simp only [mk_len, List.length_map]; omega) | decide) : wr P d sw_c450 sw_h450 (98, [r0, r1, vi x2, vi x3, t4, t5], [], h, kc, ks) Q := by
  refine w_ld rfl rfl (Or.inr (Or.inr ⟨by decide, y1⟩)) ?_
  subst e_q2
  refine w_getf rfl g4 n6 ?_
  refine w_ld rfl rfl (Or.inr (Or.inr ⟨by decide, rfl⟩)) ?_
  refine w_getf rfl g4 n8 ?_
  exact w_if2 rfl c9 c10 k1 k2

theorem k450_109 {P : s_P} {d : Nat} {Q : s_O → Prop} {h : s_H} {kc ks : Nat} {r0 r1 : Term} {x2 x3 : Int} {t4 t5 : Term} {q2 : Nat} {f3 : List Term} (g4 : s_get h q2 = some (1, 11, f3)) (k : wm P d 546 [.index q2, vi x3] h (wq P d sw_c450 sw_h450 114 [.index q2, r1, vi x2, vi x3, t4, t5] [] kc ks Q)) (e_q2 : r0 = .index q2 := by first | rfl | assumption) (y1 : s_ty r0 = 3 := by first | rfl | assumption)  : wr P d sw_c450 sw_h450 (109, [r0, r1, vi x2, vi x3, t4, t5], [], h, kc, ks) Q := by
  refine w_ld rfl rfl (Or.inr (Or.inr ⟨by decide, y1⟩)) ?_
  refine w_ld rfl rfl (Or.inl ⟨by decide, rfl⟩) ?_
  subst e_q2
  exact w_cv rfl [.index q2, vi x3] [] rfl rfl (s_wt_4 rfl) rfl g4 k

theorem k450_114 {P : s_P} {d : Nat} {Q : s_O → Prop} {h : s_H} {kc ks : Nat} {r0 r1 : Term} {x2 x3 : Int} {t4 t5 : Term}  (k : wr P d sw_c450 sw_h450 (90, [r0, r1, vi x2, vi (x3 + 1), t4, t5], [], h, kc, ks) Q)   : wr P d sw_c450 sw_h450 (114, [r0, r1, vi x2, vi x3, t4, t5], [], h, kc, ks) Q := by
  refine w_iinc (ls' := [r0, r1, vi x2, vi (x3 + 1), t4, t5]) rfl rfl 1 (by decide) rfl ?_
  refine w_goto rfl ?_
  exact k

theorem k450_120 {P : s_P} {d : Nat} {Q : s_O → Prop} {h : s_H} {kc ks : Nat} {r0 r1 : Term} {x2 x3 : Int} {t4 t5 : Term}  (k : wr P d sw_c450 sw_h450 (122, [r0, r1, vi x2, vi 0, t4, t5], [], h, kc, ks) Q)   : wr P d sw_c450 sw_h450 (120, [r0, r1, vi x2, vi x3, t4, t5], [], h, kc, ks) Q := by
  refine w_c32 rfl (by decide) 0 (by decide) ?_
  refine w_st (ls' := [r0, r1, vi x2, vi 0, t4, t5]) rfl (Or.inl ⟨by decide, rfl⟩) rfl ?_
  exact k

theorem k450_122 {P : s_P} {d : Nat} {Q : s_O → Prop} {h : s_H} {kc ks : Nat} {r0 r1 : Term} {x2 x3 : Int} {t4 t5 : Term} {q2 : Nat} {f3 : List Term} {z5 : Int} (g4 : s_get h q2 = some (1, 11, f3)) (k1 : z5 ≤ x3 → wr P d sw_c450 sw_h450 (194, [.index q2, r1, vi x2, vi x3, t4, t5], [], h, kc, ks) Q) (k2 : ¬ z5 ≤ x3 → wr P d sw_c450 sw_h450 (130, [.index q2, r1, vi x2, vi x3, t4, t5], [], h, kc, ks) Q) (e_q2 : r0 = .index q2 := by first | rfl | assumption) (y1 : s_ty r0 = 3 := by first | rfl | assumption) (n6 : s_nth f3 33 = some (vi z5) := by first | rfl | assumption) (c7 : In3 x3 := by first | omega | assumption | (simp only [mk_len, List.length_map]; omega) | decide) (c8 : In3 z5 := by first | omega | assumption | (simp only [mk_len, List.length_map]; omega) | decide) : wr P d sw_c450 sw_h450 (122, [r0, r1, vi x2, vi x3, t4, t5], [], h, kc, ks) Q := by
  refine w_ld rfl rfl (Or.inl ⟨by decide, rfl⟩) ?_
  refine w_ld rfl rfl (Or.inr (Or.inr ⟨by decide, y1⟩)) ?_
  subst e_q2
  refine w_getf rfl g4 n6 ?_
  exact w_if2 rfl c7 c8 k1 k2

theorem k450_130 {P : s_P} {d : Nat} {Q : s_O → Prop} {h : s_H} {kc ks : Nat} {r0 r1 : Term} {x2 x3 : Int} {t4 t5 : Term}  (k : wr P d sw_c450 sw_h450 (136, [r0, r1, vi x2, vi x3, vi (-1), vi 0], [], h, kc, ks) Q)   : wr P d sw_c450 sw_h450 (130, [r0, r1, vi x2, vi x3, t4, t5], [], h, kc, ks) Q := by
  refine w_c32 rfl (by decide) (-1) (by decide) ?_
  refine w_st (ls' := [r0, r1, vi x2, vi x3, vi (-1), t5]) rfl (Or.inl ⟨by decide, rfl⟩) rfl ?_
  refine w_c32 rfl (by decide) 0 (by decide) ?_
  refine w_st (ls' := [r0, r1, vi x2, vi x3, vi (-1), vi 0]) rfl (Or.inl ⟨by decide, rfl⟩) rfl ?_
  exact k

theorem k450_136 {P : s_P} {d : Nat} {Q : s_O → Prop} {h : s_H} {kc ks : Nat} {r0 r1 : Term} {x2 x3 x4 x5 : Int} {q2 : Nat} {f3 : List Term} {z5 : Int} (g4 : s_get h q2 = some (1, 11, f3)) (k1 : z5 ≤ x5 → wr P d sw_c450 sw_h450 (181, [.index q2, r1, vi x2, vi x3, vi x4, vi x5], [], h, kc, ks) Q) (k2 : ¬ z5 ≤ x5 → wr P d sw_c450 sw_h450 (145, [.index q2, r1, vi x2, vi x3, vi x4, vi x5], [], h, kc, ks) Q) (e_q2 : r0 = .index q2 := by first | rfl | assumption) (y1 : s_ty r0 = 3 := by first | rfl | assumption) (n6 : s_nth f3 33 = some (vi z5) := by first | rfl | assumption) (c7 : In3 x5 := by first | omega | assumption | (simp only [mk_len, List.length_map]; omega) | decide) (c8 : In3 z5 := by first | omega | assumption | (simp only [mk_len, List.length_map]; omega) | decide) : wr P d sw_c450 sw_h450 (136, [r0, r1, vi x2, vi x3, vi x4, vi x5], [], h, kc, ks) Q := by
  refine w_ld rfl rfl (Or.inl ⟨by decide, rfl⟩) ?_
  refine w_ld rfl rfl (Or.inr (Or.inr ⟨by decide, y1⟩)) ?_
  subst e_q2
  refine w_getf rfl g4 n6 ?_
  exact w_if2 rfl c7 c8 k1 k2

theorem k450_145 {P : s_P} {d : Nat} {Q : s_O → Prop} {h : s_H} {kc ks : Nat} {r0 r1 : Term} {x2 x3 x4 x5 : Int} {q2 : Nat} {f3 : List Term} (g4 : s_get h q2 = some (1, 11, f3)) (k : wm P d 478 [.index q2, vi x5] h (wq P d sw_c450 sw_h450 151 [.index q2, r1, vi x2, vi x3, vi x4, vi x5] [] kc ks Q)) (e_q2 : r0 = .index q2 := by first | rfl | assumption) (y1 : s_ty r0 = 3 := by first | rfl | assumption)  : wr P d sw_c450 sw_h450 (145, [r0, r1, vi x2, vi x3, vi x4, vi x5], [], h, kc, ks) Q := by
  refine w_ld rfl rfl (Or.inr (Or.inr ⟨by decide, y1⟩)) ?_
  refine w_ld rfl rfl (Or.inl ⟨by decide, rfl⟩) ?_
  subst e_q2
  exact w_cv rfl [.index q2, vi x5] [] rfl rfl (s_wt_4 rfl) rfl g4 k

theorem k450_151 {P : s_P} {d : Nat} {Q : s_O → Prop} {h : s_H} {kc ks : Nat} {r0 r1 : Term} {x2 x3 x4 x5 s0 : Int}  (k1 : s0 ≠ 0 → wr P d sw_c450 sw_h450 (175, [r0, r1, vi x2, vi x3, vi x4, vi x5], [], h, kc, ks) Q) (k2 : ¬ s0 ≠ 0 → wr P d sw_c450 sw_h450 (154, [r0, r1, vi x2, vi x3, vi x4, vi x5], [], h, kc, ks) Q)  (c1 : In3 s0 := by first | omega | assumption | (simp only [mk_len, List.length_map]; omega) | decide) : wr P d sw_c450 sw_h450 (151, [r0, r1, vi x2, vi x3, vi x4, vi x5], [vi s0], h, kc, ks) Q := by
  exact w_if1 rfl c1 k1 k2

theorem k450_154 {P : s_P} {d : Nat} {Q : s_O → Prop} {h : s_H} {kc ks : Nat} {r0 r1 : Term} {x2 x3 x4 x5 : Int}  (k1 : x4 = (-1) → wr P d sw_c450 sw_h450 (171, [r0, r1, vi x2, vi x3, vi x4, vi x5], [], h, kc, ks) Q) (k2 : ¬ x4 = (-1) → wr P d sw_c450 sw_h450 (160, [r0, r1, vi x2, vi x3, vi x4, vi x5], [], h, kc, ks) Q)  (c1 : In3 x4 := by first | omega | assumption | (simp only [mk_len, List.length_map]; omega) | decide) : wr P d sw_c450 sw_h450 (154, [r0, r1, vi x2, vi x3, vi x4, vi x5], [], h, kc, ks) Q := by
  refine w_ld rfl rfl (Or.inl ⟨by decide, rfl⟩) ?_
  refine w_c32 rfl (by decide) (-1) (by decide) ?_
  exact w_if2 rfl c1 (by decide) k1 k2

theorem k450_160 {P : s_P} {d : Nat} {Q : s_O → Prop} {h : s_H} {kc ks : Nat} {r0 r1 : Term} {x2 x3 x4 x5 : Int} {q2 : Nat} {f3 : List Term} (g4 : s_get h q2 = some (1, 11, f3)) (k : wm P d 470 [.index q2, vi x5, vi x4] h (wq P d sw_c450 sw_h450 168 [.index q2, r1, vi x2, vi x3, vi x4, vi x5] [] kc ks Q)) (e_q2 : r0 = .index q2 := by first | rfl | assumption) (y1 : s_ty r0 = 3 := by first | rfl | assumption)  : wr P d sw_c450 sw_h450 (160, [r0, r1, vi x2, vi x3, vi x4, vi x5], [], h, kc, ks) Q := by
  refine w_ld rfl rfl (Or.inr (Or.inr ⟨by decide, y1⟩)) ?_
  refine w_ld rfl rfl (Or.inl ⟨by decide, rfl⟩) ?_
  refine w_ld rfl rfl (Or.inl ⟨by decide, rfl⟩) ?_
  subst e_q2
  exact w_cv rfl [.index q2, vi x5, vi x4] [] rfl rfl (s_wt_4 rfl) rfl g4 k

theorem k450_168 {P : s_P} {d : Nat} {Q : s_O → Prop} {h : s_H} {kc ks : Nat} {r0 r1 : Term} {x2 x3 x4 x5 s0 : Int}  (k1 : s0 = 0 → wr P d sw_c450 sw_h450 (175, [r0, r1, vi x2, vi x3, vi x4, vi x5], [], h, kc, ks) Q) (k2 : ¬ s0 = 0 → wr P d sw_c450 sw_h450 (171, [r0, r1, vi x2, vi x3, vi x4, vi x5], [], h, kc, ks) Q)  (c1 : In3 s0 := by first | omega | assumption | (simp only [mk_len, List.length_map]; omega) | decide) : wr P d sw_c450 sw_h450 (168, [r0, r1, vi x2, vi x3, vi x4, vi x5], [vi s0], h, kc, ks) Q := by
  exact w_if1 rfl c1 k1 k2

theorem k450_171 {P : s_P} {d : Nat} {Q : s_O → Prop} {h : s_H} {kc ks : Nat} {r0 r1 : Term} {x2 x3 x4 x5 : Int}  (k : wr P d sw_c450 sw_h450 (175, [r0, r1, vi x2, vi x3, vi x5, vi x5], [], h, kc, ks) Q)   : wr P d sw_c450 sw_h450 (171, [r0, r1, vi x2, vi x3, vi x4, vi x5], [], h, kc, ks) Q := by
  refine w_ld rfl rfl (Or.inl ⟨by decide, rfl⟩) ?_
  refine w_st (ls' := [r0, r1, vi x2, vi x3, vi x5, vi x5]) rfl (Or.inl ⟨by decide, rfl⟩) rfl ?_
  exact k

theorem k450_175 {P : s_P} {d : Nat} {Q : s_O → Prop} {h : s_H} {kc ks : Nat} {r0 r1 : Term} {x2 x3 x4 x5 : Int}  (k : wr P d sw_c450 sw_h450 (136, [r0, r1, vi x2, vi x3, vi x4, vi (x5 + 1)], [], h, kc, ks) Q)   : wr P d sw_c450 sw_h450 (175, [r0, r1, vi x2, vi x3, vi x4, vi x5], [], h, kc, ks) Q := by
  refine w_iinc (ls' := [r0, r1, vi x2, vi x3, vi x4, vi (x5 + 1)]) rfl rfl 1 (by decide) rfl ?_
  refine w_goto rfl ?_
  exact k

theorem k450_181 {P : s_P} {d : Nat} {Q : s_O → Prop} {h : s_H} {kc ks : Nat} {r0 r1 : Term} {x2 x3 x4 x5 : Int} {q3 : Nat} {f4 : List Term} (g5 : s_get h q3 = some (1, 11, f4)) (k : wm P d 497 [.index q3, vi x4, r1] h (wq P d sw_c450 sw_h450 188 [.index q3, r1, vi x2, vi x3, vi x4, vi x5] [] kc ks Q)) (e_q3 : r0 = .index q3 := by first | rfl | assumption) (y1 : s_ty r0 = 3 := by first | rfl | assumption) (y2 : s_ty r1 = 3 := by first | rfl | assumption)  : wr P d sw_c450 sw_h450 (181, [r0, r1, vi x2, vi x3, vi x4, vi x5], [], h, kc, ks) Q := by
  refine w_ld rfl rfl (Or.inr (Or.inr ⟨by decide, y1⟩)) ?_
  refine w_ld rfl rfl (Or.inl ⟨by decide, rfl⟩) ?_
  refine w_ld rfl rfl (Or.inr (Or.inr ⟨by decide, y2⟩)) ?_
  subst e_q3
  exact w_cv rfl [.index q3, vi x4, r1] [] rfl rfl (s_wt_4 rfl) rfl g5 k

theorem k450_188 {P : s_P} {d : Nat} {Q : s_O → Prop} {h : s_H} {kc ks : Nat} {r0 r1 : Term} {x2 x3 x4 x5 : Int}  (k : wr P d sw_c450 sw_h450 (122, [r0, r1, vi x2, vi (x3 + 1), vi x4, vi x5], [], h, kc, ks) Q)   : wr P d sw_c450 sw_h450 (188, [r0, r1, vi x2, vi x3, vi x4, vi x5], [], h, kc, ks) Q := by
  refine w_iinc (ls' := [r0, r1, vi x2, vi (x3 + 1), vi x4, vi x5]) rfl rfl 1 (by decide) rfl ?_
  refine w_goto rfl ?_
  exact k

theorem k450_194 {P : s_P} {d : Nat} {Q : s_O → Prop} {h : s_H} {kc ks : Nat} {r0 r1 : Term} {x2 x3 : Int} {t4 t5 : Term}  (k : Q (.inl none, h, kc, ks))   : wr P d sw_c450 sw_h450 (194, [r0, r1, vi x2, vi x3, t4, t5], [], h, kc, ks) Q := by
  exact w_ret rfl k

/-! 451: FormulaWorksModel.findFixed([JI)V -/
theorem k451_0 {P : s_P} {d : Nat} {Q : s_O → Prop} {h : s_H} {kc ks : Nat} {r0 r1 : Term} {x2 : Int} {t3 t4 : Term} {q2 : Nat} {f3 : List Term} {v5 : Term} (g4 : s_get h q2 = some (1, 11, f3)) (k : wm P d 405 [v5, vl 0] h (wq P d sw_c451 sw_h451 8 [.index q2, r1, vi x2, t3, t4] [] kc ks Q)) (e_q2 : r0 = .index q2 := by first | rfl | assumption) (y1 : s_ty r0 = 3 := by first | rfl | assumption) (n6 : s_nth f3 20 = some v5 := by first | rfl | assumption)  : wr P d sw_c451 sw_h451 (0, [r0, r1, vi x2, t3, t4], [], h, kc, ks) Q := by
  refine w_ld rfl rfl (Or.inr (Or.inr ⟨by decide, y1⟩)) ?_
  subst e_q2
  refine w_getf rfl g4 n6 ?_
  refine w_c64 rfl (by decide) 0 (by decide) ?_
  exact w_cs rfl [v5, vl 0] [] rfl rfl (s_wt_4 rfl) k

theorem k451_8 {P : s_P} {d : Nat} {Q : s_O → Prop} {h : s_H} {kc ks : Nat} {r0 r1 : Term} {x2 : Int} {t3 t4 : Term} {q2 : Nat} {f3 : List Term} {v5 : Term} {q7 : Nat} {a8 : List Int} {f12 : List Term} {v14 : Term} (g4 : s_get h q2 = some (1, 11, f3)) (g9 : s_get h q7 = some (0, 1, a8.map vl)) (g13 : s_get (hp h q7 (0, 1, (a8.set (Int.toNat (1)) 1).map vl)) q2 = some (1, 11, f12)) (k : wm P d 433 [.index q2, v14, r1] (hp h q7 (0, 1, (a8.set (Int.toNat (1)) 1).map vl)) (wq P d sw_c451 sw_h451 24 [.index q2, r1, vi x2, t3, t4] [] kc ks Q)) (e_q2 : r0 = .index q2 := by first | rfl | assumption) (e_q7 : v5 = .index q7 := by first | rfl | assumption) (y1 : s_ty r0 = 3 := by first | rfl | assumption) (n6 : s_nth f3 20 = some v5 := by first | rfl | assumption) (n15 : s_nth f12 20 = some v14 := by first | rfl | assumption) (y16 : s_ty r1 = 3 := by first | rfl | assumption) (c10 : (1 : Int) < a8.length := by first | omega | assumption | (simp only [mk_len, List.length_map]; omega) | decide) (c11 : 0 < q7 := by first | omega | assumption | (simp only [mk_len, List.length_map]; omega) | decide) : wr P d sw_c451 sw_h451 (8, [r0, r1, vi x2, t3, t4], [], h, kc, ks) Q := by
  refine w_ld rfl rfl (Or.inr (Or.inr ⟨by decide, y1⟩)) ?_
  subst e_q2
  refine w_getf rfl g4 n6 ?_
  refine w_c32 rfl (by decide) 1 (by decide) ?_
  refine w_c64 rfl (by decide) 1 (by decide) ?_
  subst e_q7
  refine w_last rfl g9 (Nat.ble_eq_true_of_le c11) (by decide) (by decide) c10 ?_
  refine w_ld rfl rfl (Or.inr (Or.inr ⟨by decide, rfl⟩)) ?_
  refine w_ld rfl rfl (Or.inr (Or.inr ⟨by decide, rfl⟩)) ?_
  refine w_getf rfl g13 n15 ?_
  refine w_ld rfl rfl (Or.inr (Or.inr ⟨by decide, y16⟩)) ?_
  exact w_cv rfl [.index q2, v14, r1] [] rfl rfl (s_wt_4 rfl) rfl g13 k

theorem k451_24 {P : s_P} {d : Nat} {Q : s_O → Prop} {h : s_H} {kc ks : Nat} {r0 r1 : Term} {x2 : Int} {t3 t4 : Term} {q2 : Nat} {f3 : List Term} {v5 v7 : Term} (g4 : s_get h q2 = some (1, 11, f3)) (k : wm P d 425 [v5, v7] h (wq P d sw_c451 sw_h451 35 [.index q2, r1, vi x2, t3, t4] [] kc ks Q)) (e_q2 : r0 = .index q2 := by first | rfl | assumption) (y1 : s_ty r0 = 3 := by first | rfl | assumption) (n6 : s_nth f3 22 = some v5 := by first | rfl | assumption) (n8 : s_nth f3 20 = some v7 := by first | rfl | assumption)  : wr P d sw_c451 sw_h451 (24, [r0, r1, vi x2, t3, t4], [], h, kc, ks) Q := by
  refine w_ld rfl rfl (Or.inr (Or.inr ⟨by decide, y1⟩)) ?_
  subst e_q2
  refine w_getf rfl g4 n6 ?_
  refine w_ld rfl rfl (Or.inr (Or.inr ⟨by decide, rfl⟩)) ?_
  refine w_getf rfl g4 n8 ?_
  exact w_cs rfl [v5, v7] [] rfl rfl (s_wt_4 rfl) k

theorem k451_35 {P : s_P} {d : Nat} {Q : s_O → Prop} {h : s_H} {kc ks : Nat} {r0 r1 : Term} {x2 : Int} {t3 t4 : Term} {q2 : Nat} {f3 : List Term} {v5 : Term} (g4 : s_get h q2 = some (1, 11, f3)) (k : wm P d 405 [v5, vl 1] h (wq P d sw_c451 sw_h451 43 [.index q2, r1, vi x2, t3, t4] [] kc ks Q)) (e_q2 : r0 = .index q2 := by first | rfl | assumption) (y1 : s_ty r0 = 3 := by first | rfl | assumption) (n6 : s_nth f3 21 = some v5 := by first | rfl | assumption)  : wr P d sw_c451 sw_h451 (35, [r0, r1, vi x2, t3, t4], [], h, kc, ks) Q := by
  refine w_ld rfl rfl (Or.inr (Or.inr ⟨by decide, y1⟩)) ?_
  subst e_q2
  refine w_getf rfl g4 n6 ?_
  refine w_c64 rfl (by decide) 1 (by decide) ?_
  exact w_cs rfl [v5, vl 1] [] rfl rfl (s_wt_4 rfl) k

theorem k451_43 {P : s_P} {d : Nat} {Q : s_O → Prop} {h : s_H} {kc ks : Nat} {r0 r1 : Term} {x2 : Int} {t3 t4 : Term}  (k : wr P d sw_c451 sw_h451 (47, [r0, r1, vi x2, vi 32003, t4], [], h, kc, ks) Q)   : wr P d sw_c451 sw_h451 (43, [r0, r1, vi x2, t3, t4], [], h, kc, ks) Q := by
  refine w_c32 rfl (by decide) 32003 (by decide) ?_
  refine w_st (ls' := [r0, r1, vi x2, vi 32003, t4]) rfl (Or.inl ⟨by decide, rfl⟩) rfl ?_
  exact k

theorem k451_47 {P : s_P} {d : Nat} {Q : s_O → Prop} {h : s_H} {kc ks : Nat} {r0 r1 : Term} {x2 x3 : Int} {t4 : Term}  (k1 : x3 ≤ 0 → wr P d sw_c451 sw_h451 (127, [r0, r1, vi x2, vi x3, t4], [], h, kc, ks) Q) (k2 : ¬ x3 ≤ 0 → wr P d sw_c451 sw_h451 (51, [r0, r1, vi x2, vi x3, t4], [], h, kc, ks) Q)  (c1 : In3 x3 := by first | omega | assumption | (simp only [mk_len, List.length_map]; omega) | decide) : wr P d sw_c451 sw_h451 (47, [r0, r1, vi x2, vi x3, t4], [], h, kc, ks) Q := by
  refine w_ld rfl rfl (Or.inl ⟨by decide, rfl⟩) ?_
  exact w_if1 rfl c1 k1 k2

theorem k451_51 {P : s_P} {d : Nat} {Q : s_O → Prop} {h : s_H} {kc ks : Nat} {r0 r1 : Term} {x2 x3 : Int} {t4 : Term}  (k1 : Int.tmod x3 2 ≠ 1 → wr P d sw_c451 sw_h451 (89, [r0, r1, vi x2, vi x3, t4], [], h, kc, ks) Q) (k2 : ¬ Int.tmod x3 2 ≠ 1 → wr P d sw_c451 sw_h451 (58, [r0, r1, vi x2, vi x3, t4], [], h, kc, ks) Q)  (c1 : In3 x3 := by first | omega | assumption | (simp only [mk_len, List.length_map]; omega) | decide) (c2 : In3 (Int.tmod x3 2) := by first | omega | assumption | (simp only [mk_len, List.length_map]; omega) | decide) : wr P d sw_c451 sw_h451 (51, [r0, r1, vi x2, vi x3, t4], [], h, kc, ks) Q := by
  refine w_ld rfl rfl (Or.inl ⟨by decide, rfl⟩) ?_
  refine w_c32 rfl (by decide) 2 (by decide) ?_
  refine w_irem rfl c1 (by decide) (by decide) ?_
  refine w_c32 rfl (by decide) 1 (by decide) ?_
  exact w_if2 rfl c2 (by decide) k1 k2

theorem k451_58 {P : s_P} {d : Nat} {Q : s_O → Prop} {h : s_H} {kc ks : Nat} {r0 r1 : Term} {x2 x3 : Int} {t4 : Term} {q2 : Nat} {f3 : List Term} {v5 v7 : Term} (g4 : s_get h q2 = some (1, 11, f3)) (k : wm P d 425 [v5, v7] h (wq P d sw_c451 sw_h451 69 [.index q2, r1, vi x2, vi x3, t4] [] kc ks Q)) (e_q2 : r0 = .index q2 := by first | rfl | assumption) (y1 : s_ty r0 = 3 := by first | rfl | assumption) (n6 : s_nth f3 20 = some v5 := by first | rfl | assumption) (n8 : s_nth f3 21 = some v7 := by first | rfl | assumption)  : wr P d sw_c451 sw_h451 (58, [r0, r1, vi x2, vi x3, t4], [], h, kc, ks) Q := by
  refine w_ld rfl rfl (Or.inr (Or.inr ⟨by decide, y1⟩)) ?_
  subst e_q2
  refine w_getf rfl g4 n6 ?_
  refine w_ld rfl rfl (Or.inr (Or.inr ⟨by decide, rfl⟩)) ?_
  refine w_getf rfl g4 n8 ?_
  exact w_cs rfl [v5, v7] [] rfl rfl (s_wt_4 rfl) k

theorem k451_69 {P : s_P} {d : Nat} {Q : s_O → Prop} {h : s_H} {kc ks : Nat} {r0 r1 : Term} {x2 x3 : Int} {t4 : Term} {q2 : Nat} {f3 : List Term} {v5 : Term} (g4 : s_get h q2 = some (1, 11, f3)) (k : wm P d 534 [.index q2, v5, r1] h (wq P d sw_c451 sw_h451 78 [.index q2, r1, vi x2, vi x3, t4] [] kc ks Q)) (e_q2 : r0 = .index q2 := by first | rfl | assumption) (y1 : s_ty r0 = 3 := by first | rfl | assumption) (n6 : s_nth f3 22 = some v5 := by first | rfl | assumption) (y7 : s_ty r1 = 3 := by first | rfl | assumption)  : wr P d sw_c451 sw_h451 (69, [r0, r1, vi x2, vi x3, t4], [], h, kc, ks) Q := by
  refine w_ld rfl rfl (Or.inr (Or.inr ⟨by decide, y1⟩)) ?_
  refine w_ld rfl rfl (Or.inr (Or.inr ⟨by decide, y1⟩)) ?_
  subst e_q2
  refine w_getf rfl g4 n6 ?_
  refine w_ld rfl rfl (Or.inr (Or.inr ⟨by decide, y7⟩)) ?_
  exact w_cv rfl [.index q2, v5, r1] [] rfl rfl (s_wt_4 rfl) rfl g4 k

theorem k451_78 {P : s_P} {d : Nat} {Q : s_O → Prop} {h : s_H} {kc ks : Nat} {r0 r1 : Term} {x2 x3 : Int} {t4 : Term} {q2 : Nat} {f3 : List Term} {v5 v7 : Term} (g4 : s_get h q2 = some (1, 11, f3)) (k : wm P d 425 [v5, v7] h (wq P d sw_c451 sw_h451 89 [.index q2, r1, vi x2, vi x3, t4] [] kc ks Q)) (e_q2 : r0 = .index q2 := by first | rfl | assumption) (y1 : s_ty r0 = 3 := by first | rfl | assumption) (n6 : s_nth f3 21 = some v5 := by first | rfl | assumption) (n8 : s_nth f3 20 = some v7 := by first | rfl | assumption)  : wr P d sw_c451 sw_h451 (78, [r0, r1, vi x2, vi x3, t4], [], h, kc, ks) Q := by
  refine w_ld rfl rfl (Or.inr (Or.inr ⟨by decide, y1⟩)) ?_
  subst e_q2
  refine w_getf rfl g4 n6 ?_
  refine w_ld rfl rfl (Or.inr (Or.inr ⟨by decide, rfl⟩)) ?_
  refine w_getf rfl g4 n8 ?_
  exact w_cs rfl [v5, v7] [] rfl rfl (s_wt_4 rfl) k

theorem k451_89 {P : s_P} {d : Nat} {Q : s_O → Prop} {h : s_H} {kc ks : Nat} {r0 r1 : Term} {x2 x3 : Int} {t4 : Term} {q2 : Nat} {f3 : List Term} {v5 v7 : Term} (g4 : s_get h q2 = some (1, 11, f3)) (k : wm P d 425 [v5, v7] h (wq P d sw_c451 sw_h451 100 [.index q2, r1, vi x2, vi x3, t4] [] kc ks Q)) (e_q2 : r0 = .index q2 := by first | rfl | assumption) (y1 : s_ty r0 = 3 := by first | rfl | assumption) (n6 : s_nth f3 20 = some v5 := by first | rfl | assumption) (n8 : s_nth f3 22 = some v7 := by first | rfl | assumption)  : wr P d sw_c451 sw_h451 (89, [r0, r1, vi x2, vi x3, t4], [], h, kc, ks) Q := by
  refine w_ld rfl rfl (Or.inr (Or.inr ⟨by decide, y1⟩)) ?_
  subst e_q2
  refine w_getf rfl g4 n6 ?_
  refine w_ld rfl rfl (Or.inr (Or.inr ⟨by decide, rfl⟩)) ?_
  refine w_getf rfl g4 n8 ?_
  exact w_cs rfl [v5, v7] [] rfl rfl (s_wt_4 rfl) k

theorem k451_100 {P : s_P} {d : Nat} {Q : s_O → Prop} {h : s_H} {kc ks : Nat} {r0 r1 : Term} {x2 x3 : Int} {t4 : Term} {q2 : Nat} {f3 : List Term} {v5 : Term} (g4 : s_get h q2 = some (1, 11, f3)) (k : wm P d 534 [.index q2, v5, r1] h (wq P d sw_c451 sw_h451 109 [.index q2, r1, vi x2, vi x3, t4] [] kc ks Q)) (e_q2 : r0 = .index q2 := by first | rfl | assumption) (y1 : s_ty r0 = 3 := by first | rfl | assumption) (n6 : s_nth f3 22 = some v5 := by first | rfl | assumption) (y7 : s_ty r1 = 3 := by first | rfl | assumption)  : wr P d sw_c451 sw_h451 (100, [r0, r1, vi x2, vi x3, t4], [], h, kc, ks) Q := by
  refine w_ld rfl rfl (Or.inr (Or.inr ⟨by decide, y1⟩)) ?_
  refine w_ld rfl rfl (Or.inr (Or.inr ⟨by decide, y1⟩)) ?_
  subst e_q2
  refine w_getf rfl g4 n6 ?_
  refine w_ld rfl rfl (Or.inr (Or.inr ⟨by decide, y7⟩)) ?_
  exact w_cv rfl [.index q2, v5, r1] [] rfl rfl (s_wt_4 rfl) rfl g4 k

theorem k451_109 {P : s_P} {d : Nat} {Q : s_O → Prop} {h : s_H} {kc ks : Nat} {r0 r1 : Term} {x2 x3 : Int} {t4 : Term} {q2 : Nat} {f3 : List Term} {v5 v7 : Term} (g4 : s_get h q2 = some (1, 11, f3)) (k : wm P d 425 [v5, v7] h (wq P d sw_c451 sw_h451 120 [.index q2, r1, vi x2, vi x3, t4] [] kc ks Q)) (e_q2 : r0 = .index q2 := by first | rfl | assumption) (y1 : s_ty r0 = 3 := by first | rfl | assumption) (n6 : s_nth f3 22 = some v5 := by first | rfl | assumption) (n8 : s_nth f3 20 = some v7 := by first | rfl | assumption)  : wr P d sw_c451 sw_h451 (109, [r0, r1, vi x2, vi x3, t4], [], h, kc, ks) Q := by
  refine w_ld rfl rfl (Or.inr (Or.inr ⟨by decide, y1⟩)) ?_
  subst e_q2
  refine w_getf rfl g4 n6 ?_
  refine w_ld rfl rfl (Or.inr (Or.inr ⟨by decide, rfl⟩)) ?_
  refine w_getf rfl g4 n8 ?_
  exact w_cs rfl [v5, v7] [] rfl rfl (s_wt_4 rfl) k

theorem k451_120 {P : s_P} {d : Nat} {Q : s_O → Prop} {h : s_H} {kc ks : Nat} {r0 r1 : Term} {x2 x3 : Int} {t4 : Term}  (k : wr P d sw_c451 sw_h451 (47, [r0, r1, vi x2, vi (Int.tdiv x3 2), t4], [], h, kc, ks) Q)  (c1 : In3 x3 := by first | omega | assumption | (simp only [mk_len, List.length_map]; omega) | decide) : wr P d sw_c451 sw_h451 (120, [r0, r1, vi x2, vi x3, t4], [], h, kc, ks) Q := by
  refine w_ld rfl rfl (Or.inl ⟨by decide, rfl⟩) ?_
  refine w_c32 rfl (by decide) 2 (by decide) ?_
  refine w_idiv rfl c1 (by decide) (by decide) ?_
  refine w_st (ls' := [r0, r1, vi x2, vi (Int.tdiv x3 2), t4]) rfl (Or.inl ⟨by decide, rfl⟩) rfl ?_
  refine w_goto rfl ?_
  exact k

theorem k451_127 {P : s_P} {d : Nat} {Q : s_O → Prop} {h : s_H} {kc ks : Nat} {r0 r1 : Term} {x2 x3 : Int} {t4 : Term} {q2 : Nat} {f3 : List Term} (g4 : s_get h q2 = some (1, 11, f3)) (k : wm P d 439 [.index q2] h (wq P d sw_c451 sw_h451 131 [.index q2, r1, vi x2, vi x3, t4] [] kc ks Q)) (e_q2 : r0 = .index q2 := by first | rfl | assumption) (y1 : s_ty r0 = 3 := by first | rfl | assumption)  : wr P d sw_c451 sw_h451 (127, [r0, r1, vi x2, vi x3, t4], [], h, kc, ks) Q := by
  refine w_ld rfl rfl (Or.inr (Or.inr ⟨by decide, y1⟩)) ?_
  subst e_q2
  exact w_cv rfl [.index q2] [] rfl rfl (s_wt_4 rfl) rfl g4 k

theorem k451_131 {P : s_P} {d : Nat} {Q : s_O → Prop} {h : s_H} {kc ks : Nat} {r0 r1 : Term} {x2 x3 : Int} {t4 : Term} {q2 : Nat} {f3 : List Term} {v5 : Term} (g4 : s_get h q2 = some (1, 11, f3)) (k : wm P d 405 [v5, vl 1] h (wq P d sw_c451 sw_h451 139 [.index q2, r1, vi x2, vi x3, t4] [] kc ks Q)) (e_q2 : r0 = .index q2 := by first | rfl | assumption) (y1 : s_ty r0 = 3 := by first | rfl | assumption) (n6 : s_nth f3 20 = some v5 := by first | rfl | assumption)  : wr P d sw_c451 sw_h451 (131, [r0, r1, vi x2, vi x3, t4], [], h, kc, ks) Q := by
  refine w_ld rfl rfl (Or.inr (Or.inr ⟨by decide, y1⟩)) ?_
  subst e_q2
  refine w_getf rfl g4 n6 ?_
  refine w_c64 rfl (by decide) 1 (by decide) ?_
  exact w_cs rfl [v5, vl 1] [] rfl rfl (s_wt_4 rfl) k

theorem k451_139 {P : s_P} {d : Nat} {Q : s_O → Prop} {h : s_H} {kc ks : Nat} {r0 r1 : Term} {x2 x3 : Int} {t4 : Term}  (k : wr P d sw_c451 sw_h451 (141, [r0, r1, vi x2, vi 0, t4], [], h, kc, ks) Q)   : wr P d sw_c451 sw_h451 (139, [r0, r1, vi x2, vi x3, t4], [], h, kc, ks) Q := by
  refine w_c32 rfl (by decide) 0 (by decide) ?_
  refine w_st (ls' := [r0, r1, vi x2, vi 0, t4]) rfl (Or.inl ⟨by decide, rfl⟩) rfl ?_
  exact k

theorem k451_141 {P : s_P} {d : Nat} {Q : s_O → Prop} {h : s_H} {kc ks : Nat} {r0 r1 : Term} {x2 x3 : Int} {t4 : Term}  (k1 : x2 ≤ x3 → wr P d sw_c451 sw_h451 (210, [r0, r1, vi x2, vi x3, t4], [], h, kc, ks) Q) (k2 : ¬ x2 ≤ x3 → wr P d sw_c451 sw_h451 (146, [r0, r1, vi x2, vi x3, t4], [], h, kc, ks) Q)  (c1 : In3 x3 := by first | omega | assumption | (simp only [mk_len, List.length_map]; omega) | decide) (c2 : In3 x2 := by first | omega | assumption | (simp only [mk_len, List.length_map]; omega) | decide) : wr P d sw_c451 sw_h451 (141, [r0, r1, vi x2, vi x3, t4], [], h, kc, ks) Q := by
  refine w_ld rfl rfl (Or.inl ⟨by decide, rfl⟩) ?_
  refine w_ld rfl rfl (Or.inl ⟨by decide, rfl⟩) ?_
  exact w_if2 rfl c1 c2 k1 k2

theorem k451_146 {P : s_P} {d : Nat} {Q : s_O → Prop} {h : s_H} {kc ks : Nat} {r0 r1 : Term} {x2 x3 : Int} {t4 : Term}  (k : wr P d sw_c451 sw_h451 (149, [r0, r1, vi x2, vi x3, vi 0], [], h, kc, ks) Q)   : wr P d sw_c451 sw_h451 (146, [r0, r1, vi x2, vi x3, t4], [], h, kc, ks) Q := by
  refine w_c32 rfl (by decide) 0 (by decide) ?_
  refine w_st (ls' := [r0, r1, vi x2, vi x3, vi 0]) rfl (Or.inl ⟨by decide, rfl⟩) rfl ?_
  exact k

theorem k451_149 {P : s_P} {d : Nat} {Q : s_O → Prop} {h : s_H} {kc ks : Nat} {r0 r1 : Term} {x2 x3 x4 : Int}  (k1 : x2 ≤ x4 → wr P d sw_c451 sw_h451 (195, [r0, r1, vi x2, vi x3, vi x4], [], h, kc, ks) Q) (k2 : ¬ x2 ≤ x4 → wr P d sw_c451 sw_h451 (155, [r0, r1, vi x2, vi x3, vi x4], [], h, kc, ks) Q)  (c1 : In3 x4 := by first | omega | assumption | (simp only [mk_len, List.length_map]; omega) | decide) (c2 : In3 x2 := by first | omega | assumption | (simp only [mk_len, List.length_map]; omega) | decide) : wr P d sw_c451 sw_h451 (149, [r0, r1, vi x2, vi x3, vi x4], [], h, kc, ks) Q := by
  refine w_ld rfl rfl (Or.inl ⟨by decide, rfl⟩) ?_
  refine w_ld rfl rfl (Or.inl ⟨by decide, rfl⟩) ?_
  exact w_if2 rfl c1 c2 k1 k2

theorem k451_155 {P : s_P} {d : Nat} {Q : s_O → Prop} {h : s_H} {kc ks : Nat} {r0 r1 : Term} {x2 x3 x4 : Int} {q2 : Nat} {f3 : List Term} {v5 v7 : Term} {q9 : Nat} {a10 : List Int} (g4 : s_get h q2 = some (1, 11, f3)) (g11 : s_get h q9 = some (0, 1, a10.map vl)) (k1 : x4 ≠ x3 → wr P d sw_c451 sw_h451 (183, [.index q2, r1, vi x2, vi x3, vi x4], [vl (gi a10 x4), vi ((48 * x4) + x3), v5], h, kc, ks) Q) (k2 : ¬ x4 ≠ x3 → wr P d sw_c451 sw_h451 (179, [.index q2, r1, vi x2, vi x3, vi x4], [vl (gi a10 x4), vi ((48 * x4) + x3), v5], h, kc, ks) Q) (e_q2 : r0 = .index q2 := by first | rfl | assumption) (e_q9 : v7 = .index q9 := by first | rfl | assumption) (y1 : s_ty r0 = 3 := by first | rfl | assumption) (n6 : s_nth f3 30 = some v5 := by first | rfl | assumption) (n8 : s_nth f3 20 = some v7 := by first | rfl | assumption) (c12 : x4 < a10.length := by first | omega | assumption | (simp only [mk_len, List.length_map]; omega) | decide) (c13 : 0 ≤ x4 := by first | omega | assumption | (simp only [mk_len, List.length_map]; omega) | decide) (c14 : In3 x4 := by first | omega | assumption | (simp only [mk_len, List.length_map]; omega) | decide) (c15 : In3 x3 := by first | omega | assumption | (simp only [mk_len, List.length_map]; omega) | decide) : wr P d sw_c451 sw_h451 (155, [r0, r1, vi x2, vi x3, vi x4], [], h, kc, ks) Q := by
  refine w_ld rfl rfl (Or.inr (Or.inr ⟨by decide, y1⟩)) ?_
  subst e_q2
  refine w_getf rfl g4 n6 ?_
  refine w_c32 rfl (by decide) 48 (by decide) ?_
  refine w_ld rfl rfl (Or.inl ⟨by decide, rfl⟩) ?_
  refine w_imul rfl ?_
  refine w_ld rfl rfl (Or.inl ⟨by decide, rfl⟩) ?_
  refine w_iadd rfl ?_
  refine w_ld rfl rfl (Or.inr (Or.inr ⟨by decide, rfl⟩)) ?_
  refine w_getf rfl g4 n8 ?_
  refine w_ld rfl rfl (Or.inl ⟨by decide, rfl⟩) ?_
  subst e_q9
  refine w_lald rfl g11 c14 c13 c12 ?_
  refine w_ld rfl rfl (Or.inl ⟨by decide, rfl⟩) ?_
  refine w_ld rfl rfl (Or.inl ⟨by decide, rfl⟩) ?_
  exact w_if2 rfl c14 c15 k1 k2

theorem k451_179 {P : s_P} {d : Nat} {Q : s_O → Prop} {h : s_H} {kc ks : Nat} {r0 r1 : Term} {x2 x3 x4 : Int} {s0 : Term} {s1 s2 : Int}  (k : wr P d sw_c451 sw_h451 (184, [r0, r1, vi x2, vi x3, vi x4], [vl 1, vl s2, vi s1, s0], h, kc, ks) Q)   : wr P d sw_c451 sw_h451 (179, [r0, r1, vi x2, vi x3, vi x4], [vl s2, vi s1, s0], h, kc, ks) Q := by
  refine w_c64 rfl (by decide) 1 (by decide) ?_
  refine w_goto rfl ?_
  exact k

theorem k451_183 {P : s_P} {d : Nat} {Q : s_O → Prop} {h : s_H} {kc ks : Nat} {r0 r1 : Term} {x2 x3 x4 : Int} {s0 : Term} {s1 s2 : Int}  (k : wr P d sw_c451 sw_h451 (184, [r0, r1, vi x2, vi x3, vi x4], [vl 0, vl s2, vi s1, s0], h, kc, ks) Q)   : wr P d sw_c451 sw_h451 (183, [r0, r1, vi x2, vi x3, vi x4], [vl s2, vi s1, s0], h, kc, ks) Q := by
  refine w_c64 rfl (by decide) 0 (by decide) ?_
  exact k

theorem k451_184 {P : s_P} {d : Nat} {Q : s_O → Prop} {h : s_H} {kc ks : Nat} {r0 r1 : Term} {x2 x3 x4 : Int} {s0 : Term} {s1 s2 s3 : Int}  (k : wm P d 528 [vl (s2 - s3)] h (wq P d sw_c451 sw_h451 188 [r0, r1, vi x2, vi x3, vi x4] [vi s1, s0] kc ks Q))   : wr P d sw_c451 sw_h451 (184, [r0, r1, vi x2, vi x3, vi x4], [vl s3, vl s2, vi s1, s0], h, kc, ks) Q := by
  refine w_lsub rfl ?_
  exact w_cs rfl [vl (s2 - s3)] [vi s1, s0] rfl rfl (s_wt_4 rfl) k

theorem k451_188 {P : s_P} {d : Nat} {Q : s_O → Prop} {h : s_H} {kc ks : Nat} {r0 r1 : Term} {x2 x3 x4 : Int} {s0 : Term} {s1 s2 : Int} {q1 : Nat} {a2 : List Int} (g3 : s_get h q1 = some (0, 1, a2.map vl)) (k : wr P d sw_c451 sw_h451 (149, [r0, r1, vi x2, vi x3, vi (x4 + 1)], [], (hp h q1 (0, 1, (a2.set (Int.toNat (s1)) s2).map vl)), kc, ks) Q) (e_q1 : s0 = .index q1 := by first | rfl | assumption) (c4 : s1 < a2.length := by first | omega | assumption | (simp only [mk_len, List.length_map]; omega) | decide) (c5 : 0 ≤ s1 := by first | omega | assumption | (simp only [mk_len, List.length_map]; omega) | decide) (c6 : In3 s1 := by first | omega | assumption | (simp only [mk_len, List.length_map]; omega) | decide) (c7 : 0 < q1 := by first | omega | assumption | (simp only [mk_len, List.length_map]; omega) | decide) : wr P d sw_c451 sw_h451 (188, [r0, r1, vi x2, vi x3, vi x4], [vl s2, vi s1, s0], h, kc, ks) Q := by
  subst e_q1
  refine w_last rfl g3 (Nat.ble_eq_true_of_le c7) c6 c5 c4 ?_
  refine w_iinc (ls' := [r0, r1, vi x2, vi x3, vi (x4 + 1)]) rfl rfl 1 (by decide) rfl ?_
  refine w_goto rfl ?_
  exact k

theorem k451_195 {P : s_P} {d : Nat} {Q : s_O → Prop} {h : s_H} {kc ks : Nat} {r0 r1 : Term} {x2 x3 x4 : Int} {q2 : Nat} {f3 : List Term} {v5 : Term} (g4 : s_get h q2 = some (1, 11, f3)) (k : wm P d 534 [.index q2, v5, r1] h (wq P d sw_c451 sw_h451 204 [.index q2, r1, vi x2, vi x3, vi x4] [] kc ks Q)) (e_q2 : r0 = .index q2 := by first | rfl | assumption) (y1 : s_ty r0 = 3 := by first | rfl | assumption) (n6 : s_nth f3 21 = some v5 := by first | rfl | assumption) (y7 : s_ty r1 = 3 := by first | rfl | assumption)  : wr P d sw_c451 sw_h451 (195, [r0, r1, vi x2, vi x3, vi x4], [], h, kc, ks) Q := by
  refine w_ld rfl rfl (Or.inr (Or.inr ⟨by decide, y1⟩)) ?_
  refine w_ld rfl rfl (Or.inr (Or.inr ⟨by decide, y1⟩)) ?_
  subst e_q2
  refine w_getf rfl g4 n6 ?_
  refine w_ld rfl rfl (Or.inr (Or.inr ⟨by decide, y7⟩)) ?_
  exact w_cv rfl [.index q2, v5, r1] [] rfl rfl (s_wt_4 rfl) rfl g4 k

theorem k451_204 {P : s_P} {d : Nat} {Q : s_O → Prop} {h : s_H} {kc ks : Nat} {r0 r1 : Term} {x2 x3 x4 : Int}  (k : wr P d sw_c451 sw_h451 (141, [r0, r1, vi x2, vi (x3 + 1), vi x4], [], h, kc, ks) Q)   : wr P d sw_c451 sw_h451 (204, [r0, r1, vi x2, vi x3, vi x4], [], h, kc, ks) Q := by
  refine w_iinc (ls' := [r0, r1, vi x2, vi (x3 + 1), vi x4]) rfl rfl 1 (by decide) rfl ?_
  refine w_goto rfl ?_
  exact k

theorem k451_210 {P : s_P} {d : Nat} {Q : s_O → Prop} {h : s_H} {kc ks : Nat} {r0 r1 : Term} {x2 x3 : Int} {t4 : Term} {q2 : Nat} {f3 : List Term} (g4 : s_get h q2 = some (1, 11, f3)) (k : wm P d 417 [.index q2, vi x2, vi x2] h (wq P d sw_c451 sw_h451 216 [.index q2, r1, vi x2, vi x3, t4] [] kc ks Q)) (e_q2 : r0 = .index q2 := by first | rfl | assumption) (y1 : s_ty r0 = 3 := by first | rfl | assumption)  : wr P d sw_c451 sw_h451 (210, [r0, r1, vi x2, vi x3, t4], [], h, kc, ks) Q := by
  refine w_ld rfl rfl (Or.inr (Or.inr ⟨by decide, y1⟩)) ?_
  refine w_ld rfl rfl (Or.inl ⟨by decide, rfl⟩) ?_
  refine w_ld rfl rfl (Or.inl ⟨by decide, rfl⟩) ?_
  subst e_q2
  exact w_cv rfl [.index q2, vi x2, vi x2] [] rfl rfl (s_wt_4 rfl) rfl g4 k

theorem k451_216 {P : s_P} {d : Nat} {Q : s_O → Prop} {h : s_H} {kc ks : Nat} {r0 r1 : Term} {x2 x3 : Int} {t4 : Term} {q2 : Nat} {f3 : List Term} (g4 : s_get h q2 = some (1, 11, f3)) (k : wr P d sw_c451 sw_h451 (223, [.index q2, r1, vi x2, vi 0, t4], [], (hp h q2 (1, 11, f3.set 35 (vi 0))), kc, ks) Q) (e_q2 : r0 = .index q2 := by first | rfl | assumption) (y1 : s_ty r0 = 3 := by first | rfl | assumption) (l5 : 35 < f3.length := by first | exact Nat.le_of_ble_eq_true rfl | omega | assumption) (c6 : 0 < q2 := by first | omega | assumption | (simp only [mk_len, List.length_map]; omega) | decide) : wr P d sw_c451 sw_h451 (216, [r0, r1, vi x2, vi x3, t4], [], h, kc, ks) Q := by
  refine w_ld rfl rfl (Or.inr (Or.inr ⟨by decide, y1⟩)) ?_
  refine w_c32 rfl (by decide) 0 (by decide) ?_
  subst e_q2
  refine w_putf rfl g4 (Nat.ble_eq_true_of_le c6) rfl (Nat.ble_eq_true_of_le l5) ?_
  refine w_c32 rfl (by decide) 0 (by decide) ?_
  refine w_st (ls' := [.index q2, r1, vi x2, vi 0, t4]) rfl (Or.inl ⟨by decide, rfl⟩) rfl ?_
  exact k

theorem k451_223 {P : s_P} {d : Nat} {Q : s_O → Prop} {h : s_H} {kc ks : Nat} {r0 r1 : Term} {x2 x3 : Int} {t4 : Term}  (k1 : x2 ≤ x3 → wr P d sw_c451 sw_h451 (340, [r0, r1, vi x2, vi x3, t4], [], h, kc, ks) Q) (k2 : ¬ x2 ≤ x3 → wr P d sw_c451 sw_h451 (228, [r0, r1, vi x2, vi x3, t4], [], h, kc, ks) Q)  (c1 : In3 x3 := by first | omega | assumption | (simp only [mk_len, List.length_map]; omega) | decide) (c2 : In3 x2 := by first | omega | assumption | (simp only [mk_len, List.length_map]; omega) | decide) : wr P d sw_c451 sw_h451 (223, [r0, r1, vi x2, vi x3, t4], [], h, kc, ks) Q := by
  refine w_ld rfl rfl (Or.inl ⟨by decide, rfl⟩) ?_
  refine w_ld rfl rfl (Or.inl ⟨by decide, rfl⟩) ?_
  exact w_if2 rfl c1 c2 k1 k2

theorem k451_228 {P : s_P} {d : Nat} {Q : s_O → Prop} {h : s_H} {kc ks : Nat} {r0 r1 : Term} {x2 x3 : Int} {t4 : Term} {q2 : Nat} {f3 : List Term} {v5 : Term} {q7 : Nat} {a8 : List Int} (g4 : s_get h q2 = some (1, 11, f3)) (g9 : s_get h q7 = some (0, 0, a8.map vi)) (k1 : gi a8 x3 = (-1) → wr P d sw_c451 sw_h451 (241, [.index q2, r1, vi x2, vi x3, t4], [], h, kc, ks) Q) (k2 : ¬ gi a8 x3 = (-1) → wr P d sw_c451 sw_h451 (238, [.index q2, r1, vi x2, vi x3, t4], [], h, kc, ks) Q) (e_q2 : r0 = .index q2 := by first | rfl | assumption) (e_q7 : v5 = .index q7 := by first | rfl | assumption) (y1 : s_ty r0 = 3 := by first | rfl | assumption) (n6 : s_nth f3 31 = some v5 := by first | rfl | assumption) (c10 : x3 < a8.length := by first | omega | assumption | (simp only [mk_len, List.length_map]; omega) | decide) (c11 : 0 ≤ x3 := by first | omega | assumption | (simp only [mk_len, List.length_map]; omega) | decide) (c12 : In3 x3 := by first | omega | assumption | (simp only [mk_len, List.length_map]; omega) | decide) (c13 : In3 (gi a8 x3) := by first | omega | assumption | (simp only [mk_len, List.length_map]; omega) | decide) : wr P d sw_c451 sw_h451 (228, [r0, r1, vi x2, vi x3, t4], [], h, kc, ks) Q := by
  refine w_ld rfl rfl (Or.inr (Or.inr ⟨by decide, y1⟩)) ?_
  subst e_q2
  refine w_getf rfl g4 n6 ?_
  refine w_ld rfl rfl (Or.inl ⟨by decide, rfl⟩) ?_
  subst e_q7
  refine w_iald rfl g9 (Or.inl rfl) c12 c11 c10 ?_
  refine w_c32 rfl (by decide) (-1) (by decide) ?_
  exact w_if2 rfl c13 (by decide) k1 k2

theorem k451_238 {P : s_P} {d : Nat} {Q : s_O → Prop} {h : s_H} {kc ks : Nat} {r0 r1 : Term} {x2 x3 : Int} {t4 : Term}  (k : wr P d sw_c451 sw_h451 (334, [r0, r1, vi x2, vi x3, t4], [], h, kc, ks) Q)   : wr P d sw_c451 sw_h451 (238, [r0, r1, vi x2, vi x3, t4], [], h, kc, ks) Q := by
  refine w_goto rfl ?_
  exact k

theorem k451_241 {P : s_P} {d : Nat} {Q : s_O → Prop} {h : s_H} {kc ks : Nat} {r0 r1 : Term} {x2 x3 : Int} {t4 : Term}  (k : wr P d sw_c451 sw_h451 (244, [r0, r1, vi x2, vi x3, vi 0], [], h, kc, ks) Q)   : wr P d sw_c451 sw_h451 (241, [r0, r1, vi x2, vi x3, t4], [], h, kc, ks) Q := by
  refine w_c32 rfl (by decide) 0 (by decide) ?_
  refine w_st (ls' := [r0, r1, vi x2, vi x3, vi 0]) rfl (Or.inl ⟨by decide, rfl⟩) rfl ?_
  exact k

theorem k451_244 {P : s_P} {d : Nat} {Q : s_O → Prop} {h : s_H} {kc ks : Nat} {r0 r1 : Term} {x2 x3 x4 : Int}  (k1 : 41 ≤ x4 → wr P d sw_c451 sw_h451 (324, [r0, r1, vi x2, vi x3, vi x4], [], h, kc, ks) Q) (k2 : ¬ 41 ≤ x4 → wr P d sw_c451 sw_h451 (251, [r0, r1, vi x2, vi x3, vi x4], [], h, kc, ks) Q)  (c1 : In3 x4 := by first | omega | assumption | (simp only [mk_len, List.length_map]; omega) | decide) : wr P d sw_c451 sw_h451 (244, [r0, r1, vi x2, vi x3, vi x4], [], h, kc, ks) Q := by
  refine w_ld rfl rfl (Or.inl ⟨by decide, rfl⟩) ?_
  refine w_c32 rfl (by decide) 41 (by decide) ?_
  exact w_if2 rfl c1 (by decide) k1 k2

theorem k451_251 {P : s_P} {d : Nat} {Q : s_O → Prop} {h : s_H} {kc ks : Nat} {r0 r1 : Term} {x2 x3 x4 : Int} {q2 : Nat} {f3 : List Term} {v5 : Term} {z7 : Int} (g4 : s_get h q2 = some (1, 11, f3)) (k1 : x4 ≠ x3 → wr P d sw_c451 sw_h451 (275, [.index q2, r1, vi x2, vi x3, vi x4], [vi ((41 * z7) + x4), v5], h, kc, ks) Q) (k2 : ¬ x4 ≠ x3 → wr P d sw_c451 sw_h451 (271, [.index q2, r1, vi x2, vi x3, vi x4], [vi ((41 * z7) + x4), v5], h, kc, ks) Q) (e_q2 : r0 = .index q2 := by first | rfl | assumption) (y1 : s_ty r0 = 3 := by first | rfl | assumption) (n6 : s_nth f3 36 = some v5 := by first | rfl | assumption) (n8 : s_nth f3 35 = some (vi z7) := by first | rfl | assumption) (c9 : In3 x4 := by first | omega | assumption | (simp only [mk_len, List.length_map]; omega) | decide) (c10 : In3 x3 := by first | omega | assumption | (simp only [mk_len, List.length_map]; omega) | decide) : wr P d sw_c451 sw_h451 (251, [r0, r1, vi x2, vi x3, vi x4], [], h, kc, ks) Q := by
  refine w_ld rfl rfl (Or.inr (Or.inr ⟨by decide, y1⟩)) ?_
  subst e_q2
  refine w_getf rfl g4 n6 ?_
  refine w_c32 rfl (by decide) 41 (by decide) ?_
  refine w_ld rfl rfl (Or.inr (Or.inr ⟨by decide, rfl⟩)) ?_
  refine w_getf rfl g4 n8 ?_
  refine w_imul rfl ?_
  refine w_ld rfl rfl (Or.inl ⟨by decide, rfl⟩) ?_
  refine w_iadd rfl ?_
  refine w_ld rfl rfl (Or.inl ⟨by decide, rfl⟩) ?_
  refine w_ld rfl rfl (Or.inl ⟨by decide, rfl⟩) ?_
  exact w_if2 rfl c9 c10 k1 k2

theorem k451_271 {P : s_P} {d : Nat} {Q : s_O → Prop} {h : s_H} {kc ks : Nat} {r0 r1 : Term} {x2 x3 x4 : Int} {s0 : Term} {s1 : Int}  (k : wr P d sw_c451 sw_h451 (317, [r0, r1, vi x2, vi x3, vi x4], [vl 1, vi s1, s0], h, kc, ks) Q)   : wr P d sw_c451 sw_h451 (271, [r0, r1, vi x2, vi x3, vi x4], [vi s1, s0], h, kc, ks) Q := by
  refine w_c64 rfl (by decide) 1 (by decide) ?_
  refine w_goto rfl ?_
  exact k

theorem k451_275 {P : s_P} {d : Nat} {Q : s_O → Prop} {h : s_H} {kc ks : Nat} {r0 r1 : Term} {x2 x3 x4 : Int} {s0 : Term} {s1 : Int}  (k1 : x2 ≤ x4 → wr P d sw_c451 sw_h451 (292, [r0, r1, vi x2, vi x3, vi x4], [vi s1, s0], h, kc, ks) Q) (k2 : ¬ x2 ≤ x4 → wr P d sw_c451 sw_h451 (281, [r0, r1, vi x2, vi x3, vi x4], [vi s1, s0], h, kc, ks) Q)  (c1 : In3 x4 := by first | omega | assumption | (simp only [mk_len, List.length_map]; omega) | decide) (c2 : In3 x2 := by first | omega | assumption | (simp only [mk_len, List.length_map]; omega) | decide) : wr P d sw_c451 sw_h451 (275, [r0, r1, vi x2, vi x3, vi x4], [vi s1, s0], h, kc, ks) Q := by
  refine w_ld rfl rfl (Or.inl ⟨by decide, rfl⟩) ?_
  refine w_ld rfl rfl (Or.inl ⟨by decide, rfl⟩) ?_
  exact w_if2 rfl c1 c2 k1 k2

theorem k451_281 {P : s_P} {d : Nat} {Q : s_O → Prop} {h : s_H} {kc ks : Nat} {r0 r1 : Term} {x2 x3 x4 : Int} {s0 : Term} {s1 : Int} {q2 : Nat} {f3 : List Term} {v5 : Term} {q7 : Nat} {a8 : List Int} (g4 : s_get h q2 = some (1, 11, f3)) (g9 : s_get h q7 = some (0, 0, a8.map vi)) (k1 : gi a8 x4 ≠ (-1) → wr P d sw_c451 sw_h451 (296, [.index q2, r1, vi x2, vi x3, vi x4], [vi s1, s0], h, kc, ks) Q) (k2 : ¬ gi a8 x4 ≠ (-1) → wr P d sw_c451 sw_h451 (292, [.index q2, r1, vi x2, vi x3, vi x4], [vi s1, s0], h, kc, ks) Q) (e_q2 : r0 = .index q2 := by first | rfl | assumption) (e_q7 : v5 = .index q7 := by first | rfl | assumption) (y1 : s_ty r0 = 3 := by first | rfl | assumption) (n6 : s_nth f3 31 = some v5 := by first | rfl | assumption) (c10 : x4 < a8.length := by first | omega | assumption | (simp only [mk_len, List.length_map]; omega) | decide) (c11 : 0 ≤ x4 := by first | omega | assumption | (simp only [mk_len, List.length_map]; omega) | decide) (c12 : In3 x4 := by first | omega | assumption | (simp only [mk_len, List.length_map]; omega) | decide) (c13 : In3 (gi a8 x4) := by first | omega | assumption | (simp only [mk_len, List.length_map]; omega) | decide) : wr P d sw_c451 sw_h451 (281, [r0, r1, vi x2, vi x3, vi x4], [vi s1, s0], h, kc, ks) Q := by
  refine w_ld rfl rfl (Or.inr (Or.inr ⟨by decide, y1⟩)) ?_
  subst e_q2
  refine w_getf rfl g4 n6 ?_
  refine w_ld rfl rfl (Or.inl ⟨by decide, rfl⟩) ?_
  subst e_q7
  refine w_iald rfl g9 (Or.inl rfl) c12 c11 c10 ?_
  refine w_c32 rfl (by decide) (-1) (by decide) ?_
  exact w_if2 rfl c13 (by decide) k1 k2

theorem k451_292 {P : s_P} {d : Nat} {Q : s_O → Prop} {h : s_H} {kc ks : Nat} {r0 r1 : Term} {x2 x3 x4 : Int} {s0 : Term} {s1 : Int}  (k : wr P d sw_c451 sw_h451 (317, [r0, r1, vi x2, vi x3, vi x4], [vl 0, vi s1, s0], h, kc, ks) Q)   : wr P d sw_c451 sw_h451 (292, [r0, r1, vi x2, vi x3, vi x4], [vi s1, s0], h, kc, ks) Q := by
  refine w_c64 rfl (by decide) 0 (by decide) ?_
  refine w_goto rfl ?_
  exact k

theorem k451_296 {P : s_P} {d : Nat} {Q : s_O → Prop} {h : s_H} {kc ks : Nat} {r0 r1 : Term} {x2 x3 x4 : Int} {s0 : Term} {s1 : Int} {q2 : Nat} {f3 : List Term} {v5 v7 : Term} {q9 : Nat} {a10 : List Int} {q15 : Nat} {a16 : List Int} (g4 : s_get h q2 = some (1, 11, f3)) (g11 : s_get h q9 = some (0, 0, a10.map vi)) (g17 : s_get h q15 = some (0, 1, a16.map vl)) (k : wm P d 528 [vl (-(gi a16 ((48 * (gi a10 x4)) + x3)))] h (wq P d sw_c451 sw_h451 317 [.index q2, r1, vi x2, vi x3, vi x4] [vi s1, s0] kc ks Q)) (e_q2 : r0 = .index q2 := by first | rfl | assumption) (e_q9 : v7 = .index q9 := by first | rfl | assumption) (e_q15 : v5 = .index q15 := by first | rfl | assumption) (y1 : s_ty r0 = 3 := by first | rfl | assumption) (n6 : s_nth f3 30 = some v5 := by first | rfl | assumption) (n8 : s_nth f3 31 = some v7 := by first | rfl | assumption) (c12 : x4 < a10.length := by first | omega | assumption | (simp only [mk_len, List.length_map]; omega) | decide) (c13 : 0 ≤ x4 := by first | omega | assumption | (simp only [mk_len, List.length_map]; omega) | decide) (c14 : In3 x4 := by first | omega | assumption | (simp only [mk_len, List.length_map]; omega) | decide) (c18 : (48 * (gi a10 x4)) + x3 < a16.length := by first | omega | assumption | (simp only [mk_len, List.length_map]; omega) | decide) (c19 : 0 ≤ (48 * (gi a10 x4)) + x3 := by first | omega | assumption | (simp only [mk_len, List.length_map]; omega) | decide) (c20 : In3 ((48 * (gi a10 x4)) + x3) := by first | omega | assumption | (simp only [mk_len, List.length_map]; omega) | decide) : wr P d sw_c451 sw_h451 (296, [r0, r1, vi x2, vi x3, vi x4], [vi s1, s0], h, kc, ks) Q := by
  refine w_ld rfl rfl (Or.inr (Or.inr ⟨by decide, y1⟩)) ?_
  subst e_q2
  refine w_getf rfl g4 n6 ?_
  refine w_c32 rfl (by decide) 48 (by decide) ?_
  refine w_ld rfl rfl (Or.inr (Or.inr ⟨by decide, rfl⟩)) ?_
  refine w_getf rfl g4 n8 ?_
  refine w_ld rfl rfl (Or.inl ⟨by decide, rfl⟩) ?_
  subst e_q9
  refine w_iald rfl g11 (Or.inl rfl) c14 c13 c12 ?_
  refine w_imul rfl ?_
  refine w_ld rfl rfl (Or.inl ⟨by decide, rfl⟩) ?_
  refine w_iadd rfl ?_
  subst e_q15
  refine w_lald rfl g17 c20 c19 c18 ?_
  refine w_lneg rfl ?_
  exact w_cs rfl [vl (-(gi a16 ((48 * (gi a10 x4)) + x3)))] [vi s1, s0] rfl rfl (s_wt_4 rfl) k

theorem k451_317 {P : s_P} {d : Nat} {Q : s_O → Prop} {h : s_H} {kc ks : Nat} {r0 r1 : Term} {x2 x3 x4 : Int} {s0 : Term} {s1 s2 : Int} {q1 : Nat} {a2 : List Int} (g3 : s_get h q1 = some (0, 1, a2.map vl)) (k : wr P d sw_c451 sw_h451 (244, [r0, r1, vi x2, vi x3, vi (x4 + 1)], [], (hp h q1 (0, 1, (a2.set (Int.toNat (s1)) s2).map vl)), kc, ks) Q) (e_q1 : s0 = .index q1 := by first | rfl | assumption) (c4 : s1 < a2.length := by first | omega | assumption | (simp only [mk_len, List.length_map]; omega) | decide) (c5 : 0 ≤ s1 := by first | omega | assumption | (simp only [mk_len, List.length_map]; omega) | decide) (c6 : In3 s1 := by first | omega | assumption | (simp only [mk_len, List.length_map]; omega) | decide) (c7 : 0 < q1 := by first | omega | assumption | (simp only [mk_len, List.length_map]; omega) | decide) : wr P d sw_c451 sw_h451 (317, [r0, r1, vi x2, vi x3, vi x4], [vl s2, vi s1, s0], h, kc, ks) Q := by
  subst e_q1
  refine w_last rfl g3 (Nat.ble_eq_true_of_le c7) c6 c5 c4 ?_
  refine w_iinc (ls' := [r0, r1, vi x2, vi x3, vi (x4 + 1)]) rfl rfl 1 (by decide) rfl ?_
  refine w_goto rfl ?_
  exact k

theorem k451_324 {P : s_P} {d : Nat} {Q : s_O → Prop} {h : s_H} {kc ks : Nat} {r0 r1 : Term} {x2 x3 x4 : Int} {q2 : Nat} {f3 : List Term} {z5 : Int} (g4 : s_get h q2 = some (1, 11, f3)) (k : wr P d sw_c451 sw_h451 (334, [.index q2, r1, vi x2, vi x3, vi x4], [], (hp h q2 (1, 11, f3.set 35 (vi (z5 + 1)))), kc, ks) Q) (e_q2 : r0 = .index q2 := by first | rfl | assumption) (y1 : s_ty r0 = 3 := by first | rfl | assumption) (n6 : s_nth f3 35 = some (vi z5) := by first | rfl | assumption) (l7 : 35 < f3.length := by first | exact Nat.le_of_ble_eq_true rfl | omega | assumption) (c8 : 0 < q2 := by first | omega | assumption | (simp only [mk_len, List.length_map]; omega) | decide) : wr P d sw_c451 sw_h451 (324, [r0, r1, vi x2, vi x3, vi x4], [], h, kc, ks) Q := by
  refine w_ld rfl rfl (Or.inr (Or.inr ⟨by decide, y1⟩)) ?_
  refine w_dup rfl (by rw [y1]; rfl) ?_
  subst e_q2
  refine w_getf rfl g4 n6 ?_
  refine w_c32 rfl (by decide) 1 (by decide) ?_
  refine w_iadd rfl ?_
  refine w_putf rfl g4 (Nat.ble_eq_true_of_le c8) rfl (Nat.ble_eq_true_of_le l7) ?_
  exact k

theorem k451_334 {P : s_P} {d : Nat} {Q : s_O → Prop} {h : s_H} {kc ks : Nat} {r0 r1 : Term} {x2 x3 : Int} {t4 : Term}  (k : wr P d sw_c451 sw_h451 (223, [r0, r1, vi x2, vi (x3 + 1), t4], [], h, kc, ks) Q)   : wr P d sw_c451 sw_h451 (334, [r0, r1, vi x2, vi x3, t4], [], h, kc, ks) Q := by
  refine w_iinc (ls' := [r0, r1, vi x2, vi (x3 + 1), t4]) rfl rfl 1 (by decide) rfl ?_
  refine w_goto rfl ?_
  exact k

theorem k451_340 {P : s_P} {d : Nat} {Q : s_O → Prop} {h : s_H} {kc ks : Nat} {r0 r1 : Term} {x2 x3 : Int} {t4 : Term}  (k : Q (.inl none, h, kc, ks))   : wr P d sw_c451 sw_h451 (340, [r0, r1, vi x2, vi x3, t4], [], h, kc, ks) Q := by
  exact w_ret rfl k

/-! 452: FormulaWorksModel.findLeast()I -/
theorem k452_0 {P : s_P} {d : Nat} {Q : s_O → Prop} {h : s_H} {kc ks : Nat} {r0 t1 t2 t3 : Term} {q2 : Nat} {f3 : List Term} {v5 : Term} (g4 : s_get h q2 = some (1, 11, f3)) (k : wm P d 463 [v5] h (wq P d sw_c452 sw_h452 7 [.index q2, t1, t2, t3] [] kc ks Q)) (e_q2 : r0 = .index q2 := by first | rfl | assumption) (y1 : s_ty r0 = 3 := by first | rfl | assumption) (n6 : s_nth f3 24 = some v5 := by first | rfl | assumption)  : wr P d sw_c452 sw_h452 (0, [r0, t1, t2, t3], [], h, kc, ks) Q := by
  refine w_ld rfl rfl (Or.inr (Or.inr ⟨by decide, y1⟩)) ?_
  subst e_q2
  refine w_getf rfl g4 n6 ?_
  exact w_cs rfl [v5] [] rfl rfl (s_wt_4 rfl) k

theorem k452_7 {P : s_P} {d : Nat} {Q : s_O → Prop} {h : s_H} {kc ks : Nat} {r0 t1 t2 t3 : Term} {s0 : Int} {q2 : Nat} {f3 : List Term} (g4 : s_get h q2 = some (1, 11, f3)) (k : wm P d 439 [.index q2] h (wq P d sw_c452 sw_h452 12 [.index q2, vi s0, t2, t3] [] kc ks Q)) (e_q2 : r0 = .index q2 := by first | rfl | assumption) (y1 : s_ty r0 = 3 := by first | rfl | assumption)  : wr P d sw_c452 sw_h452 (7, [r0, t1, t2, t3], [vi s0], h, kc, ks) Q := by
  refine w_st (ls' := [r0, vi s0, t2, t3]) rfl (Or.inl ⟨by decide, rfl⟩) (s_stK_r (pre := []) y1) ?_
  refine w_ld rfl rfl (Or.inr (Or.inr ⟨by decide, y1⟩)) ?_
  subst e_q2
  exact w_cv rfl [.index q2] [] rfl rfl (s_wt_4 rfl) rfl g4 k

theorem k452_12 {P : s_P} {d : Nat} {Q : s_O → Prop} {h : s_H} {kc ks : Nat} {r0 : Term} {x1 : Int} {t2 t3 : Term} {q2 : Nat} {f3 : List Term} {v5 : Term} (g4 : s_get h q2 = some (1, 11, f3)) (k : wm P d 405 [v5, vl 1] h (wq P d sw_c452 sw_h452 20 [.index q2, vi x1, t2, t3] [] kc ks Q)) (e_q2 : r0 = .index q2 := by first | rfl | assumption) (y1 : s_ty r0 = 3 := by first | rfl | assumption) (n6 : s_nth f3 20 = some v5 := by first | rfl | assumption)  : wr P d sw_c452 sw_h452 (12, [r0, vi x1, t2, t3], [], h, kc, ks) Q := by
  refine w_ld rfl rfl (Or.inr (Or.inr ⟨by decide, y1⟩)) ?_
  subst e_q2
  refine w_getf rfl g4 n6 ?_
  refine w_c64 rfl (by decide) 1 (by decide) ?_
  exact w_cs rfl [v5, vl 1] [] rfl rfl (s_wt_4 rfl) k

theorem k452_20 {P : s_P} {d : Nat} {Q : s_O → Prop} {h : s_H} {kc ks : Nat} {r0 : Term} {x1 : Int} {t2 t3 : Term}  (k : wr P d sw_c452 sw_h452 (22, [r0, vi x1, vi 0, t3], [], h, kc, ks) Q)   : wr P d sw_c452 sw_h452 (20, [r0, vi x1, t2, t3], [], h, kc, ks) Q := by
  refine w_c32 rfl (by decide) 0 (by decide) ?_
  refine w_st (ls' := [r0, vi x1, vi 0, t3]) rfl (Or.inl ⟨by decide, rfl⟩) rfl ?_
  exact k

theorem k452_22 {P : s_P} {d : Nat} {Q : s_O → Prop} {h : s_H} {kc ks : Nat} {r0 : Term} {x1 x2 : Int} {t3 : Term}  (k1 : x1 < x2 → wr P d sw_c452 sw_h452 (75, [r0, vi x1, vi x2, t3], [], h, kc, ks) Q) (k2 : ¬ x1 < x2 → wr P d sw_c452 sw_h452 (27, [r0, vi x1, vi x2, t3], [], h, kc, ks) Q)  (c1 : In3 x2 := by first | omega | assumption | (simp only [mk_len, List.length_map]; omega) | decide) (c2 : In3 x1 := by first | omega | assumption | (simp only [mk_len, List.length_map]; omega) | decide) : wr P d sw_c452 sw_h452 (22, [r0, vi x1, vi x2, t3], [], h, kc, ks) Q := by
  refine w_ld rfl rfl (Or.inl ⟨by decide, rfl⟩) ?_
  refine w_ld rfl rfl (Or.inl ⟨by decide, rfl⟩) ?_
  exact w_if2 rfl c1 c2 k1 k2

theorem k452_27 {P : s_P} {d : Nat} {Q : s_O → Prop} {h : s_H} {kc ks : Nat} {r0 : Term} {x1 x2 : Int} {t3 : Term}  (k : wr P d sw_c452 sw_h452 (29, [r0, vi x1, vi x2, vi 0], [], h, kc, ks) Q)   : wr P d sw_c452 sw_h452 (27, [r0, vi x1, vi x2, t3], [], h, kc, ks) Q := by
  refine w_c32 rfl (by decide) 0 (by decide) ?_
  refine w_st (ls' := [r0, vi x1, vi x2, vi 0]) rfl (Or.inl ⟨by decide, rfl⟩) rfl ?_
  exact k

theorem k452_29 {P : s_P} {d : Nat} {Q : s_O → Prop} {h : s_H} {kc ks : Nat} {r0 : Term} {x1 x2 x3 : Int}  (k1 : x1 ≤ x3 → wr P d sw_c452 sw_h452 (57, [r0, vi x1, vi x2, vi x3], [], h, kc, ks) Q) (k2 : ¬ x1 ≤ x3 → wr P d sw_c452 sw_h452 (34, [r0, vi x1, vi x2, vi x3], [], h, kc, ks) Q)  (c1 : In3 x3 := by first | omega | assumption | (simp only [mk_len, List.length_map]; omega) | decide) (c2 : In3 x1 := by first | omega | assumption | (simp only [mk_len, List.length_map]; omega) | decide) : wr P d sw_c452 sw_h452 (29, [r0, vi x1, vi x2, vi x3], [], h, kc, ks) Q := by
  refine w_ld rfl rfl (Or.inl ⟨by decide, rfl⟩) ?_
  refine w_ld rfl rfl (Or.inl ⟨by decide, rfl⟩) ?_
  exact w_if2 rfl c1 c2 k1 k2

theorem k452_34 {P : s_P} {d : Nat} {Q : s_O → Prop} {h : s_H} {kc ks : Nat} {r0 : Term} {x1 x2 x3 : Int} {q2 : Nat} {f3 : List Term} {v5 v7 : Term} {q9 : Nat} {a10 : List Int} {q15 : Nat} {a16 : List Int} (g4 : s_get h q2 = some (1, 11, f3)) (g11 : s_get h q9 = some (0, 1, a10.map vl)) (g17 : s_get h q15 = some (0, 1, a16.map vl)) (k : wr P d sw_c452 sw_h452 (29, [.index q2, vi x1, vi x2, vi (x3 + 1)], [], (hp h q15 (0, 1, (a16.set (Int.toNat ((48 * x3) + x2)) (gi a10 x3)).map vl)), kc, ks) Q) (e_q2 : r0 = .index q2 := by first | rfl | assumption) (e_q9 : v7 = .index q9 := by first | rfl | assumption) (e_q15 : v5 = .index q15 := by first | rfl | assumption) (y1 : s_ty r0 = 3 := by first | rfl | assumption) (n6 : s_nth f3 30 = some v5 := by first | rfl | assumption) (n8 : s_nth f3 20 = some v7 := by first | rfl | assumption) (c12 : x3 < a10.length := by first | omega | assumption | (simp only [mk_len, List.length_map]; omega) | decide) (c13 : 0 ≤ x3 := by first | omega | assumption | (simp only [mk_len, List.length_map]; omega) | decide) (c14 : In3 x3 := by first | omega | assumption | (simp only [mk_len, List.length_map]; omega) | decide) (c18 : (48 * x3) + x2 < a16.length := by first | omega | assumption | (simp only [mk_len, List.length_map]; omega) | decide) (c19 : 0 ≤ (48 * x3) + x2 := by first | omega | assumption | (simp only [mk_len, List.length_map]; omega) | decide) (c20 : In3 ((48 * x3) + x2) := by first | omega | assumption | (simp only [mk_len, List.length_map]; omega) | decide) (c21 : 0 < q15 := by first | omega | assumption | (simp only [mk_len, List.length_map]; omega) | decide) : wr P d sw_c452 sw_h452 (34, [r0, vi x1, vi x2, vi x3], [], h, kc, ks) Q := by
  refine w_ld rfl rfl (Or.inr (Or.inr ⟨by decide, y1⟩)) ?_
  subst e_q2
  refine w_getf rfl g4 n6 ?_
  refine w_c32 rfl (by decide) 48 (by decide) ?_
  refine w_ld rfl rfl (Or.inl ⟨by decide, rfl⟩) ?_
  refine w_imul rfl ?_
  refine w_ld rfl rfl (Or.inl ⟨by decide, rfl⟩) ?_
  refine w_iadd rfl ?_
  refine w_ld rfl rfl (Or.inr (Or.inr ⟨by decide, rfl⟩)) ?_
  refine w_getf rfl g4 n8 ?_
  refine w_ld rfl rfl (Or.inl ⟨by decide, rfl⟩) ?_
  subst e_q9
  refine w_lald rfl g11 c14 c13 c12 ?_
  subst e_q15
  refine w_last rfl g17 (Nat.ble_eq_true_of_le c21) c20 c19 c18 ?_
  refine w_iinc (ls' := [.index q2, vi x1, vi x2, vi (x3 + 1)]) rfl rfl 1 (by decide) rfl ?_
  refine w_goto rfl ?_
  exact k

theorem k452_57 {P : s_P} {d : Nat} {Q : s_O → Prop} {h : s_H} {kc ks : Nat} {r0 : Term} {x1 x2 x3 : Int} {q2 : Nat} {f3 : List Term} {v5 v7 : Term} (g4 : s_get h q2 = some (1, 11, f3)) (k : wm P d 534 [.index q2, v5, v7] h (wq P d sw_c452 sw_h452 69 [.index q2, vi x1, vi x2, vi x3] [] kc ks Q)) (e_q2 : r0 = .index q2 := by first | rfl | assumption) (y1 : s_ty r0 = 3 := by first | rfl | assumption) (n6 : s_nth f3 23 = some v5 := by first | rfl | assumption) (n8 : s_nth f3 24 = some v7 := by first | rfl | assumption)  : wr P d sw_c452 sw_h452 (57, [r0, vi x1, vi x2, vi x3], [], h, kc, ks) Q := by
  refine w_ld rfl rfl (Or.inr (Or.inr ⟨by decide, y1⟩)) ?_
  refine w_ld rfl rfl (Or.inr (Or.inr ⟨by decide, y1⟩)) ?_
  subst e_q2
  refine w_getf rfl g4 n6 ?_
  refine w_ld rfl rfl (Or.inr (Or.inr ⟨by decide, rfl⟩)) ?_
  refine w_getf rfl g4 n8 ?_
  exact w_cv rfl [.index q2, v5, v7] [] rfl rfl (s_wt_4 rfl) rfl g4 k

theorem k452_69 {P : s_P} {d : Nat} {Q : s_O → Prop} {h : s_H} {kc ks : Nat} {r0 : Term} {x1 x2 x3 : Int}  (k : wr P d sw_c452 sw_h452 (22, [r0, vi x1, vi (x2 + 1), vi x3], [], h, kc, ks) Q)   : wr P d sw_c452 sw_h452 (69, [r0, vi x1, vi x2, vi x3], [], h, kc, ks) Q := by
  refine w_iinc (ls' := [r0, vi x1, vi (x2 + 1), vi x3]) rfl rfl 1 (by decide) rfl ?_
  refine w_goto rfl ?_
  exact k

theorem k452_75 {P : s_P} {d : Nat} {Q : s_O → Prop} {h : s_H} {kc ks : Nat} {r0 : Term} {x1 x2 : Int} {t3 : Term} {q2 : Nat} {f3 : List Term} (g4 : s_get h q2 = some (1, 11, f3)) (k : wm P d 417 [.index q2, vi x1, vi (x1 + 1)] h (wq P d sw_c452 sw_h452 83 [.index q2, vi x1, vi x2, t3] [] kc ks Q)) (e_q2 : r0 = .index q2 := by first | rfl | assumption) (y1 : s_ty r0 = 3 := by first | rfl | assumption)  : wr P d sw_c452 sw_h452 (75, [r0, vi x1, vi x2, t3], [], h, kc, ks) Q := by
  refine w_ld rfl rfl (Or.inr (Or.inr ⟨by decide, y1⟩)) ?_
  refine w_ld rfl rfl (Or.inl ⟨by decide, rfl⟩) ?_
  refine w_ld rfl rfl (Or.inl ⟨by decide, rfl⟩) ?_
  refine w_c32 rfl (by decide) 1 (by decide) ?_
  refine w_iadd rfl ?_
  subst e_q2
  exact w_cv rfl [.index q2, vi x1, vi (x1 + 1)] [] rfl rfl (s_wt_4 rfl) rfl g4 k

theorem k452_83 {P : s_P} {d : Nat} {Q : s_O → Prop} {h : s_H} {kc ks : Nat} {r0 : Term} {x1 x2 : Int} {t3 : Term}  (k : wr P d sw_c452 sw_h452 (85, [r0, vi x1, vi 0, t3], [], h, kc, ks) Q)   : wr P d sw_c452 sw_h452 (83, [r0, vi x1, vi x2, t3], [], h, kc, ks) Q := by
  refine w_c32 rfl (by decide) 0 (by decide) ?_
  refine w_st (ls' := [r0, vi x1, vi 0, t3]) rfl (Or.inl ⟨by decide, rfl⟩) rfl ?_
  exact k

theorem k452_85 {P : s_P} {d : Nat} {Q : s_O → Prop} {h : s_H} {kc ks : Nat} {r0 : Term} {x1 x2 : Int} {t3 : Term} {q2 : Nat} {f3 : List Term} {v5 : Term} {q7 : Nat} {a8 : List Int} (g4 : s_get h q2 = some (1, 11, f3)) (g9 : s_get h q7 = some (0, 0, a8.map vi)) (k1 : gi a8 x2 = (-1) → wr P d sw_c452 sw_h452 (101, [.index q2, vi x1, vi x2, t3], [], h, kc, ks) Q) (k2 : ¬ gi a8 x2 = (-1) → wr P d sw_c452 sw_h452 (95, [.index q2, vi x1, vi x2, t3], [], h, kc, ks) Q) (e_q2 : r0 = .index q2 := by first | rfl | assumption) (e_q7 : v5 = .index q7 := by first | rfl | assumption) (y1 : s_ty r0 = 3 := by first | rfl | assumption) (n6 : s_nth f3 31 = some v5 := by first | rfl | assumption) (c10 : x2 < a8.length := by first | omega | assumption | (simp only [mk_len, List.length_map]; omega) | decide) (c11 : 0 ≤ x2 := by first | omega | assumption | (simp only [mk_len, List.length_map]; omega) | decide) (c12 : In3 x2 := by first | omega | assumption | (simp only [mk_len, List.length_map]; omega) | decide) (c13 : In3 (gi a8 x2) := by first | omega | assumption | (simp only [mk_len, List.length_map]; omega) | decide) : wr P d sw_c452 sw_h452 (85, [r0, vi x1, vi x2, t3], [], h, kc, ks) Q := by
  refine w_ld rfl rfl (Or.inr (Or.inr ⟨by decide, y1⟩)) ?_
  subst e_q2
  refine w_getf rfl g4 n6 ?_
  refine w_ld rfl rfl (Or.inl ⟨by decide, rfl⟩) ?_
  subst e_q7
  refine w_iald rfl g9 (Or.inl rfl) c12 c11 c10 ?_
  refine w_c32 rfl (by decide) (-1) (by decide) ?_
  exact w_if2 rfl c13 (by decide) k1 k2

theorem k452_95 {P : s_P} {d : Nat} {Q : s_O → Prop} {h : s_H} {kc ks : Nat} {r0 : Term} {x1 x2 : Int} {t3 : Term}  (k : wr P d sw_c452 sw_h452 (85, [r0, vi x1, vi (x2 + 1), t3], [], h, kc, ks) Q)   : wr P d sw_c452 sw_h452 (95, [r0, vi x1, vi x2, t3], [], h, kc, ks) Q := by
  refine w_iinc (ls' := [r0, vi x1, vi (x2 + 1), t3]) rfl rfl 1 (by decide) rfl ?_
  refine w_goto rfl ?_
  exact k

theorem k452_101 {P : s_P} {d : Nat} {Q : s_O → Prop} {h : s_H} {kc ks : Nat} {r0 : Term} {x1 x2 : Int} {t3 : Term} {q2 : Nat} {f3 : List Term} {v5 : Term} (g4 : s_get h q2 = some (1, 11, f3)) (k : wm P d 438 [v5] h (wq P d sw_c452 sw_h452 108 [.index q2, vi x1, vi x2, t3] [] kc ks Q)) (e_q2 : r0 = .index q2 := by first | rfl | assumption) (y1 : s_ty r0 = 3 := by first | rfl | assumption) (n6 : s_nth f3 15 = some v5 := by first | rfl | assumption)  : wr P d sw_c452 sw_h452 (101, [r0, vi x1, vi x2, t3], [], h, kc, ks) Q := by
  refine w_ld rfl rfl (Or.inr (Or.inr ⟨by decide, y1⟩)) ?_
  subst e_q2
  refine w_getf rfl g4 n6 ?_
  exact w_cs rfl [v5] [] rfl rfl (s_wt_4 rfl) k

theorem k452_108 {P : s_P} {d : Nat} {Q : s_O → Prop} {h : s_H} {kc ks : Nat} {r0 : Term} {x1 x2 : Int} {t3 : Term} {q2 : Nat} {f3 : List Term} {v5 : Term} {q7 : Nat} {a8 : List Int} (g4 : s_get h q2 = some (1, 11, f3)) (g9 : s_get h q7 = some (0, 1, a8.map vl)) (k : wr P d sw_c452 sw_h452 (117, [.index q2, vi x1, vi x2, vi 0], [], (hp h q7 (0, 1, (a8.set (Int.toNat (x2)) 1).map vl)), kc, ks) Q) (e_q2 : r0 = .index q2 := by first | rfl | assumption) (e_q7 : v5 = .index q7 := by first | rfl | assumption) (y1 : s_ty r0 = 3 := by first | rfl | assumption) (n6 : s_nth f3 15 = some v5 := by first | rfl | assumption) (c10 : x2 < a8.length := by first | omega | assumption | (simp only [mk_len, List.length_map]; omega) | decide) (c11 : 0 ≤ x2 := by first | omega | assumption | (simp only [mk_len, List.length_map]; omega) | decide) (c12 : In3 x2 := by first | omega | assumption | (simp only [mk_len, List.length_map]; omega) | decide) (c13 : 0 < q7 := by first | omega | assumption | (simp only [mk_len, List.length_map]; omega) | decide) : wr P d sw_c452 sw_h452 (108, [r0, vi x1, vi x2, t3], [], h, kc, ks) Q := by
  refine w_ld rfl rfl (Or.inr (Or.inr ⟨by decide, y1⟩)) ?_
  subst e_q2
  refine w_getf rfl g4 n6 ?_
  refine w_ld rfl rfl (Or.inl ⟨by decide, rfl⟩) ?_
  refine w_c64 rfl (by decide) 1 (by decide) ?_
  subst e_q7
  refine w_last rfl g9 (Nat.ble_eq_true_of_le c13) c12 c11 c10 ?_
  refine w_c32 rfl (by decide) 0 (by decide) ?_
  refine w_st (ls' := [.index q2, vi x1, vi x2, vi 0]) rfl (Or.inl ⟨by decide, rfl⟩) rfl ?_
  exact k

theorem k452_117 {P : s_P} {d : Nat} {Q : s_O → Prop} {h : s_H} {kc ks : Nat} {r0 : Term} {x1 x2 x3 : Int}  (k1 : x2 ≤ x3 → wr P d sw_c452 sw_h452 (154, [r0, vi x1, vi x2, vi x3], [], h, kc, ks) Q) (k2 : ¬ x2 ≤ x3 → wr P d sw_c452 sw_h452 (122, [r0, vi x1, vi x2, vi x3], [], h, kc, ks) Q)  (c1 : In3 x3 := by first | omega | assumption | (simp only [mk_len, List.length_map]; omega) | decide) (c2 : In3 x2 := by first | omega | assumption | (simp only [mk_len, List.length_map]; omega) | decide) : wr P d sw_c452 sw_h452 (117, [r0, vi x1, vi x2, vi x3], [], h, kc, ks) Q := by
  refine w_ld rfl rfl (Or.inl ⟨by decide, rfl⟩) ?_
  refine w_ld rfl rfl (Or.inl ⟨by decide, rfl⟩) ?_
  exact w_if2 rfl c1 c2 k1 k2

theorem k452_122 {P : s_P} {d : Nat} {Q : s_O → Prop} {h : s_H} {kc ks : Nat} {r0 : Term} {x1 x2 x3 : Int} {q2 : Nat} {f3 : List Term} {v5 v7 v9 : Term} {q11 : Nat} {a12 : List Int} {q17 : Nat} {a18 : List Int} (g4 : s_get h q2 = some (1, 11, f3)) (g13 : s_get h q11 = some (0, 0, a12.map vi)) (g19 : s_get h q17 = some (0, 1, a18.map vl)) (k : wm P d 528 [vl (-(gi a18 ((48 * (gi a12 x3)) + x2)))] h (wq P d sw_c452 sw_h452 147 [.index q2, vi x1, vi x2, vi x3] [vi x3, v5] kc ks Q)) (e_q2 : r0 = .index q2 := by first | rfl | assumption) (e_q11 : v9 = .index q11 := by first | rfl | assumption) (e_q17 : v7 = .index q17 := by first | rfl | assumption) (y1 : s_ty r0 = 3 := by first | rfl | assumption) (n6 : s_nth f3 15 = some v5 := by first | rfl | assumption) (n8 : s_nth f3 30 = some v7 := by first | rfl | assumption) (n10 : s_nth f3 31 = some v9 := by first | rfl | assumption) (c14 : x3 < a12.length := by first | omega | assumption | (simp only [mk_len, List.length_map]; omega) | decide) (c15 : 0 ≤ x3 := by first | omega | assumption | (simp only [mk_len, List.length_map]; omega) | decide) (c16 : In3 x3 := by first | omega | assumption | (simp only [mk_len, List.length_map]; omega) | decide) (c20 : (48 * (gi a12 x3)) + x2 < a18.length := by first | omega | assumption | (simp only [mk_len, List.length_map]; omega) | decide) (c21 : 0 ≤ (48 * (gi a12 x3)) + x2 := by first | omega | assumption | (simp only [mk_len, List.length_map]; omega) | decide) (c22 : In3 ((48 * (gi a12 x3)) + x2) := by first | omega | assumption | (simp only [mk_len, List.length_map]; omega) | decide) : wr P d sw_c452 sw_h452 (122, [r0, vi x1, vi x2, vi x3], [], h, kc, ks) Q := by
  refine w_ld rfl rfl (Or.inr (Or.inr ⟨by decide, y1⟩)) ?_
  subst e_q2
  refine w_getf rfl g4 n6 ?_
  refine w_ld rfl rfl (Or.inl ⟨by decide, rfl⟩) ?_
  refine w_ld rfl rfl (Or.inr (Or.inr ⟨by decide, rfl⟩)) ?_
  refine w_getf rfl g4 n8 ?_
  refine w_c32 rfl (by decide) 48 (by decide) ?_
  refine w_ld rfl rfl (Or.inr (Or.inr ⟨by decide, rfl⟩)) ?_
  refine w_getf rfl g4 n10 ?_
  refine w_ld rfl rfl (Or.inl ⟨by decide, rfl⟩) ?_
  subst e_q11
  refine w_iald rfl g13 (Or.inl rfl) c16 c15 c14 ?_
  refine w_imul rfl ?_
  refine w_ld rfl rfl (Or.inl ⟨by decide, rfl⟩) ?_
  refine w_iadd rfl ?_
  subst e_q17
  refine w_lald rfl g19 c22 c21 c20 ?_
  refine w_lneg rfl ?_
  exact w_cs rfl [vl (-(gi a18 ((48 * (gi a12 x3)) + x2)))] [vi x3, v5] rfl rfl (s_wt_4 rfl) k

theorem k452_147 {P : s_P} {d : Nat} {Q : s_O → Prop} {h : s_H} {kc ks : Nat} {r0 : Term} {x1 x2 x3 : Int} {s0 : Term} {s1 s2 : Int} {q1 : Nat} {a2 : List Int} (g3 : s_get h q1 = some (0, 1, a2.map vl)) (k : wr P d sw_c452 sw_h452 (117, [r0, vi x1, vi x2, vi (x3 + 1)], [], (hp h q1 (0, 1, (a2.set (Int.toNat (s1)) s2).map vl)), kc, ks) Q) (e_q1 : s0 = .index q1 := by first | rfl | assumption) (c4 : s1 < a2.length := by first | omega | assumption | (simp only [mk_len, List.length_map]; omega) | decide) (c5 : 0 ≤ s1 := by first | omega | assumption | (simp only [mk_len, List.length_map]; omega) | decide) (c6 : In3 s1 := by first | omega | assumption | (simp only [mk_len, List.length_map]; omega) | decide) (c7 : 0 < q1 := by first | omega | assumption | (simp only [mk_len, List.length_map]; omega) | decide) : wr P d sw_c452 sw_h452 (147, [r0, vi x1, vi x2, vi x3], [vl s2, vi s1, s0], h, kc, ks) Q := by
  subst e_q1
  refine w_last rfl g3 (Nat.ble_eq_true_of_le c7) c6 c5 c4 ?_
  refine w_iinc (ls' := [r0, vi x1, vi x2, vi (x3 + 1)]) rfl rfl 1 (by decide) rfl ?_
  refine w_goto rfl ?_
  exact k

theorem k452_154 {P : s_P} {d : Nat} {Q : s_O → Prop} {h : s_H} {kc ks : Nat} {r0 : Term} {x1 x2 x3 : Int}  (k : Q (.inl (some (vi x2)), h, kc, ks))   : wr P d sw_c452 sw_h452 (154, [r0, vi x1, vi x2, vi x3], [], h, kc, ks) Q := by
  refine w_ld rfl rfl (Or.inl ⟨by decide, rfl⟩) ?_
  exact w_iret rfl k

/-! 453: FormulaWorksModel.findMinors(I)V -/
theorem k453_0 {P : s_P} {d : Nat} {Q : s_O → Prop} {h : s_H} {kc ks : Nat} {r0 : Term} {x1 : Int} {t2 t3 t4 t5 t6 t7 : Term}  (k : wr P d sw_c453 sw_h453 (2, [r0, vi x1, vi 0, t3, t4, t5, t6, t7], [], h, kc, ks) Q)   : wr P d sw_c453 sw_h453 (0, [r0, vi x1, t2, t3, t4, t5, t6, t7], [], h, kc, ks) Q := by
  refine w_c32 rfl (by decide) 0 (by decide) ?_
  refine w_st (ls' := [r0, vi x1, vi 0, t3, t4, t5, t6, t7]) rfl (Or.inl ⟨by decide, rfl⟩) rfl ?_
  exact k

theorem k453_2 {P : s_P} {d : Nat} {Q : s_O → Prop} {h : s_H} {kc ks : Nat} {r0 : Term} {x1 x2 : Int} {t3 t4 t5 t6 t7 : Term} {q2 : Nat} {f3 : List Term} {v5 : Term} {q7 : Nat} {a8 : List Int} (g4 : s_get h q2 = some (1, 11, f3)) (g9 : s_get h q7 = some (0, 0, a8.map vi)) (k1 : zi 27 1 (gi a8 x1) ≤ x2 → wr P d sw_c453 sw_h453 (236, [.index q2, vi x1, vi x2, t3, t4, t5, t6, t7], [], h, kc, ks) Q) (k2 : ¬ zi 27 1 (gi a8 x1) ≤ x2 → wr P d sw_c453 sw_h453 (14, [.index q2, vi x1, vi x2, t3, t4, t5, t6, t7], [], h, kc, ks) Q) (e_q2 : r0 = .index q2 := by first | rfl | assumption) (e_q7 : v5 = .index q7 := by first | rfl | assumption) (y1 : s_ty r0 = 3 := by first | rfl | assumption) (n6 : s_nth f3 5 = some v5 := by first | rfl | assumption) (c10 : x1 < a8.length := by first | omega | assumption | (simp only [mk_len, List.length_map]; omega) | decide) (c11 : 0 ≤ x1 := by first | omega | assumption | (simp only [mk_len, List.length_map]; omega) | decide) (c12 : In3 x1 := by first | omega | assumption | (simp only [mk_len, List.length_map]; omega) | decide) (c13 : In3 x2 := by first | omega | assumption | (simp only [mk_len, List.length_map]; omega) | decide) (c14 : In3 (zi 27 1 (gi a8 x1)) := by first | omega | assumption | (simp only [mk_len, List.length_map]; omega) | decide) : wr P d sw_c453 sw_h453 (2, [r0, vi x1, vi x2, t3, t4, t5, t6, t7], [], h, kc, ks) Q := by
  refine w_ld rfl rfl (Or.inl ⟨by decide, rfl⟩) ?_
  refine w_c32 rfl (by decide) 1 (by decide) ?_
  refine w_ld rfl rfl (Or.inr (Or.inr ⟨by decide, y1⟩)) ?_
  subst e_q2
  refine w_getf rfl g4 n6 ?_
  refine w_ld rfl rfl (Or.inl ⟨by decide, rfl⟩) ?_
  subst e_q7
  refine w_iald rfl g9 (Or.inl rfl) c12 c11 c10 ?_
  refine w_ib rfl (by decide) ?_
  exact w_if2 rfl c13 c14 k1 k2

theorem k453_14 {P : s_P} {d : Nat} {Q : s_O → Prop} {h : s_H} {kc ks : Nat} {r0 : Term} {x1 x2 : Int} {t3 t4 t5 t6 t7 : Term}  (k : wr P d sw_c453 sw_h453 (16, [r0, vi x1, vi x2, vi 0, t4, t5, t6, t7], [], h, kc, ks) Q)   : wr P d sw_c453 sw_h453 (14, [r0, vi x1, vi x2, t3, t4, t5, t6, t7], [], h, kc, ks) Q := by
  refine w_c32 rfl (by decide) 0 (by decide) ?_
  refine w_st (ls' := [r0, vi x1, vi x2, vi 0, t4, t5, t6, t7]) rfl (Or.inl ⟨by decide, rfl⟩) rfl ?_
  exact k

theorem k453_16 {P : s_P} {d : Nat} {Q : s_O → Prop} {h : s_H} {kc ks : Nat} {r0 : Term} {x1 x2 x3 : Int} {t4 t5 t6 t7 : Term} {q2 : Nat} {f3 : List Term} {v5 : Term} {q7 : Nat} {a8 : List Int} (g4 : s_get h q2 = some (1, 11, f3)) (g9 : s_get h q7 = some (0, 0, a8.map vi)) (k1 : zi 27 1 (gi a8 x1) ≤ x3 → wr P d sw_c453 sw_h453 (230, [.index q2, vi x1, vi x2, vi x3, t4, t5, t6, t7], [], h, kc, ks) Q) (k2 : ¬ zi 27 1 (gi a8 x1) ≤ x3 → wr P d sw_c453 sw_h453 (28, [.index q2, vi x1, vi x2, vi x3, t4, t5, t6, t7], [], h, kc, ks) Q) (e_q2 : r0 = .index q2 := by first | rfl | assumption) (e_q7 : v5 = .index q7 := by first | rfl | assumption) (y1 : s_ty r0 = 3 := by first | rfl | assumption) (n6 : s_nth f3 6 = some v5 := by first | rfl | assumption) (c10 : x1 < a8.length := by first | omega | assumption | (simp only [mk_len, List.length_map]; omega) | decide) (c11 : 0 ≤ x1 := by first | omega | assumption | (simp only [mk_len, List.length_map]; omega) | decide) (c12 : In3 x1 := by first | omega | assumption | (simp only [mk_len, List.length_map]; omega) | decide) (c13 : In3 x3 := by first | omega | assumption | (simp only [mk_len, List.length_map]; omega) | decide) (c14 : In3 (zi 27 1 (gi a8 x1)) := by first | omega | assumption | (simp only [mk_len, List.length_map]; omega) | decide) : wr P d sw_c453 sw_h453 (16, [r0, vi x1, vi x2, vi x3, t4, t5, t6, t7], [], h, kc, ks) Q := by
  refine w_ld rfl rfl (Or.inl ⟨by decide, rfl⟩) ?_
  refine w_c32 rfl (by decide) 1 (by decide) ?_
  refine w_ld rfl rfl (Or.inr (Or.inr ⟨by decide, y1⟩)) ?_
  subst e_q2
  refine w_getf rfl g4 n6 ?_
  refine w_ld rfl rfl (Or.inl ⟨by decide, rfl⟩) ?_
  subst e_q7
  refine w_iald rfl g9 (Or.inl rfl) c12 c11 c10 ?_
  refine w_ib rfl (by decide) ?_
  exact w_if2 rfl c13 c14 k1 k2

theorem k453_28 {P : s_P} {d : Nat} {Q : s_O → Prop} {h : s_H} {kc ks : Nat} {r0 : Term} {x1 x2 x3 : Int} {t4 t5 t6 t7 : Term}  (k : wm P d 408 [vi x2] h (wq P d sw_c453 sw_h453 32 [r0, vi x1, vi x2, vi x3, t4, t5, t6, t7] [] kc ks Q))   : wr P d sw_c453 sw_h453 (28, [r0, vi x1, vi x2, vi x3, t4, t5, t6, t7], [], h, kc, ks) Q := by
  refine w_ld rfl rfl (Or.inl ⟨by decide, rfl⟩) ?_
  exact w_cs rfl [vi x2] [] rfl rfl (s_wt_4 rfl) k

theorem k453_32 {P : s_P} {d : Nat} {Q : s_O → Prop} {h : s_H} {kc ks : Nat} {r0 : Term} {x1 x2 x3 : Int} {t4 t5 t6 t7 : Term} {s0 : Int}  (k : wm P d 408 [vi x3] h (wq P d sw_c453 sw_h453 36 [r0, vi x1, vi x2, vi x3, t4, t5, t6, t7] [vi s0] kc ks Q))   : wr P d sw_c453 sw_h453 (32, [r0, vi x1, vi x2, vi x3, t4, t5, t6, t7], [vi s0], h, kc, ks) Q := by
  refine w_ld rfl rfl (Or.inl ⟨by decide, rfl⟩) ?_
  exact w_cs rfl [vi x3] [vi s0] rfl rfl (s_wt_4 rfl) k

theorem k453_36 {P : s_P} {d : Nat} {Q : s_O → Prop} {h : s_H} {kc ks : Nat} {r0 : Term} {x1 x2 x3 : Int} {t4 t5 t6 t7 : Term} {s0 s1 : Int}  (k1 : s0 = s1 → wr P d sw_c453 sw_h453 (42, [r0, vi x1, vi x2, vi x3, t4, t5, t6, t7], [], h, kc, ks) Q) (k2 : ¬ s0 = s1 → wr P d sw_c453 sw_h453 (39, [r0, vi x1, vi x2, vi x3, t4, t5, t6, t7], [], h, kc, ks) Q)  (c1 : In3 s0 := by first | omega | assumption | (simp only [mk_len, List.length_map]; omega) | decide) (c2 : In3 s1 := by first | omega | assumption | (simp only [mk_len, List.length_map]; omega) | decide) : wr P d sw_c453 sw_h453 (36, [r0, vi x1, vi x2, vi x3, t4, t5, t6, t7], [vi s1, vi s0], h, kc, ks) Q := by
  exact w_if2 rfl c1 c2 k1 k2

theorem k453_39 {P : s_P} {d : Nat} {Q : s_O → Prop} {h : s_H} {kc ks : Nat} {r0 : Term} {x1 x2 x3 : Int} {t4 t5 t6 t7 : Term}  (k : wr P d sw_c453 sw_h453 (224, [r0, vi x1, vi x2, vi x3, t4, t5, t6, t7], [], h, kc, ks) Q)   : wr P d sw_c453 sw_h453 (39, [r0, vi x1, vi x2, vi x3, t4, t5, t6, t7], [], h, kc, ks) Q := by
  refine w_goto rfl ?_
  exact k

theorem k453_42 {P : s_P} {d : Nat} {Q : s_O → Prop} {h : s_H} {kc ks : Nat} {r0 : Term} {x1 x2 x3 : Int} {t4 t5 t6 t7 : Term} {q2 : Nat} {f3 : List Term} {v5 : Term} (g4 : s_get h q2 = some (1, 11, f3)) (k : wm P d 438 [v5] h (wq P d sw_c453 sw_h453 49 [.index q2, vi x1, vi x2, vi x3, t4, t5, t6, t7] [] kc ks Q)) (e_q2 : r0 = .index q2 := by first | rfl | assumption) (y1 : s_ty r0 = 3 := by first | rfl | assumption) (n6 : s_nth f3 22 = some v5 := by first | rfl | assumption)  : wr P d sw_c453 sw_h453 (42, [r0, vi x1, vi x2, vi x3, t4, t5, t6, t7], [], h, kc, ks) Q := by
  refine w_ld rfl rfl (Or.inr (Or.inr ⟨by decide, y1⟩)) ?_
  subst e_q2
  refine w_getf rfl g4 n6 ?_
  exact w_cs rfl [v5] [] rfl rfl (s_wt_4 rfl) k

theorem k453_49 {P : s_P} {d : Nat} {Q : s_O → Prop} {h : s_H} {kc ks : Nat} {r0 : Term} {x1 x2 x3 : Int} {t4 t5 t6 t7 : Term}  (k1 : x2 ≠ 0 → wr P d sw_c453 sw_h453 (60, [r0, vi x1, vi x2, vi x3, t4, t5, t6, t7], [], h, kc, ks) Q) (k2 : ¬ x2 ≠ 0 → wr P d sw_c453 sw_h453 (53, [r0, vi x1, vi x2, vi x3, t4, t5, t6, t7], [], h, kc, ks) Q)  (c1 : In3 x2 := by first | omega | assumption | (simp only [mk_len, List.length_map]; omega) | decide) : wr P d sw_c453 sw_h453 (49, [r0, vi x1, vi x2, vi x3, t4, t5, t6, t7], [], h, kc, ks) Q := by
  refine w_ld rfl rfl (Or.inl ⟨by decide, rfl⟩) ?_
  exact w_if1 rfl c1 k1 k2

theorem k453_53 {P : s_P} {d : Nat} {Q : s_O → Prop} {h : s_H} {kc ks : Nat} {r0 : Term} {x1 x2 x3 : Int} {t4 t5 t6 t7 : Term} {q2 : Nat} {f3 : List Term} {v5 : Term} {q7 : Nat} {a8 : List Int} (g4 : s_get h q2 = some (1, 11, f3)) (g9 : s_get h q7 = some (0, 1, a8.map vl)) (k : wr P d sw_c453 sw_h453 (60, [.index q2, vi x1, vi x2, vi x3, t4, t5, t6, t7], [], (hp h q7 (0, 1, (a8.set (Int.toNat (0)) 1).map vl)), kc, ks) Q) (e_q2 : r0 = .index q2 := by first | rfl | assumption) (e_q7 : v5 = .index q7 := by first | rfl | assumption) (y1 : s_ty r0 = 3 := by first | rfl | assumption) (n6 : s_nth f3 22 = some v5 := by first | rfl | assumption) (c10 : (0 : Int) < a8.length := by first | omega | assumption | (simp only [mk_len, List.length_map]; omega) | decide) (c11 : 0 < q7 := by first | omega | assumption | (simp only [mk_len, List.length_map]; omega) | decide) : wr P d sw_c453 sw_h453 (53, [r0, vi x1, vi x2, vi x3, t4, t5, t6, t7], [], h, kc, ks) Q := by
  refine w_ld rfl rfl (Or.inr (Or.inr ⟨by decide, y1⟩)) ?_
  subst e_q2
  refine w_getf rfl g4 n6 ?_
  refine w_c32 rfl (by decide) 0 (by decide) ?_
  refine w_c64 rfl (by decide) 1 (by decide) ?_
  subst e_q7
  refine w_last rfl g9 (Nat.ble_eq_true_of_le c11) (by decide) (by decide) c10 ?_
  exact k

theorem k453_60 {P : s_P} {d : Nat} {Q : s_O → Prop} {h : s_H} {kc ks : Nat} {r0 : Term} {x1 x2 x3 : Int} {t4 t5 t6 t7 : Term}  (k : wr P d sw_c453 sw_h453 (63, [r0, vi x1, vi x2, vi x3, vi 0, t5, t6, t7], [], h, kc, ks) Q)   : wr P d sw_c453 sw_h453 (60, [r0, vi x1, vi x2, vi x3, t4, t5, t6, t7], [], h, kc, ks) Q := by
  refine w_c32 rfl (by decide) 0 (by decide) ?_
  refine w_st (ls' := [r0, vi x1, vi x2, vi x3, vi 0, t5, t6, t7]) rfl (Or.inl ⟨by decide, rfl⟩) rfl ?_
  exact k

theorem k453_63 {P : s_P} {d : Nat} {Q : s_O → Prop} {h : s_H} {kc ks : Nat} {r0 : Term} {x1 x2 x3 x4 : Int} {t5 t6 t7 : Term}  (k1 : x2 ≤ 0 → wr P d sw_c453 sw_h453 (82, [r0, vi x1, vi x2, vi x3, vi x4, t5, t6, t7], [], h, kc, ks) Q) (k2 : ¬ x2 ≤ 0 → wr P d sw_c453 sw_h453 (67, [r0, vi x1, vi x2, vi x3, vi x4, t5, t6, t7], [], h, kc, ks) Q)  (c1 : In3 x2 := by first | omega | assumption | (simp only [mk_len, List.length_map]; omega) | decide) : wr P d sw_c453 sw_h453 (63, [r0, vi x1, vi x2, vi x3, vi x4, t5, t6, t7], [], h, kc, ks) Q := by
  refine w_ld rfl rfl (Or.inl ⟨by decide, rfl⟩) ?_
  exact w_if1 rfl c1 k1 k2

theorem k453_67 {P : s_P} {d : Nat} {Q : s_O → Prop} {h : s_H} {kc ks : Nat} {r0 : Term} {x1 x2 x3 x4 : Int} {t5 t6 t7 : Term}  (k1 : zi 24 (zi 28 x2 x4) 1 ≠ 0 → wr P d sw_c453 sw_h453 (82, [r0, vi x1, vi x2, vi x3, vi x4, t5, t6, t7], [], h, kc, ks) Q) (k2 : ¬ zi 24 (zi 28 x2 x4) 1 ≠ 0 → wr P d sw_c453 sw_h453 (76, [r0, vi x1, vi x2, vi x3, vi x4, t5, t6, t7], [], h, kc, ks) Q)  (c1 : In3 (zi 24 (zi 28 x2 x4) 1) := by first | omega | assumption | (simp only [mk_len, List.length_map]; omega) | decide) : wr P d sw_c453 sw_h453 (67, [r0, vi x1, vi x2, vi x3, vi x4, t5, t6, t7], [], h, kc, ks) Q := by
  refine w_ld rfl rfl (Or.inl ⟨by decide, rfl⟩) ?_
  refine w_ld rfl rfl (Or.inl ⟨by decide, rfl⟩) ?_
  refine w_ib rfl (by decide) ?_
  refine w_c32 rfl (by decide) 1 (by decide) ?_
  refine w_ib rfl (by decide) ?_
  exact w_if1 rfl c1 k1 k2

theorem k453_76 {P : s_P} {d : Nat} {Q : s_O → Prop} {h : s_H} {kc ks : Nat} {r0 : Term} {x1 x2 x3 x4 : Int} {t5 t6 t7 : Term}  (k : wr P d sw_c453 sw_h453 (63, [r0, vi x1, vi x2, vi x3, vi (x4 + 1), t5, t6, t7], [], h, kc, ks) Q)   : wr P d sw_c453 sw_h453 (76, [r0, vi x1, vi x2, vi x3, vi x4, t5, t6, t7], [], h, kc, ks) Q := by
  refine w_iinc (ls' := [r0, vi x1, vi x2, vi x3, vi (x4 + 1), t5, t6, t7]) rfl rfl 1 (by decide) rfl ?_
  refine w_goto rfl ?_
  exact k

theorem k453_82 {P : s_P} {d : Nat} {Q : s_O → Prop} {h : s_H} {kc ks : Nat} {r0 : Term} {x1 x2 x3 x4 : Int} {t5 t6 t7 : Term}  (k : wr P d sw_c453 sw_h453 (88, [r0, vi x1, vi x2, vi x3, vi x4, vl 1, .result, vi 0], [], h, kc, ks) Q)   : wr P d sw_c453 sw_h453 (82, [r0, vi x1, vi x2, vi x3, vi x4, t5, t6, t7], [], h, kc, ks) Q := by
  refine w_c64 rfl (by decide) 1 (by decide) ?_
  refine w_stl (ls' := [r0, vi x1, vi x2, vi x3, vi x4, vl 1, t6, t7]) (ls'' := [r0, vi x1, vi x2, vi x3, vi x4, vl 1, .result, t7]) rfl ⟨by decide, rfl⟩ rfl rfl ?_
  refine w_c32 rfl (by decide) 0 (by decide) ?_
  refine w_st (ls' := [r0, vi x1, vi x2, vi x3, vi x4, vl 1, .result, vi 0]) rfl (Or.inl ⟨by decide, rfl⟩) rfl ?_
  exact k

theorem k453_88 {P : s_P} {d : Nat} {Q : s_O → Prop} {h : s_H} {kc ks : Nat} {r0 : Term} {x1 x2 x3 x4 x5 : Int} {t6 : Term} {x7 : Int} {q2 : Nat} {f3 : List Term} {v5 : Term} {q7 : Nat} {a8 : List Int} (g4 : s_get h q2 = some (1, 11, f3)) (g9 : s_get h q7 = some (0, 0, a8.map vi)) (k1 : gi a8 x1 ≤ x7 → wr P d sw_c453 sw_h453 (184, [.index q2, vi x1, vi x2, vi x3, vi x4, vl x5, t6, vi x7], [], h, kc, ks) Q) (k2 : ¬ gi a8 x1 ≤ x7 → wr P d sw_c453 sw_h453 (99, [.index q2, vi x1, vi x2, vi x3, vi x4, vl x5, t6, vi x7], [], h, kc, ks) Q) (e_q2 : r0 = .index q2 := by first | rfl | assumption) (e_q7 : v5 = .index q7 := by first | rfl | assumption) (y1 : s_ty r0 = 3 := by first | rfl | assumption) (n6 : s_nth f3 6 = some v5 := by first | rfl | assumption) (c10 : x1 < a8.length := by first | omega | assumption | (simp only [mk_len, List.length_map]; omega) | decide) (c11 : 0 ≤ x1 := by first | omega | assumption | (simp only [mk_len, List.length_map]; omega) | decide) (c12 : In3 x1 := by first | omega | assumption | (simp only [mk_len, List.length_map]; omega) | decide) (c13 : In3 x7 := by first | omega | assumption | (simp only [mk_len, List.length_map]; omega) | decide) (c14 : In3 (gi a8 x1) := by first | omega | assumption | (simp only [mk_len, List.length_map]; omega) | decide) : wr P d sw_c453 sw_h453 (88, [r0, vi x1, vi x2, vi x3, vi x4, vl x5, t6, vi x7], [], h, kc, ks) Q := by
  refine w_ld rfl rfl (Or.inl ⟨by decide, rfl⟩) ?_
  refine w_ld rfl rfl (Or.inr (Or.inr ⟨by decide, y1⟩)) ?_
  subst e_q2
  refine w_getf rfl g4 n6 ?_
  refine w_ld rfl rfl (Or.inl ⟨by decide, rfl⟩) ?_
  subst e_q7
  refine w_iald rfl g9 (Or.inl rfl) c12 c11 c10 ?_
  exact w_if2 rfl c13 c14 k1 k2

theorem k453_99 {P : s_P} {d : Nat} {Q : s_O → Prop} {h : s_H} {kc ks : Nat} {r0 : Term} {x1 x2 x3 x4 x5 : Int} {t6 : Term} {x7 : Int}  (k1 : x2 ≤ 0 → wr P d sw_c453 sw_h453 (184, [r0, vi x1, vi x2, vi x3, vi x4, vl x5, t6, vi x7], [], h, kc, ks) Q) (k2 : ¬ x2 ≤ 0 → wr P d sw_c453 sw_h453 (103, [r0, vi x1, vi x2, vi x3, vi x4, vl x5, t6, vi x7], [], h, kc, ks) Q)  (c1 : In3 x2 := by first | omega | assumption | (simp only [mk_len, List.length_map]; omega) | decide) : wr P d sw_c453 sw_h453 (99, [r0, vi x1, vi x2, vi x3, vi x4, vl x5, t6, vi x7], [], h, kc, ks) Q := by
  refine w_ld rfl rfl (Or.inl ⟨by decide, rfl⟩) ?_
  exact w_if1 rfl c1 k1 k2

theorem k453_103 {P : s_P} {d : Nat} {Q : s_O → Prop} {h : s_H} {kc ks : Nat} {r0 : Term} {x1 x2 x3 x4 x5 : Int} {t6 : Term} {x7 : Int}  (k1 : zi 24 (zi 28 x3 x7) 1 ≠ 0 → wr P d sw_c453 sw_h453 (115, [r0, vi x1, vi x2, vi x3, vi x4, vl x5, t6, vi x7], [], h, kc, ks) Q) (k2 : ¬ zi 24 (zi 28 x3 x7) 1 ≠ 0 → wr P d sw_c453 sw_h453 (112, [r0, vi x1, vi x2, vi x3, vi x4, vl x5, t6, vi x7], [], h, kc, ks) Q)  (c1 : In3 (zi 24 (zi 28 x3 x7) 1) := by first | omega | assumption | (simp only [mk_len, List.length_map]; omega) | decide) : wr P d sw_c453 sw_h453 (103, [r0, vi x1, vi x2, vi x3, vi x4, vl x5, t6, vi x7], [], h, kc, ks) Q := by
  refine w_ld rfl rfl (Or.inl ⟨by decide, rfl⟩) ?_
  refine w_ld rfl rfl (Or.inl ⟨by decide, rfl⟩) ?_
  refine w_ib rfl (by decide) ?_
  refine w_c32 rfl (by decide) 1 (by decide) ?_
  refine w_ib rfl (by decide) ?_
  exact w_if1 rfl c1 k1 k2

theorem k453_112 {P : s_P} {d : Nat} {Q : s_O → Prop} {h : s_H} {kc ks : Nat} {r0 : Term} {x1 x2 x3 x4 x5 : Int} {t6 : Term} {x7 : Int}  (k : wr P d sw_c453 sw_h453 (178, [r0, vi x1, vi x2, vi x3, vi x4, vl x5, t6, vi x7], [], h, kc, ks) Q)   : wr P d sw_c453 sw_h453 (112, [r0, vi x1, vi x2, vi x3, vi x4, vl x5, t6, vi x7], [], h, kc, ks) Q := by
  refine w_goto rfl ?_
  exact k

theorem k453_115 {P : s_P} {d : Nat} {Q : s_O → Prop} {h : s_H} {kc ks : Nat} {r0 : Term} {x1 x2 x3 x4 x5 : Int} {t6 : Term} {x7 : Int} {q2 : Nat} {f3 : List Term} {v5 : Term} (g4 : s_get h q2 = some (1, 11, f3)) (k : wm P d 508 [.index q2, v5, vi x1, vi x4, vi x7] h (wq P d sw_c453 sw_h453 128 [.index q2, vi x1, vi x2, vi x3, vi x4, vl x5, t6, vi x7] [] kc ks Q)) (e_q2 : r0 = .index q2 := by first | rfl | assumption) (y1 : s_ty r0 = 3 := by first | rfl | assumption) (n6 : s_nth f3 20 = some v5 := by first | rfl | assumption)  : wr P d sw_c453 sw_h453 (115, [r0, vi x1, vi x2, vi x3, vi x4, vl x5, t6, vi x7], [], h, kc, ks) Q := by
  refine w_ld rfl rfl (Or.inr (Or.inr ⟨by decide, y1⟩)) ?_
  refine w_ld rfl rfl (Or.inr (Or.inr ⟨by decide, y1⟩)) ?_
  subst e_q2
  refine w_getf rfl g4 n6 ?_
  refine w_ld rfl rfl (Or.inl ⟨by decide, rfl⟩) ?_
  refine w_ld rfl rfl (Or.inl ⟨by decide, rfl⟩) ?_
  refine w_ld rfl rfl (Or.inl ⟨by decide, rfl⟩) ?_
  exact w_cv rfl [.index q2, v5, vi x1, vi x4, vi x7] [] rfl rfl (s_wt_4 rfl) rfl g4 k

theorem k453_128 {P : s_P} {d : Nat} {Q : s_O → Prop} {h : s_H} {kc ks : Nat} {r0 : Term} {x1 x2 x3 x4 x5 : Int} {t6 : Term} {x7 : Int} {q2 : Nat} {f3 : List Term} {v5 : Term} (g4 : s_get h q2 = some (1, 11, f3)) (k : wm P d 510 [.index q2, v5, vi (x2 - (zi 27 1 x4)), vi (x3 - (zi 27 1 x7))] h (wq P d sw_c453 sw_h453 148 [.index q2, vi x1, vi x2, vi x3, vi x4, vl x5, t6, vi x7] [] kc ks Q)) (e_q2 : r0 = .index q2 := by first | rfl | assumption) (y1 : s_ty r0 = 3 := by first | rfl | assumption) (n6 : s_nth f3 21 = some v5 := by first | rfl | assumption)  : wr P d sw_c453 sw_h453 (128, [r0, vi x1, vi x2, vi x3, vi x4, vl x5, t6, vi x7], [], h, kc, ks) Q := by
  refine w_ld rfl rfl (Or.inr (Or.inr ⟨by decide, y1⟩)) ?_
  refine w_ld rfl rfl (Or.inr (Or.inr ⟨by decide, y1⟩)) ?_
  subst e_q2
  refine w_getf rfl g4 n6 ?_
  refine w_ld rfl rfl (Or.inl ⟨by decide, rfl⟩) ?_
  refine w_c32 rfl (by decide) 1 (by decide) ?_
  refine w_ld rfl rfl (Or.inl ⟨by decide, rfl⟩) ?_
  refine w_ib rfl (by decide) ?_
  refine w_isub rfl ?_
  refine w_ld rfl rfl (Or.inl ⟨by decide, rfl⟩) ?_
  refine w_c32 rfl (by decide) 1 (by decide) ?_
  refine w_ld rfl rfl (Or.inl ⟨by decide, rfl⟩) ?_
  refine w_ib rfl (by decide) ?_
  refine w_isub rfl ?_
  exact w_cv rfl [.index q2, v5, vi (x2 - (zi 27 1 x4)), vi (x3 - (zi 27 1 x7))] [] rfl rfl (s_wt_4 rfl) rfl g4 k

theorem k453_148 {P : s_P} {d : Nat} {Q : s_O → Prop} {h : s_H} {kc ks : Nat} {r0 : Term} {x1 x2 x3 x4 x5 : Int} {t6 : Term} {x7 : Int} {q2 : Nat} {f3 : List Term} {v5 v7 : Term} (g4 : s_get h q2 = some (1, 11, f3)) (k : wm P d 531 [.index q2, v5, v7] h (wq P d sw_c453 sw_h453 160 [.index q2, vi x1, vi x2, vi x3, vi x4, vl x5, t6, vi x7] [] kc ks Q)) (e_q2 : r0 = .index q2 := by first | rfl | assumption) (y1 : s_ty r0 = 3 := by first | rfl | assumption) (n6 : s_nth f3 20 = some v5 := by first | rfl | assumption) (n8 : s_nth f3 21 = some v7 := by first | rfl | assumption)  : wr P d sw_c453 sw_h453 (148, [r0, vi x1, vi x2, vi x3, vi x4, vl x5, t6, vi x7], [], h, kc, ks) Q := by
  refine w_ld rfl rfl (Or.inr (Or.inr ⟨by decide, y1⟩)) ?_
  refine w_ld rfl rfl (Or.inr (Or.inr ⟨by decide, y1⟩)) ?_
  subst e_q2
  refine w_getf rfl g4 n6 ?_
  refine w_ld rfl rfl (Or.inr (Or.inr ⟨by decide, rfl⟩)) ?_
  refine w_getf rfl g4 n8 ?_
  exact w_cv rfl [.index q2, v5, v7] [] rfl rfl (s_wt_4 rfl) rfl g4 k

theorem k453_160 {P : s_P} {d : Nat} {Q : s_O → Prop} {h : s_H} {kc ks : Nat} {r0 : Term} {x1 x2 x3 x4 x5 : Int} {t6 : Term} {x7 : Int} {q2 : Nat} {f3 : List Term} {v5 v7 : Term} (g4 : s_get h q2 = some (1, 11, f3)) (k : wm P d 529 [v5, v7, vl x5] h (wq P d sw_c453 sw_h453 173 [.index q2, vi x1, vi x2, vi x3, vi x4, vl x5, t6, vi x7] [] kc ks Q)) (e_q2 : r0 = .index q2 := by first | rfl | assumption) (y1 : s_ty r0 = 3 := by first | rfl | assumption) (n6 : s_nth f3 22 = some v5 := by first | rfl | assumption) (n8 : s_nth f3 16 = some v7 := by first | rfl | assumption)  : wr P d sw_c453 sw_h453 (160, [r0, vi x1, vi x2, vi x3, vi x4, vl x5, t6, vi x7], [], h, kc, ks) Q := by
  refine w_ld rfl rfl (Or.inr (Or.inr ⟨by decide, y1⟩)) ?_
  subst e_q2
  refine w_getf rfl g4 n6 ?_
  refine w_ld rfl rfl (Or.inr (Or.inr ⟨by decide, rfl⟩)) ?_
  refine w_getf rfl g4 n8 ?_
  refine w_ld rfl rfl (Or.inr (Or.inl ⟨by decide, rfl⟩)) ?_
  exact w_cs rfl [v5, v7, vl x5] [] rfl rfl (s_wt_4 rfl) k

theorem k453_173 {P : s_P} {d : Nat} {Q : s_O → Prop} {h : s_H} {kc ks : Nat} {r0 : Term} {x1 x2 x3 x4 x5 : Int} {t6 : Term} {x7 : Int}  (k : wr P d sw_c453 sw_h453 (178, [r0, vi x1, vi x2, vi x3, vi x4, vl (-x5), .result, vi x7], [], h, kc, ks) Q)   : wr P d sw_c453 sw_h453 (173, [r0, vi x1, vi x2, vi x3, vi x4, vl x5, t6, vi x7], [], h, kc, ks) Q := by
  refine w_ld rfl rfl (Or.inr (Or.inl ⟨by decide, rfl⟩)) ?_
  refine w_lneg rfl ?_
  refine w_stl (ls' := [r0, vi x1, vi x2, vi x3, vi x4, vl (-x5), t6, vi x7]) (ls'' := [r0, vi x1, vi x2, vi x3, vi x4, vl (-x5), .result, vi x7]) rfl ⟨by decide, rfl⟩ rfl rfl ?_
  exact k

theorem k453_178 {P : s_P} {d : Nat} {Q : s_O → Prop} {h : s_H} {kc ks : Nat} {r0 : Term} {x1 x2 x3 x4 x5 : Int} {t6 : Term} {x7 : Int}  (k : wr P d sw_c453 sw_h453 (88, [r0, vi x1, vi x2, vi x3, vi x4, vl x5, (s_uu t6), vi (x7 + 1)], [], h, kc, ks) Q)   : wr P d sw_c453 sw_h453 (178, [r0, vi x1, vi x2, vi x3, vi x4, vl x5, t6, vi x7], [], h, kc, ks) Q := by
  refine w_iinc (ls' := [r0, vi x1, vi x2, vi x3, vi x4, vl x5, (s_uu t6), vi (x7 + 1)]) rfl rfl 1 (by decide) (s_stK_t (pre := [r0, vi x1, vi x2, vi x3, vi x4, vl x5])) ?_
  refine w_goto rfl ?_
  exact k

theorem k453_184 {P : s_P} {d : Nat} {Q : s_O → Prop} {h : s_H} {kc ks : Nat} {r0 : Term} {x1 x2 x3 x4 x5 : Int} {t6 : Term} {x7 : Int}  (k : wr P d sw_c453 sw_h453 (187, [r0, vi x1, vi x2, vi x3, vi x4, vl x5, (s_uu t6), vi 0], [], h, kc, ks) Q)   : wr P d sw_c453 sw_h453 (184, [r0, vi x1, vi x2, vi x3, vi x4, vl x5, t6, vi x7], [], h, kc, ks) Q := by
  refine w_c32 rfl (by decide) 0 (by decide) ?_
  refine w_st (ls' := [r0, vi x1, vi x2, vi x3, vi x4, vl x5, (s_uu t6), vi 0]) rfl (Or.inl ⟨by decide, rfl⟩) (s_stK_t (pre := [r0, vi x1, vi x2, vi x3, vi x4, vl x5])) ?_
  exact k

theorem k453_187 {P : s_P} {d : Nat} {Q : s_O → Prop} {h : s_H} {kc ks : Nat} {r0 : Term} {x1 x2 x3 x4 x5 : Int} {t6 : Term} {x7 : Int}  (k1 : 41 ≤ x7 → wr P d sw_c453 sw_h453 (224, [r0, vi x1, vi x2, vi x3, vi x4, vl x5, t6, vi x7], [], h, kc, ks) Q) (k2 : ¬ 41 ≤ x7 → wr P d sw_c453 sw_h453 (194, [r0, vi x1, vi x2, vi x3, vi x4, vl x5, t6, vi x7], [], h, kc, ks) Q)  (c1 : In3 x7 := by first | omega | assumption | (simp only [mk_len, List.length_map]; omega) | decide) : wr P d sw_c453 sw_h453 (187, [r0, vi x1, vi x2, vi x3, vi x4, vl x5, t6, vi x7], [], h, kc, ks) Q := by
  refine w_ld rfl rfl (Or.inl ⟨by decide, rfl⟩) ?_
  refine w_c32 rfl (by decide) 41 (by decide) ?_
  exact w_if2 rfl c1 (by decide) k1 k2

theorem k453_194 {P : s_P} {d : Nat} {Q : s_O → Prop} {h : s_H} {kc ks : Nat} {r0 : Term} {x1 x2 x3 x4 x5 : Int} {t6 : Term} {x7 : Int} {q2 : Nat} {f3 : List Term} {v5 v7 : Term} {q9 : Nat} {a10 : List Int} {q15 : Nat} {a16 : List Int} (g4 : s_get h q2 = some (1, 11, f3)) (g11 : s_get h q9 = some (0, 1, a10.map vl)) (g17 : s_get h q15 = some (0, 1, a16.map vl)) (k : wr P d sw_c453 sw_h453 (187, [.index q2, vi x1, vi x2, vi x3, vi x4, vl x5, (s_uu t6), vi (x7 + 1)], [], (hp h q15 (0, 1, (a16.set (Int.toNat ((41 * ((16 * x2) + x3)) + x7)) (gi a10 x7)).map vl)), kc, ks) Q) (e_q2 : r0 = .index q2 := by first | rfl | assumption) (e_q9 : v7 = .index q9 := by first | rfl | assumption) (e_q15 : v5 = .index q15 := by first | rfl | assumption) (y1 : s_ty r0 = 3 := by first | rfl | assumption) (n6 : s_nth f3 46 = some v5 := by first | rfl | assumption) (n8 : s_nth f3 22 = some v7 := by first | rfl | assumption) (c12 : x7 < a10.length := by first | omega | assumption | (simp only [mk_len, List.length_map]; omega) | decide) (c13 : 0 ≤ x7 := by first | omega | assumption | (simp only [mk_len, List.length_map]; omega) | decide) (c14 : In3 x7 := by first | omega | assumption | (simp only [mk_len, List.length_map]; omega) | decide) (c18 : (41 * ((16 * x2) + x3)) + x7 < a16.length := by first | omega | assumption | (simp only [mk_len, List.length_map]; omega) | decide) (c19 : 0 ≤ (41 * ((16 * x2) + x3)) + x7 := by first | omega | assumption | (simp only [mk_len, List.length_map]; omega) | decide) (c20 : In3 ((41 * ((16 * x2) + x3)) + x7) := by first | omega | assumption | (simp only [mk_len, List.length_map]; omega) | decide) (c21 : 0 < q15 := by first | omega | assumption | (simp only [mk_len, List.length_map]; omega) | decide) : wr P d sw_c453 sw_h453 (194, [r0, vi x1, vi x2, vi x3, vi x4, vl x5, t6, vi x7], [], h, kc, ks) Q := by
  refine w_ld rfl rfl (Or.inr (Or.inr ⟨by decide, y1⟩)) ?_
  subst e_q2
  refine w_getf rfl g4 n6 ?_
  refine w_c32 rfl (by decide) 41 (by decide) ?_
  refine w_c32 rfl (by decide) 16 (by decide) ?_
  refine w_ld rfl rfl (Or.inl ⟨by decide, rfl⟩) ?_
  refine w_imul rfl ?_
  refine w_ld rfl rfl (Or.inl ⟨by decide, rfl⟩) ?_
  refine w_iadd rfl ?_
  refine w_imul rfl ?_
  refine w_ld rfl rfl (Or.inl ⟨by decide, rfl⟩) ?_
  refine w_iadd rfl ?_
  refine w_ld rfl rfl (Or.inr (Or.inr ⟨by decide, rfl⟩)) ?_
  refine w_getf rfl g4 n8 ?_
  refine w_ld rfl rfl (Or.inl ⟨by decide, rfl⟩) ?_
  subst e_q9
  refine w_lald rfl g11 c14 c13 c12 ?_
  subst e_q15
  refine w_last rfl g17 (Nat.ble_eq_true_of_le c21) c20 c19 c18 ?_
  refine w_iinc (ls' := [.index q2, vi x1, vi x2, vi x3, vi x4, vl x5, (s_uu t6), vi (x7 + 1)]) rfl rfl 1 (by decide) (s_stK_t (pre := [.index q2, vi x1, vi x2, vi x3, vi x4, vl x5])) ?_
  refine w_goto rfl ?_
  exact k

theorem k453_224 {P : s_P} {d : Nat} {Q : s_O → Prop} {h : s_H} {kc ks : Nat} {r0 : Term} {x1 x2 x3 : Int} {t4 t5 t6 t7 : Term}  (k : wr P d sw_c453 sw_h453 (16, [r0, vi x1, vi x2, vi (x3 + 1), t4, t5, t6, t7], [], h, kc, ks) Q)   : wr P d sw_c453 sw_h453 (224, [r0, vi x1, vi x2, vi x3, t4, t5, t6, t7], [], h, kc, ks) Q := by
  refine w_iinc (ls' := [r0, vi x1, vi x2, vi (x3 + 1), t4, t5, t6, t7]) rfl rfl 1 (by decide) rfl ?_
  refine w_goto rfl ?_
  exact k

theorem k453_230 {P : s_P} {d : Nat} {Q : s_O → Prop} {h : s_H} {kc ks : Nat} {r0 : Term} {x1 x2 x3 : Int} {t4 t5 t6 t7 : Term}  (k : wr P d sw_c453 sw_h453 (2, [r0, vi x1, vi (x2 + 1), vi x3, t4, t5, t6, t7], [], h, kc, ks) Q)   : wr P d sw_c453 sw_h453 (230, [r0, vi x1, vi x2, vi x3, t4, t5, t6, t7], [], h, kc, ks) Q := by
  refine w_iinc (ls' := [r0, vi x1, vi (x2 + 1), vi x3, t4, t5, t6, t7]) rfl rfl 1 (by decide) rfl ?_
  refine w_goto rfl ?_
  exact k

theorem k453_236 {P : s_P} {d : Nat} {Q : s_O → Prop} {h : s_H} {kc ks : Nat} {r0 : Term} {x1 x2 : Int} {t3 t4 t5 t6 t7 : Term}  (k : Q (.inl none, h, kc, ks))   : wr P d sw_c453 sw_h453 (236, [r0, vi x1, vi x2, t3, t4, t5, t6, t7], [], h, kc, ks) Q := by
  exact w_ret rfl k

/-! 454: FormulaWorksModel.findOwn()V -/
theorem k454_0 {P : s_P} {d : Nat} {Q : s_O → Prop} {h : s_H} {kc ks : Nat} {r0 : Term} {q2 : Nat} {f3 : List Term} {v5 : Term} (g4 : s_get h q2 = some (1, 11, f3)) (k : wm P d 483 [v5] h (wq P d sw_c454 sw_h454 7 [.index q2] [] kc ks Q)) (e_q2 : r0 = .index q2 := by first | rfl | assumption) (y1 : s_ty r0 = 3 := by first | rfl | assumption) (n6 : s_nth f3 11 = some v5 := by first | rfl | assumption)  : wr P d sw_c454 sw_h454 (0, [r0], [], h, kc, ks) Q := by
  refine w_ld rfl rfl (Or.inr (Or.inr ⟨by decide, y1⟩)) ?_
  subst e_q2
  refine w_getf rfl g4 n6 ?_
  exact w_cs rfl [v5] [] rfl rfl (s_wt_4 rfl) k

theorem k454_7 {P : s_P} {d : Nat} {Q : s_O → Prop} {h : s_H} {kc ks : Nat} {r0 : Term} {s0 : Int}  (k1 : s0 = 0 → wr P d sw_c454 sw_h454 (21, [r0], [], h, kc, ks) Q) (k2 : ¬ s0 = 0 → wr P d sw_c454 sw_h454 (10, [r0], [], h, kc, ks) Q)  (c1 : In3 s0 := by first | omega | assumption | (simp only [mk_len, List.length_map]; omega) | decide) : wr P d sw_c454 sw_h454 (7, [r0], [vi s0], h, kc, ks) Q := by
  exact w_if1 rfl c1 k1 k2

theorem k454_10 {P : s_P} {d : Nat} {Q : s_O → Prop} {h : s_H} {kc ks : Nat} {r0 : Term} {q2 : Nat} {f3 : List Term} {v5 : Term} (g4 : s_get h q2 = some (1, 11, f3)) (k : wm P d 450 [.index q2, v5] h (wq P d sw_c454 sw_h454 18 [.index q2] [] kc ks Q)) (e_q2 : r0 = .index q2 := by first | rfl | assumption) (y1 : s_ty r0 = 3 := by first | rfl | assumption) (n6 : s_nth f3 10 = some v5 := by first | rfl | assumption)  : wr P d sw_c454 sw_h454 (10, [r0], [], h, kc, ks) Q := by
  refine w_ld rfl rfl (Or.inr (Or.inr ⟨by decide, y1⟩)) ?_
  refine w_ld rfl rfl (Or.inr (Or.inr ⟨by decide, y1⟩)) ?_
  subst e_q2
  refine w_getf rfl g4 n6 ?_
  exact w_cv rfl [.index q2, v5] [] rfl rfl (s_wt_4 rfl) rfl g4 k

theorem k454_18 {P : s_P} {d : Nat} {Q : s_O → Prop} {h : s_H} {kc ks : Nat} {r0 : Term}  (k : wr P d sw_c454 sw_h454 (29, [r0], [], h, kc, ks) Q)   : wr P d sw_c454 sw_h454 (18, [r0], [], h, kc, ks) Q := by
  refine w_goto rfl ?_
  exact k

theorem k454_21 {P : s_P} {d : Nat} {Q : s_O → Prop} {h : s_H} {kc ks : Nat} {r0 : Term} {q2 : Nat} {f3 : List Term} {v5 : Term} (g4 : s_get h q2 = some (1, 11, f3)) (k : wm P d 450 [.index q2, v5] h (wq P d sw_c454 sw_h454 29 [.index q2] [] kc ks Q)) (e_q2 : r0 = .index q2 := by first | rfl | assumption) (y1 : s_ty r0 = 3 := by first | rfl | assumption) (n6 : s_nth f3 11 = some v5 := by first | rfl | assumption)  : wr P d sw_c454 sw_h454 (21, [r0], [], h, kc, ks) Q := by
  refine w_ld rfl rfl (Or.inr (Or.inr ⟨by decide, y1⟩)) ?_
  refine w_ld rfl rfl (Or.inr (Or.inr ⟨by decide, y1⟩)) ?_
  subst e_q2
  refine w_getf rfl g4 n6 ?_
  exact w_cv rfl [.index q2, v5] [] rfl rfl (s_wt_4 rfl) rfl g4 k

theorem k454_29 {P : s_P} {d : Nat} {Q : s_O → Prop} {h : s_H} {kc ks : Nat} {r0 : Term}  (k : Q (.inl none, h, kc, ks))   : wr P d sw_c454 sw_h454 (29, [r0], [], h, kc, ks) Q := by
  exact w_ret rfl k

/-! 455: FormulaWorksModel.fit(II)I -/
theorem k455_0 {P : s_P} {d : Nat} {Q : s_O → Prop} {h : s_H} {kc ks : Nat} {r0 : Term} {x1 x2 : Int} {t3 t4 t5 : Term} {q2 : Nat} {f3 : List Term} (g4 : s_get h q2 = some (1, 11, f3)) (k : wm P d 492 [.index q2, vi x1] h (wq P d sw_c455 sw_h455 6 [.index q2, vi x1, vi x2, t3, t4, t5] [.index q2] kc ks Q)) (e_q2 : r0 = .index q2 := by first | rfl | assumption) (y1 : s_ty r0 = 3 := by first | rfl | assumption)  : wr P d sw_c455 sw_h455 (0, [r0, vi x1, vi x2, t3, t4, t5], [], h, kc, ks) Q := by
  refine w_ld rfl rfl (Or.inr (Or.inr ⟨by decide, y1⟩)) ?_
  refine w_ld rfl rfl (Or.inr (Or.inr ⟨by decide, y1⟩)) ?_
  refine w_ld rfl rfl (Or.inl ⟨by decide, rfl⟩) ?_
  subst e_q2
  exact w_cv rfl [.index q2, vi x1] [.index q2] rfl rfl (s_wt_4 rfl) rfl g4 k

theorem k455_6 {P : s_P} {d : Nat} {Q : s_O → Prop} {h : s_H} {kc ks : Nat} {r0 : Term} {x1 x2 : Int} {t3 t4 t5 s0 : Term} {s1 : Int}  (k1 : s1 = 0 → wr P d sw_c455 sw_h455 (17, [r0, vi x1, vi x2, t3, t4, t5], [s0], h, kc, ks) Q) (k2 : ¬ s1 = 0 → wr P d sw_c455 sw_h455 (9, [r0, vi x1, vi x2, t3, t4, t5], [s0], h, kc, ks) Q)  (c1 : In3 s1 := by first | omega | assumption | (simp only [mk_len, List.length_map]; omega) | decide) : wr P d sw_c455 sw_h455 (6, [r0, vi x1, vi x2, t3, t4, t5], [vi s1, s0], h, kc, ks) Q := by
  exact w_if1 rfl c1 k1 k2

theorem k455_9 {P : s_P} {d : Nat} {Q : s_O → Prop} {h : s_H} {kc ks : Nat} {r0 : Term} {x1 x2 : Int} {t3 t4 t5 s0 : Term} {q2 : Nat} {f3 : List Term} (g4 : s_get h q2 = some (1, 11, f3)) (k : wm P d 492 [.index q2, vi x2] h (wq P d sw_c455 sw_h455 14 [.index q2, vi x1, vi x2, t3, t4, t5] [s0] kc ks Q)) (e_q2 : r0 = .index q2 := by first | rfl | assumption) (y1 : s_ty r0 = 3 := by first | rfl | assumption)  : wr P d sw_c455 sw_h455 (9, [r0, vi x1, vi x2, t3, t4, t5], [s0], h, kc, ks) Q := by
  refine w_ld rfl rfl (Or.inr (Or.inr ⟨by decide, y1⟩)) ?_
  refine w_ld rfl rfl (Or.inl ⟨by decide, rfl⟩) ?_
  subst e_q2
  exact w_cv rfl [.index q2, vi x2] [s0] rfl rfl (s_wt_4 rfl) rfl g4 k

theorem k455_14 {P : s_P} {d : Nat} {Q : s_O → Prop} {h : s_H} {kc ks : Nat} {r0 : Term} {x1 x2 : Int} {t3 t4 t5 s0 : Term} {s1 : Int}  (k1 : s1 ≠ 0 → wr P d sw_c455 sw_h455 (21, [r0, vi x1, vi x2, t3, t4, t5], [s0], h, kc, ks) Q) (k2 : ¬ s1 ≠ 0 → wr P d sw_c455 sw_h455 (17, [r0, vi x1, vi x2, t3, t4, t5], [s0], h, kc, ks) Q)  (c1 : In3 s1 := by first | omega | assumption | (simp only [mk_len, List.length_map]; omega) | decide) : wr P d sw_c455 sw_h455 (14, [r0, vi x1, vi x2, t3, t4, t5], [vi s1, s0], h, kc, ks) Q := by
  exact w_if1 rfl c1 k1 k2

theorem k455_17 {P : s_P} {d : Nat} {Q : s_O → Prop} {h : s_H} {kc ks : Nat} {r0 : Term} {x1 x2 : Int} {t3 t4 t5 s0 : Term}  (k : wr P d sw_c455 sw_h455 (57, [r0, vi x1, vi x2, t3, t4, t5], [vi 1, s0], h, kc, ks) Q)   : wr P d sw_c455 sw_h455 (17, [r0, vi x1, vi x2, t3, t4, t5], [s0], h, kc, ks) Q := by
  refine w_c32 rfl (by decide) 1 (by decide) ?_
  refine w_goto rfl ?_
  exact k

theorem k455_21 {P : s_P} {d : Nat} {Q : s_O → Prop} {h : s_H} {kc ks : Nat} {r0 : Term} {x1 x2 : Int} {t3 t4 t5 s0 : Term} {q2 : Nat} {f3 : List Term} (g4 : s_get h q2 = some (1, 11, f3)) (k : wm P d 486 [.index q2, vi x1] h (wq P d sw_c455 sw_h455 26 [.index q2, vi x1, vi x2, t3, t4, t5] [s0] kc ks Q)) (e_q2 : r0 = .index q2 := by first | rfl | assumption) (y1 : s_ty r0 = 3 := by first | rfl | assumption)  : wr P d sw_c455 sw_h455 (21, [r0, vi x1, vi x2, t3, t4, t5], [s0], h, kc, ks) Q := by
  refine w_ld rfl rfl (Or.inr (Or.inr ⟨by decide, y1⟩)) ?_
  refine w_ld rfl rfl (Or.inl ⟨by decide, rfl⟩) ?_
  subst e_q2
  exact w_cv rfl [.index q2, vi x1] [s0] rfl rfl (s_wt_4 rfl) rfl g4 k

theorem k455_26 {P : s_P} {d : Nat} {Q : s_O → Prop} {h : s_H} {kc ks : Nat} {r0 : Term} {x1 x2 : Int} {t3 t4 t5 s0 : Term} {s1 : Int}  (k1 : s1 = 0 → wr P d sw_c455 sw_h455 (38, [r0, vi x1, vi x2, t3, t4, t5], [s0], h, kc, ks) Q) (k2 : ¬ s1 = 0 → wr P d sw_c455 sw_h455 (29, [r0, vi x1, vi x2, t3, t4, t5], [s0], h, kc, ks) Q)  (c1 : In3 s1 := by first | omega | assumption | (simp only [mk_len, List.length_map]; omega) | decide) : wr P d sw_c455 sw_h455 (26, [r0, vi x1, vi x2, t3, t4, t5], [vi s1, s0], h, kc, ks) Q := by
  exact w_if1 rfl c1 k1 k2

theorem k455_29 {P : s_P} {d : Nat} {Q : s_O → Prop} {h : s_H} {kc ks : Nat} {r0 : Term} {x1 x2 : Int} {t3 t4 t5 s0 : Term} {q2 : Nat} {f3 : List Term} (g4 : s_get h q2 = some (1, 11, f3)) (k : wm P d 469 [.index q2, vi x2, vi 0] h (wq P d sw_c455 sw_h455 35 [.index q2, vi x1, vi x2, t3, t4, t5] [s0] kc ks Q)) (e_q2 : r0 = .index q2 := by first | rfl | assumption) (y1 : s_ty r0 = 3 := by first | rfl | assumption)  : wr P d sw_c455 sw_h455 (29, [r0, vi x1, vi x2, t3, t4, t5], [s0], h, kc, ks) Q := by
  refine w_ld rfl rfl (Or.inr (Or.inr ⟨by decide, y1⟩)) ?_
  refine w_ld rfl rfl (Or.inl ⟨by decide, rfl⟩) ?_
  refine w_c32 rfl (by decide) 0 (by decide) ?_
  subst e_q2
  exact w_cv rfl [.index q2, vi x2, vi 0] [s0] rfl rfl (s_wt_4 rfl) rfl g4 k

theorem k455_35 {P : s_P} {d : Nat} {Q : s_O → Prop} {h : s_H} {kc ks : Nat} {r0 : Term} {x1 x2 : Int} {t3 t4 t5 s0 : Term} {s1 : Int}  (k1 : s1 ≠ 0 → wr P d sw_c455 sw_h455 (42, [r0, vi x1, vi x2, t3, t4, t5], [s0], h, kc, ks) Q) (k2 : ¬ s1 ≠ 0 → wr P d sw_c455 sw_h455 (38, [r0, vi x1, vi x2, t3, t4, t5], [s0], h, kc, ks) Q)  (c1 : In3 s1 := by first | omega | assumption | (simp only [mk_len, List.length_map]; omega) | decide) : wr P d sw_c455 sw_h455 (35, [r0, vi x1, vi x2, t3, t4, t5], [vi s1, s0], h, kc, ks) Q := by
  exact w_if1 rfl c1 k1 k2

theorem k455_38 {P : s_P} {d : Nat} {Q : s_O → Prop} {h : s_H} {kc ks : Nat} {r0 : Term} {x1 x2 : Int} {t3 t4 t5 s0 : Term}  (k : wr P d sw_c455 sw_h455 (57, [r0, vi x1, vi x2, t3, t4, t5], [vi 2, s0], h, kc, ks) Q)   : wr P d sw_c455 sw_h455 (38, [r0, vi x1, vi x2, t3, t4, t5], [s0], h, kc, ks) Q := by
  refine w_c32 rfl (by decide) 2 (by decide) ?_
  refine w_goto rfl ?_
  exact k

theorem k455_42 {P : s_P} {d : Nat} {Q : s_O → Prop} {h : s_H} {kc ks : Nat} {r0 : Term} {x1 x2 : Int} {t3 t4 t5 s0 : Term} {q2 : Nat} {f3 : List Term} {z5 : Int} (g4 : s_get h q2 = some (1, 11, f3)) (k1 : z5 ≠ 150 → wr P d sw_c455 sw_h455 (56, [.index q2, vi x1, vi x2, t3, t4, t5], [s0], h, kc, ks) Q) (k2 : ¬ z5 ≠ 150 → wr P d sw_c455 sw_h455 (52, [.index q2, vi x1, vi x2, t3, t4, t5], [s0], h, kc, ks) Q) (e_q2 : r0 = .index q2 := by first | rfl | assumption) (y1 : s_ty r0 = 3 := by first | rfl | assumption) (n6 : s_nth f3 1 = some (vi z5) := by first | rfl | assumption) (c7 : In3 z5 := by first | omega | assumption | (simp only [mk_len, List.length_map]; omega) | decide) : wr P d sw_c455 sw_h455 (42, [r0, vi x1, vi x2, t3, t4, t5], [s0], h, kc, ks) Q := by
  refine w_ld rfl rfl (Or.inr (Or.inr ⟨by decide, y1⟩)) ?_
  subst e_q2
  refine w_getf rfl g4 n6 ?_
  refine w_c32 rfl (by decide) 150 (by decide) ?_
  exact w_if2 rfl c7 (by decide) k1 k2

theorem k455_52 {P : s_P} {d : Nat} {Q : s_O → Prop} {h : s_H} {kc ks : Nat} {r0 : Term} {x1 x2 : Int} {t3 t4 t5 s0 : Term}  (k : wr P d sw_c455 sw_h455 (57, [r0, vi x1, vi x2, t3, t4, t5], [vi 3, s0], h, kc, ks) Q)   : wr P d sw_c455 sw_h455 (52, [r0, vi x1, vi x2, t3, t4, t5], [s0], h, kc, ks) Q := by
  refine w_c32 rfl (by decide) 3 (by decide) ?_
  refine w_goto rfl ?_
  exact k

theorem k455_56 {P : s_P} {d : Nat} {Q : s_O → Prop} {h : s_H} {kc ks : Nat} {r0 : Term} {x1 x2 : Int} {t3 t4 t5 s0 : Term}  (k : wr P d sw_c455 sw_h455 (57, [r0, vi x1, vi x2, t3, t4, t5], [vi 0, s0], h, kc, ks) Q)   : wr P d sw_c455 sw_h455 (56, [r0, vi x1, vi x2, t3, t4, t5], [s0], h, kc, ks) Q := by
  refine w_c32 rfl (by decide) 0 (by decide) ?_
  exact k

theorem k455_57 {P : s_P} {d : Nat} {Q : s_O → Prop} {h : s_H} {kc ks : Nat} {r0 : Term} {x1 x2 : Int} {t3 t4 t5 s0 : Term} {s1 : Int} {q1 : Nat} {f2 : List Term} {q7 : Nat} {f8 : List Term} {z10 : Int} (g3 : s_get h q1 = some (1, 11, f2)) (g9 : s_get (hp h q1 (1, 11, f2.set 0 (vi s1))) q7 = some (1, 11, f8)) (k1 : z10 ≤ 0 → wr P d sw_c455 sw_h455 (69, [.index q7, vi x1, vi x2, t3, t4, t5], [], (hp h q1 (1, 11, f2.set 0 (vi s1))), kc, ks) Q) (k2 : ¬ z10 ≤ 0 → wr P d sw_c455 sw_h455 (67, [.index q7, vi x1, vi x2, t3, t4, t5], [], (hp h q1 (1, 11, f2.set 0 (vi s1))), kc, ks) Q) (e_q1 : s0 = .index q1 := by first | rfl | assumption) (e_q7 : r0 = .index q7 := by first | rfl | assumption) (l4 : 0 < f2.length := by first | exact Nat.le_of_ble_eq_true rfl | omega | assumption) (y6 : s_ty r0 = 3 := by first | rfl | assumption) (n11 : s_nth f8 0 = some (vi z10) := by first | rfl | assumption) (c5 : 0 < q1 := by first | omega | assumption | (simp only [mk_len, List.length_map]; omega) | decide) (c12 : In3 z10 := by first | omega | assumption | (simp only [mk_len, List.length_map]; omega) | decide) : wr P d sw_c455 sw_h455 (57, [r0, vi x1, vi x2, t3, t4, t5], [vi s1, s0], h, kc, ks) Q := by
  subst e_q1
  refine w_putf rfl g3 (Nat.ble_eq_true_of_le c5) rfl (Nat.ble_eq_true_of_le l4) ?_
  refine w_ld rfl rfl (Or.inr (Or.inr ⟨by decide, y6⟩)) ?_
  subst e_q7
  refine w_getf rfl g9 n11 ?_
  exact w_if1 rfl c12 k1 k2

theorem k455_67 {P : s_P} {d : Nat} {Q : s_O → Prop} {h : s_H} {kc ks : Nat} {r0 : Term} {x1 x2 : Int} {t3 t4 t5 : Term}  (k : Q (.inl (some (vi 0)), h, kc, ks))   : wr P d sw_c455 sw_h455 (67, [r0, vi x1, vi x2, t3, t4, t5], [], h, kc, ks) Q := by
  refine w_c32 rfl (by decide) 0 (by decide) ?_
  exact w_iret rfl k

theorem k455_69 {P : s_P} {d : Nat} {Q : s_O → Prop} {h : s_H} {kc ks : Nat} {r0 : Term} {x1 x2 : Int} {t3 t4 t5 : Term} {q2 : Nat} {f3 : List Term} {v5 v7 : Term} (g4 : s_get h q2 = some (1, 11, f3)) (k : wm P d 505 [.index q2, v5, v7, vi x2] h (wq P d sw_c455 sw_h455 82 [.index q2, vi x1, vi x2, t3, t4, t5] [] kc ks Q)) (e_q2 : r0 = .index q2 := by first | rfl | assumption) (y1 : s_ty r0 = 3 := by first | rfl | assumption) (n6 : s_nth f3 10 = some v5 := by first | rfl | assumption) (n8 : s_nth f3 11 = some v7 := by first | rfl | assumption)  : wr P d sw_c455 sw_h455 (69, [r0, vi x1, vi x2, t3, t4, t5], [], h, kc, ks) Q := by
  refine w_ld rfl rfl (Or.inr (Or.inr ⟨by decide, y1⟩)) ?_
  refine w_ld rfl rfl (Or.inr (Or.inr ⟨by decide, y1⟩)) ?_
  subst e_q2
  refine w_getf rfl g4 n6 ?_
  refine w_ld rfl rfl (Or.inr (Or.inr ⟨by decide, rfl⟩)) ?_
  refine w_getf rfl g4 n8 ?_
  refine w_ld rfl rfl (Or.inl ⟨by decide, rfl⟩) ?_
  exact w_cv rfl [.index q2, v5, v7, vi x2] [] rfl rfl (s_wt_4 rfl) rfl g4 k

theorem k455_82 {P : s_P} {d : Nat} {Q : s_O → Prop} {h : s_H} {kc ks : Nat} {r0 : Term} {x1 x2 : Int} {t3 t4 t5 : Term} {q2 : Nat} {f3 : List Term} {v5 : Term} {q7 : Nat} {a8 : List Int} {v13 : Term} (g4 : s_get h q2 = some (1, 11, f3)) (g9 : s_get h q7 = some (0, 0, a8.map vi)) (k : wm P d 438 [v13] h (wq P d sw_c455 sw_h455 98 [.index q2, vi x1, vi x2, vi ((gi a8 x1) - 1), t4, t5] [] kc ks Q)) (e_q2 : r0 = .index q2 := by first | rfl | assumption) (e_q7 : v5 = .index q7 := by first | rfl | assumption) (y1 : s_ty r0 = 3 := by first | rfl | assumption) (n6 : s_nth f3 6 = some v5 := by first | rfl | assumption) (n14 : s_nth f3 14 = some v13 := by first | rfl | assumption) (c10 : x1 < a8.length := by first | omega | assumption | (simp only [mk_len, List.length_map]; omega) | decide) (c11 : 0 ≤ x1 := by first | omega | assumption | (simp only [mk_len, List.length_map]; omega) | decide) (c12 : In3 x1 := by first | omega | assumption | (simp only [mk_len, List.length_map]; omega) | decide) : wr P d sw_c455 sw_h455 (82, [r0, vi x1, vi x2, t3, t4, t5], [], h, kc, ks) Q := by
  refine w_ld rfl rfl (Or.inr (Or.inr ⟨by decide, y1⟩)) ?_
  subst e_q2
  refine w_getf rfl g4 n6 ?_
  refine w_ld rfl rfl (Or.inl ⟨by decide, rfl⟩) ?_
  subst e_q7
  refine w_iald rfl g9 (Or.inl rfl) c12 c11 c10 ?_
  refine w_c32 rfl (by decide) 1 (by decide) ?_
  refine w_isub rfl ?_
  refine w_st (ls' := [.index q2, vi x1, vi x2, vi ((gi a8 x1) - 1), t4, t5]) rfl (Or.inl ⟨by decide, rfl⟩) rfl ?_
  refine w_ld rfl rfl (Or.inr (Or.inr ⟨by decide, rfl⟩)) ?_
  refine w_getf rfl g4 n14 ?_
  exact w_cs rfl [v13] [] rfl rfl (s_wt_4 rfl) k

theorem k455_98 {P : s_P} {d : Nat} {Q : s_O → Prop} {h : s_H} {kc ks : Nat} {r0 : Term} {x1 x2 x3 : Int} {t4 t5 : Term} {q2 : Nat} {f3 : List Term} {v5 : Term} (g4 : s_get h q2 = some (1, 11, f3)) (k : wm P d 405 [v5, vl 1] h (wq P d sw_c455 sw_h455 106 [.index q2, vi x1, vi x2, vi x3, t4, t5] [] kc ks Q)) (e_q2 : r0 = .index q2 := by first | rfl | assumption) (y1 : s_ty r0 = 3 := by first | rfl | assumption) (n6 : s_nth f3 24 = some v5 := by first | rfl | assumption)  : wr P d sw_c455 sw_h455 (98, [r0, vi x1, vi x2, vi x3, t4, t5], [], h, kc, ks) Q := by
  refine w_ld rfl rfl (Or.inr (Or.inr ⟨by decide, y1⟩)) ?_
  subst e_q2
  refine w_getf rfl g4 n6 ?_
  refine w_c64 rfl (by decide) 1 (by decide) ?_
  exact w_cs rfl [v5, vl 1] [] rfl rfl (s_wt_4 rfl) k

theorem k455_106 {P : s_P} {d : Nat} {Q : s_O → Prop} {h : s_H} {kc ks : Nat} {r0 : Term} {x1 x2 x3 : Int} {t4 t5 : Term}  (k : wr P d sw_c455 sw_h455 (109, [r0, vi x1, vi x2, vi x3, vi 0, t5], [], h, kc, ks) Q)   : wr P d sw_c455 sw_h455 (106, [r0, vi x1, vi x2, vi x3, t4, t5], [], h, kc, ks) Q := by
  refine w_c32 rfl (by decide) 0 (by decide) ?_
  refine w_st (ls' := [r0, vi x1, vi x2, vi x3, vi 0, t5]) rfl (Or.inl ⟨by decide, rfl⟩) rfl ?_
  exact k

theorem k455_109 {P : s_P} {d : Nat} {Q : s_O → Prop} {h : s_H} {kc ks : Nat} {r0 : Term} {x1 x2 x3 x4 : Int} {t5 : Term}  (k1 : x3 < x4 → wr P d sw_c455 sw_h455 (256, [r0, vi x1, vi x2, vi x3, vi x4, t5], [], h, kc, ks) Q) (k2 : ¬ x3 < x4 → wr P d sw_c455 sw_h455 (115, [r0, vi x1, vi x2, vi x3, vi x4, t5], [], h, kc, ks) Q)  (c1 : In3 x4 := by first | omega | assumption | (simp only [mk_len, List.length_map]; omega) | decide) (c2 : In3 x3 := by first | omega | assumption | (simp only [mk_len, List.length_map]; omega) | decide) : wr P d sw_c455 sw_h455 (109, [r0, vi x1, vi x2, vi x3, vi x4, t5], [], h, kc, ks) Q := by
  refine w_ld rfl rfl (Or.inl ⟨by decide, rfl⟩) ?_
  refine w_ld rfl rfl (Or.inl ⟨by decide, rfl⟩) ?_
  exact w_if2 rfl c1 c2 k1 k2

theorem k455_115 {P : s_P} {d : Nat} {Q : s_O → Prop} {h : s_H} {kc ks : Nat} {r0 : Term} {x1 x2 x3 x4 : Int} {t5 : Term} {q2 : Nat} {f3 : List Term} {v5 v7 : Term} (g4 : s_get h q2 = some (1, 11, f3)) (k : wm P d 425 [v5, v7] h (wq P d sw_c455 sw_h455 126 [.index q2, vi x1, vi x2, vi x3, vi x4, t5] [] kc ks Q)) (e_q2 : r0 = .index q2 := by first | rfl | assumption) (y1 : s_ty r0 = 3 := by first | rfl | assumption) (n6 : s_nth f3 23 = some v5 := by first | rfl | assumption) (n8 : s_nth f3 24 = some v7 := by first | rfl | assumption)  : wr P d sw_c455 sw_h455 (115, [r0, vi x1, vi x2, vi x3, vi x4, t5], [], h, kc, ks) Q := by
  refine w_ld rfl rfl (Or.inr (Or.inr ⟨by decide, y1⟩)) ?_
  subst e_q2
  refine w_getf rfl g4 n6 ?_
  refine w_ld rfl rfl (Or.inr (Or.inr ⟨by decide, rfl⟩)) ?_
  refine w_getf rfl g4 n8 ?_
  exact w_cs rfl [v5, v7] [] rfl rfl (s_wt_4 rfl) k

theorem k455_126 {P : s_P} {d : Nat} {Q : s_O → Prop} {h : s_H} {kc ks : Nat} {r0 : Term} {x1 x2 x3 x4 : Int} {t5 : Term}  (k : wr P d sw_c455 sw_h455 (130, [r0, vi x1, vi x2, vi x3, vi x4, vi x4], [], h, kc, ks) Q)   : wr P d sw_c455 sw_h455 (126, [r0, vi x1, vi x2, vi x3, vi x4, t5], [], h, kc, ks) Q := by
  refine w_ld rfl rfl (Or.inl ⟨by decide, rfl⟩) ?_
  refine w_st (ls' := [r0, vi x1, vi x2, vi x3, vi x4, vi x4]) rfl (Or.inl ⟨by decide, rfl⟩) rfl ?_
  exact k

theorem k455_130 {P : s_P} {d : Nat} {Q : s_O → Prop} {h : s_H} {kc ks : Nat} {r0 : Term} {x1 x2 x3 x4 x5 : Int}  (k1 : x3 ≤ x5 → wr P d sw_c455 sw_h455 (175, [r0, vi x1, vi x2, vi x3, vi x4, vi x5], [], h, kc, ks) Q) (k2 : ¬ x3 ≤ x5 → wr P d sw_c455 sw_h455 (136, [r0, vi x1, vi x2, vi x3, vi x4, vi x5], [], h, kc, ks) Q)  (c1 : In3 x5 := by first | omega | assumption | (simp only [mk_len, List.length_map]; omega) | decide) (c2 : In3 x3 := by first | omega | assumption | (simp only [mk_len, List.length_map]; omega) | decide) : wr P d sw_c455 sw_h455 (130, [r0, vi x1, vi x2, vi x3, vi x4, vi x5], [], h, kc, ks) Q := by
  refine w_ld rfl rfl (Or.inl ⟨by decide, rfl⟩) ?_
  refine w_ld rfl rfl (Or.inl ⟨by decide, rfl⟩) ?_
  exact w_if2 rfl c1 c2 k1 k2

theorem k455_136 {P : s_P} {d : Nat} {Q : s_O → Prop} {h : s_H} {kc ks : Nat} {r0 : Term} {x1 x2 x3 x4 x5 : Int} {q2 : Nat} {f3 : List Term} {v5 v7 : Term} (g4 : s_get h q2 = some (1, 11, f3)) (k : wm P d 425 [v5, v7] h (wq P d sw_c455 sw_h455 147 [.index q2, vi x1, vi x2, vi x3, vi x4, vi x5] [] kc ks Q)) (e_q2 : r0 = .index q2 := by first | rfl | assumption) (y1 : s_ty r0 = 3 := by first | rfl | assumption) (n6 : s_nth f3 22 = some v5 := by first | rfl | assumption) (n8 : s_nth f3 11 = some v7 := by first | rfl | assumption)  : wr P d sw_c455 sw_h455 (136, [r0, vi x1, vi x2, vi x3, vi x4, vi x5], [], h, kc, ks) Q := by
  refine w_ld rfl rfl (Or.inr (Or.inr ⟨by decide, y1⟩)) ?_
  subst e_q2
  refine w_getf rfl g4 n6 ?_
  refine w_ld rfl rfl (Or.inr (Or.inr ⟨by decide, rfl⟩)) ?_
  refine w_getf rfl g4 n8 ?_
  exact w_cs rfl [v5, v7] [] rfl rfl (s_wt_4 rfl) k

theorem k455_147 {P : s_P} {d : Nat} {Q : s_O → Prop} {h : s_H} {kc ks : Nat} {r0 : Term} {x1 x2 x3 x4 x5 : Int} {q2 : Nat} {f3 : List Term} {v5 : Term} (g4 : s_get h q2 = some (1, 11, f3)) (k : wm P d 530 [v5, vl x5] h (wq P d sw_c455 sw_h455 157 [.index q2, vi x1, vi x2, vi x3, vi x4, vi x5] [] kc ks Q)) (e_q2 : r0 = .index q2 := by first | rfl | assumption) (y1 : s_ty r0 = 3 := by first | rfl | assumption) (n6 : s_nth f3 22 = some v5 := by first | rfl | assumption) (c7 : In3 x5 := by first | omega | assumption | (simp only [mk_len, List.length_map]; omega) | decide) : wr P d sw_c455 sw_h455 (147, [r0, vi x1, vi x2, vi x3, vi x4, vi x5], [], h, kc, ks) Q := by
  refine w_ld rfl rfl (Or.inr (Or.inr ⟨by decide, y1⟩)) ?_
  subst e_q2
  refine w_getf rfl g4 n6 ?_
  refine w_ld rfl rfl (Or.inl ⟨by decide, rfl⟩) ?_
  refine w_i2l rfl c7 ?_
  exact w_cs rfl [v5, vl x5] [] rfl rfl (s_wt_4 rfl) k

theorem k455_157 {P : s_P} {d : Nat} {Q : s_O → Prop} {h : s_H} {kc ks : Nat} {r0 : Term} {x1 x2 x3 x4 x5 : Int} {q2 : Nat} {f3 : List Term} {v5 v7 : Term} (g4 : s_get h q2 = some (1, 11, f3)) (k : wm P d 532 [.index q2, v5, v7] h (wq P d sw_c455 sw_h455 169 [.index q2, vi x1, vi x2, vi x3, vi x4, vi x5] [] kc ks Q)) (e_q2 : r0 = .index q2 := by first | rfl | assumption) (y1 : s_ty r0 = 3 := by first | rfl | assumption) (n6 : s_nth f3 23 = some v5 := by first | rfl | assumption) (n8 : s_nth f3 22 = some v7 := by first | rfl | assumption)  : wr P d sw_c455 sw_h455 (157, [r0, vi x1, vi x2, vi x3, vi x4, vi x5], [], h, kc, ks) Q := by
  refine w_ld rfl rfl (Or.inr (Or.inr ⟨by decide, y1⟩)) ?_
  refine w_ld rfl rfl (Or.inr (Or.inr ⟨by decide, y1⟩)) ?_
  subst e_q2
  refine w_getf rfl g4 n6 ?_
  refine w_ld rfl rfl (Or.inr (Or.inr ⟨by decide, rfl⟩)) ?_
  refine w_getf rfl g4 n8 ?_
  exact w_cv rfl [.index q2, v5, v7] [] rfl rfl (s_wt_4 rfl) rfl g4 k

theorem k455_169 {P : s_P} {d : Nat} {Q : s_O → Prop} {h : s_H} {kc ks : Nat} {r0 : Term} {x1 x2 x3 x4 x5 : Int}  (k : wr P d sw_c455 sw_h455 (130, [r0, vi x1, vi x2, vi x3, vi x4, vi (x5 + 1)], [], h, kc, ks) Q)   : wr P d sw_c455 sw_h455 (169, [r0, vi x1, vi x2, vi x3, vi x4, vi x5], [], h, kc, ks) Q := by
  refine w_iinc (ls' := [r0, vi x1, vi x2, vi x3, vi x4, vi (x5 + 1)]) rfl rfl 1 (by decide) rfl ?_
  refine w_goto rfl ?_
  exact k

theorem k455_175 {P : s_P} {d : Nat} {Q : s_O → Prop} {h : s_H} {kc ks : Nat} {r0 : Term} {x1 x2 x3 x4 x5 : Int} {q2 : Nat} {f3 : List Term} {v5 : Term} (g4 : s_get h q2 = some (1, 11, f3)) (k : wm P d 508 [.index q2, v5, vi x1, vi 0, vi x4] h (wq P d sw_c455 sw_h455 187 [.index q2, vi x1, vi x2, vi x3, vi x4, vi x5] [] kc ks Q)) (e_q2 : r0 = .index q2 := by first | rfl | assumption) (y1 : s_ty r0 = 3 := by first | rfl | assumption) (n6 : s_nth f3 20 = some v5 := by first | rfl | assumption)  : wr P d sw_c455 sw_h455 (175, [r0, vi x1, vi x2, vi x3, vi x4, vi x5], [], h, kc, ks) Q := by
  refine w_ld rfl rfl (Or.inr (Or.inr ⟨by decide, y1⟩)) ?_
  refine w_ld rfl rfl (Or.inr (Or.inr ⟨by decide, y1⟩)) ?_
  subst e_q2
  refine w_getf rfl g4 n6 ?_
  refine w_ld rfl rfl (Or.inl ⟨by decide, rfl⟩) ?_
  refine w_c32 rfl (by decide) 0 (by decide) ?_
  refine w_ld rfl rfl (Or.inl ⟨by decide, rfl⟩) ?_
  exact w_cv rfl [.index q2, v5, vi x1, vi 0, vi x4] [] rfl rfl (s_wt_4 rfl) rfl g4 k

theorem k455_187 {P : s_P} {d : Nat} {Q : s_O → Prop} {h : s_H} {kc ks : Nat} {r0 : Term} {x1 x2 x3 x4 x5 : Int} {q2 : Nat} {f3 : List Term} {v5 v7 : Term} (g4 : s_get h q2 = some (1, 11, f3)) (k : wm P d 532 [.index q2, v5, v7] h (wq P d sw_c455 sw_h455 199 [.index q2, vi x1, vi x2, vi x3, vi x4, vi x5] [] kc ks Q)) (e_q2 : r0 = .index q2 := by first | rfl | assumption) (y1 : s_ty r0 = 3 := by first | rfl | assumption) (n6 : s_nth f3 23 = some v5 := by first | rfl | assumption) (n8 : s_nth f3 20 = some v7 := by first | rfl | assumption)  : wr P d sw_c455 sw_h455 (187, [r0, vi x1, vi x2, vi x3, vi x4, vi x5], [], h, kc, ks) Q := by
  refine w_ld rfl rfl (Or.inr (Or.inr ⟨by decide, y1⟩)) ?_
  refine w_ld rfl rfl (Or.inr (Or.inr ⟨by decide, y1⟩)) ?_
  subst e_q2
  refine w_getf rfl g4 n6 ?_
  refine w_ld rfl rfl (Or.inr (Or.inr ⟨by decide, rfl⟩)) ?_
  refine w_getf rfl g4 n8 ?_
  exact w_cv rfl [.index q2, v5, v7] [] rfl rfl (s_wt_4 rfl) rfl g4 k

theorem k455_199 {P : s_P} {d : Nat} {Q : s_O → Prop} {h : s_H} {kc ks : Nat} {r0 : Term} {x1 x2 x3 x4 x5 : Int} {q2 : Nat} {f3 : List Term} {v5 v7 : Term} (g4 : s_get h q2 = some (1, 11, f3)) (k : wm P d 529 [v5, v7, vl 1] h (wq P d sw_c455 sw_h455 211 [.index q2, vi x1, vi x2, vi x3, vi x4, vi x5] [] kc ks Q)) (e_q2 : r0 = .index q2 := by first | rfl | assumption) (y1 : s_ty r0 = 3 := by first | rfl | assumption) (n6 : s_nth f3 14 = some v5 := by first | rfl | assumption) (n8 : s_nth f3 23 = some v7 := by first | rfl | assumption)  : wr P d sw_c455 sw_h455 (199, [r0, vi x1, vi x2, vi x3, vi x4, vi x5], [], h, kc, ks) Q := by
  refine w_ld rfl rfl (Or.inr (Or.inr ⟨by decide, y1⟩)) ?_
  subst e_q2
  refine w_getf rfl g4 n6 ?_
  refine w_ld rfl rfl (Or.inr (Or.inr ⟨by decide, rfl⟩)) ?_
  refine w_getf rfl g4 n8 ?_
  refine w_c64 rfl (by decide) 1 (by decide) ?_
  exact w_cs rfl [v5, v7, vl 1] [] rfl rfl (s_wt_4 rfl) k

theorem k455_211 {P : s_P} {d : Nat} {Q : s_O → Prop} {h : s_H} {kc ks : Nat} {r0 : Term} {x1 x2 x3 x4 x5 : Int} {q2 : Nat} {f3 : List Term} {v5 v7 : Term} (g4 : s_get h q2 = some (1, 11, f3)) (k : wm P d 425 [v5, v7] h (wq P d sw_c455 sw_h455 222 [.index q2, vi x1, vi x2, vi x3, vi x4, vi x5] [] kc ks Q)) (e_q2 : r0 = .index q2 := by first | rfl | assumption) (y1 : s_ty r0 = 3 := by first | rfl | assumption) (n6 : s_nth f3 22 = some v5 := by first | rfl | assumption) (n8 : s_nth f3 10 = some v7 := by first | rfl | assumption)  : wr P d sw_c455 sw_h455 (211, [r0, vi x1, vi x2, vi x3, vi x4, vi x5], [], h, kc, ks) Q := by
  refine w_ld rfl rfl (Or.inr (Or.inr ⟨by decide, y1⟩)) ?_
  subst e_q2
  refine w_getf rfl g4 n6 ?_
  refine w_ld rfl rfl (Or.inr (Or.inr ⟨by decide, rfl⟩)) ?_
  refine w_getf rfl g4 n8 ?_
  exact w_cs rfl [v5, v7] [] rfl rfl (s_wt_4 rfl) k

theorem k455_222 {P : s_P} {d : Nat} {Q : s_O → Prop} {h : s_H} {kc ks : Nat} {r0 : Term} {x1 x2 x3 x4 x5 : Int} {q2 : Nat} {f3 : List Term} {v5 : Term} (g4 : s_get h q2 = some (1, 11, f3)) (k : wm P d 530 [v5, vl x4] h (wq P d sw_c455 sw_h455 232 [.index q2, vi x1, vi x2, vi x3, vi x4, vi x5] [] kc ks Q)) (e_q2 : r0 = .index q2 := by first | rfl | assumption) (y1 : s_ty r0 = 3 := by first | rfl | assumption) (n6 : s_nth f3 22 = some v5 := by first | rfl | assumption) (c7 : In3 x4 := by first | omega | assumption | (simp only [mk_len, List.length_map]; omega) | decide) : wr P d sw_c455 sw_h455 (222, [r0, vi x1, vi x2, vi x3, vi x4, vi x5], [], h, kc, ks) Q := by
  refine w_ld rfl rfl (Or.inr (Or.inr ⟨by decide, y1⟩)) ?_
  subst e_q2
  refine w_getf rfl g4 n6 ?_
  refine w_ld rfl rfl (Or.inl ⟨by decide, rfl⟩) ?_
  refine w_i2l rfl c7 ?_
  exact w_cs rfl [v5, vl x4] [] rfl rfl (s_wt_4 rfl) k

theorem k455_232 {P : s_P} {d : Nat} {Q : s_O → Prop} {h : s_H} {kc ks : Nat} {r0 : Term} {x1 x2 x3 x4 x5 : Int}  (k1 : x3 ≤ x4 → wr P d sw_c455 sw_h455 (250, [r0, vi x1, vi x2, vi x3, vi x4, vi x5], [], h, kc, ks) Q) (k2 : ¬ x3 ≤ x4 → wr P d sw_c455 sw_h455 (238, [r0, vi x1, vi x2, vi x3, vi x4, vi x5], [], h, kc, ks) Q)  (c1 : In3 x4 := by first | omega | assumption | (simp only [mk_len, List.length_map]; omega) | decide) (c2 : In3 x3 := by first | omega | assumption | (simp only [mk_len, List.length_map]; omega) | decide) : wr P d sw_c455 sw_h455 (232, [r0, vi x1, vi x2, vi x3, vi x4, vi x5], [], h, kc, ks) Q := by
  refine w_ld rfl rfl (Or.inl ⟨by decide, rfl⟩) ?_
  refine w_ld rfl rfl (Or.inl ⟨by decide, rfl⟩) ?_
  exact w_if2 rfl c1 c2 k1 k2

theorem k455_238 {P : s_P} {d : Nat} {Q : s_O → Prop} {h : s_H} {kc ks : Nat} {r0 : Term} {x1 x2 x3 x4 x5 : Int} {q2 : Nat} {f3 : List Term} {v5 v7 : Term} (g4 : s_get h q2 = some (1, 11, f3)) (k : wm P d 532 [.index q2, v5, v7] h (wq P d sw_c455 sw_h455 250 [.index q2, vi x1, vi x2, vi x3, vi x4, vi x5] [] kc ks Q)) (e_q2 : r0 = .index q2 := by first | rfl | assumption) (y1 : s_ty r0 = 3 := by first | rfl | assumption) (n6 : s_nth f3 24 = some v5 := by first | rfl | assumption) (n8 : s_nth f3 22 = some v7 := by first | rfl | assumption)  : wr P d sw_c455 sw_h455 (238, [r0, vi x1, vi x2, vi x3, vi x4, vi x5], [], h, kc, ks) Q := by
  refine w_ld rfl rfl (Or.inr (Or.inr ⟨by decide, y1⟩)) ?_
  refine w_ld rfl rfl (Or.inr (Or.inr ⟨by decide, y1⟩)) ?_
  subst e_q2
  refine w_getf rfl g4 n6 ?_
  refine w_ld rfl rfl (Or.inr (Or.inr ⟨by decide, rfl⟩)) ?_
  refine w_getf rfl g4 n8 ?_
  exact w_cv rfl [.index q2, v5, v7] [] rfl rfl (s_wt_4 rfl) rfl g4 k

theorem k455_250 {P : s_P} {d : Nat} {Q : s_O → Prop} {h : s_H} {kc ks : Nat} {r0 : Term} {x1 x2 x3 x4 x5 : Int}  (k : wr P d sw_c455 sw_h455 (109, [r0, vi x1, vi x2, vi x3, vi (x4 + 1), vi x5], [], h, kc, ks) Q)   : wr P d sw_c455 sw_h455 (250, [r0, vi x1, vi x2, vi x3, vi x4, vi x5], [], h, kc, ks) Q := by
  refine w_iinc (ls' := [r0, vi x1, vi x2, vi x3, vi (x4 + 1), vi x5]) rfl rfl 1 (by decide) rfl ?_
  refine w_goto rfl ?_
  exact k

theorem k455_256 {P : s_P} {d : Nat} {Q : s_O → Prop} {h : s_H} {kc ks : Nat} {r0 : Term} {x1 x2 x3 x4 : Int} {t5 : Term} {q2 : Nat} {f3 : List Term} (g4 : s_get h q2 = some (1, 11, f3)) (k : wm P d 409 [.index q2, vi (x3 - 1), vi (-1)] h (wq P d sw_c455 sw_h455 264 [.index q2, vi x1, vi x2, vi x3, vi x4, t5] [] kc ks Q)) (e_q2 : r0 = .index q2 := by first | rfl | assumption) (y1 : s_ty r0 = 3 := by first | rfl | assumption)  : wr P d sw_c455 sw_h455 (256, [r0, vi x1, vi x2, vi x3, vi x4, t5], [], h, kc, ks) Q := by
  refine w_ld rfl rfl (Or.inr (Or.inr ⟨by decide, y1⟩)) ?_
  refine w_ld rfl rfl (Or.inl ⟨by decide, rfl⟩) ?_
  refine w_c32 rfl (by decide) 1 (by decide) ?_
  refine w_isub rfl ?_
  refine w_c32 rfl (by decide) (-1) (by decide) ?_
  subst e_q2
  exact w_cv rfl [.index q2, vi (x3 - 1), vi (-1)] [] rfl rfl (s_wt_4 rfl) rfl g4 k

theorem k455_264 {P : s_P} {d : Nat} {Q : s_O → Prop} {h : s_H} {kc ks : Nat} {r0 : Term} {x1 x2 x3 x4 : Int} {t5 : Term} {q2 : Nat} {f3 : List Term} {v5 v7 : Term} (g4 : s_get h q2 = some (1, 11, f3)) (k : wm P d 425 [v5, v7] h (wq P d sw_c455 sw_h455 275 [.index q2, vi x1, vi x2, vi x3, vi x4, t5] [] kc ks Q)) (e_q2 : r0 = .index q2 := by first | rfl | assumption) (y1 : s_ty r0 = 3 := by first | rfl | assumption) (n6 : s_nth f3 15 = some v5 := by first | rfl | assumption) (n8 : s_nth f3 23 = some v7 := by first | rfl | assumption)  : wr P d sw_c455 sw_h455 (264, [r0, vi x1, vi x2, vi x3, vi x4, t5], [], h, kc, ks) Q := by
  refine w_ld rfl rfl (Or.inr (Or.inr ⟨by decide, y1⟩)) ?_
  subst e_q2
  refine w_getf rfl g4 n6 ?_
  refine w_ld rfl rfl (Or.inr (Or.inr ⟨by decide, rfl⟩)) ?_
  refine w_getf rfl g4 n8 ?_
  exact w_cs rfl [v5, v7] [] rfl rfl (s_wt_4 rfl) k

theorem k455_275 {P : s_P} {d : Nat} {Q : s_O → Prop} {h : s_H} {kc ks : Nat} {r0 : Term} {x1 x2 x3 x4 : Int} {t5 : Term} {q2 : Nat} {f3 : List Term} (g4 : s_get h q2 = some (1, 11, f3)) (k : wm P d 516 [.index q2] h (wq P d sw_c455 sw_h455 279 [.index q2, vi x1, vi x2, vi x3, vi x4, t5] [] kc ks Q)) (e_q2 : r0 = .index q2 := by first | rfl | assumption) (y1 : s_ty r0 = 3 := by first | rfl | assumption)  : wr P d sw_c455 sw_h455 (275, [r0, vi x1, vi x2, vi x3, vi x4, t5], [], h, kc, ks) Q := by
  refine w_ld rfl rfl (Or.inr (Or.inr ⟨by decide, y1⟩)) ?_
  subst e_q2
  exact w_cv rfl [.index q2] [] rfl rfl (s_wt_4 rfl) rfl g4 k

theorem k455_279 {P : s_P} {d : Nat} {Q : s_O → Prop} {h : s_H} {kc ks : Nat} {r0 : Term} {x1 x2 x3 x4 : Int} {t5 : Term} {q2 : Nat} {f3 : List Term} (g4 : s_get h q2 = some (1, 11, f3)) (k : wm P d 495 [.index q2, vi 3] h (wq P d sw_c455 sw_h455 284 [.index q2, vi x1, vi x2, vi x3, vi x4, t5] [] kc ks Q)) (e_q2 : r0 = .index q2 := by first | rfl | assumption) (y1 : s_ty r0 = 3 := by first | rfl | assumption)  : wr P d sw_c455 sw_h455 (279, [r0, vi x1, vi x2, vi x3, vi x4, t5], [], h, kc, ks) Q := by
  refine w_ld rfl rfl (Or.inr (Or.inr ⟨by decide, y1⟩)) ?_
  refine w_c32 rfl (by decide) 3 (by decide) ?_
  subst e_q2
  exact w_cv rfl [.index q2, vi 3] [] rfl rfl (s_wt_4 rfl) rfl g4 k

theorem k455_284 {P : s_P} {d : Nat} {Q : s_O → Prop} {h : s_H} {kc ks : Nat} {r0 : Term} {x1 x2 x3 x4 : Int} {t5 : Term} {s0 : Int}  (k : Q (.inl (some (vi s0)), h, kc, ks))   : wr P d sw_c455 sw_h455 (284, [r0, vi x1, vi x2, vi x3, vi x4, t5], [vi s0], h, kc, ks) Q := by
  exact w_iret rfl k

