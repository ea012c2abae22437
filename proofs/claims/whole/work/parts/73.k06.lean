/-! 456: FormulaWorksModel.formula()I -/
theorem k456_0 {P : s_P} {d : Nat} {Q : s_O → Prop} {h : s_H} {kc ks : Nat} {r0 : Term} {q2 : Nat} {f3 : List Term} {z5 : Int} (g4 : s_get h q2 = some (1, 11, f3)) (k1 : z5 ≠ 150 → wr P d sw_c456 sw_h456 (16, [.index q2], [], h, kc, ks) Q) (k2 : ¬ z5 ≠ 150 → wr P d sw_c456 sw_h456 (10, [.index q2], [], h, kc, ks) Q) (e_q2 : r0 = .index q2 := by first | rfl | assumption) (y1 : s_ty r0 = 3 := by first | rfl | assumption) (n6 : s_nth f3 1 = some (vi z5) := by first | rfl | assumption) (c7 : In3 z5 := by first | omega | assumption | (simp only [mk_len, List.length_map]; omega) | decide) : wr P d sw_c456 sw_h456 (0, [r0], [], h, kc, ks) Q := by
  refine w_ld rfl rfl (Or.inr (Or.inr ⟨by decide, y1⟩)) ?_
  subst e_q2
  refine w_getf rfl g4 n6 ?_
  refine w_c32 rfl (by decide) 150 (by decide) ?_
  exact w_if2 rfl c7 (by decide) k1 k2

theorem k456_10 {P : s_P} {d : Nat} {Q : s_O → Prop} {h : s_H} {kc ks : Nat} {r0 : Term} {q2 : Nat} {f3 : List Term} (g4 : s_get h q2 = some (1, 11, f3)) (k : wm P d 570 [.index q2, vi 1] h (wq P d sw_c456 sw_h456 15 [.index q2] [] kc ks Q)) (e_q2 : r0 = .index q2 := by first | rfl | assumption) (y1 : s_ty r0 = 3 := by first | rfl | assumption)  : wr P d sw_c456 sw_h456 (10, [r0], [], h, kc, ks) Q := by
  refine w_ld rfl rfl (Or.inr (Or.inr ⟨by decide, y1⟩)) ?_
  refine w_c32 rfl (by decide) 1 (by decide) ?_
  subst e_q2
  exact w_cv rfl [.index q2, vi 1] [] rfl rfl (s_wt_4 rfl) rfl g4 k

theorem k456_15 {P : s_P} {d : Nat} {Q : s_O → Prop} {h : s_H} {kc ks : Nat} {r0 : Term} {s0 : Int}  (k : Q (.inl (some (vi s0)), h, kc, ks))   : wr P d sw_c456 sw_h456 (15, [r0], [vi s0], h, kc, ks) Q := by
  exact w_iret rfl k

theorem k456_16 {P : s_P} {d : Nat} {Q : s_O → Prop} {h : s_H} {kc ks : Nat} {r0 : Term} {q2 : Nat} {f3 : List Term} (g4 : s_get h q2 = some (1, 11, f3)) (k : wm P d 579 [.index q2, vi 1] h (wq P d sw_c456 sw_h456 21 [.index q2] [] kc ks Q)) (e_q2 : r0 = .index q2 := by first | rfl | assumption) (y1 : s_ty r0 = 3 := by first | rfl | assumption)  : wr P d sw_c456 sw_h456 (16, [r0], [], h, kc, ks) Q := by
  refine w_ld rfl rfl (Or.inr (Or.inr ⟨by decide, y1⟩)) ?_
  refine w_c32 rfl (by decide) 1 (by decide) ?_
  subst e_q2
  exact w_cv rfl [.index q2, vi 1] [] rfl rfl (s_wt_4 rfl) rfl g4 k

theorem k456_21 {P : s_P} {d : Nat} {Q : s_O → Prop} {h : s_H} {kc ks : Nat} {r0 : Term} {s0 : Int}  (k1 : s0 ≠ 0 → wr P d sw_c456 sw_h456 (30, [r0], [], h, kc, ks) Q) (k2 : ¬ s0 ≠ 0 → wr P d sw_c456 sw_h456 (24, [r0], [], h, kc, ks) Q)  (c1 : In3 s0 := by first | omega | assumption | (simp only [mk_len, List.length_map]; omega) | decide) : wr P d sw_c456 sw_h456 (21, [r0], [vi s0], h, kc, ks) Q := by
  exact w_if1 rfl c1 k1 k2

theorem k456_24 {P : s_P} {d : Nat} {Q : s_O → Prop} {h : s_H} {kc ks : Nat} {r0 : Term} {q2 : Nat} {f3 : List Term} (g4 : s_get h q2 = some (1, 11, f3)) (k : wm P d 570 [.index q2, vi 2] h (wq P d sw_c456 sw_h456 29 [.index q2] [] kc ks Q)) (e_q2 : r0 = .index q2 := by first | rfl | assumption) (y1 : s_ty r0 = 3 := by first | rfl | assumption)  : wr P d sw_c456 sw_h456 (24, [r0], [], h, kc, ks) Q := by
  refine w_ld rfl rfl (Or.inr (Or.inr ⟨by decide, y1⟩)) ?_
  refine w_c32 rfl (by decide) 2 (by decide) ?_
  subst e_q2
  exact w_cv rfl [.index q2, vi 2] [] rfl rfl (s_wt_4 rfl) rfl g4 k

theorem k456_29 {P : s_P} {d : Nat} {Q : s_O → Prop} {h : s_H} {kc ks : Nat} {r0 : Term} {s0 : Int}  (k : Q (.inl (some (vi s0)), h, kc, ks))   : wr P d sw_c456 sw_h456 (29, [r0], [vi s0], h, kc, ks) Q := by
  exact w_iret rfl k

theorem k456_30 {P : s_P} {d : Nat} {Q : s_O → Prop} {h : s_H} {kc ks : Nat} {r0 : Term} {q2 : Nat} {f3 : List Term} (g4 : s_get h q2 = some (1, 11, f3)) (k : wm P d 608 [.index q2] h (wq P d sw_c456 sw_h456 34 [.index q2] [] kc ks Q)) (e_q2 : r0 = .index q2 := by first | rfl | assumption) (y1 : s_ty r0 = 3 := by first | rfl | assumption)  : wr P d sw_c456 sw_h456 (30, [r0], [], h, kc, ks) Q := by
  refine w_ld rfl rfl (Or.inr (Or.inr ⟨by decide, y1⟩)) ?_
  subst e_q2
  exact w_cv rfl [.index q2] [] rfl rfl (s_wt_4 rfl) rfl g4 k

theorem k456_34 {P : s_P} {d : Nat} {Q : s_O → Prop} {h : s_H} {kc ks : Nat} {r0 : Term} {q2 : Nat} {f3 : List Term} (g4 : s_get h q2 = some (1, 11, f3)) (k : wm P d 500 [.index q2, vi 1] h (wq P d sw_c456 sw_h456 39 [.index q2] [] kc ks Q)) (e_q2 : r0 = .index q2 := by first | rfl | assumption) (y1 : s_ty r0 = 3 := by first | rfl | assumption)  : wr P d sw_c456 sw_h456 (34, [r0], [], h, kc, ks) Q := by
  refine w_ld rfl rfl (Or.inr (Or.inr ⟨by decide, y1⟩)) ?_
  refine w_c32 rfl (by decide) 1 (by decide) ?_
  subst e_q2
  exact w_cv rfl [.index q2, vi 1] [] rfl rfl (s_wt_4 rfl) rfl g4 k

theorem k456_39 {P : s_P} {d : Nat} {Q : s_O → Prop} {h : s_H} {kc ks : Nat} {r0 : Term} {s0 : Int}  (k : Q (.inl (some (vi s0)), h, kc, ks))   : wr P d sw_c456 sw_h456 (39, [r0], [vi s0], h, kc, ks) Q := by
  exact w_iret rfl k

/-! 457: FormulaWorksModel.get(I)I -/
theorem k457_0 {P : s_P} {d : Nat} {Q : s_O → Prop} {h : s_H} {kc ks : Nat} {r0 : Term} {x1 : Int}  (k : wm P d 464 [vl x1, vl 0, vl 15] h (wq P d sw_c457 sw_h457 10 [r0, vi x1] [r0] kc ks Q)) (y1 : s_ty r0 = 3 := by first | rfl | assumption) (c2 : In3 x1 := by first | omega | assumption | (simp only [mk_len, List.length_map]; omega) | decide) : wr P d sw_c457 sw_h457 (0, [r0, vi x1], [], h, kc, ks) Q := by
  refine w_ld rfl rfl (Or.inr (Or.inr ⟨by decide, y1⟩)) ?_
  refine w_ld rfl rfl (Or.inl ⟨by decide, rfl⟩) ?_
  refine w_i2l rfl c2 ?_
  refine w_c64 rfl (by decide) 0 (by decide) ?_
  refine w_c64 rfl (by decide) 15 (by decide) ?_
  exact w_cs rfl [vl x1, vl 0, vl 15] [r0] rfl rfl (s_wt_4 rfl) k

theorem k457_10 {P : s_P} {d : Nat} {Q : s_O → Prop} {h : s_H} {kc ks : Nat} {r0 : Term} {x1 : Int} {s0 : Term} {s1 : Int}  (k1 : s1 = 0 → wr P d sw_c457 sw_h457 (17, [r0, vi x1], [s0], h, kc, ks) Q) (k2 : ¬ s1 = 0 → wr P d sw_c457 sw_h457 (13, [r0, vi x1], [s0], h, kc, ks) Q)  (c1 : In3 s1 := by first | omega | assumption | (simp only [mk_len, List.length_map]; omega) | decide) : wr P d sw_c457 sw_h457 (10, [r0, vi x1], [vi s1, s0], h, kc, ks) Q := by
  exact w_if1 rfl c1 k1 k2

theorem k457_13 {P : s_P} {d : Nat} {Q : s_O → Prop} {h : s_H} {kc ks : Nat} {r0 : Term} {x1 : Int} {s0 : Term}  (k : wr P d sw_c457 sw_h457 (18, [r0, vi x1], [vi 0, s0], h, kc, ks) Q)   : wr P d sw_c457 sw_h457 (13, [r0, vi x1], [s0], h, kc, ks) Q := by
  refine w_c32 rfl (by decide) 0 (by decide) ?_
  refine w_goto rfl ?_
  exact k

theorem k457_17 {P : s_P} {d : Nat} {Q : s_O → Prop} {h : s_H} {kc ks : Nat} {r0 : Term} {x1 : Int} {s0 : Term}  (k : wr P d sw_c457 sw_h457 (18, [r0, vi x1], [vi 1, s0], h, kc, ks) Q)   : wr P d sw_c457 sw_h457 (17, [r0, vi x1], [s0], h, kc, ks) Q := by
  refine w_c32 rfl (by decide) 1 (by decide) ?_
  exact k

theorem k457_18 {P : s_P} {d : Nat} {Q : s_O → Prop} {h : s_H} {kc ks : Nat} {r0 : Term} {x1 : Int} {s0 : Term} {s1 : Int} {q1 : Nat} {f2 : List Term} {q7 : Nat} {f8 : List Term} {z10 : Int} (g3 : s_get h q1 = some (1, 11, f2)) (g9 : s_get (hp h q1 (1, 11, f2.set 0 (vi s1))) q7 = some (1, 11, f8)) (k1 : z10 ≤ 0 → wr P d sw_c457 sw_h457 (30, [.index q7, vi x1], [], (hp h q1 (1, 11, f2.set 0 (vi s1))), kc, ks) Q) (k2 : ¬ z10 ≤ 0 → wr P d sw_c457 sw_h457 (28, [.index q7, vi x1], [], (hp h q1 (1, 11, f2.set 0 (vi s1))), kc, ks) Q) (e_q1 : s0 = .index q1 := by first | rfl | assumption) (e_q7 : r0 = .index q7 := by first | rfl | assumption) (l4 : 0 < f2.length := by first | exact Nat.le_of_ble_eq_true rfl | omega | assumption) (y6 : s_ty r0 = 3 := by first | rfl | assumption) (n11 : s_nth f8 0 = some (vi z10) := by first | rfl | assumption) (c5 : 0 < q1 := by first | omega | assumption | (simp only [mk_len, List.length_map]; omega) | decide) (c12 : In3 z10 := by first | omega | assumption | (simp only [mk_len, List.length_map]; omega) | decide) : wr P d sw_c457 sw_h457 (18, [r0, vi x1], [vi s1, s0], h, kc, ks) Q := by
  subst e_q1
  refine w_putf rfl g3 (Nat.ble_eq_true_of_le c5) rfl (Nat.ble_eq_true_of_le l4) ?_
  refine w_ld rfl rfl (Or.inr (Or.inr ⟨by decide, y6⟩)) ?_
  subst e_q7
  refine w_getf rfl g9 n11 ?_
  exact w_if1 rfl c12 k1 k2

theorem k457_28 {P : s_P} {d : Nat} {Q : s_O → Prop} {h : s_H} {kc ks : Nat} {r0 : Term} {x1 : Int}  (k : Q (.inl (some (vi 0)), h, kc, ks))   : wr P d sw_c457 sw_h457 (28, [r0, vi x1], [], h, kc, ks) Q := by
  refine w_c32 rfl (by decide) 0 (by decide) ?_
  exact w_iret rfl k

theorem k457_30 {P : s_P} {d : Nat} {Q : s_O → Prop} {h : s_H} {kc ks : Nat} {r0 : Term} {x1 : Int} {q2 : Nat} {f3 : List Term} (g4 : s_get h q2 = some (1, 11, f3)) (k : wm P d 616 [.index q2, vi x1] h (wq P d sw_c457 sw_h457 35 [.index q2, vi x1] [] kc ks Q)) (e_q2 : r0 = .index q2 := by first | rfl | assumption) (y1 : s_ty r0 = 3 := by first | rfl | assumption)  : wr P d sw_c457 sw_h457 (30, [r0, vi x1], [], h, kc, ks) Q := by
  refine w_ld rfl rfl (Or.inr (Or.inr ⟨by decide, y1⟩)) ?_
  refine w_ld rfl rfl (Or.inl ⟨by decide, rfl⟩) ?_
  subst e_q2
  exact w_cv rfl [.index q2, vi x1] [] rfl rfl (s_wt_4 rfl) rfl g4 k

theorem k457_35 {P : s_P} {d : Nat} {Q : s_O → Prop} {h : s_H} {kc ks : Nat} {r0 : Term} {x1 : Int} {q2 : Nat} {f3 : List Term} (g4 : s_get h q2 = some (1, 11, f3)) (k : wm P d 461 [.index q2, vi x1] h (wq P d sw_c457 sw_h457 40 [.index q2, vi x1] [] kc ks Q)) (e_q2 : r0 = .index q2 := by first | rfl | assumption) (y1 : s_ty r0 = 3 := by first | rfl | assumption)  : wr P d sw_c457 sw_h457 (35, [r0, vi x1], [], h, kc, ks) Q := by
  refine w_ld rfl rfl (Or.inr (Or.inr ⟨by decide, y1⟩)) ?_
  refine w_ld rfl rfl (Or.inl ⟨by decide, rfl⟩) ?_
  subst e_q2
  exact w_cv rfl [.index q2, vi x1] [] rfl rfl (s_wt_4 rfl) rfl g4 k

theorem k457_40 {P : s_P} {d : Nat} {Q : s_O → Prop} {h : s_H} {kc ks : Nat} {r0 : Term} {x1 s0 : Int}  (k1 : s0 ≠ 0 → wr P d sw_c457 sw_h457 (49, [r0, vi x1], [], h, kc, ks) Q) (k2 : ¬ s0 ≠ 0 → wr P d sw_c457 sw_h457 (43, [r0, vi x1], [], h, kc, ks) Q)  (c1 : In3 s0 := by first | omega | assumption | (simp only [mk_len, List.length_map]; omega) | decide) : wr P d sw_c457 sw_h457 (40, [r0, vi x1], [vi s0], h, kc, ks) Q := by
  exact w_if1 rfl c1 k1 k2

theorem k457_43 {P : s_P} {d : Nat} {Q : s_O → Prop} {h : s_H} {kc ks : Nat} {r0 : Term} {x1 : Int} {q2 : Nat} {f3 : List Term} (g4 : s_get h q2 = some (1, 11, f3)) (k : wm P d 570 [.index q2, vi 2] h (wq P d sw_c457 sw_h457 48 [.index q2, vi x1] [] kc ks Q)) (e_q2 : r0 = .index q2 := by first | rfl | assumption) (y1 : s_ty r0 = 3 := by first | rfl | assumption)  : wr P d sw_c457 sw_h457 (43, [r0, vi x1], [], h, kc, ks) Q := by
  refine w_ld rfl rfl (Or.inr (Or.inr ⟨by decide, y1⟩)) ?_
  refine w_c32 rfl (by decide) 2 (by decide) ?_
  subst e_q2
  exact w_cv rfl [.index q2, vi 2] [] rfl rfl (s_wt_4 rfl) rfl g4 k

theorem k457_48 {P : s_P} {d : Nat} {Q : s_O → Prop} {h : s_H} {kc ks : Nat} {r0 : Term} {x1 s0 : Int}  (k : Q (.inl (some (vi s0)), h, kc, ks))   : wr P d sw_c457 sw_h457 (48, [r0, vi x1], [vi s0], h, kc, ks) Q := by
  exact w_iret rfl k

theorem k457_49 {P : s_P} {d : Nat} {Q : s_O → Prop} {h : s_H} {kc ks : Nat} {r0 : Term} {x1 : Int} {q2 : Nat} {f3 : List Term} (g4 : s_get h q2 = some (1, 11, f3)) (k : wm P d 507 [.index q2, vi x1] h (wq P d sw_c457 sw_h457 54 [.index q2, vi x1] [] kc ks Q)) (e_q2 : r0 = .index q2 := by first | rfl | assumption) (y1 : s_ty r0 = 3 := by first | rfl | assumption)  : wr P d sw_c457 sw_h457 (49, [r0, vi x1], [], h, kc, ks) Q := by
  refine w_ld rfl rfl (Or.inr (Or.inr ⟨by decide, y1⟩)) ?_
  refine w_ld rfl rfl (Or.inl ⟨by decide, rfl⟩) ?_
  subst e_q2
  exact w_cv rfl [.index q2, vi x1] [] rfl rfl (s_wt_4 rfl) rfl g4 k

theorem k457_54 {P : s_P} {d : Nat} {Q : s_O → Prop} {h : s_H} {kc ks : Nat} {r0 : Term} {x1 : Int} {q2 : Nat} {f3 : List Term} (g4 : s_get h q2 = some (1, 11, f3)) (k : wm P d 495 [.index q2, vi 3] h (wq P d sw_c457 sw_h457 59 [.index q2, vi x1] [] kc ks Q)) (e_q2 : r0 = .index q2 := by first | rfl | assumption) (y1 : s_ty r0 = 3 := by first | rfl | assumption)  : wr P d sw_c457 sw_h457 (54, [r0, vi x1], [], h, kc, ks) Q := by
  refine w_ld rfl rfl (Or.inr (Or.inr ⟨by decide, y1⟩)) ?_
  refine w_c32 rfl (by decide) 3 (by decide) ?_
  subst e_q2
  exact w_cv rfl [.index q2, vi 3] [] rfl rfl (s_wt_4 rfl) rfl g4 k

theorem k457_59 {P : s_P} {d : Nat} {Q : s_O → Prop} {h : s_H} {kc ks : Nat} {r0 : Term} {x1 s0 : Int}  (k : Q (.inl (some (vi s0)), h, kc, ks))   : wr P d sw_c457 sw_h457 (59, [r0, vi x1], [vi s0], h, kc, ks) Q := by
  exact w_iret rfl k

/-! 458: FormulaWorksModel.goOn()V -/
theorem k458_0 {P : s_P} {d : Nat} {Q : s_O → Prop} {h : s_H} {kc ks : Nat} {r0 t1 : Term} {q2 : Nat} {f3 : List Term} {z5 : Int} (g4 : s_get h q2 = some (1, 11, f3)) (k : wm P d 411 [.index q2, vi z5] h (wq P d sw_c458 sw_h458 8 [.index q2, t1] [] kc ks Q)) (e_q2 : r0 = .index q2 := by first | rfl | assumption) (y1 : s_ty r0 = 3 := by first | rfl | assumption) (n6 : s_nth f3 71 = some (vi z5) := by first | rfl | assumption)  : wr P d sw_c458 sw_h458 (0, [r0, t1], [], h, kc, ks) Q := by
  refine w_ld rfl rfl (Or.inr (Or.inr ⟨by decide, y1⟩)) ?_
  refine w_ld rfl rfl (Or.inr (Or.inr ⟨by decide, y1⟩)) ?_
  subst e_q2
  refine w_getf rfl g4 n6 ?_
  exact w_cv rfl [.index q2, vi z5] [] rfl rfl (s_wt_4 rfl) rfl g4 k

theorem k458_8 {P : s_P} {d : Nat} {Q : s_O → Prop} {h : s_H} {kc ks : Nat} {r0 t1 : Term} {s0 : Int} {q2 : Nat} {f3 : List Term} (g4 : s_get h q2 = some (1, 11, f3)) (k : wm P d 418 [.index q2] h (wq P d sw_c458 sw_h458 13 [.index q2, vi s0] [] kc ks Q)) (e_q2 : r0 = .index q2 := by first | rfl | assumption) (y1 : s_ty r0 = 3 := by first | rfl | assumption)  : wr P d sw_c458 sw_h458 (8, [r0, t1], [vi s0], h, kc, ks) Q := by
  refine w_st (ls' := [r0, vi s0]) rfl (Or.inl ⟨by decide, rfl⟩) (s_stK_r (pre := []) y1) ?_
  refine w_ld rfl rfl (Or.inr (Or.inr ⟨by decide, y1⟩)) ?_
  subst e_q2
  exact w_cv rfl [.index q2] [] rfl rfl (s_wt_4 rfl) rfl g4 k

theorem k458_13 {P : s_P} {d : Nat} {Q : s_O → Prop} {h : s_H} {kc ks : Nat} {r0 : Term} {x1 : Int} {q2 : Nat} {f3 : List Term} {z5 : Int} (g4 : s_get h q2 = some (1, 11, f3)) (k1 : z5 ≤ 0 → wr P d sw_c458 sw_h458 (21, [.index q2, vi x1], [], h, kc, ks) Q) (k2 : ¬ z5 ≤ 0 → wr P d sw_c458 sw_h458 (20, [.index q2, vi x1], [], h, kc, ks) Q) (e_q2 : r0 = .index q2 := by first | rfl | assumption) (y1 : s_ty r0 = 3 := by first | rfl | assumption) (n6 : s_nth f3 55 = some (vi z5) := by first | rfl | assumption) (c7 : In3 z5 := by first | omega | assumption | (simp only [mk_len, List.length_map]; omega) | decide) : wr P d sw_c458 sw_h458 (13, [r0, vi x1], [], h, kc, ks) Q := by
  refine w_ld rfl rfl (Or.inr (Or.inr ⟨by decide, y1⟩)) ?_
  subst e_q2
  refine w_getf rfl g4 n6 ?_
  exact w_if1 rfl c7 k1 k2

theorem k458_20 {P : s_P} {d : Nat} {Q : s_O → Prop} {h : s_H} {kc ks : Nat} {r0 : Term} {x1 : Int}  (k : Q (.inl none, h, kc, ks))   : wr P d sw_c458 sw_h458 (20, [r0, vi x1], [], h, kc, ks) Q := by
  exact w_ret rfl k

theorem k458_21 {P : s_P} {d : Nat} {Q : s_O → Prop} {h : s_H} {kc ks : Nat} {r0 : Term} {x1 : Int}  (k1 : x1 = 42 → wr P d sw_c458 sw_h458 (33, [r0, vi x1], [], h, kc, ks) Q) (k2 : ¬ x1 = 42 → wr P d sw_c458 sw_h458 (27, [r0, vi x1], [], h, kc, ks) Q)  (c1 : In3 x1 := by first | omega | assumption | (simp only [mk_len, List.length_map]; omega) | decide) : wr P d sw_c458 sw_h458 (21, [r0, vi x1], [], h, kc, ks) Q := by
  refine w_ld rfl rfl (Or.inl ⟨by decide, rfl⟩) ?_
  refine w_c32 rfl (by decide) 42 (by decide) ?_
  exact w_if2 rfl c1 (by decide) k1 k2

theorem k458_27 {P : s_P} {d : Nat} {Q : s_O → Prop} {h : s_H} {kc ks : Nat} {r0 : Term} {x1 : Int}  (k1 : x1 ≠ 47 → wr P d sw_c458 sw_h458 (86, [r0, vi x1], [], h, kc, ks) Q) (k2 : ¬ x1 ≠ 47 → wr P d sw_c458 sw_h458 (33, [r0, vi x1], [], h, kc, ks) Q)  (c1 : In3 x1 := by first | omega | assumption | (simp only [mk_len, List.length_map]; omega) | decide) : wr P d sw_c458 sw_h458 (27, [r0, vi x1], [], h, kc, ks) Q := by
  refine w_ld rfl rfl (Or.inl ⟨by decide, rfl⟩) ?_
  refine w_c32 rfl (by decide) 47 (by decide) ?_
  exact w_if2 rfl c1 (by decide) k1 k2

theorem k458_33 {P : s_P} {d : Nat} {Q : s_O → Prop} {h : s_H} {kc ks : Nat} {r0 : Term} {x1 : Int} {q2 : Nat} {f3 : List Term} (g4 : s_get h q2 = some (1, 11, f3)) (k : wm P d 600 [.index q2] h (wq P d sw_c458 sw_h458 37 [.index q2, vi x1] [] kc ks Q)) (e_q2 : r0 = .index q2 := by first | rfl | assumption) (y1 : s_ty r0 = 3 := by first | rfl | assumption)  : wr P d sw_c458 sw_h458 (33, [r0, vi x1], [], h, kc, ks) Q := by
  refine w_ld rfl rfl (Or.inr (Or.inr ⟨by decide, y1⟩)) ?_
  subst e_q2
  exact w_cv rfl [.index q2] [] rfl rfl (s_wt_4 rfl) rfl g4 k

theorem k458_37 {P : s_P} {d : Nat} {Q : s_O → Prop} {h : s_H} {kc ks : Nat} {r0 : Term} {x1 : Int} {q2 : Nat} {f3 : List Term} {v5 : Term} {z7 : Int} {q9 : Nat} {a10 : List Int} {f16 : List Term} {v18 : Term} {z20 : Int} {q22 : Nat} {a23 : List Int} {f29 : List Term} {v31 : Term} {z33 z35 : Int} {q37 : Nat} {a38 : List Int} {f44 : List Term} {z46 : Int} {f50 : List Term} (g4 : s_get h q2 = some (1, 11, f3)) (g11 : s_get h q9 = some (0, 5, a10.map vi)) (g17 : s_get (hp h q9 (0, 5, (a10.set (Int.toNat (z7)) 1).map vi)) q2 = some (1, 11, f16)) (g24 : s_get (hp h q9 (0, 5, (a10.set (Int.toNat (z7)) 1).map vi)) q22 = some (0, 0, a23.map vi)) (g30 : s_get (hp (hp h q9 (0, 5, (a10.set (Int.toNat (z7)) 1).map vi)) q22 (0, 0, (a23.set (Int.toNat (z20)) x1).map vi)) q2 = some (1, 11, f29)) (g39 : s_get (hp (hp h q9 (0, 5, (a10.set (Int.toNat (z7)) 1).map vi)) q22 (0, 0, (a23.set (Int.toNat (z20)) x1).map vi)) q37 = some (0, 0, a38.map vi)) (g45 : s_get (hp (hp (hp h q9 (0, 5, (a10.set (Int.toNat (z7)) 1).map vi)) q22 (0, 0, (a23.set (Int.toNat (z20)) x1).map vi)) q37 (0, 0, (a38.set (Int.toNat (z33)) z35).map vi)) q2 = some (1, 11, f44)) (g51 : s_get (hp (hp (hp (hp h q9 (0, 5, (a10.set (Int.toNat (z7)) 1).map vi)) q22 (0, 0, (a23.set (Int.toNat (z20)) x1).map vi)) q37 (0, 0, (a38.set (Int.toNat (z33)) z35).map vi)) q2 (1, 11, f44.set 71 (vi (z46 + 1)))) q2 = some (1, 11, f50)) (k : Q (.inl none, (hp (hp (hp (hp (hp h q9 (0, 5, (a10.set (Int.toNat (z7)) 1).map vi)) q22 (0, 0, (a23.set (Int.toNat (z20)) x1).map vi)) q37 (0, 0, (a38.set (Int.toNat (z33)) z35).map vi)) q2 (1, 11, f44.set 71 (vi (z46 + 1)))) q2 (1, 11, f50.set 72 (vi 1))), kc, ks)) (e_q2 : r0 = .index q2 := by first | rfl | assumption) (e_q9 : v5 = .index q9 := by first | rfl | assumption) (e_q22 : v18 = .index q22 := by first | rfl | assumption) (e_q37 : v31 = .index q37 := by first | rfl | assumption) (y1 : s_ty r0 = 3 := by first | rfl | assumption) (n6 : s_nth f3 61 = some v5 := by first | rfl | assumption) (n8 : s_nth f3 59 = some (vi z7) := by first | rfl | assumption) (n19 : s_nth f16 64 = some v18 := by first | rfl | assumption) (n21 : s_nth f16 59 = some (vi z20) := by first | rfl | assumption) (n32 : s_nth f29 66 = some v31 := by first | rfl | assumption) (n34 : s_nth f29 59 = some (vi z33) := by first | rfl | assumption) (n36 : s_nth f29 71 = some (vi z35) := by first | rfl | assumption) (n47 : s_nth f44 71 = some (vi z46) := by first | rfl | assumption) (l48 : 71 < f44.length := by first | exact Nat.le_of_ble_eq_true rfl | omega | assumption) (l52 : 72 < f50.length := by first | exact Nat.le_of_ble_eq_true rfl | omega | assumption) (c12 : z7 < a10.length := by first | omega | assumption | (simp only [mk_len, List.length_map]; omega) | decide) (c13 : 0 ≤ z7 := by first | omega | assumption | (simp only [mk_len, List.length_map]; omega) | decide) (c14 : In3 z7 := by first | omega | assumption | (simp only [mk_len, List.length_map]; omega) | decide) (c15 : 0 < q9 := by first | omega | assumption | (simp only [mk_len, List.length_map]; omega) | decide) (c25 : z20 < a23.length := by first | omega | assumption | (simp only [mk_len, List.length_map]; omega) | decide) (c26 : 0 ≤ z20 := by first | omega | assumption | (simp only [mk_len, List.length_map]; omega) | decide) (c27 : In3 z20 := by first | omega | assumption | (simp only [mk_len, List.length_map]; omega) | decide) (c28 : 0 < q22 := by first | omega | assumption | (simp only [mk_len, List.length_map]; omega) | decide) (c40 : z33 < a38.length := by first | omega | assumption | (simp only [mk_len, List.length_map]; omega) | decide) (c41 : 0 ≤ z33 := by first | omega | assumption | (simp only [mk_len, List.length_map]; omega) | decide) (c42 : In3 z33 := by first | omega | assumption | (simp only [mk_len, List.length_map]; omega) | decide) (c43 : 0 < q37 := by first | omega | assumption | (simp only [mk_len, List.length_map]; omega) | decide) (c49 : 0 < q2 := by first | omega | assumption | (simp only [mk_len, List.length_map]; omega) | decide) : wr P d sw_c458 sw_h458 (37, [r0, vi x1], [], h, kc, ks) Q := by
  refine w_ld rfl rfl (Or.inr (Or.inr ⟨by decide, y1⟩)) ?_
  subst e_q2
  refine w_getf rfl g4 n6 ?_
  refine w_ld rfl rfl (Or.inr (Or.inr ⟨by decide, rfl⟩)) ?_
  refine w_getf rfl g4 n8 ?_
  refine w_c32 rfl (by decide) 1 (by decide) ?_
  subst e_q9
  refine w_bast rfl g11 (Nat.ble_eq_true_of_le c15) c14 c13 c12 (by decide) ?_
  refine w_ld rfl rfl (Or.inr (Or.inr ⟨by decide, rfl⟩)) ?_
  refine w_getf rfl g17 n19 ?_
  refine w_ld rfl rfl (Or.inr (Or.inr ⟨by decide, rfl⟩)) ?_
  refine w_getf rfl g17 n21 ?_
  refine w_ld rfl rfl (Or.inl ⟨by decide, rfl⟩) ?_
  subst e_q22
  refine w_iast rfl g24 (Nat.ble_eq_true_of_le c28) c27 c26 c25 ?_
  refine w_ld rfl rfl (Or.inr (Or.inr ⟨by decide, rfl⟩)) ?_
  refine w_getf rfl g30 n32 ?_
  refine w_ld rfl rfl (Or.inr (Or.inr ⟨by decide, rfl⟩)) ?_
  refine w_getf rfl g30 n34 ?_
  refine w_ld rfl rfl (Or.inr (Or.inr ⟨by decide, rfl⟩)) ?_
  refine w_getf rfl g30 n36 ?_
  subst e_q37
  refine w_iast rfl g39 (Nat.ble_eq_true_of_le c43) c42 c41 c40 ?_
  refine w_ld rfl rfl (Or.inr (Or.inr ⟨by decide, rfl⟩)) ?_
  refine w_dup rfl rfl ?_
  refine w_getf rfl g45 n47 ?_
  refine w_c32 rfl (by decide) 1 (by decide) ?_
  refine w_iadd rfl ?_
  refine w_putf rfl g45 (Nat.ble_eq_true_of_le c49) rfl (Nat.ble_eq_true_of_le l48) ?_
  refine w_ld rfl rfl (Or.inr (Or.inr ⟨by decide, rfl⟩)) ?_
  refine w_c32 rfl (by decide) 1 (by decide) ?_
  refine w_putf rfl g51 (Nat.ble_eq_true_of_le c49) rfl (Nat.ble_eq_true_of_le l52) ?_
  exact w_ret rfl k

theorem k458_86 {P : s_P} {d : Nat} {Q : s_O → Prop} {h : s_H} {kc ks : Nat} {r0 : Term} {x1 : Int} {q2 : Nat} {f3 : List Term} {v5 : Term} {z7 : Int} {q9 : Nat} {a10 : List Int} {f16 : List Term} (g4 : s_get h q2 = some (1, 11, f3)) (g11 : s_get h q9 = some (0, 5, a10.map vi)) (g17 : s_get (hp h q9 (0, 5, (a10.set (Int.toNat (z7)) 0).map vi)) q2 = some (1, 11, f16)) (k : wm P d 419 [.index q2] (hp h q9 (0, 5, (a10.set (Int.toNat (z7)) 0).map vi)) (wq P d sw_c458 sw_h458 100 [.index q2, vi x1] [] kc ks Q)) (e_q2 : r0 = .index q2 := by first | rfl | assumption) (e_q9 : v5 = .index q9 := by first | rfl | assumption) (y1 : s_ty r0 = 3 := by first | rfl | assumption) (n6 : s_nth f3 61 = some v5 := by first | rfl | assumption) (n8 : s_nth f3 59 = some (vi z7) := by first | rfl | assumption) (c12 : z7 < a10.length := by first | omega | assumption | (simp only [mk_len, List.length_map]; omega) | decide) (c13 : 0 ≤ z7 := by first | omega | assumption | (simp only [mk_len, List.length_map]; omega) | decide) (c14 : In3 z7 := by first | omega | assumption | (simp only [mk_len, List.length_map]; omega) | decide) (c15 : 0 < q9 := by first | omega | assumption | (simp only [mk_len, List.length_map]; omega) | decide) : wr P d sw_c458 sw_h458 (86, [r0, vi x1], [], h, kc, ks) Q := by
  refine w_ld rfl rfl (Or.inr (Or.inr ⟨by decide, y1⟩)) ?_
  subst e_q2
  refine w_getf rfl g4 n6 ?_
  refine w_ld rfl rfl (Or.inr (Or.inr ⟨by decide, rfl⟩)) ?_
  refine w_getf rfl g4 n8 ?_
  refine w_c32 rfl (by decide) 0 (by decide) ?_
  subst e_q9
  refine w_bast rfl g11 (Nat.ble_eq_true_of_le c15) c14 c13 c12 (by decide) ?_
  refine w_ld rfl rfl (Or.inr (Or.inr ⟨by decide, rfl⟩)) ?_
  exact w_cv rfl [.index q2] [] rfl rfl (s_wt_4 rfl) rfl g17 k

theorem k458_100 {P : s_P} {d : Nat} {Q : s_O → Prop} {h : s_H} {kc ks : Nat} {r0 : Term} {x1 : Int} {q2 : Nat} {f3 : List Term} {z5 : Int} (g4 : s_get h q2 = some (1, 11, f3)) (k1 : z5 ≤ 0 → wr P d sw_c458 sw_h458 (108, [.index q2, vi x1], [], h, kc, ks) Q) (k2 : ¬ z5 ≤ 0 → wr P d sw_c458 sw_h458 (107, [.index q2, vi x1], [], h, kc, ks) Q) (e_q2 : r0 = .index q2 := by first | rfl | assumption) (y1 : s_ty r0 = 3 := by first | rfl | assumption) (n6 : s_nth f3 55 = some (vi z5) := by first | rfl | assumption) (c7 : In3 z5 := by first | omega | assumption | (simp only [mk_len, List.length_map]; omega) | decide) : wr P d sw_c458 sw_h458 (100, [r0, vi x1], [], h, kc, ks) Q := by
  refine w_ld rfl rfl (Or.inr (Or.inr ⟨by decide, y1⟩)) ?_
  subst e_q2
  refine w_getf rfl g4 n6 ?_
  exact w_if1 rfl c7 k1 k2

theorem k458_107 {P : s_P} {d : Nat} {Q : s_O → Prop} {h : s_H} {kc ks : Nat} {r0 : Term} {x1 : Int}  (k : Q (.inl none, h, kc, ks))   : wr P d sw_c458 sw_h458 (107, [r0, vi x1], [], h, kc, ks) Q := by
  exact w_ret rfl k

theorem k458_108 {P : s_P} {d : Nat} {Q : s_O → Prop} {h : s_H} {kc ks : Nat} {r0 : Term} {x1 : Int}  (k1 : x1 = 43 → wr P d sw_c458 sw_h458 (120, [r0, vi x1], [], h, kc, ks) Q) (k2 : ¬ x1 = 43 → wr P d sw_c458 sw_h458 (114, [r0, vi x1], [], h, kc, ks) Q)  (c1 : In3 x1 := by first | omega | assumption | (simp only [mk_len, List.length_map]; omega) | decide) : wr P d sw_c458 sw_h458 (108, [r0, vi x1], [], h, kc, ks) Q := by
  refine w_ld rfl rfl (Or.inl ⟨by decide, rfl⟩) ?_
  refine w_c32 rfl (by decide) 43 (by decide) ?_
  exact w_if2 rfl c1 (by decide) k1 k2

theorem k458_114 {P : s_P} {d : Nat} {Q : s_O → Prop} {h : s_H} {kc ks : Nat} {r0 : Term} {x1 : Int}  (k1 : x1 ≠ 45 → wr P d sw_c458 sw_h458 (175, [r0, vi x1], [], h, kc, ks) Q) (k2 : ¬ x1 ≠ 45 → wr P d sw_c458 sw_h458 (120, [r0, vi x1], [], h, kc, ks) Q)  (c1 : In3 x1 := by first | omega | assumption | (simp only [mk_len, List.length_map]; omega) | decide) : wr P d sw_c458 sw_h458 (114, [r0, vi x1], [], h, kc, ks) Q := by
  refine w_ld rfl rfl (Or.inl ⟨by decide, rfl⟩) ?_
  refine w_c32 rfl (by decide) 45 (by decide) ?_
  exact w_if2 rfl c1 (by decide) k1 k2

theorem k458_120 {P : s_P} {d : Nat} {Q : s_O → Prop} {h : s_H} {kc ks : Nat} {r0 : Term} {x1 : Int} {q2 : Nat} {f3 : List Term} (g4 : s_get h q2 = some (1, 11, f3)) (k : wm P d 599 [.index q2] h (wq P d sw_c458 sw_h458 124 [.index q2, vi x1] [] kc ks Q)) (e_q2 : r0 = .index q2 := by first | rfl | assumption) (y1 : s_ty r0 = 3 := by first | rfl | assumption)  : wr P d sw_c458 sw_h458 (120, [r0, vi x1], [], h, kc, ks) Q := by
  refine w_ld rfl rfl (Or.inr (Or.inr ⟨by decide, y1⟩)) ?_
  subst e_q2
  exact w_cv rfl [.index q2] [] rfl rfl (s_wt_4 rfl) rfl g4 k

theorem k458_124 {P : s_P} {d : Nat} {Q : s_O → Prop} {h : s_H} {kc ks : Nat} {r0 : Term} {x1 : Int} {q2 : Nat} {f3 : List Term} {v5 : Term} {z7 : Int} {q9 : Nat} {a10 : List Int} {f16 : List Term} {v18 : Term} {z20 : Int} {q22 : Nat} {a23 : List Int} {f29 : List Term} {v31 : Term} {z33 z35 : Int} {q37 : Nat} {a38 : List Int} {f44 : List Term} {z46 : Int} {f50 : List Term} (g4 : s_get h q2 = some (1, 11, f3)) (g11 : s_get h q9 = some (0, 5, a10.map vi)) (g17 : s_get (hp h q9 (0, 5, (a10.set (Int.toNat (z7)) 1).map vi)) q2 = some (1, 11, f16)) (g24 : s_get (hp h q9 (0, 5, (a10.set (Int.toNat (z7)) 1).map vi)) q22 = some (0, 0, a23.map vi)) (g30 : s_get (hp (hp h q9 (0, 5, (a10.set (Int.toNat (z7)) 1).map vi)) q22 (0, 0, (a23.set (Int.toNat (z20)) x1).map vi)) q2 = some (1, 11, f29)) (g39 : s_get (hp (hp h q9 (0, 5, (a10.set (Int.toNat (z7)) 1).map vi)) q22 (0, 0, (a23.set (Int.toNat (z20)) x1).map vi)) q37 = some (0, 0, a38.map vi)) (g45 : s_get (hp (hp (hp h q9 (0, 5, (a10.set (Int.toNat (z7)) 1).map vi)) q22 (0, 0, (a23.set (Int.toNat (z20)) x1).map vi)) q37 (0, 0, (a38.set (Int.toNat (z33)) z35).map vi)) q2 = some (1, 11, f44)) (g51 : s_get (hp (hp (hp (hp h q9 (0, 5, (a10.set (Int.toNat (z7)) 1).map vi)) q22 (0, 0, (a23.set (Int.toNat (z20)) x1).map vi)) q37 (0, 0, (a38.set (Int.toNat (z33)) z35).map vi)) q2 (1, 11, f44.set 71 (vi (z46 + 1)))) q2 = some (1, 11, f50)) (k : wr P d sw_c458 sw_h458 (338, [.index q2, vi x1], [], (hp (hp (hp (hp (hp h q9 (0, 5, (a10.set (Int.toNat (z7)) 1).map vi)) q22 (0, 0, (a23.set (Int.toNat (z20)) x1).map vi)) q37 (0, 0, (a38.set (Int.toNat (z33)) z35).map vi)) q2 (1, 11, f44.set 71 (vi (z46 + 1)))) q2 (1, 11, f50.set 72 (vi 1))), kc, ks) Q) (e_q2 : r0 = .index q2 := by first | rfl | assumption) (e_q9 : v5 = .index q9 := by first | rfl | assumption) (e_q22 : v18 = .index q22 := by first | rfl | assumption) (e_q37 : v31 = .index q37 := by first | rfl | assumption) (y1 : s_ty r0 = 3 := by first | rfl | assumption) (n6 : s_nth f3 60 = some v5 := by first | rfl | assumption) (n8 : s_nth f3 59 = some (vi z7) := by first | rfl | assumption) (n19 : s_nth f16 63 = some v18 := by first | rfl | assumption) (n21 : s_nth f16 59 = some (vi z20) := by first | rfl | assumption) (n32 : s_nth f29 65 = some v31 := by first | rfl | assumption) (n34 : s_nth f29 59 = some (vi z33) := by first | rfl | assumption) (n36 : s_nth f29 71 = some (vi z35) := by first | rfl | assumption) (n47 : s_nth f44 71 = some (vi z46) := by first | rfl | assumption) (l48 : 71 < f44.length := by first | exact Nat.le_of_ble_eq_true rfl | omega | assumption) (l52 : 72 < f50.length := by first | exact Nat.le_of_ble_eq_true rfl | omega | assumption) (c12 : z7 < a10.length := by first | omega | assumption | (simp only [mk_len, List.length_map]; omega) | decide) (c13 : 0 ≤ z7 := by first | omega | assumption | (simp only [mk_len, List.length_map]; omega) | decide) (c14 : In3 z7 := by first | omega | assumption | (simp only [mk_len, List.length_map]; omega) | decide) (c15 : 0 < q9 := by first | omega | assumption | (simp only [mk_len, List.length_map]; omega) | decide) (c25 : z20 < a23.length := by first | omega | assumption | (simp only [mk_len, List.length_map]; omega) | decide) (c26 : 0 ≤ z20 := by first | omega | assumption | (simp only [mk_len, List.length_map]; omega) | decide) (c27 : In3 z20 := by first | omega | assumption | (simp only [mk_len, List.length_map]; omega) | decide) (c28 : 0 < q22 := by first | omega | assumption | (simp only [mk_len, List.length_map]; omega) | decide) (c40 : z33 < a38.length := by first | omega | assumption | (simp only [mk_len, List.length_map]; omega) | decide) (c41 : 0 ≤ z33 := by first | omega | assumption | (simp only [mk_len, List.length_map]; omega) | decide) (c42 : In3 z33 := by first | omega | assumption | (simp only [mk_len, List.length_map]; omega) | decide) (c43 : 0 < q37 := by first | omega | assumption | (simp only [mk_len, List.length_map]; omega) | decide) (c49 : 0 < q2 := by first | omega | assumption | (simp only [mk_len, List.length_map]; omega) | decide) : wr P d sw_c458 sw_h458 (124, [r0, vi x1], [], h, kc, ks) Q := by
  refine w_ld rfl rfl (Or.inr (Or.inr ⟨by decide, y1⟩)) ?_
  subst e_q2
  refine w_getf rfl g4 n6 ?_
  refine w_ld rfl rfl (Or.inr (Or.inr ⟨by decide, rfl⟩)) ?_
  refine w_getf rfl g4 n8 ?_
  refine w_c32 rfl (by decide) 1 (by decide) ?_
  subst e_q9
  refine w_bast rfl g11 (Nat.ble_eq_true_of_le c15) c14 c13 c12 (by decide) ?_
  refine w_ld rfl rfl (Or.inr (Or.inr ⟨by decide, rfl⟩)) ?_
  refine w_getf rfl g17 n19 ?_
  refine w_ld rfl rfl (Or.inr (Or.inr ⟨by decide, rfl⟩)) ?_
  refine w_getf rfl g17 n21 ?_
  refine w_ld rfl rfl (Or.inl ⟨by decide, rfl⟩) ?_
  subst e_q22
  refine w_iast rfl g24 (Nat.ble_eq_true_of_le c28) c27 c26 c25 ?_
  refine w_ld rfl rfl (Or.inr (Or.inr ⟨by decide, rfl⟩)) ?_
  refine w_getf rfl g30 n32 ?_
  refine w_ld rfl rfl (Or.inr (Or.inr ⟨by decide, rfl⟩)) ?_
  refine w_getf rfl g30 n34 ?_
  refine w_ld rfl rfl (Or.inr (Or.inr ⟨by decide, rfl⟩)) ?_
  refine w_getf rfl g30 n36 ?_
  subst e_q37
  refine w_iast rfl g39 (Nat.ble_eq_true_of_le c43) c42 c41 c40 ?_
  refine w_ld rfl rfl (Or.inr (Or.inr ⟨by decide, rfl⟩)) ?_
  refine w_dup rfl rfl ?_
  refine w_getf rfl g45 n47 ?_
  refine w_c32 rfl (by decide) 1 (by decide) ?_
  refine w_iadd rfl ?_
  refine w_putf rfl g45 (Nat.ble_eq_true_of_le c49) rfl (Nat.ble_eq_true_of_le l48) ?_
  refine w_ld rfl rfl (Or.inr (Or.inr ⟨by decide, rfl⟩)) ?_
  refine w_c32 rfl (by decide) 1 (by decide) ?_
  refine w_putf rfl g51 (Nat.ble_eq_true_of_le c49) rfl (Nat.ble_eq_true_of_le l52) ?_
  refine w_goto rfl ?_
  exact k

theorem k458_175 {P : s_P} {d : Nat} {Q : s_O → Prop} {h : s_H} {kc ks : Nat} {r0 : Term} {x1 : Int}  (k1 : x1 ≠ 41 → wr P d sw_c458 sw_h458 (216, [r0, vi x1], [], h, kc, ks) Q) (k2 : ¬ x1 ≠ 41 → wr P d sw_c458 sw_h458 (181, [r0, vi x1], [], h, kc, ks) Q)  (c1 : In3 x1 := by first | omega | assumption | (simp only [mk_len, List.length_map]; omega) | decide) : wr P d sw_c458 sw_h458 (175, [r0, vi x1], [], h, kc, ks) Q := by
  refine w_ld rfl rfl (Or.inl ⟨by decide, rfl⟩) ?_
  refine w_c32 rfl (by decide) 41 (by decide) ?_
  exact w_if2 rfl c1 (by decide) k1 k2

theorem k458_181 {P : s_P} {d : Nat} {Q : s_O → Prop} {h : s_H} {kc ks : Nat} {r0 : Term} {x1 : Int} {q2 : Nat} {f3 : List Term} {z5 : Int} (g4 : s_get h q2 = some (1, 11, f3)) (k1 : z5 ≤ 0 → wr P d sw_c458 sw_h458 (216, [.index q2, vi x1], [], h, kc, ks) Q) (k2 : ¬ z5 ≤ 0 → wr P d sw_c458 sw_h458 (188, [.index q2, vi x1], [], h, kc, ks) Q) (e_q2 : r0 = .index q2 := by first | rfl | assumption) (y1 : s_ty r0 = 3 := by first | rfl | assumption) (n6 : s_nth f3 59 = some (vi z5) := by first | rfl | assumption) (c7 : In3 z5 := by first | omega | assumption | (simp only [mk_len, List.length_map]; omega) | decide) : wr P d sw_c458 sw_h458 (181, [r0, vi x1], [], h, kc, ks) Q := by
  refine w_ld rfl rfl (Or.inr (Or.inr ⟨by decide, y1⟩)) ?_
  subst e_q2
  refine w_getf rfl g4 n6 ?_
  exact w_if1 rfl c7 k1 k2

theorem k458_188 {P : s_P} {d : Nat} {Q : s_O → Prop} {h : s_H} {kc ks : Nat} {r0 : Term} {x1 : Int} {q2 : Nat} {f3 : List Term} {z5 : Int} {f9 : List Term} {z11 : Int} {f14 : List Term} (g4 : s_get h q2 = some (1, 11, f3)) (g10 : s_get (hp h q2 (1, 11, f3.set 59 (vi (z5 - 1)))) q2 = some (1, 11, f9)) (g15 : s_get (hp (hp h q2 (1, 11, f3.set 59 (vi (z5 - 1)))) q2 (1, 11, f9.set 71 (vi (z11 + 1)))) q2 = some (1, 11, f14)) (k : wr P d sw_c458 sw_h458 (338, [.index q2, vi x1], [], (hp (hp (hp h q2 (1, 11, f3.set 59 (vi (z5 - 1)))) q2 (1, 11, f9.set 71 (vi (z11 + 1)))) q2 (1, 11, f14.set 72 (vi 2))), kc, ks) Q) (e_q2 : r0 = .index q2 := by first | rfl | assumption) (y1 : s_ty r0 = 3 := by first | rfl | assumption) (n6 : s_nth f3 59 = some (vi z5) := by first | rfl | assumption) (l7 : 59 < f3.length := by first | exact Nat.le_of_ble_eq_true rfl | omega | assumption) (n12 : s_nth f9 71 = some (vi z11) := by first | rfl | assumption) (l13 : 71 < f9.length := by first | exact Nat.le_of_ble_eq_true rfl | omega | assumption) (l16 : 72 < f14.length := by first | exact Nat.le_of_ble_eq_true rfl | omega | assumption) (c8 : 0 < q2 := by first | omega | assumption | (simp only [mk_len, List.length_map]; omega) | decide) : wr P d sw_c458 sw_h458 (188, [r0, vi x1], [], h, kc, ks) Q := by
  refine w_ld rfl rfl (Or.inr (Or.inr ⟨by decide, y1⟩)) ?_
  refine w_dup rfl (by rw [y1]; rfl) ?_
  subst e_q2
  refine w_getf rfl g4 n6 ?_
  refine w_c32 rfl (by decide) 1 (by decide) ?_
  refine w_isub rfl ?_
  refine w_putf rfl g4 (Nat.ble_eq_true_of_le c8) rfl (Nat.ble_eq_true_of_le l7) ?_
  refine w_ld rfl rfl (Or.inr (Or.inr ⟨by decide, rfl⟩)) ?_
  refine w_dup rfl rfl ?_
  refine w_getf rfl g10 n12 ?_
  refine w_c32 rfl (by decide) 1 (by decide) ?_
  refine w_iadd rfl ?_
  refine w_putf rfl g10 (Nat.ble_eq_true_of_le c8) rfl (Nat.ble_eq_true_of_le l13) ?_
  refine w_ld rfl rfl (Or.inr (Or.inr ⟨by decide, rfl⟩)) ?_
  refine w_c32 rfl (by decide) 2 (by decide) ?_
  refine w_putf rfl g15 (Nat.ble_eq_true_of_le c8) rfl (Nat.ble_eq_true_of_le l16) ?_
  refine w_goto rfl ?_
  exact k

theorem k458_216 {P : s_P} {d : Nat} {Q : s_O → Prop} {h : s_H} {kc ks : Nat} {r0 : Term} {x1 : Int} {q2 : Nat} {f3 : List Term} {z5 : Int} (g4 : s_get h q2 = some (1, 11, f3)) (k1 : z5 ≠ 3 → wr P d sw_c458 sw_h458 (288, [.index q2, vi x1], [], h, kc, ks) Q) (k2 : ¬ z5 ≠ 3 → wr P d sw_c458 sw_h458 (224, [.index q2, vi x1], [], h, kc, ks) Q) (e_q2 : r0 = .index q2 := by first | rfl | assumption) (y1 : s_ty r0 = 3 := by first | rfl | assumption) (n6 : s_nth f3 54 = some (vi z5) := by first | rfl | assumption) (c7 : In3 z5 := by first | omega | assumption | (simp only [mk_len, List.length_map]; omega) | decide) : wr P d sw_c458 sw_h458 (216, [r0, vi x1], [], h, kc, ks) Q := by
  refine w_ld rfl rfl (Or.inr (Or.inr ⟨by decide, y1⟩)) ?_
  subst e_q2
  refine w_getf rfl g4 n6 ?_
  refine w_c32 rfl (by decide) 3 (by decide) ?_
  exact w_if2 rfl c7 (by decide) k1 k2

theorem k458_224 {P : s_P} {d : Nat} {Q : s_O → Prop} {h : s_H} {kc ks : Nat} {r0 : Term} {x1 : Int}  (k1 : x1 ≠ 61 → wr P d sw_c458 sw_h458 (288, [r0, vi x1], [], h, kc, ks) Q) (k2 : ¬ x1 ≠ 61 → wr P d sw_c458 sw_h458 (230, [r0, vi x1], [], h, kc, ks) Q)  (c1 : In3 x1 := by first | omega | assumption | (simp only [mk_len, List.length_map]; omega) | decide) : wr P d sw_c458 sw_h458 (224, [r0, vi x1], [], h, kc, ks) Q := by
  refine w_ld rfl rfl (Or.inl ⟨by decide, rfl⟩) ?_
  refine w_c32 rfl (by decide) 61 (by decide) ?_
  exact w_if2 rfl c1 (by decide) k1 k2

theorem k458_230 {P : s_P} {d : Nat} {Q : s_O → Prop} {h : s_H} {kc ks : Nat} {r0 : Term} {x1 : Int} {q2 : Nat} {f3 : List Term} {z5 : Int} (g4 : s_get h q2 = some (1, 11, f3)) (k1 : z5 ≠ 0 → wr P d sw_c458 sw_h458 (288, [.index q2, vi x1], [], h, kc, ks) Q) (k2 : ¬ z5 ≠ 0 → wr P d sw_c458 sw_h458 (237, [.index q2, vi x1], [], h, kc, ks) Q) (e_q2 : r0 = .index q2 := by first | rfl | assumption) (y1 : s_ty r0 = 3 := by first | rfl | assumption) (n6 : s_nth f3 59 = some (vi z5) := by first | rfl | assumption) (c7 : In3 z5 := by first | omega | assumption | (simp only [mk_len, List.length_map]; omega) | decide) : wr P d sw_c458 sw_h458 (230, [r0, vi x1], [], h, kc, ks) Q := by
  refine w_ld rfl rfl (Or.inr (Or.inr ⟨by decide, y1⟩)) ?_
  subst e_q2
  refine w_getf rfl g4 n6 ?_
  exact w_if1 rfl c7 k1 k2

theorem k458_237 {P : s_P} {d : Nat} {Q : s_O → Prop} {h : s_H} {kc ks : Nat} {r0 : Term} {x1 : Int} {q2 : Nat} {f3 : List Term} {z5 : Int} (g4 : s_get h q2 = some (1, 11, f3)) (k1 : z5 ≠ 0 → wr P d sw_c458 sw_h458 (288, [.index q2, vi x1], [], h, kc, ks) Q) (k2 : ¬ z5 ≠ 0 → wr P d sw_c458 sw_h458 (244, [.index q2, vi x1], [], h, kc, ks) Q) (e_q2 : r0 = .index q2 := by first | rfl | assumption) (y1 : s_ty r0 = 3 := by first | rfl | assumption) (n6 : s_nth f3 75 = some (vi z5) := by first | rfl | assumption) (c7 : In3 z5 := by first | omega | assumption | (simp only [mk_len, List.length_map]; omega) | decide) : wr P d sw_c458 sw_h458 (237, [r0, vi x1], [], h, kc, ks) Q := by
  refine w_ld rfl rfl (Or.inr (Or.inr ⟨by decide, y1⟩)) ?_
  subst e_q2
  refine w_getf rfl g4 n6 ?_
  exact w_if1 rfl c7 k1 k2

theorem k458_244 {P : s_P} {d : Nat} {Q : s_O → Prop} {h : s_H} {kc ks : Nat} {r0 : Term} {x1 : Int} {q2 : Nat} {f3 : List Term} {v5 v7 : Term} (g4 : s_get h q2 = some (1, 11, f3)) (k : wm P d 425 [v5, v7] h (wq P d sw_c458 sw_h458 255 [.index q2, vi x1] [] kc ks Q)) (e_q2 : r0 = .index q2 := by first | rfl | assumption) (y1 : s_ty r0 = 3 := by first | rfl | assumption) (n6 : s_nth f3 73 = some v5 := by first | rfl | assumption) (n8 : s_nth f3 14 = some v7 := by first | rfl | assumption)  : wr P d sw_c458 sw_h458 (244, [r0, vi x1], [], h, kc, ks) Q := by
  refine w_ld rfl rfl (Or.inr (Or.inr ⟨by decide, y1⟩)) ?_
  subst e_q2
  refine w_getf rfl g4 n6 ?_
  refine w_ld rfl rfl (Or.inr (Or.inr ⟨by decide, rfl⟩)) ?_
  refine w_getf rfl g4 n8 ?_
  exact w_cs rfl [v5, v7] [] rfl rfl (s_wt_4 rfl) k

theorem k458_255 {P : s_P} {d : Nat} {Q : s_O → Prop} {h : s_H} {kc ks : Nat} {r0 : Term} {x1 : Int} {q2 : Nat} {f3 : List Term} {v5 v7 : Term} (g4 : s_get h q2 = some (1, 11, f3)) (k : wm P d 425 [v5, v7] h (wq P d sw_c458 sw_h458 266 [.index q2, vi x1] [] kc ks Q)) (e_q2 : r0 = .index q2 := by first | rfl | assumption) (y1 : s_ty r0 = 3 := by first | rfl | assumption) (n6 : s_nth f3 74 = some v5 := by first | rfl | assumption) (n8 : s_nth f3 15 = some v7 := by first | rfl | assumption)  : wr P d sw_c458 sw_h458 (255, [r0, vi x1], [], h, kc, ks) Q := by
  refine w_ld rfl rfl (Or.inr (Or.inr ⟨by decide, y1⟩)) ?_
  subst e_q2
  refine w_getf rfl g4 n6 ?_
  refine w_ld rfl rfl (Or.inr (Or.inr ⟨by decide, rfl⟩)) ?_
  refine w_getf rfl g4 n8 ?_
  exact w_cs rfl [v5, v7] [] rfl rfl (s_wt_4 rfl) k

theorem k458_266 {P : s_P} {d : Nat} {Q : s_O → Prop} {h : s_H} {kc ks : Nat} {r0 : Term} {x1 : Int} {q2 : Nat} {f3 f7 : List Term} (g4 : s_get h q2 = some (1, 11, f3)) (g8 : s_get (hp h q2 (1, 11, f3.set 75 (vi 1))) q2 = some (1, 11, f7)) (k : wm P d 406 [.index q2] (hp h q2 (1, 11, f3.set 75 (vi 1))) (wq P d sw_c458 sw_h458 275 [.index q2, vi x1] [] kc ks Q)) (e_q2 : r0 = .index q2 := by first | rfl | assumption) (y1 : s_ty r0 = 3 := by first | rfl | assumption) (l5 : 75 < f3.length := by first | exact Nat.le_of_ble_eq_true rfl | omega | assumption) (c6 : 0 < q2 := by first | omega | assumption | (simp only [mk_len, List.length_map]; omega) | decide) : wr P d sw_c458 sw_h458 (266, [r0, vi x1], [], h, kc, ks) Q := by
  refine w_ld rfl rfl (Or.inr (Or.inr ⟨by decide, y1⟩)) ?_
  refine w_c32 rfl (by decide) 1 (by decide) ?_
  subst e_q2
  refine w_putf rfl g4 (Nat.ble_eq_true_of_le c6) (by decide) (Nat.ble_eq_true_of_le l5) ?_
  refine w_ld rfl rfl (Or.inr (Or.inr ⟨by decide, rfl⟩)) ?_
  exact w_cv rfl [.index q2] [] rfl rfl (s_wt_4 rfl) rfl g8 k

theorem k458_275 {P : s_P} {d : Nat} {Q : s_O → Prop} {h : s_H} {kc ks : Nat} {r0 : Term} {x1 : Int} {q2 : Nat} {f3 : List Term} {z5 : Int} (g4 : s_get h q2 = some (1, 11, f3)) (k : wr P d sw_c458 sw_h458 (338, [.index q2, vi x1], [], (hp h q2 (1, 11, f3.set 71 (vi (z5 + 1)))), kc, ks) Q) (e_q2 : r0 = .index q2 := by first | rfl | assumption) (y1 : s_ty r0 = 3 := by first | rfl | assumption) (n6 : s_nth f3 71 = some (vi z5) := by first | rfl | assumption) (l7 : 71 < f3.length := by first | exact Nat.le_of_ble_eq_true rfl | omega | assumption) (c8 : 0 < q2 := by first | omega | assumption | (simp only [mk_len, List.length_map]; omega) | decide) : wr P d sw_c458 sw_h458 (275, [r0, vi x1], [], h, kc, ks) Q := by
  refine w_ld rfl rfl (Or.inr (Or.inr ⟨by decide, y1⟩)) ?_
  refine w_dup rfl (by rw [y1]; rfl) ?_
  subst e_q2
  refine w_getf rfl g4 n6 ?_
  refine w_c32 rfl (by decide) 1 (by decide) ?_
  refine w_iadd rfl ?_
  refine w_putf rfl g4 (Nat.ble_eq_true_of_le c8) rfl (Nat.ble_eq_true_of_le l7) ?_
  refine w_goto rfl ?_
  exact k

theorem k458_288 {P : s_P} {d : Nat} {Q : s_O → Prop} {h : s_H} {kc ks : Nat} {r0 : Term} {x1 : Int} {q2 : Nat} {f3 : List Term} {z5 z7 : Int} (g4 : s_get h q2 = some (1, 11, f3)) (k1 : z5 < z7 → wr P d sw_c458 sw_h458 (321, [.index q2, vi x1], [], h, kc, ks) Q) (k2 : ¬ z5 < z7 → wr P d sw_c458 sw_h458 (299, [.index q2, vi x1], [], h, kc, ks) Q) (e_q2 : r0 = .index q2 := by first | rfl | assumption) (y1 : s_ty r0 = 3 := by first | rfl | assumption) (n6 : s_nth f3 71 = some (vi z5) := by first | rfl | assumption) (n8 : s_nth f3 52 = some (vi z7) := by first | rfl | assumption) (c9 : In3 z5 := by first | omega | assumption | (simp only [mk_len, List.length_map]; omega) | decide) (c10 : In3 z7 := by first | omega | assumption | (simp only [mk_len, List.length_map]; omega) | decide) : wr P d sw_c458 sw_h458 (288, [r0, vi x1], [], h, kc, ks) Q := by
  refine w_ld rfl rfl (Or.inr (Or.inr ⟨by decide, y1⟩)) ?_
  subst e_q2
  refine w_getf rfl g4 n6 ?_
  refine w_ld rfl rfl (Or.inr (Or.inr ⟨by decide, rfl⟩)) ?_
  refine w_getf rfl g4 n8 ?_
  exact w_if2 rfl c9 c10 k1 k2

theorem k458_299 {P : s_P} {d : Nat} {Q : s_O → Prop} {h : s_H} {kc ks : Nat} {r0 : Term} {x1 : Int} {q2 : Nat} {f3 : List Term} {z5 : Int} (g4 : s_get h q2 = some (1, 11, f3)) (k1 : 0 < z5 → wr P d sw_c458 sw_h458 (321, [.index q2, vi x1], [], h, kc, ks) Q) (k2 : ¬ 0 < z5 → wr P d sw_c458 sw_h458 (306, [.index q2, vi x1], [], h, kc, ks) Q) (e_q2 : r0 = .index q2 := by first | rfl | assumption) (y1 : s_ty r0 = 3 := by first | rfl | assumption) (n6 : s_nth f3 59 = some (vi z5) := by first | rfl | assumption) (c7 : In3 z5 := by first | omega | assumption | (simp only [mk_len, List.length_map]; omega) | decide) : wr P d sw_c458 sw_h458 (299, [r0, vi x1], [], h, kc, ks) Q := by
  refine w_ld rfl rfl (Or.inr (Or.inr ⟨by decide, y1⟩)) ?_
  subst e_q2
  refine w_getf rfl g4 n6 ?_
  exact w_if1 rfl c7 k1 k2

theorem k458_306 {P : s_P} {d : Nat} {Q : s_O → Prop} {h : s_H} {kc ks : Nat} {r0 : Term} {x1 : Int} {q2 : Nat} {f3 : List Term} {z5 : Int} (g4 : s_get h q2 = some (1, 11, f3)) (k1 : z5 ≠ 3 → wr P d sw_c458 sw_h458 (333, [.index q2, vi x1], [], h, kc, ks) Q) (k2 : ¬ z5 ≠ 3 → wr P d sw_c458 sw_h458 (314, [.index q2, vi x1], [], h, kc, ks) Q) (e_q2 : r0 = .index q2 := by first | rfl | assumption) (y1 : s_ty r0 = 3 := by first | rfl | assumption) (n6 : s_nth f3 54 = some (vi z5) := by first | rfl | assumption) (c7 : In3 z5 := by first | omega | assumption | (simp only [mk_len, List.length_map]; omega) | decide) : wr P d sw_c458 sw_h458 (306, [r0, vi x1], [], h, kc, ks) Q := by
  refine w_ld rfl rfl (Or.inr (Or.inr ⟨by decide, y1⟩)) ?_
  subst e_q2
  refine w_getf rfl g4 n6 ?_
  refine w_c32 rfl (by decide) 3 (by decide) ?_
  exact w_if2 rfl c7 (by decide) k1 k2

theorem k458_314 {P : s_P} {d : Nat} {Q : s_O → Prop} {h : s_H} {kc ks : Nat} {r0 : Term} {x1 : Int} {q2 : Nat} {f3 : List Term} {z5 : Int} (g4 : s_get h q2 = some (1, 11, f3)) (k1 : z5 ≠ 0 → wr P d sw_c458 sw_h458 (333, [.index q2, vi x1], [], h, kc, ks) Q) (k2 : ¬ z5 ≠ 0 → wr P d sw_c458 sw_h458 (321, [.index q2, vi x1], [], h, kc, ks) Q) (e_q2 : r0 = .index q2 := by first | rfl | assumption) (y1 : s_ty r0 = 3 := by first | rfl | assumption) (n6 : s_nth f3 75 = some (vi z5) := by first | rfl | assumption) (c7 : In3 z5 := by first | omega | assumption | (simp only [mk_len, List.length_map]; omega) | decide) : wr P d sw_c458 sw_h458 (314, [r0, vi x1], [], h, kc, ks) Q := by
  refine w_ld rfl rfl (Or.inr (Or.inr ⟨by decide, y1⟩)) ?_
  subst e_q2
  refine w_getf rfl g4 n6 ?_
  exact w_if1 rfl c7 k1 k2

theorem k458_321 {P : s_P} {d : Nat} {Q : s_O → Prop} {h : s_H} {kc ks : Nat} {r0 : Term} {x1 : Int} {q2 : Nat} {f3 : List Term} {z5 : Int} (g4 : s_get h q2 = some (1, 11, f3)) (k : wm P d 445 [.index q2, vi 1, vi z5] h (wq P d sw_c458 sw_h458 330 [.index q2, vi x1] [] kc ks Q)) (e_q2 : r0 = .index q2 := by first | rfl | assumption) (y1 : s_ty r0 = 3 := by first | rfl | assumption) (n6 : s_nth f3 71 = some (vi z5) := by first | rfl | assumption)  : wr P d sw_c458 sw_h458 (321, [r0, vi x1], [], h, kc, ks) Q := by
  refine w_ld rfl rfl (Or.inr (Or.inr ⟨by decide, y1⟩)) ?_
  refine w_c32 rfl (by decide) 1 (by decide) ?_
  refine w_ld rfl rfl (Or.inr (Or.inr ⟨by decide, y1⟩)) ?_
  subst e_q2
  refine w_getf rfl g4 n6 ?_
  exact w_cv rfl [.index q2, vi 1, vi z5] [] rfl rfl (s_wt_4 rfl) rfl g4 k

theorem k458_330 {P : s_P} {d : Nat} {Q : s_O → Prop} {h : s_H} {kc ks : Nat} {r0 : Term} {x1 : Int}  (k : wr P d sw_c458 sw_h458 (338, [r0, vi x1], [], h, kc, ks) Q)   : wr P d sw_c458 sw_h458 (330, [r0, vi x1], [], h, kc, ks) Q := by
  refine w_goto rfl ?_
  exact k

theorem k458_333 {P : s_P} {d : Nat} {Q : s_O → Prop} {h : s_H} {kc ks : Nat} {r0 : Term} {x1 : Int} {q2 : Nat} {f3 : List Term} (g4 : s_get h q2 = some (1, 11, f3)) (k : wr P d sw_c458 sw_h458 (338, [.index q2, vi x1], [], (hp h q2 (1, 11, f3.set 72 (vi 4))), kc, ks) Q) (e_q2 : r0 = .index q2 := by first | rfl | assumption) (y1 : s_ty r0 = 3 := by first | rfl | assumption) (l5 : 72 < f3.length := by first | exact Nat.le_of_ble_eq_true rfl | omega | assumption) (c6 : 0 < q2 := by first | omega | assumption | (simp only [mk_len, List.length_map]; omega) | decide) : wr P d sw_c458 sw_h458 (333, [r0, vi x1], [], h, kc, ks) Q := by
  refine w_ld rfl rfl (Or.inr (Or.inr ⟨by decide, y1⟩)) ?_
  refine w_c32 rfl (by decide) 4 (by decide) ?_
  subst e_q2
  refine w_putf rfl g4 (Nat.ble_eq_true_of_le c6) rfl (Nat.ble_eq_true_of_le l5) ?_
  exact k

theorem k458_338 {P : s_P} {d : Nat} {Q : s_O → Prop} {h : s_H} {kc ks : Nat} {r0 : Term} {x1 : Int}  (k : Q (.inl none, h, kc, ks))   : wr P d sw_c458 sw_h458 (338, [r0, vi x1], [], h, kc, ks) Q := by
  exact w_ret rfl k

/-! 459: FormulaWorksModel.guess(I)I -/
theorem k459_0 {P : s_P} {d : Nat} {Q : s_O → Prop} {h : s_H} {kc ks : Nat} {r0 : Term} {x1 : Int} {t2 t3 : Term} {q2 : Nat} {f3 : List Term} (g4 : s_get h q2 = some (1, 11, f3)) (k : wm P d 481 [.index q2, vi x1, vi 1] h (wq P d sw_c459 sw_h459 6 [.index q2, vi x1, t2, t3] [] kc ks Q)) (e_q2 : r0 = .index q2 := by first | rfl | assumption) (y1 : s_ty r0 = 3 := by first | rfl | assumption)  : wr P d sw_c459 sw_h459 (0, [r0, vi x1, t2, t3], [], h, kc, ks) Q := by
  refine w_ld rfl rfl (Or.inr (Or.inr ⟨by decide, y1⟩)) ?_
  refine w_ld rfl rfl (Or.inl ⟨by decide, rfl⟩) ?_
  refine w_c32 rfl (by decide) 1 (by decide) ?_
  subst e_q2
  exact w_cv rfl [.index q2, vi x1, vi 1] [] rfl rfl (s_wt_4 rfl) rfl g4 k

theorem k459_6 {P : s_P} {d : Nat} {Q : s_O → Prop} {h : s_H} {kc ks : Nat} {r0 : Term} {x1 : Int} {t2 t3 : Term} {s0 : Int}  (k1 : s0 ≠ 0 → wr P d sw_c459 sw_h459 (11, [r0, vi x1, t2, t3], [], h, kc, ks) Q) (k2 : ¬ s0 ≠ 0 → wr P d sw_c459 sw_h459 (9, [r0, vi x1, t2, t3], [], h, kc, ks) Q)  (c1 : In3 s0 := by first | omega | assumption | (simp only [mk_len, List.length_map]; omega) | decide) : wr P d sw_c459 sw_h459 (6, [r0, vi x1, t2, t3], [vi s0], h, kc, ks) Q := by
  exact w_if1 rfl c1 k1 k2

theorem k459_9 {P : s_P} {d : Nat} {Q : s_O → Prop} {h : s_H} {kc ks : Nat} {r0 : Term} {x1 : Int} {t2 t3 : Term}  (k : Q (.inl (some (vi 0)), h, kc, ks))   : wr P d sw_c459 sw_h459 (9, [r0, vi x1, t2, t3], [], h, kc, ks) Q := by
  refine w_c32 rfl (by decide) 0 (by decide) ?_
  exact w_iret rfl k

theorem k459_11 {P : s_P} {d : Nat} {Q : s_O → Prop} {h : s_H} {kc ks : Nat} {r0 : Term} {x1 : Int} {t2 t3 : Term} {q2 : Nat} {f3 : List Term} {z5 : Int} (g4 : s_get h q2 = some (1, 11, f3)) (k1 : z5 ≠ 150 → wr P d sw_c459 sw_h459 (27, [.index q2, vi x1, t2, t3], [], h, kc, ks) Q) (k2 : ¬ z5 ≠ 150 → wr P d sw_c459 sw_h459 (21, [.index q2, vi x1, t2, t3], [], h, kc, ks) Q) (e_q2 : r0 = .index q2 := by first | rfl | assumption) (y1 : s_ty r0 = 3 := by first | rfl | assumption) (n6 : s_nth f3 1 = some (vi z5) := by first | rfl | assumption) (c7 : In3 z5 := by first | omega | assumption | (simp only [mk_len, List.length_map]; omega) | decide) : wr P d sw_c459 sw_h459 (11, [r0, vi x1, t2, t3], [], h, kc, ks) Q := by
  refine w_ld rfl rfl (Or.inr (Or.inr ⟨by decide, y1⟩)) ?_
  subst e_q2
  refine w_getf rfl g4 n6 ?_
  refine w_c32 rfl (by decide) 150 (by decide) ?_
  exact w_if2 rfl c7 (by decide) k1 k2

theorem k459_21 {P : s_P} {d : Nat} {Q : s_O → Prop} {h : s_H} {kc ks : Nat} {r0 : Term} {x1 : Int} {t2 t3 : Term} {q2 : Nat} {f3 : List Term} (g4 : s_get h q2 = some (1, 11, f3)) (k : wm P d 570 [.index q2, vi 3] h (wq P d sw_c459 sw_h459 26 [.index q2, vi x1, t2, t3] [] kc ks Q)) (e_q2 : r0 = .index q2 := by first | rfl | assumption) (y1 : s_ty r0 = 3 := by first | rfl | assumption)  : wr P d sw_c459 sw_h459 (21, [r0, vi x1, t2, t3], [], h, kc, ks) Q := by
  refine w_ld rfl rfl (Or.inr (Or.inr ⟨by decide, y1⟩)) ?_
  refine w_c32 rfl (by decide) 3 (by decide) ?_
  subst e_q2
  exact w_cv rfl [.index q2, vi 3] [] rfl rfl (s_wt_4 rfl) rfl g4 k

theorem k459_26 {P : s_P} {d : Nat} {Q : s_O → Prop} {h : s_H} {kc ks : Nat} {r0 : Term} {x1 : Int} {t2 t3 : Term} {s0 : Int}  (k : Q (.inl (some (vi s0)), h, kc, ks))   : wr P d sw_c459 sw_h459 (26, [r0, vi x1, t2, t3], [vi s0], h, kc, ks) Q := by
  exact w_iret rfl k

theorem k459_27 {P : s_P} {d : Nat} {Q : s_O → Prop} {h : s_H} {kc ks : Nat} {r0 : Term} {x1 : Int} {t2 t3 : Term} {q2 : Nat} {f3 : List Term} (g4 : s_get h q2 = some (1, 11, f3)) (k : wm P d 439 [.index q2] h (wq P d sw_c459 sw_h459 31 [.index q2, vi x1, t2, t3] [] kc ks Q)) (e_q2 : r0 = .index q2 := by first | rfl | assumption) (y1 : s_ty r0 = 3 := by first | rfl | assumption)  : wr P d sw_c459 sw_h459 (27, [r0, vi x1, t2, t3], [], h, kc, ks) Q := by
  refine w_ld rfl rfl (Or.inr (Or.inr ⟨by decide, y1⟩)) ?_
  subst e_q2
  exact w_cv rfl [.index q2] [] rfl rfl (s_wt_4 rfl) rfl g4 k

theorem k459_31 {P : s_P} {d : Nat} {Q : s_O → Prop} {h : s_H} {kc ks : Nat} {r0 : Term} {x1 : Int} {t2 t3 : Term}  (k : wr P d sw_c459 sw_h459 (34, [r0, vi x1, vi 12, t3], [], h, kc, ks) Q)   : wr P d sw_c459 sw_h459 (31, [r0, vi x1, t2, t3], [], h, kc, ks) Q := by
  refine w_c32 rfl (by decide) 12 (by decide) ?_
  refine w_st (ls' := [r0, vi x1, vi 12, t3]) rfl (Or.inl ⟨by decide, rfl⟩) rfl ?_
  exact k

theorem k459_34 {P : s_P} {d : Nat} {Q : s_O → Prop} {h : s_H} {kc ks : Nat} {r0 : Term} {x1 x2 : Int} {t3 : Term}  (k1 : 25 ≤ x2 → wr P d sw_c459 sw_h459 (109, [r0, vi x1, vi x2, t3], [], h, kc, ks) Q) (k2 : ¬ 25 ≤ x2 → wr P d sw_c459 sw_h459 (40, [r0, vi x1, vi x2, t3], [], h, kc, ks) Q)  (c1 : In3 x2 := by first | omega | assumption | (simp only [mk_len, List.length_map]; omega) | decide) : wr P d sw_c459 sw_h459 (34, [r0, vi x1, vi x2, t3], [], h, kc, ks) Q := by
  refine w_ld rfl rfl (Or.inl ⟨by decide, rfl⟩) ?_
  refine w_c32 rfl (by decide) 25 (by decide) ?_
  exact w_if2 rfl c1 (by decide) k1 k2

theorem k459_40 {P : s_P} {d : Nat} {Q : s_O → Prop} {h : s_H} {kc ks : Nat} {r0 : Term} {x1 x2 : Int} {t3 : Term}  (k : wr P d sw_c459 sw_h459 (42, [r0, vi x1, vi x2, vi 1], [], h, kc, ks) Q)   : wr P d sw_c459 sw_h459 (40, [r0, vi x1, vi x2, t3], [], h, kc, ks) Q := by
  refine w_c32 rfl (by decide) 1 (by decide) ?_
  refine w_st (ls' := [r0, vi x1, vi x2, vi 1]) rfl (Or.inl ⟨by decide, rfl⟩) rfl ?_
  exact k

theorem k459_42 {P : s_P} {d : Nat} {Q : s_O → Prop} {h : s_H} {kc ks : Nat} {r0 : Term} {x1 x2 x3 : Int}  (k1 : 13 ≤ x3 → wr P d sw_c459 sw_h459 (78, [r0, vi x1, vi x2, vi x3], [], h, kc, ks) Q) (k2 : ¬ 13 ≤ x3 → wr P d sw_c459 sw_h459 (48, [r0, vi x1, vi x2, vi x3], [], h, kc, ks) Q)  (c1 : In3 x3 := by first | omega | assumption | (simp only [mk_len, List.length_map]; omega) | decide) : wr P d sw_c459 sw_h459 (42, [r0, vi x1, vi x2, vi x3], [], h, kc, ks) Q := by
  refine w_ld rfl rfl (Or.inl ⟨by decide, rfl⟩) ?_
  refine w_c32 rfl (by decide) 13 (by decide) ?_
  exact w_if2 rfl c1 (by decide) k1 k2

theorem k459_48 {P : s_P} {d : Nat} {Q : s_O → Prop} {h : s_H} {kc ks : Nat} {r0 : Term} {x1 x2 x3 : Int} {q2 : Nat} {f3 : List Term} {v5 v7 : Term} {q9 : Nat} {a10 : List Int} {q15 : Nat} {a16 : List Int} (g4 : s_get h q2 = some (1, 11, f3)) (g11 : s_get h q9 = some (0, 1, a10.map vl)) (g17 : s_get h q15 = some (0, 1, a16.map vl)) (k : wr P d sw_c459 sw_h459 (42, [.index q2, vi x1, vi x2, vi (x3 + 1)], [], (hp h q15 (0, 1, (a16.set (Int.toNat (((48 * (x2 - 12)) + x3) - 1)) (gi a10 (x2 - x3))).map vl)), kc, ks) Q) (e_q2 : r0 = .index q2 := by first | rfl | assumption) (e_q9 : v7 = .index q9 := by first | rfl | assumption) (e_q15 : v5 = .index q15 := by first | rfl | assumption) (y1 : s_ty r0 = 3 := by first | rfl | assumption) (n6 : s_nth f3 30 = some v5 := by first | rfl | assumption) (n8 : s_nth f3 10 = some v7 := by first | rfl | assumption) (c12 : x2 - x3 < a10.length := by first | omega | assumption | (simp only [mk_len, List.length_map]; omega) | decide) (c13 : 0 ≤ x2 - x3 := by first | omega | assumption | (simp only [mk_len, List.length_map]; omega) | decide) (c14 : In3 (x2 - x3) := by first | omega | assumption | (simp only [mk_len, List.length_map]; omega) | decide) (c18 : ((48 * (x2 - 12)) + x3) - 1 < a16.length := by first | omega | assumption | (simp only [mk_len, List.length_map]; omega) | decide) (c19 : 0 ≤ ((48 * (x2 - 12)) + x3) - 1 := by first | omega | assumption | (simp only [mk_len, List.length_map]; omega) | decide) (c20 : In3 (((48 * (x2 - 12)) + x3) - 1) := by first | omega | assumption | (simp only [mk_len, List.length_map]; omega) | decide) (c21 : 0 < q15 := by first | omega | assumption | (simp only [mk_len, List.length_map]; omega) | decide) : wr P d sw_c459 sw_h459 (48, [r0, vi x1, vi x2, vi x3], [], h, kc, ks) Q := by
  refine w_ld rfl rfl (Or.inr (Or.inr ⟨by decide, y1⟩)) ?_
  subst e_q2
  refine w_getf rfl g4 n6 ?_
  refine w_c32 rfl (by decide) 48 (by decide) ?_
  refine w_ld rfl rfl (Or.inl ⟨by decide, rfl⟩) ?_
  refine w_c32 rfl (by decide) 12 (by decide) ?_
  refine w_isub rfl ?_
  refine w_imul rfl ?_
  refine w_ld rfl rfl (Or.inl ⟨by decide, rfl⟩) ?_
  refine w_iadd rfl ?_
  refine w_c32 rfl (by decide) 1 (by decide) ?_
  refine w_isub rfl ?_
  refine w_ld rfl rfl (Or.inr (Or.inr ⟨by decide, rfl⟩)) ?_
  refine w_getf rfl g4 n8 ?_
  refine w_ld rfl rfl (Or.inl ⟨by decide, rfl⟩) ?_
  refine w_ld rfl rfl (Or.inl ⟨by decide, rfl⟩) ?_
  refine w_isub rfl ?_
  subst e_q9
  refine w_lald rfl g11 c14 c13 c12 ?_
  subst e_q15
  refine w_last rfl g17 (Nat.ble_eq_true_of_le c21) c20 c19 c18 ?_
  refine w_iinc (ls' := [.index q2, vi x1, vi x2, vi (x3 + 1)]) rfl rfl 1 (by decide) rfl ?_
  refine w_goto rfl ?_
  exact k

theorem k459_78 {P : s_P} {d : Nat} {Q : s_O → Prop} {h : s_H} {kc ks : Nat} {r0 : Term} {x1 x2 x3 : Int} {q2 : Nat} {f3 : List Term} {v5 v7 : Term} {q9 : Nat} {a10 : List Int} (g4 : s_get h q2 = some (1, 11, f3)) (g11 : s_get h q9 = some (0, 1, a10.map vl)) (k : wm P d 528 [vl (-(gi a10 x2))] h (wq P d sw_c459 sw_h459 102 [.index q2, vi x1, vi x2, vi x3] [vi ((48 * (x2 - 12)) + 47), v5] kc ks Q)) (e_q2 : r0 = .index q2 := by first | rfl | assumption) (e_q9 : v7 = .index q9 := by first | rfl | assumption) (y1 : s_ty r0 = 3 := by first | rfl | assumption) (n6 : s_nth f3 30 = some v5 := by first | rfl | assumption) (n8 : s_nth f3 10 = some v7 := by first | rfl | assumption) (c12 : x2 < a10.length := by first | omega | assumption | (simp only [mk_len, List.length_map]; omega) | decide) (c13 : 0 ≤ x2 := by first | omega | assumption | (simp only [mk_len, List.length_map]; omega) | decide) (c14 : In3 x2 := by first | omega | assumption | (simp only [mk_len, List.length_map]; omega) | decide) : wr P d sw_c459 sw_h459 (78, [r0, vi x1, vi x2, vi x3], [], h, kc, ks) Q := by
  refine w_ld rfl rfl (Or.inr (Or.inr ⟨by decide, y1⟩)) ?_
  subst e_q2
  refine w_getf rfl g4 n6 ?_
  refine w_c32 rfl (by decide) 48 (by decide) ?_
  refine w_ld rfl rfl (Or.inl ⟨by decide, rfl⟩) ?_
  refine w_c32 rfl (by decide) 12 (by decide) ?_
  refine w_isub rfl ?_
  refine w_imul rfl ?_
  refine w_c32 rfl (by decide) 47 (by decide) ?_
  refine w_iadd rfl ?_
  refine w_ld rfl rfl (Or.inr (Or.inr ⟨by decide, rfl⟩)) ?_
  refine w_getf rfl g4 n8 ?_
  refine w_ld rfl rfl (Or.inl ⟨by decide, rfl⟩) ?_
  subst e_q9
  refine w_lald rfl g11 c14 c13 c12 ?_
  refine w_lneg rfl ?_
  exact w_cs rfl [vl (-(gi a10 x2))] [vi ((48 * (x2 - 12)) + 47), v5] rfl rfl (s_wt_4 rfl) k

theorem k459_102 {P : s_P} {d : Nat} {Q : s_O → Prop} {h : s_H} {kc ks : Nat} {r0 : Term} {x1 x2 x3 : Int} {s0 : Term} {s1 s2 : Int} {q1 : Nat} {a2 : List Int} (g3 : s_get h q1 = some (0, 1, a2.map vl)) (k : wr P d sw_c459 sw_h459 (34, [r0, vi x1, vi (x2 + 1), vi x3], [], (hp h q1 (0, 1, (a2.set (Int.toNat (s1)) s2).map vl)), kc, ks) Q) (e_q1 : s0 = .index q1 := by first | rfl | assumption) (c4 : s1 < a2.length := by first | omega | assumption | (simp only [mk_len, List.length_map]; omega) | decide) (c5 : 0 ≤ s1 := by first | omega | assumption | (simp only [mk_len, List.length_map]; omega) | decide) (c6 : In3 s1 := by first | omega | assumption | (simp only [mk_len, List.length_map]; omega) | decide) (c7 : 0 < q1 := by first | omega | assumption | (simp only [mk_len, List.length_map]; omega) | decide) : wr P d sw_c459 sw_h459 (102, [r0, vi x1, vi x2, vi x3], [vl s2, vi s1, s0], h, kc, ks) Q := by
  subst e_q1
  refine w_last rfl g3 (Nat.ble_eq_true_of_le c7) c6 c5 c4 ?_
  refine w_iinc (ls' := [r0, vi x1, vi (x2 + 1), vi x3]) rfl rfl 1 (by decide) rfl ?_
  refine w_goto rfl ?_
  exact k

theorem k459_109 {P : s_P} {d : Nat} {Q : s_O → Prop} {h : s_H} {kc ks : Nat} {r0 : Term} {x1 x2 : Int} {t3 : Term} {q2 : Nat} {f3 : List Term} (g4 : s_get h q2 = some (1, 11, f3)) (k : wm P d 417 [.index q2, vi 13, vi 12] h (wq P d sw_c459 sw_h459 117 [.index q2, vi x1, vi x2, t3] [] kc ks Q)) (e_q2 : r0 = .index q2 := by first | rfl | assumption) (y1 : s_ty r0 = 3 := by first | rfl | assumption)  : wr P d sw_c459 sw_h459 (109, [r0, vi x1, vi x2, t3], [], h, kc, ks) Q := by
  refine w_ld rfl rfl (Or.inr (Or.inr ⟨by decide, y1⟩)) ?_
  refine w_c32 rfl (by decide) 13 (by decide) ?_
  refine w_c32 rfl (by decide) 12 (by decide) ?_
  subst e_q2
  exact w_cv rfl [.index q2, vi 13, vi 12] [] rfl rfl (s_wt_4 rfl) rfl g4 k

theorem k459_117 {P : s_P} {d : Nat} {Q : s_O → Prop} {h : s_H} {kc ks : Nat} {r0 : Term} {x1 x2 : Int} {t3 : Term} {q2 : Nat} {f3 : List Term} {z5 : Int} (g4 : s_get h q2 = some (1, 11, f3)) (k : wr P d sw_c459 sw_h459 (122, [.index q2, vi x1, vi z5, t3], [], h, kc, ks) Q) (e_q2 : r0 = .index q2 := by first | rfl | assumption) (y1 : s_ty r0 = 3 := by first | rfl | assumption) (n6 : s_nth f3 37 = some (vi z5) := by first | rfl | assumption)  : wr P d sw_c459 sw_h459 (117, [r0, vi x1, vi x2, t3], [], h, kc, ks) Q := by
  refine w_ld rfl rfl (Or.inr (Or.inr ⟨by decide, y1⟩)) ?_
  subst e_q2
  refine w_getf rfl g4 n6 ?_
  refine w_st (ls' := [.index q2, vi x1, vi z5, t3]) rfl (Or.inl ⟨by decide, rfl⟩) rfl ?_
  exact k

theorem k459_122 {P : s_P} {d : Nat} {Q : s_O → Prop} {h : s_H} {kc ks : Nat} {r0 : Term} {x1 x2 : Int} {t3 : Term}  (k1 : 13 ≤ x2 → wr P d sw_c459 sw_h459 (153, [r0, vi x1, vi x2, t3], [], h, kc, ks) Q) (k2 : ¬ 13 ≤ x2 → wr P d sw_c459 sw_h459 (128, [r0, vi x1, vi x2, t3], [], h, kc, ks) Q)  (c1 : In3 x2 := by first | omega | assumption | (simp only [mk_len, List.length_map]; omega) | decide) : wr P d sw_c459 sw_h459 (122, [r0, vi x1, vi x2, t3], [], h, kc, ks) Q := by
  refine w_ld rfl rfl (Or.inl ⟨by decide, rfl⟩) ?_
  refine w_c32 rfl (by decide) 13 (by decide) ?_
  exact w_if2 rfl c1 (by decide) k1 k2

theorem k459_128 {P : s_P} {d : Nat} {Q : s_O → Prop} {h : s_H} {kc ks : Nat} {r0 : Term} {x1 x2 : Int} {t3 : Term} {q2 : Nat} {f3 : List Term} {v5 : Term} {q7 : Nat} {a8 : List Int} (g4 : s_get h q2 = some (1, 11, f3)) (g9 : s_get h q7 = some (0, 1, a8.map vl)) (k1 : gi a8 ((48 * x2) + 47) = 0 → wr P d sw_c459 sw_h459 (147, [.index q2, vi x1, vi x2, t3], [], h, kc, ks) Q) (k2 : ¬ gi a8 ((48 * x2) + 47) = 0 → wr P d sw_c459 sw_h459 (145, [.index q2, vi x1, vi x2, t3], [], h, kc, ks) Q) (e_q2 : r0 = .index q2 := by first | rfl | assumption) (e_q7 : v5 = .index q7 := by first | rfl | assumption) (y1 : s_ty r0 = 3 := by first | rfl | assumption) (n6 : s_nth f3 30 = some v5 := by first | rfl | assumption) (c10 : (48 * x2) + 47 < a8.length := by first | omega | assumption | (simp only [mk_len, List.length_map]; omega) | decide) (c11 : 0 ≤ (48 * x2) + 47 := by first | omega | assumption | (simp only [mk_len, List.length_map]; omega) | decide) (c12 : In3 ((48 * x2) + 47) := by first | omega | assumption | (simp only [mk_len, List.length_map]; omega) | decide) (c13 : In6 (gi a8 ((48 * x2) + 47)) := by first | omega | assumption | (simp only [mk_len, List.length_map]; omega) | decide) : wr P d sw_c459 sw_h459 (128, [r0, vi x1, vi x2, t3], [], h, kc, ks) Q := by
  refine w_ld rfl rfl (Or.inr (Or.inr ⟨by decide, y1⟩)) ?_
  subst e_q2
  refine w_getf rfl g4 n6 ?_
  refine w_c32 rfl (by decide) 48 (by decide) ?_
  refine w_ld rfl rfl (Or.inl ⟨by decide, rfl⟩) ?_
  refine w_imul rfl ?_
  refine w_c32 rfl (by decide) 47 (by decide) ?_
  refine w_iadd rfl ?_
  subst e_q7
  refine w_lald rfl g9 c12 c11 c10 ?_
  refine w_c64 rfl (by decide) 0 (by decide) ?_
  exact w_lcmp rfl rfl c13 (by decide) k1 k2

theorem k459_145 {P : s_P} {d : Nat} {Q : s_O → Prop} {h : s_H} {kc ks : Nat} {r0 : Term} {x1 x2 : Int} {t3 : Term}  (k : Q (.inl (some (vi (-1))), h, kc, ks))   : wr P d sw_c459 sw_h459 (145, [r0, vi x1, vi x2, t3], [], h, kc, ks) Q := by
  refine w_c32 rfl (by decide) (-1) (by decide) ?_
  exact w_iret rfl k

theorem k459_147 {P : s_P} {d : Nat} {Q : s_O → Prop} {h : s_H} {kc ks : Nat} {r0 : Term} {x1 x2 : Int} {t3 : Term}  (k : wr P d sw_c459 sw_h459 (122, [r0, vi x1, vi (x2 + 1), t3], [], h, kc, ks) Q)   : wr P d sw_c459 sw_h459 (147, [r0, vi x1, vi x2, t3], [], h, kc, ks) Q := by
  refine w_iinc (ls' := [r0, vi x1, vi (x2 + 1), t3]) rfl rfl 1 (by decide) rfl ?_
  refine w_goto rfl ?_
  exact k

theorem k459_153 {P : s_P} {d : Nat} {Q : s_O → Prop} {h : s_H} {kc ks : Nat} {r0 : Term} {x1 x2 : Int} {t3 : Term} {q2 : Nat} {f3 : List Term} {v5 : Term} (g4 : s_get h q2 = some (1, 11, f3)) (k : wm P d 405 [v5, vl 1] h (wq P d sw_c459 sw_h459 161 [.index q2, vi x1, vi x2, t3] [] kc ks Q)) (e_q2 : r0 = .index q2 := by first | rfl | assumption) (y1 : s_ty r0 = 3 := by first | rfl | assumption) (n6 : s_nth f3 15 = some v5 := by first | rfl | assumption)  : wr P d sw_c459 sw_h459 (153, [r0, vi x1, vi x2, t3], [], h, kc, ks) Q := by
  refine w_ld rfl rfl (Or.inr (Or.inr ⟨by decide, y1⟩)) ?_
  subst e_q2
  refine w_getf rfl g4 n6 ?_
  refine w_c64 rfl (by decide) 1 (by decide) ?_
  exact w_cs rfl [v5, vl 1] [] rfl rfl (s_wt_4 rfl) k

theorem k459_161 {P : s_P} {d : Nat} {Q : s_O → Prop} {h : s_H} {kc ks : Nat} {r0 : Term} {x1 x2 : Int} {t3 : Term}  (k : wr P d sw_c459 sw_h459 (163, [r0, vi x1, vi 1, t3], [], h, kc, ks) Q)   : wr P d sw_c459 sw_h459 (161, [r0, vi x1, vi x2, t3], [], h, kc, ks) Q := by
  refine w_c32 rfl (by decide) 1 (by decide) ?_
  refine w_st (ls' := [r0, vi x1, vi 1, t3]) rfl (Or.inl ⟨by decide, rfl⟩) rfl ?_
  exact k

theorem k459_163 {P : s_P} {d : Nat} {Q : s_O → Prop} {h : s_H} {kc ks : Nat} {r0 : Term} {x1 x2 : Int} {t3 : Term}  (k1 : 13 ≤ x2 → wr P d sw_c459 sw_h459 (212, [r0, vi x1, vi x2, t3], [], h, kc, ks) Q) (k2 : ¬ 13 ≤ x2 → wr P d sw_c459 sw_h459 (169, [r0, vi x1, vi x2, t3], [], h, kc, ks) Q)  (c1 : In3 x2 := by first | omega | assumption | (simp only [mk_len, List.length_map]; omega) | decide) : wr P d sw_c459 sw_h459 (163, [r0, vi x1, vi x2, t3], [], h, kc, ks) Q := by
  refine w_ld rfl rfl (Or.inl ⟨by decide, rfl⟩) ?_
  refine w_c32 rfl (by decide) 13 (by decide) ?_
  exact w_if2 rfl c1 (by decide) k1 k2

theorem k459_169 {P : s_P} {d : Nat} {Q : s_O → Prop} {h : s_H} {kc ks : Nat} {r0 : Term} {x1 x2 : Int} {t3 : Term} {q2 : Nat} {f3 : List Term} {v5 : Term} {q7 : Nat} {a8 : List Int} (g4 : s_get h q2 = some (1, 11, f3)) (g9 : s_get h q7 = some (0, 0, a8.map vi)) (k1 : gi a8 (x2 - 1) = (-1) → wr P d sw_c459 sw_h459 (206, [.index q2, vi x1, vi x2, t3], [], h, kc, ks) Q) (k2 : ¬ gi a8 (x2 - 1) = (-1) → wr P d sw_c459 sw_h459 (181, [.index q2, vi x1, vi x2, t3], [], h, kc, ks) Q) (e_q2 : r0 = .index q2 := by first | rfl | assumption) (e_q7 : v5 = .index q7 := by first | rfl | assumption) (y1 : s_ty r0 = 3 := by first | rfl | assumption) (n6 : s_nth f3 31 = some v5 := by first | rfl | assumption) (c10 : x2 - 1 < a8.length := by first | omega | assumption | (simp only [mk_len, List.length_map]; omega) | decide) (c11 : 0 ≤ x2 - 1 := by first | omega | assumption | (simp only [mk_len, List.length_map]; omega) | decide) (c12 : In3 (x2 - 1) := by first | omega | assumption | (simp only [mk_len, List.length_map]; omega) | decide) (c13 : In3 (gi a8 (x2 - 1)) := by first | omega | assumption | (simp only [mk_len, List.length_map]; omega) | decide) : wr P d sw_c459 sw_h459 (169, [r0, vi x1, vi x2, t3], [], h, kc, ks) Q := by
  refine w_ld rfl rfl (Or.inr (Or.inr ⟨by decide, y1⟩)) ?_
  subst e_q2
  refine w_getf rfl g4 n6 ?_
  refine w_ld rfl rfl (Or.inl ⟨by decide, rfl⟩) ?_
  refine w_c32 rfl (by decide) 1 (by decide) ?_
  refine w_isub rfl ?_
  subst e_q7
  refine w_iald rfl g9 (Or.inl rfl) c12 c11 c10 ?_
  refine w_c32 rfl (by decide) (-1) (by decide) ?_
  exact w_if2 rfl c13 (by decide) k1 k2

theorem k459_181 {P : s_P} {d : Nat} {Q : s_O → Prop} {h : s_H} {kc ks : Nat} {r0 : Term} {x1 x2 : Int} {t3 : Term} {q2 : Nat} {f3 : List Term} {v5 v7 v9 : Term} {q11 : Nat} {a12 : List Int} {q17 : Nat} {a18 : List Int} {q23 : Nat} {a24 : List Int} (g4 : s_get h q2 = some (1, 11, f3)) (g13 : s_get h q11 = some (0, 0, a12.map vi)) (g19 : s_get h q17 = some (0, 1, a18.map vl)) (g25 : s_get h q23 = some (0, 1, a24.map vl)) (k : wr P d sw_c459 sw_h459 (206, [.index q2, vi x1, vi x2, t3], [], (hp h q23 (0, 1, (a24.set (Int.toNat (x2)) (gi a18 ((48 * (gi a12 (x2 - 1))) + 47))).map vl)), kc, ks) Q) (e_q2 : r0 = .index q2 := by first | rfl | assumption) (e_q11 : v9 = .index q11 := by first | rfl | assumption) (e_q17 : v7 = .index q17 := by first | rfl | assumption) (e_q23 : v5 = .index q23 := by first | rfl | assumption) (y1 : s_ty r0 = 3 := by first | rfl | assumption) (n6 : s_nth f3 15 = some v5 := by first | rfl | assumption) (n8 : s_nth f3 30 = some v7 := by first | rfl | assumption) (n10 : s_nth f3 31 = some v9 := by first | rfl | assumption) (c14 : x2 - 1 < a12.length := by first | omega | assumption | (simp only [mk_len, List.length_map]; omega) | decide) (c15 : 0 ≤ x2 - 1 := by first | omega | assumption | (simp only [mk_len, List.length_map]; omega) | decide) (c16 : In3 (x2 - 1) := by first | omega | assumption | (simp only [mk_len, List.length_map]; omega) | decide) (c20 : (48 * (gi a12 (x2 - 1))) + 47 < a18.length := by first | omega | assumption | (simp only [mk_len, List.length_map]; omega) | decide) (c21 : 0 ≤ (48 * (gi a12 (x2 - 1))) + 47 := by first | omega | assumption | (simp only [mk_len, List.length_map]; omega) | decide) (c22 : In3 ((48 * (gi a12 (x2 - 1))) + 47) := by first | omega | assumption | (simp only [mk_len, List.length_map]; omega) | decide) (c26 : x2 < a24.length := by first | omega | assumption | (simp only [mk_len, List.length_map]; omega) | decide) (c27 : 0 ≤ x2 := by first | omega | assumption | (simp only [mk_len, List.length_map]; omega) | decide) (c28 : In3 x2 := by first | omega | assumption | (simp only [mk_len, List.length_map]; omega) | decide) (c29 : 0 < q23 := by first | omega | assumption | (simp only [mk_len, List.length_map]; omega) | decide) : wr P d sw_c459 sw_h459 (181, [r0, vi x1, vi x2, t3], [], h, kc, ks) Q := by
  refine w_ld rfl rfl (Or.inr (Or.inr ⟨by decide, y1⟩)) ?_
  subst e_q2
  refine w_getf rfl g4 n6 ?_
  refine w_ld rfl rfl (Or.inl ⟨by decide, rfl⟩) ?_
  refine w_ld rfl rfl (Or.inr (Or.inr ⟨by decide, rfl⟩)) ?_
  refine w_getf rfl g4 n8 ?_
  refine w_c32 rfl (by decide) 48 (by decide) ?_
  refine w_ld rfl rfl (Or.inr (Or.inr ⟨by decide, rfl⟩)) ?_
  refine w_getf rfl g4 n10 ?_
  refine w_ld rfl rfl (Or.inl ⟨by decide, rfl⟩) ?_
  refine w_c32 rfl (by decide) 1 (by decide) ?_
  refine w_isub rfl ?_
  subst e_q11
  refine w_iald rfl g13 (Or.inl rfl) c16 c15 c14 ?_
  refine w_imul rfl ?_
  refine w_c32 rfl (by decide) 47 (by decide) ?_
  refine w_iadd rfl ?_
  subst e_q17
  refine w_lald rfl g19 c22 c21 c20 ?_
  subst e_q23
  refine w_last rfl g25 (Nat.ble_eq_true_of_le c29) c28 c27 c26 ?_
  exact k

theorem k459_206 {P : s_P} {d : Nat} {Q : s_O → Prop} {h : s_H} {kc ks : Nat} {r0 : Term} {x1 x2 : Int} {t3 : Term}  (k : wr P d sw_c459 sw_h459 (163, [r0, vi x1, vi (x2 + 1), t3], [], h, kc, ks) Q)   : wr P d sw_c459 sw_h459 (206, [r0, vi x1, vi x2, t3], [], h, kc, ks) Q := by
  refine w_iinc (ls' := [r0, vi x1, vi (x2 + 1), t3]) rfl rfl 1 (by decide) rfl ?_
  refine w_goto rfl ?_
  exact k

theorem k459_212 {P : s_P} {d : Nat} {Q : s_O → Prop} {h : s_H} {kc ks : Nat} {r0 : Term} {x1 x2 : Int} {t3 : Term} {q2 : Nat} {f3 : List Term} {v5 v7 : Term} (g4 : s_get h q2 = some (1, 11, f3)) (k : wm P d 531 [.index q2, v5, v7] h (wq P d sw_c459 sw_h459 224 [.index q2, vi x1, vi x2, t3] [] kc ks Q)) (e_q2 : r0 = .index q2 := by first | rfl | assumption) (y1 : s_ty r0 = 3 := by first | rfl | assumption) (n6 : s_nth f3 10 = some v5 := by first | rfl | assumption) (n8 : s_nth f3 15 = some v7 := by first | rfl | assumption)  : wr P d sw_c459 sw_h459 (212, [r0, vi x1, vi x2, t3], [], h, kc, ks) Q := by
  refine w_ld rfl rfl (Or.inr (Or.inr ⟨by decide, y1⟩)) ?_
  refine w_ld rfl rfl (Or.inr (Or.inr ⟨by decide, y1⟩)) ?_
  subst e_q2
  refine w_getf rfl g4 n6 ?_
  refine w_ld rfl rfl (Or.inr (Or.inr ⟨by decide, rfl⟩)) ?_
  refine w_getf rfl g4 n8 ?_
  exact w_cv rfl [.index q2, v5, v7] [] rfl rfl (s_wt_4 rfl) rfl g4 k

theorem k459_224 {P : s_P} {d : Nat} {Q : s_O → Prop} {h : s_H} {kc ks : Nat} {r0 : Term} {x1 x2 : Int} {t3 : Term} {q2 : Nat} {f3 : List Term} {v5 : Term} (g4 : s_get h q2 = some (1, 11, f3)) (k : wm P d 438 [v5] h (wq P d sw_c459 sw_h459 231 [.index q2, vi x1, vi x2, t3] [] kc ks Q)) (e_q2 : r0 = .index q2 := by first | rfl | assumption) (y1 : s_ty r0 = 3 := by first | rfl | assumption) (n6 : s_nth f3 14 = some v5 := by first | rfl | assumption)  : wr P d sw_c459 sw_h459 (224, [r0, vi x1, vi x2, t3], [], h, kc, ks) Q := by
  refine w_ld rfl rfl (Or.inr (Or.inr ⟨by decide, y1⟩)) ?_
  subst e_q2
  refine w_getf rfl g4 n6 ?_
  exact w_cs rfl [v5] [] rfl rfl (s_wt_4 rfl) k

theorem k459_231 {P : s_P} {d : Nat} {Q : s_O → Prop} {h : s_H} {kc ks : Nat} {r0 : Term} {x1 x2 : Int} {t3 : Term}  (k : wr P d sw_c459 sw_h459 (233, [r0, vi x1, vi 0, t3], [], h, kc, ks) Q)   : wr P d sw_c459 sw_h459 (231, [r0, vi x1, vi x2, t3], [], h, kc, ks) Q := by
  refine w_c32 rfl (by decide) 0 (by decide) ?_
  refine w_st (ls' := [r0, vi x1, vi 0, t3]) rfl (Or.inl ⟨by decide, rfl⟩) rfl ?_
  exact k

theorem k459_233 {P : s_P} {d : Nat} {Q : s_O → Prop} {h : s_H} {kc ks : Nat} {r0 : Term} {x1 x2 : Int} {t3 : Term}  (k1 : 12 ≤ x2 → wr P d sw_c459 sw_h459 (257, [r0, vi x1, vi x2, t3], [], h, kc, ks) Q) (k2 : ¬ 12 ≤ x2 → wr P d sw_c459 sw_h459 (239, [r0, vi x1, vi x2, t3], [], h, kc, ks) Q)  (c1 : In3 x2 := by first | omega | assumption | (simp only [mk_len, List.length_map]; omega) | decide) : wr P d sw_c459 sw_h459 (233, [r0, vi x1, vi x2, t3], [], h, kc, ks) Q := by
  refine w_ld rfl rfl (Or.inl ⟨by decide, rfl⟩) ?_
  refine w_c32 rfl (by decide) 12 (by decide) ?_
  exact w_if2 rfl c1 (by decide) k1 k2

theorem k459_239 {P : s_P} {d : Nat} {Q : s_O → Prop} {h : s_H} {kc ks : Nat} {r0 : Term} {x1 x2 : Int} {t3 : Term} {q2 : Nat} {f3 : List Term} {v5 v7 : Term} {q9 : Nat} {a10 : List Int} {q15 : Nat} {a16 : List Int} (g4 : s_get h q2 = some (1, 11, f3)) (g11 : s_get h q9 = some (0, 1, a10.map vl)) (g17 : s_get h q15 = some (0, 1, a16.map vl)) (k : wr P d sw_c459 sw_h459 (233, [.index q2, vi x1, vi (x2 + 1), t3], [], (hp h q15 (0, 1, (a16.set (Int.toNat (x2)) (gi a10 x2)).map vl)), kc, ks) Q) (e_q2 : r0 = .index q2 := by first | rfl | assumption) (e_q9 : v7 = .index q9 := by first | rfl | assumption) (e_q15 : v5 = .index q15 := by first | rfl | assumption) (y1 : s_ty r0 = 3 := by first | rfl | assumption) (n6 : s_nth f3 14 = some v5 := by first | rfl | assumption) (n8 : s_nth f3 16 = some v7 := by first | rfl | assumption) (c12 : x2 < a10.length := by first | omega | assumption | (simp only [mk_len, List.length_map]; omega) | decide) (c13 : 0 ≤ x2 := by first | omega | assumption | (simp only [mk_len, List.length_map]; omega) | decide) (c14 : In3 x2 := by first | omega | assumption | (simp only [mk_len, List.length_map]; omega) | decide) (c18 : x2 < a16.length := by first | omega | assumption | (simp only [mk_len, List.length_map]; omega) | decide) (c19 : 0 < q15 := by first | omega | assumption | (simp only [mk_len, List.length_map]; omega) | decide) : wr P d sw_c459 sw_h459 (239, [r0, vi x1, vi x2, t3], [], h, kc, ks) Q := by
  refine w_ld rfl rfl (Or.inr (Or.inr ⟨by decide, y1⟩)) ?_
  subst e_q2
  refine w_getf rfl g4 n6 ?_
  refine w_ld rfl rfl (Or.inl ⟨by decide, rfl⟩) ?_
  refine w_ld rfl rfl (Or.inr (Or.inr ⟨by decide, rfl⟩)) ?_
  refine w_getf rfl g4 n8 ?_
  refine w_ld rfl rfl (Or.inl ⟨by decide, rfl⟩) ?_
  subst e_q9
  refine w_lald rfl g11 c14 c13 c12 ?_
  subst e_q15
  refine w_last rfl g17 (Nat.ble_eq_true_of_le c19) c14 c13 c18 ?_
  refine w_iinc (ls' := [.index q2, vi x1, vi (x2 + 1), t3]) rfl rfl 1 (by decide) rfl ?_
  refine w_goto rfl ?_
  exact k

theorem k459_257 {P : s_P} {d : Nat} {Q : s_O → Prop} {h : s_H} {kc ks : Nat} {r0 : Term} {x1 x2 : Int} {t3 : Term} {q2 : Nat} {f3 : List Term} (g4 : s_get h q2 = some (1, 11, f3)) (k : wm P d 516 [.index q2] h (wq P d sw_c459 sw_h459 261 [.index q2, vi x1, vi x2, t3] [] kc ks Q)) (e_q2 : r0 = .index q2 := by first | rfl | assumption) (y1 : s_ty r0 = 3 := by first | rfl | assumption)  : wr P d sw_c459 sw_h459 (257, [r0, vi x1, vi x2, t3], [], h, kc, ks) Q := by
  refine w_ld rfl rfl (Or.inr (Or.inr ⟨by decide, y1⟩)) ?_
  subst e_q2
  exact w_cv rfl [.index q2] [] rfl rfl (s_wt_4 rfl) rfl g4 k

theorem k459_261 {P : s_P} {d : Nat} {Q : s_O → Prop} {h : s_H} {kc ks : Nat} {r0 : Term} {x1 x2 : Int} {t3 : Term} {q2 : Nat} {f3 : List Term} (g4 : s_get h q2 = some (1, 11, f3)) (k : wm P d 495 [.index q2, vi 3] h (wq P d sw_c459 sw_h459 266 [.index q2, vi x1, vi x2, t3] [] kc ks Q)) (e_q2 : r0 = .index q2 := by first | rfl | assumption) (y1 : s_ty r0 = 3 := by first | rfl | assumption)  : wr P d sw_c459 sw_h459 (261, [r0, vi x1, vi x2, t3], [], h, kc, ks) Q := by
  refine w_ld rfl rfl (Or.inr (Or.inr ⟨by decide, y1⟩)) ?_
  refine w_c32 rfl (by decide) 3 (by decide) ?_
  subst e_q2
  exact w_cv rfl [.index q2, vi 3] [] rfl rfl (s_wt_4 rfl) rfl g4 k

theorem k459_266 {P : s_P} {d : Nat} {Q : s_O → Prop} {h : s_H} {kc ks : Nat} {r0 : Term} {x1 x2 : Int} {t3 : Term} {s0 : Int}  (k : Q (.inl (some (vi s0)), h, kc, ks))   : wr P d sw_c459 sw_h459 (266, [r0, vi x1, vi x2, t3], [vi s0], h, kc, ks) Q := by
  exact w_iret rfl k

/-! 460: FormulaWorksModel.hangs(I)I -/
theorem k460_0 {P : s_P} {d : Nat} {Q : s_O → Prop} {h : s_H} {kc ks : Nat} {r0 : Term} {x1 : Int} {t2 t3 t4 : Term} {q2 : Nat} {f3 : List Term} (g4 : s_get h q2 = some (1, 11, f3)) (k : wm P d 535 [.index q2, vi x1] h (wq P d sw_c460 sw_h460 5 [.index q2, vi x1, t2, t3, t4] [] kc ks Q)) (e_q2 : r0 = .index q2 := by first | rfl | assumption) (y1 : s_ty r0 = 3 := by first | rfl | assumption)  : wr P d sw_c460 sw_h460 (0, [r0, vi x1, t2, t3, t4], [], h, kc, ks) Q := by
  refine w_ld rfl rfl (Or.inr (Or.inr ⟨by decide, y1⟩)) ?_
  refine w_ld rfl rfl (Or.inl ⟨by decide, rfl⟩) ?_
  subst e_q2
  exact w_cv rfl [.index q2, vi x1] [] rfl rfl (s_wt_4 rfl) rfl g4 k

theorem k460_5 {P : s_P} {d : Nat} {Q : s_O → Prop} {h : s_H} {kc ks : Nat} {r0 : Term} {x1 : Int} {t2 t3 t4 : Term} {s0 : Int}  (k : wr P d sw_c460 sw_h460 (8, [r0, vi x1, vi s0, vi 0, t4], [], h, kc, ks) Q)   : wr P d sw_c460 sw_h460 (5, [r0, vi x1, t2, t3, t4], [vi s0], h, kc, ks) Q := by
  refine w_st (ls' := [r0, vi x1, vi s0, t3, t4]) rfl (Or.inl ⟨by decide, rfl⟩) rfl ?_
  refine w_c32 rfl (by decide) 0 (by decide) ?_
  refine w_st (ls' := [r0, vi x1, vi s0, vi 0, t4]) rfl (Or.inl ⟨by decide, rfl⟩) rfl ?_
  exact k

theorem k460_8 {P : s_P} {d : Nat} {Q : s_O → Prop} {h : s_H} {kc ks : Nat} {r0 : Term} {x1 x2 x3 : Int} {t4 : Term}  (k1 : 16 ≤ x3 → wr P d sw_c460 sw_h460 (59, [r0, vi x1, vi x2, vi x3, t4], [], h, kc, ks) Q) (k2 : ¬ 16 ≤ x3 → wr P d sw_c460 sw_h460 (14, [r0, vi x1, vi x2, vi x3, t4], [], h, kc, ks) Q)  (c1 : In3 x3 := by first | omega | assumption | (simp only [mk_len, List.length_map]; omega) | decide) : wr P d sw_c460 sw_h460 (8, [r0, vi x1, vi x2, vi x3, t4], [], h, kc, ks) Q := by
  refine w_ld rfl rfl (Or.inl ⟨by decide, rfl⟩) ?_
  refine w_c32 rfl (by decide) 16 (by decide) ?_
  exact w_if2 rfl c1 (by decide) k1 k2

theorem k460_14 {P : s_P} {d : Nat} {Q : s_O → Prop} {h : s_H} {kc ks : Nat} {r0 : Term} {x1 x2 x3 : Int} {t4 : Term}  (k : wr P d sw_c460 sw_h460 (17, [r0, vi x1, vi x2, vi x3, vi 0], [], h, kc, ks) Q)   : wr P d sw_c460 sw_h460 (14, [r0, vi x1, vi x2, vi x3, t4], [], h, kc, ks) Q := by
  refine w_c32 rfl (by decide) 0 (by decide) ?_
  refine w_st (ls' := [r0, vi x1, vi x2, vi x3, vi 0]) rfl (Or.inl ⟨by decide, rfl⟩) rfl ?_
  exact k

theorem k460_17 {P : s_P} {d : Nat} {Q : s_O → Prop} {h : s_H} {kc ks : Nat} {r0 : Term} {x1 x2 x3 x4 : Int}  (k1 : 16 ≤ x4 → wr P d sw_c460 sw_h460 (53, [r0, vi x1, vi x2, vi x3, vi x4], [], h, kc, ks) Q) (k2 : ¬ 16 ≤ x4 → wr P d sw_c460 sw_h460 (24, [r0, vi x1, vi x2, vi x3, vi x4], [], h, kc, ks) Q)  (c1 : In3 x4 := by first | omega | assumption | (simp only [mk_len, List.length_map]; omega) | decide) : wr P d sw_c460 sw_h460 (17, [r0, vi x1, vi x2, vi x3, vi x4], [], h, kc, ks) Q := by
  refine w_ld rfl rfl (Or.inl ⟨by decide, rfl⟩) ?_
  refine w_c32 rfl (by decide) 16 (by decide) ?_
  exact w_if2 rfl c1 (by decide) k1 k2

theorem k460_24 {P : s_P} {d : Nat} {Q : s_O → Prop} {h : s_H} {kc ks : Nat} {r0 : Term} {x1 x2 x3 x4 : Int}  (k1 : zi 24 (zi 28 x2 x4) 1 ≠ 1 → wr P d sw_c460 sw_h460 (44, [r0, vi x1, vi x2, vi x3, vi x4], [vi x2], h, kc, ks) Q) (k2 : ¬ zi 24 (zi 28 x2 x4) 1 ≠ 1 → wr P d sw_c460 sw_h460 (35, [r0, vi x1, vi x2, vi x3, vi x4], [vi x2], h, kc, ks) Q)  (c1 : In3 (zi 24 (zi 28 x2 x4) 1) := by first | omega | assumption | (simp only [mk_len, List.length_map]; omega) | decide) : wr P d sw_c460 sw_h460 (24, [r0, vi x1, vi x2, vi x3, vi x4], [], h, kc, ks) Q := by
  refine w_ld rfl rfl (Or.inl ⟨by decide, rfl⟩) ?_
  refine w_ld rfl rfl (Or.inl ⟨by decide, rfl⟩) ?_
  refine w_ld rfl rfl (Or.inl ⟨by decide, rfl⟩) ?_
  refine w_ib rfl (by decide) ?_
  refine w_c32 rfl (by decide) 1 (by decide) ?_
  refine w_ib rfl (by decide) ?_
  refine w_c32 rfl (by decide) 1 (by decide) ?_
  exact w_if2 rfl c1 (by decide) k1 k2

theorem k460_35 {P : s_P} {d : Nat} {Q : s_O → Prop} {h : s_H} {kc ks : Nat} {r0 : Term} {x1 x2 x3 x4 s0 : Int} {q2 : Nat} {f3 : List Term} (g4 : s_get h q2 = some (1, 11, f3)) (k : wm P d 535 [.index q2, vi x4] h (wq P d sw_c460 sw_h460 41 [.index q2, vi x1, vi x2, vi x3, vi x4] [vi s0] kc ks Q)) (e_q2 : r0 = .index q2 := by first | rfl | assumption) (y1 : s_ty r0 = 3 := by first | rfl | assumption)  : wr P d sw_c460 sw_h460 (35, [r0, vi x1, vi x2, vi x3, vi x4], [vi s0], h, kc, ks) Q := by
  refine w_ld rfl rfl (Or.inr (Or.inr ⟨by decide, y1⟩)) ?_
  refine w_ld rfl rfl (Or.inl ⟨by decide, rfl⟩) ?_
  subst e_q2
  exact w_cv rfl [.index q2, vi x4] [vi s0] rfl rfl (s_wt_4 rfl) rfl g4 k

theorem k460_41 {P : s_P} {d : Nat} {Q : s_O → Prop} {h : s_H} {kc ks : Nat} {r0 : Term} {x1 x2 x3 x4 s0 s1 : Int}  (k : wr P d sw_c460 sw_h460 (45, [r0, vi x1, vi x2, vi x3, vi x4], [vi s1, vi s0], h, kc, ks) Q)   : wr P d sw_c460 sw_h460 (41, [r0, vi x1, vi x2, vi x3, vi x4], [vi s1, vi s0], h, kc, ks) Q := by
  refine w_goto rfl ?_
  exact k

theorem k460_44 {P : s_P} {d : Nat} {Q : s_O → Prop} {h : s_H} {kc ks : Nat} {r0 : Term} {x1 x2 x3 x4 s0 : Int}  (k : wr P d sw_c460 sw_h460 (45, [r0, vi x1, vi x2, vi x3, vi x4], [vi 0, vi s0], h, kc, ks) Q)   : wr P d sw_c460 sw_h460 (44, [r0, vi x1, vi x2, vi x3, vi x4], [vi s0], h, kc, ks) Q := by
  refine w_c32 rfl (by decide) 0 (by decide) ?_
  exact k

theorem k460_45 {P : s_P} {d : Nat} {Q : s_O → Prop} {h : s_H} {kc ks : Nat} {r0 : Term} {x1 x2 x3 x4 s0 s1 : Int}  (k : wr P d sw_c460 sw_h460 (17, [r0, vi x1, vi (zi 25 s0 s1), vi x3, vi (x4 + 1)], [], h, kc, ks) Q)   : wr P d sw_c460 sw_h460 (45, [r0, vi x1, vi x2, vi x3, vi x4], [vi s1, vi s0], h, kc, ks) Q := by
  refine w_ib rfl (by decide) ?_
  refine w_st (ls' := [r0, vi x1, vi (zi 25 s0 s1), vi x3, vi x4]) rfl (Or.inl ⟨by decide, rfl⟩) rfl ?_
  refine w_iinc (ls' := [r0, vi x1, vi (zi 25 s0 s1), vi x3, vi (x4 + 1)]) rfl rfl 1 (by decide) rfl ?_
  refine w_goto rfl ?_
  exact k

theorem k460_53 {P : s_P} {d : Nat} {Q : s_O → Prop} {h : s_H} {kc ks : Nat} {r0 : Term} {x1 x2 x3 x4 : Int}  (k : wr P d sw_c460 sw_h460 (8, [r0, vi x1, vi x2, vi (x3 + 1), vi x4], [], h, kc, ks) Q)   : wr P d sw_c460 sw_h460 (53, [r0, vi x1, vi x2, vi x3, vi x4], [], h, kc, ks) Q := by
  refine w_iinc (ls' := [r0, vi x1, vi x2, vi (x3 + 1), vi x4]) rfl rfl 1 (by decide) rfl ?_
  refine w_goto rfl ?_
  exact k

theorem k460_59 {P : s_P} {d : Nat} {Q : s_O → Prop} {h : s_H} {kc ks : Nat} {r0 : Term} {x1 x2 x3 : Int} {t4 : Term}  (k : Q (.inl (some (vi x2)), h, kc, ks))   : wr P d sw_c460 sw_h460 (59, [r0, vi x1, vi x2, vi x3, t4], [], h, kc, ks) Q := by
  refine w_ld rfl rfl (Or.inl ⟨by decide, rfl⟩) ?_
  exact w_iret rfl k

/-! 461: FormulaWorksModel.hasFraction(I)Z -/
theorem k461_0 {P : s_P} {d : Nat} {Q : s_O → Prop} {h : s_H} {kc ks : Nat} {r0 : Term} {x1 : Int} {q2 : Nat} {f3 : List Term} (g4 : s_get h q2 = some (1, 11, f3)) (k : wm P d 493 [.index q2, vi x1] h (wq P d sw_c461 sw_h461 5 [.index q2, vi x1] [] kc ks Q)) (e_q2 : r0 = .index q2 := by first | rfl | assumption) (y1 : s_ty r0 = 3 := by first | rfl | assumption)  : wr P d sw_c461 sw_h461 (0, [r0, vi x1], [], h, kc, ks) Q := by
  refine w_ld rfl rfl (Or.inr (Or.inr ⟨by decide, y1⟩)) ?_
  refine w_ld rfl rfl (Or.inl ⟨by decide, rfl⟩) ?_
  subst e_q2
  exact w_cv rfl [.index q2, vi x1] [] rfl rfl (s_wt_4 rfl) rfl g4 k

theorem k461_5 {P : s_P} {d : Nat} {Q : s_O → Prop} {h : s_H} {kc ks : Nat} {r0 : Term} {x1 s0 : Int}  (k1 : s0 = 0 → wr P d sw_c461 sw_h461 (21, [r0, vi x1], [], h, kc, ks) Q) (k2 : ¬ s0 = 0 → wr P d sw_c461 sw_h461 (8, [r0, vi x1], [], h, kc, ks) Q)  (c1 : In3 s0 := by first | omega | assumption | (simp only [mk_len, List.length_map]; omega) | decide) : wr P d sw_c461 sw_h461 (5, [r0, vi x1], [vi s0], h, kc, ks) Q := by
  exact w_if1 rfl c1 k1 k2

theorem k461_8 {P : s_P} {d : Nat} {Q : s_O → Prop} {h : s_H} {kc ks : Nat} {r0 : Term} {x1 : Int} {q2 : Nat} {f3 : List Term} {v5 : Term} {q7 : Nat} {a8 : List Int} (g4 : s_get h q2 = some (1, 11, f3)) (g9 : s_get h q7 = some (0, 0, a8.map vi)) (k1 : gi a8 x1 ≠ 0 → wr P d sw_c461 sw_h461 (21, [.index q2, vi x1], [], h, kc, ks) Q) (k2 : ¬ gi a8 x1 ≠ 0 → wr P d sw_c461 sw_h461 (17, [.index q2, vi x1], [], h, kc, ks) Q) (e_q2 : r0 = .index q2 := by first | rfl | assumption) (e_q7 : v5 = .index q7 := by first | rfl | assumption) (y1 : s_ty r0 = 3 := by first | rfl | assumption) (n6 : s_nth f3 105 = some v5 := by first | rfl | assumption) (c10 : x1 < a8.length := by first | omega | assumption | (simp only [mk_len, List.length_map]; omega) | decide) (c11 : 0 ≤ x1 := by first | omega | assumption | (simp only [mk_len, List.length_map]; omega) | decide) (c12 : In3 x1 := by first | omega | assumption | (simp only [mk_len, List.length_map]; omega) | decide) (c13 : In3 (gi a8 x1) := by first | omega | assumption | (simp only [mk_len, List.length_map]; omega) | decide) : wr P d sw_c461 sw_h461 (8, [r0, vi x1], [], h, kc, ks) Q := by
  refine w_ld rfl rfl (Or.inr (Or.inr ⟨by decide, y1⟩)) ?_
  subst e_q2
  refine w_getf rfl g4 n6 ?_
  refine w_ld rfl rfl (Or.inl ⟨by decide, rfl⟩) ?_
  subst e_q7
  refine w_iald rfl g9 (Or.inl rfl) c12 c11 c10 ?_
  exact w_if1 rfl c13 k1 k2

theorem k461_17 {P : s_P} {d : Nat} {Q : s_O → Prop} {h : s_H} {kc ks : Nat} {r0 : Term} {x1 : Int}  (k : wr P d sw_c461 sw_h461 (22, [r0, vi x1], [vi 1], h, kc, ks) Q)   : wr P d sw_c461 sw_h461 (17, [r0, vi x1], [], h, kc, ks) Q := by
  refine w_c32 rfl (by decide) 1 (by decide) ?_
  refine w_goto rfl ?_
  exact k

theorem k461_21 {P : s_P} {d : Nat} {Q : s_O → Prop} {h : s_H} {kc ks : Nat} {r0 : Term} {x1 : Int}  (k : wr P d sw_c461 sw_h461 (22, [r0, vi x1], [vi 0], h, kc, ks) Q)   : wr P d sw_c461 sw_h461 (21, [r0, vi x1], [], h, kc, ks) Q := by
  refine w_c32 rfl (by decide) 0 (by decide) ?_
  exact k

theorem k461_22 {P : s_P} {d : Nat} {Q : s_O → Prop} {h : s_H} {kc ks : Nat} {r0 : Term} {x1 s0 : Int}  (k : Q (.inl (some (vi s0)), h, kc, ks))  (c1 : s0 = 0 ∨ s0 = 1 := by first | omega | assumption | (simp only [mk_len, List.length_map]; omega) | decide) : wr P d sw_c461 sw_h461 (22, [r0, vi x1], [vi s0], h, kc, ks) Q := by
  exact w_zret rfl c1 k

/-! 462: FormulaWorksModel.hasTerms(III)Z -/
theorem k462_0 {P : s_P} {d : Nat} {Q : s_O → Prop} {h : s_H} {kc ks : Nat} {r0 : Term} {x1 x2 x3 : Int} {t4 t5 t6 : Term} {q2 : Nat} {f3 : List Term} (g4 : s_get h q2 = some (1, 11, f3)) (k : wm P d 481 [.index q2, vi x1, vi 0] h (wq P d sw_c462 sw_h462 6 [.index q2, vi x1, vi x2, vi x3, t4, t5, t6] [] kc ks Q)) (e_q2 : r0 = .index q2 := by first | rfl | assumption) (y1 : s_ty r0 = 3 := by first | rfl | assumption)  : wr P d sw_c462 sw_h462 (0, [r0, vi x1, vi x2, vi x3, t4, t5, t6], [], h, kc, ks) Q := by
  refine w_ld rfl rfl (Or.inr (Or.inr ⟨by decide, y1⟩)) ?_
  refine w_ld rfl rfl (Or.inl ⟨by decide, rfl⟩) ?_
  refine w_c32 rfl (by decide) 0 (by decide) ?_
  subst e_q2
  exact w_cv rfl [.index q2, vi x1, vi 0] [] rfl rfl (s_wt_4 rfl) rfl g4 k

theorem k462_6 {P : s_P} {d : Nat} {Q : s_O → Prop} {h : s_H} {kc ks : Nat} {r0 : Term} {x1 x2 x3 : Int} {t4 t5 t6 : Term} {s0 : Int}  (k1 : s0 ≠ 0 → wr P d sw_c462 sw_h462 (11, [r0, vi x1, vi x2, vi x3, t4, t5, t6], [], h, kc, ks) Q) (k2 : ¬ s0 ≠ 0 → wr P d sw_c462 sw_h462 (9, [r0, vi x1, vi x2, vi x3, t4, t5, t6], [], h, kc, ks) Q)  (c1 : In3 s0 := by first | omega | assumption | (simp only [mk_len, List.length_map]; omega) | decide) : wr P d sw_c462 sw_h462 (6, [r0, vi x1, vi x2, vi x3, t4, t5, t6], [vi s0], h, kc, ks) Q := by
  exact w_if1 rfl c1 k1 k2

theorem k462_9 {P : s_P} {d : Nat} {Q : s_O → Prop} {h : s_H} {kc ks : Nat} {r0 : Term} {x1 x2 x3 : Int} {t4 t5 t6 : Term}  (k : Q (.inl (some (vi 0)), h, kc, ks))   : wr P d sw_c462 sw_h462 (9, [r0, vi x1, vi x2, vi x3, t4, t5, t6], [], h, kc, ks) Q := by
  refine w_c32 rfl (by decide) 0 (by decide) ?_
  exact w_zret rfl (by decide) k

theorem k462_11 {P : s_P} {d : Nat} {Q : s_O → Prop} {h : s_H} {kc ks : Nat} {r0 : Term} {x1 x2 x3 : Int} {t4 t5 t6 : Term} {q2 : Nat} {f3 : List Term} {v5 : Term} (g4 : s_get h q2 = some (1, 11, f3)) (k : wm P d 463 [v5] h (wq P d sw_c462 sw_h462 19 [.index q2, vi x1, vi x2, vi x3, t4, t5, t6] [.index q2] kc ks Q)) (e_q2 : r0 = .index q2 := by first | rfl | assumption) (y1 : s_ty r0 = 3 := by first | rfl | assumption) (n6 : s_nth f3 10 = some v5 := by first | rfl | assumption)  : wr P d sw_c462 sw_h462 (11, [r0, vi x1, vi x2, vi x3, t4, t5, t6], [], h, kc, ks) Q := by
  refine w_ld rfl rfl (Or.inr (Or.inr ⟨by decide, y1⟩)) ?_
  refine w_ld rfl rfl (Or.inr (Or.inr ⟨by decide, y1⟩)) ?_
  subst e_q2
  refine w_getf rfl g4 n6 ?_
  exact w_cs rfl [v5] [.index q2] rfl rfl (s_wt_4 rfl) k

theorem k462_19 {P : s_P} {d : Nat} {Q : s_O → Prop} {h : s_H} {kc ks : Nat} {r0 : Term} {x1 x2 x3 : Int} {t4 t5 t6 s0 : Term} {s1 : Int}  (k1 : s1 < 0 → wr P d sw_c462 sw_h462 (34, [r0, vi x1, vi x2, vi x3, t4, t5, t6], [s0], h, kc, ks) Q) (k2 : ¬ s1 < 0 → wr P d sw_c462 sw_h462 (22, [r0, vi x1, vi x2, vi x3, t4, t5, t6], [s0], h, kc, ks) Q)  (c1 : In3 s1 := by first | omega | assumption | (simp only [mk_len, List.length_map]; omega) | decide) : wr P d sw_c462 sw_h462 (19, [r0, vi x1, vi x2, vi x3, t4, t5, t6], [vi s1, s0], h, kc, ks) Q := by
  exact w_if1 rfl c1 k1 k2

theorem k462_22 {P : s_P} {d : Nat} {Q : s_O → Prop} {h : s_H} {kc ks : Nat} {r0 : Term} {x1 x2 x3 : Int} {t4 t5 t6 s0 : Term}  (k : wm P d 464 [vl x2, vl 0, vl 60] h (wq P d sw_c462 sw_h462 31 [r0, vi x1, vi x2, vi x3, t4, t5, t6] [s0] kc ks Q))  (c1 : In3 x2 := by first | omega | assumption | (simp only [mk_len, List.length_map]; omega) | decide) : wr P d sw_c462 sw_h462 (22, [r0, vi x1, vi x2, vi x3, t4, t5, t6], [s0], h, kc, ks) Q := by
  refine w_ld rfl rfl (Or.inl ⟨by decide, rfl⟩) ?_
  refine w_i2l rfl c1 ?_
  refine w_c64 rfl (by decide) 0 (by decide) ?_
  refine w_c64 rfl (by decide) 60 (by decide) ?_
  exact w_cs rfl [vl x2, vl 0, vl 60] [s0] rfl rfl (s_wt_4 rfl) k

theorem k462_31 {P : s_P} {d : Nat} {Q : s_O → Prop} {h : s_H} {kc ks : Nat} {r0 : Term} {x1 x2 x3 : Int} {t4 t5 t6 s0 : Term} {s1 : Int}  (k1 : s1 ≠ 0 → wr P d sw_c462 sw_h462 (38, [r0, vi x1, vi x2, vi x3, t4, t5, t6], [s0], h, kc, ks) Q) (k2 : ¬ s1 ≠ 0 → wr P d sw_c462 sw_h462 (34, [r0, vi x1, vi x2, vi x3, t4, t5, t6], [s0], h, kc, ks) Q)  (c1 : In3 s1 := by first | omega | assumption | (simp only [mk_len, List.length_map]; omega) | decide) : wr P d sw_c462 sw_h462 (31, [r0, vi x1, vi x2, vi x3, t4, t5, t6], [vi s1, s0], h, kc, ks) Q := by
  exact w_if1 rfl c1 k1 k2

theorem k462_34 {P : s_P} {d : Nat} {Q : s_O → Prop} {h : s_H} {kc ks : Nat} {r0 : Term} {x1 x2 x3 : Int} {t4 t5 t6 s0 : Term}  (k : wr P d sw_c462 sw_h462 (39, [r0, vi x1, vi x2, vi x3, t4, t5, t6], [vi 2, s0], h, kc, ks) Q)   : wr P d sw_c462 sw_h462 (34, [r0, vi x1, vi x2, vi x3, t4, t5, t6], [s0], h, kc, ks) Q := by
  refine w_c32 rfl (by decide) 2 (by decide) ?_
  refine w_goto rfl ?_
  exact k

theorem k462_38 {P : s_P} {d : Nat} {Q : s_O → Prop} {h : s_H} {kc ks : Nat} {r0 : Term} {x1 x2 x3 : Int} {t4 t5 t6 s0 : Term}  (k : wr P d sw_c462 sw_h462 (39, [r0, vi x1, vi x2, vi x3, t4, t5, t6], [vi 0, s0], h, kc, ks) Q)   : wr P d sw_c462 sw_h462 (38, [r0, vi x1, vi x2, vi x3, t4, t5, t6], [s0], h, kc, ks) Q := by
  refine w_c32 rfl (by decide) 0 (by decide) ?_
  exact k

theorem k462_39 {P : s_P} {d : Nat} {Q : s_O → Prop} {h : s_H} {kc ks : Nat} {r0 : Term} {x1 x2 x3 : Int} {t4 t5 t6 s0 : Term} {s1 : Int} {q1 : Nat} {f2 : List Term} {q7 : Nat} {f8 : List Term} {z10 : Int} (g3 : s_get h q1 = some (1, 11, f2)) (g9 : s_get (hp h q1 (1, 11, f2.set 0 (vi s1))) q7 = some (1, 11, f8)) (k1 : z10 ≤ 0 → wr P d sw_c462 sw_h462 (51, [.index q7, vi x1, vi x2, vi x3, t4, t5, t6], [], (hp h q1 (1, 11, f2.set 0 (vi s1))), kc, ks) Q) (k2 : ¬ z10 ≤ 0 → wr P d sw_c462 sw_h462 (49, [.index q7, vi x1, vi x2, vi x3, t4, t5, t6], [], (hp h q1 (1, 11, f2.set 0 (vi s1))), kc, ks) Q) (e_q1 : s0 = .index q1 := by first | rfl | assumption) (e_q7 : r0 = .index q7 := by first | rfl | assumption) (l4 : 0 < f2.length := by first | exact Nat.le_of_ble_eq_true rfl | omega | assumption) (y6 : s_ty r0 = 3 := by first | rfl | assumption) (n11 : s_nth f8 0 = some (vi z10) := by first | rfl | assumption) (c5 : 0 < q1 := by first | omega | assumption | (simp only [mk_len, List.length_map]; omega) | decide) (c12 : In3 z10 := by first | omega | assumption | (simp only [mk_len, List.length_map]; omega) | decide) : wr P d sw_c462 sw_h462 (39, [r0, vi x1, vi x2, vi x3, t4, t5, t6], [vi s1, s0], h, kc, ks) Q := by
  subst e_q1
  refine w_putf rfl g3 (Nat.ble_eq_true_of_le c5) rfl (Nat.ble_eq_true_of_le l4) ?_
  refine w_ld rfl rfl (Or.inr (Or.inr ⟨by decide, y6⟩)) ?_
  subst e_q7
  refine w_getf rfl g9 n11 ?_
  exact w_if1 rfl c12 k1 k2

theorem k462_49 {P : s_P} {d : Nat} {Q : s_O → Prop} {h : s_H} {kc ks : Nat} {r0 : Term} {x1 x2 x3 : Int} {t4 t5 t6 : Term}  (k : Q (.inl (some (vi 0)), h, kc, ks))   : wr P d sw_c462 sw_h462 (49, [r0, vi x1, vi x2, vi x3, t4, t5, t6], [], h, kc, ks) Q := by
  refine w_c32 rfl (by decide) 0 (by decide) ?_
  exact w_zret rfl (by decide) k

theorem k462_51 {P : s_P} {d : Nat} {Q : s_O → Prop} {h : s_H} {kc ks : Nat} {r0 : Term} {x1 x2 x3 : Int} {t4 t5 t6 : Term} {q2 : Nat} {f3 : List Term} {v5 : Term} {q7 : Nat} {a8 : List Int} (g4 : s_get h q2 = some (1, 11, f3)) (g9 : s_get h q7 = some (0, 1, a8.map vl)) (k : wr P d sw_c462 sw_h462 (61, [.index q2, vi x1, vi x2, vi x3, vi 0, t5, t6], [], (hp h q7 (0, 1, (a8.set (Int.toNat (0)) 1).map vl)), kc, ks) Q) (e_q2 : r0 = .index q2 := by first | rfl | assumption) (e_q7 : v5 = .index q7 := by first | rfl | assumption) (y1 : s_ty r0 = 3 := by first | rfl | assumption) (n6 : s_nth f3 45 = some v5 := by first | rfl | assumption) (c10 : (0 : Int) < a8.length := by first | omega | assumption | (simp only [mk_len, List.length_map]; omega) | decide) (c11 : 0 < q7 := by first | omega | assumption | (simp only [mk_len, List.length_map]; omega) | decide) : wr P d sw_c462 sw_h462 (51, [r0, vi x1, vi x2, vi x3, t4, t5, t6], [], h, kc, ks) Q := by
  refine w_ld rfl rfl (Or.inr (Or.inr ⟨by decide, y1⟩)) ?_
  subst e_q2
  refine w_getf rfl g4 n6 ?_
  refine w_c32 rfl (by decide) 0 (by decide) ?_
  refine w_c64 rfl (by decide) 1 (by decide) ?_
  subst e_q7
  refine w_last rfl g9 (Nat.ble_eq_true_of_le c11) (by decide) (by decide) c10 ?_
  refine w_c32 rfl (by decide) 0 (by decide) ?_
  refine w_st (ls' := [.index q2, vi x1, vi x2, vi x3, vi 0, t5, t6]) rfl (Or.inl ⟨by decide, rfl⟩) rfl ?_
  exact k

theorem k462_61 {P : s_P} {d : Nat} {Q : s_O → Prop} {h : s_H} {kc ks : Nat} {r0 : Term} {x1 x2 x3 x4 : Int} {t5 t6 : Term}  (k1 : x3 ≤ x4 → wr P d sw_c462 sw_h462 (140, [r0, vi x1, vi x2, vi x3, vi x4, t5, t6], [], h, kc, ks) Q) (k2 : ¬ x3 ≤ x4 → wr P d sw_c462 sw_h462 (67, [r0, vi x1, vi x2, vi x3, vi x4, t5, t6], [], h, kc, ks) Q)  (c1 : In3 x4 := by first | omega | assumption | (simp only [mk_len, List.length_map]; omega) | decide) (c2 : In3 x3 := by first | omega | assumption | (simp only [mk_len, List.length_map]; omega) | decide) : wr P d sw_c462 sw_h462 (61, [r0, vi x1, vi x2, vi x3, vi x4, t5, t6], [], h, kc, ks) Q := by
  refine w_ld rfl rfl (Or.inl ⟨by decide, rfl⟩) ?_
  refine w_ld rfl rfl (Or.inl ⟨by decide, rfl⟩) ?_
  exact w_if2 rfl c1 c2 k1 k2

theorem k462_67 {P : s_P} {d : Nat} {Q : s_O → Prop} {h : s_H} {kc ks : Nat} {r0 : Term} {x1 x2 x3 x4 : Int} {t5 t6 : Term} {q2 : Nat} {f3 : List Term} {v5 : Term} (g4 : s_get h q2 = some (1, 11, f3)) (k : wm P d 613 [v5, vl x4] h (wq P d sw_c462 sw_h462 77 [.index q2, vi x1, vi x2, vi x3, vi x4, t5, t6] [] kc ks Q)) (e_q2 : r0 = .index q2 := by first | rfl | assumption) (y1 : s_ty r0 = 3 := by first | rfl | assumption) (n6 : s_nth f3 11 = some v5 := by first | rfl | assumption) (c7 : In3 x4 := by first | omega | assumption | (simp only [mk_len, List.length_map]; omega) | decide) : wr P d sw_c462 sw_h462 (67, [r0, vi x1, vi x2, vi x3, vi x4, t5, t6], [], h, kc, ks) Q := by
  refine w_ld rfl rfl (Or.inr (Or.inr ⟨by decide, y1⟩)) ?_
  subst e_q2
  refine w_getf rfl g4 n6 ?_
  refine w_ld rfl rfl (Or.inl ⟨by decide, rfl⟩) ?_
  refine w_i2l rfl c7 ?_
  exact w_cs rfl [v5, vl x4] [] rfl rfl (s_wt_4 rfl) k

theorem k462_77 {P : s_P} {d : Nat} {Q : s_O → Prop} {h : s_H} {kc ks : Nat} {r0 : Term} {x1 x2 x3 x4 : Int} {t5 t6 : Term} {s0 : Int}  (k1 : s0 ≠ 0 → wr P d sw_c462 sw_h462 (93, [r0, vi x1, vi x2, vi x3, vi x4, vl s0, .result], [], h, kc, ks) Q) (k2 : ¬ s0 ≠ 0 → wr P d sw_c462 sw_h462 (86, [r0, vi x1, vi x2, vi x3, vi x4, vl s0, .result], [], h, kc, ks) Q)  (c1 : In6 s0 := by first | omega | assumption | (simp only [mk_len, List.length_map]; omega) | decide) : wr P d sw_c462 sw_h462 (77, [r0, vi x1, vi x2, vi x3, vi x4, t5, t6], [vl s0], h, kc, ks) Q := by
  refine w_stl (ls' := [r0, vi x1, vi x2, vi x3, vi x4, vl s0, t6]) (ls'' := [r0, vi x1, vi x2, vi x3, vi x4, vl s0, .result]) rfl ⟨by decide, rfl⟩ rfl rfl ?_
  refine w_ld rfl rfl (Or.inr (Or.inl ⟨by decide, rfl⟩)) ?_
  refine w_c64 rfl (by decide) 0 (by decide) ?_
  exact w_lcmp rfl rfl c1 (by decide) k1 k2

theorem k462_86 {P : s_P} {d : Nat} {Q : s_O → Prop} {h : s_H} {kc ks : Nat} {r0 : Term} {x1 x2 x3 x4 x5 : Int} {t6 : Term} {q2 : Nat} {f3 : List Term} (g4 : s_get h q2 = some (1, 11, f3)) (k : Q (.inl (some (vi 0)), (hp h q2 (1, 11, f3.set 0 (vi 3))), kc, ks)) (e_q2 : r0 = .index q2 := by first | rfl | assumption) (y1 : s_ty r0 = 3 := by first | rfl | assumption) (l5 : 0 < f3.length := by first | exact Nat.le_of_ble_eq_true rfl | omega | assumption) (c6 : 0 < q2 := by first | omega | assumption | (simp only [mk_len, List.length_map]; omega) | decide) : wr P d sw_c462 sw_h462 (86, [r0, vi x1, vi x2, vi x3, vi x4, vl x5, t6], [], h, kc, ks) Q := by
  refine w_ld rfl rfl (Or.inr (Or.inr ⟨by decide, y1⟩)) ?_
  refine w_c32 rfl (by decide) 3 (by decide) ?_
  subst e_q2
  refine w_putf rfl g4 (Nat.ble_eq_true_of_le c6) rfl (Nat.ble_eq_true_of_le l5) ?_
  refine w_c32 rfl (by decide) 0 (by decide) ?_
  exact w_zret rfl (by decide) k

theorem k462_93 {P : s_P} {d : Nat} {Q : s_O → Prop} {h : s_H} {kc ks : Nat} {r0 : Term} {x1 x2 x3 x4 x5 : Int} {t6 : Term} {q2 : Nat} {f3 : List Term} {v5 : Term} {q7 : Nat} {a8 : List Int} {v13 : Term} (g4 : s_get h q2 = some (1, 11, f3)) (g9 : s_get h q7 = some (0, 1, a8.map vl)) (k : wm P d 613 [v13, vl x4] h (wq P d sw_c462 sw_h462 118 [.index q2, vi x1, vi x2, vi x3, vi x4, vl x5, t6] [vl (gi a8 x4), vi (x4 + 1), .index q7] kc ks Q)) (e_q2 : r0 = .index q2 := by first | rfl | assumption) (e_q7 : v5 = .index q7 := by first | rfl | assumption) (y1 : s_ty r0 = 3 := by first | rfl | assumption) (n6 : s_nth f3 45 = some v5 := by first | rfl | assumption) (n14 : s_nth f3 10 = some v13 := by first | rfl | assumption) (c10 : x4 < a8.length := by first | omega | assumption | (simp only [mk_len, List.length_map]; omega) | decide) (c11 : 0 ≤ x4 := by first | omega | assumption | (simp only [mk_len, List.length_map]; omega) | decide) (c12 : In3 x4 := by first | omega | assumption | (simp only [mk_len, List.length_map]; omega) | decide) : wr P d sw_c462 sw_h462 (93, [r0, vi x1, vi x2, vi x3, vi x4, vl x5, t6], [], h, kc, ks) Q := by
  refine w_ld rfl rfl (Or.inr (Or.inr ⟨by decide, y1⟩)) ?_
  subst e_q2
  refine w_getf rfl g4 n6 ?_
  refine w_ld rfl rfl (Or.inl ⟨by decide, rfl⟩) ?_
  refine w_c32 rfl (by decide) 1 (by decide) ?_
  refine w_iadd rfl ?_
  refine w_ld rfl rfl (Or.inr (Or.inr ⟨by decide, rfl⟩)) ?_
  refine w_getf rfl g4 n6 ?_
  refine w_ld rfl rfl (Or.inl ⟨by decide, rfl⟩) ?_
  subst e_q7
  refine w_lald rfl g9 c12 c11 c10 ?_
  refine w_ld rfl rfl (Or.inr (Or.inr ⟨by decide, rfl⟩)) ?_
  refine w_getf rfl g4 n14 ?_
  refine w_ld rfl rfl (Or.inl ⟨by decide, rfl⟩) ?_
  refine w_i2l rfl c12 ?_
  exact w_cs rfl [v13, vl x4] [vl (gi a8 x4), vi (x4 + 1), .index q7] rfl rfl (s_wt_4 rfl) k

theorem k462_118 {P : s_P} {d : Nat} {Q : s_O → Prop} {h : s_H} {kc ks : Nat} {r0 : Term} {x1 x2 x3 x4 x5 : Int} {t6 s0 : Term} {s1 s2 s3 : Int}  (k : wm P d 467 [vl x5] h (wq P d sw_c462 sw_h462 128 [r0, vi x1, vi x2, vi x3, vi x4, vl x5, t6] [vl (Int.tmod (s2 * s3) 32003), vi s1, s0] kc ks Q))  (c1 : In6 (s2 * s3) := by first | omega | assumption | (simp only [mk_len, List.length_map]; omega) | decide) : wr P d sw_c462 sw_h462 (118, [r0, vi x1, vi x2, vi x3, vi x4, vl x5, t6], [vl s3, vl s2, vi s1, s0], h, kc, ks) Q := by
  refine w_lmul rfl ?_
  refine w_c64 rfl (by decide) 32003 (by decide) ?_
  refine w_lrem rfl c1 (by decide) (by decide) ?_
  refine w_ld rfl rfl (Or.inr (Or.inl ⟨by decide, rfl⟩)) ?_
  exact w_cs rfl [vl x5] [vl (Int.tmod (s2 * s3) 32003), vi s1, s0] rfl rfl (s_wt_4 rfl) k

theorem k462_128 {P : s_P} {d : Nat} {Q : s_O → Prop} {h : s_H} {kc ks : Nat} {r0 : Term} {x1 x2 x3 x4 x5 : Int} {t6 s0 : Term} {s1 s2 s3 : Int} {q2 : Nat} {a3 : List Int} (g4 : s_get h q2 = some (0, 1, a3.map vl)) (k : wr P d sw_c462 sw_h462 (61, [r0, vi x1, vi x2, vi x3, vi (x4 + 1), vl x5, t6], [], (hp h q2 (0, 1, (a3.set (Int.toNat (s1)) (Int.tmod (s2 * s3) 32003)).map vl)), kc, ks) Q) (e_q2 : s0 = .index q2 := by first | rfl | assumption) (c1 : In6 (s2 * s3) := by first | omega | assumption | (simp only [mk_len, List.length_map]; omega) | decide) (c5 : s1 < a3.length := by first | omega | assumption | (simp only [mk_len, List.length_map]; omega) | decide) (c6 : 0 ≤ s1 := by first | omega | assumption | (simp only [mk_len, List.length_map]; omega) | decide) (c7 : In3 s1 := by first | omega | assumption | (simp only [mk_len, List.length_map]; omega) | decide) (c8 : 0 < q2 := by first | omega | assumption | (simp only [mk_len, List.length_map]; omega) | decide) : wr P d sw_c462 sw_h462 (128, [r0, vi x1, vi x2, vi x3, vi x4, vl x5, t6], [vl s3, vl s2, vi s1, s0], h, kc, ks) Q := by
  refine w_lmul rfl ?_
  refine w_c64 rfl (by decide) 32003 (by decide) ?_
  refine w_lrem rfl c1 (by decide) (by decide) ?_
  subst e_q2
  refine w_last rfl g4 (Nat.ble_eq_true_of_le c8) c7 c6 c5 ?_
  refine w_iinc (ls' := [r0, vi x1, vi x2, vi x3, vi (x4 + 1), vl x5, t6]) rfl rfl 1 (by decide) rfl ?_
  refine w_goto rfl ?_
  exact k

theorem k462_140 {P : s_P} {d : Nat} {Q : s_O → Prop} {h : s_H} {kc ks : Nat} {r0 : Term} {x1 x2 x3 x4 : Int} {t5 t6 : Term}  (k : Q (.inl (some (vi 1)), h, kc, ks))   : wr P d sw_c462 sw_h462 (140, [r0, vi x1, vi x2, vi x3, vi x4, t5, t6], [], h, kc, ks) Q := by
  refine w_c32 rfl (by decide) 1 (by decide) ?_
  exact w_zret rfl (by decide) k

/-! 463: FormulaWorksModel.high([J)I -/
theorem k463_0 {P : s_P} {d : Nat} {Q : s_O → Prop} {h : s_H} {kc ks : Nat} {r0 t1 : Term}  (k : wr P d sw_c463 sw_h463 (4, [r0, vi 175], [], h, kc, ks) Q) (y1 : s_ty r0 = 3 := by first | rfl | assumption)  : wr P d sw_c463 sw_h463 (0, [r0, t1], [], h, kc, ks) Q := by
  refine w_c32 rfl (by decide) 175 (by decide) ?_
  refine w_st (ls' := [r0, vi 175]) rfl (Or.inl ⟨by decide, rfl⟩) (s_stK_r (pre := []) y1) ?_
  exact k

theorem k463_4 {P : s_P} {d : Nat} {Q : s_O → Prop} {h : s_H} {kc ks : Nat} {r0 : Term} {x1 : Int}  (k1 : x1 < 0 → wr P d sw_c463 sw_h463 (22, [r0, vi x1], [], h, kc, ks) Q) (k2 : ¬ x1 < 0 → wr P d sw_c463 sw_h463 (8, [r0, vi x1], [], h, kc, ks) Q)  (c1 : In3 x1 := by first | omega | assumption | (simp only [mk_len, List.length_map]; omega) | decide) : wr P d sw_c463 sw_h463 (4, [r0, vi x1], [], h, kc, ks) Q := by
  refine w_ld rfl rfl (Or.inl ⟨by decide, rfl⟩) ?_
  exact w_if1 rfl c1 k1 k2

theorem k463_8 {P : s_P} {d : Nat} {Q : s_O → Prop} {h : s_H} {kc ks : Nat} {r0 : Term} {x1 : Int} {q2 : Nat} {a3 : List Int} (g4 : s_get h q2 = some (0, 1, a3.map vl)) (k1 : gi a3 x1 ≠ 0 → wr P d sw_c463 sw_h463 (22, [.index q2, vi x1], [], h, kc, ks) Q) (k2 : ¬ gi a3 x1 ≠ 0 → wr P d sw_c463 sw_h463 (16, [.index q2, vi x1], [], h, kc, ks) Q) (e_q2 : r0 = .index q2 := by first | rfl | assumption) (y1 : s_ty r0 = 3 := by first | rfl | assumption) (c5 : x1 < a3.length := by first | omega | assumption | (simp only [mk_len, List.length_map]; omega) | decide) (c6 : 0 ≤ x1 := by first | omega | assumption | (simp only [mk_len, List.length_map]; omega) | decide) (c7 : In3 x1 := by first | omega | assumption | (simp only [mk_len, List.length_map]; omega) | decide) (c8 : In6 (gi a3 x1) := by first | omega | assumption | (simp only [mk_len, List.length_map]; omega) | decide) : wr P d sw_c463 sw_h463 (8, [r0, vi x1], [], h, kc, ks) Q := by
  refine w_ld rfl rfl (Or.inr (Or.inr ⟨by decide, y1⟩)) ?_
  refine w_ld rfl rfl (Or.inl ⟨by decide, rfl⟩) ?_
  subst e_q2
  refine w_lald rfl g4 c7 c6 c5 ?_
  refine w_c64 rfl (by decide) 0 (by decide) ?_
  exact w_lcmp rfl rfl c8 (by decide) k1 k2

theorem k463_16 {P : s_P} {d : Nat} {Q : s_O → Prop} {h : s_H} {kc ks : Nat} {r0 : Term} {x1 : Int}  (k : wr P d sw_c463 sw_h463 (4, [r0, vi (x1 + (-1))], [], h, kc, ks) Q) (y1 : s_ty r0 = 3 := by first | rfl | assumption)  : wr P d sw_c463 sw_h463 (16, [r0, vi x1], [], h, kc, ks) Q := by
  refine w_iinc (ls' := [r0, vi (x1 + (-1))]) rfl rfl (-1) (by decide) (s_stK_r (pre := []) y1) ?_
  refine w_goto rfl ?_
  exact k

theorem k463_22 {P : s_P} {d : Nat} {Q : s_O → Prop} {h : s_H} {kc ks : Nat} {r0 : Term} {x1 : Int}  (k : Q (.inl (some (vi x1)), h, kc, ks))   : wr P d sw_c463 sw_h463 (22, [r0, vi x1], [], h, kc, ks) Q := by
  refine w_ld rfl rfl (Or.inl ⟨by decide, rfl⟩) ?_
  exact w_iret rfl k

/-! 464: FormulaWorksModel.in(JJJ)Z -/
theorem k464_0 {P : s_P} {d : Nat} {Q : s_O → Prop} {h : s_H} {kc ks : Nat} {x0 : Int} {t1 : Term} {x2 : Int} {t3 : Term} {x4 : Int} {t5 : Term}  (k1 : x0 < x2 → wr P d sw_c464 sw_h464 (17, [vl x0, t1, vl x2, t3, vl x4, t5], [], h, kc, ks) Q) (k2 : ¬ x0 < x2 → wr P d sw_c464 sw_h464 (6, [vl x0, t1, vl x2, t3, vl x4, t5], [], h, kc, ks) Q)  (c1 : In6 x0 := by first | omega | assumption | (simp only [mk_len, List.length_map]; omega) | decide) (c2 : In6 x2 := by first | omega | assumption | (simp only [mk_len, List.length_map]; omega) | decide) : wr P d sw_c464 sw_h464 (0, [vl x0, t1, vl x2, t3, vl x4, t5], [], h, kc, ks) Q := by
  refine w_ld rfl rfl (Or.inr (Or.inl ⟨by decide, rfl⟩)) ?_
  refine w_ld rfl rfl (Or.inr (Or.inl ⟨by decide, rfl⟩)) ?_
  exact w_lcmp rfl rfl c1 c2 k1 k2

theorem k464_6 {P : s_P} {d : Nat} {Q : s_O → Prop} {h : s_H} {kc ks : Nat} {x0 : Int} {t1 : Term} {x2 : Int} {t3 : Term} {x4 : Int} {t5 : Term}  (k1 : x4 < x0 → wr P d sw_c464 sw_h464 (17, [vl x0, t1, vl x2, t3, vl x4, t5], [], h, kc, ks) Q) (k2 : ¬ x4 < x0 → wr P d sw_c464 sw_h464 (13, [vl x0, t1, vl x2, t3, vl x4, t5], [], h, kc, ks) Q)  (c1 : In6 x0 := by first | omega | assumption | (simp only [mk_len, List.length_map]; omega) | decide) (c2 : In6 x4 := by first | omega | assumption | (simp only [mk_len, List.length_map]; omega) | decide) : wr P d sw_c464 sw_h464 (6, [vl x0, t1, vl x2, t3, vl x4, t5], [], h, kc, ks) Q := by
  refine w_ld rfl rfl (Or.inr (Or.inl ⟨by decide, rfl⟩)) ?_
  refine w_ld rfl rfl (Or.inr (Or.inl ⟨by decide, rfl⟩)) ?_
  exact w_lcmp rfl rfl c1 c2 k1 k2

theorem k464_13 {P : s_P} {d : Nat} {Q : s_O → Prop} {h : s_H} {kc ks : Nat} {x0 : Int} {t1 : Term} {x2 : Int} {t3 : Term} {x4 : Int} {t5 : Term}  (k : wr P d sw_c464 sw_h464 (18, [vl x0, t1, vl x2, t3, vl x4, t5], [vi 1], h, kc, ks) Q)   : wr P d sw_c464 sw_h464 (13, [vl x0, t1, vl x2, t3, vl x4, t5], [], h, kc, ks) Q := by
  refine w_c32 rfl (by decide) 1 (by decide) ?_
  refine w_goto rfl ?_
  exact k

theorem k464_17 {P : s_P} {d : Nat} {Q : s_O → Prop} {h : s_H} {kc ks : Nat} {x0 : Int} {t1 : Term} {x2 : Int} {t3 : Term} {x4 : Int} {t5 : Term}  (k : wr P d sw_c464 sw_h464 (18, [vl x0, t1, vl x2, t3, vl x4, t5], [vi 0], h, kc, ks) Q)   : wr P d sw_c464 sw_h464 (17, [vl x0, t1, vl x2, t3, vl x4, t5], [], h, kc, ks) Q := by
  refine w_c32 rfl (by decide) 0 (by decide) ?_
  exact k

theorem k464_18 {P : s_P} {d : Nat} {Q : s_O → Prop} {h : s_H} {kc ks : Nat} {x0 : Int} {t1 : Term} {x2 : Int} {t3 : Term} {x4 : Int} {t5 : Term} {s0 : Int}  (k : Q (.inl (some (vi s0)), h, kc, ks))  (c1 : s0 = 0 ∨ s0 = 1 := by first | omega | assumption | (simp only [mk_len, List.length_map]; omega) | decide) : wr P d sw_c464 sw_h464 (18, [vl x0, t1, vl x2, t3, vl x4, t5], [vi s0], h, kc, ks) Q := by
  exact w_zret rfl c1 k

/-! 465: FormulaWorksModel.integral(I)I -/
theorem k465_0 {P : s_P} {d : Nat} {Q : s_O → Prop} {h : s_H} {kc ks : Nat} {r0 : Term} {x1 : Int} {t2 : Term} {q2 : Nat} {f3 : List Term} (g4 : s_get h q2 = some (1, 11, f3)) (k : wm P d 492 [.index q2, vi x1] h (wq P d sw_c465 sw_h465 6 [.index q2, vi x1, t2] [.index q2] kc ks Q)) (e_q2 : r0 = .index q2 := by first | rfl | assumption) (y1 : s_ty r0 = 3 := by first | rfl | assumption)  : wr P d sw_c465 sw_h465 (0, [r0, vi x1, t2], [], h, kc, ks) Q := by
  refine w_ld rfl rfl (Or.inr (Or.inr ⟨by decide, y1⟩)) ?_
  refine w_ld rfl rfl (Or.inr (Or.inr ⟨by decide, y1⟩)) ?_
  refine w_ld rfl rfl (Or.inl ⟨by decide, rfl⟩) ?_
  subst e_q2
  exact w_cv rfl [.index q2, vi x1] [.index q2] rfl rfl (s_wt_4 rfl) rfl g4 k

theorem k465_6 {P : s_P} {d : Nat} {Q : s_O → Prop} {h : s_H} {kc ks : Nat} {r0 : Term} {x1 : Int} {t2 s0 : Term} {s1 : Int}  (k1 : s1 ≠ 0 → wr P d sw_c465 sw_h465 (13, [r0, vi x1, t2], [s0], h, kc, ks) Q) (k2 : ¬ s1 ≠ 0 → wr P d sw_c465 sw_h465 (9, [r0, vi x1, t2], [s0], h, kc, ks) Q)  (c1 : In3 s1 := by first | omega | assumption | (simp only [mk_len, List.length_map]; omega) | decide) : wr P d sw_c465 sw_h465 (6, [r0, vi x1, t2], [vi s1, s0], h, kc, ks) Q := by
  exact w_if1 rfl c1 k1 k2

theorem k465_9 {P : s_P} {d : Nat} {Q : s_O → Prop} {h : s_H} {kc ks : Nat} {r0 : Term} {x1 : Int} {t2 s0 : Term}  (k : wr P d sw_c465 sw_h465 (50, [r0, vi x1, t2], [vi 1, s0], h, kc, ks) Q)   : wr P d sw_c465 sw_h465 (9, [r0, vi x1, t2], [s0], h, kc, ks) Q := by
  refine w_c32 rfl (by decide) 1 (by decide) ?_
  refine w_goto rfl ?_
  exact k

theorem k465_13 {P : s_P} {d : Nat} {Q : s_O → Prop} {h : s_H} {kc ks : Nat} {r0 : Term} {x1 : Int} {t2 s0 : Term} {q2 : Nat} {f3 : List Term} (g4 : s_get h q2 = some (1, 11, f3)) (k : wm P d 469 [.index q2, vi x1, vi 2] h (wq P d sw_c465 sw_h465 19 [.index q2, vi x1, t2] [s0] kc ks Q)) (e_q2 : r0 = .index q2 := by first | rfl | assumption) (y1 : s_ty r0 = 3 := by first | rfl | assumption)  : wr P d sw_c465 sw_h465 (13, [r0, vi x1, t2], [s0], h, kc, ks) Q := by
  refine w_ld rfl rfl (Or.inr (Or.inr ⟨by decide, y1⟩)) ?_
  refine w_ld rfl rfl (Or.inl ⟨by decide, rfl⟩) ?_
  refine w_c32 rfl (by decide) 2 (by decide) ?_
  subst e_q2
  exact w_cv rfl [.index q2, vi x1, vi 2] [s0] rfl rfl (s_wt_4 rfl) rfl g4 k

theorem k465_19 {P : s_P} {d : Nat} {Q : s_O → Prop} {h : s_H} {kc ks : Nat} {r0 : Term} {x1 : Int} {t2 s0 : Term} {s1 : Int}  (k1 : s1 ≠ 0 → wr P d sw_c465 sw_h465 (31, [r0, vi x1, t2], [s0], h, kc, ks) Q) (k2 : ¬ s1 ≠ 0 → wr P d sw_c465 sw_h465 (22, [r0, vi x1, t2], [s0], h, kc, ks) Q)  (c1 : In3 s1 := by first | omega | assumption | (simp only [mk_len, List.length_map]; omega) | decide) : wr P d sw_c465 sw_h465 (19, [r0, vi x1, t2], [vi s1, s0], h, kc, ks) Q := by
  exact w_if1 rfl c1 k1 k2

theorem k465_22 {P : s_P} {d : Nat} {Q : s_O → Prop} {h : s_H} {kc ks : Nat} {r0 : Term} {x1 : Int} {t2 s0 : Term} {q2 : Nat} {f3 : List Term} (g4 : s_get h q2 = some (1, 11, f3)) (k : wm P d 469 [.index q2, vi x1, vi 3] h (wq P d sw_c465 sw_h465 28 [.index q2, vi x1, t2] [s0] kc ks Q)) (e_q2 : r0 = .index q2 := by first | rfl | assumption) (y1 : s_ty r0 = 3 := by first | rfl | assumption)  : wr P d sw_c465 sw_h465 (22, [r0, vi x1, t2], [s0], h, kc, ks) Q := by
  refine w_ld rfl rfl (Or.inr (Or.inr ⟨by decide, y1⟩)) ?_
  refine w_ld rfl rfl (Or.inl ⟨by decide, rfl⟩) ?_
  refine w_c32 rfl (by decide) 3 (by decide) ?_
  subst e_q2
  exact w_cv rfl [.index q2, vi x1, vi 3] [s0] rfl rfl (s_wt_4 rfl) rfl g4 k

theorem k465_28 {P : s_P} {d : Nat} {Q : s_O → Prop} {h : s_H} {kc ks : Nat} {r0 : Term} {x1 : Int} {t2 s0 : Term} {s1 : Int}  (k1 : s1 = 0 → wr P d sw_c465 sw_h465 (35, [r0, vi x1, t2], [s0], h, kc, ks) Q) (k2 : ¬ s1 = 0 → wr P d sw_c465 sw_h465 (31, [r0, vi x1, t2], [s0], h, kc, ks) Q)  (c1 : In3 s1 := by first | omega | assumption | (simp only [mk_len, List.length_map]; omega) | decide) : wr P d sw_c465 sw_h465 (28, [r0, vi x1, t2], [vi s1, s0], h, kc, ks) Q := by
  exact w_if1 rfl c1 k1 k2

theorem k465_31 {P : s_P} {d : Nat} {Q : s_O → Prop} {h : s_H} {kc ks : Nat} {r0 : Term} {x1 : Int} {t2 s0 : Term}  (k : wr P d sw_c465 sw_h465 (50, [r0, vi x1, t2], [vi 2, s0], h, kc, ks) Q)   : wr P d sw_c465 sw_h465 (31, [r0, vi x1, t2], [s0], h, kc, ks) Q := by
  refine w_c32 rfl (by decide) 2 (by decide) ?_
  refine w_goto rfl ?_
  exact k

theorem k465_35 {P : s_P} {d : Nat} {Q : s_O → Prop} {h : s_H} {kc ks : Nat} {r0 : Term} {x1 : Int} {t2 s0 : Term} {q2 : Nat} {f3 : List Term} {z5 : Int} (g4 : s_get h q2 = some (1, 11, f3)) (k1 : z5 ≠ 150 → wr P d sw_c465 sw_h465 (49, [.index q2, vi x1, t2], [s0], h, kc, ks) Q) (k2 : ¬ z5 ≠ 150 → wr P d sw_c465 sw_h465 (45, [.index q2, vi x1, t2], [s0], h, kc, ks) Q) (e_q2 : r0 = .index q2 := by first | rfl | assumption) (y1 : s_ty r0 = 3 := by first | rfl | assumption) (n6 : s_nth f3 1 = some (vi z5) := by first | rfl | assumption) (c7 : In3 z5 := by first | omega | assumption | (simp only [mk_len, List.length_map]; omega) | decide) : wr P d sw_c465 sw_h465 (35, [r0, vi x1, t2], [s0], h, kc, ks) Q := by
  refine w_ld rfl rfl (Or.inr (Or.inr ⟨by decide, y1⟩)) ?_
  subst e_q2
  refine w_getf rfl g4 n6 ?_
  refine w_c32 rfl (by decide) 150 (by decide) ?_
  exact w_if2 rfl c7 (by decide) k1 k2

theorem k465_45 {P : s_P} {d : Nat} {Q : s_O → Prop} {h : s_H} {kc ks : Nat} {r0 : Term} {x1 : Int} {t2 s0 : Term}  (k : wr P d sw_c465 sw_h465 (50, [r0, vi x1, t2], [vi 3, s0], h, kc, ks) Q)   : wr P d sw_c465 sw_h465 (45, [r0, vi x1, t2], [s0], h, kc, ks) Q := by
  refine w_c32 rfl (by decide) 3 (by decide) ?_
  refine w_goto rfl ?_
  exact k

theorem k465_49 {P : s_P} {d : Nat} {Q : s_O → Prop} {h : s_H} {kc ks : Nat} {r0 : Term} {x1 : Int} {t2 s0 : Term}  (k : wr P d sw_c465 sw_h465 (50, [r0, vi x1, t2], [vi 0, s0], h, kc, ks) Q)   : wr P d sw_c465 sw_h465 (49, [r0, vi x1, t2], [s0], h, kc, ks) Q := by
  refine w_c32 rfl (by decide) 0 (by decide) ?_
  exact k

theorem k465_50 {P : s_P} {d : Nat} {Q : s_O → Prop} {h : s_H} {kc ks : Nat} {r0 : Term} {x1 : Int} {t2 s0 : Term} {s1 : Int} {q1 : Nat} {f2 : List Term} {q7 : Nat} {f8 : List Term} {z10 : Int} (g3 : s_get h q1 = some (1, 11, f2)) (g9 : s_get (hp h q1 (1, 11, f2.set 0 (vi s1))) q7 = some (1, 11, f8)) (k1 : z10 ≤ 0 → wr P d sw_c465 sw_h465 (62, [.index q7, vi x1, t2], [], (hp h q1 (1, 11, f2.set 0 (vi s1))), kc, ks) Q) (k2 : ¬ z10 ≤ 0 → wr P d sw_c465 sw_h465 (60, [.index q7, vi x1, t2], [], (hp h q1 (1, 11, f2.set 0 (vi s1))), kc, ks) Q) (e_q1 : s0 = .index q1 := by first | rfl | assumption) (e_q7 : r0 = .index q7 := by first | rfl | assumption) (l4 : 0 < f2.length := by first | exact Nat.le_of_ble_eq_true rfl | omega | assumption) (y6 : s_ty r0 = 3 := by first | rfl | assumption) (n11 : s_nth f8 0 = some (vi z10) := by first | rfl | assumption) (c5 : 0 < q1 := by first | omega | assumption | (simp only [mk_len, List.length_map]; omega) | decide) (c12 : In3 z10 := by first | omega | assumption | (simp only [mk_len, List.length_map]; omega) | decide) : wr P d sw_c465 sw_h465 (50, [r0, vi x1, t2], [vi s1, s0], h, kc, ks) Q := by
  subst e_q1
  refine w_putf rfl g3 (Nat.ble_eq_true_of_le c5) rfl (Nat.ble_eq_true_of_le l4) ?_
  refine w_ld rfl rfl (Or.inr (Or.inr ⟨by decide, y6⟩)) ?_
  subst e_q7
  refine w_getf rfl g9 n11 ?_
  exact w_if1 rfl c12 k1 k2

theorem k465_60 {P : s_P} {d : Nat} {Q : s_O → Prop} {h : s_H} {kc ks : Nat} {r0 : Term} {x1 : Int} {t2 : Term}  (k : Q (.inl (some (vi 0)), h, kc, ks))   : wr P d sw_c465 sw_h465 (60, [r0, vi x1, t2], [], h, kc, ks) Q := by
  refine w_c32 rfl (by decide) 0 (by decide) ?_
  exact w_iret rfl k

theorem k465_62 {P : s_P} {d : Nat} {Q : s_O → Prop} {h : s_H} {kc ks : Nat} {r0 : Term} {x1 : Int} {t2 : Term} {q2 : Nat} {f3 : List Term} {v5 v7 : Term} (g4 : s_get h q2 = some (1, 11, f3)) (k : wm P d 505 [.index q2, v5, v7, vi x1] h (wq P d sw_c465 sw_h465 75 [.index q2, vi x1, t2] [] kc ks Q)) (e_q2 : r0 = .index q2 := by first | rfl | assumption) (y1 : s_ty r0 = 3 := by first | rfl | assumption) (n6 : s_nth f3 10 = some v5 := by first | rfl | assumption) (n8 : s_nth f3 11 = some v7 := by first | rfl | assumption)  : wr P d sw_c465 sw_h465 (62, [r0, vi x1, t2], [], h, kc, ks) Q := by
  refine w_ld rfl rfl (Or.inr (Or.inr ⟨by decide, y1⟩)) ?_
  refine w_ld rfl rfl (Or.inr (Or.inr ⟨by decide, y1⟩)) ?_
  subst e_q2
  refine w_getf rfl g4 n6 ?_
  refine w_ld rfl rfl (Or.inr (Or.inr ⟨by decide, rfl⟩)) ?_
  refine w_getf rfl g4 n8 ?_
  refine w_ld rfl rfl (Or.inl ⟨by decide, rfl⟩) ?_
  exact w_cv rfl [.index q2, v5, v7, vi x1] [] rfl rfl (s_wt_4 rfl) rfl g4 k

theorem k465_75 {P : s_P} {d : Nat} {Q : s_O → Prop} {h : s_H} {kc ks : Nat} {r0 : Term} {x1 : Int} {t2 : Term} {q2 : Nat} {f3 : List Term} (g4 : s_get h q2 = some (1, 11, f3)) (k : wm P d 469 [.index q2, vi x1, vi 1] h (wq P d sw_c465 sw_h465 81 [.index q2, vi x1, t2] [] kc ks Q)) (e_q2 : r0 = .index q2 := by first | rfl | assumption) (y1 : s_ty r0 = 3 := by first | rfl | assumption)  : wr P d sw_c465 sw_h465 (75, [r0, vi x1, t2], [], h, kc, ks) Q := by
  refine w_ld rfl rfl (Or.inr (Or.inr ⟨by decide, y1⟩)) ?_
  refine w_ld rfl rfl (Or.inl ⟨by decide, rfl⟩) ?_
  refine w_c32 rfl (by decide) 1 (by decide) ?_
  subst e_q2
  exact w_cv rfl [.index q2, vi x1, vi 1] [] rfl rfl (s_wt_4 rfl) rfl g4 k

theorem k465_81 {P : s_P} {d : Nat} {Q : s_O → Prop} {h : s_H} {kc ks : Nat} {r0 : Term} {x1 : Int} {t2 : Term} {s0 : Int}  (k1 : s0 = 0 → wr P d sw_c465 sw_h465 (135, [r0, vi x1, t2], [], h, kc, ks) Q) (k2 : ¬ s0 = 0 → wr P d sw_c465 sw_h465 (84, [r0, vi x1, t2], [], h, kc, ks) Q)  (c1 : In3 s0 := by first | omega | assumption | (simp only [mk_len, List.length_map]; omega) | decide) : wr P d sw_c465 sw_h465 (81, [r0, vi x1, t2], [vi s0], h, kc, ks) Q := by
  exact w_if1 rfl c1 k1 k2

theorem k465_84 {P : s_P} {d : Nat} {Q : s_O → Prop} {h : s_H} {kc ks : Nat} {r0 : Term} {x1 : Int} {t2 : Term} {q2 : Nat} {f3 : List Term} {v5 : Term} (g4 : s_get h q2 = some (1, 11, f3)) (k : wm P d 438 [v5] h (wq P d sw_c465 sw_h465 91 [.index q2, vi x1, t2] [] kc ks Q)) (e_q2 : r0 = .index q2 := by first | rfl | assumption) (y1 : s_ty r0 = 3 := by first | rfl | assumption) (n6 : s_nth f3 14 = some v5 := by first | rfl | assumption)  : wr P d sw_c465 sw_h465 (84, [r0, vi x1, t2], [], h, kc, ks) Q := by
  refine w_ld rfl rfl (Or.inr (Or.inr ⟨by decide, y1⟩)) ?_
  subst e_q2
  refine w_getf rfl g4 n6 ?_
  exact w_cs rfl [v5] [] rfl rfl (s_wt_4 rfl) k

theorem k465_91 {P : s_P} {d : Nat} {Q : s_O → Prop} {h : s_H} {kc ks : Nat} {r0 : Term} {x1 : Int} {t2 : Term}  (k : wr P d sw_c465 sw_h465 (93, [r0, vi x1, vi 1], [], h, kc, ks) Q)   : wr P d sw_c465 sw_h465 (91, [r0, vi x1, t2], [], h, kc, ks) Q := by
  refine w_c32 rfl (by decide) 1 (by decide) ?_
  refine w_st (ls' := [r0, vi x1, vi 1]) rfl (Or.inl ⟨by decide, rfl⟩) rfl ?_
  exact k

theorem k465_93 {P : s_P} {d : Nat} {Q : s_O → Prop} {h : s_H} {kc ks : Nat} {r0 : Term} {x1 x2 : Int}  (k1 : 25 ≤ x2 → wr P d sw_c465 sw_h465 (129, [r0, vi x1, vi x2], [], h, kc, ks) Q) (k2 : ¬ 25 ≤ x2 → wr P d sw_c465 sw_h465 (99, [r0, vi x1, vi x2], [], h, kc, ks) Q)  (c1 : In3 x2 := by first | omega | assumption | (simp only [mk_len, List.length_map]; omega) | decide) : wr P d sw_c465 sw_h465 (93, [r0, vi x1, vi x2], [], h, kc, ks) Q := by
  refine w_ld rfl rfl (Or.inl ⟨by decide, rfl⟩) ?_
  refine w_c32 rfl (by decide) 25 (by decide) ?_
  exact w_if2 rfl c1 (by decide) k1 k2

theorem k465_99 {P : s_P} {d : Nat} {Q : s_O → Prop} {h : s_H} {kc ks : Nat} {r0 : Term} {x1 x2 : Int} {q2 : Nat} {f3 : List Term} {v5 v7 : Term} {q9 : Nat} {a10 : List Int} (g4 : s_get h q2 = some (1, 11, f3)) (g11 : s_get h q9 = some (0, 1, a10.map vl)) (k : wm P d 467 [vl x2] h (wq P d sw_c465 sw_h465 117 [.index q2, vi x1, vi x2] [vl (gi a10 (x2 - 1)), vi x2, v5] kc ks Q)) (e_q2 : r0 = .index q2 := by first | rfl | assumption) (e_q9 : v7 = .index q9 := by first | rfl | assumption) (y1 : s_ty r0 = 3 := by first | rfl | assumption) (n6 : s_nth f3 14 = some v5 := by first | rfl | assumption) (n8 : s_nth f3 10 = some v7 := by first | rfl | assumption) (c12 : x2 - 1 < a10.length := by first | omega | assumption | (simp only [mk_len, List.length_map]; omega) | decide) (c13 : 0 ≤ x2 - 1 := by first | omega | assumption | (simp only [mk_len, List.length_map]; omega) | decide) (c14 : In3 (x2 - 1) := by first | omega | assumption | (simp only [mk_len, List.length_map]; omega) | decide) (c15 : In3 x2 := by first | omega | assumption | (simp only [mk_len, List.length_map]; omega) | decide) : wr P d sw_c465 sw_h465 (99, [r0, vi x1, vi x2], [], h, kc, ks) Q := by
  refine w_ld rfl rfl (Or.inr (Or.inr ⟨by decide, y1⟩)) ?_
  subst e_q2
  refine w_getf rfl g4 n6 ?_
  refine w_ld rfl rfl (Or.inl ⟨by decide, rfl⟩) ?_
  refine w_ld rfl rfl (Or.inr (Or.inr ⟨by decide, rfl⟩)) ?_
  refine w_getf rfl g4 n8 ?_
  refine w_ld rfl rfl (Or.inl ⟨by decide, rfl⟩) ?_
  refine w_c32 rfl (by decide) 1 (by decide) ?_
  refine w_isub rfl ?_
  subst e_q9
  refine w_lald rfl g11 c14 c13 c12 ?_
  refine w_ld rfl rfl (Or.inl ⟨by decide, rfl⟩) ?_
  refine w_i2l rfl c15 ?_
  exact w_cs rfl [vl x2] [vl (gi a10 (x2 - 1)), vi x2, v5] rfl rfl (s_wt_4 rfl) k

theorem k465_117 {P : s_P} {d : Nat} {Q : s_O → Prop} {h : s_H} {kc ks : Nat} {r0 : Term} {x1 x2 : Int} {s0 : Term} {s1 s2 s3 : Int} {q2 : Nat} {a3 : List Int} (g4 : s_get h q2 = some (0, 1, a3.map vl)) (k : wr P d sw_c465 sw_h465 (93, [r0, vi x1, vi (x2 + 1)], [], (hp h q2 (0, 1, (a3.set (Int.toNat (s1)) (Int.tmod (s2 * s3) 32003)).map vl)), kc, ks) Q) (e_q2 : s0 = .index q2 := by first | rfl | assumption) (c1 : In6 (s2 * s3) := by first | omega | assumption | (simp only [mk_len, List.length_map]; omega) | decide) (c5 : s1 < a3.length := by first | omega | assumption | (simp only [mk_len, List.length_map]; omega) | decide) (c6 : 0 ≤ s1 := by first | omega | assumption | (simp only [mk_len, List.length_map]; omega) | decide) (c7 : In3 s1 := by first | omega | assumption | (simp only [mk_len, List.length_map]; omega) | decide) (c8 : 0 < q2 := by first | omega | assumption | (simp only [mk_len, List.length_map]; omega) | decide) : wr P d sw_c465 sw_h465 (117, [r0, vi x1, vi x2], [vl s3, vl s2, vi s1, s0], h, kc, ks) Q := by
  refine w_lmul rfl ?_
  refine w_c64 rfl (by decide) 32003 (by decide) ?_
  refine w_lrem rfl c1 (by decide) (by decide) ?_
  subst e_q2
  refine w_last rfl g4 (Nat.ble_eq_true_of_le c8) c7 c6 c5 ?_
  refine w_iinc (ls' := [r0, vi x1, vi (x2 + 1)]) rfl rfl 1 (by decide) rfl ?_
  refine w_goto rfl ?_
  exact k

theorem k465_129 {P : s_P} {d : Nat} {Q : s_O → Prop} {h : s_H} {kc ks : Nat} {r0 : Term} {x1 x2 : Int} {q2 : Nat} {f3 : List Term} (g4 : s_get h q2 = some (1, 11, f3)) (k : wm P d 499 [.index q2, vi 3] h (wq P d sw_c465 sw_h465 134 [.index q2, vi x1, vi x2] [] kc ks Q)) (e_q2 : r0 = .index q2 := by first | rfl | assumption) (y1 : s_ty r0 = 3 := by first | rfl | assumption)  : wr P d sw_c465 sw_h465 (129, [r0, vi x1, vi x2], [], h, kc, ks) Q := by
  refine w_ld rfl rfl (Or.inr (Or.inr ⟨by decide, y1⟩)) ?_
  refine w_c32 rfl (by decide) 3 (by decide) ?_
  subst e_q2
  exact w_cv rfl [.index q2, vi 3] [] rfl rfl (s_wt_4 rfl) rfl g4 k

theorem k465_134 {P : s_P} {d : Nat} {Q : s_O → Prop} {h : s_H} {kc ks : Nat} {r0 : Term} {x1 x2 s0 : Int}  (k : Q (.inl (some (vi s0)), h, kc, ks))   : wr P d sw_c465 sw_h465 (134, [r0, vi x1, vi x2], [vi s0], h, kc, ks) Q := by
  exact w_iret rfl k

theorem k465_135 {P : s_P} {d : Nat} {Q : s_O → Prop} {h : s_H} {kc ks : Nat} {r0 : Term} {x1 : Int} {t2 : Term} {q2 : Nat} {f3 : List Term} (g4 : s_get h q2 = some (1, 11, f3)) (k : wm P d 449 [.index q2] h (wq P d sw_c465 sw_h465 139 [.index q2, vi x1, t2] [] kc ks Q)) (e_q2 : r0 = .index q2 := by first | rfl | assumption) (y1 : s_ty r0 = 3 := by first | rfl | assumption)  : wr P d sw_c465 sw_h465 (135, [r0, vi x1, t2], [], h, kc, ks) Q := by
  refine w_ld rfl rfl (Or.inr (Or.inr ⟨by decide, y1⟩)) ?_
  subst e_q2
  exact w_cv rfl [.index q2] [] rfl rfl (s_wt_4 rfl) rfl g4 k

theorem k465_139 {P : s_P} {d : Nat} {Q : s_O → Prop} {h : s_H} {kc ks : Nat} {r0 : Term} {x1 : Int} {t2 : Term} {q2 : Nat} {f3 : List Term} {v5 : Term} (g4 : s_get h q2 = some (1, 11, f3)) (k : wm P d 463 [v5] h (wq P d sw_c465 sw_h465 146 [.index q2, vi x1, t2] [] kc ks Q)) (e_q2 : r0 = .index q2 := by first | rfl | assumption) (y1 : s_ty r0 = 3 := by first | rfl | assumption) (n6 : s_nth f3 41 = some v5 := by first | rfl | assumption)  : wr P d sw_c465 sw_h465 (139, [r0, vi x1, t2], [], h, kc, ks) Q := by
  refine w_ld rfl rfl (Or.inr (Or.inr ⟨by decide, y1⟩)) ?_
  subst e_q2
  refine w_getf rfl g4 n6 ?_
  exact w_cs rfl [v5] [] rfl rfl (s_wt_4 rfl) k

theorem k465_146 {P : s_P} {d : Nat} {Q : s_O → Prop} {h : s_H} {kc ks : Nat} {r0 : Term} {x1 : Int} {t2 : Term} {s0 : Int}  (k1 : s0 < 0 → wr P d sw_c465 sw_h465 (151, [r0, vi x1, t2], [], h, kc, ks) Q) (k2 : ¬ s0 < 0 → wr P d sw_c465 sw_h465 (149, [r0, vi x1, t2], [], h, kc, ks) Q)  (c1 : In3 s0 := by first | omega | assumption | (simp only [mk_len, List.length_map]; omega) | decide) : wr P d sw_c465 sw_h465 (146, [r0, vi x1, t2], [vi s0], h, kc, ks) Q := by
  exact w_if1 rfl c1 k1 k2

theorem k465_149 {P : s_P} {d : Nat} {Q : s_O → Prop} {h : s_H} {kc ks : Nat} {r0 : Term} {x1 : Int} {t2 : Term}  (k : Q (.inl (some (vi (-1))), h, kc, ks))   : wr P d sw_c465 sw_h465 (149, [r0, vi x1, t2], [], h, kc, ks) Q := by
  refine w_c32 rfl (by decide) (-1) (by decide) ?_
  exact w_iret rfl k

theorem k465_151 {P : s_P} {d : Nat} {Q : s_O → Prop} {h : s_H} {kc ks : Nat} {r0 : Term} {x1 : Int} {t2 : Term} {q2 : Nat} {f3 : List Term} (g4 : s_get h q2 = some (1, 11, f3)) (k : wm P d 520 [.index q2] h (wq P d sw_c465 sw_h465 155 [.index q2, vi x1, t2] [] kc ks Q)) (e_q2 : r0 = .index q2 := by first | rfl | assumption) (y1 : s_ty r0 = 3 := by first | rfl | assumption)  : wr P d sw_c465 sw_h465 (151, [r0, vi x1, t2], [], h, kc, ks) Q := by
  refine w_ld rfl rfl (Or.inr (Or.inr ⟨by decide, y1⟩)) ?_
  subst e_q2
  exact w_cv rfl [.index q2] [] rfl rfl (s_wt_4 rfl) rfl g4 k

theorem k465_155 {P : s_P} {d : Nat} {Q : s_O → Prop} {h : s_H} {kc ks : Nat} {r0 : Term} {x1 : Int} {t2 : Term} {q2 : Nat} {f3 : List Term} (g4 : s_get h q2 = some (1, 11, f3)) (k : wm P d 495 [.index q2, vi 3] h (wq P d sw_c465 sw_h465 160 [.index q2, vi x1, t2] [] kc ks Q)) (e_q2 : r0 = .index q2 := by first | rfl | assumption) (y1 : s_ty r0 = 3 := by first | rfl | assumption)  : wr P d sw_c465 sw_h465 (155, [r0, vi x1, t2], [], h, kc, ks) Q := by
  refine w_ld rfl rfl (Or.inr (Or.inr ⟨by decide, y1⟩)) ?_
  refine w_c32 rfl (by decide) 3 (by decide) ?_
  subst e_q2
  exact w_cv rfl [.index q2, vi 3] [] rfl rfl (s_wt_4 rfl) rfl g4 k

theorem k465_160 {P : s_P} {d : Nat} {Q : s_O → Prop} {h : s_H} {kc ks : Nat} {r0 : Term} {x1 : Int} {t2 : Term} {s0 : Int}  (k : Q (.inl (some (vi s0)), h, kc, ks))   : wr P d sw_c465 sw_h465 (160, [r0, vi x1, t2], [vi s0], h, kc, ks) Q := by
  exact w_iret rfl k

/-! 466: FormulaWorksModel.invariant(II)I -/
theorem k466_0 {P : s_P} {d : Nat} {Q : s_O → Prop} {h : s_H} {kc ks : Nat} {r0 : Term} {x1 x2 : Int} {q2 : Nat} {f3 : List Term} (g4 : s_get h q2 = some (1, 11, f3)) (k : wm P d 481 [.index q2, vi x1, vi 2] h (wq P d sw_c466 sw_h466 6 [.index q2, vi x1, vi x2] [] kc ks Q)) (e_q2 : r0 = .index q2 := by first | rfl | assumption) (y1 : s_ty r0 = 3 := by first | rfl | assumption)  : wr P d sw_c466 sw_h466 (0, [r0, vi x1, vi x2], [], h, kc, ks) Q := by
  refine w_ld rfl rfl (Or.inr (Or.inr ⟨by decide, y1⟩)) ?_
  refine w_ld rfl rfl (Or.inl ⟨by decide, rfl⟩) ?_
  refine w_c32 rfl (by decide) 2 (by decide) ?_
  subst e_q2
  exact w_cv rfl [.index q2, vi x1, vi 2] [] rfl rfl (s_wt_4 rfl) rfl g4 k

theorem k466_6 {P : s_P} {d : Nat} {Q : s_O → Prop} {h : s_H} {kc ks : Nat} {r0 : Term} {x1 x2 s0 : Int}  (k1 : s0 ≠ 0 → wr P d sw_c466 sw_h466 (11, [r0, vi x1, vi x2], [], h, kc, ks) Q) (k2 : ¬ s0 ≠ 0 → wr P d sw_c466 sw_h466 (9, [r0, vi x1, vi x2], [], h, kc, ks) Q)  (c1 : In3 s0 := by first | omega | assumption | (simp only [mk_len, List.length_map]; omega) | decide) : wr P d sw_c466 sw_h466 (6, [r0, vi x1, vi x2], [vi s0], h, kc, ks) Q := by
  exact w_if1 rfl c1 k1 k2

theorem k466_9 {P : s_P} {d : Nat} {Q : s_O → Prop} {h : s_H} {kc ks : Nat} {r0 : Term} {x1 x2 : Int}  (k : Q (.inl (some (vi 0)), h, kc, ks))   : wr P d sw_c466 sw_h466 (9, [r0, vi x1, vi x2], [], h, kc, ks) Q := by
  refine w_c32 rfl (by decide) 0 (by decide) ?_
  exact w_iret rfl k

theorem k466_11 {P : s_P} {d : Nat} {Q : s_O → Prop} {h : s_H} {kc ks : Nat} {r0 : Term} {x1 x2 : Int} {q3 : Nat} {f4 : List Term} (g5 : s_get h q3 = some (1, 11, f4)) (k : wm P d 572 [.index q3, vi x1] h (wq P d sw_c466 sw_h466 19 [.index q3, vi x1, vi x2] [vl 0, vl x2] kc ks Q)) (e_q3 : r0 = .index q3 := by first | rfl | assumption) (y2 : s_ty r0 = 3 := by first | rfl | assumption) (c1 : In3 x2 := by first | omega | assumption | (simp only [mk_len, List.length_map]; omega) | decide) : wr P d sw_c466 sw_h466 (11, [r0, vi x1, vi x2], [], h, kc, ks) Q := by
  refine w_ld rfl rfl (Or.inl ⟨by decide, rfl⟩) ?_
  refine w_i2l rfl c1 ?_
  refine w_c64 rfl (by decide) 0 (by decide) ?_
  refine w_ld rfl rfl (Or.inr (Or.inr ⟨by decide, y2⟩)) ?_
  refine w_ld rfl rfl (Or.inl ⟨by decide, rfl⟩) ?_
  subst e_q3
  exact w_cv rfl [.index q3, vi x1] [vl 0, vl x2] rfl rfl (s_wt_4 rfl) rfl g5 k

theorem k466_19 {P : s_P} {d : Nat} {Q : s_O → Prop} {h : s_H} {kc ks : Nat} {r0 : Term} {x1 x2 s0 s1 s2 : Int}  (k : wm P d 464 [vl s0, vl s1, vl (s2 - 1)] h (wq P d sw_c466 sw_h466 25 [r0, vi x1, vi x2] [] kc ks Q))  (c1 : In3 (s2 - 1) := by first | omega | assumption | (simp only [mk_len, List.length_map]; omega) | decide) : wr P d sw_c466 sw_h466 (19, [r0, vi x1, vi x2], [vi s2, vl s1, vl s0], h, kc, ks) Q := by
  refine w_c32 rfl (by decide) 1 (by decide) ?_
  refine w_isub rfl ?_
  refine w_i2l rfl c1 ?_
  exact w_cs rfl [vl s0, vl s1, vl (s2 - 1)] [] rfl rfl (s_wt_4 rfl) k

theorem k466_25 {P : s_P} {d : Nat} {Q : s_O → Prop} {h : s_H} {kc ks : Nat} {r0 : Term} {x1 x2 s0 : Int}  (k1 : s0 ≠ 0 → wr P d sw_c466 sw_h466 (34, [r0, vi x1, vi x2], [], h, kc, ks) Q) (k2 : ¬ s0 ≠ 0 → wr P d sw_c466 sw_h466 (28, [r0, vi x1, vi x2], [], h, kc, ks) Q)  (c1 : In3 s0 := by first | omega | assumption | (simp only [mk_len, List.length_map]; omega) | decide) : wr P d sw_c466 sw_h466 (25, [r0, vi x1, vi x2], [vi s0], h, kc, ks) Q := by
  exact w_if1 rfl c1 k1 k2

theorem k466_28 {P : s_P} {d : Nat} {Q : s_O → Prop} {h : s_H} {kc ks : Nat} {r0 : Term} {x1 x2 : Int} {q2 : Nat} {f3 : List Term} (g4 : s_get h q2 = some (1, 11, f3)) (k : wm P d 570 [.index q2, vi 1] h (wq P d sw_c466 sw_h466 33 [.index q2, vi x1, vi x2] [] kc ks Q)) (e_q2 : r0 = .index q2 := by first | rfl | assumption) (y1 : s_ty r0 = 3 := by first | rfl | assumption)  : wr P d sw_c466 sw_h466 (28, [r0, vi x1, vi x2], [], h, kc, ks) Q := by
  refine w_ld rfl rfl (Or.inr (Or.inr ⟨by decide, y1⟩)) ?_
  refine w_c32 rfl (by decide) 1 (by decide) ?_
  subst e_q2
  exact w_cv rfl [.index q2, vi 1] [] rfl rfl (s_wt_4 rfl) rfl g4 k

theorem k466_33 {P : s_P} {d : Nat} {Q : s_O → Prop} {h : s_H} {kc ks : Nat} {r0 : Term} {x1 x2 s0 : Int}  (k : Q (.inl (some (vi s0)), h, kc, ks))   : wr P d sw_c466 sw_h466 (33, [r0, vi x1, vi x2], [vi s0], h, kc, ks) Q := by
  exact w_iret rfl k

theorem k466_34 {P : s_P} {d : Nat} {Q : s_O → Prop} {h : s_H} {kc ks : Nat} {r0 : Term} {x1 x2 : Int} {q2 : Nat} {f3 : List Term} {v5 : Term} (g4 : s_get h q2 = some (1, 11, f3)) (k : wm P d 436 [.index q2, v5, vi x1, vi (x2 + 1)] h (wq P d sw_c466 sw_h466 46 [.index q2, vi x1, vi x2] [] kc ks Q)) (e_q2 : r0 = .index q2 := by first | rfl | assumption) (y1 : s_ty r0 = 3 := by first | rfl | assumption) (n6 : s_nth f3 14 = some v5 := by first | rfl | assumption)  : wr P d sw_c466 sw_h466 (34, [r0, vi x1, vi x2], [], h, kc, ks) Q := by
  refine w_ld rfl rfl (Or.inr (Or.inr ⟨by decide, y1⟩)) ?_
  refine w_ld rfl rfl (Or.inr (Or.inr ⟨by decide, y1⟩)) ?_
  subst e_q2
  refine w_getf rfl g4 n6 ?_
  refine w_ld rfl rfl (Or.inl ⟨by decide, rfl⟩) ?_
  refine w_ld rfl rfl (Or.inl ⟨by decide, rfl⟩) ?_
  refine w_c32 rfl (by decide) 1 (by decide) ?_
  refine w_iadd rfl ?_
  exact w_cv rfl [.index q2, v5, vi x1, vi (x2 + 1)] [] rfl rfl (s_wt_4 rfl) rfl g4 k

theorem k466_46 {P : s_P} {d : Nat} {Q : s_O → Prop} {h : s_H} {kc ks : Nat} {r0 : Term} {x1 x2 : Int} {q2 : Nat} {f3 : List Term} {v5 : Term} (g4 : s_get h q2 = some (1, 11, f3)) (k : wm P d 436 [.index q2, v5, vi x1, vi x2] h (wq P d sw_c466 sw_h466 56 [.index q2, vi x1, vi x2] [] kc ks Q)) (e_q2 : r0 = .index q2 := by first | rfl | assumption) (y1 : s_ty r0 = 3 := by first | rfl | assumption) (n6 : s_nth f3 23 = some v5 := by first | rfl | assumption)  : wr P d sw_c466 sw_h466 (46, [r0, vi x1, vi x2], [], h, kc, ks) Q := by
  refine w_ld rfl rfl (Or.inr (Or.inr ⟨by decide, y1⟩)) ?_
  refine w_ld rfl rfl (Or.inr (Or.inr ⟨by decide, y1⟩)) ?_
  subst e_q2
  refine w_getf rfl g4 n6 ?_
  refine w_ld rfl rfl (Or.inl ⟨by decide, rfl⟩) ?_
  refine w_ld rfl rfl (Or.inl ⟨by decide, rfl⟩) ?_
  exact w_cv rfl [.index q2, v5, vi x1, vi x2] [] rfl rfl (s_wt_4 rfl) rfl g4 k

theorem k466_56 {P : s_P} {d : Nat} {Q : s_O → Prop} {h : s_H} {kc ks : Nat} {r0 : Term} {x1 x2 : Int} {q2 : Nat} {f3 : List Term} {v5 v7 : Term} (g4 : s_get h q2 = some (1, 11, f3)) (k : wm P d 434 [.index q2, v5, v7] h (wq P d sw_c466 sw_h466 68 [.index q2, vi x1, vi x2] [] kc ks Q)) (e_q2 : r0 = .index q2 := by first | rfl | assumption) (y1 : s_ty r0 = 3 := by first | rfl | assumption) (n6 : s_nth f3 14 = some v5 := by first | rfl | assumption) (n8 : s_nth f3 23 = some v7 := by first | rfl | assumption)  : wr P d sw_c466 sw_h466 (56, [r0, vi x1, vi x2], [], h, kc, ks) Q := by
  refine w_ld rfl rfl (Or.inr (Or.inr ⟨by decide, y1⟩)) ?_
  refine w_ld rfl rfl (Or.inr (Or.inr ⟨by decide, y1⟩)) ?_
  subst e_q2
  refine w_getf rfl g4 n6 ?_
  refine w_ld rfl rfl (Or.inr (Or.inr ⟨by decide, rfl⟩)) ?_
  refine w_getf rfl g4 n8 ?_
  exact w_cv rfl [.index q2, v5, v7] [] rfl rfl (s_wt_4 rfl) rfl g4 k

theorem k466_68 {P : s_P} {d : Nat} {Q : s_O → Prop} {h : s_H} {kc ks : Nat} {r0 : Term} {x1 x2 : Int} {q2 : Nat} {f3 : List Term} {v5 : Term} (g4 : s_get h q2 = some (1, 11, f3)) (k : wm P d 405 [v5, vl 1] h (wq P d sw_c466 sw_h466 76 [.index q2, vi x1, vi x2] [] kc ks Q)) (e_q2 : r0 = .index q2 := by first | rfl | assumption) (y1 : s_ty r0 = 3 := by first | rfl | assumption) (n6 : s_nth f3 15 = some v5 := by first | rfl | assumption)  : wr P d sw_c466 sw_h466 (68, [r0, vi x1, vi x2], [], h, kc, ks) Q := by
  refine w_ld rfl rfl (Or.inr (Or.inr ⟨by decide, y1⟩)) ?_
  subst e_q2
  refine w_getf rfl g4 n6 ?_
  refine w_c64 rfl (by decide) 1 (by decide) ?_
  exact w_cs rfl [v5, vl 1] [] rfl rfl (s_wt_4 rfl) k

theorem k466_76 {P : s_P} {d : Nat} {Q : s_O → Prop} {h : s_H} {kc ks : Nat} {r0 : Term} {x1 x2 : Int} {q2 : Nat} {f3 : List Term} (g4 : s_get h q2 = some (1, 11, f3)) (k : wm P d 495 [.index q2, vi 3] h (wq P d sw_c466 sw_h466 81 [.index q2, vi x1, vi x2] [] kc ks Q)) (e_q2 : r0 = .index q2 := by first | rfl | assumption) (y1 : s_ty r0 = 3 := by first | rfl | assumption)  : wr P d sw_c466 sw_h466 (76, [r0, vi x1, vi x2], [], h, kc, ks) Q := by
  refine w_ld rfl rfl (Or.inr (Or.inr ⟨by decide, y1⟩)) ?_
  refine w_c32 rfl (by decide) 3 (by decide) ?_
  subst e_q2
  exact w_cv rfl [.index q2, vi 3] [] rfl rfl (s_wt_4 rfl) rfl g4 k

theorem k466_81 {P : s_P} {d : Nat} {Q : s_O → Prop} {h : s_H} {kc ks : Nat} {r0 : Term} {x1 x2 s0 : Int}  (k : Q (.inl (some (vi s0)), h, kc, ks))   : wr P d sw_c466 sw_h466 (81, [r0, vi x1, vi x2], [vi s0], h, kc, ks) Q := by
  exact w_iret rfl k

/-! 467: FormulaWorksModel.inverse(J)J -/
theorem k467_0 {P : s_P} {d : Nat} {Q : s_O → Prop} {h : s_H} {kc ks : Nat} {x0 : Int} {t1 t2 t3 t4 t5 t6 : Term}  (k : wm P d 528 [vl x0] h (wq P d sw_c467 sw_h467 6 [vl x0, (s_uu t1), vl 1, .result, t4, t5, t6] [] kc ks Q))   : wr P d sw_c467 sw_h467 (0, [vl x0, t1, t2, t3, t4, t5, t6], [], h, kc, ks) Q := by
  refine w_c64 rfl (by decide) 1 (by decide) ?_
  refine w_stl (ls' := [vl x0, (s_uu t1), vl 1, t3, t4, t5, t6]) (ls'' := [vl x0, (s_uu t1), vl 1, .result, t4, t5, t6]) rfl ⟨by decide, rfl⟩ (s_stK_t (pre := [vl x0])) rfl ?_
  refine w_ld rfl rfl (Or.inr (Or.inl ⟨by decide, rfl⟩)) ?_
  exact w_cs rfl [vl x0] [] rfl rfl (s_wt_4 rfl) k

theorem k467_6 {P : s_P} {d : Nat} {Q : s_O → Prop} {h : s_H} {kc ks : Nat} {x0 : Int} {t1 : Term} {x2 : Int} {t3 t4 t5 t6 : Term} {s0 : Int}  (k : wr P d sw_c467 sw_h467 (13, [vl x0, t1, vl x2, (s_uu t3), vl s0, .result, vi 32001], [], h, kc, ks) Q)   : wr P d sw_c467 sw_h467 (6, [vl x0, t1, vl x2, t3, t4, t5, t6], [vl s0], h, kc, ks) Q := by
  refine w_stl (ls' := [vl x0, t1, vl x2, (s_uu t3), vl s0, t5, t6]) (ls'' := [vl x0, t1, vl x2, (s_uu t3), vl s0, .result, t6]) rfl ⟨by decide, rfl⟩ (s_stK_t (pre := [vl x0, t1, vl x2])) rfl ?_
  refine w_c32 rfl (by decide) 32001 (by decide) ?_
  refine w_st (ls' := [vl x0, t1, vl x2, (s_uu t3), vl s0, .result, vi 32001]) rfl (Or.inl ⟨by decide, rfl⟩) rfl ?_
  exact k

theorem k467_13 {P : s_P} {d : Nat} {Q : s_O → Prop} {h : s_H} {kc ks : Nat} {x0 : Int} {t1 : Term} {x2 : Int} {t3 : Term} {x4 : Int} {t5 : Term} {x6 : Int}  (k1 : x6 ≤ 0 → wr P d sw_c467 sw_h467 (59, [vl x0, t1, vl x2, t3, vl x4, t5, vi x6], [], h, kc, ks) Q) (k2 : ¬ x6 ≤ 0 → wr P d sw_c467 sw_h467 (18, [vl x0, t1, vl x2, t3, vl x4, t5, vi x6], [], h, kc, ks) Q)  (c1 : In3 x6 := by first | omega | assumption | (simp only [mk_len, List.length_map]; omega) | decide) : wr P d sw_c467 sw_h467 (13, [vl x0, t1, vl x2, t3, vl x4, t5, vi x6], [], h, kc, ks) Q := by
  refine w_ld rfl rfl (Or.inl ⟨by decide, rfl⟩) ?_
  exact w_if1 rfl c1 k1 k2

theorem k467_18 {P : s_P} {d : Nat} {Q : s_O → Prop} {h : s_H} {kc ks : Nat} {x0 : Int} {t1 : Term} {x2 : Int} {t3 : Term} {x4 : Int} {t5 : Term} {x6 : Int}  (k1 : Int.tmod x6 2 ≠ 1 → wr P d sw_c467 sw_h467 (37, [vl x0, t1, vl x2, t3, vl x4, t5, vi x6], [], h, kc, ks) Q) (k2 : ¬ Int.tmod x6 2 ≠ 1 → wr P d sw_c467 sw_h467 (26, [vl x0, t1, vl x2, t3, vl x4, t5, vi x6], [], h, kc, ks) Q)  (c1 : In3 x6 := by first | omega | assumption | (simp only [mk_len, List.length_map]; omega) | decide) (c2 : In3 (Int.tmod x6 2) := by first | omega | assumption | (simp only [mk_len, List.length_map]; omega) | decide) : wr P d sw_c467 sw_h467 (18, [vl x0, t1, vl x2, t3, vl x4, t5, vi x6], [], h, kc, ks) Q := by
  refine w_ld rfl rfl (Or.inl ⟨by decide, rfl⟩) ?_
  refine w_c32 rfl (by decide) 2 (by decide) ?_
  refine w_irem rfl c1 (by decide) (by decide) ?_
  refine w_c32 rfl (by decide) 1 (by decide) ?_
  exact w_if2 rfl c2 (by decide) k1 k2

theorem k467_26 {P : s_P} {d : Nat} {Q : s_O → Prop} {h : s_H} {kc ks : Nat} {x0 : Int} {t1 : Term} {x2 : Int} {t3 : Term} {x4 : Int} {t5 : Term} {x6 : Int}  (k : wr P d sw_c467 sw_h467 (38, [vl x0, t1, vl x2, t3, vl x4, t5, vi x6], [vl (Int.tmod (x2 * x4) 32003)], h, kc, ks) Q)  (c1 : In6 (x2 * x4) := by first | omega | assumption | (simp only [mk_len, List.length_map]; omega) | decide) : wr P d sw_c467 sw_h467 (26, [vl x0, t1, vl x2, t3, vl x4, t5, vi x6], [], h, kc, ks) Q := by
  refine w_ld rfl rfl (Or.inr (Or.inl ⟨by decide, rfl⟩)) ?_
  refine w_ld rfl rfl (Or.inr (Or.inl ⟨by decide, rfl⟩)) ?_
  refine w_lmul rfl ?_
  refine w_c64 rfl (by decide) 32003 (by decide) ?_
  refine w_lrem rfl c1 (by decide) (by decide) ?_
  refine w_goto rfl ?_
  exact k

theorem k467_37 {P : s_P} {d : Nat} {Q : s_O → Prop} {h : s_H} {kc ks : Nat} {x0 : Int} {t1 : Term} {x2 : Int} {t3 : Term} {x4 : Int} {t5 : Term} {x6 : Int}  (k : wr P d sw_c467 sw_h467 (38, [vl x0, t1, vl x2, t3, vl x4, t5, vi x6], [vl x2], h, kc, ks) Q)   : wr P d sw_c467 sw_h467 (37, [vl x0, t1, vl x2, t3, vl x4, t5, vi x6], [], h, kc, ks) Q := by
  refine w_ld rfl rfl (Or.inr (Or.inl ⟨by decide, rfl⟩)) ?_
  exact k

theorem k467_38 {P : s_P} {d : Nat} {Q : s_O → Prop} {h : s_H} {kc ks : Nat} {x0 : Int} {t1 : Term} {x2 : Int} {t3 : Term} {x4 : Int} {t5 : Term} {x6 s0 : Int}  (k : wr P d sw_c467 sw_h467 (13, [vl x0, (s_uu t1), vl s0, .result, vl (Int.tmod (x4 * x4) 32003), .result, vi (Int.tdiv x6 2)], [], h, kc, ks) Q)  (c1 : In6 (x4 * x4) := by first | omega | assumption | (simp only [mk_len, List.length_map]; omega) | decide) (c2 : In3 x6 := by first | omega | assumption | (simp only [mk_len, List.length_map]; omega) | decide) : wr P d sw_c467 sw_h467 (38, [vl x0, t1, vl x2, t3, vl x4, t5, vi x6], [vl s0], h, kc, ks) Q := by
  refine w_stl (ls' := [vl x0, (s_uu t1), vl s0, t3, vl x4, t5, vi x6]) (ls'' := [vl x0, (s_uu t1), vl s0, .result, vl x4, t5, vi x6]) rfl ⟨by decide, rfl⟩ (s_stK_t (pre := [vl x0])) rfl ?_
  refine w_ld rfl rfl (Or.inr (Or.inl ⟨by decide, rfl⟩)) ?_
  refine w_ld rfl rfl (Or.inr (Or.inl ⟨by decide, rfl⟩)) ?_
  refine w_lmul rfl ?_
  refine w_c64 rfl (by decide) 32003 (by decide) ?_
  refine w_lrem rfl c1 (by decide) (by decide) ?_
  refine w_stl (ls' := [vl x0, (s_uu t1), vl s0, .result, vl (Int.tmod (x4 * x4) 32003), t5, vi x6]) (ls'' := [vl x0, (s_uu t1), vl s0, .result, vl (Int.tmod (x4 * x4) 32003), .result, vi x6]) rfl ⟨by decide, rfl⟩ rfl rfl ?_
  refine w_ld rfl rfl (Or.inl ⟨by decide, rfl⟩) ?_
  refine w_c32 rfl (by decide) 2 (by decide) ?_
  refine w_idiv rfl c2 (by decide) (by decide) ?_
  refine w_st (ls' := [vl x0, (s_uu t1), vl s0, .result, vl (Int.tmod (x4 * x4) 32003), .result, vi (Int.tdiv x6 2)]) rfl (Or.inl ⟨by decide, rfl⟩) rfl ?_
  refine w_goto rfl ?_
  exact k

theorem k467_59 {P : s_P} {d : Nat} {Q : s_O → Prop} {h : s_H} {kc ks : Nat} {x0 : Int} {t1 : Term} {x2 : Int} {t3 : Term} {x4 : Int} {t5 : Term} {x6 : Int}  (k : Q (.inl (some (vl x2)), h, kc, ks))   : wr P d sw_c467 sw_h467 (59, [vl x0, t1, vl x2, t3, vl x4, t5, vi x6], [], h, kc, ks) Q := by
  refine w_ld rfl rfl (Or.inr (Or.inl ⟨by decide, rfl⟩)) ?_
  exact w_lret rfl k

/-! 468: FormulaWorksModel.invertModulo([J[J)V -/
theorem k468_0 {P : s_P} {d : Nat} {Q : s_O → Prop} {h : s_H} {kc ks : Nat} {r0 r1 r2 t3 t4 t5 : Term} {q2 : Nat} {f3 : List Term} {v5 : Term} (g4 : s_get h q2 = some (1, 11, f3)) (k : wm P d 425 [v5, r2] h (wq P d sw_c468 sw_h468 8 [.index q2, r1, r2, t3, t4, t5] [] kc ks Q)) (e_q2 : r0 = .index q2 := by first | rfl | assumption) (y1 : s_ty r0 = 3 := by first | rfl | assumption) (n6 : s_nth f3 18 = some v5 := by first | rfl | assumption) (y7 : s_ty r2 = 3 := by first | rfl | assumption)  : wr P d sw_c468 sw_h468 (0, [r0, r1, r2, t3, t4, t5], [], h, kc, ks) Q := by
  refine w_ld rfl rfl (Or.inr (Or.inr ⟨by decide, y1⟩)) ?_
  subst e_q2
  refine w_getf rfl g4 n6 ?_
  refine w_ld rfl rfl (Or.inr (Or.inr ⟨by decide, y7⟩)) ?_
  exact w_cs rfl [v5, r2] [] rfl rfl (s_wt_4 rfl) k

theorem k468_8 {P : s_P} {d : Nat} {Q : s_O → Prop} {h : s_H} {kc ks : Nat} {r0 r1 r2 t3 t4 t5 : Term} {q2 : Nat} {f3 : List Term} {v5 : Term} (g4 : s_get h q2 = some (1, 11, f3)) (k : wm P d 425 [v5, r1] h (wq P d sw_c468 sw_h468 16 [.index q2, r1, r2, t3, t4, t5] [] kc ks Q)) (e_q2 : r0 = .index q2 := by first | rfl | assumption) (y1 : s_ty r0 = 3 := by first | rfl | assumption) (n6 : s_nth f3 19 = some v5 := by first | rfl | assumption) (y7 : s_ty r1 = 3 := by first | rfl | assumption)  : wr P d sw_c468 sw_h468 (8, [r0, r1, r2, t3, t4, t5], [], h, kc, ks) Q := by
  refine w_ld rfl rfl (Or.inr (Or.inr ⟨by decide, y1⟩)) ?_
  subst e_q2
  refine w_getf rfl g4 n6 ?_
  refine w_ld rfl rfl (Or.inr (Or.inr ⟨by decide, y7⟩)) ?_
  exact w_cs rfl [v5, r1] [] rfl rfl (s_wt_4 rfl) k

theorem k468_16 {P : s_P} {d : Nat} {Q : s_O → Prop} {h : s_H} {kc ks : Nat} {r0 r1 r2 t3 t4 t5 : Term} {q2 : Nat} {f3 : List Term} {v5 : Term} (g4 : s_get h q2 = some (1, 11, f3)) (k : wm P d 433 [.index q2, v5, r2] h (wq P d sw_c468 sw_h468 25 [.index q2, r1, r2, t3, t4, t5] [] kc ks Q)) (e_q2 : r0 = .index q2 := by first | rfl | assumption) (y1 : s_ty r0 = 3 := by first | rfl | assumption) (n6 : s_nth f3 19 = some v5 := by first | rfl | assumption) (y7 : s_ty r2 = 3 := by first | rfl | assumption)  : wr P d sw_c468 sw_h468 (16, [r0, r1, r2, t3, t4, t5], [], h, kc, ks) Q := by
  refine w_ld rfl rfl (Or.inr (Or.inr ⟨by decide, y1⟩)) ?_
  refine w_ld rfl rfl (Or.inr (Or.inr ⟨by decide, y1⟩)) ?_
  subst e_q2
  refine w_getf rfl g4 n6 ?_
  refine w_ld rfl rfl (Or.inr (Or.inr ⟨by decide, y7⟩)) ?_
  exact w_cv rfl [.index q2, v5, r2] [] rfl rfl (s_wt_4 rfl) rfl g4 k

theorem k468_25 {P : s_P} {d : Nat} {Q : s_O → Prop} {h : s_H} {kc ks : Nat} {r0 r1 r2 t3 t4 t5 : Term} {q2 : Nat} {f3 : List Term} {v5 : Term} (g4 : s_get h q2 = some (1, 11, f3)) (k : wm P d 438 [v5] h (wq P d sw_c468 sw_h468 32 [.index q2, r1, r2, t3, t4, t5] [] kc ks Q)) (e_q2 : r0 = .index q2 := by first | rfl | assumption) (y1 : s_ty r0 = 3 := by first | rfl | assumption) (n6 : s_nth f3 21 = some v5 := by first | rfl | assumption)  : wr P d sw_c468 sw_h468 (25, [r0, r1, r2, t3, t4, t5], [], h, kc, ks) Q := by
  refine w_ld rfl rfl (Or.inr (Or.inr ⟨by decide, y1⟩)) ?_
  subst e_q2
  refine w_getf rfl g4 n6 ?_
  exact w_cs rfl [v5] [] rfl rfl (s_wt_4 rfl) k

theorem k468_32 {P : s_P} {d : Nat} {Q : s_O → Prop} {h : s_H} {kc ks : Nat} {r0 r1 r2 t3 t4 t5 : Term} {q2 : Nat} {f3 : List Term} {v5 : Term} (g4 : s_get h q2 = some (1, 11, f3)) (k : wm P d 405 [v5, vl 1] h (wq P d sw_c468 sw_h468 40 [.index q2, r1, r2, t3, t4, t5] [] kc ks Q)) (e_q2 : r0 = .index q2 := by first | rfl | assumption) (y1 : s_ty r0 = 3 := by first | rfl | assumption) (n6 : s_nth f3 20 = some v5 := by first | rfl | assumption)  : wr P d sw_c468 sw_h468 (32, [r0, r1, r2, t3, t4, t5], [], h, kc, ks) Q := by
  refine w_ld rfl rfl (Or.inr (Or.inr ⟨by decide, y1⟩)) ?_
  subst e_q2
  refine w_getf rfl g4 n6 ?_
  refine w_c64 rfl (by decide) 1 (by decide) ?_
  exact w_cs rfl [v5, vl 1] [] rfl rfl (s_wt_4 rfl) k

theorem k468_40 {P : s_P} {d : Nat} {Q : s_O → Prop} {h : s_H} {kc ks : Nat} {r0 r1 r2 t3 t4 t5 : Term} {q2 : Nat} {f3 : List Term} {v5 : Term} (g4 : s_get h q2 = some (1, 11, f3)) (k : wm P d 463 [v5] h (wq P d sw_c468 sw_h468 47 [.index q2, r1, r2, t3, t4, t5] [] kc ks Q)) (e_q2 : r0 = .index q2 := by first | rfl | assumption) (y1 : s_ty r0 = 3 := by first | rfl | assumption) (n6 : s_nth f3 19 = some v5 := by first | rfl | assumption)  : wr P d sw_c468 sw_h468 (40, [r0, r1, r2, t3, t4, t5], [], h, kc, ks) Q := by
  refine w_ld rfl rfl (Or.inr (Or.inr ⟨by decide, y1⟩)) ?_
  subst e_q2
  refine w_getf rfl g4 n6 ?_
  exact w_cs rfl [v5] [] rfl rfl (s_wt_4 rfl) k

theorem k468_47 {P : s_P} {d : Nat} {Q : s_O → Prop} {h : s_H} {kc ks : Nat} {r0 r1 r2 t3 t4 t5 : Term} {s0 : Int}  (k1 : s0 ≤ 0 → wr P d sw_c468 sw_h468 (162, [r0, r1, r2, t3, t4, t5], [], h, kc, ks) Q) (k2 : ¬ s0 ≤ 0 → wr P d sw_c468 sw_h468 (50, [r0, r1, r2, t3, t4, t5], [], h, kc, ks) Q)  (c1 : In3 s0 := by first | omega | assumption | (simp only [mk_len, List.length_map]; omega) | decide) : wr P d sw_c468 sw_h468 (47, [r0, r1, r2, t3, t4, t5], [vi s0], h, kc, ks) Q := by
  exact w_if1 rfl c1 k1 k2

theorem k468_50 {P : s_P} {d : Nat} {Q : s_O → Prop} {h : s_H} {kc ks : Nat} {r0 r1 r2 t3 t4 t5 : Term} {q2 : Nat} {f3 : List Term} {v5 v7 : Term} (g4 : s_get h q2 = some (1, 11, f3)) (k : wm P d 433 [.index q2, v5, v7] h (wq P d sw_c468 sw_h468 62 [.index q2, r1, r2, t3, t4, t5] [] kc ks Q)) (e_q2 : r0 = .index q2 := by first | rfl | assumption) (y1 : s_ty r0 = 3 := by first | rfl | assumption) (n6 : s_nth f3 18 = some v5 := by first | rfl | assumption) (n8 : s_nth f3 19 = some v7 := by first | rfl | assumption)  : wr P d sw_c468 sw_h468 (50, [r0, r1, r2, t3, t4, t5], [], h, kc, ks) Q := by
  refine w_ld rfl rfl (Or.inr (Or.inr ⟨by decide, y1⟩)) ?_
  refine w_ld rfl rfl (Or.inr (Or.inr ⟨by decide, y1⟩)) ?_
  subst e_q2
  refine w_getf rfl g4 n6 ?_
  refine w_ld rfl rfl (Or.inr (Or.inr ⟨by decide, rfl⟩)) ?_
  refine w_getf rfl g4 n8 ?_
  exact w_cv rfl [.index q2, v5, v7] [] rfl rfl (s_wt_4 rfl) rfl g4 k

theorem k468_62 {P : s_P} {d : Nat} {Q : s_O → Prop} {h : s_H} {kc ks : Nat} {r0 r1 r2 t3 t4 t5 : Term} {q2 : Nat} {f3 : List Term} {v5 v7 : Term} (g4 : s_get h q2 = some (1, 11, f3)) (k : wm P d 531 [.index q2, v5, v7] h (wq P d sw_c468 sw_h468 74 [.index q2, r1, r2, t3, t4, t5] [] kc ks Q)) (e_q2 : r0 = .index q2 := by first | rfl | assumption) (y1 : s_ty r0 = 3 := by first | rfl | assumption) (n6 : s_nth f3 17 = some v5 := by first | rfl | assumption) (n8 : s_nth f3 20 = some v7 := by first | rfl | assumption)  : wr P d sw_c468 sw_h468 (62, [r0, r1, r2, t3, t4, t5], [], h, kc, ks) Q := by
  refine w_ld rfl rfl (Or.inr (Or.inr ⟨by decide, y1⟩)) ?_
  refine w_ld rfl rfl (Or.inr (Or.inr ⟨by decide, y1⟩)) ?_
  subst e_q2
  refine w_getf rfl g4 n6 ?_
  refine w_ld rfl rfl (Or.inr (Or.inr ⟨by decide, rfl⟩)) ?_
  refine w_getf rfl g4 n8 ?_
  exact w_cv rfl [.index q2, v5, v7] [] rfl rfl (s_wt_4 rfl) rfl g4 k

theorem k468_74 {P : s_P} {d : Nat} {Q : s_O → Prop} {h : s_H} {kc ks : Nat} {r0 r1 r2 t3 t4 t5 : Term} {q2 : Nat} {f3 : List Term} {v5 v7 : Term} (g4 : s_get h q2 = some (1, 11, f3)) (k : wm P d 529 [v5, v7, vl (-1)] h (wq P d sw_c468 sw_h468 88 [.index q2, r1, r2, t3, t4, t5] [] kc ks Q)) (e_q2 : r0 = .index q2 := by first | rfl | assumption) (y1 : s_ty r0 = 3 := by first | rfl | assumption) (n6 : s_nth f3 21 = some v5 := by first | rfl | assumption) (n8 : s_nth f3 16 = some v7 := by first | rfl | assumption)  : wr P d sw_c468 sw_h468 (74, [r0, r1, r2, t3, t4, t5], [], h, kc, ks) Q := by
  refine w_ld rfl rfl (Or.inr (Or.inr ⟨by decide, y1⟩)) ?_
  subst e_q2
  refine w_getf rfl g4 n6 ?_
  refine w_ld rfl rfl (Or.inr (Or.inr ⟨by decide, rfl⟩)) ?_
  refine w_getf rfl g4 n8 ?_
  refine w_c64 rfl (by decide) (-1) (by decide) ?_
  exact w_cs rfl [v5, v7, vl (-1)] [] rfl rfl (s_wt_4 rfl) k

theorem k468_88 {P : s_P} {d : Nat} {Q : s_O → Prop} {h : s_H} {kc ks : Nat} {r0 r1 r2 t3 t4 t5 : Term}  (k : wr P d sw_c468 sw_h468 (90, [r0, r1, r2, vi 0, t4, t5], [], h, kc, ks) Q) (y1 : s_ty r2 = 3 := by first | rfl | assumption)  : wr P d sw_c468 sw_h468 (88, [r0, r1, r2, t3, t4, t5], [], h, kc, ks) Q := by
  refine w_c32 rfl (by decide) 0 (by decide) ?_
  refine w_st (ls' := [r0, r1, r2, vi 0, t4, t5]) rfl (Or.inl ⟨by decide, rfl⟩) (s_stK_r (pre := [r0, r1]) y1) ?_
  exact k

theorem k468_90 {P : s_P} {d : Nat} {Q : s_O → Prop} {h : s_H} {kc ks : Nat} {r0 r1 r2 : Term} {x3 : Int} {t4 t5 : Term}  (k1 : 176 ≤ x3 → wr P d sw_c468 sw_h468 (159, [r0, r1, r2, vi x3, t4, t5], [], h, kc, ks) Q) (k2 : ¬ 176 ≤ x3 → wr P d sw_c468 sw_h468 (97, [r0, r1, r2, vi x3, t4, t5], [], h, kc, ks) Q)  (c1 : In3 x3 := by first | omega | assumption | (simp only [mk_len, List.length_map]; omega) | decide) : wr P d sw_c468 sw_h468 (90, [r0, r1, r2, vi x3, t4, t5], [], h, kc, ks) Q := by
  refine w_ld rfl rfl (Or.inl ⟨by decide, rfl⟩) ?_
  refine w_c32 rfl (by decide) 176 (by decide) ?_
  exact w_if2 rfl c1 (by decide) k1 k2

theorem k468_97 {P : s_P} {d : Nat} {Q : s_O → Prop} {h : s_H} {kc ks : Nat} {r0 r1 r2 : Term} {x3 : Int} {t4 t5 : Term} {q2 : Nat} {f3 : List Term} {v5 : Term} {q7 : Nat} {a8 : List Int} {v13 : Term} {q15 : Nat} {a16 : List Int} {f20 : List Term} {v22 : Term} {q24 : Nat} {a25 : List Int} {f29 : List Term} {v31 : Term} {q33 : Nat} {a34 : List Int} {v37 : Term} {q39 : Nat} {a40 : List Int} {f44 : List Term} {v46 : Term} {q48 : Nat} {a49 : List Int} (g4 : s_get h q2 = some (1, 11, f3)) (g9 : s_get h q7 = some (0, 1, a8.map vl)) (g17 : s_get h q15 = some (0, 1, a16.map vl)) (g21 : s_get (hp h q7 (0, 1, (a8.set (Int.toNat (x3)) (gi a16 x3)).map vl)) q2 = some (1, 11, f20)) (g26 : s_get (hp h q7 (0, 1, (a8.set (Int.toNat (x3)) (gi a16 x3)).map vl)) q24 = some (0, 1, a25.map vl)) (g30 : s_get (hp (hp h q7 (0, 1, (a8.set (Int.toNat (x3)) (gi a16 x3)).map vl)) q24 (0, 1, (a25.set (Int.toNat (x3)) (gi a8 x3)).map vl)) q2 = some (1, 11, f29)) (g35 : s_get (hp (hp h q7 (0, 1, (a8.set (Int.toNat (x3)) (gi a16 x3)).map vl)) q24 (0, 1, (a25.set (Int.toNat (x3)) (gi a8 x3)).map vl)) q33 = some (0, 1, a34.map vl)) (g41 : s_get (hp (hp h q7 (0, 1, (a8.set (Int.toNat (x3)) (gi a16 x3)).map vl)) q24 (0, 1, (a25.set (Int.toNat (x3)) (gi a8 x3)).map vl)) q39 = some (0, 1, a40.map vl)) (g45 : s_get (hp (hp (hp h q7 (0, 1, (a8.set (Int.toNat (x3)) (gi a16 x3)).map vl)) q24 (0, 1, (a25.set (Int.toNat (x3)) (gi a8 x3)).map vl)) q33 (0, 1, (a34.set (Int.toNat (x3)) (gi a40 x3)).map vl)) q2 = some (1, 11, f44)) (g50 : s_get (hp (hp (hp h q7 (0, 1, (a8.set (Int.toNat (x3)) (gi a16 x3)).map vl)) q24 (0, 1, (a25.set (Int.toNat (x3)) (gi a8 x3)).map vl)) q33 (0, 1, (a34.set (Int.toNat (x3)) (gi a40 x3)).map vl)) q48 = some (0, 1, a49.map vl)) (k : wr P d sw_c468 sw_h468 (90, [.index q2, r1, r2, vi (x3 + 1), vl (gi a34 x3), .result], [], (hp (hp (hp (hp h q7 (0, 1, (a8.set (Int.toNat (x3)) (gi a16 x3)).map vl)) q24 (0, 1, (a25.set (Int.toNat (x3)) (gi a8 x3)).map vl)) q33 (0, 1, (a34.set (Int.toNat (x3)) (gi a40 x3)).map vl)) q48 (0, 1, (a49.set (Int.toNat (x3)) (gi a34 x3)).map vl)), kc, ks) Q) (e_q2 : r0 = .index q2 := by first | rfl | assumption) (e_q7 : v5 = .index q7 := by first | rfl | assumption) (e_q15 : v13 = .index q15 := by first | rfl | assumption) (e_q24 : v22 = .index q24 := by first | rfl | assumption) (e_q33 : v31 = .index q33 := by first | rfl | assumption) (e_q39 : v37 = .index q39 := by first | rfl | assumption) (e_q48 : v46 = .index q48 := by first | rfl | assumption) (y1 : s_ty r0 = 3 := by first | rfl | assumption) (n6 : s_nth f3 18 = some v5 := by first | rfl | assumption) (n14 : s_nth f3 19 = some v13 := by first | rfl | assumption) (n23 : s_nth f20 19 = some v22 := by first | rfl | assumption) (n32 : s_nth f29 21 = some v31 := by first | rfl | assumption) (n38 : s_nth f29 20 = some v37 := by first | rfl | assumption) (n47 : s_nth f44 20 = some v46 := by first | rfl | assumption) (y53 : s_ty r2 = 3 := by first | rfl | assumption) (c10 : x3 < a8.length := by first | omega | assumption | (simp only [mk_len, List.length_map]; omega) | decide) (c11 : 0 ≤ x3 := by first | omega | assumption | (simp only [mk_len, List.length_map]; omega) | decide) (c12 : In3 x3 := by first | omega | assumption | (simp only [mk_len, List.length_map]; omega) | decide) (c18 : x3 < a16.length := by first | omega | assumption | (simp only [mk_len, List.length_map]; omega) | decide) (c19 : 0 < q7 := by first | omega | assumption | (simp only [mk_len, List.length_map]; omega) | decide) (c27 : x3 < a25.length := by first | omega | assumption | (simp only [mk_len, List.length_map]; omega) | decide) (c28 : 0 < q24 := by first | omega | assumption | (simp only [mk_len, List.length_map]; omega) | decide) (c36 : x3 < a34.length := by first | omega | assumption | (simp only [mk_len, List.length_map]; omega) | decide) (c42 : x3 < a40.length := by first | omega | assumption | (simp only [mk_len, List.length_map]; omega) | decide) (c43 : 0 < q33 := by first | omega | assumption | (simp only [mk_len, List.length_map]; omega) | decide) (c51 : x3 < a49.length := by first | omega | assumption | (simp only [mk_len, List.length_map]; omega) | decide) (c52 : 0 < q48 := by first | omega | assumption | (simp only [mk_len, List.length_map]; omega) | decide) : wr P d sw_c468 sw_h468 (97, [r0, r1, r2, vi x3, t4, t5], [], h, kc, ks) Q := by
  refine w_ld rfl rfl (Or.inr (Or.inr ⟨by decide, y1⟩)) ?_
  subst e_q2
  refine w_getf rfl g4 n6 ?_
  refine w_ld rfl rfl (Or.inl ⟨by decide, rfl⟩) ?_
  subst e_q7
  refine w_lald rfl g9 c12 c11 c10 ?_
  refine w_stl (ls' := [.index q2, r1, r2, vi x3, vl (gi a8 x3), t5]) (ls'' := [.index q2, r1, r2, vi x3, vl (gi a8 x3), .result]) rfl ⟨by decide, rfl⟩ rfl rfl ?_
  refine w_ld rfl rfl (Or.inr (Or.inr ⟨by decide, rfl⟩)) ?_
  refine w_getf rfl g4 n6 ?_
  refine w_ld rfl rfl (Or.inl ⟨by decide, rfl⟩) ?_
  refine w_ld rfl rfl (Or.inr (Or.inr ⟨by decide, rfl⟩)) ?_
  refine w_getf rfl g4 n14 ?_
  refine w_ld rfl rfl (Or.inl ⟨by decide, rfl⟩) ?_
  subst e_q15
  refine w_lald rfl g17 c12 c11 c18 ?_
  refine w_last rfl g9 (Nat.ble_eq_true_of_le c19) c12 c11 c10 ?_
  refine w_ld rfl rfl (Or.inr (Or.inr ⟨by decide, rfl⟩)) ?_
  refine w_getf rfl g21 n23 ?_
  refine w_ld rfl rfl (Or.inl ⟨by decide, rfl⟩) ?_
  refine w_ld rfl rfl (Or.inr (Or.inl ⟨by decide, rfl⟩)) ?_
  subst e_q24
  refine w_last rfl g26 (Nat.ble_eq_true_of_le c28) c12 c11 c27 ?_
  refine w_ld rfl rfl (Or.inr (Or.inr ⟨by decide, rfl⟩)) ?_
  refine w_getf rfl g30 n32 ?_
  refine w_ld rfl rfl (Or.inl ⟨by decide, rfl⟩) ?_
  subst e_q33
  refine w_lald rfl g35 c12 c11 c36 ?_
  refine w_stl (ls' := [.index q2, r1, r2, vi x3, vl (gi a34 x3), .result]) (ls'' := [.index q2, r1, r2, vi x3, vl (gi a34 x3), .result]) rfl ⟨by decide, rfl⟩ rfl rfl ?_
  refine w_ld rfl rfl (Or.inr (Or.inr ⟨by decide, rfl⟩)) ?_
  refine w_getf rfl g30 n32 ?_
  refine w_ld rfl rfl (Or.inl ⟨by decide, rfl⟩) ?_
  refine w_ld rfl rfl (Or.inr (Or.inr ⟨by decide, rfl⟩)) ?_
  refine w_getf rfl g30 n38 ?_
  refine w_ld rfl rfl (Or.inl ⟨by decide, rfl⟩) ?_
  subst e_q39
  refine w_lald rfl g41 c12 c11 c42 ?_
  refine w_last rfl g35 (Nat.ble_eq_true_of_le c43) c12 c11 c36 ?_
  refine w_ld rfl rfl (Or.inr (Or.inr ⟨by decide, rfl⟩)) ?_
  refine w_getf rfl g45 n47 ?_
  refine w_ld rfl rfl (Or.inl ⟨by decide, rfl⟩) ?_
  refine w_ld rfl rfl (Or.inr (Or.inl ⟨by decide, rfl⟩)) ?_
  subst e_q48
  refine w_last rfl g50 (Nat.ble_eq_true_of_le c52) c12 c11 c51 ?_
  refine w_iinc (ls' := [.index q2, r1, r2, vi (x3 + 1), vl (gi a34 x3), .result]) rfl rfl 1 (by decide) (s_stK_r (pre := [.index q2, r1]) y53) ?_
  refine w_goto rfl ?_
  exact k

theorem k468_159 {P : s_P} {d : Nat} {Q : s_O → Prop} {h : s_H} {kc ks : Nat} {r0 r1 r2 : Term} {x3 : Int} {t4 t5 : Term}  (k : wr P d sw_c468 sw_h468 (40, [r0, r1, r2, vi x3, t4, t5], [], h, kc, ks) Q)   : wr P d sw_c468 sw_h468 (159, [r0, r1, r2, vi x3, t4, t5], [], h, kc, ks) Q := by
  refine w_goto rfl ?_
  exact k

theorem k468_162 {P : s_P} {d : Nat} {Q : s_O → Prop} {h : s_H} {kc ks : Nat} {r0 r1 r2 t3 t4 t5 : Term} {q2 : Nat} {f3 : List Term} {v5 v7 : Term} {q9 : Nat} {a10 : List Int} (g4 : s_get h q2 = some (1, 11, f3)) (g11 : s_get h q9 = some (0, 1, a10.map vl)) (k : wm P d 467 [vl (gi a10 0)] h (wq P d sw_c468 sw_h468 175 [.index q2, r1, r2, t3, t4, t5] [v5] kc ks Q)) (e_q2 : r0 = .index q2 := by first | rfl | assumption) (e_q9 : v7 = .index q9 := by first | rfl | assumption) (y1 : s_ty r0 = 3 := by first | rfl | assumption) (n6 : s_nth f3 20 = some v5 := by first | rfl | assumption) (n8 : s_nth f3 19 = some v7 := by first | rfl | assumption) (c12 : (0 : Int) < a10.length := by first | omega | assumption | (simp only [mk_len, List.length_map]; omega) | decide) : wr P d sw_c468 sw_h468 (162, [r0, r1, r2, t3, t4, t5], [], h, kc, ks) Q := by
  refine w_ld rfl rfl (Or.inr (Or.inr ⟨by decide, y1⟩)) ?_
  subst e_q2
  refine w_getf rfl g4 n6 ?_
  refine w_ld rfl rfl (Or.inr (Or.inr ⟨by decide, rfl⟩)) ?_
  refine w_getf rfl g4 n8 ?_
  refine w_c32 rfl (by decide) 0 (by decide) ?_
  subst e_q9
  refine w_lald rfl g11 (by decide) (by decide) c12 ?_
  exact w_cs rfl [vl (gi a10 0)] [v5] rfl rfl (s_wt_4 rfl) k

theorem k468_175 {P : s_P} {d : Nat} {Q : s_O → Prop} {h : s_H} {kc ks : Nat} {r0 r1 r2 t3 t4 t5 s0 : Term} {s1 : Int}  (k : wm P d 592 [s0, vl s1] h (wq P d sw_c468 sw_h468 178 [r0, r1, r2, t3, t4, t5] [] kc ks Q))   : wr P d sw_c468 sw_h468 (175, [r0, r1, r2, t3, t4, t5], [vl s1, s0], h, kc, ks) Q := by
  exact w_cs rfl [s0, vl s1] [] rfl rfl (s_wt_4 rfl) k

theorem k468_178 {P : s_P} {d : Nat} {Q : s_O → Prop} {h : s_H} {kc ks : Nat} {r0 r1 r2 t3 t4 t5 : Term} {q2 : Nat} {f3 : List Term} {v5 : Term} (g4 : s_get h q2 = some (1, 11, f3)) (k : wm P d 433 [.index q2, v5, r2] h (wq P d sw_c468 sw_h468 187 [.index q2, r1, r2, t3, t4, t5] [] kc ks Q)) (e_q2 : r0 = .index q2 := by first | rfl | assumption) (y1 : s_ty r0 = 3 := by first | rfl | assumption) (n6 : s_nth f3 20 = some v5 := by first | rfl | assumption) (y7 : s_ty r2 = 3 := by first | rfl | assumption)  : wr P d sw_c468 sw_h468 (178, [r0, r1, r2, t3, t4, t5], [], h, kc, ks) Q := by
  refine w_ld rfl rfl (Or.inr (Or.inr ⟨by decide, y1⟩)) ?_
  refine w_ld rfl rfl (Or.inr (Or.inr ⟨by decide, y1⟩)) ?_
  subst e_q2
  refine w_getf rfl g4 n6 ?_
  refine w_ld rfl rfl (Or.inr (Or.inr ⟨by decide, y7⟩)) ?_
  exact w_cv rfl [.index q2, v5, r2] [] rfl rfl (s_wt_4 rfl) rfl g4 k

theorem k468_187 {P : s_P} {d : Nat} {Q : s_O → Prop} {h : s_H} {kc ks : Nat} {r0 r1 r2 t3 t4 t5 : Term}  (k : Q (.inl none, h, kc, ks))   : wr P d sw_c468 sw_h468 (187, [r0, r1, r2, t3, t4, t5], [], h, kc, ks) Q := by
  exact w_ret rfl k

/-! 469: FormulaWorksModel.is(II)Z -/
theorem k469_0 {P : s_P} {d : Nat} {Q : s_O → Prop} {h : s_H} {kc ks : Nat} {r0 : Term} {x1 x2 : Int} {q2 : Nat} {f3 : List Term} {v5 : Term} {q7 : Nat} {a8 : List Int} (g4 : s_get h q2 = some (1, 11, f3)) (g9 : s_get h q7 = some (0, 0, a8.map vi)) (k1 : gi a8 x1 ≠ x2 → wr P d sw_c469 sw_h469 (14, [.index q2, vi x1, vi x2], [], h, kc, ks) Q) (k2 : ¬ gi a8 x1 ≠ x2 → wr P d sw_c469 sw_h469 (10, [.index q2, vi x1, vi x2], [], h, kc, ks) Q) (e_q2 : r0 = .index q2 := by first | rfl | assumption) (e_q7 : v5 = .index q7 := by first | rfl | assumption) (y1 : s_ty r0 = 3 := by first | rfl | assumption) (n6 : s_nth f3 2 = some v5 := by first | rfl | assumption) (c10 : x1 < a8.length := by first | omega | assumption | (simp only [mk_len, List.length_map]; omega) | decide) (c11 : 0 ≤ x1 := by first | omega | assumption | (simp only [mk_len, List.length_map]; omega) | decide) (c12 : In3 x1 := by first | omega | assumption | (simp only [mk_len, List.length_map]; omega) | decide) (c13 : In3 (gi a8 x1) := by first | omega | assumption | (simp only [mk_len, List.length_map]; omega) | decide) (c14 : In3 x2 := by first | omega | assumption | (simp only [mk_len, List.length_map]; omega) | decide) : wr P d sw_c469 sw_h469 (0, [r0, vi x1, vi x2], [], h, kc, ks) Q := by
  refine w_ld rfl rfl (Or.inr (Or.inr ⟨by decide, y1⟩)) ?_
  subst e_q2
  refine w_getf rfl g4 n6 ?_
  refine w_ld rfl rfl (Or.inl ⟨by decide, rfl⟩) ?_
  subst e_q7
  refine w_iald rfl g9 (Or.inl rfl) c12 c11 c10 ?_
  refine w_ld rfl rfl (Or.inl ⟨by decide, rfl⟩) ?_
  exact w_if2 rfl c13 c14 k1 k2

theorem k469_10 {P : s_P} {d : Nat} {Q : s_O → Prop} {h : s_H} {kc ks : Nat} {r0 : Term} {x1 x2 : Int}  (k : wr P d sw_c469 sw_h469 (15, [r0, vi x1, vi x2], [vi 1], h, kc, ks) Q)   : wr P d sw_c469 sw_h469 (10, [r0, vi x1, vi x2], [], h, kc, ks) Q := by
  refine w_c32 rfl (by decide) 1 (by decide) ?_
  refine w_goto rfl ?_
  exact k

theorem k469_14 {P : s_P} {d : Nat} {Q : s_O → Prop} {h : s_H} {kc ks : Nat} {r0 : Term} {x1 x2 : Int}  (k : wr P d sw_c469 sw_h469 (15, [r0, vi x1, vi x2], [vi 0], h, kc, ks) Q)   : wr P d sw_c469 sw_h469 (14, [r0, vi x1, vi x2], [], h, kc, ks) Q := by
  refine w_c32 rfl (by decide) 0 (by decide) ?_
  exact k

theorem k469_15 {P : s_P} {d : Nat} {Q : s_O → Prop} {h : s_H} {kc ks : Nat} {r0 : Term} {x1 x2 s0 : Int}  (k : Q (.inl (some (vi s0)), h, kc, ks))  (c1 : s0 = 0 ∨ s0 = 1 := by first | omega | assumption | (simp only [mk_len, List.length_map]; omega) | decide) : wr P d sw_c469 sw_h469 (15, [r0, vi x1, vi x2], [vi s0], h, kc, ks) Q := by
  exact w_zret rfl c1 k

/-! 470: FormulaWorksModel.isAhead(II)Z -/
theorem k470_0 {P : s_P} {d : Nat} {Q : s_O → Prop} {h : s_H} {kc ks : Nat} {r0 : Term} {x1 x2 : Int} {t3 t4 : Term}  (k : wr P d sw_c470 sw_h470 (3, [r0, vi x1, vi x2, vi 41, t4], [], h, kc, ks) Q)   : wr P d sw_c470 sw_h470 (0, [r0, vi x1, vi x2, t3, t4], [], h, kc, ks) Q := by
  refine w_c32 rfl (by decide) 41 (by decide) ?_
  refine w_st (ls' := [r0, vi x1, vi x2, vi 41, t4]) rfl (Or.inl ⟨by decide, rfl⟩) rfl ?_
  exact k

theorem k470_3 {P : s_P} {d : Nat} {Q : s_O → Prop} {h : s_H} {kc ks : Nat} {r0 : Term} {x1 x2 x3 : Int} {t4 : Term}  (k1 : x3 < 0 → wr P d sw_c470 sw_h470 (29, [r0, vi x1, vi x2, vi x3, t4], [], h, kc, ks) Q) (k2 : ¬ x3 < 0 → wr P d sw_c470 sw_h470 (7, [r0, vi x1, vi x2, vi x3, t4], [], h, kc, ks) Q)  (c1 : In3 x3 := by first | omega | assumption | (simp only [mk_len, List.length_map]; omega) | decide) : wr P d sw_c470 sw_h470 (3, [r0, vi x1, vi x2, vi x3, t4], [], h, kc, ks) Q := by
  refine w_ld rfl rfl (Or.inl ⟨by decide, rfl⟩) ?_
  exact w_if1 rfl c1 k1 k2

theorem k470_7 {P : s_P} {d : Nat} {Q : s_O → Prop} {h : s_H} {kc ks : Nat} {r0 : Term} {x1 x2 x3 : Int} {t4 : Term} {q2 : Nat} {f3 : List Term} {v5 : Term} {q7 : Nat} {a8 : List Int} (g4 : s_get h q2 = some (1, 11, f3)) (g9 : s_get h q7 = some (0, 1, a8.map vl)) (k1 : gi a8 ((42 * x1) + x3) ≠ 0 → wr P d sw_c470 sw_h470 (29, [.index q2, vi x1, vi x2, vi x3, t4], [], h, kc, ks) Q) (k2 : ¬ gi a8 ((42 * x1) + x3) ≠ 0 → wr P d sw_c470 sw_h470 (23, [.index q2, vi x1, vi x2, vi x3, t4], [], h, kc, ks) Q) (e_q2 : r0 = .index q2 := by first | rfl | assumption) (e_q7 : v5 = .index q7 := by first | rfl | assumption) (y1 : s_ty r0 = 3 := by first | rfl | assumption) (n6 : s_nth f3 34 = some v5 := by first | rfl | assumption) (c10 : (42 * x1) + x3 < a8.length := by first | omega | assumption | (simp only [mk_len, List.length_map]; omega) | decide) (c11 : 0 ≤ (42 * x1) + x3 := by first | omega | assumption | (simp only [mk_len, List.length_map]; omega) | decide) (c12 : In3 ((42 * x1) + x3) := by first | omega | assumption | (simp only [mk_len, List.length_map]; omega) | decide) (c13 : In6 (gi a8 ((42 * x1) + x3)) := by first | omega | assumption | (simp only [mk_len, List.length_map]; omega) | decide) : wr P d sw_c470 sw_h470 (7, [r0, vi x1, vi x2, vi x3, t4], [], h, kc, ks) Q := by
  refine w_ld rfl rfl (Or.inr (Or.inr ⟨by decide, y1⟩)) ?_
  subst e_q2
  refine w_getf rfl g4 n6 ?_
  refine w_c32 rfl (by decide) 42 (by decide) ?_
  refine w_ld rfl rfl (Or.inl ⟨by decide, rfl⟩) ?_
  refine w_imul rfl ?_
  refine w_ld rfl rfl (Or.inl ⟨by decide, rfl⟩) ?_
  refine w_iadd rfl ?_
  subst e_q7
  refine w_lald rfl g9 c12 c11 c10 ?_
  refine w_c64 rfl (by decide) 0 (by decide) ?_
  exact w_lcmp rfl rfl c13 (by decide) k1 k2

theorem k470_23 {P : s_P} {d : Nat} {Q : s_O → Prop} {h : s_H} {kc ks : Nat} {r0 : Term} {x1 x2 x3 : Int} {t4 : Term}  (k : wr P d sw_c470 sw_h470 (3, [r0, vi x1, vi x2, vi (x3 + (-1)), t4], [], h, kc, ks) Q)   : wr P d sw_c470 sw_h470 (23, [r0, vi x1, vi x2, vi x3, t4], [], h, kc, ks) Q := by
  refine w_iinc (ls' := [r0, vi x1, vi x2, vi (x3 + (-1)), t4]) rfl rfl (-1) (by decide) rfl ?_
  refine w_goto rfl ?_
  exact k

theorem k470_29 {P : s_P} {d : Nat} {Q : s_O → Prop} {h : s_H} {kc ks : Nat} {r0 : Term} {x1 x2 x3 : Int} {t4 : Term}  (k : wr P d sw_c470 sw_h470 (33, [r0, vi x1, vi x2, vi x3, vi 41], [], h, kc, ks) Q)   : wr P d sw_c470 sw_h470 (29, [r0, vi x1, vi x2, vi x3, t4], [], h, kc, ks) Q := by
  refine w_c32 rfl (by decide) 41 (by decide) ?_
  refine w_st (ls' := [r0, vi x1, vi x2, vi x3, vi 41]) rfl (Or.inl ⟨by decide, rfl⟩) rfl ?_
  exact k

theorem k470_33 {P : s_P} {d : Nat} {Q : s_O → Prop} {h : s_H} {kc ks : Nat} {r0 : Term} {x1 x2 x3 x4 : Int}  (k1 : x4 < 0 → wr P d sw_c470 sw_h470 (61, [r0, vi x1, vi x2, vi x3, vi x4], [], h, kc, ks) Q) (k2 : ¬ x4 < 0 → wr P d sw_c470 sw_h470 (38, [r0, vi x1, vi x2, vi x3, vi x4], [], h, kc, ks) Q)  (c1 : In3 x4 := by first | omega | assumption | (simp only [mk_len, List.length_map]; omega) | decide) : wr P d sw_c470 sw_h470 (33, [r0, vi x1, vi x2, vi x3, vi x4], [], h, kc, ks) Q := by
  refine w_ld rfl rfl (Or.inl ⟨by decide, rfl⟩) ?_
  exact w_if1 rfl c1 k1 k2

theorem k470_38 {P : s_P} {d : Nat} {Q : s_O → Prop} {h : s_H} {kc ks : Nat} {r0 : Term} {x1 x2 x3 x4 : Int} {q2 : Nat} {f3 : List Term} {v5 : Term} {q7 : Nat} {a8 : List Int} (g4 : s_get h q2 = some (1, 11, f3)) (g9 : s_get h q7 = some (0, 1, a8.map vl)) (k1 : gi a8 ((42 * x2) + x4) ≠ 0 → wr P d sw_c470 sw_h470 (61, [.index q2, vi x1, vi x2, vi x3, vi x4], [], h, kc, ks) Q) (k2 : ¬ gi a8 ((42 * x2) + x4) ≠ 0 → wr P d sw_c470 sw_h470 (55, [.index q2, vi x1, vi x2, vi x3, vi x4], [], h, kc, ks) Q) (e_q2 : r0 = .index q2 := by first | rfl | assumption) (e_q7 : v5 = .index q7 := by first | rfl | assumption) (y1 : s_ty r0 = 3 := by first | rfl | assumption) (n6 : s_nth f3 34 = some v5 := by first | rfl | assumption) (c10 : (42 * x2) + x4 < a8.length := by first | omega | assumption | (simp only [mk_len, List.length_map]; omega) | decide) (c11 : 0 ≤ (42 * x2) + x4 := by first | omega | assumption | (simp only [mk_len, List.length_map]; omega) | decide) (c12 : In3 ((42 * x2) + x4) := by first | omega | assumption | (simp only [mk_len, List.length_map]; omega) | decide) (c13 : In6 (gi a8 ((42 * x2) + x4)) := by first | omega | assumption | (simp only [mk_len, List.length_map]; omega) | decide) : wr P d sw_c470 sw_h470 (38, [r0, vi x1, vi x2, vi x3, vi x4], [], h, kc, ks) Q := by
  refine w_ld rfl rfl (Or.inr (Or.inr ⟨by decide, y1⟩)) ?_
  subst e_q2
  refine w_getf rfl g4 n6 ?_
  refine w_c32 rfl (by decide) 42 (by decide) ?_
  refine w_ld rfl rfl (Or.inl ⟨by decide, rfl⟩) ?_
  refine w_imul rfl ?_
  refine w_ld rfl rfl (Or.inl ⟨by decide, rfl⟩) ?_
  refine w_iadd rfl ?_
  subst e_q7
  refine w_lald rfl g9 c12 c11 c10 ?_
  refine w_c64 rfl (by decide) 0 (by decide) ?_
  exact w_lcmp rfl rfl c13 (by decide) k1 k2

theorem k470_55 {P : s_P} {d : Nat} {Q : s_O → Prop} {h : s_H} {kc ks : Nat} {r0 : Term} {x1 x2 x3 x4 : Int}  (k : wr P d sw_c470 sw_h470 (33, [r0, vi x1, vi x2, vi x3, vi (x4 + (-1))], [], h, kc, ks) Q)   : wr P d sw_c470 sw_h470 (55, [r0, vi x1, vi x2, vi x3, vi x4], [], h, kc, ks) Q := by
  refine w_iinc (ls' := [r0, vi x1, vi x2, vi x3, vi (x4 + (-1))]) rfl rfl (-1) (by decide) rfl ?_
  refine w_goto rfl ?_
  exact k

theorem k470_61 {P : s_P} {d : Nat} {Q : s_O → Prop} {h : s_H} {kc ks : Nat} {r0 : Term} {x1 x2 x3 x4 : Int}  (k1 : x4 = x3 → wr P d sw_c470 sw_h470 (79, [r0, vi x1, vi x2, vi x3, vi x4], [], h, kc, ks) Q) (k2 : ¬ x4 = x3 → wr P d sw_c470 sw_h470 (67, [r0, vi x1, vi x2, vi x3, vi x4], [], h, kc, ks) Q)  (c1 : In3 x4 := by first | omega | assumption | (simp only [mk_len, List.length_map]; omega) | decide) (c2 : In3 x3 := by first | omega | assumption | (simp only [mk_len, List.length_map]; omega) | decide) : wr P d sw_c470 sw_h470 (61, [r0, vi x1, vi x2, vi x3, vi x4], [], h, kc, ks) Q := by
  refine w_ld rfl rfl (Or.inl ⟨by decide, rfl⟩) ?_
  refine w_ld rfl rfl (Or.inl ⟨by decide, rfl⟩) ?_
  exact w_if2 rfl c1 c2 k1 k2

theorem k470_67 {P : s_P} {d : Nat} {Q : s_O → Prop} {h : s_H} {kc ks : Nat} {r0 : Term} {x1 x2 x3 x4 : Int}  (k1 : x4 ≤ x3 → wr P d sw_c470 sw_h470 (77, [r0, vi x1, vi x2, vi x3, vi x4], [], h, kc, ks) Q) (k2 : ¬ x4 ≤ x3 → wr P d sw_c470 sw_h470 (73, [r0, vi x1, vi x2, vi x3, vi x4], [], h, kc, ks) Q)  (c1 : In3 x3 := by first | omega | assumption | (simp only [mk_len, List.length_map]; omega) | decide) (c2 : In3 x4 := by first | omega | assumption | (simp only [mk_len, List.length_map]; omega) | decide) : wr P d sw_c470 sw_h470 (67, [r0, vi x1, vi x2, vi x3, vi x4], [], h, kc, ks) Q := by
  refine w_ld rfl rfl (Or.inl ⟨by decide, rfl⟩) ?_
  refine w_ld rfl rfl (Or.inl ⟨by decide, rfl⟩) ?_
  exact w_if2 rfl c1 c2 k1 k2

theorem k470_73 {P : s_P} {d : Nat} {Q : s_O → Prop} {h : s_H} {kc ks : Nat} {r0 : Term} {x1 x2 x3 x4 : Int}  (k : wr P d sw_c470 sw_h470 (78, [r0, vi x1, vi x2, vi x3, vi x4], [vi 1], h, kc, ks) Q)   : wr P d sw_c470 sw_h470 (73, [r0, vi x1, vi x2, vi x3, vi x4], [], h, kc, ks) Q := by
  refine w_c32 rfl (by decide) 1 (by decide) ?_
  refine w_goto rfl ?_
  exact k

theorem k470_77 {P : s_P} {d : Nat} {Q : s_O → Prop} {h : s_H} {kc ks : Nat} {r0 : Term} {x1 x2 x3 x4 : Int}  (k : wr P d sw_c470 sw_h470 (78, [r0, vi x1, vi x2, vi x3, vi x4], [vi 0], h, kc, ks) Q)   : wr P d sw_c470 sw_h470 (77, [r0, vi x1, vi x2, vi x3, vi x4], [], h, kc, ks) Q := by
  refine w_c32 rfl (by decide) 0 (by decide) ?_
  exact k

theorem k470_78 {P : s_P} {d : Nat} {Q : s_O → Prop} {h : s_H} {kc ks : Nat} {r0 : Term} {x1 x2 x3 x4 s0 : Int}  (k : Q (.inl (some (vi s0)), h, kc, ks))  (c1 : s0 = 0 ∨ s0 = 1 := by first | omega | assumption | (simp only [mk_len, List.length_map]; omega) | decide) : wr P d sw_c470 sw_h470 (78, [r0, vi x1, vi x2, vi x3, vi x4], [vi s0], h, kc, ks) Q := by
  exact w_zret rfl c1 k

theorem k470_79 {P : s_P} {d : Nat} {Q : s_O → Prop} {h : s_H} {kc ks : Nat} {r0 : Term} {x1 x2 x3 x4 : Int}  (k1 : x3 ≤ 0 → wr P d sw_c470 sw_h470 (115, [r0, vi x1, vi x2, vi x3, vi x4], [], h, kc, ks) Q) (k2 : ¬ x3 ≤ 0 → wr P d sw_c470 sw_h470 (83, [r0, vi x1, vi x2, vi x3, vi x4], [], h, kc, ks) Q)  (c1 : In3 x3 := by first | omega | assumption | (simp only [mk_len, List.length_map]; omega) | decide) : wr P d sw_c470 sw_h470 (79, [r0, vi x1, vi x2, vi x3, vi x4], [], h, kc, ks) Q := by
  refine w_ld rfl rfl (Or.inl ⟨by decide, rfl⟩) ?_
  exact w_if1 rfl c1 k1 k2

theorem k470_83 {P : s_P} {d : Nat} {Q : s_O → Prop} {h : s_H} {kc ks : Nat} {r0 : Term} {x1 x2 x3 x4 : Int} {q2 : Nat} {f3 : List Term} {v5 : Term} {q7 : Nat} {a8 : List Int} (g4 : s_get h q2 = some (1, 11, f3)) (g9 : s_get h q7 = some (0, 1, a8.map vl)) (k1 : gi a8 ((42 * x1) + x3) ≠ gi a8 ((42 * x2) + x3) → wr P d sw_c470 sw_h470 (115, [.index q2, vi x1, vi x2, vi x3, vi x4], [], h, kc, ks) Q) (k2 : ¬ gi a8 ((42 * x1) + x3) ≠ gi a8 ((42 * x2) + x3) → wr P d sw_c470 sw_h470 (109, [.index q2, vi x1, vi x2, vi x3, vi x4], [], h, kc, ks) Q) (e_q2 : r0 = .index q2 := by first | rfl | assumption) (e_q7 : v5 = .index q7 := by first | rfl | assumption) (y1 : s_ty r0 = 3 := by first | rfl | assumption) (n6 : s_nth f3 34 = some v5 := by first | rfl | assumption) (c10 : (42 * x1) + x3 < a8.length := by first | omega | assumption | (simp only [mk_len, List.length_map]; omega) | decide) (c11 : 0 ≤ (42 * x1) + x3 := by first | omega | assumption | (simp only [mk_len, List.length_map]; omega) | decide) (c12 : In3 ((42 * x1) + x3) := by first | omega | assumption | (simp only [mk_len, List.length_map]; omega) | decide) (c13 : (42 * x2) + x3 < a8.length := by first | omega | assumption | (simp only [mk_len, List.length_map]; omega) | decide) (c14 : 0 ≤ (42 * x2) + x3 := by first | omega | assumption | (simp only [mk_len, List.length_map]; omega) | decide) (c15 : In3 ((42 * x2) + x3) := by first | omega | assumption | (simp only [mk_len, List.length_map]; omega) | decide) (c16 : In6 (gi a8 ((42 * x1) + x3)) := by first | omega | assumption | (simp only [mk_len, List.length_map]; omega) | decide) (c17 : In6 (gi a8 ((42 * x2) + x3)) := by first | omega | assumption | (simp only [mk_len, List.length_map]; omega) | decide) : wr P d sw_c470 sw_h470 (83, [r0, vi x1, vi x2, vi x3, vi x4], [], h, kc, ks) Q := by
  refine w_ld rfl rfl (Or.inr (Or.inr ⟨by decide, y1⟩)) ?_
  subst e_q2
  refine w_getf rfl g4 n6 ?_
  refine w_c32 rfl (by decide) 42 (by decide) ?_
  refine w_ld rfl rfl (Or.inl ⟨by decide, rfl⟩) ?_
  refine w_imul rfl ?_
  refine w_ld rfl rfl (Or.inl ⟨by decide, rfl⟩) ?_
  refine w_iadd rfl ?_
  subst e_q7
  refine w_lald rfl g9 c12 c11 c10 ?_
  refine w_ld rfl rfl (Or.inr (Or.inr ⟨by decide, rfl⟩)) ?_
  refine w_getf rfl g4 n6 ?_
  refine w_c32 rfl (by decide) 42 (by decide) ?_
  refine w_ld rfl rfl (Or.inl ⟨by decide, rfl⟩) ?_
  refine w_imul rfl ?_
  refine w_ld rfl rfl (Or.inl ⟨by decide, rfl⟩) ?_
  refine w_iadd rfl ?_
  refine w_lald rfl g9 c15 c14 c13 ?_
  exact w_lcmp rfl rfl c16 c17 k1 k2

theorem k470_109 {P : s_P} {d : Nat} {Q : s_O → Prop} {h : s_H} {kc ks : Nat} {r0 : Term} {x1 x2 x3 x4 : Int}  (k : wr P d sw_c470 sw_h470 (79, [r0, vi x1, vi x2, vi (x3 + (-1)), vi x4], [], h, kc, ks) Q)   : wr P d sw_c470 sw_h470 (109, [r0, vi x1, vi x2, vi x3, vi x4], [], h, kc, ks) Q := by
  refine w_iinc (ls' := [r0, vi x1, vi x2, vi (x3 + (-1)), vi x4]) rfl rfl (-1) (by decide) rfl ?_
  refine w_goto rfl ?_
  exact k

theorem k470_115 {P : s_P} {d : Nat} {Q : s_O → Prop} {h : s_H} {kc ks : Nat} {r0 : Term} {x1 x2 x3 x4 : Int} {q2 : Nat} {f3 : List Term} {v5 : Term} {q7 : Nat} {a8 : List Int} (g4 : s_get h q2 = some (1, 11, f3)) (g9 : s_get h q7 = some (0, 1, a8.map vl)) (k1 : gi a8 ((42 * x2) + x3) ≤ gi a8 ((42 * x1) + x3) → wr P d sw_c470 sw_h470 (145, [.index q2, vi x1, vi x2, vi x3, vi x4], [], h, kc, ks) Q) (k2 : ¬ gi a8 ((42 * x2) + x3) ≤ gi a8 ((42 * x1) + x3) → wr P d sw_c470 sw_h470 (141, [.index q2, vi x1, vi x2, vi x3, vi x4], [], h, kc, ks) Q) (e_q2 : r0 = .index q2 := by first | rfl | assumption) (e_q7 : v5 = .index q7 := by first | rfl | assumption) (y1 : s_ty r0 = 3 := by first | rfl | assumption) (n6 : s_nth f3 34 = some v5 := by first | rfl | assumption) (c10 : (42 * x1) + x3 < a8.length := by first | omega | assumption | (simp only [mk_len, List.length_map]; omega) | decide) (c11 : 0 ≤ (42 * x1) + x3 := by first | omega | assumption | (simp only [mk_len, List.length_map]; omega) | decide) (c12 : In3 ((42 * x1) + x3) := by first | omega | assumption | (simp only [mk_len, List.length_map]; omega) | decide) (c13 : (42 * x2) + x3 < a8.length := by first | omega | assumption | (simp only [mk_len, List.length_map]; omega) | decide) (c14 : 0 ≤ (42 * x2) + x3 := by first | omega | assumption | (simp only [mk_len, List.length_map]; omega) | decide) (c15 : In3 ((42 * x2) + x3) := by first | omega | assumption | (simp only [mk_len, List.length_map]; omega) | decide) (c16 : In6 (gi a8 ((42 * x1) + x3)) := by first | omega | assumption | (simp only [mk_len, List.length_map]; omega) | decide) (c17 : In6 (gi a8 ((42 * x2) + x3)) := by first | omega | assumption | (simp only [mk_len, List.length_map]; omega) | decide) : wr P d sw_c470 sw_h470 (115, [r0, vi x1, vi x2, vi x3, vi x4], [], h, kc, ks) Q := by
  refine w_ld rfl rfl (Or.inr (Or.inr ⟨by decide, y1⟩)) ?_
  subst e_q2
  refine w_getf rfl g4 n6 ?_
  refine w_c32 rfl (by decide) 42 (by decide) ?_
  refine w_ld rfl rfl (Or.inl ⟨by decide, rfl⟩) ?_
  refine w_imul rfl ?_
  refine w_ld rfl rfl (Or.inl ⟨by decide, rfl⟩) ?_
  refine w_iadd rfl ?_
  subst e_q7
  refine w_lald rfl g9 c12 c11 c10 ?_
  refine w_ld rfl rfl (Or.inr (Or.inr ⟨by decide, rfl⟩)) ?_
  refine w_getf rfl g4 n6 ?_
  refine w_c32 rfl (by decide) 42 (by decide) ?_
  refine w_ld rfl rfl (Or.inl ⟨by decide, rfl⟩) ?_
  refine w_imul rfl ?_
  refine w_ld rfl rfl (Or.inl ⟨by decide, rfl⟩) ?_
  refine w_iadd rfl ?_
  refine w_lald rfl g9 c15 c14 c13 ?_
  exact w_lcmp rfl rfl c16 c17 k1 k2

theorem k470_141 {P : s_P} {d : Nat} {Q : s_O → Prop} {h : s_H} {kc ks : Nat} {r0 : Term} {x1 x2 x3 x4 : Int}  (k : wr P d sw_c470 sw_h470 (146, [r0, vi x1, vi x2, vi x3, vi x4], [vi 1], h, kc, ks) Q)   : wr P d sw_c470 sw_h470 (141, [r0, vi x1, vi x2, vi x3, vi x4], [], h, kc, ks) Q := by
  refine w_c32 rfl (by decide) 1 (by decide) ?_
  refine w_goto rfl ?_
  exact k

theorem k470_145 {P : s_P} {d : Nat} {Q : s_O → Prop} {h : s_H} {kc ks : Nat} {r0 : Term} {x1 x2 x3 x4 : Int}  (k : wr P d sw_c470 sw_h470 (146, [r0, vi x1, vi x2, vi x3, vi x4], [vi 0], h, kc, ks) Q)   : wr P d sw_c470 sw_h470 (145, [r0, vi x1, vi x2, vi x3, vi x4], [], h, kc, ks) Q := by
  refine w_c32 rfl (by decide) 0 (by decide) ?_
  exact k

theorem k470_146 {P : s_P} {d : Nat} {Q : s_O → Prop} {h : s_H} {kc ks : Nat} {r0 : Term} {x1 x2 x3 x4 s0 : Int}  (k : Q (.inl (some (vi s0)), h, kc, ks))  (c1 : s0 = 0 ∨ s0 = 1 := by first | omega | assumption | (simp only [mk_len, List.length_map]; omega) | decide) : wr P d sw_c470 sw_h470 (146, [r0, vi x1, vi x2, vi x3, vi x4], [vi s0], h, kc, ks) Q := by
  exact w_zret rfl c1 k

/-! 471: FormulaWorksModel.isAnswered()Z -/
theorem k471_0 {P : s_P} {d : Nat} {Q : s_O → Prop} {h : s_H} {kc ks : Nat} {r0 t1 t2 t3 t4 t5 : Term} {q2 : Nat} {f3 : List Term} {v5 : Term} (g4 : s_get h q2 = some (1, 11, f3)) (k : wm P d 530 [v5, vl (-1)] h (wq P d sw_c471 sw_h471 10 [.index q2, t1, t2, t3, t4, t5] [] kc ks Q)) (e_q2 : r0 = .index q2 := by first | rfl | assumption) (y1 : s_ty r0 = 3 := by first | rfl | assumption) (n6 : s_nth f3 11 = some v5 := by first | rfl | assumption)  : wr P d sw_c471 sw_h471 (0, [r0, t1, t2, t3, t4, t5], [], h, kc, ks) Q := by
  refine w_ld rfl rfl (Or.inr (Or.inr ⟨by decide, y1⟩)) ?_
  subst e_q2
  refine w_getf rfl g4 n6 ?_
  refine w_c64 rfl (by decide) (-1) (by decide) ?_
  exact w_cs rfl [v5, vl (-1)] [] rfl rfl (s_wt_4 rfl) k

theorem k471_10 {P : s_P} {d : Nat} {Q : s_O → Prop} {h : s_H} {kc ks : Nat} {r0 t1 t2 t3 t4 t5 : Term}  (k : wr P d sw_c471 sw_h471 (12, [r0, vi 0, t2, t3, t4, t5], [], h, kc, ks) Q) (y1 : s_ty r0 = 3 := by first | rfl | assumption)  : wr P d sw_c471 sw_h471 (10, [r0, t1, t2, t3, t4, t5], [], h, kc, ks) Q := by
  refine w_c32 rfl (by decide) 0 (by decide) ?_
  refine w_st (ls' := [r0, vi 0, t2, t3, t4, t5]) rfl (Or.inl ⟨by decide, rfl⟩) (s_stK_r (pre := []) y1) ?_
  exact k

theorem k471_12 {P : s_P} {d : Nat} {Q : s_O → Prop} {h : s_H} {kc ks : Nat} {r0 : Term} {x1 : Int} {t2 t3 t4 t5 : Term}  (k1 : 21 ≤ x1 → wr P d sw_c471 sw_h471 (123, [r0, vi x1, t2, t3, t4, t5], [], h, kc, ks) Q) (k2 : ¬ 21 ≤ x1 → wr P d sw_c471 sw_h471 (18, [r0, vi x1, t2, t3, t4, t5], [], h, kc, ks) Q)  (c1 : In3 x1 := by first | omega | assumption | (simp only [mk_len, List.length_map]; omega) | decide) : wr P d sw_c471 sw_h471 (12, [r0, vi x1, t2, t3, t4, t5], [], h, kc, ks) Q := by
  refine w_ld rfl rfl (Or.inl ⟨by decide, rfl⟩) ?_
  refine w_c32 rfl (by decide) 21 (by decide) ?_
  exact w_if2 rfl c1 (by decide) k1 k2

theorem k471_18 {P : s_P} {d : Nat} {Q : s_O → Prop} {h : s_H} {kc ks : Nat} {r0 : Term} {x1 : Int} {t2 t3 t4 t5 : Term} {q2 : Nat} {f3 : List Term} {v5 : Term} (g4 : s_get h q2 = some (1, 11, f3)) (k : wm P d 405 [v5, vl 0] h (wq P d sw_c471 sw_h471 26 [.index q2, vi x1, t2, t3, t4, t5] [] kc ks Q)) (e_q2 : r0 = .index q2 := by first | rfl | assumption) (y1 : s_ty r0 = 3 := by first | rfl | assumption) (n6 : s_nth f3 21 = some v5 := by first | rfl | assumption)  : wr P d sw_c471 sw_h471 (18, [r0, vi x1, t2, t3, t4, t5], [], h, kc, ks) Q := by
  refine w_ld rfl rfl (Or.inr (Or.inr ⟨by decide, y1⟩)) ?_
  subst e_q2
  refine w_getf rfl g4 n6 ?_
  refine w_c64 rfl (by decide) 0 (by decide) ?_
  exact w_cs rfl [v5, vl 0] [] rfl rfl (s_wt_4 rfl) k

theorem k471_26 {P : s_P} {d : Nat} {Q : s_O → Prop} {h : s_H} {kc ks : Nat} {r0 : Term} {x1 : Int} {t2 t3 t4 t5 : Term} {q2 : Nat} {f3 : List Term} {v5 : Term} {q7 : Nat} {a8 : List Int} {f14 : List Term} {v16 v18 : Term} (g4 : s_get h q2 = some (1, 11, f3)) (g9 : s_get h q7 = some (0, 1, a8.map vl)) (g15 : s_get (hp h q7 (0, 1, (a8.set (Int.toNat (x1)) 1).map vl)) q2 = some (1, 11, f14)) (k : wm P d 531 [.index q2, v16, v18] (hp h q7 (0, 1, (a8.set (Int.toNat (x1)) 1).map vl)) (wq P d sw_c471 sw_h471 45 [.index q2, vi x1, t2, t3, t4, t5] [] kc ks Q)) (e_q2 : r0 = .index q2 := by first | rfl | assumption) (e_q7 : v5 = .index q7 := by first | rfl | assumption) (y1 : s_ty r0 = 3 := by first | rfl | assumption) (n6 : s_nth f3 21 = some v5 := by first | rfl | assumption) (n17 : s_nth f14 11 = some v16 := by first | rfl | assumption) (n19 : s_nth f14 21 = some v18 := by first | rfl | assumption) (c10 : x1 < a8.length := by first | omega | assumption | (simp only [mk_len, List.length_map]; omega) | decide) (c11 : 0 ≤ x1 := by first | omega | assumption | (simp only [mk_len, List.length_map]; omega) | decide) (c12 : In3 x1 := by first | omega | assumption | (simp only [mk_len, List.length_map]; omega) | decide) (c13 : 0 < q7 := by first | omega | assumption | (simp only [mk_len, List.length_map]; omega) | decide) : wr P d sw_c471 sw_h471 (26, [r0, vi x1, t2, t3, t4, t5], [], h, kc, ks) Q := by
  refine w_ld rfl rfl (Or.inr (Or.inr ⟨by decide, y1⟩)) ?_
  subst e_q2
  refine w_getf rfl g4 n6 ?_
  refine w_ld rfl rfl (Or.inl ⟨by decide, rfl⟩) ?_
  refine w_c64 rfl (by decide) 1 (by decide) ?_
  subst e_q7
  refine w_last rfl g9 (Nat.ble_eq_true_of_le c13) c12 c11 c10 ?_
  refine w_ld rfl rfl (Or.inr (Or.inr ⟨by decide, rfl⟩)) ?_
  refine w_ld rfl rfl (Or.inr (Or.inr ⟨by decide, rfl⟩)) ?_
  refine w_getf rfl g15 n17 ?_
  refine w_ld rfl rfl (Or.inr (Or.inr ⟨by decide, rfl⟩)) ?_
  refine w_getf rfl g15 n19 ?_
  exact w_cv rfl [.index q2, v16, v18] [] rfl rfl (s_wt_4 rfl) rfl g15 k

theorem k471_45 {P : s_P} {d : Nat} {Q : s_O → Prop} {h : s_H} {kc ks : Nat} {r0 : Term} {x1 : Int} {t2 t3 t4 t5 : Term} {q2 : Nat} {f3 : List Term} {v5 v7 : Term} (g4 : s_get h q2 = some (1, 11, f3)) (k : wm P d 425 [v5, v7] h (wq P d sw_c471 sw_h471 56 [.index q2, vi x1, t2, t3, t4, t5] [] kc ks Q)) (e_q2 : r0 = .index q2 := by first | rfl | assumption) (y1 : s_ty r0 = 3 := by first | rfl | assumption) (n6 : s_nth f3 22 = some v5 := by first | rfl | assumption) (n8 : s_nth f3 16 = some v7 := by first | rfl | assumption)  : wr P d sw_c471 sw_h471 (45, [r0, vi x1, t2, t3, t4, t5], [], h, kc, ks) Q := by
  refine w_ld rfl rfl (Or.inr (Or.inr ⟨by decide, y1⟩)) ?_
  subst e_q2
  refine w_getf rfl g4 n6 ?_
  refine w_ld rfl rfl (Or.inr (Or.inr ⟨by decide, rfl⟩)) ?_
  refine w_getf rfl g4 n8 ?_
  exact w_cs rfl [v5, v7] [] rfl rfl (s_wt_4 rfl) k

theorem k471_56 {P : s_P} {d : Nat} {Q : s_O → Prop} {h : s_H} {kc ks : Nat} {r0 : Term} {x1 : Int} {t2 t3 t4 t5 : Term} {q2 : Nat} {f3 : List Term} {v5 : Term} (g4 : s_get h q2 = some (1, 11, f3)) (k : wm P d 530 [v5, vl 1] h (wq P d sw_c471 sw_h471 64 [.index q2, vi x1, t2, t3, t4, t5] [] kc ks Q)) (e_q2 : r0 = .index q2 := by first | rfl | assumption) (y1 : s_ty r0 = 3 := by first | rfl | assumption) (n6 : s_nth f3 21 = some v5 := by first | rfl | assumption)  : wr P d sw_c471 sw_h471 (56, [r0, vi x1, t2, t3, t4, t5], [], h, kc, ks) Q := by
  refine w_ld rfl rfl (Or.inr (Or.inr ⟨by decide, y1⟩)) ?_
  subst e_q2
  refine w_getf rfl g4 n6 ?_
  refine w_c64 rfl (by decide) 1 (by decide) ?_
  exact w_cs rfl [v5, vl 1] [] rfl rfl (s_wt_4 rfl) k

theorem k471_64 {P : s_P} {d : Nat} {Q : s_O → Prop} {h : s_H} {kc ks : Nat} {r0 : Term} {x1 : Int} {t2 t3 t4 t5 : Term} {q2 : Nat} {f3 : List Term} {v5 v7 : Term} (g4 : s_get h q2 = some (1, 11, f3)) (k : wm P d 531 [.index q2, v5, v7] h (wq P d sw_c471 sw_h471 76 [.index q2, vi x1, t2, t3, t4, t5] [] kc ks Q)) (e_q2 : r0 = .index q2 := by first | rfl | assumption) (y1 : s_ty r0 = 3 := by first | rfl | assumption) (n6 : s_nth f3 10 = some v5 := by first | rfl | assumption) (n8 : s_nth f3 21 = some v7 := by first | rfl | assumption)  : wr P d sw_c471 sw_h471 (64, [r0, vi x1, t2, t3, t4, t5], [], h, kc, ks) Q := by
  refine w_ld rfl rfl (Or.inr (Or.inr ⟨by decide, y1⟩)) ?_
  refine w_ld rfl rfl (Or.inr (Or.inr ⟨by decide, y1⟩)) ?_
  subst e_q2
  refine w_getf rfl g4 n6 ?_
  refine w_ld rfl rfl (Or.inr (Or.inr ⟨by decide, rfl⟩)) ?_
  refine w_getf rfl g4 n8 ?_
  exact w_cv rfl [.index q2, v5, v7] [] rfl rfl (s_wt_4 rfl) rfl g4 k

theorem k471_76 {P : s_P} {d : Nat} {Q : s_O → Prop} {h : s_H} {kc ks : Nat} {r0 : Term} {x1 : Int} {t2 t3 t4 t5 : Term}  (k : wr P d sw_c471 sw_h471 (78, [r0, vi x1, vi 0, t3, t4, t5], [], h, kc, ks) Q)   : wr P d sw_c471 sw_h471 (76, [r0, vi x1, t2, t3, t4, t5], [], h, kc, ks) Q := by
  refine w_c32 rfl (by decide) 0 (by decide) ?_
  refine w_st (ls' := [r0, vi x1, vi 0, t3, t4, t5]) rfl (Or.inl ⟨by decide, rfl⟩) rfl ?_
  exact k

theorem k471_78 {P : s_P} {d : Nat} {Q : s_O → Prop} {h : s_H} {kc ks : Nat} {r0 : Term} {x1 x2 : Int} {t3 t4 t5 : Term}  (k1 : 80 ≤ x2 → wr P d sw_c471 sw_h471 (117, [r0, vi x1, vi x2, t3, t4, t5], [], h, kc, ks) Q) (k2 : ¬ 80 ≤ x2 → wr P d sw_c471 sw_h471 (84, [r0, vi x1, vi x2, t3, t4, t5], [], h, kc, ks) Q)  (c1 : In3 x2 := by first | omega | assumption | (simp only [mk_len, List.length_map]; omega) | decide) : wr P d sw_c471 sw_h471 (78, [r0, vi x1, vi x2, t3, t4, t5], [], h, kc, ks) Q := by
  refine w_ld rfl rfl (Or.inl ⟨by decide, rfl⟩) ?_
  refine w_c32 rfl (by decide) 80 (by decide) ?_
  exact w_if2 rfl c1 (by decide) k1 k2

theorem k471_84 {P : s_P} {d : Nat} {Q : s_O → Prop} {h : s_H} {kc ks : Nat} {r0 : Term} {x1 x2 : Int} {t3 t4 t5 : Term} {q2 : Nat} {f3 : List Term} {v5 v7 : Term} {q9 : Nat} {a10 : List Int} {v15 : Term} {q17 : Nat} {a18 : List Int} (g4 : s_get h q2 = some (1, 11, f3)) (g11 : s_get h q9 = some (0, 1, a10.map vl)) (g19 : s_get h q17 = some (0, 1, a18.map vl)) (k : wm P d 528 [vl ((gi a10 x2) - (gi a18 x2))] h (wq P d sw_c471 sw_h471 110 [.index q2, vi x1, vi x2, t3, t4, t5] [vi ((24 * x2) + x1), v5] kc ks Q)) (e_q2 : r0 = .index q2 := by first | rfl | assumption) (e_q9 : v7 = .index q9 := by first | rfl | assumption) (e_q17 : v15 = .index q17 := by first | rfl | assumption) (y1 : s_ty r0 = 3 := by first | rfl | assumption) (n6 : s_nth f3 43 = some v5 := by first | rfl | assumption) (n8 : s_nth f3 16 = some v7 := by first | rfl | assumption) (n16 : s_nth f3 22 = some v15 := by first | rfl | assumption) (c12 : x2 < a10.length := by first | omega | assumption | (simp only [mk_len, List.length_map]; omega) | decide) (c13 : 0 ≤ x2 := by first | omega | assumption | (simp only [mk_len, List.length_map]; omega) | decide) (c14 : In3 x2 := by first | omega | assumption | (simp only [mk_len, List.length_map]; omega) | decide) (c20 : x2 < a18.length := by first | omega | assumption | (simp only [mk_len, List.length_map]; omega) | decide) : wr P d sw_c471 sw_h471 (84, [r0, vi x1, vi x2, t3, t4, t5], [], h, kc, ks) Q := by
  refine w_ld rfl rfl (Or.inr (Or.inr ⟨by decide, y1⟩)) ?_
  subst e_q2
  refine w_getf rfl g4 n6 ?_
  refine w_c32 rfl (by decide) 24 (by decide) ?_
  refine w_ld rfl rfl (Or.inl ⟨by decide, rfl⟩) ?_
  refine w_imul rfl ?_
  refine w_ld rfl rfl (Or.inl ⟨by decide, rfl⟩) ?_
  refine w_iadd rfl ?_
  refine w_ld rfl rfl (Or.inr (Or.inr ⟨by decide, rfl⟩)) ?_
  refine w_getf rfl g4 n8 ?_
  refine w_ld rfl rfl (Or.inl ⟨by decide, rfl⟩) ?_
  subst e_q9
  refine w_lald rfl g11 c14 c13 c12 ?_
  refine w_ld rfl rfl (Or.inr (Or.inr ⟨by decide, rfl⟩)) ?_
  refine w_getf rfl g4 n16 ?_
  refine w_ld rfl rfl (Or.inl ⟨by decide, rfl⟩) ?_
  subst e_q17
  refine w_lald rfl g19 c14 c13 c20 ?_
  refine w_lsub rfl ?_
  exact w_cs rfl [vl ((gi a10 x2) - (gi a18 x2))] [vi ((24 * x2) + x1), v5] rfl rfl (s_wt_4 rfl) k

theorem k471_110 {P : s_P} {d : Nat} {Q : s_O → Prop} {h : s_H} {kc ks : Nat} {r0 : Term} {x1 x2 : Int} {t3 t4 t5 s0 : Term} {s1 s2 : Int} {q1 : Nat} {a2 : List Int} (g3 : s_get h q1 = some (0, 1, a2.map vl)) (k : wr P d sw_c471 sw_h471 (78, [r0, vi x1, vi (x2 + 1), t3, t4, t5], [], (hp h q1 (0, 1, (a2.set (Int.toNat (s1)) s2).map vl)), kc, ks) Q) (e_q1 : s0 = .index q1 := by first | rfl | assumption) (c4 : s1 < a2.length := by first | omega | assumption | (simp only [mk_len, List.length_map]; omega) | decide) (c5 : 0 ≤ s1 := by first | omega | assumption | (simp only [mk_len, List.length_map]; omega) | decide) (c6 : In3 s1 := by first | omega | assumption | (simp only [mk_len, List.length_map]; omega) | decide) (c7 : 0 < q1 := by first | omega | assumption | (simp only [mk_len, List.length_map]; omega) | decide) : wr P d sw_c471 sw_h471 (110, [r0, vi x1, vi x2, t3, t4, t5], [vl s2, vi s1, s0], h, kc, ks) Q := by
  subst e_q1
  refine w_last rfl g3 (Nat.ble_eq_true_of_le c7) c6 c5 c4 ?_
  refine w_iinc (ls' := [r0, vi x1, vi (x2 + 1), t3, t4, t5]) rfl rfl 1 (by decide) rfl ?_
  refine w_goto rfl ?_
  exact k

theorem k471_117 {P : s_P} {d : Nat} {Q : s_O → Prop} {h : s_H} {kc ks : Nat} {r0 : Term} {x1 x2 : Int} {t3 t4 t5 : Term}  (k : wr P d sw_c471 sw_h471 (12, [r0, vi (x1 + 1), vi x2, t3, t4, t5], [], h, kc, ks) Q) (y1 : s_ty r0 = 3 := by first | rfl | assumption)  : wr P d sw_c471 sw_h471 (117, [r0, vi x1, vi x2, t3, t4, t5], [], h, kc, ks) Q := by
  refine w_iinc (ls' := [r0, vi (x1 + 1), vi x2, t3, t4, t5]) rfl rfl 1 (by decide) (s_stK_r (pre := []) y1) ?_
  refine w_goto rfl ?_
  exact k

theorem k471_123 {P : s_P} {d : Nat} {Q : s_O → Prop} {h : s_H} {kc ks : Nat} {r0 : Term} {x1 : Int} {t2 t3 t4 t5 : Term}  (k : wr P d sw_c471 sw_h471 (125, [r0, vi 0, t2, t3, t4, t5], [], h, kc, ks) Q) (y1 : s_ty r0 = 3 := by first | rfl | assumption)  : wr P d sw_c471 sw_h471 (123, [r0, vi x1, t2, t3, t4, t5], [], h, kc, ks) Q := by
  refine w_c32 rfl (by decide) 0 (by decide) ?_
  refine w_st (ls' := [r0, vi 0, t2, t3, t4, t5]) rfl (Or.inl ⟨by decide, rfl⟩) (s_stK_r (pre := []) y1) ?_
  exact k

theorem k471_125 {P : s_P} {d : Nat} {Q : s_O → Prop} {h : s_H} {kc ks : Nat} {r0 : Term} {x1 : Int} {t2 t3 t4 t5 : Term}  (k1 : 80 ≤ x1 → wr P d sw_c471 sw_h471 (155, [r0, vi x1, t2, t3, t4, t5], [], h, kc, ks) Q) (k2 : ¬ 80 ≤ x1 → wr P d sw_c471 sw_h471 (131, [r0, vi x1, t2, t3, t4, t5], [], h, kc, ks) Q)  (c1 : In3 x1 := by first | omega | assumption | (simp only [mk_len, List.length_map]; omega) | decide) : wr P d sw_c471 sw_h471 (125, [r0, vi x1, t2, t3, t4, t5], [], h, kc, ks) Q := by
  refine w_ld rfl rfl (Or.inl ⟨by decide, rfl⟩) ?_
  refine w_c32 rfl (by decide) 80 (by decide) ?_
  exact w_if2 rfl c1 (by decide) k1 k2

theorem k471_131 {P : s_P} {d : Nat} {Q : s_O → Prop} {h : s_H} {kc ks : Nat} {r0 : Term} {x1 : Int} {t2 t3 t4 t5 : Term} {q2 : Nat} {f3 : List Term} {v5 v7 : Term} {q9 : Nat} {a10 : List Int} {q15 : Nat} {a16 : List Int} (g4 : s_get h q2 = some (1, 11, f3)) (g11 : s_get h q9 = some (0, 1, a10.map vl)) (g17 : s_get h q15 = some (0, 1, a16.map vl)) (k : wr P d sw_c471 sw_h471 (125, [.index q2, vi (x1 + 1), t2, t3, t4, t5], [], (hp h q15 (0, 1, (a16.set (Int.toNat ((24 * x1) + 21)) (gi a10 x1)).map vl)), kc, ks) Q) (e_q2 : r0 = .index q2 := by first | rfl | assumption) (e_q9 : v7 = .index q9 := by first | rfl | assumption) (e_q15 : v5 = .index q15 := by first | rfl | assumption) (y1 : s_ty r0 = 3 := by first | rfl | assumption) (n6 : s_nth f3 43 = some v5 := by first | rfl | assumption) (n8 : s_nth f3 24 = some v7 := by first | rfl | assumption) (c12 : x1 < a10.length := by first | omega | assumption | (simp only [mk_len, List.length_map]; omega) | decide) (c13 : 0 ≤ x1 := by first | omega | assumption | (simp only [mk_len, List.length_map]; omega) | decide) (c14 : In3 x1 := by first | omega | assumption | (simp only [mk_len, List.length_map]; omega) | decide) (c18 : (24 * x1) + 21 < a16.length := by first | omega | assumption | (simp only [mk_len, List.length_map]; omega) | decide) (c19 : 0 ≤ (24 * x1) + 21 := by first | omega | assumption | (simp only [mk_len, List.length_map]; omega) | decide) (c20 : In3 ((24 * x1) + 21) := by first | omega | assumption | (simp only [mk_len, List.length_map]; omega) | decide) (c21 : 0 < q15 := by first | omega | assumption | (simp only [mk_len, List.length_map]; omega) | decide) : wr P d sw_c471 sw_h471 (131, [r0, vi x1, t2, t3, t4, t5], [], h, kc, ks) Q := by
  refine w_ld rfl rfl (Or.inr (Or.inr ⟨by decide, y1⟩)) ?_
  subst e_q2
  refine w_getf rfl g4 n6 ?_
  refine w_c32 rfl (by decide) 24 (by decide) ?_
  refine w_ld rfl rfl (Or.inl ⟨by decide, rfl⟩) ?_
  refine w_imul rfl ?_
  refine w_c32 rfl (by decide) 21 (by decide) ?_
  refine w_iadd rfl ?_
  refine w_ld rfl rfl (Or.inr (Or.inr ⟨by decide, rfl⟩)) ?_
  refine w_getf rfl g4 n8 ?_
  refine w_ld rfl rfl (Or.inl ⟨by decide, rfl⟩) ?_
  subst e_q9
  refine w_lald rfl g11 c14 c13 c12 ?_
  subst e_q15
  refine w_last rfl g17 (Nat.ble_eq_true_of_le c21) c20 c19 c18 ?_
  refine w_iinc (ls' := [.index q2, vi (x1 + 1), t2, t3, t4, t5]) rfl rfl 1 (by decide) rfl ?_
  refine w_goto rfl ?_
  exact k

theorem k471_155 {P : s_P} {d : Nat} {Q : s_O → Prop} {h : s_H} {kc ks : Nat} {r0 : Term} {x1 : Int} {t2 t3 t4 t5 : Term}  (k : wr P d sw_c471 sw_h471 (159, [r0, vi 0, vi 0, t3, t4, t5], [], h, kc, ks) Q) (y1 : s_ty r0 = 3 := by first | rfl | assumption)  : wr P d sw_c471 sw_h471 (155, [r0, vi x1, t2, t3, t4, t5], [], h, kc, ks) Q := by
  refine w_c32 rfl (by decide) 0 (by decide) ?_
  refine w_st (ls' := [r0, vi 0, t2, t3, t4, t5]) rfl (Or.inl ⟨by decide, rfl⟩) (s_stK_r (pre := []) y1) ?_
  refine w_c32 rfl (by decide) 0 (by decide) ?_
  refine w_st (ls' := [r0, vi 0, vi 0, t3, t4, t5]) rfl (Or.inl ⟨by decide, rfl⟩) rfl ?_
  exact k

theorem k471_159 {P : s_P} {d : Nat} {Q : s_O → Prop} {h : s_H} {kc ks : Nat} {r0 : Term} {x1 x2 : Int} {t3 t4 t5 : Term}  (k1 : 21 ≤ x2 → wr P d sw_c471 sw_h471 (351, [r0, vi x1, vi x2, t3, t4, t5], [], h, kc, ks) Q) (k2 : ¬ 21 ≤ x2 → wr P d sw_c471 sw_h471 (165, [r0, vi x1, vi x2, t3, t4, t5], [], h, kc, ks) Q)  (c1 : In3 x2 := by first | omega | assumption | (simp only [mk_len, List.length_map]; omega) | decide) : wr P d sw_c471 sw_h471 (159, [r0, vi x1, vi x2, t3, t4, t5], [], h, kc, ks) Q := by
  refine w_ld rfl rfl (Or.inl ⟨by decide, rfl⟩) ?_
  refine w_c32 rfl (by decide) 21 (by decide) ?_
  exact w_if2 rfl c1 (by decide) k1 k2

theorem k471_165 {P : s_P} {d : Nat} {Q : s_O → Prop} {h : s_H} {kc ks : Nat} {r0 : Term} {x1 x2 : Int} {t3 t4 t5 : Term}  (k : wr P d sw_c471 sw_h471 (167, [r0, vi x1, vi x2, vi x1, t4, t5], [], h, kc, ks) Q)   : wr P d sw_c471 sw_h471 (165, [r0, vi x1, vi x2, t3, t4, t5], [], h, kc, ks) Q := by
  refine w_ld rfl rfl (Or.inl ⟨by decide, rfl⟩) ?_
  refine w_st (ls' := [r0, vi x1, vi x2, vi x1, t4, t5]) rfl (Or.inl ⟨by decide, rfl⟩) rfl ?_
  exact k

theorem k471_167 {P : s_P} {d : Nat} {Q : s_O → Prop} {h : s_H} {kc ks : Nat} {r0 : Term} {x1 x2 x3 : Int} {t4 t5 : Term}  (k1 : 80 ≤ x3 → wr P d sw_c471 sw_h471 (195, [r0, vi x1, vi x2, vi x3, t4, t5], [], h, kc, ks) Q) (k2 : ¬ 80 ≤ x3 → wr P d sw_c471 sw_h471 (173, [r0, vi x1, vi x2, vi x3, t4, t5], [], h, kc, ks) Q)  (c1 : In3 x3 := by first | omega | assumption | (simp only [mk_len, List.length_map]; omega) | decide) : wr P d sw_c471 sw_h471 (167, [r0, vi x1, vi x2, vi x3, t4, t5], [], h, kc, ks) Q := by
  refine w_ld rfl rfl (Or.inl ⟨by decide, rfl⟩) ?_
  refine w_c32 rfl (by decide) 80 (by decide) ?_
  exact w_if2 rfl c1 (by decide) k1 k2

theorem k471_173 {P : s_P} {d : Nat} {Q : s_O → Prop} {h : s_H} {kc ks : Nat} {r0 : Term} {x1 x2 x3 : Int} {t4 t5 : Term} {q2 : Nat} {f3 : List Term} {v5 : Term} {q7 : Nat} {a8 : List Int} (g4 : s_get h q2 = some (1, 11, f3)) (g9 : s_get h q7 = some (0, 1, a8.map vl)) (k1 : gi a8 ((24 * x3) + x2) ≠ 0 → wr P d sw_c471 sw_h471 (195, [.index q2, vi x1, vi x2, vi x3, t4, t5], [], h, kc, ks) Q) (k2 : ¬ gi a8 ((24 * x3) + x2) ≠ 0 → wr P d sw_c471 sw_h471 (189, [.index q2, vi x1, vi x2, vi x3, t4, t5], [], h, kc, ks) Q) (e_q2 : r0 = .index q2 := by first | rfl | assumption) (e_q7 : v5 = .index q7 := by first | rfl | assumption) (y1 : s_ty r0 = 3 := by first | rfl | assumption) (n6 : s_nth f3 43 = some v5 := by first | rfl | assumption) (c10 : (24 * x3) + x2 < a8.length := by first | omega | assumption | (simp only [mk_len, List.length_map]; omega) | decide) (c11 : 0 ≤ (24 * x3) + x2 := by first | omega | assumption | (simp only [mk_len, List.length_map]; omega) | decide) (c12 : In3 ((24 * x3) + x2) := by first | omega | assumption | (simp only [mk_len, List.length_map]; omega) | decide) (c13 : In6 (gi a8 ((24 * x3) + x2)) := by first | omega | assumption | (simp only [mk_len, List.length_map]; omega) | decide) : wr P d sw_c471 sw_h471 (173, [r0, vi x1, vi x2, vi x3, t4, t5], [], h, kc, ks) Q := by
  refine w_ld rfl rfl (Or.inr (Or.inr ⟨by decide, y1⟩)) ?_
  subst e_q2
  refine w_getf rfl g4 n6 ?_
  refine w_c32 rfl (by decide) 24 (by decide) ?_
  refine w_ld rfl rfl (Or.inl ⟨by decide, rfl⟩) ?_
  refine w_imul rfl ?_
  refine w_ld rfl rfl (Or.inl ⟨by decide, rfl⟩) ?_
  refine w_iadd rfl ?_
  subst e_q7
  refine w_lald rfl g9 c12 c11 c10 ?_
  refine w_c64 rfl (by decide) 0 (by decide) ?_
  exact w_lcmp rfl rfl c13 (by decide) k1 k2

theorem k471_189 {P : s_P} {d : Nat} {Q : s_O → Prop} {h : s_H} {kc ks : Nat} {r0 : Term} {x1 x2 x3 : Int} {t4 t5 : Term}  (k : wr P d sw_c471 sw_h471 (167, [r0, vi x1, vi x2, vi (x3 + 1), t4, t5], [], h, kc, ks) Q)   : wr P d sw_c471 sw_h471 (189, [r0, vi x1, vi x2, vi x3, t4, t5], [], h, kc, ks) Q := by
  refine w_iinc (ls' := [r0, vi x1, vi x2, vi (x3 + 1), t4, t5]) rfl rfl 1 (by decide) rfl ?_
  refine w_goto rfl ?_
  exact k

theorem k471_195 {P : s_P} {d : Nat} {Q : s_O → Prop} {h : s_H} {kc ks : Nat} {r0 : Term} {x1 x2 x3 : Int} {t4 t5 : Term} {q2 : Nat} {f3 : List Term} {v5 : Term} (g4 : s_get h q2 = some (1, 11, f3)) (k1 : x3 ≠ 80 → wr P d sw_c471 sw_h471 (210, [.index q2, vi x1, vi x2, vi x3, t4, t5], [vi x2, v5], h, kc, ks) Q) (k2 : ¬ x3 ≠ 80 → wr P d sw_c471 sw_h471 (206, [.index q2, vi x1, vi x2, vi x3, t4, t5], [vi x2, v5], h, kc, ks) Q) (e_q2 : r0 = .index q2 := by first | rfl | assumption) (y1 : s_ty r0 = 3 := by first | rfl | assumption) (n6 : s_nth f3 44 = some v5 := by first | rfl | assumption) (c7 : In3 x3 := by first | omega | assumption | (simp only [mk_len, List.length_map]; omega) | decide) : wr P d sw_c471 sw_h471 (195, [r0, vi x1, vi x2, vi x3, t4, t5], [], h, kc, ks) Q := by
  refine w_ld rfl rfl (Or.inr (Or.inr ⟨by decide, y1⟩)) ?_
  subst e_q2
  refine w_getf rfl g4 n6 ?_
  refine w_ld rfl rfl (Or.inl ⟨by decide, rfl⟩) ?_
  refine w_ld rfl rfl (Or.inl ⟨by decide, rfl⟩) ?_
  refine w_c32 rfl (by decide) 80 (by decide) ?_
  exact w_if2 rfl c7 (by decide) k1 k2

theorem k471_206 {P : s_P} {d : Nat} {Q : s_O → Prop} {h : s_H} {kc ks : Nat} {r0 : Term} {x1 x2 x3 : Int} {t4 t5 s0 : Term} {s1 : Int}  (k : wr P d sw_c471 sw_h471 (211, [r0, vi x1, vi x2, vi x3, t4, t5], [vi (-1), vi s1, s0], h, kc, ks) Q)   : wr P d sw_c471 sw_h471 (206, [r0, vi x1, vi x2, vi x3, t4, t5], [vi s1, s0], h, kc, ks) Q := by
  refine w_c32 rfl (by decide) (-1) (by decide) ?_
  refine w_goto rfl ?_
  exact k

theorem k471_210 {P : s_P} {d : Nat} {Q : s_O → Prop} {h : s_H} {kc ks : Nat} {r0 : Term} {x1 x2 x3 : Int} {t4 t5 s0 : Term} {s1 : Int}  (k : wr P d sw_c471 sw_h471 (211, [r0, vi x1, vi x2, vi x3, t4, t5], [vi x1, vi s1, s0], h, kc, ks) Q)   : wr P d sw_c471 sw_h471 (210, [r0, vi x1, vi x2, vi x3, t4, t5], [vi s1, s0], h, kc, ks) Q := by
  refine w_ld rfl rfl (Or.inl ⟨by decide, rfl⟩) ?_
  exact k

theorem k471_211 {P : s_P} {d : Nat} {Q : s_O → Prop} {h : s_H} {kc ks : Nat} {r0 : Term} {x1 x2 x3 : Int} {t4 t5 s0 : Term} {s1 s2 : Int} {q1 : Nat} {a2 : List Int} (g3 : s_get h q1 = some (0, 0, a2.map vi)) (k1 : 80 ≤ x3 → wr P d sw_c471 sw_h471 (228, [r0, vi x1, vi x2, vi x3, t4, t5], [], (hp h q1 (0, 0, (a2.set (Int.toNat (s1)) s2).map vi)), kc, ks) Q) (k2 : ¬ 80 ≤ x3 → wr P d sw_c471 sw_h471 (218, [r0, vi x1, vi x2, vi x3, t4, t5], [], (hp h q1 (0, 0, (a2.set (Int.toNat (s1)) s2).map vi)), kc, ks) Q) (e_q1 : s0 = .index q1 := by first | rfl | assumption) (c4 : s1 < a2.length := by first | omega | assumption | (simp only [mk_len, List.length_map]; omega) | decide) (c5 : 0 ≤ s1 := by first | omega | assumption | (simp only [mk_len, List.length_map]; omega) | decide) (c6 : In3 s1 := by first | omega | assumption | (simp only [mk_len, List.length_map]; omega) | decide) (c7 : 0 < q1 := by first | omega | assumption | (simp only [mk_len, List.length_map]; omega) | decide) (c8 : In3 x3 := by first | omega | assumption | (simp only [mk_len, List.length_map]; omega) | decide) : wr P d sw_c471 sw_h471 (211, [r0, vi x1, vi x2, vi x3, t4, t5], [vi s2, vi s1, s0], h, kc, ks) Q := by
  subst e_q1
  refine w_iast rfl g3 (Nat.ble_eq_true_of_le c7) c6 c5 c4 ?_
  refine w_ld rfl rfl (Or.inl ⟨by decide, rfl⟩) ?_
  refine w_c32 rfl (by decide) 80 (by decide) ?_
  exact w_if2 rfl c8 (by decide) k1 k2

theorem k471_218 {P : s_P} {d : Nat} {Q : s_O → Prop} {h : s_H} {kc ks : Nat} {r0 : Term} {x1 x2 x3 : Int} {t4 t5 : Term} {q2 : Nat} {f3 : List Term} (g4 : s_get h q2 = some (1, 11, f3)) (k : wm P d 410 [.index q2, vi x3, vi x1, vi x2] h (wq P d sw_c471 sw_h471 225 [.index q2, vi x1, vi x2, vi x3, t4, t5] [] kc ks Q)) (e_q2 : r0 = .index q2 := by first | rfl | assumption) (y1 : s_ty r0 = 3 := by first | rfl | assumption)  : wr P d sw_c471 sw_h471 (218, [r0, vi x1, vi x2, vi x3, t4, t5], [], h, kc, ks) Q := by
  refine w_ld rfl rfl (Or.inr (Or.inr ⟨by decide, y1⟩)) ?_
  refine w_ld rfl rfl (Or.inl ⟨by decide, rfl⟩) ?_
  refine w_ld rfl rfl (Or.inl ⟨by decide, rfl⟩) ?_
  refine w_ld rfl rfl (Or.inl ⟨by decide, rfl⟩) ?_
  subst e_q2
  exact w_cv rfl [.index q2, vi x3, vi x1, vi x2] [] rfl rfl (s_wt_4 rfl) rfl g4 k

theorem k471_225 {P : s_P} {d : Nat} {Q : s_O → Prop} {h : s_H} {kc ks : Nat} {r0 : Term} {x1 x2 x3 : Int} {t4 t5 : Term}  (k : wr P d sw_c471 sw_h471 (228, [r0, vi (x1 + 1), vi x2, vi x3, t4, t5], [], h, kc, ks) Q) (y1 : s_ty r0 = 3 := by first | rfl | assumption)  : wr P d sw_c471 sw_h471 (225, [r0, vi x1, vi x2, vi x3, t4, t5], [], h, kc, ks) Q := by
  refine w_iinc (ls' := [r0, vi (x1 + 1), vi x2, vi x3, t4, t5]) rfl rfl 1 (by decide) (s_stK_r (pre := []) y1) ?_
  exact k

theorem k471_228 {P : s_P} {d : Nat} {Q : s_O → Prop} {h : s_H} {kc ks : Nat} {r0 : Term} {x1 x2 x3 : Int} {t4 t5 : Term}  (k : wr P d sw_c471 sw_h471 (234, [r0, vi x1, vi x2, vi x3, vi 1, vi x1], [], h, kc, ks) Q)   : wr P d sw_c471 sw_h471 (228, [r0, vi x1, vi x2, vi x3, t4, t5], [], h, kc, ks) Q := by
  refine w_c32 rfl (by decide) 1 (by decide) ?_
  refine w_st (ls' := [r0, vi x1, vi x2, vi x3, vi 1, t5]) rfl (Or.inl ⟨by decide, rfl⟩) rfl ?_
  refine w_ld rfl rfl (Or.inl ⟨by decide, rfl⟩) ?_
  refine w_st (ls' := [r0, vi x1, vi x2, vi x3, vi 1, vi x1]) rfl (Or.inl ⟨by decide, rfl⟩) rfl ?_
  exact k

theorem k471_234 {P : s_P} {d : Nat} {Q : s_O → Prop} {h : s_H} {kc ks : Nat} {r0 : Term} {x1 x2 x3 x4 x5 : Int}  (k1 : 80 ≤ x5 → wr P d sw_c471 sw_h471 (277, [r0, vi x1, vi x2, vi x3, vi x4, vi x5], [], h, kc, ks) Q) (k2 : ¬ 80 ≤ x5 → wr P d sw_c471 sw_h471 (241, [r0, vi x1, vi x2, vi x3, vi x4, vi x5], [], h, kc, ks) Q)  (c1 : In3 x5 := by first | omega | assumption | (simp only [mk_len, List.length_map]; omega) | decide) : wr P d sw_c471 sw_h471 (234, [r0, vi x1, vi x2, vi x3, vi x4, vi x5], [], h, kc, ks) Q := by
  refine w_ld rfl rfl (Or.inl ⟨by decide, rfl⟩) ?_
  refine w_c32 rfl (by decide) 80 (by decide) ?_
  exact w_if2 rfl c1 (by decide) k1 k2

theorem k471_241 {P : s_P} {d : Nat} {Q : s_O → Prop} {h : s_H} {kc ks : Nat} {r0 : Term} {x1 x2 x3 x4 x5 : Int}  (k1 : x4 = 0 → wr P d sw_c471 sw_h471 (268, [r0, vi x1, vi x2, vi x3, vi x4, vi x5], [], h, kc, ks) Q) (k2 : ¬ x4 = 0 → wr P d sw_c471 sw_h471 (246, [r0, vi x1, vi x2, vi x3, vi x4, vi x5], [], h, kc, ks) Q)  (c1 : In3 x4 := by first | omega | assumption | (simp only [mk_len, List.length_map]; omega) | decide) : wr P d sw_c471 sw_h471 (241, [r0, vi x1, vi x2, vi x3, vi x4, vi x5], [], h, kc, ks) Q := by
  refine w_ld rfl rfl (Or.inl ⟨by decide, rfl⟩) ?_
  exact w_if1 rfl c1 k1 k2

theorem k471_246 {P : s_P} {d : Nat} {Q : s_O → Prop} {h : s_H} {kc ks : Nat} {r0 : Term} {x1 x2 x3 x4 x5 : Int} {q2 : Nat} {f3 : List Term} {v5 : Term} {q7 : Nat} {a8 : List Int} (g4 : s_get h q2 = some (1, 11, f3)) (g9 : s_get h q7 = some (0, 1, a8.map vl)) (k1 : gi a8 ((24 * x5) + 21) ≠ 0 → wr P d sw_c471 sw_h471 (268, [.index q2, vi x1, vi x2, vi x3, vi x4, vi x5], [], h, kc, ks) Q) (k2 : ¬ gi a8 ((24 * x5) + 21) ≠ 0 → wr P d sw_c471 sw_h471 (264, [.index q2, vi x1, vi x2, vi x3, vi x4, vi x5], [], h, kc, ks) Q) (e_q2 : r0 = .index q2 := by first | rfl | assumption) (e_q7 : v5 = .index q7 := by first | rfl | assumption) (y1 : s_ty r0 = 3 := by first | rfl | assumption) (n6 : s_nth f3 43 = some v5 := by first | rfl | assumption) (c10 : (24 * x5) + 21 < a8.length := by first | omega | assumption | (simp only [mk_len, List.length_map]; omega) | decide) (c11 : 0 ≤ (24 * x5) + 21 := by first | omega | assumption | (simp only [mk_len, List.length_map]; omega) | decide) (c12 : In3 ((24 * x5) + 21) := by first | omega | assumption | (simp only [mk_len, List.length_map]; omega) | decide) (c13 : In6 (gi a8 ((24 * x5) + 21)) := by first | omega | assumption | (simp only [mk_len, List.length_map]; omega) | decide) : wr P d sw_c471 sw_h471 (246, [r0, vi x1, vi x2, vi x3, vi x4, vi x5], [], h, kc, ks) Q := by
  refine w_ld rfl rfl (Or.inr (Or.inr ⟨by decide, y1⟩)) ?_
  subst e_q2
  refine w_getf rfl g4 n6 ?_
  refine w_c32 rfl (by decide) 24 (by decide) ?_
  refine w_ld rfl rfl (Or.inl ⟨by decide, rfl⟩) ?_
  refine w_imul rfl ?_
  refine w_c32 rfl (by decide) 21 (by decide) ?_
  refine w_iadd rfl ?_
  subst e_q7
  refine w_lald rfl g9 c12 c11 c10 ?_
  refine w_c64 rfl (by decide) 0 (by decide) ?_
  exact w_lcmp rfl rfl c13 (by decide) k1 k2

theorem k471_264 {P : s_P} {d : Nat} {Q : s_O → Prop} {h : s_H} {kc ks : Nat} {r0 : Term} {x1 x2 x3 x4 x5 : Int}  (k : wr P d sw_c471 sw_h471 (269, [r0, vi x1, vi x2, vi x3, vi x4, vi x5], [vi 1], h, kc, ks) Q)   : wr P d sw_c471 sw_h471 (264, [r0, vi x1, vi x2, vi x3, vi x4, vi x5], [], h, kc, ks) Q := by
  refine w_c32 rfl (by decide) 1 (by decide) ?_
  refine w_goto rfl ?_
  exact k

theorem k471_268 {P : s_P} {d : Nat} {Q : s_O → Prop} {h : s_H} {kc ks : Nat} {r0 : Term} {x1 x2 x3 x4 x5 : Int}  (k : wr P d sw_c471 sw_h471 (269, [r0, vi x1, vi x2, vi x3, vi x4, vi x5], [vi 0], h, kc, ks) Q)   : wr P d sw_c471 sw_h471 (268, [r0, vi x1, vi x2, vi x3, vi x4, vi x5], [], h, kc, ks) Q := by
  refine w_c32 rfl (by decide) 0 (by decide) ?_
  exact k

theorem k471_269 {P : s_P} {d : Nat} {Q : s_O → Prop} {h : s_H} {kc ks : Nat} {r0 : Term} {x1 x2 x3 x4 x5 s0 : Int}  (k : wr P d sw_c471 sw_h471 (234, [r0, vi x1, vi x2, vi x3, vi s0, vi (x5 + 1)], [], h, kc, ks) Q)   : wr P d sw_c471 sw_h471 (269, [r0, vi x1, vi x2, vi x3, vi x4, vi x5], [vi s0], h, kc, ks) Q := by
  refine w_st (ls' := [r0, vi x1, vi x2, vi x3, vi s0, vi x5]) rfl (Or.inl ⟨by decide, rfl⟩) rfl ?_
  refine w_iinc (ls' := [r0, vi x1, vi x2, vi x3, vi s0, vi (x5 + 1)]) rfl rfl 1 (by decide) rfl ?_
  refine w_goto rfl ?_
  exact k

theorem k471_277 {P : s_P} {d : Nat} {Q : s_O → Prop} {h : s_H} {kc ks : Nat} {r0 : Term} {x1 x2 x3 x4 x5 : Int}  (k1 : x4 ≠ 0 → wr P d sw_c471 sw_h471 (285, [r0, vi x1, vi x2, vi x3, vi x4, vi x5], [], h, kc, ks) Q) (k2 : ¬ x4 ≠ 0 → wr P d sw_c471 sw_h471 (282, [r0, vi x1, vi x2, vi x3, vi x4, vi x5], [], h, kc, ks) Q)  (c1 : In3 x4 := by first | omega | assumption | (simp only [mk_len, List.length_map]; omega) | decide) : wr P d sw_c471 sw_h471 (277, [r0, vi x1, vi x2, vi x3, vi x4, vi x5], [], h, kc, ks) Q := by
  refine w_ld rfl rfl (Or.inl ⟨by decide, rfl⟩) ?_
  exact w_if1 rfl c1 k1 k2

theorem k471_282 {P : s_P} {d : Nat} {Q : s_O → Prop} {h : s_H} {kc ks : Nat} {r0 : Term} {x1 x2 x3 x4 x5 : Int}  (k : wr P d sw_c471 sw_h471 (345, [r0, vi x1, vi x2, vi x3, vi x4, vi x5], [], h, kc, ks) Q)   : wr P d sw_c471 sw_h471 (282, [r0, vi x1, vi x2, vi x3, vi x4, vi x5], [], h, kc, ks) Q := by
  refine w_goto rfl ?_
  exact k

theorem k471_285 {P : s_P} {d : Nat} {Q : s_O → Prop} {h : s_H} {kc ks : Nat} {r0 : Term} {x1 x2 x3 x4 x5 : Int} {q2 : Nat} {f3 : List Term} {v5 : Term} (g4 : s_get h q2 = some (1, 11, f3)) (k : wm P d 438 [v5] h (wq P d sw_c471 sw_h471 292 [.index q2, vi x1, vi x2, vi x3, vi x4, vi x5] [] kc ks Q)) (e_q2 : r0 = .index q2 := by first | rfl | assumption) (y1 : s_ty r0 = 3 := by first | rfl | assumption) (n6 : s_nth f3 20 = some v5 := by first | rfl | assumption)  : wr P d sw_c471 sw_h471 (285, [r0, vi x1, vi x2, vi x3, vi x4, vi x5], [], h, kc, ks) Q := by
  refine w_ld rfl rfl (Or.inr (Or.inr ⟨by decide, y1⟩)) ?_
  subst e_q2
  refine w_getf rfl g4 n6 ?_
  exact w_cs rfl [v5] [] rfl rfl (s_wt_4 rfl) k

theorem k471_292 {P : s_P} {d : Nat} {Q : s_O → Prop} {h : s_H} {kc ks : Nat} {r0 : Term} {x1 x2 x3 x4 x5 : Int}  (k : wr P d sw_c471 sw_h471 (295, [r0, vi x1, vi x2, vi x3, vi x4, vi 0], [], h, kc, ks) Q)   : wr P d sw_c471 sw_h471 (292, [r0, vi x1, vi x2, vi x3, vi x4, vi x5], [], h, kc, ks) Q := by
  refine w_c32 rfl (by decide) 0 (by decide) ?_
  refine w_st (ls' := [r0, vi x1, vi x2, vi x3, vi x4, vi 0]) rfl (Or.inl ⟨by decide, rfl⟩) rfl ?_
  exact k

theorem k471_295 {P : s_P} {d : Nat} {Q : s_O → Prop} {h : s_H} {kc ks : Nat} {r0 : Term} {x1 x2 x3 x4 x5 : Int}  (k1 : x2 < x5 → wr P d sw_c471 sw_h471 (343, [r0, vi x1, vi x2, vi x3, vi x4, vi x5], [], h, kc, ks) Q) (k2 : ¬ x2 < x5 → wr P d sw_c471 sw_h471 (301, [r0, vi x1, vi x2, vi x3, vi x4, vi x5], [], h, kc, ks) Q)  (c1 : In3 x5 := by first | omega | assumption | (simp only [mk_len, List.length_map]; omega) | decide) (c2 : In3 x2 := by first | omega | assumption | (simp only [mk_len, List.length_map]; omega) | decide) : wr P d sw_c471 sw_h471 (295, [r0, vi x1, vi x2, vi x3, vi x4, vi x5], [], h, kc, ks) Q := by
  refine w_ld rfl rfl (Or.inl ⟨by decide, rfl⟩) ?_
  refine w_ld rfl rfl (Or.inl ⟨by decide, rfl⟩) ?_
  exact w_if2 rfl c1 c2 k1 k2

theorem k471_301 {P : s_P} {d : Nat} {Q : s_O → Prop} {h : s_H} {kc ks : Nat} {r0 : Term} {x1 x2 x3 x4 x5 : Int} {q2 : Nat} {f3 : List Term} {v5 : Term} {q7 : Nat} {a8 : List Int} (g4 : s_get h q2 = some (1, 11, f3)) (g9 : s_get h q7 = some (0, 0, a8.map vi)) (k1 : gi a8 x5 = (-1) → wr P d sw_c471 sw_h471 (337, [.index q2, vi x1, vi x2, vi x3, vi x4, vi x5], [], h, kc, ks) Q) (k2 : ¬ gi a8 x5 = (-1) → wr P d sw_c471 sw_h471 (312, [.index q2, vi x1, vi x2, vi x3, vi x4, vi x5], [], h, kc, ks) Q) (e_q2 : r0 = .index q2 := by first | rfl | assumption) (e_q7 : v5 = .index q7 := by first | rfl | assumption) (y1 : s_ty r0 = 3 := by first | rfl | assumption) (n6 : s_nth f3 44 = some v5 := by first | rfl | assumption) (c10 : x5 < a8.length := by first | omega | assumption | (simp only [mk_len, List.length_map]; omega) | decide) (c11 : 0 ≤ x5 := by first | omega | assumption | (simp only [mk_len, List.length_map]; omega) | decide) (c12 : In3 x5 := by first | omega | assumption | (simp only [mk_len, List.length_map]; omega) | decide) (c13 : In3 (gi a8 x5) := by first | omega | assumption | (simp only [mk_len, List.length_map]; omega) | decide) : wr P d sw_c471 sw_h471 (301, [r0, vi x1, vi x2, vi x3, vi x4, vi x5], [], h, kc, ks) Q := by
  refine w_ld rfl rfl (Or.inr (Or.inr ⟨by decide, y1⟩)) ?_
  subst e_q2
  refine w_getf rfl g4 n6 ?_
  refine w_ld rfl rfl (Or.inl ⟨by decide, rfl⟩) ?_
  subst e_q7
  refine w_iald rfl g9 (Or.inl rfl) c12 c11 c10 ?_
  refine w_c32 rfl (by decide) (-1) (by decide) ?_
  exact w_if2 rfl c13 (by decide) k1 k2

theorem k471_312 {P : s_P} {d : Nat} {Q : s_O → Prop} {h : s_H} {kc ks : Nat} {r0 : Term} {x1 x2 x3 x4 x5 : Int} {q2 : Nat} {f3 : List Term} {v5 v7 v9 : Term} {q11 : Nat} {a12 : List Int} {q17 : Nat} {a18 : List Int} {q23 : Nat} {a24 : List Int} (g4 : s_get h q2 = some (1, 11, f3)) (g13 : s_get h q11 = some (0, 0, a12.map vi)) (g19 : s_get h q17 = some (0, 1, a18.map vl)) (g25 : s_get h q23 = some (0, 1, a24.map vl)) (k : wr P d sw_c471 sw_h471 (337, [.index q2, vi x1, vi x2, vi x3, vi x4, vi x5], [], (hp h q23 (0, 1, (a24.set (Int.toNat (x5)) (gi a18 ((24 * (gi a12 x5)) + 21))).map vl)), kc, ks) Q) (e_q2 : r0 = .index q2 := by first | rfl | assumption) (e_q11 : v9 = .index q11 := by first | rfl | assumption) (e_q17 : v7 = .index q17 := by first | rfl | assumption) (e_q23 : v5 = .index q23 := by first | rfl | assumption) (y1 : s_ty r0 = 3 := by first | rfl | assumption) (n6 : s_nth f3 20 = some v5 := by first | rfl | assumption) (n8 : s_nth f3 43 = some v7 := by first | rfl | assumption) (n10 : s_nth f3 44 = some v9 := by first | rfl | assumption) (c14 : x5 < a12.length := by first | omega | assumption | (simp only [mk_len, List.length_map]; omega) | decide) (c15 : 0 ≤ x5 := by first | omega | assumption | (simp only [mk_len, List.length_map]; omega) | decide) (c16 : In3 x5 := by first | omega | assumption | (simp only [mk_len, List.length_map]; omega) | decide) (c20 : (24 * (gi a12 x5)) + 21 < a18.length := by first | omega | assumption | (simp only [mk_len, List.length_map]; omega) | decide) (c21 : 0 ≤ (24 * (gi a12 x5)) + 21 := by first | omega | assumption | (simp only [mk_len, List.length_map]; omega) | decide) (c22 : In3 ((24 * (gi a12 x5)) + 21) := by first | omega | assumption | (simp only [mk_len, List.length_map]; omega) | decide) (c26 : x5 < a24.length := by first | omega | assumption | (simp only [mk_len, List.length_map]; omega) | decide) (c27 : 0 < q23 := by first | omega | assumption | (simp only [mk_len, List.length_map]; omega) | decide) : wr P d sw_c471 sw_h471 (312, [r0, vi x1, vi x2, vi x3, vi x4, vi x5], [], h, kc, ks) Q := by
  refine w_ld rfl rfl (Or.inr (Or.inr ⟨by decide, y1⟩)) ?_
  subst e_q2
  refine w_getf rfl g4 n6 ?_
  refine w_ld rfl rfl (Or.inl ⟨by decide, rfl⟩) ?_
  refine w_ld rfl rfl (Or.inr (Or.inr ⟨by decide, rfl⟩)) ?_
  refine w_getf rfl g4 n8 ?_
  refine w_c32 rfl (by decide) 24 (by decide) ?_
  refine w_ld rfl rfl (Or.inr (Or.inr ⟨by decide, rfl⟩)) ?_
  refine w_getf rfl g4 n10 ?_
  refine w_ld rfl rfl (Or.inl ⟨by decide, rfl⟩) ?_
  subst e_q11
  refine w_iald rfl g13 (Or.inl rfl) c16 c15 c14 ?_
  refine w_imul rfl ?_
  refine w_c32 rfl (by decide) 21 (by decide) ?_
  refine w_iadd rfl ?_
  subst e_q17
  refine w_lald rfl g19 c22 c21 c20 ?_
  subst e_q23
  refine w_last rfl g25 (Nat.ble_eq_true_of_le c27) c16 c15 c26 ?_
  exact k

theorem k471_337 {P : s_P} {d : Nat} {Q : s_O → Prop} {h : s_H} {kc ks : Nat} {r0 : Term} {x1 x2 x3 x4 x5 : Int}  (k : wr P d sw_c471 sw_h471 (295, [r0, vi x1, vi x2, vi x3, vi x4, vi (x5 + 1)], [], h, kc, ks) Q)   : wr P d sw_c471 sw_h471 (337, [r0, vi x1, vi x2, vi x3, vi x4, vi x5], [], h, kc, ks) Q := by
  refine w_iinc (ls' := [r0, vi x1, vi x2, vi x3, vi x4, vi (x5 + 1)]) rfl rfl 1 (by decide) rfl ?_
  refine w_goto rfl ?_
  exact k

theorem k471_343 {P : s_P} {d : Nat} {Q : s_O → Prop} {h : s_H} {kc ks : Nat} {r0 : Term} {x1 x2 x3 x4 x5 : Int}  (k : Q (.inl (some (vi 1)), h, kc, ks))   : wr P d sw_c471 sw_h471 (343, [r0, vi x1, vi x2, vi x3, vi x4, vi x5], [], h, kc, ks) Q := by
  refine w_c32 rfl (by decide) 1 (by decide) ?_
  exact w_zret rfl (by decide) k

theorem k471_345 {P : s_P} {d : Nat} {Q : s_O → Prop} {h : s_H} {kc ks : Nat} {r0 : Term} {x1 x2 x3 x4 x5 : Int}  (k : wr P d sw_c471 sw_h471 (159, [r0, vi x1, vi (x2 + 1), vi x3, vi x4, vi x5], [], h, kc, ks) Q)   : wr P d sw_c471 sw_h471 (345, [r0, vi x1, vi x2, vi x3, vi x4, vi x5], [], h, kc, ks) Q := by
  refine w_iinc (ls' := [r0, vi x1, vi (x2 + 1), vi x3, vi x4, vi x5]) rfl rfl 1 (by decide) rfl ?_
  refine w_goto rfl ?_
  exact k

theorem k471_351 {P : s_P} {d : Nat} {Q : s_O → Prop} {h : s_H} {kc ks : Nat} {r0 : Term} {x1 x2 : Int} {t3 t4 t5 : Term}  (k : Q (.inl (some (vi 0)), h, kc, ks))   : wr P d sw_c471 sw_h471 (351, [r0, vi x1, vi x2, t3, t4, t5], [], h, kc, ks) Q := by
  refine w_c32 rfl (by decide) 0 (by decide) ?_
  exact w_zret rfl (by decide) k

/-! 472: FormulaWorksModel.isBracketed(III)Z -/
theorem k472_0 {P : s_P} {d : Nat} {Q : s_O → Prop} {h : s_H} {kc ks : Nat} {x0 x1 x2 : Int} {t3 t4 : Term}  (k1 : x2 = 2 → wr P d sw_c472 sw_h472 (16, [vi x0, vi x1, vi x2, t3, t4], [], h, kc, ks) Q) (k2 : ¬ x2 = 2 → wr P d sw_c472 sw_h472 (5, [vi x0, vi x1, vi x2, t3, t4], [], h, kc, ks) Q)  (c1 : In3 x2 := by first | omega | assumption | (simp only [mk_len, List.length_map]; omega) | decide) : wr P d sw_c472 sw_h472 (0, [vi x0, vi x1, vi x2, t3, t4], [], h, kc, ks) Q := by
  refine w_ld rfl rfl (Or.inl ⟨by decide, rfl⟩) ?_
  refine w_c32 rfl (by decide) 2 (by decide) ?_
  exact w_if2 rfl c1 (by decide) k1 k2

theorem k472_5 {P : s_P} {d : Nat} {Q : s_O → Prop} {h : s_H} {kc ks : Nat} {x0 x1 x2 : Int} {t3 t4 : Term}  (k1 : x2 = 3 → wr P d sw_c472 sw_h472 (16, [vi x0, vi x1, vi x2, t3, t4], [], h, kc, ks) Q) (k2 : ¬ x2 = 3 → wr P d sw_c472 sw_h472 (10, [vi x0, vi x1, vi x2, t3, t4], [], h, kc, ks) Q)  (c1 : In3 x2 := by first | omega | assumption | (simp only [mk_len, List.length_map]; omega) | decide) : wr P d sw_c472 sw_h472 (5, [vi x0, vi x1, vi x2, t3, t4], [], h, kc, ks) Q := by
  refine w_ld rfl rfl (Or.inl ⟨by decide, rfl⟩) ?_
  refine w_c32 rfl (by decide) 3 (by decide) ?_
  exact w_if2 rfl c1 (by decide) k1 k2

theorem k472_10 {P : s_P} {d : Nat} {Q : s_O → Prop} {h : s_H} {kc ks : Nat} {x0 x1 x2 : Int} {t3 t4 : Term}  (k1 : x2 ≠ 6 → wr P d sw_c472 sw_h472 (20, [vi x0, vi x1, vi x2, t3, t4], [], h, kc, ks) Q) (k2 : ¬ x2 ≠ 6 → wr P d sw_c472 sw_h472 (16, [vi x0, vi x1, vi x2, t3, t4], [], h, kc, ks) Q)  (c1 : In3 x2 := by first | omega | assumption | (simp only [mk_len, List.length_map]; omega) | decide) : wr P d sw_c472 sw_h472 (10, [vi x0, vi x1, vi x2, t3, t4], [], h, kc, ks) Q := by
  refine w_ld rfl rfl (Or.inl ⟨by decide, rfl⟩) ?_
  refine w_c32 rfl (by decide) 6 (by decide) ?_
  exact w_if2 rfl c1 (by decide) k1 k2

theorem k472_16 {P : s_P} {d : Nat} {Q : s_O → Prop} {h : s_H} {kc ks : Nat} {x0 x1 x2 : Int} {t3 t4 : Term}  (k : wr P d sw_c472 sw_h472 (21, [vi x0, vi x1, vi x2, t3, t4], [vi 1], h, kc, ks) Q)   : wr P d sw_c472 sw_h472 (16, [vi x0, vi x1, vi x2, t3, t4], [], h, kc, ks) Q := by
  refine w_c32 rfl (by decide) 1 (by decide) ?_
  refine w_goto rfl ?_
  exact k

theorem k472_20 {P : s_P} {d : Nat} {Q : s_O → Prop} {h : s_H} {kc ks : Nat} {x0 x1 x2 : Int} {t3 t4 : Term}  (k : wr P d sw_c472 sw_h472 (21, [vi x0, vi x1, vi x2, t3, t4], [vi 0], h, kc, ks) Q)   : wr P d sw_c472 sw_h472 (20, [vi x0, vi x1, vi x2, t3, t4], [], h, kc, ks) Q := by
  refine w_c32 rfl (by decide) 0 (by decide) ?_
  exact k

theorem k472_21 {P : s_P} {d : Nat} {Q : s_O → Prop} {h : s_H} {kc ks : Nat} {x0 x1 x2 : Int} {t3 t4 : Term} {s0 : Int}  (k1 : x2 = 4 → wr P d sw_c472 sw_h472 (32, [vi x0, vi x1, vi x2, vi s0, t4], [], h, kc, ks) Q) (k2 : ¬ x2 = 4 → wr P d sw_c472 sw_h472 (27, [vi x0, vi x1, vi x2, vi s0, t4], [], h, kc, ks) Q)  (c1 : In3 x2 := by first | omega | assumption | (simp only [mk_len, List.length_map]; omega) | decide) : wr P d sw_c472 sw_h472 (21, [vi x0, vi x1, vi x2, t3, t4], [vi s0], h, kc, ks) Q := by
  refine w_st (ls' := [vi x0, vi x1, vi x2, vi s0, t4]) rfl (Or.inl ⟨by decide, rfl⟩) rfl ?_
  refine w_ld rfl rfl (Or.inl ⟨by decide, rfl⟩) ?_
  refine w_c32 rfl (by decide) 4 (by decide) ?_
  exact w_if2 rfl c1 (by decide) k1 k2

theorem k472_27 {P : s_P} {d : Nat} {Q : s_O → Prop} {h : s_H} {kc ks : Nat} {x0 x1 x2 x3 : Int} {t4 : Term}  (k1 : x2 ≠ 5 → wr P d sw_c472 sw_h472 (36, [vi x0, vi x1, vi x2, vi x3, t4], [], h, kc, ks) Q) (k2 : ¬ x2 ≠ 5 → wr P d sw_c472 sw_h472 (32, [vi x0, vi x1, vi x2, vi x3, t4], [], h, kc, ks) Q)  (c1 : In3 x2 := by first | omega | assumption | (simp only [mk_len, List.length_map]; omega) | decide) : wr P d sw_c472 sw_h472 (27, [vi x0, vi x1, vi x2, vi x3, t4], [], h, kc, ks) Q := by
  refine w_ld rfl rfl (Or.inl ⟨by decide, rfl⟩) ?_
  refine w_c32 rfl (by decide) 5 (by decide) ?_
  exact w_if2 rfl c1 (by decide) k1 k2

theorem k472_32 {P : s_P} {d : Nat} {Q : s_O → Prop} {h : s_H} {kc ks : Nat} {x0 x1 x2 x3 : Int} {t4 : Term}  (k : wr P d sw_c472 sw_h472 (37, [vi x0, vi x1, vi x2, vi x3, t4], [vi 1], h, kc, ks) Q)   : wr P d sw_c472 sw_h472 (32, [vi x0, vi x1, vi x2, vi x3, t4], [], h, kc, ks) Q := by
  refine w_c32 rfl (by decide) 1 (by decide) ?_
  refine w_goto rfl ?_
  exact k

theorem k472_36 {P : s_P} {d : Nat} {Q : s_O → Prop} {h : s_H} {kc ks : Nat} {x0 x1 x2 x3 : Int} {t4 : Term}  (k : wr P d sw_c472 sw_h472 (37, [vi x0, vi x1, vi x2, vi x3, t4], [vi 0], h, kc, ks) Q)   : wr P d sw_c472 sw_h472 (36, [vi x0, vi x1, vi x2, vi x3, t4], [], h, kc, ks) Q := by
  refine w_c32 rfl (by decide) 0 (by decide) ?_
  exact k

theorem k472_37 {P : s_P} {d : Nat} {Q : s_O → Prop} {h : s_H} {kc ks : Nat} {x0 x1 x2 x3 : Int} {t4 : Term} {s0 : Int}  (k1 : x0 ≠ 7 → wr P d sw_c472 sw_h472 (56, [vi x0, vi x1, vi x2, vi x3, vi s0], [], h, kc, ks) Q) (k2 : ¬ x0 ≠ 7 → wr P d sw_c472 sw_h472 (45, [vi x0, vi x1, vi x2, vi x3, vi s0], [], h, kc, ks) Q)  (c1 : In3 x0 := by first | omega | assumption | (simp only [mk_len, List.length_map]; omega) | decide) : wr P d sw_c472 sw_h472 (37, [vi x0, vi x1, vi x2, vi x3, t4], [vi s0], h, kc, ks) Q := by
  refine w_st (ls' := [vi x0, vi x1, vi x2, vi x3, vi s0]) rfl (Or.inl ⟨by decide, rfl⟩) rfl ?_
  refine w_ld rfl rfl (Or.inl ⟨by decide, rfl⟩) ?_
  refine w_c32 rfl (by decide) 7 (by decide) ?_
  exact w_if2 rfl c1 (by decide) k1 k2

theorem k472_45 {P : s_P} {d : Nat} {Q : s_O → Prop} {h : s_H} {kc ks : Nat} {x0 x1 x2 x3 x4 : Int}  (k1 : x2 ≤ 1 → wr P d sw_c472 sw_h472 (54, [vi x0, vi x1, vi x2, vi x3, vi x4], [], h, kc, ks) Q) (k2 : ¬ x2 ≤ 1 → wr P d sw_c472 sw_h472 (50, [vi x0, vi x1, vi x2, vi x3, vi x4], [], h, kc, ks) Q)  (c1 : In3 x2 := by first | omega | assumption | (simp only [mk_len, List.length_map]; omega) | decide) : wr P d sw_c472 sw_h472 (45, [vi x0, vi x1, vi x2, vi x3, vi x4], [], h, kc, ks) Q := by
  refine w_ld rfl rfl (Or.inl ⟨by decide, rfl⟩) ?_
  refine w_c32 rfl (by decide) 1 (by decide) ?_
  exact w_if2 rfl c1 (by decide) k1 k2

theorem k472_50 {P : s_P} {d : Nat} {Q : s_O → Prop} {h : s_H} {kc ks : Nat} {x0 x1 x2 x3 x4 : Int}  (k : wr P d sw_c472 sw_h472 (55, [vi x0, vi x1, vi x2, vi x3, vi x4], [vi 1], h, kc, ks) Q)   : wr P d sw_c472 sw_h472 (50, [vi x0, vi x1, vi x2, vi x3, vi x4], [], h, kc, ks) Q := by
  refine w_c32 rfl (by decide) 1 (by decide) ?_
  refine w_goto rfl ?_
  exact k

theorem k472_54 {P : s_P} {d : Nat} {Q : s_O → Prop} {h : s_H} {kc ks : Nat} {x0 x1 x2 x3 x4 : Int}  (k : wr P d sw_c472 sw_h472 (55, [vi x0, vi x1, vi x2, vi x3, vi x4], [vi 0], h, kc, ks) Q)   : wr P d sw_c472 sw_h472 (54, [vi x0, vi x1, vi x2, vi x3, vi x4], [], h, kc, ks) Q := by
  refine w_c32 rfl (by decide) 0 (by decide) ?_
  exact k

theorem k472_55 {P : s_P} {d : Nat} {Q : s_O → Prop} {h : s_H} {kc ks : Nat} {x0 x1 x2 x3 x4 s0 : Int}  (k : Q (.inl (some (vi s0)), h, kc, ks))  (c1 : s0 = 0 ∨ s0 = 1 := by first | omega | assumption | (simp only [mk_len, List.length_map]; omega) | decide) : wr P d sw_c472 sw_h472 (55, [vi x0, vi x1, vi x2, vi x3, vi x4], [vi s0], h, kc, ks) Q := by
  exact w_zret rfl c1 k

theorem k472_56 {P : s_P} {d : Nat} {Q : s_O → Prop} {h : s_H} {kc ks : Nat} {x0 x1 x2 x3 x4 : Int}  (k1 : x0 ≠ 6 → wr P d sw_c472 sw_h472 (64, [vi x0, vi x1, vi x2, vi x3, vi x4], [], h, kc, ks) Q) (k2 : ¬ x0 ≠ 6 → wr P d sw_c472 sw_h472 (62, [vi x0, vi x1, vi x2, vi x3, vi x4], [], h, kc, ks) Q)  (c1 : In3 x0 := by first | omega | assumption | (simp only [mk_len, List.length_map]; omega) | decide) : wr P d sw_c472 sw_h472 (56, [vi x0, vi x1, vi x2, vi x3, vi x4], [], h, kc, ks) Q := by
  refine w_ld rfl rfl (Or.inl ⟨by decide, rfl⟩) ?_
  refine w_c32 rfl (by decide) 6 (by decide) ?_
  exact w_if2 rfl c1 (by decide) k1 k2

theorem k472_62 {P : s_P} {d : Nat} {Q : s_O → Prop} {h : s_H} {kc ks : Nat} {x0 x1 x2 x3 x4 : Int}  (k : Q (.inl (some (vi x3)), h, kc, ks))  (c1 : x3 = 0 ∨ x3 = 1 := by first | omega | assumption | (simp only [mk_len, List.length_map]; omega) | decide) : wr P d sw_c472 sw_h472 (62, [vi x0, vi x1, vi x2, vi x3, vi x4], [], h, kc, ks) Q := by
  refine w_ld rfl rfl (Or.inl ⟨by decide, rfl⟩) ?_
  exact w_zret rfl c1 k

theorem k472_64 {P : s_P} {d : Nat} {Q : s_O → Prop} {h : s_H} {kc ks : Nat} {x0 x1 x2 x3 x4 : Int}  (k1 : x0 = 2 → wr P d sw_c472 sw_h472 (74, [vi x0, vi x1, vi x2, vi x3, vi x4], [], h, kc, ks) Q) (k2 : ¬ x0 = 2 → wr P d sw_c472 sw_h472 (69, [vi x0, vi x1, vi x2, vi x3, vi x4], [], h, kc, ks) Q)  (c1 : In3 x0 := by first | omega | assumption | (simp only [mk_len, List.length_map]; omega) | decide) : wr P d sw_c472 sw_h472 (64, [vi x0, vi x1, vi x2, vi x3, vi x4], [], h, kc, ks) Q := by
  refine w_ld rfl rfl (Or.inl ⟨by decide, rfl⟩) ?_
  refine w_c32 rfl (by decide) 2 (by decide) ?_
  exact w_if2 rfl c1 (by decide) k1 k2

theorem k472_69 {P : s_P} {d : Nat} {Q : s_O → Prop} {h : s_H} {kc ks : Nat} {x0 x1 x2 x3 x4 : Int}  (k1 : x0 ≠ 3 → wr P d sw_c472 sw_h472 (89, [vi x0, vi x1, vi x2, vi x3, vi x4], [], h, kc, ks) Q) (k2 : ¬ x0 ≠ 3 → wr P d sw_c472 sw_h472 (74, [vi x0, vi x1, vi x2, vi x3, vi x4], [], h, kc, ks) Q)  (c1 : In3 x0 := by first | omega | assumption | (simp only [mk_len, List.length_map]; omega) | decide) : wr P d sw_c472 sw_h472 (69, [vi x0, vi x1, vi x2, vi x3, vi x4], [], h, kc, ks) Q := by
  refine w_ld rfl rfl (Or.inl ⟨by decide, rfl⟩) ?_
  refine w_c32 rfl (by decide) 3 (by decide) ?_
  exact w_if2 rfl c1 (by decide) k1 k2

theorem k472_74 {P : s_P} {d : Nat} {Q : s_O → Prop} {h : s_H} {kc ks : Nat} {x0 x1 x2 x3 x4 : Int}  (k1 : x1 ≠ 1 → wr P d sw_c472 sw_h472 (87, [vi x0, vi x1, vi x2, vi x3, vi x4], [], h, kc, ks) Q) (k2 : ¬ x1 ≠ 1 → wr P d sw_c472 sw_h472 (79, [vi x0, vi x1, vi x2, vi x3, vi x4], [], h, kc, ks) Q)  (c1 : In3 x1 := by first | omega | assumption | (simp only [mk_len, List.length_map]; omega) | decide) : wr P d sw_c472 sw_h472 (74, [vi x0, vi x1, vi x2, vi x3, vi x4], [], h, kc, ks) Q := by
  refine w_ld rfl rfl (Or.inl ⟨by decide, rfl⟩) ?_
  refine w_c32 rfl (by decide) 1 (by decide) ?_
  exact w_if2 rfl c1 (by decide) k1 k2

theorem k472_79 {P : s_P} {d : Nat} {Q : s_O → Prop} {h : s_H} {kc ks : Nat} {x0 x1 x2 x3 x4 : Int}  (k1 : x3 = 0 → wr P d sw_c472 sw_h472 (87, [vi x0, vi x1, vi x2, vi x3, vi x4], [], h, kc, ks) Q) (k2 : ¬ x3 = 0 → wr P d sw_c472 sw_h472 (83, [vi x0, vi x1, vi x2, vi x3, vi x4], [], h, kc, ks) Q)  (c1 : In3 x3 := by first | omega | assumption | (simp only [mk_len, List.length_map]; omega) | decide) : wr P d sw_c472 sw_h472 (79, [vi x0, vi x1, vi x2, vi x3, vi x4], [], h, kc, ks) Q := by
  refine w_ld rfl rfl (Or.inl ⟨by decide, rfl⟩) ?_
  exact w_if1 rfl c1 k1 k2

theorem k472_83 {P : s_P} {d : Nat} {Q : s_O → Prop} {h : s_H} {kc ks : Nat} {x0 x1 x2 x3 x4 : Int}  (k : wr P d sw_c472 sw_h472 (88, [vi x0, vi x1, vi x2, vi x3, vi x4], [vi 1], h, kc, ks) Q)   : wr P d sw_c472 sw_h472 (83, [vi x0, vi x1, vi x2, vi x3, vi x4], [], h, kc, ks) Q := by
  refine w_c32 rfl (by decide) 1 (by decide) ?_
  refine w_goto rfl ?_
  exact k

theorem k472_87 {P : s_P} {d : Nat} {Q : s_O → Prop} {h : s_H} {kc ks : Nat} {x0 x1 x2 x3 x4 : Int}  (k : wr P d sw_c472 sw_h472 (88, [vi x0, vi x1, vi x2, vi x3, vi x4], [vi 0], h, kc, ks) Q)   : wr P d sw_c472 sw_h472 (87, [vi x0, vi x1, vi x2, vi x3, vi x4], [], h, kc, ks) Q := by
  refine w_c32 rfl (by decide) 0 (by decide) ?_
  exact k

theorem k472_88 {P : s_P} {d : Nat} {Q : s_O → Prop} {h : s_H} {kc ks : Nat} {x0 x1 x2 x3 x4 s0 : Int}  (k : Q (.inl (some (vi s0)), h, kc, ks))  (c1 : s0 = 0 ∨ s0 = 1 := by first | omega | assumption | (simp only [mk_len, List.length_map]; omega) | decide) : wr P d sw_c472 sw_h472 (88, [vi x0, vi x1, vi x2, vi x3, vi x4], [vi s0], h, kc, ks) Q := by
  exact w_zret rfl c1 k

theorem k472_89 {P : s_P} {d : Nat} {Q : s_O → Prop} {h : s_H} {kc ks : Nat} {x0 x1 x2 x3 x4 : Int}  (k1 : x3 ≠ 0 → wr P d sw_c472 sw_h472 (103, [vi x0, vi x1, vi x2, vi x3, vi x4], [], h, kc, ks) Q) (k2 : ¬ x3 ≠ 0 → wr P d sw_c472 sw_h472 (93, [vi x0, vi x1, vi x2, vi x3, vi x4], [], h, kc, ks) Q)  (c1 : In3 x3 := by first | omega | assumption | (simp only [mk_len, List.length_map]; omega) | decide) : wr P d sw_c472 sw_h472 (89, [vi x0, vi x1, vi x2, vi x3, vi x4], [], h, kc, ks) Q := by
  refine w_ld rfl rfl (Or.inl ⟨by decide, rfl⟩) ?_
  exact w_if1 rfl c1 k1 k2

theorem k472_93 {P : s_P} {d : Nat} {Q : s_O → Prop} {h : s_H} {kc ks : Nat} {x0 x1 x2 x3 x4 : Int}  (k1 : x1 ≠ 1 → wr P d sw_c472 sw_h472 (107, [vi x0, vi x1, vi x2, vi x3, vi x4], [], h, kc, ks) Q) (k2 : ¬ x1 ≠ 1 → wr P d sw_c472 sw_h472 (98, [vi x0, vi x1, vi x2, vi x3, vi x4], [], h, kc, ks) Q)  (c1 : In3 x1 := by first | omega | assumption | (simp only [mk_len, List.length_map]; omega) | decide) : wr P d sw_c472 sw_h472 (93, [vi x0, vi x1, vi x2, vi x3, vi x4], [], h, kc, ks) Q := by
  refine w_ld rfl rfl (Or.inl ⟨by decide, rfl⟩) ?_
  refine w_c32 rfl (by decide) 1 (by decide) ?_
  exact w_if2 rfl c1 (by decide) k1 k2

theorem k472_98 {P : s_P} {d : Nat} {Q : s_O → Prop} {h : s_H} {kc ks : Nat} {x0 x1 x2 x3 x4 : Int}  (k1 : x4 = 0 → wr P d sw_c472 sw_h472 (107, [vi x0, vi x1, vi x2, vi x3, vi x4], [], h, kc, ks) Q) (k2 : ¬ x4 = 0 → wr P d sw_c472 sw_h472 (103, [vi x0, vi x1, vi x2, vi x3, vi x4], [], h, kc, ks) Q)  (c1 : In3 x4 := by first | omega | assumption | (simp only [mk_len, List.length_map]; omega) | decide) : wr P d sw_c472 sw_h472 (98, [vi x0, vi x1, vi x2, vi x3, vi x4], [], h, kc, ks) Q := by
  refine w_ld rfl rfl (Or.inl ⟨by decide, rfl⟩) ?_
  exact w_if1 rfl c1 k1 k2

theorem k472_103 {P : s_P} {d : Nat} {Q : s_O → Prop} {h : s_H} {kc ks : Nat} {x0 x1 x2 x3 x4 : Int}  (k : wr P d sw_c472 sw_h472 (108, [vi x0, vi x1, vi x2, vi x3, vi x4], [vi 1], h, kc, ks) Q)   : wr P d sw_c472 sw_h472 (103, [vi x0, vi x1, vi x2, vi x3, vi x4], [], h, kc, ks) Q := by
  refine w_c32 rfl (by decide) 1 (by decide) ?_
  refine w_goto rfl ?_
  exact k

theorem k472_107 {P : s_P} {d : Nat} {Q : s_O → Prop} {h : s_H} {kc ks : Nat} {x0 x1 x2 x3 x4 : Int}  (k : wr P d sw_c472 sw_h472 (108, [vi x0, vi x1, vi x2, vi x3, vi x4], [vi 0], h, kc, ks) Q)   : wr P d sw_c472 sw_h472 (107, [vi x0, vi x1, vi x2, vi x3, vi x4], [], h, kc, ks) Q := by
  refine w_c32 rfl (by decide) 0 (by decide) ?_
  exact k

theorem k472_108 {P : s_P} {d : Nat} {Q : s_O → Prop} {h : s_H} {kc ks : Nat} {x0 x1 x2 x3 x4 s0 : Int}  (k : Q (.inl (some (vi s0)), h, kc, ks))  (c1 : s0 = 0 ∨ s0 = 1 := by first | omega | assumption | (simp only [mk_len, List.length_map]; omega) | decide) : wr P d sw_c472 sw_h472 (108, [vi x0, vi x1, vi x2, vi x3, vi x4], [vi s0], h, kc, ks) Q := by
  exact w_zret rfl c1 k

/-! 473: FormulaWorksModel.isChanged(II)Z -/
theorem k473_0 {P : s_P} {d : Nat} {Q : s_O → Prop} {h : s_H} {kc ks : Nat} {r0 : Term} {x1 x2 : Int} {q2 : Nat} {f3 f7 : List Term} (g4 : s_get h q2 = some (1, 11, f3)) (g8 : s_get (hp h q2 (1, 11, f3.set 85 (vi 0))) q2 = some (1, 11, f7)) (k : wm P d 550 [.index q2, vi 0, vi x1] (hp h q2 (1, 11, f3.set 85 (vi 0))) (wq P d sw_c473 sw_h473 11 [.index q2, vi x1, vi x2] [] kc ks Q)) (e_q2 : r0 = .index q2 := by first | rfl | assumption) (y1 : s_ty r0 = 3 := by first | rfl | assumption) (l5 : 85 < f3.length := by first | exact Nat.le_of_ble_eq_true rfl | omega | assumption) (c6 : 0 < q2 := by first | omega | assumption | (simp only [mk_len, List.length_map]; omega) | decide) : wr P d sw_c473 sw_h473 (0, [r0, vi x1, vi x2], [], h, kc, ks) Q := by
  refine w_ld rfl rfl (Or.inr (Or.inr ⟨by decide, y1⟩)) ?_
  refine w_c32 rfl (by decide) 0 (by decide) ?_
  subst e_q2
  refine w_putf rfl g4 (Nat.ble_eq_true_of_le c6) rfl (Nat.ble_eq_true_of_le l5) ?_
  refine w_ld rfl rfl (Or.inr (Or.inr ⟨by decide, rfl⟩)) ?_
  refine w_c32 rfl (by decide) 0 (by decide) ?_
  refine w_ld rfl rfl (Or.inl ⟨by decide, rfl⟩) ?_
  exact w_cv rfl [.index q2, vi 0, vi x1] [] rfl rfl (s_wt_4 rfl) rfl g8 k

theorem k473_11 {P : s_P} {d : Nat} {Q : s_O → Prop} {h : s_H} {kc ks : Nat} {r0 : Term} {x1 x2 : Int} {q2 : Nat} {f3 : List Term} (g4 : s_get h q2 = some (1, 11, f3)) (k : wm P d 552 [.index q2, vi x1, vi x2] h (wq P d sw_c473 sw_h473 17 [.index q2, vi x1, vi x2] [] kc ks Q)) (e_q2 : r0 = .index q2 := by first | rfl | assumption) (y1 : s_ty r0 = 3 := by first | rfl | assumption)  : wr P d sw_c473 sw_h473 (11, [r0, vi x1, vi x2], [], h, kc, ks) Q := by
  refine w_ld rfl rfl (Or.inr (Or.inr ⟨by decide, y1⟩)) ?_
  refine w_ld rfl rfl (Or.inl ⟨by decide, rfl⟩) ?_
  refine w_ld rfl rfl (Or.inl ⟨by decide, rfl⟩) ?_
  subst e_q2
  exact w_cv rfl [.index q2, vi x1, vi x2] [] rfl rfl (s_wt_4 rfl) rfl g4 k

theorem k473_17 {P : s_P} {d : Nat} {Q : s_O → Prop} {h : s_H} {kc ks : Nat} {r0 : Term} {x1 x2 s0 : Int}  (k1 : s0 ≠ 0 → wr P d sw_c473 sw_h473 (22, [r0, vi x1, vi x2], [], h, kc, ks) Q) (k2 : ¬ s0 ≠ 0 → wr P d sw_c473 sw_h473 (20, [r0, vi x1, vi x2], [], h, kc, ks) Q)  (c1 : In3 s0 := by first | omega | assumption | (simp only [mk_len, List.length_map]; omega) | decide) : wr P d sw_c473 sw_h473 (17, [r0, vi x1, vi x2], [vi s0], h, kc, ks) Q := by
  exact w_if1 rfl c1 k1 k2

theorem k473_20 {P : s_P} {d : Nat} {Q : s_O → Prop} {h : s_H} {kc ks : Nat} {r0 : Term} {x1 x2 : Int}  (k : Q (.inl (some (vi 0)), h, kc, ks))   : wr P d sw_c473 sw_h473 (20, [r0, vi x1, vi x2], [], h, kc, ks) Q := by
  refine w_c32 rfl (by decide) 0 (by decide) ?_
  exact w_zret rfl (by decide) k

theorem k473_22 {P : s_P} {d : Nat} {Q : s_O → Prop} {h : s_H} {kc ks : Nat} {r0 : Term} {x1 x2 : Int} {q2 : Nat} {f3 : List Term} (g4 : s_get h q2 = some (1, 11, f3)) (k : wm P d 407 [.index q2, vi x1] h (wq P d sw_c473 sw_h473 28 [.index q2, vi x1, vi x2] [.index q2] kc ks Q)) (e_q2 : r0 = .index q2 := by first | rfl | assumption) (y1 : s_ty r0 = 3 := by first | rfl | assumption)  : wr P d sw_c473 sw_h473 (22, [r0, vi x1, vi x2], [], h, kc, ks) Q := by
  refine w_ld rfl rfl (Or.inr (Or.inr ⟨by decide, y1⟩)) ?_
  refine w_ld rfl rfl (Or.inr (Or.inr ⟨by decide, y1⟩)) ?_
  refine w_ld rfl rfl (Or.inl ⟨by decide, rfl⟩) ?_
  subst e_q2
  exact w_cv rfl [.index q2, vi x1] [.index q2] rfl rfl (s_wt_4 rfl) rfl g4 k

theorem k473_28 {P : s_P} {d : Nat} {Q : s_O → Prop} {h : s_H} {kc ks : Nat} {r0 : Term} {x1 x2 : Int} {s0 : Term} {s1 : Int} {q2 : Nat} {f3 : List Term} {z5 : Int} {q7 : Nat} {f8 : List Term} (g4 : s_get h q2 = some (1, 11, f3)) (g9 : s_get h q7 = some (1, 11, f8)) (k : wm P d 550 [.index q7, vi s1, vi z5] h (wq P d sw_c473 sw_h473 35 [.index q2, vi x1, vi x2] [] kc ks Q)) (e_q2 : r0 = .index q2 := by first | rfl | assumption) (e_q7 : s0 = .index q7 := by first | rfl | assumption) (y1 : s_ty r0 = 3 := by first | rfl | assumption) (n6 : s_nth f3 82 = some (vi z5) := by first | rfl | assumption)  : wr P d sw_c473 sw_h473 (28, [r0, vi x1, vi x2], [vi s1, s0], h, kc, ks) Q := by
  refine w_ld rfl rfl (Or.inr (Or.inr ⟨by decide, y1⟩)) ?_
  subst e_q2
  refine w_getf rfl g4 n6 ?_
  subst e_q7
  exact w_cv rfl [.index q7, vi s1, vi z5] [] rfl rfl (s_wt_4 rfl) rfl g9 k

theorem k473_35 {P : s_P} {d : Nat} {Q : s_O → Prop} {h : s_H} {kc ks : Nat} {r0 : Term} {x1 x2 : Int}  (k : Q (.inl (some (vi 1)), h, kc, ks))   : wr P d sw_c473 sw_h473 (35, [r0, vi x1, vi x2], [], h, kc, ks) Q := by
  refine w_c32 rfl (by decide) 1 (by decide) ?_
  exact w_zret rfl (by decide) k

/-! 474: FormulaWorksModel.isCircle(I)Z -/
theorem k474_0 {P : s_P} {d : Nat} {Q : s_O → Prop} {h : s_H} {kc ks : Nat} {r0 : Term} {x1 : Int} {q2 : Nat} {f3 : List Term} (g4 : s_get h q2 = some (1, 11, f3)) (k : wm P d 460 [.index q2, vi x1] h (wq P d sw_c474 sw_h474 5 [.index q2, vi x1] [] kc ks Q)) (e_q2 : r0 = .index q2 := by first | rfl | assumption) (y1 : s_ty r0 = 3 := by first | rfl | assumption)  : wr P d sw_c474 sw_h474 (0, [r0, vi x1], [], h, kc, ks) Q := by
  refine w_ld rfl rfl (Or.inr (Or.inr ⟨by decide, y1⟩)) ?_
  refine w_ld rfl rfl (Or.inl ⟨by decide, rfl⟩) ?_
  subst e_q2
  exact w_cv rfl [.index q2, vi x1] [] rfl rfl (s_wt_4 rfl) rfl g4 k

theorem k474_5 {P : s_P} {d : Nat} {Q : s_O → Prop} {h : s_H} {kc ks : Nat} {r0 : Term} {x1 s0 : Int}  (k1 : zi 24 (zi 28 s0 x1) 1 ≠ 1 → wr P d sw_c474 sw_h474 (17, [r0, vi x1], [], h, kc, ks) Q) (k2 : ¬ zi 24 (zi 28 s0 x1) 1 ≠ 1 → wr P d sw_c474 sw_h474 (13, [r0, vi x1], [], h, kc, ks) Q)  (c1 : In3 (zi 24 (zi 28 s0 x1) 1) := by first | omega | assumption | (simp only [mk_len, List.length_map]; omega) | decide) : wr P d sw_c474 sw_h474 (5, [r0, vi x1], [vi s0], h, kc, ks) Q := by
  refine w_ld rfl rfl (Or.inl ⟨by decide, rfl⟩) ?_
  refine w_ib rfl (by decide) ?_
  refine w_c32 rfl (by decide) 1 (by decide) ?_
  refine w_ib rfl (by decide) ?_
  refine w_c32 rfl (by decide) 1 (by decide) ?_
  exact w_if2 rfl c1 (by decide) k1 k2

theorem k474_13 {P : s_P} {d : Nat} {Q : s_O → Prop} {h : s_H} {kc ks : Nat} {r0 : Term} {x1 : Int}  (k : wr P d sw_c474 sw_h474 (18, [r0, vi x1], [vi 1], h, kc, ks) Q)   : wr P d sw_c474 sw_h474 (13, [r0, vi x1], [], h, kc, ks) Q := by
  refine w_c32 rfl (by decide) 1 (by decide) ?_
  refine w_goto rfl ?_
  exact k

theorem k474_17 {P : s_P} {d : Nat} {Q : s_O → Prop} {h : s_H} {kc ks : Nat} {r0 : Term} {x1 : Int}  (k : wr P d sw_c474 sw_h474 (18, [r0, vi x1], [vi 0], h, kc, ks) Q)   : wr P d sw_c474 sw_h474 (17, [r0, vi x1], [], h, kc, ks) Q := by
  refine w_c32 rfl (by decide) 0 (by decide) ?_
  exact k

theorem k474_18 {P : s_P} {d : Nat} {Q : s_O → Prop} {h : s_H} {kc ks : Nat} {r0 : Term} {x1 s0 : Int}  (k : Q (.inl (some (vi s0)), h, kc, ks))  (c1 : s0 = 0 ∨ s0 = 1 := by first | omega | assumption | (simp only [mk_len, List.length_map]; omega) | decide) : wr P d sw_c474 sw_h474 (18, [r0, vi x1], [vi s0], h, kc, ks) Q := by
  exact w_zret rfl c1 k

/-! 475: FormulaWorksModel.isDigit(I)Z -/
theorem k475_0 {P : s_P} {d : Nat} {Q : s_O → Prop} {h : s_H} {kc ks : Nat} {r0 : Term} {x1 : Int} {q2 : Nat} {f3 : List Term} (g4 : s_get h q2 = some (1, 11, f3)) (k : wm P d 411 [.index q2, vi x1] h (wq P d sw_c475 sw_h475 5 [.index q2, vi x1] [] kc ks Q)) (e_q2 : r0 = .index q2 := by first | rfl | assumption) (y1 : s_ty r0 = 3 := by first | rfl | assumption)  : wr P d sw_c475 sw_h475 (0, [r0, vi x1], [], h, kc, ks) Q := by
  refine w_ld rfl rfl (Or.inr (Or.inr ⟨by decide, y1⟩)) ?_
  refine w_ld rfl rfl (Or.inl ⟨by decide, rfl⟩) ?_
  subst e_q2
  exact w_cv rfl [.index q2, vi x1] [] rfl rfl (s_wt_4 rfl) rfl g4 k

theorem k475_5 {P : s_P} {d : Nat} {Q : s_O → Prop} {h : s_H} {kc ks : Nat} {r0 : Term} {x1 s0 : Int}  (k : wm P d 464 [vl s0, vl 48, vl 57] h (wq P d sw_c475 sw_h475 15 [r0, vi x1] [] kc ks Q))  (c1 : In3 s0 := by first | omega | assumption | (simp only [mk_len, List.length_map]; omega) | decide) : wr P d sw_c475 sw_h475 (5, [r0, vi x1], [vi s0], h, kc, ks) Q := by
  refine w_i2l rfl c1 ?_
  refine w_c64 rfl (by decide) 48 (by decide) ?_
  refine w_c64 rfl (by decide) 57 (by decide) ?_
  exact w_cs rfl [vl s0, vl 48, vl 57] [] rfl rfl (s_wt_4 rfl) k

theorem k475_15 {P : s_P} {d : Nat} {Q : s_O → Prop} {h : s_H} {kc ks : Nat} {r0 : Term} {x1 s0 : Int}  (k : Q (.inl (some (vi s0)), h, kc, ks))  (c1 : s0 = 0 ∨ s0 = 1 := by first | omega | assumption | (simp only [mk_len, List.length_map]; omega) | decide) : wr P d sw_c475 sw_h475 (15, [r0, vi x1], [vi s0], h, kc, ks) Q := by
  exact w_zret rfl c1 k

/-! 476: FormulaWorksModel.isDue(I)Z -/
theorem k476_0 {P : s_P} {d : Nat} {Q : s_O → Prop} {h : s_H} {kc ks : Nat} {r0 : Term} {x1 : Int} {q2 : Nat} {f3 : List Term} (g4 : s_get h q2 = some (1, 11, f3)) (k : wm P d 493 [.index q2, vi x1] h (wq P d sw_c476 sw_h476 5 [.index q2, vi x1] [] kc ks Q)) (e_q2 : r0 = .index q2 := by first | rfl | assumption) (y1 : s_ty r0 = 3 := by first | rfl | assumption)  : wr P d sw_c476 sw_h476 (0, [r0, vi x1], [], h, kc, ks) Q := by
  refine w_ld rfl rfl (Or.inr (Or.inr ⟨by decide, y1⟩)) ?_
  refine w_ld rfl rfl (Or.inl ⟨by decide, rfl⟩) ?_
  subst e_q2
  exact w_cv rfl [.index q2, vi x1] [] rfl rfl (s_wt_4 rfl) rfl g4 k

theorem k476_5 {P : s_P} {d : Nat} {Q : s_O → Prop} {h : s_H} {kc ks : Nat} {r0 : Term} {x1 s0 : Int}  (k1 : s0 = 0 → wr P d sw_c476 sw_h476 (20, [r0, vi x1], [], h, kc, ks) Q) (k2 : ¬ s0 = 0 → wr P d sw_c476 sw_h476 (8, [r0, vi x1], [], h, kc, ks) Q)  (c1 : In3 s0 := by first | omega | assumption | (simp only [mk_len, List.length_map]; omega) | decide) : wr P d sw_c476 sw_h476 (5, [r0, vi x1], [vi s0], h, kc, ks) Q := by
  exact w_if1 rfl c1 k1 k2

theorem k476_8 {P : s_P} {d : Nat} {Q : s_O → Prop} {h : s_H} {kc ks : Nat} {r0 : Term} {x1 : Int} {q2 : Nat} {f3 : List Term} (g4 : s_get h q2 = some (1, 11, f3)) (k : wm P d 494 [.index q2, vi x1] h (wq P d sw_c476 sw_h476 13 [.index q2, vi x1] [] kc ks Q)) (e_q2 : r0 = .index q2 := by first | rfl | assumption) (y1 : s_ty r0 = 3 := by first | rfl | assumption)  : wr P d sw_c476 sw_h476 (8, [r0, vi x1], [], h, kc, ks) Q := by
  refine w_ld rfl rfl (Or.inr (Or.inr ⟨by decide, y1⟩)) ?_
  refine w_ld rfl rfl (Or.inl ⟨by decide, rfl⟩) ?_
  subst e_q2
  exact w_cv rfl [.index q2, vi x1] [] rfl rfl (s_wt_4 rfl) rfl g4 k

theorem k476_13 {P : s_P} {d : Nat} {Q : s_O → Prop} {h : s_H} {kc ks : Nat} {r0 : Term} {x1 s0 : Int}  (k1 : s0 ≠ 0 → wr P d sw_c476 sw_h476 (20, [r0, vi x1], [], h, kc, ks) Q) (k2 : ¬ s0 ≠ 0 → wr P d sw_c476 sw_h476 (16, [r0, vi x1], [], h, kc, ks) Q)  (c1 : In3 s0 := by first | omega | assumption | (simp only [mk_len, List.length_map]; omega) | decide) : wr P d sw_c476 sw_h476 (13, [r0, vi x1], [vi s0], h, kc, ks) Q := by
  exact w_if1 rfl c1 k1 k2

theorem k476_16 {P : s_P} {d : Nat} {Q : s_O → Prop} {h : s_H} {kc ks : Nat} {r0 : Term} {x1 : Int}  (k : wr P d sw_c476 sw_h476 (21, [r0, vi x1], [vi 1], h, kc, ks) Q)   : wr P d sw_c476 sw_h476 (16, [r0, vi x1], [], h, kc, ks) Q := by
  refine w_c32 rfl (by decide) 1 (by decide) ?_
  refine w_goto rfl ?_
  exact k

theorem k476_20 {P : s_P} {d : Nat} {Q : s_O → Prop} {h : s_H} {kc ks : Nat} {r0 : Term} {x1 : Int}  (k : wr P d sw_c476 sw_h476 (21, [r0, vi x1], [vi 0], h, kc, ks) Q)   : wr P d sw_c476 sw_h476 (20, [r0, vi x1], [], h, kc, ks) Q := by
  refine w_c32 rfl (by decide) 0 (by decide) ?_
  exact k

theorem k476_21 {P : s_P} {d : Nat} {Q : s_O → Prop} {h : s_H} {kc ks : Nat} {r0 : Term} {x1 s0 : Int}  (k : Q (.inl (some (vi s0)), h, kc, ks))  (c1 : s0 = 0 ∨ s0 = 1 := by first | omega | assumption | (simp only [mk_len, List.length_map]; omega) | decide) : wr P d sw_c476 sw_h476 (21, [r0, vi x1], [vi s0], h, kc, ks) Q := by
  exact w_zret rfl c1 k

/-! 477: FormulaWorksModel.isFactor(II)Z -/
theorem k477_0 {P : s_P} {d : Nat} {Q : s_O → Prop} {h : s_H} {kc ks : Nat} {r0 : Term} {x1 x2 : Int} {q2 : Nat} {f3 : List Term} (g4 : s_get h q2 = some (1, 11, f3)) (k : wm P d 481 [.index q2, vi x1, vi 0] h (wq P d sw_c477 sw_h477 6 [.index q2, vi x1, vi x2] [] kc ks Q)) (e_q2 : r0 = .index q2 := by first | rfl | assumption) (y1 : s_ty r0 = 3 := by first | rfl | assumption)  : wr P d sw_c477 sw_h477 (0, [r0, vi x1, vi x2], [], h, kc, ks) Q := by
  refine w_ld rfl rfl (Or.inr (Or.inr ⟨by decide, y1⟩)) ?_
  refine w_ld rfl rfl (Or.inl ⟨by decide, rfl⟩) ?_
  refine w_c32 rfl (by decide) 0 (by decide) ?_
  subst e_q2
  exact w_cv rfl [.index q2, vi x1, vi 0] [] rfl rfl (s_wt_4 rfl) rfl g4 k

theorem k477_6 {P : s_P} {d : Nat} {Q : s_O → Prop} {h : s_H} {kc ks : Nat} {r0 : Term} {x1 x2 s0 : Int}  (k1 : s0 ≠ 0 → wr P d sw_c477 sw_h477 (11, [r0, vi x1, vi x2], [], h, kc, ks) Q) (k2 : ¬ s0 ≠ 0 → wr P d sw_c477 sw_h477 (9, [r0, vi x1, vi x2], [], h, kc, ks) Q)  (c1 : In3 s0 := by first | omega | assumption | (simp only [mk_len, List.length_map]; omega) | decide) : wr P d sw_c477 sw_h477 (6, [r0, vi x1, vi x2], [vi s0], h, kc, ks) Q := by
  exact w_if1 rfl c1 k1 k2

theorem k477_9 {P : s_P} {d : Nat} {Q : s_O → Prop} {h : s_H} {kc ks : Nat} {r0 : Term} {x1 x2 : Int}  (k : Q (.inl (some (vi 0)), h, kc, ks))   : wr P d sw_c477 sw_h477 (9, [r0, vi x1, vi x2], [], h, kc, ks) Q := by
  refine w_c32 rfl (by decide) 0 (by decide) ?_
  exact w_zret rfl (by decide) k

theorem k477_11 {P : s_P} {d : Nat} {Q : s_O → Prop} {h : s_H} {kc ks : Nat} {r0 : Term} {x1 x2 : Int} {q2 : Nat} {f3 : List Term} (g4 : s_get h q2 = some (1, 11, f3)) (k : wm P d 454 [.index q2] h (wq P d sw_c477 sw_h477 15 [.index q2, vi x1, vi x2] [] kc ks Q)) (e_q2 : r0 = .index q2 := by first | rfl | assumption) (y1 : s_ty r0 = 3 := by first | rfl | assumption)  : wr P d sw_c477 sw_h477 (11, [r0, vi x1, vi x2], [], h, kc, ks) Q := by
  refine w_ld rfl rfl (Or.inr (Or.inr ⟨by decide, y1⟩)) ?_
  subst e_q2
  exact w_cv rfl [.index q2] [] rfl rfl (s_wt_4 rfl) rfl g4 k

theorem k477_15 {P : s_P} {d : Nat} {Q : s_O → Prop} {h : s_H} {kc ks : Nat} {r0 : Term} {x1 x2 : Int} {q3 : Nat} {f4 : List Term} {z6 : Int} (g5 : s_get h q3 = some (1, 11, f4)) (k : wm P d 464 [vl x2, vl 0, vl (z6 - 1)] h (wq P d sw_c477 sw_h477 29 [.index q3, vi x1, vi x2] [.index q3] kc ks Q)) (e_q3 : r0 = .index q3 := by first | rfl | assumption) (y1 : s_ty r0 = 3 := by first | rfl | assumption) (n7 : s_nth f4 26 = some (vi z6) := by first | rfl | assumption) (c2 : In3 x2 := by first | omega | assumption | (simp only [mk_len, List.length_map]; omega) | decide) (c8 : In3 (z6 - 1) := by first | omega | assumption | (simp only [mk_len, List.length_map]; omega) | decide) : wr P d sw_c477 sw_h477 (15, [r0, vi x1, vi x2], [], h, kc, ks) Q := by
  refine w_ld rfl rfl (Or.inr (Or.inr ⟨by decide, y1⟩)) ?_
  refine w_ld rfl rfl (Or.inl ⟨by decide, rfl⟩) ?_
  refine w_i2l rfl c2 ?_
  refine w_c64 rfl (by decide) 0 (by decide) ?_
  refine w_ld rfl rfl (Or.inr (Or.inr ⟨by decide, y1⟩)) ?_
  subst e_q3
  refine w_getf rfl g5 n7 ?_
  refine w_c32 rfl (by decide) 1 (by decide) ?_
  refine w_isub rfl ?_
  refine w_i2l rfl c8 ?_
  exact w_cs rfl [vl x2, vl 0, vl (z6 - 1)] [.index q3] rfl rfl (s_wt_4 rfl) k

theorem k477_29 {P : s_P} {d : Nat} {Q : s_O → Prop} {h : s_H} {kc ks : Nat} {r0 : Term} {x1 x2 : Int} {s0 : Term} {s1 : Int}  (k1 : s1 = 0 → wr P d sw_c477 sw_h477 (36, [r0, vi x1, vi x2], [s0], h, kc, ks) Q) (k2 : ¬ s1 = 0 → wr P d sw_c477 sw_h477 (32, [r0, vi x1, vi x2], [s0], h, kc, ks) Q)  (c1 : In3 s1 := by first | omega | assumption | (simp only [mk_len, List.length_map]; omega) | decide) : wr P d sw_c477 sw_h477 (29, [r0, vi x1, vi x2], [vi s1, s0], h, kc, ks) Q := by
  exact w_if1 rfl c1 k1 k2

theorem k477_32 {P : s_P} {d : Nat} {Q : s_O → Prop} {h : s_H} {kc ks : Nat} {r0 : Term} {x1 x2 : Int} {s0 : Term}  (k : wr P d sw_c477 sw_h477 (37, [r0, vi x1, vi x2], [vi 0, s0], h, kc, ks) Q)   : wr P d sw_c477 sw_h477 (32, [r0, vi x1, vi x2], [s0], h, kc, ks) Q := by
  refine w_c32 rfl (by decide) 0 (by decide) ?_
  refine w_goto rfl ?_
  exact k

theorem k477_36 {P : s_P} {d : Nat} {Q : s_O → Prop} {h : s_H} {kc ks : Nat} {r0 : Term} {x1 x2 : Int} {s0 : Term}  (k : wr P d sw_c477 sw_h477 (37, [r0, vi x1, vi x2], [vi 1, s0], h, kc, ks) Q)   : wr P d sw_c477 sw_h477 (36, [r0, vi x1, vi x2], [s0], h, kc, ks) Q := by
  refine w_c32 rfl (by decide) 1 (by decide) ?_
  exact k

theorem k477_37 {P : s_P} {d : Nat} {Q : s_O → Prop} {h : s_H} {kc ks : Nat} {r0 : Term} {x1 x2 : Int} {s0 : Term} {s1 : Int} {q1 : Nat} {f2 : List Term} {q7 : Nat} {f8 : List Term} {z10 : Int} (g3 : s_get h q1 = some (1, 11, f2)) (g9 : s_get (hp h q1 (1, 11, f2.set 0 (vi s1))) q7 = some (1, 11, f8)) (k1 : z10 ≠ 0 → wr P d sw_c477 sw_h477 (51, [.index q7, vi x1, vi x2], [], (hp h q1 (1, 11, f2.set 0 (vi s1))), kc, ks) Q) (k2 : ¬ z10 ≠ 0 → wr P d sw_c477 sw_h477 (47, [.index q7, vi x1, vi x2], [], (hp h q1 (1, 11, f2.set 0 (vi s1))), kc, ks) Q) (e_q1 : s0 = .index q1 := by first | rfl | assumption) (e_q7 : r0 = .index q7 := by first | rfl | assumption) (l4 : 0 < f2.length := by first | exact Nat.le_of_ble_eq_true rfl | omega | assumption) (y6 : s_ty r0 = 3 := by first | rfl | assumption) (n11 : s_nth f8 0 = some (vi z10) := by first | rfl | assumption) (c5 : 0 < q1 := by first | omega | assumption | (simp only [mk_len, List.length_map]; omega) | decide) (c12 : In3 z10 := by first | omega | assumption | (simp only [mk_len, List.length_map]; omega) | decide) : wr P d sw_c477 sw_h477 (37, [r0, vi x1, vi x2], [vi s1, s0], h, kc, ks) Q := by
  subst e_q1
  refine w_putf rfl g3 (Nat.ble_eq_true_of_le c5) rfl (Nat.ble_eq_true_of_le l4) ?_
  refine w_ld rfl rfl (Or.inr (Or.inr ⟨by decide, y6⟩)) ?_
  subst e_q7
  refine w_getf rfl g9 n11 ?_
  exact w_if1 rfl c12 k1 k2

theorem k477_47 {P : s_P} {d : Nat} {Q : s_O → Prop} {h : s_H} {kc ks : Nat} {r0 : Term} {x1 x2 : Int}  (k : wr P d sw_c477 sw_h477 (52, [r0, vi x1, vi x2], [vi 1], h, kc, ks) Q)   : wr P d sw_c477 sw_h477 (47, [r0, vi x1, vi x2], [], h, kc, ks) Q := by
  refine w_c32 rfl (by decide) 1 (by decide) ?_
  refine w_goto rfl ?_
  exact k

theorem k477_51 {P : s_P} {d : Nat} {Q : s_O → Prop} {h : s_H} {kc ks : Nat} {r0 : Term} {x1 x2 : Int}  (k : wr P d sw_c477 sw_h477 (52, [r0, vi x1, vi x2], [vi 0], h, kc, ks) Q)   : wr P d sw_c477 sw_h477 (51, [r0, vi x1, vi x2], [], h, kc, ks) Q := by
  refine w_c32 rfl (by decide) 0 (by decide) ?_
  exact k

theorem k477_52 {P : s_P} {d : Nat} {Q : s_O → Prop} {h : s_H} {kc ks : Nat} {r0 : Term} {x1 x2 s0 : Int}  (k : Q (.inl (some (vi s0)), h, kc, ks))  (c1 : s0 = 0 ∨ s0 = 1 := by first | omega | assumption | (simp only [mk_len, List.length_map]; omega) | decide) : wr P d sw_c477 sw_h477 (52, [r0, vi x1, vi x2], [vi s0], h, kc, ks) Q := by
  exact w_zret rfl c1 k

/-! 478: FormulaWorksModel.isGone(I)Z -/
theorem k478_0 {P : s_P} {d : Nat} {Q : s_O → Prop} {h : s_H} {kc ks : Nat} {r0 : Term} {x1 : Int} {t2 : Term}  (k : wr P d sw_c478 sw_h478 (2, [r0, vi x1, vi 0], [], h, kc, ks) Q)   : wr P d sw_c478 sw_h478 (0, [r0, vi x1, t2], [], h, kc, ks) Q := by
  refine w_c32 rfl (by decide) 0 (by decide) ?_
  refine w_st (ls' := [r0, vi x1, vi 0]) rfl (Or.inl ⟨by decide, rfl⟩) rfl ?_
  exact k

theorem k478_2 {P : s_P} {d : Nat} {Q : s_O → Prop} {h : s_H} {kc ks : Nat} {r0 : Term} {x1 x2 : Int}  (k1 : 42 ≤ x2 → wr P d sw_c478 sw_h478 (32, [r0, vi x1, vi x2], [], h, kc, ks) Q) (k2 : ¬ 42 ≤ x2 → wr P d sw_c478 sw_h478 (8, [r0, vi x1, vi x2], [], h, kc, ks) Q)  (c1 : In3 x2 := by first | omega | assumption | (simp only [mk_len, List.length_map]; omega) | decide) : wr P d sw_c478 sw_h478 (2, [r0, vi x1, vi x2], [], h, kc, ks) Q := by
  refine w_ld rfl rfl (Or.inl ⟨by decide, rfl⟩) ?_
  refine w_c32 rfl (by decide) 42 (by decide) ?_
  exact w_if2 rfl c1 (by decide) k1 k2

theorem k478_8 {P : s_P} {d : Nat} {Q : s_O → Prop} {h : s_H} {kc ks : Nat} {r0 : Term} {x1 x2 : Int} {q2 : Nat} {f3 : List Term} {v5 : Term} {q7 : Nat} {a8 : List Int} (g4 : s_get h q2 = some (1, 11, f3)) (g9 : s_get h q7 = some (0, 1, a8.map vl)) (k1 : gi a8 ((42 * x1) + x2) = 0 → wr P d sw_c478 sw_h478 (26, [.index q2, vi x1, vi x2], [], h, kc, ks) Q) (k2 : ¬ gi a8 ((42 * x1) + x2) = 0 → wr P d sw_c478 sw_h478 (24, [.index q2, vi x1, vi x2], [], h, kc, ks) Q) (e_q2 : r0 = .index q2 := by first | rfl | assumption) (e_q7 : v5 = .index q7 := by first | rfl | assumption) (y1 : s_ty r0 = 3 := by first | rfl | assumption) (n6 : s_nth f3 34 = some v5 := by first | rfl | assumption) (c10 : (42 * x1) + x2 < a8.length := by first | omega | assumption | (simp only [mk_len, List.length_map]; omega) | decide) (c11 : 0 ≤ (42 * x1) + x2 := by first | omega | assumption | (simp only [mk_len, List.length_map]; omega) | decide) (c12 : In3 ((42 * x1) + x2) := by first | omega | assumption | (simp only [mk_len, List.length_map]; omega) | decide) (c13 : In6 (gi a8 ((42 * x1) + x2)) := by first | omega | assumption | (simp only [mk_len, List.length_map]; omega) | decide) : wr P d sw_c478 sw_h478 (8, [r0, vi x1, vi x2], [], h, kc, ks) Q := by
  refine w_ld rfl rfl (Or.inr (Or.inr ⟨by decide, y1⟩)) ?_
  subst e_q2
  refine w_getf rfl g4 n6 ?_
  refine w_c32 rfl (by decide) 42 (by decide) ?_
  refine w_ld rfl rfl (Or.inl ⟨by decide, rfl⟩) ?_
  refine w_imul rfl ?_
  refine w_ld rfl rfl (Or.inl ⟨by decide, rfl⟩) ?_
  refine w_iadd rfl ?_
  subst e_q7
  refine w_lald rfl g9 c12 c11 c10 ?_
  refine w_c64 rfl (by decide) 0 (by decide) ?_
  exact w_lcmp rfl rfl c13 (by decide) k1 k2

theorem k478_24 {P : s_P} {d : Nat} {Q : s_O → Prop} {h : s_H} {kc ks : Nat} {r0 : Term} {x1 x2 : Int}  (k : Q (.inl (some (vi 0)), h, kc, ks))   : wr P d sw_c478 sw_h478 (24, [r0, vi x1, vi x2], [], h, kc, ks) Q := by
  refine w_c32 rfl (by decide) 0 (by decide) ?_
  exact w_zret rfl (by decide) k

theorem k478_26 {P : s_P} {d : Nat} {Q : s_O → Prop} {h : s_H} {kc ks : Nat} {r0 : Term} {x1 x2 : Int}  (k : wr P d sw_c478 sw_h478 (2, [r0, vi x1, vi (x2 + 1)], [], h, kc, ks) Q)   : wr P d sw_c478 sw_h478 (26, [r0, vi x1, vi x2], [], h, kc, ks) Q := by
  refine w_iinc (ls' := [r0, vi x1, vi (x2 + 1)]) rfl rfl 1 (by decide) rfl ?_
  refine w_goto rfl ?_
  exact k

theorem k478_32 {P : s_P} {d : Nat} {Q : s_O → Prop} {h : s_H} {kc ks : Nat} {r0 : Term} {x1 x2 : Int}  (k : Q (.inl (some (vi 1)), h, kc, ks))   : wr P d sw_c478 sw_h478 (32, [r0, vi x1, vi x2], [], h, kc, ks) Q := by
  refine w_c32 rfl (by decide) 1 (by decide) ?_
  exact w_zret rfl (by decide) k

/-! 479: FormulaWorksModel.isGreat()Z -/
theorem k479_0 {P : s_P} {d : Nat} {Q : s_O → Prop} {h : s_H} {kc ks : Nat} {r0 : Term} {q2 : Nat} {f3 : List Term} {v5 : Term} (g4 : s_get h q2 = some (1, 11, f3)) (k : wm P d 463 [v5] h (wq P d sw_c479 sw_h479 7 [.index q2] [] kc ks Q)) (e_q2 : r0 = .index q2 := by first | rfl | assumption) (y1 : s_ty r0 = 3 := by first | rfl | assumption) (n6 : s_nth f3 14 = some v5 := by first | rfl | assumption)  : wr P d sw_c479 sw_h479 (0, [r0], [], h, kc, ks) Q := by
  refine w_ld rfl rfl (Or.inr (Or.inr ⟨by decide, y1⟩)) ?_
  subst e_q2
  refine w_getf rfl g4 n6 ?_
  exact w_cs rfl [v5] [] rfl rfl (s_wt_4 rfl) k

theorem k479_7 {P : s_P} {d : Nat} {Q : s_O → Prop} {h : s_H} {kc ks : Nat} {r0 : Term} {s0 : Int}  (k1 : 40 < s0 → wr P d sw_c479 sw_h479 (24, [r0], [], h, kc, ks) Q) (k2 : ¬ 40 < s0 → wr P d sw_c479 sw_h479 (12, [r0], [], h, kc, ks) Q)  (c1 : In3 s0 := by first | omega | assumption | (simp only [mk_len, List.length_map]; omega) | decide) : wr P d sw_c479 sw_h479 (7, [r0], [vi s0], h, kc, ks) Q := by
  refine w_c32 rfl (by decide) 40 (by decide) ?_
  exact w_if2 rfl c1 (by decide) k1 k2

theorem k479_12 {P : s_P} {d : Nat} {Q : s_O → Prop} {h : s_H} {kc ks : Nat} {r0 : Term} {q2 : Nat} {f3 : List Term} {v5 : Term} (g4 : s_get h q2 = some (1, 11, f3)) (k : wm P d 463 [v5] h (wq P d sw_c479 sw_h479 19 [.index q2] [] kc ks Q)) (e_q2 : r0 = .index q2 := by first | rfl | assumption) (y1 : s_ty r0 = 3 := by first | rfl | assumption) (n6 : s_nth f3 15 = some v5 := by first | rfl | assumption)  : wr P d sw_c479 sw_h479 (12, [r0], [], h, kc, ks) Q := by
  refine w_ld rfl rfl (Or.inr (Or.inr ⟨by decide, y1⟩)) ?_
  subst e_q2
  refine w_getf rfl g4 n6 ?_
  exact w_cs rfl [v5] [] rfl rfl (s_wt_4 rfl) k

theorem k479_19 {P : s_P} {d : Nat} {Q : s_O → Prop} {h : s_H} {kc ks : Nat} {r0 : Term} {s0 : Int}  (k1 : s0 ≤ 40 → wr P d sw_c479 sw_h479 (28, [r0], [], h, kc, ks) Q) (k2 : ¬ s0 ≤ 40 → wr P d sw_c479 sw_h479 (24, [r0], [], h, kc, ks) Q)  (c1 : In3 s0 := by first | omega | assumption | (simp only [mk_len, List.length_map]; omega) | decide) : wr P d sw_c479 sw_h479 (19, [r0], [vi s0], h, kc, ks) Q := by
  refine w_c32 rfl (by decide) 40 (by decide) ?_
  exact w_if2 rfl c1 (by decide) k1 k2

theorem k479_24 {P : s_P} {d : Nat} {Q : s_O → Prop} {h : s_H} {kc ks : Nat} {r0 : Term}  (k : wr P d sw_c479 sw_h479 (29, [r0], [vi 1], h, kc, ks) Q)   : wr P d sw_c479 sw_h479 (24, [r0], [], h, kc, ks) Q := by
  refine w_c32 rfl (by decide) 1 (by decide) ?_
  refine w_goto rfl ?_
  exact k

theorem k479_28 {P : s_P} {d : Nat} {Q : s_O → Prop} {h : s_H} {kc ks : Nat} {r0 : Term}  (k : wr P d sw_c479 sw_h479 (29, [r0], [vi 0], h, kc, ks) Q)   : wr P d sw_c479 sw_h479 (28, [r0], [], h, kc, ks) Q := by
  refine w_c32 rfl (by decide) 0 (by decide) ?_
  exact k

theorem k479_29 {P : s_P} {d : Nat} {Q : s_O → Prop} {h : s_H} {kc ks : Nat} {r0 : Term} {s0 : Int}  (k : Q (.inl (some (vi s0)), h, kc, ks))  (c1 : s0 = 0 ∨ s0 = 1 := by first | omega | assumption | (simp only [mk_len, List.length_map]; omega) | decide) : wr P d sw_c479 sw_h479 (29, [r0], [vi s0], h, kc, ks) Q := by
  exact w_zret rfl c1 k

/-! 480: FormulaWorksModel.isNumber(II)Z -/
theorem k480_0 {P : s_P} {d : Nat} {Q : s_O → Prop} {h : s_H} {kc ks : Nat} {r0 : Term} {x1 x2 : Int} {q2 : Nat} {f3 : List Term} {v5 : Term} {q7 : Nat} {a8 : List Int} (g4 : s_get h q2 = some (1, 11, f3)) (g9 : s_get h q7 = some (0, 0, a8.map vi)) (k1 : gi a8 x1 ≠ 0 → wr P d sw_c480 sw_h480 (23, [.index q2, vi x1, vi x2], [], h, kc, ks) Q) (k2 : ¬ gi a8 x1 ≠ 0 → wr P d sw_c480 sw_h480 (9, [.index q2, vi x1, vi x2], [], h, kc, ks) Q) (e_q2 : r0 = .index q2 := by first | rfl | assumption) (e_q7 : v5 = .index q7 := by first | rfl | assumption) (y1 : s_ty r0 = 3 := by first | rfl | assumption) (n6 : s_nth f3 83 = some v5 := by first | rfl | assumption) (c10 : x1 < a8.length := by first | omega | assumption | (simp only [mk_len, List.length_map]; omega) | decide) (c11 : 0 ≤ x1 := by first | omega | assumption | (simp only [mk_len, List.length_map]; omega) | decide) (c12 : In3 x1 := by first | omega | assumption | (simp only [mk_len, List.length_map]; omega) | decide) (c13 : In3 (gi a8 x1) := by first | omega | assumption | (simp only [mk_len, List.length_map]; omega) | decide) : wr P d sw_c480 sw_h480 (0, [r0, vi x1, vi x2], [], h, kc, ks) Q := by
  refine w_ld rfl rfl (Or.inr (Or.inr ⟨by decide, y1⟩)) ?_
  subst e_q2
  refine w_getf rfl g4 n6 ?_
  refine w_ld rfl rfl (Or.inl ⟨by decide, rfl⟩) ?_
  subst e_q7
  refine w_iald rfl g9 (Or.inl rfl) c12 c11 c10 ?_
  exact w_if1 rfl c13 k1 k2

theorem k480_9 {P : s_P} {d : Nat} {Q : s_O → Prop} {h : s_H} {kc ks : Nat} {r0 : Term} {x1 x2 : Int} {q2 : Nat} {f3 : List Term} {v5 : Term} {q7 : Nat} {a8 : List Int} (g4 : s_get h q2 = some (1, 11, f3)) (g9 : s_get h q7 = some (0, 0, a8.map vi)) (k1 : gi a8 x1 ≠ x2 → wr P d sw_c480 sw_h480 (23, [.index q2, vi x1, vi x2], [], h, kc, ks) Q) (k2 : ¬ gi a8 x1 ≠ x2 → wr P d sw_c480 sw_h480 (19, [.index q2, vi x1, vi x2], [], h, kc, ks) Q) (e_q2 : r0 = .index q2 := by first | rfl | assumption) (e_q7 : v5 = .index q7 := by first | rfl | assumption) (y1 : s_ty r0 = 3 := by first | rfl | assumption) (n6 : s_nth f3 84 = some v5 := by first | rfl | assumption) (c10 : x1 < a8.length := by first | omega | assumption | (simp only [mk_len, List.length_map]; omega) | decide) (c11 : 0 ≤ x1 := by first | omega | assumption | (simp only [mk_len, List.length_map]; omega) | decide) (c12 : In3 x1 := by first | omega | assumption | (simp only [mk_len, List.length_map]; omega) | decide) (c13 : In3 (gi a8 x1) := by first | omega | assumption | (simp only [mk_len, List.length_map]; omega) | decide) (c14 : In3 x2 := by first | omega | assumption | (simp only [mk_len, List.length_map]; omega) | decide) : wr P d sw_c480 sw_h480 (9, [r0, vi x1, vi x2], [], h, kc, ks) Q := by
  refine w_ld rfl rfl (Or.inr (Or.inr ⟨by decide, y1⟩)) ?_
  subst e_q2
  refine w_getf rfl g4 n6 ?_
  refine w_ld rfl rfl (Or.inl ⟨by decide, rfl⟩) ?_
  subst e_q7
  refine w_iald rfl g9 (Or.inl rfl) c12 c11 c10 ?_
  refine w_ld rfl rfl (Or.inl ⟨by decide, rfl⟩) ?_
  exact w_if2 rfl c13 c14 k1 k2

theorem k480_19 {P : s_P} {d : Nat} {Q : s_O → Prop} {h : s_H} {kc ks : Nat} {r0 : Term} {x1 x2 : Int}  (k : wr P d sw_c480 sw_h480 (24, [r0, vi x1, vi x2], [vi 1], h, kc, ks) Q)   : wr P d sw_c480 sw_h480 (19, [r0, vi x1, vi x2], [], h, kc, ks) Q := by
  refine w_c32 rfl (by decide) 1 (by decide) ?_
  refine w_goto rfl ?_
  exact k

theorem k480_23 {P : s_P} {d : Nat} {Q : s_O → Prop} {h : s_H} {kc ks : Nat} {r0 : Term} {x1 x2 : Int}  (k : wr P d sw_c480 sw_h480 (24, [r0, vi x1, vi x2], [vi 0], h, kc, ks) Q)   : wr P d sw_c480 sw_h480 (23, [r0, vi x1, vi x2], [], h, kc, ks) Q := by
  refine w_c32 rfl (by decide) 0 (by decide) ?_
  exact k

theorem k480_24 {P : s_P} {d : Nat} {Q : s_O → Prop} {h : s_H} {kc ks : Nat} {r0 : Term} {x1 x2 s0 : Int}  (k : Q (.inl (some (vi s0)), h, kc, ks))  (c1 : s0 = 0 ∨ s0 = 1 := by first | omega | assumption | (simp only [mk_len, List.length_map]; omega) | decide) : wr P d sw_c480 sw_h480 (24, [r0, vi x1, vi x2], [vi s0], h, kc, ks) Q := by
  exact w_zret rfl c1 k

/-! 481: FormulaWorksModel.isOf(II)Z -/
theorem k481_0 {P : s_P} {d : Nat} {Q : s_O → Prop} {h : s_H} {kc ks : Nat} {r0 : Term} {x1 x2 : Int} {q2 : Nat} {f3 : List Term} (g4 : s_get h q2 = some (1, 11, f3)) (k : wm P d 492 [.index q2, vi x1] h (wq P d sw_c481 sw_h481 6 [.index q2, vi x1, vi x2] [.index q2] kc ks Q)) (e_q2 : r0 = .index q2 := by first | rfl | assumption) (y1 : s_ty r0 = 3 := by first | rfl | assumption)  : wr P d sw_c481 sw_h481 (0, [r0, vi x1, vi x2], [], h, kc, ks) Q := by
  refine w_ld rfl rfl (Or.inr (Or.inr ⟨by decide, y1⟩)) ?_
  refine w_ld rfl rfl (Or.inr (Or.inr ⟨by decide, y1⟩)) ?_
  refine w_ld rfl rfl (Or.inl ⟨by decide, rfl⟩) ?_
  subst e_q2
  exact w_cv rfl [.index q2, vi x1] [.index q2] rfl rfl (s_wt_4 rfl) rfl g4 k

theorem k481_6 {P : s_P} {d : Nat} {Q : s_O → Prop} {h : s_H} {kc ks : Nat} {r0 : Term} {x1 x2 : Int} {s0 : Term} {s1 : Int}  (k1 : s1 ≠ 0 → wr P d sw_c481 sw_h481 (13, [r0, vi x1, vi x2], [s0], h, kc, ks) Q) (k2 : ¬ s1 ≠ 0 → wr P d sw_c481 sw_h481 (9, [r0, vi x1, vi x2], [s0], h, kc, ks) Q)  (c1 : In3 s1 := by first | omega | assumption | (simp only [mk_len, List.length_map]; omega) | decide) : wr P d sw_c481 sw_h481 (6, [r0, vi x1, vi x2], [vi s1, s0], h, kc, ks) Q := by
  exact w_if1 rfl c1 k1 k2

theorem k481_9 {P : s_P} {d : Nat} {Q : s_O → Prop} {h : s_H} {kc ks : Nat} {r0 : Term} {x1 x2 : Int} {s0 : Term}  (k : wr P d sw_c481 sw_h481 (27, [r0, vi x1, vi x2], [vi 1, s0], h, kc, ks) Q)   : wr P d sw_c481 sw_h481 (9, [r0, vi x1, vi x2], [s0], h, kc, ks) Q := by
  refine w_c32 rfl (by decide) 1 (by decide) ?_
  refine w_goto rfl ?_
  exact k

theorem k481_13 {P : s_P} {d : Nat} {Q : s_O → Prop} {h : s_H} {kc ks : Nat} {r0 : Term} {x1 x2 : Int} {s0 : Term} {q2 : Nat} {f3 : List Term} (g4 : s_get h q2 = some (1, 11, f3)) (k : wm P d 469 [.index q2, vi x1, vi x2] h (wq P d sw_c481 sw_h481 19 [.index q2, vi x1, vi x2] [s0] kc ks Q)) (e_q2 : r0 = .index q2 := by first | rfl | assumption) (y1 : s_ty r0 = 3 := by first | rfl | assumption)  : wr P d sw_c481 sw_h481 (13, [r0, vi x1, vi x2], [s0], h, kc, ks) Q := by
  refine w_ld rfl rfl (Or.inr (Or.inr ⟨by decide, y1⟩)) ?_
  refine w_ld rfl rfl (Or.inl ⟨by decide, rfl⟩) ?_
  refine w_ld rfl rfl (Or.inl ⟨by decide, rfl⟩) ?_
  subst e_q2
  exact w_cv rfl [.index q2, vi x1, vi x2] [s0] rfl rfl (s_wt_4 rfl) rfl g4 k

theorem k481_19 {P : s_P} {d : Nat} {Q : s_O → Prop} {h : s_H} {kc ks : Nat} {r0 : Term} {x1 x2 : Int} {s0 : Term} {s1 : Int}  (k1 : s1 = 0 → wr P d sw_c481 sw_h481 (26, [r0, vi x1, vi x2], [s0], h, kc, ks) Q) (k2 : ¬ s1 = 0 → wr P d sw_c481 sw_h481 (22, [r0, vi x1, vi x2], [s0], h, kc, ks) Q)  (c1 : In3 s1 := by first | omega | assumption | (simp only [mk_len, List.length_map]; omega) | decide) : wr P d sw_c481 sw_h481 (19, [r0, vi x1, vi x2], [vi s1, s0], h, kc, ks) Q := by
  exact w_if1 rfl c1 k1 k2

theorem k481_22 {P : s_P} {d : Nat} {Q : s_O → Prop} {h : s_H} {kc ks : Nat} {r0 : Term} {x1 x2 : Int} {s0 : Term}  (k : wr P d sw_c481 sw_h481 (27, [r0, vi x1, vi x2], [vi 0, s0], h, kc, ks) Q)   : wr P d sw_c481 sw_h481 (22, [r0, vi x1, vi x2], [s0], h, kc, ks) Q := by
  refine w_c32 rfl (by decide) 0 (by decide) ?_
  refine w_goto rfl ?_
  exact k

theorem k481_26 {P : s_P} {d : Nat} {Q : s_O → Prop} {h : s_H} {kc ks : Nat} {r0 : Term} {x1 x2 : Int} {s0 : Term}  (k : wr P d sw_c481 sw_h481 (27, [r0, vi x1, vi x2], [vi 2, s0], h, kc, ks) Q)   : wr P d sw_c481 sw_h481 (26, [r0, vi x1, vi x2], [s0], h, kc, ks) Q := by
  refine w_c32 rfl (by decide) 2 (by decide) ?_
  exact k

theorem k481_27 {P : s_P} {d : Nat} {Q : s_O → Prop} {h : s_H} {kc ks : Nat} {r0 : Term} {x1 x2 : Int} {s0 : Term} {s1 : Int} {q1 : Nat} {f2 : List Term} {q7 : Nat} {f8 : List Term} {z10 : Int} (g3 : s_get h q1 = some (1, 11, f2)) (g9 : s_get (hp h q1 (1, 11, f2.set 0 (vi s1))) q7 = some (1, 11, f8)) (k1 : z10 ≠ 0 → wr P d sw_c481 sw_h481 (55, [.index q7, vi x1, vi x2], [], (hp h q1 (1, 11, f2.set 0 (vi s1))), kc, ks) Q) (k2 : ¬ z10 ≠ 0 → wr P d sw_c481 sw_h481 (37, [.index q7, vi x1, vi x2], [], (hp h q1 (1, 11, f2.set 0 (vi s1))), kc, ks) Q) (e_q1 : s0 = .index q1 := by first | rfl | assumption) (e_q7 : r0 = .index q7 := by first | rfl | assumption) (l4 : 0 < f2.length := by first | exact Nat.le_of_ble_eq_true rfl | omega | assumption) (y6 : s_ty r0 = 3 := by first | rfl | assumption) (n11 : s_nth f8 0 = some (vi z10) := by first | rfl | assumption) (c5 : 0 < q1 := by first | omega | assumption | (simp only [mk_len, List.length_map]; omega) | decide) (c12 : In3 z10 := by first | omega | assumption | (simp only [mk_len, List.length_map]; omega) | decide) : wr P d sw_c481 sw_h481 (27, [r0, vi x1, vi x2], [vi s1, s0], h, kc, ks) Q := by
  subst e_q1
  refine w_putf rfl g3 (Nat.ble_eq_true_of_le c5) rfl (Nat.ble_eq_true_of_le l4) ?_
  refine w_ld rfl rfl (Or.inr (Or.inr ⟨by decide, y6⟩)) ?_
  subst e_q7
  refine w_getf rfl g9 n11 ?_
  exact w_if1 rfl c12 k1 k2

theorem k481_37 {P : s_P} {d : Nat} {Q : s_O → Prop} {h : s_H} {kc ks : Nat} {r0 : Term} {x1 x2 : Int}  (k1 : 2 ≤ x2 → wr P d sw_c481 sw_h481 (55, [r0, vi x1, vi x2], [], h, kc, ks) Q) (k2 : ¬ 2 ≤ x2 → wr P d sw_c481 sw_h481 (42, [r0, vi x1, vi x2], [], h, kc, ks) Q)  (c1 : In3 x2 := by first | omega | assumption | (simp only [mk_len, List.length_map]; omega) | decide) : wr P d sw_c481 sw_h481 (37, [r0, vi x1, vi x2], [], h, kc, ks) Q := by
  refine w_ld rfl rfl (Or.inl ⟨by decide, rfl⟩) ?_
  refine w_c32 rfl (by decide) 2 (by decide) ?_
  exact w_if2 rfl c1 (by decide) k1 k2

theorem k481_42 {P : s_P} {d : Nat} {Q : s_O → Prop} {h : s_H} {kc ks : Nat} {r0 : Term} {x1 x2 : Int} {q2 : Nat} {f3 : List Term} {v5 v7 : Term} (g4 : s_get h q2 = some (1, 11, f3)) (k : wm P d 505 [.index q2, v5, v7, vi x1] h (wq P d sw_c481 sw_h481 55 [.index q2, vi x1, vi x2] [] kc ks Q)) (e_q2 : r0 = .index q2 := by first | rfl | assumption) (y1 : s_ty r0 = 3 := by first | rfl | assumption) (n6 : s_nth f3 10 = some v5 := by first | rfl | assumption) (n8 : s_nth f3 11 = some v7 := by first | rfl | assumption)  : wr P d sw_c481 sw_h481 (42, [r0, vi x1, vi x2], [], h, kc, ks) Q := by
  refine w_ld rfl rfl (Or.inr (Or.inr ⟨by decide, y1⟩)) ?_
  refine w_ld rfl rfl (Or.inr (Or.inr ⟨by decide, y1⟩)) ?_
  subst e_q2
  refine w_getf rfl g4 n6 ?_
  refine w_ld rfl rfl (Or.inr (Or.inr ⟨by decide, rfl⟩)) ?_
  refine w_getf rfl g4 n8 ?_
  refine w_ld rfl rfl (Or.inl ⟨by decide, rfl⟩) ?_
  exact w_cv rfl [.index q2, v5, v7, vi x1] [] rfl rfl (s_wt_4 rfl) rfl g4 k

theorem k481_55 {P : s_P} {d : Nat} {Q : s_O → Prop} {h : s_H} {kc ks : Nat} {r0 : Term} {x1 x2 : Int} {q2 : Nat} {f3 : List Term} {z5 : Int} (g4 : s_get h q2 = some (1, 11, f3)) (k1 : z5 ≠ 0 → wr P d sw_c481 sw_h481 (66, [.index q2, vi x1, vi x2], [], h, kc, ks) Q) (k2 : ¬ z5 ≠ 0 → wr P d sw_c481 sw_h481 (62, [.index q2, vi x1, vi x2], [], h, kc, ks) Q) (e_q2 : r0 = .index q2 := by first | rfl | assumption) (y1 : s_ty r0 = 3 := by first | rfl | assumption) (n6 : s_nth f3 0 = some (vi z5) := by first | rfl | assumption) (c7 : In3 z5 := by first | omega | assumption | (simp only [mk_len, List.length_map]; omega) | decide) : wr P d sw_c481 sw_h481 (55, [r0, vi x1, vi x2], [], h, kc, ks) Q := by
  refine w_ld rfl rfl (Or.inr (Or.inr ⟨by decide, y1⟩)) ?_
  subst e_q2
  refine w_getf rfl g4 n6 ?_
  exact w_if1 rfl c7 k1 k2

theorem k481_62 {P : s_P} {d : Nat} {Q : s_O → Prop} {h : s_H} {kc ks : Nat} {r0 : Term} {x1 x2 : Int}  (k : wr P d sw_c481 sw_h481 (67, [r0, vi x1, vi x2], [vi 1], h, kc, ks) Q)   : wr P d sw_c481 sw_h481 (62, [r0, vi x1, vi x2], [], h, kc, ks) Q := by
  refine w_c32 rfl (by decide) 1 (by decide) ?_
  refine w_goto rfl ?_
  exact k

theorem k481_66 {P : s_P} {d : Nat} {Q : s_O → Prop} {h : s_H} {kc ks : Nat} {r0 : Term} {x1 x2 : Int}  (k : wr P d sw_c481 sw_h481 (67, [r0, vi x1, vi x2], [vi 0], h, kc, ks) Q)   : wr P d sw_c481 sw_h481 (66, [r0, vi x1, vi x2], [], h, kc, ks) Q := by
  refine w_c32 rfl (by decide) 0 (by decide) ?_
  exact k

theorem k481_67 {P : s_P} {d : Nat} {Q : s_O → Prop} {h : s_H} {kc ks : Nat} {r0 : Term} {x1 x2 s0 : Int}  (k : Q (.inl (some (vi s0)), h, kc, ks))  (c1 : s0 = 0 ∨ s0 = 1 := by first | omega | assumption | (simp only [mk_len, List.length_map]; omega) | decide) : wr P d sw_c481 sw_h481 (67, [r0, vi x1, vi x2], [vi s0], h, kc, ks) Q := by
  exact w_zret rfl c1 k

/-! 482: FormulaWorksModel.isOfNumbers(I)Z -/
theorem k482_0 {P : s_P} {d : Nat} {Q : s_O → Prop} {h : s_H} {kc ks : Nat} {r0 : Term} {x1 : Int} {t2 t3 t4 : Term} {q2 : Nat} {f3 : List Term} {v5 : Term} {q7 : Nat} {a8 : List Int} {v13 : Term} {q15 : Nat} {a16 : List Int} (g4 : s_get h q2 = some (1, 11, f3)) (g9 : s_get h q7 = some (0, 0, a8.map vi)) (g17 : s_get h q15 = some (0, 0, a16.map vi)) (k1 : gi a8 x1 ≠ gi a16 x1 → wr P d sw_c482 sw_h482 (19, [.index q2, vi x1, t2, t3, t4], [], h, kc, ks) Q) (k2 : ¬ gi a8 x1 ≠ gi a16 x1 → wr P d sw_c482 sw_h482 (15, [.index q2, vi x1, t2, t3, t4], [], h, kc, ks) Q) (e_q2 : r0 = .index q2 := by first | rfl | assumption) (e_q7 : v5 = .index q7 := by first | rfl | assumption) (e_q15 : v13 = .index q15 := by first | rfl | assumption) (y1 : s_ty r0 = 3 := by first | rfl | assumption) (n6 : s_nth f3 5 = some v5 := by first | rfl | assumption) (n14 : s_nth f3 6 = some v13 := by first | rfl | assumption) (c10 : x1 < a8.length := by first | omega | assumption | (simp only [mk_len, List.length_map]; omega) | decide) (c11 : 0 ≤ x1 := by first | omega | assumption | (simp only [mk_len, List.length_map]; omega) | decide) (c12 : In3 x1 := by first | omega | assumption | (simp only [mk_len, List.length_map]; omega) | decide) (c18 : x1 < a16.length := by first | omega | assumption | (simp only [mk_len, List.length_map]; omega) | decide) (c19 : In3 (gi a8 x1) := by first | omega | assumption | (simp only [mk_len, List.length_map]; omega) | decide) (c20 : In3 (gi a16 x1) := by first | omega | assumption | (simp only [mk_len, List.length_map]; omega) | decide) : wr P d sw_c482 sw_h482 (0, [r0, vi x1, t2, t3, t4], [], h, kc, ks) Q := by
  refine w_ld rfl rfl (Or.inr (Or.inr ⟨by decide, y1⟩)) ?_
  subst e_q2
  refine w_getf rfl g4 n6 ?_
  refine w_ld rfl rfl (Or.inl ⟨by decide, rfl⟩) ?_
  subst e_q7
  refine w_iald rfl g9 (Or.inl rfl) c12 c11 c10 ?_
  refine w_ld rfl rfl (Or.inr (Or.inr ⟨by decide, rfl⟩)) ?_
  refine w_getf rfl g4 n14 ?_
  refine w_ld rfl rfl (Or.inl ⟨by decide, rfl⟩) ?_
  subst e_q15
  refine w_iald rfl g17 (Or.inl rfl) c12 c11 c18 ?_
  exact w_if2 rfl c19 c20 k1 k2

theorem k482_15 {P : s_P} {d : Nat} {Q : s_O → Prop} {h : s_H} {kc ks : Nat} {r0 : Term} {x1 : Int} {t2 t3 t4 : Term}  (k : wr P d sw_c482 sw_h482 (20, [r0, vi x1, t2, t3, t4], [vi 1], h, kc, ks) Q)   : wr P d sw_c482 sw_h482 (15, [r0, vi x1, t2, t3, t4], [], h, kc, ks) Q := by
  refine w_c32 rfl (by decide) 1 (by decide) ?_
  refine w_goto rfl ?_
  exact k

theorem k482_19 {P : s_P} {d : Nat} {Q : s_O → Prop} {h : s_H} {kc ks : Nat} {r0 : Term} {x1 : Int} {t2 t3 t4 : Term}  (k : wr P d sw_c482 sw_h482 (20, [r0, vi x1, t2, t3, t4], [vi 0], h, kc, ks) Q)   : wr P d sw_c482 sw_h482 (19, [r0, vi x1, t2, t3, t4], [], h, kc, ks) Q := by
  refine w_c32 rfl (by decide) 0 (by decide) ?_
  exact k

theorem k482_20 {P : s_P} {d : Nat} {Q : s_O → Prop} {h : s_H} {kc ks : Nat} {r0 : Term} {x1 : Int} {t2 t3 t4 : Term} {s0 : Int}  (k : wr P d sw_c482 sw_h482 (23, [r0, vi x1, vi s0, vi 0, t4], [], h, kc, ks) Q)   : wr P d sw_c482 sw_h482 (20, [r0, vi x1, t2, t3, t4], [vi s0], h, kc, ks) Q := by
  refine w_st (ls' := [r0, vi x1, vi s0, t3, t4]) rfl (Or.inl ⟨by decide, rfl⟩) rfl ?_
  refine w_c32 rfl (by decide) 0 (by decide) ?_
  refine w_st (ls' := [r0, vi x1, vi s0, vi 0, t4]) rfl (Or.inl ⟨by decide, rfl⟩) rfl ?_
  exact k

theorem k482_23 {P : s_P} {d : Nat} {Q : s_O → Prop} {h : s_H} {kc ks : Nat} {r0 : Term} {x1 x2 x3 : Int} {t4 : Term}  (k1 : 4 ≤ x3 → wr P d sw_c482 sw_h482 (107, [r0, vi x1, vi x2, vi x3, t4], [], h, kc, ks) Q) (k2 : ¬ 4 ≤ x3 → wr P d sw_c482 sw_h482 (28, [r0, vi x1, vi x2, vi x3, t4], [], h, kc, ks) Q)  (c1 : In3 x3 := by first | omega | assumption | (simp only [mk_len, List.length_map]; omega) | decide) : wr P d sw_c482 sw_h482 (23, [r0, vi x1, vi x2, vi x3, t4], [], h, kc, ks) Q := by
  refine w_ld rfl rfl (Or.inl ⟨by decide, rfl⟩) ?_
  refine w_c32 rfl (by decide) 4 (by decide) ?_
  exact w_if2 rfl c1 (by decide) k1 k2

theorem k482_28 {P : s_P} {d : Nat} {Q : s_O → Prop} {h : s_H} {kc ks : Nat} {r0 : Term} {x1 x2 x3 : Int} {t4 : Term}  (k1 : x2 = 0 → wr P d sw_c482 sw_h482 (107, [r0, vi x1, vi x2, vi x3, t4], [], h, kc, ks) Q) (k2 : ¬ x2 = 0 → wr P d sw_c482 sw_h482 (32, [r0, vi x1, vi x2, vi x3, t4], [], h, kc, ks) Q)  (c1 : In3 x2 := by first | omega | assumption | (simp only [mk_len, List.length_map]; omega) | decide) : wr P d sw_c482 sw_h482 (28, [r0, vi x1, vi x2, vi x3, t4], [], h, kc, ks) Q := by
  refine w_ld rfl rfl (Or.inl ⟨by decide, rfl⟩) ?_
  exact w_if1 rfl c1 k1 k2

theorem k482_32 {P : s_P} {d : Nat} {Q : s_O → Prop} {h : s_H} {kc ks : Nat} {r0 : Term} {x1 x2 x3 : Int} {t4 : Term}  (k : wr P d sw_c482 sw_h482 (35, [r0, vi x1, vi x2, vi x3, vi 0], [], h, kc, ks) Q)   : wr P d sw_c482 sw_h482 (32, [r0, vi x1, vi x2, vi x3, t4], [], h, kc, ks) Q := by
  refine w_c32 rfl (by decide) 0 (by decide) ?_
  refine w_st (ls' := [r0, vi x1, vi x2, vi x3, vi 0]) rfl (Or.inl ⟨by decide, rfl⟩) rfl ?_
  exact k

theorem k482_35 {P : s_P} {d : Nat} {Q : s_O → Prop} {h : s_H} {kc ks : Nat} {r0 : Term} {x1 x2 x3 x4 : Int}  (k1 : 4 ≤ x4 → wr P d sw_c482 sw_h482 (101, [r0, vi x1, vi x2, vi x3, vi x4], [], h, kc, ks) Q) (k2 : ¬ 4 ≤ x4 → wr P d sw_c482 sw_h482 (41, [r0, vi x1, vi x2, vi x3, vi x4], [], h, kc, ks) Q)  (c1 : In3 x4 := by first | omega | assumption | (simp only [mk_len, List.length_map]; omega) | decide) : wr P d sw_c482 sw_h482 (35, [r0, vi x1, vi x2, vi x3, vi x4], [], h, kc, ks) Q := by
  refine w_ld rfl rfl (Or.inl ⟨by decide, rfl⟩) ?_
  refine w_c32 rfl (by decide) 4 (by decide) ?_
  exact w_if2 rfl c1 (by decide) k1 k2

theorem k482_41 {P : s_P} {d : Nat} {Q : s_O → Prop} {h : s_H} {kc ks : Nat} {r0 : Term} {x1 x2 x3 x4 : Int} {q2 : Nat} {f3 : List Term} {v5 : Term} {q7 : Nat} {a8 : List Int} (g4 : s_get h q2 = some (1, 11, f3)) (g9 : s_get h q7 = some (0, 0, a8.map vi)) (k1 : gi a8 x1 ≤ x3 → wr P d sw_c482 sw_h482 (101, [.index q2, vi x1, vi x2, vi x3, vi x4], [], h, kc, ks) Q) (k2 : ¬ gi a8 x1 ≤ x3 → wr P d sw_c482 sw_h482 (51, [.index q2, vi x1, vi x2, vi x3, vi x4], [], h, kc, ks) Q) (e_q2 : r0 = .index q2 := by first | rfl | assumption) (e_q7 : v5 = .index q7 := by first | rfl | assumption) (y1 : s_ty r0 = 3 := by first | rfl | assumption) (n6 : s_nth f3 5 = some v5 := by first | rfl | assumption) (c10 : x1 < a8.length := by first | omega | assumption | (simp only [mk_len, List.length_map]; omega) | decide) (c11 : 0 ≤ x1 := by first | omega | assumption | (simp only [mk_len, List.length_map]; omega) | decide) (c12 : In3 x1 := by first | omega | assumption | (simp only [mk_len, List.length_map]; omega) | decide) (c13 : In3 x3 := by first | omega | assumption | (simp only [mk_len, List.length_map]; omega) | decide) (c14 : In3 (gi a8 x1) := by first | omega | assumption | (simp only [mk_len, List.length_map]; omega) | decide) : wr P d sw_c482 sw_h482 (41, [r0, vi x1, vi x2, vi x3, vi x4], [], h, kc, ks) Q := by
  refine w_ld rfl rfl (Or.inl ⟨by decide, rfl⟩) ?_
  refine w_ld rfl rfl (Or.inr (Or.inr ⟨by decide, y1⟩)) ?_
  subst e_q2
  refine w_getf rfl g4 n6 ?_
  refine w_ld rfl rfl (Or.inl ⟨by decide, rfl⟩) ?_
  subst e_q7
  refine w_iald rfl g9 (Or.inl rfl) c12 c11 c10 ?_
  exact w_if2 rfl c13 c14 k1 k2

theorem k482_51 {P : s_P} {d : Nat} {Q : s_O → Prop} {h : s_H} {kc ks : Nat} {r0 : Term} {x1 x2 x3 x4 : Int} {q2 : Nat} {f3 : List Term} {v5 : Term} {q7 : Nat} {a8 : List Int} (g4 : s_get h q2 = some (1, 11, f3)) (g9 : s_get h q7 = some (0, 0, a8.map vi)) (k1 : gi a8 x1 ≤ x4 → wr P d sw_c482 sw_h482 (101, [.index q2, vi x1, vi x2, vi x3, vi x4], [], h, kc, ks) Q) (k2 : ¬ gi a8 x1 ≤ x4 → wr P d sw_c482 sw_h482 (62, [.index q2, vi x1, vi x2, vi x3, vi x4], [], h, kc, ks) Q) (e_q2 : r0 = .index q2 := by first | rfl | assumption) (e_q7 : v5 = .index q7 := by first | rfl | assumption) (y1 : s_ty r0 = 3 := by first | rfl | assumption) (n6 : s_nth f3 5 = some v5 := by first | rfl | assumption) (c10 : x1 < a8.length := by first | omega | assumption | (simp only [mk_len, List.length_map]; omega) | decide) (c11 : 0 ≤ x1 := by first | omega | assumption | (simp only [mk_len, List.length_map]; omega) | decide) (c12 : In3 x1 := by first | omega | assumption | (simp only [mk_len, List.length_map]; omega) | decide) (c13 : In3 x4 := by first | omega | assumption | (simp only [mk_len, List.length_map]; omega) | decide) (c14 : In3 (gi a8 x1) := by first | omega | assumption | (simp only [mk_len, List.length_map]; omega) | decide) : wr P d sw_c482 sw_h482 (51, [r0, vi x1, vi x2, vi x3, vi x4], [], h, kc, ks) Q := by
  refine w_ld rfl rfl (Or.inl ⟨by decide, rfl⟩) ?_
  refine w_ld rfl rfl (Or.inr (Or.inr ⟨by decide, y1⟩)) ?_
  subst e_q2
  refine w_getf rfl g4 n6 ?_
  refine w_ld rfl rfl (Or.inl ⟨by decide, rfl⟩) ?_
  subst e_q7
  refine w_iald rfl g9 (Or.inl rfl) c12 c11 c10 ?_
  exact w_if2 rfl c13 c14 k1 k2

theorem k482_62 {P : s_P} {d : Nat} {Q : s_O → Prop} {h : s_H} {kc ks : Nat} {r0 : Term} {x1 x2 x3 x4 : Int} {q2 : Nat} {f3 : List Term} {v5 : Term} (g4 : s_get h q2 = some (1, 11, f3)) (k : wm P d 508 [.index q2, v5, vi x1, vi x3, vi x4] h (wq P d sw_c482 sw_h482 74 [.index q2, vi x1, vi x2, vi x3, vi x4] [] kc ks Q)) (e_q2 : r0 = .index q2 := by first | rfl | assumption) (y1 : s_ty r0 = 3 := by first | rfl | assumption) (n6 : s_nth f3 20 = some v5 := by first | rfl | assumption)  : wr P d sw_c482 sw_h482 (62, [r0, vi x1, vi x2, vi x3, vi x4], [], h, kc, ks) Q := by
  refine w_ld rfl rfl (Or.inr (Or.inr ⟨by decide, y1⟩)) ?_
  refine w_ld rfl rfl (Or.inr (Or.inr ⟨by decide, y1⟩)) ?_
  subst e_q2
  refine w_getf rfl g4 n6 ?_
  refine w_ld rfl rfl (Or.inl ⟨by decide, rfl⟩) ?_
  refine w_ld rfl rfl (Or.inl ⟨by decide, rfl⟩) ?_
  refine w_ld rfl rfl (Or.inl ⟨by decide, rfl⟩) ?_
  exact w_cv rfl [.index q2, v5, vi x1, vi x3, vi x4] [] rfl rfl (s_wt_4 rfl) rfl g4 k

theorem k482_74 {P : s_P} {d : Nat} {Q : s_O → Prop} {h : s_H} {kc ks : Nat} {r0 : Term} {x1 x2 x3 x4 : Int}  (k1 : x2 = 0 → wr P d sw_c482 sw_h482 (93, [r0, vi x1, vi x2, vi x3, vi x4], [], h, kc, ks) Q) (k2 : ¬ x2 = 0 → wr P d sw_c482 sw_h482 (78, [r0, vi x1, vi x2, vi x3, vi x4], [], h, kc, ks) Q)  (c1 : In3 x2 := by first | omega | assumption | (simp only [mk_len, List.length_map]; omega) | decide) : wr P d sw_c482 sw_h482 (74, [r0, vi x1, vi x2, vi x3, vi x4], [], h, kc, ks) Q := by
  refine w_ld rfl rfl (Or.inl ⟨by decide, rfl⟩) ?_
  exact w_if1 rfl c1 k1 k2

theorem k482_78 {P : s_P} {d : Nat} {Q : s_O → Prop} {h : s_H} {kc ks : Nat} {r0 : Term} {x1 x2 x3 x4 : Int} {q2 : Nat} {f3 : List Term} {v5 : Term} (g4 : s_get h q2 = some (1, 11, f3)) (k : wm P d 463 [v5] h (wq P d sw_c482 sw_h482 85 [.index q2, vi x1, vi x2, vi x3, vi x4] [] kc ks Q)) (e_q2 : r0 = .index q2 := by first | rfl | assumption) (y1 : s_ty r0 = 3 := by first | rfl | assumption) (n6 : s_nth f3 20 = some v5 := by first | rfl | assumption)  : wr P d sw_c482 sw_h482 (78, [r0, vi x1, vi x2, vi x3, vi x4], [], h, kc, ks) Q := by
  refine w_ld rfl rfl (Or.inr (Or.inr ⟨by decide, y1⟩)) ?_
  subst e_q2
  refine w_getf rfl g4 n6 ?_
  exact w_cs rfl [v5] [] rfl rfl (s_wt_4 rfl) k

theorem k482_85 {P : s_P} {d : Nat} {Q : s_O → Prop} {h : s_H} {kc ks : Nat} {r0 : Term} {x1 x2 x3 x4 s0 : Int}  (k1 : 1 ≤ s0 → wr P d sw_c482 sw_h482 (93, [r0, vi x1, vi x2, vi x3, vi x4], [], h, kc, ks) Q) (k2 : ¬ 1 ≤ s0 → wr P d sw_c482 sw_h482 (89, [r0, vi x1, vi x2, vi x3, vi x4], [], h, kc, ks) Q)  (c1 : In3 s0 := by first | omega | assumption | (simp only [mk_len, List.length_map]; omega) | decide) : wr P d sw_c482 sw_h482 (85, [r0, vi x1, vi x2, vi x3, vi x4], [vi s0], h, kc, ks) Q := by
  refine w_c32 rfl (by decide) 1 (by decide) ?_
  exact w_if2 rfl c1 (by decide) k1 k2

theorem k482_89 {P : s_P} {d : Nat} {Q : s_O → Prop} {h : s_H} {kc ks : Nat} {r0 : Term} {x1 x2 x3 x4 : Int}  (k : wr P d sw_c482 sw_h482 (94, [r0, vi x1, vi x2, vi x3, vi x4], [vi 1], h, kc, ks) Q)   : wr P d sw_c482 sw_h482 (89, [r0, vi x1, vi x2, vi x3, vi x4], [], h, kc, ks) Q := by
  refine w_c32 rfl (by decide) 1 (by decide) ?_
  refine w_goto rfl ?_
  exact k

theorem k482_93 {P : s_P} {d : Nat} {Q : s_O → Prop} {h : s_H} {kc ks : Nat} {r0 : Term} {x1 x2 x3 x4 : Int}  (k : wr P d sw_c482 sw_h482 (94, [r0, vi x1, vi x2, vi x3, vi x4], [vi 0], h, kc, ks) Q)   : wr P d sw_c482 sw_h482 (93, [r0, vi x1, vi x2, vi x3, vi x4], [], h, kc, ks) Q := by
  refine w_c32 rfl (by decide) 0 (by decide) ?_
  exact k

theorem k482_94 {P : s_P} {d : Nat} {Q : s_O → Prop} {h : s_H} {kc ks : Nat} {r0 : Term} {x1 x2 x3 x4 s0 : Int}  (k : wr P d sw_c482 sw_h482 (35, [r0, vi x1, vi s0, vi x3, vi (x4 + 1)], [], h, kc, ks) Q)   : wr P d sw_c482 sw_h482 (94, [r0, vi x1, vi x2, vi x3, vi x4], [vi s0], h, kc, ks) Q := by
  refine w_st (ls' := [r0, vi x1, vi s0, vi x3, vi x4]) rfl (Or.inl ⟨by decide, rfl⟩) rfl ?_
  refine w_iinc (ls' := [r0, vi x1, vi s0, vi x3, vi (x4 + 1)]) rfl rfl 1 (by decide) rfl ?_
  refine w_goto rfl ?_
  exact k

theorem k482_101 {P : s_P} {d : Nat} {Q : s_O → Prop} {h : s_H} {kc ks : Nat} {r0 : Term} {x1 x2 x3 x4 : Int}  (k : wr P d sw_c482 sw_h482 (23, [r0, vi x1, vi x2, vi (x3 + 1), vi x4], [], h, kc, ks) Q)   : wr P d sw_c482 sw_h482 (101, [r0, vi x1, vi x2, vi x3, vi x4], [], h, kc, ks) Q := by
  refine w_iinc (ls' := [r0, vi x1, vi x2, vi (x3 + 1), vi x4]) rfl rfl 1 (by decide) rfl ?_
  refine w_goto rfl ?_
  exact k

theorem k482_107 {P : s_P} {d : Nat} {Q : s_O → Prop} {h : s_H} {kc ks : Nat} {r0 : Term} {x1 x2 x3 : Int} {t4 : Term}  (k : Q (.inl (some (vi x2)), h, kc, ks))  (c1 : x2 = 0 ∨ x2 = 1 := by first | omega | assumption | (simp only [mk_len, List.length_map]; omega) | decide) : wr P d sw_c482 sw_h482 (107, [r0, vi x1, vi x2, vi x3, t4], [], h, kc, ks) Q := by
  refine w_ld rfl rfl (Or.inl ⟨by decide, rfl⟩) ?_
  exact w_zret rfl c1 k

/-! 483: FormulaWorksModel.isOne([J)Z -/
theorem k483_0 {P : s_P} {d : Nat} {Q : s_O → Prop} {h : s_H} {kc ks : Nat} {r0 : Term}  (k : wm P d 463 [r0] h (wq P d sw_c483 sw_h483 4 [r0] [] kc ks Q)) (y1 : s_ty r0 = 3 := by first | rfl | assumption)  : wr P d sw_c483 sw_h483 (0, [r0], [], h, kc, ks) Q := by
  refine w_ld rfl rfl (Or.inr (Or.inr ⟨by decide, y1⟩)) ?_
  exact w_cs rfl [r0] [] rfl rfl (s_wt_4 rfl) k

theorem k483_4 {P : s_P} {d : Nat} {Q : s_O → Prop} {h : s_H} {kc ks : Nat} {r0 : Term} {s0 : Int}  (k1 : s0 ≠ 0 → wr P d sw_c483 sw_h483 (19, [r0], [], h, kc, ks) Q) (k2 : ¬ s0 ≠ 0 → wr P d sw_c483 sw_h483 (7, [r0], [], h, kc, ks) Q)  (c1 : In3 s0 := by first | omega | assumption | (simp only [mk_len, List.length_map]; omega) | decide) : wr P d sw_c483 sw_h483 (4, [r0], [vi s0], h, kc, ks) Q := by
  exact w_if1 rfl c1 k1 k2

theorem k483_7 {P : s_P} {d : Nat} {Q : s_O → Prop} {h : s_H} {kc ks : Nat} {r0 : Term} {q2 : Nat} {a3 : List Int} (g4 : s_get h q2 = some (0, 1, a3.map vl)) (k1 : gi a3 0 ≠ 1 → wr P d sw_c483 sw_h483 (19, [.index q2], [], h, kc, ks) Q) (k2 : ¬ gi a3 0 ≠ 1 → wr P d sw_c483 sw_h483 (15, [.index q2], [], h, kc, ks) Q) (e_q2 : r0 = .index q2 := by first | rfl | assumption) (y1 : s_ty r0 = 3 := by first | rfl | assumption) (c5 : (0 : Int) < a3.length := by first | omega | assumption | (simp only [mk_len, List.length_map]; omega) | decide) (c6 : In6 (gi a3 0) := by first | omega | assumption | (simp only [mk_len, List.length_map]; omega) | decide) : wr P d sw_c483 sw_h483 (7, [r0], [], h, kc, ks) Q := by
  refine w_ld rfl rfl (Or.inr (Or.inr ⟨by decide, y1⟩)) ?_
  refine w_c32 rfl (by decide) 0 (by decide) ?_
  subst e_q2
  refine w_lald rfl g4 (by decide) (by decide) c5 ?_
  refine w_c64 rfl (by decide) 1 (by decide) ?_
  exact w_lcmp rfl rfl c6 (by decide) k1 k2

theorem k483_15 {P : s_P} {d : Nat} {Q : s_O → Prop} {h : s_H} {kc ks : Nat} {r0 : Term}  (k : wr P d sw_c483 sw_h483 (20, [r0], [vi 1], h, kc, ks) Q)   : wr P d sw_c483 sw_h483 (15, [r0], [], h, kc, ks) Q := by
  refine w_c32 rfl (by decide) 1 (by decide) ?_
  refine w_goto rfl ?_
  exact k

theorem k483_19 {P : s_P} {d : Nat} {Q : s_O → Prop} {h : s_H} {kc ks : Nat} {r0 : Term}  (k : wr P d sw_c483 sw_h483 (20, [r0], [vi 0], h, kc, ks) Q)   : wr P d sw_c483 sw_h483 (19, [r0], [], h, kc, ks) Q := by
  refine w_c32 rfl (by decide) 0 (by decide) ?_
  exact k

theorem k483_20 {P : s_P} {d : Nat} {Q : s_O → Prop} {h : s_H} {kc ks : Nat} {r0 : Term} {s0 : Int}  (k : Q (.inl (some (vi s0)), h, kc, ks))  (c1 : s0 = 0 ∨ s0 = 1 := by first | omega | assumption | (simp only [mk_len, List.length_map]; omega) | decide) : wr P d sw_c483 sw_h483 (20, [r0], [vi s0], h, kc, ks) Q := by
  exact w_zret rfl c1 k

/-! 484: FormulaWorksModel.isPower(I)Z -/
theorem k484_0 {P : s_P} {d : Nat} {Q : s_O → Prop} {h : s_H} {kc ks : Nat} {r0 : Term} {x1 : Int} {t2 t3 : Term} {q2 : Nat} {f3 : List Term} {v5 : Term} (g4 : s_get h q2 = some (1, 11, f3)) (k : wm P d 463 [v5] h (wq P d sw_c484 sw_h484 7 [.index q2, vi x1, t2, t3] [] kc ks Q)) (e_q2 : r0 = .index q2 := by first | rfl | assumption) (y1 : s_ty r0 = 3 := by first | rfl | assumption) (n6 : s_nth f3 10 = some v5 := by first | rfl | assumption)  : wr P d sw_c484 sw_h484 (0, [r0, vi x1, t2, t3], [], h, kc, ks) Q := by
  refine w_ld rfl rfl (Or.inr (Or.inr ⟨by decide, y1⟩)) ?_
  subst e_q2
  refine w_getf rfl g4 n6 ?_
  exact w_cs rfl [v5] [] rfl rfl (s_wt_4 rfl) k

theorem k484_7 {P : s_P} {d : Nat} {Q : s_O → Prop} {h : s_H} {kc ks : Nat} {r0 : Term} {x1 : Int} {t2 t3 : Term} {s0 : Int} {q2 : Nat} {f3 : List Term} {v5 : Term} (g4 : s_get h q2 = some (1, 11, f3)) (k : wm P d 463 [v5] h (wq P d sw_c484 sw_h484 14 [.index q2, vi x1, t2, t3] [vi s0] kc ks Q)) (e_q2 : r0 = .index q2 := by first | rfl | assumption) (y1 : s_ty r0 = 3 := by first | rfl | assumption) (n6 : s_nth f3 11 = some v5 := by first | rfl | assumption)  : wr P d sw_c484 sw_h484 (7, [r0, vi x1, t2, t3], [vi s0], h, kc, ks) Q := by
  refine w_ld rfl rfl (Or.inr (Or.inr ⟨by decide, y1⟩)) ?_
  subst e_q2
  refine w_getf rfl g4 n6 ?_
  exact w_cs rfl [v5] [vi s0] rfl rfl (s_wt_4 rfl) k

theorem k484_14 {P : s_P} {d : Nat} {Q : s_O → Prop} {h : s_H} {kc ks : Nat} {r0 : Term} {x1 : Int} {t2 t3 : Term} {s0 s1 : Int}  (k : wm P d 526 [vi s0, vi s1] h (wq P d sw_c484 sw_h484 17 [r0, vi x1, t2, t3] [] kc ks Q))   : wr P d sw_c484 sw_h484 (14, [r0, vi x1, t2, t3], [vi s1, vi s0], h, kc, ks) Q := by
  exact w_cs rfl [vi s0, vi s1] [] rfl rfl (s_wt_4 rfl) k

theorem k484_17 {P : s_P} {d : Nat} {Q : s_O → Prop} {h : s_H} {kc ks : Nat} {r0 : Term} {x1 : Int} {t2 t3 : Term} {s0 : Int} {q2 : Nat} {f3 : List Term} {v5 : Term} (g4 : s_get h q2 = some (1, 11, f3)) (k : wm P d 405 [v5, vl 1] h (wq P d sw_c484 sw_h484 26 [.index q2, vi x1, vi s0, t3] [] kc ks Q)) (e_q2 : r0 = .index q2 := by first | rfl | assumption) (y1 : s_ty r0 = 3 := by first | rfl | assumption) (n6 : s_nth f3 14 = some v5 := by first | rfl | assumption)  : wr P d sw_c484 sw_h484 (17, [r0, vi x1, t2, t3], [vi s0], h, kc, ks) Q := by
  refine w_st (ls' := [r0, vi x1, vi s0, t3]) rfl (Or.inl ⟨by decide, rfl⟩) rfl ?_
  refine w_ld rfl rfl (Or.inr (Or.inr ⟨by decide, y1⟩)) ?_
  subst e_q2
  refine w_getf rfl g4 n6 ?_
  refine w_c64 rfl (by decide) 1 (by decide) ?_
  exact w_cs rfl [v5, vl 1] [] rfl rfl (s_wt_4 rfl) k

theorem k484_26 {P : s_P} {d : Nat} {Q : s_O → Prop} {h : s_H} {kc ks : Nat} {r0 : Term} {x1 x2 : Int} {t3 : Term} {q2 : Nat} {f3 : List Term} {v5 : Term} (g4 : s_get h q2 = some (1, 11, f3)) (k : wm P d 405 [v5, vl 1] h (wq P d sw_c484 sw_h484 34 [.index q2, vi x1, vi x2, t3] [] kc ks Q)) (e_q2 : r0 = .index q2 := by first | rfl | assumption) (y1 : s_ty r0 = 3 := by first | rfl | assumption) (n6 : s_nth f3 15 = some v5 := by first | rfl | assumption)  : wr P d sw_c484 sw_h484 (26, [r0, vi x1, vi x2, t3], [], h, kc, ks) Q := by
  refine w_ld rfl rfl (Or.inr (Or.inr ⟨by decide, y1⟩)) ?_
  subst e_q2
  refine w_getf rfl g4 n6 ?_
  refine w_c64 rfl (by decide) 1 (by decide) ?_
  exact w_cs rfl [v5, vl 1] [] rfl rfl (s_wt_4 rfl) k

theorem k484_34 {P : s_P} {d : Nat} {Q : s_O → Prop} {h : s_H} {kc ks : Nat} {r0 : Term} {x1 x2 : Int} {t3 : Term}  (k1 : x1 ≤ 0 → wr P d sw_c484 sw_h484 (48, [r0, vi x1, vi x2, t3], [], h, kc, ks) Q) (k2 : ¬ x1 ≤ 0 → wr P d sw_c484 sw_h484 (38, [r0, vi x1, vi x2, t3], [], h, kc, ks) Q)  (c1 : In3 x1 := by first | omega | assumption | (simp only [mk_len, List.length_map]; omega) | decide) : wr P d sw_c484 sw_h484 (34, [r0, vi x1, vi x2, t3], [], h, kc, ks) Q := by
  refine w_ld rfl rfl (Or.inl ⟨by decide, rfl⟩) ?_
  exact w_if1 rfl c1 k1 k2

theorem k484_38 {P : s_P} {d : Nat} {Q : s_O → Prop} {h : s_H} {kc ks : Nat} {r0 : Term} {x1 x2 : Int} {t3 : Term}  (k1 : x2 * x1 ≤ 40 → wr P d sw_c484 sw_h484 (48, [r0, vi x1, vi x2, t3], [], h, kc, ks) Q) (k2 : ¬ x2 * x1 ≤ 40 → wr P d sw_c484 sw_h484 (46, [r0, vi x1, vi x2, t3], [], h, kc, ks) Q)  (c1 : In3 (x2 * x1) := by first | omega | assumption | (simp only [mk_len, List.length_map]; omega) | decide) : wr P d sw_c484 sw_h484 (38, [r0, vi x1, vi x2, t3], [], h, kc, ks) Q := by
  refine w_ld rfl rfl (Or.inl ⟨by decide, rfl⟩) ?_
  refine w_ld rfl rfl (Or.inl ⟨by decide, rfl⟩) ?_
  refine w_imul rfl ?_
  refine w_c32 rfl (by decide) 40 (by decide) ?_
  exact w_if2 rfl c1 (by decide) k1 k2

theorem k484_46 {P : s_P} {d : Nat} {Q : s_O → Prop} {h : s_H} {kc ks : Nat} {r0 : Term} {x1 x2 : Int} {t3 : Term}  (k : Q (.inl (some (vi 0)), h, kc, ks))   : wr P d sw_c484 sw_h484 (46, [r0, vi x1, vi x2, t3], [], h, kc, ks) Q := by
  refine w_c32 rfl (by decide) 0 (by decide) ?_
  exact w_zret rfl (by decide) k

theorem k484_48 {P : s_P} {d : Nat} {Q : s_O → Prop} {h : s_H} {kc ks : Nat} {r0 : Term} {x1 x2 : Int} {t3 : Term}  (k : wr P d sw_c484 sw_h484 (50, [r0, vi x1, vi x2, vi 0], [], h, kc, ks) Q)   : wr P d sw_c484 sw_h484 (48, [r0, vi x1, vi x2, t3], [], h, kc, ks) Q := by
  refine w_c32 rfl (by decide) 0 (by decide) ?_
  refine w_st (ls' := [r0, vi x1, vi x2, vi 0]) rfl (Or.inl ⟨by decide, rfl⟩) rfl ?_
  exact k

theorem k484_50 {P : s_P} {d : Nat} {Q : s_O → Prop} {h : s_H} {kc ks : Nat} {r0 : Term} {x1 x2 x3 : Int}  (k1 : x1 ≤ x3 → wr P d sw_c484 sw_h484 (85, [r0, vi x1, vi x2, vi x3], [], h, kc, ks) Q) (k2 : ¬ x1 ≤ x3 → wr P d sw_c484 sw_h484 (55, [r0, vi x1, vi x2, vi x3], [], h, kc, ks) Q)  (c1 : In3 x3 := by first | omega | assumption | (simp only [mk_len, List.length_map]; omega) | decide) (c2 : In3 x1 := by first | omega | assumption | (simp only [mk_len, List.length_map]; omega) | decide) : wr P d sw_c484 sw_h484 (50, [r0, vi x1, vi x2, vi x3], [], h, kc, ks) Q := by
  refine w_ld rfl rfl (Or.inl ⟨by decide, rfl⟩) ?_
  refine w_ld rfl rfl (Or.inl ⟨by decide, rfl⟩) ?_
  exact w_if2 rfl c1 c2 k1 k2

theorem k484_55 {P : s_P} {d : Nat} {Q : s_O → Prop} {h : s_H} {kc ks : Nat} {r0 : Term} {x1 x2 x3 : Int} {q2 : Nat} {f3 : List Term} {v5 v7 : Term} (g4 : s_get h q2 = some (1, 11, f3)) (k : wm P d 532 [.index q2, v5, v7] h (wq P d sw_c484 sw_h484 67 [.index q2, vi x1, vi x2, vi x3] [] kc ks Q)) (e_q2 : r0 = .index q2 := by first | rfl | assumption) (y1 : s_ty r0 = 3 := by first | rfl | assumption) (n6 : s_nth f3 14 = some v5 := by first | rfl | assumption) (n8 : s_nth f3 10 = some v7 := by first | rfl | assumption)  : wr P d sw_c484 sw_h484 (55, [r0, vi x1, vi x2, vi x3], [], h, kc, ks) Q := by
  refine w_ld rfl rfl (Or.inr (Or.inr ⟨by decide, y1⟩)) ?_
  refine w_ld rfl rfl (Or.inr (Or.inr ⟨by decide, y1⟩)) ?_
  subst e_q2
  refine w_getf rfl g4 n6 ?_
  refine w_ld rfl rfl (Or.inr (Or.inr ⟨by decide, rfl⟩)) ?_
  refine w_getf rfl g4 n8 ?_
  exact w_cv rfl [.index q2, v5, v7] [] rfl rfl (s_wt_4 rfl) rfl g4 k

theorem k484_67 {P : s_P} {d : Nat} {Q : s_O → Prop} {h : s_H} {kc ks : Nat} {r0 : Term} {x1 x2 x3 : Int} {q2 : Nat} {f3 : List Term} {v5 v7 : Term} (g4 : s_get h q2 = some (1, 11, f3)) (k : wm P d 532 [.index q2, v5, v7] h (wq P d sw_c484 sw_h484 79 [.index q2, vi x1, vi x2, vi x3] [] kc ks Q)) (e_q2 : r0 = .index q2 := by first | rfl | assumption) (y1 : s_ty r0 = 3 := by first | rfl | assumption) (n6 : s_nth f3 15 = some v5 := by first | rfl | assumption) (n8 : s_nth f3 11 = some v7 := by first | rfl | assumption)  : wr P d sw_c484 sw_h484 (67, [r0, vi x1, vi x2, vi x3], [], h, kc, ks) Q := by
  refine w_ld rfl rfl (Or.inr (Or.inr ⟨by decide, y1⟩)) ?_
  refine w_ld rfl rfl (Or.inr (Or.inr ⟨by decide, y1⟩)) ?_
  subst e_q2
  refine w_getf rfl g4 n6 ?_
  refine w_ld rfl rfl (Or.inr (Or.inr ⟨by decide, rfl⟩)) ?_
  refine w_getf rfl g4 n8 ?_
  exact w_cv rfl [.index q2, v5, v7] [] rfl rfl (s_wt_4 rfl) rfl g4 k

theorem k484_79 {P : s_P} {d : Nat} {Q : s_O → Prop} {h : s_H} {kc ks : Nat} {r0 : Term} {x1 x2 x3 : Int}  (k : wr P d sw_c484 sw_h484 (50, [r0, vi x1, vi x2, vi (x3 + 1)], [], h, kc, ks) Q)   : wr P d sw_c484 sw_h484 (79, [r0, vi x1, vi x2, vi x3], [], h, kc, ks) Q := by
  refine w_iinc (ls' := [r0, vi x1, vi x2, vi (x3 + 1)]) rfl rfl 1 (by decide) rfl ?_
  refine w_goto rfl ?_
  exact k

theorem k484_85 {P : s_P} {d : Nat} {Q : s_O → Prop} {h : s_H} {kc ks : Nat} {r0 : Term} {x1 x2 x3 : Int}  (k : Q (.inl (some (vi 1)), h, kc, ks))   : wr P d sw_c484 sw_h484 (85, [r0, vi x1, vi x2, vi x3], [], h, kc, ks) Q := by
  refine w_c32 rfl (by decide) 1 (by decide) ?_
  exact w_zret rfl (by decide) k

/-! 485: FormulaWorksModel.isPrinted(I)Z -/
theorem k485_0 {P : s_P} {d : Nat} {Q : s_O → Prop} {h : s_H} {kc ks : Nat} {r0 : Term} {x1 : Int} {q2 : Nat} {f3 : List Term} (g4 : s_get h q2 = some (1, 11, f3)) (k : wm P d 492 [.index q2, vi x1] h (wq P d sw_c485 sw_h485 6 [.index q2, vi x1] [.index q2] kc ks Q)) (e_q2 : r0 = .index q2 := by first | rfl | assumption) (y1 : s_ty r0 = 3 := by first | rfl | assumption)  : wr P d sw_c485 sw_h485 (0, [r0, vi x1], [], h, kc, ks) Q := by
  refine w_ld rfl rfl (Or.inr (Or.inr ⟨by decide, y1⟩)) ?_
  refine w_ld rfl rfl (Or.inr (Or.inr ⟨by decide, y1⟩)) ?_
  refine w_ld rfl rfl (Or.inl ⟨by decide, rfl⟩) ?_
  subst e_q2
  exact w_cv rfl [.index q2, vi x1] [.index q2] rfl rfl (s_wt_4 rfl) rfl g4 k

theorem k485_6 {P : s_P} {d : Nat} {Q : s_O → Prop} {h : s_H} {kc ks : Nat} {r0 : Term} {x1 : Int} {s0 : Term} {s1 : Int}  (k1 : s1 ≠ 0 → wr P d sw_c485 sw_h485 (13, [r0, vi x1], [s0], h, kc, ks) Q) (k2 : ¬ s1 ≠ 0 → wr P d sw_c485 sw_h485 (9, [r0, vi x1], [s0], h, kc, ks) Q)  (c1 : In3 s1 := by first | omega | assumption | (simp only [mk_len, List.length_map]; omega) | decide) : wr P d sw_c485 sw_h485 (6, [r0, vi x1], [vi s1, s0], h, kc, ks) Q := by
  exact w_if1 rfl c1 k1 k2

theorem k485_9 {P : s_P} {d : Nat} {Q : s_O → Prop} {h : s_H} {kc ks : Nat} {r0 : Term} {x1 : Int} {s0 : Term}  (k : wr P d sw_c485 sw_h485 (36, [r0, vi x1], [vi 1, s0], h, kc, ks) Q)   : wr P d sw_c485 sw_h485 (9, [r0, vi x1], [s0], h, kc, ks) Q := by
  refine w_c32 rfl (by decide) 1 (by decide) ?_
  refine w_goto rfl ?_
  exact k

theorem k485_13 {P : s_P} {d : Nat} {Q : s_O → Prop} {h : s_H} {kc ks : Nat} {r0 : Term} {x1 : Int} {s0 : Term} {q2 : Nat} {f3 : List Term} (g4 : s_get h q2 = some (1, 11, f3)) (k : wm P d 469 [.index q2, vi x1, vi 0] h (wq P d sw_c485 sw_h485 19 [.index q2, vi x1] [s0] kc ks Q)) (e_q2 : r0 = .index q2 := by first | rfl | assumption) (y1 : s_ty r0 = 3 := by first | rfl | assumption)  : wr P d sw_c485 sw_h485 (13, [r0, vi x1], [s0], h, kc, ks) Q := by
  refine w_ld rfl rfl (Or.inr (Or.inr ⟨by decide, y1⟩)) ?_
  refine w_ld rfl rfl (Or.inl ⟨by decide, rfl⟩) ?_
  refine w_c32 rfl (by decide) 0 (by decide) ?_
  subst e_q2
  exact w_cv rfl [.index q2, vi x1, vi 0] [s0] rfl rfl (s_wt_4 rfl) rfl g4 k

theorem k485_19 {P : s_P} {d : Nat} {Q : s_O → Prop} {h : s_H} {kc ks : Nat} {r0 : Term} {x1 : Int} {s0 : Term} {s1 : Int}  (k1 : s1 ≠ 0 → wr P d sw_c485 sw_h485 (31, [r0, vi x1], [s0], h, kc, ks) Q) (k2 : ¬ s1 ≠ 0 → wr P d sw_c485 sw_h485 (22, [r0, vi x1], [s0], h, kc, ks) Q)  (c1 : In3 s1 := by first | omega | assumption | (simp only [mk_len, List.length_map]; omega) | decide) : wr P d sw_c485 sw_h485 (19, [r0, vi x1], [vi s1, s0], h, kc, ks) Q := by
  exact w_if1 rfl c1 k1 k2

theorem k485_22 {P : s_P} {d : Nat} {Q : s_O → Prop} {h : s_H} {kc ks : Nat} {r0 : Term} {x1 : Int} {s0 : Term} {q2 : Nat} {f3 : List Term} (g4 : s_get h q2 = some (1, 11, f3)) (k : wm P d 469 [.index q2, vi x1, vi 3] h (wq P d sw_c485 sw_h485 28 [.index q2, vi x1] [s0] kc ks Q)) (e_q2 : r0 = .index q2 := by first | rfl | assumption) (y1 : s_ty r0 = 3 := by first | rfl | assumption)  : wr P d sw_c485 sw_h485 (22, [r0, vi x1], [s0], h, kc, ks) Q := by
  refine w_ld rfl rfl (Or.inr (Or.inr ⟨by decide, y1⟩)) ?_
  refine w_ld rfl rfl (Or.inl ⟨by decide, rfl⟩) ?_
  refine w_c32 rfl (by decide) 3 (by decide) ?_
  subst e_q2
  exact w_cv rfl [.index q2, vi x1, vi 3] [s0] rfl rfl (s_wt_4 rfl) rfl g4 k

theorem k485_28 {P : s_P} {d : Nat} {Q : s_O → Prop} {h : s_H} {kc ks : Nat} {r0 : Term} {x1 : Int} {s0 : Term} {s1 : Int}  (k1 : s1 = 0 → wr P d sw_c485 sw_h485 (35, [r0, vi x1], [s0], h, kc, ks) Q) (k2 : ¬ s1 = 0 → wr P d sw_c485 sw_h485 (31, [r0, vi x1], [s0], h, kc, ks) Q)  (c1 : In3 s1 := by first | omega | assumption | (simp only [mk_len, List.length_map]; omega) | decide) : wr P d sw_c485 sw_h485 (28, [r0, vi x1], [vi s1, s0], h, kc, ks) Q := by
  exact w_if1 rfl c1 k1 k2

theorem k485_31 {P : s_P} {d : Nat} {Q : s_O → Prop} {h : s_H} {kc ks : Nat} {r0 : Term} {x1 : Int} {s0 : Term}  (k : wr P d sw_c485 sw_h485 (36, [r0, vi x1], [vi 0, s0], h, kc, ks) Q)   : wr P d sw_c485 sw_h485 (31, [r0, vi x1], [s0], h, kc, ks) Q := by
  refine w_c32 rfl (by decide) 0 (by decide) ?_
  refine w_goto rfl ?_
  exact k

theorem k485_35 {P : s_P} {d : Nat} {Q : s_O → Prop} {h : s_H} {kc ks : Nat} {r0 : Term} {x1 : Int} {s0 : Term}  (k : wr P d sw_c485 sw_h485 (36, [r0, vi x1], [vi 2, s0], h, kc, ks) Q)   : wr P d sw_c485 sw_h485 (35, [r0, vi x1], [s0], h, kc, ks) Q := by
  refine w_c32 rfl (by decide) 2 (by decide) ?_
  exact k

theorem k485_36 {P : s_P} {d : Nat} {Q : s_O → Prop} {h : s_H} {kc ks : Nat} {r0 : Term} {x1 : Int} {s0 : Term} {s1 : Int} {q1 : Nat} {f2 : List Term} {q7 : Nat} {f8 : List Term} {z10 : Int} (g3 : s_get h q1 = some (1, 11, f2)) (g9 : s_get (hp h q1 (1, 11, f2.set 0 (vi s1))) q7 = some (1, 11, f8)) (k1 : z10 ≤ 0 → wr P d sw_c485 sw_h485 (48, [.index q7, vi x1], [], (hp h q1 (1, 11, f2.set 0 (vi s1))), kc, ks) Q) (k2 : ¬ z10 ≤ 0 → wr P d sw_c485 sw_h485 (46, [.index q7, vi x1], [], (hp h q1 (1, 11, f2.set 0 (vi s1))), kc, ks) Q) (e_q1 : s0 = .index q1 := by first | rfl | assumption) (e_q7 : r0 = .index q7 := by first | rfl | assumption) (l4 : 0 < f2.length := by first | exact Nat.le_of_ble_eq_true rfl | omega | assumption) (y6 : s_ty r0 = 3 := by first | rfl | assumption) (n11 : s_nth f8 0 = some (vi z10) := by first | rfl | assumption) (c5 : 0 < q1 := by first | omega | assumption | (simp only [mk_len, List.length_map]; omega) | decide) (c12 : In3 z10 := by first | omega | assumption | (simp only [mk_len, List.length_map]; omega) | decide) : wr P d sw_c485 sw_h485 (36, [r0, vi x1], [vi s1, s0], h, kc, ks) Q := by
  subst e_q1
  refine w_putf rfl g3 (Nat.ble_eq_true_of_le c5) rfl (Nat.ble_eq_true_of_le l4) ?_
  refine w_ld rfl rfl (Or.inr (Or.inr ⟨by decide, y6⟩)) ?_
  subst e_q7
  refine w_getf rfl g9 n11 ?_
  exact w_if1 rfl c12 k1 k2

theorem k485_46 {P : s_P} {d : Nat} {Q : s_O → Prop} {h : s_H} {kc ks : Nat} {r0 : Term} {x1 : Int}  (k : Q (.inl (some (vi 0)), h, kc, ks))   : wr P d sw_c485 sw_h485 (46, [r0, vi x1], [], h, kc, ks) Q := by
  refine w_c32 rfl (by decide) 0 (by decide) ?_
  exact w_zret rfl (by decide) k

theorem k485_48 {P : s_P} {d : Nat} {Q : s_O → Prop} {h : s_H} {kc ks : Nat} {r0 : Term} {x1 : Int} {q2 : Nat} {f3 : List Term} (g4 : s_get h q2 = some (1, 11, f3)) (k : wm P d 469 [.index q2, vi x1, vi 0] h (wq P d sw_c485 sw_h485 54 [.index q2, vi x1] [] kc ks Q)) (e_q2 : r0 = .index q2 := by first | rfl | assumption) (y1 : s_ty r0 = 3 := by first | rfl | assumption)  : wr P d sw_c485 sw_h485 (48, [r0, vi x1], [], h, kc, ks) Q := by
  refine w_ld rfl rfl (Or.inr (Or.inr ⟨by decide, y1⟩)) ?_
  refine w_ld rfl rfl (Or.inl ⟨by decide, rfl⟩) ?_
  refine w_c32 rfl (by decide) 0 (by decide) ?_
  subst e_q2
  exact w_cv rfl [.index q2, vi x1, vi 0] [] rfl rfl (s_wt_4 rfl) rfl g4 k

theorem k485_54 {P : s_P} {d : Nat} {Q : s_O → Prop} {h : s_H} {kc ks : Nat} {r0 : Term} {x1 s0 : Int}  (k1 : s0 = 0 → wr P d sw_c485 sw_h485 (77, [r0, vi x1], [], h, kc, ks) Q) (k2 : ¬ s0 = 0 → wr P d sw_c485 sw_h485 (57, [r0, vi x1], [], h, kc, ks) Q)  (c1 : In3 s0 := by first | omega | assumption | (simp only [mk_len, List.length_map]; omega) | decide) : wr P d sw_c485 sw_h485 (54, [r0, vi x1], [vi s0], h, kc, ks) Q := by
  exact w_if1 rfl c1 k1 k2

theorem k485_57 {P : s_P} {d : Nat} {Q : s_O → Prop} {h : s_H} {kc ks : Nat} {r0 : Term} {x1 : Int} {q2 : Nat} {f3 : List Term} {v5 v7 : Term} (g4 : s_get h q2 = some (1, 11, f3)) (k : wm P d 505 [.index q2, v5, v7, vi x1] h (wq P d sw_c485 sw_h485 70 [.index q2, vi x1] [] kc ks Q)) (e_q2 : r0 = .index q2 := by first | rfl | assumption) (y1 : s_ty r0 = 3 := by first | rfl | assumption) (n6 : s_nth f3 10 = some v5 := by first | rfl | assumption) (n8 : s_nth f3 11 = some v7 := by first | rfl | assumption)  : wr P d sw_c485 sw_h485 (57, [r0, vi x1], [], h, kc, ks) Q := by
  refine w_ld rfl rfl (Or.inr (Or.inr ⟨by decide, y1⟩)) ?_
  refine w_ld rfl rfl (Or.inr (Or.inr ⟨by decide, y1⟩)) ?_
  subst e_q2
  refine w_getf rfl g4 n6 ?_
  refine w_ld rfl rfl (Or.inr (Or.inr ⟨by decide, rfl⟩)) ?_
  refine w_getf rfl g4 n8 ?_
  refine w_ld rfl rfl (Or.inl ⟨by decide, rfl⟩) ?_
  exact w_cv rfl [.index q2, v5, v7, vi x1] [] rfl rfl (s_wt_4 rfl) rfl g4 k

theorem k485_70 {P : s_P} {d : Nat} {Q : s_O → Prop} {h : s_H} {kc ks : Nat} {r0 : Term} {x1 : Int} {q2 : Nat} {f3 : List Term} (g4 : s_get h q2 = some (1, 11, f3)) (k : wm P d 559 [.index q2] h (wq P d sw_c485 sw_h485 74 [.index q2, vi x1] [] kc ks Q)) (e_q2 : r0 = .index q2 := by first | rfl | assumption) (y1 : s_ty r0 = 3 := by first | rfl | assumption)  : wr P d sw_c485 sw_h485 (70, [r0, vi x1], [], h, kc, ks) Q := by
  refine w_ld rfl rfl (Or.inr (Or.inr ⟨by decide, y1⟩)) ?_
  subst e_q2
  exact w_cv rfl [.index q2] [] rfl rfl (s_wt_4 rfl) rfl g4 k

theorem k485_74 {P : s_P} {d : Nat} {Q : s_O → Prop} {h : s_H} {kc ks : Nat} {r0 : Term} {x1 : Int}  (k : wr P d sw_c485 sw_h485 (86, [r0, vi x1], [], h, kc, ks) Q)   : wr P d sw_c485 sw_h485 (74, [r0, vi x1], [], h, kc, ks) Q := by
  refine w_goto rfl ?_
  exact k

theorem k485_77 {P : s_P} {d : Nat} {Q : s_O → Prop} {h : s_H} {kc ks : Nat} {r0 : Term} {x1 : Int} {q2 : Nat} {f3 : List Term} (g4 : s_get h q2 = some (1, 11, f3)) (k : wm P d 512 [.index q2, vi x1] h (wq P d sw_c485 sw_h485 82 [.index q2, vi x1] [] kc ks Q)) (e_q2 : r0 = .index q2 := by first | rfl | assumption) (y1 : s_ty r0 = 3 := by first | rfl | assumption)  : wr P d sw_c485 sw_h485 (77, [r0, vi x1], [], h, kc, ks) Q := by
  refine w_ld rfl rfl (Or.inr (Or.inr ⟨by decide, y1⟩)) ?_
  refine w_ld rfl rfl (Or.inl ⟨by decide, rfl⟩) ?_
  subst e_q2
  exact w_cv rfl [.index q2, vi x1] [] rfl rfl (s_wt_4 rfl) rfl g4 k

theorem k485_82 {P : s_P} {d : Nat} {Q : s_O → Prop} {h : s_H} {kc ks : Nat} {r0 : Term} {x1 : Int} {q2 : Nat} {f3 : List Term} (g4 : s_get h q2 = some (1, 11, f3)) (k : wm P d 562 [.index q2] h (wq P d sw_c485 sw_h485 86 [.index q2, vi x1] [] kc ks Q)) (e_q2 : r0 = .index q2 := by first | rfl | assumption) (y1 : s_ty r0 = 3 := by first | rfl | assumption)  : wr P d sw_c485 sw_h485 (82, [r0, vi x1], [], h, kc, ks) Q := by
  refine w_ld rfl rfl (Or.inr (Or.inr ⟨by decide, y1⟩)) ?_
  subst e_q2
  exact w_cv rfl [.index q2] [] rfl rfl (s_wt_4 rfl) rfl g4 k

theorem k485_86 {P : s_P} {d : Nat} {Q : s_O → Prop} {h : s_H} {kc ks : Nat} {r0 : Term} {x1 : Int}  (k : Q (.inl (some (vi 1)), h, kc, ks))   : wr P d sw_c485 sw_h485 (86, [r0, vi x1], [], h, kc, ks) Q := by
  refine w_c32 rfl (by decide) 1 (by decide) ?_
  exact w_zret rfl (by decide) k

/-! 486: FormulaWorksModel.isRule(I)Z -/
theorem k486_0 {P : s_P} {d : Nat} {Q : s_O → Prop} {h : s_H} {kc ks : Nat} {r0 : Term} {x1 : Int} {q2 : Nat} {f3 : List Term} (g4 : s_get h q2 = some (1, 11, f3)) (k : wm P d 469 [.index q2, vi x1, vi 2] h (wq P d sw_c486 sw_h486 6 [.index q2, vi x1] [] kc ks Q)) (e_q2 : r0 = .index q2 := by first | rfl | assumption) (y1 : s_ty r0 = 3 := by first | rfl | assumption)  : wr P d sw_c486 sw_h486 (0, [r0, vi x1], [], h, kc, ks) Q := by
  refine w_ld rfl rfl (Or.inr (Or.inr ⟨by decide, y1⟩)) ?_
  refine w_ld rfl rfl (Or.inl ⟨by decide, rfl⟩) ?_
  refine w_c32 rfl (by decide) 2 (by decide) ?_
  subst e_q2
  exact w_cv rfl [.index q2, vi x1, vi 2] [] rfl rfl (s_wt_4 rfl) rfl g4 k

theorem k486_6 {P : s_P} {d : Nat} {Q : s_O → Prop} {h : s_H} {kc ks : Nat} {r0 : Term} {x1 s0 : Int}  (k1 : s0 = 0 → wr P d sw_c486 sw_h486 (19, [r0, vi x1], [], h, kc, ks) Q) (k2 : ¬ s0 = 0 → wr P d sw_c486 sw_h486 (9, [r0, vi x1], [], h, kc, ks) Q)  (c1 : In3 s0 := by first | omega | assumption | (simp only [mk_len, List.length_map]; omega) | decide) : wr P d sw_c486 sw_h486 (6, [r0, vi x1], [vi s0], h, kc, ks) Q := by
  exact w_if1 rfl c1 k1 k2

theorem k486_9 {P : s_P} {d : Nat} {Q : s_O → Prop} {h : s_H} {kc ks : Nat} {r0 : Term} {x1 : Int} {q2 : Nat} {f3 : List Term} {v5 : Term} {q7 : Nat} {a8 : List Int} (g4 : s_get h q2 = some (1, 11, f3)) (g9 : s_get h q7 = some (0, 0, a8.map vi)) (k1 : gi a8 x1 = 1 → wr P d sw_c486 sw_h486 (21, [.index q2, vi x1], [], h, kc, ks) Q) (k2 : ¬ gi a8 x1 = 1 → wr P d sw_c486 sw_h486 (19, [.index q2, vi x1], [], h, kc, ks) Q) (e_q2 : r0 = .index q2 := by first | rfl | assumption) (e_q7 : v5 = .index q7 := by first | rfl | assumption) (y1 : s_ty r0 = 3 := by first | rfl | assumption) (n6 : s_nth f3 5 = some v5 := by first | rfl | assumption) (c10 : x1 < a8.length := by first | omega | assumption | (simp only [mk_len, List.length_map]; omega) | decide) (c11 : 0 ≤ x1 := by first | omega | assumption | (simp only [mk_len, List.length_map]; omega) | decide) (c12 : In3 x1 := by first | omega | assumption | (simp only [mk_len, List.length_map]; omega) | decide) (c13 : In3 (gi a8 x1) := by first | omega | assumption | (simp only [mk_len, List.length_map]; omega) | decide) : wr P d sw_c486 sw_h486 (9, [r0, vi x1], [], h, kc, ks) Q := by
  refine w_ld rfl rfl (Or.inr (Or.inr ⟨by decide, y1⟩)) ?_
  subst e_q2
  refine w_getf rfl g4 n6 ?_
  refine w_ld rfl rfl (Or.inl ⟨by decide, rfl⟩) ?_
  subst e_q7
  refine w_iald rfl g9 (Or.inl rfl) c12 c11 c10 ?_
  refine w_c32 rfl (by decide) 1 (by decide) ?_
  exact w_if2 rfl c13 (by decide) k1 k2

theorem k486_19 {P : s_P} {d : Nat} {Q : s_O → Prop} {h : s_H} {kc ks : Nat} {r0 : Term} {x1 : Int}  (k : Q (.inl (some (vi 0)), h, kc, ks))   : wr P d sw_c486 sw_h486 (19, [r0, vi x1], [], h, kc, ks) Q := by
  refine w_c32 rfl (by decide) 0 (by decide) ?_
  exact w_zret rfl (by decide) k

theorem k486_21 {P : s_P} {d : Nat} {Q : s_O → Prop} {h : s_H} {kc ks : Nat} {r0 : Term} {x1 : Int} {q2 : Nat} {f3 : List Term} {v5 v7 : Term} {q9 : Nat} {a10 : List Int} (g4 : s_get h q2 = some (1, 11, f3)) (g11 : s_get h q9 = some (0, 0, a10.map vi)) (k : wm P d 508 [.index q2, v5, vi x1, vi 0, vi ((gi a10 x1) - 1)] h (wq P d sw_c486 sw_h486 39 [.index q2, vi x1] [] kc ks Q)) (e_q2 : r0 = .index q2 := by first | rfl | assumption) (e_q9 : v7 = .index q9 := by first | rfl | assumption) (y1 : s_ty r0 = 3 := by first | rfl | assumption) (n6 : s_nth f3 20 = some v5 := by first | rfl | assumption) (n8 : s_nth f3 6 = some v7 := by first | rfl | assumption) (c12 : x1 < a10.length := by first | omega | assumption | (simp only [mk_len, List.length_map]; omega) | decide) (c13 : 0 ≤ x1 := by first | omega | assumption | (simp only [mk_len, List.length_map]; omega) | decide) (c14 : In3 x1 := by first | omega | assumption | (simp only [mk_len, List.length_map]; omega) | decide) : wr P d sw_c486 sw_h486 (21, [r0, vi x1], [], h, kc, ks) Q := by
  refine w_ld rfl rfl (Or.inr (Or.inr ⟨by decide, y1⟩)) ?_
  refine w_ld rfl rfl (Or.inr (Or.inr ⟨by decide, y1⟩)) ?_
  subst e_q2
  refine w_getf rfl g4 n6 ?_
  refine w_ld rfl rfl (Or.inl ⟨by decide, rfl⟩) ?_
  refine w_c32 rfl (by decide) 0 (by decide) ?_
  refine w_ld rfl rfl (Or.inr (Or.inr ⟨by decide, rfl⟩)) ?_
  refine w_getf rfl g4 n8 ?_
  refine w_ld rfl rfl (Or.inl ⟨by decide, rfl⟩) ?_
  subst e_q9
  refine w_iald rfl g11 (Or.inl rfl) c14 c13 c12 ?_
  refine w_c32 rfl (by decide) 1 (by decide) ?_
  refine w_isub rfl ?_
  exact w_cv rfl [.index q2, v5, vi x1, vi 0, vi ((gi a10 x1) - 1)] [] rfl rfl (s_wt_4 rfl) rfl g4 k

theorem k486_39 {P : s_P} {d : Nat} {Q : s_O → Prop} {h : s_H} {kc ks : Nat} {r0 : Term} {x1 : Int} {q2 : Nat} {f3 : List Term} {v5 : Term} (g4 : s_get h q2 = some (1, 11, f3)) (k : wm P d 463 [v5] h (wq P d sw_c486 sw_h486 46 [.index q2, vi x1] [] kc ks Q)) (e_q2 : r0 = .index q2 := by first | rfl | assumption) (y1 : s_ty r0 = 3 := by first | rfl | assumption) (n6 : s_nth f3 20 = some v5 := by first | rfl | assumption)  : wr P d sw_c486 sw_h486 (39, [r0, vi x1], [], h, kc, ks) Q := by
  refine w_ld rfl rfl (Or.inr (Or.inr ⟨by decide, y1⟩)) ?_
  subst e_q2
  refine w_getf rfl g4 n6 ?_
  exact w_cs rfl [v5] [] rfl rfl (s_wt_4 rfl) k

theorem k486_46 {P : s_P} {d : Nat} {Q : s_O → Prop} {h : s_H} {kc ks : Nat} {r0 : Term} {x1 s0 : Int}  (k1 : s0 < 0 → wr P d sw_c486 sw_h486 (53, [r0, vi x1], [], h, kc, ks) Q) (k2 : ¬ s0 < 0 → wr P d sw_c486 sw_h486 (49, [r0, vi x1], [], h, kc, ks) Q)  (c1 : In3 s0 := by first | omega | assumption | (simp only [mk_len, List.length_map]; omega) | decide) : wr P d sw_c486 sw_h486 (46, [r0, vi x1], [vi s0], h, kc, ks) Q := by
  exact w_if1 rfl c1 k1 k2

theorem k486_49 {P : s_P} {d : Nat} {Q : s_O → Prop} {h : s_H} {kc ks : Nat} {r0 : Term} {x1 : Int}  (k : wr P d sw_c486 sw_h486 (54, [r0, vi x1], [vi 1], h, kc, ks) Q)   : wr P d sw_c486 sw_h486 (49, [r0, vi x1], [], h, kc, ks) Q := by
  refine w_c32 rfl (by decide) 1 (by decide) ?_
  refine w_goto rfl ?_
  exact k

theorem k486_53 {P : s_P} {d : Nat} {Q : s_O → Prop} {h : s_H} {kc ks : Nat} {r0 : Term} {x1 : Int}  (k : wr P d sw_c486 sw_h486 (54, [r0, vi x1], [vi 0], h, kc, ks) Q)   : wr P d sw_c486 sw_h486 (53, [r0, vi x1], [], h, kc, ks) Q := by
  refine w_c32 rfl (by decide) 0 (by decide) ?_
  exact k

theorem k486_54 {P : s_P} {d : Nat} {Q : s_O → Prop} {h : s_H} {kc ks : Nat} {r0 : Term} {x1 s0 : Int}  (k : Q (.inl (some (vi s0)), h, kc, ks))  (c1 : s0 = 0 ∨ s0 = 1 := by first | omega | assumption | (simp only [mk_len, List.length_map]; omega) | decide) : wr P d sw_c486 sw_h486 (54, [r0, vi x1], [vi s0], h, kc, ks) Q := by
  exact w_zret rfl c1 k

/-! 487: FormulaWorksModel.isRuleFor(II)Z -/
theorem k487_0 {P : s_P} {d : Nat} {Q : s_O → Prop} {h : s_H} {kc ks : Nat} {r0 : Term} {x1 x2 : Int} {q2 : Nat} {f3 : List Term} (g4 : s_get h q2 = some (1, 11, f3)) (k : wm P d 492 [.index q2, vi x1] h (wq P d sw_c487 sw_h487 6 [.index q2, vi x1, vi x2] [.index q2] kc ks Q)) (e_q2 : r0 = .index q2 := by first | rfl | assumption) (y1 : s_ty r0 = 3 := by first | rfl | assumption)  : wr P d sw_c487 sw_h487 (0, [r0, vi x1, vi x2], [], h, kc, ks) Q := by
  refine w_ld rfl rfl (Or.inr (Or.inr ⟨by decide, y1⟩)) ?_
  refine w_ld rfl rfl (Or.inr (Or.inr ⟨by decide, y1⟩)) ?_
  refine w_ld rfl rfl (Or.inl ⟨by decide, rfl⟩) ?_
  subst e_q2
  exact w_cv rfl [.index q2, vi x1] [.index q2] rfl rfl (s_wt_4 rfl) rfl g4 k

theorem k487_6 {P : s_P} {d : Nat} {Q : s_O → Prop} {h : s_H} {kc ks : Nat} {r0 : Term} {x1 x2 : Int} {s0 : Term} {s1 : Int}  (k1 : s1 ≠ 0 → wr P d sw_c487 sw_h487 (13, [r0, vi x1, vi x2], [s0], h, kc, ks) Q) (k2 : ¬ s1 ≠ 0 → wr P d sw_c487 sw_h487 (9, [r0, vi x1, vi x2], [s0], h, kc, ks) Q)  (c1 : In3 s1 := by first | omega | assumption | (simp only [mk_len, List.length_map]; omega) | decide) : wr P d sw_c487 sw_h487 (6, [r0, vi x1, vi x2], [vi s1, s0], h, kc, ks) Q := by
  exact w_if1 rfl c1 k1 k2

theorem k487_9 {P : s_P} {d : Nat} {Q : s_O → Prop} {h : s_H} {kc ks : Nat} {r0 : Term} {x1 x2 : Int} {s0 : Term}  (k : wr P d sw_c487 sw_h487 (36, [r0, vi x1, vi x2], [vi 1, s0], h, kc, ks) Q)   : wr P d sw_c487 sw_h487 (9, [r0, vi x1, vi x2], [s0], h, kc, ks) Q := by
  refine w_c32 rfl (by decide) 1 (by decide) ?_
  refine w_goto rfl ?_
  exact k

theorem k487_13 {P : s_P} {d : Nat} {Q : s_O → Prop} {h : s_H} {kc ks : Nat} {r0 : Term} {x1 x2 : Int} {s0 : Term} {q2 : Nat} {f3 : List Term} (g4 : s_get h q2 = some (1, 11, f3)) (k : wm P d 486 [.index q2, vi x1] h (wq P d sw_c487 sw_h487 18 [.index q2, vi x1, vi x2] [s0] kc ks Q)) (e_q2 : r0 = .index q2 := by first | rfl | assumption) (y1 : s_ty r0 = 3 := by first | rfl | assumption)  : wr P d sw_c487 sw_h487 (13, [r0, vi x1, vi x2], [s0], h, kc, ks) Q := by
  refine w_ld rfl rfl (Or.inr (Or.inr ⟨by decide, y1⟩)) ?_
  refine w_ld rfl rfl (Or.inl ⟨by decide, rfl⟩) ?_
  subst e_q2
  exact w_cv rfl [.index q2, vi x1] [s0] rfl rfl (s_wt_4 rfl) rfl g4 k

theorem k487_18 {P : s_P} {d : Nat} {Q : s_O → Prop} {h : s_H} {kc ks : Nat} {r0 : Term} {x1 x2 : Int} {s0 : Term} {s1 : Int}  (k1 : s1 = 0 → wr P d sw_c487 sw_h487 (31, [r0, vi x1, vi x2], [s0], h, kc, ks) Q) (k2 : ¬ s1 = 0 → wr P d sw_c487 sw_h487 (21, [r0, vi x1, vi x2], [s0], h, kc, ks) Q)  (c1 : In3 s1 := by first | omega | assumption | (simp only [mk_len, List.length_map]; omega) | decide) : wr P d sw_c487 sw_h487 (18, [r0, vi x1, vi x2], [vi s1, s0], h, kc, ks) Q := by
  exact w_if1 rfl c1 k1 k2

theorem k487_21 {P : s_P} {d : Nat} {Q : s_O → Prop} {h : s_H} {kc ks : Nat} {r0 : Term} {x1 x2 : Int} {s0 : Term}  (k : wm P d 464 [vl x2, vl 0, vl 1] h (wq P d sw_c487 sw_h487 28 [r0, vi x1, vi x2] [s0] kc ks Q))  (c1 : In3 x2 := by first | omega | assumption | (simp only [mk_len, List.length_map]; omega) | decide) : wr P d sw_c487 sw_h487 (21, [r0, vi x1, vi x2], [s0], h, kc, ks) Q := by
  refine w_ld rfl rfl (Or.inl ⟨by decide, rfl⟩) ?_
  refine w_i2l rfl c1 ?_
  refine w_c64 rfl (by decide) 0 (by decide) ?_
  refine w_c64 rfl (by decide) 1 (by decide) ?_
  exact w_cs rfl [vl x2, vl 0, vl 1] [s0] rfl rfl (s_wt_4 rfl) k

theorem k487_28 {P : s_P} {d : Nat} {Q : s_O → Prop} {h : s_H} {kc ks : Nat} {r0 : Term} {x1 x2 : Int} {s0 : Term} {s1 : Int}  (k1 : s1 ≠ 0 → wr P d sw_c487 sw_h487 (35, [r0, vi x1, vi x2], [s0], h, kc, ks) Q) (k2 : ¬ s1 ≠ 0 → wr P d sw_c487 sw_h487 (31, [r0, vi x1, vi x2], [s0], h, kc, ks) Q)  (c1 : In3 s1 := by first | omega | assumption | (simp only [mk_len, List.length_map]; omega) | decide) : wr P d sw_c487 sw_h487 (28, [r0, vi x1, vi x2], [vi s1, s0], h, kc, ks) Q := by
  exact w_if1 rfl c1 k1 k2

theorem k487_31 {P : s_P} {d : Nat} {Q : s_O → Prop} {h : s_H} {kc ks : Nat} {r0 : Term} {x1 x2 : Int} {s0 : Term}  (k : wr P d sw_c487 sw_h487 (36, [r0, vi x1, vi x2], [vi 2, s0], h, kc, ks) Q)   : wr P d sw_c487 sw_h487 (31, [r0, vi x1, vi x2], [s0], h, kc, ks) Q := by
  refine w_c32 rfl (by decide) 2 (by decide) ?_
  refine w_goto rfl ?_
  exact k

theorem k487_35 {P : s_P} {d : Nat} {Q : s_O → Prop} {h : s_H} {kc ks : Nat} {r0 : Term} {x1 x2 : Int} {s0 : Term}  (k : wr P d sw_c487 sw_h487 (36, [r0, vi x1, vi x2], [vi 0, s0], h, kc, ks) Q)   : wr P d sw_c487 sw_h487 (35, [r0, vi x1, vi x2], [s0], h, kc, ks) Q := by
  refine w_c32 rfl (by decide) 0 (by decide) ?_
  exact k

theorem k487_36 {P : s_P} {d : Nat} {Q : s_O → Prop} {h : s_H} {kc ks : Nat} {r0 : Term} {x1 x2 : Int} {s0 : Term} {s1 : Int} {q1 : Nat} {f2 : List Term} {q7 : Nat} {f8 : List Term} {z10 : Int} (g3 : s_get h q1 = some (1, 11, f2)) (g9 : s_get (hp h q1 (1, 11, f2.set 0 (vi s1))) q7 = some (1, 11, f8)) (k1 : z10 ≠ 0 → wr P d sw_c487 sw_h487 (50, [.index q7, vi x1, vi x2], [], (hp h q1 (1, 11, f2.set 0 (vi s1))), kc, ks) Q) (k2 : ¬ z10 ≠ 0 → wr P d sw_c487 sw_h487 (46, [.index q7, vi x1, vi x2], [], (hp h q1 (1, 11, f2.set 0 (vi s1))), kc, ks) Q) (e_q1 : s0 = .index q1 := by first | rfl | assumption) (e_q7 : r0 = .index q7 := by first | rfl | assumption) (l4 : 0 < f2.length := by first | exact Nat.le_of_ble_eq_true rfl | omega | assumption) (y6 : s_ty r0 = 3 := by first | rfl | assumption) (n11 : s_nth f8 0 = some (vi z10) := by first | rfl | assumption) (c5 : 0 < q1 := by first | omega | assumption | (simp only [mk_len, List.length_map]; omega) | decide) (c12 : In3 z10 := by first | omega | assumption | (simp only [mk_len, List.length_map]; omega) | decide) : wr P d sw_c487 sw_h487 (36, [r0, vi x1, vi x2], [vi s1, s0], h, kc, ks) Q := by
  subst e_q1
  refine w_putf rfl g3 (Nat.ble_eq_true_of_le c5) rfl (Nat.ble_eq_true_of_le l4) ?_
  refine w_ld rfl rfl (Or.inr (Or.inr ⟨by decide, y6⟩)) ?_
  subst e_q7
  refine w_getf rfl g9 n11 ?_
  exact w_if1 rfl c12 k1 k2

theorem k487_46 {P : s_P} {d : Nat} {Q : s_O → Prop} {h : s_H} {kc ks : Nat} {r0 : Term} {x1 x2 : Int}  (k : wr P d sw_c487 sw_h487 (51, [r0, vi x1, vi x2], [vi 1], h, kc, ks) Q)   : wr P d sw_c487 sw_h487 (46, [r0, vi x1, vi x2], [], h, kc, ks) Q := by
  refine w_c32 rfl (by decide) 1 (by decide) ?_
  refine w_goto rfl ?_
  exact k

theorem k487_50 {P : s_P} {d : Nat} {Q : s_O → Prop} {h : s_H} {kc ks : Nat} {r0 : Term} {x1 x2 : Int}  (k : wr P d sw_c487 sw_h487 (51, [r0, vi x1, vi x2], [vi 0], h, kc, ks) Q)   : wr P d sw_c487 sw_h487 (50, [r0, vi x1, vi x2], [], h, kc, ks) Q := by
  refine w_c32 rfl (by decide) 0 (by decide) ?_
  exact k

theorem k487_51 {P : s_P} {d : Nat} {Q : s_O → Prop} {h : s_H} {kc ks : Nat} {r0 : Term} {x1 x2 s0 : Int}  (k : Q (.inl (some (vi s0)), h, kc, ks))  (c1 : s0 = 0 ∨ s0 = 1 := by first | omega | assumption | (simp only [mk_len, List.length_map]; omega) | decide) : wr P d sw_c487 sw_h487 (51, [r0, vi x1, vi x2], [vi s0], h, kc, ks) Q := by
  exact w_zret rfl c1 k

/-! 488: FormulaWorksModel.isSimpler()Z -/
theorem k488_0 {P : s_P} {d : Nat} {Q : s_O → Prop} {h : s_H} {kc ks : Nat} {r0 t1 t2 t3 : Term} {q2 : Nat} {f3 : List Term} {z5 : Int} (g4 : s_get h q2 = some (1, 11, f3)) (k : wr P d sw_c488 sw_h488 (7, [.index q2, vi (z5 - 1), t2, t3], [], h, kc, ks) Q) (e_q2 : r0 = .index q2 := by first | rfl | assumption) (y1 : s_ty r0 = 3 := by first | rfl | assumption) (n6 : s_nth f3 82 = some (vi z5) := by first | rfl | assumption)  : wr P d sw_c488 sw_h488 (0, [r0, t1, t2, t3], [], h, kc, ks) Q := by
  refine w_ld rfl rfl (Or.inr (Or.inr ⟨by decide, y1⟩)) ?_
  subst e_q2
  refine w_getf rfl g4 n6 ?_
  refine w_c32 rfl (by decide) 1 (by decide) ?_
  refine w_isub rfl ?_
  refine w_st (ls' := [.index q2, vi (z5 - 1), t2, t3]) rfl (Or.inl ⟨by decide, rfl⟩) rfl ?_
  exact k

theorem k488_7 {P : s_P} {d : Nat} {Q : s_O → Prop} {h : s_H} {kc ks : Nat} {r0 : Term} {x1 : Int} {t2 t3 : Term}  (k1 : x1 < 0 → wr P d sw_c488 sw_h488 (130, [r0, vi x1, t2, t3], [], h, kc, ks) Q) (k2 : ¬ x1 < 0 → wr P d sw_c488 sw_h488 (11, [r0, vi x1, t2, t3], [], h, kc, ks) Q)  (c1 : In3 x1 := by first | omega | assumption | (simp only [mk_len, List.length_map]; omega) | decide) : wr P d sw_c488 sw_h488 (7, [r0, vi x1, t2, t3], [], h, kc, ks) Q := by
  refine w_ld rfl rfl (Or.inl ⟨by decide, rfl⟩) ?_
  exact w_if1 rfl c1 k1 k2

theorem k488_11 {P : s_P} {d : Nat} {Q : s_O → Prop} {h : s_H} {kc ks : Nat} {r0 : Term} {x1 : Int} {t2 t3 : Term}  (k : wr P d sw_c488 sw_h488 (14, [r0, vi x1, vi 7, t3], [], h, kc, ks) Q)   : wr P d sw_c488 sw_h488 (11, [r0, vi x1, t2, t3], [], h, kc, ks) Q := by
  refine w_c32 rfl (by decide) 7 (by decide) ?_
  refine w_st (ls' := [r0, vi x1, vi 7, t3]) rfl (Or.inl ⟨by decide, rfl⟩) rfl ?_
  exact k

theorem k488_14 {P : s_P} {d : Nat} {Q : s_O → Prop} {h : s_H} {kc ks : Nat} {r0 : Term} {x1 x2 : Int} {t3 : Term}  (k1 : 11 ≤ x2 → wr P d sw_c488 sw_h488 (124, [r0, vi x1, vi x2, t3], [], h, kc, ks) Q) (k2 : ¬ 11 ≤ x2 → wr P d sw_c488 sw_h488 (20, [r0, vi x1, vi x2, t3], [], h, kc, ks) Q)  (c1 : In3 x2 := by first | omega | assumption | (simp only [mk_len, List.length_map]; omega) | decide) : wr P d sw_c488 sw_h488 (14, [r0, vi x1, vi x2, t3], [], h, kc, ks) Q := by
  refine w_ld rfl rfl (Or.inl ⟨by decide, rfl⟩) ?_
  refine w_c32 rfl (by decide) 11 (by decide) ?_
  exact w_if2 rfl c1 (by decide) k1 k2

theorem k488_20 {P : s_P} {d : Nat} {Q : s_O → Prop} {h : s_H} {kc ks : Nat} {r0 : Term} {x1 x2 : Int} {t3 : Term}  (k1 : x2 = 9 → wr P d sw_c488 sw_h488 (118, [r0, vi x1, vi x2, t3], [], h, kc, ks) Q) (k2 : ¬ x2 = 9 → wr P d sw_c488 sw_h488 (26, [r0, vi x1, vi x2, t3], [], h, kc, ks) Q)  (c1 : In3 x2 := by first | omega | assumption | (simp only [mk_len, List.length_map]; omega) | decide) : wr P d sw_c488 sw_h488 (20, [r0, vi x1, vi x2, t3], [], h, kc, ks) Q := by
  refine w_ld rfl rfl (Or.inl ⟨by decide, rfl⟩) ?_
  refine w_c32 rfl (by decide) 9 (by decide) ?_
  exact w_if2 rfl c1 (by decide) k1 k2

theorem k488_26 {P : s_P} {d : Nat} {Q : s_O → Prop} {h : s_H} {kc ks : Nat} {r0 : Term} {x1 x2 : Int} {t3 : Term} {q2 : Nat} {f3 : List Term} (g4 : s_get h q2 = some (1, 11, f3)) (k : wm P d 473 [.index q2, vi x1, vi x2] h (wq P d sw_c488 sw_h488 32 [.index q2, vi x1, vi x2, t3] [] kc ks Q)) (e_q2 : r0 = .index q2 := by first | rfl | assumption) (y1 : s_ty r0 = 3 := by first | rfl | assumption)  : wr P d sw_c488 sw_h488 (26, [r0, vi x1, vi x2, t3], [], h, kc, ks) Q := by
  refine w_ld rfl rfl (Or.inr (Or.inr ⟨by decide, y1⟩)) ?_
  refine w_ld rfl rfl (Or.inl ⟨by decide, rfl⟩) ?_
  refine w_ld rfl rfl (Or.inl ⟨by decide, rfl⟩) ?_
  subst e_q2
  exact w_cv rfl [.index q2, vi x1, vi x2] [] rfl rfl (s_wt_4 rfl) rfl g4 k

theorem k488_32 {P : s_P} {d : Nat} {Q : s_O → Prop} {h : s_H} {kc ks : Nat} {r0 : Term} {x1 x2 : Int} {t3 : Term} {s0 : Int}  (k1 : s0 ≠ 0 → wr P d sw_c488 sw_h488 (38, [r0, vi x1, vi x2, t3], [], h, kc, ks) Q) (k2 : ¬ s0 ≠ 0 → wr P d sw_c488 sw_h488 (35, [r0, vi x1, vi x2, t3], [], h, kc, ks) Q)  (c1 : In3 s0 := by first | omega | assumption | (simp only [mk_len, List.length_map]; omega) | decide) : wr P d sw_c488 sw_h488 (32, [r0, vi x1, vi x2, t3], [vi s0], h, kc, ks) Q := by
  exact w_if1 rfl c1 k1 k2

theorem k488_35 {P : s_P} {d : Nat} {Q : s_O → Prop} {h : s_H} {kc ks : Nat} {r0 : Term} {x1 x2 : Int} {t3 : Term}  (k : wr P d sw_c488 sw_h488 (118, [r0, vi x1, vi x2, t3], [], h, kc, ks) Q)   : wr P d sw_c488 sw_h488 (35, [r0, vi x1, vi x2, t3], [], h, kc, ks) Q := by
  refine w_goto rfl ?_
  exact k

theorem k488_38 {P : s_P} {d : Nat} {Q : s_O → Prop} {h : s_H} {kc ks : Nat} {r0 : Term} {x1 x2 : Int} {t3 : Term} {q2 : Nat} {f3 : List Term} {v5 : Term} {z7 : Int} {q9 : Nat} {a10 : List Int} {f16 : List Term} {v18 : Term} {z20 : Int} {q22 : Nat} {a23 : List Int} {f29 : List Term} {z31 : Int} {f35 : List Term} {z37 : Int} (g4 : s_get h q2 = some (1, 11, f3)) (g11 : s_get h q9 = some (0, 0, a10.map vi)) (g17 : s_get (hp h q9 (0, 0, (a10.set (Int.toNat (z7)) x1).map vi)) q2 = some (1, 11, f16)) (g24 : s_get (hp h q9 (0, 0, (a10.set (Int.toNat (z7)) x1).map vi)) q22 = some (0, 0, a23.map vi)) (g30 : s_get (hp (hp h q9 (0, 0, (a10.set (Int.toNat (z7)) x1).map vi)) q22 (0, 0, (a23.set (Int.toNat (z20)) x2).map vi)) q2 = some (1, 11, f29)) (g36 : s_get (hp (hp (hp h q9 (0, 0, (a10.set (Int.toNat (z7)) x1).map vi)) q22 (0, 0, (a23.set (Int.toNat (z20)) x2).map vi)) q2 (1, 11, f29.set 98 (vi (z31 + 1)))) q2 = some (1, 11, f35)) (k : wr P d sw_c488 sw_h488 (78, [.index q2, vi x1, vi x2, vi 0], [], (hp (hp (hp (hp h q9 (0, 0, (a10.set (Int.toNat (z7)) x1).map vi)) q22 (0, 0, (a23.set (Int.toNat (z20)) x2).map vi)) q2 (1, 11, f29.set 98 (vi (z31 + 1)))) q2 (1, 11, f35.set 82 (vi z37))), kc, ks) Q) (e_q2 : r0 = .index q2 := by first | rfl | assumption) (e_q9 : v5 = .index q9 := by first | rfl | assumption) (e_q22 : v18 = .index q22 := by first | rfl | assumption) (y1 : s_ty r0 = 3 := by first | rfl | assumption) (n6 : s_nth f3 99 = some v5 := by first | rfl | assumption) (n8 : s_nth f3 98 = some (vi z7) := by first | rfl | assumption) (n19 : s_nth f16 100 = some v18 := by first | rfl | assumption) (n21 : s_nth f16 98 = some (vi z20) := by first | rfl | assumption) (n32 : s_nth f29 98 = some (vi z31) := by first | rfl | assumption) (l33 : 98 < f29.length := by first | exact Nat.le_of_ble_eq_true rfl | omega | assumption) (n38 : s_nth f35 85 = some (vi z37) := by first | rfl | assumption) (l39 : 82 < f35.length := by first | exact Nat.le_of_ble_eq_true rfl | omega | assumption) (c12 : z7 < a10.length := by first | omega | assumption | (simp only [mk_len, List.length_map]; omega) | decide) (c13 : 0 ≤ z7 := by first | omega | assumption | (simp only [mk_len, List.length_map]; omega) | decide) (c14 : In3 z7 := by first | omega | assumption | (simp only [mk_len, List.length_map]; omega) | decide) (c15 : 0 < q9 := by first | omega | assumption | (simp only [mk_len, List.length_map]; omega) | decide) (c25 : z20 < a23.length := by first | omega | assumption | (simp only [mk_len, List.length_map]; omega) | decide) (c26 : 0 ≤ z20 := by first | omega | assumption | (simp only [mk_len, List.length_map]; omega) | decide) (c27 : In3 z20 := by first | omega | assumption | (simp only [mk_len, List.length_map]; omega) | decide) (c28 : 0 < q22 := by first | omega | assumption | (simp only [mk_len, List.length_map]; omega) | decide) (c34 : 0 < q2 := by first | omega | assumption | (simp only [mk_len, List.length_map]; omega) | decide) : wr P d sw_c488 sw_h488 (38, [r0, vi x1, vi x2, t3], [], h, kc, ks) Q := by
  refine w_ld rfl rfl (Or.inr (Or.inr ⟨by decide, y1⟩)) ?_
  subst e_q2
  refine w_getf rfl g4 n6 ?_
  refine w_ld rfl rfl (Or.inr (Or.inr ⟨by decide, rfl⟩)) ?_
  refine w_getf rfl g4 n8 ?_
  refine w_ld rfl rfl (Or.inl ⟨by decide, rfl⟩) ?_
  subst e_q9
  refine w_iast rfl g11 (Nat.ble_eq_true_of_le c15) c14 c13 c12 ?_
  refine w_ld rfl rfl (Or.inr (Or.inr ⟨by decide, rfl⟩)) ?_
  refine w_getf rfl g17 n19 ?_
  refine w_ld rfl rfl (Or.inr (Or.inr ⟨by decide, rfl⟩)) ?_
  refine w_getf rfl g17 n21 ?_
  refine w_ld rfl rfl (Or.inl ⟨by decide, rfl⟩) ?_
  subst e_q22
  refine w_iast rfl g24 (Nat.ble_eq_true_of_le c28) c27 c26 c25 ?_
  refine w_ld rfl rfl (Or.inr (Or.inr ⟨by decide, rfl⟩)) ?_
  refine w_dup rfl rfl ?_
  refine w_getf rfl g30 n32 ?_
  refine w_c32 rfl (by decide) 1 (by decide) ?_
  refine w_iadd rfl ?_
  refine w_putf rfl g30 (Nat.ble_eq_true_of_le c34) rfl (Nat.ble_eq_true_of_le l33) ?_
  refine w_ld rfl rfl (Or.inr (Or.inr ⟨by decide, rfl⟩)) ?_
  refine w_ld rfl rfl (Or.inr (Or.inr ⟨by decide, rfl⟩)) ?_
  refine w_getf rfl g36 n38 ?_
  refine w_putf rfl g36 (Nat.ble_eq_true_of_le c34) rfl (Nat.ble_eq_true_of_le l39) ?_
  refine w_c32 rfl (by decide) 0 (by decide) ?_
  refine w_st (ls' := [.index q2, vi x1, vi x2, vi 0]) rfl (Or.inl ⟨by decide, rfl⟩) rfl ?_
  exact k

theorem k488_78 {P : s_P} {d : Nat} {Q : s_O → Prop} {h : s_H} {kc ks : Nat} {r0 : Term} {x1 x2 x3 : Int} {q2 : Nat} {f3 : List Term} {z5 : Int} (g4 : s_get h q2 = some (1, 11, f3)) (k1 : z5 ≤ x3 → wr P d sw_c488 sw_h488 (116, [.index q2, vi x1, vi x2, vi x3], [], h, kc, ks) Q) (k2 : ¬ z5 ≤ x3 → wr P d sw_c488 sw_h488 (86, [.index q2, vi x1, vi x2, vi x3], [], h, kc, ks) Q) (e_q2 : r0 = .index q2 := by first | rfl | assumption) (y1 : s_ty r0 = 3 := by first | rfl | assumption) (n6 : s_nth f3 82 = some (vi z5) := by first | rfl | assumption) (c7 : In3 x3 := by first | omega | assumption | (simp only [mk_len, List.length_map]; omega) | decide) (c8 : In3 z5 := by first | omega | assumption | (simp only [mk_len, List.length_map]; omega) | decide) : wr P d sw_c488 sw_h488 (78, [r0, vi x1, vi x2, vi x3], [], h, kc, ks) Q := by
  refine w_ld rfl rfl (Or.inl ⟨by decide, rfl⟩) ?_
  refine w_ld rfl rfl (Or.inr (Or.inr ⟨by decide, y1⟩)) ?_
  subst e_q2
  refine w_getf rfl g4 n6 ?_
  exact w_if2 rfl c7 c8 k1 k2

theorem k488_86 {P : s_P} {d : Nat} {Q : s_O → Prop} {h : s_H} {kc ks : Nat} {r0 : Term} {x1 x2 x3 : Int} {q2 : Nat} {f3 : List Term} {v5 v7 : Term} {q9 : Nat} {a10 : List Int} {q15 : Nat} {a16 : List Int} {f20 : List Term} {v22 v24 : Term} {q26 : Nat} {a27 : List Int} {q30 : Nat} {a31 : List Int} (g4 : s_get h q2 = some (1, 11, f3)) (g11 : s_get h q9 = some (0, 0, a10.map vi)) (g17 : s_get h q15 = some (0, 0, a16.map vi)) (g21 : s_get (hp h q15 (0, 0, (a16.set (Int.toNat (x3)) (gi a10 x3)).map vi)) q2 = some (1, 11, f20)) (g28 : s_get (hp h q15 (0, 0, (a16.set (Int.toNat (x3)) (gi a10 x3)).map vi)) q26 = some (0, 0, a27.map vi)) (g32 : s_get (hp h q15 (0, 0, (a16.set (Int.toNat (x3)) (gi a10 x3)).map vi)) q30 = some (0, 0, a31.map vi)) (k : wr P d sw_c488 sw_h488 (78, [.index q2, vi x1, vi x2, vi (x3 + 1)], [], (hp (hp h q15 (0, 0, (a16.set (Int.toNat (x3)) (gi a10 x3)).map vi)) q30 (0, 0, (a31.set (Int.toNat (x3)) (gi a27 x3)).map vi)), kc, ks) Q) (e_q2 : r0 = .index q2 := by first | rfl | assumption) (e_q9 : v7 = .index q9 := by first | rfl | assumption) (e_q15 : v5 = .index q15 := by first | rfl | assumption) (e_q26 : v24 = .index q26 := by first | rfl | assumption) (e_q30 : v22 = .index q30 := by first | rfl | assumption) (y1 : s_ty r0 = 3 := by first | rfl | assumption) (n6 : s_nth f3 83 = some v5 := by first | rfl | assumption) (n8 : s_nth f3 86 = some v7 := by first | rfl | assumption) (n23 : s_nth f20 84 = some v22 := by first | rfl | assumption) (n25 : s_nth f20 87 = some v24 := by first | rfl | assumption) (c12 : x3 < a10.length := by first | omega | assumption | (simp only [mk_len, List.length_map]; omega) | decide) (c13 : 0 ≤ x3 := by first | omega | assumption | (simp only [mk_len, List.length_map]; omega) | decide) (c14 : In3 x3 := by first | omega | assumption | (simp only [mk_len, List.length_map]; omega) | decide) (c18 : x3 < a16.length := by first | omega | assumption | (simp only [mk_len, List.length_map]; omega) | decide) (c19 : 0 < q15 := by first | omega | assumption | (simp only [mk_len, List.length_map]; omega) | decide) (c29 : x3 < a27.length := by first | omega | assumption | (simp only [mk_len, List.length_map]; omega) | decide) (c33 : x3 < a31.length := by first | omega | assumption | (simp only [mk_len, List.length_map]; omega) | decide) (c34 : 0 < q30 := by first | omega | assumption | (simp only [mk_len, List.length_map]; omega) | decide) : wr P d sw_c488 sw_h488 (86, [r0, vi x1, vi x2, vi x3], [], h, kc, ks) Q := by
  refine w_ld rfl rfl (Or.inr (Or.inr ⟨by decide, y1⟩)) ?_
  subst e_q2
  refine w_getf rfl g4 n6 ?_
  refine w_ld rfl rfl (Or.inl ⟨by decide, rfl⟩) ?_
  refine w_ld rfl rfl (Or.inr (Or.inr ⟨by decide, rfl⟩)) ?_
  refine w_getf rfl g4 n8 ?_
  refine w_ld rfl rfl (Or.inl ⟨by decide, rfl⟩) ?_
  subst e_q9
  refine w_iald rfl g11 (Or.inl rfl) c14 c13 c12 ?_
  subst e_q15
  refine w_iast rfl g17 (Nat.ble_eq_true_of_le c19) c14 c13 c18 ?_
  refine w_ld rfl rfl (Or.inr (Or.inr ⟨by decide, rfl⟩)) ?_
  refine w_getf rfl g21 n23 ?_
  refine w_ld rfl rfl (Or.inl ⟨by decide, rfl⟩) ?_
  refine w_ld rfl rfl (Or.inr (Or.inr ⟨by decide, rfl⟩)) ?_
  refine w_getf rfl g21 n25 ?_
  refine w_ld rfl rfl (Or.inl ⟨by decide, rfl⟩) ?_
  subst e_q26
  refine w_iald rfl g28 (Or.inl rfl) c14 c13 c29 ?_
  subst e_q30
  refine w_iast rfl g32 (Nat.ble_eq_true_of_le c34) c14 c13 c33 ?_
  refine w_iinc (ls' := [.index q2, vi x1, vi x2, vi (x3 + 1)]) rfl rfl 1 (by decide) rfl ?_
  refine w_goto rfl ?_
  exact k

theorem k488_116 {P : s_P} {d : Nat} {Q : s_O → Prop} {h : s_H} {kc ks : Nat} {r0 : Term} {x1 x2 x3 : Int}  (k : Q (.inl (some (vi 1)), h, kc, ks))   : wr P d sw_c488 sw_h488 (116, [r0, vi x1, vi x2, vi x3], [], h, kc, ks) Q := by
  refine w_c32 rfl (by decide) 1 (by decide) ?_
  exact w_zret rfl (by decide) k

theorem k488_118 {P : s_P} {d : Nat} {Q : s_O → Prop} {h : s_H} {kc ks : Nat} {r0 : Term} {x1 x2 : Int} {t3 : Term}  (k : wr P d sw_c488 sw_h488 (14, [r0, vi x1, vi (x2 + 1), t3], [], h, kc, ks) Q)   : wr P d sw_c488 sw_h488 (118, [r0, vi x1, vi x2, t3], [], h, kc, ks) Q := by
  refine w_iinc (ls' := [r0, vi x1, vi (x2 + 1), t3]) rfl rfl 1 (by decide) rfl ?_
  refine w_goto rfl ?_
  exact k

theorem k488_124 {P : s_P} {d : Nat} {Q : s_O → Prop} {h : s_H} {kc ks : Nat} {r0 : Term} {x1 x2 : Int} {t3 : Term}  (k : wr P d sw_c488 sw_h488 (7, [r0, vi (x1 + (-1)), vi x2, t3], [], h, kc, ks) Q) (y1 : s_ty r0 = 3 := by first | rfl | assumption)  : wr P d sw_c488 sw_h488 (124, [r0, vi x1, vi x2, t3], [], h, kc, ks) Q := by
  refine w_iinc (ls' := [r0, vi (x1 + (-1)), vi x2, t3]) rfl rfl (-1) (by decide) (s_stK_r (pre := []) y1) ?_
  refine w_goto rfl ?_
  exact k

theorem k488_130 {P : s_P} {d : Nat} {Q : s_O → Prop} {h : s_H} {kc ks : Nat} {r0 : Term} {x1 : Int} {t2 t3 : Term}  (k : Q (.inl (some (vi 0)), h, kc, ks))   : wr P d sw_c488 sw_h488 (130, [r0, vi x1, t2, t3], [], h, kc, ks) Q := by
  refine w_c32 rfl (by decide) 0 (by decide) ?_
  exact w_zret rfl (by decide) k

/-! 489: FormulaWorksModel.isSize(II)Z -/
theorem k489_0 {P : s_P} {d : Nat} {Q : s_O → Prop} {h : s_H} {kc ks : Nat} {r0 : Term} {x1 x2 : Int}  (k : wm P d 464 [vl x1, vl 1, vl 4] h (wq P d sw_c489 sw_h489 9 [r0, vi x1, vi x2] [] kc ks Q))  (c1 : In3 x1 := by first | omega | assumption | (simp only [mk_len, List.length_map]; omega) | decide) : wr P d sw_c489 sw_h489 (0, [r0, vi x1, vi x2], [], h, kc, ks) Q := by
  refine w_ld rfl rfl (Or.inl ⟨by decide, rfl⟩) ?_
  refine w_i2l rfl c1 ?_
  refine w_c64 rfl (by decide) 1 (by decide) ?_
  refine w_c64 rfl (by decide) 4 (by decide) ?_
  exact w_cs rfl [vl x1, vl 1, vl 4] [] rfl rfl (s_wt_4 rfl) k

theorem k489_9 {P : s_P} {d : Nat} {Q : s_O → Prop} {h : s_H} {kc ks : Nat} {r0 : Term} {x1 x2 s0 : Int}  (k1 : s0 = 0 → wr P d sw_c489 sw_h489 (28, [r0, vi x1, vi x2], [], h, kc, ks) Q) (k2 : ¬ s0 = 0 → wr P d sw_c489 sw_h489 (12, [r0, vi x1, vi x2], [], h, kc, ks) Q)  (c1 : In3 s0 := by first | omega | assumption | (simp only [mk_len, List.length_map]; omega) | decide) : wr P d sw_c489 sw_h489 (9, [r0, vi x1, vi x2], [vi s0], h, kc, ks) Q := by
  exact w_if1 rfl c1 k1 k2

theorem k489_12 {P : s_P} {d : Nat} {Q : s_O → Prop} {h : s_H} {kc ks : Nat} {r0 : Term} {x1 x2 : Int}  (k : wm P d 464 [vl x2, vl 1, vl 4] h (wq P d sw_c489 sw_h489 21 [r0, vi x1, vi x2] [] kc ks Q))  (c1 : In3 x2 := by first | omega | assumption | (simp only [mk_len, List.length_map]; omega) | decide) : wr P d sw_c489 sw_h489 (12, [r0, vi x1, vi x2], [], h, kc, ks) Q := by
  refine w_ld rfl rfl (Or.inl ⟨by decide, rfl⟩) ?_
  refine w_i2l rfl c1 ?_
  refine w_c64 rfl (by decide) 1 (by decide) ?_
  refine w_c64 rfl (by decide) 4 (by decide) ?_
  exact w_cs rfl [vl x2, vl 1, vl 4] [] rfl rfl (s_wt_4 rfl) k

theorem k489_21 {P : s_P} {d : Nat} {Q : s_O → Prop} {h : s_H} {kc ks : Nat} {r0 : Term} {x1 x2 s0 : Int}  (k1 : s0 = 0 → wr P d sw_c489 sw_h489 (28, [r0, vi x1, vi x2], [], h, kc, ks) Q) (k2 : ¬ s0 = 0 → wr P d sw_c489 sw_h489 (24, [r0, vi x1, vi x2], [], h, kc, ks) Q)  (c1 : In3 s0 := by first | omega | assumption | (simp only [mk_len, List.length_map]; omega) | decide) : wr P d sw_c489 sw_h489 (21, [r0, vi x1, vi x2], [vi s0], h, kc, ks) Q := by
  exact w_if1 rfl c1 k1 k2

theorem k489_24 {P : s_P} {d : Nat} {Q : s_O → Prop} {h : s_H} {kc ks : Nat} {r0 : Term} {x1 x2 : Int}  (k : wr P d sw_c489 sw_h489 (29, [r0, vi x1, vi x2], [vi 1], h, kc, ks) Q)   : wr P d sw_c489 sw_h489 (24, [r0, vi x1, vi x2], [], h, kc, ks) Q := by
  refine w_c32 rfl (by decide) 1 (by decide) ?_
  refine w_goto rfl ?_
  exact k

theorem k489_28 {P : s_P} {d : Nat} {Q : s_O → Prop} {h : s_H} {kc ks : Nat} {r0 : Term} {x1 x2 : Int}  (k : wr P d sw_c489 sw_h489 (29, [r0, vi x1, vi x2], [vi 0], h, kc, ks) Q)   : wr P d sw_c489 sw_h489 (28, [r0, vi x1, vi x2], [], h, kc, ks) Q := by
  refine w_c32 rfl (by decide) 0 (by decide) ?_
  exact k

theorem k489_29 {P : s_P} {d : Nat} {Q : s_O → Prop} {h : s_H} {kc ks : Nat} {r0 : Term} {x1 x2 s0 : Int}  (k : Q (.inl (some (vi s0)), h, kc, ks))  (c1 : s0 = 0 ∨ s0 = 1 := by first | omega | assumption | (simp only [mk_len, List.length_map]; omega) | decide) : wr P d sw_c489 sw_h489 (29, [r0, vi x1, vi x2], [vi s0], h, kc, ks) Q := by
  exact w_zret rfl c1 k

/-! 490: FormulaWorksModel.isSplit()Z -/
theorem k490_0 {P : s_P} {d : Nat} {Q : s_O → Prop} {h : s_H} {kc ks : Nat} {r0 t1 t2 t3 : Term} {q2 : Nat} {f3 : List Term} {v5 : Term} (g4 : s_get h q2 = some (1, 11, f3)) (k : wm P d 405 [v5, vl 1] h (wq P d sw_c490 sw_h490 8 [.index q2, t1, t2, t3] [] kc ks Q)) (e_q2 : r0 = .index q2 := by first | rfl | assumption) (y1 : s_ty r0 = 3 := by first | rfl | assumption) (n6 : s_nth f3 24 = some v5 := by first | rfl | assumption)  : wr P d sw_c490 sw_h490 (0, [r0, t1, t2, t3], [], h, kc, ks) Q := by
  refine w_ld rfl rfl (Or.inr (Or.inr ⟨by decide, y1⟩)) ?_
  subst e_q2
  refine w_getf rfl g4 n6 ?_
  refine w_c64 rfl (by decide) 1 (by decide) ?_
  exact w_cs rfl [v5, vl 1] [] rfl rfl (s_wt_4 rfl) k

theorem k490_8 {P : s_P} {d : Nat} {Q : s_O → Prop} {h : s_H} {kc ks : Nat} {r0 t1 t2 t3 : Term}  (k : wr P d sw_c490 sw_h490 (12, [r0, vi 1, vi 0, t3], [], h, kc, ks) Q) (y1 : s_ty r0 = 3 := by first | rfl | assumption)  : wr P d sw_c490 sw_h490 (8, [r0, t1, t2, t3], [], h, kc, ks) Q := by
  refine w_c32 rfl (by decide) 1 (by decide) ?_
  refine w_st (ls' := [r0, vi 1, t2, t3]) rfl (Or.inl ⟨by decide, rfl⟩) (s_stK_r (pre := []) y1) ?_
  refine w_c32 rfl (by decide) 0 (by decide) ?_
  refine w_st (ls' := [r0, vi 1, vi 0, t3]) rfl (Or.inl ⟨by decide, rfl⟩) rfl ?_
  exact k

theorem k490_12 {P : s_P} {d : Nat} {Q : s_O → Prop} {h : s_H} {kc ks : Nat} {r0 : Term} {x1 x2 : Int} {t3 : Term}  (k1 : 21 ≤ x2 → wr P d sw_c490 sw_h490 (160, [r0, vi x1, vi x2, t3], [], h, kc, ks) Q) (k2 : ¬ 21 ≤ x2 → wr P d sw_c490 sw_h490 (18, [r0, vi x1, vi x2, t3], [], h, kc, ks) Q)  (c1 : In3 x2 := by first | omega | assumption | (simp only [mk_len, List.length_map]; omega) | decide) : wr P d sw_c490 sw_h490 (12, [r0, vi x1, vi x2, t3], [], h, kc, ks) Q := by
  refine w_ld rfl rfl (Or.inl ⟨by decide, rfl⟩) ?_
  refine w_c32 rfl (by decide) 21 (by decide) ?_
  exact w_if2 rfl c1 (by decide) k1 k2

theorem k490_18 {P : s_P} {d : Nat} {Q : s_O → Prop} {h : s_H} {kc ks : Nat} {r0 : Term} {x1 x2 : Int} {t3 : Term} {q2 : Nat} {f3 : List Term} {v5 v7 : Term} (g4 : s_get h q2 = some (1, 11, f3)) (k : wm P d 425 [v5, v7] h (wq P d sw_c490 sw_h490 29 [.index q2, vi x1, vi x2, t3] [] kc ks Q)) (e_q2 : r0 = .index q2 := by first | rfl | assumption) (y1 : s_ty r0 = 3 := by first | rfl | assumption) (n6 : s_nth f3 21 = some v5 := by first | rfl | assumption) (n8 : s_nth f3 11 = some v7 := by first | rfl | assumption)  : wr P d sw_c490 sw_h490 (18, [r0, vi x1, vi x2, t3], [], h, kc, ks) Q := by
  refine w_ld rfl rfl (Or.inr (Or.inr ⟨by decide, y1⟩)) ?_
  subst e_q2
  refine w_getf rfl g4 n6 ?_
  refine w_ld rfl rfl (Or.inr (Or.inr ⟨by decide, rfl⟩)) ?_
  refine w_getf rfl g4 n8 ?_
  exact w_cs rfl [v5, v7] [] rfl rfl (s_wt_4 rfl) k

theorem k490_29 {P : s_P} {d : Nat} {Q : s_O → Prop} {h : s_H} {kc ks : Nat} {r0 : Term} {x1 x2 : Int} {t3 : Term} {q2 : Nat} {f3 : List Term} {v5 : Term} (g4 : s_get h q2 = some (1, 11, f3)) (k : wm P d 530 [v5, vl x2] h (wq P d sw_c490 sw_h490 38 [.index q2, vi x1, vi x2, t3] [] kc ks Q)) (e_q2 : r0 = .index q2 := by first | rfl | assumption) (y1 : s_ty r0 = 3 := by first | rfl | assumption) (n6 : s_nth f3 21 = some v5 := by first | rfl | assumption) (c7 : In3 x2 := by first | omega | assumption | (simp only [mk_len, List.length_map]; omega) | decide) : wr P d sw_c490 sw_h490 (29, [r0, vi x1, vi x2, t3], [], h, kc, ks) Q := by
  refine w_ld rfl rfl (Or.inr (Or.inr ⟨by decide, y1⟩)) ?_
  subst e_q2
  refine w_getf rfl g4 n6 ?_
  refine w_ld rfl rfl (Or.inl ⟨by decide, rfl⟩) ?_
  refine w_i2l rfl c7 ?_
  exact w_cs rfl [v5, vl x2] [] rfl rfl (s_wt_4 rfl) k

theorem k490_38 {P : s_P} {d : Nat} {Q : s_O → Prop} {h : s_H} {kc ks : Nat} {r0 : Term} {x1 x2 : Int} {t3 : Term} {q2 : Nat} {f3 : List Term} {v5 v7 : Term} (g4 : s_get h q2 = some (1, 11, f3)) (k : wm P d 423 [.index q2, v5, v7] h (wq P d sw_c490 sw_h490 50 [.index q2, vi x1, vi x2, t3] [] kc ks Q)) (e_q2 : r0 = .index q2 := by first | rfl | assumption) (y1 : s_ty r0 = 3 := by first | rfl | assumption) (n6 : s_nth f3 10 = some v5 := by first | rfl | assumption) (n8 : s_nth f3 21 = some v7 := by first | rfl | assumption)  : wr P d sw_c490 sw_h490 (38, [r0, vi x1, vi x2, t3], [], h, kc, ks) Q := by
  refine w_ld rfl rfl (Or.inr (Or.inr ⟨by decide, y1⟩)) ?_
  refine w_ld rfl rfl (Or.inr (Or.inr ⟨by decide, y1⟩)) ?_
  subst e_q2
  refine w_getf rfl g4 n6 ?_
  refine w_ld rfl rfl (Or.inr (Or.inr ⟨by decide, rfl⟩)) ?_
  refine w_getf rfl g4 n8 ?_
  exact w_cv rfl [.index q2, v5, v7] [] rfl rfl (s_wt_4 rfl) rfl g4 k

theorem k490_50 {P : s_P} {d : Nat} {Q : s_O → Prop} {h : s_H} {kc ks : Nat} {r0 : Term} {x1 x2 : Int} {t3 : Term} {q2 : Nat} {f3 : List Term} {v5 v7 : Term} (g4 : s_get h q2 = some (1, 11, f3)) (k : wm P d 425 [v5, v7] h (wq P d sw_c490 sw_h490 61 [.index q2, vi x1, vi x2, t3] [] kc ks Q)) (e_q2 : r0 = .index q2 := by first | rfl | assumption) (y1 : s_ty r0 = 3 := by first | rfl | assumption) (n6 : s_nth f3 22 = some v5 := by first | rfl | assumption) (n8 : s_nth f3 18 = some v7 := by first | rfl | assumption)  : wr P d sw_c490 sw_h490 (50, [r0, vi x1, vi x2, t3], [], h, kc, ks) Q := by
  refine w_ld rfl rfl (Or.inr (Or.inr ⟨by decide, y1⟩)) ?_
  subst e_q2
  refine w_getf rfl g4 n6 ?_
  refine w_ld rfl rfl (Or.inr (Or.inr ⟨by decide, rfl⟩)) ?_
  refine w_getf rfl g4 n8 ?_
  exact w_cs rfl [v5, v7] [] rfl rfl (s_wt_4 rfl) k

theorem k490_61 {P : s_P} {d : Nat} {Q : s_O → Prop} {h : s_H} {kc ks : Nat} {r0 : Term} {x1 x2 : Int} {t3 : Term} {q2 : Nat} {f3 : List Term} {v5 v7 : Term} (g4 : s_get h q2 = some (1, 11, f3)) (k : wm P d 434 [.index q2, v5, v7] h (wq P d sw_c490 sw_h490 73 [.index q2, vi x1, vi x2, t3] [] kc ks Q)) (e_q2 : r0 = .index q2 := by first | rfl | assumption) (y1 : s_ty r0 = 3 := by first | rfl | assumption) (n6 : s_nth f3 10 = some v5 := by first | rfl | assumption) (n8 : s_nth f3 22 = some v7 := by first | rfl | assumption)  : wr P d sw_c490 sw_h490 (61, [r0, vi x1, vi x2, t3], [], h, kc, ks) Q := by
  refine w_ld rfl rfl (Or.inr (Or.inr ⟨by decide, y1⟩)) ?_
  refine w_ld rfl rfl (Or.inr (Or.inr ⟨by decide, y1⟩)) ?_
  subst e_q2
  refine w_getf rfl g4 n6 ?_
  refine w_ld rfl rfl (Or.inr (Or.inr ⟨by decide, rfl⟩)) ?_
  refine w_getf rfl g4 n8 ?_
  exact w_cv rfl [.index q2, v5, v7] [] rfl rfl (s_wt_4 rfl) rfl g4 k

theorem k490_73 {P : s_P} {d : Nat} {Q : s_O → Prop} {h : s_H} {kc ks : Nat} {r0 : Term} {x1 x2 : Int} {t3 : Term}  (k : wr P d sw_c490 sw_h490 (75, [r0, vi x1, vi x2, vi 1], [], h, kc, ks) Q)   : wr P d sw_c490 sw_h490 (73, [r0, vi x1, vi x2, t3], [], h, kc, ks) Q := by
  refine w_c32 rfl (by decide) 1 (by decide) ?_
  refine w_st (ls' := [r0, vi x1, vi x2, vi 1]) rfl (Or.inl ⟨by decide, rfl⟩) rfl ?_
  exact k

theorem k490_75 {P : s_P} {d : Nat} {Q : s_O → Prop} {h : s_H} {kc ks : Nat} {r0 : Term} {x1 x2 x3 : Int}  (k1 : x2 < x3 → wr P d sw_c490 sw_h490 (142, [r0, vi x1, vi x2, vi x3], [], h, kc, ks) Q) (k2 : ¬ x2 < x3 → wr P d sw_c490 sw_h490 (80, [r0, vi x1, vi x2, vi x3], [], h, kc, ks) Q)  (c1 : In3 x3 := by first | omega | assumption | (simp only [mk_len, List.length_map]; omega) | decide) (c2 : In3 x2 := by first | omega | assumption | (simp only [mk_len, List.length_map]; omega) | decide) : wr P d sw_c490 sw_h490 (75, [r0, vi x1, vi x2, vi x3], [], h, kc, ks) Q := by
  refine w_ld rfl rfl (Or.inl ⟨by decide, rfl⟩) ?_
  refine w_ld rfl rfl (Or.inl ⟨by decide, rfl⟩) ?_
  exact w_if2 rfl c1 c2 k1 k2

theorem k490_80 {P : s_P} {d : Nat} {Q : s_O → Prop} {h : s_H} {kc ks : Nat} {r0 : Term} {x1 x2 x3 : Int} {q2 : Nat} {f3 : List Term} {v5 : Term} (g4 : s_get h q2 = some (1, 11, f3)) (k : wm P d 530 [v5, vl (-1)] h (wq P d sw_c490 sw_h490 90 [.index q2, vi x1, vi x2, vi x3] [] kc ks Q)) (e_q2 : r0 = .index q2 := by first | rfl | assumption) (y1 : s_ty r0 = 3 := by first | rfl | assumption) (n6 : s_nth f3 22 = some v5 := by first | rfl | assumption)  : wr P d sw_c490 sw_h490 (80, [r0, vi x1, vi x2, vi x3], [], h, kc, ks) Q := by
  refine w_ld rfl rfl (Or.inr (Or.inr ⟨by decide, y1⟩)) ?_
  subst e_q2
  refine w_getf rfl g4 n6 ?_
  refine w_c64 rfl (by decide) (-1) (by decide) ?_
  exact w_cs rfl [v5, vl (-1)] [] rfl rfl (s_wt_4 rfl) k

theorem k490_90 {P : s_P} {d : Nat} {Q : s_O → Prop} {h : s_H} {kc ks : Nat} {r0 : Term} {x1 x2 x3 : Int}  (k1 : x1 = 0 → wr P d sw_c490 sw_h490 (118, [r0, vi x1, vi x2, vi x3], [], h, kc, ks) Q) (k2 : ¬ x1 = 0 → wr P d sw_c490 sw_h490 (94, [r0, vi x1, vi x2, vi x3], [], h, kc, ks) Q)  (c1 : In3 x1 := by first | omega | assumption | (simp only [mk_len, List.length_map]; omega) | decide) : wr P d sw_c490 sw_h490 (90, [r0, vi x1, vi x2, vi x3], [], h, kc, ks) Q := by
  refine w_ld rfl rfl (Or.inl ⟨by decide, rfl⟩) ?_
  exact w_if1 rfl c1 k1 k2

theorem k490_94 {P : s_P} {d : Nat} {Q : s_O → Prop} {h : s_H} {kc ks : Nat} {r0 : Term} {x1 x2 x3 : Int} {q2 : Nat} {f3 : List Term} {v5 : Term} (g4 : s_get h q2 = some (1, 11, f3)) (k : wm P d 463 [v5] h (wq P d sw_c490 sw_h490 101 [.index q2, vi x1, vi x2, vi x3] [] kc ks Q)) (e_q2 : r0 = .index q2 := by first | rfl | assumption) (y1 : s_ty r0 = 3 := by first | rfl | assumption) (n6 : s_nth f3 24 = some v5 := by first | rfl | assumption)  : wr P d sw_c490 sw_h490 (94, [r0, vi x1, vi x2, vi x3], [], h, kc, ks) Q := by
  refine w_ld rfl rfl (Or.inr (Or.inr ⟨by decide, y1⟩)) ?_
  subst e_q2
  refine w_getf rfl g4 n6 ?_
  exact w_cs rfl [v5] [] rfl rfl (s_wt_4 rfl) k

theorem k490_101 {P : s_P} {d : Nat} {Q : s_O → Prop} {h : s_H} {kc ks : Nat} {r0 : Term} {x1 x2 x3 s0 : Int} {q2 : Nat} {f3 : List Term} {v5 : Term} (g4 : s_get h q2 = some (1, 11, f3)) (k : wm P d 463 [v5] h (wq P d sw_c490 sw_h490 108 [.index q2, vi x1, vi x2, vi x3] [vi s0] kc ks Q)) (e_q2 : r0 = .index q2 := by first | rfl | assumption) (y1 : s_ty r0 = 3 := by first | rfl | assumption) (n6 : s_nth f3 22 = some v5 := by first | rfl | assumption)  : wr P d sw_c490 sw_h490 (101, [r0, vi x1, vi x2, vi x3], [vi s0], h, kc, ks) Q := by
  refine w_ld rfl rfl (Or.inr (Or.inr ⟨by decide, y1⟩)) ?_
  subst e_q2
  refine w_getf rfl g4 n6 ?_
  exact w_cs rfl [v5] [vi s0] rfl rfl (s_wt_4 rfl) k

theorem k490_108 {P : s_P} {d : Nat} {Q : s_O → Prop} {h : s_H} {kc ks : Nat} {r0 : Term} {x1 x2 x3 s0 s1 : Int}  (k1 : 61 ≤ s0 + s1 → wr P d sw_c490 sw_h490 (118, [r0, vi x1, vi x2, vi x3], [], h, kc, ks) Q) (k2 : ¬ 61 ≤ s0 + s1 → wr P d sw_c490 sw_h490 (114, [r0, vi x1, vi x2, vi x3], [], h, kc, ks) Q)  (c1 : In3 (s0 + s1) := by first | omega | assumption | (simp only [mk_len, List.length_map]; omega) | decide) : wr P d sw_c490 sw_h490 (108, [r0, vi x1, vi x2, vi x3], [vi s1, vi s0], h, kc, ks) Q := by
  refine w_iadd rfl ?_
  refine w_c32 rfl (by decide) 61 (by decide) ?_
  exact w_if2 rfl c1 (by decide) k1 k2

theorem k490_114 {P : s_P} {d : Nat} {Q : s_O → Prop} {h : s_H} {kc ks : Nat} {r0 : Term} {x1 x2 x3 : Int}  (k : wr P d sw_c490 sw_h490 (119, [r0, vi x1, vi x2, vi x3], [vi 1], h, kc, ks) Q)   : wr P d sw_c490 sw_h490 (114, [r0, vi x1, vi x2, vi x3], [], h, kc, ks) Q := by
  refine w_c32 rfl (by decide) 1 (by decide) ?_
  refine w_goto rfl ?_
  exact k

theorem k490_118 {P : s_P} {d : Nat} {Q : s_O → Prop} {h : s_H} {kc ks : Nat} {r0 : Term} {x1 x2 x3 : Int}  (k : wr P d sw_c490 sw_h490 (119, [r0, vi x1, vi x2, vi x3], [vi 0], h, kc, ks) Q)   : wr P d sw_c490 sw_h490 (118, [r0, vi x1, vi x2, vi x3], [], h, kc, ks) Q := by
  refine w_c32 rfl (by decide) 0 (by decide) ?_
  exact k

theorem k490_119 {P : s_P} {d : Nat} {Q : s_O → Prop} {h : s_H} {kc ks : Nat} {r0 : Term} {x1 x2 x3 s0 : Int}  (k1 : s0 = 0 → wr P d sw_c490 sw_h490 (136, [r0, vi s0, vi x2, vi x3], [], h, kc, ks) Q) (k2 : ¬ s0 = 0 → wr P d sw_c490 sw_h490 (124, [r0, vi s0, vi x2, vi x3], [], h, kc, ks) Q) (y1 : s_ty r0 = 3 := by first | rfl | assumption) (c2 : In3 s0 := by first | omega | assumption | (simp only [mk_len, List.length_map]; omega) | decide) : wr P d sw_c490 sw_h490 (119, [r0, vi x1, vi x2, vi x3], [vi s0], h, kc, ks) Q := by
  refine w_st (ls' := [r0, vi s0, vi x2, vi x3]) rfl (Or.inl ⟨by decide, rfl⟩) (s_stK_r (pre := []) y1) ?_
  refine w_ld rfl rfl (Or.inl ⟨by decide, rfl⟩) ?_
  exact w_if1 rfl c2 k1 k2

theorem k490_124 {P : s_P} {d : Nat} {Q : s_O → Prop} {h : s_H} {kc ks : Nat} {r0 : Term} {x1 x2 x3 : Int} {q2 : Nat} {f3 : List Term} {v5 v7 : Term} (g4 : s_get h q2 = some (1, 11, f3)) (k : wm P d 532 [.index q2, v5, v7] h (wq P d sw_c490 sw_h490 136 [.index q2, vi x1, vi x2, vi x3] [] kc ks Q)) (e_q2 : r0 = .index q2 := by first | rfl | assumption) (y1 : s_ty r0 = 3 := by first | rfl | assumption) (n6 : s_nth f3 24 = some v5 := by first | rfl | assumption) (n8 : s_nth f3 22 = some v7 := by first | rfl | assumption)  : wr P d sw_c490 sw_h490 (124, [r0, vi x1, vi x2, vi x3], [], h, kc, ks) Q := by
  refine w_ld rfl rfl (Or.inr (Or.inr ⟨by decide, y1⟩)) ?_
  refine w_ld rfl rfl (Or.inr (Or.inr ⟨by decide, y1⟩)) ?_
  subst e_q2
  refine w_getf rfl g4 n6 ?_
  refine w_ld rfl rfl (Or.inr (Or.inr ⟨by decide, rfl⟩)) ?_
  refine w_getf rfl g4 n8 ?_
  exact w_cv rfl [.index q2, v5, v7] [] rfl rfl (s_wt_4 rfl) rfl g4 k

theorem k490_136 {P : s_P} {d : Nat} {Q : s_O → Prop} {h : s_H} {kc ks : Nat} {r0 : Term} {x1 x2 x3 : Int}  (k : wr P d sw_c490 sw_h490 (75, [r0, vi x1, vi x2, vi (x3 + 1)], [], h, kc, ks) Q)   : wr P d sw_c490 sw_h490 (136, [r0, vi x1, vi x2, vi x3], [], h, kc, ks) Q := by
  refine w_iinc (ls' := [r0, vi x1, vi x2, vi (x3 + 1)]) rfl rfl 1 (by decide) rfl ?_
  refine w_goto rfl ?_
  exact k

theorem k490_142 {P : s_P} {d : Nat} {Q : s_O → Prop} {h : s_H} {kc ks : Nat} {r0 : Term} {x1 x2 x3 : Int} {q2 : Nat} {f3 : List Term} {v5 v7 : Term} (g4 : s_get h q2 = some (1, 11, f3)) (k : wm P d 434 [.index q2, v5, v7] h (wq P d sw_c490 sw_h490 154 [.index q2, vi x1, vi x2, vi x3] [] kc ks Q)) (e_q2 : r0 = .index q2 := by first | rfl | assumption) (y1 : s_ty r0 = 3 := by first | rfl | assumption) (n6 : s_nth f3 11 = some v5 := by first | rfl | assumption) (n8 : s_nth f3 22 = some v7 := by first | rfl | assumption)  : wr P d sw_c490 sw_h490 (142, [r0, vi x1, vi x2, vi x3], [], h, kc, ks) Q := by
  refine w_ld rfl rfl (Or.inr (Or.inr ⟨by decide, y1⟩)) ?_
  refine w_ld rfl rfl (Or.inr (Or.inr ⟨by decide, y1⟩)) ?_
  subst e_q2
  refine w_getf rfl g4 n6 ?_
  refine w_ld rfl rfl (Or.inr (Or.inr ⟨by decide, rfl⟩)) ?_
  refine w_getf rfl g4 n8 ?_
  exact w_cv rfl [.index q2, v5, v7] [] rfl rfl (s_wt_4 rfl) rfl g4 k

theorem k490_154 {P : s_P} {d : Nat} {Q : s_O → Prop} {h : s_H} {kc ks : Nat} {r0 : Term} {x1 x2 x3 : Int}  (k : wr P d sw_c490 sw_h490 (12, [r0, vi x1, vi (x2 + 1), vi x3], [], h, kc, ks) Q)   : wr P d sw_c490 sw_h490 (154, [r0, vi x1, vi x2, vi x3], [], h, kc, ks) Q := by
  refine w_iinc (ls' := [r0, vi x1, vi (x2 + 1), vi x3]) rfl rfl 1 (by decide) rfl ?_
  refine w_goto rfl ?_
  exact k

theorem k490_160 {P : s_P} {d : Nat} {Q : s_O → Prop} {h : s_H} {kc ks : Nat} {r0 : Term} {x1 x2 : Int} {t3 : Term}  (k : Q (.inl (some (vi x1)), h, kc, ks))  (c1 : x1 = 0 ∨ x1 = 1 := by first | omega | assumption | (simp only [mk_len, List.length_map]; omega) | decide) : wr P d sw_c490 sw_h490 (160, [r0, vi x1, vi x2, t3], [], h, kc, ks) Q := by
  refine w_ld rfl rfl (Or.inl ⟨by decide, rfl⟩) ?_
  exact w_zret rfl c1 k

/-! 491: FormulaWorksModel.isSquare(I)Z -/
theorem k491_0 {P : s_P} {d : Nat} {Q : s_O → Prop} {h : s_H} {kc ks : Nat} {r0 : Term} {x1 : Int} {q2 : Nat} {f3 : List Term} (g4 : s_get h q2 = some (1, 11, f3)) (k : wm P d 481 [.index q2, vi x1, vi 2] h (wq P d sw_c491 sw_h491 6 [.index q2, vi x1] [] kc ks Q)) (e_q2 : r0 = .index q2 := by first | rfl | assumption) (y1 : s_ty r0 = 3 := by first | rfl | assumption)  : wr P d sw_c491 sw_h491 (0, [r0, vi x1], [], h, kc, ks) Q := by
  refine w_ld rfl rfl (Or.inr (Or.inr ⟨by decide, y1⟩)) ?_
  refine w_ld rfl rfl (Or.inl ⟨by decide, rfl⟩) ?_
  refine w_c32 rfl (by decide) 2 (by decide) ?_
  subst e_q2
  exact w_cv rfl [.index q2, vi x1, vi 2] [] rfl rfl (s_wt_4 rfl) rfl g4 k

theorem k491_6 {P : s_P} {d : Nat} {Q : s_O → Prop} {h : s_H} {kc ks : Nat} {r0 : Term} {x1 s0 : Int}  (k1 : s0 ≠ 0 → wr P d sw_c491 sw_h491 (11, [r0, vi x1], [], h, kc, ks) Q) (k2 : ¬ s0 ≠ 0 → wr P d sw_c491 sw_h491 (9, [r0, vi x1], [], h, kc, ks) Q)  (c1 : In3 s0 := by first | omega | assumption | (simp only [mk_len, List.length_map]; omega) | decide) : wr P d sw_c491 sw_h491 (6, [r0, vi x1], [vi s0], h, kc, ks) Q := by
  exact w_if1 rfl c1 k1 k2

theorem k491_9 {P : s_P} {d : Nat} {Q : s_O → Prop} {h : s_H} {kc ks : Nat} {r0 : Term} {x1 : Int}  (k : Q (.inl (some (vi 0)), h, kc, ks))   : wr P d sw_c491 sw_h491 (9, [r0, vi x1], [], h, kc, ks) Q := by
  refine w_c32 rfl (by decide) 0 (by decide) ?_
  exact w_zret rfl (by decide) k

theorem k491_11 {P : s_P} {d : Nat} {Q : s_O → Prop} {h : s_H} {kc ks : Nat} {r0 : Term} {x1 : Int} {q2 : Nat} {f3 : List Term} {v5 : Term} {q7 : Nat} {a8 : List Int} {v13 : Term} {q15 : Nat} {a16 : List Int} (g4 : s_get h q2 = some (1, 11, f3)) (g9 : s_get h q7 = some (0, 0, a8.map vi)) (g17 : s_get h q15 = some (0, 0, a16.map vi)) (k1 : gi a8 x1 ≠ gi a16 x1 → wr P d sw_c491 sw_h491 (31, [.index q2, vi x1], [.index q2], h, kc, ks) Q) (k2 : ¬ gi a8 x1 ≠ gi a16 x1 → wr P d sw_c491 sw_h491 (27, [.index q2, vi x1], [.index q2], h, kc, ks) Q) (e_q2 : r0 = .index q2 := by first | rfl | assumption) (e_q7 : v5 = .index q7 := by first | rfl | assumption) (e_q15 : v13 = .index q15 := by first | rfl | assumption) (y1 : s_ty r0 = 3 := by first | rfl | assumption) (n6 : s_nth f3 5 = some v5 := by first | rfl | assumption) (n14 : s_nth f3 6 = some v13 := by first | rfl | assumption) (c10 : x1 < a8.length := by first | omega | assumption | (simp only [mk_len, List.length_map]; omega) | decide) (c11 : 0 ≤ x1 := by first | omega | assumption | (simp only [mk_len, List.length_map]; omega) | decide) (c12 : In3 x1 := by first | omega | assumption | (simp only [mk_len, List.length_map]; omega) | decide) (c18 : x1 < a16.length := by first | omega | assumption | (simp only [mk_len, List.length_map]; omega) | decide) (c19 : In3 (gi a8 x1) := by first | omega | assumption | (simp only [mk_len, List.length_map]; omega) | decide) (c20 : In3 (gi a16 x1) := by first | omega | assumption | (simp only [mk_len, List.length_map]; omega) | decide) : wr P d sw_c491 sw_h491 (11, [r0, vi x1], [], h, kc, ks) Q := by
  refine w_ld rfl rfl (Or.inr (Or.inr ⟨by decide, y1⟩)) ?_
  refine w_ld rfl rfl (Or.inr (Or.inr ⟨by decide, y1⟩)) ?_
  subst e_q2
  refine w_getf rfl g4 n6 ?_
  refine w_ld rfl rfl (Or.inl ⟨by decide, rfl⟩) ?_
  subst e_q7
  refine w_iald rfl g9 (Or.inl rfl) c12 c11 c10 ?_
  refine w_ld rfl rfl (Or.inr (Or.inr ⟨by decide, rfl⟩)) ?_
  refine w_getf rfl g4 n14 ?_
  refine w_ld rfl rfl (Or.inl ⟨by decide, rfl⟩) ?_
  subst e_q15
  refine w_iald rfl g17 (Or.inl rfl) c12 c11 c18 ?_
  exact w_if2 rfl c19 c20 k1 k2

theorem k491_27 {P : s_P} {d : Nat} {Q : s_O → Prop} {h : s_H} {kc ks : Nat} {r0 : Term} {x1 : Int} {s0 : Term}  (k : wr P d sw_c491 sw_h491 (32, [r0, vi x1], [vi 0, s0], h, kc, ks) Q)   : wr P d sw_c491 sw_h491 (27, [r0, vi x1], [s0], h, kc, ks) Q := by
  refine w_c32 rfl (by decide) 0 (by decide) ?_
  refine w_goto rfl ?_
  exact k

theorem k491_31 {P : s_P} {d : Nat} {Q : s_O → Prop} {h : s_H} {kc ks : Nat} {r0 : Term} {x1 : Int} {s0 : Term}  (k : wr P d sw_c491 sw_h491 (32, [r0, vi x1], [vi 2, s0], h, kc, ks) Q)   : wr P d sw_c491 sw_h491 (31, [r0, vi x1], [s0], h, kc, ks) Q := by
  refine w_c32 rfl (by decide) 2 (by decide) ?_
  exact k

theorem k491_32 {P : s_P} {d : Nat} {Q : s_O → Prop} {h : s_H} {kc ks : Nat} {r0 : Term} {x1 : Int} {s0 : Term} {s1 : Int} {q1 : Nat} {f2 : List Term} {q7 : Nat} {f8 : List Term} {z10 : Int} (g3 : s_get h q1 = some (1, 11, f2)) (g9 : s_get (hp h q1 (1, 11, f2.set 0 (vi s1))) q7 = some (1, 11, f8)) (k1 : z10 ≠ 0 → wr P d sw_c491 sw_h491 (46, [.index q7, vi x1], [], (hp h q1 (1, 11, f2.set 0 (vi s1))), kc, ks) Q) (k2 : ¬ z10 ≠ 0 → wr P d sw_c491 sw_h491 (42, [.index q7, vi x1], [], (hp h q1 (1, 11, f2.set 0 (vi s1))), kc, ks) Q) (e_q1 : s0 = .index q1 := by first | rfl | assumption) (e_q7 : r0 = .index q7 := by first | rfl | assumption) (l4 : 0 < f2.length := by first | exact Nat.le_of_ble_eq_true rfl | omega | assumption) (y6 : s_ty r0 = 3 := by first | rfl | assumption) (n11 : s_nth f8 0 = some (vi z10) := by first | rfl | assumption) (c5 : 0 < q1 := by first | omega | assumption | (simp only [mk_len, List.length_map]; omega) | decide) (c12 : In3 z10 := by first | omega | assumption | (simp only [mk_len, List.length_map]; omega) | decide) : wr P d sw_c491 sw_h491 (32, [r0, vi x1], [vi s1, s0], h, kc, ks) Q := by
  subst e_q1
  refine w_putf rfl g3 (Nat.ble_eq_true_of_le c5) rfl (Nat.ble_eq_true_of_le l4) ?_
  refine w_ld rfl rfl (Or.inr (Or.inr ⟨by decide, y6⟩)) ?_
  subst e_q7
  refine w_getf rfl g9 n11 ?_
  exact w_if1 rfl c12 k1 k2

theorem k491_42 {P : s_P} {d : Nat} {Q : s_O → Prop} {h : s_H} {kc ks : Nat} {r0 : Term} {x1 : Int}  (k : wr P d sw_c491 sw_h491 (47, [r0, vi x1], [vi 1], h, kc, ks) Q)   : wr P d sw_c491 sw_h491 (42, [r0, vi x1], [], h, kc, ks) Q := by
  refine w_c32 rfl (by decide) 1 (by decide) ?_
  refine w_goto rfl ?_
  exact k

theorem k491_46 {P : s_P} {d : Nat} {Q : s_O → Prop} {h : s_H} {kc ks : Nat} {r0 : Term} {x1 : Int}  (k : wr P d sw_c491 sw_h491 (47, [r0, vi x1], [vi 0], h, kc, ks) Q)   : wr P d sw_c491 sw_h491 (46, [r0, vi x1], [], h, kc, ks) Q := by
  refine w_c32 rfl (by decide) 0 (by decide) ?_
  exact k

theorem k491_47 {P : s_P} {d : Nat} {Q : s_O → Prop} {h : s_H} {kc ks : Nat} {r0 : Term} {x1 s0 : Int}  (k : Q (.inl (some (vi s0)), h, kc, ks))  (c1 : s0 = 0 ∨ s0 = 1 := by first | omega | assumption | (simp only [mk_len, List.length_map]; omega) | decide) : wr P d sw_c491 sw_h491 (47, [r0, vi x1], [vi s0], h, kc, ks) Q := by
  exact w_zret rfl c1 k

/-! 492: FormulaWorksModel.isThere(I)Z -/
theorem k492_0 {P : s_P} {d : Nat} {Q : s_O → Prop} {h : s_H} {kc ks : Nat} {r0 : Term} {x1 : Int} {q3 : Nat} {f4 : List Term} {z6 : Int} (g5 : s_get h q3 = some (1, 11, f4)) (k : wm P d 464 [vl x1, vl 0, vl (z6 - 1)] h (wq P d sw_c492 sw_h492 13 [.index q3, vi x1] [] kc ks Q)) (e_q3 : r0 = .index q3 := by first | rfl | assumption) (y2 : s_ty r0 = 3 := by first | rfl | assumption) (n7 : s_nth f4 1 = some (vi z6) := by first | rfl | assumption) (c1 : In3 x1 := by first | omega | assumption | (simp only [mk_len, List.length_map]; omega) | decide) (c8 : In3 (z6 - 1) := by first | omega | assumption | (simp only [mk_len, List.length_map]; omega) | decide) : wr P d sw_c492 sw_h492 (0, [r0, vi x1], [], h, kc, ks) Q := by
  refine w_ld rfl rfl (Or.inl ⟨by decide, rfl⟩) ?_
  refine w_i2l rfl c1 ?_
  refine w_c64 rfl (by decide) 0 (by decide) ?_
  refine w_ld rfl rfl (Or.inr (Or.inr ⟨by decide, y2⟩)) ?_
  subst e_q3
  refine w_getf rfl g5 n7 ?_
  refine w_c32 rfl (by decide) 1 (by decide) ?_
  refine w_isub rfl ?_
  refine w_i2l rfl c8 ?_
  exact w_cs rfl [vl x1, vl 0, vl (z6 - 1)] [] rfl rfl (s_wt_4 rfl) k

theorem k492_13 {P : s_P} {d : Nat} {Q : s_O → Prop} {h : s_H} {kc ks : Nat} {r0 : Term} {x1 s0 : Int}  (k : Q (.inl (some (vi s0)), h, kc, ks))  (c1 : s0 = 0 ∨ s0 = 1 := by first | omega | assumption | (simp only [mk_len, List.length_map]; omega) | decide) : wr P d sw_c492 sw_h492 (13, [r0, vi x1], [vi s0], h, kc, ks) Q := by
  exact w_zret rfl c1 k

/-! 493: FormulaWorksModel.isWorkable(I)Z -/
theorem k493_0 {P : s_P} {d : Nat} {Q : s_O → Prop} {h : s_H} {kc ks : Nat} {r0 : Term} {x1 : Int} {q2 : Nat} {f3 : List Term} {v5 : Term} {q7 : Nat} {a8 : List Int} (g4 : s_get h q2 = some (1, 11, f3)) (g9 : s_get h q7 = some (0, 0, a8.map vi)) (k1 : gi a8 x1 ≤ 0 → wr P d sw_c493 sw_h493 (21, [.index q2, vi x1], [], h, kc, ks) Q) (k2 : ¬ gi a8 x1 ≤ 0 → wr P d sw_c493 sw_h493 (9, [.index q2, vi x1], [], h, kc, ks) Q) (e_q2 : r0 = .index q2 := by first | rfl | assumption) (e_q7 : v5 = .index q7 := by first | rfl | assumption) (y1 : s_ty r0 = 3 := by first | rfl | assumption) (n6 : s_nth f3 101 = some v5 := by first | rfl | assumption) (c10 : x1 < a8.length := by first | omega | assumption | (simp only [mk_len, List.length_map]; omega) | decide) (c11 : 0 ≤ x1 := by first | omega | assumption | (simp only [mk_len, List.length_map]; omega) | decide) (c12 : In3 x1 := by first | omega | assumption | (simp only [mk_len, List.length_map]; omega) | decide) (c13 : In3 (gi a8 x1) := by first | omega | assumption | (simp only [mk_len, List.length_map]; omega) | decide) : wr P d sw_c493 sw_h493 (0, [r0, vi x1], [], h, kc, ks) Q := by
  refine w_ld rfl rfl (Or.inr (Or.inr ⟨by decide, y1⟩)) ?_
  subst e_q2
  refine w_getf rfl g4 n6 ?_
  refine w_ld rfl rfl (Or.inl ⟨by decide, rfl⟩) ?_
  subst e_q7
  refine w_iald rfl g9 (Or.inl rfl) c12 c11 c10 ?_
  exact w_if1 rfl c13 k1 k2

theorem k493_9 {P : s_P} {d : Nat} {Q : s_O → Prop} {h : s_H} {kc ks : Nat} {r0 : Term} {x1 : Int} {q2 : Nat} {f3 : List Term} (g4 : s_get h q2 = some (1, 11, f3)) (k : wm P d 474 [.index q2, vi x1] h (wq P d sw_c493 sw_h493 14 [.index q2, vi x1] [] kc ks Q)) (e_q2 : r0 = .index q2 := by first | rfl | assumption) (y1 : s_ty r0 = 3 := by first | rfl | assumption)  : wr P d sw_c493 sw_h493 (9, [r0, vi x1], [], h, kc, ks) Q := by
  refine w_ld rfl rfl (Or.inr (Or.inr ⟨by decide, y1⟩)) ?_
  refine w_ld rfl rfl (Or.inl ⟨by decide, rfl⟩) ?_
  subst e_q2
  exact w_cv rfl [.index q2, vi x1] [] rfl rfl (s_wt_4 rfl) rfl g4 k

theorem k493_14 {P : s_P} {d : Nat} {Q : s_O → Prop} {h : s_H} {kc ks : Nat} {r0 : Term} {x1 s0 : Int}  (k1 : s0 ≠ 0 → wr P d sw_c493 sw_h493 (21, [r0, vi x1], [], h, kc, ks) Q) (k2 : ¬ s0 ≠ 0 → wr P d sw_c493 sw_h493 (17, [r0, vi x1], [], h, kc, ks) Q)  (c1 : In3 s0 := by first | omega | assumption | (simp only [mk_len, List.length_map]; omega) | decide) : wr P d sw_c493 sw_h493 (14, [r0, vi x1], [vi s0], h, kc, ks) Q := by
  exact w_if1 rfl c1 k1 k2

theorem k493_17 {P : s_P} {d : Nat} {Q : s_O → Prop} {h : s_H} {kc ks : Nat} {r0 : Term} {x1 : Int}  (k : wr P d sw_c493 sw_h493 (22, [r0, vi x1], [vi 1], h, kc, ks) Q)   : wr P d sw_c493 sw_h493 (17, [r0, vi x1], [], h, kc, ks) Q := by
  refine w_c32 rfl (by decide) 1 (by decide) ?_
  refine w_goto rfl ?_
  exact k

theorem k493_21 {P : s_P} {d : Nat} {Q : s_O → Prop} {h : s_H} {kc ks : Nat} {r0 : Term} {x1 : Int}  (k : wr P d sw_c493 sw_h493 (22, [r0, vi x1], [vi 0], h, kc, ks) Q)   : wr P d sw_c493 sw_h493 (21, [r0, vi x1], [], h, kc, ks) Q := by
  refine w_c32 rfl (by decide) 0 (by decide) ?_
  exact k

theorem k493_22 {P : s_P} {d : Nat} {Q : s_O → Prop} {h : s_H} {kc ks : Nat} {r0 : Term} {x1 s0 : Int}  (k : Q (.inl (some (vi s0)), h, kc, ks))  (c1 : s0 = 0 ∨ s0 = 1 := by first | omega | assumption | (simp only [mk_len, List.length_map]; omega) | decide) : wr P d sw_c493 sw_h493 (22, [r0, vi x1], [vi s0], h, kc, ks) Q := by
  exact w_zret rfl c1 k

/-! 494: FormulaWorksModel.isWorked(I)Z -/
theorem k494_0 {P : s_P} {d : Nat} {Q : s_O → Prop} {h : s_H} {kc ks : Nat} {r0 : Term} {x1 : Int} {t2 t3 t4 : Term} {q2 : Nat} {f3 : List Term} (g4 : s_get h q2 = some (1, 11, f3)) (k : wm P d 460 [.index q2, vi x1] h (wq P d sw_c494 sw_h494 5 [.index q2, vi x1, t2, t3, t4] [] kc ks Q)) (e_q2 : r0 = .index q2 := by first | rfl | assumption) (y1 : s_ty r0 = 3 := by first | rfl | assumption)  : wr P d sw_c494 sw_h494 (0, [r0, vi x1, t2, t3, t4], [], h, kc, ks) Q := by
  refine w_ld rfl rfl (Or.inr (Or.inr ⟨by decide, y1⟩)) ?_
  refine w_ld rfl rfl (Or.inl ⟨by decide, rfl⟩) ?_
  subst e_q2
  exact w_cv rfl [.index q2, vi x1] [] rfl rfl (s_wt_4 rfl) rfl g4 k

theorem k494_5 {P : s_P} {d : Nat} {Q : s_O → Prop} {h : s_H} {kc ks : Nat} {r0 : Term} {x1 : Int} {t2 t3 t4 : Term} {s0 : Int} {q2 : Nat} {f3 : List Term} {v5 : Term} {q7 : Nat} {a8 : List Int} {v13 : Term} {q15 : Nat} {a16 : List Int} (g4 : s_get h q2 = some (1, 11, f3)) (g9 : s_get h q7 = some (0, 0, a8.map vi)) (g17 : s_get h q15 = some (0, 0, a16.map vi)) (k1 : gi a8 x1 ≤ gi a16 x1 → wr P d sw_c494 sw_h494 (25, [.index q2, vi x1, vi s0, t3, t4], [], h, kc, ks) Q) (k2 : ¬ gi a8 x1 ≤ gi a16 x1 → wr P d sw_c494 sw_h494 (21, [.index q2, vi x1, vi s0, t3, t4], [], h, kc, ks) Q) (e_q2 : r0 = .index q2 := by first | rfl | assumption) (e_q7 : v5 = .index q7 := by first | rfl | assumption) (e_q15 : v13 = .index q15 := by first | rfl | assumption) (y1 : s_ty r0 = 3 := by first | rfl | assumption) (n6 : s_nth f3 109 = some v5 := by first | rfl | assumption) (n14 : s_nth f3 108 = some v13 := by first | rfl | assumption) (c10 : x1 < a8.length := by first | omega | assumption | (simp only [mk_len, List.length_map]; omega) | decide) (c11 : 0 ≤ x1 := by first | omega | assumption | (simp only [mk_len, List.length_map]; omega) | decide) (c12 : In3 x1 := by first | omega | assumption | (simp only [mk_len, List.length_map]; omega) | decide) (c18 : x1 < a16.length := by first | omega | assumption | (simp only [mk_len, List.length_map]; omega) | decide) (c19 : In3 (gi a8 x1) := by first | omega | assumption | (simp only [mk_len, List.length_map]; omega) | decide) (c20 : In3 (gi a16 x1) := by first | omega | assumption | (simp only [mk_len, List.length_map]; omega) | decide) : wr P d sw_c494 sw_h494 (5, [r0, vi x1, t2, t3, t4], [vi s0], h, kc, ks) Q := by
  refine w_st (ls' := [r0, vi x1, vi s0, t3, t4]) rfl (Or.inl ⟨by decide, rfl⟩) rfl ?_
  refine w_ld rfl rfl (Or.inr (Or.inr ⟨by decide, y1⟩)) ?_
  subst e_q2
  refine w_getf rfl g4 n6 ?_
  refine w_ld rfl rfl (Or.inl ⟨by decide, rfl⟩) ?_
  subst e_q7
  refine w_iald rfl g9 (Or.inl rfl) c12 c11 c10 ?_
  refine w_ld rfl rfl (Or.inr (Or.inr ⟨by decide, rfl⟩)) ?_
  refine w_getf rfl g4 n14 ?_
  refine w_ld rfl rfl (Or.inl ⟨by decide, rfl⟩) ?_
  subst e_q15
  refine w_iald rfl g17 (Or.inl rfl) c12 c11 c18 ?_
  exact w_if2 rfl c19 c20 k1 k2

theorem k494_21 {P : s_P} {d : Nat} {Q : s_O → Prop} {h : s_H} {kc ks : Nat} {r0 : Term} {x1 x2 : Int} {t3 t4 : Term}  (k : wr P d sw_c494 sw_h494 (26, [r0, vi x1, vi x2, t3, t4], [vi 1], h, kc, ks) Q)   : wr P d sw_c494 sw_h494 (21, [r0, vi x1, vi x2, t3, t4], [], h, kc, ks) Q := by
  refine w_c32 rfl (by decide) 1 (by decide) ?_
  refine w_goto rfl ?_
  exact k

theorem k494_25 {P : s_P} {d : Nat} {Q : s_O → Prop} {h : s_H} {kc ks : Nat} {r0 : Term} {x1 x2 : Int} {t3 t4 : Term}  (k : wr P d sw_c494 sw_h494 (26, [r0, vi x1, vi x2, t3, t4], [vi 0], h, kc, ks) Q)   : wr P d sw_c494 sw_h494 (25, [r0, vi x1, vi x2, t3, t4], [], h, kc, ks) Q := by
  refine w_c32 rfl (by decide) 0 (by decide) ?_
  exact k

theorem k494_26 {P : s_P} {d : Nat} {Q : s_O → Prop} {h : s_H} {kc ks : Nat} {r0 : Term} {x1 x2 : Int} {t3 t4 : Term} {s0 : Int}  (k : wr P d sw_c494 sw_h494 (30, [r0, vi x1, vi x2, vi s0, vi 0], [], h, kc, ks) Q)   : wr P d sw_c494 sw_h494 (26, [r0, vi x1, vi x2, t3, t4], [vi s0], h, kc, ks) Q := by
  refine w_st (ls' := [r0, vi x1, vi x2, vi s0, t4]) rfl (Or.inl ⟨by decide, rfl⟩) rfl ?_
  refine w_c32 rfl (by decide) 0 (by decide) ?_
  refine w_st (ls' := [r0, vi x1, vi x2, vi s0, vi 0]) rfl (Or.inl ⟨by decide, rfl⟩) rfl ?_
  exact k

theorem k494_30 {P : s_P} {d : Nat} {Q : s_O → Prop} {h : s_H} {kc ks : Nat} {r0 : Term} {x1 x2 x3 x4 : Int}  (k1 : 16 ≤ x4 → wr P d sw_c494 sw_h494 (78, [r0, vi x1, vi x2, vi x3, vi x4], [], h, kc, ks) Q) (k2 : ¬ 16 ≤ x4 → wr P d sw_c494 sw_h494 (37, [r0, vi x1, vi x2, vi x3, vi x4], [], h, kc, ks) Q)  (c1 : In3 x4 := by first | omega | assumption | (simp only [mk_len, List.length_map]; omega) | decide) : wr P d sw_c494 sw_h494 (30, [r0, vi x1, vi x2, vi x3, vi x4], [], h, kc, ks) Q := by
  refine w_ld rfl rfl (Or.inl ⟨by decide, rfl⟩) ?_
  refine w_c32 rfl (by decide) 16 (by decide) ?_
  exact w_if2 rfl c1 (by decide) k1 k2

theorem k494_37 {P : s_P} {d : Nat} {Q : s_O → Prop} {h : s_H} {kc ks : Nat} {r0 : Term} {x1 x2 x3 x4 : Int}  (k1 : x3 = 0 → wr P d sw_c494 sw_h494 (70, [r0, vi x1, vi x2, vi x3, vi x4], [], h, kc, ks) Q) (k2 : ¬ x3 = 0 → wr P d sw_c494 sw_h494 (41, [r0, vi x1, vi x2, vi x3, vi x4], [], h, kc, ks) Q)  (c1 : In3 x3 := by first | omega | assumption | (simp only [mk_len, List.length_map]; omega) | decide) : wr P d sw_c494 sw_h494 (37, [r0, vi x1, vi x2, vi x3, vi x4], [], h, kc, ks) Q := by
  refine w_ld rfl rfl (Or.inl ⟨by decide, rfl⟩) ?_
  exact w_if1 rfl c1 k1 k2

theorem k494_41 {P : s_P} {d : Nat} {Q : s_O → Prop} {h : s_H} {kc ks : Nat} {r0 : Term} {x1 x2 x3 x4 : Int}  (k1 : zi 24 (zi 28 x2 x4) 1 = 0 → wr P d sw_c494 sw_h494 (66, [r0, vi x1, vi x2, vi x3, vi x4], [], h, kc, ks) Q) (k2 : ¬ zi 24 (zi 28 x2 x4) 1 = 0 → wr P d sw_c494 sw_h494 (50, [r0, vi x1, vi x2, vi x3, vi x4], [], h, kc, ks) Q)  (c1 : In3 (zi 24 (zi 28 x2 x4) 1) := by first | omega | assumption | (simp only [mk_len, List.length_map]; omega) | decide) : wr P d sw_c494 sw_h494 (41, [r0, vi x1, vi x2, vi x3, vi x4], [], h, kc, ks) Q := by
  refine w_ld rfl rfl (Or.inl ⟨by decide, rfl⟩) ?_
  refine w_ld rfl rfl (Or.inl ⟨by decide, rfl⟩) ?_
  refine w_ib rfl (by decide) ?_
  refine w_c32 rfl (by decide) 1 (by decide) ?_
  refine w_ib rfl (by decide) ?_
  exact w_if1 rfl c1 k1 k2

theorem k494_50 {P : s_P} {d : Nat} {Q : s_O → Prop} {h : s_H} {kc ks : Nat} {r0 : Term} {x1 x2 x3 x4 : Int} {q2 : Nat} {f3 : List Term} {v5 : Term} {q7 : Nat} {a8 : List Int} {v13 : Term} {q15 : Nat} {a16 : List Int} (g4 : s_get h q2 = some (1, 11, f3)) (g9 : s_get h q7 = some (0, 0, a8.map vi)) (g17 : s_get h q15 = some (0, 0, a16.map vi)) (k1 : gi a8 x1 ≤ gi a16 x4 → wr P d sw_c494 sw_h494 (70, [.index q2, vi x1, vi x2, vi x3, vi x4], [], h, kc, ks) Q) (k2 : ¬ gi a8 x1 ≤ gi a16 x4 → wr P d sw_c494 sw_h494 (66, [.index q2, vi x1, vi x2, vi x3, vi x4], [], h, kc, ks) Q) (e_q2 : r0 = .index q2 := by first | rfl | assumption) (e_q7 : v5 = .index q7 := by first | rfl | assumption) (e_q15 : v13 = .index q15 := by first | rfl | assumption) (y1 : s_ty r0 = 3 := by first | rfl | assumption) (n6 : s_nth f3 109 = some v5 := by first | rfl | assumption) (n14 : s_nth f3 108 = some v13 := by first | rfl | assumption) (c10 : x1 < a8.length := by first | omega | assumption | (simp only [mk_len, List.length_map]; omega) | decide) (c11 : 0 ≤ x1 := by first | omega | assumption | (simp only [mk_len, List.length_map]; omega) | decide) (c12 : In3 x1 := by first | omega | assumption | (simp only [mk_len, List.length_map]; omega) | decide) (c18 : x4 < a16.length := by first | omega | assumption | (simp only [mk_len, List.length_map]; omega) | decide) (c19 : 0 ≤ x4 := by first | omega | assumption | (simp only [mk_len, List.length_map]; omega) | decide) (c20 : In3 x4 := by first | omega | assumption | (simp only [mk_len, List.length_map]; omega) | decide) (c21 : In3 (gi a8 x1) := by first | omega | assumption | (simp only [mk_len, List.length_map]; omega) | decide) (c22 : In3 (gi a16 x4) := by first | omega | assumption | (simp only [mk_len, List.length_map]; omega) | decide) : wr P d sw_c494 sw_h494 (50, [r0, vi x1, vi x2, vi x3, vi x4], [], h, kc, ks) Q := by
  refine w_ld rfl rfl (Or.inr (Or.inr ⟨by decide, y1⟩)) ?_
  subst e_q2
  refine w_getf rfl g4 n6 ?_
  refine w_ld rfl rfl (Or.inl ⟨by decide, rfl⟩) ?_
  subst e_q7
  refine w_iald rfl g9 (Or.inl rfl) c12 c11 c10 ?_
  refine w_ld rfl rfl (Or.inr (Or.inr ⟨by decide, rfl⟩)) ?_
  refine w_getf rfl g4 n14 ?_
  refine w_ld rfl rfl (Or.inl ⟨by decide, rfl⟩) ?_
  subst e_q15
  refine w_iald rfl g17 (Or.inl rfl) c20 c19 c18 ?_
  exact w_if2 rfl c21 c22 k1 k2

theorem k494_66 {P : s_P} {d : Nat} {Q : s_O → Prop} {h : s_H} {kc ks : Nat} {r0 : Term} {x1 x2 x3 x4 : Int}  (k : wr P d sw_c494 sw_h494 (71, [r0, vi x1, vi x2, vi x3, vi x4], [vi 1], h, kc, ks) Q)   : wr P d sw_c494 sw_h494 (66, [r0, vi x1, vi x2, vi x3, vi x4], [], h, kc, ks) Q := by
  refine w_c32 rfl (by decide) 1 (by decide) ?_
  refine w_goto rfl ?_
  exact k

theorem k494_70 {P : s_P} {d : Nat} {Q : s_O → Prop} {h : s_H} {kc ks : Nat} {r0 : Term} {x1 x2 x3 x4 : Int}  (k : wr P d sw_c494 sw_h494 (71, [r0, vi x1, vi x2, vi x3, vi x4], [vi 0], h, kc, ks) Q)   : wr P d sw_c494 sw_h494 (70, [r0, vi x1, vi x2, vi x3, vi x4], [], h, kc, ks) Q := by
  refine w_c32 rfl (by decide) 0 (by decide) ?_
  exact k

theorem k494_71 {P : s_P} {d : Nat} {Q : s_O → Prop} {h : s_H} {kc ks : Nat} {r0 : Term} {x1 x2 x3 x4 s0 : Int}  (k : wr P d sw_c494 sw_h494 (30, [r0, vi x1, vi x2, vi s0, vi (x4 + 1)], [], h, kc, ks) Q)   : wr P d sw_c494 sw_h494 (71, [r0, vi x1, vi x2, vi x3, vi x4], [vi s0], h, kc, ks) Q := by
  refine w_st (ls' := [r0, vi x1, vi x2, vi s0, vi x4]) rfl (Or.inl ⟨by decide, rfl⟩) rfl ?_
  refine w_iinc (ls' := [r0, vi x1, vi x2, vi s0, vi (x4 + 1)]) rfl rfl 1 (by decide) rfl ?_
  refine w_goto rfl ?_
  exact k

theorem k494_78 {P : s_P} {d : Nat} {Q : s_O → Prop} {h : s_H} {kc ks : Nat} {r0 : Term} {x1 x2 x3 x4 : Int}  (k : Q (.inl (some (vi x3)), h, kc, ks))  (c1 : x3 = 0 ∨ x3 = 1 := by first | omega | assumption | (simp only [mk_len, List.length_map]; omega) | decide) : wr P d sw_c494 sw_h494 (78, [r0, vi x1, vi x2, vi x3, vi x4], [], h, kc, ks) Q := by
  refine w_ld rfl rfl (Or.inl ⟨by decide, rfl⟩) ?_
  exact w_zret rfl c1 k

/-! 495: FormulaWorksModel.keep(I)I -/
theorem k495_0 {P : s_P} {d : Nat} {Q : s_O → Prop} {h : s_H} {kc ks : Nat} {r0 : Term} {x1 : Int} {t2 : Term} {q2 : Nat} {f3 : List Term} {z5 : Int} (g4 : s_get h q2 = some (1, 11, f3)) (k1 : z5 = 150 → wr P d sw_c495 sw_h495 (17, [.index q2, vi x1, t2], [], h, kc, ks) Q) (k2 : ¬ z5 = 150 → wr P d sw_c495 sw_h495 (10, [.index q2, vi x1, t2], [], h, kc, ks) Q) (e_q2 : r0 = .index q2 := by first | rfl | assumption) (y1 : s_ty r0 = 3 := by first | rfl | assumption) (n6 : s_nth f3 1 = some (vi z5) := by first | rfl | assumption) (c7 : In3 z5 := by first | omega | assumption | (simp only [mk_len, List.length_map]; omega) | decide) : wr P d sw_c495 sw_h495 (0, [r0, vi x1, t2], [], h, kc, ks) Q := by
  refine w_ld rfl rfl (Or.inr (Or.inr ⟨by decide, y1⟩)) ?_
  subst e_q2
  refine w_getf rfl g4 n6 ?_
  refine w_c32 rfl (by decide) 150 (by decide) ?_
  exact w_if2 rfl c7 (by decide) k1 k2

theorem k495_10 {P : s_P} {d : Nat} {Q : s_O → Prop} {h : s_H} {kc ks : Nat} {r0 : Term} {x1 : Int} {t2 : Term} {q2 : Nat} {f3 : List Term} (g4 : s_get h q2 = some (1, 11, f3)) (k : wm P d 479 [.index q2] h (wq P d sw_c495 sw_h495 14 [.index q2, vi x1, t2] [] kc ks Q)) (e_q2 : r0 = .index q2 := by first | rfl | assumption) (y1 : s_ty r0 = 3 := by first | rfl | assumption)  : wr P d sw_c495 sw_h495 (10, [r0, vi x1, t2], [], h, kc, ks) Q := by
  refine w_ld rfl rfl (Or.inr (Or.inr ⟨by decide, y1⟩)) ?_
  subst e_q2
  exact w_cv rfl [.index q2] [] rfl rfl (s_wt_4 rfl) rfl g4 k

theorem k495_14 {P : s_P} {d : Nat} {Q : s_O → Prop} {h : s_H} {kc ks : Nat} {r0 : Term} {x1 : Int} {t2 : Term} {s0 : Int}  (k1 : s0 = 0 → wr P d sw_c495 sw_h495 (23, [r0, vi x1, t2], [], h, kc, ks) Q) (k2 : ¬ s0 = 0 → wr P d sw_c495 sw_h495 (17, [r0, vi x1, t2], [], h, kc, ks) Q)  (c1 : In3 s0 := by first | omega | assumption | (simp only [mk_len, List.length_map]; omega) | decide) : wr P d sw_c495 sw_h495 (14, [r0, vi x1, t2], [vi s0], h, kc, ks) Q := by
  exact w_if1 rfl c1 k1 k2

theorem k495_17 {P : s_P} {d : Nat} {Q : s_O → Prop} {h : s_H} {kc ks : Nat} {r0 : Term} {x1 : Int} {t2 : Term} {q2 : Nat} {f3 : List Term} (g4 : s_get h q2 = some (1, 11, f3)) (k : wm P d 570 [.index q2, vi x1] h (wq P d sw_c495 sw_h495 22 [.index q2, vi x1, t2] [] kc ks Q)) (e_q2 : r0 = .index q2 := by first | rfl | assumption) (y1 : s_ty r0 = 3 := by first | rfl | assumption)  : wr P d sw_c495 sw_h495 (17, [r0, vi x1, t2], [], h, kc, ks) Q := by
  refine w_ld rfl rfl (Or.inr (Or.inr ⟨by decide, y1⟩)) ?_
  refine w_ld rfl rfl (Or.inl ⟨by decide, rfl⟩) ?_
  subst e_q2
  exact w_cv rfl [.index q2, vi x1] [] rfl rfl (s_wt_4 rfl) rfl g4 k

theorem k495_22 {P : s_P} {d : Nat} {Q : s_O → Prop} {h : s_H} {kc ks : Nat} {r0 : Term} {x1 : Int} {t2 : Term} {s0 : Int}  (k : Q (.inl (some (vi s0)), h, kc, ks))   : wr P d sw_c495 sw_h495 (22, [r0, vi x1, t2], [vi s0], h, kc, ks) Q := by
  exact w_iret rfl k

theorem k495_23 {P : s_P} {d : Nat} {Q : s_O → Prop} {h : s_H} {kc ks : Nat} {r0 : Term} {x1 : Int} {t2 : Term} {q2 : Nat} {f3 f7 : List Term} {v9 : Term} {z11 : Int} {q13 : Nat} {a14 : List Int} (g4 : s_get h q2 = some (1, 11, f3)) (g8 : s_get (hp h q2 (1, 11, f3.set 0 (vi 0))) q2 = some (1, 11, f7)) (g15 : s_get (hp h q2 (1, 11, f3.set 0 (vi 0))) q13 = some (0, 0, a14.map vi)) (k : wr P d sw_c495 sw_h495 (40, [.index q2, vi x1, vi 0], [], (hp (hp h q2 (1, 11, f3.set 0 (vi 0))) q13 (0, 0, (a14.set (Int.toNat (z11)) 0).map vi)), kc, ks) Q) (e_q2 : r0 = .index q2 := by first | rfl | assumption) (e_q13 : v9 = .index q13 := by first | rfl | assumption) (y1 : s_ty r0 = 3 := by first | rfl | assumption) (l5 : 0 < f3.length := by first | exact Nat.le_of_ble_eq_true rfl | omega | assumption) (n10 : s_nth f7 2 = some v9 := by first | rfl | assumption) (n12 : s_nth f7 1 = some (vi z11) := by first | rfl | assumption) (c6 : 0 < q2 := by first | omega | assumption | (simp only [mk_len, List.length_map]; omega) | decide) (c16 : z11 < a14.length := by first | omega | assumption | (simp only [mk_len, List.length_map]; omega) | decide) (c17 : 0 ≤ z11 := by first | omega | assumption | (simp only [mk_len, List.length_map]; omega) | decide) (c18 : In3 z11 := by first | omega | assumption | (simp only [mk_len, List.length_map]; omega) | decide) (c19 : 0 < q13 := by first | omega | assumption | (simp only [mk_len, List.length_map]; omega) | decide) : wr P d sw_c495 sw_h495 (23, [r0, vi x1, t2], [], h, kc, ks) Q := by
  refine w_ld rfl rfl (Or.inr (Or.inr ⟨by decide, y1⟩)) ?_
  refine w_c32 rfl (by decide) 0 (by decide) ?_
  subst e_q2
  refine w_putf rfl g4 (Nat.ble_eq_true_of_le c6) rfl (Nat.ble_eq_true_of_le l5) ?_
  refine w_ld rfl rfl (Or.inr (Or.inr ⟨by decide, rfl⟩)) ?_
  refine w_getf rfl g8 n10 ?_
  refine w_ld rfl rfl (Or.inr (Or.inr ⟨by decide, rfl⟩)) ?_
  refine w_getf rfl g8 n12 ?_
  refine w_c32 rfl (by decide) 0 (by decide) ?_
  subst e_q13
  refine w_iast rfl g15 (Nat.ble_eq_true_of_le c19) c18 c17 c16 ?_
  refine w_c32 rfl (by decide) 0 (by decide) ?_
  refine w_st (ls' := [.index q2, vi x1, vi 0]) rfl (Or.inl ⟨by decide, rfl⟩) rfl ?_
  exact k

theorem k495_40 {P : s_P} {d : Nat} {Q : s_O → Prop} {h : s_H} {kc ks : Nat} {r0 : Term} {x1 x2 : Int}  (k1 : 40 < x2 → wr P d sw_c495 sw_h495 (94, [r0, vi x1, vi x2], [], h, kc, ks) Q) (k2 : ¬ 40 < x2 → wr P d sw_c495 sw_h495 (46, [r0, vi x1, vi x2], [], h, kc, ks) Q)  (c1 : In3 x2 := by first | omega | assumption | (simp only [mk_len, List.length_map]; omega) | decide) : wr P d sw_c495 sw_h495 (40, [r0, vi x1, vi x2], [], h, kc, ks) Q := by
  refine w_ld rfl rfl (Or.inl ⟨by decide, rfl⟩) ?_
  refine w_c32 rfl (by decide) 40 (by decide) ?_
  exact w_if2 rfl c1 (by decide) k1 k2

theorem k495_46 {P : s_P} {d : Nat} {Q : s_O → Prop} {h : s_H} {kc ks : Nat} {r0 : Term} {x1 x2 : Int} {q2 : Nat} {f3 : List Term} {v5 : Term} {z7 : Int} {v9 : Term} {q11 : Nat} {a12 : List Int} {q17 : Nat} {a18 : List Int} {f24 : List Term} {v26 : Term} {z28 : Int} {v30 : Term} {q32 : Nat} {a33 : List Int} {q36 : Nat} {a37 : List Int} (g4 : s_get h q2 = some (1, 11, f3)) (g13 : s_get h q11 = some (0, 1, a12.map vl)) (g19 : s_get h q17 = some (0, 0, a18.map vi)) (g25 : s_get (hp h q17 (0, 0, (a18.set (Int.toNat ((41 * z7) + x2)) (gi a12 x2)).map vi)) q2 = some (1, 11, f24)) (g34 : s_get (hp h q17 (0, 0, (a18.set (Int.toNat ((41 * z7) + x2)) (gi a12 x2)).map vi)) q32 = some (0, 1, a33.map vl)) (g38 : s_get (hp h q17 (0, 0, (a18.set (Int.toNat ((41 * z7) + x2)) (gi a12 x2)).map vi)) q36 = some (0, 0, a37.map vi)) (k : wr P d sw_c495 sw_h495 (40, [.index q2, vi x1, vi (x2 + 1)], [], (hp (hp h q17 (0, 0, (a18.set (Int.toNat ((41 * z7) + x2)) (gi a12 x2)).map vi)) q36 (0, 0, (a37.set (Int.toNat ((41 * z28) + x2)) (gi a33 x2)).map vi)), kc, ks) Q) (e_q2 : r0 = .index q2 := by first | rfl | assumption) (e_q11 : v9 = .index q11 := by first | rfl | assumption) (e_q17 : v5 = .index q17 := by first | rfl | assumption) (e_q32 : v30 = .index q32 := by first | rfl | assumption) (e_q36 : v26 = .index q36 := by first | rfl | assumption) (y1 : s_ty r0 = 3 := by first | rfl | assumption) (n6 : s_nth f3 3 = some v5 := by first | rfl | assumption) (n8 : s_nth f3 1 = some (vi z7) := by first | rfl | assumption) (n10 : s_nth f3 14 = some v9 := by first | rfl | assumption) (n27 : s_nth f24 4 = some v26 := by first | rfl | assumption) (n29 : s_nth f24 1 = some (vi z28) := by first | rfl | assumption) (n31 : s_nth f24 15 = some v30 := by first | rfl | assumption) (c14 : x2 < a12.length := by first | omega | assumption | (simp only [mk_len, List.length_map]; omega) | decide) (c15 : 0 ≤ x2 := by first | omega | assumption | (simp only [mk_len, List.length_map]; omega) | decide) (c16 : In3 x2 := by first | omega | assumption | (simp only [mk_len, List.length_map]; omega) | decide) (c20 : (41 * z7) + x2 < a18.length := by first | omega | assumption | (simp only [mk_len, List.length_map]; omega) | decide) (c21 : 0 ≤ (41 * z7) + x2 := by first | omega | assumption | (simp only [mk_len, List.length_map]; omega) | decide) (c22 : In3 ((41 * z7) + x2) := by first | omega | assumption | (simp only [mk_len, List.length_map]; omega) | decide) (c23 : 0 < q17 := by first | omega | assumption | (simp only [mk_len, List.length_map]; omega) | decide) (c35 : x2 < a33.length := by first | omega | assumption | (simp only [mk_len, List.length_map]; omega) | decide) (c39 : (41 * z28) + x2 < a37.length := by first | omega | assumption | (simp only [mk_len, List.length_map]; omega) | decide) (c40 : 0 ≤ (41 * z28) + x2 := by first | omega | assumption | (simp only [mk_len, List.length_map]; omega) | decide) (c41 : In3 ((41 * z28) + x2) := by first | omega | assumption | (simp only [mk_len, List.length_map]; omega) | decide) (c42 : 0 < q36 := by first | omega | assumption | (simp only [mk_len, List.length_map]; omega) | decide) : wr P d sw_c495 sw_h495 (46, [r0, vi x1, vi x2], [], h, kc, ks) Q := by
  refine w_ld rfl rfl (Or.inr (Or.inr ⟨by decide, y1⟩)) ?_
  subst e_q2
  refine w_getf rfl g4 n6 ?_
  refine w_c32 rfl (by decide) 41 (by decide) ?_
  refine w_ld rfl rfl (Or.inr (Or.inr ⟨by decide, rfl⟩)) ?_
  refine w_getf rfl g4 n8 ?_
  refine w_imul rfl ?_
  refine w_ld rfl rfl (Or.inl ⟨by decide, rfl⟩) ?_
  refine w_iadd rfl ?_
  refine w_ld rfl rfl (Or.inr (Or.inr ⟨by decide, rfl⟩)) ?_
  refine w_getf rfl g4 n10 ?_
  refine w_ld rfl rfl (Or.inl ⟨by decide, rfl⟩) ?_
  subst e_q11
  refine w_lald rfl g13 c16 c15 c14 ?_
  refine w_l2i rfl ?_
  subst e_q17
  refine w_iast rfl g19 (Nat.ble_eq_true_of_le c23) c22 c21 c20 ?_
  refine w_ld rfl rfl (Or.inr (Or.inr ⟨by decide, rfl⟩)) ?_
  refine w_getf rfl g25 n27 ?_
  refine w_c32 rfl (by decide) 41 (by decide) ?_
  refine w_ld rfl rfl (Or.inr (Or.inr ⟨by decide, rfl⟩)) ?_
  refine w_getf rfl g25 n29 ?_
  refine w_imul rfl ?_
  refine w_ld rfl rfl (Or.inl ⟨by decide, rfl⟩) ?_
  refine w_iadd rfl ?_
  refine w_ld rfl rfl (Or.inr (Or.inr ⟨by decide, rfl⟩)) ?_
  refine w_getf rfl g25 n31 ?_
  refine w_ld rfl rfl (Or.inl ⟨by decide, rfl⟩) ?_
  subst e_q32
  refine w_lald rfl g34 c16 c15 c35 ?_
  refine w_l2i rfl ?_
  subst e_q36
  refine w_iast rfl g38 (Nat.ble_eq_true_of_le c42) c41 c40 c39 ?_
  refine w_iinc (ls' := [.index q2, vi x1, vi (x2 + 1)]) rfl rfl 1 (by decide) rfl ?_
  refine w_goto rfl ?_
  exact k

theorem k495_94 {P : s_P} {d : Nat} {Q : s_O → Prop} {h : s_H} {kc ks : Nat} {r0 : Term} {x1 x2 : Int} {q2 : Nat} {f3 : List Term} {z5 : Int} {f9 : List Term} {z11 : Int} (g4 : s_get h q2 = some (1, 11, f3)) (g10 : s_get (hp h q2 (1, 11, f3.set 1 (vi (z5 + 1)))) q2 = some (1, 11, f9)) (k : Q (.inl (some (vi (z11 - 1))), (hp h q2 (1, 11, f3.set 1 (vi (z5 + 1)))), kc, ks)) (e_q2 : r0 = .index q2 := by first | rfl | assumption) (y1 : s_ty r0 = 3 := by first | rfl | assumption) (n6 : s_nth f3 1 = some (vi z5) := by first | rfl | assumption) (l7 : 1 < f3.length := by first | exact Nat.le_of_ble_eq_true rfl | omega | assumption) (n12 : s_nth f9 1 = some (vi z11) := by first | rfl | assumption) (c8 : 0 < q2 := by first | omega | assumption | (simp only [mk_len, List.length_map]; omega) | decide) : wr P d sw_c495 sw_h495 (94, [r0, vi x1, vi x2], [], h, kc, ks) Q := by
  refine w_ld rfl rfl (Or.inr (Or.inr ⟨by decide, y1⟩)) ?_
  refine w_dup rfl (by rw [y1]; rfl) ?_
  subst e_q2
  refine w_getf rfl g4 n6 ?_
  refine w_c32 rfl (by decide) 1 (by decide) ?_
  refine w_iadd rfl ?_
  refine w_putf rfl g4 (Nat.ble_eq_true_of_le c8) rfl (Nat.ble_eq_true_of_le l7) ?_
  refine w_ld rfl rfl (Or.inr (Or.inr ⟨by decide, rfl⟩)) ?_
  refine w_getf rfl g10 n12 ?_
  refine w_c32 rfl (by decide) 1 (by decide) ?_
  refine w_isub rfl ?_
  exact w_iret rfl k

/-! 496: FormulaWorksModel.keepEntry([JII)V -/
theorem k496_0 {P : s_P} {d : Nat} {Q : s_O → Prop} {h : s_H} {kc ks : Nat} {r0 r1 : Term} {x2 x3 : Int} {t4 : Term}  (k : wr P d sw_c496 sw_h496 (3, [r0, r1, vi x2, vi x3, vi 0], [], h, kc, ks) Q)   : wr P d sw_c496 sw_h496 (0, [r0, r1, vi x2, vi x3, t4], [], h, kc, ks) Q := by
  refine w_c32 rfl (by decide) 0 (by decide) ?_
  refine w_st (ls' := [r0, r1, vi x2, vi x3, vi 0]) rfl (Or.inl ⟨by decide, rfl⟩) rfl ?_
  exact k

theorem k496_3 {P : s_P} {d : Nat} {Q : s_O → Prop} {h : s_H} {kc ks : Nat} {r0 r1 : Term} {x2 x3 x4 : Int}  (k1 : 10 < x4 → wr P d sw_c496 sw_h496 (46, [r0, r1, vi x2, vi x3, vi x4], [], h, kc, ks) Q) (k2 : ¬ 10 < x4 → wr P d sw_c496 sw_h496 (10, [r0, r1, vi x2, vi x3, vi x4], [], h, kc, ks) Q)  (c1 : In3 x4 := by first | omega | assumption | (simp only [mk_len, List.length_map]; omega) | decide) : wr P d sw_c496 sw_h496 (3, [r0, r1, vi x2, vi x3, vi x4], [], h, kc, ks) Q := by
  refine w_ld rfl rfl (Or.inl ⟨by decide, rfl⟩) ?_
  refine w_c32 rfl (by decide) 10 (by decide) ?_
  exact w_if2 rfl c1 (by decide) k1 k2

theorem k496_10 {P : s_P} {d : Nat} {Q : s_O → Prop} {h : s_H} {kc ks : Nat} {r0 r1 : Term} {x2 x3 x4 : Int} {q2 : Nat} {f3 : List Term} {v5 : Term} {z7 : Int} {q10 : Nat} {a11 : List Int} {q16 : Nat} {a17 : List Int} (g4 : s_get h q2 = some (1, 11, f3)) (g12 : s_get h q10 = some (0, 1, a11.map vl)) (g18 : s_get h q16 = some (0, 0, a17.map vi)) (k : wr P d sw_c496 sw_h496 (3, [.index q2, .index q10, vi x2, vi x3, vi (x4 + 1)], [], (hp h q16 (0, 0, (a17.set (Int.toNat (((176 * z7) + (11 * ((4 * x2) + x3))) + x4)) (gi a11 x4)).map vi)), kc, ks) Q) (e_q2 : r0 = .index q2 := by first | rfl | assumption) (e_q10 : r1 = .index q10 := by first | rfl | assumption) (e_q16 : v5 = .index q16 := by first | rfl | assumption) (y1 : s_ty r0 = 3 := by first | rfl | assumption) (n6 : s_nth f3 7 = some v5 := by first | rfl | assumption) (n8 : s_nth f3 1 = some (vi z7) := by first | rfl | assumption) (y9 : s_ty r1 = 3 := by first | rfl | assumption) (c13 : x4 < a11.length := by first | omega | assumption | (simp only [mk_len, List.length_map]; omega) | decide) (c14 : 0 ≤ x4 := by first | omega | assumption | (simp only [mk_len, List.length_map]; omega) | decide) (c15 : In3 x4 := by first | omega | assumption | (simp only [mk_len, List.length_map]; omega) | decide) (c19 : ((176 * z7) + (11 * ((4 * x2) + x3))) + x4 < a17.length := by first | omega | assumption | (simp only [mk_len, List.length_map]; omega) | decide) (c20 : 0 ≤ ((176 * z7) + (11 * ((4 * x2) + x3))) + x4 := by first | omega | assumption | (simp only [mk_len, List.length_map]; omega) | decide) (c21 : In3 (((176 * z7) + (11 * ((4 * x2) + x3))) + x4) := by first | omega | assumption | (simp only [mk_len, List.length_map]; omega) | decide) (c22 : 0 < q16 := by first | omega | assumption | (simp only [mk_len, List.length_map]; omega) | decide) : wr P d sw_c496 sw_h496 (10, [r0, r1, vi x2, vi x3, vi x4], [], h, kc, ks) Q := by
  refine w_ld rfl rfl (Or.inr (Or.inr ⟨by decide, y1⟩)) ?_
  subst e_q2
  refine w_getf rfl g4 n6 ?_
  refine w_c32 rfl (by decide) 176 (by decide) ?_
  refine w_ld rfl rfl (Or.inr (Or.inr ⟨by decide, rfl⟩)) ?_
  refine w_getf rfl g4 n8 ?_
  refine w_imul rfl ?_
  refine w_c32 rfl (by decide) 11 (by decide) ?_
  refine w_c32 rfl (by decide) 4 (by decide) ?_
  refine w_ld rfl rfl (Or.inl ⟨by decide, rfl⟩) ?_
  refine w_imul rfl ?_
  refine w_ld rfl rfl (Or.inl ⟨by decide, rfl⟩) ?_
  refine w_iadd rfl ?_
  refine w_imul rfl ?_
  refine w_iadd rfl ?_
  refine w_ld rfl rfl (Or.inl ⟨by decide, rfl⟩) ?_
  refine w_iadd rfl ?_
  refine w_ld rfl rfl (Or.inr (Or.inr ⟨by decide, y9⟩)) ?_
  refine w_ld rfl rfl (Or.inl ⟨by decide, rfl⟩) ?_
  subst e_q10
  refine w_lald rfl g12 c15 c14 c13 ?_
  refine w_l2i rfl ?_
  subst e_q16
  refine w_iast rfl g18 (Nat.ble_eq_true_of_le c22) c21 c20 c19 ?_
  refine w_iinc (ls' := [.index q2, .index q10, vi x2, vi x3, vi (x4 + 1)]) rfl rfl 1 (by decide) rfl ?_
  refine w_goto rfl ?_
  exact k

theorem k496_46 {P : s_P} {d : Nat} {Q : s_O → Prop} {h : s_H} {kc ks : Nat} {r0 r1 : Term} {x2 x3 x4 : Int}  (k : Q (.inl none, h, kc, ks))   : wr P d sw_c496 sw_h496 (46, [r0, r1, vi x2, vi x3, vi x4], [], h, kc, ks) Q := by
  exact w_ret rfl k

/-! 497: FormulaWorksModel.keepFactor(I[J)V -/
theorem k497_0 {P : s_P} {d : Nat} {Q : s_O → Prop} {h : s_H} {kc ks : Nat} {r0 : Term} {x1 : Int} {r2 t3 t4 : Term} {q2 : Nat} {f3 : List Term} (g4 : s_get h q2 = some (1, 11, f3)) (k : wm P d 511 [.index q2, vi x1] h (wq P d sw_c497 sw_h497 5 [.index q2, vi x1, r2, t3, t4] [] kc ks Q)) (e_q2 : r0 = .index q2 := by first | rfl | assumption) (y1 : s_ty r0 = 3 := by first | rfl | assumption)  : wr P d sw_c497 sw_h497 (0, [r0, vi x1, r2, t3, t4], [], h, kc, ks) Q := by
  refine w_ld rfl rfl (Or.inr (Or.inr ⟨by decide, y1⟩)) ?_
  refine w_ld rfl rfl (Or.inl ⟨by decide, rfl⟩) ?_
  subst e_q2
  exact w_cv rfl [.index q2, vi x1] [] rfl rfl (s_wt_4 rfl) rfl g4 k

theorem k497_5 {P : s_P} {d : Nat} {Q : s_O → Prop} {h : s_H} {kc ks : Nat} {r0 : Term} {x1 : Int} {r2 t3 t4 : Term}  (k : wr P d sw_c497 sw_h497 (7, [r0, vi x1, r2, vi 0, t4], [], h, kc, ks) Q) (y1 : s_ty r2 = 3 := by first | rfl | assumption)  : wr P d sw_c497 sw_h497 (5, [r0, vi x1, r2, t3, t4], [], h, kc, ks) Q := by
  refine w_c32 rfl (by decide) 0 (by decide) ?_
  refine w_st (ls' := [r0, vi x1, r2, vi 0, t4]) rfl (Or.inl ⟨by decide, rfl⟩) (s_stK_r (pre := [r0, vi x1]) y1) ?_
  exact k

theorem k497_7 {P : s_P} {d : Nat} {Q : s_O → Prop} {h : s_H} {kc ks : Nat} {r0 : Term} {x1 : Int} {r2 : Term} {x3 : Int} {t4 : Term}  (k1 : 42 ≤ x3 → wr P d sw_c497 sw_h497 (31, [r0, vi x1, r2, vi x3, t4], [], h, kc, ks) Q) (k2 : ¬ 42 ≤ x3 → wr P d sw_c497 sw_h497 (13, [r0, vi x1, r2, vi x3, t4], [], h, kc, ks) Q)  (c1 : In3 x3 := by first | omega | assumption | (simp only [mk_len, List.length_map]; omega) | decide) : wr P d sw_c497 sw_h497 (7, [r0, vi x1, r2, vi x3, t4], [], h, kc, ks) Q := by
  refine w_ld rfl rfl (Or.inl ⟨by decide, rfl⟩) ?_
  refine w_c32 rfl (by decide) 42 (by decide) ?_
  exact w_if2 rfl c1 (by decide) k1 k2

theorem k497_13 {P : s_P} {d : Nat} {Q : s_O → Prop} {h : s_H} {kc ks : Nat} {r0 : Term} {x1 : Int} {r2 : Term} {x3 : Int} {t4 : Term} {q2 : Nat} {f3 : List Term} {v5 : Term} {q7 : Nat} {a8 : List Int} (g4 : s_get h q2 = some (1, 11, f3)) (g9 : s_get h q7 = some (0, 1, a8.map vl)) (k : wr P d sw_c497 sw_h497 (7, [.index q2, vi x1, r2, vi (x3 + 1), t4], [], (hp h q7 (0, 1, (a8.set (Int.toNat ((42 * x1) + x3)) 0).map vl)), kc, ks) Q) (e_q2 : r0 = .index q2 := by first | rfl | assumption) (e_q7 : v5 = .index q7 := by first | rfl | assumption) (y1 : s_ty r0 = 3 := by first | rfl | assumption) (n6 : s_nth f3 34 = some v5 := by first | rfl | assumption) (y14 : s_ty r2 = 3 := by first | rfl | assumption) (c10 : (42 * x1) + x3 < a8.length := by first | omega | assumption | (simp only [mk_len, List.length_map]; omega) | decide) (c11 : 0 ≤ (42 * x1) + x3 := by first | omega | assumption | (simp only [mk_len, List.length_map]; omega) | decide) (c12 : In3 ((42 * x1) + x3) := by first | omega | assumption | (simp only [mk_len, List.length_map]; omega) | decide) (c13 : 0 < q7 := by first | omega | assumption | (simp only [mk_len, List.length_map]; omega) | decide) : wr P d sw_c497 sw_h497 (13, [r0, vi x1, r2, vi x3, t4], [], h, kc, ks) Q := by
  refine w_ld rfl rfl (Or.inr (Or.inr ⟨by decide, y1⟩)) ?_
  subst e_q2
  refine w_getf rfl g4 n6 ?_
  refine w_c32 rfl (by decide) 42 (by decide) ?_
  refine w_ld rfl rfl (Or.inl ⟨by decide, rfl⟩) ?_
  refine w_imul rfl ?_
  refine w_ld rfl rfl (Or.inl ⟨by decide, rfl⟩) ?_
  refine w_iadd rfl ?_
  refine w_c64 rfl (by decide) 0 (by decide) ?_
  subst e_q7
  refine w_last rfl g9 (Nat.ble_eq_true_of_le c13) c12 c11 c10 ?_
  refine w_iinc (ls' := [.index q2, vi x1, r2, vi (x3 + 1), t4]) rfl rfl 1 (by decide) (s_stK_r (pre := [.index q2, vi x1]) y14) ?_
  refine w_goto rfl ?_
  exact k

theorem k497_31 {P : s_P} {d : Nat} {Q : s_O → Prop} {h : s_H} {kc ks : Nat} {r0 : Term} {x1 : Int} {r2 : Term} {x3 : Int} {t4 : Term} {q2 : Nat} {f3 : List Term} {v5 : Term} {z7 : Int} {v9 : Term} (g4 : s_get h q2 = some (1, 11, f3)) (k : wm P d 463 [v9] h (wq P d sw_c497 sw_h497 46 [.index q2, vi x1, r2, vi x3, t4] [vi z7, v5] kc ks Q)) (e_q2 : r0 = .index q2 := by first | rfl | assumption) (y1 : s_ty r0 = 3 := by first | rfl | assumption) (n6 : s_nth f3 27 = some v5 := by first | rfl | assumption) (n8 : s_nth f3 26 = some (vi z7) := by first | rfl | assumption) (n10 : s_nth f3 24 = some v9 := by first | rfl | assumption)  : wr P d sw_c497 sw_h497 (31, [r0, vi x1, r2, vi x3, t4], [], h, kc, ks) Q := by
  refine w_ld rfl rfl (Or.inr (Or.inr ⟨by decide, y1⟩)) ?_
  subst e_q2
  refine w_getf rfl g4 n6 ?_
  refine w_ld rfl rfl (Or.inr (Or.inr ⟨by decide, rfl⟩)) ?_
  refine w_getf rfl g4 n8 ?_
  refine w_ld rfl rfl (Or.inr (Or.inr ⟨by decide, rfl⟩)) ?_
  refine w_getf rfl g4 n10 ?_
  exact w_cs rfl [v9] [vi z7, v5] rfl rfl (s_wt_4 rfl) k

theorem k497_46 {P : s_P} {d : Nat} {Q : s_O → Prop} {h : s_H} {kc ks : Nat} {r0 : Term} {x1 : Int} {r2 : Term} {x3 : Int} {t4 s0 : Term} {s1 s2 : Int} {q1 : Nat} {a2 : List Int} (g3 : s_get h q1 = some (0, 0, a2.map vi)) (k : wr P d sw_c497 sw_h497 (49, [r0, vi x1, r2, vi 0, t4], [], (hp h q1 (0, 0, (a2.set (Int.toNat (s1)) s2).map vi)), kc, ks) Q) (e_q1 : s0 = .index q1 := by first | rfl | assumption) (y8 : s_ty r2 = 3 := by first | rfl | assumption) (c4 : s1 < a2.length := by first | omega | assumption | (simp only [mk_len, List.length_map]; omega) | decide) (c5 : 0 ≤ s1 := by first | omega | assumption | (simp only [mk_len, List.length_map]; omega) | decide) (c6 : In3 s1 := by first | omega | assumption | (simp only [mk_len, List.length_map]; omega) | decide) (c7 : 0 < q1 := by first | omega | assumption | (simp only [mk_len, List.length_map]; omega) | decide) : wr P d sw_c497 sw_h497 (46, [r0, vi x1, r2, vi x3, t4], [vi s2, vi s1, s0], h, kc, ks) Q := by
  subst e_q1
  refine w_iast rfl g3 (Nat.ble_eq_true_of_le c7) c6 c5 c4 ?_
  refine w_c32 rfl (by decide) 0 (by decide) ?_
  refine w_st (ls' := [r0, vi x1, r2, vi 0, t4]) rfl (Or.inl ⟨by decide, rfl⟩) (s_stK_r (pre := [r0, vi x1]) y8) ?_
  exact k

theorem k497_49 {P : s_P} {d : Nat} {Q : s_O → Prop} {h : s_H} {kc ks : Nat} {r0 : Term} {x1 : Int} {r2 : Term} {x3 : Int} {t4 : Term}  (k1 : 42 ≤ x3 → wr P d sw_c497 sw_h497 (81, [r0, vi x1, r2, vi x3, t4], [], h, kc, ks) Q) (k2 : ¬ 42 ≤ x3 → wr P d sw_c497 sw_h497 (55, [r0, vi x1, r2, vi x3, t4], [], h, kc, ks) Q)  (c1 : In3 x3 := by first | omega | assumption | (simp only [mk_len, List.length_map]; omega) | decide) : wr P d sw_c497 sw_h497 (49, [r0, vi x1, r2, vi x3, t4], [], h, kc, ks) Q := by
  refine w_ld rfl rfl (Or.inl ⟨by decide, rfl⟩) ?_
  refine w_c32 rfl (by decide) 42 (by decide) ?_
  exact w_if2 rfl c1 (by decide) k1 k2

theorem k497_55 {P : s_P} {d : Nat} {Q : s_O → Prop} {h : s_H} {kc ks : Nat} {r0 : Term} {x1 : Int} {r2 : Term} {x3 : Int} {t4 : Term} {q2 : Nat} {f3 : List Term} {v5 : Term} {z7 : Int} {v9 : Term} {q11 : Nat} {a12 : List Int} {q17 : Nat} {a18 : List Int} (g4 : s_get h q2 = some (1, 11, f3)) (g13 : s_get h q11 = some (0, 1, a12.map vl)) (g19 : s_get h q17 = some (0, 1, a18.map vl)) (k : wr P d sw_c497 sw_h497 (49, [.index q2, vi x1, r2, vi (x3 + 1), t4], [], (hp h q17 (0, 1, (a18.set (Int.toNat ((42 * z7) + x3)) (gi a12 x3)).map vl)), kc, ks) Q) (e_q2 : r0 = .index q2 := by first | rfl | assumption) (e_q11 : v9 = .index q11 := by first | rfl | assumption) (e_q17 : v5 = .index q17 := by first | rfl | assumption) (y1 : s_ty r0 = 3 := by first | rfl | assumption) (n6 : s_nth f3 28 = some v5 := by first | rfl | assumption) (n8 : s_nth f3 26 = some (vi z7) := by first | rfl | assumption) (n10 : s_nth f3 24 = some v9 := by first | rfl | assumption) (y24 : s_ty r2 = 3 := by first | rfl | assumption) (c14 : x3 < a12.length := by first | omega | assumption | (simp only [mk_len, List.length_map]; omega) | decide) (c15 : 0 ≤ x3 := by first | omega | assumption | (simp only [mk_len, List.length_map]; omega) | decide) (c16 : In3 x3 := by first | omega | assumption | (simp only [mk_len, List.length_map]; omega) | decide) (c20 : (42 * z7) + x3 < a18.length := by first | omega | assumption | (simp only [mk_len, List.length_map]; omega) | decide) (c21 : 0 ≤ (42 * z7) + x3 := by first | omega | assumption | (simp only [mk_len, List.length_map]; omega) | decide) (c22 : In3 ((42 * z7) + x3) := by first | omega | assumption | (simp only [mk_len, List.length_map]; omega) | decide) (c23 : 0 < q17 := by first | omega | assumption | (simp only [mk_len, List.length_map]; omega) | decide) : wr P d sw_c497 sw_h497 (55, [r0, vi x1, r2, vi x3, t4], [], h, kc, ks) Q := by
  refine w_ld rfl rfl (Or.inr (Or.inr ⟨by decide, y1⟩)) ?_
  subst e_q2
  refine w_getf rfl g4 n6 ?_
  refine w_c32 rfl (by decide) 42 (by decide) ?_
  refine w_ld rfl rfl (Or.inr (Or.inr ⟨by decide, rfl⟩)) ?_
  refine w_getf rfl g4 n8 ?_
  refine w_imul rfl ?_
  refine w_ld rfl rfl (Or.inl ⟨by decide, rfl⟩) ?_
  refine w_iadd rfl ?_
  refine w_ld rfl rfl (Or.inr (Or.inr ⟨by decide, rfl⟩)) ?_
  refine w_getf rfl g4 n10 ?_
  refine w_ld rfl rfl (Or.inl ⟨by decide, rfl⟩) ?_
  subst e_q11
  refine w_lald rfl g13 c16 c15 c14 ?_
  subst e_q17
  refine w_last rfl g19 (Nat.ble_eq_true_of_le c23) c22 c21 c20 ?_
  refine w_iinc (ls' := [.index q2, vi x1, r2, vi (x3 + 1), t4]) rfl rfl 1 (by decide) (s_stK_r (pre := [.index q2, vi x1]) y24) ?_
  refine w_goto rfl ?_
  exact k

theorem k497_81 {P : s_P} {d : Nat} {Q : s_O → Prop} {h : s_H} {kc ks : Nat} {r0 : Term} {x1 : Int} {r2 : Term} {x3 : Int} {t4 : Term} {q3 : Nat} {f4 : List Term} {v6 : Term} (g5 : s_get h q3 = some (1, 11, f4)) (k : wm P d 425 [v6, r2] h (wq P d sw_c497 sw_h497 91 [.index q3, vi x1, r2, vi 0, t4] [] kc ks Q)) (e_q3 : r0 = .index q3 := by first | rfl | assumption) (y1 : s_ty r2 = 3 := by first | rfl | assumption) (y2 : s_ty r0 = 3 := by first | rfl | assumption) (n7 : s_nth f4 21 = some v6 := by first | rfl | assumption)  : wr P d sw_c497 sw_h497 (81, [r0, vi x1, r2, vi x3, t4], [], h, kc, ks) Q := by
  refine w_c32 rfl (by decide) 0 (by decide) ?_
  refine w_st (ls' := [r0, vi x1, r2, vi 0, t4]) rfl (Or.inl ⟨by decide, rfl⟩) (s_stK_r (pre := [r0, vi x1]) y1) ?_
  refine w_ld rfl rfl (Or.inr (Or.inr ⟨by decide, y2⟩)) ?_
  subst e_q3
  refine w_getf rfl g5 n7 ?_
  refine w_ld rfl rfl (Or.inr (Or.inr ⟨by decide, y1⟩)) ?_
  exact w_cs rfl [v6, r2] [] rfl rfl (s_wt_4 rfl) k

theorem k497_91 {P : s_P} {d : Nat} {Q : s_O → Prop} {h : s_H} {kc ks : Nat} {r0 : Term} {x1 : Int} {r2 : Term} {x3 : Int} {t4 : Term}  (k : wr P d sw_c497 sw_h497 (94, [r0, vi x1, r2, vi x3, vi 1], [], h, kc, ks) Q)   : wr P d sw_c497 sw_h497 (91, [r0, vi x1, r2, vi x3, t4], [], h, kc, ks) Q := by
  refine w_c32 rfl (by decide) 1 (by decide) ?_
  refine w_st (ls' := [r0, vi x1, r2, vi x3, vi 1]) rfl (Or.inl ⟨by decide, rfl⟩) rfl ?_
  exact k

theorem k497_94 {P : s_P} {d : Nat} {Q : s_O → Prop} {h : s_H} {kc ks : Nat} {r0 : Term} {x1 : Int} {r2 : Term} {x3 x4 : Int}  (k1 : x4 = 0 → wr P d sw_c497 sw_h497 (150, [r0, vi x1, r2, vi x3, vi x4], [], h, kc, ks) Q) (k2 : ¬ x4 = 0 → wr P d sw_c497 sw_h497 (99, [r0, vi x1, r2, vi x3, vi x4], [], h, kc, ks) Q)  (c1 : In3 x4 := by first | omega | assumption | (simp only [mk_len, List.length_map]; omega) | decide) : wr P d sw_c497 sw_h497 (94, [r0, vi x1, r2, vi x3, vi x4], [], h, kc, ks) Q := by
  refine w_ld rfl rfl (Or.inl ⟨by decide, rfl⟩) ?_
  exact w_if1 rfl c1 k1 k2

theorem k497_99 {P : s_P} {d : Nat} {Q : s_O → Prop} {h : s_H} {kc ks : Nat} {r0 : Term} {x1 : Int} {r2 : Term} {x3 x4 : Int} {q2 : Nat} {f3 : List Term} {v5 v7 : Term} (g4 : s_get h q2 = some (1, 11, f3)) (k : wm P d 433 [.index q2, v5, v7] h (wq P d sw_c497 sw_h497 111 [.index q2, vi x1, r2, vi x3, vi x4] [] kc ks Q)) (e_q2 : r0 = .index q2 := by first | rfl | assumption) (y1 : s_ty r0 = 3 := by first | rfl | assumption) (n6 : s_nth f3 21 = some v5 := by first | rfl | assumption) (n8 : s_nth f3 24 = some v7 := by first | rfl | assumption)  : wr P d sw_c497 sw_h497 (99, [r0, vi x1, r2, vi x3, vi x4], [], h, kc, ks) Q := by
  refine w_ld rfl rfl (Or.inr (Or.inr ⟨by decide, y1⟩)) ?_
  refine w_ld rfl rfl (Or.inr (Or.inr ⟨by decide, y1⟩)) ?_
  subst e_q2
  refine w_getf rfl g4 n6 ?_
  refine w_ld rfl rfl (Or.inr (Or.inr ⟨by decide, rfl⟩)) ?_
  refine w_getf rfl g4 n8 ?_
  exact w_cv rfl [.index q2, v5, v7] [] rfl rfl (s_wt_4 rfl) rfl g4 k

theorem k497_111 {P : s_P} {d : Nat} {Q : s_O → Prop} {h : s_H} {kc ks : Nat} {r0 : Term} {x1 : Int} {r2 : Term} {x3 x4 : Int} {q2 : Nat} {f3 : List Term} {v5 : Term} (g4 : s_get h q2 = some (1, 11, f3)) (k : wm P d 463 [v5] h (wq P d sw_c497 sw_h497 118 [.index q2, vi x1, r2, vi x3, vi x4] [] kc ks Q)) (e_q2 : r0 = .index q2 := by first | rfl | assumption) (y1 : s_ty r0 = 3 := by first | rfl | assumption) (n6 : s_nth f3 21 = some v5 := by first | rfl | assumption)  : wr P d sw_c497 sw_h497 (111, [r0, vi x1, r2, vi x3, vi x4], [], h, kc, ks) Q := by
  refine w_ld rfl rfl (Or.inr (Or.inr ⟨by decide, y1⟩)) ?_
  subst e_q2
  refine w_getf rfl g4 n6 ?_
  exact w_cs rfl [v5] [] rfl rfl (s_wt_4 rfl) k

theorem k497_118 {P : s_P} {d : Nat} {Q : s_O → Prop} {h : s_H} {kc ks : Nat} {r0 : Term} {x1 : Int} {r2 : Term} {x3 x4 s0 : Int}  (k1 : 0 ≤ s0 → wr P d sw_c497 sw_h497 (125, [r0, vi x1, r2, vi x3, vi x4], [], h, kc, ks) Q) (k2 : ¬ 0 ≤ s0 → wr P d sw_c497 sw_h497 (121, [r0, vi x1, r2, vi x3, vi x4], [], h, kc, ks) Q)  (c1 : In3 s0 := by first | omega | assumption | (simp only [mk_len, List.length_map]; omega) | decide) : wr P d sw_c497 sw_h497 (118, [r0, vi x1, r2, vi x3, vi x4], [vi s0], h, kc, ks) Q := by
  exact w_if1 rfl c1 k1 k2

theorem k497_121 {P : s_P} {d : Nat} {Q : s_O → Prop} {h : s_H} {kc ks : Nat} {r0 : Term} {x1 : Int} {r2 : Term} {x3 x4 : Int}  (k : wr P d sw_c497 sw_h497 (126, [r0, vi x1, r2, vi x3, vi x4], [vi 1], h, kc, ks) Q)   : wr P d sw_c497 sw_h497 (121, [r0, vi x1, r2, vi x3, vi x4], [], h, kc, ks) Q := by
  refine w_c32 rfl (by decide) 1 (by decide) ?_
  refine w_goto rfl ?_
  exact k

theorem k497_125 {P : s_P} {d : Nat} {Q : s_O → Prop} {h : s_H} {kc ks : Nat} {r0 : Term} {x1 : Int} {r2 : Term} {x3 x4 : Int}  (k : wr P d sw_c497 sw_h497 (126, [r0, vi x1, r2, vi x3, vi x4], [vi 0], h, kc, ks) Q)   : wr P d sw_c497 sw_h497 (125, [r0, vi x1, r2, vi x3, vi x4], [], h, kc, ks) Q := by
  refine w_c32 rfl (by decide) 0 (by decide) ?_
  exact k

theorem k497_126 {P : s_P} {d : Nat} {Q : s_O → Prop} {h : s_H} {kc ks : Nat} {r0 : Term} {x1 : Int} {r2 : Term} {x3 x4 s0 : Int}  (k1 : s0 = 0 → wr P d sw_c497 sw_h497 (136, [r0, vi x1, r2, vi x3, vi s0], [], h, kc, ks) Q) (k2 : ¬ s0 = 0 → wr P d sw_c497 sw_h497 (133, [r0, vi x1, r2, vi x3, vi s0], [], h, kc, ks) Q)  (c1 : In3 s0 := by first | omega | assumption | (simp only [mk_len, List.length_map]; omega) | decide) : wr P d sw_c497 sw_h497 (126, [r0, vi x1, r2, vi x3, vi x4], [vi s0], h, kc, ks) Q := by
  refine w_st (ls' := [r0, vi x1, r2, vi x3, vi s0]) rfl (Or.inl ⟨by decide, rfl⟩) rfl ?_
  refine w_ld rfl rfl (Or.inl ⟨by decide, rfl⟩) ?_
  exact w_if1 rfl c1 k1 k2

theorem k497_133 {P : s_P} {d : Nat} {Q : s_O → Prop} {h : s_H} {kc ks : Nat} {r0 : Term} {x1 : Int} {r2 : Term} {x3 x4 : Int}  (k : wr P d sw_c497 sw_h497 (136, [r0, vi x1, r2, vi (x3 + 1), vi x4], [], h, kc, ks) Q) (y1 : s_ty r2 = 3 := by first | rfl | assumption)  : wr P d sw_c497 sw_h497 (133, [r0, vi x1, r2, vi x3, vi x4], [], h, kc, ks) Q := by
  refine w_iinc (ls' := [r0, vi x1, r2, vi (x3 + 1), vi x4]) rfl rfl 1 (by decide) (s_stK_r (pre := [r0, vi x1]) y1) ?_
  exact k

theorem k497_136 {P : s_P} {d : Nat} {Q : s_O → Prop} {h : s_H} {kc ks : Nat} {r0 : Term} {x1 : Int} {r2 : Term} {x3 x4 : Int} {q2 : Nat} {f3 : List Term} {v5 v7 : Term} (g4 : s_get h q2 = some (1, 11, f3)) (k : wm P d 425 [v5, v7] h (wq P d sw_c497 sw_h497 147 [.index q2, vi x1, r2, vi x3, vi x4] [] kc ks Q)) (e_q2 : r0 = .index q2 := by first | rfl | assumption) (y1 : s_ty r0 = 3 := by first | rfl | assumption) (n6 : s_nth f3 21 = some v5 := by first | rfl | assumption) (n8 : s_nth f3 17 = some v7 := by first | rfl | assumption)  : wr P d sw_c497 sw_h497 (136, [r0, vi x1, r2, vi x3, vi x4], [], h, kc, ks) Q := by
  refine w_ld rfl rfl (Or.inr (Or.inr ⟨by decide, y1⟩)) ?_
  subst e_q2
  refine w_getf rfl g4 n6 ?_
  refine w_ld rfl rfl (Or.inr (Or.inr ⟨by decide, rfl⟩)) ?_
  refine w_getf rfl g4 n8 ?_
  exact w_cs rfl [v5, v7] [] rfl rfl (s_wt_4 rfl) k

theorem k497_147 {P : s_P} {d : Nat} {Q : s_O → Prop} {h : s_H} {kc ks : Nat} {r0 : Term} {x1 : Int} {r2 : Term} {x3 x4 : Int}  (k : wr P d sw_c497 sw_h497 (94, [r0, vi x1, r2, vi x3, vi x4], [], h, kc, ks) Q)   : wr P d sw_c497 sw_h497 (147, [r0, vi x1, r2, vi x3, vi x4], [], h, kc, ks) Q := by
  refine w_goto rfl ?_
  exact k

theorem k497_150 {P : s_P} {d : Nat} {Q : s_O → Prop} {h : s_H} {kc ks : Nat} {r0 : Term} {x1 : Int} {r2 : Term} {x3 x4 : Int} {q2 : Nat} {f3 : List Term} {v5 : Term} {z7 : Int} {q9 : Nat} {a10 : List Int} {f16 : List Term} {z18 : Int} (g4 : s_get h q2 = some (1, 11, f3)) (g11 : s_get h q9 = some (0, 0, a10.map vi)) (g17 : s_get (hp h q9 (0, 0, (a10.set (Int.toNat (z7)) x3).map vi)) q2 = some (1, 11, f16)) (k : Q (.inl none, (hp (hp h q9 (0, 0, (a10.set (Int.toNat (z7)) x3).map vi)) q2 (1, 11, f16.set 26 (vi (z18 + 1)))), kc, ks)) (e_q2 : r0 = .index q2 := by first | rfl | assumption) (e_q9 : v5 = .index q9 := by first | rfl | assumption) (y1 : s_ty r0 = 3 := by first | rfl | assumption) (n6 : s_nth f3 29 = some v5 := by first | rfl | assumption) (n8 : s_nth f3 26 = some (vi z7) := by first | rfl | assumption) (n19 : s_nth f16 26 = some (vi z18) := by first | rfl | assumption) (l20 : 26 < f16.length := by first | exact Nat.le_of_ble_eq_true rfl | omega | assumption) (c12 : z7 < a10.length := by first | omega | assumption | (simp only [mk_len, List.length_map]; omega) | decide) (c13 : 0 ≤ z7 := by first | omega | assumption | (simp only [mk_len, List.length_map]; omega) | decide) (c14 : In3 z7 := by first | omega | assumption | (simp only [mk_len, List.length_map]; omega) | decide) (c15 : 0 < q9 := by first | omega | assumption | (simp only [mk_len, List.length_map]; omega) | decide) (c21 : 0 < q2 := by first | omega | assumption | (simp only [mk_len, List.length_map]; omega) | decide) : wr P d sw_c497 sw_h497 (150, [r0, vi x1, r2, vi x3, vi x4], [], h, kc, ks) Q := by
  refine w_ld rfl rfl (Or.inr (Or.inr ⟨by decide, y1⟩)) ?_
  subst e_q2
  refine w_getf rfl g4 n6 ?_
  refine w_ld rfl rfl (Or.inr (Or.inr ⟨by decide, rfl⟩)) ?_
  refine w_getf rfl g4 n8 ?_
  refine w_ld rfl rfl (Or.inl ⟨by decide, rfl⟩) ?_
  subst e_q9
  refine w_iast rfl g11 (Nat.ble_eq_true_of_le c15) c14 c13 c12 ?_
  refine w_ld rfl rfl (Or.inr (Or.inr ⟨by decide, rfl⟩)) ?_
  refine w_dup rfl rfl ?_
  refine w_getf rfl g17 n19 ?_
  refine w_c32 rfl (by decide) 1 (by decide) ?_
  refine w_iadd rfl ?_
  refine w_putf rfl g17 (Nat.ble_eq_true_of_le c21) rfl (Nat.ble_eq_true_of_le l20) ?_
  exact w_ret rfl k

/-! 498: FormulaWorksModel.keepMatrix(II)I -/
theorem k498_0 {P : s_P} {d : Nat} {Q : s_O → Prop} {h : s_H} {kc ks : Nat} {r0 : Term} {x1 x2 : Int} {q2 : Nat} {f3 f7 : List Term} {v9 : Term} {z11 : Int} {q13 : Nat} {a14 : List Int} {f20 : List Term} {v22 : Term} {z24 : Int} {q26 : Nat} {a27 : List Int} {f33 : List Term} {v35 : Term} {z37 : Int} {q39 : Nat} {a40 : List Int} {f46 : List Term} {z48 : Int} {f51 : List Term} {z53 : Int} (g4 : s_get h q2 = some (1, 11, f3)) (g8 : s_get (hp h q2 (1, 11, f3.set 0 (vi 0))) q2 = some (1, 11, f7)) (g15 : s_get (hp h q2 (1, 11, f3.set 0 (vi 0))) q13 = some (0, 0, a14.map vi)) (g21 : s_get (hp (hp h q2 (1, 11, f3.set 0 (vi 0))) q13 (0, 0, (a14.set (Int.toNat (z11)) 2).map vi)) q2 = some (1, 11, f20)) (g28 : s_get (hp (hp h q2 (1, 11, f3.set 0 (vi 0))) q13 (0, 0, (a14.set (Int.toNat (z11)) 2).map vi)) q26 = some (0, 0, a27.map vi)) (g34 : s_get (hp (hp (hp h q2 (1, 11, f3.set 0 (vi 0))) q13 (0, 0, (a14.set (Int.toNat (z11)) 2).map vi)) q26 (0, 0, (a27.set (Int.toNat (z24)) x1).map vi)) q2 = some (1, 11, f33)) (g41 : s_get (hp (hp (hp h q2 (1, 11, f3.set 0 (vi 0))) q13 (0, 0, (a14.set (Int.toNat (z11)) 2).map vi)) q26 (0, 0, (a27.set (Int.toNat (z24)) x1).map vi)) q39 = some (0, 0, a40.map vi)) (g47 : s_get (hp (hp (hp (hp h q2 (1, 11, f3.set 0 (vi 0))) q13 (0, 0, (a14.set (Int.toNat (z11)) 2).map vi)) q26 (0, 0, (a27.set (Int.toNat (z24)) x1).map vi)) q39 (0, 0, (a40.set (Int.toNat (z37)) x2).map vi)) q2 = some (1, 11, f46)) (g52 : s_get (hp (hp (hp (hp (hp h q2 (1, 11, f3.set 0 (vi 0))) q13 (0, 0, (a14.set (Int.toNat (z11)) 2).map vi)) q26 (0, 0, (a27.set (Int.toNat (z24)) x1).map vi)) q39 (0, 0, (a40.set (Int.toNat (z37)) x2).map vi)) q2 (1, 11, f46.set 1 (vi (z48 + 1)))) q2 = some (1, 11, f51)) (k : Q (.inl (some (vi (z53 - 1))), (hp (hp (hp (hp (hp h q2 (1, 11, f3.set 0 (vi 0))) q13 (0, 0, (a14.set (Int.toNat (z11)) 2).map vi)) q26 (0, 0, (a27.set (Int.toNat (z24)) x1).map vi)) q39 (0, 0, (a40.set (Int.toNat (z37)) x2).map vi)) q2 (1, 11, f46.set 1 (vi (z48 + 1)))), kc, ks)) (e_q2 : r0 = .index q2 := by first | rfl | assumption) (e_q13 : v9 = .index q13 := by first | rfl | assumption) (e_q26 : v22 = .index q26 := by first | rfl | assumption) (e_q39 : v35 = .index q39 := by first | rfl | assumption) (y1 : s_ty r0 = 3 := by first | rfl | assumption) (l5 : 0 < f3.length := by first | exact Nat.le_of_ble_eq_true rfl | omega | assumption) (n10 : s_nth f7 2 = some v9 := by first | rfl | assumption) (n12 : s_nth f7 1 = some (vi z11) := by first | rfl | assumption) (n23 : s_nth f20 5 = some v22 := by first | rfl | assumption) (n25 : s_nth f20 1 = some (vi z24) := by first | rfl | assumption) (n36 : s_nth f33 6 = some v35 := by first | rfl | assumption) (n38 : s_nth f33 1 = some (vi z37) := by first | rfl | assumption) (n49 : s_nth f46 1 = some (vi z48) := by first | rfl | assumption) (l50 : 1 < f46.length := by first | exact Nat.le_of_ble_eq_true rfl | omega | assumption) (n54 : s_nth f51 1 = some (vi z53) := by first | rfl | assumption) (c6 : 0 < q2 := by first | omega | assumption | (simp only [mk_len, List.length_map]; omega) | decide) (c16 : z11 < a14.length := by first | omega | assumption | (simp only [mk_len, List.length_map]; omega) | decide) (c17 : 0 ≤ z11 := by first | omega | assumption | (simp only [mk_len, List.length_map]; omega) | decide) (c18 : In3 z11 := by first | omega | assumption | (simp only [mk_len, List.length_map]; omega) | decide) (c19 : 0 < q13 := by first | omega | assumption | (simp only [mk_len, List.length_map]; omega) | decide) (c29 : z24 < a27.length := by first | omega | assumption | (simp only [mk_len, List.length_map]; omega) | decide) (c30 : 0 ≤ z24 := by first | omega | assumption | (simp only [mk_len, List.length_map]; omega) | decide) (c31 : In3 z24 := by first | omega | assumption | (simp only [mk_len, List.length_map]; omega) | decide) (c32 : 0 < q26 := by first | omega | assumption | (simp only [mk_len, List.length_map]; omega) | decide) (c42 : z37 < a40.length := by first | omega | assumption | (simp only [mk_len, List.length_map]; omega) | decide) (c43 : 0 ≤ z37 := by first | omega | assumption | (simp only [mk_len, List.length_map]; omega) | decide) (c44 : In3 z37 := by first | omega | assumption | (simp only [mk_len, List.length_map]; omega) | decide) (c45 : 0 < q39 := by first | omega | assumption | (simp only [mk_len, List.length_map]; omega) | decide) : wr P d sw_c498 sw_h498 (0, [r0, vi x1, vi x2], [], h, kc, ks) Q := by
  refine w_ld rfl rfl (Or.inr (Or.inr ⟨by decide, y1⟩)) ?_
  refine w_c32 rfl (by decide) 0 (by decide) ?_
  subst e_q2
  refine w_putf rfl g4 (Nat.ble_eq_true_of_le c6) rfl (Nat.ble_eq_true_of_le l5) ?_
  refine w_ld rfl rfl (Or.inr (Or.inr ⟨by decide, rfl⟩)) ?_
  refine w_getf rfl g8 n10 ?_
  refine w_ld rfl rfl (Or.inr (Or.inr ⟨by decide, rfl⟩)) ?_
  refine w_getf rfl g8 n12 ?_
  refine w_c32 rfl (by decide) 2 (by decide) ?_
  subst e_q13
  refine w_iast rfl g15 (Nat.ble_eq_true_of_le c19) c18 c17 c16 ?_
  refine w_ld rfl rfl (Or.inr (Or.inr ⟨by decide, rfl⟩)) ?_
  refine w_getf rfl g21 n23 ?_
  refine w_ld rfl rfl (Or.inr (Or.inr ⟨by decide, rfl⟩)) ?_
  refine w_getf rfl g21 n25 ?_
  refine w_ld rfl rfl (Or.inl ⟨by decide, rfl⟩) ?_
  subst e_q26
  refine w_iast rfl g28 (Nat.ble_eq_true_of_le c32) c31 c30 c29 ?_
  refine w_ld rfl rfl (Or.inr (Or.inr ⟨by decide, rfl⟩)) ?_
  refine w_getf rfl g34 n36 ?_
  refine w_ld rfl rfl (Or.inr (Or.inr ⟨by decide, rfl⟩)) ?_
  refine w_getf rfl g34 n38 ?_
  refine w_ld rfl rfl (Or.inl ⟨by decide, rfl⟩) ?_
  subst e_q39
  refine w_iast rfl g41 (Nat.ble_eq_true_of_le c45) c44 c43 c42 ?_
  refine w_ld rfl rfl (Or.inr (Or.inr ⟨by decide, rfl⟩)) ?_
  refine w_dup rfl rfl ?_
  refine w_getf rfl g47 n49 ?_
  refine w_c32 rfl (by decide) 1 (by decide) ?_
  refine w_iadd rfl ?_
  refine w_putf rfl g47 (Nat.ble_eq_true_of_le c6) rfl (Nat.ble_eq_true_of_le l50) ?_
  refine w_ld rfl rfl (Or.inr (Or.inr ⟨by decide, rfl⟩)) ?_
  refine w_getf rfl g52 n54 ?_
  refine w_c32 rfl (by decide) 1 (by decide) ?_
  refine w_isub rfl ?_
  exact w_iret rfl k

/-! 499: FormulaWorksModel.keepSeries(I)I -/
theorem k499_0 {P : s_P} {d : Nat} {Q : s_O → Prop} {h : s_H} {kc ks : Nat} {r0 : Term} {x1 : Int} {t2 : Term} {q2 : Nat} {f3 : List Term} {z5 : Int} (g4 : s_get h q2 = some (1, 11, f3)) (k1 : z5 ≠ 150 → wr P d sw_c499 sw_h499 (16, [.index q2, vi x1, t2], [], h, kc, ks) Q) (k2 : ¬ z5 ≠ 150 → wr P d sw_c499 sw_h499 (10, [.index q2, vi x1, t2], [], h, kc, ks) Q) (e_q2 : r0 = .index q2 := by first | rfl | assumption) (y1 : s_ty r0 = 3 := by first | rfl | assumption) (n6 : s_nth f3 1 = some (vi z5) := by first | rfl | assumption) (c7 : In3 z5 := by first | omega | assumption | (simp only [mk_len, List.length_map]; omega) | decide) : wr P d sw_c499 sw_h499 (0, [r0, vi x1, t2], [], h, kc, ks) Q := by
  refine w_ld rfl rfl (Or.inr (Or.inr ⟨by decide, y1⟩)) ?_
  subst e_q2
  refine w_getf rfl g4 n6 ?_
  refine w_c32 rfl (by decide) 150 (by decide) ?_
  exact w_if2 rfl c7 (by decide) k1 k2

theorem k499_10 {P : s_P} {d : Nat} {Q : s_O → Prop} {h : s_H} {kc ks : Nat} {r0 : Term} {x1 : Int} {t2 : Term} {q2 : Nat} {f3 : List Term} (g4 : s_get h q2 = some (1, 11, f3)) (k : wm P d 570 [.index q2, vi x1] h (wq P d sw_c499 sw_h499 15 [.index q2, vi x1, t2] [] kc ks Q)) (e_q2 : r0 = .index q2 := by first | rfl | assumption) (y1 : s_ty r0 = 3 := by first | rfl | assumption)  : wr P d sw_c499 sw_h499 (10, [r0, vi x1, t2], [], h, kc, ks) Q := by
  refine w_ld rfl rfl (Or.inr (Or.inr ⟨by decide, y1⟩)) ?_
  refine w_ld rfl rfl (Or.inl ⟨by decide, rfl⟩) ?_
  subst e_q2
  exact w_cv rfl [.index q2, vi x1] [] rfl rfl (s_wt_4 rfl) rfl g4 k

theorem k499_15 {P : s_P} {d : Nat} {Q : s_O → Prop} {h : s_H} {kc ks : Nat} {r0 : Term} {x1 : Int} {t2 : Term} {s0 : Int}  (k : Q (.inl (some (vi s0)), h, kc, ks))   : wr P d sw_c499 sw_h499 (15, [r0, vi x1, t2], [vi s0], h, kc, ks) Q := by
  exact w_iret rfl k

theorem k499_16 {P : s_P} {d : Nat} {Q : s_O → Prop} {h : s_H} {kc ks : Nat} {r0 : Term} {x1 : Int} {t2 : Term} {q2 : Nat} {f3 f7 : List Term} {v9 : Term} {z11 : Int} {q13 : Nat} {a14 : List Int} (g4 : s_get h q2 = some (1, 11, f3)) (g8 : s_get (hp h q2 (1, 11, f3.set 0 (vi 0))) q2 = some (1, 11, f7)) (g15 : s_get (hp h q2 (1, 11, f3.set 0 (vi 0))) q13 = some (0, 0, a14.map vi)) (k : wr P d sw_c499 sw_h499 (33, [.index q2, vi x1, vi 0], [], (hp (hp h q2 (1, 11, f3.set 0 (vi 0))) q13 (0, 0, (a14.set (Int.toNat (z11)) 1).map vi)), kc, ks) Q) (e_q2 : r0 = .index q2 := by first | rfl | assumption) (e_q13 : v9 = .index q13 := by first | rfl | assumption) (y1 : s_ty r0 = 3 := by first | rfl | assumption) (l5 : 0 < f3.length := by first | exact Nat.le_of_ble_eq_true rfl | omega | assumption) (n10 : s_nth f7 2 = some v9 := by first | rfl | assumption) (n12 : s_nth f7 1 = some (vi z11) := by first | rfl | assumption) (c6 : 0 < q2 := by first | omega | assumption | (simp only [mk_len, List.length_map]; omega) | decide) (c16 : z11 < a14.length := by first | omega | assumption | (simp only [mk_len, List.length_map]; omega) | decide) (c17 : 0 ≤ z11 := by first | omega | assumption | (simp only [mk_len, List.length_map]; omega) | decide) (c18 : In3 z11 := by first | omega | assumption | (simp only [mk_len, List.length_map]; omega) | decide) (c19 : 0 < q13 := by first | omega | assumption | (simp only [mk_len, List.length_map]; omega) | decide) : wr P d sw_c499 sw_h499 (16, [r0, vi x1, t2], [], h, kc, ks) Q := by
  refine w_ld rfl rfl (Or.inr (Or.inr ⟨by decide, y1⟩)) ?_
  refine w_c32 rfl (by decide) 0 (by decide) ?_
  subst e_q2
  refine w_putf rfl g4 (Nat.ble_eq_true_of_le c6) rfl (Nat.ble_eq_true_of_le l5) ?_
  refine w_ld rfl rfl (Or.inr (Or.inr ⟨by decide, rfl⟩)) ?_
  refine w_getf rfl g8 n10 ?_
  refine w_ld rfl rfl (Or.inr (Or.inr ⟨by decide, rfl⟩)) ?_
  refine w_getf rfl g8 n12 ?_
  refine w_c32 rfl (by decide) 1 (by decide) ?_
  subst e_q13
  refine w_iast rfl g15 (Nat.ble_eq_true_of_le c19) c18 c17 c16 ?_
  refine w_c32 rfl (by decide) 0 (by decide) ?_
  refine w_st (ls' := [.index q2, vi x1, vi 0]) rfl (Or.inl ⟨by decide, rfl⟩) rfl ?_
  exact k

theorem k499_33 {P : s_P} {d : Nat} {Q : s_O → Prop} {h : s_H} {kc ks : Nat} {r0 : Term} {x1 x2 : Int}  (k1 : 40 < x2 → wr P d sw_c499 sw_h499 (91, [r0, vi x1, vi x2], [], h, kc, ks) Q) (k2 : ¬ 40 < x2 → wr P d sw_c499 sw_h499 (39, [r0, vi x1, vi x2], [], h, kc, ks) Q)  (c1 : In3 x2 := by first | omega | assumption | (simp only [mk_len, List.length_map]; omega) | decide) : wr P d sw_c499 sw_h499 (33, [r0, vi x1, vi x2], [], h, kc, ks) Q := by
  refine w_ld rfl rfl (Or.inl ⟨by decide, rfl⟩) ?_
  refine w_c32 rfl (by decide) 40 (by decide) ?_
  exact w_if2 rfl c1 (by decide) k1 k2

theorem k499_39 {P : s_P} {d : Nat} {Q : s_O → Prop} {h : s_H} {kc ks : Nat} {r0 : Term} {x1 x2 : Int} {q2 : Nat} {f3 : List Term} {v5 : Term} {z7 : Int} (g4 : s_get h q2 = some (1, 11, f3)) (k1 : 25 ≤ x2 → wr P d sw_c499 sw_h499 (68, [.index q2, vi x1, vi x2], [vi ((41 * z7) + x2), v5], h, kc, ks) Q) (k2 : ¬ 25 ≤ x2 → wr P d sw_c499 sw_h499 (58, [.index q2, vi x1, vi x2], [vi ((41 * z7) + x2), v5], h, kc, ks) Q) (e_q2 : r0 = .index q2 := by first | rfl | assumption) (y1 : s_ty r0 = 3 := by first | rfl | assumption) (n6 : s_nth f3 3 = some v5 := by first | rfl | assumption) (n8 : s_nth f3 1 = some (vi z7) := by first | rfl | assumption) (c9 : In3 x2 := by first | omega | assumption | (simp only [mk_len, List.length_map]; omega) | decide) : wr P d sw_c499 sw_h499 (39, [r0, vi x1, vi x2], [], h, kc, ks) Q := by
  refine w_ld rfl rfl (Or.inr (Or.inr ⟨by decide, y1⟩)) ?_
  subst e_q2
  refine w_getf rfl g4 n6 ?_
  refine w_c32 rfl (by decide) 41 (by decide) ?_
  refine w_ld rfl rfl (Or.inr (Or.inr ⟨by decide, rfl⟩)) ?_
  refine w_getf rfl g4 n8 ?_
  refine w_imul rfl ?_
  refine w_ld rfl rfl (Or.inl ⟨by decide, rfl⟩) ?_
  refine w_iadd rfl ?_
  refine w_ld rfl rfl (Or.inl ⟨by decide, rfl⟩) ?_
  refine w_c32 rfl (by decide) 25 (by decide) ?_
  exact w_if2 rfl c9 (by decide) k1 k2

theorem k499_58 {P : s_P} {d : Nat} {Q : s_O → Prop} {h : s_H} {kc ks : Nat} {r0 : Term} {x1 x2 : Int} {s0 : Term} {s1 : Int} {q2 : Nat} {f3 : List Term} {v5 : Term} {q7 : Nat} {a8 : List Int} (g4 : s_get h q2 = some (1, 11, f3)) (g9 : s_get h q7 = some (0, 1, a8.map vl)) (k : wr P d sw_c499 sw_h499 (69, [.index q2, vi x1, vi x2], [vi (gi a8 x2), vi s1, s0], h, kc, ks) Q) (e_q2 : r0 = .index q2 := by first | rfl | assumption) (e_q7 : v5 = .index q7 := by first | rfl | assumption) (y1 : s_ty r0 = 3 := by first | rfl | assumption) (n6 : s_nth f3 14 = some v5 := by first | rfl | assumption) (c10 : x2 < a8.length := by first | omega | assumption | (simp only [mk_len, List.length_map]; omega) | decide) (c11 : 0 ≤ x2 := by first | omega | assumption | (simp only [mk_len, List.length_map]; omega) | decide) (c12 : In3 x2 := by first | omega | assumption | (simp only [mk_len, List.length_map]; omega) | decide) : wr P d sw_c499 sw_h499 (58, [r0, vi x1, vi x2], [vi s1, s0], h, kc, ks) Q := by
  refine w_ld rfl rfl (Or.inr (Or.inr ⟨by decide, y1⟩)) ?_
  subst e_q2
  refine w_getf rfl g4 n6 ?_
  refine w_ld rfl rfl (Or.inl ⟨by decide, rfl⟩) ?_
  subst e_q7
  refine w_lald rfl g9 c12 c11 c10 ?_
  refine w_l2i rfl ?_
  refine w_goto rfl ?_
  exact k

theorem k499_68 {P : s_P} {d : Nat} {Q : s_O → Prop} {h : s_H} {kc ks : Nat} {r0 : Term} {x1 x2 : Int} {s0 : Term} {s1 : Int}  (k : wr P d sw_c499 sw_h499 (69, [r0, vi x1, vi x2], [vi 0, vi s1, s0], h, kc, ks) Q)   : wr P d sw_c499 sw_h499 (68, [r0, vi x1, vi x2], [vi s1, s0], h, kc, ks) Q := by
  refine w_c32 rfl (by decide) 0 (by decide) ?_
  exact k

theorem k499_69 {P : s_P} {d : Nat} {Q : s_O → Prop} {h : s_H} {kc ks : Nat} {r0 : Term} {x1 x2 : Int} {s0 : Term} {s1 s2 : Int} {q1 : Nat} {a2 : List Int} {q9 : Nat} {f10 : List Term} {v12 : Term} {z14 : Int} {q16 : Nat} {a17 : List Int} (g3 : s_get h q1 = some (0, 0, a2.map vi)) (g11 : s_get (hp h q1 (0, 0, (a2.set (Int.toNat (s1)) s2).map vi)) q9 = some (1, 11, f10)) (g18 : s_get (hp h q1 (0, 0, (a2.set (Int.toNat (s1)) s2).map vi)) q16 = some (0, 0, a17.map vi)) (k : wr P d sw_c499 sw_h499 (33, [.index q9, vi x1, vi (x2 + 1)], [], (hp (hp h q1 (0, 0, (a2.set (Int.toNat (s1)) s2).map vi)) q16 (0, 0, (a17.set (Int.toNat ((41 * z14) + x2)) 0).map vi)), kc, ks) Q) (e_q1 : s0 = .index q1 := by first | rfl | assumption) (e_q9 : r0 = .index q9 := by first | rfl | assumption) (e_q16 : v12 = .index q16 := by first | rfl | assumption) (y8 : s_ty r0 = 3 := by first | rfl | assumption) (n13 : s_nth f10 4 = some v12 := by first | rfl | assumption) (n15 : s_nth f10 1 = some (vi z14) := by first | rfl | assumption) (c4 : s1 < a2.length := by first | omega | assumption | (simp only [mk_len, List.length_map]; omega) | decide) (c5 : 0 ≤ s1 := by first | omega | assumption | (simp only [mk_len, List.length_map]; omega) | decide) (c6 : In3 s1 := by first | omega | assumption | (simp only [mk_len, List.length_map]; omega) | decide) (c7 : 0 < q1 := by first | omega | assumption | (simp only [mk_len, List.length_map]; omega) | decide) (c19 : (41 * z14) + x2 < a17.length := by first | omega | assumption | (simp only [mk_len, List.length_map]; omega) | decide) (c20 : 0 ≤ (41 * z14) + x2 := by first | omega | assumption | (simp only [mk_len, List.length_map]; omega) | decide) (c21 : In3 ((41 * z14) + x2) := by first | omega | assumption | (simp only [mk_len, List.length_map]; omega) | decide) (c22 : 0 < q16 := by first | omega | assumption | (simp only [mk_len, List.length_map]; omega) | decide) : wr P d sw_c499 sw_h499 (69, [r0, vi x1, vi x2], [vi s2, vi s1, s0], h, kc, ks) Q := by
  subst e_q1
  refine w_iast rfl g3 (Nat.ble_eq_true_of_le c7) c6 c5 c4 ?_
  refine w_ld rfl rfl (Or.inr (Or.inr ⟨by decide, y8⟩)) ?_
  subst e_q9
  refine w_getf rfl g11 n13 ?_
  refine w_c32 rfl (by decide) 41 (by decide) ?_
  refine w_ld rfl rfl (Or.inr (Or.inr ⟨by decide, rfl⟩)) ?_
  refine w_getf rfl g11 n15 ?_
  refine w_imul rfl ?_
  refine w_ld rfl rfl (Or.inl ⟨by decide, rfl⟩) ?_
  refine w_iadd rfl ?_
  refine w_c32 rfl (by decide) 0 (by decide) ?_
  subst e_q16
  refine w_iast rfl g18 (Nat.ble_eq_true_of_le c22) c21 c20 c19 ?_
  refine w_iinc (ls' := [.index q9, vi x1, vi (x2 + 1)]) rfl rfl 1 (by decide) rfl ?_
  refine w_goto rfl ?_
  exact k

theorem k499_91 {P : s_P} {d : Nat} {Q : s_O → Prop} {h : s_H} {kc ks : Nat} {r0 : Term} {x1 x2 : Int} {q2 : Nat} {f3 : List Term} {z5 : Int} {f9 : List Term} {z11 : Int} (g4 : s_get h q2 = some (1, 11, f3)) (g10 : s_get (hp h q2 (1, 11, f3.set 1 (vi (z5 + 1)))) q2 = some (1, 11, f9)) (k : Q (.inl (some (vi (z11 - 1))), (hp h q2 (1, 11, f3.set 1 (vi (z5 + 1)))), kc, ks)) (e_q2 : r0 = .index q2 := by first | rfl | assumption) (y1 : s_ty r0 = 3 := by first | rfl | assumption) (n6 : s_nth f3 1 = some (vi z5) := by first | rfl | assumption) (l7 : 1 < f3.length := by first | exact Nat.le_of_ble_eq_true rfl | omega | assumption) (n12 : s_nth f9 1 = some (vi z11) := by first | rfl | assumption) (c8 : 0 < q2 := by first | omega | assumption | (simp only [mk_len, List.length_map]; omega) | decide) : wr P d sw_c499 sw_h499 (91, [r0, vi x1, vi x2], [], h, kc, ks) Q := by
  refine w_ld rfl rfl (Or.inr (Or.inr ⟨by decide, y1⟩)) ?_
  refine w_dup rfl (by rw [y1]; rfl) ?_
  subst e_q2
  refine w_getf rfl g4 n6 ?_
  refine w_c32 rfl (by decide) 1 (by decide) ?_
  refine w_iadd rfl ?_
  refine w_putf rfl g4 (Nat.ble_eq_true_of_le c8) rfl (Nat.ble_eq_true_of_le l7) ?_
  refine w_ld rfl rfl (Or.inr (Or.inr ⟨by decide, rfl⟩)) ?_
  refine w_getf rfl g10 n12 ?_
  refine w_c32 rfl (by decide) 1 (by decide) ?_
  refine w_isub rfl ?_
  exact w_iret rfl k

/-! 500: FormulaWorksModel.keepTree(I)I -/
theorem k500_0 {P : s_P} {d : Nat} {Q : s_O → Prop} {h : s_H} {kc ks : Nat} {r0 : Term} {x1 : Int} {t2 : Term} {q2 : Nat} {f3 : List Term} {z5 : Int} (g4 : s_get h q2 = some (1, 11, f3)) (k1 : z5 = 150 → wr P d sw_c500 sw_h500 (20, [.index q2, vi x1, t2], [], h, kc, ks) Q) (k2 : ¬ z5 = 150 → wr P d sw_c500 sw_h500 (10, [.index q2, vi x1, t2], [], h, kc, ks) Q) (e_q2 : r0 = .index q2 := by first | rfl | assumption) (y1 : s_ty r0 = 3 := by first | rfl | assumption) (n6 : s_nth f3 1 = some (vi z5) := by first | rfl | assumption) (c7 : In3 z5 := by first | omega | assumption | (simp only [mk_len, List.length_map]; omega) | decide) : wr P d sw_c500 sw_h500 (0, [r0, vi x1, t2], [], h, kc, ks) Q := by
  refine w_ld rfl rfl (Or.inr (Or.inr ⟨by decide, y1⟩)) ?_
  subst e_q2
  refine w_getf rfl g4 n6 ?_
  refine w_c32 rfl (by decide) 150 (by decide) ?_
  exact w_if2 rfl c7 (by decide) k1 k2

theorem k500_10 {P : s_P} {d : Nat} {Q : s_O → Prop} {h : s_H} {kc ks : Nat} {r0 : Term} {x1 : Int} {t2 : Term} {q2 : Nat} {f3 : List Term} {z5 : Int} (g4 : s_get h q2 = some (1, 11, f3)) (k1 : z5 ≤ 200 → wr P d sw_c500 sw_h500 (26, [.index q2, vi x1, t2], [], h, kc, ks) Q) (k2 : ¬ z5 ≤ 200 → wr P d sw_c500 sw_h500 (20, [.index q2, vi x1, t2], [], h, kc, ks) Q) (e_q2 : r0 = .index q2 := by first | rfl | assumption) (y1 : s_ty r0 = 3 := by first | rfl | assumption) (n6 : s_nth f3 85 = some (vi z5) := by first | rfl | assumption) (c7 : In3 z5 := by first | omega | assumption | (simp only [mk_len, List.length_map]; omega) | decide) : wr P d sw_c500 sw_h500 (10, [r0, vi x1, t2], [], h, kc, ks) Q := by
  refine w_ld rfl rfl (Or.inr (Or.inr ⟨by decide, y1⟩)) ?_
  subst e_q2
  refine w_getf rfl g4 n6 ?_
  refine w_c32 rfl (by decide) 200 (by decide) ?_
  exact w_if2 rfl c7 (by decide) k1 k2

theorem k500_20 {P : s_P} {d : Nat} {Q : s_O → Prop} {h : s_H} {kc ks : Nat} {r0 : Term} {x1 : Int} {t2 : Term} {q2 : Nat} {f3 : List Term} (g4 : s_get h q2 = some (1, 11, f3)) (k : wm P d 570 [.index q2, vi x1] h (wq P d sw_c500 sw_h500 25 [.index q2, vi x1, t2] [] kc ks Q)) (e_q2 : r0 = .index q2 := by first | rfl | assumption) (y1 : s_ty r0 = 3 := by first | rfl | assumption)  : wr P d sw_c500 sw_h500 (20, [r0, vi x1, t2], [], h, kc, ks) Q := by
  refine w_ld rfl rfl (Or.inr (Or.inr ⟨by decide, y1⟩)) ?_
  refine w_ld rfl rfl (Or.inl ⟨by decide, rfl⟩) ?_
  subst e_q2
  exact w_cv rfl [.index q2, vi x1] [] rfl rfl (s_wt_4 rfl) rfl g4 k

theorem k500_25 {P : s_P} {d : Nat} {Q : s_O → Prop} {h : s_H} {kc ks : Nat} {r0 : Term} {x1 : Int} {t2 : Term} {s0 : Int}  (k : Q (.inl (some (vi s0)), h, kc, ks))   : wr P d sw_c500 sw_h500 (25, [r0, vi x1, t2], [vi s0], h, kc, ks) Q := by
  exact w_iret rfl k

theorem k500_26 {P : s_P} {d : Nat} {Q : s_O → Prop} {h : s_H} {kc ks : Nat} {r0 : Term} {x1 : Int} {t2 : Term} {q2 : Nat} {f3 f7 : List Term} {v9 : Term} {z11 : Int} {q13 : Nat} {a14 : List Int} {f20 : List Term} {v22 : Term} {z24 z26 : Int} {q28 : Nat} {a29 : List Int} (g4 : s_get h q2 = some (1, 11, f3)) (g8 : s_get (hp h q2 (1, 11, f3.set 0 (vi 0))) q2 = some (1, 11, f7)) (g15 : s_get (hp h q2 (1, 11, f3.set 0 (vi 0))) q13 = some (0, 0, a14.map vi)) (g21 : s_get (hp (hp h q2 (1, 11, f3.set 0 (vi 0))) q13 (0, 0, (a14.set (Int.toNat (z11)) 3).map vi)) q2 = some (1, 11, f20)) (g30 : s_get (hp (hp h q2 (1, 11, f3.set 0 (vi 0))) q13 (0, 0, (a14.set (Int.toNat (z11)) 3).map vi)) q28 = some (0, 0, a29.map vi)) (k : wr P d sw_c500 sw_h500 (56, [.index q2, vi x1, vi 0], [], (hp (hp (hp h q2 (1, 11, f3.set 0 (vi 0))) q13 (0, 0, (a14.set (Int.toNat (z11)) 3).map vi)) q28 (0, 0, (a29.set (Int.toNat (z24)) z26).map vi)), kc, ks) Q) (e_q2 : r0 = .index q2 := by first | rfl | assumption) (e_q13 : v9 = .index q13 := by first | rfl | assumption) (e_q28 : v22 = .index q28 := by first | rfl | assumption) (y1 : s_ty r0 = 3 := by first | rfl | assumption) (l5 : 0 < f3.length := by first | exact Nat.le_of_ble_eq_true rfl | omega | assumption) (n10 : s_nth f7 2 = some v9 := by first | rfl | assumption) (n12 : s_nth f7 1 = some (vi z11) := by first | rfl | assumption) (n23 : s_nth f20 79 = some v22 := by first | rfl | assumption) (n25 : s_nth f20 1 = some (vi z24) := by first | rfl | assumption) (n27 : s_nth f20 85 = some (vi z26) := by first | rfl | assumption) (c6 : 0 < q2 := by first | omega | assumption | (simp only [mk_len, List.length_map]; omega) | decide) (c16 : z11 < a14.length := by first | omega | assumption | (simp only [mk_len, List.length_map]; omega) | decide) (c17 : 0 ≤ z11 := by first | omega | assumption | (simp only [mk_len, List.length_map]; omega) | decide) (c18 : In3 z11 := by first | omega | assumption | (simp only [mk_len, List.length_map]; omega) | decide) (c19 : 0 < q13 := by first | omega | assumption | (simp only [mk_len, List.length_map]; omega) | decide) (c31 : z24 < a29.length := by first | omega | assumption | (simp only [mk_len, List.length_map]; omega) | decide) (c32 : 0 ≤ z24 := by first | omega | assumption | (simp only [mk_len, List.length_map]; omega) | decide) (c33 : In3 z24 := by first | omega | assumption | (simp only [mk_len, List.length_map]; omega) | decide) (c34 : 0 < q28 := by first | omega | assumption | (simp only [mk_len, List.length_map]; omega) | decide) : wr P d sw_c500 sw_h500 (26, [r0, vi x1, t2], [], h, kc, ks) Q := by
  refine w_ld rfl rfl (Or.inr (Or.inr ⟨by decide, y1⟩)) ?_
  refine w_c32 rfl (by decide) 0 (by decide) ?_
  subst e_q2
  refine w_putf rfl g4 (Nat.ble_eq_true_of_le c6) rfl (Nat.ble_eq_true_of_le l5) ?_
  refine w_ld rfl rfl (Or.inr (Or.inr ⟨by decide, rfl⟩)) ?_
  refine w_getf rfl g8 n10 ?_
  refine w_ld rfl rfl (Or.inr (Or.inr ⟨by decide, rfl⟩)) ?_
  refine w_getf rfl g8 n12 ?_
  refine w_c32 rfl (by decide) 3 (by decide) ?_
  subst e_q13
  refine w_iast rfl g15 (Nat.ble_eq_true_of_le c19) c18 c17 c16 ?_
  refine w_ld rfl rfl (Or.inr (Or.inr ⟨by decide, rfl⟩)) ?_
  refine w_getf rfl g21 n23 ?_
  refine w_ld rfl rfl (Or.inr (Or.inr ⟨by decide, rfl⟩)) ?_
  refine w_getf rfl g21 n25 ?_
  refine w_ld rfl rfl (Or.inr (Or.inr ⟨by decide, rfl⟩)) ?_
  refine w_getf rfl g21 n27 ?_
  subst e_q28
  refine w_iast rfl g30 (Nat.ble_eq_true_of_le c34) c33 c32 c31 ?_
  refine w_c32 rfl (by decide) 0 (by decide) ?_
  refine w_st (ls' := [.index q2, vi x1, vi 0]) rfl (Or.inl ⟨by decide, rfl⟩) rfl ?_
  exact k

theorem k500_56 {P : s_P} {d : Nat} {Q : s_O → Prop} {h : s_H} {kc ks : Nat} {r0 : Term} {x1 x2 : Int} {q2 : Nat} {f3 : List Term} {z5 : Int} (g4 : s_get h q2 = some (1, 11, f3)) (k1 : z5 ≤ x2 → wr P d sw_c500 sw_h500 (112, [.index q2, vi x1, vi x2], [], h, kc, ks) Q) (k2 : ¬ z5 ≤ x2 → wr P d sw_c500 sw_h500 (64, [.index q2, vi x1, vi x2], [], h, kc, ks) Q) (e_q2 : r0 = .index q2 := by first | rfl | assumption) (y1 : s_ty r0 = 3 := by first | rfl | assumption) (n6 : s_nth f3 85 = some (vi z5) := by first | rfl | assumption) (c7 : In3 x2 := by first | omega | assumption | (simp only [mk_len, List.length_map]; omega) | decide) (c8 : In3 z5 := by first | omega | assumption | (simp only [mk_len, List.length_map]; omega) | decide) : wr P d sw_c500 sw_h500 (56, [r0, vi x1, vi x2], [], h, kc, ks) Q := by
  refine w_ld rfl rfl (Or.inl ⟨by decide, rfl⟩) ?_
  refine w_ld rfl rfl (Or.inr (Or.inr ⟨by decide, y1⟩)) ?_
  subst e_q2
  refine w_getf rfl g4 n6 ?_
  exact w_if2 rfl c7 c8 k1 k2

theorem k500_64 {P : s_P} {d : Nat} {Q : s_O → Prop} {h : s_H} {kc ks : Nat} {r0 : Term} {x1 x2 : Int} {q2 : Nat} {f3 : List Term} {v5 : Term} {z7 : Int} {v9 : Term} {q11 : Nat} {a12 : List Int} {q17 : Nat} {a18 : List Int} {f24 : List Term} {v26 : Term} {z28 : Int} {v30 : Term} {q32 : Nat} {a33 : List Int} {q36 : Nat} {a37 : List Int} (g4 : s_get h q2 = some (1, 11, f3)) (g13 : s_get h q11 = some (0, 0, a12.map vi)) (g19 : s_get h q17 = some (0, 0, a18.map vi)) (g25 : s_get (hp h q17 (0, 0, (a18.set (Int.toNat ((200 * z7) + x2)) (gi a12 x2)).map vi)) q2 = some (1, 11, f24)) (g34 : s_get (hp h q17 (0, 0, (a18.set (Int.toNat ((200 * z7) + x2)) (gi a12 x2)).map vi)) q32 = some (0, 0, a33.map vi)) (g38 : s_get (hp h q17 (0, 0, (a18.set (Int.toNat ((200 * z7) + x2)) (gi a12 x2)).map vi)) q36 = some (0, 0, a37.map vi)) (k : wr P d sw_c500 sw_h500 (56, [.index q2, vi x1, vi (x2 + 1)], [], (hp (hp h q17 (0, 0, (a18.set (Int.toNat ((200 * z7) + x2)) (gi a12 x2)).map vi)) q36 (0, 0, (a37.set (Int.toNat ((200 * z28) + x2)) (gi a33 x2)).map vi)), kc, ks) Q) (e_q2 : r0 = .index q2 := by first | rfl | assumption) (e_q11 : v9 = .index q11 := by first | rfl | assumption) (e_q17 : v5 = .index q17 := by first | rfl | assumption) (e_q32 : v30 = .index q32 := by first | rfl | assumption) (e_q36 : v26 = .index q36 := by first | rfl | assumption) (y1 : s_ty r0 = 3 := by first | rfl | assumption) (n6 : s_nth f3 80 = some v5 := by first | rfl | assumption) (n8 : s_nth f3 1 = some (vi z7) := by first | rfl | assumption) (n10 : s_nth f3 86 = some v9 := by first | rfl | assumption) (n27 : s_nth f24 81 = some v26 := by first | rfl | assumption) (n29 : s_nth f24 1 = some (vi z28) := by first | rfl | assumption) (n31 : s_nth f24 87 = some v30 := by first | rfl | assumption) (c14 : x2 < a12.length := by first | omega | assumption | (simp only [mk_len, List.length_map]; omega) | decide) (c15 : 0 ≤ x2 := by first | omega | assumption | (simp only [mk_len, List.length_map]; omega) | decide) (c16 : In3 x2 := by first | omega | assumption | (simp only [mk_len, List.length_map]; omega) | decide) (c20 : (200 * z7) + x2 < a18.length := by first | omega | assumption | (simp only [mk_len, List.length_map]; omega) | decide) (c21 : 0 ≤ (200 * z7) + x2 := by first | omega | assumption | (simp only [mk_len, List.length_map]; omega) | decide) (c22 : In3 ((200 * z7) + x2) := by first | omega | assumption | (simp only [mk_len, List.length_map]; omega) | decide) (c23 : 0 < q17 := by first | omega | assumption | (simp only [mk_len, List.length_map]; omega) | decide) (c35 : x2 < a33.length := by first | omega | assumption | (simp only [mk_len, List.length_map]; omega) | decide) (c39 : (200 * z28) + x2 < a37.length := by first | omega | assumption | (simp only [mk_len, List.length_map]; omega) | decide) (c40 : 0 ≤ (200 * z28) + x2 := by first | omega | assumption | (simp only [mk_len, List.length_map]; omega) | decide) (c41 : In3 ((200 * z28) + x2) := by first | omega | assumption | (simp only [mk_len, List.length_map]; omega) | decide) (c42 : 0 < q36 := by first | omega | assumption | (simp only [mk_len, List.length_map]; omega) | decide) : wr P d sw_c500 sw_h500 (64, [r0, vi x1, vi x2], [], h, kc, ks) Q := by
  refine w_ld rfl rfl (Or.inr (Or.inr ⟨by decide, y1⟩)) ?_
  subst e_q2
  refine w_getf rfl g4 n6 ?_
  refine w_c32 rfl (by decide) 200 (by decide) ?_
  refine w_ld rfl rfl (Or.inr (Or.inr ⟨by decide, rfl⟩)) ?_
  refine w_getf rfl g4 n8 ?_
  refine w_imul rfl ?_
  refine w_ld rfl rfl (Or.inl ⟨by decide, rfl⟩) ?_
  refine w_iadd rfl ?_
  refine w_ld rfl rfl (Or.inr (Or.inr ⟨by decide, rfl⟩)) ?_
  refine w_getf rfl g4 n10 ?_
  refine w_ld rfl rfl (Or.inl ⟨by decide, rfl⟩) ?_
  subst e_q11
  refine w_iald rfl g13 (Or.inl rfl) c16 c15 c14 ?_
  subst e_q17
  refine w_iast rfl g19 (Nat.ble_eq_true_of_le c23) c22 c21 c20 ?_
  refine w_ld rfl rfl (Or.inr (Or.inr ⟨by decide, rfl⟩)) ?_
  refine w_getf rfl g25 n27 ?_
  refine w_c32 rfl (by decide) 200 (by decide) ?_
  refine w_ld rfl rfl (Or.inr (Or.inr ⟨by decide, rfl⟩)) ?_
  refine w_getf rfl g25 n29 ?_
  refine w_imul rfl ?_
  refine w_ld rfl rfl (Or.inl ⟨by decide, rfl⟩) ?_
  refine w_iadd rfl ?_
  refine w_ld rfl rfl (Or.inr (Or.inr ⟨by decide, rfl⟩)) ?_
  refine w_getf rfl g25 n31 ?_
  refine w_ld rfl rfl (Or.inl ⟨by decide, rfl⟩) ?_
  subst e_q32
  refine w_iald rfl g34 (Or.inl rfl) c16 c15 c35 ?_
  subst e_q36
  refine w_iast rfl g38 (Nat.ble_eq_true_of_le c42) c41 c40 c39 ?_
  refine w_iinc (ls' := [.index q2, vi x1, vi (x2 + 1)]) rfl rfl 1 (by decide) rfl ?_
  refine w_goto rfl ?_
  exact k

theorem k500_112 {P : s_P} {d : Nat} {Q : s_O → Prop} {h : s_H} {kc ks : Nat} {r0 : Term} {x1 x2 : Int} {q2 : Nat} {f3 : List Term} {z5 : Int} {f9 : List Term} {z11 : Int} (g4 : s_get h q2 = some (1, 11, f3)) (g10 : s_get (hp h q2 (1, 11, f3.set 1 (vi (z5 + 1)))) q2 = some (1, 11, f9)) (k : Q (.inl (some (vi (z11 - 1))), (hp h q2 (1, 11, f3.set 1 (vi (z5 + 1)))), kc, ks)) (e_q2 : r0 = .index q2 := by first | rfl | assumption) (y1 : s_ty r0 = 3 := by first | rfl | assumption) (n6 : s_nth f3 1 = some (vi z5) := by first | rfl | assumption) (l7 : 1 < f3.length := by first | exact Nat.le_of_ble_eq_true rfl | omega | assumption) (n12 : s_nth f9 1 = some (vi z11) := by first | rfl | assumption) (c8 : 0 < q2 := by first | omega | assumption | (simp only [mk_len, List.length_map]; omega) | decide) : wr P d sw_c500 sw_h500 (112, [r0, vi x1, vi x2], [], h, kc, ks) Q := by
  refine w_ld rfl rfl (Or.inr (Or.inr ⟨by decide, y1⟩)) ?_
  refine w_dup rfl (by rw [y1]; rfl) ?_
  subst e_q2
  refine w_getf rfl g4 n6 ?_
  refine w_c32 rfl (by decide) 1 (by decide) ?_
  refine w_iadd rfl ?_
  refine w_putf rfl g4 (Nat.ble_eq_true_of_le c8) rfl (Nat.ble_eq_true_of_le l7) ?_
  refine w_ld rfl rfl (Or.inr (Or.inr ⟨by decide, rfl⟩)) ?_
  refine w_getf rfl g10 n12 ?_
  refine w_c32 rfl (by decide) 1 (by decide) ?_
  refine w_isub rfl ?_
  exact w_iret rfl k

/-! 501: FormulaWorksModel.kind(I)I -/
theorem k501_0 {P : s_P} {d : Nat} {Q : s_O → Prop} {h : s_H} {kc ks : Nat} {r0 : Term} {x1 : Int} {q2 : Nat} {f3 : List Term} (g4 : s_get h q2 = some (1, 11, f3)) (k : wm P d 492 [.index q2, vi x1] h (wq P d sw_c501 sw_h501 6 [.index q2, vi x1] [.index q2] kc ks Q)) (e_q2 : r0 = .index q2 := by first | rfl | assumption) (y1 : s_ty r0 = 3 := by first | rfl | assumption)  : wr P d sw_c501 sw_h501 (0, [r0, vi x1], [], h, kc, ks) Q := by
  refine w_ld rfl rfl (Or.inr (Or.inr ⟨by decide, y1⟩)) ?_
  refine w_ld rfl rfl (Or.inr (Or.inr ⟨by decide, y1⟩)) ?_
  refine w_ld rfl rfl (Or.inl ⟨by decide, rfl⟩) ?_
  subst e_q2
  exact w_cv rfl [.index q2, vi x1] [.index q2] rfl rfl (s_wt_4 rfl) rfl g4 k

theorem k501_6 {P : s_P} {d : Nat} {Q : s_O → Prop} {h : s_H} {kc ks : Nat} {r0 : Term} {x1 : Int} {s0 : Term} {s1 : Int}  (k1 : s1 = 0 → wr P d sw_c501 sw_h501 (13, [r0, vi x1], [s0], h, kc, ks) Q) (k2 : ¬ s1 = 0 → wr P d sw_c501 sw_h501 (9, [r0, vi x1], [s0], h, kc, ks) Q)  (c1 : In3 s1 := by first | omega | assumption | (simp only [mk_len, List.length_map]; omega) | decide) : wr P d sw_c501 sw_h501 (6, [r0, vi x1], [vi s1, s0], h, kc, ks) Q := by
  exact w_if1 rfl c1 k1 k2

theorem k501_9 {P : s_P} {d : Nat} {Q : s_O → Prop} {h : s_H} {kc ks : Nat} {r0 : Term} {x1 : Int} {s0 : Term}  (k : wr P d sw_c501 sw_h501 (14, [r0, vi x1], [vi 0, s0], h, kc, ks) Q)   : wr P d sw_c501 sw_h501 (9, [r0, vi x1], [s0], h, kc, ks) Q := by
  refine w_c32 rfl (by decide) 0 (by decide) ?_
  refine w_goto rfl ?_
  exact k

theorem k501_13 {P : s_P} {d : Nat} {Q : s_O → Prop} {h : s_H} {kc ks : Nat} {r0 : Term} {x1 : Int} {s0 : Term}  (k : wr P d sw_c501 sw_h501 (14, [r0, vi x1], [vi 1, s0], h, kc, ks) Q)   : wr P d sw_c501 sw_h501 (13, [r0, vi x1], [s0], h, kc, ks) Q := by
  refine w_c32 rfl (by decide) 1 (by decide) ?_
  exact k

theorem k501_14 {P : s_P} {d : Nat} {Q : s_O → Prop} {h : s_H} {kc ks : Nat} {r0 : Term} {x1 : Int} {s0 : Term} {s1 : Int} {q1 : Nat} {f2 : List Term} {q7 : Nat} {f8 : List Term} {z10 : Int} (g3 : s_get h q1 = some (1, 11, f2)) (g9 : s_get (hp h q1 (1, 11, f2.set 0 (vi s1))) q7 = some (1, 11, f8)) (k1 : z10 ≤ 0 → wr P d sw_c501 sw_h501 (28, [.index q7, vi x1], [], (hp h q1 (1, 11, f2.set 0 (vi s1))), kc, ks) Q) (k2 : ¬ z10 ≤ 0 → wr P d sw_c501 sw_h501 (24, [.index q7, vi x1], [], (hp h q1 (1, 11, f2.set 0 (vi s1))), kc, ks) Q) (e_q1 : s0 = .index q1 := by first | rfl | assumption) (e_q7 : r0 = .index q7 := by first | rfl | assumption) (l4 : 0 < f2.length := by first | exact Nat.le_of_ble_eq_true rfl | omega | assumption) (y6 : s_ty r0 = 3 := by first | rfl | assumption) (n11 : s_nth f8 0 = some (vi z10) := by first | rfl | assumption) (c5 : 0 < q1 := by first | omega | assumption | (simp only [mk_len, List.length_map]; omega) | decide) (c12 : In3 z10 := by first | omega | assumption | (simp only [mk_len, List.length_map]; omega) | decide) : wr P d sw_c501 sw_h501 (14, [r0, vi x1], [vi s1, s0], h, kc, ks) Q := by
  subst e_q1
  refine w_putf rfl g3 (Nat.ble_eq_true_of_le c5) rfl (Nat.ble_eq_true_of_le l4) ?_
  refine w_ld rfl rfl (Or.inr (Or.inr ⟨by decide, y6⟩)) ?_
  subst e_q7
  refine w_getf rfl g9 n11 ?_
  exact w_if1 rfl c12 k1 k2

theorem k501_24 {P : s_P} {d : Nat} {Q : s_O → Prop} {h : s_H} {kc ks : Nat} {r0 : Term} {x1 : Int}  (k : wr P d sw_c501 sw_h501 (34, [r0, vi x1], [vi 0], h, kc, ks) Q)   : wr P d sw_c501 sw_h501 (24, [r0, vi x1], [], h, kc, ks) Q := by
  refine w_c32 rfl (by decide) 0 (by decide) ?_
  refine w_goto rfl ?_
  exact k

theorem k501_28 {P : s_P} {d : Nat} {Q : s_O → Prop} {h : s_H} {kc ks : Nat} {r0 : Term} {x1 : Int} {q2 : Nat} {f3 : List Term} {v5 : Term} {q7 : Nat} {a8 : List Int} (g4 : s_get h q2 = some (1, 11, f3)) (g9 : s_get h q7 = some (0, 0, a8.map vi)) (k : wr P d sw_c501 sw_h501 (34, [.index q2, vi x1], [vi (gi a8 x1)], h, kc, ks) Q) (e_q2 : r0 = .index q2 := by first | rfl | assumption) (e_q7 : v5 = .index q7 := by first | rfl | assumption) (y1 : s_ty r0 = 3 := by first | rfl | assumption) (n6 : s_nth f3 2 = some v5 := by first | rfl | assumption) (c10 : x1 < a8.length := by first | omega | assumption | (simp only [mk_len, List.length_map]; omega) | decide) (c11 : 0 ≤ x1 := by first | omega | assumption | (simp only [mk_len, List.length_map]; omega) | decide) (c12 : In3 x1 := by first | omega | assumption | (simp only [mk_len, List.length_map]; omega) | decide) : wr P d sw_c501 sw_h501 (28, [r0, vi x1], [], h, kc, ks) Q := by
  refine w_ld rfl rfl (Or.inr (Or.inr ⟨by decide, y1⟩)) ?_
  subst e_q2
  refine w_getf rfl g4 n6 ?_
  refine w_ld rfl rfl (Or.inl ⟨by decide, rfl⟩) ?_
  subst e_q7
  refine w_iald rfl g9 (Or.inl rfl) c12 c11 c10 ?_
  exact k

theorem k501_34 {P : s_P} {d : Nat} {Q : s_O → Prop} {h : s_H} {kc ks : Nat} {r0 : Term} {x1 s0 : Int}  (k : Q (.inl (some (vi s0)), h, kc, ks))   : wr P d sw_c501 sw_h501 (34, [r0, vi x1], [vi s0], h, kc, ks) Q := by
  exact w_iret rfl k

/-! 502: FormulaWorksModel.least(II)I -/
theorem k502_0 {P : s_P} {d : Nat} {Q : s_O → Prop} {h : s_H} {kc ks : Nat} {r0 : Term} {x1 x2 : Int} {t3 : Term} {q2 : Nat} {f3 : List Term} (g4 : s_get h q2 = some (1, 11, f3)) (k : wm P d 402 [.index q2, vi x1, vi x2] h (wq P d sw_c502 sw_h502 6 [.index q2, vi x1, vi x2, t3] [] kc ks Q)) (e_q2 : r0 = .index q2 := by first | rfl | assumption) (y1 : s_ty r0 = 3 := by first | rfl | assumption)  : wr P d sw_c502 sw_h502 (0, [r0, vi x1, vi x2, t3], [], h, kc, ks) Q := by
  refine w_ld rfl rfl (Or.inr (Or.inr ⟨by decide, y1⟩)) ?_
  refine w_ld rfl rfl (Or.inl ⟨by decide, rfl⟩) ?_
  refine w_ld rfl rfl (Or.inl ⟨by decide, rfl⟩) ?_
  subst e_q2
  exact w_cv rfl [.index q2, vi x1, vi x2] [] rfl rfl (s_wt_4 rfl) rfl g4 k

theorem k502_6 {P : s_P} {d : Nat} {Q : s_O → Prop} {h : s_H} {kc ks : Nat} {r0 : Term} {x1 x2 : Int} {t3 : Term} {s0 : Int}  (k1 : s0 ≠ 0 → wr P d sw_c502 sw_h502 (11, [r0, vi x1, vi x2, t3], [], h, kc, ks) Q) (k2 : ¬ s0 ≠ 0 → wr P d sw_c502 sw_h502 (9, [r0, vi x1, vi x2, t3], [], h, kc, ks) Q)  (c1 : In3 s0 := by first | omega | assumption | (simp only [mk_len, List.length_map]; omega) | decide) : wr P d sw_c502 sw_h502 (6, [r0, vi x1, vi x2, t3], [vi s0], h, kc, ks) Q := by
  exact w_if1 rfl c1 k1 k2

theorem k502_9 {P : s_P} {d : Nat} {Q : s_O → Prop} {h : s_H} {kc ks : Nat} {r0 : Term} {x1 x2 : Int} {t3 : Term}  (k : Q (.inl (some (vi 0)), h, kc, ks))   : wr P d sw_c502 sw_h502 (9, [r0, vi x1, vi x2, t3], [], h, kc, ks) Q := by
  refine w_c32 rfl (by decide) 0 (by decide) ?_
  exact w_iret rfl k

theorem k502_11 {P : s_P} {d : Nat} {Q : s_O → Prop} {h : s_H} {kc ks : Nat} {r0 : Term} {x1 x2 : Int} {t3 : Term} {q2 : Nat} {f3 : List Term} {v5 : Term} (g4 : s_get h q2 = some (1, 11, f3)) (k : wm P d 463 [v5] h (wq P d sw_c502 sw_h502 18 [.index q2, vi x1, vi x2, t3] [] kc ks Q)) (e_q2 : r0 = .index q2 := by first | rfl | assumption) (y1 : s_ty r0 = 3 := by first | rfl | assumption) (n6 : s_nth f3 12 = some v5 := by first | rfl | assumption)  : wr P d sw_c502 sw_h502 (11, [r0, vi x1, vi x2, t3], [], h, kc, ks) Q := by
  refine w_ld rfl rfl (Or.inr (Or.inr ⟨by decide, y1⟩)) ?_
  subst e_q2
  refine w_getf rfl g4 n6 ?_
  exact w_cs rfl [v5] [] rfl rfl (s_wt_4 rfl) k

theorem k502_18 {P : s_P} {d : Nat} {Q : s_O → Prop} {h : s_H} {kc ks : Nat} {r0 : Term} {x1 x2 : Int} {t3 : Term} {s0 : Int}  (k1 : 1 ≤ s0 → wr P d sw_c502 sw_h502 (28, [r0, vi x1, vi x2, t3], [], h, kc, ks) Q) (k2 : ¬ 1 ≤ s0 → wr P d sw_c502 sw_h502 (22, [r0, vi x1, vi x2, t3], [], h, kc, ks) Q)  (c1 : In3 s0 := by first | omega | assumption | (simp only [mk_len, List.length_map]; omega) | decide) : wr P d sw_c502 sw_h502 (18, [r0, vi x1, vi x2, t3], [vi s0], h, kc, ks) Q := by
  refine w_c32 rfl (by decide) 1 (by decide) ?_
  exact w_if2 rfl c1 (by decide) k1 k2

theorem k502_22 {P : s_P} {d : Nat} {Q : s_O → Prop} {h : s_H} {kc ks : Nat} {r0 : Term} {x1 x2 : Int} {t3 : Term} {q2 : Nat} {f3 : List Term} (g4 : s_get h q2 = some (1, 11, f3)) (k : wm P d 570 [.index q2, vi 2] h (wq P d sw_c502 sw_h502 27 [.index q2, vi x1, vi x2, t3] [] kc ks Q)) (e_q2 : r0 = .index q2 := by first | rfl | assumption) (y1 : s_ty r0 = 3 := by first | rfl | assumption)  : wr P d sw_c502 sw_h502 (22, [r0, vi x1, vi x2, t3], [], h, kc, ks) Q := by
  refine w_ld rfl rfl (Or.inr (Or.inr ⟨by decide, y1⟩)) ?_
  refine w_c32 rfl (by decide) 2 (by decide) ?_
  subst e_q2
  exact w_cv rfl [.index q2, vi 2] [] rfl rfl (s_wt_4 rfl) rfl g4 k

theorem k502_27 {P : s_P} {d : Nat} {Q : s_O → Prop} {h : s_H} {kc ks : Nat} {r0 : Term} {x1 x2 : Int} {t3 : Term} {s0 : Int}  (k : Q (.inl (some (vi s0)), h, kc, ks))   : wr P d sw_c502 sw_h502 (27, [r0, vi x1, vi x2, t3], [vi s0], h, kc, ks) Q := by
  exact w_iret rfl k

theorem k502_28 {P : s_P} {d : Nat} {Q : s_O → Prop} {h : s_H} {kc ks : Nat} {r0 : Term} {x1 x2 : Int} {t3 : Term} {q2 : Nat} {f3 : List Term} {v5 v7 : Term} (g4 : s_get h q2 = some (1, 11, f3)) (k : wm P d 425 [v5, v7] h (wq P d sw_c502 sw_h502 39 [.index q2, vi x1, vi x2, t3] [] kc ks Q)) (e_q2 : r0 = .index q2 := by first | rfl | assumption) (y1 : s_ty r0 = 3 := by first | rfl | assumption) (n6 : s_nth f3 24 = some v5 := by first | rfl | assumption) (n8 : s_nth f3 12 = some v7 := by first | rfl | assumption)  : wr P d sw_c502 sw_h502 (28, [r0, vi x1, vi x2, t3], [], h, kc, ks) Q := by
  refine w_ld rfl rfl (Or.inr (Or.inr ⟨by decide, y1⟩)) ?_
  subst e_q2
  refine w_getf rfl g4 n6 ?_
  refine w_ld rfl rfl (Or.inr (Or.inr ⟨by decide, rfl⟩)) ?_
  refine w_getf rfl g4 n8 ?_
  exact w_cs rfl [v5, v7] [] rfl rfl (s_wt_4 rfl) k

theorem k502_39 {P : s_P} {d : Nat} {Q : s_O → Prop} {h : s_H} {kc ks : Nat} {r0 : Term} {x1 x2 : Int} {t3 : Term} {q2 : Nat} {f3 : List Term} {v5 v7 : Term} (g4 : s_get h q2 = some (1, 11, f3)) (k : wm P d 425 [v5, v7] h (wq P d sw_c502 sw_h502 50 [.index q2, vi x1, vi x2, t3] [] kc ks Q)) (e_q2 : r0 = .index q2 := by first | rfl | assumption) (y1 : s_ty r0 = 3 := by first | rfl | assumption) (n6 : s_nth f3 23 = some v5 := by first | rfl | assumption) (n8 : s_nth f3 10 = some v7 := by first | rfl | assumption)  : wr P d sw_c502 sw_h502 (39, [r0, vi x1, vi x2, t3], [], h, kc, ks) Q := by
  refine w_ld rfl rfl (Or.inr (Or.inr ⟨by decide, y1⟩)) ?_
  subst e_q2
  refine w_getf rfl g4 n6 ?_
  refine w_ld rfl rfl (Or.inr (Or.inr ⟨by decide, rfl⟩)) ?_
  refine w_getf rfl g4 n8 ?_
  exact w_cs rfl [v5, v7] [] rfl rfl (s_wt_4 rfl) k

theorem k502_50 {P : s_P} {d : Nat} {Q : s_O → Prop} {h : s_H} {kc ks : Nat} {r0 : Term} {x1 x2 : Int} {t3 : Term} {q2 : Nat} {f3 : List Term} {v5 v7 : Term} (g4 : s_get h q2 = some (1, 11, f3)) (k : wm P d 433 [.index q2, v5, v7] h (wq P d sw_c502 sw_h502 62 [.index q2, vi x1, vi x2, t3] [] kc ks Q)) (e_q2 : r0 = .index q2 := by first | rfl | assumption) (y1 : s_ty r0 = 3 := by first | rfl | assumption) (n6 : s_nth f3 23 = some v5 := by first | rfl | assumption) (n8 : s_nth f3 24 = some v7 := by first | rfl | assumption)  : wr P d sw_c502 sw_h502 (50, [r0, vi x1, vi x2, t3], [], h, kc, ks) Q := by
  refine w_ld rfl rfl (Or.inr (Or.inr ⟨by decide, y1⟩)) ?_
  refine w_ld rfl rfl (Or.inr (Or.inr ⟨by decide, y1⟩)) ?_
  subst e_q2
  refine w_getf rfl g4 n6 ?_
  refine w_ld rfl rfl (Or.inr (Or.inr ⟨by decide, rfl⟩)) ?_
  refine w_getf rfl g4 n8 ?_
  exact w_cv rfl [.index q2, v5, v7] [] rfl rfl (s_wt_4 rfl) rfl g4 k

theorem k502_62 {P : s_P} {d : Nat} {Q : s_O → Prop} {h : s_H} {kc ks : Nat} {r0 : Term} {x1 x2 : Int} {t3 : Term} {q2 : Nat} {f3 : List Term} (g4 : s_get h q2 = some (1, 11, f3)) (k : wm P d 452 [.index q2] h (wq P d sw_c502 sw_h502 66 [.index q2, vi x1, vi x2, t3] [] kc ks Q)) (e_q2 : r0 = .index q2 := by first | rfl | assumption) (y1 : s_ty r0 = 3 := by first | rfl | assumption)  : wr P d sw_c502 sw_h502 (62, [r0, vi x1, vi x2, t3], [], h, kc, ks) Q := by
  refine w_ld rfl rfl (Or.inr (Or.inr ⟨by decide, y1⟩)) ?_
  subst e_q2
  exact w_cv rfl [.index q2] [] rfl rfl (s_wt_4 rfl) rfl g4 k

theorem k502_66 {P : s_P} {d : Nat} {Q : s_O → Prop} {h : s_H} {kc ks : Nat} {r0 : Term} {x1 x2 : Int} {t3 : Term} {s0 : Int} {q2 : Nat} {f3 : List Term} {v5 v7 : Term} (g4 : s_get h q2 = some (1, 11, f3)) (k : wm P d 425 [v5, v7] h (wq P d sw_c502 sw_h502 78 [.index q2, vi x1, vi x2, vi s0] [] kc ks Q)) (e_q2 : r0 = .index q2 := by first | rfl | assumption) (y1 : s_ty r0 = 3 := by first | rfl | assumption) (n6 : s_nth f3 14 = some v5 := by first | rfl | assumption) (n8 : s_nth f3 15 = some v7 := by first | rfl | assumption)  : wr P d sw_c502 sw_h502 (66, [r0, vi x1, vi x2, t3], [vi s0], h, kc, ks) Q := by
  refine w_st (ls' := [r0, vi x1, vi x2, vi s0]) rfl (Or.inl ⟨by decide, rfl⟩) rfl ?_
  refine w_ld rfl rfl (Or.inr (Or.inr ⟨by decide, y1⟩)) ?_
  subst e_q2
  refine w_getf rfl g4 n6 ?_
  refine w_ld rfl rfl (Or.inr (Or.inr ⟨by decide, rfl⟩)) ?_
  refine w_getf rfl g4 n8 ?_
  exact w_cs rfl [v5, v7] [] rfl rfl (s_wt_4 rfl) k

theorem k502_78 {P : s_P} {d : Nat} {Q : s_O → Prop} {h : s_H} {kc ks : Nat} {r0 : Term} {x1 x2 x3 : Int} {q2 : Nat} {f3 : List Term} {v5 : Term} (g4 : s_get h q2 = some (1, 11, f3)) (k : wm P d 405 [v5, vl 1] h (wq P d sw_c502 sw_h502 86 [.index q2, vi x1, vi x2, vi x3] [] kc ks Q)) (e_q2 : r0 = .index q2 := by first | rfl | assumption) (y1 : s_ty r0 = 3 := by first | rfl | assumption) (n6 : s_nth f3 15 = some v5 := by first | rfl | assumption)  : wr P d sw_c502 sw_h502 (78, [r0, vi x1, vi x2, vi x3], [], h, kc, ks) Q := by
  refine w_ld rfl rfl (Or.inr (Or.inr ⟨by decide, y1⟩)) ?_
  subst e_q2
  refine w_getf rfl g4 n6 ?_
  refine w_c64 rfl (by decide) 1 (by decide) ?_
  exact w_cs rfl [v5, vl 1] [] rfl rfl (s_wt_4 rfl) k

theorem k502_86 {P : s_P} {d : Nat} {Q : s_O → Prop} {h : s_H} {kc ks : Nat} {r0 : Term} {x1 x2 x3 : Int} {q2 : Nat} {f3 : List Term} (g4 : s_get h q2 = some (1, 11, f3)) (k : wm P d 495 [.index q2, vi 3] h (wq P d sw_c502 sw_h502 91 [.index q2, vi x1, vi x2, vi x3] [] kc ks Q)) (e_q2 : r0 = .index q2 := by first | rfl | assumption) (y1 : s_ty r0 = 3 := by first | rfl | assumption)  : wr P d sw_c502 sw_h502 (86, [r0, vi x1, vi x2, vi x3], [], h, kc, ks) Q := by
  refine w_ld rfl rfl (Or.inr (Or.inr ⟨by decide, y1⟩)) ?_
  refine w_c32 rfl (by decide) 3 (by decide) ?_
  subst e_q2
  exact w_cv rfl [.index q2, vi 3] [] rfl rfl (s_wt_4 rfl) rfl g4 k

theorem k502_91 {P : s_P} {d : Nat} {Q : s_O → Prop} {h : s_H} {kc ks : Nat} {r0 : Term} {x1 x2 x3 s0 : Int}  (k : Q (.inl (some (vi s0)), h, kc, ks))   : wr P d sw_c502 sw_h502 (91, [r0, vi x1, vi x2, vi x3], [vi s0], h, kc, ks) Q := by
  exact w_iret rfl k

/-! 503: FormulaWorksModel.less(II)I -/
theorem k503_0 {P : s_P} {d : Nat} {Q : s_O → Prop} {h : s_H} {kc ks : Nat} {r0 : Term} {x1 x2 : Int} {q2 : Nat} {f3 : List Term} (g4 : s_get h q2 = some (1, 11, f3)) (k : wm P d 395 [.index q2, vi x1, vi x2, vl (-1)] h (wq P d sw_c503 sw_h503 9 [.index q2, vi x1, vi x2] [] kc ks Q)) (e_q2 : r0 = .index q2 := by first | rfl | assumption) (y1 : s_ty r0 = 3 := by first | rfl | assumption)  : wr P d sw_c503 sw_h503 (0, [r0, vi x1, vi x2], [], h, kc, ks) Q := by
  refine w_ld rfl rfl (Or.inr (Or.inr ⟨by decide, y1⟩)) ?_
  refine w_ld rfl rfl (Or.inl ⟨by decide, rfl⟩) ?_
  refine w_ld rfl rfl (Or.inl ⟨by decide, rfl⟩) ?_
  refine w_c64 rfl (by decide) (-1) (by decide) ?_
  subst e_q2
  exact w_cv rfl [.index q2, vi x1, vi x2, vl (-1)] [] rfl rfl (s_wt_4 rfl) rfl g4 k

theorem k503_9 {P : s_P} {d : Nat} {Q : s_O → Prop} {h : s_H} {kc ks : Nat} {r0 : Term} {x1 x2 s0 : Int}  (k : Q (.inl (some (vi s0)), h, kc, ks))   : wr P d sw_c503 sw_h503 (9, [r0, vi x1, vi x2], [vi s0], h, kc, ks) Q := by
  exact w_iret rfl k

/-! 504: FormulaWorksModel.letter(II)I -/
theorem k504_0 {P : s_P} {d : Nat} {Q : s_O → Prop} {h : s_H} {kc ks : Nat} {r0 : Term} {x1 x2 : Int} {q2 : Nat} {f3 : List Term} (g4 : s_get h q2 = some (1, 11, f3)) (k : wm P d 485 [.index q2, vi x1] h (wq P d sw_c504 sw_h504 5 [.index q2, vi x1, vi x2] [] kc ks Q)) (e_q2 : r0 = .index q2 := by first | rfl | assumption) (y1 : s_ty r0 = 3 := by first | rfl | assumption)  : wr P d sw_c504 sw_h504 (0, [r0, vi x1, vi x2], [], h, kc, ks) Q := by
  refine w_ld rfl rfl (Or.inr (Or.inr ⟨by decide, y1⟩)) ?_
  refine w_ld rfl rfl (Or.inl ⟨by decide, rfl⟩) ?_
  subst e_q2
  exact w_cv rfl [.index q2, vi x1] [] rfl rfl (s_wt_4 rfl) rfl g4 k

theorem k504_5 {P : s_P} {d : Nat} {Q : s_O → Prop} {h : s_H} {kc ks : Nat} {r0 : Term} {x1 x2 s0 : Int}  (k1 : s0 ≠ 0 → wr P d sw_c504 sw_h504 (10, [r0, vi x1, vi x2], [], h, kc, ks) Q) (k2 : ¬ s0 ≠ 0 → wr P d sw_c504 sw_h504 (8, [r0, vi x1, vi x2], [], h, kc, ks) Q)  (c1 : In3 s0 := by first | omega | assumption | (simp only [mk_len, List.length_map]; omega) | decide) : wr P d sw_c504 sw_h504 (5, [r0, vi x1, vi x2], [vi s0], h, kc, ks) Q := by
  exact w_if1 rfl c1 k1 k2

theorem k504_8 {P : s_P} {d : Nat} {Q : s_O → Prop} {h : s_H} {kc ks : Nat} {r0 : Term} {x1 x2 : Int}  (k : Q (.inl (some (vi 0)), h, kc, ks))   : wr P d sw_c504 sw_h504 (8, [r0, vi x1, vi x2], [], h, kc, ks) Q := by
  refine w_c32 rfl (by decide) 0 (by decide) ?_
  exact w_iret rfl k

theorem k504_10 {P : s_P} {d : Nat} {Q : s_O → Prop} {h : s_H} {kc ks : Nat} {r0 : Term} {x1 x2 : Int} {q3 : Nat} {f4 : List Term} {z6 : Int} (g5 : s_get h q3 = some (1, 11, f4)) (k : wm P d 464 [vl x2, vl 0, vl (z6 - 1)] h (wq P d sw_c504 sw_h504 23 [.index q3, vi x1, vi x2] [] kc ks Q)) (e_q3 : r0 = .index q3 := by first | rfl | assumption) (y2 : s_ty r0 = 3 := by first | rfl | assumption) (n7 : s_nth f4 77 = some (vi z6) := by first | rfl | assumption) (c1 : In3 x2 := by first | omega | assumption | (simp only [mk_len, List.length_map]; omega) | decide) (c8 : In3 (z6 - 1) := by first | omega | assumption | (simp only [mk_len, List.length_map]; omega) | decide) : wr P d sw_c504 sw_h504 (10, [r0, vi x1, vi x2], [], h, kc, ks) Q := by
  refine w_ld rfl rfl (Or.inl ⟨by decide, rfl⟩) ?_
  refine w_i2l rfl c1 ?_
  refine w_c64 rfl (by decide) 0 (by decide) ?_
  refine w_ld rfl rfl (Or.inr (Or.inr ⟨by decide, y2⟩)) ?_
  subst e_q3
  refine w_getf rfl g5 n7 ?_
  refine w_c32 rfl (by decide) 1 (by decide) ?_
  refine w_isub rfl ?_
  refine w_i2l rfl c8 ?_
  exact w_cs rfl [vl x2, vl 0, vl (z6 - 1)] [] rfl rfl (s_wt_4 rfl) k

theorem k504_23 {P : s_P} {d : Nat} {Q : s_O → Prop} {h : s_H} {kc ks : Nat} {r0 : Term} {x1 x2 s0 : Int}  (k1 : s0 = 0 → wr P d sw_c504 sw_h504 (35, [r0, vi x1, vi x2], [], h, kc, ks) Q) (k2 : ¬ s0 = 0 → wr P d sw_c504 sw_h504 (26, [r0, vi x1, vi x2], [], h, kc, ks) Q)  (c1 : In3 s0 := by first | omega | assumption | (simp only [mk_len, List.length_map]; omega) | decide) : wr P d sw_c504 sw_h504 (23, [r0, vi x1, vi x2], [vi s0], h, kc, ks) Q := by
  exact w_if1 rfl c1 k1 k2

theorem k504_26 {P : s_P} {d : Nat} {Q : s_O → Prop} {h : s_H} {kc ks : Nat} {r0 : Term} {x1 x2 : Int} {q2 : Nat} {f3 : List Term} {v5 : Term} {q7 : Nat} {a8 : List Int} (g4 : s_get h q2 = some (1, 11, f3)) (g9 : s_get h q7 = some (0, 0, a8.map vi)) (k : wr P d sw_c504 sw_h504 (36, [.index q2, vi x1, vi x2], [vi (gi a8 x2)], h, kc, ks) Q) (e_q2 : r0 = .index q2 := by first | rfl | assumption) (e_q7 : v5 = .index q7 := by first | rfl | assumption) (y1 : s_ty r0 = 3 := by first | rfl | assumption) (n6 : s_nth f3 78 = some v5 := by first | rfl | assumption) (c10 : x2 < a8.length := by first | omega | assumption | (simp only [mk_len, List.length_map]; omega) | decide) (c11 : 0 ≤ x2 := by first | omega | assumption | (simp only [mk_len, List.length_map]; omega) | decide) (c12 : In3 x2 := by first | omega | assumption | (simp only [mk_len, List.length_map]; omega) | decide) : wr P d sw_c504 sw_h504 (26, [r0, vi x1, vi x2], [], h, kc, ks) Q := by
  refine w_ld rfl rfl (Or.inr (Or.inr ⟨by decide, y1⟩)) ?_
  subst e_q2
  refine w_getf rfl g4 n6 ?_
  refine w_ld rfl rfl (Or.inl ⟨by decide, rfl⟩) ?_
  subst e_q7
  refine w_iald rfl g9 (Or.inl rfl) c12 c11 c10 ?_
  refine w_goto rfl ?_
  exact k

theorem k504_35 {P : s_P} {d : Nat} {Q : s_O → Prop} {h : s_H} {kc ks : Nat} {r0 : Term} {x1 x2 : Int}  (k : wr P d sw_c504 sw_h504 (36, [r0, vi x1, vi x2], [vi (-1)], h, kc, ks) Q)   : wr P d sw_c504 sw_h504 (35, [r0, vi x1, vi x2], [], h, kc, ks) Q := by
  refine w_c32 rfl (by decide) (-1) (by decide) ?_
  exact k

theorem k504_36 {P : s_P} {d : Nat} {Q : s_O → Prop} {h : s_H} {kc ks : Nat} {r0 : Term} {x1 x2 s0 : Int}  (k : Q (.inl (some (vi s0)), h, kc, ks))   : wr P d sw_c504 sw_h504 (36, [r0, vi x1, vi x2], [vi s0], h, kc, ks) Q := by
  exact w_iret rfl k

/-! 505: FormulaWorksModel.load([J[JI)V -/
theorem k505_0 {P : s_P} {d : Nat} {Q : s_O → Prop} {h : s_H} {kc ks : Nat} {r0 r1 r2 : Term} {x3 : Int} {t4 : Term}  (k : wr P d sw_c505 sw_h505 (3, [r0, r1, r2, vi x3, vi 0], [], h, kc, ks) Q)   : wr P d sw_c505 sw_h505 (0, [r0, r1, r2, vi x3, t4], [], h, kc, ks) Q := by
  refine w_c32 rfl (by decide) 0 (by decide) ?_
  refine w_st (ls' := [r0, r1, r2, vi x3, vi 0]) rfl (Or.inl ⟨by decide, rfl⟩) rfl ?_
  exact k

theorem k505_3 {P : s_P} {d : Nat} {Q : s_O → Prop} {h : s_H} {kc ks : Nat} {r0 r1 r2 : Term} {x3 x4 : Int}  (k1 : 176 ≤ x4 → wr P d sw_c505 sw_h505 (73, [r0, r1, r2, vi x3, vi x4], [], h, kc, ks) Q) (k2 : ¬ 176 ≤ x4 → wr P d sw_c505 sw_h505 (11, [r0, r1, r2, vi x3, vi x4], [], h, kc, ks) Q)  (c1 : In3 x4 := by first | omega | assumption | (simp only [mk_len, List.length_map]; omega) | decide) : wr P d sw_c505 sw_h505 (3, [r0, r1, r2, vi x3, vi x4], [], h, kc, ks) Q := by
  refine w_ld rfl rfl (Or.inl ⟨by decide, rfl⟩) ?_
  refine w_c32 rfl (by decide) 176 (by decide) ?_
  exact w_if2 rfl c1 (by decide) k1 k2

theorem k505_11 {P : s_P} {d : Nat} {Q : s_O → Prop} {h : s_H} {kc ks : Nat} {r0 r1 r2 : Term} {x3 x4 : Int}  (k1 : 40 < x4 → wr P d sw_c505 sw_h505 (37, [r0, r1, r2, vi x3, vi x4], [vi x4, r1], h, kc, ks) Q) (k2 : ¬ 40 < x4 → wr P d sw_c505 sw_h505 (21, [r0, r1, r2, vi x3, vi x4], [vi x4, r1], h, kc, ks) Q) (y1 : s_ty r1 = 3 := by first | rfl | assumption) (c2 : In3 x4 := by first | omega | assumption | (simp only [mk_len, List.length_map]; omega) | decide) : wr P d sw_c505 sw_h505 (11, [r0, r1, r2, vi x3, vi x4], [], h, kc, ks) Q := by
  refine w_ld rfl rfl (Or.inr (Or.inr ⟨by decide, y1⟩)) ?_
  refine w_ld rfl rfl (Or.inl ⟨by decide, rfl⟩) ?_
  refine w_ld rfl rfl (Or.inl ⟨by decide, rfl⟩) ?_
  refine w_c32 rfl (by decide) 40 (by decide) ?_
  exact w_if2 rfl c2 (by decide) k1 k2

theorem k505_21 {P : s_P} {d : Nat} {Q : s_O → Prop} {h : s_H} {kc ks : Nat} {r0 r1 r2 : Term} {x3 x4 : Int} {s0 : Term} {s1 : Int} {q2 : Nat} {f3 : List Term} {v5 : Term} {q7 : Nat} {a8 : List Int} (g4 : s_get h q2 = some (1, 11, f3)) (g9 : s_get h q7 = some (0, 0, a8.map vi)) (k : wr P d sw_c505 sw_h505 (38, [.index q2, r1, r2, vi x3, vi x4], [vl (gi a8 ((41 * x3) + x4)), vi s1, s0], h, kc, ks) Q) (e_q2 : r0 = .index q2 := by first | rfl | assumption) (e_q7 : v5 = .index q7 := by first | rfl | assumption) (y1 : s_ty r0 = 3 := by first | rfl | assumption) (n6 : s_nth f3 3 = some v5 := by first | rfl | assumption) (c10 : (41 * x3) + x4 < a8.length := by first | omega | assumption | (simp only [mk_len, List.length_map]; omega) | decide) (c11 : 0 ≤ (41 * x3) + x4 := by first | omega | assumption | (simp only [mk_len, List.length_map]; omega) | decide) (c12 : In3 ((41 * x3) + x4) := by first | omega | assumption | (simp only [mk_len, List.length_map]; omega) | decide) (c13 : In3 (gi a8 ((41 * x3) + x4)) := by first | omega | assumption | (simp only [mk_len, List.length_map]; omega) | decide) : wr P d sw_c505 sw_h505 (21, [r0, r1, r2, vi x3, vi x4], [vi s1, s0], h, kc, ks) Q := by
  refine w_ld rfl rfl (Or.inr (Or.inr ⟨by decide, y1⟩)) ?_
  subst e_q2
  refine w_getf rfl g4 n6 ?_
  refine w_c32 rfl (by decide) 41 (by decide) ?_
  refine w_ld rfl rfl (Or.inl ⟨by decide, rfl⟩) ?_
  refine w_imul rfl ?_
  refine w_ld rfl rfl (Or.inl ⟨by decide, rfl⟩) ?_
  refine w_iadd rfl ?_
  subst e_q7
  refine w_iald rfl g9 (Or.inl rfl) c12 c11 c10 ?_
  refine w_i2l rfl c13 ?_
  refine w_goto rfl ?_
  exact k

theorem k505_37 {P : s_P} {d : Nat} {Q : s_O → Prop} {h : s_H} {kc ks : Nat} {r0 r1 r2 : Term} {x3 x4 : Int} {s0 : Term} {s1 : Int}  (k : wr P d sw_c505 sw_h505 (38, [r0, r1, r2, vi x3, vi x4], [vl 0, vi s1, s0], h, kc, ks) Q)   : wr P d sw_c505 sw_h505 (37, [r0, r1, r2, vi x3, vi x4], [vi s1, s0], h, kc, ks) Q := by
  refine w_c64 rfl (by decide) 0 (by decide) ?_
  exact k

theorem k505_38 {P : s_P} {d : Nat} {Q : s_O → Prop} {h : s_H} {kc ks : Nat} {r0 r1 r2 : Term} {x3 x4 : Int} {s0 : Term} {s1 s2 : Int} {q1 : Nat} {a2 : List Int} (g3 : s_get h q1 = some (0, 1, a2.map vl)) (k1 : 40 < x4 → wr P d sw_c505 sw_h505 (65, [r0, r1, r2, vi x3, vi x4], [vi x4, r2], (hp h q1 (0, 1, (a2.set (Int.toNat (s1)) s2).map vl)), kc, ks) Q) (k2 : ¬ 40 < x4 → wr P d sw_c505 sw_h505 (49, [r0, r1, r2, vi x3, vi x4], [vi x4, r2], (hp h q1 (0, 1, (a2.set (Int.toNat (s1)) s2).map vl)), kc, ks) Q) (e_q1 : s0 = .index q1 := by first | rfl | assumption) (y8 : s_ty r2 = 3 := by first | rfl | assumption) (c4 : s1 < a2.length := by first | omega | assumption | (simp only [mk_len, List.length_map]; omega) | decide) (c5 : 0 ≤ s1 := by first | omega | assumption | (simp only [mk_len, List.length_map]; omega) | decide) (c6 : In3 s1 := by first | omega | assumption | (simp only [mk_len, List.length_map]; omega) | decide) (c7 : 0 < q1 := by first | omega | assumption | (simp only [mk_len, List.length_map]; omega) | decide) (c9 : In3 x4 := by first | omega | assumption | (simp only [mk_len, List.length_map]; omega) | decide) : wr P d sw_c505 sw_h505 (38, [r0, r1, r2, vi x3, vi x4], [vl s2, vi s1, s0], h, kc, ks) Q := by
  subst e_q1
  refine w_last rfl g3 (Nat.ble_eq_true_of_le c7) c6 c5 c4 ?_
  refine w_ld rfl rfl (Or.inr (Or.inr ⟨by decide, y8⟩)) ?_
  refine w_ld rfl rfl (Or.inl ⟨by decide, rfl⟩) ?_
  refine w_ld rfl rfl (Or.inl ⟨by decide, rfl⟩) ?_
  refine w_c32 rfl (by decide) 40 (by decide) ?_
  exact w_if2 rfl c9 (by decide) k1 k2

theorem k505_49 {P : s_P} {d : Nat} {Q : s_O → Prop} {h : s_H} {kc ks : Nat} {r0 r1 r2 : Term} {x3 x4 : Int} {s0 : Term} {s1 : Int} {q2 : Nat} {f3 : List Term} {v5 : Term} {q7 : Nat} {a8 : List Int} (g4 : s_get h q2 = some (1, 11, f3)) (g9 : s_get h q7 = some (0, 0, a8.map vi)) (k : wr P d sw_c505 sw_h505 (66, [.index q2, r1, r2, vi x3, vi x4], [vl (gi a8 ((41 * x3) + x4)), vi s1, s0], h, kc, ks) Q) (e_q2 : r0 = .index q2 := by first | rfl | assumption) (e_q7 : v5 = .index q7 := by first | rfl | assumption) (y1 : s_ty r0 = 3 := by first | rfl | assumption) (n6 : s_nth f3 4 = some v5 := by first | rfl | assumption) (c10 : (41 * x3) + x4 < a8.length := by first | omega | assumption | (simp only [mk_len, List.length_map]; omega) | decide) (c11 : 0 ≤ (41 * x3) + x4 := by first | omega | assumption | (simp only [mk_len, List.length_map]; omega) | decide) (c12 : In3 ((41 * x3) + x4) := by first | omega | assumption | (simp only [mk_len, List.length_map]; omega) | decide) (c13 : In3 (gi a8 ((41 * x3) + x4)) := by first | omega | assumption | (simp only [mk_len, List.length_map]; omega) | decide) : wr P d sw_c505 sw_h505 (49, [r0, r1, r2, vi x3, vi x4], [vi s1, s0], h, kc, ks) Q := by
  refine w_ld rfl rfl (Or.inr (Or.inr ⟨by decide, y1⟩)) ?_
  subst e_q2
  refine w_getf rfl g4 n6 ?_
  refine w_c32 rfl (by decide) 41 (by decide) ?_
  refine w_ld rfl rfl (Or.inl ⟨by decide, rfl⟩) ?_
  refine w_imul rfl ?_
  refine w_ld rfl rfl (Or.inl ⟨by decide, rfl⟩) ?_
  refine w_iadd rfl ?_
  subst e_q7
  refine w_iald rfl g9 (Or.inl rfl) c12 c11 c10 ?_
  refine w_i2l rfl c13 ?_
  refine w_goto rfl ?_
  exact k

theorem k505_65 {P : s_P} {d : Nat} {Q : s_O → Prop} {h : s_H} {kc ks : Nat} {r0 r1 r2 : Term} {x3 x4 : Int} {s0 : Term} {s1 : Int}  (k : wr P d sw_c505 sw_h505 (66, [r0, r1, r2, vi x3, vi x4], [vl 0, vi s1, s0], h, kc, ks) Q)   : wr P d sw_c505 sw_h505 (65, [r0, r1, r2, vi x3, vi x4], [vi s1, s0], h, kc, ks) Q := by
  refine w_c64 rfl (by decide) 0 (by decide) ?_
  exact k

theorem k505_66 {P : s_P} {d : Nat} {Q : s_O → Prop} {h : s_H} {kc ks : Nat} {r0 r1 r2 : Term} {x3 x4 : Int} {s0 : Term} {s1 s2 : Int} {q1 : Nat} {a2 : List Int} (g3 : s_get h q1 = some (0, 1, a2.map vl)) (k : wr P d sw_c505 sw_h505 (3, [r0, r1, r2, vi x3, vi (x4 + 1)], [], (hp h q1 (0, 1, (a2.set (Int.toNat (s1)) s2).map vl)), kc, ks) Q) (e_q1 : s0 = .index q1 := by first | rfl | assumption) (c4 : s1 < a2.length := by first | omega | assumption | (simp only [mk_len, List.length_map]; omega) | decide) (c5 : 0 ≤ s1 := by first | omega | assumption | (simp only [mk_len, List.length_map]; omega) | decide) (c6 : In3 s1 := by first | omega | assumption | (simp only [mk_len, List.length_map]; omega) | decide) (c7 : 0 < q1 := by first | omega | assumption | (simp only [mk_len, List.length_map]; omega) | decide) : wr P d sw_c505 sw_h505 (66, [r0, r1, r2, vi x3, vi x4], [vl s2, vi s1, s0], h, kc, ks) Q := by
  subst e_q1
  refine w_last rfl g3 (Nat.ble_eq_true_of_le c7) c6 c5 c4 ?_
  refine w_iinc (ls' := [r0, r1, r2, vi x3, vi (x4 + 1)]) rfl rfl 1 (by decide) rfl ?_
  refine w_goto rfl ?_
  exact k

theorem k505_73 {P : s_P} {d : Nat} {Q : s_O → Prop} {h : s_H} {kc ks : Nat} {r0 r1 r2 : Term} {x3 x4 : Int}  (k : Q (.inl none, h, kc, ks))   : wr P d sw_c505 sw_h505 (73, [r0, r1, r2, vi x3, vi x4], [], h, kc, ks) Q := by
  exact w_ret rfl k

/-! 506: FormulaWorksModel.loadBoth(Z)V -/
theorem k506_0 {P : s_P} {d : Nat} {Q : s_O → Prop} {h : s_H} {kc ks : Nat} {r0 : Term} {x1 : Int} {t2 : Term} {q2 : Nat} {f3 : List Term} {v5 : Term} (g4 : s_get h q2 = some (1, 11, f3)) (k : wm P d 438 [v5] h (wq P d sw_c506 sw_h506 7 [.index q2, vi x1, t2] [] kc ks Q)) (e_q2 : r0 = .index q2 := by first | rfl | assumption) (y1 : s_ty r0 = 3 := by first | rfl | assumption) (n6 : s_nth f3 10 = some v5 := by first | rfl | assumption)  : wr P d sw_c506 sw_h506 (0, [r0, vi x1, t2], [], h, kc, ks) Q := by
  refine w_ld rfl rfl (Or.inr (Or.inr ⟨by decide, y1⟩)) ?_
  subst e_q2
  refine w_getf rfl g4 n6 ?_
  exact w_cs rfl [v5] [] rfl rfl (s_wt_4 rfl) k

theorem k506_7 {P : s_P} {d : Nat} {Q : s_O → Prop} {h : s_H} {kc ks : Nat} {r0 : Term} {x1 : Int} {t2 : Term} {q2 : Nat} {f3 : List Term} {v5 : Term} (g4 : s_get h q2 = some (1, 11, f3)) (k : wm P d 438 [v5] h (wq P d sw_c506 sw_h506 14 [.index q2, vi x1, t2] [] kc ks Q)) (e_q2 : r0 = .index q2 := by first | rfl | assumption) (y1 : s_ty r0 = 3 := by first | rfl | assumption) (n6 : s_nth f3 11 = some v5 := by first | rfl | assumption)  : wr P d sw_c506 sw_h506 (7, [r0, vi x1, t2], [], h, kc, ks) Q := by
  refine w_ld rfl rfl (Or.inr (Or.inr ⟨by decide, y1⟩)) ?_
  subst e_q2
  refine w_getf rfl g4 n6 ?_
  exact w_cs rfl [v5] [] rfl rfl (s_wt_4 rfl) k

theorem k506_14 {P : s_P} {d : Nat} {Q : s_O → Prop} {h : s_H} {kc ks : Nat} {r0 : Term} {x1 : Int} {t2 : Term}  (k : wr P d sw_c506 sw_h506 (16, [r0, vi x1, vi 0], [], h, kc, ks) Q)   : wr P d sw_c506 sw_h506 (14, [r0, vi x1, t2], [], h, kc, ks) Q := by
  refine w_c32 rfl (by decide) 0 (by decide) ?_
  refine w_st (ls' := [r0, vi x1, vi 0]) rfl (Or.inl ⟨by decide, rfl⟩) rfl ?_
  exact k

theorem k506_16 {P : s_P} {d : Nat} {Q : s_O → Prop} {h : s_H} {kc ks : Nat} {r0 : Term} {x1 x2 : Int}  (k1 : 41 ≤ x2 → wr P d sw_c506 sw_h506 (110, [r0, vi x1, vi x2], [], h, kc, ks) Q) (k2 : ¬ 41 ≤ x2 → wr P d sw_c506 sw_h506 (22, [r0, vi x1, vi x2], [], h, kc, ks) Q)  (c1 : In3 x2 := by first | omega | assumption | (simp only [mk_len, List.length_map]; omega) | decide) : wr P d sw_c506 sw_h506 (16, [r0, vi x1, vi x2], [], h, kc, ks) Q := by
  refine w_ld rfl rfl (Or.inl ⟨by decide, rfl⟩) ?_
  refine w_c32 rfl (by decide) 41 (by decide) ?_
  exact w_if2 rfl c1 (by decide) k1 k2

theorem k506_22 {P : s_P} {d : Nat} {Q : s_O → Prop} {h : s_H} {kc ks : Nat} {r0 : Term} {x1 x2 : Int} {q2 : Nat} {f3 : List Term} {v5 : Term} (g4 : s_get h q2 = some (1, 11, f3)) (k1 : x1 = 0 → wr P d sw_c506 sw_h506 (48, [.index q2, vi x1, vi x2], [vi x2, v5], h, kc, ks) Q) (k2 : ¬ x1 = 0 → wr P d sw_c506 sw_h506 (31, [.index q2, vi x1, vi x2], [vi x2, v5], h, kc, ks) Q) (e_q2 : r0 = .index q2 := by first | rfl | assumption) (y1 : s_ty r0 = 3 := by first | rfl | assumption) (n6 : s_nth f3 10 = some v5 := by first | rfl | assumption) (c7 : In3 x1 := by first | omega | assumption | (simp only [mk_len, List.length_map]; omega) | decide) : wr P d sw_c506 sw_h506 (22, [r0, vi x1, vi x2], [], h, kc, ks) Q := by
  refine w_ld rfl rfl (Or.inr (Or.inr ⟨by decide, y1⟩)) ?_
  subst e_q2
  refine w_getf rfl g4 n6 ?_
  refine w_ld rfl rfl (Or.inl ⟨by decide, rfl⟩) ?_
  refine w_ld rfl rfl (Or.inl ⟨by decide, rfl⟩) ?_
  exact w_if1 rfl c7 k1 k2

theorem k506_31 {P : s_P} {d : Nat} {Q : s_O → Prop} {h : s_H} {kc ks : Nat} {r0 : Term} {x1 x2 : Int} {s0 : Term} {s1 : Int} {q2 : Nat} {f3 : List Term} {v5 : Term} {z7 : Int} {q9 : Nat} {a10 : List Int} (g4 : s_get h q2 = some (1, 11, f3)) (g11 : s_get h q9 = some (0, 1, a10.map vl)) (k : wr P d sw_c506 sw_h506 (62, [.index q2, vi x1, vi x2], [vl (gi a10 ((41 * z7) + x2)), vi s1, s0], h, kc, ks) Q) (e_q2 : r0 = .index q2 := by first | rfl | assumption) (e_q9 : v5 = .index q9 := by first | rfl | assumption) (y1 : s_ty r0 = 3 := by first | rfl | assumption) (n6 : s_nth f3 67 = some v5 := by first | rfl | assumption) (n8 : s_nth f3 59 = some (vi z7) := by first | rfl | assumption) (c12 : (41 * z7) + x2 < a10.length := by first | omega | assumption | (simp only [mk_len, List.length_map]; omega) | decide) (c13 : 0 ≤ (41 * z7) + x2 := by first | omega | assumption | (simp only [mk_len, List.length_map]; omega) | decide) (c14 : In3 ((41 * z7) + x2) := by first | omega | assumption | (simp only [mk_len, List.length_map]; omega) | decide) : wr P d sw_c506 sw_h506 (31, [r0, vi x1, vi x2], [vi s1, s0], h, kc, ks) Q := by
  refine w_ld rfl rfl (Or.inr (Or.inr ⟨by decide, y1⟩)) ?_
  subst e_q2
  refine w_getf rfl g4 n6 ?_
  refine w_c32 rfl (by decide) 41 (by decide) ?_
  refine w_ld rfl rfl (Or.inr (Or.inr ⟨by decide, rfl⟩)) ?_
  refine w_getf rfl g4 n8 ?_
  refine w_imul rfl ?_
  refine w_ld rfl rfl (Or.inl ⟨by decide, rfl⟩) ?_
  refine w_iadd rfl ?_
  subst e_q9
  refine w_lald rfl g11 c14 c13 c12 ?_
  refine w_goto rfl ?_
  exact k

theorem k506_48 {P : s_P} {d : Nat} {Q : s_O → Prop} {h : s_H} {kc ks : Nat} {r0 : Term} {x1 x2 : Int} {s0 : Term} {s1 : Int} {q2 : Nat} {f3 : List Term} {v5 : Term} {z7 : Int} {q9 : Nat} {a10 : List Int} (g4 : s_get h q2 = some (1, 11, f3)) (g11 : s_get h q9 = some (0, 1, a10.map vl)) (k : wr P d sw_c506 sw_h506 (62, [.index q2, vi x1, vi x2], [vl (gi a10 ((41 * z7) + x2)), vi s1, s0], h, kc, ks) Q) (e_q2 : r0 = .index q2 := by first | rfl | assumption) (e_q9 : v5 = .index q9 := by first | rfl | assumption) (y1 : s_ty r0 = 3 := by first | rfl | assumption) (n6 : s_nth f3 69 = some v5 := by first | rfl | assumption) (n8 : s_nth f3 59 = some (vi z7) := by first | rfl | assumption) (c12 : (41 * z7) + x2 < a10.length := by first | omega | assumption | (simp only [mk_len, List.length_map]; omega) | decide) (c13 : 0 ≤ (41 * z7) + x2 := by first | omega | assumption | (simp only [mk_len, List.length_map]; omega) | decide) (c14 : In3 ((41 * z7) + x2) := by first | omega | assumption | (simp only [mk_len, List.length_map]; omega) | decide) : wr P d sw_c506 sw_h506 (48, [r0, vi x1, vi x2], [vi s1, s0], h, kc, ks) Q := by
  refine w_ld rfl rfl (Or.inr (Or.inr ⟨by decide, y1⟩)) ?_
  subst e_q2
  refine w_getf rfl g4 n6 ?_
  refine w_c32 rfl (by decide) 41 (by decide) ?_
  refine w_ld rfl rfl (Or.inr (Or.inr ⟨by decide, rfl⟩)) ?_
  refine w_getf rfl g4 n8 ?_
  refine w_imul rfl ?_
  refine w_ld rfl rfl (Or.inl ⟨by decide, rfl⟩) ?_
  refine w_iadd rfl ?_
  subst e_q9
  refine w_lald rfl g11 c14 c13 c12 ?_
  exact k

theorem k506_62 {P : s_P} {d : Nat} {Q : s_O → Prop} {h : s_H} {kc ks : Nat} {r0 : Term} {x1 x2 : Int} {s0 : Term} {s1 s2 : Int} {q1 : Nat} {a2 : List Int} {q9 : Nat} {f10 : List Term} {v12 : Term} (g3 : s_get h q1 = some (0, 1, a2.map vl)) (g11 : s_get (hp h q1 (0, 1, (a2.set (Int.toNat (s1)) s2).map vl)) q9 = some (1, 11, f10)) (k1 : x1 = 0 → wr P d sw_c506 sw_h506 (89, [.index q9, vi x1, vi x2], [vi x2, v12], (hp h q1 (0, 1, (a2.set (Int.toNat (s1)) s2).map vl)), kc, ks) Q) (k2 : ¬ x1 = 0 → wr P d sw_c506 sw_h506 (72, [.index q9, vi x1, vi x2], [vi x2, v12], (hp h q1 (0, 1, (a2.set (Int.toNat (s1)) s2).map vl)), kc, ks) Q) (e_q1 : s0 = .index q1 := by first | rfl | assumption) (e_q9 : r0 = .index q9 := by first | rfl | assumption) (y8 : s_ty r0 = 3 := by first | rfl | assumption) (n13 : s_nth f10 11 = some v12 := by first | rfl | assumption) (c4 : s1 < a2.length := by first | omega | assumption | (simp only [mk_len, List.length_map]; omega) | decide) (c5 : 0 ≤ s1 := by first | omega | assumption | (simp only [mk_len, List.length_map]; omega) | decide) (c6 : In3 s1 := by first | omega | assumption | (simp only [mk_len, List.length_map]; omega) | decide) (c7 : 0 < q1 := by first | omega | assumption | (simp only [mk_len, List.length_map]; omega) | decide) (c14 : In3 x1 := by first | omega | assumption | (simp only [mk_len, List.length_map]; omega) | decide) : wr P d sw_c506 sw_h506 (62, [r0, vi x1, vi x2], [vl s2, vi s1, s0], h, kc, ks) Q := by
  subst e_q1
  refine w_last rfl g3 (Nat.ble_eq_true_of_le c7) c6 c5 c4 ?_
  refine w_ld rfl rfl (Or.inr (Or.inr ⟨by decide, y8⟩)) ?_
  subst e_q9
  refine w_getf rfl g11 n13 ?_
  refine w_ld rfl rfl (Or.inl ⟨by decide, rfl⟩) ?_
  refine w_ld rfl rfl (Or.inl ⟨by decide, rfl⟩) ?_
  exact w_if1 rfl c14 k1 k2

theorem k506_72 {P : s_P} {d : Nat} {Q : s_O → Prop} {h : s_H} {kc ks : Nat} {r0 : Term} {x1 x2 : Int} {s0 : Term} {s1 : Int} {q2 : Nat} {f3 : List Term} {v5 : Term} {z7 : Int} {q9 : Nat} {a10 : List Int} (g4 : s_get h q2 = some (1, 11, f3)) (g11 : s_get h q9 = some (0, 1, a10.map vl)) (k : wr P d sw_c506 sw_h506 (103, [.index q2, vi x1, vi x2], [vl (gi a10 ((41 * z7) + x2)), vi s1, s0], h, kc, ks) Q) (e_q2 : r0 = .index q2 := by first | rfl | assumption) (e_q9 : v5 = .index q9 := by first | rfl | assumption) (y1 : s_ty r0 = 3 := by first | rfl | assumption) (n6 : s_nth f3 68 = some v5 := by first | rfl | assumption) (n8 : s_nth f3 59 = some (vi z7) := by first | rfl | assumption) (c12 : (41 * z7) + x2 < a10.length := by first | omega | assumption | (simp only [mk_len, List.length_map]; omega) | decide) (c13 : 0 ≤ (41 * z7) + x2 := by first | omega | assumption | (simp only [mk_len, List.length_map]; omega) | decide) (c14 : In3 ((41 * z7) + x2) := by first | omega | assumption | (simp only [mk_len, List.length_map]; omega) | decide) : wr P d sw_c506 sw_h506 (72, [r0, vi x1, vi x2], [vi s1, s0], h, kc, ks) Q := by
  refine w_ld rfl rfl (Or.inr (Or.inr ⟨by decide, y1⟩)) ?_
  subst e_q2
  refine w_getf rfl g4 n6 ?_
  refine w_c32 rfl (by decide) 41 (by decide) ?_
  refine w_ld rfl rfl (Or.inr (Or.inr ⟨by decide, rfl⟩)) ?_
  refine w_getf rfl g4 n8 ?_
  refine w_imul rfl ?_
  refine w_ld rfl rfl (Or.inl ⟨by decide, rfl⟩) ?_
  refine w_iadd rfl ?_
  subst e_q9
  refine w_lald rfl g11 c14 c13 c12 ?_
  refine w_goto rfl ?_
  exact k

theorem k506_89 {P : s_P} {d : Nat} {Q : s_O → Prop} {h : s_H} {kc ks : Nat} {r0 : Term} {x1 x2 : Int} {s0 : Term} {s1 : Int} {q2 : Nat} {f3 : List Term} {v5 : Term} {z7 : Int} {q9 : Nat} {a10 : List Int} (g4 : s_get h q2 = some (1, 11, f3)) (g11 : s_get h q9 = some (0, 1, a10.map vl)) (k : wr P d sw_c506 sw_h506 (103, [.index q2, vi x1, vi x2], [vl (gi a10 ((41 * z7) + x2)), vi s1, s0], h, kc, ks) Q) (e_q2 : r0 = .index q2 := by first | rfl | assumption) (e_q9 : v5 = .index q9 := by first | rfl | assumption) (y1 : s_ty r0 = 3 := by first | rfl | assumption) (n6 : s_nth f3 70 = some v5 := by first | rfl | assumption) (n8 : s_nth f3 59 = some (vi z7) := by first | rfl | assumption) (c12 : (41 * z7) + x2 < a10.length := by first | omega | assumption | (simp only [mk_len, List.length_map]; omega) | decide) (c13 : 0 ≤ (41 * z7) + x2 := by first | omega | assumption | (simp only [mk_len, List.length_map]; omega) | decide) (c14 : In3 ((41 * z7) + x2) := by first | omega | assumption | (simp only [mk_len, List.length_map]; omega) | decide) : wr P d sw_c506 sw_h506 (89, [r0, vi x1, vi x2], [vi s1, s0], h, kc, ks) Q := by
  refine w_ld rfl rfl (Or.inr (Or.inr ⟨by decide, y1⟩)) ?_
  subst e_q2
  refine w_getf rfl g4 n6 ?_
  refine w_c32 rfl (by decide) 41 (by decide) ?_
  refine w_ld rfl rfl (Or.inr (Or.inr ⟨by decide, rfl⟩)) ?_
  refine w_getf rfl g4 n8 ?_
  refine w_imul rfl ?_
  refine w_ld rfl rfl (Or.inl ⟨by decide, rfl⟩) ?_
  refine w_iadd rfl ?_
  subst e_q9
  refine w_lald rfl g11 c14 c13 c12 ?_
  exact k

theorem k506_103 {P : s_P} {d : Nat} {Q : s_O → Prop} {h : s_H} {kc ks : Nat} {r0 : Term} {x1 x2 : Int} {s0 : Term} {s1 s2 : Int} {q1 : Nat} {a2 : List Int} (g3 : s_get h q1 = some (0, 1, a2.map vl)) (k : wr P d sw_c506 sw_h506 (16, [r0, vi x1, vi (x2 + 1)], [], (hp h q1 (0, 1, (a2.set (Int.toNat (s1)) s2).map vl)), kc, ks) Q) (e_q1 : s0 = .index q1 := by first | rfl | assumption) (c4 : s1 < a2.length := by first | omega | assumption | (simp only [mk_len, List.length_map]; omega) | decide) (c5 : 0 ≤ s1 := by first | omega | assumption | (simp only [mk_len, List.length_map]; omega) | decide) (c6 : In3 s1 := by first | omega | assumption | (simp only [mk_len, List.length_map]; omega) | decide) (c7 : 0 < q1 := by first | omega | assumption | (simp only [mk_len, List.length_map]; omega) | decide) : wr P d sw_c506 sw_h506 (103, [r0, vi x1, vi x2], [vl s2, vi s1, s0], h, kc, ks) Q := by
  subst e_q1
  refine w_last rfl g3 (Nat.ble_eq_true_of_le c7) c6 c5 c4 ?_
  refine w_iinc (ls' := [r0, vi x1, vi (x2 + 1)]) rfl rfl 1 (by decide) rfl ?_
  refine w_goto rfl ?_
  exact k

theorem k506_110 {P : s_P} {d : Nat} {Q : s_O → Prop} {h : s_H} {kc ks : Nat} {r0 : Term} {x1 x2 : Int} {q2 : Nat} {f3 : List Term} {v5 v7 : Term} (g4 : s_get h q2 = some (1, 11, f3)) (k : wm P d 425 [v5, v7] h (wq P d sw_c506 sw_h506 121 [.index q2, vi x1, vi x2] [] kc ks Q)) (e_q2 : r0 = .index q2 := by first | rfl | assumption) (y1 : s_ty r0 = 3 := by first | rfl | assumption) (n6 : s_nth f3 12 = some v5 := by first | rfl | assumption) (n8 : s_nth f3 14 = some v7 := by first | rfl | assumption)  : wr P d sw_c506 sw_h506 (110, [r0, vi x1, vi x2], [], h, kc, ks) Q := by
  refine w_ld rfl rfl (Or.inr (Or.inr ⟨by decide, y1⟩)) ?_
  subst e_q2
  refine w_getf rfl g4 n6 ?_
  refine w_ld rfl rfl (Or.inr (Or.inr ⟨by decide, rfl⟩)) ?_
  refine w_getf rfl g4 n8 ?_
  exact w_cs rfl [v5, v7] [] rfl rfl (s_wt_4 rfl) k

theorem k506_121 {P : s_P} {d : Nat} {Q : s_O → Prop} {h : s_H} {kc ks : Nat} {r0 : Term} {x1 x2 : Int} {q2 : Nat} {f3 : List Term} {v5 v7 : Term} (g4 : s_get h q2 = some (1, 11, f3)) (k : wm P d 425 [v5, v7] h (wq P d sw_c506 sw_h506 132 [.index q2, vi x1, vi x2] [] kc ks Q)) (e_q2 : r0 = .index q2 := by first | rfl | assumption) (y1 : s_ty r0 = 3 := by first | rfl | assumption) (n6 : s_nth f3 13 = some v5 := by first | rfl | assumption) (n8 : s_nth f3 15 = some v7 := by first | rfl | assumption)  : wr P d sw_c506 sw_h506 (121, [r0, vi x1, vi x2], [], h, kc, ks) Q := by
  refine w_ld rfl rfl (Or.inr (Or.inr ⟨by decide, y1⟩)) ?_
  subst e_q2
  refine w_getf rfl g4 n6 ?_
  refine w_ld rfl rfl (Or.inr (Or.inr ⟨by decide, rfl⟩)) ?_
  refine w_getf rfl g4 n8 ?_
  exact w_cs rfl [v5, v7] [] rfl rfl (s_wt_4 rfl) k

theorem k506_132 {P : s_P} {d : Nat} {Q : s_O → Prop} {h : s_H} {kc ks : Nat} {r0 : Term} {x1 x2 : Int}  (k : Q (.inl none, h, kc, ks))   : wr P d sw_c506 sw_h506 (132, [r0, vi x1, vi x2], [], h, kc, ks) Q := by
  exact w_ret rfl k

/-! 507: FormulaWorksModel.loadCell(I)V -/
theorem k507_0 {P : s_P} {d : Nat} {Q : s_O → Prop} {h : s_H} {kc ks : Nat} {r0 : Term} {x1 : Int} {t2 : Term} {q2 : Nat} {f3 : List Term} {v5 : Term} (g4 : s_get h q2 = some (1, 11, f3)) (k : wm P d 438 [v5] h (wq P d sw_c507 sw_h507 7 [.index q2, vi x1, t2] [] kc ks Q)) (e_q2 : r0 = .index q2 := by first | rfl | assumption) (y1 : s_ty r0 = 3 := by first | rfl | assumption) (n6 : s_nth f3 14 = some v5 := by first | rfl | assumption)  : wr P d sw_c507 sw_h507 (0, [r0, vi x1, t2], [], h, kc, ks) Q := by
  refine w_ld rfl rfl (Or.inr (Or.inr ⟨by decide, y1⟩)) ?_
  subst e_q2
  refine w_getf rfl g4 n6 ?_
  exact w_cs rfl [v5] [] rfl rfl (s_wt_4 rfl) k

theorem k507_7 {P : s_P} {d : Nat} {Q : s_O → Prop} {h : s_H} {kc ks : Nat} {r0 : Term} {x1 : Int} {t2 : Term} {q2 : Nat} {f3 : List Term} {v5 : Term} (g4 : s_get h q2 = some (1, 11, f3)) (k : wm P d 438 [v5] h (wq P d sw_c507 sw_h507 14 [.index q2, vi x1, t2] [] kc ks Q)) (e_q2 : r0 = .index q2 := by first | rfl | assumption) (y1 : s_ty r0 = 3 := by first | rfl | assumption) (n6 : s_nth f3 15 = some v5 := by first | rfl | assumption)  : wr P d sw_c507 sw_h507 (7, [r0, vi x1, t2], [], h, kc, ks) Q := by
  refine w_ld rfl rfl (Or.inr (Or.inr ⟨by decide, y1⟩)) ?_
  subst e_q2
  refine w_getf rfl g4 n6 ?_
  exact w_cs rfl [v5] [] rfl rfl (s_wt_4 rfl) k

theorem k507_14 {P : s_P} {d : Nat} {Q : s_O → Prop} {h : s_H} {kc ks : Nat} {r0 : Term} {x1 : Int} {t2 : Term}  (k : wr P d sw_c507 sw_h507 (16, [r0, vi x1, vi 0], [], h, kc, ks) Q)   : wr P d sw_c507 sw_h507 (14, [r0, vi x1, t2], [], h, kc, ks) Q := by
  refine w_c32 rfl (by decide) 0 (by decide) ?_
  refine w_st (ls' := [r0, vi x1, vi 0]) rfl (Or.inl ⟨by decide, rfl⟩) rfl ?_
  exact k

theorem k507_16 {P : s_P} {d : Nat} {Q : s_O → Prop} {h : s_H} {kc ks : Nat} {r0 : Term} {x1 x2 : Int}  (k1 : 40 < x2 → wr P d sw_c507 sw_h507 (64, [r0, vi x1, vi x2], [], h, kc, ks) Q) (k2 : ¬ 40 < x2 → wr P d sw_c507 sw_h507 (22, [r0, vi x1, vi x2], [], h, kc, ks) Q)  (c1 : In3 x2 := by first | omega | assumption | (simp only [mk_len, List.length_map]; omega) | decide) : wr P d sw_c507 sw_h507 (16, [r0, vi x1, vi x2], [], h, kc, ks) Q := by
  refine w_ld rfl rfl (Or.inl ⟨by decide, rfl⟩) ?_
  refine w_c32 rfl (by decide) 40 (by decide) ?_
  exact w_if2 rfl c1 (by decide) k1 k2

theorem k507_22 {P : s_P} {d : Nat} {Q : s_O → Prop} {h : s_H} {kc ks : Nat} {r0 : Term} {x1 x2 : Int} {q2 : Nat} {f3 : List Term} {v5 v7 : Term} {q9 : Nat} {a10 : List Int} {q16 : Nat} {a17 : List Int} {f23 : List Term} {v25 v27 : Term} {q29 : Nat} {a30 : List Int} {q34 : Nat} {a35 : List Int} (g4 : s_get h q2 = some (1, 11, f3)) (g11 : s_get h q9 = some (0, 0, a10.map vi)) (g18 : s_get h q16 = some (0, 1, a17.map vl)) (g24 : s_get (hp h q16 (0, 1, (a17.set (Int.toNat (x2)) (gi a10 ((41 * x1) + x2))).map vl)) q2 = some (1, 11, f23)) (g31 : s_get (hp h q16 (0, 1, (a17.set (Int.toNat (x2)) (gi a10 ((41 * x1) + x2))).map vl)) q29 = some (0, 0, a30.map vi)) (g36 : s_get (hp h q16 (0, 1, (a17.set (Int.toNat (x2)) (gi a10 ((41 * x1) + x2))).map vl)) q34 = some (0, 1, a35.map vl)) (k : wr P d sw_c507 sw_h507 (16, [.index q2, vi x1, vi (x2 + 1)], [], (hp (hp h q16 (0, 1, (a17.set (Int.toNat (x2)) (gi a10 ((41 * x1) + x2))).map vl)) q34 (0, 1, (a35.set (Int.toNat (x2)) (gi a30 ((41 * x1) + x2))).map vl)), kc, ks) Q) (e_q2 : r0 = .index q2 := by first | rfl | assumption) (e_q9 : v7 = .index q9 := by first | rfl | assumption) (e_q16 : v5 = .index q16 := by first | rfl | assumption) (e_q29 : v27 = .index q29 := by first | rfl | assumption) (e_q34 : v25 = .index q34 := by first | rfl | assumption) (y1 : s_ty r0 = 3 := by first | rfl | assumption) (n6 : s_nth f3 14 = some v5 := by first | rfl | assumption) (n8 : s_nth f3 103 = some v7 := by first | rfl | assumption) (n26 : s_nth f23 15 = some v25 := by first | rfl | assumption) (n28 : s_nth f23 104 = some v27 := by first | rfl | assumption) (c12 : (41 * x1) + x2 < a10.length := by first | omega | assumption | (simp only [mk_len, List.length_map]; omega) | decide) (c13 : 0 ≤ (41 * x1) + x2 := by first | omega | assumption | (simp only [mk_len, List.length_map]; omega) | decide) (c14 : In3 ((41 * x1) + x2) := by first | omega | assumption | (simp only [mk_len, List.length_map]; omega) | decide) (c15 : In3 (gi a10 ((41 * x1) + x2)) := by first | omega | assumption | (simp only [mk_len, List.length_map]; omega) | decide) (c19 : x2 < a17.length := by first | omega | assumption | (simp only [mk_len, List.length_map]; omega) | decide) (c20 : 0 ≤ x2 := by first | omega | assumption | (simp only [mk_len, List.length_map]; omega) | decide) (c21 : In3 x2 := by first | omega | assumption | (simp only [mk_len, List.length_map]; omega) | decide) (c22 : 0 < q16 := by first | omega | assumption | (simp only [mk_len, List.length_map]; omega) | decide) (c32 : (41 * x1) + x2 < a30.length := by first | omega | assumption | (simp only [mk_len, List.length_map]; omega) | decide) (c33 : In3 (gi a30 ((41 * x1) + x2)) := by first | omega | assumption | (simp only [mk_len, List.length_map]; omega) | decide) (c37 : x2 < a35.length := by first | omega | assumption | (simp only [mk_len, List.length_map]; omega) | decide) (c38 : 0 < q34 := by first | omega | assumption | (simp only [mk_len, List.length_map]; omega) | decide) : wr P d sw_c507 sw_h507 (22, [r0, vi x1, vi x2], [], h, kc, ks) Q := by
  refine w_ld rfl rfl (Or.inr (Or.inr ⟨by decide, y1⟩)) ?_
  subst e_q2
  refine w_getf rfl g4 n6 ?_
  refine w_ld rfl rfl (Or.inl ⟨by decide, rfl⟩) ?_
  refine w_ld rfl rfl (Or.inr (Or.inr ⟨by decide, rfl⟩)) ?_
  refine w_getf rfl g4 n8 ?_
  refine w_c32 rfl (by decide) 41 (by decide) ?_
  refine w_ld rfl rfl (Or.inl ⟨by decide, rfl⟩) ?_
  refine w_imul rfl ?_
  refine w_ld rfl rfl (Or.inl ⟨by decide, rfl⟩) ?_
  refine w_iadd rfl ?_
  subst e_q9
  refine w_iald rfl g11 (Or.inl rfl) c14 c13 c12 ?_
  refine w_i2l rfl c15 ?_
  subst e_q16
  refine w_last rfl g18 (Nat.ble_eq_true_of_le c22) c21 c20 c19 ?_
  refine w_ld rfl rfl (Or.inr (Or.inr ⟨by decide, rfl⟩)) ?_
  refine w_getf rfl g24 n26 ?_
  refine w_ld rfl rfl (Or.inl ⟨by decide, rfl⟩) ?_
  refine w_ld rfl rfl (Or.inr (Or.inr ⟨by decide, rfl⟩)) ?_
  refine w_getf rfl g24 n28 ?_
  refine w_c32 rfl (by decide) 41 (by decide) ?_
  refine w_ld rfl rfl (Or.inl ⟨by decide, rfl⟩) ?_
  refine w_imul rfl ?_
  refine w_ld rfl rfl (Or.inl ⟨by decide, rfl⟩) ?_
  refine w_iadd rfl ?_
  subst e_q29
  refine w_iald rfl g31 (Or.inl rfl) c14 c13 c32 ?_
  refine w_i2l rfl c33 ?_
  subst e_q34
  refine w_last rfl g36 (Nat.ble_eq_true_of_le c38) c21 c20 c37 ?_
  refine w_iinc (ls' := [.index q2, vi x1, vi (x2 + 1)]) rfl rfl 1 (by decide) rfl ?_
  refine w_goto rfl ?_
  exact k

theorem k507_64 {P : s_P} {d : Nat} {Q : s_O → Prop} {h : s_H} {kc ks : Nat} {r0 : Term} {x1 x2 : Int}  (k : Q (.inl none, h, kc, ks))   : wr P d sw_c507 sw_h507 (64, [r0, vi x1, vi x2], [], h, kc, ks) Q := by
  exact w_ret rfl k

/-! 508: FormulaWorksModel.loadEntry([JIII)V -/
theorem k508_0 {P : s_P} {d : Nat} {Q : s_O → Prop} {h : s_H} {kc ks : Nat} {r0 r1 : Term} {x2 x3 x4 : Int} {t5 : Term}  (k : wm P d 438 [r1] h (wq P d sw_c508 sw_h508 4 [r0, r1, vi x2, vi x3, vi x4, t5] [] kc ks Q)) (y1 : s_ty r1 = 3 := by first | rfl | assumption)  : wr P d sw_c508 sw_h508 (0, [r0, r1, vi x2, vi x3, vi x4, t5], [], h, kc, ks) Q := by
  refine w_ld rfl rfl (Or.inr (Or.inr ⟨by decide, y1⟩)) ?_
  exact w_cs rfl [r1] [] rfl rfl (s_wt_4 rfl) k

theorem k508_4 {P : s_P} {d : Nat} {Q : s_O → Prop} {h : s_H} {kc ks : Nat} {r0 r1 : Term} {x2 x3 x4 : Int} {t5 : Term}  (k : wr P d sw_c508 sw_h508 (7, [r0, r1, vi x2, vi x3, vi x4, vi 0], [], h, kc, ks) Q)   : wr P d sw_c508 sw_h508 (4, [r0, r1, vi x2, vi x3, vi x4, t5], [], h, kc, ks) Q := by
  refine w_c32 rfl (by decide) 0 (by decide) ?_
  refine w_st (ls' := [r0, r1, vi x2, vi x3, vi x4, vi 0]) rfl (Or.inl ⟨by decide, rfl⟩) rfl ?_
  exact k

theorem k508_7 {P : s_P} {d : Nat} {Q : s_O → Prop} {h : s_H} {kc ks : Nat} {r0 r1 : Term} {x2 x3 x4 x5 : Int}  (k1 : 10 < x5 → wr P d sw_c508 sw_h508 (48, [r0, r1, vi x2, vi x3, vi x4, vi x5], [], h, kc, ks) Q) (k2 : ¬ 10 < x5 → wr P d sw_c508 sw_h508 (14, [r0, r1, vi x2, vi x3, vi x4, vi x5], [], h, kc, ks) Q)  (c1 : In3 x5 := by first | omega | assumption | (simp only [mk_len, List.length_map]; omega) | decide) : wr P d sw_c508 sw_h508 (7, [r0, r1, vi x2, vi x3, vi x4, vi x5], [], h, kc, ks) Q := by
  refine w_ld rfl rfl (Or.inl ⟨by decide, rfl⟩) ?_
  refine w_c32 rfl (by decide) 10 (by decide) ?_
  exact w_if2 rfl c1 (by decide) k1 k2

theorem k508_14 {P : s_P} {d : Nat} {Q : s_O → Prop} {h : s_H} {kc ks : Nat} {r0 r1 : Term} {x2 x3 x4 x5 : Int} {q3 : Nat} {f4 : List Term} {v6 : Term} {q8 : Nat} {a9 : List Int} {q15 : Nat} {a16 : List Int} (g5 : s_get h q3 = some (1, 11, f4)) (g10 : s_get h q8 = some (0, 0, a9.map vi)) (g17 : s_get h q15 = some (0, 1, a16.map vl)) (k : wr P d sw_c508 sw_h508 (7, [.index q3, .index q15, vi x2, vi x3, vi x4, vi (x5 + 1)], [], (hp h q15 (0, 1, (a16.set (Int.toNat (x5)) (gi a9 (((176 * x2) + (11 * ((4 * x3) + x4))) + x5))).map vl)), kc, ks) Q) (e_q3 : r0 = .index q3 := by first | rfl | assumption) (e_q8 : v6 = .index q8 := by first | rfl | assumption) (e_q15 : r1 = .index q15 := by first | rfl | assumption) (y1 : s_ty r1 = 3 := by first | rfl | assumption) (y2 : s_ty r0 = 3 := by first | rfl | assumption) (n7 : s_nth f4 7 = some v6 := by first | rfl | assumption) (c11 : ((176 * x2) + (11 * ((4 * x3) + x4))) + x5 < a9.length := by first | omega | assumption | (simp only [mk_len, List.length_map]; omega) | decide) (c12 : 0 ≤ ((176 * x2) + (11 * ((4 * x3) + x4))) + x5 := by first | omega | assumption | (simp only [mk_len, List.length_map]; omega) | decide) (c13 : In3 (((176 * x2) + (11 * ((4 * x3) + x4))) + x5) := by first | omega | assumption | (simp only [mk_len, List.length_map]; omega) | decide) (c14 : In3 (gi a9 (((176 * x2) + (11 * ((4 * x3) + x4))) + x5)) := by first | omega | assumption | (simp only [mk_len, List.length_map]; omega) | decide) (c18 : x5 < a16.length := by first | omega | assumption | (simp only [mk_len, List.length_map]; omega) | decide) (c19 : 0 ≤ x5 := by first | omega | assumption | (simp only [mk_len, List.length_map]; omega) | decide) (c20 : In3 x5 := by first | omega | assumption | (simp only [mk_len, List.length_map]; omega) | decide) (c21 : 0 < q15 := by first | omega | assumption | (simp only [mk_len, List.length_map]; omega) | decide) : wr P d sw_c508 sw_h508 (14, [r0, r1, vi x2, vi x3, vi x4, vi x5], [], h, kc, ks) Q := by
  refine w_ld rfl rfl (Or.inr (Or.inr ⟨by decide, y1⟩)) ?_
  refine w_ld rfl rfl (Or.inl ⟨by decide, rfl⟩) ?_
  refine w_ld rfl rfl (Or.inr (Or.inr ⟨by decide, y2⟩)) ?_
  subst e_q3
  refine w_getf rfl g5 n7 ?_
  refine w_c32 rfl (by decide) 176 (by decide) ?_
  refine w_ld rfl rfl (Or.inl ⟨by decide, rfl⟩) ?_
  refine w_imul rfl ?_
  refine w_c32 rfl (by decide) 11 (by decide) ?_
  refine w_c32 rfl (by decide) 4 (by decide) ?_
  refine w_ld rfl rfl (Or.inl ⟨by decide, rfl⟩) ?_
  refine w_imul rfl ?_
  refine w_ld rfl rfl (Or.inl ⟨by decide, rfl⟩) ?_
  refine w_iadd rfl ?_
  refine w_imul rfl ?_
  refine w_iadd rfl ?_
  refine w_ld rfl rfl (Or.inl ⟨by decide, rfl⟩) ?_
  refine w_iadd rfl ?_
  subst e_q8
  refine w_iald rfl g10 (Or.inl rfl) c13 c12 c11 ?_
  refine w_i2l rfl c14 ?_
  subst e_q15
  refine w_last rfl g17 (Nat.ble_eq_true_of_le c21) c20 c19 c18 ?_
  refine w_iinc (ls' := [.index q3, .index q15, vi x2, vi x3, vi x4, vi (x5 + 1)]) rfl rfl 1 (by decide) rfl ?_
  refine w_goto rfl ?_
  exact k

theorem k508_48 {P : s_P} {d : Nat} {Q : s_O → Prop} {h : s_H} {kc ks : Nat} {r0 r1 : Term} {x2 x3 x4 x5 : Int}  (k : Q (.inl none, h, kc, ks))   : wr P d sw_c508 sw_h508 (48, [r0, r1, vi x2, vi x3, vi x4, vi x5], [], h, kc, ks) Q := by
  exact w_ret rfl k

/-! 509: FormulaWorksModel.loadFactor([JI)V -/
theorem k509_0 {P : s_P} {d : Nat} {Q : s_O → Prop} {h : s_H} {kc ks : Nat} {r0 r1 : Term} {x2 : Int} {t3 : Term}  (k : wm P d 438 [r1] h (wq P d sw_c509 sw_h509 4 [r0, r1, vi x2, t3] [] kc ks Q)) (y1 : s_ty r1 = 3 := by first | rfl | assumption)  : wr P d sw_c509 sw_h509 (0, [r0, r1, vi x2, t3], [], h, kc, ks) Q := by
  refine w_ld rfl rfl (Or.inr (Or.inr ⟨by decide, y1⟩)) ?_
  exact w_cs rfl [r1] [] rfl rfl (s_wt_4 rfl) k

theorem k509_4 {P : s_P} {d : Nat} {Q : s_O → Prop} {h : s_H} {kc ks : Nat} {r0 r1 : Term} {x2 : Int} {t3 : Term}  (k : wr P d sw_c509 sw_h509 (6, [r0, r1, vi x2, vi 0], [], h, kc, ks) Q)   : wr P d sw_c509 sw_h509 (4, [r0, r1, vi x2, t3], [], h, kc, ks) Q := by
  refine w_c32 rfl (by decide) 0 (by decide) ?_
  refine w_st (ls' := [r0, r1, vi x2, vi 0]) rfl (Or.inl ⟨by decide, rfl⟩) rfl ?_
  exact k

theorem k509_6 {P : s_P} {d : Nat} {Q : s_O → Prop} {h : s_H} {kc ks : Nat} {r0 r1 : Term} {x2 x3 : Int}  (k1 : 42 ≤ x3 → wr P d sw_c509 sw_h509 (32, [r0, r1, vi x2, vi x3], [], h, kc, ks) Q) (k2 : ¬ 42 ≤ x3 → wr P d sw_c509 sw_h509 (12, [r0, r1, vi x2, vi x3], [], h, kc, ks) Q)  (c1 : In3 x3 := by first | omega | assumption | (simp only [mk_len, List.length_map]; omega) | decide) : wr P d sw_c509 sw_h509 (6, [r0, r1, vi x2, vi x3], [], h, kc, ks) Q := by
  refine w_ld rfl rfl (Or.inl ⟨by decide, rfl⟩) ?_
  refine w_c32 rfl (by decide) 42 (by decide) ?_
  exact w_if2 rfl c1 (by decide) k1 k2

theorem k509_12 {P : s_P} {d : Nat} {Q : s_O → Prop} {h : s_H} {kc ks : Nat} {r0 r1 : Term} {x2 x3 : Int} {q3 : Nat} {f4 : List Term} {v6 : Term} {q8 : Nat} {a9 : List Int} {q14 : Nat} {a15 : List Int} (g5 : s_get h q3 = some (1, 11, f4)) (g10 : s_get h q8 = some (0, 1, a9.map vl)) (g16 : s_get h q14 = some (0, 1, a15.map vl)) (k : wr P d sw_c509 sw_h509 (6, [.index q3, .index q14, vi x2, vi (x3 + 1)], [], (hp h q14 (0, 1, (a15.set (Int.toNat (x3)) (gi a9 ((42 * x2) + x3))).map vl)), kc, ks) Q) (e_q3 : r0 = .index q3 := by first | rfl | assumption) (e_q8 : v6 = .index q8 := by first | rfl | assumption) (e_q14 : r1 = .index q14 := by first | rfl | assumption) (y1 : s_ty r1 = 3 := by first | rfl | assumption) (y2 : s_ty r0 = 3 := by first | rfl | assumption) (n7 : s_nth f4 28 = some v6 := by first | rfl | assumption) (c11 : (42 * x2) + x3 < a9.length := by first | omega | assumption | (simp only [mk_len, List.length_map]; omega) | decide) (c12 : 0 ≤ (42 * x2) + x3 := by first | omega | assumption | (simp only [mk_len, List.length_map]; omega) | decide) (c13 : In3 ((42 * x2) + x3) := by first | omega | assumption | (simp only [mk_len, List.length_map]; omega) | decide) (c17 : x3 < a15.length := by first | omega | assumption | (simp only [mk_len, List.length_map]; omega) | decide) (c18 : 0 ≤ x3 := by first | omega | assumption | (simp only [mk_len, List.length_map]; omega) | decide) (c19 : In3 x3 := by first | omega | assumption | (simp only [mk_len, List.length_map]; omega) | decide) (c20 : 0 < q14 := by first | omega | assumption | (simp only [mk_len, List.length_map]; omega) | decide) : wr P d sw_c509 sw_h509 (12, [r0, r1, vi x2, vi x3], [], h, kc, ks) Q := by
  refine w_ld rfl rfl (Or.inr (Or.inr ⟨by decide, y1⟩)) ?_
  refine w_ld rfl rfl (Or.inl ⟨by decide, rfl⟩) ?_
  refine w_ld rfl rfl (Or.inr (Or.inr ⟨by decide, y2⟩)) ?_
  subst e_q3
  refine w_getf rfl g5 n7 ?_
  refine w_c32 rfl (by decide) 42 (by decide) ?_
  refine w_ld rfl rfl (Or.inl ⟨by decide, rfl⟩) ?_
  refine w_imul rfl ?_
  refine w_ld rfl rfl (Or.inl ⟨by decide, rfl⟩) ?_
  refine w_iadd rfl ?_
  subst e_q8
  refine w_lald rfl g10 c13 c12 c11 ?_
  subst e_q14
  refine w_last rfl g16 (Nat.ble_eq_true_of_le c20) c19 c18 c17 ?_
  refine w_iinc (ls' := [.index q3, .index q14, vi x2, vi (x3 + 1)]) rfl rfl 1 (by decide) rfl ?_
  refine w_goto rfl ?_
  exact k

theorem k509_32 {P : s_P} {d : Nat} {Q : s_O → Prop} {h : s_H} {kc ks : Nat} {r0 r1 : Term} {x2 x3 : Int}  (k : Q (.inl none, h, kc, ks))   : wr P d sw_c509 sw_h509 (32, [r0, r1, vi x2, vi x3], [], h, kc, ks) Q := by
  exact w_ret rfl k

/-! 510: FormulaWorksModel.loadMinor([JII)V -/
theorem k510_0 {P : s_P} {d : Nat} {Q : s_O → Prop} {h : s_H} {kc ks : Nat} {r0 r1 : Term} {x2 x3 : Int} {t4 : Term}  (k : wm P d 438 [r1] h (wq P d sw_c510 sw_h510 4 [r0, r1, vi x2, vi x3, t4] [] kc ks Q)) (y1 : s_ty r1 = 3 := by first | rfl | assumption)  : wr P d sw_c510 sw_h510 (0, [r0, r1, vi x2, vi x3, t4], [], h, kc, ks) Q := by
  refine w_ld rfl rfl (Or.inr (Or.inr ⟨by decide, y1⟩)) ?_
  exact w_cs rfl [r1] [] rfl rfl (s_wt_4 rfl) k

theorem k510_4 {P : s_P} {d : Nat} {Q : s_O → Prop} {h : s_H} {kc ks : Nat} {r0 r1 : Term} {x2 x3 : Int} {t4 : Term}  (k : wr P d sw_c510 sw_h510 (7, [r0, r1, vi x2, vi x3, vi 0], [], h, kc, ks) Q)   : wr P d sw_c510 sw_h510 (4, [r0, r1, vi x2, vi x3, t4], [], h, kc, ks) Q := by
  refine w_c32 rfl (by decide) 0 (by decide) ?_
  refine w_st (ls' := [r0, r1, vi x2, vi x3, vi 0]) rfl (Or.inl ⟨by decide, rfl⟩) rfl ?_
  exact k

theorem k510_7 {P : s_P} {d : Nat} {Q : s_O → Prop} {h : s_H} {kc ks : Nat} {r0 r1 : Term} {x2 x3 x4 : Int}  (k1 : 41 ≤ x4 → wr P d sw_c510 sw_h510 (41, [r0, r1, vi x2, vi x3, vi x4], [], h, kc, ks) Q) (k2 : ¬ 41 ≤ x4 → wr P d sw_c510 sw_h510 (14, [r0, r1, vi x2, vi x3, vi x4], [], h, kc, ks) Q)  (c1 : In3 x4 := by first | omega | assumption | (simp only [mk_len, List.length_map]; omega) | decide) : wr P d sw_c510 sw_h510 (7, [r0, r1, vi x2, vi x3, vi x4], [], h, kc, ks) Q := by
  refine w_ld rfl rfl (Or.inl ⟨by decide, rfl⟩) ?_
  refine w_c32 rfl (by decide) 41 (by decide) ?_
  exact w_if2 rfl c1 (by decide) k1 k2

theorem k510_14 {P : s_P} {d : Nat} {Q : s_O → Prop} {h : s_H} {kc ks : Nat} {r0 r1 : Term} {x2 x3 x4 : Int} {q3 : Nat} {f4 : List Term} {v6 : Term} {q8 : Nat} {a9 : List Int} {q14 : Nat} {a15 : List Int} (g5 : s_get h q3 = some (1, 11, f4)) (g10 : s_get h q8 = some (0, 1, a9.map vl)) (g16 : s_get h q14 = some (0, 1, a15.map vl)) (k : wr P d sw_c510 sw_h510 (7, [.index q3, .index q14, vi x2, vi x3, vi (x4 + 1)], [], (hp h q14 (0, 1, (a15.set (Int.toNat (x4)) (gi a9 ((41 * ((16 * x2) + x3)) + x4))).map vl)), kc, ks) Q) (e_q3 : r0 = .index q3 := by first | rfl | assumption) (e_q8 : v6 = .index q8 := by first | rfl | assumption) (e_q14 : r1 = .index q14 := by first | rfl | assumption) (y1 : s_ty r1 = 3 := by first | rfl | assumption) (y2 : s_ty r0 = 3 := by first | rfl | assumption) (n7 : s_nth f4 46 = some v6 := by first | rfl | assumption) (c11 : (41 * ((16 * x2) + x3)) + x4 < a9.length := by first | omega | assumption | (simp only [mk_len, List.length_map]; omega) | decide) (c12 : 0 ≤ (41 * ((16 * x2) + x3)) + x4 := by first | omega | assumption | (simp only [mk_len, List.length_map]; omega) | decide) (c13 : In3 ((41 * ((16 * x2) + x3)) + x4) := by first | omega | assumption | (simp only [mk_len, List.length_map]; omega) | decide) (c17 : x4 < a15.length := by first | omega | assumption | (simp only [mk_len, List.length_map]; omega) | decide) (c18 : 0 ≤ x4 := by first | omega | assumption | (simp only [mk_len, List.length_map]; omega) | decide) (c19 : In3 x4 := by first | omega | assumption | (simp only [mk_len, List.length_map]; omega) | decide) (c20 : 0 < q14 := by first | omega | assumption | (simp only [mk_len, List.length_map]; omega) | decide) : wr P d sw_c510 sw_h510 (14, [r0, r1, vi x2, vi x3, vi x4], [], h, kc, ks) Q := by
  refine w_ld rfl rfl (Or.inr (Or.inr ⟨by decide, y1⟩)) ?_
  refine w_ld rfl rfl (Or.inl ⟨by decide, rfl⟩) ?_
  refine w_ld rfl rfl (Or.inr (Or.inr ⟨by decide, y2⟩)) ?_
  subst e_q3
  refine w_getf rfl g5 n7 ?_
  refine w_c32 rfl (by decide) 41 (by decide) ?_
  refine w_c32 rfl (by decide) 16 (by decide) ?_
  refine w_ld rfl rfl (Or.inl ⟨by decide, rfl⟩) ?_
  refine w_imul rfl ?_
  refine w_ld rfl rfl (Or.inl ⟨by decide, rfl⟩) ?_
  refine w_iadd rfl ?_
  refine w_imul rfl ?_
  refine w_ld rfl rfl (Or.inl ⟨by decide, rfl⟩) ?_
  refine w_iadd rfl ?_
  subst e_q8
  refine w_lald rfl g10 c13 c12 c11 ?_
  subst e_q14
  refine w_last rfl g16 (Nat.ble_eq_true_of_le c20) c19 c18 c17 ?_
  refine w_iinc (ls' := [.index q3, .index q14, vi x2, vi x3, vi (x4 + 1)]) rfl rfl 1 (by decide) rfl ?_
  refine w_goto rfl ?_
  exact k

theorem k510_41 {P : s_P} {d : Nat} {Q : s_O → Prop} {h : s_H} {kc ks : Nat} {r0 r1 : Term} {x2 x3 x4 : Int}  (k : Q (.inl none, h, kc, ks))   : wr P d sw_c510 sw_h510 (41, [r0, r1, vi x2, vi x3, vi x4], [], h, kc, ks) Q := by
  exact w_ret rfl k

/-! 511: FormulaWorksModel.loadPart(I)V -/
theorem k511_0 {P : s_P} {d : Nat} {Q : s_O → Prop} {h : s_H} {kc ks : Nat} {r0 : Term} {x1 : Int} {t2 : Term} {q2 : Nat} {f3 : List Term} {v5 : Term} (g4 : s_get h q2 = some (1, 11, f3)) (k : wm P d 438 [v5] h (wq P d sw_c511 sw_h511 7 [.index q2, vi x1, t2] [] kc ks Q)) (e_q2 : r0 = .index q2 := by first | rfl | assumption) (y1 : s_ty r0 = 3 := by first | rfl | assumption) (n6 : s_nth f3 24 = some v5 := by first | rfl | assumption)  : wr P d sw_c511 sw_h511 (0, [r0, vi x1, t2], [], h, kc, ks) Q := by
  refine w_ld rfl rfl (Or.inr (Or.inr ⟨by decide, y1⟩)) ?_
  subst e_q2
  refine w_getf rfl g4 n6 ?_
  exact w_cs rfl [v5] [] rfl rfl (s_wt_4 rfl) k

theorem k511_7 {P : s_P} {d : Nat} {Q : s_O → Prop} {h : s_H} {kc ks : Nat} {r0 : Term} {x1 : Int} {t2 : Term}  (k : wr P d sw_c511 sw_h511 (9, [r0, vi x1, vi 0], [], h, kc, ks) Q)   : wr P d sw_c511 sw_h511 (7, [r0, vi x1, t2], [], h, kc, ks) Q := by
  refine w_c32 rfl (by decide) 0 (by decide) ?_
  refine w_st (ls' := [r0, vi x1, vi 0]) rfl (Or.inl ⟨by decide, rfl⟩) rfl ?_
  exact k

theorem k511_9 {P : s_P} {d : Nat} {Q : s_O → Prop} {h : s_H} {kc ks : Nat} {r0 : Term} {x1 x2 : Int}  (k1 : 42 ≤ x2 → wr P d sw_c511 sw_h511 (38, [r0, vi x1, vi x2], [], h, kc, ks) Q) (k2 : ¬ 42 ≤ x2 → wr P d sw_c511 sw_h511 (15, [r0, vi x1, vi x2], [], h, kc, ks) Q)  (c1 : In3 x2 := by first | omega | assumption | (simp only [mk_len, List.length_map]; omega) | decide) : wr P d sw_c511 sw_h511 (9, [r0, vi x1, vi x2], [], h, kc, ks) Q := by
  refine w_ld rfl rfl (Or.inl ⟨by decide, rfl⟩) ?_
  refine w_c32 rfl (by decide) 42 (by decide) ?_
  exact w_if2 rfl c1 (by decide) k1 k2

theorem k511_15 {P : s_P} {d : Nat} {Q : s_O → Prop} {h : s_H} {kc ks : Nat} {r0 : Term} {x1 x2 : Int} {q2 : Nat} {f3 : List Term} {v5 v7 : Term} {q9 : Nat} {a10 : List Int} {q15 : Nat} {a16 : List Int} (g4 : s_get h q2 = some (1, 11, f3)) (g11 : s_get h q9 = some (0, 1, a10.map vl)) (g17 : s_get h q15 = some (0, 1, a16.map vl)) (k : wr P d sw_c511 sw_h511 (9, [.index q2, vi x1, vi (x2 + 1)], [], (hp h q15 (0, 1, (a16.set (Int.toNat (x2)) (gi a10 ((42 * x1) + x2))).map vl)), kc, ks) Q) (e_q2 : r0 = .index q2 := by first | rfl | assumption) (e_q9 : v7 = .index q9 := by first | rfl | assumption) (e_q15 : v5 = .index q15 := by first | rfl | assumption) (y1 : s_ty r0 = 3 := by first | rfl | assumption) (n6 : s_nth f3 24 = some v5 := by first | rfl | assumption) (n8 : s_nth f3 34 = some v7 := by first | rfl | assumption) (c12 : (42 * x1) + x2 < a10.length := by first | omega | assumption | (simp only [mk_len, List.length_map]; omega) | decide) (c13 : 0 ≤ (42 * x1) + x2 := by first | omega | assumption | (simp only [mk_len, List.length_map]; omega) | decide) (c14 : In3 ((42 * x1) + x2) := by first | omega | assumption | (simp only [mk_len, List.length_map]; omega) | decide) (c18 : x2 < a16.length := by first | omega | assumption | (simp only [mk_len, List.length_map]; omega) | decide) (c19 : 0 ≤ x2 := by first | omega | assumption | (simp only [mk_len, List.length_map]; omega) | decide) (c20 : In3 x2 := by first | omega | assumption | (simp only [mk_len, List.length_map]; omega) | decide) (c21 : 0 < q15 := by first | omega | assumption | (simp only [mk_len, List.length_map]; omega) | decide) : wr P d sw_c511 sw_h511 (15, [r0, vi x1, vi x2], [], h, kc, ks) Q := by
  refine w_ld rfl rfl (Or.inr (Or.inr ⟨by decide, y1⟩)) ?_
  subst e_q2
  refine w_getf rfl g4 n6 ?_
  refine w_ld rfl rfl (Or.inl ⟨by decide, rfl⟩) ?_
  refine w_ld rfl rfl (Or.inr (Or.inr ⟨by decide, rfl⟩)) ?_
  refine w_getf rfl g4 n8 ?_
  refine w_c32 rfl (by decide) 42 (by decide) ?_
  refine w_ld rfl rfl (Or.inl ⟨by decide, rfl⟩) ?_
  refine w_imul rfl ?_
  refine w_ld rfl rfl (Or.inl ⟨by decide, rfl⟩) ?_
  refine w_iadd rfl ?_
  subst e_q9
  refine w_lald rfl g11 c14 c13 c12 ?_
  subst e_q15
  refine w_last rfl g17 (Nat.ble_eq_true_of_le c21) c20 c19 c18 ?_
  refine w_iinc (ls' := [.index q2, vi x1, vi (x2 + 1)]) rfl rfl 1 (by decide) rfl ?_
  refine w_goto rfl ?_
  exact k

theorem k511_38 {P : s_P} {d : Nat} {Q : s_O → Prop} {h : s_H} {kc ks : Nat} {r0 : Term} {x1 x2 : Int}  (k : Q (.inl none, h, kc, ks))   : wr P d sw_c511 sw_h511 (38, [r0, vi x1, vi x2], [], h, kc, ks) Q := by
  exact w_ret rfl k

/-! 512: FormulaWorksModel.loadTree(I)V -/
theorem k512_0 {P : s_P} {d : Nat} {Q : s_O → Prop} {h : s_H} {kc ks : Nat} {r0 : Term} {x1 : Int} {t2 : Term} {q2 : Nat} {f3 : List Term} {v5 : Term} {q7 : Nat} {a8 : List Int} (g4 : s_get h q2 = some (1, 11, f3)) (g9 : s_get h q7 = some (0, 0, a8.map vi)) (k : wr P d sw_c512 sw_h512 (12, [.index q2, vi x1, vi 0], [], (hp h q2 (1, 11, f3.set 82 (vi (gi a8 x1)))), kc, ks) Q) (e_q2 : r0 = .index q2 := by first | rfl | assumption) (e_q7 : v5 = .index q7 := by first | rfl | assumption) (y1 : s_ty r0 = 3 := by first | rfl | assumption) (n6 : s_nth f3 79 = some v5 := by first | rfl | assumption) (l13 : 82 < f3.length := by first | exact Nat.le_of_ble_eq_true rfl | omega | assumption) (c10 : x1 < a8.length := by first | omega | assumption | (simp only [mk_len, List.length_map]; omega) | decide) (c11 : 0 ≤ x1 := by first | omega | assumption | (simp only [mk_len, List.length_map]; omega) | decide) (c12 : In3 x1 := by first | omega | assumption | (simp only [mk_len, List.length_map]; omega) | decide) (c14 : 0 < q2 := by first | omega | assumption | (simp only [mk_len, List.length_map]; omega) | decide) : wr P d sw_c512 sw_h512 (0, [r0, vi x1, t2], [], h, kc, ks) Q := by
  refine w_ld rfl rfl (Or.inr (Or.inr ⟨by decide, y1⟩)) ?_
  refine w_ld rfl rfl (Or.inr (Or.inr ⟨by decide, y1⟩)) ?_
  subst e_q2
  refine w_getf rfl g4 n6 ?_
  refine w_ld rfl rfl (Or.inl ⟨by decide, rfl⟩) ?_
  subst e_q7
  refine w_iald rfl g9 (Or.inl rfl) c12 c11 c10 ?_
  refine w_putf rfl g4 (Nat.ble_eq_true_of_le c14) rfl (Nat.ble_eq_true_of_le l13) ?_
  refine w_c32 rfl (by decide) 0 (by decide) ?_
  refine w_st (ls' := [.index q2, vi x1, vi 0]) rfl (Or.inl ⟨by decide, rfl⟩) rfl ?_
  exact k

theorem k512_12 {P : s_P} {d : Nat} {Q : s_O → Prop} {h : s_H} {kc ks : Nat} {r0 : Term} {x1 x2 : Int} {q2 : Nat} {f3 : List Term} {z5 : Int} (g4 : s_get h q2 = some (1, 11, f3)) (k1 : z5 ≤ x2 → wr P d sw_c512 sw_h512 (62, [.index q2, vi x1, vi x2], [], h, kc, ks) Q) (k2 : ¬ z5 ≤ x2 → wr P d sw_c512 sw_h512 (20, [.index q2, vi x1, vi x2], [], h, kc, ks) Q) (e_q2 : r0 = .index q2 := by first | rfl | assumption) (y1 : s_ty r0 = 3 := by first | rfl | assumption) (n6 : s_nth f3 82 = some (vi z5) := by first | rfl | assumption) (c7 : In3 x2 := by first | omega | assumption | (simp only [mk_len, List.length_map]; omega) | decide) (c8 : In3 z5 := by first | omega | assumption | (simp only [mk_len, List.length_map]; omega) | decide) : wr P d sw_c512 sw_h512 (12, [r0, vi x1, vi x2], [], h, kc, ks) Q := by
  refine w_ld rfl rfl (Or.inl ⟨by decide, rfl⟩) ?_
  refine w_ld rfl rfl (Or.inr (Or.inr ⟨by decide, y1⟩)) ?_
  subst e_q2
  refine w_getf rfl g4 n6 ?_
  exact w_if2 rfl c7 c8 k1 k2

theorem k512_20 {P : s_P} {d : Nat} {Q : s_O → Prop} {h : s_H} {kc ks : Nat} {r0 : Term} {x1 x2 : Int} {q2 : Nat} {f3 : List Term} {v5 v7 : Term} {q9 : Nat} {a10 : List Int} {q15 : Nat} {a16 : List Int} {f22 : List Term} {v24 v26 : Term} {q28 : Nat} {a29 : List Int} {q32 : Nat} {a33 : List Int} (g4 : s_get h q2 = some (1, 11, f3)) (g11 : s_get h q9 = some (0, 0, a10.map vi)) (g17 : s_get h q15 = some (0, 0, a16.map vi)) (g23 : s_get (hp h q15 (0, 0, (a16.set (Int.toNat (x2)) (gi a10 ((200 * x1) + x2))).map vi)) q2 = some (1, 11, f22)) (g30 : s_get (hp h q15 (0, 0, (a16.set (Int.toNat (x2)) (gi a10 ((200 * x1) + x2))).map vi)) q28 = some (0, 0, a29.map vi)) (g34 : s_get (hp h q15 (0, 0, (a16.set (Int.toNat (x2)) (gi a10 ((200 * x1) + x2))).map vi)) q32 = some (0, 0, a33.map vi)) (k : wr P d sw_c512 sw_h512 (12, [.index q2, vi x1, vi (x2 + 1)], [], (hp (hp h q15 (0, 0, (a16.set (Int.toNat (x2)) (gi a10 ((200 * x1) + x2))).map vi)) q32 (0, 0, (a33.set (Int.toNat (x2)) (gi a29 ((200 * x1) + x2))).map vi)), kc, ks) Q) (e_q2 : r0 = .index q2 := by first | rfl | assumption) (e_q9 : v7 = .index q9 := by first | rfl | assumption) (e_q15 : v5 = .index q15 := by first | rfl | assumption) (e_q28 : v26 = .index q28 := by first | rfl | assumption) (e_q32 : v24 = .index q32 := by first | rfl | assumption) (y1 : s_ty r0 = 3 := by first | rfl | assumption) (n6 : s_nth f3 83 = some v5 := by first | rfl | assumption) (n8 : s_nth f3 80 = some v7 := by first | rfl | assumption) (n25 : s_nth f22 84 = some v24 := by first | rfl | assumption) (n27 : s_nth f22 81 = some v26 := by first | rfl | assumption) (c12 : (200 * x1) + x2 < a10.length := by first | omega | assumption | (simp only [mk_len, List.length_map]; omega) | decide) (c13 : 0 ≤ (200 * x1) + x2 := by first | omega | assumption | (simp only [mk_len, List.length_map]; omega) | decide) (c14 : In3 ((200 * x1) + x2) := by first | omega | assumption | (simp only [mk_len, List.length_map]; omega) | decide) (c18 : x2 < a16.length := by first | omega | assumption | (simp only [mk_len, List.length_map]; omega) | decide) (c19 : 0 ≤ x2 := by first | omega | assumption | (simp only [mk_len, List.length_map]; omega) | decide) (c20 : In3 x2 := by first | omega | assumption | (simp only [mk_len, List.length_map]; omega) | decide) (c21 : 0 < q15 := by first | omega | assumption | (simp only [mk_len, List.length_map]; omega) | decide) (c31 : (200 * x1) + x2 < a29.length := by first | omega | assumption | (simp only [mk_len, List.length_map]; omega) | decide) (c35 : x2 < a33.length := by first | omega | assumption | (simp only [mk_len, List.length_map]; omega) | decide) (c36 : 0 < q32 := by first | omega | assumption | (simp only [mk_len, List.length_map]; omega) | decide) : wr P d sw_c512 sw_h512 (20, [r0, vi x1, vi x2], [], h, kc, ks) Q := by
  refine w_ld rfl rfl (Or.inr (Or.inr ⟨by decide, y1⟩)) ?_
  subst e_q2
  refine w_getf rfl g4 n6 ?_
  refine w_ld rfl rfl (Or.inl ⟨by decide, rfl⟩) ?_
  refine w_ld rfl rfl (Or.inr (Or.inr ⟨by decide, rfl⟩)) ?_
  refine w_getf rfl g4 n8 ?_
  refine w_c32 rfl (by decide) 200 (by decide) ?_
  refine w_ld rfl rfl (Or.inl ⟨by decide, rfl⟩) ?_
  refine w_imul rfl ?_
  refine w_ld rfl rfl (Or.inl ⟨by decide, rfl⟩) ?_
  refine w_iadd rfl ?_
  subst e_q9
  refine w_iald rfl g11 (Or.inl rfl) c14 c13 c12 ?_
  subst e_q15
  refine w_iast rfl g17 (Nat.ble_eq_true_of_le c21) c20 c19 c18 ?_
  refine w_ld rfl rfl (Or.inr (Or.inr ⟨by decide, rfl⟩)) ?_
  refine w_getf rfl g23 n25 ?_
  refine w_ld rfl rfl (Or.inl ⟨by decide, rfl⟩) ?_
  refine w_ld rfl rfl (Or.inr (Or.inr ⟨by decide, rfl⟩)) ?_
  refine w_getf rfl g23 n27 ?_
  refine w_c32 rfl (by decide) 200 (by decide) ?_
  refine w_ld rfl rfl (Or.inl ⟨by decide, rfl⟩) ?_
  refine w_imul rfl ?_
  refine w_ld rfl rfl (Or.inl ⟨by decide, rfl⟩) ?_
  refine w_iadd rfl ?_
  subst e_q28
  refine w_iald rfl g30 (Or.inl rfl) c14 c13 c31 ?_
  subst e_q32
  refine w_iast rfl g34 (Nat.ble_eq_true_of_le c36) c20 c19 c35 ?_
  refine w_iinc (ls' := [.index q2, vi x1, vi (x2 + 1)]) rfl rfl 1 (by decide) rfl ?_
  refine w_goto rfl ?_
  exact k

theorem k512_62 {P : s_P} {d : Nat} {Q : s_O → Prop} {h : s_H} {kc ks : Nat} {r0 : Term} {x1 x2 : Int}  (k : Q (.inl none, h, kc, ks))   : wr P d sw_c512 sw_h512 (62, [r0, vi x1, vi x2], [], h, kc, ks) Q := by
  exact w_ret rfl k

/-! 513: FormulaWorksModel.loadWorth([J[JI)V -/
theorem k513_0 {P : s_P} {d : Nat} {Q : s_O → Prop} {h : s_H} {kc ks : Nat} {r0 r1 r2 : Term} {x3 : Int} {t4 : Term}  (k : wm P d 438 [r1] h (wq P d sw_c513 sw_h513 4 [r0, r1, r2, vi x3, t4] [] kc ks Q)) (y1 : s_ty r1 = 3 := by first | rfl | assumption)  : wr P d sw_c513 sw_h513 (0, [r0, r1, r2, vi x3, t4], [], h, kc, ks) Q := by
  refine w_ld rfl rfl (Or.inr (Or.inr ⟨by decide, y1⟩)) ?_
  exact w_cs rfl [r1] [] rfl rfl (s_wt_4 rfl) k

theorem k513_4 {P : s_P} {d : Nat} {Q : s_O → Prop} {h : s_H} {kc ks : Nat} {r0 r1 r2 : Term} {x3 : Int} {t4 : Term}  (k : wm P d 438 [r2] h (wq P d sw_c513 sw_h513 8 [r0, r1, r2, vi x3, t4] [] kc ks Q)) (y1 : s_ty r2 = 3 := by first | rfl | assumption)  : wr P d sw_c513 sw_h513 (4, [r0, r1, r2, vi x3, t4], [], h, kc, ks) Q := by
  refine w_ld rfl rfl (Or.inr (Or.inr ⟨by decide, y1⟩)) ?_
  exact w_cs rfl [r2] [] rfl rfl (s_wt_4 rfl) k

theorem k513_8 {P : s_P} {d : Nat} {Q : s_O → Prop} {h : s_H} {kc ks : Nat} {r0 r1 r2 : Term} {x3 : Int} {t4 : Term}  (k : wr P d sw_c513 sw_h513 (11, [r0, r1, r2, vi x3, vi 0], [], h, kc, ks) Q)   : wr P d sw_c513 sw_h513 (8, [r0, r1, r2, vi x3, t4], [], h, kc, ks) Q := by
  refine w_c32 rfl (by decide) 0 (by decide) ?_
  refine w_st (ls' := [r0, r1, r2, vi x3, vi 0]) rfl (Or.inl ⟨by decide, rfl⟩) rfl ?_
  exact k

theorem k513_11 {P : s_P} {d : Nat} {Q : s_O → Prop} {h : s_H} {kc ks : Nat} {r0 r1 r2 : Term} {x3 x4 : Int}  (k1 : 40 < x4 → wr P d sw_c513 sw_h513 (56, [r0, r1, r2, vi x3, vi x4], [], h, kc, ks) Q) (k2 : ¬ 40 < x4 → wr P d sw_c513 sw_h513 (18, [r0, r1, r2, vi x3, vi x4], [], h, kc, ks) Q)  (c1 : In3 x4 := by first | omega | assumption | (simp only [mk_len, List.length_map]; omega) | decide) : wr P d sw_c513 sw_h513 (11, [r0, r1, r2, vi x3, vi x4], [], h, kc, ks) Q := by
  refine w_ld rfl rfl (Or.inl ⟨by decide, rfl⟩) ?_
  refine w_c32 rfl (by decide) 40 (by decide) ?_
  exact w_if2 rfl c1 (by decide) k1 k2

theorem k513_18 {P : s_P} {d : Nat} {Q : s_O → Prop} {h : s_H} {kc ks : Nat} {r0 r1 r2 : Term} {x3 x4 : Int} {q3 : Nat} {f4 : List Term} {v6 : Term} {q8 : Nat} {a9 : List Int} {q14 : Nat} {a15 : List Int} {f22 : List Term} {v24 : Term} {q26 : Nat} {a27 : List Int} {q30 : Nat} {a31 : List Int} (g5 : s_get h q3 = some (1, 11, f4)) (g10 : s_get h q8 = some (0, 1, a9.map vl)) (g16 : s_get h q14 = some (0, 1, a15.map vl)) (g23 : s_get (hp h q14 (0, 1, (a15.set (Int.toNat (x4)) (gi a9 ((41 * x3) + x4))).map vl)) q3 = some (1, 11, f22)) (g28 : s_get (hp h q14 (0, 1, (a15.set (Int.toNat (x4)) (gi a9 ((41 * x3) + x4))).map vl)) q26 = some (0, 1, a27.map vl)) (g32 : s_get (hp h q14 (0, 1, (a15.set (Int.toNat (x4)) (gi a9 ((41 * x3) + x4))).map vl)) q30 = some (0, 1, a31.map vl)) (k : wr P d sw_c513 sw_h513 (11, [.index q3, .index q14, .index q30, vi x3, vi (x4 + 1)], [], (hp (hp h q14 (0, 1, (a15.set (Int.toNat (x4)) (gi a9 ((41 * x3) + x4))).map vl)) q30 (0, 1, (a31.set (Int.toNat (x4)) (gi a27 ((41 * x3) + x4))).map vl)), kc, ks) Q) (e_q3 : r0 = .index q3 := by first | rfl | assumption) (e_q8 : v6 = .index q8 := by first | rfl | assumption) (e_q14 : r1 = .index q14 := by first | rfl | assumption) (e_q26 : v24 = .index q26 := by first | rfl | assumption) (e_q30 : r2 = .index q30 := by first | rfl | assumption) (y1 : s_ty r1 = 3 := by first | rfl | assumption) (y2 : s_ty r0 = 3 := by first | rfl | assumption) (n7 : s_nth f4 94 = some v6 := by first | rfl | assumption) (y21 : s_ty r2 = 3 := by first | rfl | assumption) (n25 : s_nth f22 95 = some v24 := by first | rfl | assumption) (c11 : (41 * x3) + x4 < a9.length := by first | omega | assumption | (simp only [mk_len, List.length_map]; omega) | decide) (c12 : 0 ≤ (41 * x3) + x4 := by first | omega | assumption | (simp only [mk_len, List.length_map]; omega) | decide) (c13 : In3 ((41 * x3) + x4) := by first | omega | assumption | (simp only [mk_len, List.length_map]; omega) | decide) (c17 : x4 < a15.length := by first | omega | assumption | (simp only [mk_len, List.length_map]; omega) | decide) (c18 : 0 ≤ x4 := by first | omega | assumption | (simp only [mk_len, List.length_map]; omega) | decide) (c19 : In3 x4 := by first | omega | assumption | (simp only [mk_len, List.length_map]; omega) | decide) (c20 : 0 < q14 := by first | omega | assumption | (simp only [mk_len, List.length_map]; omega) | decide) (c29 : (41 * x3) + x4 < a27.length := by first | omega | assumption | (simp only [mk_len, List.length_map]; omega) | decide) (c33 : x4 < a31.length := by first | omega | assumption | (simp only [mk_len, List.length_map]; omega) | decide) (c34 : 0 < q30 := by first | omega | assumption | (simp only [mk_len, List.length_map]; omega) | decide) : wr P d sw_c513 sw_h513 (18, [r0, r1, r2, vi x3, vi x4], [], h, kc, ks) Q := by
  refine w_ld rfl rfl (Or.inr (Or.inr ⟨by decide, y1⟩)) ?_
  refine w_ld rfl rfl (Or.inl ⟨by decide, rfl⟩) ?_
  refine w_ld rfl rfl (Or.inr (Or.inr ⟨by decide, y2⟩)) ?_
  subst e_q3
  refine w_getf rfl g5 n7 ?_
  refine w_c32 rfl (by decide) 41 (by decide) ?_
  refine w_ld rfl rfl (Or.inl ⟨by decide, rfl⟩) ?_
  refine w_imul rfl ?_
  refine w_ld rfl rfl (Or.inl ⟨by decide, rfl⟩) ?_
  refine w_iadd rfl ?_
  subst e_q8
  refine w_lald rfl g10 c13 c12 c11 ?_
  subst e_q14
  refine w_last rfl g16 (Nat.ble_eq_true_of_le c20) c19 c18 c17 ?_
  refine w_ld rfl rfl (Or.inr (Or.inr ⟨by decide, y21⟩)) ?_
  refine w_ld rfl rfl (Or.inl ⟨by decide, rfl⟩) ?_
  refine w_ld rfl rfl (Or.inr (Or.inr ⟨by decide, rfl⟩)) ?_
  refine w_getf rfl g23 n25 ?_
  refine w_c32 rfl (by decide) 41 (by decide) ?_
  refine w_ld rfl rfl (Or.inl ⟨by decide, rfl⟩) ?_
  refine w_imul rfl ?_
  refine w_ld rfl rfl (Or.inl ⟨by decide, rfl⟩) ?_
  refine w_iadd rfl ?_
  subst e_q26
  refine w_lald rfl g28 c13 c12 c29 ?_
  subst e_q30
  refine w_last rfl g32 (Nat.ble_eq_true_of_le c34) c19 c18 c33 ?_
  refine w_iinc (ls' := [.index q3, .index q14, .index q30, vi x3, vi (x4 + 1)]) rfl rfl 1 (by decide) rfl ?_
  refine w_goto rfl ?_
  exact k

theorem k513_56 {P : s_P} {d : Nat} {Q : s_O → Prop} {h : s_H} {kc ks : Nat} {r0 r1 r2 : Term} {x3 x4 : Int}  (k : Q (.inl none, h, kc, ks))   : wr P d sw_c513 sw_h513 (56, [r0, r1, r2, vi x3, vi x4], [], h, kc, ks) Q := by
  exact w_ret rfl k

/-! 514: FormulaWorksModel.log(II)I -/
theorem k514_0 {P : s_P} {d : Nat} {Q : s_O → Prop} {h : s_H} {kc ks : Nat} {r0 : Term} {x1 x2 : Int} {t3 t4 t5 : Term} {q2 : Nat} {f3 : List Term} (g4 : s_get h q2 = some (1, 11, f3)) (k : wm P d 481 [.index q2, vi x1, vi 0] h (wq P d sw_c514 sw_h514 6 [.index q2, vi x1, vi x2, t3, t4, t5] [] kc ks Q)) (e_q2 : r0 = .index q2 := by first | rfl | assumption) (y1 : s_ty r0 = 3 := by first | rfl | assumption)  : wr P d sw_c514 sw_h514 (0, [r0, vi x1, vi x2, t3, t4, t5], [], h, kc, ks) Q := by
  refine w_ld rfl rfl (Or.inr (Or.inr ⟨by decide, y1⟩)) ?_
  refine w_ld rfl rfl (Or.inl ⟨by decide, rfl⟩) ?_
  refine w_c32 rfl (by decide) 0 (by decide) ?_
  subst e_q2
  exact w_cv rfl [.index q2, vi x1, vi 0] [] rfl rfl (s_wt_4 rfl) rfl g4 k

theorem k514_6 {P : s_P} {d : Nat} {Q : s_O → Prop} {h : s_H} {kc ks : Nat} {r0 : Term} {x1 x2 : Int} {t3 t4 t5 : Term} {s0 : Int}  (k1 : s0 ≠ 0 → wr P d sw_c514 sw_h514 (11, [r0, vi x1, vi x2, t3, t4, t5], [], h, kc, ks) Q) (k2 : ¬ s0 ≠ 0 → wr P d sw_c514 sw_h514 (9, [r0, vi x1, vi x2, t3, t4, t5], [], h, kc, ks) Q)  (c1 : In3 s0 := by first | omega | assumption | (simp only [mk_len, List.length_map]; omega) | decide) : wr P d sw_c514 sw_h514 (6, [r0, vi x1, vi x2, t3, t4, t5], [vi s0], h, kc, ks) Q := by
  exact w_if1 rfl c1 k1 k2

theorem k514_9 {P : s_P} {d : Nat} {Q : s_O → Prop} {h : s_H} {kc ks : Nat} {r0 : Term} {x1 x2 : Int} {t3 t4 t5 : Term}  (k : Q (.inl (some (vi 0)), h, kc, ks))   : wr P d sw_c514 sw_h514 (9, [r0, vi x1, vi x2, t3, t4, t5], [], h, kc, ks) Q := by
  refine w_c32 rfl (by decide) 0 (by decide) ?_
  exact w_iret rfl k

theorem k514_11 {P : s_P} {d : Nat} {Q : s_O → Prop} {h : s_H} {kc ks : Nat} {r0 : Term} {x1 x2 : Int} {t3 t4 t5 : Term} {q2 : Nat} {f3 : List Term} (g4 : s_get h q2 = some (1, 11, f3)) (k : wm P d 449 [.index q2] h (wq P d sw_c514 sw_h514 15 [.index q2, vi x1, vi x2, t3, t4, t5] [] kc ks Q)) (e_q2 : r0 = .index q2 := by first | rfl | assumption) (y1 : s_ty r0 = 3 := by first | rfl | assumption)  : wr P d sw_c514 sw_h514 (11, [r0, vi x1, vi x2, t3, t4, t5], [], h, kc, ks) Q := by
  refine w_ld rfl rfl (Or.inr (Or.inr ⟨by decide, y1⟩)) ?_
  subst e_q2
  exact w_cv rfl [.index q2] [] rfl rfl (s_wt_4 rfl) rfl g4 k

theorem k514_15 {P : s_P} {d : Nat} {Q : s_O → Prop} {h : s_H} {kc ks : Nat} {r0 : Term} {x1 x2 : Int} {t3 t4 t5 : Term} {q2 : Nat} {f3 : List Term} (g4 : s_get h q2 = some (1, 11, f3)) (k : wm P d 523 [.index q2] h (wq P d sw_c514 sw_h514 19 [.index q2, vi x1, vi x2, t3, t4, t5] [] kc ks Q)) (e_q2 : r0 = .index q2 := by first | rfl | assumption) (y1 : s_ty r0 = 3 := by first | rfl | assumption)  : wr P d sw_c514 sw_h514 (15, [r0, vi x1, vi x2, t3, t4, t5], [], h, kc, ks) Q := by
  refine w_ld rfl rfl (Or.inr (Or.inr ⟨by decide, y1⟩)) ?_
  subst e_q2
  exact w_cv rfl [.index q2] [] rfl rfl (s_wt_4 rfl) rfl g4 k

theorem k514_19 {P : s_P} {d : Nat} {Q : s_O → Prop} {h : s_H} {kc ks : Nat} {r0 : Term} {x1 x2 : Int} {t3 t4 t5 : Term} {q2 : Nat} {f3 : List Term} {v5 v7 : Term} (g4 : s_get h q2 = some (1, 11, f3)) (k : wm P d 425 [v5, v7] h (wq P d sw_c514 sw_h514 30 [.index q2, vi x1, vi x2, t3, t4, t5] [] kc ks Q)) (e_q2 : r0 = .index q2 := by first | rfl | assumption) (y1 : s_ty r0 = 3 := by first | rfl | assumption) (n6 : s_nth f3 10 = some v5 := by first | rfl | assumption) (n8 : s_nth f3 14 = some v7 := by first | rfl | assumption)  : wr P d sw_c514 sw_h514 (19, [r0, vi x1, vi x2, t3, t4, t5], [], h, kc, ks) Q := by
  refine w_ld rfl rfl (Or.inr (Or.inr ⟨by decide, y1⟩)) ?_
  subst e_q2
  refine w_getf rfl g4 n6 ?_
  refine w_ld rfl rfl (Or.inr (Or.inr ⟨by decide, rfl⟩)) ?_
  refine w_getf rfl g4 n8 ?_
  exact w_cs rfl [v5, v7] [] rfl rfl (s_wt_4 rfl) k

theorem k514_30 {P : s_P} {d : Nat} {Q : s_O → Prop} {h : s_H} {kc ks : Nat} {r0 : Term} {x1 x2 : Int} {t3 t4 t5 : Term} {q2 : Nat} {f3 : List Term} {v5 v7 : Term} (g4 : s_get h q2 = some (1, 11, f3)) (k : wm P d 425 [v5, v7] h (wq P d sw_c514 sw_h514 41 [.index q2, vi x1, vi x2, t3, t4, t5] [] kc ks Q)) (e_q2 : r0 = .index q2 := by first | rfl | assumption) (y1 : s_ty r0 = 3 := by first | rfl | assumption) (n6 : s_nth f3 11 = some v5 := by first | rfl | assumption) (n8 : s_nth f3 15 = some v7 := by first | rfl | assumption)  : wr P d sw_c514 sw_h514 (30, [r0, vi x1, vi x2, t3, t4, t5], [], h, kc, ks) Q := by
  refine w_ld rfl rfl (Or.inr (Or.inr ⟨by decide, y1⟩)) ?_
  subst e_q2
  refine w_getf rfl g4 n6 ?_
  refine w_ld rfl rfl (Or.inr (Or.inr ⟨by decide, rfl⟩)) ?_
  refine w_getf rfl g4 n8 ?_
  exact w_cs rfl [v5, v7] [] rfl rfl (s_wt_4 rfl) k

theorem k514_41 {P : s_P} {d : Nat} {Q : s_O → Prop} {h : s_H} {kc ks : Nat} {r0 : Term} {x1 x2 : Int} {t3 t4 t5 : Term} {q2 : Nat} {f3 f7 : List Term} {v9 : Term} (g4 : s_get h q2 = some (1, 11, f3)) (g8 : s_get (hp h q2 (1, 11, f3.set 26 (vi 0))) q2 = some (1, 11, f7)) (k : wm P d 483 [v9] (hp h q2 (1, 11, f3.set 26 (vi 0))) (wq P d sw_c514 sw_h514 53 [.index q2, vi x1, vi x2, t3, t4, t5] [] kc ks Q)) (e_q2 : r0 = .index q2 := by first | rfl | assumption) (y1 : s_ty r0 = 3 := by first | rfl | assumption) (l5 : 26 < f3.length := by first | exact Nat.le_of_ble_eq_true rfl | omega | assumption) (n10 : s_nth f7 11 = some v9 := by first | rfl | assumption) (c6 : 0 < q2 := by first | omega | assumption | (simp only [mk_len, List.length_map]; omega) | decide) : wr P d sw_c514 sw_h514 (41, [r0, vi x1, vi x2, t3, t4, t5], [], h, kc, ks) Q := by
  refine w_ld rfl rfl (Or.inr (Or.inr ⟨by decide, y1⟩)) ?_
  refine w_c32 rfl (by decide) 0 (by decide) ?_
  subst e_q2
  refine w_putf rfl g4 (Nat.ble_eq_true_of_le c6) rfl (Nat.ble_eq_true_of_le l5) ?_
  refine w_ld rfl rfl (Or.inr (Or.inr ⟨by decide, rfl⟩)) ?_
  refine w_getf rfl g8 n10 ?_
  exact w_cs rfl [v9] [] rfl rfl (s_wt_4 rfl) k

theorem k514_53 {P : s_P} {d : Nat} {Q : s_O → Prop} {h : s_H} {kc ks : Nat} {r0 : Term} {x1 x2 : Int} {t3 t4 t5 : Term} {s0 : Int}  (k1 : s0 ≠ 0 → wr P d sw_c514 sw_h514 (64, [r0, vi x1, vi x2, t3, t4, t5], [], h, kc, ks) Q) (k2 : ¬ s0 ≠ 0 → wr P d sw_c514 sw_h514 (56, [r0, vi x1, vi x2, t3, t4, t5], [], h, kc, ks) Q)  (c1 : In3 s0 := by first | omega | assumption | (simp only [mk_len, List.length_map]; omega) | decide) : wr P d sw_c514 sw_h514 (53, [r0, vi x1, vi x2, t3, t4, t5], [vi s0], h, kc, ks) Q := by
  exact w_if1 rfl c1 k1 k2

theorem k514_56 {P : s_P} {d : Nat} {Q : s_O → Prop} {h : s_H} {kc ks : Nat} {r0 : Term} {x1 x2 : Int} {t3 t4 t5 : Term} {q2 : Nat} {f3 : List Term} {v5 : Term} (g4 : s_get h q2 = some (1, 11, f3)) (k : wm P d 450 [.index q2, v5] h (wq P d sw_c514 sw_h514 64 [.index q2, vi x1, vi x2, t3, t4, t5] [] kc ks Q)) (e_q2 : r0 = .index q2 := by first | rfl | assumption) (y1 : s_ty r0 = 3 := by first | rfl | assumption) (n6 : s_nth f3 11 = some v5 := by first | rfl | assumption)  : wr P d sw_c514 sw_h514 (56, [r0, vi x1, vi x2, t3, t4, t5], [], h, kc, ks) Q := by
  refine w_ld rfl rfl (Or.inr (Or.inr ⟨by decide, y1⟩)) ?_
  refine w_ld rfl rfl (Or.inr (Or.inr ⟨by decide, y1⟩)) ?_
  subst e_q2
  refine w_getf rfl g4 n6 ?_
  exact w_cv rfl [.index q2, v5] [] rfl rfl (s_wt_4 rfl) rfl g4 k

theorem k514_64 {P : s_P} {d : Nat} {Q : s_O → Prop} {h : s_H} {kc ks : Nat} {r0 : Term} {x1 x2 : Int} {t3 t4 t5 : Term} {q3 : Nat} {f4 : List Term} {z6 : Int} (g5 : s_get h q3 = some (1, 11, f4)) (k : wm P d 464 [vl x2, vl 0, vl (z6 - 1)] h (wq P d sw_c514 sw_h514 77 [.index q3, vi x1, vi x2, t3, t4, t5] [] kc ks Q)) (e_q3 : r0 = .index q3 := by first | rfl | assumption) (y2 : s_ty r0 = 3 := by first | rfl | assumption) (n7 : s_nth f4 26 = some (vi z6) := by first | rfl | assumption) (c1 : In3 x2 := by first | omega | assumption | (simp only [mk_len, List.length_map]; omega) | decide) (c8 : In3 (z6 - 1) := by first | omega | assumption | (simp only [mk_len, List.length_map]; omega) | decide) : wr P d sw_c514 sw_h514 (64, [r0, vi x1, vi x2, t3, t4, t5], [], h, kc, ks) Q := by
  refine w_ld rfl rfl (Or.inl ⟨by decide, rfl⟩) ?_
  refine w_i2l rfl c1 ?_
  refine w_c64 rfl (by decide) 0 (by decide) ?_
  refine w_ld rfl rfl (Or.inr (Or.inr ⟨by decide, y2⟩)) ?_
  subst e_q3
  refine w_getf rfl g5 n7 ?_
  refine w_c32 rfl (by decide) 1 (by decide) ?_
  refine w_isub rfl ?_
  refine w_i2l rfl c8 ?_
  exact w_cs rfl [vl x2, vl 0, vl (z6 - 1)] [] rfl rfl (s_wt_4 rfl) k

theorem k514_77 {P : s_P} {d : Nat} {Q : s_O → Prop} {h : s_H} {kc ks : Nat} {r0 : Term} {x1 x2 : Int} {t3 t4 t5 : Term} {s0 : Int}  (k1 : s0 ≠ 0 → wr P d sw_c514 sw_h514 (86, [r0, vi x1, vi x2, t3, t4, t5], [], h, kc, ks) Q) (k2 : ¬ s0 ≠ 0 → wr P d sw_c514 sw_h514 (80, [r0, vi x1, vi x2, t3, t4, t5], [], h, kc, ks) Q)  (c1 : In3 s0 := by first | omega | assumption | (simp only [mk_len, List.length_map]; omega) | decide) : wr P d sw_c514 sw_h514 (77, [r0, vi x1, vi x2, t3, t4, t5], [vi s0], h, kc, ks) Q := by
  exact w_if1 rfl c1 k1 k2

theorem k514_80 {P : s_P} {d : Nat} {Q : s_O → Prop} {h : s_H} {kc ks : Nat} {r0 : Term} {x1 x2 : Int} {t3 t4 t5 : Term} {q2 : Nat} {f3 : List Term} (g4 : s_get h q2 = some (1, 11, f3)) (k : wm P d 570 [.index q2, vi 1] h (wq P d sw_c514 sw_h514 85 [.index q2, vi x1, vi x2, t3, t4, t5] [] kc ks Q)) (e_q2 : r0 = .index q2 := by first | rfl | assumption) (y1 : s_ty r0 = 3 := by first | rfl | assumption)  : wr P d sw_c514 sw_h514 (80, [r0, vi x1, vi x2, t3, t4, t5], [], h, kc, ks) Q := by
  refine w_ld rfl rfl (Or.inr (Or.inr ⟨by decide, y1⟩)) ?_
  refine w_c32 rfl (by decide) 1 (by decide) ?_
  subst e_q2
  exact w_cv rfl [.index q2, vi 1] [] rfl rfl (s_wt_4 rfl) rfl g4 k

theorem k514_85 {P : s_P} {d : Nat} {Q : s_O → Prop} {h : s_H} {kc ks : Nat} {r0 : Term} {x1 x2 : Int} {t3 t4 t5 : Term} {s0 : Int}  (k : Q (.inl (some (vi s0)), h, kc, ks))   : wr P d sw_c514 sw_h514 (85, [r0, vi x1, vi x2, t3, t4, t5], [vi s0], h, kc, ks) Q := by
  exact w_iret rfl k

theorem k514_86 {P : s_P} {d : Nat} {Q : s_O → Prop} {h : s_H} {kc ks : Nat} {r0 : Term} {x1 x2 : Int} {t3 t4 t5 : Term} {q2 : Nat} {f3 : List Term} {v5 : Term} (g4 : s_get h q2 = some (1, 11, f3)) (k : wm P d 509 [.index q2, v5, vi x2] h (wq P d sw_c514 sw_h514 95 [.index q2, vi x1, vi x2, t3, t4, t5] [] kc ks Q)) (e_q2 : r0 = .index q2 := by first | rfl | assumption) (y1 : s_ty r0 = 3 := by first | rfl | assumption) (n6 : s_nth f3 24 = some v5 := by first | rfl | assumption)  : wr P d sw_c514 sw_h514 (86, [r0, vi x1, vi x2, t3, t4, t5], [], h, kc, ks) Q := by
  refine w_ld rfl rfl (Or.inr (Or.inr ⟨by decide, y1⟩)) ?_
  refine w_ld rfl rfl (Or.inr (Or.inr ⟨by decide, y1⟩)) ?_
  subst e_q2
  refine w_getf rfl g4 n6 ?_
  refine w_ld rfl rfl (Or.inl ⟨by decide, rfl⟩) ?_
  exact w_cv rfl [.index q2, v5, vi x2] [] rfl rfl (s_wt_4 rfl) rfl g4 k

theorem k514_95 {P : s_P} {d : Nat} {Q : s_O → Prop} {h : s_H} {kc ks : Nat} {r0 : Term} {x1 x2 : Int} {t3 t4 t5 : Term} {q2 : Nat} {f3 : List Term} {v5 v7 : Term} (g4 : s_get h q2 = some (1, 11, f3)) (k : wm P d 433 [.index q2, v5, v7] h (wq P d sw_c514 sw_h514 107 [.index q2, vi x1, vi x2, t3, t4, t5] [] kc ks Q)) (e_q2 : r0 = .index q2 := by first | rfl | assumption) (y1 : s_ty r0 = 3 := by first | rfl | assumption) (n6 : s_nth f3 10 = some v5 := by first | rfl | assumption) (n8 : s_nth f3 24 = some v7 := by first | rfl | assumption)  : wr P d sw_c514 sw_h514 (95, [r0, vi x1, vi x2, t3, t4, t5], [], h, kc, ks) Q := by
  refine w_ld rfl rfl (Or.inr (Or.inr ⟨by decide, y1⟩)) ?_
  refine w_ld rfl rfl (Or.inr (Or.inr ⟨by decide, y1⟩)) ?_
  subst e_q2
  refine w_getf rfl g4 n6 ?_
  refine w_ld rfl rfl (Or.inr (Or.inr ⟨by decide, rfl⟩)) ?_
  refine w_getf rfl g4 n8 ?_
  exact w_cv rfl [.index q2, v5, v7] [] rfl rfl (s_wt_4 rfl) rfl g4 k

theorem k514_107 {P : s_P} {d : Nat} {Q : s_O → Prop} {h : s_H} {kc ks : Nat} {r0 : Term} {x1 x2 : Int} {t3 t4 t5 : Term} {q2 : Nat} {f3 : List Term} {v5 v7 : Term} (g4 : s_get h q2 = some (1, 11, f3)) (k : wm P d 596 [v5, v7] h (wq P d sw_c514 sw_h514 118 [.index q2, vi x1, vi x2, t3, t4, t5] [] kc ks Q)) (e_q2 : r0 = .index q2 := by first | rfl | assumption) (y1 : s_ty r0 = 3 := by first | rfl | assumption) (n6 : s_nth f3 22 = some v5 := by first | rfl | assumption) (n8 : s_nth f3 11 = some v7 := by first | rfl | assumption)  : wr P d sw_c514 sw_h514 (107, [r0, vi x1, vi x2, t3, t4, t5], [], h, kc, ks) Q := by
  refine w_ld rfl rfl (Or.inr (Or.inr ⟨by decide, y1⟩)) ?_
  subst e_q2
  refine w_getf rfl g4 n6 ?_
  refine w_ld rfl rfl (Or.inr (Or.inr ⟨by decide, rfl⟩)) ?_
  refine w_getf rfl g4 n8 ?_
  exact w_cs rfl [v5, v7] [] rfl rfl (s_wt_4 rfl) k

theorem k514_118 {P : s_P} {d : Nat} {Q : s_O → Prop} {h : s_H} {kc ks : Nat} {r0 : Term} {x1 x2 : Int} {t3 t4 t5 : Term} {q2 : Nat} {f3 : List Term} {v5 v7 : Term} (g4 : s_get h q2 = some (1, 11, f3)) (k : wm P d 433 [.index q2, v5, v7] h (wq P d sw_c514 sw_h514 130 [.index q2, vi x1, vi x2, t3, t4, t5] [] kc ks Q)) (e_q2 : r0 = .index q2 := by first | rfl | assumption) (y1 : s_ty r0 = 3 := by first | rfl | assumption) (n6 : s_nth f3 22 = some v5 := by first | rfl | assumption) (n8 : s_nth f3 24 = some v7 := by first | rfl | assumption)  : wr P d sw_c514 sw_h514 (118, [r0, vi x1, vi x2, t3, t4, t5], [], h, kc, ks) Q := by
  refine w_ld rfl rfl (Or.inr (Or.inr ⟨by decide, y1⟩)) ?_
  refine w_ld rfl rfl (Or.inr (Or.inr ⟨by decide, y1⟩)) ?_
  subst e_q2
  refine w_getf rfl g4 n6 ?_
  refine w_ld rfl rfl (Or.inr (Or.inr ⟨by decide, rfl⟩)) ?_
  refine w_getf rfl g4 n8 ?_
  exact w_cv rfl [.index q2, v5, v7] [] rfl rfl (s_wt_4 rfl) rfl g4 k

theorem k514_130 {P : s_P} {d : Nat} {Q : s_O → Prop} {h : s_H} {kc ks : Nat} {r0 : Term} {x1 x2 : Int} {t3 t4 t5 : Term} {q2 : Nat} {f3 : List Term} {v5 : Term} (g4 : s_get h q2 = some (1, 11, f3)) (k : wm P d 463 [v5] h (wq P d sw_c514 sw_h514 137 [.index q2, vi x1, vi x2, t3, t4, t5] [] kc ks Q)) (e_q2 : r0 = .index q2 := by first | rfl | assumption) (y1 : s_ty r0 = 3 := by first | rfl | assumption) (n6 : s_nth f3 22 = some v5 := by first | rfl | assumption)  : wr P d sw_c514 sw_h514 (130, [r0, vi x1, vi x2, t3, t4, t5], [], h, kc, ks) Q := by
  refine w_ld rfl rfl (Or.inr (Or.inr ⟨by decide, y1⟩)) ?_
  subst e_q2
  refine w_getf rfl g4 n6 ?_
  exact w_cs rfl [v5] [] rfl rfl (s_wt_4 rfl) k

theorem k514_137 {P : s_P} {d : Nat} {Q : s_O → Prop} {h : s_H} {kc ks : Nat} {r0 : Term} {x1 x2 : Int} {t3 t4 t5 : Term} {s0 : Int} {q2 : Nat} {f3 : List Term} {v5 : Term} {q7 : Nat} {a8 : List Int} {v13 : Term} {q15 : Nat} {a16 : List Int} (g4 : s_get h q2 = some (1, 11, f3)) (g9 : s_get h q7 = some (0, 1, a8.map vl)) (g17 : s_get h q15 = some (0, 1, a16.map vl)) (k : wm P d 467 [vl (gi a16 s0)] h (wq P d sw_c514 sw_h514 153 [.index q2, vi x1, vi x2, vi s0, t4, t5] [vl (gi a8 s0)] kc ks Q)) (e_q2 : r0 = .index q2 := by first | rfl | assumption) (e_q7 : v5 = .index q7 := by first | rfl | assumption) (e_q15 : v13 = .index q15 := by first | rfl | assumption) (y1 : s_ty r0 = 3 := by first | rfl | assumption) (n6 : s_nth f3 10 = some v5 := by first | rfl | assumption) (n14 : s_nth f3 22 = some v13 := by first | rfl | assumption) (c10 : s0 < a8.length := by first | omega | assumption | (simp only [mk_len, List.length_map]; omega) | decide) (c11 : 0 ≤ s0 := by first | omega | assumption | (simp only [mk_len, List.length_map]; omega) | decide) (c12 : In3 s0 := by first | omega | assumption | (simp only [mk_len, List.length_map]; omega) | decide) (c18 : s0 < a16.length := by first | omega | assumption | (simp only [mk_len, List.length_map]; omega) | decide) : wr P d sw_c514 sw_h514 (137, [r0, vi x1, vi x2, t3, t4, t5], [vi s0], h, kc, ks) Q := by
  refine w_st (ls' := [r0, vi x1, vi x2, vi s0, t4, t5]) rfl (Or.inl ⟨by decide, rfl⟩) rfl ?_
  refine w_ld rfl rfl (Or.inr (Or.inr ⟨by decide, y1⟩)) ?_
  subst e_q2
  refine w_getf rfl g4 n6 ?_
  refine w_ld rfl rfl (Or.inl ⟨by decide, rfl⟩) ?_
  subst e_q7
  refine w_lald rfl g9 c12 c11 c10 ?_
  refine w_ld rfl rfl (Or.inr (Or.inr ⟨by decide, rfl⟩)) ?_
  refine w_getf rfl g4 n14 ?_
  refine w_ld rfl rfl (Or.inl ⟨by decide, rfl⟩) ?_
  subst e_q15
  refine w_lald rfl g17 c12 c11 c18 ?_
  exact w_cs rfl [vl (gi a16 s0)] [vl (gi a8 s0)] rfl rfl (s_wt_4 rfl) k

theorem k514_153 {P : s_P} {d : Nat} {Q : s_O → Prop} {h : s_H} {kc ks : Nat} {r0 : Term} {x1 x2 x3 : Int} {t4 t5 : Term} {s0 s1 : Int} {q3 : Nat} {f4 : List Term} {v6 v8 : Term} (g5 : s_get h q3 = some (1, 11, f4)) (k : wm P d 529 [v6, v8, vl (-(Int.tmod (s0 * s1) 32003))] h (wq P d sw_c514 sw_h514 174 [.index q3, vi x1, vi x2, vi x3, vl (Int.tmod (s0 * s1) 32003), .result] [] kc ks Q)) (e_q3 : r0 = .index q3 := by first | rfl | assumption) (y2 : s_ty r0 = 3 := by first | rfl | assumption) (n7 : s_nth f4 10 = some v6 := by first | rfl | assumption) (n9 : s_nth f4 22 = some v8 := by first | rfl | assumption) (c1 : In6 (s0 * s1) := by first | omega | assumption | (simp only [mk_len, List.length_map]; omega) | decide) : wr P d sw_c514 sw_h514 (153, [r0, vi x1, vi x2, vi x3, t4, t5], [vl s1, vl s0], h, kc, ks) Q := by
  refine w_lmul rfl ?_
  refine w_c64 rfl (by decide) 32003 (by decide) ?_
  refine w_lrem rfl c1 (by decide) (by decide) ?_
  refine w_stl (ls' := [r0, vi x1, vi x2, vi x3, vl (Int.tmod (s0 * s1) 32003), t5]) (ls'' := [r0, vi x1, vi x2, vi x3, vl (Int.tmod (s0 * s1) 32003), .result]) rfl ⟨by decide, rfl⟩ rfl rfl ?_
  refine w_ld rfl rfl (Or.inr (Or.inr ⟨by decide, y2⟩)) ?_
  subst e_q3
  refine w_getf rfl g5 n7 ?_
  refine w_ld rfl rfl (Or.inr (Or.inr ⟨by decide, rfl⟩)) ?_
  refine w_getf rfl g5 n9 ?_
  refine w_ld rfl rfl (Or.inr (Or.inl ⟨by decide, rfl⟩)) ?_
  refine w_lneg rfl ?_
  exact w_cs rfl [v6, v8, vl (-(Int.tmod (s0 * s1) 32003))] [] rfl rfl (s_wt_4 rfl) k

theorem k514_174 {P : s_P} {d : Nat} {Q : s_O → Prop} {h : s_H} {kc ks : Nat} {r0 : Term} {x1 x2 x3 x4 : Int} {t5 : Term} {q2 : Nat} {f3 : List Term} {v5 : Term} (g4 : s_get h q2 = some (1, 11, f3)) (k : wm P d 463 [v5] h (wq P d sw_c514 sw_h514 181 [.index q2, vi x1, vi x2, vi x3, vl x4, t5] [] kc ks Q)) (e_q2 : r0 = .index q2 := by first | rfl | assumption) (y1 : s_ty r0 = 3 := by first | rfl | assumption) (n6 : s_nth f3 10 = some v5 := by first | rfl | assumption)  : wr P d sw_c514 sw_h514 (174, [r0, vi x1, vi x2, vi x3, vl x4, t5], [], h, kc, ks) Q := by
  refine w_ld rfl rfl (Or.inr (Or.inr ⟨by decide, y1⟩)) ?_
  subst e_q2
  refine w_getf rfl g4 n6 ?_
  exact w_cs rfl [v5] [] rfl rfl (s_wt_4 rfl) k

theorem k514_181 {P : s_P} {d : Nat} {Q : s_O → Prop} {h : s_H} {kc ks : Nat} {r0 : Term} {x1 x2 x3 x4 : Int} {t5 : Term} {s0 : Int}  (k1 : 0 ≤ s0 → wr P d sw_c514 sw_h514 (190, [r0, vi x1, vi x2, vi x3, vl x4, t5], [], h, kc, ks) Q) (k2 : ¬ 0 ≤ s0 → wr P d sw_c514 sw_h514 (184, [r0, vi x1, vi x2, vi x3, vl x4, t5], [], h, kc, ks) Q)  (c1 : In3 s0 := by first | omega | assumption | (simp only [mk_len, List.length_map]; omega) | decide) : wr P d sw_c514 sw_h514 (181, [r0, vi x1, vi x2, vi x3, vl x4, t5], [vi s0], h, kc, ks) Q := by
  exact w_if1 rfl c1 k1 k2

theorem k514_184 {P : s_P} {d : Nat} {Q : s_O → Prop} {h : s_H} {kc ks : Nat} {r0 : Term} {x1 x2 x3 x4 : Int} {t5 : Term}  (k : wr P d sw_c514 sw_h514 (191, [r0, vi x1, vi x2, vi x3, vl x4, t5], [vi x4], h, kc, ks) Q)   : wr P d sw_c514 sw_h514 (184, [r0, vi x1, vi x2, vi x3, vl x4, t5], [], h, kc, ks) Q := by
  refine w_ld rfl rfl (Or.inr (Or.inl ⟨by decide, rfl⟩)) ?_
  refine w_l2i rfl ?_
  refine w_goto rfl ?_
  exact k

theorem k514_190 {P : s_P} {d : Nat} {Q : s_O → Prop} {h : s_H} {kc ks : Nat} {r0 : Term} {x1 x2 x3 x4 : Int} {t5 : Term}  (k : wr P d sw_c514 sw_h514 (191, [r0, vi x1, vi x2, vi x3, vl x4, t5], [vi (-1)], h, kc, ks) Q)   : wr P d sw_c514 sw_h514 (190, [r0, vi x1, vi x2, vi x3, vl x4, t5], [], h, kc, ks) Q := by
  refine w_c32 rfl (by decide) (-1) (by decide) ?_
  exact k

theorem k514_191 {P : s_P} {d : Nat} {Q : s_O → Prop} {h : s_H} {kc ks : Nat} {r0 : Term} {x1 x2 x3 x4 : Int} {t5 : Term} {s0 : Int}  (k : Q (.inl (some (vi s0)), h, kc, ks))   : wr P d sw_c514 sw_h514 (191, [r0, vi x1, vi x2, vi x3, vl x4, t5], [vi s0], h, kc, ks) Q := by
  exact w_iret rfl k

