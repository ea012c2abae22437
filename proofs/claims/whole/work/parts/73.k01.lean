/-! 102: FormulaWorks.worked()I -/
theorem k102_0 {P : s_P} {d : Nat} {Q : s_O → Prop} {h : s_H} {kc ks : Nat} {r0 : Term} {q2 : Nat} {f3 : List Term} {v5 : Term} {q7 : Nat} {f8 : List Term} {z10 : Int} (g4 : s_get h q2 = some (1, 10, f3)) (g9 : s_get h q7 = some (1, 7, f8)) (k : Q (.inl (some (vi z10)), h, kc, ks)) (e_q2 : r0 = .index q2 := by first | rfl | assumption) (e_q7 : v5 = .index q7 := by first | rfl | assumption) (y1 : s_ty r0 = 3 := by first | rfl | assumption) (n6 : s_nth f3 14 = some v5 := by first | rfl | assumption) (n11 : s_nth f8 9 = some (vi z10) := by first | rfl | assumption)  : wr P d sw_c102 sw_h102 (0, [r0], [], h, kc, ks) Q := by
  refine w_ld rfl rfl (Or.inr (Or.inr ⟨by decide, y1⟩)) ?_
  subst e_q2
  refine w_getf rfl g4 n6 ?_
  subst e_q7
  refine w_getf rfl g9 n11 ?_
  exact w_iret rfl k

/-! 103: FormulaWorks.worth(I)I -/
theorem k103_0 {P : s_P} {d : Nat} {Q : s_O → Prop} {h : s_H} {kc ks : Nat} {r0 : Term} {x1 : Int} {t2 : Term} {q2 : Nat} {f3 : List Term} (g4 : s_get h q2 = some (1, 10, f3)) (k : wm P d 64 [.index q2, vi x1, vi 3] h (wq P d sw_c103 sw_h103 6 [.index q2, vi x1, t2] [] kc ks Q)) (e_q2 : r0 = .index q2 := by first | rfl | assumption) (y1 : s_ty r0 = 3 := by first | rfl | assumption)  : wr P d sw_c103 sw_h103 (0, [r0, vi x1, t2], [], h, kc, ks) Q := by
  refine w_ld rfl rfl (Or.inr (Or.inr ⟨by decide, y1⟩)) ?_
  refine w_ld rfl rfl (Or.inl ⟨by decide, rfl⟩) ?_
  refine w_c32 rfl (by decide) 3 (by decide) ?_
  subst e_q2
  exact w_cv rfl [.index q2, vi x1, vi 3] [] rfl rfl (s_wt_4 rfl) rfl g4 k

theorem k103_6 {P : s_P} {d : Nat} {Q : s_O → Prop} {h : s_H} {kc ks : Nat} {r0 : Term} {x1 : Int} {t2 s0 : Term} {q3 : Nat} {f4 : List Term} {v6 : Term} {q8 : Nat} {f9 : List Term} {v11 : Term} {q13 : Nat} {f14 : List Term} (g5 : s_get h q3 = some (1, 10, f4)) (g10 : s_get h q8 = some (1, 8, f9)) (g15 : s_get h q13 = some (1, 5, f14)) (k : wm P d 212 [.index q13, v11] h (wq P d sw_c103 sw_h103 19 [.index q3, vi x1, .index q8] [.index q3] kc ks Q)) (e_q3 : r0 = .index q3 := by first | rfl | assumption) (e_q8 : s0 = .index q8 := by first | rfl | assumption) (e_q13 : v6 = .index q13 := by first | rfl | assumption) (y1 : s_ty s0 = 3 := by first | rfl | assumption) (y2 : s_ty r0 = 3 := by first | rfl | assumption) (n7 : s_nth f4 13 = some v6 := by first | rfl | assumption) (n12 : s_nth f9 6 = some v11 := by first | rfl | assumption)  : wr P d sw_c103 sw_h103 (6, [r0, vi x1, t2], [s0], h, kc, ks) Q := by
  refine w_st (ls' := [r0, vi x1, s0]) rfl (Or.inr ⟨by decide, y1⟩) rfl ?_
  refine w_ld rfl rfl (Or.inr (Or.inr ⟨by decide, y2⟩)) ?_
  refine w_ld rfl rfl (Or.inr (Or.inr ⟨by decide, y2⟩)) ?_
  subst e_q3
  refine w_getf rfl g5 n7 ?_
  refine w_ld rfl rfl (Or.inr (Or.inr ⟨by decide, y1⟩)) ?_
  subst e_q8
  refine w_getf rfl g10 n12 ?_
  subst e_q13
  exact w_cv rfl [.index q13, v11] [.index q3] rfl rfl (s_wt_4 rfl) rfl g15 k

theorem k103_19 {P : s_P} {d : Nat} {Q : s_O → Prop} {h : s_H} {kc ks : Nat} {r0 : Term} {x1 : Int} {r2 s0 s1 : Term} {q1 : Nat} {f2 : List Term} (g3 : s_get h q1 = some (1, 10, f2)) (k : wm P d 37 [.index q1, s1] h (wq P d sw_c103 sw_h103 22 [r0, vi x1, r2] [] kc ks Q)) (e_q1 : s0 = .index q1 := by first | rfl | assumption)  : wr P d sw_c103 sw_h103 (19, [r0, vi x1, r2], [s1, s0], h, kc, ks) Q := by
  subst e_q1
  exact w_cv rfl [.index q1, s1] [] rfl rfl (s_wt_4 rfl) rfl g3 k

theorem k103_22 {P : s_P} {d : Nat} {Q : s_O → Prop} {h : s_H} {kc ks : Nat} {r0 : Term} {x1 : Int} {r2 : Term} {s0 : Int}  (k : Q (.inl (some (vi s0)), h, kc, ks))   : wr P d sw_c103 sw_h103 (22, [r0, vi x1, r2], [vi s0], h, kc, ks) Q := by
  exact w_iret rfl k

/-! 104: FormulaWorks.written(I)I -/
theorem k104_0 {P : s_P} {d : Nat} {Q : s_O → Prop} {h : s_H} {kc ks : Nat} {r0 : Term} {x1 : Int} {q2 : Nat} {f3 : List Term} {v5 : Term} (g4 : s_get h q2 = some (1, 10, f3)) (k : wm P d 64 [.index q2, vi x1, vi 0] h (wq P d sw_c104 sw_h104 10 [.index q2, vi x1] [v5] kc ks Q)) (e_q2 : r0 = .index q2 := by first | rfl | assumption) (y1 : s_ty r0 = 3 := by first | rfl | assumption) (n6 : s_nth f3 12 = some v5 := by first | rfl | assumption)  : wr P d sw_c104 sw_h104 (0, [r0, vi x1], [], h, kc, ks) Q := by
  refine w_ld rfl rfl (Or.inr (Or.inr ⟨by decide, y1⟩)) ?_
  subst e_q2
  refine w_getf rfl g4 n6 ?_
  refine w_ld rfl rfl (Or.inr (Or.inr ⟨by decide, rfl⟩)) ?_
  refine w_ld rfl rfl (Or.inl ⟨by decide, rfl⟩) ?_
  refine w_c32 rfl (by decide) 0 (by decide) ?_
  exact w_cv rfl [.index q2, vi x1, vi 0] [v5] rfl rfl (s_wt_4 rfl) rfl g4 k

theorem k104_10 {P : s_P} {d : Nat} {Q : s_O → Prop} {h : s_H} {kc ks : Nat} {r0 : Term} {x1 : Int} {s0 s1 : Term} {q1 : Nat} {f2 : List Term} (g3 : s_get h q1 = some (1, 9, f2)) (k : wm P d 309 [.index q1, s1] h (wq P d sw_c104 sw_h104 13 [r0, vi x1] [] kc ks Q)) (e_q1 : s0 = .index q1 := by first | rfl | assumption)  : wr P d sw_c104 sw_h104 (10, [r0, vi x1], [s1, s0], h, kc, ks) Q := by
  subst e_q1
  exact w_cv rfl [.index q1, s1] [] rfl rfl (s_wt_4 rfl) rfl g3 k

theorem k104_17 {P : s_P} {d : Nat} {Q : s_O → Prop} {h : s_H} {kc ks : Nat} {r0 : Term} {x1 : Int} {q2 : Nat} {f3 : List Term} {v5 v7 : Term} {q9 : Nat} {f10 : List Term} {v12 : Term} {z14 z16 : Int} {q18 : Nat} {f19 : List Term} (g4 : s_get h q2 = some (1, 10, f3)) (g11 : s_get h q9 = some (1, 9, f10)) (g20 : s_get h q18 = some (1, 5, f19)) (k : wm P d 192 [.index q18, v12, vi z14, vi 8, vi z16] h (wq P d sw_c104 sw_h104 44 [.index q2, vi x1] [] kc ks Q)) (e_q2 : r0 = .index q2 := by first | rfl | assumption) (e_q9 : v7 = .index q9 := by first | rfl | assumption) (e_q18 : v5 = .index q18 := by first | rfl | assumption) (y1 : s_ty r0 = 3 := by first | rfl | assumption) (n6 : s_nth f3 13 = some v5 := by first | rfl | assumption) (n8 : s_nth f3 12 = some v7 := by first | rfl | assumption) (n13 : s_nth f10 7 = some v12 := by first | rfl | assumption) (n15 : s_nth f10 8 = some (vi z14) := by first | rfl | assumption) (n17 : s_nth f3 1 = some (vi z16) := by first | rfl | assumption)  : wr P d sw_c104 sw_h104 (17, [r0, vi x1], [], h, kc, ks) Q := by
  refine w_ld rfl rfl (Or.inr (Or.inr ⟨by decide, y1⟩)) ?_
  subst e_q2
  refine w_getf rfl g4 n6 ?_
  refine w_ld rfl rfl (Or.inr (Or.inr ⟨by decide, rfl⟩)) ?_
  refine w_getf rfl g4 n8 ?_
  subst e_q9
  refine w_getf rfl g11 n13 ?_
  refine w_ld rfl rfl (Or.inr (Or.inr ⟨by decide, rfl⟩)) ?_
  refine w_getf rfl g4 n8 ?_
  refine w_getf rfl g11 n15 ?_
  refine w_c32 rfl (by decide) 8 (by decide) ?_
  refine w_ld rfl rfl (Or.inr (Or.inr ⟨by decide, rfl⟩)) ?_
  refine w_getf rfl g4 n17 ?_
  subst e_q18
  exact w_cv rfl [.index q18, v12, vi z14, vi 8, vi z16] [] rfl rfl (s_wt_4 rfl) rfl g20 k

theorem k104_44 {P : s_P} {d : Nat} {Q : s_O → Prop} {h : s_H} {kc ks : Nat} {r0 : Term} {x1 : Int} {q2 : Nat} {f3 : List Term} {v5 : Term} {q7 : Nat} {f8 : List Term} (g4 : s_get h q2 = some (1, 10, f3)) (g9 : s_get h q7 = some (1, 5, f8)) (k : wm P d 207 [.index q7] h (wq P d sw_c104 sw_h104 51 [.index q2, vi x1] [] kc ks Q)) (e_q2 : r0 = .index q2 := by first | rfl | assumption) (e_q7 : v5 = .index q7 := by first | rfl | assumption) (y1 : s_ty r0 = 3 := by first | rfl | assumption) (n6 : s_nth f3 13 = some v5 := by first | rfl | assumption)  : wr P d sw_c104 sw_h104 (44, [r0, vi x1], [], h, kc, ks) Q := by
  refine w_ld rfl rfl (Or.inr (Or.inr ⟨by decide, y1⟩)) ?_
  subst e_q2
  refine w_getf rfl g4 n6 ?_
  subst e_q7
  exact w_cv rfl [.index q7] [] rfl rfl (s_wt_4 rfl) rfl g9 k

theorem k104_51 {P : s_P} {d : Nat} {Q : s_O → Prop} {h : s_H} {kc ks : Nat} {r0 : Term} {x1 s0 : Int} {q2 : Nat} {f3 : List Term} (g4 : s_get h q2 = some (1, 10, f3)) (k : wm P d 40 [.index q2] h (wq P d sw_c104 sw_h104 56 [.index q2, vi x1] [] kc ks Q)) (e_q2 : r0 = .index q2 := by first | rfl | assumption) (y1 : s_ty r0 = 3 := by first | rfl | assumption)  : wr P d sw_c104 sw_h104 (51, [r0, vi x1], [vi s0], h, kc, ks) Q := by
  refine w_pop rfl rfl ?_
  refine w_ld rfl rfl (Or.inr (Or.inr ⟨by decide, y1⟩)) ?_
  subst e_q2
  exact w_cv rfl [.index q2] [] rfl rfl (s_wt_4 rfl) rfl g4 k

theorem k104_56 {P : s_P} {d : Nat} {Q : s_O → Prop} {h : s_H} {kc ks : Nat} {r0 : Term} {x1 s0 : Int}  (k : Q (.inl (some (vi s0)), h, kc, ks))   : wr P d sw_c104 sw_h104 (56, [r0, vi x1], [vi s0], h, kc, ks) Q := by
  exact w_iret rfl k

/-! 106: FormulaWorks$Algebra.degreeOf(LFormulaWorks$Thing;)I -/
theorem k106_0 {P : s_P} {d : Nat} {Q : s_O → Prop} {h : s_H} {kc ks : Nat} {r0 : Term} {q2 : Nat} {f3 : List Term} {v5 : Term} {q7 : Nat} {f8 : List Term} {z10 : Int} {v12 : Term} {q14 : Nat} {f15 : List Term} {z17 : Int} (g4 : s_get h q2 = some (1, 8, f3)) (g9 : s_get h q7 = some (1, 4, f8)) (g16 : s_get h q14 = some (1, 4, f15)) (k1 : z10 ≤ z17 → wr P d sw_c106 sw_h106 (27, [.index q2], [], h, kc, ks) Q) (k2 : ¬ z10 ≤ z17 → wr P d sw_c106 sw_h106 (17, [.index q2], [], h, kc, ks) Q) (e_q2 : r0 = .index q2 := by first | rfl | assumption) (e_q7 : v5 = .index q7 := by first | rfl | assumption) (e_q14 : v12 = .index q14 := by first | rfl | assumption) (y1 : s_ty r0 = 3 := by first | rfl | assumption) (n6 : s_nth f3 1 = some v5 := by first | rfl | assumption) (n11 : s_nth f8 1 = some (vi z10) := by first | rfl | assumption) (n13 : s_nth f3 2 = some v12 := by first | rfl | assumption) (n18 : s_nth f15 1 = some (vi z17) := by first | rfl | assumption) (c19 : In3 z10 := by first | omega | assumption | (simp only [mk_len, List.length_map]; omega) | decide) (c20 : In3 z17 := by first | omega | assumption | (simp only [mk_len, List.length_map]; omega) | decide) : wr P d sw_c106 sw_h106 (0, [r0], [], h, kc, ks) Q := by
  refine w_ld rfl rfl (Or.inr (Or.inr ⟨by decide, y1⟩)) ?_
  subst e_q2
  refine w_getf rfl g4 n6 ?_
  subst e_q7
  refine w_getf rfl g9 n11 ?_
  refine w_ld rfl rfl (Or.inr (Or.inr ⟨by decide, rfl⟩)) ?_
  refine w_getf rfl g4 n13 ?_
  subst e_q14
  refine w_getf rfl g16 n18 ?_
  exact w_if2 rfl c19 c20 k1 k2

theorem k106_17 {P : s_P} {d : Nat} {Q : s_O → Prop} {h : s_H} {kc ks : Nat} {r0 : Term} {q2 : Nat} {f3 : List Term} {v5 : Term} {q7 : Nat} {f8 : List Term} {z10 : Int} (g4 : s_get h q2 = some (1, 8, f3)) (g9 : s_get h q7 = some (1, 4, f8)) (k : wr P d sw_c106 sw_h106 (34, [.index q2], [vi z10], h, kc, ks) Q) (e_q2 : r0 = .index q2 := by first | rfl | assumption) (e_q7 : v5 = .index q7 := by first | rfl | assumption) (y1 : s_ty r0 = 3 := by first | rfl | assumption) (n6 : s_nth f3 1 = some v5 := by first | rfl | assumption) (n11 : s_nth f8 1 = some (vi z10) := by first | rfl | assumption)  : wr P d sw_c106 sw_h106 (17, [r0], [], h, kc, ks) Q := by
  refine w_ld rfl rfl (Or.inr (Or.inr ⟨by decide, y1⟩)) ?_
  subst e_q2
  refine w_getf rfl g4 n6 ?_
  subst e_q7
  refine w_getf rfl g9 n11 ?_
  refine w_goto rfl ?_
  exact k

theorem k106_27 {P : s_P} {d : Nat} {Q : s_O → Prop} {h : s_H} {kc ks : Nat} {r0 : Term} {q2 : Nat} {f3 : List Term} {v5 : Term} {q7 : Nat} {f8 : List Term} {z10 : Int} (g4 : s_get h q2 = some (1, 8, f3)) (g9 : s_get h q7 = some (1, 4, f8)) (k : wr P d sw_c106 sw_h106 (34, [.index q2], [vi z10], h, kc, ks) Q) (e_q2 : r0 = .index q2 := by first | rfl | assumption) (e_q7 : v5 = .index q7 := by first | rfl | assumption) (y1 : s_ty r0 = 3 := by first | rfl | assumption) (n6 : s_nth f3 2 = some v5 := by first | rfl | assumption) (n11 : s_nth f8 1 = some (vi z10) := by first | rfl | assumption)  : wr P d sw_c106 sw_h106 (27, [r0], [], h, kc, ks) Q := by
  refine w_ld rfl rfl (Or.inr (Or.inr ⟨by decide, y1⟩)) ?_
  subst e_q2
  refine w_getf rfl g4 n6 ?_
  subst e_q7
  refine w_getf rfl g9 n11 ?_
  exact k

theorem k106_34 {P : s_P} {d : Nat} {Q : s_O → Prop} {h : s_H} {kc ks : Nat} {r0 : Term} {s0 : Int}  (k : Q (.inl (some (vi s0)), h, kc, ks))   : wr P d sw_c106 sw_h106 (34, [r0], [vi s0], h, kc, ks) Q := by
  exact w_iret rfl k

/-! 107: FormulaWorks$Algebra.insert(LFormulaWorks$Thing;LFormulaWorks$Thing;LFormulaWorks$Thing;)LFormulaWorks$Thing; -/
theorem k107_0 {P : s_P} {d : Nat} {Q : s_O → Prop} {h : s_H} {kc ks : Nat} {r0 r1 r2 r3 t4 t5 t6 t7 : Term}  (k : wm P d 106 [r1] h (wq P d sw_c107 sw_h107 4 [r0, r1, r2, r3, t4, t5, t6, t7] [] kc ks Q)) (y1 : s_ty r1 = 3 := by first | rfl | assumption)  : wr P d sw_c107 sw_h107 (0, [r0, r1, r2, r3, t4, t5, t6, t7], [], h, kc, ks) Q := by
  refine w_ld rfl rfl (Or.inr (Or.inr ⟨by decide, y1⟩)) ?_
  exact w_cs rfl [r1] [] rfl rfl (s_wt_4 rfl) k

theorem k107_4 {P : s_P} {d : Nat} {Q : s_O → Prop} {h : s_H} {kc ks : Nat} {r0 r1 r2 r3 t4 t5 t6 t7 : Term} {s0 : Int}  (k : wm P d 106 [r2] h (wq P d sw_c107 sw_h107 12 [r0, r1, r2, r3, vi s0, t5, t6, t7] [vi s0] kc ks Q)) (y1 : s_ty r3 = 3 := by first | rfl | assumption) (y2 : s_ty r2 = 3 := by first | rfl | assumption)  : wr P d sw_c107 sw_h107 (4, [r0, r1, r2, r3, t4, t5, t6, t7], [vi s0], h, kc, ks) Q := by
  refine w_st (ls' := [r0, r1, r2, r3, vi s0, t5, t6, t7]) rfl (Or.inl ⟨by decide, rfl⟩) (s_stK_r (pre := [r0, r1, r2]) y1) ?_
  refine w_ld rfl rfl (Or.inl ⟨by decide, rfl⟩) ?_
  refine w_ld rfl rfl (Or.inr (Or.inr ⟨by decide, y2⟩)) ?_
  exact w_cs rfl [r2] [vi s0] rfl rfl (s_wt_4 rfl) k

theorem k107_12 {P : s_P} {d : Nat} {Q : s_O → Prop} {h : s_H} {kc ks : Nat} {r0 r1 r2 r3 : Term} {x4 : Int} {t5 t6 t7 : Term} {s0 s1 : Int}  (k1 : s0 * s1 ≤ 40 → wr P d sw_c107 sw_h107 (25, [r0, r1, r2, r3, vi x4, t5, t6, t7], [], h, kc, ks) Q) (k2 : ¬ s0 * s1 ≤ 40 → wr P d sw_c107 sw_h107 (18, [r0, r1, r2, r3, vi x4, t5, t6, t7], [], h, kc, ks) Q)  (c1 : In3 (s0 * s1) := by first | omega | assumption | (simp only [mk_len, List.length_map]; omega) | decide) : wr P d sw_c107 sw_h107 (12, [r0, r1, r2, r3, vi x4, t5, t6, t7], [vi s1, vi s0], h, kc, ks) Q := by
  refine w_imul rfl ?_
  refine w_c32 rfl (by decide) 40 (by decide) ?_
  exact w_if2 rfl c1 (by decide) k1 k2

theorem k107_18 {P : s_P} {d : Nat} {Q : s_O → Prop} {h : s_H} {kc ks : Nat} {r0 r1 r2 r3 : Term} {x4 : Int} {t5 t6 t7 : Term} {q2 : Nat} {f3 : List Term} (g4 : s_get h q2 = some (1, 8, f3)) (k : Q (.inl (some (.index q2)), (hp h q2 (1, 8, f3.set 7 (vi 5))), kc, ks)) (e_q2 : r3 = .index q2 := by first | rfl | assumption) (y1 : s_ty r3 = 3 := by first | rfl | assumption) (l5 : 7 < f3.length := by first | exact Nat.le_of_ble_eq_true rfl | omega | assumption) (c6 : 0 < q2 := by first | omega | assumption | (simp only [mk_len, List.length_map]; omega) | decide) : wr P d sw_c107 sw_h107 (18, [r0, r1, r2, r3, vi x4, t5, t6, t7], [], h, kc, ks) Q := by
  refine w_ld rfl rfl (Or.inr (Or.inr ⟨by decide, y1⟩)) ?_
  refine w_c32 rfl (by decide) 5 (by decide) ?_
  subst e_q2
  refine w_putf rfl g4 (Nat.ble_eq_true_of_le c6) rfl (Nat.ble_eq_true_of_le l5) ?_
  refine w_ld rfl rfl (Or.inr (Or.inr ⟨by decide, rfl⟩)) ?_
  exact w_aret rfl rfl k

theorem k107_25 {P : s_P} {d : Nat} {Q : s_O → Prop} {h : s_H} {kc ks : Nat} {r0 r1 r2 r3 : Term} {x4 : Int} {t5 t6 t7 : Term} {q2 : Nat} {f3 : List Term} {z5 : Int} (g4 : s_get h q2 = some (1, 0, f3)) (k : wm P d 109 [.index q2] h (wq P d sw_c107 sw_h107 35 [.index q2, r1, r2, r3, vi x4, vi z5, t6, t7] [] kc ks Q)) (e_q2 : r0 = .index q2 := by first | rfl | assumption) (y1 : s_ty r0 = 3 := by first | rfl | assumption) (n6 : s_nth f3 1 = some (vi z5) := by first | rfl | assumption)  : wr P d sw_c107 sw_h107 (25, [r0, r1, r2, r3, vi x4, t5, t6, t7], [], h, kc, ks) Q := by
  refine w_ld rfl rfl (Or.inr (Or.inr ⟨by decide, y1⟩)) ?_
  subst e_q2
  refine w_getf rfl g4 n6 ?_
  refine w_st (ls' := [.index q2, r1, r2, r3, vi x4, vi z5, t6, t7]) rfl (Or.inl ⟨by decide, rfl⟩) rfl ?_
  refine w_ld rfl rfl (Or.inr (Or.inr ⟨by decide, rfl⟩)) ?_
  exact w_cv rfl [.index q2] [] rfl rfl (s_wt_4 rfl) rfl g4 k

theorem k107_35 {P : s_P} {d : Nat} {Q : s_O → Prop} {h : s_H} {kc ks : Nat} {r0 r1 r2 r3 : Term} {x4 x5 : Int} {t6 t7 s0 : Term} {q3 : Nat} {f4 : List Term} (g5 : s_get h q3 = some (1, 0, f4)) (k : wm P d 109 [.index q3] h (wq P d sw_c107 sw_h107 41 [.index q3, r1, r2, r3, vi x4, vi x5, s0, t7] [] kc ks Q)) (e_q3 : r0 = .index q3 := by first | rfl | assumption) (y1 : s_ty s0 = 3 := by first | rfl | assumption) (y2 : s_ty r0 = 3 := by first | rfl | assumption)  : wr P d sw_c107 sw_h107 (35, [r0, r1, r2, r3, vi x4, vi x5, t6, t7], [s0], h, kc, ks) Q := by
  refine w_st (ls' := [r0, r1, r2, r3, vi x4, vi x5, s0, t7]) rfl (Or.inr ⟨by decide, y1⟩) rfl ?_
  refine w_ld rfl rfl (Or.inr (Or.inr ⟨by decide, y2⟩)) ?_
  subst e_q3
  exact w_cv rfl [.index q3] [] rfl rfl (s_wt_4 rfl) rfl g5 k

theorem k107_41 {P : s_P} {d : Nat} {Q : s_O → Prop} {h : s_H} {kc ks : Nat} {r0 r1 r2 r3 : Term} {x4 x5 : Int} {r6 t7 s0 : Term} {q5 : Nat} {f6 : List Term} {v8 : Term} {q11 : Nat} {f12 : List Term} (g7 : s_get h q5 = some (1, 8, f6)) (g13 : s_get h q11 = some (1, 0, f12)) (k : wm P d 118 [.index q11, v8, vi x4, r2, r6] h (wq P d sw_c107 sw_h107 56 [.index q11, .index q5, r2, r3, vi x4, vi x5, r6, s0] [] kc ks Q)) (e_q5 : r1 = .index q5 := by first | rfl | assumption) (e_q11 : r0 = .index q11 := by first | rfl | assumption) (y1 : s_ty r6 = 3 := by first | rfl | assumption) (y2 : s_ty s0 = 3 := by first | rfl | assumption) (y3 : s_ty r0 = 3 := by first | rfl | assumption) (y4 : s_ty r1 = 3 := by first | rfl | assumption) (n9 : s_nth f6 1 = some v8 := by first | rfl | assumption) (y10 : s_ty r2 = 3 := by first | rfl | assumption)  : wr P d sw_c107 sw_h107 (41, [r0, r1, r2, r3, vi x4, vi x5, r6, t7], [s0], h, kc, ks) Q := by
  refine w_st (ls' := [r0, r1, r2, r3, vi x4, vi x5, r6, s0]) rfl (Or.inr ⟨by decide, y2⟩) (s_stK_r (pre := [r0, r1, r2, r3, vi x4, vi x5]) y1) ?_
  refine w_ld rfl rfl (Or.inr (Or.inr ⟨by decide, y3⟩)) ?_
  refine w_ld rfl rfl (Or.inr (Or.inr ⟨by decide, y4⟩)) ?_
  subst e_q5
  refine w_getf rfl g7 n9 ?_
  refine w_ld rfl rfl (Or.inl ⟨by decide, rfl⟩) ?_
  refine w_ld rfl rfl (Or.inr (Or.inr ⟨by decide, y10⟩)) ?_
  refine w_ld rfl rfl (Or.inr (Or.inr ⟨by decide, y1⟩)) ?_
  subst e_q11
  exact w_cv rfl [.index q11, v8, vi x4, r2, r6] [] rfl rfl (s_wt_4 rfl) rfl g13 k

theorem k107_56 {P : s_P} {d : Nat} {Q : s_O → Prop} {h : s_H} {kc ks : Nat} {r0 r1 r2 r3 : Term} {x4 x5 : Int} {r6 r7 : Term} {q3 : Nat} {f4 : List Term} {v6 : Term} {q10 : Nat} {f11 : List Term} (g5 : s_get h q3 = some (1, 8, f4)) (g12 : s_get h q10 = some (1, 0, f11)) (k : wm P d 118 [.index q10, v6, vi x4, r2, r7] h (wq P d sw_c107 sw_h107 69 [.index q10, .index q3, r2, r3, vi x4, vi x5, r6, r7] [] kc ks Q)) (e_q3 : r1 = .index q3 := by first | rfl | assumption) (e_q10 : r0 = .index q10 := by first | rfl | assumption) (y1 : s_ty r0 = 3 := by first | rfl | assumption) (y2 : s_ty r1 = 3 := by first | rfl | assumption) (n7 : s_nth f4 2 = some v6 := by first | rfl | assumption) (y8 : s_ty r2 = 3 := by first | rfl | assumption) (y9 : s_ty r7 = 3 := by first | rfl | assumption)  : wr P d sw_c107 sw_h107 (56, [r0, r1, r2, r3, vi x4, vi x5, r6, r7], [], h, kc, ks) Q := by
  refine w_ld rfl rfl (Or.inr (Or.inr ⟨by decide, y1⟩)) ?_
  refine w_ld rfl rfl (Or.inr (Or.inr ⟨by decide, y2⟩)) ?_
  subst e_q3
  refine w_getf rfl g5 n7 ?_
  refine w_ld rfl rfl (Or.inl ⟨by decide, rfl⟩) ?_
  refine w_ld rfl rfl (Or.inr (Or.inr ⟨by decide, y8⟩)) ?_
  refine w_ld rfl rfl (Or.inr (Or.inr ⟨by decide, y9⟩)) ?_
  subst e_q10
  exact w_cv rfl [.index q10, v6, vi x4, r2, r7] [] rfl rfl (s_wt_4 rfl) rfl g12 k

theorem k107_69 {P : s_P} {d : Nat} {Q : s_O → Prop} {h : s_H} {kc ks : Nat} {r0 r1 r2 r3 : Term} {x4 x5 : Int} {r6 r7 : Term} {q2 : Nat} {f3 : List Term} {z5 : Int} (g4 : s_get h q2 = some (1, 4, f3)) (k1 : 0 ≤ z5 → wr P d sw_c107 sw_h107 (85, [r0, r1, r2, r3, vi x4, vi x5, r6, .index q2], [], h, kc, ks) Q) (k2 : ¬ 0 ≤ z5 → wr P d sw_c107 sw_h107 (77, [r0, r1, r2, r3, vi x4, vi x5, r6, .index q2], [], h, kc, ks) Q) (e_q2 : r7 = .index q2 := by first | rfl | assumption) (y1 : s_ty r7 = 3 := by first | rfl | assumption) (n6 : s_nth f3 1 = some (vi z5) := by first | rfl | assumption) (c7 : In3 z5 := by first | omega | assumption | (simp only [mk_len, List.length_map]; omega) | decide) : wr P d sw_c107 sw_h107 (69, [r0, r1, r2, r3, vi x4, vi x5, r6, r7], [], h, kc, ks) Q := by
  refine w_ld rfl rfl (Or.inr (Or.inr ⟨by decide, y1⟩)) ?_
  subst e_q2
  refine w_getf rfl g4 n6 ?_
  exact w_if1 rfl c7 k1 k2

theorem k107_77 {P : s_P} {d : Nat} {Q : s_O → Prop} {h : s_H} {kc ks : Nat} {r0 r1 r2 r3 : Term} {x4 x5 : Int} {r6 r7 : Term} {q2 : Nat} {f3 : List Term} (g4 : s_get h q2 = some (1, 8, f3)) (k : wr P d sw_c107 sw_h107 (95, [r0, r1, r2, .index q2, vi x4, vi x5, r6, r7], [], (hp h q2 (1, 8, f3.set 7 (vi 4))), kc, ks) Q) (e_q2 : r3 = .index q2 := by first | rfl | assumption) (y1 : s_ty r3 = 3 := by first | rfl | assumption) (l5 : 7 < f3.length := by first | exact Nat.le_of_ble_eq_true rfl | omega | assumption) (c6 : 0 < q2 := by first | omega | assumption | (simp only [mk_len, List.length_map]; omega) | decide) : wr P d sw_c107 sw_h107 (77, [r0, r1, r2, r3, vi x4, vi x5, r6, r7], [], h, kc, ks) Q := by
  refine w_ld rfl rfl (Or.inr (Or.inr ⟨by decide, y1⟩)) ?_
  refine w_c32 rfl (by decide) 4 (by decide) ?_
  subst e_q2
  refine w_putf rfl g4 (Nat.ble_eq_true_of_le c6) rfl (Nat.ble_eq_true_of_le l5) ?_
  refine w_goto rfl ?_
  exact k

theorem k107_85 {P : s_P} {d : Nat} {Q : s_O → Prop} {h : s_H} {kc ks : Nat} {r0 r1 r2 r3 : Term} {x4 x5 : Int} {r6 r7 : Term} {q5 : Nat} {f6 : List Term} (g7 : s_get h q5 = some (1, 0, f6)) (k : wm P d 121 [.index q5, r6, r7, r3] h (wq P d sw_c107 sw_h107 94 [.index q5, r1, r2, r3, vi x4, vi x5, r6, r7] [] kc ks Q)) (e_q5 : r0 = .index q5 := by first | rfl | assumption) (y1 : s_ty r0 = 3 := by first | rfl | assumption) (y2 : s_ty r6 = 3 := by first | rfl | assumption) (y3 : s_ty r7 = 3 := by first | rfl | assumption) (y4 : s_ty r3 = 3 := by first | rfl | assumption)  : wr P d sw_c107 sw_h107 (85, [r0, r1, r2, r3, vi x4, vi x5, r6, r7], [], h, kc, ks) Q := by
  refine w_ld rfl rfl (Or.inr (Or.inr ⟨by decide, y1⟩)) ?_
  refine w_ld rfl rfl (Or.inr (Or.inr ⟨by decide, y2⟩)) ?_
  refine w_ld rfl rfl (Or.inr (Or.inr ⟨by decide, y3⟩)) ?_
  refine w_ld rfl rfl (Or.inr (Or.inr ⟨by decide, y4⟩)) ?_
  subst e_q5
  exact w_cv rfl [.index q5, r6, r7, r3] [] rfl rfl (s_wt_4 rfl) rfl g7 k

theorem k107_94 {P : s_P} {d : Nat} {Q : s_O → Prop} {h : s_H} {kc ks : Nat} {r0 r1 r2 r3 : Term} {x4 x5 : Int} {r6 r7 s0 : Term}  (k : wr P d sw_c107 sw_h107 (95, [r0, r1, r2, r3, vi x4, vi x5, r6, r7], [], h, kc, ks) Q) (y1 : s_ty s0 = 3 := by first | rfl | assumption)  : wr P d sw_c107 sw_h107 (94, [r0, r1, r2, r3, vi x4, vi x5, r6, r7], [s0], h, kc, ks) Q := by
  refine w_pop rfl (by rw [y1]; rfl) ?_
  exact k

theorem k107_95 {P : s_P} {d : Nat} {Q : s_O → Prop} {h : s_H} {kc ks : Nat} {r0 r1 r2 r3 : Term} {x4 x5 : Int} {r6 r7 : Term} {q2 : Nat} {f3 : List Term} (g4 : s_get h q2 = some (1, 0, f3)) (k : wm P d 113 [.index q2, vi x5] h (wq P d sw_c107 sw_h107 101 [.index q2, r1, r2, r3, vi x4, vi x5, r6, r7] [] kc ks Q)) (e_q2 : r0 = .index q2 := by first | rfl | assumption) (y1 : s_ty r0 = 3 := by first | rfl | assumption)  : wr P d sw_c107 sw_h107 (95, [r0, r1, r2, r3, vi x4, vi x5, r6, r7], [], h, kc, ks) Q := by
  refine w_ld rfl rfl (Or.inr (Or.inr ⟨by decide, y1⟩)) ?_
  refine w_ld rfl rfl (Or.inl ⟨by decide, rfl⟩) ?_
  subst e_q2
  exact w_cv rfl [.index q2, vi x5] [] rfl rfl (s_wt_4 rfl) rfl g4 k

theorem k107_101 {P : s_P} {d : Nat} {Q : s_O → Prop} {h : s_H} {kc ks : Nat} {r0 r1 r2 r3 : Term} {x4 x5 : Int} {r6 r7 : Term}  (k : Q (.inl (some r3), h, kc, ks)) (y1 : s_ty r3 = 3 := by first | rfl | assumption)  : wr P d sw_c107 sw_h107 (101, [r0, r1, r2, r3, vi x4, vi x5, r6, r7], [], h, kc, ks) Q := by
  refine w_ld rfl rfl (Or.inr (Or.inr ⟨by decide, y1⟩)) ?_
  exact w_aret rfl y1 k

/-! 108: FormulaWorks$Algebra.join(ILFormulaWorks$Thing;LFormulaWorks$Thing;LFormulaWorks$Thing;)LFormulaWorks$Thing; -/
theorem k108_0 {P : s_P} {d : Nat} {Q : s_O → Prop} {h : s_H} {kc ks : Nat} {r0 : Term} {x1 : Int} {r2 r3 r4 t5 t6 t7 t8 : Term}  (k1 : x1 ≠ 47 → wr P d sw_c108 sw_h108 (25, [r0, vi x1, r2, r3, r4, t5, t6, t7, t8], [], h, kc, ks) Q) (k2 : ¬ x1 ≠ 47 → wr P d sw_c108 sw_h108 (6, [r0, vi x1, r2, r3, r4, t5, t6, t7, t8], [], h, kc, ks) Q)  (c1 : In3 x1 := by first | omega | assumption | (simp only [mk_len, List.length_map]; omega) | decide) : wr P d sw_c108 sw_h108 (0, [r0, vi x1, r2, r3, r4, t5, t6, t7, t8], [], h, kc, ks) Q := by
  refine w_ld rfl rfl (Or.inl ⟨by decide, rfl⟩) ?_
  refine w_c32 rfl (by decide) 47 (by decide) ?_
  exact w_if2 rfl c1 (by decide) k1 k2

theorem k108_6 {P : s_P} {d : Nat} {Q : s_O → Prop} {h : s_H} {kc ks : Nat} {r0 : Term} {x1 : Int} {r2 r3 r4 t5 t6 t7 t8 : Term} {q2 : Nat} {f3 : List Term} {v5 : Term} {q7 : Nat} {f8 : List Term} {z10 : Int} (g4 : s_get h q2 = some (1, 8, f3)) (g9 : s_get h q7 = some (1, 4, f8)) (k1 : 0 ≤ z10 → wr P d sw_c108 sw_h108 (25, [r0, vi x1, r2, .index q2, r4, t5, t6, t7, t8], [], h, kc, ks) Q) (k2 : ¬ 0 ≤ z10 → wr P d sw_c108 sw_h108 (16, [r0, vi x1, r2, .index q2, r4, t5, t6, t7, t8], [], h, kc, ks) Q) (e_q2 : r3 = .index q2 := by first | rfl | assumption) (e_q7 : v5 = .index q7 := by first | rfl | assumption) (y1 : s_ty r3 = 3 := by first | rfl | assumption) (n6 : s_nth f3 1 = some v5 := by first | rfl | assumption) (n11 : s_nth f8 1 = some (vi z10) := by first | rfl | assumption) (c12 : In3 z10 := by first | omega | assumption | (simp only [mk_len, List.length_map]; omega) | decide) : wr P d sw_c108 sw_h108 (6, [r0, vi x1, r2, r3, r4, t5, t6, t7, t8], [], h, kc, ks) Q := by
  refine w_ld rfl rfl (Or.inr (Or.inr ⟨by decide, y1⟩)) ?_
  subst e_q2
  refine w_getf rfl g4 n6 ?_
  subst e_q7
  refine w_getf rfl g9 n11 ?_
  exact w_if1 rfl c12 k1 k2

theorem k108_16 {P : s_P} {d : Nat} {Q : s_O → Prop} {h : s_H} {kc ks : Nat} {r0 : Term} {x1 : Int} {r2 r3 r4 t5 t6 t7 t8 : Term} {q2 : Nat} {f3 : List Term} (g4 : s_get h q2 = some (1, 8, f3)) (k : Q (.inl (some (.index q2)), (hp h q2 (1, 8, f3.set 7 (vi 4))), kc, ks)) (e_q2 : r4 = .index q2 := by first | rfl | assumption) (y1 : s_ty r4 = 3 := by first | rfl | assumption) (l5 : 7 < f3.length := by first | exact Nat.le_of_ble_eq_true rfl | omega | assumption) (c6 : 0 < q2 := by first | omega | assumption | (simp only [mk_len, List.length_map]; omega) | decide) : wr P d sw_c108 sw_h108 (16, [r0, vi x1, r2, r3, r4, t5, t6, t7, t8], [], h, kc, ks) Q := by
  refine w_ld rfl rfl (Or.inr (Or.inr ⟨by decide, y1⟩)) ?_
  refine w_c32 rfl (by decide) 4 (by decide) ?_
  subst e_q2
  refine w_putf rfl g4 (Nat.ble_eq_true_of_le c6) rfl (Nat.ble_eq_true_of_le l5) ?_
  refine w_ld rfl rfl (Or.inr (Or.inr ⟨by decide, rfl⟩)) ?_
  exact w_aret rfl rfl k

theorem k108_25 {P : s_P} {d : Nat} {Q : s_O → Prop} {h : s_H} {kc ks : Nat} {r0 : Term} {x1 : Int} {r2 r3 r4 t5 t6 t7 t8 : Term} {q2 : Nat} {f3 : List Term} {z5 : Int} (g4 : s_get h q2 = some (1, 0, f3)) (k : wm P d 109 [.index q2] h (wq P d sw_c108 sw_h108 35 [.index q2, vi x1, r2, r3, r4, vi z5, t6, t7, t8] [] kc ks Q)) (e_q2 : r0 = .index q2 := by first | rfl | assumption) (y1 : s_ty r0 = 3 := by first | rfl | assumption) (n6 : s_nth f3 1 = some (vi z5) := by first | rfl | assumption) (y7 : s_ty r4 = 3 := by first | rfl | assumption)  : wr P d sw_c108 sw_h108 (25, [r0, vi x1, r2, r3, r4, t5, t6, t7, t8], [], h, kc, ks) Q := by
  refine w_ld rfl rfl (Or.inr (Or.inr ⟨by decide, y1⟩)) ?_
  subst e_q2
  refine w_getf rfl g4 n6 ?_
  refine w_st (ls' := [.index q2, vi x1, r2, r3, r4, vi z5, t6, t7, t8]) rfl (Or.inl ⟨by decide, rfl⟩) (s_stK_r (pre := [.index q2, vi x1, r2, r3]) y7) ?_
  refine w_ld rfl rfl (Or.inr (Or.inr ⟨by decide, rfl⟩)) ?_
  exact w_cv rfl [.index q2] [] rfl rfl (s_wt_4 rfl) rfl g4 k

theorem k108_35 {P : s_P} {d : Nat} {Q : s_O → Prop} {h : s_H} {kc ks : Nat} {r0 : Term} {x1 : Int} {r2 r3 r4 : Term} {x5 : Int} {t6 t7 t8 s0 : Term} {q3 : Nat} {f4 : List Term} (g5 : s_get h q3 = some (1, 0, f4)) (k : wm P d 109 [.index q3] h (wq P d sw_c108 sw_h108 41 [.index q3, vi x1, r2, r3, r4, vi x5, s0, t7, t8] [] kc ks Q)) (e_q3 : r0 = .index q3 := by first | rfl | assumption) (y1 : s_ty s0 = 3 := by first | rfl | assumption) (y2 : s_ty r0 = 3 := by first | rfl | assumption)  : wr P d sw_c108 sw_h108 (35, [r0, vi x1, r2, r3, r4, vi x5, t6, t7, t8], [s0], h, kc, ks) Q := by
  refine w_st (ls' := [r0, vi x1, r2, r3, r4, vi x5, s0, t7, t8]) rfl (Or.inr ⟨by decide, y1⟩) rfl ?_
  refine w_ld rfl rfl (Or.inr (Or.inr ⟨by decide, y2⟩)) ?_
  subst e_q3
  exact w_cv rfl [.index q3] [] rfl rfl (s_wt_4 rfl) rfl g5 k

theorem k108_41 {P : s_P} {d : Nat} {Q : s_O → Prop} {h : s_H} {kc ks : Nat} {r0 : Term} {x1 : Int} {r2 r3 r4 : Term} {x5 : Int} {r6 t7 t8 s0 : Term} {q4 : Nat} {f5 : List Term} (g6 : s_get h q4 = some (1, 0, f5)) (k : wm P d 109 [.index q4] h (wq P d sw_c108 sw_h108 47 [.index q4, vi x1, r2, r3, r4, vi x5, r6, s0, t8] [] kc ks Q)) (e_q4 : r0 = .index q4 := by first | rfl | assumption) (y1 : s_ty r6 = 3 := by first | rfl | assumption) (y2 : s_ty s0 = 3 := by first | rfl | assumption) (y3 : s_ty r0 = 3 := by first | rfl | assumption)  : wr P d sw_c108 sw_h108 (41, [r0, vi x1, r2, r3, r4, vi x5, r6, t7, t8], [s0], h, kc, ks) Q := by
  refine w_st (ls' := [r0, vi x1, r2, r3, r4, vi x5, r6, s0, t8]) rfl (Or.inr ⟨by decide, y2⟩) (s_stK_r (pre := [r0, vi x1, r2, r3, r4, vi x5]) y1) ?_
  refine w_ld rfl rfl (Or.inr (Or.inr ⟨by decide, y3⟩)) ?_
  subst e_q4
  exact w_cv rfl [.index q4] [] rfl rfl (s_wt_4 rfl) rfl g6 k

theorem k108_47 {P : s_P} {d : Nat} {Q : s_O → Prop} {h : s_H} {kc ks : Nat} {r0 : Term} {x1 : Int} {r2 r3 r4 : Term} {x5 : Int} {r6 r7 t8 s0 : Term}  (k1 : x1 ≠ 42 → wr P d sw_c108 sw_h108 (84, [r0, vi x1, r2, r3, r4, vi x5, r6, r7, s0], [], h, kc, ks) Q) (k2 : ¬ x1 ≠ 42 → wr P d sw_c108 sw_h108 (55, [r0, vi x1, r2, r3, r4, vi x5, r6, r7, s0], [], h, kc, ks) Q) (y1 : s_ty r7 = 3 := by first | rfl | assumption) (y2 : s_ty s0 = 3 := by first | rfl | assumption) (c3 : In3 x1 := by first | omega | assumption | (simp only [mk_len, List.length_map]; omega) | decide) : wr P d sw_c108 sw_h108 (47, [r0, vi x1, r2, r3, r4, vi x5, r6, r7, t8], [s0], h, kc, ks) Q := by
  refine w_st (ls' := [r0, vi x1, r2, r3, r4, vi x5, r6, r7, s0]) rfl (Or.inr ⟨by decide, y2⟩) (s_stK_r (pre := [r0, vi x1, r2, r3, r4, vi x5, r6]) y1) ?_
  refine w_ld rfl rfl (Or.inl ⟨by decide, rfl⟩) ?_
  refine w_c32 rfl (by decide) 42 (by decide) ?_
  exact w_if2 rfl c3 (by decide) k1 k2

theorem k108_55 {P : s_P} {d : Nat} {Q : s_O → Prop} {h : s_H} {kc ks : Nat} {r0 : Term} {x1 : Int} {r2 r3 r4 : Term} {x5 : Int} {r6 r7 r8 : Term} {q3 : Nat} {f4 : List Term} {v6 : Term} {q9 : Nat} {f10 : List Term} {v12 : Term} {q14 : Nat} {f15 : List Term} (g5 : s_get h q3 = some (1, 8, f4)) (g11 : s_get h q9 = some (1, 8, f10)) (g16 : s_get h q14 = some (1, 4, f15)) (k : wm P d 182 [.index q14, v6, v12] h (wq P d sw_c108 sw_h108 68 [r0, vi x1, .index q3, .index q9, r4, vi x5, .index q14, r7, r8] [] kc ks Q)) (e_q3 : r2 = .index q3 := by first | rfl | assumption) (e_q9 : r3 = .index q9 := by first | rfl | assumption) (e_q14 : r6 = .index q14 := by first | rfl | assumption) (y1 : s_ty r6 = 3 := by first | rfl | assumption) (y2 : s_ty r2 = 3 := by first | rfl | assumption) (n7 : s_nth f4 1 = some v6 := by first | rfl | assumption) (y8 : s_ty r3 = 3 := by first | rfl | assumption) (n13 : s_nth f10 1 = some v12 := by first | rfl | assumption)  : wr P d sw_c108 sw_h108 (55, [r0, vi x1, r2, r3, r4, vi x5, r6, r7, r8], [], h, kc, ks) Q := by
  refine w_ld rfl rfl (Or.inr (Or.inr ⟨by decide, y1⟩)) ?_
  refine w_ld rfl rfl (Or.inr (Or.inr ⟨by decide, y2⟩)) ?_
  subst e_q3
  refine w_getf rfl g5 n7 ?_
  refine w_ld rfl rfl (Or.inr (Or.inr ⟨by decide, y8⟩)) ?_
  subst e_q9
  refine w_getf rfl g11 n13 ?_
  subst e_q14
  exact w_cv rfl [.index q14, v6, v12] [] rfl rfl (s_wt_4 rfl) rfl g16 k

theorem k108_68 {P : s_P} {d : Nat} {Q : s_O → Prop} {h : s_H} {kc ks : Nat} {r0 : Term} {x1 : Int} {r2 r3 r4 : Term} {x5 : Int} {r6 r7 r8 : Term} {q3 : Nat} {f4 : List Term} {v6 : Term} {q9 : Nat} {f10 : List Term} {v12 : Term} {q14 : Nat} {f15 : List Term} (g5 : s_get h q3 = some (1, 8, f4)) (g11 : s_get h q9 = some (1, 8, f10)) (g16 : s_get h q14 = some (1, 4, f15)) (k : wm P d 182 [.index q14, v6, v12] h (wq P d sw_c108 sw_h108 81 [r0, vi x1, .index q3, .index q9, r4, vi x5, r6, .index q14, r8] [] kc ks Q)) (e_q3 : r2 = .index q3 := by first | rfl | assumption) (e_q9 : r3 = .index q9 := by first | rfl | assumption) (e_q14 : r7 = .index q14 := by first | rfl | assumption) (y1 : s_ty r7 = 3 := by first | rfl | assumption) (y2 : s_ty r2 = 3 := by first | rfl | assumption) (n7 : s_nth f4 2 = some v6 := by first | rfl | assumption) (y8 : s_ty r3 = 3 := by first | rfl | assumption) (n13 : s_nth f10 2 = some v12 := by first | rfl | assumption)  : wr P d sw_c108 sw_h108 (68, [r0, vi x1, r2, r3, r4, vi x5, r6, r7, r8], [], h, kc, ks) Q := by
  refine w_ld rfl rfl (Or.inr (Or.inr ⟨by decide, y1⟩)) ?_
  refine w_ld rfl rfl (Or.inr (Or.inr ⟨by decide, y2⟩)) ?_
  subst e_q3
  refine w_getf rfl g5 n7 ?_
  refine w_ld rfl rfl (Or.inr (Or.inr ⟨by decide, y8⟩)) ?_
  subst e_q9
  refine w_getf rfl g11 n13 ?_
  subst e_q14
  exact w_cv rfl [.index q14, v6, v12] [] rfl rfl (s_wt_4 rfl) rfl g16 k

theorem k108_81 {P : s_P} {d : Nat} {Q : s_O → Prop} {h : s_H} {kc ks : Nat} {r0 : Term} {x1 : Int} {r2 r3 r4 : Term} {x5 : Int} {r6 r7 r8 : Term}  (k : wr P d sw_c108 sw_h108 (180, [r0, vi x1, r2, r3, r4, vi x5, r6, r7, r8], [], h, kc, ks) Q)   : wr P d sw_c108 sw_h108 (81, [r0, vi x1, r2, r3, r4, vi x5, r6, r7, r8], [], h, kc, ks) Q := by
  refine w_goto rfl ?_
  exact k

theorem k108_84 {P : s_P} {d : Nat} {Q : s_O → Prop} {h : s_H} {kc ks : Nat} {r0 : Term} {x1 : Int} {r2 r3 r4 : Term} {x5 : Int} {r6 r7 r8 : Term}  (k1 : x1 ≠ 47 → wr P d sw_c108 sw_h108 (119, [r0, vi x1, r2, r3, r4, vi x5, r6, r7, r8], [], h, kc, ks) Q) (k2 : ¬ x1 ≠ 47 → wr P d sw_c108 sw_h108 (90, [r0, vi x1, r2, r3, r4, vi x5, r6, r7, r8], [], h, kc, ks) Q)  (c1 : In3 x1 := by first | omega | assumption | (simp only [mk_len, List.length_map]; omega) | decide) : wr P d sw_c108 sw_h108 (84, [r0, vi x1, r2, r3, r4, vi x5, r6, r7, r8], [], h, kc, ks) Q := by
  refine w_ld rfl rfl (Or.inl ⟨by decide, rfl⟩) ?_
  refine w_c32 rfl (by decide) 47 (by decide) ?_
  exact w_if2 rfl c1 (by decide) k1 k2

theorem k108_90 {P : s_P} {d : Nat} {Q : s_O → Prop} {h : s_H} {kc ks : Nat} {r0 : Term} {x1 : Int} {r2 r3 r4 : Term} {x5 : Int} {r6 r7 r8 : Term} {q3 : Nat} {f4 : List Term} {v6 : Term} {q9 : Nat} {f10 : List Term} {v12 : Term} {q14 : Nat} {f15 : List Term} (g5 : s_get h q3 = some (1, 8, f4)) (g11 : s_get h q9 = some (1, 8, f10)) (g16 : s_get h q14 = some (1, 4, f15)) (k : wm P d 182 [.index q14, v6, v12] h (wq P d sw_c108 sw_h108 103 [r0, vi x1, .index q3, .index q9, r4, vi x5, .index q14, r7, r8] [] kc ks Q)) (e_q3 : r2 = .index q3 := by first | rfl | assumption) (e_q9 : r3 = .index q9 := by first | rfl | assumption) (e_q14 : r6 = .index q14 := by first | rfl | assumption) (y1 : s_ty r6 = 3 := by first | rfl | assumption) (y2 : s_ty r2 = 3 := by first | rfl | assumption) (n7 : s_nth f4 1 = some v6 := by first | rfl | assumption) (y8 : s_ty r3 = 3 := by first | rfl | assumption) (n13 : s_nth f10 2 = some v12 := by first | rfl | assumption)  : wr P d sw_c108 sw_h108 (90, [r0, vi x1, r2, r3, r4, vi x5, r6, r7, r8], [], h, kc, ks) Q := by
  refine w_ld rfl rfl (Or.inr (Or.inr ⟨by decide, y1⟩)) ?_
  refine w_ld rfl rfl (Or.inr (Or.inr ⟨by decide, y2⟩)) ?_
  subst e_q3
  refine w_getf rfl g5 n7 ?_
  refine w_ld rfl rfl (Or.inr (Or.inr ⟨by decide, y8⟩)) ?_
  subst e_q9
  refine w_getf rfl g11 n13 ?_
  subst e_q14
  exact w_cv rfl [.index q14, v6, v12] [] rfl rfl (s_wt_4 rfl) rfl g16 k

theorem k108_103 {P : s_P} {d : Nat} {Q : s_O → Prop} {h : s_H} {kc ks : Nat} {r0 : Term} {x1 : Int} {r2 r3 r4 : Term} {x5 : Int} {r6 r7 r8 : Term} {q3 : Nat} {f4 : List Term} {v6 : Term} {q9 : Nat} {f10 : List Term} {v12 : Term} {q14 : Nat} {f15 : List Term} (g5 : s_get h q3 = some (1, 8, f4)) (g11 : s_get h q9 = some (1, 8, f10)) (g16 : s_get h q14 = some (1, 4, f15)) (k : wm P d 182 [.index q14, v6, v12] h (wq P d sw_c108 sw_h108 116 [r0, vi x1, .index q3, .index q9, r4, vi x5, r6, .index q14, r8] [] kc ks Q)) (e_q3 : r2 = .index q3 := by first | rfl | assumption) (e_q9 : r3 = .index q9 := by first | rfl | assumption) (e_q14 : r7 = .index q14 := by first | rfl | assumption) (y1 : s_ty r7 = 3 := by first | rfl | assumption) (y2 : s_ty r2 = 3 := by first | rfl | assumption) (n7 : s_nth f4 2 = some v6 := by first | rfl | assumption) (y8 : s_ty r3 = 3 := by first | rfl | assumption) (n13 : s_nth f10 1 = some v12 := by first | rfl | assumption)  : wr P d sw_c108 sw_h108 (103, [r0, vi x1, r2, r3, r4, vi x5, r6, r7, r8], [], h, kc, ks) Q := by
  refine w_ld rfl rfl (Or.inr (Or.inr ⟨by decide, y1⟩)) ?_
  refine w_ld rfl rfl (Or.inr (Or.inr ⟨by decide, y2⟩)) ?_
  subst e_q3
  refine w_getf rfl g5 n7 ?_
  refine w_ld rfl rfl (Or.inr (Or.inr ⟨by decide, y8⟩)) ?_
  subst e_q9
  refine w_getf rfl g11 n13 ?_
  subst e_q14
  exact w_cv rfl [.index q14, v6, v12] [] rfl rfl (s_wt_4 rfl) rfl g16 k

theorem k108_116 {P : s_P} {d : Nat} {Q : s_O → Prop} {h : s_H} {kc ks : Nat} {r0 : Term} {x1 : Int} {r2 r3 r4 : Term} {x5 : Int} {r6 r7 r8 : Term}  (k : wr P d sw_c108 sw_h108 (180, [r0, vi x1, r2, r3, r4, vi x5, r6, r7, r8], [], h, kc, ks) Q)   : wr P d sw_c108 sw_h108 (116, [r0, vi x1, r2, r3, r4, vi x5, r6, r7, r8], [], h, kc, ks) Q := by
  refine w_goto rfl ?_
  exact k

theorem k108_119 {P : s_P} {d : Nat} {Q : s_O → Prop} {h : s_H} {kc ks : Nat} {r0 : Term} {x1 : Int} {r2 r3 r4 : Term} {x5 : Int} {r6 r7 r8 : Term} {q3 : Nat} {f4 : List Term} {v6 : Term} {q9 : Nat} {f10 : List Term} {v12 : Term} {q14 : Nat} {f15 : List Term} (g5 : s_get h q3 = some (1, 8, f4)) (g11 : s_get h q9 = some (1, 8, f10)) (g16 : s_get h q14 = some (1, 4, f15)) (k : wm P d 182 [.index q14, v6, v12] h (wq P d sw_c108 sw_h108 132 [r0, vi x1, .index q3, .index q9, r4, vi x5, .index q14, r7, r8] [] kc ks Q)) (e_q3 : r2 = .index q3 := by first | rfl | assumption) (e_q9 : r3 = .index q9 := by first | rfl | assumption) (e_q14 : r6 = .index q14 := by first | rfl | assumption) (y1 : s_ty r6 = 3 := by first | rfl | assumption) (y2 : s_ty r2 = 3 := by first | rfl | assumption) (n7 : s_nth f4 1 = some v6 := by first | rfl | assumption) (y8 : s_ty r3 = 3 := by first | rfl | assumption) (n13 : s_nth f10 2 = some v12 := by first | rfl | assumption)  : wr P d sw_c108 sw_h108 (119, [r0, vi x1, r2, r3, r4, vi x5, r6, r7, r8], [], h, kc, ks) Q := by
  refine w_ld rfl rfl (Or.inr (Or.inr ⟨by decide, y1⟩)) ?_
  refine w_ld rfl rfl (Or.inr (Or.inr ⟨by decide, y2⟩)) ?_
  subst e_q3
  refine w_getf rfl g5 n7 ?_
  refine w_ld rfl rfl (Or.inr (Or.inr ⟨by decide, y8⟩)) ?_
  subst e_q9
  refine w_getf rfl g11 n13 ?_
  subst e_q14
  exact w_cv rfl [.index q14, v6, v12] [] rfl rfl (s_wt_4 rfl) rfl g16 k

theorem k108_132 {P : s_P} {d : Nat} {Q : s_O → Prop} {h : s_H} {kc ks : Nat} {r0 : Term} {x1 : Int} {r2 r3 r4 : Term} {x5 : Int} {r6 r7 r8 : Term} {q3 : Nat} {f4 : List Term} {v6 : Term} {q9 : Nat} {f10 : List Term} {v12 : Term} {q14 : Nat} {f15 : List Term} (g5 : s_get h q3 = some (1, 8, f4)) (g11 : s_get h q9 = some (1, 8, f10)) (g16 : s_get h q14 = some (1, 4, f15)) (k : wm P d 182 [.index q14, v6, v12] h (wq P d sw_c108 sw_h108 145 [r0, vi x1, .index q9, .index q3, r4, vi x5, r6, r7, .index q14] [] kc ks Q)) (e_q3 : r3 = .index q3 := by first | rfl | assumption) (e_q9 : r2 = .index q9 := by first | rfl | assumption) (e_q14 : r8 = .index q14 := by first | rfl | assumption) (y1 : s_ty r8 = 3 := by first | rfl | assumption) (y2 : s_ty r3 = 3 := by first | rfl | assumption) (n7 : s_nth f4 1 = some v6 := by first | rfl | assumption) (y8 : s_ty r2 = 3 := by first | rfl | assumption) (n13 : s_nth f10 2 = some v12 := by first | rfl | assumption)  : wr P d sw_c108 sw_h108 (132, [r0, vi x1, r2, r3, r4, vi x5, r6, r7, r8], [], h, kc, ks) Q := by
  refine w_ld rfl rfl (Or.inr (Or.inr ⟨by decide, y1⟩)) ?_
  refine w_ld rfl rfl (Or.inr (Or.inr ⟨by decide, y2⟩)) ?_
  subst e_q3
  refine w_getf rfl g5 n7 ?_
  refine w_ld rfl rfl (Or.inr (Or.inr ⟨by decide, y8⟩)) ?_
  subst e_q9
  refine w_getf rfl g11 n13 ?_
  subst e_q14
  exact w_cv rfl [.index q14, v6, v12] [] rfl rfl (s_wt_4 rfl) rfl g16 k

theorem k108_145 {P : s_P} {d : Nat} {Q : s_O → Prop} {h : s_H} {kc ks : Nat} {r0 : Term} {x1 : Int} {r2 r3 r4 : Term} {x5 : Int} {r6 r7 r8 : Term}  (k1 : x1 ≠ 43 → wr P d sw_c108 sw_h108 (161, [r0, vi x1, r2, r3, r4, vi x5, r6, r7, r8], [r8, r6, r6], h, kc, ks) Q) (k2 : ¬ x1 ≠ 43 → wr P d sw_c108 sw_h108 (157, [r0, vi x1, r2, r3, r4, vi x5, r6, r7, r8], [r8, r6, r6], h, kc, ks) Q) (y1 : s_ty r6 = 3 := by first | rfl | assumption) (y2 : s_ty r8 = 3 := by first | rfl | assumption) (c3 : In3 x1 := by first | omega | assumption | (simp only [mk_len, List.length_map]; omega) | decide) : wr P d sw_c108 sw_h108 (145, [r0, vi x1, r2, r3, r4, vi x5, r6, r7, r8], [], h, kc, ks) Q := by
  refine w_ld rfl rfl (Or.inr (Or.inr ⟨by decide, y1⟩)) ?_
  refine w_ld rfl rfl (Or.inr (Or.inr ⟨by decide, y1⟩)) ?_
  refine w_ld rfl rfl (Or.inr (Or.inr ⟨by decide, y2⟩)) ?_
  refine w_ld rfl rfl (Or.inl ⟨by decide, rfl⟩) ?_
  refine w_c32 rfl (by decide) 43 (by decide) ?_
  exact w_if2 rfl c3 (by decide) k1 k2

theorem k108_157 {P : s_P} {d : Nat} {Q : s_O → Prop} {h : s_H} {kc ks : Nat} {r0 : Term} {x1 : Int} {r2 r3 r4 : Term} {x5 : Int} {r6 r7 r8 s0 s1 s2 : Term}  (k : wr P d sw_c108 sw_h108 (164, [r0, vi x1, r2, r3, r4, vi x5, r6, r7, r8], [vi 1, s2, s1, s0], h, kc, ks) Q)   : wr P d sw_c108 sw_h108 (157, [r0, vi x1, r2, r3, r4, vi x5, r6, r7, r8], [s2, s1, s0], h, kc, ks) Q := by
  refine w_c32 rfl (by decide) 1 (by decide) ?_
  refine w_goto rfl ?_
  exact k

theorem k108_161 {P : s_P} {d : Nat} {Q : s_O → Prop} {h : s_H} {kc ks : Nat} {r0 : Term} {x1 : Int} {r2 r3 r4 : Term} {x5 : Int} {r6 r7 r8 s0 s1 s2 : Term}  (k : wr P d sw_c108 sw_h108 (164, [r0, vi x1, r2, r3, r4, vi x5, r6, r7, r8], [vi 32002, s2, s1, s0], h, kc, ks) Q)   : wr P d sw_c108 sw_h108 (161, [r0, vi x1, r2, r3, r4, vi x5, r6, r7, r8], [s2, s1, s0], h, kc, ks) Q := by
  refine w_c32 rfl (by decide) 32002 (by decide) ?_
  exact k

theorem k108_164 {P : s_P} {d : Nat} {Q : s_O → Prop} {h : s_H} {kc ks : Nat} {r0 : Term} {x1 : Int} {r2 r3 r4 : Term} {x5 : Int} {r6 r7 r8 s0 s1 s2 : Term} {s3 : Int} {q1 : Nat} {f2 : List Term} (g3 : s_get h q1 = some (1, 4, f2)) (k : wm P d 184 [.index q1, s1, s2, vi s3] h (wq P d sw_c108 sw_h108 167 [r0, vi x1, r2, r3, r4, vi x5, r6, r7, r8] [] kc ks Q)) (e_q1 : s0 = .index q1 := by first | rfl | assumption)  : wr P d sw_c108 sw_h108 (164, [r0, vi x1, r2, r3, r4, vi x5, r6, r7, r8], [vi s3, s2, s1, s0], h, kc, ks) Q := by
  subst e_q1
  exact w_cv rfl [.index q1, s1, s2, vi s3] [] rfl rfl (s_wt_4 rfl) rfl g3 k

theorem k108_167 {P : s_P} {d : Nat} {Q : s_O → Prop} {h : s_H} {kc ks : Nat} {r0 : Term} {x1 : Int} {r2 r3 r4 : Term} {x5 : Int} {r6 r7 r8 : Term} {q3 : Nat} {f4 : List Term} {v6 : Term} {q9 : Nat} {f10 : List Term} {v12 : Term} {q14 : Nat} {f15 : List Term} (g5 : s_get h q3 = some (1, 8, f4)) (g11 : s_get h q9 = some (1, 8, f10)) (g16 : s_get h q14 = some (1, 4, f15)) (k : wm P d 182 [.index q14, v6, v12] h (wq P d sw_c108 sw_h108 180 [r0, vi x1, .index q3, .index q9, r4, vi x5, r6, .index q14, r8] [] kc ks Q)) (e_q3 : r2 = .index q3 := by first | rfl | assumption) (e_q9 : r3 = .index q9 := by first | rfl | assumption) (e_q14 : r7 = .index q14 := by first | rfl | assumption) (y1 : s_ty r7 = 3 := by first | rfl | assumption) (y2 : s_ty r2 = 3 := by first | rfl | assumption) (n7 : s_nth f4 2 = some v6 := by first | rfl | assumption) (y8 : s_ty r3 = 3 := by first | rfl | assumption) (n13 : s_nth f10 2 = some v12 := by first | rfl | assumption)  : wr P d sw_c108 sw_h108 (167, [r0, vi x1, r2, r3, r4, vi x5, r6, r7, r8], [], h, kc, ks) Q := by
  refine w_ld rfl rfl (Or.inr (Or.inr ⟨by decide, y1⟩)) ?_
  refine w_ld rfl rfl (Or.inr (Or.inr ⟨by decide, y2⟩)) ?_
  subst e_q3
  refine w_getf rfl g5 n7 ?_
  refine w_ld rfl rfl (Or.inr (Or.inr ⟨by decide, y8⟩)) ?_
  subst e_q9
  refine w_getf rfl g11 n13 ?_
  subst e_q14
  exact w_cv rfl [.index q14, v6, v12] [] rfl rfl (s_wt_4 rfl) rfl g16 k

theorem k108_180 {P : s_P} {d : Nat} {Q : s_O → Prop} {h : s_H} {kc ks : Nat} {r0 : Term} {x1 : Int} {r2 r3 r4 : Term} {x5 : Int} {r6 r7 r8 : Term} {q5 : Nat} {f6 : List Term} (g7 : s_get h q5 = some (1, 0, f6)) (k : wm P d 121 [.index q5, r6, r7, r4] h (wq P d sw_c108 sw_h108 190 [.index q5, vi x1, r2, r3, r4, vi x5, r6, r7, r8] [] kc ks Q)) (e_q5 : r0 = .index q5 := by first | rfl | assumption) (y1 : s_ty r0 = 3 := by first | rfl | assumption) (y2 : s_ty r6 = 3 := by first | rfl | assumption) (y3 : s_ty r7 = 3 := by first | rfl | assumption) (y4 : s_ty r4 = 3 := by first | rfl | assumption)  : wr P d sw_c108 sw_h108 (180, [r0, vi x1, r2, r3, r4, vi x5, r6, r7, r8], [], h, kc, ks) Q := by
  refine w_ld rfl rfl (Or.inr (Or.inr ⟨by decide, y1⟩)) ?_
  refine w_ld rfl rfl (Or.inr (Or.inr ⟨by decide, y2⟩)) ?_
  refine w_ld rfl rfl (Or.inr (Or.inr ⟨by decide, y3⟩)) ?_
  refine w_ld rfl rfl (Or.inr (Or.inr ⟨by decide, y4⟩)) ?_
  subst e_q5
  exact w_cv rfl [.index q5, r6, r7, r4] [] rfl rfl (s_wt_4 rfl) rfl g7 k

theorem k108_190 {P : s_P} {d : Nat} {Q : s_O → Prop} {h : s_H} {kc ks : Nat} {r0 : Term} {x1 : Int} {r2 r3 r4 : Term} {x5 : Int} {r6 r7 r8 s0 : Term} {q3 : Nat} {f4 : List Term} (g5 : s_get h q3 = some (1, 0, f4)) (k : wm P d 113 [.index q3, vi x5] h (wq P d sw_c108 sw_h108 197 [.index q3, vi x1, r2, r3, r4, vi x5, r6, r7, r8] [] kc ks Q)) (e_q3 : r0 = .index q3 := by first | rfl | assumption) (y1 : s_ty s0 = 3 := by first | rfl | assumption) (y2 : s_ty r0 = 3 := by first | rfl | assumption)  : wr P d sw_c108 sw_h108 (190, [r0, vi x1, r2, r3, r4, vi x5, r6, r7, r8], [s0], h, kc, ks) Q := by
  refine w_pop rfl (by rw [y1]; rfl) ?_
  refine w_ld rfl rfl (Or.inr (Or.inr ⟨by decide, y2⟩)) ?_
  refine w_ld rfl rfl (Or.inl ⟨by decide, rfl⟩) ?_
  subst e_q3
  exact w_cv rfl [.index q3, vi x5] [] rfl rfl (s_wt_4 rfl) rfl g5 k

theorem k108_197 {P : s_P} {d : Nat} {Q : s_O → Prop} {h : s_H} {kc ks : Nat} {r0 : Term} {x1 : Int} {r2 r3 r4 : Term} {x5 : Int} {r6 r7 r8 : Term}  (k : Q (.inl (some r4), h, kc, ks)) (y1 : s_ty r4 = 3 := by first | rfl | assumption)  : wr P d sw_c108 sw_h108 (197, [r0, vi x1, r2, r3, r4, vi x5, r6, r7, r8], [], h, kc, ks) Q := by
  refine w_ld rfl rfl (Or.inr (Or.inr ⟨by decide, y1⟩)) ?_
  exact w_aret rfl y1 k

/-! 109: FormulaWorks$Algebra.lend()LFormulaWorks$Poly; -/
theorem k109_0 {P : s_P} {d : Nat} {Q : s_O → Prop} {h : s_H} {kc ks : Nat} {r0 t1 : Term} {q2 : Nat} {f3 : List Term} {z5 : Int} (g4 : s_get h q2 = some (1, 0, f3)) (k1 : 16 ≤ z5 → wr P d sw_c109 sw_h109 (19, [.index q2, t1], [], h, kc, ks) Q) (k2 : ¬ 16 ≤ z5 → wr P d sw_c109 sw_h109 (9, [.index q2, t1], [], h, kc, ks) Q) (e_q2 : r0 = .index q2 := by first | rfl | assumption) (y1 : s_ty r0 = 3 := by first | rfl | assumption) (n6 : s_nth f3 1 = some (vi z5) := by first | rfl | assumption) (c7 : In3 z5 := by first | omega | assumption | (simp only [mk_len, List.length_map]; omega) | decide) : wr P d sw_c109 sw_h109 (0, [r0, t1], [], h, kc, ks) Q := by
  refine w_ld rfl rfl (Or.inr (Or.inr ⟨by decide, y1⟩)) ?_
  subst e_q2
  refine w_getf rfl g4 n6 ?_
  refine w_c32 rfl (by decide) 16 (by decide) ?_
  exact w_if2 rfl c7 (by decide) k1 k2

theorem k109_9 {P : s_P} {d : Nat} {Q : s_O → Prop} {h : s_H} {kc ks : Nat} {r0 t1 : Term} {q2 : Nat} {f3 : List Term} {z5 : Int} (g4 : s_get h q2 = some (1, 0, f3)) (k : wr P d sw_c109 sw_h109 (19, [.index q2, t1], [], (hp h q2 (1, 0, f3.set 1 (vi (z5 + 1)))), kc, ks) Q) (e_q2 : r0 = .index q2 := by first | rfl | assumption) (y1 : s_ty r0 = 3 := by first | rfl | assumption) (n6 : s_nth f3 1 = some (vi z5) := by first | rfl | assumption) (l7 : 1 < f3.length := by first | exact Nat.le_of_ble_eq_true rfl | omega | assumption) (c8 : 0 < q2 := by first | omega | assumption | (simp only [mk_len, List.length_map]; omega) | decide) : wr P d sw_c109 sw_h109 (9, [r0, t1], [], h, kc, ks) Q := by
  refine w_ld rfl rfl (Or.inr (Or.inr ⟨by decide, y1⟩)) ?_
  refine w_dup rfl (by rw [y1]; rfl) ?_
  subst e_q2
  refine w_getf rfl g4 n6 ?_
  refine w_c32 rfl (by decide) 1 (by decide) ?_
  refine w_iadd rfl ?_
  refine w_putf rfl g4 (Nat.ble_eq_true_of_le c8) rfl (Nat.ble_eq_true_of_le l7) ?_
  exact k

theorem k109_19 {P : s_P} {d : Nat} {Q : s_O → Prop} {h : s_H} {kc ks : Nat} {r0 t1 : Term} {q2 : Nat} {f3 : List Term} {v5 : Term} {z7 : Int} {q9 : Nat} {a10 : List Term} {tg12 : Nat} {v13 : Term} {q19 : Nat} {f20 : List Term} (g4 : s_get h q2 = some (1, 0, f3)) (g11 : s_get h q9 = some (0, tg12, a10)) (g21 : s_get h q19 = some (1, 4, f20)) (k : Q (.inl (some (.index q19)), (hp h q19 (1, 4, f20.set 1 (vi (-1)))), kc, ks)) (e_q2 : r0 = .index q2 := by first | rfl | assumption) (e_q9 : v5 = .index q9 := by first | rfl | assumption) (e_q19 : v13 = .index q19 := by first | rfl | assumption) (y1 : s_ty r0 = 3 := by first | rfl | assumption) (n6 : s_nth f3 0 = some v5 := by first | rfl | assumption) (n8 : s_nth f3 1 = some (vi z7) := by first | rfl | assumption) (n14 : s_nth a10 (Int.toNat (z7 - 1)) = some v13 := by first | rfl | assumption) (u15 : tg12 = 2 ∨ tg12 = 3 ∨ tg12 = 4 := by first | decide | assumption) (y18 : s_ty v13 = 3 := by first | rfl | assumption) (l22 : 1 < f20.length := by first | exact Nat.le_of_ble_eq_true rfl | omega | assumption) (c16 : In3 (z7 - 1) := by first | omega | assumption | (simp only [mk_len, List.length_map]; omega) | decide) (c17 : 0 ≤ z7 - 1 := by first | omega | assumption | (simp only [mk_len, List.length_map]; omega) | decide) (c23 : 0 < q19 := by first | omega | assumption | (simp only [mk_len, List.length_map]; omega) | decide) : wr P d sw_c109 sw_h109 (19, [r0, t1], [], h, kc, ks) Q := by
  refine w_ld rfl rfl (Or.inr (Or.inr ⟨by decide, y1⟩)) ?_
  subst e_q2
  refine w_getf rfl g4 n6 ?_
  refine w_ld rfl rfl (Or.inr (Or.inr ⟨by decide, rfl⟩)) ?_
  refine w_getf rfl g4 n8 ?_
  refine w_c32 rfl (by decide) 1 (by decide) ?_
  refine w_isub rfl ?_
  subst e_q9
  refine w_aald rfl g11 u15 c16 c17 n14 ?_
  refine w_st (ls' := [.index q2, v13]) rfl (Or.inr ⟨by decide, y18⟩) rfl ?_
  refine w_ld rfl rfl (Or.inr (Or.inr ⟨by decide, y18⟩)) ?_
  refine w_c32 rfl (by decide) (-1) (by decide) ?_
  subst e_q19
  refine w_putf rfl g21 (Nat.ble_eq_true_of_le c23) rfl (Nat.ble_eq_true_of_le l22) ?_
  refine w_ld rfl rfl (Or.inr (Or.inr ⟨by decide, rfl⟩)) ?_
  exact w_aret rfl rfl k

/-! 110: FormulaWorks$Algebra.mark()I -/
theorem k110_0 {P : s_P} {d : Nat} {Q : s_O → Prop} {h : s_H} {kc ks : Nat} {r0 : Term} {q2 : Nat} {f3 : List Term} {z5 : Int} (g4 : s_get h q2 = some (1, 0, f3)) (k : Q (.inl (some (vi z5)), h, kc, ks)) (e_q2 : r0 = .index q2 := by first | rfl | assumption) (y1 : s_ty r0 = 3 := by first | rfl | assumption) (n6 : s_nth f3 1 = some (vi z5) := by first | rfl | assumption)  : wr P d sw_c110 sw_h110 (0, [r0], [], h, kc, ks) Q := by
  refine w_ld rfl rfl (Or.inr (Or.inr ⟨by decide, y1⟩)) ?_
  subst e_q2
  refine w_getf rfl g4 n6 ?_
  exact w_iret rfl k

/-! 111: FormulaWorks$Algebra.multiply(LFormulaWorks$Poly;LFormulaWorks$Poly;)V -/
theorem k111_0 {P : s_P} {d : Nat} {Q : s_O → Prop} {h : s_H} {kc ks : Nat} {r0 r1 r2 t3 t4 : Term} {q2 : Nat} {f3 : List Term} {z5 : Int} (g4 : s_get h q2 = some (1, 0, f3)) (k : wm P d 109 [.index q2] h (wq P d sw_c111 sw_h111 9 [.index q2, r1, r2, vi z5, t4] [] kc ks Q)) (e_q2 : r0 = .index q2 := by first | rfl | assumption) (y1 : s_ty r0 = 3 := by first | rfl | assumption) (n6 : s_nth f3 1 = some (vi z5) := by first | rfl | assumption) (y7 : s_ty r2 = 3 := by first | rfl | assumption)  : wr P d sw_c111 sw_h111 (0, [r0, r1, r2, t3, t4], [], h, kc, ks) Q := by
  refine w_ld rfl rfl (Or.inr (Or.inr ⟨by decide, y1⟩)) ?_
  subst e_q2
  refine w_getf rfl g4 n6 ?_
  refine w_st (ls' := [.index q2, r1, r2, vi z5, t4]) rfl (Or.inl ⟨by decide, rfl⟩) (s_stK_r (pre := [.index q2, r1]) y7) ?_
  refine w_ld rfl rfl (Or.inr (Or.inr ⟨by decide, rfl⟩)) ?_
  exact w_cv rfl [.index q2] [] rfl rfl (s_wt_4 rfl) rfl g4 k

theorem k111_9 {P : s_P} {d : Nat} {Q : s_O → Prop} {h : s_H} {kc ks : Nat} {r0 r1 r2 : Term} {x3 : Int} {t4 s0 : Term} {q4 : Nat} {f5 : List Term} (g6 : s_get h q4 = some (1, 4, f5)) (k : wm P d 182 [.index q4, r1, r2] h (wq P d sw_c111 sw_h111 18 [r0, r1, r2, vi x3, .index q4] [] kc ks Q)) (e_q4 : s0 = .index q4 := by first | rfl | assumption) (y1 : s_ty s0 = 3 := by first | rfl | assumption) (y2 : s_ty r1 = 3 := by first | rfl | assumption) (y3 : s_ty r2 = 3 := by first | rfl | assumption)  : wr P d sw_c111 sw_h111 (9, [r0, r1, r2, vi x3, t4], [s0], h, kc, ks) Q := by
  refine w_st (ls' := [r0, r1, r2, vi x3, s0]) rfl (Or.inr ⟨by decide, y1⟩) rfl ?_
  refine w_ld rfl rfl (Or.inr (Or.inr ⟨by decide, y1⟩)) ?_
  refine w_ld rfl rfl (Or.inr (Or.inr ⟨by decide, y2⟩)) ?_
  refine w_ld rfl rfl (Or.inr (Or.inr ⟨by decide, y3⟩)) ?_
  subst e_q4
  exact w_cv rfl [.index q4, r1, r2] [] rfl rfl (s_wt_4 rfl) rfl g6 k

theorem k111_18 {P : s_P} {d : Nat} {Q : s_O → Prop} {h : s_H} {kc ks : Nat} {r0 r1 r2 : Term} {x3 : Int} {r4 : Term} {q3 : Nat} {f4 : List Term} (g5 : s_get h q3 = some (1, 4, f4)) (k : wm P d 179 [.index q3, r4] h (wq P d sw_c111 sw_h111 24 [r0, .index q3, r2, vi x3, r4] [] kc ks Q)) (e_q3 : r1 = .index q3 := by first | rfl | assumption) (y1 : s_ty r1 = 3 := by first | rfl | assumption) (y2 : s_ty r4 = 3 := by first | rfl | assumption)  : wr P d sw_c111 sw_h111 (18, [r0, r1, r2, vi x3, r4], [], h, kc, ks) Q := by
  refine w_ld rfl rfl (Or.inr (Or.inr ⟨by decide, y1⟩)) ?_
  refine w_ld rfl rfl (Or.inr (Or.inr ⟨by decide, y2⟩)) ?_
  subst e_q3
  exact w_cv rfl [.index q3, r4] [] rfl rfl (s_wt_4 rfl) rfl g5 k

theorem k111_24 {P : s_P} {d : Nat} {Q : s_O → Prop} {h : s_H} {kc ks : Nat} {r0 r1 r2 : Term} {x3 : Int} {r4 : Term} {q2 : Nat} {f3 : List Term} (g4 : s_get h q2 = some (1, 0, f3)) (k : wm P d 113 [.index q2, vi x3] h (wq P d sw_c111 sw_h111 29 [.index q2, r1, r2, vi x3, r4] [] kc ks Q)) (e_q2 : r0 = .index q2 := by first | rfl | assumption) (y1 : s_ty r0 = 3 := by first | rfl | assumption)  : wr P d sw_c111 sw_h111 (24, [r0, r1, r2, vi x3, r4], [], h, kc, ks) Q := by
  refine w_ld rfl rfl (Or.inr (Or.inr ⟨by decide, y1⟩)) ?_
  refine w_ld rfl rfl (Or.inl ⟨by decide, rfl⟩) ?_
  subst e_q2
  exact w_cv rfl [.index q2, vi x3] [] rfl rfl (s_wt_4 rfl) rfl g4 k

theorem k111_29 {P : s_P} {d : Nat} {Q : s_O → Prop} {h : s_H} {kc ks : Nat} {r0 r1 r2 : Term} {x3 : Int} {r4 : Term}  (k : Q (.inl none, h, kc, ks))   : wr P d sw_c111 sw_h111 (29, [r0, r1, r2, vi x3, r4], [], h, kc, ks) Q := by
  exact w_ret rfl k

/-! 112: FormulaWorks$Algebra.raise(LFormulaWorks$Thing;ILFormulaWorks$Thing;)LFormulaWorks$Thing; -/
theorem k112_0 {P : s_P} {d : Nat} {Q : s_O → Prop} {h : s_H} {kc ks : Nat} {r0 r1 : Term} {x2 : Int} {r3 t4 t5 t6 t7 : Term}  (k : wm P d 106 [r1] h (wq P d sw_c112 sw_h112 4 [r0, r1, vi x2, r3, t4, t5, t6, t7] [] kc ks Q)) (y1 : s_ty r1 = 3 := by first | rfl | assumption)  : wr P d sw_c112 sw_h112 (0, [r0, r1, vi x2, r3, t4, t5, t6, t7], [], h, kc, ks) Q := by
  refine w_ld rfl rfl (Or.inr (Or.inr ⟨by decide, y1⟩)) ?_
  exact w_cs rfl [r1] [] rfl rfl (s_wt_4 rfl) k

theorem k112_4 {P : s_P} {d : Nat} {Q : s_O → Prop} {h : s_H} {kc ks : Nat} {r0 r1 : Term} {x2 : Int} {r3 t4 t5 t6 t7 : Term} {s0 : Int}  (k1 : s0 * x2 ≤ 40 → wr P d sw_c112 sw_h112 (18, [r0, r1, vi x2, r3, t4, t5, t6, t7], [], h, kc, ks) Q) (k2 : ¬ s0 * x2 ≤ 40 → wr P d sw_c112 sw_h112 (11, [r0, r1, vi x2, r3, t4, t5, t6, t7], [], h, kc, ks) Q)  (c1 : In3 (s0 * x2) := by first | omega | assumption | (simp only [mk_len, List.length_map]; omega) | decide) : wr P d sw_c112 sw_h112 (4, [r0, r1, vi x2, r3, t4, t5, t6, t7], [vi s0], h, kc, ks) Q := by
  refine w_ld rfl rfl (Or.inl ⟨by decide, rfl⟩) ?_
  refine w_imul rfl ?_
  refine w_c32 rfl (by decide) 40 (by decide) ?_
  exact w_if2 rfl c1 (by decide) k1 k2

theorem k112_11 {P : s_P} {d : Nat} {Q : s_O → Prop} {h : s_H} {kc ks : Nat} {r0 r1 : Term} {x2 : Int} {r3 t4 t5 t6 t7 : Term} {q2 : Nat} {f3 : List Term} (g4 : s_get h q2 = some (1, 8, f3)) (k : Q (.inl (some (.index q2)), (hp h q2 (1, 8, f3.set 7 (vi 5))), kc, ks)) (e_q2 : r3 = .index q2 := by first | rfl | assumption) (y1 : s_ty r3 = 3 := by first | rfl | assumption) (l5 : 7 < f3.length := by first | exact Nat.le_of_ble_eq_true rfl | omega | assumption) (c6 : 0 < q2 := by first | omega | assumption | (simp only [mk_len, List.length_map]; omega) | decide) : wr P d sw_c112 sw_h112 (11, [r0, r1, vi x2, r3, t4, t5, t6, t7], [], h, kc, ks) Q := by
  refine w_ld rfl rfl (Or.inr (Or.inr ⟨by decide, y1⟩)) ?_
  refine w_c32 rfl (by decide) 5 (by decide) ?_
  subst e_q2
  refine w_putf rfl g4 (Nat.ble_eq_true_of_le c6) rfl (Nat.ble_eq_true_of_le l5) ?_
  refine w_ld rfl rfl (Or.inr (Or.inr ⟨by decide, rfl⟩)) ?_
  exact w_aret rfl rfl k

theorem k112_18 {P : s_P} {d : Nat} {Q : s_O → Prop} {h : s_H} {kc ks : Nat} {r0 r1 : Term} {x2 : Int} {r3 t4 t5 t6 t7 : Term} {q2 : Nat} {f3 : List Term} {z5 : Int} (g4 : s_get h q2 = some (1, 0, f3)) (k : wm P d 109 [.index q2] h (wq P d sw_c112 sw_h112 28 [.index q2, r1, vi x2, r3, vi z5, t5, t6, t7] [] kc ks Q)) (e_q2 : r0 = .index q2 := by first | rfl | assumption) (y1 : s_ty r0 = 3 := by first | rfl | assumption) (n6 : s_nth f3 1 = some (vi z5) := by first | rfl | assumption) (y7 : s_ty r3 = 3 := by first | rfl | assumption)  : wr P d sw_c112 sw_h112 (18, [r0, r1, vi x2, r3, t4, t5, t6, t7], [], h, kc, ks) Q := by
  refine w_ld rfl rfl (Or.inr (Or.inr ⟨by decide, y1⟩)) ?_
  subst e_q2
  refine w_getf rfl g4 n6 ?_
  refine w_st (ls' := [.index q2, r1, vi x2, r3, vi z5, t5, t6, t7]) rfl (Or.inl ⟨by decide, rfl⟩) (s_stK_r (pre := [.index q2, r1, vi x2]) y7) ?_
  refine w_ld rfl rfl (Or.inr (Or.inr ⟨by decide, rfl⟩)) ?_
  exact w_cv rfl [.index q2] [] rfl rfl (s_wt_4 rfl) rfl g4 k

theorem k112_28 {P : s_P} {d : Nat} {Q : s_O → Prop} {h : s_H} {kc ks : Nat} {r0 r1 : Term} {x2 : Int} {r3 : Term} {x4 : Int} {t5 t6 t7 s0 : Term} {q3 : Nat} {f4 : List Term} (g5 : s_get h q3 = some (1, 0, f4)) (k : wm P d 109 [.index q3] h (wq P d sw_c112 sw_h112 34 [.index q3, r1, vi x2, r3, vi x4, s0, t6, t7] [] kc ks Q)) (e_q3 : r0 = .index q3 := by first | rfl | assumption) (y1 : s_ty s0 = 3 := by first | rfl | assumption) (y2 : s_ty r0 = 3 := by first | rfl | assumption)  : wr P d sw_c112 sw_h112 (28, [r0, r1, vi x2, r3, vi x4, t5, t6, t7], [s0], h, kc, ks) Q := by
  refine w_st (ls' := [r0, r1, vi x2, r3, vi x4, s0, t6, t7]) rfl (Or.inr ⟨by decide, y1⟩) rfl ?_
  refine w_ld rfl rfl (Or.inr (Or.inr ⟨by decide, y2⟩)) ?_
  subst e_q3
  exact w_cv rfl [.index q3] [] rfl rfl (s_wt_4 rfl) rfl g5 k

theorem k112_34 {P : s_P} {d : Nat} {Q : s_O → Prop} {h : s_H} {kc ks : Nat} {r0 r1 : Term} {x2 : Int} {r3 : Term} {x4 : Int} {r5 t6 t7 s0 : Term} {q3 : Nat} {f4 : List Term} (g5 : s_get h q3 = some (1, 4, f4)) (k : wm P d 180 [.index q3, vi 1] h (wq P d sw_c112 sw_h112 42 [r0, r1, vi x2, r3, vi x4, .index q3, s0, t7] [] kc ks Q)) (e_q3 : r5 = .index q3 := by first | rfl | assumption) (y1 : s_ty r5 = 3 := by first | rfl | assumption) (y2 : s_ty s0 = 3 := by first | rfl | assumption)  : wr P d sw_c112 sw_h112 (34, [r0, r1, vi x2, r3, vi x4, r5, t6, t7], [s0], h, kc, ks) Q := by
  refine w_st (ls' := [r0, r1, vi x2, r3, vi x4, r5, s0, t7]) rfl (Or.inr ⟨by decide, y2⟩) (s_stK_r (pre := [r0, r1, vi x2, r3, vi x4]) y1) ?_
  refine w_ld rfl rfl (Or.inr (Or.inr ⟨by decide, y1⟩)) ?_
  refine w_c32 rfl (by decide) 1 (by decide) ?_
  subst e_q3
  exact w_cv rfl [.index q3, vi 1] [] rfl rfl (s_wt_4 rfl) rfl g5 k

theorem k112_42 {P : s_P} {d : Nat} {Q : s_O → Prop} {h : s_H} {kc ks : Nat} {r0 r1 : Term} {x2 : Int} {r3 : Term} {x4 : Int} {r5 r6 t7 : Term} {q2 : Nat} {f3 : List Term} (g4 : s_get h q2 = some (1, 4, f3)) (k : wm P d 180 [.index q2, vi 1] h (wq P d sw_c112 sw_h112 48 [r0, r1, vi x2, r3, vi x4, r5, .index q2, t7] [] kc ks Q)) (e_q2 : r6 = .index q2 := by first | rfl | assumption) (y1 : s_ty r6 = 3 := by first | rfl | assumption)  : wr P d sw_c112 sw_h112 (42, [r0, r1, vi x2, r3, vi x4, r5, r6, t7], [], h, kc, ks) Q := by
  refine w_ld rfl rfl (Or.inr (Or.inr ⟨by decide, y1⟩)) ?_
  refine w_c32 rfl (by decide) 1 (by decide) ?_
  subst e_q2
  exact w_cv rfl [.index q2, vi 1] [] rfl rfl (s_wt_4 rfl) rfl g4 k

theorem k112_48 {P : s_P} {d : Nat} {Q : s_O → Prop} {h : s_H} {kc ks : Nat} {r0 r1 : Term} {x2 : Int} {r3 : Term} {x4 : Int} {r5 r6 t7 : Term}  (k : wr P d sw_c112 sw_h112 (51, [r0, r1, vi x2, r3, vi x4, r5, r6, vi 0], [], h, kc, ks) Q) (y1 : s_ty r6 = 3 := by first | rfl | assumption)  : wr P d sw_c112 sw_h112 (48, [r0, r1, vi x2, r3, vi x4, r5, r6, t7], [], h, kc, ks) Q := by
  refine w_c32 rfl (by decide) 0 (by decide) ?_
  refine w_st (ls' := [r0, r1, vi x2, r3, vi x4, r5, r6, vi 0]) rfl (Or.inl ⟨by decide, rfl⟩) (s_stK_r (pre := [r0, r1, vi x2, r3, vi x4, r5]) y1) ?_
  exact k

theorem k112_51 {P : s_P} {d : Nat} {Q : s_O → Prop} {h : s_H} {kc ks : Nat} {r0 r1 : Term} {x2 : Int} {r3 : Term} {x4 : Int} {r5 r6 : Term} {x7 : Int}  (k1 : x2 ≤ x7 → wr P d sw_c112 sw_h112 (83, [r0, r1, vi x2, r3, vi x4, r5, r6, vi x7], [], h, kc, ks) Q) (k2 : ¬ x2 ≤ x7 → wr P d sw_c112 sw_h112 (57, [r0, r1, vi x2, r3, vi x4, r5, r6, vi x7], [], h, kc, ks) Q)  (c1 : In3 x7 := by first | omega | assumption | (simp only [mk_len, List.length_map]; omega) | decide) (c2 : In3 x2 := by first | omega | assumption | (simp only [mk_len, List.length_map]; omega) | decide) : wr P d sw_c112 sw_h112 (51, [r0, r1, vi x2, r3, vi x4, r5, r6, vi x7], [], h, kc, ks) Q := by
  refine w_ld rfl rfl (Or.inl ⟨by decide, rfl⟩) ?_
  refine w_ld rfl rfl (Or.inl ⟨by decide, rfl⟩) ?_
  exact w_if2 rfl c1 c2 k1 k2

theorem k112_57 {P : s_P} {d : Nat} {Q : s_O → Prop} {h : s_H} {kc ks : Nat} {r0 r1 : Term} {x2 : Int} {r3 : Term} {x4 : Int} {r5 r6 : Term} {x7 : Int} {q4 : Nat} {f5 : List Term} {v7 : Term} {q9 : Nat} {f10 : List Term} (g6 : s_get h q4 = some (1, 8, f5)) (g11 : s_get h q9 = some (1, 0, f10)) (k : wm P d 111 [.index q9, r5, v7] h (wq P d sw_c112 sw_h112 67 [.index q9, .index q4, vi x2, r3, vi x4, r5, r6, vi x7] [] kc ks Q)) (e_q4 : r1 = .index q4 := by first | rfl | assumption) (e_q9 : r0 = .index q9 := by first | rfl | assumption) (y1 : s_ty r0 = 3 := by first | rfl | assumption) (y2 : s_ty r5 = 3 := by first | rfl | assumption) (y3 : s_ty r1 = 3 := by first | rfl | assumption) (n8 : s_nth f5 1 = some v7 := by first | rfl | assumption)  : wr P d sw_c112 sw_h112 (57, [r0, r1, vi x2, r3, vi x4, r5, r6, vi x7], [], h, kc, ks) Q := by
  refine w_ld rfl rfl (Or.inr (Or.inr ⟨by decide, y1⟩)) ?_
  refine w_ld rfl rfl (Or.inr (Or.inr ⟨by decide, y2⟩)) ?_
  refine w_ld rfl rfl (Or.inr (Or.inr ⟨by decide, y3⟩)) ?_
  subst e_q4
  refine w_getf rfl g6 n8 ?_
  subst e_q9
  exact w_cv rfl [.index q9, r5, v7] [] rfl rfl (s_wt_4 rfl) rfl g11 k

theorem k112_67 {P : s_P} {d : Nat} {Q : s_O → Prop} {h : s_H} {kc ks : Nat} {r0 r1 : Term} {x2 : Int} {r3 : Term} {x4 : Int} {r5 r6 : Term} {x7 : Int} {q4 : Nat} {f5 : List Term} {v7 : Term} {q9 : Nat} {f10 : List Term} (g6 : s_get h q4 = some (1, 8, f5)) (g11 : s_get h q9 = some (1, 0, f10)) (k : wm P d 111 [.index q9, r6, v7] h (wq P d sw_c112 sw_h112 77 [.index q9, .index q4, vi x2, r3, vi x4, r5, r6, vi x7] [] kc ks Q)) (e_q4 : r1 = .index q4 := by first | rfl | assumption) (e_q9 : r0 = .index q9 := by first | rfl | assumption) (y1 : s_ty r0 = 3 := by first | rfl | assumption) (y2 : s_ty r6 = 3 := by first | rfl | assumption) (y3 : s_ty r1 = 3 := by first | rfl | assumption) (n8 : s_nth f5 2 = some v7 := by first | rfl | assumption)  : wr P d sw_c112 sw_h112 (67, [r0, r1, vi x2, r3, vi x4, r5, r6, vi x7], [], h, kc, ks) Q := by
  refine w_ld rfl rfl (Or.inr (Or.inr ⟨by decide, y1⟩)) ?_
  refine w_ld rfl rfl (Or.inr (Or.inr ⟨by decide, y2⟩)) ?_
  refine w_ld rfl rfl (Or.inr (Or.inr ⟨by decide, y3⟩)) ?_
  subst e_q4
  refine w_getf rfl g6 n8 ?_
  subst e_q9
  exact w_cv rfl [.index q9, r6, v7] [] rfl rfl (s_wt_4 rfl) rfl g11 k

theorem k112_77 {P : s_P} {d : Nat} {Q : s_O → Prop} {h : s_H} {kc ks : Nat} {r0 r1 : Term} {x2 : Int} {r3 : Term} {x4 : Int} {r5 r6 : Term} {x7 : Int}  (k : wr P d sw_c112 sw_h112 (51, [r0, r1, vi x2, r3, vi x4, r5, r6, vi (x7 + 1)], [], h, kc, ks) Q) (y1 : s_ty r6 = 3 := by first | rfl | assumption)  : wr P d sw_c112 sw_h112 (77, [r0, r1, vi x2, r3, vi x4, r5, r6, vi x7], [], h, kc, ks) Q := by
  refine w_iinc (ls' := [r0, r1, vi x2, r3, vi x4, r5, r6, vi (x7 + 1)]) rfl rfl 1 (by decide) (s_stK_r (pre := [r0, r1, vi x2, r3, vi x4, r5]) y1) ?_
  refine w_goto rfl ?_
  exact k

theorem k112_83 {P : s_P} {d : Nat} {Q : s_O → Prop} {h : s_H} {kc ks : Nat} {r0 r1 : Term} {x2 : Int} {r3 : Term} {x4 : Int} {r5 r6 : Term} {x7 : Int} {q4 : Nat} {f5 : List Term} (g6 : s_get h q4 = some (1, 8, f5)) (k : wm P d 272 [.index q4, r5, r6] h (wq P d sw_c112 sw_h112 91 [r0, r1, vi x2, .index q4, vi x4, r5, r6, vi x7] [] kc ks Q)) (e_q4 : r3 = .index q4 := by first | rfl | assumption) (y1 : s_ty r3 = 3 := by first | rfl | assumption) (y2 : s_ty r5 = 3 := by first | rfl | assumption) (y3 : s_ty r6 = 3 := by first | rfl | assumption)  : wr P d sw_c112 sw_h112 (83, [r0, r1, vi x2, r3, vi x4, r5, r6, vi x7], [], h, kc, ks) Q := by
  refine w_ld rfl rfl (Or.inr (Or.inr ⟨by decide, y1⟩)) ?_
  refine w_ld rfl rfl (Or.inr (Or.inr ⟨by decide, y2⟩)) ?_
  refine w_ld rfl rfl (Or.inr (Or.inr ⟨by decide, y3⟩)) ?_
  subst e_q4
  exact w_cv rfl [.index q4, r5, r6] [] rfl rfl (s_wt_4 rfl) rfl g6 k

theorem k112_91 {P : s_P} {d : Nat} {Q : s_O → Prop} {h : s_H} {kc ks : Nat} {r0 r1 : Term} {x2 : Int} {r3 : Term} {x4 : Int} {r5 r6 : Term} {x7 : Int} {q2 : Nat} {f3 : List Term} (g4 : s_get h q2 = some (1, 0, f3)) (k : wm P d 113 [.index q2, vi x4] h (wq P d sw_c112 sw_h112 97 [.index q2, r1, vi x2, r3, vi x4, r5, r6, vi x7] [] kc ks Q)) (e_q2 : r0 = .index q2 := by first | rfl | assumption) (y1 : s_ty r0 = 3 := by first | rfl | assumption)  : wr P d sw_c112 sw_h112 (91, [r0, r1, vi x2, r3, vi x4, r5, r6, vi x7], [], h, kc, ks) Q := by
  refine w_ld rfl rfl (Or.inr (Or.inr ⟨by decide, y1⟩)) ?_
  refine w_ld rfl rfl (Or.inl ⟨by decide, rfl⟩) ?_
  subst e_q2
  exact w_cv rfl [.index q2, vi x4] [] rfl rfl (s_wt_4 rfl) rfl g4 k

theorem k112_97 {P : s_P} {d : Nat} {Q : s_O → Prop} {h : s_H} {kc ks : Nat} {r0 r1 : Term} {x2 : Int} {r3 : Term} {x4 : Int} {r5 r6 : Term} {x7 : Int}  (k : Q (.inl (some r3), h, kc, ks)) (y1 : s_ty r3 = 3 := by first | rfl | assumption)  : wr P d sw_c112 sw_h112 (97, [r0, r1, vi x2, r3, vi x4, r5, r6, vi x7], [], h, kc, ks) Q := by
  refine w_ld rfl rfl (Or.inr (Or.inr ⟨by decide, y1⟩)) ?_
  exact w_aret rfl y1 k

/-! 113: FormulaWorks$Algebra.release(I)V -/
theorem k113_0 {P : s_P} {d : Nat} {Q : s_O → Prop} {h : s_H} {kc ks : Nat} {r0 : Term} {x1 : Int}  (k1 : x1 < 0 → wr P d sw_c113 sw_h113 (11, [r0, vi x1], [r0], h, kc, ks) Q) (k2 : ¬ x1 < 0 → wr P d sw_c113 sw_h113 (5, [r0, vi x1], [r0], h, kc, ks) Q) (y1 : s_ty r0 = 3 := by first | rfl | assumption) (c2 : In3 x1 := by first | omega | assumption | (simp only [mk_len, List.length_map]; omega) | decide) : wr P d sw_c113 sw_h113 (0, [r0, vi x1], [], h, kc, ks) Q := by
  refine w_ld rfl rfl (Or.inr (Or.inr ⟨by decide, y1⟩)) ?_
  refine w_ld rfl rfl (Or.inl ⟨by decide, rfl⟩) ?_
  exact w_if1 rfl c2 k1 k2

theorem k113_5 {P : s_P} {d : Nat} {Q : s_O → Prop} {h : s_H} {kc ks : Nat} {r0 : Term} {x1 : Int} {s0 : Term}  (k1 : x1 ≤ 16 → wr P d sw_c113 sw_h113 (15, [r0, vi x1], [s0], h, kc, ks) Q) (k2 : ¬ x1 ≤ 16 → wr P d sw_c113 sw_h113 (11, [r0, vi x1], [s0], h, kc, ks) Q)  (c1 : In3 x1 := by first | omega | assumption | (simp only [mk_len, List.length_map]; omega) | decide) : wr P d sw_c113 sw_h113 (5, [r0, vi x1], [s0], h, kc, ks) Q := by
  refine w_ld rfl rfl (Or.inl ⟨by decide, rfl⟩) ?_
  refine w_c32 rfl (by decide) 16 (by decide) ?_
  exact w_if2 rfl c1 (by decide) k1 k2

theorem k113_11 {P : s_P} {d : Nat} {Q : s_O → Prop} {h : s_H} {kc ks : Nat} {r0 : Term} {x1 : Int} {s0 : Term}  (k : wr P d sw_c113 sw_h113 (16, [r0, vi x1], [vi 0, s0], h, kc, ks) Q)   : wr P d sw_c113 sw_h113 (11, [r0, vi x1], [s0], h, kc, ks) Q := by
  refine w_c32 rfl (by decide) 0 (by decide) ?_
  refine w_goto rfl ?_
  exact k

theorem k113_15 {P : s_P} {d : Nat} {Q : s_O → Prop} {h : s_H} {kc ks : Nat} {r0 : Term} {x1 : Int} {s0 : Term}  (k : wr P d sw_c113 sw_h113 (16, [r0, vi x1], [vi x1, s0], h, kc, ks) Q)   : wr P d sw_c113 sw_h113 (15, [r0, vi x1], [s0], h, kc, ks) Q := by
  refine w_ld rfl rfl (Or.inl ⟨by decide, rfl⟩) ?_
  exact k

theorem k113_16 {P : s_P} {d : Nat} {Q : s_O → Prop} {h : s_H} {kc ks : Nat} {r0 : Term} {x1 : Int} {s0 : Term} {s1 : Int} {q1 : Nat} {f2 : List Term} (g3 : s_get h q1 = some (1, 0, f2)) (k : Q (.inl none, (hp h q1 (1, 0, f2.set 1 (vi s1))), kc, ks)) (e_q1 : s0 = .index q1 := by first | rfl | assumption) (l4 : 1 < f2.length := by first | exact Nat.le_of_ble_eq_true rfl | omega | assumption) (c5 : 0 < q1 := by first | omega | assumption | (simp only [mk_len, List.length_map]; omega) | decide) : wr P d sw_c113 sw_h113 (16, [r0, vi x1], [vi s1, s0], h, kc, ks) Q := by
  subst e_q1
  refine w_putf rfl g3 (Nat.ble_eq_true_of_le c5) rfl (Nat.ble_eq_true_of_le l4) ?_
  exact w_ret rfl k

/-! 114: FormulaWorks$Algebra.resultantOf(LFormulaWorks$Poly;LFormulaWorks$Poly;)I -/
theorem k114_0 {P : s_P} {d : Nat} {Q : s_O → Prop} {h : s_H} {kc ks : Nat} {r0 r1 r2 t3 t4 t5 t6 t7 t8 t9 : Term} {q2 : Nat} {f3 : List Term} {z5 : Int} (g4 : s_get h q2 = some (1, 0, f3)) (k : wm P d 109 [.index q2] h (wq P d sw_c114 sw_h114 9 [.index q2, r1, r2, vi z5, t4, t5, t6, t7, t8, t9] [] kc ks Q)) (e_q2 : r0 = .index q2 := by first | rfl | assumption) (y1 : s_ty r0 = 3 := by first | rfl | assumption) (n6 : s_nth f3 1 = some (vi z5) := by first | rfl | assumption) (y7 : s_ty r2 = 3 := by first | rfl | assumption)  : wr P d sw_c114 sw_h114 (0, [r0, r1, r2, t3, t4, t5, t6, t7, t8, t9], [], h, kc, ks) Q := by
  refine w_ld rfl rfl (Or.inr (Or.inr ⟨by decide, y1⟩)) ?_
  subst e_q2
  refine w_getf rfl g4 n6 ?_
  refine w_st (ls' := [.index q2, r1, r2, vi z5, t4, t5, t6, t7, t8, t9]) rfl (Or.inl ⟨by decide, rfl⟩) (s_stK_r (pre := [.index q2, r1]) y7) ?_
  refine w_ld rfl rfl (Or.inr (Or.inr ⟨by decide, rfl⟩)) ?_
  exact w_cv rfl [.index q2] [] rfl rfl (s_wt_4 rfl) rfl g4 k

theorem k114_9 {P : s_P} {d : Nat} {Q : s_O → Prop} {h : s_H} {kc ks : Nat} {r0 r1 r2 : Term} {x3 : Int} {t4 t5 t6 t7 t8 t9 s0 : Term} {q3 : Nat} {f4 : List Term} (g5 : s_get h q3 = some (1, 0, f4)) (k : wm P d 109 [.index q3] h (wq P d sw_c114 sw_h114 15 [.index q3, r1, r2, vi x3, s0, t5, t6, t7, t8, t9] [] kc ks Q)) (e_q3 : r0 = .index q3 := by first | rfl | assumption) (y1 : s_ty s0 = 3 := by first | rfl | assumption) (y2 : s_ty r0 = 3 := by first | rfl | assumption)  : wr P d sw_c114 sw_h114 (9, [r0, r1, r2, vi x3, t4, t5, t6, t7, t8, t9], [s0], h, kc, ks) Q := by
  refine w_st (ls' := [r0, r1, r2, vi x3, s0, t5, t6, t7, t8, t9]) rfl (Or.inr ⟨by decide, y1⟩) rfl ?_
  refine w_ld rfl rfl (Or.inr (Or.inr ⟨by decide, y2⟩)) ?_
  subst e_q3
  exact w_cv rfl [.index q3] [] rfl rfl (s_wt_4 rfl) rfl g5 k

theorem k114_15 {P : s_P} {d : Nat} {Q : s_O → Prop} {h : s_H} {kc ks : Nat} {r0 r1 r2 : Term} {x3 : Int} {r4 t5 t6 t7 t8 t9 s0 : Term} {q4 : Nat} {f5 : List Term} (g6 : s_get h q4 = some (1, 4, f5)) (k : wm P d 179 [.index q4, r1] h (wq P d sw_c114 sw_h114 23 [r0, r1, r2, vi x3, .index q4, s0, t6, t7, t8, t9] [] kc ks Q)) (e_q4 : r4 = .index q4 := by first | rfl | assumption) (y1 : s_ty r4 = 3 := by first | rfl | assumption) (y2 : s_ty s0 = 3 := by first | rfl | assumption) (y3 : s_ty r1 = 3 := by first | rfl | assumption)  : wr P d sw_c114 sw_h114 (15, [r0, r1, r2, vi x3, r4, t5, t6, t7, t8, t9], [s0], h, kc, ks) Q := by
  refine w_st (ls' := [r0, r1, r2, vi x3, r4, s0, t6, t7, t8, t9]) rfl (Or.inr ⟨by decide, y2⟩) (s_stK_r (pre := [r0, r1, r2, vi x3]) y1) ?_
  refine w_ld rfl rfl (Or.inr (Or.inr ⟨by decide, y1⟩)) ?_
  refine w_ld rfl rfl (Or.inr (Or.inr ⟨by decide, y3⟩)) ?_
  subst e_q4
  exact w_cv rfl [.index q4, r1] [] rfl rfl (s_wt_4 rfl) rfl g6 k

theorem k114_23 {P : s_P} {d : Nat} {Q : s_O → Prop} {h : s_H} {kc ks : Nat} {r0 r1 r2 : Term} {x3 : Int} {r4 r5 t6 t7 t8 t9 : Term} {q3 : Nat} {f4 : List Term} (g5 : s_get h q3 = some (1, 4, f4)) (k : wm P d 179 [.index q3, r2] h (wq P d sw_c114 sw_h114 29 [r0, r1, r2, vi x3, r4, .index q3, t6, t7, t8, t9] [] kc ks Q)) (e_q3 : r5 = .index q3 := by first | rfl | assumption) (y1 : s_ty r5 = 3 := by first | rfl | assumption) (y2 : s_ty r2 = 3 := by first | rfl | assumption)  : wr P d sw_c114 sw_h114 (23, [r0, r1, r2, vi x3, r4, r5, t6, t7, t8, t9], [], h, kc, ks) Q := by
  refine w_ld rfl rfl (Or.inr (Or.inr ⟨by decide, y1⟩)) ?_
  refine w_ld rfl rfl (Or.inr (Or.inr ⟨by decide, y2⟩)) ?_
  subst e_q3
  exact w_cv rfl [.index q3, r2] [] rfl rfl (s_wt_4 rfl) rfl g5 k

theorem k114_29 {P : s_P} {d : Nat} {Q : s_O → Prop} {h : s_H} {kc ks : Nat} {r0 r1 r2 : Term} {x3 : Int} {r4 r5 t6 t7 t8 t9 : Term}  (k : wr P d sw_c114 sw_h114 (35, [r0, r1, r2, vi x3, r4, r5, vi 1, vi 0, t8, t9], [], h, kc, ks) Q) (y1 : s_ty r5 = 3 := by first | rfl | assumption)  : wr P d sw_c114 sw_h114 (29, [r0, r1, r2, vi x3, r4, r5, t6, t7, t8, t9], [], h, kc, ks) Q := by
  refine w_c32 rfl (by decide) 1 (by decide) ?_
  refine w_st (ls' := [r0, r1, r2, vi x3, r4, r5, vi 1, t7, t8, t9]) rfl (Or.inl ⟨by decide, rfl⟩) (s_stK_r (pre := [r0, r1, r2, vi x3, r4]) y1) ?_
  refine w_c32 rfl (by decide) 0 (by decide) ?_
  refine w_st (ls' := [r0, r1, r2, vi x3, r4, r5, vi 1, vi 0, t8, t9]) rfl (Or.inl ⟨by decide, rfl⟩) rfl ?_
  exact k

theorem k114_35 {P : s_P} {d : Nat} {Q : s_O → Prop} {h : s_H} {kc ks : Nat} {r0 r1 r2 : Term} {x3 : Int} {r4 r5 : Term} {x6 x7 : Int} {t8 t9 : Term}  (k1 : 384 ≤ x7 → wr P d sw_c114 sw_h114 (162, [r0, r1, r2, vi x3, r4, r5, vi x6, vi x7, t8, t9], [], h, kc, ks) Q) (k2 : ¬ 384 ≤ x7 → wr P d sw_c114 sw_h114 (43, [r0, r1, r2, vi x3, r4, r5, vi x6, vi x7, t8, t9], [], h, kc, ks) Q)  (c1 : In3 x7 := by first | omega | assumption | (simp only [mk_len, List.length_map]; omega) | decide) : wr P d sw_c114 sw_h114 (35, [r0, r1, r2, vi x3, r4, r5, vi x6, vi x7, t8, t9], [], h, kc, ks) Q := by
  refine w_ld rfl rfl (Or.inl ⟨by decide, rfl⟩) ?_
  refine w_c32 rfl (by decide) 384 (by decide) ?_
  exact w_if2 rfl c1 (by decide) k1 k2

theorem k114_43 {P : s_P} {d : Nat} {Q : s_O → Prop} {h : s_H} {kc ks : Nat} {r0 r1 r2 : Term} {x3 : Int} {r4 r5 : Term} {x6 x7 : Int} {t8 t9 : Term} {q2 : Nat} {f3 : List Term} {z5 : Int} (g4 : s_get h q2 = some (1, 4, f3)) (k1 : z5 ≤ 0 → wr P d sw_c114 sw_h114 (162, [r0, r1, r2, vi x3, .index q2, r5, vi x6, vi x7, t8, t9], [], h, kc, ks) Q) (k2 : ¬ z5 ≤ 0 → wr P d sw_c114 sw_h114 (51, [r0, r1, r2, vi x3, .index q2, r5, vi x6, vi x7, t8, t9], [], h, kc, ks) Q) (e_q2 : r4 = .index q2 := by first | rfl | assumption) (y1 : s_ty r4 = 3 := by first | rfl | assumption) (n6 : s_nth f3 1 = some (vi z5) := by first | rfl | assumption) (c7 : In3 z5 := by first | omega | assumption | (simp only [mk_len, List.length_map]; omega) | decide) : wr P d sw_c114 sw_h114 (43, [r0, r1, r2, vi x3, r4, r5, vi x6, vi x7, t8, t9], [], h, kc, ks) Q := by
  refine w_ld rfl rfl (Or.inr (Or.inr ⟨by decide, y1⟩)) ?_
  subst e_q2
  refine w_getf rfl g4 n6 ?_
  exact w_if1 rfl c7 k1 k2

theorem k114_51 {P : s_P} {d : Nat} {Q : s_O → Prop} {h : s_H} {kc ks : Nat} {r0 r1 r2 : Term} {x3 : Int} {r4 r5 : Term} {x6 x7 : Int} {t8 t9 : Term} {q2 : Nat} {f3 : List Term} {z5 : Int} (g4 : s_get h q2 = some (1, 4, f3)) (k1 : z5 < 0 → wr P d sw_c114 sw_h114 (162, [r0, r1, r2, vi x3, r4, .index q2, vi x6, vi x7, t8, t9], [], h, kc, ks) Q) (k2 : ¬ z5 < 0 → wr P d sw_c114 sw_h114 (59, [r0, r1, r2, vi x3, r4, .index q2, vi x6, vi x7, t8, t9], [], h, kc, ks) Q) (e_q2 : r5 = .index q2 := by first | rfl | assumption) (y1 : s_ty r5 = 3 := by first | rfl | assumption) (n6 : s_nth f3 1 = some (vi z5) := by first | rfl | assumption) (c7 : In3 z5 := by first | omega | assumption | (simp only [mk_len, List.length_map]; omega) | decide) : wr P d sw_c114 sw_h114 (51, [r0, r1, r2, vi x3, r4, r5, vi x6, vi x7, t8, t9], [], h, kc, ks) Q := by
  refine w_ld rfl rfl (Or.inr (Or.inr ⟨by decide, y1⟩)) ?_
  subst e_q2
  refine w_getf rfl g4 n6 ?_
  exact w_if1 rfl c7 k1 k2

theorem k114_59 {P : s_P} {d : Nat} {Q : s_O → Prop} {h : s_H} {kc ks : Nat} {r0 r1 r2 : Term} {x3 : Int} {r4 r5 : Term} {x6 x7 : Int} {t8 t9 : Term} {q2 : Nat} {f3 : List Term} {z5 : Int} {q8 : Nat} {f9 : List Term} (g4 : s_get h q2 = some (1, 4, f3)) (g10 : s_get h q8 = some (1, 4, f9)) (k : wm P d 171 [.index q8] h (wq P d sw_c114 sw_h114 75 [r0, r1, r2, vi x3, .index q8, .index q2, vi x6, vi x7, vi z5, t9] [.index q8, .index q2] kc ks Q)) (e_q2 : r5 = .index q2 := by first | rfl | assumption) (e_q8 : r4 = .index q8 := by first | rfl | assumption) (y1 : s_ty r5 = 3 := by first | rfl | assumption) (n6 : s_nth f3 1 = some (vi z5) := by first | rfl | assumption) (y7 : s_ty r4 = 3 := by first | rfl | assumption)  : wr P d sw_c114 sw_h114 (59, [r0, r1, r2, vi x3, r4, r5, vi x6, vi x7, t8, t9], [], h, kc, ks) Q := by
  refine w_ld rfl rfl (Or.inr (Or.inr ⟨by decide, y1⟩)) ?_
  subst e_q2
  refine w_getf rfl g4 n6 ?_
  refine w_st (ls' := [r0, r1, r2, vi x3, r4, .index q2, vi x6, vi x7, vi z5, t9]) rfl (Or.inl ⟨by decide, rfl⟩) rfl ?_
  refine w_ld rfl rfl (Or.inr (Or.inr ⟨by decide, rfl⟩)) ?_
  refine w_ld rfl rfl (Or.inr (Or.inr ⟨by decide, y7⟩)) ?_
  refine w_ld rfl rfl (Or.inr (Or.inr ⟨by decide, y7⟩)) ?_
  subst e_q8
  exact w_cv rfl [.index q8] [.index q8, .index q2] rfl rfl (s_wt_4 rfl) rfl g10 k

theorem k114_75 {P : s_P} {d : Nat} {Q : s_O → Prop} {h : s_H} {kc ks : Nat} {r0 r1 r2 : Term} {x3 : Int} {r4 r5 : Term} {x6 x7 x8 : Int} {t9 s0 s1 : Term} {s2 : Int}  (k : wm P d 168 [vi s2] h (wq P d sw_c114 sw_h114 78 [r0, r1, r2, vi x3, r4, r5, vi x6, vi x7, vi x8, t9] [s1, s0] kc ks Q))   : wr P d sw_c114 sw_h114 (75, [r0, r1, r2, vi x3, r4, r5, vi x6, vi x7, vi x8, t9], [vi s2, s1, s0], h, kc, ks) Q := by
  exact w_cs rfl [vi s2] [s1, s0] rfl rfl (s_wt_4 rfl) k

theorem k114_78 {P : s_P} {d : Nat} {Q : s_O → Prop} {h : s_H} {kc ks : Nat} {r0 r1 r2 : Term} {x3 : Int} {r4 r5 : Term} {x6 x7 x8 : Int} {t9 s0 s1 : Term} {s2 : Int} {q1 : Nat} {f2 : List Term} (g3 : s_get h q1 = some (1, 4, f2)) (k : wm P d 176 [.index q1, s1, vi s2, .null] h (wq P d sw_c114 sw_h114 82 [r0, r1, r2, vi x3, r4, r5, vi x6, vi x7, vi x8, t9] [] kc ks Q)) (e_q1 : s0 = .index q1 := by first | rfl | assumption)  : wr P d sw_c114 sw_h114 (78, [r0, r1, r2, vi x3, r4, r5, vi x6, vi x7, vi x8, t9], [vi s2, s1, s0], h, kc, ks) Q := by
  refine w_null rfl ?_
  subst e_q1
  exact w_cv rfl [.index q1, s1, vi s2, .null] [] rfl rfl (s_wt_4 rfl) rfl g3 k

theorem k114_82 {P : s_P} {d : Nat} {Q : s_O → Prop} {h : s_H} {kc ks : Nat} {r0 r1 r2 : Term} {x3 : Int} {r4 r5 : Term} {x6 x7 x8 : Int} {t9 : Term} {q2 : Nat} {f3 : List Term} {z5 : Int} (g4 : s_get h q2 = some (1, 4, f3)) (k1 : z5 < 0 → wr P d sw_c114 sw_h114 (144, [r0, r1, r2, vi x3, r4, .index q2, vi x6, vi x7, vi x8, t9], [], h, kc, ks) Q) (k2 : ¬ z5 < 0 → wr P d sw_c114 sw_h114 (90, [r0, r1, r2, vi x3, r4, .index q2, vi x6, vi x7, vi x8, t9], [], h, kc, ks) Q) (e_q2 : r5 = .index q2 := by first | rfl | assumption) (y1 : s_ty r5 = 3 := by first | rfl | assumption) (n6 : s_nth f3 1 = some (vi z5) := by first | rfl | assumption) (c7 : In3 z5 := by first | omega | assumption | (simp only [mk_len, List.length_map]; omega) | decide) : wr P d sw_c114 sw_h114 (82, [r0, r1, r2, vi x3, r4, r5, vi x6, vi x7, vi x8, t9], [], h, kc, ks) Q := by
  refine w_ld rfl rfl (Or.inr (Or.inr ⟨by decide, y1⟩)) ?_
  subst e_q2
  refine w_getf rfl g4 n6 ?_
  exact w_if1 rfl c7 k1 k2

theorem k114_90 {P : s_P} {d : Nat} {Q : s_O → Prop} {h : s_H} {kc ks : Nat} {r0 r1 r2 : Term} {x3 : Int} {r4 r5 : Term} {x6 x7 x8 : Int} {t9 : Term} {q2 : Nat} {f3 : List Term} (g4 : s_get h q2 = some (1, 4, f3)) (k : wm P d 171 [.index q2] h (wq P d sw_c114 sw_h114 97 [r0, r1, r2, vi x3, .index q2, r5, vi x6, vi x7, vi x8, t9] [vi x6] kc ks Q)) (e_q2 : r4 = .index q2 := by first | rfl | assumption) (y1 : s_ty r4 = 3 := by first | rfl | assumption)  : wr P d sw_c114 sw_h114 (90, [r0, r1, r2, vi x3, r4, r5, vi x6, vi x7, vi x8, t9], [], h, kc, ks) Q := by
  refine w_ld rfl rfl (Or.inl ⟨by decide, rfl⟩) ?_
  refine w_ld rfl rfl (Or.inr (Or.inr ⟨by decide, y1⟩)) ?_
  subst e_q2
  exact w_cv rfl [.index q2] [vi x6] rfl rfl (s_wt_4 rfl) rfl g4 k

theorem k114_97 {P : s_P} {d : Nat} {Q : s_O → Prop} {h : s_H} {kc ks : Nat} {r0 r1 r2 : Term} {x3 : Int} {r4 r5 : Term} {x6 x7 x8 : Int} {t9 : Term} {s0 s1 : Int} {q2 : Nat} {f3 : List Term} {z5 : Int} (g4 : s_get h q2 = some (1, 4, f3)) (k : wm P d 175 [vi s1, vi (x8 - z5)] h (wq P d sw_c114 sw_h114 108 [r0, r1, r2, vi x3, r4, .index q2, vi x6, vi x7, vi x8, t9] [vi s0] kc ks Q)) (e_q2 : r5 = .index q2 := by first | rfl | assumption) (y1 : s_ty r5 = 3 := by first | rfl | assumption) (n6 : s_nth f3 1 = some (vi z5) := by first | rfl | assumption)  : wr P d sw_c114 sw_h114 (97, [r0, r1, r2, vi x3, r4, r5, vi x6, vi x7, vi x8, t9], [vi s1, vi s0], h, kc, ks) Q := by
  refine w_ld rfl rfl (Or.inl ⟨by decide, rfl⟩) ?_
  refine w_ld rfl rfl (Or.inr (Or.inr ⟨by decide, y1⟩)) ?_
  subst e_q2
  refine w_getf rfl g4 n6 ?_
  refine w_isub rfl ?_
  exact w_cs rfl [vi s1, vi (x8 - z5)] [vi s0] rfl rfl (s_wt_4 rfl) k

theorem k114_108 {P : s_P} {d : Nat} {Q : s_O → Prop} {h : s_H} {kc ks : Nat} {r0 r1 r2 : Term} {x3 : Int} {r4 r5 : Term} {x6 x7 x8 : Int} {t9 : Term} {s0 s1 : Int} {q4 : Nat} {f5 : List Term} {z7 : Int} {q9 : Nat} {f10 : List Term} {z12 : Int} (g6 : s_get h q4 = some (1, 4, f5)) (g11 : s_get h q9 = some (1, 4, f10)) (k1 : zi 24 (zi 24 z7 z12) 1 ≠ 1 → wr P d sw_c114 sw_h114 (144, [r0, r1, r2, vi x3, .index q4, .index q9, vi (Int.tmod (s0 * s1) 32003), vi x7, vi x8, t9], [], h, kc, ks) Q) (k2 : ¬ zi 24 (zi 24 z7 z12) 1 ≠ 1 → wr P d sw_c114 sw_h114 (132, [r0, r1, r2, vi x3, .index q4, .index q9, vi (Int.tmod (s0 * s1) 32003), vi x7, vi x8, t9], [], h, kc, ks) Q) (e_q4 : r4 = .index q4 := by first | rfl | assumption) (e_q9 : r5 = .index q9 := by first | rfl | assumption) (y2 : s_ty r5 = 3 := by first | rfl | assumption) (y3 : s_ty r4 = 3 := by first | rfl | assumption) (n8 : s_nth f5 1 = some (vi z7) := by first | rfl | assumption) (n13 : s_nth f10 1 = some (vi z12) := by first | rfl | assumption) (c1 : In3 (s0 * s1) := by first | omega | assumption | (simp only [mk_len, List.length_map]; omega) | decide) (c14 : In3 (zi 24 (zi 24 z7 z12) 1) := by first | omega | assumption | (simp only [mk_len, List.length_map]; omega) | decide) : wr P d sw_c114 sw_h114 (108, [r0, r1, r2, vi x3, r4, r5, vi x6, vi x7, vi x8, t9], [vi s1, vi s0], h, kc, ks) Q := by
  refine w_imul rfl ?_
  refine w_c32 rfl (by decide) 32003 (by decide) ?_
  refine w_irem rfl c1 (by decide) (by decide) ?_
  refine w_st (ls' := [r0, r1, r2, vi x3, r4, r5, vi (Int.tmod (s0 * s1) 32003), vi x7, vi x8, t9]) rfl (Or.inl ⟨by decide, rfl⟩) (s_stK_r (pre := [r0, r1, r2, vi x3, r4]) y2) ?_
  refine w_ld rfl rfl (Or.inr (Or.inr ⟨by decide, y3⟩)) ?_
  subst e_q4
  refine w_getf rfl g6 n8 ?_
  refine w_ld rfl rfl (Or.inr (Or.inr ⟨by decide, y2⟩)) ?_
  subst e_q9
  refine w_getf rfl g11 n13 ?_
  refine w_ib rfl (by decide) ?_
  refine w_c32 rfl (by decide) 1 (by decide) ?_
  refine w_ib rfl (by decide) ?_
  refine w_c32 rfl (by decide) 1 (by decide) ?_
  exact w_if2 rfl c14 (by decide) k1 k2

theorem k114_132 {P : s_P} {d : Nat} {Q : s_O → Prop} {h : s_H} {kc ks : Nat} {r0 r1 r2 : Term} {x3 : Int} {r4 r5 : Term} {x6 x7 x8 : Int} {t9 : Term}  (k : wr P d sw_c114 sw_h114 (144, [r0, r1, r2, vi x3, r4, r5, vi (Int.tmod (32003 - x6) 32003), vi x7, vi x8, t9], [], h, kc, ks) Q) (y2 : s_ty r5 = 3 := by first | rfl | assumption) (c1 : In3 (32003 - x6) := by first | omega | assumption | (simp only [mk_len, List.length_map]; omega) | decide) : wr P d sw_c114 sw_h114 (132, [r0, r1, r2, vi x3, r4, r5, vi x6, vi x7, vi x8, t9], [], h, kc, ks) Q := by
  refine w_c32 rfl (by decide) 32003 (by decide) ?_
  refine w_ld rfl rfl (Or.inl ⟨by decide, rfl⟩) ?_
  refine w_isub rfl ?_
  refine w_c32 rfl (by decide) 32003 (by decide) ?_
  refine w_irem rfl c1 (by decide) (by decide) ?_
  refine w_st (ls' := [r0, r1, r2, vi x3, r4, r5, vi (Int.tmod (32003 - x6) 32003), vi x7, vi x8, t9]) rfl (Or.inl ⟨by decide, rfl⟩) (s_stK_r (pre := [r0, r1, r2, vi x3, r4]) y2) ?_
  exact k

theorem k114_144 {P : s_P} {d : Nat} {Q : s_O → Prop} {h : s_H} {kc ks : Nat} {r0 r1 r2 : Term} {x3 : Int} {r4 r5 : Term} {x6 x7 x8 : Int} {t9 : Term}  (k : wr P d sw_c114 sw_h114 (35, [r0, r1, r2, vi x3, r5, r4, vi x6, vi (x7 + 1), vi x8, r4], [], h, kc, ks) Q) (y1 : s_ty r4 = 3 := by first | rfl | assumption) (y2 : s_ty r5 = 3 := by first | rfl | assumption)  : wr P d sw_c114 sw_h114 (144, [r0, r1, r2, vi x3, r4, r5, vi x6, vi x7, vi x8, t9], [], h, kc, ks) Q := by
  refine w_ld rfl rfl (Or.inr (Or.inr ⟨by decide, y1⟩)) ?_
  refine w_st (ls' := [r0, r1, r2, vi x3, r4, r5, vi x6, vi x7, vi x8, r4]) rfl (Or.inr ⟨by decide, y1⟩) rfl ?_
  refine w_ld rfl rfl (Or.inr (Or.inr ⟨by decide, y2⟩)) ?_
  refine w_st (ls' := [r0, r1, r2, vi x3, r5, r5, vi x6, vi x7, vi x8, r4]) rfl (Or.inr ⟨by decide, y2⟩) rfl ?_
  refine w_ld rfl rfl (Or.inr (Or.inr ⟨by decide, y1⟩)) ?_
  refine w_st (ls' := [r0, r1, r2, vi x3, r5, r4, vi x6, vi x7, vi x8, r4]) rfl (Or.inr ⟨by decide, y1⟩) (s_stK_r (pre := [r0, r1, r2, vi x3]) y2) ?_
  refine w_iinc (ls' := [r0, r1, r2, vi x3, r5, r4, vi x6, vi (x7 + 1), vi x8, r4]) rfl rfl 1 (by decide) rfl ?_
  refine w_goto rfl ?_
  exact k

theorem k114_162 {P : s_P} {d : Nat} {Q : s_O → Prop} {h : s_H} {kc ks : Nat} {r0 r1 r2 : Term} {x3 : Int} {r4 r5 : Term} {x6 x7 : Int} {t8 t9 : Term} {q2 : Nat} {f3 : List Term} (g4 : s_get h q2 = some (1, 0, f3)) (k : wm P d 113 [.index q2, vi x3] h (wq P d sw_c114 sw_h114 167 [.index q2, r1, r2, vi x3, r4, r5, vi x6, vi x7, t8, t9] [] kc ks Q)) (e_q2 : r0 = .index q2 := by first | rfl | assumption) (y1 : s_ty r0 = 3 := by first | rfl | assumption)  : wr P d sw_c114 sw_h114 (162, [r0, r1, r2, vi x3, r4, r5, vi x6, vi x7, t8, t9], [], h, kc, ks) Q := by
  refine w_ld rfl rfl (Or.inr (Or.inr ⟨by decide, y1⟩)) ?_
  refine w_ld rfl rfl (Or.inl ⟨by decide, rfl⟩) ?_
  subst e_q2
  exact w_cv rfl [.index q2, vi x3] [] rfl rfl (s_wt_4 rfl) rfl g4 k

theorem k114_167 {P : s_P} {d : Nat} {Q : s_O → Prop} {h : s_H} {kc ks : Nat} {r0 r1 r2 : Term} {x3 : Int} {r4 r5 : Term} {x6 x7 : Int} {t8 t9 : Term} {q2 : Nat} {f3 : List Term} {z5 : Int} (g4 : s_get h q2 = some (1, 4, f3)) (k1 : 0 ≤ z5 → wr P d sw_c114 sw_h114 (179, [r0, r1, r2, vi x3, .index q2, r5, vi x6, vi x7, t8, t9], [], h, kc, ks) Q) (k2 : ¬ 0 ≤ z5 → wr P d sw_c114 sw_h114 (175, [r0, r1, r2, vi x3, .index q2, r5, vi x6, vi x7, t8, t9], [], h, kc, ks) Q) (e_q2 : r4 = .index q2 := by first | rfl | assumption) (y1 : s_ty r4 = 3 := by first | rfl | assumption) (n6 : s_nth f3 1 = some (vi z5) := by first | rfl | assumption) (c7 : In3 z5 := by first | omega | assumption | (simp only [mk_len, List.length_map]; omega) | decide) : wr P d sw_c114 sw_h114 (167, [r0, r1, r2, vi x3, r4, r5, vi x6, vi x7, t8, t9], [], h, kc, ks) Q := by
  refine w_ld rfl rfl (Or.inr (Or.inr ⟨by decide, y1⟩)) ?_
  subst e_q2
  refine w_getf rfl g4 n6 ?_
  exact w_if1 rfl c7 k1 k2

theorem k114_175 {P : s_P} {d : Nat} {Q : s_O → Prop} {h : s_H} {kc ks : Nat} {r0 r1 r2 : Term} {x3 : Int} {r4 r5 : Term} {x6 x7 : Int} {t8 t9 : Term}  (k : wr P d sw_c114 sw_h114 (199, [r0, r1, r2, vi x3, r4, r5, vi x6, vi x7, t8, t9], [vi 0], h, kc, ks) Q)   : wr P d sw_c114 sw_h114 (175, [r0, r1, r2, vi x3, r4, r5, vi x6, vi x7, t8, t9], [], h, kc, ks) Q := by
  refine w_c32 rfl (by decide) 0 (by decide) ?_
  refine w_goto rfl ?_
  exact k

theorem k114_179 {P : s_P} {d : Nat} {Q : s_O → Prop} {h : s_H} {kc ks : Nat} {r0 r1 r2 : Term} {x3 : Int} {r4 r5 : Term} {x6 x7 : Int} {t8 t9 : Term} {q2 : Nat} {f3 : List Term} (g4 : s_get h q2 = some (1, 4, f3)) (k : wm P d 171 [.index q2] h (wq P d sw_c114 sw_h114 186 [r0, r1, r2, vi x3, .index q2, r5, vi x6, vi x7, t8, t9] [vi x6] kc ks Q)) (e_q2 : r4 = .index q2 := by first | rfl | assumption) (y1 : s_ty r4 = 3 := by first | rfl | assumption)  : wr P d sw_c114 sw_h114 (179, [r0, r1, r2, vi x3, r4, r5, vi x6, vi x7, t8, t9], [], h, kc, ks) Q := by
  refine w_ld rfl rfl (Or.inl ⟨by decide, rfl⟩) ?_
  refine w_ld rfl rfl (Or.inr (Or.inr ⟨by decide, y1⟩)) ?_
  subst e_q2
  exact w_cv rfl [.index q2] [vi x6] rfl rfl (s_wt_4 rfl) rfl g4 k

theorem k114_186 {P : s_P} {d : Nat} {Q : s_O → Prop} {h : s_H} {kc ks : Nat} {r0 r1 r2 : Term} {x3 : Int} {r4 r5 : Term} {x6 x7 : Int} {t8 t9 : Term} {s0 s1 : Int} {q2 : Nat} {f3 : List Term} {z5 : Int} (g4 : s_get h q2 = some (1, 4, f3)) (k : wm P d 175 [vi s1, vi z5] h (wq P d sw_c114 sw_h114 194 [r0, r1, r2, vi x3, r4, .index q2, vi x6, vi x7, t8, t9] [vi s0] kc ks Q)) (e_q2 : r5 = .index q2 := by first | rfl | assumption) (y1 : s_ty r5 = 3 := by first | rfl | assumption) (n6 : s_nth f3 1 = some (vi z5) := by first | rfl | assumption)  : wr P d sw_c114 sw_h114 (186, [r0, r1, r2, vi x3, r4, r5, vi x6, vi x7, t8, t9], [vi s1, vi s0], h, kc, ks) Q := by
  refine w_ld rfl rfl (Or.inr (Or.inr ⟨by decide, y1⟩)) ?_
  subst e_q2
  refine w_getf rfl g4 n6 ?_
  exact w_cs rfl [vi s1, vi z5] [vi s0] rfl rfl (s_wt_4 rfl) k

theorem k114_194 {P : s_P} {d : Nat} {Q : s_O → Prop} {h : s_H} {kc ks : Nat} {r0 r1 r2 : Term} {x3 : Int} {r4 r5 : Term} {x6 x7 : Int} {t8 t9 : Term} {s0 s1 : Int}  (k : wr P d sw_c114 sw_h114 (199, [r0, r1, r2, vi x3, r4, r5, vi x6, vi x7, t8, t9], [vi (Int.tmod (s0 * s1) 32003)], h, kc, ks) Q)  (c1 : In3 (s0 * s1) := by first | omega | assumption | (simp only [mk_len, List.length_map]; omega) | decide) : wr P d sw_c114 sw_h114 (194, [r0, r1, r2, vi x3, r4, r5, vi x6, vi x7, t8, t9], [vi s1, vi s0], h, kc, ks) Q := by
  refine w_imul rfl ?_
  refine w_c32 rfl (by decide) 32003 (by decide) ?_
  refine w_irem rfl c1 (by decide) (by decide) ?_
  exact k

theorem k114_199 {P : s_P} {d : Nat} {Q : s_O → Prop} {h : s_H} {kc ks : Nat} {r0 r1 r2 : Term} {x3 : Int} {r4 r5 : Term} {x6 x7 : Int} {t8 t9 : Term} {s0 : Int}  (k : Q (.inl (some (vi s0)), h, kc, ks))   : wr P d sw_c114 sw_h114 (199, [r0, r1, r2, vi x3, r4, r5, vi x6, vi x7, t8, t9], [vi s0], h, kc, ks) Q := by
  exact w_iret rfl k

/-! 115: FormulaWorks$Algebra.setCombined(LFormulaWorks$Poly;LFormulaWorks$Poly;ZLFormulaWorks$Poly;)V -/
theorem k115_0 {P : s_P} {d : Nat} {Q : s_O → Prop} {h : s_H} {kc ks : Nat} {r0 r1 r2 : Term} {x3 : Int} {r4 t5 t6 t7 t8 : Term} {q2 : Nat} {f3 : List Term} {z5 : Int} (g4 : s_get h q2 = some (1, 0, f3)) (k : wm P d 109 [.index q2] h (wq P d sw_c115 sw_h115 10 [.index q2, r1, r2, vi x3, r4, vi z5, t6, t7, t8] [] kc ks Q)) (e_q2 : r0 = .index q2 := by first | rfl | assumption) (y1 : s_ty r0 = 3 := by first | rfl | assumption) (n6 : s_nth f3 1 = some (vi z5) := by first | rfl | assumption) (y7 : s_ty r4 = 3 := by first | rfl | assumption)  : wr P d sw_c115 sw_h115 (0, [r0, r1, r2, vi x3, r4, t5, t6, t7, t8], [], h, kc, ks) Q := by
  refine w_ld rfl rfl (Or.inr (Or.inr ⟨by decide, y1⟩)) ?_
  subst e_q2
  refine w_getf rfl g4 n6 ?_
  refine w_st (ls' := [.index q2, r1, r2, vi x3, r4, vi z5, t6, t7, t8]) rfl (Or.inl ⟨by decide, rfl⟩) (s_stK_r (pre := [.index q2, r1, r2, vi x3]) y7) ?_
  refine w_ld rfl rfl (Or.inr (Or.inr ⟨by decide, rfl⟩)) ?_
  exact w_cv rfl [.index q2] [] rfl rfl (s_wt_4 rfl) rfl g4 k

theorem k115_10 {P : s_P} {d : Nat} {Q : s_O → Prop} {h : s_H} {kc ks : Nat} {r0 r1 r2 : Term} {x3 : Int} {r4 : Term} {x5 : Int} {t6 t7 t8 s0 : Term} {q3 : Nat} {f4 : List Term} (g5 : s_get h q3 = some (1, 0, f4)) (k : wm P d 109 [.index q3] h (wq P d sw_c115 sw_h115 16 [.index q3, r1, r2, vi x3, r4, vi x5, s0, t7, t8] [] kc ks Q)) (e_q3 : r0 = .index q3 := by first | rfl | assumption) (y1 : s_ty s0 = 3 := by first | rfl | assumption) (y2 : s_ty r0 = 3 := by first | rfl | assumption)  : wr P d sw_c115 sw_h115 (10, [r0, r1, r2, vi x3, r4, vi x5, t6, t7, t8], [s0], h, kc, ks) Q := by
  refine w_st (ls' := [r0, r1, r2, vi x3, r4, vi x5, s0, t7, t8]) rfl (Or.inr ⟨by decide, y1⟩) rfl ?_
  refine w_ld rfl rfl (Or.inr (Or.inr ⟨by decide, y2⟩)) ?_
  subst e_q3
  exact w_cv rfl [.index q3] [] rfl rfl (s_wt_4 rfl) rfl g5 k

theorem k115_16 {P : s_P} {d : Nat} {Q : s_O → Prop} {h : s_H} {kc ks : Nat} {r0 r1 r2 : Term} {x3 : Int} {r4 : Term} {x5 : Int} {r6 t7 t8 s0 : Term} {q4 : Nat} {f5 : List Term} (g6 : s_get h q4 = some (1, 0, f5)) (k : wm P d 109 [.index q4] h (wq P d sw_c115 sw_h115 22 [.index q4, r1, r2, vi x3, r4, vi x5, r6, s0, t8] [] kc ks Q)) (e_q4 : r0 = .index q4 := by first | rfl | assumption) (y1 : s_ty r6 = 3 := by first | rfl | assumption) (y2 : s_ty s0 = 3 := by first | rfl | assumption) (y3 : s_ty r0 = 3 := by first | rfl | assumption)  : wr P d sw_c115 sw_h115 (16, [r0, r1, r2, vi x3, r4, vi x5, r6, t7, t8], [s0], h, kc, ks) Q := by
  refine w_st (ls' := [r0, r1, r2, vi x3, r4, vi x5, r6, s0, t8]) rfl (Or.inr ⟨by decide, y2⟩) (s_stK_r (pre := [r0, r1, r2, vi x3, r4, vi x5]) y1) ?_
  refine w_ld rfl rfl (Or.inr (Or.inr ⟨by decide, y3⟩)) ?_
  subst e_q4
  exact w_cv rfl [.index q4] [] rfl rfl (s_wt_4 rfl) rfl g6 k

theorem k115_22 {P : s_P} {d : Nat} {Q : s_O → Prop} {h : s_H} {kc ks : Nat} {r0 r1 r2 : Term} {x3 : Int} {r4 : Term} {x5 : Int} {r6 r7 t8 s0 : Term} {q7 : Nat} {f8 : List Term} (g9 : s_get h q7 = some (1, 0, f8)) (k : wm P d 116 [.index q7, r1, r2, r6] h (wq P d sw_c115 sw_h115 32 [.index q7, r1, r2, vi x3, r4, vi x5, r6, r7, s0] [] kc ks Q)) (e_q7 : r0 = .index q7 := by first | rfl | assumption) (y1 : s_ty r7 = 3 := by first | rfl | assumption) (y2 : s_ty s0 = 3 := by first | rfl | assumption) (y3 : s_ty r0 = 3 := by first | rfl | assumption) (y4 : s_ty r1 = 3 := by first | rfl | assumption) (y5 : s_ty r2 = 3 := by first | rfl | assumption) (y6 : s_ty r6 = 3 := by first | rfl | assumption)  : wr P d sw_c115 sw_h115 (22, [r0, r1, r2, vi x3, r4, vi x5, r6, r7, t8], [s0], h, kc, ks) Q := by
  refine w_st (ls' := [r0, r1, r2, vi x3, r4, vi x5, r6, r7, s0]) rfl (Or.inr ⟨by decide, y2⟩) (s_stK_r (pre := [r0, r1, r2, vi x3, r4, vi x5, r6]) y1) ?_
  refine w_ld rfl rfl (Or.inr (Or.inr ⟨by decide, y3⟩)) ?_
  refine w_ld rfl rfl (Or.inr (Or.inr ⟨by decide, y4⟩)) ?_
  refine w_ld rfl rfl (Or.inr (Or.inr ⟨by decide, y5⟩)) ?_
  refine w_ld rfl rfl (Or.inr (Or.inr ⟨by decide, y6⟩)) ?_
  subst e_q7
  exact w_cv rfl [.index q7, r1, r2, r6] [] rfl rfl (s_wt_4 rfl) rfl g9 k

theorem k115_32 {P : s_P} {d : Nat} {Q : s_O → Prop} {h : s_H} {kc ks : Nat} {r0 r1 r2 : Term} {x3 : Int} {r4 : Term} {x5 : Int} {r6 r7 r8 : Term} {q2 : Nat} {f3 : List Term} {z5 : Int} (g4 : s_get h q2 = some (1, 4, f3)) (k1 : 0 ≤ z5 → wr P d sw_c115 sw_h115 (52, [r0, r1, .index q2, vi x3, r4, vi x5, r6, r7, r8], [], h, kc, ks) Q) (k2 : ¬ 0 ≤ z5 → wr P d sw_c115 sw_h115 (39, [r0, r1, .index q2, vi x3, r4, vi x5, r6, r7, r8], [], h, kc, ks) Q) (e_q2 : r2 = .index q2 := by first | rfl | assumption) (y1 : s_ty r2 = 3 := by first | rfl | assumption) (n6 : s_nth f3 1 = some (vi z5) := by first | rfl | assumption) (c7 : In3 z5 := by first | omega | assumption | (simp only [mk_len, List.length_map]; omega) | decide) : wr P d sw_c115 sw_h115 (32, [r0, r1, r2, vi x3, r4, vi x5, r6, r7, r8], [], h, kc, ks) Q := by
  refine w_ld rfl rfl (Or.inr (Or.inr ⟨by decide, y1⟩)) ?_
  subst e_q2
  refine w_getf rfl g4 n6 ?_
  exact w_if1 rfl c7 k1 k2

theorem k115_39 {P : s_P} {d : Nat} {Q : s_O → Prop} {h : s_H} {kc ks : Nat} {r0 r1 r2 : Term} {x3 : Int} {r4 : Term} {x5 : Int} {r6 r7 r8 : Term} {q5 : Nat} {f6 : List Term} (g7 : s_get h q5 = some (1, 0, f6)) (k : wm P d 117 [.index q5, r6, r1, vi 1, r8] h (wq P d sw_c115 sw_h115 49 [.index q5, r1, r2, vi x3, r4, vi x5, r6, r7, r8] [] kc ks Q)) (e_q5 : r0 = .index q5 := by first | rfl | assumption) (y1 : s_ty r0 = 3 := by first | rfl | assumption) (y2 : s_ty r6 = 3 := by first | rfl | assumption) (y3 : s_ty r1 = 3 := by first | rfl | assumption) (y4 : s_ty r8 = 3 := by first | rfl | assumption)  : wr P d sw_c115 sw_h115 (39, [r0, r1, r2, vi x3, r4, vi x5, r6, r7, r8], [], h, kc, ks) Q := by
  refine w_ld rfl rfl (Or.inr (Or.inr ⟨by decide, y1⟩)) ?_
  refine w_ld rfl rfl (Or.inr (Or.inr ⟨by decide, y2⟩)) ?_
  refine w_ld rfl rfl (Or.inr (Or.inr ⟨by decide, y3⟩)) ?_
  refine w_c32 rfl (by decide) 1 (by decide) ?_
  refine w_ld rfl rfl (Or.inr (Or.inr ⟨by decide, y4⟩)) ?_
  subst e_q5
  exact w_cv rfl [.index q5, r6, r1, vi 1, r8] [] rfl rfl (s_wt_4 rfl) rfl g7 k

theorem k115_49 {P : s_P} {d : Nat} {Q : s_O → Prop} {h : s_H} {kc ks : Nat} {r0 r1 r2 : Term} {x3 : Int} {r4 : Term} {x5 : Int} {r6 r7 r8 : Term}  (k : wr P d sw_c115 sw_h115 (90, [r0, r1, r2, vi x3, r4, vi x5, r6, r7, r8], [], h, kc, ks) Q)   : wr P d sw_c115 sw_h115 (49, [r0, r1, r2, vi x3, r4, vi x5, r6, r7, r8], [], h, kc, ks) Q := by
  refine w_goto rfl ?_
  exact k

theorem k115_52 {P : s_P} {d : Nat} {Q : s_O → Prop} {h : s_H} {kc ks : Nat} {r0 r1 r2 : Term} {x3 : Int} {r4 : Term} {x5 : Int} {r6 r7 r8 : Term} {q5 : Nat} {f6 : List Term} (g7 : s_get h q5 = some (1, 0, f6)) (k : wm P d 117 [.index q5, r2, r6, vi 1, r7] h (wq P d sw_c115 sw_h115 62 [.index q5, r1, r2, vi x3, r4, vi x5, r6, r7, r8] [] kc ks Q)) (e_q5 : r0 = .index q5 := by first | rfl | assumption) (y1 : s_ty r0 = 3 := by first | rfl | assumption) (y2 : s_ty r2 = 3 := by first | rfl | assumption) (y3 : s_ty r6 = 3 := by first | rfl | assumption) (y4 : s_ty r7 = 3 := by first | rfl | assumption)  : wr P d sw_c115 sw_h115 (52, [r0, r1, r2, vi x3, r4, vi x5, r6, r7, r8], [], h, kc, ks) Q := by
  refine w_ld rfl rfl (Or.inr (Or.inr ⟨by decide, y1⟩)) ?_
  refine w_ld rfl rfl (Or.inr (Or.inr ⟨by decide, y2⟩)) ?_
  refine w_ld rfl rfl (Or.inr (Or.inr ⟨by decide, y3⟩)) ?_
  refine w_c32 rfl (by decide) 1 (by decide) ?_
  refine w_ld rfl rfl (Or.inr (Or.inr ⟨by decide, y4⟩)) ?_
  subst e_q5
  exact w_cv rfl [.index q5, r2, r6, vi 1, r7] [] rfl rfl (s_wt_4 rfl) rfl g7 k

theorem k115_62 {P : s_P} {d : Nat} {Q : s_O → Prop} {h : s_H} {kc ks : Nat} {r0 r1 r2 : Term} {x3 : Int} {r4 : Term} {x5 : Int} {r6 r7 r8 : Term} {q2 : Nat} {f3 : List Term} {z5 : Int} (g4 : s_get h q2 = some (1, 4, f3)) (k1 : z5 ≤ 0 → wr P d sw_c115 sw_h115 (90, [r0, r1, r2, vi x3, r4, vi x5, r6, .index q2, r8], [], h, kc, ks) Q) (k2 : ¬ z5 ≤ 0 → wr P d sw_c115 sw_h115 (70, [r0, r1, r2, vi x3, r4, vi x5, r6, .index q2, r8], [], h, kc, ks) Q) (e_q2 : r7 = .index q2 := by first | rfl | assumption) (y1 : s_ty r7 = 3 := by first | rfl | assumption) (n6 : s_nth f3 1 = some (vi z5) := by first | rfl | assumption) (c7 : In3 z5 := by first | omega | assumption | (simp only [mk_len, List.length_map]; omega) | decide) : wr P d sw_c115 sw_h115 (62, [r0, r1, r2, vi x3, r4, vi x5, r6, r7, r8], [], h, kc, ks) Q := by
  refine w_ld rfl rfl (Or.inr (Or.inr ⟨by decide, y1⟩)) ?_
  subst e_q2
  refine w_getf rfl g4 n6 ?_
  exact w_if1 rfl c7 k1 k2

theorem k115_70 {P : s_P} {d : Nat} {Q : s_O → Prop} {h : s_H} {kc ks : Nat} {r0 r1 r2 : Term} {x3 : Int} {r4 : Term} {x5 : Int} {r6 r7 r8 : Term} {q5 : Nat} {f6 : List Term} (g7 : s_get h q5 = some (1, 0, f6)) (k : wm P d 117 [.index q5, r1, r6, vi 1, r8] h (wq P d sw_c115 sw_h115 80 [.index q5, r1, r2, vi x3, r4, vi x5, r6, r7, r8] [] kc ks Q)) (e_q5 : r0 = .index q5 := by first | rfl | assumption) (y1 : s_ty r0 = 3 := by first | rfl | assumption) (y2 : s_ty r1 = 3 := by first | rfl | assumption) (y3 : s_ty r6 = 3 := by first | rfl | assumption) (y4 : s_ty r8 = 3 := by first | rfl | assumption)  : wr P d sw_c115 sw_h115 (70, [r0, r1, r2, vi x3, r4, vi x5, r6, r7, r8], [], h, kc, ks) Q := by
  refine w_ld rfl rfl (Or.inr (Or.inr ⟨by decide, y1⟩)) ?_
  refine w_ld rfl rfl (Or.inr (Or.inr ⟨by decide, y2⟩)) ?_
  refine w_ld rfl rfl (Or.inr (Or.inr ⟨by decide, y3⟩)) ?_
  refine w_c32 rfl (by decide) 1 (by decide) ?_
  refine w_ld rfl rfl (Or.inr (Or.inr ⟨by decide, y4⟩)) ?_
  subst e_q5
  exact w_cv rfl [.index q5, r1, r6, vi 1, r8] [] rfl rfl (s_wt_4 rfl) rfl g7 k

theorem k115_80 {P : s_P} {d : Nat} {Q : s_O → Prop} {h : s_H} {kc ks : Nat} {r0 r1 r2 : Term} {x3 : Int} {r4 : Term} {x5 : Int} {r6 r7 r8 : Term} {q4 : Nat} {f5 : List Term} (g6 : s_get h q4 = some (1, 0, f5)) (k : wm P d 119 [.index q4, r8, r7, r8] h (wq P d sw_c115 sw_h115 90 [.index q4, r1, r2, vi x3, r4, vi x5, r6, r7, r8] [] kc ks Q)) (e_q4 : r0 = .index q4 := by first | rfl | assumption) (y1 : s_ty r0 = 3 := by first | rfl | assumption) (y2 : s_ty r8 = 3 := by first | rfl | assumption) (y3 : s_ty r7 = 3 := by first | rfl | assumption)  : wr P d sw_c115 sw_h115 (80, [r0, r1, r2, vi x3, r4, vi x5, r6, r7, r8], [], h, kc, ks) Q := by
  refine w_ld rfl rfl (Or.inr (Or.inr ⟨by decide, y1⟩)) ?_
  refine w_ld rfl rfl (Or.inr (Or.inr ⟨by decide, y2⟩)) ?_
  refine w_ld rfl rfl (Or.inr (Or.inr ⟨by decide, y3⟩)) ?_
  refine w_ld rfl rfl (Or.inr (Or.inr ⟨by decide, y2⟩)) ?_
  subst e_q4
  exact w_cv rfl [.index q4, r8, r7, r8] [] rfl rfl (s_wt_4 rfl) rfl g6 k

theorem k115_90 {P : s_P} {d : Nat} {Q : s_O → Prop} {h : s_H} {kc ks : Nat} {r0 r1 r2 : Term} {x3 : Int} {r4 : Term} {x5 : Int} {r6 r7 r8 : Term}  (k1 : x3 = 0 → wr P d sw_c115 sw_h115 (104, [r0, r1, r2, vi x3, r4, vi x5, r6, r7, r8], [], h, kc, ks) Q) (k2 : ¬ x3 = 0 → wr P d sw_c115 sw_h115 (94, [r0, r1, r2, vi x3, r4, vi x5, r6, r7, r8], [], h, kc, ks) Q)  (c1 : In3 x3 := by first | omega | assumption | (simp only [mk_len, List.length_map]; omega) | decide) : wr P d sw_c115 sw_h115 (90, [r0, r1, r2, vi x3, r4, vi x5, r6, r7, r8], [], h, kc, ks) Q := by
  refine w_ld rfl rfl (Or.inl ⟨by decide, rfl⟩) ?_
  exact w_if1 rfl c1 k1 k2

theorem k115_94 {P : s_P} {d : Nat} {Q : s_O → Prop} {h : s_H} {kc ks : Nat} {r0 r1 r2 : Term} {x3 : Int} {r4 : Term} {x5 : Int} {r6 r7 r8 : Term} {q3 : Nat} {f4 : List Term} (g5 : s_get h q3 = some (1, 4, f4)) (k : wm P d 179 [.index q3, r8] h (wq P d sw_c115 sw_h115 101 [r0, r1, r2, vi x3, .index q3, vi x5, r6, r7, r8] [] kc ks Q)) (e_q3 : r4 = .index q3 := by first | rfl | assumption) (y1 : s_ty r4 = 3 := by first | rfl | assumption) (y2 : s_ty r8 = 3 := by first | rfl | assumption)  : wr P d sw_c115 sw_h115 (94, [r0, r1, r2, vi x3, r4, vi x5, r6, r7, r8], [], h, kc, ks) Q := by
  refine w_ld rfl rfl (Or.inr (Or.inr ⟨by decide, y1⟩)) ?_
  refine w_ld rfl rfl (Or.inr (Or.inr ⟨by decide, y2⟩)) ?_
  subst e_q3
  exact w_cv rfl [.index q3, r8] [] rfl rfl (s_wt_4 rfl) rfl g5 k

theorem k115_101 {P : s_P} {d : Nat} {Q : s_O → Prop} {h : s_H} {kc ks : Nat} {r0 r1 r2 : Term} {x3 : Int} {r4 : Term} {x5 : Int} {r6 r7 r8 : Term}  (k : wr P d sw_c115 sw_h115 (150, [r0, r1, r2, vi x3, r4, vi x5, r6, r7, r8], [], h, kc, ks) Q)   : wr P d sw_c115 sw_h115 (101, [r0, r1, r2, vi x3, r4, vi x5, r6, r7, r8], [], h, kc, ks) Q := by
  refine w_goto rfl ?_
  exact k

theorem k115_104 {P : s_P} {d : Nat} {Q : s_O → Prop} {h : s_H} {kc ks : Nat} {r0 r1 r2 : Term} {x3 : Int} {r4 : Term} {x5 : Int} {r6 r7 r8 : Term} {q2 : Nat} {f3 : List Term} {z5 : Int} (g4 : s_get h q2 = some (1, 4, f3)) (k1 : 0 ≤ z5 → wr P d sw_c115 sw_h115 (120, [r0, r1, .index q2, vi x3, r4, vi x5, r6, r7, r8], [], h, kc, ks) Q) (k2 : ¬ 0 ≤ z5 → wr P d sw_c115 sw_h115 (111, [r0, r1, .index q2, vi x3, r4, vi x5, r6, r7, r8], [], h, kc, ks) Q) (e_q2 : r2 = .index q2 := by first | rfl | assumption) (y1 : s_ty r2 = 3 := by first | rfl | assumption) (n6 : s_nth f3 1 = some (vi z5) := by first | rfl | assumption) (c7 : In3 z5 := by first | omega | assumption | (simp only [mk_len, List.length_map]; omega) | decide) : wr P d sw_c115 sw_h115 (104, [r0, r1, r2, vi x3, r4, vi x5, r6, r7, r8], [], h, kc, ks) Q := by
  refine w_ld rfl rfl (Or.inr (Or.inr ⟨by decide, y1⟩)) ?_
  subst e_q2
  refine w_getf rfl g4 n6 ?_
  exact w_if1 rfl c7 k1 k2

theorem k115_111 {P : s_P} {d : Nat} {Q : s_O → Prop} {h : s_H} {kc ks : Nat} {r0 r1 r2 : Term} {x3 : Int} {r4 : Term} {x5 : Int} {r6 r7 r8 : Term} {q2 : Nat} {f3 : List Term} (g4 : s_get h q2 = some (1, 4, f3)) (k : wm P d 180 [.index q2, vi 0] h (wq P d sw_c115 sw_h115 117 [r0, r1, r2, vi x3, .index q2, vi x5, r6, r7, r8] [] kc ks Q)) (e_q2 : r4 = .index q2 := by first | rfl | assumption) (y1 : s_ty r4 = 3 := by first | rfl | assumption)  : wr P d sw_c115 sw_h115 (111, [r0, r1, r2, vi x3, r4, vi x5, r6, r7, r8], [], h, kc, ks) Q := by
  refine w_ld rfl rfl (Or.inr (Or.inr ⟨by decide, y1⟩)) ?_
  refine w_c32 rfl (by decide) 0 (by decide) ?_
  subst e_q2
  exact w_cv rfl [.index q2, vi 0] [] rfl rfl (s_wt_4 rfl) rfl g4 k

theorem k115_117 {P : s_P} {d : Nat} {Q : s_O → Prop} {h : s_H} {kc ks : Nat} {r0 r1 r2 : Term} {x3 : Int} {r4 : Term} {x5 : Int} {r6 r7 r8 : Term}  (k : wr P d sw_c115 sw_h115 (150, [r0, r1, r2, vi x3, r4, vi x5, r6, r7, r8], [], h, kc, ks) Q)   : wr P d sw_c115 sw_h115 (117, [r0, r1, r2, vi x3, r4, vi x5, r6, r7, r8], [], h, kc, ks) Q := by
  refine w_goto rfl ?_
  exact k

theorem k115_120 {P : s_P} {d : Nat} {Q : s_O → Prop} {h : s_H} {kc ks : Nat} {r0 r1 r2 : Term} {x3 : Int} {r4 : Term} {x5 : Int} {r6 r7 r8 : Term} {q4 : Nat} {f5 : List Term} (g6 : s_get h q4 = some (1, 4, f5)) (k : wm P d 182 [.index q4, r8, r1] h (wq P d sw_c115 sw_h115 128 [r0, r1, r2, vi x3, r4, vi x5, r6, .index q4, r8] [] kc ks Q)) (e_q4 : r7 = .index q4 := by first | rfl | assumption) (y1 : s_ty r7 = 3 := by first | rfl | assumption) (y2 : s_ty r8 = 3 := by first | rfl | assumption) (y3 : s_ty r1 = 3 := by first | rfl | assumption)  : wr P d sw_c115 sw_h115 (120, [r0, r1, r2, vi x3, r4, vi x5, r6, r7, r8], [], h, kc, ks) Q := by
  refine w_ld rfl rfl (Or.inr (Or.inr ⟨by decide, y1⟩)) ?_
  refine w_ld rfl rfl (Or.inr (Or.inr ⟨by decide, y2⟩)) ?_
  refine w_ld rfl rfl (Or.inr (Or.inr ⟨by decide, y3⟩)) ?_
  subst e_q4
  exact w_cv rfl [.index q4, r8, r1] [] rfl rfl (s_wt_4 rfl) rfl g6 k

theorem k115_128 {P : s_P} {d : Nat} {Q : s_O → Prop} {h : s_H} {kc ks : Nat} {r0 r1 r2 : Term} {x3 : Int} {r4 : Term} {x5 : Int} {r6 r7 r8 : Term} {q3 : Nat} {f4 : List Term} (g5 : s_get h q3 = some (1, 4, f4)) (k : wm P d 184 [.index q3, r6, .index q3, vi 32002] h (wq P d sw_c115 sw_h115 140 [r0, r1, r2, vi x3, r4, vi x5, r6, .index q3, r8] [] kc ks Q)) (e_q3 : r7 = .index q3 := by first | rfl | assumption) (y1 : s_ty r7 = 3 := by first | rfl | assumption) (y2 : s_ty r6 = 3 := by first | rfl | assumption)  : wr P d sw_c115 sw_h115 (128, [r0, r1, r2, vi x3, r4, vi x5, r6, r7, r8], [], h, kc, ks) Q := by
  refine w_ld rfl rfl (Or.inr (Or.inr ⟨by decide, y1⟩)) ?_
  refine w_ld rfl rfl (Or.inr (Or.inr ⟨by decide, y2⟩)) ?_
  refine w_ld rfl rfl (Or.inr (Or.inr ⟨by decide, y1⟩)) ?_
  refine w_c32 rfl (by decide) 32002 (by decide) ?_
  subst e_q3
  exact w_cv rfl [.index q3, r6, .index q3, vi 32002] [] rfl rfl (s_wt_4 rfl) rfl g5 k

theorem k115_140 {P : s_P} {d : Nat} {Q : s_O → Prop} {h : s_H} {kc ks : Nat} {r0 r1 r2 : Term} {x3 : Int} {r4 : Term} {x5 : Int} {r6 r7 r8 : Term} {q5 : Nat} {f6 : List Term} (g7 : s_get h q5 = some (1, 0, f6)) (k : wm P d 117 [.index q5, r7, r2, vi 1, r4] h (wq P d sw_c115 sw_h115 150 [.index q5, r1, r2, vi x3, r4, vi x5, r6, r7, r8] [] kc ks Q)) (e_q5 : r0 = .index q5 := by first | rfl | assumption) (y1 : s_ty r0 = 3 := by first | rfl | assumption) (y2 : s_ty r7 = 3 := by first | rfl | assumption) (y3 : s_ty r2 = 3 := by first | rfl | assumption) (y4 : s_ty r4 = 3 := by first | rfl | assumption)  : wr P d sw_c115 sw_h115 (140, [r0, r1, r2, vi x3, r4, vi x5, r6, r7, r8], [], h, kc, ks) Q := by
  refine w_ld rfl rfl (Or.inr (Or.inr ⟨by decide, y1⟩)) ?_
  refine w_ld rfl rfl (Or.inr (Or.inr ⟨by decide, y2⟩)) ?_
  refine w_ld rfl rfl (Or.inr (Or.inr ⟨by decide, y3⟩)) ?_
  refine w_c32 rfl (by decide) 1 (by decide) ?_
  refine w_ld rfl rfl (Or.inr (Or.inr ⟨by decide, y4⟩)) ?_
  subst e_q5
  exact w_cv rfl [.index q5, r7, r2, vi 1, r4] [] rfl rfl (s_wt_4 rfl) rfl g7 k

theorem k115_150 {P : s_P} {d : Nat} {Q : s_O → Prop} {h : s_H} {kc ks : Nat} {r0 r1 r2 : Term} {x3 : Int} {r4 : Term} {x5 : Int} {r6 r7 r8 : Term} {q2 : Nat} {f3 : List Term} (g4 : s_get h q2 = some (1, 0, f3)) (k : wm P d 113 [.index q2, vi x5] h (wq P d sw_c115 sw_h115 156 [.index q2, r1, r2, vi x3, r4, vi x5, r6, r7, r8] [] kc ks Q)) (e_q2 : r0 = .index q2 := by first | rfl | assumption) (y1 : s_ty r0 = 3 := by first | rfl | assumption)  : wr P d sw_c115 sw_h115 (150, [r0, r1, r2, vi x3, r4, vi x5, r6, r7, r8], [], h, kc, ks) Q := by
  refine w_ld rfl rfl (Or.inr (Or.inr ⟨by decide, y1⟩)) ?_
  refine w_ld rfl rfl (Or.inl ⟨by decide, rfl⟩) ?_
  subst e_q2
  exact w_cv rfl [.index q2, vi x5] [] rfl rfl (s_wt_4 rfl) rfl g4 k

theorem k115_156 {P : s_P} {d : Nat} {Q : s_O → Prop} {h : s_H} {kc ks : Nat} {r0 r1 r2 : Term} {x3 : Int} {r4 : Term} {x5 : Int} {r6 r7 r8 : Term}  (k : Q (.inl none, h, kc, ks))   : wr P d sw_c115 sw_h115 (156, [r0, r1, r2, vi x3, r4, vi x5, r6, r7, r8], [], h, kc, ks) Q := by
  exact w_ret rfl k

/-! 116: FormulaWorks$Algebra.setCommon(LFormulaWorks$Poly;LFormulaWorks$Poly;LFormulaWorks$Poly;)V -/
theorem k116_0 {P : s_P} {d : Nat} {Q : s_O → Prop} {h : s_H} {kc ks : Nat} {r0 r1 r2 r3 t4 t5 t6 t7 t8 : Term} {q2 : Nat} {f3 : List Term} {z5 : Int} (g4 : s_get h q2 = some (1, 0, f3)) (k : wm P d 109 [.index q2] h (wq P d sw_c116 sw_h116 10 [.index q2, r1, r2, r3, vi z5, t5, t6, t7, t8] [] kc ks Q)) (e_q2 : r0 = .index q2 := by first | rfl | assumption) (y1 : s_ty r0 = 3 := by first | rfl | assumption) (n6 : s_nth f3 1 = some (vi z5) := by first | rfl | assumption) (y7 : s_ty r3 = 3 := by first | rfl | assumption)  : wr P d sw_c116 sw_h116 (0, [r0, r1, r2, r3, t4, t5, t6, t7, t8], [], h, kc, ks) Q := by
  refine w_ld rfl rfl (Or.inr (Or.inr ⟨by decide, y1⟩)) ?_
  subst e_q2
  refine w_getf rfl g4 n6 ?_
  refine w_st (ls' := [.index q2, r1, r2, r3, vi z5, t5, t6, t7, t8]) rfl (Or.inl ⟨by decide, rfl⟩) (s_stK_r (pre := [.index q2, r1, r2]) y7) ?_
  refine w_ld rfl rfl (Or.inr (Or.inr ⟨by decide, rfl⟩)) ?_
  exact w_cv rfl [.index q2] [] rfl rfl (s_wt_4 rfl) rfl g4 k

theorem k116_10 {P : s_P} {d : Nat} {Q : s_O → Prop} {h : s_H} {kc ks : Nat} {r0 r1 r2 r3 : Term} {x4 : Int} {t5 t6 t7 t8 s0 : Term} {q3 : Nat} {f4 : List Term} (g5 : s_get h q3 = some (1, 0, f4)) (k : wm P d 109 [.index q3] h (wq P d sw_c116 sw_h116 16 [.index q3, r1, r2, r3, vi x4, s0, t6, t7, t8] [] kc ks Q)) (e_q3 : r0 = .index q3 := by first | rfl | assumption) (y1 : s_ty s0 = 3 := by first | rfl | assumption) (y2 : s_ty r0 = 3 := by first | rfl | assumption)  : wr P d sw_c116 sw_h116 (10, [r0, r1, r2, r3, vi x4, t5, t6, t7, t8], [s0], h, kc, ks) Q := by
  refine w_st (ls' := [r0, r1, r2, r3, vi x4, s0, t6, t7, t8]) rfl (Or.inr ⟨by decide, y1⟩) rfl ?_
  refine w_ld rfl rfl (Or.inr (Or.inr ⟨by decide, y2⟩)) ?_
  subst e_q3
  exact w_cv rfl [.index q3] [] rfl rfl (s_wt_4 rfl) rfl g5 k

theorem k116_16 {P : s_P} {d : Nat} {Q : s_O → Prop} {h : s_H} {kc ks : Nat} {r0 r1 r2 r3 : Term} {x4 : Int} {r5 t6 t7 t8 s0 : Term} {q4 : Nat} {f5 : List Term} (g6 : s_get h q4 = some (1, 4, f5)) (k : wm P d 179 [.index q4, r1] h (wq P d sw_c116 sw_h116 24 [r0, r1, r2, r3, vi x4, .index q4, s0, t7, t8] [] kc ks Q)) (e_q4 : r5 = .index q4 := by first | rfl | assumption) (y1 : s_ty r5 = 3 := by first | rfl | assumption) (y2 : s_ty s0 = 3 := by first | rfl | assumption) (y3 : s_ty r1 = 3 := by first | rfl | assumption)  : wr P d sw_c116 sw_h116 (16, [r0, r1, r2, r3, vi x4, r5, t6, t7, t8], [s0], h, kc, ks) Q := by
  refine w_st (ls' := [r0, r1, r2, r3, vi x4, r5, s0, t7, t8]) rfl (Or.inr ⟨by decide, y2⟩) (s_stK_r (pre := [r0, r1, r2, r3, vi x4]) y1) ?_
  refine w_ld rfl rfl (Or.inr (Or.inr ⟨by decide, y1⟩)) ?_
  refine w_ld rfl rfl (Or.inr (Or.inr ⟨by decide, y3⟩)) ?_
  subst e_q4
  exact w_cv rfl [.index q4, r1] [] rfl rfl (s_wt_4 rfl) rfl g6 k

theorem k116_24 {P : s_P} {d : Nat} {Q : s_O → Prop} {h : s_H} {kc ks : Nat} {r0 r1 r2 r3 : Term} {x4 : Int} {r5 r6 t7 t8 : Term} {q3 : Nat} {f4 : List Term} (g5 : s_get h q3 = some (1, 4, f4)) (k : wm P d 179 [.index q3, r2] h (wq P d sw_c116 sw_h116 30 [r0, r1, r2, r3, vi x4, r5, .index q3, t7, t8] [] kc ks Q)) (e_q3 : r6 = .index q3 := by first | rfl | assumption) (y1 : s_ty r6 = 3 := by first | rfl | assumption) (y2 : s_ty r2 = 3 := by first | rfl | assumption)  : wr P d sw_c116 sw_h116 (24, [r0, r1, r2, r3, vi x4, r5, r6, t7, t8], [], h, kc, ks) Q := by
  refine w_ld rfl rfl (Or.inr (Or.inr ⟨by decide, y1⟩)) ?_
  refine w_ld rfl rfl (Or.inr (Or.inr ⟨by decide, y2⟩)) ?_
  subst e_q3
  exact w_cv rfl [.index q3, r2] [] rfl rfl (s_wt_4 rfl) rfl g5 k

theorem k116_30 {P : s_P} {d : Nat} {Q : s_O → Prop} {h : s_H} {kc ks : Nat} {r0 r1 r2 r3 : Term} {x4 : Int} {r5 r6 t7 t8 : Term}  (k : wr P d sw_c116 sw_h116 (33, [r0, r1, r2, r3, vi x4, r5, r6, vi 0, t8], [], h, kc, ks) Q) (y1 : s_ty r6 = 3 := by first | rfl | assumption)  : wr P d sw_c116 sw_h116 (30, [r0, r1, r2, r3, vi x4, r5, r6, t7, t8], [], h, kc, ks) Q := by
  refine w_c32 rfl (by decide) 0 (by decide) ?_
  refine w_st (ls' := [r0, r1, r2, r3, vi x4, r5, r6, vi 0, t8]) rfl (Or.inl ⟨by decide, rfl⟩) (s_stK_r (pre := [r0, r1, r2, r3, vi x4, r5]) y1) ?_
  exact k

theorem k116_33 {P : s_P} {d : Nat} {Q : s_O → Prop} {h : s_H} {kc ks : Nat} {r0 r1 r2 r3 : Term} {x4 : Int} {r5 r6 : Term} {x7 : Int} {t8 : Term}  (k1 : 384 ≤ x7 → wr P d sw_c116 sw_h116 (83, [r0, r1, r2, r3, vi x4, r5, r6, vi x7, t8], [], h, kc, ks) Q) (k2 : ¬ 384 ≤ x7 → wr P d sw_c116 sw_h116 (41, [r0, r1, r2, r3, vi x4, r5, r6, vi x7, t8], [], h, kc, ks) Q)  (c1 : In3 x7 := by first | omega | assumption | (simp only [mk_len, List.length_map]; omega) | decide) : wr P d sw_c116 sw_h116 (33, [r0, r1, r2, r3, vi x4, r5, r6, vi x7, t8], [], h, kc, ks) Q := by
  refine w_ld rfl rfl (Or.inl ⟨by decide, rfl⟩) ?_
  refine w_c32 rfl (by decide) 384 (by decide) ?_
  exact w_if2 rfl c1 (by decide) k1 k2

theorem k116_41 {P : s_P} {d : Nat} {Q : s_O → Prop} {h : s_H} {kc ks : Nat} {r0 r1 r2 r3 : Term} {x4 : Int} {r5 r6 : Term} {x7 : Int} {t8 : Term} {q2 : Nat} {f3 : List Term} {z5 : Int} (g4 : s_get h q2 = some (1, 4, f3)) (k1 : z5 < 0 → wr P d sw_c116 sw_h116 (83, [r0, r1, r2, r3, vi x4, r5, .index q2, vi x7, t8], [], h, kc, ks) Q) (k2 : ¬ z5 < 0 → wr P d sw_c116 sw_h116 (49, [r0, r1, r2, r3, vi x4, r5, .index q2, vi x7, t8], [], h, kc, ks) Q) (e_q2 : r6 = .index q2 := by first | rfl | assumption) (y1 : s_ty r6 = 3 := by first | rfl | assumption) (n6 : s_nth f3 1 = some (vi z5) := by first | rfl | assumption) (c7 : In3 z5 := by first | omega | assumption | (simp only [mk_len, List.length_map]; omega) | decide) : wr P d sw_c116 sw_h116 (41, [r0, r1, r2, r3, vi x4, r5, r6, vi x7, t8], [], h, kc, ks) Q := by
  refine w_ld rfl rfl (Or.inr (Or.inr ⟨by decide, y1⟩)) ?_
  subst e_q2
  refine w_getf rfl g4 n6 ?_
  exact w_if1 rfl c7 k1 k2

theorem k116_49 {P : s_P} {d : Nat} {Q : s_O → Prop} {h : s_H} {kc ks : Nat} {r0 r1 r2 r3 : Term} {x4 : Int} {r5 r6 : Term} {x7 : Int} {t8 : Term} {q3 : Nat} {f4 : List Term} (g5 : s_get h q3 = some (1, 4, f4)) (k : wm P d 171 [.index q3] h (wq P d sw_c116 sw_h116 58 [r0, r1, r2, r3, vi x4, r5, .index q3, vi x7, t8] [.index q3, r5] kc ks Q)) (e_q3 : r6 = .index q3 := by first | rfl | assumption) (y1 : s_ty r5 = 3 := by first | rfl | assumption) (y2 : s_ty r6 = 3 := by first | rfl | assumption)  : wr P d sw_c116 sw_h116 (49, [r0, r1, r2, r3, vi x4, r5, r6, vi x7, t8], [], h, kc, ks) Q := by
  refine w_ld rfl rfl (Or.inr (Or.inr ⟨by decide, y1⟩)) ?_
  refine w_ld rfl rfl (Or.inr (Or.inr ⟨by decide, y2⟩)) ?_
  refine w_ld rfl rfl (Or.inr (Or.inr ⟨by decide, y2⟩)) ?_
  subst e_q3
  exact w_cv rfl [.index q3] [.index q3, r5] rfl rfl (s_wt_4 rfl) rfl g5 k

theorem k116_58 {P : s_P} {d : Nat} {Q : s_O → Prop} {h : s_H} {kc ks : Nat} {r0 r1 r2 r3 : Term} {x4 : Int} {r5 r6 : Term} {x7 : Int} {t8 s0 s1 : Term} {s2 : Int}  (k : wm P d 168 [vi s2] h (wq P d sw_c116 sw_h116 61 [r0, r1, r2, r3, vi x4, r5, r6, vi x7, t8] [s1, s0] kc ks Q))   : wr P d sw_c116 sw_h116 (58, [r0, r1, r2, r3, vi x4, r5, r6, vi x7, t8], [vi s2, s1, s0], h, kc, ks) Q := by
  exact w_cs rfl [vi s2] [s1, s0] rfl rfl (s_wt_4 rfl) k

theorem k116_61 {P : s_P} {d : Nat} {Q : s_O → Prop} {h : s_H} {kc ks : Nat} {r0 r1 r2 r3 : Term} {x4 : Int} {r5 r6 : Term} {x7 : Int} {t8 s0 s1 : Term} {s2 : Int} {q1 : Nat} {f2 : List Term} (g3 : s_get h q1 = some (1, 4, f2)) (k : wm P d 176 [.index q1, s1, vi s2, .null] h (wq P d sw_c116 sw_h116 65 [r0, r1, r2, r3, vi x4, r5, r6, vi x7, t8] [] kc ks Q)) (e_q1 : s0 = .index q1 := by first | rfl | assumption)  : wr P d sw_c116 sw_h116 (61, [r0, r1, r2, r3, vi x4, r5, r6, vi x7, t8], [vi s2, s1, s0], h, kc, ks) Q := by
  refine w_null rfl ?_
  subst e_q1
  exact w_cv rfl [.index q1, s1, vi s2, .null] [] rfl rfl (s_wt_4 rfl) rfl g3 k

theorem k116_65 {P : s_P} {d : Nat} {Q : s_O → Prop} {h : s_H} {kc ks : Nat} {r0 r1 r2 r3 : Term} {x4 : Int} {r5 r6 : Term} {x7 : Int} {t8 : Term}  (k : wr P d sw_c116 sw_h116 (33, [r0, r1, r2, r3, vi x4, r6, r5, vi (x7 + 1), r5], [], h, kc, ks) Q) (y1 : s_ty r5 = 3 := by first | rfl | assumption) (y2 : s_ty r6 = 3 := by first | rfl | assumption)  : wr P d sw_c116 sw_h116 (65, [r0, r1, r2, r3, vi x4, r5, r6, vi x7, t8], [], h, kc, ks) Q := by
  refine w_ld rfl rfl (Or.inr (Or.inr ⟨by decide, y1⟩)) ?_
  refine w_st (ls' := [r0, r1, r2, r3, vi x4, r5, r6, vi x7, r5]) rfl (Or.inr ⟨by decide, y1⟩) rfl ?_
  refine w_ld rfl rfl (Or.inr (Or.inr ⟨by decide, y2⟩)) ?_
  refine w_st (ls' := [r0, r1, r2, r3, vi x4, r6, r6, vi x7, r5]) rfl (Or.inr ⟨by decide, y2⟩) rfl ?_
  refine w_ld rfl rfl (Or.inr (Or.inr ⟨by decide, y1⟩)) ?_
  refine w_st (ls' := [r0, r1, r2, r3, vi x4, r6, r5, vi x7, r5]) rfl (Or.inr ⟨by decide, y1⟩) (s_stK_r (pre := [r0, r1, r2, r3, vi x4]) y2) ?_
  refine w_iinc (ls' := [r0, r1, r2, r3, vi x4, r6, r5, vi (x7 + 1), r5]) rfl rfl 1 (by decide) (s_stK_r (pre := [r0, r1, r2, r3, vi x4, r6]) y1) ?_
  refine w_goto rfl ?_
  exact k

theorem k116_83 {P : s_P} {d : Nat} {Q : s_O → Prop} {h : s_H} {kc ks : Nat} {r0 r1 r2 r3 : Term} {x4 : Int} {r5 r6 : Term} {x7 : Int} {t8 : Term} {q3 : Nat} {f4 : List Term} (g5 : s_get h q3 = some (1, 4, f4)) (k : wm P d 179 [.index q3, r5] h (wq P d sw_c116 sw_h116 89 [r0, r1, r2, .index q3, vi x4, r5, r6, vi x7, t8] [] kc ks Q)) (e_q3 : r3 = .index q3 := by first | rfl | assumption) (y1 : s_ty r3 = 3 := by first | rfl | assumption) (y2 : s_ty r5 = 3 := by first | rfl | assumption)  : wr P d sw_c116 sw_h116 (83, [r0, r1, r2, r3, vi x4, r5, r6, vi x7, t8], [], h, kc, ks) Q := by
  refine w_ld rfl rfl (Or.inr (Or.inr ⟨by decide, y1⟩)) ?_
  refine w_ld rfl rfl (Or.inr (Or.inr ⟨by decide, y2⟩)) ?_
  subst e_q3
  exact w_cv rfl [.index q3, r5] [] rfl rfl (s_wt_4 rfl) rfl g5 k

theorem k116_89 {P : s_P} {d : Nat} {Q : s_O → Prop} {h : s_H} {kc ks : Nat} {r0 r1 r2 r3 : Term} {x4 : Int} {r5 r6 : Term} {x7 : Int} {t8 : Term} {q2 : Nat} {f3 : List Term} {z5 : Int} (g4 : s_get h q2 = some (1, 4, f3)) (k1 : z5 < 0 → wr P d sw_c116 sw_h116 (109, [r0, r1, r2, r3, vi x4, .index q2, r6, vi x7, t8], [], h, kc, ks) Q) (k2 : ¬ z5 < 0 → wr P d sw_c116 sw_h116 (97, [r0, r1, r2, r3, vi x4, .index q2, r6, vi x7, t8], [], h, kc, ks) Q) (e_q2 : r5 = .index q2 := by first | rfl | assumption) (y1 : s_ty r5 = 3 := by first | rfl | assumption) (n6 : s_nth f3 1 = some (vi z5) := by first | rfl | assumption) (c7 : In3 z5 := by first | omega | assumption | (simp only [mk_len, List.length_map]; omega) | decide) : wr P d sw_c116 sw_h116 (89, [r0, r1, r2, r3, vi x4, r5, r6, vi x7, t8], [], h, kc, ks) Q := by
  refine w_ld rfl rfl (Or.inr (Or.inr ⟨by decide, y1⟩)) ?_
  subst e_q2
  refine w_getf rfl g4 n6 ?_
  exact w_if1 rfl c7 k1 k2

theorem k116_97 {P : s_P} {d : Nat} {Q : s_O → Prop} {h : s_H} {kc ks : Nat} {r0 r1 r2 r3 : Term} {x4 : Int} {r5 r6 : Term} {x7 : Int} {t8 : Term} {q3 : Nat} {f4 : List Term} (g5 : s_get h q3 = some (1, 4, f4)) (k : wm P d 171 [.index q3] h (wq P d sw_c116 sw_h116 103 [r0, r1, r2, r3, vi x4, .index q3, r6, vi x7, t8] [r3] kc ks Q)) (e_q3 : r5 = .index q3 := by first | rfl | assumption) (y1 : s_ty r3 = 3 := by first | rfl | assumption) (y2 : s_ty r5 = 3 := by first | rfl | assumption)  : wr P d sw_c116 sw_h116 (97, [r0, r1, r2, r3, vi x4, r5, r6, vi x7, t8], [], h, kc, ks) Q := by
  refine w_ld rfl rfl (Or.inr (Or.inr ⟨by decide, y1⟩)) ?_
  refine w_ld rfl rfl (Or.inr (Or.inr ⟨by decide, y2⟩)) ?_
  subst e_q3
  exact w_cv rfl [.index q3] [r3] rfl rfl (s_wt_4 rfl) rfl g5 k

theorem k116_103 {P : s_P} {d : Nat} {Q : s_O → Prop} {h : s_H} {kc ks : Nat} {r0 r1 r2 r3 : Term} {x4 : Int} {r5 r6 : Term} {x7 : Int} {t8 s0 : Term} {s1 : Int}  (k : wm P d 168 [vi s1] h (wq P d sw_c116 sw_h116 106 [r0, r1, r2, r3, vi x4, r5, r6, vi x7, t8] [s0] kc ks Q))   : wr P d sw_c116 sw_h116 (103, [r0, r1, r2, r3, vi x4, r5, r6, vi x7, t8], [vi s1, s0], h, kc, ks) Q := by
  exact w_cs rfl [vi s1] [s0] rfl rfl (s_wt_4 rfl) k

theorem k116_106 {P : s_P} {d : Nat} {Q : s_O → Prop} {h : s_H} {kc ks : Nat} {r0 r1 r2 r3 : Term} {x4 : Int} {r5 r6 : Term} {x7 : Int} {t8 s0 : Term} {s1 : Int} {q1 : Nat} {f2 : List Term} (g3 : s_get h q1 = some (1, 4, f2)) (k : wm P d 178 [.index q1, vi s1] h (wq P d sw_c116 sw_h116 109 [r0, r1, r2, r3, vi x4, r5, r6, vi x7, t8] [] kc ks Q)) (e_q1 : s0 = .index q1 := by first | rfl | assumption)  : wr P d sw_c116 sw_h116 (106, [r0, r1, r2, r3, vi x4, r5, r6, vi x7, t8], [vi s1, s0], h, kc, ks) Q := by
  subst e_q1
  exact w_cv rfl [.index q1, vi s1] [] rfl rfl (s_wt_4 rfl) rfl g3 k

theorem k116_109 {P : s_P} {d : Nat} {Q : s_O → Prop} {h : s_H} {kc ks : Nat} {r0 r1 r2 r3 : Term} {x4 : Int} {r5 r6 : Term} {x7 : Int} {t8 : Term} {q2 : Nat} {f3 : List Term} (g4 : s_get h q2 = some (1, 0, f3)) (k : wm P d 113 [.index q2, vi x4] h (wq P d sw_c116 sw_h116 115 [.index q2, r1, r2, r3, vi x4, r5, r6, vi x7, t8] [] kc ks Q)) (e_q2 : r0 = .index q2 := by first | rfl | assumption) (y1 : s_ty r0 = 3 := by first | rfl | assumption)  : wr P d sw_c116 sw_h116 (109, [r0, r1, r2, r3, vi x4, r5, r6, vi x7, t8], [], h, kc, ks) Q := by
  refine w_ld rfl rfl (Or.inr (Or.inr ⟨by decide, y1⟩)) ?_
  refine w_ld rfl rfl (Or.inl ⟨by decide, rfl⟩) ?_
  subst e_q2
  exact w_cv rfl [.index q2, vi x4] [] rfl rfl (s_wt_4 rfl) rfl g4 k

theorem k116_115 {P : s_P} {d : Nat} {Q : s_O → Prop} {h : s_H} {kc ks : Nat} {r0 r1 r2 r3 : Term} {x4 : Int} {r5 r6 : Term} {x7 : Int} {t8 : Term}  (k : Q (.inl none, h, kc, ks))   : wr P d sw_c116 sw_h116 (115, [r0, r1, r2, r3, vi x4, r5, r6, vi x7, t8], [], h, kc, ks) Q := by
  exact w_ret rfl k

/-! 117: FormulaWorks$Algebra.setDivided(LFormulaWorks$Poly;LFormulaWorks$Poly;ZLFormulaWorks$Poly;)V -/
theorem k117_0 {P : s_P} {d : Nat} {Q : s_O → Prop} {h : s_H} {kc ks : Nat} {r0 r1 r2 : Term} {x3 : Int} {r4 t5 t6 t7 : Term} {q2 : Nat} {f3 : List Term} {z5 : Int} (g4 : s_get h q2 = some (1, 0, f3)) (k : wm P d 109 [.index q2] h (wq P d sw_c117 sw_h117 10 [.index q2, r1, r2, vi x3, r4, vi z5, t6, t7] [] kc ks Q)) (e_q2 : r0 = .index q2 := by first | rfl | assumption) (y1 : s_ty r0 = 3 := by first | rfl | assumption) (n6 : s_nth f3 1 = some (vi z5) := by first | rfl | assumption) (y7 : s_ty r4 = 3 := by first | rfl | assumption)  : wr P d sw_c117 sw_h117 (0, [r0, r1, r2, vi x3, r4, t5, t6, t7], [], h, kc, ks) Q := by
  refine w_ld rfl rfl (Or.inr (Or.inr ⟨by decide, y1⟩)) ?_
  subst e_q2
  refine w_getf rfl g4 n6 ?_
  refine w_st (ls' := [.index q2, r1, r2, vi x3, r4, vi z5, t6, t7]) rfl (Or.inl ⟨by decide, rfl⟩) (s_stK_r (pre := [.index q2, r1, r2, vi x3]) y7) ?_
  refine w_ld rfl rfl (Or.inr (Or.inr ⟨by decide, rfl⟩)) ?_
  exact w_cv rfl [.index q2] [] rfl rfl (s_wt_4 rfl) rfl g4 k

theorem k117_10 {P : s_P} {d : Nat} {Q : s_O → Prop} {h : s_H} {kc ks : Nat} {r0 r1 r2 : Term} {x3 : Int} {r4 : Term} {x5 : Int} {t6 t7 s0 : Term} {q3 : Nat} {f4 : List Term} (g5 : s_get h q3 = some (1, 0, f4)) (k : wm P d 109 [.index q3] h (wq P d sw_c117 sw_h117 16 [.index q3, r1, r2, vi x3, r4, vi x5, s0, t7] [] kc ks Q)) (e_q3 : r0 = .index q3 := by first | rfl | assumption) (y1 : s_ty s0 = 3 := by first | rfl | assumption) (y2 : s_ty r0 = 3 := by first | rfl | assumption)  : wr P d sw_c117 sw_h117 (10, [r0, r1, r2, vi x3, r4, vi x5, t6, t7], [s0], h, kc, ks) Q := by
  refine w_st (ls' := [r0, r1, r2, vi x3, r4, vi x5, s0, t7]) rfl (Or.inr ⟨by decide, y1⟩) rfl ?_
  refine w_ld rfl rfl (Or.inr (Or.inr ⟨by decide, y2⟩)) ?_
  subst e_q3
  exact w_cv rfl [.index q3] [] rfl rfl (s_wt_4 rfl) rfl g5 k

theorem k117_16 {P : s_P} {d : Nat} {Q : s_O → Prop} {h : s_H} {kc ks : Nat} {r0 r1 r2 : Term} {x3 : Int} {r4 : Term} {x5 : Int} {r6 t7 s0 : Term} {q4 : Nat} {f5 : List Term} (g6 : s_get h q4 = some (1, 4, f5)) (k : wm P d 179 [.index q4, r1] h (wq P d sw_c117 sw_h117 24 [r0, r1, r2, vi x3, r4, vi x5, .index q4, s0] [] kc ks Q)) (e_q4 : r6 = .index q4 := by first | rfl | assumption) (y1 : s_ty r6 = 3 := by first | rfl | assumption) (y2 : s_ty s0 = 3 := by first | rfl | assumption) (y3 : s_ty r1 = 3 := by first | rfl | assumption)  : wr P d sw_c117 sw_h117 (16, [r0, r1, r2, vi x3, r4, vi x5, r6, t7], [s0], h, kc, ks) Q := by
  refine w_st (ls' := [r0, r1, r2, vi x3, r4, vi x5, r6, s0]) rfl (Or.inr ⟨by decide, y2⟩) (s_stK_r (pre := [r0, r1, r2, vi x3, r4, vi x5]) y1) ?_
  refine w_ld rfl rfl (Or.inr (Or.inr ⟨by decide, y1⟩)) ?_
  refine w_ld rfl rfl (Or.inr (Or.inr ⟨by decide, y3⟩)) ?_
  subst e_q4
  exact w_cv rfl [.index q4, r1] [] rfl rfl (s_wt_4 rfl) rfl g6 k

theorem k117_24 {P : s_P} {d : Nat} {Q : s_O → Prop} {h : s_H} {kc ks : Nat} {r0 r1 r2 : Term} {x3 : Int} {r4 : Term} {x5 : Int} {r6 r7 : Term} {q3 : Nat} {f4 : List Term} (g5 : s_get h q3 = some (1, 4, f4)) (k : wm P d 171 [.index q3] h (wq P d sw_c117 sw_h117 31 [r0, r1, .index q3, vi x3, r4, vi x5, r6, r7] [.index q3, r6] kc ks Q)) (e_q3 : r2 = .index q3 := by first | rfl | assumption) (y1 : s_ty r6 = 3 := by first | rfl | assumption) (y2 : s_ty r2 = 3 := by first | rfl | assumption)  : wr P d sw_c117 sw_h117 (24, [r0, r1, r2, vi x3, r4, vi x5, r6, r7], [], h, kc, ks) Q := by
  refine w_ld rfl rfl (Or.inr (Or.inr ⟨by decide, y1⟩)) ?_
  refine w_ld rfl rfl (Or.inr (Or.inr ⟨by decide, y2⟩)) ?_
  refine w_ld rfl rfl (Or.inr (Or.inr ⟨by decide, y2⟩)) ?_
  subst e_q3
  exact w_cv rfl [.index q3] [.index q3, r6] rfl rfl (s_wt_4 rfl) rfl g5 k

theorem k117_31 {P : s_P} {d : Nat} {Q : s_O → Prop} {h : s_H} {kc ks : Nat} {r0 r1 r2 : Term} {x3 : Int} {r4 : Term} {x5 : Int} {r6 r7 s0 s1 : Term} {s2 : Int}  (k : wm P d 168 [vi s2] h (wq P d sw_c117 sw_h117 34 [r0, r1, r2, vi x3, r4, vi x5, r6, r7] [s1, s0] kc ks Q))   : wr P d sw_c117 sw_h117 (31, [r0, r1, r2, vi x3, r4, vi x5, r6, r7], [vi s2, s1, s0], h, kc, ks) Q := by
  exact w_cs rfl [vi s2] [s1, s0] rfl rfl (s_wt_4 rfl) k

theorem k117_34 {P : s_P} {d : Nat} {Q : s_O → Prop} {h : s_H} {kc ks : Nat} {r0 r1 r2 : Term} {x3 : Int} {r4 : Term} {x5 : Int} {r6 r7 s0 s1 : Term} {s2 : Int} {q2 : Nat} {f3 : List Term} (g4 : s_get h q2 = some (1, 4, f3)) (k : wm P d 176 [.index q2, s1, vi s2, r7] h (wq P d sw_c117 sw_h117 39 [r0, r1, r2, vi x3, r4, vi x5, r6, r7] [] kc ks Q)) (e_q2 : s0 = .index q2 := by first | rfl | assumption) (y1 : s_ty r7 = 3 := by first | rfl | assumption)  : wr P d sw_c117 sw_h117 (34, [r0, r1, r2, vi x3, r4, vi x5, r6, r7], [vi s2, s1, s0], h, kc, ks) Q := by
  refine w_ld rfl rfl (Or.inr (Or.inr ⟨by decide, y1⟩)) ?_
  subst e_q2
  exact w_cv rfl [.index q2, s1, vi s2, r7] [] rfl rfl (s_wt_4 rfl) rfl g4 k

theorem k117_39 {P : s_P} {d : Nat} {Q : s_O → Prop} {h : s_H} {kc ks : Nat} {r0 r1 r2 : Term} {x3 : Int} {r4 : Term} {x5 : Int} {r6 r7 : Term}  (k1 : x3 = 0 → wr P d sw_c117 sw_h117 (50, [r0, r1, r2, vi x3, r4, vi x5, r6, r7], [r4], h, kc, ks) Q) (k2 : ¬ x3 = 0 → wr P d sw_c117 sw_h117 (45, [r0, r1, r2, vi x3, r4, vi x5, r6, r7], [r4], h, kc, ks) Q) (y1 : s_ty r4 = 3 := by first | rfl | assumption) (c2 : In3 x3 := by first | omega | assumption | (simp only [mk_len, List.length_map]; omega) | decide) : wr P d sw_c117 sw_h117 (39, [r0, r1, r2, vi x3, r4, vi x5, r6, r7], [], h, kc, ks) Q := by
  refine w_ld rfl rfl (Or.inr (Or.inr ⟨by decide, y1⟩)) ?_
  refine w_ld rfl rfl (Or.inl ⟨by decide, rfl⟩) ?_
  exact w_if1 rfl c2 k1 k2

theorem k117_45 {P : s_P} {d : Nat} {Q : s_O → Prop} {h : s_H} {kc ks : Nat} {r0 r1 r2 : Term} {x3 : Int} {r4 : Term} {x5 : Int} {r6 r7 s0 : Term}  (k : wr P d sw_c117 sw_h117 (52, [r0, r1, r2, vi x3, r4, vi x5, r6, r7], [r7, s0], h, kc, ks) Q) (y1 : s_ty r7 = 3 := by first | rfl | assumption)  : wr P d sw_c117 sw_h117 (45, [r0, r1, r2, vi x3, r4, vi x5, r6, r7], [s0], h, kc, ks) Q := by
  refine w_ld rfl rfl (Or.inr (Or.inr ⟨by decide, y1⟩)) ?_
  refine w_goto rfl ?_
  exact k

theorem k117_50 {P : s_P} {d : Nat} {Q : s_O → Prop} {h : s_H} {kc ks : Nat} {r0 r1 r2 : Term} {x3 : Int} {r4 : Term} {x5 : Int} {r6 r7 s0 : Term}  (k : wr P d sw_c117 sw_h117 (52, [r0, r1, r2, vi x3, r4, vi x5, r6, r7], [r6, s0], h, kc, ks) Q) (y1 : s_ty r6 = 3 := by first | rfl | assumption)  : wr P d sw_c117 sw_h117 (50, [r0, r1, r2, vi x3, r4, vi x5, r6, r7], [s0], h, kc, ks) Q := by
  refine w_ld rfl rfl (Or.inr (Or.inr ⟨by decide, y1⟩)) ?_
  exact k

theorem k117_52 {P : s_P} {d : Nat} {Q : s_O → Prop} {h : s_H} {kc ks : Nat} {r0 r1 r2 : Term} {x3 : Int} {r4 : Term} {x5 : Int} {r6 r7 s0 s1 : Term} {q1 : Nat} {f2 : List Term} (g3 : s_get h q1 = some (1, 4, f2)) (k : wm P d 179 [.index q1, s1] h (wq P d sw_c117 sw_h117 55 [r0, r1, r2, vi x3, r4, vi x5, r6, r7] [] kc ks Q)) (e_q1 : s0 = .index q1 := by first | rfl | assumption)  : wr P d sw_c117 sw_h117 (52, [r0, r1, r2, vi x3, r4, vi x5, r6, r7], [s1, s0], h, kc, ks) Q := by
  subst e_q1
  exact w_cv rfl [.index q1, s1] [] rfl rfl (s_wt_4 rfl) rfl g3 k

theorem k117_55 {P : s_P} {d : Nat} {Q : s_O → Prop} {h : s_H} {kc ks : Nat} {r0 r1 r2 : Term} {x3 : Int} {r4 : Term} {x5 : Int} {r6 r7 : Term} {q2 : Nat} {f3 : List Term} (g4 : s_get h q2 = some (1, 0, f3)) (k : wm P d 113 [.index q2, vi x5] h (wq P d sw_c117 sw_h117 61 [.index q2, r1, r2, vi x3, r4, vi x5, r6, r7] [] kc ks Q)) (e_q2 : r0 = .index q2 := by first | rfl | assumption) (y1 : s_ty r0 = 3 := by first | rfl | assumption)  : wr P d sw_c117 sw_h117 (55, [r0, r1, r2, vi x3, r4, vi x5, r6, r7], [], h, kc, ks) Q := by
  refine w_ld rfl rfl (Or.inr (Or.inr ⟨by decide, y1⟩)) ?_
  refine w_ld rfl rfl (Or.inl ⟨by decide, rfl⟩) ?_
  subst e_q2
  exact w_cv rfl [.index q2, vi x5] [] rfl rfl (s_wt_4 rfl) rfl g4 k

theorem k117_61 {P : s_P} {d : Nat} {Q : s_O → Prop} {h : s_H} {kc ks : Nat} {r0 r1 r2 : Term} {x3 : Int} {r4 : Term} {x5 : Int} {r6 r7 : Term}  (k : Q (.inl none, h, kc, ks))   : wr P d sw_c117 sw_h117 (61, [r0, r1, r2, vi x3, r4, vi x5, r6, r7], [], h, kc, ks) Q := by
  exact w_ret rfl k

/-! 118: FormulaWorks$Algebra.setInserted(LFormulaWorks$Poly;ILFormulaWorks$Thing;LFormulaWorks$Poly;)V -/
theorem k118_0 {P : s_P} {d : Nat} {Q : s_O → Prop} {h : s_H} {kc ks : Nat} {r0 r1 : Term} {x2 : Int} {r3 r4 t5 t6 t7 t8 : Term} {q2 : Nat} {f3 : List Term} {z5 : Int} (g4 : s_get h q2 = some (1, 0, f3)) (k : wm P d 109 [.index q2] h (wq P d sw_c118 sw_h118 10 [.index q2, r1, vi x2, r3, r4, vi z5, t6, t7, t8] [] kc ks Q)) (e_q2 : r0 = .index q2 := by first | rfl | assumption) (y1 : s_ty r0 = 3 := by first | rfl | assumption) (n6 : s_nth f3 1 = some (vi z5) := by first | rfl | assumption) (y7 : s_ty r4 = 3 := by first | rfl | assumption)  : wr P d sw_c118 sw_h118 (0, [r0, r1, vi x2, r3, r4, t5, t6, t7, t8], [], h, kc, ks) Q := by
  refine w_ld rfl rfl (Or.inr (Or.inr ⟨by decide, y1⟩)) ?_
  subst e_q2
  refine w_getf rfl g4 n6 ?_
  refine w_st (ls' := [.index q2, r1, vi x2, r3, r4, vi z5, t6, t7, t8]) rfl (Or.inl ⟨by decide, rfl⟩) (s_stK_r (pre := [.index q2, r1, vi x2, r3]) y7) ?_
  refine w_ld rfl rfl (Or.inr (Or.inr ⟨by decide, rfl⟩)) ?_
  exact w_cv rfl [.index q2] [] rfl rfl (s_wt_4 rfl) rfl g4 k

theorem k118_10 {P : s_P} {d : Nat} {Q : s_O → Prop} {h : s_H} {kc ks : Nat} {r0 r1 : Term} {x2 : Int} {r3 r4 : Term} {x5 : Int} {t6 t7 t8 s0 : Term} {q3 : Nat} {f4 : List Term} (g5 : s_get h q3 = some (1, 0, f4)) (k : wm P d 109 [.index q3] h (wq P d sw_c118 sw_h118 16 [.index q3, r1, vi x2, r3, r4, vi x5, s0, t7, t8] [] kc ks Q)) (e_q3 : r0 = .index q3 := by first | rfl | assumption) (y1 : s_ty s0 = 3 := by first | rfl | assumption) (y2 : s_ty r0 = 3 := by first | rfl | assumption)  : wr P d sw_c118 sw_h118 (10, [r0, r1, vi x2, r3, r4, vi x5, t6, t7, t8], [s0], h, kc, ks) Q := by
  refine w_st (ls' := [r0, r1, vi x2, r3, r4, vi x5, s0, t7, t8]) rfl (Or.inr ⟨by decide, y1⟩) rfl ?_
  refine w_ld rfl rfl (Or.inr (Or.inr ⟨by decide, y2⟩)) ?_
  subst e_q3
  exact w_cv rfl [.index q3] [] rfl rfl (s_wt_4 rfl) rfl g5 k

theorem k118_16 {P : s_P} {d : Nat} {Q : s_O → Prop} {h : s_H} {kc ks : Nat} {r0 r1 : Term} {x2 : Int} {r3 r4 : Term} {x5 : Int} {r6 t7 t8 s0 : Term} {q3 : Nat} {f4 : List Term} (g5 : s_get h q3 = some (1, 4, f4)) (k : wm P d 180 [.index q3, vi 1] h (wq P d sw_c118 sw_h118 24 [r0, r1, vi x2, r3, r4, vi x5, .index q3, s0, t8] [] kc ks Q)) (e_q3 : r6 = .index q3 := by first | rfl | assumption) (y1 : s_ty r6 = 3 := by first | rfl | assumption) (y2 : s_ty s0 = 3 := by first | rfl | assumption)  : wr P d sw_c118 sw_h118 (16, [r0, r1, vi x2, r3, r4, vi x5, r6, t7, t8], [s0], h, kc, ks) Q := by
  refine w_st (ls' := [r0, r1, vi x2, r3, r4, vi x5, r6, s0, t8]) rfl (Or.inr ⟨by decide, y2⟩) (s_stK_r (pre := [r0, r1, vi x2, r3, r4, vi x5]) y1) ?_
  refine w_ld rfl rfl (Or.inr (Or.inr ⟨by decide, y1⟩)) ?_
  refine w_c32 rfl (by decide) 1 (by decide) ?_
  subst e_q3
  exact w_cv rfl [.index q3, vi 1] [] rfl rfl (s_wt_4 rfl) rfl g5 k

theorem k118_24 {P : s_P} {d : Nat} {Q : s_O → Prop} {h : s_H} {kc ks : Nat} {r0 r1 : Term} {x2 : Int} {r3 r4 : Term} {x5 : Int} {r6 r7 t8 : Term} {q3 : Nat} {f4 : List Term} (g5 : s_get h q3 = some (1, 4, f4)) (k : wm P d 167 [.index q3, vi x2] h (wq P d sw_c118 sw_h118 31 [r0, .index q3, vi x2, r3, r4, vi x5, r6, r7, t8] [r4] kc ks Q)) (e_q3 : r1 = .index q3 := by first | rfl | assumption) (y1 : s_ty r4 = 3 := by first | rfl | assumption) (y2 : s_ty r1 = 3 := by first | rfl | assumption)  : wr P d sw_c118 sw_h118 (24, [r0, r1, vi x2, r3, r4, vi x5, r6, r7, t8], [], h, kc, ks) Q := by
  refine w_ld rfl rfl (Or.inr (Or.inr ⟨by decide, y1⟩)) ?_
  refine w_ld rfl rfl (Or.inr (Or.inr ⟨by decide, y2⟩)) ?_
  refine w_ld rfl rfl (Or.inl ⟨by decide, rfl⟩) ?_
  subst e_q3
  exact w_cv rfl [.index q3, vi x2] [r4] rfl rfl (s_wt_4 rfl) rfl g5 k

theorem k118_31 {P : s_P} {d : Nat} {Q : s_O → Prop} {h : s_H} {kc ks : Nat} {r0 r1 : Term} {x2 : Int} {r3 r4 : Term} {x5 : Int} {r6 r7 t8 s0 : Term} {s1 : Int} {q1 : Nat} {f2 : List Term} (g3 : s_get h q1 = some (1, 4, f2)) (k : wm P d 180 [.index q1, vi s1] h (wq P d sw_c118 sw_h118 34 [r0, r1, vi x2, r3, r4, vi x5, r6, r7, t8] [] kc ks Q)) (e_q1 : s0 = .index q1 := by first | rfl | assumption)  : wr P d sw_c118 sw_h118 (31, [r0, r1, vi x2, r3, r4, vi x5, r6, r7, t8], [vi s1, s0], h, kc, ks) Q := by
  subst e_q1
  exact w_cv rfl [.index q1, vi s1] [] rfl rfl (s_wt_4 rfl) rfl g3 k

theorem k118_34 {P : s_P} {d : Nat} {Q : s_O → Prop} {h : s_H} {kc ks : Nat} {r0 r1 : Term} {x2 : Int} {r3 r4 : Term} {x5 : Int} {r6 r7 t8 : Term}  (k : wr P d sw_c118 sw_h118 (39, [r0, r1, vi x2, r3, r4, vi x5, r6, r7, vi (x2 - 1)], [], h, kc, ks) Q) (y1 : s_ty r7 = 3 := by first | rfl | assumption)  : wr P d sw_c118 sw_h118 (34, [r0, r1, vi x2, r3, r4, vi x5, r6, r7, t8], [], h, kc, ks) Q := by
  refine w_ld rfl rfl (Or.inl ⟨by decide, rfl⟩) ?_
  refine w_c32 rfl (by decide) 1 (by decide) ?_
  refine w_isub rfl ?_
  refine w_st (ls' := [r0, r1, vi x2, r3, r4, vi x5, r6, r7, vi (x2 - 1)]) rfl (Or.inl ⟨by decide, rfl⟩) (s_stK_r (pre := [r0, r1, vi x2, r3, r4, vi x5, r6]) y1) ?_
  exact k

theorem k118_39 {P : s_P} {d : Nat} {Q : s_O → Prop} {h : s_H} {kc ks : Nat} {r0 r1 : Term} {x2 : Int} {r3 r4 : Term} {x5 : Int} {r6 r7 : Term} {x8 : Int}  (k1 : x8 < 0 → wr P d sw_c118 sw_h118 (98, [r0, r1, vi x2, r3, r4, vi x5, r6, r7, vi x8], [], h, kc, ks) Q) (k2 : ¬ x8 < 0 → wr P d sw_c118 sw_h118 (44, [r0, r1, vi x2, r3, r4, vi x5, r6, r7, vi x8], [], h, kc, ks) Q)  (c1 : In3 x8 := by first | omega | assumption | (simp only [mk_len, List.length_map]; omega) | decide) : wr P d sw_c118 sw_h118 (39, [r0, r1, vi x2, r3, r4, vi x5, r6, r7, vi x8], [], h, kc, ks) Q := by
  refine w_ld rfl rfl (Or.inl ⟨by decide, rfl⟩) ?_
  exact w_if1 rfl c1 k1 k2

theorem k118_44 {P : s_P} {d : Nat} {Q : s_O → Prop} {h : s_H} {kc ks : Nat} {r0 r1 : Term} {x2 : Int} {r3 r4 : Term} {x5 : Int} {r6 r7 : Term} {x8 : Int} {q4 : Nat} {f5 : List Term} {v7 : Term} {q9 : Nat} {f10 : List Term} (g6 : s_get h q4 = some (1, 8, f5)) (g11 : s_get h q9 = some (1, 0, f10)) (k : wm P d 111 [.index q9, r4, v7] h (wq P d sw_c118 sw_h118 54 [.index q9, r1, vi x2, .index q4, r4, vi x5, r6, r7, vi x8] [] kc ks Q)) (e_q4 : r3 = .index q4 := by first | rfl | assumption) (e_q9 : r0 = .index q9 := by first | rfl | assumption) (y1 : s_ty r0 = 3 := by first | rfl | assumption) (y2 : s_ty r4 = 3 := by first | rfl | assumption) (y3 : s_ty r3 = 3 := by first | rfl | assumption) (n8 : s_nth f5 1 = some v7 := by first | rfl | assumption)  : wr P d sw_c118 sw_h118 (44, [r0, r1, vi x2, r3, r4, vi x5, r6, r7, vi x8], [], h, kc, ks) Q := by
  refine w_ld rfl rfl (Or.inr (Or.inr ⟨by decide, y1⟩)) ?_
  refine w_ld rfl rfl (Or.inr (Or.inr ⟨by decide, y2⟩)) ?_
  refine w_ld rfl rfl (Or.inr (Or.inr ⟨by decide, y3⟩)) ?_
  subst e_q4
  refine w_getf rfl g6 n8 ?_
  subst e_q9
  exact w_cv rfl [.index q9, r4, v7] [] rfl rfl (s_wt_4 rfl) rfl g11 k

theorem k118_54 {P : s_P} {d : Nat} {Q : s_O → Prop} {h : s_H} {kc ks : Nat} {r0 r1 : Term} {x2 : Int} {r3 r4 : Term} {x5 : Int} {r6 r7 : Term} {x8 : Int} {q4 : Nat} {f5 : List Term} {v7 : Term} {q9 : Nat} {f10 : List Term} (g6 : s_get h q4 = some (1, 8, f5)) (g11 : s_get h q9 = some (1, 0, f10)) (k : wm P d 111 [.index q9, r6, v7] h (wq P d sw_c118 sw_h118 64 [.index q9, r1, vi x2, .index q4, r4, vi x5, r6, r7, vi x8] [] kc ks Q)) (e_q4 : r3 = .index q4 := by first | rfl | assumption) (e_q9 : r0 = .index q9 := by first | rfl | assumption) (y1 : s_ty r0 = 3 := by first | rfl | assumption) (y2 : s_ty r6 = 3 := by first | rfl | assumption) (y3 : s_ty r3 = 3 := by first | rfl | assumption) (n8 : s_nth f5 2 = some v7 := by first | rfl | assumption)  : wr P d sw_c118 sw_h118 (54, [r0, r1, vi x2, r3, r4, vi x5, r6, r7, vi x8], [], h, kc, ks) Q := by
  refine w_ld rfl rfl (Or.inr (Or.inr ⟨by decide, y1⟩)) ?_
  refine w_ld rfl rfl (Or.inr (Or.inr ⟨by decide, y2⟩)) ?_
  refine w_ld rfl rfl (Or.inr (Or.inr ⟨by decide, y3⟩)) ?_
  subst e_q4
  refine w_getf rfl g6 n8 ?_
  subst e_q9
  exact w_cv rfl [.index q9, r6, v7] [] rfl rfl (s_wt_4 rfl) rfl g11 k

theorem k118_64 {P : s_P} {d : Nat} {Q : s_O → Prop} {h : s_H} {kc ks : Nat} {r0 r1 : Term} {x2 : Int} {r3 r4 : Term} {x5 : Int} {r6 r7 : Term} {x8 : Int} {q3 : Nat} {f4 : List Term} (g5 : s_get h q3 = some (1, 4, f4)) (k : wm P d 179 [.index q3, r6] h (wq P d sw_c118 sw_h118 71 [r0, r1, vi x2, r3, r4, vi x5, r6, .index q3, vi x8] [] kc ks Q)) (e_q3 : r7 = .index q3 := by first | rfl | assumption) (y1 : s_ty r7 = 3 := by first | rfl | assumption) (y2 : s_ty r6 = 3 := by first | rfl | assumption)  : wr P d sw_c118 sw_h118 (64, [r0, r1, vi x2, r3, r4, vi x5, r6, r7, vi x8], [], h, kc, ks) Q := by
  refine w_ld rfl rfl (Or.inr (Or.inr ⟨by decide, y1⟩)) ?_
  refine w_ld rfl rfl (Or.inr (Or.inr ⟨by decide, y2⟩)) ?_
  subst e_q3
  exact w_cv rfl [.index q3, r6] [] rfl rfl (s_wt_4 rfl) rfl g5 k

theorem k118_71 {P : s_P} {d : Nat} {Q : s_O → Prop} {h : s_H} {kc ks : Nat} {r0 r1 : Term} {x2 : Int} {r3 r4 : Term} {x5 : Int} {r6 r7 : Term} {x8 : Int} {q3 : Nat} {f4 : List Term} (g5 : s_get h q3 = some (1, 4, f4)) (k : wm P d 167 [.index q3, vi x8] h (wq P d sw_c118 sw_h118 79 [r0, .index q3, vi x2, r3, r4, vi x5, r6, r7, vi x8] [r7] kc ks Q)) (e_q3 : r1 = .index q3 := by first | rfl | assumption) (y1 : s_ty r7 = 3 := by first | rfl | assumption) (y2 : s_ty r1 = 3 := by first | rfl | assumption)  : wr P d sw_c118 sw_h118 (71, [r0, r1, vi x2, r3, r4, vi x5, r6, r7, vi x8], [], h, kc, ks) Q := by
  refine w_ld rfl rfl (Or.inr (Or.inr ⟨by decide, y1⟩)) ?_
  refine w_ld rfl rfl (Or.inr (Or.inr ⟨by decide, y2⟩)) ?_
  refine w_ld rfl rfl (Or.inl ⟨by decide, rfl⟩) ?_
  subst e_q3
  exact w_cv rfl [.index q3, vi x8] [r7] rfl rfl (s_wt_4 rfl) rfl g5 k

theorem k118_79 {P : s_P} {d : Nat} {Q : s_O → Prop} {h : s_H} {kc ks : Nat} {r0 r1 : Term} {x2 : Int} {r3 r4 : Term} {x5 : Int} {r6 r7 : Term} {x8 : Int} {s0 : Term} {s1 : Int} {q1 : Nat} {f2 : List Term} (g3 : s_get h q1 = some (1, 4, f2)) (k : wm P d 178 [.index q1, vi s1] h (wq P d sw_c118 sw_h118 82 [r0, r1, vi x2, r3, r4, vi x5, r6, r7, vi x8] [] kc ks Q)) (e_q1 : s0 = .index q1 := by first | rfl | assumption)  : wr P d sw_c118 sw_h118 (79, [r0, r1, vi x2, r3, r4, vi x5, r6, r7, vi x8], [vi s1, s0], h, kc, ks) Q := by
  subst e_q1
  exact w_cv rfl [.index q1, vi s1] [] rfl rfl (s_wt_4 rfl) rfl g3 k

theorem k118_82 {P : s_P} {d : Nat} {Q : s_O → Prop} {h : s_H} {kc ks : Nat} {r0 r1 : Term} {x2 : Int} {r3 r4 : Term} {x5 : Int} {r6 r7 : Term} {x8 : Int} {q3 : Nat} {f4 : List Term} (g5 : s_get h q3 = some (1, 4, f4)) (k : wm P d 184 [.index q3, .index q3, r7, vi 1] h (wq P d sw_c118 sw_h118 92 [r0, r1, vi x2, r3, .index q3, vi x5, r6, r7, vi x8] [] kc ks Q)) (e_q3 : r4 = .index q3 := by first | rfl | assumption) (y1 : s_ty r4 = 3 := by first | rfl | assumption) (y2 : s_ty r7 = 3 := by first | rfl | assumption)  : wr P d sw_c118 sw_h118 (82, [r0, r1, vi x2, r3, r4, vi x5, r6, r7, vi x8], [], h, kc, ks) Q := by
  refine w_ld rfl rfl (Or.inr (Or.inr ⟨by decide, y1⟩)) ?_
  refine w_ld rfl rfl (Or.inr (Or.inr ⟨by decide, y1⟩)) ?_
  refine w_ld rfl rfl (Or.inr (Or.inr ⟨by decide, y2⟩)) ?_
  refine w_c32 rfl (by decide) 1 (by decide) ?_
  subst e_q3
  exact w_cv rfl [.index q3, .index q3, r7, vi 1] [] rfl rfl (s_wt_4 rfl) rfl g5 k

theorem k118_92 {P : s_P} {d : Nat} {Q : s_O → Prop} {h : s_H} {kc ks : Nat} {r0 r1 : Term} {x2 : Int} {r3 r4 : Term} {x5 : Int} {r6 r7 : Term} {x8 : Int}  (k : wr P d sw_c118 sw_h118 (39, [r0, r1, vi x2, r3, r4, vi x5, r6, r7, vi (x8 + (-1))], [], h, kc, ks) Q) (y1 : s_ty r7 = 3 := by first | rfl | assumption)  : wr P d sw_c118 sw_h118 (92, [r0, r1, vi x2, r3, r4, vi x5, r6, r7, vi x8], [], h, kc, ks) Q := by
  refine w_iinc (ls' := [r0, r1, vi x2, r3, r4, vi x5, r6, r7, vi (x8 + (-1))]) rfl rfl (-1) (by decide) (s_stK_r (pre := [r0, r1, vi x2, r3, r4, vi x5, r6]) y1) ?_
  refine w_goto rfl ?_
  exact k

theorem k118_98 {P : s_P} {d : Nat} {Q : s_O → Prop} {h : s_H} {kc ks : Nat} {r0 r1 : Term} {x2 : Int} {r3 r4 : Term} {x5 : Int} {r6 r7 : Term} {x8 : Int} {q2 : Nat} {f3 : List Term} (g4 : s_get h q2 = some (1, 0, f3)) (k : wm P d 113 [.index q2, vi x5] h (wq P d sw_c118 sw_h118 104 [.index q2, r1, vi x2, r3, r4, vi x5, r6, r7, vi x8] [] kc ks Q)) (e_q2 : r0 = .index q2 := by first | rfl | assumption) (y1 : s_ty r0 = 3 := by first | rfl | assumption)  : wr P d sw_c118 sw_h118 (98, [r0, r1, vi x2, r3, r4, vi x5, r6, r7, vi x8], [], h, kc, ks) Q := by
  refine w_ld rfl rfl (Or.inr (Or.inr ⟨by decide, y1⟩)) ?_
  refine w_ld rfl rfl (Or.inl ⟨by decide, rfl⟩) ?_
  subst e_q2
  exact w_cv rfl [.index q2, vi x5] [] rfl rfl (s_wt_4 rfl) rfl g4 k

theorem k118_104 {P : s_P} {d : Nat} {Q : s_O → Prop} {h : s_H} {kc ks : Nat} {r0 r1 : Term} {x2 : Int} {r3 r4 : Term} {x5 : Int} {r6 r7 : Term} {x8 : Int}  (k : Q (.inl none, h, kc, ks))   : wr P d sw_c118 sw_h118 (104, [r0, r1, vi x2, r3, r4, vi x5, r6, r7, vi x8], [], h, kc, ks) Q := by
  exact w_ret rfl k

/-! 119: FormulaWorks$Algebra.setInverse(LFormulaWorks$Poly;LFormulaWorks$Poly;LFormulaWorks$Poly;)V -/
theorem k119_0 {P : s_P} {d : Nat} {Q : s_O → Prop} {h : s_H} {kc ks : Nat} {r0 r1 r2 r3 t4 t5 t6 t7 t8 t9 t10 t11 t12 : Term} {q2 : Nat} {f3 : List Term} {z5 : Int} (g4 : s_get h q2 = some (1, 0, f3)) (k : wm P d 109 [.index q2] h (wq P d sw_c119 sw_h119 10 [.index q2, r1, r2, r3, vi z5, t5, t6, t7, t8, t9, t10, t11, t12] [] kc ks Q)) (e_q2 : r0 = .index q2 := by first | rfl | assumption) (y1 : s_ty r0 = 3 := by first | rfl | assumption) (n6 : s_nth f3 1 = some (vi z5) := by first | rfl | assumption) (y7 : s_ty r3 = 3 := by first | rfl | assumption)  : wr P d sw_c119 sw_h119 (0, [r0, r1, r2, r3, t4, t5, t6, t7, t8, t9, t10, t11, t12], [], h, kc, ks) Q := by
  refine w_ld rfl rfl (Or.inr (Or.inr ⟨by decide, y1⟩)) ?_
  subst e_q2
  refine w_getf rfl g4 n6 ?_
  refine w_st (ls' := [.index q2, r1, r2, r3, vi z5, t5, t6, t7, t8, t9, t10, t11, t12]) rfl (Or.inl ⟨by decide, rfl⟩) (s_stK_r (pre := [.index q2, r1, r2]) y7) ?_
  refine w_ld rfl rfl (Or.inr (Or.inr ⟨by decide, rfl⟩)) ?_
  exact w_cv rfl [.index q2] [] rfl rfl (s_wt_4 rfl) rfl g4 k

theorem k119_10 {P : s_P} {d : Nat} {Q : s_O → Prop} {h : s_H} {kc ks : Nat} {r0 r1 r2 r3 : Term} {x4 : Int} {t5 t6 t7 t8 t9 t10 t11 t12 s0 : Term} {q3 : Nat} {f4 : List Term} (g5 : s_get h q3 = some (1, 0, f4)) (k : wm P d 109 [.index q3] h (wq P d sw_c119 sw_h119 16 [.index q3, r1, r2, r3, vi x4, s0, t6, t7, t8, t9, t10, t11, t12] [] kc ks Q)) (e_q3 : r0 = .index q3 := by first | rfl | assumption) (y1 : s_ty s0 = 3 := by first | rfl | assumption) (y2 : s_ty r0 = 3 := by first | rfl | assumption)  : wr P d sw_c119 sw_h119 (10, [r0, r1, r2, r3, vi x4, t5, t6, t7, t8, t9, t10, t11, t12], [s0], h, kc, ks) Q := by
  refine w_st (ls' := [r0, r1, r2, r3, vi x4, s0, t6, t7, t8, t9, t10, t11, t12]) rfl (Or.inr ⟨by decide, y1⟩) rfl ?_
  refine w_ld rfl rfl (Or.inr (Or.inr ⟨by decide, y2⟩)) ?_
  subst e_q3
  exact w_cv rfl [.index q3] [] rfl rfl (s_wt_4 rfl) rfl g5 k

theorem k119_16 {P : s_P} {d : Nat} {Q : s_O → Prop} {h : s_H} {kc ks : Nat} {r0 r1 r2 r3 : Term} {x4 : Int} {r5 t6 t7 t8 t9 t10 t11 t12 s0 : Term} {q4 : Nat} {f5 : List Term} (g6 : s_get h q4 = some (1, 0, f5)) (k : wm P d 109 [.index q4] h (wq P d sw_c119 sw_h119 22 [.index q4, r1, r2, r3, vi x4, r5, s0, t7, t8, t9, t10, t11, t12] [] kc ks Q)) (e_q4 : r0 = .index q4 := by first | rfl | assumption) (y1 : s_ty r5 = 3 := by first | rfl | assumption) (y2 : s_ty s0 = 3 := by first | rfl | assumption) (y3 : s_ty r0 = 3 := by first | rfl | assumption)  : wr P d sw_c119 sw_h119 (16, [r0, r1, r2, r3, vi x4, r5, t6, t7, t8, t9, t10, t11, t12], [s0], h, kc, ks) Q := by
  refine w_st (ls' := [r0, r1, r2, r3, vi x4, r5, s0, t7, t8, t9, t10, t11, t12]) rfl (Or.inr ⟨by decide, y2⟩) (s_stK_r (pre := [r0, r1, r2, r3, vi x4]) y1) ?_
  refine w_ld rfl rfl (Or.inr (Or.inr ⟨by decide, y3⟩)) ?_
  subst e_q4
  exact w_cv rfl [.index q4] [] rfl rfl (s_wt_4 rfl) rfl g6 k

theorem k119_22 {P : s_P} {d : Nat} {Q : s_O → Prop} {h : s_H} {kc ks : Nat} {r0 r1 r2 r3 : Term} {x4 : Int} {r5 r6 t7 t8 t9 t10 t11 t12 s0 : Term} {q4 : Nat} {f5 : List Term} (g6 : s_get h q4 = some (1, 0, f5)) (k : wm P d 109 [.index q4] h (wq P d sw_c119 sw_h119 28 [.index q4, r1, r2, r3, vi x4, r5, r6, s0, t8, t9, t10, t11, t12] [] kc ks Q)) (e_q4 : r0 = .index q4 := by first | rfl | assumption) (y1 : s_ty r6 = 3 := by first | rfl | assumption) (y2 : s_ty s0 = 3 := by first | rfl | assumption) (y3 : s_ty r0 = 3 := by first | rfl | assumption)  : wr P d sw_c119 sw_h119 (22, [r0, r1, r2, r3, vi x4, r5, r6, t7, t8, t9, t10, t11, t12], [s0], h, kc, ks) Q := by
  refine w_st (ls' := [r0, r1, r2, r3, vi x4, r5, r6, s0, t8, t9, t10, t11, t12]) rfl (Or.inr ⟨by decide, y2⟩) (s_stK_r (pre := [r0, r1, r2, r3, vi x4, r5]) y1) ?_
  refine w_ld rfl rfl (Or.inr (Or.inr ⟨by decide, y3⟩)) ?_
  subst e_q4
  exact w_cv rfl [.index q4] [] rfl rfl (s_wt_4 rfl) rfl g6 k

theorem k119_28 {P : s_P} {d : Nat} {Q : s_O → Prop} {h : s_H} {kc ks : Nat} {r0 r1 r2 r3 : Term} {x4 : Int} {r5 r6 r7 t8 t9 t10 t11 t12 s0 : Term} {q4 : Nat} {f5 : List Term} (g6 : s_get h q4 = some (1, 0, f5)) (k : wm P d 109 [.index q4] h (wq P d sw_c119 sw_h119 34 [.index q4, r1, r2, r3, vi x4, r5, r6, r7, s0, t9, t10, t11, t12] [] kc ks Q)) (e_q4 : r0 = .index q4 := by first | rfl | assumption) (y1 : s_ty r7 = 3 := by first | rfl | assumption) (y2 : s_ty s0 = 3 := by first | rfl | assumption) (y3 : s_ty r0 = 3 := by first | rfl | assumption)  : wr P d sw_c119 sw_h119 (28, [r0, r1, r2, r3, vi x4, r5, r6, r7, t8, t9, t10, t11, t12], [s0], h, kc, ks) Q := by
  refine w_st (ls' := [r0, r1, r2, r3, vi x4, r5, r6, r7, s0, t9, t10, t11, t12]) rfl (Or.inr ⟨by decide, y2⟩) (s_stK_r (pre := [r0, r1, r2, r3, vi x4, r5, r6]) y1) ?_
  refine w_ld rfl rfl (Or.inr (Or.inr ⟨by decide, y3⟩)) ?_
  subst e_q4
  exact w_cv rfl [.index q4] [] rfl rfl (s_wt_4 rfl) rfl g6 k

theorem k119_34 {P : s_P} {d : Nat} {Q : s_O → Prop} {h : s_H} {kc ks : Nat} {r0 r1 r2 r3 : Term} {x4 : Int} {r5 r6 r7 r8 t9 t10 t11 t12 s0 : Term} {q4 : Nat} {f5 : List Term} (g6 : s_get h q4 = some (1, 0, f5)) (k : wm P d 109 [.index q4] h (wq P d sw_c119 sw_h119 40 [.index q4, r1, r2, r3, vi x4, r5, r6, r7, r8, s0, t10, t11, t12] [] kc ks Q)) (e_q4 : r0 = .index q4 := by first | rfl | assumption) (y1 : s_ty r8 = 3 := by first | rfl | assumption) (y2 : s_ty s0 = 3 := by first | rfl | assumption) (y3 : s_ty r0 = 3 := by first | rfl | assumption)  : wr P d sw_c119 sw_h119 (34, [r0, r1, r2, r3, vi x4, r5, r6, r7, r8, t9, t10, t11, t12], [s0], h, kc, ks) Q := by
  refine w_st (ls' := [r0, r1, r2, r3, vi x4, r5, r6, r7, r8, s0, t10, t11, t12]) rfl (Or.inr ⟨by decide, y2⟩) (s_stK_r (pre := [r0, r1, r2, r3, vi x4, r5, r6, r7]) y1) ?_
  refine w_ld rfl rfl (Or.inr (Or.inr ⟨by decide, y3⟩)) ?_
  subst e_q4
  exact w_cv rfl [.index q4] [] rfl rfl (s_wt_4 rfl) rfl g6 k

theorem k119_40 {P : s_P} {d : Nat} {Q : s_O → Prop} {h : s_H} {kc ks : Nat} {r0 r1 r2 r3 : Term} {x4 : Int} {r5 r6 r7 r8 r9 t10 t11 t12 s0 : Term} {q5 : Nat} {f6 : List Term} (g7 : s_get h q5 = some (1, 4, f6)) (k : wm P d 179 [.index q5, r2] h (wq P d sw_c119 sw_h119 48 [r0, r1, r2, r3, vi x4, .index q5, r6, r7, r8, r9, s0, t11, t12] [] kc ks Q)) (e_q5 : r5 = .index q5 := by first | rfl | assumption) (y1 : s_ty r9 = 3 := by first | rfl | assumption) (y2 : s_ty s0 = 3 := by first | rfl | assumption) (y3 : s_ty r5 = 3 := by first | rfl | assumption) (y4 : s_ty r2 = 3 := by first | rfl | assumption)  : wr P d sw_c119 sw_h119 (40, [r0, r1, r2, r3, vi x4, r5, r6, r7, r8, r9, t10, t11, t12], [s0], h, kc, ks) Q := by
  refine w_st (ls' := [r0, r1, r2, r3, vi x4, r5, r6, r7, r8, r9, s0, t11, t12]) rfl (Or.inr ⟨by decide, y2⟩) (s_stK_r (pre := [r0, r1, r2, r3, vi x4, r5, r6, r7, r8]) y1) ?_
  refine w_ld rfl rfl (Or.inr (Or.inr ⟨by decide, y3⟩)) ?_
  refine w_ld rfl rfl (Or.inr (Or.inr ⟨by decide, y4⟩)) ?_
  subst e_q5
  exact w_cv rfl [.index q5, r2] [] rfl rfl (s_wt_4 rfl) rfl g7 k

theorem k119_48 {P : s_P} {d : Nat} {Q : s_O → Prop} {h : s_H} {kc ks : Nat} {r0 r1 r2 r3 : Term} {x4 : Int} {r5 r6 r7 r8 r9 r10 t11 t12 : Term} {q3 : Nat} {f4 : List Term} (g5 : s_get h q3 = some (1, 4, f4)) (k : wm P d 179 [.index q3, r1] h (wq P d sw_c119 sw_h119 54 [r0, r1, r2, r3, vi x4, r5, .index q3, r7, r8, r9, r10, t11, t12] [] kc ks Q)) (e_q3 : r6 = .index q3 := by first | rfl | assumption) (y1 : s_ty r6 = 3 := by first | rfl | assumption) (y2 : s_ty r1 = 3 := by first | rfl | assumption)  : wr P d sw_c119 sw_h119 (48, [r0, r1, r2, r3, vi x4, r5, r6, r7, r8, r9, r10, t11, t12], [], h, kc, ks) Q := by
  refine w_ld rfl rfl (Or.inr (Or.inr ⟨by decide, y1⟩)) ?_
  refine w_ld rfl rfl (Or.inr (Or.inr ⟨by decide, y2⟩)) ?_
  subst e_q3
  exact w_cv rfl [.index q3, r1] [] rfl rfl (s_wt_4 rfl) rfl g5 k

theorem k119_54 {P : s_P} {d : Nat} {Q : s_O → Prop} {h : s_H} {kc ks : Nat} {r0 r1 r2 r3 : Term} {x4 : Int} {r5 r6 r7 r8 r9 r10 t11 t12 : Term} {q3 : Nat} {f4 : List Term} (g5 : s_get h q3 = some (1, 4, f4)) (k : wm P d 171 [.index q3] h (wq P d sw_c119 sw_h119 61 [r0, r1, .index q3, r3, vi x4, r5, r6, r7, r8, r9, r10, t11, t12] [.index q3, r6] kc ks Q)) (e_q3 : r2 = .index q3 := by first | rfl | assumption) (y1 : s_ty r6 = 3 := by first | rfl | assumption) (y2 : s_ty r2 = 3 := by first | rfl | assumption)  : wr P d sw_c119 sw_h119 (54, [r0, r1, r2, r3, vi x4, r5, r6, r7, r8, r9, r10, t11, t12], [], h, kc, ks) Q := by
  refine w_ld rfl rfl (Or.inr (Or.inr ⟨by decide, y1⟩)) ?_
  refine w_ld rfl rfl (Or.inr (Or.inr ⟨by decide, y2⟩)) ?_
  refine w_ld rfl rfl (Or.inr (Or.inr ⟨by decide, y2⟩)) ?_
  subst e_q3
  exact w_cv rfl [.index q3] [.index q3, r6] rfl rfl (s_wt_4 rfl) rfl g5 k

theorem k119_61 {P : s_P} {d : Nat} {Q : s_O → Prop} {h : s_H} {kc ks : Nat} {r0 r1 r2 r3 : Term} {x4 : Int} {r5 r6 r7 r8 r9 r10 t11 t12 s0 s1 : Term} {s2 : Int}  (k : wm P d 168 [vi s2] h (wq P d sw_c119 sw_h119 64 [r0, r1, r2, r3, vi x4, r5, r6, r7, r8, r9, r10, t11, t12] [s1, s0] kc ks Q))   : wr P d sw_c119 sw_h119 (61, [r0, r1, r2, r3, vi x4, r5, r6, r7, r8, r9, r10, t11, t12], [vi s2, s1, s0], h, kc, ks) Q := by
  exact w_cs rfl [vi s2] [s1, s0] rfl rfl (s_wt_4 rfl) k

theorem k119_64 {P : s_P} {d : Nat} {Q : s_O → Prop} {h : s_H} {kc ks : Nat} {r0 r1 r2 r3 : Term} {x4 : Int} {r5 r6 r7 r8 r9 r10 t11 t12 s0 s1 : Term} {s2 : Int} {q1 : Nat} {f2 : List Term} (g3 : s_get h q1 = some (1, 4, f2)) (k : wm P d 176 [.index q1, s1, vi s2, .null] h (wq P d sw_c119 sw_h119 68 [r0, r1, r2, r3, vi x4, r5, r6, r7, r8, r9, r10, t11, t12] [] kc ks Q)) (e_q1 : s0 = .index q1 := by first | rfl | assumption)  : wr P d sw_c119 sw_h119 (64, [r0, r1, r2, r3, vi x4, r5, r6, r7, r8, r9, r10, t11, t12], [vi s2, s1, s0], h, kc, ks) Q := by
  refine w_null rfl ?_
  subst e_q1
  exact w_cv rfl [.index q1, s1, vi s2, .null] [] rfl rfl (s_wt_4 rfl) rfl g3 k

theorem k119_68 {P : s_P} {d : Nat} {Q : s_O → Prop} {h : s_H} {kc ks : Nat} {r0 r1 r2 r3 : Term} {x4 : Int} {r5 r6 r7 r8 r9 r10 t11 t12 : Term} {q2 : Nat} {f3 : List Term} (g4 : s_get h q2 = some (1, 4, f3)) (k : wm P d 180 [.index q2, vi 1] h (wq P d sw_c119 sw_h119 74 [r0, r1, r2, r3, vi x4, r5, r6, r7, .index q2, r9, r10, t11, t12] [] kc ks Q)) (e_q2 : r8 = .index q2 := by first | rfl | assumption) (y1 : s_ty r8 = 3 := by first | rfl | assumption)  : wr P d sw_c119 sw_h119 (68, [r0, r1, r2, r3, vi x4, r5, r6, r7, r8, r9, r10, t11, t12], [], h, kc, ks) Q := by
  refine w_ld rfl rfl (Or.inr (Or.inr ⟨by decide, y1⟩)) ?_
  refine w_c32 rfl (by decide) 1 (by decide) ?_
  subst e_q2
  exact w_cv rfl [.index q2, vi 1] [] rfl rfl (s_wt_4 rfl) rfl g4 k

theorem k119_74 {P : s_P} {d : Nat} {Q : s_O → Prop} {h : s_H} {kc ks : Nat} {r0 r1 r2 r3 : Term} {x4 : Int} {r5 r6 r7 r8 r9 r10 t11 t12 : Term}  (k : wr P d sw_c119 sw_h119 (77, [r0, r1, r2, r3, vi x4, r5, r6, r7, r8, r9, r10, vi 0, t12], [], h, kc, ks) Q) (y1 : s_ty r10 = 3 := by first | rfl | assumption)  : wr P d sw_c119 sw_h119 (74, [r0, r1, r2, r3, vi x4, r5, r6, r7, r8, r9, r10, t11, t12], [], h, kc, ks) Q := by
  refine w_c32 rfl (by decide) 0 (by decide) ?_
  refine w_st (ls' := [r0, r1, r2, r3, vi x4, r5, r6, r7, r8, r9, r10, vi 0, t12]) rfl (Or.inl ⟨by decide, rfl⟩) (s_stK_r (pre := [r0, r1, r2, r3, vi x4, r5, r6, r7, r8, r9]) y1) ?_
  exact k

theorem k119_77 {P : s_P} {d : Nat} {Q : s_O → Prop} {h : s_H} {kc ks : Nat} {r0 r1 r2 r3 : Term} {x4 : Int} {r5 r6 r7 r8 r9 r10 : Term} {x11 : Int} {t12 : Term}  (k1 : 384 ≤ x11 → wr P d sw_c119 sw_h119 (161, [r0, r1, r2, r3, vi x4, r5, r6, r7, r8, r9, r10, vi x11, t12], [], h, kc, ks) Q) (k2 : ¬ 384 ≤ x11 → wr P d sw_c119 sw_h119 (85, [r0, r1, r2, r3, vi x4, r5, r6, r7, r8, r9, r10, vi x11, t12], [], h, kc, ks) Q)  (c1 : In3 x11 := by first | omega | assumption | (simp only [mk_len, List.length_map]; omega) | decide) : wr P d sw_c119 sw_h119 (77, [r0, r1, r2, r3, vi x4, r5, r6, r7, r8, r9, r10, vi x11, t12], [], h, kc, ks) Q := by
  refine w_ld rfl rfl (Or.inl ⟨by decide, rfl⟩) ?_
  refine w_c32 rfl (by decide) 384 (by decide) ?_
  exact w_if2 rfl c1 (by decide) k1 k2

theorem k119_85 {P : s_P} {d : Nat} {Q : s_O → Prop} {h : s_H} {kc ks : Nat} {r0 r1 r2 r3 : Term} {x4 : Int} {r5 r6 r7 r8 r9 r10 : Term} {x11 : Int} {t12 : Term} {q2 : Nat} {f3 : List Term} {z5 : Int} (g4 : s_get h q2 = some (1, 4, f3)) (k1 : z5 ≤ 0 → wr P d sw_c119 sw_h119 (161, [r0, r1, r2, r3, vi x4, r5, .index q2, r7, r8, r9, r10, vi x11, t12], [], h, kc, ks) Q) (k2 : ¬ z5 ≤ 0 → wr P d sw_c119 sw_h119 (93, [r0, r1, r2, r3, vi x4, r5, .index q2, r7, r8, r9, r10, vi x11, t12], [], h, kc, ks) Q) (e_q2 : r6 = .index q2 := by first | rfl | assumption) (y1 : s_ty r6 = 3 := by first | rfl | assumption) (n6 : s_nth f3 1 = some (vi z5) := by first | rfl | assumption) (c7 : In3 z5 := by first | omega | assumption | (simp only [mk_len, List.length_map]; omega) | decide) : wr P d sw_c119 sw_h119 (85, [r0, r1, r2, r3, vi x4, r5, r6, r7, r8, r9, r10, vi x11, t12], [], h, kc, ks) Q := by
  refine w_ld rfl rfl (Or.inr (Or.inr ⟨by decide, y1⟩)) ?_
  subst e_q2
  refine w_getf rfl g4 n6 ?_
  exact w_if1 rfl c7 k1 k2

theorem k119_93 {P : s_P} {d : Nat} {Q : s_O → Prop} {h : s_H} {kc ks : Nat} {r0 r1 r2 r3 : Term} {x4 : Int} {r5 r6 r7 r8 r9 r10 : Term} {x11 : Int} {t12 : Term} {q3 : Nat} {f4 : List Term} (g5 : s_get h q3 = some (1, 4, f4)) (k : wm P d 171 [.index q3] h (wq P d sw_c119 sw_h119 102 [r0, r1, r2, r3, vi x4, r5, .index q3, r7, r8, r9, r10, vi x11, t12] [.index q3, r5] kc ks Q)) (e_q3 : r6 = .index q3 := by first | rfl | assumption) (y1 : s_ty r5 = 3 := by first | rfl | assumption) (y2 : s_ty r6 = 3 := by first | rfl | assumption)  : wr P d sw_c119 sw_h119 (93, [r0, r1, r2, r3, vi x4, r5, r6, r7, r8, r9, r10, vi x11, t12], [], h, kc, ks) Q := by
  refine w_ld rfl rfl (Or.inr (Or.inr ⟨by decide, y1⟩)) ?_
  refine w_ld rfl rfl (Or.inr (Or.inr ⟨by decide, y2⟩)) ?_
  refine w_ld rfl rfl (Or.inr (Or.inr ⟨by decide, y2⟩)) ?_
  subst e_q3
  exact w_cv rfl [.index q3] [.index q3, r5] rfl rfl (s_wt_4 rfl) rfl g5 k

theorem k119_102 {P : s_P} {d : Nat} {Q : s_O → Prop} {h : s_H} {kc ks : Nat} {r0 r1 r2 r3 : Term} {x4 : Int} {r5 r6 r7 r8 r9 r10 : Term} {x11 : Int} {t12 s0 s1 : Term} {s2 : Int}  (k : wm P d 168 [vi s2] h (wq P d sw_c119 sw_h119 105 [r0, r1, r2, r3, vi x4, r5, r6, r7, r8, r9, r10, vi x11, t12] [s1, s0] kc ks Q))   : wr P d sw_c119 sw_h119 (102, [r0, r1, r2, r3, vi x4, r5, r6, r7, r8, r9, r10, vi x11, t12], [vi s2, s1, s0], h, kc, ks) Q := by
  exact w_cs rfl [vi s2] [s1, s0] rfl rfl (s_wt_4 rfl) k

theorem k119_105 {P : s_P} {d : Nat} {Q : s_O → Prop} {h : s_H} {kc ks : Nat} {r0 r1 r2 r3 : Term} {x4 : Int} {r5 r6 r7 r8 r9 r10 : Term} {x11 : Int} {t12 s0 s1 : Term} {s2 : Int} {q2 : Nat} {f3 : List Term} (g4 : s_get h q2 = some (1, 4, f3)) (k : wm P d 176 [.index q2, s1, vi s2, r9] h (wq P d sw_c119 sw_h119 110 [r0, r1, r2, r3, vi x4, r5, r6, r7, r8, r9, r10, vi x11, t12] [] kc ks Q)) (e_q2 : s0 = .index q2 := by first | rfl | assumption) (y1 : s_ty r9 = 3 := by first | rfl | assumption)  : wr P d sw_c119 sw_h119 (105, [r0, r1, r2, r3, vi x4, r5, r6, r7, r8, r9, r10, vi x11, t12], [vi s2, s1, s0], h, kc, ks) Q := by
  refine w_ld rfl rfl (Or.inr (Or.inr ⟨by decide, y1⟩)) ?_
  subst e_q2
  exact w_cv rfl [.index q2, s1, vi s2, r9] [] rfl rfl (s_wt_4 rfl) rfl g4 k

theorem k119_110 {P : s_P} {d : Nat} {Q : s_O → Prop} {h : s_H} {kc ks : Nat} {r0 r1 r2 r3 : Term} {x4 : Int} {r5 r6 r7 r8 r9 r10 : Term} {x11 : Int} {t12 : Term} {q4 : Nat} {f5 : List Term} (g6 : s_get h q4 = some (1, 4, f5)) (k : wm P d 182 [.index q4, r9, r8] h (wq P d sw_c119 sw_h119 119 [r0, r1, r2, r3, vi x4, r5, r6, r7, r8, r9, .index q4, vi x11, t12] [] kc ks Q)) (e_q4 : r10 = .index q4 := by first | rfl | assumption) (y1 : s_ty r10 = 3 := by first | rfl | assumption) (y2 : s_ty r9 = 3 := by first | rfl | assumption) (y3 : s_ty r8 = 3 := by first | rfl | assumption)  : wr P d sw_c119 sw_h119 (110, [r0, r1, r2, r3, vi x4, r5, r6, r7, r8, r9, r10, vi x11, t12], [], h, kc, ks) Q := by
  refine w_ld rfl rfl (Or.inr (Or.inr ⟨by decide, y1⟩)) ?_
  refine w_ld rfl rfl (Or.inr (Or.inr ⟨by decide, y2⟩)) ?_
  refine w_ld rfl rfl (Or.inr (Or.inr ⟨by decide, y3⟩)) ?_
  subst e_q4
  exact w_cv rfl [.index q4, r9, r8] [] rfl rfl (s_wt_4 rfl) rfl g6 k

theorem k119_119 {P : s_P} {d : Nat} {Q : s_O → Prop} {h : s_H} {kc ks : Nat} {r0 r1 r2 r3 : Term} {x4 : Int} {r5 r6 r7 r8 r9 r10 : Term} {x11 : Int} {t12 : Term} {q3 : Nat} {f4 : List Term} (g5 : s_get h q3 = some (1, 4, f4)) (k : wm P d 184 [.index q3, .index q3, r10, vi 32002] h (wq P d sw_c119 sw_h119 131 [r0, r1, r2, r3, vi x4, r5, r6, .index q3, r8, r9, r10, vi x11, t12] [] kc ks Q)) (e_q3 : r7 = .index q3 := by first | rfl | assumption) (y1 : s_ty r7 = 3 := by first | rfl | assumption) (y2 : s_ty r10 = 3 := by first | rfl | assumption)  : wr P d sw_c119 sw_h119 (119, [r0, r1, r2, r3, vi x4, r5, r6, r7, r8, r9, r10, vi x11, t12], [], h, kc, ks) Q := by
  refine w_ld rfl rfl (Or.inr (Or.inr ⟨by decide, y1⟩)) ?_
  refine w_ld rfl rfl (Or.inr (Or.inr ⟨by decide, y1⟩)) ?_
  refine w_ld rfl rfl (Or.inr (Or.inr ⟨by decide, y2⟩)) ?_
  refine w_c32 rfl (by decide) 32002 (by decide) ?_
  subst e_q3
  exact w_cv rfl [.index q3, .index q3, r10, vi 32002] [] rfl rfl (s_wt_4 rfl) rfl g5 k

theorem k119_131 {P : s_P} {d : Nat} {Q : s_O → Prop} {h : s_H} {kc ks : Nat} {r0 r1 r2 r3 : Term} {x4 : Int} {r5 r6 r7 r8 r9 r10 : Term} {x11 : Int} {t12 : Term}  (k : wr P d sw_c119 sw_h119 (77, [r0, r1, r2, r3, vi x4, r6, r5, r8, r7, r9, r10, vi (x11 + 1), r7], [], h, kc, ks) Q) (y1 : s_ty r5 = 3 := by first | rfl | assumption) (y2 : s_ty r6 = 3 := by first | rfl | assumption) (y3 : s_ty r7 = 3 := by first | rfl | assumption) (y4 : s_ty r8 = 3 := by first | rfl | assumption) (y5 : s_ty r10 = 3 := by first | rfl | assumption)  : wr P d sw_c119 sw_h119 (131, [r0, r1, r2, r3, vi x4, r5, r6, r7, r8, r9, r10, vi x11, t12], [], h, kc, ks) Q := by
  refine w_ld rfl rfl (Or.inr (Or.inr ⟨by decide, y1⟩)) ?_
  refine w_st (ls' := [r0, r1, r2, r3, vi x4, r5, r6, r7, r8, r9, r10, vi x11, r5]) rfl (Or.inr ⟨by decide, y1⟩) rfl ?_
  refine w_ld rfl rfl (Or.inr (Or.inr ⟨by decide, y2⟩)) ?_
  refine w_st (ls' := [r0, r1, r2, r3, vi x4, r6, r6, r7, r8, r9, r10, vi x11, r5]) rfl (Or.inr ⟨by decide, y2⟩) rfl ?_
  refine w_ld rfl rfl (Or.inr (Or.inr ⟨by decide, y1⟩)) ?_
  refine w_st (ls' := [r0, r1, r2, r3, vi x4, r6, r5, r7, r8, r9, r10, vi x11, r5]) rfl (Or.inr ⟨by decide, y1⟩) (s_stK_r (pre := [r0, r1, r2, r3, vi x4]) y2) ?_
  refine w_ld rfl rfl (Or.inr (Or.inr ⟨by decide, y3⟩)) ?_
  refine w_st (ls' := [r0, r1, r2, r3, vi x4, r6, r5, r7, r8, r9, r10, vi x11, r7]) rfl (Or.inr ⟨by decide, y3⟩) rfl ?_
  refine w_ld rfl rfl (Or.inr (Or.inr ⟨by decide, y4⟩)) ?_
  refine w_st (ls' := [r0, r1, r2, r3, vi x4, r6, r5, r8, r8, r9, r10, vi x11, r7]) rfl (Or.inr ⟨by decide, y4⟩) (s_stK_r (pre := [r0, r1, r2, r3, vi x4, r6]) y1) ?_
  refine w_ld rfl rfl (Or.inr (Or.inr ⟨by decide, y3⟩)) ?_
  refine w_st (ls' := [r0, r1, r2, r3, vi x4, r6, r5, r8, r7, r9, r10, vi x11, r7]) rfl (Or.inr ⟨by decide, y3⟩) (s_stK_r (pre := [r0, r1, r2, r3, vi x4, r6, r5]) y4) ?_
  refine w_iinc (ls' := [r0, r1, r2, r3, vi x4, r6, r5, r8, r7, r9, r10, vi (x11 + 1), r7]) rfl rfl 1 (by decide) (s_stK_r (pre := [r0, r1, r2, r3, vi x4, r6, r5, r8, r7, r9]) y5) ?_
  refine w_goto rfl ?_
  exact k

theorem k119_161 {P : s_P} {d : Nat} {Q : s_O → Prop} {h : s_H} {kc ks : Nat} {r0 r1 r2 r3 : Term} {x4 : Int} {r5 r6 r7 r8 r9 r10 : Term} {x11 : Int} {t12 : Term} {q3 : Nat} {f4 : List Term} (g5 : s_get h q3 = some (1, 4, f4)) (k : wm P d 171 [.index q3] h (wq P d sw_c119 sw_h119 168 [r0, r1, r2, r3, vi x4, r5, .index q3, r7, r8, r9, r10, vi x11, t12] [r8] kc ks Q)) (e_q3 : r6 = .index q3 := by first | rfl | assumption) (y1 : s_ty r8 = 3 := by first | rfl | assumption) (y2 : s_ty r6 = 3 := by first | rfl | assumption)  : wr P d sw_c119 sw_h119 (161, [r0, r1, r2, r3, vi x4, r5, r6, r7, r8, r9, r10, vi x11, t12], [], h, kc, ks) Q := by
  refine w_ld rfl rfl (Or.inr (Or.inr ⟨by decide, y1⟩)) ?_
  refine w_ld rfl rfl (Or.inr (Or.inr ⟨by decide, y2⟩)) ?_
  subst e_q3
  exact w_cv rfl [.index q3] [r8] rfl rfl (s_wt_4 rfl) rfl g5 k

theorem k119_168 {P : s_P} {d : Nat} {Q : s_O → Prop} {h : s_H} {kc ks : Nat} {r0 r1 r2 r3 : Term} {x4 : Int} {r5 r6 r7 r8 r9 r10 : Term} {x11 : Int} {t12 s0 : Term} {s1 : Int}  (k : wm P d 168 [vi s1] h (wq P d sw_c119 sw_h119 171 [r0, r1, r2, r3, vi x4, r5, r6, r7, r8, r9, r10, vi x11, t12] [s0] kc ks Q))   : wr P d sw_c119 sw_h119 (168, [r0, r1, r2, r3, vi x4, r5, r6, r7, r8, r9, r10, vi x11, t12], [vi s1, s0], h, kc, ks) Q := by
  exact w_cs rfl [vi s1] [s0] rfl rfl (s_wt_4 rfl) k

theorem k119_171 {P : s_P} {d : Nat} {Q : s_O → Prop} {h : s_H} {kc ks : Nat} {r0 r1 r2 r3 : Term} {x4 : Int} {r5 r6 r7 r8 r9 r10 : Term} {x11 : Int} {t12 s0 : Term} {s1 : Int} {q1 : Nat} {f2 : List Term} (g3 : s_get h q1 = some (1, 4, f2)) (k : wm P d 178 [.index q1, vi s1] h (wq P d sw_c119 sw_h119 174 [r0, r1, r2, r3, vi x4, r5, r6, r7, r8, r9, r10, vi x11, t12] [] kc ks Q)) (e_q1 : s0 = .index q1 := by first | rfl | assumption)  : wr P d sw_c119 sw_h119 (171, [r0, r1, r2, r3, vi x4, r5, r6, r7, r8, r9, r10, vi x11, t12], [vi s1, s0], h, kc, ks) Q := by
  subst e_q1
  exact w_cv rfl [.index q1, vi s1] [] rfl rfl (s_wt_4 rfl) rfl g3 k

theorem k119_174 {P : s_P} {d : Nat} {Q : s_O → Prop} {h : s_H} {kc ks : Nat} {r0 r1 r2 r3 : Term} {x4 : Int} {r5 r6 r7 r8 r9 r10 : Term} {x11 : Int} {t12 : Term} {q3 : Nat} {f4 : List Term} (g5 : s_get h q3 = some (1, 4, f4)) (k : wm P d 179 [.index q3, r8] h (wq P d sw_c119 sw_h119 180 [r0, r1, r2, .index q3, vi x4, r5, r6, r7, r8, r9, r10, vi x11, t12] [] kc ks Q)) (e_q3 : r3 = .index q3 := by first | rfl | assumption) (y1 : s_ty r3 = 3 := by first | rfl | assumption) (y2 : s_ty r8 = 3 := by first | rfl | assumption)  : wr P d sw_c119 sw_h119 (174, [r0, r1, r2, r3, vi x4, r5, r6, r7, r8, r9, r10, vi x11, t12], [], h, kc, ks) Q := by
  refine w_ld rfl rfl (Or.inr (Or.inr ⟨by decide, y1⟩)) ?_
  refine w_ld rfl rfl (Or.inr (Or.inr ⟨by decide, y2⟩)) ?_
  subst e_q3
  exact w_cv rfl [.index q3, r8] [] rfl rfl (s_wt_4 rfl) rfl g5 k

theorem k119_180 {P : s_P} {d : Nat} {Q : s_O → Prop} {h : s_H} {kc ks : Nat} {r0 r1 r2 r3 : Term} {x4 : Int} {r5 r6 r7 r8 r9 r10 : Term} {x11 : Int} {t12 : Term} {q2 : Nat} {f3 : List Term} (g4 : s_get h q2 = some (1, 0, f3)) (k : wm P d 113 [.index q2, vi x4] h (wq P d sw_c119 sw_h119 186 [.index q2, r1, r2, r3, vi x4, r5, r6, r7, r8, r9, r10, vi x11, t12] [] kc ks Q)) (e_q2 : r0 = .index q2 := by first | rfl | assumption) (y1 : s_ty r0 = 3 := by first | rfl | assumption)  : wr P d sw_c119 sw_h119 (180, [r0, r1, r2, r3, vi x4, r5, r6, r7, r8, r9, r10, vi x11, t12], [], h, kc, ks) Q := by
  refine w_ld rfl rfl (Or.inr (Or.inr ⟨by decide, y1⟩)) ?_
  refine w_ld rfl rfl (Or.inl ⟨by decide, rfl⟩) ?_
  subst e_q2
  exact w_cv rfl [.index q2, vi x4] [] rfl rfl (s_wt_4 rfl) rfl g4 k

theorem k119_186 {P : s_P} {d : Nat} {Q : s_O → Prop} {h : s_H} {kc ks : Nat} {r0 r1 r2 r3 : Term} {x4 : Int} {r5 r6 r7 r8 r9 r10 : Term} {x11 : Int} {t12 : Term}  (k : Q (.inl none, h, kc, ks))   : wr P d sw_c119 sw_h119 (186, [r0, r1, r2, r3, vi x4, r5, r6, r7, r8, r9, r10, vi x11, t12], [], h, kc, ks) Q := by
  exact w_ret rfl k

/-! 120: FormulaWorks$Algebra.setSlopeTop(LFormulaWorks$Poly;LFormulaWorks$Poly;ILFormulaWorks$Poly;)V -/
theorem k120_0 {P : s_P} {d : Nat} {Q : s_O → Prop} {h : s_H} {kc ks : Nat} {r0 r1 r2 : Term} {x3 : Int} {r4 t5 t6 t7 t8 : Term} {q2 : Nat} {f3 : List Term} {z5 : Int} (g4 : s_get h q2 = some (1, 0, f3)) (k : wm P d 109 [.index q2] h (wq P d sw_c120 sw_h120 10 [.index q2, r1, r2, vi x3, r4, vi z5, t6, t7, t8] [] kc ks Q)) (e_q2 : r0 = .index q2 := by first | rfl | assumption) (y1 : s_ty r0 = 3 := by first | rfl | assumption) (n6 : s_nth f3 1 = some (vi z5) := by first | rfl | assumption) (y7 : s_ty r4 = 3 := by first | rfl | assumption)  : wr P d sw_c120 sw_h120 (0, [r0, r1, r2, vi x3, r4, t5, t6, t7, t8], [], h, kc, ks) Q := by
  refine w_ld rfl rfl (Or.inr (Or.inr ⟨by decide, y1⟩)) ?_
  subst e_q2
  refine w_getf rfl g4 n6 ?_
  refine w_st (ls' := [.index q2, r1, r2, vi x3, r4, vi z5, t6, t7, t8]) rfl (Or.inl ⟨by decide, rfl⟩) (s_stK_r (pre := [.index q2, r1, r2, vi x3]) y7) ?_
  refine w_ld rfl rfl (Or.inr (Or.inr ⟨by decide, rfl⟩)) ?_
  exact w_cv rfl [.index q2] [] rfl rfl (s_wt_4 rfl) rfl g4 k

theorem k120_10 {P : s_P} {d : Nat} {Q : s_O → Prop} {h : s_H} {kc ks : Nat} {r0 r1 r2 : Term} {x3 : Int} {r4 : Term} {x5 : Int} {t6 t7 t8 s0 : Term} {q3 : Nat} {f4 : List Term} (g5 : s_get h q3 = some (1, 0, f4)) (k : wm P d 109 [.index q3] h (wq P d sw_c120 sw_h120 16 [.index q3, r1, r2, vi x3, r4, vi x5, s0, t7, t8] [] kc ks Q)) (e_q3 : r0 = .index q3 := by first | rfl | assumption) (y1 : s_ty s0 = 3 := by first | rfl | assumption) (y2 : s_ty r0 = 3 := by first | rfl | assumption)  : wr P d sw_c120 sw_h120 (10, [r0, r1, r2, vi x3, r4, vi x5, t6, t7, t8], [s0], h, kc, ks) Q := by
  refine w_st (ls' := [r0, r1, r2, vi x3, r4, vi x5, s0, t7, t8]) rfl (Or.inr ⟨by decide, y1⟩) rfl ?_
  refine w_ld rfl rfl (Or.inr (Or.inr ⟨by decide, y2⟩)) ?_
  subst e_q3
  exact w_cv rfl [.index q3] [] rfl rfl (s_wt_4 rfl) rfl g5 k

theorem k120_16 {P : s_P} {d : Nat} {Q : s_O → Prop} {h : s_H} {kc ks : Nat} {r0 r1 r2 : Term} {x3 : Int} {r4 : Term} {x5 : Int} {r6 t7 t8 s0 : Term} {q4 : Nat} {f5 : List Term} (g6 : s_get h q4 = some (1, 0, f5)) (k : wm P d 109 [.index q4] h (wq P d sw_c120 sw_h120 22 [.index q4, r1, r2, vi x3, r4, vi x5, r6, s0, t8] [] kc ks Q)) (e_q4 : r0 = .index q4 := by first | rfl | assumption) (y1 : s_ty r6 = 3 := by first | rfl | assumption) (y2 : s_ty s0 = 3 := by first | rfl | assumption) (y3 : s_ty r0 = 3 := by first | rfl | assumption)  : wr P d sw_c120 sw_h120 (16, [r0, r1, r2, vi x3, r4, vi x5, r6, t7, t8], [s0], h, kc, ks) Q := by
  refine w_st (ls' := [r0, r1, r2, vi x3, r4, vi x5, r6, s0, t8]) rfl (Or.inr ⟨by decide, y2⟩) (s_stK_r (pre := [r0, r1, r2, vi x3, r4, vi x5]) y1) ?_
  refine w_ld rfl rfl (Or.inr (Or.inr ⟨by decide, y3⟩)) ?_
  subst e_q4
  exact w_cv rfl [.index q4] [] rfl rfl (s_wt_4 rfl) rfl g6 k

theorem k120_22 {P : s_P} {d : Nat} {Q : s_O → Prop} {h : s_H} {kc ks : Nat} {r0 r1 r2 : Term} {x3 : Int} {r4 : Term} {x5 : Int} {r6 r7 t8 s0 : Term} {q5 : Nat} {f6 : List Term} (g7 : s_get h q5 = some (1, 4, f6)) (k : wm P d 179 [.index q5, r1] h (wq P d sw_c120 sw_h120 30 [r0, r1, r2, vi x3, r4, vi x5, .index q5, r7, s0] [] kc ks Q)) (e_q5 : r6 = .index q5 := by first | rfl | assumption) (y1 : s_ty r7 = 3 := by first | rfl | assumption) (y2 : s_ty s0 = 3 := by first | rfl | assumption) (y3 : s_ty r6 = 3 := by first | rfl | assumption) (y4 : s_ty r1 = 3 := by first | rfl | assumption)  : wr P d sw_c120 sw_h120 (22, [r0, r1, r2, vi x3, r4, vi x5, r6, r7, t8], [s0], h, kc, ks) Q := by
  refine w_st (ls' := [r0, r1, r2, vi x3, r4, vi x5, r6, r7, s0]) rfl (Or.inr ⟨by decide, y2⟩) (s_stK_r (pre := [r0, r1, r2, vi x3, r4, vi x5, r6]) y1) ?_
  refine w_ld rfl rfl (Or.inr (Or.inr ⟨by decide, y3⟩)) ?_
  refine w_ld rfl rfl (Or.inr (Or.inr ⟨by decide, y4⟩)) ?_
  subst e_q5
  exact w_cv rfl [.index q5, r1] [] rfl rfl (s_wt_4 rfl) rfl g7 k

theorem k120_30 {P : s_P} {d : Nat} {Q : s_O → Prop} {h : s_H} {kc ks : Nat} {r0 r1 r2 : Term} {x3 : Int} {r4 : Term} {x5 : Int} {r6 r7 r8 : Term} {q2 : Nat} {f3 : List Term} (g4 : s_get h q2 = some (1, 4, f3)) (k : wm P d 174 [.index q2] h (wq P d sw_c120 sw_h120 35 [r0, r1, r2, vi x3, r4, vi x5, .index q2, r7, r8] [] kc ks Q)) (e_q2 : r6 = .index q2 := by first | rfl | assumption) (y1 : s_ty r6 = 3 := by first | rfl | assumption)  : wr P d sw_c120 sw_h120 (30, [r0, r1, r2, vi x3, r4, vi x5, r6, r7, r8], [], h, kc, ks) Q := by
  refine w_ld rfl rfl (Or.inr (Or.inr ⟨by decide, y1⟩)) ?_
  subst e_q2
  exact w_cv rfl [.index q2] [] rfl rfl (s_wt_4 rfl) rfl g4 k

theorem k120_35 {P : s_P} {d : Nat} {Q : s_O → Prop} {h : s_H} {kc ks : Nat} {r0 r1 r2 : Term} {x3 : Int} {r4 : Term} {x5 : Int} {r6 r7 r8 : Term} {q4 : Nat} {f5 : List Term} (g6 : s_get h q4 = some (1, 4, f5)) (k : wm P d 182 [.index q4, r6, r2] h (wq P d sw_c120 sw_h120 43 [r0, r1, r2, vi x3, r4, vi x5, r6, r7, .index q4] [] kc ks Q)) (e_q4 : r8 = .index q4 := by first | rfl | assumption) (y1 : s_ty r8 = 3 := by first | rfl | assumption) (y2 : s_ty r6 = 3 := by first | rfl | assumption) (y3 : s_ty r2 = 3 := by first | rfl | assumption)  : wr P d sw_c120 sw_h120 (35, [r0, r1, r2, vi x3, r4, vi x5, r6, r7, r8], [], h, kc, ks) Q := by
  refine w_ld rfl rfl (Or.inr (Or.inr ⟨by decide, y1⟩)) ?_
  refine w_ld rfl rfl (Or.inr (Or.inr ⟨by decide, y2⟩)) ?_
  refine w_ld rfl rfl (Or.inr (Or.inr ⟨by decide, y3⟩)) ?_
  subst e_q4
  exact w_cv rfl [.index q4, r6, r2] [] rfl rfl (s_wt_4 rfl) rfl g6 k

theorem k120_43 {P : s_P} {d : Nat} {Q : s_O → Prop} {h : s_H} {kc ks : Nat} {r0 r1 r2 : Term} {x3 : Int} {r4 : Term} {x5 : Int} {r6 r7 r8 : Term} {q3 : Nat} {f4 : List Term} (g5 : s_get h q3 = some (1, 4, f4)) (k : wm P d 179 [.index q3, r2] h (wq P d sw_c120 sw_h120 49 [r0, r1, r2, vi x3, r4, vi x5, .index q3, r7, r8] [] kc ks Q)) (e_q3 : r6 = .index q3 := by first | rfl | assumption) (y1 : s_ty r6 = 3 := by first | rfl | assumption) (y2 : s_ty r2 = 3 := by first | rfl | assumption)  : wr P d sw_c120 sw_h120 (43, [r0, r1, r2, vi x3, r4, vi x5, r6, r7, r8], [], h, kc, ks) Q := by
  refine w_ld rfl rfl (Or.inr (Or.inr ⟨by decide, y1⟩)) ?_
  refine w_ld rfl rfl (Or.inr (Or.inr ⟨by decide, y2⟩)) ?_
  subst e_q3
  exact w_cv rfl [.index q3, r2] [] rfl rfl (s_wt_4 rfl) rfl g5 k

theorem k120_49 {P : s_P} {d : Nat} {Q : s_O → Prop} {h : s_H} {kc ks : Nat} {r0 r1 r2 : Term} {x3 : Int} {r4 : Term} {x5 : Int} {r6 r7 r8 : Term} {q2 : Nat} {f3 : List Term} (g4 : s_get h q2 = some (1, 4, f3)) (k : wm P d 174 [.index q2] h (wq P d sw_c120 sw_h120 54 [r0, r1, r2, vi x3, r4, vi x5, .index q2, r7, r8] [] kc ks Q)) (e_q2 : r6 = .index q2 := by first | rfl | assumption) (y1 : s_ty r6 = 3 := by first | rfl | assumption)  : wr P d sw_c120 sw_h120 (49, [r0, r1, r2, vi x3, r4, vi x5, r6, r7, r8], [], h, kc, ks) Q := by
  refine w_ld rfl rfl (Or.inr (Or.inr ⟨by decide, y1⟩)) ?_
  subst e_q2
  exact w_cv rfl [.index q2] [] rfl rfl (s_wt_4 rfl) rfl g4 k

theorem k120_54 {P : s_P} {d : Nat} {Q : s_O → Prop} {h : s_H} {kc ks : Nat} {r0 r1 r2 : Term} {x3 : Int} {r4 : Term} {x5 : Int} {r6 r7 r8 : Term} {q4 : Nat} {f5 : List Term} (g6 : s_get h q4 = some (1, 4, f5)) (k : wm P d 182 [.index q4, r1, r6] h (wq P d sw_c120 sw_h120 62 [r0, r1, r2, vi x3, r4, vi x5, r6, .index q4, r8] [] kc ks Q)) (e_q4 : r7 = .index q4 := by first | rfl | assumption) (y1 : s_ty r7 = 3 := by first | rfl | assumption) (y2 : s_ty r1 = 3 := by first | rfl | assumption) (y3 : s_ty r6 = 3 := by first | rfl | assumption)  : wr P d sw_c120 sw_h120 (54, [r0, r1, r2, vi x3, r4, vi x5, r6, r7, r8], [], h, kc, ks) Q := by
  refine w_ld rfl rfl (Or.inr (Or.inr ⟨by decide, y1⟩)) ?_
  refine w_ld rfl rfl (Or.inr (Or.inr ⟨by decide, y2⟩)) ?_
  refine w_ld rfl rfl (Or.inr (Or.inr ⟨by decide, y3⟩)) ?_
  subst e_q4
  exact w_cv rfl [.index q4, r1, r6] [] rfl rfl (s_wt_4 rfl) rfl g6 k

theorem k120_62 {P : s_P} {d : Nat} {Q : s_O → Prop} {h : s_H} {kc ks : Nat} {r0 r1 r2 : Term} {x3 : Int} {r4 : Term} {x5 : Int} {r6 r7 r8 : Term} {q4 : Nat} {f5 : List Term} (g6 : s_get h q4 = some (1, 4, f5)) (k : wm P d 184 [.index q4, r8, r7, vi (32003 - x3)] h (wq P d sw_c120 sw_h120 76 [r0, r1, r2, vi x3, .index q4, vi x5, r6, r7, r8] [] kc ks Q)) (e_q4 : r4 = .index q4 := by first | rfl | assumption) (y1 : s_ty r4 = 3 := by first | rfl | assumption) (y2 : s_ty r8 = 3 := by first | rfl | assumption) (y3 : s_ty r7 = 3 := by first | rfl | assumption)  : wr P d sw_c120 sw_h120 (62, [r0, r1, r2, vi x3, r4, vi x5, r6, r7, r8], [], h, kc, ks) Q := by
  refine w_ld rfl rfl (Or.inr (Or.inr ⟨by decide, y1⟩)) ?_
  refine w_ld rfl rfl (Or.inr (Or.inr ⟨by decide, y2⟩)) ?_
  refine w_ld rfl rfl (Or.inr (Or.inr ⟨by decide, y3⟩)) ?_
  refine w_c32 rfl (by decide) 32003 (by decide) ?_
  refine w_ld rfl rfl (Or.inl ⟨by decide, rfl⟩) ?_
  refine w_isub rfl ?_
  subst e_q4
  exact w_cv rfl [.index q4, r8, r7, vi (32003 - x3)] [] rfl rfl (s_wt_4 rfl) rfl g6 k

theorem k120_76 {P : s_P} {d : Nat} {Q : s_O → Prop} {h : s_H} {kc ks : Nat} {r0 r1 r2 : Term} {x3 : Int} {r4 : Term} {x5 : Int} {r6 r7 r8 : Term} {q2 : Nat} {f3 : List Term} (g4 : s_get h q2 = some (1, 0, f3)) (k : wm P d 113 [.index q2, vi x5] h (wq P d sw_c120 sw_h120 82 [.index q2, r1, r2, vi x3, r4, vi x5, r6, r7, r8] [] kc ks Q)) (e_q2 : r0 = .index q2 := by first | rfl | assumption) (y1 : s_ty r0 = 3 := by first | rfl | assumption)  : wr P d sw_c120 sw_h120 (76, [r0, r1, r2, vi x3, r4, vi x5, r6, r7, r8], [], h, kc, ks) Q := by
  refine w_ld rfl rfl (Or.inr (Or.inr ⟨by decide, y1⟩)) ?_
  refine w_ld rfl rfl (Or.inl ⟨by decide, rfl⟩) ?_
  subst e_q2
  exact w_cv rfl [.index q2, vi x5] [] rfl rfl (s_wt_4 rfl) rfl g4 k

theorem k120_82 {P : s_P} {d : Nat} {Q : s_O → Prop} {h : s_H} {kc ks : Nat} {r0 r1 r2 : Term} {x3 : Int} {r4 : Term} {x5 : Int} {r6 r7 r8 : Term}  (k : Q (.inl none, h, kc, ks))   : wr P d sw_c120 sw_h120 (82, [r0, r1, r2, vi x3, r4, vi x5, r6, r7, r8], [], h, kc, ks) Q := by
  exact w_ret rfl k

/-! 121: FormulaWorks$Algebra.settle(LFormulaWorks$Poly;LFormulaWorks$Poly;LFormulaWorks$Thing;)LFormulaWorks$Thing; -/
theorem k121_0 {P : s_P} {d : Nat} {Q : s_O → Prop} {h : s_H} {kc ks : Nat} {r0 r1 r2 r3 t4 t5 : Term} {q2 : Nat} {f3 : List Term} {z5 : Int} (g4 : s_get h q2 = some (1, 0, f3)) (k : wm P d 109 [.index q2] h (wq P d sw_c121 sw_h121 10 [.index q2, r1, r2, r3, vi z5, t5] [] kc ks Q)) (e_q2 : r0 = .index q2 := by first | rfl | assumption) (y1 : s_ty r0 = 3 := by first | rfl | assumption) (n6 : s_nth f3 1 = some (vi z5) := by first | rfl | assumption) (y7 : s_ty r3 = 3 := by first | rfl | assumption)  : wr P d sw_c121 sw_h121 (0, [r0, r1, r2, r3, t4, t5], [], h, kc, ks) Q := by
  refine w_ld rfl rfl (Or.inr (Or.inr ⟨by decide, y1⟩)) ?_
  subst e_q2
  refine w_getf rfl g4 n6 ?_
  refine w_st (ls' := [.index q2, r1, r2, r3, vi z5, t5]) rfl (Or.inl ⟨by decide, rfl⟩) (s_stK_r (pre := [.index q2, r1, r2]) y7) ?_
  refine w_ld rfl rfl (Or.inr (Or.inr ⟨by decide, rfl⟩)) ?_
  exact w_cv rfl [.index q2] [] rfl rfl (s_wt_4 rfl) rfl g4 k

theorem k121_10 {P : s_P} {d : Nat} {Q : s_O → Prop} {h : s_H} {kc ks : Nat} {r0 r1 r2 r3 : Term} {x4 : Int} {t5 s0 : Term} {q3 : Nat} {f4 : List Term} {z6 : Int} (g5 : s_get h q3 = some (1, 4, f4)) (k1 : 0 ≤ z6 → wr P d sw_c121 sw_h121 (24, [r0, .index q3, r2, r3, vi x4, s0], [], h, kc, ks) Q) (k2 : ¬ 0 ≤ z6 → wr P d sw_c121 sw_h121 (19, [r0, .index q3, r2, r3, vi x4, s0], [], h, kc, ks) Q) (e_q3 : r1 = .index q3 := by first | rfl | assumption) (y1 : s_ty s0 = 3 := by first | rfl | assumption) (y2 : s_ty r1 = 3 := by first | rfl | assumption) (n7 : s_nth f4 1 = some (vi z6) := by first | rfl | assumption) (c8 : In3 z6 := by first | omega | assumption | (simp only [mk_len, List.length_map]; omega) | decide) : wr P d sw_c121 sw_h121 (10, [r0, r1, r2, r3, vi x4, t5], [s0], h, kc, ks) Q := by
  refine w_st (ls' := [r0, r1, r2, r3, vi x4, s0]) rfl (Or.inr ⟨by decide, y1⟩) rfl ?_
  refine w_ld rfl rfl (Or.inr (Or.inr ⟨by decide, y2⟩)) ?_
  subst e_q3
  refine w_getf rfl g5 n7 ?_
  exact w_if1 rfl c8 k1 k2

theorem k121_19 {P : s_P} {d : Nat} {Q : s_O → Prop} {h : s_H} {kc ks : Nat} {r0 r1 r2 r3 : Term} {x4 : Int} {r5 : Term} {q2 : Nat} {f3 : List Term} (g4 : s_get h q2 = some (1, 4, f3)) (k : wm P d 180 [.index q2, vi 1] h (wq P d sw_c121 sw_h121 24 [r0, r1, .index q2, r3, vi x4, r5] [] kc ks Q)) (e_q2 : r2 = .index q2 := by first | rfl | assumption) (y1 : s_ty r2 = 3 := by first | rfl | assumption)  : wr P d sw_c121 sw_h121 (19, [r0, r1, r2, r3, vi x4, r5], [], h, kc, ks) Q := by
  refine w_ld rfl rfl (Or.inr (Or.inr ⟨by decide, y1⟩)) ?_
  refine w_c32 rfl (by decide) 1 (by decide) ?_
  subst e_q2
  exact w_cv rfl [.index q2, vi 1] [] rfl rfl (s_wt_4 rfl) rfl g4 k

theorem k121_24 {P : s_P} {d : Nat} {Q : s_O → Prop} {h : s_H} {kc ks : Nat} {r0 r1 r2 r3 : Term} {x4 : Int} {r5 : Term} {q2 : Nat} {f3 : List Term} {z5 : Int} (g4 : s_get h q2 = some (1, 4, f3)) (k1 : z5 ≤ 0 → wr P d sw_c121 sw_h121 (65, [r0, r1, .index q2, r3, vi x4, r5], [], h, kc, ks) Q) (k2 : ¬ z5 ≤ 0 → wr P d sw_c121 sw_h121 (31, [r0, r1, .index q2, r3, vi x4, r5], [], h, kc, ks) Q) (e_q2 : r2 = .index q2 := by first | rfl | assumption) (y1 : s_ty r2 = 3 := by first | rfl | assumption) (n6 : s_nth f3 1 = some (vi z5) := by first | rfl | assumption) (c7 : In3 z5 := by first | omega | assumption | (simp only [mk_len, List.length_map]; omega) | decide) : wr P d sw_c121 sw_h121 (24, [r0, r1, r2, r3, vi x4, r5], [], h, kc, ks) Q := by
  refine w_ld rfl rfl (Or.inr (Or.inr ⟨by decide, y1⟩)) ?_
  subst e_q2
  refine w_getf rfl g4 n6 ?_
  exact w_if1 rfl c7 k1 k2

theorem k121_31 {P : s_P} {d : Nat} {Q : s_O → Prop} {h : s_H} {kc ks : Nat} {r0 r1 r2 r3 : Term} {x4 : Int} {r5 : Term} {q5 : Nat} {f6 : List Term} (g7 : s_get h q5 = some (1, 0, f6)) (k : wm P d 116 [.index q5, r1, r2, r5] h (wq P d sw_c121 sw_h121 39 [.index q5, r1, r2, r3, vi x4, r5] [] kc ks Q)) (e_q5 : r0 = .index q5 := by first | rfl | assumption) (y1 : s_ty r0 = 3 := by first | rfl | assumption) (y2 : s_ty r1 = 3 := by first | rfl | assumption) (y3 : s_ty r2 = 3 := by first | rfl | assumption) (y4 : s_ty r5 = 3 := by first | rfl | assumption)  : wr P d sw_c121 sw_h121 (31, [r0, r1, r2, r3, vi x4, r5], [], h, kc, ks) Q := by
  refine w_ld rfl rfl (Or.inr (Or.inr ⟨by decide, y1⟩)) ?_
  refine w_ld rfl rfl (Or.inr (Or.inr ⟨by decide, y2⟩)) ?_
  refine w_ld rfl rfl (Or.inr (Or.inr ⟨by decide, y3⟩)) ?_
  refine w_ld rfl rfl (Or.inr (Or.inr ⟨by decide, y4⟩)) ?_
  subst e_q5
  exact w_cv rfl [.index q5, r1, r2, r5] [] rfl rfl (s_wt_4 rfl) rfl g7 k

theorem k121_39 {P : s_P} {d : Nat} {Q : s_O → Prop} {h : s_H} {kc ks : Nat} {r0 r1 r2 r3 : Term} {x4 : Int} {r5 : Term} {q2 : Nat} {f3 : List Term} {z5 : Int} (g4 : s_get h q2 = some (1, 4, f3)) (k1 : z5 ≤ 0 → wr P d sw_c121 sw_h121 (65, [r0, r1, r2, r3, vi x4, .index q2], [], h, kc, ks) Q) (k2 : ¬ z5 ≤ 0 → wr P d sw_c121 sw_h121 (47, [r0, r1, r2, r3, vi x4, .index q2], [], h, kc, ks) Q) (e_q2 : r5 = .index q2 := by first | rfl | assumption) (y1 : s_ty r5 = 3 := by first | rfl | assumption) (n6 : s_nth f3 1 = some (vi z5) := by first | rfl | assumption) (c7 : In3 z5 := by first | omega | assumption | (simp only [mk_len, List.length_map]; omega) | decide) : wr P d sw_c121 sw_h121 (39, [r0, r1, r2, r3, vi x4, r5], [], h, kc, ks) Q := by
  refine w_ld rfl rfl (Or.inr (Or.inr ⟨by decide, y1⟩)) ?_
  subst e_q2
  refine w_getf rfl g4 n6 ?_
  exact w_if1 rfl c7 k1 k2

theorem k121_47 {P : s_P} {d : Nat} {Q : s_O → Prop} {h : s_H} {kc ks : Nat} {r0 r1 r2 r3 : Term} {x4 : Int} {r5 : Term} {q4 : Nat} {f5 : List Term} (g6 : s_get h q4 = some (1, 0, f5)) (k : wm P d 117 [.index q4, r1, r5, vi 1, r1] h (wq P d sw_c121 sw_h121 56 [.index q4, r1, r2, r3, vi x4, r5] [] kc ks Q)) (e_q4 : r0 = .index q4 := by first | rfl | assumption) (y1 : s_ty r0 = 3 := by first | rfl | assumption) (y2 : s_ty r1 = 3 := by first | rfl | assumption) (y3 : s_ty r5 = 3 := by first | rfl | assumption)  : wr P d sw_c121 sw_h121 (47, [r0, r1, r2, r3, vi x4, r5], [], h, kc, ks) Q := by
  refine w_ld rfl rfl (Or.inr (Or.inr ⟨by decide, y1⟩)) ?_
  refine w_ld rfl rfl (Or.inr (Or.inr ⟨by decide, y2⟩)) ?_
  refine w_ld rfl rfl (Or.inr (Or.inr ⟨by decide, y3⟩)) ?_
  refine w_c32 rfl (by decide) 1 (by decide) ?_
  refine w_ld rfl rfl (Or.inr (Or.inr ⟨by decide, y2⟩)) ?_
  subst e_q4
  exact w_cv rfl [.index q4, r1, r5, vi 1, r1] [] rfl rfl (s_wt_4 rfl) rfl g6 k

theorem k121_56 {P : s_P} {d : Nat} {Q : s_O → Prop} {h : s_H} {kc ks : Nat} {r0 r1 r2 r3 : Term} {x4 : Int} {r5 : Term} {q4 : Nat} {f5 : List Term} (g6 : s_get h q4 = some (1, 0, f5)) (k : wm P d 117 [.index q4, r2, r5, vi 1, r2] h (wq P d sw_c121 sw_h121 65 [.index q4, r1, r2, r3, vi x4, r5] [] kc ks Q)) (e_q4 : r0 = .index q4 := by first | rfl | assumption) (y1 : s_ty r0 = 3 := by first | rfl | assumption) (y2 : s_ty r2 = 3 := by first | rfl | assumption) (y3 : s_ty r5 = 3 := by first | rfl | assumption)  : wr P d sw_c121 sw_h121 (56, [r0, r1, r2, r3, vi x4, r5], [], h, kc, ks) Q := by
  refine w_ld rfl rfl (Or.inr (Or.inr ⟨by decide, y1⟩)) ?_
  refine w_ld rfl rfl (Or.inr (Or.inr ⟨by decide, y2⟩)) ?_
  refine w_ld rfl rfl (Or.inr (Or.inr ⟨by decide, y3⟩)) ?_
  refine w_c32 rfl (by decide) 1 (by decide) ?_
  refine w_ld rfl rfl (Or.inr (Or.inr ⟨by decide, y2⟩)) ?_
  subst e_q4
  exact w_cv rfl [.index q4, r2, r5, vi 1, r2] [] rfl rfl (s_wt_4 rfl) rfl g6 k

theorem k121_65 {P : s_P} {d : Nat} {Q : s_O → Prop} {h : s_H} {kc ks : Nat} {r0 r1 r2 r3 : Term} {x4 : Int} {r5 : Term} {q3 : Nat} {f4 : List Term} (g5 : s_get h q3 = some (1, 4, f4)) (k : wm P d 171 [.index q3] h (wq P d sw_c121 sw_h121 70 [r0, r1, .index q3, r3, vi x4, r5] [r1] kc ks Q)) (e_q3 : r2 = .index q3 := by first | rfl | assumption) (y1 : s_ty r1 = 3 := by first | rfl | assumption) (y2 : s_ty r2 = 3 := by first | rfl | assumption)  : wr P d sw_c121 sw_h121 (65, [r0, r1, r2, r3, vi x4, r5], [], h, kc, ks) Q := by
  refine w_ld rfl rfl (Or.inr (Or.inr ⟨by decide, y1⟩)) ?_
  refine w_ld rfl rfl (Or.inr (Or.inr ⟨by decide, y2⟩)) ?_
  subst e_q3
  exact w_cv rfl [.index q3] [r1] rfl rfl (s_wt_4 rfl) rfl g5 k

theorem k121_70 {P : s_P} {d : Nat} {Q : s_O → Prop} {h : s_H} {kc ks : Nat} {r0 r1 r2 r3 : Term} {x4 : Int} {r5 s0 : Term} {s1 : Int}  (k : wm P d 168 [vi s1] h (wq P d sw_c121 sw_h121 73 [r0, r1, r2, r3, vi x4, r5] [s0] kc ks Q))   : wr P d sw_c121 sw_h121 (70, [r0, r1, r2, r3, vi x4, r5], [vi s1, s0], h, kc, ks) Q := by
  exact w_cs rfl [vi s1] [s0] rfl rfl (s_wt_4 rfl) k

theorem k121_73 {P : s_P} {d : Nat} {Q : s_O → Prop} {h : s_H} {kc ks : Nat} {r0 r1 r2 r3 : Term} {x4 : Int} {r5 s0 : Term} {s1 : Int} {q1 : Nat} {f2 : List Term} (g3 : s_get h q1 = some (1, 4, f2)) (k : wm P d 178 [.index q1, vi s1] h (wq P d sw_c121 sw_h121 76 [r0, r1, r2, r3, vi x4, r5] [] kc ks Q)) (e_q1 : s0 = .index q1 := by first | rfl | assumption)  : wr P d sw_c121 sw_h121 (73, [r0, r1, r2, r3, vi x4, r5], [vi s1, s0], h, kc, ks) Q := by
  subst e_q1
  exact w_cv rfl [.index q1, vi s1] [] rfl rfl (s_wt_4 rfl) rfl g3 k

theorem k121_76 {P : s_P} {d : Nat} {Q : s_O → Prop} {h : s_H} {kc ks : Nat} {r0 r1 r2 r3 : Term} {x4 : Int} {r5 : Term} {q2 : Nat} {f3 : List Term} (g4 : s_get h q2 = some (1, 4, f3)) (k : wm P d 173 [.index q2] h (wq P d sw_c121 sw_h121 80 [r0, r1, .index q2, r3, vi x4, r5] [] kc ks Q)) (e_q2 : r2 = .index q2 := by first | rfl | assumption) (y1 : s_ty r2 = 3 := by first | rfl | assumption)  : wr P d sw_c121 sw_h121 (76, [r0, r1, r2, r3, vi x4, r5], [], h, kc, ks) Q := by
  refine w_ld rfl rfl (Or.inr (Or.inr ⟨by decide, y1⟩)) ?_
  subst e_q2
  exact w_cv rfl [.index q2] [] rfl rfl (s_wt_4 rfl) rfl g4 k

theorem k121_80 {P : s_P} {d : Nat} {Q : s_O → Prop} {h : s_H} {kc ks : Nat} {r0 r1 r2 r3 : Term} {x4 : Int} {r5 : Term} {q2 : Nat} {f3 : List Term} {z5 : Int} (g4 : s_get h q2 = some (1, 4, f3)) (k1 : 40 < z5 → wr P d sw_c121 sw_h121 (98, [r0, .index q2, r2, r3, vi x4, r5], [], h, kc, ks) Q) (k2 : ¬ 40 < z5 → wr P d sw_c121 sw_h121 (89, [r0, .index q2, r2, r3, vi x4, r5], [], h, kc, ks) Q) (e_q2 : r1 = .index q2 := by first | rfl | assumption) (y1 : s_ty r1 = 3 := by first | rfl | assumption) (n6 : s_nth f3 1 = some (vi z5) := by first | rfl | assumption) (c7 : In3 z5 := by first | omega | assumption | (simp only [mk_len, List.length_map]; omega) | decide) : wr P d sw_c121 sw_h121 (80, [r0, r1, r2, r3, vi x4, r5], [], h, kc, ks) Q := by
  refine w_ld rfl rfl (Or.inr (Or.inr ⟨by decide, y1⟩)) ?_
  subst e_q2
  refine w_getf rfl g4 n6 ?_
  refine w_c32 rfl (by decide) 40 (by decide) ?_
  exact w_if2 rfl c7 (by decide) k1 k2

theorem k121_89 {P : s_P} {d : Nat} {Q : s_O → Prop} {h : s_H} {kc ks : Nat} {r0 r1 r2 r3 : Term} {x4 : Int} {r5 : Term} {q2 : Nat} {f3 : List Term} {z5 : Int} (g4 : s_get h q2 = some (1, 4, f3)) (k1 : z5 ≤ 40 → wr P d sw_c121 sw_h121 (106, [r0, r1, .index q2, r3, vi x4, r5], [], h, kc, ks) Q) (k2 : ¬ z5 ≤ 40 → wr P d sw_c121 sw_h121 (98, [r0, r1, .index q2, r3, vi x4, r5], [], h, kc, ks) Q) (e_q2 : r2 = .index q2 := by first | rfl | assumption) (y1 : s_ty r2 = 3 := by first | rfl | assumption) (n6 : s_nth f3 1 = some (vi z5) := by first | rfl | assumption) (c7 : In3 z5 := by first | omega | assumption | (simp only [mk_len, List.length_map]; omega) | decide) : wr P d sw_c121 sw_h121 (89, [r0, r1, r2, r3, vi x4, r5], [], h, kc, ks) Q := by
  refine w_ld rfl rfl (Or.inr (Or.inr ⟨by decide, y1⟩)) ?_
  subst e_q2
  refine w_getf rfl g4 n6 ?_
  refine w_c32 rfl (by decide) 40 (by decide) ?_
  exact w_if2 rfl c7 (by decide) k1 k2

theorem k121_98 {P : s_P} {d : Nat} {Q : s_O → Prop} {h : s_H} {kc ks : Nat} {r0 r1 r2 r3 : Term} {x4 : Int} {r5 : Term} {q2 : Nat} {f3 : List Term} (g4 : s_get h q2 = some (1, 8, f3)) (k : wr P d sw_c121 sw_h121 (112, [r0, r1, r2, .index q2, vi x4, r5], [], (hp h q2 (1, 8, f3.set 7 (vi 5))), kc, ks) Q) (e_q2 : r3 = .index q2 := by first | rfl | assumption) (y1 : s_ty r3 = 3 := by first | rfl | assumption) (l5 : 7 < f3.length := by first | exact Nat.le_of_ble_eq_true rfl | omega | assumption) (c6 : 0 < q2 := by first | omega | assumption | (simp only [mk_len, List.length_map]; omega) | decide) : wr P d sw_c121 sw_h121 (98, [r0, r1, r2, r3, vi x4, r5], [], h, kc, ks) Q := by
  refine w_ld rfl rfl (Or.inr (Or.inr ⟨by decide, y1⟩)) ?_
  refine w_c32 rfl (by decide) 5 (by decide) ?_
  subst e_q2
  refine w_putf rfl g4 (Nat.ble_eq_true_of_le c6) rfl (Nat.ble_eq_true_of_le l5) ?_
  refine w_goto rfl ?_
  exact k

theorem k121_106 {P : s_P} {d : Nat} {Q : s_O → Prop} {h : s_H} {kc ks : Nat} {r0 r1 r2 r3 : Term} {x4 : Int} {r5 : Term} {q4 : Nat} {f5 : List Term} (g6 : s_get h q4 = some (1, 8, f5)) (k : wm P d 272 [.index q4, r1, r2] h (wq P d sw_c121 sw_h121 112 [r0, r1, r2, .index q4, vi x4, r5] [] kc ks Q)) (e_q4 : r3 = .index q4 := by first | rfl | assumption) (y1 : s_ty r3 = 3 := by first | rfl | assumption) (y2 : s_ty r1 = 3 := by first | rfl | assumption) (y3 : s_ty r2 = 3 := by first | rfl | assumption)  : wr P d sw_c121 sw_h121 (106, [r0, r1, r2, r3, vi x4, r5], [], h, kc, ks) Q := by
  refine w_ld rfl rfl (Or.inr (Or.inr ⟨by decide, y1⟩)) ?_
  refine w_ld rfl rfl (Or.inr (Or.inr ⟨by decide, y2⟩)) ?_
  refine w_ld rfl rfl (Or.inr (Or.inr ⟨by decide, y3⟩)) ?_
  subst e_q4
  exact w_cv rfl [.index q4, r1, r2] [] rfl rfl (s_wt_4 rfl) rfl g6 k

theorem k121_112 {P : s_P} {d : Nat} {Q : s_O → Prop} {h : s_H} {kc ks : Nat} {r0 r1 r2 r3 : Term} {x4 : Int} {r5 : Term} {q2 : Nat} {f3 : List Term} (g4 : s_get h q2 = some (1, 0, f3)) (k : wm P d 113 [.index q2, vi x4] h (wq P d sw_c121 sw_h121 118 [.index q2, r1, r2, r3, vi x4, r5] [] kc ks Q)) (e_q2 : r0 = .index q2 := by first | rfl | assumption) (y1 : s_ty r0 = 3 := by first | rfl | assumption)  : wr P d sw_c121 sw_h121 (112, [r0, r1, r2, r3, vi x4, r5], [], h, kc, ks) Q := by
  refine w_ld rfl rfl (Or.inr (Or.inr ⟨by decide, y1⟩)) ?_
  refine w_ld rfl rfl (Or.inl ⟨by decide, rfl⟩) ?_
  subst e_q2
  exact w_cv rfl [.index q2, vi x4] [] rfl rfl (s_wt_4 rfl) rfl g4 k

theorem k121_118 {P : s_P} {d : Nat} {Q : s_O → Prop} {h : s_H} {kc ks : Nat} {r0 r1 r2 r3 : Term} {x4 : Int} {r5 : Term}  (k : Q (.inl (some r3), h, kc, ks)) (y1 : s_ty r3 = 3 := by first | rfl | assumption)  : wr P d sw_c121 sw_h121 (118, [r0, r1, r2, r3, vi x4, r5], [], h, kc, ks) Q := by
  refine w_ld rfl rfl (Or.inr (Or.inr ⟨by decide, y1⟩)) ?_
  exact w_aret rfl y1 k

/-! 122: FormulaWorks$Algebra.slopeOf(LFormulaWorks$Thing;LFormulaWorks$Thing;)LFormulaWorks$Thing; -/
theorem k122_0 {P : s_P} {d : Nat} {Q : s_O → Prop} {h : s_H} {kc ks : Nat} {r0 r1 r2 t3 t4 t5 : Term} {q2 : Nat} {f3 : List Term} {z5 : Int} (g4 : s_get h q2 = some (1, 0, f3)) (k : wm P d 109 [.index q2] h (wq P d sw_c122 sw_h122 9 [.index q2, r1, r2, vi z5, t4, t5] [] kc ks Q)) (e_q2 : r0 = .index q2 := by first | rfl | assumption) (y1 : s_ty r0 = 3 := by first | rfl | assumption) (n6 : s_nth f3 1 = some (vi z5) := by first | rfl | assumption) (y7 : s_ty r2 = 3 := by first | rfl | assumption)  : wr P d sw_c122 sw_h122 (0, [r0, r1, r2, t3, t4, t5], [], h, kc, ks) Q := by
  refine w_ld rfl rfl (Or.inr (Or.inr ⟨by decide, y1⟩)) ?_
  subst e_q2
  refine w_getf rfl g4 n6 ?_
  refine w_st (ls' := [.index q2, r1, r2, vi z5, t4, t5]) rfl (Or.inl ⟨by decide, rfl⟩) (s_stK_r (pre := [.index q2, r1]) y7) ?_
  refine w_ld rfl rfl (Or.inr (Or.inr ⟨by decide, rfl⟩)) ?_
  exact w_cv rfl [.index q2] [] rfl rfl (s_wt_4 rfl) rfl g4 k

theorem k122_9 {P : s_P} {d : Nat} {Q : s_O → Prop} {h : s_H} {kc ks : Nat} {r0 r1 r2 : Term} {x3 : Int} {t4 t5 s0 : Term} {q3 : Nat} {f4 : List Term} (g5 : s_get h q3 = some (1, 0, f4)) (k : wm P d 109 [.index q3] h (wq P d sw_c122 sw_h122 15 [.index q3, r1, r2, vi x3, s0, t5] [] kc ks Q)) (e_q3 : r0 = .index q3 := by first | rfl | assumption) (y1 : s_ty s0 = 3 := by first | rfl | assumption) (y2 : s_ty r0 = 3 := by first | rfl | assumption)  : wr P d sw_c122 sw_h122 (9, [r0, r1, r2, vi x3, t4, t5], [s0], h, kc, ks) Q := by
  refine w_st (ls' := [r0, r1, r2, vi x3, s0, t5]) rfl (Or.inr ⟨by decide, y1⟩) rfl ?_
  refine w_ld rfl rfl (Or.inr (Or.inr ⟨by decide, y2⟩)) ?_
  subst e_q3
  exact w_cv rfl [.index q3] [] rfl rfl (s_wt_4 rfl) rfl g5 k

theorem k122_15 {P : s_P} {d : Nat} {Q : s_O → Prop} {h : s_H} {kc ks : Nat} {r0 r1 r2 : Term} {x3 : Int} {r4 t5 s0 : Term} {q5 : Nat} {f6 : List Term} {v8 v10 : Term} {q12 : Nat} {f13 : List Term} (g7 : s_get h q5 = some (1, 8, f6)) (g14 : s_get h q12 = some (1, 0, f13)) (k : wm P d 120 [.index q12, v8, v10, vi 1, r4] h (wq P d sw_c122 sw_h122 32 [.index q12, .index q5, r2, vi x3, r4, s0] [] kc ks Q)) (e_q5 : r1 = .index q5 := by first | rfl | assumption) (e_q12 : r0 = .index q12 := by first | rfl | assumption) (y1 : s_ty r4 = 3 := by first | rfl | assumption) (y2 : s_ty s0 = 3 := by first | rfl | assumption) (y3 : s_ty r0 = 3 := by first | rfl | assumption) (y4 : s_ty r1 = 3 := by first | rfl | assumption) (n9 : s_nth f6 1 = some v8 := by first | rfl | assumption) (n11 : s_nth f6 2 = some v10 := by first | rfl | assumption)  : wr P d sw_c122 sw_h122 (15, [r0, r1, r2, vi x3, r4, t5], [s0], h, kc, ks) Q := by
  refine w_st (ls' := [r0, r1, r2, vi x3, r4, s0]) rfl (Or.inr ⟨by decide, y2⟩) (s_stK_r (pre := [r0, r1, r2, vi x3]) y1) ?_
  refine w_ld rfl rfl (Or.inr (Or.inr ⟨by decide, y3⟩)) ?_
  refine w_ld rfl rfl (Or.inr (Or.inr ⟨by decide, y4⟩)) ?_
  subst e_q5
  refine w_getf rfl g7 n9 ?_
  refine w_ld rfl rfl (Or.inr (Or.inr ⟨by decide, rfl⟩)) ?_
  refine w_getf rfl g7 n11 ?_
  refine w_c32 rfl (by decide) 1 (by decide) ?_
  refine w_ld rfl rfl (Or.inr (Or.inr ⟨by decide, y1⟩)) ?_
  subst e_q12
  exact w_cv rfl [.index q12, v8, v10, vi 1, r4] [] rfl rfl (s_wt_4 rfl) rfl g14 k

theorem k122_32 {P : s_P} {d : Nat} {Q : s_O → Prop} {h : s_H} {kc ks : Nat} {r0 r1 r2 : Term} {x3 : Int} {r4 r5 : Term} {q3 : Nat} {f4 : List Term} {v6 : Term} {q8 : Nat} {f9 : List Term} (g5 : s_get h q3 = some (1, 8, f4)) (g10 : s_get h q8 = some (1, 4, f9)) (k : wm P d 182 [.index q8, v6, v6] h (wq P d sw_c122 sw_h122 45 [r0, .index q3, r2, vi x3, r4, .index q8] [] kc ks Q)) (e_q3 : r1 = .index q3 := by first | rfl | assumption) (e_q8 : r5 = .index q8 := by first | rfl | assumption) (y1 : s_ty r5 = 3 := by first | rfl | assumption) (y2 : s_ty r1 = 3 := by first | rfl | assumption) (n7 : s_nth f4 2 = some v6 := by first | rfl | assumption)  : wr P d sw_c122 sw_h122 (32, [r0, r1, r2, vi x3, r4, r5], [], h, kc, ks) Q := by
  refine w_ld rfl rfl (Or.inr (Or.inr ⟨by decide, y1⟩)) ?_
  refine w_ld rfl rfl (Or.inr (Or.inr ⟨by decide, y2⟩)) ?_
  subst e_q3
  refine w_getf rfl g5 n7 ?_
  refine w_ld rfl rfl (Or.inr (Or.inr ⟨by decide, rfl⟩)) ?_
  refine w_getf rfl g5 n7 ?_
  subst e_q8
  exact w_cv rfl [.index q8, v6, v6] [] rfl rfl (s_wt_4 rfl) rfl g10 k

theorem k122_45 {P : s_P} {d : Nat} {Q : s_O → Prop} {h : s_H} {kc ks : Nat} {r0 r1 r2 : Term} {x3 : Int} {r4 r5 : Term} {q5 : Nat} {f6 : List Term} (g7 : s_get h q5 = some (1, 0, f6)) (k : wm P d 121 [.index q5, r4, r5, r2] h (wq P d sw_c122 sw_h122 54 [.index q5, r1, r2, vi x3, r4, r5] [] kc ks Q)) (e_q5 : r0 = .index q5 := by first | rfl | assumption) (y1 : s_ty r0 = 3 := by first | rfl | assumption) (y2 : s_ty r4 = 3 := by first | rfl | assumption) (y3 : s_ty r5 = 3 := by first | rfl | assumption) (y4 : s_ty r2 = 3 := by first | rfl | assumption)  : wr P d sw_c122 sw_h122 (45, [r0, r1, r2, vi x3, r4, r5], [], h, kc, ks) Q := by
  refine w_ld rfl rfl (Or.inr (Or.inr ⟨by decide, y1⟩)) ?_
  refine w_ld rfl rfl (Or.inr (Or.inr ⟨by decide, y2⟩)) ?_
  refine w_ld rfl rfl (Or.inr (Or.inr ⟨by decide, y3⟩)) ?_
  refine w_ld rfl rfl (Or.inr (Or.inr ⟨by decide, y4⟩)) ?_
  subst e_q5
  exact w_cv rfl [.index q5, r4, r5, r2] [] rfl rfl (s_wt_4 rfl) rfl g7 k

theorem k122_54 {P : s_P} {d : Nat} {Q : s_O → Prop} {h : s_H} {kc ks : Nat} {r0 r1 r2 : Term} {x3 : Int} {r4 r5 s0 : Term} {q3 : Nat} {f4 : List Term} (g5 : s_get h q3 = some (1, 0, f4)) (k : wm P d 113 [.index q3, vi x3] h (wq P d sw_c122 sw_h122 60 [.index q3, r1, r2, vi x3, r4, r5] [] kc ks Q)) (e_q3 : r0 = .index q3 := by first | rfl | assumption) (y1 : s_ty s0 = 3 := by first | rfl | assumption) (y2 : s_ty r0 = 3 := by first | rfl | assumption)  : wr P d sw_c122 sw_h122 (54, [r0, r1, r2, vi x3, r4, r5], [s0], h, kc, ks) Q := by
  refine w_pop rfl (by rw [y1]; rfl) ?_
  refine w_ld rfl rfl (Or.inr (Or.inr ⟨by decide, y2⟩)) ?_
  refine w_ld rfl rfl (Or.inl ⟨by decide, rfl⟩) ?_
  subst e_q3
  exact w_cv rfl [.index q3, vi x3] [] rfl rfl (s_wt_4 rfl) rfl g5 k

theorem k122_60 {P : s_P} {d : Nat} {Q : s_O → Prop} {h : s_H} {kc ks : Nat} {r0 r1 r2 : Term} {x3 : Int} {r4 r5 : Term}  (k : Q (.inl (some r2), h, kc, ks)) (y1 : s_ty r2 = 3 := by first | rfl | assumption)  : wr P d sw_c122 sw_h122 (60, [r0, r1, r2, vi x3, r4, r5], [], h, kc, ks) Q := by
  refine w_ld rfl rfl (Or.inr (Or.inr ⟨by decide, y1⟩)) ?_
  exact w_aret rfl y1 k

/-! 124: FormulaWorks$Linear.begin(II)V -/
theorem k124_0 {P : s_P} {d : Nat} {Q : s_O → Prop} {h : s_H} {kc ks : Nat} {r0 : Term} {x1 x2 : Int} {t3 : Term}  (k1 : 64 ≤ x1 → wr P d sw_c124 sw_h124 (11, [r0, vi x1, vi x2, t3], [r0], h, kc, ks) Q) (k2 : ¬ 64 ≤ x1 → wr P d sw_c124 sw_h124 (7, [r0, vi x1, vi x2, t3], [r0], h, kc, ks) Q) (y1 : s_ty r0 = 3 := by first | rfl | assumption) (c2 : In3 x1 := by first | omega | assumption | (simp only [mk_len, List.length_map]; omega) | decide) : wr P d sw_c124 sw_h124 (0, [r0, vi x1, vi x2, t3], [], h, kc, ks) Q := by
  refine w_ld rfl rfl (Or.inr (Or.inr ⟨by decide, y1⟩)) ?_
  refine w_ld rfl rfl (Or.inl ⟨by decide, rfl⟩) ?_
  refine w_c32 rfl (by decide) 64 (by decide) ?_
  exact w_if2 rfl c2 (by decide) k1 k2

theorem k124_7 {P : s_P} {d : Nat} {Q : s_O → Prop} {h : s_H} {kc ks : Nat} {r0 : Term} {x1 x2 : Int} {t3 s0 : Term}  (k : wr P d sw_c124 sw_h124 (13, [r0, vi x1, vi x2, t3], [vi x1, s0], h, kc, ks) Q)   : wr P d sw_c124 sw_h124 (7, [r0, vi x1, vi x2, t3], [s0], h, kc, ks) Q := by
  refine w_ld rfl rfl (Or.inl ⟨by decide, rfl⟩) ?_
  refine w_goto rfl ?_
  exact k

theorem k124_11 {P : s_P} {d : Nat} {Q : s_O → Prop} {h : s_H} {kc ks : Nat} {r0 : Term} {x1 x2 : Int} {t3 s0 : Term}  (k : wr P d sw_c124 sw_h124 (13, [r0, vi x1, vi x2, t3], [vi 64, s0], h, kc, ks) Q)   : wr P d sw_c124 sw_h124 (11, [r0, vi x1, vi x2, t3], [s0], h, kc, ks) Q := by
  refine w_c32 rfl (by decide) 64 (by decide) ?_
  exact k

theorem k124_13 {P : s_P} {d : Nat} {Q : s_O → Prop} {h : s_H} {kc ks : Nat} {r0 : Term} {x1 x2 : Int} {t3 s0 : Term} {s1 : Int} {q1 : Nat} {f2 : List Term} (g3 : s_get h q1 = some (1, 1, f2)) (k1 : 44 ≤ x2 → wr P d sw_c124 sw_h124 (27, [r0, vi x1, vi x2, t3], [r0], (hp h q1 (1, 1, f2.set 3 (vi s1))), kc, ks) Q) (k2 : ¬ 44 ≤ x2 → wr P d sw_c124 sw_h124 (23, [r0, vi x1, vi x2, t3], [r0], (hp h q1 (1, 1, f2.set 3 (vi s1))), kc, ks) Q) (e_q1 : s0 = .index q1 := by first | rfl | assumption) (l4 : 3 < f2.length := by first | exact Nat.le_of_ble_eq_true rfl | omega | assumption) (y6 : s_ty r0 = 3 := by first | rfl | assumption) (c5 : 0 < q1 := by first | omega | assumption | (simp only [mk_len, List.length_map]; omega) | decide) (c7 : In3 x2 := by first | omega | assumption | (simp only [mk_len, List.length_map]; omega) | decide) : wr P d sw_c124 sw_h124 (13, [r0, vi x1, vi x2, t3], [vi s1, s0], h, kc, ks) Q := by
  subst e_q1
  refine w_putf rfl g3 (Nat.ble_eq_true_of_le c5) rfl (Nat.ble_eq_true_of_le l4) ?_
  refine w_ld rfl rfl (Or.inr (Or.inr ⟨by decide, y6⟩)) ?_
  refine w_ld rfl rfl (Or.inl ⟨by decide, rfl⟩) ?_
  refine w_c32 rfl (by decide) 44 (by decide) ?_
  exact w_if2 rfl c7 (by decide) k1 k2

theorem k124_23 {P : s_P} {d : Nat} {Q : s_O → Prop} {h : s_H} {kc ks : Nat} {r0 : Term} {x1 x2 : Int} {t3 s0 : Term}  (k : wr P d sw_c124 sw_h124 (29, [r0, vi x1, vi x2, t3], [vi x2, s0], h, kc, ks) Q)   : wr P d sw_c124 sw_h124 (23, [r0, vi x1, vi x2, t3], [s0], h, kc, ks) Q := by
  refine w_ld rfl rfl (Or.inl ⟨by decide, rfl⟩) ?_
  refine w_goto rfl ?_
  exact k

theorem k124_27 {P : s_P} {d : Nat} {Q : s_O → Prop} {h : s_H} {kc ks : Nat} {r0 : Term} {x1 x2 : Int} {t3 s0 : Term}  (k : wr P d sw_c124 sw_h124 (29, [r0, vi x1, vi x2, t3], [vi 44, s0], h, kc, ks) Q)   : wr P d sw_c124 sw_h124 (27, [r0, vi x1, vi x2, t3], [s0], h, kc, ks) Q := by
  refine w_c32 rfl (by decide) 44 (by decide) ?_
  exact k

theorem k124_29 {P : s_P} {d : Nat} {Q : s_O → Prop} {h : s_H} {kc ks : Nat} {r0 : Term} {x1 x2 : Int} {t3 s0 : Term} {s1 : Int} {q1 : Nat} {f2 : List Term} (g3 : s_get h q1 = some (1, 1, f2)) (k : wr P d sw_c124 sw_h124 (34, [r0, vi x1, vi x2, vi 0], [], (hp h q1 (1, 1, f2.set 4 (vi s1))), kc, ks) Q) (e_q1 : s0 = .index q1 := by first | rfl | assumption) (l4 : 4 < f2.length := by first | exact Nat.le_of_ble_eq_true rfl | omega | assumption) (c5 : 0 < q1 := by first | omega | assumption | (simp only [mk_len, List.length_map]; omega) | decide) : wr P d sw_c124 sw_h124 (29, [r0, vi x1, vi x2, t3], [vi s1, s0], h, kc, ks) Q := by
  subst e_q1
  refine w_putf rfl g3 (Nat.ble_eq_true_of_le c5) rfl (Nat.ble_eq_true_of_le l4) ?_
  refine w_c32 rfl (by decide) 0 (by decide) ?_
  refine w_st (ls' := [r0, vi x1, vi x2, vi 0]) rfl (Or.inl ⟨by decide, rfl⟩) rfl ?_
  exact k

theorem k124_34 {P : s_P} {d : Nat} {Q : s_O → Prop} {h : s_H} {kc ks : Nat} {r0 : Term} {x1 x2 x3 : Int} {q2 : Nat} {f3 : List Term} {z5 : Int} (g4 : s_get h q2 = some (1, 1, f3)) (k1 : z5 ≤ x3 → wr P d sw_c124 sw_h124 (58, [.index q2, vi x1, vi x2, vi x3], [], h, kc, ks) Q) (k2 : ¬ z5 ≤ x3 → wr P d sw_c124 sw_h124 (42, [.index q2, vi x1, vi x2, vi x3], [], h, kc, ks) Q) (e_q2 : r0 = .index q2 := by first | rfl | assumption) (y1 : s_ty r0 = 3 := by first | rfl | assumption) (n6 : s_nth f3 3 = some (vi z5) := by first | rfl | assumption) (c7 : In3 x3 := by first | omega | assumption | (simp only [mk_len, List.length_map]; omega) | decide) (c8 : In3 z5 := by first | omega | assumption | (simp only [mk_len, List.length_map]; omega) | decide) : wr P d sw_c124 sw_h124 (34, [r0, vi x1, vi x2, vi x3], [], h, kc, ks) Q := by
  refine w_ld rfl rfl (Or.inl ⟨by decide, rfl⟩) ?_
  refine w_ld rfl rfl (Or.inr (Or.inr ⟨by decide, y1⟩)) ?_
  subst e_q2
  refine w_getf rfl g4 n6 ?_
  exact w_if2 rfl c7 c8 k1 k2

theorem k124_42 {P : s_P} {d : Nat} {Q : s_O → Prop} {h : s_H} {kc ks : Nat} {r0 : Term} {x1 x2 x3 : Int} {q2 : Nat} {f3 : List Term} {v5 : Term} {q7 : Nat} {a8 : List Term} {tg10 : Nat} {v11 : Term} (g4 : s_get h q2 = some (1, 1, f3)) (g9 : s_get h q7 = some (0, tg10, a8)) (k : wm P d 631 [v11, vi 0] h (wq P d sw_c124 sw_h124 52 [.index q2, vi x1, vi x2, vi x3] [] kc ks Q)) (e_q2 : r0 = .index q2 := by first | rfl | assumption) (e_q7 : v5 = .index q7 := by first | rfl | assumption) (y1 : s_ty r0 = 3 := by first | rfl | assumption) (n6 : s_nth f3 0 = some v5 := by first | rfl | assumption) (n12 : s_nth a8 (Int.toNat (x3)) = some v11 := by first | rfl | assumption) (u13 : tg10 = 2 ∨ tg10 = 3 ∨ tg10 = 4 := by first | decide | assumption) (c14 : In3 x3 := by first | omega | assumption | (simp only [mk_len, List.length_map]; omega) | decide) (c15 : 0 ≤ x3 := by first | omega | assumption | (simp only [mk_len, List.length_map]; omega) | decide) : wr P d sw_c124 sw_h124 (42, [r0, vi x1, vi x2, vi x3], [], h, kc, ks) Q := by
  refine w_ld rfl rfl (Or.inr (Or.inr ⟨by decide, y1⟩)) ?_
  subst e_q2
  refine w_getf rfl g4 n6 ?_
  refine w_ld rfl rfl (Or.inl ⟨by decide, rfl⟩) ?_
  subst e_q7
  refine w_aald rfl g9 u13 c14 c15 n12 ?_
  refine w_c32 rfl (by decide) 0 (by decide) ?_
  exact w_cs rfl [v11, vi 0] [] rfl rfl (s_wt_4 rfl) k

theorem k124_52 {P : s_P} {d : Nat} {Q : s_O → Prop} {h : s_H} {kc ks : Nat} {r0 : Term} {x1 x2 x3 : Int}  (k : wr P d sw_c124 sw_h124 (34, [r0, vi x1, vi x2, vi (x3 + 1)], [], h, kc, ks) Q)   : wr P d sw_c124 sw_h124 (52, [r0, vi x1, vi x2, vi x3], [], h, kc, ks) Q := by
  refine w_iinc (ls' := [r0, vi x1, vi x2, vi (x3 + 1)]) rfl rfl 1 (by decide) rfl ?_
  refine w_goto rfl ?_
  exact k

theorem k124_58 {P : s_P} {d : Nat} {Q : s_O → Prop} {h : s_H} {kc ks : Nat} {r0 : Term} {x1 x2 x3 : Int}  (k : Q (.inl none, h, kc, ks))   : wr P d sw_c124 sw_h124 (58, [r0, vi x1, vi x2, vi x3], [], h, kc, ks) Q := by
  exact w_ret rfl k

/-! 125: FormulaWorks$Linear.cancel(I)V -/
theorem k125_0 {P : s_P} {d : Nat} {Q : s_O → Prop} {h : s_H} {kc ks : Nat} {r0 : Term} {x1 : Int} {t2 : Term} {q2 : Nat} {f3 : List Term} (g4 : s_get h q2 = some (1, 1, f3)) (k : wm P d 132 [.index q2, vi x1] h (wq P d sw_c125 sw_h125 5 [.index q2, vi x1, t2] [] kc ks Q)) (e_q2 : r0 = .index q2 := by first | rfl | assumption) (y1 : s_ty r0 = 3 := by first | rfl | assumption)  : wr P d sw_c125 sw_h125 (0, [r0, vi x1, t2], [], h, kc, ks) Q := by
  refine w_ld rfl rfl (Or.inr (Or.inr ⟨by decide, y1⟩)) ?_
  refine w_ld rfl rfl (Or.inl ⟨by decide, rfl⟩) ?_
  subst e_q2
  exact w_cv rfl [.index q2, vi x1] [] rfl rfl (s_wt_4 rfl) rfl g4 k

theorem k125_5 {P : s_P} {d : Nat} {Q : s_O → Prop} {h : s_H} {kc ks : Nat} {r0 : Term} {x1 : Int} {t2 : Term}  (k : wr P d sw_c125 sw_h125 (7, [r0, vi x1, vi 0], [], h, kc, ks) Q)   : wr P d sw_c125 sw_h125 (5, [r0, vi x1, t2], [], h, kc, ks) Q := by
  refine w_c32 rfl (by decide) 0 (by decide) ?_
  refine w_st (ls' := [r0, vi x1, vi 0]) rfl (Or.inl ⟨by decide, rfl⟩) rfl ?_
  exact k

theorem k125_7 {P : s_P} {d : Nat} {Q : s_O → Prop} {h : s_H} {kc ks : Nat} {r0 : Term} {x1 x2 : Int} {q2 : Nat} {f3 : List Term} {z5 : Int} (g4 : s_get h q2 = some (1, 1, f3)) (k1 : z5 ≤ x2 → wr P d sw_c125 sw_h125 (41, [.index q2, vi x1, vi x2], [], h, kc, ks) Q) (k2 : ¬ z5 ≤ x2 → wr P d sw_c125 sw_h125 (15, [.index q2, vi x1, vi x2], [], h, kc, ks) Q) (e_q2 : r0 = .index q2 := by first | rfl | assumption) (y1 : s_ty r0 = 3 := by first | rfl | assumption) (n6 : s_nth f3 4 = some (vi z5) := by first | rfl | assumption) (c7 : In3 x2 := by first | omega | assumption | (simp only [mk_len, List.length_map]; omega) | decide) (c8 : In3 z5 := by first | omega | assumption | (simp only [mk_len, List.length_map]; omega) | decide) : wr P d sw_c125 sw_h125 (7, [r0, vi x1, vi x2], [], h, kc, ks) Q := by
  refine w_ld rfl rfl (Or.inl ⟨by decide, rfl⟩) ?_
  refine w_ld rfl rfl (Or.inr (Or.inr ⟨by decide, y1⟩)) ?_
  subst e_q2
  refine w_getf rfl g4 n6 ?_
  exact w_if2 rfl c7 c8 k1 k2

theorem k125_15 {P : s_P} {d : Nat} {Q : s_O → Prop} {h : s_H} {kc ks : Nat} {r0 : Term} {x1 x2 : Int} {q2 : Nat} {f3 : List Term} {v5 : Term} {q7 : Nat} {a8 : List Int} (g4 : s_get h q2 = some (1, 1, f3)) (g9 : s_get h q7 = some (0, 0, a8.map vi)) (k : wr P d sw_c125 sw_h125 (7, [.index q2, vi x1, vi (x2 + 1)], [], (hp h q7 (0, 0, (a8.set (Int.toNat (x2)) (Int.tmod (32003 - (gi a8 x2)) 32003)).map vi)), kc, ks) Q) (e_q2 : r0 = .index q2 := by first | rfl | assumption) (e_q7 : v5 = .index q7 := by first | rfl | assumption) (y1 : s_ty r0 = 3 := by first | rfl | assumption) (n6 : s_nth f3 2 = some v5 := by first | rfl | assumption) (c10 : x2 < a8.length := by first | omega | assumption | (simp only [mk_len, List.length_map]; omega) | decide) (c11 : 0 ≤ x2 := by first | omega | assumption | (simp only [mk_len, List.length_map]; omega) | decide) (c12 : In3 x2 := by first | omega | assumption | (simp only [mk_len, List.length_map]; omega) | decide) (c13 : In3 (32003 - (gi a8 x2)) := by first | omega | assumption | (simp only [mk_len, List.length_map]; omega) | decide) (c14 : 0 < q7 := by first | omega | assumption | (simp only [mk_len, List.length_map]; omega) | decide) : wr P d sw_c125 sw_h125 (15, [r0, vi x1, vi x2], [], h, kc, ks) Q := by
  refine w_ld rfl rfl (Or.inr (Or.inr ⟨by decide, y1⟩)) ?_
  subst e_q2
  refine w_getf rfl g4 n6 ?_
  refine w_ld rfl rfl (Or.inl ⟨by decide, rfl⟩) ?_
  refine w_c32 rfl (by decide) 32003 (by decide) ?_
  refine w_ld rfl rfl (Or.inr (Or.inr ⟨by decide, rfl⟩)) ?_
  refine w_getf rfl g4 n6 ?_
  refine w_ld rfl rfl (Or.inl ⟨by decide, rfl⟩) ?_
  subst e_q7
  refine w_iald rfl g9 (Or.inl rfl) c12 c11 c10 ?_
  refine w_isub rfl ?_
  refine w_c32 rfl (by decide) 32003 (by decide) ?_
  refine w_irem rfl c13 (by decide) (by decide) ?_
  refine w_iast rfl g9 (Nat.ble_eq_true_of_le c14) c12 c11 c10 ?_
  refine w_iinc (ls' := [.index q2, vi x1, vi (x2 + 1)]) rfl rfl 1 (by decide) rfl ?_
  refine w_goto rfl ?_
  exact k

theorem k125_41 {P : s_P} {d : Nat} {Q : s_O → Prop} {h : s_H} {kc ks : Nat} {r0 : Term} {x1 x2 : Int}  (k1 : x1 < 0 → wr P d sw_c125 sw_h125 (60, [r0, vi x1, vi x2], [], h, kc, ks) Q) (k2 : ¬ x1 < 0 → wr P d sw_c125 sw_h125 (45, [r0, vi x1, vi x2], [], h, kc, ks) Q)  (c1 : In3 x1 := by first | omega | assumption | (simp only [mk_len, List.length_map]; omega) | decide) : wr P d sw_c125 sw_h125 (41, [r0, vi x1, vi x2], [], h, kc, ks) Q := by
  refine w_ld rfl rfl (Or.inl ⟨by decide, rfl⟩) ?_
  exact w_if1 rfl c1 k1 k2

theorem k125_45 {P : s_P} {d : Nat} {Q : s_O → Prop} {h : s_H} {kc ks : Nat} {r0 : Term} {x1 x2 : Int} {q2 : Nat} {f3 : List Term} {z5 : Int} (g4 : s_get h q2 = some (1, 1, f3)) (k1 : z5 ≤ x1 → wr P d sw_c125 sw_h125 (60, [.index q2, vi x1, vi x2], [], h, kc, ks) Q) (k2 : ¬ z5 ≤ x1 → wr P d sw_c125 sw_h125 (53, [.index q2, vi x1, vi x2], [], h, kc, ks) Q) (e_q2 : r0 = .index q2 := by first | rfl | assumption) (y1 : s_ty r0 = 3 := by first | rfl | assumption) (n6 : s_nth f3 4 = some (vi z5) := by first | rfl | assumption) (c7 : In3 x1 := by first | omega | assumption | (simp only [mk_len, List.length_map]; omega) | decide) (c8 : In3 z5 := by first | omega | assumption | (simp only [mk_len, List.length_map]; omega) | decide) : wr P d sw_c125 sw_h125 (45, [r0, vi x1, vi x2], [], h, kc, ks) Q := by
  refine w_ld rfl rfl (Or.inl ⟨by decide, rfl⟩) ?_
  refine w_ld rfl rfl (Or.inr (Or.inr ⟨by decide, y1⟩)) ?_
  subst e_q2
  refine w_getf rfl g4 n6 ?_
  exact w_if2 rfl c7 c8 k1 k2

theorem k125_53 {P : s_P} {d : Nat} {Q : s_O → Prop} {h : s_H} {kc ks : Nat} {r0 : Term} {x1 x2 : Int} {q2 : Nat} {f3 : List Term} {v5 : Term} {q7 : Nat} {a8 : List Int} (g4 : s_get h q2 = some (1, 1, f3)) (g9 : s_get h q7 = some (0, 0, a8.map vi)) (k : wr P d sw_c125 sw_h125 (60, [.index q2, vi x1, vi x2], [], (hp h q7 (0, 0, (a8.set (Int.toNat (x1)) 1).map vi)), kc, ks) Q) (e_q2 : r0 = .index q2 := by first | rfl | assumption) (e_q7 : v5 = .index q7 := by first | rfl | assumption) (y1 : s_ty r0 = 3 := by first | rfl | assumption) (n6 : s_nth f3 2 = some v5 := by first | rfl | assumption) (c10 : x1 < a8.length := by first | omega | assumption | (simp only [mk_len, List.length_map]; omega) | decide) (c11 : 0 ≤ x1 := by first | omega | assumption | (simp only [mk_len, List.length_map]; omega) | decide) (c12 : In3 x1 := by first | omega | assumption | (simp only [mk_len, List.length_map]; omega) | decide) (c13 : 0 < q7 := by first | omega | assumption | (simp only [mk_len, List.length_map]; omega) | decide) : wr P d sw_c125 sw_h125 (53, [r0, vi x1, vi x2], [], h, kc, ks) Q := by
  refine w_ld rfl rfl (Or.inr (Or.inr ⟨by decide, y1⟩)) ?_
  subst e_q2
  refine w_getf rfl g4 n6 ?_
  refine w_ld rfl rfl (Or.inl ⟨by decide, rfl⟩) ?_
  refine w_c32 rfl (by decide) 1 (by decide) ?_
  subst e_q7
  refine w_iast rfl g9 (Nat.ble_eq_true_of_le c13) c12 c11 c10 ?_
  exact k

theorem k125_60 {P : s_P} {d : Nat} {Q : s_O → Prop} {h : s_H} {kc ks : Nat} {r0 : Term} {x1 x2 : Int}  (k : Q (.inl none, h, kc, ks))   : wr P d sw_c125 sw_h125 (60, [r0, vi x1, vi x2], [], h, kc, ks) Q := by
  exact w_ret rfl k

/-! 126: FormulaWorks$Linear.clearColumn(II)V -/
theorem k126_0 {P : s_P} {d : Nat} {Q : s_O → Prop} {h : s_H} {kc ks : Nat} {r0 : Term} {x1 x2 : Int} {t3 t4 t5 t6 t7 t8 : Term} {q2 : Nat} {f3 : List Term} {v5 : Term} {q7 : Nat} {a8 : List Term} {tg10 : Nat} {v11 : Term} {q17 : Nat} {a18 : List Int} (g4 : s_get h q2 = some (1, 1, f3)) (g9 : s_get h q7 = some (0, tg10, a8)) (g19 : s_get h q17 = some (0, 0, a18.map vi)) (k : wm P d 168 [vi (gi a18 x2)] h (wq P d sw_c126 sw_h126 13 [.index q2, vi x1, vi x2, .index q17, t4, t5, t6, t7, t8] [] kc ks Q)) (e_q2 : r0 = .index q2 := by first | rfl | assumption) (e_q7 : v5 = .index q7 := by first | rfl | assumption) (e_q17 : v11 = .index q17 := by first | rfl | assumption) (y1 : s_ty r0 = 3 := by first | rfl | assumption) (n6 : s_nth f3 0 = some v5 := by first | rfl | assumption) (n12 : s_nth a8 (Int.toNat (x1)) = some v11 := by first | rfl | assumption) (u13 : tg10 = 2 ∨ tg10 = 3 ∨ tg10 = 4 := by first | decide | assumption) (y16 : s_ty v11 = 3 := by first | rfl | assumption) (c14 : In3 x1 := by first | omega | assumption | (simp only [mk_len, List.length_map]; omega) | decide) (c15 : 0 ≤ x1 := by first | omega | assumption | (simp only [mk_len, List.length_map]; omega) | decide) (c20 : x2 < a18.length := by first | omega | assumption | (simp only [mk_len, List.length_map]; omega) | decide) (c21 : 0 ≤ x2 := by first | omega | assumption | (simp only [mk_len, List.length_map]; omega) | decide) (c22 : In3 x2 := by first | omega | assumption | (simp only [mk_len, List.length_map]; omega) | decide) : wr P d sw_c126 sw_h126 (0, [r0, vi x1, vi x2, t3, t4, t5, t6, t7, t8], [], h, kc, ks) Q := by
  refine w_ld rfl rfl (Or.inr (Or.inr ⟨by decide, y1⟩)) ?_
  subst e_q2
  refine w_getf rfl g4 n6 ?_
  refine w_ld rfl rfl (Or.inl ⟨by decide, rfl⟩) ?_
  subst e_q7
  refine w_aald rfl g9 u13 c14 c15 n12 ?_
  refine w_st (ls' := [.index q2, vi x1, vi x2, v11, t4, t5, t6, t7, t8]) rfl (Or.inr ⟨by decide, y16⟩) rfl ?_
  refine w_ld rfl rfl (Or.inr (Or.inr ⟨by decide, y16⟩)) ?_
  refine w_ld rfl rfl (Or.inl ⟨by decide, rfl⟩) ?_
  subst e_q17
  refine w_iald rfl g19 (Or.inl rfl) c22 c21 c20 ?_
  exact w_cs rfl [vi (gi a18 x2)] [] rfl rfl (s_wt_4 rfl) k

theorem k126_13 {P : s_P} {d : Nat} {Q : s_O → Prop} {h : s_H} {kc ks : Nat} {r0 : Term} {x1 x2 : Int} {r3 t4 t5 t6 t7 t8 : Term} {s0 : Int}  (k : wr P d sw_c126 sw_h126 (18, [r0, vi x1, vi x2, r3, vi s0, vi x2, t6, t7, t8], [], h, kc, ks) Q) (y1 : s_ty r3 = 3 := by first | rfl | assumption)  : wr P d sw_c126 sw_h126 (13, [r0, vi x1, vi x2, r3, t4, t5, t6, t7, t8], [vi s0], h, kc, ks) Q := by
  refine w_st (ls' := [r0, vi x1, vi x2, r3, vi s0, t5, t6, t7, t8]) rfl (Or.inl ⟨by decide, rfl⟩) (s_stK_r (pre := [r0, vi x1, vi x2]) y1) ?_
  refine w_ld rfl rfl (Or.inl ⟨by decide, rfl⟩) ?_
  refine w_st (ls' := [r0, vi x1, vi x2, r3, vi s0, vi x2, t6, t7, t8]) rfl (Or.inl ⟨by decide, rfl⟩) rfl ?_
  exact k

theorem k126_18 {P : s_P} {d : Nat} {Q : s_O → Prop} {h : s_H} {kc ks : Nat} {r0 : Term} {x1 x2 : Int} {r3 : Term} {x4 x5 : Int} {t6 t7 t8 : Term} {q2 : Nat} {f3 : List Term} {z5 : Int} (g4 : s_get h q2 = some (1, 1, f3)) (k1 : z5 ≤ x5 → wr P d sw_c126 sw_h126 (48, [.index q2, vi x1, vi x2, r3, vi x4, vi x5, t6, t7, t8], [], h, kc, ks) Q) (k2 : ¬ z5 ≤ x5 → wr P d sw_c126 sw_h126 (27, [.index q2, vi x1, vi x2, r3, vi x4, vi x5, t6, t7, t8], [], h, kc, ks) Q) (e_q2 : r0 = .index q2 := by first | rfl | assumption) (y1 : s_ty r0 = 3 := by first | rfl | assumption) (n6 : s_nth f3 4 = some (vi z5) := by first | rfl | assumption) (c7 : In3 x5 := by first | omega | assumption | (simp only [mk_len, List.length_map]; omega) | decide) (c8 : In3 z5 := by first | omega | assumption | (simp only [mk_len, List.length_map]; omega) | decide) : wr P d sw_c126 sw_h126 (18, [r0, vi x1, vi x2, r3, vi x4, vi x5, t6, t7, t8], [], h, kc, ks) Q := by
  refine w_ld rfl rfl (Or.inl ⟨by decide, rfl⟩) ?_
  refine w_ld rfl rfl (Or.inr (Or.inr ⟨by decide, y1⟩)) ?_
  subst e_q2
  refine w_getf rfl g4 n6 ?_
  exact w_if2 rfl c7 c8 k1 k2

theorem k126_27 {P : s_P} {d : Nat} {Q : s_O → Prop} {h : s_H} {kc ks : Nat} {r0 : Term} {x1 x2 : Int} {r3 : Term} {x4 x5 : Int} {t6 t7 t8 : Term} {q2 : Nat} {a3 : List Int} (g4 : s_get h q2 = some (0, 0, a3.map vi)) (k : wr P d sw_c126 sw_h126 (18, [r0, vi x1, vi x2, .index q2, vi x4, vi (x5 + 1), t6, t7, t8], [], (hp h q2 (0, 0, (a3.set (Int.toNat (x5)) (Int.tmod ((gi a3 x5) * x4) 32003)).map vi)), kc, ks) Q) (e_q2 : r3 = .index q2 := by first | rfl | assumption) (y1 : s_ty r3 = 3 := by first | rfl | assumption) (c5 : x5 < a3.length := by first | omega | assumption | (simp only [mk_len, List.length_map]; omega) | decide) (c6 : 0 ≤ x5 := by first | omega | assumption | (simp only [mk_len, List.length_map]; omega) | decide) (c7 : In3 x5 := by first | omega | assumption | (simp only [mk_len, List.length_map]; omega) | decide) (c8 : In3 ((gi a3 x5) * x4) := by first | omega | assumption | (simp only [mk_len, List.length_map]; omega) | decide) (c9 : 0 < q2 := by first | omega | assumption | (simp only [mk_len, List.length_map]; omega) | decide) : wr P d sw_c126 sw_h126 (27, [r0, vi x1, vi x2, r3, vi x4, vi x5, t6, t7, t8], [], h, kc, ks) Q := by
  refine w_ld rfl rfl (Or.inr (Or.inr ⟨by decide, y1⟩)) ?_
  refine w_ld rfl rfl (Or.inl ⟨by decide, rfl⟩) ?_
  refine w_ld rfl rfl (Or.inr (Or.inr ⟨by decide, y1⟩)) ?_
  refine w_ld rfl rfl (Or.inl ⟨by decide, rfl⟩) ?_
  subst e_q2
  refine w_iald rfl g4 (Or.inl rfl) c7 c6 c5 ?_
  refine w_ld rfl rfl (Or.inl ⟨by decide, rfl⟩) ?_
  refine w_imul rfl ?_
  refine w_c32 rfl (by decide) 32003 (by decide) ?_
  refine w_irem rfl c8 (by decide) (by decide) ?_
  refine w_iast rfl g4 (Nat.ble_eq_true_of_le c9) c7 c6 c5 ?_
  refine w_iinc (ls' := [r0, vi x1, vi x2, .index q2, vi x4, vi (x5 + 1), t6, t7, t8]) rfl rfl 1 (by decide) rfl ?_
  refine w_goto rfl ?_
  exact k

theorem k126_48 {P : s_P} {d : Nat} {Q : s_O → Prop} {h : s_H} {kc ks : Nat} {r0 : Term} {x1 x2 : Int} {r3 : Term} {x4 x5 : Int} {t6 t7 t8 : Term}  (k : wr P d sw_c126 sw_h126 (51, [r0, vi x1, vi x2, r3, vi x4, vi 0, t6, t7, t8], [], h, kc, ks) Q)   : wr P d sw_c126 sw_h126 (48, [r0, vi x1, vi x2, r3, vi x4, vi x5, t6, t7, t8], [], h, kc, ks) Q := by
  refine w_c32 rfl (by decide) 0 (by decide) ?_
  refine w_st (ls' := [r0, vi x1, vi x2, r3, vi x4, vi 0, t6, t7, t8]) rfl (Or.inl ⟨by decide, rfl⟩) rfl ?_
  exact k

theorem k126_51 {P : s_P} {d : Nat} {Q : s_O → Prop} {h : s_H} {kc ks : Nat} {r0 : Term} {x1 x2 : Int} {r3 : Term} {x4 x5 : Int} {t6 t7 t8 : Term} {q2 : Nat} {f3 : List Term} {z5 : Int} (g4 : s_get h q2 = some (1, 1, f3)) (k1 : z5 ≤ x5 → wr P d sw_c126 sw_h126 (141, [.index q2, vi x1, vi x2, r3, vi x4, vi x5, t6, t7, t8], [], h, kc, ks) Q) (k2 : ¬ z5 ≤ x5 → wr P d sw_c126 sw_h126 (60, [.index q2, vi x1, vi x2, r3, vi x4, vi x5, t6, t7, t8], [], h, kc, ks) Q) (e_q2 : r0 = .index q2 := by first | rfl | assumption) (y1 : s_ty r0 = 3 := by first | rfl | assumption) (n6 : s_nth f3 3 = some (vi z5) := by first | rfl | assumption) (c7 : In3 x5 := by first | omega | assumption | (simp only [mk_len, List.length_map]; omega) | decide) (c8 : In3 z5 := by first | omega | assumption | (simp only [mk_len, List.length_map]; omega) | decide) : wr P d sw_c126 sw_h126 (51, [r0, vi x1, vi x2, r3, vi x4, vi x5, t6, t7, t8], [], h, kc, ks) Q := by
  refine w_ld rfl rfl (Or.inl ⟨by decide, rfl⟩) ?_
  refine w_ld rfl rfl (Or.inr (Or.inr ⟨by decide, y1⟩)) ?_
  subst e_q2
  refine w_getf rfl g4 n6 ?_
  exact w_if2 rfl c7 c8 k1 k2

theorem k126_60 {P : s_P} {d : Nat} {Q : s_O → Prop} {h : s_H} {kc ks : Nat} {r0 : Term} {x1 x2 : Int} {r3 : Term} {x4 x5 : Int} {t6 t7 t8 : Term} {q2 : Nat} {f3 : List Term} {v5 : Term} {q7 : Nat} {a8 : List Term} {tg10 : Nat} {v11 : Term} {q16 : Nat} {a17 : List Int} (g4 : s_get h q2 = some (1, 1, f3)) (g9 : s_get h q7 = some (0, tg10, a8)) (g18 : s_get h q16 = some (0, 0, a17.map vi)) (k1 : x5 = x1 → wr P d sw_c126 sw_h126 (135, [.index q2, vi x1, vi x2, r3, vi x4, vi x5, vi (gi a17 x2), t7, t8], [], h, kc, ks) Q) (k2 : ¬ x5 = x1 → wr P d sw_c126 sw_h126 (77, [.index q2, vi x1, vi x2, r3, vi x4, vi x5, vi (gi a17 x2), t7, t8], [], h, kc, ks) Q) (e_q2 : r0 = .index q2 := by first | rfl | assumption) (e_q7 : v5 = .index q7 := by first | rfl | assumption) (e_q16 : v11 = .index q16 := by first | rfl | assumption) (y1 : s_ty r0 = 3 := by first | rfl | assumption) (n6 : s_nth f3 0 = some v5 := by first | rfl | assumption) (n12 : s_nth a8 (Int.toNat (x5)) = some v11 := by first | rfl | assumption) (u13 : tg10 = 2 ∨ tg10 = 3 ∨ tg10 = 4 := by first | decide | assumption) (c14 : In3 x5 := by first | omega | assumption | (simp only [mk_len, List.length_map]; omega) | decide) (c15 : 0 ≤ x5 := by first | omega | assumption | (simp only [mk_len, List.length_map]; omega) | decide) (c19 : x2 < a17.length := by first | omega | assumption | (simp only [mk_len, List.length_map]; omega) | decide) (c20 : 0 ≤ x2 := by first | omega | assumption | (simp only [mk_len, List.length_map]; omega) | decide) (c21 : In3 x2 := by first | omega | assumption | (simp only [mk_len, List.length_map]; omega) | decide) (c22 : In3 x1 := by first | omega | assumption | (simp only [mk_len, List.length_map]; omega) | decide) : wr P d sw_c126 sw_h126 (60, [r0, vi x1, vi x2, r3, vi x4, vi x5, t6, t7, t8], [], h, kc, ks) Q := by
  refine w_ld rfl rfl (Or.inr (Or.inr ⟨by decide, y1⟩)) ?_
  subst e_q2
  refine w_getf rfl g4 n6 ?_
  refine w_ld rfl rfl (Or.inl ⟨by decide, rfl⟩) ?_
  subst e_q7
  refine w_aald rfl g9 u13 c14 c15 n12 ?_
  refine w_ld rfl rfl (Or.inl ⟨by decide, rfl⟩) ?_
  subst e_q16
  refine w_iald rfl g18 (Or.inl rfl) c21 c20 c19 ?_
  refine w_st (ls' := [.index q2, vi x1, vi x2, r3, vi x4, vi x5, vi (gi a17 x2), t7, t8]) rfl (Or.inl ⟨by decide, rfl⟩) rfl ?_
  refine w_ld rfl rfl (Or.inl ⟨by decide, rfl⟩) ?_
  refine w_ld rfl rfl (Or.inl ⟨by decide, rfl⟩) ?_
  exact w_if2 rfl c14 c22 k1 k2

theorem k126_77 {P : s_P} {d : Nat} {Q : s_O → Prop} {h : s_H} {kc ks : Nat} {r0 : Term} {x1 x2 : Int} {r3 : Term} {x4 x5 x6 : Int} {t7 t8 : Term}  (k1 : x6 = 0 → wr P d sw_c126 sw_h126 (135, [r0, vi x1, vi x2, r3, vi x4, vi x5, vi x6, t7, t8], [], h, kc, ks) Q) (k2 : ¬ x6 = 0 → wr P d sw_c126 sw_h126 (82, [r0, vi x1, vi x2, r3, vi x4, vi x5, vi x6, t7, t8], [], h, kc, ks) Q)  (c1 : In3 x6 := by first | omega | assumption | (simp only [mk_len, List.length_map]; omega) | decide) : wr P d sw_c126 sw_h126 (77, [r0, vi x1, vi x2, r3, vi x4, vi x5, vi x6, t7, t8], [], h, kc, ks) Q := by
  refine w_ld rfl rfl (Or.inl ⟨by decide, rfl⟩) ?_
  exact w_if1 rfl c1 k1 k2

theorem k126_82 {P : s_P} {d : Nat} {Q : s_O → Prop} {h : s_H} {kc ks : Nat} {r0 : Term} {x1 x2 : Int} {r3 : Term} {x4 x5 x6 : Int} {t7 t8 : Term} {q2 : Nat} {f3 : List Term} {v5 : Term} {q7 : Nat} {a8 : List Term} {tg10 : Nat} {v11 : Term} (g4 : s_get h q2 = some (1, 1, f3)) (g9 : s_get h q7 = some (0, tg10, a8)) (k : wr P d sw_c126 sw_h126 (94, [.index q2, vi x1, vi x2, r3, vi x4, vi x5, vi x6, v11, vi x2], [], h, kc, ks) Q) (e_q2 : r0 = .index q2 := by first | rfl | assumption) (e_q7 : v5 = .index q7 := by first | rfl | assumption) (y1 : s_ty r0 = 3 := by first | rfl | assumption) (n6 : s_nth f3 0 = some v5 := by first | rfl | assumption) (n12 : s_nth a8 (Int.toNat (x5)) = some v11 := by first | rfl | assumption) (u13 : tg10 = 2 ∨ tg10 = 3 ∨ tg10 = 4 := by first | decide | assumption) (y16 : s_ty v11 = 3 := by first | rfl | assumption) (c14 : In3 x5 := by first | omega | assumption | (simp only [mk_len, List.length_map]; omega) | decide) (c15 : 0 ≤ x5 := by first | omega | assumption | (simp only [mk_len, List.length_map]; omega) | decide) : wr P d sw_c126 sw_h126 (82, [r0, vi x1, vi x2, r3, vi x4, vi x5, vi x6, t7, t8], [], h, kc, ks) Q := by
  refine w_ld rfl rfl (Or.inr (Or.inr ⟨by decide, y1⟩)) ?_
  subst e_q2
  refine w_getf rfl g4 n6 ?_
  refine w_ld rfl rfl (Or.inl ⟨by decide, rfl⟩) ?_
  subst e_q7
  refine w_aald rfl g9 u13 c14 c15 n12 ?_
  refine w_st (ls' := [.index q2, vi x1, vi x2, r3, vi x4, vi x5, vi x6, v11, t8]) rfl (Or.inr ⟨by decide, y16⟩) rfl ?_
  refine w_ld rfl rfl (Or.inl ⟨by decide, rfl⟩) ?_
  refine w_st (ls' := [.index q2, vi x1, vi x2, r3, vi x4, vi x5, vi x6, v11, vi x2]) rfl (Or.inl ⟨by decide, rfl⟩) (s_stK_r (pre := [.index q2, vi x1, vi x2, r3, vi x4, vi x5, vi x6]) y16) ?_
  exact k

theorem k126_94 {P : s_P} {d : Nat} {Q : s_O → Prop} {h : s_H} {kc ks : Nat} {r0 : Term} {x1 x2 : Int} {r3 : Term} {x4 x5 x6 : Int} {r7 : Term} {x8 : Int} {q2 : Nat} {f3 : List Term} {z5 : Int} (g4 : s_get h q2 = some (1, 1, f3)) (k1 : z5 ≤ x8 → wr P d sw_c126 sw_h126 (135, [.index q2, vi x1, vi x2, r3, vi x4, vi x5, vi x6, r7, vi x8], [], h, kc, ks) Q) (k2 : ¬ z5 ≤ x8 → wr P d sw_c126 sw_h126 (103, [.index q2, vi x1, vi x2, r3, vi x4, vi x5, vi x6, r7, vi x8], [], h, kc, ks) Q) (e_q2 : r0 = .index q2 := by first | rfl | assumption) (y1 : s_ty r0 = 3 := by first | rfl | assumption) (n6 : s_nth f3 4 = some (vi z5) := by first | rfl | assumption) (c7 : In3 x8 := by first | omega | assumption | (simp only [mk_len, List.length_map]; omega) | decide) (c8 : In3 z5 := by first | omega | assumption | (simp only [mk_len, List.length_map]; omega) | decide) : wr P d sw_c126 sw_h126 (94, [r0, vi x1, vi x2, r3, vi x4, vi x5, vi x6, r7, vi x8], [], h, kc, ks) Q := by
  refine w_ld rfl rfl (Or.inl ⟨by decide, rfl⟩) ?_
  refine w_ld rfl rfl (Or.inr (Or.inr ⟨by decide, y1⟩)) ?_
  subst e_q2
  refine w_getf rfl g4 n6 ?_
  exact w_if2 rfl c7 c8 k1 k2

theorem k126_103 {P : s_P} {d : Nat} {Q : s_O → Prop} {h : s_H} {kc ks : Nat} {r0 : Term} {x1 x2 : Int} {r3 : Term} {x4 x5 x6 : Int} {r7 : Term} {x8 : Int} {q2 : Nat} {a3 : List Int} {q9 : Nat} {a10 : List Int} (g4 : s_get h q2 = some (0, 0, a3.map vi)) (g11 : s_get h q9 = some (0, 0, a10.map vi)) (k : wr P d sw_c126 sw_h126 (94, [r0, vi x1, vi x2, .index q9, vi x4, vi x5, vi x6, .index q2, vi (x8 + 1)], [], (hp h q2 (0, 0, (a3.set (Int.toNat (x8)) (Int.tmod ((gi a3 x8) + ((32003 - x6) * (gi a10 x8))) 32003)).map vi)), kc, ks) Q) (e_q2 : r7 = .index q2 := by first | rfl | assumption) (e_q9 : r3 = .index q9 := by first | rfl | assumption) (y1 : s_ty r7 = 3 := by first | rfl | assumption) (y8 : s_ty r3 = 3 := by first | rfl | assumption) (c5 : x8 < a3.length := by first | omega | assumption | (simp only [mk_len, List.length_map]; omega) | decide) (c6 : 0 ≤ x8 := by first | omega | assumption | (simp only [mk_len, List.length_map]; omega) | decide) (c7 : In3 x8 := by first | omega | assumption | (simp only [mk_len, List.length_map]; omega) | decide) (c12 : x8 < a10.length := by first | omega | assumption | (simp only [mk_len, List.length_map]; omega) | decide) (c13 : In3 ((gi a3 x8) + ((32003 - x6) * (gi a10 x8))) := by first | omega | assumption | (simp only [mk_len, List.length_map]; omega) | decide) (c14 : 0 < q2 := by first | omega | assumption | (simp only [mk_len, List.length_map]; omega) | decide) : wr P d sw_c126 sw_h126 (103, [r0, vi x1, vi x2, r3, vi x4, vi x5, vi x6, r7, vi x8], [], h, kc, ks) Q := by
  refine w_ld rfl rfl (Or.inr (Or.inr ⟨by decide, y1⟩)) ?_
  refine w_ld rfl rfl (Or.inl ⟨by decide, rfl⟩) ?_
  refine w_ld rfl rfl (Or.inr (Or.inr ⟨by decide, y1⟩)) ?_
  refine w_ld rfl rfl (Or.inl ⟨by decide, rfl⟩) ?_
  subst e_q2
  refine w_iald rfl g4 (Or.inl rfl) c7 c6 c5 ?_
  refine w_c32 rfl (by decide) 32003 (by decide) ?_
  refine w_ld rfl rfl (Or.inl ⟨by decide, rfl⟩) ?_
  refine w_isub rfl ?_
  refine w_ld rfl rfl (Or.inr (Or.inr ⟨by decide, y8⟩)) ?_
  refine w_ld rfl rfl (Or.inl ⟨by decide, rfl⟩) ?_
  subst e_q9
  refine w_iald rfl g11 (Or.inl rfl) c7 c6 c12 ?_
  refine w_imul rfl ?_
  refine w_iadd rfl ?_
  refine w_c32 rfl (by decide) 32003 (by decide) ?_
  refine w_irem rfl c13 (by decide) (by decide) ?_
  refine w_iast rfl g4 (Nat.ble_eq_true_of_le c14) c7 c6 c5 ?_
  refine w_iinc (ls' := [r0, vi x1, vi x2, .index q9, vi x4, vi x5, vi x6, .index q2, vi (x8 + 1)]) rfl rfl 1 (by decide) rfl ?_
  refine w_goto rfl ?_
  exact k

theorem k126_135 {P : s_P} {d : Nat} {Q : s_O → Prop} {h : s_H} {kc ks : Nat} {r0 : Term} {x1 x2 : Int} {r3 : Term} {x4 x5 x6 : Int} {t7 t8 : Term}  (k : wr P d sw_c126 sw_h126 (51, [r0, vi x1, vi x2, r3, vi x4, vi (x5 + 1), vi x6, t7, t8], [], h, kc, ks) Q)   : wr P d sw_c126 sw_h126 (135, [r0, vi x1, vi x2, r3, vi x4, vi x5, vi x6, t7, t8], [], h, kc, ks) Q := by
  refine w_iinc (ls' := [r0, vi x1, vi x2, r3, vi x4, vi (x5 + 1), vi x6, t7, t8]) rfl rfl 1 (by decide) rfl ?_
  refine w_goto rfl ?_
  exact k

theorem k126_141 {P : s_P} {d : Nat} {Q : s_O → Prop} {h : s_H} {kc ks : Nat} {r0 : Term} {x1 x2 : Int} {r3 : Term} {x4 x5 : Int} {t6 t7 t8 : Term}  (k : Q (.inl none, h, kc, ks))   : wr P d sw_c126 sw_h126 (141, [r0, vi x1, vi x2, r3, vi x4, vi x5, t6, t7, t8], [], h, kc, ks) Q := by
  exact w_ret rfl k

/-! 127: FormulaWorks$Linear.eliminate()V -/
theorem k127_0 {P : s_P} {d : Nat} {Q : s_O → Prop} {h : s_H} {kc ks : Nat} {r0 t1 t2 t3 t4 : Term}  (k : wr P d sw_c127 sw_h127 (4, [r0, vi 0, vi 0, t3, t4], [], h, kc, ks) Q) (y1 : s_ty r0 = 3 := by first | rfl | assumption)  : wr P d sw_c127 sw_h127 (0, [r0, t1, t2, t3, t4], [], h, kc, ks) Q := by
  refine w_c32 rfl (by decide) 0 (by decide) ?_
  refine w_st (ls' := [r0, vi 0, t2, t3, t4]) rfl (Or.inl ⟨by decide, rfl⟩) (s_stK_r (pre := []) y1) ?_
  refine w_c32 rfl (by decide) 0 (by decide) ?_
  refine w_st (ls' := [r0, vi 0, vi 0, t3, t4]) rfl (Or.inl ⟨by decide, rfl⟩) rfl ?_
  exact k

theorem k127_4 {P : s_P} {d : Nat} {Q : s_O → Prop} {h : s_H} {kc ks : Nat} {r0 : Term} {x1 x2 : Int} {t3 t4 : Term} {q2 : Nat} {f3 : List Term} {z5 : Int} (g4 : s_get h q2 = some (1, 1, f3)) (k1 : z5 ≤ x2 → wr P d sw_c127 sw_h127 (109, [.index q2, vi x1, vi x2, t3, t4], [], h, kc, ks) Q) (k2 : ¬ z5 ≤ x2 → wr P d sw_c127 sw_h127 (12, [.index q2, vi x1, vi x2, t3, t4], [], h, kc, ks) Q) (e_q2 : r0 = .index q2 := by first | rfl | assumption) (y1 : s_ty r0 = 3 := by first | rfl | assumption) (n6 : s_nth f3 4 = some (vi z5) := by first | rfl | assumption) (c7 : In3 x2 := by first | omega | assumption | (simp only [mk_len, List.length_map]; omega) | decide) (c8 : In3 z5 := by first | omega | assumption | (simp only [mk_len, List.length_map]; omega) | decide) : wr P d sw_c127 sw_h127 (4, [r0, vi x1, vi x2, t3, t4], [], h, kc, ks) Q := by
  refine w_ld rfl rfl (Or.inl ⟨by decide, rfl⟩) ?_
  refine w_ld rfl rfl (Or.inr (Or.inr ⟨by decide, y1⟩)) ?_
  subst e_q2
  refine w_getf rfl g4 n6 ?_
  exact w_if2 rfl c7 c8 k1 k2

theorem k127_12 {P : s_P} {d : Nat} {Q : s_O → Prop} {h : s_H} {kc ks : Nat} {r0 : Term} {x1 x2 : Int} {t3 t4 : Term}  (k : wr P d sw_c127 sw_h127 (14, [r0, vi x1, vi x2, vi x1, t4], [], h, kc, ks) Q)   : wr P d sw_c127 sw_h127 (12, [r0, vi x1, vi x2, t3, t4], [], h, kc, ks) Q := by
  refine w_ld rfl rfl (Or.inl ⟨by decide, rfl⟩) ?_
  refine w_st (ls' := [r0, vi x1, vi x2, vi x1, t4]) rfl (Or.inl ⟨by decide, rfl⟩) rfl ?_
  exact k

theorem k127_14 {P : s_P} {d : Nat} {Q : s_O → Prop} {h : s_H} {kc ks : Nat} {r0 : Term} {x1 x2 x3 : Int} {t4 : Term} {q2 : Nat} {f3 : List Term} {z5 : Int} (g4 : s_get h q2 = some (1, 1, f3)) (k1 : z5 ≤ x3 → wr P d sw_c127 sw_h127 (39, [.index q2, vi x1, vi x2, vi x3, t4], [], h, kc, ks) Q) (k2 : ¬ z5 ≤ x3 → wr P d sw_c127 sw_h127 (22, [.index q2, vi x1, vi x2, vi x3, t4], [], h, kc, ks) Q) (e_q2 : r0 = .index q2 := by first | rfl | assumption) (y1 : s_ty r0 = 3 := by first | rfl | assumption) (n6 : s_nth f3 3 = some (vi z5) := by first | rfl | assumption) (c7 : In3 x3 := by first | omega | assumption | (simp only [mk_len, List.length_map]; omega) | decide) (c8 : In3 z5 := by first | omega | assumption | (simp only [mk_len, List.length_map]; omega) | decide) : wr P d sw_c127 sw_h127 (14, [r0, vi x1, vi x2, vi x3, t4], [], h, kc, ks) Q := by
  refine w_ld rfl rfl (Or.inl ⟨by decide, rfl⟩) ?_
  refine w_ld rfl rfl (Or.inr (Or.inr ⟨by decide, y1⟩)) ?_
  subst e_q2
  refine w_getf rfl g4 n6 ?_
  exact w_if2 rfl c7 c8 k1 k2

theorem k127_22 {P : s_P} {d : Nat} {Q : s_O → Prop} {h : s_H} {kc ks : Nat} {r0 : Term} {x1 x2 x3 : Int} {t4 : Term} {q2 : Nat} {f3 : List Term} {v5 : Term} {q7 : Nat} {a8 : List Term} {tg10 : Nat} {v11 : Term} {q16 : Nat} {a17 : List Int} (g4 : s_get h q2 = some (1, 1, f3)) (g9 : s_get h q7 = some (0, tg10, a8)) (g18 : s_get h q16 = some (0, 0, a17.map vi)) (k1 : gi a17 x2 ≠ 0 → wr P d sw_c127 sw_h127 (39, [.index q2, vi x1, vi x2, vi x3, t4], [], h, kc, ks) Q) (k2 : ¬ gi a17 x2 ≠ 0 → wr P d sw_c127 sw_h127 (33, [.index q2, vi x1, vi x2, vi x3, t4], [], h, kc, ks) Q) (e_q2 : r0 = .index q2 := by first | rfl | assumption) (e_q7 : v5 = .index q7 := by first | rfl | assumption) (e_q16 : v11 = .index q16 := by first | rfl | assumption) (y1 : s_ty r0 = 3 := by first | rfl | assumption) (n6 : s_nth f3 0 = some v5 := by first | rfl | assumption) (n12 : s_nth a8 (Int.toNat (x3)) = some v11 := by first | rfl | assumption) (u13 : tg10 = 2 ∨ tg10 = 3 ∨ tg10 = 4 := by first | decide | assumption) (c14 : In3 x3 := by first | omega | assumption | (simp only [mk_len, List.length_map]; omega) | decide) (c15 : 0 ≤ x3 := by first | omega | assumption | (simp only [mk_len, List.length_map]; omega) | decide) (c19 : x2 < a17.length := by first | omega | assumption | (simp only [mk_len, List.length_map]; omega) | decide) (c20 : 0 ≤ x2 := by first | omega | assumption | (simp only [mk_len, List.length_map]; omega) | decide) (c21 : In3 x2 := by first | omega | assumption | (simp only [mk_len, List.length_map]; omega) | decide) (c22 : In3 (gi a17 x2) := by first | omega | assumption | (simp only [mk_len, List.length_map]; omega) | decide) : wr P d sw_c127 sw_h127 (22, [r0, vi x1, vi x2, vi x3, t4], [], h, kc, ks) Q := by
  refine w_ld rfl rfl (Or.inr (Or.inr ⟨by decide, y1⟩)) ?_
  subst e_q2
  refine w_getf rfl g4 n6 ?_
  refine w_ld rfl rfl (Or.inl ⟨by decide, rfl⟩) ?_
  subst e_q7
  refine w_aald rfl g9 u13 c14 c15 n12 ?_
  refine w_ld rfl rfl (Or.inl ⟨by decide, rfl⟩) ?_
  subst e_q16
  refine w_iald rfl g18 (Or.inl rfl) c21 c20 c19 ?_
  exact w_if1 rfl c22 k1 k2

theorem k127_33 {P : s_P} {d : Nat} {Q : s_O → Prop} {h : s_H} {kc ks : Nat} {r0 : Term} {x1 x2 x3 : Int} {t4 : Term}  (k : wr P d sw_c127 sw_h127 (14, [r0, vi x1, vi x2, vi (x3 + 1), t4], [], h, kc, ks) Q)   : wr P d sw_c127 sw_h127 (33, [r0, vi x1, vi x2, vi x3, t4], [], h, kc, ks) Q := by
  refine w_iinc (ls' := [r0, vi x1, vi x2, vi (x3 + 1), t4]) rfl rfl 1 (by decide) rfl ?_
  refine w_goto rfl ?_
  exact k

theorem k127_39 {P : s_P} {d : Nat} {Q : s_O → Prop} {h : s_H} {kc ks : Nat} {r0 : Term} {x1 x2 x3 : Int} {t4 : Term} {q2 : Nat} {f3 : List Term} {v5 : Term} {z7 : Int} (g4 : s_get h q2 = some (1, 1, f3)) (k1 : z7 ≤ x3 → wr P d sw_c127 sw_h127 (56, [.index q2, vi x1, vi x2, vi x3, t4], [vi x2, v5], h, kc, ks) Q) (k2 : ¬ z7 ≤ x3 → wr P d sw_c127 sw_h127 (52, [.index q2, vi x1, vi x2, vi x3, t4], [vi x2, v5], h, kc, ks) Q) (e_q2 : r0 = .index q2 := by first | rfl | assumption) (y1 : s_ty r0 = 3 := by first | rfl | assumption) (n6 : s_nth f3 1 = some v5 := by first | rfl | assumption) (n8 : s_nth f3 3 = some (vi z7) := by first | rfl | assumption) (c9 : In3 x3 := by first | omega | assumption | (simp only [mk_len, List.length_map]; omega) | decide) (c10 : In3 z7 := by first | omega | assumption | (simp only [mk_len, List.length_map]; omega) | decide) : wr P d sw_c127 sw_h127 (39, [r0, vi x1, vi x2, vi x3, t4], [], h, kc, ks) Q := by
  refine w_ld rfl rfl (Or.inr (Or.inr ⟨by decide, y1⟩)) ?_
  subst e_q2
  refine w_getf rfl g4 n6 ?_
  refine w_ld rfl rfl (Or.inl ⟨by decide, rfl⟩) ?_
  refine w_ld rfl rfl (Or.inl ⟨by decide, rfl⟩) ?_
  refine w_ld rfl rfl (Or.inr (Or.inr ⟨by decide, rfl⟩)) ?_
  refine w_getf rfl g4 n8 ?_
  exact w_if2 rfl c9 c10 k1 k2

theorem k127_52 {P : s_P} {d : Nat} {Q : s_O → Prop} {h : s_H} {kc ks : Nat} {r0 : Term} {x1 x2 x3 : Int} {t4 s0 : Term} {s1 : Int}  (k : wr P d sw_c127 sw_h127 (57, [r0, vi x1, vi x2, vi x3, t4], [vi x1, vi s1, s0], h, kc, ks) Q)   : wr P d sw_c127 sw_h127 (52, [r0, vi x1, vi x2, vi x3, t4], [vi s1, s0], h, kc, ks) Q := by
  refine w_ld rfl rfl (Or.inl ⟨by decide, rfl⟩) ?_
  refine w_goto rfl ?_
  exact k

theorem k127_56 {P : s_P} {d : Nat} {Q : s_O → Prop} {h : s_H} {kc ks : Nat} {r0 : Term} {x1 x2 x3 : Int} {t4 s0 : Term} {s1 : Int}  (k : wr P d sw_c127 sw_h127 (57, [r0, vi x1, vi x2, vi x3, t4], [vi (-1), vi s1, s0], h, kc, ks) Q)   : wr P d sw_c127 sw_h127 (56, [r0, vi x1, vi x2, vi x3, t4], [vi s1, s0], h, kc, ks) Q := by
  refine w_c32 rfl (by decide) (-1) (by decide) ?_
  exact k

theorem k127_57 {P : s_P} {d : Nat} {Q : s_O → Prop} {h : s_H} {kc ks : Nat} {r0 : Term} {x1 x2 x3 : Int} {t4 s0 : Term} {s1 s2 : Int} {q1 : Nat} {a2 : List Int} {q9 : Nat} {f10 : List Term} {z12 : Int} (g3 : s_get h q1 = some (0, 0, a2.map vi)) (g11 : s_get (hp h q1 (0, 0, (a2.set (Int.toNat (s1)) s2).map vi)) q9 = some (1, 1, f10)) (k1 : z12 ≤ x3 → wr P d sw_c127 sw_h127 (103, [.index q9, vi x1, vi x2, vi x3, t4], [], (hp h q1 (0, 0, (a2.set (Int.toNat (s1)) s2).map vi)), kc, ks) Q) (k2 : ¬ z12 ≤ x3 → wr P d sw_c127 sw_h127 (66, [.index q9, vi x1, vi x2, vi x3, t4], [], (hp h q1 (0, 0, (a2.set (Int.toNat (s1)) s2).map vi)), kc, ks) Q) (e_q1 : s0 = .index q1 := by first | rfl | assumption) (e_q9 : r0 = .index q9 := by first | rfl | assumption) (y8 : s_ty r0 = 3 := by first | rfl | assumption) (n13 : s_nth f10 3 = some (vi z12) := by first | rfl | assumption) (c4 : s1 < a2.length := by first | omega | assumption | (simp only [mk_len, List.length_map]; omega) | decide) (c5 : 0 ≤ s1 := by first | omega | assumption | (simp only [mk_len, List.length_map]; omega) | decide) (c6 : In3 s1 := by first | omega | assumption | (simp only [mk_len, List.length_map]; omega) | decide) (c7 : 0 < q1 := by first | omega | assumption | (simp only [mk_len, List.length_map]; omega) | decide) (c14 : In3 x3 := by first | omega | assumption | (simp only [mk_len, List.length_map]; omega) | decide) (c15 : In3 z12 := by first | omega | assumption | (simp only [mk_len, List.length_map]; omega) | decide) : wr P d sw_c127 sw_h127 (57, [r0, vi x1, vi x2, vi x3, t4], [vi s2, vi s1, s0], h, kc, ks) Q := by
  subst e_q1
  refine w_iast rfl g3 (Nat.ble_eq_true_of_le c7) c6 c5 c4 ?_
  refine w_ld rfl rfl (Or.inl ⟨by decide, rfl⟩) ?_
  refine w_ld rfl rfl (Or.inr (Or.inr ⟨by decide, y8⟩)) ?_
  subst e_q9
  refine w_getf rfl g11 n13 ?_
  exact w_if2 rfl c14 c15 k1 k2

theorem k127_66 {P : s_P} {d : Nat} {Q : s_O → Prop} {h : s_H} {kc ks : Nat} {r0 : Term} {x1 x2 x3 : Int} {t4 : Term} {q2 : Nat} {f3 : List Term} {v5 : Term} {q7 : Nat} {a8 : List Term} {tg10 : Nat} {v11 : Term} {a17 : List Term} {tg19 : Nat} {v20 : Term} {a25 : List Term} {tg27 : Nat} {f32 : List Term} {v34 : Term} {q36 : Nat} {a37 : List Term} {tg39 : Nat} {f44 : List Term} (g4 : s_get h q2 = some (1, 1, f3)) (g9 : s_get h q7 = some (0, tg10, a8)) (g18 : s_get h q7 = some (0, tg19, a17)) (g26 : s_get h q7 = some (0, tg27, a25)) (w29 : s_okA h s_comp tg27 v20 = true) (g33 : s_get (hp h q7 (0, tg27, a25.set (Int.toNat (x3)) v20)) q2 = some (1, 1, f32)) (g38 : s_get (hp h q7 (0, tg27, a25.set (Int.toNat (x3)) v20)) q36 = some (0, tg39, a37)) (w41 : s_okA (hp h q7 (0, tg27, a25.set (Int.toNat (x3)) v20)) s_comp tg39 v11 = true) (g45 : s_get (hp (hp h q7 (0, tg27, a25.set (Int.toNat (x3)) v20)) q36 (0, tg39, a37.set (Int.toNat (x1)) v11)) q2 = some (1, 1, f44)) (k : wm P d 126 [.index q2, vi x1, vi x2] (hp (hp h q7 (0, tg27, a25.set (Int.toNat (x3)) v20)) q36 (0, tg39, a37.set (Int.toNat (x1)) v11)) (wq P d sw_c127 sw_h127 100 [.index q2, vi x1, vi x2, vi x3, v11] [] kc ks Q)) (e_q2 : r0 = .index q2 := by first | rfl | assumption) (e_q7 : v5 = .index q7 := by first | rfl | assumption) (e_q36 : v34 = .index q36 := by first | rfl | assumption) (y1 : s_ty r0 = 3 := by first | rfl | assumption) (n6 : s_nth f3 0 = some v5 := by first | rfl | assumption) (n12 : s_nth a8 (Int.toNat (x3)) = some v11 := by first | rfl | assumption) (u13 : tg10 = 2 ∨ tg10 = 3 ∨ tg10 = 4 := by first | decide | assumption) (y16 : s_ty v11 = 3 := by first | rfl | assumption) (n21 : s_nth a17 (Int.toNat (x1)) = some v20 := by first | rfl | assumption) (u22 : tg19 = 2 ∨ tg19 = 3 ∨ tg19 = 4 := by first | decide | assumption) (u28 : tg27 = 2 ∨ tg27 = 3 := by first | decide | assumption) (n35 : s_nth f32 0 = some v34 := by first | rfl | assumption) (u40 : tg39 = 2 ∨ tg39 = 3 := by first | decide | assumption) (c14 : In3 x3 := by first | omega | assumption | (simp only [mk_len, List.length_map]; omega) | decide) (c15 : 0 ≤ x3 := by first | omega | assumption | (simp only [mk_len, List.length_map]; omega) | decide) (c23 : In3 x1 := by first | omega | assumption | (simp only [mk_len, List.length_map]; omega) | decide) (c24 : 0 ≤ x1 := by first | omega | assumption | (simp only [mk_len, List.length_map]; omega) | decide) (c30 : x3 < a25.length := by first | omega | assumption | (simp only [mk_len, List.length_map]; omega) | decide) (c31 : 0 < q7 := by first | omega | assumption | (simp only [mk_len, List.length_map]; omega) | decide) (c42 : x1 < a37.length := by first | omega | assumption | (simp only [mk_len, List.length_map]; omega) | decide) (c43 : 0 < q36 := by first | omega | assumption | (simp only [mk_len, List.length_map]; omega) | decide) : wr P d sw_c127 sw_h127 (66, [r0, vi x1, vi x2, vi x3, t4], [], h, kc, ks) Q := by
  refine w_ld rfl rfl (Or.inr (Or.inr ⟨by decide, y1⟩)) ?_
  subst e_q2
  refine w_getf rfl g4 n6 ?_
  refine w_ld rfl rfl (Or.inl ⟨by decide, rfl⟩) ?_
  subst e_q7
  refine w_aald rfl g9 u13 c14 c15 n12 ?_
  refine w_st (ls' := [.index q2, vi x1, vi x2, vi x3, v11]) rfl (Or.inr ⟨by decide, y16⟩) rfl ?_
  refine w_ld rfl rfl (Or.inr (Or.inr ⟨by decide, rfl⟩)) ?_
  refine w_getf rfl g4 n6 ?_
  refine w_ld rfl rfl (Or.inl ⟨by decide, rfl⟩) ?_
  refine w_ld rfl rfl (Or.inr (Or.inr ⟨by decide, rfl⟩)) ?_
  refine w_getf rfl g4 n6 ?_
  refine w_ld rfl rfl (Or.inl ⟨by decide, rfl⟩) ?_
  refine w_aald rfl g18 u22 c23 c24 n21 ?_
  refine w_aast rfl g26 u28 (Nat.ble_eq_true_of_le c31) c14 c15 c30 w29 ?_
  refine w_ld rfl rfl (Or.inr (Or.inr ⟨by decide, rfl⟩)) ?_
  refine w_getf rfl g33 n35 ?_
  refine w_ld rfl rfl (Or.inl ⟨by decide, rfl⟩) ?_
  refine w_ld rfl rfl (Or.inr (Or.inr ⟨by decide, y16⟩)) ?_
  subst e_q36
  refine w_aast rfl g38 u40 (Nat.ble_eq_true_of_le c43) c23 c24 c42 w41 ?_
  refine w_ld rfl rfl (Or.inr (Or.inr ⟨by decide, rfl⟩)) ?_
  refine w_ld rfl rfl (Or.inl ⟨by decide, rfl⟩) ?_
  refine w_ld rfl rfl (Or.inl ⟨by decide, rfl⟩) ?_
  exact w_cv rfl [.index q2, vi x1, vi x2] [] rfl rfl (s_wt_4 rfl) rfl g45 k

theorem k127_100 {P : s_P} {d : Nat} {Q : s_O → Prop} {h : s_H} {kc ks : Nat} {r0 : Term} {x1 x2 x3 : Int} {r4 : Term}  (k : wr P d sw_c127 sw_h127 (103, [r0, vi (x1 + 1), vi x2, vi x3, r4], [], h, kc, ks) Q) (y1 : s_ty r0 = 3 := by first | rfl | assumption)  : wr P d sw_c127 sw_h127 (100, [r0, vi x1, vi x2, vi x3, r4], [], h, kc, ks) Q := by
  refine w_iinc (ls' := [r0, vi (x1 + 1), vi x2, vi x3, r4]) rfl rfl 1 (by decide) (s_stK_r (pre := []) y1) ?_
  exact k

theorem k127_103 {P : s_P} {d : Nat} {Q : s_O → Prop} {h : s_H} {kc ks : Nat} {r0 : Term} {x1 x2 x3 : Int} {t4 : Term}  (k : wr P d sw_c127 sw_h127 (4, [r0, vi x1, vi (x2 + 1), vi x3, t4], [], h, kc, ks) Q)   : wr P d sw_c127 sw_h127 (103, [r0, vi x1, vi x2, vi x3, t4], [], h, kc, ks) Q := by
  refine w_iinc (ls' := [r0, vi x1, vi (x2 + 1), vi x3, t4]) rfl rfl 1 (by decide) rfl ?_
  refine w_goto rfl ?_
  exact k

theorem k127_109 {P : s_P} {d : Nat} {Q : s_O → Prop} {h : s_H} {kc ks : Nat} {r0 : Term} {x1 x2 : Int} {t3 t4 : Term}  (k : Q (.inl none, h, kc, ks))   : wr P d sw_c127 sw_h127 (109, [r0, vi x1, vi x2, t3, t4], [], h, kc, ks) Q := by
  exact w_ret rfl k

/-! 128: FormulaWorks$Linear.firstFree()I -/
theorem k128_0 {P : s_P} {d : Nat} {Q : s_O → Prop} {h : s_H} {kc ks : Nat} {r0 t1 : Term}  (k : wr P d sw_c128 sw_h128 (2, [r0, vi 0], [], h, kc, ks) Q) (y1 : s_ty r0 = 3 := by first | rfl | assumption)  : wr P d sw_c128 sw_h128 (0, [r0, t1], [], h, kc, ks) Q := by
  refine w_c32 rfl (by decide) 0 (by decide) ?_
  refine w_st (ls' := [r0, vi 0]) rfl (Or.inl ⟨by decide, rfl⟩) (s_stK_r (pre := []) y1) ?_
  exact k

theorem k128_2 {P : s_P} {d : Nat} {Q : s_O → Prop} {h : s_H} {kc ks : Nat} {r0 : Term} {x1 : Int} {q2 : Nat} {f3 : List Term} {z5 : Int} (g4 : s_get h q2 = some (1, 1, f3)) (k1 : z5 ≤ x1 → wr P d sw_c128 sw_h128 (25, [.index q2, vi x1], [], h, kc, ks) Q) (k2 : ¬ z5 ≤ x1 → wr P d sw_c128 sw_h128 (10, [.index q2, vi x1], [], h, kc, ks) Q) (e_q2 : r0 = .index q2 := by first | rfl | assumption) (y1 : s_ty r0 = 3 := by first | rfl | assumption) (n6 : s_nth f3 4 = some (vi z5) := by first | rfl | assumption) (c7 : In3 x1 := by first | omega | assumption | (simp only [mk_len, List.length_map]; omega) | decide) (c8 : In3 z5 := by first | omega | assumption | (simp only [mk_len, List.length_map]; omega) | decide) : wr P d sw_c128 sw_h128 (2, [r0, vi x1], [], h, kc, ks) Q := by
  refine w_ld rfl rfl (Or.inl ⟨by decide, rfl⟩) ?_
  refine w_ld rfl rfl (Or.inr (Or.inr ⟨by decide, y1⟩)) ?_
  subst e_q2
  refine w_getf rfl g4 n6 ?_
  exact w_if2 rfl c7 c8 k1 k2

theorem k128_10 {P : s_P} {d : Nat} {Q : s_O → Prop} {h : s_H} {kc ks : Nat} {r0 : Term} {x1 : Int} {q2 : Nat} {f3 : List Term} {v5 : Term} {q7 : Nat} {a8 : List Int} (g4 : s_get h q2 = some (1, 1, f3)) (g9 : s_get h q7 = some (0, 0, a8.map vi)) (k1 : gi a8 x1 < 0 → wr P d sw_c128 sw_h128 (25, [.index q2, vi x1], [], h, kc, ks) Q) (k2 : ¬ gi a8 x1 < 0 → wr P d sw_c128 sw_h128 (19, [.index q2, vi x1], [], h, kc, ks) Q) (e_q2 : r0 = .index q2 := by first | rfl | assumption) (e_q7 : v5 = .index q7 := by first | rfl | assumption) (y1 : s_ty r0 = 3 := by first | rfl | assumption) (n6 : s_nth f3 1 = some v5 := by first | rfl | assumption) (c10 : x1 < a8.length := by first | omega | assumption | (simp only [mk_len, List.length_map]; omega) | decide) (c11 : 0 ≤ x1 := by first | omega | assumption | (simp only [mk_len, List.length_map]; omega) | decide) (c12 : In3 x1 := by first | omega | assumption | (simp only [mk_len, List.length_map]; omega) | decide) (c13 : In3 (gi a8 x1) := by first | omega | assumption | (simp only [mk_len, List.length_map]; omega) | decide) : wr P d sw_c128 sw_h128 (10, [r0, vi x1], [], h, kc, ks) Q := by
  refine w_ld rfl rfl (Or.inr (Or.inr ⟨by decide, y1⟩)) ?_
  subst e_q2
  refine w_getf rfl g4 n6 ?_
  refine w_ld rfl rfl (Or.inl ⟨by decide, rfl⟩) ?_
  subst e_q7
  refine w_iald rfl g9 (Or.inl rfl) c12 c11 c10 ?_
  exact w_if1 rfl c13 k1 k2

theorem k128_19 {P : s_P} {d : Nat} {Q : s_O → Prop} {h : s_H} {kc ks : Nat} {r0 : Term} {x1 : Int}  (k : wr P d sw_c128 sw_h128 (2, [r0, vi (x1 + 1)], [], h, kc, ks) Q) (y1 : s_ty r0 = 3 := by first | rfl | assumption)  : wr P d sw_c128 sw_h128 (19, [r0, vi x1], [], h, kc, ks) Q := by
  refine w_iinc (ls' := [r0, vi (x1 + 1)]) rfl rfl 1 (by decide) (s_stK_r (pre := []) y1) ?_
  refine w_goto rfl ?_
  exact k

theorem k128_25 {P : s_P} {d : Nat} {Q : s_O → Prop} {h : s_H} {kc ks : Nat} {r0 : Term} {x1 : Int}  (k : Q (.inl (some (vi x1)), h, kc, ks))   : wr P d sw_c128 sw_h128 (25, [r0, vi x1], [], h, kc, ks) Q := by
  refine w_ld rfl rfl (Or.inl ⟨by decide, rfl⟩) ?_
  exact w_iret rfl k

/-! 129: FormulaWorks$Linear.isFree(I)Z -/
theorem k129_0 {P : s_P} {d : Nat} {Q : s_O → Prop} {h : s_H} {kc ks : Nat} {r0 : Term} {x1 : Int}  (k1 : x1 < 0 → wr P d sw_c129 sw_h129 (25, [r0, vi x1], [], h, kc, ks) Q) (k2 : ¬ x1 < 0 → wr P d sw_c129 sw_h129 (4, [r0, vi x1], [], h, kc, ks) Q)  (c1 : In3 x1 := by first | omega | assumption | (simp only [mk_len, List.length_map]; omega) | decide) : wr P d sw_c129 sw_h129 (0, [r0, vi x1], [], h, kc, ks) Q := by
  refine w_ld rfl rfl (Or.inl ⟨by decide, rfl⟩) ?_
  exact w_if1 rfl c1 k1 k2

theorem k129_4 {P : s_P} {d : Nat} {Q : s_O → Prop} {h : s_H} {kc ks : Nat} {r0 : Term} {x1 : Int} {q2 : Nat} {f3 : List Term} {z5 : Int} (g4 : s_get h q2 = some (1, 1, f3)) (k1 : z5 ≤ x1 → wr P d sw_c129 sw_h129 (25, [.index q2, vi x1], [], h, kc, ks) Q) (k2 : ¬ z5 ≤ x1 → wr P d sw_c129 sw_h129 (12, [.index q2, vi x1], [], h, kc, ks) Q) (e_q2 : r0 = .index q2 := by first | rfl | assumption) (y1 : s_ty r0 = 3 := by first | rfl | assumption) (n6 : s_nth f3 4 = some (vi z5) := by first | rfl | assumption) (c7 : In3 x1 := by first | omega | assumption | (simp only [mk_len, List.length_map]; omega) | decide) (c8 : In3 z5 := by first | omega | assumption | (simp only [mk_len, List.length_map]; omega) | decide) : wr P d sw_c129 sw_h129 (4, [r0, vi x1], [], h, kc, ks) Q := by
  refine w_ld rfl rfl (Or.inl ⟨by decide, rfl⟩) ?_
  refine w_ld rfl rfl (Or.inr (Or.inr ⟨by decide, y1⟩)) ?_
  subst e_q2
  refine w_getf rfl g4 n6 ?_
  exact w_if2 rfl c7 c8 k1 k2

theorem k129_12 {P : s_P} {d : Nat} {Q : s_O → Prop} {h : s_H} {kc ks : Nat} {r0 : Term} {x1 : Int} {q2 : Nat} {f3 : List Term} {v5 : Term} {q7 : Nat} {a8 : List Int} (g4 : s_get h q2 = some (1, 1, f3)) (g9 : s_get h q7 = some (0, 0, a8.map vi)) (k1 : 0 ≤ gi a8 x1 → wr P d sw_c129 sw_h129 (25, [.index q2, vi x1], [], h, kc, ks) Q) (k2 : ¬ 0 ≤ gi a8 x1 → wr P d sw_c129 sw_h129 (21, [.index q2, vi x1], [], h, kc, ks) Q) (e_q2 : r0 = .index q2 := by first | rfl | assumption) (e_q7 : v5 = .index q7 := by first | rfl | assumption) (y1 : s_ty r0 = 3 := by first | rfl | assumption) (n6 : s_nth f3 1 = some v5 := by first | rfl | assumption) (c10 : x1 < a8.length := by first | omega | assumption | (simp only [mk_len, List.length_map]; omega) | decide) (c11 : 0 ≤ x1 := by first | omega | assumption | (simp only [mk_len, List.length_map]; omega) | decide) (c12 : In3 x1 := by first | omega | assumption | (simp only [mk_len, List.length_map]; omega) | decide) (c13 : In3 (gi a8 x1) := by first | omega | assumption | (simp only [mk_len, List.length_map]; omega) | decide) : wr P d sw_c129 sw_h129 (12, [r0, vi x1], [], h, kc, ks) Q := by
  refine w_ld rfl rfl (Or.inr (Or.inr ⟨by decide, y1⟩)) ?_
  subst e_q2
  refine w_getf rfl g4 n6 ?_
  refine w_ld rfl rfl (Or.inl ⟨by decide, rfl⟩) ?_
  subst e_q7
  refine w_iald rfl g9 (Or.inl rfl) c12 c11 c10 ?_
  exact w_if1 rfl c13 k1 k2

theorem k129_21 {P : s_P} {d : Nat} {Q : s_O → Prop} {h : s_H} {kc ks : Nat} {r0 : Term} {x1 : Int}  (k : wr P d sw_c129 sw_h129 (26, [r0, vi x1], [vi 1], h, kc, ks) Q)   : wr P d sw_c129 sw_h129 (21, [r0, vi x1], [], h, kc, ks) Q := by
  refine w_c32 rfl (by decide) 1 (by decide) ?_
  refine w_goto rfl ?_
  exact k

theorem k129_25 {P : s_P} {d : Nat} {Q : s_O → Prop} {h : s_H} {kc ks : Nat} {r0 : Term} {x1 : Int}  (k : wr P d sw_c129 sw_h129 (26, [r0, vi x1], [vi 0], h, kc, ks) Q)   : wr P d sw_c129 sw_h129 (25, [r0, vi x1], [], h, kc, ks) Q := by
  refine w_c32 rfl (by decide) 0 (by decide) ?_
  exact k

theorem k129_26 {P : s_P} {d : Nat} {Q : s_O → Prop} {h : s_H} {kc ks : Nat} {r0 : Term} {x1 s0 : Int}  (k : Q (.inl (some (vi s0)), h, kc, ks))  (c1 : s0 = 0 ∨ s0 = 1 := by first | omega | assumption | (simp only [mk_len, List.length_map]; omega) | decide) : wr P d sw_c129 sw_h129 (26, [r0, vi x1], [vi s0], h, kc, ks) Q := by
  exact w_zret rfl c1 k

/-! 130: FormulaWorks$Linear.set(III)V -/
theorem k130_0 {P : s_P} {d : Nat} {Q : s_O → Prop} {h : s_H} {kc ks : Nat} {r0 : Term} {x1 x2 x3 : Int}  (k1 : x1 < 0 → wr P d sw_c130 sw_h130 (33, [r0, vi x1, vi x2, vi x3], [], h, kc, ks) Q) (k2 : ¬ x1 < 0 → wr P d sw_c130 sw_h130 (4, [r0, vi x1, vi x2, vi x3], [], h, kc, ks) Q)  (c1 : In3 x1 := by first | omega | assumption | (simp only [mk_len, List.length_map]; omega) | decide) : wr P d sw_c130 sw_h130 (0, [r0, vi x1, vi x2, vi x3], [], h, kc, ks) Q := by
  refine w_ld rfl rfl (Or.inl ⟨by decide, rfl⟩) ?_
  exact w_if1 rfl c1 k1 k2

theorem k130_4 {P : s_P} {d : Nat} {Q : s_O → Prop} {h : s_H} {kc ks : Nat} {r0 : Term} {x1 x2 x3 : Int} {q2 : Nat} {f3 : List Term} {z5 : Int} (g4 : s_get h q2 = some (1, 1, f3)) (k1 : z5 ≤ x1 → wr P d sw_c130 sw_h130 (33, [.index q2, vi x1, vi x2, vi x3], [], h, kc, ks) Q) (k2 : ¬ z5 ≤ x1 → wr P d sw_c130 sw_h130 (12, [.index q2, vi x1, vi x2, vi x3], [], h, kc, ks) Q) (e_q2 : r0 = .index q2 := by first | rfl | assumption) (y1 : s_ty r0 = 3 := by first | rfl | assumption) (n6 : s_nth f3 3 = some (vi z5) := by first | rfl | assumption) (c7 : In3 x1 := by first | omega | assumption | (simp only [mk_len, List.length_map]; omega) | decide) (c8 : In3 z5 := by first | omega | assumption | (simp only [mk_len, List.length_map]; omega) | decide) : wr P d sw_c130 sw_h130 (4, [r0, vi x1, vi x2, vi x3], [], h, kc, ks) Q := by
  refine w_ld rfl rfl (Or.inl ⟨by decide, rfl⟩) ?_
  refine w_ld rfl rfl (Or.inr (Or.inr ⟨by decide, y1⟩)) ?_
  subst e_q2
  refine w_getf rfl g4 n6 ?_
  exact w_if2 rfl c7 c8 k1 k2

theorem k130_12 {P : s_P} {d : Nat} {Q : s_O → Prop} {h : s_H} {kc ks : Nat} {r0 : Term} {x1 x2 x3 : Int}  (k1 : x2 < 0 → wr P d sw_c130 sw_h130 (33, [r0, vi x1, vi x2, vi x3], [], h, kc, ks) Q) (k2 : ¬ x2 < 0 → wr P d sw_c130 sw_h130 (16, [r0, vi x1, vi x2, vi x3], [], h, kc, ks) Q)  (c1 : In3 x2 := by first | omega | assumption | (simp only [mk_len, List.length_map]; omega) | decide) : wr P d sw_c130 sw_h130 (12, [r0, vi x1, vi x2, vi x3], [], h, kc, ks) Q := by
  refine w_ld rfl rfl (Or.inl ⟨by decide, rfl⟩) ?_
  exact w_if1 rfl c1 k1 k2

theorem k130_16 {P : s_P} {d : Nat} {Q : s_O → Prop} {h : s_H} {kc ks : Nat} {r0 : Term} {x1 x2 x3 : Int} {q2 : Nat} {f3 : List Term} {z5 : Int} (g4 : s_get h q2 = some (1, 1, f3)) (k1 : z5 ≤ x2 → wr P d sw_c130 sw_h130 (33, [.index q2, vi x1, vi x2, vi x3], [], h, kc, ks) Q) (k2 : ¬ z5 ≤ x2 → wr P d sw_c130 sw_h130 (24, [.index q2, vi x1, vi x2, vi x3], [], h, kc, ks) Q) (e_q2 : r0 = .index q2 := by first | rfl | assumption) (y1 : s_ty r0 = 3 := by first | rfl | assumption) (n6 : s_nth f3 4 = some (vi z5) := by first | rfl | assumption) (c7 : In3 x2 := by first | omega | assumption | (simp only [mk_len, List.length_map]; omega) | decide) (c8 : In3 z5 := by first | omega | assumption | (simp only [mk_len, List.length_map]; omega) | decide) : wr P d sw_c130 sw_h130 (16, [r0, vi x1, vi x2, vi x3], [], h, kc, ks) Q := by
  refine w_ld rfl rfl (Or.inl ⟨by decide, rfl⟩) ?_
  refine w_ld rfl rfl (Or.inr (Or.inr ⟨by decide, y1⟩)) ?_
  subst e_q2
  refine w_getf rfl g4 n6 ?_
  exact w_if2 rfl c7 c8 k1 k2

theorem k130_24 {P : s_P} {d : Nat} {Q : s_O → Prop} {h : s_H} {kc ks : Nat} {r0 : Term} {x1 x2 x3 : Int} {q2 : Nat} {f3 : List Term} {v5 : Term} {q7 : Nat} {a8 : List Term} {tg10 : Nat} {v11 : Term} {q16 : Nat} {a17 : List Int} (g4 : s_get h q2 = some (1, 1, f3)) (g9 : s_get h q7 = some (0, tg10, a8)) (g18 : s_get h q16 = some (0, 0, a17.map vi)) (k : wr P d sw_c130 sw_h130 (33, [.index q2, vi x1, vi x2, vi x3], [], (hp h q16 (0, 0, (a17.set (Int.toNat (x2)) x3).map vi)), kc, ks) Q) (e_q2 : r0 = .index q2 := by first | rfl | assumption) (e_q7 : v5 = .index q7 := by first | rfl | assumption) (e_q16 : v11 = .index q16 := by first | rfl | assumption) (y1 : s_ty r0 = 3 := by first | rfl | assumption) (n6 : s_nth f3 0 = some v5 := by first | rfl | assumption) (n12 : s_nth a8 (Int.toNat (x1)) = some v11 := by first | rfl | assumption) (u13 : tg10 = 2 ∨ tg10 = 3 ∨ tg10 = 4 := by first | decide | assumption) (c14 : In3 x1 := by first | omega | assumption | (simp only [mk_len, List.length_map]; omega) | decide) (c15 : 0 ≤ x1 := by first | omega | assumption | (simp only [mk_len, List.length_map]; omega) | decide) (c19 : x2 < a17.length := by first | omega | assumption | (simp only [mk_len, List.length_map]; omega) | decide) (c20 : 0 ≤ x2 := by first | omega | assumption | (simp only [mk_len, List.length_map]; omega) | decide) (c21 : In3 x2 := by first | omega | assumption | (simp only [mk_len, List.length_map]; omega) | decide) (c22 : 0 < q16 := by first | omega | assumption | (simp only [mk_len, List.length_map]; omega) | decide) : wr P d sw_c130 sw_h130 (24, [r0, vi x1, vi x2, vi x3], [], h, kc, ks) Q := by
  refine w_ld rfl rfl (Or.inr (Or.inr ⟨by decide, y1⟩)) ?_
  subst e_q2
  refine w_getf rfl g4 n6 ?_
  refine w_ld rfl rfl (Or.inl ⟨by decide, rfl⟩) ?_
  subst e_q7
  refine w_aald rfl g9 u13 c14 c15 n12 ?_
  refine w_ld rfl rfl (Or.inl ⟨by decide, rfl⟩) ?_
  refine w_ld rfl rfl (Or.inl ⟨by decide, rfl⟩) ?_
  subst e_q16
  refine w_iast rfl g18 (Nat.ble_eq_true_of_le c22) c21 c20 c19 ?_
  exact k

theorem k130_33 {P : s_P} {d : Nat} {Q : s_O → Prop} {h : s_H} {kc ks : Nat} {r0 : Term} {x1 x2 x3 : Int}  (k : Q (.inl none, h, kc, ks))   : wr P d sw_c130 sw_h130 (33, [r0, vi x1, vi x2, vi x3], [], h, kc, ks) Q := by
  exact w_ret rfl k

/-! 131: FormulaWorks$Linear.setColumn(ILFormulaWorks$Poly;)V -/
theorem k131_0 {P : s_P} {d : Nat} {Q : s_O → Prop} {h : s_H} {kc ks : Nat} {r0 : Term} {x1 : Int} {r2 t3 : Term}  (k : wr P d sw_c131 sw_h131 (2, [r0, vi x1, r2, vi 0], [], h, kc, ks) Q) (y1 : s_ty r2 = 3 := by first | rfl | assumption)  : wr P d sw_c131 sw_h131 (0, [r0, vi x1, r2, t3], [], h, kc, ks) Q := by
  refine w_c32 rfl (by decide) 0 (by decide) ?_
  refine w_st (ls' := [r0, vi x1, r2, vi 0]) rfl (Or.inl ⟨by decide, rfl⟩) (s_stK_r (pre := [r0, vi x1]) y1) ?_
  exact k

theorem k131_2 {P : s_P} {d : Nat} {Q : s_O → Prop} {h : s_H} {kc ks : Nat} {r0 : Term} {x1 : Int} {r2 : Term} {x3 : Int} {q2 : Nat} {f3 : List Term} {z5 : Int} (g4 : s_get h q2 = some (1, 4, f3)) (k1 : z5 < x3 → wr P d sw_c131 sw_h131 (28, [r0, vi x1, .index q2, vi x3], [], h, kc, ks) Q) (k2 : ¬ z5 < x3 → wr P d sw_c131 sw_h131 (10, [r0, vi x1, .index q2, vi x3], [], h, kc, ks) Q) (e_q2 : r2 = .index q2 := by first | rfl | assumption) (y1 : s_ty r2 = 3 := by first | rfl | assumption) (n6 : s_nth f3 1 = some (vi z5) := by first | rfl | assumption) (c7 : In3 x3 := by first | omega | assumption | (simp only [mk_len, List.length_map]; omega) | decide) (c8 : In3 z5 := by first | omega | assumption | (simp only [mk_len, List.length_map]; omega) | decide) : wr P d sw_c131 sw_h131 (2, [r0, vi x1, r2, vi x3], [], h, kc, ks) Q := by
  refine w_ld rfl rfl (Or.inl ⟨by decide, rfl⟩) ?_
  refine w_ld rfl rfl (Or.inr (Or.inr ⟨by decide, y1⟩)) ?_
  subst e_q2
  refine w_getf rfl g4 n6 ?_
  exact w_if2 rfl c7 c8 k1 k2

theorem k131_10 {P : s_P} {d : Nat} {Q : s_O → Prop} {h : s_H} {kc ks : Nat} {r0 : Term} {x1 : Int} {r2 : Term} {x3 : Int} {q3 : Nat} {f4 : List Term} {v6 : Term} {q8 : Nat} {a9 : List Int} {q14 : Nat} {f15 : List Term} (g5 : s_get h q3 = some (1, 4, f4)) (g10 : s_get h q8 = some (0, 0, a9.map vi)) (g16 : s_get h q14 = some (1, 1, f15)) (k : wm P d 130 [.index q14, vi x3, vi x1, vi (gi a9 x3)] h (wq P d sw_c131 sw_h131 22 [.index q14, vi x1, .index q3, vi x3] [] kc ks Q)) (e_q3 : r2 = .index q3 := by first | rfl | assumption) (e_q8 : v6 = .index q8 := by first | rfl | assumption) (e_q14 : r0 = .index q14 := by first | rfl | assumption) (y1 : s_ty r0 = 3 := by first | rfl | assumption) (y2 : s_ty r2 = 3 := by first | rfl | assumption) (n7 : s_nth f4 0 = some v6 := by first | rfl | assumption) (c11 : x3 < a9.length := by first | omega | assumption | (simp only [mk_len, List.length_map]; omega) | decide) (c12 : 0 ≤ x3 := by first | omega | assumption | (simp only [mk_len, List.length_map]; omega) | decide) (c13 : In3 x3 := by first | omega | assumption | (simp only [mk_len, List.length_map]; omega) | decide) : wr P d sw_c131 sw_h131 (10, [r0, vi x1, r2, vi x3], [], h, kc, ks) Q := by
  refine w_ld rfl rfl (Or.inr (Or.inr ⟨by decide, y1⟩)) ?_
  refine w_ld rfl rfl (Or.inl ⟨by decide, rfl⟩) ?_
  refine w_ld rfl rfl (Or.inl ⟨by decide, rfl⟩) ?_
  refine w_ld rfl rfl (Or.inr (Or.inr ⟨by decide, y2⟩)) ?_
  subst e_q3
  refine w_getf rfl g5 n7 ?_
  refine w_ld rfl rfl (Or.inl ⟨by decide, rfl⟩) ?_
  subst e_q8
  refine w_iald rfl g10 (Or.inl rfl) c13 c12 c11 ?_
  subst e_q14
  exact w_cv rfl [.index q14, vi x3, vi x1, vi (gi a9 x3)] [] rfl rfl (s_wt_4 rfl) rfl g16 k

theorem k131_22 {P : s_P} {d : Nat} {Q : s_O → Prop} {h : s_H} {kc ks : Nat} {r0 : Term} {x1 : Int} {r2 : Term} {x3 : Int}  (k : wr P d sw_c131 sw_h131 (2, [r0, vi x1, r2, vi (x3 + 1)], [], h, kc, ks) Q) (y1 : s_ty r2 = 3 := by first | rfl | assumption)  : wr P d sw_c131 sw_h131 (22, [r0, vi x1, r2, vi x3], [], h, kc, ks) Q := by
  refine w_iinc (ls' := [r0, vi x1, r2, vi (x3 + 1)]) rfl rfl 1 (by decide) (s_stK_r (pre := [r0, vi x1]) y1) ?_
  refine w_goto rfl ?_
  exact k

theorem k131_28 {P : s_P} {d : Nat} {Q : s_O → Prop} {h : s_H} {kc ks : Nat} {r0 : Term} {x1 : Int} {r2 : Term} {x3 : Int}  (k : Q (.inl none, h, kc, ks))   : wr P d sw_c131 sw_h131 (28, [r0, vi x1, r2, vi x3], [], h, kc, ks) Q := by
  exact w_ret rfl k

/-! 132: FormulaWorks$Linear.weigh(I)V -/
theorem k132_0 {P : s_P} {d : Nat} {Q : s_O → Prop} {h : s_H} {kc ks : Nat} {r0 : Term} {x1 : Int} {t2 t3 : Term}  (k : wr P d sw_c132 sw_h132 (2, [r0, vi x1, vi 0, t3], [], h, kc, ks) Q)   : wr P d sw_c132 sw_h132 (0, [r0, vi x1, t2, t3], [], h, kc, ks) Q := by
  refine w_c32 rfl (by decide) 0 (by decide) ?_
  refine w_st (ls' := [r0, vi x1, vi 0, t3]) rfl (Or.inl ⟨by decide, rfl⟩) rfl ?_
  exact k

theorem k132_2 {P : s_P} {d : Nat} {Q : s_O → Prop} {h : s_H} {kc ks : Nat} {r0 : Term} {x1 x2 : Int} {t3 : Term} {q2 : Nat} {f3 : List Term} {z5 : Int} (g4 : s_get h q2 = some (1, 1, f3)) (k1 : z5 ≤ x2 → wr P d sw_c132 sw_h132 (71, [.index q2, vi x1, vi x2, t3], [], h, kc, ks) Q) (k2 : ¬ z5 ≤ x2 → wr P d sw_c132 sw_h132 (10, [.index q2, vi x1, vi x2, t3], [], h, kc, ks) Q) (e_q2 : r0 = .index q2 := by first | rfl | assumption) (y1 : s_ty r0 = 3 := by first | rfl | assumption) (n6 : s_nth f3 4 = some (vi z5) := by first | rfl | assumption) (c7 : In3 x2 := by first | omega | assumption | (simp only [mk_len, List.length_map]; omega) | decide) (c8 : In3 z5 := by first | omega | assumption | (simp only [mk_len, List.length_map]; omega) | decide) : wr P d sw_c132 sw_h132 (2, [r0, vi x1, vi x2, t3], [], h, kc, ks) Q := by
  refine w_ld rfl rfl (Or.inl ⟨by decide, rfl⟩) ?_
  refine w_ld rfl rfl (Or.inr (Or.inr ⟨by decide, y1⟩)) ?_
  subst e_q2
  refine w_getf rfl g4 n6 ?_
  exact w_if2 rfl c7 c8 k1 k2

theorem k132_10 {P : s_P} {d : Nat} {Q : s_O → Prop} {h : s_H} {kc ks : Nat} {r0 : Term} {x1 x2 : Int} {t3 : Term}  (k1 : x1 ≤ x2 → wr P d sw_c132 sw_h132 (36, [r0, vi x1, vi x2, t3], [], h, kc, ks) Q) (k2 : ¬ x1 ≤ x2 → wr P d sw_c132 sw_h132 (15, [r0, vi x1, vi x2, t3], [], h, kc, ks) Q)  (c1 : In3 x2 := by first | omega | assumption | (simp only [mk_len, List.length_map]; omega) | decide) (c2 : In3 x1 := by first | omega | assumption | (simp only [mk_len, List.length_map]; omega) | decide) : wr P d sw_c132 sw_h132 (10, [r0, vi x1, vi x2, t3], [], h, kc, ks) Q := by
  refine w_ld rfl rfl (Or.inl ⟨by decide, rfl⟩) ?_
  refine w_ld rfl rfl (Or.inl ⟨by decide, rfl⟩) ?_
  exact w_if2 rfl c1 c2 k1 k2

theorem k132_15 {P : s_P} {d : Nat} {Q : s_O → Prop} {h : s_H} {kc ks : Nat} {r0 : Term} {x1 x2 : Int} {t3 : Term} {q2 : Nat} {f3 : List Term} {z5 : Int} (g4 : s_get h q2 = some (1, 1, f3)) (k1 : z5 ≤ x1 → wr P d sw_c132 sw_h132 (36, [.index q2, vi x1, vi x2, t3], [], h, kc, ks) Q) (k2 : ¬ z5 ≤ x1 → wr P d sw_c132 sw_h132 (23, [.index q2, vi x1, vi x2, t3], [], h, kc, ks) Q) (e_q2 : r0 = .index q2 := by first | rfl | assumption) (y1 : s_ty r0 = 3 := by first | rfl | assumption) (n6 : s_nth f3 4 = some (vi z5) := by first | rfl | assumption) (c7 : In3 x1 := by first | omega | assumption | (simp only [mk_len, List.length_map]; omega) | decide) (c8 : In3 z5 := by first | omega | assumption | (simp only [mk_len, List.length_map]; omega) | decide) : wr P d sw_c132 sw_h132 (15, [r0, vi x1, vi x2, t3], [], h, kc, ks) Q := by
  refine w_ld rfl rfl (Or.inl ⟨by decide, rfl⟩) ?_
  refine w_ld rfl rfl (Or.inr (Or.inr ⟨by decide, y1⟩)) ?_
  subst e_q2
  refine w_getf rfl g4 n6 ?_
  exact w_if2 rfl c7 c8 k1 k2

theorem k132_23 {P : s_P} {d : Nat} {Q : s_O → Prop} {h : s_H} {kc ks : Nat} {r0 : Term} {x1 x2 : Int} {t3 : Term} {q2 : Nat} {f3 : List Term} {v5 : Term} {q7 : Nat} {a8 : List Int} (g4 : s_get h q2 = some (1, 1, f3)) (g9 : s_get h q7 = some (0, 0, a8.map vi)) (k1 : gi a8 x2 < 0 → wr P d sw_c132 sw_h132 (36, [.index q2, vi x1, vi x2, t3], [], h, kc, ks) Q) (k2 : ¬ gi a8 x2 < 0 → wr P d sw_c132 sw_h132 (32, [.index q2, vi x1, vi x2, t3], [], h, kc, ks) Q) (e_q2 : r0 = .index q2 := by first | rfl | assumption) (e_q7 : v5 = .index q7 := by first | rfl | assumption) (y1 : s_ty r0 = 3 := by first | rfl | assumption) (n6 : s_nth f3 1 = some v5 := by first | rfl | assumption) (c10 : x2 < a8.length := by first | omega | assumption | (simp only [mk_len, List.length_map]; omega) | decide) (c11 : 0 ≤ x2 := by first | omega | assumption | (simp only [mk_len, List.length_map]; omega) | decide) (c12 : In3 x2 := by first | omega | assumption | (simp only [mk_len, List.length_map]; omega) | decide) (c13 : In3 (gi a8 x2) := by first | omega | assumption | (simp only [mk_len, List.length_map]; omega) | decide) : wr P d sw_c132 sw_h132 (23, [r0, vi x1, vi x2, t3], [], h, kc, ks) Q := by
  refine w_ld rfl rfl (Or.inr (Or.inr ⟨by decide, y1⟩)) ?_
  subst e_q2
  refine w_getf rfl g4 n6 ?_
  refine w_ld rfl rfl (Or.inl ⟨by decide, rfl⟩) ?_
  subst e_q7
  refine w_iald rfl g9 (Or.inl rfl) c12 c11 c10 ?_
  exact w_if1 rfl c13 k1 k2

theorem k132_32 {P : s_P} {d : Nat} {Q : s_O → Prop} {h : s_H} {kc ks : Nat} {r0 : Term} {x1 x2 : Int} {t3 : Term}  (k : wr P d sw_c132 sw_h132 (37, [r0, vi x1, vi x2, t3], [vi 1], h, kc, ks) Q)   : wr P d sw_c132 sw_h132 (32, [r0, vi x1, vi x2, t3], [], h, kc, ks) Q := by
  refine w_c32 rfl (by decide) 1 (by decide) ?_
  refine w_goto rfl ?_
  exact k

theorem k132_36 {P : s_P} {d : Nat} {Q : s_O → Prop} {h : s_H} {kc ks : Nat} {r0 : Term} {x1 x2 : Int} {t3 : Term}  (k : wr P d sw_c132 sw_h132 (37, [r0, vi x1, vi x2, t3], [vi 0], h, kc, ks) Q)   : wr P d sw_c132 sw_h132 (36, [r0, vi x1, vi x2, t3], [], h, kc, ks) Q := by
  refine w_c32 rfl (by decide) 0 (by decide) ?_
  exact k

theorem k132_37 {P : s_P} {d : Nat} {Q : s_O → Prop} {h : s_H} {kc ks : Nat} {r0 : Term} {x1 x2 : Int} {t3 : Term} {s0 : Int} {q2 : Nat} {f3 : List Term} {v5 : Term} (g4 : s_get h q2 = some (1, 1, f3)) (k1 : s0 = 0 → wr P d sw_c132 sw_h132 (63, [.index q2, vi x1, vi x2, vi s0], [vi x2, v5], h, kc, ks) Q) (k2 : ¬ s0 = 0 → wr P d sw_c132 sw_h132 (47, [.index q2, vi x1, vi x2, vi s0], [vi x2, v5], h, kc, ks) Q) (e_q2 : r0 = .index q2 := by first | rfl | assumption) (y1 : s_ty r0 = 3 := by first | rfl | assumption) (n6 : s_nth f3 2 = some v5 := by first | rfl | assumption) (c7 : In3 s0 := by first | omega | assumption | (simp only [mk_len, List.length_map]; omega) | decide) : wr P d sw_c132 sw_h132 (37, [r0, vi x1, vi x2, t3], [vi s0], h, kc, ks) Q := by
  refine w_st (ls' := [r0, vi x1, vi x2, vi s0]) rfl (Or.inl ⟨by decide, rfl⟩) rfl ?_
  refine w_ld rfl rfl (Or.inr (Or.inr ⟨by decide, y1⟩)) ?_
  subst e_q2
  refine w_getf rfl g4 n6 ?_
  refine w_ld rfl rfl (Or.inl ⟨by decide, rfl⟩) ?_
  refine w_ld rfl rfl (Or.inl ⟨by decide, rfl⟩) ?_
  exact w_if1 rfl c7 k1 k2

theorem k132_47 {P : s_P} {d : Nat} {Q : s_O → Prop} {h : s_H} {kc ks : Nat} {r0 : Term} {x1 x2 x3 : Int} {s0 : Term} {s1 : Int} {q2 : Nat} {f3 : List Term} {v5 v7 : Term} {q9 : Nat} {a10 : List Int} {q15 : Nat} {a16 : List Term} {tg18 : Nat} {v19 : Term} {q24 : Nat} {a25 : List Int} (g4 : s_get h q2 = some (1, 1, f3)) (g11 : s_get h q9 = some (0, 0, a10.map vi)) (g17 : s_get h q15 = some (0, tg18, a16)) (g26 : s_get h q24 = some (0, 0, a25.map vi)) (k : wr P d sw_c132 sw_h132 (64, [.index q2, vi x1, vi x2, vi x3], [vi (gi a25 x1), vi s1, s0], h, kc, ks) Q) (e_q2 : r0 = .index q2 := by first | rfl | assumption) (e_q9 : v7 = .index q9 := by first | rfl | assumption) (e_q15 : v5 = .index q15 := by first | rfl | assumption) (e_q24 : v19 = .index q24 := by first | rfl | assumption) (y1 : s_ty r0 = 3 := by first | rfl | assumption) (n6 : s_nth f3 0 = some v5 := by first | rfl | assumption) (n8 : s_nth f3 1 = some v7 := by first | rfl | assumption) (n20 : s_nth a16 (Int.toNat (gi a10 x2)) = some v19 := by first | rfl | assumption) (u21 : tg18 = 2 ∨ tg18 = 3 ∨ tg18 = 4 := by first | decide | assumption) (c12 : x2 < a10.length := by first | omega | assumption | (simp only [mk_len, List.length_map]; omega) | decide) (c13 : 0 ≤ x2 := by first | omega | assumption | (simp only [mk_len, List.length_map]; omega) | decide) (c14 : In3 x2 := by first | omega | assumption | (simp only [mk_len, List.length_map]; omega) | decide) (c22 : In3 (gi a10 x2) := by first | omega | assumption | (simp only [mk_len, List.length_map]; omega) | decide) (c23 : 0 ≤ gi a10 x2 := by first | omega | assumption | (simp only [mk_len, List.length_map]; omega) | decide) (c27 : x1 < a25.length := by first | omega | assumption | (simp only [mk_len, List.length_map]; omega) | decide) (c28 : 0 ≤ x1 := by first | omega | assumption | (simp only [mk_len, List.length_map]; omega) | decide) (c29 : In3 x1 := by first | omega | assumption | (simp only [mk_len, List.length_map]; omega) | decide) : wr P d sw_c132 sw_h132 (47, [r0, vi x1, vi x2, vi x3], [vi s1, s0], h, kc, ks) Q := by
  refine w_ld rfl rfl (Or.inr (Or.inr ⟨by decide, y1⟩)) ?_
  subst e_q2
  refine w_getf rfl g4 n6 ?_
  refine w_ld rfl rfl (Or.inr (Or.inr ⟨by decide, rfl⟩)) ?_
  refine w_getf rfl g4 n8 ?_
  refine w_ld rfl rfl (Or.inl ⟨by decide, rfl⟩) ?_
  subst e_q9
  refine w_iald rfl g11 (Or.inl rfl) c14 c13 c12 ?_
  subst e_q15
  refine w_aald rfl g17 u21 c22 c23 n20 ?_
  refine w_ld rfl rfl (Or.inl ⟨by decide, rfl⟩) ?_
  subst e_q24
  refine w_iald rfl g26 (Or.inl rfl) c29 c28 c27 ?_
  refine w_goto rfl ?_
  exact k

theorem k132_63 {P : s_P} {d : Nat} {Q : s_O → Prop} {h : s_H} {kc ks : Nat} {r0 : Term} {x1 x2 x3 : Int} {s0 : Term} {s1 : Int}  (k : wr P d sw_c132 sw_h132 (64, [r0, vi x1, vi x2, vi x3], [vi 0, vi s1, s0], h, kc, ks) Q)   : wr P d sw_c132 sw_h132 (63, [r0, vi x1, vi x2, vi x3], [vi s1, s0], h, kc, ks) Q := by
  refine w_c32 rfl (by decide) 0 (by decide) ?_
  exact k

theorem k132_64 {P : s_P} {d : Nat} {Q : s_O → Prop} {h : s_H} {kc ks : Nat} {r0 : Term} {x1 x2 x3 : Int} {s0 : Term} {s1 s2 : Int} {q1 : Nat} {a2 : List Int} (g3 : s_get h q1 = some (0, 0, a2.map vi)) (k : wr P d sw_c132 sw_h132 (2, [r0, vi x1, vi (x2 + 1), vi x3], [], (hp h q1 (0, 0, (a2.set (Int.toNat (s1)) s2).map vi)), kc, ks) Q) (e_q1 : s0 = .index q1 := by first | rfl | assumption) (c4 : s1 < a2.length := by first | omega | assumption | (simp only [mk_len, List.length_map]; omega) | decide) (c5 : 0 ≤ s1 := by first | omega | assumption | (simp only [mk_len, List.length_map]; omega) | decide) (c6 : In3 s1 := by first | omega | assumption | (simp only [mk_len, List.length_map]; omega) | decide) (c7 : 0 < q1 := by first | omega | assumption | (simp only [mk_len, List.length_map]; omega) | decide) : wr P d sw_c132 sw_h132 (64, [r0, vi x1, vi x2, vi x3], [vi s2, vi s1, s0], h, kc, ks) Q := by
  subst e_q1
  refine w_iast rfl g3 (Nat.ble_eq_true_of_le c7) c6 c5 c4 ?_
  refine w_iinc (ls' := [r0, vi x1, vi (x2 + 1), vi x3]) rfl rfl 1 (by decide) rfl ?_
  refine w_goto rfl ?_
  exact k

theorem k132_71 {P : s_P} {d : Nat} {Q : s_O → Prop} {h : s_H} {kc ks : Nat} {r0 : Term} {x1 x2 : Int} {t3 : Term}  (k : Q (.inl none, h, kc, ks))   : wr P d sw_c132 sw_h132 (71, [r0, vi x1, vi x2, t3], [], h, kc, ks) Q := by
  exact w_ret rfl k

/-! 134: FormulaWorks$Minors.adjointOf(LFormulaWorks$Thing;)LFormulaWorks$Thing; -/
theorem k134_0 {P : s_P} {d : Nat} {Q : s_O → Prop} {h : s_H} {kc ks : Nat} {r0 r1 t2 t3 t4 t5 t6 t7 : Term} {q2 : Nat} {f3 : List Term} {v5 : Term} {q7 : Nat} {f8 : List Term} (g4 : s_get h q2 = some (1, 2, f3)) (g9 : s_get h q7 = some (1, 0, f8)) (k : wm P d 110 [.index q7] h (wq P d sw_c134 sw_h134 7 [.index q2, r1, t2, t3, t4, t5, t6, t7] [] kc ks Q)) (e_q2 : r0 = .index q2 := by first | rfl | assumption) (e_q7 : v5 = .index q7 := by first | rfl | assumption) (y1 : s_ty r0 = 3 := by first | rfl | assumption) (n6 : s_nth f3 0 = some v5 := by first | rfl | assumption)  : wr P d sw_c134 sw_h134 (0, [r0, r1, t2, t3, t4, t5, t6, t7], [], h, kc, ks) Q := by
  refine w_ld rfl rfl (Or.inr (Or.inr ⟨by decide, y1⟩)) ?_
  subst e_q2
  refine w_getf rfl g4 n6 ?_
  subst e_q7
  exact w_cv rfl [.index q7] [] rfl rfl (s_wt_4 rfl) rfl g9 k

theorem k134_7 {P : s_P} {d : Nat} {Q : s_O → Prop} {h : s_H} {kc ks : Nat} {r0 r1 t2 t3 t4 t5 t6 t7 : Term} {s0 : Int} {q3 : Nat} {f4 : List Term} {v6 : Term} {q8 : Nat} {f9 : List Term} (g5 : s_get h q3 = some (1, 2, f4)) (g10 : s_get h q8 = some (1, 0, f9)) (k : wm P d 109 [.index q8] h (wq P d sw_c134 sw_h134 15 [.index q3, r1, vi s0, t3, t4, t5, t6, t7] [] kc ks Q)) (e_q3 : r0 = .index q3 := by first | rfl | assumption) (e_q8 : v6 = .index q8 := by first | rfl | assumption) (y1 : s_ty r1 = 3 := by first | rfl | assumption) (y2 : s_ty r0 = 3 := by first | rfl | assumption) (n7 : s_nth f4 0 = some v6 := by first | rfl | assumption)  : wr P d sw_c134 sw_h134 (7, [r0, r1, t2, t3, t4, t5, t6, t7], [vi s0], h, kc, ks) Q := by
  refine w_st (ls' := [r0, r1, vi s0, t3, t4, t5, t6, t7]) rfl (Or.inl ⟨by decide, rfl⟩) (s_stK_r (pre := [r0]) y1) ?_
  refine w_ld rfl rfl (Or.inr (Or.inr ⟨by decide, y2⟩)) ?_
  subst e_q3
  refine w_getf rfl g5 n7 ?_
  subst e_q8
  exact w_cv rfl [.index q8] [] rfl rfl (s_wt_4 rfl) rfl g10 k

theorem k134_15 {P : s_P} {d : Nat} {Q : s_O → Prop} {h : s_H} {kc ks : Nat} {r0 r1 : Term} {x2 : Int} {t3 t4 t5 t6 t7 s0 : Term} {q3 : Nat} {f4 : List Term} {z6 z9 : Int} {q11 : Nat} {f12 : List Term} (g5 : s_get h q3 = some (1, 8, f4)) (g13 : s_get h q11 = some (1, 2, f12)) (k : wm P d 137 [.index q11, vi z6, vi z9] h (wq P d sw_c134 sw_h134 38 [.index q11, .index q3, vi x2, s0, vi ((zi 27 1 z6) - 1), t5, t6, t7] [] kc ks Q)) (e_q3 : r1 = .index q3 := by first | rfl | assumption) (e_q11 : r0 = .index q11 := by first | rfl | assumption) (y1 : s_ty s0 = 3 := by first | rfl | assumption) (y2 : s_ty r1 = 3 := by first | rfl | assumption) (n7 : s_nth f4 3 = some (vi z6) := by first | rfl | assumption) (y8 : s_ty r0 = 3 := by first | rfl | assumption) (n10 : s_nth f4 4 = some (vi z9) := by first | rfl | assumption)  : wr P d sw_c134 sw_h134 (15, [r0, r1, vi x2, t3, t4, t5, t6, t7], [s0], h, kc, ks) Q := by
  refine w_st (ls' := [r0, r1, vi x2, s0, t4, t5, t6, t7]) rfl (Or.inr ⟨by decide, y1⟩) rfl ?_
  refine w_c32 rfl (by decide) 1 (by decide) ?_
  refine w_ld rfl rfl (Or.inr (Or.inr ⟨by decide, y2⟩)) ?_
  subst e_q3
  refine w_getf rfl g5 n7 ?_
  refine w_ib rfl (by decide) ?_
  refine w_c32 rfl (by decide) 1 (by decide) ?_
  refine w_isub rfl ?_
  refine w_st (ls' := [r0, .index q3, vi x2, s0, vi ((zi 27 1 z6) - 1), t5, t6, t7]) rfl (Or.inl ⟨by decide, rfl⟩) (s_stK_r (pre := [r0, .index q3, vi x2]) y1) ?_
  refine w_ld rfl rfl (Or.inr (Or.inr ⟨by decide, y8⟩)) ?_
  refine w_ld rfl rfl (Or.inr (Or.inr ⟨by decide, rfl⟩)) ?_
  refine w_getf rfl g5 n7 ?_
  refine w_ld rfl rfl (Or.inr (Or.inr ⟨by decide, rfl⟩)) ?_
  refine w_getf rfl g5 n10 ?_
  subst e_q11
  exact w_cv rfl [.index q11, vi z6, vi z9] [] rfl rfl (s_wt_4 rfl) rfl g13 k

theorem k134_38 {P : s_P} {d : Nat} {Q : s_O → Prop} {h : s_H} {kc ks : Nat} {r0 r1 : Term} {x2 : Int} {r3 : Term} {x4 : Int} {t5 t6 t7 s0 : Term}  (k : wr P d sw_c134 sw_h134 (43, [r0, r1, vi x2, r3, vi x4, s0, vi 0, t7], [], h, kc, ks) Q) (y1 : s_ty s0 = 3 := by first | rfl | assumption)  : wr P d sw_c134 sw_h134 (38, [r0, r1, vi x2, r3, vi x4, t5, t6, t7], [s0], h, kc, ks) Q := by
  refine w_st (ls' := [r0, r1, vi x2, r3, vi x4, s0, t6, t7]) rfl (Or.inr ⟨by decide, y1⟩) rfl ?_
  refine w_c32 rfl (by decide) 0 (by decide) ?_
  refine w_st (ls' := [r0, r1, vi x2, r3, vi x4, s0, vi 0, t7]) rfl (Or.inl ⟨by decide, rfl⟩) (s_stK_r (pre := [r0, r1, vi x2, r3, vi x4]) y1) ?_
  exact k

theorem k134_43 {P : s_P} {d : Nat} {Q : s_O → Prop} {h : s_H} {kc ks : Nat} {r0 r1 : Term} {x2 : Int} {r3 : Term} {x4 : Int} {r5 : Term} {x6 : Int} {t7 : Term} {q2 : Nat} {f3 : List Term} {z5 : Int} (g4 : s_get h q2 = some (1, 8, f3)) (k1 : z5 ≤ x6 → wr P d sw_c134 sw_h134 (134, [r0, .index q2, vi x2, r3, vi x4, r5, vi x6, t7], [], h, kc, ks) Q) (k2 : ¬ z5 ≤ x6 → wr P d sw_c134 sw_h134 (52, [r0, .index q2, vi x2, r3, vi x4, r5, vi x6, t7], [], h, kc, ks) Q) (e_q2 : r1 = .index q2 := by first | rfl | assumption) (y1 : s_ty r1 = 3 := by first | rfl | assumption) (n6 : s_nth f3 4 = some (vi z5) := by first | rfl | assumption) (c7 : In3 x6 := by first | omega | assumption | (simp only [mk_len, List.length_map]; omega) | decide) (c8 : In3 z5 := by first | omega | assumption | (simp only [mk_len, List.length_map]; omega) | decide) : wr P d sw_c134 sw_h134 (43, [r0, r1, vi x2, r3, vi x4, r5, vi x6, t7], [], h, kc, ks) Q := by
  refine w_ld rfl rfl (Or.inl ⟨by decide, rfl⟩) ?_
  refine w_ld rfl rfl (Or.inr (Or.inr ⟨by decide, y1⟩)) ?_
  subst e_q2
  refine w_getf rfl g4 n6 ?_
  exact w_if2 rfl c7 c8 k1 k2

theorem k134_52 {P : s_P} {d : Nat} {Q : s_O → Prop} {h : s_H} {kc ks : Nat} {r0 r1 : Term} {x2 : Int} {r3 : Term} {x4 : Int} {r5 : Term} {x6 : Int} {t7 : Term} {q3 : Nat} {f4 : List Term} (g5 : s_get h q3 = some (1, 2, f4)) (k : wm P d 139 [.index q3, r1, vi (zi 26 x4 (zi 27 1 x6))] h (wq P d sw_c134 sw_h134 64 [.index q3, r1, vi x2, r3, vi x4, r5, vi x6, t7] [] kc ks Q)) (e_q3 : r0 = .index q3 := by first | rfl | assumption) (y1 : s_ty r0 = 3 := by first | rfl | assumption) (y2 : s_ty r1 = 3 := by first | rfl | assumption)  : wr P d sw_c134 sw_h134 (52, [r0, r1, vi x2, r3, vi x4, r5, vi x6, t7], [], h, kc, ks) Q := by
  refine w_ld rfl rfl (Or.inr (Or.inr ⟨by decide, y1⟩)) ?_
  refine w_ld rfl rfl (Or.inr (Or.inr ⟨by decide, y2⟩)) ?_
  refine w_ld rfl rfl (Or.inl ⟨by decide, rfl⟩) ?_
  refine w_c32 rfl (by decide) 1 (by decide) ?_
  refine w_ld rfl rfl (Or.inl ⟨by decide, rfl⟩) ?_
  refine w_ib rfl (by decide) ?_
  refine w_ib rfl (by decide) ?_
  subst e_q3
  exact w_cv rfl [.index q3, r1, vi (zi 26 x4 (zi 27 1 x6))] [] rfl rfl (s_wt_4 rfl) rfl g5 k

theorem k134_64 {P : s_P} {d : Nat} {Q : s_O → Prop} {h : s_H} {kc ks : Nat} {r0 r1 : Term} {x2 : Int} {r3 : Term} {x4 : Int} {r5 : Term} {x6 : Int} {t7 : Term}  (k : wr P d sw_c134 sw_h134 (67, [r0, r1, vi x2, r3, vi x4, r5, vi x6, vi 0], [], h, kc, ks) Q)   : wr P d sw_c134 sw_h134 (64, [r0, r1, vi x2, r3, vi x4, r5, vi x6, t7], [], h, kc, ks) Q := by
  refine w_c32 rfl (by decide) 0 (by decide) ?_
  refine w_st (ls' := [r0, r1, vi x2, r3, vi x4, r5, vi x6, vi 0]) rfl (Or.inl ⟨by decide, rfl⟩) rfl ?_
  exact k

theorem k134_67 {P : s_P} {d : Nat} {Q : s_O → Prop} {h : s_H} {kc ks : Nat} {r0 r1 : Term} {x2 : Int} {r3 : Term} {x4 : Int} {r5 : Term} {x6 x7 : Int} {q2 : Nat} {f3 : List Term} {z5 : Int} (g4 : s_get h q2 = some (1, 8, f3)) (k1 : z5 ≤ x7 → wr P d sw_c134 sw_h134 (128, [r0, .index q2, vi x2, r3, vi x4, r5, vi x6, vi x7], [], h, kc, ks) Q) (k2 : ¬ z5 ≤ x7 → wr P d sw_c134 sw_h134 (76, [r0, .index q2, vi x2, r3, vi x4, r5, vi x6, vi x7], [], h, kc, ks) Q) (e_q2 : r1 = .index q2 := by first | rfl | assumption) (y1 : s_ty r1 = 3 := by first | rfl | assumption) (n6 : s_nth f3 3 = some (vi z5) := by first | rfl | assumption) (c7 : In3 x7 := by first | omega | assumption | (simp only [mk_len, List.length_map]; omega) | decide) (c8 : In3 z5 := by first | omega | assumption | (simp only [mk_len, List.length_map]; omega) | decide) : wr P d sw_c134 sw_h134 (67, [r0, r1, vi x2, r3, vi x4, r5, vi x6, vi x7], [], h, kc, ks) Q := by
  refine w_ld rfl rfl (Or.inl ⟨by decide, rfl⟩) ?_
  refine w_ld rfl rfl (Or.inr (Or.inr ⟨by decide, y1⟩)) ?_
  subst e_q2
  refine w_getf rfl g4 n6 ?_
  exact w_if2 rfl c7 c8 k1 k2

theorem k134_76 {P : s_P} {d : Nat} {Q : s_O → Prop} {h : s_H} {kc ks : Nat} {r0 r1 : Term} {x2 : Int} {r3 : Term} {x4 : Int} {r5 : Term} {x6 x7 : Int} {q3 : Nat} {f4 : List Term} (g5 : s_get h q3 = some (1, 2, f4)) (k : wm P d 141 [.index q3, vi (zi 26 x4 (zi 27 1 x7))] h (wq P d sw_c134 sw_h134 88 [.index q3, r1, vi x2, r3, vi x4, r5, vi x6, vi x7] [r3] kc ks Q)) (e_q3 : r0 = .index q3 := by first | rfl | assumption) (y1 : s_ty r3 = 3 := by first | rfl | assumption) (y2 : s_ty r0 = 3 := by first | rfl | assumption)  : wr P d sw_c134 sw_h134 (76, [r0, r1, vi x2, r3, vi x4, r5, vi x6, vi x7], [], h, kc, ks) Q := by
  refine w_ld rfl rfl (Or.inr (Or.inr ⟨by decide, y1⟩)) ?_
  refine w_ld rfl rfl (Or.inr (Or.inr ⟨by decide, y2⟩)) ?_
  refine w_ld rfl rfl (Or.inl ⟨by decide, rfl⟩) ?_
  refine w_c32 rfl (by decide) 1 (by decide) ?_
  refine w_ld rfl rfl (Or.inl ⟨by decide, rfl⟩) ?_
  refine w_ib rfl (by decide) ?_
  refine w_ib rfl (by decide) ?_
  subst e_q3
  exact w_cv rfl [.index q3, vi (zi 26 x4 (zi 27 1 x7))] [r3] rfl rfl (s_wt_4 rfl) rfl g5 k

theorem k134_88 {P : s_P} {d : Nat} {Q : s_O → Prop} {h : s_H} {kc ks : Nat} {r0 r1 : Term} {x2 : Int} {r3 : Term} {x4 : Int} {r5 : Term} {x6 x7 : Int} {s0 s1 : Term} {q1 : Nat} {f2 : List Term} (g3 : s_get h q1 = some (1, 4, f2)) (k : wm P d 179 [.index q1, s1] h (wq P d sw_c134 sw_h134 91 [r0, r1, vi x2, r3, vi x4, r5, vi x6, vi x7] [] kc ks Q)) (e_q1 : s0 = .index q1 := by first | rfl | assumption)  : wr P d sw_c134 sw_h134 (88, [r0, r1, vi x2, r3, vi x4, r5, vi x6, vi x7], [s1, s0], h, kc, ks) Q := by
  subst e_q1
  exact w_cv rfl [.index q1, s1] [] rfl rfl (s_wt_4 rfl) rfl g3 k

theorem k134_91 {P : s_P} {d : Nat} {Q : s_O → Prop} {h : s_H} {kc ks : Nat} {r0 r1 : Term} {x2 : Int} {r3 : Term} {x4 : Int} {r5 : Term} {x6 x7 : Int}  (k1 : zi 24 (x7 + x6) 1 ≠ 1 → wr P d sw_c134 sw_h134 (109, [r0, r1, vi x2, r3, vi x4, r5, vi x6, vi x7], [], h, kc, ks) Q) (k2 : ¬ zi 24 (x7 + x6) 1 ≠ 1 → wr P d sw_c134 sw_h134 (102, [r0, r1, vi x2, r3, vi x4, r5, vi x6, vi x7], [], h, kc, ks) Q)  (c1 : In3 (zi 24 (x7 + x6) 1) := by first | omega | assumption | (simp only [mk_len, List.length_map]; omega) | decide) : wr P d sw_c134 sw_h134 (91, [r0, r1, vi x2, r3, vi x4, r5, vi x6, vi x7], [], h, kc, ks) Q := by
  refine w_ld rfl rfl (Or.inl ⟨by decide, rfl⟩) ?_
  refine w_ld rfl rfl (Or.inl ⟨by decide, rfl⟩) ?_
  refine w_iadd rfl ?_
  refine w_c32 rfl (by decide) 1 (by decide) ?_
  refine w_ib rfl (by decide) ?_
  refine w_c32 rfl (by decide) 1 (by decide) ?_
  exact w_if2 rfl c1 (by decide) k1 k2

theorem k134_102 {P : s_P} {d : Nat} {Q : s_O → Prop} {h : s_H} {kc ks : Nat} {r0 r1 : Term} {x2 : Int} {r3 : Term} {x4 : Int} {r5 : Term} {x6 x7 : Int} {q2 : Nat} {f3 : List Term} (g4 : s_get h q2 = some (1, 4, f3)) (k : wm P d 178 [.index q2, vi 32002] h (wq P d sw_c134 sw_h134 109 [r0, r1, vi x2, .index q2, vi x4, r5, vi x6, vi x7] [] kc ks Q)) (e_q2 : r3 = .index q2 := by first | rfl | assumption) (y1 : s_ty r3 = 3 := by first | rfl | assumption)  : wr P d sw_c134 sw_h134 (102, [r0, r1, vi x2, r3, vi x4, r5, vi x6, vi x7], [], h, kc, ks) Q := by
  refine w_ld rfl rfl (Or.inr (Or.inr ⟨by decide, y1⟩)) ?_
  refine w_c32 rfl (by decide) 32002 (by decide) ?_
  subst e_q2
  exact w_cv rfl [.index q2, vi 32002] [] rfl rfl (s_wt_4 rfl) rfl g4 k

theorem k134_109 {P : s_P} {d : Nat} {Q : s_O → Prop} {h : s_H} {kc ks : Nat} {r0 r1 : Term} {x2 : Int} {r3 : Term} {x4 : Int} {r5 : Term} {x6 x7 : Int} {q3 : Nat} {f4 : List Term} (g5 : s_get h q3 = some (1, 4, f4)) (k : wm P d 170 [.index q3] h (wq P d sw_c134 sw_h134 119 [r0, r1, vi x2, .index q3, vi x4, r5, vi x6, vi x7] [vi x6, vi x7, r5] kc ks Q)) (e_q3 : r3 = .index q3 := by first | rfl | assumption) (y1 : s_ty r5 = 3 := by first | rfl | assumption) (y2 : s_ty r3 = 3 := by first | rfl | assumption)  : wr P d sw_c134 sw_h134 (109, [r0, r1, vi x2, r3, vi x4, r5, vi x6, vi x7], [], h, kc, ks) Q := by
  refine w_ld rfl rfl (Or.inr (Or.inr ⟨by decide, y1⟩)) ?_
  refine w_ld rfl rfl (Or.inl ⟨by decide, rfl⟩) ?_
  refine w_ld rfl rfl (Or.inl ⟨by decide, rfl⟩) ?_
  refine w_ld rfl rfl (Or.inr (Or.inr ⟨by decide, y2⟩)) ?_
  subst e_q3
  exact w_cv rfl [.index q3] [vi x6, vi x7, r5] rfl rfl (s_wt_4 rfl) rfl g5 k

theorem k134_119 {P : s_P} {d : Nat} {Q : s_O → Prop} {h : s_H} {kc ks : Nat} {r0 r1 : Term} {x2 : Int} {r3 : Term} {x4 : Int} {r5 : Term} {x6 x7 : Int} {s0 : Term} {s1 s2 : Int} {s3 : Term} {q1 : Nat} {f2 : List Term} (g3 : s_get h q1 = some (1, 8, f2)) (k : wm P d 271 [.index q1, vi s1, vi s2, s3] h (wq P d sw_c134 sw_h134 122 [r0, r1, vi x2, r3, vi x4, r5, vi x6, vi x7] [] kc ks Q)) (e_q1 : s0 = .index q1 := by first | rfl | assumption)  : wr P d sw_c134 sw_h134 (119, [r0, r1, vi x2, r3, vi x4, r5, vi x6, vi x7], [s3, vi s2, vi s1, s0], h, kc, ks) Q := by
  subst e_q1
  exact w_cv rfl [.index q1, vi s1, vi s2, s3] [] rfl rfl (s_wt_4 rfl) rfl g3 k

theorem k134_122 {P : s_P} {d : Nat} {Q : s_O → Prop} {h : s_H} {kc ks : Nat} {r0 r1 : Term} {x2 : Int} {r3 : Term} {x4 : Int} {r5 : Term} {x6 x7 : Int}  (k : wr P d sw_c134 sw_h134 (67, [r0, r1, vi x2, r3, vi x4, r5, vi x6, vi (x7 + 1)], [], h, kc, ks) Q)   : wr P d sw_c134 sw_h134 (122, [r0, r1, vi x2, r3, vi x4, r5, vi x6, vi x7], [], h, kc, ks) Q := by
  refine w_iinc (ls' := [r0, r1, vi x2, r3, vi x4, r5, vi x6, vi (x7 + 1)]) rfl rfl 1 (by decide) rfl ?_
  refine w_goto rfl ?_
  exact k

theorem k134_128 {P : s_P} {d : Nat} {Q : s_O → Prop} {h : s_H} {kc ks : Nat} {r0 r1 : Term} {x2 : Int} {r3 : Term} {x4 : Int} {r5 : Term} {x6 x7 : Int}  (k : wr P d sw_c134 sw_h134 (43, [r0, r1, vi x2, r3, vi x4, r5, vi (x6 + 1), vi x7], [], h, kc, ks) Q) (y1 : s_ty r5 = 3 := by first | rfl | assumption)  : wr P d sw_c134 sw_h134 (128, [r0, r1, vi x2, r3, vi x4, r5, vi x6, vi x7], [], h, kc, ks) Q := by
  refine w_iinc (ls' := [r0, r1, vi x2, r3, vi x4, r5, vi (x6 + 1), vi x7]) rfl rfl 1 (by decide) (s_stK_r (pre := [r0, r1, vi x2, r3, vi x4]) y1) ?_
  refine w_goto rfl ?_
  exact k

theorem k134_134 {P : s_P} {d : Nat} {Q : s_O → Prop} {h : s_H} {kc ks : Nat} {r0 r1 : Term} {x2 : Int} {r3 : Term} {x4 : Int} {r5 : Term} {x6 : Int} {t7 : Term} {q2 : Nat} {f3 : List Term} {v5 : Term} {q7 : Nat} {f8 : List Term} (g4 : s_get h q2 = some (1, 2, f3)) (g9 : s_get h q7 = some (1, 0, f8)) (k : wm P d 113 [.index q7, vi x2] h (wq P d sw_c134 sw_h134 142 [.index q2, r1, vi x2, r3, vi x4, r5, vi x6, t7] [] kc ks Q)) (e_q2 : r0 = .index q2 := by first | rfl | assumption) (e_q7 : v5 = .index q7 := by first | rfl | assumption) (y1 : s_ty r0 = 3 := by first | rfl | assumption) (n6 : s_nth f3 0 = some v5 := by first | rfl | assumption)  : wr P d sw_c134 sw_h134 (134, [r0, r1, vi x2, r3, vi x4, r5, vi x6, t7], [], h, kc, ks) Q := by
  refine w_ld rfl rfl (Or.inr (Or.inr ⟨by decide, y1⟩)) ?_
  subst e_q2
  refine w_getf rfl g4 n6 ?_
  refine w_ld rfl rfl (Or.inl ⟨by decide, rfl⟩) ?_
  subst e_q7
  exact w_cv rfl [.index q7, vi x2] [] rfl rfl (s_wt_4 rfl) rfl g9 k

theorem k134_142 {P : s_P} {d : Nat} {Q : s_O → Prop} {h : s_H} {kc ks : Nat} {r0 r1 : Term} {x2 : Int} {r3 : Term} {x4 : Int} {r5 : Term} {x6 : Int} {t7 : Term}  (k : Q (.inl (some r5), h, kc, ks)) (y1 : s_ty r5 = 3 := by first | rfl | assumption)  : wr P d sw_c134 sw_h134 (142, [r0, r1, vi x2, r3, vi x4, r5, vi x6, t7], [], h, kc, ks) Q := by
  refine w_ld rfl rfl (Or.inr (Or.inr ⟨by decide, y1⟩)) ?_
  exact w_aret rfl y1 k

/-! 135: FormulaWorks$Minors.bestRows(LFormulaWorks$Thing;I)I -/
theorem k135_0 {P : s_P} {d : Nat} {Q : s_O → Prop} {h : s_H} {kc ks : Nat} {r0 r1 : Term} {x2 : Int} {t3 t4 t5 t6 : Term}  (k : wr P d sw_c135 sw_h135 (5, [r0, r1, vi x2, vi 0, vi 0, t5, t6], [], h, kc, ks) Q)   : wr P d sw_c135 sw_h135 (0, [r0, r1, vi x2, t3, t4, t5, t6], [], h, kc, ks) Q := by
  refine w_c32 rfl (by decide) 0 (by decide) ?_
  refine w_st (ls' := [r0, r1, vi x2, vi 0, t4, t5, t6]) rfl (Or.inl ⟨by decide, rfl⟩) rfl ?_
  refine w_c32 rfl (by decide) 0 (by decide) ?_
  refine w_st (ls' := [r0, r1, vi x2, vi 0, vi 0, t5, t6]) rfl (Or.inl ⟨by decide, rfl⟩) rfl ?_
  exact k

theorem k135_5 {P : s_P} {d : Nat} {Q : s_O → Prop} {h : s_H} {kc ks : Nat} {r0 r1 : Term} {x2 x3 x4 : Int} {t5 t6 : Term} {q2 : Nat} {f3 : List Term} {z5 : Int} (g4 : s_get h q2 = some (1, 8, f3)) (k1 : zi 27 1 z5 ≤ x4 → wr P d sw_c135 sw_h135 (103, [r0, .index q2, vi x2, vi x3, vi x4, t5, t6], [], h, kc, ks) Q) (k2 : ¬ zi 27 1 z5 ≤ x4 → wr P d sw_c135 sw_h135 (16, [r0, .index q2, vi x2, vi x3, vi x4, t5, t6], [], h, kc, ks) Q) (e_q2 : r1 = .index q2 := by first | rfl | assumption) (y1 : s_ty r1 = 3 := by first | rfl | assumption) (n6 : s_nth f3 3 = some (vi z5) := by first | rfl | assumption) (c7 : In3 x4 := by first | omega | assumption | (simp only [mk_len, List.length_map]; omega) | decide) (c8 : In3 (zi 27 1 z5) := by first | omega | assumption | (simp only [mk_len, List.length_map]; omega) | decide) : wr P d sw_c135 sw_h135 (5, [r0, r1, vi x2, vi x3, vi x4, t5, t6], [], h, kc, ks) Q := by
  refine w_ld rfl rfl (Or.inl ⟨by decide, rfl⟩) ?_
  refine w_c32 rfl (by decide) 1 (by decide) ?_
  refine w_ld rfl rfl (Or.inr (Or.inr ⟨by decide, y1⟩)) ?_
  subst e_q2
  refine w_getf rfl g4 n6 ?_
  refine w_ib rfl (by decide) ?_
  exact w_if2 rfl c7 c8 k1 k2

theorem k135_16 {P : s_P} {d : Nat} {Q : s_O → Prop} {h : s_H} {kc ks : Nat} {r0 r1 : Term} {x2 x3 x4 : Int} {t5 t6 : Term} {q2 : Nat} {f3 : List Term} {v5 : Term} {q7 : Nat} {a8 : List Term} {tg10 : Nat} (g4 : s_get h q2 = some (1, 2, f3)) (g9 : s_get h q7 = some (0, tg10, a8)) (k1 : (a8.length : Int) ≤ x4 → wr P d sw_c135 sw_h135 (103, [.index q2, r1, vi x2, vi x3, vi x4, t5, t6], [], h, kc, ks) Q) (k2 : ¬ (a8.length : Int) ≤ x4 → wr P d sw_c135 sw_h135 (26, [.index q2, r1, vi x2, vi x3, vi x4, t5, t6], [], h, kc, ks) Q) (e_q2 : r0 = .index q2 := by first | rfl | assumption) (e_q7 : v5 = .index q7 := by first | rfl | assumption) (y1 : s_ty r0 = 3 := by first | rfl | assumption) (n6 : s_nth f3 2 = some v5 := by first | rfl | assumption) (c11 : In3 x4 := by first | omega | assumption | (simp only [mk_len, List.length_map]; omega) | decide) (c12 : In3 (a8.length : Int) := by first | omega | assumption | (simp only [mk_len, List.length_map]; omega) | decide) : wr P d sw_c135 sw_h135 (16, [r0, r1, vi x2, vi x3, vi x4, t5, t6], [], h, kc, ks) Q := by
  refine w_ld rfl rfl (Or.inl ⟨by decide, rfl⟩) ?_
  refine w_ld rfl rfl (Or.inr (Or.inr ⟨by decide, y1⟩)) ?_
  subst e_q2
  refine w_getf rfl g4 n6 ?_
  subst e_q7
  refine w_alen rfl g9 (Or.inl rfl) ?_
  exact w_if2 rfl c11 c12 k1 k2

theorem k135_26 {P : s_P} {d : Nat} {Q : s_O → Prop} {h : s_H} {kc ks : Nat} {r0 r1 : Term} {x2 x3 x4 : Int} {t5 t6 : Term}  (k : wm P d 622 [vi x4] h (wq P d sw_c135 sw_h135 31 [r0, r1, vi x2, vi x3, vi x4, t5, t6] [] kc ks Q))   : wr P d sw_c135 sw_h135 (26, [r0, r1, vi x2, vi x3, vi x4, t5, t6], [], h, kc, ks) Q := by
  refine w_ld rfl rfl (Or.inl ⟨by decide, rfl⟩) ?_
  exact w_cs rfl [vi x4] [] rfl rfl (s_wt_4 rfl) k

theorem k135_31 {P : s_P} {d : Nat} {Q : s_O → Prop} {h : s_H} {kc ks : Nat} {r0 r1 : Term} {x2 x3 x4 : Int} {t5 t6 : Term} {s0 : Int}  (k : wm P d 622 [vi x3] h (wq P d sw_c135 sw_h135 35 [r0, r1, vi x2, vi x3, vi x4, t5, t6] [vi s0] kc ks Q))   : wr P d sw_c135 sw_h135 (31, [r0, r1, vi x2, vi x3, vi x4, t5, t6], [vi s0], h, kc, ks) Q := by
  refine w_ld rfl rfl (Or.inl ⟨by decide, rfl⟩) ?_
  exact w_cs rfl [vi x3] [vi s0] rfl rfl (s_wt_4 rfl) k

theorem k135_35 {P : s_P} {d : Nat} {Q : s_O → Prop} {h : s_H} {kc ks : Nat} {r0 r1 : Term} {x2 x3 x4 : Int} {t5 t6 : Term} {s0 s1 : Int}  (k1 : s0 ≤ s1 → wr P d sw_c135 sw_h135 (42, [r0, r1, vi x2, vi x3, vi x4, t5, t6], [], h, kc, ks) Q) (k2 : ¬ s0 ≤ s1 → wr P d sw_c135 sw_h135 (38, [r0, r1, vi x2, vi x3, vi x4, t5, t6], [], h, kc, ks) Q)  (c1 : In3 s0 := by first | omega | assumption | (simp only [mk_len, List.length_map]; omega) | decide) (c2 : In3 s1 := by first | omega | assumption | (simp only [mk_len, List.length_map]; omega) | decide) : wr P d sw_c135 sw_h135 (35, [r0, r1, vi x2, vi x3, vi x4, t5, t6], [vi s1, vi s0], h, kc, ks) Q := by
  exact w_if2 rfl c1 c2 k1 k2

theorem k135_38 {P : s_P} {d : Nat} {Q : s_O → Prop} {h : s_H} {kc ks : Nat} {r0 r1 : Term} {x2 x3 x4 : Int} {t5 t6 : Term}  (k : wr P d sw_c135 sw_h135 (43, [r0, r1, vi x2, vi x3, vi x4, t5, t6], [vi 1], h, kc, ks) Q)   : wr P d sw_c135 sw_h135 (38, [r0, r1, vi x2, vi x3, vi x4, t5, t6], [], h, kc, ks) Q := by
  refine w_c32 rfl (by decide) 1 (by decide) ?_
  refine w_goto rfl ?_
  exact k

theorem k135_42 {P : s_P} {d : Nat} {Q : s_O → Prop} {h : s_H} {kc ks : Nat} {r0 r1 : Term} {x2 x3 x4 : Int} {t5 t6 : Term}  (k : wr P d sw_c135 sw_h135 (43, [r0, r1, vi x2, vi x3, vi x4, t5, t6], [vi 0], h, kc, ks) Q)   : wr P d sw_c135 sw_h135 (42, [r0, r1, vi x2, vi x3, vi x4, t5, t6], [], h, kc, ks) Q := by
  refine w_c32 rfl (by decide) 0 (by decide) ?_
  exact k

theorem k135_43 {P : s_P} {d : Nat} {Q : s_O → Prop} {h : s_H} {kc ks : Nat} {r0 r1 : Term} {x2 x3 x4 : Int} {t5 t6 : Term} {s0 : Int}  (k : wr P d sw_c135 sw_h135 (48, [r0, r1, vi x2, vi x3, vi x4, vi s0, vi 0], [], h, kc, ks) Q)   : wr P d sw_c135 sw_h135 (43, [r0, r1, vi x2, vi x3, vi x4, t5, t6], [vi s0], h, kc, ks) Q := by
  refine w_st (ls' := [r0, r1, vi x2, vi x3, vi x4, vi s0, t6]) rfl (Or.inl ⟨by decide, rfl⟩) rfl ?_
  refine w_c32 rfl (by decide) 0 (by decide) ?_
  refine w_st (ls' := [r0, r1, vi x2, vi x3, vi x4, vi s0, vi 0]) rfl (Or.inl ⟨by decide, rfl⟩) rfl ?_
  exact k

theorem k135_48 {P : s_P} {d : Nat} {Q : s_O → Prop} {h : s_H} {kc ks : Nat} {r0 r1 : Term} {x2 x3 x4 x5 x6 : Int}  (k1 : 16 ≤ x6 → wr P d sw_c135 sw_h135 (97, [r0, r1, vi x2, vi x3, vi x4, vi x5, vi x6], [], h, kc, ks) Q) (k2 : ¬ 16 ≤ x6 → wr P d sw_c135 sw_h135 (55, [r0, r1, vi x2, vi x3, vi x4, vi x5, vi x6], [], h, kc, ks) Q)  (c1 : In3 x6 := by first | omega | assumption | (simp only [mk_len, List.length_map]; omega) | decide) : wr P d sw_c135 sw_h135 (48, [r0, r1, vi x2, vi x3, vi x4, vi x5, vi x6], [], h, kc, ks) Q := by
  refine w_ld rfl rfl (Or.inl ⟨by decide, rfl⟩) ?_
  refine w_c32 rfl (by decide) 16 (by decide) ?_
  exact w_if2 rfl c1 (by decide) k1 k2

theorem k135_55 {P : s_P} {d : Nat} {Q : s_O → Prop} {h : s_H} {kc ks : Nat} {r0 r1 : Term} {x2 x3 x4 x5 x6 : Int}  (k1 : x5 = 0 → wr P d sw_c135 sw_h135 (97, [r0, r1, vi x2, vi x3, vi x4, vi x5, vi x6], [], h, kc, ks) Q) (k2 : ¬ x5 = 0 → wr P d sw_c135 sw_h135 (60, [r0, r1, vi x2, vi x3, vi x4, vi x5, vi x6], [], h, kc, ks) Q)  (c1 : In3 x5 := by first | omega | assumption | (simp only [mk_len, List.length_map]; omega) | decide) : wr P d sw_c135 sw_h135 (55, [r0, r1, vi x2, vi x3, vi x4, vi x5, vi x6], [], h, kc, ks) Q := by
  refine w_ld rfl rfl (Or.inl ⟨by decide, rfl⟩) ?_
  exact w_if1 rfl c1 k1 k2

theorem k135_60 {P : s_P} {d : Nat} {Q : s_O → Prop} {h : s_H} {kc ks : Nat} {r0 r1 : Term} {x2 x3 x4 x5 x6 : Int}  (k1 : zi 24 x6 (zi 26 x2 (-1)) ≠ 0 → wr P d sw_c135 sw_h135 (91, [r0, r1, vi x2, vi x3, vi x4, vi x5, vi x6], [], h, kc, ks) Q) (k2 : ¬ zi 24 x6 (zi 26 x2 (-1)) ≠ 0 → wr P d sw_c135 sw_h135 (69, [r0, r1, vi x2, vi x3, vi x4, vi x5, vi x6], [], h, kc, ks) Q)  (c1 : In3 (zi 24 x6 (zi 26 x2 (-1))) := by first | omega | assumption | (simp only [mk_len, List.length_map]; omega) | decide) : wr P d sw_c135 sw_h135 (60, [r0, r1, vi x2, vi x3, vi x4, vi x5, vi x6], [], h, kc, ks) Q := by
  refine w_ld rfl rfl (Or.inl ⟨by decide, rfl⟩) ?_
  refine w_ld rfl rfl (Or.inl ⟨by decide, rfl⟩) ?_
  refine w_c32 rfl (by decide) (-1) (by decide) ?_
  refine w_ib rfl (by decide) ?_
  refine w_ib rfl (by decide) ?_
  exact w_if1 rfl c1 k1 k2

theorem k135_69 {P : s_P} {d : Nat} {Q : s_O → Prop} {h : s_H} {kc ks : Nat} {r0 r1 : Term} {x2 x3 x4 x5 x6 : Int} {q2 : Nat} {f3 : List Term} {v5 : Term} {q7 : Nat} {a8 : List Int} (g4 : s_get h q2 = some (1, 2, f3)) (g9 : s_get h q7 = some (0, 0, a8.map vi)) (k1 : zi 24 (zi 28 (gi a8 x4) x6) 1 ≠ 1 → wr P d sw_c135 sw_h135 (91, [.index q2, r1, vi x2, vi x3, vi x4, vi x5, vi x6], [], h, kc, ks) Q) (k2 : ¬ zi 24 (zi 28 (gi a8 x4) x6) 1 ≠ 1 → wr P d sw_c135 sw_h135 (85, [.index q2, r1, vi x2, vi x3, vi x4, vi x5, vi x6], [], h, kc, ks) Q) (e_q2 : r0 = .index q2 := by first | rfl | assumption) (e_q7 : v5 = .index q7 := by first | rfl | assumption) (y1 : s_ty r0 = 3 := by first | rfl | assumption) (n6 : s_nth f3 2 = some v5 := by first | rfl | assumption) (c10 : x4 < a8.length := by first | omega | assumption | (simp only [mk_len, List.length_map]; omega) | decide) (c11 : 0 ≤ x4 := by first | omega | assumption | (simp only [mk_len, List.length_map]; omega) | decide) (c12 : In3 x4 := by first | omega | assumption | (simp only [mk_len, List.length_map]; omega) | decide) (c13 : In3 (zi 24 (zi 28 (gi a8 x4) x6) 1) := by first | omega | assumption | (simp only [mk_len, List.length_map]; omega) | decide) : wr P d sw_c135 sw_h135 (69, [r0, r1, vi x2, vi x3, vi x4, vi x5, vi x6], [], h, kc, ks) Q := by
  refine w_ld rfl rfl (Or.inr (Or.inr ⟨by decide, y1⟩)) ?_
  subst e_q2
  refine w_getf rfl g4 n6 ?_
  refine w_ld rfl rfl (Or.inl ⟨by decide, rfl⟩) ?_
  subst e_q7
  refine w_iald rfl g9 (Or.inl rfl) c12 c11 c10 ?_
  refine w_ld rfl rfl (Or.inl ⟨by decide, rfl⟩) ?_
  refine w_ib rfl (by decide) ?_
  refine w_c32 rfl (by decide) 1 (by decide) ?_
  refine w_ib rfl (by decide) ?_
  refine w_c32 rfl (by decide) 1 (by decide) ?_
  exact w_if2 rfl c13 (by decide) k1 k2

theorem k135_85 {P : s_P} {d : Nat} {Q : s_O → Prop} {h : s_H} {kc ks : Nat} {r0 r1 : Term} {x2 x3 x4 x5 x6 : Int}  (k : wr P d sw_c135 sw_h135 (91, [r0, r1, vi x2, vi x4, vi x4, vi 0, vi x6], [], h, kc, ks) Q)   : wr P d sw_c135 sw_h135 (85, [r0, r1, vi x2, vi x3, vi x4, vi x5, vi x6], [], h, kc, ks) Q := by
  refine w_ld rfl rfl (Or.inl ⟨by decide, rfl⟩) ?_
  refine w_st (ls' := [r0, r1, vi x2, vi x4, vi x4, vi x5, vi x6]) rfl (Or.inl ⟨by decide, rfl⟩) rfl ?_
  refine w_c32 rfl (by decide) 0 (by decide) ?_
  refine w_st (ls' := [r0, r1, vi x2, vi x4, vi x4, vi 0, vi x6]) rfl (Or.inl ⟨by decide, rfl⟩) rfl ?_
  exact k

theorem k135_91 {P : s_P} {d : Nat} {Q : s_O → Prop} {h : s_H} {kc ks : Nat} {r0 r1 : Term} {x2 x3 x4 x5 x6 : Int}  (k : wr P d sw_c135 sw_h135 (48, [r0, r1, vi x2, vi x3, vi x4, vi x5, vi (x6 + 1)], [], h, kc, ks) Q)   : wr P d sw_c135 sw_h135 (91, [r0, r1, vi x2, vi x3, vi x4, vi x5, vi x6], [], h, kc, ks) Q := by
  refine w_iinc (ls' := [r0, r1, vi x2, vi x3, vi x4, vi x5, vi (x6 + 1)]) rfl rfl 1 (by decide) rfl ?_
  refine w_goto rfl ?_
  exact k

theorem k135_97 {P : s_P} {d : Nat} {Q : s_O → Prop} {h : s_H} {kc ks : Nat} {r0 r1 : Term} {x2 x3 x4 x5 x6 : Int}  (k : wr P d sw_c135 sw_h135 (5, [r0, r1, vi x2, vi x3, vi (x4 + 1), vi x5, vi x6], [], h, kc, ks) Q)   : wr P d sw_c135 sw_h135 (97, [r0, r1, vi x2, vi x3, vi x4, vi x5, vi x6], [], h, kc, ks) Q := by
  refine w_iinc (ls' := [r0, r1, vi x2, vi x3, vi (x4 + 1), vi x5, vi x6]) rfl rfl 1 (by decide) rfl ?_
  refine w_goto rfl ?_
  exact k

theorem k135_103 {P : s_P} {d : Nat} {Q : s_O → Prop} {h : s_H} {kc ks : Nat} {r0 r1 : Term} {x2 x3 x4 : Int} {t5 t6 : Term}  (k : Q (.inl (some (vi x3)), h, kc, ks))   : wr P d sw_c135 sw_h135 (103, [r0, r1, vi x2, vi x3, vi x4, t5, t6], [], h, kc, ks) Q := by
  refine w_ld rfl rfl (Or.inl ⟨by decide, rfl⟩) ?_
  exact w_iret rfl k

/-! 136: FormulaWorks$Minors.companionOf(LFormulaWorks$Poly;)LFormulaWorks$Thing; -/
theorem k136_0 {P : s_P} {d : Nat} {Q : s_O → Prop} {h : s_H} {kc ks : Nat} {r0 r1 t2 t3 t4 t5 t6 t7 : Term} {q2 : Nat} {f3 : List Term} {v5 : Term} {q7 : Nat} {f8 : List Term} (g4 : s_get h q2 = some (1, 2, f3)) (g9 : s_get h q7 = some (1, 0, f8)) (k : wm P d 110 [.index q7] h (wq P d sw_c136 sw_h136 7 [.index q2, r1, t2, t3, t4, t5, t6, t7] [] kc ks Q)) (e_q2 : r0 = .index q2 := by first | rfl | assumption) (e_q7 : v5 = .index q7 := by first | rfl | assumption) (y1 : s_ty r0 = 3 := by first | rfl | assumption) (n6 : s_nth f3 0 = some v5 := by first | rfl | assumption)  : wr P d sw_c136 sw_h136 (0, [r0, r1, t2, t3, t4, t5, t6, t7], [], h, kc, ks) Q := by
  refine w_ld rfl rfl (Or.inr (Or.inr ⟨by decide, y1⟩)) ?_
  subst e_q2
  refine w_getf rfl g4 n6 ?_
  subst e_q7
  exact w_cv rfl [.index q7] [] rfl rfl (s_wt_4 rfl) rfl g9 k

theorem k136_7 {P : s_P} {d : Nat} {Q : s_O → Prop} {h : s_H} {kc ks : Nat} {r0 r1 t2 t3 t4 t5 t6 t7 : Term} {s0 : Int} {q3 : Nat} {f4 : List Term} {v6 : Term} {q8 : Nat} {f9 : List Term} (g5 : s_get h q3 = some (1, 2, f4)) (g10 : s_get h q8 = some (1, 0, f9)) (k : wm P d 109 [.index q8] h (wq P d sw_c136 sw_h136 15 [.index q3, r1, vi s0, t3, t4, t5, t6, t7] [] kc ks Q)) (e_q3 : r0 = .index q3 := by first | rfl | assumption) (e_q8 : v6 = .index q8 := by first | rfl | assumption) (y1 : s_ty r1 = 3 := by first | rfl | assumption) (y2 : s_ty r0 = 3 := by first | rfl | assumption) (n7 : s_nth f4 0 = some v6 := by first | rfl | assumption)  : wr P d sw_c136 sw_h136 (7, [r0, r1, t2, t3, t4, t5, t6, t7], [vi s0], h, kc, ks) Q := by
  refine w_st (ls' := [r0, r1, vi s0, t3, t4, t5, t6, t7]) rfl (Or.inl ⟨by decide, rfl⟩) (s_stK_r (pre := [r0]) y1) ?_
  refine w_ld rfl rfl (Or.inr (Or.inr ⟨by decide, y2⟩)) ?_
  subst e_q3
  refine w_getf rfl g5 n7 ?_
  subst e_q8
  exact w_cv rfl [.index q8] [] rfl rfl (s_wt_4 rfl) rfl g10 k

theorem k136_15 {P : s_P} {d : Nat} {Q : s_O → Prop} {h : s_H} {kc ks : Nat} {r0 r1 : Term} {x2 : Int} {t3 t4 t5 t6 t7 s0 : Term} {q3 : Nat} {f4 : List Term} {z6 : Int} {q9 : Nat} {f10 : List Term} (g5 : s_get h q3 = some (1, 4, f4)) (g11 : s_get h q9 = some (1, 2, f10)) (k : wm P d 137 [.index q9, vi z6, vi z6] h (wq P d sw_c136 sw_h136 30 [.index q9, .index q3, vi x2, s0, vi z6, t5, t6, t7] [] kc ks Q)) (e_q3 : r1 = .index q3 := by first | rfl | assumption) (e_q9 : r0 = .index q9 := by first | rfl | assumption) (y1 : s_ty s0 = 3 := by first | rfl | assumption) (y2 : s_ty r1 = 3 := by first | rfl | assumption) (n7 : s_nth f4 1 = some (vi z6) := by first | rfl | assumption) (y8 : s_ty r0 = 3 := by first | rfl | assumption)  : wr P d sw_c136 sw_h136 (15, [r0, r1, vi x2, t3, t4, t5, t6, t7], [s0], h, kc, ks) Q := by
  refine w_st (ls' := [r0, r1, vi x2, s0, t4, t5, t6, t7]) rfl (Or.inr ⟨by decide, y1⟩) rfl ?_
  refine w_ld rfl rfl (Or.inr (Or.inr ⟨by decide, y2⟩)) ?_
  subst e_q3
  refine w_getf rfl g5 n7 ?_
  refine w_st (ls' := [r0, .index q3, vi x2, s0, vi z6, t5, t6, t7]) rfl (Or.inl ⟨by decide, rfl⟩) (s_stK_r (pre := [r0, .index q3, vi x2]) y1) ?_
  refine w_ld rfl rfl (Or.inr (Or.inr ⟨by decide, y8⟩)) ?_
  refine w_ld rfl rfl (Or.inl ⟨by decide, rfl⟩) ?_
  refine w_ld rfl rfl (Or.inl ⟨by decide, rfl⟩) ?_
  subst e_q9
  exact w_cv rfl [.index q9, vi z6, vi z6] [] rfl rfl (s_wt_4 rfl) rfl g11 k

theorem k136_30 {P : s_P} {d : Nat} {Q : s_O → Prop} {h : s_H} {kc ks : Nat} {r0 r1 : Term} {x2 : Int} {r3 : Term} {x4 : Int} {t5 t6 t7 s0 : Term}  (k : wr P d sw_c136 sw_h136 (35, [r0, r1, vi x2, r3, vi x4, s0, vi 0, t7], [], h, kc, ks) Q) (y1 : s_ty s0 = 3 := by first | rfl | assumption)  : wr P d sw_c136 sw_h136 (30, [r0, r1, vi x2, r3, vi x4, t5, t6, t7], [s0], h, kc, ks) Q := by
  refine w_st (ls' := [r0, r1, vi x2, r3, vi x4, s0, t6, t7]) rfl (Or.inr ⟨by decide, y1⟩) rfl ?_
  refine w_c32 rfl (by decide) 0 (by decide) ?_
  refine w_st (ls' := [r0, r1, vi x2, r3, vi x4, s0, vi 0, t7]) rfl (Or.inl ⟨by decide, rfl⟩) (s_stK_r (pre := [r0, r1, vi x2, r3, vi x4]) y1) ?_
  exact k

theorem k136_35 {P : s_P} {d : Nat} {Q : s_O → Prop} {h : s_H} {kc ks : Nat} {r0 r1 : Term} {x2 : Int} {r3 : Term} {x4 : Int} {r5 : Term} {x6 : Int} {t7 : Term}  (k1 : x4 ≤ x6 → wr P d sw_c136 sw_h136 (122, [r0, r1, vi x2, r3, vi x4, r5, vi x6, t7], [], h, kc, ks) Q) (k2 : ¬ x4 ≤ x6 → wr P d sw_c136 sw_h136 (42, [r0, r1, vi x2, r3, vi x4, r5, vi x6, t7], [], h, kc, ks) Q)  (c1 : In3 x6 := by first | omega | assumption | (simp only [mk_len, List.length_map]; omega) | decide) (c2 : In3 x4 := by first | omega | assumption | (simp only [mk_len, List.length_map]; omega) | decide) : wr P d sw_c136 sw_h136 (35, [r0, r1, vi x2, r3, vi x4, r5, vi x6, t7], [], h, kc, ks) Q := by
  refine w_ld rfl rfl (Or.inl ⟨by decide, rfl⟩) ?_
  refine w_ld rfl rfl (Or.inl ⟨by decide, rfl⟩) ?_
  exact w_if2 rfl c1 c2 k1 k2

theorem k136_42 {P : s_P} {d : Nat} {Q : s_O → Prop} {h : s_H} {kc ks : Nat} {r0 r1 : Term} {x2 : Int} {r3 : Term} {x4 : Int} {r5 : Term} {x6 : Int} {t7 : Term}  (k : wr P d sw_c136 sw_h136 (45, [r0, r1, vi x2, r3, vi x4, r5, vi x6, vi 0], [], h, kc, ks) Q)   : wr P d sw_c136 sw_h136 (42, [r0, r1, vi x2, r3, vi x4, r5, vi x6, t7], [], h, kc, ks) Q := by
  refine w_c32 rfl (by decide) 0 (by decide) ?_
  refine w_st (ls' := [r0, r1, vi x2, r3, vi x4, r5, vi x6, vi 0]) rfl (Or.inl ⟨by decide, rfl⟩) rfl ?_
  exact k

theorem k136_45 {P : s_P} {d : Nat} {Q : s_O → Prop} {h : s_H} {kc ks : Nat} {r0 r1 : Term} {x2 : Int} {r3 : Term} {x4 : Int} {r5 : Term} {x6 x7 : Int}  (k1 : x4 ≤ x7 → wr P d sw_c136 sw_h136 (116, [r0, r1, vi x2, r3, vi x4, r5, vi x6, vi x7], [], h, kc, ks) Q) (k2 : ¬ x4 ≤ x7 → wr P d sw_c136 sw_h136 (52, [r0, r1, vi x2, r3, vi x4, r5, vi x6, vi x7], [], h, kc, ks) Q)  (c1 : In3 x7 := by first | omega | assumption | (simp only [mk_len, List.length_map]; omega) | decide) (c2 : In3 x4 := by first | omega | assumption | (simp only [mk_len, List.length_map]; omega) | decide) : wr P d sw_c136 sw_h136 (45, [r0, r1, vi x2, r3, vi x4, r5, vi x6, vi x7], [], h, kc, ks) Q := by
  refine w_ld rfl rfl (Or.inl ⟨by decide, rfl⟩) ?_
  refine w_ld rfl rfl (Or.inl ⟨by decide, rfl⟩) ?_
  exact w_if2 rfl c1 c2 k1 k2

theorem k136_52 {P : s_P} {d : Nat} {Q : s_O → Prop} {h : s_H} {kc ks : Nat} {r0 r1 : Term} {x2 : Int} {r3 : Term} {x4 : Int} {r5 : Term} {x6 x7 : Int}  (k1 : x6 ≠ x7 + 1 → wr P d sw_c136 sw_h136 (66, [r0, r1, vi x2, r3, vi x4, r5, vi x6, vi x7], [r3], h, kc, ks) Q) (k2 : ¬ x6 ≠ x7 + 1 → wr P d sw_c136 sw_h136 (62, [r0, r1, vi x2, r3, vi x4, r5, vi x6, vi x7], [r3], h, kc, ks) Q) (y1 : s_ty r3 = 3 := by first | rfl | assumption) (c2 : In3 x6 := by first | omega | assumption | (simp only [mk_len, List.length_map]; omega) | decide) (c3 : In3 (x7 + 1) := by first | omega | assumption | (simp only [mk_len, List.length_map]; omega) | decide) : wr P d sw_c136 sw_h136 (52, [r0, r1, vi x2, r3, vi x4, r5, vi x6, vi x7], [], h, kc, ks) Q := by
  refine w_ld rfl rfl (Or.inr (Or.inr ⟨by decide, y1⟩)) ?_
  refine w_ld rfl rfl (Or.inl ⟨by decide, rfl⟩) ?_
  refine w_ld rfl rfl (Or.inl ⟨by decide, rfl⟩) ?_
  refine w_c32 rfl (by decide) 1 (by decide) ?_
  refine w_iadd rfl ?_
  exact w_if2 rfl c2 c3 k1 k2

theorem k136_62 {P : s_P} {d : Nat} {Q : s_O → Prop} {h : s_H} {kc ks : Nat} {r0 r1 : Term} {x2 : Int} {r3 : Term} {x4 : Int} {r5 : Term} {x6 x7 : Int} {s0 : Term}  (k : wr P d sw_c136 sw_h136 (67, [r0, r1, vi x2, r3, vi x4, r5, vi x6, vi x7], [vi 1, s0], h, kc, ks) Q)   : wr P d sw_c136 sw_h136 (62, [r0, r1, vi x2, r3, vi x4, r5, vi x6, vi x7], [s0], h, kc, ks) Q := by
  refine w_c32 rfl (by decide) 1 (by decide) ?_
  refine w_goto rfl ?_
  exact k

theorem k136_66 {P : s_P} {d : Nat} {Q : s_O → Prop} {h : s_H} {kc ks : Nat} {r0 r1 : Term} {x2 : Int} {r3 : Term} {x4 : Int} {r5 : Term} {x6 x7 : Int} {s0 : Term}  (k : wr P d sw_c136 sw_h136 (67, [r0, r1, vi x2, r3, vi x4, r5, vi x6, vi x7], [vi 0, s0], h, kc, ks) Q)   : wr P d sw_c136 sw_h136 (66, [r0, r1, vi x2, r3, vi x4, r5, vi x6, vi x7], [s0], h, kc, ks) Q := by
  refine w_c32 rfl (by decide) 0 (by decide) ?_
  exact k

theorem k136_67 {P : s_P} {d : Nat} {Q : s_O → Prop} {h : s_H} {kc ks : Nat} {r0 r1 : Term} {x2 : Int} {r3 : Term} {x4 : Int} {r5 : Term} {x6 x7 : Int} {s0 : Term} {s1 : Int} {q1 : Nat} {f2 : List Term} (g3 : s_get h q1 = some (1, 4, f2)) (k : wm P d 180 [.index q1, vi s1] h (wq P d sw_c136 sw_h136 70 [r0, r1, vi x2, r3, vi x4, r5, vi x6, vi x7] [] kc ks Q)) (e_q1 : s0 = .index q1 := by first | rfl | assumption)  : wr P d sw_c136 sw_h136 (67, [r0, r1, vi x2, r3, vi x4, r5, vi x6, vi x7], [vi s1, s0], h, kc, ks) Q := by
  subst e_q1
  exact w_cv rfl [.index q1, vi s1] [] rfl rfl (s_wt_4 rfl) rfl g3 k

theorem k136_70 {P : s_P} {d : Nat} {Q : s_O → Prop} {h : s_H} {kc ks : Nat} {r0 r1 : Term} {x2 : Int} {r3 : Term} {x4 : Int} {r5 : Term} {x6 x7 : Int}  (k1 : x7 ≠ x4 - 1 → wr P d sw_c136 sw_h136 (97, [r0, r1, vi x2, r3, vi x4, r5, vi x6, vi x7], [], h, kc, ks) Q) (k2 : ¬ x7 ≠ x4 - 1 → wr P d sw_c136 sw_h136 (79, [r0, r1, vi x2, r3, vi x4, r5, vi x6, vi x7], [], h, kc, ks) Q)  (c1 : In3 x7 := by first | omega | assumption | (simp only [mk_len, List.length_map]; omega) | decide) (c2 : In3 (x4 - 1) := by first | omega | assumption | (simp only [mk_len, List.length_map]; omega) | decide) : wr P d sw_c136 sw_h136 (70, [r0, r1, vi x2, r3, vi x4, r5, vi x6, vi x7], [], h, kc, ks) Q := by
  refine w_ld rfl rfl (Or.inl ⟨by decide, rfl⟩) ?_
  refine w_ld rfl rfl (Or.inl ⟨by decide, rfl⟩) ?_
  refine w_c32 rfl (by decide) 1 (by decide) ?_
  refine w_isub rfl ?_
  exact w_if2 rfl c1 c2 k1 k2

theorem k136_79 {P : s_P} {d : Nat} {Q : s_O → Prop} {h : s_H} {kc ks : Nat} {r0 r1 : Term} {x2 : Int} {r3 : Term} {x4 : Int} {r5 : Term} {x6 x7 : Int} {q3 : Nat} {f4 : List Term} (g5 : s_get h q3 = some (1, 4, f4)) (k : wm P d 167 [.index q3, vi x6] h (wq P d sw_c136 sw_h136 89 [r0, .index q3, vi x2, r3, vi x4, r5, vi x6, vi x7] [vi 32003, r3] kc ks Q)) (e_q3 : r1 = .index q3 := by first | rfl | assumption) (y1 : s_ty r3 = 3 := by first | rfl | assumption) (y2 : s_ty r1 = 3 := by first | rfl | assumption)  : wr P d sw_c136 sw_h136 (79, [r0, r1, vi x2, r3, vi x4, r5, vi x6, vi x7], [], h, kc, ks) Q := by
  refine w_ld rfl rfl (Or.inr (Or.inr ⟨by decide, y1⟩)) ?_
  refine w_c32 rfl (by decide) 32003 (by decide) ?_
  refine w_ld rfl rfl (Or.inr (Or.inr ⟨by decide, y2⟩)) ?_
  refine w_ld rfl rfl (Or.inl ⟨by decide, rfl⟩) ?_
  subst e_q3
  exact w_cv rfl [.index q3, vi x6] [vi 32003, r3] rfl rfl (s_wt_4 rfl) rfl g5 k

theorem k136_89 {P : s_P} {d : Nat} {Q : s_O → Prop} {h : s_H} {kc ks : Nat} {r0 r1 : Term} {x2 : Int} {r3 : Term} {x4 : Int} {r5 : Term} {x6 x7 : Int} {s0 : Term} {s1 s2 : Int} {q2 : Nat} {f3 : List Term} (g4 : s_get h q2 = some (1, 4, f3)) (k : wm P d 180 [.index q2, vi (Int.tmod (s1 - s2) 32003)] h (wq P d sw_c136 sw_h136 97 [r0, r1, vi x2, r3, vi x4, r5, vi x6, vi x7] [] kc ks Q)) (e_q2 : s0 = .index q2 := by first | rfl | assumption) (c1 : In3 (s1 - s2) := by first | omega | assumption | (simp only [mk_len, List.length_map]; omega) | decide) : wr P d sw_c136 sw_h136 (89, [r0, r1, vi x2, r3, vi x4, r5, vi x6, vi x7], [vi s2, vi s1, s0], h, kc, ks) Q := by
  refine w_isub rfl ?_
  refine w_c32 rfl (by decide) 32003 (by decide) ?_
  refine w_irem rfl c1 (by decide) (by decide) ?_
  subst e_q2
  exact w_cv rfl [.index q2, vi (Int.tmod (s1 - s2) 32003)] [] rfl rfl (s_wt_4 rfl) rfl g4 k

theorem k136_97 {P : s_P} {d : Nat} {Q : s_O → Prop} {h : s_H} {kc ks : Nat} {r0 r1 : Term} {x2 : Int} {r3 : Term} {x4 : Int} {r5 : Term} {x6 x7 : Int} {q3 : Nat} {f4 : List Term} (g5 : s_get h q3 = some (1, 4, f4)) (k : wm P d 170 [.index q3] h (wq P d sw_c136 sw_h136 107 [r0, r1, vi x2, .index q3, vi x4, r5, vi x6, vi x7] [vi x7, vi x6, r5] kc ks Q)) (e_q3 : r3 = .index q3 := by first | rfl | assumption) (y1 : s_ty r5 = 3 := by first | rfl | assumption) (y2 : s_ty r3 = 3 := by first | rfl | assumption)  : wr P d sw_c136 sw_h136 (97, [r0, r1, vi x2, r3, vi x4, r5, vi x6, vi x7], [], h, kc, ks) Q := by
  refine w_ld rfl rfl (Or.inr (Or.inr ⟨by decide, y1⟩)) ?_
  refine w_ld rfl rfl (Or.inl ⟨by decide, rfl⟩) ?_
  refine w_ld rfl rfl (Or.inl ⟨by decide, rfl⟩) ?_
  refine w_ld rfl rfl (Or.inr (Or.inr ⟨by decide, y2⟩)) ?_
  subst e_q3
  exact w_cv rfl [.index q3] [vi x7, vi x6, r5] rfl rfl (s_wt_4 rfl) rfl g5 k

theorem k136_107 {P : s_P} {d : Nat} {Q : s_O → Prop} {h : s_H} {kc ks : Nat} {r0 r1 : Term} {x2 : Int} {r3 : Term} {x4 : Int} {r5 : Term} {x6 x7 : Int} {s0 : Term} {s1 s2 : Int} {s3 : Term} {q1 : Nat} {f2 : List Term} (g3 : s_get h q1 = some (1, 8, f2)) (k : wm P d 271 [.index q1, vi s1, vi s2, s3] h (wq P d sw_c136 sw_h136 110 [r0, r1, vi x2, r3, vi x4, r5, vi x6, vi x7] [] kc ks Q)) (e_q1 : s0 = .index q1 := by first | rfl | assumption)  : wr P d sw_c136 sw_h136 (107, [r0, r1, vi x2, r3, vi x4, r5, vi x6, vi x7], [s3, vi s2, vi s1, s0], h, kc, ks) Q := by
  subst e_q1
  exact w_cv rfl [.index q1, vi s1, vi s2, s3] [] rfl rfl (s_wt_4 rfl) rfl g3 k

theorem k136_110 {P : s_P} {d : Nat} {Q : s_O → Prop} {h : s_H} {kc ks : Nat} {r0 r1 : Term} {x2 : Int} {r3 : Term} {x4 : Int} {r5 : Term} {x6 x7 : Int}  (k : wr P d sw_c136 sw_h136 (45, [r0, r1, vi x2, r3, vi x4, r5, vi x6, vi (x7 + 1)], [], h, kc, ks) Q)   : wr P d sw_c136 sw_h136 (110, [r0, r1, vi x2, r3, vi x4, r5, vi x6, vi x7], [], h, kc, ks) Q := by
  refine w_iinc (ls' := [r0, r1, vi x2, r3, vi x4, r5, vi x6, vi (x7 + 1)]) rfl rfl 1 (by decide) rfl ?_
  refine w_goto rfl ?_
  exact k

theorem k136_116 {P : s_P} {d : Nat} {Q : s_O → Prop} {h : s_H} {kc ks : Nat} {r0 r1 : Term} {x2 : Int} {r3 : Term} {x4 : Int} {r5 : Term} {x6 x7 : Int}  (k : wr P d sw_c136 sw_h136 (35, [r0, r1, vi x2, r3, vi x4, r5, vi (x6 + 1), vi x7], [], h, kc, ks) Q) (y1 : s_ty r5 = 3 := by first | rfl | assumption)  : wr P d sw_c136 sw_h136 (116, [r0, r1, vi x2, r3, vi x4, r5, vi x6, vi x7], [], h, kc, ks) Q := by
  refine w_iinc (ls' := [r0, r1, vi x2, r3, vi x4, r5, vi (x6 + 1), vi x7]) rfl rfl 1 (by decide) (s_stK_r (pre := [r0, r1, vi x2, r3, vi x4]) y1) ?_
  refine w_goto rfl ?_
  exact k

theorem k136_122 {P : s_P} {d : Nat} {Q : s_O → Prop} {h : s_H} {kc ks : Nat} {r0 r1 : Term} {x2 : Int} {r3 : Term} {x4 : Int} {r5 : Term} {x6 : Int} {t7 : Term} {q2 : Nat} {f3 : List Term} {v5 : Term} {q7 : Nat} {f8 : List Term} (g4 : s_get h q2 = some (1, 2, f3)) (g9 : s_get h q7 = some (1, 0, f8)) (k : wm P d 113 [.index q7, vi x2] h (wq P d sw_c136 sw_h136 130 [.index q2, r1, vi x2, r3, vi x4, r5, vi x6, t7] [] kc ks Q)) (e_q2 : r0 = .index q2 := by first | rfl | assumption) (e_q7 : v5 = .index q7 := by first | rfl | assumption) (y1 : s_ty r0 = 3 := by first | rfl | assumption) (n6 : s_nth f3 0 = some v5 := by first | rfl | assumption)  : wr P d sw_c136 sw_h136 (122, [r0, r1, vi x2, r3, vi x4, r5, vi x6, t7], [], h, kc, ks) Q := by
  refine w_ld rfl rfl (Or.inr (Or.inr ⟨by decide, y1⟩)) ?_
  subst e_q2
  refine w_getf rfl g4 n6 ?_
  refine w_ld rfl rfl (Or.inl ⟨by decide, rfl⟩) ?_
  subst e_q7
  exact w_cv rfl [.index q7, vi x2] [] rfl rfl (s_wt_4 rfl) rfl g9 k

theorem k136_130 {P : s_P} {d : Nat} {Q : s_O → Prop} {h : s_H} {kc ks : Nat} {r0 r1 : Term} {x2 : Int} {r3 : Term} {x4 : Int} {r5 : Term} {x6 : Int} {t7 : Term}  (k : Q (.inl (some r5), h, kc, ks)) (y1 : s_ty r5 = 3 := by first | rfl | assumption)  : wr P d sw_c136 sw_h136 (130, [r0, r1, vi x2, r3, vi x4, r5, vi x6, t7], [], h, kc, ks) Q := by
  refine w_ld rfl rfl (Or.inr (Or.inr ⟨by decide, y1⟩)) ?_
  exact w_aret rfl y1 k

/-! 137: FormulaWorks$Minors.empty(II)LFormulaWorks$Thing; -/
theorem k137_0 {P : s_P} {d : Nat} {Q : s_O → Prop} {h : s_H} {kc ks : Nat} {r0 : Term} {x1 x2 : Int} {fc1 fc3 : s_C} (g2 : s_get h (h).1 = some fc1) (g4 : s_get (hq h (1, 8, s_df 8)) ((hq h (1, 8, s_df 8))).1 = some fc3) (k : wm P d 262 [.index h.1, vi x1, vi x2, .index ((hq h (1, 8, s_df 8))).1] (hq (hq h (1, 8, s_df 8)) (0, 2, List.replicate (Int.toNat (x1 * x2)) (.null))) (fun out => out.1 = .inl none ∧ wr P d sw_c137 sw_h137 (15, [r0, vi x1, vi x2], [.index h.1], out.2.1, ((kc + 1) + 1) + out.2.2.1, ((ks + 8) + (Int.toNat (x1 * x2))) + out.2.2.2) Q))  (c5 : x1 * x2 ≤ 60000000 := by first | omega | assumption | (simp only [mk_len, List.length_map]; omega) | decide) (c6 : In3 (x1 * x2) := by first | omega | assumption | (simp only [mk_len, List.length_map]; omega) | decide) (c7 : 0 ≤ x1 * x2 := by first | omega | assumption | (simp only [mk_len, List.length_map]; omega) | decide) : wr P d sw_c137 sw_h137 (0, [r0, vi x1, vi x2], [], h, kc, ks) Q := by
  refine w_new rfl g2 ?_
  refine w_dup rfl rfl ?_
  refine w_ld rfl rfl (Or.inl ⟨by decide, rfl⟩) ?_
  refine w_ld rfl rfl (Or.inl ⟨by decide, rfl⟩) ?_
  refine w_ld rfl rfl (Or.inl ⟨by decide, rfl⟩) ?_
  refine w_ld rfl rfl (Or.inl ⟨by decide, rfl⟩) ?_
  refine w_imul rfl ?_
  refine w_newa rfl (by decide) g4 c6 c7 c5 (.null) rfl ?_
  exact w_ci rfl [.index h.1, vi x1, vi x2, .index ((hq h (1, 8, s_df 8))).1] [.index h.1] rfl rfl (s_wt_4 rfl) rfl k

theorem k137_15 {P : s_P} {d : Nat} {Q : s_O → Prop} {h : s_H} {kc ks : Nat} {r0 : Term} {x1 x2 : Int} {s0 : Term}  (k : Q (.inl (some s0), h, kc, ks)) (y1 : s_ty s0 = 3 := by first | rfl | assumption)  : wr P d sw_c137 sw_h137 (15, [r0, vi x1, vi x2], [s0], h, kc, ks) Q := by
  exact w_aret rfl y1 k

/-! 138: FormulaWorks$Minors.expand(LFormulaWorks$Thing;IIZ)V -/
theorem k138_0 {P : s_P} {d : Nat} {Q : s_O → Prop} {h : s_H} {kc ks : Nat} {r0 r1 : Term} {x2 x3 x4 : Int} {t5 t6 t7 t8 t9 : Term} {q2 : Nat} {f3 : List Term} {v5 : Term} {q7 : Nat} {f8 : List Term} (g4 : s_get h q2 = some (1, 2, f3)) (g9 : s_get h q7 = some (1, 0, f8)) (k : wm P d 110 [.index q7] h (wq P d sw_c138 sw_h138 7 [.index q2, r1, vi x2, vi x3, vi x4, t5, t6, t7, t8, t9] [] kc ks Q)) (e_q2 : r0 = .index q2 := by first | rfl | assumption) (e_q7 : v5 = .index q7 := by first | rfl | assumption) (y1 : s_ty r0 = 3 := by first | rfl | assumption) (n6 : s_nth f3 0 = some v5 := by first | rfl | assumption)  : wr P d sw_c138 sw_h138 (0, [r0, r1, vi x2, vi x3, vi x4, t5, t6, t7, t8, t9], [], h, kc, ks) Q := by
  refine w_ld rfl rfl (Or.inr (Or.inr ⟨by decide, y1⟩)) ?_
  subst e_q2
  refine w_getf rfl g4 n6 ?_
  subst e_q7
  exact w_cv rfl [.index q7] [] rfl rfl (s_wt_4 rfl) rfl g9 k

theorem k138_7 {P : s_P} {d : Nat} {Q : s_O → Prop} {h : s_H} {kc ks : Nat} {r0 r1 : Term} {x2 x3 x4 : Int} {t5 t6 t7 t8 t9 : Term} {s0 : Int} {q2 : Nat} {f3 : List Term} {v5 : Term} {q7 : Nat} {f8 : List Term} (g4 : s_get h q2 = some (1, 2, f3)) (g9 : s_get h q7 = some (1, 0, f8)) (k : wm P d 109 [.index q7] h (wq P d sw_c138 sw_h138 16 [.index q2, r1, vi x2, vi x3, vi x4, vi s0, t6, t7, t8, t9] [] kc ks Q)) (e_q2 : r0 = .index q2 := by first | rfl | assumption) (e_q7 : v5 = .index q7 := by first | rfl | assumption) (y1 : s_ty r0 = 3 := by first | rfl | assumption) (n6 : s_nth f3 0 = some v5 := by first | rfl | assumption)  : wr P d sw_c138 sw_h138 (7, [r0, r1, vi x2, vi x3, vi x4, t5, t6, t7, t8, t9], [vi s0], h, kc, ks) Q := by
  refine w_st (ls' := [r0, r1, vi x2, vi x3, vi x4, vi s0, t6, t7, t8, t9]) rfl (Or.inl ⟨by decide, rfl⟩) rfl ?_
  refine w_ld rfl rfl (Or.inr (Or.inr ⟨by decide, y1⟩)) ?_
  subst e_q2
  refine w_getf rfl g4 n6 ?_
  subst e_q7
  exact w_cv rfl [.index q7] [] rfl rfl (s_wt_4 rfl) rfl g9 k

theorem k138_16 {P : s_P} {d : Nat} {Q : s_O → Prop} {h : s_H} {kc ks : Nat} {r0 r1 : Term} {x2 x3 x4 x5 : Int} {t6 t7 t8 t9 s0 : Term} {q3 : Nat} {f4 : List Term} {v6 : Term} {q8 : Nat} {f9 : List Term} (g5 : s_get h q3 = some (1, 2, f4)) (g10 : s_get h q8 = some (1, 0, f9)) (k : wm P d 109 [.index q8] h (wq P d sw_c138 sw_h138 25 [.index q3, r1, vi x2, vi x3, vi x4, vi x5, s0, t7, t8, t9] [] kc ks Q)) (e_q3 : r0 = .index q3 := by first | rfl | assumption) (e_q8 : v6 = .index q8 := by first | rfl | assumption) (y1 : s_ty s0 = 3 := by first | rfl | assumption) (y2 : s_ty r0 = 3 := by first | rfl | assumption) (n7 : s_nth f4 0 = some v6 := by first | rfl | assumption)  : wr P d sw_c138 sw_h138 (16, [r0, r1, vi x2, vi x3, vi x4, vi x5, t6, t7, t8, t9], [s0], h, kc, ks) Q := by
  refine w_st (ls' := [r0, r1, vi x2, vi x3, vi x4, vi x5, s0, t7, t8, t9]) rfl (Or.inr ⟨by decide, y1⟩) rfl ?_
  refine w_ld rfl rfl (Or.inr (Or.inr ⟨by decide, y2⟩)) ?_
  subst e_q3
  refine w_getf rfl g5 n7 ?_
  subst e_q8
  exact w_cv rfl [.index q8] [] rfl rfl (s_wt_4 rfl) rfl g10 k

theorem k138_25 {P : s_P} {d : Nat} {Q : s_O → Prop} {h : s_H} {kc ks : Nat} {r0 r1 : Term} {x2 x3 x4 x5 : Int} {r6 t7 t8 t9 s0 : Term}  (k : wr P d sw_c138 sw_h138 (34, [r0, r1, vi x2, vi x3, vi x4, vi x5, r6, s0, vi x4, vi 0], [], h, kc, ks) Q) (y1 : s_ty r6 = 3 := by first | rfl | assumption) (y2 : s_ty s0 = 3 := by first | rfl | assumption)  : wr P d sw_c138 sw_h138 (25, [r0, r1, vi x2, vi x3, vi x4, vi x5, r6, t7, t8, t9], [s0], h, kc, ks) Q := by
  refine w_st (ls' := [r0, r1, vi x2, vi x3, vi x4, vi x5, r6, s0, t8, t9]) rfl (Or.inr ⟨by decide, y2⟩) (s_stK_r (pre := [r0, r1, vi x2, vi x3, vi x4, vi x5]) y1) ?_
  refine w_ld rfl rfl (Or.inl ⟨by decide, rfl⟩) ?_
  refine w_st (ls' := [r0, r1, vi x2, vi x3, vi x4, vi x5, r6, s0, vi x4, t9]) rfl (Or.inl ⟨by decide, rfl⟩) (s_stK_r (pre := [r0, r1, vi x2, vi x3, vi x4, vi x5, r6]) y2) ?_
  refine w_c32 rfl (by decide) 0 (by decide) ?_
  refine w_st (ls' := [r0, r1, vi x2, vi x3, vi x4, vi x5, r6, s0, vi x4, vi 0]) rfl (Or.inl ⟨by decide, rfl⟩) rfl ?_
  exact k

theorem k138_34 {P : s_P} {d : Nat} {Q : s_O → Prop} {h : s_H} {kc ks : Nat} {r0 r1 : Term} {x2 x3 x4 x5 : Int} {r6 r7 : Term} {x8 x9 : Int} {q2 : Nat} {f3 : List Term} {z5 : Int} (g4 : s_get h q2 = some (1, 8, f3)) (k1 : z5 ≤ x9 → wr P d sw_c138 sw_h138 (115, [r0, .index q2, vi x2, vi x3, vi x4, vi x5, r6, r7, vi x8, vi x9], [], h, kc, ks) Q) (k2 : ¬ z5 ≤ x9 → wr P d sw_c138 sw_h138 (43, [r0, .index q2, vi x2, vi x3, vi x4, vi x5, r6, r7, vi x8, vi x9], [], h, kc, ks) Q) (e_q2 : r1 = .index q2 := by first | rfl | assumption) (y1 : s_ty r1 = 3 := by first | rfl | assumption) (n6 : s_nth f3 4 = some (vi z5) := by first | rfl | assumption) (c7 : In3 x9 := by first | omega | assumption | (simp only [mk_len, List.length_map]; omega) | decide) (c8 : In3 z5 := by first | omega | assumption | (simp only [mk_len, List.length_map]; omega) | decide) : wr P d sw_c138 sw_h138 (34, [r0, r1, vi x2, vi x3, vi x4, vi x5, r6, r7, vi x8, vi x9], [], h, kc, ks) Q := by
  refine w_ld rfl rfl (Or.inl ⟨by decide, rfl⟩) ?_
  refine w_ld rfl rfl (Or.inr (Or.inr ⟨by decide, y1⟩)) ?_
  subst e_q2
  refine w_getf rfl g4 n6 ?_
  exact w_if2 rfl c7 c8 k1 k2

theorem k138_43 {P : s_P} {d : Nat} {Q : s_O → Prop} {h : s_H} {kc ks : Nat} {r0 r1 : Term} {x2 x3 x4 x5 : Int} {r6 r7 : Term} {x8 x9 : Int}  (k1 : zi 24 (zi 28 x3 x9) 1 ≠ 1 → wr P d sw_c138 sw_h138 (109, [r0, r1, vi x2, vi x3, vi x4, vi x5, r6, r7, vi x8, vi x9], [], h, kc, ks) Q) (k2 : ¬ zi 24 (zi 28 x3 x9) 1 ≠ 1 → wr P d sw_c138 sw_h138 (53, [r0, r1, vi x2, vi x3, vi x4, vi x5, r6, r7, vi x8, vi x9], [], h, kc, ks) Q)  (c1 : In3 (zi 24 (zi 28 x3 x9) 1) := by first | omega | assumption | (simp only [mk_len, List.length_map]; omega) | decide) : wr P d sw_c138 sw_h138 (43, [r0, r1, vi x2, vi x3, vi x4, vi x5, r6, r7, vi x8, vi x9], [], h, kc, ks) Q := by
  refine w_ld rfl rfl (Or.inl ⟨by decide, rfl⟩) ?_
  refine w_ld rfl rfl (Or.inl ⟨by decide, rfl⟩) ?_
  refine w_ib rfl (by decide) ?_
  refine w_c32 rfl (by decide) 1 (by decide) ?_
  refine w_ib rfl (by decide) ?_
  refine w_c32 rfl (by decide) 1 (by decide) ?_
  exact w_if2 rfl c1 (by decide) k1 k2

theorem k138_53 {P : s_P} {d : Nat} {Q : s_O → Prop} {h : s_H} {kc ks : Nat} {r0 r1 : Term} {x2 x3 x4 x5 : Int} {r6 r7 : Term} {x8 x9 : Int} {q3 : Nat} {f4 : List Term} (g5 : s_get h q3 = some (1, 8, f4)) (k : wm P d 265 [.index q3, vi x2, vi x9] h (wq P d sw_c138 sw_h138 62 [r0, .index q3, vi x2, vi x3, vi x4, vi x5, r6, r7, vi x8, vi x9] [r7] kc ks Q)) (e_q3 : r1 = .index q3 := by first | rfl | assumption) (y1 : s_ty r7 = 3 := by first | rfl | assumption) (y2 : s_ty r1 = 3 := by first | rfl | assumption)  : wr P d sw_c138 sw_h138 (53, [r0, r1, vi x2, vi x3, vi x4, vi x5, r6, r7, vi x8, vi x9], [], h, kc, ks) Q := by
  refine w_ld rfl rfl (Or.inr (Or.inr ⟨by decide, y1⟩)) ?_
  refine w_ld rfl rfl (Or.inr (Or.inr ⟨by decide, y2⟩)) ?_
  refine w_ld rfl rfl (Or.inl ⟨by decide, rfl⟩) ?_
  refine w_ld rfl rfl (Or.inl ⟨by decide, rfl⟩) ?_
  subst e_q3
  exact w_cv rfl [.index q3, vi x2, vi x9] [r7] rfl rfl (s_wt_4 rfl) rfl g5 k

theorem k138_62 {P : s_P} {d : Nat} {Q : s_O → Prop} {h : s_H} {kc ks : Nat} {r0 r1 : Term} {x2 x3 x4 x5 : Int} {r6 r7 : Term} {x8 x9 : Int} {s0 s1 : Term} {q2 : Nat} {f3 : List Term} {v5 : Term} {q7 : Nat} {a8 : List Term} {tg10 : Nat} {v11 : Term} {q16 : Nat} {f17 : List Term} (g4 : s_get h q2 = some (1, 2, f3)) (g9 : s_get h q7 = some (0, tg10, a8)) (g18 : s_get h q16 = some (1, 4, f17)) (k : wm P d 182 [.index q16, s1, v11] h (wq P d sw_c138 sw_h138 76 [.index q2, r1, vi x2, vi x3, vi x4, vi x5, r6, r7, vi x8, vi x9] [] kc ks Q)) (e_q2 : r0 = .index q2 := by first | rfl | assumption) (e_q7 : v5 = .index q7 := by first | rfl | assumption) (e_q16 : s0 = .index q16 := by first | rfl | assumption) (y1 : s_ty r0 = 3 := by first | rfl | assumption) (n6 : s_nth f3 1 = some v5 := by first | rfl | assumption) (n12 : s_nth a8 (Int.toNat (zi 26 x3 (zi 27 1 x9))) = some v11 := by first | rfl | assumption) (u13 : tg10 = 2 ∨ tg10 = 3 ∨ tg10 = 4 := by first | decide | assumption) (c14 : In3 (zi 26 x3 (zi 27 1 x9)) := by first | omega | assumption | (simp only [mk_len, List.length_map]; omega) | decide) (c15 : 0 ≤ zi 26 x3 (zi 27 1 x9) := by first | omega | assumption | (simp only [mk_len, List.length_map]; omega) | decide) : wr P d sw_c138 sw_h138 (62, [r0, r1, vi x2, vi x3, vi x4, vi x5, r6, r7, vi x8, vi x9], [s1, s0], h, kc, ks) Q := by
  refine w_ld rfl rfl (Or.inr (Or.inr ⟨by decide, y1⟩)) ?_
  subst e_q2
  refine w_getf rfl g4 n6 ?_
  refine w_ld rfl rfl (Or.inl ⟨by decide, rfl⟩) ?_
  refine w_c32 rfl (by decide) 1 (by decide) ?_
  refine w_ld rfl rfl (Or.inl ⟨by decide, rfl⟩) ?_
  refine w_ib rfl (by decide) ?_
  refine w_ib rfl (by decide) ?_
  subst e_q7
  refine w_aald rfl g9 u13 c14 c15 n12 ?_
  subst e_q16
  exact w_cv rfl [.index q16, s1, v11] [] rfl rfl (s_wt_4 rfl) rfl g18 k

theorem k138_76 {P : s_P} {d : Nat} {Q : s_O → Prop} {h : s_H} {kc ks : Nat} {r0 r1 : Term} {x2 x3 x4 x5 : Int} {r6 r7 : Term} {x8 x9 : Int}  (k1 : x8 = 0 → wr P d sw_c138 sw_h138 (91, [r0, r1, vi x2, vi x3, vi x4, vi x5, r6, r7, vi x8, vi x9], [r7, r6, r6], h, kc, ks) Q) (k2 : ¬ x8 = 0 → wr P d sw_c138 sw_h138 (87, [r0, r1, vi x2, vi x3, vi x4, vi x5, r6, r7, vi x8, vi x9], [r7, r6, r6], h, kc, ks) Q) (y1 : s_ty r6 = 3 := by first | rfl | assumption) (y2 : s_ty r7 = 3 := by first | rfl | assumption) (c3 : In3 x8 := by first | omega | assumption | (simp only [mk_len, List.length_map]; omega) | decide) : wr P d sw_c138 sw_h138 (76, [r0, r1, vi x2, vi x3, vi x4, vi x5, r6, r7, vi x8, vi x9], [], h, kc, ks) Q := by
  refine w_ld rfl rfl (Or.inr (Or.inr ⟨by decide, y1⟩)) ?_
  refine w_ld rfl rfl (Or.inr (Or.inr ⟨by decide, y1⟩)) ?_
  refine w_ld rfl rfl (Or.inr (Or.inr ⟨by decide, y2⟩)) ?_
  refine w_ld rfl rfl (Or.inl ⟨by decide, rfl⟩) ?_
  exact w_if1 rfl c3 k1 k2

theorem k138_87 {P : s_P} {d : Nat} {Q : s_O → Prop} {h : s_H} {kc ks : Nat} {r0 r1 : Term} {x2 x3 x4 x5 : Int} {r6 r7 : Term} {x8 x9 : Int} {s0 s1 s2 : Term}  (k : wr P d sw_c138 sw_h138 (94, [r0, r1, vi x2, vi x3, vi x4, vi x5, r6, r7, vi x8, vi x9], [vi 1, s2, s1, s0], h, kc, ks) Q)   : wr P d sw_c138 sw_h138 (87, [r0, r1, vi x2, vi x3, vi x4, vi x5, r6, r7, vi x8, vi x9], [s2, s1, s0], h, kc, ks) Q := by
  refine w_c32 rfl (by decide) 1 (by decide) ?_
  refine w_goto rfl ?_
  exact k

theorem k138_91 {P : s_P} {d : Nat} {Q : s_O → Prop} {h : s_H} {kc ks : Nat} {r0 r1 : Term} {x2 x3 x4 x5 : Int} {r6 r7 : Term} {x8 x9 : Int} {s0 s1 s2 : Term}  (k : wr P d sw_c138 sw_h138 (94, [r0, r1, vi x2, vi x3, vi x4, vi x5, r6, r7, vi x8, vi x9], [vi 32002, s2, s1, s0], h, kc, ks) Q)   : wr P d sw_c138 sw_h138 (91, [r0, r1, vi x2, vi x3, vi x4, vi x5, r6, r7, vi x8, vi x9], [s2, s1, s0], h, kc, ks) Q := by
  refine w_c32 rfl (by decide) 32002 (by decide) ?_
  exact k

theorem k138_94 {P : s_P} {d : Nat} {Q : s_O → Prop} {h : s_H} {kc ks : Nat} {r0 r1 : Term} {x2 x3 x4 x5 : Int} {r6 r7 : Term} {x8 x9 : Int} {s0 s1 s2 : Term} {s3 : Int} {q1 : Nat} {f2 : List Term} (g3 : s_get h q1 = some (1, 4, f2)) (k : wm P d 184 [.index q1, s1, s2, vi s3] h (wq P d sw_c138 sw_h138 97 [r0, r1, vi x2, vi x3, vi x4, vi x5, r6, r7, vi x8, vi x9] [] kc ks Q)) (e_q1 : s0 = .index q1 := by first | rfl | assumption)  : wr P d sw_c138 sw_h138 (94, [r0, r1, vi x2, vi x3, vi x4, vi x5, r6, r7, vi x8, vi x9], [vi s3, s2, s1, s0], h, kc, ks) Q := by
  subst e_q1
  exact w_cv rfl [.index q1, s1, s2, vi s3] [] rfl rfl (s_wt_4 rfl) rfl g3 k

theorem k138_97 {P : s_P} {d : Nat} {Q : s_O → Prop} {h : s_H} {kc ks : Nat} {r0 r1 : Term} {x2 x3 x4 x5 : Int} {r6 r7 : Term} {x8 x9 : Int}  (k1 : x8 ≠ 0 → wr P d sw_c138 sw_h138 (106, [r0, r1, vi x2, vi x3, vi x4, vi x5, r6, r7, vi x8, vi x9], [], h, kc, ks) Q) (k2 : ¬ x8 ≠ 0 → wr P d sw_c138 sw_h138 (102, [r0, r1, vi x2, vi x3, vi x4, vi x5, r6, r7, vi x8, vi x9], [], h, kc, ks) Q)  (c1 : In3 x8 := by first | omega | assumption | (simp only [mk_len, List.length_map]; omega) | decide) : wr P d sw_c138 sw_h138 (97, [r0, r1, vi x2, vi x3, vi x4, vi x5, r6, r7, vi x8, vi x9], [], h, kc, ks) Q := by
  refine w_ld rfl rfl (Or.inl ⟨by decide, rfl⟩) ?_
  exact w_if1 rfl c1 k1 k2

theorem k138_102 {P : s_P} {d : Nat} {Q : s_O → Prop} {h : s_H} {kc ks : Nat} {r0 r1 : Term} {x2 x3 x4 x5 : Int} {r6 r7 : Term} {x8 x9 : Int}  (k : wr P d sw_c138 sw_h138 (107, [r0, r1, vi x2, vi x3, vi x4, vi x5, r6, r7, vi x8, vi x9], [vi 1], h, kc, ks) Q)   : wr P d sw_c138 sw_h138 (102, [r0, r1, vi x2, vi x3, vi x4, vi x5, r6, r7, vi x8, vi x9], [], h, kc, ks) Q := by
  refine w_c32 rfl (by decide) 1 (by decide) ?_
  refine w_goto rfl ?_
  exact k

theorem k138_106 {P : s_P} {d : Nat} {Q : s_O → Prop} {h : s_H} {kc ks : Nat} {r0 r1 : Term} {x2 x3 x4 x5 : Int} {r6 r7 : Term} {x8 x9 : Int}  (k : wr P d sw_c138 sw_h138 (107, [r0, r1, vi x2, vi x3, vi x4, vi x5, r6, r7, vi x8, vi x9], [vi 0], h, kc, ks) Q)   : wr P d sw_c138 sw_h138 (106, [r0, r1, vi x2, vi x3, vi x4, vi x5, r6, r7, vi x8, vi x9], [], h, kc, ks) Q := by
  refine w_c32 rfl (by decide) 0 (by decide) ?_
  exact k

theorem k138_107 {P : s_P} {d : Nat} {Q : s_O → Prop} {h : s_H} {kc ks : Nat} {r0 r1 : Term} {x2 x3 x4 x5 : Int} {r6 r7 : Term} {x8 x9 s0 : Int}  (k : wr P d sw_c138 sw_h138 (109, [r0, r1, vi x2, vi x3, vi x4, vi x5, r6, r7, vi s0, vi x9], [], h, kc, ks) Q) (y1 : s_ty r7 = 3 := by first | rfl | assumption)  : wr P d sw_c138 sw_h138 (107, [r0, r1, vi x2, vi x3, vi x4, vi x5, r6, r7, vi x8, vi x9], [vi s0], h, kc, ks) Q := by
  refine w_st (ls' := [r0, r1, vi x2, vi x3, vi x4, vi x5, r6, r7, vi s0, vi x9]) rfl (Or.inl ⟨by decide, rfl⟩) (s_stK_r (pre := [r0, r1, vi x2, vi x3, vi x4, vi x5, r6]) y1) ?_
  exact k

theorem k138_109 {P : s_P} {d : Nat} {Q : s_O → Prop} {h : s_H} {kc ks : Nat} {r0 r1 : Term} {x2 x3 x4 x5 : Int} {r6 r7 : Term} {x8 x9 : Int}  (k : wr P d sw_c138 sw_h138 (34, [r0, r1, vi x2, vi x3, vi x4, vi x5, r6, r7, vi x8, vi (x9 + 1)], [], h, kc, ks) Q)   : wr P d sw_c138 sw_h138 (109, [r0, r1, vi x2, vi x3, vi x4, vi x5, r6, r7, vi x8, vi x9], [], h, kc, ks) Q := by
  refine w_iinc (ls' := [r0, r1, vi x2, vi x3, vi x4, vi x5, r6, r7, vi x8, vi (x9 + 1)]) rfl rfl 1 (by decide) rfl ?_
  refine w_goto rfl ?_
  exact k

theorem k138_115 {P : s_P} {d : Nat} {Q : s_O → Prop} {h : s_H} {kc ks : Nat} {r0 r1 : Term} {x2 x3 x4 x5 : Int} {r6 r7 : Term} {x8 x9 : Int} {q2 : Nat} {f3 : List Term} {v5 : Term} {q7 : Nat} {a8 : List Term} {tg10 : Nat} {v11 : Term} {q17 : Nat} {f18 : List Term} (g4 : s_get h q2 = some (1, 2, f3)) (g9 : s_get h q7 = some (0, tg10, a8)) (g19 : s_get h q17 = some (1, 4, f18)) (k : wm P d 179 [.index q17, r6] h (wq P d sw_c138 sw_h138 126 [.index q2, r1, vi x2, vi x3, vi x4, vi x5, r6, r7, vi x8, vi x9] [] kc ks Q)) (e_q2 : r0 = .index q2 := by first | rfl | assumption) (e_q7 : v5 = .index q7 := by first | rfl | assumption) (e_q17 : v11 = .index q17 := by first | rfl | assumption) (y1 : s_ty r0 = 3 := by first | rfl | assumption) (n6 : s_nth f3 1 = some v5 := by first | rfl | assumption) (n12 : s_nth a8 (Int.toNat (x3)) = some v11 := by first | rfl | assumption) (u13 : tg10 = 2 ∨ tg10 = 3 ∨ tg10 = 4 := by first | decide | assumption) (y16 : s_ty r6 = 3 := by first | rfl | assumption) (c14 : In3 x3 := by first | omega | assumption | (simp only [mk_len, List.length_map]; omega) | decide) (c15 : 0 ≤ x3 := by first | omega | assumption | (simp only [mk_len, List.length_map]; omega) | decide) : wr P d sw_c138 sw_h138 (115, [r0, r1, vi x2, vi x3, vi x4, vi x5, r6, r7, vi x8, vi x9], [], h, kc, ks) Q := by
  refine w_ld rfl rfl (Or.inr (Or.inr ⟨by decide, y1⟩)) ?_
  subst e_q2
  refine w_getf rfl g4 n6 ?_
  refine w_ld rfl rfl (Or.inl ⟨by decide, rfl⟩) ?_
  subst e_q7
  refine w_aald rfl g9 u13 c14 c15 n12 ?_
  refine w_ld rfl rfl (Or.inr (Or.inr ⟨by decide, y16⟩)) ?_
  subst e_q17
  exact w_cv rfl [.index q17, r6] [] rfl rfl (s_wt_4 rfl) rfl g19 k

theorem k138_126 {P : s_P} {d : Nat} {Q : s_O → Prop} {h : s_H} {kc ks : Nat} {r0 r1 : Term} {x2 x3 x4 x5 : Int} {r6 r7 : Term} {x8 x9 : Int} {q2 : Nat} {f3 : List Term} {v5 : Term} {q7 : Nat} {f8 : List Term} (g4 : s_get h q2 = some (1, 2, f3)) (g9 : s_get h q7 = some (1, 0, f8)) (k : wm P d 113 [.index q7, vi x5] h (wq P d sw_c138 sw_h138 135 [.index q2, r1, vi x2, vi x3, vi x4, vi x5, r6, r7, vi x8, vi x9] [] kc ks Q)) (e_q2 : r0 = .index q2 := by first | rfl | assumption) (e_q7 : v5 = .index q7 := by first | rfl | assumption) (y1 : s_ty r0 = 3 := by first | rfl | assumption) (n6 : s_nth f3 0 = some v5 := by first | rfl | assumption)  : wr P d sw_c138 sw_h138 (126, [r0, r1, vi x2, vi x3, vi x4, vi x5, r6, r7, vi x8, vi x9], [], h, kc, ks) Q := by
  refine w_ld rfl rfl (Or.inr (Or.inr ⟨by decide, y1⟩)) ?_
  subst e_q2
  refine w_getf rfl g4 n6 ?_
  refine w_ld rfl rfl (Or.inl ⟨by decide, rfl⟩) ?_
  subst e_q7
  exact w_cv rfl [.index q7, vi x5] [] rfl rfl (s_wt_4 rfl) rfl g9 k

theorem k138_135 {P : s_P} {d : Nat} {Q : s_O → Prop} {h : s_H} {kc ks : Nat} {r0 r1 : Term} {x2 x3 x4 x5 : Int} {r6 r7 : Term} {x8 x9 : Int}  (k : Q (.inl none, h, kc, ks))   : wr P d sw_c138 sw_h138 (135, [r0, r1, vi x2, vi x3, vi x4, vi x5, r6, r7, vi x8, vi x9], [], h, kc, ks) Q := by
  exact w_ret rfl k

/-! 139: FormulaWorks$Minors.find(LFormulaWorks$Thing;I)V -/
theorem k139_0 {P : s_P} {d : Nat} {Q : s_O → Prop} {h : s_H} {kc ks : Nat} {r0 r1 : Term} {x2 : Int} {t3 t4 t5 : Term} {q2 : Nat} {f3 : List Term} {v5 : Term} {q7 : Nat} {a8 : List Term} {tg10 : Nat} {v11 : Term} {q14 : Nat} {f15 : List Term} (g4 : s_get h q2 = some (1, 2, f3)) (g9 : s_get h q7 = some (0, tg10, a8)) (g16 : s_get h q14 = some (1, 4, f15)) (k : wm P d 180 [.index q14, vi 1] h (wq P d sw_c139 sw_h139 10 [.index q2, r1, vi x2, t3, t4, t5] [] kc ks Q)) (e_q2 : r0 = .index q2 := by first | rfl | assumption) (e_q7 : v5 = .index q7 := by first | rfl | assumption) (e_q14 : v11 = .index q14 := by first | rfl | assumption) (y1 : s_ty r0 = 3 := by first | rfl | assumption) (n6 : s_nth f3 1 = some v5 := by first | rfl | assumption) (n12 : s_nth a8 (Int.toNat (0)) = some v11 := by first | rfl | assumption) (u13 : tg10 = 2 ∨ tg10 = 3 ∨ tg10 = 4 := by first | decide | assumption)  : wr P d sw_c139 sw_h139 (0, [r0, r1, vi x2, t3, t4, t5], [], h, kc, ks) Q := by
  refine w_ld rfl rfl (Or.inr (Or.inr ⟨by decide, y1⟩)) ?_
  subst e_q2
  refine w_getf rfl g4 n6 ?_
  refine w_c32 rfl (by decide) 0 (by decide) ?_
  subst e_q7
  refine w_aald rfl g9 u13 (by decide) (by decide) n12 ?_
  refine w_c32 rfl (by decide) 1 (by decide) ?_
  subst e_q14
  exact w_cv rfl [.index q14, vi 1] [] rfl rfl (s_wt_4 rfl) rfl g16 k

theorem k139_10 {P : s_P} {d : Nat} {Q : s_O → Prop} {h : s_H} {kc ks : Nat} {r0 r1 : Term} {x2 : Int} {t3 t4 t5 : Term}  (k : wr P d sw_c139 sw_h139 (15, [r0, r1, vi x2, vi 0, vi 0, t5], [], h, kc, ks) Q)   : wr P d sw_c139 sw_h139 (10, [r0, r1, vi x2, t3, t4, t5], [], h, kc, ks) Q := by
  refine w_c32 rfl (by decide) 0 (by decide) ?_
  refine w_st (ls' := [r0, r1, vi x2, vi 0, t4, t5]) rfl (Or.inl ⟨by decide, rfl⟩) rfl ?_
  refine w_c32 rfl (by decide) 0 (by decide) ?_
  refine w_st (ls' := [r0, r1, vi x2, vi 0, vi 0, t5]) rfl (Or.inl ⟨by decide, rfl⟩) rfl ?_
  exact k

theorem k139_15 {P : s_P} {d : Nat} {Q : s_O → Prop} {h : s_H} {kc ks : Nat} {r0 r1 : Term} {x2 x3 x4 : Int} {t5 : Term} {q2 : Nat} {f3 : List Term} {z5 : Int} (g4 : s_get h q2 = some (1, 8, f3)) (k1 : z5 ≤ x4 → wr P d sw_c139 sw_h139 (61, [r0, .index q2, vi x2, vi x3, vi x4, t5], [], h, kc, ks) Q) (k2 : ¬ z5 ≤ x4 → wr P d sw_c139 sw_h139 (24, [r0, .index q2, vi x2, vi x3, vi x4, t5], [], h, kc, ks) Q) (e_q2 : r1 = .index q2 := by first | rfl | assumption) (y1 : s_ty r1 = 3 := by first | rfl | assumption) (n6 : s_nth f3 3 = some (vi z5) := by first | rfl | assumption) (c7 : In3 x4 := by first | omega | assumption | (simp only [mk_len, List.length_map]; omega) | decide) (c8 : In3 z5 := by first | omega | assumption | (simp only [mk_len, List.length_map]; omega) | decide) : wr P d sw_c139 sw_h139 (15, [r0, r1, vi x2, vi x3, vi x4, t5], [], h, kc, ks) Q := by
  refine w_ld rfl rfl (Or.inl ⟨by decide, rfl⟩) ?_
  refine w_ld rfl rfl (Or.inr (Or.inr ⟨by decide, y1⟩)) ?_
  subst e_q2
  refine w_getf rfl g4 n6 ?_
  exact w_if2 rfl c7 c8 k1 k2

theorem k139_24 {P : s_P} {d : Nat} {Q : s_O → Prop} {h : s_H} {kc ks : Nat} {r0 r1 : Term} {x2 x3 x4 : Int} {t5 : Term} {q2 : Nat} {f3 : List Term} {v5 : Term} {q7 : Nat} {a8 : List Term} {tg10 : Nat} (g4 : s_get h q2 = some (1, 2, f3)) (g9 : s_get h q7 = some (0, tg10, a8)) (k1 : (a8.length : Int) ≤ x4 → wr P d sw_c139 sw_h139 (61, [.index q2, r1, vi x2, vi x3, vi x4, t5], [], h, kc, ks) Q) (k2 : ¬ (a8.length : Int) ≤ x4 → wr P d sw_c139 sw_h139 (34, [.index q2, r1, vi x2, vi x3, vi x4, t5], [], h, kc, ks) Q) (e_q2 : r0 = .index q2 := by first | rfl | assumption) (e_q7 : v5 = .index q7 := by first | rfl | assumption) (y1 : s_ty r0 = 3 := by first | rfl | assumption) (n6 : s_nth f3 3 = some v5 := by first | rfl | assumption) (c11 : In3 x4 := by first | omega | assumption | (simp only [mk_len, List.length_map]; omega) | decide) (c12 : In3 (a8.length : Int) := by first | omega | assumption | (simp only [mk_len, List.length_map]; omega) | decide) : wr P d sw_c139 sw_h139 (24, [r0, r1, vi x2, vi x3, vi x4, t5], [], h, kc, ks) Q := by
  refine w_ld rfl rfl (Or.inl ⟨by decide, rfl⟩) ?_
  refine w_ld rfl rfl (Or.inr (Or.inr ⟨by decide, y1⟩)) ?_
  subst e_q2
  refine w_getf rfl g4 n6 ?_
  subst e_q7
  refine w_alen rfl g9 (Or.inl rfl) ?_
  exact w_if2 rfl c11 c12 k1 k2

theorem k139_34 {P : s_P} {d : Nat} {Q : s_O → Prop} {h : s_H} {kc ks : Nat} {r0 r1 : Term} {x2 x3 x4 : Int} {t5 : Term}  (k1 : zi 24 (zi 28 x2 x4) 1 ≠ 1 → wr P d sw_c139 sw_h139 (55, [r0, r1, vi x2, vi x3, vi x4, t5], [], h, kc, ks) Q) (k2 : ¬ zi 24 (zi 28 x2 x4) 1 ≠ 1 → wr P d sw_c139 sw_h139 (44, [r0, r1, vi x2, vi x3, vi x4, t5], [], h, kc, ks) Q)  (c1 : In3 (zi 24 (zi 28 x2 x4) 1) := by first | omega | assumption | (simp only [mk_len, List.length_map]; omega) | decide) : wr P d sw_c139 sw_h139 (34, [r0, r1, vi x2, vi x3, vi x4, t5], [], h, kc, ks) Q := by
  refine w_ld rfl rfl (Or.inl ⟨by decide, rfl⟩) ?_
  refine w_ld rfl rfl (Or.inl ⟨by decide, rfl⟩) ?_
  refine w_ib rfl (by decide) ?_
  refine w_c32 rfl (by decide) 1 (by decide) ?_
  refine w_ib rfl (by decide) ?_
  refine w_c32 rfl (by decide) 1 (by decide) ?_
  exact w_if2 rfl c1 (by decide) k1 k2

theorem k139_44 {P : s_P} {d : Nat} {Q : s_O → Prop} {h : s_H} {kc ks : Nat} {r0 r1 : Term} {x2 x3 x4 : Int} {t5 : Term} {q2 : Nat} {f3 : List Term} {v5 : Term} {q7 : Nat} {a8 : List Int} (g4 : s_get h q2 = some (1, 2, f3)) (g9 : s_get h q7 = some (0, 0, a8.map vi)) (k : wr P d sw_c139 sw_h139 (55, [.index q2, r1, vi x2, vi (x3 + 1), vi x4, t5], [], (hp h q7 (0, 0, (a8.set (Int.toNat (x3)) x4).map vi)), kc, ks) Q) (e_q2 : r0 = .index q2 := by first | rfl | assumption) (e_q7 : v5 = .index q7 := by first | rfl | assumption) (y1 : s_ty r0 = 3 := by first | rfl | assumption) (n6 : s_nth f3 3 = some v5 := by first | rfl | assumption) (c10 : x3 < a8.length := by first | omega | assumption | (simp only [mk_len, List.length_map]; omega) | decide) (c11 : 0 ≤ x3 := by first | omega | assumption | (simp only [mk_len, List.length_map]; omega) | decide) (c12 : In3 x3 := by first | omega | assumption | (simp only [mk_len, List.length_map]; omega) | decide) (c13 : 0 < q7 := by first | omega | assumption | (simp only [mk_len, List.length_map]; omega) | decide) : wr P d sw_c139 sw_h139 (44, [r0, r1, vi x2, vi x3, vi x4, t5], [], h, kc, ks) Q := by
  refine w_ld rfl rfl (Or.inr (Or.inr ⟨by decide, y1⟩)) ?_
  subst e_q2
  refine w_getf rfl g4 n6 ?_
  refine w_ld rfl rfl (Or.inl ⟨by decide, rfl⟩) ?_
  refine w_ld rfl rfl (Or.inl ⟨by decide, rfl⟩) ?_
  subst e_q7
  refine w_iast rfl g9 (Nat.ble_eq_true_of_le c13) c12 c11 c10 ?_
  refine w_iinc (ls' := [.index q2, r1, vi x2, vi (x3 + 1), vi x4, t5]) rfl rfl 1 (by decide) rfl ?_
  exact k

theorem k139_55 {P : s_P} {d : Nat} {Q : s_O → Prop} {h : s_H} {kc ks : Nat} {r0 r1 : Term} {x2 x3 x4 : Int} {t5 : Term}  (k : wr P d sw_c139 sw_h139 (15, [r0, r1, vi x2, vi x3, vi (x4 + 1), t5], [], h, kc, ks) Q)   : wr P d sw_c139 sw_h139 (55, [r0, r1, vi x2, vi x3, vi x4, t5], [], h, kc, ks) Q := by
  refine w_iinc (ls' := [r0, r1, vi x2, vi x3, vi (x4 + 1), t5]) rfl rfl 1 (by decide) rfl ?_
  refine w_goto rfl ?_
  exact k

theorem k139_61 {P : s_P} {d : Nat} {Q : s_O → Prop} {h : s_H} {kc ks : Nat} {r0 r1 : Term} {x2 x3 x4 : Int} {t5 : Term}  (k : wr P d sw_c139 sw_h139 (64, [r0, r1, vi x2, vi x3, vi 1, t5], [], h, kc, ks) Q)   : wr P d sw_c139 sw_h139 (61, [r0, r1, vi x2, vi x3, vi x4, t5], [], h, kc, ks) Q := by
  refine w_c32 rfl (by decide) 1 (by decide) ?_
  refine w_st (ls' := [r0, r1, vi x2, vi x3, vi 1, t5]) rfl (Or.inl ⟨by decide, rfl⟩) rfl ?_
  exact k

theorem k139_64 {P : s_P} {d : Nat} {Q : s_O → Prop} {h : s_H} {kc ks : Nat} {r0 r1 : Term} {x2 x3 x4 : Int} {t5 : Term} {q2 : Nat} {f3 : List Term} {z5 : Int} (g4 : s_get h q2 = some (1, 8, f3)) (k1 : zi 27 1 z5 ≤ x4 → wr P d sw_c139 sw_h139 (133, [r0, .index q2, vi x2, vi x3, vi x4, t5], [], h, kc, ks) Q) (k2 : ¬ zi 27 1 z5 ≤ x4 → wr P d sw_c139 sw_h139 (75, [r0, .index q2, vi x2, vi x3, vi x4, t5], [], h, kc, ks) Q) (e_q2 : r1 = .index q2 := by first | rfl | assumption) (y1 : s_ty r1 = 3 := by first | rfl | assumption) (n6 : s_nth f3 4 = some (vi z5) := by first | rfl | assumption) (c7 : In3 x4 := by first | omega | assumption | (simp only [mk_len, List.length_map]; omega) | decide) (c8 : In3 (zi 27 1 z5) := by first | omega | assumption | (simp only [mk_len, List.length_map]; omega) | decide) : wr P d sw_c139 sw_h139 (64, [r0, r1, vi x2, vi x3, vi x4, t5], [], h, kc, ks) Q := by
  refine w_ld rfl rfl (Or.inl ⟨by decide, rfl⟩) ?_
  refine w_c32 rfl (by decide) 1 (by decide) ?_
  refine w_ld rfl rfl (Or.inr (Or.inr ⟨by decide, y1⟩)) ?_
  subst e_q2
  refine w_getf rfl g4 n6 ?_
  refine w_ib rfl (by decide) ?_
  exact w_if2 rfl c7 c8 k1 k2

theorem k139_75 {P : s_P} {d : Nat} {Q : s_O → Prop} {h : s_H} {kc ks : Nat} {r0 r1 : Term} {x2 x3 x4 : Int} {t5 : Term} {q2 : Nat} {f3 : List Term} {v5 : Term} {q7 : Nat} {a8 : List Term} {tg10 : Nat} (g4 : s_get h q2 = some (1, 2, f3)) (g9 : s_get h q7 = some (0, tg10, a8)) (k1 : (a8.length : Int) ≤ x4 → wr P d sw_c139 sw_h139 (133, [.index q2, r1, vi x2, vi x3, vi x4, t5], [], h, kc, ks) Q) (k2 : ¬ (a8.length : Int) ≤ x4 → wr P d sw_c139 sw_h139 (85, [.index q2, r1, vi x2, vi x3, vi x4, t5], [], h, kc, ks) Q) (e_q2 : r0 = .index q2 := by first | rfl | assumption) (e_q7 : v5 = .index q7 := by first | rfl | assumption) (y1 : s_ty r0 = 3 := by first | rfl | assumption) (n6 : s_nth f3 1 = some v5 := by first | rfl | assumption) (c11 : In3 x4 := by first | omega | assumption | (simp only [mk_len, List.length_map]; omega) | decide) (c12 : In3 (a8.length : Int) := by first | omega | assumption | (simp only [mk_len, List.length_map]; omega) | decide) : wr P d sw_c139 sw_h139 (75, [r0, r1, vi x2, vi x3, vi x4, t5], [], h, kc, ks) Q := by
  refine w_ld rfl rfl (Or.inl ⟨by decide, rfl⟩) ?_
  refine w_ld rfl rfl (Or.inr (Or.inr ⟨by decide, y1⟩)) ?_
  subst e_q2
  refine w_getf rfl g4 n6 ?_
  subst e_q7
  refine w_alen rfl g9 (Or.inl rfl) ?_
  exact w_if2 rfl c11 c12 k1 k2

theorem k139_85 {P : s_P} {d : Nat} {Q : s_O → Prop} {h : s_H} {kc ks : Nat} {r0 r1 : Term} {x2 x3 x4 : Int} {t5 : Term}  (k : wm P d 622 [vi x4] h (wq P d sw_c139 sw_h139 90 [r0, r1, vi x2, vi x3, vi x4, t5] [] kc ks Q))   : wr P d sw_c139 sw_h139 (85, [r0, r1, vi x2, vi x3, vi x4, t5], [], h, kc, ks) Q := by
  refine w_ld rfl rfl (Or.inl ⟨by decide, rfl⟩) ?_
  exact w_cs rfl [vi x4] [] rfl rfl (s_wt_4 rfl) k

theorem k139_90 {P : s_P} {d : Nat} {Q : s_O → Prop} {h : s_H} {kc ks : Nat} {r0 r1 : Term} {x2 x3 x4 : Int} {t5 : Term} {s0 : Int}  (k1 : x3 < s0 → wr P d sw_c139 sw_h139 (127, [r0, r1, vi x2, vi x3, vi x4, vi s0], [], h, kc, ks) Q) (k2 : ¬ x3 < s0 → wr P d sw_c139 sw_h139 (98, [r0, r1, vi x2, vi x3, vi x4, vi s0], [], h, kc, ks) Q)  (c1 : In3 s0 := by first | omega | assumption | (simp only [mk_len, List.length_map]; omega) | decide) (c2 : In3 x3 := by first | omega | assumption | (simp only [mk_len, List.length_map]; omega) | decide) : wr P d sw_c139 sw_h139 (90, [r0, r1, vi x2, vi x3, vi x4, t5], [vi s0], h, kc, ks) Q := by
  refine w_st (ls' := [r0, r1, vi x2, vi x3, vi x4, vi s0]) rfl (Or.inl ⟨by decide, rfl⟩) rfl ?_
  refine w_ld rfl rfl (Or.inl ⟨by decide, rfl⟩) ?_
  refine w_ld rfl rfl (Or.inl ⟨by decide, rfl⟩) ?_
  exact w_if2 rfl c1 c2 k1 k2

theorem k139_98 {P : s_P} {d : Nat} {Q : s_O → Prop} {h : s_H} {kc ks : Nat} {r0 r1 : Term} {x2 x3 x4 x5 : Int} {q3 : Nat} {f4 : List Term} {v6 : Term} {q8 : Nat} {a9 : List Int} (g5 : s_get h q3 = some (1, 2, f4)) (g10 : s_get h q8 = some (0, 0, a9.map vi)) (k1 : zi 24 x5 1 ≠ 1 → wr P d sw_c139 sw_h139 (123, [.index q3, r1, vi x2, vi x3, vi x4, vi x5], [vi x4, vi (gi a9 (x5 - 1)), r1, .index q3], h, kc, ks) Q) (k2 : ¬ zi 24 x5 1 ≠ 1 → wr P d sw_c139 sw_h139 (119, [.index q3, r1, vi x2, vi x3, vi x4, vi x5], [vi x4, vi (gi a9 (x5 - 1)), r1, .index q3], h, kc, ks) Q) (e_q3 : r0 = .index q3 := by first | rfl | assumption) (e_q8 : v6 = .index q8 := by first | rfl | assumption) (y1 : s_ty r0 = 3 := by first | rfl | assumption) (y2 : s_ty r1 = 3 := by first | rfl | assumption) (n7 : s_nth f4 3 = some v6 := by first | rfl | assumption) (c11 : x5 - 1 < a9.length := by first | omega | assumption | (simp only [mk_len, List.length_map]; omega) | decide) (c12 : 0 ≤ x5 - 1 := by first | omega | assumption | (simp only [mk_len, List.length_map]; omega) | decide) (c13 : In3 (x5 - 1) := by first | omega | assumption | (simp only [mk_len, List.length_map]; omega) | decide) (c14 : In3 (zi 24 x5 1) := by first | omega | assumption | (simp only [mk_len, List.length_map]; omega) | decide) : wr P d sw_c139 sw_h139 (98, [r0, r1, vi x2, vi x3, vi x4, vi x5], [], h, kc, ks) Q := by
  refine w_ld rfl rfl (Or.inr (Or.inr ⟨by decide, y1⟩)) ?_
  refine w_ld rfl rfl (Or.inr (Or.inr ⟨by decide, y2⟩)) ?_
  refine w_ld rfl rfl (Or.inr (Or.inr ⟨by decide, y1⟩)) ?_
  subst e_q3
  refine w_getf rfl g5 n7 ?_
  refine w_ld rfl rfl (Or.inl ⟨by decide, rfl⟩) ?_
  refine w_c32 rfl (by decide) 1 (by decide) ?_
  refine w_isub rfl ?_
  subst e_q8
  refine w_iald rfl g10 (Or.inl rfl) c13 c12 c11 ?_
  refine w_ld rfl rfl (Or.inl ⟨by decide, rfl⟩) ?_
  refine w_ld rfl rfl (Or.inl ⟨by decide, rfl⟩) ?_
  refine w_c32 rfl (by decide) 1 (by decide) ?_
  refine w_ib rfl (by decide) ?_
  refine w_c32 rfl (by decide) 1 (by decide) ?_
  exact w_if2 rfl c14 (by decide) k1 k2

theorem k139_119 {P : s_P} {d : Nat} {Q : s_O → Prop} {h : s_H} {kc ks : Nat} {r0 r1 : Term} {x2 x3 x4 x5 : Int} {s0 s1 : Term} {s2 s3 : Int}  (k : wr P d sw_c139 sw_h139 (124, [r0, r1, vi x2, vi x3, vi x4, vi x5], [vi 1, vi s3, vi s2, s1, s0], h, kc, ks) Q)   : wr P d sw_c139 sw_h139 (119, [r0, r1, vi x2, vi x3, vi x4, vi x5], [vi s3, vi s2, s1, s0], h, kc, ks) Q := by
  refine w_c32 rfl (by decide) 1 (by decide) ?_
  refine w_goto rfl ?_
  exact k

theorem k139_123 {P : s_P} {d : Nat} {Q : s_O → Prop} {h : s_H} {kc ks : Nat} {r0 r1 : Term} {x2 x3 x4 x5 : Int} {s0 s1 : Term} {s2 s3 : Int}  (k : wr P d sw_c139 sw_h139 (124, [r0, r1, vi x2, vi x3, vi x4, vi x5], [vi 0, vi s3, vi s2, s1, s0], h, kc, ks) Q)   : wr P d sw_c139 sw_h139 (123, [r0, r1, vi x2, vi x3, vi x4, vi x5], [vi s3, vi s2, s1, s0], h, kc, ks) Q := by
  refine w_c32 rfl (by decide) 0 (by decide) ?_
  exact k

theorem k139_124 {P : s_P} {d : Nat} {Q : s_O → Prop} {h : s_H} {kc ks : Nat} {r0 r1 : Term} {x2 x3 x4 x5 : Int} {s0 s1 : Term} {s2 s3 s4 : Int} {q1 : Nat} {f2 : List Term} (g3 : s_get h q1 = some (1, 2, f2)) (k : wm P d 138 [.index q1, s1, vi s2, vi s3, vi s4] h (wq P d sw_c139 sw_h139 127 [r0, r1, vi x2, vi x3, vi x4, vi x5] [] kc ks Q)) (e_q1 : s0 = .index q1 := by first | rfl | assumption)  : wr P d sw_c139 sw_h139 (124, [r0, r1, vi x2, vi x3, vi x4, vi x5], [vi s4, vi s3, vi s2, s1, s0], h, kc, ks) Q := by
  subst e_q1
  exact w_cv rfl [.index q1, s1, vi s2, vi s3, vi s4] [] rfl rfl (s_wt_4 rfl) rfl g3 k

theorem k139_127 {P : s_P} {d : Nat} {Q : s_O → Prop} {h : s_H} {kc ks : Nat} {r0 r1 : Term} {x2 x3 x4 x5 : Int}  (k : wr P d sw_c139 sw_h139 (64, [r0, r1, vi x2, vi x3, vi (x4 + 1), vi x5], [], h, kc, ks) Q)   : wr P d sw_c139 sw_h139 (127, [r0, r1, vi x2, vi x3, vi x4, vi x5], [], h, kc, ks) Q := by
  refine w_iinc (ls' := [r0, r1, vi x2, vi x3, vi (x4 + 1), vi x5]) rfl rfl 1 (by decide) rfl ?_
  refine w_goto rfl ?_
  exact k

theorem k139_133 {P : s_P} {d : Nat} {Q : s_O → Prop} {h : s_H} {kc ks : Nat} {r0 r1 : Term} {x2 x3 x4 : Int} {t5 : Term}  (k : Q (.inl none, h, kc, ks))   : wr P d sw_c139 sw_h139 (133, [r0, r1, vi x2, vi x3, vi x4, t5], [], h, kc, ks) Q := by
  exact w_ret rfl k

/-! 140: FormulaWorks$Minors.inserted(LFormulaWorks$Poly;LFormulaWorks$Thing;)LFormulaWorks$Thing; -/
theorem k140_0 {P : s_P} {d : Nat} {Q : s_O → Prop} {h : s_H} {kc ks : Nat} {r0 r1 r2 t3 t4 t5 t6 t7 t8 t9 t10 t11 t12 t13 : Term} {q2 : Nat} {f3 : List Term} {v5 : Term} {q7 : Nat} {f8 : List Term} (g4 : s_get h q2 = some (1, 2, f3)) (g9 : s_get h q7 = some (1, 0, f8)) (k : wm P d 110 [.index q7] h (wq P d sw_c140 sw_h140 7 [.index q2, r1, r2, t3, t4, t5, t6, t7, t8, t9, t10, t11, t12, t13] [] kc ks Q)) (e_q2 : r0 = .index q2 := by first | rfl | assumption) (e_q7 : v5 = .index q7 := by first | rfl | assumption) (y1 : s_ty r0 = 3 := by first | rfl | assumption) (n6 : s_nth f3 0 = some v5 := by first | rfl | assumption)  : wr P d sw_c140 sw_h140 (0, [r0, r1, r2, t3, t4, t5, t6, t7, t8, t9, t10, t11, t12, t13], [], h, kc, ks) Q := by
  refine w_ld rfl rfl (Or.inr (Or.inr ⟨by decide, y1⟩)) ?_
  subst e_q2
  refine w_getf rfl g4 n6 ?_
  subst e_q7
  exact w_cv rfl [.index q7] [] rfl rfl (s_wt_4 rfl) rfl g9 k

theorem k140_7 {P : s_P} {d : Nat} {Q : s_O → Prop} {h : s_H} {kc ks : Nat} {r0 r1 r2 t3 t4 t5 t6 t7 t8 t9 t10 t11 t12 t13 : Term} {s0 : Int} {q3 : Nat} {f4 : List Term} {v6 : Term} {q8 : Nat} {f9 : List Term} (g5 : s_get h q3 = some (1, 2, f4)) (g10 : s_get h q8 = some (1, 0, f9)) (k : wm P d 109 [.index q8] h (wq P d sw_c140 sw_h140 15 [.index q3, r1, r2, vi s0, t4, t5, t6, t7, t8, t9, t10, t11, t12, t13] [] kc ks Q)) (e_q3 : r0 = .index q3 := by first | rfl | assumption) (e_q8 : v6 = .index q8 := by first | rfl | assumption) (y1 : s_ty r2 = 3 := by first | rfl | assumption) (y2 : s_ty r0 = 3 := by first | rfl | assumption) (n7 : s_nth f4 0 = some v6 := by first | rfl | assumption)  : wr P d sw_c140 sw_h140 (7, [r0, r1, r2, t3, t4, t5, t6, t7, t8, t9, t10, t11, t12, t13], [vi s0], h, kc, ks) Q := by
  refine w_st (ls' := [r0, r1, r2, vi s0, t4, t5, t6, t7, t8, t9, t10, t11, t12, t13]) rfl (Or.inl ⟨by decide, rfl⟩) (s_stK_r (pre := [r0, r1]) y1) ?_
  refine w_ld rfl rfl (Or.inr (Or.inr ⟨by decide, y2⟩)) ?_
  subst e_q3
  refine w_getf rfl g5 n7 ?_
  subst e_q8
  exact w_cv rfl [.index q8] [] rfl rfl (s_wt_4 rfl) rfl g10 k

-- multi at 15
theorem k140_45 {P : s_P} {d : Nat} {Q : s_O → Prop} {h : s_H} {kc ks : Nat} {r0 r1 r2 : Term} {x3 : Int} {r4 : Term} {x5 : Int} {r6 r7 : Term} {x8 : Int} {t9 t10 t11 t12 t13 : Term}  (k1 : x8 < 0 → wr P d sw_c140 sw_h140 (177, [r0, r1, r2, vi x3, r4, vi x5, r6, r7, vi x8, t9, t10, t11, t12, t13], [], h, kc, ks) Q) (k2 : ¬ x8 < 0 → wr P d sw_c140 sw_h140 (50, [r0, r1, r2, vi x3, r4, vi x5, r6, r7, vi x8, t9, t10, t11, t12, t13], [], h, kc, ks) Q)  (c1 : In3 x8 := by first | omega | assumption | (simp only [mk_len, List.length_map]; omega) | decide) : wr P d sw_c140 sw_h140 (45, [r0, r1, r2, vi x3, r4, vi x5, r6, r7, vi x8, t9, t10, t11, t12, t13], [], h, kc, ks) Q := by
  refine w_ld rfl rfl (Or.inl ⟨by decide, rfl⟩) ?_
  exact w_if1 rfl c1 k1 k2

theorem k140_50 {P : s_P} {d : Nat} {Q : s_O → Prop} {h : s_H} {kc ks : Nat} {r0 r1 r2 : Term} {x3 : Int} {r4 : Term} {x5 : Int} {r6 r7 : Term} {x8 : Int} {t9 t10 t11 t12 t13 : Term}  (k : wr P d sw_c140 sw_h140 (53, [r0, r1, r2, vi x3, r4, vi x5, r6, r7, vi x8, vi 0, t10, t11, t12, t13], [], h, kc, ks) Q)   : wr P d sw_c140 sw_h140 (50, [r0, r1, r2, vi x3, r4, vi x5, r6, r7, vi x8, t9, t10, t11, t12, t13], [], h, kc, ks) Q := by
  refine w_c32 rfl (by decide) 0 (by decide) ?_
  refine w_st (ls' := [r0, r1, r2, vi x3, r4, vi x5, r6, r7, vi x8, vi 0, t10, t11, t12, t13]) rfl (Or.inl ⟨by decide, rfl⟩) rfl ?_
  exact k

theorem k140_53 {P : s_P} {d : Nat} {Q : s_O → Prop} {h : s_H} {kc ks : Nat} {r0 r1 r2 : Term} {x3 : Int} {r4 : Term} {x5 : Int} {r6 r7 : Term} {x8 x9 : Int} {t10 t11 t12 t13 : Term}  (k1 : x5 ≤ x9 → wr P d sw_c140 sw_h140 (171, [r0, r1, r2, vi x3, r4, vi x5, r6, r7, vi x8, vi x9, t10, t11, t12, t13], [], h, kc, ks) Q) (k2 : ¬ x5 ≤ x9 → wr P d sw_c140 sw_h140 (60, [r0, r1, r2, vi x3, r4, vi x5, r6, r7, vi x8, vi x9, t10, t11, t12, t13], [], h, kc, ks) Q)  (c1 : In3 x9 := by first | omega | assumption | (simp only [mk_len, List.length_map]; omega) | decide) (c2 : In3 x5 := by first | omega | assumption | (simp only [mk_len, List.length_map]; omega) | decide) : wr P d sw_c140 sw_h140 (53, [r0, r1, r2, vi x3, r4, vi x5, r6, r7, vi x8, vi x9, t10, t11, t12, t13], [], h, kc, ks) Q := by
  refine w_ld rfl rfl (Or.inl ⟨by decide, rfl⟩) ?_
  refine w_ld rfl rfl (Or.inl ⟨by decide, rfl⟩) ?_
  exact w_if2 rfl c1 c2 k1 k2

-- native at 60
theorem k140_74 {P : s_P} {d : Nat} {Q : s_O → Prop} {h : s_H} {kc ks : Nat} {r0 r1 r2 : Term} {x3 : Int} {r4 : Term} {x5 : Int} {r6 r7 : Term} {x8 x9 : Int} {t10 t11 t12 t13 : Term}  (k : wr P d sw_c140 sw_h140 (77, [r0, r1, r2, vi x3, r4, vi x5, r6, r7, vi x8, vi x9, vi 0, t11, t12, t13], [], h, kc, ks) Q)   : wr P d sw_c140 sw_h140 (74, [r0, r1, r2, vi x3, r4, vi x5, r6, r7, vi x8, vi x9, t10, t11, t12, t13], [], h, kc, ks) Q := by
  refine w_c32 rfl (by decide) 0 (by decide) ?_
  refine w_st (ls' := [r0, r1, r2, vi x3, r4, vi x5, r6, r7, vi x8, vi x9, vi 0, t11, t12, t13]) rfl (Or.inl ⟨by decide, rfl⟩) rfl ?_
  exact k

theorem k140_77 {P : s_P} {d : Nat} {Q : s_O → Prop} {h : s_H} {kc ks : Nat} {r0 r1 r2 : Term} {x3 : Int} {r4 : Term} {x5 : Int} {r6 r7 : Term} {x8 x9 x10 : Int} {t11 t12 t13 : Term}  (k1 : x5 ≤ x10 → wr P d sw_c140 sw_h140 (165, [r0, r1, r2, vi x3, r4, vi x5, r6, r7, vi x8, vi x9, vi x10, t11, t12, t13], [], h, kc, ks) Q) (k2 : ¬ x5 ≤ x10 → wr P d sw_c140 sw_h140 (84, [r0, r1, r2, vi x3, r4, vi x5, r6, r7, vi x8, vi x9, vi x10, t11, t12, t13], [], h, kc, ks) Q)  (c1 : In3 x10 := by first | omega | assumption | (simp only [mk_len, List.length_map]; omega) | decide) (c2 : In3 x5 := by first | omega | assumption | (simp only [mk_len, List.length_map]; omega) | decide) : wr P d sw_c140 sw_h140 (77, [r0, r1, r2, vi x3, r4, vi x5, r6, r7, vi x8, vi x9, vi x10, t11, t12, t13], [], h, kc, ks) Q := by
  refine w_ld rfl rfl (Or.inl ⟨by decide, rfl⟩) ?_
  refine w_ld rfl rfl (Or.inl ⟨by decide, rfl⟩) ?_
  exact w_if2 rfl c1 c2 k1 k2

theorem k140_84 {P : s_P} {d : Nat} {Q : s_O → Prop} {h : s_H} {kc ks : Nat} {r0 r1 r2 : Term} {x3 : Int} {r4 : Term} {x5 : Int} {r6 r7 : Term} {x8 x9 x10 : Int} {t11 t12 t13 : Term}  (k1 : x9 ≠ x10 → wr P d sw_c140 sw_h140 (101, [r0, r1, r2, vi x3, r4, vi x5, r6, r7, vi x8, vi x9, vi x10, t11, t12, t13], [], h, kc, ks) Q) (k2 : ¬ x9 ≠ x10 → wr P d sw_c140 sw_h140 (91, [r0, r1, r2, vi x3, r4, vi x5, r6, r7, vi x8, vi x9, vi x10, t11, t12, t13], [], h, kc, ks) Q)  (c1 : In3 x9 := by first | omega | assumption | (simp only [mk_len, List.length_map]; omega) | decide) (c2 : In3 x10 := by first | omega | assumption | (simp only [mk_len, List.length_map]; omega) | decide) : wr P d sw_c140 sw_h140 (84, [r0, r1, r2, vi x3, r4, vi x5, r6, r7, vi x8, vi x9, vi x10, t11, t12, t13], [], h, kc, ks) Q := by
  refine w_ld rfl rfl (Or.inl ⟨by decide, rfl⟩) ?_
  refine w_ld rfl rfl (Or.inl ⟨by decide, rfl⟩) ?_
  exact w_if2 rfl c1 c2 k1 k2

theorem k140_91 {P : s_P} {d : Nat} {Q : s_O → Prop} {h : s_H} {kc ks : Nat} {r0 r1 r2 : Term} {x3 : Int} {r4 : Term} {x5 : Int} {r6 r7 : Term} {x8 x9 x10 : Int} {t11 t12 t13 : Term} {q2 : Nat} {f3 : List Term} (g4 : s_get h q2 = some (1, 4, f3)) (k : wm P d 167 [.index q2, vi x8] h (wq P d sw_c140 sw_h140 97 [r0, .index q2, r2, vi x3, r4, vi x5, r6, r7, vi x8, vi x9, vi x10, t11, t12, t13] [] kc ks Q)) (e_q2 : r1 = .index q2 := by first | rfl | assumption) (y1 : s_ty r1 = 3 := by first | rfl | assumption)  : wr P d sw_c140 sw_h140 (91, [r0, r1, r2, vi x3, r4, vi x5, r6, r7, vi x8, vi x9, vi x10, t11, t12, t13], [], h, kc, ks) Q := by
  refine w_ld rfl rfl (Or.inr (Or.inr ⟨by decide, y1⟩)) ?_
  refine w_ld rfl rfl (Or.inl ⟨by decide, rfl⟩) ?_
  subst e_q2
  exact w_cv rfl [.index q2, vi x8] [] rfl rfl (s_wt_4 rfl) rfl g4 k

theorem k140_97 {P : s_P} {d : Nat} {Q : s_O → Prop} {h : s_H} {kc ks : Nat} {r0 r1 r2 : Term} {x3 : Int} {r4 : Term} {x5 : Int} {r6 r7 : Term} {x8 x9 x10 : Int} {t11 t12 t13 : Term} {s0 : Int}  (k : wr P d sw_c140 sw_h140 (102, [r0, r1, r2, vi x3, r4, vi x5, r6, r7, vi x8, vi x9, vi x10, t11, t12, t13], [vl s0], h, kc, ks) Q)  (c1 : In3 s0 := by first | omega | assumption | (simp only [mk_len, List.length_map]; omega) | decide) : wr P d sw_c140 sw_h140 (97, [r0, r1, r2, vi x3, r4, vi x5, r6, r7, vi x8, vi x9, vi x10, t11, t12, t13], [vi s0], h, kc, ks) Q := by
  refine w_i2l rfl c1 ?_
  refine w_goto rfl ?_
  exact k

theorem k140_101 {P : s_P} {d : Nat} {Q : s_O → Prop} {h : s_H} {kc ks : Nat} {r0 r1 r2 : Term} {x3 : Int} {r4 : Term} {x5 : Int} {r6 r7 : Term} {x8 x9 x10 : Int} {t11 t12 t13 : Term}  (k : wr P d sw_c140 sw_h140 (102, [r0, r1, r2, vi x3, r4, vi x5, r6, r7, vi x8, vi x9, vi x10, t11, t12, t13], [vl 0], h, kc, ks) Q)   : wr P d sw_c140 sw_h140 (101, [r0, r1, r2, vi x3, r4, vi x5, r6, r7, vi x8, vi x9, vi x10, t11, t12, t13], [], h, kc, ks) Q := by
  refine w_c64 rfl (by decide) 0 (by decide) ?_
  exact k

theorem k140_102 {P : s_P} {d : Nat} {Q : s_O → Prop} {h : s_H} {kc ks : Nat} {r0 r1 r2 : Term} {x3 : Int} {r4 : Term} {x5 : Int} {r6 r7 : Term} {x8 x9 x10 : Int} {t11 t12 t13 : Term} {s0 : Int}  (k : wr P d sw_c140 sw_h140 (107, [r0, r1, r2, vi x3, r4, vi x5, r6, r7, vi x8, vi x9, vi x10, vl s0, .result, vi 0], [], h, kc, ks) Q)   : wr P d sw_c140 sw_h140 (102, [r0, r1, r2, vi x3, r4, vi x5, r6, r7, vi x8, vi x9, vi x10, t11, t12, t13], [vl s0], h, kc, ks) Q := by
  refine w_stl (ls' := [r0, r1, r2, vi x3, r4, vi x5, r6, r7, vi x8, vi x9, vi x10, vl s0, t12, t13]) (ls'' := [r0, r1, r2, vi x3, r4, vi x5, r6, r7, vi x8, vi x9, vi x10, vl s0, .result, t13]) rfl ⟨by decide, rfl⟩ rfl rfl ?_
  refine w_c32 rfl (by decide) 0 (by decide) ?_
  refine w_st (ls' := [r0, r1, r2, vi x3, r4, vi x5, r6, r7, vi x8, vi x9, vi x10, vl s0, .result, vi 0]) rfl (Or.inl ⟨by decide, rfl⟩) rfl ?_
  exact k

theorem k140_107 {P : s_P} {d : Nat} {Q : s_O → Prop} {h : s_H} {kc ks : Nat} {r0 r1 r2 : Term} {x3 : Int} {r4 : Term} {x5 : Int} {r6 r7 : Term} {x8 x9 x10 x11 : Int} {t12 : Term} {x13 : Int}  (k1 : x5 ≤ x13 → wr P d sw_c140 sw_h140 (144, [r0, r1, r2, vi x3, r4, vi x5, r6, r7, vi x8, vi x9, vi x10, vl x11, t12, vi x13], [], h, kc, ks) Q) (k2 : ¬ x5 ≤ x13 → wr P d sw_c140 sw_h140 (114, [r0, r1, r2, vi x3, r4, vi x5, r6, r7, vi x8, vi x9, vi x10, vl x11, t12, vi x13], [], h, kc, ks) Q)  (c1 : In3 x13 := by first | omega | assumption | (simp only [mk_len, List.length_map]; omega) | decide) (c2 : In3 x5 := by first | omega | assumption | (simp only [mk_len, List.length_map]; omega) | decide) : wr P d sw_c140 sw_h140 (107, [r0, r1, r2, vi x3, r4, vi x5, r6, r7, vi x8, vi x9, vi x10, vl x11, t12, vi x13], [], h, kc, ks) Q := by
  refine w_ld rfl rfl (Or.inl ⟨by decide, rfl⟩) ?_
  refine w_ld rfl rfl (Or.inl ⟨by decide, rfl⟩) ?_
  exact w_if2 rfl c1 c2 k1 k2

theorem k140_114 {P : s_P} {d : Nat} {Q : s_O → Prop} {h : s_H} {kc ks : Nat} {r0 r1 r2 : Term} {x3 : Int} {r4 : Term} {x5 : Int} {r6 r7 : Term} {x8 x9 x10 x11 : Int} {t12 : Term} {x13 : Int} {q2 : Nat} {a3 : List Int} {q9 : Nat} {f10 : List Term} (g4 : s_get h q2 = some (0, 0, a3.map vi)) (g11 : s_get h q9 = some (1, 8, f10)) (k : wm P d 265 [.index q9, vi x13, vi x10] h (wq P d sw_c140 sw_h140 129 [r0, r1, .index q9, vi x3, r4, vi x5, r6, .index q2, vi x8, vi x9, vi x10, vl x11, t12, vi x13] [vi (gi a3 x13), vl x11] kc ks Q)) (e_q2 : r7 = .index q2 := by first | rfl | assumption) (e_q9 : r2 = .index q9 := by first | rfl | assumption) (y1 : s_ty r7 = 3 := by first | rfl | assumption) (y8 : s_ty r2 = 3 := by first | rfl | assumption) (c5 : x13 < a3.length := by first | omega | assumption | (simp only [mk_len, List.length_map]; omega) | decide) (c6 : 0 ≤ x13 := by first | omega | assumption | (simp only [mk_len, List.length_map]; omega) | decide) (c7 : In3 x13 := by first | omega | assumption | (simp only [mk_len, List.length_map]; omega) | decide) : wr P d sw_c140 sw_h140 (114, [r0, r1, r2, vi x3, r4, vi x5, r6, r7, vi x8, vi x9, vi x10, vl x11, t12, vi x13], [], h, kc, ks) Q := by
  refine w_ld rfl rfl (Or.inr (Or.inl ⟨by decide, rfl⟩)) ?_
  refine w_ld rfl rfl (Or.inr (Or.inr ⟨by decide, y1⟩)) ?_
  refine w_ld rfl rfl (Or.inl ⟨by decide, rfl⟩) ?_
  subst e_q2
  refine w_iald rfl g4 (Or.inl rfl) c7 c6 c5 ?_
  refine w_ld rfl rfl (Or.inr (Or.inr ⟨by decide, y8⟩)) ?_
  refine w_ld rfl rfl (Or.inl ⟨by decide, rfl⟩) ?_
  refine w_ld rfl rfl (Or.inl ⟨by decide, rfl⟩) ?_
  subst e_q9
  exact w_cv rfl [.index q9, vi x13, vi x10] [vi (gi a3 x13), vl x11] rfl rfl (s_wt_4 rfl) rfl g11 k

theorem k140_129 {P : s_P} {d : Nat} {Q : s_O → Prop} {h : s_H} {kc ks : Nat} {r0 r1 r2 : Term} {x3 : Int} {r4 : Term} {x5 : Int} {r6 r7 : Term} {x8 x9 x10 x11 : Int} {t12 : Term} {x13 s0 s1 : Int} {s2 : Term} {q1 : Nat} {f2 : List Term} (g3 : s_get h q1 = some (1, 4, f2)) (k : wm P d 167 [.index q1, vi 0] h (wq P d sw_c140 sw_h140 133 [r0, r1, r2, vi x3, r4, vi x5, r6, r7, vi x8, vi x9, vi x10, vl x11, t12, vi x13] [vi s1, vl s0] kc ks Q)) (e_q1 : s2 = .index q1 := by first | rfl | assumption)  : wr P d sw_c140 sw_h140 (129, [r0, r1, r2, vi x3, r4, vi x5, r6, r7, vi x8, vi x9, vi x10, vl x11, t12, vi x13], [s2, vi s1, vl s0], h, kc, ks) Q := by
  refine w_c32 rfl (by decide) 0 (by decide) ?_
  subst e_q1
  exact w_cv rfl [.index q1, vi 0] [vi s1, vl s0] rfl rfl (s_wt_4 rfl) rfl g3 k

theorem k140_133 {P : s_P} {d : Nat} {Q : s_O → Prop} {h : s_H} {kc ks : Nat} {r0 r1 r2 : Term} {x3 : Int} {r4 : Term} {x5 : Int} {r6 r7 : Term} {x8 x9 x10 x11 : Int} {t12 : Term} {x13 s0 s1 s2 : Int}  (k : wr P d sw_c140 sw_h140 (107, [r0, r1, r2, vi x3, r4, vi x5, r6, r7, vi x8, vi x9, vi x10, vl (s0 + (s1 * s2)), .result, vi (x13 + 1)], [], h, kc, ks) Q)  (c1 : In3 (s1 * s2) := by first | omega | assumption | (simp only [mk_len, List.length_map]; omega) | decide) : wr P d sw_c140 sw_h140 (133, [r0, r1, r2, vi x3, r4, vi x5, r6, r7, vi x8, vi x9, vi x10, vl x11, t12, vi x13], [vi s2, vi s1, vl s0], h, kc, ks) Q := by
  refine w_imul rfl ?_
  refine w_i2l rfl c1 ?_
  refine w_ladd rfl ?_
  refine w_stl (ls' := [r0, r1, r2, vi x3, r4, vi x5, r6, r7, vi x8, vi x9, vi x10, vl (s0 + (s1 * s2)), t12, vi x13]) (ls'' := [r0, r1, r2, vi x3, r4, vi x5, r6, r7, vi x8, vi x9, vi x10, vl (s0 + (s1 * s2)), .result, vi x13]) rfl ⟨by decide, rfl⟩ rfl rfl ?_
  refine w_iinc (ls' := [r0, r1, r2, vi x3, r4, vi x5, r6, r7, vi x8, vi x9, vi x10, vl (s0 + (s1 * s2)), .result, vi (x13 + 1)]) rfl rfl 1 (by decide) rfl ?_
  refine w_goto rfl ?_
  exact k

theorem k140_144 {P : s_P} {d : Nat} {Q : s_O → Prop} {h : s_H} {kc ks : Nat} {r0 r1 r2 : Term} {x3 : Int} {r4 : Term} {x5 : Int} {r6 r7 : Term} {x8 x9 x10 x11 : Int} {t12 : Term} {x13 : Int} {q2 : Nat} {a3 : List Term} {tg5 : Nat} {v6 : Term} {q12 : Nat} {a13 : List Int} (g4 : s_get h q2 = some (0, tg5, a3)) (g14 : s_get h q12 = some (0, 0, a13.map vi)) (k : wr P d sw_c140 sw_h140 (77, [r0, r1, r2, vi x3, r4, vi x5, .index q2, r7, vi x8, vi x9, vi (x10 + 1), vl x11, t12, vi x13], [], (hp h q12 (0, 0, (a13.set (Int.toNat (x10)) (Int.tmod x11 32003)).map vi)), kc, ks) Q) (e_q2 : r6 = .index q2 := by first | rfl | assumption) (e_q12 : v6 = .index q12 := by first | rfl | assumption) (y1 : s_ty r6 = 3 := by first | rfl | assumption) (n7 : s_nth a3 (Int.toNat (x9)) = some v6 := by first | rfl | assumption) (u8 : tg5 = 2 ∨ tg5 = 3 ∨ tg5 = 4 := by first | decide | assumption) (c9 : In3 x9 := by first | omega | assumption | (simp only [mk_len, List.length_map]; omega) | decide) (c10 : 0 ≤ x9 := by first | omega | assumption | (simp only [mk_len, List.length_map]; omega) | decide) (c11 : In6 x11 := by first | omega | assumption | (simp only [mk_len, List.length_map]; omega) | decide) (c15 : x10 < a13.length := by first | omega | assumption | (simp only [mk_len, List.length_map]; omega) | decide) (c16 : 0 ≤ x10 := by first | omega | assumption | (simp only [mk_len, List.length_map]; omega) | decide) (c17 : In3 x10 := by first | omega | assumption | (simp only [mk_len, List.length_map]; omega) | decide) (c18 : 0 < q12 := by first | omega | assumption | (simp only [mk_len, List.length_map]; omega) | decide) : wr P d sw_c140 sw_h140 (144, [r0, r1, r2, vi x3, r4, vi x5, r6, r7, vi x8, vi x9, vi x10, vl x11, t12, vi x13], [], h, kc, ks) Q := by
  refine w_ld rfl rfl (Or.inr (Or.inr ⟨by decide, y1⟩)) ?_
  refine w_ld rfl rfl (Or.inl ⟨by decide, rfl⟩) ?_
  subst e_q2
  refine w_aald rfl g4 u8 c9 c10 n7 ?_
  refine w_ld rfl rfl (Or.inl ⟨by decide, rfl⟩) ?_
  refine w_ld rfl rfl (Or.inr (Or.inl ⟨by decide, rfl⟩)) ?_
  refine w_c64 rfl (by decide) 32003 (by decide) ?_
  refine w_lrem rfl c11 (by decide) (by decide) ?_
  refine w_l2i rfl ?_
  subst e_q12
  refine w_iast rfl g14 (Nat.ble_eq_true_of_le c18) c17 c16 c15 ?_
  refine w_iinc (ls' := [r0, r1, r2, vi x3, r4, vi x5, .index q2, r7, vi x8, vi x9, vi (x10 + 1), vl x11, t12, vi x13]) rfl rfl 1 (by decide) rfl ?_
  refine w_goto rfl ?_
  exact k

theorem k140_165 {P : s_P} {d : Nat} {Q : s_O → Prop} {h : s_H} {kc ks : Nat} {r0 r1 r2 : Term} {x3 : Int} {r4 : Term} {x5 : Int} {r6 r7 : Term} {x8 x9 x10 : Int} {t11 t12 t13 : Term}  (k : wr P d sw_c140 sw_h140 (53, [r0, r1, r2, vi x3, r4, vi x5, r6, r7, vi x8, vi (x9 + 1), vi x10, t11, t12, t13], [], h, kc, ks) Q)   : wr P d sw_c140 sw_h140 (165, [r0, r1, r2, vi x3, r4, vi x5, r6, r7, vi x8, vi x9, vi x10, t11, t12, t13], [], h, kc, ks) Q := by
  refine w_iinc (ls' := [r0, r1, r2, vi x3, r4, vi x5, r6, r7, vi x8, vi (x9 + 1), vi x10, t11, t12, t13]) rfl rfl 1 (by decide) rfl ?_
  refine w_goto rfl ?_
  exact k

theorem k140_171 {P : s_P} {d : Nat} {Q : s_O → Prop} {h : s_H} {kc ks : Nat} {r0 r1 r2 : Term} {x3 : Int} {r4 : Term} {x5 : Int} {r6 r7 : Term} {x8 x9 : Int} {t10 t11 t12 t13 : Term}  (k : wr P d sw_c140 sw_h140 (45, [r0, r1, r2, vi x3, r4, vi x5, r6, r7, vi (x8 + (-1)), vi x9, t10, t11, t12, t13], [], h, kc, ks) Q) (y1 : s_ty r7 = 3 := by first | rfl | assumption)  : wr P d sw_c140 sw_h140 (171, [r0, r1, r2, vi x3, r4, vi x5, r6, r7, vi x8, vi x9, t10, t11, t12, t13], [], h, kc, ks) Q := by
  refine w_iinc (ls' := [r0, r1, r2, vi x3, r4, vi x5, r6, r7, vi (x8 + (-1)), vi x9, t10, t11, t12, t13]) rfl rfl (-1) (by decide) (s_stK_r (pre := [r0, r1, r2, vi x3, r4, vi x5, r6]) y1) ?_
  refine w_goto rfl ?_
  exact k

theorem k140_177 {P : s_P} {d : Nat} {Q : s_O → Prop} {h : s_H} {kc ks : Nat} {r0 r1 r2 : Term} {x3 : Int} {r4 : Term} {x5 : Int} {r6 r7 : Term} {x8 : Int} {t9 t10 t11 t12 t13 : Term} {q2 : Nat} {f3 : List Term} (g4 : s_get h q2 = some (1, 2, f3)) (k : wm P d 137 [.index q2, vi x5, vi x5] h (wq P d sw_c140 sw_h140 185 [.index q2, r1, r2, vi x3, r4, vi x5, r6, r7, vi x8, t9, t10, t11, t12, t13] [] kc ks Q)) (e_q2 : r0 = .index q2 := by first | rfl | assumption) (y1 : s_ty r0 = 3 := by first | rfl | assumption)  : wr P d sw_c140 sw_h140 (177, [r0, r1, r2, vi x3, r4, vi x5, r6, r7, vi x8, t9, t10, t11, t12, t13], [], h, kc, ks) Q := by
  refine w_ld rfl rfl (Or.inr (Or.inr ⟨by decide, y1⟩)) ?_
  refine w_ld rfl rfl (Or.inl ⟨by decide, rfl⟩) ?_
  refine w_ld rfl rfl (Or.inl ⟨by decide, rfl⟩) ?_
  subst e_q2
  exact w_cv rfl [.index q2, vi x5, vi x5] [] rfl rfl (s_wt_4 rfl) rfl g4 k

theorem k140_185 {P : s_P} {d : Nat} {Q : s_O → Prop} {h : s_H} {kc ks : Nat} {r0 r1 r2 : Term} {x3 : Int} {r4 : Term} {x5 : Int} {r6 r7 : Term} {x8 : Int} {t9 t10 t11 t12 t13 s0 : Term}  (k : wr P d sw_c140 sw_h140 (190, [r0, r1, r2, vi x3, r4, vi x5, r6, r7, s0, vi 0, t10, t11, t12, t13], [], h, kc, ks) Q) (y1 : s_ty r7 = 3 := by first | rfl | assumption) (y2 : s_ty s0 = 3 := by first | rfl | assumption)  : wr P d sw_c140 sw_h140 (185, [r0, r1, r2, vi x3, r4, vi x5, r6, r7, vi x8, t9, t10, t11, t12, t13], [s0], h, kc, ks) Q := by
  refine w_st (ls' := [r0, r1, r2, vi x3, r4, vi x5, r6, r7, s0, t9, t10, t11, t12, t13]) rfl (Or.inr ⟨by decide, y2⟩) (s_stK_r (pre := [r0, r1, r2, vi x3, r4, vi x5, r6]) y1) ?_
  refine w_c32 rfl (by decide) 0 (by decide) ?_
  refine w_st (ls' := [r0, r1, r2, vi x3, r4, vi x5, r6, r7, s0, vi 0, t10, t11, t12, t13]) rfl (Or.inl ⟨by decide, rfl⟩) (s_stK_r (pre := [r0, r1, r2, vi x3, r4, vi x5, r6, r7]) y2) ?_
  exact k

theorem k140_190 {P : s_P} {d : Nat} {Q : s_O → Prop} {h : s_H} {kc ks : Nat} {r0 r1 r2 : Term} {x3 : Int} {r4 : Term} {x5 : Int} {r6 r7 r8 : Term} {x9 : Int} {t10 t11 t12 t13 : Term}  (k1 : x5 ≤ x9 → wr P d sw_c140 sw_h140 (246, [r0, r1, r2, vi x3, r4, vi x5, r6, r7, r8, vi x9, t10, t11, t12, t13], [], h, kc, ks) Q) (k2 : ¬ x5 ≤ x9 → wr P d sw_c140 sw_h140 (197, [r0, r1, r2, vi x3, r4, vi x5, r6, r7, r8, vi x9, t10, t11, t12, t13], [], h, kc, ks) Q)  (c1 : In3 x9 := by first | omega | assumption | (simp only [mk_len, List.length_map]; omega) | decide) (c2 : In3 x5 := by first | omega | assumption | (simp only [mk_len, List.length_map]; omega) | decide) : wr P d sw_c140 sw_h140 (190, [r0, r1, r2, vi x3, r4, vi x5, r6, r7, r8, vi x9, t10, t11, t12, t13], [], h, kc, ks) Q := by
  refine w_ld rfl rfl (Or.inl ⟨by decide, rfl⟩) ?_
  refine w_ld rfl rfl (Or.inl ⟨by decide, rfl⟩) ?_
  exact w_if2 rfl c1 c2 k1 k2

theorem k140_197 {P : s_P} {d : Nat} {Q : s_O → Prop} {h : s_H} {kc ks : Nat} {r0 r1 r2 : Term} {x3 : Int} {r4 : Term} {x5 : Int} {r6 r7 r8 : Term} {x9 : Int} {t10 t11 t12 t13 : Term}  (k : wr P d sw_c140 sw_h140 (200, [r0, r1, r2, vi x3, r4, vi x5, r6, r7, r8, vi x9, vi 0, t11, t12, t13], [], h, kc, ks) Q)   : wr P d sw_c140 sw_h140 (197, [r0, r1, r2, vi x3, r4, vi x5, r6, r7, r8, vi x9, t10, t11, t12, t13], [], h, kc, ks) Q := by
  refine w_c32 rfl (by decide) 0 (by decide) ?_
  refine w_st (ls' := [r0, r1, r2, vi x3, r4, vi x5, r6, r7, r8, vi x9, vi 0, t11, t12, t13]) rfl (Or.inl ⟨by decide, rfl⟩) rfl ?_
  exact k

theorem k140_200 {P : s_P} {d : Nat} {Q : s_O → Prop} {h : s_H} {kc ks : Nat} {r0 r1 r2 : Term} {x3 : Int} {r4 : Term} {x5 : Int} {r6 r7 r8 : Term} {x9 x10 : Int} {t11 t12 t13 : Term}  (k1 : x5 ≤ x10 → wr P d sw_c140 sw_h140 (240, [r0, r1, r2, vi x3, r4, vi x5, r6, r7, r8, vi x9, vi x10, t11, t12, t13], [], h, kc, ks) Q) (k2 : ¬ x5 ≤ x10 → wr P d sw_c140 sw_h140 (207, [r0, r1, r2, vi x3, r4, vi x5, r6, r7, r8, vi x9, vi x10, t11, t12, t13], [], h, kc, ks) Q)  (c1 : In3 x10 := by first | omega | assumption | (simp only [mk_len, List.length_map]; omega) | decide) (c2 : In3 x5 := by first | omega | assumption | (simp only [mk_len, List.length_map]; omega) | decide) : wr P d sw_c140 sw_h140 (200, [r0, r1, r2, vi x3, r4, vi x5, r6, r7, r8, vi x9, vi x10, t11, t12, t13], [], h, kc, ks) Q := by
  refine w_ld rfl rfl (Or.inl ⟨by decide, rfl⟩) ?_
  refine w_ld rfl rfl (Or.inl ⟨by decide, rfl⟩) ?_
  exact w_if2 rfl c1 c2 k1 k2

theorem k140_207 {P : s_P} {d : Nat} {Q : s_O → Prop} {h : s_H} {kc ks : Nat} {r0 r1 r2 : Term} {x3 : Int} {r4 : Term} {x5 : Int} {r6 r7 r8 : Term} {x9 x10 : Int} {t11 t12 t13 : Term} {q3 : Nat} {a4 : List Term} {tg6 : Nat} {v7 : Term} {q12 : Nat} {a13 : List Int} {q18 : Nat} {f19 : List Term} (g5 : s_get h q3 = some (0, tg6, a4)) (g14 : s_get h q12 = some (0, 0, a13.map vi)) (g20 : s_get h q18 = some (1, 4, f19)) (k : wm P d 180 [.index q18, vi (gi a13 x10)] h (wq P d sw_c140 sw_h140 220 [r0, r1, r2, vi x3, .index q18, vi x5, .index q3, r7, r8, vi x9, vi x10, t11, t12, t13] [] kc ks Q)) (e_q3 : r6 = .index q3 := by first | rfl | assumption) (e_q12 : v7 = .index q12 := by first | rfl | assumption) (e_q18 : r4 = .index q18 := by first | rfl | assumption) (y1 : s_ty r4 = 3 := by first | rfl | assumption) (y2 : s_ty r6 = 3 := by first | rfl | assumption) (n8 : s_nth a4 (Int.toNat (x9)) = some v7 := by first | rfl | assumption) (u9 : tg6 = 2 ∨ tg6 = 3 ∨ tg6 = 4 := by first | decide | assumption) (c10 : In3 x9 := by first | omega | assumption | (simp only [mk_len, List.length_map]; omega) | decide) (c11 : 0 ≤ x9 := by first | omega | assumption | (simp only [mk_len, List.length_map]; omega) | decide) (c15 : x10 < a13.length := by first | omega | assumption | (simp only [mk_len, List.length_map]; omega) | decide) (c16 : 0 ≤ x10 := by first | omega | assumption | (simp only [mk_len, List.length_map]; omega) | decide) (c17 : In3 x10 := by first | omega | assumption | (simp only [mk_len, List.length_map]; omega) | decide) : wr P d sw_c140 sw_h140 (207, [r0, r1, r2, vi x3, r4, vi x5, r6, r7, r8, vi x9, vi x10, t11, t12, t13], [], h, kc, ks) Q := by
  refine w_ld rfl rfl (Or.inr (Or.inr ⟨by decide, y1⟩)) ?_
  refine w_ld rfl rfl (Or.inr (Or.inr ⟨by decide, y2⟩)) ?_
  refine w_ld rfl rfl (Or.inl ⟨by decide, rfl⟩) ?_
  subst e_q3
  refine w_aald rfl g5 u9 c10 c11 n8 ?_
  refine w_ld rfl rfl (Or.inl ⟨by decide, rfl⟩) ?_
  subst e_q12
  refine w_iald rfl g14 (Or.inl rfl) c17 c16 c15 ?_
  subst e_q18
  exact w_cv rfl [.index q18, vi (gi a13 x10)] [] rfl rfl (s_wt_4 rfl) rfl g20 k

theorem k140_220 {P : s_P} {d : Nat} {Q : s_O → Prop} {h : s_H} {kc ks : Nat} {r0 r1 r2 : Term} {x3 : Int} {r4 : Term} {x5 : Int} {r6 r7 r8 : Term} {x9 x10 : Int} {t11 t12 t13 : Term} {q3 : Nat} {f4 : List Term} (g5 : s_get h q3 = some (1, 4, f4)) (k : wm P d 170 [.index q3] h (wq P d sw_c140 sw_h140 231 [r0, r1, r2, vi x3, .index q3, vi x5, r6, r7, r8, vi x9, vi x10, t11, t12, t13] [vi x10, vi x9, r8] kc ks Q)) (e_q3 : r4 = .index q3 := by first | rfl | assumption) (y1 : s_ty r8 = 3 := by first | rfl | assumption) (y2 : s_ty r4 = 3 := by first | rfl | assumption)  : wr P d sw_c140 sw_h140 (220, [r0, r1, r2, vi x3, r4, vi x5, r6, r7, r8, vi x9, vi x10, t11, t12, t13], [], h, kc, ks) Q := by
  refine w_ld rfl rfl (Or.inr (Or.inr ⟨by decide, y1⟩)) ?_
  refine w_ld rfl rfl (Or.inl ⟨by decide, rfl⟩) ?_
  refine w_ld rfl rfl (Or.inl ⟨by decide, rfl⟩) ?_
  refine w_ld rfl rfl (Or.inr (Or.inr ⟨by decide, y2⟩)) ?_
  subst e_q3
  exact w_cv rfl [.index q3] [vi x10, vi x9, r8] rfl rfl (s_wt_4 rfl) rfl g5 k

theorem k140_231 {P : s_P} {d : Nat} {Q : s_O → Prop} {h : s_H} {kc ks : Nat} {r0 r1 r2 : Term} {x3 : Int} {r4 : Term} {x5 : Int} {r6 r7 r8 : Term} {x9 x10 : Int} {t11 t12 t13 s0 : Term} {s1 s2 : Int} {s3 : Term} {q1 : Nat} {f2 : List Term} (g3 : s_get h q1 = some (1, 8, f2)) (k : wm P d 271 [.index q1, vi s1, vi s2, s3] h (wq P d sw_c140 sw_h140 234 [r0, r1, r2, vi x3, r4, vi x5, r6, r7, r8, vi x9, vi x10, t11, t12, t13] [] kc ks Q)) (e_q1 : s0 = .index q1 := by first | rfl | assumption)  : wr P d sw_c140 sw_h140 (231, [r0, r1, r2, vi x3, r4, vi x5, r6, r7, r8, vi x9, vi x10, t11, t12, t13], [s3, vi s2, vi s1, s0], h, kc, ks) Q := by
  subst e_q1
  exact w_cv rfl [.index q1, vi s1, vi s2, s3] [] rfl rfl (s_wt_4 rfl) rfl g3 k

theorem k140_234 {P : s_P} {d : Nat} {Q : s_O → Prop} {h : s_H} {kc ks : Nat} {r0 r1 r2 : Term} {x3 : Int} {r4 : Term} {x5 : Int} {r6 r7 r8 : Term} {x9 x10 : Int} {t11 t12 t13 : Term}  (k : wr P d sw_c140 sw_h140 (200, [r0, r1, r2, vi x3, r4, vi x5, r6, r7, r8, vi x9, vi (x10 + 1), t11, t12, t13], [], h, kc, ks) Q)   : wr P d sw_c140 sw_h140 (234, [r0, r1, r2, vi x3, r4, vi x5, r6, r7, r8, vi x9, vi x10, t11, t12, t13], [], h, kc, ks) Q := by
  refine w_iinc (ls' := [r0, r1, r2, vi x3, r4, vi x5, r6, r7, r8, vi x9, vi (x10 + 1), t11, t12, t13]) rfl rfl 1 (by decide) rfl ?_
  refine w_goto rfl ?_
  exact k

theorem k140_240 {P : s_P} {d : Nat} {Q : s_O → Prop} {h : s_H} {kc ks : Nat} {r0 r1 r2 : Term} {x3 : Int} {r4 : Term} {x5 : Int} {r6 r7 r8 : Term} {x9 x10 : Int} {t11 t12 t13 : Term}  (k : wr P d sw_c140 sw_h140 (190, [r0, r1, r2, vi x3, r4, vi x5, r6, r7, r8, vi (x9 + 1), vi x10, t11, t12, t13], [], h, kc, ks) Q) (y1 : s_ty r8 = 3 := by first | rfl | assumption)  : wr P d sw_c140 sw_h140 (240, [r0, r1, r2, vi x3, r4, vi x5, r6, r7, r8, vi x9, vi x10, t11, t12, t13], [], h, kc, ks) Q := by
  refine w_iinc (ls' := [r0, r1, r2, vi x3, r4, vi x5, r6, r7, r8, vi (x9 + 1), vi x10, t11, t12, t13]) rfl rfl 1 (by decide) (s_stK_r (pre := [r0, r1, r2, vi x3, r4, vi x5, r6, r7]) y1) ?_
  refine w_goto rfl ?_
  exact k

theorem k140_246 {P : s_P} {d : Nat} {Q : s_O → Prop} {h : s_H} {kc ks : Nat} {r0 r1 r2 : Term} {x3 : Int} {r4 : Term} {x5 : Int} {r6 r7 r8 : Term} {x9 : Int} {t10 t11 t12 t13 : Term} {q2 : Nat} {f3 : List Term} {v5 : Term} {q7 : Nat} {f8 : List Term} (g4 : s_get h q2 = some (1, 2, f3)) (g9 : s_get h q7 = some (1, 0, f8)) (k : wm P d 113 [.index q7, vi x3] h (wq P d sw_c140 sw_h140 254 [.index q2, r1, r2, vi x3, r4, vi x5, r6, r7, r8, vi x9, t10, t11, t12, t13] [] kc ks Q)) (e_q2 : r0 = .index q2 := by first | rfl | assumption) (e_q7 : v5 = .index q7 := by first | rfl | assumption) (y1 : s_ty r0 = 3 := by first | rfl | assumption) (n6 : s_nth f3 0 = some v5 := by first | rfl | assumption)  : wr P d sw_c140 sw_h140 (246, [r0, r1, r2, vi x3, r4, vi x5, r6, r7, r8, vi x9, t10, t11, t12, t13], [], h, kc, ks) Q := by
  refine w_ld rfl rfl (Or.inr (Or.inr ⟨by decide, y1⟩)) ?_
  subst e_q2
  refine w_getf rfl g4 n6 ?_
  refine w_ld rfl rfl (Or.inl ⟨by decide, rfl⟩) ?_
  subst e_q7
  exact w_cv rfl [.index q7, vi x3] [] rfl rfl (s_wt_4 rfl) rfl g9 k

theorem k140_254 {P : s_P} {d : Nat} {Q : s_O → Prop} {h : s_H} {kc ks : Nat} {r0 r1 r2 : Term} {x3 : Int} {r4 : Term} {x5 : Int} {r6 r7 r8 : Term} {x9 : Int} {t10 t11 t12 t13 : Term}  (k : Q (.inl (some r8), h, kc, ks)) (y1 : s_ty r8 = 3 := by first | rfl | assumption)  : wr P d sw_c140 sw_h140 (254, [r0, r1, r2, vi x3, r4, vi x5, r6, r7, r8, vi x9, t10, t11, t12, t13], [], h, kc, ks) Q := by
  refine w_ld rfl rfl (Or.inr (Or.inr ⟨by decide, y1⟩)) ?_
  exact w_aret rfl y1 k

/-! 141: FormulaWorks$Minors.of(I)LFormulaWorks$Poly; -/
theorem k141_0 {P : s_P} {d : Nat} {Q : s_O → Prop} {h : s_H} {kc ks : Nat} {r0 : Term} {x1 : Int} {q2 : Nat} {f3 : List Term} {v5 : Term} {q7 : Nat} {a8 : List Term} {tg10 : Nat} {v11 : Term} (g4 : s_get h q2 = some (1, 2, f3)) (g9 : s_get h q7 = some (0, tg10, a8)) (k : Q (.inl (some v11), h, kc, ks)) (e_q2 : r0 = .index q2 := by first | rfl | assumption) (e_q7 : v5 = .index q7 := by first | rfl | assumption) (y1 : s_ty r0 = 3 := by first | rfl | assumption) (n6 : s_nth f3 1 = some v5 := by first | rfl | assumption) (n12 : s_nth a8 (Int.toNat (zi 24 x1 15)) = some v11 := by first | rfl | assumption) (u13 : tg10 = 2 ∨ tg10 = 3 ∨ tg10 = 4 := by first | decide | assumption) (y16 : s_ty v11 = 3 := by first | rfl | assumption) (c14 : In3 (zi 24 x1 15) := by first | omega | assumption | (simp only [mk_len, List.length_map]; omega) | decide) (c15 : 0 ≤ zi 24 x1 15 := by first | omega | assumption | (simp only [mk_len, List.length_map]; omega) | decide) : wr P d sw_c141 sw_h141 (0, [r0, vi x1], [], h, kc, ks) Q := by
  refine w_ld rfl rfl (Or.inr (Or.inr ⟨by decide, y1⟩)) ?_
  subst e_q2
  refine w_getf rfl g4 n6 ?_
  refine w_ld rfl rfl (Or.inl ⟨by decide, rfl⟩) ?_
  refine w_c32 rfl (by decide) 15 (by decide) ?_
  refine w_ib rfl (by decide) ?_
  subst e_q7
  refine w_aald rfl g9 u13 c14 c15 n12 ?_
  exact w_aret rfl y16 k

/-! 142: FormulaWorks$Minors.ownOf(LFormulaWorks$Thing;)LFormulaWorks$Thing; -/
theorem k142_0 {P : s_P} {d : Nat} {Q : s_O → Prop} {h : s_H} {kc ks : Nat} {r0 r1 t2 t3 t4 t5 t6 : Term} {q2 : Nat} {f3 : List Term} {v5 : Term} {q7 : Nat} {f8 : List Term} (g4 : s_get h q2 = some (1, 2, f3)) (g9 : s_get h q7 = some (1, 0, f8)) (k : wm P d 110 [.index q7] h (wq P d sw_c142 sw_h142 7 [.index q2, r1, t2, t3, t4, t5, t6] [] kc ks Q)) (e_q2 : r0 = .index q2 := by first | rfl | assumption) (e_q7 : v5 = .index q7 := by first | rfl | assumption) (y1 : s_ty r0 = 3 := by first | rfl | assumption) (n6 : s_nth f3 0 = some v5 := by first | rfl | assumption)  : wr P d sw_c142 sw_h142 (0, [r0, r1, t2, t3, t4, t5, t6], [], h, kc, ks) Q := by
  refine w_ld rfl rfl (Or.inr (Or.inr ⟨by decide, y1⟩)) ?_
  subst e_q2
  refine w_getf rfl g4 n6 ?_
  subst e_q7
  exact w_cv rfl [.index q7] [] rfl rfl (s_wt_4 rfl) rfl g9 k

theorem k142_7 {P : s_P} {d : Nat} {Q : s_O → Prop} {h : s_H} {kc ks : Nat} {r0 r1 t2 t3 t4 t5 t6 : Term} {s0 : Int} {q3 : Nat} {f4 : List Term} {v6 : Term} {q8 : Nat} {f9 : List Term} (g5 : s_get h q3 = some (1, 2, f4)) (g10 : s_get h q8 = some (1, 0, f9)) (k : wm P d 109 [.index q8] h (wq P d sw_c142 sw_h142 15 [.index q3, r1, vi s0, t3, t4, t5, t6] [] kc ks Q)) (e_q3 : r0 = .index q3 := by first | rfl | assumption) (e_q8 : v6 = .index q8 := by first | rfl | assumption) (y1 : s_ty r1 = 3 := by first | rfl | assumption) (y2 : s_ty r0 = 3 := by first | rfl | assumption) (n7 : s_nth f4 0 = some v6 := by first | rfl | assumption)  : wr P d sw_c142 sw_h142 (7, [r0, r1, t2, t3, t4, t5, t6], [vi s0], h, kc, ks) Q := by
  refine w_st (ls' := [r0, r1, vi s0, t3, t4, t5, t6]) rfl (Or.inl ⟨by decide, rfl⟩) (s_stK_r (pre := [r0]) y1) ?_
  refine w_ld rfl rfl (Or.inr (Or.inr ⟨by decide, y2⟩)) ?_
  subst e_q3
  refine w_getf rfl g5 n7 ?_
  subst e_q8
  exact w_cv rfl [.index q8] [] rfl rfl (s_wt_4 rfl) rfl g10 k

theorem k142_15 {P : s_P} {d : Nat} {Q : s_O → Prop} {h : s_H} {kc ks : Nat} {r0 r1 : Term} {x2 : Int} {t3 t4 t5 t6 s0 : Term} {q4 : Nat} {f5 : List Term} {z7 z9 : Int} {q11 : Nat} {f12 : List Term} (g6 : s_get h q4 = some (1, 8, f5)) (g13 : s_get h q11 = some (1, 2, f12)) (k : wm P d 137 [.index q11, vi z7, vi z9] h (wq P d sw_c142 sw_h142 28 [.index q11, .index q4, vi x2, s0, t4, t5, t6] [] kc ks Q)) (e_q4 : r1 = .index q4 := by first | rfl | assumption) (e_q11 : r0 = .index q11 := by first | rfl | assumption) (y1 : s_ty s0 = 3 := by first | rfl | assumption) (y2 : s_ty r0 = 3 := by first | rfl | assumption) (y3 : s_ty r1 = 3 := by first | rfl | assumption) (n8 : s_nth f5 3 = some (vi z7) := by first | rfl | assumption) (n10 : s_nth f5 4 = some (vi z9) := by first | rfl | assumption)  : wr P d sw_c142 sw_h142 (15, [r0, r1, vi x2, t3, t4, t5, t6], [s0], h, kc, ks) Q := by
  refine w_st (ls' := [r0, r1, vi x2, s0, t4, t5, t6]) rfl (Or.inr ⟨by decide, y1⟩) rfl ?_
  refine w_ld rfl rfl (Or.inr (Or.inr ⟨by decide, y2⟩)) ?_
  refine w_ld rfl rfl (Or.inr (Or.inr ⟨by decide, y3⟩)) ?_
  subst e_q4
  refine w_getf rfl g6 n8 ?_
  refine w_ld rfl rfl (Or.inr (Or.inr ⟨by decide, rfl⟩)) ?_
  refine w_getf rfl g6 n10 ?_
  subst e_q11
  exact w_cv rfl [.index q11, vi z7, vi z9] [] rfl rfl (s_wt_4 rfl) rfl g13 k

theorem k142_28 {P : s_P} {d : Nat} {Q : s_O → Prop} {h : s_H} {kc ks : Nat} {r0 r1 : Term} {x2 : Int} {r3 t4 t5 t6 s0 : Term}  (k : wr P d sw_c142 sw_h142 (33, [r0, r1, vi x2, r3, s0, vi 0, t6], [], h, kc, ks) Q) (y1 : s_ty r3 = 3 := by first | rfl | assumption) (y2 : s_ty s0 = 3 := by first | rfl | assumption)  : wr P d sw_c142 sw_h142 (28, [r0, r1, vi x2, r3, t4, t5, t6], [s0], h, kc, ks) Q := by
  refine w_st (ls' := [r0, r1, vi x2, r3, s0, t5, t6]) rfl (Or.inr ⟨by decide, y2⟩) (s_stK_r (pre := [r0, r1, vi x2]) y1) ?_
  refine w_c32 rfl (by decide) 0 (by decide) ?_
  refine w_st (ls' := [r0, r1, vi x2, r3, s0, vi 0, t6]) rfl (Or.inl ⟨by decide, rfl⟩) (s_stK_r (pre := [r0, r1, vi x2, r3]) y2) ?_
  exact k

theorem k142_33 {P : s_P} {d : Nat} {Q : s_O → Prop} {h : s_H} {kc ks : Nat} {r0 r1 : Term} {x2 : Int} {r3 r4 : Term} {x5 : Int} {t6 : Term} {q2 : Nat} {f3 : List Term} {z5 : Int} (g4 : s_get h q2 = some (1, 8, f3)) (k1 : z5 ≤ x5 → wr P d sw_c142 sw_h142 (115, [r0, .index q2, vi x2, r3, r4, vi x5, t6], [], h, kc, ks) Q) (k2 : ¬ z5 ≤ x5 → wr P d sw_c142 sw_h142 (42, [r0, .index q2, vi x2, r3, r4, vi x5, t6], [], h, kc, ks) Q) (e_q2 : r1 = .index q2 := by first | rfl | assumption) (y1 : s_ty r1 = 3 := by first | rfl | assumption) (n6 : s_nth f3 3 = some (vi z5) := by first | rfl | assumption) (c7 : In3 x5 := by first | omega | assumption | (simp only [mk_len, List.length_map]; omega) | decide) (c8 : In3 z5 := by first | omega | assumption | (simp only [mk_len, List.length_map]; omega) | decide) : wr P d sw_c142 sw_h142 (33, [r0, r1, vi x2, r3, r4, vi x5, t6], [], h, kc, ks) Q := by
  refine w_ld rfl rfl (Or.inl ⟨by decide, rfl⟩) ?_
  refine w_ld rfl rfl (Or.inr (Or.inr ⟨by decide, y1⟩)) ?_
  subst e_q2
  refine w_getf rfl g4 n6 ?_
  exact w_if2 rfl c7 c8 k1 k2

theorem k142_42 {P : s_P} {d : Nat} {Q : s_O → Prop} {h : s_H} {kc ks : Nat} {r0 r1 : Term} {x2 : Int} {r3 r4 : Term} {x5 : Int} {t6 : Term}  (k : wr P d sw_c142 sw_h142 (45, [r0, r1, vi x2, r3, r4, vi x5, vi 0], [], h, kc, ks) Q)   : wr P d sw_c142 sw_h142 (42, [r0, r1, vi x2, r3, r4, vi x5, t6], [], h, kc, ks) Q := by
  refine w_c32 rfl (by decide) 0 (by decide) ?_
  refine w_st (ls' := [r0, r1, vi x2, r3, r4, vi x5, vi 0]) rfl (Or.inl ⟨by decide, rfl⟩) rfl ?_
  exact k

theorem k142_45 {P : s_P} {d : Nat} {Q : s_O → Prop} {h : s_H} {kc ks : Nat} {r0 r1 : Term} {x2 : Int} {r3 r4 : Term} {x5 x6 : Int} {q2 : Nat} {f3 : List Term} {z5 : Int} (g4 : s_get h q2 = some (1, 8, f3)) (k1 : z5 ≤ x6 → wr P d sw_c142 sw_h142 (109, [r0, .index q2, vi x2, r3, r4, vi x5, vi x6], [], h, kc, ks) Q) (k2 : ¬ z5 ≤ x6 → wr P d sw_c142 sw_h142 (54, [r0, .index q2, vi x2, r3, r4, vi x5, vi x6], [], h, kc, ks) Q) (e_q2 : r1 = .index q2 := by first | rfl | assumption) (y1 : s_ty r1 = 3 := by first | rfl | assumption) (n6 : s_nth f3 4 = some (vi z5) := by first | rfl | assumption) (c7 : In3 x6 := by first | omega | assumption | (simp only [mk_len, List.length_map]; omega) | decide) (c8 : In3 z5 := by first | omega | assumption | (simp only [mk_len, List.length_map]; omega) | decide) : wr P d sw_c142 sw_h142 (45, [r0, r1, vi x2, r3, r4, vi x5, vi x6], [], h, kc, ks) Q := by
  refine w_ld rfl rfl (Or.inl ⟨by decide, rfl⟩) ?_
  refine w_ld rfl rfl (Or.inr (Or.inr ⟨by decide, y1⟩)) ?_
  subst e_q2
  refine w_getf rfl g4 n6 ?_
  exact w_if2 rfl c7 c8 k1 k2

theorem k142_54 {P : s_P} {d : Nat} {Q : s_O → Prop} {h : s_H} {kc ks : Nat} {r0 r1 : Term} {x2 : Int} {r3 r4 : Term} {x5 x6 : Int}  (k1 : x5 ≠ x6 → wr P d sw_c142 sw_h142 (69, [r0, r1, vi x2, r3, r4, vi x5, vi x6], [], h, kc, ks) Q) (k2 : ¬ x5 ≠ x6 → wr P d sw_c142 sw_h142 (61, [r0, r1, vi x2, r3, r4, vi x5, vi x6], [], h, kc, ks) Q)  (c1 : In3 x5 := by first | omega | assumption | (simp only [mk_len, List.length_map]; omega) | decide) (c2 : In3 x6 := by first | omega | assumption | (simp only [mk_len, List.length_map]; omega) | decide) : wr P d sw_c142 sw_h142 (54, [r0, r1, vi x2, r3, r4, vi x5, vi x6], [], h, kc, ks) Q := by
  refine w_ld rfl rfl (Or.inl ⟨by decide, rfl⟩) ?_
  refine w_ld rfl rfl (Or.inl ⟨by decide, rfl⟩) ?_
  exact w_if2 rfl c1 c2 k1 k2

theorem k142_61 {P : s_P} {d : Nat} {Q : s_O → Prop} {h : s_H} {kc ks : Nat} {r0 r1 : Term} {x2 : Int} {r3 r4 : Term} {x5 x6 : Int} {q2 : Nat} {f3 : List Term} (g4 : s_get h q2 = some (1, 4, f3)) (k : wm P d 181 [.index q2, vi 1] h (wq P d sw_c142 sw_h142 66 [r0, r1, vi x2, .index q2, r4, vi x5, vi x6] [] kc ks Q)) (e_q2 : r3 = .index q2 := by first | rfl | assumption) (y1 : s_ty r3 = 3 := by first | rfl | assumption)  : wr P d sw_c142 sw_h142 (61, [r0, r1, vi x2, r3, r4, vi x5, vi x6], [], h, kc, ks) Q := by
  refine w_ld rfl rfl (Or.inr (Or.inr ⟨by decide, y1⟩)) ?_
  refine w_c32 rfl (by decide) 1 (by decide) ?_
  subst e_q2
  exact w_cv rfl [.index q2, vi 1] [] rfl rfl (s_wt_4 rfl) rfl g4 k

theorem k142_66 {P : s_P} {d : Nat} {Q : s_O → Prop} {h : s_H} {kc ks : Nat} {r0 r1 : Term} {x2 : Int} {r3 r4 : Term} {x5 x6 : Int}  (k : wr P d sw_c142 sw_h142 (74, [r0, r1, vi x2, r3, r4, vi x5, vi x6], [], h, kc, ks) Q)   : wr P d sw_c142 sw_h142 (66, [r0, r1, vi x2, r3, r4, vi x5, vi x6], [], h, kc, ks) Q := by
  refine w_goto rfl ?_
  exact k

theorem k142_69 {P : s_P} {d : Nat} {Q : s_O → Prop} {h : s_H} {kc ks : Nat} {r0 r1 : Term} {x2 : Int} {r3 r4 : Term} {x5 x6 : Int} {q2 : Nat} {f3 : List Term} (g4 : s_get h q2 = some (1, 4, f3)) (k : wm P d 180 [.index q2, vi 0] h (wq P d sw_c142 sw_h142 74 [r0, r1, vi x2, .index q2, r4, vi x5, vi x6] [] kc ks Q)) (e_q2 : r3 = .index q2 := by first | rfl | assumption) (y1 : s_ty r3 = 3 := by first | rfl | assumption)  : wr P d sw_c142 sw_h142 (69, [r0, r1, vi x2, r3, r4, vi x5, vi x6], [], h, kc, ks) Q := by
  refine w_ld rfl rfl (Or.inr (Or.inr ⟨by decide, y1⟩)) ?_
  refine w_c32 rfl (by decide) 0 (by decide) ?_
  subst e_q2
  exact w_cv rfl [.index q2, vi 0] [] rfl rfl (s_wt_4 rfl) rfl g4 k

theorem k142_74 {P : s_P} {d : Nat} {Q : s_O → Prop} {h : s_H} {kc ks : Nat} {r0 r1 : Term} {x2 : Int} {r3 r4 : Term} {x5 x6 : Int} {q3 : Nat} {f4 : List Term} (g5 : s_get h q3 = some (1, 8, f4)) (k : wm P d 265 [.index q3, vi x5, vi x6] h (wq P d sw_c142 sw_h142 84 [r0, .index q3, vi x2, r3, r4, vi x5, vi x6] [r3, r3] kc ks Q)) (e_q3 : r1 = .index q3 := by first | rfl | assumption) (y1 : s_ty r3 = 3 := by first | rfl | assumption) (y2 : s_ty r1 = 3 := by first | rfl | assumption)  : wr P d sw_c142 sw_h142 (74, [r0, r1, vi x2, r3, r4, vi x5, vi x6], [], h, kc, ks) Q := by
  refine w_ld rfl rfl (Or.inr (Or.inr ⟨by decide, y1⟩)) ?_
  refine w_ld rfl rfl (Or.inr (Or.inr ⟨by decide, y1⟩)) ?_
  refine w_ld rfl rfl (Or.inr (Or.inr ⟨by decide, y2⟩)) ?_
  refine w_ld rfl rfl (Or.inl ⟨by decide, rfl⟩) ?_
  refine w_ld rfl rfl (Or.inl ⟨by decide, rfl⟩) ?_
  subst e_q3
  exact w_cv rfl [.index q3, vi x5, vi x6] [r3, r3] rfl rfl (s_wt_4 rfl) rfl g5 k

theorem k142_84 {P : s_P} {d : Nat} {Q : s_O → Prop} {h : s_H} {kc ks : Nat} {r0 r1 : Term} {x2 : Int} {r3 r4 : Term} {x5 x6 : Int} {s0 s1 s2 : Term} {q1 : Nat} {f2 : List Term} (g3 : s_get h q1 = some (1, 4, f2)) (k : wm P d 184 [.index q1, s1, s2, vi 32002] h (wq P d sw_c142 sw_h142 90 [r0, r1, vi x2, r3, r4, vi x5, vi x6] [] kc ks Q)) (e_q1 : s0 = .index q1 := by first | rfl | assumption)  : wr P d sw_c142 sw_h142 (84, [r0, r1, vi x2, r3, r4, vi x5, vi x6], [s2, s1, s0], h, kc, ks) Q := by
  refine w_c32 rfl (by decide) 32002 (by decide) ?_
  subst e_q1
  exact w_cv rfl [.index q1, s1, s2, vi 32002] [] rfl rfl (s_wt_4 rfl) rfl g3 k

theorem k142_90 {P : s_P} {d : Nat} {Q : s_O → Prop} {h : s_H} {kc ks : Nat} {r0 r1 : Term} {x2 : Int} {r3 r4 : Term} {x5 x6 : Int} {q3 : Nat} {f4 : List Term} (g5 : s_get h q3 = some (1, 4, f4)) (k : wm P d 170 [.index q3] h (wq P d sw_c142 sw_h142 100 [r0, r1, vi x2, .index q3, r4, vi x5, vi x6] [vi x6, vi x5, r4] kc ks Q)) (e_q3 : r3 = .index q3 := by first | rfl | assumption) (y1 : s_ty r4 = 3 := by first | rfl | assumption) (y2 : s_ty r3 = 3 := by first | rfl | assumption)  : wr P d sw_c142 sw_h142 (90, [r0, r1, vi x2, r3, r4, vi x5, vi x6], [], h, kc, ks) Q := by
  refine w_ld rfl rfl (Or.inr (Or.inr ⟨by decide, y1⟩)) ?_
  refine w_ld rfl rfl (Or.inl ⟨by decide, rfl⟩) ?_
  refine w_ld rfl rfl (Or.inl ⟨by decide, rfl⟩) ?_
  refine w_ld rfl rfl (Or.inr (Or.inr ⟨by decide, y2⟩)) ?_
  subst e_q3
  exact w_cv rfl [.index q3] [vi x6, vi x5, r4] rfl rfl (s_wt_4 rfl) rfl g5 k

theorem k142_100 {P : s_P} {d : Nat} {Q : s_O → Prop} {h : s_H} {kc ks : Nat} {r0 r1 : Term} {x2 : Int} {r3 r4 : Term} {x5 x6 : Int} {s0 : Term} {s1 s2 : Int} {s3 : Term} {q1 : Nat} {f2 : List Term} (g3 : s_get h q1 = some (1, 8, f2)) (k : wm P d 271 [.index q1, vi s1, vi s2, s3] h (wq P d sw_c142 sw_h142 103 [r0, r1, vi x2, r3, r4, vi x5, vi x6] [] kc ks Q)) (e_q1 : s0 = .index q1 := by first | rfl | assumption)  : wr P d sw_c142 sw_h142 (100, [r0, r1, vi x2, r3, r4, vi x5, vi x6], [s3, vi s2, vi s1, s0], h, kc, ks) Q := by
  subst e_q1
  exact w_cv rfl [.index q1, vi s1, vi s2, s3] [] rfl rfl (s_wt_4 rfl) rfl g3 k

theorem k142_103 {P : s_P} {d : Nat} {Q : s_O → Prop} {h : s_H} {kc ks : Nat} {r0 r1 : Term} {x2 : Int} {r3 r4 : Term} {x5 x6 : Int}  (k : wr P d sw_c142 sw_h142 (45, [r0, r1, vi x2, r3, r4, vi x5, vi (x6 + 1)], [], h, kc, ks) Q)   : wr P d sw_c142 sw_h142 (103, [r0, r1, vi x2, r3, r4, vi x5, vi x6], [], h, kc, ks) Q := by
  refine w_iinc (ls' := [r0, r1, vi x2, r3, r4, vi x5, vi (x6 + 1)]) rfl rfl 1 (by decide) rfl ?_
  refine w_goto rfl ?_
  exact k

theorem k142_109 {P : s_P} {d : Nat} {Q : s_O → Prop} {h : s_H} {kc ks : Nat} {r0 r1 : Term} {x2 : Int} {r3 r4 : Term} {x5 x6 : Int}  (k : wr P d sw_c142 sw_h142 (33, [r0, r1, vi x2, r3, r4, vi (x5 + 1), vi x6], [], h, kc, ks) Q) (y1 : s_ty r4 = 3 := by first | rfl | assumption)  : wr P d sw_c142 sw_h142 (109, [r0, r1, vi x2, r3, r4, vi x5, vi x6], [], h, kc, ks) Q := by
  refine w_iinc (ls' := [r0, r1, vi x2, r3, r4, vi (x5 + 1), vi x6]) rfl rfl 1 (by decide) (s_stK_r (pre := [r0, r1, vi x2, r3]) y1) ?_
  refine w_goto rfl ?_
  exact k

theorem k142_115 {P : s_P} {d : Nat} {Q : s_O → Prop} {h : s_H} {kc ks : Nat} {r0 r1 : Term} {x2 : Int} {r3 r4 : Term} {x5 : Int} {t6 : Term} {q2 : Nat} {f3 : List Term} {v5 : Term} {q7 : Nat} {f8 : List Term} (g4 : s_get h q2 = some (1, 2, f3)) (g9 : s_get h q7 = some (1, 0, f8)) (k : wm P d 113 [.index q7, vi x2] h (wq P d sw_c142 sw_h142 123 [.index q2, r1, vi x2, r3, r4, vi x5, t6] [] kc ks Q)) (e_q2 : r0 = .index q2 := by first | rfl | assumption) (e_q7 : v5 = .index q7 := by first | rfl | assumption) (y1 : s_ty r0 = 3 := by first | rfl | assumption) (n6 : s_nth f3 0 = some v5 := by first | rfl | assumption)  : wr P d sw_c142 sw_h142 (115, [r0, r1, vi x2, r3, r4, vi x5, t6], [], h, kc, ks) Q := by
  refine w_ld rfl rfl (Or.inr (Or.inr ⟨by decide, y1⟩)) ?_
  subst e_q2
  refine w_getf rfl g4 n6 ?_
  refine w_ld rfl rfl (Or.inl ⟨by decide, rfl⟩) ?_
  subst e_q7
  exact w_cv rfl [.index q7, vi x2] [] rfl rfl (s_wt_4 rfl) rfl g9 k

theorem k142_123 {P : s_P} {d : Nat} {Q : s_O → Prop} {h : s_H} {kc ks : Nat} {r0 r1 : Term} {x2 : Int} {r3 r4 : Term} {x5 : Int} {t6 : Term}  (k : Q (.inl (some r4), h, kc, ks)) (y1 : s_ty r4 = 3 := by first | rfl | assumption)  : wr P d sw_c142 sw_h142 (123, [r0, r1, vi x2, r3, r4, vi x5, t6], [], h, kc, ks) Q := by
  refine w_ld rfl rfl (Or.inr (Or.inr ⟨by decide, y1⟩)) ?_
  exact w_aret rfl y1 k

/-! 143: FormulaWorks$Minors.productOf(LFormulaWorks$Thing;LFormulaWorks$Thing;)LFormulaWorks$Thing; -/
theorem k143_0 {P : s_P} {d : Nat} {Q : s_O → Prop} {h : s_H} {kc ks : Nat} {r0 r1 r2 t3 t4 t5 t6 t7 t8 t9 : Term} {q2 : Nat} {f3 : List Term} {v5 : Term} {q7 : Nat} {f8 : List Term} (g4 : s_get h q2 = some (1, 2, f3)) (g9 : s_get h q7 = some (1, 0, f8)) (k : wm P d 110 [.index q7] h (wq P d sw_c143 sw_h143 7 [.index q2, r1, r2, t3, t4, t5, t6, t7, t8, t9] [] kc ks Q)) (e_q2 : r0 = .index q2 := by first | rfl | assumption) (e_q7 : v5 = .index q7 := by first | rfl | assumption) (y1 : s_ty r0 = 3 := by first | rfl | assumption) (n6 : s_nth f3 0 = some v5 := by first | rfl | assumption)  : wr P d sw_c143 sw_h143 (0, [r0, r1, r2, t3, t4, t5, t6, t7, t8, t9], [], h, kc, ks) Q := by
  refine w_ld rfl rfl (Or.inr (Or.inr ⟨by decide, y1⟩)) ?_
  subst e_q2
  refine w_getf rfl g4 n6 ?_
  subst e_q7
  exact w_cv rfl [.index q7] [] rfl rfl (s_wt_4 rfl) rfl g9 k

theorem k143_7 {P : s_P} {d : Nat} {Q : s_O → Prop} {h : s_H} {kc ks : Nat} {r0 r1 r2 t3 t4 t5 t6 t7 t8 t9 : Term} {s0 : Int} {q3 : Nat} {f4 : List Term} {v6 : Term} {q8 : Nat} {f9 : List Term} (g5 : s_get h q3 = some (1, 2, f4)) (g10 : s_get h q8 = some (1, 0, f9)) (k : wm P d 109 [.index q8] h (wq P d sw_c143 sw_h143 15 [.index q3, r1, r2, vi s0, t4, t5, t6, t7, t8, t9] [] kc ks Q)) (e_q3 : r0 = .index q3 := by first | rfl | assumption) (e_q8 : v6 = .index q8 := by first | rfl | assumption) (y1 : s_ty r2 = 3 := by first | rfl | assumption) (y2 : s_ty r0 = 3 := by first | rfl | assumption) (n7 : s_nth f4 0 = some v6 := by first | rfl | assumption)  : wr P d sw_c143 sw_h143 (7, [r0, r1, r2, t3, t4, t5, t6, t7, t8, t9], [vi s0], h, kc, ks) Q := by
  refine w_st (ls' := [r0, r1, r2, vi s0, t4, t5, t6, t7, t8, t9]) rfl (Or.inl ⟨by decide, rfl⟩) (s_stK_r (pre := [r0, r1]) y1) ?_
  refine w_ld rfl rfl (Or.inr (Or.inr ⟨by decide, y2⟩)) ?_
  subst e_q3
  refine w_getf rfl g5 n7 ?_
  subst e_q8
  exact w_cv rfl [.index q8] [] rfl rfl (s_wt_4 rfl) rfl g10 k

theorem k143_15 {P : s_P} {d : Nat} {Q : s_O → Prop} {h : s_H} {kc ks : Nat} {r0 r1 r2 : Term} {x3 : Int} {t4 t5 t6 t7 t8 t9 s0 : Term} {q3 : Nat} {f4 : List Term} {v6 : Term} {q8 : Nat} {f9 : List Term} (g5 : s_get h q3 = some (1, 2, f4)) (g10 : s_get h q8 = some (1, 0, f9)) (k : wm P d 109 [.index q8] h (wq P d sw_c143 sw_h143 24 [.index q3, r1, r2, vi x3, s0, t5, t6, t7, t8, t9] [] kc ks Q)) (e_q3 : r0 = .index q3 := by first | rfl | assumption) (e_q8 : v6 = .index q8 := by first | rfl | assumption) (y1 : s_ty s0 = 3 := by first | rfl | assumption) (y2 : s_ty r0 = 3 := by first | rfl | assumption) (n7 : s_nth f4 0 = some v6 := by first | rfl | assumption)  : wr P d sw_c143 sw_h143 (15, [r0, r1, r2, vi x3, t4, t5, t6, t7, t8, t9], [s0], h, kc, ks) Q := by
  refine w_st (ls' := [r0, r1, r2, vi x3, s0, t5, t6, t7, t8, t9]) rfl (Or.inr ⟨by decide, y1⟩) rfl ?_
  refine w_ld rfl rfl (Or.inr (Or.inr ⟨by decide, y2⟩)) ?_
  subst e_q3
  refine w_getf rfl g5 n7 ?_
  subst e_q8
  exact w_cv rfl [.index q8] [] rfl rfl (s_wt_4 rfl) rfl g10 k

theorem k143_24 {P : s_P} {d : Nat} {Q : s_O → Prop} {h : s_H} {kc ks : Nat} {r0 r1 r2 : Term} {x3 : Int} {r4 t5 t6 t7 t8 t9 s0 : Term} {q5 : Nat} {f6 : List Term} {z8 : Int} {q11 : Nat} {f12 : List Term} {z14 : Int} {q16 : Nat} {f17 : List Term} (g7 : s_get h q5 = some (1, 8, f6)) (g13 : s_get h q11 = some (1, 8, f12)) (g18 : s_get h q16 = some (1, 2, f17)) (k : wm P d 137 [.index q16, vi z8, vi z14] h (wq P d sw_c143 sw_h143 38 [.index q16, .index q5, .index q11, vi x3, r4, s0, t6, t7, t8, t9] [] kc ks Q)) (e_q5 : r1 = .index q5 := by first | rfl | assumption) (e_q11 : r2 = .index q11 := by first | rfl | assumption) (e_q16 : r0 = .index q16 := by first | rfl | assumption) (y1 : s_ty r4 = 3 := by first | rfl | assumption) (y2 : s_ty s0 = 3 := by first | rfl | assumption) (y3 : s_ty r0 = 3 := by first | rfl | assumption) (y4 : s_ty r1 = 3 := by first | rfl | assumption) (n9 : s_nth f6 3 = some (vi z8) := by first | rfl | assumption) (y10 : s_ty r2 = 3 := by first | rfl | assumption) (n15 : s_nth f12 4 = some (vi z14) := by first | rfl | assumption)  : wr P d sw_c143 sw_h143 (24, [r0, r1, r2, vi x3, r4, t5, t6, t7, t8, t9], [s0], h, kc, ks) Q := by
  refine w_st (ls' := [r0, r1, r2, vi x3, r4, s0, t6, t7, t8, t9]) rfl (Or.inr ⟨by decide, y2⟩) (s_stK_r (pre := [r0, r1, r2, vi x3]) y1) ?_
  refine w_ld rfl rfl (Or.inr (Or.inr ⟨by decide, y3⟩)) ?_
  refine w_ld rfl rfl (Or.inr (Or.inr ⟨by decide, y4⟩)) ?_
  subst e_q5
  refine w_getf rfl g7 n9 ?_
  refine w_ld rfl rfl (Or.inr (Or.inr ⟨by decide, y10⟩)) ?_
  subst e_q11
  refine w_getf rfl g13 n15 ?_
  subst e_q16
  exact w_cv rfl [.index q16, vi z8, vi z14] [] rfl rfl (s_wt_4 rfl) rfl g18 k

theorem k143_38 {P : s_P} {d : Nat} {Q : s_O → Prop} {h : s_H} {kc ks : Nat} {r0 r1 r2 : Term} {x3 : Int} {r4 r5 t6 t7 t8 t9 s0 : Term}  (k : wr P d sw_c143 sw_h143 (43, [r0, r1, r2, vi x3, r4, r5, s0, vi 0, t8, t9], [], h, kc, ks) Q) (y1 : s_ty r5 = 3 := by first | rfl | assumption) (y2 : s_ty s0 = 3 := by first | rfl | assumption)  : wr P d sw_c143 sw_h143 (38, [r0, r1, r2, vi x3, r4, r5, t6, t7, t8, t9], [s0], h, kc, ks) Q := by
  refine w_st (ls' := [r0, r1, r2, vi x3, r4, r5, s0, t7, t8, t9]) rfl (Or.inr ⟨by decide, y2⟩) (s_stK_r (pre := [r0, r1, r2, vi x3, r4]) y1) ?_
  refine w_c32 rfl (by decide) 0 (by decide) ?_
  refine w_st (ls' := [r0, r1, r2, vi x3, r4, r5, s0, vi 0, t8, t9]) rfl (Or.inl ⟨by decide, rfl⟩) (s_stK_r (pre := [r0, r1, r2, vi x3, r4, r5]) y2) ?_
  exact k

theorem k143_43 {P : s_P} {d : Nat} {Q : s_O → Prop} {h : s_H} {kc ks : Nat} {r0 r1 r2 : Term} {x3 : Int} {r4 r5 r6 : Term} {x7 : Int} {t8 t9 : Term} {q2 : Nat} {f3 : List Term} {z5 : Int} (g4 : s_get h q2 = some (1, 8, f3)) (k1 : z5 ≤ x7 → wr P d sw_c143 sw_h143 (154, [r0, .index q2, r2, vi x3, r4, r5, r6, vi x7, t8, t9], [], h, kc, ks) Q) (k2 : ¬ z5 ≤ x7 → wr P d sw_c143 sw_h143 (52, [r0, .index q2, r2, vi x3, r4, r5, r6, vi x7, t8, t9], [], h, kc, ks) Q) (e_q2 : r1 = .index q2 := by first | rfl | assumption) (y1 : s_ty r1 = 3 := by first | rfl | assumption) (n6 : s_nth f3 3 = some (vi z5) := by first | rfl | assumption) (c7 : In3 x7 := by first | omega | assumption | (simp only [mk_len, List.length_map]; omega) | decide) (c8 : In3 z5 := by first | omega | assumption | (simp only [mk_len, List.length_map]; omega) | decide) : wr P d sw_c143 sw_h143 (43, [r0, r1, r2, vi x3, r4, r5, r6, vi x7, t8, t9], [], h, kc, ks) Q := by
  refine w_ld rfl rfl (Or.inl ⟨by decide, rfl⟩) ?_
  refine w_ld rfl rfl (Or.inr (Or.inr ⟨by decide, y1⟩)) ?_
  subst e_q2
  refine w_getf rfl g4 n6 ?_
  exact w_if2 rfl c7 c8 k1 k2

theorem k143_52 {P : s_P} {d : Nat} {Q : s_O → Prop} {h : s_H} {kc ks : Nat} {r0 r1 r2 : Term} {x3 : Int} {r4 r5 r6 : Term} {x7 : Int} {t8 t9 : Term}  (k : wr P d sw_c143 sw_h143 (55, [r0, r1, r2, vi x3, r4, r5, r6, vi x7, vi 0, t9], [], h, kc, ks) Q)   : wr P d sw_c143 sw_h143 (52, [r0, r1, r2, vi x3, r4, r5, r6, vi x7, t8, t9], [], h, kc, ks) Q := by
  refine w_c32 rfl (by decide) 0 (by decide) ?_
  refine w_st (ls' := [r0, r1, r2, vi x3, r4, r5, r6, vi x7, vi 0, t9]) rfl (Or.inl ⟨by decide, rfl⟩) rfl ?_
  exact k

theorem k143_55 {P : s_P} {d : Nat} {Q : s_O → Prop} {h : s_H} {kc ks : Nat} {r0 r1 r2 : Term} {x3 : Int} {r4 r5 r6 : Term} {x7 x8 : Int} {t9 : Term} {q2 : Nat} {f3 : List Term} {z5 : Int} (g4 : s_get h q2 = some (1, 8, f3)) (k1 : z5 ≤ x8 → wr P d sw_c143 sw_h143 (148, [r0, r1, .index q2, vi x3, r4, r5, r6, vi x7, vi x8, t9], [], h, kc, ks) Q) (k2 : ¬ z5 ≤ x8 → wr P d sw_c143 sw_h143 (64, [r0, r1, .index q2, vi x3, r4, r5, r6, vi x7, vi x8, t9], [], h, kc, ks) Q) (e_q2 : r2 = .index q2 := by first | rfl | assumption) (y1 : s_ty r2 = 3 := by first | rfl | assumption) (n6 : s_nth f3 4 = some (vi z5) := by first | rfl | assumption) (c7 : In3 x8 := by first | omega | assumption | (simp only [mk_len, List.length_map]; omega) | decide) (c8 : In3 z5 := by first | omega | assumption | (simp only [mk_len, List.length_map]; omega) | decide) : wr P d sw_c143 sw_h143 (55, [r0, r1, r2, vi x3, r4, r5, r6, vi x7, vi x8, t9], [], h, kc, ks) Q := by
  refine w_ld rfl rfl (Or.inl ⟨by decide, rfl⟩) ?_
  refine w_ld rfl rfl (Or.inr (Or.inr ⟨by decide, y1⟩)) ?_
  subst e_q2
  refine w_getf rfl g4 n6 ?_
  exact w_if2 rfl c7 c8 k1 k2

theorem k143_64 {P : s_P} {d : Nat} {Q : s_O → Prop} {h : s_H} {kc ks : Nat} {r0 r1 r2 : Term} {x3 : Int} {r4 r5 r6 : Term} {x7 x8 : Int} {t9 : Term} {q2 : Nat} {f3 : List Term} (g4 : s_get h q2 = some (1, 4, f3)) (k : wm P d 180 [.index q2, vi 0] h (wq P d sw_c143 sw_h143 70 [r0, r1, r2, vi x3, .index q2, r5, r6, vi x7, vi x8, t9] [] kc ks Q)) (e_q2 : r4 = .index q2 := by first | rfl | assumption) (y1 : s_ty r4 = 3 := by first | rfl | assumption)  : wr P d sw_c143 sw_h143 (64, [r0, r1, r2, vi x3, r4, r5, r6, vi x7, vi x8, t9], [], h, kc, ks) Q := by
  refine w_ld rfl rfl (Or.inr (Or.inr ⟨by decide, y1⟩)) ?_
  refine w_c32 rfl (by decide) 0 (by decide) ?_
  subst e_q2
  exact w_cv rfl [.index q2, vi 0] [] rfl rfl (s_wt_4 rfl) rfl g4 k

theorem k143_70 {P : s_P} {d : Nat} {Q : s_O → Prop} {h : s_H} {kc ks : Nat} {r0 r1 r2 : Term} {x3 : Int} {r4 r5 r6 : Term} {x7 x8 : Int} {t9 : Term}  (k : wr P d sw_c143 sw_h143 (73, [r0, r1, r2, vi x3, r4, r5, r6, vi x7, vi x8, vi 0], [], h, kc, ks) Q)   : wr P d sw_c143 sw_h143 (70, [r0, r1, r2, vi x3, r4, r5, r6, vi x7, vi x8, t9], [], h, kc, ks) Q := by
  refine w_c32 rfl (by decide) 0 (by decide) ?_
  refine w_st (ls' := [r0, r1, r2, vi x3, r4, r5, r6, vi x7, vi x8, vi 0]) rfl (Or.inl ⟨by decide, rfl⟩) rfl ?_
  exact k

theorem k143_73 {P : s_P} {d : Nat} {Q : s_O → Prop} {h : s_H} {kc ks : Nat} {r0 r1 r2 : Term} {x3 : Int} {r4 r5 r6 : Term} {x7 x8 x9 : Int} {q2 : Nat} {f3 : List Term} {z5 : Int} (g4 : s_get h q2 = some (1, 8, f3)) (k1 : z5 ≤ x9 → wr P d sw_c143 sw_h143 (128, [r0, .index q2, r2, vi x3, r4, r5, r6, vi x7, vi x8, vi x9], [], h, kc, ks) Q) (k2 : ¬ z5 ≤ x9 → wr P d sw_c143 sw_h143 (82, [r0, .index q2, r2, vi x3, r4, r5, r6, vi x7, vi x8, vi x9], [], h, kc, ks) Q) (e_q2 : r1 = .index q2 := by first | rfl | assumption) (y1 : s_ty r1 = 3 := by first | rfl | assumption) (n6 : s_nth f3 4 = some (vi z5) := by first | rfl | assumption) (c7 : In3 x9 := by first | omega | assumption | (simp only [mk_len, List.length_map]; omega) | decide) (c8 : In3 z5 := by first | omega | assumption | (simp only [mk_len, List.length_map]; omega) | decide) : wr P d sw_c143 sw_h143 (73, [r0, r1, r2, vi x3, r4, r5, r6, vi x7, vi x8, vi x9], [], h, kc, ks) Q := by
  refine w_ld rfl rfl (Or.inl ⟨by decide, rfl⟩) ?_
  refine w_ld rfl rfl (Or.inr (Or.inr ⟨by decide, y1⟩)) ?_
  subst e_q2
  refine w_getf rfl g4 n6 ?_
  exact w_if2 rfl c7 c8 k1 k2

theorem k143_82 {P : s_P} {d : Nat} {Q : s_O → Prop} {h : s_H} {kc ks : Nat} {r0 r1 r2 : Term} {x3 : Int} {r4 r5 r6 : Term} {x7 x8 x9 : Int} {q2 : Nat} {f3 : List Term} {z5 : Int} (g4 : s_get h q2 = some (1, 8, f3)) (k1 : z5 ≤ x9 → wr P d sw_c143 sw_h143 (128, [r0, r1, .index q2, vi x3, r4, r5, r6, vi x7, vi x8, vi x9], [], h, kc, ks) Q) (k2 : ¬ z5 ≤ x9 → wr P d sw_c143 sw_h143 (91, [r0, r1, .index q2, vi x3, r4, r5, r6, vi x7, vi x8, vi x9], [], h, kc, ks) Q) (e_q2 : r2 = .index q2 := by first | rfl | assumption) (y1 : s_ty r2 = 3 := by first | rfl | assumption) (n6 : s_nth f3 3 = some (vi z5) := by first | rfl | assumption) (c7 : In3 x9 := by first | omega | assumption | (simp only [mk_len, List.length_map]; omega) | decide) (c8 : In3 z5 := by first | omega | assumption | (simp only [mk_len, List.length_map]; omega) | decide) : wr P d sw_c143 sw_h143 (82, [r0, r1, r2, vi x3, r4, r5, r6, vi x7, vi x8, vi x9], [], h, kc, ks) Q := by
  refine w_ld rfl rfl (Or.inl ⟨by decide, rfl⟩) ?_
  refine w_ld rfl rfl (Or.inr (Or.inr ⟨by decide, y1⟩)) ?_
  subst e_q2
  refine w_getf rfl g4 n6 ?_
  exact w_if2 rfl c7 c8 k1 k2

theorem k143_91 {P : s_P} {d : Nat} {Q : s_O → Prop} {h : s_H} {kc ks : Nat} {r0 r1 r2 : Term} {x3 : Int} {r4 r5 r6 : Term} {x7 x8 x9 : Int} {q3 : Nat} {f4 : List Term} (g5 : s_get h q3 = some (1, 8, f4)) (k : wm P d 265 [.index q3, vi x7, vi x9] h (wq P d sw_c143 sw_h143 101 [r0, .index q3, r2, vi x3, r4, r5, r6, vi x7, vi x8, vi x9] [r5] kc ks Q)) (e_q3 : r1 = .index q3 := by first | rfl | assumption) (y1 : s_ty r5 = 3 := by first | rfl | assumption) (y2 : s_ty r1 = 3 := by first | rfl | assumption)  : wr P d sw_c143 sw_h143 (91, [r0, r1, r2, vi x3, r4, r5, r6, vi x7, vi x8, vi x9], [], h, kc, ks) Q := by
  refine w_ld rfl rfl (Or.inr (Or.inr ⟨by decide, y1⟩)) ?_
  refine w_ld rfl rfl (Or.inr (Or.inr ⟨by decide, y2⟩)) ?_
  refine w_ld rfl rfl (Or.inl ⟨by decide, rfl⟩) ?_
  refine w_ld rfl rfl (Or.inl ⟨by decide, rfl⟩) ?_
  subst e_q3
  exact w_cv rfl [.index q3, vi x7, vi x9] [r5] rfl rfl (s_wt_4 rfl) rfl g5 k

theorem k143_101 {P : s_P} {d : Nat} {Q : s_O → Prop} {h : s_H} {kc ks : Nat} {r0 r1 r2 : Term} {x3 : Int} {r4 r5 r6 : Term} {x7 x8 x9 : Int} {s0 s1 : Term} {q2 : Nat} {f3 : List Term} (g4 : s_get h q2 = some (1, 8, f3)) (k : wm P d 265 [.index q2, vi x9, vi x8] h (wq P d sw_c143 sw_h143 109 [r0, r1, .index q2, vi x3, r4, r5, r6, vi x7, vi x8, vi x9] [s1, s0] kc ks Q)) (e_q2 : r2 = .index q2 := by first | rfl | assumption) (y1 : s_ty r2 = 3 := by first | rfl | assumption)  : wr P d sw_c143 sw_h143 (101, [r0, r1, r2, vi x3, r4, r5, r6, vi x7, vi x8, vi x9], [s1, s0], h, kc, ks) Q := by
  refine w_ld rfl rfl (Or.inr (Or.inr ⟨by decide, y1⟩)) ?_
  refine w_ld rfl rfl (Or.inl ⟨by decide, rfl⟩) ?_
  refine w_ld rfl rfl (Or.inl ⟨by decide, rfl⟩) ?_
  subst e_q2
  exact w_cv rfl [.index q2, vi x9, vi x8] [s1, s0] rfl rfl (s_wt_4 rfl) rfl g4 k

theorem k143_109 {P : s_P} {d : Nat} {Q : s_O → Prop} {h : s_H} {kc ks : Nat} {r0 r1 r2 : Term} {x3 : Int} {r4 r5 r6 : Term} {x7 x8 x9 : Int} {s0 s1 s2 : Term} {q1 : Nat} {f2 : List Term} (g3 : s_get h q1 = some (1, 4, f2)) (k : wm P d 182 [.index q1, s1, s2] h (wq P d sw_c143 sw_h143 112 [r0, r1, r2, vi x3, r4, r5, r6, vi x7, vi x8, vi x9] [] kc ks Q)) (e_q1 : s0 = .index q1 := by first | rfl | assumption)  : wr P d sw_c143 sw_h143 (109, [r0, r1, r2, vi x3, r4, r5, r6, vi x7, vi x8, vi x9], [s2, s1, s0], h, kc, ks) Q := by
  subst e_q1
  exact w_cv rfl [.index q1, s1, s2] [] rfl rfl (s_wt_4 rfl) rfl g3 k

theorem k143_112 {P : s_P} {d : Nat} {Q : s_O → Prop} {h : s_H} {kc ks : Nat} {r0 r1 r2 : Term} {x3 : Int} {r4 r5 r6 : Term} {x7 x8 x9 : Int} {q3 : Nat} {f4 : List Term} (g5 : s_get h q3 = some (1, 4, f4)) (k : wm P d 184 [.index q3, .index q3, r5, vi 1] h (wq P d sw_c143 sw_h143 122 [r0, r1, r2, vi x3, .index q3, r5, r6, vi x7, vi x8, vi x9] [] kc ks Q)) (e_q3 : r4 = .index q3 := by first | rfl | assumption) (y1 : s_ty r4 = 3 := by first | rfl | assumption) (y2 : s_ty r5 = 3 := by first | rfl | assumption)  : wr P d sw_c143 sw_h143 (112, [r0, r1, r2, vi x3, r4, r5, r6, vi x7, vi x8, vi x9], [], h, kc, ks) Q := by
  refine w_ld rfl rfl (Or.inr (Or.inr ⟨by decide, y1⟩)) ?_
  refine w_ld rfl rfl (Or.inr (Or.inr ⟨by decide, y1⟩)) ?_
  refine w_ld rfl rfl (Or.inr (Or.inr ⟨by decide, y2⟩)) ?_
  refine w_c32 rfl (by decide) 1 (by decide) ?_
  subst e_q3
  exact w_cv rfl [.index q3, .index q3, r5, vi 1] [] rfl rfl (s_wt_4 rfl) rfl g5 k

theorem k143_122 {P : s_P} {d : Nat} {Q : s_O → Prop} {h : s_H} {kc ks : Nat} {r0 r1 r2 : Term} {x3 : Int} {r4 r5 r6 : Term} {x7 x8 x9 : Int}  (k : wr P d sw_c143 sw_h143 (73, [r0, r1, r2, vi x3, r4, r5, r6, vi x7, vi x8, vi (x9 + 1)], [], h, kc, ks) Q)   : wr P d sw_c143 sw_h143 (122, [r0, r1, r2, vi x3, r4, r5, r6, vi x7, vi x8, vi x9], [], h, kc, ks) Q := by
  refine w_iinc (ls' := [r0, r1, r2, vi x3, r4, r5, r6, vi x7, vi x8, vi (x9 + 1)]) rfl rfl 1 (by decide) rfl ?_
  refine w_goto rfl ?_
  exact k

theorem k143_128 {P : s_P} {d : Nat} {Q : s_O → Prop} {h : s_H} {kc ks : Nat} {r0 r1 r2 : Term} {x3 : Int} {r4 r5 r6 : Term} {x7 x8 x9 : Int} {q3 : Nat} {f4 : List Term} (g5 : s_get h q3 = some (1, 4, f4)) (k : wm P d 170 [.index q3] h (wq P d sw_c143 sw_h143 139 [r0, r1, r2, vi x3, .index q3, r5, r6, vi x7, vi x8, vi x9] [vi x8, vi x7, r6] kc ks Q)) (e_q3 : r4 = .index q3 := by first | rfl | assumption) (y1 : s_ty r6 = 3 := by first | rfl | assumption) (y2 : s_ty r4 = 3 := by first | rfl | assumption)  : wr P d sw_c143 sw_h143 (128, [r0, r1, r2, vi x3, r4, r5, r6, vi x7, vi x8, vi x9], [], h, kc, ks) Q := by
  refine w_ld rfl rfl (Or.inr (Or.inr ⟨by decide, y1⟩)) ?_
  refine w_ld rfl rfl (Or.inl ⟨by decide, rfl⟩) ?_
  refine w_ld rfl rfl (Or.inl ⟨by decide, rfl⟩) ?_
  refine w_ld rfl rfl (Or.inr (Or.inr ⟨by decide, y2⟩)) ?_
  subst e_q3
  exact w_cv rfl [.index q3] [vi x8, vi x7, r6] rfl rfl (s_wt_4 rfl) rfl g5 k

theorem k143_139 {P : s_P} {d : Nat} {Q : s_O → Prop} {h : s_H} {kc ks : Nat} {r0 r1 r2 : Term} {x3 : Int} {r4 r5 r6 : Term} {x7 x8 x9 : Int} {s0 : Term} {s1 s2 : Int} {s3 : Term} {q1 : Nat} {f2 : List Term} (g3 : s_get h q1 = some (1, 8, f2)) (k : wm P d 271 [.index q1, vi s1, vi s2, s3] h (wq P d sw_c143 sw_h143 142 [r0, r1, r2, vi x3, r4, r5, r6, vi x7, vi x8, vi x9] [] kc ks Q)) (e_q1 : s0 = .index q1 := by first | rfl | assumption)  : wr P d sw_c143 sw_h143 (139, [r0, r1, r2, vi x3, r4, r5, r6, vi x7, vi x8, vi x9], [s3, vi s2, vi s1, s0], h, kc, ks) Q := by
  subst e_q1
  exact w_cv rfl [.index q1, vi s1, vi s2, s3] [] rfl rfl (s_wt_4 rfl) rfl g3 k

theorem k143_142 {P : s_P} {d : Nat} {Q : s_O → Prop} {h : s_H} {kc ks : Nat} {r0 r1 r2 : Term} {x3 : Int} {r4 r5 r6 : Term} {x7 x8 x9 : Int}  (k : wr P d sw_c143 sw_h143 (55, [r0, r1, r2, vi x3, r4, r5, r6, vi x7, vi (x8 + 1), vi x9], [], h, kc, ks) Q)   : wr P d sw_c143 sw_h143 (142, [r0, r1, r2, vi x3, r4, r5, r6, vi x7, vi x8, vi x9], [], h, kc, ks) Q := by
  refine w_iinc (ls' := [r0, r1, r2, vi x3, r4, r5, r6, vi x7, vi (x8 + 1), vi x9]) rfl rfl 1 (by decide) rfl ?_
  refine w_goto rfl ?_
  exact k

theorem k143_148 {P : s_P} {d : Nat} {Q : s_O → Prop} {h : s_H} {kc ks : Nat} {r0 r1 r2 : Term} {x3 : Int} {r4 r5 r6 : Term} {x7 x8 : Int} {t9 : Term}  (k : wr P d sw_c143 sw_h143 (43, [r0, r1, r2, vi x3, r4, r5, r6, vi (x7 + 1), vi x8, t9], [], h, kc, ks) Q) (y1 : s_ty r6 = 3 := by first | rfl | assumption)  : wr P d sw_c143 sw_h143 (148, [r0, r1, r2, vi x3, r4, r5, r6, vi x7, vi x8, t9], [], h, kc, ks) Q := by
  refine w_iinc (ls' := [r0, r1, r2, vi x3, r4, r5, r6, vi (x7 + 1), vi x8, t9]) rfl rfl 1 (by decide) (s_stK_r (pre := [r0, r1, r2, vi x3, r4, r5]) y1) ?_
  refine w_goto rfl ?_
  exact k

theorem k143_154 {P : s_P} {d : Nat} {Q : s_O → Prop} {h : s_H} {kc ks : Nat} {r0 r1 r2 : Term} {x3 : Int} {r4 r5 r6 : Term} {x7 : Int} {t8 t9 : Term} {q2 : Nat} {f3 : List Term} {v5 : Term} {q7 : Nat} {f8 : List Term} (g4 : s_get h q2 = some (1, 2, f3)) (g9 : s_get h q7 = some (1, 0, f8)) (k : wm P d 113 [.index q7, vi x3] h (wq P d sw_c143 sw_h143 162 [.index q2, r1, r2, vi x3, r4, r5, r6, vi x7, t8, t9] [] kc ks Q)) (e_q2 : r0 = .index q2 := by first | rfl | assumption) (e_q7 : v5 = .index q7 := by first | rfl | assumption) (y1 : s_ty r0 = 3 := by first | rfl | assumption) (n6 : s_nth f3 0 = some v5 := by first | rfl | assumption)  : wr P d sw_c143 sw_h143 (154, [r0, r1, r2, vi x3, r4, r5, r6, vi x7, t8, t9], [], h, kc, ks) Q := by
  refine w_ld rfl rfl (Or.inr (Or.inr ⟨by decide, y1⟩)) ?_
  subst e_q2
  refine w_getf rfl g4 n6 ?_
  refine w_ld rfl rfl (Or.inl ⟨by decide, rfl⟩) ?_
  subst e_q7
  exact w_cv rfl [.index q7, vi x3] [] rfl rfl (s_wt_4 rfl) rfl g9 k

theorem k143_162 {P : s_P} {d : Nat} {Q : s_O → Prop} {h : s_H} {kc ks : Nat} {r0 r1 r2 : Term} {x3 : Int} {r4 r5 r6 : Term} {x7 : Int} {t8 t9 : Term}  (k : Q (.inl (some r6), h, kc, ks)) (y1 : s_ty r6 = 3 := by first | rfl | assumption)  : wr P d sw_c143 sw_h143 (162, [r0, r1, r2, vi x3, r4, r5, r6, vi x7, t8, t9], [], h, kc, ks) Q := by
  refine w_ld rfl rfl (Or.inr (Or.inr ⟨by decide, y1⟩)) ?_
  exact w_aret rfl y1 k

/-! 144: FormulaWorks$Minors.rankOf(LFormulaWorks$Thing;)I -/
theorem k144_0 {P : s_P} {d : Nat} {Q : s_O → Prop} {h : s_H} {kc ks : Nat} {r0 r1 : Term} {q3 : Nat} {f4 : List Term} (g5 : s_get h q3 = some (1, 2, f4)) (k : wm P d 149 [.index q3, r1] h (wq P d sw_c144 sw_h144 5 [.index q3, r1] [] kc ks Q)) (e_q3 : r0 = .index q3 := by first | rfl | assumption) (y1 : s_ty r0 = 3 := by first | rfl | assumption) (y2 : s_ty r1 = 3 := by first | rfl | assumption)  : wr P d sw_c144 sw_h144 (0, [r0, r1], [], h, kc, ks) Q := by
  refine w_ld rfl rfl (Or.inr (Or.inr ⟨by decide, y1⟩)) ?_
  refine w_ld rfl rfl (Or.inr (Or.inr ⟨by decide, y2⟩)) ?_
  subst e_q3
  exact w_cv rfl [.index q3, r1] [] rfl rfl (s_wt_4 rfl) rfl g5 k

theorem k144_5 {P : s_P} {d : Nat} {Q : s_O → Prop} {h : s_H} {kc ks : Nat} {r0 r1 : Term} {q3 : Nat} {f4 : List Term} (g5 : s_get h q3 = some (1, 2, f4)) (k : wm P d 135 [.index q3, r1, vi 15] h (wq P d sw_c144 sw_h144 12 [.index q3, r1] [] kc ks Q)) (e_q3 : r0 = .index q3 := by first | rfl | assumption) (y1 : s_ty r0 = 3 := by first | rfl | assumption) (y2 : s_ty r1 = 3 := by first | rfl | assumption)  : wr P d sw_c144 sw_h144 (5, [r0, r1], [], h, kc, ks) Q := by
  refine w_ld rfl rfl (Or.inr (Or.inr ⟨by decide, y1⟩)) ?_
  refine w_ld rfl rfl (Or.inr (Or.inr ⟨by decide, y2⟩)) ?_
  refine w_c32 rfl (by decide) 15 (by decide) ?_
  subst e_q3
  exact w_cv rfl [.index q3, r1, vi 15] [] rfl rfl (s_wt_4 rfl) rfl g5 k

theorem k144_12 {P : s_P} {d : Nat} {Q : s_O → Prop} {h : s_H} {kc ks : Nat} {r0 r1 : Term} {s0 : Int}  (k : wm P d 622 [vi s0] h (wq P d sw_c144 sw_h144 15 [r0, r1] [] kc ks Q))   : wr P d sw_c144 sw_h144 (12, [r0, r1], [vi s0], h, kc, ks) Q := by
  exact w_cs rfl [vi s0] [] rfl rfl (s_wt_4 rfl) k

theorem k144_15 {P : s_P} {d : Nat} {Q : s_O → Prop} {h : s_H} {kc ks : Nat} {r0 r1 : Term} {s0 : Int}  (k : Q (.inl (some (vi s0)), h, kc, ks))   : wr P d sw_c144 sw_h144 (15, [r0, r1], [vi s0], h, kc, ks) Q := by
  exact w_iret rfl k

/-! 145: FormulaWorks$Minors.setDivisor(LFormulaWorks$Thing;ILFormulaWorks$Poly;)V -/
theorem k145_0 {P : s_P} {d : Nat} {Q : s_O → Prop} {h : s_H} {kc ks : Nat} {r0 r1 : Term} {x2 : Int} {r3 t4 t5 : Term} {q2 : Nat} {f3 : List Term} (g4 : s_get h q2 = some (1, 4, f3)) (k : wm P d 180 [.index q2, vi 0] h (wq P d sw_c145 sw_h145 5 [r0, r1, vi x2, .index q2, t4, t5] [] kc ks Q)) (e_q2 : r3 = .index q2 := by first | rfl | assumption) (y1 : s_ty r3 = 3 := by first | rfl | assumption)  : wr P d sw_c145 sw_h145 (0, [r0, r1, vi x2, r3, t4, t5], [], h, kc, ks) Q := by
  refine w_ld rfl rfl (Or.inr (Or.inr ⟨by decide, y1⟩)) ?_
  refine w_c32 rfl (by decide) 0 (by decide) ?_
  subst e_q2
  exact w_cv rfl [.index q2, vi 0] [] rfl rfl (s_wt_4 rfl) rfl g4 k

theorem k145_5 {P : s_P} {d : Nat} {Q : s_O → Prop} {h : s_H} {kc ks : Nat} {r0 r1 : Term} {x2 : Int} {r3 t4 t5 : Term}  (k : wr P d sw_c145 sw_h145 (8, [r0, r1, vi x2, r3, vi 0, t5], [], h, kc, ks) Q) (y1 : s_ty r3 = 3 := by first | rfl | assumption)  : wr P d sw_c145 sw_h145 (5, [r0, r1, vi x2, r3, t4, t5], [], h, kc, ks) Q := by
  refine w_c32 rfl (by decide) 0 (by decide) ?_
  refine w_st (ls' := [r0, r1, vi x2, r3, vi 0, t5]) rfl (Or.inl ⟨by decide, rfl⟩) (s_stK_r (pre := [r0, r1, vi x2]) y1) ?_
  exact k

theorem k145_8 {P : s_P} {d : Nat} {Q : s_O → Prop} {h : s_H} {kc ks : Nat} {r0 r1 : Term} {x2 : Int} {r3 : Term} {x4 : Int} {t5 : Term} {q2 : Nat} {f3 : List Term} {z5 : Int} (g4 : s_get h q2 = some (1, 8, f3)) (k1 : zi 27 1 z5 ≤ x4 → wr P d sw_c145 sw_h145 (99, [r0, .index q2, vi x2, r3, vi x4, t5], [], h, kc, ks) Q) (k2 : ¬ zi 27 1 z5 ≤ x4 → wr P d sw_c145 sw_h145 (19, [r0, .index q2, vi x2, r3, vi x4, t5], [], h, kc, ks) Q) (e_q2 : r1 = .index q2 := by first | rfl | assumption) (y1 : s_ty r1 = 3 := by first | rfl | assumption) (n6 : s_nth f3 3 = some (vi z5) := by first | rfl | assumption) (c7 : In3 x4 := by first | omega | assumption | (simp only [mk_len, List.length_map]; omega) | decide) (c8 : In3 (zi 27 1 z5) := by first | omega | assumption | (simp only [mk_len, List.length_map]; omega) | decide) : wr P d sw_c145 sw_h145 (8, [r0, r1, vi x2, r3, vi x4, t5], [], h, kc, ks) Q := by
  refine w_ld rfl rfl (Or.inl ⟨by decide, rfl⟩) ?_
  refine w_c32 rfl (by decide) 1 (by decide) ?_
  refine w_ld rfl rfl (Or.inr (Or.inr ⟨by decide, y1⟩)) ?_
  subst e_q2
  refine w_getf rfl g4 n6 ?_
  refine w_ib rfl (by decide) ?_
  exact w_if2 rfl c7 c8 k1 k2

theorem k145_19 {P : s_P} {d : Nat} {Q : s_O → Prop} {h : s_H} {kc ks : Nat} {r0 r1 : Term} {x2 : Int} {r3 : Term} {x4 : Int} {t5 : Term}  (k : wm P d 622 [vi x4] h (wq P d sw_c145 sw_h145 24 [r0, r1, vi x2, r3, vi x4, t5] [] kc ks Q))   : wr P d sw_c145 sw_h145 (19, [r0, r1, vi x2, r3, vi x4, t5], [], h, kc, ks) Q := by
  refine w_ld rfl rfl (Or.inl ⟨by decide, rfl⟩) ?_
  exact w_cs rfl [vi x4] [] rfl rfl (s_wt_4 rfl) k

theorem k145_24 {P : s_P} {d : Nat} {Q : s_O → Prop} {h : s_H} {kc ks : Nat} {r0 r1 : Term} {x2 : Int} {r3 : Term} {x4 : Int} {t5 : Term} {s0 : Int}  (k1 : s0 = x2 → wr P d sw_c145 sw_h145 (31, [r0, r1, vi x2, r3, vi x4, t5], [], h, kc, ks) Q) (k2 : ¬ s0 = x2 → wr P d sw_c145 sw_h145 (28, [r0, r1, vi x2, r3, vi x4, t5], [], h, kc, ks) Q)  (c1 : In3 s0 := by first | omega | assumption | (simp only [mk_len, List.length_map]; omega) | decide) (c2 : In3 x2 := by first | omega | assumption | (simp only [mk_len, List.length_map]; omega) | decide) : wr P d sw_c145 sw_h145 (24, [r0, r1, vi x2, r3, vi x4, t5], [vi s0], h, kc, ks) Q := by
  refine w_ld rfl rfl (Or.inl ⟨by decide, rfl⟩) ?_
  exact w_if2 rfl c1 c2 k1 k2

theorem k145_28 {P : s_P} {d : Nat} {Q : s_O → Prop} {h : s_H} {kc ks : Nat} {r0 r1 : Term} {x2 : Int} {r3 : Term} {x4 : Int} {t5 : Term}  (k : wr P d sw_c145 sw_h145 (93, [r0, r1, vi x2, r3, vi x4, t5], [], h, kc, ks) Q)   : wr P d sw_c145 sw_h145 (28, [r0, r1, vi x2, r3, vi x4, t5], [], h, kc, ks) Q := by
  refine w_goto rfl ?_
  exact k

theorem k145_31 {P : s_P} {d : Nat} {Q : s_O → Prop} {h : s_H} {kc ks : Nat} {r0 r1 : Term} {x2 : Int} {r3 : Term} {x4 : Int} {t5 : Term} {q3 : Nat} {f4 : List Term} (g5 : s_get h q3 = some (1, 2, f4)) (k : wm P d 139 [.index q3, r1, vi x4] h (wq P d sw_c145 sw_h145 38 [.index q3, r1, vi x2, r3, vi x4, t5] [] kc ks Q)) (e_q3 : r0 = .index q3 := by first | rfl | assumption) (y1 : s_ty r0 = 3 := by first | rfl | assumption) (y2 : s_ty r1 = 3 := by first | rfl | assumption)  : wr P d sw_c145 sw_h145 (31, [r0, r1, vi x2, r3, vi x4, t5], [], h, kc, ks) Q := by
  refine w_ld rfl rfl (Or.inr (Or.inr ⟨by decide, y1⟩)) ?_
  refine w_ld rfl rfl (Or.inr (Or.inr ⟨by decide, y2⟩)) ?_
  refine w_ld rfl rfl (Or.inl ⟨by decide, rfl⟩) ?_
  subst e_q3
  exact w_cv rfl [.index q3, r1, vi x4] [] rfl rfl (s_wt_4 rfl) rfl g5 k

theorem k145_38 {P : s_P} {d : Nat} {Q : s_O → Prop} {h : s_H} {kc ks : Nat} {r0 r1 : Term} {x2 : Int} {r3 : Term} {x4 : Int} {t5 : Term}  (k : wr P d sw_c145 sw_h145 (41, [r0, r1, vi x2, r3, vi x4, vi 0], [], h, kc, ks) Q)   : wr P d sw_c145 sw_h145 (38, [r0, r1, vi x2, r3, vi x4, t5], [], h, kc, ks) Q := by
  refine w_c32 rfl (by decide) 0 (by decide) ?_
  refine w_st (ls' := [r0, r1, vi x2, r3, vi x4, vi 0]) rfl (Or.inl ⟨by decide, rfl⟩) rfl ?_
  exact k

theorem k145_41 {P : s_P} {d : Nat} {Q : s_O → Prop} {h : s_H} {kc ks : Nat} {r0 r1 : Term} {x2 : Int} {r3 : Term} {x4 x5 : Int} {q2 : Nat} {f3 : List Term} {z5 : Int} (g4 : s_get h q2 = some (1, 8, f3)) (k1 : zi 27 1 z5 ≤ x5 → wr P d sw_c145 sw_h145 (93, [r0, .index q2, vi x2, r3, vi x4, vi x5], [], h, kc, ks) Q) (k2 : ¬ zi 27 1 z5 ≤ x5 → wr P d sw_c145 sw_h145 (52, [r0, .index q2, vi x2, r3, vi x4, vi x5], [], h, kc, ks) Q) (e_q2 : r1 = .index q2 := by first | rfl | assumption) (y1 : s_ty r1 = 3 := by first | rfl | assumption) (n6 : s_nth f3 4 = some (vi z5) := by first | rfl | assumption) (c7 : In3 x5 := by first | omega | assumption | (simp only [mk_len, List.length_map]; omega) | decide) (c8 : In3 (zi 27 1 z5) := by first | omega | assumption | (simp only [mk_len, List.length_map]; omega) | decide) : wr P d sw_c145 sw_h145 (41, [r0, r1, vi x2, r3, vi x4, vi x5], [], h, kc, ks) Q := by
  refine w_ld rfl rfl (Or.inl ⟨by decide, rfl⟩) ?_
  refine w_c32 rfl (by decide) 1 (by decide) ?_
  refine w_ld rfl rfl (Or.inr (Or.inr ⟨by decide, y1⟩)) ?_
  subst e_q2
  refine w_getf rfl g4 n6 ?_
  refine w_ib rfl (by decide) ?_
  exact w_if2 rfl c7 c8 k1 k2

theorem k145_52 {P : s_P} {d : Nat} {Q : s_O → Prop} {h : s_H} {kc ks : Nat} {r0 r1 : Term} {x2 : Int} {r3 : Term} {x4 x5 : Int} {q2 : Nat} {f3 : List Term} {v5 : Term} {q7 : Nat} {a8 : List Term} {tg10 : Nat} (g4 : s_get h q2 = some (1, 2, f3)) (g9 : s_get h q7 = some (0, tg10, a8)) (k1 : (a8.length : Int) ≤ x5 → wr P d sw_c145 sw_h145 (93, [.index q2, r1, vi x2, r3, vi x4, vi x5], [], h, kc, ks) Q) (k2 : ¬ (a8.length : Int) ≤ x5 → wr P d sw_c145 sw_h145 (62, [.index q2, r1, vi x2, r3, vi x4, vi x5], [], h, kc, ks) Q) (e_q2 : r0 = .index q2 := by first | rfl | assumption) (e_q7 : v5 = .index q7 := by first | rfl | assumption) (y1 : s_ty r0 = 3 := by first | rfl | assumption) (n6 : s_nth f3 1 = some v5 := by first | rfl | assumption) (c11 : In3 x5 := by first | omega | assumption | (simp only [mk_len, List.length_map]; omega) | decide) (c12 : In3 (a8.length : Int) := by first | omega | assumption | (simp only [mk_len, List.length_map]; omega) | decide) : wr P d sw_c145 sw_h145 (52, [r0, r1, vi x2, r3, vi x4, vi x5], [], h, kc, ks) Q := by
  refine w_ld rfl rfl (Or.inl ⟨by decide, rfl⟩) ?_
  refine w_ld rfl rfl (Or.inr (Or.inr ⟨by decide, y1⟩)) ?_
  subst e_q2
  refine w_getf rfl g4 n6 ?_
  subst e_q7
  refine w_alen rfl g9 (Or.inl rfl) ?_
  exact w_if2 rfl c11 c12 k1 k2

theorem k145_62 {P : s_P} {d : Nat} {Q : s_O → Prop} {h : s_H} {kc ks : Nat} {r0 r1 : Term} {x2 : Int} {r3 : Term} {x4 x5 : Int}  (k : wm P d 622 [vi x5] h (wq P d sw_c145 sw_h145 67 [r0, r1, vi x2, r3, vi x4, vi x5] [] kc ks Q))   : wr P d sw_c145 sw_h145 (62, [r0, r1, vi x2, r3, vi x4, vi x5], [], h, kc, ks) Q := by
  refine w_ld rfl rfl (Or.inl ⟨by decide, rfl⟩) ?_
  exact w_cs rfl [vi x5] [] rfl rfl (s_wt_4 rfl) k

theorem k145_67 {P : s_P} {d : Nat} {Q : s_O → Prop} {h : s_H} {kc ks : Nat} {r0 r1 : Term} {x2 : Int} {r3 : Term} {x4 x5 s0 : Int}  (k1 : s0 ≠ x2 → wr P d sw_c145 sw_h145 (87, [r0, r1, vi x2, r3, vi x4, vi x5], [], h, kc, ks) Q) (k2 : ¬ s0 ≠ x2 → wr P d sw_c145 sw_h145 (71, [r0, r1, vi x2, r3, vi x4, vi x5], [], h, kc, ks) Q)  (c1 : In3 s0 := by first | omega | assumption | (simp only [mk_len, List.length_map]; omega) | decide) (c2 : In3 x2 := by first | omega | assumption | (simp only [mk_len, List.length_map]; omega) | decide) : wr P d sw_c145 sw_h145 (67, [r0, r1, vi x2, r3, vi x4, vi x5], [vi s0], h, kc, ks) Q := by
  refine w_ld rfl rfl (Or.inl ⟨by decide, rfl⟩) ?_
  exact w_if2 rfl c1 c2 k1 k2

theorem k145_71 {P : s_P} {d : Nat} {Q : s_O → Prop} {h : s_H} {kc ks : Nat} {r0 r1 : Term} {x2 : Int} {r3 : Term} {x4 x5 : Int} {q2 : Nat} {f3 : List Term} {v5 v8 : Term} {q10 : Nat} {a11 : List Term} {tg13 : Nat} {v14 : Term} {q19 : Nat} {f20 : List Term} (g4 : s_get h q2 = some (1, 2, f3)) (g12 : s_get h q10 = some (0, tg13, a11)) (g21 : s_get h q19 = some (1, 0, f20)) (k : wm P d 116 [.index q19, r3, v14, r3] h (wq P d sw_c145 sw_h145 87 [.index q2, r1, vi x2, r3, vi x4, vi x5] [] kc ks Q)) (e_q2 : r0 = .index q2 := by first | rfl | assumption) (e_q10 : v8 = .index q10 := by first | rfl | assumption) (e_q19 : v5 = .index q19 := by first | rfl | assumption) (y1 : s_ty r0 = 3 := by first | rfl | assumption) (n6 : s_nth f3 0 = some v5 := by first | rfl | assumption) (y7 : s_ty r3 = 3 := by first | rfl | assumption) (n9 : s_nth f3 1 = some v8 := by first | rfl | assumption) (n15 : s_nth a11 (Int.toNat (x5)) = some v14 := by first | rfl | assumption) (u16 : tg13 = 2 ∨ tg13 = 3 ∨ tg13 = 4 := by first | decide | assumption) (c17 : In3 x5 := by first | omega | assumption | (simp only [mk_len, List.length_map]; omega) | decide) (c18 : 0 ≤ x5 := by first | omega | assumption | (simp only [mk_len, List.length_map]; omega) | decide) : wr P d sw_c145 sw_h145 (71, [r0, r1, vi x2, r3, vi x4, vi x5], [], h, kc, ks) Q := by
  refine w_ld rfl rfl (Or.inr (Or.inr ⟨by decide, y1⟩)) ?_
  subst e_q2
  refine w_getf rfl g4 n6 ?_
  refine w_ld rfl rfl (Or.inr (Or.inr ⟨by decide, y7⟩)) ?_
  refine w_ld rfl rfl (Or.inr (Or.inr ⟨by decide, rfl⟩)) ?_
  refine w_getf rfl g4 n9 ?_
  refine w_ld rfl rfl (Or.inl ⟨by decide, rfl⟩) ?_
  subst e_q10
  refine w_aald rfl g12 u16 c17 c18 n15 ?_
  refine w_ld rfl rfl (Or.inr (Or.inr ⟨by decide, y7⟩)) ?_
  subst e_q19
  exact w_cv rfl [.index q19, r3, v14, r3] [] rfl rfl (s_wt_4 rfl) rfl g21 k

theorem k145_87 {P : s_P} {d : Nat} {Q : s_O → Prop} {h : s_H} {kc ks : Nat} {r0 r1 : Term} {x2 : Int} {r3 : Term} {x4 x5 : Int}  (k : wr P d sw_c145 sw_h145 (41, [r0, r1, vi x2, r3, vi x4, vi (x5 + 1)], [], h, kc, ks) Q)   : wr P d sw_c145 sw_h145 (87, [r0, r1, vi x2, r3, vi x4, vi x5], [], h, kc, ks) Q := by
  refine w_iinc (ls' := [r0, r1, vi x2, r3, vi x4, vi (x5 + 1)]) rfl rfl 1 (by decide) rfl ?_
  refine w_goto rfl ?_
  exact k

theorem k145_93 {P : s_P} {d : Nat} {Q : s_O → Prop} {h : s_H} {kc ks : Nat} {r0 r1 : Term} {x2 : Int} {r3 : Term} {x4 : Int} {t5 : Term}  (k : wr P d sw_c145 sw_h145 (8, [r0, r1, vi x2, r3, vi (x4 + 1), t5], [], h, kc, ks) Q) (y1 : s_ty r3 = 3 := by first | rfl | assumption)  : wr P d sw_c145 sw_h145 (93, [r0, r1, vi x2, r3, vi x4, t5], [], h, kc, ks) Q := by
  refine w_iinc (ls' := [r0, r1, vi x2, r3, vi (x4 + 1), t5]) rfl rfl 1 (by decide) (s_stK_r (pre := [r0, r1, vi x2]) y1) ?_
  refine w_goto rfl ?_
  exact k

theorem k145_99 {P : s_P} {d : Nat} {Q : s_O → Prop} {h : s_H} {kc ks : Nat} {r0 r1 : Term} {x2 : Int} {r3 : Term} {x4 : Int} {t5 : Term}  (k : Q (.inl none, h, kc, ks))   : wr P d sw_c145 sw_h145 (99, [r0, r1, vi x2, r3, vi x4, t5], [], h, kc, ks) Q := by
  exact w_ret rfl k

/-! 146: FormulaWorks$Minors.setInvariant(LFormulaWorks$Thing;ILFormulaWorks$Poly;)V -/
theorem k146_0 {P : s_P} {d : Nat} {Q : s_O → Prop} {h : s_H} {kc ks : Nat} {r0 r1 : Term} {x2 : Int} {r3 t4 t5 : Term} {q2 : Nat} {f3 : List Term} {v5 : Term} {q7 : Nat} {f8 : List Term} (g4 : s_get h q2 = some (1, 2, f3)) (g9 : s_get h q7 = some (1, 0, f8)) (k : wm P d 110 [.index q7] h (wq P d sw_c146 sw_h146 7 [.index q2, r1, vi x2, r3, t4, t5] [] kc ks Q)) (e_q2 : r0 = .index q2 := by first | rfl | assumption) (e_q7 : v5 = .index q7 := by first | rfl | assumption) (y1 : s_ty r0 = 3 := by first | rfl | assumption) (n6 : s_nth f3 0 = some v5 := by first | rfl | assumption)  : wr P d sw_c146 sw_h146 (0, [r0, r1, vi x2, r3, t4, t5], [], h, kc, ks) Q := by
  refine w_ld rfl rfl (Or.inr (Or.inr ⟨by decide, y1⟩)) ?_
  subst e_q2
  refine w_getf rfl g4 n6 ?_
  subst e_q7
  exact w_cv rfl [.index q7] [] rfl rfl (s_wt_4 rfl) rfl g9 k

theorem k146_7 {P : s_P} {d : Nat} {Q : s_O → Prop} {h : s_H} {kc ks : Nat} {r0 r1 : Term} {x2 : Int} {r3 t4 t5 : Term} {s0 : Int} {q3 : Nat} {f4 : List Term} {v6 : Term} {q8 : Nat} {f9 : List Term} (g5 : s_get h q3 = some (1, 2, f4)) (g10 : s_get h q8 = some (1, 0, f9)) (k : wm P d 109 [.index q8] h (wq P d sw_c146 sw_h146 16 [.index q3, r1, vi x2, r3, vi s0, t5] [] kc ks Q)) (e_q3 : r0 = .index q3 := by first | rfl | assumption) (e_q8 : v6 = .index q8 := by first | rfl | assumption) (y1 : s_ty r3 = 3 := by first | rfl | assumption) (y2 : s_ty r0 = 3 := by first | rfl | assumption) (n7 : s_nth f4 0 = some v6 := by first | rfl | assumption)  : wr P d sw_c146 sw_h146 (7, [r0, r1, vi x2, r3, t4, t5], [vi s0], h, kc, ks) Q := by
  refine w_st (ls' := [r0, r1, vi x2, r3, vi s0, t5]) rfl (Or.inl ⟨by decide, rfl⟩) (s_stK_r (pre := [r0, r1, vi x2]) y1) ?_
  refine w_ld rfl rfl (Or.inr (Or.inr ⟨by decide, y2⟩)) ?_
  subst e_q3
  refine w_getf rfl g5 n7 ?_
  subst e_q8
  exact w_cv rfl [.index q8] [] rfl rfl (s_wt_4 rfl) rfl g10 k

theorem k146_16 {P : s_P} {d : Nat} {Q : s_O → Prop} {h : s_H} {kc ks : Nat} {r0 r1 : Term} {x2 : Int} {r3 : Term} {x4 : Int} {t5 s0 : Term} {q4 : Nat} {f5 : List Term} (g6 : s_get h q4 = some (1, 2, f5)) (k : wm P d 145 [.index q4, r1, vi x2, s0] h (wq P d sw_c146 sw_h146 26 [.index q4, r1, vi x2, r3, vi x4, s0] [] kc ks Q)) (e_q4 : r0 = .index q4 := by first | rfl | assumption) (y1 : s_ty s0 = 3 := by first | rfl | assumption) (y2 : s_ty r0 = 3 := by first | rfl | assumption) (y3 : s_ty r1 = 3 := by first | rfl | assumption)  : wr P d sw_c146 sw_h146 (16, [r0, r1, vi x2, r3, vi x4, t5], [s0], h, kc, ks) Q := by
  refine w_st (ls' := [r0, r1, vi x2, r3, vi x4, s0]) rfl (Or.inr ⟨by decide, y1⟩) rfl ?_
  refine w_ld rfl rfl (Or.inr (Or.inr ⟨by decide, y2⟩)) ?_
  refine w_ld rfl rfl (Or.inr (Or.inr ⟨by decide, y3⟩)) ?_
  refine w_ld rfl rfl (Or.inl ⟨by decide, rfl⟩) ?_
  refine w_ld rfl rfl (Or.inr (Or.inr ⟨by decide, y1⟩)) ?_
  subst e_q4
  exact w_cv rfl [.index q4, r1, vi x2, s0] [] rfl rfl (s_wt_4 rfl) rfl g6 k

theorem k146_26 {P : s_P} {d : Nat} {Q : s_O → Prop} {h : s_H} {kc ks : Nat} {r0 r1 : Term} {x2 : Int} {r3 : Term} {x4 : Int} {r5 : Term} {q4 : Nat} {f5 : List Term} (g6 : s_get h q4 = some (1, 2, f5)) (k : wm P d 145 [.index q4, r1, vi (x2 + 1), r3] h (wq P d sw_c146 sw_h146 35 [.index q4, r1, vi x2, r3, vi x4, r5] [] kc ks Q)) (e_q4 : r0 = .index q4 := by first | rfl | assumption) (y1 : s_ty r0 = 3 := by first | rfl | assumption) (y2 : s_ty r1 = 3 := by first | rfl | assumption) (y3 : s_ty r3 = 3 := by first | rfl | assumption)  : wr P d sw_c146 sw_h146 (26, [r0, r1, vi x2, r3, vi x4, r5], [], h, kc, ks) Q := by
  refine w_ld rfl rfl (Or.inr (Or.inr ⟨by decide, y1⟩)) ?_
  refine w_ld rfl rfl (Or.inr (Or.inr ⟨by decide, y2⟩)) ?_
  refine w_ld rfl rfl (Or.inl ⟨by decide, rfl⟩) ?_
  refine w_c32 rfl (by decide) 1 (by decide) ?_
  refine w_iadd rfl ?_
  refine w_ld rfl rfl (Or.inr (Or.inr ⟨by decide, y3⟩)) ?_
  subst e_q4
  exact w_cv rfl [.index q4, r1, vi (x2 + 1), r3] [] rfl rfl (s_wt_4 rfl) rfl g6 k

theorem k146_35 {P : s_P} {d : Nat} {Q : s_O → Prop} {h : s_H} {kc ks : Nat} {r0 r1 : Term} {x2 : Int} {r3 : Term} {x4 : Int} {r5 : Term} {q2 : Nat} {f3 : List Term} {v5 : Term} {q9 : Nat} {f10 : List Term} (g4 : s_get h q2 = some (1, 2, f3)) (g11 : s_get h q9 = some (1, 0, f10)) (k : wm P d 117 [.index q9, r3, r5, vi 1, r3] h (wq P d sw_c146 sw_h146 47 [.index q2, r1, vi x2, r3, vi x4, r5] [] kc ks Q)) (e_q2 : r0 = .index q2 := by first | rfl | assumption) (e_q9 : v5 = .index q9 := by first | rfl | assumption) (y1 : s_ty r0 = 3 := by first | rfl | assumption) (n6 : s_nth f3 0 = some v5 := by first | rfl | assumption) (y7 : s_ty r3 = 3 := by first | rfl | assumption) (y8 : s_ty r5 = 3 := by first | rfl | assumption)  : wr P d sw_c146 sw_h146 (35, [r0, r1, vi x2, r3, vi x4, r5], [], h, kc, ks) Q := by
  refine w_ld rfl rfl (Or.inr (Or.inr ⟨by decide, y1⟩)) ?_
  subst e_q2
  refine w_getf rfl g4 n6 ?_
  refine w_ld rfl rfl (Or.inr (Or.inr ⟨by decide, y7⟩)) ?_
  refine w_ld rfl rfl (Or.inr (Or.inr ⟨by decide, y8⟩)) ?_
  refine w_c32 rfl (by decide) 1 (by decide) ?_
  refine w_ld rfl rfl (Or.inr (Or.inr ⟨by decide, y7⟩)) ?_
  subst e_q9
  exact w_cv rfl [.index q9, r3, r5, vi 1, r3] [] rfl rfl (s_wt_4 rfl) rfl g11 k

theorem k146_47 {P : s_P} {d : Nat} {Q : s_O → Prop} {h : s_H} {kc ks : Nat} {r0 r1 : Term} {x2 : Int} {r3 : Term} {x4 : Int} {r5 : Term} {q2 : Nat} {f3 : List Term} {v5 : Term} {q7 : Nat} {f8 : List Term} (g4 : s_get h q2 = some (1, 2, f3)) (g9 : s_get h q7 = some (1, 0, f8)) (k : wm P d 113 [.index q7, vi x4] h (wq P d sw_c146 sw_h146 56 [.index q2, r1, vi x2, r3, vi x4, r5] [] kc ks Q)) (e_q2 : r0 = .index q2 := by first | rfl | assumption) (e_q7 : v5 = .index q7 := by first | rfl | assumption) (y1 : s_ty r0 = 3 := by first | rfl | assumption) (n6 : s_nth f3 0 = some v5 := by first | rfl | assumption)  : wr P d sw_c146 sw_h146 (47, [r0, r1, vi x2, r3, vi x4, r5], [], h, kc, ks) Q := by
  refine w_ld rfl rfl (Or.inr (Or.inr ⟨by decide, y1⟩)) ?_
  subst e_q2
  refine w_getf rfl g4 n6 ?_
  refine w_ld rfl rfl (Or.inl ⟨by decide, rfl⟩) ?_
  subst e_q7
  exact w_cv rfl [.index q7, vi x4] [] rfl rfl (s_wt_4 rfl) rfl g9 k

theorem k146_56 {P : s_P} {d : Nat} {Q : s_O → Prop} {h : s_H} {kc ks : Nat} {r0 r1 : Term} {x2 : Int} {r3 : Term} {x4 : Int} {r5 : Term}  (k : Q (.inl none, h, kc, ks))   : wr P d sw_c146 sw_h146 (56, [r0, r1, vi x2, r3, vi x4, r5], [], h, kc, ks) Q := by
  exact w_ret rfl k

/-! 147: FormulaWorks$Minors.solve(LFormulaWorks$Thing;ILFormulaWorks$Thing;)LFormulaWorks$Thing; -/
theorem k147_0 {P : s_P} {d : Nat} {Q : s_O → Prop} {h : s_H} {kc ks : Nat} {r0 r1 : Term} {x2 : Int} {r3 t4 t5 t6 t7 t8 t9 : Term} {q3 : Nat} {f4 : List Term} (g5 : s_get h q3 = some (1, 2, f4)) (k : wm P d 149 [.index q3, r1] h (wq P d sw_c147 sw_h147 5 [.index q3, r1, vi x2, r3, t4, t5, t6, t7, t8, t9] [] kc ks Q)) (e_q3 : r0 = .index q3 := by first | rfl | assumption) (y1 : s_ty r0 = 3 := by first | rfl | assumption) (y2 : s_ty r1 = 3 := by first | rfl | assumption)  : wr P d sw_c147 sw_h147 (0, [r0, r1, vi x2, r3, t4, t5, t6, t7, t8, t9], [], h, kc, ks) Q := by
  refine w_ld rfl rfl (Or.inr (Or.inr ⟨by decide, y1⟩)) ?_
  refine w_ld rfl rfl (Or.inr (Or.inr ⟨by decide, y2⟩)) ?_
  subst e_q3
  exact w_cv rfl [.index q3, r1] [] rfl rfl (s_wt_4 rfl) rfl g5 k

theorem k147_5 {P : s_P} {d : Nat} {Q : s_O → Prop} {h : s_H} {kc ks : Nat} {r0 r1 : Term} {x2 : Int} {r3 t4 t5 t6 t7 t8 t9 : Term} {q2 : Nat} {f3 : List Term} {z5 : Int} (g4 : s_get h q2 = some (1, 8, f3)) (k : wr P d sw_c147 sw_h147 (24, [r0, .index q2, vi x2, r3, vi (zi 27 1 (z5 - 1)), vi 0, vi 0, vi 0, t8, t9], [], h, kc, ks) Q) (e_q2 : r1 = .index q2 := by first | rfl | assumption) (y1 : s_ty r1 = 3 := by first | rfl | assumption) (n6 : s_nth f3 4 = some (vi z5) := by first | rfl | assumption) (y7 : s_ty r3 = 3 := by first | rfl | assumption)  : wr P d sw_c147 sw_h147 (5, [r0, r1, vi x2, r3, t4, t5, t6, t7, t8, t9], [], h, kc, ks) Q := by
  refine w_c32 rfl (by decide) 1 (by decide) ?_
  refine w_ld rfl rfl (Or.inr (Or.inr ⟨by decide, y1⟩)) ?_
  subst e_q2
  refine w_getf rfl g4 n6 ?_
  refine w_c32 rfl (by decide) 1 (by decide) ?_
  refine w_isub rfl ?_
  refine w_ib rfl (by decide) ?_
  refine w_st (ls' := [r0, .index q2, vi x2, r3, vi (zi 27 1 (z5 - 1)), t5, t6, t7, t8, t9]) rfl (Or.inl ⟨by decide, rfl⟩) (s_stK_r (pre := [r0, .index q2, vi x2]) y7) ?_
  refine w_c32 rfl (by decide) 0 (by decide) ?_
  refine w_st (ls' := [r0, .index q2, vi x2, r3, vi (zi 27 1 (z5 - 1)), vi 0, t6, t7, t8, t9]) rfl (Or.inl ⟨by decide, rfl⟩) rfl ?_
  refine w_c32 rfl (by decide) 0 (by decide) ?_
  refine w_st (ls' := [r0, .index q2, vi x2, r3, vi (zi 27 1 (z5 - 1)), vi 0, vi 0, t7, t8, t9]) rfl (Or.inl ⟨by decide, rfl⟩) rfl ?_
  refine w_c32 rfl (by decide) 0 (by decide) ?_
  refine w_st (ls' := [r0, .index q2, vi x2, r3, vi (zi 27 1 (z5 - 1)), vi 0, vi 0, vi 0, t8, t9]) rfl (Or.inl ⟨by decide, rfl⟩) rfl ?_
  exact k

theorem k147_24 {P : s_P} {d : Nat} {Q : s_O → Prop} {h : s_H} {kc ks : Nat} {r0 r1 : Term} {x2 : Int} {r3 : Term} {x4 x5 x6 x7 : Int} {t8 t9 : Term} {q2 : Nat} {f3 : List Term} {z5 : Int} (g4 : s_get h q2 = some (1, 8, f3)) (k1 : z5 - 1 ≤ x7 → wr P d sw_c147 sw_h147 (79, [r0, .index q2, vi x2, r3, vi x4, vi x5, vi x6, vi x7, t8, t9], [], h, kc, ks) Q) (k2 : ¬ z5 - 1 ≤ x7 → wr P d sw_c147 sw_h147 (35, [r0, .index q2, vi x2, r3, vi x4, vi x5, vi x6, vi x7, t8, t9], [], h, kc, ks) Q) (e_q2 : r1 = .index q2 := by first | rfl | assumption) (y1 : s_ty r1 = 3 := by first | rfl | assumption) (n6 : s_nth f3 4 = some (vi z5) := by first | rfl | assumption) (c7 : In3 x7 := by first | omega | assumption | (simp only [mk_len, List.length_map]; omega) | decide) (c8 : In3 (z5 - 1) := by first | omega | assumption | (simp only [mk_len, List.length_map]; omega) | decide) : wr P d sw_c147 sw_h147 (24, [r0, r1, vi x2, r3, vi x4, vi x5, vi x6, vi x7, t8, t9], [], h, kc, ks) Q := by
  refine w_ld rfl rfl (Or.inl ⟨by decide, rfl⟩) ?_
  refine w_ld rfl rfl (Or.inr (Or.inr ⟨by decide, y1⟩)) ?_
  subst e_q2
  refine w_getf rfl g4 n6 ?_
  refine w_c32 rfl (by decide) 1 (by decide) ?_
  refine w_isub rfl ?_
  exact w_if2 rfl c7 c8 k1 k2

theorem k147_35 {P : s_P} {d : Nat} {Q : s_O → Prop} {h : s_H} {kc ks : Nat} {r0 r1 : Term} {x2 : Int} {r3 : Term} {x4 x5 x6 x7 : Int} {t8 t9 : Term} {q3 : Nat} {f4 : List Term} (g5 : s_get h q3 = some (1, 2, f4)) (k : wm P d 135 [.index q3, r1, vi ((zi 27 1 (x7 + 1)) - 1)] h (wq P d sw_c147 sw_h147 48 [.index q3, r1, vi x2, r3, vi x4, vi x5, vi x6, vi x7, t8, t9] [] kc ks Q)) (e_q3 : r0 = .index q3 := by first | rfl | assumption) (y1 : s_ty r0 = 3 := by first | rfl | assumption) (y2 : s_ty r1 = 3 := by first | rfl | assumption)  : wr P d sw_c147 sw_h147 (35, [r0, r1, vi x2, r3, vi x4, vi x5, vi x6, vi x7, t8, t9], [], h, kc, ks) Q := by
  refine w_ld rfl rfl (Or.inr (Or.inr ⟨by decide, y1⟩)) ?_
  refine w_ld rfl rfl (Or.inr (Or.inr ⟨by decide, y2⟩)) ?_
  refine w_c32 rfl (by decide) 1 (by decide) ?_
  refine w_ld rfl rfl (Or.inl ⟨by decide, rfl⟩) ?_
  refine w_c32 rfl (by decide) 1 (by decide) ?_
  refine w_iadd rfl ?_
  refine w_ib rfl (by decide) ?_
  refine w_c32 rfl (by decide) 1 (by decide) ?_
  refine w_isub rfl ?_
  subst e_q3
  exact w_cv rfl [.index q3, r1, vi ((zi 27 1 (x7 + 1)) - 1)] [] rfl rfl (s_wt_4 rfl) rfl g5 k

theorem k147_48 {P : s_P} {d : Nat} {Q : s_O → Prop} {h : s_H} {kc ks : Nat} {r0 r1 : Term} {x2 : Int} {r3 : Term} {x4 x5 x6 x7 : Int} {t8 t9 : Term} {s0 : Int}  (k : wm P d 622 [vi s0] h (wq P d sw_c147 sw_h147 51 [r0, r1, vi x2, r3, vi x4, vi x5, vi x6, vi x7, t8, t9] [] kc ks Q))   : wr P d sw_c147 sw_h147 (48, [r0, r1, vi x2, r3, vi x4, vi x5, vi x6, vi x7, t8, t9], [vi s0], h, kc, ks) Q := by
  exact w_cs rfl [vi s0] [] rfl rfl (s_wt_4 rfl) k

theorem k147_51 {P : s_P} {d : Nat} {Q : s_O → Prop} {h : s_H} {kc ks : Nat} {r0 r1 : Term} {x2 : Int} {r3 : Term} {x4 x5 x6 x7 : Int} {t8 t9 : Term} {s0 : Int}  (k1 : s0 ≤ x6 → wr P d sw_c147 sw_h147 (69, [r0, r1, vi x2, r3, vi x4, vi x5, vi x6, vi x7, vi s0, t9], [], h, kc, ks) Q) (k2 : ¬ s0 ≤ x6 → wr P d sw_c147 sw_h147 (60, [r0, r1, vi x2, r3, vi x4, vi x5, vi x6, vi x7, vi s0, t9], [], h, kc, ks) Q)  (c1 : In3 s0 := by first | omega | assumption | (simp only [mk_len, List.length_map]; omega) | decide) (c2 : In3 x6 := by first | omega | assumption | (simp only [mk_len, List.length_map]; omega) | decide) : wr P d sw_c147 sw_h147 (51, [r0, r1, vi x2, r3, vi x4, vi x5, vi x6, vi x7, t8, t9], [vi s0], h, kc, ks) Q := by
  refine w_st (ls' := [r0, r1, vi x2, r3, vi x4, vi x5, vi x6, vi x7, vi s0, t9]) rfl (Or.inl ⟨by decide, rfl⟩) rfl ?_
  refine w_ld rfl rfl (Or.inl ⟨by decide, rfl⟩) ?_
  refine w_ld rfl rfl (Or.inl ⟨by decide, rfl⟩) ?_
  exact w_if2 rfl c1 c2 k1 k2

theorem k147_60 {P : s_P} {d : Nat} {Q : s_O → Prop} {h : s_H} {kc ks : Nat} {r0 r1 : Term} {x2 : Int} {r3 : Term} {x4 x5 x6 x7 x8 : Int} {t9 : Term}  (k : wr P d sw_c147 sw_h147 (69, [r0, r1, vi x2, r3, vi x4, vi (zi 25 x5 (zi 27 1 x7)), vi x6, vi x7, vi x8, t9], [], h, kc, ks) Q)   : wr P d sw_c147 sw_h147 (60, [r0, r1, vi x2, r3, vi x4, vi x5, vi x6, vi x7, vi x8, t9], [], h, kc, ks) Q := by
  refine w_ld rfl rfl (Or.inl ⟨by decide, rfl⟩) ?_
  refine w_c32 rfl (by decide) 1 (by decide) ?_
  refine w_ld rfl rfl (Or.inl ⟨by decide, rfl⟩) ?_
  refine w_ib rfl (by decide) ?_
  refine w_ib rfl (by decide) ?_
  refine w_st (ls' := [r0, r1, vi x2, r3, vi x4, vi (zi 25 x5 (zi 27 1 x7)), vi x6, vi x7, vi x8, t9]) rfl (Or.inl ⟨by decide, rfl⟩) rfl ?_
  exact k

theorem k147_69 {P : s_P} {d : Nat} {Q : s_O → Prop} {h : s_H} {kc ks : Nat} {r0 r1 : Term} {x2 : Int} {r3 : Term} {x4 x5 x6 x7 x8 : Int} {t9 : Term}  (k : wr P d sw_c147 sw_h147 (24, [r0, r1, vi x2, r3, vi x4, vi x5, vi x8, vi (x7 + 1), vi x8, t9], [], h, kc, ks) Q)   : wr P d sw_c147 sw_h147 (69, [r0, r1, vi x2, r3, vi x4, vi x5, vi x6, vi x7, vi x8, t9], [], h, kc, ks) Q := by
  refine w_ld rfl rfl (Or.inl ⟨by decide, rfl⟩) ?_
  refine w_st (ls' := [r0, r1, vi x2, r3, vi x4, vi x5, vi x8, vi x7, vi x8, t9]) rfl (Or.inl ⟨by decide, rfl⟩) rfl ?_
  refine w_iinc (ls' := [r0, r1, vi x2, r3, vi x4, vi x5, vi x8, vi (x7 + 1), vi x8, t9]) rfl rfl 1 (by decide) rfl ?_
  refine w_goto rfl ?_
  exact k

theorem k147_79 {P : s_P} {d : Nat} {Q : s_O → Prop} {h : s_H} {kc ks : Nat} {r0 r1 : Term} {x2 : Int} {r3 : Term} {x4 x5 x6 x7 : Int} {t8 t9 : Term} {q3 : Nat} {f4 : List Term} (g5 : s_get h q3 = some (1, 2, f4)) (k : wm P d 135 [.index q3, r1, vi 15] h (wq P d sw_c147 sw_h147 86 [.index q3, r1, vi x2, r3, vi x4, vi x5, vi x6, vi x7, t8, t9] [] kc ks Q)) (e_q3 : r0 = .index q3 := by first | rfl | assumption) (y1 : s_ty r0 = 3 := by first | rfl | assumption) (y2 : s_ty r1 = 3 := by first | rfl | assumption)  : wr P d sw_c147 sw_h147 (79, [r0, r1, vi x2, r3, vi x4, vi x5, vi x6, vi x7, t8, t9], [], h, kc, ks) Q := by
  refine w_ld rfl rfl (Or.inr (Or.inr ⟨by decide, y1⟩)) ?_
  refine w_ld rfl rfl (Or.inr (Or.inr ⟨by decide, y2⟩)) ?_
  refine w_c32 rfl (by decide) 15 (by decide) ?_
  subst e_q3
  exact w_cv rfl [.index q3, r1, vi 15] [] rfl rfl (s_wt_4 rfl) rfl g5 k

theorem k147_86 {P : s_P} {d : Nat} {Q : s_O → Prop} {h : s_H} {kc ks : Nat} {r0 r1 : Term} {x2 : Int} {r3 : Term} {x4 x5 x6 x7 : Int} {t8 t9 : Term} {s0 : Int}  (k : wm P d 622 [vi s0] h (wq P d sw_c147 sw_h147 89 [r0, r1, vi x2, r3, vi x4, vi x5, vi x6, vi x7, t8, t9] [] kc ks Q))   : wr P d sw_c147 sw_h147 (86, [r0, r1, vi x2, r3, vi x4, vi x5, vi x6, vi x7, t8, t9], [vi s0], h, kc, ks) Q := by
  exact w_cs rfl [vi s0] [] rfl rfl (s_wt_4 rfl) k

theorem k147_89 {P : s_P} {d : Nat} {Q : s_O → Prop} {h : s_H} {kc ks : Nat} {r0 r1 : Term} {x2 : Int} {r3 : Term} {x4 x5 x6 x7 : Int} {t8 t9 : Term} {s0 : Int}  (k1 : s0 ≤ x6 → wr P d sw_c147 sw_h147 (102, [r0, r1, vi x2, r3, vi x4, vi x5, vi x6, vi x7, t8, t9], [], h, kc, ks) Q) (k2 : ¬ s0 ≤ x6 → wr P d sw_c147 sw_h147 (94, [r0, r1, vi x2, r3, vi x4, vi x5, vi x6, vi x7, t8, t9], [], h, kc, ks) Q)  (c1 : In3 s0 := by first | omega | assumption | (simp only [mk_len, List.length_map]; omega) | decide) (c2 : In3 x6 := by first | omega | assumption | (simp only [mk_len, List.length_map]; omega) | decide) : wr P d sw_c147 sw_h147 (89, [r0, r1, vi x2, r3, vi x4, vi x5, vi x6, vi x7, t8, t9], [vi s0], h, kc, ks) Q := by
  refine w_ld rfl rfl (Or.inl ⟨by decide, rfl⟩) ?_
  exact w_if2 rfl c1 c2 k1 k2

theorem k147_94 {P : s_P} {d : Nat} {Q : s_O → Prop} {h : s_H} {kc ks : Nat} {r0 r1 : Term} {x2 : Int} {r3 : Term} {x4 x5 x6 x7 : Int} {t8 t9 : Term} {q2 : Nat} {f3 : List Term} (g4 : s_get h q2 = some (1, 8, f3)) (k : Q (.inl (some (.index q2)), (hp h q2 (1, 8, f3.set 7 (vi 9))), kc, ks)) (e_q2 : r3 = .index q2 := by first | rfl | assumption) (y1 : s_ty r3 = 3 := by first | rfl | assumption) (l5 : 7 < f3.length := by first | exact Nat.le_of_ble_eq_true rfl | omega | assumption) (c6 : 0 < q2 := by first | omega | assumption | (simp only [mk_len, List.length_map]; omega) | decide) : wr P d sw_c147 sw_h147 (94, [r0, r1, vi x2, r3, vi x4, vi x5, vi x6, vi x7, t8, t9], [], h, kc, ks) Q := by
  refine w_ld rfl rfl (Or.inr (Or.inr ⟨by decide, y1⟩)) ?_
  refine w_c32 rfl (by decide) 9 (by decide) ?_
  subst e_q2
  refine w_putf rfl g4 (Nat.ble_eq_true_of_le c6) rfl (Nat.ble_eq_true_of_le l5) ?_
  refine w_ld rfl rfl (Or.inr (Or.inr ⟨by decide, rfl⟩)) ?_
  exact w_aret rfl rfl k

theorem k147_102 {P : s_P} {d : Nat} {Q : s_O → Prop} {h : s_H} {kc ks : Nat} {r0 r1 : Term} {x2 : Int} {r3 : Term} {x4 x5 x6 x7 : Int} {t8 t9 : Term} {q2 : Nat} {f3 : List Term} {v5 : Term} {q7 : Nat} {f8 : List Term} (g4 : s_get h q2 = some (1, 2, f3)) (g9 : s_get h q7 = some (1, 0, f8)) (k : wm P d 110 [.index q7] h (wq P d sw_c147 sw_h147 109 [.index q2, r1, vi x2, r3, vi x4, vi x5, vi x6, vi x7, t8, t9] [] kc ks Q)) (e_q2 : r0 = .index q2 := by first | rfl | assumption) (e_q7 : v5 = .index q7 := by first | rfl | assumption) (y1 : s_ty r0 = 3 := by first | rfl | assumption) (n6 : s_nth f3 0 = some v5 := by first | rfl | assumption)  : wr P d sw_c147 sw_h147 (102, [r0, r1, vi x2, r3, vi x4, vi x5, vi x6, vi x7, t8, t9], [], h, kc, ks) Q := by
  refine w_ld rfl rfl (Or.inr (Or.inr ⟨by decide, y1⟩)) ?_
  subst e_q2
  refine w_getf rfl g4 n6 ?_
  subst e_q7
  exact w_cv rfl [.index q7] [] rfl rfl (s_wt_4 rfl) rfl g9 k

theorem k147_109 {P : s_P} {d : Nat} {Q : s_O → Prop} {h : s_H} {kc ks : Nat} {r0 r1 : Term} {x2 : Int} {r3 : Term} {x4 x5 x6 x7 : Int} {t8 t9 : Term} {s0 : Int} {q2 : Nat} {f3 : List Term} {v5 : Term} {q7 : Nat} {f8 : List Term} (g4 : s_get h q2 = some (1, 2, f3)) (g9 : s_get h q7 = some (1, 0, f8)) (k : wm P d 109 [.index q7] h (wq P d sw_c147 sw_h147 118 [.index q2, r1, vi x2, r3, vi x4, vi x5, vi x6, vi s0, t8, t9] [] kc ks Q)) (e_q2 : r0 = .index q2 := by first | rfl | assumption) (e_q7 : v5 = .index q7 := by first | rfl | assumption) (y1 : s_ty r0 = 3 := by first | rfl | assumption) (n6 : s_nth f3 0 = some v5 := by first | rfl | assumption)  : wr P d sw_c147 sw_h147 (109, [r0, r1, vi x2, r3, vi x4, vi x5, vi x6, vi x7, t8, t9], [vi s0], h, kc, ks) Q := by
  refine w_st (ls' := [r0, r1, vi x2, r3, vi x4, vi x5, vi x6, vi s0, t8, t9]) rfl (Or.inl ⟨by decide, rfl⟩) rfl ?_
  refine w_ld rfl rfl (Or.inr (Or.inr ⟨by decide, y1⟩)) ?_
  subst e_q2
  refine w_getf rfl g4 n6 ?_
  subst e_q7
  exact w_cv rfl [.index q7] [] rfl rfl (s_wt_4 rfl) rfl g9 k

theorem k147_118 {P : s_P} {d : Nat} {Q : s_O → Prop} {h : s_H} {kc ks : Nat} {r0 r1 : Term} {x2 : Int} {r3 : Term} {x4 x5 x6 x7 : Int} {t8 t9 s0 : Term} {q3 : Nat} {f4 : List Term} {v6 : Term} {q8 : Nat} {f9 : List Term} (g5 : s_get h q3 = some (1, 2, f4)) (g10 : s_get h q8 = some (1, 0, f9)) (k : wm P d 109 [.index q8] h (wq P d sw_c147 sw_h147 127 [.index q3, r1, vi x2, r3, vi x4, vi x5, vi x6, vi x7, s0, t9] [] kc ks Q)) (e_q3 : r0 = .index q3 := by first | rfl | assumption) (e_q8 : v6 = .index q8 := by first | rfl | assumption) (y1 : s_ty s0 = 3 := by first | rfl | assumption) (y2 : s_ty r0 = 3 := by first | rfl | assumption) (n7 : s_nth f4 0 = some v6 := by first | rfl | assumption)  : wr P d sw_c147 sw_h147 (118, [r0, r1, vi x2, r3, vi x4, vi x5, vi x6, vi x7, t8, t9], [s0], h, kc, ks) Q := by
  refine w_st (ls' := [r0, r1, vi x2, r3, vi x4, vi x5, vi x6, vi x7, s0, t9]) rfl (Or.inr ⟨by decide, y1⟩) rfl ?_
  refine w_ld rfl rfl (Or.inr (Or.inr ⟨by decide, y2⟩)) ?_
  subst e_q3
  refine w_getf rfl g5 n7 ?_
  subst e_q8
  exact w_cv rfl [.index q8] [] rfl rfl (s_wt_4 rfl) rfl g10 k

theorem k147_127 {P : s_P} {d : Nat} {Q : s_O → Prop} {h : s_H} {kc ks : Nat} {r0 r1 : Term} {x2 : Int} {r3 : Term} {x4 x5 x6 x7 : Int} {r8 t9 s0 : Term} {q3 : Nat} {f4 : List Term} (g5 : s_get h q3 = some (1, 4, f4)) (k : wm P d 180 [.index q3, vi 1] h (wq P d sw_c147 sw_h147 135 [r0, r1, vi x2, r3, vi x4, vi x5, vi x6, vi x7, r8, .index q3] [] kc ks Q)) (e_q3 : s0 = .index q3 := by first | rfl | assumption) (y1 : s_ty r8 = 3 := by first | rfl | assumption) (y2 : s_ty s0 = 3 := by first | rfl | assumption)  : wr P d sw_c147 sw_h147 (127, [r0, r1, vi x2, r3, vi x4, vi x5, vi x6, vi x7, r8, t9], [s0], h, kc, ks) Q := by
  refine w_st (ls' := [r0, r1, vi x2, r3, vi x4, vi x5, vi x6, vi x7, r8, s0]) rfl (Or.inr ⟨by decide, y2⟩) (s_stK_r (pre := [r0, r1, vi x2, r3, vi x4, vi x5, vi x6, vi x7]) y1) ?_
  refine w_ld rfl rfl (Or.inr (Or.inr ⟨by decide, y2⟩)) ?_
  refine w_c32 rfl (by decide) 1 (by decide) ?_
  subst e_q3
  exact w_cv rfl [.index q3, vi 1] [] rfl rfl (s_wt_4 rfl) rfl g5 k

theorem k147_135 {P : s_P} {d : Nat} {Q : s_O → Prop} {h : s_H} {kc ks : Nat} {r0 r1 : Term} {x2 : Int} {r3 : Term} {x4 x5 x6 x7 : Int} {r8 r9 : Term}  (k1 : zi 24 (zi 28 x5 x2) 1 ≠ 1 → wr P d sw_c147 sw_h147 (209, [r0, r1, vi x2, r3, vi x4, vi x5, vi x6, vi x7, r8, r9], [], h, kc, ks) Q) (k2 : ¬ zi 24 (zi 28 x5 x2) 1 ≠ 1 → wr P d sw_c147 sw_h147 (145, [r0, r1, vi x2, r3, vi x4, vi x5, vi x6, vi x7, r8, r9], [], h, kc, ks) Q)  (c1 : In3 (zi 24 (zi 28 x5 x2) 1) := by first | omega | assumption | (simp only [mk_len, List.length_map]; omega) | decide) : wr P d sw_c147 sw_h147 (135, [r0, r1, vi x2, r3, vi x4, vi x5, vi x6, vi x7, r8, r9], [], h, kc, ks) Q := by
  refine w_ld rfl rfl (Or.inl ⟨by decide, rfl⟩) ?_
  refine w_ld rfl rfl (Or.inl ⟨by decide, rfl⟩) ?_
  refine w_ib rfl (by decide) ?_
  refine w_c32 rfl (by decide) 1 (by decide) ?_
  refine w_ib rfl (by decide) ?_
  refine w_c32 rfl (by decide) 1 (by decide) ?_
  exact w_if2 rfl c1 (by decide) k1 k2

theorem k147_145 {P : s_P} {d : Nat} {Q : s_O → Prop} {h : s_H} {kc ks : Nat} {r0 r1 : Term} {x2 : Int} {r3 : Term} {x4 x5 x6 x7 : Int} {r8 r9 : Term} {q3 : Nat} {f4 : List Term} (g5 : s_get h q3 = some (1, 2, f4)) (k : wm P d 135 [.index q3, r1, vi x5] h (wq P d sw_c147 sw_h147 154 [.index q3, r1, vi x2, r3, vi x4, vi x5, vi x6, vi x7, r8, r9] [r1, .index q3] kc ks Q)) (e_q3 : r0 = .index q3 := by first | rfl | assumption) (y1 : s_ty r0 = 3 := by first | rfl | assumption) (y2 : s_ty r1 = 3 := by first | rfl | assumption)  : wr P d sw_c147 sw_h147 (145, [r0, r1, vi x2, r3, vi x4, vi x5, vi x6, vi x7, r8, r9], [], h, kc, ks) Q := by
  refine w_ld rfl rfl (Or.inr (Or.inr ⟨by decide, y1⟩)) ?_
  refine w_ld rfl rfl (Or.inr (Or.inr ⟨by decide, y2⟩)) ?_
  refine w_ld rfl rfl (Or.inr (Or.inr ⟨by decide, y1⟩)) ?_
  refine w_ld rfl rfl (Or.inr (Or.inr ⟨by decide, y2⟩)) ?_
  refine w_ld rfl rfl (Or.inl ⟨by decide, rfl⟩) ?_
  subst e_q3
  exact w_cv rfl [.index q3, r1, vi x5] [r1, .index q3] rfl rfl (s_wt_4 rfl) rfl g5 k

theorem k147_154 {P : s_P} {d : Nat} {Q : s_O → Prop} {h : s_H} {kc ks : Nat} {r0 r1 : Term} {x2 : Int} {r3 : Term} {x4 x5 x6 x7 : Int} {r8 r9 s0 s1 : Term} {s2 : Int} {q1 : Nat} {f2 : List Term} (g3 : s_get h q1 = some (1, 2, f2)) (k : wm P d 139 [.index q1, s1, vi s2] h (wq P d sw_c147 sw_h147 157 [r0, r1, vi x2, r3, vi x4, vi x5, vi x6, vi x7, r8, r9] [] kc ks Q)) (e_q1 : s0 = .index q1 := by first | rfl | assumption)  : wr P d sw_c147 sw_h147 (154, [r0, r1, vi x2, r3, vi x4, vi x5, vi x6, vi x7, r8, r9], [vi s2, s1, s0], h, kc, ks) Q := by
  subst e_q1
  exact w_cv rfl [.index q1, s1, vi s2] [] rfl rfl (s_wt_4 rfl) rfl g3 k

theorem k147_157 {P : s_P} {d : Nat} {Q : s_O → Prop} {h : s_H} {kc ks : Nat} {r0 r1 : Term} {x2 : Int} {r3 : Term} {x4 x5 x6 x7 : Int} {r8 r9 : Term} {q3 : Nat} {f4 : List Term} (g5 : s_get h q3 = some (1, 2, f4)) (k : wm P d 141 [.index q3, vi x5] h (wq P d sw_c147 sw_h147 165 [.index q3, r1, vi x2, r3, vi x4, vi x5, vi x6, vi x7, r8, r9] [r9] kc ks Q)) (e_q3 : r0 = .index q3 := by first | rfl | assumption) (y1 : s_ty r9 = 3 := by first | rfl | assumption) (y2 : s_ty r0 = 3 := by first | rfl | assumption)  : wr P d sw_c147 sw_h147 (157, [r0, r1, vi x2, r3, vi x4, vi x5, vi x6, vi x7, r8, r9], [], h, kc, ks) Q := by
  refine w_ld rfl rfl (Or.inr (Or.inr ⟨by decide, y1⟩)) ?_
  refine w_ld rfl rfl (Or.inr (Or.inr ⟨by decide, y2⟩)) ?_
  refine w_ld rfl rfl (Or.inl ⟨by decide, rfl⟩) ?_
  subst e_q3
  exact w_cv rfl [.index q3, vi x5] [r9] rfl rfl (s_wt_4 rfl) rfl g5 k

theorem k147_165 {P : s_P} {d : Nat} {Q : s_O → Prop} {h : s_H} {kc ks : Nat} {r0 r1 : Term} {x2 : Int} {r3 : Term} {x4 x5 x6 x7 : Int} {r8 r9 s0 s1 : Term} {q1 : Nat} {f2 : List Term} (g3 : s_get h q1 = some (1, 4, f2)) (k : wm P d 179 [.index q1, s1] h (wq P d sw_c147 sw_h147 168 [r0, r1, vi x2, r3, vi x4, vi x5, vi x6, vi x7, r8, r9] [] kc ks Q)) (e_q1 : s0 = .index q1 := by first | rfl | assumption)  : wr P d sw_c147 sw_h147 (165, [r0, r1, vi x2, r3, vi x4, vi x5, vi x6, vi x7, r8, r9], [s1, s0], h, kc, ks) Q := by
  subst e_q1
  exact w_cv rfl [.index q1, s1] [] rfl rfl (s_wt_4 rfl) rfl g3 k

theorem k147_168 {P : s_P} {d : Nat} {Q : s_O → Prop} {h : s_H} {kc ks : Nat} {r0 r1 : Term} {x2 : Int} {r3 : Term} {x4 x5 x6 x7 : Int} {r8 r9 : Term} {q3 : Nat} {f4 : List Term} (g5 : s_get h q3 = some (1, 2, f4)) (k : wm P d 141 [.index q3, vi (zi 25 (zi 26 x5 (zi 27 1 x2)) x4)] h (wq P d sw_c147 sw_h147 183 [.index q3, r1, vi x2, r3, vi x4, vi x5, vi x6, vi x7, r8, r9] [r8] kc ks Q)) (e_q3 : r0 = .index q3 := by first | rfl | assumption) (y1 : s_ty r8 = 3 := by first | rfl | assumption) (y2 : s_ty r0 = 3 := by first | rfl | assumption)  : wr P d sw_c147 sw_h147 (168, [r0, r1, vi x2, r3, vi x4, vi x5, vi x6, vi x7, r8, r9], [], h, kc, ks) Q := by
  refine w_ld rfl rfl (Or.inr (Or.inr ⟨by decide, y1⟩)) ?_
  refine w_ld rfl rfl (Or.inr (Or.inr ⟨by decide, y2⟩)) ?_
  refine w_ld rfl rfl (Or.inl ⟨by decide, rfl⟩) ?_
  refine w_c32 rfl (by decide) 1 (by decide) ?_
  refine w_ld rfl rfl (Or.inl ⟨by decide, rfl⟩) ?_
  refine w_ib rfl (by decide) ?_
  refine w_ib rfl (by decide) ?_
  refine w_ld rfl rfl (Or.inl ⟨by decide, rfl⟩) ?_
  refine w_ib rfl (by decide) ?_
  subst e_q3
  exact w_cv rfl [.index q3, vi (zi 25 (zi 26 x5 (zi 27 1 x2)) x4)] [r8] rfl rfl (s_wt_4 rfl) rfl g5 k

theorem k147_183 {P : s_P} {d : Nat} {Q : s_O → Prop} {h : s_H} {kc ks : Nat} {r0 r1 : Term} {x2 : Int} {r3 : Term} {x4 x5 x6 x7 : Int} {r8 r9 s0 s1 : Term} {q1 : Nat} {f2 : List Term} (g3 : s_get h q1 = some (1, 4, f2)) (k : wm P d 179 [.index q1, s1] h (wq P d sw_c147 sw_h147 186 [r0, r1, vi x2, r3, vi x4, vi x5, vi x6, vi x7, r8, r9] [] kc ks Q)) (e_q1 : s0 = .index q1 := by first | rfl | assumption)  : wr P d sw_c147 sw_h147 (183, [r0, r1, vi x2, r3, vi x4, vi x5, vi x6, vi x7, r8, r9], [s1, s0], h, kc, ks) Q := by
  subst e_q1
  exact w_cv rfl [.index q1, s1] [] rfl rfl (s_wt_4 rfl) rfl g3 k

theorem k147_186 {P : s_P} {d : Nat} {Q : s_O → Prop} {h : s_H} {kc ks : Nat} {r0 r1 : Term} {x2 : Int} {r3 : Term} {x4 x5 x6 x7 : Int} {r8 r9 : Term}  (k : wm P d 622 [vi (zi 28 x5 (x2 + 1))] h (wq P d sw_c147 sw_h147 195 [r0, r1, vi x2, r3, vi x4, vi x5, vi x6, vi x7, r8, r9] [] kc ks Q))   : wr P d sw_c147 sw_h147 (186, [r0, r1, vi x2, r3, vi x4, vi x5, vi x6, vi x7, r8, r9], [], h, kc, ks) Q := by
  refine w_ld rfl rfl (Or.inl ⟨by decide, rfl⟩) ?_
  refine w_ld rfl rfl (Or.inl ⟨by decide, rfl⟩) ?_
  refine w_c32 rfl (by decide) 1 (by decide) ?_
  refine w_iadd rfl ?_
  refine w_ib rfl (by decide) ?_
  exact w_cs rfl [vi (zi 28 x5 (x2 + 1))] [] rfl rfl (s_wt_4 rfl) k

theorem k147_195 {P : s_P} {d : Nat} {Q : s_O → Prop} {h : s_H} {kc ks : Nat} {r0 r1 : Term} {x2 : Int} {r3 : Term} {x4 x5 x6 x7 : Int} {r8 r9 : Term} {s0 : Int}  (k1 : zi 24 s0 1 ≠ 1 → wr P d sw_c147 sw_h147 (209, [r0, r1, vi x2, r3, vi x4, vi x5, vi x6, vi x7, r8, r9], [], h, kc, ks) Q) (k2 : ¬ zi 24 s0 1 ≠ 1 → wr P d sw_c147 sw_h147 (201, [r0, r1, vi x2, r3, vi x4, vi x5, vi x6, vi x7, r8, r9], [], h, kc, ks) Q)  (c1 : In3 (zi 24 s0 1) := by first | omega | assumption | (simp only [mk_len, List.length_map]; omega) | decide) : wr P d sw_c147 sw_h147 (195, [r0, r1, vi x2, r3, vi x4, vi x5, vi x6, vi x7, r8, r9], [vi s0], h, kc, ks) Q := by
  refine w_c32 rfl (by decide) 1 (by decide) ?_
  refine w_ib rfl (by decide) ?_
  refine w_c32 rfl (by decide) 1 (by decide) ?_
  exact w_if2 rfl c1 (by decide) k1 k2

theorem k147_201 {P : s_P} {d : Nat} {Q : s_O → Prop} {h : s_H} {kc ks : Nat} {r0 r1 : Term} {x2 : Int} {r3 : Term} {x4 x5 x6 x7 : Int} {r8 r9 : Term} {q2 : Nat} {f3 : List Term} (g4 : s_get h q2 = some (1, 4, f3)) (k : wm P d 178 [.index q2, vi 32002] h (wq P d sw_c147 sw_h147 209 [r0, r1, vi x2, r3, vi x4, vi x5, vi x6, vi x7, .index q2, r9] [] kc ks Q)) (e_q2 : r8 = .index q2 := by first | rfl | assumption) (y1 : s_ty r8 = 3 := by first | rfl | assumption)  : wr P d sw_c147 sw_h147 (201, [r0, r1, vi x2, r3, vi x4, vi x5, vi x6, vi x7, r8, r9], [], h, kc, ks) Q := by
  refine w_ld rfl rfl (Or.inr (Or.inr ⟨by decide, y1⟩)) ?_
  refine w_c32 rfl (by decide) 32002 (by decide) ?_
  subst e_q2
  exact w_cv rfl [.index q2, vi 32002] [] rfl rfl (s_wt_4 rfl) rfl g4 k

theorem k147_209 {P : s_P} {d : Nat} {Q : s_O → Prop} {h : s_H} {kc ks : Nat} {r0 r1 : Term} {x2 : Int} {r3 : Term} {x4 x5 x6 x7 : Int} {r8 r9 : Term} {q2 : Nat} {f3 : List Term} {v5 : Term} {q10 : Nat} {f11 : List Term} (g4 : s_get h q2 = some (1, 2, f3)) (g12 : s_get h q10 = some (1, 0, f11)) (k : wm P d 121 [.index q10, r8, r9, r3] h (wq P d sw_c147 sw_h147 221 [.index q2, r1, vi x2, r3, vi x4, vi x5, vi x6, vi x7, r8, r9] [] kc ks Q)) (e_q2 : r0 = .index q2 := by first | rfl | assumption) (e_q10 : v5 = .index q10 := by first | rfl | assumption) (y1 : s_ty r0 = 3 := by first | rfl | assumption) (n6 : s_nth f3 0 = some v5 := by first | rfl | assumption) (y7 : s_ty r8 = 3 := by first | rfl | assumption) (y8 : s_ty r9 = 3 := by first | rfl | assumption) (y9 : s_ty r3 = 3 := by first | rfl | assumption)  : wr P d sw_c147 sw_h147 (209, [r0, r1, vi x2, r3, vi x4, vi x5, vi x6, vi x7, r8, r9], [], h, kc, ks) Q := by
  refine w_ld rfl rfl (Or.inr (Or.inr ⟨by decide, y1⟩)) ?_
  subst e_q2
  refine w_getf rfl g4 n6 ?_
  refine w_ld rfl rfl (Or.inr (Or.inr ⟨by decide, y7⟩)) ?_
  refine w_ld rfl rfl (Or.inr (Or.inr ⟨by decide, y8⟩)) ?_
  refine w_ld rfl rfl (Or.inr (Or.inr ⟨by decide, y9⟩)) ?_
  subst e_q10
  exact w_cv rfl [.index q10, r8, r9, r3] [] rfl rfl (s_wt_4 rfl) rfl g12 k

theorem k147_221 {P : s_P} {d : Nat} {Q : s_O → Prop} {h : s_H} {kc ks : Nat} {r0 r1 : Term} {x2 : Int} {r3 : Term} {x4 x5 x6 x7 : Int} {r8 r9 s0 : Term} {q3 : Nat} {f4 : List Term} {v6 : Term} {q8 : Nat} {f9 : List Term} (g5 : s_get h q3 = some (1, 2, f4)) (g10 : s_get h q8 = some (1, 0, f9)) (k : wm P d 113 [.index q8, vi x7] h (wq P d sw_c147 sw_h147 231 [.index q3, r1, vi x2, r3, vi x4, vi x5, vi x6, vi x7, r8, r9] [] kc ks Q)) (e_q3 : r0 = .index q3 := by first | rfl | assumption) (e_q8 : v6 = .index q8 := by first | rfl | assumption) (y1 : s_ty s0 = 3 := by first | rfl | assumption) (y2 : s_ty r0 = 3 := by first | rfl | assumption) (n7 : s_nth f4 0 = some v6 := by first | rfl | assumption)  : wr P d sw_c147 sw_h147 (221, [r0, r1, vi x2, r3, vi x4, vi x5, vi x6, vi x7, r8, r9], [s0], h, kc, ks) Q := by
  refine w_pop rfl (by rw [y1]; rfl) ?_
  refine w_ld rfl rfl (Or.inr (Or.inr ⟨by decide, y2⟩)) ?_
  subst e_q3
  refine w_getf rfl g5 n7 ?_
  refine w_ld rfl rfl (Or.inl ⟨by decide, rfl⟩) ?_
  subst e_q8
  exact w_cv rfl [.index q8, vi x7] [] rfl rfl (s_wt_4 rfl) rfl g10 k

theorem k147_231 {P : s_P} {d : Nat} {Q : s_O → Prop} {h : s_H} {kc ks : Nat} {r0 r1 : Term} {x2 : Int} {r3 : Term} {x4 x5 x6 x7 : Int} {r8 r9 : Term}  (k : Q (.inl (some r3), h, kc, ks)) (y1 : s_ty r3 = 3 := by first | rfl | assumption)  : wr P d sw_c147 sw_h147 (231, [r0, r1, vi x2, r3, vi x4, vi x5, vi x6, vi x7, r8, r9], [], h, kc, ks) Q := by
  refine w_ld rfl rfl (Or.inr (Or.inr ⟨by decide, y1⟩)) ?_
  exact w_aret rfl y1 k

/-! 148: FormulaWorks$Minors.sumOf(LFormulaWorks$Thing;LFormulaWorks$Thing;I)LFormulaWorks$Thing; -/
theorem k148_0 {P : s_P} {d : Nat} {Q : s_O → Prop} {h : s_H} {kc ks : Nat} {r0 r1 r2 : Term} {x3 : Int} {t4 t5 t6 t7 t8 : Term} {q2 : Nat} {f3 : List Term} {v5 : Term} {q7 : Nat} {f8 : List Term} (g4 : s_get h q2 = some (1, 2, f3)) (g9 : s_get h q7 = some (1, 0, f8)) (k : wm P d 110 [.index q7] h (wq P d sw_c148 sw_h148 7 [.index q2, r1, r2, vi x3, t4, t5, t6, t7, t8] [] kc ks Q)) (e_q2 : r0 = .index q2 := by first | rfl | assumption) (e_q7 : v5 = .index q7 := by first | rfl | assumption) (y1 : s_ty r0 = 3 := by first | rfl | assumption) (n6 : s_nth f3 0 = some v5 := by first | rfl | assumption)  : wr P d sw_c148 sw_h148 (0, [r0, r1, r2, vi x3, t4, t5, t6, t7, t8], [], h, kc, ks) Q := by
  refine w_ld rfl rfl (Or.inr (Or.inr ⟨by decide, y1⟩)) ?_
  subst e_q2
  refine w_getf rfl g4 n6 ?_
  subst e_q7
  exact w_cv rfl [.index q7] [] rfl rfl (s_wt_4 rfl) rfl g9 k

theorem k148_7 {P : s_P} {d : Nat} {Q : s_O → Prop} {h : s_H} {kc ks : Nat} {r0 r1 r2 : Term} {x3 : Int} {t4 t5 t6 t7 t8 : Term} {s0 : Int} {q2 : Nat} {f3 : List Term} {v5 : Term} {q7 : Nat} {f8 : List Term} (g4 : s_get h q2 = some (1, 2, f3)) (g9 : s_get h q7 = some (1, 0, f8)) (k : wm P d 109 [.index q7] h (wq P d sw_c148 sw_h148 16 [.index q2, r1, r2, vi x3, vi s0, t5, t6, t7, t8] [] kc ks Q)) (e_q2 : r0 = .index q2 := by first | rfl | assumption) (e_q7 : v5 = .index q7 := by first | rfl | assumption) (y1 : s_ty r0 = 3 := by first | rfl | assumption) (n6 : s_nth f3 0 = some v5 := by first | rfl | assumption)  : wr P d sw_c148 sw_h148 (7, [r0, r1, r2, vi x3, t4, t5, t6, t7, t8], [vi s0], h, kc, ks) Q := by
  refine w_st (ls' := [r0, r1, r2, vi x3, vi s0, t5, t6, t7, t8]) rfl (Or.inl ⟨by decide, rfl⟩) rfl ?_
  refine w_ld rfl rfl (Or.inr (Or.inr ⟨by decide, y1⟩)) ?_
  subst e_q2
  refine w_getf rfl g4 n6 ?_
  subst e_q7
  exact w_cv rfl [.index q7] [] rfl rfl (s_wt_4 rfl) rfl g9 k

theorem k148_16 {P : s_P} {d : Nat} {Q : s_O → Prop} {h : s_H} {kc ks : Nat} {r0 r1 r2 : Term} {x3 x4 : Int} {t5 t6 t7 t8 s0 : Term} {q4 : Nat} {f5 : List Term} {z7 z9 : Int} {q11 : Nat} {f12 : List Term} (g6 : s_get h q4 = some (1, 8, f5)) (g13 : s_get h q11 = some (1, 2, f12)) (k : wm P d 137 [.index q11, vi z7, vi z9] h (wq P d sw_c148 sw_h148 30 [.index q11, .index q4, r2, vi x3, vi x4, s0, t6, t7, t8] [] kc ks Q)) (e_q4 : r1 = .index q4 := by first | rfl | assumption) (e_q11 : r0 = .index q11 := by first | rfl | assumption) (y1 : s_ty s0 = 3 := by first | rfl | assumption) (y2 : s_ty r0 = 3 := by first | rfl | assumption) (y3 : s_ty r1 = 3 := by first | rfl | assumption) (n8 : s_nth f5 3 = some (vi z7) := by first | rfl | assumption) (n10 : s_nth f5 4 = some (vi z9) := by first | rfl | assumption)  : wr P d sw_c148 sw_h148 (16, [r0, r1, r2, vi x3, vi x4, t5, t6, t7, t8], [s0], h, kc, ks) Q := by
  refine w_st (ls' := [r0, r1, r2, vi x3, vi x4, s0, t6, t7, t8]) rfl (Or.inr ⟨by decide, y1⟩) rfl ?_
  refine w_ld rfl rfl (Or.inr (Or.inr ⟨by decide, y2⟩)) ?_
  refine w_ld rfl rfl (Or.inr (Or.inr ⟨by decide, y3⟩)) ?_
  subst e_q4
  refine w_getf rfl g6 n8 ?_
  refine w_ld rfl rfl (Or.inr (Or.inr ⟨by decide, rfl⟩)) ?_
  refine w_getf rfl g6 n10 ?_
  subst e_q11
  exact w_cv rfl [.index q11, vi z7, vi z9] [] rfl rfl (s_wt_4 rfl) rfl g13 k

theorem k148_30 {P : s_P} {d : Nat} {Q : s_O → Prop} {h : s_H} {kc ks : Nat} {r0 r1 r2 : Term} {x3 x4 : Int} {r5 t6 t7 t8 s0 : Term}  (k : wr P d sw_c148 sw_h148 (35, [r0, r1, r2, vi x3, vi x4, r5, s0, vi 0, t8], [], h, kc, ks) Q) (y1 : s_ty r5 = 3 := by first | rfl | assumption) (y2 : s_ty s0 = 3 := by first | rfl | assumption)  : wr P d sw_c148 sw_h148 (30, [r0, r1, r2, vi x3, vi x4, r5, t6, t7, t8], [s0], h, kc, ks) Q := by
  refine w_st (ls' := [r0, r1, r2, vi x3, vi x4, r5, s0, t7, t8]) rfl (Or.inr ⟨by decide, y2⟩) (s_stK_r (pre := [r0, r1, r2, vi x3, vi x4]) y1) ?_
  refine w_c32 rfl (by decide) 0 (by decide) ?_
  refine w_st (ls' := [r0, r1, r2, vi x3, vi x4, r5, s0, vi 0, t8]) rfl (Or.inl ⟨by decide, rfl⟩) (s_stK_r (pre := [r0, r1, r2, vi x3, vi x4, r5]) y2) ?_
  exact k

theorem k148_35 {P : s_P} {d : Nat} {Q : s_O → Prop} {h : s_H} {kc ks : Nat} {r0 r1 r2 : Term} {x3 x4 : Int} {r5 r6 : Term} {x7 : Int} {t8 : Term} {q2 : Nat} {f3 : List Term} {z5 : Int} (g4 : s_get h q2 = some (1, 8, f3)) (k1 : z5 ≤ x7 → wr P d sw_c148 sw_h148 (104, [r0, .index q2, r2, vi x3, vi x4, r5, r6, vi x7, t8], [], h, kc, ks) Q) (k2 : ¬ z5 ≤ x7 → wr P d sw_c148 sw_h148 (44, [r0, .index q2, r2, vi x3, vi x4, r5, r6, vi x7, t8], [], h, kc, ks) Q) (e_q2 : r1 = .index q2 := by first | rfl | assumption) (y1 : s_ty r1 = 3 := by first | rfl | assumption) (n6 : s_nth f3 3 = some (vi z5) := by first | rfl | assumption) (c7 : In3 x7 := by first | omega | assumption | (simp only [mk_len, List.length_map]; omega) | decide) (c8 : In3 z5 := by first | omega | assumption | (simp only [mk_len, List.length_map]; omega) | decide) : wr P d sw_c148 sw_h148 (35, [r0, r1, r2, vi x3, vi x4, r5, r6, vi x7, t8], [], h, kc, ks) Q := by
  refine w_ld rfl rfl (Or.inl ⟨by decide, rfl⟩) ?_
  refine w_ld rfl rfl (Or.inr (Or.inr ⟨by decide, y1⟩)) ?_
  subst e_q2
  refine w_getf rfl g4 n6 ?_
  exact w_if2 rfl c7 c8 k1 k2

theorem k148_44 {P : s_P} {d : Nat} {Q : s_O → Prop} {h : s_H} {kc ks : Nat} {r0 r1 r2 : Term} {x3 x4 : Int} {r5 r6 : Term} {x7 : Int} {t8 : Term}  (k : wr P d sw_c148 sw_h148 (47, [r0, r1, r2, vi x3, vi x4, r5, r6, vi x7, vi 0], [], h, kc, ks) Q)   : wr P d sw_c148 sw_h148 (44, [r0, r1, r2, vi x3, vi x4, r5, r6, vi x7, t8], [], h, kc, ks) Q := by
  refine w_c32 rfl (by decide) 0 (by decide) ?_
  refine w_st (ls' := [r0, r1, r2, vi x3, vi x4, r5, r6, vi x7, vi 0]) rfl (Or.inl ⟨by decide, rfl⟩) rfl ?_
  exact k

theorem k148_47 {P : s_P} {d : Nat} {Q : s_O → Prop} {h : s_H} {kc ks : Nat} {r0 r1 r2 : Term} {x3 x4 : Int} {r5 r6 : Term} {x7 x8 : Int} {q2 : Nat} {f3 : List Term} {z5 : Int} (g4 : s_get h q2 = some (1, 8, f3)) (k1 : z5 ≤ x8 → wr P d sw_c148 sw_h148 (98, [r0, .index q2, r2, vi x3, vi x4, r5, r6, vi x7, vi x8], [], h, kc, ks) Q) (k2 : ¬ z5 ≤ x8 → wr P d sw_c148 sw_h148 (56, [r0, .index q2, r2, vi x3, vi x4, r5, r6, vi x7, vi x8], [], h, kc, ks) Q) (e_q2 : r1 = .index q2 := by first | rfl | assumption) (y1 : s_ty r1 = 3 := by first | rfl | assumption) (n6 : s_nth f3 4 = some (vi z5) := by first | rfl | assumption) (c7 : In3 x8 := by first | omega | assumption | (simp only [mk_len, List.length_map]; omega) | decide) (c8 : In3 z5 := by first | omega | assumption | (simp only [mk_len, List.length_map]; omega) | decide) : wr P d sw_c148 sw_h148 (47, [r0, r1, r2, vi x3, vi x4, r5, r6, vi x7, vi x8], [], h, kc, ks) Q := by
  refine w_ld rfl rfl (Or.inl ⟨by decide, rfl⟩) ?_
  refine w_ld rfl rfl (Or.inr (Or.inr ⟨by decide, y1⟩)) ?_
  subst e_q2
  refine w_getf rfl g4 n6 ?_
  exact w_if2 rfl c7 c8 k1 k2

theorem k148_56 {P : s_P} {d : Nat} {Q : s_O → Prop} {h : s_H} {kc ks : Nat} {r0 r1 r2 : Term} {x3 x4 : Int} {r5 r6 : Term} {x7 x8 : Int} {q3 : Nat} {f4 : List Term} (g5 : s_get h q3 = some (1, 8, f4)) (k : wm P d 265 [.index q3, vi x7, vi x8] h (wq P d sw_c148 sw_h148 66 [r0, .index q3, r2, vi x3, vi x4, r5, r6, vi x7, vi x8] [r5] kc ks Q)) (e_q3 : r1 = .index q3 := by first | rfl | assumption) (y1 : s_ty r5 = 3 := by first | rfl | assumption) (y2 : s_ty r1 = 3 := by first | rfl | assumption)  : wr P d sw_c148 sw_h148 (56, [r0, r1, r2, vi x3, vi x4, r5, r6, vi x7, vi x8], [], h, kc, ks) Q := by
  refine w_ld rfl rfl (Or.inr (Or.inr ⟨by decide, y1⟩)) ?_
  refine w_ld rfl rfl (Or.inr (Or.inr ⟨by decide, y2⟩)) ?_
  refine w_ld rfl rfl (Or.inl ⟨by decide, rfl⟩) ?_
  refine w_ld rfl rfl (Or.inl ⟨by decide, rfl⟩) ?_
  subst e_q3
  exact w_cv rfl [.index q3, vi x7, vi x8] [r5] rfl rfl (s_wt_4 rfl) rfl g5 k

theorem k148_66 {P : s_P} {d : Nat} {Q : s_O → Prop} {h : s_H} {kc ks : Nat} {r0 r1 r2 : Term} {x3 x4 : Int} {r5 r6 : Term} {x7 x8 : Int} {s0 s1 : Term} {q2 : Nat} {f3 : List Term} (g4 : s_get h q2 = some (1, 8, f3)) (k : wm P d 265 [.index q2, vi x7, vi x8] h (wq P d sw_c148 sw_h148 74 [r0, r1, .index q2, vi x3, vi x4, r5, r6, vi x7, vi x8] [s1, s0] kc ks Q)) (e_q2 : r2 = .index q2 := by first | rfl | assumption) (y1 : s_ty r2 = 3 := by first | rfl | assumption)  : wr P d sw_c148 sw_h148 (66, [r0, r1, r2, vi x3, vi x4, r5, r6, vi x7, vi x8], [s1, s0], h, kc, ks) Q := by
  refine w_ld rfl rfl (Or.inr (Or.inr ⟨by decide, y1⟩)) ?_
  refine w_ld rfl rfl (Or.inl ⟨by decide, rfl⟩) ?_
  refine w_ld rfl rfl (Or.inl ⟨by decide, rfl⟩) ?_
  subst e_q2
  exact w_cv rfl [.index q2, vi x7, vi x8] [s1, s0] rfl rfl (s_wt_4 rfl) rfl g4 k

theorem k148_74 {P : s_P} {d : Nat} {Q : s_O → Prop} {h : s_H} {kc ks : Nat} {r0 r1 r2 : Term} {x3 x4 : Int} {r5 r6 : Term} {x7 x8 : Int} {s0 s1 s2 : Term} {q1 : Nat} {f2 : List Term} (g3 : s_get h q1 = some (1, 4, f2)) (k : wm P d 184 [.index q1, s1, s2, vi x3] h (wq P d sw_c148 sw_h148 78 [r0, r1, r2, vi x3, vi x4, r5, r6, vi x7, vi x8] [] kc ks Q)) (e_q1 : s0 = .index q1 := by first | rfl | assumption)  : wr P d sw_c148 sw_h148 (74, [r0, r1, r2, vi x3, vi x4, r5, r6, vi x7, vi x8], [s2, s1, s0], h, kc, ks) Q := by
  refine w_ld rfl rfl (Or.inl ⟨by decide, rfl⟩) ?_
  subst e_q1
  exact w_cv rfl [.index q1, s1, s2, vi x3] [] rfl rfl (s_wt_4 rfl) rfl g3 k

theorem k148_78 {P : s_P} {d : Nat} {Q : s_O → Prop} {h : s_H} {kc ks : Nat} {r0 r1 r2 : Term} {x3 x4 : Int} {r5 r6 : Term} {x7 x8 : Int} {q3 : Nat} {f4 : List Term} (g5 : s_get h q3 = some (1, 4, f4)) (k : wm P d 170 [.index q3] h (wq P d sw_c148 sw_h148 89 [r0, r1, r2, vi x3, vi x4, .index q3, r6, vi x7, vi x8] [vi x8, vi x7, r6] kc ks Q)) (e_q3 : r5 = .index q3 := by first | rfl | assumption) (y1 : s_ty r6 = 3 := by first | rfl | assumption) (y2 : s_ty r5 = 3 := by first | rfl | assumption)  : wr P d sw_c148 sw_h148 (78, [r0, r1, r2, vi x3, vi x4, r5, r6, vi x7, vi x8], [], h, kc, ks) Q := by
  refine w_ld rfl rfl (Or.inr (Or.inr ⟨by decide, y1⟩)) ?_
  refine w_ld rfl rfl (Or.inl ⟨by decide, rfl⟩) ?_
  refine w_ld rfl rfl (Or.inl ⟨by decide, rfl⟩) ?_
  refine w_ld rfl rfl (Or.inr (Or.inr ⟨by decide, y2⟩)) ?_
  subst e_q3
  exact w_cv rfl [.index q3] [vi x8, vi x7, r6] rfl rfl (s_wt_4 rfl) rfl g5 k

theorem k148_89 {P : s_P} {d : Nat} {Q : s_O → Prop} {h : s_H} {kc ks : Nat} {r0 r1 r2 : Term} {x3 x4 : Int} {r5 r6 : Term} {x7 x8 : Int} {s0 : Term} {s1 s2 : Int} {s3 : Term} {q1 : Nat} {f2 : List Term} (g3 : s_get h q1 = some (1, 8, f2)) (k : wm P d 271 [.index q1, vi s1, vi s2, s3] h (wq P d sw_c148 sw_h148 92 [r0, r1, r2, vi x3, vi x4, r5, r6, vi x7, vi x8] [] kc ks Q)) (e_q1 : s0 = .index q1 := by first | rfl | assumption)  : wr P d sw_c148 sw_h148 (89, [r0, r1, r2, vi x3, vi x4, r5, r6, vi x7, vi x8], [s3, vi s2, vi s1, s0], h, kc, ks) Q := by
  subst e_q1
  exact w_cv rfl [.index q1, vi s1, vi s2, s3] [] rfl rfl (s_wt_4 rfl) rfl g3 k

theorem k148_92 {P : s_P} {d : Nat} {Q : s_O → Prop} {h : s_H} {kc ks : Nat} {r0 r1 r2 : Term} {x3 x4 : Int} {r5 r6 : Term} {x7 x8 : Int}  (k : wr P d sw_c148 sw_h148 (47, [r0, r1, r2, vi x3, vi x4, r5, r6, vi x7, vi (x8 + 1)], [], h, kc, ks) Q)   : wr P d sw_c148 sw_h148 (92, [r0, r1, r2, vi x3, vi x4, r5, r6, vi x7, vi x8], [], h, kc, ks) Q := by
  refine w_iinc (ls' := [r0, r1, r2, vi x3, vi x4, r5, r6, vi x7, vi (x8 + 1)]) rfl rfl 1 (by decide) rfl ?_
  refine w_goto rfl ?_
  exact k

theorem k148_98 {P : s_P} {d : Nat} {Q : s_O → Prop} {h : s_H} {kc ks : Nat} {r0 r1 r2 : Term} {x3 x4 : Int} {r5 r6 : Term} {x7 x8 : Int}  (k : wr P d sw_c148 sw_h148 (35, [r0, r1, r2, vi x3, vi x4, r5, r6, vi (x7 + 1), vi x8], [], h, kc, ks) Q) (y1 : s_ty r6 = 3 := by first | rfl | assumption)  : wr P d sw_c148 sw_h148 (98, [r0, r1, r2, vi x3, vi x4, r5, r6, vi x7, vi x8], [], h, kc, ks) Q := by
  refine w_iinc (ls' := [r0, r1, r2, vi x3, vi x4, r5, r6, vi (x7 + 1), vi x8]) rfl rfl 1 (by decide) (s_stK_r (pre := [r0, r1, r2, vi x3, vi x4, r5]) y1) ?_
  refine w_goto rfl ?_
  exact k

theorem k148_104 {P : s_P} {d : Nat} {Q : s_O → Prop} {h : s_H} {kc ks : Nat} {r0 r1 r2 : Term} {x3 x4 : Int} {r5 r6 : Term} {x7 : Int} {t8 : Term} {q2 : Nat} {f3 : List Term} {v5 : Term} {q7 : Nat} {f8 : List Term} (g4 : s_get h q2 = some (1, 2, f3)) (g9 : s_get h q7 = some (1, 0, f8)) (k : wm P d 113 [.index q7, vi x4] h (wq P d sw_c148 sw_h148 113 [.index q2, r1, r2, vi x3, vi x4, r5, r6, vi x7, t8] [] kc ks Q)) (e_q2 : r0 = .index q2 := by first | rfl | assumption) (e_q7 : v5 = .index q7 := by first | rfl | assumption) (y1 : s_ty r0 = 3 := by first | rfl | assumption) (n6 : s_nth f3 0 = some v5 := by first | rfl | assumption)  : wr P d sw_c148 sw_h148 (104, [r0, r1, r2, vi x3, vi x4, r5, r6, vi x7, t8], [], h, kc, ks) Q := by
  refine w_ld rfl rfl (Or.inr (Or.inr ⟨by decide, y1⟩)) ?_
  subst e_q2
  refine w_getf rfl g4 n6 ?_
  refine w_ld rfl rfl (Or.inl ⟨by decide, rfl⟩) ?_
  subst e_q7
  exact w_cv rfl [.index q7, vi x4] [] rfl rfl (s_wt_4 rfl) rfl g9 k

theorem k148_113 {P : s_P} {d : Nat} {Q : s_O → Prop} {h : s_H} {kc ks : Nat} {r0 r1 r2 : Term} {x3 x4 : Int} {r5 r6 : Term} {x7 : Int} {t8 : Term}  (k : Q (.inl (some r6), h, kc, ks)) (y1 : s_ty r6 = 3 := by first | rfl | assumption)  : wr P d sw_c148 sw_h148 (113, [r0, r1, r2, vi x3, vi x4, r5, r6, vi x7, t8], [], h, kc, ks) Q := by
  refine w_ld rfl rfl (Or.inr (Or.inr ⟨by decide, y1⟩)) ?_
  exact w_aret rfl y1 k

/-! 149: FormulaWorks$Minors.survey(LFormulaWorks$Thing;)V -/
theorem k149_0 {P : s_P} {d : Nat} {Q : s_O → Prop} {h : s_H} {kc ks : Nat} {r0 r1 t2 t3 t4 : Term}  (k : wr P d sw_c149 sw_h149 (2, [r0, r1, vi 0, t3, t4], [], h, kc, ks) Q) (y1 : s_ty r1 = 3 := by first | rfl | assumption)  : wr P d sw_c149 sw_h149 (0, [r0, r1, t2, t3, t4], [], h, kc, ks) Q := by
  refine w_c32 rfl (by decide) 0 (by decide) ?_
  refine w_st (ls' := [r0, r1, vi 0, t3, t4]) rfl (Or.inl ⟨by decide, rfl⟩) (s_stK_r (pre := [r0]) y1) ?_
  exact k

theorem k149_2 {P : s_P} {d : Nat} {Q : s_O → Prop} {h : s_H} {kc ks : Nat} {r0 r1 : Term} {x2 : Int} {t3 t4 : Term} {q2 : Nat} {f3 : List Term} {z5 : Int} (g4 : s_get h q2 = some (1, 8, f3)) (k1 : zi 27 1 z5 ≤ x2 → wr P d sw_c149 sw_h149 (114, [r0, .index q2, vi x2, t3, t4], [], h, kc, ks) Q) (k2 : ¬ zi 27 1 z5 ≤ x2 → wr P d sw_c149 sw_h149 (12, [r0, .index q2, vi x2, t3, t4], [], h, kc, ks) Q) (e_q2 : r1 = .index q2 := by first | rfl | assumption) (y1 : s_ty r1 = 3 := by first | rfl | assumption) (n6 : s_nth f3 3 = some (vi z5) := by first | rfl | assumption) (c7 : In3 x2 := by first | omega | assumption | (simp only [mk_len, List.length_map]; omega) | decide) (c8 : In3 (zi 27 1 z5) := by first | omega | assumption | (simp only [mk_len, List.length_map]; omega) | decide) : wr P d sw_c149 sw_h149 (2, [r0, r1, vi x2, t3, t4], [], h, kc, ks) Q := by
  refine w_ld rfl rfl (Or.inl ⟨by decide, rfl⟩) ?_
  refine w_c32 rfl (by decide) 1 (by decide) ?_
  refine w_ld rfl rfl (Or.inr (Or.inr ⟨by decide, y1⟩)) ?_
  subst e_q2
  refine w_getf rfl g4 n6 ?_
  refine w_ib rfl (by decide) ?_
  exact w_if2 rfl c7 c8 k1 k2

theorem k149_12 {P : s_P} {d : Nat} {Q : s_O → Prop} {h : s_H} {kc ks : Nat} {r0 r1 : Term} {x2 : Int} {t3 t4 : Term} {q2 : Nat} {f3 : List Term} {v5 : Term} {q7 : Nat} {a8 : List Term} {tg10 : Nat} (g4 : s_get h q2 = some (1, 2, f3)) (g9 : s_get h q7 = some (0, tg10, a8)) (k1 : (a8.length : Int) ≤ x2 → wr P d sw_c149 sw_h149 (114, [.index q2, r1, vi x2, t3, t4], [], h, kc, ks) Q) (k2 : ¬ (a8.length : Int) ≤ x2 → wr P d sw_c149 sw_h149 (21, [.index q2, r1, vi x2, t3, t4], [], h, kc, ks) Q) (e_q2 : r0 = .index q2 := by first | rfl | assumption) (e_q7 : v5 = .index q7 := by first | rfl | assumption) (y1 : s_ty r0 = 3 := by first | rfl | assumption) (n6 : s_nth f3 2 = some v5 := by first | rfl | assumption) (c11 : In3 x2 := by first | omega | assumption | (simp only [mk_len, List.length_map]; omega) | decide) (c12 : In3 (a8.length : Int) := by first | omega | assumption | (simp only [mk_len, List.length_map]; omega) | decide) : wr P d sw_c149 sw_h149 (12, [r0, r1, vi x2, t3, t4], [], h, kc, ks) Q := by
  refine w_ld rfl rfl (Or.inl ⟨by decide, rfl⟩) ?_
  refine w_ld rfl rfl (Or.inr (Or.inr ⟨by decide, y1⟩)) ?_
  subst e_q2
  refine w_getf rfl g4 n6 ?_
  subst e_q7
  refine w_alen rfl g9 (Or.inl rfl) ?_
  exact w_if2 rfl c11 c12 k1 k2

theorem k149_21 {P : s_P} {d : Nat} {Q : s_O → Prop} {h : s_H} {kc ks : Nat} {r0 r1 : Term} {x2 : Int} {t3 t4 : Term} {q3 : Nat} {f4 : List Term} (g5 : s_get h q3 = some (1, 2, f4)) (k : wm P d 139 [.index q3, r1, vi x2] h (wq P d sw_c149 sw_h149 27 [.index q3, r1, vi x2, t3, t4] [] kc ks Q)) (e_q3 : r0 = .index q3 := by first | rfl | assumption) (y1 : s_ty r0 = 3 := by first | rfl | assumption) (y2 : s_ty r1 = 3 := by first | rfl | assumption)  : wr P d sw_c149 sw_h149 (21, [r0, r1, vi x2, t3, t4], [], h, kc, ks) Q := by
  refine w_ld rfl rfl (Or.inr (Or.inr ⟨by decide, y1⟩)) ?_
  refine w_ld rfl rfl (Or.inr (Or.inr ⟨by decide, y2⟩)) ?_
  refine w_ld rfl rfl (Or.inl ⟨by decide, rfl⟩) ?_
  subst e_q3
  exact w_cv rfl [.index q3, r1, vi x2] [] rfl rfl (s_wt_4 rfl) rfl g5 k

theorem k149_27 {P : s_P} {d : Nat} {Q : s_O → Prop} {h : s_H} {kc ks : Nat} {r0 r1 : Term} {x2 : Int} {t3 t4 : Term} {q2 : Nat} {f3 : List Term} {v5 : Term} {q7 : Nat} {a8 : List Int} (g4 : s_get h q2 = some (1, 2, f3)) (g9 : s_get h q7 = some (0, 0, a8.map vi)) (k : wr P d sw_c149 sw_h149 (36, [.index q2, r1, vi x2, vi 0, t4], [], (hp h q7 (0, 0, (a8.set (Int.toNat (x2)) 0).map vi)), kc, ks) Q) (e_q2 : r0 = .index q2 := by first | rfl | assumption) (e_q7 : v5 = .index q7 := by first | rfl | assumption) (y1 : s_ty r0 = 3 := by first | rfl | assumption) (n6 : s_nth f3 2 = some v5 := by first | rfl | assumption) (c10 : x2 < a8.length := by first | omega | assumption | (simp only [mk_len, List.length_map]; omega) | decide) (c11 : 0 ≤ x2 := by first | omega | assumption | (simp only [mk_len, List.length_map]; omega) | decide) (c12 : In3 x2 := by first | omega | assumption | (simp only [mk_len, List.length_map]; omega) | decide) (c13 : 0 < q7 := by first | omega | assumption | (simp only [mk_len, List.length_map]; omega) | decide) : wr P d sw_c149 sw_h149 (27, [r0, r1, vi x2, t3, t4], [], h, kc, ks) Q := by
  refine w_ld rfl rfl (Or.inr (Or.inr ⟨by decide, y1⟩)) ?_
  subst e_q2
  refine w_getf rfl g4 n6 ?_
  refine w_ld rfl rfl (Or.inl ⟨by decide, rfl⟩) ?_
  refine w_c32 rfl (by decide) 0 (by decide) ?_
  subst e_q7
  refine w_iast rfl g9 (Nat.ble_eq_true_of_le c13) c12 c11 c10 ?_
  refine w_c32 rfl (by decide) 0 (by decide) ?_
  refine w_st (ls' := [.index q2, r1, vi x2, vi 0, t4]) rfl (Or.inl ⟨by decide, rfl⟩) rfl ?_
  exact k

theorem k149_36 {P : s_P} {d : Nat} {Q : s_O → Prop} {h : s_H} {kc ks : Nat} {r0 r1 : Term} {x2 x3 : Int} {t4 : Term} {q2 : Nat} {f3 : List Term} {z5 : Int} (g4 : s_get h q2 = some (1, 8, f3)) (k1 : zi 27 1 z5 ≤ x3 → wr P d sw_c149 sw_h149 (108, [r0, .index q2, vi x2, vi x3, t4], [], h, kc, ks) Q) (k2 : ¬ zi 27 1 z5 ≤ x3 → wr P d sw_c149 sw_h149 (46, [r0, .index q2, vi x2, vi x3, t4], [], h, kc, ks) Q) (e_q2 : r1 = .index q2 := by first | rfl | assumption) (y1 : s_ty r1 = 3 := by first | rfl | assumption) (n6 : s_nth f3 4 = some (vi z5) := by first | rfl | assumption) (c7 : In3 x3 := by first | omega | assumption | (simp only [mk_len, List.length_map]; omega) | decide) (c8 : In3 (zi 27 1 z5) := by first | omega | assumption | (simp only [mk_len, List.length_map]; omega) | decide) : wr P d sw_c149 sw_h149 (36, [r0, r1, vi x2, vi x3, t4], [], h, kc, ks) Q := by
  refine w_ld rfl rfl (Or.inl ⟨by decide, rfl⟩) ?_
  refine w_c32 rfl (by decide) 1 (by decide) ?_
  refine w_ld rfl rfl (Or.inr (Or.inr ⟨by decide, y1⟩)) ?_
  subst e_q2
  refine w_getf rfl g4 n6 ?_
  refine w_ib rfl (by decide) ?_
  exact w_if2 rfl c7 c8 k1 k2

theorem k149_46 {P : s_P} {d : Nat} {Q : s_O → Prop} {h : s_H} {kc ks : Nat} {r0 r1 : Term} {x2 x3 : Int} {t4 : Term} {q2 : Nat} {f3 : List Term} {v5 : Term} {q7 : Nat} {a8 : List Term} {tg10 : Nat} (g4 : s_get h q2 = some (1, 2, f3)) (g9 : s_get h q7 = some (0, tg10, a8)) (k1 : (a8.length : Int) ≤ x3 → wr P d sw_c149 sw_h149 (108, [.index q2, r1, vi x2, vi x3, t4], [], h, kc, ks) Q) (k2 : ¬ (a8.length : Int) ≤ x3 → wr P d sw_c149 sw_h149 (55, [.index q2, r1, vi x2, vi x3, t4], [], h, kc, ks) Q) (e_q2 : r0 = .index q2 := by first | rfl | assumption) (e_q7 : v5 = .index q7 := by first | rfl | assumption) (y1 : s_ty r0 = 3 := by first | rfl | assumption) (n6 : s_nth f3 1 = some v5 := by first | rfl | assumption) (c11 : In3 x3 := by first | omega | assumption | (simp only [mk_len, List.length_map]; omega) | decide) (c12 : In3 (a8.length : Int) := by first | omega | assumption | (simp only [mk_len, List.length_map]; omega) | decide) : wr P d sw_c149 sw_h149 (46, [r0, r1, vi x2, vi x3, t4], [], h, kc, ks) Q := by
  refine w_ld rfl rfl (Or.inl ⟨by decide, rfl⟩) ?_
  refine w_ld rfl rfl (Or.inr (Or.inr ⟨by decide, y1⟩)) ?_
  subst e_q2
  refine w_getf rfl g4 n6 ?_
  subst e_q7
  refine w_alen rfl g9 (Or.inl rfl) ?_
  exact w_if2 rfl c11 c12 k1 k2

theorem k149_55 {P : s_P} {d : Nat} {Q : s_O → Prop} {h : s_H} {kc ks : Nat} {r0 r1 : Term} {x2 x3 : Int} {t4 : Term}  (k : wm P d 622 [vi x3] h (wq P d sw_c149 sw_h149 59 [r0, r1, vi x2, vi x3, t4] [] kc ks Q))   : wr P d sw_c149 sw_h149 (55, [r0, r1, vi x2, vi x3, t4], [], h, kc, ks) Q := by
  refine w_ld rfl rfl (Or.inl ⟨by decide, rfl⟩) ?_
  exact w_cs rfl [vi x3] [] rfl rfl (s_wt_4 rfl) k

theorem k149_59 {P : s_P} {d : Nat} {Q : s_O → Prop} {h : s_H} {kc ks : Nat} {r0 r1 : Term} {x2 x3 : Int} {t4 : Term} {s0 : Int}  (k : wm P d 622 [vi x2] h (wq P d sw_c149 sw_h149 63 [r0, r1, vi x2, vi x3, t4] [vi s0] kc ks Q))   : wr P d sw_c149 sw_h149 (59, [r0, r1, vi x2, vi x3, t4], [vi s0], h, kc, ks) Q := by
  refine w_ld rfl rfl (Or.inl ⟨by decide, rfl⟩) ?_
  exact w_cs rfl [vi x2] [vi s0] rfl rfl (s_wt_4 rfl) k

theorem k149_63 {P : s_P} {d : Nat} {Q : s_O → Prop} {h : s_H} {kc ks : Nat} {r0 r1 : Term} {x2 x3 : Int} {t4 : Term} {s0 s1 : Int}  (k1 : s0 ≠ s1 → wr P d sw_c149 sw_h149 (70, [r0, r1, vi x2, vi x3, t4], [], h, kc, ks) Q) (k2 : ¬ s0 ≠ s1 → wr P d sw_c149 sw_h149 (66, [r0, r1, vi x2, vi x3, t4], [], h, kc, ks) Q)  (c1 : In3 s0 := by first | omega | assumption | (simp only [mk_len, List.length_map]; omega) | decide) (c2 : In3 s1 := by first | omega | assumption | (simp only [mk_len, List.length_map]; omega) | decide) : wr P d sw_c149 sw_h149 (63, [r0, r1, vi x2, vi x3, t4], [vi s1, vi s0], h, kc, ks) Q := by
  exact w_if2 rfl c1 c2 k1 k2

theorem k149_66 {P : s_P} {d : Nat} {Q : s_O → Prop} {h : s_H} {kc ks : Nat} {r0 r1 : Term} {x2 x3 : Int} {t4 : Term}  (k : wr P d sw_c149 sw_h149 (71, [r0, r1, vi x2, vi x3, t4], [vi 1], h, kc, ks) Q)   : wr P d sw_c149 sw_h149 (66, [r0, r1, vi x2, vi x3, t4], [], h, kc, ks) Q := by
  refine w_c32 rfl (by decide) 1 (by decide) ?_
  refine w_goto rfl ?_
  exact k

theorem k149_70 {P : s_P} {d : Nat} {Q : s_O → Prop} {h : s_H} {kc ks : Nat} {r0 r1 : Term} {x2 x3 : Int} {t4 : Term}  (k : wr P d sw_c149 sw_h149 (71, [r0, r1, vi x2, vi x3, t4], [vi 0], h, kc, ks) Q)   : wr P d sw_c149 sw_h149 (70, [r0, r1, vi x2, vi x3, t4], [], h, kc, ks) Q := by
  refine w_c32 rfl (by decide) 0 (by decide) ?_
  exact k

theorem k149_71 {P : s_P} {d : Nat} {Q : s_O → Prop} {h : s_H} {kc ks : Nat} {r0 r1 : Term} {x2 x3 : Int} {t4 : Term} {s0 : Int}  (k1 : s0 = 0 → wr P d sw_c149 sw_h149 (102, [r0, r1, vi x2, vi x3, vi s0], [], h, kc, ks) Q) (k2 : ¬ s0 = 0 → wr P d sw_c149 sw_h149 (78, [r0, r1, vi x2, vi x3, vi s0], [], h, kc, ks) Q)  (c1 : In3 s0 := by first | omega | assumption | (simp only [mk_len, List.length_map]; omega) | decide) : wr P d sw_c149 sw_h149 (71, [r0, r1, vi x2, vi x3, t4], [vi s0], h, kc, ks) Q := by
  refine w_st (ls' := [r0, r1, vi x2, vi x3, vi s0]) rfl (Or.inl ⟨by decide, rfl⟩) rfl ?_
  refine w_ld rfl rfl (Or.inl ⟨by decide, rfl⟩) ?_
  exact w_if1 rfl c1 k1 k2

theorem k149_78 {P : s_P} {d : Nat} {Q : s_O → Prop} {h : s_H} {kc ks : Nat} {r0 r1 : Term} {x2 x3 x4 : Int} {q2 : Nat} {f3 : List Term} {v5 : Term} {q7 : Nat} {a8 : List Term} {tg10 : Nat} {v11 : Term} {q16 : Nat} {f17 : List Term} {z19 : Int} (g4 : s_get h q2 = some (1, 2, f3)) (g9 : s_get h q7 = some (0, tg10, a8)) (g18 : s_get h q16 = some (1, 4, f17)) (k1 : z19 < 0 → wr P d sw_c149 sw_h149 (102, [.index q2, r1, vi x2, vi x3, vi x4], [], h, kc, ks) Q) (k2 : ¬ z19 < 0 → wr P d sw_c149 sw_h149 (90, [.index q2, r1, vi x2, vi x3, vi x4], [], h, kc, ks) Q) (e_q2 : r0 = .index q2 := by first | rfl | assumption) (e_q7 : v5 = .index q7 := by first | rfl | assumption) (e_q16 : v11 = .index q16 := by first | rfl | assumption) (y1 : s_ty r0 = 3 := by first | rfl | assumption) (n6 : s_nth f3 1 = some v5 := by first | rfl | assumption) (n12 : s_nth a8 (Int.toNat (x3)) = some v11 := by first | rfl | assumption) (u13 : tg10 = 2 ∨ tg10 = 3 ∨ tg10 = 4 := by first | decide | assumption) (n20 : s_nth f17 1 = some (vi z19) := by first | rfl | assumption) (c14 : In3 x3 := by first | omega | assumption | (simp only [mk_len, List.length_map]; omega) | decide) (c15 : 0 ≤ x3 := by first | omega | assumption | (simp only [mk_len, List.length_map]; omega) | decide) (c21 : In3 z19 := by first | omega | assumption | (simp only [mk_len, List.length_map]; omega) | decide) : wr P d sw_c149 sw_h149 (78, [r0, r1, vi x2, vi x3, vi x4], [], h, kc, ks) Q := by
  refine w_ld rfl rfl (Or.inr (Or.inr ⟨by decide, y1⟩)) ?_
  subst e_q2
  refine w_getf rfl g4 n6 ?_
  refine w_ld rfl rfl (Or.inl ⟨by decide, rfl⟩) ?_
  subst e_q7
  refine w_aald rfl g9 u13 c14 c15 n12 ?_
  subst e_q16
  refine w_getf rfl g18 n20 ?_
  exact w_if1 rfl c21 k1 k2

theorem k149_90 {P : s_P} {d : Nat} {Q : s_O → Prop} {h : s_H} {kc ks : Nat} {r0 r1 : Term} {x2 x3 x4 : Int} {q2 : Nat} {f3 : List Term} {v5 : Term} {q8 : Nat} {a9 : List Int} (g4 : s_get h q2 = some (1, 2, f3)) (g10 : s_get h q8 = some (0, 0, a9.map vi)) (k : wr P d sw_c149 sw_h149 (102, [.index q2, r1, vi x2, vi x3, vi x4], [], (hp h q8 (0, 0, (a9.set (Int.toNat (x2)) (zi 25 (gi a9 x2) (zi 27 1 x3))).map vi)), kc, ks) Q) (e_q2 : r0 = .index q2 := by first | rfl | assumption) (e_q8 : v5 = .index q8 := by first | rfl | assumption) (y1 : s_ty r0 = 3 := by first | rfl | assumption) (n6 : s_nth f3 2 = some v5 := by first | rfl | assumption) (y7 : s_ty v5 = 3 := by first | rfl | assumption) (c11 : x2 < a9.length := by first | omega | assumption | (simp only [mk_len, List.length_map]; omega) | decide) (c12 : 0 ≤ x2 := by first | omega | assumption | (simp only [mk_len, List.length_map]; omega) | decide) (c13 : In3 x2 := by first | omega | assumption | (simp only [mk_len, List.length_map]; omega) | decide) (c14 : 0 < q8 := by first | omega | assumption | (simp only [mk_len, List.length_map]; omega) | decide) : wr P d sw_c149 sw_h149 (90, [r0, r1, vi x2, vi x3, vi x4], [], h, kc, ks) Q := by
  refine w_ld rfl rfl (Or.inr (Or.inr ⟨by decide, y1⟩)) ?_
  subst e_q2
  refine w_getf rfl g4 n6 ?_
  refine w_ld rfl rfl (Or.inl ⟨by decide, rfl⟩) ?_
  refine w_dup2 rfl (by rw [y7]; rfl) ?_
  subst e_q8
  refine w_iald rfl g10 (Or.inl rfl) c13 c12 c11 ?_
  refine w_c32 rfl (by decide) 1 (by decide) ?_
  refine w_ld rfl rfl (Or.inl ⟨by decide, rfl⟩) ?_
  refine w_ib rfl (by decide) ?_
  refine w_ib rfl (by decide) ?_
  refine w_iast rfl g10 (Nat.ble_eq_true_of_le c14) c13 c12 c11 ?_
  exact k

theorem k149_102 {P : s_P} {d : Nat} {Q : s_O → Prop} {h : s_H} {kc ks : Nat} {r0 r1 : Term} {x2 x3 x4 : Int}  (k : wr P d sw_c149 sw_h149 (36, [r0, r1, vi x2, vi (x3 + 1), vi x4], [], h, kc, ks) Q)   : wr P d sw_c149 sw_h149 (102, [r0, r1, vi x2, vi x3, vi x4], [], h, kc, ks) Q := by
  refine w_iinc (ls' := [r0, r1, vi x2, vi (x3 + 1), vi x4]) rfl rfl 1 (by decide) rfl ?_
  refine w_goto rfl ?_
  exact k

theorem k149_108 {P : s_P} {d : Nat} {Q : s_O → Prop} {h : s_H} {kc ks : Nat} {r0 r1 : Term} {x2 x3 : Int} {t4 : Term}  (k : wr P d sw_c149 sw_h149 (2, [r0, r1, vi (x2 + 1), vi x3, t4], [], h, kc, ks) Q) (y1 : s_ty r1 = 3 := by first | rfl | assumption)  : wr P d sw_c149 sw_h149 (108, [r0, r1, vi x2, vi x3, t4], [], h, kc, ks) Q := by
  refine w_iinc (ls' := [r0, r1, vi (x2 + 1), vi x3, t4]) rfl rfl 1 (by decide) (s_stK_r (pre := [r0]) y1) ?_
  refine w_goto rfl ?_
  exact k

theorem k149_114 {P : s_P} {d : Nat} {Q : s_O → Prop} {h : s_H} {kc ks : Nat} {r0 r1 : Term} {x2 : Int} {t3 t4 : Term}  (k : Q (.inl none, h, kc, ks))   : wr P d sw_c149 sw_h149 (114, [r0, r1, vi x2, t3, t4], [], h, kc, ks) Q := by
  exact w_ret rfl k

/-! 151: FormulaWorks$Parts.addFactor(LFormulaWorks$Poly;)V -/
theorem k151_0 {P : s_P} {d : Nat} {Q : s_O → Prop} {h : s_H} {kc ks : Nat} {r0 r1 : Term} {q2 : Nat} {f3 : List Term} {z5 : Int} (g4 : s_get h q2 = some (1, 3, f3)) (k1 : z5 < 40 → wr P d sw_c151 sw_h151 (10, [.index q2, r1], [], h, kc, ks) Q) (k2 : ¬ z5 < 40 → wr P d sw_c151 sw_h151 (9, [.index q2, r1], [], h, kc, ks) Q) (e_q2 : r0 = .index q2 := by first | rfl | assumption) (y1 : s_ty r0 = 3 := by first | rfl | assumption) (n6 : s_nth f3 4 = some (vi z5) := by first | rfl | assumption) (c7 : In3 z5 := by first | omega | assumption | (simp only [mk_len, List.length_map]; omega) | decide) : wr P d sw_c151 sw_h151 (0, [r0, r1], [], h, kc, ks) Q := by
  refine w_ld rfl rfl (Or.inr (Or.inr ⟨by decide, y1⟩)) ?_
  subst e_q2
  refine w_getf rfl g4 n6 ?_
  refine w_c32 rfl (by decide) 40 (by decide) ?_
  exact w_if2 rfl c7 (by decide) k1 k2

theorem k151_9 {P : s_P} {d : Nat} {Q : s_O → Prop} {h : s_H} {kc ks : Nat} {r0 r1 : Term}  (k : Q (.inl none, h, kc, ks))   : wr P d sw_c151 sw_h151 (9, [r0, r1], [], h, kc, ks) Q := by
  exact w_ret rfl k

theorem k151_10 {P : s_P} {d : Nat} {Q : s_O → Prop} {h : s_H} {kc ks : Nat} {r0 r1 : Term} {q2 : Nat} {f3 : List Term} {v5 : Term} {z7 : Int} {q9 : Nat} {a10 : List Term} {tg12 : Nat} {v13 : Term} {q19 : Nat} {f20 : List Term} (g4 : s_get h q2 = some (1, 3, f3)) (g11 : s_get h q9 = some (0, tg12, a10)) (g21 : s_get h q19 = some (1, 4, f20)) (k : wm P d 179 [.index q19, r1] h (wq P d sw_c151 sw_h151 23 [.index q2, r1] [] kc ks Q)) (e_q2 : r0 = .index q2 := by first | rfl | assumption) (e_q9 : v5 = .index q9 := by first | rfl | assumption) (e_q19 : v13 = .index q19 := by first | rfl | assumption) (y1 : s_ty r0 = 3 := by first | rfl | assumption) (n6 : s_nth f3 2 = some v5 := by first | rfl | assumption) (n8 : s_nth f3 4 = some (vi z7) := by first | rfl | assumption) (n14 : s_nth a10 (Int.toNat (z7)) = some v13 := by first | rfl | assumption) (u15 : tg12 = 2 ∨ tg12 = 3 ∨ tg12 = 4 := by first | decide | assumption) (y18 : s_ty r1 = 3 := by first | rfl | assumption) (c16 : In3 z7 := by first | omega | assumption | (simp only [mk_len, List.length_map]; omega) | decide) (c17 : 0 ≤ z7 := by first | omega | assumption | (simp only [mk_len, List.length_map]; omega) | decide) : wr P d sw_c151 sw_h151 (10, [r0, r1], [], h, kc, ks) Q := by
  refine w_ld rfl rfl (Or.inr (Or.inr ⟨by decide, y1⟩)) ?_
  subst e_q2
  refine w_getf rfl g4 n6 ?_
  refine w_ld rfl rfl (Or.inr (Or.inr ⟨by decide, rfl⟩)) ?_
  refine w_getf rfl g4 n8 ?_
  subst e_q9
  refine w_aald rfl g11 u15 c16 c17 n14 ?_
  refine w_ld rfl rfl (Or.inr (Or.inr ⟨by decide, y18⟩)) ?_
  subst e_q19
  exact w_cv rfl [.index q19, r1] [] rfl rfl (s_wt_4 rfl) rfl g21 k

theorem k151_23 {P : s_P} {d : Nat} {Q : s_O → Prop} {h : s_H} {kc ks : Nat} {r0 r1 : Term} {q2 : Nat} {f3 : List Term} {z5 : Int} (g4 : s_get h q2 = some (1, 3, f3)) (k : Q (.inl none, (hp h q2 (1, 3, f3.set 4 (vi (z5 + 1)))), kc, ks)) (e_q2 : r0 = .index q2 := by first | rfl | assumption) (y1 : s_ty r0 = 3 := by first | rfl | assumption) (n6 : s_nth f3 4 = some (vi z5) := by first | rfl | assumption) (l7 : 4 < f3.length := by first | exact Nat.le_of_ble_eq_true rfl | omega | assumption) (c8 : 0 < q2 := by first | omega | assumption | (simp only [mk_len, List.length_map]; omega) | decide) : wr P d sw_c151 sw_h151 (23, [r0, r1], [], h, kc, ks) Q := by
  refine w_ld rfl rfl (Or.inr (Or.inr ⟨by decide, y1⟩)) ?_
  refine w_dup rfl (by rw [y1]; rfl) ?_
  subst e_q2
  refine w_getf rfl g4 n6 ?_
  refine w_c32 rfl (by decide) 1 (by decide) ?_
  refine w_iadd rfl ?_
  refine w_putf rfl g4 (Nat.ble_eq_true_of_le c8) rfl (Nat.ble_eq_true_of_le l7) ?_
  exact w_ret rfl k

/-! 152: FormulaWorks$Parts.countTimes(LFormulaWorks$Poly;)V -/
theorem k152_0 {P : s_P} {d : Nat} {Q : s_O → Prop} {h : s_H} {kc ks : Nat} {r0 r1 t2 t3 t4 t5 t6 t7 : Term} {q2 : Nat} {f3 : List Term} {v5 : Term} {q7 : Nat} {f8 : List Term} (g4 : s_get h q2 = some (1, 3, f3)) (g9 : s_get h q7 = some (1, 0, f8)) (k : wm P d 110 [.index q7] h (wq P d sw_c152 sw_h152 7 [.index q2, r1, t2, t3, t4, t5, t6, t7] [] kc ks Q)) (e_q2 : r0 = .index q2 := by first | rfl | assumption) (e_q7 : v5 = .index q7 := by first | rfl | assumption) (y1 : s_ty r0 = 3 := by first | rfl | assumption) (n6 : s_nth f3 0 = some v5 := by first | rfl | assumption)  : wr P d sw_c152 sw_h152 (0, [r0, r1, t2, t3, t4, t5, t6, t7], [], h, kc, ks) Q := by
  refine w_ld rfl rfl (Or.inr (Or.inr ⟨by decide, y1⟩)) ?_
  subst e_q2
  refine w_getf rfl g4 n6 ?_
  subst e_q7
  exact w_cv rfl [.index q7] [] rfl rfl (s_wt_4 rfl) rfl g9 k

theorem k152_7 {P : s_P} {d : Nat} {Q : s_O → Prop} {h : s_H} {kc ks : Nat} {r0 r1 t2 t3 t4 t5 t6 t7 : Term} {s0 : Int} {q3 : Nat} {f4 : List Term} {v6 : Term} {q8 : Nat} {f9 : List Term} (g5 : s_get h q3 = some (1, 3, f4)) (g10 : s_get h q8 = some (1, 0, f9)) (k : wm P d 109 [.index q8] h (wq P d sw_c152 sw_h152 15 [.index q3, r1, vi s0, t3, t4, t5, t6, t7] [] kc ks Q)) (e_q3 : r0 = .index q3 := by first | rfl | assumption) (e_q8 : v6 = .index q8 := by first | rfl | assumption) (y1 : s_ty r1 = 3 := by first | rfl | assumption) (y2 : s_ty r0 = 3 := by first | rfl | assumption) (n7 : s_nth f4 0 = some v6 := by first | rfl | assumption)  : wr P d sw_c152 sw_h152 (7, [r0, r1, t2, t3, t4, t5, t6, t7], [vi s0], h, kc, ks) Q := by
  refine w_st (ls' := [r0, r1, vi s0, t3, t4, t5, t6, t7]) rfl (Or.inl ⟨by decide, rfl⟩) (s_stK_r (pre := [r0]) y1) ?_
  refine w_ld rfl rfl (Or.inr (Or.inr ⟨by decide, y2⟩)) ?_
  subst e_q3
  refine w_getf rfl g5 n7 ?_
  subst e_q8
  exact w_cv rfl [.index q8] [] rfl rfl (s_wt_4 rfl) rfl g10 k

theorem k152_15 {P : s_P} {d : Nat} {Q : s_O → Prop} {h : s_H} {kc ks : Nat} {r0 r1 : Term} {x2 : Int} {t3 t4 t5 t6 t7 s0 : Term} {q3 : Nat} {f4 : List Term} {v6 : Term} {q8 : Nat} {f9 : List Term} (g5 : s_get h q3 = some (1, 3, f4)) (g10 : s_get h q8 = some (1, 0, f9)) (k : wm P d 109 [.index q8] h (wq P d sw_c152 sw_h152 23 [.index q3, r1, vi x2, s0, t4, t5, t6, t7] [] kc ks Q)) (e_q3 : r0 = .index q3 := by first | rfl | assumption) (e_q8 : v6 = .index q8 := by first | rfl | assumption) (y1 : s_ty s0 = 3 := by first | rfl | assumption) (y2 : s_ty r0 = 3 := by first | rfl | assumption) (n7 : s_nth f4 0 = some v6 := by first | rfl | assumption)  : wr P d sw_c152 sw_h152 (15, [r0, r1, vi x2, t3, t4, t5, t6, t7], [s0], h, kc, ks) Q := by
  refine w_st (ls' := [r0, r1, vi x2, s0, t4, t5, t6, t7]) rfl (Or.inr ⟨by decide, y1⟩) rfl ?_
  refine w_ld rfl rfl (Or.inr (Or.inr ⟨by decide, y2⟩)) ?_
  subst e_q3
  refine w_getf rfl g5 n7 ?_
  subst e_q8
  exact w_cv rfl [.index q8] [] rfl rfl (s_wt_4 rfl) rfl g10 k

theorem k152_23 {P : s_P} {d : Nat} {Q : s_O → Prop} {h : s_H} {kc ks : Nat} {r0 r1 : Term} {x2 : Int} {r3 t4 t5 t6 t7 s0 : Term} {q4 : Nat} {f5 : List Term} {v7 : Term} {q9 : Nat} {f10 : List Term} (g6 : s_get h q4 = some (1, 3, f5)) (g11 : s_get h q9 = some (1, 0, f10)) (k : wm P d 109 [.index q9] h (wq P d sw_c152 sw_h152 32 [.index q4, r1, vi x2, r3, s0, t5, t6, t7] [] kc ks Q)) (e_q4 : r0 = .index q4 := by first | rfl | assumption) (e_q9 : v7 = .index q9 := by first | rfl | assumption) (y1 : s_ty r3 = 3 := by first | rfl | assumption) (y2 : s_ty s0 = 3 := by first | rfl | assumption) (y3 : s_ty r0 = 3 := by first | rfl | assumption) (n8 : s_nth f5 0 = some v7 := by first | rfl | assumption)  : wr P d sw_c152 sw_h152 (23, [r0, r1, vi x2, r3, t4, t5, t6, t7], [s0], h, kc, ks) Q := by
  refine w_st (ls' := [r0, r1, vi x2, r3, s0, t5, t6, t7]) rfl (Or.inr ⟨by decide, y2⟩) (s_stK_r (pre := [r0, r1, vi x2]) y1) ?_
  refine w_ld rfl rfl (Or.inr (Or.inr ⟨by decide, y3⟩)) ?_
  subst e_q4
  refine w_getf rfl g6 n8 ?_
  subst e_q9
  exact w_cv rfl [.index q9] [] rfl rfl (s_wt_4 rfl) rfl g11 k

theorem k152_32 {P : s_P} {d : Nat} {Q : s_O → Prop} {h : s_H} {kc ks : Nat} {r0 r1 : Term} {x2 : Int} {r3 r4 t5 t6 t7 s0 : Term} {q5 : Nat} {f6 : List Term} (g7 : s_get h q5 = some (1, 4, f6)) (k : wm P d 179 [.index q5, r1] h (wq P d sw_c152 sw_h152 39 [r0, r1, vi x2, .index q5, r4, s0, t6, t7] [] kc ks Q)) (e_q5 : r3 = .index q5 := by first | rfl | assumption) (y1 : s_ty r4 = 3 := by first | rfl | assumption) (y2 : s_ty s0 = 3 := by first | rfl | assumption) (y3 : s_ty r3 = 3 := by first | rfl | assumption) (y4 : s_ty r1 = 3 := by first | rfl | assumption)  : wr P d sw_c152 sw_h152 (32, [r0, r1, vi x2, r3, r4, t5, t6, t7], [s0], h, kc, ks) Q := by
  refine w_st (ls' := [r0, r1, vi x2, r3, r4, s0, t6, t7]) rfl (Or.inr ⟨by decide, y2⟩) (s_stK_r (pre := [r0, r1, vi x2, r3]) y1) ?_
  refine w_ld rfl rfl (Or.inr (Or.inr ⟨by decide, y3⟩)) ?_
  refine w_ld rfl rfl (Or.inr (Or.inr ⟨by decide, y4⟩)) ?_
  subst e_q5
  exact w_cv rfl [.index q5, r1] [] rfl rfl (s_wt_4 rfl) rfl g7 k

theorem k152_39 {P : s_P} {d : Nat} {Q : s_O → Prop} {h : s_H} {kc ks : Nat} {r0 r1 : Term} {x2 : Int} {r3 r4 r5 t6 t7 : Term}  (k : wr P d sw_c152 sw_h152 (42, [r0, r1, vi x2, r3, r4, r5, vi 0, t7], [], h, kc, ks) Q) (y1 : s_ty r5 = 3 := by first | rfl | assumption)  : wr P d sw_c152 sw_h152 (39, [r0, r1, vi x2, r3, r4, r5, t6, t7], [], h, kc, ks) Q := by
  refine w_c32 rfl (by decide) 0 (by decide) ?_
  refine w_st (ls' := [r0, r1, vi x2, r3, r4, r5, vi 0, t7]) rfl (Or.inl ⟨by decide, rfl⟩) (s_stK_r (pre := [r0, r1, vi x2, r3, r4]) y1) ?_
  exact k

theorem k152_42 {P : s_P} {d : Nat} {Q : s_O → Prop} {h : s_H} {kc ks : Nat} {r0 r1 : Term} {x2 : Int} {r3 r4 r5 : Term} {x6 : Int} {t7 : Term} {q2 : Nat} {f3 : List Term} {z5 : Int} (g4 : s_get h q2 = some (1, 3, f3)) (k1 : z5 ≤ x6 → wr P d sw_c152 sw_h152 (138, [.index q2, r1, vi x2, r3, r4, r5, vi x6, t7], [], h, kc, ks) Q) (k2 : ¬ z5 ≤ x6 → wr P d sw_c152 sw_h152 (51, [.index q2, r1, vi x2, r3, r4, r5, vi x6, t7], [], h, kc, ks) Q) (e_q2 : r0 = .index q2 := by first | rfl | assumption) (y1 : s_ty r0 = 3 := by first | rfl | assumption) (n6 : s_nth f3 4 = some (vi z5) := by first | rfl | assumption) (c7 : In3 x6 := by first | omega | assumption | (simp only [mk_len, List.length_map]; omega) | decide) (c8 : In3 z5 := by first | omega | assumption | (simp only [mk_len, List.length_map]; omega) | decide) : wr P d sw_c152 sw_h152 (42, [r0, r1, vi x2, r3, r4, r5, vi x6, t7], [], h, kc, ks) Q := by
  refine w_ld rfl rfl (Or.inl ⟨by decide, rfl⟩) ?_
  refine w_ld rfl rfl (Or.inr (Or.inr ⟨by decide, y1⟩)) ?_
  subst e_q2
  refine w_getf rfl g4 n6 ?_
  exact w_if2 rfl c7 c8 k1 k2

theorem k152_51 {P : s_P} {d : Nat} {Q : s_O → Prop} {h : s_H} {kc ks : Nat} {r0 r1 : Term} {x2 : Int} {r3 r4 r5 : Term} {x6 : Int} {t7 : Term} {q2 : Nat} {f3 : List Term} {v5 : Term} {q7 : Nat} {a8 : List Int} (g4 : s_get h q2 = some (1, 3, f3)) (g9 : s_get h q7 = some (0, 0, a8.map vi)) (k : wr P d sw_c152 sw_h152 (62, [.index q2, r1, vi x2, r3, r4, r5, vi x6, vi 0], [], (hp h q7 (0, 0, (a8.set (Int.toNat (x6)) 0).map vi)), kc, ks) Q) (e_q2 : r0 = .index q2 := by first | rfl | assumption) (e_q7 : v5 = .index q7 := by first | rfl | assumption) (y1 : s_ty r0 = 3 := by first | rfl | assumption) (n6 : s_nth f3 3 = some v5 := by first | rfl | assumption) (c10 : x6 < a8.length := by first | omega | assumption | (simp only [mk_len, List.length_map]; omega) | decide) (c11 : 0 ≤ x6 := by first | omega | assumption | (simp only [mk_len, List.length_map]; omega) | decide) (c12 : In3 x6 := by first | omega | assumption | (simp only [mk_len, List.length_map]; omega) | decide) (c13 : 0 < q7 := by first | omega | assumption | (simp only [mk_len, List.length_map]; omega) | decide) : wr P d sw_c152 sw_h152 (51, [r0, r1, vi x2, r3, r4, r5, vi x6, t7], [], h, kc, ks) Q := by
  refine w_ld rfl rfl (Or.inr (Or.inr ⟨by decide, y1⟩)) ?_
  subst e_q2
  refine w_getf rfl g4 n6 ?_
  refine w_ld rfl rfl (Or.inl ⟨by decide, rfl⟩) ?_
  refine w_c32 rfl (by decide) 0 (by decide) ?_
  subst e_q7
  refine w_iast rfl g9 (Nat.ble_eq_true_of_le c13) c12 c11 c10 ?_
  refine w_c32 rfl (by decide) 0 (by decide) ?_
  refine w_st (ls' := [.index q2, r1, vi x2, r3, r4, r5, vi x6, vi 0]) rfl (Or.inl ⟨by decide, rfl⟩) rfl ?_
  exact k

theorem k152_62 {P : s_P} {d : Nat} {Q : s_O → Prop} {h : s_H} {kc ks : Nat} {r0 r1 : Term} {x2 : Int} {r3 r4 r5 : Term} {x6 x7 : Int}  (k1 : 40 < x7 → wr P d sw_c152 sw_h152 (132, [r0, r1, vi x2, r3, r4, r5, vi x6, vi x7], [], h, kc, ks) Q) (k2 : ¬ 40 < x7 → wr P d sw_c152 sw_h152 (69, [r0, r1, vi x2, r3, r4, r5, vi x6, vi x7], [], h, kc, ks) Q)  (c1 : In3 x7 := by first | omega | assumption | (simp only [mk_len, List.length_map]; omega) | decide) : wr P d sw_c152 sw_h152 (62, [r0, r1, vi x2, r3, r4, r5, vi x6, vi x7], [], h, kc, ks) Q := by
  refine w_ld rfl rfl (Or.inl ⟨by decide, rfl⟩) ?_
  refine w_c32 rfl (by decide) 40 (by decide) ?_
  exact w_if2 rfl c1 (by decide) k1 k2

theorem k152_69 {P : s_P} {d : Nat} {Q : s_O → Prop} {h : s_H} {kc ks : Nat} {r0 r1 : Term} {x2 : Int} {r3 r4 r5 : Term} {x6 x7 : Int} {q3 : Nat} {f4 : List Term} (g5 : s_get h q3 = some (1, 4, f4)) (k : wm P d 179 [.index q3, r3] h (wq P d sw_c152 sw_h152 75 [r0, r1, vi x2, r3, .index q3, r5, vi x6, vi x7] [] kc ks Q)) (e_q3 : r4 = .index q3 := by first | rfl | assumption) (y1 : s_ty r4 = 3 := by first | rfl | assumption) (y2 : s_ty r3 = 3 := by first | rfl | assumption)  : wr P d sw_c152 sw_h152 (69, [r0, r1, vi x2, r3, r4, r5, vi x6, vi x7], [], h, kc, ks) Q := by
  refine w_ld rfl rfl (Or.inr (Or.inr ⟨by decide, y1⟩)) ?_
  refine w_ld rfl rfl (Or.inr (Or.inr ⟨by decide, y2⟩)) ?_
  subst e_q3
  exact w_cv rfl [.index q3, r3] [] rfl rfl (s_wt_4 rfl) rfl g5 k

theorem k152_75 {P : s_P} {d : Nat} {Q : s_O → Prop} {h : s_H} {kc ks : Nat} {r0 r1 : Term} {x2 : Int} {r3 r4 r5 : Term} {x6 x7 : Int} {q3 : Nat} {f4 : List Term} {v6 : Term} {q8 : Nat} {a9 : List Term} {tg11 : Nat} {v12 : Term} {q18 : Nat} {f19 : List Term} (g5 : s_get h q3 = some (1, 3, f4)) (g10 : s_get h q8 = some (0, tg11, a9)) (g20 : s_get h q18 = some (1, 4, f19)) (k : wm P d 176 [.index q18, v12, vi 1, r5] h (wq P d sw_c152 sw_h152 90 [.index q3, r1, vi x2, r3, .index q18, r5, vi x6, vi x7] [] kc ks Q)) (e_q3 : r0 = .index q3 := by first | rfl | assumption) (e_q8 : v6 = .index q8 := by first | rfl | assumption) (e_q18 : r4 = .index q18 := by first | rfl | assumption) (y1 : s_ty r4 = 3 := by first | rfl | assumption) (y2 : s_ty r0 = 3 := by first | rfl | assumption) (n7 : s_nth f4 2 = some v6 := by first | rfl | assumption) (n13 : s_nth a9 (Int.toNat (x6)) = some v12 := by first | rfl | assumption) (u14 : tg11 = 2 ∨ tg11 = 3 ∨ tg11 = 4 := by first | decide | assumption) (y17 : s_ty r5 = 3 := by first | rfl | assumption) (c15 : In3 x6 := by first | omega | assumption | (simp only [mk_len, List.length_map]; omega) | decide) (c16 : 0 ≤ x6 := by first | omega | assumption | (simp only [mk_len, List.length_map]; omega) | decide) : wr P d sw_c152 sw_h152 (75, [r0, r1, vi x2, r3, r4, r5, vi x6, vi x7], [], h, kc, ks) Q := by
  refine w_ld rfl rfl (Or.inr (Or.inr ⟨by decide, y1⟩)) ?_
  refine w_ld rfl rfl (Or.inr (Or.inr ⟨by decide, y2⟩)) ?_
  subst e_q3
  refine w_getf rfl g5 n7 ?_
  refine w_ld rfl rfl (Or.inl ⟨by decide, rfl⟩) ?_
  subst e_q8
  refine w_aald rfl g10 u14 c15 c16 n13 ?_
  refine w_c32 rfl (by decide) 1 (by decide) ?_
  refine w_ld rfl rfl (Or.inr (Or.inr ⟨by decide, y17⟩)) ?_
  subst e_q18
  exact w_cv rfl [.index q18, v12, vi 1, r5] [] rfl rfl (s_wt_4 rfl) rfl g20 k

theorem k152_90 {P : s_P} {d : Nat} {Q : s_O → Prop} {h : s_H} {kc ks : Nat} {r0 r1 : Term} {x2 : Int} {r3 r4 r5 : Term} {x6 x7 : Int} {q2 : Nat} {f3 : List Term} {z5 : Int} (g4 : s_get h q2 = some (1, 4, f3)) (k1 : 0 ≤ z5 → wr P d sw_c152 sw_h152 (132, [r0, r1, vi x2, r3, .index q2, r5, vi x6, vi x7], [], h, kc, ks) Q) (k2 : ¬ 0 ≤ z5 → wr P d sw_c152 sw_h152 (98, [r0, r1, vi x2, r3, .index q2, r5, vi x6, vi x7], [], h, kc, ks) Q) (e_q2 : r4 = .index q2 := by first | rfl | assumption) (y1 : s_ty r4 = 3 := by first | rfl | assumption) (n6 : s_nth f3 1 = some (vi z5) := by first | rfl | assumption) (c7 : In3 z5 := by first | omega | assumption | (simp only [mk_len, List.length_map]; omega) | decide) : wr P d sw_c152 sw_h152 (90, [r0, r1, vi x2, r3, r4, r5, vi x6, vi x7], [], h, kc, ks) Q := by
  refine w_ld rfl rfl (Or.inr (Or.inr ⟨by decide, y1⟩)) ?_
  subst e_q2
  refine w_getf rfl g4 n6 ?_
  exact w_if1 rfl c7 k1 k2

theorem k152_98 {P : s_P} {d : Nat} {Q : s_O → Prop} {h : s_H} {kc ks : Nat} {r0 r1 : Term} {x2 : Int} {r3 r4 r5 : Term} {x6 x7 : Int} {q2 : Nat} {f3 : List Term} {z5 : Int} (g4 : s_get h q2 = some (1, 4, f3)) (k1 : 0 ≤ z5 → wr P d sw_c152 sw_h152 (109, [r0, r1, vi x2, r3, r4, .index q2, vi x6, vi x7], [], h, kc, ks) Q) (k2 : ¬ 0 ≤ z5 → wr P d sw_c152 sw_h152 (106, [r0, r1, vi x2, r3, r4, .index q2, vi x6, vi x7], [], h, kc, ks) Q) (e_q2 : r5 = .index q2 := by first | rfl | assumption) (y1 : s_ty r5 = 3 := by first | rfl | assumption) (n6 : s_nth f3 1 = some (vi z5) := by first | rfl | assumption) (c7 : In3 z5 := by first | omega | assumption | (simp only [mk_len, List.length_map]; omega) | decide) : wr P d sw_c152 sw_h152 (98, [r0, r1, vi x2, r3, r4, r5, vi x6, vi x7], [], h, kc, ks) Q := by
  refine w_ld rfl rfl (Or.inr (Or.inr ⟨by decide, y1⟩)) ?_
  subst e_q2
  refine w_getf rfl g4 n6 ?_
  exact w_if1 rfl c7 k1 k2

theorem k152_106 {P : s_P} {d : Nat} {Q : s_O → Prop} {h : s_H} {kc ks : Nat} {r0 r1 : Term} {x2 : Int} {r3 r4 r5 : Term} {x6 x7 : Int}  (k : wr P d sw_c152 sw_h152 (132, [r0, r1, vi x2, r3, r4, r5, vi x6, vi x7], [], h, kc, ks) Q)   : wr P d sw_c152 sw_h152 (106, [r0, r1, vi x2, r3, r4, r5, vi x6, vi x7], [], h, kc, ks) Q := by
  refine w_goto rfl ?_
  exact k

theorem k152_109 {P : s_P} {d : Nat} {Q : s_O → Prop} {h : s_H} {kc ks : Nat} {r0 r1 : Term} {x2 : Int} {r3 r4 r5 : Term} {x6 x7 : Int} {q3 : Nat} {f4 : List Term} (g5 : s_get h q3 = some (1, 4, f4)) (k : wm P d 179 [.index q3, r5] h (wq P d sw_c152 sw_h152 115 [r0, r1, vi x2, .index q3, r4, r5, vi x6, vi x7] [] kc ks Q)) (e_q3 : r3 = .index q3 := by first | rfl | assumption) (y1 : s_ty r3 = 3 := by first | rfl | assumption) (y2 : s_ty r5 = 3 := by first | rfl | assumption)  : wr P d sw_c152 sw_h152 (109, [r0, r1, vi x2, r3, r4, r5, vi x6, vi x7], [], h, kc, ks) Q := by
  refine w_ld rfl rfl (Or.inr (Or.inr ⟨by decide, y1⟩)) ?_
  refine w_ld rfl rfl (Or.inr (Or.inr ⟨by decide, y2⟩)) ?_
  subst e_q3
  exact w_cv rfl [.index q3, r5] [] rfl rfl (s_wt_4 rfl) rfl g5 k

theorem k152_115 {P : s_P} {d : Nat} {Q : s_O → Prop} {h : s_H} {kc ks : Nat} {r0 r1 : Term} {x2 : Int} {r3 r4 r5 : Term} {x6 x7 : Int} {q2 : Nat} {f3 : List Term} {v5 : Term} {q8 : Nat} {a9 : List Int} (g4 : s_get h q2 = some (1, 3, f3)) (g10 : s_get h q8 = some (0, 0, a9.map vi)) (k : wr P d sw_c152 sw_h152 (62, [.index q2, r1, vi x2, r3, r4, r5, vi x6, vi (x7 + 1)], [], (hp h q8 (0, 0, (a9.set (Int.toNat (x6)) ((gi a9 x6) + 1)).map vi)), kc, ks) Q) (e_q2 : r0 = .index q2 := by first | rfl | assumption) (e_q8 : v5 = .index q8 := by first | rfl | assumption) (y1 : s_ty r0 = 3 := by first | rfl | assumption) (n6 : s_nth f3 3 = some v5 := by first | rfl | assumption) (y7 : s_ty v5 = 3 := by first | rfl | assumption) (c11 : x6 < a9.length := by first | omega | assumption | (simp only [mk_len, List.length_map]; omega) | decide) (c12 : 0 ≤ x6 := by first | omega | assumption | (simp only [mk_len, List.length_map]; omega) | decide) (c13 : In3 x6 := by first | omega | assumption | (simp only [mk_len, List.length_map]; omega) | decide) (c14 : 0 < q8 := by first | omega | assumption | (simp only [mk_len, List.length_map]; omega) | decide) : wr P d sw_c152 sw_h152 (115, [r0, r1, vi x2, r3, r4, r5, vi x6, vi x7], [], h, kc, ks) Q := by
  refine w_ld rfl rfl (Or.inr (Or.inr ⟨by decide, y1⟩)) ?_
  subst e_q2
  refine w_getf rfl g4 n6 ?_
  refine w_ld rfl rfl (Or.inl ⟨by decide, rfl⟩) ?_
  refine w_dup2 rfl (by rw [y7]; rfl) ?_
  subst e_q8
  refine w_iald rfl g10 (Or.inl rfl) c13 c12 c11 ?_
  refine w_c32 rfl (by decide) 1 (by decide) ?_
  refine w_iadd rfl ?_
  refine w_iast rfl g10 (Nat.ble_eq_true_of_le c14) c13 c12 c11 ?_
  refine w_iinc (ls' := [.index q2, r1, vi x2, r3, r4, r5, vi x6, vi (x7 + 1)]) rfl rfl 1 (by decide) rfl ?_
  refine w_goto rfl ?_
  exact k

theorem k152_132 {P : s_P} {d : Nat} {Q : s_O → Prop} {h : s_H} {kc ks : Nat} {r0 r1 : Term} {x2 : Int} {r3 r4 r5 : Term} {x6 x7 : Int}  (k : wr P d sw_c152 sw_h152 (42, [r0, r1, vi x2, r3, r4, r5, vi (x6 + 1), vi x7], [], h, kc, ks) Q) (y1 : s_ty r5 = 3 := by first | rfl | assumption)  : wr P d sw_c152 sw_h152 (132, [r0, r1, vi x2, r3, r4, r5, vi x6, vi x7], [], h, kc, ks) Q := by
  refine w_iinc (ls' := [r0, r1, vi x2, r3, r4, r5, vi (x6 + 1), vi x7]) rfl rfl 1 (by decide) (s_stK_r (pre := [r0, r1, vi x2, r3, r4]) y1) ?_
  refine w_goto rfl ?_
  exact k

theorem k152_138 {P : s_P} {d : Nat} {Q : s_O → Prop} {h : s_H} {kc ks : Nat} {r0 r1 : Term} {x2 : Int} {r3 r4 r5 : Term} {x6 : Int} {t7 : Term} {q2 : Nat} {f3 : List Term} {v5 : Term} {q7 : Nat} {f8 : List Term} (g4 : s_get h q2 = some (1, 3, f3)) (g9 : s_get h q7 = some (1, 0, f8)) (k : wm P d 113 [.index q7, vi x2] h (wq P d sw_c152 sw_h152 146 [.index q2, r1, vi x2, r3, r4, r5, vi x6, t7] [] kc ks Q)) (e_q2 : r0 = .index q2 := by first | rfl | assumption) (e_q7 : v5 = .index q7 := by first | rfl | assumption) (y1 : s_ty r0 = 3 := by first | rfl | assumption) (n6 : s_nth f3 0 = some v5 := by first | rfl | assumption)  : wr P d sw_c152 sw_h152 (138, [r0, r1, vi x2, r3, r4, r5, vi x6, t7], [], h, kc, ks) Q := by
  refine w_ld rfl rfl (Or.inr (Or.inr ⟨by decide, y1⟩)) ?_
  subst e_q2
  refine w_getf rfl g4 n6 ?_
  refine w_ld rfl rfl (Or.inl ⟨by decide, rfl⟩) ?_
  subst e_q7
  exact w_cv rfl [.index q7, vi x2] [] rfl rfl (s_wt_4 rfl) rfl g9 k

theorem k152_146 {P : s_P} {d : Nat} {Q : s_O → Prop} {h : s_H} {kc ks : Nat} {r0 r1 : Term} {x2 : Int} {r3 r4 r5 : Term} {x6 : Int} {t7 : Term}  (k : Q (.inl none, h, kc, ks))   : wr P d sw_c152 sw_h152 (146, [r0, r1, vi x2, r3, r4, r5, vi x6, t7], [], h, kc, ks) Q := by
  exact w_ret rfl k

/-! 153: FormulaWorks$Parts.find(LFormulaWorks$Poly;Z)V -/
-- acmp at 0
theorem k153_8 {P : s_P} {d : Nat} {Q : s_O → Prop} {h : s_H} {kc ks : Nat} {r0 r1 : Term} {x2 : Int} {t3 t4 t5 : Term}  (k1 : x2 ≠ 0 → wr P d sw_c153 sw_h153 (13, [r0, r1, vi x2, t3, t4, t5], [], h, kc, ks) Q) (k2 : ¬ x2 ≠ 0 → wr P d sw_c153 sw_h153 (12, [r0, r1, vi x2, t3, t4, t5], [], h, kc, ks) Q)  (c1 : In3 x2 := by first | omega | assumption | (simp only [mk_len, List.length_map]; omega) | decide) : wr P d sw_c153 sw_h153 (8, [r0, r1, vi x2, t3, t4, t5], [], h, kc, ks) Q := by
  refine w_ld rfl rfl (Or.inl ⟨by decide, rfl⟩) ?_
  exact w_if1 rfl c1 k1 k2

theorem k153_12 {P : s_P} {d : Nat} {Q : s_O → Prop} {h : s_H} {kc ks : Nat} {r0 r1 : Term} {x2 : Int} {t3 t4 t5 : Term}  (k : Q (.inl none, h, kc, ks))   : wr P d sw_c153 sw_h153 (12, [r0, r1, vi x2, t3, t4, t5], [], h, kc, ks) Q := by
  exact w_ret rfl k

theorem k153_13 {P : s_P} {d : Nat} {Q : s_O → Prop} {h : s_H} {kc ks : Nat} {r0 r1 : Term} {x2 : Int} {t3 t4 t5 : Term}  (k1 : x2 = 0 → wr P d sw_c153 sw_h153 (22, [r0, r1, vi x2, t3, t4, t5], [r0], h, kc, ks) Q) (k2 : ¬ x2 = 0 → wr P d sw_c153 sw_h153 (18, [r0, r1, vi x2, t3, t4, t5], [r0], h, kc, ks) Q) (y1 : s_ty r0 = 3 := by first | rfl | assumption) (c2 : In3 x2 := by first | omega | assumption | (simp only [mk_len, List.length_map]; omega) | decide) : wr P d sw_c153 sw_h153 (13, [r0, r1, vi x2, t3, t4, t5], [], h, kc, ks) Q := by
  refine w_ld rfl rfl (Or.inr (Or.inr ⟨by decide, y1⟩)) ?_
  refine w_ld rfl rfl (Or.inl ⟨by decide, rfl⟩) ?_
  exact w_if1 rfl c2 k1 k2

theorem k153_18 {P : s_P} {d : Nat} {Q : s_O → Prop} {h : s_H} {kc ks : Nat} {r0 r1 : Term} {x2 : Int} {t3 t4 t5 s0 : Term}  (k : wr P d sw_c153 sw_h153 (23, [r0, r1, vi x2, t3, t4, t5], [.null, s0], h, kc, ks) Q)   : wr P d sw_c153 sw_h153 (18, [r0, r1, vi x2, t3, t4, t5], [s0], h, kc, ks) Q := by
  refine w_null rfl ?_
  refine w_goto rfl ?_
  exact k

theorem k153_22 {P : s_P} {d : Nat} {Q : s_O → Prop} {h : s_H} {kc ks : Nat} {r0 r1 : Term} {x2 : Int} {t3 t4 t5 s0 : Term}  (k : wr P d sw_c153 sw_h153 (23, [r0, r1, vi x2, t3, t4, t5], [r1, s0], h, kc, ks) Q) (y1 : s_ty r1 = 3 := by first | rfl | assumption)  : wr P d sw_c153 sw_h153 (22, [r0, r1, vi x2, t3, t4, t5], [s0], h, kc, ks) Q := by
  refine w_ld rfl rfl (Or.inr (Or.inr ⟨by decide, y1⟩)) ?_
  exact k

theorem k153_23 {P : s_P} {d : Nat} {Q : s_O → Prop} {h : s_H} {kc ks : Nat} {r0 r1 : Term} {x2 : Int} {t3 t4 t5 s0 s1 : Term} {q1 : Nat} {f2 : List Term} {q8 : Nat} {f9 : List Term} {q14 : Nat} {f15 : List Term} {z17 : Int} (g3 : s_get h q1 = some (1, 3, f2)) (g10 : s_get (hp h q1 (1, 3, f2.set 7 s1)) q8 = some (1, 3, f9)) (g16 : s_get (hp (hp h q1 (1, 3, f2.set 7 s1)) q8 (1, 3, f9.set 4 (vi 0))) q14 = some (1, 4, f15)) (k1 : 1 ≤ z17 → wr P d sw_c153 sw_h153 (40, [.index q8, .index q14, vi x2, t3, t4, t5], [], (hp (hp h q1 (1, 3, f2.set 7 s1)) q8 (1, 3, f9.set 4 (vi 0))), kc, ks) Q) (k2 : ¬ 1 ≤ z17 → wr P d sw_c153 sw_h153 (39, [.index q8, .index q14, vi x2, t3, t4, t5], [], (hp (hp h q1 (1, 3, f2.set 7 s1)) q8 (1, 3, f9.set 4 (vi 0))), kc, ks) Q) (e_q1 : s0 = .index q1 := by first | rfl | assumption) (e_q8 : r0 = .index q8 := by first | rfl | assumption) (e_q14 : r1 = .index q14 := by first | rfl | assumption) (l4 : 7 < f2.length := by first | exact Nat.le_of_ble_eq_true rfl | omega | assumption) (y6 : s_ty s1 = 3 := by first | rfl | assumption) (y7 : s_ty r0 = 3 := by first | rfl | assumption) (l11 : 4 < f9.length := by first | exact Nat.le_of_ble_eq_true rfl | omega | assumption) (y13 : s_ty r1 = 3 := by first | rfl | assumption) (n18 : s_nth f15 1 = some (vi z17) := by first | rfl | assumption) (c5 : 0 < q1 := by first | omega | assumption | (simp only [mk_len, List.length_map]; omega) | decide) (c12 : 0 < q8 := by first | omega | assumption | (simp only [mk_len, List.length_map]; omega) | decide) (c19 : In3 z17 := by first | omega | assumption | (simp only [mk_len, List.length_map]; omega) | decide) : wr P d sw_c153 sw_h153 (23, [r0, r1, vi x2, t3, t4, t5], [s1, s0], h, kc, ks) Q := by
  subst e_q1
  refine w_putf rfl g3 (Nat.ble_eq_true_of_le c5) (s_okF3 y6) (Nat.ble_eq_true_of_le l4) ?_
  refine w_ld rfl rfl (Or.inr (Or.inr ⟨by decide, y7⟩)) ?_
  refine w_c32 rfl (by decide) 0 (by decide) ?_
  subst e_q8
  refine w_putf rfl g10 (Nat.ble_eq_true_of_le c12) rfl (Nat.ble_eq_true_of_le l11) ?_
  refine w_ld rfl rfl (Or.inr (Or.inr ⟨by decide, y13⟩)) ?_
  subst e_q14
  refine w_getf rfl g16 n18 ?_
  refine w_c32 rfl (by decide) 1 (by decide) ?_
  exact w_if2 rfl c19 (by decide) k1 k2

theorem k153_39 {P : s_P} {d : Nat} {Q : s_O → Prop} {h : s_H} {kc ks : Nat} {r0 r1 : Term} {x2 : Int} {t3 t4 t5 : Term}  (k : Q (.inl none, h, kc, ks))   : wr P d sw_c153 sw_h153 (39, [r0, r1, vi x2, t3, t4, t5], [], h, kc, ks) Q := by
  exact w_ret rfl k

theorem k153_40 {P : s_P} {d : Nat} {Q : s_O → Prop} {h : s_H} {kc ks : Nat} {r0 r1 : Term} {x2 : Int} {t3 t4 t5 : Term} {q2 : Nat} {f3 : List Term} {v5 : Term} {q7 : Nat} {f8 : List Term} (g4 : s_get h q2 = some (1, 3, f3)) (g9 : s_get h q7 = some (1, 0, f8)) (k : wm P d 110 [.index q7] h (wq P d sw_c153 sw_h153 47 [.index q2, r1, vi x2, t3, t4, t5] [] kc ks Q)) (e_q2 : r0 = .index q2 := by first | rfl | assumption) (e_q7 : v5 = .index q7 := by first | rfl | assumption) (y1 : s_ty r0 = 3 := by first | rfl | assumption) (n6 : s_nth f3 0 = some v5 := by first | rfl | assumption)  : wr P d sw_c153 sw_h153 (40, [r0, r1, vi x2, t3, t4, t5], [], h, kc, ks) Q := by
  refine w_ld rfl rfl (Or.inr (Or.inr ⟨by decide, y1⟩)) ?_
  subst e_q2
  refine w_getf rfl g4 n6 ?_
  subst e_q7
  exact w_cv rfl [.index q7] [] rfl rfl (s_wt_4 rfl) rfl g9 k

theorem k153_47 {P : s_P} {d : Nat} {Q : s_O → Prop} {h : s_H} {kc ks : Nat} {r0 r1 : Term} {x2 : Int} {t3 t4 t5 : Term} {s0 : Int} {q2 : Nat} {f3 : List Term} {v5 : Term} {q7 : Nat} {f8 : List Term} (g4 : s_get h q2 = some (1, 3, f3)) (g9 : s_get h q7 = some (1, 0, f8)) (k : wm P d 109 [.index q7] h (wq P d sw_c153 sw_h153 55 [.index q2, r1, vi x2, vi s0, t4, t5] [] kc ks Q)) (e_q2 : r0 = .index q2 := by first | rfl | assumption) (e_q7 : v5 = .index q7 := by first | rfl | assumption) (y1 : s_ty r0 = 3 := by first | rfl | assumption) (n6 : s_nth f3 0 = some v5 := by first | rfl | assumption)  : wr P d sw_c153 sw_h153 (47, [r0, r1, vi x2, t3, t4, t5], [vi s0], h, kc, ks) Q := by
  refine w_st (ls' := [r0, r1, vi x2, vi s0, t4, t5]) rfl (Or.inl ⟨by decide, rfl⟩) rfl ?_
  refine w_ld rfl rfl (Or.inr (Or.inr ⟨by decide, y1⟩)) ?_
  subst e_q2
  refine w_getf rfl g4 n6 ?_
  subst e_q7
  exact w_cv rfl [.index q7] [] rfl rfl (s_wt_4 rfl) rfl g9 k

theorem k153_55 {P : s_P} {d : Nat} {Q : s_O → Prop} {h : s_H} {kc ks : Nat} {r0 r1 : Term} {x2 x3 : Int} {t4 t5 s0 : Term} {q3 : Nat} {f4 : List Term} {v6 : Term} {q8 : Nat} {f9 : List Term} (g5 : s_get h q3 = some (1, 3, f4)) (g10 : s_get h q8 = some (1, 0, f9)) (k : wm P d 109 [.index q8] h (wq P d sw_c153 sw_h153 64 [.index q3, r1, vi x2, vi x3, s0, t5] [] kc ks Q)) (e_q3 : r0 = .index q3 := by first | rfl | assumption) (e_q8 : v6 = .index q8 := by first | rfl | assumption) (y1 : s_ty s0 = 3 := by first | rfl | assumption) (y2 : s_ty r0 = 3 := by first | rfl | assumption) (n7 : s_nth f4 0 = some v6 := by first | rfl | assumption)  : wr P d sw_c153 sw_h153 (55, [r0, r1, vi x2, vi x3, t4, t5], [s0], h, kc, ks) Q := by
  refine w_st (ls' := [r0, r1, vi x2, vi x3, s0, t5]) rfl (Or.inr ⟨by decide, y1⟩) rfl ?_
  refine w_ld rfl rfl (Or.inr (Or.inr ⟨by decide, y2⟩)) ?_
  subst e_q3
  refine w_getf rfl g5 n7 ?_
  subst e_q8
  exact w_cv rfl [.index q8] [] rfl rfl (s_wt_4 rfl) rfl g10 k

theorem k153_64 {P : s_P} {d : Nat} {Q : s_O → Prop} {h : s_H} {kc ks : Nat} {r0 r1 : Term} {x2 x3 : Int} {r4 t5 s0 : Term} {q4 : Nat} {f5 : List Term} (g6 : s_get h q4 = some (1, 4, f5)) (k : wm P d 179 [.index q4, r1] h (wq P d sw_c153 sw_h153 72 [r0, r1, vi x2, vi x3, r4, .index q4] [] kc ks Q)) (e_q4 : s0 = .index q4 := by first | rfl | assumption) (y1 : s_ty r4 = 3 := by first | rfl | assumption) (y2 : s_ty s0 = 3 := by first | rfl | assumption) (y3 : s_ty r1 = 3 := by first | rfl | assumption)  : wr P d sw_c153 sw_h153 (64, [r0, r1, vi x2, vi x3, r4, t5], [s0], h, kc, ks) Q := by
  refine w_st (ls' := [r0, r1, vi x2, vi x3, r4, s0]) rfl (Or.inr ⟨by decide, y2⟩) (s_stK_r (pre := [r0, r1, vi x2, vi x3]) y1) ?_
  refine w_ld rfl rfl (Or.inr (Or.inr ⟨by decide, y2⟩)) ?_
  refine w_ld rfl rfl (Or.inr (Or.inr ⟨by decide, y3⟩)) ?_
  subst e_q4
  exact w_cv rfl [.index q4, r1] [] rfl rfl (s_wt_4 rfl) rfl g6 k

theorem k153_72 {P : s_P} {d : Nat} {Q : s_O → Prop} {h : s_H} {kc ks : Nat} {r0 r1 : Term} {x2 x3 : Int} {r4 r5 : Term} {q2 : Nat} {f3 : List Term} (g4 : s_get h q2 = some (1, 4, f3)) (k : wm P d 174 [.index q2] h (wq P d sw_c153 sw_h153 77 [r0, r1, vi x2, vi x3, r4, .index q2] [] kc ks Q)) (e_q2 : r5 = .index q2 := by first | rfl | assumption) (y1 : s_ty r5 = 3 := by first | rfl | assumption)  : wr P d sw_c153 sw_h153 (72, [r0, r1, vi x2, vi x3, r4, r5], [], h, kc, ks) Q := by
  refine w_ld rfl rfl (Or.inr (Or.inr ⟨by decide, y1⟩)) ?_
  subst e_q2
  exact w_cv rfl [.index q2] [] rfl rfl (s_wt_4 rfl) rfl g4 k

theorem k153_77 {P : s_P} {d : Nat} {Q : s_O → Prop} {h : s_H} {kc ks : Nat} {r0 r1 : Term} {x2 x3 : Int} {r4 r5 : Term} {q2 : Nat} {f3 : List Term} {v5 : Term} {q9 : Nat} {f10 : List Term} (g4 : s_get h q2 = some (1, 3, f3)) (g11 : s_get h q9 = some (1, 0, f10)) (k : wm P d 116 [.index q9, r1, r5, r5] h (wq P d sw_c153 sw_h153 89 [.index q2, r1, vi x2, vi x3, r4, r5] [] kc ks Q)) (e_q2 : r0 = .index q2 := by first | rfl | assumption) (e_q9 : v5 = .index q9 := by first | rfl | assumption) (y1 : s_ty r0 = 3 := by first | rfl | assumption) (n6 : s_nth f3 0 = some v5 := by first | rfl | assumption) (y7 : s_ty r1 = 3 := by first | rfl | assumption) (y8 : s_ty r5 = 3 := by first | rfl | assumption)  : wr P d sw_c153 sw_h153 (77, [r0, r1, vi x2, vi x3, r4, r5], [], h, kc, ks) Q := by
  refine w_ld rfl rfl (Or.inr (Or.inr ⟨by decide, y1⟩)) ?_
  subst e_q2
  refine w_getf rfl g4 n6 ?_
  refine w_ld rfl rfl (Or.inr (Or.inr ⟨by decide, y7⟩)) ?_
  refine w_ld rfl rfl (Or.inr (Or.inr ⟨by decide, y8⟩)) ?_
  refine w_ld rfl rfl (Or.inr (Or.inr ⟨by decide, y8⟩)) ?_
  subst e_q9
  exact w_cv rfl [.index q9, r1, r5, r5] [] rfl rfl (s_wt_4 rfl) rfl g11 k

theorem k153_89 {P : s_P} {d : Nat} {Q : s_O → Prop} {h : s_H} {kc ks : Nat} {r0 r1 : Term} {x2 x3 : Int} {r4 r5 : Term} {q2 : Nat} {f3 : List Term} {v5 : Term} {q10 : Nat} {f11 : List Term} (g4 : s_get h q2 = some (1, 3, f3)) (g12 : s_get h q10 = some (1, 0, f11)) (k : wm P d 117 [.index q10, r1, r5, vi 1, r4] h (wq P d sw_c153 sw_h153 102 [.index q2, r1, vi x2, vi x3, r4, r5] [] kc ks Q)) (e_q2 : r0 = .index q2 := by first | rfl | assumption) (e_q10 : v5 = .index q10 := by first | rfl | assumption) (y1 : s_ty r0 = 3 := by first | rfl | assumption) (n6 : s_nth f3 0 = some v5 := by first | rfl | assumption) (y7 : s_ty r1 = 3 := by first | rfl | assumption) (y8 : s_ty r5 = 3 := by first | rfl | assumption) (y9 : s_ty r4 = 3 := by first | rfl | assumption)  : wr P d sw_c153 sw_h153 (89, [r0, r1, vi x2, vi x3, r4, r5], [], h, kc, ks) Q := by
  refine w_ld rfl rfl (Or.inr (Or.inr ⟨by decide, y1⟩)) ?_
  subst e_q2
  refine w_getf rfl g4 n6 ?_
  refine w_ld rfl rfl (Or.inr (Or.inr ⟨by decide, y7⟩)) ?_
  refine w_ld rfl rfl (Or.inr (Or.inr ⟨by decide, y8⟩)) ?_
  refine w_c32 rfl (by decide) 1 (by decide) ?_
  refine w_ld rfl rfl (Or.inr (Or.inr ⟨by decide, y9⟩)) ?_
  subst e_q10
  exact w_cv rfl [.index q10, r1, r5, vi 1, r4] [] rfl rfl (s_wt_4 rfl) rfl g12 k

theorem k153_102 {P : s_P} {d : Nat} {Q : s_O → Prop} {h : s_H} {kc ks : Nat} {r0 r1 : Term} {x2 x3 : Int} {r4 r5 : Term} {q2 : Nat} {f3 : List Term} (g4 : s_get h q2 = some (1, 4, f3)) (k : wm P d 173 [.index q2] h (wq P d sw_c153 sw_h153 107 [r0, r1, vi x2, vi x3, .index q2, r5] [] kc ks Q)) (e_q2 : r4 = .index q2 := by first | rfl | assumption) (y1 : s_ty r4 = 3 := by first | rfl | assumption)  : wr P d sw_c153 sw_h153 (102, [r0, r1, vi x2, vi x3, r4, r5], [], h, kc, ks) Q := by
  refine w_ld rfl rfl (Or.inr (Or.inr ⟨by decide, y1⟩)) ?_
  subst e_q2
  exact w_cv rfl [.index q2] [] rfl rfl (s_wt_4 rfl) rfl g4 k

theorem k153_107 {P : s_P} {d : Nat} {Q : s_O → Prop} {h : s_H} {kc ks : Nat} {r0 r1 : Term} {x2 x3 : Int} {r4 r5 : Term} {q3 : Nat} {f4 : List Term} (g5 : s_get h q3 = some (1, 3, f4)) (k : wm P d 154 [.index q3, r4] h (wq P d sw_c153 sw_h153 113 [.index q3, r1, vi x2, vi x3, r4, r5] [] kc ks Q)) (e_q3 : r0 = .index q3 := by first | rfl | assumption) (y1 : s_ty r0 = 3 := by first | rfl | assumption) (y2 : s_ty r4 = 3 := by first | rfl | assumption)  : wr P d sw_c153 sw_h153 (107, [r0, r1, vi x2, vi x3, r4, r5], [], h, kc, ks) Q := by
  refine w_ld rfl rfl (Or.inr (Or.inr ⟨by decide, y1⟩)) ?_
  refine w_ld rfl rfl (Or.inr (Or.inr ⟨by decide, y2⟩)) ?_
  subst e_q3
  exact w_cv rfl [.index q3, r4] [] rfl rfl (s_wt_4 rfl) rfl g5 k

theorem k153_113 {P : s_P} {d : Nat} {Q : s_O → Prop} {h : s_H} {kc ks : Nat} {r0 r1 : Term} {x2 x3 : Int} {r4 r5 : Term} {q2 : Nat} {f3 : List Term} (g4 : s_get h q2 = some (1, 3, f3)) (k : wm P d 163 [.index q2] h (wq P d sw_c153 sw_h153 117 [.index q2, r1, vi x2, vi x3, r4, r5] [] kc ks Q)) (e_q2 : r0 = .index q2 := by first | rfl | assumption) (y1 : s_ty r0 = 3 := by first | rfl | assumption)  : wr P d sw_c153 sw_h153 (113, [r0, r1, vi x2, vi x3, r4, r5], [], h, kc, ks) Q := by
  refine w_ld rfl rfl (Or.inr (Or.inr ⟨by decide, y1⟩)) ?_
  subst e_q2
  exact w_cv rfl [.index q2] [] rfl rfl (s_wt_4 rfl) rfl g4 k

theorem k153_117 {P : s_P} {d : Nat} {Q : s_O → Prop} {h : s_H} {kc ks : Nat} {r0 r1 : Term} {x2 x3 : Int} {r4 r5 : Term} {q3 : Nat} {f4 : List Term} (g5 : s_get h q3 = some (1, 3, f4)) (k : wm P d 152 [.index q3, r1] h (wq P d sw_c153 sw_h153 122 [.index q3, r1, vi x2, vi x3, r4, r5] [] kc ks Q)) (e_q3 : r0 = .index q3 := by first | rfl | assumption) (y1 : s_ty r0 = 3 := by first | rfl | assumption) (y2 : s_ty r1 = 3 := by first | rfl | assumption)  : wr P d sw_c153 sw_h153 (117, [r0, r1, vi x2, vi x3, r4, r5], [], h, kc, ks) Q := by
  refine w_ld rfl rfl (Or.inr (Or.inr ⟨by decide, y1⟩)) ?_
  refine w_ld rfl rfl (Or.inr (Or.inr ⟨by decide, y2⟩)) ?_
  subst e_q3
  exact w_cv rfl [.index q3, r1] [] rfl rfl (s_wt_4 rfl) rfl g5 k

theorem k153_122 {P : s_P} {d : Nat} {Q : s_O → Prop} {h : s_H} {kc ks : Nat} {r0 r1 : Term} {x2 x3 : Int} {r4 r5 : Term} {q2 : Nat} {f3 : List Term} {v5 : Term} {q7 : Nat} {f8 : List Term} (g4 : s_get h q2 = some (1, 3, f3)) (g9 : s_get h q7 = some (1, 0, f8)) (k : wm P d 113 [.index q7, vi x3] h (wq P d sw_c153 sw_h153 130 [.index q2, r1, vi x2, vi x3, r4, r5] [] kc ks Q)) (e_q2 : r0 = .index q2 := by first | rfl | assumption) (e_q7 : v5 = .index q7 := by first | rfl | assumption) (y1 : s_ty r0 = 3 := by first | rfl | assumption) (n6 : s_nth f3 0 = some v5 := by first | rfl | assumption)  : wr P d sw_c153 sw_h153 (122, [r0, r1, vi x2, vi x3, r4, r5], [], h, kc, ks) Q := by
  refine w_ld rfl rfl (Or.inr (Or.inr ⟨by decide, y1⟩)) ?_
  subst e_q2
  refine w_getf rfl g4 n6 ?_
  refine w_ld rfl rfl (Or.inl ⟨by decide, rfl⟩) ?_
  subst e_q7
  exact w_cv rfl [.index q7, vi x3] [] rfl rfl (s_wt_4 rfl) rfl g9 k

theorem k153_130 {P : s_P} {d : Nat} {Q : s_O → Prop} {h : s_H} {kc ks : Nat} {r0 r1 : Term} {x2 x3 : Int} {r4 r5 : Term}  (k : Q (.inl none, h, kc, ks))   : wr P d sw_c153 sw_h153 (130, [r0, r1, vi x2, vi x3, r4, r5], [], h, kc, ks) Q := by
  exact w_ret rfl k

/-! 154: FormulaWorks$Parts.findPlain(LFormulaWorks$Poly;)V -/
theorem k154_0 {P : s_P} {d : Nat} {Q : s_O → Prop} {h : s_H} {kc ks : Nat} {r0 r1 t2 t3 t4 t5 t6 : Term} {q2 : Nat} {f3 : List Term} {v5 : Term} {q7 : Nat} {f8 : List Term} (g4 : s_get h q2 = some (1, 3, f3)) (g9 : s_get h q7 = some (1, 0, f8)) (k : wm P d 110 [.index q7] h (wq P d sw_c154 sw_h154 7 [.index q2, r1, t2, t3, t4, t5, t6] [] kc ks Q)) (e_q2 : r0 = .index q2 := by first | rfl | assumption) (e_q7 : v5 = .index q7 := by first | rfl | assumption) (y1 : s_ty r0 = 3 := by first | rfl | assumption) (n6 : s_nth f3 0 = some v5 := by first | rfl | assumption)  : wr P d sw_c154 sw_h154 (0, [r0, r1, t2, t3, t4, t5, t6], [], h, kc, ks) Q := by
  refine w_ld rfl rfl (Or.inr (Or.inr ⟨by decide, y1⟩)) ?_
  subst e_q2
  refine w_getf rfl g4 n6 ?_
  subst e_q7
  exact w_cv rfl [.index q7] [] rfl rfl (s_wt_4 rfl) rfl g9 k

theorem k154_7 {P : s_P} {d : Nat} {Q : s_O → Prop} {h : s_H} {kc ks : Nat} {r0 r1 t2 t3 t4 t5 t6 : Term} {s0 : Int} {q3 : Nat} {f4 : List Term} {v6 : Term} {q8 : Nat} {f9 : List Term} (g5 : s_get h q3 = some (1, 3, f4)) (g10 : s_get h q8 = some (1, 0, f9)) (k : wm P d 109 [.index q8] h (wq P d sw_c154 sw_h154 15 [.index q3, r1, vi s0, t3, t4, t5, t6] [] kc ks Q)) (e_q3 : r0 = .index q3 := by first | rfl | assumption) (e_q8 : v6 = .index q8 := by first | rfl | assumption) (y1 : s_ty r1 = 3 := by first | rfl | assumption) (y2 : s_ty r0 = 3 := by first | rfl | assumption) (n7 : s_nth f4 0 = some v6 := by first | rfl | assumption)  : wr P d sw_c154 sw_h154 (7, [r0, r1, t2, t3, t4, t5, t6], [vi s0], h, kc, ks) Q := by
  refine w_st (ls' := [r0, r1, vi s0, t3, t4, t5, t6]) rfl (Or.inl ⟨by decide, rfl⟩) (s_stK_r (pre := [r0]) y1) ?_
  refine w_ld rfl rfl (Or.inr (Or.inr ⟨by decide, y2⟩)) ?_
  subst e_q3
  refine w_getf rfl g5 n7 ?_
  subst e_q8
  exact w_cv rfl [.index q8] [] rfl rfl (s_wt_4 rfl) rfl g10 k

theorem k154_15 {P : s_P} {d : Nat} {Q : s_O → Prop} {h : s_H} {kc ks : Nat} {r0 r1 : Term} {x2 : Int} {t3 t4 t5 t6 s0 : Term} {q3 : Nat} {f4 : List Term} {v6 : Term} {q8 : Nat} {f9 : List Term} (g5 : s_get h q3 = some (1, 3, f4)) (g10 : s_get h q8 = some (1, 0, f9)) (k : wm P d 109 [.index q8] h (wq P d sw_c154 sw_h154 23 [.index q3, r1, vi x2, s0, t4, t5, t6] [] kc ks Q)) (e_q3 : r0 = .index q3 := by first | rfl | assumption) (e_q8 : v6 = .index q8 := by first | rfl | assumption) (y1 : s_ty s0 = 3 := by first | rfl | assumption) (y2 : s_ty r0 = 3 := by first | rfl | assumption) (n7 : s_nth f4 0 = some v6 := by first | rfl | assumption)  : wr P d sw_c154 sw_h154 (15, [r0, r1, vi x2, t3, t4, t5, t6], [s0], h, kc, ks) Q := by
  refine w_st (ls' := [r0, r1, vi x2, s0, t4, t5, t6]) rfl (Or.inr ⟨by decide, y1⟩) rfl ?_
  refine w_ld rfl rfl (Or.inr (Or.inr ⟨by decide, y2⟩)) ?_
  subst e_q3
  refine w_getf rfl g5 n7 ?_
  subst e_q8
  exact w_cv rfl [.index q8] [] rfl rfl (s_wt_4 rfl) rfl g10 k

theorem k154_23 {P : s_P} {d : Nat} {Q : s_O → Prop} {h : s_H} {kc ks : Nat} {r0 r1 : Term} {x2 : Int} {r3 t4 t5 t6 s0 : Term} {q4 : Nat} {f5 : List Term} {v7 : Term} {q9 : Nat} {f10 : List Term} (g6 : s_get h q4 = some (1, 3, f5)) (g11 : s_get h q9 = some (1, 0, f10)) (k : wm P d 109 [.index q9] h (wq P d sw_c154 sw_h154 32 [.index q4, r1, vi x2, r3, s0, t5, t6] [] kc ks Q)) (e_q4 : r0 = .index q4 := by first | rfl | assumption) (e_q9 : v7 = .index q9 := by first | rfl | assumption) (y1 : s_ty r3 = 3 := by first | rfl | assumption) (y2 : s_ty s0 = 3 := by first | rfl | assumption) (y3 : s_ty r0 = 3 := by first | rfl | assumption) (n8 : s_nth f5 0 = some v7 := by first | rfl | assumption)  : wr P d sw_c154 sw_h154 (23, [r0, r1, vi x2, r3, t4, t5, t6], [s0], h, kc, ks) Q := by
  refine w_st (ls' := [r0, r1, vi x2, r3, s0, t5, t6]) rfl (Or.inr ⟨by decide, y2⟩) (s_stK_r (pre := [r0, r1, vi x2]) y1) ?_
  refine w_ld rfl rfl (Or.inr (Or.inr ⟨by decide, y3⟩)) ?_
  subst e_q4
  refine w_getf rfl g6 n8 ?_
  subst e_q9
  exact w_cv rfl [.index q9] [] rfl rfl (s_wt_4 rfl) rfl g11 k

theorem k154_32 {P : s_P} {d : Nat} {Q : s_O → Prop} {h : s_H} {kc ks : Nat} {r0 r1 : Term} {x2 : Int} {r3 r4 t5 t6 s0 : Term} {q5 : Nat} {f6 : List Term} (g7 : s_get h q5 = some (1, 4, f6)) (k : wm P d 179 [.index q5, r1] h (wq P d sw_c154 sw_h154 39 [r0, r1, vi x2, .index q5, r4, s0, t6] [] kc ks Q)) (e_q5 : r3 = .index q5 := by first | rfl | assumption) (y1 : s_ty r4 = 3 := by first | rfl | assumption) (y2 : s_ty s0 = 3 := by first | rfl | assumption) (y3 : s_ty r3 = 3 := by first | rfl | assumption) (y4 : s_ty r1 = 3 := by first | rfl | assumption)  : wr P d sw_c154 sw_h154 (32, [r0, r1, vi x2, r3, r4, t5, t6], [s0], h, kc, ks) Q := by
  refine w_st (ls' := [r0, r1, vi x2, r3, r4, s0, t6]) rfl (Or.inr ⟨by decide, y2⟩) (s_stK_r (pre := [r0, r1, vi x2, r3]) y1) ?_
  refine w_ld rfl rfl (Or.inr (Or.inr ⟨by decide, y3⟩)) ?_
  refine w_ld rfl rfl (Or.inr (Or.inr ⟨by decide, y4⟩)) ?_
  subst e_q5
  exact w_cv rfl [.index q5, r1] [] rfl rfl (s_wt_4 rfl) rfl g7 k

theorem k154_39 {P : s_P} {d : Nat} {Q : s_O → Prop} {h : s_H} {kc ks : Nat} {r0 r1 : Term} {x2 : Int} {r3 r4 r5 t6 : Term} {q2 : Nat} {f3 : List Term} {z5 : Int} (g4 : s_get h q2 = some (1, 4, f3)) (k1 : z5 ≤ 1 → wr P d sw_c154 sw_h154 (52, [r0, r1, vi x2, .index q2, r4, r5, t6], [], h, kc, ks) Q) (k2 : ¬ z5 ≤ 1 → wr P d sw_c154 sw_h154 (47, [r0, r1, vi x2, .index q2, r4, r5, t6], [], h, kc, ks) Q) (e_q2 : r3 = .index q2 := by first | rfl | assumption) (y1 : s_ty r3 = 3 := by first | rfl | assumption) (n6 : s_nth f3 1 = some (vi z5) := by first | rfl | assumption) (c7 : In3 z5 := by first | omega | assumption | (simp only [mk_len, List.length_map]; omega) | decide) : wr P d sw_c154 sw_h154 (39, [r0, r1, vi x2, r3, r4, r5, t6], [], h, kc, ks) Q := by
  refine w_ld rfl rfl (Or.inr (Or.inr ⟨by decide, y1⟩)) ?_
  subst e_q2
  refine w_getf rfl g4 n6 ?_
  refine w_c32 rfl (by decide) 1 (by decide) ?_
  exact w_if2 rfl c7 (by decide) k1 k2

theorem k154_47 {P : s_P} {d : Nat} {Q : s_O → Prop} {h : s_H} {kc ks : Nat} {r0 r1 : Term} {x2 : Int} {r3 r4 r5 t6 : Term} {q3 : Nat} {f4 : List Term} (g5 : s_get h q3 = some (1, 3, f4)) (k : wm P d 157 [.index q3, r1] h (wq P d sw_c154 sw_h154 52 [.index q3, r1, vi x2, r3, r4, r5, t6] [] kc ks Q)) (e_q3 : r0 = .index q3 := by first | rfl | assumption) (y1 : s_ty r0 = 3 := by first | rfl | assumption) (y2 : s_ty r1 = 3 := by first | rfl | assumption)  : wr P d sw_c154 sw_h154 (47, [r0, r1, vi x2, r3, r4, r5, t6], [], h, kc, ks) Q := by
  refine w_ld rfl rfl (Or.inr (Or.inr ⟨by decide, y1⟩)) ?_
  refine w_ld rfl rfl (Or.inr (Or.inr ⟨by decide, y2⟩)) ?_
  subst e_q3
  exact w_cv rfl [.index q3, r1] [] rfl rfl (s_wt_4 rfl) rfl g5 k

theorem k154_52 {P : s_P} {d : Nat} {Q : s_O → Prop} {h : s_H} {kc ks : Nat} {r0 r1 : Term} {x2 : Int} {r3 r4 r5 t6 : Term}  (k : wr P d sw_c154 sw_h154 (55, [r0, r1, vi x2, r3, r4, r5, vi 1], [], h, kc, ks) Q) (y1 : s_ty r5 = 3 := by first | rfl | assumption)  : wr P d sw_c154 sw_h154 (52, [r0, r1, vi x2, r3, r4, r5, t6], [], h, kc, ks) Q := by
  refine w_c32 rfl (by decide) 1 (by decide) ?_
  refine w_st (ls' := [r0, r1, vi x2, r3, r4, r5, vi 1]) rfl (Or.inl ⟨by decide, rfl⟩) (s_stK_r (pre := [r0, r1, vi x2, r3, r4]) y1) ?_
  exact k

theorem k154_55 {P : s_P} {d : Nat} {Q : s_O → Prop} {h : s_H} {kc ks : Nat} {r0 r1 : Term} {x2 : Int} {r3 r4 r5 : Term} {x6 : Int}  (k1 : 40 < x6 → wr P d sw_c154 sw_h154 (154, [r0, r1, vi x2, r3, r4, r5, vi x6], [], h, kc, ks) Q) (k2 : ¬ 40 < x6 → wr P d sw_c154 sw_h154 (62, [r0, r1, vi x2, r3, r4, r5, vi x6], [], h, kc, ks) Q)  (c1 : In3 x6 := by first | omega | assumption | (simp only [mk_len, List.length_map]; omega) | decide) : wr P d sw_c154 sw_h154 (55, [r0, r1, vi x2, r3, r4, r5, vi x6], [], h, kc, ks) Q := by
  refine w_ld rfl rfl (Or.inl ⟨by decide, rfl⟩) ?_
  refine w_c32 rfl (by decide) 40 (by decide) ?_
  exact w_if2 rfl c1 (by decide) k1 k2

theorem k154_62 {P : s_P} {d : Nat} {Q : s_O → Prop} {h : s_H} {kc ks : Nat} {r0 r1 : Term} {x2 : Int} {r3 r4 r5 : Term} {x6 : Int} {q2 : Nat} {f3 : List Term} {z5 : Int} (g4 : s_get h q2 = some (1, 4, f3)) (k1 : z5 < 2 * x6 → wr P d sw_c154 sw_h154 (154, [r0, r1, vi x2, .index q2, r4, r5, vi x6], [], h, kc, ks) Q) (k2 : ¬ z5 < 2 * x6 → wr P d sw_c154 sw_h154 (73, [r0, r1, vi x2, .index q2, r4, r5, vi x6], [], h, kc, ks) Q) (e_q2 : r3 = .index q2 := by first | rfl | assumption) (y1 : s_ty r3 = 3 := by first | rfl | assumption) (n6 : s_nth f3 1 = some (vi z5) := by first | rfl | assumption) (c7 : In3 (2 * x6) := by first | omega | assumption | (simp only [mk_len, List.length_map]; omega) | decide) (c8 : In3 z5 := by first | omega | assumption | (simp only [mk_len, List.length_map]; omega) | decide) : wr P d sw_c154 sw_h154 (62, [r0, r1, vi x2, r3, r4, r5, vi x6], [], h, kc, ks) Q := by
  refine w_c32 rfl (by decide) 2 (by decide) ?_
  refine w_ld rfl rfl (Or.inl ⟨by decide, rfl⟩) ?_
  refine w_imul rfl ?_
  refine w_ld rfl rfl (Or.inr (Or.inr ⟨by decide, y1⟩)) ?_
  subst e_q2
  refine w_getf rfl g4 n6 ?_
  exact w_if2 rfl c7 c8 k1 k2

theorem k154_73 {P : s_P} {d : Nat} {Q : s_O → Prop} {h : s_H} {kc ks : Nat} {r0 r1 : Term} {x2 : Int} {r3 r4 r5 : Term} {x6 : Int}  (k1 : x6 ≤ 1 → wr P d sw_c154 sw_h154 (85, [r0, r1, vi x2, r3, r4, r5, vi x6], [], h, kc, ks) Q) (k2 : ¬ x6 ≤ 1 → wr P d sw_c154 sw_h154 (79, [r0, r1, vi x2, r3, r4, r5, vi x6], [], h, kc, ks) Q)  (c1 : In3 x6 := by first | omega | assumption | (simp only [mk_len, List.length_map]; omega) | decide) : wr P d sw_c154 sw_h154 (73, [r0, r1, vi x2, r3, r4, r5, vi x6], [], h, kc, ks) Q := by
  refine w_ld rfl rfl (Or.inl ⟨by decide, rfl⟩) ?_
  refine w_c32 rfl (by decide) 1 (by decide) ?_
  exact w_if2 rfl c1 (by decide) k1 k2

theorem k154_79 {P : s_P} {d : Nat} {Q : s_O → Prop} {h : s_H} {kc ks : Nat} {r0 r1 : Term} {x2 : Int} {r3 r4 r5 : Term} {x6 : Int} {q2 : Nat} {f3 : List Term} (g4 : s_get h q2 = some (1, 3, f3)) (k : wm P d 159 [.index q2, vi x6] h (wq P d sw_c154 sw_h154 85 [.index q2, r1, vi x2, r3, r4, r5, vi x6] [] kc ks Q)) (e_q2 : r0 = .index q2 := by first | rfl | assumption) (y1 : s_ty r0 = 3 := by first | rfl | assumption)  : wr P d sw_c154 sw_h154 (79, [r0, r1, vi x2, r3, r4, r5, vi x6], [], h, kc, ks) Q := by
  refine w_ld rfl rfl (Or.inr (Or.inr ⟨by decide, y1⟩)) ?_
  refine w_ld rfl rfl (Or.inl ⟨by decide, rfl⟩) ?_
  subst e_q2
  exact w_cv rfl [.index q2, vi x6] [] rfl rfl (s_wt_4 rfl) rfl g4 k

theorem k154_85 {P : s_P} {d : Nat} {Q : s_O → Prop} {h : s_H} {kc ks : Nat} {r0 r1 : Term} {x2 : Int} {r3 r4 r5 : Term} {x6 : Int} {q2 : Nat} {f3 : List Term} (g4 : s_get h q2 = some (1, 4, f3)) (k : wm P d 181 [.index q2, vi 1] h (wq P d sw_c154 sw_h154 91 [r0, r1, vi x2, r3, r4, .index q2, vi x6] [] kc ks Q)) (e_q2 : r5 = .index q2 := by first | rfl | assumption) (y1 : s_ty r5 = 3 := by first | rfl | assumption)  : wr P d sw_c154 sw_h154 (85, [r0, r1, vi x2, r3, r4, r5, vi x6], [], h, kc, ks) Q := by
  refine w_ld rfl rfl (Or.inr (Or.inr ⟨by decide, y1⟩)) ?_
  refine w_c32 rfl (by decide) 1 (by decide) ?_
  subst e_q2
  exact w_cv rfl [.index q2, vi 1] [] rfl rfl (s_wt_4 rfl) rfl g4 k

theorem k154_91 {P : s_P} {d : Nat} {Q : s_O → Prop} {h : s_H} {kc ks : Nat} {r0 r1 : Term} {x2 : Int} {r3 r4 r5 : Term} {x6 : Int} {q3 : Nat} {f4 : List Term} {v6 : Term} {q8 : Nat} {a9 : List Term} {tg11 : Nat} {v12 : Term} {q18 : Nat} {f19 : List Term} (g5 : s_get h q3 = some (1, 3, f4)) (g10 : s_get h q8 = some (0, tg11, a9)) (g20 : s_get h q18 = some (1, 4, f19)) (k : wm P d 184 [.index q18, v12, r5, vi 32002] h (wq P d sw_c154 sw_h154 108 [.index q3, r1, vi x2, r3, .index q18, r5, vi x6] [] kc ks Q)) (e_q3 : r0 = .index q3 := by first | rfl | assumption) (e_q8 : v6 = .index q8 := by first | rfl | assumption) (e_q18 : r4 = .index q18 := by first | rfl | assumption) (y1 : s_ty r4 = 3 := by first | rfl | assumption) (y2 : s_ty r0 = 3 := by first | rfl | assumption) (n7 : s_nth f4 5 = some v6 := by first | rfl | assumption) (n13 : s_nth a9 (Int.toNat (x6)) = some v12 := by first | rfl | assumption) (u14 : tg11 = 2 ∨ tg11 = 3 ∨ tg11 = 4 := by first | decide | assumption) (y17 : s_ty r5 = 3 := by first | rfl | assumption) (c15 : In3 x6 := by first | omega | assumption | (simp only [mk_len, List.length_map]; omega) | decide) (c16 : 0 ≤ x6 := by first | omega | assumption | (simp only [mk_len, List.length_map]; omega) | decide) : wr P d sw_c154 sw_h154 (91, [r0, r1, vi x2, r3, r4, r5, vi x6], [], h, kc, ks) Q := by
  refine w_ld rfl rfl (Or.inr (Or.inr ⟨by decide, y1⟩)) ?_
  refine w_ld rfl rfl (Or.inr (Or.inr ⟨by decide, y2⟩)) ?_
  subst e_q3
  refine w_getf rfl g5 n7 ?_
  refine w_ld rfl rfl (Or.inl ⟨by decide, rfl⟩) ?_
  subst e_q8
  refine w_aald rfl g10 u14 c15 c16 n13 ?_
  refine w_ld rfl rfl (Or.inr (Or.inr ⟨by decide, y17⟩)) ?_
  refine w_c32 rfl (by decide) 32002 (by decide) ?_
  subst e_q18
  exact w_cv rfl [.index q18, v12, r5, vi 32002] [] rfl rfl (s_wt_4 rfl) rfl g20 k

theorem k154_108 {P : s_P} {d : Nat} {Q : s_O → Prop} {h : s_H} {kc ks : Nat} {r0 r1 : Term} {x2 : Int} {r3 r4 r5 : Term} {x6 : Int} {q2 : Nat} {f3 : List Term} {v5 : Term} {q9 : Nat} {f10 : List Term} (g4 : s_get h q2 = some (1, 3, f3)) (g11 : s_get h q9 = some (1, 0, f10)) (k : wm P d 116 [.index q9, r4, r3, r4] h (wq P d sw_c154 sw_h154 120 [.index q2, r1, vi x2, r3, r4, r5, vi x6] [] kc ks Q)) (e_q2 : r0 = .index q2 := by first | rfl | assumption) (e_q9 : v5 = .index q9 := by first | rfl | assumption) (y1 : s_ty r0 = 3 := by first | rfl | assumption) (n6 : s_nth f3 0 = some v5 := by first | rfl | assumption) (y7 : s_ty r4 = 3 := by first | rfl | assumption) (y8 : s_ty r3 = 3 := by first | rfl | assumption)  : wr P d sw_c154 sw_h154 (108, [r0, r1, vi x2, r3, r4, r5, vi x6], [], h, kc, ks) Q := by
  refine w_ld rfl rfl (Or.inr (Or.inr ⟨by decide, y1⟩)) ?_
  subst e_q2
  refine w_getf rfl g4 n6 ?_
  refine w_ld rfl rfl (Or.inr (Or.inr ⟨by decide, y7⟩)) ?_
  refine w_ld rfl rfl (Or.inr (Or.inr ⟨by decide, y8⟩)) ?_
  refine w_ld rfl rfl (Or.inr (Or.inr ⟨by decide, y7⟩)) ?_
  subst e_q9
  exact w_cv rfl [.index q9, r4, r3, r4] [] rfl rfl (s_wt_4 rfl) rfl g11 k

theorem k154_120 {P : s_P} {d : Nat} {Q : s_O → Prop} {h : s_H} {kc ks : Nat} {r0 r1 : Term} {x2 : Int} {r3 r4 r5 : Term} {x6 : Int} {q2 : Nat} {f3 : List Term} {z5 : Int} (g4 : s_get h q2 = some (1, 4, f3)) (k1 : z5 ≤ 0 → wr P d sw_c154 sw_h154 (148, [r0, r1, vi x2, r3, .index q2, r5, vi x6], [], h, kc, ks) Q) (k2 : ¬ z5 ≤ 0 → wr P d sw_c154 sw_h154 (128, [r0, r1, vi x2, r3, .index q2, r5, vi x6], [], h, kc, ks) Q) (e_q2 : r4 = .index q2 := by first | rfl | assumption) (y1 : s_ty r4 = 3 := by first | rfl | assumption) (n6 : s_nth f3 1 = some (vi z5) := by first | rfl | assumption) (c7 : In3 z5 := by first | omega | assumption | (simp only [mk_len, List.length_map]; omega) | decide) : wr P d sw_c154 sw_h154 (120, [r0, r1, vi x2, r3, r4, r5, vi x6], [], h, kc, ks) Q := by
  refine w_ld rfl rfl (Or.inr (Or.inr ⟨by decide, y1⟩)) ?_
  subst e_q2
  refine w_getf rfl g4 n6 ?_
  exact w_if1 rfl c7 k1 k2

theorem k154_128 {P : s_P} {d : Nat} {Q : s_O → Prop} {h : s_H} {kc ks : Nat} {r0 r1 : Term} {x2 : Int} {r3 r4 r5 : Term} {x6 : Int} {q2 : Nat} {f3 : List Term} {v5 : Term} {q9 : Nat} {f10 : List Term} (g4 : s_get h q2 = some (1, 3, f3)) (g11 : s_get h q9 = some (1, 0, f10)) (k : wm P d 117 [.index q9, r3, r4, vi 1, r3] h (wq P d sw_c154 sw_h154 140 [.index q2, r1, vi x2, r3, r4, r5, vi x6] [] kc ks Q)) (e_q2 : r0 = .index q2 := by first | rfl | assumption) (e_q9 : v5 = .index q9 := by first | rfl | assumption) (y1 : s_ty r0 = 3 := by first | rfl | assumption) (n6 : s_nth f3 0 = some v5 := by first | rfl | assumption) (y7 : s_ty r3 = 3 := by first | rfl | assumption) (y8 : s_ty r4 = 3 := by first | rfl | assumption)  : wr P d sw_c154 sw_h154 (128, [r0, r1, vi x2, r3, r4, r5, vi x6], [], h, kc, ks) Q := by
  refine w_ld rfl rfl (Or.inr (Or.inr ⟨by decide, y1⟩)) ?_
  subst e_q2
  refine w_getf rfl g4 n6 ?_
  refine w_ld rfl rfl (Or.inr (Or.inr ⟨by decide, y7⟩)) ?_
  refine w_ld rfl rfl (Or.inr (Or.inr ⟨by decide, y8⟩)) ?_
  refine w_c32 rfl (by decide) 1 (by decide) ?_
  refine w_ld rfl rfl (Or.inr (Or.inr ⟨by decide, y7⟩)) ?_
  subst e_q9
  exact w_cv rfl [.index q9, r3, r4, vi 1, r3] [] rfl rfl (s_wt_4 rfl) rfl g11 k

theorem k154_140 {P : s_P} {d : Nat} {Q : s_O → Prop} {h : s_H} {kc ks : Nat} {r0 r1 : Term} {x2 : Int} {r3 r4 r5 : Term} {x6 : Int} {q3 : Nat} {f4 : List Term} (g5 : s_get h q3 = some (1, 3, f4)) (k : wm P d 164 [.index q3, r4, vi x6] h (wq P d sw_c154 sw_h154 148 [.index q3, r1, vi x2, r3, r4, r5, vi x6] [] kc ks Q)) (e_q3 : r0 = .index q3 := by first | rfl | assumption) (y1 : s_ty r0 = 3 := by first | rfl | assumption) (y2 : s_ty r4 = 3 := by first | rfl | assumption)  : wr P d sw_c154 sw_h154 (140, [r0, r1, vi x2, r3, r4, r5, vi x6], [], h, kc, ks) Q := by
  refine w_ld rfl rfl (Or.inr (Or.inr ⟨by decide, y1⟩)) ?_
  refine w_ld rfl rfl (Or.inr (Or.inr ⟨by decide, y2⟩)) ?_
  refine w_ld rfl rfl (Or.inl ⟨by decide, rfl⟩) ?_
  subst e_q3
  exact w_cv rfl [.index q3, r4, vi x6] [] rfl rfl (s_wt_4 rfl) rfl g5 k

theorem k154_148 {P : s_P} {d : Nat} {Q : s_O → Prop} {h : s_H} {kc ks : Nat} {r0 r1 : Term} {x2 : Int} {r3 r4 r5 : Term} {x6 : Int}  (k : wr P d sw_c154 sw_h154 (55, [r0, r1, vi x2, r3, r4, r5, vi (x6 + 1)], [], h, kc, ks) Q) (y1 : s_ty r5 = 3 := by first | rfl | assumption)  : wr P d sw_c154 sw_h154 (148, [r0, r1, vi x2, r3, r4, r5, vi x6], [], h, kc, ks) Q := by
  refine w_iinc (ls' := [r0, r1, vi x2, r3, r4, r5, vi (x6 + 1)]) rfl rfl 1 (by decide) (s_stK_r (pre := [r0, r1, vi x2, r3, r4]) y1) ?_
  refine w_goto rfl ?_
  exact k

theorem k154_154 {P : s_P} {d : Nat} {Q : s_O → Prop} {h : s_H} {kc ks : Nat} {r0 r1 : Term} {x2 : Int} {r3 r4 r5 : Term} {x6 : Int} {q2 : Nat} {f3 : List Term} {z5 : Int} (g4 : s_get h q2 = some (1, 4, f3)) (k1 : z5 ≤ 0 → wr P d sw_c154 sw_h154 (166, [r0, r1, vi x2, .index q2, r4, r5, vi x6], [], h, kc, ks) Q) (k2 : ¬ z5 ≤ 0 → wr P d sw_c154 sw_h154 (161, [r0, r1, vi x2, .index q2, r4, r5, vi x6], [], h, kc, ks) Q) (e_q2 : r3 = .index q2 := by first | rfl | assumption) (y1 : s_ty r3 = 3 := by first | rfl | assumption) (n6 : s_nth f3 1 = some (vi z5) := by first | rfl | assumption) (c7 : In3 z5 := by first | omega | assumption | (simp only [mk_len, List.length_map]; omega) | decide) : wr P d sw_c154 sw_h154 (154, [r0, r1, vi x2, r3, r4, r5, vi x6], [], h, kc, ks) Q := by
  refine w_ld rfl rfl (Or.inr (Or.inr ⟨by decide, y1⟩)) ?_
  subst e_q2
  refine w_getf rfl g4 n6 ?_
  exact w_if1 rfl c7 k1 k2

theorem k154_161 {P : s_P} {d : Nat} {Q : s_O → Prop} {h : s_H} {kc ks : Nat} {r0 r1 : Term} {x2 : Int} {r3 r4 r5 : Term} {x6 : Int} {q3 : Nat} {f4 : List Term} (g5 : s_get h q3 = some (1, 3, f4)) (k : wm P d 151 [.index q3, r3] h (wq P d sw_c154 sw_h154 166 [.index q3, r1, vi x2, r3, r4, r5, vi x6] [] kc ks Q)) (e_q3 : r0 = .index q3 := by first | rfl | assumption) (y1 : s_ty r0 = 3 := by first | rfl | assumption) (y2 : s_ty r3 = 3 := by first | rfl | assumption)  : wr P d sw_c154 sw_h154 (161, [r0, r1, vi x2, r3, r4, r5, vi x6], [], h, kc, ks) Q := by
  refine w_ld rfl rfl (Or.inr (Or.inr ⟨by decide, y1⟩)) ?_
  refine w_ld rfl rfl (Or.inr (Or.inr ⟨by decide, y2⟩)) ?_
  subst e_q3
  exact w_cv rfl [.index q3, r3] [] rfl rfl (s_wt_4 rfl) rfl g5 k

theorem k154_166 {P : s_P} {d : Nat} {Q : s_O → Prop} {h : s_H} {kc ks : Nat} {r0 r1 : Term} {x2 : Int} {r3 r4 r5 : Term} {x6 : Int} {q2 : Nat} {f3 : List Term} {v5 : Term} {q7 : Nat} {f8 : List Term} (g4 : s_get h q2 = some (1, 3, f3)) (g9 : s_get h q7 = some (1, 0, f8)) (k : wm P d 113 [.index q7, vi x2] h (wq P d sw_c154 sw_h154 174 [.index q2, r1, vi x2, r3, r4, r5, vi x6] [] kc ks Q)) (e_q2 : r0 = .index q2 := by first | rfl | assumption) (e_q7 : v5 = .index q7 := by first | rfl | assumption) (y1 : s_ty r0 = 3 := by first | rfl | assumption) (n6 : s_nth f3 0 = some v5 := by first | rfl | assumption)  : wr P d sw_c154 sw_h154 (166, [r0, r1, vi x2, r3, r4, r5, vi x6], [], h, kc, ks) Q := by
  refine w_ld rfl rfl (Or.inr (Or.inr ⟨by decide, y1⟩)) ?_
  subst e_q2
  refine w_getf rfl g4 n6 ?_
  refine w_ld rfl rfl (Or.inl ⟨by decide, rfl⟩) ?_
  subst e_q7
  exact w_cv rfl [.index q7, vi x2] [] rfl rfl (s_wt_4 rfl) rfl g9 k

theorem k154_174 {P : s_P} {d : Nat} {Q : s_O → Prop} {h : s_H} {kc ks : Nat} {r0 r1 : Term} {x2 : Int} {r3 r4 r5 : Term} {x6 : Int}  (k : Q (.inl none, h, kc, ks))   : wr P d sw_c154 sw_h154 (174, [r0, r1, vi x2, r3, r4, r5, vi x6], [], h, kc, ks) Q := by
  exact w_ret rfl k

/-! 155: FormulaWorks$Parts.logOf(LFormulaWorks$Thing;LFormulaWorks$Poly;)I -/
theorem k155_0 {P : s_P} {d : Nat} {Q : s_O → Prop} {h : s_H} {kc ks : Nat} {r0 r1 r2 t3 t4 t5 t6 : Term} {q2 : Nat} {f3 : List Term} {v5 : Term} {q7 : Nat} {f8 : List Term} (g4 : s_get h q2 = some (1, 3, f3)) (g9 : s_get h q7 = some (1, 0, f8)) (k : wm P d 110 [.index q7] h (wq P d sw_c155 sw_h155 7 [.index q2, r1, r2, t3, t4, t5, t6] [] kc ks Q)) (e_q2 : r0 = .index q2 := by first | rfl | assumption) (e_q7 : v5 = .index q7 := by first | rfl | assumption) (y1 : s_ty r0 = 3 := by first | rfl | assumption) (n6 : s_nth f3 0 = some v5 := by first | rfl | assumption)  : wr P d sw_c155 sw_h155 (0, [r0, r1, r2, t3, t4, t5, t6], [], h, kc, ks) Q := by
  refine w_ld rfl rfl (Or.inr (Or.inr ⟨by decide, y1⟩)) ?_
  subst e_q2
  refine w_getf rfl g4 n6 ?_
  subst e_q7
  exact w_cv rfl [.index q7] [] rfl rfl (s_wt_4 rfl) rfl g9 k

theorem k155_7 {P : s_P} {d : Nat} {Q : s_O → Prop} {h : s_H} {kc ks : Nat} {r0 r1 r2 t3 t4 t5 t6 : Term} {s0 : Int} {q3 : Nat} {f4 : List Term} {v6 : Term} {q8 : Nat} {f9 : List Term} (g5 : s_get h q3 = some (1, 3, f4)) (g10 : s_get h q8 = some (1, 0, f9)) (k : wm P d 109 [.index q8] h (wq P d sw_c155 sw_h155 15 [.index q3, r1, r2, vi s0, t4, t5, t6] [] kc ks Q)) (e_q3 : r0 = .index q3 := by first | rfl | assumption) (e_q8 : v6 = .index q8 := by first | rfl | assumption) (y1 : s_ty r2 = 3 := by first | rfl | assumption) (y2 : s_ty r0 = 3 := by first | rfl | assumption) (n7 : s_nth f4 0 = some v6 := by first | rfl | assumption)  : wr P d sw_c155 sw_h155 (7, [r0, r1, r2, t3, t4, t5, t6], [vi s0], h, kc, ks) Q := by
  refine w_st (ls' := [r0, r1, r2, vi s0, t4, t5, t6]) rfl (Or.inl ⟨by decide, rfl⟩) (s_stK_r (pre := [r0, r1]) y1) ?_
  refine w_ld rfl rfl (Or.inr (Or.inr ⟨by decide, y2⟩)) ?_
  subst e_q3
  refine w_getf rfl g5 n7 ?_
  subst e_q8
  exact w_cv rfl [.index q8] [] rfl rfl (s_wt_4 rfl) rfl g10 k

theorem k155_15 {P : s_P} {d : Nat} {Q : s_O → Prop} {h : s_H} {kc ks : Nat} {r0 r1 r2 : Term} {x3 : Int} {t4 t5 t6 s0 : Term} {q3 : Nat} {f4 : List Term} {v6 : Term} {q8 : Nat} {f9 : List Term} (g5 : s_get h q3 = some (1, 3, f4)) (g10 : s_get h q8 = some (1, 0, f9)) (k : wm P d 109 [.index q8] h (wq P d sw_c155 sw_h155 24 [.index q3, r1, r2, vi x3, s0, t5, t6] [] kc ks Q)) (e_q3 : r0 = .index q3 := by first | rfl | assumption) (e_q8 : v6 = .index q8 := by first | rfl | assumption) (y1 : s_ty s0 = 3 := by first | rfl | assumption) (y2 : s_ty r0 = 3 := by first | rfl | assumption) (n7 : s_nth f4 0 = some v6 := by first | rfl | assumption)  : wr P d sw_c155 sw_h155 (15, [r0, r1, r2, vi x3, t4, t5, t6], [s0], h, kc, ks) Q := by
  refine w_st (ls' := [r0, r1, r2, vi x3, s0, t5, t6]) rfl (Or.inr ⟨by decide, y1⟩) rfl ?_
  refine w_ld rfl rfl (Or.inr (Or.inr ⟨by decide, y2⟩)) ?_
  subst e_q3
  refine w_getf rfl g5 n7 ?_
  subst e_q8
  exact w_cv rfl [.index q8] [] rfl rfl (s_wt_4 rfl) rfl g10 k

theorem k155_24 {P : s_P} {d : Nat} {Q : s_O → Prop} {h : s_H} {kc ks : Nat} {r0 r1 r2 : Term} {x3 : Int} {r4 t5 t6 s0 : Term} {q4 : Nat} {f5 : List Term} {v7 : Term} {q9 : Nat} {f10 : List Term} (g6 : s_get h q4 = some (1, 8, f5)) (g11 : s_get h q9 = some (1, 4, f10)) (k : wm P d 179 [.index q9, v7] h (wq P d sw_c155 sw_h155 35 [r0, .index q4, r2, vi x3, .index q9, s0, t6] [] kc ks Q)) (e_q4 : r1 = .index q4 := by first | rfl | assumption) (e_q9 : r4 = .index q9 := by first | rfl | assumption) (y1 : s_ty r4 = 3 := by first | rfl | assumption) (y2 : s_ty s0 = 3 := by first | rfl | assumption) (y3 : s_ty r1 = 3 := by first | rfl | assumption) (n8 : s_nth f5 2 = some v7 := by first | rfl | assumption)  : wr P d sw_c155 sw_h155 (24, [r0, r1, r2, vi x3, r4, t5, t6], [s0], h, kc, ks) Q := by
  refine w_st (ls' := [r0, r1, r2, vi x3, r4, s0, t6]) rfl (Or.inr ⟨by decide, y2⟩) (s_stK_r (pre := [r0, r1, r2, vi x3]) y1) ?_
  refine w_ld rfl rfl (Or.inr (Or.inr ⟨by decide, y1⟩)) ?_
  refine w_ld rfl rfl (Or.inr (Or.inr ⟨by decide, y3⟩)) ?_
  subst e_q4
  refine w_getf rfl g6 n8 ?_
  subst e_q9
  exact w_cv rfl [.index q9, v7] [] rfl rfl (s_wt_4 rfl) rfl g11 k

theorem k155_35 {P : s_P} {d : Nat} {Q : s_O → Prop} {h : s_H} {kc ks : Nat} {r0 r1 r2 : Term} {x3 : Int} {r4 r5 t6 : Term} {q2 : Nat} {f3 : List Term} (g4 : s_get h q2 = some (1, 4, f3)) (k : wm P d 174 [.index q2] h (wq P d sw_c155 sw_h155 40 [r0, r1, r2, vi x3, .index q2, r5, t6] [] kc ks Q)) (e_q2 : r4 = .index q2 := by first | rfl | assumption) (y1 : s_ty r4 = 3 := by first | rfl | assumption)  : wr P d sw_c155 sw_h155 (35, [r0, r1, r2, vi x3, r4, r5, t6], [], h, kc, ks) Q := by
  refine w_ld rfl rfl (Or.inr (Or.inr ⟨by decide, y1⟩)) ?_
  subst e_q2
  exact w_cv rfl [.index q2] [] rfl rfl (s_wt_4 rfl) rfl g4 k

theorem k155_40 {P : s_P} {d : Nat} {Q : s_O → Prop} {h : s_H} {kc ks : Nat} {r0 r1 r2 : Term} {x3 : Int} {r4 r5 t6 : Term} {q3 : Nat} {f4 : List Term} (g5 : s_get h q3 = some (1, 4, f4)) (k : wm P d 176 [.index q3, r2, vi 1, .null] h (wq P d sw_c155 sw_h155 48 [r0, r1, r2, vi x3, .index q3, r5, t6] [] kc ks Q)) (e_q3 : r4 = .index q3 := by first | rfl | assumption) (y1 : s_ty r4 = 3 := by first | rfl | assumption) (y2 : s_ty r2 = 3 := by first | rfl | assumption)  : wr P d sw_c155 sw_h155 (40, [r0, r1, r2, vi x3, r4, r5, t6], [], h, kc, ks) Q := by
  refine w_ld rfl rfl (Or.inr (Or.inr ⟨by decide, y1⟩)) ?_
  refine w_ld rfl rfl (Or.inr (Or.inr ⟨by decide, y2⟩)) ?_
  refine w_c32 rfl (by decide) 1 (by decide) ?_
  refine w_null rfl ?_
  subst e_q3
  exact w_cv rfl [.index q3, r2, vi 1, .null] [] rfl rfl (s_wt_4 rfl) rfl g5 k

theorem k155_48 {P : s_P} {d : Nat} {Q : s_O → Prop} {h : s_H} {kc ks : Nat} {r0 r1 r2 : Term} {x3 : Int} {r4 r5 t6 : Term} {q2 : Nat} {f3 : List Term} {v5 : Term} {q8 : Nat} {f9 : List Term} {v11 : Term} {q15 : Nat} {f16 : List Term} (g4 : s_get h q2 = some (1, 3, f3)) (g10 : s_get h q8 = some (1, 8, f9)) (g17 : s_get h q15 = some (1, 0, f16)) (k : wm P d 117 [.index q15, v11, r2, vi 0, r5] h (wq P d sw_c155 sw_h155 63 [.index q2, .index q8, r2, vi x3, r4, r5, t6] [] kc ks Q)) (e_q2 : r0 = .index q2 := by first | rfl | assumption) (e_q8 : r1 = .index q8 := by first | rfl | assumption) (e_q15 : v5 = .index q15 := by first | rfl | assumption) (y1 : s_ty r0 = 3 := by first | rfl | assumption) (n6 : s_nth f3 0 = some v5 := by first | rfl | assumption) (y7 : s_ty r1 = 3 := by first | rfl | assumption) (n12 : s_nth f9 1 = some v11 := by first | rfl | assumption) (y13 : s_ty r2 = 3 := by first | rfl | assumption) (y14 : s_ty r5 = 3 := by first | rfl | assumption)  : wr P d sw_c155 sw_h155 (48, [r0, r1, r2, vi x3, r4, r5, t6], [], h, kc, ks) Q := by
  refine w_ld rfl rfl (Or.inr (Or.inr ⟨by decide, y1⟩)) ?_
  subst e_q2
  refine w_getf rfl g4 n6 ?_
  refine w_ld rfl rfl (Or.inr (Or.inr ⟨by decide, y7⟩)) ?_
  subst e_q8
  refine w_getf rfl g10 n12 ?_
  refine w_ld rfl rfl (Or.inr (Or.inr ⟨by decide, y13⟩)) ?_
  refine w_c32 rfl (by decide) 0 (by decide) ?_
  refine w_ld rfl rfl (Or.inr (Or.inr ⟨by decide, y14⟩)) ?_
  subst e_q15
  exact w_cv rfl [.index q15, v11, r2, vi 0, r5] [] rfl rfl (s_wt_4 rfl) rfl g17 k

theorem k155_63 {P : s_P} {d : Nat} {Q : s_O → Prop} {h : s_H} {kc ks : Nat} {r0 r1 r2 : Term} {x3 : Int} {r4 r5 t6 : Term} {q3 : Nat} {f4 : List Term} {z6 : Int} {q8 : Nat} {f9 : List Term} (g5 : s_get h q3 = some (1, 4, f4)) (g10 : s_get h q8 = some (1, 4, f9)) (k : wm P d 167 [.index q8, vi z6] h (wq P d sw_c155 sw_h155 73 [r0, r1, r2, vi x3, .index q3, .index q8, t6] [] kc ks Q)) (e_q3 : r4 = .index q3 := by first | rfl | assumption) (e_q8 : r5 = .index q8 := by first | rfl | assumption) (y1 : s_ty r5 = 3 := by first | rfl | assumption) (y2 : s_ty r4 = 3 := by first | rfl | assumption) (n7 : s_nth f4 1 = some (vi z6) := by first | rfl | assumption)  : wr P d sw_c155 sw_h155 (63, [r0, r1, r2, vi x3, r4, r5, t6], [], h, kc, ks) Q := by
  refine w_ld rfl rfl (Or.inr (Or.inr ⟨by decide, y1⟩)) ?_
  refine w_ld rfl rfl (Or.inr (Or.inr ⟨by decide, y2⟩)) ?_
  subst e_q3
  refine w_getf rfl g5 n7 ?_
  subst e_q8
  exact w_cv rfl [.index q8, vi z6] [] rfl rfl (s_wt_4 rfl) rfl g10 k

theorem k155_73 {P : s_P} {d : Nat} {Q : s_O → Prop} {h : s_H} {kc ks : Nat} {r0 r1 r2 : Term} {x3 : Int} {r4 r5 t6 : Term} {s0 : Int} {q2 : Nat} {f3 : List Term} (g4 : s_get h q2 = some (1, 4, f3)) (k : wm P d 171 [.index q2] h (wq P d sw_c155 sw_h155 78 [r0, r1, r2, vi x3, .index q2, r5, t6] [vi s0] kc ks Q)) (e_q2 : r4 = .index q2 := by first | rfl | assumption) (y1 : s_ty r4 = 3 := by first | rfl | assumption)  : wr P d sw_c155 sw_h155 (73, [r0, r1, r2, vi x3, r4, r5, t6], [vi s0], h, kc, ks) Q := by
  refine w_ld rfl rfl (Or.inr (Or.inr ⟨by decide, y1⟩)) ?_
  subst e_q2
  exact w_cv rfl [.index q2] [vi s0] rfl rfl (s_wt_4 rfl) rfl g4 k

theorem k155_78 {P : s_P} {d : Nat} {Q : s_O → Prop} {h : s_H} {kc ks : Nat} {r0 r1 r2 : Term} {x3 : Int} {r4 r5 t6 : Term} {s0 s1 : Int}  (k : wm P d 168 [vi s1] h (wq P d sw_c155 sw_h155 81 [r0, r1, r2, vi x3, r4, r5, t6] [vi s0] kc ks Q))   : wr P d sw_c155 sw_h155 (78, [r0, r1, r2, vi x3, r4, r5, t6], [vi s1, vi s0], h, kc, ks) Q := by
  exact w_cs rfl [vi s1] [vi s0] rfl rfl (s_wt_4 rfl) k

theorem k155_81 {P : s_P} {d : Nat} {Q : s_O → Prop} {h : s_H} {kc ks : Nat} {r0 r1 r2 : Term} {x3 : Int} {r4 r5 t6 : Term} {s0 s1 : Int} {q4 : Nat} {f5 : List Term} (g6 : s_get h q4 = some (1, 4, f5)) (k : wm P d 184 [.index q4, .index q4, r4, vi (32003 - (Int.tmod (s0 * s1) 32003))] h (wq P d sw_c155 sw_h155 103 [r0, r1, r2, vi x3, r4, .index q4, vi (Int.tmod (s0 * s1) 32003)] [] kc ks Q)) (e_q4 : r5 = .index q4 := by first | rfl | assumption) (y2 : s_ty r5 = 3 := by first | rfl | assumption) (y3 : s_ty r4 = 3 := by first | rfl | assumption) (c1 : In3 (s0 * s1) := by first | omega | assumption | (simp only [mk_len, List.length_map]; omega) | decide) : wr P d sw_c155 sw_h155 (81, [r0, r1, r2, vi x3, r4, r5, t6], [vi s1, vi s0], h, kc, ks) Q := by
  refine w_imul rfl ?_
  refine w_c32 rfl (by decide) 32003 (by decide) ?_
  refine w_irem rfl c1 (by decide) (by decide) ?_
  refine w_st (ls' := [r0, r1, r2, vi x3, r4, r5, vi (Int.tmod (s0 * s1) 32003)]) rfl (Or.inl ⟨by decide, rfl⟩) (s_stK_r (pre := [r0, r1, r2, vi x3, r4]) y2) ?_
  refine w_ld rfl rfl (Or.inr (Or.inr ⟨by decide, y2⟩)) ?_
  refine w_ld rfl rfl (Or.inr (Or.inr ⟨by decide, y2⟩)) ?_
  refine w_ld rfl rfl (Or.inr (Or.inr ⟨by decide, y3⟩)) ?_
  refine w_c32 rfl (by decide) 32003 (by decide) ?_
  refine w_ld rfl rfl (Or.inl ⟨by decide, rfl⟩) ?_
  refine w_isub rfl ?_
  subst e_q4
  exact w_cv rfl [.index q4, .index q4, r4, vi (32003 - (Int.tmod (s0 * s1) 32003))] [] rfl rfl (s_wt_4 rfl) rfl g6 k

theorem k155_103 {P : s_P} {d : Nat} {Q : s_O → Prop} {h : s_H} {kc ks : Nat} {r0 r1 r2 : Term} {x3 : Int} {r4 r5 : Term} {x6 : Int} {q2 : Nat} {f3 : List Term} {v5 : Term} {q7 : Nat} {f8 : List Term} (g4 : s_get h q2 = some (1, 3, f3)) (g9 : s_get h q7 = some (1, 0, f8)) (k : wm P d 113 [.index q7, vi x3] h (wq P d sw_c155 sw_h155 111 [.index q2, r1, r2, vi x3, r4, r5, vi x6] [] kc ks Q)) (e_q2 : r0 = .index q2 := by first | rfl | assumption) (e_q7 : v5 = .index q7 := by first | rfl | assumption) (y1 : s_ty r0 = 3 := by first | rfl | assumption) (n6 : s_nth f3 0 = some v5 := by first | rfl | assumption)  : wr P d sw_c155 sw_h155 (103, [r0, r1, r2, vi x3, r4, r5, vi x6], [], h, kc, ks) Q := by
  refine w_ld rfl rfl (Or.inr (Or.inr ⟨by decide, y1⟩)) ?_
  subst e_q2
  refine w_getf rfl g4 n6 ?_
  refine w_ld rfl rfl (Or.inl ⟨by decide, rfl⟩) ?_
  subst e_q7
  exact w_cv rfl [.index q7, vi x3] [] rfl rfl (s_wt_4 rfl) rfl g9 k

theorem k155_111 {P : s_P} {d : Nat} {Q : s_O → Prop} {h : s_H} {kc ks : Nat} {r0 r1 r2 : Term} {x3 : Int} {r4 r5 : Term} {x6 : Int} {q2 : Nat} {f3 : List Term} {z5 : Int} (g4 : s_get h q2 = some (1, 4, f3)) (k1 : 0 ≤ z5 → wr P d sw_c155 sw_h155 (124, [r0, r1, r2, vi x3, r4, .index q2, vi x6], [], h, kc, ks) Q) (k2 : ¬ 0 ≤ z5 → wr P d sw_c155 sw_h155 (119, [r0, r1, r2, vi x3, r4, .index q2, vi x6], [], h, kc, ks) Q) (e_q2 : r5 = .index q2 := by first | rfl | assumption) (y1 : s_ty r5 = 3 := by first | rfl | assumption) (n6 : s_nth f3 1 = some (vi z5) := by first | rfl | assumption) (c7 : In3 z5 := by first | omega | assumption | (simp only [mk_len, List.length_map]; omega) | decide) : wr P d sw_c155 sw_h155 (111, [r0, r1, r2, vi x3, r4, r5, vi x6], [], h, kc, ks) Q := by
  refine w_ld rfl rfl (Or.inr (Or.inr ⟨by decide, y1⟩)) ?_
  subst e_q2
  refine w_getf rfl g4 n6 ?_
  exact w_if1 rfl c7 k1 k2

theorem k155_119 {P : s_P} {d : Nat} {Q : s_O → Prop} {h : s_H} {kc ks : Nat} {r0 r1 r2 : Term} {x3 : Int} {r4 r5 : Term} {x6 : Int}  (k : wr P d sw_c155 sw_h155 (125, [r0, r1, r2, vi x3, r4, r5, vi x6], [vi x6], h, kc, ks) Q)   : wr P d sw_c155 sw_h155 (119, [r0, r1, r2, vi x3, r4, r5, vi x6], [], h, kc, ks) Q := by
  refine w_ld rfl rfl (Or.inl ⟨by decide, rfl⟩) ?_
  refine w_goto rfl ?_
  exact k

theorem k155_124 {P : s_P} {d : Nat} {Q : s_O → Prop} {h : s_H} {kc ks : Nat} {r0 r1 r2 : Term} {x3 : Int} {r4 r5 : Term} {x6 : Int}  (k : wr P d sw_c155 sw_h155 (125, [r0, r1, r2, vi x3, r4, r5, vi x6], [vi (-1)], h, kc, ks) Q)   : wr P d sw_c155 sw_h155 (124, [r0, r1, r2, vi x3, r4, r5, vi x6], [], h, kc, ks) Q := by
  refine w_c32 rfl (by decide) (-1) (by decide) ?_
  exact k

theorem k155_125 {P : s_P} {d : Nat} {Q : s_O → Prop} {h : s_H} {kc ks : Nat} {r0 r1 r2 : Term} {x3 : Int} {r4 r5 : Term} {x6 s0 : Int}  (k : Q (.inl (some (vi s0)), h, kc, ks))   : wr P d sw_c155 sw_h155 (125, [r0, r1, r2, vi x3, r4, r5, vi x6], [vi s0], h, kc, ks) Q := by
  exact w_iret rfl k

/-! 156: FormulaWorks$Parts.multiply(LFormulaWorks$Poly;LFormulaWorks$Poly;LFormulaWorks$Poly;)V -/
theorem k156_0 {P : s_P} {d : Nat} {Q : s_O → Prop} {h : s_H} {kc ks : Nat} {r0 r1 r2 r3 t4 t5 : Term} {q2 : Nat} {f3 : List Term} {v5 : Term} {q7 : Nat} {f8 : List Term} (g4 : s_get h q2 = some (1, 3, f3)) (g9 : s_get h q7 = some (1, 0, f8)) (k : wm P d 110 [.index q7] h (wq P d sw_c156 sw_h156 7 [.index q2, r1, r2, r3, t4, t5] [] kc ks Q)) (e_q2 : r0 = .index q2 := by first | rfl | assumption) (e_q7 : v5 = .index q7 := by first | rfl | assumption) (y1 : s_ty r0 = 3 := by first | rfl | assumption) (n6 : s_nth f3 0 = some v5 := by first | rfl | assumption)  : wr P d sw_c156 sw_h156 (0, [r0, r1, r2, r3, t4, t5], [], h, kc, ks) Q := by
  refine w_ld rfl rfl (Or.inr (Or.inr ⟨by decide, y1⟩)) ?_
  subst e_q2
  refine w_getf rfl g4 n6 ?_
  subst e_q7
  exact w_cv rfl [.index q7] [] rfl rfl (s_wt_4 rfl) rfl g9 k

theorem k156_7 {P : s_P} {d : Nat} {Q : s_O → Prop} {h : s_H} {kc ks : Nat} {r0 r1 r2 r3 t4 t5 : Term} {s0 : Int} {q3 : Nat} {f4 : List Term} {v6 : Term} {q8 : Nat} {f9 : List Term} (g5 : s_get h q3 = some (1, 3, f4)) (g10 : s_get h q8 = some (1, 0, f9)) (k : wm P d 109 [.index q8] h (wq P d sw_c156 sw_h156 16 [.index q3, r1, r2, r3, vi s0, t5] [] kc ks Q)) (e_q3 : r0 = .index q3 := by first | rfl | assumption) (e_q8 : v6 = .index q8 := by first | rfl | assumption) (y1 : s_ty r3 = 3 := by first | rfl | assumption) (y2 : s_ty r0 = 3 := by first | rfl | assumption) (n7 : s_nth f4 0 = some v6 := by first | rfl | assumption)  : wr P d sw_c156 sw_h156 (7, [r0, r1, r2, r3, t4, t5], [vi s0], h, kc, ks) Q := by
  refine w_st (ls' := [r0, r1, r2, r3, vi s0, t5]) rfl (Or.inl ⟨by decide, rfl⟩) (s_stK_r (pre := [r0, r1, r2]) y1) ?_
  refine w_ld rfl rfl (Or.inr (Or.inr ⟨by decide, y2⟩)) ?_
  subst e_q3
  refine w_getf rfl g5 n7 ?_
  subst e_q8
  exact w_cv rfl [.index q8] [] rfl rfl (s_wt_4 rfl) rfl g10 k

theorem k156_16 {P : s_P} {d : Nat} {Q : s_O → Prop} {h : s_H} {kc ks : Nat} {r0 r1 r2 r3 : Term} {x4 : Int} {t5 s0 : Term} {q4 : Nat} {f5 : List Term} (g6 : s_get h q4 = some (1, 4, f5)) (k : wm P d 182 [.index q4, r1, r2] h (wq P d sw_c156 sw_h156 25 [r0, r1, r2, r3, vi x4, .index q4] [] kc ks Q)) (e_q4 : s0 = .index q4 := by first | rfl | assumption) (y1 : s_ty s0 = 3 := by first | rfl | assumption) (y2 : s_ty r1 = 3 := by first | rfl | assumption) (y3 : s_ty r2 = 3 := by first | rfl | assumption)  : wr P d sw_c156 sw_h156 (16, [r0, r1, r2, r3, vi x4, t5], [s0], h, kc, ks) Q := by
  refine w_st (ls' := [r0, r1, r2, r3, vi x4, s0]) rfl (Or.inr ⟨by decide, y1⟩) rfl ?_
  refine w_ld rfl rfl (Or.inr (Or.inr ⟨by decide, y1⟩)) ?_
  refine w_ld rfl rfl (Or.inr (Or.inr ⟨by decide, y2⟩)) ?_
  refine w_ld rfl rfl (Or.inr (Or.inr ⟨by decide, y3⟩)) ?_
  subst e_q4
  exact w_cv rfl [.index q4, r1, r2] [] rfl rfl (s_wt_4 rfl) rfl g6 k

theorem k156_25 {P : s_P} {d : Nat} {Q : s_O → Prop} {h : s_H} {kc ks : Nat} {r0 r1 r2 r3 : Term} {x4 : Int} {r5 : Term} {q3 : Nat} {f4 : List Term} (g5 : s_get h q3 = some (1, 4, f4)) (k : wm P d 176 [.index q3, r3, vi 1, .null] h (wq P d sw_c156 sw_h156 33 [r0, r1, r2, r3, vi x4, .index q3] [] kc ks Q)) (e_q3 : r5 = .index q3 := by first | rfl | assumption) (y1 : s_ty r5 = 3 := by first | rfl | assumption) (y2 : s_ty r3 = 3 := by first | rfl | assumption)  : wr P d sw_c156 sw_h156 (25, [r0, r1, r2, r3, vi x4, r5], [], h, kc, ks) Q := by
  refine w_ld rfl rfl (Or.inr (Or.inr ⟨by decide, y1⟩)) ?_
  refine w_ld rfl rfl (Or.inr (Or.inr ⟨by decide, y2⟩)) ?_
  refine w_c32 rfl (by decide) 1 (by decide) ?_
  refine w_null rfl ?_
  subst e_q3
  exact w_cv rfl [.index q3, r3, vi 1, .null] [] rfl rfl (s_wt_4 rfl) rfl g5 k

theorem k156_33 {P : s_P} {d : Nat} {Q : s_O → Prop} {h : s_H} {kc ks : Nat} {r0 r1 r2 r3 : Term} {x4 : Int} {r5 : Term} {q3 : Nat} {f4 : List Term} (g5 : s_get h q3 = some (1, 4, f4)) (k : wm P d 179 [.index q3, r5] h (wq P d sw_c156 sw_h156 39 [r0, .index q3, r2, r3, vi x4, r5] [] kc ks Q)) (e_q3 : r1 = .index q3 := by first | rfl | assumption) (y1 : s_ty r1 = 3 := by first | rfl | assumption) (y2 : s_ty r5 = 3 := by first | rfl | assumption)  : wr P d sw_c156 sw_h156 (33, [r0, r1, r2, r3, vi x4, r5], [], h, kc, ks) Q := by
  refine w_ld rfl rfl (Or.inr (Or.inr ⟨by decide, y1⟩)) ?_
  refine w_ld rfl rfl (Or.inr (Or.inr ⟨by decide, y2⟩)) ?_
  subst e_q3
  exact w_cv rfl [.index q3, r5] [] rfl rfl (s_wt_4 rfl) rfl g5 k

theorem k156_39 {P : s_P} {d : Nat} {Q : s_O → Prop} {h : s_H} {kc ks : Nat} {r0 r1 r2 r3 : Term} {x4 : Int} {r5 : Term} {q2 : Nat} {f3 : List Term} {v5 : Term} {q7 : Nat} {f8 : List Term} (g4 : s_get h q2 = some (1, 3, f3)) (g9 : s_get h q7 = some (1, 0, f8)) (k : wm P d 113 [.index q7, vi x4] h (wq P d sw_c156 sw_h156 48 [.index q2, r1, r2, r3, vi x4, r5] [] kc ks Q)) (e_q2 : r0 = .index q2 := by first | rfl | assumption) (e_q7 : v5 = .index q7 := by first | rfl | assumption) (y1 : s_ty r0 = 3 := by first | rfl | assumption) (n6 : s_nth f3 0 = some v5 := by first | rfl | assumption)  : wr P d sw_c156 sw_h156 (39, [r0, r1, r2, r3, vi x4, r5], [], h, kc, ks) Q := by
  refine w_ld rfl rfl (Or.inr (Or.inr ⟨by decide, y1⟩)) ?_
  subst e_q2
  refine w_getf rfl g4 n6 ?_
  refine w_ld rfl rfl (Or.inl ⟨by decide, rfl⟩) ?_
  subst e_q7
  exact w_cv rfl [.index q7, vi x4] [] rfl rfl (s_wt_4 rfl) rfl g9 k

theorem k156_48 {P : s_P} {d : Nat} {Q : s_O → Prop} {h : s_H} {kc ks : Nat} {r0 r1 r2 r3 : Term} {x4 : Int} {r5 : Term}  (k : Q (.inl none, h, kc, ks))   : wr P d sw_c156 sw_h156 (48, [r0, r1, r2, r3, vi x4, r5], [], h, kc, ks) Q := by
  exact w_ret rfl k

/-! 157: FormulaWorks$Parts.prepare(LFormulaWorks$Poly;)V -/
theorem k157_0 {P : s_P} {d : Nat} {Q : s_O → Prop} {h : s_H} {kc ks : Nat} {r0 r1 t2 t3 t4 : Term} {q2 : Nat} {f3 : List Term} {v5 : Term} {q7 : Nat} {f8 : List Term} (g4 : s_get h q2 = some (1, 3, f3)) (g9 : s_get h q7 = some (1, 0, f8)) (k : wm P d 110 [.index q7] h (wq P d sw_c157 sw_h157 7 [.index q2, r1, t2, t3, t4] [] kc ks Q)) (e_q2 : r0 = .index q2 := by first | rfl | assumption) (e_q7 : v5 = .index q7 := by first | rfl | assumption) (y1 : s_ty r0 = 3 := by first | rfl | assumption) (n6 : s_nth f3 0 = some v5 := by first | rfl | assumption)  : wr P d sw_c157 sw_h157 (0, [r0, r1, t2, t3, t4], [], h, kc, ks) Q := by
  refine w_ld rfl rfl (Or.inr (Or.inr ⟨by decide, y1⟩)) ?_
  subst e_q2
  refine w_getf rfl g4 n6 ?_
  subst e_q7
  exact w_cv rfl [.index q7] [] rfl rfl (s_wt_4 rfl) rfl g9 k

theorem k157_7 {P : s_P} {d : Nat} {Q : s_O → Prop} {h : s_H} {kc ks : Nat} {r0 r1 t2 t3 t4 : Term} {s0 : Int} {q3 : Nat} {f4 : List Term} {v6 : Term} {q8 : Nat} {f9 : List Term} (g5 : s_get h q3 = some (1, 3, f4)) (g10 : s_get h q8 = some (1, 0, f9)) (k : wm P d 109 [.index q8] h (wq P d sw_c157 sw_h157 15 [.index q3, r1, vi s0, t3, t4] [] kc ks Q)) (e_q3 : r0 = .index q3 := by first | rfl | assumption) (e_q8 : v6 = .index q8 := by first | rfl | assumption) (y1 : s_ty r1 = 3 := by first | rfl | assumption) (y2 : s_ty r0 = 3 := by first | rfl | assumption) (n7 : s_nth f4 0 = some v6 := by first | rfl | assumption)  : wr P d sw_c157 sw_h157 (7, [r0, r1, t2, t3, t4], [vi s0], h, kc, ks) Q := by
  refine w_st (ls' := [r0, r1, vi s0, t3, t4]) rfl (Or.inl ⟨by decide, rfl⟩) (s_stK_r (pre := [r0]) y1) ?_
  refine w_ld rfl rfl (Or.inr (Or.inr ⟨by decide, y2⟩)) ?_
  subst e_q3
  refine w_getf rfl g5 n7 ?_
  subst e_q8
  exact w_cv rfl [.index q8] [] rfl rfl (s_wt_4 rfl) rfl g10 k

theorem k157_15 {P : s_P} {d : Nat} {Q : s_O → Prop} {h : s_H} {kc ks : Nat} {r0 r1 : Term} {x2 : Int} {t3 t4 s0 : Term} {q2 : Nat} {f3 : List Term} (g4 : s_get h q2 = some (1, 4, f3)) (k : wm P d 181 [.index q2, vi 1] h (wq P d sw_c157 sw_h157 21 [r0, r1, vi x2, .index q2, t4] [] kc ks Q)) (e_q2 : s0 = .index q2 := by first | rfl | assumption) (y1 : s_ty s0 = 3 := by first | rfl | assumption)  : wr P d sw_c157 sw_h157 (15, [r0, r1, vi x2, t3, t4], [s0], h, kc, ks) Q := by
  refine w_st (ls' := [r0, r1, vi x2, s0, t4]) rfl (Or.inr ⟨by decide, y1⟩) rfl ?_
  refine w_ld rfl rfl (Or.inr (Or.inr ⟨by decide, y1⟩)) ?_
  refine w_c32 rfl (by decide) 1 (by decide) ?_
  subst e_q2
  exact w_cv rfl [.index q2, vi 1] [] rfl rfl (s_wt_4 rfl) rfl g4 k

theorem k157_21 {P : s_P} {d : Nat} {Q : s_O → Prop} {h : s_H} {kc ks : Nat} {r0 r1 : Term} {x2 : Int} {r3 t4 : Term} {q2 : Nat} {f3 : List Term} {v5 : Term} {q7 : Nat} {a8 : List Term} {tg10 : Nat} {v11 : Term} {q15 : Nat} {f16 : List Term} (g4 : s_get h q2 = some (1, 3, f3)) (g9 : s_get h q7 = some (0, tg10, a8)) (g17 : s_get h q15 = some (1, 4, f16)) (k : wm P d 179 [.index q15, r3] h (wq P d sw_c157 sw_h157 31 [.index q2, r1, vi x2, r3, t4] [] kc ks Q)) (e_q2 : r0 = .index q2 := by first | rfl | assumption) (e_q7 : v5 = .index q7 := by first | rfl | assumption) (e_q15 : v11 = .index q15 := by first | rfl | assumption) (y1 : s_ty r0 = 3 := by first | rfl | assumption) (n6 : s_nth f3 5 = some v5 := by first | rfl | assumption) (n12 : s_nth a8 (Int.toNat (0)) = some v11 := by first | rfl | assumption) (u13 : tg10 = 2 ∨ tg10 = 3 ∨ tg10 = 4 := by first | decide | assumption) (y14 : s_ty r3 = 3 := by first | rfl | assumption)  : wr P d sw_c157 sw_h157 (21, [r0, r1, vi x2, r3, t4], [], h, kc, ks) Q := by
  refine w_ld rfl rfl (Or.inr (Or.inr ⟨by decide, y1⟩)) ?_
  subst e_q2
  refine w_getf rfl g4 n6 ?_
  refine w_c32 rfl (by decide) 0 (by decide) ?_
  subst e_q7
  refine w_aald rfl g9 u13 (by decide) (by decide) n12 ?_
  refine w_ld rfl rfl (Or.inr (Or.inr ⟨by decide, y14⟩)) ?_
  subst e_q15
  exact w_cv rfl [.index q15, r3] [] rfl rfl (s_wt_4 rfl) rfl g17 k

theorem k157_31 {P : s_P} {d : Nat} {Q : s_O → Prop} {h : s_H} {kc ks : Nat} {r0 r1 : Term} {x2 : Int} {r3 t4 : Term} {q4 : Nat} {f5 : List Term} {v7 : Term} {q9 : Nat} {a10 : List Term} {tg12 : Nat} {v13 : Term} (g6 : s_get h q4 = some (1, 3, f5)) (g11 : s_get h q9 = some (0, tg12, a10)) (k : wm P d 161 [.index q4, r3, vi 32003, r1, v13] h (wq P d sw_c157 sw_h157 46 [.index q4, r1, vi x2, r3, t4] [] kc ks Q)) (e_q4 : r0 = .index q4 := by first | rfl | assumption) (e_q9 : v7 = .index q9 := by first | rfl | assumption) (y1 : s_ty r0 = 3 := by first | rfl | assumption) (y2 : s_ty r3 = 3 := by first | rfl | assumption) (y3 : s_ty r1 = 3 := by first | rfl | assumption) (n8 : s_nth f5 5 = some v7 := by first | rfl | assumption) (n14 : s_nth a10 (Int.toNat (1)) = some v13 := by first | rfl | assumption) (u15 : tg12 = 2 ∨ tg12 = 3 ∨ tg12 = 4 := by first | decide | assumption)  : wr P d sw_c157 sw_h157 (31, [r0, r1, vi x2, r3, t4], [], h, kc, ks) Q := by
  refine w_ld rfl rfl (Or.inr (Or.inr ⟨by decide, y1⟩)) ?_
  refine w_ld rfl rfl (Or.inr (Or.inr ⟨by decide, y2⟩)) ?_
  refine w_c32 rfl (by decide) 32003 (by decide) ?_
  refine w_ld rfl rfl (Or.inr (Or.inr ⟨by decide, y3⟩)) ?_
  refine w_ld rfl rfl (Or.inr (Or.inr ⟨by decide, y1⟩)) ?_
  subst e_q4
  refine w_getf rfl g6 n8 ?_
  refine w_c32 rfl (by decide) 1 (by decide) ?_
  subst e_q9
  refine w_aald rfl g11 u15 (by decide) (by decide) n14 ?_
  exact w_cv rfl [.index q4, r3, vi 32003, r1, v13] [] rfl rfl (s_wt_4 rfl) rfl g6 k

theorem k157_46 {P : s_P} {d : Nat} {Q : s_O → Prop} {h : s_H} {kc ks : Nat} {r0 r1 : Term} {x2 : Int} {r3 t4 : Term} {q2 : Nat} {f3 : List Term} {v5 : Term} {q7 : Nat} {a8 : List Term} {tg10 : Nat} {v11 : Term} {q14 : Nat} {f15 : List Term} (g4 : s_get h q2 = some (1, 3, f3)) (g9 : s_get h q7 = some (0, tg10, a8)) (g16 : s_get h q14 = some (1, 4, f15)) (k : wm P d 180 [.index q14, vi 1] h (wq P d sw_c157 sw_h157 56 [.index q2, r1, vi x2, r3, t4] [] kc ks Q)) (e_q2 : r0 = .index q2 := by first | rfl | assumption) (e_q7 : v5 = .index q7 := by first | rfl | assumption) (e_q14 : v11 = .index q14 := by first | rfl | assumption) (y1 : s_ty r0 = 3 := by first | rfl | assumption) (n6 : s_nth f3 6 = some v5 := by first | rfl | assumption) (n12 : s_nth a8 (Int.toNat (0)) = some v11 := by first | rfl | assumption) (u13 : tg10 = 2 ∨ tg10 = 3 ∨ tg10 = 4 := by first | decide | assumption)  : wr P d sw_c157 sw_h157 (46, [r0, r1, vi x2, r3, t4], [], h, kc, ks) Q := by
  refine w_ld rfl rfl (Or.inr (Or.inr ⟨by decide, y1⟩)) ?_
  subst e_q2
  refine w_getf rfl g4 n6 ?_
  refine w_c32 rfl (by decide) 0 (by decide) ?_
  subst e_q7
  refine w_aald rfl g9 u13 (by decide) (by decide) n12 ?_
  refine w_c32 rfl (by decide) 1 (by decide) ?_
  subst e_q14
  exact w_cv rfl [.index q14, vi 1] [] rfl rfl (s_wt_4 rfl) rfl g16 k

theorem k157_56 {P : s_P} {d : Nat} {Q : s_O → Prop} {h : s_H} {kc ks : Nat} {r0 r1 : Term} {x2 : Int} {r3 t4 : Term}  (k : wr P d sw_c157 sw_h157 (59, [r0, r1, vi x2, r3, vi 1], [], h, kc, ks) Q) (y1 : s_ty r3 = 3 := by first | rfl | assumption)  : wr P d sw_c157 sw_h157 (56, [r0, r1, vi x2, r3, t4], [], h, kc, ks) Q := by
  refine w_c32 rfl (by decide) 1 (by decide) ?_
  refine w_st (ls' := [r0, r1, vi x2, r3, vi 1]) rfl (Or.inl ⟨by decide, rfl⟩) (s_stK_r (pre := [r0, r1, vi x2]) y1) ?_
  exact k

theorem k157_59 {P : s_P} {d : Nat} {Q : s_O → Prop} {h : s_H} {kc ks : Nat} {r0 r1 : Term} {x2 : Int} {r3 : Term} {x4 : Int} {q2 : Nat} {f3 : List Term} {z5 : Int} (g4 : s_get h q2 = some (1, 4, f3)) (k1 : z5 ≤ x4 → wr P d sw_c157 sw_h157 (110, [r0, .index q2, vi x2, r3, vi x4], [], h, kc, ks) Q) (k2 : ¬ z5 ≤ x4 → wr P d sw_c157 sw_h157 (68, [r0, .index q2, vi x2, r3, vi x4], [], h, kc, ks) Q) (e_q2 : r1 = .index q2 := by first | rfl | assumption) (y1 : s_ty r1 = 3 := by first | rfl | assumption) (n6 : s_nth f3 1 = some (vi z5) := by first | rfl | assumption) (c7 : In3 x4 := by first | omega | assumption | (simp only [mk_len, List.length_map]; omega) | decide) (c8 : In3 z5 := by first | omega | assumption | (simp only [mk_len, List.length_map]; omega) | decide) : wr P d sw_c157 sw_h157 (59, [r0, r1, vi x2, r3, vi x4], [], h, kc, ks) Q := by
  refine w_ld rfl rfl (Or.inl ⟨by decide, rfl⟩) ?_
  refine w_ld rfl rfl (Or.inr (Or.inr ⟨by decide, y1⟩)) ?_
  subst e_q2
  refine w_getf rfl g4 n6 ?_
  exact w_if2 rfl c7 c8 k1 k2

theorem k157_68 {P : s_P} {d : Nat} {Q : s_O → Prop} {h : s_H} {kc ks : Nat} {r0 r1 : Term} {x2 : Int} {r3 : Term} {x4 : Int} {q3 : Nat} {f4 : List Term} {v6 : Term} {q8 : Nat} {a9 : List Term} {tg11 : Nat} {v12 : Term} {q17 : Nat} {f18 : List Term} (g5 : s_get h q3 = some (1, 3, f4)) (g10 : s_get h q8 = some (0, tg11, a9)) (g19 : s_get h q17 = some (1, 4, f18)) (k : wm P d 179 [.index q17, v12] h (wq P d sw_c157 sw_h157 81 [.index q3, r1, vi x2, .index q17, vi x4] [] kc ks Q)) (e_q3 : r0 = .index q3 := by first | rfl | assumption) (e_q8 : v6 = .index q8 := by first | rfl | assumption) (e_q17 : r3 = .index q17 := by first | rfl | assumption) (y1 : s_ty r3 = 3 := by first | rfl | assumption) (y2 : s_ty r0 = 3 := by first | rfl | assumption) (n7 : s_nth f4 6 = some v6 := by first | rfl | assumption) (n13 : s_nth a9 (Int.toNat (x4 - 1)) = some v12 := by first | rfl | assumption) (u14 : tg11 = 2 ∨ tg11 = 3 ∨ tg11 = 4 := by first | decide | assumption) (c15 : In3 (x4 - 1) := by first | omega | assumption | (simp only [mk_len, List.length_map]; omega) | decide) (c16 : 0 ≤ x4 - 1 := by first | omega | assumption | (simp only [mk_len, List.length_map]; omega) | decide) : wr P d sw_c157 sw_h157 (68, [r0, r1, vi x2, r3, vi x4], [], h, kc, ks) Q := by
  refine w_ld rfl rfl (Or.inr (Or.inr ⟨by decide, y1⟩)) ?_
  refine w_ld rfl rfl (Or.inr (Or.inr ⟨by decide, y2⟩)) ?_
  subst e_q3
  refine w_getf rfl g5 n7 ?_
  refine w_ld rfl rfl (Or.inl ⟨by decide, rfl⟩) ?_
  refine w_c32 rfl (by decide) 1 (by decide) ?_
  refine w_isub rfl ?_
  subst e_q8
  refine w_aald rfl g10 u14 c15 c16 n13 ?_
  subst e_q17
  exact w_cv rfl [.index q17, v12] [] rfl rfl (s_wt_4 rfl) rfl g19 k

theorem k157_81 {P : s_P} {d : Nat} {Q : s_O → Prop} {h : s_H} {kc ks : Nat} {r0 r1 : Term} {x2 : Int} {r3 : Term} {x4 : Int} {q3 : Nat} {f4 : List Term} {v6 : Term} {q8 : Nat} {a9 : List Term} {tg11 : Nat} {v12 : Term} (g5 : s_get h q3 = some (1, 3, f4)) (g10 : s_get h q8 = some (0, tg11, a9)) (k : wm P d 156 [.index q3, r3, v12, r1] h (wq P d sw_c157 sw_h157 93 [.index q3, r1, vi x2, r3, vi x4] [] kc ks Q)) (e_q3 : r0 = .index q3 := by first | rfl | assumption) (e_q8 : v6 = .index q8 := by first | rfl | assumption) (y1 : s_ty r0 = 3 := by first | rfl | assumption) (y2 : s_ty r3 = 3 := by first | rfl | assumption) (n7 : s_nth f4 5 = some v6 := by first | rfl | assumption) (n13 : s_nth a9 (Int.toNat (1)) = some v12 := by first | rfl | assumption) (u14 : tg11 = 2 ∨ tg11 = 3 ∨ tg11 = 4 := by first | decide | assumption) (y15 : s_ty r1 = 3 := by first | rfl | assumption)  : wr P d sw_c157 sw_h157 (81, [r0, r1, vi x2, r3, vi x4], [], h, kc, ks) Q := by
  refine w_ld rfl rfl (Or.inr (Or.inr ⟨by decide, y1⟩)) ?_
  refine w_ld rfl rfl (Or.inr (Or.inr ⟨by decide, y2⟩)) ?_
  refine w_ld rfl rfl (Or.inr (Or.inr ⟨by decide, y1⟩)) ?_
  subst e_q3
  refine w_getf rfl g5 n7 ?_
  refine w_c32 rfl (by decide) 1 (by decide) ?_
  subst e_q8
  refine w_aald rfl g10 u14 (by decide) (by decide) n13 ?_
  refine w_ld rfl rfl (Or.inr (Or.inr ⟨by decide, y15⟩)) ?_
  exact w_cv rfl [.index q3, r3, v12, r1] [] rfl rfl (s_wt_4 rfl) rfl g5 k

theorem k157_93 {P : s_P} {d : Nat} {Q : s_O → Prop} {h : s_H} {kc ks : Nat} {r0 r1 : Term} {x2 : Int} {r3 : Term} {x4 : Int} {q2 : Nat} {f3 : List Term} {v5 : Term} {q7 : Nat} {a8 : List Term} {tg10 : Nat} {v11 : Term} {q17 : Nat} {f18 : List Term} (g4 : s_get h q2 = some (1, 3, f3)) (g9 : s_get h q7 = some (0, tg10, a8)) (g19 : s_get h q17 = some (1, 4, f18)) (k : wm P d 179 [.index q17, r3] h (wq P d sw_c157 sw_h157 104 [.index q2, r1, vi x2, r3, vi x4] [] kc ks Q)) (e_q2 : r0 = .index q2 := by first | rfl | assumption) (e_q7 : v5 = .index q7 := by first | rfl | assumption) (e_q17 : v11 = .index q17 := by first | rfl | assumption) (y1 : s_ty r0 = 3 := by first | rfl | assumption) (n6 : s_nth f3 6 = some v5 := by first | rfl | assumption) (n12 : s_nth a8 (Int.toNat (x4)) = some v11 := by first | rfl | assumption) (u13 : tg10 = 2 ∨ tg10 = 3 ∨ tg10 = 4 := by first | decide | assumption) (y16 : s_ty r3 = 3 := by first | rfl | assumption) (c14 : In3 x4 := by first | omega | assumption | (simp only [mk_len, List.length_map]; omega) | decide) (c15 : 0 ≤ x4 := by first | omega | assumption | (simp only [mk_len, List.length_map]; omega) | decide) : wr P d sw_c157 sw_h157 (93, [r0, r1, vi x2, r3, vi x4], [], h, kc, ks) Q := by
  refine w_ld rfl rfl (Or.inr (Or.inr ⟨by decide, y1⟩)) ?_
  subst e_q2
  refine w_getf rfl g4 n6 ?_
  refine w_ld rfl rfl (Or.inl ⟨by decide, rfl⟩) ?_
  subst e_q7
  refine w_aald rfl g9 u13 c14 c15 n12 ?_
  refine w_ld rfl rfl (Or.inr (Or.inr ⟨by decide, y16⟩)) ?_
  subst e_q17
  exact w_cv rfl [.index q17, r3] [] rfl rfl (s_wt_4 rfl) rfl g19 k

theorem k157_104 {P : s_P} {d : Nat} {Q : s_O → Prop} {h : s_H} {kc ks : Nat} {r0 r1 : Term} {x2 : Int} {r3 : Term} {x4 : Int}  (k : wr P d sw_c157 sw_h157 (59, [r0, r1, vi x2, r3, vi (x4 + 1)], [], h, kc, ks) Q) (y1 : s_ty r3 = 3 := by first | rfl | assumption)  : wr P d sw_c157 sw_h157 (104, [r0, r1, vi x2, r3, vi x4], [], h, kc, ks) Q := by
  refine w_iinc (ls' := [r0, r1, vi x2, r3, vi (x4 + 1)]) rfl rfl 1 (by decide) (s_stK_r (pre := [r0, r1, vi x2]) y1) ?_
  refine w_goto rfl ?_
  exact k

theorem k157_110 {P : s_P} {d : Nat} {Q : s_O → Prop} {h : s_H} {kc ks : Nat} {r0 r1 : Term} {x2 : Int} {r3 : Term} {x4 : Int} {q2 : Nat} {f3 : List Term} {v5 : Term} {q7 : Nat} {f8 : List Term} (g4 : s_get h q2 = some (1, 3, f3)) (g9 : s_get h q7 = some (1, 0, f8)) (k : wm P d 113 [.index q7, vi x2] h (wq P d sw_c157 sw_h157 118 [.index q2, r1, vi x2, r3, vi x4] [] kc ks Q)) (e_q2 : r0 = .index q2 := by first | rfl | assumption) (e_q7 : v5 = .index q7 := by first | rfl | assumption) (y1 : s_ty r0 = 3 := by first | rfl | assumption) (n6 : s_nth f3 0 = some v5 := by first | rfl | assumption)  : wr P d sw_c157 sw_h157 (110, [r0, r1, vi x2, r3, vi x4], [], h, kc, ks) Q := by
  refine w_ld rfl rfl (Or.inr (Or.inr ⟨by decide, y1⟩)) ?_
  subst e_q2
  refine w_getf rfl g4 n6 ?_
  refine w_ld rfl rfl (Or.inl ⟨by decide, rfl⟩) ?_
  subst e_q7
  exact w_cv rfl [.index q7, vi x2] [] rfl rfl (s_wt_4 rfl) rfl g9 k

theorem k157_118 {P : s_P} {d : Nat} {Q : s_O → Prop} {h : s_H} {kc ks : Nat} {r0 r1 : Term} {x2 : Int} {r3 : Term} {x4 : Int}  (k : Q (.inl none, h, kc, ks))   : wr P d sw_c157 sw_h157 (118, [r0, r1, vi x2, r3, vi x4], [], h, kc, ks) Q := by
  exact w_ret rfl k

/-! 158: FormulaWorks$Parts.separate(LFormulaWorks$Thing;LFormulaWorks$Thing;LFormulaWorks$Thing;)LFormulaWorks$Thing; -/
theorem k158_0 {P : s_P} {d : Nat} {Q : s_O → Prop} {h : s_H} {kc ks : Nat} {r0 r1 r2 r3 t4 t5 t6 t7 t8 : Term} {q2 : Nat} {f3 : List Term} {v5 : Term} {q7 : Nat} {f8 : List Term} (g4 : s_get h q2 = some (1, 3, f3)) (g9 : s_get h q7 = some (1, 0, f8)) (k : wm P d 110 [.index q7] h (wq P d sw_c158 sw_h158 7 [.index q2, r1, r2, r3, t4, t5, t6, t7, t8] [] kc ks Q)) (e_q2 : r0 = .index q2 := by first | rfl | assumption) (e_q7 : v5 = .index q7 := by first | rfl | assumption) (y1 : s_ty r0 = 3 := by first | rfl | assumption) (n6 : s_nth f3 0 = some v5 := by first | rfl | assumption)  : wr P d sw_c158 sw_h158 (0, [r0, r1, r2, r3, t4, t5, t6, t7, t8], [], h, kc, ks) Q := by
  refine w_ld rfl rfl (Or.inr (Or.inr ⟨by decide, y1⟩)) ?_
  subst e_q2
  refine w_getf rfl g4 n6 ?_
  subst e_q7
  exact w_cv rfl [.index q7] [] rfl rfl (s_wt_4 rfl) rfl g9 k

theorem k158_7 {P : s_P} {d : Nat} {Q : s_O → Prop} {h : s_H} {kc ks : Nat} {r0 r1 r2 r3 t4 t5 t6 t7 t8 : Term} {s0 : Int} {q3 : Nat} {f4 : List Term} {v6 : Term} {q8 : Nat} {f9 : List Term} (g5 : s_get h q3 = some (1, 3, f4)) (g10 : s_get h q8 = some (1, 0, f9)) (k : wm P d 109 [.index q8] h (wq P d sw_c158 sw_h158 16 [.index q3, r1, r2, r3, vi s0, t5, t6, t7, t8] [] kc ks Q)) (e_q3 : r0 = .index q3 := by first | rfl | assumption) (e_q8 : v6 = .index q8 := by first | rfl | assumption) (y1 : s_ty r3 = 3 := by first | rfl | assumption) (y2 : s_ty r0 = 3 := by first | rfl | assumption) (n7 : s_nth f4 0 = some v6 := by first | rfl | assumption)  : wr P d sw_c158 sw_h158 (7, [r0, r1, r2, r3, t4, t5, t6, t7, t8], [vi s0], h, kc, ks) Q := by
  refine w_st (ls' := [r0, r1, r2, r3, vi s0, t5, t6, t7, t8]) rfl (Or.inl ⟨by decide, rfl⟩) (s_stK_r (pre := [r0, r1, r2]) y1) ?_
  refine w_ld rfl rfl (Or.inr (Or.inr ⟨by decide, y2⟩)) ?_
  subst e_q3
  refine w_getf rfl g5 n7 ?_
  subst e_q8
  exact w_cv rfl [.index q8] [] rfl rfl (s_wt_4 rfl) rfl g10 k

theorem k158_16 {P : s_P} {d : Nat} {Q : s_O → Prop} {h : s_H} {kc ks : Nat} {r0 r1 r2 r3 : Term} {x4 : Int} {t5 t6 t7 t8 s0 : Term} {q3 : Nat} {f4 : List Term} {v6 : Term} {q8 : Nat} {f9 : List Term} (g5 : s_get h q3 = some (1, 3, f4)) (g10 : s_get h q8 = some (1, 0, f9)) (k : wm P d 109 [.index q8] h (wq P d sw_c158 sw_h158 25 [.index q3, r1, r2, r3, vi x4, s0, t6, t7, t8] [] kc ks Q)) (e_q3 : r0 = .index q3 := by first | rfl | assumption) (e_q8 : v6 = .index q8 := by first | rfl | assumption) (y1 : s_ty s0 = 3 := by first | rfl | assumption) (y2 : s_ty r0 = 3 := by first | rfl | assumption) (n7 : s_nth f4 0 = some v6 := by first | rfl | assumption)  : wr P d sw_c158 sw_h158 (16, [r0, r1, r2, r3, vi x4, t5, t6, t7, t8], [s0], h, kc, ks) Q := by
  refine w_st (ls' := [r0, r1, r2, r3, vi x4, s0, t6, t7, t8]) rfl (Or.inr ⟨by decide, y1⟩) rfl ?_
  refine w_ld rfl rfl (Or.inr (Or.inr ⟨by decide, y2⟩)) ?_
  subst e_q3
  refine w_getf rfl g5 n7 ?_
  subst e_q8
  exact w_cv rfl [.index q8] [] rfl rfl (s_wt_4 rfl) rfl g10 k

theorem k158_25 {P : s_P} {d : Nat} {Q : s_O → Prop} {h : s_H} {kc ks : Nat} {r0 r1 r2 r3 : Term} {x4 : Int} {r5 t6 t7 t8 s0 : Term} {q4 : Nat} {f5 : List Term} {v7 : Term} {q9 : Nat} {f10 : List Term} (g6 : s_get h q4 = some (1, 3, f5)) (g11 : s_get h q9 = some (1, 0, f10)) (k : wm P d 109 [.index q9] h (wq P d sw_c158 sw_h158 34 [.index q4, r1, r2, r3, vi x4, r5, s0, t7, t8] [] kc ks Q)) (e_q4 : r0 = .index q4 := by first | rfl | assumption) (e_q9 : v7 = .index q9 := by first | rfl | assumption) (y1 : s_ty r5 = 3 := by first | rfl | assumption) (y2 : s_ty s0 = 3 := by first | rfl | assumption) (y3 : s_ty r0 = 3 := by first | rfl | assumption) (n8 : s_nth f5 0 = some v7 := by first | rfl | assumption)  : wr P d sw_c158 sw_h158 (25, [r0, r1, r2, r3, vi x4, r5, t6, t7, t8], [s0], h, kc, ks) Q := by
  refine w_st (ls' := [r0, r1, r2, r3, vi x4, r5, s0, t7, t8]) rfl (Or.inr ⟨by decide, y2⟩) (s_stK_r (pre := [r0, r1, r2, r3, vi x4]) y1) ?_
  refine w_ld rfl rfl (Or.inr (Or.inr ⟨by decide, y3⟩)) ?_
  subst e_q4
  refine w_getf rfl g6 n8 ?_
  subst e_q9
  exact w_cv rfl [.index q9] [] rfl rfl (s_wt_4 rfl) rfl g11 k

theorem k158_34 {P : s_P} {d : Nat} {Q : s_O → Prop} {h : s_H} {kc ks : Nat} {r0 r1 r2 r3 : Term} {x4 : Int} {r5 r6 t7 t8 s0 : Term} {q4 : Nat} {f5 : List Term} {v7 : Term} {q9 : Nat} {f10 : List Term} (g6 : s_get h q4 = some (1, 3, f5)) (g11 : s_get h q9 = some (1, 0, f10)) (k : wm P d 109 [.index q9] h (wq P d sw_c158 sw_h158 43 [.index q4, r1, r2, r3, vi x4, r5, r6, s0, t8] [] kc ks Q)) (e_q4 : r0 = .index q4 := by first | rfl | assumption) (e_q9 : v7 = .index q9 := by first | rfl | assumption) (y1 : s_ty r6 = 3 := by first | rfl | assumption) (y2 : s_ty s0 = 3 := by first | rfl | assumption) (y3 : s_ty r0 = 3 := by first | rfl | assumption) (n8 : s_nth f5 0 = some v7 := by first | rfl | assumption)  : wr P d sw_c158 sw_h158 (34, [r0, r1, r2, r3, vi x4, r5, r6, t7, t8], [s0], h, kc, ks) Q := by
  refine w_st (ls' := [r0, r1, r2, r3, vi x4, r5, r6, s0, t8]) rfl (Or.inr ⟨by decide, y2⟩) (s_stK_r (pre := [r0, r1, r2, r3, vi x4, r5]) y1) ?_
  refine w_ld rfl rfl (Or.inr (Or.inr ⟨by decide, y3⟩)) ?_
  subst e_q4
  refine w_getf rfl g6 n8 ?_
  subst e_q9
  exact w_cv rfl [.index q9] [] rfl rfl (s_wt_4 rfl) rfl g11 k

theorem k158_43 {P : s_P} {d : Nat} {Q : s_O → Prop} {h : s_H} {kc ks : Nat} {r0 r1 r2 r3 : Term} {x4 : Int} {r5 r6 r7 t8 s0 : Term} {q4 : Nat} {f5 : List Term} {v7 : Term} {q10 : Nat} {f11 : List Term} {v13 v15 : Term} {q18 : Nat} {f19 : List Term} (g6 : s_get h q4 = some (1, 3, f5)) (g12 : s_get h q10 = some (1, 8, f11)) (g20 : s_get h q18 = some (1, 0, f19)) (k : wm P d 117 [.index q18, v13, v15, vi 1, r5] h (wq P d sw_c158 sw_h158 63 [.index q4, .index q10, r2, r3, vi x4, r5, r6, r7, s0] [] kc ks Q)) (e_q4 : r0 = .index q4 := by first | rfl | assumption) (e_q10 : r1 = .index q10 := by first | rfl | assumption) (e_q18 : v7 = .index q18 := by first | rfl | assumption) (y1 : s_ty r7 = 3 := by first | rfl | assumption) (y2 : s_ty s0 = 3 := by first | rfl | assumption) (y3 : s_ty r0 = 3 := by first | rfl | assumption) (n8 : s_nth f5 0 = some v7 := by first | rfl | assumption) (y9 : s_ty r1 = 3 := by first | rfl | assumption) (n14 : s_nth f11 1 = some v13 := by first | rfl | assumption) (n16 : s_nth f11 2 = some v15 := by first | rfl | assumption) (y17 : s_ty r5 = 3 := by first | rfl | assumption)  : wr P d sw_c158 sw_h158 (43, [r0, r1, r2, r3, vi x4, r5, r6, r7, t8], [s0], h, kc, ks) Q := by
  refine w_st (ls' := [r0, r1, r2, r3, vi x4, r5, r6, r7, s0]) rfl (Or.inr ⟨by decide, y2⟩) (s_stK_r (pre := [r0, r1, r2, r3, vi x4, r5, r6]) y1) ?_
  refine w_ld rfl rfl (Or.inr (Or.inr ⟨by decide, y3⟩)) ?_
  subst e_q4
  refine w_getf rfl g6 n8 ?_
  refine w_ld rfl rfl (Or.inr (Or.inr ⟨by decide, y9⟩)) ?_
  subst e_q10
  refine w_getf rfl g12 n14 ?_
  refine w_ld rfl rfl (Or.inr (Or.inr ⟨by decide, rfl⟩)) ?_
  refine w_getf rfl g12 n16 ?_
  refine w_c32 rfl (by decide) 1 (by decide) ?_
  refine w_ld rfl rfl (Or.inr (Or.inr ⟨by decide, y17⟩)) ?_
  subst e_q18
  exact w_cv rfl [.index q18, v13, v15, vi 1, r5] [] rfl rfl (s_wt_4 rfl) rfl g20 k

theorem k158_63 {P : s_P} {d : Nat} {Q : s_O → Prop} {h : s_H} {kc ks : Nat} {r0 r1 r2 r3 : Term} {x4 : Int} {r5 r6 r7 r8 : Term} {q3 : Nat} {f4 : List Term} {v6 : Term} {q8 : Nat} {f9 : List Term} (g5 : s_get h q3 = some (1, 8, f4)) (g10 : s_get h q8 = some (1, 4, f9)) (k : wm P d 179 [.index q8, v6] h (wq P d sw_c158 sw_h158 72 [r0, .index q3, r2, r3, vi x4, r5, .index q8, r7, r8] [] kc ks Q)) (e_q3 : r1 = .index q3 := by first | rfl | assumption) (e_q8 : r6 = .index q8 := by first | rfl | assumption) (y1 : s_ty r6 = 3 := by first | rfl | assumption) (y2 : s_ty r1 = 3 := by first | rfl | assumption) (n7 : s_nth f4 2 = some v6 := by first | rfl | assumption)  : wr P d sw_c158 sw_h158 (63, [r0, r1, r2, r3, vi x4, r5, r6, r7, r8], [], h, kc, ks) Q := by
  refine w_ld rfl rfl (Or.inr (Or.inr ⟨by decide, y1⟩)) ?_
  refine w_ld rfl rfl (Or.inr (Or.inr ⟨by decide, y2⟩)) ?_
  subst e_q3
  refine w_getf rfl g5 n7 ?_
  subst e_q8
  exact w_cv rfl [.index q8, v6] [] rfl rfl (s_wt_4 rfl) rfl g10 k

theorem k158_72 {P : s_P} {d : Nat} {Q : s_O → Prop} {h : s_H} {kc ks : Nat} {r0 r1 r2 r3 : Term} {x4 : Int} {r5 r6 r7 r8 : Term} {q2 : Nat} {f3 : List Term} (g4 : s_get h q2 = some (1, 4, f3)) (k : wm P d 174 [.index q2] h (wq P d sw_c158 sw_h158 77 [r0, r1, r2, r3, vi x4, r5, .index q2, r7, r8] [] kc ks Q)) (e_q2 : r6 = .index q2 := by first | rfl | assumption) (y1 : s_ty r6 = 3 := by first | rfl | assumption)  : wr P d sw_c158 sw_h158 (72, [r0, r1, r2, r3, vi x4, r5, r6, r7, r8], [], h, kc, ks) Q := by
  refine w_ld rfl rfl (Or.inr (Or.inr ⟨by decide, y1⟩)) ?_
  subst e_q2
  exact w_cv rfl [.index q2] [] rfl rfl (s_wt_4 rfl) rfl g4 k

theorem k158_77 {P : s_P} {d : Nat} {Q : s_O → Prop} {h : s_H} {kc ks : Nat} {r0 r1 r2 r3 : Term} {x4 : Int} {r5 r6 r7 r8 : Term} {q2 : Nat} {f3 : List Term} {v5 : Term} {q8 : Nat} {f9 : List Term} {v11 : Term} {q14 : Nat} {f15 : List Term} (g4 : s_get h q2 = some (1, 3, f3)) (g10 : s_get h q8 = some (1, 8, f9)) (g16 : s_get h q14 = some (1, 0, f15)) (k : wm P d 116 [.index q14, v11, r6, r6] h (wq P d sw_c158 sw_h158 92 [.index q2, .index q8, r2, r3, vi x4, r5, r6, r7, r8] [] kc ks Q)) (e_q2 : r0 = .index q2 := by first | rfl | assumption) (e_q8 : r1 = .index q8 := by first | rfl | assumption) (e_q14 : v5 = .index q14 := by first | rfl | assumption) (y1 : s_ty r0 = 3 := by first | rfl | assumption) (n6 : s_nth f3 0 = some v5 := by first | rfl | assumption) (y7 : s_ty r1 = 3 := by first | rfl | assumption) (n12 : s_nth f9 2 = some v11 := by first | rfl | assumption) (y13 : s_ty r6 = 3 := by first | rfl | assumption)  : wr P d sw_c158 sw_h158 (77, [r0, r1, r2, r3, vi x4, r5, r6, r7, r8], [], h, kc, ks) Q := by
  refine w_ld rfl rfl (Or.inr (Or.inr ⟨by decide, y1⟩)) ?_
  subst e_q2
  refine w_getf rfl g4 n6 ?_
  refine w_ld rfl rfl (Or.inr (Or.inr ⟨by decide, y7⟩)) ?_
  subst e_q8
  refine w_getf rfl g10 n12 ?_
  refine w_ld rfl rfl (Or.inr (Or.inr ⟨by decide, y13⟩)) ?_
  refine w_ld rfl rfl (Or.inr (Or.inr ⟨by decide, y13⟩)) ?_
  subst e_q14
  exact w_cv rfl [.index q14, v11, r6, r6] [] rfl rfl (s_wt_4 rfl) rfl g16 k

theorem k158_92 {P : s_P} {d : Nat} {Q : s_O → Prop} {h : s_H} {kc ks : Nat} {r0 r1 r2 r3 : Term} {x4 : Int} {r5 r6 r7 r8 : Term} {q2 : Nat} {f3 : List Term} {v5 : Term} {q8 : Nat} {f9 : List Term} {v11 : Term} {q15 : Nat} {f16 : List Term} (g4 : s_get h q2 = some (1, 3, f3)) (g10 : s_get h q8 = some (1, 8, f9)) (g17 : s_get h q15 = some (1, 0, f16)) (k : wm P d 117 [.index q15, v11, r6, vi 1, r7] h (wq P d sw_c158 sw_h158 108 [.index q2, .index q8, r2, r3, vi x4, r5, r6, r7, r8] [] kc ks Q)) (e_q2 : r0 = .index q2 := by first | rfl | assumption) (e_q8 : r1 = .index q8 := by first | rfl | assumption) (e_q15 : v5 = .index q15 := by first | rfl | assumption) (y1 : s_ty r0 = 3 := by first | rfl | assumption) (n6 : s_nth f3 0 = some v5 := by first | rfl | assumption) (y7 : s_ty r1 = 3 := by first | rfl | assumption) (n12 : s_nth f9 2 = some v11 := by first | rfl | assumption) (y13 : s_ty r6 = 3 := by first | rfl | assumption) (y14 : s_ty r7 = 3 := by first | rfl | assumption)  : wr P d sw_c158 sw_h158 (92, [r0, r1, r2, r3, vi x4, r5, r6, r7, r8], [], h, kc, ks) Q := by
  refine w_ld rfl rfl (Or.inr (Or.inr ⟨by decide, y1⟩)) ?_
  subst e_q2
  refine w_getf rfl g4 n6 ?_
  refine w_ld rfl rfl (Or.inr (Or.inr ⟨by decide, y7⟩)) ?_
  subst e_q8
  refine w_getf rfl g10 n12 ?_
  refine w_ld rfl rfl (Or.inr (Or.inr ⟨by decide, y13⟩)) ?_
  refine w_c32 rfl (by decide) 1 (by decide) ?_
  refine w_ld rfl rfl (Or.inr (Or.inr ⟨by decide, y14⟩)) ?_
  subst e_q15
  exact w_cv rfl [.index q15, v11, r6, vi 1, r7] [] rfl rfl (s_wt_4 rfl) rfl g17 k

theorem k158_108 {P : s_P} {d : Nat} {Q : s_O → Prop} {h : s_H} {kc ks : Nat} {r0 r1 r2 r3 : Term} {x4 : Int} {r5 r6 r7 r8 : Term} {q5 : Nat} {f6 : List Term} (g7 : s_get h q5 = some (1, 3, f6)) (k : wm P d 162 [.index q5, r1, r7, r6] h (wq P d sw_c158 sw_h158 117 [.index q5, r1, r2, r3, vi x4, r5, r6, r7, r8] [] kc ks Q)) (e_q5 : r0 = .index q5 := by first | rfl | assumption) (y1 : s_ty r0 = 3 := by first | rfl | assumption) (y2 : s_ty r1 = 3 := by first | rfl | assumption) (y3 : s_ty r7 = 3 := by first | rfl | assumption) (y4 : s_ty r6 = 3 := by first | rfl | assumption)  : wr P d sw_c158 sw_h158 (108, [r0, r1, r2, r3, vi x4, r5, r6, r7, r8], [], h, kc, ks) Q := by
  refine w_ld rfl rfl (Or.inr (Or.inr ⟨by decide, y1⟩)) ?_
  refine w_ld rfl rfl (Or.inr (Or.inr ⟨by decide, y2⟩)) ?_
  refine w_ld rfl rfl (Or.inr (Or.inr ⟨by decide, y3⟩)) ?_
  refine w_ld rfl rfl (Or.inr (Or.inr ⟨by decide, y4⟩)) ?_
  subst e_q5
  exact w_cv rfl [.index q5, r1, r7, r6] [] rfl rfl (s_wt_4 rfl) rfl g7 k

theorem k158_117 {P : s_P} {d : Nat} {Q : s_O → Prop} {h : s_H} {kc ks : Nat} {r0 r1 r2 r3 : Term} {x4 : Int} {r5 r6 r7 r8 : Term} {q3 : Nat} {f4 : List Term} {v6 : Term} {q8 : Nat} {f9 : List Term} {v11 : Term} {q14 : Nat} {f15 : List Term} {z17 : Int} {q20 : Nat} {f21 : List Term} {z23 : Int} {q25 : Nat} {f26 : List Term} (g5 : s_get h q3 = some (1, 3, f4)) (g10 : s_get h q8 = some (1, 1, f9)) (g16 : s_get h q14 = some (1, 4, f15)) (g22 : s_get h q20 = some (1, 4, f21)) (g27 : s_get h q25 = some (1, 4, f26)) (k : wm P d 183 [.index q25, v11, vi z17, vi z23] h (wq P d sw_c158 sw_h158 139 [.index q3, r1, r2, r3, vi x4, r5, .index q14, .index q20, .index q25] [] kc ks Q)) (e_q3 : r0 = .index q3 := by first | rfl | assumption) (e_q8 : v6 = .index q8 := by first | rfl | assumption) (e_q14 : r6 = .index q14 := by first | rfl | assumption) (e_q20 : r7 = .index q20 := by first | rfl | assumption) (e_q25 : r8 = .index q25 := by first | rfl | assumption) (y1 : s_ty r8 = 3 := by first | rfl | assumption) (y2 : s_ty r0 = 3 := by first | rfl | assumption) (n7 : s_nth f4 1 = some v6 := by first | rfl | assumption) (n12 : s_nth f9 2 = some v11 := by first | rfl | assumption) (y13 : s_ty r6 = 3 := by first | rfl | assumption) (n18 : s_nth f15 1 = some (vi z17) := by first | rfl | assumption) (y19 : s_ty r7 = 3 := by first | rfl | assumption) (n24 : s_nth f21 1 = some (vi z23) := by first | rfl | assumption)  : wr P d sw_c158 sw_h158 (117, [r0, r1, r2, r3, vi x4, r5, r6, r7, r8], [], h, kc, ks) Q := by
  refine w_ld rfl rfl (Or.inr (Or.inr ⟨by decide, y1⟩)) ?_
  refine w_ld rfl rfl (Or.inr (Or.inr ⟨by decide, y2⟩)) ?_
  subst e_q3
  refine w_getf rfl g5 n7 ?_
  subst e_q8
  refine w_getf rfl g10 n12 ?_
  refine w_ld rfl rfl (Or.inr (Or.inr ⟨by decide, y13⟩)) ?_
  subst e_q14
  refine w_getf rfl g16 n18 ?_
  refine w_ld rfl rfl (Or.inr (Or.inr ⟨by decide, y19⟩)) ?_
  subst e_q20
  refine w_getf rfl g22 n24 ?_
  subst e_q25
  exact w_cv rfl [.index q25, v11, vi z17, vi z23] [] rfl rfl (s_wt_4 rfl) rfl g27 k

theorem k158_139 {P : s_P} {d : Nat} {Q : s_O → Prop} {h : s_H} {kc ks : Nat} {r0 r1 r2 r3 : Term} {x4 : Int} {r5 r6 r7 r8 : Term} {q2 : Nat} {f3 : List Term} {v5 : Term} {q10 : Nat} {f11 : List Term} (g4 : s_get h q2 = some (1, 3, f3)) (g12 : s_get h q10 = some (1, 0, f11)) (k : wm P d 121 [.index q10, r8, r7, r3] h (wq P d sw_c158 sw_h158 151 [.index q2, r1, r2, r3, vi x4, r5, r6, r7, r8] [] kc ks Q)) (e_q2 : r0 = .index q2 := by first | rfl | assumption) (e_q10 : v5 = .index q10 := by first | rfl | assumption) (y1 : s_ty r0 = 3 := by first | rfl | assumption) (n6 : s_nth f3 0 = some v5 := by first | rfl | assumption) (y7 : s_ty r8 = 3 := by first | rfl | assumption) (y8 : s_ty r7 = 3 := by first | rfl | assumption) (y9 : s_ty r3 = 3 := by first | rfl | assumption)  : wr P d sw_c158 sw_h158 (139, [r0, r1, r2, r3, vi x4, r5, r6, r7, r8], [], h, kc, ks) Q := by
  refine w_ld rfl rfl (Or.inr (Or.inr ⟨by decide, y1⟩)) ?_
  subst e_q2
  refine w_getf rfl g4 n6 ?_
  refine w_ld rfl rfl (Or.inr (Or.inr ⟨by decide, y7⟩)) ?_
  refine w_ld rfl rfl (Or.inr (Or.inr ⟨by decide, y8⟩)) ?_
  refine w_ld rfl rfl (Or.inr (Or.inr ⟨by decide, y9⟩)) ?_
  subst e_q10
  exact w_cv rfl [.index q10, r8, r7, r3] [] rfl rfl (s_wt_4 rfl) rfl g12 k

theorem k158_151 {P : s_P} {d : Nat} {Q : s_O → Prop} {h : s_H} {kc ks : Nat} {r0 r1 r2 r3 : Term} {x4 : Int} {r5 r6 r7 r8 s0 : Term} {q4 : Nat} {f5 : List Term} {v7 : Term} {q9 : Nat} {f10 : List Term} {v12 : Term} {q15 : Nat} {f16 : List Term} {z18 : Int} {q20 : Nat} {f21 : List Term} (g6 : s_get h q4 = some (1, 3, f5)) (g11 : s_get h q9 = some (1, 1, f10)) (g17 : s_get h q15 = some (1, 4, f16)) (g22 : s_get h q20 = some (1, 4, f21)) (k : wm P d 183 [.index q20, v12, vi 0, vi z18] h (wq P d sw_c158 sw_h158 170 [.index q4, r1, r2, r3, vi x4, r5, .index q15, r7, .index q20] [] kc ks Q)) (e_q4 : r0 = .index q4 := by first | rfl | assumption) (e_q9 : v7 = .index q9 := by first | rfl | assumption) (e_q15 : r6 = .index q15 := by first | rfl | assumption) (e_q20 : r8 = .index q20 := by first | rfl | assumption) (y1 : s_ty s0 = 3 := by first | rfl | assumption) (y2 : s_ty r8 = 3 := by first | rfl | assumption) (y3 : s_ty r0 = 3 := by first | rfl | assumption) (n8 : s_nth f5 1 = some v7 := by first | rfl | assumption) (n13 : s_nth f10 2 = some v12 := by first | rfl | assumption) (y14 : s_ty r6 = 3 := by first | rfl | assumption) (n19 : s_nth f16 1 = some (vi z18) := by first | rfl | assumption)  : wr P d sw_c158 sw_h158 (151, [r0, r1, r2, r3, vi x4, r5, r6, r7, r8], [s0], h, kc, ks) Q := by
  refine w_pop rfl (by rw [y1]; rfl) ?_
  refine w_ld rfl rfl (Or.inr (Or.inr ⟨by decide, y2⟩)) ?_
  refine w_ld rfl rfl (Or.inr (Or.inr ⟨by decide, y3⟩)) ?_
  subst e_q4
  refine w_getf rfl g6 n8 ?_
  subst e_q9
  refine w_getf rfl g11 n13 ?_
  refine w_c32 rfl (by decide) 0 (by decide) ?_
  refine w_ld rfl rfl (Or.inr (Or.inr ⟨by decide, y14⟩)) ?_
  subst e_q15
  refine w_getf rfl g17 n19 ?_
  subst e_q20
  exact w_cv rfl [.index q20, v12, vi 0, vi z18] [] rfl rfl (s_wt_4 rfl) rfl g22 k

theorem k158_170 {P : s_P} {d : Nat} {Q : s_O → Prop} {h : s_H} {kc ks : Nat} {r0 r1 r2 r3 : Term} {x4 : Int} {r5 r6 r7 r8 : Term} {q2 : Nat} {f3 : List Term} (g4 : s_get h q2 = some (1, 4, f3)) (k : wm P d 172 [.index q2] h (wq P d sw_c158 sw_h158 175 [r0, r1, r2, r3, vi x4, .index q2, r6, r7, r8] [] kc ks Q)) (e_q2 : r5 = .index q2 := by first | rfl | assumption) (y1 : s_ty r5 = 3 := by first | rfl | assumption)  : wr P d sw_c158 sw_h158 (170, [r0, r1, r2, r3, vi x4, r5, r6, r7, r8], [], h, kc, ks) Q := by
  refine w_ld rfl rfl (Or.inr (Or.inr ⟨by decide, y1⟩)) ?_
  subst e_q2
  exact w_cv rfl [.index q2] [] rfl rfl (s_wt_4 rfl) rfl g4 k

theorem k158_175 {P : s_P} {d : Nat} {Q : s_O → Prop} {h : s_H} {kc ks : Nat} {r0 r1 r2 r3 : Term} {x4 : Int} {r5 r6 r7 r8 : Term} {q2 : Nat} {f3 : List Term} {v5 : Term} {q9 : Nat} {f10 : List Term} (g4 : s_get h q2 = some (1, 3, f3)) (g11 : s_get h q9 = some (1, 0, f10)) (k : wm P d 111 [.index q9, r5, r6] h (wq P d sw_c158 sw_h158 186 [.index q2, r1, r2, r3, vi x4, r5, r6, r7, r8] [] kc ks Q)) (e_q2 : r0 = .index q2 := by first | rfl | assumption) (e_q9 : v5 = .index q9 := by first | rfl | assumption) (y1 : s_ty r0 = 3 := by first | rfl | assumption) (n6 : s_nth f3 0 = some v5 := by first | rfl | assumption) (y7 : s_ty r5 = 3 := by first | rfl | assumption) (y8 : s_ty r6 = 3 := by first | rfl | assumption)  : wr P d sw_c158 sw_h158 (175, [r0, r1, r2, r3, vi x4, r5, r6, r7, r8], [], h, kc, ks) Q := by
  refine w_ld rfl rfl (Or.inr (Or.inr ⟨by decide, y1⟩)) ?_
  subst e_q2
  refine w_getf rfl g4 n6 ?_
  refine w_ld rfl rfl (Or.inr (Or.inr ⟨by decide, y7⟩)) ?_
  refine w_ld rfl rfl (Or.inr (Or.inr ⟨by decide, y8⟩)) ?_
  subst e_q9
  exact w_cv rfl [.index q9, r5, r6] [] rfl rfl (s_wt_4 rfl) rfl g11 k

theorem k158_186 {P : s_P} {d : Nat} {Q : s_O → Prop} {h : s_H} {kc ks : Nat} {r0 r1 r2 r3 : Term} {x4 : Int} {r5 r6 r7 r8 : Term} {q3 : Nat} {f4 : List Term} (g5 : s_get h q3 = some (1, 4, f4)) (k : wm P d 184 [.index q3, .index q3, r5, vi 1] h (wq P d sw_c158 sw_h158 196 [r0, r1, r2, r3, vi x4, r5, r6, r7, .index q3] [] kc ks Q)) (e_q3 : r8 = .index q3 := by first | rfl | assumption) (y1 : s_ty r8 = 3 := by first | rfl | assumption) (y2 : s_ty r5 = 3 := by first | rfl | assumption)  : wr P d sw_c158 sw_h158 (186, [r0, r1, r2, r3, vi x4, r5, r6, r7, r8], [], h, kc, ks) Q := by
  refine w_ld rfl rfl (Or.inr (Or.inr ⟨by decide, y1⟩)) ?_
  refine w_ld rfl rfl (Or.inr (Or.inr ⟨by decide, y1⟩)) ?_
  refine w_ld rfl rfl (Or.inr (Or.inr ⟨by decide, y2⟩)) ?_
  refine w_c32 rfl (by decide) 1 (by decide) ?_
  subst e_q3
  exact w_cv rfl [.index q3, .index q3, r5, vi 1] [] rfl rfl (s_wt_4 rfl) rfl g5 k

theorem k158_196 {P : s_P} {d : Nat} {Q : s_O → Prop} {h : s_H} {kc ks : Nat} {r0 r1 r2 r3 : Term} {x4 : Int} {r5 r6 r7 r8 : Term} {q2 : Nat} {f3 : List Term} {v5 : Term} {q10 : Nat} {f11 : List Term} (g4 : s_get h q2 = some (1, 3, f3)) (g12 : s_get h q10 = some (1, 0, f11)) (k : wm P d 121 [.index q10, r8, r6, r2] h (wq P d sw_c158 sw_h158 208 [.index q2, r1, r2, r3, vi x4, r5, r6, r7, r8] [] kc ks Q)) (e_q2 : r0 = .index q2 := by first | rfl | assumption) (e_q10 : v5 = .index q10 := by first | rfl | assumption) (y1 : s_ty r0 = 3 := by first | rfl | assumption) (n6 : s_nth f3 0 = some v5 := by first | rfl | assumption) (y7 : s_ty r8 = 3 := by first | rfl | assumption) (y8 : s_ty r6 = 3 := by first | rfl | assumption) (y9 : s_ty r2 = 3 := by first | rfl | assumption)  : wr P d sw_c158 sw_h158 (196, [r0, r1, r2, r3, vi x4, r5, r6, r7, r8], [], h, kc, ks) Q := by
  refine w_ld rfl rfl (Or.inr (Or.inr ⟨by decide, y1⟩)) ?_
  subst e_q2
  refine w_getf rfl g4 n6 ?_
  refine w_ld rfl rfl (Or.inr (Or.inr ⟨by decide, y7⟩)) ?_
  refine w_ld rfl rfl (Or.inr (Or.inr ⟨by decide, y8⟩)) ?_
  refine w_ld rfl rfl (Or.inr (Or.inr ⟨by decide, y9⟩)) ?_
  subst e_q10
  exact w_cv rfl [.index q10, r8, r6, r2] [] rfl rfl (s_wt_4 rfl) rfl g12 k

theorem k158_208 {P : s_P} {d : Nat} {Q : s_O → Prop} {h : s_H} {kc ks : Nat} {r0 r1 r2 r3 : Term} {x4 : Int} {r5 r6 r7 r8 s0 : Term} {q3 : Nat} {f4 : List Term} {v6 : Term} {q8 : Nat} {f9 : List Term} (g5 : s_get h q3 = some (1, 3, f4)) (g10 : s_get h q8 = some (1, 0, f9)) (k : wm P d 113 [.index q8, vi x4] h (wq P d sw_c158 sw_h158 218 [.index q3, r1, r2, r3, vi x4, r5, r6, r7, r8] [] kc ks Q)) (e_q3 : r0 = .index q3 := by first | rfl | assumption) (e_q8 : v6 = .index q8 := by first | rfl | assumption) (y1 : s_ty s0 = 3 := by first | rfl | assumption) (y2 : s_ty r0 = 3 := by first | rfl | assumption) (n7 : s_nth f4 0 = some v6 := by first | rfl | assumption)  : wr P d sw_c158 sw_h158 (208, [r0, r1, r2, r3, vi x4, r5, r6, r7, r8], [s0], h, kc, ks) Q := by
  refine w_pop rfl (by rw [y1]; rfl) ?_
  refine w_ld rfl rfl (Or.inr (Or.inr ⟨by decide, y2⟩)) ?_
  subst e_q3
  refine w_getf rfl g5 n7 ?_
  refine w_ld rfl rfl (Or.inl ⟨by decide, rfl⟩) ?_
  subst e_q8
  exact w_cv rfl [.index q8, vi x4] [] rfl rfl (s_wt_4 rfl) rfl g10 k

theorem k158_218 {P : s_P} {d : Nat} {Q : s_O → Prop} {h : s_H} {kc ks : Nat} {r0 r1 r2 r3 : Term} {x4 : Int} {r5 r6 r7 r8 : Term}  (k : Q (.inl (some r2), h, kc, ks)) (y1 : s_ty r2 = 3 := by first | rfl | assumption)  : wr P d sw_c158 sw_h158 (218, [r0, r1, r2, r3, vi x4, r5, r6, r7, r8], [], h, kc, ks) Q := by
  refine w_ld rfl rfl (Or.inr (Or.inr ⟨by decide, y1⟩)) ?_
  exact w_aret rfl y1 k

/-! 159: FormulaWorks$Parts.setConjugate(I)V -/
theorem k159_0 {P : s_P} {d : Nat} {Q : s_O → Prop} {h : s_H} {kc ks : Nat} {r0 : Term} {x1 : Int} {t2 t3 t4 t5 : Term} {q2 : Nat} {f3 : List Term} {v5 : Term} {q7 : Nat} {f8 : List Term} (g4 : s_get h q2 = some (1, 3, f3)) (g9 : s_get h q7 = some (1, 0, f8)) (k : wm P d 110 [.index q7] h (wq P d sw_c159 sw_h159 7 [.index q2, vi x1, t2, t3, t4, t5] [] kc ks Q)) (e_q2 : r0 = .index q2 := by first | rfl | assumption) (e_q7 : v5 = .index q7 := by first | rfl | assumption) (y1 : s_ty r0 = 3 := by first | rfl | assumption) (n6 : s_nth f3 0 = some v5 := by first | rfl | assumption)  : wr P d sw_c159 sw_h159 (0, [r0, vi x1, t2, t3, t4, t5], [], h, kc, ks) Q := by
  refine w_ld rfl rfl (Or.inr (Or.inr ⟨by decide, y1⟩)) ?_
  subst e_q2
  refine w_getf rfl g4 n6 ?_
  subst e_q7
  exact w_cv rfl [.index q7] [] rfl rfl (s_wt_4 rfl) rfl g9 k

theorem k159_7 {P : s_P} {d : Nat} {Q : s_O → Prop} {h : s_H} {kc ks : Nat} {r0 : Term} {x1 : Int} {t2 t3 t4 t5 : Term} {s0 : Int} {q2 : Nat} {f3 : List Term} {v5 : Term} {q7 : Nat} {f8 : List Term} (g4 : s_get h q2 = some (1, 3, f3)) (g9 : s_get h q7 = some (1, 0, f8)) (k : wm P d 109 [.index q7] h (wq P d sw_c159 sw_h159 15 [.index q2, vi x1, vi s0, t3, t4, t5] [] kc ks Q)) (e_q2 : r0 = .index q2 := by first | rfl | assumption) (e_q7 : v5 = .index q7 := by first | rfl | assumption) (y1 : s_ty r0 = 3 := by first | rfl | assumption) (n6 : s_nth f3 0 = some v5 := by first | rfl | assumption)  : wr P d sw_c159 sw_h159 (7, [r0, vi x1, t2, t3, t4, t5], [vi s0], h, kc, ks) Q := by
  refine w_st (ls' := [r0, vi x1, vi s0, t3, t4, t5]) rfl (Or.inl ⟨by decide, rfl⟩) rfl ?_
  refine w_ld rfl rfl (Or.inr (Or.inr ⟨by decide, y1⟩)) ?_
  subst e_q2
  refine w_getf rfl g4 n6 ?_
  subst e_q7
  exact w_cv rfl [.index q7] [] rfl rfl (s_wt_4 rfl) rfl g9 k

theorem k159_15 {P : s_P} {d : Nat} {Q : s_O → Prop} {h : s_H} {kc ks : Nat} {r0 : Term} {x1 x2 : Int} {t3 t4 t5 s0 : Term} {q3 : Nat} {f4 : List Term} {v6 : Term} {q8 : Nat} {a9 : List Term} {tg11 : Nat} {v12 : Term} (g5 : s_get h q3 = some (1, 3, f4)) (g10 : s_get h q8 = some (0, tg11, a9)) (k : wr P d sw_c159 sw_h159 (29, [.index q3, vi x1, vi x2, s0, v12, vi 0], [], h, kc, ks) Q) (e_q3 : r0 = .index q3 := by first | rfl | assumption) (e_q8 : v6 = .index q8 := by first | rfl | assumption) (y1 : s_ty s0 = 3 := by first | rfl | assumption) (y2 : s_ty r0 = 3 := by first | rfl | assumption) (n7 : s_nth f4 5 = some v6 := by first | rfl | assumption) (n13 : s_nth a9 (Int.toNat (x1 - 1)) = some v12 := by first | rfl | assumption) (u14 : tg11 = 2 ∨ tg11 = 3 ∨ tg11 = 4 := by first | decide | assumption) (y17 : s_ty v12 = 3 := by first | rfl | assumption) (c15 : In3 (x1 - 1) := by first | omega | assumption | (simp only [mk_len, List.length_map]; omega) | decide) (c16 : 0 ≤ x1 - 1 := by first | omega | assumption | (simp only [mk_len, List.length_map]; omega) | decide) : wr P d sw_c159 sw_h159 (15, [r0, vi x1, vi x2, t3, t4, t5], [s0], h, kc, ks) Q := by
  refine w_st (ls' := [r0, vi x1, vi x2, s0, t4, t5]) rfl (Or.inr ⟨by decide, y1⟩) rfl ?_
  refine w_ld rfl rfl (Or.inr (Or.inr ⟨by decide, y2⟩)) ?_
  subst e_q3
  refine w_getf rfl g5 n7 ?_
  refine w_ld rfl rfl (Or.inl ⟨by decide, rfl⟩) ?_
  refine w_c32 rfl (by decide) 1 (by decide) ?_
  refine w_isub rfl ?_
  subst e_q8
  refine w_aald rfl g10 u14 c15 c16 n13 ?_
  refine w_st (ls' := [.index q3, vi x1, vi x2, s0, v12, t5]) rfl (Or.inr ⟨by decide, y17⟩) (s_stK_r (pre := [.index q3, vi x1, vi x2]) y1) ?_
  refine w_c32 rfl (by decide) 0 (by decide) ?_
  refine w_st (ls' := [.index q3, vi x1, vi x2, s0, v12, vi 0]) rfl (Or.inl ⟨by decide, rfl⟩) (s_stK_r (pre := [.index q3, vi x1, vi x2, s0]) y17) ?_
  exact k

theorem k159_29 {P : s_P} {d : Nat} {Q : s_O → Prop} {h : s_H} {kc ks : Nat} {r0 : Term} {x1 x2 : Int} {r3 r4 : Term} {x5 : Int} {q2 : Nat} {f3 : List Term} {z5 : Int} (g4 : s_get h q2 = some (1, 4, f3)) (k1 : z5 < x5 → wr P d sw_c159 sw_h159 (83, [r0, vi x1, vi x2, r3, .index q2, vi x5], [], h, kc, ks) Q) (k2 : ¬ z5 < x5 → wr P d sw_c159 sw_h159 (39, [r0, vi x1, vi x2, r3, .index q2, vi x5], [], h, kc, ks) Q) (e_q2 : r4 = .index q2 := by first | rfl | assumption) (y1 : s_ty r4 = 3 := by first | rfl | assumption) (n6 : s_nth f3 1 = some (vi z5) := by first | rfl | assumption) (c7 : In3 x5 := by first | omega | assumption | (simp only [mk_len, List.length_map]; omega) | decide) (c8 : In3 z5 := by first | omega | assumption | (simp only [mk_len, List.length_map]; omega) | decide) : wr P d sw_c159 sw_h159 (29, [r0, vi x1, vi x2, r3, r4, vi x5], [], h, kc, ks) Q := by
  refine w_ld rfl rfl (Or.inl ⟨by decide, rfl⟩) ?_
  refine w_ld rfl rfl (Or.inr (Or.inr ⟨by decide, y1⟩)) ?_
  subst e_q2
  refine w_getf rfl g4 n6 ?_
  exact w_if2 rfl c7 c8 k1 k2

theorem k159_39 {P : s_P} {d : Nat} {Q : s_O → Prop} {h : s_H} {kc ks : Nat} {r0 : Term} {x1 x2 : Int} {r3 r4 : Term} {x5 : Int}  (k1 : 40 ≤ x5 → wr P d sw_c159 sw_h159 (83, [r0, vi x1, vi x2, r3, r4, vi x5], [], h, kc, ks) Q) (k2 : ¬ 40 ≤ x5 → wr P d sw_c159 sw_h159 (46, [r0, vi x1, vi x2, r3, r4, vi x5], [], h, kc, ks) Q)  (c1 : In3 x5 := by first | omega | assumption | (simp only [mk_len, List.length_map]; omega) | decide) : wr P d sw_c159 sw_h159 (39, [r0, vi x1, vi x2, r3, r4, vi x5], [], h, kc, ks) Q := by
  refine w_ld rfl rfl (Or.inl ⟨by decide, rfl⟩) ?_
  refine w_c32 rfl (by decide) 40 (by decide) ?_
  exact w_if2 rfl c1 (by decide) k1 k2

theorem k159_46 {P : s_P} {d : Nat} {Q : s_O → Prop} {h : s_H} {kc ks : Nat} {r0 : Term} {x1 x2 : Int} {r3 r4 : Term} {x5 : Int} {q2 : Nat} {f3 : List Term} {v5 : Term} {q7 : Nat} {a8 : List Int} (g4 : s_get h q2 = some (1, 4, f3)) (g9 : s_get h q7 = some (0, 0, a8.map vi)) (k1 : gi a8 x5 = 0 → wr P d sw_c159 sw_h159 (77, [r0, vi x1, vi x2, r3, .index q2, vi x5], [], h, kc, ks) Q) (k2 : ¬ gi a8 x5 = 0 → wr P d sw_c159 sw_h159 (57, [r0, vi x1, vi x2, r3, .index q2, vi x5], [], h, kc, ks) Q) (e_q2 : r4 = .index q2 := by first | rfl | assumption) (e_q7 : v5 = .index q7 := by first | rfl | assumption) (y1 : s_ty r4 = 3 := by first | rfl | assumption) (n6 : s_nth f3 0 = some v5 := by first | rfl | assumption) (c10 : x5 < a8.length := by first | omega | assumption | (simp only [mk_len, List.length_map]; omega) | decide) (c11 : 0 ≤ x5 := by first | omega | assumption | (simp only [mk_len, List.length_map]; omega) | decide) (c12 : In3 x5 := by first | omega | assumption | (simp only [mk_len, List.length_map]; omega) | decide) (c13 : In3 (gi a8 x5) := by first | omega | assumption | (simp only [mk_len, List.length_map]; omega) | decide) : wr P d sw_c159 sw_h159 (46, [r0, vi x1, vi x2, r3, r4, vi x5], [], h, kc, ks) Q := by
  refine w_ld rfl rfl (Or.inr (Or.inr ⟨by decide, y1⟩)) ?_
  subst e_q2
  refine w_getf rfl g4 n6 ?_
  refine w_ld rfl rfl (Or.inl ⟨by decide, rfl⟩) ?_
  subst e_q7
  refine w_iald rfl g9 (Or.inl rfl) c12 c11 c10 ?_
  exact w_if1 rfl c13 k1 k2

theorem k159_57 {P : s_P} {d : Nat} {Q : s_O → Prop} {h : s_H} {kc ks : Nat} {r0 : Term} {x1 x2 : Int} {r3 r4 : Term} {x5 : Int} {q3 : Nat} {f4 : List Term} {v6 : Term} {q8 : Nat} {a9 : List Term} {tg11 : Nat} {v12 : Term} {q18 : Nat} {f19 : List Term} {v21 : Term} {q23 : Nat} {a24 : List Int} {q27 : Nat} {f28 : List Term} (g5 : s_get h q3 = some (1, 3, f4)) (g10 : s_get h q8 = some (0, tg11, a9)) (g20 : s_get h q18 = some (1, 4, f19)) (g25 : s_get h q23 = some (0, 0, a24.map vi)) (g29 : s_get h q27 = some (1, 4, f28)) (k : wm P d 184 [.index q27, .index q27, v12, vi (gi a24 x5)] h (wq P d sw_c159 sw_h159 77 [.index q3, vi x1, vi x2, .index q27, .index q18, vi x5] [] kc ks Q)) (e_q3 : r0 = .index q3 := by first | rfl | assumption) (e_q8 : v6 = .index q8 := by first | rfl | assumption) (e_q18 : r4 = .index q18 := by first | rfl | assumption) (e_q23 : v21 = .index q23 := by first | rfl | assumption) (e_q27 : r3 = .index q27 := by first | rfl | assumption) (y1 : s_ty r3 = 3 := by first | rfl | assumption) (y2 : s_ty r0 = 3 := by first | rfl | assumption) (n7 : s_nth f4 6 = some v6 := by first | rfl | assumption) (n13 : s_nth a9 (Int.toNat (x5)) = some v12 := by first | rfl | assumption) (u14 : tg11 = 2 ∨ tg11 = 3 ∨ tg11 = 4 := by first | decide | assumption) (y17 : s_ty r4 = 3 := by first | rfl | assumption) (n22 : s_nth f19 0 = some v21 := by first | rfl | assumption) (c15 : In3 x5 := by first | omega | assumption | (simp only [mk_len, List.length_map]; omega) | decide) (c16 : 0 ≤ x5 := by first | omega | assumption | (simp only [mk_len, List.length_map]; omega) | decide) (c26 : x5 < a24.length := by first | omega | assumption | (simp only [mk_len, List.length_map]; omega) | decide) : wr P d sw_c159 sw_h159 (57, [r0, vi x1, vi x2, r3, r4, vi x5], [], h, kc, ks) Q := by
  refine w_ld rfl rfl (Or.inr (Or.inr ⟨by decide, y1⟩)) ?_
  refine w_ld rfl rfl (Or.inr (Or.inr ⟨by decide, y1⟩)) ?_
  refine w_ld rfl rfl (Or.inr (Or.inr ⟨by decide, y2⟩)) ?_
  subst e_q3
  refine w_getf rfl g5 n7 ?_
  refine w_ld rfl rfl (Or.inl ⟨by decide, rfl⟩) ?_
  subst e_q8
  refine w_aald rfl g10 u14 c15 c16 n13 ?_
  refine w_ld rfl rfl (Or.inr (Or.inr ⟨by decide, y17⟩)) ?_
  subst e_q18
  refine w_getf rfl g20 n22 ?_
  refine w_ld rfl rfl (Or.inl ⟨by decide, rfl⟩) ?_
  subst e_q23
  refine w_iald rfl g25 (Or.inl rfl) c15 c16 c26 ?_
  subst e_q27
  exact w_cv rfl [.index q27, .index q27, v12, vi (gi a24 x5)] [] rfl rfl (s_wt_4 rfl) rfl g29 k

theorem k159_77 {P : s_P} {d : Nat} {Q : s_O → Prop} {h : s_H} {kc ks : Nat} {r0 : Term} {x1 x2 : Int} {r3 r4 : Term} {x5 : Int}  (k : wr P d sw_c159 sw_h159 (29, [r0, vi x1, vi x2, r3, r4, vi (x5 + 1)], [], h, kc, ks) Q) (y1 : s_ty r4 = 3 := by first | rfl | assumption)  : wr P d sw_c159 sw_h159 (77, [r0, vi x1, vi x2, r3, r4, vi x5], [], h, kc, ks) Q := by
  refine w_iinc (ls' := [r0, vi x1, vi x2, r3, r4, vi (x5 + 1)]) rfl rfl 1 (by decide) (s_stK_r (pre := [r0, vi x1, vi x2, r3]) y1) ?_
  refine w_goto rfl ?_
  exact k

theorem k159_83 {P : s_P} {d : Nat} {Q : s_O → Prop} {h : s_H} {kc ks : Nat} {r0 : Term} {x1 x2 : Int} {r3 r4 : Term} {x5 : Int} {q2 : Nat} {f3 : List Term} {v5 : Term} {q7 : Nat} {a8 : List Term} {tg10 : Nat} {v11 : Term} {q17 : Nat} {f18 : List Term} (g4 : s_get h q2 = some (1, 3, f3)) (g9 : s_get h q7 = some (0, tg10, a8)) (g19 : s_get h q17 = some (1, 4, f18)) (k : wm P d 179 [.index q17, r3] h (wq P d sw_c159 sw_h159 93 [.index q2, vi x1, vi x2, r3, r4, vi x5] [] kc ks Q)) (e_q2 : r0 = .index q2 := by first | rfl | assumption) (e_q7 : v5 = .index q7 := by first | rfl | assumption) (e_q17 : v11 = .index q17 := by first | rfl | assumption) (y1 : s_ty r0 = 3 := by first | rfl | assumption) (n6 : s_nth f3 5 = some v5 := by first | rfl | assumption) (n12 : s_nth a8 (Int.toNat (x1)) = some v11 := by first | rfl | assumption) (u13 : tg10 = 2 ∨ tg10 = 3 ∨ tg10 = 4 := by first | decide | assumption) (y16 : s_ty r3 = 3 := by first | rfl | assumption) (c14 : In3 x1 := by first | omega | assumption | (simp only [mk_len, List.length_map]; omega) | decide) (c15 : 0 ≤ x1 := by first | omega | assumption | (simp only [mk_len, List.length_map]; omega) | decide) : wr P d sw_c159 sw_h159 (83, [r0, vi x1, vi x2, r3, r4, vi x5], [], h, kc, ks) Q := by
  refine w_ld rfl rfl (Or.inr (Or.inr ⟨by decide, y1⟩)) ?_
  subst e_q2
  refine w_getf rfl g4 n6 ?_
  refine w_ld rfl rfl (Or.inl ⟨by decide, rfl⟩) ?_
  subst e_q7
  refine w_aald rfl g9 u13 c14 c15 n12 ?_
  refine w_ld rfl rfl (Or.inr (Or.inr ⟨by decide, y16⟩)) ?_
  subst e_q17
  exact w_cv rfl [.index q17, r3] [] rfl rfl (s_wt_4 rfl) rfl g19 k

theorem k159_93 {P : s_P} {d : Nat} {Q : s_O → Prop} {h : s_H} {kc ks : Nat} {r0 : Term} {x1 x2 : Int} {r3 r4 : Term} {x5 : Int} {q2 : Nat} {f3 : List Term} {v5 : Term} {q7 : Nat} {f8 : List Term} (g4 : s_get h q2 = some (1, 3, f3)) (g9 : s_get h q7 = some (1, 0, f8)) (k : wm P d 113 [.index q7, vi x2] h (wq P d sw_c159 sw_h159 101 [.index q2, vi x1, vi x2, r3, r4, vi x5] [] kc ks Q)) (e_q2 : r0 = .index q2 := by first | rfl | assumption) (e_q7 : v5 = .index q7 := by first | rfl | assumption) (y1 : s_ty r0 = 3 := by first | rfl | assumption) (n6 : s_nth f3 0 = some v5 := by first | rfl | assumption)  : wr P d sw_c159 sw_h159 (93, [r0, vi x1, vi x2, r3, r4, vi x5], [], h, kc, ks) Q := by
  refine w_ld rfl rfl (Or.inr (Or.inr ⟨by decide, y1⟩)) ?_
  subst e_q2
  refine w_getf rfl g4 n6 ?_
  refine w_ld rfl rfl (Or.inl ⟨by decide, rfl⟩) ?_
  subst e_q7
  exact w_cv rfl [.index q7, vi x2] [] rfl rfl (s_wt_4 rfl) rfl g9 k

theorem k159_101 {P : s_P} {d : Nat} {Q : s_O → Prop} {h : s_H} {kc ks : Nat} {r0 : Term} {x1 x2 : Int} {r3 r4 : Term} {x5 : Int}  (k : Q (.inl none, h, kc, ks))   : wr P d sw_c159 sw_h159 (101, [r0, vi x1, vi x2, r3, r4, vi x5], [], h, kc, ks) Q := by
  exact w_ret rfl k

