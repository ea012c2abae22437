/-! 1: FormulaWorks.add(II)I -/
theorem k1_0 {P : s_P} {d : Nat} {Q : s_O → Prop} {h : s_H} {kc ks : Nat} {r0 : Term} {x1 x2 : Int} {q2 : Nat} {f3 : List Term} (g4 : s_get h q2 = some (1, 10, f3)) (k : wm P d 93 [.index q2, vi x1] h (wq P d sw_c1 sw_h1 8 [.index q2, vi x1, vi x2] [vi 43, .index q2] kc ks Q)) (e_q2 : r0 = .index q2 := by first | rfl | assumption) (y1 : s_ty r0 = 3 := by first | rfl | assumption)  : wr P d sw_c1 sw_h1 (0, [r0, vi x1, vi x2], [], h, kc, ks) Q := by
  refine w_ld rfl rfl (Or.inr (Or.inr ⟨by decide, y1⟩)) ?_
  refine w_c32 rfl (by decide) 43 (by decide) ?_
  refine w_ld rfl rfl (Or.inr (Or.inr ⟨by decide, y1⟩)) ?_
  refine w_ld rfl rfl (Or.inl ⟨by decide, rfl⟩) ?_
  subst e_q2
  exact w_cv rfl [.index q2, vi x1] [vi 43, .index q2] rfl rfl (s_wt_4 rfl) rfl g4 k

theorem k1_8 {P : s_P} {d : Nat} {Q : s_O → Prop} {h : s_H} {kc ks : Nat} {r0 : Term} {x1 x2 : Int} {s0 : Term} {s1 : Int} {s2 : Term} {q2 : Nat} {f3 : List Term} (g4 : s_get h q2 = some (1, 10, f3)) (k : wm P d 93 [.index q2, vi x2] h (wq P d sw_c1 sw_h1 13 [.index q2, vi x1, vi x2] [s2, vi s1, s0] kc ks Q)) (e_q2 : r0 = .index q2 := by first | rfl | assumption) (y1 : s_ty r0 = 3 := by first | rfl | assumption)  : wr P d sw_c1 sw_h1 (8, [r0, vi x1, vi x2], [s2, vi s1, s0], h, kc, ks) Q := by
  refine w_ld rfl rfl (Or.inr (Or.inr ⟨by decide, y1⟩)) ?_
  refine w_ld rfl rfl (Or.inl ⟨by decide, rfl⟩) ?_
  subst e_q2
  exact w_cv rfl [.index q2, vi x2] [s2, vi s1, s0] rfl rfl (s_wt_4 rfl) rfl g4 k

theorem k1_13 {P : s_P} {d : Nat} {Q : s_O → Prop} {h : s_H} {kc ks : Nat} {r0 : Term} {x1 x2 : Int} {s0 : Term} {s1 : Int} {s2 s3 : Term} {q1 : Nat} {f2 : List Term} (g3 : s_get h q1 = some (1, 10, f2)) (k : wm P d 32 [.index q1, vi s1, s2, s3] h (wq P d sw_c1 sw_h1 16 [r0, vi x1, vi x2] [] kc ks Q)) (e_q1 : s0 = .index q1 := by first | rfl | assumption)  : wr P d sw_c1 sw_h1 (13, [r0, vi x1, vi x2], [s3, s2, vi s1, s0], h, kc, ks) Q := by
  subst e_q1
  exact w_cv rfl [.index q1, vi s1, s2, s3] [] rfl rfl (s_wt_4 rfl) rfl g3 k

theorem k1_16 {P : s_P} {d : Nat} {Q : s_O → Prop} {h : s_H} {kc ks : Nat} {r0 : Term} {x1 x2 s0 : Int}  (k : Q (.inl (some (vi s0)), h, kc, ks))   : wr P d sw_c1 sw_h1 (16, [r0, vi x1, vi x2], [vi s0], h, kc, ks) Q := by
  exact w_iret rfl k

/-! 2: FormulaWorks.adjoint(I)I -/
theorem k2_0 {P : s_P} {d : Nat} {Q : s_O → Prop} {h : s_H} {kc ks : Nat} {r0 : Term} {x1 : Int} {t2 : Term} {q2 : Nat} {f3 : List Term} (g4 : s_get h q2 = some (1, 10, f3)) (k : wm P d 64 [.index q2, vi x1, vi 2] h (wq P d sw_c2 sw_h2 6 [.index q2, vi x1, t2] [] kc ks Q)) (e_q2 : r0 = .index q2 := by first | rfl | assumption) (y1 : s_ty r0 = 3 := by first | rfl | assumption)  : wr P d sw_c2 sw_h2 (0, [r0, vi x1, t2], [], h, kc, ks) Q := by
  refine w_ld rfl rfl (Or.inr (Or.inr ⟨by decide, y1⟩)) ?_
  refine w_ld rfl rfl (Or.inl ⟨by decide, rfl⟩) ?_
  refine w_c32 rfl (by decide) 2 (by decide) ?_
  subst e_q2
  exact w_cv rfl [.index q2, vi x1, vi 2] [] rfl rfl (s_wt_4 rfl) rfl g4 k

theorem k2_6 {P : s_P} {d : Nat} {Q : s_O → Prop} {h : s_H} {kc ks : Nat} {r0 : Term} {x1 : Int} {t2 s0 : Term}  (k : wm P d 56 [s0] h (wq P d sw_c2 sw_h2 11 [r0, vi x1, s0] [] kc ks Q)) (y1 : s_ty s0 = 3 := by first | rfl | assumption)  : wr P d sw_c2 sw_h2 (6, [r0, vi x1, t2], [s0], h, kc, ks) Q := by
  refine w_st (ls' := [r0, vi x1, s0]) rfl (Or.inr ⟨by decide, y1⟩) rfl ?_
  refine w_ld rfl rfl (Or.inr (Or.inr ⟨by decide, y1⟩)) ?_
  exact w_cs rfl [s0] [] rfl rfl (s_wt_4 rfl) k

theorem k2_11 {P : s_P} {d : Nat} {Q : s_O → Prop} {h : s_H} {kc ks : Nat} {r0 : Term} {x1 : Int} {r2 : Term} {q2 : Nat} {f3 : List Term} {v5 : Term} {q8 : Nat} {f9 : List Term} (g4 : s_get h q2 = some (1, 10, f3)) (g10 : s_get h q8 = some (1, 2, f9)) (k : wm P d 134 [.index q8, r2] h (wq P d sw_c2 sw_h2 20 [.index q2, vi x1, r2] [.index q2] kc ks Q)) (e_q2 : r0 = .index q2 := by first | rfl | assumption) (e_q8 : v5 = .index q8 := by first | rfl | assumption) (y1 : s_ty r0 = 3 := by first | rfl | assumption) (n6 : s_nth f3 10 = some v5 := by first | rfl | assumption) (y7 : s_ty r2 = 3 := by first | rfl | assumption)  : wr P d sw_c2 sw_h2 (11, [r0, vi x1, r2], [], h, kc, ks) Q := by
  refine w_ld rfl rfl (Or.inr (Or.inr ⟨by decide, y1⟩)) ?_
  refine w_ld rfl rfl (Or.inr (Or.inr ⟨by decide, y1⟩)) ?_
  subst e_q2
  refine w_getf rfl g4 n6 ?_
  refine w_ld rfl rfl (Or.inr (Or.inr ⟨by decide, y7⟩)) ?_
  subst e_q8
  exact w_cv rfl [.index q8, r2] [.index q2] rfl rfl (s_wt_4 rfl) rfl g10 k

theorem k2_20 {P : s_P} {d : Nat} {Q : s_O → Prop} {h : s_H} {kc ks : Nat} {r0 : Term} {x1 : Int} {r2 s0 s1 : Term} {q1 : Nat} {f2 : List Term} (g3 : s_get h q1 = some (1, 10, f2)) (k : wm P d 38 [.index q1, s1] h (wq P d sw_c2 sw_h2 23 [r0, vi x1, r2] [] kc ks Q)) (e_q1 : s0 = .index q1 := by first | rfl | assumption)  : wr P d sw_c2 sw_h2 (20, [r0, vi x1, r2], [s1, s0], h, kc, ks) Q := by
  subst e_q1
  exact w_cv rfl [.index q1, s1] [] rfl rfl (s_wt_4 rfl) rfl g3 k

theorem k2_23 {P : s_P} {d : Nat} {Q : s_O → Prop} {h : s_H} {kc ks : Nat} {r0 : Term} {x1 : Int} {r2 : Term} {s0 : Int}  (k : Q (.inl (some (vi s0)), h, kc, ks))   : wr P d sw_c2 sw_h2 (23, [r0, vi x1, r2], [vi s0], h, kc, ks) Q := by
  exact w_iret rfl k

/-! 3: FormulaWorks.answer(III)I -/
theorem k3_0 {P : s_P} {d : Nat} {Q : s_O → Prop} {h : s_H} {kc ks : Nat} {r0 : Term} {x1 x2 x3 : Int} {t4 : Term} {q2 : Nat} {f3 : List Term} (g4 : s_get h q2 = some (1, 10, f3)) (k : wm P d 93 [.index q2, vi x1] h (wq P d sw_c3 sw_h3 5 [.index q2, vi x1, vi x2, vi x3, t4] [] kc ks Q)) (e_q2 : r0 = .index q2 := by first | rfl | assumption) (y1 : s_ty r0 = 3 := by first | rfl | assumption)  : wr P d sw_c3 sw_h3 (0, [r0, vi x1, vi x2, vi x3, t4], [], h, kc, ks) Q := by
  refine w_ld rfl rfl (Or.inr (Or.inr ⟨by decide, y1⟩)) ?_
  refine w_ld rfl rfl (Or.inl ⟨by decide, rfl⟩) ?_
  subst e_q2
  exact w_cv rfl [.index q2, vi x1] [] rfl rfl (s_wt_4 rfl) rfl g4 k

theorem k3_5 {P : s_P} {d : Nat} {Q : s_O → Prop} {h : s_H} {kc ks : Nat} {r0 : Term} {x1 x2 x3 : Int} {t4 s0 : Term}  (k : wm P d 55 [s0] h (wq P d sw_c3 sw_h3 12 [r0, vi x1, vi x2, vi x3, s0] [] kc ks Q)) (y1 : s_ty s0 = 3 := by first | rfl | assumption)  : wr P d sw_c3 sw_h3 (5, [r0, vi x1, vi x2, vi x3, t4], [s0], h, kc, ks) Q := by
  refine w_st (ls' := [r0, vi x1, vi x2, vi x3, s0]) rfl (Or.inr ⟨by decide, y1⟩) rfl ?_
  refine w_ld rfl rfl (Or.inr (Or.inr ⟨by decide, y1⟩)) ?_
  exact w_cs rfl [s0] [] rfl rfl (s_wt_4 rfl) k

theorem k3_12 {P : s_P} {d : Nat} {Q : s_O → Prop} {h : s_H} {kc ks : Nat} {r0 : Term} {x1 x2 x3 : Int} {r4 : Term}  (k : wm P d 59 [vi x2] h (wq P d sw_c3 sw_h3 16 [r0, vi x1, vi x2, vi x3, r4] [] kc ks Q))   : wr P d sw_c3 sw_h3 (12, [r0, vi x1, vi x2, vi x3, r4], [], h, kc, ks) Q := by
  refine w_ld rfl rfl (Or.inl ⟨by decide, rfl⟩) ?_
  exact w_cs rfl [vi x2] [] rfl rfl (s_wt_4 rfl) k

theorem k3_16 {P : s_P} {d : Nat} {Q : s_O → Prop} {h : s_H} {kc ks : Nat} {r0 : Term} {x1 x2 x3 : Int} {r4 : Term} {q2 : Nat} {f3 : List Term} {v5 : Term} {q8 : Nat} {f9 : List Term} (g4 : s_get h q2 = some (1, 10, f3)) (g10 : s_get h q8 = some (1, 6, f9)) (k : wm P d 221 [.index q8, r4, vi x2] h (wq P d sw_c3 sw_h3 27 [.index q2, vi x1, vi x2, vi x3, r4] [vi x3] kc ks Q)) (e_q2 : r0 = .index q2 := by first | rfl | assumption) (e_q8 : v5 = .index q8 := by first | rfl | assumption) (y1 : s_ty r0 = 3 := by first | rfl | assumption) (n6 : s_nth f3 11 = some v5 := by first | rfl | assumption) (y7 : s_ty r4 = 3 := by first | rfl | assumption)  : wr P d sw_c3 sw_h3 (16, [r0, vi x1, vi x2, vi x3, r4], [], h, kc, ks) Q := by
  refine w_ld rfl rfl (Or.inl ⟨by decide, rfl⟩) ?_
  refine w_ld rfl rfl (Or.inr (Or.inr ⟨by decide, y1⟩)) ?_
  subst e_q2
  refine w_getf rfl g4 n6 ?_
  refine w_ld rfl rfl (Or.inr (Or.inr ⟨by decide, y7⟩)) ?_
  refine w_ld rfl rfl (Or.inl ⟨by decide, rfl⟩) ?_
  subst e_q8
  exact w_cv rfl [.index q8, r4, vi x2] [vi x3] rfl rfl (s_wt_4 rfl) rfl g10 k

theorem k3_27 {P : s_P} {d : Nat} {Q : s_O → Prop} {h : s_H} {kc ks : Nat} {r0 : Term} {x1 x2 x3 : Int} {r4 : Term} {s0 s1 : Int}  (k : wm P d 51 [vi s0, vi s1] h (wq P d sw_c3 sw_h3 30 [r0, vi x1, vi x2, vi x3, r4] [] kc ks Q))   : wr P d sw_c3 sw_h3 (27, [r0, vi x1, vi x2, vi x3, r4], [vi s1, vi s0], h, kc, ks) Q := by
  exact w_cs rfl [vi s0, vi s1] [] rfl rfl (s_wt_4 rfl) k

theorem k3_30 {P : s_P} {d : Nat} {Q : s_O → Prop} {h : s_H} {kc ks : Nat} {r0 : Term} {x1 x2 x3 : Int} {r4 : Term} {q2 : Nat} {f3 : List Term} {v5 v7 : Term} {q9 : Nat} {f10 : List Term} (g4 : s_get h q2 = some (1, 10, f3)) (g11 : s_get h q9 = some (1, 6, f10)) (k : wm P d 223 [.index q9, vi x3, v7] h (wq P d sw_c3 sw_h3 42 [.index q2, vi x1, vi x2, vi x3, r4] [] kc ks Q)) (e_q2 : r0 = .index q2 := by first | rfl | assumption) (e_q9 : v5 = .index q9 := by first | rfl | assumption) (y1 : s_ty r0 = 3 := by first | rfl | assumption) (n6 : s_nth f3 11 = some v5 := by first | rfl | assumption) (n8 : s_nth f3 16 = some v7 := by first | rfl | assumption)  : wr P d sw_c3 sw_h3 (30, [r0, vi x1, vi x2, vi x3, r4], [], h, kc, ks) Q := by
  refine w_ld rfl rfl (Or.inr (Or.inr ⟨by decide, y1⟩)) ?_
  subst e_q2
  refine w_getf rfl g4 n6 ?_
  refine w_ld rfl rfl (Or.inl ⟨by decide, rfl⟩) ?_
  refine w_ld rfl rfl (Or.inr (Or.inr ⟨by decide, rfl⟩)) ?_
  refine w_getf rfl g4 n8 ?_
  subst e_q9
  exact w_cv rfl [.index q9, vi x3, v7] [] rfl rfl (s_wt_4 rfl) rfl g11 k

theorem k3_42 {P : s_P} {d : Nat} {Q : s_O → Prop} {h : s_H} {kc ks : Nat} {r0 : Term} {x1 x2 x3 : Int} {r4 : Term} {q2 : Nat} {f3 : List Term} {v5 : Term} (g4 : s_get h q2 = some (1, 10, f3)) (k : wm P d 41 [.index q2, v5] h (wq P d sw_c3 sw_h3 50 [.index q2, vi x1, vi x2, vi x3, r4] [] kc ks Q)) (e_q2 : r0 = .index q2 := by first | rfl | assumption) (y1 : s_ty r0 = 3 := by first | rfl | assumption) (n6 : s_nth f3 16 = some v5 := by first | rfl | assumption)  : wr P d sw_c3 sw_h3 (42, [r0, vi x1, vi x2, vi x3, r4], [], h, kc, ks) Q := by
  refine w_ld rfl rfl (Or.inr (Or.inr ⟨by decide, y1⟩)) ?_
  refine w_ld rfl rfl (Or.inr (Or.inr ⟨by decide, y1⟩)) ?_
  subst e_q2
  refine w_getf rfl g4 n6 ?_
  exact w_cv rfl [.index q2, v5] [] rfl rfl (s_wt_4 rfl) rfl g4 k

theorem k3_50 {P : s_P} {d : Nat} {Q : s_O → Prop} {h : s_H} {kc ks : Nat} {r0 : Term} {x1 x2 x3 : Int} {r4 : Term} {s0 : Int}  (k : Q (.inl (some (vi s0)), h, kc, ks))   : wr P d sw_c3 sw_h3 (50, [r0, vi x1, vi x2, vi x3, r4], [vi s0], h, kc, ks) Q := by
  exact w_iret rfl k

/-! 4: FormulaWorks.answers(II)I -/
theorem k4_0 {P : s_P} {d : Nat} {Q : s_O → Prop} {h : s_H} {kc ks : Nat} {r0 : Term} {x1 x2 : Int} {t3 : Term} {q2 : Nat} {f3 : List Term} (g4 : s_get h q2 = some (1, 10, f3)) (k : wm P d 93 [.index q2, vi x1] h (wq P d sw_c4 sw_h4 5 [.index q2, vi x1, vi x2, t3] [] kc ks Q)) (e_q2 : r0 = .index q2 := by first | rfl | assumption) (y1 : s_ty r0 = 3 := by first | rfl | assumption)  : wr P d sw_c4 sw_h4 (0, [r0, vi x1, vi x2, t3], [], h, kc, ks) Q := by
  refine w_ld rfl rfl (Or.inr (Or.inr ⟨by decide, y1⟩)) ?_
  refine w_ld rfl rfl (Or.inl ⟨by decide, rfl⟩) ?_
  subst e_q2
  exact w_cv rfl [.index q2, vi x1] [] rfl rfl (s_wt_4 rfl) rfl g4 k

theorem k4_5 {P : s_P} {d : Nat} {Q : s_O → Prop} {h : s_H} {kc ks : Nat} {r0 : Term} {x1 x2 : Int} {t3 s0 : Term}  (k : wm P d 55 [s0] h (wq P d sw_c4 sw_h4 10 [r0, vi x1, vi x2, s0] [] kc ks Q)) (y1 : s_ty s0 = 3 := by first | rfl | assumption)  : wr P d sw_c4 sw_h4 (5, [r0, vi x1, vi x2, t3], [s0], h, kc, ks) Q := by
  refine w_st (ls' := [r0, vi x1, vi x2, s0]) rfl (Or.inr ⟨by decide, y1⟩) rfl ?_
  refine w_ld rfl rfl (Or.inr (Or.inr ⟨by decide, y1⟩)) ?_
  exact w_cs rfl [s0] [] rfl rfl (s_wt_4 rfl) k

theorem k4_10 {P : s_P} {d : Nat} {Q : s_O → Prop} {h : s_H} {kc ks : Nat} {r0 : Term} {x1 x2 : Int} {r3 : Term}  (k : wm P d 59 [vi x2] h (wq P d sw_c4 sw_h4 14 [r0, vi x1, vi x2, r3] [] kc ks Q))   : wr P d sw_c4 sw_h4 (10, [r0, vi x1, vi x2, r3], [], h, kc, ks) Q := by
  refine w_ld rfl rfl (Or.inl ⟨by decide, rfl⟩) ?_
  exact w_cs rfl [vi x2] [] rfl rfl (s_wt_4 rfl) k

theorem k4_14 {P : s_P} {d : Nat} {Q : s_O → Prop} {h : s_H} {kc ks : Nat} {r0 : Term} {x1 x2 : Int} {r3 : Term} {q2 : Nat} {f3 : List Term} {v5 : Term} {q8 : Nat} {f9 : List Term} (g4 : s_get h q2 = some (1, 10, f3)) (g10 : s_get h q8 = some (1, 6, f9)) (k : wm P d 221 [.index q8, r3, vi x2] h (wq P d sw_c4 sw_h4 23 [.index q2, vi x1, vi x2, r3] [] kc ks Q)) (e_q2 : r0 = .index q2 := by first | rfl | assumption) (e_q8 : v5 = .index q8 := by first | rfl | assumption) (y1 : s_ty r0 = 3 := by first | rfl | assumption) (n6 : s_nth f3 11 = some v5 := by first | rfl | assumption) (y7 : s_ty r3 = 3 := by first | rfl | assumption)  : wr P d sw_c4 sw_h4 (14, [r0, vi x1, vi x2, r3], [], h, kc, ks) Q := by
  refine w_ld rfl rfl (Or.inr (Or.inr ⟨by decide, y1⟩)) ?_
  subst e_q2
  refine w_getf rfl g4 n6 ?_
  refine w_ld rfl rfl (Or.inr (Or.inr ⟨by decide, y7⟩)) ?_
  refine w_ld rfl rfl (Or.inl ⟨by decide, rfl⟩) ?_
  subst e_q8
  exact w_cv rfl [.index q8, r3, vi x2] [] rfl rfl (s_wt_4 rfl) rfl g10 k

theorem k4_23 {P : s_P} {d : Nat} {Q : s_O → Prop} {h : s_H} {kc ks : Nat} {r0 : Term} {x1 x2 : Int} {r3 : Term} {s0 : Int}  (k : Q (.inl (some (vi s0)), h, kc, ks))   : wr P d sw_c4 sw_h4 (23, [r0, vi x1, vi x2, r3], [vi s0], h, kc, ks) Q := by
  exact w_iret rfl k

/-! 5: FormulaWorks.at(III)I -/
theorem k5_0 {P : s_P} {d : Nat} {Q : s_O → Prop} {h : s_H} {kc ks : Nat} {r0 : Term} {x1 x2 x3 : Int} {t4 : Term} {q2 : Nat} {f3 : List Term} (g4 : s_get h q2 = some (1, 10, f3)) (k : wm P d 93 [.index q2, vi x1] h (wq P d sw_c5 sw_h5 5 [.index q2, vi x1, vi x2, vi x3, t4] [] kc ks Q)) (e_q2 : r0 = .index q2 := by first | rfl | assumption) (y1 : s_ty r0 = 3 := by first | rfl | assumption)  : wr P d sw_c5 sw_h5 (0, [r0, vi x1, vi x2, vi x3, t4], [], h, kc, ks) Q := by
  refine w_ld rfl rfl (Or.inr (Or.inr ⟨by decide, y1⟩)) ?_
  refine w_ld rfl rfl (Or.inl ⟨by decide, rfl⟩) ?_
  subst e_q2
  exact w_cv rfl [.index q2, vi x1] [] rfl rfl (s_wt_4 rfl) rfl g4 k

theorem k5_5 {P : s_P} {d : Nat} {Q : s_O → Prop} {h : s_H} {kc ks : Nat} {r0 : Term} {x1 x2 x3 : Int} {t4 s0 : Term}  (k : wm P d 59 [vi x2] h (wq P d sw_c5 sw_h5 11 [r0, vi x1, vi x2, vi x3, s0] [] kc ks Q)) (y1 : s_ty s0 = 3 := by first | rfl | assumption)  : wr P d sw_c5 sw_h5 (5, [r0, vi x1, vi x2, vi x3, t4], [s0], h, kc, ks) Q := by
  refine w_st (ls' := [r0, vi x1, vi x2, vi x3, s0]) rfl (Or.inr ⟨by decide, y1⟩) rfl ?_
  refine w_ld rfl rfl (Or.inl ⟨by decide, rfl⟩) ?_
  exact w_cs rfl [vi x2] [] rfl rfl (s_wt_4 rfl) k

theorem k5_11 {P : s_P} {d : Nat} {Q : s_O → Prop} {h : s_H} {kc ks : Nat} {r0 : Term} {x1 x2 x3 : Int} {r4 : Term} {q2 : Nat} {f3 : List Term} {z5 : Int} (g4 : s_get h q2 = some (1, 8, f3)) (k1 : z5 ≠ 0 → wr P d sw_c5 sw_h5 (41, [r0, vi x1, vi x2, vi x3, .index q2], [], h, kc, ks) Q) (k2 : ¬ z5 ≠ 0 → wr P d sw_c5 sw_h5 (19, [r0, vi x1, vi x2, vi x3, .index q2], [], h, kc, ks) Q) (e_q2 : r4 = .index q2 := by first | rfl | assumption) (y1 : s_ty r4 = 3 := by first | rfl | assumption) (n6 : s_nth f3 0 = some (vi z5) := by first | rfl | assumption) (c7 : In3 z5 := by first | omega | assumption | (simp only [mk_len, List.length_map]; omega) | decide) : wr P d sw_c5 sw_h5 (11, [r0, vi x1, vi x2, vi x3, r4], [], h, kc, ks) Q := by
  refine w_ld rfl rfl (Or.inr (Or.inr ⟨by decide, y1⟩)) ?_
  subst e_q2
  refine w_getf rfl g4 n6 ?_
  exact w_if1 rfl c7 k1 k2

theorem k5_19 {P : s_P} {d : Nat} {Q : s_O → Prop} {h : s_H} {kc ks : Nat} {r0 : Term} {x1 x2 x3 : Int} {r4 : Term}  (k1 : x2 ≠ 0 → wr P d sw_c5 sw_h5 (31, [r0, vi x1, vi x2, vi x3, r4], [], h, kc, ks) Q) (k2 : ¬ x2 ≠ 0 → wr P d sw_c5 sw_h5 (23, [r0, vi x1, vi x2, vi x3, r4], [], h, kc, ks) Q)  (c1 : In3 x2 := by first | omega | assumption | (simp only [mk_len, List.length_map]; omega) | decide) : wr P d sw_c5 sw_h5 (19, [r0, vi x1, vi x2, vi x3, r4], [], h, kc, ks) Q := by
  refine w_ld rfl rfl (Or.inl ⟨by decide, rfl⟩) ?_
  exact w_if1 rfl c1 k1 k2

theorem k5_23 {P : s_P} {d : Nat} {Q : s_O → Prop} {h : s_H} {kc ks : Nat} {r0 : Term} {x1 x2 x3 : Int} {r4 : Term} {q2 : Nat} {f3 : List Term} {v5 : Term} (g4 : s_get h q2 = some (1, 8, f3)) (k : wr P d sw_c5 sw_h5 (36, [r0, vi x1, vi x2, vi x3, .index q2], [v5], h, kc, ks) Q) (e_q2 : r4 = .index q2 := by first | rfl | assumption) (y1 : s_ty r4 = 3 := by first | rfl | assumption) (n6 : s_nth f3 1 = some v5 := by first | rfl | assumption)  : wr P d sw_c5 sw_h5 (23, [r0, vi x1, vi x2, vi x3, r4], [], h, kc, ks) Q := by
  refine w_ld rfl rfl (Or.inr (Or.inr ⟨by decide, y1⟩)) ?_
  subst e_q2
  refine w_getf rfl g4 n6 ?_
  refine w_goto rfl ?_
  exact k

theorem k5_31 {P : s_P} {d : Nat} {Q : s_O → Prop} {h : s_H} {kc ks : Nat} {r0 : Term} {x1 x2 x3 : Int} {r4 : Term} {q2 : Nat} {f3 : List Term} {v5 : Term} (g4 : s_get h q2 = some (1, 8, f3)) (k : wr P d sw_c5 sw_h5 (36, [r0, vi x1, vi x2, vi x3, .index q2], [v5], h, kc, ks) Q) (e_q2 : r4 = .index q2 := by first | rfl | assumption) (y1 : s_ty r4 = 3 := by first | rfl | assumption) (n6 : s_nth f3 2 = some v5 := by first | rfl | assumption)  : wr P d sw_c5 sw_h5 (31, [r0, vi x1, vi x2, vi x3, r4], [], h, kc, ks) Q := by
  refine w_ld rfl rfl (Or.inr (Or.inr ⟨by decide, y1⟩)) ?_
  subst e_q2
  refine w_getf rfl g4 n6 ?_
  exact k

theorem k5_36 {P : s_P} {d : Nat} {Q : s_O → Prop} {h : s_H} {kc ks : Nat} {r0 : Term} {x1 x2 x3 : Int} {r4 s0 : Term} {q1 : Nat} {f2 : List Term} (g3 : s_get h q1 = some (1, 4, f2)) (k : wm P d 167 [.index q1, vi x3] h (wq P d sw_c5 sw_h5 40 [r0, vi x1, vi x2, vi x3, r4] [] kc ks Q)) (e_q1 : s0 = .index q1 := by first | rfl | assumption)  : wr P d sw_c5 sw_h5 (36, [r0, vi x1, vi x2, vi x3, r4], [s0], h, kc, ks) Q := by
  refine w_ld rfl rfl (Or.inl ⟨by decide, rfl⟩) ?_
  subst e_q1
  exact w_cv rfl [.index q1, vi x3] [] rfl rfl (s_wt_4 rfl) rfl g3 k

theorem k5_40 {P : s_P} {d : Nat} {Q : s_O → Prop} {h : s_H} {kc ks : Nat} {r0 : Term} {x1 x2 x3 : Int} {r4 : Term} {s0 : Int}  (k : Q (.inl (some (vi s0)), h, kc, ks))   : wr P d sw_c5 sw_h5 (40, [r0, vi x1, vi x2, vi x3, r4], [vi s0], h, kc, ks) Q := by
  exact w_iret rfl k

theorem k5_41 {P : s_P} {d : Nat} {Q : s_O → Prop} {h : s_H} {kc ks : Nat} {r0 : Term} {x1 x2 x3 : Int} {r4 : Term}  (k : wm P d 52 [r4, vi 1] h (wq P d sw_c5 sw_h5 47 [r0, vi x1, vi x2, vi x3, r4] [] kc ks Q)) (y1 : s_ty r4 = 3 := by first | rfl | assumption)  : wr P d sw_c5 sw_h5 (41, [r0, vi x1, vi x2, vi x3, r4], [], h, kc, ks) Q := by
  refine w_ld rfl rfl (Or.inr (Or.inr ⟨by decide, y1⟩)) ?_
  refine w_c32 rfl (by decide) 1 (by decide) ?_
  exact w_cs rfl [r4, vi 1] [] rfl rfl (s_wt_4 rfl) k

theorem k5_47 {P : s_P} {d : Nat} {Q : s_O → Prop} {h : s_H} {kc ks : Nat} {r0 : Term} {x1 x2 x3 : Int} {r4 : Term}  (k1 : x3 < 0 → wr P d sw_c5 sw_h5 (61, [r0, vi x1, vi x2, vi x3, r4], [], h, kc, ks) Q) (k2 : ¬ x3 < 0 → wr P d sw_c5 sw_h5 (51, [r0, vi x1, vi x2, vi x3, r4], [], h, kc, ks) Q)  (c1 : In3 x3 := by first | omega | assumption | (simp only [mk_len, List.length_map]; omega) | decide) : wr P d sw_c5 sw_h5 (47, [r0, vi x1, vi x2, vi x3, r4], [], h, kc, ks) Q := by
  refine w_ld rfl rfl (Or.inl ⟨by decide, rfl⟩) ?_
  exact w_if1 rfl c1 k1 k2

theorem k5_51 {P : s_P} {d : Nat} {Q : s_O → Prop} {h : s_H} {kc ks : Nat} {r0 : Term} {x1 x2 x3 : Int} {r4 : Term} {q2 : Nat} {f3 : List Term} {v5 : Term} {q7 : Nat} {a8 : List Term} {tg10 : Nat} (g4 : s_get h q2 = some (1, 8, f3)) (g9 : s_get h q7 = some (0, tg10, a8)) (k1 : x3 < (a8.length : Int) → wr P d sw_c5 sw_h5 (65, [r0, vi x1, vi x2, vi x3, .index q2], [], h, kc, ks) Q) (k2 : ¬ x3 < (a8.length : Int) → wr P d sw_c5 sw_h5 (61, [r0, vi x1, vi x2, vi x3, .index q2], [], h, kc, ks) Q) (e_q2 : r4 = .index q2 := by first | rfl | assumption) (e_q7 : v5 = .index q7 := by first | rfl | assumption) (y1 : s_ty r4 = 3 := by first | rfl | assumption) (n6 : s_nth f3 6 = some v5 := by first | rfl | assumption) (c11 : In3 x3 := by first | omega | assumption | (simp only [mk_len, List.length_map]; omega) | decide) (c12 : In3 (a8.length : Int) := by first | omega | assumption | (simp only [mk_len, List.length_map]; omega) | decide) : wr P d sw_c5 sw_h5 (51, [r0, vi x1, vi x2, vi x3, r4], [], h, kc, ks) Q := by
  refine w_ld rfl rfl (Or.inl ⟨by decide, rfl⟩) ?_
  refine w_ld rfl rfl (Or.inr (Or.inr ⟨by decide, y1⟩)) ?_
  subst e_q2
  refine w_getf rfl g4 n6 ?_
  subst e_q7
  refine w_alen rfl g9 (Or.inl rfl) ?_
  exact w_if2 rfl c11 c12 k1 k2

theorem k5_61 {P : s_P} {d : Nat} {Q : s_O → Prop} {h : s_H} {kc ks : Nat} {r0 : Term} {x1 x2 x3 : Int} {r4 : Term}  (k : wr P d sw_c5 sw_h5 (72, [r0, vi x1, vi x2, vi x3, r4], [vi 0], h, kc, ks) Q)   : wr P d sw_c5 sw_h5 (61, [r0, vi x1, vi x2, vi x3, r4], [], h, kc, ks) Q := by
  refine w_c32 rfl (by decide) 0 (by decide) ?_
  refine w_goto rfl ?_
  exact k

theorem k5_65 {P : s_P} {d : Nat} {Q : s_O → Prop} {h : s_H} {kc ks : Nat} {r0 : Term} {x1 x2 x3 : Int} {r4 : Term} {q2 : Nat} {f3 : List Term} {v5 : Term} {q7 : Nat} {a8 : List Int} (g4 : s_get h q2 = some (1, 8, f3)) (g9 : s_get h q7 = some (0, 0, a8.map vi)) (k : wr P d sw_c5 sw_h5 (72, [r0, vi x1, vi x2, vi x3, .index q2], [vi (gi a8 x3)], h, kc, ks) Q) (e_q2 : r4 = .index q2 := by first | rfl | assumption) (e_q7 : v5 = .index q7 := by first | rfl | assumption) (y1 : s_ty r4 = 3 := by first | rfl | assumption) (n6 : s_nth f3 6 = some v5 := by first | rfl | assumption) (c10 : x3 < a8.length := by first | omega | assumption | (simp only [mk_len, List.length_map]; omega) | decide) (c11 : 0 ≤ x3 := by first | omega | assumption | (simp only [mk_len, List.length_map]; omega) | decide) (c12 : In3 x3 := by first | omega | assumption | (simp only [mk_len, List.length_map]; omega) | decide) : wr P d sw_c5 sw_h5 (65, [r0, vi x1, vi x2, vi x3, r4], [], h, kc, ks) Q := by
  refine w_ld rfl rfl (Or.inr (Or.inr ⟨by decide, y1⟩)) ?_
  subst e_q2
  refine w_getf rfl g4 n6 ?_
  refine w_ld rfl rfl (Or.inl ⟨by decide, rfl⟩) ?_
  subst e_q7
  refine w_iald rfl g9 (Or.inl rfl) c12 c11 c10 ?_
  exact k

theorem k5_72 {P : s_P} {d : Nat} {Q : s_O → Prop} {h : s_H} {kc ks : Nat} {r0 : Term} {x1 x2 x3 : Int} {r4 : Term} {s0 : Int}  (k : Q (.inl (some (vi s0)), h, kc, ks))   : wr P d sw_c5 sw_h5 (72, [r0, vi x1, vi x2, vi x3, r4], [vi s0], h, kc, ks) Q := by
  exact w_iret rfl k

/-! 6: FormulaWorks.cell(II)I -/
theorem k6_0 {P : s_P} {d : Nat} {Q : s_O → Prop} {h : s_H} {kc ks : Nat} {r0 : Term} {x1 x2 : Int}  (k : wm P d 51 [vi x1, vi 16] h (wq P d sw_c6 sw_h6 6 [r0, vi x1, vi x2] [] kc ks Q))   : wr P d sw_c6 sw_h6 (0, [r0, vi x1, vi x2], [], h, kc, ks) Q := by
  refine w_ld rfl rfl (Or.inl ⟨by decide, rfl⟩) ?_
  refine w_c32 rfl (by decide) 16 (by decide) ?_
  exact w_cs rfl [vi x1, vi 16] [] rfl rfl (s_wt_4 rfl) k

theorem k6_6 {P : s_P} {d : Nat} {Q : s_O → Prop} {h : s_H} {kc ks : Nat} {r0 : Term} {x1 x2 : Int}  (k1 : x2 < 0 → wr P d sw_c6 sw_h6 (15, [r0, vi x1, vi x2], [], h, kc, ks) Q) (k2 : ¬ x2 < 0 → wr P d sw_c6 sw_h6 (10, [r0, vi x1, vi x2], [], h, kc, ks) Q)  (c1 : In3 x2 := by first | omega | assumption | (simp only [mk_len, List.length_map]; omega) | decide) : wr P d sw_c6 sw_h6 (6, [r0, vi x1, vi x2], [], h, kc, ks) Q := by
  refine w_ld rfl rfl (Or.inl ⟨by decide, rfl⟩) ?_
  exact w_if1 rfl c1 k1 k2

theorem k6_10 {P : s_P} {d : Nat} {Q : s_O → Prop} {h : s_H} {kc ks : Nat} {r0 : Term} {x1 x2 : Int}  (k1 : x2 ≤ 3 → wr P d sw_c6 sw_h6 (23, [r0, vi x1, vi x2], [], h, kc, ks) Q) (k2 : ¬ x2 ≤ 3 → wr P d sw_c6 sw_h6 (15, [r0, vi x1, vi x2], [], h, kc, ks) Q)  (c1 : In3 x2 := by first | omega | assumption | (simp only [mk_len, List.length_map]; omega) | decide) : wr P d sw_c6 sw_h6 (10, [r0, vi x1, vi x2], [], h, kc, ks) Q := by
  refine w_ld rfl rfl (Or.inl ⟨by decide, rfl⟩) ?_
  refine w_c32 rfl (by decide) 3 (by decide) ?_
  exact w_if2 rfl c1 (by decide) k1 k2

theorem k6_15 {P : s_P} {d : Nat} {Q : s_O → Prop} {h : s_H} {kc ks : Nat} {r0 : Term} {x1 x2 : Int}  (k : Q (.inr 1, h, kc + 1, ks + 6))   : wr P d sw_c6 sw_h6 (15, [r0, vi x1, vi x2], [], h, kc, ks) Q := by
  exact w_throw rfl (s_wt_4 rfl) k

theorem k6_23 {P : s_P} {d : Nat} {Q : s_O → Prop} {h : s_H} {kc ks : Nat} {r0 : Term} {x1 x2 : Int}  (k1 : x2 ≠ 3 → wr P d sw_c6 sw_h6 (41, [r0, vi x1, vi x2], [], h, kc, ks) Q) (k2 : ¬ x2 ≠ 3 → wr P d sw_c6 sw_h6 (28, [r0, vi x1, vi x2], [], h, kc, ks) Q)  (c1 : In3 x2 := by first | omega | assumption | (simp only [mk_len, List.length_map]; omega) | decide) : wr P d sw_c6 sw_h6 (23, [r0, vi x1, vi x2], [], h, kc, ks) Q := by
  refine w_ld rfl rfl (Or.inl ⟨by decide, rfl⟩) ?_
  refine w_c32 rfl (by decide) 3 (by decide) ?_
  exact w_if2 rfl c1 (by decide) k1 k2

theorem k6_28 {P : s_P} {d : Nat} {Q : s_O → Prop} {h : s_H} {kc ks : Nat} {r0 : Term} {x1 x2 : Int} {q2 : Nat} {f3 : List Term} {v5 : Term} {q7 : Nat} {f8 : List Term} {v10 : Term} {q12 : Nat} {a13 : List Int} (g4 : s_get h q2 = some (1, 10, f3)) (g9 : s_get h q7 = some (1, 7, f8)) (g14 : s_get h q12 = some (0, 0, a13.map vi)) (k : wm P d 622 [vi (gi a13 x1)] h (wq P d sw_c6 sw_h6 40 [.index q2, vi x1, vi x2] [] kc ks Q)) (e_q2 : r0 = .index q2 := by first | rfl | assumption) (e_q7 : v5 = .index q7 := by first | rfl | assumption) (e_q12 : v10 = .index q12 := by first | rfl | assumption) (y1 : s_ty r0 = 3 := by first | rfl | assumption) (n6 : s_nth f3 14 = some v5 := by first | rfl | assumption) (n11 : s_nth f8 4 = some v10 := by first | rfl | assumption) (c15 : x1 < a13.length := by first | omega | assumption | (simp only [mk_len, List.length_map]; omega) | decide) (c16 : 0 ≤ x1 := by first | omega | assumption | (simp only [mk_len, List.length_map]; omega) | decide) (c17 : In3 x1 := by first | omega | assumption | (simp only [mk_len, List.length_map]; omega) | decide) : wr P d sw_c6 sw_h6 (28, [r0, vi x1, vi x2], [], h, kc, ks) Q := by
  refine w_ld rfl rfl (Or.inr (Or.inr ⟨by decide, y1⟩)) ?_
  subst e_q2
  refine w_getf rfl g4 n6 ?_
  subst e_q7
  refine w_getf rfl g9 n11 ?_
  refine w_ld rfl rfl (Or.inl ⟨by decide, rfl⟩) ?_
  subst e_q12
  refine w_iald rfl g14 (Or.inl rfl) c17 c16 c15 ?_
  exact w_cs rfl [vi (gi a13 x1)] [] rfl rfl (s_wt_4 rfl) k

theorem k6_40 {P : s_P} {d : Nat} {Q : s_O → Prop} {h : s_H} {kc ks : Nat} {r0 : Term} {x1 x2 s0 : Int}  (k : Q (.inl (some (vi s0)), h, kc, ks))   : wr P d sw_c6 sw_h6 (40, [r0, vi x1, vi x2], [vi s0], h, kc, ks) Q := by
  exact w_iret rfl k

theorem k6_41 {P : s_P} {d : Nat} {Q : s_O → Prop} {h : s_H} {kc ks : Nat} {r0 : Term} {x1 x2 : Int} {q2 : Nat} {f3 : List Term} {v5 : Term} {q7 : Nat} {f8 : List Term} (g4 : s_get h q2 = some (1, 10, f3)) (g9 : s_get h q7 = some (1, 7, f8)) (k : wm P d 250 [.index q7, vi x1] h (wq P d sw_c6 sw_h6 49 [.index q2, vi x1, vi x2] [] kc ks Q)) (e_q2 : r0 = .index q2 := by first | rfl | assumption) (e_q7 : v5 = .index q7 := by first | rfl | assumption) (y1 : s_ty r0 = 3 := by first | rfl | assumption) (n6 : s_nth f3 14 = some v5 := by first | rfl | assumption)  : wr P d sw_c6 sw_h6 (41, [r0, vi x1, vi x2], [], h, kc, ks) Q := by
  refine w_ld rfl rfl (Or.inr (Or.inr ⟨by decide, y1⟩)) ?_
  subst e_q2
  refine w_getf rfl g4 n6 ?_
  refine w_ld rfl rfl (Or.inl ⟨by decide, rfl⟩) ?_
  subst e_q7
  exact w_cv rfl [.index q7, vi x1] [] rfl rfl (s_wt_4 rfl) rfl g9 k

theorem k6_49 {P : s_P} {d : Nat} {Q : s_O → Prop} {h : s_H} {kc ks : Nat} {r0 : Term} {x1 x2 : Int}  (k1 : x2 ≠ 0 → wr P d sw_c6 sw_h6 (62, [r0, vi x1, vi x2], [], h, kc, ks) Q) (k2 : ¬ x2 ≠ 0 → wr P d sw_c6 sw_h6 (53, [r0, vi x1, vi x2], [], h, kc, ks) Q)  (c1 : In3 x2 := by first | omega | assumption | (simp only [mk_len, List.length_map]; omega) | decide) : wr P d sw_c6 sw_h6 (49, [r0, vi x1, vi x2], [], h, kc, ks) Q := by
  refine w_ld rfl rfl (Or.inl ⟨by decide, rfl⟩) ?_
  exact w_if1 rfl c1 k1 k2

theorem k6_53 {P : s_P} {d : Nat} {Q : s_O → Prop} {h : s_H} {kc ks : Nat} {r0 : Term} {x1 x2 : Int} {q2 : Nat} {f3 : List Term} {v5 : Term} {q7 : Nat} {f8 : List Term} (g4 : s_get h q2 = some (1, 10, f3)) (g9 : s_get h q7 = some (1, 7, f8)) (k : wm P d 260 [.index q7, vi x1] h (wq P d sw_c6 sw_h6 61 [.index q2, vi x1, vi x2] [] kc ks Q)) (e_q2 : r0 = .index q2 := by first | rfl | assumption) (e_q7 : v5 = .index q7 := by first | rfl | assumption) (y1 : s_ty r0 = 3 := by first | rfl | assumption) (n6 : s_nth f3 14 = some v5 := by first | rfl | assumption)  : wr P d sw_c6 sw_h6 (53, [r0, vi x1, vi x2], [], h, kc, ks) Q := by
  refine w_ld rfl rfl (Or.inr (Or.inr ⟨by decide, y1⟩)) ?_
  subst e_q2
  refine w_getf rfl g4 n6 ?_
  refine w_ld rfl rfl (Or.inl ⟨by decide, rfl⟩) ?_
  subst e_q7
  exact w_cv rfl [.index q7, vi x1] [] rfl rfl (s_wt_4 rfl) rfl g9 k

theorem k6_61 {P : s_P} {d : Nat} {Q : s_O → Prop} {h : s_H} {kc ks : Nat} {r0 : Term} {x1 x2 s0 : Int}  (k : Q (.inl (some (vi s0)), h, kc, ks))   : wr P d sw_c6 sw_h6 (61, [r0, vi x1, vi x2], [vi s0], h, kc, ks) Q := by
  exact w_iret rfl k

theorem k6_62 {P : s_P} {d : Nat} {Q : s_O → Prop} {h : s_H} {kc ks : Nat} {r0 : Term} {x1 x2 : Int}  (k1 : x2 ≠ 1 → wr P d sw_c6 sw_h6 (78, [r0, vi x1, vi x2], [], h, kc, ks) Q) (k2 : ¬ x2 ≠ 1 → wr P d sw_c6 sw_h6 (67, [r0, vi x1, vi x2], [], h, kc, ks) Q)  (c1 : In3 x2 := by first | omega | assumption | (simp only [mk_len, List.length_map]; omega) | decide) : wr P d sw_c6 sw_h6 (62, [r0, vi x1, vi x2], [], h, kc, ks) Q := by
  refine w_ld rfl rfl (Or.inl ⟨by decide, rfl⟩) ?_
  refine w_c32 rfl (by decide) 1 (by decide) ?_
  exact w_if2 rfl c1 (by decide) k1 k2

theorem k6_67 {P : s_P} {d : Nat} {Q : s_O → Prop} {h : s_H} {kc ks : Nat} {r0 : Term} {x1 x2 : Int} {q2 : Nat} {f3 : List Term} {v5 : Term} {q7 : Nat} {f8 : List Term} (g4 : s_get h q2 = some (1, 10, f3)) (g9 : s_get h q7 = some (1, 7, f8)) (k : wm P d 253 [.index q7, vi x1] h (wq P d sw_c6 sw_h6 75 [.index q2, vi x1, vi x2] [] kc ks Q)) (e_q2 : r0 = .index q2 := by first | rfl | assumption) (e_q7 : v5 = .index q7 := by first | rfl | assumption) (y1 : s_ty r0 = 3 := by first | rfl | assumption) (n6 : s_nth f3 14 = some v5 := by first | rfl | assumption)  : wr P d sw_c6 sw_h6 (67, [r0, vi x1, vi x2], [], h, kc, ks) Q := by
  refine w_ld rfl rfl (Or.inr (Or.inr ⟨by decide, y1⟩)) ?_
  subst e_q2
  refine w_getf rfl g4 n6 ?_
  refine w_ld rfl rfl (Or.inl ⟨by decide, rfl⟩) ?_
  subst e_q7
  exact w_cv rfl [.index q7, vi x1] [] rfl rfl (s_wt_4 rfl) rfl g9 k

theorem k6_75 {P : s_P} {d : Nat} {Q : s_O → Prop} {h : s_H} {kc ks : Nat} {r0 : Term} {x1 x2 s0 : Int}  (k : wr P d sw_c6 sw_h6 (86, [r0, vi x1, vi x2], [vi s0], h, kc, ks) Q)   : wr P d sw_c6 sw_h6 (75, [r0, vi x1, vi x2], [vi s0], h, kc, ks) Q := by
  refine w_goto rfl ?_
  exact k

theorem k6_78 {P : s_P} {d : Nat} {Q : s_O → Prop} {h : s_H} {kc ks : Nat} {r0 : Term} {x1 x2 : Int} {q2 : Nat} {f3 : List Term} {v5 : Term} {q7 : Nat} {f8 : List Term} (g4 : s_get h q2 = some (1, 10, f3)) (g9 : s_get h q7 = some (1, 7, f8)) (k : wm P d 259 [.index q7, vi x1] h (wq P d sw_c6 sw_h6 86 [.index q2, vi x1, vi x2] [] kc ks Q)) (e_q2 : r0 = .index q2 := by first | rfl | assumption) (e_q7 : v5 = .index q7 := by first | rfl | assumption) (y1 : s_ty r0 = 3 := by first | rfl | assumption) (n6 : s_nth f3 14 = some v5 := by first | rfl | assumption)  : wr P d sw_c6 sw_h6 (78, [r0, vi x1, vi x2], [], h, kc, ks) Q := by
  refine w_ld rfl rfl (Or.inr (Or.inr ⟨by decide, y1⟩)) ?_
  subst e_q2
  refine w_getf rfl g4 n6 ?_
  refine w_ld rfl rfl (Or.inl ⟨by decide, rfl⟩) ?_
  subst e_q7
  exact w_cv rfl [.index q7, vi x1] [] rfl rfl (s_wt_4 rfl) rfl g9 k

theorem k6_86 {P : s_P} {d : Nat} {Q : s_O → Prop} {h : s_H} {kc ks : Nat} {r0 : Term} {x1 x2 s0 : Int}  (k : Q (.inl (some (vi s0)), h, kc, ks))   : wr P d sw_c6 sw_h6 (86, [r0, vi x1, vi x2], [vi s0], h, kc, ks) Q := by
  exact w_iret rfl k

/-! 7: FormulaWorks.change(III)I -/
theorem k7_0 {P : s_P} {d : Nat} {Q : s_O → Prop} {h : s_H} {kc ks : Nat} {r0 : Term} {x1 x2 x3 : Int} {t4 : Term} {q2 : Nat} {f3 : List Term} (g4 : s_get h q2 = some (1, 10, f3)) (k : wm P d 64 [.index q2, vi x1, vi 3] h (wq P d sw_c7 sw_h7 6 [.index q2, vi x1, vi x2, vi x3, t4] [] kc ks Q)) (e_q2 : r0 = .index q2 := by first | rfl | assumption) (y1 : s_ty r0 = 3 := by first | rfl | assumption)  : wr P d sw_c7 sw_h7 (0, [r0, vi x1, vi x2, vi x3, t4], [], h, kc, ks) Q := by
  refine w_ld rfl rfl (Or.inr (Or.inr ⟨by decide, y1⟩)) ?_
  refine w_ld rfl rfl (Or.inl ⟨by decide, rfl⟩) ?_
  refine w_c32 rfl (by decide) 3 (by decide) ?_
  subst e_q2
  exact w_cv rfl [.index q2, vi x1, vi 3] [] rfl rfl (s_wt_4 rfl) rfl g4 k

theorem k7_6 {P : s_P} {d : Nat} {Q : s_O → Prop} {h : s_H} {kc ks : Nat} {r0 : Term} {x1 x2 x3 : Int} {t4 s0 : Term} {q2 : Nat} {f3 : List Term} {v5 : Term} {q7 : Nat} {a8 : List Term} {tg10 : Nat} (g4 : s_get h q2 = some (1, 8, f3)) (g9 : s_get h q7 = some (0, tg10, a8)) (k : wm P d 51 [vi x2, vi (a8.length : Int)] h (wq P d sw_c7 sw_h7 18 [r0, vi x1, vi x2, vi x3, .index q2] [] kc ks Q)) (e_q2 : s0 = .index q2 := by first | rfl | assumption) (e_q7 : v5 = .index q7 := by first | rfl | assumption) (y1 : s_ty s0 = 3 := by first | rfl | assumption) (n6 : s_nth f3 6 = some v5 := by first | rfl | assumption)  : wr P d sw_c7 sw_h7 (6, [r0, vi x1, vi x2, vi x3, t4], [s0], h, kc, ks) Q := by
  refine w_st (ls' := [r0, vi x1, vi x2, vi x3, s0]) rfl (Or.inr ⟨by decide, y1⟩) rfl ?_
  refine w_ld rfl rfl (Or.inl ⟨by decide, rfl⟩) ?_
  refine w_ld rfl rfl (Or.inr (Or.inr ⟨by decide, y1⟩)) ?_
  subst e_q2
  refine w_getf rfl g4 n6 ?_
  subst e_q7
  refine w_alen rfl g9 (Or.inl rfl) ?_
  exact w_cs rfl [vi x2, vi (a8.length : Int)] [] rfl rfl (s_wt_4 rfl) k

theorem k7_18 {P : s_P} {d : Nat} {Q : s_O → Prop} {h : s_H} {kc ks : Nat} {r0 : Term} {x1 x2 x3 : Int} {r4 : Term} {q2 : Nat} {f3 : List Term} {v5 : Term} {q8 : Nat} {f9 : List Term} {v11 : Term} {q13 : Nat} {f14 : List Term} (g4 : s_get h q2 = some (1, 10, f3)) (g10 : s_get h q8 = some (1, 8, f9)) (g15 : s_get h q13 = some (1, 9, f14)) (k : wm P d 303 [.index q13, v11] h (wq P d sw_c7 sw_h7 30 [.index q2, vi x1, vi x2, vi x3, .index q8] [] kc ks Q)) (e_q2 : r0 = .index q2 := by first | rfl | assumption) (e_q8 : r4 = .index q8 := by first | rfl | assumption) (e_q13 : v5 = .index q13 := by first | rfl | assumption) (y1 : s_ty r0 = 3 := by first | rfl | assumption) (n6 : s_nth f3 12 = some v5 := by first | rfl | assumption) (y7 : s_ty r4 = 3 := by first | rfl | assumption) (n12 : s_nth f9 6 = some v11 := by first | rfl | assumption)  : wr P d sw_c7 sw_h7 (18, [r0, vi x1, vi x2, vi x3, r4], [], h, kc, ks) Q := by
  refine w_ld rfl rfl (Or.inr (Or.inr ⟨by decide, y1⟩)) ?_
  subst e_q2
  refine w_getf rfl g4 n6 ?_
  refine w_ld rfl rfl (Or.inr (Or.inr ⟨by decide, y7⟩)) ?_
  subst e_q8
  refine w_getf rfl g10 n12 ?_
  subst e_q13
  exact w_cv rfl [.index q13, v11] [] rfl rfl (s_wt_4 rfl) rfl g15 k

theorem k7_42 {P : s_P} {d : Nat} {Q : s_O → Prop} {h : s_H} {kc ks : Nat} {r0 : Term} {x1 x2 x3 : Int} {r4 : Term}  (k : Q (.inr 1, h, kc + 1, ks + 6))   : wr P d sw_c7 sw_h7 (42, [r0, vi x1, vi x2, vi x3, r4], [], h, kc, ks) Q := by
  exact w_throw rfl (s_wt_4 rfl) k

theorem k7_50 {P : s_P} {d : Nat} {Q : s_O → Prop} {h : s_H} {kc ks : Nat} {r0 : Term} {x1 x2 x3 : Int} {r4 : Term} {q2 : Nat} {f3 : List Term} {v5 : Term} {q7 : Nat} {f8 : List Term} (g4 : s_get h q2 = some (1, 10, f3)) (g9 : s_get h q7 = some (1, 9, f8)) (k : wm P d 306 [.index q7, vi x2] h (wq P d sw_c7 sw_h7 58 [.index q2, vi x1, vi x2, vi x3, r4] [] kc ks Q)) (e_q2 : r0 = .index q2 := by first | rfl | assumption) (e_q7 : v5 = .index q7 := by first | rfl | assumption) (y1 : s_ty r0 = 3 := by first | rfl | assumption) (n6 : s_nth f3 12 = some v5 := by first | rfl | assumption)  : wr P d sw_c7 sw_h7 (50, [r0, vi x1, vi x2, vi x3, r4], [], h, kc, ks) Q := by
  refine w_ld rfl rfl (Or.inr (Or.inr ⟨by decide, y1⟩)) ?_
  subst e_q2
  refine w_getf rfl g4 n6 ?_
  refine w_ld rfl rfl (Or.inl ⟨by decide, rfl⟩) ?_
  subst e_q7
  exact w_cv rfl [.index q7, vi x2] [] rfl rfl (s_wt_4 rfl) rfl g9 k

theorem k7_62 {P : s_P} {d : Nat} {Q : s_O → Prop} {h : s_H} {kc ks : Nat} {r0 : Term} {x1 x2 x3 : Int} {r4 : Term} {s0 : Int}  (k : Q (.inl (some (vi s0)), h, kc, ks))   : wr P d sw_c7 sw_h7 (62, [r0, vi x1, vi x2, vi x3, r4], [vi s0], h, kc, ks) Q := by
  exact w_iret rfl k

/-! 8: FormulaWorks.claim()Z -/
theorem k8_0 {P : s_P} {d : Nat} {Q : s_O → Prop} {h : s_H} {kc ks : Nat} {r0 t1 t2 : Term} {q2 : Nat} {f3 : List Term} {v5 v7 : Term} {z9 z11 : Int} {q13 : Nat} {f14 : List Term} (g4 : s_get h q2 = some (1, 10, f3)) (g15 : s_get h q13 = some (1, 5, f14)) (k : wm P d 192 [.index q13, v7, vi z9, vi 7, vi z11] h (wq P d sw_c8 sw_h8 21 [.index q2, t1, t2] [] kc ks Q)) (e_q2 : r0 = .index q2 := by first | rfl | assumption) (e_q13 : v5 = .index q13 := by first | rfl | assumption) (y1 : s_ty r0 = 3 := by first | rfl | assumption) (n6 : s_nth f3 13 = some v5 := by first | rfl | assumption) (n8 : s_nth f3 2 = some v7 := by first | rfl | assumption) (n10 : s_nth f3 3 = some (vi z9) := by first | rfl | assumption) (n12 : s_nth f3 1 = some (vi z11) := by first | rfl | assumption)  : wr P d sw_c8 sw_h8 (0, [r0, t1, t2], [], h, kc, ks) Q := by
  refine w_ld rfl rfl (Or.inr (Or.inr ⟨by decide, y1⟩)) ?_
  subst e_q2
  refine w_getf rfl g4 n6 ?_
  refine w_ld rfl rfl (Or.inr (Or.inr ⟨by decide, rfl⟩)) ?_
  refine w_getf rfl g4 n8 ?_
  refine w_ld rfl rfl (Or.inr (Or.inr ⟨by decide, rfl⟩)) ?_
  refine w_getf rfl g4 n10 ?_
  refine w_c32 rfl (by decide) 7 (by decide) ?_
  refine w_ld rfl rfl (Or.inr (Or.inr ⟨by decide, rfl⟩)) ?_
  refine w_getf rfl g4 n12 ?_
  subst e_q13
  exact w_cv rfl [.index q13, v7, vi z9, vi 7, vi z11] [] rfl rfl (s_wt_4 rfl) rfl g15 k

theorem k8_21 {P : s_P} {d : Nat} {Q : s_O → Prop} {h : s_H} {kc ks : Nat} {r0 t1 t2 : Term} {q2 : Nat} {f3 : List Term} (g4 : s_get h q2 = some (1, 10, f3)) (k : wr P d sw_c8 sw_h8 (28, [.index q2, vi 0, t2], [], (hp h q2 (1, 10, f3.set 3 (vi 0))), kc, ks) Q) (e_q2 : r0 = .index q2 := by first | rfl | assumption) (y1 : s_ty r0 = 3 := by first | rfl | assumption) (l5 : 3 < f3.length := by first | exact Nat.le_of_ble_eq_true rfl | omega | assumption) (c6 : 0 < q2 := by first | omega | assumption | (simp only [mk_len, List.length_map]; omega) | decide) : wr P d sw_c8 sw_h8 (21, [r0, t1, t2], [], h, kc, ks) Q := by
  refine w_ld rfl rfl (Or.inr (Or.inr ⟨by decide, y1⟩)) ?_
  refine w_c32 rfl (by decide) 0 (by decide) ?_
  subst e_q2
  refine w_putf rfl g4 (Nat.ble_eq_true_of_le c6) rfl (Nat.ble_eq_true_of_le l5) ?_
  refine w_c32 rfl (by decide) 0 (by decide) ?_
  refine w_st (ls' := [.index q2, vi 0, t2]) rfl (Or.inl ⟨by decide, rfl⟩) rfl ?_
  exact k

theorem k8_28 {P : s_P} {d : Nat} {Q : s_O → Prop} {h : s_H} {kc ks : Nat} {r0 : Term} {x1 : Int} {t2 : Term}  (k1 : 200 < x1 → wr P d sw_c8 sw_h8 (79, [r0, vi x1, t2], [], h, kc, ks) Q) (k2 : ¬ 200 < x1 → wr P d sw_c8 sw_h8 (35, [r0, vi x1, t2], [], h, kc, ks) Q)  (c1 : In3 x1 := by first | omega | assumption | (simp only [mk_len, List.length_map]; omega) | decide) : wr P d sw_c8 sw_h8 (28, [r0, vi x1, t2], [], h, kc, ks) Q := by
  refine w_ld rfl rfl (Or.inl ⟨by decide, rfl⟩) ?_
  refine w_c32 rfl (by decide) 200 (by decide) ?_
  exact w_if2 rfl c1 (by decide) k1 k2

theorem k8_35 {P : s_P} {d : Nat} {Q : s_O → Prop} {h : s_H} {kc ks : Nat} {r0 : Term} {x1 : Int} {t2 : Term} {q2 : Nat} {f3 : List Term} {v5 : Term} {q7 : Nat} {f8 : List Term} (g4 : s_get h q2 = some (1, 10, f3)) (g9 : s_get h q7 = some (1, 5, f8)) (k : wm P d 207 [.index q7] h (wq P d sw_c8 sw_h8 42 [.index q2, vi x1, t2] [] kc ks Q)) (e_q2 : r0 = .index q2 := by first | rfl | assumption) (e_q7 : v5 = .index q7 := by first | rfl | assumption) (y1 : s_ty r0 = 3 := by first | rfl | assumption) (n6 : s_nth f3 13 = some v5 := by first | rfl | assumption)  : wr P d sw_c8 sw_h8 (35, [r0, vi x1, t2], [], h, kc, ks) Q := by
  refine w_ld rfl rfl (Or.inr (Or.inr ⟨by decide, y1⟩)) ?_
  subst e_q2
  refine w_getf rfl g4 n6 ?_
  subst e_q7
  exact w_cv rfl [.index q7] [] rfl rfl (s_wt_4 rfl) rfl g9 k

theorem k8_42 {P : s_P} {d : Nat} {Q : s_O → Prop} {h : s_H} {kc ks : Nat} {r0 : Term} {x1 : Int} {t2 : Term} {s0 : Int}  (k1 : 0 ≤ s0 → wr P d sw_c8 sw_h8 (50, [r0, vi x1, vi s0], [], h, kc, ks) Q) (k2 : ¬ 0 ≤ s0 → wr P d sw_c8 sw_h8 (47, [r0, vi x1, vi s0], [], h, kc, ks) Q)  (c1 : In3 s0 := by first | omega | assumption | (simp only [mk_len, List.length_map]; omega) | decide) : wr P d sw_c8 sw_h8 (42, [r0, vi x1, t2], [vi s0], h, kc, ks) Q := by
  refine w_st (ls' := [r0, vi x1, vi s0]) rfl (Or.inl ⟨by decide, rfl⟩) rfl ?_
  refine w_ld rfl rfl (Or.inl ⟨by decide, rfl⟩) ?_
  exact w_if1 rfl c1 k1 k2

theorem k8_47 {P : s_P} {d : Nat} {Q : s_O → Prop} {h : s_H} {kc ks : Nat} {r0 : Term} {x1 x2 : Int}  (k : wr P d sw_c8 sw_h8 (79, [r0, vi x1, vi x2], [], h, kc, ks) Q)   : wr P d sw_c8 sw_h8 (47, [r0, vi x1, vi x2], [], h, kc, ks) Q := by
  refine w_goto rfl ?_
  exact k

theorem k8_50 {P : s_P} {d : Nat} {Q : s_O → Prop} {h : s_H} {kc ks : Nat} {r0 : Term} {x1 x2 : Int} {q2 : Nat} {f3 : List Term} {v5 : Term} {q7 : Nat} {f8 : List Term} (g4 : s_get h q2 = some (1, 10, f3)) (g9 : s_get h q7 = some (1, 7, f8)) (k : wm P d 250 [.index q7, vi x2] h (wq P d sw_c8 sw_h8 58 [.index q2, vi x1, vi x2] [] kc ks Q)) (e_q2 : r0 = .index q2 := by first | rfl | assumption) (e_q7 : v5 = .index q7 := by first | rfl | assumption) (y1 : s_ty r0 = 3 := by first | rfl | assumption) (n6 : s_nth f3 14 = some v5 := by first | rfl | assumption)  : wr P d sw_c8 sw_h8 (50, [r0, vi x1, vi x2], [], h, kc, ks) Q := by
  refine w_ld rfl rfl (Or.inr (Or.inr ⟨by decide, y1⟩)) ?_
  subst e_q2
  refine w_getf rfl g4 n6 ?_
  refine w_ld rfl rfl (Or.inl ⟨by decide, rfl⟩) ?_
  subst e_q7
  exact w_cv rfl [.index q7, vi x2] [] rfl rfl (s_wt_4 rfl) rfl g9 k

theorem k8_58 {P : s_P} {d : Nat} {Q : s_O → Prop} {h : s_H} {kc ks : Nat} {r0 : Term} {x1 x2 : Int} {q2 : Nat} {f3 : List Term} {v5 v7 : Term} {q9 : Nat} {f10 : List Term} (g4 : s_get h q2 = some (1, 10, f3)) (g11 : s_get h q9 = some (1, 7, f10)) (k : wm P d 255 [.index q9, vi x2] h (wq P d sw_c8 sw_h8 70 [.index q2, vi x1, vi x2] [v5] kc ks Q)) (e_q2 : r0 = .index q2 := by first | rfl | assumption) (e_q9 : v7 = .index q9 := by first | rfl | assumption) (y1 : s_ty r0 = 3 := by first | rfl | assumption) (n6 : s_nth f3 13 = some v5 := by first | rfl | assumption) (n8 : s_nth f3 14 = some v7 := by first | rfl | assumption)  : wr P d sw_c8 sw_h8 (58, [r0, vi x1, vi x2], [], h, kc, ks) Q := by
  refine w_ld rfl rfl (Or.inr (Or.inr ⟨by decide, y1⟩)) ?_
  subst e_q2
  refine w_getf rfl g4 n6 ?_
  refine w_ld rfl rfl (Or.inr (Or.inr ⟨by decide, rfl⟩)) ?_
  refine w_getf rfl g4 n8 ?_
  refine w_ld rfl rfl (Or.inl ⟨by decide, rfl⟩) ?_
  subst e_q9
  exact w_cv rfl [.index q9, vi x2] [v5] rfl rfl (s_wt_4 rfl) rfl g11 k

theorem k8_70 {P : s_P} {d : Nat} {Q : s_O → Prop} {h : s_H} {kc ks : Nat} {r0 : Term} {x1 x2 : Int} {s0 s1 : Term} {q1 : Nat} {f2 : List Term} (g3 : s_get h q1 = some (1, 5, f2)) (k : wm P d 196 [.index q1, s1] h (wq P d sw_c8 sw_h8 73 [r0, vi x1, vi x2] [] kc ks Q)) (e_q1 : s0 = .index q1 := by first | rfl | assumption)  : wr P d sw_c8 sw_h8 (70, [r0, vi x1, vi x2], [s1, s0], h, kc, ks) Q := by
  subst e_q1
  exact w_cv rfl [.index q1, s1] [] rfl rfl (s_wt_4 rfl) rfl g3 k

theorem k8_73 {P : s_P} {d : Nat} {Q : s_O → Prop} {h : s_H} {kc ks : Nat} {r0 : Term} {x1 x2 : Int}  (k : wr P d sw_c8 sw_h8 (28, [r0, vi (x1 + 1), vi x2], [], h, kc, ks) Q) (y1 : s_ty r0 = 3 := by first | rfl | assumption)  : wr P d sw_c8 sw_h8 (73, [r0, vi x1, vi x2], [], h, kc, ks) Q := by
  refine w_iinc (ls' := [r0, vi (x1 + 1), vi x2]) rfl rfl 1 (by decide) (s_stK_r (pre := []) y1) ?_
  refine w_goto rfl ?_
  exact k

theorem k8_79 {P : s_P} {d : Nat} {Q : s_O → Prop} {h : s_H} {kc ks : Nat} {r0 : Term} {x1 : Int} {t2 : Term} {q2 : Nat} {f3 : List Term} (g4 : s_get h q2 = some (1, 10, f3)) (k : wm P d 91 [.index q2] h (wq P d sw_c8 sw_h8 83 [.index q2, vi x1, t2] [] kc ks Q)) (e_q2 : r0 = .index q2 := by first | rfl | assumption) (y1 : s_ty r0 = 3 := by first | rfl | assumption)  : wr P d sw_c8 sw_h8 (79, [r0, vi x1, t2], [], h, kc, ks) Q := by
  refine w_ld rfl rfl (Or.inr (Or.inr ⟨by decide, y1⟩)) ?_
  subst e_q2
  exact w_cv rfl [.index q2] [] rfl rfl (s_wt_4 rfl) rfl g4 k

theorem k8_83 {P : s_P} {d : Nat} {Q : s_O → Prop} {h : s_H} {kc ks : Nat} {r0 : Term} {x1 : Int} {t2 : Term} {q2 : Nat} {f3 : List Term} {v5 : Term} {q7 : Nat} {f8 : List Term} {v10 : Term} {q12 : Nat} {a13 : List Term} {tg15 : Nat} {v16 : Term} {a19 : List Term} {tg21 : Nat} {v22 : Term} {q25 : Nat} {f26 : List Term} (g4 : s_get h q2 = some (1, 10, f3)) (g9 : s_get h q7 = some (1, 5, f8)) (g14 : s_get h q12 = some (0, tg15, a13)) (g20 : s_get h q12 = some (0, tg21, a19)) (g27 : s_get h q25 = some (1, 8, f26)) (k : wm P d 268 [.index q25, v22] h (wq P d sw_c8 sw_h8 104 [.index q2, vi x1, t2] [] kc ks Q)) (e_q2 : r0 = .index q2 := by first | rfl | assumption) (e_q7 : v5 = .index q7 := by first | rfl | assumption) (e_q12 : v10 = .index q12 := by first | rfl | assumption) (e_q25 : v16 = .index q25 := by first | rfl | assumption) (y1 : s_ty r0 = 3 := by first | rfl | assumption) (n6 : s_nth f3 13 = some v5 := by first | rfl | assumption) (n11 : s_nth f8 3 = some v10 := by first | rfl | assumption) (n17 : s_nth a13 (Int.toNat (0)) = some v16 := by first | rfl | assumption) (u18 : tg15 = 2 ∨ tg15 = 3 ∨ tg15 = 4 := by first | decide | assumption) (n23 : s_nth a19 (Int.toNat (1)) = some v22 := by first | rfl | assumption) (u24 : tg21 = 2 ∨ tg21 = 3 ∨ tg21 = 4 := by first | decide | assumption)  : wr P d sw_c8 sw_h8 (83, [r0, vi x1, t2], [], h, kc, ks) Q := by
  refine w_ld rfl rfl (Or.inr (Or.inr ⟨by decide, y1⟩)) ?_
  subst e_q2
  refine w_getf rfl g4 n6 ?_
  subst e_q7
  refine w_getf rfl g9 n11 ?_
  refine w_c32 rfl (by decide) 0 (by decide) ?_
  subst e_q12
  refine w_aald rfl g14 u18 (by decide) (by decide) n17 ?_
  refine w_ld rfl rfl (Or.inr (Or.inr ⟨by decide, rfl⟩)) ?_
  refine w_getf rfl g4 n6 ?_
  refine w_getf rfl g9 n11 ?_
  refine w_c32 rfl (by decide) 1 (by decide) ?_
  refine w_aald rfl g20 u24 (by decide) (by decide) n23 ?_
  subst e_q25
  exact w_cv rfl [.index q25, v22] [] rfl rfl (s_wt_4 rfl) rfl g27 k

theorem k8_104 {P : s_P} {d : Nat} {Q : s_O → Prop} {h : s_H} {kc ks : Nat} {r0 : Term} {x1 : Int} {t2 : Term} {s0 : Int}  (k : Q (.inl (some (vi s0)), h, kc, ks))  (c1 : s0 = 0 ∨ s0 = 1 := by first | omega | assumption | (simp only [mk_len, List.length_map]; omega) | decide) : wr P d sw_c8 sw_h8 (104, [r0, vi x1, t2], [vi s0], h, kc, ks) Q := by
  exact w_zret rfl c1 k

/-! 9: FormulaWorks.clear()V -/
theorem k9_0 {P : s_P} {d : Nat} {Q : s_O → Prop} {h : s_H} {kc ks : Nat} {r0 t1 : Term}  (k : wr P d sw_c9 sw_h9 (2, [r0, vi 0], [], h, kc, ks) Q) (y1 : s_ty r0 = 3 := by first | rfl | assumption)  : wr P d sw_c9 sw_h9 (0, [r0, t1], [], h, kc, ks) Q := by
  refine w_c32 rfl (by decide) 0 (by decide) ?_
  refine w_st (ls' := [r0, vi 0]) rfl (Or.inl ⟨by decide, rfl⟩) (s_stK_r (pre := []) y1) ?_
  exact k

theorem k9_2 {P : s_P} {d : Nat} {Q : s_O → Prop} {h : s_H} {kc ks : Nat} {r0 : Term} {x1 : Int} {q2 : Nat} {f3 : List Term} {z5 : Int} (g4 : s_get h q2 = some (1, 10, f3)) (k1 : z5 ≤ x1 → wr P d sw_c9 sw_h9 (23, [.index q2, vi x1], [], h, kc, ks) Q) (k2 : ¬ z5 ≤ x1 → wr P d sw_c9 sw_h9 (10, [.index q2, vi x1], [], h, kc, ks) Q) (e_q2 : r0 = .index q2 := by first | rfl | assumption) (y1 : s_ty r0 = 3 := by first | rfl | assumption) (n6 : s_nth f3 1 = some (vi z5) := by first | rfl | assumption) (c7 : In3 x1 := by first | omega | assumption | (simp only [mk_len, List.length_map]; omega) | decide) (c8 : In3 z5 := by first | omega | assumption | (simp only [mk_len, List.length_map]; omega) | decide) : wr P d sw_c9 sw_h9 (2, [r0, vi x1], [], h, kc, ks) Q := by
  refine w_ld rfl rfl (Or.inl ⟨by decide, rfl⟩) ?_
  refine w_ld rfl rfl (Or.inr (Or.inr ⟨by decide, y1⟩)) ?_
  subst e_q2
  refine w_getf rfl g4 n6 ?_
  exact w_if2 rfl c7 c8 k1 k2

theorem k9_10 {P : s_P} {d : Nat} {Q : s_O → Prop} {h : s_H} {kc ks : Nat} {r0 : Term} {x1 : Int} {q2 : Nat} {f3 : List Term} {v5 : Term} {q7 : Nat} {a8 : List Term} {tg10 : Nat} (g4 : s_get h q2 = some (1, 10, f3)) (g9 : s_get h q7 = some (0, tg10, a8)) (w12 : s_okA h s_comp tg10 .null = true) (k : wr P d sw_c9 sw_h9 (2, [.index q2, vi (x1 + 1)], [], (hp h q7 (0, tg10, a8.set (Int.toNat (x1)) .null)), kc, ks) Q) (e_q2 : r0 = .index q2 := by first | rfl | assumption) (e_q7 : v5 = .index q7 := by first | rfl | assumption) (y1 : s_ty r0 = 3 := by first | rfl | assumption) (n6 : s_nth f3 0 = some v5 := by first | rfl | assumption) (u11 : tg10 = 2 ∨ tg10 = 3 := by first | decide | assumption) (c13 : x1 < a8.length := by first | omega | assumption | (simp only [mk_len, List.length_map]; omega) | decide) (c14 : 0 ≤ x1 := by first | omega | assumption | (simp only [mk_len, List.length_map]; omega) | decide) (c15 : In3 x1 := by first | omega | assumption | (simp only [mk_len, List.length_map]; omega) | decide) (c16 : 0 < q7 := by first | omega | assumption | (simp only [mk_len, List.length_map]; omega) | decide) : wr P d sw_c9 sw_h9 (10, [r0, vi x1], [], h, kc, ks) Q := by
  refine w_ld rfl rfl (Or.inr (Or.inr ⟨by decide, y1⟩)) ?_
  subst e_q2
  refine w_getf rfl g4 n6 ?_
  refine w_ld rfl rfl (Or.inl ⟨by decide, rfl⟩) ?_
  refine w_null rfl ?_
  subst e_q7
  refine w_aast rfl g9 u11 (Nat.ble_eq_true_of_le c16) c15 c14 c13 w12 ?_
  refine w_iinc (ls' := [.index q2, vi (x1 + 1)]) rfl rfl 1 (by decide) rfl ?_
  refine w_goto rfl ?_
  exact k

theorem k9_23 {P : s_P} {d : Nat} {Q : s_O → Prop} {h : s_H} {kc ks : Nat} {r0 : Term} {x1 : Int} {q2 : Nat} {f3 f7 f10 : List Term} (g4 : s_get h q2 = some (1, 10, f3)) (g8 : s_get (hp h q2 (1, 10, f3.set 1 (vi 0))) q2 = some (1, 10, f7)) (g11 : s_get (hp (hp h q2 (1, 10, f3.set 1 (vi 0))) q2 (1, 10, f7.set 7 (vi 0))) q2 = some (1, 10, f10)) (k : Q (.inl none, (hp (hp (hp h q2 (1, 10, f3.set 1 (vi 0))) q2 (1, 10, f7.set 7 (vi 0))) q2 (1, 10, f10.set 3 (vi 0))), kc, ks)) (e_q2 : r0 = .index q2 := by first | rfl | assumption) (y1 : s_ty r0 = 3 := by first | rfl | assumption) (l5 : 1 < f3.length := by first | exact Nat.le_of_ble_eq_true rfl | omega | assumption) (l9 : 7 < f7.length := by first | exact Nat.le_of_ble_eq_true rfl | omega | assumption) (l12 : 3 < f10.length := by first | exact Nat.le_of_ble_eq_true rfl | omega | assumption) (c6 : 0 < q2 := by first | omega | assumption | (simp only [mk_len, List.length_map]; omega) | decide) : wr P d sw_c9 sw_h9 (23, [r0, vi x1], [], h, kc, ks) Q := by
  refine w_ld rfl rfl (Or.inr (Or.inr ⟨by decide, y1⟩)) ?_
  refine w_c32 rfl (by decide) 0 (by decide) ?_
  subst e_q2
  refine w_putf rfl g4 (Nat.ble_eq_true_of_le c6) rfl (Nat.ble_eq_true_of_le l5) ?_
  refine w_ld rfl rfl (Or.inr (Or.inr ⟨by decide, rfl⟩)) ?_
  refine w_c32 rfl (by decide) 0 (by decide) ?_
  refine w_putf rfl g8 (Nat.ble_eq_true_of_le c6) rfl (Nat.ble_eq_true_of_le l9) ?_
  refine w_ld rfl rfl (Or.inr (Or.inr ⟨by decide, rfl⟩)) ?_
  refine w_c32 rfl (by decide) 0 (by decide) ?_
  refine w_putf rfl g11 (Nat.ble_eq_true_of_le c6) rfl (Nat.ble_eq_true_of_le l12) ?_
  exact w_ret rfl k

/-! 10: FormulaWorks.closed(I)I -/
theorem k10_0 {P : s_P} {d : Nat} {Q : s_O → Prop} {h : s_H} {kc ks : Nat} {r0 : Term} {x1 : Int} {t2 : Term} {q2 : Nat} {f3 : List Term} (g4 : s_get h q2 = some (1, 10, f3)) (k : wm P d 64 [.index q2, vi x1, vi 0] h (wq P d sw_c10 sw_h10 6 [.index q2, vi x1, t2] [] kc ks Q)) (e_q2 : r0 = .index q2 := by first | rfl | assumption) (y1 : s_ty r0 = 3 := by first | rfl | assumption)  : wr P d sw_c10 sw_h10 (0, [r0, vi x1, t2], [], h, kc, ks) Q := by
  refine w_ld rfl rfl (Or.inr (Or.inr ⟨by decide, y1⟩)) ?_
  refine w_ld rfl rfl (Or.inl ⟨by decide, rfl⟩) ?_
  refine w_c32 rfl (by decide) 0 (by decide) ?_
  subst e_q2
  exact w_cv rfl [.index q2, vi x1, vi 0] [] rfl rfl (s_wt_4 rfl) rfl g4 k

theorem k10_6 {P : s_P} {d : Nat} {Q : s_O → Prop} {h : s_H} {kc ks : Nat} {r0 : Term} {x1 : Int} {t2 s0 : Term} {q2 : Nat} {f3 : List Term} {v5 : Term} {q7 : Nat} {f8 : List Term} {z10 : Int} (g4 : s_get h q2 = some (1, 8, f3)) (g9 : s_get h q7 = some (1, 4, f8)) (k1 : 0 ≤ z10 → wr P d sw_c10 sw_h10 (25, [r0, vi x1, .index q2], [], h, kc, ks) Q) (k2 : ¬ 0 ≤ z10 → wr P d sw_c10 sw_h10 (17, [r0, vi x1, .index q2], [], h, kc, ks) Q) (e_q2 : s0 = .index q2 := by first | rfl | assumption) (e_q7 : v5 = .index q7 := by first | rfl | assumption) (y1 : s_ty s0 = 3 := by first | rfl | assumption) (n6 : s_nth f3 1 = some v5 := by first | rfl | assumption) (n11 : s_nth f8 1 = some (vi z10) := by first | rfl | assumption) (c12 : In3 z10 := by first | omega | assumption | (simp only [mk_len, List.length_map]; omega) | decide) : wr P d sw_c10 sw_h10 (6, [r0, vi x1, t2], [s0], h, kc, ks) Q := by
  refine w_st (ls' := [r0, vi x1, s0]) rfl (Or.inr ⟨by decide, y1⟩) rfl ?_
  refine w_ld rfl rfl (Or.inr (Or.inr ⟨by decide, y1⟩)) ?_
  subst e_q2
  refine w_getf rfl g4 n6 ?_
  subst e_q7
  refine w_getf rfl g9 n11 ?_
  exact w_if1 rfl c12 k1 k2

theorem k10_17 {P : s_P} {d : Nat} {Q : s_O → Prop} {h : s_H} {kc ks : Nat} {r0 : Term} {x1 : Int} {r2 : Term}  (k : Q (.inr 1, h, kc + 1, ks + 6))   : wr P d sw_c10 sw_h10 (17, [r0, vi x1, r2], [], h, kc, ks) Q := by
  exact w_throw rfl (s_wt_4 rfl) k

theorem k10_25 {P : s_P} {d : Nat} {Q : s_O → Prop} {h : s_H} {kc ks : Nat} {r0 : Term} {x1 : Int} {r2 : Term} {q2 : Nat} {f3 : List Term} {v5 v8 : Term} {q10 : Nat} {f11 : List Term} (g4 : s_get h q2 = some (1, 10, f3)) (g12 : s_get h q10 = some (1, 6, f11)) (k : wm P d 215 [.index q10, r2, v8] h (wq P d sw_c10 sw_h10 38 [.index q2, vi x1, r2] [.index q2] kc ks Q)) (e_q2 : r0 = .index q2 := by first | rfl | assumption) (e_q10 : v5 = .index q10 := by first | rfl | assumption) (y1 : s_ty r0 = 3 := by first | rfl | assumption) (n6 : s_nth f3 11 = some v5 := by first | rfl | assumption) (y7 : s_ty r2 = 3 := by first | rfl | assumption) (n9 : s_nth f3 17 = some v8 := by first | rfl | assumption)  : wr P d sw_c10 sw_h10 (25, [r0, vi x1, r2], [], h, kc, ks) Q := by
  refine w_ld rfl rfl (Or.inr (Or.inr ⟨by decide, y1⟩)) ?_
  refine w_ld rfl rfl (Or.inr (Or.inr ⟨by decide, y1⟩)) ?_
  subst e_q2
  refine w_getf rfl g4 n6 ?_
  refine w_ld rfl rfl (Or.inr (Or.inr ⟨by decide, y7⟩)) ?_
  refine w_ld rfl rfl (Or.inr (Or.inr ⟨by decide, rfl⟩)) ?_
  refine w_getf rfl g4 n9 ?_
  subst e_q10
  exact w_cv rfl [.index q10, r2, v8] [.index q2] rfl rfl (s_wt_4 rfl) rfl g12 k

theorem k10_38 {P : s_P} {d : Nat} {Q : s_O → Prop} {h : s_H} {kc ks : Nat} {r0 : Term} {x1 : Int} {r2 s0 s1 : Term} {q1 : Nat} {f2 : List Term} (g3 : s_get h q1 = some (1, 10, f2)) (k : wm P d 36 [.index q1, s1] h (wq P d sw_c10 sw_h10 41 [r0, vi x1, r2] [] kc ks Q)) (e_q1 : s0 = .index q1 := by first | rfl | assumption)  : wr P d sw_c10 sw_h10 (38, [r0, vi x1, r2], [s1, s0], h, kc, ks) Q := by
  subst e_q1
  exact w_cv rfl [.index q1, s1] [] rfl rfl (s_wt_4 rfl) rfl g3 k

theorem k10_41 {P : s_P} {d : Nat} {Q : s_O → Prop} {h : s_H} {kc ks : Nat} {r0 : Term} {x1 : Int} {r2 : Term} {s0 : Int}  (k : Q (.inl (some (vi s0)), h, kc, ks))   : wr P d sw_c10 sw_h10 (41, [r0, vi x1, r2], [vi s0], h, kc, ks) Q := by
  exact w_iret rfl k

/-! 11: FormulaWorks.combined(III)I -/
theorem k11_0 {P : s_P} {d : Nat} {Q : s_O → Prop} {h : s_H} {kc ks : Nat} {r0 : Term} {x1 x2 x3 : Int} {t4 t5 : Term} {q2 : Nat} {f3 : List Term} (g4 : s_get h q2 = some (1, 10, f3)) (k : wm P d 93 [.index q2, vi x1] h (wq P d sw_c11 sw_h11 5 [.index q2, vi x1, vi x2, vi x3, t4, t5] [] kc ks Q)) (e_q2 : r0 = .index q2 := by first | rfl | assumption) (y1 : s_ty r0 = 3 := by first | rfl | assumption)  : wr P d sw_c11 sw_h11 (0, [r0, vi x1, vi x2, vi x3, t4, t5], [], h, kc, ks) Q := by
  refine w_ld rfl rfl (Or.inr (Or.inr ⟨by decide, y1⟩)) ?_
  refine w_ld rfl rfl (Or.inl ⟨by decide, rfl⟩) ?_
  subst e_q2
  exact w_cv rfl [.index q2, vi x1] [] rfl rfl (s_wt_4 rfl) rfl g4 k

theorem k11_5 {P : s_P} {d : Nat} {Q : s_O → Prop} {h : s_H} {kc ks : Nat} {r0 : Term} {x1 x2 x3 : Int} {t4 t5 s0 : Term} {q3 : Nat} {f4 : List Term} (g5 : s_get h q3 = some (1, 10, f4)) (k : wm P d 93 [.index q3, vi x2] h (wq P d sw_c11 sw_h11 12 [.index q3, vi x1, vi x2, vi x3, s0, t5] [] kc ks Q)) (e_q3 : r0 = .index q3 := by first | rfl | assumption) (y1 : s_ty s0 = 3 := by first | rfl | assumption) (y2 : s_ty r0 = 3 := by first | rfl | assumption)  : wr P d sw_c11 sw_h11 (5, [r0, vi x1, vi x2, vi x3, t4, t5], [s0], h, kc, ks) Q := by
  refine w_st (ls' := [r0, vi x1, vi x2, vi x3, s0, t5]) rfl (Or.inr ⟨by decide, y1⟩) rfl ?_
  refine w_ld rfl rfl (Or.inr (Or.inr ⟨by decide, y2⟩)) ?_
  refine w_ld rfl rfl (Or.inl ⟨by decide, rfl⟩) ?_
  subst e_q3
  exact w_cv rfl [.index q3, vi x2] [] rfl rfl (s_wt_4 rfl) rfl g5 k

theorem k11_12 {P : s_P} {d : Nat} {Q : s_O → Prop} {h : s_H} {kc ks : Nat} {r0 : Term} {x1 x2 x3 : Int} {r4 t5 s0 : Term}  (k : wm P d 58 [r4] h (wq P d sw_c11 sw_h11 19 [r0, vi x1, vi x2, vi x3, r4, s0] [] kc ks Q)) (y1 : s_ty r4 = 3 := by first | rfl | assumption) (y2 : s_ty s0 = 3 := by first | rfl | assumption)  : wr P d sw_c11 sw_h11 (12, [r0, vi x1, vi x2, vi x3, r4, t5], [s0], h, kc, ks) Q := by
  refine w_st (ls' := [r0, vi x1, vi x2, vi x3, r4, s0]) rfl (Or.inr ⟨by decide, y2⟩) (s_stK_r (pre := [r0, vi x1, vi x2, vi x3]) y1) ?_
  refine w_ld rfl rfl (Or.inr (Or.inr ⟨by decide, y1⟩)) ?_
  exact w_cs rfl [r4] [] rfl rfl (s_wt_4 rfl) k

theorem k11_19 {P : s_P} {d : Nat} {Q : s_O → Prop} {h : s_H} {kc ks : Nat} {r0 : Term} {x1 x2 x3 : Int} {r4 r5 : Term}  (k : wm P d 58 [r5] h (wq P d sw_c11 sw_h11 24 [r0, vi x1, vi x2, vi x3, r4, r5] [] kc ks Q)) (y1 : s_ty r5 = 3 := by first | rfl | assumption)  : wr P d sw_c11 sw_h11 (19, [r0, vi x1, vi x2, vi x3, r4, r5], [], h, kc, ks) Q := by
  refine w_ld rfl rfl (Or.inr (Or.inr ⟨by decide, y1⟩)) ?_
  exact w_cs rfl [r5] [] rfl rfl (s_wt_4 rfl) k

theorem k11_24 {P : s_P} {d : Nat} {Q : s_O → Prop} {h : s_H} {kc ks : Nat} {r0 : Term} {x1 x2 x3 : Int} {r4 r5 : Term}  (k : wm P d 53 [r4, r5] h (wq P d sw_c11 sw_h11 31 [r0, vi x1, vi x2, vi x3, r4, r5] [] kc ks Q)) (y1 : s_ty r4 = 3 := by first | rfl | assumption) (y2 : s_ty r5 = 3 := by first | rfl | assumption)  : wr P d sw_c11 sw_h11 (24, [r0, vi x1, vi x2, vi x3, r4, r5], [], h, kc, ks) Q := by
  refine w_ld rfl rfl (Or.inr (Or.inr ⟨by decide, y1⟩)) ?_
  refine w_ld rfl rfl (Or.inr (Or.inr ⟨by decide, y2⟩)) ?_
  exact w_cs rfl [r4, r5] [] rfl rfl (s_wt_4 rfl) k

theorem k11_31 {P : s_P} {d : Nat} {Q : s_O → Prop} {h : s_H} {kc ks : Nat} {r0 : Term} {x1 x2 x3 : Int} {r4 r5 : Term}  (k : wm P d 59 [vi x3] h (wq P d sw_c11 sw_h11 35 [r0, vi x1, vi x2, vi x3, r4, r5] [] kc ks Q))   : wr P d sw_c11 sw_h11 (31, [r0, vi x1, vi x2, vi x3, r4, r5], [], h, kc, ks) Q := by
  refine w_ld rfl rfl (Or.inl ⟨by decide, rfl⟩) ?_
  exact w_cs rfl [vi x3] [] rfl rfl (s_wt_4 rfl) k

theorem k11_35 {P : s_P} {d : Nat} {Q : s_O → Prop} {h : s_H} {kc ks : Nat} {r0 : Term} {x1 x2 x3 : Int} {r4 r5 : Term} {q2 : Nat} {f3 : List Term} {v5 : Term} {q8 : Nat} {f9 : List Term} {v11 : Term} {q14 : Nat} {f15 : List Term} {v17 : Term} (g4 : s_get h q2 = some (1, 10, f3)) (g10 : s_get h q8 = some (1, 8, f9)) (g16 : s_get h q14 = some (1, 8, f15)) (k1 : x3 ≠ 0 → wr P d sw_c11 sw_h11 (57, [.index q2, vi x1, vi x2, vi x3, .index q8, .index q14], [v17, v11, v5], h, kc, ks) Q) (k2 : ¬ x3 ≠ 0 → wr P d sw_c11 sw_h11 (53, [.index q2, vi x1, vi x2, vi x3, .index q8, .index q14], [v17, v11, v5], h, kc, ks) Q) (e_q2 : r0 = .index q2 := by first | rfl | assumption) (e_q8 : r4 = .index q8 := by first | rfl | assumption) (e_q14 : r5 = .index q14 := by first | rfl | assumption) (y1 : s_ty r0 = 3 := by first | rfl | assumption) (n6 : s_nth f3 8 = some v5 := by first | rfl | assumption) (y7 : s_ty r4 = 3 := by first | rfl | assumption) (n12 : s_nth f9 1 = some v11 := by first | rfl | assumption) (y13 : s_ty r5 = 3 := by first | rfl | assumption) (n18 : s_nth f15 1 = some v17 := by first | rfl | assumption) (c19 : In3 x3 := by first | omega | assumption | (simp only [mk_len, List.length_map]; omega) | decide) : wr P d sw_c11 sw_h11 (35, [r0, vi x1, vi x2, vi x3, r4, r5], [], h, kc, ks) Q := by
  refine w_ld rfl rfl (Or.inr (Or.inr ⟨by decide, y1⟩)) ?_
  subst e_q2
  refine w_getf rfl g4 n6 ?_
  refine w_ld rfl rfl (Or.inr (Or.inr ⟨by decide, y7⟩)) ?_
  subst e_q8
  refine w_getf rfl g10 n12 ?_
  refine w_ld rfl rfl (Or.inr (Or.inr ⟨by decide, y13⟩)) ?_
  subst e_q14
  refine w_getf rfl g16 n18 ?_
  refine w_ld rfl rfl (Or.inl ⟨by decide, rfl⟩) ?_
  exact w_if1 rfl c19 k1 k2

theorem k11_53 {P : s_P} {d : Nat} {Q : s_O → Prop} {h : s_H} {kc ks : Nat} {r0 : Term} {x1 x2 x3 : Int} {r4 r5 s0 s1 s2 : Term}  (k : wr P d sw_c11 sw_h11 (58, [r0, vi x1, vi x2, vi x3, r4, r5], [vi 1, s2, s1, s0], h, kc, ks) Q)   : wr P d sw_c11 sw_h11 (53, [r0, vi x1, vi x2, vi x3, r4, r5], [s2, s1, s0], h, kc, ks) Q := by
  refine w_c32 rfl (by decide) 1 (by decide) ?_
  refine w_goto rfl ?_
  exact k

theorem k11_57 {P : s_P} {d : Nat} {Q : s_O → Prop} {h : s_H} {kc ks : Nat} {r0 : Term} {x1 x2 x3 : Int} {r4 r5 s0 s1 s2 : Term}  (k : wr P d sw_c11 sw_h11 (58, [r0, vi x1, vi x2, vi x3, r4, r5], [vi 0, s2, s1, s0], h, kc, ks) Q)   : wr P d sw_c11 sw_h11 (57, [r0, vi x1, vi x2, vi x3, r4, r5], [s2, s1, s0], h, kc, ks) Q := by
  refine w_c32 rfl (by decide) 0 (by decide) ?_
  exact k

theorem k11_58 {P : s_P} {d : Nat} {Q : s_O → Prop} {h : s_H} {kc ks : Nat} {r0 : Term} {x1 x2 x3 : Int} {r4 r5 s0 s1 s2 : Term} {s3 : Int} {q2 : Nat} {f3 : List Term} {v5 : Term} {q7 : Nat} {f8 : List Term} (g4 : s_get h q2 = some (1, 10, f3)) (g9 : s_get h q7 = some (1, 0, f8)) (k : wm P d 115 [.index q7, s1, s2, vi s3, v5] h (wq P d sw_c11 sw_h11 65 [.index q2, vi x1, vi x2, vi x3, r4, r5] [] kc ks Q)) (e_q2 : r0 = .index q2 := by first | rfl | assumption) (e_q7 : s0 = .index q7 := by first | rfl | assumption) (y1 : s_ty r0 = 3 := by first | rfl | assumption) (n6 : s_nth f3 16 = some v5 := by first | rfl | assumption)  : wr P d sw_c11 sw_h11 (58, [r0, vi x1, vi x2, vi x3, r4, r5], [vi s3, s2, s1, s0], h, kc, ks) Q := by
  refine w_ld rfl rfl (Or.inr (Or.inr ⟨by decide, y1⟩)) ?_
  subst e_q2
  refine w_getf rfl g4 n6 ?_
  subst e_q7
  exact w_cv rfl [.index q7, s1, s2, vi s3, v5] [] rfl rfl (s_wt_4 rfl) rfl g9 k

theorem k11_65 {P : s_P} {d : Nat} {Q : s_O → Prop} {h : s_H} {kc ks : Nat} {r0 : Term} {x1 x2 x3 : Int} {r4 r5 : Term} {q2 : Nat} {f3 : List Term} {v5 : Term} (g4 : s_get h q2 = some (1, 10, f3)) (k : wm P d 41 [.index q2, v5] h (wq P d sw_c11 sw_h11 73 [.index q2, vi x1, vi x2, vi x3, r4, r5] [] kc ks Q)) (e_q2 : r0 = .index q2 := by first | rfl | assumption) (y1 : s_ty r0 = 3 := by first | rfl | assumption) (n6 : s_nth f3 16 = some v5 := by first | rfl | assumption)  : wr P d sw_c11 sw_h11 (65, [r0, vi x1, vi x2, vi x3, r4, r5], [], h, kc, ks) Q := by
  refine w_ld rfl rfl (Or.inr (Or.inr ⟨by decide, y1⟩)) ?_
  refine w_ld rfl rfl (Or.inr (Or.inr ⟨by decide, y1⟩)) ?_
  subst e_q2
  refine w_getf rfl g4 n6 ?_
  exact w_cv rfl [.index q2, v5] [] rfl rfl (s_wt_4 rfl) rfl g4 k

theorem k11_73 {P : s_P} {d : Nat} {Q : s_O → Prop} {h : s_H} {kc ks : Nat} {r0 : Term} {x1 x2 x3 : Int} {r4 r5 : Term} {s0 : Int}  (k : Q (.inl (some (vi s0)), h, kc, ks))   : wr P d sw_c11 sw_h11 (73, [r0, vi x1, vi x2, vi x3, r4, r5], [vi s0], h, kc, ks) Q := by
  exact w_iret rfl k

/-! 12: FormulaWorks.common(II)I -/
theorem k12_0 {P : s_P} {d : Nat} {Q : s_O → Prop} {h : s_H} {kc ks : Nat} {r0 : Term} {x1 x2 : Int} {t3 t4 : Term} {q2 : Nat} {f3 : List Term} (g4 : s_get h q2 = some (1, 10, f3)) (k : wm P d 93 [.index q2, vi x1] h (wq P d sw_c12 sw_h12 5 [.index q2, vi x1, vi x2, t3, t4] [] kc ks Q)) (e_q2 : r0 = .index q2 := by first | rfl | assumption) (y1 : s_ty r0 = 3 := by first | rfl | assumption)  : wr P d sw_c12 sw_h12 (0, [r0, vi x1, vi x2, t3, t4], [], h, kc, ks) Q := by
  refine w_ld rfl rfl (Or.inr (Or.inr ⟨by decide, y1⟩)) ?_
  refine w_ld rfl rfl (Or.inl ⟨by decide, rfl⟩) ?_
  subst e_q2
  exact w_cv rfl [.index q2, vi x1] [] rfl rfl (s_wt_4 rfl) rfl g4 k

theorem k12_5 {P : s_P} {d : Nat} {Q : s_O → Prop} {h : s_H} {kc ks : Nat} {r0 : Term} {x1 x2 : Int} {t3 t4 s0 : Term} {q3 : Nat} {f4 : List Term} (g5 : s_get h q3 = some (1, 10, f4)) (k : wm P d 93 [.index q3, vi x2] h (wq P d sw_c12 sw_h12 11 [.index q3, vi x1, vi x2, s0, t4] [] kc ks Q)) (e_q3 : r0 = .index q3 := by first | rfl | assumption) (y1 : s_ty s0 = 3 := by first | rfl | assumption) (y2 : s_ty r0 = 3 := by first | rfl | assumption)  : wr P d sw_c12 sw_h12 (5, [r0, vi x1, vi x2, t3, t4], [s0], h, kc, ks) Q := by
  refine w_st (ls' := [r0, vi x1, vi x2, s0, t4]) rfl (Or.inr ⟨by decide, y1⟩) rfl ?_
  refine w_ld rfl rfl (Or.inr (Or.inr ⟨by decide, y2⟩)) ?_
  refine w_ld rfl rfl (Or.inl ⟨by decide, rfl⟩) ?_
  subst e_q3
  exact w_cv rfl [.index q3, vi x2] [] rfl rfl (s_wt_4 rfl) rfl g5 k

theorem k12_11 {P : s_P} {d : Nat} {Q : s_O → Prop} {h : s_H} {kc ks : Nat} {r0 : Term} {x1 x2 : Int} {r3 t4 s0 : Term}  (k : wm P d 58 [r3] h (wq P d sw_c12 sw_h12 17 [r0, vi x1, vi x2, r3, s0] [] kc ks Q)) (y1 : s_ty r3 = 3 := by first | rfl | assumption) (y2 : s_ty s0 = 3 := by first | rfl | assumption)  : wr P d sw_c12 sw_h12 (11, [r0, vi x1, vi x2, r3, t4], [s0], h, kc, ks) Q := by
  refine w_st (ls' := [r0, vi x1, vi x2, r3, s0]) rfl (Or.inr ⟨by decide, y2⟩) (s_stK_r (pre := [r0, vi x1, vi x2]) y1) ?_
  refine w_ld rfl rfl (Or.inr (Or.inr ⟨by decide, y1⟩)) ?_
  exact w_cs rfl [r3] [] rfl rfl (s_wt_4 rfl) k

theorem k12_17 {P : s_P} {d : Nat} {Q : s_O → Prop} {h : s_H} {kc ks : Nat} {r0 : Term} {x1 x2 : Int} {r3 r4 : Term}  (k : wm P d 58 [r4] h (wq P d sw_c12 sw_h12 22 [r0, vi x1, vi x2, r3, r4] [] kc ks Q)) (y1 : s_ty r4 = 3 := by first | rfl | assumption)  : wr P d sw_c12 sw_h12 (17, [r0, vi x1, vi x2, r3, r4], [], h, kc, ks) Q := by
  refine w_ld rfl rfl (Or.inr (Or.inr ⟨by decide, y1⟩)) ?_
  exact w_cs rfl [r4] [] rfl rfl (s_wt_4 rfl) k

theorem k12_22 {P : s_P} {d : Nat} {Q : s_O → Prop} {h : s_H} {kc ks : Nat} {r0 : Term} {x1 x2 : Int} {r3 r4 : Term}  (k : wm P d 53 [r3, r4] h (wq P d sw_c12 sw_h12 28 [r0, vi x1, vi x2, r3, r4] [] kc ks Q)) (y1 : s_ty r3 = 3 := by first | rfl | assumption) (y2 : s_ty r4 = 3 := by first | rfl | assumption)  : wr P d sw_c12 sw_h12 (22, [r0, vi x1, vi x2, r3, r4], [], h, kc, ks) Q := by
  refine w_ld rfl rfl (Or.inr (Or.inr ⟨by decide, y1⟩)) ?_
  refine w_ld rfl rfl (Or.inr (Or.inr ⟨by decide, y2⟩)) ?_
  exact w_cs rfl [r3, r4] [] rfl rfl (s_wt_4 rfl) k

theorem k12_28 {P : s_P} {d : Nat} {Q : s_O → Prop} {h : s_H} {kc ks : Nat} {r0 : Term} {x1 x2 : Int} {r3 r4 : Term} {q2 : Nat} {f3 : List Term} {v5 : Term} {q8 : Nat} {f9 : List Term} {v11 : Term} {q14 : Nat} {f15 : List Term} {v17 v19 : Term} {q21 : Nat} {f22 : List Term} (g4 : s_get h q2 = some (1, 10, f3)) (g10 : s_get h q8 = some (1, 8, f9)) (g16 : s_get h q14 = some (1, 8, f15)) (g23 : s_get h q21 = some (1, 0, f22)) (k : wm P d 116 [.index q21, v11, v17, v19] h (wq P d sw_c12 sw_h12 48 [.index q2, vi x1, vi x2, .index q8, .index q14] [] kc ks Q)) (e_q2 : r0 = .index q2 := by first | rfl | assumption) (e_q8 : r3 = .index q8 := by first | rfl | assumption) (e_q14 : r4 = .index q14 := by first | rfl | assumption) (e_q21 : v5 = .index q21 := by first | rfl | assumption) (y1 : s_ty r0 = 3 := by first | rfl | assumption) (n6 : s_nth f3 8 = some v5 := by first | rfl | assumption) (y7 : s_ty r3 = 3 := by first | rfl | assumption) (n12 : s_nth f9 1 = some v11 := by first | rfl | assumption) (y13 : s_ty r4 = 3 := by first | rfl | assumption) (n18 : s_nth f15 1 = some v17 := by first | rfl | assumption) (n20 : s_nth f3 16 = some v19 := by first | rfl | assumption)  : wr P d sw_c12 sw_h12 (28, [r0, vi x1, vi x2, r3, r4], [], h, kc, ks) Q := by
  refine w_ld rfl rfl (Or.inr (Or.inr ⟨by decide, y1⟩)) ?_
  subst e_q2
  refine w_getf rfl g4 n6 ?_
  refine w_ld rfl rfl (Or.inr (Or.inr ⟨by decide, y7⟩)) ?_
  subst e_q8
  refine w_getf rfl g10 n12 ?_
  refine w_ld rfl rfl (Or.inr (Or.inr ⟨by decide, y13⟩)) ?_
  subst e_q14
  refine w_getf rfl g16 n18 ?_
  refine w_ld rfl rfl (Or.inr (Or.inr ⟨by decide, rfl⟩)) ?_
  refine w_getf rfl g4 n20 ?_
  subst e_q21
  exact w_cv rfl [.index q21, v11, v17, v19] [] rfl rfl (s_wt_4 rfl) rfl g23 k

theorem k12_48 {P : s_P} {d : Nat} {Q : s_O → Prop} {h : s_H} {kc ks : Nat} {r0 : Term} {x1 x2 : Int} {r3 r4 : Term} {q2 : Nat} {f3 : List Term} {v5 : Term} (g4 : s_get h q2 = some (1, 10, f3)) (k : wm P d 41 [.index q2, v5] h (wq P d sw_c12 sw_h12 56 [.index q2, vi x1, vi x2, r3, r4] [] kc ks Q)) (e_q2 : r0 = .index q2 := by first | rfl | assumption) (y1 : s_ty r0 = 3 := by first | rfl | assumption) (n6 : s_nth f3 16 = some v5 := by first | rfl | assumption)  : wr P d sw_c12 sw_h12 (48, [r0, vi x1, vi x2, r3, r4], [], h, kc, ks) Q := by
  refine w_ld rfl rfl (Or.inr (Or.inr ⟨by decide, y1⟩)) ?_
  refine w_ld rfl rfl (Or.inr (Or.inr ⟨by decide, y1⟩)) ?_
  subst e_q2
  refine w_getf rfl g4 n6 ?_
  exact w_cv rfl [.index q2, v5] [] rfl rfl (s_wt_4 rfl) rfl g4 k

theorem k12_56 {P : s_P} {d : Nat} {Q : s_O → Prop} {h : s_H} {kc ks : Nat} {r0 : Term} {x1 x2 : Int} {r3 r4 : Term} {s0 : Int}  (k : Q (.inl (some (vi s0)), h, kc, ks))   : wr P d sw_c12 sw_h12 (56, [r0, vi x1, vi x2, r3, r4], [vi s0], h, kc, ks) Q := by
  exact w_iret rfl k

/-! 13: FormulaWorks.companion(I)I -/
theorem k13_0 {P : s_P} {d : Nat} {Q : s_O → Prop} {h : s_H} {kc ks : Nat} {r0 : Term} {x1 : Int} {t2 t3 : Term} {q2 : Nat} {f3 : List Term} (g4 : s_get h q2 = some (1, 10, f3)) (k : wm P d 93 [.index q2, vi x1] h (wq P d sw_c13 sw_h13 5 [.index q2, vi x1, t2, t3] [] kc ks Q)) (e_q2 : r0 = .index q2 := by first | rfl | assumption) (y1 : s_ty r0 = 3 := by first | rfl | assumption)  : wr P d sw_c13 sw_h13 (0, [r0, vi x1, t2, t3], [], h, kc, ks) Q := by
  refine w_ld rfl rfl (Or.inr (Or.inr ⟨by decide, y1⟩)) ?_
  refine w_ld rfl rfl (Or.inl ⟨by decide, rfl⟩) ?_
  subst e_q2
  exact w_cv rfl [.index q2, vi x1] [] rfl rfl (s_wt_4 rfl) rfl g4 k

theorem k13_5 {P : s_P} {d : Nat} {Q : s_O → Prop} {h : s_H} {kc ks : Nat} {r0 : Term} {x1 : Int} {t2 t3 s0 : Term}  (k : wm P d 58 [s0] h (wq P d sw_c13 sw_h13 10 [r0, vi x1, s0, t3] [] kc ks Q)) (y1 : s_ty s0 = 3 := by first | rfl | assumption)  : wr P d sw_c13 sw_h13 (5, [r0, vi x1, t2, t3], [s0], h, kc, ks) Q := by
  refine w_st (ls' := [r0, vi x1, s0, t3]) rfl (Or.inr ⟨by decide, y1⟩) rfl ?_
  refine w_ld rfl rfl (Or.inr (Or.inr ⟨by decide, y1⟩)) ?_
  exact w_cs rfl [s0] [] rfl rfl (s_wt_4 rfl) k

theorem k13_10 {P : s_P} {d : Nat} {Q : s_O → Prop} {h : s_H} {kc ks : Nat} {r0 : Term} {x1 : Int} {r2 t3 : Term} {q2 : Nat} {f3 : List Term} {v5 : Term} {q7 : Nat} {f8 : List Term} {z10 : Int} (g4 : s_get h q2 = some (1, 8, f3)) (g9 : s_get h q7 = some (1, 4, f8)) (k1 : z10 < 1 → wr P d sw_c13 sw_h13 (39, [r0, vi x1, .index q2, vi z10], [], h, kc, ks) Q) (k2 : ¬ z10 < 1 → wr P d sw_c13 sw_h13 (23, [r0, vi x1, .index q2, vi z10], [], h, kc, ks) Q) (e_q2 : r2 = .index q2 := by first | rfl | assumption) (e_q7 : v5 = .index q7 := by first | rfl | assumption) (y1 : s_ty r2 = 3 := by first | rfl | assumption) (n6 : s_nth f3 1 = some v5 := by first | rfl | assumption) (n11 : s_nth f8 1 = some (vi z10) := by first | rfl | assumption) (c12 : In3 z10 := by first | omega | assumption | (simp only [mk_len, List.length_map]; omega) | decide) : wr P d sw_c13 sw_h13 (10, [r0, vi x1, r2, t3], [], h, kc, ks) Q := by
  refine w_ld rfl rfl (Or.inr (Or.inr ⟨by decide, y1⟩)) ?_
  subst e_q2
  refine w_getf rfl g4 n6 ?_
  subst e_q7
  refine w_getf rfl g9 n11 ?_
  refine w_st (ls' := [r0, vi x1, .index q2, vi z10]) rfl (Or.inl ⟨by decide, rfl⟩) rfl ?_
  refine w_ld rfl rfl (Or.inl ⟨by decide, rfl⟩) ?_
  refine w_c32 rfl (by decide) 1 (by decide) ?_
  exact w_if2 rfl c12 (by decide) k1 k2

theorem k13_23 {P : s_P} {d : Nat} {Q : s_O → Prop} {h : s_H} {kc ks : Nat} {r0 : Term} {x1 : Int} {r2 : Term} {x3 : Int}  (k1 : 4 < x3 → wr P d sw_c13 sw_h13 (39, [r0, vi x1, r2, vi x3], [], h, kc, ks) Q) (k2 : ¬ 4 < x3 → wr P d sw_c13 sw_h13 (28, [r0, vi x1, r2, vi x3], [], h, kc, ks) Q)  (c1 : In3 x3 := by first | omega | assumption | (simp only [mk_len, List.length_map]; omega) | decide) : wr P d sw_c13 sw_h13 (23, [r0, vi x1, r2, vi x3], [], h, kc, ks) Q := by
  refine w_ld rfl rfl (Or.inl ⟨by decide, rfl⟩) ?_
  refine w_c32 rfl (by decide) 4 (by decide) ?_
  exact w_if2 rfl c1 (by decide) k1 k2

theorem k13_28 {P : s_P} {d : Nat} {Q : s_O → Prop} {h : s_H} {kc ks : Nat} {r0 : Term} {x1 : Int} {r2 : Term} {x3 : Int} {q2 : Nat} {f3 : List Term} {v5 : Term} {q7 : Nat} {f8 : List Term} (g4 : s_get h q2 = some (1, 8, f3)) (g9 : s_get h q7 = some (1, 4, f8)) (k : wm P d 171 [.index q7] h (wq P d sw_c13 sw_h13 35 [r0, vi x1, .index q2, vi x3] [] kc ks Q)) (e_q2 : r2 = .index q2 := by first | rfl | assumption) (e_q7 : v5 = .index q7 := by first | rfl | assumption) (y1 : s_ty r2 = 3 := by first | rfl | assumption) (n6 : s_nth f3 1 = some v5 := by first | rfl | assumption)  : wr P d sw_c13 sw_h13 (28, [r0, vi x1, r2, vi x3], [], h, kc, ks) Q := by
  refine w_ld rfl rfl (Or.inr (Or.inr ⟨by decide, y1⟩)) ?_
  subst e_q2
  refine w_getf rfl g4 n6 ?_
  subst e_q7
  exact w_cv rfl [.index q7] [] rfl rfl (s_wt_4 rfl) rfl g9 k

theorem k13_35 {P : s_P} {d : Nat} {Q : s_O → Prop} {h : s_H} {kc ks : Nat} {r0 : Term} {x1 : Int} {r2 : Term} {x3 s0 : Int}  (k1 : s0 = 1 → wr P d sw_c13 sw_h13 (47, [r0, vi x1, r2, vi x3], [], h, kc, ks) Q) (k2 : ¬ s0 = 1 → wr P d sw_c13 sw_h13 (39, [r0, vi x1, r2, vi x3], [], h, kc, ks) Q)  (c1 : In3 s0 := by first | omega | assumption | (simp only [mk_len, List.length_map]; omega) | decide) : wr P d sw_c13 sw_h13 (35, [r0, vi x1, r2, vi x3], [vi s0], h, kc, ks) Q := by
  refine w_c32 rfl (by decide) 1 (by decide) ?_
  exact w_if2 rfl c1 (by decide) k1 k2

theorem k13_39 {P : s_P} {d : Nat} {Q : s_O → Prop} {h : s_H} {kc ks : Nat} {r0 : Term} {x1 : Int} {r2 : Term} {x3 : Int}  (k : Q (.inr 1, h, kc + 1, ks + 6))   : wr P d sw_c13 sw_h13 (39, [r0, vi x1, r2, vi x3], [], h, kc, ks) Q := by
  exact w_throw rfl (s_wt_4 rfl) k

theorem k13_47 {P : s_P} {d : Nat} {Q : s_O → Prop} {h : s_H} {kc ks : Nat} {r0 : Term} {x1 : Int} {r2 : Term} {x3 : Int} {q2 : Nat} {f3 : List Term} {v5 : Term} {q8 : Nat} {f9 : List Term} {v11 : Term} {q13 : Nat} {f14 : List Term} (g4 : s_get h q2 = some (1, 10, f3)) (g10 : s_get h q8 = some (1, 8, f9)) (g15 : s_get h q13 = some (1, 2, f14)) (k : wm P d 136 [.index q13, v11] h (wq P d sw_c13 sw_h13 59 [.index q2, vi x1, .index q8, vi x3] [.index q2] kc ks Q)) (e_q2 : r0 = .index q2 := by first | rfl | assumption) (e_q8 : r2 = .index q8 := by first | rfl | assumption) (e_q13 : v5 = .index q13 := by first | rfl | assumption) (y1 : s_ty r0 = 3 := by first | rfl | assumption) (n6 : s_nth f3 10 = some v5 := by first | rfl | assumption) (y7 : s_ty r2 = 3 := by first | rfl | assumption) (n12 : s_nth f9 1 = some v11 := by first | rfl | assumption)  : wr P d sw_c13 sw_h13 (47, [r0, vi x1, r2, vi x3], [], h, kc, ks) Q := by
  refine w_ld rfl rfl (Or.inr (Or.inr ⟨by decide, y1⟩)) ?_
  refine w_ld rfl rfl (Or.inr (Or.inr ⟨by decide, y1⟩)) ?_
  subst e_q2
  refine w_getf rfl g4 n6 ?_
  refine w_ld rfl rfl (Or.inr (Or.inr ⟨by decide, y7⟩)) ?_
  subst e_q8
  refine w_getf rfl g10 n12 ?_
  subst e_q13
  exact w_cv rfl [.index q13, v11] [.index q2] rfl rfl (s_wt_4 rfl) rfl g15 k

theorem k13_59 {P : s_P} {d : Nat} {Q : s_O → Prop} {h : s_H} {kc ks : Nat} {r0 : Term} {x1 : Int} {r2 : Term} {x3 : Int} {s0 s1 : Term} {q1 : Nat} {f2 : List Term} (g3 : s_get h q1 = some (1, 10, f2)) (k : wm P d 38 [.index q1, s1] h (wq P d sw_c13 sw_h13 62 [r0, vi x1, r2, vi x3] [] kc ks Q)) (e_q1 : s0 = .index q1 := by first | rfl | assumption)  : wr P d sw_c13 sw_h13 (59, [r0, vi x1, r2, vi x3], [s1, s0], h, kc, ks) Q := by
  subst e_q1
  exact w_cv rfl [.index q1, s1] [] rfl rfl (s_wt_4 rfl) rfl g3 k

theorem k13_62 {P : s_P} {d : Nat} {Q : s_O → Prop} {h : s_H} {kc ks : Nat} {r0 : Term} {x1 : Int} {r2 : Term} {x3 s0 : Int}  (k : Q (.inl (some (vi s0)), h, kc, ks))   : wr P d sw_c13 sw_h13 (62, [r0, vi x1, r2, vi x3], [vi s0], h, kc, ks) Q := by
  exact w_iret rfl k

/-! 14: FormulaWorks.core(I)I -/
theorem k14_0 {P : s_P} {d : Nat} {Q : s_O → Prop} {h : s_H} {kc ks : Nat} {r0 : Term} {x1 : Int} {q2 : Nat} {f3 : List Term} {v5 : Term} (g4 : s_get h q2 = some (1, 10, f3)) (k : wm P d 64 [.index q2, vi x1, vi 0] h (wq P d sw_c14 sw_h14 11 [.index q2, vi x1] [v5, .index q2] kc ks Q)) (e_q2 : r0 = .index q2 := by first | rfl | assumption) (y1 : s_ty r0 = 3 := by first | rfl | assumption) (n6 : s_nth f3 9 = some v5 := by first | rfl | assumption)  : wr P d sw_c14 sw_h14 (0, [r0, vi x1], [], h, kc, ks) Q := by
  refine w_ld rfl rfl (Or.inr (Or.inr ⟨by decide, y1⟩)) ?_
  refine w_ld rfl rfl (Or.inr (Or.inr ⟨by decide, y1⟩)) ?_
  subst e_q2
  refine w_getf rfl g4 n6 ?_
  refine w_ld rfl rfl (Or.inr (Or.inr ⟨by decide, rfl⟩)) ?_
  refine w_ld rfl rfl (Or.inl ⟨by decide, rfl⟩) ?_
  refine w_c32 rfl (by decide) 0 (by decide) ?_
  exact w_cv rfl [.index q2, vi x1, vi 0] [v5, .index q2] rfl rfl (s_wt_4 rfl) rfl g4 k

theorem k14_11 {P : s_P} {d : Nat} {Q : s_O → Prop} {h : s_H} {kc ks : Nat} {r0 : Term} {x1 : Int} {s0 s1 s2 : Term} {q2 : Nat} {f3 : List Term} {v5 v7 : Term} {q9 : Nat} {f10 : List Term} (g4 : s_get h q2 = some (1, 10, f3)) (g11 : s_get h q9 = some (1, 3, f10)) (k : wm P d 158 [.index q9, s2, v5, v7] h (wq P d sw_c14 sw_h14 22 [.index q2, vi x1] [s0] kc ks Q)) (e_q2 : r0 = .index q2 := by first | rfl | assumption) (e_q9 : s1 = .index q9 := by first | rfl | assumption) (y1 : s_ty r0 = 3 := by first | rfl | assumption) (n6 : s_nth f3 17 = some v5 := by first | rfl | assumption) (n8 : s_nth f3 18 = some v7 := by first | rfl | assumption)  : wr P d sw_c14 sw_h14 (11, [r0, vi x1], [s2, s1, s0], h, kc, ks) Q := by
  refine w_ld rfl rfl (Or.inr (Or.inr ⟨by decide, y1⟩)) ?_
  subst e_q2
  refine w_getf rfl g4 n6 ?_
  refine w_ld rfl rfl (Or.inr (Or.inr ⟨by decide, rfl⟩)) ?_
  refine w_getf rfl g4 n8 ?_
  subst e_q9
  exact w_cv rfl [.index q9, s2, v5, v7] [s0] rfl rfl (s_wt_4 rfl) rfl g11 k

theorem k14_22 {P : s_P} {d : Nat} {Q : s_O → Prop} {h : s_H} {kc ks : Nat} {r0 : Term} {x1 : Int} {s0 s1 : Term} {q1 : Nat} {f2 : List Term} (g3 : s_get h q1 = some (1, 10, f2)) (k : wm P d 37 [.index q1, s1] h (wq P d sw_c14 sw_h14 25 [r0, vi x1] [] kc ks Q)) (e_q1 : s0 = .index q1 := by first | rfl | assumption)  : wr P d sw_c14 sw_h14 (22, [r0, vi x1], [s1, s0], h, kc, ks) Q := by
  subst e_q1
  exact w_cv rfl [.index q1, s1] [] rfl rfl (s_wt_4 rfl) rfl g3 k

theorem k14_25 {P : s_P} {d : Nat} {Q : s_O → Prop} {h : s_H} {kc ks : Nat} {r0 : Term} {x1 s0 : Int}  (k : Q (.inl (some (vi s0)), h, kc, ks))   : wr P d sw_c14 sw_h14 (25, [r0, vi x1], [vi s0], h, kc, ks) Q := by
  exact w_iret rfl k

/-! 15: FormulaWorks.count()I -/
theorem k15_0 {P : s_P} {d : Nat} {Q : s_O → Prop} {h : s_H} {kc ks : Nat} {r0 : Term} {q2 : Nat} {f3 : List Term} {z5 : Int} (g4 : s_get h q2 = some (1, 10, f3)) (k : Q (.inl (some (vi z5)), h, kc, ks)) (e_q2 : r0 = .index q2 := by first | rfl | assumption) (y1 : s_ty r0 = 3 := by first | rfl | assumption) (n6 : s_nth f3 1 = some (vi z5) := by first | rfl | assumption)  : wr P d sw_c15 sw_h15 (0, [r0], [], h, kc, ks) Q := by
  refine w_ld rfl rfl (Or.inr (Or.inr ⟨by decide, y1⟩)) ?_
  subst e_q2
  refine w_getf rfl g4 n6 ?_
  exact w_iret rfl k

/-! 16: FormulaWorks.degree(II)I -/
theorem k16_0 {P : s_P} {d : Nat} {Q : s_O → Prop} {h : s_H} {kc ks : Nat} {r0 : Term} {x1 x2 : Int} {t3 : Term} {q2 : Nat} {f3 : List Term} (g4 : s_get h q2 = some (1, 10, f3)) (k : wm P d 93 [.index q2, vi x1] h (wq P d sw_c16 sw_h16 5 [.index q2, vi x1, vi x2, t3] [] kc ks Q)) (e_q2 : r0 = .index q2 := by first | rfl | assumption) (y1 : s_ty r0 = 3 := by first | rfl | assumption)  : wr P d sw_c16 sw_h16 (0, [r0, vi x1, vi x2, t3], [], h, kc, ks) Q := by
  refine w_ld rfl rfl (Or.inr (Or.inr ⟨by decide, y1⟩)) ?_
  refine w_ld rfl rfl (Or.inl ⟨by decide, rfl⟩) ?_
  subst e_q2
  exact w_cv rfl [.index q2, vi x1] [] rfl rfl (s_wt_4 rfl) rfl g4 k

theorem k16_5 {P : s_P} {d : Nat} {Q : s_O → Prop} {h : s_H} {kc ks : Nat} {r0 : Term} {x1 x2 : Int} {t3 s0 : Term}  (k : wm P d 59 [vi x2] h (wq P d sw_c16 sw_h16 10 [r0, vi x1, vi x2, s0] [] kc ks Q)) (y1 : s_ty s0 = 3 := by first | rfl | assumption)  : wr P d sw_c16 sw_h16 (5, [r0, vi x1, vi x2, t3], [s0], h, kc, ks) Q := by
  refine w_st (ls' := [r0, vi x1, vi x2, s0]) rfl (Or.inr ⟨by decide, y1⟩) rfl ?_
  refine w_ld rfl rfl (Or.inl ⟨by decide, rfl⟩) ?_
  exact w_cs rfl [vi x2] [] rfl rfl (s_wt_4 rfl) k

theorem k16_10 {P : s_P} {d : Nat} {Q : s_O → Prop} {h : s_H} {kc ks : Nat} {r0 : Term} {x1 x2 : Int} {r3 : Term} {q2 : Nat} {f3 : List Term} {z5 : Int} (g4 : s_get h q2 = some (1, 8, f3)) (k1 : z5 ≠ 0 → wr P d sw_c16 sw_h16 (39, [r0, vi x1, vi x2, .index q2], [], h, kc, ks) Q) (k2 : ¬ z5 ≠ 0 → wr P d sw_c16 sw_h16 (17, [r0, vi x1, vi x2, .index q2], [], h, kc, ks) Q) (e_q2 : r3 = .index q2 := by first | rfl | assumption) (y1 : s_ty r3 = 3 := by first | rfl | assumption) (n6 : s_nth f3 0 = some (vi z5) := by first | rfl | assumption) (c7 : In3 z5 := by first | omega | assumption | (simp only [mk_len, List.length_map]; omega) | decide) : wr P d sw_c16 sw_h16 (10, [r0, vi x1, vi x2, r3], [], h, kc, ks) Q := by
  refine w_ld rfl rfl (Or.inr (Or.inr ⟨by decide, y1⟩)) ?_
  subst e_q2
  refine w_getf rfl g4 n6 ?_
  exact w_if1 rfl c7 k1 k2

theorem k16_17 {P : s_P} {d : Nat} {Q : s_O → Prop} {h : s_H} {kc ks : Nat} {r0 : Term} {x1 x2 : Int} {r3 : Term}  (k1 : x2 ≠ 0 → wr P d sw_c16 sw_h16 (31, [r0, vi x1, vi x2, r3], [], h, kc, ks) Q) (k2 : ¬ x2 ≠ 0 → wr P d sw_c16 sw_h16 (21, [r0, vi x1, vi x2, r3], [], h, kc, ks) Q)  (c1 : In3 x2 := by first | omega | assumption | (simp only [mk_len, List.length_map]; omega) | decide) : wr P d sw_c16 sw_h16 (17, [r0, vi x1, vi x2, r3], [], h, kc, ks) Q := by
  refine w_ld rfl rfl (Or.inl ⟨by decide, rfl⟩) ?_
  exact w_if1 rfl c1 k1 k2

theorem k16_21 {P : s_P} {d : Nat} {Q : s_O → Prop} {h : s_H} {kc ks : Nat} {r0 : Term} {x1 x2 : Int} {r3 : Term} {q2 : Nat} {f3 : List Term} {v5 : Term} {q7 : Nat} {f8 : List Term} {z10 : Int} (g4 : s_get h q2 = some (1, 8, f3)) (g9 : s_get h q7 = some (1, 4, f8)) (k : wr P d sw_c16 sw_h16 (38, [r0, vi x1, vi x2, .index q2], [vi z10], h, kc, ks) Q) (e_q2 : r3 = .index q2 := by first | rfl | assumption) (e_q7 : v5 = .index q7 := by first | rfl | assumption) (y1 : s_ty r3 = 3 := by first | rfl | assumption) (n6 : s_nth f3 1 = some v5 := by first | rfl | assumption) (n11 : s_nth f8 1 = some (vi z10) := by first | rfl | assumption)  : wr P d sw_c16 sw_h16 (21, [r0, vi x1, vi x2, r3], [], h, kc, ks) Q := by
  refine w_ld rfl rfl (Or.inr (Or.inr ⟨by decide, y1⟩)) ?_
  subst e_q2
  refine w_getf rfl g4 n6 ?_
  subst e_q7
  refine w_getf rfl g9 n11 ?_
  refine w_goto rfl ?_
  exact k

theorem k16_31 {P : s_P} {d : Nat} {Q : s_O → Prop} {h : s_H} {kc ks : Nat} {r0 : Term} {x1 x2 : Int} {r3 : Term} {q2 : Nat} {f3 : List Term} {v5 : Term} {q7 : Nat} {f8 : List Term} {z10 : Int} (g4 : s_get h q2 = some (1, 8, f3)) (g9 : s_get h q7 = some (1, 4, f8)) (k : wr P d sw_c16 sw_h16 (38, [r0, vi x1, vi x2, .index q2], [vi z10], h, kc, ks) Q) (e_q2 : r3 = .index q2 := by first | rfl | assumption) (e_q7 : v5 = .index q7 := by first | rfl | assumption) (y1 : s_ty r3 = 3 := by first | rfl | assumption) (n6 : s_nth f3 2 = some v5 := by first | rfl | assumption) (n11 : s_nth f8 1 = some (vi z10) := by first | rfl | assumption)  : wr P d sw_c16 sw_h16 (31, [r0, vi x1, vi x2, r3], [], h, kc, ks) Q := by
  refine w_ld rfl rfl (Or.inr (Or.inr ⟨by decide, y1⟩)) ?_
  subst e_q2
  refine w_getf rfl g4 n6 ?_
  subst e_q7
  refine w_getf rfl g9 n11 ?_
  exact k

theorem k16_38 {P : s_P} {d : Nat} {Q : s_O → Prop} {h : s_H} {kc ks : Nat} {r0 : Term} {x1 x2 : Int} {r3 : Term} {s0 : Int}  (k : Q (.inl (some (vi s0)), h, kc, ks))   : wr P d sw_c16 sw_h16 (38, [r0, vi x1, vi x2, r3], [vi s0], h, kc, ks) Q := by
  exact w_iret rfl k

theorem k16_39 {P : s_P} {d : Nat} {Q : s_O → Prop} {h : s_H} {kc ks : Nat} {r0 : Term} {x1 x2 : Int} {r3 : Term} {q2 : Nat} {f3 : List Term} {z5 : Int} (g4 : s_get h q2 = some (1, 8, f3)) (k1 : z5 ≠ 2 → wr P d sw_c16 sw_h16 (63, [r0, vi x1, vi x2, .index q2], [], h, kc, ks) Q) (k2 : ¬ z5 ≠ 2 → wr P d sw_c16 sw_h16 (47, [r0, vi x1, vi x2, .index q2], [], h, kc, ks) Q) (e_q2 : r3 = .index q2 := by first | rfl | assumption) (y1 : s_ty r3 = 3 := by first | rfl | assumption) (n6 : s_nth f3 0 = some (vi z5) := by first | rfl | assumption) (c7 : In3 z5 := by first | omega | assumption | (simp only [mk_len, List.length_map]; omega) | decide) : wr P d sw_c16 sw_h16 (39, [r0, vi x1, vi x2, r3], [], h, kc, ks) Q := by
  refine w_ld rfl rfl (Or.inr (Or.inr ⟨by decide, y1⟩)) ?_
  subst e_q2
  refine w_getf rfl g4 n6 ?_
  refine w_c32 rfl (by decide) 2 (by decide) ?_
  exact w_if2 rfl c7 (by decide) k1 k2

theorem k16_47 {P : s_P} {d : Nat} {Q : s_O → Prop} {h : s_H} {kc ks : Nat} {r0 : Term} {x1 x2 : Int} {r3 : Term}  (k1 : x2 ≠ 0 → wr P d sw_c16 sw_h16 (58, [r0, vi x1, vi x2, r3], [], h, kc, ks) Q) (k2 : ¬ x2 ≠ 0 → wr P d sw_c16 sw_h16 (51, [r0, vi x1, vi x2, r3], [], h, kc, ks) Q)  (c1 : In3 x2 := by first | omega | assumption | (simp only [mk_len, List.length_map]; omega) | decide) : wr P d sw_c16 sw_h16 (47, [r0, vi x1, vi x2, r3], [], h, kc, ks) Q := by
  refine w_ld rfl rfl (Or.inl ⟨by decide, rfl⟩) ?_
  exact w_if1 rfl c1 k1 k2

theorem k16_51 {P : s_P} {d : Nat} {Q : s_O → Prop} {h : s_H} {kc ks : Nat} {r0 : Term} {x1 x2 : Int} {r3 : Term} {q2 : Nat} {f3 : List Term} {z5 : Int} (g4 : s_get h q2 = some (1, 8, f3)) (k : wr P d sw_c16 sw_h16 (62, [r0, vi x1, vi x2, .index q2], [vi z5], h, kc, ks) Q) (e_q2 : r3 = .index q2 := by first | rfl | assumption) (y1 : s_ty r3 = 3 := by first | rfl | assumption) (n6 : s_nth f3 3 = some (vi z5) := by first | rfl | assumption)  : wr P d sw_c16 sw_h16 (51, [r0, vi x1, vi x2, r3], [], h, kc, ks) Q := by
  refine w_ld rfl rfl (Or.inr (Or.inr ⟨by decide, y1⟩)) ?_
  subst e_q2
  refine w_getf rfl g4 n6 ?_
  refine w_goto rfl ?_
  exact k

theorem k16_58 {P : s_P} {d : Nat} {Q : s_O → Prop} {h : s_H} {kc ks : Nat} {r0 : Term} {x1 x2 : Int} {r3 : Term} {q2 : Nat} {f3 : List Term} {z5 : Int} (g4 : s_get h q2 = some (1, 8, f3)) (k : wr P d sw_c16 sw_h16 (62, [r0, vi x1, vi x2, .index q2], [vi z5], h, kc, ks) Q) (e_q2 : r3 = .index q2 := by first | rfl | assumption) (y1 : s_ty r3 = 3 := by first | rfl | assumption) (n6 : s_nth f3 4 = some (vi z5) := by first | rfl | assumption)  : wr P d sw_c16 sw_h16 (58, [r0, vi x1, vi x2, r3], [], h, kc, ks) Q := by
  refine w_ld rfl rfl (Or.inr (Or.inr ⟨by decide, y1⟩)) ?_
  subst e_q2
  refine w_getf rfl g4 n6 ?_
  exact k

theorem k16_62 {P : s_P} {d : Nat} {Q : s_O → Prop} {h : s_H} {kc ks : Nat} {r0 : Term} {x1 x2 : Int} {r3 : Term} {s0 : Int}  (k : Q (.inl (some (vi s0)), h, kc, ks))   : wr P d sw_c16 sw_h16 (62, [r0, vi x1, vi x2, r3], [vi s0], h, kc, ks) Q := by
  exact w_iret rfl k

theorem k16_63 {P : s_P} {d : Nat} {Q : s_O → Prop} {h : s_H} {kc ks : Nat} {r0 : Term} {x1 x2 : Int} {r3 : Term}  (k : wm P d 52 [r3, vi 1] h (wq P d sw_c16 sw_h16 68 [r0, vi x1, vi x2, r3] [] kc ks Q)) (y1 : s_ty r3 = 3 := by first | rfl | assumption)  : wr P d sw_c16 sw_h16 (63, [r0, vi x1, vi x2, r3], [], h, kc, ks) Q := by
  refine w_ld rfl rfl (Or.inr (Or.inr ⟨by decide, y1⟩)) ?_
  refine w_c32 rfl (by decide) 1 (by decide) ?_
  exact w_cs rfl [r3, vi 1] [] rfl rfl (s_wt_4 rfl) k

theorem k16_68 {P : s_P} {d : Nat} {Q : s_O → Prop} {h : s_H} {kc ks : Nat} {r0 : Term} {x1 x2 : Int} {r3 : Term}  (k1 : x2 ≠ 0 → wr P d sw_c16 sw_h16 (82, [r0, vi x1, vi x2, r3], [], h, kc, ks) Q) (k2 : ¬ x2 ≠ 0 → wr P d sw_c16 sw_h16 (72, [r0, vi x1, vi x2, r3], [], h, kc, ks) Q)  (c1 : In3 x2 := by first | omega | assumption | (simp only [mk_len, List.length_map]; omega) | decide) : wr P d sw_c16 sw_h16 (68, [r0, vi x1, vi x2, r3], [], h, kc, ks) Q := by
  refine w_ld rfl rfl (Or.inl ⟨by decide, rfl⟩) ?_
  exact w_if1 rfl c1 k1 k2

theorem k16_72 {P : s_P} {d : Nat} {Q : s_O → Prop} {h : s_H} {kc ks : Nat} {r0 : Term} {x1 x2 : Int} {r3 : Term} {q2 : Nat} {f3 : List Term} {v5 : Term} (g4 : s_get h q2 = some (1, 8, f3)) (k : wm P d 235 [v5] h (wq P d sw_c16 sw_h16 79 [r0, vi x1, vi x2, .index q2] [] kc ks Q)) (e_q2 : r3 = .index q2 := by first | rfl | assumption) (y1 : s_ty r3 = 3 := by first | rfl | assumption) (n6 : s_nth f3 6 = some v5 := by first | rfl | assumption)  : wr P d sw_c16 sw_h16 (72, [r0, vi x1, vi x2, r3], [], h, kc, ks) Q := by
  refine w_ld rfl rfl (Or.inr (Or.inr ⟨by decide, y1⟩)) ?_
  subst e_q2
  refine w_getf rfl g4 n6 ?_
  exact w_cs rfl [v5] [] rfl rfl (s_wt_4 rfl) k

theorem k16_79 {P : s_P} {d : Nat} {Q : s_O → Prop} {h : s_H} {kc ks : Nat} {r0 : Term} {x1 x2 : Int} {r3 : Term} {s0 : Int}  (k : wr P d sw_c16 sw_h16 (84, [r0, vi x1, vi x2, r3], [vi s0], h, kc, ks) Q)   : wr P d sw_c16 sw_h16 (79, [r0, vi x1, vi x2, r3], [vi s0], h, kc, ks) Q := by
  refine w_goto rfl ?_
  exact k

theorem k16_82 {P : s_P} {d : Nat} {Q : s_O → Prop} {h : s_H} {kc ks : Nat} {r0 : Term} {x1 x2 : Int} {r3 : Term}  (k : wr P d sw_c16 sw_h16 (84, [r0, vi x1, vi x2, r3], [vi 24], h, kc, ks) Q)   : wr P d sw_c16 sw_h16 (82, [r0, vi x1, vi x2, r3], [], h, kc, ks) Q := by
  refine w_c32 rfl (by decide) 24 (by decide) ?_
  exact k

theorem k16_84 {P : s_P} {d : Nat} {Q : s_O → Prop} {h : s_H} {kc ks : Nat} {r0 : Term} {x1 x2 : Int} {r3 : Term} {s0 : Int}  (k : Q (.inl (some (vi s0)), h, kc, ks))   : wr P d sw_c16 sw_h16 (84, [r0, vi x1, vi x2, r3], [vi s0], h, kc, ks) Q := by
  exact w_iret rfl k

/-! 17: FormulaWorks.derive(I)I -/
theorem k17_0 {P : s_P} {d : Nat} {Q : s_O → Prop} {h : s_H} {kc ks : Nat} {r0 : Term} {x1 : Int} {t2 : Term} {q2 : Nat} {f3 : List Term} (g4 : s_get h q2 = some (1, 10, f3)) (k : wm P d 93 [.index q2, vi x1] h (wq P d sw_c17 sw_h17 5 [.index q2, vi x1, t2] [] kc ks Q)) (e_q2 : r0 = .index q2 := by first | rfl | assumption) (y1 : s_ty r0 = 3 := by first | rfl | assumption)  : wr P d sw_c17 sw_h17 (0, [r0, vi x1, t2], [], h, kc, ks) Q := by
  refine w_ld rfl rfl (Or.inr (Or.inr ⟨by decide, y1⟩)) ?_
  refine w_ld rfl rfl (Or.inl ⟨by decide, rfl⟩) ?_
  subst e_q2
  exact w_cv rfl [.index q2, vi x1] [] rfl rfl (s_wt_4 rfl) rfl g4 k

theorem k17_5 {P : s_P} {d : Nat} {Q : s_O → Prop} {h : s_H} {kc ks : Nat} {r0 : Term} {x1 : Int} {t2 s0 : Term} {q2 : Nat} {f3 : List Term} {z5 : Int} (g4 : s_get h q2 = some (1, 8, f3)) (k1 : z5 ≠ 1 → wr P d sw_c17 sw_h17 (26, [r0, vi x1, .index q2], [], h, kc, ks) Q) (k2 : ¬ z5 ≠ 1 → wr P d sw_c17 sw_h17 (14, [r0, vi x1, .index q2], [], h, kc, ks) Q) (e_q2 : s0 = .index q2 := by first | rfl | assumption) (y1 : s_ty s0 = 3 := by first | rfl | assumption) (n6 : s_nth f3 0 = some (vi z5) := by first | rfl | assumption) (c7 : In3 z5 := by first | omega | assumption | (simp only [mk_len, List.length_map]; omega) | decide) : wr P d sw_c17 sw_h17 (5, [r0, vi x1, t2], [s0], h, kc, ks) Q := by
  refine w_st (ls' := [r0, vi x1, s0]) rfl (Or.inr ⟨by decide, y1⟩) rfl ?_
  refine w_ld rfl rfl (Or.inr (Or.inr ⟨by decide, y1⟩)) ?_
  subst e_q2
  refine w_getf rfl g4 n6 ?_
  refine w_c32 rfl (by decide) 1 (by decide) ?_
  exact w_if2 rfl c7 (by decide) k1 k2

theorem k17_14 {P : s_P} {d : Nat} {Q : s_O → Prop} {h : s_H} {kc ks : Nat} {r0 : Term} {x1 : Int} {r2 : Term} {q3 : Nat} {f4 : List Term} {v6 : Term} (g5 : s_get h q3 = some (1, 8, f4)) (k : wm P d 247 [v6] h (wq P d sw_c17 sw_h17 22 [r0, vi x1, .index q3] [r0] kc ks Q)) (e_q3 : r2 = .index q3 := by first | rfl | assumption) (y1 : s_ty r0 = 3 := by first | rfl | assumption) (y2 : s_ty r2 = 3 := by first | rfl | assumption) (n7 : s_nth f4 6 = some v6 := by first | rfl | assumption)  : wr P d sw_c17 sw_h17 (14, [r0, vi x1, r2], [], h, kc, ks) Q := by
  refine w_ld rfl rfl (Or.inr (Or.inr ⟨by decide, y1⟩)) ?_
  refine w_ld rfl rfl (Or.inr (Or.inr ⟨by decide, y2⟩)) ?_
  subst e_q3
  refine w_getf rfl g5 n7 ?_
  exact w_cs rfl [v6] [r0] rfl rfl (s_wt_4 rfl) k

theorem k17_22 {P : s_P} {d : Nat} {Q : s_O → Prop} {h : s_H} {kc ks : Nat} {r0 : Term} {x1 : Int} {r2 s0 s1 : Term} {q1 : Nat} {f2 : List Term} (g3 : s_get h q1 = some (1, 10, f2)) (k : wm P d 39 [.index q1, s1] h (wq P d sw_c17 sw_h17 25 [r0, vi x1, r2] [] kc ks Q)) (e_q1 : s0 = .index q1 := by first | rfl | assumption)  : wr P d sw_c17 sw_h17 (22, [r0, vi x1, r2], [s1, s0], h, kc, ks) Q := by
  subst e_q1
  exact w_cv rfl [.index q1, s1] [] rfl rfl (s_wt_4 rfl) rfl g3 k

theorem k17_25 {P : s_P} {d : Nat} {Q : s_O → Prop} {h : s_H} {kc ks : Nat} {r0 : Term} {x1 : Int} {r2 : Term} {s0 : Int}  (k : Q (.inl (some (vi s0)), h, kc, ks))   : wr P d sw_c17 sw_h17 (25, [r0, vi x1, r2], [vi s0], h, kc, ks) Q := by
  exact w_iret rfl k

theorem k17_26 {P : s_P} {d : Nat} {Q : s_O → Prop} {h : s_H} {kc ks : Nat} {r0 : Term} {x1 : Int} {r2 : Term}  (k : wm P d 52 [r2, vi 0] h (wq P d sw_c17 sw_h17 31 [r0, vi x1, r2] [] kc ks Q)) (y1 : s_ty r2 = 3 := by first | rfl | assumption)  : wr P d sw_c17 sw_h17 (26, [r0, vi x1, r2], [], h, kc, ks) Q := by
  refine w_ld rfl rfl (Or.inr (Or.inr ⟨by decide, y1⟩)) ?_
  refine w_c32 rfl (by decide) 0 (by decide) ?_
  exact w_cs rfl [r2, vi 0] [] rfl rfl (s_wt_4 rfl) k

theorem k17_31 {P : s_P} {d : Nat} {Q : s_O → Prop} {h : s_H} {kc ks : Nat} {r0 : Term} {x1 : Int} {r2 : Term} {q2 : Nat} {f3 : List Term} {v5 v8 : Term} {q10 : Nat} {f11 : List Term} (g4 : s_get h q2 = some (1, 10, f3)) (g12 : s_get h q10 = some (1, 0, f11)) (k : wm P d 122 [.index q10, r2, v8] h (wq P d sw_c17 sw_h17 44 [.index q2, vi x1, r2] [.index q2] kc ks Q)) (e_q2 : r0 = .index q2 := by first | rfl | assumption) (e_q10 : v5 = .index q10 := by first | rfl | assumption) (y1 : s_ty r0 = 3 := by first | rfl | assumption) (n6 : s_nth f3 8 = some v5 := by first | rfl | assumption) (y7 : s_ty r2 = 3 := by first | rfl | assumption) (n9 : s_nth f3 17 = some v8 := by first | rfl | assumption)  : wr P d sw_c17 sw_h17 (31, [r0, vi x1, r2], [], h, kc, ks) Q := by
  refine w_ld rfl rfl (Or.inr (Or.inr ⟨by decide, y1⟩)) ?_
  refine w_ld rfl rfl (Or.inr (Or.inr ⟨by decide, y1⟩)) ?_
  subst e_q2
  refine w_getf rfl g4 n6 ?_
  refine w_ld rfl rfl (Or.inr (Or.inr ⟨by decide, y7⟩)) ?_
  refine w_ld rfl rfl (Or.inr (Or.inr ⟨by decide, rfl⟩)) ?_
  refine w_getf rfl g4 n9 ?_
  subst e_q10
  exact w_cv rfl [.index q10, r2, v8] [.index q2] rfl rfl (s_wt_4 rfl) rfl g12 k

theorem k17_44 {P : s_P} {d : Nat} {Q : s_O → Prop} {h : s_H} {kc ks : Nat} {r0 : Term} {x1 : Int} {r2 s0 s1 : Term} {q1 : Nat} {f2 : List Term} (g3 : s_get h q1 = some (1, 10, f2)) (k : wm P d 37 [.index q1, s1] h (wq P d sw_c17 sw_h17 47 [r0, vi x1, r2] [] kc ks Q)) (e_q1 : s0 = .index q1 := by first | rfl | assumption)  : wr P d sw_c17 sw_h17 (44, [r0, vi x1, r2], [s1, s0], h, kc, ks) Q := by
  subst e_q1
  exact w_cv rfl [.index q1, s1] [] rfl rfl (s_wt_4 rfl) rfl g3 k

theorem k17_47 {P : s_P} {d : Nat} {Q : s_O → Prop} {h : s_H} {kc ks : Nat} {r0 : Term} {x1 : Int} {r2 : Term} {s0 : Int}  (k : Q (.inl (some (vi s0)), h, kc, ks))   : wr P d sw_c17 sw_h17 (47, [r0, vi x1, r2], [vi s0], h, kc, ks) Q := by
  exact w_iret rfl k

/-! 18: FormulaWorks.determinant(I)I -/
theorem k18_0 {P : s_P} {d : Nat} {Q : s_O → Prop} {h : s_H} {kc ks : Nat} {r0 : Term} {x1 : Int} {t2 t3 : Term} {q2 : Nat} {f3 : List Term} (g4 : s_get h q2 = some (1, 10, f3)) (k : wm P d 64 [.index q2, vi x1, vi 2] h (wq P d sw_c18 sw_h18 6 [.index q2, vi x1, t2, t3] [] kc ks Q)) (e_q2 : r0 = .index q2 := by first | rfl | assumption) (y1 : s_ty r0 = 3 := by first | rfl | assumption)  : wr P d sw_c18 sw_h18 (0, [r0, vi x1, t2, t3], [], h, kc, ks) Q := by
  refine w_ld rfl rfl (Or.inr (Or.inr ⟨by decide, y1⟩)) ?_
  refine w_ld rfl rfl (Or.inl ⟨by decide, rfl⟩) ?_
  refine w_c32 rfl (by decide) 2 (by decide) ?_
  subst e_q2
  exact w_cv rfl [.index q2, vi x1, vi 2] [] rfl rfl (s_wt_4 rfl) rfl g4 k

theorem k18_6 {P : s_P} {d : Nat} {Q : s_O → Prop} {h : s_H} {kc ks : Nat} {r0 : Term} {x1 : Int} {t2 t3 s0 : Term}  (k : wm P d 56 [s0] h (wq P d sw_c18 sw_h18 11 [r0, vi x1, s0, t3] [] kc ks Q)) (y1 : s_ty s0 = 3 := by first | rfl | assumption)  : wr P d sw_c18 sw_h18 (6, [r0, vi x1, t2, t3], [s0], h, kc, ks) Q := by
  refine w_st (ls' := [r0, vi x1, s0, t3]) rfl (Or.inr ⟨by decide, y1⟩) rfl ?_
  refine w_ld rfl rfl (Or.inr (Or.inr ⟨by decide, y1⟩)) ?_
  exact w_cs rfl [s0] [] rfl rfl (s_wt_4 rfl) k

theorem k18_11 {P : s_P} {d : Nat} {Q : s_O → Prop} {h : s_H} {kc ks : Nat} {r0 : Term} {x1 : Int} {r2 t3 : Term} {q2 : Nat} {f3 : List Term} {z5 : Int} {q8 : Nat} {f9 : List Term} {v11 : Term} {q13 : Nat} {f14 : List Term} (g4 : s_get h q2 = some (1, 8, f3)) (g10 : s_get h q8 = some (1, 10, f9)) (g15 : s_get h q13 = some (1, 2, f14)) (k : wm P d 139 [.index q13, .index q2, vi ((zi 27 1 z5) - 1)] h (wq P d sw_c18 sw_h18 29 [.index q8, vi x1, .index q2, vi ((zi 27 1 z5) - 1)] [] kc ks Q)) (e_q2 : r2 = .index q2 := by first | rfl | assumption) (e_q8 : r0 = .index q8 := by first | rfl | assumption) (e_q13 : v11 = .index q13 := by first | rfl | assumption) (y1 : s_ty r2 = 3 := by first | rfl | assumption) (n6 : s_nth f3 3 = some (vi z5) := by first | rfl | assumption) (y7 : s_ty r0 = 3 := by first | rfl | assumption) (n12 : s_nth f9 10 = some v11 := by first | rfl | assumption)  : wr P d sw_c18 sw_h18 (11, [r0, vi x1, r2, t3], [], h, kc, ks) Q := by
  refine w_c32 rfl (by decide) 1 (by decide) ?_
  refine w_ld rfl rfl (Or.inr (Or.inr ⟨by decide, y1⟩)) ?_
  subst e_q2
  refine w_getf rfl g4 n6 ?_
  refine w_ib rfl (by decide) ?_
  refine w_c32 rfl (by decide) 1 (by decide) ?_
  refine w_isub rfl ?_
  refine w_st (ls' := [r0, vi x1, .index q2, vi ((zi 27 1 z5) - 1)]) rfl (Or.inl ⟨by decide, rfl⟩) rfl ?_
  refine w_ld rfl rfl (Or.inr (Or.inr ⟨by decide, y7⟩)) ?_
  subst e_q8
  refine w_getf rfl g10 n12 ?_
  refine w_ld rfl rfl (Or.inr (Or.inr ⟨by decide, rfl⟩)) ?_
  refine w_ld rfl rfl (Or.inl ⟨by decide, rfl⟩) ?_
  subst e_q13
  exact w_cv rfl [.index q13, .index q2, vi ((zi 27 1 z5) - 1)] [] rfl rfl (s_wt_4 rfl) rfl g15 k

theorem k18_29 {P : s_P} {d : Nat} {Q : s_O → Prop} {h : s_H} {kc ks : Nat} {r0 : Term} {x1 : Int} {r2 : Term} {x3 : Int} {q2 : Nat} {f3 : List Term} {v5 : Term} {q7 : Nat} {f8 : List Term} (g4 : s_get h q2 = some (1, 10, f3)) (g9 : s_get h q7 = some (1, 2, f8)) (k : wm P d 141 [.index q7, vi x3] h (wq P d sw_c18 sw_h18 38 [.index q2, vi x1, r2, vi x3] [.index q2] kc ks Q)) (e_q2 : r0 = .index q2 := by first | rfl | assumption) (e_q7 : v5 = .index q7 := by first | rfl | assumption) (y1 : s_ty r0 = 3 := by first | rfl | assumption) (n6 : s_nth f3 10 = some v5 := by first | rfl | assumption)  : wr P d sw_c18 sw_h18 (29, [r0, vi x1, r2, vi x3], [], h, kc, ks) Q := by
  refine w_ld rfl rfl (Or.inr (Or.inr ⟨by decide, y1⟩)) ?_
  refine w_ld rfl rfl (Or.inr (Or.inr ⟨by decide, y1⟩)) ?_
  subst e_q2
  refine w_getf rfl g4 n6 ?_
  refine w_ld rfl rfl (Or.inl ⟨by decide, rfl⟩) ?_
  subst e_q7
  exact w_cv rfl [.index q7, vi x3] [.index q2] rfl rfl (s_wt_4 rfl) rfl g9 k

theorem k18_38 {P : s_P} {d : Nat} {Q : s_O → Prop} {h : s_H} {kc ks : Nat} {r0 : Term} {x1 : Int} {r2 : Term} {x3 : Int} {s0 s1 : Term} {q1 : Nat} {f2 : List Term} (g3 : s_get h q1 = some (1, 10, f2)) (k : wm P d 41 [.index q1, s1] h (wq P d sw_c18 sw_h18 41 [r0, vi x1, r2, vi x3] [] kc ks Q)) (e_q1 : s0 = .index q1 := by first | rfl | assumption)  : wr P d sw_c18 sw_h18 (38, [r0, vi x1, r2, vi x3], [s1, s0], h, kc, ks) Q := by
  subst e_q1
  exact w_cv rfl [.index q1, s1] [] rfl rfl (s_wt_4 rfl) rfl g3 k

theorem k18_41 {P : s_P} {d : Nat} {Q : s_O → Prop} {h : s_H} {kc ks : Nat} {r0 : Term} {x1 : Int} {r2 : Term} {x3 s0 : Int}  (k : Q (.inl (some (vi s0)), h, kc, ks))   : wr P d sw_c18 sw_h18 (41, [r0, vi x1, r2, vi x3], [vi s0], h, kc, ks) Q := by
  exact w_iret rfl k

/-! 19: FormulaWorks.divided(III)I -/
theorem k19_0 {P : s_P} {d : Nat} {Q : s_O → Prop} {h : s_H} {kc ks : Nat} {r0 : Term} {x1 x2 x3 : Int} {t4 t5 : Term} {q2 : Nat} {f3 : List Term} (g4 : s_get h q2 = some (1, 10, f3)) (k : wm P d 93 [.index q2, vi x1] h (wq P d sw_c19 sw_h19 5 [.index q2, vi x1, vi x2, vi x3, t4, t5] [] kc ks Q)) (e_q2 : r0 = .index q2 := by first | rfl | assumption) (y1 : s_ty r0 = 3 := by first | rfl | assumption)  : wr P d sw_c19 sw_h19 (0, [r0, vi x1, vi x2, vi x3, t4, t5], [], h, kc, ks) Q := by
  refine w_ld rfl rfl (Or.inr (Or.inr ⟨by decide, y1⟩)) ?_
  refine w_ld rfl rfl (Or.inl ⟨by decide, rfl⟩) ?_
  subst e_q2
  exact w_cv rfl [.index q2, vi x1] [] rfl rfl (s_wt_4 rfl) rfl g4 k

theorem k19_5 {P : s_P} {d : Nat} {Q : s_O → Prop} {h : s_H} {kc ks : Nat} {r0 : Term} {x1 x2 x3 : Int} {t4 t5 s0 : Term} {q3 : Nat} {f4 : List Term} (g5 : s_get h q3 = some (1, 10, f4)) (k : wm P d 93 [.index q3, vi x2] h (wq P d sw_c19 sw_h19 12 [.index q3, vi x1, vi x2, vi x3, s0, t5] [] kc ks Q)) (e_q3 : r0 = .index q3 := by first | rfl | assumption) (y1 : s_ty s0 = 3 := by first | rfl | assumption) (y2 : s_ty r0 = 3 := by first | rfl | assumption)  : wr P d sw_c19 sw_h19 (5, [r0, vi x1, vi x2, vi x3, t4, t5], [s0], h, kc, ks) Q := by
  refine w_st (ls' := [r0, vi x1, vi x2, vi x3, s0, t5]) rfl (Or.inr ⟨by decide, y1⟩) rfl ?_
  refine w_ld rfl rfl (Or.inr (Or.inr ⟨by decide, y2⟩)) ?_
  refine w_ld rfl rfl (Or.inl ⟨by decide, rfl⟩) ?_
  subst e_q3
  exact w_cv rfl [.index q3, vi x2] [] rfl rfl (s_wt_4 rfl) rfl g5 k

theorem k19_12 {P : s_P} {d : Nat} {Q : s_O → Prop} {h : s_H} {kc ks : Nat} {r0 : Term} {x1 x2 x3 : Int} {r4 t5 s0 : Term}  (k : wm P d 58 [r4] h (wq P d sw_c19 sw_h19 19 [r0, vi x1, vi x2, vi x3, r4, s0] [] kc ks Q)) (y1 : s_ty r4 = 3 := by first | rfl | assumption) (y2 : s_ty s0 = 3 := by first | rfl | assumption)  : wr P d sw_c19 sw_h19 (12, [r0, vi x1, vi x2, vi x3, r4, t5], [s0], h, kc, ks) Q := by
  refine w_st (ls' := [r0, vi x1, vi x2, vi x3, r4, s0]) rfl (Or.inr ⟨by decide, y2⟩) (s_stK_r (pre := [r0, vi x1, vi x2, vi x3]) y1) ?_
  refine w_ld rfl rfl (Or.inr (Or.inr ⟨by decide, y1⟩)) ?_
  exact w_cs rfl [r4] [] rfl rfl (s_wt_4 rfl) k

theorem k19_19 {P : s_P} {d : Nat} {Q : s_O → Prop} {h : s_H} {kc ks : Nat} {r0 : Term} {x1 x2 x3 : Int} {r4 r5 : Term}  (k : wm P d 58 [r5] h (wq P d sw_c19 sw_h19 24 [r0, vi x1, vi x2, vi x3, r4, r5] [] kc ks Q)) (y1 : s_ty r5 = 3 := by first | rfl | assumption)  : wr P d sw_c19 sw_h19 (19, [r0, vi x1, vi x2, vi x3, r4, r5], [], h, kc, ks) Q := by
  refine w_ld rfl rfl (Or.inr (Or.inr ⟨by decide, y1⟩)) ?_
  exact w_cs rfl [r5] [] rfl rfl (s_wt_4 rfl) k

theorem k19_24 {P : s_P} {d : Nat} {Q : s_O → Prop} {h : s_H} {kc ks : Nat} {r0 : Term} {x1 x2 x3 : Int} {r4 r5 : Term}  (k : wm P d 59 [vi x3] h (wq P d sw_c19 sw_h19 28 [r0, vi x1, vi x2, vi x3, r4, r5] [] kc ks Q))   : wr P d sw_c19 sw_h19 (24, [r0, vi x1, vi x2, vi x3, r4, r5], [], h, kc, ks) Q := by
  refine w_ld rfl rfl (Or.inl ⟨by decide, rfl⟩) ?_
  exact w_cs rfl [vi x3] [] rfl rfl (s_wt_4 rfl) k

theorem k19_28 {P : s_P} {d : Nat} {Q : s_O → Prop} {h : s_H} {kc ks : Nat} {r0 : Term} {x1 x2 x3 : Int} {r4 r5 : Term} {q2 : Nat} {f3 : List Term} {v5 : Term} {q7 : Nat} {f8 : List Term} {z10 : Int} (g4 : s_get h q2 = some (1, 8, f3)) (g9 : s_get h q7 = some (1, 4, f8)) (k1 : 0 ≤ z10 → wr P d sw_c19 sw_h19 (47, [r0, vi x1, vi x2, vi x3, r4, .index q2], [], h, kc, ks) Q) (k2 : ¬ 0 ≤ z10 → wr P d sw_c19 sw_h19 (39, [r0, vi x1, vi x2, vi x3, r4, .index q2], [], h, kc, ks) Q) (e_q2 : r5 = .index q2 := by first | rfl | assumption) (e_q7 : v5 = .index q7 := by first | rfl | assumption) (y1 : s_ty r5 = 3 := by first | rfl | assumption) (n6 : s_nth f3 1 = some v5 := by first | rfl | assumption) (n11 : s_nth f8 1 = some (vi z10) := by first | rfl | assumption) (c12 : In3 z10 := by first | omega | assumption | (simp only [mk_len, List.length_map]; omega) | decide) : wr P d sw_c19 sw_h19 (28, [r0, vi x1, vi x2, vi x3, r4, r5], [], h, kc, ks) Q := by
  refine w_ld rfl rfl (Or.inr (Or.inr ⟨by decide, y1⟩)) ?_
  subst e_q2
  refine w_getf rfl g4 n6 ?_
  subst e_q7
  refine w_getf rfl g9 n11 ?_
  exact w_if1 rfl c12 k1 k2

theorem k19_39 {P : s_P} {d : Nat} {Q : s_O → Prop} {h : s_H} {kc ks : Nat} {r0 : Term} {x1 x2 x3 : Int} {r4 r5 : Term}  (k : Q (.inr 2, h, kc + 1, ks + 6))   : wr P d sw_c19 sw_h19 (39, [r0, vi x1, vi x2, vi x3, r4, r5], [], h, kc, ks) Q := by
  exact w_throw rfl (s_wt_4 rfl) k

theorem k19_47 {P : s_P} {d : Nat} {Q : s_O → Prop} {h : s_H} {kc ks : Nat} {r0 : Term} {x1 x2 x3 : Int} {r4 r5 : Term} {q2 : Nat} {f3 : List Term} {v5 : Term} {q8 : Nat} {f9 : List Term} {v11 : Term} {q14 : Nat} {f15 : List Term} {v17 : Term} (g4 : s_get h q2 = some (1, 10, f3)) (g10 : s_get h q8 = some (1, 8, f9)) (g16 : s_get h q14 = some (1, 8, f15)) (k1 : x3 ≠ 0 → wr P d sw_c19 sw_h19 (69, [.index q2, vi x1, vi x2, vi x3, .index q8, .index q14], [v17, v11, v5], h, kc, ks) Q) (k2 : ¬ x3 ≠ 0 → wr P d sw_c19 sw_h19 (65, [.index q2, vi x1, vi x2, vi x3, .index q8, .index q14], [v17, v11, v5], h, kc, ks) Q) (e_q2 : r0 = .index q2 := by first | rfl | assumption) (e_q8 : r4 = .index q8 := by first | rfl | assumption) (e_q14 : r5 = .index q14 := by first | rfl | assumption) (y1 : s_ty r0 = 3 := by first | rfl | assumption) (n6 : s_nth f3 8 = some v5 := by first | rfl | assumption) (y7 : s_ty r4 = 3 := by first | rfl | assumption) (n12 : s_nth f9 1 = some v11 := by first | rfl | assumption) (y13 : s_ty r5 = 3 := by first | rfl | assumption) (n18 : s_nth f15 1 = some v17 := by first | rfl | assumption) (c19 : In3 x3 := by first | omega | assumption | (simp only [mk_len, List.length_map]; omega) | decide) : wr P d sw_c19 sw_h19 (47, [r0, vi x1, vi x2, vi x3, r4, r5], [], h, kc, ks) Q := by
  refine w_ld rfl rfl (Or.inr (Or.inr ⟨by decide, y1⟩)) ?_
  subst e_q2
  refine w_getf rfl g4 n6 ?_
  refine w_ld rfl rfl (Or.inr (Or.inr ⟨by decide, y7⟩)) ?_
  subst e_q8
  refine w_getf rfl g10 n12 ?_
  refine w_ld rfl rfl (Or.inr (Or.inr ⟨by decide, y13⟩)) ?_
  subst e_q14
  refine w_getf rfl g16 n18 ?_
  refine w_ld rfl rfl (Or.inl ⟨by decide, rfl⟩) ?_
  exact w_if1 rfl c19 k1 k2

theorem k19_65 {P : s_P} {d : Nat} {Q : s_O → Prop} {h : s_H} {kc ks : Nat} {r0 : Term} {x1 x2 x3 : Int} {r4 r5 s0 s1 s2 : Term}  (k : wr P d sw_c19 sw_h19 (70, [r0, vi x1, vi x2, vi x3, r4, r5], [vi 1, s2, s1, s0], h, kc, ks) Q)   : wr P d sw_c19 sw_h19 (65, [r0, vi x1, vi x2, vi x3, r4, r5], [s2, s1, s0], h, kc, ks) Q := by
  refine w_c32 rfl (by decide) 1 (by decide) ?_
  refine w_goto rfl ?_
  exact k

theorem k19_69 {P : s_P} {d : Nat} {Q : s_O → Prop} {h : s_H} {kc ks : Nat} {r0 : Term} {x1 x2 x3 : Int} {r4 r5 s0 s1 s2 : Term}  (k : wr P d sw_c19 sw_h19 (70, [r0, vi x1, vi x2, vi x3, r4, r5], [vi 0, s2, s1, s0], h, kc, ks) Q)   : wr P d sw_c19 sw_h19 (69, [r0, vi x1, vi x2, vi x3, r4, r5], [s2, s1, s0], h, kc, ks) Q := by
  refine w_c32 rfl (by decide) 0 (by decide) ?_
  exact k

theorem k19_70 {P : s_P} {d : Nat} {Q : s_O → Prop} {h : s_H} {kc ks : Nat} {r0 : Term} {x1 x2 x3 : Int} {r4 r5 s0 s1 s2 : Term} {s3 : Int} {q2 : Nat} {f3 : List Term} {v5 : Term} {q7 : Nat} {f8 : List Term} (g4 : s_get h q2 = some (1, 10, f3)) (g9 : s_get h q7 = some (1, 0, f8)) (k : wm P d 117 [.index q7, s1, s2, vi s3, v5] h (wq P d sw_c19 sw_h19 77 [.index q2, vi x1, vi x2, vi x3, r4, r5] [] kc ks Q)) (e_q2 : r0 = .index q2 := by first | rfl | assumption) (e_q7 : s0 = .index q7 := by first | rfl | assumption) (y1 : s_ty r0 = 3 := by first | rfl | assumption) (n6 : s_nth f3 16 = some v5 := by first | rfl | assumption)  : wr P d sw_c19 sw_h19 (70, [r0, vi x1, vi x2, vi x3, r4, r5], [vi s3, s2, s1, s0], h, kc, ks) Q := by
  refine w_ld rfl rfl (Or.inr (Or.inr ⟨by decide, y1⟩)) ?_
  subst e_q2
  refine w_getf rfl g4 n6 ?_
  subst e_q7
  exact w_cv rfl [.index q7, s1, s2, vi s3, v5] [] rfl rfl (s_wt_4 rfl) rfl g9 k

theorem k19_77 {P : s_P} {d : Nat} {Q : s_O → Prop} {h : s_H} {kc ks : Nat} {r0 : Term} {x1 x2 x3 : Int} {r4 r5 : Term} {q2 : Nat} {f3 : List Term} {v5 : Term} (g4 : s_get h q2 = some (1, 10, f3)) (k : wm P d 41 [.index q2, v5] h (wq P d sw_c19 sw_h19 85 [.index q2, vi x1, vi x2, vi x3, r4, r5] [] kc ks Q)) (e_q2 : r0 = .index q2 := by first | rfl | assumption) (y1 : s_ty r0 = 3 := by first | rfl | assumption) (n6 : s_nth f3 16 = some v5 := by first | rfl | assumption)  : wr P d sw_c19 sw_h19 (77, [r0, vi x1, vi x2, vi x3, r4, r5], [], h, kc, ks) Q := by
  refine w_ld rfl rfl (Or.inr (Or.inr ⟨by decide, y1⟩)) ?_
  refine w_ld rfl rfl (Or.inr (Or.inr ⟨by decide, y1⟩)) ?_
  subst e_q2
  refine w_getf rfl g4 n6 ?_
  exact w_cv rfl [.index q2, v5] [] rfl rfl (s_wt_4 rfl) rfl g4 k

theorem k19_85 {P : s_P} {d : Nat} {Q : s_O → Prop} {h : s_H} {kc ks : Nat} {r0 : Term} {x1 x2 x3 : Int} {r4 r5 : Term} {s0 : Int}  (k : Q (.inl (some (vi s0)), h, kc, ks))   : wr P d sw_c19 sw_h19 (85, [r0, vi x1, vi x2, vi x3, r4, r5], [vi s0], h, kc, ks) Q := by
  exact w_iret rfl k

/-! 20: FormulaWorks.enter(I)I -/
theorem k20_0 {P : s_P} {d : Nat} {Q : s_O → Prop} {h : s_H} {kc ks : Nat} {r0 : Term} {x1 : Int} {t2 : Term}  (k : wm P d 51 [vi x1, vi 16] h (wq P d sw_c20 sw_h20 6 [r0, vi x1, t2] [] kc ks Q))   : wr P d sw_c20 sw_h20 (0, [r0, vi x1, t2], [], h, kc, ks) Q := by
  refine w_ld rfl rfl (Or.inl ⟨by decide, rfl⟩) ?_
  refine w_c32 rfl (by decide) 16 (by decide) ?_
  exact w_cs rfl [vi x1, vi 16] [] rfl rfl (s_wt_4 rfl) k

theorem k20_6 {P : s_P} {d : Nat} {Q : s_O → Prop} {h : s_H} {kc ks : Nat} {r0 : Term} {x1 : Int} {t2 : Term} {q2 : Nat} {f3 : List Term} {z5 : Int} (g4 : s_get h q2 = some (1, 10, f3)) (k1 : z5 ≤ 60 → wr P d sw_c20 sw_h20 (23, [.index q2, vi x1, t2], [], h, kc, ks) Q) (k2 : ¬ z5 ≤ 60 → wr P d sw_c20 sw_h20 (15, [.index q2, vi x1, t2], [], h, kc, ks) Q) (e_q2 : r0 = .index q2 := by first | rfl | assumption) (y1 : s_ty r0 = 3 := by first | rfl | assumption) (n6 : s_nth f3 3 = some (vi z5) := by first | rfl | assumption) (c7 : In3 z5 := by first | omega | assumption | (simp only [mk_len, List.length_map]; omega) | decide) : wr P d sw_c20 sw_h20 (6, [r0, vi x1, t2], [], h, kc, ks) Q := by
  refine w_ld rfl rfl (Or.inr (Or.inr ⟨by decide, y1⟩)) ?_
  subst e_q2
  refine w_getf rfl g4 n6 ?_
  refine w_c32 rfl (by decide) 60 (by decide) ?_
  exact w_if2 rfl c7 (by decide) k1 k2

theorem k20_15 {P : s_P} {d : Nat} {Q : s_O → Prop} {h : s_H} {kc ks : Nat} {r0 : Term} {x1 : Int} {t2 : Term}  (k : Q (.inr 1, h, kc + 1, ks + 6))   : wr P d sw_c20 sw_h20 (15, [r0, vi x1, t2], [], h, kc, ks) Q := by
  exact w_throw rfl (s_wt_4 rfl) k

theorem k20_23 {P : s_P} {d : Nat} {Q : s_O → Prop} {h : s_H} {kc ks : Nat} {r0 : Term} {x1 : Int} {t2 : Term} {q2 : Nat} {f3 : List Term} {z5 : Int} {v7 v9 : Term} {q11 : Nat} {f12 : List Term} (g4 : s_get h q2 = some (1, 10, f3)) (g13 : s_get h q11 = some (1, 7, f12)) (k : wm P d 252 [.index q11, vi x1, v9, vi z5] h (wq P d sw_c20 sw_h20 41 [.index q2, vi x1, vi z5] [] kc ks Q)) (e_q2 : r0 = .index q2 := by first | rfl | assumption) (e_q11 : v7 = .index q11 := by first | rfl | assumption) (y1 : s_ty r0 = 3 := by first | rfl | assumption) (n6 : s_nth f3 3 = some (vi z5) := by first | rfl | assumption) (n8 : s_nth f3 14 = some v7 := by first | rfl | assumption) (n10 : s_nth f3 2 = some v9 := by first | rfl | assumption)  : wr P d sw_c20 sw_h20 (23, [r0, vi x1, t2], [], h, kc, ks) Q := by
  refine w_ld rfl rfl (Or.inr (Or.inr ⟨by decide, y1⟩)) ?_
  subst e_q2
  refine w_getf rfl g4 n6 ?_
  refine w_st (ls' := [.index q2, vi x1, vi z5]) rfl (Or.inl ⟨by decide, rfl⟩) rfl ?_
  refine w_ld rfl rfl (Or.inr (Or.inr ⟨by decide, rfl⟩)) ?_
  refine w_getf rfl g4 n8 ?_
  refine w_ld rfl rfl (Or.inl ⟨by decide, rfl⟩) ?_
  refine w_ld rfl rfl (Or.inr (Or.inr ⟨by decide, rfl⟩)) ?_
  refine w_getf rfl g4 n10 ?_
  refine w_ld rfl rfl (Or.inl ⟨by decide, rfl⟩) ?_
  subst e_q11
  exact w_cv rfl [.index q11, vi x1, v9, vi z5] [] rfl rfl (s_wt_4 rfl) rfl g13 k

theorem k20_41 {P : s_P} {d : Nat} {Q : s_O → Prop} {h : s_H} {kc ks : Nat} {r0 : Term} {x1 x2 : Int} {q2 : Nat} {f3 : List Term} (g4 : s_get h q2 = some (1, 10, f3)) (k : Q (.inl (some (vi x2)), (hp h q2 (1, 10, f3.set 3 (vi 0))), kc, ks)) (e_q2 : r0 = .index q2 := by first | rfl | assumption) (y1 : s_ty r0 = 3 := by first | rfl | assumption) (l5 : 3 < f3.length := by first | exact Nat.le_of_ble_eq_true rfl | omega | assumption) (c6 : 0 < q2 := by first | omega | assumption | (simp only [mk_len, List.length_map]; omega) | decide) : wr P d sw_c20 sw_h20 (41, [r0, vi x1, vi x2], [], h, kc, ks) Q := by
  refine w_ld rfl rfl (Or.inr (Or.inr ⟨by decide, y1⟩)) ?_
  refine w_c32 rfl (by decide) 0 (by decide) ?_
  subst e_q2
  refine w_putf rfl g4 (Nat.ble_eq_true_of_le c6) rfl (Nat.ble_eq_true_of_le l5) ?_
  refine w_ld rfl rfl (Or.inl ⟨by decide, rfl⟩) ?_
  exact w_iret rfl k

/-! 21: FormulaWorks.entry(III)I -/
theorem k21_0 {P : s_P} {d : Nat} {Q : s_O → Prop} {h : s_H} {kc ks : Nat} {r0 : Term} {x1 x2 x3 : Int} {t4 : Term} {q2 : Nat} {f3 : List Term} (g4 : s_get h q2 = some (1, 10, f3)) (k : wm P d 64 [.index q2, vi x1, vi 2] h (wq P d sw_c21 sw_h21 6 [.index q2, vi x1, vi x2, vi x3, t4] [] kc ks Q)) (e_q2 : r0 = .index q2 := by first | rfl | assumption) (y1 : s_ty r0 = 3 := by first | rfl | assumption)  : wr P d sw_c21 sw_h21 (0, [r0, vi x1, vi x2, vi x3, t4], [], h, kc, ks) Q := by
  refine w_ld rfl rfl (Or.inr (Or.inr ⟨by decide, y1⟩)) ?_
  refine w_ld rfl rfl (Or.inl ⟨by decide, rfl⟩) ?_
  refine w_c32 rfl (by decide) 2 (by decide) ?_
  subst e_q2
  exact w_cv rfl [.index q2, vi x1, vi 2] [] rfl rfl (s_wt_4 rfl) rfl g4 k

theorem k21_6 {P : s_P} {d : Nat} {Q : s_O → Prop} {h : s_H} {kc ks : Nat} {r0 : Term} {x1 x2 x3 : Int} {t4 s0 : Term} {q2 : Nat} {f3 : List Term} {z5 : Int} (g4 : s_get h q2 = some (1, 8, f3)) (k : wm P d 51 [vi x2, vi z5] h (wq P d sw_c21 sw_h21 17 [r0, vi x1, vi x2, vi x3, .index q2] [] kc ks Q)) (e_q2 : s0 = .index q2 := by first | rfl | assumption) (y1 : s_ty s0 = 3 := by first | rfl | assumption) (n6 : s_nth f3 3 = some (vi z5) := by first | rfl | assumption)  : wr P d sw_c21 sw_h21 (6, [r0, vi x1, vi x2, vi x3, t4], [s0], h, kc, ks) Q := by
  refine w_st (ls' := [r0, vi x1, vi x2, vi x3, s0]) rfl (Or.inr ⟨by decide, y1⟩) rfl ?_
  refine w_ld rfl rfl (Or.inl ⟨by decide, rfl⟩) ?_
  refine w_ld rfl rfl (Or.inr (Or.inr ⟨by decide, y1⟩)) ?_
  subst e_q2
  refine w_getf rfl g4 n6 ?_
  exact w_cs rfl [vi x2, vi z5] [] rfl rfl (s_wt_4 rfl) k

theorem k21_17 {P : s_P} {d : Nat} {Q : s_O → Prop} {h : s_H} {kc ks : Nat} {r0 : Term} {x1 x2 x3 : Int} {r4 : Term} {q2 : Nat} {f3 : List Term} {z5 : Int} (g4 : s_get h q2 = some (1, 8, f3)) (k : wm P d 51 [vi x3, vi z5] h (wq P d sw_c21 sw_h21 26 [r0, vi x1, vi x2, vi x3, .index q2] [] kc ks Q)) (e_q2 : r4 = .index q2 := by first | rfl | assumption) (y1 : s_ty r4 = 3 := by first | rfl | assumption) (n6 : s_nth f3 4 = some (vi z5) := by first | rfl | assumption)  : wr P d sw_c21 sw_h21 (17, [r0, vi x1, vi x2, vi x3, r4], [], h, kc, ks) Q := by
  refine w_ld rfl rfl (Or.inl ⟨by decide, rfl⟩) ?_
  refine w_ld rfl rfl (Or.inr (Or.inr ⟨by decide, y1⟩)) ?_
  subst e_q2
  refine w_getf rfl g4 n6 ?_
  exact w_cs rfl [vi x3, vi z5] [] rfl rfl (s_wt_4 rfl) k

theorem k21_26 {P : s_P} {d : Nat} {Q : s_O → Prop} {h : s_H} {kc ks : Nat} {r0 : Term} {x1 x2 x3 : Int} {r4 : Term} {q3 : Nat} {f4 : List Term} (g5 : s_get h q3 = some (1, 8, f4)) (k : wm P d 265 [.index q3, vi x2, vi x3] h (wq P d sw_c21 sw_h21 34 [r0, vi x1, vi x2, vi x3, .index q3] [r0] kc ks Q)) (e_q3 : r4 = .index q3 := by first | rfl | assumption) (y1 : s_ty r0 = 3 := by first | rfl | assumption) (y2 : s_ty r4 = 3 := by first | rfl | assumption)  : wr P d sw_c21 sw_h21 (26, [r0, vi x1, vi x2, vi x3, r4], [], h, kc, ks) Q := by
  refine w_ld rfl rfl (Or.inr (Or.inr ⟨by decide, y1⟩)) ?_
  refine w_ld rfl rfl (Or.inr (Or.inr ⟨by decide, y2⟩)) ?_
  refine w_ld rfl rfl (Or.inl ⟨by decide, rfl⟩) ?_
  refine w_ld rfl rfl (Or.inl ⟨by decide, rfl⟩) ?_
  subst e_q3
  exact w_cv rfl [.index q3, vi x2, vi x3] [r0] rfl rfl (s_wt_4 rfl) rfl g5 k

theorem k21_34 {P : s_P} {d : Nat} {Q : s_O → Prop} {h : s_H} {kc ks : Nat} {r0 : Term} {x1 x2 x3 : Int} {r4 s0 s1 : Term} {q1 : Nat} {f2 : List Term} (g3 : s_get h q1 = some (1, 10, f2)) (k : wm P d 41 [.index q1, s1] h (wq P d sw_c21 sw_h21 37 [r0, vi x1, vi x2, vi x3, r4] [] kc ks Q)) (e_q1 : s0 = .index q1 := by first | rfl | assumption)  : wr P d sw_c21 sw_h21 (34, [r0, vi x1, vi x2, vi x3, r4], [s1, s0], h, kc, ks) Q := by
  subst e_q1
  exact w_cv rfl [.index q1, s1] [] rfl rfl (s_wt_4 rfl) rfl g3 k

theorem k21_37 {P : s_P} {d : Nat} {Q : s_O → Prop} {h : s_H} {kc ks : Nat} {r0 : Term} {x1 x2 x3 : Int} {r4 : Term} {s0 : Int}  (k : Q (.inl (some (vi s0)), h, kc, ks))   : wr P d sw_c21 sw_h21 (37, [r0, vi x1, vi x2, vi x3, r4], [vi s0], h, kc, ks) Q := by
  exact w_iret rfl k

/-! 22: FormulaWorks.exponential(I)I -/
theorem k22_0 {P : s_P} {d : Nat} {Q : s_O → Prop} {h : s_H} {kc ks : Nat} {r0 : Term} {x1 : Int} {t2 : Term} {q2 : Nat} {f3 : List Term} (g4 : s_get h q2 = some (1, 10, f3)) (k : wm P d 64 [.index q2, vi x1, vi 1] h (wq P d sw_c22 sw_h22 6 [.index q2, vi x1, t2] [] kc ks Q)) (e_q2 : r0 = .index q2 := by first | rfl | assumption) (y1 : s_ty r0 = 3 := by first | rfl | assumption)  : wr P d sw_c22 sw_h22 (0, [r0, vi x1, t2], [], h, kc, ks) Q := by
  refine w_ld rfl rfl (Or.inr (Or.inr ⟨by decide, y1⟩)) ?_
  refine w_ld rfl rfl (Or.inl ⟨by decide, rfl⟩) ?_
  refine w_c32 rfl (by decide) 1 (by decide) ?_
  subst e_q2
  exact w_cv rfl [.index q2, vi x1, vi 1] [] rfl rfl (s_wt_4 rfl) rfl g4 k

theorem k22_6 {P : s_P} {d : Nat} {Q : s_O → Prop} {h : s_H} {kc ks : Nat} {r0 : Term} {x1 : Int} {t2 s0 : Term} {q2 : Nat} {f3 : List Term} {v5 : Term} {q7 : Nat} {a8 : List Int} (g4 : s_get h q2 = some (1, 8, f3)) (g9 : s_get h q7 = some (0, 0, a8.map vi)) (k1 : gi a8 0 = 0 → wr P d sw_c22 sw_h22 (24, [r0, vi x1, .index q2], [], h, kc, ks) Q) (k2 : ¬ gi a8 0 = 0 → wr P d sw_c22 sw_h22 (16, [r0, vi x1, .index q2], [], h, kc, ks) Q) (e_q2 : s0 = .index q2 := by first | rfl | assumption) (e_q7 : v5 = .index q7 := by first | rfl | assumption) (y1 : s_ty s0 = 3 := by first | rfl | assumption) (n6 : s_nth f3 6 = some v5 := by first | rfl | assumption) (c10 : (0 : Int) < a8.length := by first | omega | assumption | (simp only [mk_len, List.length_map]; omega) | decide) (c11 : In3 (gi a8 0) := by first | omega | assumption | (simp only [mk_len, List.length_map]; omega) | decide) : wr P d sw_c22 sw_h22 (6, [r0, vi x1, t2], [s0], h, kc, ks) Q := by
  refine w_st (ls' := [r0, vi x1, s0]) rfl (Or.inr ⟨by decide, y1⟩) rfl ?_
  refine w_ld rfl rfl (Or.inr (Or.inr ⟨by decide, y1⟩)) ?_
  subst e_q2
  refine w_getf rfl g4 n6 ?_
  refine w_c32 rfl (by decide) 0 (by decide) ?_
  subst e_q7
  refine w_iald rfl g9 (Or.inl rfl) (by decide) (by decide) c10 ?_
  exact w_if1 rfl c11 k1 k2

theorem k22_16 {P : s_P} {d : Nat} {Q : s_O → Prop} {h : s_H} {kc ks : Nat} {r0 : Term} {x1 : Int} {r2 : Term}  (k : Q (.inr 1, h, kc + 1, ks + 6))   : wr P d sw_c22 sw_h22 (16, [r0, vi x1, r2], [], h, kc, ks) Q := by
  exact w_throw rfl (s_wt_4 rfl) k

theorem k22_24 {P : s_P} {d : Nat} {Q : s_O → Prop} {h : s_H} {kc ks : Nat} {r0 : Term} {x1 : Int} {r2 : Term} {q3 : Nat} {f4 : List Term} {v6 : Term} (g5 : s_get h q3 = some (1, 8, f4)) (k : wm P d 244 [v6] h (wq P d sw_c22 sw_h22 32 [r0, vi x1, .index q3] [r0] kc ks Q)) (e_q3 : r2 = .index q3 := by first | rfl | assumption) (y1 : s_ty r0 = 3 := by first | rfl | assumption) (y2 : s_ty r2 = 3 := by first | rfl | assumption) (n7 : s_nth f4 6 = some v6 := by first | rfl | assumption)  : wr P d sw_c22 sw_h22 (24, [r0, vi x1, r2], [], h, kc, ks) Q := by
  refine w_ld rfl rfl (Or.inr (Or.inr ⟨by decide, y1⟩)) ?_
  refine w_ld rfl rfl (Or.inr (Or.inr ⟨by decide, y2⟩)) ?_
  subst e_q3
  refine w_getf rfl g5 n7 ?_
  exact w_cs rfl [v6] [r0] rfl rfl (s_wt_4 rfl) k

theorem k22_32 {P : s_P} {d : Nat} {Q : s_O → Prop} {h : s_H} {kc ks : Nat} {r0 : Term} {x1 : Int} {r2 s0 s1 : Term} {q1 : Nat} {f2 : List Term} (g3 : s_get h q1 = some (1, 10, f2)) (k : wm P d 39 [.index q1, s1] h (wq P d sw_c22 sw_h22 35 [r0, vi x1, r2] [] kc ks Q)) (e_q1 : s0 = .index q1 := by first | rfl | assumption)  : wr P d sw_c22 sw_h22 (32, [r0, vi x1, r2], [s1, s0], h, kc, ks) Q := by
  subst e_q1
  exact w_cv rfl [.index q1, s1] [] rfl rfl (s_wt_4 rfl) rfl g3 k

theorem k22_35 {P : s_P} {d : Nat} {Q : s_O → Prop} {h : s_H} {kc ks : Nat} {r0 : Term} {x1 : Int} {r2 : Term} {s0 : Int}  (k : Q (.inl (some (vi s0)), h, kc, ks))   : wr P d sw_c22 sw_h22 (35, [r0, vi x1, r2], [vi s0], h, kc, ks) Q := by
  exact w_iret rfl k

/-! 23: FormulaWorks.factor(II)I -/
theorem k23_0 {P : s_P} {d : Nat} {Q : s_O → Prop} {h : s_H} {kc ks : Nat} {r0 : Term} {x1 x2 : Int} {q2 : Nat} {f3 : List Term} {v5 : Term} (g4 : s_get h q2 = some (1, 10, f3)) (k : wm P d 64 [.index q2, vi x1, vi 0] h (wq P d sw_c23 sw_h23 10 [.index q2, vi x1, vi x2] [v5] kc ks Q)) (e_q2 : r0 = .index q2 := by first | rfl | assumption) (y1 : s_ty r0 = 3 := by first | rfl | assumption) (n6 : s_nth f3 9 = some v5 := by first | rfl | assumption)  : wr P d sw_c23 sw_h23 (0, [r0, vi x1, vi x2], [], h, kc, ks) Q := by
  refine w_ld rfl rfl (Or.inr (Or.inr ⟨by decide, y1⟩)) ?_
  subst e_q2
  refine w_getf rfl g4 n6 ?_
  refine w_ld rfl rfl (Or.inr (Or.inr ⟨by decide, rfl⟩)) ?_
  refine w_ld rfl rfl (Or.inl ⟨by decide, rfl⟩) ?_
  refine w_c32 rfl (by decide) 0 (by decide) ?_
  exact w_cv rfl [.index q2, vi x1, vi 0] [v5] rfl rfl (s_wt_4 rfl) rfl g4 k

theorem k23_10 {P : s_P} {d : Nat} {Q : s_O → Prop} {h : s_H} {kc ks : Nat} {r0 : Term} {x1 x2 : Int} {s0 s1 : Term} {q1 : Nat} {f2 : List Term} (g3 : s_get h q1 = some (1, 8, f2)) (k : wm P d 266 [.index q1] h (wq P d sw_c23 sw_h23 13 [r0, vi x1, vi x2] [s0] kc ks Q)) (e_q1 : s1 = .index q1 := by first | rfl | assumption)  : wr P d sw_c23 sw_h23 (10, [r0, vi x1, vi x2], [s1, s0], h, kc, ks) Q := by
  subst e_q1
  exact w_cv rfl [.index q1] [s0] rfl rfl (s_wt_4 rfl) rfl g3 k

theorem k23_13 {P : s_P} {d : Nat} {Q : s_O → Prop} {h : s_H} {kc ks : Nat} {r0 : Term} {x1 x2 : Int} {s0 s1 : Term} {q1 : Nat} {f2 : List Term} (g3 : s_get h q1 = some (1, 3, f2)) (k : wm P d 153 [.index q1, s1, vi 0] h (wq P d sw_c23 sw_h23 17 [r0, vi x1, vi x2] [] kc ks Q)) (e_q1 : s0 = .index q1 := by first | rfl | assumption)  : wr P d sw_c23 sw_h23 (13, [r0, vi x1, vi x2], [s1, s0], h, kc, ks) Q := by
  refine w_c32 rfl (by decide) 0 (by decide) ?_
  subst e_q1
  exact w_cv rfl [.index q1, s1, vi 0] [] rfl rfl (s_wt_4 rfl) rfl g3 k

theorem k23_17 {P : s_P} {d : Nat} {Q : s_O → Prop} {h : s_H} {kc ks : Nat} {r0 : Term} {x1 x2 : Int} {q2 : Nat} {f3 : List Term} {v5 : Term} {q7 : Nat} {f8 : List Term} {z10 : Int} (g4 : s_get h q2 = some (1, 10, f3)) (g9 : s_get h q7 = some (1, 3, f8)) (k : wm P d 51 [vi x2, vi z10] h (wq P d sw_c23 sw_h23 28 [.index q2, vi x1, vi x2] [] kc ks Q)) (e_q2 : r0 = .index q2 := by first | rfl | assumption) (e_q7 : v5 = .index q7 := by first | rfl | assumption) (y1 : s_ty r0 = 3 := by first | rfl | assumption) (n6 : s_nth f3 9 = some v5 := by first | rfl | assumption) (n11 : s_nth f8 4 = some (vi z10) := by first | rfl | assumption)  : wr P d sw_c23 sw_h23 (17, [r0, vi x1, vi x2], [], h, kc, ks) Q := by
  refine w_ld rfl rfl (Or.inl ⟨by decide, rfl⟩) ?_
  refine w_ld rfl rfl (Or.inr (Or.inr ⟨by decide, y1⟩)) ?_
  subst e_q2
  refine w_getf rfl g4 n6 ?_
  subst e_q7
  refine w_getf rfl g9 n11 ?_
  exact w_cs rfl [vi x2, vi z10] [] rfl rfl (s_wt_4 rfl) k

theorem k23_28 {P : s_P} {d : Nat} {Q : s_O → Prop} {h : s_H} {kc ks : Nat} {r0 : Term} {x1 x2 : Int} {q2 : Nat} {f3 : List Term} {v5 : Term} {q7 : Nat} {f8 : List Term} {v10 : Term} {q12 : Nat} {a13 : List Term} {tg15 : Nat} {v16 : Term} (g4 : s_get h q2 = some (1, 10, f3)) (g9 : s_get h q7 = some (1, 3, f8)) (g14 : s_get h q12 = some (0, tg15, a13)) (k : wm P d 41 [.index q2, v16] h (wq P d sw_c23 sw_h23 41 [.index q2, vi x1, vi x2] [] kc ks Q)) (e_q2 : r0 = .index q2 := by first | rfl | assumption) (e_q7 : v5 = .index q7 := by first | rfl | assumption) (e_q12 : v10 = .index q12 := by first | rfl | assumption) (y1 : s_ty r0 = 3 := by first | rfl | assumption) (n6 : s_nth f3 9 = some v5 := by first | rfl | assumption) (n11 : s_nth f8 2 = some v10 := by first | rfl | assumption) (n17 : s_nth a13 (Int.toNat (x2)) = some v16 := by first | rfl | assumption) (u18 : tg15 = 2 ∨ tg15 = 3 ∨ tg15 = 4 := by first | decide | assumption) (c19 : In3 x2 := by first | omega | assumption | (simp only [mk_len, List.length_map]; omega) | decide) (c20 : 0 ≤ x2 := by first | omega | assumption | (simp only [mk_len, List.length_map]; omega) | decide) : wr P d sw_c23 sw_h23 (28, [r0, vi x1, vi x2], [], h, kc, ks) Q := by
  refine w_ld rfl rfl (Or.inr (Or.inr ⟨by decide, y1⟩)) ?_
  refine w_ld rfl rfl (Or.inr (Or.inr ⟨by decide, y1⟩)) ?_
  subst e_q2
  refine w_getf rfl g4 n6 ?_
  subst e_q7
  refine w_getf rfl g9 n11 ?_
  refine w_ld rfl rfl (Or.inl ⟨by decide, rfl⟩) ?_
  subst e_q12
  refine w_aald rfl g14 u18 c19 c20 n17 ?_
  exact w_cv rfl [.index q2, v16] [] rfl rfl (s_wt_4 rfl) rfl g4 k

theorem k23_41 {P : s_P} {d : Nat} {Q : s_O → Prop} {h : s_H} {kc ks : Nat} {r0 : Term} {x1 x2 s0 : Int}  (k : Q (.inl (some (vi s0)), h, kc, ks))   : wr P d sw_c23 sw_h23 (41, [r0, vi x1, vi x2], [vi s0], h, kc, ks) Q := by
  exact w_iret rfl k

/-! 24: FormulaWorks.factors(I)I -/
theorem k24_0 {P : s_P} {d : Nat} {Q : s_O → Prop} {h : s_H} {kc ks : Nat} {r0 : Term} {x1 : Int} {q2 : Nat} {f3 : List Term} {v5 : Term} (g4 : s_get h q2 = some (1, 10, f3)) (k : wm P d 64 [.index q2, vi x1, vi 0] h (wq P d sw_c24 sw_h24 10 [.index q2, vi x1] [v5] kc ks Q)) (e_q2 : r0 = .index q2 := by first | rfl | assumption) (y1 : s_ty r0 = 3 := by first | rfl | assumption) (n6 : s_nth f3 9 = some v5 := by first | rfl | assumption)  : wr P d sw_c24 sw_h24 (0, [r0, vi x1], [], h, kc, ks) Q := by
  refine w_ld rfl rfl (Or.inr (Or.inr ⟨by decide, y1⟩)) ?_
  subst e_q2
  refine w_getf rfl g4 n6 ?_
  refine w_ld rfl rfl (Or.inr (Or.inr ⟨by decide, rfl⟩)) ?_
  refine w_ld rfl rfl (Or.inl ⟨by decide, rfl⟩) ?_
  refine w_c32 rfl (by decide) 0 (by decide) ?_
  exact w_cv rfl [.index q2, vi x1, vi 0] [v5] rfl rfl (s_wt_4 rfl) rfl g4 k

theorem k24_10 {P : s_P} {d : Nat} {Q : s_O → Prop} {h : s_H} {kc ks : Nat} {r0 : Term} {x1 : Int} {s0 s1 : Term} {q1 : Nat} {f2 : List Term} (g3 : s_get h q1 = some (1, 8, f2)) (k : wm P d 266 [.index q1] h (wq P d sw_c24 sw_h24 13 [r0, vi x1] [s0] kc ks Q)) (e_q1 : s1 = .index q1 := by first | rfl | assumption)  : wr P d sw_c24 sw_h24 (10, [r0, vi x1], [s1, s0], h, kc, ks) Q := by
  subst e_q1
  exact w_cv rfl [.index q1] [s0] rfl rfl (s_wt_4 rfl) rfl g3 k

theorem k24_13 {P : s_P} {d : Nat} {Q : s_O → Prop} {h : s_H} {kc ks : Nat} {r0 : Term} {x1 : Int} {s0 s1 : Term} {q1 : Nat} {f2 : List Term} (g3 : s_get h q1 = some (1, 3, f2)) (k : wm P d 153 [.index q1, s1, vi 0] h (wq P d sw_c24 sw_h24 17 [r0, vi x1] [] kc ks Q)) (e_q1 : s0 = .index q1 := by first | rfl | assumption)  : wr P d sw_c24 sw_h24 (13, [r0, vi x1], [s1, s0], h, kc, ks) Q := by
  refine w_c32 rfl (by decide) 0 (by decide) ?_
  subst e_q1
  exact w_cv rfl [.index q1, s1, vi 0] [] rfl rfl (s_wt_4 rfl) rfl g3 k

theorem k24_17 {P : s_P} {d : Nat} {Q : s_O → Prop} {h : s_H} {kc ks : Nat} {r0 : Term} {x1 : Int} {q2 : Nat} {f3 : List Term} {v5 : Term} {q7 : Nat} {f8 : List Term} {z10 : Int} (g4 : s_get h q2 = some (1, 10, f3)) (g9 : s_get h q7 = some (1, 3, f8)) (k : Q (.inl (some (vi z10)), h, kc, ks)) (e_q2 : r0 = .index q2 := by first | rfl | assumption) (e_q7 : v5 = .index q7 := by first | rfl | assumption) (y1 : s_ty r0 = 3 := by first | rfl | assumption) (n6 : s_nth f3 9 = some v5 := by first | rfl | assumption) (n11 : s_nth f8 4 = some (vi z10) := by first | rfl | assumption)  : wr P d sw_c24 sw_h24 (17, [r0, vi x1], [], h, kc, ks) Q := by
  refine w_ld rfl rfl (Or.inr (Or.inr ⟨by decide, y1⟩)) ?_
  subst e_q2
  refine w_getf rfl g4 n6 ?_
  subst e_q7
  refine w_getf rfl g9 n11 ?_
  exact w_iret rfl k

/-! 25: FormulaWorks.fault(I)I -/
theorem k25_0 {P : s_P} {d : Nat} {Q : s_O → Prop} {h : s_H} {kc ks : Nat} {r0 : Term} {x1 : Int}  (k1 : x1 ≠ 0 → wr P d sw_c25 sw_h25 (9, [r0, vi x1], [], h, kc, ks) Q) (k2 : ¬ x1 ≠ 0 → wr P d sw_c25 sw_h25 (4, [r0, vi x1], [], h, kc, ks) Q)  (c1 : In3 x1 := by first | omega | assumption | (simp only [mk_len, List.length_map]; omega) | decide) : wr P d sw_c25 sw_h25 (0, [r0, vi x1], [], h, kc, ks) Q := by
  refine w_ld rfl rfl (Or.inl ⟨by decide, rfl⟩) ?_
  exact w_if1 rfl c1 k1 k2

theorem k25_4 {P : s_P} {d : Nat} {Q : s_O → Prop} {h : s_H} {kc ks : Nat} {r0 : Term} {x1 : Int} {q2 : Nat} {f3 : List Term} {z5 : Int} (g4 : s_get h q2 = some (1, 10, f3)) (k : Q (.inl (some (vi z5)), h, kc, ks)) (e_q2 : r0 = .index q2 := by first | rfl | assumption) (y1 : s_ty r0 = 3 := by first | rfl | assumption) (n6 : s_nth f3 4 = some (vi z5) := by first | rfl | assumption)  : wr P d sw_c25 sw_h25 (4, [r0, vi x1], [], h, kc, ks) Q := by
  refine w_ld rfl rfl (Or.inr (Or.inr ⟨by decide, y1⟩)) ?_
  subst e_q2
  refine w_getf rfl g4 n6 ?_
  exact w_iret rfl k

theorem k25_9 {P : s_P} {d : Nat} {Q : s_O → Prop} {h : s_H} {kc ks : Nat} {r0 : Term} {x1 : Int}  (k1 : x1 ≠ 1 → wr P d sw_c25 sw_h25 (21, [r0, vi x1], [], h, kc, ks) Q) (k2 : ¬ x1 ≠ 1 → wr P d sw_c25 sw_h25 (14, [r0, vi x1], [], h, kc, ks) Q)  (c1 : In3 x1 := by first | omega | assumption | (simp only [mk_len, List.length_map]; omega) | decide) : wr P d sw_c25 sw_h25 (9, [r0, vi x1], [], h, kc, ks) Q := by
  refine w_ld rfl rfl (Or.inl ⟨by decide, rfl⟩) ?_
  refine w_c32 rfl (by decide) 1 (by decide) ?_
  exact w_if2 rfl c1 (by decide) k1 k2

theorem k25_14 {P : s_P} {d : Nat} {Q : s_O → Prop} {h : s_H} {kc ks : Nat} {r0 : Term} {x1 : Int} {q2 : Nat} {f3 : List Term} {z5 : Int} (g4 : s_get h q2 = some (1, 10, f3)) (k : wr P d sw_c25 sw_h25 (22, [.index q2, vi x1], [vi z5], h, kc, ks) Q) (e_q2 : r0 = .index q2 := by first | rfl | assumption) (y1 : s_ty r0 = 3 := by first | rfl | assumption) (n6 : s_nth f3 5 = some (vi z5) := by first | rfl | assumption)  : wr P d sw_c25 sw_h25 (14, [r0, vi x1], [], h, kc, ks) Q := by
  refine w_ld rfl rfl (Or.inr (Or.inr ⟨by decide, y1⟩)) ?_
  subst e_q2
  refine w_getf rfl g4 n6 ?_
  refine w_goto rfl ?_
  exact k

theorem k25_21 {P : s_P} {d : Nat} {Q : s_O → Prop} {h : s_H} {kc ks : Nat} {r0 : Term} {x1 : Int}  (k : wr P d sw_c25 sw_h25 (22, [r0, vi x1], [vi (-1)], h, kc, ks) Q)   : wr P d sw_c25 sw_h25 (21, [r0, vi x1], [], h, kc, ks) Q := by
  refine w_c32 rfl (by decide) (-1) (by decide) ?_
  exact k

theorem k25_22 {P : s_P} {d : Nat} {Q : s_O → Prop} {h : s_H} {kc ks : Nat} {r0 : Term} {x1 s0 : Int}  (k : Q (.inl (some (vi s0)), h, kc, ks))   : wr P d sw_c25 sw_h25 (22, [r0, vi x1], [vi s0], h, kc, ks) Q := by
  exact w_iret rfl k

/-! 26: FormulaWorks.fit(II)I -/
theorem k26_0 {P : s_P} {d : Nat} {Q : s_O → Prop} {h : s_H} {kc ks : Nat} {r0 : Term} {x1 x2 : Int} {t3 t4 : Term} {q2 : Nat} {f3 : List Term} (g4 : s_get h q2 = some (1, 10, f3)) (k : wm P d 93 [.index q2, vi x1] h (wq P d sw_c26 sw_h26 5 [.index q2, vi x1, vi x2, t3, t4] [] kc ks Q)) (e_q2 : r0 = .index q2 := by first | rfl | assumption) (y1 : s_ty r0 = 3 := by first | rfl | assumption)  : wr P d sw_c26 sw_h26 (0, [r0, vi x1, vi x2, t3, t4], [], h, kc, ks) Q := by
  refine w_ld rfl rfl (Or.inr (Or.inr ⟨by decide, y1⟩)) ?_
  refine w_ld rfl rfl (Or.inl ⟨by decide, rfl⟩) ?_
  subst e_q2
  exact w_cv rfl [.index q2, vi x1] [] rfl rfl (s_wt_4 rfl) rfl g4 k

theorem k26_5 {P : s_P} {d : Nat} {Q : s_O → Prop} {h : s_H} {kc ks : Nat} {r0 : Term} {x1 x2 : Int} {t3 t4 s0 : Term} {q3 : Nat} {f4 : List Term} (g5 : s_get h q3 = some (1, 10, f4)) (k : wm P d 93 [.index q3, vi x2] h (wq P d sw_c26 sw_h26 11 [.index q3, vi x1, vi x2, s0, t4] [] kc ks Q)) (e_q3 : r0 = .index q3 := by first | rfl | assumption) (y1 : s_ty s0 = 3 := by first | rfl | assumption) (y2 : s_ty r0 = 3 := by first | rfl | assumption)  : wr P d sw_c26 sw_h26 (5, [r0, vi x1, vi x2, t3, t4], [s0], h, kc, ks) Q := by
  refine w_st (ls' := [r0, vi x1, vi x2, s0, t4]) rfl (Or.inr ⟨by decide, y1⟩) rfl ?_
  refine w_ld rfl rfl (Or.inr (Or.inr ⟨by decide, y2⟩)) ?_
  refine w_ld rfl rfl (Or.inl ⟨by decide, rfl⟩) ?_
  subst e_q3
  exact w_cv rfl [.index q3, vi x2] [] rfl rfl (s_wt_4 rfl) rfl g5 k

theorem k26_11 {P : s_P} {d : Nat} {Q : s_O → Prop} {h : s_H} {kc ks : Nat} {r0 : Term} {x1 x2 : Int} {r3 t4 s0 : Term}  (k : wm P d 55 [r3] h (wq P d sw_c26 sw_h26 17 [r0, vi x1, vi x2, r3, s0] [] kc ks Q)) (y1 : s_ty r3 = 3 := by first | rfl | assumption) (y2 : s_ty s0 = 3 := by first | rfl | assumption)  : wr P d sw_c26 sw_h26 (11, [r0, vi x1, vi x2, r3, t4], [s0], h, kc, ks) Q := by
  refine w_st (ls' := [r0, vi x1, vi x2, r3, s0]) rfl (Or.inr ⟨by decide, y2⟩) (s_stK_r (pre := [r0, vi x1, vi x2]) y1) ?_
  refine w_ld rfl rfl (Or.inr (Or.inr ⟨by decide, y1⟩)) ?_
  exact w_cs rfl [r3] [] rfl rfl (s_wt_4 rfl) k

theorem k26_17 {P : s_P} {d : Nat} {Q : s_O → Prop} {h : s_H} {kc ks : Nat} {r0 : Term} {x1 x2 : Int} {r3 r4 : Term}  (k : wm P d 52 [r4, vi 0] h (wq P d sw_c26 sw_h26 23 [r0, vi x1, vi x2, r3, r4] [] kc ks Q)) (y1 : s_ty r4 = 3 := by first | rfl | assumption)  : wr P d sw_c26 sw_h26 (17, [r0, vi x1, vi x2, r3, r4], [], h, kc, ks) Q := by
  refine w_ld rfl rfl (Or.inr (Or.inr ⟨by decide, y1⟩)) ?_
  refine w_c32 rfl (by decide) 0 (by decide) ?_
  exact w_cs rfl [r4, vi 0] [] rfl rfl (s_wt_4 rfl) k

theorem k26_23 {P : s_P} {d : Nat} {Q : s_O → Prop} {h : s_H} {kc ks : Nat} {r0 : Term} {x1 x2 : Int} {r3 r4 : Term} {q2 : Nat} {f3 : List Term} {v5 v9 : Term} {q11 : Nat} {f12 : List Term} (g4 : s_get h q2 = some (1, 10, f3)) (g13 : s_get h q11 = some (1, 6, f12)) (k : wm P d 216 [.index q11, r3, r4, v9] h (wq P d sw_c26 sw_h26 38 [.index q2, vi x1, vi x2, r3, r4] [.index q2] kc ks Q)) (e_q2 : r0 = .index q2 := by first | rfl | assumption) (e_q11 : v5 = .index q11 := by first | rfl | assumption) (y1 : s_ty r0 = 3 := by first | rfl | assumption) (n6 : s_nth f3 11 = some v5 := by first | rfl | assumption) (y7 : s_ty r3 = 3 := by first | rfl | assumption) (y8 : s_ty r4 = 3 := by first | rfl | assumption) (n10 : s_nth f3 17 = some v9 := by first | rfl | assumption)  : wr P d sw_c26 sw_h26 (23, [r0, vi x1, vi x2, r3, r4], [], h, kc, ks) Q := by
  refine w_ld rfl rfl (Or.inr (Or.inr ⟨by decide, y1⟩)) ?_
  refine w_ld rfl rfl (Or.inr (Or.inr ⟨by decide, y1⟩)) ?_
  subst e_q2
  refine w_getf rfl g4 n6 ?_
  refine w_ld rfl rfl (Or.inr (Or.inr ⟨by decide, y7⟩)) ?_
  refine w_ld rfl rfl (Or.inr (Or.inr ⟨by decide, y8⟩)) ?_
  refine w_ld rfl rfl (Or.inr (Or.inr ⟨by decide, rfl⟩)) ?_
  refine w_getf rfl g4 n10 ?_
  subst e_q11
  exact w_cv rfl [.index q11, r3, r4, v9] [.index q2] rfl rfl (s_wt_4 rfl) rfl g13 k

theorem k26_38 {P : s_P} {d : Nat} {Q : s_O → Prop} {h : s_H} {kc ks : Nat} {r0 : Term} {x1 x2 : Int} {r3 r4 s0 s1 : Term} {q1 : Nat} {f2 : List Term} (g3 : s_get h q1 = some (1, 10, f2)) (k : wm P d 37 [.index q1, s1] h (wq P d sw_c26 sw_h26 41 [r0, vi x1, vi x2, r3, r4] [] kc ks Q)) (e_q1 : s0 = .index q1 := by first | rfl | assumption)  : wr P d sw_c26 sw_h26 (38, [r0, vi x1, vi x2, r3, r4], [s1, s0], h, kc, ks) Q := by
  subst e_q1
  exact w_cv rfl [.index q1, s1] [] rfl rfl (s_wt_4 rfl) rfl g3 k

theorem k26_41 {P : s_P} {d : Nat} {Q : s_O → Prop} {h : s_H} {kc ks : Nat} {r0 : Term} {x1 x2 : Int} {r3 r4 : Term} {s0 : Int}  (k : Q (.inl (some (vi s0)), h, kc, ks))   : wr P d sw_c26 sw_h26 (41, [r0, vi x1, vi x2, r3, r4], [vi s0], h, kc, ks) Q := by
  exact w_iret rfl k

/-! 27: FormulaWorks.formula()I -/
theorem k27_0 {P : s_P} {d : Nat} {Q : s_O → Prop} {h : s_H} {kc ks : Nat} {r0 : Term} {q2 : Nat} {f3 : List Term} (g4 : s_get h q2 = some (1, 10, f3)) (k : wm P d 54 [.index q2] h (wq P d sw_c27 sw_h27 4 [.index q2] [] kc ks Q)) (e_q2 : r0 = .index q2 := by first | rfl | assumption) (y1 : s_ty r0 = 3 := by first | rfl | assumption)  : wr P d sw_c27 sw_h27 (0, [r0], [], h, kc, ks) Q := by
  refine w_ld rfl rfl (Or.inr (Or.inr ⟨by decide, y1⟩)) ?_
  subst e_q2
  exact w_cv rfl [.index q2] [] rfl rfl (s_wt_4 rfl) rfl g4 k

theorem k27_4 {P : s_P} {d : Nat} {Q : s_O → Prop} {h : s_H} {kc ks : Nat} {r0 : Term} {q2 : Nat} {f3 : List Term} {v5 v7 : Term} {z9 z11 : Int} {q13 : Nat} {f14 : List Term} (g4 : s_get h q2 = some (1, 10, f3)) (g15 : s_get h q13 = some (1, 5, f14)) (k : wm P d 192 [.index q13, v7, vi z9, vi 8, vi z11] h (wq P d sw_c27 sw_h27 25 [.index q2] [] kc ks Q)) (e_q2 : r0 = .index q2 := by first | rfl | assumption) (e_q13 : v5 = .index q13 := by first | rfl | assumption) (y1 : s_ty r0 = 3 := by first | rfl | assumption) (n6 : s_nth f3 13 = some v5 := by first | rfl | assumption) (n8 : s_nth f3 2 = some v7 := by first | rfl | assumption) (n10 : s_nth f3 3 = some (vi z9) := by first | rfl | assumption) (n12 : s_nth f3 1 = some (vi z11) := by first | rfl | assumption)  : wr P d sw_c27 sw_h27 (4, [r0], [], h, kc, ks) Q := by
  refine w_ld rfl rfl (Or.inr (Or.inr ⟨by decide, y1⟩)) ?_
  subst e_q2
  refine w_getf rfl g4 n6 ?_
  refine w_ld rfl rfl (Or.inr (Or.inr ⟨by decide, rfl⟩)) ?_
  refine w_getf rfl g4 n8 ?_
  refine w_ld rfl rfl (Or.inr (Or.inr ⟨by decide, rfl⟩)) ?_
  refine w_getf rfl g4 n10 ?_
  refine w_c32 rfl (by decide) 8 (by decide) ?_
  refine w_ld rfl rfl (Or.inr (Or.inr ⟨by decide, rfl⟩)) ?_
  refine w_getf rfl g4 n12 ?_
  subst e_q13
  exact w_cv rfl [.index q13, v7, vi z9, vi 8, vi z11] [] rfl rfl (s_wt_4 rfl) rfl g15 k

theorem k27_25 {P : s_P} {d : Nat} {Q : s_O → Prop} {h : s_H} {kc ks : Nat} {r0 : Term} {q2 : Nat} {f3 f7 : List Term} {v9 : Term} {q11 : Nat} {f12 : List Term} (g4 : s_get h q2 = some (1, 10, f3)) (g8 : s_get (hp h q2 (1, 10, f3.set 3 (vi 0))) q2 = some (1, 10, f7)) (g13 : s_get (hp h q2 (1, 10, f3.set 3 (vi 0))) q11 = some (1, 5, f12)) (k : wm P d 207 [.index q11] (hp h q2 (1, 10, f3.set 3 (vi 0))) (wq P d sw_c27 sw_h27 37 [.index q2] [] kc ks Q)) (e_q2 : r0 = .index q2 := by first | rfl | assumption) (e_q11 : v9 = .index q11 := by first | rfl | assumption) (y1 : s_ty r0 = 3 := by first | rfl | assumption) (l5 : 3 < f3.length := by first | exact Nat.le_of_ble_eq_true rfl | omega | assumption) (n10 : s_nth f7 13 = some v9 := by first | rfl | assumption) (c6 : 0 < q2 := by first | omega | assumption | (simp only [mk_len, List.length_map]; omega) | decide) : wr P d sw_c27 sw_h27 (25, [r0], [], h, kc, ks) Q := by
  refine w_ld rfl rfl (Or.inr (Or.inr ⟨by decide, y1⟩)) ?_
  refine w_c32 rfl (by decide) 0 (by decide) ?_
  subst e_q2
  refine w_putf rfl g4 (Nat.ble_eq_true_of_le c6) rfl (Nat.ble_eq_true_of_le l5) ?_
  refine w_ld rfl rfl (Or.inr (Or.inr ⟨by decide, rfl⟩)) ?_
  refine w_getf rfl g8 n10 ?_
  subst e_q11
  exact w_cv rfl [.index q11] [] rfl rfl (s_wt_4 rfl) rfl g13 k

theorem k27_37 {P : s_P} {d : Nat} {Q : s_O → Prop} {h : s_H} {kc ks : Nat} {r0 : Term} {s0 : Int} {q2 : Nat} {f3 : List Term} (g4 : s_get h q2 = some (1, 10, f3)) (k : wm P d 91 [.index q2] h (wq P d sw_c27 sw_h27 42 [.index q2] [] kc ks Q)) (e_q2 : r0 = .index q2 := by first | rfl | assumption) (y1 : s_ty r0 = 3 := by first | rfl | assumption)  : wr P d sw_c27 sw_h27 (37, [r0], [vi s0], h, kc, ks) Q := by
  refine w_pop rfl rfl ?_
  refine w_ld rfl rfl (Or.inr (Or.inr ⟨by decide, y1⟩)) ?_
  subst e_q2
  exact w_cv rfl [.index q2] [] rfl rfl (s_wt_4 rfl) rfl g4 k

theorem k27_42 {P : s_P} {d : Nat} {Q : s_O → Prop} {h : s_H} {kc ks : Nat} {r0 : Term} {q2 : Nat} {f3 : List Term} (g4 : s_get h q2 = some (1, 10, f3)) (k : wm P d 40 [.index q2] h (wq P d sw_c27 sw_h27 46 [.index q2] [] kc ks Q)) (e_q2 : r0 = .index q2 := by first | rfl | assumption) (y1 : s_ty r0 = 3 := by first | rfl | assumption)  : wr P d sw_c27 sw_h27 (42, [r0], [], h, kc, ks) Q := by
  refine w_ld rfl rfl (Or.inr (Or.inr ⟨by decide, y1⟩)) ?_
  subst e_q2
  exact w_cv rfl [.index q2] [] rfl rfl (s_wt_4 rfl) rfl g4 k

theorem k27_46 {P : s_P} {d : Nat} {Q : s_O → Prop} {h : s_H} {kc ks : Nat} {r0 : Term} {s0 : Int}  (k : Q (.inl (some (vi s0)), h, kc, ks))   : wr P d sw_c27 sw_h27 (46, [r0], [vi s0], h, kc, ks) Q := by
  exact w_iret rfl k

/-! 28: FormulaWorks.get(I)I -/
theorem k28_0 {P : s_P} {d : Nat} {Q : s_O → Prop} {h : s_H} {kc ks : Nat} {r0 : Term} {x1 : Int} {t2 : Term}  (k : wm P d 51 [vi x1, vi 16] h (wq P d sw_c28 sw_h28 6 [r0, vi x1, t2] [] kc ks Q))   : wr P d sw_c28 sw_h28 (0, [r0, vi x1, t2], [], h, kc, ks) Q := by
  refine w_ld rfl rfl (Or.inl ⟨by decide, rfl⟩) ?_
  refine w_c32 rfl (by decide) 16 (by decide) ?_
  exact w_cs rfl [vi x1, vi 16] [] rfl rfl (s_wt_4 rfl) k

theorem k28_6 {P : s_P} {d : Nat} {Q : s_O → Prop} {h : s_H} {kc ks : Nat} {r0 : Term} {x1 : Int} {t2 : Term} {q2 : Nat} {f3 : List Term} {v5 : Term} {q7 : Nat} {f8 : List Term} (g4 : s_get h q2 = some (1, 10, f3)) (g9 : s_get h q7 = some (1, 7, f8)) (k : wm P d 250 [.index q7, vi x1] h (wq P d sw_c28 sw_h28 14 [.index q2, vi x1, t2] [] kc ks Q)) (e_q2 : r0 = .index q2 := by first | rfl | assumption) (e_q7 : v5 = .index q7 := by first | rfl | assumption) (y1 : s_ty r0 = 3 := by first | rfl | assumption) (n6 : s_nth f3 14 = some v5 := by first | rfl | assumption)  : wr P d sw_c28 sw_h28 (6, [r0, vi x1, t2], [], h, kc, ks) Q := by
  refine w_ld rfl rfl (Or.inr (Or.inr ⟨by decide, y1⟩)) ?_
  subst e_q2
  refine w_getf rfl g4 n6 ?_
  refine w_ld rfl rfl (Or.inl ⟨by decide, rfl⟩) ?_
  subst e_q7
  exact w_cv rfl [.index q7, vi x1] [] rfl rfl (s_wt_4 rfl) rfl g9 k

theorem k28_14 {P : s_P} {d : Nat} {Q : s_O → Prop} {h : s_H} {kc ks : Nat} {r0 : Term} {x1 : Int} {t2 : Term} {q2 : Nat} {f3 : List Term} {v5 : Term} {q7 : Nat} {f8 : List Term} (g4 : s_get h q2 = some (1, 10, f3)) (g9 : s_get h q7 = some (1, 7, f8)) (k : wm P d 255 [.index q7, vi x1] h (wq P d sw_c28 sw_h28 22 [.index q2, vi x1, t2] [] kc ks Q)) (e_q2 : r0 = .index q2 := by first | rfl | assumption) (e_q7 : v5 = .index q7 := by first | rfl | assumption) (y1 : s_ty r0 = 3 := by first | rfl | assumption) (n6 : s_nth f3 14 = some v5 := by first | rfl | assumption)  : wr P d sw_c28 sw_h28 (14, [r0, vi x1, t2], [], h, kc, ks) Q := by
  refine w_ld rfl rfl (Or.inr (Or.inr ⟨by decide, y1⟩)) ?_
  subst e_q2
  refine w_getf rfl g4 n6 ?_
  refine w_ld rfl rfl (Or.inl ⟨by decide, rfl⟩) ?_
  subst e_q7
  exact w_cv rfl [.index q7, vi x1] [] rfl rfl (s_wt_4 rfl) rfl g9 k

theorem k28_22 {P : s_P} {d : Nat} {Q : s_O → Prop} {h : s_H} {kc ks : Nat} {r0 : Term} {x1 : Int} {t2 s0 : Term}  (k1 : ∀ q, s0 = .index q → wr P d sw_c28 sw_h28 (35, [r0, vi x1, s0], [], h, kc, ks) Q) (k2 : (s0 = .null) → wr P d sw_c28 sw_h28 (27, [r0, vi x1, s0], [], h, kc, ks) Q) (y1 : s_ty s0 = 3 := by first | rfl | assumption)  : wr P d sw_c28 sw_h28 (22, [r0, vi x1, t2], [s0], h, kc, ks) Q := by
  refine w_st (ls' := [r0, vi x1, s0]) rfl (Or.inr ⟨by decide, y1⟩) rfl ?_
  refine w_ld rfl rfl (Or.inr (Or.inr ⟨by decide, y1⟩)) ?_
  exact w_ifnonnull rfl k1 k2 y1

theorem k28_27 {P : s_P} {d : Nat} {Q : s_O → Prop} {h : s_H} {kc ks : Nat} {r0 : Term} {x1 : Int} {r2 : Term}  (k : Q (.inr 1, h, kc + 1, ks + 6))   : wr P d sw_c28 sw_h28 (27, [r0, vi x1, r2], [], h, kc, ks) Q := by
  exact w_throw rfl (s_wt_4 rfl) k

theorem k28_35 {P : s_P} {d : Nat} {Q : s_O → Prop} {h : s_H} {kc ks : Nat} {r0 : Term} {x1 : Int} {r2 : Term} {q3 : Nat} {f4 : List Term} (g5 : s_get h q3 = some (1, 10, f4)) (k : wm P d 37 [.index q3, r2] h (wq P d sw_c28 sw_h28 40 [.index q3, vi x1, r2] [] kc ks Q)) (e_q3 : r0 = .index q3 := by first | rfl | assumption) (y1 : s_ty r0 = 3 := by first | rfl | assumption) (y2 : s_ty r2 = 3 := by first | rfl | assumption)  : wr P d sw_c28 sw_h28 (35, [r0, vi x1, r2], [], h, kc, ks) Q := by
  refine w_ld rfl rfl (Or.inr (Or.inr ⟨by decide, y1⟩)) ?_
  refine w_ld rfl rfl (Or.inr (Or.inr ⟨by decide, y2⟩)) ?_
  subst e_q3
  exact w_cv rfl [.index q3, r2] [] rfl rfl (s_wt_4 rfl) rfl g5 k

theorem k28_40 {P : s_P} {d : Nat} {Q : s_O → Prop} {h : s_H} {kc ks : Nat} {r0 : Term} {x1 : Int} {r2 : Term} {s0 : Int}  (k : Q (.inl (some (vi s0)), h, kc, ks))   : wr P d sw_c28 sw_h28 (40, [r0, vi x1, r2], [vi s0], h, kc, ks) Q := by
  exact w_iret rfl k

/-! 29: FormulaWorks.guess(I)I -/
theorem k29_0 {P : s_P} {d : Nat} {Q : s_O → Prop} {h : s_H} {kc ks : Nat} {r0 : Term} {x1 : Int} {q2 : Nat} {f3 : List Term} {v5 : Term} (g4 : s_get h q2 = some (1, 10, f3)) (k : wm P d 64 [.index q2, vi x1, vi 1] h (wq P d sw_c29 sw_h29 11 [.index q2, vi x1] [v5, .index q2] kc ks Q)) (e_q2 : r0 = .index q2 := by first | rfl | assumption) (y1 : s_ty r0 = 3 := by first | rfl | assumption) (n6 : s_nth f3 11 = some v5 := by first | rfl | assumption)  : wr P d sw_c29 sw_h29 (0, [r0, vi x1], [], h, kc, ks) Q := by
  refine w_ld rfl rfl (Or.inr (Or.inr ⟨by decide, y1⟩)) ?_
  refine w_ld rfl rfl (Or.inr (Or.inr ⟨by decide, y1⟩)) ?_
  subst e_q2
  refine w_getf rfl g4 n6 ?_
  refine w_ld rfl rfl (Or.inr (Or.inr ⟨by decide, rfl⟩)) ?_
  refine w_ld rfl rfl (Or.inl ⟨by decide, rfl⟩) ?_
  refine w_c32 rfl (by decide) 1 (by decide) ?_
  exact w_cv rfl [.index q2, vi x1, vi 1] [v5, .index q2] rfl rfl (s_wt_4 rfl) rfl g4 k

theorem k29_11 {P : s_P} {d : Nat} {Q : s_O → Prop} {h : s_H} {kc ks : Nat} {r0 : Term} {x1 : Int} {s0 s1 s2 : Term} {q1 : Nat} {f2 : List Term} {v4 : Term} {q7 : Nat} {f8 : List Term} {v10 : Term} {q12 : Nat} {f13 : List Term} (g3 : s_get h q1 = some (1, 8, f2)) (g9 : s_get h q7 = some (1, 10, f8)) (g14 : s_get h q12 = some (1, 6, f13)) (k : wm P d 217 [.index q12, v4, v10] h (wq P d sw_c29 sw_h29 21 [.index q7, vi x1] [s0] kc ks Q)) (e_q1 : s2 = .index q1 := by first | rfl | assumption) (e_q7 : r0 = .index q7 := by first | rfl | assumption) (e_q12 : s1 = .index q12 := by first | rfl | assumption) (n5 : s_nth f2 6 = some v4 := by first | rfl | assumption) (y6 : s_ty r0 = 3 := by first | rfl | assumption) (n11 : s_nth f8 17 = some v10 := by first | rfl | assumption)  : wr P d sw_c29 sw_h29 (11, [r0, vi x1], [s2, s1, s0], h, kc, ks) Q := by
  subst e_q1
  refine w_getf rfl g3 n5 ?_
  refine w_ld rfl rfl (Or.inr (Or.inr ⟨by decide, y6⟩)) ?_
  subst e_q7
  refine w_getf rfl g9 n11 ?_
  subst e_q12
  exact w_cv rfl [.index q12, v4, v10] [s0] rfl rfl (s_wt_4 rfl) rfl g14 k

theorem k29_21 {P : s_P} {d : Nat} {Q : s_O → Prop} {h : s_H} {kc ks : Nat} {r0 : Term} {x1 : Int} {s0 s1 : Term} {q1 : Nat} {f2 : List Term} (g3 : s_get h q1 = some (1, 10, f2)) (k : wm P d 36 [.index q1, s1] h (wq P d sw_c29 sw_h29 24 [r0, vi x1] [] kc ks Q)) (e_q1 : s0 = .index q1 := by first | rfl | assumption)  : wr P d sw_c29 sw_h29 (21, [r0, vi x1], [s1, s0], h, kc, ks) Q := by
  subst e_q1
  exact w_cv rfl [.index q1, s1] [] rfl rfl (s_wt_4 rfl) rfl g3 k

theorem k29_24 {P : s_P} {d : Nat} {Q : s_O → Prop} {h : s_H} {kc ks : Nat} {r0 : Term} {x1 s0 : Int}  (k : Q (.inl (some (vi s0)), h, kc, ks))   : wr P d sw_c29 sw_h29 (24, [r0, vi x1], [vi s0], h, kc, ks) Q := by
  exact w_iret rfl k

/-! 30: FormulaWorks.integral(I)I -/
theorem k30_0 {P : s_P} {d : Nat} {Q : s_O → Prop} {h : s_H} {kc ks : Nat} {r0 : Term} {x1 : Int} {t2 t3 : Term} {q2 : Nat} {f3 : List Term} (g4 : s_get h q2 = some (1, 10, f3)) (k : wm P d 93 [.index q2, vi x1] h (wq P d sw_c30 sw_h30 5 [.index q2, vi x1, t2, t3] [] kc ks Q)) (e_q2 : r0 = .index q2 := by first | rfl | assumption) (y1 : s_ty r0 = 3 := by first | rfl | assumption)  : wr P d sw_c30 sw_h30 (0, [r0, vi x1, t2, t3], [], h, kc, ks) Q := by
  refine w_ld rfl rfl (Or.inr (Or.inr ⟨by decide, y1⟩)) ?_
  refine w_ld rfl rfl (Or.inl ⟨by decide, rfl⟩) ?_
  subst e_q2
  exact w_cv rfl [.index q2, vi x1] [] rfl rfl (s_wt_4 rfl) rfl g4 k

theorem k30_5 {P : s_P} {d : Nat} {Q : s_O → Prop} {h : s_H} {kc ks : Nat} {r0 : Term} {x1 : Int} {t2 t3 s0 : Term} {q2 : Nat} {f3 : List Term} {z5 : Int} (g4 : s_get h q2 = some (1, 8, f3)) (k1 : z5 ≠ 1 → wr P d sw_c30 sw_h30 (26, [r0, vi x1, .index q2, t3], [], h, kc, ks) Q) (k2 : ¬ z5 ≠ 1 → wr P d sw_c30 sw_h30 (14, [r0, vi x1, .index q2, t3], [], h, kc, ks) Q) (e_q2 : s0 = .index q2 := by first | rfl | assumption) (y1 : s_ty s0 = 3 := by first | rfl | assumption) (n6 : s_nth f3 0 = some (vi z5) := by first | rfl | assumption) (c7 : In3 z5 := by first | omega | assumption | (simp only [mk_len, List.length_map]; omega) | decide) : wr P d sw_c30 sw_h30 (5, [r0, vi x1, t2, t3], [s0], h, kc, ks) Q := by
  refine w_st (ls' := [r0, vi x1, s0, t3]) rfl (Or.inr ⟨by decide, y1⟩) rfl ?_
  refine w_ld rfl rfl (Or.inr (Or.inr ⟨by decide, y1⟩)) ?_
  subst e_q2
  refine w_getf rfl g4 n6 ?_
  refine w_c32 rfl (by decide) 1 (by decide) ?_
  exact w_if2 rfl c7 (by decide) k1 k2

theorem k30_14 {P : s_P} {d : Nat} {Q : s_O → Prop} {h : s_H} {kc ks : Nat} {r0 : Term} {x1 : Int} {r2 t3 : Term} {q3 : Nat} {f4 : List Term} {v6 : Term} (g5 : s_get h q3 = some (1, 8, f4)) (k : wm P d 234 [v6] h (wq P d sw_c30 sw_h30 22 [r0, vi x1, .index q3, t3] [r0] kc ks Q)) (e_q3 : r2 = .index q3 := by first | rfl | assumption) (y1 : s_ty r0 = 3 := by first | rfl | assumption) (y2 : s_ty r2 = 3 := by first | rfl | assumption) (n7 : s_nth f4 6 = some v6 := by first | rfl | assumption)  : wr P d sw_c30 sw_h30 (14, [r0, vi x1, r2, t3], [], h, kc, ks) Q := by
  refine w_ld rfl rfl (Or.inr (Or.inr ⟨by decide, y1⟩)) ?_
  refine w_ld rfl rfl (Or.inr (Or.inr ⟨by decide, y2⟩)) ?_
  subst e_q3
  refine w_getf rfl g5 n7 ?_
  exact w_cs rfl [v6] [r0] rfl rfl (s_wt_4 rfl) k

theorem k30_22 {P : s_P} {d : Nat} {Q : s_O → Prop} {h : s_H} {kc ks : Nat} {r0 : Term} {x1 : Int} {r2 t3 s0 s1 : Term} {q1 : Nat} {f2 : List Term} (g3 : s_get h q1 = some (1, 10, f2)) (k : wm P d 39 [.index q1, s1] h (wq P d sw_c30 sw_h30 25 [r0, vi x1, r2, t3] [] kc ks Q)) (e_q1 : s0 = .index q1 := by first | rfl | assumption)  : wr P d sw_c30 sw_h30 (22, [r0, vi x1, r2, t3], [s1, s0], h, kc, ks) Q := by
  subst e_q1
  exact w_cv rfl [.index q1, s1] [] rfl rfl (s_wt_4 rfl) rfl g3 k

theorem k30_25 {P : s_P} {d : Nat} {Q : s_O → Prop} {h : s_H} {kc ks : Nat} {r0 : Term} {x1 : Int} {r2 t3 : Term} {s0 : Int}  (k : Q (.inl (some (vi s0)), h, kc, ks))   : wr P d sw_c30 sw_h30 (25, [r0, vi x1, r2, t3], [vi s0], h, kc, ks) Q := by
  exact w_iret rfl k

theorem k30_26 {P : s_P} {d : Nat} {Q : s_O → Prop} {h : s_H} {kc ks : Nat} {r0 : Term} {x1 : Int} {r2 t3 : Term}  (k : wm P d 52 [r2, vi 0] h (wq P d sw_c30 sw_h30 31 [r0, vi x1, r2, t3] [] kc ks Q)) (y1 : s_ty r2 = 3 := by first | rfl | assumption)  : wr P d sw_c30 sw_h30 (26, [r0, vi x1, r2, t3], [], h, kc, ks) Q := by
  refine w_ld rfl rfl (Or.inr (Or.inr ⟨by decide, y1⟩)) ?_
  refine w_c32 rfl (by decide) 0 (by decide) ?_
  exact w_cs rfl [r2, vi 0] [] rfl rfl (s_wt_4 rfl) k

theorem k30_31 {P : s_P} {d : Nat} {Q : s_O → Prop} {h : s_H} {kc ks : Nat} {r0 : Term} {x1 : Int} {r2 t3 : Term} {q2 : Nat} {f3 : List Term} {v5 v8 v10 : Term} {q12 : Nat} {f13 : List Term} (g4 : s_get h q2 = some (1, 10, f3)) (g14 : s_get h q12 = some (1, 3, f13)) (k : wm P d 158 [.index q12, r2, v8, v10] h (wq P d sw_c30 sw_h30 47 [.index q2, vi x1, r2, t3] [] kc ks Q)) (e_q2 : r0 = .index q2 := by first | rfl | assumption) (e_q12 : v5 = .index q12 := by first | rfl | assumption) (y1 : s_ty r0 = 3 := by first | rfl | assumption) (n6 : s_nth f3 9 = some v5 := by first | rfl | assumption) (y7 : s_ty r2 = 3 := by first | rfl | assumption) (n9 : s_nth f3 17 = some v8 := by first | rfl | assumption) (n11 : s_nth f3 18 = some v10 := by first | rfl | assumption)  : wr P d sw_c30 sw_h30 (31, [r0, vi x1, r2, t3], [], h, kc, ks) Q := by
  refine w_ld rfl rfl (Or.inr (Or.inr ⟨by decide, y1⟩)) ?_
  subst e_q2
  refine w_getf rfl g4 n6 ?_
  refine w_ld rfl rfl (Or.inr (Or.inr ⟨by decide, y7⟩)) ?_
  refine w_ld rfl rfl (Or.inr (Or.inr ⟨by decide, rfl⟩)) ?_
  refine w_getf rfl g4 n9 ?_
  refine w_ld rfl rfl (Or.inr (Or.inr ⟨by decide, rfl⟩)) ?_
  refine w_getf rfl g4 n11 ?_
  subst e_q12
  exact w_cv rfl [.index q12, r2, v8, v10] [] rfl rfl (s_wt_4 rfl) rfl g14 k

theorem k30_47 {P : s_P} {d : Nat} {Q : s_O → Prop} {h : s_H} {kc ks : Nat} {r0 : Term} {x1 : Int} {r2 t3 s0 : Term} {q4 : Nat} {f5 : List Term} (g6 : s_get h q4 = some (1, 10, f5)) (k : wm P d 54 [.index q4] h (wq P d sw_c30 sw_h30 52 [.index q4, vi x1, r2, s0] [] kc ks Q)) (e_q4 : r0 = .index q4 := by first | rfl | assumption) (y1 : s_ty r2 = 3 := by first | rfl | assumption) (y2 : s_ty s0 = 3 := by first | rfl | assumption) (y3 : s_ty r0 = 3 := by first | rfl | assumption)  : wr P d sw_c30 sw_h30 (47, [r0, vi x1, r2, t3], [s0], h, kc, ks) Q := by
  refine w_st (ls' := [r0, vi x1, r2, s0]) rfl (Or.inr ⟨by decide, y2⟩) (s_stK_r (pre := [r0, vi x1]) y1) ?_
  refine w_ld rfl rfl (Or.inr (Or.inr ⟨by decide, y3⟩)) ?_
  subst e_q4
  exact w_cv rfl [.index q4] [] rfl rfl (s_wt_4 rfl) rfl g6 k

theorem k30_52 {P : s_P} {d : Nat} {Q : s_O → Prop} {h : s_H} {kc ks : Nat} {r0 : Term} {x1 : Int} {r2 r3 : Term} {q2 : Nat} {f3 : List Term} {v5 : Term} {q7 : Nat} {f8 : List Term} {v10 : Term} {q12 : Nat} {f13 : List Term} {z15 : Int} (g4 : s_get h q2 = some (1, 10, f3)) (g9 : s_get h q7 = some (1, 8, f8)) (g14 : s_get h q12 = some (1, 4, f13)) (k1 : z15 < 0 → wr P d sw_c30 sw_h30 (69, [.index q2, vi x1, r2, r3], [], h, kc, ks) Q) (k2 : ¬ z15 < 0 → wr P d sw_c30 sw_h30 (65, [.index q2, vi x1, r2, r3], [], h, kc, ks) Q) (e_q2 : r0 = .index q2 := by first | rfl | assumption) (e_q7 : v5 = .index q7 := by first | rfl | assumption) (e_q12 : v10 = .index q12 := by first | rfl | assumption) (y1 : s_ty r0 = 3 := by first | rfl | assumption) (n6 : s_nth f3 18 = some v5 := by first | rfl | assumption) (n11 : s_nth f8 1 = some v10 := by first | rfl | assumption) (n16 : s_nth f13 1 = some (vi z15) := by first | rfl | assumption) (c17 : In3 z15 := by first | omega | assumption | (simp only [mk_len, List.length_map]; omega) | decide) : wr P d sw_c30 sw_h30 (52, [r0, vi x1, r2, r3], [], h, kc, ks) Q := by
  refine w_ld rfl rfl (Or.inr (Or.inr ⟨by decide, y1⟩)) ?_
  subst e_q2
  refine w_getf rfl g4 n6 ?_
  subst e_q7
  refine w_getf rfl g9 n11 ?_
  subst e_q12
  refine w_getf rfl g14 n16 ?_
  exact w_if1 rfl c17 k1 k2

theorem k30_65 {P : s_P} {d : Nat} {Q : s_O → Prop} {h : s_H} {kc ks : Nat} {r0 : Term} {x1 : Int} {r2 r3 : Term}  (k : wr P d sw_c30 sw_h30 (74, [r0, vi x1, r2, r3], [vi (-1)], h, kc, ks) Q)   : wr P d sw_c30 sw_h30 (65, [r0, vi x1, r2, r3], [], h, kc, ks) Q := by
  refine w_c32 rfl (by decide) (-1) (by decide) ?_
  refine w_goto rfl ?_
  exact k

theorem k30_69 {P : s_P} {d : Nat} {Q : s_O → Prop} {h : s_H} {kc ks : Nat} {r0 : Term} {x1 : Int} {r2 r3 : Term} {q3 : Nat} {f4 : List Term} (g5 : s_get h q3 = some (1, 10, f4)) (k : wm P d 37 [.index q3, r3] h (wq P d sw_c30 sw_h30 74 [.index q3, vi x1, r2, r3] [] kc ks Q)) (e_q3 : r0 = .index q3 := by first | rfl | assumption) (y1 : s_ty r0 = 3 := by first | rfl | assumption) (y2 : s_ty r3 = 3 := by first | rfl | assumption)  : wr P d sw_c30 sw_h30 (69, [r0, vi x1, r2, r3], [], h, kc, ks) Q := by
  refine w_ld rfl rfl (Or.inr (Or.inr ⟨by decide, y1⟩)) ?_
  refine w_ld rfl rfl (Or.inr (Or.inr ⟨by decide, y2⟩)) ?_
  subst e_q3
  exact w_cv rfl [.index q3, r3] [] rfl rfl (s_wt_4 rfl) rfl g5 k

theorem k30_74 {P : s_P} {d : Nat} {Q : s_O → Prop} {h : s_H} {kc ks : Nat} {r0 : Term} {x1 : Int} {r2 r3 : Term} {s0 : Int}  (k : Q (.inl (some (vi s0)), h, kc, ks))   : wr P d sw_c30 sw_h30 (74, [r0, vi x1, r2, r3], [vi s0], h, kc, ks) Q := by
  exact w_iret rfl k

/-! 31: FormulaWorks.invariant(II)I -/
theorem k31_0 {P : s_P} {d : Nat} {Q : s_O → Prop} {h : s_H} {kc ks : Nat} {r0 : Term} {x1 x2 : Int} {t3 : Term} {q2 : Nat} {f3 : List Term} (g4 : s_get h q2 = some (1, 10, f3)) (k : wm P d 64 [.index q2, vi x1, vi 2] h (wq P d sw_c31 sw_h31 6 [.index q2, vi x1, vi x2, t3] [] kc ks Q)) (e_q2 : r0 = .index q2 := by first | rfl | assumption) (y1 : s_ty r0 = 3 := by first | rfl | assumption)  : wr P d sw_c31 sw_h31 (0, [r0, vi x1, vi x2, t3], [], h, kc, ks) Q := by
  refine w_ld rfl rfl (Or.inr (Or.inr ⟨by decide, y1⟩)) ?_
  refine w_ld rfl rfl (Or.inl ⟨by decide, rfl⟩) ?_
  refine w_c32 rfl (by decide) 2 (by decide) ?_
  subst e_q2
  exact w_cv rfl [.index q2, vi x1, vi 2] [] rfl rfl (s_wt_4 rfl) rfl g4 k

theorem k31_6 {P : s_P} {d : Nat} {Q : s_O → Prop} {h : s_H} {kc ks : Nat} {r0 : Term} {x1 x2 : Int} {t3 s0 : Term} {q3 : Nat} {f4 : List Term} {v6 : Term} {q8 : Nat} {f9 : List Term} (g5 : s_get h q3 = some (1, 10, f4)) (g10 : s_get h q8 = some (1, 2, f9)) (k : wm P d 144 [.index q8, s0] h (wq P d sw_c31 sw_h31 16 [.index q3, vi x1, vi x2, s0] [vi x2] kc ks Q)) (e_q3 : r0 = .index q3 := by first | rfl | assumption) (e_q8 : v6 = .index q8 := by first | rfl | assumption) (y1 : s_ty s0 = 3 := by first | rfl | assumption) (y2 : s_ty r0 = 3 := by first | rfl | assumption) (n7 : s_nth f4 10 = some v6 := by first | rfl | assumption)  : wr P d sw_c31 sw_h31 (6, [r0, vi x1, vi x2, t3], [s0], h, kc, ks) Q := by
  refine w_st (ls' := [r0, vi x1, vi x2, s0]) rfl (Or.inr ⟨by decide, y1⟩) rfl ?_
  refine w_ld rfl rfl (Or.inl ⟨by decide, rfl⟩) ?_
  refine w_ld rfl rfl (Or.inr (Or.inr ⟨by decide, y2⟩)) ?_
  subst e_q3
  refine w_getf rfl g5 n7 ?_
  refine w_ld rfl rfl (Or.inr (Or.inr ⟨by decide, y1⟩)) ?_
  subst e_q8
  exact w_cv rfl [.index q8, s0] [vi x2] rfl rfl (s_wt_4 rfl) rfl g10 k

theorem k31_16 {P : s_P} {d : Nat} {Q : s_O → Prop} {h : s_H} {kc ks : Nat} {r0 : Term} {x1 x2 : Int} {r3 : Term} {s0 s1 : Int}  (k : wm P d 51 [vi s0, vi s1] h (wq P d sw_c31 sw_h31 19 [r0, vi x1, vi x2, r3] [] kc ks Q))   : wr P d sw_c31 sw_h31 (16, [r0, vi x1, vi x2, r3], [vi s1, vi s0], h, kc, ks) Q := by
  exact w_cs rfl [vi s0, vi s1] [] rfl rfl (s_wt_4 rfl) k

theorem k31_19 {P : s_P} {d : Nat} {Q : s_O → Prop} {h : s_H} {kc ks : Nat} {r0 : Term} {x1 x2 : Int} {r3 : Term} {q2 : Nat} {f3 : List Term} {v5 v8 : Term} {q10 : Nat} {f11 : List Term} (g4 : s_get h q2 = some (1, 10, f3)) (g12 : s_get h q10 = some (1, 2, f11)) (k : wm P d 146 [.index q10, r3, vi x2, v8] h (wq P d sw_c31 sw_h31 32 [.index q2, vi x1, vi x2, r3] [] kc ks Q)) (e_q2 : r0 = .index q2 := by first | rfl | assumption) (e_q10 : v5 = .index q10 := by first | rfl | assumption) (y1 : s_ty r0 = 3 := by first | rfl | assumption) (n6 : s_nth f3 10 = some v5 := by first | rfl | assumption) (y7 : s_ty r3 = 3 := by first | rfl | assumption) (n9 : s_nth f3 16 = some v8 := by first | rfl | assumption)  : wr P d sw_c31 sw_h31 (19, [r0, vi x1, vi x2, r3], [], h, kc, ks) Q := by
  refine w_ld rfl rfl (Or.inr (Or.inr ⟨by decide, y1⟩)) ?_
  subst e_q2
  refine w_getf rfl g4 n6 ?_
  refine w_ld rfl rfl (Or.inr (Or.inr ⟨by decide, y7⟩)) ?_
  refine w_ld rfl rfl (Or.inl ⟨by decide, rfl⟩) ?_
  refine w_ld rfl rfl (Or.inr (Or.inr ⟨by decide, rfl⟩)) ?_
  refine w_getf rfl g4 n9 ?_
  subst e_q10
  exact w_cv rfl [.index q10, r3, vi x2, v8] [] rfl rfl (s_wt_4 rfl) rfl g12 k

theorem k31_32 {P : s_P} {d : Nat} {Q : s_O → Prop} {h : s_H} {kc ks : Nat} {r0 : Term} {x1 x2 : Int} {r3 : Term} {q2 : Nat} {f3 : List Term} {v5 : Term} (g4 : s_get h q2 = some (1, 10, f3)) (k : wm P d 41 [.index q2, v5] h (wq P d sw_c31 sw_h31 40 [.index q2, vi x1, vi x2, r3] [] kc ks Q)) (e_q2 : r0 = .index q2 := by first | rfl | assumption) (y1 : s_ty r0 = 3 := by first | rfl | assumption) (n6 : s_nth f3 16 = some v5 := by first | rfl | assumption)  : wr P d sw_c31 sw_h31 (32, [r0, vi x1, vi x2, r3], [], h, kc, ks) Q := by
  refine w_ld rfl rfl (Or.inr (Or.inr ⟨by decide, y1⟩)) ?_
  refine w_ld rfl rfl (Or.inr (Or.inr ⟨by decide, y1⟩)) ?_
  subst e_q2
  refine w_getf rfl g4 n6 ?_
  exact w_cv rfl [.index q2, v5] [] rfl rfl (s_wt_4 rfl) rfl g4 k

theorem k31_40 {P : s_P} {d : Nat} {Q : s_O → Prop} {h : s_H} {kc ks : Nat} {r0 : Term} {x1 x2 : Int} {r3 : Term} {s0 : Int}  (k : Q (.inl (some (vi s0)), h, kc, ks))   : wr P d sw_c31 sw_h31 (40, [r0, vi x1, vi x2, r3], [vi s0], h, kc, ks) Q := by
  exact w_iret rfl k

/-! 32: FormulaWorks.joined(ILFormulaWorks$Thing;LFormulaWorks$Thing;)I -/
theorem k32_0 {P : s_P} {d : Nat} {Q : s_O → Prop} {h : s_H} {kc ks : Nat} {r0 : Term} {x1 : Int} {r2 r3 : Term} {q3 : Nat} {f4 : List Term} {z6 : Int} (g5 : s_get h q3 = some (1, 8, f4)) (k : wm P d 52 [r3, vi z6] h (wq P d sw_c32 sw_h32 8 [r0, vi x1, .index q3, r3] [] kc ks Q)) (e_q3 : r2 = .index q3 := by first | rfl | assumption) (y1 : s_ty r3 = 3 := by first | rfl | assumption) (y2 : s_ty r2 = 3 := by first | rfl | assumption) (n7 : s_nth f4 0 = some (vi z6) := by first | rfl | assumption)  : wr P d sw_c32 sw_h32 (0, [r0, vi x1, r2, r3], [], h, kc, ks) Q := by
  refine w_ld rfl rfl (Or.inr (Or.inr ⟨by decide, y1⟩)) ?_
  refine w_ld rfl rfl (Or.inr (Or.inr ⟨by decide, y2⟩)) ?_
  subst e_q3
  refine w_getf rfl g5 n7 ?_
  exact w_cs rfl [r3, vi z6] [] rfl rfl (s_wt_4 rfl) k

theorem k32_8 {P : s_P} {d : Nat} {Q : s_O → Prop} {h : s_H} {kc ks : Nat} {r0 : Term} {x1 : Int} {r2 r3 : Term} {q2 : Nat} {f3 : List Term} {z5 : Int} (g4 : s_get h q2 = some (1, 8, f3)) (k1 : z5 ≠ 1 → wr P d sw_c32 sw_h32 (33, [r0, vi x1, .index q2, r3], [], h, kc, ks) Q) (k2 : ¬ z5 ≠ 1 → wr P d sw_c32 sw_h32 (16, [r0, vi x1, .index q2, r3], [], h, kc, ks) Q) (e_q2 : r2 = .index q2 := by first | rfl | assumption) (y1 : s_ty r2 = 3 := by first | rfl | assumption) (n6 : s_nth f3 0 = some (vi z5) := by first | rfl | assumption) (c7 : In3 z5 := by first | omega | assumption | (simp only [mk_len, List.length_map]; omega) | decide) : wr P d sw_c32 sw_h32 (8, [r0, vi x1, r2, r3], [], h, kc, ks) Q := by
  refine w_ld rfl rfl (Or.inr (Or.inr ⟨by decide, y1⟩)) ?_
  subst e_q2
  refine w_getf rfl g4 n6 ?_
  refine w_c32 rfl (by decide) 1 (by decide) ?_
  exact w_if2 rfl c7 (by decide) k1 k2

theorem k32_16 {P : s_P} {d : Nat} {Q : s_O → Prop} {h : s_H} {kc ks : Nat} {r0 : Term} {x1 : Int} {r2 r3 : Term} {q3 : Nat} {f4 : List Term} {v6 : Term} {q9 : Nat} {f10 : List Term} {v12 : Term} (g5 : s_get h q3 = some (1, 8, f4)) (g11 : s_get h q9 = some (1, 8, f10)) (k : wm P d 34 [vi x1, v6, v12] h (wq P d sw_c32 sw_h32 29 [r0, vi x1, .index q3, .index q9] [r0] kc ks Q)) (e_q3 : r2 = .index q3 := by first | rfl | assumption) (e_q9 : r3 = .index q9 := by first | rfl | assumption) (y1 : s_ty r0 = 3 := by first | rfl | assumption) (y2 : s_ty r2 = 3 := by first | rfl | assumption) (n7 : s_nth f4 6 = some v6 := by first | rfl | assumption) (y8 : s_ty r3 = 3 := by first | rfl | assumption) (n13 : s_nth f10 6 = some v12 := by first | rfl | assumption)  : wr P d sw_c32 sw_h32 (16, [r0, vi x1, r2, r3], [], h, kc, ks) Q := by
  refine w_ld rfl rfl (Or.inr (Or.inr ⟨by decide, y1⟩)) ?_
  refine w_ld rfl rfl (Or.inl ⟨by decide, rfl⟩) ?_
  refine w_ld rfl rfl (Or.inr (Or.inr ⟨by decide, y2⟩)) ?_
  subst e_q3
  refine w_getf rfl g5 n7 ?_
  refine w_ld rfl rfl (Or.inr (Or.inr ⟨by decide, y8⟩)) ?_
  subst e_q9
  refine w_getf rfl g11 n13 ?_
  exact w_cs rfl [vi x1, v6, v12] [r0] rfl rfl (s_wt_4 rfl) k

theorem k32_29 {P : s_P} {d : Nat} {Q : s_O → Prop} {h : s_H} {kc ks : Nat} {r0 : Term} {x1 : Int} {r2 r3 s0 s1 : Term} {q1 : Nat} {f2 : List Term} (g3 : s_get h q1 = some (1, 10, f2)) (k : wm P d 39 [.index q1, s1] h (wq P d sw_c32 sw_h32 32 [r0, vi x1, r2, r3] [] kc ks Q)) (e_q1 : s0 = .index q1 := by first | rfl | assumption)  : wr P d sw_c32 sw_h32 (29, [r0, vi x1, r2, r3], [s1, s0], h, kc, ks) Q := by
  subst e_q1
  exact w_cv rfl [.index q1, s1] [] rfl rfl (s_wt_4 rfl) rfl g3 k

theorem k32_32 {P : s_P} {d : Nat} {Q : s_O → Prop} {h : s_H} {kc ks : Nat} {r0 : Term} {x1 : Int} {r2 r3 : Term} {s0 : Int}  (k : Q (.inl (some (vi s0)), h, kc, ks))   : wr P d sw_c32 sw_h32 (32, [r0, vi x1, r2, r3], [vi s0], h, kc, ks) Q := by
  exact w_iret rfl k

theorem k32_33 {P : s_P} {d : Nat} {Q : s_O → Prop} {h : s_H} {kc ks : Nat} {r0 : Term} {x1 : Int} {r2 r3 : Term} {q2 : Nat} {f3 : List Term} {z5 : Int} (g4 : s_get h q2 = some (1, 8, f3)) (k1 : z5 ≠ 2 → wr P d sw_c32 sw_h32 (53, [r0, vi x1, .index q2, r3], [], h, kc, ks) Q) (k2 : ¬ z5 ≠ 2 → wr P d sw_c32 sw_h32 (41, [r0, vi x1, .index q2, r3], [], h, kc, ks) Q) (e_q2 : r2 = .index q2 := by first | rfl | assumption) (y1 : s_ty r2 = 3 := by first | rfl | assumption) (n6 : s_nth f3 0 = some (vi z5) := by first | rfl | assumption) (c7 : In3 z5 := by first | omega | assumption | (simp only [mk_len, List.length_map]; omega) | decide) : wr P d sw_c32 sw_h32 (33, [r0, vi x1, r2, r3], [], h, kc, ks) Q := by
  refine w_ld rfl rfl (Or.inr (Or.inr ⟨by decide, y1⟩)) ?_
  subst e_q2
  refine w_getf rfl g4 n6 ?_
  refine w_c32 rfl (by decide) 2 (by decide) ?_
  exact w_if2 rfl c7 (by decide) k1 k2

theorem k32_41 {P : s_P} {d : Nat} {Q : s_O → Prop} {h : s_H} {kc ks : Nat} {r0 : Term} {x1 : Int} {r2 r3 : Term} {q4 : Nat} {f5 : List Term} (g6 : s_get h q4 = some (1, 10, f5)) (k : wm P d 33 [.index q4, vi x1, r2, r3] h (wq P d sw_c32 sw_h32 49 [.index q4, vi x1, r2, r3] [.index q4] kc ks Q)) (e_q4 : r0 = .index q4 := by first | rfl | assumption) (y1 : s_ty r0 = 3 := by first | rfl | assumption) (y2 : s_ty r2 = 3 := by first | rfl | assumption) (y3 : s_ty r3 = 3 := by first | rfl | assumption)  : wr P d sw_c32 sw_h32 (41, [r0, vi x1, r2, r3], [], h, kc, ks) Q := by
  refine w_ld rfl rfl (Or.inr (Or.inr ⟨by decide, y1⟩)) ?_
  refine w_ld rfl rfl (Or.inr (Or.inr ⟨by decide, y1⟩)) ?_
  refine w_ld rfl rfl (Or.inl ⟨by decide, rfl⟩) ?_
  refine w_ld rfl rfl (Or.inr (Or.inr ⟨by decide, y2⟩)) ?_
  refine w_ld rfl rfl (Or.inr (Or.inr ⟨by decide, y3⟩)) ?_
  subst e_q4
  exact w_cv rfl [.index q4, vi x1, r2, r3] [.index q4] rfl rfl (s_wt_4 rfl) rfl g6 k

theorem k32_49 {P : s_P} {d : Nat} {Q : s_O → Prop} {h : s_H} {kc ks : Nat} {r0 : Term} {x1 : Int} {r2 r3 s0 s1 : Term} {q1 : Nat} {f2 : List Term} (g3 : s_get h q1 = some (1, 10, f2)) (k : wm P d 38 [.index q1, s1] h (wq P d sw_c32 sw_h32 52 [r0, vi x1, r2, r3] [] kc ks Q)) (e_q1 : s0 = .index q1 := by first | rfl | assumption)  : wr P d sw_c32 sw_h32 (49, [r0, vi x1, r2, r3], [s1, s0], h, kc, ks) Q := by
  subst e_q1
  exact w_cv rfl [.index q1, s1] [] rfl rfl (s_wt_4 rfl) rfl g3 k

theorem k32_52 {P : s_P} {d : Nat} {Q : s_O → Prop} {h : s_H} {kc ks : Nat} {r0 : Term} {x1 : Int} {r2 r3 : Term} {s0 : Int}  (k : Q (.inl (some (vi s0)), h, kc, ks))   : wr P d sw_c32 sw_h32 (52, [r0, vi x1, r2, r3], [vi s0], h, kc, ks) Q := by
  exact w_iret rfl k

theorem k32_53 {P : s_P} {d : Nat} {Q : s_O → Prop} {h : s_H} {kc ks : Nat} {r0 : Term} {x1 : Int} {r2 r3 : Term}  (k : wm P d 52 [r2, vi 0] h (wq P d sw_c32 sw_h32 58 [r0, vi x1, r2, r3] [] kc ks Q)) (y1 : s_ty r2 = 3 := by first | rfl | assumption)  : wr P d sw_c32 sw_h32 (53, [r0, vi x1, r2, r3], [], h, kc, ks) Q := by
  refine w_ld rfl rfl (Or.inr (Or.inr ⟨by decide, y1⟩)) ?_
  refine w_c32 rfl (by decide) 0 (by decide) ?_
  exact w_cs rfl [r2, vi 0] [] rfl rfl (s_wt_4 rfl) k

theorem k32_58 {P : s_P} {d : Nat} {Q : s_O → Prop} {h : s_H} {kc ks : Nat} {r0 : Term} {x1 : Int} {r2 r3 : Term} {q2 : Nat} {f3 : List Term} {v5 v9 : Term} {q11 : Nat} {f12 : List Term} (g4 : s_get h q2 = some (1, 10, f3)) (g13 : s_get h q11 = some (1, 0, f12)) (k : wm P d 108 [.index q11, vi x1, r2, r3, v9] h (wq P d sw_c32 sw_h32 73 [.index q2, vi x1, r2, r3] [.index q2] kc ks Q)) (e_q2 : r0 = .index q2 := by first | rfl | assumption) (e_q11 : v5 = .index q11 := by first | rfl | assumption) (y1 : s_ty r0 = 3 := by first | rfl | assumption) (n6 : s_nth f3 8 = some v5 := by first | rfl | assumption) (y7 : s_ty r2 = 3 := by first | rfl | assumption) (y8 : s_ty r3 = 3 := by first | rfl | assumption) (n10 : s_nth f3 17 = some v9 := by first | rfl | assumption)  : wr P d sw_c32 sw_h32 (58, [r0, vi x1, r2, r3], [], h, kc, ks) Q := by
  refine w_ld rfl rfl (Or.inr (Or.inr ⟨by decide, y1⟩)) ?_
  refine w_ld rfl rfl (Or.inr (Or.inr ⟨by decide, y1⟩)) ?_
  subst e_q2
  refine w_getf rfl g4 n6 ?_
  refine w_ld rfl rfl (Or.inl ⟨by decide, rfl⟩) ?_
  refine w_ld rfl rfl (Or.inr (Or.inr ⟨by decide, y7⟩)) ?_
  refine w_ld rfl rfl (Or.inr (Or.inr ⟨by decide, y8⟩)) ?_
  refine w_ld rfl rfl (Or.inr (Or.inr ⟨by decide, rfl⟩)) ?_
  refine w_getf rfl g4 n10 ?_
  subst e_q11
  exact w_cv rfl [.index q11, vi x1, r2, r3, v9] [.index q2] rfl rfl (s_wt_4 rfl) rfl g13 k

theorem k32_73 {P : s_P} {d : Nat} {Q : s_O → Prop} {h : s_H} {kc ks : Nat} {r0 : Term} {x1 : Int} {r2 r3 s0 s1 : Term} {q1 : Nat} {f2 : List Term} (g3 : s_get h q1 = some (1, 10, f2)) (k : wm P d 37 [.index q1, s1] h (wq P d sw_c32 sw_h32 76 [r0, vi x1, r2, r3] [] kc ks Q)) (e_q1 : s0 = .index q1 := by first | rfl | assumption)  : wr P d sw_c32 sw_h32 (73, [r0, vi x1, r2, r3], [s1, s0], h, kc, ks) Q := by
  subst e_q1
  exact w_cv rfl [.index q1, s1] [] rfl rfl (s_wt_4 rfl) rfl g3 k

theorem k32_76 {P : s_P} {d : Nat} {Q : s_O → Prop} {h : s_H} {kc ks : Nat} {r0 : Term} {x1 : Int} {r2 r3 : Term} {s0 : Int}  (k : Q (.inl (some (vi s0)), h, kc, ks))   : wr P d sw_c32 sw_h32 (76, [r0, vi x1, r2, r3], [vi s0], h, kc, ks) Q := by
  exact w_iret rfl k

/-! 33: FormulaWorks.joinedMatrices(ILFormulaWorks$Thing;LFormulaWorks$Thing;)LFormulaWorks$Thing; -/
theorem k33_0 {P : s_P} {d : Nat} {Q : s_O → Prop} {h : s_H} {kc ks : Nat} {r0 : Term} {x1 : Int} {r2 r3 : Term}  (k1 : x1 ≠ 42 → wr P d sw_c33 sw_h33 (35, [r0, vi x1, r2, r3], [], h, kc, ks) Q) (k2 : ¬ x1 ≠ 42 → wr P d sw_c33 sw_h33 (6, [r0, vi x1, r2, r3], [], h, kc, ks) Q)  (c1 : In3 x1 := by first | omega | assumption | (simp only [mk_len, List.length_map]; omega) | decide) : wr P d sw_c33 sw_h33 (0, [r0, vi x1, r2, r3], [], h, kc, ks) Q := by
  refine w_ld rfl rfl (Or.inl ⟨by decide, rfl⟩) ?_
  refine w_c32 rfl (by decide) 42 (by decide) ?_
  exact w_if2 rfl c1 (by decide) k1 k2

theorem k33_6 {P : s_P} {d : Nat} {Q : s_O → Prop} {h : s_H} {kc ks : Nat} {r0 : Term} {x1 : Int} {r2 r3 : Term} {q2 : Nat} {f3 : List Term} {z5 : Int} {q8 : Nat} {f9 : List Term} {z11 : Int} (g4 : s_get h q2 = some (1, 8, f3)) (g10 : s_get h q8 = some (1, 8, f9)) (k1 : z5 = z11 → wr P d sw_c33 sw_h33 (25, [r0, vi x1, .index q2, .index q8], [], h, kc, ks) Q) (k2 : ¬ z5 = z11 → wr P d sw_c33 sw_h33 (17, [r0, vi x1, .index q2, .index q8], [], h, kc, ks) Q) (e_q2 : r2 = .index q2 := by first | rfl | assumption) (e_q8 : r3 = .index q8 := by first | rfl | assumption) (y1 : s_ty r2 = 3 := by first | rfl | assumption) (n6 : s_nth f3 4 = some (vi z5) := by first | rfl | assumption) (y7 : s_ty r3 = 3 := by first | rfl | assumption) (n12 : s_nth f9 3 = some (vi z11) := by first | rfl | assumption) (c13 : In3 z5 := by first | omega | assumption | (simp only [mk_len, List.length_map]; omega) | decide) (c14 : In3 z11 := by first | omega | assumption | (simp only [mk_len, List.length_map]; omega) | decide) : wr P d sw_c33 sw_h33 (6, [r0, vi x1, r2, r3], [], h, kc, ks) Q := by
  refine w_ld rfl rfl (Or.inr (Or.inr ⟨by decide, y1⟩)) ?_
  subst e_q2
  refine w_getf rfl g4 n6 ?_
  refine w_ld rfl rfl (Or.inr (Or.inr ⟨by decide, y7⟩)) ?_
  subst e_q8
  refine w_getf rfl g10 n12 ?_
  exact w_if2 rfl c13 c14 k1 k2

theorem k33_17 {P : s_P} {d : Nat} {Q : s_O → Prop} {h : s_H} {kc ks : Nat} {r0 : Term} {x1 : Int} {r2 r3 : Term}  (k : Q (.inr 1, h, kc + 1, ks + 6))   : wr P d sw_c33 sw_h33 (17, [r0, vi x1, r2, r3], [], h, kc, ks) Q := by
  exact w_throw rfl (s_wt_4 rfl) k

theorem k33_25 {P : s_P} {d : Nat} {Q : s_O → Prop} {h : s_H} {kc ks : Nat} {r0 : Term} {x1 : Int} {r2 r3 : Term} {q2 : Nat} {f3 : List Term} {v5 : Term} {q9 : Nat} {f10 : List Term} (g4 : s_get h q2 = some (1, 10, f3)) (g11 : s_get h q9 = some (1, 2, f10)) (k : wm P d 143 [.index q9, r2, r3] h (wq P d sw_c33 sw_h33 34 [.index q2, vi x1, r2, r3] [] kc ks Q)) (e_q2 : r0 = .index q2 := by first | rfl | assumption) (e_q9 : v5 = .index q9 := by first | rfl | assumption) (y1 : s_ty r0 = 3 := by first | rfl | assumption) (n6 : s_nth f3 10 = some v5 := by first | rfl | assumption) (y7 : s_ty r2 = 3 := by first | rfl | assumption) (y8 : s_ty r3 = 3 := by first | rfl | assumption)  : wr P d sw_c33 sw_h33 (25, [r0, vi x1, r2, r3], [], h, kc, ks) Q := by
  refine w_ld rfl rfl (Or.inr (Or.inr ⟨by decide, y1⟩)) ?_
  subst e_q2
  refine w_getf rfl g4 n6 ?_
  refine w_ld rfl rfl (Or.inr (Or.inr ⟨by decide, y7⟩)) ?_
  refine w_ld rfl rfl (Or.inr (Or.inr ⟨by decide, y8⟩)) ?_
  subst e_q9
  exact w_cv rfl [.index q9, r2, r3] [] rfl rfl (s_wt_4 rfl) rfl g11 k

theorem k33_34 {P : s_P} {d : Nat} {Q : s_O → Prop} {h : s_H} {kc ks : Nat} {r0 : Term} {x1 : Int} {r2 r3 s0 : Term}  (k : Q (.inl (some s0), h, kc, ks)) (y1 : s_ty s0 = 3 := by first | rfl | assumption)  : wr P d sw_c33 sw_h33 (34, [r0, vi x1, r2, r3], [s0], h, kc, ks) Q := by
  exact w_aret rfl y1 k

theorem k33_35 {P : s_P} {d : Nat} {Q : s_O → Prop} {h : s_H} {kc ks : Nat} {r0 : Term} {x1 : Int} {r2 r3 : Term} {q2 : Nat} {f3 : List Term} {z5 : Int} {q8 : Nat} {f9 : List Term} {z11 : Int} (g4 : s_get h q2 = some (1, 8, f3)) (g10 : s_get h q8 = some (1, 8, f9)) (k1 : z5 ≠ z11 → wr P d sw_c33 sw_h33 (57, [r0, vi x1, .index q2, .index q8], [], h, kc, ks) Q) (k2 : ¬ z5 ≠ z11 → wr P d sw_c33 sw_h33 (46, [r0, vi x1, .index q2, .index q8], [], h, kc, ks) Q) (e_q2 : r2 = .index q2 := by first | rfl | assumption) (e_q8 : r3 = .index q8 := by first | rfl | assumption) (y1 : s_ty r2 = 3 := by first | rfl | assumption) (n6 : s_nth f3 3 = some (vi z5) := by first | rfl | assumption) (y7 : s_ty r3 = 3 := by first | rfl | assumption) (n12 : s_nth f9 3 = some (vi z11) := by first | rfl | assumption) (c13 : In3 z5 := by first | omega | assumption | (simp only [mk_len, List.length_map]; omega) | decide) (c14 : In3 z11 := by first | omega | assumption | (simp only [mk_len, List.length_map]; omega) | decide) : wr P d sw_c33 sw_h33 (35, [r0, vi x1, r2, r3], [], h, kc, ks) Q := by
  refine w_ld rfl rfl (Or.inr (Or.inr ⟨by decide, y1⟩)) ?_
  subst e_q2
  refine w_getf rfl g4 n6 ?_
  refine w_ld rfl rfl (Or.inr (Or.inr ⟨by decide, y7⟩)) ?_
  subst e_q8
  refine w_getf rfl g10 n12 ?_
  exact w_if2 rfl c13 c14 k1 k2

theorem k33_46 {P : s_P} {d : Nat} {Q : s_O → Prop} {h : s_H} {kc ks : Nat} {r0 : Term} {x1 : Int} {r2 r3 : Term} {q2 : Nat} {f3 : List Term} {z5 : Int} {q8 : Nat} {f9 : List Term} {z11 : Int} (g4 : s_get h q2 = some (1, 8, f3)) (g10 : s_get h q8 = some (1, 8, f9)) (k1 : z5 = z11 → wr P d sw_c33 sw_h33 (65, [r0, vi x1, .index q2, .index q8], [], h, kc, ks) Q) (k2 : ¬ z5 = z11 → wr P d sw_c33 sw_h33 (57, [r0, vi x1, .index q2, .index q8], [], h, kc, ks) Q) (e_q2 : r2 = .index q2 := by first | rfl | assumption) (e_q8 : r3 = .index q8 := by first | rfl | assumption) (y1 : s_ty r2 = 3 := by first | rfl | assumption) (n6 : s_nth f3 4 = some (vi z5) := by first | rfl | assumption) (y7 : s_ty r3 = 3 := by first | rfl | assumption) (n12 : s_nth f9 4 = some (vi z11) := by first | rfl | assumption) (c13 : In3 z5 := by first | omega | assumption | (simp only [mk_len, List.length_map]; omega) | decide) (c14 : In3 z11 := by first | omega | assumption | (simp only [mk_len, List.length_map]; omega) | decide) : wr P d sw_c33 sw_h33 (46, [r0, vi x1, r2, r3], [], h, kc, ks) Q := by
  refine w_ld rfl rfl (Or.inr (Or.inr ⟨by decide, y1⟩)) ?_
  subst e_q2
  refine w_getf rfl g4 n6 ?_
  refine w_ld rfl rfl (Or.inr (Or.inr ⟨by decide, y7⟩)) ?_
  subst e_q8
  refine w_getf rfl g10 n12 ?_
  exact w_if2 rfl c13 c14 k1 k2

theorem k33_57 {P : s_P} {d : Nat} {Q : s_O → Prop} {h : s_H} {kc ks : Nat} {r0 : Term} {x1 : Int} {r2 r3 : Term}  (k : Q (.inr 1, h, kc + 1, ks + 6))   : wr P d sw_c33 sw_h33 (57, [r0, vi x1, r2, r3], [], h, kc, ks) Q := by
  exact w_throw rfl (s_wt_4 rfl) k

theorem k33_65 {P : s_P} {d : Nat} {Q : s_O → Prop} {h : s_H} {kc ks : Nat} {r0 : Term} {x1 : Int} {r2 r3 : Term} {q2 : Nat} {f3 : List Term} {v5 : Term} (g4 : s_get h q2 = some (1, 10, f3)) (k1 : x1 ≠ 43 → wr P d sw_c33 sw_h33 (81, [.index q2, vi x1, r2, r3], [r3, r2, v5], h, kc, ks) Q) (k2 : ¬ x1 ≠ 43 → wr P d sw_c33 sw_h33 (77, [.index q2, vi x1, r2, r3], [r3, r2, v5], h, kc, ks) Q) (e_q2 : r0 = .index q2 := by first | rfl | assumption) (y1 : s_ty r0 = 3 := by first | rfl | assumption) (n6 : s_nth f3 10 = some v5 := by first | rfl | assumption) (y7 : s_ty r2 = 3 := by first | rfl | assumption) (y8 : s_ty r3 = 3 := by first | rfl | assumption) (c9 : In3 x1 := by first | omega | assumption | (simp only [mk_len, List.length_map]; omega) | decide) : wr P d sw_c33 sw_h33 (65, [r0, vi x1, r2, r3], [], h, kc, ks) Q := by
  refine w_ld rfl rfl (Or.inr (Or.inr ⟨by decide, y1⟩)) ?_
  subst e_q2
  refine w_getf rfl g4 n6 ?_
  refine w_ld rfl rfl (Or.inr (Or.inr ⟨by decide, y7⟩)) ?_
  refine w_ld rfl rfl (Or.inr (Or.inr ⟨by decide, y8⟩)) ?_
  refine w_ld rfl rfl (Or.inl ⟨by decide, rfl⟩) ?_
  refine w_c32 rfl (by decide) 43 (by decide) ?_
  exact w_if2 rfl c9 (by decide) k1 k2

theorem k33_77 {P : s_P} {d : Nat} {Q : s_O → Prop} {h : s_H} {kc ks : Nat} {r0 : Term} {x1 : Int} {r2 r3 s0 s1 s2 : Term}  (k : wr P d sw_c33 sw_h33 (84, [r0, vi x1, r2, r3], [vi 1, s2, s1, s0], h, kc, ks) Q)   : wr P d sw_c33 sw_h33 (77, [r0, vi x1, r2, r3], [s2, s1, s0], h, kc, ks) Q := by
  refine w_c32 rfl (by decide) 1 (by decide) ?_
  refine w_goto rfl ?_
  exact k

theorem k33_81 {P : s_P} {d : Nat} {Q : s_O → Prop} {h : s_H} {kc ks : Nat} {r0 : Term} {x1 : Int} {r2 r3 s0 s1 s2 : Term}  (k : wr P d sw_c33 sw_h33 (84, [r0, vi x1, r2, r3], [vi 32002, s2, s1, s0], h, kc, ks) Q)   : wr P d sw_c33 sw_h33 (81, [r0, vi x1, r2, r3], [s2, s1, s0], h, kc, ks) Q := by
  refine w_c32 rfl (by decide) 32002 (by decide) ?_
  exact k

theorem k33_84 {P : s_P} {d : Nat} {Q : s_O → Prop} {h : s_H} {kc ks : Nat} {r0 : Term} {x1 : Int} {r2 r3 s0 s1 s2 : Term} {s3 : Int} {q1 : Nat} {f2 : List Term} (g3 : s_get h q1 = some (1, 2, f2)) (k : wm P d 148 [.index q1, s1, s2, vi s3] h (wq P d sw_c33 sw_h33 87 [r0, vi x1, r2, r3] [] kc ks Q)) (e_q1 : s0 = .index q1 := by first | rfl | assumption)  : wr P d sw_c33 sw_h33 (84, [r0, vi x1, r2, r3], [vi s3, s2, s1, s0], h, kc, ks) Q := by
  subst e_q1
  exact w_cv rfl [.index q1, s1, s2, vi s3] [] rfl rfl (s_wt_4 rfl) rfl g3 k

theorem k33_87 {P : s_P} {d : Nat} {Q : s_O → Prop} {h : s_H} {kc ks : Nat} {r0 : Term} {x1 : Int} {r2 r3 s0 : Term}  (k : Q (.inl (some s0), h, kc, ks)) (y1 : s_ty s0 = 3 := by first | rfl | assumption)  : wr P d sw_c33 sw_h33 (87, [r0, vi x1, r2, r3], [s0], h, kc, ks) Q := by
  exact w_aret rfl y1 k

/-! 34: FormulaWorks.joinedSeries(I[I[I)[I -/
theorem k34_0 {P : s_P} {d : Nat} {Q : s_O → Prop} {h : s_H} {kc ks : Nat} {x0 : Int} {r1 r2 : Term}  (k1 : x0 ≠ 42 → wr P d sw_c34 sw_h34 (12, [vi x0, r1, r2], [], h, kc, ks) Q) (k2 : ¬ x0 ≠ 42 → wr P d sw_c34 sw_h34 (6, [vi x0, r1, r2], [], h, kc, ks) Q)  (c1 : In3 x0 := by first | omega | assumption | (simp only [mk_len, List.length_map]; omega) | decide) : wr P d sw_c34 sw_h34 (0, [vi x0, r1, r2], [], h, kc, ks) Q := by
  refine w_ld rfl rfl (Or.inl ⟨by decide, rfl⟩) ?_
  refine w_c32 rfl (by decide) 42 (by decide) ?_
  exact w_if2 rfl c1 (by decide) k1 k2

theorem k34_6 {P : s_P} {d : Nat} {Q : s_O → Prop} {h : s_H} {kc ks : Nat} {x0 : Int} {r1 r2 : Term}  (k : wm P d 242 [r1, r2] h (wq P d sw_c34 sw_h34 11 [vi x0, r1, r2] [] kc ks Q)) (y1 : s_ty r1 = 3 := by first | rfl | assumption) (y2 : s_ty r2 = 3 := by first | rfl | assumption)  : wr P d sw_c34 sw_h34 (6, [vi x0, r1, r2], [], h, kc, ks) Q := by
  refine w_ld rfl rfl (Or.inr (Or.inr ⟨by decide, y1⟩)) ?_
  refine w_ld rfl rfl (Or.inr (Or.inr ⟨by decide, y2⟩)) ?_
  exact w_cs rfl [r1, r2] [] rfl rfl (s_wt_4 rfl) k

theorem k34_11 {P : s_P} {d : Nat} {Q : s_O → Prop} {h : s_H} {kc ks : Nat} {x0 : Int} {r1 r2 s0 : Term}  (k : Q (.inl (some s0), h, kc, ks)) (y1 : s_ty s0 = 3 := by first | rfl | assumption)  : wr P d sw_c34 sw_h34 (11, [vi x0, r1, r2], [s0], h, kc, ks) Q := by
  exact w_aret rfl y1 k

theorem k34_12 {P : s_P} {d : Nat} {Q : s_O → Prop} {h : s_H} {kc ks : Nat} {x0 : Int} {r1 r2 : Term}  (k1 : x0 = 47 → wr P d sw_c34 sw_h34 (37, [vi x0, r1, r2], [], h, kc, ks) Q) (k2 : ¬ x0 = 47 → wr P d sw_c34 sw_h34 (18, [vi x0, r1, r2], [], h, kc, ks) Q)  (c1 : In3 x0 := by first | omega | assumption | (simp only [mk_len, List.length_map]; omega) | decide) : wr P d sw_c34 sw_h34 (12, [vi x0, r1, r2], [], h, kc, ks) Q := by
  refine w_ld rfl rfl (Or.inl ⟨by decide, rfl⟩) ?_
  refine w_c32 rfl (by decide) 47 (by decide) ?_
  exact w_if2 rfl c1 (by decide) k1 k2

theorem k34_18 {P : s_P} {d : Nat} {Q : s_O → Prop} {h : s_H} {kc ks : Nat} {x0 : Int} {r1 r2 : Term}  (k1 : x0 ≠ 43 → wr P d sw_c34 sw_h34 (30, [vi x0, r1, r2], [r2, r1], h, kc, ks) Q) (k2 : ¬ x0 ≠ 43 → wr P d sw_c34 sw_h34 (26, [vi x0, r1, r2], [r2, r1], h, kc, ks) Q) (y1 : s_ty r1 = 3 := by first | rfl | assumption) (y2 : s_ty r2 = 3 := by first | rfl | assumption) (c3 : In3 x0 := by first | omega | assumption | (simp only [mk_len, List.length_map]; omega) | decide) : wr P d sw_c34 sw_h34 (18, [vi x0, r1, r2], [], h, kc, ks) Q := by
  refine w_ld rfl rfl (Or.inr (Or.inr ⟨by decide, y1⟩)) ?_
  refine w_ld rfl rfl (Or.inr (Or.inr ⟨by decide, y2⟩)) ?_
  refine w_ld rfl rfl (Or.inl ⟨by decide, rfl⟩) ?_
  refine w_c32 rfl (by decide) 43 (by decide) ?_
  exact w_if2 rfl c3 (by decide) k1 k2

theorem k34_26 {P : s_P} {d : Nat} {Q : s_O → Prop} {h : s_H} {kc ks : Nat} {x0 : Int} {r1 r2 s0 s1 : Term}  (k : wr P d sw_c34 sw_h34 (33, [vi x0, r1, r2], [vi 1, s1, s0], h, kc, ks) Q)   : wr P d sw_c34 sw_h34 (26, [vi x0, r1, r2], [s1, s0], h, kc, ks) Q := by
  refine w_c32 rfl (by decide) 1 (by decide) ?_
  refine w_goto rfl ?_
  exact k

theorem k34_30 {P : s_P} {d : Nat} {Q : s_O → Prop} {h : s_H} {kc ks : Nat} {x0 : Int} {r1 r2 s0 s1 : Term}  (k : wr P d sw_c34 sw_h34 (33, [vi x0, r1, r2], [vi 32002, s1, s0], h, kc, ks) Q)   : wr P d sw_c34 sw_h34 (30, [vi x0, r1, r2], [s1, s0], h, kc, ks) Q := by
  refine w_c32 rfl (by decide) 32002 (by decide) ?_
  exact k

theorem k34_33 {P : s_P} {d : Nat} {Q : s_O → Prop} {h : s_H} {kc ks : Nat} {x0 : Int} {r1 r2 s0 s1 : Term} {s2 : Int}  (k : wm P d 241 [s0, s1, vi s2] h (wq P d sw_c34 sw_h34 36 [vi x0, r1, r2] [] kc ks Q))   : wr P d sw_c34 sw_h34 (33, [vi x0, r1, r2], [vi s2, s1, s0], h, kc, ks) Q := by
  exact w_cs rfl [s0, s1, vi s2] [] rfl rfl (s_wt_4 rfl) k

theorem k34_36 {P : s_P} {d : Nat} {Q : s_O → Prop} {h : s_H} {kc ks : Nat} {x0 : Int} {r1 r2 s0 : Term}  (k : Q (.inl (some s0), h, kc, ks)) (y1 : s_ty s0 = 3 := by first | rfl | assumption)  : wr P d sw_c34 sw_h34 (36, [vi x0, r1, r2], [s0], h, kc, ks) Q := by
  exact w_aret rfl y1 k

theorem k34_37 {P : s_P} {d : Nat} {Q : s_O → Prop} {h : s_H} {kc ks : Nat} {x0 : Int} {r1 r2 : Term} {q2 : Nat} {a3 : List Int} (g4 : s_get h q2 = some (0, 0, a3.map vi)) (k1 : gi a3 0 ≠ 0 → wr P d sw_c34 sw_h34 (51, [vi x0, r1, .index q2], [], h, kc, ks) Q) (k2 : ¬ gi a3 0 ≠ 0 → wr P d sw_c34 sw_h34 (43, [vi x0, r1, .index q2], [], h, kc, ks) Q) (e_q2 : r2 = .index q2 := by first | rfl | assumption) (y1 : s_ty r2 = 3 := by first | rfl | assumption) (c5 : (0 : Int) < a3.length := by first | omega | assumption | (simp only [mk_len, List.length_map]; omega) | decide) (c6 : In3 (gi a3 0) := by first | omega | assumption | (simp only [mk_len, List.length_map]; omega) | decide) : wr P d sw_c34 sw_h34 (37, [vi x0, r1, r2], [], h, kc, ks) Q := by
  refine w_ld rfl rfl (Or.inr (Or.inr ⟨by decide, y1⟩)) ?_
  refine w_c32 rfl (by decide) 0 (by decide) ?_
  subst e_q2
  refine w_iald rfl g4 (Or.inl rfl) (by decide) (by decide) c5 ?_
  exact w_if1 rfl c6 k1 k2

theorem k34_43 {P : s_P} {d : Nat} {Q : s_O → Prop} {h : s_H} {kc ks : Nat} {x0 : Int} {r1 r2 : Term}  (k : Q (.inr 2, h, kc + 1, ks + 6))   : wr P d sw_c34 sw_h34 (43, [vi x0, r1, r2], [], h, kc, ks) Q := by
  exact w_throw rfl (s_wt_4 rfl) k

theorem k34_51 {P : s_P} {d : Nat} {Q : s_O → Prop} {h : s_H} {kc ks : Nat} {x0 : Int} {r1 r2 : Term}  (k : wm P d 243 [r1, r2] h (wq P d sw_c34 sw_h34 56 [vi x0, r1, r2] [] kc ks Q)) (y1 : s_ty r1 = 3 := by first | rfl | assumption) (y2 : s_ty r2 = 3 := by first | rfl | assumption)  : wr P d sw_c34 sw_h34 (51, [vi x0, r1, r2], [], h, kc, ks) Q := by
  refine w_ld rfl rfl (Or.inr (Or.inr ⟨by decide, y1⟩)) ?_
  refine w_ld rfl rfl (Or.inr (Or.inr ⟨by decide, y2⟩)) ?_
  exact w_cs rfl [r1, r2] [] rfl rfl (s_wt_4 rfl) k

theorem k34_56 {P : s_P} {d : Nat} {Q : s_O → Prop} {h : s_H} {kc ks : Nat} {x0 : Int} {r1 r2 s0 : Term}  (k : Q (.inl (some s0), h, kc, ks)) (y1 : s_ty s0 = 3 := by first | rfl | assumption)  : wr P d sw_c34 sw_h34 (56, [vi x0, r1, r2], [s0], h, kc, ks) Q := by
  exact w_aret rfl y1 k

/-! 35: FormulaWorks.keep(LFormulaWorks$Thing;)I -/
theorem k35_0 {P : s_P} {d : Nat} {Q : s_O → Prop} {h : s_H} {kc ks : Nat} {r0 r1 : Term} {q2 : Nat} {f3 : List Term} (g4 : s_get h q2 = some (1, 10, f3)) (k : wm P d 54 [.index q2] h (wq P d sw_c35 sw_h35 4 [.index q2, r1] [] kc ks Q)) (e_q2 : r0 = .index q2 := by first | rfl | assumption) (y1 : s_ty r0 = 3 := by first | rfl | assumption)  : wr P d sw_c35 sw_h35 (0, [r0, r1], [], h, kc, ks) Q := by
  refine w_ld rfl rfl (Or.inr (Or.inr ⟨by decide, y1⟩)) ?_
  subst e_q2
  exact w_cv rfl [.index q2] [] rfl rfl (s_wt_4 rfl) rfl g4 k

theorem k35_4 {P : s_P} {d : Nat} {Q : s_O → Prop} {h : s_H} {kc ks : Nat} {r0 r1 : Term} {q2 : Nat} {f3 : List Term} {v5 : Term} {z7 : Int} {q10 : Nat} {a11 : List Term} {tg13 : Nat} {f20 : List Term} {z22 : Int} {f26 : List Term} {z28 : Int} (g4 : s_get h q2 = some (1, 10, f3)) (g12 : s_get h q10 = some (0, tg13, a11)) (w15 : s_okA h s_comp tg13 r1 = true) (g21 : s_get (hp h q10 (0, tg13, a11.set (Int.toNat (z7)) r1)) q2 = some (1, 10, f20)) (g27 : s_get (hp (hp h q10 (0, tg13, a11.set (Int.toNat (z7)) r1)) q2 (1, 10, f20.set 1 (vi (z22 + 1)))) q2 = some (1, 10, f26)) (k : Q (.inl (some (vi (z28 - 1))), (hp (hp h q10 (0, tg13, a11.set (Int.toNat (z7)) r1)) q2 (1, 10, f20.set 1 (vi (z22 + 1)))), kc, ks)) (e_q2 : r0 = .index q2 := by first | rfl | assumption) (e_q10 : v5 = .index q10 := by first | rfl | assumption) (y1 : s_ty r0 = 3 := by first | rfl | assumption) (n6 : s_nth f3 0 = some v5 := by first | rfl | assumption) (n8 : s_nth f3 1 = some (vi z7) := by first | rfl | assumption) (y9 : s_ty r1 = 3 := by first | rfl | assumption) (u14 : tg13 = 2 ∨ tg13 = 3 := by first | decide | assumption) (n23 : s_nth f20 1 = some (vi z22) := by first | rfl | assumption) (l24 : 1 < f20.length := by first | exact Nat.le_of_ble_eq_true rfl | omega | assumption) (n29 : s_nth f26 1 = some (vi z28) := by first | rfl | assumption) (c16 : z7 < a11.length := by first | omega | assumption | (simp only [mk_len, List.length_map]; omega) | decide) (c17 : 0 ≤ z7 := by first | omega | assumption | (simp only [mk_len, List.length_map]; omega) | decide) (c18 : In3 z7 := by first | omega | assumption | (simp only [mk_len, List.length_map]; omega) | decide) (c19 : 0 < q10 := by first | omega | assumption | (simp only [mk_len, List.length_map]; omega) | decide) (c25 : 0 < q2 := by first | omega | assumption | (simp only [mk_len, List.length_map]; omega) | decide) : wr P d sw_c35 sw_h35 (4, [r0, r1], [], h, kc, ks) Q := by
  refine w_ld rfl rfl (Or.inr (Or.inr ⟨by decide, y1⟩)) ?_
  subst e_q2
  refine w_getf rfl g4 n6 ?_
  refine w_ld rfl rfl (Or.inr (Or.inr ⟨by decide, rfl⟩)) ?_
  refine w_getf rfl g4 n8 ?_
  refine w_ld rfl rfl (Or.inr (Or.inr ⟨by decide, y9⟩)) ?_
  subst e_q10
  refine w_aast rfl g12 u14 (Nat.ble_eq_true_of_le c19) c18 c17 c16 w15 ?_
  refine w_ld rfl rfl (Or.inr (Or.inr ⟨by decide, rfl⟩)) ?_
  refine w_dup rfl rfl ?_
  refine w_getf rfl g21 n23 ?_
  refine w_c32 rfl (by decide) 1 (by decide) ?_
  refine w_iadd rfl ?_
  refine w_putf rfl g21 (Nat.ble_eq_true_of_le c25) rfl (Nat.ble_eq_true_of_le l24) ?_
  refine w_ld rfl rfl (Or.inr (Or.inr ⟨by decide, rfl⟩)) ?_
  refine w_getf rfl g27 n29 ?_
  refine w_c32 rfl (by decide) 1 (by decide) ?_
  refine w_isub rfl ?_
  exact w_iret rfl k

/-! 36: FormulaWorks.keepFound(LFormulaWorks$Thing;)I -/
theorem k36_0 {P : s_P} {d : Nat} {Q : s_O → Prop} {h : s_H} {kc ks : Nat} {r0 r1 : Term} {q2 : Nat} {f3 : List Term} (g4 : s_get h q2 = some (1, 10, f3)) (k : wm P d 54 [.index q2] h (wq P d sw_c36 sw_h36 4 [.index q2, r1] [] kc ks Q)) (e_q2 : r0 = .index q2 := by first | rfl | assumption) (y1 : s_ty r0 = 3 := by first | rfl | assumption)  : wr P d sw_c36 sw_h36 (0, [r0, r1], [], h, kc, ks) Q := by
  refine w_ld rfl rfl (Or.inr (Or.inr ⟨by decide, y1⟩)) ?_
  subst e_q2
  exact w_cv rfl [.index q2] [] rfl rfl (s_wt_4 rfl) rfl g4 k

theorem k36_4 {P : s_P} {d : Nat} {Q : s_O → Prop} {h : s_H} {kc ks : Nat} {r0 r1 : Term} {q2 : Nat} {f3 : List Term} {z5 : Int} (g4 : s_get h q2 = some (1, 8, f3)) (k1 : z5 ≠ 9 → wr P d sw_c36 sw_h36 (17, [r0, .index q2], [], h, kc, ks) Q) (k2 : ¬ z5 ≠ 9 → wr P d sw_c36 sw_h36 (13, [r0, .index q2], [], h, kc, ks) Q) (e_q2 : r1 = .index q2 := by first | rfl | assumption) (y1 : s_ty r1 = 3 := by first | rfl | assumption) (n6 : s_nth f3 7 = some (vi z5) := by first | rfl | assumption) (c7 : In3 z5 := by first | omega | assumption | (simp only [mk_len, List.length_map]; omega) | decide) : wr P d sw_c36 sw_h36 (4, [r0, r1], [], h, kc, ks) Q := by
  refine w_ld rfl rfl (Or.inr (Or.inr ⟨by decide, y1⟩)) ?_
  subst e_q2
  refine w_getf rfl g4 n6 ?_
  refine w_c32 rfl (by decide) 9 (by decide) ?_
  exact w_if2 rfl c7 (by decide) k1 k2

theorem k36_13 {P : s_P} {d : Nat} {Q : s_O → Prop} {h : s_H} {kc ks : Nat} {r0 r1 : Term}  (k : wr P d sw_c36 sw_h36 (22, [r0, r1], [vi (-1)], h, kc, ks) Q)   : wr P d sw_c36 sw_h36 (13, [r0, r1], [], h, kc, ks) Q := by
  refine w_c32 rfl (by decide) (-1) (by decide) ?_
  refine w_goto rfl ?_
  exact k

theorem k36_17 {P : s_P} {d : Nat} {Q : s_O → Prop} {h : s_H} {kc ks : Nat} {r0 r1 : Term} {q3 : Nat} {f4 : List Term} (g5 : s_get h q3 = some (1, 10, f4)) (k : wm P d 37 [.index q3, r1] h (wq P d sw_c36 sw_h36 22 [.index q3, r1] [] kc ks Q)) (e_q3 : r0 = .index q3 := by first | rfl | assumption) (y1 : s_ty r0 = 3 := by first | rfl | assumption) (y2 : s_ty r1 = 3 := by first | rfl | assumption)  : wr P d sw_c36 sw_h36 (17, [r0, r1], [], h, kc, ks) Q := by
  refine w_ld rfl rfl (Or.inr (Or.inr ⟨by decide, y1⟩)) ?_
  refine w_ld rfl rfl (Or.inr (Or.inr ⟨by decide, y2⟩)) ?_
  subst e_q3
  exact w_cv rfl [.index q3, r1] [] rfl rfl (s_wt_4 rfl) rfl g5 k

theorem k36_22 {P : s_P} {d : Nat} {Q : s_O → Prop} {h : s_H} {kc ks : Nat} {r0 r1 : Term} {s0 : Int}  (k : Q (.inl (some (vi s0)), h, kc, ks))   : wr P d sw_c36 sw_h36 (22, [r0, r1], [vi s0], h, kc, ks) Q := by
  exact w_iret rfl k

/-! 37: FormulaWorks.keepFraction(LFormulaWorks$Thing;)I -/
theorem k37_0 {P : s_P} {d : Nat} {Q : s_O → Prop} {h : s_H} {kc ks : Nat} {r0 r1 : Term} {q2 : Nat} {f3 : List Term} {z5 : Int} (g4 : s_get h q2 = some (1, 8, f3)) (k1 : z5 ≠ 4 → wr P d sw_c37 sw_h37 (16, [r0, .index q2], [], h, kc, ks) Q) (k2 : ¬ z5 ≠ 4 → wr P d sw_c37 sw_h37 (8, [r0, .index q2], [], h, kc, ks) Q) (e_q2 : r1 = .index q2 := by first | rfl | assumption) (y1 : s_ty r1 = 3 := by first | rfl | assumption) (n6 : s_nth f3 7 = some (vi z5) := by first | rfl | assumption) (c7 : In3 z5 := by first | omega | assumption | (simp only [mk_len, List.length_map]; omega) | decide) : wr P d sw_c37 sw_h37 (0, [r0, r1], [], h, kc, ks) Q := by
  refine w_ld rfl rfl (Or.inr (Or.inr ⟨by decide, y1⟩)) ?_
  subst e_q2
  refine w_getf rfl g4 n6 ?_
  refine w_c32 rfl (by decide) 4 (by decide) ?_
  exact w_if2 rfl c7 (by decide) k1 k2

theorem k37_8 {P : s_P} {d : Nat} {Q : s_O → Prop} {h : s_H} {kc ks : Nat} {r0 r1 : Term}  (k : Q (.inr 2, h, kc + 1, ks + 6))   : wr P d sw_c37 sw_h37 (8, [r0, r1], [], h, kc, ks) Q := by
  exact w_throw rfl (s_wt_4 rfl) k

theorem k37_16 {P : s_P} {d : Nat} {Q : s_O → Prop} {h : s_H} {kc ks : Nat} {r0 r1 : Term} {q2 : Nat} {f3 : List Term} (g4 : s_get h q2 = some (1, 10, f3)) (k : wm P d 54 [.index q2] h (wq P d sw_c37 sw_h37 20 [.index q2, r1] [] kc ks Q)) (e_q2 : r0 = .index q2 := by first | rfl | assumption) (y1 : s_ty r0 = 3 := by first | rfl | assumption)  : wr P d sw_c37 sw_h37 (16, [r0, r1], [], h, kc, ks) Q := by
  refine w_ld rfl rfl (Or.inr (Or.inr ⟨by decide, y1⟩)) ?_
  subst e_q2
  exact w_cv rfl [.index q2] [] rfl rfl (s_wt_4 rfl) rfl g4 k

theorem k37_20 {P : s_P} {d : Nat} {Q : s_O → Prop} {h : s_H} {kc ks : Nat} {r0 r1 : Term} {q2 : Nat} {f3 : List Term} {z5 : Int} (g4 : s_get h q2 = some (1, 8, f3)) (k1 : z5 = 0 → wr P d sw_c37 sw_h37 (35, [r0, .index q2], [], h, kc, ks) Q) (k2 : ¬ z5 = 0 → wr P d sw_c37 sw_h37 (27, [r0, .index q2], [], h, kc, ks) Q) (e_q2 : r1 = .index q2 := by first | rfl | assumption) (y1 : s_ty r1 = 3 := by first | rfl | assumption) (n6 : s_nth f3 7 = some (vi z5) := by first | rfl | assumption) (c7 : In3 z5 := by first | omega | assumption | (simp only [mk_len, List.length_map]; omega) | decide) : wr P d sw_c37 sw_h37 (20, [r0, r1], [], h, kc, ks) Q := by
  refine w_ld rfl rfl (Or.inr (Or.inr ⟨by decide, y1⟩)) ?_
  subst e_q2
  refine w_getf rfl g4 n6 ?_
  exact w_if1 rfl c7 k1 k2

theorem k37_27 {P : s_P} {d : Nat} {Q : s_O → Prop} {h : s_H} {kc ks : Nat} {r0 r1 : Term}  (k : Q (.inr 0, h, kc + 1, ks + 6))   : wr P d sw_c37 sw_h37 (27, [r0, r1], [], h, kc, ks) Q := by
  exact w_throw rfl (s_wt_4 rfl) k

theorem k37_35 {P : s_P} {d : Nat} {Q : s_O → Prop} {h : s_H} {kc ks : Nat} {r0 r1 : Term} {fc2 : s_C} {q5 : Nat} {f6 : List Term} {v8 : Term} {q10 : Nat} {f11 : List Term} (g3 : s_get h (h).1 = some fc2) (g7 : s_get (hq h (1, 8, s_df 8)) q5 = some (1, 8, f6)) (g12 : s_get (hq h (1, 8, s_df 8)) q10 = some (1, 4, f11)) (k : wm P d 170 [.index q10] (hq h (1, 8, s_df 8)) (wq P d sw_c37 sw_h37 47 [r0, .index q5] [.index h.1, .index h.1, r0] (kc + 1) (ks + 8) Q)) (e_q5 : r1 = .index q5 := by first | rfl | assumption) (e_q10 : v8 = .index q10 := by first | rfl | assumption) (y1 : s_ty r0 = 3 := by first | rfl | assumption) (y4 : s_ty r1 = 3 := by first | rfl | assumption) (n9 : s_nth f6 1 = some v8 := by first | rfl | assumption)  : wr P d sw_c37 sw_h37 (35, [r0, r1], [], h, kc, ks) Q := by
  refine w_ld rfl rfl (Or.inr (Or.inr ⟨by decide, y1⟩)) ?_
  refine w_new rfl g3 ?_
  refine w_dup rfl rfl ?_
  refine w_ld rfl rfl (Or.inr (Or.inr ⟨by decide, y4⟩)) ?_
  subst e_q5
  refine w_getf rfl g7 n9 ?_
  subst e_q10
  exact w_cv rfl [.index q10] [.index h.1, .index h.1, r0] rfl rfl (s_wt_4 rfl) rfl g12 k

theorem k37_47 {P : s_P} {d : Nat} {Q : s_O → Prop} {h : s_H} {kc ks : Nat} {r0 r1 s0 s1 s2 s3 : Term} {q2 : Nat} {f3 : List Term} (g4 : s_get h q2 = some (1, 8, f3)) (k : wm P d 267 [.index q2] h (wq P d sw_c37 sw_h37 51 [r0, .index q2] [s3, s2, s1, s0] kc ks Q)) (e_q2 : r1 = .index q2 := by first | rfl | assumption) (y1 : s_ty r1 = 3 := by first | rfl | assumption)  : wr P d sw_c37 sw_h37 (47, [r0, r1], [s3, s2, s1, s0], h, kc, ks) Q := by
  refine w_ld rfl rfl (Or.inr (Or.inr ⟨by decide, y1⟩)) ?_
  subst e_q2
  exact w_cv rfl [.index q2] [s3, s2, s1, s0] rfl rfl (s_wt_4 rfl) rfl g4 k

theorem k37_51 {P : s_P} {d : Nat} {Q : s_O → Prop} {h : s_H} {kc ks : Nat} {r0 r1 s0 s1 s2 s3 : Term} {s4 : Int}  (k1 : s4 = 0 → wr P d sw_c37 sw_h37 (61, [r0, r1], [s3, s2, s1, s0], h, kc, ks) Q) (k2 : ¬ s4 = 0 → wr P d sw_c37 sw_h37 (54, [r0, r1], [s3, s2, s1, s0], h, kc, ks) Q)  (c1 : In3 s4 := by first | omega | assumption | (simp only [mk_len, List.length_map]; omega) | decide) : wr P d sw_c37 sw_h37 (51, [r0, r1], [vi s4, s3, s2, s1, s0], h, kc, ks) Q := by
  exact w_if1 rfl c1 k1 k2

theorem k37_54 {P : s_P} {d : Nat} {Q : s_O → Prop} {h : s_H} {kc ks : Nat} {r0 r1 s0 s1 s2 s3 : Term} {q2 : Nat} {f3 : List Term} {v5 : Term} (g4 : s_get h q2 = some (1, 10, f3)) (k : wr P d sw_c37 sw_h37 (68, [.index q2, r1], [v5, s3, s2, s1, s0], h, kc, ks) Q) (e_q2 : r0 = .index q2 := by first | rfl | assumption) (y1 : s_ty r0 = 3 := by first | rfl | assumption) (n6 : s_nth f3 15 = some v5 := by first | rfl | assumption)  : wr P d sw_c37 sw_h37 (54, [r0, r1], [s3, s2, s1, s0], h, kc, ks) Q := by
  refine w_ld rfl rfl (Or.inr (Or.inr ⟨by decide, y1⟩)) ?_
  subst e_q2
  refine w_getf rfl g4 n6 ?_
  refine w_goto rfl ?_
  exact k

theorem k37_61 {P : s_P} {d : Nat} {Q : s_O → Prop} {h : s_H} {kc ks : Nat} {r0 r1 s0 s1 s2 s3 : Term} {q2 : Nat} {f3 : List Term} {v5 : Term} {q7 : Nat} {f8 : List Term} (g4 : s_get h q2 = some (1, 8, f3)) (g9 : s_get h q7 = some (1, 4, f8)) (k : wm P d 170 [.index q7] h (wq P d sw_c37 sw_h37 68 [r0, .index q2] [s3, s2, s1, s0] kc ks Q)) (e_q2 : r1 = .index q2 := by first | rfl | assumption) (e_q7 : v5 = .index q7 := by first | rfl | assumption) (y1 : s_ty r1 = 3 := by first | rfl | assumption) (n6 : s_nth f3 2 = some v5 := by first | rfl | assumption)  : wr P d sw_c37 sw_h37 (61, [r0, r1], [s3, s2, s1, s0], h, kc, ks) Q := by
  refine w_ld rfl rfl (Or.inr (Or.inr ⟨by decide, y1⟩)) ?_
  subst e_q2
  refine w_getf rfl g4 n6 ?_
  subst e_q7
  exact w_cv rfl [.index q7] [s3, s2, s1, s0] rfl rfl (s_wt_4 rfl) rfl g9 k

theorem k37_68 {P : s_P} {d : Nat} {Q : s_O → Prop} {h : s_H} {kc ks : Nat} {r0 r1 s0 s1 s2 s3 s4 : Term} {q1 : Nat} (k : wm P d 264 [.index q1, s3, s4] h (fun out => out.1 = .inl none ∧ wr P d sw_c37 sw_h37 (71, [r0, r1], [s1, s0], out.2.1, kc + out.2.2.1, ks + out.2.2.2) Q)) (e_q1 : s2 = .index q1 := by first | rfl | assumption)  : wr P d sw_c37 sw_h37 (68, [r0, r1], [s4, s3, s2, s1, s0], h, kc, ks) Q := by
  subst e_q1
  exact w_ci rfl [.index q1, s3, s4] [s1, s0] rfl rfl (s_wt_4 rfl) rfl k

theorem k37_71 {P : s_P} {d : Nat} {Q : s_O → Prop} {h : s_H} {kc ks : Nat} {r0 r1 s0 s1 : Term} {q1 : Nat} {f2 : List Term} (g3 : s_get h q1 = some (1, 10, f2)) (k : wm P d 35 [.index q1, s1] h (wq P d sw_c37 sw_h37 74 [r0, r1] [] kc ks Q)) (e_q1 : s0 = .index q1 := by first | rfl | assumption)  : wr P d sw_c37 sw_h37 (71, [r0, r1], [s1, s0], h, kc, ks) Q := by
  subst e_q1
  exact w_cv rfl [.index q1, s1] [] rfl rfl (s_wt_4 rfl) rfl g3 k

theorem k37_74 {P : s_P} {d : Nat} {Q : s_O → Prop} {h : s_H} {kc ks : Nat} {r0 r1 : Term} {s0 : Int}  (k : Q (.inl (some (vi s0)), h, kc, ks))   : wr P d sw_c37 sw_h37 (74, [r0, r1], [vi s0], h, kc, ks) Q := by
  exact w_iret rfl k

/-! 38: FormulaWorks.keepMatrix(LFormulaWorks$Thing;)I -/
theorem k38_0 {P : s_P} {d : Nat} {Q : s_O → Prop} {h : s_H} {kc ks : Nat} {r0 r1 : Term} {q2 : Nat} {f3 : List Term} (g4 : s_get h q2 = some (1, 10, f3)) (k : wm P d 54 [.index q2] h (wq P d sw_c38 sw_h38 4 [.index q2, r1] [] kc ks Q)) (e_q2 : r0 = .index q2 := by first | rfl | assumption) (y1 : s_ty r0 = 3 := by first | rfl | assumption)  : wr P d sw_c38 sw_h38 (0, [r0, r1], [], h, kc, ks) Q := by
  refine w_ld rfl rfl (Or.inr (Or.inr ⟨by decide, y1⟩)) ?_
  subst e_q2
  exact w_cv rfl [.index q2] [] rfl rfl (s_wt_4 rfl) rfl g4 k

theorem k38_4 {P : s_P} {d : Nat} {Q : s_O → Prop} {h : s_H} {kc ks : Nat} {r0 r1 : Term} {q2 : Nat} {f3 : List Term} {z5 : Int} (g4 : s_get h q2 = some (1, 8, f3)) (k1 : z5 = 0 → wr P d sw_c38 sw_h38 (19, [r0, .index q2], [], h, kc, ks) Q) (k2 : ¬ z5 = 0 → wr P d sw_c38 sw_h38 (11, [r0, .index q2], [], h, kc, ks) Q) (e_q2 : r1 = .index q2 := by first | rfl | assumption) (y1 : s_ty r1 = 3 := by first | rfl | assumption) (n6 : s_nth f3 7 = some (vi z5) := by first | rfl | assumption) (c7 : In3 z5 := by first | omega | assumption | (simp only [mk_len, List.length_map]; omega) | decide) : wr P d sw_c38 sw_h38 (4, [r0, r1], [], h, kc, ks) Q := by
  refine w_ld rfl rfl (Or.inr (Or.inr ⟨by decide, y1⟩)) ?_
  subst e_q2
  refine w_getf rfl g4 n6 ?_
  exact w_if1 rfl c7 k1 k2

theorem k38_11 {P : s_P} {d : Nat} {Q : s_O → Prop} {h : s_H} {kc ks : Nat} {r0 r1 : Term}  (k : Q (.inr 0, h, kc + 1, ks + 6))   : wr P d sw_c38 sw_h38 (11, [r0, r1], [], h, kc, ks) Q := by
  exact w_throw rfl (s_wt_4 rfl) k

theorem k38_19 {P : s_P} {d : Nat} {Q : s_O → Prop} {h : s_H} {kc ks : Nat} {r0 r1 : Term} {q3 : Nat} {f4 : List Term} (g5 : s_get h q3 = some (1, 10, f4)) (k : wm P d 35 [.index q3, r1] h (wq P d sw_c38 sw_h38 24 [.index q3, r1] [] kc ks Q)) (e_q3 : r0 = .index q3 := by first | rfl | assumption) (y1 : s_ty r0 = 3 := by first | rfl | assumption) (y2 : s_ty r1 = 3 := by first | rfl | assumption)  : wr P d sw_c38 sw_h38 (19, [r0, r1], [], h, kc, ks) Q := by
  refine w_ld rfl rfl (Or.inr (Or.inr ⟨by decide, y1⟩)) ?_
  refine w_ld rfl rfl (Or.inr (Or.inr ⟨by decide, y2⟩)) ?_
  subst e_q3
  exact w_cv rfl [.index q3, r1] [] rfl rfl (s_wt_4 rfl) rfl g5 k

theorem k38_24 {P : s_P} {d : Nat} {Q : s_O → Prop} {h : s_H} {kc ks : Nat} {r0 r1 : Term} {s0 : Int}  (k : Q (.inl (some (vi s0)), h, kc, ks))   : wr P d sw_c38 sw_h38 (24, [r0, r1], [vi s0], h, kc, ks) Q := by
  exact w_iret rfl k

/-! 39: FormulaWorks.keepSeries([I)I -/
theorem k39_0 {P : s_P} {d : Nat} {Q : s_O → Prop} {h : s_H} {kc ks : Nat} {r0 r1 : Term} {fc2 : s_C} (g3 : s_get h (h).1 = some fc2) (k : wm P d 263 [.index h.1, vi 1, r1] (hq h (1, 8, s_df 8)) (fun out => out.1 = .inl none ∧ wr P d sw_c39 sw_h39 (10, [r0, r1], [.index h.1, r0], out.2.1, (kc + 1) + out.2.2.1, (ks + 8) + out.2.2.2) Q)) (y1 : s_ty r0 = 3 := by first | rfl | assumption) (y4 : s_ty r1 = 3 := by first | rfl | assumption)  : wr P d sw_c39 sw_h39 (0, [r0, r1], [], h, kc, ks) Q := by
  refine w_ld rfl rfl (Or.inr (Or.inr ⟨by decide, y1⟩)) ?_
  refine w_new rfl g3 ?_
  refine w_dup rfl rfl ?_
  refine w_c32 rfl (by decide) 1 (by decide) ?_
  refine w_ld rfl rfl (Or.inr (Or.inr ⟨by decide, y4⟩)) ?_
  exact w_ci rfl [.index h.1, vi 1, r1] [.index h.1, r0] rfl rfl (s_wt_4 rfl) rfl k

theorem k39_10 {P : s_P} {d : Nat} {Q : s_O → Prop} {h : s_H} {kc ks : Nat} {r0 r1 s0 s1 : Term} {q1 : Nat} {f2 : List Term} (g3 : s_get h q1 = some (1, 10, f2)) (k : wm P d 35 [.index q1, s1] h (wq P d sw_c39 sw_h39 13 [r0, r1] [] kc ks Q)) (e_q1 : s0 = .index q1 := by first | rfl | assumption)  : wr P d sw_c39 sw_h39 (10, [r0, r1], [s1, s0], h, kc, ks) Q := by
  subst e_q1
  exact w_cv rfl [.index q1, s1] [] rfl rfl (s_wt_4 rfl) rfl g3 k

theorem k39_13 {P : s_P} {d : Nat} {Q : s_O → Prop} {h : s_H} {kc ks : Nat} {r0 r1 : Term} {s0 : Int}  (k : Q (.inl (some (vi s0)), h, kc, ks))   : wr P d sw_c39 sw_h39 (13, [r0, r1], [vi s0], h, kc, ks) Q := by
  exact w_iret rfl k

/-! 40: FormulaWorks.keepTree()I -/
theorem k40_0 {P : s_P} {d : Nat} {Q : s_O → Prop} {h : s_H} {kc ks : Nat} {r0 : Term} {q2 : Nat} {f3 : List Term} (g4 : s_get h q2 = some (1, 10, f3)) (k : wm P d 54 [.index q2] h (wq P d sw_c40 sw_h40 4 [.index q2] [] kc ks Q)) (e_q2 : r0 = .index q2 := by first | rfl | assumption) (y1 : s_ty r0 = 3 := by first | rfl | assumption)  : wr P d sw_c40 sw_h40 (0, [r0], [], h, kc, ks) Q := by
  refine w_ld rfl rfl (Or.inr (Or.inr ⟨by decide, y1⟩)) ?_
  subst e_q2
  exact w_cv rfl [.index q2] [] rfl rfl (s_wt_4 rfl) rfl g4 k

theorem k40_4 {P : s_P} {d : Nat} {Q : s_O → Prop} {h : s_H} {kc ks : Nat} {r0 : Term} {q2 : Nat} {f3 : List Term} {v5 : Term} {q7 : Nat} {f8 : List Term} {z10 : Int} (g4 : s_get h q2 = some (1, 10, f3)) (g9 : s_get h q7 = some (1, 9, f8)) (k1 : z10 ≤ 200 → wr P d sw_c40 sw_h40 (25, [.index q2], [], h, kc, ks) Q) (k2 : ¬ z10 ≤ 200 → wr P d sw_c40 sw_h40 (17, [.index q2], [], h, kc, ks) Q) (e_q2 : r0 = .index q2 := by first | rfl | assumption) (e_q7 : v5 = .index q7 := by first | rfl | assumption) (y1 : s_ty r0 = 3 := by first | rfl | assumption) (n6 : s_nth f3 12 = some v5 := by first | rfl | assumption) (n11 : s_nth f8 1 = some (vi z10) := by first | rfl | assumption) (c12 : In3 z10 := by first | omega | assumption | (simp only [mk_len, List.length_map]; omega) | decide) : wr P d sw_c40 sw_h40 (4, [r0], [], h, kc, ks) Q := by
  refine w_ld rfl rfl (Or.inr (Or.inr ⟨by decide, y1⟩)) ?_
  subst e_q2
  refine w_getf rfl g4 n6 ?_
  subst e_q7
  refine w_getf rfl g9 n11 ?_
  refine w_c32 rfl (by decide) 200 (by decide) ?_
  exact w_if2 rfl c12 (by decide) k1 k2

theorem k40_17 {P : s_P} {d : Nat} {Q : s_O → Prop} {h : s_H} {kc ks : Nat} {r0 : Term}  (k : Q (.inr 0, h, kc + 1, ks + 6))   : wr P d sw_c40 sw_h40 (17, [r0], [], h, kc, ks) Q := by
  exact w_throw rfl (s_wt_4 rfl) k

theorem k40_25 {P : s_P} {d : Nat} {Q : s_O → Prop} {h : s_H} {kc ks : Nat} {r0 : Term} {fc2 : s_C} {q4 : Nat} {f5 : List Term} {v7 : Term} {q9 : Nat} {f10 : List Term} (g3 : s_get h (h).1 = some fc2) (g6 : s_get (hq h (1, 8, s_df 8)) q4 = some (1, 10, f5)) (g11 : s_get (hq h (1, 8, s_df 8)) q9 = some (1, 9, f10)) (k : wm P d 297 [.index q9] (hq h (1, 8, s_df 8)) (wq P d sw_c40 sw_h40 38 [.index q4] [vi 3, .index h.1, .index h.1, .index q4] (kc + 1) (ks + 8) Q)) (e_q4 : r0 = .index q4 := by first | rfl | assumption) (e_q9 : v7 = .index q9 := by first | rfl | assumption) (y1 : s_ty r0 = 3 := by first | rfl | assumption) (n8 : s_nth f5 12 = some v7 := by first | rfl | assumption)  : wr P d sw_c40 sw_h40 (25, [r0], [], h, kc, ks) Q := by
  refine w_ld rfl rfl (Or.inr (Or.inr ⟨by decide, y1⟩)) ?_
  refine w_new rfl g3 ?_
  refine w_dup rfl rfl ?_
  refine w_c32 rfl (by decide) 3 (by decide) ?_
  refine w_ld rfl rfl (Or.inr (Or.inr ⟨by decide, y1⟩)) ?_
  subst e_q4
  refine w_getf rfl g6 n8 ?_
  subst e_q9
  exact w_cv rfl [.index q9] [vi 3, .index h.1, .index h.1, .index q4] rfl rfl (s_wt_4 rfl) rfl g11 k

theorem k40_41 {P : s_P} {d : Nat} {Q : s_O → Prop} {h : s_H} {kc ks : Nat} {r0 s0 s1 : Term} {q1 : Nat} {f2 : List Term} (g3 : s_get h q1 = some (1, 10, f2)) (k : wm P d 35 [.index q1, s1] h (wq P d sw_c40 sw_h40 44 [r0] [] kc ks Q)) (e_q1 : s0 = .index q1 := by first | rfl | assumption)  : wr P d sw_c40 sw_h40 (41, [r0], [s1, s0], h, kc, ks) Q := by
  subst e_q1
  exact w_cv rfl [.index q1, s1] [] rfl rfl (s_wt_4 rfl) rfl g3 k

theorem k40_44 {P : s_P} {d : Nat} {Q : s_O → Prop} {h : s_H} {kc ks : Nat} {r0 : Term} {s0 : Int}  (k : Q (.inl (some (vi s0)), h, kc, ks))   : wr P d sw_c40 sw_h40 (44, [r0], [vi s0], h, kc, ks) Q := by
  exact w_iret rfl k

/-! 41: FormulaWorks.keepWhole(LFormulaWorks$Poly;)I -/
theorem k41_0 {P : s_P} {d : Nat} {Q : s_O → Prop} {h : s_H} {kc ks : Nat} {r0 r1 : Term} {q2 : Nat} {f3 : List Term} (g4 : s_get h q2 = some (1, 10, f3)) (k : wm P d 54 [.index q2] h (wq P d sw_c41 sw_h41 4 [.index q2, r1] [] kc ks Q)) (e_q2 : r0 = .index q2 := by first | rfl | assumption) (y1 : s_ty r0 = 3 := by first | rfl | assumption)  : wr P d sw_c41 sw_h41 (0, [r0, r1], [], h, kc, ks) Q := by
  refine w_ld rfl rfl (Or.inr (Or.inr ⟨by decide, y1⟩)) ?_
  subst e_q2
  exact w_cv rfl [.index q2] [] rfl rfl (s_wt_4 rfl) rfl g4 k

theorem k41_4 {P : s_P} {d : Nat} {Q : s_O → Prop} {h : s_H} {kc ks : Nat} {r0 r1 : Term} {q2 : Nat} {f3 : List Term} {z5 : Int} (g4 : s_get h q2 = some (1, 4, f3)) (k1 : z5 ≤ 40 → wr P d sw_c41 sw_h41 (21, [r0, .index q2], [], h, kc, ks) Q) (k2 : ¬ z5 ≤ 40 → wr P d sw_c41 sw_h41 (13, [r0, .index q2], [], h, kc, ks) Q) (e_q2 : r1 = .index q2 := by first | rfl | assumption) (y1 : s_ty r1 = 3 := by first | rfl | assumption) (n6 : s_nth f3 1 = some (vi z5) := by first | rfl | assumption) (c7 : In3 z5 := by first | omega | assumption | (simp only [mk_len, List.length_map]; omega) | decide) : wr P d sw_c41 sw_h41 (4, [r0, r1], [], h, kc, ks) Q := by
  refine w_ld rfl rfl (Or.inr (Or.inr ⟨by decide, y1⟩)) ?_
  subst e_q2
  refine w_getf rfl g4 n6 ?_
  refine w_c32 rfl (by decide) 40 (by decide) ?_
  exact w_if2 rfl c7 (by decide) k1 k2

theorem k41_13 {P : s_P} {d : Nat} {Q : s_O → Prop} {h : s_H} {kc ks : Nat} {r0 r1 : Term}  (k : Q (.inr 0, h, kc + 1, ks + 6))   : wr P d sw_c41 sw_h41 (13, [r0, r1], [], h, kc, ks) Q := by
  exact w_throw rfl (s_wt_4 rfl) k

theorem k41_21 {P : s_P} {d : Nat} {Q : s_O → Prop} {h : s_H} {kc ks : Nat} {r0 r1 : Term} {fc2 : s_C} {q5 : Nat} {f6 : List Term} (g3 : s_get h (h).1 = some fc2) (g7 : s_get (hq h (1, 8, s_df 8)) q5 = some (1, 4, f6)) (k : wm P d 170 [.index q5] (hq h (1, 8, s_df 8)) (wq P d sw_c41 sw_h41 30 [r0, .index q5] [.index h.1, .index h.1, r0] (kc + 1) (ks + 8) Q)) (e_q5 : r1 = .index q5 := by first | rfl | assumption) (y1 : s_ty r0 = 3 := by first | rfl | assumption) (y4 : s_ty r1 = 3 := by first | rfl | assumption)  : wr P d sw_c41 sw_h41 (21, [r0, r1], [], h, kc, ks) Q := by
  refine w_ld rfl rfl (Or.inr (Or.inr ⟨by decide, y1⟩)) ?_
  refine w_new rfl g3 ?_
  refine w_dup rfl rfl ?_
  refine w_ld rfl rfl (Or.inr (Or.inr ⟨by decide, y4⟩)) ?_
  subst e_q5
  exact w_cv rfl [.index q5] [.index h.1, .index h.1, r0] rfl rfl (s_wt_4 rfl) rfl g7 k

theorem k41_30 {P : s_P} {d : Nat} {Q : s_O → Prop} {h : s_H} {kc ks : Nat} {r0 r1 s0 s1 s2 s3 : Term} {q2 : Nat} {f3 : List Term} {v5 : Term} {q7 : Nat} (g4 : s_get h q2 = some (1, 10, f3)) (k : wm P d 264 [.index q7, s3, v5] h (fun out => out.1 = .inl none ∧ wr P d sw_c41 sw_h41 (37, [.index q2, r1], [s1, s0], out.2.1, kc + out.2.2.1, ks + out.2.2.2) Q)) (e_q2 : r0 = .index q2 := by first | rfl | assumption) (e_q7 : s2 = .index q7 := by first | rfl | assumption) (y1 : s_ty r0 = 3 := by first | rfl | assumption) (n6 : s_nth f3 15 = some v5 := by first | rfl | assumption)  : wr P d sw_c41 sw_h41 (30, [r0, r1], [s3, s2, s1, s0], h, kc, ks) Q := by
  refine w_ld rfl rfl (Or.inr (Or.inr ⟨by decide, y1⟩)) ?_
  subst e_q2
  refine w_getf rfl g4 n6 ?_
  subst e_q7
  exact w_ci rfl [.index q7, s3, v5] [s1, s0] rfl rfl (s_wt_4 rfl) rfl k

theorem k41_37 {P : s_P} {d : Nat} {Q : s_O → Prop} {h : s_H} {kc ks : Nat} {r0 r1 s0 s1 : Term} {q1 : Nat} {f2 : List Term} (g3 : s_get h q1 = some (1, 10, f2)) (k : wm P d 35 [.index q1, s1] h (wq P d sw_c41 sw_h41 40 [r0, r1] [] kc ks Q)) (e_q1 : s0 = .index q1 := by first | rfl | assumption)  : wr P d sw_c41 sw_h41 (37, [r0, r1], [s1, s0], h, kc, ks) Q := by
  subst e_q1
  exact w_cv rfl [.index q1, s1] [] rfl rfl (s_wt_4 rfl) rfl g3 k

theorem k41_40 {P : s_P} {d : Nat} {Q : s_O → Prop} {h : s_H} {kc ks : Nat} {r0 r1 : Term} {s0 : Int}  (k : Q (.inl (some (vi s0)), h, kc, ks))   : wr P d sw_c41 sw_h41 (40, [r0, r1], [vi s0], h, kc, ks) Q := by
  exact w_iret rfl k

/-! 42: FormulaWorks.kind(I)I -/
theorem k42_0 {P : s_P} {d : Nat} {Q : s_O → Prop} {h : s_H} {kc ks : Nat} {r0 : Term} {x1 : Int} {q2 : Nat} {f3 : List Term} (g4 : s_get h q2 = some (1, 10, f3)) (k : wm P d 93 [.index q2, vi x1] h (wq P d sw_c42 sw_h42 5 [.index q2, vi x1] [] kc ks Q)) (e_q2 : r0 = .index q2 := by first | rfl | assumption) (y1 : s_ty r0 = 3 := by first | rfl | assumption)  : wr P d sw_c42 sw_h42 (0, [r0, vi x1], [], h, kc, ks) Q := by
  refine w_ld rfl rfl (Or.inr (Or.inr ⟨by decide, y1⟩)) ?_
  refine w_ld rfl rfl (Or.inl ⟨by decide, rfl⟩) ?_
  subst e_q2
  exact w_cv rfl [.index q2, vi x1] [] rfl rfl (s_wt_4 rfl) rfl g4 k

theorem k42_5 {P : s_P} {d : Nat} {Q : s_O → Prop} {h : s_H} {kc ks : Nat} {r0 : Term} {x1 : Int} {s0 : Term} {q1 : Nat} {f2 : List Term} {z4 : Int} (g3 : s_get h q1 = some (1, 8, f2)) (k : Q (.inl (some (vi z4)), h, kc, ks)) (e_q1 : s0 = .index q1 := by first | rfl | assumption) (n5 : s_nth f2 0 = some (vi z4) := by first | rfl | assumption)  : wr P d sw_c42 sw_h42 (5, [r0, vi x1], [s0], h, kc, ks) Q := by
  subst e_q1
  refine w_getf rfl g3 n5 ?_
  exact w_iret rfl k

/-! 43: FormulaWorks.least(II)I -/
theorem k43_0 {P : s_P} {d : Nat} {Q : s_O → Prop} {h : s_H} {kc ks : Nat} {r0 : Term} {x1 x2 : Int} {t3 t4 : Term} {q2 : Nat} {f3 : List Term} (g4 : s_get h q2 = some (1, 10, f3)) (k : wm P d 93 [.index q2, vi x1] h (wq P d sw_c43 sw_h43 5 [.index q2, vi x1, vi x2, t3, t4] [] kc ks Q)) (e_q2 : r0 = .index q2 := by first | rfl | assumption) (y1 : s_ty r0 = 3 := by first | rfl | assumption)  : wr P d sw_c43 sw_h43 (0, [r0, vi x1, vi x2, t3, t4], [], h, kc, ks) Q := by
  refine w_ld rfl rfl (Or.inr (Or.inr ⟨by decide, y1⟩)) ?_
  refine w_ld rfl rfl (Or.inl ⟨by decide, rfl⟩) ?_
  subst e_q2
  exact w_cv rfl [.index q2, vi x1] [] rfl rfl (s_wt_4 rfl) rfl g4 k

theorem k43_5 {P : s_P} {d : Nat} {Q : s_O → Prop} {h : s_H} {kc ks : Nat} {r0 : Term} {x1 x2 : Int} {t3 t4 s0 : Term} {q3 : Nat} {f4 : List Term} (g5 : s_get h q3 = some (1, 10, f4)) (k : wm P d 93 [.index q3, vi x2] h (wq P d sw_c43 sw_h43 11 [.index q3, vi x1, vi x2, s0, t4] [] kc ks Q)) (e_q3 : r0 = .index q3 := by first | rfl | assumption) (y1 : s_ty s0 = 3 := by first | rfl | assumption) (y2 : s_ty r0 = 3 := by first | rfl | assumption)  : wr P d sw_c43 sw_h43 (5, [r0, vi x1, vi x2, t3, t4], [s0], h, kc, ks) Q := by
  refine w_st (ls' := [r0, vi x1, vi x2, s0, t4]) rfl (Or.inr ⟨by decide, y1⟩) rfl ?_
  refine w_ld rfl rfl (Or.inr (Or.inr ⟨by decide, y2⟩)) ?_
  refine w_ld rfl rfl (Or.inl ⟨by decide, rfl⟩) ?_
  subst e_q3
  exact w_cv rfl [.index q3, vi x2] [] rfl rfl (s_wt_4 rfl) rfl g5 k

theorem k43_11 {P : s_P} {d : Nat} {Q : s_O → Prop} {h : s_H} {kc ks : Nat} {r0 : Term} {x1 x2 : Int} {r3 t4 s0 : Term}  (k : wm P d 58 [r3] h (wq P d sw_c43 sw_h43 17 [r0, vi x1, vi x2, r3, s0] [] kc ks Q)) (y1 : s_ty r3 = 3 := by first | rfl | assumption) (y2 : s_ty s0 = 3 := by first | rfl | assumption)  : wr P d sw_c43 sw_h43 (11, [r0, vi x1, vi x2, r3, t4], [s0], h, kc, ks) Q := by
  refine w_st (ls' := [r0, vi x1, vi x2, r3, s0]) rfl (Or.inr ⟨by decide, y2⟩) (s_stK_r (pre := [r0, vi x1, vi x2]) y1) ?_
  refine w_ld rfl rfl (Or.inr (Or.inr ⟨by decide, y1⟩)) ?_
  exact w_cs rfl [r3] [] rfl rfl (s_wt_4 rfl) k

theorem k43_17 {P : s_P} {d : Nat} {Q : s_O → Prop} {h : s_H} {kc ks : Nat} {r0 : Term} {x1 x2 : Int} {r3 r4 : Term}  (k : wm P d 58 [r4] h (wq P d sw_c43 sw_h43 22 [r0, vi x1, vi x2, r3, r4] [] kc ks Q)) (y1 : s_ty r4 = 3 := by first | rfl | assumption)  : wr P d sw_c43 sw_h43 (17, [r0, vi x1, vi x2, r3, r4], [], h, kc, ks) Q := by
  refine w_ld rfl rfl (Or.inr (Or.inr ⟨by decide, y1⟩)) ?_
  exact w_cs rfl [r4] [] rfl rfl (s_wt_4 rfl) k

theorem k43_22 {P : s_P} {d : Nat} {Q : s_O → Prop} {h : s_H} {kc ks : Nat} {r0 : Term} {x1 x2 : Int} {r3 r4 : Term} {q2 : Nat} {f3 : List Term} {v5 : Term} {q7 : Nat} {f8 : List Term} {z10 : Int} (g4 : s_get h q2 = some (1, 8, f3)) (g9 : s_get h q7 = some (1, 4, f8)) (k1 : 1 ≤ z10 → wr P d sw_c43 sw_h43 (42, [r0, vi x1, vi x2, r3, .index q2], [], h, kc, ks) Q) (k2 : ¬ 1 ≤ z10 → wr P d sw_c43 sw_h43 (34, [r0, vi x1, vi x2, r3, .index q2], [], h, kc, ks) Q) (e_q2 : r4 = .index q2 := by first | rfl | assumption) (e_q7 : v5 = .index q7 := by first | rfl | assumption) (y1 : s_ty r4 = 3 := by first | rfl | assumption) (n6 : s_nth f3 1 = some v5 := by first | rfl | assumption) (n11 : s_nth f8 1 = some (vi z10) := by first | rfl | assumption) (c12 : In3 z10 := by first | omega | assumption | (simp only [mk_len, List.length_map]; omega) | decide) : wr P d sw_c43 sw_h43 (22, [r0, vi x1, vi x2, r3, r4], [], h, kc, ks) Q := by
  refine w_ld rfl rfl (Or.inr (Or.inr ⟨by decide, y1⟩)) ?_
  subst e_q2
  refine w_getf rfl g4 n6 ?_
  subst e_q7
  refine w_getf rfl g9 n11 ?_
  refine w_c32 rfl (by decide) 1 (by decide) ?_
  exact w_if2 rfl c12 (by decide) k1 k2

theorem k43_34 {P : s_P} {d : Nat} {Q : s_O → Prop} {h : s_H} {kc ks : Nat} {r0 : Term} {x1 x2 : Int} {r3 r4 : Term}  (k : Q (.inr 1, h, kc + 1, ks + 6))   : wr P d sw_c43 sw_h43 (34, [r0, vi x1, vi x2, r3, r4], [], h, kc, ks) Q := by
  exact w_throw rfl (s_wt_4 rfl) k

theorem k43_42 {P : s_P} {d : Nat} {Q : s_O → Prop} {h : s_H} {kc ks : Nat} {r0 : Term} {x1 x2 : Int} {r3 r4 : Term} {q2 : Nat} {f3 : List Term} {v5 : Term} {q8 : Nat} {f9 : List Term} {v11 : Term} {q14 : Nat} {f15 : List Term} {v17 v19 : Term} {q21 : Nat} {f22 : List Term} (g4 : s_get h q2 = some (1, 10, f3)) (g10 : s_get h q8 = some (1, 8, f9)) (g16 : s_get h q14 = some (1, 8, f15)) (g23 : s_get h q21 = some (1, 6, f22)) (k : wm P d 225 [.index q21, v11, v17, v19] h (wq P d sw_c43 sw_h43 62 [.index q2, vi x1, vi x2, .index q8, .index q14] [] kc ks Q)) (e_q2 : r0 = .index q2 := by first | rfl | assumption) (e_q8 : r3 = .index q8 := by first | rfl | assumption) (e_q14 : r4 = .index q14 := by first | rfl | assumption) (e_q21 : v5 = .index q21 := by first | rfl | assumption) (y1 : s_ty r0 = 3 := by first | rfl | assumption) (n6 : s_nth f3 11 = some v5 := by first | rfl | assumption) (y7 : s_ty r3 = 3 := by first | rfl | assumption) (n12 : s_nth f9 1 = some v11 := by first | rfl | assumption) (y13 : s_ty r4 = 3 := by first | rfl | assumption) (n18 : s_nth f15 1 = some v17 := by first | rfl | assumption) (n20 : s_nth f3 16 = some v19 := by first | rfl | assumption)  : wr P d sw_c43 sw_h43 (42, [r0, vi x1, vi x2, r3, r4], [], h, kc, ks) Q := by
  refine w_ld rfl rfl (Or.inr (Or.inr ⟨by decide, y1⟩)) ?_
  subst e_q2
  refine w_getf rfl g4 n6 ?_
  refine w_ld rfl rfl (Or.inr (Or.inr ⟨by decide, y7⟩)) ?_
  subst e_q8
  refine w_getf rfl g10 n12 ?_
  refine w_ld rfl rfl (Or.inr (Or.inr ⟨by decide, y13⟩)) ?_
  subst e_q14
  refine w_getf rfl g16 n18 ?_
  refine w_ld rfl rfl (Or.inr (Or.inr ⟨by decide, rfl⟩)) ?_
  refine w_getf rfl g4 n20 ?_
  subst e_q21
  exact w_cv rfl [.index q21, v11, v17, v19] [] rfl rfl (s_wt_4 rfl) rfl g23 k

theorem k43_62 {P : s_P} {d : Nat} {Q : s_O → Prop} {h : s_H} {kc ks : Nat} {r0 : Term} {x1 x2 : Int} {r3 r4 : Term} {q2 : Nat} {f3 : List Term} {v5 : Term} (g4 : s_get h q2 = some (1, 10, f3)) (k : wm P d 41 [.index q2, v5] h (wq P d sw_c43 sw_h43 70 [.index q2, vi x1, vi x2, r3, r4] [] kc ks Q)) (e_q2 : r0 = .index q2 := by first | rfl | assumption) (y1 : s_ty r0 = 3 := by first | rfl | assumption) (n6 : s_nth f3 16 = some v5 := by first | rfl | assumption)  : wr P d sw_c43 sw_h43 (62, [r0, vi x1, vi x2, r3, r4], [], h, kc, ks) Q := by
  refine w_ld rfl rfl (Or.inr (Or.inr ⟨by decide, y1⟩)) ?_
  refine w_ld rfl rfl (Or.inr (Or.inr ⟨by decide, y1⟩)) ?_
  subst e_q2
  refine w_getf rfl g4 n6 ?_
  exact w_cv rfl [.index q2, v5] [] rfl rfl (s_wt_4 rfl) rfl g4 k

theorem k43_70 {P : s_P} {d : Nat} {Q : s_O → Prop} {h : s_H} {kc ks : Nat} {r0 : Term} {x1 x2 : Int} {r3 r4 : Term} {s0 : Int}  (k : Q (.inl (some (vi s0)), h, kc, ks))   : wr P d sw_c43 sw_h43 (70, [r0, vi x1, vi x2, r3, r4], [vi s0], h, kc, ks) Q := by
  exact w_iret rfl k

/-! 44: FormulaWorks.less(II)I -/
theorem k44_0 {P : s_P} {d : Nat} {Q : s_O → Prop} {h : s_H} {kc ks : Nat} {r0 : Term} {x1 x2 : Int} {q2 : Nat} {f3 : List Term} (g4 : s_get h q2 = some (1, 10, f3)) (k : wm P d 93 [.index q2, vi x1] h (wq P d sw_c44 sw_h44 8 [.index q2, vi x1, vi x2] [vi 45, .index q2] kc ks Q)) (e_q2 : r0 = .index q2 := by first | rfl | assumption) (y1 : s_ty r0 = 3 := by first | rfl | assumption)  : wr P d sw_c44 sw_h44 (0, [r0, vi x1, vi x2], [], h, kc, ks) Q := by
  refine w_ld rfl rfl (Or.inr (Or.inr ⟨by decide, y1⟩)) ?_
  refine w_c32 rfl (by decide) 45 (by decide) ?_
  refine w_ld rfl rfl (Or.inr (Or.inr ⟨by decide, y1⟩)) ?_
  refine w_ld rfl rfl (Or.inl ⟨by decide, rfl⟩) ?_
  subst e_q2
  exact w_cv rfl [.index q2, vi x1] [vi 45, .index q2] rfl rfl (s_wt_4 rfl) rfl g4 k

theorem k44_8 {P : s_P} {d : Nat} {Q : s_O → Prop} {h : s_H} {kc ks : Nat} {r0 : Term} {x1 x2 : Int} {s0 : Term} {s1 : Int} {s2 : Term} {q2 : Nat} {f3 : List Term} (g4 : s_get h q2 = some (1, 10, f3)) (k : wm P d 93 [.index q2, vi x2] h (wq P d sw_c44 sw_h44 13 [.index q2, vi x1, vi x2] [s2, vi s1, s0] kc ks Q)) (e_q2 : r0 = .index q2 := by first | rfl | assumption) (y1 : s_ty r0 = 3 := by first | rfl | assumption)  : wr P d sw_c44 sw_h44 (8, [r0, vi x1, vi x2], [s2, vi s1, s0], h, kc, ks) Q := by
  refine w_ld rfl rfl (Or.inr (Or.inr ⟨by decide, y1⟩)) ?_
  refine w_ld rfl rfl (Or.inl ⟨by decide, rfl⟩) ?_
  subst e_q2
  exact w_cv rfl [.index q2, vi x2] [s2, vi s1, s0] rfl rfl (s_wt_4 rfl) rfl g4 k

theorem k44_13 {P : s_P} {d : Nat} {Q : s_O → Prop} {h : s_H} {kc ks : Nat} {r0 : Term} {x1 x2 : Int} {s0 : Term} {s1 : Int} {s2 s3 : Term} {q1 : Nat} {f2 : List Term} (g3 : s_get h q1 = some (1, 10, f2)) (k : wm P d 32 [.index q1, vi s1, s2, s3] h (wq P d sw_c44 sw_h44 16 [r0, vi x1, vi x2] [] kc ks Q)) (e_q1 : s0 = .index q1 := by first | rfl | assumption)  : wr P d sw_c44 sw_h44 (13, [r0, vi x1, vi x2], [s3, s2, vi s1, s0], h, kc, ks) Q := by
  subst e_q1
  exact w_cv rfl [.index q1, vi s1, s2, s3] [] rfl rfl (s_wt_4 rfl) rfl g3 k

theorem k44_16 {P : s_P} {d : Nat} {Q : s_O → Prop} {h : s_H} {kc ks : Nat} {r0 : Term} {x1 x2 s0 : Int}  (k : Q (.inl (some (vi s0)), h, kc, ks))   : wr P d sw_c44 sw_h44 (16, [r0, vi x1, vi x2], [vi s0], h, kc, ks) Q := by
  exact w_iret rfl k

/-! 45: FormulaWorks.letter(II)I -/
theorem k45_0 {P : s_P} {d : Nat} {Q : s_O → Prop} {h : s_H} {kc ks : Nat} {r0 : Term} {x1 x2 : Int} {q2 : Nat} {f3 : List Term} (g4 : s_get h q2 = some (1, 10, f3)) (k : wm P d 93 [.index q2, vi x1] h (wq P d sw_c45 sw_h45 6 [.index q2, vi x1, vi x2] [.index q2] kc ks Q)) (e_q2 : r0 = .index q2 := by first | rfl | assumption) (y1 : s_ty r0 = 3 := by first | rfl | assumption)  : wr P d sw_c45 sw_h45 (0, [r0, vi x1, vi x2], [], h, kc, ks) Q := by
  refine w_ld rfl rfl (Or.inr (Or.inr ⟨by decide, y1⟩)) ?_
  refine w_ld rfl rfl (Or.inr (Or.inr ⟨by decide, y1⟩)) ?_
  refine w_ld rfl rfl (Or.inl ⟨by decide, rfl⟩) ?_
  subst e_q2
  exact w_cv rfl [.index q2, vi x1] [.index q2] rfl rfl (s_wt_4 rfl) rfl g4 k

theorem k45_6 {P : s_P} {d : Nat} {Q : s_O → Prop} {h : s_H} {kc ks : Nat} {r0 : Term} {x1 x2 : Int} {s0 s1 : Term} {q1 : Nat} {f2 : List Term} (g3 : s_get h q1 = some (1, 10, f2)) (k : wm P d 86 [.index q1, s1] h (wq P d sw_c45 sw_h45 9 [r0, vi x1, vi x2] [] kc ks Q)) (e_q1 : s0 = .index q1 := by first | rfl | assumption)  : wr P d sw_c45 sw_h45 (6, [r0, vi x1, vi x2], [s1, s0], h, kc, ks) Q := by
  subst e_q1
  exact w_cv rfl [.index q1, s1] [] rfl rfl (s_wt_4 rfl) rfl g3 k

theorem k45_9 {P : s_P} {d : Nat} {Q : s_O → Prop} {h : s_H} {kc ks : Nat} {r0 : Term} {x1 x2 : Int}  (k1 : x2 < 0 → wr P d sw_c45 sw_h45 (24, [r0, vi x1, vi x2], [], h, kc, ks) Q) (k2 : ¬ x2 < 0 → wr P d sw_c45 sw_h45 (13, [r0, vi x1, vi x2], [], h, kc, ks) Q)  (c1 : In3 x2 := by first | omega | assumption | (simp only [mk_len, List.length_map]; omega) | decide) : wr P d sw_c45 sw_h45 (9, [r0, vi x1, vi x2], [], h, kc, ks) Q := by
  refine w_ld rfl rfl (Or.inl ⟨by decide, rfl⟩) ?_
  exact w_if1 rfl c1 k1 k2

theorem k45_13 {P : s_P} {d : Nat} {Q : s_O → Prop} {h : s_H} {kc ks : Nat} {r0 : Term} {x1 x2 : Int} {q2 : Nat} {f3 : List Term} {v5 : Term} {q7 : Nat} {f8 : List Term} {z10 : Int} (g4 : s_get h q2 = some (1, 10, f3)) (g9 : s_get h q7 = some (1, 9, f8)) (k1 : x2 < z10 → wr P d sw_c45 sw_h45 (28, [.index q2, vi x1, vi x2], [], h, kc, ks) Q) (k2 : ¬ x2 < z10 → wr P d sw_c45 sw_h45 (24, [.index q2, vi x1, vi x2], [], h, kc, ks) Q) (e_q2 : r0 = .index q2 := by first | rfl | assumption) (e_q7 : v5 = .index q7 := by first | rfl | assumption) (y1 : s_ty r0 = 3 := by first | rfl | assumption) (n6 : s_nth f3 12 = some v5 := by first | rfl | assumption) (n11 : s_nth f8 8 = some (vi z10) := by first | rfl | assumption) (c12 : In3 x2 := by first | omega | assumption | (simp only [mk_len, List.length_map]; omega) | decide) (c13 : In3 z10 := by first | omega | assumption | (simp only [mk_len, List.length_map]; omega) | decide) : wr P d sw_c45 sw_h45 (13, [r0, vi x1, vi x2], [], h, kc, ks) Q := by
  refine w_ld rfl rfl (Or.inl ⟨by decide, rfl⟩) ?_
  refine w_ld rfl rfl (Or.inr (Or.inr ⟨by decide, y1⟩)) ?_
  subst e_q2
  refine w_getf rfl g4 n6 ?_
  subst e_q7
  refine w_getf rfl g9 n11 ?_
  exact w_if2 rfl c12 c13 k1 k2

theorem k45_24 {P : s_P} {d : Nat} {Q : s_O → Prop} {h : s_H} {kc ks : Nat} {r0 : Term} {x1 x2 : Int}  (k : wr P d sw_c45 sw_h45 (37, [r0, vi x1, vi x2], [vi (-1)], h, kc, ks) Q)   : wr P d sw_c45 sw_h45 (24, [r0, vi x1, vi x2], [], h, kc, ks) Q := by
  refine w_c32 rfl (by decide) (-1) (by decide) ?_
  refine w_goto rfl ?_
  exact k

theorem k45_28 {P : s_P} {d : Nat} {Q : s_O → Prop} {h : s_H} {kc ks : Nat} {r0 : Term} {x1 x2 : Int} {q2 : Nat} {f3 : List Term} {v5 : Term} {q7 : Nat} {f8 : List Term} {v10 : Term} {q12 : Nat} {a13 : List Int} (g4 : s_get h q2 = some (1, 10, f3)) (g9 : s_get h q7 = some (1, 9, f8)) (g14 : s_get h q12 = some (0, 0, a13.map vi)) (k : wr P d sw_c45 sw_h45 (37, [.index q2, vi x1, vi x2], [vi (gi a13 x2)], h, kc, ks) Q) (e_q2 : r0 = .index q2 := by first | rfl | assumption) (e_q7 : v5 = .index q7 := by first | rfl | assumption) (e_q12 : v10 = .index q12 := by first | rfl | assumption) (y1 : s_ty r0 = 3 := by first | rfl | assumption) (n6 : s_nth f3 12 = some v5 := by first | rfl | assumption) (n11 : s_nth f8 7 = some v10 := by first | rfl | assumption) (c15 : x2 < a13.length := by first | omega | assumption | (simp only [mk_len, List.length_map]; omega) | decide) (c16 : 0 ≤ x2 := by first | omega | assumption | (simp only [mk_len, List.length_map]; omega) | decide) (c17 : In3 x2 := by first | omega | assumption | (simp only [mk_len, List.length_map]; omega) | decide) : wr P d sw_c45 sw_h45 (28, [r0, vi x1, vi x2], [], h, kc, ks) Q := by
  refine w_ld rfl rfl (Or.inr (Or.inr ⟨by decide, y1⟩)) ?_
  subst e_q2
  refine w_getf rfl g4 n6 ?_
  subst e_q7
  refine w_getf rfl g9 n11 ?_
  refine w_ld rfl rfl (Or.inl ⟨by decide, rfl⟩) ?_
  subst e_q12
  refine w_iald rfl g14 (Or.inl rfl) c17 c16 c15 ?_
  exact k

theorem k45_37 {P : s_P} {d : Nat} {Q : s_O → Prop} {h : s_H} {kc ks : Nat} {r0 : Term} {x1 x2 s0 : Int}  (k : Q (.inl (some (vi s0)), h, kc, ks))   : wr P d sw_c45 sw_h45 (37, [r0, vi x1, vi x2], [vi s0], h, kc, ks) Q := by
  exact w_iret rfl k

/-! 46: FormulaWorks.log(II)I -/
theorem k46_0 {P : s_P} {d : Nat} {Q : s_O → Prop} {h : s_H} {kc ks : Nat} {r0 : Term} {x1 x2 : Int} {q2 : Nat} {f3 : List Term} {v5 : Term} (g4 : s_get h q2 = some (1, 10, f3)) (k : wm P d 64 [.index q2, vi x1, vi 0] h (wq P d sw_c46 sw_h46 10 [.index q2, vi x1, vi x2] [v5] kc ks Q)) (e_q2 : r0 = .index q2 := by first | rfl | assumption) (y1 : s_ty r0 = 3 := by first | rfl | assumption) (n6 : s_nth f3 9 = some v5 := by first | rfl | assumption)  : wr P d sw_c46 sw_h46 (0, [r0, vi x1, vi x2], [], h, kc, ks) Q := by
  refine w_ld rfl rfl (Or.inr (Or.inr ⟨by decide, y1⟩)) ?_
  subst e_q2
  refine w_getf rfl g4 n6 ?_
  refine w_ld rfl rfl (Or.inr (Or.inr ⟨by decide, rfl⟩)) ?_
  refine w_ld rfl rfl (Or.inl ⟨by decide, rfl⟩) ?_
  refine w_c32 rfl (by decide) 0 (by decide) ?_
  exact w_cv rfl [.index q2, vi x1, vi 0] [v5] rfl rfl (s_wt_4 rfl) rfl g4 k

theorem k46_10 {P : s_P} {d : Nat} {Q : s_O → Prop} {h : s_H} {kc ks : Nat} {r0 : Term} {x1 x2 : Int} {s0 s1 : Term} {q2 : Nat} {f3 : List Term} {v5 v7 : Term} {q9 : Nat} {f10 : List Term} (g4 : s_get h q2 = some (1, 10, f3)) (g11 : s_get h q9 = some (1, 3, f10)) (k : wm P d 158 [.index q9, s1, v5, v7] h (wq P d sw_c46 sw_h46 21 [.index q2, vi x1, vi x2] [] kc ks Q)) (e_q2 : r0 = .index q2 := by first | rfl | assumption) (e_q9 : s0 = .index q9 := by first | rfl | assumption) (y1 : s_ty r0 = 3 := by first | rfl | assumption) (n6 : s_nth f3 17 = some v5 := by first | rfl | assumption) (n8 : s_nth f3 18 = some v7 := by first | rfl | assumption)  : wr P d sw_c46 sw_h46 (10, [r0, vi x1, vi x2], [s1, s0], h, kc, ks) Q := by
  refine w_ld rfl rfl (Or.inr (Or.inr ⟨by decide, y1⟩)) ?_
  subst e_q2
  refine w_getf rfl g4 n6 ?_
  refine w_ld rfl rfl (Or.inr (Or.inr ⟨by decide, rfl⟩)) ?_
  refine w_getf rfl g4 n8 ?_
  subst e_q9
  exact w_cv rfl [.index q9, s1, v5, v7] [] rfl rfl (s_wt_4 rfl) rfl g11 k

theorem k46_21 {P : s_P} {d : Nat} {Q : s_O → Prop} {h : s_H} {kc ks : Nat} {r0 : Term} {x1 x2 : Int} {s0 : Term} {q3 : Nat} {f4 : List Term} {v6 : Term} {q8 : Nat} {f9 : List Term} (g5 : s_get h q3 = some (1, 10, f4)) (g10 : s_get h q8 = some (1, 8, f9)) (k : wm P d 267 [.index q8] h (wq P d sw_c46 sw_h46 29 [.index q3, vi x1, vi x2] [] kc ks Q)) (e_q3 : r0 = .index q3 := by first | rfl | assumption) (e_q8 : v6 = .index q8 := by first | rfl | assumption) (y1 : s_ty s0 = 3 := by first | rfl | assumption) (y2 : s_ty r0 = 3 := by first | rfl | assumption) (n7 : s_nth f4 18 = some v6 := by first | rfl | assumption)  : wr P d sw_c46 sw_h46 (21, [r0, vi x1, vi x2], [s0], h, kc, ks) Q := by
  refine w_pop rfl (by rw [y1]; rfl) ?_
  refine w_ld rfl rfl (Or.inr (Or.inr ⟨by decide, y2⟩)) ?_
  subst e_q3
  refine w_getf rfl g5 n7 ?_
  subst e_q8
  exact w_cv rfl [.index q8] [] rfl rfl (s_wt_4 rfl) rfl g10 k

theorem k46_29 {P : s_P} {d : Nat} {Q : s_O → Prop} {h : s_H} {kc ks : Nat} {r0 : Term} {x1 x2 s0 : Int}  (k1 : s0 = 0 → wr P d sw_c46 sw_h46 (40, [r0, vi x1, vi x2], [], h, kc, ks) Q) (k2 : ¬ s0 = 0 → wr P d sw_c46 sw_h46 (32, [r0, vi x1, vi x2], [], h, kc, ks) Q)  (c1 : In3 s0 := by first | omega | assumption | (simp only [mk_len, List.length_map]; omega) | decide) : wr P d sw_c46 sw_h46 (29, [r0, vi x1, vi x2], [vi s0], h, kc, ks) Q := by
  exact w_if1 rfl c1 k1 k2

theorem k46_32 {P : s_P} {d : Nat} {Q : s_O → Prop} {h : s_H} {kc ks : Nat} {r0 : Term} {x1 x2 : Int}  (k : Q (.inr 3, h, kc + 1, ks + 6))   : wr P d sw_c46 sw_h46 (32, [r0, vi x1, vi x2], [], h, kc, ks) Q := by
  exact w_throw rfl (s_wt_4 rfl) k

theorem k46_40 {P : s_P} {d : Nat} {Q : s_O → Prop} {h : s_H} {kc ks : Nat} {r0 : Term} {x1 x2 : Int} {q2 : Nat} {f3 : List Term} {v5 v7 : Term} {q9 : Nat} {f10 : List Term} {v12 : Term} {q14 : Nat} {f15 : List Term} (g4 : s_get h q2 = some (1, 10, f3)) (g11 : s_get h q9 = some (1, 8, f10)) (g16 : s_get h q14 = some (1, 3, f15)) (k : wm P d 153 [.index q14, v12, vi 1] h (wq P d sw_c46 sw_h46 55 [.index q2, vi x1, vi x2] [] kc ks Q)) (e_q2 : r0 = .index q2 := by first | rfl | assumption) (e_q9 : v7 = .index q9 := by first | rfl | assumption) (e_q14 : v5 = .index q14 := by first | rfl | assumption) (y1 : s_ty r0 = 3 := by first | rfl | assumption) (n6 : s_nth f3 9 = some v5 := by first | rfl | assumption) (n8 : s_nth f3 18 = some v7 := by first | rfl | assumption) (n13 : s_nth f10 2 = some v12 := by first | rfl | assumption)  : wr P d sw_c46 sw_h46 (40, [r0, vi x1, vi x2], [], h, kc, ks) Q := by
  refine w_ld rfl rfl (Or.inr (Or.inr ⟨by decide, y1⟩)) ?_
  subst e_q2
  refine w_getf rfl g4 n6 ?_
  refine w_ld rfl rfl (Or.inr (Or.inr ⟨by decide, rfl⟩)) ?_
  refine w_getf rfl g4 n8 ?_
  subst e_q9
  refine w_getf rfl g11 n13 ?_
  refine w_c32 rfl (by decide) 1 (by decide) ?_
  subst e_q14
  exact w_cv rfl [.index q14, v12, vi 1] [] rfl rfl (s_wt_4 rfl) rfl g16 k

theorem k46_55 {P : s_P} {d : Nat} {Q : s_O → Prop} {h : s_H} {kc ks : Nat} {r0 : Term} {x1 x2 : Int} {q2 : Nat} {f3 : List Term} {v5 : Term} {q7 : Nat} {f8 : List Term} {z10 : Int} (g4 : s_get h q2 = some (1, 10, f3)) (g9 : s_get h q7 = some (1, 3, f8)) (k : wm P d 51 [vi x2, vi z10] h (wq P d sw_c46 sw_h46 66 [.index q2, vi x1, vi x2] [] kc ks Q)) (e_q2 : r0 = .index q2 := by first | rfl | assumption) (e_q7 : v5 = .index q7 := by first | rfl | assumption) (y1 : s_ty r0 = 3 := by first | rfl | assumption) (n6 : s_nth f3 9 = some v5 := by first | rfl | assumption) (n11 : s_nth f8 4 = some (vi z10) := by first | rfl | assumption)  : wr P d sw_c46 sw_h46 (55, [r0, vi x1, vi x2], [], h, kc, ks) Q := by
  refine w_ld rfl rfl (Or.inl ⟨by decide, rfl⟩) ?_
  refine w_ld rfl rfl (Or.inr (Or.inr ⟨by decide, y1⟩)) ?_
  subst e_q2
  refine w_getf rfl g4 n6 ?_
  subst e_q7
  refine w_getf rfl g9 n11 ?_
  exact w_cs rfl [vi x2, vi z10] [] rfl rfl (s_wt_4 rfl) k

theorem k46_66 {P : s_P} {d : Nat} {Q : s_O → Prop} {h : s_H} {kc ks : Nat} {r0 : Term} {x1 x2 : Int} {q2 : Nat} {f3 : List Term} {v5 v7 : Term} {q9 : Nat} {f10 : List Term} {v12 : Term} {q14 : Nat} {a15 : List Term} {tg17 : Nat} {v18 : Term} (g4 : s_get h q2 = some (1, 10, f3)) (g11 : s_get h q9 = some (1, 3, f10)) (g16 : s_get h q14 = some (0, tg17, a15)) (k : wm P d 155 [.index q9, v7, v18] h (wq P d sw_c46 sw_h46 86 [.index q2, vi x1, vi x2] [] kc ks Q)) (e_q2 : r0 = .index q2 := by first | rfl | assumption) (e_q9 : v5 = .index q9 := by first | rfl | assumption) (e_q14 : v12 = .index q14 := by first | rfl | assumption) (y1 : s_ty r0 = 3 := by first | rfl | assumption) (n6 : s_nth f3 9 = some v5 := by first | rfl | assumption) (n8 : s_nth f3 18 = some v7 := by first | rfl | assumption) (n13 : s_nth f10 2 = some v12 := by first | rfl | assumption) (n19 : s_nth a15 (Int.toNat (x2)) = some v18 := by first | rfl | assumption) (u20 : tg17 = 2 ∨ tg17 = 3 ∨ tg17 = 4 := by first | decide | assumption) (c21 : In3 x2 := by first | omega | assumption | (simp only [mk_len, List.length_map]; omega) | decide) (c22 : 0 ≤ x2 := by first | omega | assumption | (simp only [mk_len, List.length_map]; omega) | decide) : wr P d sw_c46 sw_h46 (66, [r0, vi x1, vi x2], [], h, kc, ks) Q := by
  refine w_ld rfl rfl (Or.inr (Or.inr ⟨by decide, y1⟩)) ?_
  subst e_q2
  refine w_getf rfl g4 n6 ?_
  refine w_ld rfl rfl (Or.inr (Or.inr ⟨by decide, rfl⟩)) ?_
  refine w_getf rfl g4 n8 ?_
  refine w_ld rfl rfl (Or.inr (Or.inr ⟨by decide, rfl⟩)) ?_
  refine w_getf rfl g4 n6 ?_
  subst e_q9
  refine w_getf rfl g11 n13 ?_
  refine w_ld rfl rfl (Or.inl ⟨by decide, rfl⟩) ?_
  subst e_q14
  refine w_aald rfl g16 u20 c21 c22 n19 ?_
  exact w_cv rfl [.index q9, v7, v18] [] rfl rfl (s_wt_4 rfl) rfl g11 k

theorem k46_86 {P : s_P} {d : Nat} {Q : s_O → Prop} {h : s_H} {kc ks : Nat} {r0 : Term} {x1 x2 s0 : Int}  (k : Q (.inl (some (vi s0)), h, kc, ks))   : wr P d sw_c46 sw_h46 (86, [r0, vi x1, vi x2], [vi s0], h, kc, ks) Q := by
  exact w_iret rfl k

/-! 47: FormulaWorks.logarithm(I)I -/
theorem k47_0 {P : s_P} {d : Nat} {Q : s_O → Prop} {h : s_H} {kc ks : Nat} {r0 : Term} {x1 : Int} {t2 : Term} {q2 : Nat} {f3 : List Term} (g4 : s_get h q2 = some (1, 10, f3)) (k : wm P d 64 [.index q2, vi x1, vi 1] h (wq P d sw_c47 sw_h47 6 [.index q2, vi x1, t2] [] kc ks Q)) (e_q2 : r0 = .index q2 := by first | rfl | assumption) (y1 : s_ty r0 = 3 := by first | rfl | assumption)  : wr P d sw_c47 sw_h47 (0, [r0, vi x1, t2], [], h, kc, ks) Q := by
  refine w_ld rfl rfl (Or.inr (Or.inr ⟨by decide, y1⟩)) ?_
  refine w_ld rfl rfl (Or.inl ⟨by decide, rfl⟩) ?_
  refine w_c32 rfl (by decide) 1 (by decide) ?_
  subst e_q2
  exact w_cv rfl [.index q2, vi x1, vi 1] [] rfl rfl (s_wt_4 rfl) rfl g4 k

theorem k47_6 {P : s_P} {d : Nat} {Q : s_O → Prop} {h : s_H} {kc ks : Nat} {r0 : Term} {x1 : Int} {t2 s0 : Term} {q2 : Nat} {f3 : List Term} {v5 : Term} {q7 : Nat} {a8 : List Int} (g4 : s_get h q2 = some (1, 8, f3)) (g9 : s_get h q7 = some (0, 0, a8.map vi)) (k1 : gi a8 0 = 1 → wr P d sw_c47 sw_h47 (25, [r0, vi x1, .index q2], [], h, kc, ks) Q) (k2 : ¬ gi a8 0 = 1 → wr P d sw_c47 sw_h47 (17, [r0, vi x1, .index q2], [], h, kc, ks) Q) (e_q2 : s0 = .index q2 := by first | rfl | assumption) (e_q7 : v5 = .index q7 := by first | rfl | assumption) (y1 : s_ty s0 = 3 := by first | rfl | assumption) (n6 : s_nth f3 6 = some v5 := by first | rfl | assumption) (c10 : (0 : Int) < a8.length := by first | omega | assumption | (simp only [mk_len, List.length_map]; omega) | decide) (c11 : In3 (gi a8 0) := by first | omega | assumption | (simp only [mk_len, List.length_map]; omega) | decide) : wr P d sw_c47 sw_h47 (6, [r0, vi x1, t2], [s0], h, kc, ks) Q := by
  refine w_st (ls' := [r0, vi x1, s0]) rfl (Or.inr ⟨by decide, y1⟩) rfl ?_
  refine w_ld rfl rfl (Or.inr (Or.inr ⟨by decide, y1⟩)) ?_
  subst e_q2
  refine w_getf rfl g4 n6 ?_
  refine w_c32 rfl (by decide) 0 (by decide) ?_
  subst e_q7
  refine w_iald rfl g9 (Or.inl rfl) (by decide) (by decide) c10 ?_
  refine w_c32 rfl (by decide) 1 (by decide) ?_
  exact w_if2 rfl c11 (by decide) k1 k2

theorem k47_17 {P : s_P} {d : Nat} {Q : s_O → Prop} {h : s_H} {kc ks : Nat} {r0 : Term} {x1 : Int} {r2 : Term}  (k : Q (.inr 1, h, kc + 1, ks + 6))   : wr P d sw_c47 sw_h47 (17, [r0, vi x1, r2], [], h, kc, ks) Q := by
  exact w_throw rfl (s_wt_4 rfl) k

theorem k47_25 {P : s_P} {d : Nat} {Q : s_O → Prop} {h : s_H} {kc ks : Nat} {r0 : Term} {x1 : Int} {r2 : Term} {q3 : Nat} {f4 : List Term} {v6 : Term} (g5 : s_get h q3 = some (1, 8, f4)) (k : wm P d 247 [v6] h (wq P d sw_c47 sw_h47 33 [r0, vi x1, .index q3] [r0] kc ks Q)) (e_q3 : r2 = .index q3 := by first | rfl | assumption) (y1 : s_ty r0 = 3 := by first | rfl | assumption) (y2 : s_ty r2 = 3 := by first | rfl | assumption) (n7 : s_nth f4 6 = some v6 := by first | rfl | assumption)  : wr P d sw_c47 sw_h47 (25, [r0, vi x1, r2], [], h, kc, ks) Q := by
  refine w_ld rfl rfl (Or.inr (Or.inr ⟨by decide, y1⟩)) ?_
  refine w_ld rfl rfl (Or.inr (Or.inr ⟨by decide, y2⟩)) ?_
  subst e_q3
  refine w_getf rfl g5 n7 ?_
  exact w_cs rfl [v6] [r0] rfl rfl (s_wt_4 rfl) k

theorem k47_33 {P : s_P} {d : Nat} {Q : s_O → Prop} {h : s_H} {kc ks : Nat} {r0 : Term} {x1 : Int} {r2 s0 s1 : Term} {q2 : Nat} {f3 : List Term} {v5 : Term} (g4 : s_get h q2 = some (1, 8, f3)) (k : wm P d 243 [s1, v5] h (wq P d sw_c47 sw_h47 40 [r0, vi x1, .index q2] [s0] kc ks Q)) (e_q2 : r2 = .index q2 := by first | rfl | assumption) (y1 : s_ty r2 = 3 := by first | rfl | assumption) (n6 : s_nth f3 6 = some v5 := by first | rfl | assumption)  : wr P d sw_c47 sw_h47 (33, [r0, vi x1, r2], [s1, s0], h, kc, ks) Q := by
  refine w_ld rfl rfl (Or.inr (Or.inr ⟨by decide, y1⟩)) ?_
  subst e_q2
  refine w_getf rfl g4 n6 ?_
  exact w_cs rfl [s1, v5] [s0] rfl rfl (s_wt_4 rfl) k

theorem k47_40 {P : s_P} {d : Nat} {Q : s_O → Prop} {h : s_H} {kc ks : Nat} {r0 : Term} {x1 : Int} {r2 s0 s1 : Term}  (k : wm P d 234 [s1] h (wq P d sw_c47 sw_h47 43 [r0, vi x1, r2] [s0] kc ks Q))   : wr P d sw_c47 sw_h47 (40, [r0, vi x1, r2], [s1, s0], h, kc, ks) Q := by
  exact w_cs rfl [s1] [s0] rfl rfl (s_wt_4 rfl) k

theorem k47_43 {P : s_P} {d : Nat} {Q : s_O → Prop} {h : s_H} {kc ks : Nat} {r0 : Term} {x1 : Int} {r2 s0 s1 : Term} {q1 : Nat} {f2 : List Term} (g3 : s_get h q1 = some (1, 10, f2)) (k : wm P d 39 [.index q1, s1] h (wq P d sw_c47 sw_h47 46 [r0, vi x1, r2] [] kc ks Q)) (e_q1 : s0 = .index q1 := by first | rfl | assumption)  : wr P d sw_c47 sw_h47 (43, [r0, vi x1, r2], [s1, s0], h, kc, ks) Q := by
  subst e_q1
  exact w_cv rfl [.index q1, s1] [] rfl rfl (s_wt_4 rfl) rfl g3 k

theorem k47_46 {P : s_P} {d : Nat} {Q : s_O → Prop} {h : s_H} {kc ks : Nat} {r0 : Term} {x1 : Int} {r2 : Term} {s0 : Int}  (k : Q (.inl (some (vi s0)), h, kc, ks))   : wr P d sw_c47 sw_h47 (46, [r0, vi x1, r2], [vi s0], h, kc, ks) Q := by
  exact w_iret rfl k

/-! 48: FormulaWorks.made(III)I -/
theorem k48_0 {P : s_P} {d : Nat} {Q : s_O → Prop} {h : s_H} {kc ks : Nat} {r0 : Term} {x1 x2 x3 : Int} {t4 t5 : Term} {q2 : Nat} {f3 : List Term} (g4 : s_get h q2 = some (1, 10, f3)) (k : wm P d 93 [.index q2, vi x1] h (wq P d sw_c48 sw_h48 5 [.index q2, vi x1, vi x2, vi x3, t4, t5] [] kc ks Q)) (e_q2 : r0 = .index q2 := by first | rfl | assumption) (y1 : s_ty r0 = 3 := by first | rfl | assumption)  : wr P d sw_c48 sw_h48 (0, [r0, vi x1, vi x2, vi x3, t4, t5], [], h, kc, ks) Q := by
  refine w_ld rfl rfl (Or.inr (Or.inr ⟨by decide, y1⟩)) ?_
  refine w_ld rfl rfl (Or.inl ⟨by decide, rfl⟩) ?_
  subst e_q2
  exact w_cv rfl [.index q2, vi x1] [] rfl rfl (s_wt_4 rfl) rfl g4 k

theorem k48_5 {P : s_P} {d : Nat} {Q : s_O → Prop} {h : s_H} {kc ks : Nat} {r0 : Term} {x1 x2 x3 : Int} {t4 t5 s0 : Term} {q3 : Nat} {f4 : List Term} (g5 : s_get h q3 = some (1, 10, f4)) (k : wm P d 93 [.index q3, vi x3] h (wq P d sw_c48 sw_h48 12 [.index q3, vi x1, vi x2, vi x3, s0, t5] [] kc ks Q)) (e_q3 : r0 = .index q3 := by first | rfl | assumption) (y1 : s_ty s0 = 3 := by first | rfl | assumption) (y2 : s_ty r0 = 3 := by first | rfl | assumption)  : wr P d sw_c48 sw_h48 (5, [r0, vi x1, vi x2, vi x3, t4, t5], [s0], h, kc, ks) Q := by
  refine w_st (ls' := [r0, vi x1, vi x2, vi x3, s0, t5]) rfl (Or.inr ⟨by decide, y1⟩) rfl ?_
  refine w_ld rfl rfl (Or.inr (Or.inr ⟨by decide, y2⟩)) ?_
  refine w_ld rfl rfl (Or.inl ⟨by decide, rfl⟩) ?_
  subst e_q3
  exact w_cv rfl [.index q3, vi x3] [] rfl rfl (s_wt_4 rfl) rfl g5 k

theorem k48_12 {P : s_P} {d : Nat} {Q : s_O → Prop} {h : s_H} {kc ks : Nat} {r0 : Term} {x1 x2 x3 : Int} {r4 t5 s0 : Term}  (k : wm P d 55 [r4] h (wq P d sw_c48 sw_h48 19 [r0, vi x1, vi x2, vi x3, r4, s0] [] kc ks Q)) (y1 : s_ty r4 = 3 := by first | rfl | assumption) (y2 : s_ty s0 = 3 := by first | rfl | assumption)  : wr P d sw_c48 sw_h48 (12, [r0, vi x1, vi x2, vi x3, r4, t5], [s0], h, kc, ks) Q := by
  refine w_st (ls' := [r0, vi x1, vi x2, vi x3, r4, s0]) rfl (Or.inr ⟨by decide, y2⟩) (s_stK_r (pre := [r0, vi x1, vi x2, vi x3]) y1) ?_
  refine w_ld rfl rfl (Or.inr (Or.inr ⟨by decide, y1⟩)) ?_
  exact w_cs rfl [r4] [] rfl rfl (s_wt_4 rfl) k

theorem k48_19 {P : s_P} {d : Nat} {Q : s_O → Prop} {h : s_H} {kc ks : Nat} {r0 : Term} {x1 x2 x3 : Int} {r4 r5 : Term}  (k : wm P d 59 [vi x2] h (wq P d sw_c48 sw_h48 23 [r0, vi x1, vi x2, vi x3, r4, r5] [] kc ks Q))   : wr P d sw_c48 sw_h48 (19, [r0, vi x1, vi x2, vi x3, r4, r5], [], h, kc, ks) Q := by
  refine w_ld rfl rfl (Or.inl ⟨by decide, rfl⟩) ?_
  exact w_cs rfl [vi x2] [] rfl rfl (s_wt_4 rfl) k

theorem k48_23 {P : s_P} {d : Nat} {Q : s_O → Prop} {h : s_H} {kc ks : Nat} {r0 : Term} {x1 x2 x3 : Int} {r4 r5 : Term} {q2 : Nat} {f3 : List Term} {z5 : Int} (g4 : s_get h q2 = some (1, 8, f3)) (k1 : z5 ≠ 1 → wr P d sw_c48 sw_h48 (52, [r0, vi x1, vi x2, vi x3, r4, .index q2], [], h, kc, ks) Q) (k2 : ¬ z5 ≠ 1 → wr P d sw_c48 sw_h48 (32, [r0, vi x1, vi x2, vi x3, r4, .index q2], [], h, kc, ks) Q) (e_q2 : r5 = .index q2 := by first | rfl | assumption) (y1 : s_ty r5 = 3 := by first | rfl | assumption) (n6 : s_nth f3 0 = some (vi z5) := by first | rfl | assumption) (c7 : In3 z5 := by first | omega | assumption | (simp only [mk_len, List.length_map]; omega) | decide) : wr P d sw_c48 sw_h48 (23, [r0, vi x1, vi x2, vi x3, r4, r5], [], h, kc, ks) Q := by
  refine w_ld rfl rfl (Or.inr (Or.inr ⟨by decide, y1⟩)) ?_
  subst e_q2
  refine w_getf rfl g4 n6 ?_
  refine w_c32 rfl (by decide) 1 (by decide) ?_
  exact w_if2 rfl c7 (by decide) k1 k2

theorem k48_32 {P : s_P} {d : Nat} {Q : s_O → Prop} {h : s_H} {kc ks : Nat} {r0 : Term} {x1 x2 x3 : Int} {r4 r5 : Term}  (k1 : x2 ≠ 1 → wr P d sw_c48 sw_h48 (52, [r0, vi x1, vi x2, vi x3, r4, r5], [], h, kc, ks) Q) (k2 : ¬ x2 ≠ 1 → wr P d sw_c48 sw_h48 (37, [r0, vi x1, vi x2, vi x3, r4, r5], [], h, kc, ks) Q)  (c1 : In3 x2 := by first | omega | assumption | (simp only [mk_len, List.length_map]; omega) | decide) : wr P d sw_c48 sw_h48 (32, [r0, vi x1, vi x2, vi x3, r4, r5], [], h, kc, ks) Q := by
  refine w_ld rfl rfl (Or.inl ⟨by decide, rfl⟩) ?_
  refine w_c32 rfl (by decide) 1 (by decide) ?_
  exact w_if2 rfl c1 (by decide) k1 k2

theorem k48_37 {P : s_P} {d : Nat} {Q : s_O → Prop} {h : s_H} {kc ks : Nat} {r0 : Term} {x1 x2 x3 : Int} {r4 r5 : Term} {q4 : Nat} {f5 : List Term} {v7 : Term} (g6 : s_get h q4 = some (1, 8, f5)) (k : wm P d 237 [r4, v7] h (wq P d sw_c48 sw_h48 48 [r0, vi x1, vi x2, vi x3, r4, .index q4] [r0] kc ks Q)) (e_q4 : r5 = .index q4 := by first | rfl | assumption) (y1 : s_ty r0 = 3 := by first | rfl | assumption) (y2 : s_ty r4 = 3 := by first | rfl | assumption) (y3 : s_ty r5 = 3 := by first | rfl | assumption) (n8 : s_nth f5 6 = some v7 := by first | rfl | assumption)  : wr P d sw_c48 sw_h48 (37, [r0, vi x1, vi x2, vi x3, r4, r5], [], h, kc, ks) Q := by
  refine w_ld rfl rfl (Or.inr (Or.inr ⟨by decide, y1⟩)) ?_
  refine w_ld rfl rfl (Or.inr (Or.inr ⟨by decide, y2⟩)) ?_
  refine w_ld rfl rfl (Or.inr (Or.inr ⟨by decide, y3⟩)) ?_
  subst e_q4
  refine w_getf rfl g6 n8 ?_
  exact w_cs rfl [r4, v7] [r0] rfl rfl (s_wt_4 rfl) k

theorem k48_48 {P : s_P} {d : Nat} {Q : s_O → Prop} {h : s_H} {kc ks : Nat} {r0 : Term} {x1 x2 x3 : Int} {r4 r5 s0 s1 : Term} {q1 : Nat} {f2 : List Term} (g3 : s_get h q1 = some (1, 10, f2)) (k : wm P d 39 [.index q1, s1] h (wq P d sw_c48 sw_h48 51 [r0, vi x1, vi x2, vi x3, r4, r5] [] kc ks Q)) (e_q1 : s0 = .index q1 := by first | rfl | assumption)  : wr P d sw_c48 sw_h48 (48, [r0, vi x1, vi x2, vi x3, r4, r5], [s1, s0], h, kc, ks) Q := by
  subst e_q1
  exact w_cv rfl [.index q1, s1] [] rfl rfl (s_wt_4 rfl) rfl g3 k

theorem k48_51 {P : s_P} {d : Nat} {Q : s_O → Prop} {h : s_H} {kc ks : Nat} {r0 : Term} {x1 x2 x3 : Int} {r4 r5 : Term} {s0 : Int}  (k : Q (.inl (some (vi s0)), h, kc, ks))   : wr P d sw_c48 sw_h48 (51, [r0, vi x1, vi x2, vi x3, r4, r5], [vi s0], h, kc, ks) Q := by
  exact w_iret rfl k

theorem k48_52 {P : s_P} {d : Nat} {Q : s_O → Prop} {h : s_H} {kc ks : Nat} {r0 : Term} {x1 x2 x3 : Int} {r4 r5 : Term}  (k : wm P d 52 [r5, vi 0] h (wq P d sw_c48 sw_h48 58 [r0, vi x1, vi x2, vi x3, r4, r5] [] kc ks Q)) (y1 : s_ty r5 = 3 := by first | rfl | assumption)  : wr P d sw_c48 sw_h48 (52, [r0, vi x1, vi x2, vi x3, r4, r5], [], h, kc, ks) Q := by
  refine w_ld rfl rfl (Or.inr (Or.inr ⟨by decide, y1⟩)) ?_
  refine w_c32 rfl (by decide) 0 (by decide) ?_
  exact w_cs rfl [r5, vi 0] [] rfl rfl (s_wt_4 rfl) k

theorem k48_58 {P : s_P} {d : Nat} {Q : s_O → Prop} {h : s_H} {kc ks : Nat} {r0 : Term} {x1 x2 x3 : Int} {r4 r5 : Term}  (k1 : x2 ≠ 0 → wr P d sw_c48 sw_h48 (81, [r0, vi x1, vi x2, vi x3, r4, r5], [r0], h, kc, ks) Q) (k2 : ¬ x2 ≠ 0 → wr P d sw_c48 sw_h48 (63, [r0, vi x1, vi x2, vi x3, r4, r5], [r0], h, kc, ks) Q) (y1 : s_ty r0 = 3 := by first | rfl | assumption) (c2 : In3 x2 := by first | omega | assumption | (simp only [mk_len, List.length_map]; omega) | decide) : wr P d sw_c48 sw_h48 (58, [r0, vi x1, vi x2, vi x3, r4, r5], [], h, kc, ks) Q := by
  refine w_ld rfl rfl (Or.inr (Or.inr ⟨by decide, y1⟩)) ?_
  refine w_ld rfl rfl (Or.inl ⟨by decide, rfl⟩) ?_
  exact w_if1 rfl c2 k1 k2

theorem k48_63 {P : s_P} {d : Nat} {Q : s_O → Prop} {h : s_H} {kc ks : Nat} {r0 : Term} {x1 x2 x3 : Int} {r4 r5 s0 : Term} {q2 : Nat} {f3 : List Term} {v5 v9 : Term} {q11 : Nat} {f12 : List Term} (g4 : s_get h q2 = some (1, 10, f3)) (g13 : s_get h q11 = some (1, 6, f12)) (k : wm P d 219 [.index q11, r4, r5, v9] h (wq P d sw_c48 sw_h48 78 [.index q2, vi x1, vi x2, vi x3, r4, r5] [s0] kc ks Q)) (e_q2 : r0 = .index q2 := by first | rfl | assumption) (e_q11 : v5 = .index q11 := by first | rfl | assumption) (y1 : s_ty r0 = 3 := by first | rfl | assumption) (n6 : s_nth f3 11 = some v5 := by first | rfl | assumption) (y7 : s_ty r4 = 3 := by first | rfl | assumption) (y8 : s_ty r5 = 3 := by first | rfl | assumption) (n10 : s_nth f3 17 = some v9 := by first | rfl | assumption)  : wr P d sw_c48 sw_h48 (63, [r0, vi x1, vi x2, vi x3, r4, r5], [s0], h, kc, ks) Q := by
  refine w_ld rfl rfl (Or.inr (Or.inr ⟨by decide, y1⟩)) ?_
  subst e_q2
  refine w_getf rfl g4 n6 ?_
  refine w_ld rfl rfl (Or.inr (Or.inr ⟨by decide, y7⟩)) ?_
  refine w_ld rfl rfl (Or.inr (Or.inr ⟨by decide, y8⟩)) ?_
  refine w_ld rfl rfl (Or.inr (Or.inr ⟨by decide, rfl⟩)) ?_
  refine w_getf rfl g4 n10 ?_
  subst e_q11
  exact w_cv rfl [.index q11, r4, r5, v9] [s0] rfl rfl (s_wt_4 rfl) rfl g13 k

theorem k48_78 {P : s_P} {d : Nat} {Q : s_O → Prop} {h : s_H} {kc ks : Nat} {r0 : Term} {x1 x2 x3 : Int} {r4 r5 s0 s1 : Term}  (k : wr P d sw_c48 sw_h48 (96, [r0, vi x1, vi x2, vi x3, r4, r5], [s1, s0], h, kc, ks) Q)   : wr P d sw_c48 sw_h48 (78, [r0, vi x1, vi x2, vi x3, r4, r5], [s1, s0], h, kc, ks) Q := by
  refine w_goto rfl ?_
  exact k

theorem k48_81 {P : s_P} {d : Nat} {Q : s_O → Prop} {h : s_H} {kc ks : Nat} {r0 : Term} {x1 x2 x3 : Int} {r4 r5 s0 : Term} {q2 : Nat} {f3 : List Term} {v5 v9 : Term} {q11 : Nat} {f12 : List Term} (g4 : s_get h q2 = some (1, 10, f3)) (g13 : s_get h q11 = some (1, 6, f12)) (k : wm P d 218 [.index q11, r4, r5, v9] h (wq P d sw_c48 sw_h48 96 [.index q2, vi x1, vi x2, vi x3, r4, r5] [s0] kc ks Q)) (e_q2 : r0 = .index q2 := by first | rfl | assumption) (e_q11 : v5 = .index q11 := by first | rfl | assumption) (y1 : s_ty r0 = 3 := by first | rfl | assumption) (n6 : s_nth f3 11 = some v5 := by first | rfl | assumption) (y7 : s_ty r4 = 3 := by first | rfl | assumption) (y8 : s_ty r5 = 3 := by first | rfl | assumption) (n10 : s_nth f3 17 = some v9 := by first | rfl | assumption)  : wr P d sw_c48 sw_h48 (81, [r0, vi x1, vi x2, vi x3, r4, r5], [s0], h, kc, ks) Q := by
  refine w_ld rfl rfl (Or.inr (Or.inr ⟨by decide, y1⟩)) ?_
  subst e_q2
  refine w_getf rfl g4 n6 ?_
  refine w_ld rfl rfl (Or.inr (Or.inr ⟨by decide, y7⟩)) ?_
  refine w_ld rfl rfl (Or.inr (Or.inr ⟨by decide, y8⟩)) ?_
  refine w_ld rfl rfl (Or.inr (Or.inr ⟨by decide, rfl⟩)) ?_
  refine w_getf rfl g4 n10 ?_
  subst e_q11
  exact w_cv rfl [.index q11, r4, r5, v9] [s0] rfl rfl (s_wt_4 rfl) rfl g13 k

theorem k48_96 {P : s_P} {d : Nat} {Q : s_O → Prop} {h : s_H} {kc ks : Nat} {r0 : Term} {x1 x2 x3 : Int} {r4 r5 s0 s1 : Term} {q1 : Nat} {f2 : List Term} (g3 : s_get h q1 = some (1, 10, f2)) (k : wm P d 37 [.index q1, s1] h (wq P d sw_c48 sw_h48 99 [r0, vi x1, vi x2, vi x3, r4, r5] [] kc ks Q)) (e_q1 : s0 = .index q1 := by first | rfl | assumption)  : wr P d sw_c48 sw_h48 (96, [r0, vi x1, vi x2, vi x3, r4, r5], [s1, s0], h, kc, ks) Q := by
  subst e_q1
  exact w_cv rfl [.index q1, s1] [] rfl rfl (s_wt_4 rfl) rfl g3 k

theorem k48_99 {P : s_P} {d : Nat} {Q : s_O → Prop} {h : s_H} {kc ks : Nat} {r0 : Term} {x1 x2 x3 : Int} {r4 r5 : Term} {s0 : Int}  (k : Q (.inl (some (vi s0)), h, kc, ks))   : wr P d sw_c48 sw_h48 (99, [r0, vi x1, vi x2, vi x3, r4, r5], [vi s0], h, kc, ks) Q := by
  exact w_iret rfl k

/-! 49: FormulaWorks.matrix(II)I -/
theorem k49_0 {P : s_P} {d : Nat} {Q : s_O → Prop} {h : s_H} {kc ks : Nat} {r0 : Term} {x1 x2 : Int} {t3 t4 : Term}  (k1 : x1 < 1 → wr P d sw_c49 sw_h49 (20, [r0, vi x1, vi x2, t3, t4], [], h, kc, ks) Q) (k2 : ¬ x1 < 1 → wr P d sw_c49 sw_h49 (5, [r0, vi x1, vi x2, t3, t4], [], h, kc, ks) Q)  (c1 : In3 x1 := by first | omega | assumption | (simp only [mk_len, List.length_map]; omega) | decide) : wr P d sw_c49 sw_h49 (0, [r0, vi x1, vi x2, t3, t4], [], h, kc, ks) Q := by
  refine w_ld rfl rfl (Or.inl ⟨by decide, rfl⟩) ?_
  refine w_c32 rfl (by decide) 1 (by decide) ?_
  exact w_if2 rfl c1 (by decide) k1 k2

theorem k49_5 {P : s_P} {d : Nat} {Q : s_O → Prop} {h : s_H} {kc ks : Nat} {r0 : Term} {x1 x2 : Int} {t3 t4 : Term}  (k1 : 4 < x1 → wr P d sw_c49 sw_h49 (20, [r0, vi x1, vi x2, t3, t4], [], h, kc, ks) Q) (k2 : ¬ 4 < x1 → wr P d sw_c49 sw_h49 (10, [r0, vi x1, vi x2, t3, t4], [], h, kc, ks) Q)  (c1 : In3 x1 := by first | omega | assumption | (simp only [mk_len, List.length_map]; omega) | decide) : wr P d sw_c49 sw_h49 (5, [r0, vi x1, vi x2, t3, t4], [], h, kc, ks) Q := by
  refine w_ld rfl rfl (Or.inl ⟨by decide, rfl⟩) ?_
  refine w_c32 rfl (by decide) 4 (by decide) ?_
  exact w_if2 rfl c1 (by decide) k1 k2

theorem k49_10 {P : s_P} {d : Nat} {Q : s_O → Prop} {h : s_H} {kc ks : Nat} {r0 : Term} {x1 x2 : Int} {t3 t4 : Term}  (k1 : x2 < 1 → wr P d sw_c49 sw_h49 (20, [r0, vi x1, vi x2, t3, t4], [], h, kc, ks) Q) (k2 : ¬ x2 < 1 → wr P d sw_c49 sw_h49 (15, [r0, vi x1, vi x2, t3, t4], [], h, kc, ks) Q)  (c1 : In3 x2 := by first | omega | assumption | (simp only [mk_len, List.length_map]; omega) | decide) : wr P d sw_c49 sw_h49 (10, [r0, vi x1, vi x2, t3, t4], [], h, kc, ks) Q := by
  refine w_ld rfl rfl (Or.inl ⟨by decide, rfl⟩) ?_
  refine w_c32 rfl (by decide) 1 (by decide) ?_
  exact w_if2 rfl c1 (by decide) k1 k2

theorem k49_15 {P : s_P} {d : Nat} {Q : s_O → Prop} {h : s_H} {kc ks : Nat} {r0 : Term} {x1 x2 : Int} {t3 t4 : Term}  (k1 : x2 ≤ 4 → wr P d sw_c49 sw_h49 (28, [r0, vi x1, vi x2, t3, t4], [], h, kc, ks) Q) (k2 : ¬ x2 ≤ 4 → wr P d sw_c49 sw_h49 (20, [r0, vi x1, vi x2, t3, t4], [], h, kc, ks) Q)  (c1 : In3 x2 := by first | omega | assumption | (simp only [mk_len, List.length_map]; omega) | decide) : wr P d sw_c49 sw_h49 (15, [r0, vi x1, vi x2, t3, t4], [], h, kc, ks) Q := by
  refine w_ld rfl rfl (Or.inl ⟨by decide, rfl⟩) ?_
  refine w_c32 rfl (by decide) 4 (by decide) ?_
  exact w_if2 rfl c1 (by decide) k1 k2

theorem k49_20 {P : s_P} {d : Nat} {Q : s_O → Prop} {h : s_H} {kc ks : Nat} {r0 : Term} {x1 x2 : Int} {t3 t4 : Term}  (k : Q (.inr 1, h, kc + 1, ks + 6))   : wr P d sw_c49 sw_h49 (20, [r0, vi x1, vi x2, t3, t4], [], h, kc, ks) Q := by
  exact w_throw rfl (s_wt_4 rfl) k

theorem k49_28 {P : s_P} {d : Nat} {Q : s_O → Prop} {h : s_H} {kc ks : Nat} {r0 : Term} {x1 x2 : Int} {t3 t4 : Term} {q2 : Nat} {f3 : List Term} {z5 : Int} (g4 : s_get h q2 = some (1, 10, f3)) (k1 : x1 * x2 = z5 → wr P d sw_c49 sw_h49 (46, [.index q2, vi x1, vi x2, t3, t4], [], h, kc, ks) Q) (k2 : ¬ x1 * x2 = z5 → wr P d sw_c49 sw_h49 (38, [.index q2, vi x1, vi x2, t3, t4], [], h, kc, ks) Q) (e_q2 : r0 = .index q2 := by first | rfl | assumption) (y1 : s_ty r0 = 3 := by first | rfl | assumption) (n6 : s_nth f3 7 = some (vi z5) := by first | rfl | assumption) (c7 : In3 (x1 * x2) := by first | omega | assumption | (simp only [mk_len, List.length_map]; omega) | decide) (c8 : In3 z5 := by first | omega | assumption | (simp only [mk_len, List.length_map]; omega) | decide) : wr P d sw_c49 sw_h49 (28, [r0, vi x1, vi x2, t3, t4], [], h, kc, ks) Q := by
  refine w_ld rfl rfl (Or.inl ⟨by decide, rfl⟩) ?_
  refine w_ld rfl rfl (Or.inl ⟨by decide, rfl⟩) ?_
  refine w_imul rfl ?_
  refine w_ld rfl rfl (Or.inr (Or.inr ⟨by decide, y1⟩)) ?_
  subst e_q2
  refine w_getf rfl g4 n6 ?_
  exact w_if2 rfl c7 c8 k1 k2

theorem k49_38 {P : s_P} {d : Nat} {Q : s_O → Prop} {h : s_H} {kc ks : Nat} {r0 : Term} {x1 x2 : Int} {t3 t4 : Term}  (k : Q (.inr 1, h, kc + 1, ks + 6))   : wr P d sw_c49 sw_h49 (38, [r0, vi x1, vi x2, t3, t4], [], h, kc, ks) Q := by
  exact w_throw rfl (s_wt_4 rfl) k

theorem k49_46 {P : s_P} {d : Nat} {Q : s_O → Prop} {h : s_H} {kc ks : Nat} {r0 : Term} {x1 x2 : Int} {t3 t4 : Term} {q2 : Nat} {f3 : List Term} (g4 : s_get h q2 = some (1, 10, f3)) (k : wm P d 54 [.index q2] h (wq P d sw_c49 sw_h49 50 [.index q2, vi x1, vi x2, t3, t4] [] kc ks Q)) (e_q2 : r0 = .index q2 := by first | rfl | assumption) (y1 : s_ty r0 = 3 := by first | rfl | assumption)  : wr P d sw_c49 sw_h49 (46, [r0, vi x1, vi x2, t3, t4], [], h, kc, ks) Q := by
  refine w_ld rfl rfl (Or.inr (Or.inr ⟨by decide, y1⟩)) ?_
  subst e_q2
  exact w_cv rfl [.index q2] [] rfl rfl (s_wt_4 rfl) rfl g4 k

theorem k49_50 {P : s_P} {d : Nat} {Q : s_O → Prop} {h : s_H} {kc ks : Nat} {r0 : Term} {x1 x2 : Int} {t3 t4 : Term} {fc1 fc3 : s_C} (g2 : s_get h (h).1 = some fc1) (g4 : s_get (hq h (1, 8, s_df 8)) ((hq h (1, 8, s_df 8))).1 = some fc3) (k : wm P d 262 [.index h.1, vi x1, vi x2, .index ((hq h (1, 8, s_df 8))).1] (hq (hq h (1, 8, s_df 8)) (0, 2, List.replicate (Int.toNat (x1 * x2)) (.null))) (fun out => out.1 = .inl none ∧ wr P d sw_c49 sw_h49 (65, [r0, vi x1, vi x2, t3, t4], [.index h.1], out.2.1, ((kc + 1) + 1) + out.2.2.1, ((ks + 8) + (Int.toNat (x1 * x2))) + out.2.2.2) Q))  (c5 : x1 * x2 ≤ 60000000 := by first | omega | assumption | (simp only [mk_len, List.length_map]; omega) | decide) (c6 : In3 (x1 * x2) := by first | omega | assumption | (simp only [mk_len, List.length_map]; omega) | decide) (c7 : 0 ≤ x1 * x2 := by first | omega | assumption | (simp only [mk_len, List.length_map]; omega) | decide) : wr P d sw_c49 sw_h49 (50, [r0, vi x1, vi x2, t3, t4], [], h, kc, ks) Q := by
  refine w_new rfl g2 ?_
  refine w_dup rfl rfl ?_
  refine w_ld rfl rfl (Or.inl ⟨by decide, rfl⟩) ?_
  refine w_ld rfl rfl (Or.inl ⟨by decide, rfl⟩) ?_
  refine w_ld rfl rfl (Or.inl ⟨by decide, rfl⟩) ?_
  refine w_ld rfl rfl (Or.inl ⟨by decide, rfl⟩) ?_
  refine w_imul rfl ?_
  refine w_newa rfl (by decide) g4 c6 c7 c5 (.null) rfl ?_
  exact w_ci rfl [.index h.1, vi x1, vi x2, .index ((hq h (1, 8, s_df 8))).1] [.index h.1] rfl rfl (s_wt_4 rfl) rfl k

theorem k49_65 {P : s_P} {d : Nat} {Q : s_O → Prop} {h : s_H} {kc ks : Nat} {r0 : Term} {x1 x2 : Int} {t3 t4 s0 : Term}  (k : wr P d sw_c49 sw_h49 (69, [r0, vi x1, vi x2, s0, vi 0], [], h, kc, ks) Q) (y1 : s_ty s0 = 3 := by first | rfl | assumption)  : wr P d sw_c49 sw_h49 (65, [r0, vi x1, vi x2, t3, t4], [s0], h, kc, ks) Q := by
  refine w_st (ls' := [r0, vi x1, vi x2, s0, t4]) rfl (Or.inr ⟨by decide, y1⟩) rfl ?_
  refine w_c32 rfl (by decide) 0 (by decide) ?_
  refine w_st (ls' := [r0, vi x1, vi x2, s0, vi 0]) rfl (Or.inl ⟨by decide, rfl⟩) (s_stK_r (pre := [r0, vi x1, vi x2]) y1) ?_
  exact k

theorem k49_69 {P : s_P} {d : Nat} {Q : s_O → Prop} {h : s_H} {kc ks : Nat} {r0 : Term} {x1 x2 : Int} {r3 : Term} {x4 : Int} {q2 : Nat} {f3 : List Term} {z5 : Int} (g4 : s_get h q2 = some (1, 10, f3)) (k1 : z5 ≤ x4 → wr P d sw_c49 sw_h49 (108, [.index q2, vi x1, vi x2, r3, vi x4], [], h, kc, ks) Q) (k2 : ¬ z5 ≤ x4 → wr P d sw_c49 sw_h49 (78, [.index q2, vi x1, vi x2, r3, vi x4], [], h, kc, ks) Q) (e_q2 : r0 = .index q2 := by first | rfl | assumption) (y1 : s_ty r0 = 3 := by first | rfl | assumption) (n6 : s_nth f3 7 = some (vi z5) := by first | rfl | assumption) (c7 : In3 x4 := by first | omega | assumption | (simp only [mk_len, List.length_map]; omega) | decide) (c8 : In3 z5 := by first | omega | assumption | (simp only [mk_len, List.length_map]; omega) | decide) : wr P d sw_c49 sw_h49 (69, [r0, vi x1, vi x2, r3, vi x4], [], h, kc, ks) Q := by
  refine w_ld rfl rfl (Or.inl ⟨by decide, rfl⟩) ?_
  refine w_ld rfl rfl (Or.inr (Or.inr ⟨by decide, y1⟩)) ?_
  subst e_q2
  refine w_getf rfl g4 n6 ?_
  exact w_if2 rfl c7 c8 k1 k2

theorem k49_78 {P : s_P} {d : Nat} {Q : s_O → Prop} {h : s_H} {kc ks : Nat} {r0 : Term} {x1 x2 : Int} {r3 : Term} {x4 : Int} {q2 : Nat} {f3 : List Term} {v5 : Term} {q7 : Nat} {a8 : List Term} {tg10 : Nat} (g4 : s_get h q2 = some (1, 8, f3)) (g9 : s_get h q7 = some (0, tg10, a8)) (k1 : (a8.length : Int) ≤ x4 → wr P d sw_c49 sw_h49 (108, [r0, vi x1, vi x2, .index q2, vi x4], [], h, kc, ks) Q) (k2 : ¬ (a8.length : Int) ≤ x4 → wr P d sw_c49 sw_h49 (88, [r0, vi x1, vi x2, .index q2, vi x4], [], h, kc, ks) Q) (e_q2 : r3 = .index q2 := by first | rfl | assumption) (e_q7 : v5 = .index q7 := by first | rfl | assumption) (y1 : s_ty r3 = 3 := by first | rfl | assumption) (n6 : s_nth f3 5 = some v5 := by first | rfl | assumption) (c11 : In3 x4 := by first | omega | assumption | (simp only [mk_len, List.length_map]; omega) | decide) (c12 : In3 (a8.length : Int) := by first | omega | assumption | (simp only [mk_len, List.length_map]; omega) | decide) : wr P d sw_c49 sw_h49 (78, [r0, vi x1, vi x2, r3, vi x4], [], h, kc, ks) Q := by
  refine w_ld rfl rfl (Or.inl ⟨by decide, rfl⟩) ?_
  refine w_ld rfl rfl (Or.inr (Or.inr ⟨by decide, y1⟩)) ?_
  subst e_q2
  refine w_getf rfl g4 n6 ?_
  subst e_q7
  refine w_alen rfl g9 (Or.inl rfl) ?_
  exact w_if2 rfl c11 c12 k1 k2

theorem k49_88 {P : s_P} {d : Nat} {Q : s_O → Prop} {h : s_H} {kc ks : Nat} {r0 : Term} {x1 x2 : Int} {r3 : Term} {x4 : Int} {q2 : Nat} {f3 : List Term} {v5 : Term} {q8 : Nat} {f9 : List Term} {v11 : Term} {q13 : Nat} {a14 : List Term} {tg16 : Nat} {v17 : Term} {q22 : Nat} {a23 : List Term} {tg25 : Nat} (g4 : s_get h q2 = some (1, 8, f3)) (g10 : s_get h q8 = some (1, 10, f9)) (g15 : s_get h q13 = some (0, tg16, a14)) (g24 : s_get h q22 = some (0, tg25, a23)) (w27 : s_okA h s_comp tg25 v17 = true) (k : wr P d sw_c49 sw_h49 (69, [.index q8, vi x1, vi x2, .index q2, vi (x4 + 1)], [], (hp h q22 (0, tg25, a23.set (Int.toNat (x4)) v17)), kc, ks) Q) (e_q2 : r3 = .index q2 := by first | rfl | assumption) (e_q8 : r0 = .index q8 := by first | rfl | assumption) (e_q13 : v11 = .index q13 := by first | rfl | assumption) (e_q22 : v5 = .index q22 := by first | rfl | assumption) (y1 : s_ty r3 = 3 := by first | rfl | assumption) (n6 : s_nth f3 5 = some v5 := by first | rfl | assumption) (y7 : s_ty r0 = 3 := by first | rfl | assumption) (n12 : s_nth f9 6 = some v11 := by first | rfl | assumption) (n18 : s_nth a14 (Int.toNat (x4)) = some v17 := by first | rfl | assumption) (u19 : tg16 = 2 ∨ tg16 = 3 ∨ tg16 = 4 := by first | decide | assumption) (u26 : tg25 = 2 ∨ tg25 = 3 := by first | decide | assumption) (c20 : In3 x4 := by first | omega | assumption | (simp only [mk_len, List.length_map]; omega) | decide) (c21 : 0 ≤ x4 := by first | omega | assumption | (simp only [mk_len, List.length_map]; omega) | decide) (c28 : x4 < a23.length := by first | omega | assumption | (simp only [mk_len, List.length_map]; omega) | decide) (c29 : 0 < q22 := by first | omega | assumption | (simp only [mk_len, List.length_map]; omega) | decide) : wr P d sw_c49 sw_h49 (88, [r0, vi x1, vi x2, r3, vi x4], [], h, kc, ks) Q := by
  refine w_ld rfl rfl (Or.inr (Or.inr ⟨by decide, y1⟩)) ?_
  subst e_q2
  refine w_getf rfl g4 n6 ?_
  refine w_ld rfl rfl (Or.inl ⟨by decide, rfl⟩) ?_
  refine w_ld rfl rfl (Or.inr (Or.inr ⟨by decide, y7⟩)) ?_
  subst e_q8
  refine w_getf rfl g10 n12 ?_
  refine w_ld rfl rfl (Or.inl ⟨by decide, rfl⟩) ?_
  subst e_q13
  refine w_aald rfl g15 u19 c20 c21 n18 ?_
  subst e_q22
  refine w_aast rfl g24 u26 (Nat.ble_eq_true_of_le c29) c20 c21 c28 w27 ?_
  refine w_iinc (ls' := [.index q8, vi x1, vi x2, .index q2, vi (x4 + 1)]) rfl rfl 1 (by decide) rfl ?_
  refine w_goto rfl ?_
  exact k

theorem k49_108 {P : s_P} {d : Nat} {Q : s_O → Prop} {h : s_H} {kc ks : Nat} {r0 : Term} {x1 x2 : Int} {r3 : Term} {x4 : Int} {q2 : Nat} {f3 f8 : List Term} (g4 : s_get h q2 = some (1, 10, f3)) (g9 : s_get (hp h q2 (1, 10, f3.set 7 (vi 0))) q2 = some (1, 10, f8)) (k : wm P d 35 [.index q2, r3] (hp h q2 (1, 10, f3.set 7 (vi 0))) (wq P d sw_c49 sw_h49 118 [.index q2, vi x1, vi x2, r3, vi x4] [] kc ks Q)) (e_q2 : r0 = .index q2 := by first | rfl | assumption) (y1 : s_ty r0 = 3 := by first | rfl | assumption) (l5 : 7 < f3.length := by first | exact Nat.le_of_ble_eq_true rfl | omega | assumption) (y7 : s_ty r3 = 3 := by first | rfl | assumption) (c6 : 0 < q2 := by first | omega | assumption | (simp only [mk_len, List.length_map]; omega) | decide) : wr P d sw_c49 sw_h49 (108, [r0, vi x1, vi x2, r3, vi x4], [], h, kc, ks) Q := by
  refine w_ld rfl rfl (Or.inr (Or.inr ⟨by decide, y1⟩)) ?_
  refine w_c32 rfl (by decide) 0 (by decide) ?_
  subst e_q2
  refine w_putf rfl g4 (Nat.ble_eq_true_of_le c6) rfl (Nat.ble_eq_true_of_le l5) ?_
  refine w_ld rfl rfl (Or.inr (Or.inr ⟨by decide, rfl⟩)) ?_
  refine w_ld rfl rfl (Or.inr (Or.inr ⟨by decide, y7⟩)) ?_
  exact w_cv rfl [.index q2, r3] [] rfl rfl (s_wt_4 rfl) rfl g9 k

theorem k49_118 {P : s_P} {d : Nat} {Q : s_O → Prop} {h : s_H} {kc ks : Nat} {r0 : Term} {x1 x2 : Int} {r3 : Term} {x4 s0 : Int}  (k : Q (.inl (some (vi s0)), h, kc, ks))   : wr P d sw_c49 sw_h49 (118, [r0, vi x1, vi x2, r3, vi x4], [vi s0], h, kc, ks) Q := by
  exact w_iret rfl k

/-! 50: FormulaWorks.meet(III)I -/
theorem k50_0 {P : s_P} {d : Nat} {Q : s_O → Prop} {h : s_H} {kc ks : Nat} {r0 : Term} {x1 x2 x3 : Int} {t4 t5 : Term} {q2 : Nat} {f3 : List Term} (g4 : s_get h q2 = some (1, 10, f3)) (k : wm P d 93 [.index q2, vi x1] h (wq P d sw_c50 sw_h50 5 [.index q2, vi x1, vi x2, vi x3, t4, t5] [] kc ks Q)) (e_q2 : r0 = .index q2 := by first | rfl | assumption) (y1 : s_ty r0 = 3 := by first | rfl | assumption)  : wr P d sw_c50 sw_h50 (0, [r0, vi x1, vi x2, vi x3, t4, t5], [], h, kc, ks) Q := by
  refine w_ld rfl rfl (Or.inr (Or.inr ⟨by decide, y1⟩)) ?_
  refine w_ld rfl rfl (Or.inl ⟨by decide, rfl⟩) ?_
  subst e_q2
  exact w_cv rfl [.index q2, vi x1] [] rfl rfl (s_wt_4 rfl) rfl g4 k

theorem k50_5 {P : s_P} {d : Nat} {Q : s_O → Prop} {h : s_H} {kc ks : Nat} {r0 : Term} {x1 x2 x3 : Int} {t4 t5 s0 : Term} {q3 : Nat} {f4 : List Term} (g5 : s_get h q3 = some (1, 10, f4)) (k : wm P d 93 [.index q3, vi x3] h (wq P d sw_c50 sw_h50 12 [.index q3, vi x1, vi x2, vi x3, s0, t5] [] kc ks Q)) (e_q3 : r0 = .index q3 := by first | rfl | assumption) (y1 : s_ty s0 = 3 := by first | rfl | assumption) (y2 : s_ty r0 = 3 := by first | rfl | assumption)  : wr P d sw_c50 sw_h50 (5, [r0, vi x1, vi x2, vi x3, t4, t5], [s0], h, kc, ks) Q := by
  refine w_st (ls' := [r0, vi x1, vi x2, vi x3, s0, t5]) rfl (Or.inr ⟨by decide, y1⟩) rfl ?_
  refine w_ld rfl rfl (Or.inr (Or.inr ⟨by decide, y2⟩)) ?_
  refine w_ld rfl rfl (Or.inl ⟨by decide, rfl⟩) ?_
  subst e_q3
  exact w_cv rfl [.index q3, vi x3] [] rfl rfl (s_wt_4 rfl) rfl g5 k

theorem k50_12 {P : s_P} {d : Nat} {Q : s_O → Prop} {h : s_H} {kc ks : Nat} {r0 : Term} {x1 x2 x3 : Int} {r4 t5 s0 : Term}  (k : wm P d 55 [r4] h (wq P d sw_c50 sw_h50 19 [r0, vi x1, vi x2, vi x3, r4, s0] [] kc ks Q)) (y1 : s_ty r4 = 3 := by first | rfl | assumption) (y2 : s_ty s0 = 3 := by first | rfl | assumption)  : wr P d sw_c50 sw_h50 (12, [r0, vi x1, vi x2, vi x3, r4, t5], [s0], h, kc, ks) Q := by
  refine w_st (ls' := [r0, vi x1, vi x2, vi x3, r4, s0]) rfl (Or.inr ⟨by decide, y2⟩) (s_stK_r (pre := [r0, vi x1, vi x2, vi x3]) y1) ?_
  refine w_ld rfl rfl (Or.inr (Or.inr ⟨by decide, y1⟩)) ?_
  exact w_cs rfl [r4] [] rfl rfl (s_wt_4 rfl) k

theorem k50_19 {P : s_P} {d : Nat} {Q : s_O → Prop} {h : s_H} {kc ks : Nat} {r0 : Term} {x1 x2 x3 : Int} {r4 r5 : Term}  (k : wm P d 59 [vi x2] h (wq P d sw_c50 sw_h50 23 [r0, vi x1, vi x2, vi x3, r4, r5] [] kc ks Q))   : wr P d sw_c50 sw_h50 (19, [r0, vi x1, vi x2, vi x3, r4, r5], [], h, kc, ks) Q := by
  refine w_ld rfl rfl (Or.inl ⟨by decide, rfl⟩) ?_
  exact w_cs rfl [vi x2] [] rfl rfl (s_wt_4 rfl) k

theorem k50_23 {P : s_P} {d : Nat} {Q : s_O → Prop} {h : s_H} {kc ks : Nat} {r0 : Term} {x1 x2 x3 : Int} {r4 r5 : Term}  (k : wm P d 58 [r5] h (wq P d sw_c50 sw_h50 28 [r0, vi x1, vi x2, vi x3, r4, r5] [] kc ks Q)) (y1 : s_ty r5 = 3 := by first | rfl | assumption)  : wr P d sw_c50 sw_h50 (23, [r0, vi x1, vi x2, vi x3, r4, r5], [], h, kc, ks) Q := by
  refine w_ld rfl rfl (Or.inr (Or.inr ⟨by decide, y1⟩)) ?_
  exact w_cs rfl [r5] [] rfl rfl (s_wt_4 rfl) k

theorem k50_28 {P : s_P} {d : Nat} {Q : s_O → Prop} {h : s_H} {kc ks : Nat} {r0 : Term} {x1 x2 x3 : Int} {r4 r5 : Term} {q2 : Nat} {f3 : List Term} {v5 : Term} {q9 : Nat} {f10 : List Term} {v12 v14 : Term} {q16 : Nat} {f17 : List Term} (g4 : s_get h q2 = some (1, 10, f3)) (g11 : s_get h q9 = some (1, 8, f10)) (g18 : s_get h q16 = some (1, 6, f17)) (k : wm P d 220 [.index q16, r4, vi x2, v12, v14] h (wq P d sw_c50 sw_h50 48 [.index q2, vi x1, vi x2, vi x3, r4, .index q9] [.index q2] kc ks Q)) (e_q2 : r0 = .index q2 := by first | rfl | assumption) (e_q9 : r5 = .index q9 := by first | rfl | assumption) (e_q16 : v5 = .index q16 := by first | rfl | assumption) (y1 : s_ty r0 = 3 := by first | rfl | assumption) (n6 : s_nth f3 11 = some v5 := by first | rfl | assumption) (y7 : s_ty r4 = 3 := by first | rfl | assumption) (y8 : s_ty r5 = 3 := by first | rfl | assumption) (n13 : s_nth f10 1 = some v12 := by first | rfl | assumption) (n15 : s_nth f3 17 = some v14 := by first | rfl | assumption)  : wr P d sw_c50 sw_h50 (28, [r0, vi x1, vi x2, vi x3, r4, r5], [], h, kc, ks) Q := by
  refine w_ld rfl rfl (Or.inr (Or.inr ⟨by decide, y1⟩)) ?_
  refine w_ld rfl rfl (Or.inr (Or.inr ⟨by decide, y1⟩)) ?_
  subst e_q2
  refine w_getf rfl g4 n6 ?_
  refine w_ld rfl rfl (Or.inr (Or.inr ⟨by decide, y7⟩)) ?_
  refine w_ld rfl rfl (Or.inl ⟨by decide, rfl⟩) ?_
  refine w_ld rfl rfl (Or.inr (Or.inr ⟨by decide, y8⟩)) ?_
  subst e_q9
  refine w_getf rfl g11 n13 ?_
  refine w_ld rfl rfl (Or.inr (Or.inr ⟨by decide, rfl⟩)) ?_
  refine w_getf rfl g4 n15 ?_
  subst e_q16
  exact w_cv rfl [.index q16, r4, vi x2, v12, v14] [.index q2] rfl rfl (s_wt_4 rfl) rfl g18 k

theorem k50_48 {P : s_P} {d : Nat} {Q : s_O → Prop} {h : s_H} {kc ks : Nat} {r0 : Term} {x1 x2 x3 : Int} {r4 r5 s0 s1 : Term} {q1 : Nat} {f2 : List Term} (g3 : s_get h q1 = some (1, 10, f2)) (k : wm P d 36 [.index q1, s1] h (wq P d sw_c50 sw_h50 51 [r0, vi x1, vi x2, vi x3, r4, r5] [] kc ks Q)) (e_q1 : s0 = .index q1 := by first | rfl | assumption)  : wr P d sw_c50 sw_h50 (48, [r0, vi x1, vi x2, vi x3, r4, r5], [s1, s0], h, kc, ks) Q := by
  subst e_q1
  exact w_cv rfl [.index q1, s1] [] rfl rfl (s_wt_4 rfl) rfl g3 k

theorem k50_51 {P : s_P} {d : Nat} {Q : s_O → Prop} {h : s_H} {kc ks : Nat} {r0 : Term} {x1 x2 x3 : Int} {r4 r5 : Term} {s0 : Int}  (k : Q (.inl (some (vi s0)), h, kc, ks))   : wr P d sw_c50 sw_h50 (51, [r0, vi x1, vi x2, vi x3, r4, r5], [vi s0], h, kc, ks) Q := by
  exact w_iret rfl k

/-! 51: FormulaWorks.needBelow(II)V -/
theorem k51_0 {P : s_P} {d : Nat} {Q : s_O → Prop} {h : s_H} {kc ks : Nat} {x0 x1 : Int}  (k1 : x0 < 0 → wr P d sw_c51 sw_h51 (9, [vi x0, vi x1], [], h, kc, ks) Q) (k2 : ¬ x0 < 0 → wr P d sw_c51 sw_h51 (4, [vi x0, vi x1], [], h, kc, ks) Q)  (c1 : In3 x0 := by first | omega | assumption | (simp only [mk_len, List.length_map]; omega) | decide) : wr P d sw_c51 sw_h51 (0, [vi x0, vi x1], [], h, kc, ks) Q := by
  refine w_ld rfl rfl (Or.inl ⟨by decide, rfl⟩) ?_
  exact w_if1 rfl c1 k1 k2

theorem k51_4 {P : s_P} {d : Nat} {Q : s_O → Prop} {h : s_H} {kc ks : Nat} {x0 x1 : Int}  (k1 : x0 < x1 → wr P d sw_c51 sw_h51 (17, [vi x0, vi x1], [], h, kc, ks) Q) (k2 : ¬ x0 < x1 → wr P d sw_c51 sw_h51 (9, [vi x0, vi x1], [], h, kc, ks) Q)  (c1 : In3 x0 := by first | omega | assumption | (simp only [mk_len, List.length_map]; omega) | decide) (c2 : In3 x1 := by first | omega | assumption | (simp only [mk_len, List.length_map]; omega) | decide) : wr P d sw_c51 sw_h51 (4, [vi x0, vi x1], [], h, kc, ks) Q := by
  refine w_ld rfl rfl (Or.inl ⟨by decide, rfl⟩) ?_
  refine w_ld rfl rfl (Or.inl ⟨by decide, rfl⟩) ?_
  exact w_if2 rfl c1 c2 k1 k2

theorem k51_9 {P : s_P} {d : Nat} {Q : s_O → Prop} {h : s_H} {kc ks : Nat} {x0 x1 : Int}  (k : Q (.inr 3, h, kc + 1, ks + 6))   : wr P d sw_c51 sw_h51 (9, [vi x0, vi x1], [], h, kc, ks) Q := by
  exact w_throw rfl (s_wt_4 rfl) k

theorem k51_17 {P : s_P} {d : Nat} {Q : s_O → Prop} {h : s_H} {kc ks : Nat} {x0 x1 : Int}  (k : Q (.inl none, h, kc, ks))   : wr P d sw_c51 sw_h51 (17, [vi x0, vi x1], [], h, kc, ks) Q := by
  exact w_ret rfl k

/-! 52: FormulaWorks.needKind(LFormulaWorks$Thing;I)V -/
theorem k52_0 {P : s_P} {d : Nat} {Q : s_O → Prop} {h : s_H} {kc ks : Nat} {r0 : Term} {x1 : Int} {q2 : Nat} {f3 : List Term} {z5 : Int} (g4 : s_get h q2 = some (1, 8, f3)) (k1 : z5 = x1 → wr P d sw_c52 sw_h52 (16, [.index q2, vi x1], [], h, kc, ks) Q) (k2 : ¬ z5 = x1 → wr P d sw_c52 sw_h52 (8, [.index q2, vi x1], [], h, kc, ks) Q) (e_q2 : r0 = .index q2 := by first | rfl | assumption) (y1 : s_ty r0 = 3 := by first | rfl | assumption) (n6 : s_nth f3 0 = some (vi z5) := by first | rfl | assumption) (c7 : In3 z5 := by first | omega | assumption | (simp only [mk_len, List.length_map]; omega) | decide) (c8 : In3 x1 := by first | omega | assumption | (simp only [mk_len, List.length_map]; omega) | decide) : wr P d sw_c52 sw_h52 (0, [r0, vi x1], [], h, kc, ks) Q := by
  refine w_ld rfl rfl (Or.inr (Or.inr ⟨by decide, y1⟩)) ?_
  subst e_q2
  refine w_getf rfl g4 n6 ?_
  refine w_ld rfl rfl (Or.inl ⟨by decide, rfl⟩) ?_
  exact w_if2 rfl c7 c8 k1 k2

theorem k52_8 {P : s_P} {d : Nat} {Q : s_O → Prop} {h : s_H} {kc ks : Nat} {r0 : Term} {x1 : Int}  (k : Q (.inr 1, h, kc + 1, ks + 6))   : wr P d sw_c52 sw_h52 (8, [r0, vi x1], [], h, kc, ks) Q := by
  exact w_throw rfl (s_wt_4 rfl) k

theorem k52_16 {P : s_P} {d : Nat} {Q : s_O → Prop} {h : s_H} {kc ks : Nat} {r0 : Term} {x1 : Int}  (k : Q (.inl none, h, kc, ks))   : wr P d sw_c52 sw_h52 (16, [r0, vi x1], [], h, kc, ks) Q := by
  exact w_ret rfl k

/-! 53: FormulaWorks.needOneNotZero(LFormulaWorks$Thing;LFormulaWorks$Thing;)V -/
theorem k53_0 {P : s_P} {d : Nat} {Q : s_O → Prop} {h : s_H} {kc ks : Nat} {r0 r1 : Term} {q2 : Nat} {f3 : List Term} {v5 : Term} {q7 : Nat} {f8 : List Term} {z10 : Int} (g4 : s_get h q2 = some (1, 8, f3)) (g9 : s_get h q7 = some (1, 4, f8)) (k1 : 0 ≤ z10 → wr P d sw_c53 sw_h53 (28, [.index q2, r1], [], h, kc, ks) Q) (k2 : ¬ 0 ≤ z10 → wr P d sw_c53 sw_h53 (10, [.index q2, r1], [], h, kc, ks) Q) (e_q2 : r0 = .index q2 := by first | rfl | assumption) (e_q7 : v5 = .index q7 := by first | rfl | assumption) (y1 : s_ty r0 = 3 := by first | rfl | assumption) (n6 : s_nth f3 1 = some v5 := by first | rfl | assumption) (n11 : s_nth f8 1 = some (vi z10) := by first | rfl | assumption) (c12 : In3 z10 := by first | omega | assumption | (simp only [mk_len, List.length_map]; omega) | decide) : wr P d sw_c53 sw_h53 (0, [r0, r1], [], h, kc, ks) Q := by
  refine w_ld rfl rfl (Or.inr (Or.inr ⟨by decide, y1⟩)) ?_
  subst e_q2
  refine w_getf rfl g4 n6 ?_
  subst e_q7
  refine w_getf rfl g9 n11 ?_
  exact w_if1 rfl c12 k1 k2

theorem k53_10 {P : s_P} {d : Nat} {Q : s_O → Prop} {h : s_H} {kc ks : Nat} {r0 r1 : Term} {q2 : Nat} {f3 : List Term} {v5 : Term} {q7 : Nat} {f8 : List Term} {z10 : Int} (g4 : s_get h q2 = some (1, 8, f3)) (g9 : s_get h q7 = some (1, 4, f8)) (k1 : 0 ≤ z10 → wr P d sw_c53 sw_h53 (28, [r0, .index q2], [], h, kc, ks) Q) (k2 : ¬ 0 ≤ z10 → wr P d sw_c53 sw_h53 (20, [r0, .index q2], [], h, kc, ks) Q) (e_q2 : r1 = .index q2 := by first | rfl | assumption) (e_q7 : v5 = .index q7 := by first | rfl | assumption) (y1 : s_ty r1 = 3 := by first | rfl | assumption) (n6 : s_nth f3 1 = some v5 := by first | rfl | assumption) (n11 : s_nth f8 1 = some (vi z10) := by first | rfl | assumption) (c12 : In3 z10 := by first | omega | assumption | (simp only [mk_len, List.length_map]; omega) | decide) : wr P d sw_c53 sw_h53 (10, [r0, r1], [], h, kc, ks) Q := by
  refine w_ld rfl rfl (Or.inr (Or.inr ⟨by decide, y1⟩)) ?_
  subst e_q2
  refine w_getf rfl g4 n6 ?_
  subst e_q7
  refine w_getf rfl g9 n11 ?_
  exact w_if1 rfl c12 k1 k2

theorem k53_20 {P : s_P} {d : Nat} {Q : s_O → Prop} {h : s_H} {kc ks : Nat} {r0 r1 : Term}  (k : Q (.inr 1, h, kc + 1, ks + 6))   : wr P d sw_c53 sw_h53 (20, [r0, r1], [], h, kc, ks) Q := by
  exact w_throw rfl (s_wt_4 rfl) k

theorem k53_28 {P : s_P} {d : Nat} {Q : s_O → Prop} {h : s_H} {kc ks : Nat} {r0 r1 : Term}  (k : Q (.inl none, h, kc, ks))   : wr P d sw_c53 sw_h53 (28, [r0, r1], [], h, kc, ks) Q := by
  exact w_ret rfl k

/-! 54: FormulaWorks.needRoom()V -/
theorem k54_0 {P : s_P} {d : Nat} {Q : s_O → Prop} {h : s_H} {kc ks : Nat} {r0 : Term} {q2 : Nat} {f3 : List Term} {z5 : Int} (g4 : s_get h q2 = some (1, 10, f3)) (k1 : z5 < 150 → wr P d sw_c54 sw_h54 (18, [.index q2], [], h, kc, ks) Q) (k2 : ¬ z5 < 150 → wr P d sw_c54 sw_h54 (10, [.index q2], [], h, kc, ks) Q) (e_q2 : r0 = .index q2 := by first | rfl | assumption) (y1 : s_ty r0 = 3 := by first | rfl | assumption) (n6 : s_nth f3 1 = some (vi z5) := by first | rfl | assumption) (c7 : In3 z5 := by first | omega | assumption | (simp only [mk_len, List.length_map]; omega) | decide) : wr P d sw_c54 sw_h54 (0, [r0], [], h, kc, ks) Q := by
  refine w_ld rfl rfl (Or.inr (Or.inr ⟨by decide, y1⟩)) ?_
  subst e_q2
  refine w_getf rfl g4 n6 ?_
  refine w_c32 rfl (by decide) 150 (by decide) ?_
  exact w_if2 rfl c7 (by decide) k1 k2

theorem k54_10 {P : s_P} {d : Nat} {Q : s_O → Prop} {h : s_H} {kc ks : Nat} {r0 : Term}  (k : Q (.inr 0, h, kc + 1, ks + 6))   : wr P d sw_c54 sw_h54 (10, [r0], [], h, kc, ks) Q := by
  exact w_throw rfl (s_wt_4 rfl) k

theorem k54_18 {P : s_P} {d : Nat} {Q : s_O → Prop} {h : s_H} {kc ks : Nat} {r0 : Term}  (k : Q (.inl none, h, kc, ks))   : wr P d sw_c54 sw_h54 (18, [r0], [], h, kc, ks) Q := by
  exact w_ret rfl k

/-! 55: FormulaWorks.needRule(LFormulaWorks$Thing;)V -/
theorem k55_0 {P : s_P} {d : Nat} {Q : s_O → Prop} {h : s_H} {kc ks : Nat} {r0 : Term} {q2 : Nat} {f3 : List Term} {z5 : Int} (g4 : s_get h q2 = some (1, 8, f3)) (k1 : z5 ≠ 2 → wr P d sw_c55 sw_h55 (16, [.index q2], [], h, kc, ks) Q) (k2 : ¬ z5 ≠ 2 → wr P d sw_c55 sw_h55 (8, [.index q2], [], h, kc, ks) Q) (e_q2 : r0 = .index q2 := by first | rfl | assumption) (y1 : s_ty r0 = 3 := by first | rfl | assumption) (n6 : s_nth f3 0 = some (vi z5) := by first | rfl | assumption) (c7 : In3 z5 := by first | omega | assumption | (simp only [mk_len, List.length_map]; omega) | decide) : wr P d sw_c55 sw_h55 (0, [r0], [], h, kc, ks) Q := by
  refine w_ld rfl rfl (Or.inr (Or.inr ⟨by decide, y1⟩)) ?_
  subst e_q2
  refine w_getf rfl g4 n6 ?_
  refine w_c32 rfl (by decide) 2 (by decide) ?_
  exact w_if2 rfl c7 (by decide) k1 k2

theorem k55_8 {P : s_P} {d : Nat} {Q : s_O → Prop} {h : s_H} {kc ks : Nat} {r0 : Term} {q2 : Nat} {f3 : List Term} {z5 : Int} (g4 : s_get h q2 = some (1, 8, f3)) (k1 : z5 = 1 → wr P d sw_c55 sw_h55 (24, [.index q2], [], h, kc, ks) Q) (k2 : ¬ z5 = 1 → wr P d sw_c55 sw_h55 (16, [.index q2], [], h, kc, ks) Q) (e_q2 : r0 = .index q2 := by first | rfl | assumption) (y1 : s_ty r0 = 3 := by first | rfl | assumption) (n6 : s_nth f3 3 = some (vi z5) := by first | rfl | assumption) (c7 : In3 z5 := by first | omega | assumption | (simp only [mk_len, List.length_map]; omega) | decide) : wr P d sw_c55 sw_h55 (8, [r0], [], h, kc, ks) Q := by
  refine w_ld rfl rfl (Or.inr (Or.inr ⟨by decide, y1⟩)) ?_
  subst e_q2
  refine w_getf rfl g4 n6 ?_
  refine w_c32 rfl (by decide) 1 (by decide) ?_
  exact w_if2 rfl c7 (by decide) k1 k2

theorem k55_16 {P : s_P} {d : Nat} {Q : s_O → Prop} {h : s_H} {kc ks : Nat} {r0 : Term}  (k : Q (.inr 1, h, kc + 1, ks + 6))   : wr P d sw_c55 sw_h55 (16, [r0], [], h, kc, ks) Q := by
  exact w_throw rfl (s_wt_4 rfl) k

theorem k55_24 {P : s_P} {d : Nat} {Q : s_O → Prop} {h : s_H} {kc ks : Nat} {r0 : Term} {q2 : Nat} {f3 : List Term} {z5 : Int} (g4 : s_get h q2 = some (1, 8, f3)) (k : wm P d 265 [.index q2, vi 0, vi (z5 - 1)] h (wq P d sw_c55 sw_h55 35 [.index q2] [] kc ks Q)) (e_q2 : r0 = .index q2 := by first | rfl | assumption) (y1 : s_ty r0 = 3 := by first | rfl | assumption) (n6 : s_nth f3 4 = some (vi z5) := by first | rfl | assumption)  : wr P d sw_c55 sw_h55 (24, [r0], [], h, kc, ks) Q := by
  refine w_ld rfl rfl (Or.inr (Or.inr ⟨by decide, y1⟩)) ?_
  refine w_c32 rfl (by decide) 0 (by decide) ?_
  refine w_ld rfl rfl (Or.inr (Or.inr ⟨by decide, y1⟩)) ?_
  subst e_q2
  refine w_getf rfl g4 n6 ?_
  refine w_c32 rfl (by decide) 1 (by decide) ?_
  refine w_isub rfl ?_
  exact w_cv rfl [.index q2, vi 0, vi (z5 - 1)] [] rfl rfl (s_wt_4 rfl) rfl g4 k

theorem k55_35 {P : s_P} {d : Nat} {Q : s_O → Prop} {h : s_H} {kc ks : Nat} {r0 s0 : Term} {q1 : Nat} {f2 : List Term} {z4 : Int} (g3 : s_get h q1 = some (1, 4, f2)) (k1 : 0 ≤ z4 → wr P d sw_c55 sw_h55 (49, [r0], [], h, kc, ks) Q) (k2 : ¬ 0 ≤ z4 → wr P d sw_c55 sw_h55 (41, [r0], [], h, kc, ks) Q) (e_q1 : s0 = .index q1 := by first | rfl | assumption) (n5 : s_nth f2 1 = some (vi z4) := by first | rfl | assumption) (c6 : In3 z4 := by first | omega | assumption | (simp only [mk_len, List.length_map]; omega) | decide) : wr P d sw_c55 sw_h55 (35, [r0], [s0], h, kc, ks) Q := by
  subst e_q1
  refine w_getf rfl g3 n5 ?_
  exact w_if1 rfl c6 k1 k2

theorem k55_41 {P : s_P} {d : Nat} {Q : s_O → Prop} {h : s_H} {kc ks : Nat} {r0 : Term}  (k : Q (.inr 1, h, kc + 1, ks + 6))   : wr P d sw_c55 sw_h55 (41, [r0], [], h, kc, ks) Q := by
  exact w_throw rfl (s_wt_4 rfl) k

theorem k55_49 {P : s_P} {d : Nat} {Q : s_O → Prop} {h : s_H} {kc ks : Nat} {r0 : Term}  (k : Q (.inl none, h, kc, ks))   : wr P d sw_c55 sw_h55 (49, [r0], [], h, kc, ks) Q := by
  exact w_ret rfl k

/-! 56: FormulaWorks.needSquare(LFormulaWorks$Thing;)V -/
theorem k56_0 {P : s_P} {d : Nat} {Q : s_O → Prop} {h : s_H} {kc ks : Nat} {r0 : Term} {q2 : Nat} {f3 : List Term} {z5 z7 : Int} (g4 : s_get h q2 = some (1, 8, f3)) (k1 : z5 = z7 → wr P d sw_c56 sw_h56 (19, [.index q2], [], h, kc, ks) Q) (k2 : ¬ z5 = z7 → wr P d sw_c56 sw_h56 (11, [.index q2], [], h, kc, ks) Q) (e_q2 : r0 = .index q2 := by first | rfl | assumption) (y1 : s_ty r0 = 3 := by first | rfl | assumption) (n6 : s_nth f3 3 = some (vi z5) := by first | rfl | assumption) (n8 : s_nth f3 4 = some (vi z7) := by first | rfl | assumption) (c9 : In3 z5 := by first | omega | assumption | (simp only [mk_len, List.length_map]; omega) | decide) (c10 : In3 z7 := by first | omega | assumption | (simp only [mk_len, List.length_map]; omega) | decide) : wr P d sw_c56 sw_h56 (0, [r0], [], h, kc, ks) Q := by
  refine w_ld rfl rfl (Or.inr (Or.inr ⟨by decide, y1⟩)) ?_
  subst e_q2
  refine w_getf rfl g4 n6 ?_
  refine w_ld rfl rfl (Or.inr (Or.inr ⟨by decide, rfl⟩)) ?_
  refine w_getf rfl g4 n8 ?_
  exact w_if2 rfl c9 c10 k1 k2

theorem k56_11 {P : s_P} {d : Nat} {Q : s_O → Prop} {h : s_H} {kc ks : Nat} {r0 : Term}  (k : Q (.inr 1, h, kc + 1, ks + 6))   : wr P d sw_c56 sw_h56 (11, [r0], [], h, kc, ks) Q := by
  exact w_throw rfl (s_wt_4 rfl) k

theorem k56_19 {P : s_P} {d : Nat} {Q : s_O → Prop} {h : s_H} {kc ks : Nat} {r0 : Term}  (k : Q (.inl none, h, kc, ks))   : wr P d sw_c56 sw_h56 (19, [r0], [], h, kc, ks) Q := by
  exact w_ret rfl k

/-! 57: FormulaWorks.needTerms(LFormulaWorks$Thing;I)V -/
theorem k57_0 {P : s_P} {d : Nat} {Q : s_O → Prop} {h : s_H} {kc ks : Nat} {r0 : Term} {x1 : Int} {q2 : Nat} {f3 : List Term} {v5 : Term} {q7 : Nat} {f8 : List Term} {z10 : Int} (g4 : s_get h q2 = some (1, 8, f3)) (g9 : s_get h q7 = some (1, 4, f8)) (k1 : z10 < 0 → wr P d sw_c57 sw_h57 (20, [.index q2, vi x1], [], h, kc, ks) Q) (k2 : ¬ z10 < 0 → wr P d sw_c57 sw_h57 (10, [.index q2, vi x1], [], h, kc, ks) Q) (e_q2 : r0 = .index q2 := by first | rfl | assumption) (e_q7 : v5 = .index q7 := by first | rfl | assumption) (y1 : s_ty r0 = 3 := by first | rfl | assumption) (n6 : s_nth f3 1 = some v5 := by first | rfl | assumption) (n11 : s_nth f8 1 = some (vi z10) := by first | rfl | assumption) (c12 : In3 z10 := by first | omega | assumption | (simp only [mk_len, List.length_map]; omega) | decide) : wr P d sw_c57 sw_h57 (0, [r0, vi x1], [], h, kc, ks) Q := by
  refine w_ld rfl rfl (Or.inr (Or.inr ⟨by decide, y1⟩)) ?_
  subst e_q2
  refine w_getf rfl g4 n6 ?_
  subst e_q7
  refine w_getf rfl g9 n11 ?_
  exact w_if1 rfl c12 k1 k2

theorem k57_10 {P : s_P} {d : Nat} {Q : s_O → Prop} {h : s_H} {kc ks : Nat} {r0 : Term} {x1 : Int}  (k1 : x1 < 0 → wr P d sw_c57 sw_h57 (20, [r0, vi x1], [], h, kc, ks) Q) (k2 : ¬ x1 < 0 → wr P d sw_c57 sw_h57 (14, [r0, vi x1], [], h, kc, ks) Q)  (c1 : In3 x1 := by first | omega | assumption | (simp only [mk_len, List.length_map]; omega) | decide) : wr P d sw_c57 sw_h57 (10, [r0, vi x1], [], h, kc, ks) Q := by
  refine w_ld rfl rfl (Or.inl ⟨by decide, rfl⟩) ?_
  exact w_if1 rfl c1 k1 k2

theorem k57_14 {P : s_P} {d : Nat} {Q : s_O → Prop} {h : s_H} {kc ks : Nat} {r0 : Term} {x1 : Int}  (k1 : x1 ≤ 60 → wr P d sw_c57 sw_h57 (28, [r0, vi x1], [], h, kc, ks) Q) (k2 : ¬ x1 ≤ 60 → wr P d sw_c57 sw_h57 (20, [r0, vi x1], [], h, kc, ks) Q)  (c1 : In3 x1 := by first | omega | assumption | (simp only [mk_len, List.length_map]; omega) | decide) : wr P d sw_c57 sw_h57 (14, [r0, vi x1], [], h, kc, ks) Q := by
  refine w_ld rfl rfl (Or.inl ⟨by decide, rfl⟩) ?_
  refine w_c32 rfl (by decide) 60 (by decide) ?_
  exact w_if2 rfl c1 (by decide) k1 k2

theorem k57_20 {P : s_P} {d : Nat} {Q : s_O → Prop} {h : s_H} {kc ks : Nat} {r0 : Term} {x1 : Int}  (k : Q (.inr 1, h, kc + 1, ks + 6))   : wr P d sw_c57 sw_h57 (20, [r0, vi x1], [], h, kc, ks) Q := by
  exact w_throw rfl (s_wt_4 rfl) k

theorem k57_28 {P : s_P} {d : Nat} {Q : s_O → Prop} {h : s_H} {kc ks : Nat} {r0 : Term} {x1 : Int}  (k : Q (.inl none, h, kc, ks))   : wr P d sw_c57 sw_h57 (28, [r0, vi x1], [], h, kc, ks) Q := by
  exact w_ret rfl k

/-! 58: FormulaWorks.needWhole(LFormulaWorks$Thing;)V -/
theorem k58_0 {P : s_P} {d : Nat} {Q : s_O → Prop} {h : s_H} {kc ks : Nat} {r0 : Term} {q2 : Nat} {f3 : List Term} {z5 : Int} (g4 : s_get h q2 = some (1, 8, f3)) (k1 : z5 ≠ 0 → wr P d sw_c58 sw_h58 (14, [.index q2], [], h, kc, ks) Q) (k2 : ¬ z5 ≠ 0 → wr P d sw_c58 sw_h58 (7, [.index q2], [], h, kc, ks) Q) (e_q2 : r0 = .index q2 := by first | rfl | assumption) (y1 : s_ty r0 = 3 := by first | rfl | assumption) (n6 : s_nth f3 0 = some (vi z5) := by first | rfl | assumption) (c7 : In3 z5 := by first | omega | assumption | (simp only [mk_len, List.length_map]; omega) | decide) : wr P d sw_c58 sw_h58 (0, [r0], [], h, kc, ks) Q := by
  refine w_ld rfl rfl (Or.inr (Or.inr ⟨by decide, y1⟩)) ?_
  subst e_q2
  refine w_getf rfl g4 n6 ?_
  exact w_if1 rfl c7 k1 k2

theorem k58_7 {P : s_P} {d : Nat} {Q : s_O → Prop} {h : s_H} {kc ks : Nat} {r0 : Term} {q2 : Nat} {f3 : List Term} (g4 : s_get h q2 = some (1, 8, f3)) (k : wm P d 267 [.index q2] h (wq P d sw_c58 sw_h58 11 [.index q2] [] kc ks Q)) (e_q2 : r0 = .index q2 := by first | rfl | assumption) (y1 : s_ty r0 = 3 := by first | rfl | assumption)  : wr P d sw_c58 sw_h58 (7, [r0], [], h, kc, ks) Q := by
  refine w_ld rfl rfl (Or.inr (Or.inr ⟨by decide, y1⟩)) ?_
  subst e_q2
  exact w_cv rfl [.index q2] [] rfl rfl (s_wt_4 rfl) rfl g4 k

theorem k58_11 {P : s_P} {d : Nat} {Q : s_O → Prop} {h : s_H} {kc ks : Nat} {r0 : Term} {s0 : Int}  (k1 : s0 ≠ 0 → wr P d sw_c58 sw_h58 (22, [r0], [], h, kc, ks) Q) (k2 : ¬ s0 ≠ 0 → wr P d sw_c58 sw_h58 (14, [r0], [], h, kc, ks) Q)  (c1 : In3 s0 := by first | omega | assumption | (simp only [mk_len, List.length_map]; omega) | decide) : wr P d sw_c58 sw_h58 (11, [r0], [vi s0], h, kc, ks) Q := by
  exact w_if1 rfl c1 k1 k2

theorem k58_14 {P : s_P} {d : Nat} {Q : s_O → Prop} {h : s_H} {kc ks : Nat} {r0 : Term}  (k : Q (.inr 1, h, kc + 1, ks + 6))   : wr P d sw_c58 sw_h58 (14, [r0], [], h, kc, ks) Q := by
  exact w_throw rfl (s_wt_4 rfl) k

theorem k58_22 {P : s_P} {d : Nat} {Q : s_O → Prop} {h : s_H} {kc ks : Nat} {r0 : Term}  (k : Q (.inl none, h, kc, ks))   : wr P d sw_c58 sw_h58 (22, [r0], [], h, kc, ks) Q := by
  exact w_ret rfl k

/-! 59: FormulaWorks.needZeroOrOne(I)V -/
theorem k59_0 {P : s_P} {d : Nat} {Q : s_O → Prop} {h : s_H} {kc ks : Nat} {x0 : Int}  (k1 : x0 = 0 → wr P d sw_c59 sw_h59 (17, [vi x0], [], h, kc, ks) Q) (k2 : ¬ x0 = 0 → wr P d sw_c59 sw_h59 (4, [vi x0], [], h, kc, ks) Q)  (c1 : In3 x0 := by first | omega | assumption | (simp only [mk_len, List.length_map]; omega) | decide) : wr P d sw_c59 sw_h59 (0, [vi x0], [], h, kc, ks) Q := by
  refine w_ld rfl rfl (Or.inl ⟨by decide, rfl⟩) ?_
  exact w_if1 rfl c1 k1 k2

theorem k59_4 {P : s_P} {d : Nat} {Q : s_O → Prop} {h : s_H} {kc ks : Nat} {x0 : Int}  (k1 : x0 = 1 → wr P d sw_c59 sw_h59 (17, [vi x0], [], h, kc, ks) Q) (k2 : ¬ x0 = 1 → wr P d sw_c59 sw_h59 (9, [vi x0], [], h, kc, ks) Q)  (c1 : In3 x0 := by first | omega | assumption | (simp only [mk_len, List.length_map]; omega) | decide) : wr P d sw_c59 sw_h59 (4, [vi x0], [], h, kc, ks) Q := by
  refine w_ld rfl rfl (Or.inl ⟨by decide, rfl⟩) ?_
  refine w_c32 rfl (by decide) 1 (by decide) ?_
  exact w_if2 rfl c1 (by decide) k1 k2

theorem k59_9 {P : s_P} {d : Nat} {Q : s_O → Prop} {h : s_H} {kc ks : Nat} {x0 : Int}  (k : Q (.inr 1, h, kc + 1, ks + 6))   : wr P d sw_c59 sw_h59 (9, [vi x0], [], h, kc, ks) Q := by
  exact w_throw rfl (s_wt_4 rfl) k

theorem k59_17 {P : s_P} {d : Nat} {Q : s_O → Prop} {h : s_H} {kc ks : Nat} {x0 : Int}  (k : Q (.inl none, h, kc, ks))   : wr P d sw_c59 sw_h59 (17, [vi x0], [], h, kc, ks) Q := by
  exact w_ret rfl k

/-! 60: FormulaWorks.node(III)I -/
theorem k60_0 {P : s_P} {d : Nat} {Q : s_O → Prop} {h : s_H} {kc ks : Nat} {r0 : Term} {x1 x2 x3 : Int} {t4 : Term} {q2 : Nat} {f3 : List Term} (g4 : s_get h q2 = some (1, 10, f3)) (k : wm P d 64 [.index q2, vi x1, vi 3] h (wq P d sw_c60 sw_h60 6 [.index q2, vi x1, vi x2, vi x3, t4] [] kc ks Q)) (e_q2 : r0 = .index q2 := by first | rfl | assumption) (y1 : s_ty r0 = 3 := by first | rfl | assumption)  : wr P d sw_c60 sw_h60 (0, [r0, vi x1, vi x2, vi x3, t4], [], h, kc, ks) Q := by
  refine w_ld rfl rfl (Or.inr (Or.inr ⟨by decide, y1⟩)) ?_
  refine w_ld rfl rfl (Or.inl ⟨by decide, rfl⟩) ?_
  refine w_c32 rfl (by decide) 3 (by decide) ?_
  subst e_q2
  exact w_cv rfl [.index q2, vi x1, vi 3] [] rfl rfl (s_wt_4 rfl) rfl g4 k

theorem k60_6 {P : s_P} {d : Nat} {Q : s_O → Prop} {h : s_H} {kc ks : Nat} {r0 : Term} {x1 x2 x3 : Int} {t4 s0 : Term} {q2 : Nat} {f3 : List Term} {v5 : Term} {q7 : Nat} {a8 : List Term} {tg10 : Nat} (g4 : s_get h q2 = some (1, 8, f3)) (g9 : s_get h q7 = some (0, tg10, a8)) (k : wm P d 51 [vi x2, vi (a8.length : Int)] h (wq P d sw_c60 sw_h60 18 [r0, vi x1, vi x2, vi x3, .index q2] [] kc ks Q)) (e_q2 : s0 = .index q2 := by first | rfl | assumption) (e_q7 : v5 = .index q7 := by first | rfl | assumption) (y1 : s_ty s0 = 3 := by first | rfl | assumption) (n6 : s_nth f3 6 = some v5 := by first | rfl | assumption)  : wr P d sw_c60 sw_h60 (6, [r0, vi x1, vi x2, vi x3, t4], [s0], h, kc, ks) Q := by
  refine w_st (ls' := [r0, vi x1, vi x2, vi x3, s0]) rfl (Or.inr ⟨by decide, y1⟩) rfl ?_
  refine w_ld rfl rfl (Or.inl ⟨by decide, rfl⟩) ?_
  refine w_ld rfl rfl (Or.inr (Or.inr ⟨by decide, y1⟩)) ?_
  subst e_q2
  refine w_getf rfl g4 n6 ?_
  subst e_q7
  refine w_alen rfl g9 (Or.inl rfl) ?_
  exact w_cs rfl [vi x2, vi (a8.length : Int)] [] rfl rfl (s_wt_4 rfl) k

theorem k60_18 {P : s_P} {d : Nat} {Q : s_O → Prop} {h : s_H} {kc ks : Nat} {r0 : Term} {x1 x2 x3 : Int} {r4 : Term}  (k1 : x3 < 0 → wr P d sw_c60 sw_h60 (27, [r0, vi x1, vi x2, vi x3, r4], [], h, kc, ks) Q) (k2 : ¬ x3 < 0 → wr P d sw_c60 sw_h60 (22, [r0, vi x1, vi x2, vi x3, r4], [], h, kc, ks) Q)  (c1 : In3 x3 := by first | omega | assumption | (simp only [mk_len, List.length_map]; omega) | decide) : wr P d sw_c60 sw_h60 (18, [r0, vi x1, vi x2, vi x3, r4], [], h, kc, ks) Q := by
  refine w_ld rfl rfl (Or.inl ⟨by decide, rfl⟩) ?_
  exact w_if1 rfl c1 k1 k2

theorem k60_22 {P : s_P} {d : Nat} {Q : s_O → Prop} {h : s_H} {kc ks : Nat} {r0 : Term} {x1 x2 x3 : Int} {r4 : Term}  (k1 : x3 ≤ 3 → wr P d sw_c60 sw_h60 (35, [r0, vi x1, vi x2, vi x3, r4], [], h, kc, ks) Q) (k2 : ¬ x3 ≤ 3 → wr P d sw_c60 sw_h60 (27, [r0, vi x1, vi x2, vi x3, r4], [], h, kc, ks) Q)  (c1 : In3 x3 := by first | omega | assumption | (simp only [mk_len, List.length_map]; omega) | decide) : wr P d sw_c60 sw_h60 (22, [r0, vi x1, vi x2, vi x3, r4], [], h, kc, ks) Q := by
  refine w_ld rfl rfl (Or.inl ⟨by decide, rfl⟩) ?_
  refine w_c32 rfl (by decide) 3 (by decide) ?_
  exact w_if2 rfl c1 (by decide) k1 k2

theorem k60_27 {P : s_P} {d : Nat} {Q : s_O → Prop} {h : s_H} {kc ks : Nat} {r0 : Term} {x1 x2 x3 : Int} {r4 : Term}  (k : Q (.inr 1, h, kc + 1, ks + 6))   : wr P d sw_c60 sw_h60 (27, [r0, vi x1, vi x2, vi x3, r4], [], h, kc, ks) Q := by
  exact w_throw rfl (s_wt_4 rfl) k

theorem k60_35 {P : s_P} {d : Nat} {Q : s_O → Prop} {h : s_H} {kc ks : Nat} {r0 : Term} {x1 x2 x3 : Int} {r4 : Term} {q2 : Nat} {f3 : List Term} {v5 : Term} {q8 : Nat} {f9 : List Term} {v11 : Term} {q13 : Nat} {f14 : List Term} (g4 : s_get h q2 = some (1, 10, f3)) (g10 : s_get h q8 = some (1, 8, f9)) (g15 : s_get h q13 = some (1, 9, f14)) (k : wm P d 303 [.index q13, v11] h (wq P d sw_c60 sw_h60 47 [.index q2, vi x1, vi x2, vi x3, .index q8] [] kc ks Q)) (e_q2 : r0 = .index q2 := by first | rfl | assumption) (e_q8 : r4 = .index q8 := by first | rfl | assumption) (e_q13 : v5 = .index q13 := by first | rfl | assumption) (y1 : s_ty r0 = 3 := by first | rfl | assumption) (n6 : s_nth f3 12 = some v5 := by first | rfl | assumption) (y7 : s_ty r4 = 3 := by first | rfl | assumption) (n12 : s_nth f9 6 = some v11 := by first | rfl | assumption)  : wr P d sw_c60 sw_h60 (35, [r0, vi x1, vi x2, vi x3, r4], [], h, kc, ks) Q := by
  refine w_ld rfl rfl (Or.inr (Or.inr ⟨by decide, y1⟩)) ?_
  subst e_q2
  refine w_getf rfl g4 n6 ?_
  refine w_ld rfl rfl (Or.inr (Or.inr ⟨by decide, y7⟩)) ?_
  subst e_q8
  refine w_getf rfl g10 n12 ?_
  subst e_q13
  exact w_cv rfl [.index q13, v11] [] rfl rfl (s_wt_4 rfl) rfl g15 k

theorem k60_51 {P : s_P} {d : Nat} {Q : s_O → Prop} {h : s_H} {kc ks : Nat} {r0 : Term} {x1 x2 x3 : Int} {r4 : Term} {q2 : Nat} {f3 : List Term} {v5 : Term} {q7 : Nat} {f8 : List Term} (g4 : s_get h q2 = some (1, 10, f3)) (g9 : s_get h q7 = some (1, 9, f8)) (k : wm P d 318 [.index q7, vi x2] h (wq P d sw_c60 sw_h60 59 [.index q2, vi x1, vi x2, vi x3, r4] [] kc ks Q)) (e_q2 : r0 = .index q2 := by first | rfl | assumption) (e_q7 : v5 = .index q7 := by first | rfl | assumption) (y1 : s_ty r0 = 3 := by first | rfl | assumption) (n6 : s_nth f3 12 = some v5 := by first | rfl | assumption)  : wr P d sw_c60 sw_h60 (51, [r0, vi x1, vi x2, vi x3, r4], [], h, kc, ks) Q := by
  refine w_ld rfl rfl (Or.inr (Or.inr ⟨by decide, y1⟩)) ?_
  subst e_q2
  refine w_getf rfl g4 n6 ?_
  refine w_ld rfl rfl (Or.inl ⟨by decide, rfl⟩) ?_
  subst e_q7
  exact w_cv rfl [.index q7, vi x2] [] rfl rfl (s_wt_4 rfl) rfl g9 k

theorem k60_60 {P : s_P} {d : Nat} {Q : s_O → Prop} {h : s_H} {kc ks : Nat} {r0 : Term} {x1 x2 x3 : Int} {r4 : Term}  (k1 : x3 ≠ 1 → wr P d sw_c60 sw_h60 (74, [r0, vi x1, vi x2, vi x3, r4], [], h, kc, ks) Q) (k2 : ¬ x3 ≠ 1 → wr P d sw_c60 sw_h60 (65, [r0, vi x1, vi x2, vi x3, r4], [], h, kc, ks) Q)  (c1 : In3 x3 := by first | omega | assumption | (simp only [mk_len, List.length_map]; omega) | decide) : wr P d sw_c60 sw_h60 (60, [r0, vi x1, vi x2, vi x3, r4], [], h, kc, ks) Q := by
  refine w_ld rfl rfl (Or.inl ⟨by decide, rfl⟩) ?_
  refine w_c32 rfl (by decide) 1 (by decide) ?_
  exact w_if2 rfl c1 (by decide) k1 k2

theorem k60_65 {P : s_P} {d : Nat} {Q : s_O → Prop} {h : s_H} {kc ks : Nat} {r0 : Term} {x1 x2 x3 : Int} {r4 : Term} {q2 : Nat} {f3 : List Term} {v5 : Term} {q7 : Nat} {f8 : List Term} (g4 : s_get h q2 = some (1, 10, f3)) (g9 : s_get h q7 = some (1, 9, f8)) (k : wm P d 274 [.index q7, vi x2] h (wq P d sw_c60 sw_h60 73 [.index q2, vi x1, vi x2, vi x3, r4] [] kc ks Q)) (e_q2 : r0 = .index q2 := by first | rfl | assumption) (e_q7 : v5 = .index q7 := by first | rfl | assumption) (y1 : s_ty r0 = 3 := by first | rfl | assumption) (n6 : s_nth f3 12 = some v5 := by first | rfl | assumption)  : wr P d sw_c60 sw_h60 (65, [r0, vi x1, vi x2, vi x3, r4], [], h, kc, ks) Q := by
  refine w_ld rfl rfl (Or.inr (Or.inr ⟨by decide, y1⟩)) ?_
  subst e_q2
  refine w_getf rfl g4 n6 ?_
  refine w_ld rfl rfl (Or.inl ⟨by decide, rfl⟩) ?_
  subst e_q7
  exact w_cv rfl [.index q7, vi x2] [] rfl rfl (s_wt_4 rfl) rfl g9 k

theorem k60_74 {P : s_P} {d : Nat} {Q : s_O → Prop} {h : s_H} {kc ks : Nat} {r0 : Term} {x1 x2 x3 : Int} {r4 : Term}  (k1 : x3 ≠ 2 → wr P d sw_c60 sw_h60 (90, [r0, vi x1, vi x2, vi x3, r4], [], h, kc, ks) Q) (k2 : ¬ x3 ≠ 2 → wr P d sw_c60 sw_h60 (79, [r0, vi x1, vi x2, vi x3, r4], [], h, kc, ks) Q)  (c1 : In3 x3 := by first | omega | assumption | (simp only [mk_len, List.length_map]; omega) | decide) : wr P d sw_c60 sw_h60 (74, [r0, vi x1, vi x2, vi x3, r4], [], h, kc, ks) Q := by
  refine w_ld rfl rfl (Or.inl ⟨by decide, rfl⟩) ?_
  refine w_c32 rfl (by decide) 2 (by decide) ?_
  exact w_if2 rfl c1 (by decide) k1 k2

theorem k60_79 {P : s_P} {d : Nat} {Q : s_O → Prop} {h : s_H} {kc ks : Nat} {r0 : Term} {x1 x2 x3 : Int} {r4 : Term} {q2 : Nat} {f3 : List Term} {v5 : Term} {q7 : Nat} {f8 : List Term} (g4 : s_get h q2 = some (1, 10, f3)) (g9 : s_get h q7 = some (1, 9, f8)) (k : wm P d 281 [.index q7, vi x2] h (wq P d sw_c60 sw_h60 87 [.index q2, vi x1, vi x2, vi x3, r4] [] kc ks Q)) (e_q2 : r0 = .index q2 := by first | rfl | assumption) (e_q7 : v5 = .index q7 := by first | rfl | assumption) (y1 : s_ty r0 = 3 := by first | rfl | assumption) (n6 : s_nth f3 12 = some v5 := by first | rfl | assumption)  : wr P d sw_c60 sw_h60 (79, [r0, vi x1, vi x2, vi x3, r4], [], h, kc, ks) Q := by
  refine w_ld rfl rfl (Or.inr (Or.inr ⟨by decide, y1⟩)) ?_
  subst e_q2
  refine w_getf rfl g4 n6 ?_
  refine w_ld rfl rfl (Or.inl ⟨by decide, rfl⟩) ?_
  subst e_q7
  exact w_cv rfl [.index q7, vi x2] [] rfl rfl (s_wt_4 rfl) rfl g9 k

theorem k60_90 {P : s_P} {d : Nat} {Q : s_O → Prop} {h : s_H} {kc ks : Nat} {r0 : Term} {x1 x2 x3 : Int} {r4 : Term} {q2 : Nat} {f3 : List Term} {v5 : Term} {q7 : Nat} {f8 : List Term} (g4 : s_get h q2 = some (1, 10, f3)) (g9 : s_get h q7 = some (1, 9, f8)) (k : wm P d 307 [.index q7, vi x2] h (wq P d sw_c60 sw_h60 98 [.index q2, vi x1, vi x2, vi x3, r4] [] kc ks Q)) (e_q2 : r0 = .index q2 := by first | rfl | assumption) (e_q7 : v5 = .index q7 := by first | rfl | assumption) (y1 : s_ty r0 = 3 := by first | rfl | assumption) (n6 : s_nth f3 12 = some v5 := by first | rfl | assumption)  : wr P d sw_c60 sw_h60 (90, [r0, vi x1, vi x2, vi x3, r4], [], h, kc, ks) Q := by
  refine w_ld rfl rfl (Or.inr (Or.inr ⟨by decide, y1⟩)) ?_
  subst e_q2
  refine w_getf rfl g4 n6 ?_
  refine w_ld rfl rfl (Or.inl ⟨by decide, rfl⟩) ?_
  subst e_q7
  exact w_cv rfl [.index q7, vi x2] [] rfl rfl (s_wt_4 rfl) rfl g9 k

theorem k60_98 {P : s_P} {d : Nat} {Q : s_O → Prop} {h : s_H} {kc ks : Nat} {r0 : Term} {x1 x2 x3 : Int} {r4 : Term} {s0 : Int}  (k : Q (.inl (some (vi s0)), h, kc, ks))   : wr P d sw_c60 sw_h60 (98, [r0, vi x1, vi x2, vi x3, r4], [vi s0], h, kc, ks) Q := by
  exact w_iret rfl k

/-! 61: FormulaWorks.nodes(I)I -/
theorem k61_0 {P : s_P} {d : Nat} {Q : s_O → Prop} {h : s_H} {kc ks : Nat} {r0 : Term} {x1 : Int} {q2 : Nat} {f3 : List Term} (g4 : s_get h q2 = some (1, 10, f3)) (k : wm P d 64 [.index q2, vi x1, vi 3] h (wq P d sw_c61 sw_h61 6 [.index q2, vi x1] [] kc ks Q)) (e_q2 : r0 = .index q2 := by first | rfl | assumption) (y1 : s_ty r0 = 3 := by first | rfl | assumption)  : wr P d sw_c61 sw_h61 (0, [r0, vi x1], [], h, kc, ks) Q := by
  refine w_ld rfl rfl (Or.inr (Or.inr ⟨by decide, y1⟩)) ?_
  refine w_ld rfl rfl (Or.inl ⟨by decide, rfl⟩) ?_
  refine w_c32 rfl (by decide) 3 (by decide) ?_
  subst e_q2
  exact w_cv rfl [.index q2, vi x1, vi 3] [] rfl rfl (s_wt_4 rfl) rfl g4 k

theorem k61_6 {P : s_P} {d : Nat} {Q : s_O → Prop} {h : s_H} {kc ks : Nat} {r0 : Term} {x1 : Int} {s0 : Term} {q1 : Nat} {f2 : List Term} {v4 : Term} {q6 : Nat} {a7 : List Term} {tg9 : Nat} (g3 : s_get h q1 = some (1, 8, f2)) (g8 : s_get h q6 = some (0, tg9, a7)) (k : Q (.inl (some (vi (a7.length : Int))), h, kc, ks)) (e_q1 : s0 = .index q1 := by first | rfl | assumption) (e_q6 : v4 = .index q6 := by first | rfl | assumption) (n5 : s_nth f2 6 = some v4 := by first | rfl | assumption)  : wr P d sw_c61 sw_h61 (6, [r0, vi x1], [s0], h, kc, ks) Q := by
  subst e_q1
  refine w_getf rfl g3 n5 ?_
  subst e_q6
  refine w_alen rfl g8 (Or.inl rfl) ?_
  exact w_iret rfl k

/-! 62: FormulaWorks.number(J)I -/
theorem k62_0 {P : s_P} {d : Nat} {Q : s_O → Prop} {h : s_H} {kc ks : Nat} {r0 : Term} {x1 : Int} {t2 : Term} {q2 : Nat} {f3 : List Term} {v5 : Term} (g4 : s_get h q2 = some (1, 10, f3)) (k : wm P d 76 [vl x1] h (wq P d sw_c62 sw_h62 8 [.index q2, vl x1, t2] [v5] kc ks Q)) (e_q2 : r0 = .index q2 := by first | rfl | assumption) (y1 : s_ty r0 = 3 := by first | rfl | assumption) (n6 : s_nth f3 16 = some v5 := by first | rfl | assumption)  : wr P d sw_c62 sw_h62 (0, [r0, vl x1, t2], [], h, kc, ks) Q := by
  refine w_ld rfl rfl (Or.inr (Or.inr ⟨by decide, y1⟩)) ?_
  subst e_q2
  refine w_getf rfl g4 n6 ?_
  refine w_ld rfl rfl (Or.inr (Or.inl ⟨by decide, rfl⟩)) ?_
  exact w_cs rfl [vl x1] [v5] rfl rfl (s_wt_4 rfl) k

theorem k62_8 {P : s_P} {d : Nat} {Q : s_O → Prop} {h : s_H} {kc ks : Nat} {r0 : Term} {x1 : Int} {t2 s0 : Term} {s1 : Int} {q1 : Nat} {f2 : List Term} (g3 : s_get h q1 = some (1, 4, f2)) (k : wm P d 180 [.index q1, vi s1] h (wq P d sw_c62 sw_h62 11 [r0, vl x1, t2] [] kc ks Q)) (e_q1 : s0 = .index q1 := by first | rfl | assumption)  : wr P d sw_c62 sw_h62 (8, [r0, vl x1, t2], [vi s1, s0], h, kc, ks) Q := by
  subst e_q1
  exact w_cv rfl [.index q1, vi s1] [] rfl rfl (s_wt_4 rfl) rfl g3 k

theorem k62_11 {P : s_P} {d : Nat} {Q : s_O → Prop} {h : s_H} {kc ks : Nat} {r0 : Term} {x1 : Int} {t2 : Term} {q2 : Nat} {f3 : List Term} {v5 : Term} (g4 : s_get h q2 = some (1, 10, f3)) (k : wm P d 41 [.index q2, v5] h (wq P d sw_c62 sw_h62 19 [.index q2, vl x1, t2] [] kc ks Q)) (e_q2 : r0 = .index q2 := by first | rfl | assumption) (y1 : s_ty r0 = 3 := by first | rfl | assumption) (n6 : s_nth f3 16 = some v5 := by first | rfl | assumption)  : wr P d sw_c62 sw_h62 (11, [r0, vl x1, t2], [], h, kc, ks) Q := by
  refine w_ld rfl rfl (Or.inr (Or.inr ⟨by decide, y1⟩)) ?_
  refine w_ld rfl rfl (Or.inr (Or.inr ⟨by decide, y1⟩)) ?_
  subst e_q2
  refine w_getf rfl g4 n6 ?_
  exact w_cv rfl [.index q2, v5] [] rfl rfl (s_wt_4 rfl) rfl g4 k

theorem k62_19 {P : s_P} {d : Nat} {Q : s_O → Prop} {h : s_H} {kc ks : Nat} {r0 : Term} {x1 : Int} {t2 : Term} {s0 : Int}  (k : Q (.inl (some (vi s0)), h, kc, ks))   : wr P d sw_c62 sw_h62 (19, [r0, vl x1, t2], [vi s0], h, kc, ks) Q := by
  exact w_iret rfl k

/-! 63: FormulaWorks.obeys(II)Z -/
theorem k63_0 {P : s_P} {d : Nat} {Q : s_O → Prop} {h : s_H} {kc ks : Nat} {r0 : Term} {x1 x2 : Int} {t3 t4 : Term} {q2 : Nat} {f3 : List Term} (g4 : s_get h q2 = some (1, 10, f3)) (k : wm P d 93 [.index q2, vi x1] h (wq P d sw_c63 sw_h63 5 [.index q2, vi x1, vi x2, t3, t4] [] kc ks Q)) (e_q2 : r0 = .index q2 := by first | rfl | assumption) (y1 : s_ty r0 = 3 := by first | rfl | assumption)  : wr P d sw_c63 sw_h63 (0, [r0, vi x1, vi x2, t3, t4], [], h, kc, ks) Q := by
  refine w_ld rfl rfl (Or.inr (Or.inr ⟨by decide, y1⟩)) ?_
  refine w_ld rfl rfl (Or.inl ⟨by decide, rfl⟩) ?_
  subst e_q2
  exact w_cv rfl [.index q2, vi x1] [] rfl rfl (s_wt_4 rfl) rfl g4 k

theorem k63_5 {P : s_P} {d : Nat} {Q : s_O → Prop} {h : s_H} {kc ks : Nat} {r0 : Term} {x1 x2 : Int} {t3 t4 s0 : Term} {q3 : Nat} {f4 : List Term} (g5 : s_get h q3 = some (1, 10, f4)) (k : wm P d 93 [.index q3, vi x2] h (wq P d sw_c63 sw_h63 11 [.index q3, vi x1, vi x2, s0, t4] [] kc ks Q)) (e_q3 : r0 = .index q3 := by first | rfl | assumption) (y1 : s_ty s0 = 3 := by first | rfl | assumption) (y2 : s_ty r0 = 3 := by first | rfl | assumption)  : wr P d sw_c63 sw_h63 (5, [r0, vi x1, vi x2, t3, t4], [s0], h, kc, ks) Q := by
  refine w_st (ls' := [r0, vi x1, vi x2, s0, t4]) rfl (Or.inr ⟨by decide, y1⟩) rfl ?_
  refine w_ld rfl rfl (Or.inr (Or.inr ⟨by decide, y2⟩)) ?_
  refine w_ld rfl rfl (Or.inl ⟨by decide, rfl⟩) ?_
  subst e_q3
  exact w_cv rfl [.index q3, vi x2] [] rfl rfl (s_wt_4 rfl) rfl g5 k

theorem k63_11 {P : s_P} {d : Nat} {Q : s_O → Prop} {h : s_H} {kc ks : Nat} {r0 : Term} {x1 x2 : Int} {r3 t4 s0 : Term}  (k : wm P d 55 [r3] h (wq P d sw_c63 sw_h63 17 [r0, vi x1, vi x2, r3, s0] [] kc ks Q)) (y1 : s_ty r3 = 3 := by first | rfl | assumption) (y2 : s_ty s0 = 3 := by first | rfl | assumption)  : wr P d sw_c63 sw_h63 (11, [r0, vi x1, vi x2, r3, t4], [s0], h, kc, ks) Q := by
  refine w_st (ls' := [r0, vi x1, vi x2, r3, s0]) rfl (Or.inr ⟨by decide, y2⟩) (s_stK_r (pre := [r0, vi x1, vi x2]) y1) ?_
  refine w_ld rfl rfl (Or.inr (Or.inr ⟨by decide, y1⟩)) ?_
  exact w_cs rfl [r3] [] rfl rfl (s_wt_4 rfl) k

theorem k63_17 {P : s_P} {d : Nat} {Q : s_O → Prop} {h : s_H} {kc ks : Nat} {r0 : Term} {x1 x2 : Int} {r3 r4 : Term}  (k : wm P d 52 [r4, vi 1] h (wq P d sw_c63 sw_h63 23 [r0, vi x1, vi x2, r3, r4] [] kc ks Q)) (y1 : s_ty r4 = 3 := by first | rfl | assumption)  : wr P d sw_c63 sw_h63 (17, [r0, vi x1, vi x2, r3, r4], [], h, kc, ks) Q := by
  refine w_ld rfl rfl (Or.inr (Or.inr ⟨by decide, y1⟩)) ?_
  refine w_c32 rfl (by decide) 1 (by decide) ?_
  exact w_cs rfl [r4, vi 1] [] rfl rfl (s_wt_4 rfl) k

theorem k63_23 {P : s_P} {d : Nat} {Q : s_O → Prop} {h : s_H} {kc ks : Nat} {r0 : Term} {x1 x2 : Int} {r3 r4 : Term} {q3 : Nat} {f4 : List Term} {v6 : Term} (g5 : s_get h q3 = some (1, 8, f4)) (k : wm P d 239 [r3, v6] h (wq P d sw_c63 sw_h63 32 [r0, vi x1, vi x2, r3, .index q3] [] kc ks Q)) (e_q3 : r4 = .index q3 := by first | rfl | assumption) (y1 : s_ty r3 = 3 := by first | rfl | assumption) (y2 : s_ty r4 = 3 := by first | rfl | assumption) (n7 : s_nth f4 6 = some v6 := by first | rfl | assumption)  : wr P d sw_c63 sw_h63 (23, [r0, vi x1, vi x2, r3, r4], [], h, kc, ks) Q := by
  refine w_ld rfl rfl (Or.inr (Or.inr ⟨by decide, y1⟩)) ?_
  refine w_ld rfl rfl (Or.inr (Or.inr ⟨by decide, y2⟩)) ?_
  subst e_q3
  refine w_getf rfl g5 n7 ?_
  exact w_cs rfl [r3, v6] [] rfl rfl (s_wt_4 rfl) k

theorem k63_32 {P : s_P} {d : Nat} {Q : s_O → Prop} {h : s_H} {kc ks : Nat} {r0 : Term} {x1 x2 : Int} {r3 r4 : Term} {s0 : Int}  (k : Q (.inl (some (vi s0)), h, kc, ks))  (c1 : s0 = 0 ∨ s0 = 1 := by first | omega | assumption | (simp only [mk_len, List.length_map]; omega) | decide) : wr P d sw_c63 sw_h63 (32, [r0, vi x1, vi x2, r3, r4], [vi s0], h, kc, ks) Q := by
  exact w_zret rfl c1 k

/-! 64: FormulaWorks.ofKind(II)LFormulaWorks$Thing; -/
theorem k64_0 {P : s_P} {d : Nat} {Q : s_O → Prop} {h : s_H} {kc ks : Nat} {r0 : Term} {x1 x2 : Int} {t3 : Term} {q2 : Nat} {f3 : List Term} (g4 : s_get h q2 = some (1, 10, f3)) (k : wm P d 93 [.index q2, vi x1] h (wq P d sw_c64 sw_h64 5 [.index q2, vi x1, vi x2, t3] [] kc ks Q)) (e_q2 : r0 = .index q2 := by first | rfl | assumption) (y1 : s_ty r0 = 3 := by first | rfl | assumption)  : wr P d sw_c64 sw_h64 (0, [r0, vi x1, vi x2, t3], [], h, kc, ks) Q := by
  refine w_ld rfl rfl (Or.inr (Or.inr ⟨by decide, y1⟩)) ?_
  refine w_ld rfl rfl (Or.inl ⟨by decide, rfl⟩) ?_
  subst e_q2
  exact w_cv rfl [.index q2, vi x1] [] rfl rfl (s_wt_4 rfl) rfl g4 k

theorem k64_5 {P : s_P} {d : Nat} {Q : s_O → Prop} {h : s_H} {kc ks : Nat} {r0 : Term} {x1 x2 : Int} {t3 s0 : Term}  (k : wm P d 52 [s0, vi x2] h (wq P d sw_c64 sw_h64 11 [r0, vi x1, vi x2, s0] [] kc ks Q)) (y1 : s_ty s0 = 3 := by first | rfl | assumption)  : wr P d sw_c64 sw_h64 (5, [r0, vi x1, vi x2, t3], [s0], h, kc, ks) Q := by
  refine w_st (ls' := [r0, vi x1, vi x2, s0]) rfl (Or.inr ⟨by decide, y1⟩) rfl ?_
  refine w_ld rfl rfl (Or.inr (Or.inr ⟨by decide, y1⟩)) ?_
  refine w_ld rfl rfl (Or.inl ⟨by decide, rfl⟩) ?_
  exact w_cs rfl [s0, vi x2] [] rfl rfl (s_wt_4 rfl) k

theorem k64_11 {P : s_P} {d : Nat} {Q : s_O → Prop} {h : s_H} {kc ks : Nat} {r0 : Term} {x1 x2 : Int} {r3 : Term}  (k : Q (.inl (some r3), h, kc, ks)) (y1 : s_ty r3 = 3 := by first | rfl | assumption)  : wr P d sw_c64 sw_h64 (11, [r0, vi x1, vi x2, r3], [], h, kc, ks) Q := by
  refine w_ld rfl rfl (Or.inr (Or.inr ⟨by decide, y1⟩)) ?_
  exact w_aret rfl y1 k

/-! 65: FormulaWorks.often(II)I -/
theorem k65_0 {P : s_P} {d : Nat} {Q : s_O → Prop} {h : s_H} {kc ks : Nat} {r0 : Term} {x1 x2 : Int} {q2 : Nat} {f3 : List Term} {v5 : Term} (g4 : s_get h q2 = some (1, 10, f3)) (k : wm P d 64 [.index q2, vi x1, vi 0] h (wq P d sw_c65 sw_h65 10 [.index q2, vi x1, vi x2] [v5] kc ks Q)) (e_q2 : r0 = .index q2 := by first | rfl | assumption) (y1 : s_ty r0 = 3 := by first | rfl | assumption) (n6 : s_nth f3 9 = some v5 := by first | rfl | assumption)  : wr P d sw_c65 sw_h65 (0, [r0, vi x1, vi x2], [], h, kc, ks) Q := by
  refine w_ld rfl rfl (Or.inr (Or.inr ⟨by decide, y1⟩)) ?_
  subst e_q2
  refine w_getf rfl g4 n6 ?_
  refine w_ld rfl rfl (Or.inr (Or.inr ⟨by decide, rfl⟩)) ?_
  refine w_ld rfl rfl (Or.inl ⟨by decide, rfl⟩) ?_
  refine w_c32 rfl (by decide) 0 (by decide) ?_
  exact w_cv rfl [.index q2, vi x1, vi 0] [v5] rfl rfl (s_wt_4 rfl) rfl g4 k

theorem k65_10 {P : s_P} {d : Nat} {Q : s_O → Prop} {h : s_H} {kc ks : Nat} {r0 : Term} {x1 x2 : Int} {s0 s1 : Term} {q1 : Nat} {f2 : List Term} (g3 : s_get h q1 = some (1, 8, f2)) (k : wm P d 266 [.index q1] h (wq P d sw_c65 sw_h65 13 [r0, vi x1, vi x2] [s0] kc ks Q)) (e_q1 : s1 = .index q1 := by first | rfl | assumption)  : wr P d sw_c65 sw_h65 (10, [r0, vi x1, vi x2], [s1, s0], h, kc, ks) Q := by
  subst e_q1
  exact w_cv rfl [.index q1] [s0] rfl rfl (s_wt_4 rfl) rfl g3 k

theorem k65_13 {P : s_P} {d : Nat} {Q : s_O → Prop} {h : s_H} {kc ks : Nat} {r0 : Term} {x1 x2 : Int} {s0 s1 : Term} {q1 : Nat} {f2 : List Term} (g3 : s_get h q1 = some (1, 3, f2)) (k : wm P d 153 [.index q1, s1, vi 0] h (wq P d sw_c65 sw_h65 17 [r0, vi x1, vi x2] [] kc ks Q)) (e_q1 : s0 = .index q1 := by first | rfl | assumption)  : wr P d sw_c65 sw_h65 (13, [r0, vi x1, vi x2], [s1, s0], h, kc, ks) Q := by
  refine w_c32 rfl (by decide) 0 (by decide) ?_
  subst e_q1
  exact w_cv rfl [.index q1, s1, vi 0] [] rfl rfl (s_wt_4 rfl) rfl g3 k

theorem k65_17 {P : s_P} {d : Nat} {Q : s_O → Prop} {h : s_H} {kc ks : Nat} {r0 : Term} {x1 x2 : Int} {q2 : Nat} {f3 : List Term} {v5 : Term} {q7 : Nat} {f8 : List Term} {z10 : Int} (g4 : s_get h q2 = some (1, 10, f3)) (g9 : s_get h q7 = some (1, 3, f8)) (k : wm P d 51 [vi x2, vi z10] h (wq P d sw_c65 sw_h65 28 [.index q2, vi x1, vi x2] [] kc ks Q)) (e_q2 : r0 = .index q2 := by first | rfl | assumption) (e_q7 : v5 = .index q7 := by first | rfl | assumption) (y1 : s_ty r0 = 3 := by first | rfl | assumption) (n6 : s_nth f3 9 = some v5 := by first | rfl | assumption) (n11 : s_nth f8 4 = some (vi z10) := by first | rfl | assumption)  : wr P d sw_c65 sw_h65 (17, [r0, vi x1, vi x2], [], h, kc, ks) Q := by
  refine w_ld rfl rfl (Or.inl ⟨by decide, rfl⟩) ?_
  refine w_ld rfl rfl (Or.inr (Or.inr ⟨by decide, y1⟩)) ?_
  subst e_q2
  refine w_getf rfl g4 n6 ?_
  subst e_q7
  refine w_getf rfl g9 n11 ?_
  exact w_cs rfl [vi x2, vi z10] [] rfl rfl (s_wt_4 rfl) k

theorem k65_28 {P : s_P} {d : Nat} {Q : s_O → Prop} {h : s_H} {kc ks : Nat} {r0 : Term} {x1 x2 : Int} {q2 : Nat} {f3 : List Term} {v5 : Term} {q7 : Nat} {f8 : List Term} {v10 : Term} {q12 : Nat} {a13 : List Int} (g4 : s_get h q2 = some (1, 10, f3)) (g9 : s_get h q7 = some (1, 3, f8)) (g14 : s_get h q12 = some (0, 0, a13.map vi)) (k : Q (.inl (some (vi (gi a13 x2))), h, kc, ks)) (e_q2 : r0 = .index q2 := by first | rfl | assumption) (e_q7 : v5 = .index q7 := by first | rfl | assumption) (e_q12 : v10 = .index q12 := by first | rfl | assumption) (y1 : s_ty r0 = 3 := by first | rfl | assumption) (n6 : s_nth f3 9 = some v5 := by first | rfl | assumption) (n11 : s_nth f8 3 = some v10 := by first | rfl | assumption) (c15 : x2 < a13.length := by first | omega | assumption | (simp only [mk_len, List.length_map]; omega) | decide) (c16 : 0 ≤ x2 := by first | omega | assumption | (simp only [mk_len, List.length_map]; omega) | decide) (c17 : In3 x2 := by first | omega | assumption | (simp only [mk_len, List.length_map]; omega) | decide) : wr P d sw_c65 sw_h65 (28, [r0, vi x1, vi x2], [], h, kc, ks) Q := by
  refine w_ld rfl rfl (Or.inr (Or.inr ⟨by decide, y1⟩)) ?_
  subst e_q2
  refine w_getf rfl g4 n6 ?_
  subst e_q7
  refine w_getf rfl g9 n11 ?_
  refine w_ld rfl rfl (Or.inl ⟨by decide, rfl⟩) ?_
  subst e_q12
  refine w_iald rfl g14 (Or.inl rfl) c17 c16 c15 ?_
  exact w_iret rfl k

/-! 66: FormulaWorks.over(II)I -/
theorem k66_0 {P : s_P} {d : Nat} {Q : s_O → Prop} {h : s_H} {kc ks : Nat} {r0 : Term} {x1 x2 : Int} {t3 t4 : Term} {q2 : Nat} {f3 : List Term} (g4 : s_get h q2 = some (1, 10, f3)) (k : wm P d 93 [.index q2, vi x1] h (wq P d sw_c66 sw_h66 5 [.index q2, vi x1, vi x2, t3, t4] [] kc ks Q)) (e_q2 : r0 = .index q2 := by first | rfl | assumption) (y1 : s_ty r0 = 3 := by first | rfl | assumption)  : wr P d sw_c66 sw_h66 (0, [r0, vi x1, vi x2, t3, t4], [], h, kc, ks) Q := by
  refine w_ld rfl rfl (Or.inr (Or.inr ⟨by decide, y1⟩)) ?_
  refine w_ld rfl rfl (Or.inl ⟨by decide, rfl⟩) ?_
  subst e_q2
  exact w_cv rfl [.index q2, vi x1] [] rfl rfl (s_wt_4 rfl) rfl g4 k

theorem k66_5 {P : s_P} {d : Nat} {Q : s_O → Prop} {h : s_H} {kc ks : Nat} {r0 : Term} {x1 x2 : Int} {t3 t4 s0 : Term} {q3 : Nat} {f4 : List Term} (g5 : s_get h q3 = some (1, 10, f4)) (k : wm P d 93 [.index q3, vi x2] h (wq P d sw_c66 sw_h66 11 [.index q3, vi x1, vi x2, s0, t4] [] kc ks Q)) (e_q3 : r0 = .index q3 := by first | rfl | assumption) (y1 : s_ty s0 = 3 := by first | rfl | assumption) (y2 : s_ty r0 = 3 := by first | rfl | assumption)  : wr P d sw_c66 sw_h66 (5, [r0, vi x1, vi x2, t3, t4], [s0], h, kc, ks) Q := by
  refine w_st (ls' := [r0, vi x1, vi x2, s0, t4]) rfl (Or.inr ⟨by decide, y1⟩) rfl ?_
  refine w_ld rfl rfl (Or.inr (Or.inr ⟨by decide, y2⟩)) ?_
  refine w_ld rfl rfl (Or.inl ⟨by decide, rfl⟩) ?_
  subst e_q3
  exact w_cv rfl [.index q3, vi x2] [] rfl rfl (s_wt_4 rfl) rfl g5 k

theorem k66_11 {P : s_P} {d : Nat} {Q : s_O → Prop} {h : s_H} {kc ks : Nat} {r0 : Term} {x1 x2 : Int} {r3 t4 s0 : Term} {q3 : Nat} {f4 : List Term} {z6 : Int} (g5 : s_get h q3 = some (1, 8, f4)) (k1 : z6 ≠ 2 → wr P d sw_c66 sw_h66 (29, [r0, vi x1, vi x2, .index q3, s0], [], h, kc, ks) Q) (k2 : ¬ z6 ≠ 2 → wr P d sw_c66 sw_h66 (21, [r0, vi x1, vi x2, .index q3, s0], [], h, kc, ks) Q) (e_q3 : r3 = .index q3 := by first | rfl | assumption) (y1 : s_ty r3 = 3 := by first | rfl | assumption) (y2 : s_ty s0 = 3 := by first | rfl | assumption) (n7 : s_nth f4 0 = some (vi z6) := by first | rfl | assumption) (c8 : In3 z6 := by first | omega | assumption | (simp only [mk_len, List.length_map]; omega) | decide) : wr P d sw_c66 sw_h66 (11, [r0, vi x1, vi x2, r3, t4], [s0], h, kc, ks) Q := by
  refine w_st (ls' := [r0, vi x1, vi x2, r3, s0]) rfl (Or.inr ⟨by decide, y2⟩) (s_stK_r (pre := [r0, vi x1, vi x2]) y1) ?_
  refine w_ld rfl rfl (Or.inr (Or.inr ⟨by decide, y1⟩)) ?_
  subst e_q3
  refine w_getf rfl g5 n7 ?_
  refine w_c32 rfl (by decide) 2 (by decide) ?_
  exact w_if2 rfl c8 (by decide) k1 k2

theorem k66_21 {P : s_P} {d : Nat} {Q : s_O → Prop} {h : s_H} {kc ks : Nat} {r0 : Term} {x1 x2 : Int} {r3 r4 : Term}  (k : Q (.inr 1, h, kc + 1, ks + 6))   : wr P d sw_c66 sw_h66 (21, [r0, vi x1, vi x2, r3, r4], [], h, kc, ks) Q := by
  exact w_throw rfl (s_wt_4 rfl) k

theorem k66_29 {P : s_P} {d : Nat} {Q : s_O → Prop} {h : s_H} {kc ks : Nat} {r0 : Term} {x1 x2 : Int} {r3 r4 : Term} {q4 : Nat} {f5 : List Term} (g6 : s_get h q4 = some (1, 10, f5)) (k : wm P d 32 [.index q4, vi 47, r3, r4] h (wq P d sw_c66 sw_h66 38 [.index q4, vi x1, vi x2, r3, r4] [] kc ks Q)) (e_q4 : r0 = .index q4 := by first | rfl | assumption) (y1 : s_ty r0 = 3 := by first | rfl | assumption) (y2 : s_ty r3 = 3 := by first | rfl | assumption) (y3 : s_ty r4 = 3 := by first | rfl | assumption)  : wr P d sw_c66 sw_h66 (29, [r0, vi x1, vi x2, r3, r4], [], h, kc, ks) Q := by
  refine w_ld rfl rfl (Or.inr (Or.inr ⟨by decide, y1⟩)) ?_
  refine w_c32 rfl (by decide) 47 (by decide) ?_
  refine w_ld rfl rfl (Or.inr (Or.inr ⟨by decide, y2⟩)) ?_
  refine w_ld rfl rfl (Or.inr (Or.inr ⟨by decide, y3⟩)) ?_
  subst e_q4
  exact w_cv rfl [.index q4, vi 47, r3, r4] [] rfl rfl (s_wt_4 rfl) rfl g6 k

theorem k66_38 {P : s_P} {d : Nat} {Q : s_O → Prop} {h : s_H} {kc ks : Nat} {r0 : Term} {x1 x2 : Int} {r3 r4 : Term} {s0 : Int}  (k : Q (.inl (some (vi s0)), h, kc, ks))   : wr P d sw_c66 sw_h66 (38, [r0, vi x1, vi x2, r3, r4], [vi s0], h, kc, ks) Q := by
  exact w_iret rfl k

/-! 67: FormulaWorks.own(I)I -/
theorem k67_0 {P : s_P} {d : Nat} {Q : s_O → Prop} {h : s_H} {kc ks : Nat} {r0 : Term} {x1 : Int} {t2 : Term} {q2 : Nat} {f3 : List Term} (g4 : s_get h q2 = some (1, 10, f3)) (k : wm P d 64 [.index q2, vi x1, vi 2] h (wq P d sw_c67 sw_h67 6 [.index q2, vi x1, t2] [] kc ks Q)) (e_q2 : r0 = .index q2 := by first | rfl | assumption) (y1 : s_ty r0 = 3 := by first | rfl | assumption)  : wr P d sw_c67 sw_h67 (0, [r0, vi x1, t2], [], h, kc, ks) Q := by
  refine w_ld rfl rfl (Or.inr (Or.inr ⟨by decide, y1⟩)) ?_
  refine w_ld rfl rfl (Or.inl ⟨by decide, rfl⟩) ?_
  refine w_c32 rfl (by decide) 2 (by decide) ?_
  subst e_q2
  exact w_cv rfl [.index q2, vi x1, vi 2] [] rfl rfl (s_wt_4 rfl) rfl g4 k

theorem k67_6 {P : s_P} {d : Nat} {Q : s_O → Prop} {h : s_H} {kc ks : Nat} {r0 : Term} {x1 : Int} {t2 s0 : Term}  (k : wm P d 56 [s0] h (wq P d sw_c67 sw_h67 11 [r0, vi x1, s0] [] kc ks Q)) (y1 : s_ty s0 = 3 := by first | rfl | assumption)  : wr P d sw_c67 sw_h67 (6, [r0, vi x1, t2], [s0], h, kc, ks) Q := by
  refine w_st (ls' := [r0, vi x1, s0]) rfl (Or.inr ⟨by decide, y1⟩) rfl ?_
  refine w_ld rfl rfl (Or.inr (Or.inr ⟨by decide, y1⟩)) ?_
  exact w_cs rfl [s0] [] rfl rfl (s_wt_4 rfl) k

theorem k67_11 {P : s_P} {d : Nat} {Q : s_O → Prop} {h : s_H} {kc ks : Nat} {r0 : Term} {x1 : Int} {r2 : Term} {q2 : Nat} {f3 : List Term} {v5 : Term} {q8 : Nat} {f9 : List Term} (g4 : s_get h q2 = some (1, 10, f3)) (g10 : s_get h q8 = some (1, 2, f9)) (k : wm P d 142 [.index q8, r2] h (wq P d sw_c67 sw_h67 20 [.index q2, vi x1, r2] [.index q2] kc ks Q)) (e_q2 : r0 = .index q2 := by first | rfl | assumption) (e_q8 : v5 = .index q8 := by first | rfl | assumption) (y1 : s_ty r0 = 3 := by first | rfl | assumption) (n6 : s_nth f3 10 = some v5 := by first | rfl | assumption) (y7 : s_ty r2 = 3 := by first | rfl | assumption)  : wr P d sw_c67 sw_h67 (11, [r0, vi x1, r2], [], h, kc, ks) Q := by
  refine w_ld rfl rfl (Or.inr (Or.inr ⟨by decide, y1⟩)) ?_
  refine w_ld rfl rfl (Or.inr (Or.inr ⟨by decide, y1⟩)) ?_
  subst e_q2
  refine w_getf rfl g4 n6 ?_
  refine w_ld rfl rfl (Or.inr (Or.inr ⟨by decide, y7⟩)) ?_
  subst e_q8
  exact w_cv rfl [.index q8, r2] [.index q2] rfl rfl (s_wt_4 rfl) rfl g10 k

theorem k67_20 {P : s_P} {d : Nat} {Q : s_O → Prop} {h : s_H} {kc ks : Nat} {r0 : Term} {x1 : Int} {r2 s0 s1 : Term} {q1 : Nat} {f2 : List Term} (g3 : s_get h q1 = some (1, 10, f2)) (k : wm P d 38 [.index q1, s1] h (wq P d sw_c67 sw_h67 23 [r0, vi x1, r2] [] kc ks Q)) (e_q1 : s0 = .index q1 := by first | rfl | assumption)  : wr P d sw_c67 sw_h67 (20, [r0, vi x1, r2], [s1, s0], h, kc, ks) Q := by
  subst e_q1
  exact w_cv rfl [.index q1, s1] [] rfl rfl (s_wt_4 rfl) rfl g3 k

theorem k67_23 {P : s_P} {d : Nat} {Q : s_O → Prop} {h : s_H} {kc ks : Nat} {r0 : Term} {x1 : Int} {r2 : Term} {s0 : Int}  (k : Q (.inl (some (vi s0)), h, kc, ks))   : wr P d sw_c67 sw_h67 (23, [r0, vi x1, r2], [vi s0], h, kc, ks) Q := by
  exact w_iret rfl k

/-! 68: FormulaWorks.part(III)I -/
theorem k68_0 {P : s_P} {d : Nat} {Q : s_O → Prop} {h : s_H} {kc ks : Nat} {r0 : Term} {x1 x2 x3 : Int} {t4 : Term} {q2 : Nat} {f3 : List Term} (g4 : s_get h q2 = some (1, 10, f3)) (k : wm P d 64 [.index q2, vi x1, vi 0] h (wq P d sw_c68 sw_h68 6 [.index q2, vi x1, vi x2, vi x3, t4] [] kc ks Q)) (e_q2 : r0 = .index q2 := by first | rfl | assumption) (y1 : s_ty r0 = 3 := by first | rfl | assumption)  : wr P d sw_c68 sw_h68 (0, [r0, vi x1, vi x2, vi x3, t4], [], h, kc, ks) Q := by
  refine w_ld rfl rfl (Or.inr (Or.inr ⟨by decide, y1⟩)) ?_
  refine w_ld rfl rfl (Or.inl ⟨by decide, rfl⟩) ?_
  refine w_c32 rfl (by decide) 0 (by decide) ?_
  subst e_q2
  exact w_cv rfl [.index q2, vi x1, vi 0] [] rfl rfl (s_wt_4 rfl) rfl g4 k

theorem k68_6 {P : s_P} {d : Nat} {Q : s_O → Prop} {h : s_H} {kc ks : Nat} {r0 : Term} {x1 x2 x3 : Int} {t4 s0 : Term} {q2 : Nat} {f3 : List Term} (g4 : s_get h q2 = some (1, 8, f3)) (k : wm P d 267 [.index q2] h (wq P d sw_c68 sw_h68 13 [r0, vi x1, vi x2, vi x3, .index q2] [] kc ks Q)) (e_q2 : s0 = .index q2 := by first | rfl | assumption) (y1 : s_ty s0 = 3 := by first | rfl | assumption)  : wr P d sw_c68 sw_h68 (6, [r0, vi x1, vi x2, vi x3, t4], [s0], h, kc, ks) Q := by
  refine w_st (ls' := [r0, vi x1, vi x2, vi x3, s0]) rfl (Or.inr ⟨by decide, y1⟩) rfl ?_
  refine w_ld rfl rfl (Or.inr (Or.inr ⟨by decide, y1⟩)) ?_
  subst e_q2
  exact w_cv rfl [.index q2] [] rfl rfl (s_wt_4 rfl) rfl g4 k

theorem k68_13 {P : s_P} {d : Nat} {Q : s_O → Prop} {h : s_H} {kc ks : Nat} {r0 : Term} {x1 x2 x3 : Int} {r4 : Term} {s0 : Int}  (k1 : s0 = 0 → wr P d sw_c68 sw_h68 (24, [r0, vi x1, vi x2, vi x3, r4], [], h, kc, ks) Q) (k2 : ¬ s0 = 0 → wr P d sw_c68 sw_h68 (16, [r0, vi x1, vi x2, vi x3, r4], [], h, kc, ks) Q)  (c1 : In3 s0 := by first | omega | assumption | (simp only [mk_len, List.length_map]; omega) | decide) : wr P d sw_c68 sw_h68 (13, [r0, vi x1, vi x2, vi x3, r4], [vi s0], h, kc, ks) Q := by
  exact w_if1 rfl c1 k1 k2

theorem k68_16 {P : s_P} {d : Nat} {Q : s_O → Prop} {h : s_H} {kc ks : Nat} {r0 : Term} {x1 x2 x3 : Int} {r4 : Term}  (k : Q (.inr 3, h, kc + 1, ks + 6))   : wr P d sw_c68 sw_h68 (16, [r0, vi x1, vi x2, vi x3, r4], [], h, kc, ks) Q := by
  exact w_throw rfl (s_wt_4 rfl) k

theorem k68_24 {P : s_P} {d : Nat} {Q : s_O → Prop} {h : s_H} {kc ks : Nat} {r0 : Term} {x1 x2 x3 : Int} {r4 : Term} {q2 : Nat} {f3 : List Term} {v5 : Term} {q8 : Nat} {f9 : List Term} (g4 : s_get h q2 = some (1, 10, f3)) (g10 : s_get h q8 = some (1, 8, f9)) (k : wm P d 266 [.index q8] h (wq P d sw_c68 sw_h68 33 [.index q2, vi x1, vi x2, vi x3, .index q8] [v5] kc ks Q)) (e_q2 : r0 = .index q2 := by first | rfl | assumption) (e_q8 : r4 = .index q8 := by first | rfl | assumption) (y1 : s_ty r0 = 3 := by first | rfl | assumption) (n6 : s_nth f3 9 = some v5 := by first | rfl | assumption) (y7 : s_ty r4 = 3 := by first | rfl | assumption)  : wr P d sw_c68 sw_h68 (24, [r0, vi x1, vi x2, vi x3, r4], [], h, kc, ks) Q := by
  refine w_ld rfl rfl (Or.inr (Or.inr ⟨by decide, y1⟩)) ?_
  subst e_q2
  refine w_getf rfl g4 n6 ?_
  refine w_ld rfl rfl (Or.inr (Or.inr ⟨by decide, y7⟩)) ?_
  subst e_q8
  exact w_cv rfl [.index q8] [v5] rfl rfl (s_wt_4 rfl) rfl g10 k

theorem k68_33 {P : s_P} {d : Nat} {Q : s_O → Prop} {h : s_H} {kc ks : Nat} {r0 : Term} {x1 x2 x3 : Int} {r4 s0 s1 : Term} {q1 : Nat} {f2 : List Term} (g3 : s_get h q1 = some (1, 3, f2)) (k : wm P d 153 [.index q1, s1, vi 0] h (wq P d sw_c68 sw_h68 37 [r0, vi x1, vi x2, vi x3, r4] [] kc ks Q)) (e_q1 : s0 = .index q1 := by first | rfl | assumption)  : wr P d sw_c68 sw_h68 (33, [r0, vi x1, vi x2, vi x3, r4], [s1, s0], h, kc, ks) Q := by
  refine w_c32 rfl (by decide) 0 (by decide) ?_
  subst e_q1
  exact w_cv rfl [.index q1, s1, vi 0] [] rfl rfl (s_wt_4 rfl) rfl g3 k

theorem k68_37 {P : s_P} {d : Nat} {Q : s_O → Prop} {h : s_H} {kc ks : Nat} {r0 : Term} {x1 x2 x3 : Int} {r4 : Term} {q2 : Nat} {f3 : List Term} {v5 : Term} {q7 : Nat} {f8 : List Term} {z10 : Int} (g4 : s_get h q2 = some (1, 10, f3)) (g9 : s_get h q7 = some (1, 3, f8)) (k : wm P d 51 [vi x2, vi z10] h (wq P d sw_c68 sw_h68 48 [.index q2, vi x1, vi x2, vi x3, r4] [] kc ks Q)) (e_q2 : r0 = .index q2 := by first | rfl | assumption) (e_q7 : v5 = .index q7 := by first | rfl | assumption) (y1 : s_ty r0 = 3 := by first | rfl | assumption) (n6 : s_nth f3 9 = some v5 := by first | rfl | assumption) (n11 : s_nth f8 4 = some (vi z10) := by first | rfl | assumption)  : wr P d sw_c68 sw_h68 (37, [r0, vi x1, vi x2, vi x3, r4], [], h, kc, ks) Q := by
  refine w_ld rfl rfl (Or.inl ⟨by decide, rfl⟩) ?_
  refine w_ld rfl rfl (Or.inr (Or.inr ⟨by decide, y1⟩)) ?_
  subst e_q2
  refine w_getf rfl g4 n6 ?_
  subst e_q7
  refine w_getf rfl g9 n11 ?_
  exact w_cs rfl [vi x2, vi z10] [] rfl rfl (s_wt_4 rfl) k

theorem k68_48 {P : s_P} {d : Nat} {Q : s_O → Prop} {h : s_H} {kc ks : Nat} {r0 : Term} {x1 x2 x3 : Int} {r4 : Term}  (k1 : x3 < 1 → wr P d sw_c68 sw_h68 (66, [r0, vi x1, vi x2, vi x3, r4], [], h, kc, ks) Q) (k2 : ¬ x3 < 1 → wr P d sw_c68 sw_h68 (53, [r0, vi x1, vi x2, vi x3, r4], [], h, kc, ks) Q)  (c1 : In3 x3 := by first | omega | assumption | (simp only [mk_len, List.length_map]; omega) | decide) : wr P d sw_c68 sw_h68 (48, [r0, vi x1, vi x2, vi x3, r4], [], h, kc, ks) Q := by
  refine w_ld rfl rfl (Or.inl ⟨by decide, rfl⟩) ?_
  refine w_c32 rfl (by decide) 1 (by decide) ?_
  exact w_if2 rfl c1 (by decide) k1 k2

theorem k68_53 {P : s_P} {d : Nat} {Q : s_O → Prop} {h : s_H} {kc ks : Nat} {r0 : Term} {x1 x2 x3 : Int} {r4 : Term} {q2 : Nat} {f3 : List Term} {v5 : Term} {q7 : Nat} {f8 : List Term} {v10 : Term} {q12 : Nat} {a13 : List Int} (g4 : s_get h q2 = some (1, 10, f3)) (g9 : s_get h q7 = some (1, 3, f8)) (g14 : s_get h q12 = some (0, 0, a13.map vi)) (k1 : x3 ≤ gi a13 x2 → wr P d sw_c68 sw_h68 (74, [.index q2, vi x1, vi x2, vi x3, r4], [], h, kc, ks) Q) (k2 : ¬ x3 ≤ gi a13 x2 → wr P d sw_c68 sw_h68 (66, [.index q2, vi x1, vi x2, vi x3, r4], [], h, kc, ks) Q) (e_q2 : r0 = .index q2 := by first | rfl | assumption) (e_q7 : v5 = .index q7 := by first | rfl | assumption) (e_q12 : v10 = .index q12 := by first | rfl | assumption) (y1 : s_ty r0 = 3 := by first | rfl | assumption) (n6 : s_nth f3 9 = some v5 := by first | rfl | assumption) (n11 : s_nth f8 3 = some v10 := by first | rfl | assumption) (c15 : x2 < a13.length := by first | omega | assumption | (simp only [mk_len, List.length_map]; omega) | decide) (c16 : 0 ≤ x2 := by first | omega | assumption | (simp only [mk_len, List.length_map]; omega) | decide) (c17 : In3 x2 := by first | omega | assumption | (simp only [mk_len, List.length_map]; omega) | decide) (c18 : In3 x3 := by first | omega | assumption | (simp only [mk_len, List.length_map]; omega) | decide) (c19 : In3 (gi a13 x2) := by first | omega | assumption | (simp only [mk_len, List.length_map]; omega) | decide) : wr P d sw_c68 sw_h68 (53, [r0, vi x1, vi x2, vi x3, r4], [], h, kc, ks) Q := by
  refine w_ld rfl rfl (Or.inl ⟨by decide, rfl⟩) ?_
  refine w_ld rfl rfl (Or.inr (Or.inr ⟨by decide, y1⟩)) ?_
  subst e_q2
  refine w_getf rfl g4 n6 ?_
  subst e_q7
  refine w_getf rfl g9 n11 ?_
  refine w_ld rfl rfl (Or.inl ⟨by decide, rfl⟩) ?_
  subst e_q12
  refine w_iald rfl g14 (Or.inl rfl) c17 c16 c15 ?_
  exact w_if2 rfl c18 c19 k1 k2

theorem k68_66 {P : s_P} {d : Nat} {Q : s_O → Prop} {h : s_H} {kc ks : Nat} {r0 : Term} {x1 x2 x3 : Int} {r4 : Term}  (k : Q (.inr 3, h, kc + 1, ks + 6))   : wr P d sw_c68 sw_h68 (66, [r0, vi x1, vi x2, vi x3, r4], [], h, kc, ks) Q := by
  exact w_throw rfl (s_wt_4 rfl) k

theorem k68_74 {P : s_P} {d : Nat} {Q : s_O → Prop} {h : s_H} {kc ks : Nat} {r0 : Term} {x1 x2 x3 : Int} {r4 : Term} {q2 : Nat} {f3 : List Term} {v5 v8 : Term} {q10 : Nat} {f11 : List Term} (g4 : s_get h q2 = some (1, 10, f3)) (g12 : s_get h q10 = some (1, 3, f11)) (k : wm P d 160 [.index q10, r4, vi x2, vi x3, v8] h (wq P d sw_c68 sw_h68 89 [.index q2, vi x1, vi x2, vi x3, r4] [] kc ks Q)) (e_q2 : r0 = .index q2 := by first | rfl | assumption) (e_q10 : v5 = .index q10 := by first | rfl | assumption) (y1 : s_ty r0 = 3 := by first | rfl | assumption) (n6 : s_nth f3 9 = some v5 := by first | rfl | assumption) (y7 : s_ty r4 = 3 := by first | rfl | assumption) (n9 : s_nth f3 16 = some v8 := by first | rfl | assumption)  : wr P d sw_c68 sw_h68 (74, [r0, vi x1, vi x2, vi x3, r4], [], h, kc, ks) Q := by
  refine w_ld rfl rfl (Or.inr (Or.inr ⟨by decide, y1⟩)) ?_
  subst e_q2
  refine w_getf rfl g4 n6 ?_
  refine w_ld rfl rfl (Or.inr (Or.inr ⟨by decide, y7⟩)) ?_
  refine w_ld rfl rfl (Or.inl ⟨by decide, rfl⟩) ?_
  refine w_ld rfl rfl (Or.inl ⟨by decide, rfl⟩) ?_
  refine w_ld rfl rfl (Or.inr (Or.inr ⟨by decide, rfl⟩)) ?_
  refine w_getf rfl g4 n9 ?_
  subst e_q10
  exact w_cv rfl [.index q10, r4, vi x2, vi x3, v8] [] rfl rfl (s_wt_4 rfl) rfl g12 k

theorem k68_89 {P : s_P} {d : Nat} {Q : s_O → Prop} {h : s_H} {kc ks : Nat} {r0 : Term} {x1 x2 x3 : Int} {r4 : Term} {q2 : Nat} {f3 : List Term} {v5 : Term} (g4 : s_get h q2 = some (1, 10, f3)) (k : wm P d 41 [.index q2, v5] h (wq P d sw_c68 sw_h68 97 [.index q2, vi x1, vi x2, vi x3, r4] [] kc ks Q)) (e_q2 : r0 = .index q2 := by first | rfl | assumption) (y1 : s_ty r0 = 3 := by first | rfl | assumption) (n6 : s_nth f3 16 = some v5 := by first | rfl | assumption)  : wr P d sw_c68 sw_h68 (89, [r0, vi x1, vi x2, vi x3, r4], [], h, kc, ks) Q := by
  refine w_ld rfl rfl (Or.inr (Or.inr ⟨by decide, y1⟩)) ?_
  refine w_ld rfl rfl (Or.inr (Or.inr ⟨by decide, y1⟩)) ?_
  subst e_q2
  refine w_getf rfl g4 n6 ?_
  exact w_cv rfl [.index q2, v5] [] rfl rfl (s_wt_4 rfl) rfl g4 k

theorem k68_97 {P : s_P} {d : Nat} {Q : s_O → Prop} {h : s_H} {kc ks : Nat} {r0 : Term} {x1 x2 x3 : Int} {r4 : Term} {s0 : Int}  (k : Q (.inl (some (vi s0)), h, kc, ks))   : wr P d sw_c68 sw_h68 (97, [r0, vi x1, vi x2, vi x3, r4], [vi s0], h, kc, ks) Q := by
  exact w_iret rfl k

/-! 69: FormulaWorks.power(II)I -/
theorem k69_0 {P : s_P} {d : Nat} {Q : s_O → Prop} {h : s_H} {kc ks : Nat} {r0 : Term} {x1 x2 : Int} {t3 : Term} {q2 : Nat} {f3 : List Term} (g4 : s_get h q2 = some (1, 10, f3)) (k : wm P d 64 [.index q2, vi x1, vi 0] h (wq P d sw_c69 sw_h69 6 [.index q2, vi x1, vi x2, t3] [] kc ks Q)) (e_q2 : r0 = .index q2 := by first | rfl | assumption) (y1 : s_ty r0 = 3 := by first | rfl | assumption)  : wr P d sw_c69 sw_h69 (0, [r0, vi x1, vi x2, t3], [], h, kc, ks) Q := by
  refine w_ld rfl rfl (Or.inr (Or.inr ⟨by decide, y1⟩)) ?_
  refine w_ld rfl rfl (Or.inl ⟨by decide, rfl⟩) ?_
  refine w_c32 rfl (by decide) 0 (by decide) ?_
  subst e_q2
  exact w_cv rfl [.index q2, vi x1, vi 0] [] rfl rfl (s_wt_4 rfl) rfl g4 k

theorem k69_6 {P : s_P} {d : Nat} {Q : s_O → Prop} {h : s_H} {kc ks : Nat} {r0 : Term} {x1 x2 : Int} {t3 s0 : Term}  (k1 : x2 < 0 → wr P d sw_c69 sw_h69 (17, [r0, vi x1, vi x2, s0], [], h, kc, ks) Q) (k2 : ¬ x2 < 0 → wr P d sw_c69 sw_h69 (11, [r0, vi x1, vi x2, s0], [], h, kc, ks) Q) (y1 : s_ty s0 = 3 := by first | rfl | assumption) (c2 : In3 x2 := by first | omega | assumption | (simp only [mk_len, List.length_map]; omega) | decide) : wr P d sw_c69 sw_h69 (6, [r0, vi x1, vi x2, t3], [s0], h, kc, ks) Q := by
  refine w_st (ls' := [r0, vi x1, vi x2, s0]) rfl (Or.inr ⟨by decide, y1⟩) rfl ?_
  refine w_ld rfl rfl (Or.inl ⟨by decide, rfl⟩) ?_
  exact w_if1 rfl c2 k1 k2

theorem k69_11 {P : s_P} {d : Nat} {Q : s_O → Prop} {h : s_H} {kc ks : Nat} {r0 : Term} {x1 x2 : Int} {r3 : Term}  (k1 : x2 ≤ 99 → wr P d sw_c69 sw_h69 (25, [r0, vi x1, vi x2, r3], [], h, kc, ks) Q) (k2 : ¬ x2 ≤ 99 → wr P d sw_c69 sw_h69 (17, [r0, vi x1, vi x2, r3], [], h, kc, ks) Q)  (c1 : In3 x2 := by first | omega | assumption | (simp only [mk_len, List.length_map]; omega) | decide) : wr P d sw_c69 sw_h69 (11, [r0, vi x1, vi x2, r3], [], h, kc, ks) Q := by
  refine w_ld rfl rfl (Or.inl ⟨by decide, rfl⟩) ?_
  refine w_c32 rfl (by decide) 99 (by decide) ?_
  exact w_if2 rfl c1 (by decide) k1 k2

theorem k69_17 {P : s_P} {d : Nat} {Q : s_O → Prop} {h : s_H} {kc ks : Nat} {r0 : Term} {x1 x2 : Int} {r3 : Term}  (k : Q (.inr 1, h, kc + 1, ks + 6))   : wr P d sw_c69 sw_h69 (17, [r0, vi x1, vi x2, r3], [], h, kc, ks) Q := by
  exact w_throw rfl (s_wt_4 rfl) k

theorem k69_25 {P : s_P} {d : Nat} {Q : s_O → Prop} {h : s_H} {kc ks : Nat} {r0 : Term} {x1 x2 : Int} {r3 : Term} {q2 : Nat} {f3 : List Term} {v5 v8 : Term} {q10 : Nat} {f11 : List Term} (g4 : s_get h q2 = some (1, 10, f3)) (g12 : s_get h q10 = some (1, 0, f11)) (k : wm P d 112 [.index q10, r3, vi x2, v8] h (wq P d sw_c69 sw_h69 39 [.index q2, vi x1, vi x2, r3] [.index q2] kc ks Q)) (e_q2 : r0 = .index q2 := by first | rfl | assumption) (e_q10 : v5 = .index q10 := by first | rfl | assumption) (y1 : s_ty r0 = 3 := by first | rfl | assumption) (n6 : s_nth f3 8 = some v5 := by first | rfl | assumption) (y7 : s_ty r3 = 3 := by first | rfl | assumption) (n9 : s_nth f3 17 = some v8 := by first | rfl | assumption)  : wr P d sw_c69 sw_h69 (25, [r0, vi x1, vi x2, r3], [], h, kc, ks) Q := by
  refine w_ld rfl rfl (Or.inr (Or.inr ⟨by decide, y1⟩)) ?_
  refine w_ld rfl rfl (Or.inr (Or.inr ⟨by decide, y1⟩)) ?_
  subst e_q2
  refine w_getf rfl g4 n6 ?_
  refine w_ld rfl rfl (Or.inr (Or.inr ⟨by decide, y7⟩)) ?_
  refine w_ld rfl rfl (Or.inl ⟨by decide, rfl⟩) ?_
  refine w_ld rfl rfl (Or.inr (Or.inr ⟨by decide, rfl⟩)) ?_
  refine w_getf rfl g4 n9 ?_
  subst e_q10
  exact w_cv rfl [.index q10, r3, vi x2, v8] [.index q2] rfl rfl (s_wt_4 rfl) rfl g12 k

theorem k69_39 {P : s_P} {d : Nat} {Q : s_O → Prop} {h : s_H} {kc ks : Nat} {r0 : Term} {x1 x2 : Int} {r3 s0 s1 : Term} {q1 : Nat} {f2 : List Term} (g3 : s_get h q1 = some (1, 10, f2)) (k : wm P d 37 [.index q1, s1] h (wq P d sw_c69 sw_h69 42 [r0, vi x1, vi x2, r3] [] kc ks Q)) (e_q1 : s0 = .index q1 := by first | rfl | assumption)  : wr P d sw_c69 sw_h69 (39, [r0, vi x1, vi x2, r3], [s1, s0], h, kc, ks) Q := by
  subst e_q1
  exact w_cv rfl [.index q1, s1] [] rfl rfl (s_wt_4 rfl) rfl g3 k

theorem k69_42 {P : s_P} {d : Nat} {Q : s_O → Prop} {h : s_H} {kc ks : Nat} {r0 : Term} {x1 x2 : Int} {r3 : Term} {s0 : Int}  (k : Q (.inl (some (vi s0)), h, kc, ks))   : wr P d sw_c69 sw_h69 (42, [r0, vi x1, vi x2, r3], [vi s0], h, kc, ks) Q := by
  exact w_iret rfl k

/-! 70: FormulaWorks.printed(I)I -/
theorem k70_0 {P : s_P} {d : Nat} {Q : s_O → Prop} {h : s_H} {kc ks : Nat} {r0 : Term} {x1 : Int} {q2 : Nat} {f3 : List Term} (g4 : s_get h q2 = some (1, 10, f3)) (k : wm P d 93 [.index q2, vi x1] h (wq P d sw_c70 sw_h70 6 [.index q2, vi x1] [.index q2] kc ks Q)) (e_q2 : r0 = .index q2 := by first | rfl | assumption) (y1 : s_ty r0 = 3 := by first | rfl | assumption)  : wr P d sw_c70 sw_h70 (0, [r0, vi x1], [], h, kc, ks) Q := by
  refine w_ld rfl rfl (Or.inr (Or.inr ⟨by decide, y1⟩)) ?_
  refine w_ld rfl rfl (Or.inr (Or.inr ⟨by decide, y1⟩)) ?_
  refine w_ld rfl rfl (Or.inl ⟨by decide, rfl⟩) ?_
  subst e_q2
  exact w_cv rfl [.index q2, vi x1] [.index q2] rfl rfl (s_wt_4 rfl) rfl g4 k

theorem k70_6 {P : s_P} {d : Nat} {Q : s_O → Prop} {h : s_H} {kc ks : Nat} {r0 : Term} {x1 : Int} {s0 s1 : Term} {q1 : Nat} {f2 : List Term} (g3 : s_get h q1 = some (1, 10, f2)) (k : wm P d 86 [.index q1, s1] h (wq P d sw_c70 sw_h70 9 [r0, vi x1] [] kc ks Q)) (e_q1 : s0 = .index q1 := by first | rfl | assumption)  : wr P d sw_c70 sw_h70 (6, [r0, vi x1], [s1, s0], h, kc, ks) Q := by
  subst e_q1
  exact w_cv rfl [.index q1, s1] [] rfl rfl (s_wt_4 rfl) rfl g3 k

theorem k70_9 {P : s_P} {d : Nat} {Q : s_O → Prop} {h : s_H} {kc ks : Nat} {r0 : Term} {x1 : Int} {q2 : Nat} {f3 : List Term} {v5 : Term} {q7 : Nat} {f8 : List Term} {z10 : Int} (g4 : s_get h q2 = some (1, 10, f3)) (g9 : s_get h q7 = some (1, 9, f8)) (k : Q (.inl (some (vi z10)), h, kc, ks)) (e_q2 : r0 = .index q2 := by first | rfl | assumption) (e_q7 : v5 = .index q7 := by first | rfl | assumption) (y1 : s_ty r0 = 3 := by first | rfl | assumption) (n6 : s_nth f3 12 = some v5 := by first | rfl | assumption) (n11 : s_nth f8 8 = some (vi z10) := by first | rfl | assumption)  : wr P d sw_c70 sw_h70 (9, [r0, vi x1], [], h, kc, ks) Q := by
  refine w_ld rfl rfl (Or.inr (Or.inr ⟨by decide, y1⟩)) ?_
  subst e_q2
  refine w_getf rfl g4 n6 ?_
  subst e_q7
  refine w_getf rfl g9 n11 ?_
  exact w_iret rfl k

/-! 71: FormulaWorks.put(II)I -/
theorem k71_0 {P : s_P} {d : Nat} {Q : s_O → Prop} {h : s_H} {kc ks : Nat} {r0 : Term} {x1 x2 : Int} {t3 t4 : Term} {q2 : Nat} {f3 : List Term} (g4 : s_get h q2 = some (1, 10, f3)) (k : wm P d 93 [.index q2, vi x1] h (wq P d sw_c71 sw_h71 5 [.index q2, vi x1, vi x2, t3, t4] [] kc ks Q)) (e_q2 : r0 = .index q2 := by first | rfl | assumption) (y1 : s_ty r0 = 3 := by first | rfl | assumption)  : wr P d sw_c71 sw_h71 (0, [r0, vi x1, vi x2, t3, t4], [], h, kc, ks) Q := by
  refine w_ld rfl rfl (Or.inr (Or.inr ⟨by decide, y1⟩)) ?_
  refine w_ld rfl rfl (Or.inl ⟨by decide, rfl⟩) ?_
  subst e_q2
  exact w_cv rfl [.index q2, vi x1] [] rfl rfl (s_wt_4 rfl) rfl g4 k

theorem k71_5 {P : s_P} {d : Nat} {Q : s_O → Prop} {h : s_H} {kc ks : Nat} {r0 : Term} {x1 x2 : Int} {t3 t4 s0 : Term} {q3 : Nat} {f4 : List Term} (g5 : s_get h q3 = some (1, 10, f4)) (k : wm P d 93 [.index q3, vi x2] h (wq P d sw_c71 sw_h71 11 [.index q3, vi x1, vi x2, s0, t4] [] kc ks Q)) (e_q3 : r0 = .index q3 := by first | rfl | assumption) (y1 : s_ty s0 = 3 := by first | rfl | assumption) (y2 : s_ty r0 = 3 := by first | rfl | assumption)  : wr P d sw_c71 sw_h71 (5, [r0, vi x1, vi x2, t3, t4], [s0], h, kc, ks) Q := by
  refine w_st (ls' := [r0, vi x1, vi x2, s0, t4]) rfl (Or.inr ⟨by decide, y1⟩) rfl ?_
  refine w_ld rfl rfl (Or.inr (Or.inr ⟨by decide, y2⟩)) ?_
  refine w_ld rfl rfl (Or.inl ⟨by decide, rfl⟩) ?_
  subst e_q3
  exact w_cv rfl [.index q3, vi x2] [] rfl rfl (s_wt_4 rfl) rfl g5 k

theorem k71_11 {P : s_P} {d : Nat} {Q : s_O → Prop} {h : s_H} {kc ks : Nat} {r0 : Term} {x1 x2 : Int} {r3 t4 s0 : Term} {q3 : Nat} {f4 : List Term} {z6 : Int} (g5 : s_get h q3 = some (1, 8, f4)) (k : wm P d 52 [s0, vi z6] h (wq P d sw_c71 sw_h71 22 [r0, vi x1, vi x2, .index q3, s0] [] kc ks Q)) (e_q3 : r3 = .index q3 := by first | rfl | assumption) (y1 : s_ty r3 = 3 := by first | rfl | assumption) (y2 : s_ty s0 = 3 := by first | rfl | assumption) (n7 : s_nth f4 0 = some (vi z6) := by first | rfl | assumption)  : wr P d sw_c71 sw_h71 (11, [r0, vi x1, vi x2, r3, t4], [s0], h, kc, ks) Q := by
  refine w_st (ls' := [r0, vi x1, vi x2, r3, s0]) rfl (Or.inr ⟨by decide, y2⟩) (s_stK_r (pre := [r0, vi x1, vi x2]) y1) ?_
  refine w_ld rfl rfl (Or.inr (Or.inr ⟨by decide, y2⟩)) ?_
  refine w_ld rfl rfl (Or.inr (Or.inr ⟨by decide, y1⟩)) ?_
  subst e_q3
  refine w_getf rfl g5 n7 ?_
  exact w_cs rfl [s0, vi z6] [] rfl rfl (s_wt_4 rfl) k

theorem k71_22 {P : s_P} {d : Nat} {Q : s_O → Prop} {h : s_H} {kc ks : Nat} {r0 : Term} {x1 x2 : Int} {r3 r4 : Term} {q2 : Nat} {f3 : List Term} {z5 : Int} (g4 : s_get h q2 = some (1, 8, f3)) (k1 : z5 ≠ 1 → wr P d sw_c71 sw_h71 (65, [r0, vi x1, vi x2, .index q2, r4], [], h, kc, ks) Q) (k2 : ¬ z5 ≠ 1 → wr P d sw_c71 sw_h71 (30, [r0, vi x1, vi x2, .index q2, r4], [], h, kc, ks) Q) (e_q2 : r3 = .index q2 := by first | rfl | assumption) (y1 : s_ty r3 = 3 := by first | rfl | assumption) (n6 : s_nth f3 0 = some (vi z5) := by first | rfl | assumption) (c7 : In3 z5 := by first | omega | assumption | (simp only [mk_len, List.length_map]; omega) | decide) : wr P d sw_c71 sw_h71 (22, [r0, vi x1, vi x2, r3, r4], [], h, kc, ks) Q := by
  refine w_ld rfl rfl (Or.inr (Or.inr ⟨by decide, y1⟩)) ?_
  subst e_q2
  refine w_getf rfl g4 n6 ?_
  refine w_c32 rfl (by decide) 1 (by decide) ?_
  exact w_if2 rfl c7 (by decide) k1 k2

theorem k71_30 {P : s_P} {d : Nat} {Q : s_O → Prop} {h : s_H} {kc ks : Nat} {r0 : Term} {x1 x2 : Int} {r3 r4 : Term} {q2 : Nat} {f3 : List Term} {v5 : Term} {q7 : Nat} {a8 : List Int} (g4 : s_get h q2 = some (1, 8, f3)) (g9 : s_get h q7 = some (0, 0, a8.map vi)) (k1 : gi a8 0 = 0 → wr P d sw_c71 sw_h71 (48, [r0, vi x1, vi x2, r3, .index q2], [], h, kc, ks) Q) (k2 : ¬ gi a8 0 = 0 → wr P d sw_c71 sw_h71 (40, [r0, vi x1, vi x2, r3, .index q2], [], h, kc, ks) Q) (e_q2 : r4 = .index q2 := by first | rfl | assumption) (e_q7 : v5 = .index q7 := by first | rfl | assumption) (y1 : s_ty r4 = 3 := by first | rfl | assumption) (n6 : s_nth f3 6 = some v5 := by first | rfl | assumption) (c10 : (0 : Int) < a8.length := by first | omega | assumption | (simp only [mk_len, List.length_map]; omega) | decide) (c11 : In3 (gi a8 0) := by first | omega | assumption | (simp only [mk_len, List.length_map]; omega) | decide) : wr P d sw_c71 sw_h71 (30, [r0, vi x1, vi x2, r3, r4], [], h, kc, ks) Q := by
  refine w_ld rfl rfl (Or.inr (Or.inr ⟨by decide, y1⟩)) ?_
  subst e_q2
  refine w_getf rfl g4 n6 ?_
  refine w_c32 rfl (by decide) 0 (by decide) ?_
  subst e_q7
  refine w_iald rfl g9 (Or.inl rfl) (by decide) (by decide) c10 ?_
  exact w_if1 rfl c11 k1 k2

theorem k71_40 {P : s_P} {d : Nat} {Q : s_O → Prop} {h : s_H} {kc ks : Nat} {r0 : Term} {x1 x2 : Int} {r3 r4 : Term}  (k : Q (.inr 1, h, kc + 1, ks + 6))   : wr P d sw_c71 sw_h71 (40, [r0, vi x1, vi x2, r3, r4], [], h, kc, ks) Q := by
  exact w_throw rfl (s_wt_4 rfl) k

theorem k71_48 {P : s_P} {d : Nat} {Q : s_O → Prop} {h : s_H} {kc ks : Nat} {r0 : Term} {x1 x2 : Int} {r3 r4 : Term} {q3 : Nat} {f4 : List Term} {v6 : Term} {q9 : Nat} {f10 : List Term} {v12 : Term} (g5 : s_get h q3 = some (1, 8, f4)) (g11 : s_get h q9 = some (1, 8, f10)) (k : wm P d 233 [v6, v12] h (wq P d sw_c71 sw_h71 61 [r0, vi x1, vi x2, .index q3, .index q9] [r0] kc ks Q)) (e_q3 : r3 = .index q3 := by first | rfl | assumption) (e_q9 : r4 = .index q9 := by first | rfl | assumption) (y1 : s_ty r0 = 3 := by first | rfl | assumption) (y2 : s_ty r3 = 3 := by first | rfl | assumption) (n7 : s_nth f4 6 = some v6 := by first | rfl | assumption) (y8 : s_ty r4 = 3 := by first | rfl | assumption) (n13 : s_nth f10 6 = some v12 := by first | rfl | assumption)  : wr P d sw_c71 sw_h71 (48, [r0, vi x1, vi x2, r3, r4], [], h, kc, ks) Q := by
  refine w_ld rfl rfl (Or.inr (Or.inr ⟨by decide, y1⟩)) ?_
  refine w_ld rfl rfl (Or.inr (Or.inr ⟨by decide, y2⟩)) ?_
  subst e_q3
  refine w_getf rfl g5 n7 ?_
  refine w_ld rfl rfl (Or.inr (Or.inr ⟨by decide, y8⟩)) ?_
  subst e_q9
  refine w_getf rfl g11 n13 ?_
  exact w_cs rfl [v6, v12] [r0] rfl rfl (s_wt_4 rfl) k

theorem k71_61 {P : s_P} {d : Nat} {Q : s_O → Prop} {h : s_H} {kc ks : Nat} {r0 : Term} {x1 x2 : Int} {r3 r4 s0 s1 : Term} {q1 : Nat} {f2 : List Term} (g3 : s_get h q1 = some (1, 10, f2)) (k : wm P d 39 [.index q1, s1] h (wq P d sw_c71 sw_h71 64 [r0, vi x1, vi x2, r3, r4] [] kc ks Q)) (e_q1 : s0 = .index q1 := by first | rfl | assumption)  : wr P d sw_c71 sw_h71 (61, [r0, vi x1, vi x2, r3, r4], [s1, s0], h, kc, ks) Q := by
  subst e_q1
  exact w_cv rfl [.index q1, s1] [] rfl rfl (s_wt_4 rfl) rfl g3 k

theorem k71_64 {P : s_P} {d : Nat} {Q : s_O → Prop} {h : s_H} {kc ks : Nat} {r0 : Term} {x1 x2 : Int} {r3 r4 : Term} {s0 : Int}  (k : Q (.inl (some (vi s0)), h, kc, ks))   : wr P d sw_c71 sw_h71 (64, [r0, vi x1, vi x2, r3, r4], [vi s0], h, kc, ks) Q := by
  exact w_iret rfl k

theorem k71_65 {P : s_P} {d : Nat} {Q : s_O → Prop} {h : s_H} {kc ks : Nat} {r0 : Term} {x1 x2 : Int} {r3 r4 : Term}  (k : wm P d 52 [r3, vi 0] h (wq P d sw_c71 sw_h71 70 [r0, vi x1, vi x2, r3, r4] [] kc ks Q)) (y1 : s_ty r3 = 3 := by first | rfl | assumption)  : wr P d sw_c71 sw_h71 (65, [r0, vi x1, vi x2, r3, r4], [], h, kc, ks) Q := by
  refine w_ld rfl rfl (Or.inr (Or.inr ⟨by decide, y1⟩)) ?_
  refine w_c32 rfl (by decide) 0 (by decide) ?_
  exact w_cs rfl [r3, vi 0] [] rfl rfl (s_wt_4 rfl) k

theorem k71_70 {P : s_P} {d : Nat} {Q : s_O → Prop} {h : s_H} {kc ks : Nat} {r0 : Term} {x1 x2 : Int} {r3 r4 : Term} {q2 : Nat} {f3 : List Term} {v5 v9 : Term} {q11 : Nat} {f12 : List Term} (g4 : s_get h q2 = some (1, 10, f3)) (g13 : s_get h q11 = some (1, 0, f12)) (k : wm P d 107 [.index q11, r3, r4, v9] h (wq P d sw_c71 sw_h71 85 [.index q2, vi x1, vi x2, r3, r4] [.index q2] kc ks Q)) (e_q2 : r0 = .index q2 := by first | rfl | assumption) (e_q11 : v5 = .index q11 := by first | rfl | assumption) (y1 : s_ty r0 = 3 := by first | rfl | assumption) (n6 : s_nth f3 8 = some v5 := by first | rfl | assumption) (y7 : s_ty r3 = 3 := by first | rfl | assumption) (y8 : s_ty r4 = 3 := by first | rfl | assumption) (n10 : s_nth f3 17 = some v9 := by first | rfl | assumption)  : wr P d sw_c71 sw_h71 (70, [r0, vi x1, vi x2, r3, r4], [], h, kc, ks) Q := by
  refine w_ld rfl rfl (Or.inr (Or.inr ⟨by decide, y1⟩)) ?_
  refine w_ld rfl rfl (Or.inr (Or.inr ⟨by decide, y1⟩)) ?_
  subst e_q2
  refine w_getf rfl g4 n6 ?_
  refine w_ld rfl rfl (Or.inr (Or.inr ⟨by decide, y7⟩)) ?_
  refine w_ld rfl rfl (Or.inr (Or.inr ⟨by decide, y8⟩)) ?_
  refine w_ld rfl rfl (Or.inr (Or.inr ⟨by decide, rfl⟩)) ?_
  refine w_getf rfl g4 n10 ?_
  subst e_q11
  exact w_cv rfl [.index q11, r3, r4, v9] [.index q2] rfl rfl (s_wt_4 rfl) rfl g13 k

theorem k71_85 {P : s_P} {d : Nat} {Q : s_O → Prop} {h : s_H} {kc ks : Nat} {r0 : Term} {x1 x2 : Int} {r3 r4 s0 s1 : Term} {q1 : Nat} {f2 : List Term} (g3 : s_get h q1 = some (1, 10, f2)) (k : wm P d 37 [.index q1, s1] h (wq P d sw_c71 sw_h71 88 [r0, vi x1, vi x2, r3, r4] [] kc ks Q)) (e_q1 : s0 = .index q1 := by first | rfl | assumption)  : wr P d sw_c71 sw_h71 (85, [r0, vi x1, vi x2, r3, r4], [s1, s0], h, kc, ks) Q := by
  subst e_q1
  exact w_cv rfl [.index q1, s1] [] rfl rfl (s_wt_4 rfl) rfl g3 k

theorem k71_88 {P : s_P} {d : Nat} {Q : s_O → Prop} {h : s_H} {kc ks : Nat} {r0 : Term} {x1 x2 : Int} {r3 r4 : Term} {s0 : Int}  (k : Q (.inl (some (vi s0)), h, kc, ks))   : wr P d sw_c71 sw_h71 (88, [r0, vi x1, vi x2, r3, r4], [vi s0], h, kc, ks) Q := by
  exact w_iret rfl k

/-! 72: FormulaWorks.rank(I)I -/
theorem k72_0 {P : s_P} {d : Nat} {Q : s_O → Prop} {h : s_H} {kc ks : Nat} {r0 : Term} {x1 : Int} {q2 : Nat} {f3 : List Term} {v5 : Term} (g4 : s_get h q2 = some (1, 10, f3)) (k : wm P d 64 [.index q2, vi x1, vi 2] h (wq P d sw_c72 sw_h72 10 [.index q2, vi x1] [v5] kc ks Q)) (e_q2 : r0 = .index q2 := by first | rfl | assumption) (y1 : s_ty r0 = 3 := by first | rfl | assumption) (n6 : s_nth f3 10 = some v5 := by first | rfl | assumption)  : wr P d sw_c72 sw_h72 (0, [r0, vi x1], [], h, kc, ks) Q := by
  refine w_ld rfl rfl (Or.inr (Or.inr ⟨by decide, y1⟩)) ?_
  subst e_q2
  refine w_getf rfl g4 n6 ?_
  refine w_ld rfl rfl (Or.inr (Or.inr ⟨by decide, rfl⟩)) ?_
  refine w_ld rfl rfl (Or.inl ⟨by decide, rfl⟩) ?_
  refine w_c32 rfl (by decide) 2 (by decide) ?_
  exact w_cv rfl [.index q2, vi x1, vi 2] [v5] rfl rfl (s_wt_4 rfl) rfl g4 k

theorem k72_10 {P : s_P} {d : Nat} {Q : s_O → Prop} {h : s_H} {kc ks : Nat} {r0 : Term} {x1 : Int} {s0 s1 : Term} {q1 : Nat} {f2 : List Term} (g3 : s_get h q1 = some (1, 2, f2)) (k : wm P d 144 [.index q1, s1] h (wq P d sw_c72 sw_h72 13 [r0, vi x1] [] kc ks Q)) (e_q1 : s0 = .index q1 := by first | rfl | assumption)  : wr P d sw_c72 sw_h72 (10, [r0, vi x1], [s1, s0], h, kc, ks) Q := by
  subst e_q1
  exact w_cv rfl [.index q1, s1] [] rfl rfl (s_wt_4 rfl) rfl g3 k

theorem k72_13 {P : s_P} {d : Nat} {Q : s_O → Prop} {h : s_H} {kc ks : Nat} {r0 : Term} {x1 s0 : Int}  (k : Q (.inl (some (vi s0)), h, kc, ks))   : wr P d sw_c72 sw_h72 (13, [r0, vi x1], [vi s0], h, kc, ks) Q := by
  exact w_iret rfl k

/-! 73: FormulaWorks.read()I -/
theorem k73_0 {P : s_P} {d : Nat} {Q : s_O → Prop} {h : s_H} {kc ks : Nat} {r0 : Term} {q2 : Nat} {f3 : List Term} (g4 : s_get h q2 = some (1, 10, f3)) (k : wm P d 54 [.index q2] h (wq P d sw_c73 sw_h73 4 [.index q2] [] kc ks Q)) (e_q2 : r0 = .index q2 := by first | rfl | assumption) (y1 : s_ty r0 = 3 := by first | rfl | assumption)  : wr P d sw_c73 sw_h73 (0, [r0], [], h, kc, ks) Q := by
  refine w_ld rfl rfl (Or.inr (Or.inr ⟨by decide, y1⟩)) ?_
  subst e_q2
  exact w_cv rfl [.index q2] [] rfl rfl (s_wt_4 rfl) rfl g4 k

theorem k73_4 {P : s_P} {d : Nat} {Q : s_O → Prop} {h : s_H} {kc ks : Nat} {r0 : Term} {q2 : Nat} {f3 : List Term} {v5 v7 : Term} {z9 z11 : Int} {q13 : Nat} {f14 : List Term} (g4 : s_get h q2 = some (1, 10, f3)) (g15 : s_get h q13 = some (1, 5, f14)) (k : wm P d 192 [.index q13, v7, vi z9, vi 1, vi z11] h (wq P d sw_c73 sw_h73 24 [.index q2] [] kc ks Q)) (e_q2 : r0 = .index q2 := by first | rfl | assumption) (e_q13 : v5 = .index q13 := by first | rfl | assumption) (y1 : s_ty r0 = 3 := by first | rfl | assumption) (n6 : s_nth f3 13 = some v5 := by first | rfl | assumption) (n8 : s_nth f3 2 = some v7 := by first | rfl | assumption) (n10 : s_nth f3 3 = some (vi z9) := by first | rfl | assumption) (n12 : s_nth f3 1 = some (vi z11) := by first | rfl | assumption)  : wr P d sw_c73 sw_h73 (4, [r0], [], h, kc, ks) Q := by
  refine w_ld rfl rfl (Or.inr (Or.inr ⟨by decide, y1⟩)) ?_
  subst e_q2
  refine w_getf rfl g4 n6 ?_
  refine w_ld rfl rfl (Or.inr (Or.inr ⟨by decide, rfl⟩)) ?_
  refine w_getf rfl g4 n8 ?_
  refine w_ld rfl rfl (Or.inr (Or.inr ⟨by decide, rfl⟩)) ?_
  refine w_getf rfl g4 n10 ?_
  refine w_c32 rfl (by decide) 1 (by decide) ?_
  refine w_ld rfl rfl (Or.inr (Or.inr ⟨by decide, rfl⟩)) ?_
  refine w_getf rfl g4 n12 ?_
  subst e_q13
  exact w_cv rfl [.index q13, v7, vi z9, vi 1, vi z11] [] rfl rfl (s_wt_4 rfl) rfl g15 k

theorem k73_24 {P : s_P} {d : Nat} {Q : s_O → Prop} {h : s_H} {kc ks : Nat} {r0 : Term} {q2 : Nat} {f3 f7 : List Term} {v9 : Term} {q11 : Nat} {f12 : List Term} (g4 : s_get h q2 = some (1, 10, f3)) (g8 : s_get (hp h q2 (1, 10, f3.set 3 (vi 0))) q2 = some (1, 10, f7)) (g13 : s_get (hp h q2 (1, 10, f3.set 3 (vi 0))) q11 = some (1, 5, f12)) (k : wm P d 207 [.index q11] (hp h q2 (1, 10, f3.set 3 (vi 0))) (wq P d sw_c73 sw_h73 36 [.index q2] [] kc ks Q)) (e_q2 : r0 = .index q2 := by first | rfl | assumption) (e_q11 : v9 = .index q11 := by first | rfl | assumption) (y1 : s_ty r0 = 3 := by first | rfl | assumption) (l5 : 3 < f3.length := by first | exact Nat.le_of_ble_eq_true rfl | omega | assumption) (n10 : s_nth f7 13 = some v9 := by first | rfl | assumption) (c6 : 0 < q2 := by first | omega | assumption | (simp only [mk_len, List.length_map]; omega) | decide) : wr P d sw_c73 sw_h73 (24, [r0], [], h, kc, ks) Q := by
  refine w_ld rfl rfl (Or.inr (Or.inr ⟨by decide, y1⟩)) ?_
  refine w_c32 rfl (by decide) 0 (by decide) ?_
  subst e_q2
  refine w_putf rfl g4 (Nat.ble_eq_true_of_le c6) rfl (Nat.ble_eq_true_of_le l5) ?_
  refine w_ld rfl rfl (Or.inr (Or.inr ⟨by decide, rfl⟩)) ?_
  refine w_getf rfl g8 n10 ?_
  subst e_q11
  exact w_cv rfl [.index q11] [] rfl rfl (s_wt_4 rfl) rfl g13 k

theorem k73_36 {P : s_P} {d : Nat} {Q : s_O → Prop} {h : s_H} {kc ks : Nat} {r0 : Term} {s0 : Int} {q2 : Nat} {f3 : List Term} (g4 : s_get h q2 = some (1, 10, f3)) (k : wm P d 91 [.index q2] h (wq P d sw_c73 sw_h73 41 [.index q2] [] kc ks Q)) (e_q2 : r0 = .index q2 := by first | rfl | assumption) (y1 : s_ty r0 = 3 := by first | rfl | assumption)  : wr P d sw_c73 sw_h73 (36, [r0], [vi s0], h, kc, ks) Q := by
  refine w_pop rfl rfl ?_
  refine w_ld rfl rfl (Or.inr (Or.inr ⟨by decide, y1⟩)) ?_
  subst e_q2
  exact w_cv rfl [.index q2] [] rfl rfl (s_wt_4 rfl) rfl g4 k

theorem k73_41 {P : s_P} {d : Nat} {Q : s_O → Prop} {h : s_H} {kc ks : Nat} {r0 : Term} {q2 : Nat} {f3 : List Term} {v5 : Term} {q7 : Nat} {f8 : List Term} {v10 : Term} {q12 : Nat} {a13 : List Term} {tg15 : Nat} {v16 : Term} (g4 : s_get h q2 = some (1, 10, f3)) (g9 : s_get h q7 = some (1, 5, f8)) (g14 : s_get h q12 = some (0, tg15, a13)) (k : wm P d 37 [.index q2, v16] h (wq P d sw_c73 sw_h73 54 [.index q2] [] kc ks Q)) (e_q2 : r0 = .index q2 := by first | rfl | assumption) (e_q7 : v5 = .index q7 := by first | rfl | assumption) (e_q12 : v10 = .index q12 := by first | rfl | assumption) (y1 : s_ty r0 = 3 := by first | rfl | assumption) (n6 : s_nth f3 13 = some v5 := by first | rfl | assumption) (n11 : s_nth f8 3 = some v10 := by first | rfl | assumption) (n17 : s_nth a13 (Int.toNat (0)) = some v16 := by first | rfl | assumption) (u18 : tg15 = 2 ∨ tg15 = 3 ∨ tg15 = 4 := by first | decide | assumption)  : wr P d sw_c73 sw_h73 (41, [r0], [], h, kc, ks) Q := by
  refine w_ld rfl rfl (Or.inr (Or.inr ⟨by decide, y1⟩)) ?_
  refine w_ld rfl rfl (Or.inr (Or.inr ⟨by decide, y1⟩)) ?_
  subst e_q2
  refine w_getf rfl g4 n6 ?_
  subst e_q7
  refine w_getf rfl g9 n11 ?_
  refine w_c32 rfl (by decide) 0 (by decide) ?_
  subst e_q12
  refine w_aald rfl g14 u18 (by decide) (by decide) n17 ?_
  exact w_cv rfl [.index q2, v16] [] rfl rfl (s_wt_4 rfl) rfl g4 k

theorem k73_54 {P : s_P} {d : Nat} {Q : s_O → Prop} {h : s_H} {kc ks : Nat} {r0 : Term} {s0 : Int}  (k : Q (.inl (some (vi s0)), h, kc, ks))   : wr P d sw_c73 sw_h73 (54, [r0], [vi s0], h, kc, ks) Q := by
  exact w_iret rfl k

/-! 74: FormulaWorks.recur(I)I -/
theorem k74_0 {P : s_P} {d : Nat} {Q : s_O → Prop} {h : s_H} {kc ks : Nat} {r0 : Term} {x1 : Int} {t2 : Term} {q2 : Nat} {f3 : List Term} (g4 : s_get h q2 = some (1, 10, f3)) (k : wm P d 93 [.index q2, vi x1] h (wq P d sw_c74 sw_h74 5 [.index q2, vi x1, t2] [] kc ks Q)) (e_q2 : r0 = .index q2 := by first | rfl | assumption) (y1 : s_ty r0 = 3 := by first | rfl | assumption)  : wr P d sw_c74 sw_h74 (0, [r0, vi x1, t2], [], h, kc, ks) Q := by
  refine w_ld rfl rfl (Or.inr (Or.inr ⟨by decide, y1⟩)) ?_
  refine w_ld rfl rfl (Or.inl ⟨by decide, rfl⟩) ?_
  subst e_q2
  exact w_cv rfl [.index q2, vi x1] [] rfl rfl (s_wt_4 rfl) rfl g4 k

theorem k74_5 {P : s_P} {d : Nat} {Q : s_O → Prop} {h : s_H} {kc ks : Nat} {r0 : Term} {x1 : Int} {t2 s0 : Term}  (k : wm P d 55 [s0] h (wq P d sw_c74 sw_h74 10 [r0, vi x1, s0] [] kc ks Q)) (y1 : s_ty s0 = 3 := by first | rfl | assumption)  : wr P d sw_c74 sw_h74 (5, [r0, vi x1, t2], [s0], h, kc, ks) Q := by
  refine w_st (ls' := [r0, vi x1, s0]) rfl (Or.inr ⟨by decide, y1⟩) rfl ?_
  refine w_ld rfl rfl (Or.inr (Or.inr ⟨by decide, y1⟩)) ?_
  exact w_cs rfl [s0] [] rfl rfl (s_wt_4 rfl) k

theorem k74_10 {P : s_P} {d : Nat} {Q : s_O → Prop} {h : s_H} {kc ks : Nat} {r0 : Term} {x1 : Int} {r2 : Term} {q2 : Nat} {f3 : List Term} {v5 : Term} {q8 : Nat} {f9 : List Term} (g4 : s_get h q2 = some (1, 10, f3)) (g10 : s_get h q8 = some (1, 6, f9)) (k : wm P d 230 [.index q8, r2] h (wq P d sw_c74 sw_h74 19 [.index q2, vi x1, r2] [.index q2] kc ks Q)) (e_q2 : r0 = .index q2 := by first | rfl | assumption) (e_q8 : v5 = .index q8 := by first | rfl | assumption) (y1 : s_ty r0 = 3 := by first | rfl | assumption) (n6 : s_nth f3 11 = some v5 := by first | rfl | assumption) (y7 : s_ty r2 = 3 := by first | rfl | assumption)  : wr P d sw_c74 sw_h74 (10, [r0, vi x1, r2], [], h, kc, ks) Q := by
  refine w_ld rfl rfl (Or.inr (Or.inr ⟨by decide, y1⟩)) ?_
  refine w_ld rfl rfl (Or.inr (Or.inr ⟨by decide, y1⟩)) ?_
  subst e_q2
  refine w_getf rfl g4 n6 ?_
  refine w_ld rfl rfl (Or.inr (Or.inr ⟨by decide, y7⟩)) ?_
  subst e_q8
  exact w_cv rfl [.index q8, r2] [.index q2] rfl rfl (s_wt_4 rfl) rfl g10 k

theorem k74_19 {P : s_P} {d : Nat} {Q : s_O → Prop} {h : s_H} {kc ks : Nat} {r0 : Term} {x1 : Int} {r2 s0 s1 : Term} {q1 : Nat} {f2 : List Term} (g3 : s_get h q1 = some (1, 10, f2)) (k : wm P d 38 [.index q1, s1] h (wq P d sw_c74 sw_h74 22 [r0, vi x1, r2] [] kc ks Q)) (e_q1 : s0 = .index q1 := by first | rfl | assumption)  : wr P d sw_c74 sw_h74 (19, [r0, vi x1, r2], [s1, s0], h, kc, ks) Q := by
  subst e_q1
  exact w_cv rfl [.index q1, s1] [] rfl rfl (s_wt_4 rfl) rfl g3 k

theorem k74_22 {P : s_P} {d : Nat} {Q : s_O → Prop} {h : s_H} {kc ks : Nat} {r0 : Term} {x1 : Int} {r2 : Term} {s0 : Int}  (k : Q (.inl (some (vi s0)), h, kc, ks))   : wr P d sw_c74 sw_h74 (22, [r0, vi x1, r2], [vi s0], h, kc, ks) Q := by
  exact w_iret rfl k

/-! 75: FormulaWorks.remainder(I)I -/
theorem k75_0 {P : s_P} {d : Nat} {Q : s_O → Prop} {h : s_H} {kc ks : Nat} {r0 : Term} {x1 : Int} {t2 : Term} {q2 : Nat} {f3 : List Term} (g4 : s_get h q2 = some (1, 10, f3)) (k : wm P d 64 [.index q2, vi x1, vi 0] h (wq P d sw_c75 sw_h75 6 [.index q2, vi x1, t2] [] kc ks Q)) (e_q2 : r0 = .index q2 := by first | rfl | assumption) (y1 : s_ty r0 = 3 := by first | rfl | assumption)  : wr P d sw_c75 sw_h75 (0, [r0, vi x1, t2], [], h, kc, ks) Q := by
  refine w_ld rfl rfl (Or.inr (Or.inr ⟨by decide, y1⟩)) ?_
  refine w_ld rfl rfl (Or.inl ⟨by decide, rfl⟩) ?_
  refine w_c32 rfl (by decide) 0 (by decide) ?_
  subst e_q2
  exact w_cv rfl [.index q2, vi x1, vi 0] [] rfl rfl (s_wt_4 rfl) rfl g4 k

theorem k75_6 {P : s_P} {d : Nat} {Q : s_O → Prop} {h : s_H} {kc ks : Nat} {r0 : Term} {x1 : Int} {t2 s0 : Term} {q3 : Nat} {f4 : List Term} {v6 : Term} {q8 : Nat} {f9 : List Term} {v11 v13 v15 : Term} {q17 : Nat} {f18 : List Term} (g5 : s_get h q3 = some (1, 10, f4)) (g10 : s_get h q8 = some (1, 8, f9)) (g19 : s_get h q17 = some (1, 0, f18)) (k : wm P d 117 [.index q17, v11, v13, vi 1, v15] h (wq P d sw_c75 sw_h75 27 [.index q3, vi x1, .index q8] [] kc ks Q)) (e_q3 : r0 = .index q3 := by first | rfl | assumption) (e_q8 : s0 = .index q8 := by first | rfl | assumption) (e_q17 : v6 = .index q17 := by first | rfl | assumption) (y1 : s_ty s0 = 3 := by first | rfl | assumption) (y2 : s_ty r0 = 3 := by first | rfl | assumption) (n7 : s_nth f4 8 = some v6 := by first | rfl | assumption) (n12 : s_nth f9 1 = some v11 := by first | rfl | assumption) (n14 : s_nth f9 2 = some v13 := by first | rfl | assumption) (n16 : s_nth f4 16 = some v15 := by first | rfl | assumption)  : wr P d sw_c75 sw_h75 (6, [r0, vi x1, t2], [s0], h, kc, ks) Q := by
  refine w_st (ls' := [r0, vi x1, s0]) rfl (Or.inr ⟨by decide, y1⟩) rfl ?_
  refine w_ld rfl rfl (Or.inr (Or.inr ⟨by decide, y2⟩)) ?_
  subst e_q3
  refine w_getf rfl g5 n7 ?_
  refine w_ld rfl rfl (Or.inr (Or.inr ⟨by decide, y1⟩)) ?_
  subst e_q8
  refine w_getf rfl g10 n12 ?_
  refine w_ld rfl rfl (Or.inr (Or.inr ⟨by decide, rfl⟩)) ?_
  refine w_getf rfl g10 n14 ?_
  refine w_c32 rfl (by decide) 1 (by decide) ?_
  refine w_ld rfl rfl (Or.inr (Or.inr ⟨by decide, rfl⟩)) ?_
  refine w_getf rfl g5 n16 ?_
  subst e_q17
  exact w_cv rfl [.index q17, v11, v13, vi 1, v15] [] rfl rfl (s_wt_4 rfl) rfl g19 k

theorem k75_27 {P : s_P} {d : Nat} {Q : s_O → Prop} {h : s_H} {kc ks : Nat} {r0 : Term} {x1 : Int} {r2 : Term} {q2 : Nat} {f3 : List Term} {v5 : Term} (g4 : s_get h q2 = some (1, 10, f3)) (k : wm P d 41 [.index q2, v5] h (wq P d sw_c75 sw_h75 35 [.index q2, vi x1, r2] [] kc ks Q)) (e_q2 : r0 = .index q2 := by first | rfl | assumption) (y1 : s_ty r0 = 3 := by first | rfl | assumption) (n6 : s_nth f3 16 = some v5 := by first | rfl | assumption)  : wr P d sw_c75 sw_h75 (27, [r0, vi x1, r2], [], h, kc, ks) Q := by
  refine w_ld rfl rfl (Or.inr (Or.inr ⟨by decide, y1⟩)) ?_
  refine w_ld rfl rfl (Or.inr (Or.inr ⟨by decide, y1⟩)) ?_
  subst e_q2
  refine w_getf rfl g4 n6 ?_
  exact w_cv rfl [.index q2, v5] [] rfl rfl (s_wt_4 rfl) rfl g4 k

theorem k75_35 {P : s_P} {d : Nat} {Q : s_O → Prop} {h : s_H} {kc ks : Nat} {r0 : Term} {x1 : Int} {r2 : Term} {s0 : Int}  (k : Q (.inl (some (vi s0)), h, kc, ks))   : wr P d sw_c75 sw_h75 (35, [r0, vi x1, r2], [vi s0], h, kc, ks) Q := by
  exact w_iret rfl k

/-! 76: FormulaWorks.residue(J)I -/
theorem k76_0 {P : s_P} {d : Nat} {Q : s_O → Prop} {h : s_H} {kc ks : Nat} {x0 : Int} {t1 : Term}  (k : wm P d 624 [vl x0, vl 32003] h (wq P d sw_c76 sw_h76 7 [vl x0, t1] [] kc ks Q))   : wr P d sw_c76 sw_h76 (0, [vl x0, t1], [], h, kc, ks) Q := by
  refine w_ld rfl rfl (Or.inr (Or.inl ⟨by decide, rfl⟩)) ?_
  refine w_c64 rfl (by decide) 32003 (by decide) ?_
  exact w_cs rfl [vl x0, vl 32003] [] rfl rfl (s_wt_4 rfl) k

theorem k76_7 {P : s_P} {d : Nat} {Q : s_O → Prop} {h : s_H} {kc ks : Nat} {x0 : Int} {t1 : Term} {s0 : Int}  (k : Q (.inl (some (vi s0)), h, kc, ks))   : wr P d sw_c76 sw_h76 (7, [vl x0, t1], [vl s0], h, kc, ks) Q := by
  refine w_l2i rfl ?_
  exact w_iret rfl k

/-! 77: FormulaWorks.rest(I)I -/
theorem k77_0 {P : s_P} {d : Nat} {Q : s_O → Prop} {h : s_H} {kc ks : Nat} {r0 : Term} {x1 : Int} {q2 : Nat} {f3 : List Term} {v5 : Term} (g4 : s_get h q2 = some (1, 10, f3)) (k : wm P d 64 [.index q2, vi x1, vi 0] h (wq P d sw_c77 sw_h77 10 [.index q2, vi x1] [v5] kc ks Q)) (e_q2 : r0 = .index q2 := by first | rfl | assumption) (y1 : s_ty r0 = 3 := by first | rfl | assumption) (n6 : s_nth f3 9 = some v5 := by first | rfl | assumption)  : wr P d sw_c77 sw_h77 (0, [r0, vi x1], [], h, kc, ks) Q := by
  refine w_ld rfl rfl (Or.inr (Or.inr ⟨by decide, y1⟩)) ?_
  subst e_q2
  refine w_getf rfl g4 n6 ?_
  refine w_ld rfl rfl (Or.inr (Or.inr ⟨by decide, rfl⟩)) ?_
  refine w_ld rfl rfl (Or.inl ⟨by decide, rfl⟩) ?_
  refine w_c32 rfl (by decide) 0 (by decide) ?_
  exact w_cv rfl [.index q2, vi x1, vi 0] [v5] rfl rfl (s_wt_4 rfl) rfl g4 k

theorem k77_10 {P : s_P} {d : Nat} {Q : s_O → Prop} {h : s_H} {kc ks : Nat} {r0 : Term} {x1 : Int} {s0 s1 : Term} {q2 : Nat} {f3 : List Term} {v5 v7 : Term} {q9 : Nat} {f10 : List Term} (g4 : s_get h q2 = some (1, 10, f3)) (g11 : s_get h q9 = some (1, 3, f10)) (k : wm P d 158 [.index q9, s1, v5, v7] h (wq P d sw_c77 sw_h77 21 [.index q2, vi x1] [] kc ks Q)) (e_q2 : r0 = .index q2 := by first | rfl | assumption) (e_q9 : s0 = .index q9 := by first | rfl | assumption) (y1 : s_ty r0 = 3 := by first | rfl | assumption) (n6 : s_nth f3 17 = some v5 := by first | rfl | assumption) (n8 : s_nth f3 18 = some v7 := by first | rfl | assumption)  : wr P d sw_c77 sw_h77 (10, [r0, vi x1], [s1, s0], h, kc, ks) Q := by
  refine w_ld rfl rfl (Or.inr (Or.inr ⟨by decide, y1⟩)) ?_
  subst e_q2
  refine w_getf rfl g4 n6 ?_
  refine w_ld rfl rfl (Or.inr (Or.inr ⟨by decide, rfl⟩)) ?_
  refine w_getf rfl g4 n8 ?_
  subst e_q9
  exact w_cv rfl [.index q9, s1, v5, v7] [] rfl rfl (s_wt_4 rfl) rfl g11 k

theorem k77_21 {P : s_P} {d : Nat} {Q : s_O → Prop} {h : s_H} {kc ks : Nat} {r0 : Term} {x1 : Int} {s0 : Term} {q3 : Nat} {f4 : List Term} {v6 : Term} (g5 : s_get h q3 = some (1, 10, f4)) (k : wm P d 37 [.index q3, v6] h (wq P d sw_c77 sw_h77 30 [.index q3, vi x1] [] kc ks Q)) (e_q3 : r0 = .index q3 := by first | rfl | assumption) (y1 : s_ty s0 = 3 := by first | rfl | assumption) (y2 : s_ty r0 = 3 := by first | rfl | assumption) (n7 : s_nth f4 18 = some v6 := by first | rfl | assumption)  : wr P d sw_c77 sw_h77 (21, [r0, vi x1], [s0], h, kc, ks) Q := by
  refine w_pop rfl (by rw [y1]; rfl) ?_
  refine w_ld rfl rfl (Or.inr (Or.inr ⟨by decide, y2⟩)) ?_
  refine w_ld rfl rfl (Or.inr (Or.inr ⟨by decide, y2⟩)) ?_
  subst e_q3
  refine w_getf rfl g5 n7 ?_
  exact w_cv rfl [.index q3, v6] [] rfl rfl (s_wt_4 rfl) rfl g5 k

theorem k77_30 {P : s_P} {d : Nat} {Q : s_O → Prop} {h : s_H} {kc ks : Nat} {r0 : Term} {x1 s0 : Int}  (k : Q (.inl (some (vi s0)), h, kc, ks))   : wr P d sw_c77 sw_h77 (30, [r0, vi x1], [vi s0], h, kc, ks) Q := by
  exact w_iret rfl k

/-! 78: FormulaWorks.resultant(II)I -/
theorem k78_0 {P : s_P} {d : Nat} {Q : s_O → Prop} {h : s_H} {kc ks : Nat} {r0 : Term} {x1 x2 : Int} {t3 t4 : Term} {q2 : Nat} {f3 : List Term} (g4 : s_get h q2 = some (1, 10, f3)) (k : wm P d 93 [.index q2, vi x1] h (wq P d sw_c78 sw_h78 5 [.index q2, vi x1, vi x2, t3, t4] [] kc ks Q)) (e_q2 : r0 = .index q2 := by first | rfl | assumption) (y1 : s_ty r0 = 3 := by first | rfl | assumption)  : wr P d sw_c78 sw_h78 (0, [r0, vi x1, vi x2, t3, t4], [], h, kc, ks) Q := by
  refine w_ld rfl rfl (Or.inr (Or.inr ⟨by decide, y1⟩)) ?_
  refine w_ld rfl rfl (Or.inl ⟨by decide, rfl⟩) ?_
  subst e_q2
  exact w_cv rfl [.index q2, vi x1] [] rfl rfl (s_wt_4 rfl) rfl g4 k

theorem k78_5 {P : s_P} {d : Nat} {Q : s_O → Prop} {h : s_H} {kc ks : Nat} {r0 : Term} {x1 x2 : Int} {t3 t4 s0 : Term} {q3 : Nat} {f4 : List Term} (g5 : s_get h q3 = some (1, 10, f4)) (k : wm P d 93 [.index q3, vi x2] h (wq P d sw_c78 sw_h78 11 [.index q3, vi x1, vi x2, s0, t4] [] kc ks Q)) (e_q3 : r0 = .index q3 := by first | rfl | assumption) (y1 : s_ty s0 = 3 := by first | rfl | assumption) (y2 : s_ty r0 = 3 := by first | rfl | assumption)  : wr P d sw_c78 sw_h78 (5, [r0, vi x1, vi x2, t3, t4], [s0], h, kc, ks) Q := by
  refine w_st (ls' := [r0, vi x1, vi x2, s0, t4]) rfl (Or.inr ⟨by decide, y1⟩) rfl ?_
  refine w_ld rfl rfl (Or.inr (Or.inr ⟨by decide, y2⟩)) ?_
  refine w_ld rfl rfl (Or.inl ⟨by decide, rfl⟩) ?_
  subst e_q3
  exact w_cv rfl [.index q3, vi x2] [] rfl rfl (s_wt_4 rfl) rfl g5 k

theorem k78_11 {P : s_P} {d : Nat} {Q : s_O → Prop} {h : s_H} {kc ks : Nat} {r0 : Term} {x1 x2 : Int} {r3 t4 s0 : Term}  (k : wm P d 58 [r3] h (wq P d sw_c78 sw_h78 17 [r0, vi x1, vi x2, r3, s0] [] kc ks Q)) (y1 : s_ty r3 = 3 := by first | rfl | assumption) (y2 : s_ty s0 = 3 := by first | rfl | assumption)  : wr P d sw_c78 sw_h78 (11, [r0, vi x1, vi x2, r3, t4], [s0], h, kc, ks) Q := by
  refine w_st (ls' := [r0, vi x1, vi x2, r3, s0]) rfl (Or.inr ⟨by decide, y2⟩) (s_stK_r (pre := [r0, vi x1, vi x2]) y1) ?_
  refine w_ld rfl rfl (Or.inr (Or.inr ⟨by decide, y1⟩)) ?_
  exact w_cs rfl [r3] [] rfl rfl (s_wt_4 rfl) k

theorem k78_17 {P : s_P} {d : Nat} {Q : s_O → Prop} {h : s_H} {kc ks : Nat} {r0 : Term} {x1 x2 : Int} {r3 r4 : Term}  (k : wm P d 58 [r4] h (wq P d sw_c78 sw_h78 22 [r0, vi x1, vi x2, r3, r4] [] kc ks Q)) (y1 : s_ty r4 = 3 := by first | rfl | assumption)  : wr P d sw_c78 sw_h78 (17, [r0, vi x1, vi x2, r3, r4], [], h, kc, ks) Q := by
  refine w_ld rfl rfl (Or.inr (Or.inr ⟨by decide, y1⟩)) ?_
  exact w_cs rfl [r4] [] rfl rfl (s_wt_4 rfl) k

theorem k78_22 {P : s_P} {d : Nat} {Q : s_O → Prop} {h : s_H} {kc ks : Nat} {r0 : Term} {x1 x2 : Int} {r3 r4 : Term} {q2 : Nat} {f3 : List Term} {v5 : Term} {q7 : Nat} {f8 : List Term} {z10 : Int} (g4 : s_get h q2 = some (1, 8, f3)) (g9 : s_get h q7 = some (1, 4, f8)) (k1 : z10 < 0 → wr P d sw_c78 sw_h78 (43, [r0, vi x1, vi x2, .index q2, r4], [], h, kc, ks) Q) (k2 : ¬ z10 < 0 → wr P d sw_c78 sw_h78 (32, [r0, vi x1, vi x2, .index q2, r4], [], h, kc, ks) Q) (e_q2 : r3 = .index q2 := by first | rfl | assumption) (e_q7 : v5 = .index q7 := by first | rfl | assumption) (y1 : s_ty r3 = 3 := by first | rfl | assumption) (n6 : s_nth f3 1 = some v5 := by first | rfl | assumption) (n11 : s_nth f8 1 = some (vi z10) := by first | rfl | assumption) (c12 : In3 z10 := by first | omega | assumption | (simp only [mk_len, List.length_map]; omega) | decide) : wr P d sw_c78 sw_h78 (22, [r0, vi x1, vi x2, r3, r4], [], h, kc, ks) Q := by
  refine w_ld rfl rfl (Or.inr (Or.inr ⟨by decide, y1⟩)) ?_
  subst e_q2
  refine w_getf rfl g4 n6 ?_
  subst e_q7
  refine w_getf rfl g9 n11 ?_
  exact w_if1 rfl c12 k1 k2

theorem k78_32 {P : s_P} {d : Nat} {Q : s_O → Prop} {h : s_H} {kc ks : Nat} {r0 : Term} {x1 x2 : Int} {r3 r4 : Term} {q2 : Nat} {f3 : List Term} {v5 : Term} {q7 : Nat} {f8 : List Term} {z10 : Int} (g4 : s_get h q2 = some (1, 8, f3)) (g9 : s_get h q7 = some (1, 4, f8)) (k1 : 0 ≤ z10 → wr P d sw_c78 sw_h78 (51, [r0, vi x1, vi x2, r3, .index q2], [], h, kc, ks) Q) (k2 : ¬ 0 ≤ z10 → wr P d sw_c78 sw_h78 (43, [r0, vi x1, vi x2, r3, .index q2], [], h, kc, ks) Q) (e_q2 : r4 = .index q2 := by first | rfl | assumption) (e_q7 : v5 = .index q7 := by first | rfl | assumption) (y1 : s_ty r4 = 3 := by first | rfl | assumption) (n6 : s_nth f3 1 = some v5 := by first | rfl | assumption) (n11 : s_nth f8 1 = some (vi z10) := by first | rfl | assumption) (c12 : In3 z10 := by first | omega | assumption | (simp only [mk_len, List.length_map]; omega) | decide) : wr P d sw_c78 sw_h78 (32, [r0, vi x1, vi x2, r3, r4], [], h, kc, ks) Q := by
  refine w_ld rfl rfl (Or.inr (Or.inr ⟨by decide, y1⟩)) ?_
  subst e_q2
  refine w_getf rfl g4 n6 ?_
  subst e_q7
  refine w_getf rfl g9 n11 ?_
  exact w_if1 rfl c12 k1 k2

theorem k78_43 {P : s_P} {d : Nat} {Q : s_O → Prop} {h : s_H} {kc ks : Nat} {r0 : Term} {x1 x2 : Int} {r3 r4 : Term}  (k : Q (.inr 1, h, kc + 1, ks + 6))   : wr P d sw_c78 sw_h78 (43, [r0, vi x1, vi x2, r3, r4], [], h, kc, ks) Q := by
  exact w_throw rfl (s_wt_4 rfl) k

theorem k78_51 {P : s_P} {d : Nat} {Q : s_O → Prop} {h : s_H} {kc ks : Nat} {r0 : Term} {x1 x2 : Int} {r3 r4 : Term} {q2 : Nat} {f3 : List Term} {v5 : Term} {q8 : Nat} {f9 : List Term} {v11 : Term} {q14 : Nat} {f15 : List Term} {v17 : Term} {q19 : Nat} {f20 : List Term} (g4 : s_get h q2 = some (1, 10, f3)) (g10 : s_get h q8 = some (1, 8, f9)) (g16 : s_get h q14 = some (1, 8, f15)) (g21 : s_get h q19 = some (1, 0, f20)) (k : wm P d 114 [.index q19, v11, v17] h (wq P d sw_c78 sw_h78 67 [.index q2, vi x1, vi x2, .index q8, .index q14] [] kc ks Q)) (e_q2 : r0 = .index q2 := by first | rfl | assumption) (e_q8 : r3 = .index q8 := by first | rfl | assumption) (e_q14 : r4 = .index q14 := by first | rfl | assumption) (e_q19 : v5 = .index q19 := by first | rfl | assumption) (y1 : s_ty r0 = 3 := by first | rfl | assumption) (n6 : s_nth f3 8 = some v5 := by first | rfl | assumption) (y7 : s_ty r3 = 3 := by first | rfl | assumption) (n12 : s_nth f9 1 = some v11 := by first | rfl | assumption) (y13 : s_ty r4 = 3 := by first | rfl | assumption) (n18 : s_nth f15 1 = some v17 := by first | rfl | assumption)  : wr P d sw_c78 sw_h78 (51, [r0, vi x1, vi x2, r3, r4], [], h, kc, ks) Q := by
  refine w_ld rfl rfl (Or.inr (Or.inr ⟨by decide, y1⟩)) ?_
  subst e_q2
  refine w_getf rfl g4 n6 ?_
  refine w_ld rfl rfl (Or.inr (Or.inr ⟨by decide, y7⟩)) ?_
  subst e_q8
  refine w_getf rfl g10 n12 ?_
  refine w_ld rfl rfl (Or.inr (Or.inr ⟨by decide, y13⟩)) ?_
  subst e_q14
  refine w_getf rfl g16 n18 ?_
  subst e_q19
  exact w_cv rfl [.index q19, v11, v17] [] rfl rfl (s_wt_4 rfl) rfl g21 k

theorem k78_67 {P : s_P} {d : Nat} {Q : s_O → Prop} {h : s_H} {kc ks : Nat} {r0 : Term} {x1 x2 : Int} {r3 r4 : Term} {s0 : Int}  (k : Q (.inl (some (vi s0)), h, kc, ks))   : wr P d sw_c78 sw_h78 (67, [r0, vi x1, vi x2, r3, r4], [vi s0], h, kc, ks) Q := by
  exact w_iret rfl k

/-! 79: FormulaWorks.reverse(I)I -/
theorem k79_0 {P : s_P} {d : Nat} {Q : s_O → Prop} {h : s_H} {kc ks : Nat} {r0 : Term} {x1 : Int} {t2 : Term} {q2 : Nat} {f3 : List Term} (g4 : s_get h q2 = some (1, 10, f3)) (k : wm P d 64 [.index q2, vi x1, vi 1] h (wq P d sw_c79 sw_h79 6 [.index q2, vi x1, t2] [] kc ks Q)) (e_q2 : r0 = .index q2 := by first | rfl | assumption) (y1 : s_ty r0 = 3 := by first | rfl | assumption)  : wr P d sw_c79 sw_h79 (0, [r0, vi x1, t2], [], h, kc, ks) Q := by
  refine w_ld rfl rfl (Or.inr (Or.inr ⟨by decide, y1⟩)) ?_
  refine w_ld rfl rfl (Or.inl ⟨by decide, rfl⟩) ?_
  refine w_c32 rfl (by decide) 1 (by decide) ?_
  subst e_q2
  exact w_cv rfl [.index q2, vi x1, vi 1] [] rfl rfl (s_wt_4 rfl) rfl g4 k

theorem k79_6 {P : s_P} {d : Nat} {Q : s_O → Prop} {h : s_H} {kc ks : Nat} {r0 : Term} {x1 : Int} {t2 s0 : Term} {q2 : Nat} {f3 : List Term} {v5 : Term} {q7 : Nat} {a8 : List Int} (g4 : s_get h q2 = some (1, 8, f3)) (g9 : s_get h q7 = some (0, 0, a8.map vi)) (k1 : gi a8 0 ≠ 0 → wr P d sw_c79 sw_h79 (25, [r0, vi x1, .index q2], [], h, kc, ks) Q) (k2 : ¬ gi a8 0 ≠ 0 → wr P d sw_c79 sw_h79 (16, [r0, vi x1, .index q2], [], h, kc, ks) Q) (e_q2 : s0 = .index q2 := by first | rfl | assumption) (e_q7 : v5 = .index q7 := by first | rfl | assumption) (y1 : s_ty s0 = 3 := by first | rfl | assumption) (n6 : s_nth f3 6 = some v5 := by first | rfl | assumption) (c10 : (0 : Int) < a8.length := by first | omega | assumption | (simp only [mk_len, List.length_map]; omega) | decide) (c11 : In3 (gi a8 0) := by first | omega | assumption | (simp only [mk_len, List.length_map]; omega) | decide) : wr P d sw_c79 sw_h79 (6, [r0, vi x1, t2], [s0], h, kc, ks) Q := by
  refine w_st (ls' := [r0, vi x1, s0]) rfl (Or.inr ⟨by decide, y1⟩) rfl ?_
  refine w_ld rfl rfl (Or.inr (Or.inr ⟨by decide, y1⟩)) ?_
  subst e_q2
  refine w_getf rfl g4 n6 ?_
  refine w_c32 rfl (by decide) 0 (by decide) ?_
  subst e_q7
  refine w_iald rfl g9 (Or.inl rfl) (by decide) (by decide) c10 ?_
  exact w_if1 rfl c11 k1 k2

theorem k79_16 {P : s_P} {d : Nat} {Q : s_O → Prop} {h : s_H} {kc ks : Nat} {r0 : Term} {x1 : Int} {r2 : Term} {q2 : Nat} {f3 : List Term} {v5 : Term} {q7 : Nat} {a8 : List Int} (g4 : s_get h q2 = some (1, 8, f3)) (g9 : s_get h q7 = some (0, 0, a8.map vi)) (k1 : gi a8 1 ≠ 0 → wr P d sw_c79 sw_h79 (33, [r0, vi x1, .index q2], [], h, kc, ks) Q) (k2 : ¬ gi a8 1 ≠ 0 → wr P d sw_c79 sw_h79 (25, [r0, vi x1, .index q2], [], h, kc, ks) Q) (e_q2 : r2 = .index q2 := by first | rfl | assumption) (e_q7 : v5 = .index q7 := by first | rfl | assumption) (y1 : s_ty r2 = 3 := by first | rfl | assumption) (n6 : s_nth f3 6 = some v5 := by first | rfl | assumption) (c10 : (1 : Int) < a8.length := by first | omega | assumption | (simp only [mk_len, List.length_map]; omega) | decide) (c11 : In3 (gi a8 1) := by first | omega | assumption | (simp only [mk_len, List.length_map]; omega) | decide) : wr P d sw_c79 sw_h79 (16, [r0, vi x1, r2], [], h, kc, ks) Q := by
  refine w_ld rfl rfl (Or.inr (Or.inr ⟨by decide, y1⟩)) ?_
  subst e_q2
  refine w_getf rfl g4 n6 ?_
  refine w_c32 rfl (by decide) 1 (by decide) ?_
  subst e_q7
  refine w_iald rfl g9 (Or.inl rfl) (by decide) (by decide) c10 ?_
  exact w_if1 rfl c11 k1 k2

theorem k79_25 {P : s_P} {d : Nat} {Q : s_O → Prop} {h : s_H} {kc ks : Nat} {r0 : Term} {x1 : Int} {r2 : Term}  (k : Q (.inr 1, h, kc + 1, ks + 6))   : wr P d sw_c79 sw_h79 (25, [r0, vi x1, r2], [], h, kc, ks) Q := by
  exact w_throw rfl (s_wt_4 rfl) k

theorem k79_33 {P : s_P} {d : Nat} {Q : s_O → Prop} {h : s_H} {kc ks : Nat} {r0 : Term} {x1 : Int} {r2 : Term} {q3 : Nat} {f4 : List Term} {v6 : Term} (g5 : s_get h q3 = some (1, 8, f4)) (k : wm P d 245 [v6] h (wq P d sw_c79 sw_h79 41 [r0, vi x1, .index q3] [r0] kc ks Q)) (e_q3 : r2 = .index q3 := by first | rfl | assumption) (y1 : s_ty r0 = 3 := by first | rfl | assumption) (y2 : s_ty r2 = 3 := by first | rfl | assumption) (n7 : s_nth f4 6 = some v6 := by first | rfl | assumption)  : wr P d sw_c79 sw_h79 (33, [r0, vi x1, r2], [], h, kc, ks) Q := by
  refine w_ld rfl rfl (Or.inr (Or.inr ⟨by decide, y1⟩)) ?_
  refine w_ld rfl rfl (Or.inr (Or.inr ⟨by decide, y2⟩)) ?_
  subst e_q3
  refine w_getf rfl g5 n7 ?_
  exact w_cs rfl [v6] [r0] rfl rfl (s_wt_4 rfl) k

theorem k79_41 {P : s_P} {d : Nat} {Q : s_O → Prop} {h : s_H} {kc ks : Nat} {r0 : Term} {x1 : Int} {r2 s0 s1 : Term} {q1 : Nat} {f2 : List Term} (g3 : s_get h q1 = some (1, 10, f2)) (k : wm P d 39 [.index q1, s1] h (wq P d sw_c79 sw_h79 44 [r0, vi x1, r2] [] kc ks Q)) (e_q1 : s0 = .index q1 := by first | rfl | assumption)  : wr P d sw_c79 sw_h79 (41, [r0, vi x1, r2], [s1, s0], h, kc, ks) Q := by
  subst e_q1
  exact w_cv rfl [.index q1, s1] [] rfl rfl (s_wt_4 rfl) rfl g3 k

theorem k79_44 {P : s_P} {d : Nat} {Q : s_O → Prop} {h : s_H} {kc ks : Nat} {r0 : Term} {x1 : Int} {r2 : Term} {s0 : Int}  (k : Q (.inl (some (vi s0)), h, kc, ks))   : wr P d sw_c79 sw_h79 (44, [r0, vi x1, r2], [vi s0], h, kc, ks) Q := by
  exact w_iret rfl k

/-! 80: FormulaWorks.root(I)I -/
theorem k80_0 {P : s_P} {d : Nat} {Q : s_O → Prop} {h : s_H} {kc ks : Nat} {r0 : Term} {x1 : Int} {t2 t3 : Term} {q2 : Nat} {f3 : List Term} (g4 : s_get h q2 = some (1, 10, f3)) (k : wm P d 64 [.index q2, vi x1, vi 1] h (wq P d sw_c80 sw_h80 6 [.index q2, vi x1, t2, t3] [] kc ks Q)) (e_q2 : r0 = .index q2 := by first | rfl | assumption) (y1 : s_ty r0 = 3 := by first | rfl | assumption)  : wr P d sw_c80 sw_h80 (0, [r0, vi x1, t2, t3], [], h, kc, ks) Q := by
  refine w_ld rfl rfl (Or.inr (Or.inr ⟨by decide, y1⟩)) ?_
  refine w_ld rfl rfl (Or.inl ⟨by decide, rfl⟩) ?_
  refine w_c32 rfl (by decide) 1 (by decide) ?_
  subst e_q2
  exact w_cv rfl [.index q2, vi x1, vi 1] [] rfl rfl (s_wt_4 rfl) rfl g4 k

theorem k80_6 {P : s_P} {d : Nat} {Q : s_O → Prop} {h : s_H} {kc ks : Nat} {r0 : Term} {x1 : Int} {t2 t3 s0 : Term} {q2 : Nat} {f3 : List Term} {v5 : Term} {q7 : Nat} {a8 : List Int} (g4 : s_get h q2 = some (1, 8, f3)) (g9 : s_get h q7 = some (0, 0, a8.map vi)) (k : wm P d 236 [vi (gi a8 0)] h (wq P d sw_c80 sw_h80 16 [r0, vi x1, .index q2, t3] [] kc ks Q)) (e_q2 : s0 = .index q2 := by first | rfl | assumption) (e_q7 : v5 = .index q7 := by first | rfl | assumption) (y1 : s_ty s0 = 3 := by first | rfl | assumption) (n6 : s_nth f3 6 = some v5 := by first | rfl | assumption) (c10 : (0 : Int) < a8.length := by first | omega | assumption | (simp only [mk_len, List.length_map]; omega) | decide) : wr P d sw_c80 sw_h80 (6, [r0, vi x1, t2, t3], [s0], h, kc, ks) Q := by
  refine w_st (ls' := [r0, vi x1, s0, t3]) rfl (Or.inr ⟨by decide, y1⟩) rfl ?_
  refine w_ld rfl rfl (Or.inr (Or.inr ⟨by decide, y1⟩)) ?_
  subst e_q2
  refine w_getf rfl g4 n6 ?_
  refine w_c32 rfl (by decide) 0 (by decide) ?_
  subst e_q7
  refine w_iald rfl g9 (Or.inl rfl) (by decide) (by decide) c10 ?_
  exact w_cs rfl [vi (gi a8 0)] [] rfl rfl (s_wt_4 rfl) k

theorem k80_16 {P : s_P} {d : Nat} {Q : s_O → Prop} {h : s_H} {kc ks : Nat} {r0 : Term} {x1 : Int} {r2 t3 : Term} {s0 : Int}  (k1 : 0 < s0 → wr P d sw_c80 sw_h80 (29, [r0, vi x1, r2, vi s0], [], h, kc, ks) Q) (k2 : ¬ 0 < s0 → wr P d sw_c80 sw_h80 (21, [r0, vi x1, r2, vi s0], [], h, kc, ks) Q) (y1 : s_ty r2 = 3 := by first | rfl | assumption) (c2 : In3 s0 := by first | omega | assumption | (simp only [mk_len, List.length_map]; omega) | decide) : wr P d sw_c80 sw_h80 (16, [r0, vi x1, r2, t3], [vi s0], h, kc, ks) Q := by
  refine w_st (ls' := [r0, vi x1, r2, vi s0]) rfl (Or.inl ⟨by decide, rfl⟩) (s_stK_r (pre := [r0, vi x1]) y1) ?_
  refine w_ld rfl rfl (Or.inl ⟨by decide, rfl⟩) ?_
  exact w_if1 rfl c2 k1 k2

theorem k80_21 {P : s_P} {d : Nat} {Q : s_O → Prop} {h : s_H} {kc ks : Nat} {r0 : Term} {x1 : Int} {r2 : Term} {x3 : Int}  (k : Q (.inr 1, h, kc + 1, ks + 6))   : wr P d sw_c80 sw_h80 (21, [r0, vi x1, r2, vi x3], [], h, kc, ks) Q := by
  exact w_throw rfl (s_wt_4 rfl) k

theorem k80_29 {P : s_P} {d : Nat} {Q : s_O → Prop} {h : s_H} {kc ks : Nat} {r0 : Term} {x1 : Int} {r2 : Term} {x3 : Int} {q3 : Nat} {f4 : List Term} {v6 : Term} (g5 : s_get h q3 = some (1, 8, f4)) (k : wm P d 246 [v6, vi x3] h (wq P d sw_c80 sw_h80 38 [r0, vi x1, .index q3, vi x3] [r0] kc ks Q)) (e_q3 : r2 = .index q3 := by first | rfl | assumption) (y1 : s_ty r0 = 3 := by first | rfl | assumption) (y2 : s_ty r2 = 3 := by first | rfl | assumption) (n7 : s_nth f4 6 = some v6 := by first | rfl | assumption)  : wr P d sw_c80 sw_h80 (29, [r0, vi x1, r2, vi x3], [], h, kc, ks) Q := by
  refine w_ld rfl rfl (Or.inr (Or.inr ⟨by decide, y1⟩)) ?_
  refine w_ld rfl rfl (Or.inr (Or.inr ⟨by decide, y2⟩)) ?_
  subst e_q3
  refine w_getf rfl g5 n7 ?_
  refine w_ld rfl rfl (Or.inl ⟨by decide, rfl⟩) ?_
  exact w_cs rfl [v6, vi x3] [r0] rfl rfl (s_wt_4 rfl) k

theorem k80_38 {P : s_P} {d : Nat} {Q : s_O → Prop} {h : s_H} {kc ks : Nat} {r0 : Term} {x1 : Int} {r2 : Term} {x3 : Int} {s0 s1 : Term} {q1 : Nat} {f2 : List Term} (g3 : s_get h q1 = some (1, 10, f2)) (k : wm P d 39 [.index q1, s1] h (wq P d sw_c80 sw_h80 41 [r0, vi x1, r2, vi x3] [] kc ks Q)) (e_q1 : s0 = .index q1 := by first | rfl | assumption)  : wr P d sw_c80 sw_h80 (38, [r0, vi x1, r2, vi x3], [s1, s0], h, kc, ks) Q := by
  subst e_q1
  exact w_cv rfl [.index q1, s1] [] rfl rfl (s_wt_4 rfl) rfl g3 k

theorem k80_41 {P : s_P} {d : Nat} {Q : s_O → Prop} {h : s_H} {kc ks : Nat} {r0 : Term} {x1 : Int} {r2 : Term} {x3 s0 : Int}  (k : Q (.inl (some (vi s0)), h, kc, ks))   : wr P d sw_c80 sw_h80 (41, [r0, vi x1, r2, vi x3], [vi s0], h, kc, ks) Q := by
  exact w_iret rfl k

/-! 81: FormulaWorks.row(II)I -/
theorem k81_0 {P : s_P} {d : Nat} {Q : s_O → Prop} {h : s_H} {kc ks : Nat} {r0 : Term} {x1 x2 : Int}  (k1 : x1 < 0 → wr P d sw_c81 sw_h81 (15, [r0, vi x1, vi x2], [], h, kc, ks) Q) (k2 : ¬ x1 < 0 → wr P d sw_c81 sw_h81 (4, [r0, vi x1, vi x2], [], h, kc, ks) Q)  (c1 : In3 x1 := by first | omega | assumption | (simp only [mk_len, List.length_map]; omega) | decide) : wr P d sw_c81 sw_h81 (0, [r0, vi x1, vi x2], [], h, kc, ks) Q := by
  refine w_ld rfl rfl (Or.inl ⟨by decide, rfl⟩) ?_
  exact w_if1 rfl c1 k1 k2

theorem k81_4 {P : s_P} {d : Nat} {Q : s_O → Prop} {h : s_H} {kc ks : Nat} {r0 : Term} {x1 x2 : Int} {q2 : Nat} {f3 : List Term} {v5 : Term} {q7 : Nat} {f8 : List Term} {z10 : Int} (g4 : s_get h q2 = some (1, 10, f3)) (g9 : s_get h q7 = some (1, 9, f8)) (k1 : x1 < z10 → wr P d sw_c81 sw_h81 (17, [.index q2, vi x1, vi x2], [], h, kc, ks) Q) (k2 : ¬ x1 < z10 → wr P d sw_c81 sw_h81 (15, [.index q2, vi x1, vi x2], [], h, kc, ks) Q) (e_q2 : r0 = .index q2 := by first | rfl | assumption) (e_q7 : v5 = .index q7 := by first | rfl | assumption) (y1 : s_ty r0 = 3 := by first | rfl | assumption) (n6 : s_nth f3 12 = some v5 := by first | rfl | assumption) (n11 : s_nth f8 13 = some (vi z10) := by first | rfl | assumption) (c12 : In3 x1 := by first | omega | assumption | (simp only [mk_len, List.length_map]; omega) | decide) (c13 : In3 z10 := by first | omega | assumption | (simp only [mk_len, List.length_map]; omega) | decide) : wr P d sw_c81 sw_h81 (4, [r0, vi x1, vi x2], [], h, kc, ks) Q := by
  refine w_ld rfl rfl (Or.inl ⟨by decide, rfl⟩) ?_
  refine w_ld rfl rfl (Or.inr (Or.inr ⟨by decide, y1⟩)) ?_
  subst e_q2
  refine w_getf rfl g4 n6 ?_
  subst e_q7
  refine w_getf rfl g9 n11 ?_
  exact w_if2 rfl c12 c13 k1 k2

theorem k81_15 {P : s_P} {d : Nat} {Q : s_O → Prop} {h : s_H} {kc ks : Nat} {r0 : Term} {x1 x2 : Int}  (k : Q (.inl (some (vi (-1))), h, kc, ks))   : wr P d sw_c81 sw_h81 (15, [r0, vi x1, vi x2], [], h, kc, ks) Q := by
  refine w_c32 rfl (by decide) (-1) (by decide) ?_
  exact w_iret rfl k

theorem k81_17 {P : s_P} {d : Nat} {Q : s_O → Prop} {h : s_H} {kc ks : Nat} {r0 : Term} {x1 x2 : Int}  (k1 : x2 ≠ 0 → wr P d sw_c81 sw_h81 (31, [r0, vi x1, vi x2], [], h, kc, ks) Q) (k2 : ¬ x2 ≠ 0 → wr P d sw_c81 sw_h81 (21, [r0, vi x1, vi x2], [], h, kc, ks) Q)  (c1 : In3 x2 := by first | omega | assumption | (simp only [mk_len, List.length_map]; omega) | decide) : wr P d sw_c81 sw_h81 (17, [r0, vi x1, vi x2], [], h, kc, ks) Q := by
  refine w_ld rfl rfl (Or.inl ⟨by decide, rfl⟩) ?_
  exact w_if1 rfl c1 k1 k2

theorem k81_21 {P : s_P} {d : Nat} {Q : s_O → Prop} {h : s_H} {kc ks : Nat} {r0 : Term} {x1 x2 : Int} {q2 : Nat} {f3 : List Term} {v5 : Term} {q7 : Nat} {f8 : List Term} {v10 : Term} {q12 : Nat} {a13 : List Int} (g4 : s_get h q2 = some (1, 10, f3)) (g9 : s_get h q7 = some (1, 9, f8)) (g14 : s_get h q12 = some (0, 0, a13.map vi)) (k : Q (.inl (some (vi (gi a13 x1))), h, kc, ks)) (e_q2 : r0 = .index q2 := by first | rfl | assumption) (e_q7 : v5 = .index q7 := by first | rfl | assumption) (e_q12 : v10 = .index q12 := by first | rfl | assumption) (y1 : s_ty r0 = 3 := by first | rfl | assumption) (n6 : s_nth f3 12 = some v5 := by first | rfl | assumption) (n11 : s_nth f8 11 = some v10 := by first | rfl | assumption) (c15 : x1 < a13.length := by first | omega | assumption | (simp only [mk_len, List.length_map]; omega) | decide) (c16 : 0 ≤ x1 := by first | omega | assumption | (simp only [mk_len, List.length_map]; omega) | decide) (c17 : In3 x1 := by first | omega | assumption | (simp only [mk_len, List.length_map]; omega) | decide) : wr P d sw_c81 sw_h81 (21, [r0, vi x1, vi x2], [], h, kc, ks) Q := by
  refine w_ld rfl rfl (Or.inr (Or.inr ⟨by decide, y1⟩)) ?_
  subst e_q2
  refine w_getf rfl g4 n6 ?_
  subst e_q7
  refine w_getf rfl g9 n11 ?_
  refine w_ld rfl rfl (Or.inl ⟨by decide, rfl⟩) ?_
  subst e_q12
  refine w_iald rfl g14 (Or.inl rfl) c17 c16 c15 ?_
  exact w_iret rfl k

theorem k81_31 {P : s_P} {d : Nat} {Q : s_O → Prop} {h : s_H} {kc ks : Nat} {r0 : Term} {x1 x2 : Int}  (k1 : x2 ≠ 1 → wr P d sw_c81 sw_h81 (48, [r0, vi x1, vi x2], [], h, kc, ks) Q) (k2 : ¬ x2 ≠ 1 → wr P d sw_c81 sw_h81 (36, [r0, vi x1, vi x2], [], h, kc, ks) Q)  (c1 : In3 x2 := by first | omega | assumption | (simp only [mk_len, List.length_map]; omega) | decide) : wr P d sw_c81 sw_h81 (31, [r0, vi x1, vi x2], [], h, kc, ks) Q := by
  refine w_ld rfl rfl (Or.inl ⟨by decide, rfl⟩) ?_
  refine w_c32 rfl (by decide) 1 (by decide) ?_
  exact w_if2 rfl c1 (by decide) k1 k2

theorem k81_36 {P : s_P} {d : Nat} {Q : s_O → Prop} {h : s_H} {kc ks : Nat} {r0 : Term} {x1 x2 : Int} {q2 : Nat} {f3 : List Term} {v5 : Term} {q7 : Nat} {f8 : List Term} {v10 : Term} {q12 : Nat} {a13 : List Int} (g4 : s_get h q2 = some (1, 10, f3)) (g9 : s_get h q7 = some (1, 9, f8)) (g14 : s_get h q12 = some (0, 0, a13.map vi)) (k : wr P d sw_c81 sw_h81 (49, [.index q2, vi x1, vi x2], [vi (gi a13 x1)], h, kc, ks) Q) (e_q2 : r0 = .index q2 := by first | rfl | assumption) (e_q7 : v5 = .index q7 := by first | rfl | assumption) (e_q12 : v10 = .index q12 := by first | rfl | assumption) (y1 : s_ty r0 = 3 := by first | rfl | assumption) (n6 : s_nth f3 12 = some v5 := by first | rfl | assumption) (n11 : s_nth f8 12 = some v10 := by first | rfl | assumption) (c15 : x1 < a13.length := by first | omega | assumption | (simp only [mk_len, List.length_map]; omega) | decide) (c16 : 0 ≤ x1 := by first | omega | assumption | (simp only [mk_len, List.length_map]; omega) | decide) (c17 : In3 x1 := by first | omega | assumption | (simp only [mk_len, List.length_map]; omega) | decide) : wr P d sw_c81 sw_h81 (36, [r0, vi x1, vi x2], [], h, kc, ks) Q := by
  refine w_ld rfl rfl (Or.inr (Or.inr ⟨by decide, y1⟩)) ?_
  subst e_q2
  refine w_getf rfl g4 n6 ?_
  subst e_q7
  refine w_getf rfl g9 n11 ?_
  refine w_ld rfl rfl (Or.inl ⟨by decide, rfl⟩) ?_
  subst e_q12
  refine w_iald rfl g14 (Or.inl rfl) c17 c16 c15 ?_
  refine w_goto rfl ?_
  exact k

theorem k81_48 {P : s_P} {d : Nat} {Q : s_O → Prop} {h : s_H} {kc ks : Nat} {r0 : Term} {x1 x2 : Int}  (k : wr P d sw_c81 sw_h81 (49, [r0, vi x1, vi x2], [vi (-1)], h, kc, ks) Q)   : wr P d sw_c81 sw_h81 (48, [r0, vi x1, vi x2], [], h, kc, ks) Q := by
  refine w_c32 rfl (by decide) (-1) (by decide) ?_
  exact k

theorem k81_49 {P : s_P} {d : Nat} {Q : s_O → Prop} {h : s_H} {kc ks : Nat} {r0 : Term} {x1 x2 s0 : Int}  (k : Q (.inl (some (vi s0)), h, kc, ks))   : wr P d sw_c81 sw_h81 (49, [r0, vi x1, vi x2], [vi s0], h, kc, ks) Q := by
  exact w_iret rfl k

/-! 82: FormulaWorks.rows()I -/
theorem k82_0 {P : s_P} {d : Nat} {Q : s_O → Prop} {h : s_H} {kc ks : Nat} {r0 : Term} {q2 : Nat} {f3 : List Term} {v5 : Term} {q7 : Nat} {f8 : List Term} {z10 : Int} (g4 : s_get h q2 = some (1, 10, f3)) (g9 : s_get h q7 = some (1, 9, f8)) (k : Q (.inl (some (vi z10)), h, kc, ks)) (e_q2 : r0 = .index q2 := by first | rfl | assumption) (e_q7 : v5 = .index q7 := by first | rfl | assumption) (y1 : s_ty r0 = 3 := by first | rfl | assumption) (n6 : s_nth f3 12 = some v5 := by first | rfl | assumption) (n11 : s_nth f8 13 = some (vi z10) := by first | rfl | assumption)  : wr P d sw_c82 sw_h82 (0, [r0], [], h, kc, ks) Q := by
  refine w_ld rfl rfl (Or.inr (Or.inr ⟨by decide, y1⟩)) ?_
  subst e_q2
  refine w_getf rfl g4 n6 ?_
  subst e_q7
  refine w_getf rfl g9 n11 ?_
  exact w_iret rfl k

/-! 83: FormulaWorks.rule(III)I -/
theorem k83_0 {P : s_P} {d : Nat} {Q : s_O → Prop} {h : s_H} {kc ks : Nat} {r0 : Term} {x1 x2 x3 : Int} {t4 t5 : Term} {q2 : Nat} {f3 : List Term} (g4 : s_get h q2 = some (1, 10, f3)) (k : wm P d 64 [.index q2, vi x1, vi 1] h (wq P d sw_c83 sw_h83 6 [.index q2, vi x1, vi x2, vi x3, t4, t5] [] kc ks Q)) (e_q2 : r0 = .index q2 := by first | rfl | assumption) (y1 : s_ty r0 = 3 := by first | rfl | assumption)  : wr P d sw_c83 sw_h83 (0, [r0, vi x1, vi x2, vi x3, t4, t5], [], h, kc, ks) Q := by
  refine w_ld rfl rfl (Or.inr (Or.inr ⟨by decide, y1⟩)) ?_
  refine w_ld rfl rfl (Or.inl ⟨by decide, rfl⟩) ?_
  refine w_c32 rfl (by decide) 1 (by decide) ?_
  subst e_q2
  exact w_cv rfl [.index q2, vi x1, vi 1] [] rfl rfl (s_wt_4 rfl) rfl g4 k

theorem k83_6 {P : s_P} {d : Nat} {Q : s_O → Prop} {h : s_H} {kc ks : Nat} {r0 : Term} {x1 x2 x3 : Int} {t4 t5 s0 : Term}  (k1 : x2 < 0 → wr P d sw_c83 sw_h83 (26, [r0, vi x1, vi x2, vi x3, s0, t5], [], h, kc, ks) Q) (k2 : ¬ x2 < 0 → wr P d sw_c83 sw_h83 (12, [r0, vi x1, vi x2, vi x3, s0, t5], [], h, kc, ks) Q) (y1 : s_ty s0 = 3 := by first | rfl | assumption) (c2 : In3 x2 := by first | omega | assumption | (simp only [mk_len, List.length_map]; omega) | decide) : wr P d sw_c83 sw_h83 (6, [r0, vi x1, vi x2, vi x3, t4, t5], [s0], h, kc, ks) Q := by
  refine w_st (ls' := [r0, vi x1, vi x2, vi x3, s0, t5]) rfl (Or.inr ⟨by decide, y1⟩) rfl ?_
  refine w_ld rfl rfl (Or.inl ⟨by decide, rfl⟩) ?_
  exact w_if1 rfl c2 k1 k2

theorem k83_12 {P : s_P} {d : Nat} {Q : s_O → Prop} {h : s_H} {kc ks : Nat} {r0 : Term} {x1 x2 x3 : Int} {r4 t5 : Term}  (k1 : 3 < x2 → wr P d sw_c83 sw_h83 (26, [r0, vi x1, vi x2, vi x3, r4, t5], [], h, kc, ks) Q) (k2 : ¬ 3 < x2 → wr P d sw_c83 sw_h83 (17, [r0, vi x1, vi x2, vi x3, r4, t5], [], h, kc, ks) Q)  (c1 : In3 x2 := by first | omega | assumption | (simp only [mk_len, List.length_map]; omega) | decide) : wr P d sw_c83 sw_h83 (12, [r0, vi x1, vi x2, vi x3, r4, t5], [], h, kc, ks) Q := by
  refine w_ld rfl rfl (Or.inl ⟨by decide, rfl⟩) ?_
  refine w_c32 rfl (by decide) 3 (by decide) ?_
  exact w_if2 rfl c1 (by decide) k1 k2

theorem k83_17 {P : s_P} {d : Nat} {Q : s_O → Prop} {h : s_H} {kc ks : Nat} {r0 : Term} {x1 x2 x3 : Int} {r4 t5 : Term}  (k1 : x3 < 0 → wr P d sw_c83 sw_h83 (26, [r0, vi x1, vi x2, vi x3, r4, t5], [], h, kc, ks) Q) (k2 : ¬ x3 < 0 → wr P d sw_c83 sw_h83 (21, [r0, vi x1, vi x2, vi x3, r4, t5], [], h, kc, ks) Q)  (c1 : In3 x3 := by first | omega | assumption | (simp only [mk_len, List.length_map]; omega) | decide) : wr P d sw_c83 sw_h83 (17, [r0, vi x1, vi x2, vi x3, r4, t5], [], h, kc, ks) Q := by
  refine w_ld rfl rfl (Or.inl ⟨by decide, rfl⟩) ?_
  exact w_if1 rfl c1 k1 k2

theorem k83_21 {P : s_P} {d : Nat} {Q : s_O → Prop} {h : s_H} {kc ks : Nat} {r0 : Term} {x1 x2 x3 : Int} {r4 t5 : Term}  (k1 : x3 ≤ 4 → wr P d sw_c83 sw_h83 (34, [r0, vi x1, vi x2, vi x3, r4, t5], [], h, kc, ks) Q) (k2 : ¬ x3 ≤ 4 → wr P d sw_c83 sw_h83 (26, [r0, vi x1, vi x2, vi x3, r4, t5], [], h, kc, ks) Q)  (c1 : In3 x3 := by first | omega | assumption | (simp only [mk_len, List.length_map]; omega) | decide) : wr P d sw_c83 sw_h83 (21, [r0, vi x1, vi x2, vi x3, r4, t5], [], h, kc, ks) Q := by
  refine w_ld rfl rfl (Or.inl ⟨by decide, rfl⟩) ?_
  refine w_c32 rfl (by decide) 4 (by decide) ?_
  exact w_if2 rfl c1 (by decide) k1 k2

theorem k83_26 {P : s_P} {d : Nat} {Q : s_O → Prop} {h : s_H} {kc ks : Nat} {r0 : Term} {x1 x2 x3 : Int} {r4 t5 : Term}  (k : Q (.inr 1, h, kc + 1, ks + 6))   : wr P d sw_c83 sw_h83 (26, [r0, vi x1, vi x2, vi x3, r4, t5], [], h, kc, ks) Q := by
  exact w_throw rfl (s_wt_4 rfl) k

theorem k83_34 {P : s_P} {d : Nat} {Q : s_O → Prop} {h : s_H} {kc ks : Nat} {r0 : Term} {x1 x2 x3 : Int} {r4 t5 : Term} {q2 : Nat} {f3 : List Term} {v5 : Term} {q8 : Nat} {f9 : List Term} {v11 : Term} {q13 : Nat} {f14 : List Term} (g4 : s_get h q2 = some (1, 10, f3)) (g10 : s_get h q8 = some (1, 8, f9)) (g15 : s_get h q13 = some (1, 6, f14)) (k : wm P d 222 [.index q13, v11, vi x2, vi x3] h (wq P d sw_c83 sw_h83 48 [.index q2, vi x1, vi x2, vi x3, .index q8, t5] [] kc ks Q)) (e_q2 : r0 = .index q2 := by first | rfl | assumption) (e_q8 : r4 = .index q8 := by first | rfl | assumption) (e_q13 : v5 = .index q13 := by first | rfl | assumption) (y1 : s_ty r0 = 3 := by first | rfl | assumption) (n6 : s_nth f3 11 = some v5 := by first | rfl | assumption) (y7 : s_ty r4 = 3 := by first | rfl | assumption) (n12 : s_nth f9 6 = some v11 := by first | rfl | assumption)  : wr P d sw_c83 sw_h83 (34, [r0, vi x1, vi x2, vi x3, r4, t5], [], h, kc, ks) Q := by
  refine w_ld rfl rfl (Or.inr (Or.inr ⟨by decide, y1⟩)) ?_
  subst e_q2
  refine w_getf rfl g4 n6 ?_
  refine w_ld rfl rfl (Or.inr (Or.inr ⟨by decide, y7⟩)) ?_
  subst e_q8
  refine w_getf rfl g10 n12 ?_
  refine w_ld rfl rfl (Or.inl ⟨by decide, rfl⟩) ?_
  refine w_ld rfl rfl (Or.inl ⟨by decide, rfl⟩) ?_
  subst e_q13
  exact w_cv rfl [.index q13, v11, vi x2, vi x3] [] rfl rfl (s_wt_4 rfl) rfl g15 k

theorem k83_48 {P : s_P} {d : Nat} {Q : s_O → Prop} {h : s_H} {kc ks : Nat} {r0 : Term} {x1 x2 x3 : Int} {r4 t5 s0 : Term} {q4 : Nat} {f5 : List Term} (g6 : s_get h q4 = some (1, 10, f5)) (k : wm P d 54 [.index q4] h (wq P d sw_c83 sw_h83 54 [.index q4, vi x1, vi x2, vi x3, r4, s0] [] kc ks Q)) (e_q4 : r0 = .index q4 := by first | rfl | assumption) (y1 : s_ty r4 = 3 := by first | rfl | assumption) (y2 : s_ty s0 = 3 := by first | rfl | assumption) (y3 : s_ty r0 = 3 := by first | rfl | assumption)  : wr P d sw_c83 sw_h83 (48, [r0, vi x1, vi x2, vi x3, r4, t5], [s0], h, kc, ks) Q := by
  refine w_st (ls' := [r0, vi x1, vi x2, vi x3, r4, s0]) rfl (Or.inr ⟨by decide, y2⟩) (s_stK_r (pre := [r0, vi x1, vi x2, vi x3]) y1) ?_
  refine w_ld rfl rfl (Or.inr (Or.inr ⟨by decide, y3⟩)) ?_
  subst e_q4
  exact w_cv rfl [.index q4] [] rfl rfl (s_wt_4 rfl) rfl g6 k

theorem k83_54 {P : s_P} {d : Nat} {Q : s_O → Prop} {h : s_H} {kc ks : Nat} {r0 : Term} {x1 x2 x3 : Int} {r4 r5 : Term}  (k1 : ∀ q, r5 = .index q → wr P d sw_c83 sw_h83 (63, [r0, vi x1, vi x2, vi x3, r4, r5], [], h, kc, ks) Q) (k2 : (r5 = .null) → wr P d sw_c83 sw_h83 (59, [r0, vi x1, vi x2, vi x3, r4, r5], [], h, kc, ks) Q) (y1 : s_ty r5 = 3 := by first | rfl | assumption)  : wr P d sw_c83 sw_h83 (54, [r0, vi x1, vi x2, vi x3, r4, r5], [], h, kc, ks) Q := by
  refine w_ld rfl rfl (Or.inr (Or.inr ⟨by decide, y1⟩)) ?_
  exact w_ifnonnull rfl k1 k2 y1

theorem k83_59 {P : s_P} {d : Nat} {Q : s_O → Prop} {h : s_H} {kc ks : Nat} {r0 : Term} {x1 x2 x3 : Int} {r4 r5 : Term}  (k : wr P d sw_c83 sw_h83 (69, [r0, vi x1, vi x2, vi x3, r4, r5], [vi (-1)], h, kc, ks) Q)   : wr P d sw_c83 sw_h83 (59, [r0, vi x1, vi x2, vi x3, r4, r5], [], h, kc, ks) Q := by
  refine w_c32 rfl (by decide) (-1) (by decide) ?_
  refine w_goto rfl ?_
  exact k

theorem k83_63 {P : s_P} {d : Nat} {Q : s_O → Prop} {h : s_H} {kc ks : Nat} {r0 : Term} {x1 x2 x3 : Int} {r4 r5 : Term} {q3 : Nat} {f4 : List Term} (g5 : s_get h q3 = some (1, 10, f4)) (k : wm P d 35 [.index q3, r5] h (wq P d sw_c83 sw_h83 69 [.index q3, vi x1, vi x2, vi x3, r4, r5] [] kc ks Q)) (e_q3 : r0 = .index q3 := by first | rfl | assumption) (y1 : s_ty r0 = 3 := by first | rfl | assumption) (y2 : s_ty r5 = 3 := by first | rfl | assumption)  : wr P d sw_c83 sw_h83 (63, [r0, vi x1, vi x2, vi x3, r4, r5], [], h, kc, ks) Q := by
  refine w_ld rfl rfl (Or.inr (Or.inr ⟨by decide, y1⟩)) ?_
  refine w_ld rfl rfl (Or.inr (Or.inr ⟨by decide, y2⟩)) ?_
  subst e_q3
  exact w_cv rfl [.index q3, r5] [] rfl rfl (s_wt_4 rfl) rfl g5 k

theorem k83_69 {P : s_P} {d : Nat} {Q : s_O → Prop} {h : s_H} {kc ks : Nat} {r0 : Term} {x1 x2 x3 : Int} {r4 r5 : Term} {s0 : Int}  (k : Q (.inl (some (vi s0)), h, kc, ks))   : wr P d sw_c83 sw_h83 (69, [r0, vi x1, vi x2, vi x3, r4, r5], [vi s0], h, kc, ks) Q := by
  exact w_iret rfl k

/-! 84: FormulaWorks.same(II)Z -/
theorem k84_0 {P : s_P} {d : Nat} {Q : s_O → Prop} {h : s_H} {kc ks : Nat} {r0 : Term} {x1 x2 : Int} {t3 : Term} {q2 : Nat} {f3 : List Term} (g4 : s_get h q2 = some (1, 10, f3)) (k : wm P d 93 [.index q2, vi x1] h (wq P d sw_c84 sw_h84 5 [.index q2, vi x1, vi x2, t3] [] kc ks Q)) (e_q2 : r0 = .index q2 := by first | rfl | assumption) (y1 : s_ty r0 = 3 := by first | rfl | assumption)  : wr P d sw_c84 sw_h84 (0, [r0, vi x1, vi x2, t3], [], h, kc, ks) Q := by
  refine w_ld rfl rfl (Or.inr (Or.inr ⟨by decide, y1⟩)) ?_
  refine w_ld rfl rfl (Or.inl ⟨by decide, rfl⟩) ?_
  subst e_q2
  exact w_cv rfl [.index q2, vi x1] [] rfl rfl (s_wt_4 rfl) rfl g4 k

theorem k84_5 {P : s_P} {d : Nat} {Q : s_O → Prop} {h : s_H} {kc ks : Nat} {r0 : Term} {x1 x2 : Int} {t3 s0 : Term} {q3 : Nat} {f4 : List Term} (g5 : s_get h q3 = some (1, 10, f4)) (k : wm P d 93 [.index q3, vi x2] h (wq P d sw_c84 sw_h84 12 [.index q3, vi x1, vi x2, s0] [s0] kc ks Q)) (e_q3 : r0 = .index q3 := by first | rfl | assumption) (y1 : s_ty s0 = 3 := by first | rfl | assumption) (y2 : s_ty r0 = 3 := by first | rfl | assumption)  : wr P d sw_c84 sw_h84 (5, [r0, vi x1, vi x2, t3], [s0], h, kc, ks) Q := by
  refine w_st (ls' := [r0, vi x1, vi x2, s0]) rfl (Or.inr ⟨by decide, y1⟩) rfl ?_
  refine w_ld rfl rfl (Or.inr (Or.inr ⟨by decide, y1⟩)) ?_
  refine w_ld rfl rfl (Or.inr (Or.inr ⟨by decide, y2⟩)) ?_
  refine w_ld rfl rfl (Or.inl ⟨by decide, rfl⟩) ?_
  subst e_q3
  exact w_cv rfl [.index q3, vi x2] [s0] rfl rfl (s_wt_4 rfl) rfl g5 k

theorem k84_12 {P : s_P} {d : Nat} {Q : s_O → Prop} {h : s_H} {kc ks : Nat} {r0 : Term} {x1 x2 : Int} {r3 s0 s1 : Term} {q1 : Nat} {f2 : List Term} (g3 : s_get h q1 = some (1, 8, f2)) (k : wm P d 268 [.index q1, s1] h (wq P d sw_c84 sw_h84 15 [r0, vi x1, vi x2, r3] [] kc ks Q)) (e_q1 : s0 = .index q1 := by first | rfl | assumption)  : wr P d sw_c84 sw_h84 (12, [r0, vi x1, vi x2, r3], [s1, s0], h, kc, ks) Q := by
  subst e_q1
  exact w_cv rfl [.index q1, s1] [] rfl rfl (s_wt_4 rfl) rfl g3 k

theorem k84_15 {P : s_P} {d : Nat} {Q : s_O → Prop} {h : s_H} {kc ks : Nat} {r0 : Term} {x1 x2 : Int} {r3 : Term} {s0 : Int}  (k : Q (.inl (some (vi s0)), h, kc, ks))  (c1 : s0 = 0 ∨ s0 = 1 := by first | omega | assumption | (simp only [mk_len, List.length_map]; omega) | decide) : wr P d sw_c84 sw_h84 (15, [r0, vi x1, vi x2, r3], [vi s0], h, kc, ks) Q := by
  exact w_zret rfl c1 k

/-! 85: FormulaWorks.series(I)I -/
theorem k85_0 {P : s_P} {d : Nat} {Q : s_O → Prop} {h : s_H} {kc ks : Nat} {r0 : Term} {x1 : Int} {t2 : Term} {q2 : Nat} {f3 : List Term} (g4 : s_get h q2 = some (1, 10, f3)) (k : wm P d 64 [.index q2, vi x1, vi 0] h (wq P d sw_c85 sw_h85 6 [.index q2, vi x1, t2] [] kc ks Q)) (e_q2 : r0 = .index q2 := by first | rfl | assumption) (y1 : s_ty r0 = 3 := by first | rfl | assumption)  : wr P d sw_c85 sw_h85 (0, [r0, vi x1, t2], [], h, kc, ks) Q := by
  refine w_ld rfl rfl (Or.inr (Or.inr ⟨by decide, y1⟩)) ?_
  refine w_ld rfl rfl (Or.inl ⟨by decide, rfl⟩) ?_
  refine w_c32 rfl (by decide) 0 (by decide) ?_
  subst e_q2
  exact w_cv rfl [.index q2, vi x1, vi 0] [] rfl rfl (s_wt_4 rfl) rfl g4 k

theorem k85_6 {P : s_P} {d : Nat} {Q : s_O → Prop} {h : s_H} {kc ks : Nat} {r0 : Term} {x1 : Int} {t2 s0 : Term} {q2 : Nat} {f3 : List Term} {v5 : Term} {q7 : Nat} {f8 : List Term} (g4 : s_get h q2 = some (1, 8, f3)) (g9 : s_get h q7 = some (1, 4, f8)) (k : wm P d 167 [.index q7, vi 0] h (wq P d sw_c85 sw_h85 15 [r0, vi x1, .index q2] [] kc ks Q)) (e_q2 : s0 = .index q2 := by first | rfl | assumption) (e_q7 : v5 = .index q7 := by first | rfl | assumption) (y1 : s_ty s0 = 3 := by first | rfl | assumption) (n6 : s_nth f3 2 = some v5 := by first | rfl | assumption)  : wr P d sw_c85 sw_h85 (6, [r0, vi x1, t2], [s0], h, kc, ks) Q := by
  refine w_st (ls' := [r0, vi x1, s0]) rfl (Or.inr ⟨by decide, y1⟩) rfl ?_
  refine w_ld rfl rfl (Or.inr (Or.inr ⟨by decide, y1⟩)) ?_
  subst e_q2
  refine w_getf rfl g4 n6 ?_
  refine w_c32 rfl (by decide) 0 (by decide) ?_
  subst e_q7
  exact w_cv rfl [.index q7, vi 0] [] rfl rfl (s_wt_4 rfl) rfl g9 k

theorem k85_15 {P : s_P} {d : Nat} {Q : s_O → Prop} {h : s_H} {kc ks : Nat} {r0 : Term} {x1 : Int} {r2 : Term} {s0 : Int}  (k1 : s0 ≠ 0 → wr P d sw_c85 sw_h85 (26, [r0, vi x1, r2], [], h, kc, ks) Q) (k2 : ¬ s0 ≠ 0 → wr P d sw_c85 sw_h85 (18, [r0, vi x1, r2], [], h, kc, ks) Q)  (c1 : In3 s0 := by first | omega | assumption | (simp only [mk_len, List.length_map]; omega) | decide) : wr P d sw_c85 sw_h85 (15, [r0, vi x1, r2], [vi s0], h, kc, ks) Q := by
  exact w_if1 rfl c1 k1 k2

theorem k85_18 {P : s_P} {d : Nat} {Q : s_O → Prop} {h : s_H} {kc ks : Nat} {r0 : Term} {x1 : Int} {r2 : Term}  (k : Q (.inr 2, h, kc + 1, ks + 6))   : wr P d sw_c85 sw_h85 (18, [r0, vi x1, r2], [], h, kc, ks) Q := by
  exact w_throw rfl (s_wt_4 rfl) k

theorem k85_26 {P : s_P} {d : Nat} {Q : s_O → Prop} {h : s_H} {kc ks : Nat} {r0 : Term} {x1 : Int} {r2 : Term}  (k : wm P d 240 [r2] h (wq P d sw_c85 sw_h85 31 [r0, vi x1, r2] [r0] kc ks Q)) (y1 : s_ty r0 = 3 := by first | rfl | assumption) (y2 : s_ty r2 = 3 := by first | rfl | assumption)  : wr P d sw_c85 sw_h85 (26, [r0, vi x1, r2], [], h, kc, ks) Q := by
  refine w_ld rfl rfl (Or.inr (Or.inr ⟨by decide, y1⟩)) ?_
  refine w_ld rfl rfl (Or.inr (Or.inr ⟨by decide, y2⟩)) ?_
  exact w_cs rfl [r2] [r0] rfl rfl (s_wt_4 rfl) k

theorem k85_31 {P : s_P} {d : Nat} {Q : s_O → Prop} {h : s_H} {kc ks : Nat} {r0 : Term} {x1 : Int} {r2 s0 s1 : Term} {q1 : Nat} {f2 : List Term} (g3 : s_get h q1 = some (1, 10, f2)) (k : wm P d 39 [.index q1, s1] h (wq P d sw_c85 sw_h85 34 [r0, vi x1, r2] [] kc ks Q)) (e_q1 : s0 = .index q1 := by first | rfl | assumption)  : wr P d sw_c85 sw_h85 (31, [r0, vi x1, r2], [s1, s0], h, kc, ks) Q := by
  subst e_q1
  exact w_cv rfl [.index q1, s1] [] rfl rfl (s_wt_4 rfl) rfl g3 k

theorem k85_34 {P : s_P} {d : Nat} {Q : s_O → Prop} {h : s_H} {kc ks : Nat} {r0 : Term} {x1 : Int} {r2 : Term} {s0 : Int}  (k : Q (.inl (some (vi s0)), h, kc, ks))   : wr P d sw_c85 sw_h85 (34, [r0, vi x1, r2], [vi s0], h, kc, ks) Q := by
  exact w_iret rfl k

/-! 86: FormulaWorks.show(LFormulaWorks$Thing;)V -/
theorem k86_0 {P : s_P} {d : Nat} {Q : s_O → Prop} {h : s_H} {kc ks : Nat} {r0 r1 : Term} {q2 : Nat} {f3 : List Term} {z5 : Int} (g4 : s_get h q2 = some (1, 8, f3)) (k1 : z5 ≠ 3 → wr P d sw_c86 sw_h86 (22, [r0, .index q2], [], h, kc, ks) Q) (k2 : ¬ z5 ≠ 3 → wr P d sw_c86 sw_h86 (8, [r0, .index q2], [], h, kc, ks) Q) (e_q2 : r1 = .index q2 := by first | rfl | assumption) (y1 : s_ty r1 = 3 := by first | rfl | assumption) (n6 : s_nth f3 0 = some (vi z5) := by first | rfl | assumption) (c7 : In3 z5 := by first | omega | assumption | (simp only [mk_len, List.length_map]; omega) | decide) : wr P d sw_c86 sw_h86 (0, [r0, r1], [], h, kc, ks) Q := by
  refine w_ld rfl rfl (Or.inr (Or.inr ⟨by decide, y1⟩)) ?_
  subst e_q2
  refine w_getf rfl g4 n6 ?_
  refine w_c32 rfl (by decide) 3 (by decide) ?_
  exact w_if2 rfl c7 (by decide) k1 k2

theorem k86_8 {P : s_P} {d : Nat} {Q : s_O → Prop} {h : s_H} {kc ks : Nat} {r0 r1 : Term} {q2 : Nat} {f3 : List Term} {v5 : Term} {q8 : Nat} {f9 : List Term} {v11 : Term} {q13 : Nat} {f14 : List Term} (g4 : s_get h q2 = some (1, 10, f3)) (g10 : s_get h q8 = some (1, 8, f9)) (g15 : s_get h q13 = some (1, 9, f14)) (k : wm P d 313 [.index q13, v11] h (wq P d sw_c86 sw_h86 19 [.index q2, .index q8] [] kc ks Q)) (e_q2 : r0 = .index q2 := by first | rfl | assumption) (e_q8 : r1 = .index q8 := by first | rfl | assumption) (e_q13 : v5 = .index q13 := by first | rfl | assumption) (y1 : s_ty r0 = 3 := by first | rfl | assumption) (n6 : s_nth f3 12 = some v5 := by first | rfl | assumption) (y7 : s_ty r1 = 3 := by first | rfl | assumption) (n12 : s_nth f9 6 = some v11 := by first | rfl | assumption)  : wr P d sw_c86 sw_h86 (8, [r0, r1], [], h, kc, ks) Q := by
  refine w_ld rfl rfl (Or.inr (Or.inr ⟨by decide, y1⟩)) ?_
  subst e_q2
  refine w_getf rfl g4 n6 ?_
  refine w_ld rfl rfl (Or.inr (Or.inr ⟨by decide, y7⟩)) ?_
  subst e_q8
  refine w_getf rfl g10 n12 ?_
  subst e_q13
  exact w_cv rfl [.index q13, v11] [] rfl rfl (s_wt_4 rfl) rfl g15 k

theorem k86_22 {P : s_P} {d : Nat} {Q : s_O → Prop} {h : s_H} {kc ks : Nat} {r0 r1 : Term}  (k : wm P d 52 [r1, vi 0] h (wq P d sw_c86 sw_h86 27 [r0, r1] [] kc ks Q)) (y1 : s_ty r1 = 3 := by first | rfl | assumption)  : wr P d sw_c86 sw_h86 (22, [r0, r1], [], h, kc, ks) Q := by
  refine w_ld rfl rfl (Or.inr (Or.inr ⟨by decide, y1⟩)) ?_
  refine w_c32 rfl (by decide) 0 (by decide) ?_
  exact w_cs rfl [r1, vi 0] [] rfl rfl (s_wt_4 rfl) k

theorem k86_27 {P : s_P} {d : Nat} {Q : s_O → Prop} {h : s_H} {kc ks : Nat} {r0 r1 : Term} {q2 : Nat} {f3 : List Term} {v5 : Term} {q8 : Nat} {f9 : List Term} (g4 : s_get h q2 = some (1, 10, f3)) (g10 : s_get h q8 = some (1, 9, f9)) (k : wm P d 309 [.index q8, r1] h (wq P d sw_c86 sw_h86 35 [.index q2, r1] [] kc ks Q)) (e_q2 : r0 = .index q2 := by first | rfl | assumption) (e_q8 : v5 = .index q8 := by first | rfl | assumption) (y1 : s_ty r0 = 3 := by first | rfl | assumption) (n6 : s_nth f3 12 = some v5 := by first | rfl | assumption) (y7 : s_ty r1 = 3 := by first | rfl | assumption)  : wr P d sw_c86 sw_h86 (27, [r0, r1], [], h, kc, ks) Q := by
  refine w_ld rfl rfl (Or.inr (Or.inr ⟨by decide, y1⟩)) ?_
  subst e_q2
  refine w_getf rfl g4 n6 ?_
  refine w_ld rfl rfl (Or.inr (Or.inr ⟨by decide, y7⟩)) ?_
  subst e_q8
  exact w_cv rfl [.index q8, r1] [] rfl rfl (s_wt_4 rfl) rfl g10 k

theorem k86_35 {P : s_P} {d : Nat} {Q : s_O → Prop} {h : s_H} {kc ks : Nat} {r0 r1 : Term}  (k : Q (.inl none, h, kc, ks))   : wr P d sw_c86 sw_h86 (35, [r0, r1], [], h, kc, ks) Q := by
  exact w_ret rfl k

/-! 87: FormulaWorks.simple(I)I -/
theorem k87_0 {P : s_P} {d : Nat} {Q : s_O → Prop} {h : s_H} {kc ks : Nat} {r0 : Term} {x1 : Int} {t2 : Term} {q2 : Nat} {f3 : List Term} (g4 : s_get h q2 = some (1, 10, f3)) (k : wm P d 64 [.index q2, vi x1, vi 3] h (wq P d sw_c87 sw_h87 6 [.index q2, vi x1, t2] [] kc ks Q)) (e_q2 : r0 = .index q2 := by first | rfl | assumption) (y1 : s_ty r0 = 3 := by first | rfl | assumption)  : wr P d sw_c87 sw_h87 (0, [r0, vi x1, t2], [], h, kc, ks) Q := by
  refine w_ld rfl rfl (Or.inr (Or.inr ⟨by decide, y1⟩)) ?_
  refine w_ld rfl rfl (Or.inl ⟨by decide, rfl⟩) ?_
  refine w_c32 rfl (by decide) 3 (by decide) ?_
  subst e_q2
  exact w_cv rfl [.index q2, vi x1, vi 3] [] rfl rfl (s_wt_4 rfl) rfl g4 k

theorem k87_6 {P : s_P} {d : Nat} {Q : s_O → Prop} {h : s_H} {kc ks : Nat} {r0 : Term} {x1 : Int} {t2 s0 : Term} {q3 : Nat} {f4 : List Term} (g5 : s_get h q3 = some (1, 10, f4)) (k : wm P d 54 [.index q3] h (wq P d sw_c87 sw_h87 11 [.index q3, vi x1, s0] [] kc ks Q)) (e_q3 : r0 = .index q3 := by first | rfl | assumption) (y1 : s_ty s0 = 3 := by first | rfl | assumption) (y2 : s_ty r0 = 3 := by first | rfl | assumption)  : wr P d sw_c87 sw_h87 (6, [r0, vi x1, t2], [s0], h, kc, ks) Q := by
  refine w_st (ls' := [r0, vi x1, s0]) rfl (Or.inr ⟨by decide, y1⟩) rfl ?_
  refine w_ld rfl rfl (Or.inr (Or.inr ⟨by decide, y2⟩)) ?_
  subst e_q3
  exact w_cv rfl [.index q3] [] rfl rfl (s_wt_4 rfl) rfl g5 k

theorem k87_11 {P : s_P} {d : Nat} {Q : s_O → Prop} {h : s_H} {kc ks : Nat} {r0 : Term} {x1 : Int} {r2 : Term} {q2 : Nat} {f3 : List Term} {v5 : Term} {q8 : Nat} {f9 : List Term} {v11 : Term} {q13 : Nat} {f14 : List Term} (g4 : s_get h q2 = some (1, 10, f3)) (g10 : s_get h q8 = some (1, 8, f9)) (g15 : s_get h q13 = some (1, 9, f14)) (k : wm P d 315 [.index q13, v11] h (wq P d sw_c87 sw_h87 22 [.index q2, vi x1, .index q8] [] kc ks Q)) (e_q2 : r0 = .index q2 := by first | rfl | assumption) (e_q8 : r2 = .index q8 := by first | rfl | assumption) (e_q13 : v5 = .index q13 := by first | rfl | assumption) (y1 : s_ty r0 = 3 := by first | rfl | assumption) (n6 : s_nth f3 12 = some v5 := by first | rfl | assumption) (y7 : s_ty r2 = 3 := by first | rfl | assumption) (n12 : s_nth f9 6 = some v11 := by first | rfl | assumption)  : wr P d sw_c87 sw_h87 (11, [r0, vi x1, r2], [], h, kc, ks) Q := by
  refine w_ld rfl rfl (Or.inr (Or.inr ⟨by decide, y1⟩)) ?_
  subst e_q2
  refine w_getf rfl g4 n6 ?_
  refine w_ld rfl rfl (Or.inr (Or.inr ⟨by decide, y7⟩)) ?_
  subst e_q8
  refine w_getf rfl g10 n12 ?_
  subst e_q13
  exact w_cv rfl [.index q13, v11] [] rfl rfl (s_wt_4 rfl) rfl g15 k

theorem k87_26 {P : s_P} {d : Nat} {Q : s_O → Prop} {h : s_H} {kc ks : Nat} {r0 : Term} {x1 : Int} {r2 : Term} {s0 : Int}  (k : Q (.inl (some (vi s0)), h, kc, ks))   : wr P d sw_c87 sw_h87 (26, [r0, vi x1, r2], [vi s0], h, kc, ks) Q := by
  exact w_iret rfl k

/-! 88: FormulaWorks.solved(II)I -/
theorem k88_0 {P : s_P} {d : Nat} {Q : s_O → Prop} {h : s_H} {kc ks : Nat} {r0 : Term} {x1 x2 : Int} {t3 : Term} {q2 : Nat} {f3 : List Term} (g4 : s_get h q2 = some (1, 10, f3)) (k : wm P d 64 [.index q2, vi x1, vi 2] h (wq P d sw_c88 sw_h88 6 [.index q2, vi x1, vi x2, t3] [] kc ks Q)) (e_q2 : r0 = .index q2 := by first | rfl | assumption) (y1 : s_ty r0 = 3 := by first | rfl | assumption)  : wr P d sw_c88 sw_h88 (0, [r0, vi x1, vi x2, t3], [], h, kc, ks) Q := by
  refine w_ld rfl rfl (Or.inr (Or.inr ⟨by decide, y1⟩)) ?_
  refine w_ld rfl rfl (Or.inl ⟨by decide, rfl⟩) ?_
  refine w_c32 rfl (by decide) 2 (by decide) ?_
  subst e_q2
  exact w_cv rfl [.index q2, vi x1, vi 2] [] rfl rfl (s_wt_4 rfl) rfl g4 k

theorem k88_6 {P : s_P} {d : Nat} {Q : s_O → Prop} {h : s_H} {kc ks : Nat} {r0 : Term} {x1 x2 : Int} {t3 s0 : Term} {q2 : Nat} {f3 : List Term} {z5 : Int} (g4 : s_get h q2 = some (1, 8, f3)) (k : wm P d 51 [vi x2, vi (z5 - 1)] h (wq P d sw_c88 sw_h88 17 [r0, vi x1, vi x2, .index q2] [] kc ks Q)) (e_q2 : s0 = .index q2 := by first | rfl | assumption) (y1 : s_ty s0 = 3 := by first | rfl | assumption) (n6 : s_nth f3 4 = some (vi z5) := by first | rfl | assumption)  : wr P d sw_c88 sw_h88 (6, [r0, vi x1, vi x2, t3], [s0], h, kc, ks) Q := by
  refine w_st (ls' := [r0, vi x1, vi x2, s0]) rfl (Or.inr ⟨by decide, y1⟩) rfl ?_
  refine w_ld rfl rfl (Or.inl ⟨by decide, rfl⟩) ?_
  refine w_ld rfl rfl (Or.inr (Or.inr ⟨by decide, y1⟩)) ?_
  subst e_q2
  refine w_getf rfl g4 n6 ?_
  refine w_c32 rfl (by decide) 1 (by decide) ?_
  refine w_isub rfl ?_
  exact w_cs rfl [vi x2, vi (z5 - 1)] [] rfl rfl (s_wt_4 rfl) k

theorem k88_17 {P : s_P} {d : Nat} {Q : s_O → Prop} {h : s_H} {kc ks : Nat} {r0 : Term} {x1 x2 : Int} {r3 : Term} {q2 : Nat} {f3 : List Term} {v5 v8 : Term} {q10 : Nat} {f11 : List Term} (g4 : s_get h q2 = some (1, 10, f3)) (g12 : s_get h q10 = some (1, 2, f11)) (k : wm P d 147 [.index q10, r3, vi x2, v8] h (wq P d sw_c88 sw_h88 31 [.index q2, vi x1, vi x2, r3] [.index q2] kc ks Q)) (e_q2 : r0 = .index q2 := by first | rfl | assumption) (e_q10 : v5 = .index q10 := by first | rfl | assumption) (y1 : s_ty r0 = 3 := by first | rfl | assumption) (n6 : s_nth f3 10 = some v5 := by first | rfl | assumption) (y7 : s_ty r3 = 3 := by first | rfl | assumption) (n9 : s_nth f3 17 = some v8 := by first | rfl | assumption)  : wr P d sw_c88 sw_h88 (17, [r0, vi x1, vi x2, r3], [], h, kc, ks) Q := by
  refine w_ld rfl rfl (Or.inr (Or.inr ⟨by decide, y1⟩)) ?_
  refine w_ld rfl rfl (Or.inr (Or.inr ⟨by decide, y1⟩)) ?_
  subst e_q2
  refine w_getf rfl g4 n6 ?_
  refine w_ld rfl rfl (Or.inr (Or.inr ⟨by decide, y7⟩)) ?_
  refine w_ld rfl rfl (Or.inl ⟨by decide, rfl⟩) ?_
  refine w_ld rfl rfl (Or.inr (Or.inr ⟨by decide, rfl⟩)) ?_
  refine w_getf rfl g4 n9 ?_
  subst e_q10
  exact w_cv rfl [.index q10, r3, vi x2, v8] [.index q2] rfl rfl (s_wt_4 rfl) rfl g12 k

theorem k88_31 {P : s_P} {d : Nat} {Q : s_O → Prop} {h : s_H} {kc ks : Nat} {r0 : Term} {x1 x2 : Int} {r3 s0 s1 : Term} {q1 : Nat} {f2 : List Term} (g3 : s_get h q1 = some (1, 10, f2)) (k : wm P d 36 [.index q1, s1] h (wq P d sw_c88 sw_h88 34 [r0, vi x1, vi x2, r3] [] kc ks Q)) (e_q1 : s0 = .index q1 := by first | rfl | assumption)  : wr P d sw_c88 sw_h88 (31, [r0, vi x1, vi x2, r3], [s1, s0], h, kc, ks) Q := by
  subst e_q1
  exact w_cv rfl [.index q1, s1] [] rfl rfl (s_wt_4 rfl) rfl g3 k

theorem k88_34 {P : s_P} {d : Nat} {Q : s_O → Prop} {h : s_H} {kc ks : Nat} {r0 : Term} {x1 x2 : Int} {r3 : Term} {s0 : Int}  (k : Q (.inl (some (vi s0)), h, kc, ks))   : wr P d sw_c88 sw_h88 (34, [r0, vi x1, vi x2, r3], [vi s0], h, kc, ks) Q := by
  exact w_iret rfl k

/-! 89: FormulaWorks.sum(II)I -/
theorem k89_0 {P : s_P} {d : Nat} {Q : s_O → Prop} {h : s_H} {kc ks : Nat} {r0 : Term} {x1 x2 : Int} {t3 t4 t5 t6 : Term} {q2 : Nat} {f3 : List Term} (g4 : s_get h q2 = some (1, 10, f3)) (k : wm P d 64 [.index q2, vi x1, vi 0] h (wq P d sw_c89 sw_h89 6 [.index q2, vi x1, vi x2, t3, t4, t5, t6] [] kc ks Q)) (e_q2 : r0 = .index q2 := by first | rfl | assumption) (y1 : s_ty r0 = 3 := by first | rfl | assumption)  : wr P d sw_c89 sw_h89 (0, [r0, vi x1, vi x2, t3, t4, t5, t6], [], h, kc, ks) Q := by
  refine w_ld rfl rfl (Or.inr (Or.inr ⟨by decide, y1⟩)) ?_
  refine w_ld rfl rfl (Or.inl ⟨by decide, rfl⟩) ?_
  refine w_c32 rfl (by decide) 0 (by decide) ?_
  subst e_q2
  exact w_cv rfl [.index q2, vi x1, vi 0] [] rfl rfl (s_wt_4 rfl) rfl g4 k

theorem k89_6 {P : s_P} {d : Nat} {Q : s_O → Prop} {h : s_H} {kc ks : Nat} {r0 : Term} {x1 x2 : Int} {t3 t4 t5 t6 s0 : Term}  (k : wm P d 57 [s0, vi x2] h (wq P d sw_c89 sw_h89 12 [r0, vi x1, vi x2, s0, t4, t5, t6] [] kc ks Q)) (y1 : s_ty s0 = 3 := by first | rfl | assumption)  : wr P d sw_c89 sw_h89 (6, [r0, vi x1, vi x2, t3, t4, t5, t6], [s0], h, kc, ks) Q := by
  refine w_st (ls' := [r0, vi x1, vi x2, s0, t4, t5, t6]) rfl (Or.inr ⟨by decide, y1⟩) rfl ?_
  refine w_ld rfl rfl (Or.inr (Or.inr ⟨by decide, y1⟩)) ?_
  refine w_ld rfl rfl (Or.inl ⟨by decide, rfl⟩) ?_
  exact w_cs rfl [s0, vi x2] [] rfl rfl (s_wt_4 rfl) k

theorem k89_12 {P : s_P} {d : Nat} {Q : s_O → Prop} {h : s_H} {kc ks : Nat} {r0 : Term} {x1 x2 : Int} {r3 t4 t5 t6 : Term}  (k1 : x2 ≠ 0 → wr P d sw_c89 sw_h89 (23, [r0, vi x1, vi x2, r3, vi 1, t5, t6], [], h, kc, ks) Q) (k2 : ¬ x2 ≠ 0 → wr P d sw_c89 sw_h89 (19, [r0, vi x1, vi x2, r3, vi 1, t5, t6], [], h, kc, ks) Q) (y1 : s_ty r3 = 3 := by first | rfl | assumption) (c2 : In3 x2 := by first | omega | assumption | (simp only [mk_len, List.length_map]; omega) | decide) : wr P d sw_c89 sw_h89 (12, [r0, vi x1, vi x2, r3, t4, t5, t6], [], h, kc, ks) Q := by
  refine w_c32 rfl (by decide) 1 (by decide) ?_
  refine w_st (ls' := [r0, vi x1, vi x2, r3, vi 1, t5, t6]) rfl (Or.inl ⟨by decide, rfl⟩) (s_stK_r (pre := [r0, vi x1, vi x2]) y1) ?_
  refine w_ld rfl rfl (Or.inl ⟨by decide, rfl⟩) ?_
  exact w_if1 rfl c2 k1 k2

theorem k89_19 {P : s_P} {d : Nat} {Q : s_O → Prop} {h : s_H} {kc ks : Nat} {r0 : Term} {x1 x2 : Int} {r3 : Term} {x4 : Int} {t5 t6 : Term}  (k : wr P d sw_c89 sw_h89 (24, [r0, vi x1, vi x2, r3, vi x4, t5, t6], [vi 0], h, kc, ks) Q)   : wr P d sw_c89 sw_h89 (19, [r0, vi x1, vi x2, r3, vi x4, t5, t6], [], h, kc, ks) Q := by
  refine w_c32 rfl (by decide) 0 (by decide) ?_
  refine w_goto rfl ?_
  exact k

theorem k89_23 {P : s_P} {d : Nat} {Q : s_O → Prop} {h : s_H} {kc ks : Nat} {r0 : Term} {x1 x2 : Int} {r3 : Term} {x4 : Int} {t5 t6 : Term}  (k : wr P d sw_c89 sw_h89 (24, [r0, vi x1, vi x2, r3, vi x4, t5, t6], [vi 1], h, kc, ks) Q)   : wr P d sw_c89 sw_h89 (23, [r0, vi x1, vi x2, r3, vi x4, t5, t6], [], h, kc, ks) Q := by
  refine w_c32 rfl (by decide) 1 (by decide) ?_
  exact k

theorem k89_24 {P : s_P} {d : Nat} {Q : s_O → Prop} {h : s_H} {kc ks : Nat} {r0 : Term} {x1 x2 : Int} {r3 : Term} {x4 : Int} {t5 t6 : Term} {s0 : Int}  (k : wr P d sw_c89 sw_h89 (29, [r0, vi x1, vi x2, r3, vi x4, vi s0, vi 0], [], h, kc, ks) Q)   : wr P d sw_c89 sw_h89 (24, [r0, vi x1, vi x2, r3, vi x4, t5, t6], [vi s0], h, kc, ks) Q := by
  refine w_st (ls' := [r0, vi x1, vi x2, r3, vi x4, vi s0, t6]) rfl (Or.inl ⟨by decide, rfl⟩) rfl ?_
  refine w_c32 rfl (by decide) 0 (by decide) ?_
  refine w_st (ls' := [r0, vi x1, vi x2, r3, vi x4, vi s0, vi 0]) rfl (Or.inl ⟨by decide, rfl⟩) rfl ?_
  exact k

theorem k89_29 {P : s_P} {d : Nat} {Q : s_O → Prop} {h : s_H} {kc ks : Nat} {r0 : Term} {x1 x2 : Int} {r3 : Term} {x4 x5 x6 : Int}  (k1 : x2 - 1 ≤ x6 → wr P d sw_c89 sw_h89 (69, [r0, vi x1, vi x2, r3, vi x4, vi x5, vi x6], [], h, kc, ks) Q) (k2 : ¬ x2 - 1 ≤ x6 → wr P d sw_c89 sw_h89 (37, [r0, vi x1, vi x2, r3, vi x4, vi x5, vi x6], [], h, kc, ks) Q)  (c1 : In3 x6 := by first | omega | assumption | (simp only [mk_len, List.length_map]; omega) | decide) (c2 : In3 (x2 - 1) := by first | omega | assumption | (simp only [mk_len, List.length_map]; omega) | decide) : wr P d sw_c89 sw_h89 (29, [r0, vi x1, vi x2, r3, vi x4, vi x5, vi x6], [], h, kc, ks) Q := by
  refine w_ld rfl rfl (Or.inl ⟨by decide, rfl⟩) ?_
  refine w_ld rfl rfl (Or.inl ⟨by decide, rfl⟩) ?_
  refine w_c32 rfl (by decide) 1 (by decide) ?_
  refine w_isub rfl ?_
  exact w_if2 rfl c1 c2 k1 k2

theorem k89_37 {P : s_P} {d : Nat} {Q : s_O → Prop} {h : s_H} {kc ks : Nat} {r0 : Term} {x1 x2 : Int} {r3 : Term} {x4 x5 x6 : Int}  (k : wm P d 100 [r3, vi x6] h (wq P d sw_c89 sw_h89 45 [r0, vi x1, vi x2, r3, vi x4, vi x5, vi x6] [vi x4] kc ks Q)) (y1 : s_ty r3 = 3 := by first | rfl | assumption)  : wr P d sw_c89 sw_h89 (37, [r0, vi x1, vi x2, r3, vi x4, vi x5, vi x6], [], h, kc, ks) Q := by
  refine w_ld rfl rfl (Or.inl ⟨by decide, rfl⟩) ?_
  refine w_ld rfl rfl (Or.inr (Or.inr ⟨by decide, y1⟩)) ?_
  refine w_ld rfl rfl (Or.inl ⟨by decide, rfl⟩) ?_
  exact w_cs rfl [r3, vi x6] [vi x4] rfl rfl (s_wt_4 rfl) k

theorem k89_45 {P : s_P} {d : Nat} {Q : s_O → Prop} {h : s_H} {kc ks : Nat} {r0 : Term} {x1 x2 : Int} {r3 : Term} {x4 x5 x6 s0 s1 : Int}  (k : wr P d sw_c89 sw_h89 (29, [r0, vi x1, vi x2, r3, vi (Int.tmod (s0 * s1) 32003), vi (Int.tmod (x5 + (Int.tmod (s0 * s1) 32003)) 32003), vi (x6 + 1)], [], h, kc, ks) Q) (y2 : s_ty r3 = 3 := by first | rfl | assumption) (c1 : In3 (s0 * s1) := by first | omega | assumption | (simp only [mk_len, List.length_map]; omega) | decide) (c3 : In3 (x5 + (Int.tmod (s0 * s1) 32003)) := by first | omega | assumption | (simp only [mk_len, List.length_map]; omega) | decide) : wr P d sw_c89 sw_h89 (45, [r0, vi x1, vi x2, r3, vi x4, vi x5, vi x6], [vi s1, vi s0], h, kc, ks) Q := by
  refine w_imul rfl ?_
  refine w_c32 rfl (by decide) 32003 (by decide) ?_
  refine w_irem rfl c1 (by decide) (by decide) ?_
  refine w_st (ls' := [r0, vi x1, vi x2, r3, vi (Int.tmod (s0 * s1) 32003), vi x5, vi x6]) rfl (Or.inl ⟨by decide, rfl⟩) (s_stK_r (pre := [r0, vi x1, vi x2]) y2) ?_
  refine w_ld rfl rfl (Or.inl ⟨by decide, rfl⟩) ?_
  refine w_ld rfl rfl (Or.inl ⟨by decide, rfl⟩) ?_
  refine w_iadd rfl ?_
  refine w_c32 rfl (by decide) 32003 (by decide) ?_
  refine w_irem rfl c3 (by decide) (by decide) ?_
  refine w_st (ls' := [r0, vi x1, vi x2, r3, vi (Int.tmod (s0 * s1) 32003), vi (Int.tmod (x5 + (Int.tmod (s0 * s1) 32003)) 32003), vi x6]) rfl (Or.inl ⟨by decide, rfl⟩) rfl ?_
  refine w_iinc (ls' := [r0, vi x1, vi x2, r3, vi (Int.tmod (s0 * s1) 32003), vi (Int.tmod (x5 + (Int.tmod (s0 * s1) 32003)) 32003), vi (x6 + 1)]) rfl rfl 1 (by decide) rfl ?_
  refine w_goto rfl ?_
  exact k

theorem k89_69 {P : s_P} {d : Nat} {Q : s_O → Prop} {h : s_H} {kc ks : Nat} {r0 : Term} {x1 x2 : Int} {r3 : Term} {x4 x5 x6 : Int}  (k : Q (.inl (some (vi x5)), h, kc, ks))   : wr P d sw_c89 sw_h89 (69, [r0, vi x1, vi x2, r3, vi x4, vi x5, vi x6], [], h, kc, ks) Q := by
  refine w_ld rfl rfl (Or.inl ⟨by decide, rfl⟩) ?_
  exact w_iret rfl k

/-! 90: FormulaWorks.take(I)I -/
theorem k90_0 {P : s_P} {d : Nat} {Q : s_O → Prop} {h : s_H} {kc ks : Nat} {r0 : Term} {x1 : Int} {t2 : Term} {q2 : Nat} {f3 : List Term} (g4 : s_get h q2 = some (1, 10, f3)) (k : wm P d 93 [.index q2, vi x1] h (wq P d sw_c90 sw_h90 5 [.index q2, vi x1, t2] [] kc ks Q)) (e_q2 : r0 = .index q2 := by first | rfl | assumption) (y1 : s_ty r0 = 3 := by first | rfl | assumption)  : wr P d sw_c90 sw_h90 (0, [r0, vi x1, t2], [], h, kc, ks) Q := by
  refine w_ld rfl rfl (Or.inr (Or.inr ⟨by decide, y1⟩)) ?_
  refine w_ld rfl rfl (Or.inl ⟨by decide, rfl⟩) ?_
  subst e_q2
  exact w_cv rfl [.index q2, vi x1] [] rfl rfl (s_wt_4 rfl) rfl g4 k

theorem k90_5 {P : s_P} {d : Nat} {Q : s_O → Prop} {h : s_H} {kc ks : Nat} {r0 : Term} {x1 : Int} {t2 s0 : Term}  (k : wm P d 58 [s0] h (wq P d sw_c90 sw_h90 10 [r0, vi x1, s0] [] kc ks Q)) (y1 : s_ty s0 = 3 := by first | rfl | assumption)  : wr P d sw_c90 sw_h90 (5, [r0, vi x1, t2], [s0], h, kc, ks) Q := by
  refine w_st (ls' := [r0, vi x1, s0]) rfl (Or.inr ⟨by decide, y1⟩) rfl ?_
  refine w_ld rfl rfl (Or.inr (Or.inr ⟨by decide, y1⟩)) ?_
  exact w_cs rfl [s0] [] rfl rfl (s_wt_4 rfl) k

theorem k90_10 {P : s_P} {d : Nat} {Q : s_O → Prop} {h : s_H} {kc ks : Nat} {r0 : Term} {x1 : Int} {r2 : Term} {q2 : Nat} {f3 : List Term} {v5 : Term} {q7 : Nat} {f8 : List Term} {z10 : Int} (g4 : s_get h q2 = some (1, 8, f3)) (g9 : s_get h q7 = some (1, 4, f8)) (k1 : z10 ≤ 10 → wr P d sw_c90 sw_h90 (30, [r0, vi x1, .index q2], [], h, kc, ks) Q) (k2 : ¬ z10 ≤ 10 → wr P d sw_c90 sw_h90 (22, [r0, vi x1, .index q2], [], h, kc, ks) Q) (e_q2 : r2 = .index q2 := by first | rfl | assumption) (e_q7 : v5 = .index q7 := by first | rfl | assumption) (y1 : s_ty r2 = 3 := by first | rfl | assumption) (n6 : s_nth f3 1 = some v5 := by first | rfl | assumption) (n11 : s_nth f8 1 = some (vi z10) := by first | rfl | assumption) (c12 : In3 z10 := by first | omega | assumption | (simp only [mk_len, List.length_map]; omega) | decide) : wr P d sw_c90 sw_h90 (10, [r0, vi x1, r2], [], h, kc, ks) Q := by
  refine w_ld rfl rfl (Or.inr (Or.inr ⟨by decide, y1⟩)) ?_
  subst e_q2
  refine w_getf rfl g4 n6 ?_
  subst e_q7
  refine w_getf rfl g9 n11 ?_
  refine w_c32 rfl (by decide) 10 (by decide) ?_
  exact w_if2 rfl c12 (by decide) k1 k2

theorem k90_22 {P : s_P} {d : Nat} {Q : s_O → Prop} {h : s_H} {kc ks : Nat} {r0 : Term} {x1 : Int} {r2 : Term}  (k : Q (.inr 1, h, kc + 1, ks + 6))   : wr P d sw_c90 sw_h90 (22, [r0, vi x1, r2], [], h, kc, ks) Q := by
  exact w_throw rfl (s_wt_4 rfl) k

theorem k90_30 {P : s_P} {d : Nat} {Q : s_O → Prop} {h : s_H} {kc ks : Nat} {r0 : Term} {x1 : Int} {r2 : Term} {q2 : Nat} {f3 : List Term} {z5 : Int} (g4 : s_get h q2 = some (1, 10, f3)) (k1 : z5 < 16 → wr P d sw_c90 sw_h90 (41, [.index q2, vi x1, r2], [], h, kc, ks) Q) (k2 : ¬ z5 < 16 → wr P d sw_c90 sw_h90 (39, [.index q2, vi x1, r2], [], h, kc, ks) Q) (e_q2 : r0 = .index q2 := by first | rfl | assumption) (y1 : s_ty r0 = 3 := by first | rfl | assumption) (n6 : s_nth f3 7 = some (vi z5) := by first | rfl | assumption) (c7 : In3 z5 := by first | omega | assumption | (simp only [mk_len, List.length_map]; omega) | decide) : wr P d sw_c90 sw_h90 (30, [r0, vi x1, r2], [], h, kc, ks) Q := by
  refine w_ld rfl rfl (Or.inr (Or.inr ⟨by decide, y1⟩)) ?_
  subst e_q2
  refine w_getf rfl g4 n6 ?_
  refine w_c32 rfl (by decide) 16 (by decide) ?_
  exact w_if2 rfl c7 (by decide) k1 k2

theorem k90_39 {P : s_P} {d : Nat} {Q : s_O → Prop} {h : s_H} {kc ks : Nat} {r0 : Term} {x1 : Int} {r2 : Term}  (k : Q (.inl (some (vi (-1))), h, kc, ks))   : wr P d sw_c90 sw_h90 (39, [r0, vi x1, r2], [], h, kc, ks) Q := by
  refine w_c32 rfl (by decide) (-1) (by decide) ?_
  exact w_iret rfl k

theorem k90_41 {P : s_P} {d : Nat} {Q : s_O → Prop} {h : s_H} {kc ks : Nat} {r0 : Term} {x1 : Int} {r2 : Term} {q2 : Nat} {f3 : List Term} {v5 : Term} {z7 : Int} {q10 : Nat} {f11 : List Term} {v13 : Term} {q15 : Nat} {a16 : List Term} {tg18 : Nat} {f25 : List Term} {z27 : Int} {f31 : List Term} {z33 : Int} (g4 : s_get h q2 = some (1, 10, f3)) (g12 : s_get h q10 = some (1, 8, f11)) (g17 : s_get h q15 = some (0, tg18, a16)) (w20 : s_okA h s_comp tg18 v13 = true) (g26 : s_get (hp h q15 (0, tg18, a16.set (Int.toNat (z7)) v13)) q2 = some (1, 10, f25)) (g32 : s_get (hp (hp h q15 (0, tg18, a16.set (Int.toNat (z7)) v13)) q2 (1, 10, f25.set 7 (vi (z27 + 1)))) q2 = some (1, 10, f31)) (k : Q (.inl (some (vi z33)), (hp (hp h q15 (0, tg18, a16.set (Int.toNat (z7)) v13)) q2 (1, 10, f25.set 7 (vi (z27 + 1)))), kc, ks)) (e_q2 : r0 = .index q2 := by first | rfl | assumption) (e_q10 : r2 = .index q10 := by first | rfl | assumption) (e_q15 : v5 = .index q15 := by first | rfl | assumption) (y1 : s_ty r0 = 3 := by first | rfl | assumption) (n6 : s_nth f3 6 = some v5 := by first | rfl | assumption) (n8 : s_nth f3 7 = some (vi z7) := by first | rfl | assumption) (y9 : s_ty r2 = 3 := by first | rfl | assumption) (n14 : s_nth f11 1 = some v13 := by first | rfl | assumption) (u19 : tg18 = 2 ∨ tg18 = 3 := by first | decide | assumption) (n28 : s_nth f25 7 = some (vi z27) := by first | rfl | assumption) (l29 : 7 < f25.length := by first | exact Nat.le_of_ble_eq_true rfl | omega | assumption) (n34 : s_nth f31 7 = some (vi z33) := by first | rfl | assumption) (c21 : z7 < a16.length := by first | omega | assumption | (simp only [mk_len, List.length_map]; omega) | decide) (c22 : 0 ≤ z7 := by first | omega | assumption | (simp only [mk_len, List.length_map]; omega) | decide) (c23 : In3 z7 := by first | omega | assumption | (simp only [mk_len, List.length_map]; omega) | decide) (c24 : 0 < q15 := by first | omega | assumption | (simp only [mk_len, List.length_map]; omega) | decide) (c30 : 0 < q2 := by first | omega | assumption | (simp only [mk_len, List.length_map]; omega) | decide) : wr P d sw_c90 sw_h90 (41, [r0, vi x1, r2], [], h, kc, ks) Q := by
  refine w_ld rfl rfl (Or.inr (Or.inr ⟨by decide, y1⟩)) ?_
  subst e_q2
  refine w_getf rfl g4 n6 ?_
  refine w_ld rfl rfl (Or.inr (Or.inr ⟨by decide, rfl⟩)) ?_
  refine w_getf rfl g4 n8 ?_
  refine w_ld rfl rfl (Or.inr (Or.inr ⟨by decide, y9⟩)) ?_
  subst e_q10
  refine w_getf rfl g12 n14 ?_
  subst e_q15
  refine w_aast rfl g17 u19 (Nat.ble_eq_true_of_le c24) c23 c22 c21 w20 ?_
  refine w_ld rfl rfl (Or.inr (Or.inr ⟨by decide, rfl⟩)) ?_
  refine w_dup rfl rfl ?_
  refine w_getf rfl g26 n28 ?_
  refine w_c32 rfl (by decide) 1 (by decide) ?_
  refine w_iadd rfl ?_
  refine w_putf rfl g26 (Nat.ble_eq_true_of_le c30) rfl (Nat.ble_eq_true_of_le l29) ?_
  refine w_ld rfl rfl (Or.inr (Or.inr ⟨by decide, rfl⟩)) ?_
  refine w_getf rfl g32 n34 ?_
  exact w_iret rfl k

/-! 91: FormulaWorks.tellFault()V -/
theorem k91_0 {P : s_P} {d : Nat} {Q : s_O → Prop} {h : s_H} {kc ks : Nat} {r0 : Term} {q2 : Nat} {f3 : List Term} {v5 : Term} {q7 : Nat} {f8 : List Term} {z10 : Int} {f14 : List Term} {v16 : Term} {q18 : Nat} {f19 : List Term} {z21 : Int} {f24 : List Term} {z26 : Int} (g4 : s_get h q2 = some (1, 10, f3)) (g9 : s_get h q7 = some (1, 5, f8)) (g15 : s_get (hp h q2 (1, 10, f3.set 4 (vi z10))) q2 = some (1, 10, f14)) (g20 : s_get (hp h q2 (1, 10, f3.set 4 (vi z10))) q18 = some (1, 5, f19)) (g25 : s_get (hp (hp h q2 (1, 10, f3.set 4 (vi z10))) q2 (1, 10, f14.set 5 (vi z21))) q2 = some (1, 10, f24)) (k1 : z26 = 0 → wr P d sw_c91 sw_h91 (37, [.index q2], [], (hp (hp h q2 (1, 10, f3.set 4 (vi z10))) q2 (1, 10, f14.set 5 (vi z21))), kc, ks) Q) (k2 : ¬ z26 = 0 → wr P d sw_c91 sw_h91 (29, [.index q2], [], (hp (hp h q2 (1, 10, f3.set 4 (vi z10))) q2 (1, 10, f14.set 5 (vi z21))), kc, ks) Q) (e_q2 : r0 = .index q2 := by first | rfl | assumption) (e_q7 : v5 = .index q7 := by first | rfl | assumption) (e_q18 : v16 = .index q18 := by first | rfl | assumption) (y1 : s_ty r0 = 3 := by first | rfl | assumption) (n6 : s_nth f3 13 = some v5 := by first | rfl | assumption) (n11 : s_nth f8 18 = some (vi z10) := by first | rfl | assumption) (l12 : 4 < f3.length := by first | exact Nat.le_of_ble_eq_true rfl | omega | assumption) (n17 : s_nth f14 13 = some v16 := by first | rfl | assumption) (n22 : s_nth f19 19 = some (vi z21) := by first | rfl | assumption) (l23 : 5 < f14.length := by first | exact Nat.le_of_ble_eq_true rfl | omega | assumption) (n27 : s_nth f24 4 = some (vi z26) := by first | rfl | assumption) (c13 : 0 < q2 := by first | omega | assumption | (simp only [mk_len, List.length_map]; omega) | decide) (c28 : In3 z26 := by first | omega | assumption | (simp only [mk_len, List.length_map]; omega) | decide) : wr P d sw_c91 sw_h91 (0, [r0], [], h, kc, ks) Q := by
  refine w_ld rfl rfl (Or.inr (Or.inr ⟨by decide, y1⟩)) ?_
  refine w_ld rfl rfl (Or.inr (Or.inr ⟨by decide, y1⟩)) ?_
  subst e_q2
  refine w_getf rfl g4 n6 ?_
  subst e_q7
  refine w_getf rfl g9 n11 ?_
  refine w_putf rfl g4 (Nat.ble_eq_true_of_le c13) rfl (Nat.ble_eq_true_of_le l12) ?_
  refine w_ld rfl rfl (Or.inr (Or.inr ⟨by decide, rfl⟩)) ?_
  refine w_ld rfl rfl (Or.inr (Or.inr ⟨by decide, rfl⟩)) ?_
  refine w_getf rfl g15 n17 ?_
  subst e_q18
  refine w_getf rfl g20 n22 ?_
  refine w_putf rfl g15 (Nat.ble_eq_true_of_le c13) rfl (Nat.ble_eq_true_of_le l23) ?_
  refine w_ld rfl rfl (Or.inr (Or.inr ⟨by decide, rfl⟩)) ?_
  refine w_getf rfl g25 n27 ?_
  exact w_if1 rfl c28 k1 k2

theorem k91_29 {P : s_P} {d : Nat} {Q : s_O → Prop} {h : s_H} {kc ks : Nat} {r0 : Term}  (k : Q (.inr 1, h, kc + 1, ks + 6))   : wr P d sw_c91 sw_h91 (29, [r0], [], h, kc, ks) Q := by
  exact w_throw rfl (s_wt_4 rfl) k

theorem k91_37 {P : s_P} {d : Nat} {Q : s_O → Prop} {h : s_H} {kc ks : Nat} {r0 : Term}  (k : Q (.inl none, h, kc, ks))   : wr P d sw_c91 sw_h91 (37, [r0], [], h, kc, ks) Q := by
  exact w_ret rfl k

/-! 92: FormulaWorks.term(II)I -/
theorem k92_0 {P : s_P} {d : Nat} {Q : s_O → Prop} {h : s_H} {kc ks : Nat} {r0 : Term} {x1 x2 : Int} {t3 t4 t5 : Term} {q2 : Nat} {f3 : List Term} (g4 : s_get h q2 = some (1, 10, f3)) (k : wm P d 64 [.index q2, vi x1, vi 0] h (wq P d sw_c92 sw_h92 6 [.index q2, vi x1, vi x2, t3, t4, t5] [] kc ks Q)) (e_q2 : r0 = .index q2 := by first | rfl | assumption) (y1 : s_ty r0 = 3 := by first | rfl | assumption)  : wr P d sw_c92 sw_h92 (0, [r0, vi x1, vi x2, t3, t4, t5], [], h, kc, ks) Q := by
  refine w_ld rfl rfl (Or.inr (Or.inr ⟨by decide, y1⟩)) ?_
  refine w_ld rfl rfl (Or.inl ⟨by decide, rfl⟩) ?_
  refine w_c32 rfl (by decide) 0 (by decide) ?_
  subst e_q2
  exact w_cv rfl [.index q2, vi x1, vi 0] [] rfl rfl (s_wt_4 rfl) rfl g4 k

theorem k92_6 {P : s_P} {d : Nat} {Q : s_O → Prop} {h : s_H} {kc ks : Nat} {r0 : Term} {x1 x2 : Int} {t3 t4 t5 s0 : Term}  (k : wm P d 57 [s0, vi x2] h (wq P d sw_c92 sw_h92 12 [r0, vi x1, vi x2, s0, t4, t5] [] kc ks Q)) (y1 : s_ty s0 = 3 := by first | rfl | assumption)  : wr P d sw_c92 sw_h92 (6, [r0, vi x1, vi x2, t3, t4, t5], [s0], h, kc, ks) Q := by
  refine w_st (ls' := [r0, vi x1, vi x2, s0, t4, t5]) rfl (Or.inr ⟨by decide, y1⟩) rfl ?_
  refine w_ld rfl rfl (Or.inr (Or.inr ⟨by decide, y1⟩)) ?_
  refine w_ld rfl rfl (Or.inl ⟨by decide, rfl⟩) ?_
  exact w_cs rfl [s0, vi x2] [] rfl rfl (s_wt_4 rfl) k

theorem k92_12 {P : s_P} {d : Nat} {Q : s_O → Prop} {h : s_H} {kc ks : Nat} {r0 : Term} {x1 x2 : Int} {r3 t4 t5 : Term}  (k : wr P d sw_c92 sw_h92 (18, [r0, vi x1, vi x2, r3, vi 1, vi 0], [], h, kc, ks) Q) (y1 : s_ty r3 = 3 := by first | rfl | assumption)  : wr P d sw_c92 sw_h92 (12, [r0, vi x1, vi x2, r3, t4, t5], [], h, kc, ks) Q := by
  refine w_c32 rfl (by decide) 1 (by decide) ?_
  refine w_st (ls' := [r0, vi x1, vi x2, r3, vi 1, t5]) rfl (Or.inl ⟨by decide, rfl⟩) (s_stK_r (pre := [r0, vi x1, vi x2]) y1) ?_
  refine w_c32 rfl (by decide) 0 (by decide) ?_
  refine w_st (ls' := [r0, vi x1, vi x2, r3, vi 1, vi 0]) rfl (Or.inl ⟨by decide, rfl⟩) rfl ?_
  exact k

theorem k92_18 {P : s_P} {d : Nat} {Q : s_O → Prop} {h : s_H} {kc ks : Nat} {r0 : Term} {x1 x2 : Int} {r3 : Term} {x4 x5 : Int}  (k1 : x2 ≤ x5 → wr P d sw_c92 sw_h92 (45, [r0, vi x1, vi x2, r3, vi x4, vi x5], [], h, kc, ks) Q) (k2 : ¬ x2 ≤ x5 → wr P d sw_c92 sw_h92 (24, [r0, vi x1, vi x2, r3, vi x4, vi x5], [], h, kc, ks) Q)  (c1 : In3 x5 := by first | omega | assumption | (simp only [mk_len, List.length_map]; omega) | decide) (c2 : In3 x2 := by first | omega | assumption | (simp only [mk_len, List.length_map]; omega) | decide) : wr P d sw_c92 sw_h92 (18, [r0, vi x1, vi x2, r3, vi x4, vi x5], [], h, kc, ks) Q := by
  refine w_ld rfl rfl (Or.inl ⟨by decide, rfl⟩) ?_
  refine w_ld rfl rfl (Or.inl ⟨by decide, rfl⟩) ?_
  exact w_if2 rfl c1 c2 k1 k2

theorem k92_24 {P : s_P} {d : Nat} {Q : s_O → Prop} {h : s_H} {kc ks : Nat} {r0 : Term} {x1 x2 : Int} {r3 : Term} {x4 x5 : Int}  (k : wm P d 100 [r3, vi x5] h (wq P d sw_c92 sw_h92 32 [r0, vi x1, vi x2, r3, vi x4, vi x5] [vi x4] kc ks Q)) (y1 : s_ty r3 = 3 := by first | rfl | assumption)  : wr P d sw_c92 sw_h92 (24, [r0, vi x1, vi x2, r3, vi x4, vi x5], [], h, kc, ks) Q := by
  refine w_ld rfl rfl (Or.inl ⟨by decide, rfl⟩) ?_
  refine w_ld rfl rfl (Or.inr (Or.inr ⟨by decide, y1⟩)) ?_
  refine w_ld rfl rfl (Or.inl ⟨by decide, rfl⟩) ?_
  exact w_cs rfl [r3, vi x5] [vi x4] rfl rfl (s_wt_4 rfl) k

theorem k92_32 {P : s_P} {d : Nat} {Q : s_O → Prop} {h : s_H} {kc ks : Nat} {r0 : Term} {x1 x2 : Int} {r3 : Term} {x4 x5 s0 s1 : Int}  (k : wr P d sw_c92 sw_h92 (18, [r0, vi x1, vi x2, r3, vi (Int.tmod (s0 * s1) 32003), vi (x5 + 1)], [], h, kc, ks) Q) (y2 : s_ty r3 = 3 := by first | rfl | assumption) (c1 : In3 (s0 * s1) := by first | omega | assumption | (simp only [mk_len, List.length_map]; omega) | decide) : wr P d sw_c92 sw_h92 (32, [r0, vi x1, vi x2, r3, vi x4, vi x5], [vi s1, vi s0], h, kc, ks) Q := by
  refine w_imul rfl ?_
  refine w_c32 rfl (by decide) 32003 (by decide) ?_
  refine w_irem rfl c1 (by decide) (by decide) ?_
  refine w_st (ls' := [r0, vi x1, vi x2, r3, vi (Int.tmod (s0 * s1) 32003), vi x5]) rfl (Or.inl ⟨by decide, rfl⟩) (s_stK_r (pre := [r0, vi x1, vi x2]) y2) ?_
  refine w_iinc (ls' := [r0, vi x1, vi x2, r3, vi (Int.tmod (s0 * s1) 32003), vi (x5 + 1)]) rfl rfl 1 (by decide) rfl ?_
  refine w_goto rfl ?_
  exact k

theorem k92_45 {P : s_P} {d : Nat} {Q : s_O → Prop} {h : s_H} {kc ks : Nat} {r0 : Term} {x1 x2 : Int} {r3 : Term} {x4 x5 : Int}  (k : Q (.inl (some (vi x4)), h, kc, ks))   : wr P d sw_c92 sw_h92 (45, [r0, vi x1, vi x2, r3, vi x4, vi x5], [], h, kc, ks) Q := by
  refine w_ld rfl rfl (Or.inl ⟨by decide, rfl⟩) ?_
  exact w_iret rfl k

/-! 93: FormulaWorks.thing(I)LFormulaWorks$Thing; -/
theorem k93_0 {P : s_P} {d : Nat} {Q : s_O → Prop} {h : s_H} {kc ks : Nat} {r0 : Term} {x1 : Int} {t2 : Term}  (k1 : x1 < 0 → wr P d sw_c93 sw_h93 (12, [r0, vi x1, t2], [], h, kc, ks) Q) (k2 : ¬ x1 < 0 → wr P d sw_c93 sw_h93 (4, [r0, vi x1, t2], [], h, kc, ks) Q)  (c1 : In3 x1 := by first | omega | assumption | (simp only [mk_len, List.length_map]; omega) | decide) : wr P d sw_c93 sw_h93 (0, [r0, vi x1, t2], [], h, kc, ks) Q := by
  refine w_ld rfl rfl (Or.inl ⟨by decide, rfl⟩) ?_
  exact w_if1 rfl c1 k1 k2

theorem k93_4 {P : s_P} {d : Nat} {Q : s_O → Prop} {h : s_H} {kc ks : Nat} {r0 : Term} {x1 : Int} {t2 : Term} {q2 : Nat} {f3 : List Term} {z5 : Int} (g4 : s_get h q2 = some (1, 10, f3)) (k1 : x1 < z5 → wr P d sw_c93 sw_h93 (20, [.index q2, vi x1, t2], [], h, kc, ks) Q) (k2 : ¬ x1 < z5 → wr P d sw_c93 sw_h93 (12, [.index q2, vi x1, t2], [], h, kc, ks) Q) (e_q2 : r0 = .index q2 := by first | rfl | assumption) (y1 : s_ty r0 = 3 := by first | rfl | assumption) (n6 : s_nth f3 1 = some (vi z5) := by first | rfl | assumption) (c7 : In3 x1 := by first | omega | assumption | (simp only [mk_len, List.length_map]; omega) | decide) (c8 : In3 z5 := by first | omega | assumption | (simp only [mk_len, List.length_map]; omega) | decide) : wr P d sw_c93 sw_h93 (4, [r0, vi x1, t2], [], h, kc, ks) Q := by
  refine w_ld rfl rfl (Or.inl ⟨by decide, rfl⟩) ?_
  refine w_ld rfl rfl (Or.inr (Or.inr ⟨by decide, y1⟩)) ?_
  subst e_q2
  refine w_getf rfl g4 n6 ?_
  exact w_if2 rfl c7 c8 k1 k2

theorem k93_12 {P : s_P} {d : Nat} {Q : s_O → Prop} {h : s_H} {kc ks : Nat} {r0 : Term} {x1 : Int} {t2 : Term}  (k : Q (.inr 3, h, kc + 1, ks + 6))   : wr P d sw_c93 sw_h93 (12, [r0, vi x1, t2], [], h, kc, ks) Q := by
  exact w_throw rfl (s_wt_4 rfl) k

theorem k93_20 {P : s_P} {d : Nat} {Q : s_O → Prop} {h : s_H} {kc ks : Nat} {r0 : Term} {x1 : Int} {t2 : Term} {q2 : Nat} {f3 : List Term} {v5 : Term} {q7 : Nat} {a8 : List Term} {tg10 : Nat} {v11 : Term} (g4 : s_get h q2 = some (1, 10, f3)) (g9 : s_get h q7 = some (0, tg10, a8)) (k1 : ∀ q, v11 = .index q → wr P d sw_c93 sw_h93 (39, [.index q2, vi x1, v11], [], h, kc, ks) Q) (k2 : (v11 = .null) → wr P d sw_c93 sw_h93 (31, [.index q2, vi x1, v11], [], h, kc, ks) Q) (e_q2 : r0 = .index q2 := by first | rfl | assumption) (e_q7 : v5 = .index q7 := by first | rfl | assumption) (y1 : s_ty r0 = 3 := by first | rfl | assumption) (n6 : s_nth f3 0 = some v5 := by first | rfl | assumption) (n12 : s_nth a8 (Int.toNat (x1)) = some v11 := by first | rfl | assumption) (u13 : tg10 = 2 ∨ tg10 = 3 ∨ tg10 = 4 := by first | decide | assumption) (y16 : s_ty v11 = 3 := by first | rfl | assumption) (c14 : In3 x1 := by first | omega | assumption | (simp only [mk_len, List.length_map]; omega) | decide) (c15 : 0 ≤ x1 := by first | omega | assumption | (simp only [mk_len, List.length_map]; omega) | decide) : wr P d sw_c93 sw_h93 (20, [r0, vi x1, t2], [], h, kc, ks) Q := by
  refine w_ld rfl rfl (Or.inr (Or.inr ⟨by decide, y1⟩)) ?_
  subst e_q2
  refine w_getf rfl g4 n6 ?_
  refine w_ld rfl rfl (Or.inl ⟨by decide, rfl⟩) ?_
  subst e_q7
  refine w_aald rfl g9 u13 c14 c15 n12 ?_
  refine w_st (ls' := [.index q2, vi x1, v11]) rfl (Or.inr ⟨by decide, y16⟩) rfl ?_
  refine w_ld rfl rfl (Or.inr (Or.inr ⟨by decide, y16⟩)) ?_
  exact w_ifnonnull rfl k1 k2 y16

theorem k93_31 {P : s_P} {d : Nat} {Q : s_O → Prop} {h : s_H} {kc ks : Nat} {r0 : Term} {x1 : Int} {r2 : Term}  (k : Q (.inr 3, h, kc + 1, ks + 6))   : wr P d sw_c93 sw_h93 (31, [r0, vi x1, r2], [], h, kc, ks) Q := by
  exact w_throw rfl (s_wt_4 rfl) k

theorem k93_39 {P : s_P} {d : Nat} {Q : s_O → Prop} {h : s_H} {kc ks : Nat} {r0 : Term} {x1 : Int} {r2 : Term}  (k : Q (.inl (some r2), h, kc, ks)) (y1 : s_ty r2 = 3 := by first | rfl | assumption)  : wr P d sw_c93 sw_h93 (39, [r0, vi x1, r2], [], h, kc, ks) Q := by
  refine w_ld rfl rfl (Or.inr (Or.inr ⟨by decide, y1⟩)) ?_
  exact w_aret rfl y1 k

/-! 94: FormulaWorks.times(II)I -/
theorem k94_0 {P : s_P} {d : Nat} {Q : s_O → Prop} {h : s_H} {kc ks : Nat} {r0 : Term} {x1 x2 : Int} {q2 : Nat} {f3 : List Term} (g4 : s_get h q2 = some (1, 10, f3)) (k : wm P d 93 [.index q2, vi x1] h (wq P d sw_c94 sw_h94 8 [.index q2, vi x1, vi x2] [vi 42, .index q2] kc ks Q)) (e_q2 : r0 = .index q2 := by first | rfl | assumption) (y1 : s_ty r0 = 3 := by first | rfl | assumption)  : wr P d sw_c94 sw_h94 (0, [r0, vi x1, vi x2], [], h, kc, ks) Q := by
  refine w_ld rfl rfl (Or.inr (Or.inr ⟨by decide, y1⟩)) ?_
  refine w_c32 rfl (by decide) 42 (by decide) ?_
  refine w_ld rfl rfl (Or.inr (Or.inr ⟨by decide, y1⟩)) ?_
  refine w_ld rfl rfl (Or.inl ⟨by decide, rfl⟩) ?_
  subst e_q2
  exact w_cv rfl [.index q2, vi x1] [vi 42, .index q2] rfl rfl (s_wt_4 rfl) rfl g4 k

theorem k94_8 {P : s_P} {d : Nat} {Q : s_O → Prop} {h : s_H} {kc ks : Nat} {r0 : Term} {x1 x2 : Int} {s0 : Term} {s1 : Int} {s2 : Term} {q2 : Nat} {f3 : List Term} (g4 : s_get h q2 = some (1, 10, f3)) (k : wm P d 93 [.index q2, vi x2] h (wq P d sw_c94 sw_h94 13 [.index q2, vi x1, vi x2] [s2, vi s1, s0] kc ks Q)) (e_q2 : r0 = .index q2 := by first | rfl | assumption) (y1 : s_ty r0 = 3 := by first | rfl | assumption)  : wr P d sw_c94 sw_h94 (8, [r0, vi x1, vi x2], [s2, vi s1, s0], h, kc, ks) Q := by
  refine w_ld rfl rfl (Or.inr (Or.inr ⟨by decide, y1⟩)) ?_
  refine w_ld rfl rfl (Or.inl ⟨by decide, rfl⟩) ?_
  subst e_q2
  exact w_cv rfl [.index q2, vi x2] [s2, vi s1, s0] rfl rfl (s_wt_4 rfl) rfl g4 k

theorem k94_13 {P : s_P} {d : Nat} {Q : s_O → Prop} {h : s_H} {kc ks : Nat} {r0 : Term} {x1 x2 : Int} {s0 : Term} {s1 : Int} {s2 s3 : Term} {q1 : Nat} {f2 : List Term} (g3 : s_get h q1 = some (1, 10, f2)) (k : wm P d 32 [.index q1, vi s1, s2, s3] h (wq P d sw_c94 sw_h94 16 [r0, vi x1, vi x2] [] kc ks Q)) (e_q1 : s0 = .index q1 := by first | rfl | assumption)  : wr P d sw_c94 sw_h94 (13, [r0, vi x1, vi x2], [s3, s2, vi s1, s0], h, kc, ks) Q := by
  subst e_q1
  exact w_cv rfl [.index q1, vi s1, s2, s3] [] rfl rfl (s_wt_4 rfl) rfl g3 k

theorem k94_16 {P : s_P} {d : Nat} {Q : s_O → Prop} {h : s_H} {kc ks : Nat} {r0 : Term} {x1 x2 s0 : Int}  (k : Q (.inl (some (vi s0)), h, kc, ks))   : wr P d sw_c94 sw_h94 (16, [r0, vi x1, vi x2], [vi s0], h, kc, ks) Q := by
  exact w_iret rfl k

/-! 95: FormulaWorks.turned(I)I -/
theorem k95_0 {P : s_P} {d : Nat} {Q : s_O → Prop} {h : s_H} {kc ks : Nat} {r0 : Term} {x1 : Int} {t2 t3 t4 t5 : Term} {q2 : Nat} {f3 : List Term} (g4 : s_get h q2 = some (1, 10, f3)) (k : wm P d 64 [.index q2, vi x1, vi 2] h (wq P d sw_c95 sw_h95 6 [.index q2, vi x1, t2, t3, t4, t5] [] kc ks Q)) (e_q2 : r0 = .index q2 := by first | rfl | assumption) (y1 : s_ty r0 = 3 := by first | rfl | assumption)  : wr P d sw_c95 sw_h95 (0, [r0, vi x1, t2, t3, t4, t5], [], h, kc, ks) Q := by
  refine w_ld rfl rfl (Or.inr (Or.inr ⟨by decide, y1⟩)) ?_
  refine w_ld rfl rfl (Or.inl ⟨by decide, rfl⟩) ?_
  refine w_c32 rfl (by decide) 2 (by decide) ?_
  subst e_q2
  exact w_cv rfl [.index q2, vi x1, vi 2] [] rfl rfl (s_wt_4 rfl) rfl g4 k

theorem k95_6 {P : s_P} {d : Nat} {Q : s_O → Prop} {h : s_H} {kc ks : Nat} {r0 : Term} {x1 : Int} {t2 t3 t4 t5 s0 : Term} {fc2 : s_C} {q4 : Nat} {f5 : List Term} {z7 z9 : Int} {fc11 : s_C} (g3 : s_get h (h).1 = some fc2) (g6 : s_get (hq h (1, 8, s_df 8)) q4 = some (1, 8, f5)) (g12 : s_get (hq h (1, 8, s_df 8)) ((hq h (1, 8, s_df 8))).1 = some fc11) (k : wm P d 262 [.index h.1, vi z7, vi z9, .index ((hq h (1, 8, s_df 8))).1] (hq (hq h (1, 8, s_df 8)) (0, 2, List.replicate (Int.toNat (z7 * z9)) (.null))) (fun out => out.1 = .inl none ∧ wr P d sw_c95 sw_h95 (34, [r0, vi x1, .index q4, t3, t4, t5], [.index h.1], out.2.1, ((kc + 1) + 1) + out.2.2.1, ((ks + 8) + (Int.toNat (z7 * z9))) + out.2.2.2) Q)) (e_q4 : s0 = .index q4 := by first | rfl | assumption) (y1 : s_ty s0 = 3 := by first | rfl | assumption) (n8 : s_nth f5 4 = some (vi z7) := by first | rfl | assumption) (n10 : s_nth f5 3 = some (vi z9) := by first | rfl | assumption) (c13 : z7 * z9 ≤ 60000000 := by first | omega | assumption | (simp only [mk_len, List.length_map]; omega) | decide) (c14 : In3 (z7 * z9) := by first | omega | assumption | (simp only [mk_len, List.length_map]; omega) | decide) (c15 : 0 ≤ z7 * z9 := by first | omega | assumption | (simp only [mk_len, List.length_map]; omega) | decide) : wr P d sw_c95 sw_h95 (6, [r0, vi x1, t2, t3, t4, t5], [s0], h, kc, ks) Q := by
  refine w_st (ls' := [r0, vi x1, s0, t3, t4, t5]) rfl (Or.inr ⟨by decide, y1⟩) rfl ?_
  refine w_new rfl g3 ?_
  refine w_dup rfl rfl ?_
  refine w_ld rfl rfl (Or.inr (Or.inr ⟨by decide, y1⟩)) ?_
  subst e_q4
  refine w_getf rfl g6 n8 ?_
  refine w_ld rfl rfl (Or.inr (Or.inr ⟨by decide, rfl⟩)) ?_
  refine w_getf rfl g6 n10 ?_
  refine w_ld rfl rfl (Or.inr (Or.inr ⟨by decide, rfl⟩)) ?_
  refine w_getf rfl g6 n8 ?_
  refine w_ld rfl rfl (Or.inr (Or.inr ⟨by decide, rfl⟩)) ?_
  refine w_getf rfl g6 n10 ?_
  refine w_imul rfl ?_
  refine w_newa rfl (by decide) g12 c14 c15 c13 (.null) rfl ?_
  exact w_ci rfl [.index h.1, vi z7, vi z9, .index ((hq h (1, 8, s_df 8))).1] [.index h.1] rfl rfl (s_wt_4 rfl) rfl k

theorem k95_34 {P : s_P} {d : Nat} {Q : s_O → Prop} {h : s_H} {kc ks : Nat} {r0 : Term} {x1 : Int} {r2 t3 t4 t5 s0 : Term}  (k : wr P d sw_c95 sw_h95 (38, [r0, vi x1, r2, s0, vi 0, t5], [], h, kc, ks) Q) (y1 : s_ty r2 = 3 := by first | rfl | assumption) (y2 : s_ty s0 = 3 := by first | rfl | assumption)  : wr P d sw_c95 sw_h95 (34, [r0, vi x1, r2, t3, t4, t5], [s0], h, kc, ks) Q := by
  refine w_st (ls' := [r0, vi x1, r2, s0, t4, t5]) rfl (Or.inr ⟨by decide, y2⟩) (s_stK_r (pre := [r0, vi x1]) y1) ?_
  refine w_c32 rfl (by decide) 0 (by decide) ?_
  refine w_st (ls' := [r0, vi x1, r2, s0, vi 0, t5]) rfl (Or.inl ⟨by decide, rfl⟩) (s_stK_r (pre := [r0, vi x1, r2]) y2) ?_
  exact k

theorem k95_38 {P : s_P} {d : Nat} {Q : s_O → Prop} {h : s_H} {kc ks : Nat} {r0 : Term} {x1 : Int} {r2 r3 : Term} {x4 : Int} {t5 : Term} {q2 : Nat} {f3 : List Term} {z5 : Int} (g4 : s_get h q2 = some (1, 8, f3)) (k1 : z5 ≤ x4 → wr P d sw_c95 sw_h95 (87, [r0, vi x1, .index q2, r3, vi x4, t5], [], h, kc, ks) Q) (k2 : ¬ z5 ≤ x4 → wr P d sw_c95 sw_h95 (47, [r0, vi x1, .index q2, r3, vi x4, t5], [], h, kc, ks) Q) (e_q2 : r2 = .index q2 := by first | rfl | assumption) (y1 : s_ty r2 = 3 := by first | rfl | assumption) (n6 : s_nth f3 4 = some (vi z5) := by first | rfl | assumption) (c7 : In3 x4 := by first | omega | assumption | (simp only [mk_len, List.length_map]; omega) | decide) (c8 : In3 z5 := by first | omega | assumption | (simp only [mk_len, List.length_map]; omega) | decide) : wr P d sw_c95 sw_h95 (38, [r0, vi x1, r2, r3, vi x4, t5], [], h, kc, ks) Q := by
  refine w_ld rfl rfl (Or.inl ⟨by decide, rfl⟩) ?_
  refine w_ld rfl rfl (Or.inr (Or.inr ⟨by decide, y1⟩)) ?_
  subst e_q2
  refine w_getf rfl g4 n6 ?_
  exact w_if2 rfl c7 c8 k1 k2

theorem k95_47 {P : s_P} {d : Nat} {Q : s_O → Prop} {h : s_H} {kc ks : Nat} {r0 : Term} {x1 : Int} {r2 r3 : Term} {x4 : Int} {t5 : Term}  (k : wr P d sw_c95 sw_h95 (50, [r0, vi x1, r2, r3, vi x4, vi 0], [], h, kc, ks) Q)   : wr P d sw_c95 sw_h95 (47, [r0, vi x1, r2, r3, vi x4, t5], [], h, kc, ks) Q := by
  refine w_c32 rfl (by decide) 0 (by decide) ?_
  refine w_st (ls' := [r0, vi x1, r2, r3, vi x4, vi 0]) rfl (Or.inl ⟨by decide, rfl⟩) rfl ?_
  exact k

theorem k95_50 {P : s_P} {d : Nat} {Q : s_O → Prop} {h : s_H} {kc ks : Nat} {r0 : Term} {x1 : Int} {r2 r3 : Term} {x4 x5 : Int} {q2 : Nat} {f3 : List Term} {z5 : Int} (g4 : s_get h q2 = some (1, 8, f3)) (k1 : z5 ≤ x5 → wr P d sw_c95 sw_h95 (81, [r0, vi x1, .index q2, r3, vi x4, vi x5], [], h, kc, ks) Q) (k2 : ¬ z5 ≤ x5 → wr P d sw_c95 sw_h95 (59, [r0, vi x1, .index q2, r3, vi x4, vi x5], [], h, kc, ks) Q) (e_q2 : r2 = .index q2 := by first | rfl | assumption) (y1 : s_ty r2 = 3 := by first | rfl | assumption) (n6 : s_nth f3 3 = some (vi z5) := by first | rfl | assumption) (c7 : In3 x5 := by first | omega | assumption | (simp only [mk_len, List.length_map]; omega) | decide) (c8 : In3 z5 := by first | omega | assumption | (simp only [mk_len, List.length_map]; omega) | decide) : wr P d sw_c95 sw_h95 (50, [r0, vi x1, r2, r3, vi x4, vi x5], [], h, kc, ks) Q := by
  refine w_ld rfl rfl (Or.inl ⟨by decide, rfl⟩) ?_
  refine w_ld rfl rfl (Or.inr (Or.inr ⟨by decide, y1⟩)) ?_
  subst e_q2
  refine w_getf rfl g4 n6 ?_
  exact w_if2 rfl c7 c8 k1 k2

theorem k95_59 {P : s_P} {d : Nat} {Q : s_O → Prop} {h : s_H} {kc ks : Nat} {r0 : Term} {x1 : Int} {r2 r3 : Term} {x4 x5 : Int} {q3 : Nat} {f4 : List Term} (g5 : s_get h q3 = some (1, 8, f4)) (k : wm P d 265 [.index q3, vi x5, vi x4] h (wq P d sw_c95 sw_h95 72 [r0, vi x1, .index q3, r3, vi x4, vi x5] [vi x5, vi x4, r3] kc ks Q)) (e_q3 : r2 = .index q3 := by first | rfl | assumption) (y1 : s_ty r3 = 3 := by first | rfl | assumption) (y2 : s_ty r2 = 3 := by first | rfl | assumption)  : wr P d sw_c95 sw_h95 (59, [r0, vi x1, r2, r3, vi x4, vi x5], [], h, kc, ks) Q := by
  refine w_ld rfl rfl (Or.inr (Or.inr ⟨by decide, y1⟩)) ?_
  refine w_ld rfl rfl (Or.inl ⟨by decide, rfl⟩) ?_
  refine w_ld rfl rfl (Or.inl ⟨by decide, rfl⟩) ?_
  refine w_ld rfl rfl (Or.inr (Or.inr ⟨by decide, y2⟩)) ?_
  refine w_ld rfl rfl (Or.inl ⟨by decide, rfl⟩) ?_
  refine w_ld rfl rfl (Or.inl ⟨by decide, rfl⟩) ?_
  subst e_q3
  exact w_cv rfl [.index q3, vi x5, vi x4] [vi x5, vi x4, r3] rfl rfl (s_wt_4 rfl) rfl g5 k

theorem k95_72 {P : s_P} {d : Nat} {Q : s_O → Prop} {h : s_H} {kc ks : Nat} {r0 : Term} {x1 : Int} {r2 r3 : Term} {x4 x5 : Int} {s0 : Term} {s1 s2 : Int} {s3 : Term} {q1 : Nat} {f2 : List Term} (g3 : s_get h q1 = some (1, 8, f2)) (k : wm P d 271 [.index q1, vi s1, vi s2, s3] h (wq P d sw_c95 sw_h95 75 [r0, vi x1, r2, r3, vi x4, vi x5] [] kc ks Q)) (e_q1 : s0 = .index q1 := by first | rfl | assumption)  : wr P d sw_c95 sw_h95 (72, [r0, vi x1, r2, r3, vi x4, vi x5], [s3, vi s2, vi s1, s0], h, kc, ks) Q := by
  subst e_q1
  exact w_cv rfl [.index q1, vi s1, vi s2, s3] [] rfl rfl (s_wt_4 rfl) rfl g3 k

theorem k95_75 {P : s_P} {d : Nat} {Q : s_O → Prop} {h : s_H} {kc ks : Nat} {r0 : Term} {x1 : Int} {r2 r3 : Term} {x4 x5 : Int}  (k : wr P d sw_c95 sw_h95 (50, [r0, vi x1, r2, r3, vi x4, vi (x5 + 1)], [], h, kc, ks) Q)   : wr P d sw_c95 sw_h95 (75, [r0, vi x1, r2, r3, vi x4, vi x5], [], h, kc, ks) Q := by
  refine w_iinc (ls' := [r0, vi x1, r2, r3, vi x4, vi (x5 + 1)]) rfl rfl 1 (by decide) rfl ?_
  refine w_goto rfl ?_
  exact k

theorem k95_81 {P : s_P} {d : Nat} {Q : s_O → Prop} {h : s_H} {kc ks : Nat} {r0 : Term} {x1 : Int} {r2 r3 : Term} {x4 x5 : Int}  (k : wr P d sw_c95 sw_h95 (38, [r0, vi x1, r2, r3, vi (x4 + 1), vi x5], [], h, kc, ks) Q) (y1 : s_ty r3 = 3 := by first | rfl | assumption)  : wr P d sw_c95 sw_h95 (81, [r0, vi x1, r2, r3, vi x4, vi x5], [], h, kc, ks) Q := by
  refine w_iinc (ls' := [r0, vi x1, r2, r3, vi (x4 + 1), vi x5]) rfl rfl 1 (by decide) (s_stK_r (pre := [r0, vi x1, r2]) y1) ?_
  refine w_goto rfl ?_
  exact k

theorem k95_87 {P : s_P} {d : Nat} {Q : s_O → Prop} {h : s_H} {kc ks : Nat} {r0 : Term} {x1 : Int} {r2 r3 : Term} {x4 : Int} {t5 : Term} {q3 : Nat} {f4 : List Term} (g5 : s_get h q3 = some (1, 10, f4)) (k : wm P d 35 [.index q3, r3] h (wq P d sw_c95 sw_h95 92 [.index q3, vi x1, r2, r3, vi x4, t5] [] kc ks Q)) (e_q3 : r0 = .index q3 := by first | rfl | assumption) (y1 : s_ty r0 = 3 := by first | rfl | assumption) (y2 : s_ty r3 = 3 := by first | rfl | assumption)  : wr P d sw_c95 sw_h95 (87, [r0, vi x1, r2, r3, vi x4, t5], [], h, kc, ks) Q := by
  refine w_ld rfl rfl (Or.inr (Or.inr ⟨by decide, y1⟩)) ?_
  refine w_ld rfl rfl (Or.inr (Or.inr ⟨by decide, y2⟩)) ?_
  subst e_q3
  exact w_cv rfl [.index q3, r3] [] rfl rfl (s_wt_4 rfl) rfl g5 k

theorem k95_92 {P : s_P} {d : Nat} {Q : s_O → Prop} {h : s_H} {kc ks : Nat} {r0 : Term} {x1 : Int} {r2 r3 : Term} {x4 : Int} {t5 : Term} {s0 : Int}  (k : Q (.inl (some (vi s0)), h, kc, ks))   : wr P d sw_c95 sw_h95 (92, [r0, vi x1, r2, r3, vi x4, t5], [vi s0], h, kc, ks) Q := by
  exact w_iret rfl k

/-! 96: FormulaWorks.type(J)I -/
theorem k96_0 {P : s_P} {d : Nat} {Q : s_O → Prop} {h : s_H} {kc ks : Nat} {r0 : Term} {x1 : Int} {t2 t3 t4 t5 : Term}  (k : wr P d sw_c96 sw_h96 (6, [r0, vl x1, (s_uu t2), vi 0, vi 56, t5], [], h, kc, ks) Q)   : wr P d sw_c96 sw_h96 (0, [r0, vl x1, t2, t3, t4, t5], [], h, kc, ks) Q := by
  refine w_c32 rfl (by decide) 0 (by decide) ?_
  refine w_st (ls' := [r0, vl x1, (s_uu t2), vi 0, t4, t5]) rfl (Or.inl ⟨by decide, rfl⟩) (s_stK_t (pre := [r0, vl x1])) ?_
  refine w_c32 rfl (by decide) 56 (by decide) ?_
  refine w_st (ls' := [r0, vl x1, (s_uu t2), vi 0, vi 56, t5]) rfl (Or.inl ⟨by decide, rfl⟩) rfl ?_
  exact k

theorem k96_6 {P : s_P} {d : Nat} {Q : s_O → Prop} {h : s_H} {kc ks : Nat} {r0 : Term} {x1 : Int} {t2 : Term} {x3 x4 : Int} {t5 : Term}  (k1 : x4 < 0 → wr P d sw_c96 sw_h96 (33, [r0, vl x1, t2, vi x3, vi x4, t5], [], h, kc, ks) Q) (k2 : ¬ x4 < 0 → wr P d sw_c96 sw_h96 (11, [r0, vl x1, t2, vi x3, vi x4, t5], [], h, kc, ks) Q)  (c1 : In3 x4 := by first | omega | assumption | (simp only [mk_len, List.length_map]; omega) | decide) : wr P d sw_c96 sw_h96 (6, [r0, vl x1, t2, vi x3, vi x4, t5], [], h, kc, ks) Q := by
  refine w_ld rfl rfl (Or.inl ⟨by decide, rfl⟩) ?_
  exact w_if1 rfl c1 k1 k2

theorem k96_11 {P : s_P} {d : Nat} {Q : s_O → Prop} {h : s_H} {kc ks : Nat} {r0 : Term} {x1 : Int} {t2 : Term} {x3 x4 : Int} {t5 : Term}  (k1 : zl 34 (zl 39 x1 x4) 255 = 0 → wr P d sw_c96 sw_h96 (27, [r0, vl x1, t2, vi x3, vi x4, t5], [], h, kc, ks) Q) (k2 : ¬ zl 34 (zl 39 x1 x4) 255 = 0 → wr P d sw_c96 sw_h96 (24, [r0, vl x1, t2, vi x3, vi x4, t5], [], h, kc, ks) Q)  (c1 : In6 (zl 34 (zl 39 x1 x4) 255) := by first | omega | assumption | (simp only [mk_len, List.length_map]; omega) | decide) : wr P d sw_c96 sw_h96 (11, [r0, vl x1, t2, vi x3, vi x4, t5], [], h, kc, ks) Q := by
  refine w_ld rfl rfl (Or.inr (Or.inl ⟨by decide, rfl⟩)) ?_
  refine w_ld rfl rfl (Or.inl ⟨by decide, rfl⟩) ?_
  refine w_lsh rfl (by decide) ?_
  refine w_c64 rfl (by decide) 255 (by decide) ?_
  refine w_lb rfl (by decide) ?_
  refine w_c64 rfl (by decide) 0 (by decide) ?_
  exact w_lcmp rfl rfl c1 (by decide) k1 k2

theorem k96_24 {P : s_P} {d : Nat} {Q : s_O → Prop} {h : s_H} {kc ks : Nat} {r0 : Term} {x1 : Int} {t2 : Term} {x3 x4 : Int} {t5 : Term}  (k : wr P d sw_c96 sw_h96 (27, [r0, vl x1, (s_uu t2), vi (x3 + 1), vi x4, t5], [], h, kc, ks) Q)   : wr P d sw_c96 sw_h96 (24, [r0, vl x1, t2, vi x3, vi x4, t5], [], h, kc, ks) Q := by
  refine w_iinc (ls' := [r0, vl x1, (s_uu t2), vi (x3 + 1), vi x4, t5]) rfl rfl 1 (by decide) (s_stK_t (pre := [r0, vl x1])) ?_
  exact k

theorem k96_27 {P : s_P} {d : Nat} {Q : s_O → Prop} {h : s_H} {kc ks : Nat} {r0 : Term} {x1 : Int} {t2 : Term} {x3 x4 : Int} {t5 : Term}  (k : wr P d sw_c96 sw_h96 (6, [r0, vl x1, t2, vi x3, vi (x4 + (-8)), t5], [], h, kc, ks) Q)   : wr P d sw_c96 sw_h96 (27, [r0, vl x1, t2, vi x3, vi x4, t5], [], h, kc, ks) Q := by
  refine w_iinc (ls' := [r0, vl x1, t2, vi x3, vi (x4 + (-8)), t5]) rfl rfl (-8) (by decide) rfl ?_
  refine w_goto rfl ?_
  exact k

theorem k96_33 {P : s_P} {d : Nat} {Q : s_O → Prop} {h : s_H} {kc ks : Nat} {r0 : Term} {x1 : Int} {t2 : Term} {x3 x4 : Int} {t5 : Term} {q2 : Nat} {f3 : List Term} {z5 : Int} (g4 : s_get h q2 = some (1, 10, f3)) (k1 : z5 + x3 ≤ 200 → wr P d sw_c96 sw_h96 (47, [.index q2, vl x1, t2, vi x3, vi x4, t5], [], h, kc, ks) Q) (k2 : ¬ z5 + x3 ≤ 200 → wr P d sw_c96 sw_h96 (45, [.index q2, vl x1, t2, vi x3, vi x4, t5], [], h, kc, ks) Q) (e_q2 : r0 = .index q2 := by first | rfl | assumption) (y1 : s_ty r0 = 3 := by first | rfl | assumption) (n6 : s_nth f3 3 = some (vi z5) := by first | rfl | assumption) (c7 : In3 (z5 + x3) := by first | omega | assumption | (simp only [mk_len, List.length_map]; omega) | decide) : wr P d sw_c96 sw_h96 (33, [r0, vl x1, t2, vi x3, vi x4, t5], [], h, kc, ks) Q := by
  refine w_ld rfl rfl (Or.inr (Or.inr ⟨by decide, y1⟩)) ?_
  subst e_q2
  refine w_getf rfl g4 n6 ?_
  refine w_ld rfl rfl (Or.inl ⟨by decide, rfl⟩) ?_
  refine w_iadd rfl ?_
  refine w_c32 rfl (by decide) 200 (by decide) ?_
  exact w_if2 rfl c7 (by decide) k1 k2

theorem k96_45 {P : s_P} {d : Nat} {Q : s_O → Prop} {h : s_H} {kc ks : Nat} {r0 : Term} {x1 : Int} {t2 : Term} {x3 x4 : Int} {t5 : Term}  (k : Q (.inl (some (vi (-1))), h, kc, ks))   : wr P d sw_c96 sw_h96 (45, [r0, vl x1, t2, vi x3, vi x4, t5], [], h, kc, ks) Q := by
  refine w_c32 rfl (by decide) (-1) (by decide) ?_
  exact w_iret rfl k

theorem k96_47 {P : s_P} {d : Nat} {Q : s_O → Prop} {h : s_H} {kc ks : Nat} {r0 : Term} {x1 : Int} {t2 : Term} {x3 x4 : Int} {t5 : Term}  (k : wr P d sw_c96 sw_h96 (51, [r0, vl x1, t2, vi x3, vi 56, t5], [], h, kc, ks) Q)   : wr P d sw_c96 sw_h96 (47, [r0, vl x1, t2, vi x3, vi x4, t5], [], h, kc, ks) Q := by
  refine w_c32 rfl (by decide) 56 (by decide) ?_
  refine w_st (ls' := [r0, vl x1, t2, vi x3, vi 56, t5]) rfl (Or.inl ⟨by decide, rfl⟩) rfl ?_
  exact k

theorem k96_51 {P : s_P} {d : Nat} {Q : s_O → Prop} {h : s_H} {kc ks : Nat} {r0 : Term} {x1 : Int} {t2 : Term} {x3 x4 : Int} {t5 : Term}  (k1 : x4 < 0 → wr P d sw_c96 sw_h96 (109, [r0, vl x1, t2, vi x3, vi x4, t5], [], h, kc, ks) Q) (k2 : ¬ x4 < 0 → wr P d sw_c96 sw_h96 (56, [r0, vl x1, t2, vi x3, vi x4, t5], [], h, kc, ks) Q)  (c1 : In3 x4 := by first | omega | assumption | (simp only [mk_len, List.length_map]; omega) | decide) : wr P d sw_c96 sw_h96 (51, [r0, vl x1, t2, vi x3, vi x4, t5], [], h, kc, ks) Q := by
  refine w_ld rfl rfl (Or.inl ⟨by decide, rfl⟩) ?_
  exact w_if1 rfl c1 k1 k2

theorem k96_56 {P : s_P} {d : Nat} {Q : s_O → Prop} {h : s_H} {kc ks : Nat} {r0 : Term} {x1 : Int} {t2 : Term} {x3 x4 : Int} {t5 : Term}  (k1 : zl 34 (zl 39 x1 x4) 255 = 0 → wr P d sw_c96 sw_h96 (103, [r0, vl x1, t2, vi x3, vi x4, vi (zl 34 (zl 39 x1 x4) 255)], [], h, kc, ks) Q) (k2 : ¬ zl 34 (zl 39 x1 x4) 255 = 0 → wr P d sw_c96 sw_h96 (72, [r0, vl x1, t2, vi x3, vi x4, vi (zl 34 (zl 39 x1 x4) 255)], [], h, kc, ks) Q)  (c1 : In3 (zl 34 (zl 39 x1 x4) 255) := by first | omega | assumption | (simp only [mk_len, List.length_map]; omega) | decide) : wr P d sw_c96 sw_h96 (56, [r0, vl x1, t2, vi x3, vi x4, t5], [], h, kc, ks) Q := by
  refine w_ld rfl rfl (Or.inr (Or.inl ⟨by decide, rfl⟩)) ?_
  refine w_ld rfl rfl (Or.inl ⟨by decide, rfl⟩) ?_
  refine w_lsh rfl (by decide) ?_
  refine w_c64 rfl (by decide) 255 (by decide) ?_
  refine w_lb rfl (by decide) ?_
  refine w_l2i rfl ?_
  refine w_st (ls' := [r0, vl x1, t2, vi x3, vi x4, vi (zl 34 (zl 39 x1 x4) 255)]) rfl (Or.inl ⟨by decide, rfl⟩) rfl ?_
  refine w_ld rfl rfl (Or.inl ⟨by decide, rfl⟩) ?_
  exact w_if1 rfl c1 k1 k2

theorem k96_72 {P : s_P} {d : Nat} {Q : s_O → Prop} {h : s_H} {kc ks : Nat} {r0 : Term} {x1 : Int} {t2 : Term} {x3 x4 x5 : Int} {q2 : Nat} {f3 : List Term} {z5 : Int} (g4 : s_get h q2 = some (1, 10, f3)) (k1 : 200 ≤ z5 → wr P d sw_c96 sw_h96 (103, [.index q2, vl x1, t2, vi x3, vi x4, vi x5], [], h, kc, ks) Q) (k2 : ¬ 200 ≤ z5 → wr P d sw_c96 sw_h96 (82, [.index q2, vl x1, t2, vi x3, vi x4, vi x5], [], h, kc, ks) Q) (e_q2 : r0 = .index q2 := by first | rfl | assumption) (y1 : s_ty r0 = 3 := by first | rfl | assumption) (n6 : s_nth f3 3 = some (vi z5) := by first | rfl | assumption) (c7 : In3 z5 := by first | omega | assumption | (simp only [mk_len, List.length_map]; omega) | decide) : wr P d sw_c96 sw_h96 (72, [r0, vl x1, t2, vi x3, vi x4, vi x5], [], h, kc, ks) Q := by
  refine w_ld rfl rfl (Or.inr (Or.inr ⟨by decide, y1⟩)) ?_
  subst e_q2
  refine w_getf rfl g4 n6 ?_
  refine w_c32 rfl (by decide) 200 (by decide) ?_
  exact w_if2 rfl c7 (by decide) k1 k2

theorem k96_82 {P : s_P} {d : Nat} {Q : s_O → Prop} {h : s_H} {kc ks : Nat} {r0 : Term} {x1 : Int} {t2 : Term} {x3 x4 x5 : Int} {q2 : Nat} {f3 : List Term} {v5 : Term} {z7 : Int} {q9 : Nat} {a10 : List Int} {f16 : List Term} {z18 : Int} (g4 : s_get h q2 = some (1, 10, f3)) (g11 : s_get h q9 = some (0, 0, a10.map vi)) (g17 : s_get (hp h q9 (0, 0, (a10.set (Int.toNat (z7)) x5).map vi)) q2 = some (1, 10, f16)) (k : wr P d sw_c96 sw_h96 (103, [.index q2, vl x1, t2, vi x3, vi x4, vi x5], [], (hp (hp h q9 (0, 0, (a10.set (Int.toNat (z7)) x5).map vi)) q2 (1, 10, f16.set 3 (vi (z18 + 1)))), kc, ks) Q) (e_q2 : r0 = .index q2 := by first | rfl | assumption) (e_q9 : v5 = .index q9 := by first | rfl | assumption) (y1 : s_ty r0 = 3 := by first | rfl | assumption) (n6 : s_nth f3 2 = some v5 := by first | rfl | assumption) (n8 : s_nth f3 3 = some (vi z7) := by first | rfl | assumption) (n19 : s_nth f16 3 = some (vi z18) := by first | rfl | assumption) (l20 : 3 < f16.length := by first | exact Nat.le_of_ble_eq_true rfl | omega | assumption) (c12 : z7 < a10.length := by first | omega | assumption | (simp only [mk_len, List.length_map]; omega) | decide) (c13 : 0 ≤ z7 := by first | omega | assumption | (simp only [mk_len, List.length_map]; omega) | decide) (c14 : In3 z7 := by first | omega | assumption | (simp only [mk_len, List.length_map]; omega) | decide) (c15 : 0 < q9 := by first | omega | assumption | (simp only [mk_len, List.length_map]; omega) | decide) (c21 : 0 < q2 := by first | omega | assumption | (simp only [mk_len, List.length_map]; omega) | decide) : wr P d sw_c96 sw_h96 (82, [r0, vl x1, t2, vi x3, vi x4, vi x5], [], h, kc, ks) Q := by
  refine w_ld rfl rfl (Or.inr (Or.inr ⟨by decide, y1⟩)) ?_
  subst e_q2
  refine w_getf rfl g4 n6 ?_
  refine w_ld rfl rfl (Or.inr (Or.inr ⟨by decide, rfl⟩)) ?_
  refine w_getf rfl g4 n8 ?_
  refine w_ld rfl rfl (Or.inl ⟨by decide, rfl⟩) ?_
  subst e_q9
  refine w_iast rfl g11 (Nat.ble_eq_true_of_le c15) c14 c13 c12 ?_
  refine w_ld rfl rfl (Or.inr (Or.inr ⟨by decide, rfl⟩)) ?_
  refine w_dup rfl rfl ?_
  refine w_getf rfl g17 n19 ?_
  refine w_c32 rfl (by decide) 1 (by decide) ?_
  refine w_iadd rfl ?_
  refine w_putf rfl g17 (Nat.ble_eq_true_of_le c21) rfl (Nat.ble_eq_true_of_le l20) ?_
  exact k

theorem k96_103 {P : s_P} {d : Nat} {Q : s_O → Prop} {h : s_H} {kc ks : Nat} {r0 : Term} {x1 : Int} {t2 : Term} {x3 x4 x5 : Int}  (k : wr P d sw_c96 sw_h96 (51, [r0, vl x1, t2, vi x3, vi (x4 + (-8)), vi x5], [], h, kc, ks) Q)   : wr P d sw_c96 sw_h96 (103, [r0, vl x1, t2, vi x3, vi x4, vi x5], [], h, kc, ks) Q := by
  refine w_iinc (ls' := [r0, vl x1, t2, vi x3, vi (x4 + (-8)), vi x5]) rfl rfl (-8) (by decide) rfl ?_
  refine w_goto rfl ?_
  exact k

theorem k96_109 {P : s_P} {d : Nat} {Q : s_O → Prop} {h : s_H} {kc ks : Nat} {r0 : Term} {x1 : Int} {t2 : Term} {x3 x4 : Int} {t5 : Term} {q2 : Nat} {f3 : List Term} {z5 : Int} (g4 : s_get h q2 = some (1, 10, f3)) (k : Q (.inl (some (vi z5)), h, kc, ks)) (e_q2 : r0 = .index q2 := by first | rfl | assumption) (y1 : s_ty r0 = 3 := by first | rfl | assumption) (n6 : s_nth f3 3 = some (vi z5) := by first | rfl | assumption)  : wr P d sw_c96 sw_h96 (109, [r0, vl x1, t2, vi x3, vi x4, t5], [], h, kc, ks) Q := by
  refine w_ld rfl rfl (Or.inr (Or.inr ⟨by decide, y1⟩)) ?_
  subst e_q2
  refine w_getf rfl g4 n6 ?_
  exact w_iret rfl k

/-! 97: FormulaWorks.unroll(II)I -/
theorem k97_0 {P : s_P} {d : Nat} {Q : s_O → Prop} {h : s_H} {kc ks : Nat} {r0 : Term} {x1 x2 : Int} {t3 t4 t5 t6 : Term} {q2 : Nat} {f3 : List Term} (g4 : s_get h q2 = some (1, 10, f3)) (k : wm P d 93 [.index q2, vi x1] h (wq P d sw_c97 sw_h97 5 [.index q2, vi x1, vi x2, t3, t4, t5, t6] [] kc ks Q)) (e_q2 : r0 = .index q2 := by first | rfl | assumption) (y1 : s_ty r0 = 3 := by first | rfl | assumption)  : wr P d sw_c97 sw_h97 (0, [r0, vi x1, vi x2, t3, t4, t5, t6], [], h, kc, ks) Q := by
  refine w_ld rfl rfl (Or.inr (Or.inr ⟨by decide, y1⟩)) ?_
  refine w_ld rfl rfl (Or.inl ⟨by decide, rfl⟩) ?_
  subst e_q2
  exact w_cv rfl [.index q2, vi x1] [] rfl rfl (s_wt_4 rfl) rfl g4 k

theorem k97_5 {P : s_P} {d : Nat} {Q : s_O → Prop} {h : s_H} {kc ks : Nat} {r0 : Term} {x1 x2 : Int} {t3 t4 t5 t6 s0 : Term} {q3 : Nat} {f4 : List Term} (g5 : s_get h q3 = some (1, 10, f4)) (k : wm P d 93 [.index q3, vi x2] h (wq P d sw_c97 sw_h97 11 [.index q3, vi x1, vi x2, s0, t4, t5, t6] [] kc ks Q)) (e_q3 : r0 = .index q3 := by first | rfl | assumption) (y1 : s_ty s0 = 3 := by first | rfl | assumption) (y2 : s_ty r0 = 3 := by first | rfl | assumption)  : wr P d sw_c97 sw_h97 (5, [r0, vi x1, vi x2, t3, t4, t5, t6], [s0], h, kc, ks) Q := by
  refine w_st (ls' := [r0, vi x1, vi x2, s0, t4, t5, t6]) rfl (Or.inr ⟨by decide, y1⟩) rfl ?_
  refine w_ld rfl rfl (Or.inr (Or.inr ⟨by decide, y2⟩)) ?_
  refine w_ld rfl rfl (Or.inl ⟨by decide, rfl⟩) ?_
  subst e_q3
  exact w_cv rfl [.index q3, vi x2] [] rfl rfl (s_wt_4 rfl) rfl g5 k

theorem k97_11 {P : s_P} {d : Nat} {Q : s_O → Prop} {h : s_H} {kc ks : Nat} {r0 : Term} {x1 x2 : Int} {r3 t4 t5 t6 s0 : Term}  (k : wm P d 55 [r3] h (wq P d sw_c97 sw_h97 17 [r0, vi x1, vi x2, r3, s0, t5, t6] [] kc ks Q)) (y1 : s_ty r3 = 3 := by first | rfl | assumption) (y2 : s_ty s0 = 3 := by first | rfl | assumption)  : wr P d sw_c97 sw_h97 (11, [r0, vi x1, vi x2, r3, t4, t5, t6], [s0], h, kc, ks) Q := by
  refine w_st (ls' := [r0, vi x1, vi x2, r3, s0, t5, t6]) rfl (Or.inr ⟨by decide, y2⟩) (s_stK_r (pre := [r0, vi x1, vi x2]) y1) ?_
  refine w_ld rfl rfl (Or.inr (Or.inr ⟨by decide, y1⟩)) ?_
  exact w_cs rfl [r3] [] rfl rfl (s_wt_4 rfl) k

theorem k97_17 {P : s_P} {d : Nat} {Q : s_O → Prop} {h : s_H} {kc ks : Nat} {r0 : Term} {x1 x2 : Int} {r3 r4 t5 t6 : Term}  (k : wm P d 52 [r4, vi 1] h (wq P d sw_c97 sw_h97 23 [r0, vi x1, vi x2, r3, r4, t5, t6] [] kc ks Q)) (y1 : s_ty r4 = 3 := by first | rfl | assumption)  : wr P d sw_c97 sw_h97 (17, [r0, vi x1, vi x2, r3, r4, t5, t6], [], h, kc, ks) Q := by
  refine w_ld rfl rfl (Or.inr (Or.inr ⟨by decide, y1⟩)) ?_
  refine w_c32 rfl (by decide) 1 (by decide) ?_
  exact w_cs rfl [r4, vi 1] [] rfl rfl (s_wt_4 rfl) k

theorem k97_23 {P : s_P} {d : Nat} {Q : s_O → Prop} {h : s_H} {kc ks : Nat} {r0 : Term} {x1 x2 : Int} {r3 r4 t5 t6 : Term} {q2 : Nat} {f3 : List Term} {z5 : Int} (g4 : s_get h q2 = some (1, 8, f3)) (k : wm P d 265 [.index q2, vi 0, vi (z5 - 1)] h (wq P d sw_c97 sw_h97 34 [r0, vi x1, vi x2, .index q2, r4, t5, t6] [] kc ks Q)) (e_q2 : r3 = .index q2 := by first | rfl | assumption) (y1 : s_ty r3 = 3 := by first | rfl | assumption) (n6 : s_nth f3 4 = some (vi z5) := by first | rfl | assumption)  : wr P d sw_c97 sw_h97 (23, [r0, vi x1, vi x2, r3, r4, t5, t6], [], h, kc, ks) Q := by
  refine w_ld rfl rfl (Or.inr (Or.inr ⟨by decide, y1⟩)) ?_
  refine w_c32 rfl (by decide) 0 (by decide) ?_
  refine w_ld rfl rfl (Or.inr (Or.inr ⟨by decide, y1⟩)) ?_
  subst e_q2
  refine w_getf rfl g4 n6 ?_
  refine w_c32 rfl (by decide) 1 (by decide) ?_
  refine w_isub rfl ?_
  exact w_cv rfl [.index q2, vi 0, vi (z5 - 1)] [] rfl rfl (s_wt_4 rfl) rfl g4 k

theorem k97_34 {P : s_P} {d : Nat} {Q : s_O → Prop} {h : s_H} {kc ks : Nat} {r0 : Term} {x1 x2 : Int} {r3 r4 t5 t6 s0 : Term}  (k : wr P d sw_c97 sw_h97 (39, [r0, vi x1, vi x2, r3, r4, s0, vi 0], [], h, kc, ks) Q) (y1 : s_ty r4 = 3 := by first | rfl | assumption) (y2 : s_ty s0 = 3 := by first | rfl | assumption)  : wr P d sw_c97 sw_h97 (34, [r0, vi x1, vi x2, r3, r4, t5, t6], [s0], h, kc, ks) Q := by
  refine w_st (ls' := [r0, vi x1, vi x2, r3, r4, s0, t6]) rfl (Or.inr ⟨by decide, y2⟩) (s_stK_r (pre := [r0, vi x1, vi x2, r3]) y1) ?_
  refine w_c32 rfl (by decide) 0 (by decide) ?_
  refine w_st (ls' := [r0, vi x1, vi x2, r3, r4, s0, vi 0]) rfl (Or.inl ⟨by decide, rfl⟩) (s_stK_r (pre := [r0, vi x1, vi x2, r3, r4]) y2) ?_
  exact k

theorem k97_39 {P : s_P} {d : Nat} {Q : s_O → Prop} {h : s_H} {kc ks : Nat} {r0 : Term} {x1 x2 : Int} {r3 r4 r5 : Term} {x6 : Int} {q2 : Nat} {f3 : List Term} {z5 : Int} (g4 : s_get h q2 = some (1, 8, f3)) (k1 : 25 - z5 < x6 → wr P d sw_c97 sw_h97 (75, [r0, vi x1, vi x2, .index q2, r4, r5, vi x6], [], h, kc, ks) Q) (k2 : ¬ 25 - z5 < x6 → wr P d sw_c97 sw_h97 (51, [r0, vi x1, vi x2, .index q2, r4, r5, vi x6], [], h, kc, ks) Q) (e_q2 : r3 = .index q2 := by first | rfl | assumption) (y1 : s_ty r3 = 3 := by first | rfl | assumption) (n6 : s_nth f3 4 = some (vi z5) := by first | rfl | assumption) (c7 : In3 x6 := by first | omega | assumption | (simp only [mk_len, List.length_map]; omega) | decide) (c8 : In3 (25 - z5) := by first | omega | assumption | (simp only [mk_len, List.length_map]; omega) | decide) : wr P d sw_c97 sw_h97 (39, [r0, vi x1, vi x2, r3, r4, r5, vi x6], [], h, kc, ks) Q := by
  refine w_ld rfl rfl (Or.inl ⟨by decide, rfl⟩) ?_
  refine w_c32 rfl (by decide) 25 (by decide) ?_
  refine w_ld rfl rfl (Or.inr (Or.inr ⟨by decide, y1⟩)) ?_
  subst e_q2
  refine w_getf rfl g4 n6 ?_
  refine w_isub rfl ?_
  exact w_if2 rfl c7 c8 k1 k2

theorem k97_51 {P : s_P} {d : Nat} {Q : s_O → Prop} {h : s_H} {kc ks : Nat} {r0 : Term} {x1 x2 : Int} {r3 r4 r5 : Term} {x6 : Int} {q2 : Nat} {f3 : List Term} (g4 : s_get h q2 = some (1, 4, f3)) (k : wm P d 187 [.index q2, vi x6] h (wq P d sw_c97 sw_h97 58 [r0, vi x1, vi x2, r3, r4, .index q2, vi x6] [] kc ks Q)) (e_q2 : r5 = .index q2 := by first | rfl | assumption) (y1 : s_ty r5 = 3 := by first | rfl | assumption)  : wr P d sw_c97 sw_h97 (51, [r0, vi x1, vi x2, r3, r4, r5, vi x6], [], h, kc, ks) Q := by
  refine w_ld rfl rfl (Or.inr (Or.inr ⟨by decide, y1⟩)) ?_
  refine w_ld rfl rfl (Or.inl ⟨by decide, rfl⟩) ?_
  subst e_q2
  exact w_cv rfl [.index q2, vi x6] [] rfl rfl (s_wt_4 rfl) rfl g4 k

theorem k97_58 {P : s_P} {d : Nat} {Q : s_O → Prop} {h : s_H} {kc ks : Nat} {r0 : Term} {x1 x2 : Int} {r3 r4 r5 : Term} {x6 s0 : Int}  (k1 : s0 ≠ 0 → wr P d sw_c97 sw_h97 (69, [r0, vi x1, vi x2, r3, r4, r5, vi x6], [], h, kc, ks) Q) (k2 : ¬ s0 ≠ 0 → wr P d sw_c97 sw_h97 (61, [r0, vi x1, vi x2, r3, r4, r5, vi x6], [], h, kc, ks) Q)  (c1 : In3 s0 := by first | omega | assumption | (simp only [mk_len, List.length_map]; omega) | decide) : wr P d sw_c97 sw_h97 (58, [r0, vi x1, vi x2, r3, r4, r5, vi x6], [vi s0], h, kc, ks) Q := by
  exact w_if1 rfl c1 k1 k2

theorem k97_61 {P : s_P} {d : Nat} {Q : s_O → Prop} {h : s_H} {kc ks : Nat} {r0 : Term} {x1 x2 : Int} {r3 r4 r5 : Term} {x6 : Int}  (k : Q (.inr 2, h, kc + 1, ks + 6))   : wr P d sw_c97 sw_h97 (61, [r0, vi x1, vi x2, r3, r4, r5, vi x6], [], h, kc, ks) Q := by
  exact w_throw rfl (s_wt_4 rfl) k

theorem k97_69 {P : s_P} {d : Nat} {Q : s_O → Prop} {h : s_H} {kc ks : Nat} {r0 : Term} {x1 x2 : Int} {r3 r4 r5 : Term} {x6 : Int}  (k : wr P d sw_c97 sw_h97 (39, [r0, vi x1, vi x2, r3, r4, r5, vi (x6 + 1)], [], h, kc, ks) Q) (y1 : s_ty r5 = 3 := by first | rfl | assumption)  : wr P d sw_c97 sw_h97 (69, [r0, vi x1, vi x2, r3, r4, r5, vi x6], [], h, kc, ks) Q := by
  refine w_iinc (ls' := [r0, vi x1, vi x2, r3, r4, r5, vi (x6 + 1)]) rfl rfl 1 (by decide) (s_stK_r (pre := [r0, vi x1, vi x2, r3, r4]) y1) ?_
  refine w_goto rfl ?_
  exact k

theorem k97_75 {P : s_P} {d : Nat} {Q : s_O → Prop} {h : s_H} {kc ks : Nat} {r0 : Term} {x1 x2 : Int} {r3 r4 r5 : Term} {x6 : Int} {q4 : Nat} {f5 : List Term} {v7 : Term} (g6 : s_get h q4 = some (1, 8, f5)) (k : wm P d 248 [r3, v7] h (wq P d sw_c97 sw_h97 85 [r0, vi x1, vi x2, r3, .index q4, r5, vi x6] [r0] kc ks Q)) (e_q4 : r4 = .index q4 := by first | rfl | assumption) (y1 : s_ty r0 = 3 := by first | rfl | assumption) (y2 : s_ty r3 = 3 := by first | rfl | assumption) (y3 : s_ty r4 = 3 := by first | rfl | assumption) (n8 : s_nth f5 6 = some v7 := by first | rfl | assumption)  : wr P d sw_c97 sw_h97 (75, [r0, vi x1, vi x2, r3, r4, r5, vi x6], [], h, kc, ks) Q := by
  refine w_ld rfl rfl (Or.inr (Or.inr ⟨by decide, y1⟩)) ?_
  refine w_ld rfl rfl (Or.inr (Or.inr ⟨by decide, y2⟩)) ?_
  refine w_ld rfl rfl (Or.inr (Or.inr ⟨by decide, y3⟩)) ?_
  subst e_q4
  refine w_getf rfl g6 n8 ?_
  exact w_cs rfl [r3, v7] [r0] rfl rfl (s_wt_4 rfl) k

theorem k97_85 {P : s_P} {d : Nat} {Q : s_O → Prop} {h : s_H} {kc ks : Nat} {r0 : Term} {x1 x2 : Int} {r3 r4 r5 : Term} {x6 : Int} {s0 s1 : Term} {q1 : Nat} {f2 : List Term} (g3 : s_get h q1 = some (1, 10, f2)) (k : wm P d 39 [.index q1, s1] h (wq P d sw_c97 sw_h97 88 [r0, vi x1, vi x2, r3, r4, r5, vi x6] [] kc ks Q)) (e_q1 : s0 = .index q1 := by first | rfl | assumption)  : wr P d sw_c97 sw_h97 (85, [r0, vi x1, vi x2, r3, r4, r5, vi x6], [s1, s0], h, kc, ks) Q := by
  subst e_q1
  exact w_cv rfl [.index q1, s1] [] rfl rfl (s_wt_4 rfl) rfl g3 k

theorem k97_88 {P : s_P} {d : Nat} {Q : s_O → Prop} {h : s_H} {kc ks : Nat} {r0 : Term} {x1 x2 : Int} {r3 r4 r5 : Term} {x6 s0 : Int}  (k : Q (.inl (some (vi s0)), h, kc, ks))   : wr P d sw_c97 sw_h97 (88, [r0, vi x1, vi x2, r3, r4, r5, vi x6], [vi s0], h, kc, ks) Q := by
  exact w_iret rfl k

/-! 98: FormulaWorks.value(IJ)I -/
theorem k98_0 {P : s_P} {d : Nat} {Q : s_O → Prop} {h : s_H} {kc ks : Nat} {r0 : Term} {x1 x2 : Int} {t3 : Term} {q2 : Nat} {f3 : List Term} (g4 : s_get h q2 = some (1, 10, f3)) (k : wm P d 64 [.index q2, vi x1, vi 0] h (wq P d sw_c98 sw_h98 6 [.index q2, vi x1, vl x2, t3] [] kc ks Q)) (e_q2 : r0 = .index q2 := by first | rfl | assumption) (y1 : s_ty r0 = 3 := by first | rfl | assumption)  : wr P d sw_c98 sw_h98 (0, [r0, vi x1, vl x2, t3], [], h, kc, ks) Q := by
  refine w_ld rfl rfl (Or.inr (Or.inr ⟨by decide, y1⟩)) ?_
  refine w_ld rfl rfl (Or.inl ⟨by decide, rfl⟩) ?_
  refine w_c32 rfl (by decide) 0 (by decide) ?_
  subst e_q2
  exact w_cv rfl [.index q2, vi x1, vi 0] [] rfl rfl (s_wt_4 rfl) rfl g4 k

theorem k98_6 {P : s_P} {d : Nat} {Q : s_O → Prop} {h : s_H} {kc ks : Nat} {r0 : Term} {x1 x2 : Int} {t3 s0 : Term}  (k : wm P d 76 [vl x2] h (wq P d sw_c98 sw_h98 10 [r0, vi x1, vl x2, t3] [s0] kc ks Q))   : wr P d sw_c98 sw_h98 (6, [r0, vi x1, vl x2, t3], [s0], h, kc, ks) Q := by
  refine w_ld rfl rfl (Or.inr (Or.inl ⟨by decide, rfl⟩)) ?_
  exact w_cs rfl [vl x2] [s0] rfl rfl (s_wt_4 rfl) k

theorem k98_10 {P : s_P} {d : Nat} {Q : s_O → Prop} {h : s_H} {kc ks : Nat} {r0 : Term} {x1 x2 : Int} {t3 s0 : Term} {s1 : Int}  (k : wm P d 99 [s0, vi s1] h (wq P d sw_c98 sw_h98 13 [r0, vi x1, vl x2, t3] [] kc ks Q))   : wr P d sw_c98 sw_h98 (10, [r0, vi x1, vl x2, t3], [vi s1, s0], h, kc, ks) Q := by
  exact w_cs rfl [s0, vi s1] [] rfl rfl (s_wt_4 rfl) k

theorem k98_13 {P : s_P} {d : Nat} {Q : s_O → Prop} {h : s_H} {kc ks : Nat} {r0 : Term} {x1 x2 : Int} {t3 : Term} {s0 : Int}  (k : Q (.inl (some (vi s0)), h, kc, ks))   : wr P d sw_c98 sw_h98 (13, [r0, vi x1, vl x2, t3], [vi s0], h, kc, ks) Q := by
  exact w_iret rfl k

/-! 99: FormulaWorks.valueAt(LFormulaWorks$Thing;I)I -/
theorem k99_0 {P : s_P} {d : Nat} {Q : s_O → Prop} {h : s_H} {kc ks : Nat} {r0 : Term} {x1 : Int} {t2 : Term} {q2 : Nat} {f3 : List Term} {v5 : Term} {q7 : Nat} {f8 : List Term} (g4 : s_get h q2 = some (1, 8, f3)) (g9 : s_get h q7 = some (1, 4, f8)) (k : wm P d 187 [.index q7, vi x1] h (wq P d sw_c99 sw_h99 8 [.index q2, vi x1, t2] [] kc ks Q)) (e_q2 : r0 = .index q2 := by first | rfl | assumption) (e_q7 : v5 = .index q7 := by first | rfl | assumption) (y1 : s_ty r0 = 3 := by first | rfl | assumption) (n6 : s_nth f3 2 = some v5 := by first | rfl | assumption)  : wr P d sw_c99 sw_h99 (0, [r0, vi x1, t2], [], h, kc, ks) Q := by
  refine w_ld rfl rfl (Or.inr (Or.inr ⟨by decide, y1⟩)) ?_
  subst e_q2
  refine w_getf rfl g4 n6 ?_
  refine w_ld rfl rfl (Or.inl ⟨by decide, rfl⟩) ?_
  subst e_q7
  exact w_cv rfl [.index q7, vi x1] [] rfl rfl (s_wt_4 rfl) rfl g9 k

theorem k99_8 {P : s_P} {d : Nat} {Q : s_O → Prop} {h : s_H} {kc ks : Nat} {r0 : Term} {x1 : Int} {t2 : Term} {s0 : Int}  (k1 : s0 ≠ 0 → wr P d sw_c99 sw_h99 (15, [r0, vi x1, vi s0], [], h, kc, ks) Q) (k2 : ¬ s0 ≠ 0 → wr P d sw_c99 sw_h99 (13, [r0, vi x1, vi s0], [], h, kc, ks) Q)  (c1 : In3 s0 := by first | omega | assumption | (simp only [mk_len, List.length_map]; omega) | decide) : wr P d sw_c99 sw_h99 (8, [r0, vi x1, t2], [vi s0], h, kc, ks) Q := by
  refine w_st (ls' := [r0, vi x1, vi s0]) rfl (Or.inl ⟨by decide, rfl⟩) rfl ?_
  refine w_ld rfl rfl (Or.inl ⟨by decide, rfl⟩) ?_
  exact w_if1 rfl c1 k1 k2

theorem k99_13 {P : s_P} {d : Nat} {Q : s_O → Prop} {h : s_H} {kc ks : Nat} {r0 : Term} {x1 x2 : Int}  (k : Q (.inl (some (vi (-1))), h, kc, ks))   : wr P d sw_c99 sw_h99 (13, [r0, vi x1, vi x2], [], h, kc, ks) Q := by
  refine w_c32 rfl (by decide) (-1) (by decide) ?_
  exact w_iret rfl k

theorem k99_15 {P : s_P} {d : Nat} {Q : s_O → Prop} {h : s_H} {kc ks : Nat} {r0 : Term} {x1 x2 : Int} {q2 : Nat} {f3 : List Term} {v5 : Term} {q7 : Nat} {f8 : List Term} (g4 : s_get h q2 = some (1, 8, f3)) (g9 : s_get h q7 = some (1, 4, f8)) (k : wm P d 187 [.index q7, vi x1] h (wq P d sw_c99 sw_h99 23 [.index q2, vi x1, vi x2] [] kc ks Q)) (e_q2 : r0 = .index q2 := by first | rfl | assumption) (e_q7 : v5 = .index q7 := by first | rfl | assumption) (y1 : s_ty r0 = 3 := by first | rfl | assumption) (n6 : s_nth f3 1 = some v5 := by first | rfl | assumption)  : wr P d sw_c99 sw_h99 (15, [r0, vi x1, vi x2], [], h, kc, ks) Q := by
  refine w_ld rfl rfl (Or.inr (Or.inr ⟨by decide, y1⟩)) ?_
  subst e_q2
  refine w_getf rfl g4 n6 ?_
  refine w_ld rfl rfl (Or.inl ⟨by decide, rfl⟩) ?_
  subst e_q7
  exact w_cv rfl [.index q7, vi x1] [] rfl rfl (s_wt_4 rfl) rfl g9 k

theorem k99_23 {P : s_P} {d : Nat} {Q : s_O → Prop} {h : s_H} {kc ks : Nat} {r0 : Term} {x1 x2 s0 : Int}  (k : wm P d 168 [vi x2] h (wq P d sw_c99 sw_h99 27 [r0, vi x1, vi x2] [vi s0] kc ks Q))   : wr P d sw_c99 sw_h99 (23, [r0, vi x1, vi x2], [vi s0], h, kc, ks) Q := by
  refine w_ld rfl rfl (Or.inl ⟨by decide, rfl⟩) ?_
  exact w_cs rfl [vi x2] [vi s0] rfl rfl (s_wt_4 rfl) k

theorem k99_27 {P : s_P} {d : Nat} {Q : s_O → Prop} {h : s_H} {kc ks : Nat} {r0 : Term} {x1 x2 s0 s1 : Int}  (k : Q (.inl (some (vi (Int.tmod (s0 * s1) 32003))), h, kc, ks))  (c1 : In3 (s0 * s1) := by first | omega | assumption | (simp only [mk_len, List.length_map]; omega) | decide) : wr P d sw_c99 sw_h99 (27, [r0, vi x1, vi x2], [vi s1, vi s0], h, kc, ks) Q := by
  refine w_imul rfl ?_
  refine w_c32 rfl (by decide) 32003 (by decide) ?_
  refine w_irem rfl c1 (by decide) (by decide) ?_
  exact w_iret rfl k

/-! 100: FormulaWorks.valueThere(LFormulaWorks$Thing;I)I -/
theorem k100_0 {P : s_P} {d : Nat} {Q : s_O → Prop} {h : s_H} {kc ks : Nat} {r0 : Term} {x1 : Int} {t2 : Term}  (k : wm P d 99 [r0, vi x1] h (wq P d sw_c100 sw_h100 5 [r0, vi x1, t2] [] kc ks Q)) (y1 : s_ty r0 = 3 := by first | rfl | assumption)  : wr P d sw_c100 sw_h100 (0, [r0, vi x1, t2], [], h, kc, ks) Q := by
  refine w_ld rfl rfl (Or.inr (Or.inr ⟨by decide, y1⟩)) ?_
  refine w_ld rfl rfl (Or.inl ⟨by decide, rfl⟩) ?_
  exact w_cs rfl [r0, vi x1] [] rfl rfl (s_wt_4 rfl) k

theorem k100_5 {P : s_P} {d : Nat} {Q : s_O → Prop} {h : s_H} {kc ks : Nat} {r0 : Term} {x1 : Int} {t2 : Term} {s0 : Int}  (k1 : 0 ≤ s0 → wr P d sw_c100 sw_h100 (18, [r0, vi x1, vi s0], [], h, kc, ks) Q) (k2 : ¬ 0 ≤ s0 → wr P d sw_c100 sw_h100 (10, [r0, vi x1, vi s0], [], h, kc, ks) Q)  (c1 : In3 s0 := by first | omega | assumption | (simp only [mk_len, List.length_map]; omega) | decide) : wr P d sw_c100 sw_h100 (5, [r0, vi x1, t2], [vi s0], h, kc, ks) Q := by
  refine w_st (ls' := [r0, vi x1, vi s0]) rfl (Or.inl ⟨by decide, rfl⟩) rfl ?_
  refine w_ld rfl rfl (Or.inl ⟨by decide, rfl⟩) ?_
  exact w_if1 rfl c1 k1 k2

theorem k100_10 {P : s_P} {d : Nat} {Q : s_O → Prop} {h : s_H} {kc ks : Nat} {r0 : Term} {x1 x2 : Int}  (k : Q (.inr 2, h, kc + 1, ks + 6))   : wr P d sw_c100 sw_h100 (10, [r0, vi x1, vi x2], [], h, kc, ks) Q := by
  exact w_throw rfl (s_wt_4 rfl) k

theorem k100_18 {P : s_P} {d : Nat} {Q : s_O → Prop} {h : s_H} {kc ks : Nat} {r0 : Term} {x1 x2 : Int}  (k : Q (.inl (some (vi x2)), h, kc, ks))   : wr P d sw_c100 sw_h100 (18, [r0, vi x1, vi x2], [], h, kc, ks) Q := by
  refine w_ld rfl rfl (Or.inl ⟨by decide, rfl⟩) ?_
  exact w_iret rfl k

/-! 101: FormulaWorks.within(II)I -/
theorem k101_0 {P : s_P} {d : Nat} {Q : s_O → Prop} {h : s_H} {kc ks : Nat} {r0 : Term} {x1 x2 : Int} {t3 t4 t5 : Term} {q2 : Nat} {f3 : List Term} (g4 : s_get h q2 = some (1, 10, f3)) (k : wm P d 93 [.index q2, vi x1] h (wq P d sw_c101 sw_h101 5 [.index q2, vi x1, vi x2, t3, t4, t5] [] kc ks Q)) (e_q2 : r0 = .index q2 := by first | rfl | assumption) (y1 : s_ty r0 = 3 := by first | rfl | assumption)  : wr P d sw_c101 sw_h101 (0, [r0, vi x1, vi x2, t3, t4, t5], [], h, kc, ks) Q := by
  refine w_ld rfl rfl (Or.inr (Or.inr ⟨by decide, y1⟩)) ?_
  refine w_ld rfl rfl (Or.inl ⟨by decide, rfl⟩) ?_
  subst e_q2
  exact w_cv rfl [.index q2, vi x1] [] rfl rfl (s_wt_4 rfl) rfl g4 k

theorem k101_5 {P : s_P} {d : Nat} {Q : s_O → Prop} {h : s_H} {kc ks : Nat} {r0 : Term} {x1 x2 : Int} {t3 t4 t5 s0 : Term} {q3 : Nat} {f4 : List Term} (g5 : s_get h q3 = some (1, 10, f4)) (k : wm P d 93 [.index q3, vi x2] h (wq P d sw_c101 sw_h101 11 [.index q3, vi x1, vi x2, s0, t4, t5] [] kc ks Q)) (e_q3 : r0 = .index q3 := by first | rfl | assumption) (y1 : s_ty s0 = 3 := by first | rfl | assumption) (y2 : s_ty r0 = 3 := by first | rfl | assumption)  : wr P d sw_c101 sw_h101 (5, [r0, vi x1, vi x2, t3, t4, t5], [s0], h, kc, ks) Q := by
  refine w_st (ls' := [r0, vi x1, vi x2, s0, t4, t5]) rfl (Or.inr ⟨by decide, y1⟩) rfl ?_
  refine w_ld rfl rfl (Or.inr (Or.inr ⟨by decide, y2⟩)) ?_
  refine w_ld rfl rfl (Or.inl ⟨by decide, rfl⟩) ?_
  subst e_q3
  exact w_cv rfl [.index q3, vi x2] [] rfl rfl (s_wt_4 rfl) rfl g5 k

theorem k101_11 {P : s_P} {d : Nat} {Q : s_O → Prop} {h : s_H} {kc ks : Nat} {r0 : Term} {x1 x2 : Int} {r3 t4 t5 s0 : Term}  (k : wm P d 58 [r3] h (wq P d sw_c101 sw_h101 17 [r0, vi x1, vi x2, r3, s0, t5] [] kc ks Q)) (y1 : s_ty r3 = 3 := by first | rfl | assumption) (y2 : s_ty s0 = 3 := by first | rfl | assumption)  : wr P d sw_c101 sw_h101 (11, [r0, vi x1, vi x2, r3, t4, t5], [s0], h, kc, ks) Q := by
  refine w_st (ls' := [r0, vi x1, vi x2, r3, s0, t5]) rfl (Or.inr ⟨by decide, y2⟩) (s_stK_r (pre := [r0, vi x1, vi x2]) y1) ?_
  refine w_ld rfl rfl (Or.inr (Or.inr ⟨by decide, y1⟩)) ?_
  exact w_cs rfl [r3] [] rfl rfl (s_wt_4 rfl) k

theorem k101_17 {P : s_P} {d : Nat} {Q : s_O → Prop} {h : s_H} {kc ks : Nat} {r0 : Term} {x1 x2 : Int} {r3 r4 t5 : Term}  (k : wm P d 52 [r4, vi 2] h (wq P d sw_c101 sw_h101 23 [r0, vi x1, vi x2, r3, r4, t5] [] kc ks Q)) (y1 : s_ty r4 = 3 := by first | rfl | assumption)  : wr P d sw_c101 sw_h101 (17, [r0, vi x1, vi x2, r3, r4, t5], [], h, kc, ks) Q := by
  refine w_ld rfl rfl (Or.inr (Or.inr ⟨by decide, y1⟩)) ?_
  refine w_c32 rfl (by decide) 2 (by decide) ?_
  exact w_cs rfl [r4, vi 2] [] rfl rfl (s_wt_4 rfl) k

theorem k101_23 {P : s_P} {d : Nat} {Q : s_O → Prop} {h : s_H} {kc ks : Nat} {r0 : Term} {x1 x2 : Int} {r3 r4 t5 : Term}  (k : wm P d 56 [r4] h (wq P d sw_c101 sw_h101 28 [r0, vi x1, vi x2, r3, r4, t5] [] kc ks Q)) (y1 : s_ty r4 = 3 := by first | rfl | assumption)  : wr P d sw_c101 sw_h101 (23, [r0, vi x1, vi x2, r3, r4, t5], [], h, kc, ks) Q := by
  refine w_ld rfl rfl (Or.inr (Or.inr ⟨by decide, y1⟩)) ?_
  exact w_cs rfl [r4] [] rfl rfl (s_wt_4 rfl) k

theorem k101_28 {P : s_P} {d : Nat} {Q : s_O → Prop} {h : s_H} {kc ks : Nat} {r0 : Term} {x1 x2 : Int} {r3 r4 t5 : Term}  (k : wr P d sw_c101 sw_h101 (31, [r0, vi x1, vi x2, r3, r4, vi 0], [], h, kc, ks) Q) (y1 : s_ty r4 = 3 := by first | rfl | assumption)  : wr P d sw_c101 sw_h101 (28, [r0, vi x1, vi x2, r3, r4, t5], [], h, kc, ks) Q := by
  refine w_c32 rfl (by decide) 0 (by decide) ?_
  refine w_st (ls' := [r0, vi x1, vi x2, r3, r4, vi 0]) rfl (Or.inl ⟨by decide, rfl⟩) (s_stK_r (pre := [r0, vi x1, vi x2, r3]) y1) ?_
  exact k

theorem k101_31 {P : s_P} {d : Nat} {Q : s_O → Prop} {h : s_H} {kc ks : Nat} {r0 : Term} {x1 x2 : Int} {r3 r4 : Term} {x5 : Int} {q2 : Nat} {f3 : List Term} {v5 : Term} {q7 : Nat} {a8 : List Term} {tg10 : Nat} (g4 : s_get h q2 = some (1, 8, f3)) (g9 : s_get h q7 = some (0, tg10, a8)) (k1 : (a8.length : Int) ≤ x5 → wr P d sw_c101 sw_h101 (70, [r0, vi x1, vi x2, r3, .index q2, vi x5], [], h, kc, ks) Q) (k2 : ¬ (a8.length : Int) ≤ x5 → wr P d sw_c101 sw_h101 (42, [r0, vi x1, vi x2, r3, .index q2, vi x5], [], h, kc, ks) Q) (e_q2 : r4 = .index q2 := by first | rfl | assumption) (e_q7 : v5 = .index q7 := by first | rfl | assumption) (y1 : s_ty r4 = 3 := by first | rfl | assumption) (n6 : s_nth f3 5 = some v5 := by first | rfl | assumption) (c11 : In3 x5 := by first | omega | assumption | (simp only [mk_len, List.length_map]; omega) | decide) (c12 : In3 (a8.length : Int) := by first | omega | assumption | (simp only [mk_len, List.length_map]; omega) | decide) : wr P d sw_c101 sw_h101 (31, [r0, vi x1, vi x2, r3, r4, vi x5], [], h, kc, ks) Q := by
  refine w_ld rfl rfl (Or.inl ⟨by decide, rfl⟩) ?_
  refine w_ld rfl rfl (Or.inr (Or.inr ⟨by decide, y1⟩)) ?_
  subst e_q2
  refine w_getf rfl g4 n6 ?_
  subst e_q7
  refine w_alen rfl g9 (Or.inl rfl) ?_
  exact w_if2 rfl c11 c12 k1 k2

theorem k101_42 {P : s_P} {d : Nat} {Q : s_O → Prop} {h : s_H} {kc ks : Nat} {r0 : Term} {x1 x2 : Int} {r3 r4 : Term} {x5 : Int} {q2 : Nat} {f3 : List Term} {v5 : Term} {q7 : Nat} {a8 : List Term} {tg10 : Nat} {v11 : Term} {q16 : Nat} {f17 : List Term} {z19 : Int} (g4 : s_get h q2 = some (1, 8, f3)) (g9 : s_get h q7 = some (0, tg10, a8)) (g18 : s_get h q16 = some (1, 4, f17)) (k1 : z19 ≤ 0 → wr P d sw_c101 sw_h101 (64, [r0, vi x1, vi x2, r3, .index q2, vi x5], [], h, kc, ks) Q) (k2 : ¬ z19 ≤ 0 → wr P d sw_c101 sw_h101 (56, [r0, vi x1, vi x2, r3, .index q2, vi x5], [], h, kc, ks) Q) (e_q2 : r4 = .index q2 := by first | rfl | assumption) (e_q7 : v5 = .index q7 := by first | rfl | assumption) (e_q16 : v11 = .index q16 := by first | rfl | assumption) (y1 : s_ty r4 = 3 := by first | rfl | assumption) (n6 : s_nth f3 5 = some v5 := by first | rfl | assumption) (n12 : s_nth a8 (Int.toNat (x5)) = some v11 := by first | rfl | assumption) (u13 : tg10 = 2 ∨ tg10 = 3 ∨ tg10 = 4 := by first | decide | assumption) (n20 : s_nth f17 1 = some (vi z19) := by first | rfl | assumption) (c14 : In3 x5 := by first | omega | assumption | (simp only [mk_len, List.length_map]; omega) | decide) (c15 : 0 ≤ x5 := by first | omega | assumption | (simp only [mk_len, List.length_map]; omega) | decide) (c21 : In3 z19 := by first | omega | assumption | (simp only [mk_len, List.length_map]; omega) | decide) : wr P d sw_c101 sw_h101 (42, [r0, vi x1, vi x2, r3, r4, vi x5], [], h, kc, ks) Q := by
  refine w_ld rfl rfl (Or.inr (Or.inr ⟨by decide, y1⟩)) ?_
  subst e_q2
  refine w_getf rfl g4 n6 ?_
  refine w_ld rfl rfl (Or.inl ⟨by decide, rfl⟩) ?_
  subst e_q7
  refine w_aald rfl g9 u13 c14 c15 n12 ?_
  subst e_q16
  refine w_getf rfl g18 n20 ?_
  exact w_if1 rfl c21 k1 k2

theorem k101_56 {P : s_P} {d : Nat} {Q : s_O → Prop} {h : s_H} {kc ks : Nat} {r0 : Term} {x1 x2 : Int} {r3 r4 : Term} {x5 : Int}  (k : Q (.inr 1, h, kc + 1, ks + 6))   : wr P d sw_c101 sw_h101 (56, [r0, vi x1, vi x2, r3, r4, vi x5], [], h, kc, ks) Q := by
  exact w_throw rfl (s_wt_4 rfl) k

theorem k101_64 {P : s_P} {d : Nat} {Q : s_O → Prop} {h : s_H} {kc ks : Nat} {r0 : Term} {x1 x2 : Int} {r3 r4 : Term} {x5 : Int}  (k : wr P d sw_c101 sw_h101 (31, [r0, vi x1, vi x2, r3, r4, vi (x5 + 1)], [], h, kc, ks) Q) (y1 : s_ty r4 = 3 := by first | rfl | assumption)  : wr P d sw_c101 sw_h101 (64, [r0, vi x1, vi x2, r3, r4, vi x5], [], h, kc, ks) Q := by
  refine w_iinc (ls' := [r0, vi x1, vi x2, r3, r4, vi (x5 + 1)]) rfl rfl 1 (by decide) (s_stK_r (pre := [r0, vi x1, vi x2, r3]) y1) ?_
  refine w_goto rfl ?_
  exact k

theorem k101_70 {P : s_P} {d : Nat} {Q : s_O → Prop} {h : s_H} {kc ks : Nat} {r0 : Term} {x1 x2 : Int} {r3 r4 : Term} {x5 : Int} {q2 : Nat} {f3 : List Term} {v5 : Term} {q8 : Nat} {f9 : List Term} {v11 : Term} {q14 : Nat} {f15 : List Term} (g4 : s_get h q2 = some (1, 10, f3)) (g10 : s_get h q8 = some (1, 8, f9)) (g16 : s_get h q14 = some (1, 2, f15)) (k : wm P d 140 [.index q14, v11, r4] h (wq P d sw_c101 sw_h101 84 [.index q2, vi x1, vi x2, .index q8, r4, vi x5] [.index q2] kc ks Q)) (e_q2 : r0 = .index q2 := by first | rfl | assumption) (e_q8 : r3 = .index q8 := by first | rfl | assumption) (e_q14 : v5 = .index q14 := by first | rfl | assumption) (y1 : s_ty r0 = 3 := by first | rfl | assumption) (n6 : s_nth f3 10 = some v5 := by first | rfl | assumption) (y7 : s_ty r3 = 3 := by first | rfl | assumption) (n12 : s_nth f9 1 = some v11 := by first | rfl | assumption) (y13 : s_ty r4 = 3 := by first | rfl | assumption)  : wr P d sw_c101 sw_h101 (70, [r0, vi x1, vi x2, r3, r4, vi x5], [], h, kc, ks) Q := by
  refine w_ld rfl rfl (Or.inr (Or.inr ⟨by decide, y1⟩)) ?_
  refine w_ld rfl rfl (Or.inr (Or.inr ⟨by decide, y1⟩)) ?_
  subst e_q2
  refine w_getf rfl g4 n6 ?_
  refine w_ld rfl rfl (Or.inr (Or.inr ⟨by decide, y7⟩)) ?_
  subst e_q8
  refine w_getf rfl g10 n12 ?_
  refine w_ld rfl rfl (Or.inr (Or.inr ⟨by decide, y13⟩)) ?_
  subst e_q14
  exact w_cv rfl [.index q14, v11, r4] [.index q2] rfl rfl (s_wt_4 rfl) rfl g16 k

theorem k101_84 {P : s_P} {d : Nat} {Q : s_O → Prop} {h : s_H} {kc ks : Nat} {r0 : Term} {x1 x2 : Int} {r3 r4 : Term} {x5 : Int} {s0 s1 : Term} {q1 : Nat} {f2 : List Term} (g3 : s_get h q1 = some (1, 10, f2)) (k : wm P d 38 [.index q1, s1] h (wq P d sw_c101 sw_h101 87 [r0, vi x1, vi x2, r3, r4, vi x5] [] kc ks Q)) (e_q1 : s0 = .index q1 := by first | rfl | assumption)  : wr P d sw_c101 sw_h101 (84, [r0, vi x1, vi x2, r3, r4, vi x5], [s1, s0], h, kc, ks) Q := by
  subst e_q1
  exact w_cv rfl [.index q1, s1] [] rfl rfl (s_wt_4 rfl) rfl g3 k

theorem k101_87 {P : s_P} {d : Nat} {Q : s_O → Prop} {h : s_H} {kc ks : Nat} {r0 : Term} {x1 x2 : Int} {r3 r4 : Term} {x5 s0 : Int}  (k : Q (.inl (some (vi s0)), h, kc, ks))   : wr P d sw_c101 sw_h101 (87, [r0, vi x1, vi x2, r3, r4, vi x5], [vi s0], h, kc, ks) Q := by
  exact w_iret rfl k

