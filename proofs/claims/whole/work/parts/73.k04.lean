/-! 313: FormulaWorks$Trees.showTree([I)V -/
theorem k313_0 {P : s_P} {d : Nat} {Q : s_O → Prop} {h : s_H} {kc ks : Nat} {r0 r1 t2 t3 : Term} {q3 : Nat} {f4 : List Term} (g5 : s_get h q3 = some (1, 9, f4)) (k : wm P d 303 [.index q3, r1] h (wq P d sw_c313 sw_h313 5 [.index q3, r1, t2, t3] [] kc ks Q)) (e_q3 : r0 = .index q3 := by first | rfl | assumption) (y1 : s_ty r0 = 3 := by first | rfl | assumption) (y2 : s_ty r1 = 3 := by first | rfl | assumption)  : wr P d sw_c313 sw_h313 (0, [r0, r1, t2, t3], [], h, kc, ks) Q := by
  refine w_ld rfl rfl (Or.inr (Or.inr ⟨by decide, y1⟩)) ?_
  refine w_ld rfl rfl (Or.inr (Or.inr ⟨by decide, y2⟩)) ?_
  subst e_q3
  exact w_cv rfl [.index q3, r1] [] rfl rfl (s_wt_4 rfl) rfl g5 k

theorem k313_22 {P : s_P} {d : Nat} {Q : s_O → Prop} {h : s_H} {kc ks : Nat} {r0 r1 : Term} {x2 : Int} {t3 : Term}  (k1 : 4096 ≤ x2 → wr P d sw_c313 sw_h313 (101, [r0, r1, vi x2, t3], [], h, kc, ks) Q) (k2 : ¬ 4096 ≤ x2 → wr P d sw_c313 sw_h313 (29, [r0, r1, vi x2, t3], [], h, kc, ks) Q)  (c1 : In3 x2 := by first | omega | assumption | (simp only [mk_len, List.length_map]; omega) | decide) : wr P d sw_c313 sw_h313 (22, [r0, r1, vi x2, t3], [], h, kc, ks) Q := by
  refine w_ld rfl rfl (Or.inl ⟨by decide, rfl⟩) ?_
  refine w_c32 rfl (by decide) 4096 (by decide) ?_
  exact w_if2 rfl c1 (by decide) k1 k2

theorem k313_29 {P : s_P} {d : Nat} {Q : s_O → Prop} {h : s_H} {kc ks : Nat} {r0 r1 : Term} {x2 : Int} {t3 : Term} {q2 : Nat} {f3 : List Term} {z5 : Int} (g4 : s_get h q2 = some (1, 9, f3)) (k1 : z5 ≤ 0 → wr P d sw_c313 sw_h313 (101, [.index q2, r1, vi x2, t3], [], h, kc, ks) Q) (k2 : ¬ z5 ≤ 0 → wr P d sw_c313 sw_h313 (36, [.index q2, r1, vi x2, t3], [], h, kc, ks) Q) (e_q2 : r0 = .index q2 := by first | rfl | assumption) (y1 : s_ty r0 = 3 := by first | rfl | assumption) (n6 : s_nth f3 10 = some (vi z5) := by first | rfl | assumption) (c7 : In3 z5 := by first | omega | assumption | (simp only [mk_len, List.length_map]; omega) | decide) : wr P d sw_c313 sw_h313 (29, [r0, r1, vi x2, t3], [], h, kc, ks) Q := by
  refine w_ld rfl rfl (Or.inr (Or.inr ⟨by decide, y1⟩)) ?_
  subst e_q2
  refine w_getf rfl g4 n6 ?_
  exact w_if1 rfl c7 k1 k2

theorem k313_36 {P : s_P} {d : Nat} {Q : s_O → Prop} {h : s_H} {kc ks : Nat} {r0 r1 : Term} {x2 : Int} {t3 : Term} {q2 : Nat} {f3 : List Term} {z5 : Int} {f9 : List Term} {v11 : Term} {z13 : Int} {q15 : Nat} {a16 : List Int} (g4 : s_get h q2 = some (1, 9, f3)) (g10 : s_get (hp h q2 (1, 9, f3.set 10 (vi (z5 - 1)))) q2 = some (1, 9, f9)) (g17 : s_get (hp h q2 (1, 9, f3.set 10 (vi (z5 - 1)))) q15 = some (0, 0, a16.map vi)) (k1 : 0 ≤ gi a16 z13 → wr P d sw_c313 sw_h313 (69, [.index q2, r1, vi x2, vi (gi a16 z13)], [], (hp h q2 (1, 9, f3.set 10 (vi (z5 - 1)))), kc, ks) Q) (k2 : ¬ 0 ≤ gi a16 z13 → wr P d sw_c313 sw_h313 (60, [.index q2, r1, vi x2, vi (gi a16 z13)], [], (hp h q2 (1, 9, f3.set 10 (vi (z5 - 1)))), kc, ks) Q) (e_q2 : r0 = .index q2 := by first | rfl | assumption) (e_q15 : v11 = .index q15 := by first | rfl | assumption) (y1 : s_ty r0 = 3 := by first | rfl | assumption) (n6 : s_nth f3 10 = some (vi z5) := by first | rfl | assumption) (l7 : 10 < f3.length := by first | exact Nat.le_of_ble_eq_true rfl | omega | assumption) (n12 : s_nth f9 9 = some v11 := by first | rfl | assumption) (n14 : s_nth f9 10 = some (vi z13) := by first | rfl | assumption) (c8 : 0 < q2 := by first | omega | assumption | (simp only [mk_len, List.length_map]; omega) | decide) (c18 : z13 < a16.length := by first | omega | assumption | (simp only [mk_len, List.length_map]; omega) | decide) (c19 : 0 ≤ z13 := by first | omega | assumption | (simp only [mk_len, List.length_map]; omega) | decide) (c20 : In3 z13 := by first | omega | assumption | (simp only [mk_len, List.length_map]; omega) | decide) (c21 : In3 (gi a16 z13) := by first | omega | assumption | (simp only [mk_len, List.length_map]; omega) | decide) : wr P d sw_c313 sw_h313 (36, [r0, r1, vi x2, t3], [], h, kc, ks) Q := by
  refine w_ld rfl rfl (Or.inr (Or.inr ⟨by decide, y1⟩)) ?_
  refine w_dup rfl (by rw [y1]; rfl) ?_
  subst e_q2
  refine w_getf rfl g4 n6 ?_
  refine w_c32 rfl (by decide) 1 (by decide) ?_
  refine w_isub rfl ?_
  refine w_putf rfl g4 (Nat.ble_eq_true_of_le c8) rfl (Nat.ble_eq_true_of_le l7) ?_
  refine w_ld rfl rfl (Or.inr (Or.inr ⟨by decide, rfl⟩)) ?_
  refine w_getf rfl g10 n12 ?_
  refine w_ld rfl rfl (Or.inr (Or.inr ⟨by decide, rfl⟩)) ?_
  refine w_getf rfl g10 n14 ?_
  subst e_q15
  refine w_iald rfl g17 (Or.inl rfl) c20 c19 c18 ?_
  refine w_st (ls' := [.index q2, r1, vi x2, vi (gi a16 z13)]) rfl (Or.inl ⟨by decide, rfl⟩) rfl ?_
  refine w_ld rfl rfl (Or.inl ⟨by decide, rfl⟩) ?_
  exact w_if1 rfl c21 k1 k2

theorem k313_60 {P : s_P} {d : Nat} {Q : s_O → Prop} {h : s_H} {kc ks : Nat} {r0 r1 : Term} {x2 x3 : Int} {q2 : Nat} {f3 : List Term} (g4 : s_get h q2 = some (1, 9, f3)) (k : wm P d 308 [.index q2, vi (-x3)] h (wq P d sw_c313 sw_h313 66 [.index q2, r1, vi x2, vi x3] [] kc ks Q)) (e_q2 : r0 = .index q2 := by first | rfl | assumption) (y1 : s_ty r0 = 3 := by first | rfl | assumption)  : wr P d sw_c313 sw_h313 (60, [r0, r1, vi x2, vi x3], [], h, kc, ks) Q := by
  refine w_ld rfl rfl (Or.inr (Or.inr ⟨by decide, y1⟩)) ?_
  refine w_ld rfl rfl (Or.inl ⟨by decide, rfl⟩) ?_
  refine w_ineg rfl ?_
  subst e_q2
  exact w_cv rfl [.index q2, vi (-x3)] [] rfl rfl (s_wt_4 rfl) rfl g4 k

theorem k313_69 {P : s_P} {d : Nat} {Q : s_O → Prop} {h : s_H} {kc ks : Nat} {r0 r1 : Term} {x2 x3 : Int}  (k1 : zi 24 x3 1 ≠ 1 → wr P d sw_c313 sw_h313 (88, [r0, r1, vi x2, vi x3], [], h, kc, ks) Q) (k2 : ¬ zi 24 x3 1 ≠ 1 → wr P d sw_c313 sw_h313 (76, [r0, r1, vi x2, vi x3], [], h, kc, ks) Q)  (c1 : In3 (zi 24 x3 1) := by first | omega | assumption | (simp only [mk_len, List.length_map]; omega) | decide) : wr P d sw_c313 sw_h313 (69, [r0, r1, vi x2, vi x3], [], h, kc, ks) Q := by
  refine w_ld rfl rfl (Or.inl ⟨by decide, rfl⟩) ?_
  refine w_c32 rfl (by decide) 1 (by decide) ?_
  refine w_ib rfl (by decide) ?_
  refine w_c32 rfl (by decide) 1 (by decide) ?_
  exact w_if2 rfl c1 (by decide) k1 k2

theorem k313_76 {P : s_P} {d : Nat} {Q : s_O → Prop} {h : s_H} {kc ks : Nat} {r0 r1 : Term} {x2 x3 : Int} {q2 : Nat} {f3 : List Term} (g4 : s_get h q2 = some (1, 9, f3)) (k : wm P d 308 [.index q2, vi 40] h (wq P d sw_c313 sw_h313 82 [.index q2, r1, vi x2, vi x3] [] kc ks Q)) (e_q2 : r0 = .index q2 := by first | rfl | assumption) (y1 : s_ty r0 = 3 := by first | rfl | assumption)  : wr P d sw_c313 sw_h313 (76, [r0, r1, vi x2, vi x3], [], h, kc, ks) Q := by
  refine w_ld rfl rfl (Or.inr (Or.inr ⟨by decide, y1⟩)) ?_
  refine w_c32 rfl (by decide) 40 (by decide) ?_
  subst e_q2
  exact w_cv rfl [.index q2, vi 40] [] rfl rfl (s_wt_4 rfl) rfl g4 k

theorem k313_88 {P : s_P} {d : Nat} {Q : s_O → Prop} {h : s_H} {kc ks : Nat} {r0 r1 : Term} {x2 x3 : Int} {q2 : Nat} {f3 : List Term} (g4 : s_get h q2 = some (1, 9, f3)) (k : wm P d 310 [.index q2, vi (zi 28 x3 1)] h (wq P d sw_c313 sw_h313 95 [.index q2, r1, vi x2, vi x3] [] kc ks Q)) (e_q2 : r0 = .index q2 := by first | rfl | assumption) (y1 : s_ty r0 = 3 := by first | rfl | assumption)  : wr P d sw_c313 sw_h313 (88, [r0, r1, vi x2, vi x3], [], h, kc, ks) Q := by
  refine w_ld rfl rfl (Or.inr (Or.inr ⟨by decide, y1⟩)) ?_
  refine w_ld rfl rfl (Or.inl ⟨by decide, rfl⟩) ?_
  refine w_c32 rfl (by decide) 1 (by decide) ?_
  refine w_ib rfl (by decide) ?_
  subst e_q2
  exact w_cv rfl [.index q2, vi (zi 28 x3 1)] [] rfl rfl (s_wt_4 rfl) rfl g4 k

theorem k313_95 {P : s_P} {d : Nat} {Q : s_O → Prop} {h : s_H} {kc ks : Nat} {r0 r1 : Term} {x2 x3 : Int}  (k : wr P d sw_c313 sw_h313 (22, [r0, r1, vi (x2 + 1), vi x3], [], h, kc, ks) Q) (y1 : s_ty r1 = 3 := by first | rfl | assumption)  : wr P d sw_c313 sw_h313 (95, [r0, r1, vi x2, vi x3], [], h, kc, ks) Q := by
  refine w_iinc (ls' := [r0, r1, vi (x2 + 1), vi x3]) rfl rfl 1 (by decide) (s_stK_r (pre := [r0]) y1) ?_
  refine w_goto rfl ?_
  exact k

theorem k313_101 {P : s_P} {d : Nat} {Q : s_O → Prop} {h : s_H} {kc ks : Nat} {r0 r1 : Term} {x2 : Int} {t3 : Term}  (k : Q (.inl none, h, kc, ks))   : wr P d sw_c313 sw_h313 (101, [r0, r1, vi x2, t3], [], h, kc, ks) Q := by
  exact w_ret rfl k

/-! 314: FormulaWorks$Trees.signOf(I)I -/
theorem k314_0 {P : s_P} {d : Nat} {Q : s_O → Prop} {h : s_H} {kc ks : Nat} {x0 : Int}  (k1 : x0 ≠ 2 → wr P d sw_c314 sw_h314 (8, [vi x0], [], h, kc, ks) Q) (k2 : ¬ x0 ≠ 2 → wr P d sw_c314 sw_h314 (5, [vi x0], [], h, kc, ks) Q)  (c1 : In3 x0 := by first | omega | assumption | (simp only [mk_len, List.length_map]; omega) | decide) : wr P d sw_c314 sw_h314 (0, [vi x0], [], h, kc, ks) Q := by
  refine w_ld rfl rfl (Or.inl ⟨by decide, rfl⟩) ?_
  refine w_c32 rfl (by decide) 2 (by decide) ?_
  exact w_if2 rfl c1 (by decide) k1 k2

theorem k314_5 {P : s_P} {d : Nat} {Q : s_O → Prop} {h : s_H} {kc ks : Nat} {x0 : Int}  (k : Q (.inl (some (vi 43)), h, kc, ks))   : wr P d sw_c314 sw_h314 (5, [vi x0], [], h, kc, ks) Q := by
  refine w_c32 rfl (by decide) 43 (by decide) ?_
  exact w_iret rfl k

theorem k314_8 {P : s_P} {d : Nat} {Q : s_O → Prop} {h : s_H} {kc ks : Nat} {x0 : Int}  (k1 : x0 ≠ 3 → wr P d sw_c314 sw_h314 (16, [vi x0], [], h, kc, ks) Q) (k2 : ¬ x0 ≠ 3 → wr P d sw_c314 sw_h314 (13, [vi x0], [], h, kc, ks) Q)  (c1 : In3 x0 := by first | omega | assumption | (simp only [mk_len, List.length_map]; omega) | decide) : wr P d sw_c314 sw_h314 (8, [vi x0], [], h, kc, ks) Q := by
  refine w_ld rfl rfl (Or.inl ⟨by decide, rfl⟩) ?_
  refine w_c32 rfl (by decide) 3 (by decide) ?_
  exact w_if2 rfl c1 (by decide) k1 k2

theorem k314_13 {P : s_P} {d : Nat} {Q : s_O → Prop} {h : s_H} {kc ks : Nat} {x0 : Int}  (k : Q (.inl (some (vi 45)), h, kc, ks))   : wr P d sw_c314 sw_h314 (13, [vi x0], [], h, kc, ks) Q := by
  refine w_c32 rfl (by decide) 45 (by decide) ?_
  exact w_iret rfl k

theorem k314_16 {P : s_P} {d : Nat} {Q : s_O → Prop} {h : s_H} {kc ks : Nat} {x0 : Int}  (k1 : x0 ≠ 4 → wr P d sw_c314 sw_h314 (26, [vi x0], [], h, kc, ks) Q) (k2 : ¬ x0 ≠ 4 → wr P d sw_c314 sw_h314 (21, [vi x0], [], h, kc, ks) Q)  (c1 : In3 x0 := by first | omega | assumption | (simp only [mk_len, List.length_map]; omega) | decide) : wr P d sw_c314 sw_h314 (16, [vi x0], [], h, kc, ks) Q := by
  refine w_ld rfl rfl (Or.inl ⟨by decide, rfl⟩) ?_
  refine w_c32 rfl (by decide) 4 (by decide) ?_
  exact w_if2 rfl c1 (by decide) k1 k2

theorem k314_21 {P : s_P} {d : Nat} {Q : s_O → Prop} {h : s_H} {kc ks : Nat} {x0 : Int}  (k : wr P d sw_c314 sw_h314 (28, [vi x0], [vi 42], h, kc, ks) Q)   : wr P d sw_c314 sw_h314 (21, [vi x0], [], h, kc, ks) Q := by
  refine w_c32 rfl (by decide) 42 (by decide) ?_
  refine w_goto rfl ?_
  exact k

theorem k314_26 {P : s_P} {d : Nat} {Q : s_O → Prop} {h : s_H} {kc ks : Nat} {x0 : Int}  (k : wr P d sw_c314 sw_h314 (28, [vi x0], [vi 47], h, kc, ks) Q)   : wr P d sw_c314 sw_h314 (26, [vi x0], [], h, kc, ks) Q := by
  refine w_c32 rfl (by decide) 47 (by decide) ?_
  exact k

theorem k314_28 {P : s_P} {d : Nat} {Q : s_O → Prop} {h : s_H} {kc ks : Nat} {x0 s0 : Int}  (k : Q (.inl (some (vi s0)), h, kc, ks))   : wr P d sw_c314 sw_h314 (28, [vi x0], [vi s0], h, kc, ks) Q := by
  exact w_iret rfl k

/-! 315: FormulaWorks$Trees.simplify([I)V -/
theorem k315_0 {P : s_P} {d : Nat} {Q : s_O → Prop} {h : s_H} {kc ks : Nat} {r0 r1 t2 : Term} {q3 : Nat} {f4 : List Term} (g5 : s_get h q3 = some (1, 9, f4)) (k : wm P d 303 [.index q3, r1] h (wq P d sw_c315 sw_h315 5 [.index q3, r1, t2] [] kc ks Q)) (e_q3 : r0 = .index q3 := by first | rfl | assumption) (y1 : s_ty r0 = 3 := by first | rfl | assumption) (y2 : s_ty r1 = 3 := by first | rfl | assumption)  : wr P d sw_c315 sw_h315 (0, [r0, r1, t2], [], h, kc, ks) Q := by
  refine w_ld rfl rfl (Or.inr (Or.inr ⟨by decide, y1⟩)) ?_
  refine w_ld rfl rfl (Or.inr (Or.inr ⟨by decide, y2⟩)) ?_
  subst e_q3
  exact w_cv rfl [.index q3, r1] [] rfl rfl (s_wt_4 rfl) rfl g5 k

theorem k315_12 {P : s_P} {d : Nat} {Q : s_O → Prop} {h : s_H} {kc ks : Nat} {r0 r1 : Term} {x2 : Int}  (k1 : 200 ≤ x2 → wr P d sw_c315 sw_h315 (35, [r0, r1, vi x2], [], h, kc, ks) Q) (k2 : ¬ 200 ≤ x2 → wr P d sw_c315 sw_h315 (19, [r0, r1, vi x2], [], h, kc, ks) Q)  (c1 : In3 x2 := by first | omega | assumption | (simp only [mk_len, List.length_map]; omega) | decide) : wr P d sw_c315 sw_h315 (12, [r0, r1, vi x2], [], h, kc, ks) Q := by
  refine w_ld rfl rfl (Or.inl ⟨by decide, rfl⟩) ?_
  refine w_c32 rfl (by decide) 200 (by decide) ?_
  exact w_if2 rfl c1 (by decide) k1 k2

theorem k315_19 {P : s_P} {d : Nat} {Q : s_O → Prop} {h : s_H} {kc ks : Nat} {r0 r1 : Term} {x2 : Int} {q2 : Nat} {f3 : List Term} (g4 : s_get h q2 = some (1, 9, f3)) (k : wm P d 316 [.index q2] h (wq P d sw_c315 sw_h315 23 [.index q2, r1, vi x2] [] kc ks Q)) (e_q2 : r0 = .index q2 := by first | rfl | assumption) (y1 : s_ty r0 = 3 := by first | rfl | assumption)  : wr P d sw_c315 sw_h315 (19, [r0, r1, vi x2], [], h, kc, ks) Q := by
  refine w_ld rfl rfl (Or.inr (Or.inr ⟨by decide, y1⟩)) ?_
  subst e_q2
  exact w_cv rfl [.index q2] [] rfl rfl (s_wt_4 rfl) rfl g4 k

theorem k315_26 {P : s_P} {d : Nat} {Q : s_O → Prop} {h : s_H} {kc ks : Nat} {r0 r1 : Term} {x2 : Int}  (k : wr P d sw_c315 sw_h315 (35, [r0, r1, vi x2], [], h, kc, ks) Q)   : wr P d sw_c315 sw_h315 (26, [r0, r1, vi x2], [], h, kc, ks) Q := by
  refine w_goto rfl ?_
  exact k

theorem k315_29 {P : s_P} {d : Nat} {Q : s_O → Prop} {h : s_H} {kc ks : Nat} {r0 r1 : Term} {x2 : Int}  (k : wr P d sw_c315 sw_h315 (12, [r0, r1, vi (x2 + 1)], [], h, kc, ks) Q) (y1 : s_ty r1 = 3 := by first | rfl | assumption)  : wr P d sw_c315 sw_h315 (29, [r0, r1, vi x2], [], h, kc, ks) Q := by
  refine w_iinc (ls' := [r0, r1, vi (x2 + 1)]) rfl rfl 1 (by decide) (s_stK_r (pre := [r0]) y1) ?_
  refine w_goto rfl ?_
  exact k

theorem k315_35 {P : s_P} {d : Nat} {Q : s_O → Prop} {h : s_H} {kc ks : Nat} {r0 r1 : Term} {x2 : Int}  (k : Q (.inl none, h, kc, ks))   : wr P d sw_c315 sw_h315 (35, [r0, r1, vi x2], [], h, kc, ks) Q := by
  exact w_ret rfl k

/-! 316: FormulaWorks$Trees.simplifyOnce()Z -/
theorem k316_0 {P : s_P} {d : Nat} {Q : s_O → Prop} {h : s_H} {kc ks : Nat} {r0 t1 t2 : Term} {q2 : Nat} {f3 : List Term} {z5 : Int} (g4 : s_get h q2 = some (1, 9, f3)) (k : wr P d sw_c316 sw_h316 (7, [.index q2, vi (z5 - 1), t2], [], h, kc, ks) Q) (e_q2 : r0 = .index q2 := by first | rfl | assumption) (y1 : s_ty r0 = 3 := by first | rfl | assumption) (n6 : s_nth f3 1 = some (vi z5) := by first | rfl | assumption)  : wr P d sw_c316 sw_h316 (0, [r0, t1, t2], [], h, kc, ks) Q := by
  refine w_ld rfl rfl (Or.inr (Or.inr ⟨by decide, y1⟩)) ?_
  subst e_q2
  refine w_getf rfl g4 n6 ?_
  refine w_c32 rfl (by decide) 1 (by decide) ?_
  refine w_isub rfl ?_
  refine w_st (ls' := [.index q2, vi (z5 - 1), t2]) rfl (Or.inl ⟨by decide, rfl⟩) rfl ?_
  exact k

theorem k316_7 {P : s_P} {d : Nat} {Q : s_O → Prop} {h : s_H} {kc ks : Nat} {r0 : Term} {x1 : Int} {t2 : Term}  (k1 : x1 < 0 → wr P d sw_c316 sw_h316 (115, [r0, vi x1, t2], [], h, kc, ks) Q) (k2 : ¬ x1 < 0 → wr P d sw_c316 sw_h316 (11, [r0, vi x1, t2], [], h, kc, ks) Q)  (c1 : In3 x1 := by first | omega | assumption | (simp only [mk_len, List.length_map]; omega) | decide) : wr P d sw_c316 sw_h316 (7, [r0, vi x1, t2], [], h, kc, ks) Q := by
  refine w_ld rfl rfl (Or.inl ⟨by decide, rfl⟩) ?_
  exact w_if1 rfl c1 k1 k2

theorem k316_11 {P : s_P} {d : Nat} {Q : s_O → Prop} {h : s_H} {kc ks : Nat} {r0 : Term} {x1 : Int} {t2 : Term} {q2 : Nat} {f3 : List Term} (g4 : s_get h q2 = some (1, 9, f3)) (k : wm P d 282 [.index q2, vi x1, vi 7] h (wq P d sw_c316 sw_h316 18 [.index q2, vi x1, t2] [] kc ks Q)) (e_q2 : r0 = .index q2 := by first | rfl | assumption) (y1 : s_ty r0 = 3 := by first | rfl | assumption)  : wr P d sw_c316 sw_h316 (11, [r0, vi x1, t2], [], h, kc, ks) Q := by
  refine w_ld rfl rfl (Or.inr (Or.inr ⟨by decide, y1⟩)) ?_
  refine w_ld rfl rfl (Or.inl ⟨by decide, rfl⟩) ?_
  refine w_c32 rfl (by decide) 7 (by decide) ?_
  subst e_q2
  exact w_cv rfl [.index q2, vi x1, vi 7] [] rfl rfl (s_wt_4 rfl) rfl g4 k

theorem k316_21 {P : s_P} {d : Nat} {Q : s_O → Prop} {h : s_H} {kc ks : Nat} {r0 : Term} {x1 : Int} {t2 : Term}  (k : wr P d sw_c316 sw_h316 (57, [r0, vi x1, t2], [vi 7], h, kc, ks) Q)   : wr P d sw_c316 sw_h316 (21, [r0, vi x1, t2], [], h, kc, ks) Q := by
  refine w_c32 rfl (by decide) 7 (by decide) ?_
  refine w_goto rfl ?_
  exact k

theorem k316_26 {P : s_P} {d : Nat} {Q : s_O → Prop} {h : s_H} {kc ks : Nat} {r0 : Term} {x1 : Int} {t2 : Term} {q2 : Nat} {f3 : List Term} (g4 : s_get h q2 = some (1, 9, f3)) (k : wm P d 282 [.index q2, vi x1, vi 8] h (wq P d sw_c316 sw_h316 33 [.index q2, vi x1, t2] [] kc ks Q)) (e_q2 : r0 = .index q2 := by first | rfl | assumption) (y1 : s_ty r0 = 3 := by first | rfl | assumption)  : wr P d sw_c316 sw_h316 (26, [r0, vi x1, t2], [], h, kc, ks) Q := by
  refine w_ld rfl rfl (Or.inr (Or.inr ⟨by decide, y1⟩)) ?_
  refine w_ld rfl rfl (Or.inl ⟨by decide, rfl⟩) ?_
  refine w_c32 rfl (by decide) 8 (by decide) ?_
  subst e_q2
  exact w_cv rfl [.index q2, vi x1, vi 8] [] rfl rfl (s_wt_4 rfl) rfl g4 k

theorem k316_36 {P : s_P} {d : Nat} {Q : s_O → Prop} {h : s_H} {kc ks : Nat} {r0 : Term} {x1 : Int} {t2 : Term}  (k : wr P d sw_c316 sw_h316 (57, [r0, vi x1, t2], [vi 8], h, kc, ks) Q)   : wr P d sw_c316 sw_h316 (36, [r0, vi x1, t2], [], h, kc, ks) Q := by
  refine w_c32 rfl (by decide) 8 (by decide) ?_
  refine w_goto rfl ?_
  exact k

theorem k316_41 {P : s_P} {d : Nat} {Q : s_O → Prop} {h : s_H} {kc ks : Nat} {r0 : Term} {x1 : Int} {t2 : Term} {q2 : Nat} {f3 : List Term} (g4 : s_get h q2 = some (1, 9, f3)) (k : wm P d 282 [.index q2, vi x1, vi 10] h (wq P d sw_c316 sw_h316 48 [.index q2, vi x1, t2] [] kc ks Q)) (e_q2 : r0 = .index q2 := by first | rfl | assumption) (y1 : s_ty r0 = 3 := by first | rfl | assumption)  : wr P d sw_c316 sw_h316 (41, [r0, vi x1, t2], [], h, kc, ks) Q := by
  refine w_ld rfl rfl (Or.inr (Or.inr ⟨by decide, y1⟩)) ?_
  refine w_ld rfl rfl (Or.inl ⟨by decide, rfl⟩) ?_
  refine w_c32 rfl (by decide) 10 (by decide) ?_
  subst e_q2
  exact w_cv rfl [.index q2, vi x1, vi 10] [] rfl rfl (s_wt_4 rfl) rfl g4 k

theorem k316_51 {P : s_P} {d : Nat} {Q : s_O → Prop} {h : s_H} {kc ks : Nat} {r0 : Term} {x1 : Int} {t2 : Term}  (k : wr P d sw_c316 sw_h316 (57, [r0, vi x1, t2], [vi 10], h, kc, ks) Q)   : wr P d sw_c316 sw_h316 (51, [r0, vi x1, t2], [], h, kc, ks) Q := by
  refine w_c32 rfl (by decide) 10 (by decide) ?_
  refine w_goto rfl ?_
  exact k

theorem k316_56 {P : s_P} {d : Nat} {Q : s_O → Prop} {h : s_H} {kc ks : Nat} {r0 : Term} {x1 : Int} {t2 : Term}  (k : wr P d sw_c316 sw_h316 (57, [r0, vi x1, t2], [vi 0], h, kc, ks) Q)   : wr P d sw_c316 sw_h316 (56, [r0, vi x1, t2], [], h, kc, ks) Q := by
  refine w_c32 rfl (by decide) 0 (by decide) ?_
  exact k

theorem k316_57 {P : s_P} {d : Nat} {Q : s_O → Prop} {h : s_H} {kc ks : Nat} {r0 : Term} {x1 : Int} {t2 : Term} {s0 : Int}  (k1 : s0 = 0 → wr P d sw_c316 sw_h316 (109, [r0, vi x1, vi s0], [], h, kc, ks) Q) (k2 : ¬ s0 = 0 → wr P d sw_c316 sw_h316 (62, [r0, vi x1, vi s0], [], h, kc, ks) Q)  (c1 : In3 s0 := by first | omega | assumption | (simp only [mk_len, List.length_map]; omega) | decide) : wr P d sw_c316 sw_h316 (57, [r0, vi x1, t2], [vi s0], h, kc, ks) Q := by
  refine w_st (ls' := [r0, vi x1, vi s0]) rfl (Or.inl ⟨by decide, rfl⟩) rfl ?_
  refine w_ld rfl rfl (Or.inl ⟨by decide, rfl⟩) ?_
  exact w_if1 rfl c1 k1 k2

theorem k316_62 {P : s_P} {d : Nat} {Q : s_O → Prop} {h : s_H} {kc ks : Nat} {r0 : Term} {x1 x2 : Int} {q2 : Nat} {f3 : List Term} {z5 : Int} (g4 : s_get h q2 = some (1, 9, f3)) (k1 : 200 ≤ z5 → wr P d sw_c316 sw_h316 (109, [.index q2, vi x1, vi x2], [], h, kc, ks) Q) (k2 : ¬ 200 ≤ z5 → wr P d sw_c316 sw_h316 (72, [.index q2, vi x1, vi x2], [], h, kc, ks) Q) (e_q2 : r0 = .index q2 := by first | rfl | assumption) (y1 : s_ty r0 = 3 := by first | rfl | assumption) (n6 : s_nth f3 13 = some (vi z5) := by first | rfl | assumption) (c7 : In3 z5 := by first | omega | assumption | (simp only [mk_len, List.length_map]; omega) | decide) : wr P d sw_c316 sw_h316 (62, [r0, vi x1, vi x2], [], h, kc, ks) Q := by
  refine w_ld rfl rfl (Or.inr (Or.inr ⟨by decide, y1⟩)) ?_
  subst e_q2
  refine w_getf rfl g4 n6 ?_
  refine w_c32 rfl (by decide) 200 (by decide) ?_
  exact w_if2 rfl c7 (by decide) k1 k2

theorem k316_72 {P : s_P} {d : Nat} {Q : s_O → Prop} {h : s_H} {kc ks : Nat} {r0 : Term} {x1 x2 : Int} {q2 : Nat} {f3 : List Term} {v5 : Term} {z7 : Int} {q9 : Nat} {a10 : List Int} {f16 : List Term} {v18 : Term} {z20 : Int} {q22 : Nat} {a23 : List Int} {f29 : List Term} {z31 : Int} {f35 : List Term} (g4 : s_get h q2 = some (1, 9, f3)) (g11 : s_get h q9 = some (0, 0, a10.map vi)) (g17 : s_get (hp h q9 (0, 0, (a10.set (Int.toNat (z7)) x1).map vi)) q2 = some (1, 9, f16)) (g24 : s_get (hp h q9 (0, 0, (a10.set (Int.toNat (z7)) x1).map vi)) q22 = some (0, 0, a23.map vi)) (g30 : s_get (hp (hp h q9 (0, 0, (a10.set (Int.toNat (z7)) x1).map vi)) q22 (0, 0, (a23.set (Int.toNat (z20)) x2).map vi)) q2 = some (1, 9, f29)) (g36 : s_get (hp (hp (hp h q9 (0, 0, (a10.set (Int.toNat (z7)) x1).map vi)) q22 (0, 0, (a23.set (Int.toNat (z20)) x2).map vi)) q2 (1, 9, f29.set 13 (vi (z31 + 1)))) q2 = some (1, 9, f35)) (k : wm P d 306 [.index q2, vi x1] (hp (hp (hp h q9 (0, 0, (a10.set (Int.toNat (z7)) x1).map vi)) q22 (0, 0, (a23.set (Int.toNat (z20)) x2).map vi)) q2 (1, 9, f29.set 13 (vi (z31 + 1)))) (wq P d sw_c316 sw_h316 107 [.index q2, vi x1, vi x2] [] kc ks Q)) (e_q2 : r0 = .index q2 := by first | rfl | assumption) (e_q9 : v5 = .index q9 := by first | rfl | assumption) (e_q22 : v18 = .index q22 := by first | rfl | assumption) (y1 : s_ty r0 = 3 := by first | rfl | assumption) (n6 : s_nth f3 11 = some v5 := by first | rfl | assumption) (n8 : s_nth f3 13 = some (vi z7) := by first | rfl | assumption) (n19 : s_nth f16 12 = some v18 := by first | rfl | assumption) (n21 : s_nth f16 13 = some (vi z20) := by first | rfl | assumption) (n32 : s_nth f29 13 = some (vi z31) := by first | rfl | assumption) (l33 : 13 < f29.length := by first | exact Nat.le_of_ble_eq_true rfl | omega | assumption) (c12 : z7 < a10.length := by first | omega | assumption | (simp only [mk_len, List.length_map]; omega) | decide) (c13 : 0 ≤ z7 := by first | omega | assumption | (simp only [mk_len, List.length_map]; omega) | decide) (c14 : In3 z7 := by first | omega | assumption | (simp only [mk_len, List.length_map]; omega) | decide) (c15 : 0 < q9 := by first | omega | assumption | (simp only [mk_len, List.length_map]; omega) | decide) (c25 : z20 < a23.length := by first | omega | assumption | (simp only [mk_len, List.length_map]; omega) | decide) (c26 : 0 ≤ z20 := by first | omega | assumption | (simp only [mk_len, List.length_map]; omega) | decide) (c27 : In3 z20 := by first | omega | assumption | (simp only [mk_len, List.length_map]; omega) | decide) (c28 : 0 < q22 := by first | omega | assumption | (simp only [mk_len, List.length_map]; omega) | decide) (c34 : 0 < q2 := by first | omega | assumption | (simp only [mk_len, List.length_map]; omega) | decide) : wr P d sw_c316 sw_h316 (72, [r0, vi x1, vi x2], [], h, kc, ks) Q := by
  refine w_ld rfl rfl (Or.inr (Or.inr ⟨by decide, y1⟩)) ?_
  subst e_q2
  refine w_getf rfl g4 n6 ?_
  refine w_ld rfl rfl (Or.inr (Or.inr ⟨by decide, rfl⟩)) ?_
  refine w_getf rfl g4 n8 ?_
  refine w_ld rfl rfl (Or.inl ⟨by decide, rfl⟩) ?_
  subst e_q9
  refine w_iast rfl g11 (Nat.ble_eq_true_of_le c15) c14 c13 c12 ?_
  refine w_ld rfl rfl (Or.inr (Or.inr ⟨by decide, rfl⟩)) ?_
  refine w_getf rfl g17 n19 ?_
  refine w_ld rfl rfl (Or.inr (Or.inr ⟨by decide, rfl⟩)) ?_
  refine w_getf rfl g17 n21 ?_
  refine w_ld rfl rfl (Or.inl ⟨by decide, rfl⟩) ?_
  subst e_q22
  refine w_iast rfl g24 (Nat.ble_eq_true_of_le c28) c27 c26 c25 ?_
  refine w_ld rfl rfl (Or.inr (Or.inr ⟨by decide, rfl⟩)) ?_
  refine w_dup rfl rfl ?_
  refine w_getf rfl g30 n32 ?_
  refine w_c32 rfl (by decide) 1 (by decide) ?_
  refine w_iadd rfl ?_
  refine w_putf rfl g30 (Nat.ble_eq_true_of_le c34) rfl (Nat.ble_eq_true_of_le l33) ?_
  refine w_ld rfl rfl (Or.inr (Or.inr ⟨by decide, rfl⟩)) ?_
  refine w_ld rfl rfl (Or.inl ⟨by decide, rfl⟩) ?_
  exact w_cv rfl [.index q2, vi x1] [] rfl rfl (s_wt_4 rfl) rfl g36 k

theorem k316_109 {P : s_P} {d : Nat} {Q : s_O → Prop} {h : s_H} {kc ks : Nat} {r0 : Term} {x1 x2 : Int}  (k : wr P d sw_c316 sw_h316 (7, [r0, vi (x1 + (-1)), vi x2], [], h, kc, ks) Q) (y1 : s_ty r0 = 3 := by first | rfl | assumption)  : wr P d sw_c316 sw_h316 (109, [r0, vi x1, vi x2], [], h, kc, ks) Q := by
  refine w_iinc (ls' := [r0, vi (x1 + (-1)), vi x2]) rfl rfl (-1) (by decide) (s_stK_r (pre := []) y1) ?_
  refine w_goto rfl ?_
  exact k

theorem k316_115 {P : s_P} {d : Nat} {Q : s_O → Prop} {h : s_H} {kc ks : Nat} {r0 : Term} {x1 : Int} {t2 : Term}  (k : Q (.inl (some (vi 0)), h, kc, ks))   : wr P d sw_c316 sw_h316 (115, [r0, vi x1, t2], [], h, kc, ks) Q := by
  refine w_c32 rfl (by decide) 0 (by decide) ?_
  exact w_zret rfl (by decide) k

/-! 317: FormulaWorks$Trees.sizeOf(I)I -/
theorem k317_0 {P : s_P} {d : Nat} {Q : s_O → Prop} {h : s_H} {kc ks : Nat} {r0 : Term} {x1 : Int}  (k1 : x1 < 0 → wr P d sw_c317 sw_h317 (12, [r0, vi x1], [], h, kc, ks) Q) (k2 : ¬ x1 < 0 → wr P d sw_c317 sw_h317 (4, [r0, vi x1], [], h, kc, ks) Q)  (c1 : In3 x1 := by first | omega | assumption | (simp only [mk_len, List.length_map]; omega) | decide) : wr P d sw_c317 sw_h317 (0, [r0, vi x1], [], h, kc, ks) Q := by
  refine w_ld rfl rfl (Or.inl ⟨by decide, rfl⟩) ?_
  exact w_if1 rfl c1 k1 k2

theorem k317_4 {P : s_P} {d : Nat} {Q : s_O → Prop} {h : s_H} {kc ks : Nat} {r0 : Term} {x1 : Int} {q2 : Nat} {f3 : List Term} {z5 : Int} (g4 : s_get h q2 = some (1, 9, f3)) (k1 : x1 < z5 → wr P d sw_c317 sw_h317 (16, [.index q2, vi x1], [], h, kc, ks) Q) (k2 : ¬ x1 < z5 → wr P d sw_c317 sw_h317 (12, [.index q2, vi x1], [], h, kc, ks) Q) (e_q2 : r0 = .index q2 := by first | rfl | assumption) (y1 : s_ty r0 = 3 := by first | rfl | assumption) (n6 : s_nth f3 1 = some (vi z5) := by first | rfl | assumption) (c7 : In3 x1 := by first | omega | assumption | (simp only [mk_len, List.length_map]; omega) | decide) (c8 : In3 z5 := by first | omega | assumption | (simp only [mk_len, List.length_map]; omega) | decide) : wr P d sw_c317 sw_h317 (4, [r0, vi x1], [], h, kc, ks) Q := by
  refine w_ld rfl rfl (Or.inl ⟨by decide, rfl⟩) ?_
  refine w_ld rfl rfl (Or.inr (Or.inr ⟨by decide, y1⟩)) ?_
  subst e_q2
  refine w_getf rfl g4 n6 ?_
  exact w_if2 rfl c7 c8 k1 k2

theorem k317_12 {P : s_P} {d : Nat} {Q : s_O → Prop} {h : s_H} {kc ks : Nat} {r0 : Term} {x1 : Int}  (k : wr P d sw_c317 sw_h317 (22, [r0, vi x1], [vi 0], h, kc, ks) Q)   : wr P d sw_c317 sw_h317 (12, [r0, vi x1], [], h, kc, ks) Q := by
  refine w_c32 rfl (by decide) 0 (by decide) ?_
  refine w_goto rfl ?_
  exact k

theorem k317_16 {P : s_P} {d : Nat} {Q : s_O → Prop} {h : s_H} {kc ks : Nat} {r0 : Term} {x1 : Int} {q2 : Nat} {f3 : List Term} {v5 : Term} {q7 : Nat} {a8 : List Int} (g4 : s_get h q2 = some (1, 9, f3)) (g9 : s_get h q7 = some (0, 0, a8.map vi)) (k : wr P d sw_c317 sw_h317 (22, [.index q2, vi x1], [vi (gi a8 x1)], h, kc, ks) Q) (e_q2 : r0 = .index q2 := by first | rfl | assumption) (e_q7 : v5 = .index q7 := by first | rfl | assumption) (y1 : s_ty r0 = 3 := by first | rfl | assumption) (n6 : s_nth f3 2 = some v5 := by first | rfl | assumption) (c10 : x1 < a8.length := by first | omega | assumption | (simp only [mk_len, List.length_map]; omega) | decide) (c11 : 0 ≤ x1 := by first | omega | assumption | (simp only [mk_len, List.length_map]; omega) | decide) (c12 : In3 x1 := by first | omega | assumption | (simp only [mk_len, List.length_map]; omega) | decide) : wr P d sw_c317 sw_h317 (16, [r0, vi x1], [], h, kc, ks) Q := by
  refine w_ld rfl rfl (Or.inr (Or.inr ⟨by decide, y1⟩)) ?_
  subst e_q2
  refine w_getf rfl g4 n6 ?_
  refine w_ld rfl rfl (Or.inl ⟨by decide, rfl⟩) ?_
  subst e_q7
  refine w_iald rfl g9 (Or.inl rfl) c12 c11 c10 ?_
  exact k

theorem k317_22 {P : s_P} {d : Nat} {Q : s_O → Prop} {h : s_H} {kc ks : Nat} {r0 : Term} {x1 s0 : Int}  (k : Q (.inl (some (vi s0)), h, kc, ks))   : wr P d sw_c317 sw_h317 (22, [r0, vi x1], [vi s0], h, kc, ks) Q := by
  exact w_iret rfl k

/-! 318: FormulaWorks$Trees.sort(I)I -/
theorem k318_0 {P : s_P} {d : Nat} {Q : s_O → Prop} {h : s_H} {kc ks : Nat} {r0 : Term} {x1 : Int}  (k1 : x1 < 0 → wr P d sw_c318 sw_h318 (12, [r0, vi x1], [], h, kc, ks) Q) (k2 : ¬ x1 < 0 → wr P d sw_c318 sw_h318 (4, [r0, vi x1], [], h, kc, ks) Q)  (c1 : In3 x1 := by first | omega | assumption | (simp only [mk_len, List.length_map]; omega) | decide) : wr P d sw_c318 sw_h318 (0, [r0, vi x1], [], h, kc, ks) Q := by
  refine w_ld rfl rfl (Or.inl ⟨by decide, rfl⟩) ?_
  exact w_if1 rfl c1 k1 k2

theorem k318_4 {P : s_P} {d : Nat} {Q : s_O → Prop} {h : s_H} {kc ks : Nat} {r0 : Term} {x1 : Int} {q2 : Nat} {f3 : List Term} {z5 : Int} (g4 : s_get h q2 = some (1, 9, f3)) (k1 : x1 < z5 → wr P d sw_c318 sw_h318 (16, [.index q2, vi x1], [], h, kc, ks) Q) (k2 : ¬ x1 < z5 → wr P d sw_c318 sw_h318 (12, [.index q2, vi x1], [], h, kc, ks) Q) (e_q2 : r0 = .index q2 := by first | rfl | assumption) (y1 : s_ty r0 = 3 := by first | rfl | assumption) (n6 : s_nth f3 1 = some (vi z5) := by first | rfl | assumption) (c7 : In3 x1 := by first | omega | assumption | (simp only [mk_len, List.length_map]; omega) | decide) (c8 : In3 z5 := by first | omega | assumption | (simp only [mk_len, List.length_map]; omega) | decide) : wr P d sw_c318 sw_h318 (4, [r0, vi x1], [], h, kc, ks) Q := by
  refine w_ld rfl rfl (Or.inl ⟨by decide, rfl⟩) ?_
  refine w_ld rfl rfl (Or.inr (Or.inr ⟨by decide, y1⟩)) ?_
  subst e_q2
  refine w_getf rfl g4 n6 ?_
  exact w_if2 rfl c7 c8 k1 k2

theorem k318_12 {P : s_P} {d : Nat} {Q : s_O → Prop} {h : s_H} {kc ks : Nat} {r0 : Term} {x1 : Int}  (k : wr P d sw_c318 sw_h318 (25, [r0, vi x1], [vi 0], h, kc, ks) Q)   : wr P d sw_c318 sw_h318 (12, [r0, vi x1], [], h, kc, ks) Q := by
  refine w_c32 rfl (by decide) 0 (by decide) ?_
  refine w_goto rfl ?_
  exact k

theorem k318_16 {P : s_P} {d : Nat} {Q : s_O → Prop} {h : s_H} {kc ks : Nat} {r0 : Term} {x1 : Int} {q2 : Nat} {f3 : List Term} {v5 : Term} {q7 : Nat} {a8 : List Int} (g4 : s_get h q2 = some (1, 9, f3)) (g9 : s_get h q7 = some (0, 0, a8.map vi)) (k : wr P d sw_c318 sw_h318 (25, [.index q2, vi x1], [vi (zi 24 (gi a8 x1) 7)], h, kc, ks) Q) (e_q2 : r0 = .index q2 := by first | rfl | assumption) (e_q7 : v5 = .index q7 := by first | rfl | assumption) (y1 : s_ty r0 = 3 := by first | rfl | assumption) (n6 : s_nth f3 0 = some v5 := by first | rfl | assumption) (c10 : x1 < a8.length := by first | omega | assumption | (simp only [mk_len, List.length_map]; omega) | decide) (c11 : 0 ≤ x1 := by first | omega | assumption | (simp only [mk_len, List.length_map]; omega) | decide) (c12 : In3 x1 := by first | omega | assumption | (simp only [mk_len, List.length_map]; omega) | decide) : wr P d sw_c318 sw_h318 (16, [r0, vi x1], [], h, kc, ks) Q := by
  refine w_ld rfl rfl (Or.inr (Or.inr ⟨by decide, y1⟩)) ?_
  subst e_q2
  refine w_getf rfl g4 n6 ?_
  refine w_ld rfl rfl (Or.inl ⟨by decide, rfl⟩) ?_
  subst e_q7
  refine w_iald rfl g9 (Or.inl rfl) c12 c11 c10 ?_
  refine w_c32 rfl (by decide) 7 (by decide) ?_
  refine w_ib rfl (by decide) ?_
  exact k

theorem k318_25 {P : s_P} {d : Nat} {Q : s_O → Prop} {h : s_H} {kc ks : Nat} {r0 : Term} {x1 s0 : Int}  (k : Q (.inl (some (vi s0)), h, kc, ks))   : wr P d sw_c318 sw_h318 (25, [r0, vi x1], [vi s0], h, kc, ks) Q := by
  exact w_iret rfl k

/-! 319: FormulaWorks$Trees.sortOf(I)I -/
theorem k319_0 {P : s_P} {d : Nat} {Q : s_O → Prop} {h : s_H} {kc ks : Nat} {x0 : Int}  (k1 : x0 ≠ 43 → wr P d sw_c319 sw_h319 (8, [vi x0], [], h, kc, ks) Q) (k2 : ¬ x0 ≠ 43 → wr P d sw_c319 sw_h319 (6, [vi x0], [], h, kc, ks) Q)  (c1 : In3 x0 := by first | omega | assumption | (simp only [mk_len, List.length_map]; omega) | decide) : wr P d sw_c319 sw_h319 (0, [vi x0], [], h, kc, ks) Q := by
  refine w_ld rfl rfl (Or.inl ⟨by decide, rfl⟩) ?_
  refine w_c32 rfl (by decide) 43 (by decide) ?_
  exact w_if2 rfl c1 (by decide) k1 k2

theorem k319_6 {P : s_P} {d : Nat} {Q : s_O → Prop} {h : s_H} {kc ks : Nat} {x0 : Int}  (k : Q (.inl (some (vi 2)), h, kc, ks))   : wr P d sw_c319 sw_h319 (6, [vi x0], [], h, kc, ks) Q := by
  refine w_c32 rfl (by decide) 2 (by decide) ?_
  exact w_iret rfl k

theorem k319_8 {P : s_P} {d : Nat} {Q : s_O → Prop} {h : s_H} {kc ks : Nat} {x0 : Int}  (k1 : x0 ≠ 45 → wr P d sw_c319 sw_h319 (16, [vi x0], [], h, kc, ks) Q) (k2 : ¬ x0 ≠ 45 → wr P d sw_c319 sw_h319 (14, [vi x0], [], h, kc, ks) Q)  (c1 : In3 x0 := by first | omega | assumption | (simp only [mk_len, List.length_map]; omega) | decide) : wr P d sw_c319 sw_h319 (8, [vi x0], [], h, kc, ks) Q := by
  refine w_ld rfl rfl (Or.inl ⟨by decide, rfl⟩) ?_
  refine w_c32 rfl (by decide) 45 (by decide) ?_
  exact w_if2 rfl c1 (by decide) k1 k2

theorem k319_14 {P : s_P} {d : Nat} {Q : s_O → Prop} {h : s_H} {kc ks : Nat} {x0 : Int}  (k : Q (.inl (some (vi 3)), h, kc, ks))   : wr P d sw_c319 sw_h319 (14, [vi x0], [], h, kc, ks) Q := by
  refine w_c32 rfl (by decide) 3 (by decide) ?_
  exact w_iret rfl k

theorem k319_16 {P : s_P} {d : Nat} {Q : s_O → Prop} {h : s_H} {kc ks : Nat} {x0 : Int}  (k1 : x0 ≠ 42 → wr P d sw_c319 sw_h319 (26, [vi x0], [], h, kc, ks) Q) (k2 : ¬ x0 ≠ 42 → wr P d sw_c319 sw_h319 (22, [vi x0], [], h, kc, ks) Q)  (c1 : In3 x0 := by first | omega | assumption | (simp only [mk_len, List.length_map]; omega) | decide) : wr P d sw_c319 sw_h319 (16, [vi x0], [], h, kc, ks) Q := by
  refine w_ld rfl rfl (Or.inl ⟨by decide, rfl⟩) ?_
  refine w_c32 rfl (by decide) 42 (by decide) ?_
  exact w_if2 rfl c1 (by decide) k1 k2

theorem k319_22 {P : s_P} {d : Nat} {Q : s_O → Prop} {h : s_H} {kc ks : Nat} {x0 : Int}  (k : wr P d sw_c319 sw_h319 (27, [vi x0], [vi 4], h, kc, ks) Q)   : wr P d sw_c319 sw_h319 (22, [vi x0], [], h, kc, ks) Q := by
  refine w_c32 rfl (by decide) 4 (by decide) ?_
  refine w_goto rfl ?_
  exact k

theorem k319_26 {P : s_P} {d : Nat} {Q : s_O → Prop} {h : s_H} {kc ks : Nat} {x0 : Int}  (k : wr P d sw_c319 sw_h319 (27, [vi x0], [vi 5], h, kc, ks) Q)   : wr P d sw_c319 sw_h319 (26, [vi x0], [], h, kc, ks) Q := by
  refine w_c32 rfl (by decide) 5 (by decide) ?_
  exact k

theorem k319_27 {P : s_P} {d : Nat} {Q : s_O → Prop} {h : s_H} {kc ks : Nat} {x0 s0 : Int}  (k : Q (.inl (some (vi s0)), h, kc, ks))   : wr P d sw_c319 sw_h319 (27, [vi x0], [vi s0], h, kc, ks) Q := by
  exact w_iret rfl k

/-! 320: FormulaWorks$Trees.wrap(I)V -/
theorem k320_0 {P : s_P} {d : Nat} {Q : s_O → Prop} {h : s_H} {kc ks : Nat} {r0 : Term} {x1 : Int} {t2 : Term} {q2 : Nat} {f3 : List Term} {z5 : Int} (g4 : s_get h q2 = some (1, 9, f3)) (k1 : z5 < 1 → wr P d sw_c320 sw_h320 (18, [.index q2, vi x1, t2], [], h, kc, ks) Q) (k2 : ¬ z5 < 1 → wr P d sw_c320 sw_h320 (8, [.index q2, vi x1, t2], [], h, kc, ks) Q) (e_q2 : r0 = .index q2 := by first | rfl | assumption) (y1 : s_ty r0 = 3 := by first | rfl | assumption) (n6 : s_nth f3 4 = some (vi z5) := by first | rfl | assumption) (c7 : In3 z5 := by first | omega | assumption | (simp only [mk_len, List.length_map]; omega) | decide) : wr P d sw_c320 sw_h320 (0, [r0, vi x1, t2], [], h, kc, ks) Q := by
  refine w_ld rfl rfl (Or.inr (Or.inr ⟨by decide, y1⟩)) ?_
  subst e_q2
  refine w_getf rfl g4 n6 ?_
  refine w_c32 rfl (by decide) 1 (by decide) ?_
  exact w_if2 rfl c7 (by decide) k1 k2

theorem k320_8 {P : s_P} {d : Nat} {Q : s_O → Prop} {h : s_H} {kc ks : Nat} {r0 : Term} {x1 : Int} {t2 : Term} {q2 : Nat} {f3 : List Term} {z5 : Int} (g4 : s_get h q2 = some (1, 9, f3)) (k1 : z5 < 512 → wr P d sw_c320 sw_h320 (19, [.index q2, vi x1, t2], [], h, kc, ks) Q) (k2 : ¬ z5 < 512 → wr P d sw_c320 sw_h320 (18, [.index q2, vi x1, t2], [], h, kc, ks) Q) (e_q2 : r0 = .index q2 := by first | rfl | assumption) (y1 : s_ty r0 = 3 := by first | rfl | assumption) (n6 : s_nth f3 1 = some (vi z5) := by first | rfl | assumption) (c7 : In3 z5 := by first | omega | assumption | (simp only [mk_len, List.length_map]; omega) | decide) : wr P d sw_c320 sw_h320 (8, [r0, vi x1, t2], [], h, kc, ks) Q := by
  refine w_ld rfl rfl (Or.inr (Or.inr ⟨by decide, y1⟩)) ?_
  subst e_q2
  refine w_getf rfl g4 n6 ?_
  refine w_c32 rfl (by decide) 512 (by decide) ?_
  exact w_if2 rfl c7 (by decide) k1 k2

theorem k320_18 {P : s_P} {d : Nat} {Q : s_O → Prop} {h : s_H} {kc ks : Nat} {r0 : Term} {x1 : Int} {t2 : Term}  (k : Q (.inl none, h, kc, ks))   : wr P d sw_c320 sw_h320 (18, [r0, vi x1, t2], [], h, kc, ks) Q := by
  exact w_ret rfl k

-- native at 19
theorem k320_52 {P : s_P} {d : Nat} {Q : s_O → Prop} {h : s_H} {kc ks : Nat} {r0 : Term} {x1 x2 : Int} {q2 : Nat} {f3 : List Term} {v5 : Term} {q7 : Nat} {a8 : List Int} {f14 : List Term} {z16 : Int} (g4 : s_get h q2 = some (1, 9, f3)) (g9 : s_get h q7 = some (0, 0, a8.map vi)) (g15 : s_get (hp h q7 (0, 0, (a8.set (Int.toNat (x2)) x1).map vi)) q2 = some (1, 9, f14)) (k : Q (.inl none, (hp (hp h q7 (0, 0, (a8.set (Int.toNat (x2)) x1).map vi)) q2 (1, 9, f14.set 1 (vi (z16 + 1)))), kc, ks)) (e_q2 : r0 = .index q2 := by first | rfl | assumption) (e_q7 : v5 = .index q7 := by first | rfl | assumption) (y1 : s_ty r0 = 3 := by first | rfl | assumption) (n6 : s_nth f3 0 = some v5 := by first | rfl | assumption) (n17 : s_nth f14 1 = some (vi z16) := by first | rfl | assumption) (l18 : 1 < f14.length := by first | exact Nat.le_of_ble_eq_true rfl | omega | assumption) (c10 : x2 < a8.length := by first | omega | assumption | (simp only [mk_len, List.length_map]; omega) | decide) (c11 : 0 ≤ x2 := by first | omega | assumption | (simp only [mk_len, List.length_map]; omega) | decide) (c12 : In3 x2 := by first | omega | assumption | (simp only [mk_len, List.length_map]; omega) | decide) (c13 : 0 < q7 := by first | omega | assumption | (simp only [mk_len, List.length_map]; omega) | decide) (c19 : 0 < q2 := by first | omega | assumption | (simp only [mk_len, List.length_map]; omega) | decide) : wr P d sw_c320 sw_h320 (52, [r0, vi x1, vi x2], [], h, kc, ks) Q := by
  refine w_ld rfl rfl (Or.inr (Or.inr ⟨by decide, y1⟩)) ?_
  subst e_q2
  refine w_getf rfl g4 n6 ?_
  refine w_ld rfl rfl (Or.inl ⟨by decide, rfl⟩) ?_
  refine w_ld rfl rfl (Or.inl ⟨by decide, rfl⟩) ?_
  subst e_q7
  refine w_iast rfl g9 (Nat.ble_eq_true_of_le c13) c12 c11 c10 ?_
  refine w_ld rfl rfl (Or.inr (Or.inr ⟨by decide, rfl⟩)) ?_
  refine w_dup rfl rfl ?_
  refine w_getf rfl g15 n17 ?_
  refine w_c32 rfl (by decide) 1 (by decide) ?_
  refine w_iadd rfl ?_
  refine w_putf rfl g15 (Nat.ble_eq_true_of_le c19) rfl (Nat.ble_eq_true_of_le l18) ?_
  exact w_ret rfl k

/-! 321: FormulaWorksLaw.add(LFormulaWorks;II[J)I -/
theorem k321_0 {P : s_P} {d : Nat} {Q : s_O → Prop} {h : s_H} {kc ks : Nat} {r0 : Term} {x1 x2 : Int} {r3 t4 : Term} {q3 : Nat} {f4 : List Term} (g5 : s_get h q3 = some (1, 10, f4)) (k : wm P d 1 [.index q3, vi x1, vi x2] h (wq P d sw_c321 sw_h321 8 [.index q3, vi x1, vi x2, r3, t4] [vi 0, r3] kc ks Q)) (e_q3 : r0 = .index q3 := by first | rfl | assumption) (y1 : s_ty r3 = 3 := by first | rfl | assumption) (y2 : s_ty r0 = 3 := by first | rfl | assumption)  : wr P d sw_c321 sw_h321 (0, [r0, vi x1, vi x2, r3, t4], [], h, kc, ks) Q := by
  refine w_ld rfl rfl (Or.inr (Or.inr ⟨by decide, y1⟩)) ?_
  refine w_c32 rfl (by decide) 0 (by decide) ?_
  refine w_ld rfl rfl (Or.inr (Or.inr ⟨by decide, y2⟩)) ?_
  refine w_ld rfl rfl (Or.inl ⟨by decide, rfl⟩) ?_
  refine w_ld rfl rfl (Or.inl ⟨by decide, rfl⟩) ?_
  subst e_q3
  exact w_cv rfl [.index q3, vi x1, vi x2] [vi 0, r3] rfl rfl (s_wt_4 rfl) rfl g5 k

theorem k321_8 {P : s_P} {d : Nat} {Q : s_O → Prop} {h : s_H} {kc ks : Nat} {r0 : Term} {x1 x2 : Int} {r3 t4 s0 : Term} {s1 s2 : Int} {q2 : Nat} {a3 : List Int} (g4 : s_get h q2 = some (0, 1, a3.map vl)) (k : wr P d sw_c321 sw_h321 (25, [r0, vi x1, vi x2, r3, t4], [], (hp h q2 (0, 1, (a3.set (Int.toNat (s1)) s2).map vl)), kc, ks) Q) (e_q2 : s0 = .index q2 := by first | rfl | assumption) (c1 : In3 s2 := by first | omega | assumption | (simp only [mk_len, List.length_map]; omega) | decide) (c5 : s1 < a3.length := by first | omega | assumption | (simp only [mk_len, List.length_map]; omega) | decide) (c6 : 0 ≤ s1 := by first | omega | assumption | (simp only [mk_len, List.length_map]; omega) | decide) (c7 : In3 s1 := by first | omega | assumption | (simp only [mk_len, List.length_map]; omega) | decide) (c8 : 0 < q2 := by first | omega | assumption | (simp only [mk_len, List.length_map]; omega) | decide) : wr P d sw_c321 sw_h321 (8, [r0, vi x1, vi x2, r3, t4], [vi s2, vi s1, s0], h, kc, ks) Q := by
  refine w_i2l rfl c1 ?_
  subst e_q2
  refine w_last rfl g4 (Nat.ble_eq_true_of_le c8) c7 c6 c5 ?_
  refine w_goto rfl ?_
  exact k

theorem k321_15 {P : s_P} {d : Nat} {Q : s_O → Prop} {h : s_H} {kc ks : Nat} {r0 : Term} {x1 x2 : Int} {r3 t4 : Term}  (k : Q (.inl (some (vi 1)), h, kc, ks))   : wr P d sw_c321 sw_h321 (15, [r0, vi x1, vi x2, r3, t4], [], h, kc, ks) Q := by
  refine w_c32 rfl (by decide) 1 (by decide) ?_
  exact w_iret rfl k

theorem k321_19 {P : s_P} {d : Nat} {Q : s_O → Prop} {h : s_H} {kc ks : Nat} {r0 : Term} {x1 x2 : Int} {r3 t4 : Term}  (k : Q (.inl (some (vi 2)), h, kc, ks))   : wr P d sw_c321 sw_h321 (19, [r0, vi x1, vi x2, r3, t4], [], h, kc, ks) Q := by
  refine w_c32 rfl (by decide) 2 (by decide) ?_
  exact w_iret rfl k

theorem k321_23 {P : s_P} {d : Nat} {Q : s_O → Prop} {h : s_H} {kc ks : Nat} {r0 : Term} {x1 x2 : Int} {r3 t4 : Term}  (k : Q (.inl (some (vi 3)), h, kc, ks))   : wr P d sw_c321 sw_h321 (23, [r0, vi x1, vi x2, r3, t4], [], h, kc, ks) Q := by
  refine w_c32 rfl (by decide) 3 (by decide) ?_
  exact w_iret rfl k

theorem k321_25 {P : s_P} {d : Nat} {Q : s_O → Prop} {h : s_H} {kc ks : Nat} {r0 : Term} {x1 x2 : Int} {r3 t4 : Term}  (k : Q (.inl (some (vi 0)), h, kc, ks))   : wr P d sw_c321 sw_h321 (25, [r0, vi x1, vi x2, r3, t4], [], h, kc, ks) Q := by
  refine w_c32 rfl (by decide) 0 (by decide) ?_
  exact w_iret rfl k

/-! 322: FormulaWorksLaw.adjoint(LFormulaWorks;I[J)I -/
theorem k322_0 {P : s_P} {d : Nat} {Q : s_O → Prop} {h : s_H} {kc ks : Nat} {r0 : Term} {x1 : Int} {r2 t3 : Term} {q3 : Nat} {f4 : List Term} (g5 : s_get h q3 = some (1, 10, f4)) (k : wm P d 2 [.index q3, vi x1] h (wq P d sw_c322 sw_h322 7 [.index q3, vi x1, r2, t3] [vi 0, r2] kc ks Q)) (e_q3 : r0 = .index q3 := by first | rfl | assumption) (y1 : s_ty r2 = 3 := by first | rfl | assumption) (y2 : s_ty r0 = 3 := by first | rfl | assumption)  : wr P d sw_c322 sw_h322 (0, [r0, vi x1, r2, t3], [], h, kc, ks) Q := by
  refine w_ld rfl rfl (Or.inr (Or.inr ⟨by decide, y1⟩)) ?_
  refine w_c32 rfl (by decide) 0 (by decide) ?_
  refine w_ld rfl rfl (Or.inr (Or.inr ⟨by decide, y2⟩)) ?_
  refine w_ld rfl rfl (Or.inl ⟨by decide, rfl⟩) ?_
  subst e_q3
  exact w_cv rfl [.index q3, vi x1] [vi 0, r2] rfl rfl (s_wt_4 rfl) rfl g5 k

theorem k322_7 {P : s_P} {d : Nat} {Q : s_O → Prop} {h : s_H} {kc ks : Nat} {r0 : Term} {x1 : Int} {r2 t3 s0 : Term} {s1 s2 : Int} {q2 : Nat} {a3 : List Int} (g4 : s_get h q2 = some (0, 1, a3.map vl)) (k : wr P d sw_c322 sw_h322 (21, [r0, vi x1, r2, t3], [], (hp h q2 (0, 1, (a3.set (Int.toNat (s1)) s2).map vl)), kc, ks) Q) (e_q2 : s0 = .index q2 := by first | rfl | assumption) (c1 : In3 s2 := by first | omega | assumption | (simp only [mk_len, List.length_map]; omega) | decide) (c5 : s1 < a3.length := by first | omega | assumption | (simp only [mk_len, List.length_map]; omega) | decide) (c6 : 0 ≤ s1 := by first | omega | assumption | (simp only [mk_len, List.length_map]; omega) | decide) (c7 : In3 s1 := by first | omega | assumption | (simp only [mk_len, List.length_map]; omega) | decide) (c8 : 0 < q2 := by first | omega | assumption | (simp only [mk_len, List.length_map]; omega) | decide) : wr P d sw_c322 sw_h322 (7, [r0, vi x1, r2, t3], [vi s2, vi s1, s0], h, kc, ks) Q := by
  refine w_i2l rfl c1 ?_
  subst e_q2
  refine w_last rfl g4 (Nat.ble_eq_true_of_le c8) c7 c6 c5 ?_
  refine w_goto rfl ?_
  exact k

theorem k322_13 {P : s_P} {d : Nat} {Q : s_O → Prop} {h : s_H} {kc ks : Nat} {r0 : Term} {x1 : Int} {r2 t3 : Term}  (k : Q (.inl (some (vi 1)), h, kc, ks))   : wr P d sw_c322 sw_h322 (13, [r0, vi x1, r2, t3], [], h, kc, ks) Q := by
  refine w_c32 rfl (by decide) 1 (by decide) ?_
  exact w_iret rfl k

theorem k322_16 {P : s_P} {d : Nat} {Q : s_O → Prop} {h : s_H} {kc ks : Nat} {r0 : Term} {x1 : Int} {r2 t3 : Term}  (k : Q (.inl (some (vi 2)), h, kc, ks))   : wr P d sw_c322 sw_h322 (16, [r0, vi x1, r2, t3], [], h, kc, ks) Q := by
  refine w_c32 rfl (by decide) 2 (by decide) ?_
  exact w_iret rfl k

theorem k322_19 {P : s_P} {d : Nat} {Q : s_O → Prop} {h : s_H} {kc ks : Nat} {r0 : Term} {x1 : Int} {r2 t3 : Term}  (k : Q (.inl (some (vi 3)), h, kc, ks))   : wr P d sw_c322 sw_h322 (19, [r0, vi x1, r2, t3], [], h, kc, ks) Q := by
  refine w_c32 rfl (by decide) 3 (by decide) ?_
  exact w_iret rfl k

theorem k322_21 {P : s_P} {d : Nat} {Q : s_O → Prop} {h : s_H} {kc ks : Nat} {r0 : Term} {x1 : Int} {r2 t3 : Term}  (k : Q (.inl (some (vi 0)), h, kc, ks))   : wr P d sw_c322 sw_h322 (21, [r0, vi x1, r2, t3], [], h, kc, ks) Q := by
  refine w_c32 rfl (by decide) 0 (by decide) ?_
  exact w_iret rfl k

/-! 323: FormulaWorksLaw.answer(LFormulaWorks;III[J)I -/
theorem k323_0 {P : s_P} {d : Nat} {Q : s_O → Prop} {h : s_H} {kc ks : Nat} {r0 : Term} {x1 x2 x3 : Int} {r4 t5 : Term} {q3 : Nat} {f4 : List Term} (g5 : s_get h q3 = some (1, 10, f4)) (k : wm P d 3 [.index q3, vi x1, vi x2, vi x3] h (wq P d sw_c323 sw_h323 10 [.index q3, vi x1, vi x2, vi x3, r4, t5] [vi 0, r4] kc ks Q)) (e_q3 : r0 = .index q3 := by first | rfl | assumption) (y1 : s_ty r4 = 3 := by first | rfl | assumption) (y2 : s_ty r0 = 3 := by first | rfl | assumption)  : wr P d sw_c323 sw_h323 (0, [r0, vi x1, vi x2, vi x3, r4, t5], [], h, kc, ks) Q := by
  refine w_ld rfl rfl (Or.inr (Or.inr ⟨by decide, y1⟩)) ?_
  refine w_c32 rfl (by decide) 0 (by decide) ?_
  refine w_ld rfl rfl (Or.inr (Or.inr ⟨by decide, y2⟩)) ?_
  refine w_ld rfl rfl (Or.inl ⟨by decide, rfl⟩) ?_
  refine w_ld rfl rfl (Or.inl ⟨by decide, rfl⟩) ?_
  refine w_ld rfl rfl (Or.inl ⟨by decide, rfl⟩) ?_
  subst e_q3
  exact w_cv rfl [.index q3, vi x1, vi x2, vi x3] [vi 0, r4] rfl rfl (s_wt_4 rfl) rfl g5 k

theorem k323_10 {P : s_P} {d : Nat} {Q : s_O → Prop} {h : s_H} {kc ks : Nat} {r0 : Term} {x1 x2 x3 : Int} {r4 t5 s0 : Term} {s1 s2 : Int} {q2 : Nat} {a3 : List Int} (g4 : s_get h q2 = some (0, 1, a3.map vl)) (k : wr P d sw_c323 sw_h323 (27, [r0, vi x1, vi x2, vi x3, r4, t5], [], (hp h q2 (0, 1, (a3.set (Int.toNat (s1)) s2).map vl)), kc, ks) Q) (e_q2 : s0 = .index q2 := by first | rfl | assumption) (c1 : In3 s2 := by first | omega | assumption | (simp only [mk_len, List.length_map]; omega) | decide) (c5 : s1 < a3.length := by first | omega | assumption | (simp only [mk_len, List.length_map]; omega) | decide) (c6 : 0 ≤ s1 := by first | omega | assumption | (simp only [mk_len, List.length_map]; omega) | decide) (c7 : In3 s1 := by first | omega | assumption | (simp only [mk_len, List.length_map]; omega) | decide) (c8 : 0 < q2 := by first | omega | assumption | (simp only [mk_len, List.length_map]; omega) | decide) : wr P d sw_c323 sw_h323 (10, [r0, vi x1, vi x2, vi x3, r4, t5], [vi s2, vi s1, s0], h, kc, ks) Q := by
  refine w_i2l rfl c1 ?_
  subst e_q2
  refine w_last rfl g4 (Nat.ble_eq_true_of_le c8) c7 c6 c5 ?_
  refine w_goto rfl ?_
  exact k

theorem k323_17 {P : s_P} {d : Nat} {Q : s_O → Prop} {h : s_H} {kc ks : Nat} {r0 : Term} {x1 x2 x3 : Int} {r4 t5 : Term}  (k : Q (.inl (some (vi 1)), h, kc, ks))   : wr P d sw_c323 sw_h323 (17, [r0, vi x1, vi x2, vi x3, r4, t5], [], h, kc, ks) Q := by
  refine w_c32 rfl (by decide) 1 (by decide) ?_
  exact w_iret rfl k

theorem k323_21 {P : s_P} {d : Nat} {Q : s_O → Prop} {h : s_H} {kc ks : Nat} {r0 : Term} {x1 x2 x3 : Int} {r4 t5 : Term}  (k : Q (.inl (some (vi 2)), h, kc, ks))   : wr P d sw_c323 sw_h323 (21, [r0, vi x1, vi x2, vi x3, r4, t5], [], h, kc, ks) Q := by
  refine w_c32 rfl (by decide) 2 (by decide) ?_
  exact w_iret rfl k

theorem k323_25 {P : s_P} {d : Nat} {Q : s_O → Prop} {h : s_H} {kc ks : Nat} {r0 : Term} {x1 x2 x3 : Int} {r4 t5 : Term}  (k : Q (.inl (some (vi 3)), h, kc, ks))   : wr P d sw_c323 sw_h323 (25, [r0, vi x1, vi x2, vi x3, r4, t5], [], h, kc, ks) Q := by
  refine w_c32 rfl (by decide) 3 (by decide) ?_
  exact w_iret rfl k

theorem k323_27 {P : s_P} {d : Nat} {Q : s_O → Prop} {h : s_H} {kc ks : Nat} {r0 : Term} {x1 x2 x3 : Int} {r4 t5 : Term}  (k : Q (.inl (some (vi 0)), h, kc, ks))   : wr P d sw_c323 sw_h323 (27, [r0, vi x1, vi x2, vi x3, r4, t5], [], h, kc, ks) Q := by
  refine w_c32 rfl (by decide) 0 (by decide) ?_
  exact w_iret rfl k

/-! 324: FormulaWorksLaw.answers(LFormulaWorks;II[J)I -/
theorem k324_0 {P : s_P} {d : Nat} {Q : s_O → Prop} {h : s_H} {kc ks : Nat} {r0 : Term} {x1 x2 : Int} {r3 t4 : Term} {q3 : Nat} {f4 : List Term} (g5 : s_get h q3 = some (1, 10, f4)) (k : wm P d 4 [.index q3, vi x1, vi x2] h (wq P d sw_c324 sw_h324 8 [.index q3, vi x1, vi x2, r3, t4] [vi 0, r3] kc ks Q)) (e_q3 : r0 = .index q3 := by first | rfl | assumption) (y1 : s_ty r3 = 3 := by first | rfl | assumption) (y2 : s_ty r0 = 3 := by first | rfl | assumption)  : wr P d sw_c324 sw_h324 (0, [r0, vi x1, vi x2, r3, t4], [], h, kc, ks) Q := by
  refine w_ld rfl rfl (Or.inr (Or.inr ⟨by decide, y1⟩)) ?_
  refine w_c32 rfl (by decide) 0 (by decide) ?_
  refine w_ld rfl rfl (Or.inr (Or.inr ⟨by decide, y2⟩)) ?_
  refine w_ld rfl rfl (Or.inl ⟨by decide, rfl⟩) ?_
  refine w_ld rfl rfl (Or.inl ⟨by decide, rfl⟩) ?_
  subst e_q3
  exact w_cv rfl [.index q3, vi x1, vi x2] [vi 0, r3] rfl rfl (s_wt_4 rfl) rfl g5 k

theorem k324_8 {P : s_P} {d : Nat} {Q : s_O → Prop} {h : s_H} {kc ks : Nat} {r0 : Term} {x1 x2 : Int} {r3 t4 s0 : Term} {s1 s2 : Int} {q2 : Nat} {a3 : List Int} (g4 : s_get h q2 = some (0, 1, a3.map vl)) (k : wr P d sw_c324 sw_h324 (21, [r0, vi x1, vi x2, r3, t4], [], (hp h q2 (0, 1, (a3.set (Int.toNat (s1)) s2).map vl)), kc, ks) Q) (e_q2 : s0 = .index q2 := by first | rfl | assumption) (c1 : In3 s2 := by first | omega | assumption | (simp only [mk_len, List.length_map]; omega) | decide) (c5 : s1 < a3.length := by first | omega | assumption | (simp only [mk_len, List.length_map]; omega) | decide) (c6 : 0 ≤ s1 := by first | omega | assumption | (simp only [mk_len, List.length_map]; omega) | decide) (c7 : In3 s1 := by first | omega | assumption | (simp only [mk_len, List.length_map]; omega) | decide) (c8 : 0 < q2 := by first | omega | assumption | (simp only [mk_len, List.length_map]; omega) | decide) : wr P d sw_c324 sw_h324 (8, [r0, vi x1, vi x2, r3, t4], [vi s2, vi s1, s0], h, kc, ks) Q := by
  refine w_i2l rfl c1 ?_
  subst e_q2
  refine w_last rfl g4 (Nat.ble_eq_true_of_le c8) c7 c6 c5 ?_
  refine w_goto rfl ?_
  exact k

theorem k324_15 {P : s_P} {d : Nat} {Q : s_O → Prop} {h : s_H} {kc ks : Nat} {r0 : Term} {x1 x2 : Int} {r3 t4 : Term}  (k : Q (.inl (some (vi 1)), h, kc, ks))   : wr P d sw_c324 sw_h324 (15, [r0, vi x1, vi x2, r3, t4], [], h, kc, ks) Q := by
  refine w_c32 rfl (by decide) 1 (by decide) ?_
  exact w_iret rfl k

theorem k324_19 {P : s_P} {d : Nat} {Q : s_O → Prop} {h : s_H} {kc ks : Nat} {r0 : Term} {x1 x2 : Int} {r3 t4 : Term}  (k : Q (.inl (some (vi 2)), h, kc, ks))   : wr P d sw_c324 sw_h324 (19, [r0, vi x1, vi x2, r3, t4], [], h, kc, ks) Q := by
  refine w_c32 rfl (by decide) 2 (by decide) ?_
  exact w_iret rfl k

theorem k324_21 {P : s_P} {d : Nat} {Q : s_O → Prop} {h : s_H} {kc ks : Nat} {r0 : Term} {x1 x2 : Int} {r3 t4 : Term}  (k : Q (.inl (some (vi 0)), h, kc, ks))   : wr P d sw_c324 sw_h324 (21, [r0, vi x1, vi x2, r3, t4], [], h, kc, ks) Q := by
  refine w_c32 rfl (by decide) 0 (by decide) ?_
  exact w_iret rfl k

/-! 325: FormulaWorksLaw.at(LFormulaWorks;III[J)I -/
theorem k325_0 {P : s_P} {d : Nat} {Q : s_O → Prop} {h : s_H} {kc ks : Nat} {r0 : Term} {x1 x2 x3 : Int} {r4 t5 : Term} {q3 : Nat} {f4 : List Term} (g5 : s_get h q3 = some (1, 10, f4)) (k : wm P d 5 [.index q3, vi x1, vi x2, vi x3] h (wq P d sw_c325 sw_h325 10 [.index q3, vi x1, vi x2, vi x3, r4, t5] [vi 0, r4] kc ks Q)) (e_q3 : r0 = .index q3 := by first | rfl | assumption) (y1 : s_ty r4 = 3 := by first | rfl | assumption) (y2 : s_ty r0 = 3 := by first | rfl | assumption)  : wr P d sw_c325 sw_h325 (0, [r0, vi x1, vi x2, vi x3, r4, t5], [], h, kc, ks) Q := by
  refine w_ld rfl rfl (Or.inr (Or.inr ⟨by decide, y1⟩)) ?_
  refine w_c32 rfl (by decide) 0 (by decide) ?_
  refine w_ld rfl rfl (Or.inr (Or.inr ⟨by decide, y2⟩)) ?_
  refine w_ld rfl rfl (Or.inl ⟨by decide, rfl⟩) ?_
  refine w_ld rfl rfl (Or.inl ⟨by decide, rfl⟩) ?_
  refine w_ld rfl rfl (Or.inl ⟨by decide, rfl⟩) ?_
  subst e_q3
  exact w_cv rfl [.index q3, vi x1, vi x2, vi x3] [vi 0, r4] rfl rfl (s_wt_4 rfl) rfl g5 k

theorem k325_10 {P : s_P} {d : Nat} {Q : s_O → Prop} {h : s_H} {kc ks : Nat} {r0 : Term} {x1 x2 x3 : Int} {r4 t5 s0 : Term} {s1 s2 : Int} {q2 : Nat} {a3 : List Int} (g4 : s_get h q2 = some (0, 1, a3.map vl)) (k : wr P d sw_c325 sw_h325 (23, [r0, vi x1, vi x2, vi x3, r4, t5], [], (hp h q2 (0, 1, (a3.set (Int.toNat (s1)) s2).map vl)), kc, ks) Q) (e_q2 : s0 = .index q2 := by first | rfl | assumption) (c1 : In3 s2 := by first | omega | assumption | (simp only [mk_len, List.length_map]; omega) | decide) (c5 : s1 < a3.length := by first | omega | assumption | (simp only [mk_len, List.length_map]; omega) | decide) (c6 : 0 ≤ s1 := by first | omega | assumption | (simp only [mk_len, List.length_map]; omega) | decide) (c7 : In3 s1 := by first | omega | assumption | (simp only [mk_len, List.length_map]; omega) | decide) (c8 : 0 < q2 := by first | omega | assumption | (simp only [mk_len, List.length_map]; omega) | decide) : wr P d sw_c325 sw_h325 (10, [r0, vi x1, vi x2, vi x3, r4, t5], [vi s2, vi s1, s0], h, kc, ks) Q := by
  refine w_i2l rfl c1 ?_
  subst e_q2
  refine w_last rfl g4 (Nat.ble_eq_true_of_le c8) c7 c6 c5 ?_
  refine w_goto rfl ?_
  exact k

theorem k325_17 {P : s_P} {d : Nat} {Q : s_O → Prop} {h : s_H} {kc ks : Nat} {r0 : Term} {x1 x2 x3 : Int} {r4 t5 : Term}  (k : Q (.inl (some (vi 1)), h, kc, ks))   : wr P d sw_c325 sw_h325 (17, [r0, vi x1, vi x2, vi x3, r4, t5], [], h, kc, ks) Q := by
  refine w_c32 rfl (by decide) 1 (by decide) ?_
  exact w_iret rfl k

theorem k325_21 {P : s_P} {d : Nat} {Q : s_O → Prop} {h : s_H} {kc ks : Nat} {r0 : Term} {x1 x2 x3 : Int} {r4 t5 : Term}  (k : Q (.inl (some (vi 2)), h, kc, ks))   : wr P d sw_c325 sw_h325 (21, [r0, vi x1, vi x2, vi x3, r4, t5], [], h, kc, ks) Q := by
  refine w_c32 rfl (by decide) 2 (by decide) ?_
  exact w_iret rfl k

theorem k325_23 {P : s_P} {d : Nat} {Q : s_O → Prop} {h : s_H} {kc ks : Nat} {r0 : Term} {x1 x2 x3 : Int} {r4 t5 : Term}  (k : Q (.inl (some (vi 0)), h, kc, ks))   : wr P d sw_c325 sw_h325 (23, [r0, vi x1, vi x2, vi x3, r4, t5], [], h, kc, ks) Q := by
  refine w_c32 rfl (by decide) 0 (by decide) ?_
  exact w_iret rfl k

/-! 326: FormulaWorksLaw.cell(LFormulaWorks;II[J)I -/
theorem k326_0 {P : s_P} {d : Nat} {Q : s_O → Prop} {h : s_H} {kc ks : Nat} {r0 : Term} {x1 x2 : Int} {r3 t4 : Term} {q3 : Nat} {f4 : List Term} (g5 : s_get h q3 = some (1, 10, f4)) (k : wm P d 6 [.index q3, vi x1, vi x2] h (wq P d sw_c326 sw_h326 8 [.index q3, vi x1, vi x2, r3, t4] [vi 0, r3] kc ks Q)) (e_q3 : r0 = .index q3 := by first | rfl | assumption) (y1 : s_ty r3 = 3 := by first | rfl | assumption) (y2 : s_ty r0 = 3 := by first | rfl | assumption)  : wr P d sw_c326 sw_h326 (0, [r0, vi x1, vi x2, r3, t4], [], h, kc, ks) Q := by
  refine w_ld rfl rfl (Or.inr (Or.inr ⟨by decide, y1⟩)) ?_
  refine w_c32 rfl (by decide) 0 (by decide) ?_
  refine w_ld rfl rfl (Or.inr (Or.inr ⟨by decide, y2⟩)) ?_
  refine w_ld rfl rfl (Or.inl ⟨by decide, rfl⟩) ?_
  refine w_ld rfl rfl (Or.inl ⟨by decide, rfl⟩) ?_
  subst e_q3
  exact w_cv rfl [.index q3, vi x1, vi x2] [vi 0, r3] rfl rfl (s_wt_4 rfl) rfl g5 k

theorem k326_8 {P : s_P} {d : Nat} {Q : s_O → Prop} {h : s_H} {kc ks : Nat} {r0 : Term} {x1 x2 : Int} {r3 t4 s0 : Term} {s1 s2 : Int} {q2 : Nat} {a3 : List Int} (g4 : s_get h q2 = some (0, 1, a3.map vl)) (k : wr P d sw_c326 sw_h326 (21, [r0, vi x1, vi x2, r3, t4], [], (hp h q2 (0, 1, (a3.set (Int.toNat (s1)) s2).map vl)), kc, ks) Q) (e_q2 : s0 = .index q2 := by first | rfl | assumption) (c1 : In3 s2 := by first | omega | assumption | (simp only [mk_len, List.length_map]; omega) | decide) (c5 : s1 < a3.length := by first | omega | assumption | (simp only [mk_len, List.length_map]; omega) | decide) (c6 : 0 ≤ s1 := by first | omega | assumption | (simp only [mk_len, List.length_map]; omega) | decide) (c7 : In3 s1 := by first | omega | assumption | (simp only [mk_len, List.length_map]; omega) | decide) (c8 : 0 < q2 := by first | omega | assumption | (simp only [mk_len, List.length_map]; omega) | decide) : wr P d sw_c326 sw_h326 (8, [r0, vi x1, vi x2, r3, t4], [vi s2, vi s1, s0], h, kc, ks) Q := by
  refine w_i2l rfl c1 ?_
  subst e_q2
  refine w_last rfl g4 (Nat.ble_eq_true_of_le c8) c7 c6 c5 ?_
  refine w_goto rfl ?_
  exact k

theorem k326_15 {P : s_P} {d : Nat} {Q : s_O → Prop} {h : s_H} {kc ks : Nat} {r0 : Term} {x1 x2 : Int} {r3 t4 : Term}  (k : Q (.inl (some (vi 1)), h, kc, ks))   : wr P d sw_c326 sw_h326 (15, [r0, vi x1, vi x2, r3, t4], [], h, kc, ks) Q := by
  refine w_c32 rfl (by decide) 1 (by decide) ?_
  exact w_iret rfl k

theorem k326_19 {P : s_P} {d : Nat} {Q : s_O → Prop} {h : s_H} {kc ks : Nat} {r0 : Term} {x1 x2 : Int} {r3 t4 : Term}  (k : Q (.inl (some (vi 2)), h, kc, ks))   : wr P d sw_c326 sw_h326 (19, [r0, vi x1, vi x2, r3, t4], [], h, kc, ks) Q := by
  refine w_c32 rfl (by decide) 2 (by decide) ?_
  exact w_iret rfl k

theorem k326_21 {P : s_P} {d : Nat} {Q : s_O → Prop} {h : s_H} {kc ks : Nat} {r0 : Term} {x1 x2 : Int} {r3 t4 : Term}  (k : Q (.inl (some (vi 0)), h, kc, ks))   : wr P d sw_c326 sw_h326 (21, [r0, vi x1, vi x2, r3, t4], [], h, kc, ks) Q := by
  refine w_c32 rfl (by decide) 0 (by decide) ?_
  exact w_iret rfl k

/-! 327: FormulaWorksLaw.change(LFormulaWorks;III[J)I -/
theorem k327_0 {P : s_P} {d : Nat} {Q : s_O → Prop} {h : s_H} {kc ks : Nat} {r0 : Term} {x1 x2 x3 : Int} {r4 t5 : Term} {q3 : Nat} {f4 : List Term} (g5 : s_get h q3 = some (1, 10, f4)) (k : wm P d 7 [.index q3, vi x1, vi x2, vi x3] h (wq P d sw_c327 sw_h327 10 [.index q3, vi x1, vi x2, vi x3, r4, t5] [vi 0, r4] kc ks Q)) (e_q3 : r0 = .index q3 := by first | rfl | assumption) (y1 : s_ty r4 = 3 := by first | rfl | assumption) (y2 : s_ty r0 = 3 := by first | rfl | assumption)  : wr P d sw_c327 sw_h327 (0, [r0, vi x1, vi x2, vi x3, r4, t5], [], h, kc, ks) Q := by
  refine w_ld rfl rfl (Or.inr (Or.inr ⟨by decide, y1⟩)) ?_
  refine w_c32 rfl (by decide) 0 (by decide) ?_
  refine w_ld rfl rfl (Or.inr (Or.inr ⟨by decide, y2⟩)) ?_
  refine w_ld rfl rfl (Or.inl ⟨by decide, rfl⟩) ?_
  refine w_ld rfl rfl (Or.inl ⟨by decide, rfl⟩) ?_
  refine w_ld rfl rfl (Or.inl ⟨by decide, rfl⟩) ?_
  subst e_q3
  exact w_cv rfl [.index q3, vi x1, vi x2, vi x3] [vi 0, r4] rfl rfl (s_wt_4 rfl) rfl g5 k

theorem k327_10 {P : s_P} {d : Nat} {Q : s_O → Prop} {h : s_H} {kc ks : Nat} {r0 : Term} {x1 x2 x3 : Int} {r4 t5 s0 : Term} {s1 s2 : Int} {q2 : Nat} {a3 : List Int} (g4 : s_get h q2 = some (0, 1, a3.map vl)) (k : wr P d sw_c327 sw_h327 (27, [r0, vi x1, vi x2, vi x3, r4, t5], [], (hp h q2 (0, 1, (a3.set (Int.toNat (s1)) s2).map vl)), kc, ks) Q) (e_q2 : s0 = .index q2 := by first | rfl | assumption) (c1 : In3 s2 := by first | omega | assumption | (simp only [mk_len, List.length_map]; omega) | decide) (c5 : s1 < a3.length := by first | omega | assumption | (simp only [mk_len, List.length_map]; omega) | decide) (c6 : 0 ≤ s1 := by first | omega | assumption | (simp only [mk_len, List.length_map]; omega) | decide) (c7 : In3 s1 := by first | omega | assumption | (simp only [mk_len, List.length_map]; omega) | decide) (c8 : 0 < q2 := by first | omega | assumption | (simp only [mk_len, List.length_map]; omega) | decide) : wr P d sw_c327 sw_h327 (10, [r0, vi x1, vi x2, vi x3, r4, t5], [vi s2, vi s1, s0], h, kc, ks) Q := by
  refine w_i2l rfl c1 ?_
  subst e_q2
  refine w_last rfl g4 (Nat.ble_eq_true_of_le c8) c7 c6 c5 ?_
  refine w_goto rfl ?_
  exact k

theorem k327_17 {P : s_P} {d : Nat} {Q : s_O → Prop} {h : s_H} {kc ks : Nat} {r0 : Term} {x1 x2 x3 : Int} {r4 t5 : Term}  (k : Q (.inl (some (vi 1)), h, kc, ks))   : wr P d sw_c327 sw_h327 (17, [r0, vi x1, vi x2, vi x3, r4, t5], [], h, kc, ks) Q := by
  refine w_c32 rfl (by decide) 1 (by decide) ?_
  exact w_iret rfl k

theorem k327_21 {P : s_P} {d : Nat} {Q : s_O → Prop} {h : s_H} {kc ks : Nat} {r0 : Term} {x1 x2 x3 : Int} {r4 t5 : Term}  (k : Q (.inl (some (vi 2)), h, kc, ks))   : wr P d sw_c327 sw_h327 (21, [r0, vi x1, vi x2, vi x3, r4, t5], [], h, kc, ks) Q := by
  refine w_c32 rfl (by decide) 2 (by decide) ?_
  exact w_iret rfl k

theorem k327_25 {P : s_P} {d : Nat} {Q : s_O → Prop} {h : s_H} {kc ks : Nat} {r0 : Term} {x1 x2 x3 : Int} {r4 t5 : Term}  (k : Q (.inl (some (vi 3)), h, kc, ks))   : wr P d sw_c327 sw_h327 (25, [r0, vi x1, vi x2, vi x3, r4, t5], [], h, kc, ks) Q := by
  refine w_c32 rfl (by decide) 3 (by decide) ?_
  exact w_iret rfl k

theorem k327_27 {P : s_P} {d : Nat} {Q : s_O → Prop} {h : s_H} {kc ks : Nat} {r0 : Term} {x1 x2 x3 : Int} {r4 t5 : Term}  (k : Q (.inl (some (vi 0)), h, kc, ks))   : wr P d sw_c327 sw_h327 (27, [r0, vi x1, vi x2, vi x3, r4, t5], [], h, kc, ks) Q := by
  refine w_c32 rfl (by decide) 0 (by decide) ?_
  exact w_iret rfl k

/-! 328: FormulaWorksLaw.claim(LFormulaWorks;[J)I -/
theorem k328_0 {P : s_P} {d : Nat} {Q : s_O → Prop} {h : s_H} {kc ks : Nat} {r0 r1 t2 : Term} {q3 : Nat} {f4 : List Term} (g5 : s_get h q3 = some (1, 10, f4)) (k : wm P d 8 [.index q3] h (wq P d sw_c328 sw_h328 6 [.index q3, r1, t2] [vi 0, r1] kc ks Q)) (e_q3 : r0 = .index q3 := by first | rfl | assumption) (y1 : s_ty r1 = 3 := by first | rfl | assumption) (y2 : s_ty r0 = 3 := by first | rfl | assumption)  : wr P d sw_c328 sw_h328 (0, [r0, r1, t2], [], h, kc, ks) Q := by
  refine w_ld rfl rfl (Or.inr (Or.inr ⟨by decide, y1⟩)) ?_
  refine w_c32 rfl (by decide) 0 (by decide) ?_
  refine w_ld rfl rfl (Or.inr (Or.inr ⟨by decide, y2⟩)) ?_
  subst e_q3
  exact w_cv rfl [.index q3] [vi 0, r1] rfl rfl (s_wt_4 rfl) rfl g5 k

theorem k328_6 {P : s_P} {d : Nat} {Q : s_O → Prop} {h : s_H} {kc ks : Nat} {r0 r1 t2 s0 : Term} {s1 s2 : Int}  (k1 : s2 = 0 → wr P d sw_c328 sw_h328 (13, [r0, r1, t2], [vi s1, s0], h, kc, ks) Q) (k2 : ¬ s2 = 0 → wr P d sw_c328 sw_h328 (9, [r0, r1, t2], [vi s1, s0], h, kc, ks) Q)  (c1 : In3 s2 := by first | omega | assumption | (simp only [mk_len, List.length_map]; omega) | decide) : wr P d sw_c328 sw_h328 (6, [r0, r1, t2], [vi s2, vi s1, s0], h, kc, ks) Q := by
  exact w_if1 rfl c1 k1 k2

theorem k328_9 {P : s_P} {d : Nat} {Q : s_O → Prop} {h : s_H} {kc ks : Nat} {r0 r1 t2 s0 : Term} {s1 : Int}  (k : wr P d sw_c328 sw_h328 (14, [r0, r1, t2], [vl 1, vi s1, s0], h, kc, ks) Q)   : wr P d sw_c328 sw_h328 (9, [r0, r1, t2], [vi s1, s0], h, kc, ks) Q := by
  refine w_c64 rfl (by decide) 1 (by decide) ?_
  refine w_goto rfl ?_
  exact k

theorem k328_13 {P : s_P} {d : Nat} {Q : s_O → Prop} {h : s_H} {kc ks : Nat} {r0 r1 t2 s0 : Term} {s1 : Int}  (k : wr P d sw_c328 sw_h328 (14, [r0, r1, t2], [vl 0, vi s1, s0], h, kc, ks) Q)   : wr P d sw_c328 sw_h328 (13, [r0, r1, t2], [vi s1, s0], h, kc, ks) Q := by
  refine w_c64 rfl (by decide) 0 (by decide) ?_
  exact k

theorem k328_14 {P : s_P} {d : Nat} {Q : s_O → Prop} {h : s_H} {kc ks : Nat} {r0 r1 t2 s0 : Term} {s1 s2 : Int} {q1 : Nat} {a2 : List Int} (g3 : s_get h q1 = some (0, 1, a2.map vl)) (k : wr P d sw_c328 sw_h328 (21, [r0, r1, t2], [], (hp h q1 (0, 1, (a2.set (Int.toNat (s1)) s2).map vl)), kc, ks) Q) (e_q1 : s0 = .index q1 := by first | rfl | assumption) (c4 : s1 < a2.length := by first | omega | assumption | (simp only [mk_len, List.length_map]; omega) | decide) (c5 : 0 ≤ s1 := by first | omega | assumption | (simp only [mk_len, List.length_map]; omega) | decide) (c6 : In3 s1 := by first | omega | assumption | (simp only [mk_len, List.length_map]; omega) | decide) (c7 : 0 < q1 := by first | omega | assumption | (simp only [mk_len, List.length_map]; omega) | decide) : wr P d sw_c328 sw_h328 (14, [r0, r1, t2], [vl s2, vi s1, s0], h, kc, ks) Q := by
  subst e_q1
  refine w_last rfl g3 (Nat.ble_eq_true_of_le c7) c6 c5 c4 ?_
  refine w_goto rfl ?_
  exact k

theorem k328_19 {P : s_P} {d : Nat} {Q : s_O → Prop} {h : s_H} {kc ks : Nat} {r0 r1 t2 : Term}  (k : Q (.inl (some (vi 1)), h, kc, ks))   : wr P d sw_c328 sw_h328 (19, [r0, r1, t2], [], h, kc, ks) Q := by
  refine w_c32 rfl (by decide) 1 (by decide) ?_
  exact w_iret rfl k

theorem k328_21 {P : s_P} {d : Nat} {Q : s_O → Prop} {h : s_H} {kc ks : Nat} {r0 r1 t2 : Term}  (k : Q (.inl (some (vi 0)), h, kc, ks))   : wr P d sw_c328 sw_h328 (21, [r0, r1, t2], [], h, kc, ks) Q := by
  refine w_c32 rfl (by decide) 0 (by decide) ?_
  exact w_iret rfl k

/-! 329: FormulaWorksLaw.closed(LFormulaWorks;I[J)I -/
theorem k329_0 {P : s_P} {d : Nat} {Q : s_O → Prop} {h : s_H} {kc ks : Nat} {r0 : Term} {x1 : Int} {r2 t3 : Term} {q3 : Nat} {f4 : List Term} (g5 : s_get h q3 = some (1, 10, f4)) (k : wm P d 10 [.index q3, vi x1] h (wq P d sw_c329 sw_h329 7 [.index q3, vi x1, r2, t3] [vi 0, r2] kc ks Q)) (e_q3 : r0 = .index q3 := by first | rfl | assumption) (y1 : s_ty r2 = 3 := by first | rfl | assumption) (y2 : s_ty r0 = 3 := by first | rfl | assumption)  : wr P d sw_c329 sw_h329 (0, [r0, vi x1, r2, t3], [], h, kc, ks) Q := by
  refine w_ld rfl rfl (Or.inr (Or.inr ⟨by decide, y1⟩)) ?_
  refine w_c32 rfl (by decide) 0 (by decide) ?_
  refine w_ld rfl rfl (Or.inr (Or.inr ⟨by decide, y2⟩)) ?_
  refine w_ld rfl rfl (Or.inl ⟨by decide, rfl⟩) ?_
  subst e_q3
  exact w_cv rfl [.index q3, vi x1] [vi 0, r2] rfl rfl (s_wt_4 rfl) rfl g5 k

theorem k329_7 {P : s_P} {d : Nat} {Q : s_O → Prop} {h : s_H} {kc ks : Nat} {r0 : Term} {x1 : Int} {r2 t3 s0 : Term} {s1 s2 : Int} {q2 : Nat} {a3 : List Int} (g4 : s_get h q2 = some (0, 1, a3.map vl)) (k : wr P d sw_c329 sw_h329 (21, [r0, vi x1, r2, t3], [], (hp h q2 (0, 1, (a3.set (Int.toNat (s1)) s2).map vl)), kc, ks) Q) (e_q2 : s0 = .index q2 := by first | rfl | assumption) (c1 : In3 s2 := by first | omega | assumption | (simp only [mk_len, List.length_map]; omega) | decide) (c5 : s1 < a3.length := by first | omega | assumption | (simp only [mk_len, List.length_map]; omega) | decide) (c6 : 0 ≤ s1 := by first | omega | assumption | (simp only [mk_len, List.length_map]; omega) | decide) (c7 : In3 s1 := by first | omega | assumption | (simp only [mk_len, List.length_map]; omega) | decide) (c8 : 0 < q2 := by first | omega | assumption | (simp only [mk_len, List.length_map]; omega) | decide) : wr P d sw_c329 sw_h329 (7, [r0, vi x1, r2, t3], [vi s2, vi s1, s0], h, kc, ks) Q := by
  refine w_i2l rfl c1 ?_
  subst e_q2
  refine w_last rfl g4 (Nat.ble_eq_true_of_le c8) c7 c6 c5 ?_
  refine w_goto rfl ?_
  exact k

theorem k329_13 {P : s_P} {d : Nat} {Q : s_O → Prop} {h : s_H} {kc ks : Nat} {r0 : Term} {x1 : Int} {r2 t3 : Term}  (k : Q (.inl (some (vi 1)), h, kc, ks))   : wr P d sw_c329 sw_h329 (13, [r0, vi x1, r2, t3], [], h, kc, ks) Q := by
  refine w_c32 rfl (by decide) 1 (by decide) ?_
  exact w_iret rfl k

theorem k329_16 {P : s_P} {d : Nat} {Q : s_O → Prop} {h : s_H} {kc ks : Nat} {r0 : Term} {x1 : Int} {r2 t3 : Term}  (k : Q (.inl (some (vi 2)), h, kc, ks))   : wr P d sw_c329 sw_h329 (16, [r0, vi x1, r2, t3], [], h, kc, ks) Q := by
  refine w_c32 rfl (by decide) 2 (by decide) ?_
  exact w_iret rfl k

theorem k329_19 {P : s_P} {d : Nat} {Q : s_O → Prop} {h : s_H} {kc ks : Nat} {r0 : Term} {x1 : Int} {r2 t3 : Term}  (k : Q (.inl (some (vi 3)), h, kc, ks))   : wr P d sw_c329 sw_h329 (19, [r0, vi x1, r2, t3], [], h, kc, ks) Q := by
  refine w_c32 rfl (by decide) 3 (by decide) ?_
  exact w_iret rfl k

theorem k329_21 {P : s_P} {d : Nat} {Q : s_O → Prop} {h : s_H} {kc ks : Nat} {r0 : Term} {x1 : Int} {r2 t3 : Term}  (k : Q (.inl (some (vi 0)), h, kc, ks))   : wr P d sw_c329 sw_h329 (21, [r0, vi x1, r2, t3], [], h, kc, ks) Q := by
  refine w_c32 rfl (by decide) 0 (by decide) ?_
  exact w_iret rfl k

/-! 330: FormulaWorksLaw.combined(LFormulaWorks;III[J)I -/
theorem k330_0 {P : s_P} {d : Nat} {Q : s_O → Prop} {h : s_H} {kc ks : Nat} {r0 : Term} {x1 x2 x3 : Int} {r4 t5 : Term} {q3 : Nat} {f4 : List Term} (g5 : s_get h q3 = some (1, 10, f4)) (k : wm P d 11 [.index q3, vi x1, vi x2, vi x3] h (wq P d sw_c330 sw_h330 10 [.index q3, vi x1, vi x2, vi x3, r4, t5] [vi 0, r4] kc ks Q)) (e_q3 : r0 = .index q3 := by first | rfl | assumption) (y1 : s_ty r4 = 3 := by first | rfl | assumption) (y2 : s_ty r0 = 3 := by first | rfl | assumption)  : wr P d sw_c330 sw_h330 (0, [r0, vi x1, vi x2, vi x3, r4, t5], [], h, kc, ks) Q := by
  refine w_ld rfl rfl (Or.inr (Or.inr ⟨by decide, y1⟩)) ?_
  refine w_c32 rfl (by decide) 0 (by decide) ?_
  refine w_ld rfl rfl (Or.inr (Or.inr ⟨by decide, y2⟩)) ?_
  refine w_ld rfl rfl (Or.inl ⟨by decide, rfl⟩) ?_
  refine w_ld rfl rfl (Or.inl ⟨by decide, rfl⟩) ?_
  refine w_ld rfl rfl (Or.inl ⟨by decide, rfl⟩) ?_
  subst e_q3
  exact w_cv rfl [.index q3, vi x1, vi x2, vi x3] [vi 0, r4] rfl rfl (s_wt_4 rfl) rfl g5 k

theorem k330_10 {P : s_P} {d : Nat} {Q : s_O → Prop} {h : s_H} {kc ks : Nat} {r0 : Term} {x1 x2 x3 : Int} {r4 t5 s0 : Term} {s1 s2 : Int} {q2 : Nat} {a3 : List Int} (g4 : s_get h q2 = some (0, 1, a3.map vl)) (k : wr P d sw_c330 sw_h330 (27, [r0, vi x1, vi x2, vi x3, r4, t5], [], (hp h q2 (0, 1, (a3.set (Int.toNat (s1)) s2).map vl)), kc, ks) Q) (e_q2 : s0 = .index q2 := by first | rfl | assumption) (c1 : In3 s2 := by first | omega | assumption | (simp only [mk_len, List.length_map]; omega) | decide) (c5 : s1 < a3.length := by first | omega | assumption | (simp only [mk_len, List.length_map]; omega) | decide) (c6 : 0 ≤ s1 := by first | omega | assumption | (simp only [mk_len, List.length_map]; omega) | decide) (c7 : In3 s1 := by first | omega | assumption | (simp only [mk_len, List.length_map]; omega) | decide) (c8 : 0 < q2 := by first | omega | assumption | (simp only [mk_len, List.length_map]; omega) | decide) : wr P d sw_c330 sw_h330 (10, [r0, vi x1, vi x2, vi x3, r4, t5], [vi s2, vi s1, s0], h, kc, ks) Q := by
  refine w_i2l rfl c1 ?_
  subst e_q2
  refine w_last rfl g4 (Nat.ble_eq_true_of_le c8) c7 c6 c5 ?_
  refine w_goto rfl ?_
  exact k

theorem k330_17 {P : s_P} {d : Nat} {Q : s_O → Prop} {h : s_H} {kc ks : Nat} {r0 : Term} {x1 x2 x3 : Int} {r4 t5 : Term}  (k : Q (.inl (some (vi 1)), h, kc, ks))   : wr P d sw_c330 sw_h330 (17, [r0, vi x1, vi x2, vi x3, r4, t5], [], h, kc, ks) Q := by
  refine w_c32 rfl (by decide) 1 (by decide) ?_
  exact w_iret rfl k

theorem k330_21 {P : s_P} {d : Nat} {Q : s_O → Prop} {h : s_H} {kc ks : Nat} {r0 : Term} {x1 x2 x3 : Int} {r4 t5 : Term}  (k : Q (.inl (some (vi 2)), h, kc, ks))   : wr P d sw_c330 sw_h330 (21, [r0, vi x1, vi x2, vi x3, r4, t5], [], h, kc, ks) Q := by
  refine w_c32 rfl (by decide) 2 (by decide) ?_
  exact w_iret rfl k

theorem k330_25 {P : s_P} {d : Nat} {Q : s_O → Prop} {h : s_H} {kc ks : Nat} {r0 : Term} {x1 x2 x3 : Int} {r4 t5 : Term}  (k : Q (.inl (some (vi 3)), h, kc, ks))   : wr P d sw_c330 sw_h330 (25, [r0, vi x1, vi x2, vi x3, r4, t5], [], h, kc, ks) Q := by
  refine w_c32 rfl (by decide) 3 (by decide) ?_
  exact w_iret rfl k

theorem k330_27 {P : s_P} {d : Nat} {Q : s_O → Prop} {h : s_H} {kc ks : Nat} {r0 : Term} {x1 x2 x3 : Int} {r4 t5 : Term}  (k : Q (.inl (some (vi 0)), h, kc, ks))   : wr P d sw_c330 sw_h330 (27, [r0, vi x1, vi x2, vi x3, r4, t5], [], h, kc, ks) Q := by
  refine w_c32 rfl (by decide) 0 (by decide) ?_
  exact w_iret rfl k

/-! 331: FormulaWorksLaw.common(LFormulaWorks;II[J)I -/
theorem k331_0 {P : s_P} {d : Nat} {Q : s_O → Prop} {h : s_H} {kc ks : Nat} {r0 : Term} {x1 x2 : Int} {r3 t4 : Term} {q3 : Nat} {f4 : List Term} (g5 : s_get h q3 = some (1, 10, f4)) (k : wm P d 12 [.index q3, vi x1, vi x2] h (wq P d sw_c331 sw_h331 8 [.index q3, vi x1, vi x2, r3, t4] [vi 0, r3] kc ks Q)) (e_q3 : r0 = .index q3 := by first | rfl | assumption) (y1 : s_ty r3 = 3 := by first | rfl | assumption) (y2 : s_ty r0 = 3 := by first | rfl | assumption)  : wr P d sw_c331 sw_h331 (0, [r0, vi x1, vi x2, r3, t4], [], h, kc, ks) Q := by
  refine w_ld rfl rfl (Or.inr (Or.inr ⟨by decide, y1⟩)) ?_
  refine w_c32 rfl (by decide) 0 (by decide) ?_
  refine w_ld rfl rfl (Or.inr (Or.inr ⟨by decide, y2⟩)) ?_
  refine w_ld rfl rfl (Or.inl ⟨by decide, rfl⟩) ?_
  refine w_ld rfl rfl (Or.inl ⟨by decide, rfl⟩) ?_
  subst e_q3
  exact w_cv rfl [.index q3, vi x1, vi x2] [vi 0, r3] rfl rfl (s_wt_4 rfl) rfl g5 k

theorem k331_8 {P : s_P} {d : Nat} {Q : s_O → Prop} {h : s_H} {kc ks : Nat} {r0 : Term} {x1 x2 : Int} {r3 t4 s0 : Term} {s1 s2 : Int} {q2 : Nat} {a3 : List Int} (g4 : s_get h q2 = some (0, 1, a3.map vl)) (k : wr P d sw_c331 sw_h331 (25, [r0, vi x1, vi x2, r3, t4], [], (hp h q2 (0, 1, (a3.set (Int.toNat (s1)) s2).map vl)), kc, ks) Q) (e_q2 : s0 = .index q2 := by first | rfl | assumption) (c1 : In3 s2 := by first | omega | assumption | (simp only [mk_len, List.length_map]; omega) | decide) (c5 : s1 < a3.length := by first | omega | assumption | (simp only [mk_len, List.length_map]; omega) | decide) (c6 : 0 ≤ s1 := by first | omega | assumption | (simp only [mk_len, List.length_map]; omega) | decide) (c7 : In3 s1 := by first | omega | assumption | (simp only [mk_len, List.length_map]; omega) | decide) (c8 : 0 < q2 := by first | omega | assumption | (simp only [mk_len, List.length_map]; omega) | decide) : wr P d sw_c331 sw_h331 (8, [r0, vi x1, vi x2, r3, t4], [vi s2, vi s1, s0], h, kc, ks) Q := by
  refine w_i2l rfl c1 ?_
  subst e_q2
  refine w_last rfl g4 (Nat.ble_eq_true_of_le c8) c7 c6 c5 ?_
  refine w_goto rfl ?_
  exact k

theorem k331_15 {P : s_P} {d : Nat} {Q : s_O → Prop} {h : s_H} {kc ks : Nat} {r0 : Term} {x1 x2 : Int} {r3 t4 : Term}  (k : Q (.inl (some (vi 1)), h, kc, ks))   : wr P d sw_c331 sw_h331 (15, [r0, vi x1, vi x2, r3, t4], [], h, kc, ks) Q := by
  refine w_c32 rfl (by decide) 1 (by decide) ?_
  exact w_iret rfl k

theorem k331_19 {P : s_P} {d : Nat} {Q : s_O → Prop} {h : s_H} {kc ks : Nat} {r0 : Term} {x1 x2 : Int} {r3 t4 : Term}  (k : Q (.inl (some (vi 2)), h, kc, ks))   : wr P d sw_c331 sw_h331 (19, [r0, vi x1, vi x2, r3, t4], [], h, kc, ks) Q := by
  refine w_c32 rfl (by decide) 2 (by decide) ?_
  exact w_iret rfl k

theorem k331_23 {P : s_P} {d : Nat} {Q : s_O → Prop} {h : s_H} {kc ks : Nat} {r0 : Term} {x1 x2 : Int} {r3 t4 : Term}  (k : Q (.inl (some (vi 3)), h, kc, ks))   : wr P d sw_c331 sw_h331 (23, [r0, vi x1, vi x2, r3, t4], [], h, kc, ks) Q := by
  refine w_c32 rfl (by decide) 3 (by decide) ?_
  exact w_iret rfl k

theorem k331_25 {P : s_P} {d : Nat} {Q : s_O → Prop} {h : s_H} {kc ks : Nat} {r0 : Term} {x1 x2 : Int} {r3 t4 : Term}  (k : Q (.inl (some (vi 0)), h, kc, ks))   : wr P d sw_c331 sw_h331 (25, [r0, vi x1, vi x2, r3, t4], [], h, kc, ks) Q := by
  refine w_c32 rfl (by decide) 0 (by decide) ?_
  exact w_iret rfl k

/-! 332: FormulaWorksLaw.companion(LFormulaWorks;I[J)I -/
theorem k332_0 {P : s_P} {d : Nat} {Q : s_O → Prop} {h : s_H} {kc ks : Nat} {r0 : Term} {x1 : Int} {r2 t3 : Term} {q3 : Nat} {f4 : List Term} (g5 : s_get h q3 = some (1, 10, f4)) (k : wm P d 13 [.index q3, vi x1] h (wq P d sw_c332 sw_h332 7 [.index q3, vi x1, r2, t3] [vi 0, r2] kc ks Q)) (e_q3 : r0 = .index q3 := by first | rfl | assumption) (y1 : s_ty r2 = 3 := by first | rfl | assumption) (y2 : s_ty r0 = 3 := by first | rfl | assumption)  : wr P d sw_c332 sw_h332 (0, [r0, vi x1, r2, t3], [], h, kc, ks) Q := by
  refine w_ld rfl rfl (Or.inr (Or.inr ⟨by decide, y1⟩)) ?_
  refine w_c32 rfl (by decide) 0 (by decide) ?_
  refine w_ld rfl rfl (Or.inr (Or.inr ⟨by decide, y2⟩)) ?_
  refine w_ld rfl rfl (Or.inl ⟨by decide, rfl⟩) ?_
  subst e_q3
  exact w_cv rfl [.index q3, vi x1] [vi 0, r2] rfl rfl (s_wt_4 rfl) rfl g5 k

theorem k332_7 {P : s_P} {d : Nat} {Q : s_O → Prop} {h : s_H} {kc ks : Nat} {r0 : Term} {x1 : Int} {r2 t3 s0 : Term} {s1 s2 : Int} {q2 : Nat} {a3 : List Int} (g4 : s_get h q2 = some (0, 1, a3.map vl)) (k : wr P d sw_c332 sw_h332 (21, [r0, vi x1, r2, t3], [], (hp h q2 (0, 1, (a3.set (Int.toNat (s1)) s2).map vl)), kc, ks) Q) (e_q2 : s0 = .index q2 := by first | rfl | assumption) (c1 : In3 s2 := by first | omega | assumption | (simp only [mk_len, List.length_map]; omega) | decide) (c5 : s1 < a3.length := by first | omega | assumption | (simp only [mk_len, List.length_map]; omega) | decide) (c6 : 0 ≤ s1 := by first | omega | assumption | (simp only [mk_len, List.length_map]; omega) | decide) (c7 : In3 s1 := by first | omega | assumption | (simp only [mk_len, List.length_map]; omega) | decide) (c8 : 0 < q2 := by first | omega | assumption | (simp only [mk_len, List.length_map]; omega) | decide) : wr P d sw_c332 sw_h332 (7, [r0, vi x1, r2, t3], [vi s2, vi s1, s0], h, kc, ks) Q := by
  refine w_i2l rfl c1 ?_
  subst e_q2
  refine w_last rfl g4 (Nat.ble_eq_true_of_le c8) c7 c6 c5 ?_
  refine w_goto rfl ?_
  exact k

theorem k332_13 {P : s_P} {d : Nat} {Q : s_O → Prop} {h : s_H} {kc ks : Nat} {r0 : Term} {x1 : Int} {r2 t3 : Term}  (k : Q (.inl (some (vi 1)), h, kc, ks))   : wr P d sw_c332 sw_h332 (13, [r0, vi x1, r2, t3], [], h, kc, ks) Q := by
  refine w_c32 rfl (by decide) 1 (by decide) ?_
  exact w_iret rfl k

theorem k332_16 {P : s_P} {d : Nat} {Q : s_O → Prop} {h : s_H} {kc ks : Nat} {r0 : Term} {x1 : Int} {r2 t3 : Term}  (k : Q (.inl (some (vi 2)), h, kc, ks))   : wr P d sw_c332 sw_h332 (16, [r0, vi x1, r2, t3], [], h, kc, ks) Q := by
  refine w_c32 rfl (by decide) 2 (by decide) ?_
  exact w_iret rfl k

theorem k332_19 {P : s_P} {d : Nat} {Q : s_O → Prop} {h : s_H} {kc ks : Nat} {r0 : Term} {x1 : Int} {r2 t3 : Term}  (k : Q (.inl (some (vi 3)), h, kc, ks))   : wr P d sw_c332 sw_h332 (19, [r0, vi x1, r2, t3], [], h, kc, ks) Q := by
  refine w_c32 rfl (by decide) 3 (by decide) ?_
  exact w_iret rfl k

theorem k332_21 {P : s_P} {d : Nat} {Q : s_O → Prop} {h : s_H} {kc ks : Nat} {r0 : Term} {x1 : Int} {r2 t3 : Term}  (k : Q (.inl (some (vi 0)), h, kc, ks))   : wr P d sw_c332 sw_h332 (21, [r0, vi x1, r2, t3], [], h, kc, ks) Q := by
  refine w_c32 rfl (by decide) 0 (by decide) ?_
  exact w_iret rfl k

/-! 333: FormulaWorksLaw.core(LFormulaWorks;I[J)I -/
theorem k333_0 {P : s_P} {d : Nat} {Q : s_O → Prop} {h : s_H} {kc ks : Nat} {r0 : Term} {x1 : Int} {r2 t3 : Term} {q3 : Nat} {f4 : List Term} (g5 : s_get h q3 = some (1, 10, f4)) (k : wm P d 14 [.index q3, vi x1] h (wq P d sw_c333 sw_h333 7 [.index q3, vi x1, r2, t3] [vi 0, r2] kc ks Q)) (e_q3 : r0 = .index q3 := by first | rfl | assumption) (y1 : s_ty r2 = 3 := by first | rfl | assumption) (y2 : s_ty r0 = 3 := by first | rfl | assumption)  : wr P d sw_c333 sw_h333 (0, [r0, vi x1, r2, t3], [], h, kc, ks) Q := by
  refine w_ld rfl rfl (Or.inr (Or.inr ⟨by decide, y1⟩)) ?_
  refine w_c32 rfl (by decide) 0 (by decide) ?_
  refine w_ld rfl rfl (Or.inr (Or.inr ⟨by decide, y2⟩)) ?_
  refine w_ld rfl rfl (Or.inl ⟨by decide, rfl⟩) ?_
  subst e_q3
  exact w_cv rfl [.index q3, vi x1] [vi 0, r2] rfl rfl (s_wt_4 rfl) rfl g5 k

theorem k333_7 {P : s_P} {d : Nat} {Q : s_O → Prop} {h : s_H} {kc ks : Nat} {r0 : Term} {x1 : Int} {r2 t3 s0 : Term} {s1 s2 : Int} {q2 : Nat} {a3 : List Int} (g4 : s_get h q2 = some (0, 1, a3.map vl)) (k : wr P d sw_c333 sw_h333 (21, [r0, vi x1, r2, t3], [], (hp h q2 (0, 1, (a3.set (Int.toNat (s1)) s2).map vl)), kc, ks) Q) (e_q2 : s0 = .index q2 := by first | rfl | assumption) (c1 : In3 s2 := by first | omega | assumption | (simp only [mk_len, List.length_map]; omega) | decide) (c5 : s1 < a3.length := by first | omega | assumption | (simp only [mk_len, List.length_map]; omega) | decide) (c6 : 0 ≤ s1 := by first | omega | assumption | (simp only [mk_len, List.length_map]; omega) | decide) (c7 : In3 s1 := by first | omega | assumption | (simp only [mk_len, List.length_map]; omega) | decide) (c8 : 0 < q2 := by first | omega | assumption | (simp only [mk_len, List.length_map]; omega) | decide) : wr P d sw_c333 sw_h333 (7, [r0, vi x1, r2, t3], [vi s2, vi s1, s0], h, kc, ks) Q := by
  refine w_i2l rfl c1 ?_
  subst e_q2
  refine w_last rfl g4 (Nat.ble_eq_true_of_le c8) c7 c6 c5 ?_
  refine w_goto rfl ?_
  exact k

theorem k333_13 {P : s_P} {d : Nat} {Q : s_O → Prop} {h : s_H} {kc ks : Nat} {r0 : Term} {x1 : Int} {r2 t3 : Term}  (k : Q (.inl (some (vi 1)), h, kc, ks))   : wr P d sw_c333 sw_h333 (13, [r0, vi x1, r2, t3], [], h, kc, ks) Q := by
  refine w_c32 rfl (by decide) 1 (by decide) ?_
  exact w_iret rfl k

theorem k333_16 {P : s_P} {d : Nat} {Q : s_O → Prop} {h : s_H} {kc ks : Nat} {r0 : Term} {x1 : Int} {r2 t3 : Term}  (k : Q (.inl (some (vi 2)), h, kc, ks))   : wr P d sw_c333 sw_h333 (16, [r0, vi x1, r2, t3], [], h, kc, ks) Q := by
  refine w_c32 rfl (by decide) 2 (by decide) ?_
  exact w_iret rfl k

theorem k333_19 {P : s_P} {d : Nat} {Q : s_O → Prop} {h : s_H} {kc ks : Nat} {r0 : Term} {x1 : Int} {r2 t3 : Term}  (k : Q (.inl (some (vi 3)), h, kc, ks))   : wr P d sw_c333 sw_h333 (19, [r0, vi x1, r2, t3], [], h, kc, ks) Q := by
  refine w_c32 rfl (by decide) 3 (by decide) ?_
  exact w_iret rfl k

theorem k333_21 {P : s_P} {d : Nat} {Q : s_O → Prop} {h : s_H} {kc ks : Nat} {r0 : Term} {x1 : Int} {r2 t3 : Term}  (k : Q (.inl (some (vi 0)), h, kc, ks))   : wr P d sw_c333 sw_h333 (21, [r0, vi x1, r2, t3], [], h, kc, ks) Q := by
  refine w_c32 rfl (by decide) 0 (by decide) ?_
  exact w_iret rfl k

/-! 334: FormulaWorksLaw.degree(LFormulaWorks;II[J)I -/
theorem k334_0 {P : s_P} {d : Nat} {Q : s_O → Prop} {h : s_H} {kc ks : Nat} {r0 : Term} {x1 x2 : Int} {r3 t4 : Term} {q3 : Nat} {f4 : List Term} (g5 : s_get h q3 = some (1, 10, f4)) (k : wm P d 16 [.index q3, vi x1, vi x2] h (wq P d sw_c334 sw_h334 8 [.index q3, vi x1, vi x2, r3, t4] [vi 0, r3] kc ks Q)) (e_q3 : r0 = .index q3 := by first | rfl | assumption) (y1 : s_ty r3 = 3 := by first | rfl | assumption) (y2 : s_ty r0 = 3 := by first | rfl | assumption)  : wr P d sw_c334 sw_h334 (0, [r0, vi x1, vi x2, r3, t4], [], h, kc, ks) Q := by
  refine w_ld rfl rfl (Or.inr (Or.inr ⟨by decide, y1⟩)) ?_
  refine w_c32 rfl (by decide) 0 (by decide) ?_
  refine w_ld rfl rfl (Or.inr (Or.inr ⟨by decide, y2⟩)) ?_
  refine w_ld rfl rfl (Or.inl ⟨by decide, rfl⟩) ?_
  refine w_ld rfl rfl (Or.inl ⟨by decide, rfl⟩) ?_
  subst e_q3
  exact w_cv rfl [.index q3, vi x1, vi x2] [vi 0, r3] rfl rfl (s_wt_4 rfl) rfl g5 k

theorem k334_8 {P : s_P} {d : Nat} {Q : s_O → Prop} {h : s_H} {kc ks : Nat} {r0 : Term} {x1 x2 : Int} {r3 t4 s0 : Term} {s1 s2 : Int} {q2 : Nat} {a3 : List Int} (g4 : s_get h q2 = some (0, 1, a3.map vl)) (k : wr P d sw_c334 sw_h334 (21, [r0, vi x1, vi x2, r3, t4], [], (hp h q2 (0, 1, (a3.set (Int.toNat (s1)) s2).map vl)), kc, ks) Q) (e_q2 : s0 = .index q2 := by first | rfl | assumption) (c1 : In3 s2 := by first | omega | assumption | (simp only [mk_len, List.length_map]; omega) | decide) (c5 : s1 < a3.length := by first | omega | assumption | (simp only [mk_len, List.length_map]; omega) | decide) (c6 : 0 ≤ s1 := by first | omega | assumption | (simp only [mk_len, List.length_map]; omega) | decide) (c7 : In3 s1 := by first | omega | assumption | (simp only [mk_len, List.length_map]; omega) | decide) (c8 : 0 < q2 := by first | omega | assumption | (simp only [mk_len, List.length_map]; omega) | decide) : wr P d sw_c334 sw_h334 (8, [r0, vi x1, vi x2, r3, t4], [vi s2, vi s1, s0], h, kc, ks) Q := by
  refine w_i2l rfl c1 ?_
  subst e_q2
  refine w_last rfl g4 (Nat.ble_eq_true_of_le c8) c7 c6 c5 ?_
  refine w_goto rfl ?_
  exact k

theorem k334_15 {P : s_P} {d : Nat} {Q : s_O → Prop} {h : s_H} {kc ks : Nat} {r0 : Term} {x1 x2 : Int} {r3 t4 : Term}  (k : Q (.inl (some (vi 1)), h, kc, ks))   : wr P d sw_c334 sw_h334 (15, [r0, vi x1, vi x2, r3, t4], [], h, kc, ks) Q := by
  refine w_c32 rfl (by decide) 1 (by decide) ?_
  exact w_iret rfl k

theorem k334_19 {P : s_P} {d : Nat} {Q : s_O → Prop} {h : s_H} {kc ks : Nat} {r0 : Term} {x1 x2 : Int} {r3 t4 : Term}  (k : Q (.inl (some (vi 2)), h, kc, ks))   : wr P d sw_c334 sw_h334 (19, [r0, vi x1, vi x2, r3, t4], [], h, kc, ks) Q := by
  refine w_c32 rfl (by decide) 2 (by decide) ?_
  exact w_iret rfl k

theorem k334_21 {P : s_P} {d : Nat} {Q : s_O → Prop} {h : s_H} {kc ks : Nat} {r0 : Term} {x1 x2 : Int} {r3 t4 : Term}  (k : Q (.inl (some (vi 0)), h, kc, ks))   : wr P d sw_c334 sw_h334 (21, [r0, vi x1, vi x2, r3, t4], [], h, kc, ks) Q := by
  refine w_c32 rfl (by decide) 0 (by decide) ?_
  exact w_iret rfl k

/-! 335: FormulaWorksLaw.derive(LFormulaWorks;I[J)I -/
theorem k335_0 {P : s_P} {d : Nat} {Q : s_O → Prop} {h : s_H} {kc ks : Nat} {r0 : Term} {x1 : Int} {r2 t3 : Term} {q3 : Nat} {f4 : List Term} (g5 : s_get h q3 = some (1, 10, f4)) (k : wm P d 17 [.index q3, vi x1] h (wq P d sw_c335 sw_h335 7 [.index q3, vi x1, r2, t3] [vi 0, r2] kc ks Q)) (e_q3 : r0 = .index q3 := by first | rfl | assumption) (y1 : s_ty r2 = 3 := by first | rfl | assumption) (y2 : s_ty r0 = 3 := by first | rfl | assumption)  : wr P d sw_c335 sw_h335 (0, [r0, vi x1, r2, t3], [], h, kc, ks) Q := by
  refine w_ld rfl rfl (Or.inr (Or.inr ⟨by decide, y1⟩)) ?_
  refine w_c32 rfl (by decide) 0 (by decide) ?_
  refine w_ld rfl rfl (Or.inr (Or.inr ⟨by decide, y2⟩)) ?_
  refine w_ld rfl rfl (Or.inl ⟨by decide, rfl⟩) ?_
  subst e_q3
  exact w_cv rfl [.index q3, vi x1] [vi 0, r2] rfl rfl (s_wt_4 rfl) rfl g5 k

theorem k335_7 {P : s_P} {d : Nat} {Q : s_O → Prop} {h : s_H} {kc ks : Nat} {r0 : Term} {x1 : Int} {r2 t3 s0 : Term} {s1 s2 : Int} {q2 : Nat} {a3 : List Int} (g4 : s_get h q2 = some (0, 1, a3.map vl)) (k : wr P d sw_c335 sw_h335 (21, [r0, vi x1, r2, t3], [], (hp h q2 (0, 1, (a3.set (Int.toNat (s1)) s2).map vl)), kc, ks) Q) (e_q2 : s0 = .index q2 := by first | rfl | assumption) (c1 : In3 s2 := by first | omega | assumption | (simp only [mk_len, List.length_map]; omega) | decide) (c5 : s1 < a3.length := by first | omega | assumption | (simp only [mk_len, List.length_map]; omega) | decide) (c6 : 0 ≤ s1 := by first | omega | assumption | (simp only [mk_len, List.length_map]; omega) | decide) (c7 : In3 s1 := by first | omega | assumption | (simp only [mk_len, List.length_map]; omega) | decide) (c8 : 0 < q2 := by first | omega | assumption | (simp only [mk_len, List.length_map]; omega) | decide) : wr P d sw_c335 sw_h335 (7, [r0, vi x1, r2, t3], [vi s2, vi s1, s0], h, kc, ks) Q := by
  refine w_i2l rfl c1 ?_
  subst e_q2
  refine w_last rfl g4 (Nat.ble_eq_true_of_le c8) c7 c6 c5 ?_
  refine w_goto rfl ?_
  exact k

theorem k335_13 {P : s_P} {d : Nat} {Q : s_O → Prop} {h : s_H} {kc ks : Nat} {r0 : Term} {x1 : Int} {r2 t3 : Term}  (k : Q (.inl (some (vi 1)), h, kc, ks))   : wr P d sw_c335 sw_h335 (13, [r0, vi x1, r2, t3], [], h, kc, ks) Q := by
  refine w_c32 rfl (by decide) 1 (by decide) ?_
  exact w_iret rfl k

theorem k335_16 {P : s_P} {d : Nat} {Q : s_O → Prop} {h : s_H} {kc ks : Nat} {r0 : Term} {x1 : Int} {r2 t3 : Term}  (k : Q (.inl (some (vi 2)), h, kc, ks))   : wr P d sw_c335 sw_h335 (16, [r0, vi x1, r2, t3], [], h, kc, ks) Q := by
  refine w_c32 rfl (by decide) 2 (by decide) ?_
  exact w_iret rfl k

theorem k335_19 {P : s_P} {d : Nat} {Q : s_O → Prop} {h : s_H} {kc ks : Nat} {r0 : Term} {x1 : Int} {r2 t3 : Term}  (k : Q (.inl (some (vi 3)), h, kc, ks))   : wr P d sw_c335 sw_h335 (19, [r0, vi x1, r2, t3], [], h, kc, ks) Q := by
  refine w_c32 rfl (by decide) 3 (by decide) ?_
  exact w_iret rfl k

theorem k335_21 {P : s_P} {d : Nat} {Q : s_O → Prop} {h : s_H} {kc ks : Nat} {r0 : Term} {x1 : Int} {r2 t3 : Term}  (k : Q (.inl (some (vi 0)), h, kc, ks))   : wr P d sw_c335 sw_h335 (21, [r0, vi x1, r2, t3], [], h, kc, ks) Q := by
  refine w_c32 rfl (by decide) 0 (by decide) ?_
  exact w_iret rfl k

/-! 336: FormulaWorksLaw.determinant(LFormulaWorks;I[J)I -/
theorem k336_0 {P : s_P} {d : Nat} {Q : s_O → Prop} {h : s_H} {kc ks : Nat} {r0 : Term} {x1 : Int} {r2 t3 : Term} {q3 : Nat} {f4 : List Term} (g5 : s_get h q3 = some (1, 10, f4)) (k : wm P d 18 [.index q3, vi x1] h (wq P d sw_c336 sw_h336 7 [.index q3, vi x1, r2, t3] [vi 0, r2] kc ks Q)) (e_q3 : r0 = .index q3 := by first | rfl | assumption) (y1 : s_ty r2 = 3 := by first | rfl | assumption) (y2 : s_ty r0 = 3 := by first | rfl | assumption)  : wr P d sw_c336 sw_h336 (0, [r0, vi x1, r2, t3], [], h, kc, ks) Q := by
  refine w_ld rfl rfl (Or.inr (Or.inr ⟨by decide, y1⟩)) ?_
  refine w_c32 rfl (by decide) 0 (by decide) ?_
  refine w_ld rfl rfl (Or.inr (Or.inr ⟨by decide, y2⟩)) ?_
  refine w_ld rfl rfl (Or.inl ⟨by decide, rfl⟩) ?_
  subst e_q3
  exact w_cv rfl [.index q3, vi x1] [vi 0, r2] rfl rfl (s_wt_4 rfl) rfl g5 k

theorem k336_7 {P : s_P} {d : Nat} {Q : s_O → Prop} {h : s_H} {kc ks : Nat} {r0 : Term} {x1 : Int} {r2 t3 s0 : Term} {s1 s2 : Int} {q2 : Nat} {a3 : List Int} (g4 : s_get h q2 = some (0, 1, a3.map vl)) (k : wr P d sw_c336 sw_h336 (21, [r0, vi x1, r2, t3], [], (hp h q2 (0, 1, (a3.set (Int.toNat (s1)) s2).map vl)), kc, ks) Q) (e_q2 : s0 = .index q2 := by first | rfl | assumption) (c1 : In3 s2 := by first | omega | assumption | (simp only [mk_len, List.length_map]; omega) | decide) (c5 : s1 < a3.length := by first | omega | assumption | (simp only [mk_len, List.length_map]; omega) | decide) (c6 : 0 ≤ s1 := by first | omega | assumption | (simp only [mk_len, List.length_map]; omega) | decide) (c7 : In3 s1 := by first | omega | assumption | (simp only [mk_len, List.length_map]; omega) | decide) (c8 : 0 < q2 := by first | omega | assumption | (simp only [mk_len, List.length_map]; omega) | decide) : wr P d sw_c336 sw_h336 (7, [r0, vi x1, r2, t3], [vi s2, vi s1, s0], h, kc, ks) Q := by
  refine w_i2l rfl c1 ?_
  subst e_q2
  refine w_last rfl g4 (Nat.ble_eq_true_of_le c8) c7 c6 c5 ?_
  refine w_goto rfl ?_
  exact k

theorem k336_13 {P : s_P} {d : Nat} {Q : s_O → Prop} {h : s_H} {kc ks : Nat} {r0 : Term} {x1 : Int} {r2 t3 : Term}  (k : Q (.inl (some (vi 1)), h, kc, ks))   : wr P d sw_c336 sw_h336 (13, [r0, vi x1, r2, t3], [], h, kc, ks) Q := by
  refine w_c32 rfl (by decide) 1 (by decide) ?_
  exact w_iret rfl k

theorem k336_16 {P : s_P} {d : Nat} {Q : s_O → Prop} {h : s_H} {kc ks : Nat} {r0 : Term} {x1 : Int} {r2 t3 : Term}  (k : Q (.inl (some (vi 2)), h, kc, ks))   : wr P d sw_c336 sw_h336 (16, [r0, vi x1, r2, t3], [], h, kc, ks) Q := by
  refine w_c32 rfl (by decide) 2 (by decide) ?_
  exact w_iret rfl k

theorem k336_19 {P : s_P} {d : Nat} {Q : s_O → Prop} {h : s_H} {kc ks : Nat} {r0 : Term} {x1 : Int} {r2 t3 : Term}  (k : Q (.inl (some (vi 3)), h, kc, ks))   : wr P d sw_c336 sw_h336 (19, [r0, vi x1, r2, t3], [], h, kc, ks) Q := by
  refine w_c32 rfl (by decide) 3 (by decide) ?_
  exact w_iret rfl k

theorem k336_21 {P : s_P} {d : Nat} {Q : s_O → Prop} {h : s_H} {kc ks : Nat} {r0 : Term} {x1 : Int} {r2 t3 : Term}  (k : Q (.inl (some (vi 0)), h, kc, ks))   : wr P d sw_c336 sw_h336 (21, [r0, vi x1, r2, t3], [], h, kc, ks) Q := by
  refine w_c32 rfl (by decide) 0 (by decide) ?_
  exact w_iret rfl k

/-! 337: FormulaWorksLaw.divided(LFormulaWorks;III[J)I -/
theorem k337_0 {P : s_P} {d : Nat} {Q : s_O → Prop} {h : s_H} {kc ks : Nat} {r0 : Term} {x1 x2 x3 : Int} {r4 t5 : Term} {q3 : Nat} {f4 : List Term} (g5 : s_get h q3 = some (1, 10, f4)) (k : wm P d 19 [.index q3, vi x1, vi x2, vi x3] h (wq P d sw_c337 sw_h337 10 [.index q3, vi x1, vi x2, vi x3, r4, t5] [vi 0, r4] kc ks Q)) (e_q3 : r0 = .index q3 := by first | rfl | assumption) (y1 : s_ty r4 = 3 := by first | rfl | assumption) (y2 : s_ty r0 = 3 := by first | rfl | assumption)  : wr P d sw_c337 sw_h337 (0, [r0, vi x1, vi x2, vi x3, r4, t5], [], h, kc, ks) Q := by
  refine w_ld rfl rfl (Or.inr (Or.inr ⟨by decide, y1⟩)) ?_
  refine w_c32 rfl (by decide) 0 (by decide) ?_
  refine w_ld rfl rfl (Or.inr (Or.inr ⟨by decide, y2⟩)) ?_
  refine w_ld rfl rfl (Or.inl ⟨by decide, rfl⟩) ?_
  refine w_ld rfl rfl (Or.inl ⟨by decide, rfl⟩) ?_
  refine w_ld rfl rfl (Or.inl ⟨by decide, rfl⟩) ?_
  subst e_q3
  exact w_cv rfl [.index q3, vi x1, vi x2, vi x3] [vi 0, r4] rfl rfl (s_wt_4 rfl) rfl g5 k

theorem k337_10 {P : s_P} {d : Nat} {Q : s_O → Prop} {h : s_H} {kc ks : Nat} {r0 : Term} {x1 x2 x3 : Int} {r4 t5 s0 : Term} {s1 s2 : Int} {q2 : Nat} {a3 : List Int} (g4 : s_get h q2 = some (0, 1, a3.map vl)) (k : wr P d sw_c337 sw_h337 (31, [r0, vi x1, vi x2, vi x3, r4, t5], [], (hp h q2 (0, 1, (a3.set (Int.toNat (s1)) s2).map vl)), kc, ks) Q) (e_q2 : s0 = .index q2 := by first | rfl | assumption) (c1 : In3 s2 := by first | omega | assumption | (simp only [mk_len, List.length_map]; omega) | decide) (c5 : s1 < a3.length := by first | omega | assumption | (simp only [mk_len, List.length_map]; omega) | decide) (c6 : 0 ≤ s1 := by first | omega | assumption | (simp only [mk_len, List.length_map]; omega) | decide) (c7 : In3 s1 := by first | omega | assumption | (simp only [mk_len, List.length_map]; omega) | decide) (c8 : 0 < q2 := by first | omega | assumption | (simp only [mk_len, List.length_map]; omega) | decide) : wr P d sw_c337 sw_h337 (10, [r0, vi x1, vi x2, vi x3, r4, t5], [vi s2, vi s1, s0], h, kc, ks) Q := by
  refine w_i2l rfl c1 ?_
  subst e_q2
  refine w_last rfl g4 (Nat.ble_eq_true_of_le c8) c7 c6 c5 ?_
  refine w_goto rfl ?_
  exact k

theorem k337_17 {P : s_P} {d : Nat} {Q : s_O → Prop} {h : s_H} {kc ks : Nat} {r0 : Term} {x1 x2 x3 : Int} {r4 t5 : Term}  (k : Q (.inl (some (vi 1)), h, kc, ks))   : wr P d sw_c337 sw_h337 (17, [r0, vi x1, vi x2, vi x3, r4, t5], [], h, kc, ks) Q := by
  refine w_c32 rfl (by decide) 1 (by decide) ?_
  exact w_iret rfl k

theorem k337_21 {P : s_P} {d : Nat} {Q : s_O → Prop} {h : s_H} {kc ks : Nat} {r0 : Term} {x1 x2 x3 : Int} {r4 t5 : Term}  (k : Q (.inl (some (vi 2)), h, kc, ks))   : wr P d sw_c337 sw_h337 (21, [r0, vi x1, vi x2, vi x3, r4, t5], [], h, kc, ks) Q := by
  refine w_c32 rfl (by decide) 2 (by decide) ?_
  exact w_iret rfl k

theorem k337_25 {P : s_P} {d : Nat} {Q : s_O → Prop} {h : s_H} {kc ks : Nat} {r0 : Term} {x1 x2 x3 : Int} {r4 t5 : Term}  (k : Q (.inl (some (vi 3)), h, kc, ks))   : wr P d sw_c337 sw_h337 (25, [r0, vi x1, vi x2, vi x3, r4, t5], [], h, kc, ks) Q := by
  refine w_c32 rfl (by decide) 3 (by decide) ?_
  exact w_iret rfl k

theorem k337_29 {P : s_P} {d : Nat} {Q : s_O → Prop} {h : s_H} {kc ks : Nat} {r0 : Term} {x1 x2 x3 : Int} {r4 t5 : Term}  (k : Q (.inl (some (vi 4)), h, kc, ks))   : wr P d sw_c337 sw_h337 (29, [r0, vi x1, vi x2, vi x3, r4, t5], [], h, kc, ks) Q := by
  refine w_c32 rfl (by decide) 4 (by decide) ?_
  exact w_iret rfl k

theorem k337_31 {P : s_P} {d : Nat} {Q : s_O → Prop} {h : s_H} {kc ks : Nat} {r0 : Term} {x1 x2 x3 : Int} {r4 t5 : Term}  (k : Q (.inl (some (vi 0)), h, kc, ks))   : wr P d sw_c337 sw_h337 (31, [r0, vi x1, vi x2, vi x3, r4, t5], [], h, kc, ks) Q := by
  refine w_c32 rfl (by decide) 0 (by decide) ?_
  exact w_iret rfl k

/-! 338: FormulaWorksLaw.enter(LFormulaWorks;I[J)I -/
theorem k338_0 {P : s_P} {d : Nat} {Q : s_O → Prop} {h : s_H} {kc ks : Nat} {r0 : Term} {x1 : Int} {r2 t3 : Term} {q3 : Nat} {f4 : List Term} (g5 : s_get h q3 = some (1, 10, f4)) (k : wm P d 20 [.index q3, vi x1] h (wq P d sw_c338 sw_h338 7 [.index q3, vi x1, r2, t3] [vi 0, r2] kc ks Q)) (e_q3 : r0 = .index q3 := by first | rfl | assumption) (y1 : s_ty r2 = 3 := by first | rfl | assumption) (y2 : s_ty r0 = 3 := by first | rfl | assumption)  : wr P d sw_c338 sw_h338 (0, [r0, vi x1, r2, t3], [], h, kc, ks) Q := by
  refine w_ld rfl rfl (Or.inr (Or.inr ⟨by decide, y1⟩)) ?_
  refine w_c32 rfl (by decide) 0 (by decide) ?_
  refine w_ld rfl rfl (Or.inr (Or.inr ⟨by decide, y2⟩)) ?_
  refine w_ld rfl rfl (Or.inl ⟨by decide, rfl⟩) ?_
  subst e_q3
  exact w_cv rfl [.index q3, vi x1] [vi 0, r2] rfl rfl (s_wt_4 rfl) rfl g5 k

theorem k338_7 {P : s_P} {d : Nat} {Q : s_O → Prop} {h : s_H} {kc ks : Nat} {r0 : Term} {x1 : Int} {r2 t3 s0 : Term} {s1 s2 : Int} {q2 : Nat} {a3 : List Int} (g4 : s_get h q2 = some (0, 1, a3.map vl)) (k : wr P d sw_c338 sw_h338 (18, [r0, vi x1, r2, t3], [], (hp h q2 (0, 1, (a3.set (Int.toNat (s1)) s2).map vl)), kc, ks) Q) (e_q2 : s0 = .index q2 := by first | rfl | assumption) (c1 : In3 s2 := by first | omega | assumption | (simp only [mk_len, List.length_map]; omega) | decide) (c5 : s1 < a3.length := by first | omega | assumption | (simp only [mk_len, List.length_map]; omega) | decide) (c6 : 0 ≤ s1 := by first | omega | assumption | (simp only [mk_len, List.length_map]; omega) | decide) (c7 : In3 s1 := by first | omega | assumption | (simp only [mk_len, List.length_map]; omega) | decide) (c8 : 0 < q2 := by first | omega | assumption | (simp only [mk_len, List.length_map]; omega) | decide) : wr P d sw_c338 sw_h338 (7, [r0, vi x1, r2, t3], [vi s2, vi s1, s0], h, kc, ks) Q := by
  refine w_i2l rfl c1 ?_
  subst e_q2
  refine w_last rfl g4 (Nat.ble_eq_true_of_le c8) c7 c6 c5 ?_
  refine w_goto rfl ?_
  exact k

theorem k338_13 {P : s_P} {d : Nat} {Q : s_O → Prop} {h : s_H} {kc ks : Nat} {r0 : Term} {x1 : Int} {r2 t3 : Term}  (k : Q (.inl (some (vi 1)), h, kc, ks))   : wr P d sw_c338 sw_h338 (13, [r0, vi x1, r2, t3], [], h, kc, ks) Q := by
  refine w_c32 rfl (by decide) 1 (by decide) ?_
  exact w_iret rfl k

theorem k338_16 {P : s_P} {d : Nat} {Q : s_O → Prop} {h : s_H} {kc ks : Nat} {r0 : Term} {x1 : Int} {r2 t3 : Term}  (k : Q (.inl (some (vi 2)), h, kc, ks))   : wr P d sw_c338 sw_h338 (16, [r0, vi x1, r2, t3], [], h, kc, ks) Q := by
  refine w_c32 rfl (by decide) 2 (by decide) ?_
  exact w_iret rfl k

theorem k338_18 {P : s_P} {d : Nat} {Q : s_O → Prop} {h : s_H} {kc ks : Nat} {r0 : Term} {x1 : Int} {r2 t3 : Term}  (k : Q (.inl (some (vi 0)), h, kc, ks))   : wr P d sw_c338 sw_h338 (18, [r0, vi x1, r2, t3], [], h, kc, ks) Q := by
  refine w_c32 rfl (by decide) 0 (by decide) ?_
  exact w_iret rfl k

/-! 339: FormulaWorksLaw.entry(LFormulaWorks;III[J)I -/
theorem k339_0 {P : s_P} {d : Nat} {Q : s_O → Prop} {h : s_H} {kc ks : Nat} {r0 : Term} {x1 x2 x3 : Int} {r4 t5 : Term} {q3 : Nat} {f4 : List Term} (g5 : s_get h q3 = some (1, 10, f4)) (k : wm P d 21 [.index q3, vi x1, vi x2, vi x3] h (wq P d sw_c339 sw_h339 10 [.index q3, vi x1, vi x2, vi x3, r4, t5] [vi 0, r4] kc ks Q)) (e_q3 : r0 = .index q3 := by first | rfl | assumption) (y1 : s_ty r4 = 3 := by first | rfl | assumption) (y2 : s_ty r0 = 3 := by first | rfl | assumption)  : wr P d sw_c339 sw_h339 (0, [r0, vi x1, vi x2, vi x3, r4, t5], [], h, kc, ks) Q := by
  refine w_ld rfl rfl (Or.inr (Or.inr ⟨by decide, y1⟩)) ?_
  refine w_c32 rfl (by decide) 0 (by decide) ?_
  refine w_ld rfl rfl (Or.inr (Or.inr ⟨by decide, y2⟩)) ?_
  refine w_ld rfl rfl (Or.inl ⟨by decide, rfl⟩) ?_
  refine w_ld rfl rfl (Or.inl ⟨by decide, rfl⟩) ?_
  refine w_ld rfl rfl (Or.inl ⟨by decide, rfl⟩) ?_
  subst e_q3
  exact w_cv rfl [.index q3, vi x1, vi x2, vi x3] [vi 0, r4] rfl rfl (s_wt_4 rfl) rfl g5 k

theorem k339_10 {P : s_P} {d : Nat} {Q : s_O → Prop} {h : s_H} {kc ks : Nat} {r0 : Term} {x1 x2 x3 : Int} {r4 t5 s0 : Term} {s1 s2 : Int} {q2 : Nat} {a3 : List Int} (g4 : s_get h q2 = some (0, 1, a3.map vl)) (k : wr P d sw_c339 sw_h339 (27, [r0, vi x1, vi x2, vi x3, r4, t5], [], (hp h q2 (0, 1, (a3.set (Int.toNat (s1)) s2).map vl)), kc, ks) Q) (e_q2 : s0 = .index q2 := by first | rfl | assumption) (c1 : In3 s2 := by first | omega | assumption | (simp only [mk_len, List.length_map]; omega) | decide) (c5 : s1 < a3.length := by first | omega | assumption | (simp only [mk_len, List.length_map]; omega) | decide) (c6 : 0 ≤ s1 := by first | omega | assumption | (simp only [mk_len, List.length_map]; omega) | decide) (c7 : In3 s1 := by first | omega | assumption | (simp only [mk_len, List.length_map]; omega) | decide) (c8 : 0 < q2 := by first | omega | assumption | (simp only [mk_len, List.length_map]; omega) | decide) : wr P d sw_c339 sw_h339 (10, [r0, vi x1, vi x2, vi x3, r4, t5], [vi s2, vi s1, s0], h, kc, ks) Q := by
  refine w_i2l rfl c1 ?_
  subst e_q2
  refine w_last rfl g4 (Nat.ble_eq_true_of_le c8) c7 c6 c5 ?_
  refine w_goto rfl ?_
  exact k

theorem k339_17 {P : s_P} {d : Nat} {Q : s_O → Prop} {h : s_H} {kc ks : Nat} {r0 : Term} {x1 x2 x3 : Int} {r4 t5 : Term}  (k : Q (.inl (some (vi 1)), h, kc, ks))   : wr P d sw_c339 sw_h339 (17, [r0, vi x1, vi x2, vi x3, r4, t5], [], h, kc, ks) Q := by
  refine w_c32 rfl (by decide) 1 (by decide) ?_
  exact w_iret rfl k

theorem k339_21 {P : s_P} {d : Nat} {Q : s_O → Prop} {h : s_H} {kc ks : Nat} {r0 : Term} {x1 x2 x3 : Int} {r4 t5 : Term}  (k : Q (.inl (some (vi 2)), h, kc, ks))   : wr P d sw_c339 sw_h339 (21, [r0, vi x1, vi x2, vi x3, r4, t5], [], h, kc, ks) Q := by
  refine w_c32 rfl (by decide) 2 (by decide) ?_
  exact w_iret rfl k

theorem k339_25 {P : s_P} {d : Nat} {Q : s_O → Prop} {h : s_H} {kc ks : Nat} {r0 : Term} {x1 x2 x3 : Int} {r4 t5 : Term}  (k : Q (.inl (some (vi 3)), h, kc, ks))   : wr P d sw_c339 sw_h339 (25, [r0, vi x1, vi x2, vi x3, r4, t5], [], h, kc, ks) Q := by
  refine w_c32 rfl (by decide) 3 (by decide) ?_
  exact w_iret rfl k

theorem k339_27 {P : s_P} {d : Nat} {Q : s_O → Prop} {h : s_H} {kc ks : Nat} {r0 : Term} {x1 x2 x3 : Int} {r4 t5 : Term}  (k : Q (.inl (some (vi 0)), h, kc, ks))   : wr P d sw_c339 sw_h339 (27, [r0, vi x1, vi x2, vi x3, r4, t5], [], h, kc, ks) Q := by
  refine w_c32 rfl (by decide) 0 (by decide) ?_
  exact w_iret rfl k

/-! 340: FormulaWorksLaw.exponential(LFormulaWorks;I[J)I -/
theorem k340_0 {P : s_P} {d : Nat} {Q : s_O → Prop} {h : s_H} {kc ks : Nat} {r0 : Term} {x1 : Int} {r2 t3 : Term} {q3 : Nat} {f4 : List Term} (g5 : s_get h q3 = some (1, 10, f4)) (k : wm P d 22 [.index q3, vi x1] h (wq P d sw_c340 sw_h340 7 [.index q3, vi x1, r2, t3] [vi 0, r2] kc ks Q)) (e_q3 : r0 = .index q3 := by first | rfl | assumption) (y1 : s_ty r2 = 3 := by first | rfl | assumption) (y2 : s_ty r0 = 3 := by first | rfl | assumption)  : wr P d sw_c340 sw_h340 (0, [r0, vi x1, r2, t3], [], h, kc, ks) Q := by
  refine w_ld rfl rfl (Or.inr (Or.inr ⟨by decide, y1⟩)) ?_
  refine w_c32 rfl (by decide) 0 (by decide) ?_
  refine w_ld rfl rfl (Or.inr (Or.inr ⟨by decide, y2⟩)) ?_
  refine w_ld rfl rfl (Or.inl ⟨by decide, rfl⟩) ?_
  subst e_q3
  exact w_cv rfl [.index q3, vi x1] [vi 0, r2] rfl rfl (s_wt_4 rfl) rfl g5 k

theorem k340_7 {P : s_P} {d : Nat} {Q : s_O → Prop} {h : s_H} {kc ks : Nat} {r0 : Term} {x1 : Int} {r2 t3 s0 : Term} {s1 s2 : Int} {q2 : Nat} {a3 : List Int} (g4 : s_get h q2 = some (0, 1, a3.map vl)) (k : wr P d sw_c340 sw_h340 (21, [r0, vi x1, r2, t3], [], (hp h q2 (0, 1, (a3.set (Int.toNat (s1)) s2).map vl)), kc, ks) Q) (e_q2 : s0 = .index q2 := by first | rfl | assumption) (c1 : In3 s2 := by first | omega | assumption | (simp only [mk_len, List.length_map]; omega) | decide) (c5 : s1 < a3.length := by first | omega | assumption | (simp only [mk_len, List.length_map]; omega) | decide) (c6 : 0 ≤ s1 := by first | omega | assumption | (simp only [mk_len, List.length_map]; omega) | decide) (c7 : In3 s1 := by first | omega | assumption | (simp only [mk_len, List.length_map]; omega) | decide) (c8 : 0 < q2 := by first | omega | assumption | (simp only [mk_len, List.length_map]; omega) | decide) : wr P d sw_c340 sw_h340 (7, [r0, vi x1, r2, t3], [vi s2, vi s1, s0], h, kc, ks) Q := by
  refine w_i2l rfl c1 ?_
  subst e_q2
  refine w_last rfl g4 (Nat.ble_eq_true_of_le c8) c7 c6 c5 ?_
  refine w_goto rfl ?_
  exact k

theorem k340_13 {P : s_P} {d : Nat} {Q : s_O → Prop} {h : s_H} {kc ks : Nat} {r0 : Term} {x1 : Int} {r2 t3 : Term}  (k : Q (.inl (some (vi 1)), h, kc, ks))   : wr P d sw_c340 sw_h340 (13, [r0, vi x1, r2, t3], [], h, kc, ks) Q := by
  refine w_c32 rfl (by decide) 1 (by decide) ?_
  exact w_iret rfl k

theorem k340_16 {P : s_P} {d : Nat} {Q : s_O → Prop} {h : s_H} {kc ks : Nat} {r0 : Term} {x1 : Int} {r2 t3 : Term}  (k : Q (.inl (some (vi 2)), h, kc, ks))   : wr P d sw_c340 sw_h340 (16, [r0, vi x1, r2, t3], [], h, kc, ks) Q := by
  refine w_c32 rfl (by decide) 2 (by decide) ?_
  exact w_iret rfl k

theorem k340_19 {P : s_P} {d : Nat} {Q : s_O → Prop} {h : s_H} {kc ks : Nat} {r0 : Term} {x1 : Int} {r2 t3 : Term}  (k : Q (.inl (some (vi 3)), h, kc, ks))   : wr P d sw_c340 sw_h340 (19, [r0, vi x1, r2, t3], [], h, kc, ks) Q := by
  refine w_c32 rfl (by decide) 3 (by decide) ?_
  exact w_iret rfl k

theorem k340_21 {P : s_P} {d : Nat} {Q : s_O → Prop} {h : s_H} {kc ks : Nat} {r0 : Term} {x1 : Int} {r2 t3 : Term}  (k : Q (.inl (some (vi 0)), h, kc, ks))   : wr P d sw_c340 sw_h340 (21, [r0, vi x1, r2, t3], [], h, kc, ks) Q := by
  refine w_c32 rfl (by decide) 0 (by decide) ?_
  exact w_iret rfl k

/-! 341: FormulaWorksLaw.factor(LFormulaWorks;II[J)I -/
theorem k341_0 {P : s_P} {d : Nat} {Q : s_O → Prop} {h : s_H} {kc ks : Nat} {r0 : Term} {x1 x2 : Int} {r3 t4 : Term} {q3 : Nat} {f4 : List Term} (g5 : s_get h q3 = some (1, 10, f4)) (k : wm P d 23 [.index q3, vi x1, vi x2] h (wq P d sw_c341 sw_h341 8 [.index q3, vi x1, vi x2, r3, t4] [vi 0, r3] kc ks Q)) (e_q3 : r0 = .index q3 := by first | rfl | assumption) (y1 : s_ty r3 = 3 := by first | rfl | assumption) (y2 : s_ty r0 = 3 := by first | rfl | assumption)  : wr P d sw_c341 sw_h341 (0, [r0, vi x1, vi x2, r3, t4], [], h, kc, ks) Q := by
  refine w_ld rfl rfl (Or.inr (Or.inr ⟨by decide, y1⟩)) ?_
  refine w_c32 rfl (by decide) 0 (by decide) ?_
  refine w_ld rfl rfl (Or.inr (Or.inr ⟨by decide, y2⟩)) ?_
  refine w_ld rfl rfl (Or.inl ⟨by decide, rfl⟩) ?_
  refine w_ld rfl rfl (Or.inl ⟨by decide, rfl⟩) ?_
  subst e_q3
  exact w_cv rfl [.index q3, vi x1, vi x2] [vi 0, r3] rfl rfl (s_wt_4 rfl) rfl g5 k

theorem k341_8 {P : s_P} {d : Nat} {Q : s_O → Prop} {h : s_H} {kc ks : Nat} {r0 : Term} {x1 x2 : Int} {r3 t4 s0 : Term} {s1 s2 : Int} {q2 : Nat} {a3 : List Int} (g4 : s_get h q2 = some (0, 1, a3.map vl)) (k : wr P d sw_c341 sw_h341 (25, [r0, vi x1, vi x2, r3, t4], [], (hp h q2 (0, 1, (a3.set (Int.toNat (s1)) s2).map vl)), kc, ks) Q) (e_q2 : s0 = .index q2 := by first | rfl | assumption) (c1 : In3 s2 := by first | omega | assumption | (simp only [mk_len, List.length_map]; omega) | decide) (c5 : s1 < a3.length := by first | omega | assumption | (simp only [mk_len, List.length_map]; omega) | decide) (c6 : 0 ≤ s1 := by first | omega | assumption | (simp only [mk_len, List.length_map]; omega) | decide) (c7 : In3 s1 := by first | omega | assumption | (simp only [mk_len, List.length_map]; omega) | decide) (c8 : 0 < q2 := by first | omega | assumption | (simp only [mk_len, List.length_map]; omega) | decide) : wr P d sw_c341 sw_h341 (8, [r0, vi x1, vi x2, r3, t4], [vi s2, vi s1, s0], h, kc, ks) Q := by
  refine w_i2l rfl c1 ?_
  subst e_q2
  refine w_last rfl g4 (Nat.ble_eq_true_of_le c8) c7 c6 c5 ?_
  refine w_goto rfl ?_
  exact k

theorem k341_15 {P : s_P} {d : Nat} {Q : s_O → Prop} {h : s_H} {kc ks : Nat} {r0 : Term} {x1 x2 : Int} {r3 t4 : Term}  (k : Q (.inl (some (vi 1)), h, kc, ks))   : wr P d sw_c341 sw_h341 (15, [r0, vi x1, vi x2, r3, t4], [], h, kc, ks) Q := by
  refine w_c32 rfl (by decide) 1 (by decide) ?_
  exact w_iret rfl k

theorem k341_19 {P : s_P} {d : Nat} {Q : s_O → Prop} {h : s_H} {kc ks : Nat} {r0 : Term} {x1 x2 : Int} {r3 t4 : Term}  (k : Q (.inl (some (vi 2)), h, kc, ks))   : wr P d sw_c341 sw_h341 (19, [r0, vi x1, vi x2, r3, t4], [], h, kc, ks) Q := by
  refine w_c32 rfl (by decide) 2 (by decide) ?_
  exact w_iret rfl k

theorem k341_23 {P : s_P} {d : Nat} {Q : s_O → Prop} {h : s_H} {kc ks : Nat} {r0 : Term} {x1 x2 : Int} {r3 t4 : Term}  (k : Q (.inl (some (vi 3)), h, kc, ks))   : wr P d sw_c341 sw_h341 (23, [r0, vi x1, vi x2, r3, t4], [], h, kc, ks) Q := by
  refine w_c32 rfl (by decide) 3 (by decide) ?_
  exact w_iret rfl k

theorem k341_25 {P : s_P} {d : Nat} {Q : s_O → Prop} {h : s_H} {kc ks : Nat} {r0 : Term} {x1 x2 : Int} {r3 t4 : Term}  (k : Q (.inl (some (vi 0)), h, kc, ks))   : wr P d sw_c341 sw_h341 (25, [r0, vi x1, vi x2, r3, t4], [], h, kc, ks) Q := by
  refine w_c32 rfl (by decide) 0 (by decide) ?_
  exact w_iret rfl k

/-! 342: FormulaWorksLaw.factors(LFormulaWorks;I[J)I -/
theorem k342_0 {P : s_P} {d : Nat} {Q : s_O → Prop} {h : s_H} {kc ks : Nat} {r0 : Term} {x1 : Int} {r2 t3 : Term} {q3 : Nat} {f4 : List Term} (g5 : s_get h q3 = some (1, 10, f4)) (k : wm P d 24 [.index q3, vi x1] h (wq P d sw_c342 sw_h342 7 [.index q3, vi x1, r2, t3] [vi 0, r2] kc ks Q)) (e_q3 : r0 = .index q3 := by first | rfl | assumption) (y1 : s_ty r2 = 3 := by first | rfl | assumption) (y2 : s_ty r0 = 3 := by first | rfl | assumption)  : wr P d sw_c342 sw_h342 (0, [r0, vi x1, r2, t3], [], h, kc, ks) Q := by
  refine w_ld rfl rfl (Or.inr (Or.inr ⟨by decide, y1⟩)) ?_
  refine w_c32 rfl (by decide) 0 (by decide) ?_
  refine w_ld rfl rfl (Or.inr (Or.inr ⟨by decide, y2⟩)) ?_
  refine w_ld rfl rfl (Or.inl ⟨by decide, rfl⟩) ?_
  subst e_q3
  exact w_cv rfl [.index q3, vi x1] [vi 0, r2] rfl rfl (s_wt_4 rfl) rfl g5 k

theorem k342_7 {P : s_P} {d : Nat} {Q : s_O → Prop} {h : s_H} {kc ks : Nat} {r0 : Term} {x1 : Int} {r2 t3 s0 : Term} {s1 s2 : Int} {q2 : Nat} {a3 : List Int} (g4 : s_get h q2 = some (0, 1, a3.map vl)) (k : wr P d sw_c342 sw_h342 (18, [r0, vi x1, r2, t3], [], (hp h q2 (0, 1, (a3.set (Int.toNat (s1)) s2).map vl)), kc, ks) Q) (e_q2 : s0 = .index q2 := by first | rfl | assumption) (c1 : In3 s2 := by first | omega | assumption | (simp only [mk_len, List.length_map]; omega) | decide) (c5 : s1 < a3.length := by first | omega | assumption | (simp only [mk_len, List.length_map]; omega) | decide) (c6 : 0 ≤ s1 := by first | omega | assumption | (simp only [mk_len, List.length_map]; omega) | decide) (c7 : In3 s1 := by first | omega | assumption | (simp only [mk_len, List.length_map]; omega) | decide) (c8 : 0 < q2 := by first | omega | assumption | (simp only [mk_len, List.length_map]; omega) | decide) : wr P d sw_c342 sw_h342 (7, [r0, vi x1, r2, t3], [vi s2, vi s1, s0], h, kc, ks) Q := by
  refine w_i2l rfl c1 ?_
  subst e_q2
  refine w_last rfl g4 (Nat.ble_eq_true_of_le c8) c7 c6 c5 ?_
  refine w_goto rfl ?_
  exact k

theorem k342_13 {P : s_P} {d : Nat} {Q : s_O → Prop} {h : s_H} {kc ks : Nat} {r0 : Term} {x1 : Int} {r2 t3 : Term}  (k : Q (.inl (some (vi 1)), h, kc, ks))   : wr P d sw_c342 sw_h342 (13, [r0, vi x1, r2, t3], [], h, kc, ks) Q := by
  refine w_c32 rfl (by decide) 1 (by decide) ?_
  exact w_iret rfl k

theorem k342_16 {P : s_P} {d : Nat} {Q : s_O → Prop} {h : s_H} {kc ks : Nat} {r0 : Term} {x1 : Int} {r2 t3 : Term}  (k : Q (.inl (some (vi 2)), h, kc, ks))   : wr P d sw_c342 sw_h342 (16, [r0, vi x1, r2, t3], [], h, kc, ks) Q := by
  refine w_c32 rfl (by decide) 2 (by decide) ?_
  exact w_iret rfl k

theorem k342_18 {P : s_P} {d : Nat} {Q : s_O → Prop} {h : s_H} {kc ks : Nat} {r0 : Term} {x1 : Int} {r2 t3 : Term}  (k : Q (.inl (some (vi 0)), h, kc, ks))   : wr P d sw_c342 sw_h342 (18, [r0, vi x1, r2, t3], [], h, kc, ks) Q := by
  refine w_c32 rfl (by decide) 0 (by decide) ?_
  exact w_iret rfl k

/-! 343: FormulaWorksLaw.fit(LFormulaWorks;II[J)I -/
theorem k343_0 {P : s_P} {d : Nat} {Q : s_O → Prop} {h : s_H} {kc ks : Nat} {r0 : Term} {x1 x2 : Int} {r3 t4 : Term} {q3 : Nat} {f4 : List Term} (g5 : s_get h q3 = some (1, 10, f4)) (k : wm P d 26 [.index q3, vi x1, vi x2] h (wq P d sw_c343 sw_h343 8 [.index q3, vi x1, vi x2, r3, t4] [vi 0, r3] kc ks Q)) (e_q3 : r0 = .index q3 := by first | rfl | assumption) (y1 : s_ty r3 = 3 := by first | rfl | assumption) (y2 : s_ty r0 = 3 := by first | rfl | assumption)  : wr P d sw_c343 sw_h343 (0, [r0, vi x1, vi x2, r3, t4], [], h, kc, ks) Q := by
  refine w_ld rfl rfl (Or.inr (Or.inr ⟨by decide, y1⟩)) ?_
  refine w_c32 rfl (by decide) 0 (by decide) ?_
  refine w_ld rfl rfl (Or.inr (Or.inr ⟨by decide, y2⟩)) ?_
  refine w_ld rfl rfl (Or.inl ⟨by decide, rfl⟩) ?_
  refine w_ld rfl rfl (Or.inl ⟨by decide, rfl⟩) ?_
  subst e_q3
  exact w_cv rfl [.index q3, vi x1, vi x2] [vi 0, r3] rfl rfl (s_wt_4 rfl) rfl g5 k

theorem k343_8 {P : s_P} {d : Nat} {Q : s_O → Prop} {h : s_H} {kc ks : Nat} {r0 : Term} {x1 x2 : Int} {r3 t4 s0 : Term} {s1 s2 : Int} {q2 : Nat} {a3 : List Int} (g4 : s_get h q2 = some (0, 1, a3.map vl)) (k : wr P d sw_c343 sw_h343 (25, [r0, vi x1, vi x2, r3, t4], [], (hp h q2 (0, 1, (a3.set (Int.toNat (s1)) s2).map vl)), kc, ks) Q) (e_q2 : s0 = .index q2 := by first | rfl | assumption) (c1 : In3 s2 := by first | omega | assumption | (simp only [mk_len, List.length_map]; omega) | decide) (c5 : s1 < a3.length := by first | omega | assumption | (simp only [mk_len, List.length_map]; omega) | decide) (c6 : 0 ≤ s1 := by first | omega | assumption | (simp only [mk_len, List.length_map]; omega) | decide) (c7 : In3 s1 := by first | omega | assumption | (simp only [mk_len, List.length_map]; omega) | decide) (c8 : 0 < q2 := by first | omega | assumption | (simp only [mk_len, List.length_map]; omega) | decide) : wr P d sw_c343 sw_h343 (8, [r0, vi x1, vi x2, r3, t4], [vi s2, vi s1, s0], h, kc, ks) Q := by
  refine w_i2l rfl c1 ?_
  subst e_q2
  refine w_last rfl g4 (Nat.ble_eq_true_of_le c8) c7 c6 c5 ?_
  refine w_goto rfl ?_
  exact k

theorem k343_15 {P : s_P} {d : Nat} {Q : s_O → Prop} {h : s_H} {kc ks : Nat} {r0 : Term} {x1 x2 : Int} {r3 t4 : Term}  (k : Q (.inl (some (vi 1)), h, kc, ks))   : wr P d sw_c343 sw_h343 (15, [r0, vi x1, vi x2, r3, t4], [], h, kc, ks) Q := by
  refine w_c32 rfl (by decide) 1 (by decide) ?_
  exact w_iret rfl k

theorem k343_19 {P : s_P} {d : Nat} {Q : s_O → Prop} {h : s_H} {kc ks : Nat} {r0 : Term} {x1 x2 : Int} {r3 t4 : Term}  (k : Q (.inl (some (vi 2)), h, kc, ks))   : wr P d sw_c343 sw_h343 (19, [r0, vi x1, vi x2, r3, t4], [], h, kc, ks) Q := by
  refine w_c32 rfl (by decide) 2 (by decide) ?_
  exact w_iret rfl k

theorem k343_23 {P : s_P} {d : Nat} {Q : s_O → Prop} {h : s_H} {kc ks : Nat} {r0 : Term} {x1 x2 : Int} {r3 t4 : Term}  (k : Q (.inl (some (vi 3)), h, kc, ks))   : wr P d sw_c343 sw_h343 (23, [r0, vi x1, vi x2, r3, t4], [], h, kc, ks) Q := by
  refine w_c32 rfl (by decide) 3 (by decide) ?_
  exact w_iret rfl k

theorem k343_25 {P : s_P} {d : Nat} {Q : s_O → Prop} {h : s_H} {kc ks : Nat} {r0 : Term} {x1 x2 : Int} {r3 t4 : Term}  (k : Q (.inl (some (vi 0)), h, kc, ks))   : wr P d sw_c343 sw_h343 (25, [r0, vi x1, vi x2, r3, t4], [], h, kc, ks) Q := by
  refine w_c32 rfl (by decide) 0 (by decide) ?_
  exact w_iret rfl k

/-! 344: FormulaWorksLaw.formula(LFormulaWorks;[J)I -/
theorem k344_0 {P : s_P} {d : Nat} {Q : s_O → Prop} {h : s_H} {kc ks : Nat} {r0 r1 t2 : Term} {q3 : Nat} {f4 : List Term} (g5 : s_get h q3 = some (1, 10, f4)) (k : wm P d 27 [.index q3] h (wq P d sw_c344 sw_h344 6 [.index q3, r1, t2] [vi 0, r1] kc ks Q)) (e_q3 : r0 = .index q3 := by first | rfl | assumption) (y1 : s_ty r1 = 3 := by first | rfl | assumption) (y2 : s_ty r0 = 3 := by first | rfl | assumption)  : wr P d sw_c344 sw_h344 (0, [r0, r1, t2], [], h, kc, ks) Q := by
  refine w_ld rfl rfl (Or.inr (Or.inr ⟨by decide, y1⟩)) ?_
  refine w_c32 rfl (by decide) 0 (by decide) ?_
  refine w_ld rfl rfl (Or.inr (Or.inr ⟨by decide, y2⟩)) ?_
  subst e_q3
  exact w_cv rfl [.index q3] [vi 0, r1] rfl rfl (s_wt_4 rfl) rfl g5 k

theorem k344_6 {P : s_P} {d : Nat} {Q : s_O → Prop} {h : s_H} {kc ks : Nat} {r0 r1 t2 s0 : Term} {s1 s2 : Int} {q2 : Nat} {a3 : List Int} (g4 : s_get h q2 = some (0, 1, a3.map vl)) (k : wr P d sw_c344 sw_h344 (17, [r0, r1, t2], [], (hp h q2 (0, 1, (a3.set (Int.toNat (s1)) s2).map vl)), kc, ks) Q) (e_q2 : s0 = .index q2 := by first | rfl | assumption) (c1 : In3 s2 := by first | omega | assumption | (simp only [mk_len, List.length_map]; omega) | decide) (c5 : s1 < a3.length := by first | omega | assumption | (simp only [mk_len, List.length_map]; omega) | decide) (c6 : 0 ≤ s1 := by first | omega | assumption | (simp only [mk_len, List.length_map]; omega) | decide) (c7 : In3 s1 := by first | omega | assumption | (simp only [mk_len, List.length_map]; omega) | decide) (c8 : 0 < q2 := by first | omega | assumption | (simp only [mk_len, List.length_map]; omega) | decide) : wr P d sw_c344 sw_h344 (6, [r0, r1, t2], [vi s2, vi s1, s0], h, kc, ks) Q := by
  refine w_i2l rfl c1 ?_
  subst e_q2
  refine w_last rfl g4 (Nat.ble_eq_true_of_le c8) c7 c6 c5 ?_
  refine w_goto rfl ?_
  exact k

theorem k344_12 {P : s_P} {d : Nat} {Q : s_O → Prop} {h : s_H} {kc ks : Nat} {r0 r1 t2 : Term}  (k : Q (.inl (some (vi 1)), h, kc, ks))   : wr P d sw_c344 sw_h344 (12, [r0, r1, t2], [], h, kc, ks) Q := by
  refine w_c32 rfl (by decide) 1 (by decide) ?_
  exact w_iret rfl k

theorem k344_15 {P : s_P} {d : Nat} {Q : s_O → Prop} {h : s_H} {kc ks : Nat} {r0 r1 t2 : Term}  (k : Q (.inl (some (vi 2)), h, kc, ks))   : wr P d sw_c344 sw_h344 (15, [r0, r1, t2], [], h, kc, ks) Q := by
  refine w_c32 rfl (by decide) 2 (by decide) ?_
  exact w_iret rfl k

theorem k344_17 {P : s_P} {d : Nat} {Q : s_O → Prop} {h : s_H} {kc ks : Nat} {r0 r1 t2 : Term}  (k : Q (.inl (some (vi 0)), h, kc, ks))   : wr P d sw_c344 sw_h344 (17, [r0, r1, t2], [], h, kc, ks) Q := by
  refine w_c32 rfl (by decide) 0 (by decide) ?_
  exact w_iret rfl k

/-! 345: FormulaWorksLaw.get(LFormulaWorks;I[J)I -/
theorem k345_0 {P : s_P} {d : Nat} {Q : s_O → Prop} {h : s_H} {kc ks : Nat} {r0 : Term} {x1 : Int} {r2 t3 : Term} {q3 : Nat} {f4 : List Term} (g5 : s_get h q3 = some (1, 10, f4)) (k : wm P d 28 [.index q3, vi x1] h (wq P d sw_c345 sw_h345 7 [.index q3, vi x1, r2, t3] [vi 0, r2] kc ks Q)) (e_q3 : r0 = .index q3 := by first | rfl | assumption) (y1 : s_ty r2 = 3 := by first | rfl | assumption) (y2 : s_ty r0 = 3 := by first | rfl | assumption)  : wr P d sw_c345 sw_h345 (0, [r0, vi x1, r2, t3], [], h, kc, ks) Q := by
  refine w_ld rfl rfl (Or.inr (Or.inr ⟨by decide, y1⟩)) ?_
  refine w_c32 rfl (by decide) 0 (by decide) ?_
  refine w_ld rfl rfl (Or.inr (Or.inr ⟨by decide, y2⟩)) ?_
  refine w_ld rfl rfl (Or.inl ⟨by decide, rfl⟩) ?_
  subst e_q3
  exact w_cv rfl [.index q3, vi x1] [vi 0, r2] rfl rfl (s_wt_4 rfl) rfl g5 k

theorem k345_7 {P : s_P} {d : Nat} {Q : s_O → Prop} {h : s_H} {kc ks : Nat} {r0 : Term} {x1 : Int} {r2 t3 s0 : Term} {s1 s2 : Int} {q2 : Nat} {a3 : List Int} (g4 : s_get h q2 = some (0, 1, a3.map vl)) (k : wr P d sw_c345 sw_h345 (21, [r0, vi x1, r2, t3], [], (hp h q2 (0, 1, (a3.set (Int.toNat (s1)) s2).map vl)), kc, ks) Q) (e_q2 : s0 = .index q2 := by first | rfl | assumption) (c1 : In3 s2 := by first | omega | assumption | (simp only [mk_len, List.length_map]; omega) | decide) (c5 : s1 < a3.length := by first | omega | assumption | (simp only [mk_len, List.length_map]; omega) | decide) (c6 : 0 ≤ s1 := by first | omega | assumption | (simp only [mk_len, List.length_map]; omega) | decide) (c7 : In3 s1 := by first | omega | assumption | (simp only [mk_len, List.length_map]; omega) | decide) (c8 : 0 < q2 := by first | omega | assumption | (simp only [mk_len, List.length_map]; omega) | decide) : wr P d sw_c345 sw_h345 (7, [r0, vi x1, r2, t3], [vi s2, vi s1, s0], h, kc, ks) Q := by
  refine w_i2l rfl c1 ?_
  subst e_q2
  refine w_last rfl g4 (Nat.ble_eq_true_of_le c8) c7 c6 c5 ?_
  refine w_goto rfl ?_
  exact k

theorem k345_13 {P : s_P} {d : Nat} {Q : s_O → Prop} {h : s_H} {kc ks : Nat} {r0 : Term} {x1 : Int} {r2 t3 : Term}  (k : Q (.inl (some (vi 1)), h, kc, ks))   : wr P d sw_c345 sw_h345 (13, [r0, vi x1, r2, t3], [], h, kc, ks) Q := by
  refine w_c32 rfl (by decide) 1 (by decide) ?_
  exact w_iret rfl k

theorem k345_16 {P : s_P} {d : Nat} {Q : s_O → Prop} {h : s_H} {kc ks : Nat} {r0 : Term} {x1 : Int} {r2 t3 : Term}  (k : Q (.inl (some (vi 2)), h, kc, ks))   : wr P d sw_c345 sw_h345 (16, [r0, vi x1, r2, t3], [], h, kc, ks) Q := by
  refine w_c32 rfl (by decide) 2 (by decide) ?_
  exact w_iret rfl k

theorem k345_19 {P : s_P} {d : Nat} {Q : s_O → Prop} {h : s_H} {kc ks : Nat} {r0 : Term} {x1 : Int} {r2 t3 : Term}  (k : Q (.inl (some (vi 3)), h, kc, ks))   : wr P d sw_c345 sw_h345 (19, [r0, vi x1, r2, t3], [], h, kc, ks) Q := by
  refine w_c32 rfl (by decide) 3 (by decide) ?_
  exact w_iret rfl k

theorem k345_21 {P : s_P} {d : Nat} {Q : s_O → Prop} {h : s_H} {kc ks : Nat} {r0 : Term} {x1 : Int} {r2 t3 : Term}  (k : Q (.inl (some (vi 0)), h, kc, ks))   : wr P d sw_c345 sw_h345 (21, [r0, vi x1, r2, t3], [], h, kc, ks) Q := by
  refine w_c32 rfl (by decide) 0 (by decide) ?_
  exact w_iret rfl k

/-! 346: FormulaWorksLaw.guess(LFormulaWorks;I[J)I -/
theorem k346_0 {P : s_P} {d : Nat} {Q : s_O → Prop} {h : s_H} {kc ks : Nat} {r0 : Term} {x1 : Int} {r2 t3 : Term} {q3 : Nat} {f4 : List Term} (g5 : s_get h q3 = some (1, 10, f4)) (k : wm P d 29 [.index q3, vi x1] h (wq P d sw_c346 sw_h346 7 [.index q3, vi x1, r2, t3] [vi 0, r2] kc ks Q)) (e_q3 : r0 = .index q3 := by first | rfl | assumption) (y1 : s_ty r2 = 3 := by first | rfl | assumption) (y2 : s_ty r0 = 3 := by first | rfl | assumption)  : wr P d sw_c346 sw_h346 (0, [r0, vi x1, r2, t3], [], h, kc, ks) Q := by
  refine w_ld rfl rfl (Or.inr (Or.inr ⟨by decide, y1⟩)) ?_
  refine w_c32 rfl (by decide) 0 (by decide) ?_
  refine w_ld rfl rfl (Or.inr (Or.inr ⟨by decide, y2⟩)) ?_
  refine w_ld rfl rfl (Or.inl ⟨by decide, rfl⟩) ?_
  subst e_q3
  exact w_cv rfl [.index q3, vi x1] [vi 0, r2] rfl rfl (s_wt_4 rfl) rfl g5 k

theorem k346_7 {P : s_P} {d : Nat} {Q : s_O → Prop} {h : s_H} {kc ks : Nat} {r0 : Term} {x1 : Int} {r2 t3 s0 : Term} {s1 s2 : Int} {q2 : Nat} {a3 : List Int} (g4 : s_get h q2 = some (0, 1, a3.map vl)) (k : wr P d sw_c346 sw_h346 (21, [r0, vi x1, r2, t3], [], (hp h q2 (0, 1, (a3.set (Int.toNat (s1)) s2).map vl)), kc, ks) Q) (e_q2 : s0 = .index q2 := by first | rfl | assumption) (c1 : In3 s2 := by first | omega | assumption | (simp only [mk_len, List.length_map]; omega) | decide) (c5 : s1 < a3.length := by first | omega | assumption | (simp only [mk_len, List.length_map]; omega) | decide) (c6 : 0 ≤ s1 := by first | omega | assumption | (simp only [mk_len, List.length_map]; omega) | decide) (c7 : In3 s1 := by first | omega | assumption | (simp only [mk_len, List.length_map]; omega) | decide) (c8 : 0 < q2 := by first | omega | assumption | (simp only [mk_len, List.length_map]; omega) | decide) : wr P d sw_c346 sw_h346 (7, [r0, vi x1, r2, t3], [vi s2, vi s1, s0], h, kc, ks) Q := by
  refine w_i2l rfl c1 ?_
  subst e_q2
  refine w_last rfl g4 (Nat.ble_eq_true_of_le c8) c7 c6 c5 ?_
  refine w_goto rfl ?_
  exact k

theorem k346_13 {P : s_P} {d : Nat} {Q : s_O → Prop} {h : s_H} {kc ks : Nat} {r0 : Term} {x1 : Int} {r2 t3 : Term}  (k : Q (.inl (some (vi 1)), h, kc, ks))   : wr P d sw_c346 sw_h346 (13, [r0, vi x1, r2, t3], [], h, kc, ks) Q := by
  refine w_c32 rfl (by decide) 1 (by decide) ?_
  exact w_iret rfl k

theorem k346_16 {P : s_P} {d : Nat} {Q : s_O → Prop} {h : s_H} {kc ks : Nat} {r0 : Term} {x1 : Int} {r2 t3 : Term}  (k : Q (.inl (some (vi 2)), h, kc, ks))   : wr P d sw_c346 sw_h346 (16, [r0, vi x1, r2, t3], [], h, kc, ks) Q := by
  refine w_c32 rfl (by decide) 2 (by decide) ?_
  exact w_iret rfl k

theorem k346_19 {P : s_P} {d : Nat} {Q : s_O → Prop} {h : s_H} {kc ks : Nat} {r0 : Term} {x1 : Int} {r2 t3 : Term}  (k : Q (.inl (some (vi 3)), h, kc, ks))   : wr P d sw_c346 sw_h346 (19, [r0, vi x1, r2, t3], [], h, kc, ks) Q := by
  refine w_c32 rfl (by decide) 3 (by decide) ?_
  exact w_iret rfl k

theorem k346_21 {P : s_P} {d : Nat} {Q : s_O → Prop} {h : s_H} {kc ks : Nat} {r0 : Term} {x1 : Int} {r2 t3 : Term}  (k : Q (.inl (some (vi 0)), h, kc, ks))   : wr P d sw_c346 sw_h346 (21, [r0, vi x1, r2, t3], [], h, kc, ks) Q := by
  refine w_c32 rfl (by decide) 0 (by decide) ?_
  exact w_iret rfl k

/-! 347: FormulaWorksLaw.integral(LFormulaWorks;I[J)I -/
theorem k347_0 {P : s_P} {d : Nat} {Q : s_O → Prop} {h : s_H} {kc ks : Nat} {r0 : Term} {x1 : Int} {r2 t3 : Term} {q3 : Nat} {f4 : List Term} (g5 : s_get h q3 = some (1, 10, f4)) (k : wm P d 30 [.index q3, vi x1] h (wq P d sw_c347 sw_h347 7 [.index q3, vi x1, r2, t3] [vi 0, r2] kc ks Q)) (e_q3 : r0 = .index q3 := by first | rfl | assumption) (y1 : s_ty r2 = 3 := by first | rfl | assumption) (y2 : s_ty r0 = 3 := by first | rfl | assumption)  : wr P d sw_c347 sw_h347 (0, [r0, vi x1, r2, t3], [], h, kc, ks) Q := by
  refine w_ld rfl rfl (Or.inr (Or.inr ⟨by decide, y1⟩)) ?_
  refine w_c32 rfl (by decide) 0 (by decide) ?_
  refine w_ld rfl rfl (Or.inr (Or.inr ⟨by decide, y2⟩)) ?_
  refine w_ld rfl rfl (Or.inl ⟨by decide, rfl⟩) ?_
  subst e_q3
  exact w_cv rfl [.index q3, vi x1] [vi 0, r2] rfl rfl (s_wt_4 rfl) rfl g5 k

theorem k347_7 {P : s_P} {d : Nat} {Q : s_O → Prop} {h : s_H} {kc ks : Nat} {r0 : Term} {x1 : Int} {r2 t3 s0 : Term} {s1 s2 : Int} {q2 : Nat} {a3 : List Int} (g4 : s_get h q2 = some (0, 1, a3.map vl)) (k : wr P d sw_c347 sw_h347 (21, [r0, vi x1, r2, t3], [], (hp h q2 (0, 1, (a3.set (Int.toNat (s1)) s2).map vl)), kc, ks) Q) (e_q2 : s0 = .index q2 := by first | rfl | assumption) (c1 : In3 s2 := by first | omega | assumption | (simp only [mk_len, List.length_map]; omega) | decide) (c5 : s1 < a3.length := by first | omega | assumption | (simp only [mk_len, List.length_map]; omega) | decide) (c6 : 0 ≤ s1 := by first | omega | assumption | (simp only [mk_len, List.length_map]; omega) | decide) (c7 : In3 s1 := by first | omega | assumption | (simp only [mk_len, List.length_map]; omega) | decide) (c8 : 0 < q2 := by first | omega | assumption | (simp only [mk_len, List.length_map]; omega) | decide) : wr P d sw_c347 sw_h347 (7, [r0, vi x1, r2, t3], [vi s2, vi s1, s0], h, kc, ks) Q := by
  refine w_i2l rfl c1 ?_
  subst e_q2
  refine w_last rfl g4 (Nat.ble_eq_true_of_le c8) c7 c6 c5 ?_
  refine w_goto rfl ?_
  exact k

theorem k347_13 {P : s_P} {d : Nat} {Q : s_O → Prop} {h : s_H} {kc ks : Nat} {r0 : Term} {x1 : Int} {r2 t3 : Term}  (k : Q (.inl (some (vi 1)), h, kc, ks))   : wr P d sw_c347 sw_h347 (13, [r0, vi x1, r2, t3], [], h, kc, ks) Q := by
  refine w_c32 rfl (by decide) 1 (by decide) ?_
  exact w_iret rfl k

theorem k347_16 {P : s_P} {d : Nat} {Q : s_O → Prop} {h : s_H} {kc ks : Nat} {r0 : Term} {x1 : Int} {r2 t3 : Term}  (k : Q (.inl (some (vi 2)), h, kc, ks))   : wr P d sw_c347 sw_h347 (16, [r0, vi x1, r2, t3], [], h, kc, ks) Q := by
  refine w_c32 rfl (by decide) 2 (by decide) ?_
  exact w_iret rfl k

theorem k347_19 {P : s_P} {d : Nat} {Q : s_O → Prop} {h : s_H} {kc ks : Nat} {r0 : Term} {x1 : Int} {r2 t3 : Term}  (k : Q (.inl (some (vi 3)), h, kc, ks))   : wr P d sw_c347 sw_h347 (19, [r0, vi x1, r2, t3], [], h, kc, ks) Q := by
  refine w_c32 rfl (by decide) 3 (by decide) ?_
  exact w_iret rfl k

theorem k347_21 {P : s_P} {d : Nat} {Q : s_O → Prop} {h : s_H} {kc ks : Nat} {r0 : Term} {x1 : Int} {r2 t3 : Term}  (k : Q (.inl (some (vi 0)), h, kc, ks))   : wr P d sw_c347 sw_h347 (21, [r0, vi x1, r2, t3], [], h, kc, ks) Q := by
  refine w_c32 rfl (by decide) 0 (by decide) ?_
  exact w_iret rfl k

/-! 348: FormulaWorksLaw.invariant(LFormulaWorks;II[J)I -/
theorem k348_0 {P : s_P} {d : Nat} {Q : s_O → Prop} {h : s_H} {kc ks : Nat} {r0 : Term} {x1 x2 : Int} {r3 t4 : Term} {q3 : Nat} {f4 : List Term} (g5 : s_get h q3 = some (1, 10, f4)) (k : wm P d 31 [.index q3, vi x1, vi x2] h (wq P d sw_c348 sw_h348 8 [.index q3, vi x1, vi x2, r3, t4] [vi 0, r3] kc ks Q)) (e_q3 : r0 = .index q3 := by first | rfl | assumption) (y1 : s_ty r3 = 3 := by first | rfl | assumption) (y2 : s_ty r0 = 3 := by first | rfl | assumption)  : wr P d sw_c348 sw_h348 (0, [r0, vi x1, vi x2, r3, t4], [], h, kc, ks) Q := by
  refine w_ld rfl rfl (Or.inr (Or.inr ⟨by decide, y1⟩)) ?_
  refine w_c32 rfl (by decide) 0 (by decide) ?_
  refine w_ld rfl rfl (Or.inr (Or.inr ⟨by decide, y2⟩)) ?_
  refine w_ld rfl rfl (Or.inl ⟨by decide, rfl⟩) ?_
  refine w_ld rfl rfl (Or.inl ⟨by decide, rfl⟩) ?_
  subst e_q3
  exact w_cv rfl [.index q3, vi x1, vi x2] [vi 0, r3] rfl rfl (s_wt_4 rfl) rfl g5 k

theorem k348_8 {P : s_P} {d : Nat} {Q : s_O → Prop} {h : s_H} {kc ks : Nat} {r0 : Term} {x1 x2 : Int} {r3 t4 s0 : Term} {s1 s2 : Int} {q2 : Nat} {a3 : List Int} (g4 : s_get h q2 = some (0, 1, a3.map vl)) (k : wr P d sw_c348 sw_h348 (25, [r0, vi x1, vi x2, r3, t4], [], (hp h q2 (0, 1, (a3.set (Int.toNat (s1)) s2).map vl)), kc, ks) Q) (e_q2 : s0 = .index q2 := by first | rfl | assumption) (c1 : In3 s2 := by first | omega | assumption | (simp only [mk_len, List.length_map]; omega) | decide) (c5 : s1 < a3.length := by first | omega | assumption | (simp only [mk_len, List.length_map]; omega) | decide) (c6 : 0 ≤ s1 := by first | omega | assumption | (simp only [mk_len, List.length_map]; omega) | decide) (c7 : In3 s1 := by first | omega | assumption | (simp only [mk_len, List.length_map]; omega) | decide) (c8 : 0 < q2 := by first | omega | assumption | (simp only [mk_len, List.length_map]; omega) | decide) : wr P d sw_c348 sw_h348 (8, [r0, vi x1, vi x2, r3, t4], [vi s2, vi s1, s0], h, kc, ks) Q := by
  refine w_i2l rfl c1 ?_
  subst e_q2
  refine w_last rfl g4 (Nat.ble_eq_true_of_le c8) c7 c6 c5 ?_
  refine w_goto rfl ?_
  exact k

theorem k348_15 {P : s_P} {d : Nat} {Q : s_O → Prop} {h : s_H} {kc ks : Nat} {r0 : Term} {x1 x2 : Int} {r3 t4 : Term}  (k : Q (.inl (some (vi 1)), h, kc, ks))   : wr P d sw_c348 sw_h348 (15, [r0, vi x1, vi x2, r3, t4], [], h, kc, ks) Q := by
  refine w_c32 rfl (by decide) 1 (by decide) ?_
  exact w_iret rfl k

theorem k348_19 {P : s_P} {d : Nat} {Q : s_O → Prop} {h : s_H} {kc ks : Nat} {r0 : Term} {x1 x2 : Int} {r3 t4 : Term}  (k : Q (.inl (some (vi 2)), h, kc, ks))   : wr P d sw_c348 sw_h348 (19, [r0, vi x1, vi x2, r3, t4], [], h, kc, ks) Q := by
  refine w_c32 rfl (by decide) 2 (by decide) ?_
  exact w_iret rfl k

theorem k348_23 {P : s_P} {d : Nat} {Q : s_O → Prop} {h : s_H} {kc ks : Nat} {r0 : Term} {x1 x2 : Int} {r3 t4 : Term}  (k : Q (.inl (some (vi 3)), h, kc, ks))   : wr P d sw_c348 sw_h348 (23, [r0, vi x1, vi x2, r3, t4], [], h, kc, ks) Q := by
  refine w_c32 rfl (by decide) 3 (by decide) ?_
  exact w_iret rfl k

theorem k348_25 {P : s_P} {d : Nat} {Q : s_O → Prop} {h : s_H} {kc ks : Nat} {r0 : Term} {x1 x2 : Int} {r3 t4 : Term}  (k : Q (.inl (some (vi 0)), h, kc, ks))   : wr P d sw_c348 sw_h348 (25, [r0, vi x1, vi x2, r3, t4], [], h, kc, ks) Q := by
  refine w_c32 rfl (by decide) 0 (by decide) ?_
  exact w_iret rfl k

/-! 349: FormulaWorksLaw.kind(LFormulaWorks;I[J)I -/
theorem k349_0 {P : s_P} {d : Nat} {Q : s_O → Prop} {h : s_H} {kc ks : Nat} {r0 : Term} {x1 : Int} {r2 t3 : Term} {q3 : Nat} {f4 : List Term} (g5 : s_get h q3 = some (1, 10, f4)) (k : wm P d 42 [.index q3, vi x1] h (wq P d sw_c349 sw_h349 7 [.index q3, vi x1, r2, t3] [vi 0, r2] kc ks Q)) (e_q3 : r0 = .index q3 := by first | rfl | assumption) (y1 : s_ty r2 = 3 := by first | rfl | assumption) (y2 : s_ty r0 = 3 := by first | rfl | assumption)  : wr P d sw_c349 sw_h349 (0, [r0, vi x1, r2, t3], [], h, kc, ks) Q := by
  refine w_ld rfl rfl (Or.inr (Or.inr ⟨by decide, y1⟩)) ?_
  refine w_c32 rfl (by decide) 0 (by decide) ?_
  refine w_ld rfl rfl (Or.inr (Or.inr ⟨by decide, y2⟩)) ?_
  refine w_ld rfl rfl (Or.inl ⟨by decide, rfl⟩) ?_
  subst e_q3
  exact w_cv rfl [.index q3, vi x1] [vi 0, r2] rfl rfl (s_wt_4 rfl) rfl g5 k

theorem k349_7 {P : s_P} {d : Nat} {Q : s_O → Prop} {h : s_H} {kc ks : Nat} {r0 : Term} {x1 : Int} {r2 t3 s0 : Term} {s1 s2 : Int} {q2 : Nat} {a3 : List Int} (g4 : s_get h q2 = some (0, 1, a3.map vl)) (k : wr P d sw_c349 sw_h349 (15, [r0, vi x1, r2, t3], [], (hp h q2 (0, 1, (a3.set (Int.toNat (s1)) s2).map vl)), kc, ks) Q) (e_q2 : s0 = .index q2 := by first | rfl | assumption) (c1 : In3 s2 := by first | omega | assumption | (simp only [mk_len, List.length_map]; omega) | decide) (c5 : s1 < a3.length := by first | omega | assumption | (simp only [mk_len, List.length_map]; omega) | decide) (c6 : 0 ≤ s1 := by first | omega | assumption | (simp only [mk_len, List.length_map]; omega) | decide) (c7 : In3 s1 := by first | omega | assumption | (simp only [mk_len, List.length_map]; omega) | decide) (c8 : 0 < q2 := by first | omega | assumption | (simp only [mk_len, List.length_map]; omega) | decide) : wr P d sw_c349 sw_h349 (7, [r0, vi x1, r2, t3], [vi s2, vi s1, s0], h, kc, ks) Q := by
  refine w_i2l rfl c1 ?_
  subst e_q2
  refine w_last rfl g4 (Nat.ble_eq_true_of_le c8) c7 c6 c5 ?_
  refine w_goto rfl ?_
  exact k

theorem k349_13 {P : s_P} {d : Nat} {Q : s_O → Prop} {h : s_H} {kc ks : Nat} {r0 : Term} {x1 : Int} {r2 t3 : Term}  (k : Q (.inl (some (vi 1)), h, kc, ks))   : wr P d sw_c349 sw_h349 (13, [r0, vi x1, r2, t3], [], h, kc, ks) Q := by
  refine w_c32 rfl (by decide) 1 (by decide) ?_
  exact w_iret rfl k

theorem k349_15 {P : s_P} {d : Nat} {Q : s_O → Prop} {h : s_H} {kc ks : Nat} {r0 : Term} {x1 : Int} {r2 t3 : Term}  (k : Q (.inl (some (vi 0)), h, kc, ks))   : wr P d sw_c349 sw_h349 (15, [r0, vi x1, r2, t3], [], h, kc, ks) Q := by
  refine w_c32 rfl (by decide) 0 (by decide) ?_
  exact w_iret rfl k

/-! 350: FormulaWorksLaw.least(LFormulaWorks;II[J)I -/
theorem k350_0 {P : s_P} {d : Nat} {Q : s_O → Prop} {h : s_H} {kc ks : Nat} {r0 : Term} {x1 x2 : Int} {r3 t4 : Term} {q3 : Nat} {f4 : List Term} (g5 : s_get h q3 = some (1, 10, f4)) (k : wm P d 43 [.index q3, vi x1, vi x2] h (wq P d sw_c350 sw_h350 8 [.index q3, vi x1, vi x2, r3, t4] [vi 0, r3] kc ks Q)) (e_q3 : r0 = .index q3 := by first | rfl | assumption) (y1 : s_ty r3 = 3 := by first | rfl | assumption) (y2 : s_ty r0 = 3 := by first | rfl | assumption)  : wr P d sw_c350 sw_h350 (0, [r0, vi x1, vi x2, r3, t4], [], h, kc, ks) Q := by
  refine w_ld rfl rfl (Or.inr (Or.inr ⟨by decide, y1⟩)) ?_
  refine w_c32 rfl (by decide) 0 (by decide) ?_
  refine w_ld rfl rfl (Or.inr (Or.inr ⟨by decide, y2⟩)) ?_
  refine w_ld rfl rfl (Or.inl ⟨by decide, rfl⟩) ?_
  refine w_ld rfl rfl (Or.inl ⟨by decide, rfl⟩) ?_
  subst e_q3
  exact w_cv rfl [.index q3, vi x1, vi x2] [vi 0, r3] rfl rfl (s_wt_4 rfl) rfl g5 k

theorem k350_8 {P : s_P} {d : Nat} {Q : s_O → Prop} {h : s_H} {kc ks : Nat} {r0 : Term} {x1 x2 : Int} {r3 t4 s0 : Term} {s1 s2 : Int} {q2 : Nat} {a3 : List Int} (g4 : s_get h q2 = some (0, 1, a3.map vl)) (k : wr P d sw_c350 sw_h350 (25, [r0, vi x1, vi x2, r3, t4], [], (hp h q2 (0, 1, (a3.set (Int.toNat (s1)) s2).map vl)), kc, ks) Q) (e_q2 : s0 = .index q2 := by first | rfl | assumption) (c1 : In3 s2 := by first | omega | assumption | (simp only [mk_len, List.length_map]; omega) | decide) (c5 : s1 < a3.length := by first | omega | assumption | (simp only [mk_len, List.length_map]; omega) | decide) (c6 : 0 ≤ s1 := by first | omega | assumption | (simp only [mk_len, List.length_map]; omega) | decide) (c7 : In3 s1 := by first | omega | assumption | (simp only [mk_len, List.length_map]; omega) | decide) (c8 : 0 < q2 := by first | omega | assumption | (simp only [mk_len, List.length_map]; omega) | decide) : wr P d sw_c350 sw_h350 (8, [r0, vi x1, vi x2, r3, t4], [vi s2, vi s1, s0], h, kc, ks) Q := by
  refine w_i2l rfl c1 ?_
  subst e_q2
  refine w_last rfl g4 (Nat.ble_eq_true_of_le c8) c7 c6 c5 ?_
  refine w_goto rfl ?_
  exact k

theorem k350_15 {P : s_P} {d : Nat} {Q : s_O → Prop} {h : s_H} {kc ks : Nat} {r0 : Term} {x1 x2 : Int} {r3 t4 : Term}  (k : Q (.inl (some (vi 1)), h, kc, ks))   : wr P d sw_c350 sw_h350 (15, [r0, vi x1, vi x2, r3, t4], [], h, kc, ks) Q := by
  refine w_c32 rfl (by decide) 1 (by decide) ?_
  exact w_iret rfl k

theorem k350_19 {P : s_P} {d : Nat} {Q : s_O → Prop} {h : s_H} {kc ks : Nat} {r0 : Term} {x1 x2 : Int} {r3 t4 : Term}  (k : Q (.inl (some (vi 2)), h, kc, ks))   : wr P d sw_c350 sw_h350 (19, [r0, vi x1, vi x2, r3, t4], [], h, kc, ks) Q := by
  refine w_c32 rfl (by decide) 2 (by decide) ?_
  exact w_iret rfl k

theorem k350_23 {P : s_P} {d : Nat} {Q : s_O → Prop} {h : s_H} {kc ks : Nat} {r0 : Term} {x1 x2 : Int} {r3 t4 : Term}  (k : Q (.inl (some (vi 3)), h, kc, ks))   : wr P d sw_c350 sw_h350 (23, [r0, vi x1, vi x2, r3, t4], [], h, kc, ks) Q := by
  refine w_c32 rfl (by decide) 3 (by decide) ?_
  exact w_iret rfl k

theorem k350_25 {P : s_P} {d : Nat} {Q : s_O → Prop} {h : s_H} {kc ks : Nat} {r0 : Term} {x1 x2 : Int} {r3 t4 : Term}  (k : Q (.inl (some (vi 0)), h, kc, ks))   : wr P d sw_c350 sw_h350 (25, [r0, vi x1, vi x2, r3, t4], [], h, kc, ks) Q := by
  refine w_c32 rfl (by decide) 0 (by decide) ?_
  exact w_iret rfl k

/-! 351: FormulaWorksLaw.less(LFormulaWorks;II[J)I -/
theorem k351_0 {P : s_P} {d : Nat} {Q : s_O → Prop} {h : s_H} {kc ks : Nat} {r0 : Term} {x1 x2 : Int} {r3 t4 : Term} {q3 : Nat} {f4 : List Term} (g5 : s_get h q3 = some (1, 10, f4)) (k : wm P d 44 [.index q3, vi x1, vi x2] h (wq P d sw_c351 sw_h351 8 [.index q3, vi x1, vi x2, r3, t4] [vi 0, r3] kc ks Q)) (e_q3 : r0 = .index q3 := by first | rfl | assumption) (y1 : s_ty r3 = 3 := by first | rfl | assumption) (y2 : s_ty r0 = 3 := by first | rfl | assumption)  : wr P d sw_c351 sw_h351 (0, [r0, vi x1, vi x2, r3, t4], [], h, kc, ks) Q := by
  refine w_ld rfl rfl (Or.inr (Or.inr ⟨by decide, y1⟩)) ?_
  refine w_c32 rfl (by decide) 0 (by decide) ?_
  refine w_ld rfl rfl (Or.inr (Or.inr ⟨by decide, y2⟩)) ?_
  refine w_ld rfl rfl (Or.inl ⟨by decide, rfl⟩) ?_
  refine w_ld rfl rfl (Or.inl ⟨by decide, rfl⟩) ?_
  subst e_q3
  exact w_cv rfl [.index q3, vi x1, vi x2] [vi 0, r3] rfl rfl (s_wt_4 rfl) rfl g5 k

theorem k351_8 {P : s_P} {d : Nat} {Q : s_O → Prop} {h : s_H} {kc ks : Nat} {r0 : Term} {x1 x2 : Int} {r3 t4 s0 : Term} {s1 s2 : Int} {q2 : Nat} {a3 : List Int} (g4 : s_get h q2 = some (0, 1, a3.map vl)) (k : wr P d sw_c351 sw_h351 (25, [r0, vi x1, vi x2, r3, t4], [], (hp h q2 (0, 1, (a3.set (Int.toNat (s1)) s2).map vl)), kc, ks) Q) (e_q2 : s0 = .index q2 := by first | rfl | assumption) (c1 : In3 s2 := by first | omega | assumption | (simp only [mk_len, List.length_map]; omega) | decide) (c5 : s1 < a3.length := by first | omega | assumption | (simp only [mk_len, List.length_map]; omega) | decide) (c6 : 0 ≤ s1 := by first | omega | assumption | (simp only [mk_len, List.length_map]; omega) | decide) (c7 : In3 s1 := by first | omega | assumption | (simp only [mk_len, List.length_map]; omega) | decide) (c8 : 0 < q2 := by first | omega | assumption | (simp only [mk_len, List.length_map]; omega) | decide) : wr P d sw_c351 sw_h351 (8, [r0, vi x1, vi x2, r3, t4], [vi s2, vi s1, s0], h, kc, ks) Q := by
  refine w_i2l rfl c1 ?_
  subst e_q2
  refine w_last rfl g4 (Nat.ble_eq_true_of_le c8) c7 c6 c5 ?_
  refine w_goto rfl ?_
  exact k

theorem k351_15 {P : s_P} {d : Nat} {Q : s_O → Prop} {h : s_H} {kc ks : Nat} {r0 : Term} {x1 x2 : Int} {r3 t4 : Term}  (k : Q (.inl (some (vi 1)), h, kc, ks))   : wr P d sw_c351 sw_h351 (15, [r0, vi x1, vi x2, r3, t4], [], h, kc, ks) Q := by
  refine w_c32 rfl (by decide) 1 (by decide) ?_
  exact w_iret rfl k

theorem k351_19 {P : s_P} {d : Nat} {Q : s_O → Prop} {h : s_H} {kc ks : Nat} {r0 : Term} {x1 x2 : Int} {r3 t4 : Term}  (k : Q (.inl (some (vi 2)), h, kc, ks))   : wr P d sw_c351 sw_h351 (19, [r0, vi x1, vi x2, r3, t4], [], h, kc, ks) Q := by
  refine w_c32 rfl (by decide) 2 (by decide) ?_
  exact w_iret rfl k

theorem k351_23 {P : s_P} {d : Nat} {Q : s_O → Prop} {h : s_H} {kc ks : Nat} {r0 : Term} {x1 x2 : Int} {r3 t4 : Term}  (k : Q (.inl (some (vi 3)), h, kc, ks))   : wr P d sw_c351 sw_h351 (23, [r0, vi x1, vi x2, r3, t4], [], h, kc, ks) Q := by
  refine w_c32 rfl (by decide) 3 (by decide) ?_
  exact w_iret rfl k

theorem k351_25 {P : s_P} {d : Nat} {Q : s_O → Prop} {h : s_H} {kc ks : Nat} {r0 : Term} {x1 x2 : Int} {r3 t4 : Term}  (k : Q (.inl (some (vi 0)), h, kc, ks))   : wr P d sw_c351 sw_h351 (25, [r0, vi x1, vi x2, r3, t4], [], h, kc, ks) Q := by
  refine w_c32 rfl (by decide) 0 (by decide) ?_
  exact w_iret rfl k

/-! 352: FormulaWorksLaw.letter(LFormulaWorks;II[J)I -/
theorem k352_0 {P : s_P} {d : Nat} {Q : s_O → Prop} {h : s_H} {kc ks : Nat} {r0 : Term} {x1 x2 : Int} {r3 t4 : Term} {q3 : Nat} {f4 : List Term} (g5 : s_get h q3 = some (1, 10, f4)) (k : wm P d 45 [.index q3, vi x1, vi x2] h (wq P d sw_c352 sw_h352 8 [.index q3, vi x1, vi x2, r3, t4] [vi 0, r3] kc ks Q)) (e_q3 : r0 = .index q3 := by first | rfl | assumption) (y1 : s_ty r3 = 3 := by first | rfl | assumption) (y2 : s_ty r0 = 3 := by first | rfl | assumption)  : wr P d sw_c352 sw_h352 (0, [r0, vi x1, vi x2, r3, t4], [], h, kc, ks) Q := by
  refine w_ld rfl rfl (Or.inr (Or.inr ⟨by decide, y1⟩)) ?_
  refine w_c32 rfl (by decide) 0 (by decide) ?_
  refine w_ld rfl rfl (Or.inr (Or.inr ⟨by decide, y2⟩)) ?_
  refine w_ld rfl rfl (Or.inl ⟨by decide, rfl⟩) ?_
  refine w_ld rfl rfl (Or.inl ⟨by decide, rfl⟩) ?_
  subst e_q3
  exact w_cv rfl [.index q3, vi x1, vi x2] [vi 0, r3] rfl rfl (s_wt_4 rfl) rfl g5 k

theorem k352_8 {P : s_P} {d : Nat} {Q : s_O → Prop} {h : s_H} {kc ks : Nat} {r0 : Term} {x1 x2 : Int} {r3 t4 s0 : Term} {s1 s2 : Int} {q2 : Nat} {a3 : List Int} (g4 : s_get h q2 = some (0, 1, a3.map vl)) (k : wr P d sw_c352 sw_h352 (21, [r0, vi x1, vi x2, r3, t4], [], (hp h q2 (0, 1, (a3.set (Int.toNat (s1)) s2).map vl)), kc, ks) Q) (e_q2 : s0 = .index q2 := by first | rfl | assumption) (c1 : In3 s2 := by first | omega | assumption | (simp only [mk_len, List.length_map]; omega) | decide) (c5 : s1 < a3.length := by first | omega | assumption | (simp only [mk_len, List.length_map]; omega) | decide) (c6 : 0 ≤ s1 := by first | omega | assumption | (simp only [mk_len, List.length_map]; omega) | decide) (c7 : In3 s1 := by first | omega | assumption | (simp only [mk_len, List.length_map]; omega) | decide) (c8 : 0 < q2 := by first | omega | assumption | (simp only [mk_len, List.length_map]; omega) | decide) : wr P d sw_c352 sw_h352 (8, [r0, vi x1, vi x2, r3, t4], [vi s2, vi s1, s0], h, kc, ks) Q := by
  refine w_i2l rfl c1 ?_
  subst e_q2
  refine w_last rfl g4 (Nat.ble_eq_true_of_le c8) c7 c6 c5 ?_
  refine w_goto rfl ?_
  exact k

theorem k352_15 {P : s_P} {d : Nat} {Q : s_O → Prop} {h : s_H} {kc ks : Nat} {r0 : Term} {x1 x2 : Int} {r3 t4 : Term}  (k : Q (.inl (some (vi 1)), h, kc, ks))   : wr P d sw_c352 sw_h352 (15, [r0, vi x1, vi x2, r3, t4], [], h, kc, ks) Q := by
  refine w_c32 rfl (by decide) 1 (by decide) ?_
  exact w_iret rfl k

theorem k352_19 {P : s_P} {d : Nat} {Q : s_O → Prop} {h : s_H} {kc ks : Nat} {r0 : Term} {x1 x2 : Int} {r3 t4 : Term}  (k : Q (.inl (some (vi 2)), h, kc, ks))   : wr P d sw_c352 sw_h352 (19, [r0, vi x1, vi x2, r3, t4], [], h, kc, ks) Q := by
  refine w_c32 rfl (by decide) 2 (by decide) ?_
  exact w_iret rfl k

theorem k352_21 {P : s_P} {d : Nat} {Q : s_O → Prop} {h : s_H} {kc ks : Nat} {r0 : Term} {x1 x2 : Int} {r3 t4 : Term}  (k : Q (.inl (some (vi 0)), h, kc, ks))   : wr P d sw_c352 sw_h352 (21, [r0, vi x1, vi x2, r3, t4], [], h, kc, ks) Q := by
  refine w_c32 rfl (by decide) 0 (by decide) ?_
  exact w_iret rfl k

/-! 353: FormulaWorksLaw.log(LFormulaWorks;II[J)I -/
theorem k353_0 {P : s_P} {d : Nat} {Q : s_O → Prop} {h : s_H} {kc ks : Nat} {r0 : Term} {x1 x2 : Int} {r3 t4 : Term} {q3 : Nat} {f4 : List Term} (g5 : s_get h q3 = some (1, 10, f4)) (k : wm P d 46 [.index q3, vi x1, vi x2] h (wq P d sw_c353 sw_h353 8 [.index q3, vi x1, vi x2, r3, t4] [vi 0, r3] kc ks Q)) (e_q3 : r0 = .index q3 := by first | rfl | assumption) (y1 : s_ty r3 = 3 := by first | rfl | assumption) (y2 : s_ty r0 = 3 := by first | rfl | assumption)  : wr P d sw_c353 sw_h353 (0, [r0, vi x1, vi x2, r3, t4], [], h, kc, ks) Q := by
  refine w_ld rfl rfl (Or.inr (Or.inr ⟨by decide, y1⟩)) ?_
  refine w_c32 rfl (by decide) 0 (by decide) ?_
  refine w_ld rfl rfl (Or.inr (Or.inr ⟨by decide, y2⟩)) ?_
  refine w_ld rfl rfl (Or.inl ⟨by decide, rfl⟩) ?_
  refine w_ld rfl rfl (Or.inl ⟨by decide, rfl⟩) ?_
  subst e_q3
  exact w_cv rfl [.index q3, vi x1, vi x2] [vi 0, r3] rfl rfl (s_wt_4 rfl) rfl g5 k

theorem k353_8 {P : s_P} {d : Nat} {Q : s_O → Prop} {h : s_H} {kc ks : Nat} {r0 : Term} {x1 x2 : Int} {r3 t4 s0 : Term} {s1 s2 : Int} {q2 : Nat} {a3 : List Int} (g4 : s_get h q2 = some (0, 1, a3.map vl)) (k : wr P d sw_c353 sw_h353 (21, [r0, vi x1, vi x2, r3, t4], [], (hp h q2 (0, 1, (a3.set (Int.toNat (s1)) s2).map vl)), kc, ks) Q) (e_q2 : s0 = .index q2 := by first | rfl | assumption) (c1 : In3 s2 := by first | omega | assumption | (simp only [mk_len, List.length_map]; omega) | decide) (c5 : s1 < a3.length := by first | omega | assumption | (simp only [mk_len, List.length_map]; omega) | decide) (c6 : 0 ≤ s1 := by first | omega | assumption | (simp only [mk_len, List.length_map]; omega) | decide) (c7 : In3 s1 := by first | omega | assumption | (simp only [mk_len, List.length_map]; omega) | decide) (c8 : 0 < q2 := by first | omega | assumption | (simp only [mk_len, List.length_map]; omega) | decide) : wr P d sw_c353 sw_h353 (8, [r0, vi x1, vi x2, r3, t4], [vi s2, vi s1, s0], h, kc, ks) Q := by
  refine w_i2l rfl c1 ?_
  subst e_q2
  refine w_last rfl g4 (Nat.ble_eq_true_of_le c8) c7 c6 c5 ?_
  refine w_goto rfl ?_
  exact k

theorem k353_15 {P : s_P} {d : Nat} {Q : s_O → Prop} {h : s_H} {kc ks : Nat} {r0 : Term} {x1 x2 : Int} {r3 t4 : Term}  (k : Q (.inl (some (vi 1)), h, kc, ks))   : wr P d sw_c353 sw_h353 (15, [r0, vi x1, vi x2, r3, t4], [], h, kc, ks) Q := by
  refine w_c32 rfl (by decide) 1 (by decide) ?_
  exact w_iret rfl k

theorem k353_19 {P : s_P} {d : Nat} {Q : s_O → Prop} {h : s_H} {kc ks : Nat} {r0 : Term} {x1 x2 : Int} {r3 t4 : Term}  (k : Q (.inl (some (vi 2)), h, kc, ks))   : wr P d sw_c353 sw_h353 (19, [r0, vi x1, vi x2, r3, t4], [], h, kc, ks) Q := by
  refine w_c32 rfl (by decide) 2 (by decide) ?_
  exact w_iret rfl k

theorem k353_21 {P : s_P} {d : Nat} {Q : s_O → Prop} {h : s_H} {kc ks : Nat} {r0 : Term} {x1 x2 : Int} {r3 t4 : Term}  (k : Q (.inl (some (vi 0)), h, kc, ks))   : wr P d sw_c353 sw_h353 (21, [r0, vi x1, vi x2, r3, t4], [], h, kc, ks) Q := by
  refine w_c32 rfl (by decide) 0 (by decide) ?_
  exact w_iret rfl k

/-! 354: FormulaWorksLaw.logarithm(LFormulaWorks;I[J)I -/
theorem k354_0 {P : s_P} {d : Nat} {Q : s_O → Prop} {h : s_H} {kc ks : Nat} {r0 : Term} {x1 : Int} {r2 t3 : Term} {q3 : Nat} {f4 : List Term} (g5 : s_get h q3 = some (1, 10, f4)) (k : wm P d 47 [.index q3, vi x1] h (wq P d sw_c354 sw_h354 7 [.index q3, vi x1, r2, t3] [vi 0, r2] kc ks Q)) (e_q3 : r0 = .index q3 := by first | rfl | assumption) (y1 : s_ty r2 = 3 := by first | rfl | assumption) (y2 : s_ty r0 = 3 := by first | rfl | assumption)  : wr P d sw_c354 sw_h354 (0, [r0, vi x1, r2, t3], [], h, kc, ks) Q := by
  refine w_ld rfl rfl (Or.inr (Or.inr ⟨by decide, y1⟩)) ?_
  refine w_c32 rfl (by decide) 0 (by decide) ?_
  refine w_ld rfl rfl (Or.inr (Or.inr ⟨by decide, y2⟩)) ?_
  refine w_ld rfl rfl (Or.inl ⟨by decide, rfl⟩) ?_
  subst e_q3
  exact w_cv rfl [.index q3, vi x1] [vi 0, r2] rfl rfl (s_wt_4 rfl) rfl g5 k

theorem k354_7 {P : s_P} {d : Nat} {Q : s_O → Prop} {h : s_H} {kc ks : Nat} {r0 : Term} {x1 : Int} {r2 t3 s0 : Term} {s1 s2 : Int} {q2 : Nat} {a3 : List Int} (g4 : s_get h q2 = some (0, 1, a3.map vl)) (k : wr P d sw_c354 sw_h354 (21, [r0, vi x1, r2, t3], [], (hp h q2 (0, 1, (a3.set (Int.toNat (s1)) s2).map vl)), kc, ks) Q) (e_q2 : s0 = .index q2 := by first | rfl | assumption) (c1 : In3 s2 := by first | omega | assumption | (simp only [mk_len, List.length_map]; omega) | decide) (c5 : s1 < a3.length := by first | omega | assumption | (simp only [mk_len, List.length_map]; omega) | decide) (c6 : 0 ≤ s1 := by first | omega | assumption | (simp only [mk_len, List.length_map]; omega) | decide) (c7 : In3 s1 := by first | omega | assumption | (simp only [mk_len, List.length_map]; omega) | decide) (c8 : 0 < q2 := by first | omega | assumption | (simp only [mk_len, List.length_map]; omega) | decide) : wr P d sw_c354 sw_h354 (7, [r0, vi x1, r2, t3], [vi s2, vi s1, s0], h, kc, ks) Q := by
  refine w_i2l rfl c1 ?_
  subst e_q2
  refine w_last rfl g4 (Nat.ble_eq_true_of_le c8) c7 c6 c5 ?_
  refine w_goto rfl ?_
  exact k

theorem k354_13 {P : s_P} {d : Nat} {Q : s_O → Prop} {h : s_H} {kc ks : Nat} {r0 : Term} {x1 : Int} {r2 t3 : Term}  (k : Q (.inl (some (vi 1)), h, kc, ks))   : wr P d sw_c354 sw_h354 (13, [r0, vi x1, r2, t3], [], h, kc, ks) Q := by
  refine w_c32 rfl (by decide) 1 (by decide) ?_
  exact w_iret rfl k

theorem k354_16 {P : s_P} {d : Nat} {Q : s_O → Prop} {h : s_H} {kc ks : Nat} {r0 : Term} {x1 : Int} {r2 t3 : Term}  (k : Q (.inl (some (vi 2)), h, kc, ks))   : wr P d sw_c354 sw_h354 (16, [r0, vi x1, r2, t3], [], h, kc, ks) Q := by
  refine w_c32 rfl (by decide) 2 (by decide) ?_
  exact w_iret rfl k

theorem k354_19 {P : s_P} {d : Nat} {Q : s_O → Prop} {h : s_H} {kc ks : Nat} {r0 : Term} {x1 : Int} {r2 t3 : Term}  (k : Q (.inl (some (vi 3)), h, kc, ks))   : wr P d sw_c354 sw_h354 (19, [r0, vi x1, r2, t3], [], h, kc, ks) Q := by
  refine w_c32 rfl (by decide) 3 (by decide) ?_
  exact w_iret rfl k

theorem k354_21 {P : s_P} {d : Nat} {Q : s_O → Prop} {h : s_H} {kc ks : Nat} {r0 : Term} {x1 : Int} {r2 t3 : Term}  (k : Q (.inl (some (vi 0)), h, kc, ks))   : wr P d sw_c354 sw_h354 (21, [r0, vi x1, r2, t3], [], h, kc, ks) Q := by
  refine w_c32 rfl (by decide) 0 (by decide) ?_
  exact w_iret rfl k

/-! 355: FormulaWorksLaw.made(LFormulaWorks;III[J)I -/
theorem k355_0 {P : s_P} {d : Nat} {Q : s_O → Prop} {h : s_H} {kc ks : Nat} {r0 : Term} {x1 x2 x3 : Int} {r4 t5 : Term} {q3 : Nat} {f4 : List Term} (g5 : s_get h q3 = some (1, 10, f4)) (k : wm P d 48 [.index q3, vi x1, vi x2, vi x3] h (wq P d sw_c355 sw_h355 10 [.index q3, vi x1, vi x2, vi x3, r4, t5] [vi 0, r4] kc ks Q)) (e_q3 : r0 = .index q3 := by first | rfl | assumption) (y1 : s_ty r4 = 3 := by first | rfl | assumption) (y2 : s_ty r0 = 3 := by first | rfl | assumption)  : wr P d sw_c355 sw_h355 (0, [r0, vi x1, vi x2, vi x3, r4, t5], [], h, kc, ks) Q := by
  refine w_ld rfl rfl (Or.inr (Or.inr ⟨by decide, y1⟩)) ?_
  refine w_c32 rfl (by decide) 0 (by decide) ?_
  refine w_ld rfl rfl (Or.inr (Or.inr ⟨by decide, y2⟩)) ?_
  refine w_ld rfl rfl (Or.inl ⟨by decide, rfl⟩) ?_
  refine w_ld rfl rfl (Or.inl ⟨by decide, rfl⟩) ?_
  refine w_ld rfl rfl (Or.inl ⟨by decide, rfl⟩) ?_
  subst e_q3
  exact w_cv rfl [.index q3, vi x1, vi x2, vi x3] [vi 0, r4] rfl rfl (s_wt_4 rfl) rfl g5 k

theorem k355_10 {P : s_P} {d : Nat} {Q : s_O → Prop} {h : s_H} {kc ks : Nat} {r0 : Term} {x1 x2 x3 : Int} {r4 t5 s0 : Term} {s1 s2 : Int} {q2 : Nat} {a3 : List Int} (g4 : s_get h q2 = some (0, 1, a3.map vl)) (k : wr P d sw_c355 sw_h355 (27, [r0, vi x1, vi x2, vi x3, r4, t5], [], (hp h q2 (0, 1, (a3.set (Int.toNat (s1)) s2).map vl)), kc, ks) Q) (e_q2 : s0 = .index q2 := by first | rfl | assumption) (c1 : In3 s2 := by first | omega | assumption | (simp only [mk_len, List.length_map]; omega) | decide) (c5 : s1 < a3.length := by first | omega | assumption | (simp only [mk_len, List.length_map]; omega) | decide) (c6 : 0 ≤ s1 := by first | omega | assumption | (simp only [mk_len, List.length_map]; omega) | decide) (c7 : In3 s1 := by first | omega | assumption | (simp only [mk_len, List.length_map]; omega) | decide) (c8 : 0 < q2 := by first | omega | assumption | (simp only [mk_len, List.length_map]; omega) | decide) : wr P d sw_c355 sw_h355 (10, [r0, vi x1, vi x2, vi x3, r4, t5], [vi s2, vi s1, s0], h, kc, ks) Q := by
  refine w_i2l rfl c1 ?_
  subst e_q2
  refine w_last rfl g4 (Nat.ble_eq_true_of_le c8) c7 c6 c5 ?_
  refine w_goto rfl ?_
  exact k

theorem k355_17 {P : s_P} {d : Nat} {Q : s_O → Prop} {h : s_H} {kc ks : Nat} {r0 : Term} {x1 x2 x3 : Int} {r4 t5 : Term}  (k : Q (.inl (some (vi 1)), h, kc, ks))   : wr P d sw_c355 sw_h355 (17, [r0, vi x1, vi x2, vi x3, r4, t5], [], h, kc, ks) Q := by
  refine w_c32 rfl (by decide) 1 (by decide) ?_
  exact w_iret rfl k

theorem k355_21 {P : s_P} {d : Nat} {Q : s_O → Prop} {h : s_H} {kc ks : Nat} {r0 : Term} {x1 x2 x3 : Int} {r4 t5 : Term}  (k : Q (.inl (some (vi 2)), h, kc, ks))   : wr P d sw_c355 sw_h355 (21, [r0, vi x1, vi x2, vi x3, r4, t5], [], h, kc, ks) Q := by
  refine w_c32 rfl (by decide) 2 (by decide) ?_
  exact w_iret rfl k

theorem k355_25 {P : s_P} {d : Nat} {Q : s_O → Prop} {h : s_H} {kc ks : Nat} {r0 : Term} {x1 x2 x3 : Int} {r4 t5 : Term}  (k : Q (.inl (some (vi 3)), h, kc, ks))   : wr P d sw_c355 sw_h355 (25, [r0, vi x1, vi x2, vi x3, r4, t5], [], h, kc, ks) Q := by
  refine w_c32 rfl (by decide) 3 (by decide) ?_
  exact w_iret rfl k

theorem k355_27 {P : s_P} {d : Nat} {Q : s_O → Prop} {h : s_H} {kc ks : Nat} {r0 : Term} {x1 x2 x3 : Int} {r4 t5 : Term}  (k : Q (.inl (some (vi 0)), h, kc, ks))   : wr P d sw_c355 sw_h355 (27, [r0, vi x1, vi x2, vi x3, r4, t5], [], h, kc, ks) Q := by
  refine w_c32 rfl (by decide) 0 (by decide) ?_
  exact w_iret rfl k

/-! 356: FormulaWorksLaw.matrix(LFormulaWorks;II[J)I -/
theorem k356_0 {P : s_P} {d : Nat} {Q : s_O → Prop} {h : s_H} {kc ks : Nat} {r0 : Term} {x1 x2 : Int} {r3 t4 : Term} {q3 : Nat} {f4 : List Term} (g5 : s_get h q3 = some (1, 10, f4)) (k : wm P d 49 [.index q3, vi x1, vi x2] h (wq P d sw_c356 sw_h356 8 [.index q3, vi x1, vi x2, r3, t4] [vi 0, r3] kc ks Q)) (e_q3 : r0 = .index q3 := by first | rfl | assumption) (y1 : s_ty r3 = 3 := by first | rfl | assumption) (y2 : s_ty r0 = 3 := by first | rfl | assumption)  : wr P d sw_c356 sw_h356 (0, [r0, vi x1, vi x2, r3, t4], [], h, kc, ks) Q := by
  refine w_ld rfl rfl (Or.inr (Or.inr ⟨by decide, y1⟩)) ?_
  refine w_c32 rfl (by decide) 0 (by decide) ?_
  refine w_ld rfl rfl (Or.inr (Or.inr ⟨by decide, y2⟩)) ?_
  refine w_ld rfl rfl (Or.inl ⟨by decide, rfl⟩) ?_
  refine w_ld rfl rfl (Or.inl ⟨by decide, rfl⟩) ?_
  subst e_q3
  exact w_cv rfl [.index q3, vi x1, vi x2] [vi 0, r3] rfl rfl (s_wt_4 rfl) rfl g5 k

theorem k356_8 {P : s_P} {d : Nat} {Q : s_O → Prop} {h : s_H} {kc ks : Nat} {r0 : Term} {x1 x2 : Int} {r3 t4 s0 : Term} {s1 s2 : Int} {q2 : Nat} {a3 : List Int} (g4 : s_get h q2 = some (0, 1, a3.map vl)) (k : wr P d sw_c356 sw_h356 (21, [r0, vi x1, vi x2, r3, t4], [], (hp h q2 (0, 1, (a3.set (Int.toNat (s1)) s2).map vl)), kc, ks) Q) (e_q2 : s0 = .index q2 := by first | rfl | assumption) (c1 : In3 s2 := by first | omega | assumption | (simp only [mk_len, List.length_map]; omega) | decide) (c5 : s1 < a3.length := by first | omega | assumption | (simp only [mk_len, List.length_map]; omega) | decide) (c6 : 0 ≤ s1 := by first | omega | assumption | (simp only [mk_len, List.length_map]; omega) | decide) (c7 : In3 s1 := by first | omega | assumption | (simp only [mk_len, List.length_map]; omega) | decide) (c8 : 0 < q2 := by first | omega | assumption | (simp only [mk_len, List.length_map]; omega) | decide) : wr P d sw_c356 sw_h356 (8, [r0, vi x1, vi x2, r3, t4], [vi s2, vi s1, s0], h, kc, ks) Q := by
  refine w_i2l rfl c1 ?_
  subst e_q2
  refine w_last rfl g4 (Nat.ble_eq_true_of_le c8) c7 c6 c5 ?_
  refine w_goto rfl ?_
  exact k

theorem k356_15 {P : s_P} {d : Nat} {Q : s_O → Prop} {h : s_H} {kc ks : Nat} {r0 : Term} {x1 x2 : Int} {r3 t4 : Term}  (k : Q (.inl (some (vi 1)), h, kc, ks))   : wr P d sw_c356 sw_h356 (15, [r0, vi x1, vi x2, r3, t4], [], h, kc, ks) Q := by
  refine w_c32 rfl (by decide) 1 (by decide) ?_
  exact w_iret rfl k

theorem k356_19 {P : s_P} {d : Nat} {Q : s_O → Prop} {h : s_H} {kc ks : Nat} {r0 : Term} {x1 x2 : Int} {r3 t4 : Term}  (k : Q (.inl (some (vi 2)), h, kc, ks))   : wr P d sw_c356 sw_h356 (19, [r0, vi x1, vi x2, r3, t4], [], h, kc, ks) Q := by
  refine w_c32 rfl (by decide) 2 (by decide) ?_
  exact w_iret rfl k

theorem k356_21 {P : s_P} {d : Nat} {Q : s_O → Prop} {h : s_H} {kc ks : Nat} {r0 : Term} {x1 x2 : Int} {r3 t4 : Term}  (k : Q (.inl (some (vi 0)), h, kc, ks))   : wr P d sw_c356 sw_h356 (21, [r0, vi x1, vi x2, r3, t4], [], h, kc, ks) Q := by
  refine w_c32 rfl (by decide) 0 (by decide) ?_
  exact w_iret rfl k

/-! 357: FormulaWorksLaw.meet(LFormulaWorks;III[J)I -/
theorem k357_0 {P : s_P} {d : Nat} {Q : s_O → Prop} {h : s_H} {kc ks : Nat} {r0 : Term} {x1 x2 x3 : Int} {r4 t5 : Term} {q3 : Nat} {f4 : List Term} (g5 : s_get h q3 = some (1, 10, f4)) (k : wm P d 50 [.index q3, vi x1, vi x2, vi x3] h (wq P d sw_c357 sw_h357 10 [.index q3, vi x1, vi x2, vi x3, r4, t5] [vi 0, r4] kc ks Q)) (e_q3 : r0 = .index q3 := by first | rfl | assumption) (y1 : s_ty r4 = 3 := by first | rfl | assumption) (y2 : s_ty r0 = 3 := by first | rfl | assumption)  : wr P d sw_c357 sw_h357 (0, [r0, vi x1, vi x2, vi x3, r4, t5], [], h, kc, ks) Q := by
  refine w_ld rfl rfl (Or.inr (Or.inr ⟨by decide, y1⟩)) ?_
  refine w_c32 rfl (by decide) 0 (by decide) ?_
  refine w_ld rfl rfl (Or.inr (Or.inr ⟨by decide, y2⟩)) ?_
  refine w_ld rfl rfl (Or.inl ⟨by decide, rfl⟩) ?_
  refine w_ld rfl rfl (Or.inl ⟨by decide, rfl⟩) ?_
  refine w_ld rfl rfl (Or.inl ⟨by decide, rfl⟩) ?_
  subst e_q3
  exact w_cv rfl [.index q3, vi x1, vi x2, vi x3] [vi 0, r4] rfl rfl (s_wt_4 rfl) rfl g5 k

theorem k357_10 {P : s_P} {d : Nat} {Q : s_O → Prop} {h : s_H} {kc ks : Nat} {r0 : Term} {x1 x2 x3 : Int} {r4 t5 s0 : Term} {s1 s2 : Int} {q2 : Nat} {a3 : List Int} (g4 : s_get h q2 = some (0, 1, a3.map vl)) (k : wr P d sw_c357 sw_h357 (27, [r0, vi x1, vi x2, vi x3, r4, t5], [], (hp h q2 (0, 1, (a3.set (Int.toNat (s1)) s2).map vl)), kc, ks) Q) (e_q2 : s0 = .index q2 := by first | rfl | assumption) (c1 : In3 s2 := by first | omega | assumption | (simp only [mk_len, List.length_map]; omega) | decide) (c5 : s1 < a3.length := by first | omega | assumption | (simp only [mk_len, List.length_map]; omega) | decide) (c6 : 0 ≤ s1 := by first | omega | assumption | (simp only [mk_len, List.length_map]; omega) | decide) (c7 : In3 s1 := by first | omega | assumption | (simp only [mk_len, List.length_map]; omega) | decide) (c8 : 0 < q2 := by first | omega | assumption | (simp only [mk_len, List.length_map]; omega) | decide) : wr P d sw_c357 sw_h357 (10, [r0, vi x1, vi x2, vi x3, r4, t5], [vi s2, vi s1, s0], h, kc, ks) Q := by
  refine w_i2l rfl c1 ?_
  subst e_q2
  refine w_last rfl g4 (Nat.ble_eq_true_of_le c8) c7 c6 c5 ?_
  refine w_goto rfl ?_
  exact k

theorem k357_17 {P : s_P} {d : Nat} {Q : s_O → Prop} {h : s_H} {kc ks : Nat} {r0 : Term} {x1 x2 x3 : Int} {r4 t5 : Term}  (k : Q (.inl (some (vi 1)), h, kc, ks))   : wr P d sw_c357 sw_h357 (17, [r0, vi x1, vi x2, vi x3, r4, t5], [], h, kc, ks) Q := by
  refine w_c32 rfl (by decide) 1 (by decide) ?_
  exact w_iret rfl k

theorem k357_21 {P : s_P} {d : Nat} {Q : s_O → Prop} {h : s_H} {kc ks : Nat} {r0 : Term} {x1 x2 x3 : Int} {r4 t5 : Term}  (k : Q (.inl (some (vi 2)), h, kc, ks))   : wr P d sw_c357 sw_h357 (21, [r0, vi x1, vi x2, vi x3, r4, t5], [], h, kc, ks) Q := by
  refine w_c32 rfl (by decide) 2 (by decide) ?_
  exact w_iret rfl k

theorem k357_25 {P : s_P} {d : Nat} {Q : s_O → Prop} {h : s_H} {kc ks : Nat} {r0 : Term} {x1 x2 x3 : Int} {r4 t5 : Term}  (k : Q (.inl (some (vi 3)), h, kc, ks))   : wr P d sw_c357 sw_h357 (25, [r0, vi x1, vi x2, vi x3, r4, t5], [], h, kc, ks) Q := by
  refine w_c32 rfl (by decide) 3 (by decide) ?_
  exact w_iret rfl k

theorem k357_27 {P : s_P} {d : Nat} {Q : s_O → Prop} {h : s_H} {kc ks : Nat} {r0 : Term} {x1 x2 x3 : Int} {r4 t5 : Term}  (k : Q (.inl (some (vi 0)), h, kc, ks))   : wr P d sw_c357 sw_h357 (27, [r0, vi x1, vi x2, vi x3, r4, t5], [], h, kc, ks) Q := by
  refine w_c32 rfl (by decide) 0 (by decide) ?_
  exact w_iret rfl k

/-! 358: FormulaWorksLaw.node(LFormulaWorks;III[J)I -/
theorem k358_0 {P : s_P} {d : Nat} {Q : s_O → Prop} {h : s_H} {kc ks : Nat} {r0 : Term} {x1 x2 x3 : Int} {r4 t5 : Term} {q3 : Nat} {f4 : List Term} (g5 : s_get h q3 = some (1, 10, f4)) (k : wm P d 60 [.index q3, vi x1, vi x2, vi x3] h (wq P d sw_c358 sw_h358 10 [.index q3, vi x1, vi x2, vi x3, r4, t5] [vi 0, r4] kc ks Q)) (e_q3 : r0 = .index q3 := by first | rfl | assumption) (y1 : s_ty r4 = 3 := by first | rfl | assumption) (y2 : s_ty r0 = 3 := by first | rfl | assumption)  : wr P d sw_c358 sw_h358 (0, [r0, vi x1, vi x2, vi x3, r4, t5], [], h, kc, ks) Q := by
  refine w_ld rfl rfl (Or.inr (Or.inr ⟨by decide, y1⟩)) ?_
  refine w_c32 rfl (by decide) 0 (by decide) ?_
  refine w_ld rfl rfl (Or.inr (Or.inr ⟨by decide, y2⟩)) ?_
  refine w_ld rfl rfl (Or.inl ⟨by decide, rfl⟩) ?_
  refine w_ld rfl rfl (Or.inl ⟨by decide, rfl⟩) ?_
  refine w_ld rfl rfl (Or.inl ⟨by decide, rfl⟩) ?_
  subst e_q3
  exact w_cv rfl [.index q3, vi x1, vi x2, vi x3] [vi 0, r4] rfl rfl (s_wt_4 rfl) rfl g5 k

theorem k358_10 {P : s_P} {d : Nat} {Q : s_O → Prop} {h : s_H} {kc ks : Nat} {r0 : Term} {x1 x2 x3 : Int} {r4 t5 s0 : Term} {s1 s2 : Int} {q2 : Nat} {a3 : List Int} (g4 : s_get h q2 = some (0, 1, a3.map vl)) (k : wr P d sw_c358 sw_h358 (23, [r0, vi x1, vi x2, vi x3, r4, t5], [], (hp h q2 (0, 1, (a3.set (Int.toNat (s1)) s2).map vl)), kc, ks) Q) (e_q2 : s0 = .index q2 := by first | rfl | assumption) (c1 : In3 s2 := by first | omega | assumption | (simp only [mk_len, List.length_map]; omega) | decide) (c5 : s1 < a3.length := by first | omega | assumption | (simp only [mk_len, List.length_map]; omega) | decide) (c6 : 0 ≤ s1 := by first | omega | assumption | (simp only [mk_len, List.length_map]; omega) | decide) (c7 : In3 s1 := by first | omega | assumption | (simp only [mk_len, List.length_map]; omega) | decide) (c8 : 0 < q2 := by first | omega | assumption | (simp only [mk_len, List.length_map]; omega) | decide) : wr P d sw_c358 sw_h358 (10, [r0, vi x1, vi x2, vi x3, r4, t5], [vi s2, vi s1, s0], h, kc, ks) Q := by
  refine w_i2l rfl c1 ?_
  subst e_q2
  refine w_last rfl g4 (Nat.ble_eq_true_of_le c8) c7 c6 c5 ?_
  refine w_goto rfl ?_
  exact k

theorem k358_17 {P : s_P} {d : Nat} {Q : s_O → Prop} {h : s_H} {kc ks : Nat} {r0 : Term} {x1 x2 x3 : Int} {r4 t5 : Term}  (k : Q (.inl (some (vi 1)), h, kc, ks))   : wr P d sw_c358 sw_h358 (17, [r0, vi x1, vi x2, vi x3, r4, t5], [], h, kc, ks) Q := by
  refine w_c32 rfl (by decide) 1 (by decide) ?_
  exact w_iret rfl k

theorem k358_21 {P : s_P} {d : Nat} {Q : s_O → Prop} {h : s_H} {kc ks : Nat} {r0 : Term} {x1 x2 x3 : Int} {r4 t5 : Term}  (k : Q (.inl (some (vi 2)), h, kc, ks))   : wr P d sw_c358 sw_h358 (21, [r0, vi x1, vi x2, vi x3, r4, t5], [], h, kc, ks) Q := by
  refine w_c32 rfl (by decide) 2 (by decide) ?_
  exact w_iret rfl k

theorem k358_23 {P : s_P} {d : Nat} {Q : s_O → Prop} {h : s_H} {kc ks : Nat} {r0 : Term} {x1 x2 x3 : Int} {r4 t5 : Term}  (k : Q (.inl (some (vi 0)), h, kc, ks))   : wr P d sw_c358 sw_h358 (23, [r0, vi x1, vi x2, vi x3, r4, t5], [], h, kc, ks) Q := by
  refine w_c32 rfl (by decide) 0 (by decide) ?_
  exact w_iret rfl k

/-! 359: FormulaWorksLaw.nodes(LFormulaWorks;I[J)I -/
theorem k359_0 {P : s_P} {d : Nat} {Q : s_O → Prop} {h : s_H} {kc ks : Nat} {r0 : Term} {x1 : Int} {r2 t3 : Term} {q3 : Nat} {f4 : List Term} (g5 : s_get h q3 = some (1, 10, f4)) (k : wm P d 61 [.index q3, vi x1] h (wq P d sw_c359 sw_h359 7 [.index q3, vi x1, r2, t3] [vi 0, r2] kc ks Q)) (e_q3 : r0 = .index q3 := by first | rfl | assumption) (y1 : s_ty r2 = 3 := by first | rfl | assumption) (y2 : s_ty r0 = 3 := by first | rfl | assumption)  : wr P d sw_c359 sw_h359 (0, [r0, vi x1, r2, t3], [], h, kc, ks) Q := by
  refine w_ld rfl rfl (Or.inr (Or.inr ⟨by decide, y1⟩)) ?_
  refine w_c32 rfl (by decide) 0 (by decide) ?_
  refine w_ld rfl rfl (Or.inr (Or.inr ⟨by decide, y2⟩)) ?_
  refine w_ld rfl rfl (Or.inl ⟨by decide, rfl⟩) ?_
  subst e_q3
  exact w_cv rfl [.index q3, vi x1] [vi 0, r2] rfl rfl (s_wt_4 rfl) rfl g5 k

theorem k359_7 {P : s_P} {d : Nat} {Q : s_O → Prop} {h : s_H} {kc ks : Nat} {r0 : Term} {x1 : Int} {r2 t3 s0 : Term} {s1 s2 : Int} {q2 : Nat} {a3 : List Int} (g4 : s_get h q2 = some (0, 1, a3.map vl)) (k : wr P d sw_c359 sw_h359 (18, [r0, vi x1, r2, t3], [], (hp h q2 (0, 1, (a3.set (Int.toNat (s1)) s2).map vl)), kc, ks) Q) (e_q2 : s0 = .index q2 := by first | rfl | assumption) (c1 : In3 s2 := by first | omega | assumption | (simp only [mk_len, List.length_map]; omega) | decide) (c5 : s1 < a3.length := by first | omega | assumption | (simp only [mk_len, List.length_map]; omega) | decide) (c6 : 0 ≤ s1 := by first | omega | assumption | (simp only [mk_len, List.length_map]; omega) | decide) (c7 : In3 s1 := by first | omega | assumption | (simp only [mk_len, List.length_map]; omega) | decide) (c8 : 0 < q2 := by first | omega | assumption | (simp only [mk_len, List.length_map]; omega) | decide) : wr P d sw_c359 sw_h359 (7, [r0, vi x1, r2, t3], [vi s2, vi s1, s0], h, kc, ks) Q := by
  refine w_i2l rfl c1 ?_
  subst e_q2
  refine w_last rfl g4 (Nat.ble_eq_true_of_le c8) c7 c6 c5 ?_
  refine w_goto rfl ?_
  exact k

theorem k359_13 {P : s_P} {d : Nat} {Q : s_O → Prop} {h : s_H} {kc ks : Nat} {r0 : Term} {x1 : Int} {r2 t3 : Term}  (k : Q (.inl (some (vi 1)), h, kc, ks))   : wr P d sw_c359 sw_h359 (13, [r0, vi x1, r2, t3], [], h, kc, ks) Q := by
  refine w_c32 rfl (by decide) 1 (by decide) ?_
  exact w_iret rfl k

theorem k359_16 {P : s_P} {d : Nat} {Q : s_O → Prop} {h : s_H} {kc ks : Nat} {r0 : Term} {x1 : Int} {r2 t3 : Term}  (k : Q (.inl (some (vi 2)), h, kc, ks))   : wr P d sw_c359 sw_h359 (16, [r0, vi x1, r2, t3], [], h, kc, ks) Q := by
  refine w_c32 rfl (by decide) 2 (by decide) ?_
  exact w_iret rfl k

theorem k359_18 {P : s_P} {d : Nat} {Q : s_O → Prop} {h : s_H} {kc ks : Nat} {r0 : Term} {x1 : Int} {r2 t3 : Term}  (k : Q (.inl (some (vi 0)), h, kc, ks))   : wr P d sw_c359 sw_h359 (18, [r0, vi x1, r2, t3], [], h, kc, ks) Q := by
  refine w_c32 rfl (by decide) 0 (by decide) ?_
  exact w_iret rfl k

/-! 360: FormulaWorksLaw.number(LFormulaWorks;J[J)I -/
theorem k360_0 {P : s_P} {d : Nat} {Q : s_O → Prop} {h : s_H} {kc ks : Nat} {r0 : Term} {x1 : Int} {t2 r3 t4 : Term} {q3 : Nat} {f4 : List Term} (g5 : s_get h q3 = some (1, 10, f4)) (k : wm P d 62 [.index q3, vl x1] h (wq P d sw_c360 sw_h360 7 [.index q3, vl x1, t2, r3, t4] [vi 0, r3] kc ks Q)) (e_q3 : r0 = .index q3 := by first | rfl | assumption) (y1 : s_ty r3 = 3 := by first | rfl | assumption) (y2 : s_ty r0 = 3 := by first | rfl | assumption)  : wr P d sw_c360 sw_h360 (0, [r0, vl x1, t2, r3, t4], [], h, kc, ks) Q := by
  refine w_ld rfl rfl (Or.inr (Or.inr ⟨by decide, y1⟩)) ?_
  refine w_c32 rfl (by decide) 0 (by decide) ?_
  refine w_ld rfl rfl (Or.inr (Or.inr ⟨by decide, y2⟩)) ?_
  refine w_ld rfl rfl (Or.inr (Or.inl ⟨by decide, rfl⟩)) ?_
  subst e_q3
  exact w_cv rfl [.index q3, vl x1] [vi 0, r3] rfl rfl (s_wt_4 rfl) rfl g5 k

theorem k360_7 {P : s_P} {d : Nat} {Q : s_O → Prop} {h : s_H} {kc ks : Nat} {r0 : Term} {x1 : Int} {t2 r3 t4 s0 : Term} {s1 s2 : Int} {q2 : Nat} {a3 : List Int} (g4 : s_get h q2 = some (0, 1, a3.map vl)) (k : wr P d sw_c360 sw_h360 (16, [r0, vl x1, t2, r3, t4], [], (hp h q2 (0, 1, (a3.set (Int.toNat (s1)) s2).map vl)), kc, ks) Q) (e_q2 : s0 = .index q2 := by first | rfl | assumption) (c1 : In3 s2 := by first | omega | assumption | (simp only [mk_len, List.length_map]; omega) | decide) (c5 : s1 < a3.length := by first | omega | assumption | (simp only [mk_len, List.length_map]; omega) | decide) (c6 : 0 ≤ s1 := by first | omega | assumption | (simp only [mk_len, List.length_map]; omega) | decide) (c7 : In3 s1 := by first | omega | assumption | (simp only [mk_len, List.length_map]; omega) | decide) (c8 : 0 < q2 := by first | omega | assumption | (simp only [mk_len, List.length_map]; omega) | decide) : wr P d sw_c360 sw_h360 (7, [r0, vl x1, t2, r3, t4], [vi s2, vi s1, s0], h, kc, ks) Q := by
  refine w_i2l rfl c1 ?_
  subst e_q2
  refine w_last rfl g4 (Nat.ble_eq_true_of_le c8) c7 c6 c5 ?_
  refine w_goto rfl ?_
  exact k

theorem k360_14 {P : s_P} {d : Nat} {Q : s_O → Prop} {h : s_H} {kc ks : Nat} {r0 : Term} {x1 : Int} {t2 r3 t4 : Term}  (k : Q (.inl (some (vi 1)), h, kc, ks))   : wr P d sw_c360 sw_h360 (14, [r0, vl x1, t2, r3, t4], [], h, kc, ks) Q := by
  refine w_c32 rfl (by decide) 1 (by decide) ?_
  exact w_iret rfl k

theorem k360_16 {P : s_P} {d : Nat} {Q : s_O → Prop} {h : s_H} {kc ks : Nat} {r0 : Term} {x1 : Int} {t2 r3 t4 : Term}  (k : Q (.inl (some (vi 0)), h, kc, ks))   : wr P d sw_c360 sw_h360 (16, [r0, vl x1, t2, r3, t4], [], h, kc, ks) Q := by
  refine w_c32 rfl (by decide) 0 (by decide) ?_
  exact w_iret rfl k

/-! 361: FormulaWorksLaw.obeys(LFormulaWorks;II[J)I -/
theorem k361_0 {P : s_P} {d : Nat} {Q : s_O → Prop} {h : s_H} {kc ks : Nat} {r0 : Term} {x1 x2 : Int} {r3 t4 : Term} {q3 : Nat} {f4 : List Term} (g5 : s_get h q3 = some (1, 10, f4)) (k : wm P d 63 [.index q3, vi x1, vi x2] h (wq P d sw_c361 sw_h361 8 [.index q3, vi x1, vi x2, r3, t4] [vi 0, r3] kc ks Q)) (e_q3 : r0 = .index q3 := by first | rfl | assumption) (y1 : s_ty r3 = 3 := by first | rfl | assumption) (y2 : s_ty r0 = 3 := by first | rfl | assumption)  : wr P d sw_c361 sw_h361 (0, [r0, vi x1, vi x2, r3, t4], [], h, kc, ks) Q := by
  refine w_ld rfl rfl (Or.inr (Or.inr ⟨by decide, y1⟩)) ?_
  refine w_c32 rfl (by decide) 0 (by decide) ?_
  refine w_ld rfl rfl (Or.inr (Or.inr ⟨by decide, y2⟩)) ?_
  refine w_ld rfl rfl (Or.inl ⟨by decide, rfl⟩) ?_
  refine w_ld rfl rfl (Or.inl ⟨by decide, rfl⟩) ?_
  subst e_q3
  exact w_cv rfl [.index q3, vi x1, vi x2] [vi 0, r3] rfl rfl (s_wt_4 rfl) rfl g5 k

theorem k361_8 {P : s_P} {d : Nat} {Q : s_O → Prop} {h : s_H} {kc ks : Nat} {r0 : Term} {x1 x2 : Int} {r3 t4 s0 : Term} {s1 s2 : Int}  (k1 : s2 = 0 → wr P d sw_c361 sw_h361 (15, [r0, vi x1, vi x2, r3, t4], [vi s1, s0], h, kc, ks) Q) (k2 : ¬ s2 = 0 → wr P d sw_c361 sw_h361 (11, [r0, vi x1, vi x2, r3, t4], [vi s1, s0], h, kc, ks) Q)  (c1 : In3 s2 := by first | omega | assumption | (simp only [mk_len, List.length_map]; omega) | decide) : wr P d sw_c361 sw_h361 (8, [r0, vi x1, vi x2, r3, t4], [vi s2, vi s1, s0], h, kc, ks) Q := by
  exact w_if1 rfl c1 k1 k2

theorem k361_11 {P : s_P} {d : Nat} {Q : s_O → Prop} {h : s_H} {kc ks : Nat} {r0 : Term} {x1 x2 : Int} {r3 t4 s0 : Term} {s1 : Int}  (k : wr P d sw_c361 sw_h361 (16, [r0, vi x1, vi x2, r3, t4], [vl 1, vi s1, s0], h, kc, ks) Q)   : wr P d sw_c361 sw_h361 (11, [r0, vi x1, vi x2, r3, t4], [vi s1, s0], h, kc, ks) Q := by
  refine w_c64 rfl (by decide) 1 (by decide) ?_
  refine w_goto rfl ?_
  exact k

theorem k361_15 {P : s_P} {d : Nat} {Q : s_O → Prop} {h : s_H} {kc ks : Nat} {r0 : Term} {x1 x2 : Int} {r3 t4 s0 : Term} {s1 : Int}  (k : wr P d sw_c361 sw_h361 (16, [r0, vi x1, vi x2, r3, t4], [vl 0, vi s1, s0], h, kc, ks) Q)   : wr P d sw_c361 sw_h361 (15, [r0, vi x1, vi x2, r3, t4], [vi s1, s0], h, kc, ks) Q := by
  refine w_c64 rfl (by decide) 0 (by decide) ?_
  exact k

theorem k361_16 {P : s_P} {d : Nat} {Q : s_O → Prop} {h : s_H} {kc ks : Nat} {r0 : Term} {x1 x2 : Int} {r3 t4 s0 : Term} {s1 s2 : Int} {q1 : Nat} {a2 : List Int} (g3 : s_get h q1 = some (0, 1, a2.map vl)) (k : wr P d sw_c361 sw_h361 (28, [r0, vi x1, vi x2, r3, t4], [], (hp h q1 (0, 1, (a2.set (Int.toNat (s1)) s2).map vl)), kc, ks) Q) (e_q1 : s0 = .index q1 := by first | rfl | assumption) (c4 : s1 < a2.length := by first | omega | assumption | (simp only [mk_len, List.length_map]; omega) | decide) (c5 : 0 ≤ s1 := by first | omega | assumption | (simp only [mk_len, List.length_map]; omega) | decide) (c6 : In3 s1 := by first | omega | assumption | (simp only [mk_len, List.length_map]; omega) | decide) (c7 : 0 < q1 := by first | omega | assumption | (simp only [mk_len, List.length_map]; omega) | decide) : wr P d sw_c361 sw_h361 (16, [r0, vi x1, vi x2, r3, t4], [vl s2, vi s1, s0], h, kc, ks) Q := by
  subst e_q1
  refine w_last rfl g3 (Nat.ble_eq_true_of_le c7) c6 c5 c4 ?_
  refine w_goto rfl ?_
  exact k

theorem k361_22 {P : s_P} {d : Nat} {Q : s_O → Prop} {h : s_H} {kc ks : Nat} {r0 : Term} {x1 x2 : Int} {r3 t4 : Term}  (k : Q (.inl (some (vi 1)), h, kc, ks))   : wr P d sw_c361 sw_h361 (22, [r0, vi x1, vi x2, r3, t4], [], h, kc, ks) Q := by
  refine w_c32 rfl (by decide) 1 (by decide) ?_
  exact w_iret rfl k

theorem k361_26 {P : s_P} {d : Nat} {Q : s_O → Prop} {h : s_H} {kc ks : Nat} {r0 : Term} {x1 x2 : Int} {r3 t4 : Term}  (k : Q (.inl (some (vi 2)), h, kc, ks))   : wr P d sw_c361 sw_h361 (26, [r0, vi x1, vi x2, r3, t4], [], h, kc, ks) Q := by
  refine w_c32 rfl (by decide) 2 (by decide) ?_
  exact w_iret rfl k

theorem k361_28 {P : s_P} {d : Nat} {Q : s_O → Prop} {h : s_H} {kc ks : Nat} {r0 : Term} {x1 x2 : Int} {r3 t4 : Term}  (k : Q (.inl (some (vi 0)), h, kc, ks))   : wr P d sw_c361 sw_h361 (28, [r0, vi x1, vi x2, r3, t4], [], h, kc, ks) Q := by
  refine w_c32 rfl (by decide) 0 (by decide) ?_
  exact w_iret rfl k

/-! 362: FormulaWorksLaw.often(LFormulaWorks;II[J)I -/
theorem k362_0 {P : s_P} {d : Nat} {Q : s_O → Prop} {h : s_H} {kc ks : Nat} {r0 : Term} {x1 x2 : Int} {r3 t4 : Term} {q3 : Nat} {f4 : List Term} (g5 : s_get h q3 = some (1, 10, f4)) (k : wm P d 65 [.index q3, vi x1, vi x2] h (wq P d sw_c362 sw_h362 8 [.index q3, vi x1, vi x2, r3, t4] [vi 0, r3] kc ks Q)) (e_q3 : r0 = .index q3 := by first | rfl | assumption) (y1 : s_ty r3 = 3 := by first | rfl | assumption) (y2 : s_ty r0 = 3 := by first | rfl | assumption)  : wr P d sw_c362 sw_h362 (0, [r0, vi x1, vi x2, r3, t4], [], h, kc, ks) Q := by
  refine w_ld rfl rfl (Or.inr (Or.inr ⟨by decide, y1⟩)) ?_
  refine w_c32 rfl (by decide) 0 (by decide) ?_
  refine w_ld rfl rfl (Or.inr (Or.inr ⟨by decide, y2⟩)) ?_
  refine w_ld rfl rfl (Or.inl ⟨by decide, rfl⟩) ?_
  refine w_ld rfl rfl (Or.inl ⟨by decide, rfl⟩) ?_
  subst e_q3
  exact w_cv rfl [.index q3, vi x1, vi x2] [vi 0, r3] rfl rfl (s_wt_4 rfl) rfl g5 k

theorem k362_8 {P : s_P} {d : Nat} {Q : s_O → Prop} {h : s_H} {kc ks : Nat} {r0 : Term} {x1 x2 : Int} {r3 t4 s0 : Term} {s1 s2 : Int} {q2 : Nat} {a3 : List Int} (g4 : s_get h q2 = some (0, 1, a3.map vl)) (k : wr P d sw_c362 sw_h362 (21, [r0, vi x1, vi x2, r3, t4], [], (hp h q2 (0, 1, (a3.set (Int.toNat (s1)) s2).map vl)), kc, ks) Q) (e_q2 : s0 = .index q2 := by first | rfl | assumption) (c1 : In3 s2 := by first | omega | assumption | (simp only [mk_len, List.length_map]; omega) | decide) (c5 : s1 < a3.length := by first | omega | assumption | (simp only [mk_len, List.length_map]; omega) | decide) (c6 : 0 ≤ s1 := by first | omega | assumption | (simp only [mk_len, List.length_map]; omega) | decide) (c7 : In3 s1 := by first | omega | assumption | (simp only [mk_len, List.length_map]; omega) | decide) (c8 : 0 < q2 := by first | omega | assumption | (simp only [mk_len, List.length_map]; omega) | decide) : wr P d sw_c362 sw_h362 (8, [r0, vi x1, vi x2, r3, t4], [vi s2, vi s1, s0], h, kc, ks) Q := by
  refine w_i2l rfl c1 ?_
  subst e_q2
  refine w_last rfl g4 (Nat.ble_eq_true_of_le c8) c7 c6 c5 ?_
  refine w_goto rfl ?_
  exact k

theorem k362_15 {P : s_P} {d : Nat} {Q : s_O → Prop} {h : s_H} {kc ks : Nat} {r0 : Term} {x1 x2 : Int} {r3 t4 : Term}  (k : Q (.inl (some (vi 1)), h, kc, ks))   : wr P d sw_c362 sw_h362 (15, [r0, vi x1, vi x2, r3, t4], [], h, kc, ks) Q := by
  refine w_c32 rfl (by decide) 1 (by decide) ?_
  exact w_iret rfl k

theorem k362_19 {P : s_P} {d : Nat} {Q : s_O → Prop} {h : s_H} {kc ks : Nat} {r0 : Term} {x1 x2 : Int} {r3 t4 : Term}  (k : Q (.inl (some (vi 2)), h, kc, ks))   : wr P d sw_c362 sw_h362 (19, [r0, vi x1, vi x2, r3, t4], [], h, kc, ks) Q := by
  refine w_c32 rfl (by decide) 2 (by decide) ?_
  exact w_iret rfl k

theorem k362_21 {P : s_P} {d : Nat} {Q : s_O → Prop} {h : s_H} {kc ks : Nat} {r0 : Term} {x1 x2 : Int} {r3 t4 : Term}  (k : Q (.inl (some (vi 0)), h, kc, ks))   : wr P d sw_c362 sw_h362 (21, [r0, vi x1, vi x2, r3, t4], [], h, kc, ks) Q := by
  refine w_c32 rfl (by decide) 0 (by decide) ?_
  exact w_iret rfl k

/-! 363: FormulaWorksLaw.over(LFormulaWorks;II[J)I -/
theorem k363_0 {P : s_P} {d : Nat} {Q : s_O → Prop} {h : s_H} {kc ks : Nat} {r0 : Term} {x1 x2 : Int} {r3 t4 : Term} {q3 : Nat} {f4 : List Term} (g5 : s_get h q3 = some (1, 10, f4)) (k : wm P d 66 [.index q3, vi x1, vi x2] h (wq P d sw_c363 sw_h363 8 [.index q3, vi x1, vi x2, r3, t4] [vi 0, r3] kc ks Q)) (e_q3 : r0 = .index q3 := by first | rfl | assumption) (y1 : s_ty r3 = 3 := by first | rfl | assumption) (y2 : s_ty r0 = 3 := by first | rfl | assumption)  : wr P d sw_c363 sw_h363 (0, [r0, vi x1, vi x2, r3, t4], [], h, kc, ks) Q := by
  refine w_ld rfl rfl (Or.inr (Or.inr ⟨by decide, y1⟩)) ?_
  refine w_c32 rfl (by decide) 0 (by decide) ?_
  refine w_ld rfl rfl (Or.inr (Or.inr ⟨by decide, y2⟩)) ?_
  refine w_ld rfl rfl (Or.inl ⟨by decide, rfl⟩) ?_
  refine w_ld rfl rfl (Or.inl ⟨by decide, rfl⟩) ?_
  subst e_q3
  exact w_cv rfl [.index q3, vi x1, vi x2] [vi 0, r3] rfl rfl (s_wt_4 rfl) rfl g5 k

theorem k363_8 {P : s_P} {d : Nat} {Q : s_O → Prop} {h : s_H} {kc ks : Nat} {r0 : Term} {x1 x2 : Int} {r3 t4 s0 : Term} {s1 s2 : Int} {q2 : Nat} {a3 : List Int} (g4 : s_get h q2 = some (0, 1, a3.map vl)) (k : wr P d sw_c363 sw_h363 (29, [r0, vi x1, vi x2, r3, t4], [], (hp h q2 (0, 1, (a3.set (Int.toNat (s1)) s2).map vl)), kc, ks) Q) (e_q2 : s0 = .index q2 := by first | rfl | assumption) (c1 : In3 s2 := by first | omega | assumption | (simp only [mk_len, List.length_map]; omega) | decide) (c5 : s1 < a3.length := by first | omega | assumption | (simp only [mk_len, List.length_map]; omega) | decide) (c6 : 0 ≤ s1 := by first | omega | assumption | (simp only [mk_len, List.length_map]; omega) | decide) (c7 : In3 s1 := by first | omega | assumption | (simp only [mk_len, List.length_map]; omega) | decide) (c8 : 0 < q2 := by first | omega | assumption | (simp only [mk_len, List.length_map]; omega) | decide) : wr P d sw_c363 sw_h363 (8, [r0, vi x1, vi x2, r3, t4], [vi s2, vi s1, s0], h, kc, ks) Q := by
  refine w_i2l rfl c1 ?_
  subst e_q2
  refine w_last rfl g4 (Nat.ble_eq_true_of_le c8) c7 c6 c5 ?_
  refine w_goto rfl ?_
  exact k

theorem k363_15 {P : s_P} {d : Nat} {Q : s_O → Prop} {h : s_H} {kc ks : Nat} {r0 : Term} {x1 x2 : Int} {r3 t4 : Term}  (k : Q (.inl (some (vi 1)), h, kc, ks))   : wr P d sw_c363 sw_h363 (15, [r0, vi x1, vi x2, r3, t4], [], h, kc, ks) Q := by
  refine w_c32 rfl (by decide) 1 (by decide) ?_
  exact w_iret rfl k

theorem k363_19 {P : s_P} {d : Nat} {Q : s_O → Prop} {h : s_H} {kc ks : Nat} {r0 : Term} {x1 x2 : Int} {r3 t4 : Term}  (k : Q (.inl (some (vi 2)), h, kc, ks))   : wr P d sw_c363 sw_h363 (19, [r0, vi x1, vi x2, r3, t4], [], h, kc, ks) Q := by
  refine w_c32 rfl (by decide) 2 (by decide) ?_
  exact w_iret rfl k

theorem k363_23 {P : s_P} {d : Nat} {Q : s_O → Prop} {h : s_H} {kc ks : Nat} {r0 : Term} {x1 x2 : Int} {r3 t4 : Term}  (k : Q (.inl (some (vi 3)), h, kc, ks))   : wr P d sw_c363 sw_h363 (23, [r0, vi x1, vi x2, r3, t4], [], h, kc, ks) Q := by
  refine w_c32 rfl (by decide) 3 (by decide) ?_
  exact w_iret rfl k

theorem k363_27 {P : s_P} {d : Nat} {Q : s_O → Prop} {h : s_H} {kc ks : Nat} {r0 : Term} {x1 x2 : Int} {r3 t4 : Term}  (k : Q (.inl (some (vi 4)), h, kc, ks))   : wr P d sw_c363 sw_h363 (27, [r0, vi x1, vi x2, r3, t4], [], h, kc, ks) Q := by
  refine w_c32 rfl (by decide) 4 (by decide) ?_
  exact w_iret rfl k

theorem k363_29 {P : s_P} {d : Nat} {Q : s_O → Prop} {h : s_H} {kc ks : Nat} {r0 : Term} {x1 x2 : Int} {r3 t4 : Term}  (k : Q (.inl (some (vi 0)), h, kc, ks))   : wr P d sw_c363 sw_h363 (29, [r0, vi x1, vi x2, r3, t4], [], h, kc, ks) Q := by
  refine w_c32 rfl (by decide) 0 (by decide) ?_
  exact w_iret rfl k

/-! 364: FormulaWorksLaw.own(LFormulaWorks;I[J)I -/
theorem k364_0 {P : s_P} {d : Nat} {Q : s_O → Prop} {h : s_H} {kc ks : Nat} {r0 : Term} {x1 : Int} {r2 t3 : Term} {q3 : Nat} {f4 : List Term} (g5 : s_get h q3 = some (1, 10, f4)) (k : wm P d 67 [.index q3, vi x1] h (wq P d sw_c364 sw_h364 7 [.index q3, vi x1, r2, t3] [vi 0, r2] kc ks Q)) (e_q3 : r0 = .index q3 := by first | rfl | assumption) (y1 : s_ty r2 = 3 := by first | rfl | assumption) (y2 : s_ty r0 = 3 := by first | rfl | assumption)  : wr P d sw_c364 sw_h364 (0, [r0, vi x1, r2, t3], [], h, kc, ks) Q := by
  refine w_ld rfl rfl (Or.inr (Or.inr ⟨by decide, y1⟩)) ?_
  refine w_c32 rfl (by decide) 0 (by decide) ?_
  refine w_ld rfl rfl (Or.inr (Or.inr ⟨by decide, y2⟩)) ?_
  refine w_ld rfl rfl (Or.inl ⟨by decide, rfl⟩) ?_
  subst e_q3
  exact w_cv rfl [.index q3, vi x1] [vi 0, r2] rfl rfl (s_wt_4 rfl) rfl g5 k

theorem k364_7 {P : s_P} {d : Nat} {Q : s_O → Prop} {h : s_H} {kc ks : Nat} {r0 : Term} {x1 : Int} {r2 t3 s0 : Term} {s1 s2 : Int} {q2 : Nat} {a3 : List Int} (g4 : s_get h q2 = some (0, 1, a3.map vl)) (k : wr P d sw_c364 sw_h364 (21, [r0, vi x1, r2, t3], [], (hp h q2 (0, 1, (a3.set (Int.toNat (s1)) s2).map vl)), kc, ks) Q) (e_q2 : s0 = .index q2 := by first | rfl | assumption) (c1 : In3 s2 := by first | omega | assumption | (simp only [mk_len, List.length_map]; omega) | decide) (c5 : s1 < a3.length := by first | omega | assumption | (simp only [mk_len, List.length_map]; omega) | decide) (c6 : 0 ≤ s1 := by first | omega | assumption | (simp only [mk_len, List.length_map]; omega) | decide) (c7 : In3 s1 := by first | omega | assumption | (simp only [mk_len, List.length_map]; omega) | decide) (c8 : 0 < q2 := by first | omega | assumption | (simp only [mk_len, List.length_map]; omega) | decide) : wr P d sw_c364 sw_h364 (7, [r0, vi x1, r2, t3], [vi s2, vi s1, s0], h, kc, ks) Q := by
  refine w_i2l rfl c1 ?_
  subst e_q2
  refine w_last rfl g4 (Nat.ble_eq_true_of_le c8) c7 c6 c5 ?_
  refine w_goto rfl ?_
  exact k

theorem k364_13 {P : s_P} {d : Nat} {Q : s_O → Prop} {h : s_H} {kc ks : Nat} {r0 : Term} {x1 : Int} {r2 t3 : Term}  (k : Q (.inl (some (vi 1)), h, kc, ks))   : wr P d sw_c364 sw_h364 (13, [r0, vi x1, r2, t3], [], h, kc, ks) Q := by
  refine w_c32 rfl (by decide) 1 (by decide) ?_
  exact w_iret rfl k

theorem k364_16 {P : s_P} {d : Nat} {Q : s_O → Prop} {h : s_H} {kc ks : Nat} {r0 : Term} {x1 : Int} {r2 t3 : Term}  (k : Q (.inl (some (vi 2)), h, kc, ks))   : wr P d sw_c364 sw_h364 (16, [r0, vi x1, r2, t3], [], h, kc, ks) Q := by
  refine w_c32 rfl (by decide) 2 (by decide) ?_
  exact w_iret rfl k

theorem k364_19 {P : s_P} {d : Nat} {Q : s_O → Prop} {h : s_H} {kc ks : Nat} {r0 : Term} {x1 : Int} {r2 t3 : Term}  (k : Q (.inl (some (vi 3)), h, kc, ks))   : wr P d sw_c364 sw_h364 (19, [r0, vi x1, r2, t3], [], h, kc, ks) Q := by
  refine w_c32 rfl (by decide) 3 (by decide) ?_
  exact w_iret rfl k

theorem k364_21 {P : s_P} {d : Nat} {Q : s_O → Prop} {h : s_H} {kc ks : Nat} {r0 : Term} {x1 : Int} {r2 t3 : Term}  (k : Q (.inl (some (vi 0)), h, kc, ks))   : wr P d sw_c364 sw_h364 (21, [r0, vi x1, r2, t3], [], h, kc, ks) Q := by
  refine w_c32 rfl (by decide) 0 (by decide) ?_
  exact w_iret rfl k

/-! 365: FormulaWorksLaw.part(LFormulaWorks;III[J)I -/
theorem k365_0 {P : s_P} {d : Nat} {Q : s_O → Prop} {h : s_H} {kc ks : Nat} {r0 : Term} {x1 x2 x3 : Int} {r4 t5 : Term} {q3 : Nat} {f4 : List Term} (g5 : s_get h q3 = some (1, 10, f4)) (k : wm P d 68 [.index q3, vi x1, vi x2, vi x3] h (wq P d sw_c365 sw_h365 10 [.index q3, vi x1, vi x2, vi x3, r4, t5] [vi 0, r4] kc ks Q)) (e_q3 : r0 = .index q3 := by first | rfl | assumption) (y1 : s_ty r4 = 3 := by first | rfl | assumption) (y2 : s_ty r0 = 3 := by first | rfl | assumption)  : wr P d sw_c365 sw_h365 (0, [r0, vi x1, vi x2, vi x3, r4, t5], [], h, kc, ks) Q := by
  refine w_ld rfl rfl (Or.inr (Or.inr ⟨by decide, y1⟩)) ?_
  refine w_c32 rfl (by decide) 0 (by decide) ?_
  refine w_ld rfl rfl (Or.inr (Or.inr ⟨by decide, y2⟩)) ?_
  refine w_ld rfl rfl (Or.inl ⟨by decide, rfl⟩) ?_
  refine w_ld rfl rfl (Or.inl ⟨by decide, rfl⟩) ?_
  refine w_ld rfl rfl (Or.inl ⟨by decide, rfl⟩) ?_
  subst e_q3
  exact w_cv rfl [.index q3, vi x1, vi x2, vi x3] [vi 0, r4] rfl rfl (s_wt_4 rfl) rfl g5 k

theorem k365_10 {P : s_P} {d : Nat} {Q : s_O → Prop} {h : s_H} {kc ks : Nat} {r0 : Term} {x1 x2 x3 : Int} {r4 t5 s0 : Term} {s1 s2 : Int} {q2 : Nat} {a3 : List Int} (g4 : s_get h q2 = some (0, 1, a3.map vl)) (k : wr P d sw_c365 sw_h365 (27, [r0, vi x1, vi x2, vi x3, r4, t5], [], (hp h q2 (0, 1, (a3.set (Int.toNat (s1)) s2).map vl)), kc, ks) Q) (e_q2 : s0 = .index q2 := by first | rfl | assumption) (c1 : In3 s2 := by first | omega | assumption | (simp only [mk_len, List.length_map]; omega) | decide) (c5 : s1 < a3.length := by first | omega | assumption | (simp only [mk_len, List.length_map]; omega) | decide) (c6 : 0 ≤ s1 := by first | omega | assumption | (simp only [mk_len, List.length_map]; omega) | decide) (c7 : In3 s1 := by first | omega | assumption | (simp only [mk_len, List.length_map]; omega) | decide) (c8 : 0 < q2 := by first | omega | assumption | (simp only [mk_len, List.length_map]; omega) | decide) : wr P d sw_c365 sw_h365 (10, [r0, vi x1, vi x2, vi x3, r4, t5], [vi s2, vi s1, s0], h, kc, ks) Q := by
  refine w_i2l rfl c1 ?_
  subst e_q2
  refine w_last rfl g4 (Nat.ble_eq_true_of_le c8) c7 c6 c5 ?_
  refine w_goto rfl ?_
  exact k

theorem k365_17 {P : s_P} {d : Nat} {Q : s_O → Prop} {h : s_H} {kc ks : Nat} {r0 : Term} {x1 x2 x3 : Int} {r4 t5 : Term}  (k : Q (.inl (some (vi 1)), h, kc, ks))   : wr P d sw_c365 sw_h365 (17, [r0, vi x1, vi x2, vi x3, r4, t5], [], h, kc, ks) Q := by
  refine w_c32 rfl (by decide) 1 (by decide) ?_
  exact w_iret rfl k

theorem k365_21 {P : s_P} {d : Nat} {Q : s_O → Prop} {h : s_H} {kc ks : Nat} {r0 : Term} {x1 x2 x3 : Int} {r4 t5 : Term}  (k : Q (.inl (some (vi 2)), h, kc, ks))   : wr P d sw_c365 sw_h365 (21, [r0, vi x1, vi x2, vi x3, r4, t5], [], h, kc, ks) Q := by
  refine w_c32 rfl (by decide) 2 (by decide) ?_
  exact w_iret rfl k

theorem k365_25 {P : s_P} {d : Nat} {Q : s_O → Prop} {h : s_H} {kc ks : Nat} {r0 : Term} {x1 x2 x3 : Int} {r4 t5 : Term}  (k : Q (.inl (some (vi 3)), h, kc, ks))   : wr P d sw_c365 sw_h365 (25, [r0, vi x1, vi x2, vi x3, r4, t5], [], h, kc, ks) Q := by
  refine w_c32 rfl (by decide) 3 (by decide) ?_
  exact w_iret rfl k

theorem k365_27 {P : s_P} {d : Nat} {Q : s_O → Prop} {h : s_H} {kc ks : Nat} {r0 : Term} {x1 x2 x3 : Int} {r4 t5 : Term}  (k : Q (.inl (some (vi 0)), h, kc, ks))   : wr P d sw_c365 sw_h365 (27, [r0, vi x1, vi x2, vi x3, r4, t5], [], h, kc, ks) Q := by
  refine w_c32 rfl (by decide) 0 (by decide) ?_
  exact w_iret rfl k

/-! 366: FormulaWorksLaw.power(LFormulaWorks;II[J)I -/
theorem k366_0 {P : s_P} {d : Nat} {Q : s_O → Prop} {h : s_H} {kc ks : Nat} {r0 : Term} {x1 x2 : Int} {r3 t4 : Term} {q3 : Nat} {f4 : List Term} (g5 : s_get h q3 = some (1, 10, f4)) (k : wm P d 69 [.index q3, vi x1, vi x2] h (wq P d sw_c366 sw_h366 8 [.index q3, vi x1, vi x2, r3, t4] [vi 0, r3] kc ks Q)) (e_q3 : r0 = .index q3 := by first | rfl | assumption) (y1 : s_ty r3 = 3 := by first | rfl | assumption) (y2 : s_ty r0 = 3 := by first | rfl | assumption)  : wr P d sw_c366 sw_h366 (0, [r0, vi x1, vi x2, r3, t4], [], h, kc, ks) Q := by
  refine w_ld rfl rfl (Or.inr (Or.inr ⟨by decide, y1⟩)) ?_
  refine w_c32 rfl (by decide) 0 (by decide) ?_
  refine w_ld rfl rfl (Or.inr (Or.inr ⟨by decide, y2⟩)) ?_
  refine w_ld rfl rfl (Or.inl ⟨by decide, rfl⟩) ?_
  refine w_ld rfl rfl (Or.inl ⟨by decide, rfl⟩) ?_
  subst e_q3
  exact w_cv rfl [.index q3, vi x1, vi x2] [vi 0, r3] rfl rfl (s_wt_4 rfl) rfl g5 k

theorem k366_8 {P : s_P} {d : Nat} {Q : s_O → Prop} {h : s_H} {kc ks : Nat} {r0 : Term} {x1 x2 : Int} {r3 t4 s0 : Term} {s1 s2 : Int} {q2 : Nat} {a3 : List Int} (g4 : s_get h q2 = some (0, 1, a3.map vl)) (k : wr P d sw_c366 sw_h366 (25, [r0, vi x1, vi x2, r3, t4], [], (hp h q2 (0, 1, (a3.set (Int.toNat (s1)) s2).map vl)), kc, ks) Q) (e_q2 : s0 = .index q2 := by first | rfl | assumption) (c1 : In3 s2 := by first | omega | assumption | (simp only [mk_len, List.length_map]; omega) | decide) (c5 : s1 < a3.length := by first | omega | assumption | (simp only [mk_len, List.length_map]; omega) | decide) (c6 : 0 ≤ s1 := by first | omega | assumption | (simp only [mk_len, List.length_map]; omega) | decide) (c7 : In3 s1 := by first | omega | assumption | (simp only [mk_len, List.length_map]; omega) | decide) (c8 : 0 < q2 := by first | omega | assumption | (simp only [mk_len, List.length_map]; omega) | decide) : wr P d sw_c366 sw_h366 (8, [r0, vi x1, vi x2, r3, t4], [vi s2, vi s1, s0], h, kc, ks) Q := by
  refine w_i2l rfl c1 ?_
  subst e_q2
  refine w_last rfl g4 (Nat.ble_eq_true_of_le c8) c7 c6 c5 ?_
  refine w_goto rfl ?_
  exact k

theorem k366_15 {P : s_P} {d : Nat} {Q : s_O → Prop} {h : s_H} {kc ks : Nat} {r0 : Term} {x1 x2 : Int} {r3 t4 : Term}  (k : Q (.inl (some (vi 1)), h, kc, ks))   : wr P d sw_c366 sw_h366 (15, [r0, vi x1, vi x2, r3, t4], [], h, kc, ks) Q := by
  refine w_c32 rfl (by decide) 1 (by decide) ?_
  exact w_iret rfl k

theorem k366_19 {P : s_P} {d : Nat} {Q : s_O → Prop} {h : s_H} {kc ks : Nat} {r0 : Term} {x1 x2 : Int} {r3 t4 : Term}  (k : Q (.inl (some (vi 2)), h, kc, ks))   : wr P d sw_c366 sw_h366 (19, [r0, vi x1, vi x2, r3, t4], [], h, kc, ks) Q := by
  refine w_c32 rfl (by decide) 2 (by decide) ?_
  exact w_iret rfl k

theorem k366_23 {P : s_P} {d : Nat} {Q : s_O → Prop} {h : s_H} {kc ks : Nat} {r0 : Term} {x1 x2 : Int} {r3 t4 : Term}  (k : Q (.inl (some (vi 3)), h, kc, ks))   : wr P d sw_c366 sw_h366 (23, [r0, vi x1, vi x2, r3, t4], [], h, kc, ks) Q := by
  refine w_c32 rfl (by decide) 3 (by decide) ?_
  exact w_iret rfl k

theorem k366_25 {P : s_P} {d : Nat} {Q : s_O → Prop} {h : s_H} {kc ks : Nat} {r0 : Term} {x1 x2 : Int} {r3 t4 : Term}  (k : Q (.inl (some (vi 0)), h, kc, ks))   : wr P d sw_c366 sw_h366 (25, [r0, vi x1, vi x2, r3, t4], [], h, kc, ks) Q := by
  refine w_c32 rfl (by decide) 0 (by decide) ?_
  exact w_iret rfl k

/-! 367: FormulaWorksLaw.printed(LFormulaWorks;I[J)I -/
theorem k367_0 {P : s_P} {d : Nat} {Q : s_O → Prop} {h : s_H} {kc ks : Nat} {r0 : Term} {x1 : Int} {r2 t3 : Term} {q3 : Nat} {f4 : List Term} (g5 : s_get h q3 = some (1, 10, f4)) (k : wm P d 70 [.index q3, vi x1] h (wq P d sw_c367 sw_h367 7 [.index q3, vi x1, r2, t3] [vi 0, r2] kc ks Q)) (e_q3 : r0 = .index q3 := by first | rfl | assumption) (y1 : s_ty r2 = 3 := by first | rfl | assumption) (y2 : s_ty r0 = 3 := by first | rfl | assumption)  : wr P d sw_c367 sw_h367 (0, [r0, vi x1, r2, t3], [], h, kc, ks) Q := by
  refine w_ld rfl rfl (Or.inr (Or.inr ⟨by decide, y1⟩)) ?_
  refine w_c32 rfl (by decide) 0 (by decide) ?_
  refine w_ld rfl rfl (Or.inr (Or.inr ⟨by decide, y2⟩)) ?_
  refine w_ld rfl rfl (Or.inl ⟨by decide, rfl⟩) ?_
  subst e_q3
  exact w_cv rfl [.index q3, vi x1] [vi 0, r2] rfl rfl (s_wt_4 rfl) rfl g5 k

theorem k367_7 {P : s_P} {d : Nat} {Q : s_O → Prop} {h : s_H} {kc ks : Nat} {r0 : Term} {x1 : Int} {r2 t3 s0 : Term} {s1 s2 : Int} {q2 : Nat} {a3 : List Int} (g4 : s_get h q2 = some (0, 1, a3.map vl)) (k : wr P d sw_c367 sw_h367 (18, [r0, vi x1, r2, t3], [], (hp h q2 (0, 1, (a3.set (Int.toNat (s1)) s2).map vl)), kc, ks) Q) (e_q2 : s0 = .index q2 := by first | rfl | assumption) (c1 : In3 s2 := by first | omega | assumption | (simp only [mk_len, List.length_map]; omega) | decide) (c5 : s1 < a3.length := by first | omega | assumption | (simp only [mk_len, List.length_map]; omega) | decide) (c6 : 0 ≤ s1 := by first | omega | assumption | (simp only [mk_len, List.length_map]; omega) | decide) (c7 : In3 s1 := by first | omega | assumption | (simp only [mk_len, List.length_map]; omega) | decide) (c8 : 0 < q2 := by first | omega | assumption | (simp only [mk_len, List.length_map]; omega) | decide) : wr P d sw_c367 sw_h367 (7, [r0, vi x1, r2, t3], [vi s2, vi s1, s0], h, kc, ks) Q := by
  refine w_i2l rfl c1 ?_
  subst e_q2
  refine w_last rfl g4 (Nat.ble_eq_true_of_le c8) c7 c6 c5 ?_
  refine w_goto rfl ?_
  exact k

theorem k367_13 {P : s_P} {d : Nat} {Q : s_O → Prop} {h : s_H} {kc ks : Nat} {r0 : Term} {x1 : Int} {r2 t3 : Term}  (k : Q (.inl (some (vi 1)), h, kc, ks))   : wr P d sw_c367 sw_h367 (13, [r0, vi x1, r2, t3], [], h, kc, ks) Q := by
  refine w_c32 rfl (by decide) 1 (by decide) ?_
  exact w_iret rfl k

theorem k367_16 {P : s_P} {d : Nat} {Q : s_O → Prop} {h : s_H} {kc ks : Nat} {r0 : Term} {x1 : Int} {r2 t3 : Term}  (k : Q (.inl (some (vi 2)), h, kc, ks))   : wr P d sw_c367 sw_h367 (16, [r0, vi x1, r2, t3], [], h, kc, ks) Q := by
  refine w_c32 rfl (by decide) 2 (by decide) ?_
  exact w_iret rfl k

theorem k367_18 {P : s_P} {d : Nat} {Q : s_O → Prop} {h : s_H} {kc ks : Nat} {r0 : Term} {x1 : Int} {r2 t3 : Term}  (k : Q (.inl (some (vi 0)), h, kc, ks))   : wr P d sw_c367 sw_h367 (18, [r0, vi x1, r2, t3], [], h, kc, ks) Q := by
  refine w_c32 rfl (by decide) 0 (by decide) ?_
  exact w_iret rfl k

/-! 368: FormulaWorksLaw.put(LFormulaWorks;II[J)I -/
theorem k368_0 {P : s_P} {d : Nat} {Q : s_O → Prop} {h : s_H} {kc ks : Nat} {r0 : Term} {x1 x2 : Int} {r3 t4 : Term} {q3 : Nat} {f4 : List Term} (g5 : s_get h q3 = some (1, 10, f4)) (k : wm P d 71 [.index q3, vi x1, vi x2] h (wq P d sw_c368 sw_h368 8 [.index q3, vi x1, vi x2, r3, t4] [vi 0, r3] kc ks Q)) (e_q3 : r0 = .index q3 := by first | rfl | assumption) (y1 : s_ty r3 = 3 := by first | rfl | assumption) (y2 : s_ty r0 = 3 := by first | rfl | assumption)  : wr P d sw_c368 sw_h368 (0, [r0, vi x1, vi x2, r3, t4], [], h, kc, ks) Q := by
  refine w_ld rfl rfl (Or.inr (Or.inr ⟨by decide, y1⟩)) ?_
  refine w_c32 rfl (by decide) 0 (by decide) ?_
  refine w_ld rfl rfl (Or.inr (Or.inr ⟨by decide, y2⟩)) ?_
  refine w_ld rfl rfl (Or.inl ⟨by decide, rfl⟩) ?_
  refine w_ld rfl rfl (Or.inl ⟨by decide, rfl⟩) ?_
  subst e_q3
  exact w_cv rfl [.index q3, vi x1, vi x2] [vi 0, r3] rfl rfl (s_wt_4 rfl) rfl g5 k

theorem k368_8 {P : s_P} {d : Nat} {Q : s_O → Prop} {h : s_H} {kc ks : Nat} {r0 : Term} {x1 x2 : Int} {r3 t4 s0 : Term} {s1 s2 : Int} {q2 : Nat} {a3 : List Int} (g4 : s_get h q2 = some (0, 1, a3.map vl)) (k : wr P d sw_c368 sw_h368 (29, [r0, vi x1, vi x2, r3, t4], [], (hp h q2 (0, 1, (a3.set (Int.toNat (s1)) s2).map vl)), kc, ks) Q) (e_q2 : s0 = .index q2 := by first | rfl | assumption) (c1 : In3 s2 := by first | omega | assumption | (simp only [mk_len, List.length_map]; omega) | decide) (c5 : s1 < a3.length := by first | omega | assumption | (simp only [mk_len, List.length_map]; omega) | decide) (c6 : 0 ≤ s1 := by first | omega | assumption | (simp only [mk_len, List.length_map]; omega) | decide) (c7 : In3 s1 := by first | omega | assumption | (simp only [mk_len, List.length_map]; omega) | decide) (c8 : 0 < q2 := by first | omega | assumption | (simp only [mk_len, List.length_map]; omega) | decide) : wr P d sw_c368 sw_h368 (8, [r0, vi x1, vi x2, r3, t4], [vi s2, vi s1, s0], h, kc, ks) Q := by
  refine w_i2l rfl c1 ?_
  subst e_q2
  refine w_last rfl g4 (Nat.ble_eq_true_of_le c8) c7 c6 c5 ?_
  refine w_goto rfl ?_
  exact k

theorem k368_15 {P : s_P} {d : Nat} {Q : s_O → Prop} {h : s_H} {kc ks : Nat} {r0 : Term} {x1 x2 : Int} {r3 t4 : Term}  (k : Q (.inl (some (vi 1)), h, kc, ks))   : wr P d sw_c368 sw_h368 (15, [r0, vi x1, vi x2, r3, t4], [], h, kc, ks) Q := by
  refine w_c32 rfl (by decide) 1 (by decide) ?_
  exact w_iret rfl k

theorem k368_19 {P : s_P} {d : Nat} {Q : s_O → Prop} {h : s_H} {kc ks : Nat} {r0 : Term} {x1 x2 : Int} {r3 t4 : Term}  (k : Q (.inl (some (vi 2)), h, kc, ks))   : wr P d sw_c368 sw_h368 (19, [r0, vi x1, vi x2, r3, t4], [], h, kc, ks) Q := by
  refine w_c32 rfl (by decide) 2 (by decide) ?_
  exact w_iret rfl k

theorem k368_23 {P : s_P} {d : Nat} {Q : s_O → Prop} {h : s_H} {kc ks : Nat} {r0 : Term} {x1 x2 : Int} {r3 t4 : Term}  (k : Q (.inl (some (vi 3)), h, kc, ks))   : wr P d sw_c368 sw_h368 (23, [r0, vi x1, vi x2, r3, t4], [], h, kc, ks) Q := by
  refine w_c32 rfl (by decide) 3 (by decide) ?_
  exact w_iret rfl k

theorem k368_27 {P : s_P} {d : Nat} {Q : s_O → Prop} {h : s_H} {kc ks : Nat} {r0 : Term} {x1 x2 : Int} {r3 t4 : Term}  (k : Q (.inl (some (vi 4)), h, kc, ks))   : wr P d sw_c368 sw_h368 (27, [r0, vi x1, vi x2, r3, t4], [], h, kc, ks) Q := by
  refine w_c32 rfl (by decide) 4 (by decide) ?_
  exact w_iret rfl k

theorem k368_29 {P : s_P} {d : Nat} {Q : s_O → Prop} {h : s_H} {kc ks : Nat} {r0 : Term} {x1 x2 : Int} {r3 t4 : Term}  (k : Q (.inl (some (vi 0)), h, kc, ks))   : wr P d sw_c368 sw_h368 (29, [r0, vi x1, vi x2, r3, t4], [], h, kc, ks) Q := by
  refine w_c32 rfl (by decide) 0 (by decide) ?_
  exact w_iret rfl k

/-! 369: FormulaWorksLaw.rank(LFormulaWorks;I[J)I -/
theorem k369_0 {P : s_P} {d : Nat} {Q : s_O → Prop} {h : s_H} {kc ks : Nat} {r0 : Term} {x1 : Int} {r2 t3 : Term} {q3 : Nat} {f4 : List Term} (g5 : s_get h q3 = some (1, 10, f4)) (k : wm P d 72 [.index q3, vi x1] h (wq P d sw_c369 sw_h369 7 [.index q3, vi x1, r2, t3] [vi 0, r2] kc ks Q)) (e_q3 : r0 = .index q3 := by first | rfl | assumption) (y1 : s_ty r2 = 3 := by first | rfl | assumption) (y2 : s_ty r0 = 3 := by first | rfl | assumption)  : wr P d sw_c369 sw_h369 (0, [r0, vi x1, r2, t3], [], h, kc, ks) Q := by
  refine w_ld rfl rfl (Or.inr (Or.inr ⟨by decide, y1⟩)) ?_
  refine w_c32 rfl (by decide) 0 (by decide) ?_
  refine w_ld rfl rfl (Or.inr (Or.inr ⟨by decide, y2⟩)) ?_
  refine w_ld rfl rfl (Or.inl ⟨by decide, rfl⟩) ?_
  subst e_q3
  exact w_cv rfl [.index q3, vi x1] [vi 0, r2] rfl rfl (s_wt_4 rfl) rfl g5 k

theorem k369_7 {P : s_P} {d : Nat} {Q : s_O → Prop} {h : s_H} {kc ks : Nat} {r0 : Term} {x1 : Int} {r2 t3 s0 : Term} {s1 s2 : Int} {q2 : Nat} {a3 : List Int} (g4 : s_get h q2 = some (0, 1, a3.map vl)) (k : wr P d sw_c369 sw_h369 (18, [r0, vi x1, r2, t3], [], (hp h q2 (0, 1, (a3.set (Int.toNat (s1)) s2).map vl)), kc, ks) Q) (e_q2 : s0 = .index q2 := by first | rfl | assumption) (c1 : In3 s2 := by first | omega | assumption | (simp only [mk_len, List.length_map]; omega) | decide) (c5 : s1 < a3.length := by first | omega | assumption | (simp only [mk_len, List.length_map]; omega) | decide) (c6 : 0 ≤ s1 := by first | omega | assumption | (simp only [mk_len, List.length_map]; omega) | decide) (c7 : In3 s1 := by first | omega | assumption | (simp only [mk_len, List.length_map]; omega) | decide) (c8 : 0 < q2 := by first | omega | assumption | (simp only [mk_len, List.length_map]; omega) | decide) : wr P d sw_c369 sw_h369 (7, [r0, vi x1, r2, t3], [vi s2, vi s1, s0], h, kc, ks) Q := by
  refine w_i2l rfl c1 ?_
  subst e_q2
  refine w_last rfl g4 (Nat.ble_eq_true_of_le c8) c7 c6 c5 ?_
  refine w_goto rfl ?_
  exact k

theorem k369_13 {P : s_P} {d : Nat} {Q : s_O → Prop} {h : s_H} {kc ks : Nat} {r0 : Term} {x1 : Int} {r2 t3 : Term}  (k : Q (.inl (some (vi 1)), h, kc, ks))   : wr P d sw_c369 sw_h369 (13, [r0, vi x1, r2, t3], [], h, kc, ks) Q := by
  refine w_c32 rfl (by decide) 1 (by decide) ?_
  exact w_iret rfl k

theorem k369_16 {P : s_P} {d : Nat} {Q : s_O → Prop} {h : s_H} {kc ks : Nat} {r0 : Term} {x1 : Int} {r2 t3 : Term}  (k : Q (.inl (some (vi 2)), h, kc, ks))   : wr P d sw_c369 sw_h369 (16, [r0, vi x1, r2, t3], [], h, kc, ks) Q := by
  refine w_c32 rfl (by decide) 2 (by decide) ?_
  exact w_iret rfl k

theorem k369_18 {P : s_P} {d : Nat} {Q : s_O → Prop} {h : s_H} {kc ks : Nat} {r0 : Term} {x1 : Int} {r2 t3 : Term}  (k : Q (.inl (some (vi 0)), h, kc, ks))   : wr P d sw_c369 sw_h369 (18, [r0, vi x1, r2, t3], [], h, kc, ks) Q := by
  refine w_c32 rfl (by decide) 0 (by decide) ?_
  exact w_iret rfl k

/-! 370: FormulaWorksLaw.read(LFormulaWorks;[J)I -/
theorem k370_0 {P : s_P} {d : Nat} {Q : s_O → Prop} {h : s_H} {kc ks : Nat} {r0 r1 t2 : Term} {q3 : Nat} {f4 : List Term} (g5 : s_get h q3 = some (1, 10, f4)) (k : wm P d 73 [.index q3] h (wq P d sw_c370 sw_h370 6 [.index q3, r1, t2] [vi 0, r1] kc ks Q)) (e_q3 : r0 = .index q3 := by first | rfl | assumption) (y1 : s_ty r1 = 3 := by first | rfl | assumption) (y2 : s_ty r0 = 3 := by first | rfl | assumption)  : wr P d sw_c370 sw_h370 (0, [r0, r1, t2], [], h, kc, ks) Q := by
  refine w_ld rfl rfl (Or.inr (Or.inr ⟨by decide, y1⟩)) ?_
  refine w_c32 rfl (by decide) 0 (by decide) ?_
  refine w_ld rfl rfl (Or.inr (Or.inr ⟨by decide, y2⟩)) ?_
  subst e_q3
  exact w_cv rfl [.index q3] [vi 0, r1] rfl rfl (s_wt_4 rfl) rfl g5 k

theorem k370_6 {P : s_P} {d : Nat} {Q : s_O → Prop} {h : s_H} {kc ks : Nat} {r0 r1 t2 s0 : Term} {s1 s2 : Int} {q2 : Nat} {a3 : List Int} (g4 : s_get h q2 = some (0, 1, a3.map vl)) (k : wr P d sw_c370 sw_h370 (17, [r0, r1, t2], [], (hp h q2 (0, 1, (a3.set (Int.toNat (s1)) s2).map vl)), kc, ks) Q) (e_q2 : s0 = .index q2 := by first | rfl | assumption) (c1 : In3 s2 := by first | omega | assumption | (simp only [mk_len, List.length_map]; omega) | decide) (c5 : s1 < a3.length := by first | omega | assumption | (simp only [mk_len, List.length_map]; omega) | decide) (c6 : 0 ≤ s1 := by first | omega | assumption | (simp only [mk_len, List.length_map]; omega) | decide) (c7 : In3 s1 := by first | omega | assumption | (simp only [mk_len, List.length_map]; omega) | decide) (c8 : 0 < q2 := by first | omega | assumption | (simp only [mk_len, List.length_map]; omega) | decide) : wr P d sw_c370 sw_h370 (6, [r0, r1, t2], [vi s2, vi s1, s0], h, kc, ks) Q := by
  refine w_i2l rfl c1 ?_
  subst e_q2
  refine w_last rfl g4 (Nat.ble_eq_true_of_le c8) c7 c6 c5 ?_
  refine w_goto rfl ?_
  exact k

theorem k370_12 {P : s_P} {d : Nat} {Q : s_O → Prop} {h : s_H} {kc ks : Nat} {r0 r1 t2 : Term}  (k : Q (.inl (some (vi 1)), h, kc, ks))   : wr P d sw_c370 sw_h370 (12, [r0, r1, t2], [], h, kc, ks) Q := by
  refine w_c32 rfl (by decide) 1 (by decide) ?_
  exact w_iret rfl k

theorem k370_15 {P : s_P} {d : Nat} {Q : s_O → Prop} {h : s_H} {kc ks : Nat} {r0 r1 t2 : Term}  (k : Q (.inl (some (vi 2)), h, kc, ks))   : wr P d sw_c370 sw_h370 (15, [r0, r1, t2], [], h, kc, ks) Q := by
  refine w_c32 rfl (by decide) 2 (by decide) ?_
  exact w_iret rfl k

theorem k370_17 {P : s_P} {d : Nat} {Q : s_O → Prop} {h : s_H} {kc ks : Nat} {r0 r1 t2 : Term}  (k : Q (.inl (some (vi 0)), h, kc, ks))   : wr P d sw_c370 sw_h370 (17, [r0, r1, t2], [], h, kc, ks) Q := by
  refine w_c32 rfl (by decide) 0 (by decide) ?_
  exact w_iret rfl k

/-! 371: FormulaWorksLaw.recur(LFormulaWorks;I[J)I -/
theorem k371_0 {P : s_P} {d : Nat} {Q : s_O → Prop} {h : s_H} {kc ks : Nat} {r0 : Term} {x1 : Int} {r2 t3 : Term} {q3 : Nat} {f4 : List Term} (g5 : s_get h q3 = some (1, 10, f4)) (k : wm P d 74 [.index q3, vi x1] h (wq P d sw_c371 sw_h371 7 [.index q3, vi x1, r2, t3] [vi 0, r2] kc ks Q)) (e_q3 : r0 = .index q3 := by first | rfl | assumption) (y1 : s_ty r2 = 3 := by first | rfl | assumption) (y2 : s_ty r0 = 3 := by first | rfl | assumption)  : wr P d sw_c371 sw_h371 (0, [r0, vi x1, r2, t3], [], h, kc, ks) Q := by
  refine w_ld rfl rfl (Or.inr (Or.inr ⟨by decide, y1⟩)) ?_
  refine w_c32 rfl (by decide) 0 (by decide) ?_
  refine w_ld rfl rfl (Or.inr (Or.inr ⟨by decide, y2⟩)) ?_
  refine w_ld rfl rfl (Or.inl ⟨by decide, rfl⟩) ?_
  subst e_q3
  exact w_cv rfl [.index q3, vi x1] [vi 0, r2] rfl rfl (s_wt_4 rfl) rfl g5 k

theorem k371_7 {P : s_P} {d : Nat} {Q : s_O → Prop} {h : s_H} {kc ks : Nat} {r0 : Term} {x1 : Int} {r2 t3 s0 : Term} {s1 s2 : Int} {q2 : Nat} {a3 : List Int} (g4 : s_get h q2 = some (0, 1, a3.map vl)) (k : wr P d sw_c371 sw_h371 (21, [r0, vi x1, r2, t3], [], (hp h q2 (0, 1, (a3.set (Int.toNat (s1)) s2).map vl)), kc, ks) Q) (e_q2 : s0 = .index q2 := by first | rfl | assumption) (c1 : In3 s2 := by first | omega | assumption | (simp only [mk_len, List.length_map]; omega) | decide) (c5 : s1 < a3.length := by first | omega | assumption | (simp only [mk_len, List.length_map]; omega) | decide) (c6 : 0 ≤ s1 := by first | omega | assumption | (simp only [mk_len, List.length_map]; omega) | decide) (c7 : In3 s1 := by first | omega | assumption | (simp only [mk_len, List.length_map]; omega) | decide) (c8 : 0 < q2 := by first | omega | assumption | (simp only [mk_len, List.length_map]; omega) | decide) : wr P d sw_c371 sw_h371 (7, [r0, vi x1, r2, t3], [vi s2, vi s1, s0], h, kc, ks) Q := by
  refine w_i2l rfl c1 ?_
  subst e_q2
  refine w_last rfl g4 (Nat.ble_eq_true_of_le c8) c7 c6 c5 ?_
  refine w_goto rfl ?_
  exact k

theorem k371_13 {P : s_P} {d : Nat} {Q : s_O → Prop} {h : s_H} {kc ks : Nat} {r0 : Term} {x1 : Int} {r2 t3 : Term}  (k : Q (.inl (some (vi 1)), h, kc, ks))   : wr P d sw_c371 sw_h371 (13, [r0, vi x1, r2, t3], [], h, kc, ks) Q := by
  refine w_c32 rfl (by decide) 1 (by decide) ?_
  exact w_iret rfl k

theorem k371_16 {P : s_P} {d : Nat} {Q : s_O → Prop} {h : s_H} {kc ks : Nat} {r0 : Term} {x1 : Int} {r2 t3 : Term}  (k : Q (.inl (some (vi 2)), h, kc, ks))   : wr P d sw_c371 sw_h371 (16, [r0, vi x1, r2, t3], [], h, kc, ks) Q := by
  refine w_c32 rfl (by decide) 2 (by decide) ?_
  exact w_iret rfl k

theorem k371_19 {P : s_P} {d : Nat} {Q : s_O → Prop} {h : s_H} {kc ks : Nat} {r0 : Term} {x1 : Int} {r2 t3 : Term}  (k : Q (.inl (some (vi 3)), h, kc, ks))   : wr P d sw_c371 sw_h371 (19, [r0, vi x1, r2, t3], [], h, kc, ks) Q := by
  refine w_c32 rfl (by decide) 3 (by decide) ?_
  exact w_iret rfl k

theorem k371_21 {P : s_P} {d : Nat} {Q : s_O → Prop} {h : s_H} {kc ks : Nat} {r0 : Term} {x1 : Int} {r2 t3 : Term}  (k : Q (.inl (some (vi 0)), h, kc, ks))   : wr P d sw_c371 sw_h371 (21, [r0, vi x1, r2, t3], [], h, kc, ks) Q := by
  refine w_c32 rfl (by decide) 0 (by decide) ?_
  exact w_iret rfl k

/-! 372: FormulaWorksLaw.remainder(LFormulaWorks;I[J)I -/
theorem k372_0 {P : s_P} {d : Nat} {Q : s_O → Prop} {h : s_H} {kc ks : Nat} {r0 : Term} {x1 : Int} {r2 t3 : Term} {q3 : Nat} {f4 : List Term} (g5 : s_get h q3 = some (1, 10, f4)) (k : wm P d 75 [.index q3, vi x1] h (wq P d sw_c372 sw_h372 7 [.index q3, vi x1, r2, t3] [vi 0, r2] kc ks Q)) (e_q3 : r0 = .index q3 := by first | rfl | assumption) (y1 : s_ty r2 = 3 := by first | rfl | assumption) (y2 : s_ty r0 = 3 := by first | rfl | assumption)  : wr P d sw_c372 sw_h372 (0, [r0, vi x1, r2, t3], [], h, kc, ks) Q := by
  refine w_ld rfl rfl (Or.inr (Or.inr ⟨by decide, y1⟩)) ?_
  refine w_c32 rfl (by decide) 0 (by decide) ?_
  refine w_ld rfl rfl (Or.inr (Or.inr ⟨by decide, y2⟩)) ?_
  refine w_ld rfl rfl (Or.inl ⟨by decide, rfl⟩) ?_
  subst e_q3
  exact w_cv rfl [.index q3, vi x1] [vi 0, r2] rfl rfl (s_wt_4 rfl) rfl g5 k

theorem k372_7 {P : s_P} {d : Nat} {Q : s_O → Prop} {h : s_H} {kc ks : Nat} {r0 : Term} {x1 : Int} {r2 t3 s0 : Term} {s1 s2 : Int} {q2 : Nat} {a3 : List Int} (g4 : s_get h q2 = some (0, 1, a3.map vl)) (k : wr P d sw_c372 sw_h372 (21, [r0, vi x1, r2, t3], [], (hp h q2 (0, 1, (a3.set (Int.toNat (s1)) s2).map vl)), kc, ks) Q) (e_q2 : s0 = .index q2 := by first | rfl | assumption) (c1 : In3 s2 := by first | omega | assumption | (simp only [mk_len, List.length_map]; omega) | decide) (c5 : s1 < a3.length := by first | omega | assumption | (simp only [mk_len, List.length_map]; omega) | decide) (c6 : 0 ≤ s1 := by first | omega | assumption | (simp only [mk_len, List.length_map]; omega) | decide) (c7 : In3 s1 := by first | omega | assumption | (simp only [mk_len, List.length_map]; omega) | decide) (c8 : 0 < q2 := by first | omega | assumption | (simp only [mk_len, List.length_map]; omega) | decide) : wr P d sw_c372 sw_h372 (7, [r0, vi x1, r2, t3], [vi s2, vi s1, s0], h, kc, ks) Q := by
  refine w_i2l rfl c1 ?_
  subst e_q2
  refine w_last rfl g4 (Nat.ble_eq_true_of_le c8) c7 c6 c5 ?_
  refine w_goto rfl ?_
  exact k

theorem k372_13 {P : s_P} {d : Nat} {Q : s_O → Prop} {h : s_H} {kc ks : Nat} {r0 : Term} {x1 : Int} {r2 t3 : Term}  (k : Q (.inl (some (vi 1)), h, kc, ks))   : wr P d sw_c372 sw_h372 (13, [r0, vi x1, r2, t3], [], h, kc, ks) Q := by
  refine w_c32 rfl (by decide) 1 (by decide) ?_
  exact w_iret rfl k

theorem k372_16 {P : s_P} {d : Nat} {Q : s_O → Prop} {h : s_H} {kc ks : Nat} {r0 : Term} {x1 : Int} {r2 t3 : Term}  (k : Q (.inl (some (vi 2)), h, kc, ks))   : wr P d sw_c372 sw_h372 (16, [r0, vi x1, r2, t3], [], h, kc, ks) Q := by
  refine w_c32 rfl (by decide) 2 (by decide) ?_
  exact w_iret rfl k

theorem k372_19 {P : s_P} {d : Nat} {Q : s_O → Prop} {h : s_H} {kc ks : Nat} {r0 : Term} {x1 : Int} {r2 t3 : Term}  (k : Q (.inl (some (vi 3)), h, kc, ks))   : wr P d sw_c372 sw_h372 (19, [r0, vi x1, r2, t3], [], h, kc, ks) Q := by
  refine w_c32 rfl (by decide) 3 (by decide) ?_
  exact w_iret rfl k

theorem k372_21 {P : s_P} {d : Nat} {Q : s_O → Prop} {h : s_H} {kc ks : Nat} {r0 : Term} {x1 : Int} {r2 t3 : Term}  (k : Q (.inl (some (vi 0)), h, kc, ks))   : wr P d sw_c372 sw_h372 (21, [r0, vi x1, r2, t3], [], h, kc, ks) Q := by
  refine w_c32 rfl (by decide) 0 (by decide) ?_
  exact w_iret rfl k

/-! 373: FormulaWorksLaw.rest(LFormulaWorks;I[J)I -/
theorem k373_0 {P : s_P} {d : Nat} {Q : s_O → Prop} {h : s_H} {kc ks : Nat} {r0 : Term} {x1 : Int} {r2 t3 : Term} {q3 : Nat} {f4 : List Term} (g5 : s_get h q3 = some (1, 10, f4)) (k : wm P d 77 [.index q3, vi x1] h (wq P d sw_c373 sw_h373 7 [.index q3, vi x1, r2, t3] [vi 0, r2] kc ks Q)) (e_q3 : r0 = .index q3 := by first | rfl | assumption) (y1 : s_ty r2 = 3 := by first | rfl | assumption) (y2 : s_ty r0 = 3 := by first | rfl | assumption)  : wr P d sw_c373 sw_h373 (0, [r0, vi x1, r2, t3], [], h, kc, ks) Q := by
  refine w_ld rfl rfl (Or.inr (Or.inr ⟨by decide, y1⟩)) ?_
  refine w_c32 rfl (by decide) 0 (by decide) ?_
  refine w_ld rfl rfl (Or.inr (Or.inr ⟨by decide, y2⟩)) ?_
  refine w_ld rfl rfl (Or.inl ⟨by decide, rfl⟩) ?_
  subst e_q3
  exact w_cv rfl [.index q3, vi x1] [vi 0, r2] rfl rfl (s_wt_4 rfl) rfl g5 k

theorem k373_7 {P : s_P} {d : Nat} {Q : s_O → Prop} {h : s_H} {kc ks : Nat} {r0 : Term} {x1 : Int} {r2 t3 s0 : Term} {s1 s2 : Int} {q2 : Nat} {a3 : List Int} (g4 : s_get h q2 = some (0, 1, a3.map vl)) (k : wr P d sw_c373 sw_h373 (21, [r0, vi x1, r2, t3], [], (hp h q2 (0, 1, (a3.set (Int.toNat (s1)) s2).map vl)), kc, ks) Q) (e_q2 : s0 = .index q2 := by first | rfl | assumption) (c1 : In3 s2 := by first | omega | assumption | (simp only [mk_len, List.length_map]; omega) | decide) (c5 : s1 < a3.length := by first | omega | assumption | (simp only [mk_len, List.length_map]; omega) | decide) (c6 : 0 ≤ s1 := by first | omega | assumption | (simp only [mk_len, List.length_map]; omega) | decide) (c7 : In3 s1 := by first | omega | assumption | (simp only [mk_len, List.length_map]; omega) | decide) (c8 : 0 < q2 := by first | omega | assumption | (simp only [mk_len, List.length_map]; omega) | decide) : wr P d sw_c373 sw_h373 (7, [r0, vi x1, r2, t3], [vi s2, vi s1, s0], h, kc, ks) Q := by
  refine w_i2l rfl c1 ?_
  subst e_q2
  refine w_last rfl g4 (Nat.ble_eq_true_of_le c8) c7 c6 c5 ?_
  refine w_goto rfl ?_
  exact k

theorem k373_13 {P : s_P} {d : Nat} {Q : s_O → Prop} {h : s_H} {kc ks : Nat} {r0 : Term} {x1 : Int} {r2 t3 : Term}  (k : Q (.inl (some (vi 1)), h, kc, ks))   : wr P d sw_c373 sw_h373 (13, [r0, vi x1, r2, t3], [], h, kc, ks) Q := by
  refine w_c32 rfl (by decide) 1 (by decide) ?_
  exact w_iret rfl k

theorem k373_16 {P : s_P} {d : Nat} {Q : s_O → Prop} {h : s_H} {kc ks : Nat} {r0 : Term} {x1 : Int} {r2 t3 : Term}  (k : Q (.inl (some (vi 2)), h, kc, ks))   : wr P d sw_c373 sw_h373 (16, [r0, vi x1, r2, t3], [], h, kc, ks) Q := by
  refine w_c32 rfl (by decide) 2 (by decide) ?_
  exact w_iret rfl k

theorem k373_19 {P : s_P} {d : Nat} {Q : s_O → Prop} {h : s_H} {kc ks : Nat} {r0 : Term} {x1 : Int} {r2 t3 : Term}  (k : Q (.inl (some (vi 3)), h, kc, ks))   : wr P d sw_c373 sw_h373 (19, [r0, vi x1, r2, t3], [], h, kc, ks) Q := by
  refine w_c32 rfl (by decide) 3 (by decide) ?_
  exact w_iret rfl k

theorem k373_21 {P : s_P} {d : Nat} {Q : s_O → Prop} {h : s_H} {kc ks : Nat} {r0 : Term} {x1 : Int} {r2 t3 : Term}  (k : Q (.inl (some (vi 0)), h, kc, ks))   : wr P d sw_c373 sw_h373 (21, [r0, vi x1, r2, t3], [], h, kc, ks) Q := by
  refine w_c32 rfl (by decide) 0 (by decide) ?_
  exact w_iret rfl k

/-! 374: FormulaWorksLaw.resultant(LFormulaWorks;II[J)I -/
theorem k374_0 {P : s_P} {d : Nat} {Q : s_O → Prop} {h : s_H} {kc ks : Nat} {r0 : Term} {x1 x2 : Int} {r3 t4 : Term} {q3 : Nat} {f4 : List Term} (g5 : s_get h q3 = some (1, 10, f4)) (k : wm P d 78 [.index q3, vi x1, vi x2] h (wq P d sw_c374 sw_h374 8 [.index q3, vi x1, vi x2, r3, t4] [vi 0, r3] kc ks Q)) (e_q3 : r0 = .index q3 := by first | rfl | assumption) (y1 : s_ty r3 = 3 := by first | rfl | assumption) (y2 : s_ty r0 = 3 := by first | rfl | assumption)  : wr P d sw_c374 sw_h374 (0, [r0, vi x1, vi x2, r3, t4], [], h, kc, ks) Q := by
  refine w_ld rfl rfl (Or.inr (Or.inr ⟨by decide, y1⟩)) ?_
  refine w_c32 rfl (by decide) 0 (by decide) ?_
  refine w_ld rfl rfl (Or.inr (Or.inr ⟨by decide, y2⟩)) ?_
  refine w_ld rfl rfl (Or.inl ⟨by decide, rfl⟩) ?_
  refine w_ld rfl rfl (Or.inl ⟨by decide, rfl⟩) ?_
  subst e_q3
  exact w_cv rfl [.index q3, vi x1, vi x2] [vi 0, r3] rfl rfl (s_wt_4 rfl) rfl g5 k

theorem k374_8 {P : s_P} {d : Nat} {Q : s_O → Prop} {h : s_H} {kc ks : Nat} {r0 : Term} {x1 x2 : Int} {r3 t4 s0 : Term} {s1 s2 : Int} {q2 : Nat} {a3 : List Int} (g4 : s_get h q2 = some (0, 1, a3.map vl)) (k : wr P d sw_c374 sw_h374 (21, [r0, vi x1, vi x2, r3, t4], [], (hp h q2 (0, 1, (a3.set (Int.toNat (s1)) s2).map vl)), kc, ks) Q) (e_q2 : s0 = .index q2 := by first | rfl | assumption) (c1 : In3 s2 := by first | omega | assumption | (simp only [mk_len, List.length_map]; omega) | decide) (c5 : s1 < a3.length := by first | omega | assumption | (simp only [mk_len, List.length_map]; omega) | decide) (c6 : 0 ≤ s1 := by first | omega | assumption | (simp only [mk_len, List.length_map]; omega) | decide) (c7 : In3 s1 := by first | omega | assumption | (simp only [mk_len, List.length_map]; omega) | decide) (c8 : 0 < q2 := by first | omega | assumption | (simp only [mk_len, List.length_map]; omega) | decide) : wr P d sw_c374 sw_h374 (8, [r0, vi x1, vi x2, r3, t4], [vi s2, vi s1, s0], h, kc, ks) Q := by
  refine w_i2l rfl c1 ?_
  subst e_q2
  refine w_last rfl g4 (Nat.ble_eq_true_of_le c8) c7 c6 c5 ?_
  refine w_goto rfl ?_
  exact k

theorem k374_15 {P : s_P} {d : Nat} {Q : s_O → Prop} {h : s_H} {kc ks : Nat} {r0 : Term} {x1 x2 : Int} {r3 t4 : Term}  (k : Q (.inl (some (vi 1)), h, kc, ks))   : wr P d sw_c374 sw_h374 (15, [r0, vi x1, vi x2, r3, t4], [], h, kc, ks) Q := by
  refine w_c32 rfl (by decide) 1 (by decide) ?_
  exact w_iret rfl k

theorem k374_19 {P : s_P} {d : Nat} {Q : s_O → Prop} {h : s_H} {kc ks : Nat} {r0 : Term} {x1 x2 : Int} {r3 t4 : Term}  (k : Q (.inl (some (vi 2)), h, kc, ks))   : wr P d sw_c374 sw_h374 (19, [r0, vi x1, vi x2, r3, t4], [], h, kc, ks) Q := by
  refine w_c32 rfl (by decide) 2 (by decide) ?_
  exact w_iret rfl k

theorem k374_21 {P : s_P} {d : Nat} {Q : s_O → Prop} {h : s_H} {kc ks : Nat} {r0 : Term} {x1 x2 : Int} {r3 t4 : Term}  (k : Q (.inl (some (vi 0)), h, kc, ks))   : wr P d sw_c374 sw_h374 (21, [r0, vi x1, vi x2, r3, t4], [], h, kc, ks) Q := by
  refine w_c32 rfl (by decide) 0 (by decide) ?_
  exact w_iret rfl k

/-! 375: FormulaWorksLaw.reverse(LFormulaWorks;I[J)I -/
theorem k375_0 {P : s_P} {d : Nat} {Q : s_O → Prop} {h : s_H} {kc ks : Nat} {r0 : Term} {x1 : Int} {r2 t3 : Term} {q3 : Nat} {f4 : List Term} (g5 : s_get h q3 = some (1, 10, f4)) (k : wm P d 79 [.index q3, vi x1] h (wq P d sw_c375 sw_h375 7 [.index q3, vi x1, r2, t3] [vi 0, r2] kc ks Q)) (e_q3 : r0 = .index q3 := by first | rfl | assumption) (y1 : s_ty r2 = 3 := by first | rfl | assumption) (y2 : s_ty r0 = 3 := by first | rfl | assumption)  : wr P d sw_c375 sw_h375 (0, [r0, vi x1, r2, t3], [], h, kc, ks) Q := by
  refine w_ld rfl rfl (Or.inr (Or.inr ⟨by decide, y1⟩)) ?_
  refine w_c32 rfl (by decide) 0 (by decide) ?_
  refine w_ld rfl rfl (Or.inr (Or.inr ⟨by decide, y2⟩)) ?_
  refine w_ld rfl rfl (Or.inl ⟨by decide, rfl⟩) ?_
  subst e_q3
  exact w_cv rfl [.index q3, vi x1] [vi 0, r2] rfl rfl (s_wt_4 rfl) rfl g5 k

theorem k375_7 {P : s_P} {d : Nat} {Q : s_O → Prop} {h : s_H} {kc ks : Nat} {r0 : Term} {x1 : Int} {r2 t3 s0 : Term} {s1 s2 : Int} {q2 : Nat} {a3 : List Int} (g4 : s_get h q2 = some (0, 1, a3.map vl)) (k : wr P d sw_c375 sw_h375 (21, [r0, vi x1, r2, t3], [], (hp h q2 (0, 1, (a3.set (Int.toNat (s1)) s2).map vl)), kc, ks) Q) (e_q2 : s0 = .index q2 := by first | rfl | assumption) (c1 : In3 s2 := by first | omega | assumption | (simp only [mk_len, List.length_map]; omega) | decide) (c5 : s1 < a3.length := by first | omega | assumption | (simp only [mk_len, List.length_map]; omega) | decide) (c6 : 0 ≤ s1 := by first | omega | assumption | (simp only [mk_len, List.length_map]; omega) | decide) (c7 : In3 s1 := by first | omega | assumption | (simp only [mk_len, List.length_map]; omega) | decide) (c8 : 0 < q2 := by first | omega | assumption | (simp only [mk_len, List.length_map]; omega) | decide) : wr P d sw_c375 sw_h375 (7, [r0, vi x1, r2, t3], [vi s2, vi s1, s0], h, kc, ks) Q := by
  refine w_i2l rfl c1 ?_
  subst e_q2
  refine w_last rfl g4 (Nat.ble_eq_true_of_le c8) c7 c6 c5 ?_
  refine w_goto rfl ?_
  exact k

theorem k375_13 {P : s_P} {d : Nat} {Q : s_O → Prop} {h : s_H} {kc ks : Nat} {r0 : Term} {x1 : Int} {r2 t3 : Term}  (k : Q (.inl (some (vi 1)), h, kc, ks))   : wr P d sw_c375 sw_h375 (13, [r0, vi x1, r2, t3], [], h, kc, ks) Q := by
  refine w_c32 rfl (by decide) 1 (by decide) ?_
  exact w_iret rfl k

theorem k375_16 {P : s_P} {d : Nat} {Q : s_O → Prop} {h : s_H} {kc ks : Nat} {r0 : Term} {x1 : Int} {r2 t3 : Term}  (k : Q (.inl (some (vi 2)), h, kc, ks))   : wr P d sw_c375 sw_h375 (16, [r0, vi x1, r2, t3], [], h, kc, ks) Q := by
  refine w_c32 rfl (by decide) 2 (by decide) ?_
  exact w_iret rfl k

theorem k375_19 {P : s_P} {d : Nat} {Q : s_O → Prop} {h : s_H} {kc ks : Nat} {r0 : Term} {x1 : Int} {r2 t3 : Term}  (k : Q (.inl (some (vi 3)), h, kc, ks))   : wr P d sw_c375 sw_h375 (19, [r0, vi x1, r2, t3], [], h, kc, ks) Q := by
  refine w_c32 rfl (by decide) 3 (by decide) ?_
  exact w_iret rfl k

theorem k375_21 {P : s_P} {d : Nat} {Q : s_O → Prop} {h : s_H} {kc ks : Nat} {r0 : Term} {x1 : Int} {r2 t3 : Term}  (k : Q (.inl (some (vi 0)), h, kc, ks))   : wr P d sw_c375 sw_h375 (21, [r0, vi x1, r2, t3], [], h, kc, ks) Q := by
  refine w_c32 rfl (by decide) 0 (by decide) ?_
  exact w_iret rfl k

/-! 376: FormulaWorksLaw.root(LFormulaWorks;I[J)I -/
theorem k376_0 {P : s_P} {d : Nat} {Q : s_O → Prop} {h : s_H} {kc ks : Nat} {r0 : Term} {x1 : Int} {r2 t3 : Term} {q3 : Nat} {f4 : List Term} (g5 : s_get h q3 = some (1, 10, f4)) (k : wm P d 80 [.index q3, vi x1] h (wq P d sw_c376 sw_h376 7 [.index q3, vi x1, r2, t3] [vi 0, r2] kc ks Q)) (e_q3 : r0 = .index q3 := by first | rfl | assumption) (y1 : s_ty r2 = 3 := by first | rfl | assumption) (y2 : s_ty r0 = 3 := by first | rfl | assumption)  : wr P d sw_c376 sw_h376 (0, [r0, vi x1, r2, t3], [], h, kc, ks) Q := by
  refine w_ld rfl rfl (Or.inr (Or.inr ⟨by decide, y1⟩)) ?_
  refine w_c32 rfl (by decide) 0 (by decide) ?_
  refine w_ld rfl rfl (Or.inr (Or.inr ⟨by decide, y2⟩)) ?_
  refine w_ld rfl rfl (Or.inl ⟨by decide, rfl⟩) ?_
  subst e_q3
  exact w_cv rfl [.index q3, vi x1] [vi 0, r2] rfl rfl (s_wt_4 rfl) rfl g5 k

theorem k376_7 {P : s_P} {d : Nat} {Q : s_O → Prop} {h : s_H} {kc ks : Nat} {r0 : Term} {x1 : Int} {r2 t3 s0 : Term} {s1 s2 : Int} {q2 : Nat} {a3 : List Int} (g4 : s_get h q2 = some (0, 1, a3.map vl)) (k : wr P d sw_c376 sw_h376 (21, [r0, vi x1, r2, t3], [], (hp h q2 (0, 1, (a3.set (Int.toNat (s1)) s2).map vl)), kc, ks) Q) (e_q2 : s0 = .index q2 := by first | rfl | assumption) (c1 : In3 s2 := by first | omega | assumption | (simp only [mk_len, List.length_map]; omega) | decide) (c5 : s1 < a3.length := by first | omega | assumption | (simp only [mk_len, List.length_map]; omega) | decide) (c6 : 0 ≤ s1 := by first | omega | assumption | (simp only [mk_len, List.length_map]; omega) | decide) (c7 : In3 s1 := by first | omega | assumption | (simp only [mk_len, List.length_map]; omega) | decide) (c8 : 0 < q2 := by first | omega | assumption | (simp only [mk_len, List.length_map]; omega) | decide) : wr P d sw_c376 sw_h376 (7, [r0, vi x1, r2, t3], [vi s2, vi s1, s0], h, kc, ks) Q := by
  refine w_i2l rfl c1 ?_
  subst e_q2
  refine w_last rfl g4 (Nat.ble_eq_true_of_le c8) c7 c6 c5 ?_
  refine w_goto rfl ?_
  exact k

theorem k376_13 {P : s_P} {d : Nat} {Q : s_O → Prop} {h : s_H} {kc ks : Nat} {r0 : Term} {x1 : Int} {r2 t3 : Term}  (k : Q (.inl (some (vi 1)), h, kc, ks))   : wr P d sw_c376 sw_h376 (13, [r0, vi x1, r2, t3], [], h, kc, ks) Q := by
  refine w_c32 rfl (by decide) 1 (by decide) ?_
  exact w_iret rfl k

theorem k376_16 {P : s_P} {d : Nat} {Q : s_O → Prop} {h : s_H} {kc ks : Nat} {r0 : Term} {x1 : Int} {r2 t3 : Term}  (k : Q (.inl (some (vi 2)), h, kc, ks))   : wr P d sw_c376 sw_h376 (16, [r0, vi x1, r2, t3], [], h, kc, ks) Q := by
  refine w_c32 rfl (by decide) 2 (by decide) ?_
  exact w_iret rfl k

theorem k376_19 {P : s_P} {d : Nat} {Q : s_O → Prop} {h : s_H} {kc ks : Nat} {r0 : Term} {x1 : Int} {r2 t3 : Term}  (k : Q (.inl (some (vi 3)), h, kc, ks))   : wr P d sw_c376 sw_h376 (19, [r0, vi x1, r2, t3], [], h, kc, ks) Q := by
  refine w_c32 rfl (by decide) 3 (by decide) ?_
  exact w_iret rfl k

theorem k376_21 {P : s_P} {d : Nat} {Q : s_O → Prop} {h : s_H} {kc ks : Nat} {r0 : Term} {x1 : Int} {r2 t3 : Term}  (k : Q (.inl (some (vi 0)), h, kc, ks))   : wr P d sw_c376 sw_h376 (21, [r0, vi x1, r2, t3], [], h, kc, ks) Q := by
  refine w_c32 rfl (by decide) 0 (by decide) ?_
  exact w_iret rfl k

/-! 377: FormulaWorksLaw.rule(LFormulaWorks;III[J)I -/
theorem k377_0 {P : s_P} {d : Nat} {Q : s_O → Prop} {h : s_H} {kc ks : Nat} {r0 : Term} {x1 x2 x3 : Int} {r4 t5 : Term} {q3 : Nat} {f4 : List Term} (g5 : s_get h q3 = some (1, 10, f4)) (k : wm P d 83 [.index q3, vi x1, vi x2, vi x3] h (wq P d sw_c377 sw_h377 10 [.index q3, vi x1, vi x2, vi x3, r4, t5] [vi 0, r4] kc ks Q)) (e_q3 : r0 = .index q3 := by first | rfl | assumption) (y1 : s_ty r4 = 3 := by first | rfl | assumption) (y2 : s_ty r0 = 3 := by first | rfl | assumption)  : wr P d sw_c377 sw_h377 (0, [r0, vi x1, vi x2, vi x3, r4, t5], [], h, kc, ks) Q := by
  refine w_ld rfl rfl (Or.inr (Or.inr ⟨by decide, y1⟩)) ?_
  refine w_c32 rfl (by decide) 0 (by decide) ?_
  refine w_ld rfl rfl (Or.inr (Or.inr ⟨by decide, y2⟩)) ?_
  refine w_ld rfl rfl (Or.inl ⟨by decide, rfl⟩) ?_
  refine w_ld rfl rfl (Or.inl ⟨by decide, rfl⟩) ?_
  refine w_ld rfl rfl (Or.inl ⟨by decide, rfl⟩) ?_
  subst e_q3
  exact w_cv rfl [.index q3, vi x1, vi x2, vi x3] [vi 0, r4] rfl rfl (s_wt_4 rfl) rfl g5 k

theorem k377_10 {P : s_P} {d : Nat} {Q : s_O → Prop} {h : s_H} {kc ks : Nat} {r0 : Term} {x1 x2 x3 : Int} {r4 t5 s0 : Term} {s1 s2 : Int} {q2 : Nat} {a3 : List Int} (g4 : s_get h q2 = some (0, 1, a3.map vl)) (k : wr P d sw_c377 sw_h377 (27, [r0, vi x1, vi x2, vi x3, r4, t5], [], (hp h q2 (0, 1, (a3.set (Int.toNat (s1)) s2).map vl)), kc, ks) Q) (e_q2 : s0 = .index q2 := by first | rfl | assumption) (c1 : In3 s2 := by first | omega | assumption | (simp only [mk_len, List.length_map]; omega) | decide) (c5 : s1 < a3.length := by first | omega | assumption | (simp only [mk_len, List.length_map]; omega) | decide) (c6 : 0 ≤ s1 := by first | omega | assumption | (simp only [mk_len, List.length_map]; omega) | decide) (c7 : In3 s1 := by first | omega | assumption | (simp only [mk_len, List.length_map]; omega) | decide) (c8 : 0 < q2 := by first | omega | assumption | (simp only [mk_len, List.length_map]; omega) | decide) : wr P d sw_c377 sw_h377 (10, [r0, vi x1, vi x2, vi x3, r4, t5], [vi s2, vi s1, s0], h, kc, ks) Q := by
  refine w_i2l rfl c1 ?_
  subst e_q2
  refine w_last rfl g4 (Nat.ble_eq_true_of_le c8) c7 c6 c5 ?_
  refine w_goto rfl ?_
  exact k

theorem k377_17 {P : s_P} {d : Nat} {Q : s_O → Prop} {h : s_H} {kc ks : Nat} {r0 : Term} {x1 x2 x3 : Int} {r4 t5 : Term}  (k : Q (.inl (some (vi 1)), h, kc, ks))   : wr P d sw_c377 sw_h377 (17, [r0, vi x1, vi x2, vi x3, r4, t5], [], h, kc, ks) Q := by
  refine w_c32 rfl (by decide) 1 (by decide) ?_
  exact w_iret rfl k

theorem k377_21 {P : s_P} {d : Nat} {Q : s_O → Prop} {h : s_H} {kc ks : Nat} {r0 : Term} {x1 x2 x3 : Int} {r4 t5 : Term}  (k : Q (.inl (some (vi 2)), h, kc, ks))   : wr P d sw_c377 sw_h377 (21, [r0, vi x1, vi x2, vi x3, r4, t5], [], h, kc, ks) Q := by
  refine w_c32 rfl (by decide) 2 (by decide) ?_
  exact w_iret rfl k

theorem k377_25 {P : s_P} {d : Nat} {Q : s_O → Prop} {h : s_H} {kc ks : Nat} {r0 : Term} {x1 x2 x3 : Int} {r4 t5 : Term}  (k : Q (.inl (some (vi 3)), h, kc, ks))   : wr P d sw_c377 sw_h377 (25, [r0, vi x1, vi x2, vi x3, r4, t5], [], h, kc, ks) Q := by
  refine w_c32 rfl (by decide) 3 (by decide) ?_
  exact w_iret rfl k

theorem k377_27 {P : s_P} {d : Nat} {Q : s_O → Prop} {h : s_H} {kc ks : Nat} {r0 : Term} {x1 x2 x3 : Int} {r4 t5 : Term}  (k : Q (.inl (some (vi 0)), h, kc, ks))   : wr P d sw_c377 sw_h377 (27, [r0, vi x1, vi x2, vi x3, r4, t5], [], h, kc, ks) Q := by
  refine w_c32 rfl (by decide) 0 (by decide) ?_
  exact w_iret rfl k

/-! 378: FormulaWorksLaw.same(LFormulaWorks;II[J)I -/
theorem k378_0 {P : s_P} {d : Nat} {Q : s_O → Prop} {h : s_H} {kc ks : Nat} {r0 : Term} {x1 x2 : Int} {r3 t4 : Term} {q3 : Nat} {f4 : List Term} (g5 : s_get h q3 = some (1, 10, f4)) (k : wm P d 84 [.index q3, vi x1, vi x2] h (wq P d sw_c378 sw_h378 8 [.index q3, vi x1, vi x2, r3, t4] [vi 0, r3] kc ks Q)) (e_q3 : r0 = .index q3 := by first | rfl | assumption) (y1 : s_ty r3 = 3 := by first | rfl | assumption) (y2 : s_ty r0 = 3 := by first | rfl | assumption)  : wr P d sw_c378 sw_h378 (0, [r0, vi x1, vi x2, r3, t4], [], h, kc, ks) Q := by
  refine w_ld rfl rfl (Or.inr (Or.inr ⟨by decide, y1⟩)) ?_
  refine w_c32 rfl (by decide) 0 (by decide) ?_
  refine w_ld rfl rfl (Or.inr (Or.inr ⟨by decide, y2⟩)) ?_
  refine w_ld rfl rfl (Or.inl ⟨by decide, rfl⟩) ?_
  refine w_ld rfl rfl (Or.inl ⟨by decide, rfl⟩) ?_
  subst e_q3
  exact w_cv rfl [.index q3, vi x1, vi x2] [vi 0, r3] rfl rfl (s_wt_4 rfl) rfl g5 k

theorem k378_8 {P : s_P} {d : Nat} {Q : s_O → Prop} {h : s_H} {kc ks : Nat} {r0 : Term} {x1 x2 : Int} {r3 t4 s0 : Term} {s1 s2 : Int}  (k1 : s2 = 0 → wr P d sw_c378 sw_h378 (15, [r0, vi x1, vi x2, r3, t4], [vi s1, s0], h, kc, ks) Q) (k2 : ¬ s2 = 0 → wr P d sw_c378 sw_h378 (11, [r0, vi x1, vi x2, r3, t4], [vi s1, s0], h, kc, ks) Q)  (c1 : In3 s2 := by first | omega | assumption | (simp only [mk_len, List.length_map]; omega) | decide) : wr P d sw_c378 sw_h378 (8, [r0, vi x1, vi x2, r3, t4], [vi s2, vi s1, s0], h, kc, ks) Q := by
  exact w_if1 rfl c1 k1 k2

theorem k378_11 {P : s_P} {d : Nat} {Q : s_O → Prop} {h : s_H} {kc ks : Nat} {r0 : Term} {x1 x2 : Int} {r3 t4 s0 : Term} {s1 : Int}  (k : wr P d sw_c378 sw_h378 (16, [r0, vi x1, vi x2, r3, t4], [vl 1, vi s1, s0], h, kc, ks) Q)   : wr P d sw_c378 sw_h378 (11, [r0, vi x1, vi x2, r3, t4], [vi s1, s0], h, kc, ks) Q := by
  refine w_c64 rfl (by decide) 1 (by decide) ?_
  refine w_goto rfl ?_
  exact k

theorem k378_15 {P : s_P} {d : Nat} {Q : s_O → Prop} {h : s_H} {kc ks : Nat} {r0 : Term} {x1 x2 : Int} {r3 t4 s0 : Term} {s1 : Int}  (k : wr P d sw_c378 sw_h378 (16, [r0, vi x1, vi x2, r3, t4], [vl 0, vi s1, s0], h, kc, ks) Q)   : wr P d sw_c378 sw_h378 (15, [r0, vi x1, vi x2, r3, t4], [vi s1, s0], h, kc, ks) Q := by
  refine w_c64 rfl (by decide) 0 (by decide) ?_
  exact k

theorem k378_16 {P : s_P} {d : Nat} {Q : s_O → Prop} {h : s_H} {kc ks : Nat} {r0 : Term} {x1 x2 : Int} {r3 t4 s0 : Term} {s1 s2 : Int} {q1 : Nat} {a2 : List Int} (g3 : s_get h q1 = some (0, 1, a2.map vl)) (k : wr P d sw_c378 sw_h378 (24, [r0, vi x1, vi x2, r3, t4], [], (hp h q1 (0, 1, (a2.set (Int.toNat (s1)) s2).map vl)), kc, ks) Q) (e_q1 : s0 = .index q1 := by first | rfl | assumption) (c4 : s1 < a2.length := by first | omega | assumption | (simp only [mk_len, List.length_map]; omega) | decide) (c5 : 0 ≤ s1 := by first | omega | assumption | (simp only [mk_len, List.length_map]; omega) | decide) (c6 : In3 s1 := by first | omega | assumption | (simp only [mk_len, List.length_map]; omega) | decide) (c7 : 0 < q1 := by first | omega | assumption | (simp only [mk_len, List.length_map]; omega) | decide) : wr P d sw_c378 sw_h378 (16, [r0, vi x1, vi x2, r3, t4], [vl s2, vi s1, s0], h, kc, ks) Q := by
  subst e_q1
  refine w_last rfl g3 (Nat.ble_eq_true_of_le c7) c6 c5 c4 ?_
  refine w_goto rfl ?_
  exact k

theorem k378_22 {P : s_P} {d : Nat} {Q : s_O → Prop} {h : s_H} {kc ks : Nat} {r0 : Term} {x1 x2 : Int} {r3 t4 : Term}  (k : Q (.inl (some (vi 1)), h, kc, ks))   : wr P d sw_c378 sw_h378 (22, [r0, vi x1, vi x2, r3, t4], [], h, kc, ks) Q := by
  refine w_c32 rfl (by decide) 1 (by decide) ?_
  exact w_iret rfl k

theorem k378_24 {P : s_P} {d : Nat} {Q : s_O → Prop} {h : s_H} {kc ks : Nat} {r0 : Term} {x1 x2 : Int} {r3 t4 : Term}  (k : Q (.inl (some (vi 0)), h, kc, ks))   : wr P d sw_c378 sw_h378 (24, [r0, vi x1, vi x2, r3, t4], [], h, kc, ks) Q := by
  refine w_c32 rfl (by decide) 0 (by decide) ?_
  exact w_iret rfl k

/-! 379: FormulaWorksLaw.series(LFormulaWorks;I[J)I -/
theorem k379_0 {P : s_P} {d : Nat} {Q : s_O → Prop} {h : s_H} {kc ks : Nat} {r0 : Term} {x1 : Int} {r2 t3 : Term} {q3 : Nat} {f4 : List Term} (g5 : s_get h q3 = some (1, 10, f4)) (k : wm P d 85 [.index q3, vi x1] h (wq P d sw_c379 sw_h379 7 [.index q3, vi x1, r2, t3] [vi 0, r2] kc ks Q)) (e_q3 : r0 = .index q3 := by first | rfl | assumption) (y1 : s_ty r2 = 3 := by first | rfl | assumption) (y2 : s_ty r0 = 3 := by first | rfl | assumption)  : wr P d sw_c379 sw_h379 (0, [r0, vi x1, r2, t3], [], h, kc, ks) Q := by
  refine w_ld rfl rfl (Or.inr (Or.inr ⟨by decide, y1⟩)) ?_
  refine w_c32 rfl (by decide) 0 (by decide) ?_
  refine w_ld rfl rfl (Or.inr (Or.inr ⟨by decide, y2⟩)) ?_
  refine w_ld rfl rfl (Or.inl ⟨by decide, rfl⟩) ?_
  subst e_q3
  exact w_cv rfl [.index q3, vi x1] [vi 0, r2] rfl rfl (s_wt_4 rfl) rfl g5 k

theorem k379_7 {P : s_P} {d : Nat} {Q : s_O → Prop} {h : s_H} {kc ks : Nat} {r0 : Term} {x1 : Int} {r2 t3 s0 : Term} {s1 s2 : Int} {q2 : Nat} {a3 : List Int} (g4 : s_get h q2 = some (0, 1, a3.map vl)) (k : wr P d sw_c379 sw_h379 (24, [r0, vi x1, r2, t3], [], (hp h q2 (0, 1, (a3.set (Int.toNat (s1)) s2).map vl)), kc, ks) Q) (e_q2 : s0 = .index q2 := by first | rfl | assumption) (c1 : In3 s2 := by first | omega | assumption | (simp only [mk_len, List.length_map]; omega) | decide) (c5 : s1 < a3.length := by first | omega | assumption | (simp only [mk_len, List.length_map]; omega) | decide) (c6 : 0 ≤ s1 := by first | omega | assumption | (simp only [mk_len, List.length_map]; omega) | decide) (c7 : In3 s1 := by first | omega | assumption | (simp only [mk_len, List.length_map]; omega) | decide) (c8 : 0 < q2 := by first | omega | assumption | (simp only [mk_len, List.length_map]; omega) | decide) : wr P d sw_c379 sw_h379 (7, [r0, vi x1, r2, t3], [vi s2, vi s1, s0], h, kc, ks) Q := by
  refine w_i2l rfl c1 ?_
  subst e_q2
  refine w_last rfl g4 (Nat.ble_eq_true_of_le c8) c7 c6 c5 ?_
  refine w_goto rfl ?_
  exact k

theorem k379_13 {P : s_P} {d : Nat} {Q : s_O → Prop} {h : s_H} {kc ks : Nat} {r0 : Term} {x1 : Int} {r2 t3 : Term}  (k : Q (.inl (some (vi 1)), h, kc, ks))   : wr P d sw_c379 sw_h379 (13, [r0, vi x1, r2, t3], [], h, kc, ks) Q := by
  refine w_c32 rfl (by decide) 1 (by decide) ?_
  exact w_iret rfl k

theorem k379_16 {P : s_P} {d : Nat} {Q : s_O → Prop} {h : s_H} {kc ks : Nat} {r0 : Term} {x1 : Int} {r2 t3 : Term}  (k : Q (.inl (some (vi 2)), h, kc, ks))   : wr P d sw_c379 sw_h379 (16, [r0, vi x1, r2, t3], [], h, kc, ks) Q := by
  refine w_c32 rfl (by decide) 2 (by decide) ?_
  exact w_iret rfl k

theorem k379_19 {P : s_P} {d : Nat} {Q : s_O → Prop} {h : s_H} {kc ks : Nat} {r0 : Term} {x1 : Int} {r2 t3 : Term}  (k : Q (.inl (some (vi 3)), h, kc, ks))   : wr P d sw_c379 sw_h379 (19, [r0, vi x1, r2, t3], [], h, kc, ks) Q := by
  refine w_c32 rfl (by decide) 3 (by decide) ?_
  exact w_iret rfl k

theorem k379_22 {P : s_P} {d : Nat} {Q : s_O → Prop} {h : s_H} {kc ks : Nat} {r0 : Term} {x1 : Int} {r2 t3 : Term}  (k : Q (.inl (some (vi 4)), h, kc, ks))   : wr P d sw_c379 sw_h379 (22, [r0, vi x1, r2, t3], [], h, kc, ks) Q := by
  refine w_c32 rfl (by decide) 4 (by decide) ?_
  exact w_iret rfl k

theorem k379_24 {P : s_P} {d : Nat} {Q : s_O → Prop} {h : s_H} {kc ks : Nat} {r0 : Term} {x1 : Int} {r2 t3 : Term}  (k : Q (.inl (some (vi 0)), h, kc, ks))   : wr P d sw_c379 sw_h379 (24, [r0, vi x1, r2, t3], [], h, kc, ks) Q := by
  refine w_c32 rfl (by decide) 0 (by decide) ?_
  exact w_iret rfl k

/-! 380: FormulaWorksLaw.simple(LFormulaWorks;I[J)I -/
theorem k380_0 {P : s_P} {d : Nat} {Q : s_O → Prop} {h : s_H} {kc ks : Nat} {r0 : Term} {x1 : Int} {r2 t3 : Term} {q3 : Nat} {f4 : List Term} (g5 : s_get h q3 = some (1, 10, f4)) (k : wm P d 87 [.index q3, vi x1] h (wq P d sw_c380 sw_h380 7 [.index q3, vi x1, r2, t3] [vi 0, r2] kc ks Q)) (e_q3 : r0 = .index q3 := by first | rfl | assumption) (y1 : s_ty r2 = 3 := by first | rfl | assumption) (y2 : s_ty r0 = 3 := by first | rfl | assumption)  : wr P d sw_c380 sw_h380 (0, [r0, vi x1, r2, t3], [], h, kc, ks) Q := by
  refine w_ld rfl rfl (Or.inr (Or.inr ⟨by decide, y1⟩)) ?_
  refine w_c32 rfl (by decide) 0 (by decide) ?_
  refine w_ld rfl rfl (Or.inr (Or.inr ⟨by decide, y2⟩)) ?_
  refine w_ld rfl rfl (Or.inl ⟨by decide, rfl⟩) ?_
  subst e_q3
  exact w_cv rfl [.index q3, vi x1] [vi 0, r2] rfl rfl (s_wt_4 rfl) rfl g5 k

theorem k380_7 {P : s_P} {d : Nat} {Q : s_O → Prop} {h : s_H} {kc ks : Nat} {r0 : Term} {x1 : Int} {r2 t3 s0 : Term} {s1 s2 : Int} {q2 : Nat} {a3 : List Int} (g4 : s_get h q2 = some (0, 1, a3.map vl)) (k : wr P d sw_c380 sw_h380 (21, [r0, vi x1, r2, t3], [], (hp h q2 (0, 1, (a3.set (Int.toNat (s1)) s2).map vl)), kc, ks) Q) (e_q2 : s0 = .index q2 := by first | rfl | assumption) (c1 : In3 s2 := by first | omega | assumption | (simp only [mk_len, List.length_map]; omega) | decide) (c5 : s1 < a3.length := by first | omega | assumption | (simp only [mk_len, List.length_map]; omega) | decide) (c6 : 0 ≤ s1 := by first | omega | assumption | (simp only [mk_len, List.length_map]; omega) | decide) (c7 : In3 s1 := by first | omega | assumption | (simp only [mk_len, List.length_map]; omega) | decide) (c8 : 0 < q2 := by first | omega | assumption | (simp only [mk_len, List.length_map]; omega) | decide) : wr P d sw_c380 sw_h380 (7, [r0, vi x1, r2, t3], [vi s2, vi s1, s0], h, kc, ks) Q := by
  refine w_i2l rfl c1 ?_
  subst e_q2
  refine w_last rfl g4 (Nat.ble_eq_true_of_le c8) c7 c6 c5 ?_
  refine w_goto rfl ?_
  exact k

theorem k380_13 {P : s_P} {d : Nat} {Q : s_O → Prop} {h : s_H} {kc ks : Nat} {r0 : Term} {x1 : Int} {r2 t3 : Term}  (k : Q (.inl (some (vi 1)), h, kc, ks))   : wr P d sw_c380 sw_h380 (13, [r0, vi x1, r2, t3], [], h, kc, ks) Q := by
  refine w_c32 rfl (by decide) 1 (by decide) ?_
  exact w_iret rfl k

theorem k380_16 {P : s_P} {d : Nat} {Q : s_O → Prop} {h : s_H} {kc ks : Nat} {r0 : Term} {x1 : Int} {r2 t3 : Term}  (k : Q (.inl (some (vi 2)), h, kc, ks))   : wr P d sw_c380 sw_h380 (16, [r0, vi x1, r2, t3], [], h, kc, ks) Q := by
  refine w_c32 rfl (by decide) 2 (by decide) ?_
  exact w_iret rfl k

theorem k380_19 {P : s_P} {d : Nat} {Q : s_O → Prop} {h : s_H} {kc ks : Nat} {r0 : Term} {x1 : Int} {r2 t3 : Term}  (k : Q (.inl (some (vi 3)), h, kc, ks))   : wr P d sw_c380 sw_h380 (19, [r0, vi x1, r2, t3], [], h, kc, ks) Q := by
  refine w_c32 rfl (by decide) 3 (by decide) ?_
  exact w_iret rfl k

theorem k380_21 {P : s_P} {d : Nat} {Q : s_O → Prop} {h : s_H} {kc ks : Nat} {r0 : Term} {x1 : Int} {r2 t3 : Term}  (k : Q (.inl (some (vi 0)), h, kc, ks))   : wr P d sw_c380 sw_h380 (21, [r0, vi x1, r2, t3], [], h, kc, ks) Q := by
  refine w_c32 rfl (by decide) 0 (by decide) ?_
  exact w_iret rfl k

/-! 381: FormulaWorksLaw.solved(LFormulaWorks;II[J)I -/
theorem k381_0 {P : s_P} {d : Nat} {Q : s_O → Prop} {h : s_H} {kc ks : Nat} {r0 : Term} {x1 x2 : Int} {r3 t4 : Term} {q3 : Nat} {f4 : List Term} (g5 : s_get h q3 = some (1, 10, f4)) (k : wm P d 88 [.index q3, vi x1, vi x2] h (wq P d sw_c381 sw_h381 8 [.index q3, vi x1, vi x2, r3, t4] [vi 0, r3] kc ks Q)) (e_q3 : r0 = .index q3 := by first | rfl | assumption) (y1 : s_ty r3 = 3 := by first | rfl | assumption) (y2 : s_ty r0 = 3 := by first | rfl | assumption)  : wr P d sw_c381 sw_h381 (0, [r0, vi x1, vi x2, r3, t4], [], h, kc, ks) Q := by
  refine w_ld rfl rfl (Or.inr (Or.inr ⟨by decide, y1⟩)) ?_
  refine w_c32 rfl (by decide) 0 (by decide) ?_
  refine w_ld rfl rfl (Or.inr (Or.inr ⟨by decide, y2⟩)) ?_
  refine w_ld rfl rfl (Or.inl ⟨by decide, rfl⟩) ?_
  refine w_ld rfl rfl (Or.inl ⟨by decide, rfl⟩) ?_
  subst e_q3
  exact w_cv rfl [.index q3, vi x1, vi x2] [vi 0, r3] rfl rfl (s_wt_4 rfl) rfl g5 k

theorem k381_8 {P : s_P} {d : Nat} {Q : s_O → Prop} {h : s_H} {kc ks : Nat} {r0 : Term} {x1 x2 : Int} {r3 t4 s0 : Term} {s1 s2 : Int} {q2 : Nat} {a3 : List Int} (g4 : s_get h q2 = some (0, 1, a3.map vl)) (k : wr P d sw_c381 sw_h381 (25, [r0, vi x1, vi x2, r3, t4], [], (hp h q2 (0, 1, (a3.set (Int.toNat (s1)) s2).map vl)), kc, ks) Q) (e_q2 : s0 = .index q2 := by first | rfl | assumption) (c1 : In3 s2 := by first | omega | assumption | (simp only [mk_len, List.length_map]; omega) | decide) (c5 : s1 < a3.length := by first | omega | assumption | (simp only [mk_len, List.length_map]; omega) | decide) (c6 : 0 ≤ s1 := by first | omega | assumption | (simp only [mk_len, List.length_map]; omega) | decide) (c7 : In3 s1 := by first | omega | assumption | (simp only [mk_len, List.length_map]; omega) | decide) (c8 : 0 < q2 := by first | omega | assumption | (simp only [mk_len, List.length_map]; omega) | decide) : wr P d sw_c381 sw_h381 (8, [r0, vi x1, vi x2, r3, t4], [vi s2, vi s1, s0], h, kc, ks) Q := by
  refine w_i2l rfl c1 ?_
  subst e_q2
  refine w_last rfl g4 (Nat.ble_eq_true_of_le c8) c7 c6 c5 ?_
  refine w_goto rfl ?_
  exact k

theorem k381_15 {P : s_P} {d : Nat} {Q : s_O → Prop} {h : s_H} {kc ks : Nat} {r0 : Term} {x1 x2 : Int} {r3 t4 : Term}  (k : Q (.inl (some (vi 1)), h, kc, ks))   : wr P d sw_c381 sw_h381 (15, [r0, vi x1, vi x2, r3, t4], [], h, kc, ks) Q := by
  refine w_c32 rfl (by decide) 1 (by decide) ?_
  exact w_iret rfl k

theorem k381_19 {P : s_P} {d : Nat} {Q : s_O → Prop} {h : s_H} {kc ks : Nat} {r0 : Term} {x1 x2 : Int} {r3 t4 : Term}  (k : Q (.inl (some (vi 2)), h, kc, ks))   : wr P d sw_c381 sw_h381 (19, [r0, vi x1, vi x2, r3, t4], [], h, kc, ks) Q := by
  refine w_c32 rfl (by decide) 2 (by decide) ?_
  exact w_iret rfl k

theorem k381_23 {P : s_P} {d : Nat} {Q : s_O → Prop} {h : s_H} {kc ks : Nat} {r0 : Term} {x1 x2 : Int} {r3 t4 : Term}  (k : Q (.inl (some (vi 3)), h, kc, ks))   : wr P d sw_c381 sw_h381 (23, [r0, vi x1, vi x2, r3, t4], [], h, kc, ks) Q := by
  refine w_c32 rfl (by decide) 3 (by decide) ?_
  exact w_iret rfl k

theorem k381_25 {P : s_P} {d : Nat} {Q : s_O → Prop} {h : s_H} {kc ks : Nat} {r0 : Term} {x1 x2 : Int} {r3 t4 : Term}  (k : Q (.inl (some (vi 0)), h, kc, ks))   : wr P d sw_c381 sw_h381 (25, [r0, vi x1, vi x2, r3, t4], [], h, kc, ks) Q := by
  refine w_c32 rfl (by decide) 0 (by decide) ?_
  exact w_iret rfl k

/-! 382: FormulaWorksLaw.sum(LFormulaWorks;II[J)I -/
theorem k382_0 {P : s_P} {d : Nat} {Q : s_O → Prop} {h : s_H} {kc ks : Nat} {r0 : Term} {x1 x2 : Int} {r3 t4 : Term} {q3 : Nat} {f4 : List Term} (g5 : s_get h q3 = some (1, 10, f4)) (k : wm P d 89 [.index q3, vi x1, vi x2] h (wq P d sw_c382 sw_h382 8 [.index q3, vi x1, vi x2, r3, t4] [vi 0, r3] kc ks Q)) (e_q3 : r0 = .index q3 := by first | rfl | assumption) (y1 : s_ty r3 = 3 := by first | rfl | assumption) (y2 : s_ty r0 = 3 := by first | rfl | assumption)  : wr P d sw_c382 sw_h382 (0, [r0, vi x1, vi x2, r3, t4], [], h, kc, ks) Q := by
  refine w_ld rfl rfl (Or.inr (Or.inr ⟨by decide, y1⟩)) ?_
  refine w_c32 rfl (by decide) 0 (by decide) ?_
  refine w_ld rfl rfl (Or.inr (Or.inr ⟨by decide, y2⟩)) ?_
  refine w_ld rfl rfl (Or.inl ⟨by decide, rfl⟩) ?_
  refine w_ld rfl rfl (Or.inl ⟨by decide, rfl⟩) ?_
  subst e_q3
  exact w_cv rfl [.index q3, vi x1, vi x2] [vi 0, r3] rfl rfl (s_wt_4 rfl) rfl g5 k

theorem k382_8 {P : s_P} {d : Nat} {Q : s_O → Prop} {h : s_H} {kc ks : Nat} {r0 : Term} {x1 x2 : Int} {r3 t4 s0 : Term} {s1 s2 : Int} {q2 : Nat} {a3 : List Int} (g4 : s_get h q2 = some (0, 1, a3.map vl)) (k : wr P d sw_c382 sw_h382 (25, [r0, vi x1, vi x2, r3, t4], [], (hp h q2 (0, 1, (a3.set (Int.toNat (s1)) s2).map vl)), kc, ks) Q) (e_q2 : s0 = .index q2 := by first | rfl | assumption) (c1 : In3 s2 := by first | omega | assumption | (simp only [mk_len, List.length_map]; omega) | decide) (c5 : s1 < a3.length := by first | omega | assumption | (simp only [mk_len, List.length_map]; omega) | decide) (c6 : 0 ≤ s1 := by first | omega | assumption | (simp only [mk_len, List.length_map]; omega) | decide) (c7 : In3 s1 := by first | omega | assumption | (simp only [mk_len, List.length_map]; omega) | decide) (c8 : 0 < q2 := by first | omega | assumption | (simp only [mk_len, List.length_map]; omega) | decide) : wr P d sw_c382 sw_h382 (8, [r0, vi x1, vi x2, r3, t4], [vi s2, vi s1, s0], h, kc, ks) Q := by
  refine w_i2l rfl c1 ?_
  subst e_q2
  refine w_last rfl g4 (Nat.ble_eq_true_of_le c8) c7 c6 c5 ?_
  refine w_goto rfl ?_
  exact k

theorem k382_15 {P : s_P} {d : Nat} {Q : s_O → Prop} {h : s_H} {kc ks : Nat} {r0 : Term} {x1 x2 : Int} {r3 t4 : Term}  (k : Q (.inl (some (vi 1)), h, kc, ks))   : wr P d sw_c382 sw_h382 (15, [r0, vi x1, vi x2, r3, t4], [], h, kc, ks) Q := by
  refine w_c32 rfl (by decide) 1 (by decide) ?_
  exact w_iret rfl k

theorem k382_19 {P : s_P} {d : Nat} {Q : s_O → Prop} {h : s_H} {kc ks : Nat} {r0 : Term} {x1 x2 : Int} {r3 t4 : Term}  (k : Q (.inl (some (vi 2)), h, kc, ks))   : wr P d sw_c382 sw_h382 (19, [r0, vi x1, vi x2, r3, t4], [], h, kc, ks) Q := by
  refine w_c32 rfl (by decide) 2 (by decide) ?_
  exact w_iret rfl k

theorem k382_23 {P : s_P} {d : Nat} {Q : s_O → Prop} {h : s_H} {kc ks : Nat} {r0 : Term} {x1 x2 : Int} {r3 t4 : Term}  (k : Q (.inl (some (vi 3)), h, kc, ks))   : wr P d sw_c382 sw_h382 (23, [r0, vi x1, vi x2, r3, t4], [], h, kc, ks) Q := by
  refine w_c32 rfl (by decide) 3 (by decide) ?_
  exact w_iret rfl k

theorem k382_25 {P : s_P} {d : Nat} {Q : s_O → Prop} {h : s_H} {kc ks : Nat} {r0 : Term} {x1 x2 : Int} {r3 t4 : Term}  (k : Q (.inl (some (vi 0)), h, kc, ks))   : wr P d sw_c382 sw_h382 (25, [r0, vi x1, vi x2, r3, t4], [], h, kc, ks) Q := by
  refine w_c32 rfl (by decide) 0 (by decide) ?_
  exact w_iret rfl k

/-! 383: FormulaWorksLaw.take(LFormulaWorks;I[J)I -/
theorem k383_0 {P : s_P} {d : Nat} {Q : s_O → Prop} {h : s_H} {kc ks : Nat} {r0 : Term} {x1 : Int} {r2 t3 : Term} {q3 : Nat} {f4 : List Term} (g5 : s_get h q3 = some (1, 10, f4)) (k : wm P d 90 [.index q3, vi x1] h (wq P d sw_c383 sw_h383 7 [.index q3, vi x1, r2, t3] [vi 0, r2] kc ks Q)) (e_q3 : r0 = .index q3 := by first | rfl | assumption) (y1 : s_ty r2 = 3 := by first | rfl | assumption) (y2 : s_ty r0 = 3 := by first | rfl | assumption)  : wr P d sw_c383 sw_h383 (0, [r0, vi x1, r2, t3], [], h, kc, ks) Q := by
  refine w_ld rfl rfl (Or.inr (Or.inr ⟨by decide, y1⟩)) ?_
  refine w_c32 rfl (by decide) 0 (by decide) ?_
  refine w_ld rfl rfl (Or.inr (Or.inr ⟨by decide, y2⟩)) ?_
  refine w_ld rfl rfl (Or.inl ⟨by decide, rfl⟩) ?_
  subst e_q3
  exact w_cv rfl [.index q3, vi x1] [vi 0, r2] rfl rfl (s_wt_4 rfl) rfl g5 k

theorem k383_7 {P : s_P} {d : Nat} {Q : s_O → Prop} {h : s_H} {kc ks : Nat} {r0 : Term} {x1 : Int} {r2 t3 s0 : Term} {s1 s2 : Int} {q2 : Nat} {a3 : List Int} (g4 : s_get h q2 = some (0, 1, a3.map vl)) (k : wr P d sw_c383 sw_h383 (18, [r0, vi x1, r2, t3], [], (hp h q2 (0, 1, (a3.set (Int.toNat (s1)) s2).map vl)), kc, ks) Q) (e_q2 : s0 = .index q2 := by first | rfl | assumption) (c1 : In3 s2 := by first | omega | assumption | (simp only [mk_len, List.length_map]; omega) | decide) (c5 : s1 < a3.length := by first | omega | assumption | (simp only [mk_len, List.length_map]; omega) | decide) (c6 : 0 ≤ s1 := by first | omega | assumption | (simp only [mk_len, List.length_map]; omega) | decide) (c7 : In3 s1 := by first | omega | assumption | (simp only [mk_len, List.length_map]; omega) | decide) (c8 : 0 < q2 := by first | omega | assumption | (simp only [mk_len, List.length_map]; omega) | decide) : wr P d sw_c383 sw_h383 (7, [r0, vi x1, r2, t3], [vi s2, vi s1, s0], h, kc, ks) Q := by
  refine w_i2l rfl c1 ?_
  subst e_q2
  refine w_last rfl g4 (Nat.ble_eq_true_of_le c8) c7 c6 c5 ?_
  refine w_goto rfl ?_
  exact k

theorem k383_13 {P : s_P} {d : Nat} {Q : s_O → Prop} {h : s_H} {kc ks : Nat} {r0 : Term} {x1 : Int} {r2 t3 : Term}  (k : Q (.inl (some (vi 1)), h, kc, ks))   : wr P d sw_c383 sw_h383 (13, [r0, vi x1, r2, t3], [], h, kc, ks) Q := by
  refine w_c32 rfl (by decide) 1 (by decide) ?_
  exact w_iret rfl k

theorem k383_16 {P : s_P} {d : Nat} {Q : s_O → Prop} {h : s_H} {kc ks : Nat} {r0 : Term} {x1 : Int} {r2 t3 : Term}  (k : Q (.inl (some (vi 2)), h, kc, ks))   : wr P d sw_c383 sw_h383 (16, [r0, vi x1, r2, t3], [], h, kc, ks) Q := by
  refine w_c32 rfl (by decide) 2 (by decide) ?_
  exact w_iret rfl k

theorem k383_18 {P : s_P} {d : Nat} {Q : s_O → Prop} {h : s_H} {kc ks : Nat} {r0 : Term} {x1 : Int} {r2 t3 : Term}  (k : Q (.inl (some (vi 0)), h, kc, ks))   : wr P d sw_c383 sw_h383 (18, [r0, vi x1, r2, t3], [], h, kc, ks) Q := by
  refine w_c32 rfl (by decide) 0 (by decide) ?_
  exact w_iret rfl k

/-! 384: FormulaWorksLaw.term(LFormulaWorks;II[J)I -/
theorem k384_0 {P : s_P} {d : Nat} {Q : s_O → Prop} {h : s_H} {kc ks : Nat} {r0 : Term} {x1 x2 : Int} {r3 t4 : Term} {q3 : Nat} {f4 : List Term} (g5 : s_get h q3 = some (1, 10, f4)) (k : wm P d 92 [.index q3, vi x1, vi x2] h (wq P d sw_c384 sw_h384 8 [.index q3, vi x1, vi x2, r3, t4] [vi 0, r3] kc ks Q)) (e_q3 : r0 = .index q3 := by first | rfl | assumption) (y1 : s_ty r3 = 3 := by first | rfl | assumption) (y2 : s_ty r0 = 3 := by first | rfl | assumption)  : wr P d sw_c384 sw_h384 (0, [r0, vi x1, vi x2, r3, t4], [], h, kc, ks) Q := by
  refine w_ld rfl rfl (Or.inr (Or.inr ⟨by decide, y1⟩)) ?_
  refine w_c32 rfl (by decide) 0 (by decide) ?_
  refine w_ld rfl rfl (Or.inr (Or.inr ⟨by decide, y2⟩)) ?_
  refine w_ld rfl rfl (Or.inl ⟨by decide, rfl⟩) ?_
  refine w_ld rfl rfl (Or.inl ⟨by decide, rfl⟩) ?_
  subst e_q3
  exact w_cv rfl [.index q3, vi x1, vi x2] [vi 0, r3] rfl rfl (s_wt_4 rfl) rfl g5 k

theorem k384_8 {P : s_P} {d : Nat} {Q : s_O → Prop} {h : s_H} {kc ks : Nat} {r0 : Term} {x1 x2 : Int} {r3 t4 s0 : Term} {s1 s2 : Int} {q2 : Nat} {a3 : List Int} (g4 : s_get h q2 = some (0, 1, a3.map vl)) (k : wr P d sw_c384 sw_h384 (25, [r0, vi x1, vi x2, r3, t4], [], (hp h q2 (0, 1, (a3.set (Int.toNat (s1)) s2).map vl)), kc, ks) Q) (e_q2 : s0 = .index q2 := by first | rfl | assumption) (c1 : In3 s2 := by first | omega | assumption | (simp only [mk_len, List.length_map]; omega) | decide) (c5 : s1 < a3.length := by first | omega | assumption | (simp only [mk_len, List.length_map]; omega) | decide) (c6 : 0 ≤ s1 := by first | omega | assumption | (simp only [mk_len, List.length_map]; omega) | decide) (c7 : In3 s1 := by first | omega | assumption | (simp only [mk_len, List.length_map]; omega) | decide) (c8 : 0 < q2 := by first | omega | assumption | (simp only [mk_len, List.length_map]; omega) | decide) : wr P d sw_c384 sw_h384 (8, [r0, vi x1, vi x2, r3, t4], [vi s2, vi s1, s0], h, kc, ks) Q := by
  refine w_i2l rfl c1 ?_
  subst e_q2
  refine w_last rfl g4 (Nat.ble_eq_true_of_le c8) c7 c6 c5 ?_
  refine w_goto rfl ?_
  exact k

theorem k384_15 {P : s_P} {d : Nat} {Q : s_O → Prop} {h : s_H} {kc ks : Nat} {r0 : Term} {x1 x2 : Int} {r3 t4 : Term}  (k : Q (.inl (some (vi 1)), h, kc, ks))   : wr P d sw_c384 sw_h384 (15, [r0, vi x1, vi x2, r3, t4], [], h, kc, ks) Q := by
  refine w_c32 rfl (by decide) 1 (by decide) ?_
  exact w_iret rfl k

theorem k384_19 {P : s_P} {d : Nat} {Q : s_O → Prop} {h : s_H} {kc ks : Nat} {r0 : Term} {x1 x2 : Int} {r3 t4 : Term}  (k : Q (.inl (some (vi 2)), h, kc, ks))   : wr P d sw_c384 sw_h384 (19, [r0, vi x1, vi x2, r3, t4], [], h, kc, ks) Q := by
  refine w_c32 rfl (by decide) 2 (by decide) ?_
  exact w_iret rfl k

theorem k384_23 {P : s_P} {d : Nat} {Q : s_O → Prop} {h : s_H} {kc ks : Nat} {r0 : Term} {x1 x2 : Int} {r3 t4 : Term}  (k : Q (.inl (some (vi 3)), h, kc, ks))   : wr P d sw_c384 sw_h384 (23, [r0, vi x1, vi x2, r3, t4], [], h, kc, ks) Q := by
  refine w_c32 rfl (by decide) 3 (by decide) ?_
  exact w_iret rfl k

theorem k384_25 {P : s_P} {d : Nat} {Q : s_O → Prop} {h : s_H} {kc ks : Nat} {r0 : Term} {x1 x2 : Int} {r3 t4 : Term}  (k : Q (.inl (some (vi 0)), h, kc, ks))   : wr P d sw_c384 sw_h384 (25, [r0, vi x1, vi x2, r3, t4], [], h, kc, ks) Q := by
  refine w_c32 rfl (by decide) 0 (by decide) ?_
  exact w_iret rfl k

/-! 385: FormulaWorksLaw.times(LFormulaWorks;II[J)I -/
theorem k385_0 {P : s_P} {d : Nat} {Q : s_O → Prop} {h : s_H} {kc ks : Nat} {r0 : Term} {x1 x2 : Int} {r3 t4 : Term} {q3 : Nat} {f4 : List Term} (g5 : s_get h q3 = some (1, 10, f4)) (k : wm P d 94 [.index q3, vi x1, vi x2] h (wq P d sw_c385 sw_h385 8 [.index q3, vi x1, vi x2, r3, t4] [vi 0, r3] kc ks Q)) (e_q3 : r0 = .index q3 := by first | rfl | assumption) (y1 : s_ty r3 = 3 := by first | rfl | assumption) (y2 : s_ty r0 = 3 := by first | rfl | assumption)  : wr P d sw_c385 sw_h385 (0, [r0, vi x1, vi x2, r3, t4], [], h, kc, ks) Q := by
  refine w_ld rfl rfl (Or.inr (Or.inr ⟨by decide, y1⟩)) ?_
  refine w_c32 rfl (by decide) 0 (by decide) ?_
  refine w_ld rfl rfl (Or.inr (Or.inr ⟨by decide, y2⟩)) ?_
  refine w_ld rfl rfl (Or.inl ⟨by decide, rfl⟩) ?_
  refine w_ld rfl rfl (Or.inl ⟨by decide, rfl⟩) ?_
  subst e_q3
  exact w_cv rfl [.index q3, vi x1, vi x2] [vi 0, r3] rfl rfl (s_wt_4 rfl) rfl g5 k

theorem k385_8 {P : s_P} {d : Nat} {Q : s_O → Prop} {h : s_H} {kc ks : Nat} {r0 : Term} {x1 x2 : Int} {r3 t4 s0 : Term} {s1 s2 : Int} {q2 : Nat} {a3 : List Int} (g4 : s_get h q2 = some (0, 1, a3.map vl)) (k : wr P d sw_c385 sw_h385 (25, [r0, vi x1, vi x2, r3, t4], [], (hp h q2 (0, 1, (a3.set (Int.toNat (s1)) s2).map vl)), kc, ks) Q) (e_q2 : s0 = .index q2 := by first | rfl | assumption) (c1 : In3 s2 := by first | omega | assumption | (simp only [mk_len, List.length_map]; omega) | decide) (c5 : s1 < a3.length := by first | omega | assumption | (simp only [mk_len, List.length_map]; omega) | decide) (c6 : 0 ≤ s1 := by first | omega | assumption | (simp only [mk_len, List.length_map]; omega) | decide) (c7 : In3 s1 := by first | omega | assumption | (simp only [mk_len, List.length_map]; omega) | decide) (c8 : 0 < q2 := by first | omega | assumption | (simp only [mk_len, List.length_map]; omega) | decide) : wr P d sw_c385 sw_h385 (8, [r0, vi x1, vi x2, r3, t4], [vi s2, vi s1, s0], h, kc, ks) Q := by
  refine w_i2l rfl c1 ?_
  subst e_q2
  refine w_last rfl g4 (Nat.ble_eq_true_of_le c8) c7 c6 c5 ?_
  refine w_goto rfl ?_
  exact k

theorem k385_15 {P : s_P} {d : Nat} {Q : s_O → Prop} {h : s_H} {kc ks : Nat} {r0 : Term} {x1 x2 : Int} {r3 t4 : Term}  (k : Q (.inl (some (vi 1)), h, kc, ks))   : wr P d sw_c385 sw_h385 (15, [r0, vi x1, vi x2, r3, t4], [], h, kc, ks) Q := by
  refine w_c32 rfl (by decide) 1 (by decide) ?_
  exact w_iret rfl k

theorem k385_19 {P : s_P} {d : Nat} {Q : s_O → Prop} {h : s_H} {kc ks : Nat} {r0 : Term} {x1 x2 : Int} {r3 t4 : Term}  (k : Q (.inl (some (vi 2)), h, kc, ks))   : wr P d sw_c385 sw_h385 (19, [r0, vi x1, vi x2, r3, t4], [], h, kc, ks) Q := by
  refine w_c32 rfl (by decide) 2 (by decide) ?_
  exact w_iret rfl k

theorem k385_23 {P : s_P} {d : Nat} {Q : s_O → Prop} {h : s_H} {kc ks : Nat} {r0 : Term} {x1 x2 : Int} {r3 t4 : Term}  (k : Q (.inl (some (vi 3)), h, kc, ks))   : wr P d sw_c385 sw_h385 (23, [r0, vi x1, vi x2, r3, t4], [], h, kc, ks) Q := by
  refine w_c32 rfl (by decide) 3 (by decide) ?_
  exact w_iret rfl k

theorem k385_25 {P : s_P} {d : Nat} {Q : s_O → Prop} {h : s_H} {kc ks : Nat} {r0 : Term} {x1 x2 : Int} {r3 t4 : Term}  (k : Q (.inl (some (vi 0)), h, kc, ks))   : wr P d sw_c385 sw_h385 (25, [r0, vi x1, vi x2, r3, t4], [], h, kc, ks) Q := by
  refine w_c32 rfl (by decide) 0 (by decide) ?_
  exact w_iret rfl k

/-! 386: FormulaWorksLaw.turned(LFormulaWorks;I[J)I -/
theorem k386_0 {P : s_P} {d : Nat} {Q : s_O → Prop} {h : s_H} {kc ks : Nat} {r0 : Term} {x1 : Int} {r2 t3 : Term} {q3 : Nat} {f4 : List Term} (g5 : s_get h q3 = some (1, 10, f4)) (k : wm P d 95 [.index q3, vi x1] h (wq P d sw_c386 sw_h386 7 [.index q3, vi x1, r2, t3] [vi 0, r2] kc ks Q)) (e_q3 : r0 = .index q3 := by first | rfl | assumption) (y1 : s_ty r2 = 3 := by first | rfl | assumption) (y2 : s_ty r0 = 3 := by first | rfl | assumption)  : wr P d sw_c386 sw_h386 (0, [r0, vi x1, r2, t3], [], h, kc, ks) Q := by
  refine w_ld rfl rfl (Or.inr (Or.inr ⟨by decide, y1⟩)) ?_
  refine w_c32 rfl (by decide) 0 (by decide) ?_
  refine w_ld rfl rfl (Or.inr (Or.inr ⟨by decide, y2⟩)) ?_
  refine w_ld rfl rfl (Or.inl ⟨by decide, rfl⟩) ?_
  subst e_q3
  exact w_cv rfl [.index q3, vi x1] [vi 0, r2] rfl rfl (s_wt_4 rfl) rfl g5 k

theorem k386_7 {P : s_P} {d : Nat} {Q : s_O → Prop} {h : s_H} {kc ks : Nat} {r0 : Term} {x1 : Int} {r2 t3 s0 : Term} {s1 s2 : Int} {q2 : Nat} {a3 : List Int} (g4 : s_get h q2 = some (0, 1, a3.map vl)) (k : wr P d sw_c386 sw_h386 (21, [r0, vi x1, r2, t3], [], (hp h q2 (0, 1, (a3.set (Int.toNat (s1)) s2).map vl)), kc, ks) Q) (e_q2 : s0 = .index q2 := by first | rfl | assumption) (c1 : In3 s2 := by first | omega | assumption | (simp only [mk_len, List.length_map]; omega) | decide) (c5 : s1 < a3.length := by first | omega | assumption | (simp only [mk_len, List.length_map]; omega) | decide) (c6 : 0 ≤ s1 := by first | omega | assumption | (simp only [mk_len, List.length_map]; omega) | decide) (c7 : In3 s1 := by first | omega | assumption | (simp only [mk_len, List.length_map]; omega) | decide) (c8 : 0 < q2 := by first | omega | assumption | (simp only [mk_len, List.length_map]; omega) | decide) : wr P d sw_c386 sw_h386 (7, [r0, vi x1, r2, t3], [vi s2, vi s1, s0], h, kc, ks) Q := by
  refine w_i2l rfl c1 ?_
  subst e_q2
  refine w_last rfl g4 (Nat.ble_eq_true_of_le c8) c7 c6 c5 ?_
  refine w_goto rfl ?_
  exact k

theorem k386_13 {P : s_P} {d : Nat} {Q : s_O → Prop} {h : s_H} {kc ks : Nat} {r0 : Term} {x1 : Int} {r2 t3 : Term}  (k : Q (.inl (some (vi 1)), h, kc, ks))   : wr P d sw_c386 sw_h386 (13, [r0, vi x1, r2, t3], [], h, kc, ks) Q := by
  refine w_c32 rfl (by decide) 1 (by decide) ?_
  exact w_iret rfl k

theorem k386_16 {P : s_P} {d : Nat} {Q : s_O → Prop} {h : s_H} {kc ks : Nat} {r0 : Term} {x1 : Int} {r2 t3 : Term}  (k : Q (.inl (some (vi 2)), h, kc, ks))   : wr P d sw_c386 sw_h386 (16, [r0, vi x1, r2, t3], [], h, kc, ks) Q := by
  refine w_c32 rfl (by decide) 2 (by decide) ?_
  exact w_iret rfl k

theorem k386_19 {P : s_P} {d : Nat} {Q : s_O → Prop} {h : s_H} {kc ks : Nat} {r0 : Term} {x1 : Int} {r2 t3 : Term}  (k : Q (.inl (some (vi 3)), h, kc, ks))   : wr P d sw_c386 sw_h386 (19, [r0, vi x1, r2, t3], [], h, kc, ks) Q := by
  refine w_c32 rfl (by decide) 3 (by decide) ?_
  exact w_iret rfl k

theorem k386_21 {P : s_P} {d : Nat} {Q : s_O → Prop} {h : s_H} {kc ks : Nat} {r0 : Term} {x1 : Int} {r2 t3 : Term}  (k : Q (.inl (some (vi 0)), h, kc, ks))   : wr P d sw_c386 sw_h386 (21, [r0, vi x1, r2, t3], [], h, kc, ks) Q := by
  refine w_c32 rfl (by decide) 0 (by decide) ?_
  exact w_iret rfl k

/-! 387: FormulaWorksLaw.unroll(LFormulaWorks;II[J)I -/
theorem k387_0 {P : s_P} {d : Nat} {Q : s_O → Prop} {h : s_H} {kc ks : Nat} {r0 : Term} {x1 x2 : Int} {r3 t4 : Term} {q3 : Nat} {f4 : List Term} (g5 : s_get h q3 = some (1, 10, f4)) (k : wm P d 97 [.index q3, vi x1, vi x2] h (wq P d sw_c387 sw_h387 8 [.index q3, vi x1, vi x2, r3, t4] [vi 0, r3] kc ks Q)) (e_q3 : r0 = .index q3 := by first | rfl | assumption) (y1 : s_ty r3 = 3 := by first | rfl | assumption) (y2 : s_ty r0 = 3 := by first | rfl | assumption)  : wr P d sw_c387 sw_h387 (0, [r0, vi x1, vi x2, r3, t4], [], h, kc, ks) Q := by
  refine w_ld rfl rfl (Or.inr (Or.inr ⟨by decide, y1⟩)) ?_
  refine w_c32 rfl (by decide) 0 (by decide) ?_
  refine w_ld rfl rfl (Or.inr (Or.inr ⟨by decide, y2⟩)) ?_
  refine w_ld rfl rfl (Or.inl ⟨by decide, rfl⟩) ?_
  refine w_ld rfl rfl (Or.inl ⟨by decide, rfl⟩) ?_
  subst e_q3
  exact w_cv rfl [.index q3, vi x1, vi x2] [vi 0, r3] rfl rfl (s_wt_4 rfl) rfl g5 k

theorem k387_8 {P : s_P} {d : Nat} {Q : s_O → Prop} {h : s_H} {kc ks : Nat} {r0 : Term} {x1 x2 : Int} {r3 t4 s0 : Term} {s1 s2 : Int} {q2 : Nat} {a3 : List Int} (g4 : s_get h q2 = some (0, 1, a3.map vl)) (k : wr P d sw_c387 sw_h387 (29, [r0, vi x1, vi x2, r3, t4], [], (hp h q2 (0, 1, (a3.set (Int.toNat (s1)) s2).map vl)), kc, ks) Q) (e_q2 : s0 = .index q2 := by first | rfl | assumption) (c1 : In3 s2 := by first | omega | assumption | (simp only [mk_len, List.length_map]; omega) | decide) (c5 : s1 < a3.length := by first | omega | assumption | (simp only [mk_len, List.length_map]; omega) | decide) (c6 : 0 ≤ s1 := by first | omega | assumption | (simp only [mk_len, List.length_map]; omega) | decide) (c7 : In3 s1 := by first | omega | assumption | (simp only [mk_len, List.length_map]; omega) | decide) (c8 : 0 < q2 := by first | omega | assumption | (simp only [mk_len, List.length_map]; omega) | decide) : wr P d sw_c387 sw_h387 (8, [r0, vi x1, vi x2, r3, t4], [vi s2, vi s1, s0], h, kc, ks) Q := by
  refine w_i2l rfl c1 ?_
  subst e_q2
  refine w_last rfl g4 (Nat.ble_eq_true_of_le c8) c7 c6 c5 ?_
  refine w_goto rfl ?_
  exact k

theorem k387_15 {P : s_P} {d : Nat} {Q : s_O → Prop} {h : s_H} {kc ks : Nat} {r0 : Term} {x1 x2 : Int} {r3 t4 : Term}  (k : Q (.inl (some (vi 1)), h, kc, ks))   : wr P d sw_c387 sw_h387 (15, [r0, vi x1, vi x2, r3, t4], [], h, kc, ks) Q := by
  refine w_c32 rfl (by decide) 1 (by decide) ?_
  exact w_iret rfl k

theorem k387_19 {P : s_P} {d : Nat} {Q : s_O → Prop} {h : s_H} {kc ks : Nat} {r0 : Term} {x1 x2 : Int} {r3 t4 : Term}  (k : Q (.inl (some (vi 2)), h, kc, ks))   : wr P d sw_c387 sw_h387 (19, [r0, vi x1, vi x2, r3, t4], [], h, kc, ks) Q := by
  refine w_c32 rfl (by decide) 2 (by decide) ?_
  exact w_iret rfl k

theorem k387_23 {P : s_P} {d : Nat} {Q : s_O → Prop} {h : s_H} {kc ks : Nat} {r0 : Term} {x1 x2 : Int} {r3 t4 : Term}  (k : Q (.inl (some (vi 3)), h, kc, ks))   : wr P d sw_c387 sw_h387 (23, [r0, vi x1, vi x2, r3, t4], [], h, kc, ks) Q := by
  refine w_c32 rfl (by decide) 3 (by decide) ?_
  exact w_iret rfl k

theorem k387_27 {P : s_P} {d : Nat} {Q : s_O → Prop} {h : s_H} {kc ks : Nat} {r0 : Term} {x1 x2 : Int} {r3 t4 : Term}  (k : Q (.inl (some (vi 4)), h, kc, ks))   : wr P d sw_c387 sw_h387 (27, [r0, vi x1, vi x2, r3, t4], [], h, kc, ks) Q := by
  refine w_c32 rfl (by decide) 4 (by decide) ?_
  exact w_iret rfl k

theorem k387_29 {P : s_P} {d : Nat} {Q : s_O → Prop} {h : s_H} {kc ks : Nat} {r0 : Term} {x1 x2 : Int} {r3 t4 : Term}  (k : Q (.inl (some (vi 0)), h, kc, ks))   : wr P d sw_c387 sw_h387 (29, [r0, vi x1, vi x2, r3, t4], [], h, kc, ks) Q := by
  refine w_c32 rfl (by decide) 0 (by decide) ?_
  exact w_iret rfl k

/-! 388: FormulaWorksLaw.value(LFormulaWorks;IJ[J)I -/
theorem k388_0 {P : s_P} {d : Nat} {Q : s_O → Prop} {h : s_H} {kc ks : Nat} {r0 : Term} {x1 x2 : Int} {t3 r4 t5 : Term} {q3 : Nat} {f4 : List Term} (g5 : s_get h q3 = some (1, 10, f4)) (k : wm P d 98 [.index q3, vi x1, vl x2] h (wq P d sw_c388 sw_h388 9 [.index q3, vi x1, vl x2, t3, r4, t5] [vi 0, r4] kc ks Q)) (e_q3 : r0 = .index q3 := by first | rfl | assumption) (y1 : s_ty r4 = 3 := by first | rfl | assumption) (y2 : s_ty r0 = 3 := by first | rfl | assumption)  : wr P d sw_c388 sw_h388 (0, [r0, vi x1, vl x2, t3, r4, t5], [], h, kc, ks) Q := by
  refine w_ld rfl rfl (Or.inr (Or.inr ⟨by decide, y1⟩)) ?_
  refine w_c32 rfl (by decide) 0 (by decide) ?_
  refine w_ld rfl rfl (Or.inr (Or.inr ⟨by decide, y2⟩)) ?_
  refine w_ld rfl rfl (Or.inl ⟨by decide, rfl⟩) ?_
  refine w_ld rfl rfl (Or.inr (Or.inl ⟨by decide, rfl⟩)) ?_
  subst e_q3
  exact w_cv rfl [.index q3, vi x1, vl x2] [vi 0, r4] rfl rfl (s_wt_4 rfl) rfl g5 k

theorem k388_9 {P : s_P} {d : Nat} {Q : s_O → Prop} {h : s_H} {kc ks : Nat} {r0 : Term} {x1 x2 : Int} {t3 r4 t5 s0 : Term} {s1 s2 : Int} {q2 : Nat} {a3 : List Int} (g4 : s_get h q2 = some (0, 1, a3.map vl)) (k : wr P d sw_c388 sw_h388 (22, [r0, vi x1, vl x2, t3, r4, t5], [], (hp h q2 (0, 1, (a3.set (Int.toNat (s1)) s2).map vl)), kc, ks) Q) (e_q2 : s0 = .index q2 := by first | rfl | assumption) (c1 : In3 s2 := by first | omega | assumption | (simp only [mk_len, List.length_map]; omega) | decide) (c5 : s1 < a3.length := by first | omega | assumption | (simp only [mk_len, List.length_map]; omega) | decide) (c6 : 0 ≤ s1 := by first | omega | assumption | (simp only [mk_len, List.length_map]; omega) | decide) (c7 : In3 s1 := by first | omega | assumption | (simp only [mk_len, List.length_map]; omega) | decide) (c8 : 0 < q2 := by first | omega | assumption | (simp only [mk_len, List.length_map]; omega) | decide) : wr P d sw_c388 sw_h388 (9, [r0, vi x1, vl x2, t3, r4, t5], [vi s2, vi s1, s0], h, kc, ks) Q := by
  refine w_i2l rfl c1 ?_
  subst e_q2
  refine w_last rfl g4 (Nat.ble_eq_true_of_le c8) c7 c6 c5 ?_
  refine w_goto rfl ?_
  exact k

theorem k388_16 {P : s_P} {d : Nat} {Q : s_O → Prop} {h : s_H} {kc ks : Nat} {r0 : Term} {x1 x2 : Int} {t3 r4 t5 : Term}  (k : Q (.inl (some (vi 1)), h, kc, ks))   : wr P d sw_c388 sw_h388 (16, [r0, vi x1, vl x2, t3, r4, t5], [], h, kc, ks) Q := by
  refine w_c32 rfl (by decide) 1 (by decide) ?_
  exact w_iret rfl k

theorem k388_20 {P : s_P} {d : Nat} {Q : s_O → Prop} {h : s_H} {kc ks : Nat} {r0 : Term} {x1 x2 : Int} {t3 r4 t5 : Term}  (k : Q (.inl (some (vi 2)), h, kc, ks))   : wr P d sw_c388 sw_h388 (20, [r0, vi x1, vl x2, t3, r4, t5], [], h, kc, ks) Q := by
  refine w_c32 rfl (by decide) 2 (by decide) ?_
  exact w_iret rfl k

theorem k388_22 {P : s_P} {d : Nat} {Q : s_O → Prop} {h : s_H} {kc ks : Nat} {r0 : Term} {x1 x2 : Int} {t3 r4 t5 : Term}  (k : Q (.inl (some (vi 0)), h, kc, ks))   : wr P d sw_c388 sw_h388 (22, [r0, vi x1, vl x2, t3, r4, t5], [], h, kc, ks) Q := by
  refine w_c32 rfl (by decide) 0 (by decide) ?_
  exact w_iret rfl k

/-! 389: FormulaWorksLaw.within(LFormulaWorks;II[J)I -/
theorem k389_0 {P : s_P} {d : Nat} {Q : s_O → Prop} {h : s_H} {kc ks : Nat} {r0 : Term} {x1 x2 : Int} {r3 t4 : Term} {q3 : Nat} {f4 : List Term} (g5 : s_get h q3 = some (1, 10, f4)) (k : wm P d 101 [.index q3, vi x1, vi x2] h (wq P d sw_c389 sw_h389 8 [.index q3, vi x1, vi x2, r3, t4] [vi 0, r3] kc ks Q)) (e_q3 : r0 = .index q3 := by first | rfl | assumption) (y1 : s_ty r3 = 3 := by first | rfl | assumption) (y2 : s_ty r0 = 3 := by first | rfl | assumption)  : wr P d sw_c389 sw_h389 (0, [r0, vi x1, vi x2, r3, t4], [], h, kc, ks) Q := by
  refine w_ld rfl rfl (Or.inr (Or.inr ⟨by decide, y1⟩)) ?_
  refine w_c32 rfl (by decide) 0 (by decide) ?_
  refine w_ld rfl rfl (Or.inr (Or.inr ⟨by decide, y2⟩)) ?_
  refine w_ld rfl rfl (Or.inl ⟨by decide, rfl⟩) ?_
  refine w_ld rfl rfl (Or.inl ⟨by decide, rfl⟩) ?_
  subst e_q3
  exact w_cv rfl [.index q3, vi x1, vi x2] [vi 0, r3] rfl rfl (s_wt_4 rfl) rfl g5 k

theorem k389_8 {P : s_P} {d : Nat} {Q : s_O → Prop} {h : s_H} {kc ks : Nat} {r0 : Term} {x1 x2 : Int} {r3 t4 s0 : Term} {s1 s2 : Int} {q2 : Nat} {a3 : List Int} (g4 : s_get h q2 = some (0, 1, a3.map vl)) (k : wr P d sw_c389 sw_h389 (25, [r0, vi x1, vi x2, r3, t4], [], (hp h q2 (0, 1, (a3.set (Int.toNat (s1)) s2).map vl)), kc, ks) Q) (e_q2 : s0 = .index q2 := by first | rfl | assumption) (c1 : In3 s2 := by first | omega | assumption | (simp only [mk_len, List.length_map]; omega) | decide) (c5 : s1 < a3.length := by first | omega | assumption | (simp only [mk_len, List.length_map]; omega) | decide) (c6 : 0 ≤ s1 := by first | omega | assumption | (simp only [mk_len, List.length_map]; omega) | decide) (c7 : In3 s1 := by first | omega | assumption | (simp only [mk_len, List.length_map]; omega) | decide) (c8 : 0 < q2 := by first | omega | assumption | (simp only [mk_len, List.length_map]; omega) | decide) : wr P d sw_c389 sw_h389 (8, [r0, vi x1, vi x2, r3, t4], [vi s2, vi s1, s0], h, kc, ks) Q := by
  refine w_i2l rfl c1 ?_
  subst e_q2
  refine w_last rfl g4 (Nat.ble_eq_true_of_le c8) c7 c6 c5 ?_
  refine w_goto rfl ?_
  exact k

theorem k389_15 {P : s_P} {d : Nat} {Q : s_O → Prop} {h : s_H} {kc ks : Nat} {r0 : Term} {x1 x2 : Int} {r3 t4 : Term}  (k : Q (.inl (some (vi 1)), h, kc, ks))   : wr P d sw_c389 sw_h389 (15, [r0, vi x1, vi x2, r3, t4], [], h, kc, ks) Q := by
  refine w_c32 rfl (by decide) 1 (by decide) ?_
  exact w_iret rfl k

theorem k389_19 {P : s_P} {d : Nat} {Q : s_O → Prop} {h : s_H} {kc ks : Nat} {r0 : Term} {x1 x2 : Int} {r3 t4 : Term}  (k : Q (.inl (some (vi 2)), h, kc, ks))   : wr P d sw_c389 sw_h389 (19, [r0, vi x1, vi x2, r3, t4], [], h, kc, ks) Q := by
  refine w_c32 rfl (by decide) 2 (by decide) ?_
  exact w_iret rfl k

theorem k389_23 {P : s_P} {d : Nat} {Q : s_O → Prop} {h : s_H} {kc ks : Nat} {r0 : Term} {x1 x2 : Int} {r3 t4 : Term}  (k : Q (.inl (some (vi 3)), h, kc, ks))   : wr P d sw_c389 sw_h389 (23, [r0, vi x1, vi x2, r3, t4], [], h, kc, ks) Q := by
  refine w_c32 rfl (by decide) 3 (by decide) ?_
  exact w_iret rfl k

theorem k389_25 {P : s_P} {d : Nat} {Q : s_O → Prop} {h : s_H} {kc ks : Nat} {r0 : Term} {x1 x2 : Int} {r3 t4 : Term}  (k : Q (.inl (some (vi 0)), h, kc, ks))   : wr P d sw_c389 sw_h389 (25, [r0, vi x1, vi x2, r3, t4], [], h, kc, ks) Q := by
  refine w_c32 rfl (by decide) 0 (by decide) ?_
  exact w_iret rfl k

/-! 390: FormulaWorksLaw.worth(LFormulaWorks;I[J)I -/
theorem k390_0 {P : s_P} {d : Nat} {Q : s_O → Prop} {h : s_H} {kc ks : Nat} {r0 : Term} {x1 : Int} {r2 t3 : Term} {q3 : Nat} {f4 : List Term} (g5 : s_get h q3 = some (1, 10, f4)) (k : wm P d 103 [.index q3, vi x1] h (wq P d sw_c390 sw_h390 7 [.index q3, vi x1, r2, t3] [vi 0, r2] kc ks Q)) (e_q3 : r0 = .index q3 := by first | rfl | assumption) (y1 : s_ty r2 = 3 := by first | rfl | assumption) (y2 : s_ty r0 = 3 := by first | rfl | assumption)  : wr P d sw_c390 sw_h390 (0, [r0, vi x1, r2, t3], [], h, kc, ks) Q := by
  refine w_ld rfl rfl (Or.inr (Or.inr ⟨by decide, y1⟩)) ?_
  refine w_c32 rfl (by decide) 0 (by decide) ?_
  refine w_ld rfl rfl (Or.inr (Or.inr ⟨by decide, y2⟩)) ?_
  refine w_ld rfl rfl (Or.inl ⟨by decide, rfl⟩) ?_
  subst e_q3
  exact w_cv rfl [.index q3, vi x1] [vi 0, r2] rfl rfl (s_wt_4 rfl) rfl g5 k

theorem k390_7 {P : s_P} {d : Nat} {Q : s_O → Prop} {h : s_H} {kc ks : Nat} {r0 : Term} {x1 : Int} {r2 t3 s0 : Term} {s1 s2 : Int} {q2 : Nat} {a3 : List Int} (g4 : s_get h q2 = some (0, 1, a3.map vl)) (k : wr P d sw_c390 sw_h390 (24, [r0, vi x1, r2, t3], [], (hp h q2 (0, 1, (a3.set (Int.toNat (s1)) s2).map vl)), kc, ks) Q) (e_q2 : s0 = .index q2 := by first | rfl | assumption) (c1 : In3 s2 := by first | omega | assumption | (simp only [mk_len, List.length_map]; omega) | decide) (c5 : s1 < a3.length := by first | omega | assumption | (simp only [mk_len, List.length_map]; omega) | decide) (c6 : 0 ≤ s1 := by first | omega | assumption | (simp only [mk_len, List.length_map]; omega) | decide) (c7 : In3 s1 := by first | omega | assumption | (simp only [mk_len, List.length_map]; omega) | decide) (c8 : 0 < q2 := by first | omega | assumption | (simp only [mk_len, List.length_map]; omega) | decide) : wr P d sw_c390 sw_h390 (7, [r0, vi x1, r2, t3], [vi s2, vi s1, s0], h, kc, ks) Q := by
  refine w_i2l rfl c1 ?_
  subst e_q2
  refine w_last rfl g4 (Nat.ble_eq_true_of_le c8) c7 c6 c5 ?_
  refine w_goto rfl ?_
  exact k

theorem k390_13 {P : s_P} {d : Nat} {Q : s_O → Prop} {h : s_H} {kc ks : Nat} {r0 : Term} {x1 : Int} {r2 t3 : Term}  (k : Q (.inl (some (vi 1)), h, kc, ks))   : wr P d sw_c390 sw_h390 (13, [r0, vi x1, r2, t3], [], h, kc, ks) Q := by
  refine w_c32 rfl (by decide) 1 (by decide) ?_
  exact w_iret rfl k

theorem k390_16 {P : s_P} {d : Nat} {Q : s_O → Prop} {h : s_H} {kc ks : Nat} {r0 : Term} {x1 : Int} {r2 t3 : Term}  (k : Q (.inl (some (vi 2)), h, kc, ks))   : wr P d sw_c390 sw_h390 (16, [r0, vi x1, r2, t3], [], h, kc, ks) Q := by
  refine w_c32 rfl (by decide) 2 (by decide) ?_
  exact w_iret rfl k

theorem k390_19 {P : s_P} {d : Nat} {Q : s_O → Prop} {h : s_H} {kc ks : Nat} {r0 : Term} {x1 : Int} {r2 t3 : Term}  (k : Q (.inl (some (vi 3)), h, kc, ks))   : wr P d sw_c390 sw_h390 (19, [r0, vi x1, r2, t3], [], h, kc, ks) Q := by
  refine w_c32 rfl (by decide) 3 (by decide) ?_
  exact w_iret rfl k

theorem k390_22 {P : s_P} {d : Nat} {Q : s_O → Prop} {h : s_H} {kc ks : Nat} {r0 : Term} {x1 : Int} {r2 t3 : Term}  (k : Q (.inl (some (vi 4)), h, kc, ks))   : wr P d sw_c390 sw_h390 (22, [r0, vi x1, r2, t3], [], h, kc, ks) Q := by
  refine w_c32 rfl (by decide) 4 (by decide) ?_
  exact w_iret rfl k

theorem k390_24 {P : s_P} {d : Nat} {Q : s_O → Prop} {h : s_H} {kc ks : Nat} {r0 : Term} {x1 : Int} {r2 t3 : Term}  (k : Q (.inl (some (vi 0)), h, kc, ks))   : wr P d sw_c390 sw_h390 (24, [r0, vi x1, r2, t3], [], h, kc, ks) Q := by
  refine w_c32 rfl (by decide) 0 (by decide) ?_
  exact w_iret rfl k

/-! 391: FormulaWorksLaw.written(LFormulaWorks;I[J)I -/
theorem k391_0 {P : s_P} {d : Nat} {Q : s_O → Prop} {h : s_H} {kc ks : Nat} {r0 : Term} {x1 : Int} {r2 t3 : Term} {q3 : Nat} {f4 : List Term} (g5 : s_get h q3 = some (1, 10, f4)) (k : wm P d 104 [.index q3, vi x1] h (wq P d sw_c391 sw_h391 7 [.index q3, vi x1, r2, t3] [vi 0, r2] kc ks Q)) (e_q3 : r0 = .index q3 := by first | rfl | assumption) (y1 : s_ty r2 = 3 := by first | rfl | assumption) (y2 : s_ty r0 = 3 := by first | rfl | assumption)  : wr P d sw_c391 sw_h391 (0, [r0, vi x1, r2, t3], [], h, kc, ks) Q := by
  refine w_ld rfl rfl (Or.inr (Or.inr ⟨by decide, y1⟩)) ?_
  refine w_c32 rfl (by decide) 0 (by decide) ?_
  refine w_ld rfl rfl (Or.inr (Or.inr ⟨by decide, y2⟩)) ?_
  refine w_ld rfl rfl (Or.inl ⟨by decide, rfl⟩) ?_
  subst e_q3
  exact w_cv rfl [.index q3, vi x1] [vi 0, r2] rfl rfl (s_wt_4 rfl) rfl g5 k

theorem k391_7 {P : s_P} {d : Nat} {Q : s_O → Prop} {h : s_H} {kc ks : Nat} {r0 : Term} {x1 : Int} {r2 t3 s0 : Term} {s1 s2 : Int} {q2 : Nat} {a3 : List Int} (g4 : s_get h q2 = some (0, 1, a3.map vl)) (k : wr P d sw_c391 sw_h391 (21, [r0, vi x1, r2, t3], [], (hp h q2 (0, 1, (a3.set (Int.toNat (s1)) s2).map vl)), kc, ks) Q) (e_q2 : s0 = .index q2 := by first | rfl | assumption) (c1 : In3 s2 := by first | omega | assumption | (simp only [mk_len, List.length_map]; omega) | decide) (c5 : s1 < a3.length := by first | omega | assumption | (simp only [mk_len, List.length_map]; omega) | decide) (c6 : 0 ≤ s1 := by first | omega | assumption | (simp only [mk_len, List.length_map]; omega) | decide) (c7 : In3 s1 := by first | omega | assumption | (simp only [mk_len, List.length_map]; omega) | decide) (c8 : 0 < q2 := by first | omega | assumption | (simp only [mk_len, List.length_map]; omega) | decide) : wr P d sw_c391 sw_h391 (7, [r0, vi x1, r2, t3], [vi s2, vi s1, s0], h, kc, ks) Q := by
  refine w_i2l rfl c1 ?_
  subst e_q2
  refine w_last rfl g4 (Nat.ble_eq_true_of_le c8) c7 c6 c5 ?_
  refine w_goto rfl ?_
  exact k

theorem k391_13 {P : s_P} {d : Nat} {Q : s_O → Prop} {h : s_H} {kc ks : Nat} {r0 : Term} {x1 : Int} {r2 t3 : Term}  (k : Q (.inl (some (vi 1)), h, kc, ks))   : wr P d sw_c391 sw_h391 (13, [r0, vi x1, r2, t3], [], h, kc, ks) Q := by
  refine w_c32 rfl (by decide) 1 (by decide) ?_
  exact w_iret rfl k

theorem k391_16 {P : s_P} {d : Nat} {Q : s_O → Prop} {h : s_H} {kc ks : Nat} {r0 : Term} {x1 : Int} {r2 t3 : Term}  (k : Q (.inl (some (vi 2)), h, kc, ks))   : wr P d sw_c391 sw_h391 (16, [r0, vi x1, r2, t3], [], h, kc, ks) Q := by
  refine w_c32 rfl (by decide) 2 (by decide) ?_
  exact w_iret rfl k

theorem k391_19 {P : s_P} {d : Nat} {Q : s_O → Prop} {h : s_H} {kc ks : Nat} {r0 : Term} {x1 : Int} {r2 t3 : Term}  (k : Q (.inl (some (vi 3)), h, kc, ks))   : wr P d sw_c391 sw_h391 (19, [r0, vi x1, r2, t3], [], h, kc, ks) Q := by
  refine w_c32 rfl (by decide) 3 (by decide) ?_
  exact w_iret rfl k

theorem k391_21 {P : s_P} {d : Nat} {Q : s_O → Prop} {h : s_H} {kc ks : Nat} {r0 : Term} {x1 : Int} {r2 t3 : Term}  (k : Q (.inl (some (vi 0)), h, kc, ks))   : wr P d sw_c391 sw_h391 (21, [r0, vi x1, r2, t3], [], h, kc, ks) Q := by
  refine w_c32 rfl (by decide) 0 (by decide) ?_
  exact w_iret rfl k

/-! 393: FormulaWorksModel.add(II)I -/
theorem k393_0 {P : s_P} {d : Nat} {Q : s_O → Prop} {h : s_H} {kc ks : Nat} {r0 : Term} {x1 x2 : Int} {q2 : Nat} {f3 : List Term} (g4 : s_get h q2 = some (1, 11, f3)) (k : wm P d 395 [.index q2, vi x1, vi x2, vl 1] h (wq P d sw_c393 sw_h393 7 [.index q2, vi x1, vi x2] [] kc ks Q)) (e_q2 : r0 = .index q2 := by first | rfl | assumption) (y1 : s_ty r0 = 3 := by first | rfl | assumption)  : wr P d sw_c393 sw_h393 (0, [r0, vi x1, vi x2], [], h, kc, ks) Q := by
  refine w_ld rfl rfl (Or.inr (Or.inr ⟨by decide, y1⟩)) ?_
  refine w_ld rfl rfl (Or.inl ⟨by decide, rfl⟩) ?_
  refine w_ld rfl rfl (Or.inl ⟨by decide, rfl⟩) ?_
  refine w_c64 rfl (by decide) 1 (by decide) ?_
  subst e_q2
  exact w_cv rfl [.index q2, vi x1, vi x2, vl 1] [] rfl rfl (s_wt_4 rfl) rfl g4 k

theorem k393_7 {P : s_P} {d : Nat} {Q : s_O → Prop} {h : s_H} {kc ks : Nat} {r0 : Term} {x1 x2 s0 : Int}  (k : Q (.inl (some (vi s0)), h, kc, ks))   : wr P d sw_c393 sw_h393 (7, [r0, vi x1, vi x2], [vi s0], h, kc, ks) Q := by
  exact w_iret rfl k

/-! 394: FormulaWorksModel.addMatrices(IIJ)I -/
theorem k394_0 {P : s_P} {d : Nat} {Q : s_O → Prop} {h : s_H} {kc ks : Nat} {r0 : Term} {x1 x2 x3 : Int} {t4 t5 t6 : Term} {q2 : Nat} {f3 : List Term} {v5 : Term} {q7 : Nat} {a8 : List Int} (g4 : s_get h q2 = some (1, 11, f3)) (g9 : s_get h q7 = some (0, 0, a8.map vi)) (k1 : gi a8 x1 ≠ gi a8 x2 → wr P d sw_c394 sw_h394 (30, [.index q2, vi x1, vi x2, vl x3, t4, t5, t6], [], h, kc, ks) Q) (k2 : ¬ gi a8 x1 ≠ gi a8 x2 → wr P d sw_c394 sw_h394 (15, [.index q2, vi x1, vi x2, vl x3, t4, t5, t6], [], h, kc, ks) Q) (e_q2 : r0 = .index q2 := by first | rfl | assumption) (e_q7 : v5 = .index q7 := by first | rfl | assumption) (y1 : s_ty r0 = 3 := by first | rfl | assumption) (n6 : s_nth f3 5 = some v5 := by first | rfl | assumption) (c10 : x1 < a8.length := by first | omega | assumption | (simp only [mk_len, List.length_map]; omega) | decide) (c11 : 0 ≤ x1 := by first | omega | assumption | (simp only [mk_len, List.length_map]; omega) | decide) (c12 : In3 x1 := by first | omega | assumption | (simp only [mk_len, List.length_map]; omega) | decide) (c13 : x2 < a8.length := by first | omega | assumption | (simp only [mk_len, List.length_map]; omega) | decide) (c14 : 0 ≤ x2 := by first | omega | assumption | (simp only [mk_len, List.length_map]; omega) | decide) (c15 : In3 x2 := by first | omega | assumption | (simp only [mk_len, List.length_map]; omega) | decide) (c16 : In3 (gi a8 x1) := by first | omega | assumption | (simp only [mk_len, List.length_map]; omega) | decide) (c17 : In3 (gi a8 x2) := by first | omega | assumption | (simp only [mk_len, List.length_map]; omega) | decide) : wr P d sw_c394 sw_h394 (0, [r0, vi x1, vi x2, vl x3, t4, t5, t6], [], h, kc, ks) Q := by
  refine w_ld rfl rfl (Or.inr (Or.inr ⟨by decide, y1⟩)) ?_
  subst e_q2
  refine w_getf rfl g4 n6 ?_
  refine w_ld rfl rfl (Or.inl ⟨by decide, rfl⟩) ?_
  subst e_q7
  refine w_iald rfl g9 (Or.inl rfl) c12 c11 c10 ?_
  refine w_ld rfl rfl (Or.inr (Or.inr ⟨by decide, rfl⟩)) ?_
  refine w_getf rfl g4 n6 ?_
  refine w_ld rfl rfl (Or.inl ⟨by decide, rfl⟩) ?_
  refine w_iald rfl g9 (Or.inl rfl) c15 c14 c13 ?_
  exact w_if2 rfl c16 c17 k1 k2

theorem k394_15 {P : s_P} {d : Nat} {Q : s_O → Prop} {h : s_H} {kc ks : Nat} {r0 : Term} {x1 x2 x3 : Int} {t4 t5 t6 : Term} {q2 : Nat} {f3 : List Term} {v5 : Term} {q7 : Nat} {a8 : List Int} (g4 : s_get h q2 = some (1, 11, f3)) (g9 : s_get h q7 = some (0, 0, a8.map vi)) (k1 : gi a8 x1 = gi a8 x2 → wr P d sw_c394 sw_h394 (36, [.index q2, vi x1, vi x2, vl x3, t4, t5, t6], [], h, kc, ks) Q) (k2 : ¬ gi a8 x1 = gi a8 x2 → wr P d sw_c394 sw_h394 (30, [.index q2, vi x1, vi x2, vl x3, t4, t5, t6], [], h, kc, ks) Q) (e_q2 : r0 = .index q2 := by first | rfl | assumption) (e_q7 : v5 = .index q7 := by first | rfl | assumption) (y1 : s_ty r0 = 3 := by first | rfl | assumption) (n6 : s_nth f3 6 = some v5 := by first | rfl | assumption) (c10 : x1 < a8.length := by first | omega | assumption | (simp only [mk_len, List.length_map]; omega) | decide) (c11 : 0 ≤ x1 := by first | omega | assumption | (simp only [mk_len, List.length_map]; omega) | decide) (c12 : In3 x1 := by first | omega | assumption | (simp only [mk_len, List.length_map]; omega) | decide) (c13 : x2 < a8.length := by first | omega | assumption | (simp only [mk_len, List.length_map]; omega) | decide) (c14 : 0 ≤ x2 := by first | omega | assumption | (simp only [mk_len, List.length_map]; omega) | decide) (c15 : In3 x2 := by first | omega | assumption | (simp only [mk_len, List.length_map]; omega) | decide) (c16 : In3 (gi a8 x1) := by first | omega | assumption | (simp only [mk_len, List.length_map]; omega) | decide) (c17 : In3 (gi a8 x2) := by first | omega | assumption | (simp only [mk_len, List.length_map]; omega) | decide) : wr P d sw_c394 sw_h394 (15, [r0, vi x1, vi x2, vl x3, t4, t5, t6], [], h, kc, ks) Q := by
  refine w_ld rfl rfl (Or.inr (Or.inr ⟨by decide, y1⟩)) ?_
  subst e_q2
  refine w_getf rfl g4 n6 ?_
  refine w_ld rfl rfl (Or.inl ⟨by decide, rfl⟩) ?_
  subst e_q7
  refine w_iald rfl g9 (Or.inl rfl) c12 c11 c10 ?_
  refine w_ld rfl rfl (Or.inr (Or.inr ⟨by decide, rfl⟩)) ?_
  refine w_getf rfl g4 n6 ?_
  refine w_ld rfl rfl (Or.inl ⟨by decide, rfl⟩) ?_
  refine w_iald rfl g9 (Or.inl rfl) c15 c14 c13 ?_
  exact w_if2 rfl c16 c17 k1 k2

theorem k394_30 {P : s_P} {d : Nat} {Q : s_O → Prop} {h : s_H} {kc ks : Nat} {r0 : Term} {x1 x2 x3 : Int} {t4 t5 t6 : Term} {q2 : Nat} {f3 : List Term} (g4 : s_get h q2 = some (1, 11, f3)) (k : wm P d 570 [.index q2, vi 2] h (wq P d sw_c394 sw_h394 35 [.index q2, vi x1, vi x2, vl x3, t4, t5, t6] [] kc ks Q)) (e_q2 : r0 = .index q2 := by first | rfl | assumption) (y1 : s_ty r0 = 3 := by first | rfl | assumption)  : wr P d sw_c394 sw_h394 (30, [r0, vi x1, vi x2, vl x3, t4, t5, t6], [], h, kc, ks) Q := by
  refine w_ld rfl rfl (Or.inr (Or.inr ⟨by decide, y1⟩)) ?_
  refine w_c32 rfl (by decide) 2 (by decide) ?_
  subst e_q2
  exact w_cv rfl [.index q2, vi 2] [] rfl rfl (s_wt_4 rfl) rfl g4 k

theorem k394_35 {P : s_P} {d : Nat} {Q : s_O → Prop} {h : s_H} {kc ks : Nat} {r0 : Term} {x1 x2 x3 : Int} {t4 t5 t6 : Term} {s0 : Int}  (k : Q (.inl (some (vi s0)), h, kc, ks))   : wr P d sw_c394 sw_h394 (35, [r0, vi x1, vi x2, vl x3, t4, t5, t6], [vi s0], h, kc, ks) Q := by
  exact w_iret rfl k

theorem k394_36 {P : s_P} {d : Nat} {Q : s_O → Prop} {h : s_H} {kc ks : Nat} {r0 : Term} {x1 x2 x3 : Int} {t4 t5 t6 : Term} {q2 : Nat} {f3 : List Term} {z5 : Int} (g4 : s_get h q2 = some (1, 11, f3)) (k1 : z5 ≠ 150 → wr P d sw_c394 sw_h394 (52, [.index q2, vi x1, vi x2, vl x3, t4, t5, t6], [], h, kc, ks) Q) (k2 : ¬ z5 ≠ 150 → wr P d sw_c394 sw_h394 (46, [.index q2, vi x1, vi x2, vl x3, t4, t5, t6], [], h, kc, ks) Q) (e_q2 : r0 = .index q2 := by first | rfl | assumption) (y1 : s_ty r0 = 3 := by first | rfl | assumption) (n6 : s_nth f3 1 = some (vi z5) := by first | rfl | assumption) (c7 : In3 z5 := by first | omega | assumption | (simp only [mk_len, List.length_map]; omega) | decide) : wr P d sw_c394 sw_h394 (36, [r0, vi x1, vi x2, vl x3, t4, t5, t6], [], h, kc, ks) Q := by
  refine w_ld rfl rfl (Or.inr (Or.inr ⟨by decide, y1⟩)) ?_
  subst e_q2
  refine w_getf rfl g4 n6 ?_
  refine w_c32 rfl (by decide) 150 (by decide) ?_
  exact w_if2 rfl c7 (by decide) k1 k2

theorem k394_46 {P : s_P} {d : Nat} {Q : s_O → Prop} {h : s_H} {kc ks : Nat} {r0 : Term} {x1 x2 x3 : Int} {t4 t5 t6 : Term} {q2 : Nat} {f3 : List Term} (g4 : s_get h q2 = some (1, 11, f3)) (k : wm P d 570 [.index q2, vi 3] h (wq P d sw_c394 sw_h394 51 [.index q2, vi x1, vi x2, vl x3, t4, t5, t6] [] kc ks Q)) (e_q2 : r0 = .index q2 := by first | rfl | assumption) (y1 : s_ty r0 = 3 := by first | rfl | assumption)  : wr P d sw_c394 sw_h394 (46, [r0, vi x1, vi x2, vl x3, t4, t5, t6], [], h, kc, ks) Q := by
  refine w_ld rfl rfl (Or.inr (Or.inr ⟨by decide, y1⟩)) ?_
  refine w_c32 rfl (by decide) 3 (by decide) ?_
  subst e_q2
  exact w_cv rfl [.index q2, vi 3] [] rfl rfl (s_wt_4 rfl) rfl g4 k

theorem k394_51 {P : s_P} {d : Nat} {Q : s_O → Prop} {h : s_H} {kc ks : Nat} {r0 : Term} {x1 x2 x3 : Int} {t4 t5 t6 : Term} {s0 : Int}  (k : Q (.inl (some (vi s0)), h, kc, ks))   : wr P d sw_c394 sw_h394 (51, [r0, vi x1, vi x2, vl x3, t4, t5, t6], [vi s0], h, kc, ks) Q := by
  exact w_iret rfl k

theorem k394_52 {P : s_P} {d : Nat} {Q : s_O → Prop} {h : s_H} {kc ks : Nat} {r0 : Term} {x1 x2 x3 : Int} {t4 t5 t6 : Term}  (k : wr P d sw_c394 sw_h394 (55, [r0, vi x1, vi x2, vl x3, (s_uu t4), vi 0, t6], [], h, kc, ks) Q)   : wr P d sw_c394 sw_h394 (52, [r0, vi x1, vi x2, vl x3, t4, t5, t6], [], h, kc, ks) Q := by
  refine w_c32 rfl (by decide) 0 (by decide) ?_
  refine w_st (ls' := [r0, vi x1, vi x2, vl x3, (s_uu t4), vi 0, t6]) rfl (Or.inl ⟨by decide, rfl⟩) (s_stK_t (pre := [r0, vi x1, vi x2, vl x3])) ?_
  exact k

theorem k394_55 {P : s_P} {d : Nat} {Q : s_O → Prop} {h : s_H} {kc ks : Nat} {r0 : Term} {x1 x2 x3 : Int} {t4 : Term} {x5 : Int} {t6 : Term} {q2 : Nat} {f3 : List Term} {v5 : Term} {q7 : Nat} {a8 : List Int} (g4 : s_get h q2 = some (1, 11, f3)) (g9 : s_get h q7 = some (0, 0, a8.map vi)) (k1 : gi a8 x1 ≤ x5 → wr P d sw_c394 sw_h394 (142, [.index q2, vi x1, vi x2, vl x3, t4, vi x5, t6], [], h, kc, ks) Q) (k2 : ¬ gi a8 x1 ≤ x5 → wr P d sw_c394 sw_h394 (66, [.index q2, vi x1, vi x2, vl x3, t4, vi x5, t6], [], h, kc, ks) Q) (e_q2 : r0 = .index q2 := by first | rfl | assumption) (e_q7 : v5 = .index q7 := by first | rfl | assumption) (y1 : s_ty r0 = 3 := by first | rfl | assumption) (n6 : s_nth f3 5 = some v5 := by first | rfl | assumption) (c10 : x1 < a8.length := by first | omega | assumption | (simp only [mk_len, List.length_map]; omega) | decide) (c11 : 0 ≤ x1 := by first | omega | assumption | (simp only [mk_len, List.length_map]; omega) | decide) (c12 : In3 x1 := by first | omega | assumption | (simp only [mk_len, List.length_map]; omega) | decide) (c13 : In3 x5 := by first | omega | assumption | (simp only [mk_len, List.length_map]; omega) | decide) (c14 : In3 (gi a8 x1) := by first | omega | assumption | (simp only [mk_len, List.length_map]; omega) | decide) : wr P d sw_c394 sw_h394 (55, [r0, vi x1, vi x2, vl x3, t4, vi x5, t6], [], h, kc, ks) Q := by
  refine w_ld rfl rfl (Or.inl ⟨by decide, rfl⟩) ?_
  refine w_ld rfl rfl (Or.inr (Or.inr ⟨by decide, y1⟩)) ?_
  subst e_q2
  refine w_getf rfl g4 n6 ?_
  refine w_ld rfl rfl (Or.inl ⟨by decide, rfl⟩) ?_
  subst e_q7
  refine w_iald rfl g9 (Or.inl rfl) c12 c11 c10 ?_
  exact w_if2 rfl c13 c14 k1 k2

theorem k394_66 {P : s_P} {d : Nat} {Q : s_O → Prop} {h : s_H} {kc ks : Nat} {r0 : Term} {x1 x2 x3 : Int} {t4 : Term} {x5 : Int} {t6 : Term}  (k : wr P d sw_c394 sw_h394 (69, [r0, vi x1, vi x2, vl x3, t4, vi x5, vi 0], [], h, kc, ks) Q)   : wr P d sw_c394 sw_h394 (66, [r0, vi x1, vi x2, vl x3, t4, vi x5, t6], [], h, kc, ks) Q := by
  refine w_c32 rfl (by decide) 0 (by decide) ?_
  refine w_st (ls' := [r0, vi x1, vi x2, vl x3, t4, vi x5, vi 0]) rfl (Or.inl ⟨by decide, rfl⟩) rfl ?_
  exact k

theorem k394_69 {P : s_P} {d : Nat} {Q : s_O → Prop} {h : s_H} {kc ks : Nat} {r0 : Term} {x1 x2 x3 : Int} {t4 : Term} {x5 x6 : Int} {q2 : Nat} {f3 : List Term} {v5 : Term} {q7 : Nat} {a8 : List Int} (g4 : s_get h q2 = some (1, 11, f3)) (g9 : s_get h q7 = some (0, 0, a8.map vi)) (k1 : gi a8 x1 ≤ x6 → wr P d sw_c394 sw_h394 (136, [.index q2, vi x1, vi x2, vl x3, t4, vi x5, vi x6], [], h, kc, ks) Q) (k2 : ¬ gi a8 x1 ≤ x6 → wr P d sw_c394 sw_h394 (80, [.index q2, vi x1, vi x2, vl x3, t4, vi x5, vi x6], [], h, kc, ks) Q) (e_q2 : r0 = .index q2 := by first | rfl | assumption) (e_q7 : v5 = .index q7 := by first | rfl | assumption) (y1 : s_ty r0 = 3 := by first | rfl | assumption) (n6 : s_nth f3 6 = some v5 := by first | rfl | assumption) (c10 : x1 < a8.length := by first | omega | assumption | (simp only [mk_len, List.length_map]; omega) | decide) (c11 : 0 ≤ x1 := by first | omega | assumption | (simp only [mk_len, List.length_map]; omega) | decide) (c12 : In3 x1 := by first | omega | assumption | (simp only [mk_len, List.length_map]; omega) | decide) (c13 : In3 x6 := by first | omega | assumption | (simp only [mk_len, List.length_map]; omega) | decide) (c14 : In3 (gi a8 x1) := by first | omega | assumption | (simp only [mk_len, List.length_map]; omega) | decide) : wr P d sw_c394 sw_h394 (69, [r0, vi x1, vi x2, vl x3, t4, vi x5, vi x6], [], h, kc, ks) Q := by
  refine w_ld rfl rfl (Or.inl ⟨by decide, rfl⟩) ?_
  refine w_ld rfl rfl (Or.inr (Or.inr ⟨by decide, y1⟩)) ?_
  subst e_q2
  refine w_getf rfl g4 n6 ?_
  refine w_ld rfl rfl (Or.inl ⟨by decide, rfl⟩) ?_
  subst e_q7
  refine w_iald rfl g9 (Or.inl rfl) c12 c11 c10 ?_
  exact w_if2 rfl c13 c14 k1 k2

theorem k394_80 {P : s_P} {d : Nat} {Q : s_O → Prop} {h : s_H} {kc ks : Nat} {r0 : Term} {x1 x2 x3 : Int} {t4 : Term} {x5 x6 : Int} {q2 : Nat} {f3 : List Term} {v5 : Term} (g4 : s_get h q2 = some (1, 11, f3)) (k : wm P d 508 [.index q2, v5, vi x1, vi x5, vi x6] h (wq P d sw_c394 sw_h394 93 [.index q2, vi x1, vi x2, vl x3, t4, vi x5, vi x6] [] kc ks Q)) (e_q2 : r0 = .index q2 := by first | rfl | assumption) (y1 : s_ty r0 = 3 := by first | rfl | assumption) (n6 : s_nth f3 20 = some v5 := by first | rfl | assumption)  : wr P d sw_c394 sw_h394 (80, [r0, vi x1, vi x2, vl x3, t4, vi x5, vi x6], [], h, kc, ks) Q := by
  refine w_ld rfl rfl (Or.inr (Or.inr ⟨by decide, y1⟩)) ?_
  refine w_ld rfl rfl (Or.inr (Or.inr ⟨by decide, y1⟩)) ?_
  subst e_q2
  refine w_getf rfl g4 n6 ?_
  refine w_ld rfl rfl (Or.inl ⟨by decide, rfl⟩) ?_
  refine w_ld rfl rfl (Or.inl ⟨by decide, rfl⟩) ?_
  refine w_ld rfl rfl (Or.inl ⟨by decide, rfl⟩) ?_
  exact w_cv rfl [.index q2, v5, vi x1, vi x5, vi x6] [] rfl rfl (s_wt_4 rfl) rfl g4 k

theorem k394_93 {P : s_P} {d : Nat} {Q : s_O → Prop} {h : s_H} {kc ks : Nat} {r0 : Term} {x1 x2 x3 : Int} {t4 : Term} {x5 x6 : Int} {q2 : Nat} {f3 : List Term} {v5 : Term} (g4 : s_get h q2 = some (1, 11, f3)) (k : wm P d 508 [.index q2, v5, vi x2, vi x5, vi x6] h (wq P d sw_c394 sw_h394 106 [.index q2, vi x1, vi x2, vl x3, t4, vi x5, vi x6] [] kc ks Q)) (e_q2 : r0 = .index q2 := by first | rfl | assumption) (y1 : s_ty r0 = 3 := by first | rfl | assumption) (n6 : s_nth f3 21 = some v5 := by first | rfl | assumption)  : wr P d sw_c394 sw_h394 (93, [r0, vi x1, vi x2, vl x3, t4, vi x5, vi x6], [], h, kc, ks) Q := by
  refine w_ld rfl rfl (Or.inr (Or.inr ⟨by decide, y1⟩)) ?_
  refine w_ld rfl rfl (Or.inr (Or.inr ⟨by decide, y1⟩)) ?_
  subst e_q2
  refine w_getf rfl g4 n6 ?_
  refine w_ld rfl rfl (Or.inl ⟨by decide, rfl⟩) ?_
  refine w_ld rfl rfl (Or.inl ⟨by decide, rfl⟩) ?_
  refine w_ld rfl rfl (Or.inl ⟨by decide, rfl⟩) ?_
  exact w_cv rfl [.index q2, v5, vi x2, vi x5, vi x6] [] rfl rfl (s_wt_4 rfl) rfl g4 k

theorem k394_106 {P : s_P} {d : Nat} {Q : s_O → Prop} {h : s_H} {kc ks : Nat} {r0 : Term} {x1 x2 x3 : Int} {t4 : Term} {x5 x6 : Int} {q2 : Nat} {f3 : List Term} {v5 v7 : Term} (g4 : s_get h q2 = some (1, 11, f3)) (k : wm P d 529 [v5, v7, vl x3] h (wq P d sw_c394 sw_h394 118 [.index q2, vi x1, vi x2, vl x3, t4, vi x5, vi x6] [] kc ks Q)) (e_q2 : r0 = .index q2 := by first | rfl | assumption) (y1 : s_ty r0 = 3 := by first | rfl | assumption) (n6 : s_nth f3 20 = some v5 := by first | rfl | assumption) (n8 : s_nth f3 21 = some v7 := by first | rfl | assumption)  : wr P d sw_c394 sw_h394 (106, [r0, vi x1, vi x2, vl x3, t4, vi x5, vi x6], [], h, kc, ks) Q := by
  refine w_ld rfl rfl (Or.inr (Or.inr ⟨by decide, y1⟩)) ?_
  subst e_q2
  refine w_getf rfl g4 n6 ?_
  refine w_ld rfl rfl (Or.inr (Or.inr ⟨by decide, rfl⟩)) ?_
  refine w_getf rfl g4 n8 ?_
  refine w_ld rfl rfl (Or.inr (Or.inl ⟨by decide, rfl⟩)) ?_
  exact w_cs rfl [v5, v7, vl x3] [] rfl rfl (s_wt_4 rfl) k

theorem k394_118 {P : s_P} {d : Nat} {Q : s_O → Prop} {h : s_H} {kc ks : Nat} {r0 : Term} {x1 x2 x3 : Int} {t4 : Term} {x5 x6 : Int} {q2 : Nat} {f3 : List Term} {v5 : Term} (g4 : s_get h q2 = some (1, 11, f3)) (k : wm P d 496 [.index q2, v5, vi x5, vi x6] h (wq P d sw_c394 sw_h394 130 [.index q2, vi x1, vi x2, vl x3, t4, vi x5, vi x6] [] kc ks Q)) (e_q2 : r0 = .index q2 := by first | rfl | assumption) (y1 : s_ty r0 = 3 := by first | rfl | assumption) (n6 : s_nth f3 20 = some v5 := by first | rfl | assumption)  : wr P d sw_c394 sw_h394 (118, [r0, vi x1, vi x2, vl x3, t4, vi x5, vi x6], [], h, kc, ks) Q := by
  refine w_ld rfl rfl (Or.inr (Or.inr ⟨by decide, y1⟩)) ?_
  refine w_ld rfl rfl (Or.inr (Or.inr ⟨by decide, y1⟩)) ?_
  subst e_q2
  refine w_getf rfl g4 n6 ?_
  refine w_ld rfl rfl (Or.inl ⟨by decide, rfl⟩) ?_
  refine w_ld rfl rfl (Or.inl ⟨by decide, rfl⟩) ?_
  exact w_cv rfl [.index q2, v5, vi x5, vi x6] [] rfl rfl (s_wt_4 rfl) rfl g4 k

theorem k394_130 {P : s_P} {d : Nat} {Q : s_O → Prop} {h : s_H} {kc ks : Nat} {r0 : Term} {x1 x2 x3 : Int} {t4 : Term} {x5 x6 : Int}  (k : wr P d sw_c394 sw_h394 (69, [r0, vi x1, vi x2, vl x3, t4, vi x5, vi (x6 + 1)], [], h, kc, ks) Q)   : wr P d sw_c394 sw_h394 (130, [r0, vi x1, vi x2, vl x3, t4, vi x5, vi x6], [], h, kc, ks) Q := by
  refine w_iinc (ls' := [r0, vi x1, vi x2, vl x3, t4, vi x5, vi (x6 + 1)]) rfl rfl 1 (by decide) rfl ?_
  refine w_goto rfl ?_
  exact k

theorem k394_136 {P : s_P} {d : Nat} {Q : s_O → Prop} {h : s_H} {kc ks : Nat} {r0 : Term} {x1 x2 x3 : Int} {t4 : Term} {x5 x6 : Int}  (k : wr P d sw_c394 sw_h394 (55, [r0, vi x1, vi x2, vl x3, (s_uu t4), vi (x5 + 1), vi x6], [], h, kc, ks) Q)   : wr P d sw_c394 sw_h394 (136, [r0, vi x1, vi x2, vl x3, t4, vi x5, vi x6], [], h, kc, ks) Q := by
  refine w_iinc (ls' := [r0, vi x1, vi x2, vl x3, (s_uu t4), vi (x5 + 1), vi x6]) rfl rfl 1 (by decide) (s_stK_t (pre := [r0, vi x1, vi x2, vl x3])) ?_
  refine w_goto rfl ?_
  exact k

theorem k394_142 {P : s_P} {d : Nat} {Q : s_O → Prop} {h : s_H} {kc ks : Nat} {r0 : Term} {x1 x2 x3 : Int} {t4 : Term} {x5 : Int} {t6 : Term} {q2 : Nat} {f3 : List Term} {v5 : Term} {q7 : Nat} {a8 : List Int} {v13 : Term} {q15 : Nat} {a16 : List Int} (g4 : s_get h q2 = some (1, 11, f3)) (g9 : s_get h q7 = some (0, 0, a8.map vi)) (g17 : s_get h q15 = some (0, 0, a16.map vi)) (k : wm P d 498 [.index q2, vi (gi a8 x1), vi (gi a16 x1)] h (wq P d sw_c394 sw_h394 158 [.index q2, vi x1, vi x2, vl x3, t4, vi x5, t6] [] kc ks Q)) (e_q2 : r0 = .index q2 := by first | rfl | assumption) (e_q7 : v5 = .index q7 := by first | rfl | assumption) (e_q15 : v13 = .index q15 := by first | rfl | assumption) (y1 : s_ty r0 = 3 := by first | rfl | assumption) (n6 : s_nth f3 5 = some v5 := by first | rfl | assumption) (n14 : s_nth f3 6 = some v13 := by first | rfl | assumption) (c10 : x1 < a8.length := by first | omega | assumption | (simp only [mk_len, List.length_map]; omega) | decide) (c11 : 0 ≤ x1 := by first | omega | assumption | (simp only [mk_len, List.length_map]; omega) | decide) (c12 : In3 x1 := by first | omega | assumption | (simp only [mk_len, List.length_map]; omega) | decide) (c18 : x1 < a16.length := by first | omega | assumption | (simp only [mk_len, List.length_map]; omega) | decide) : wr P d sw_c394 sw_h394 (142, [r0, vi x1, vi x2, vl x3, t4, vi x5, t6], [], h, kc, ks) Q := by
  refine w_ld rfl rfl (Or.inr (Or.inr ⟨by decide, y1⟩)) ?_
  refine w_ld rfl rfl (Or.inr (Or.inr ⟨by decide, y1⟩)) ?_
  subst e_q2
  refine w_getf rfl g4 n6 ?_
  refine w_ld rfl rfl (Or.inl ⟨by decide, rfl⟩) ?_
  subst e_q7
  refine w_iald rfl g9 (Or.inl rfl) c12 c11 c10 ?_
  refine w_ld rfl rfl (Or.inr (Or.inr ⟨by decide, rfl⟩)) ?_
  refine w_getf rfl g4 n14 ?_
  refine w_ld rfl rfl (Or.inl ⟨by decide, rfl⟩) ?_
  subst e_q15
  refine w_iald rfl g17 (Or.inl rfl) c12 c11 c18 ?_
  exact w_cv rfl [.index q2, vi (gi a8 x1), vi (gi a16 x1)] [] rfl rfl (s_wt_4 rfl) rfl g4 k

theorem k394_158 {P : s_P} {d : Nat} {Q : s_O → Prop} {h : s_H} {kc ks : Nat} {r0 : Term} {x1 x2 x3 : Int} {t4 : Term} {x5 : Int} {t6 : Term} {s0 : Int}  (k : Q (.inl (some (vi s0)), h, kc, ks))   : wr P d sw_c394 sw_h394 (158, [r0, vi x1, vi x2, vl x3, t4, vi x5, t6], [vi s0], h, kc, ks) Q := by
  exact w_iret rfl k

/-! 395: FormulaWorksModel.added(IIJ)I -/
theorem k395_0 {P : s_P} {d : Nat} {Q : s_O → Prop} {h : s_H} {kc ks : Nat} {r0 : Term} {x1 x2 x3 : Int} {t4 : Term} {q2 : Nat} {f3 : List Term} (g4 : s_get h q2 = some (1, 11, f3)) (k : wm P d 401 [.index q2, vi x1, vi x2, vi 1] h (wq P d sw_c395 sw_h395 7 [.index q2, vi x1, vi x2, vl x3, t4] [] kc ks Q)) (e_q2 : r0 = .index q2 := by first | rfl | assumption) (y1 : s_ty r0 = 3 := by first | rfl | assumption)  : wr P d sw_c395 sw_h395 (0, [r0, vi x1, vi x2, vl x3, t4], [], h, kc, ks) Q := by
  refine w_ld rfl rfl (Or.inr (Or.inr ⟨by decide, y1⟩)) ?_
  refine w_ld rfl rfl (Or.inl ⟨by decide, rfl⟩) ?_
  refine w_ld rfl rfl (Or.inl ⟨by decide, rfl⟩) ?_
  refine w_c32 rfl (by decide) 1 (by decide) ?_
  subst e_q2
  exact w_cv rfl [.index q2, vi x1, vi x2, vi 1] [] rfl rfl (s_wt_4 rfl) rfl g4 k

theorem k395_7 {P : s_P} {d : Nat} {Q : s_O → Prop} {h : s_H} {kc ks : Nat} {r0 : Term} {x1 x2 x3 : Int} {t4 : Term} {s0 : Int}  (k1 : s0 ≠ 0 → wr P d sw_c395 sw_h395 (12, [r0, vi x1, vi x2, vl x3, t4], [], h, kc, ks) Q) (k2 : ¬ s0 ≠ 0 → wr P d sw_c395 sw_h395 (10, [r0, vi x1, vi x2, vl x3, t4], [], h, kc, ks) Q)  (c1 : In3 s0 := by first | omega | assumption | (simp only [mk_len, List.length_map]; omega) | decide) : wr P d sw_c395 sw_h395 (7, [r0, vi x1, vi x2, vl x3, t4], [vi s0], h, kc, ks) Q := by
  exact w_if1 rfl c1 k1 k2

theorem k395_10 {P : s_P} {d : Nat} {Q : s_O → Prop} {h : s_H} {kc ks : Nat} {r0 : Term} {x1 x2 x3 : Int} {t4 : Term}  (k : Q (.inl (some (vi 0)), h, kc, ks))   : wr P d sw_c395 sw_h395 (10, [r0, vi x1, vi x2, vl x3, t4], [], h, kc, ks) Q := by
  refine w_c32 rfl (by decide) 0 (by decide) ?_
  exact w_iret rfl k

theorem k395_12 {P : s_P} {d : Nat} {Q : s_O → Prop} {h : s_H} {kc ks : Nat} {r0 : Term} {x1 x2 x3 : Int} {t4 : Term} {q2 : Nat} {f3 : List Term} (g4 : s_get h q2 = some (1, 11, f3)) (k : wm P d 469 [.index q2, vi x1, vi 2] h (wq P d sw_c395 sw_h395 18 [.index q2, vi x1, vi x2, vl x3, t4] [] kc ks Q)) (e_q2 : r0 = .index q2 := by first | rfl | assumption) (y1 : s_ty r0 = 3 := by first | rfl | assumption)  : wr P d sw_c395 sw_h395 (12, [r0, vi x1, vi x2, vl x3, t4], [], h, kc, ks) Q := by
  refine w_ld rfl rfl (Or.inr (Or.inr ⟨by decide, y1⟩)) ?_
  refine w_ld rfl rfl (Or.inl ⟨by decide, rfl⟩) ?_
  refine w_c32 rfl (by decide) 2 (by decide) ?_
  subst e_q2
  exact w_cv rfl [.index q2, vi x1, vi 2] [] rfl rfl (s_wt_4 rfl) rfl g4 k

theorem k395_18 {P : s_P} {d : Nat} {Q : s_O → Prop} {h : s_H} {kc ks : Nat} {r0 : Term} {x1 x2 x3 : Int} {t4 : Term} {s0 : Int}  (k1 : s0 = 0 → wr P d sw_c395 sw_h395 (29, [r0, vi x1, vi x2, vl x3, t4], [], h, kc, ks) Q) (k2 : ¬ s0 = 0 → wr P d sw_c395 sw_h395 (21, [r0, vi x1, vi x2, vl x3, t4], [], h, kc, ks) Q)  (c1 : In3 s0 := by first | omega | assumption | (simp only [mk_len, List.length_map]; omega) | decide) : wr P d sw_c395 sw_h395 (18, [r0, vi x1, vi x2, vl x3, t4], [vi s0], h, kc, ks) Q := by
  exact w_if1 rfl c1 k1 k2

theorem k395_21 {P : s_P} {d : Nat} {Q : s_O → Prop} {h : s_H} {kc ks : Nat} {r0 : Term} {x1 x2 x3 : Int} {t4 : Term} {q2 : Nat} {f3 : List Term} (g4 : s_get h q2 = some (1, 11, f3)) (k : wm P d 394 [.index q2, vi x1, vi x2, vl x3] h (wq P d sw_c395 sw_h395 28 [.index q2, vi x1, vi x2, vl x3, t4] [] kc ks Q)) (e_q2 : r0 = .index q2 := by first | rfl | assumption) (y1 : s_ty r0 = 3 := by first | rfl | assumption)  : wr P d sw_c395 sw_h395 (21, [r0, vi x1, vi x2, vl x3, t4], [], h, kc, ks) Q := by
  refine w_ld rfl rfl (Or.inr (Or.inr ⟨by decide, y1⟩)) ?_
  refine w_ld rfl rfl (Or.inl ⟨by decide, rfl⟩) ?_
  refine w_ld rfl rfl (Or.inl ⟨by decide, rfl⟩) ?_
  refine w_ld rfl rfl (Or.inr (Or.inl ⟨by decide, rfl⟩)) ?_
  subst e_q2
  exact w_cv rfl [.index q2, vi x1, vi x2, vl x3] [] rfl rfl (s_wt_4 rfl) rfl g4 k

theorem k395_28 {P : s_P} {d : Nat} {Q : s_O → Prop} {h : s_H} {kc ks : Nat} {r0 : Term} {x1 x2 x3 : Int} {t4 : Term} {s0 : Int}  (k : Q (.inl (some (vi s0)), h, kc, ks))   : wr P d sw_c395 sw_h395 (28, [r0, vi x1, vi x2, vl x3, t4], [vi s0], h, kc, ks) Q := by
  exact w_iret rfl k

theorem k395_29 {P : s_P} {d : Nat} {Q : s_O → Prop} {h : s_H} {kc ks : Nat} {r0 : Term} {x1 x2 x3 : Int} {t4 : Term} {q2 : Nat} {f3 : List Term} (g4 : s_get h q2 = some (1, 11, f3)) (k : wm P d 469 [.index q2, vi x1, vi 1] h (wq P d sw_c395 sw_h395 35 [.index q2, vi x1, vi x2, vl x3, t4] [] kc ks Q)) (e_q2 : r0 = .index q2 := by first | rfl | assumption) (y1 : s_ty r0 = 3 := by first | rfl | assumption)  : wr P d sw_c395 sw_h395 (29, [r0, vi x1, vi x2, vl x3, t4], [], h, kc, ks) Q := by
  refine w_ld rfl rfl (Or.inr (Or.inr ⟨by decide, y1⟩)) ?_
  refine w_ld rfl rfl (Or.inl ⟨by decide, rfl⟩) ?_
  refine w_c32 rfl (by decide) 1 (by decide) ?_
  subst e_q2
  exact w_cv rfl [.index q2, vi x1, vi 1] [] rfl rfl (s_wt_4 rfl) rfl g4 k

theorem k395_35 {P : s_P} {d : Nat} {Q : s_O → Prop} {h : s_H} {kc ks : Nat} {r0 : Term} {x1 x2 x3 : Int} {t4 : Term} {s0 : Int}  (k1 : s0 = 0 → wr P d sw_c395 sw_h395 (67, [r0, vi x1, vi x2, vl x3, t4], [], h, kc, ks) Q) (k2 : ¬ s0 = 0 → wr P d sw_c395 sw_h395 (38, [r0, vi x1, vi x2, vl x3, t4], [], h, kc, ks) Q)  (c1 : In3 s0 := by first | omega | assumption | (simp only [mk_len, List.length_map]; omega) | decide) : wr P d sw_c395 sw_h395 (35, [r0, vi x1, vi x2, vl x3, t4], [vi s0], h, kc, ks) Q := by
  exact w_if1 rfl c1 k1 k2

theorem k395_38 {P : s_P} {d : Nat} {Q : s_O → Prop} {h : s_H} {kc ks : Nat} {r0 : Term} {x1 x2 x3 : Int} {t4 : Term} {q2 : Nat} {f3 : List Term} {v5 v7 : Term} (g4 : s_get h q2 = some (1, 11, f3)) (k : wm P d 425 [v5, v7] h (wq P d sw_c395 sw_h395 49 [.index q2, vi x1, vi x2, vl x3, t4] [] kc ks Q)) (e_q2 : r0 = .index q2 := by first | rfl | assumption) (y1 : s_ty r0 = 3 := by first | rfl | assumption) (n6 : s_nth f3 14 = some v5 := by first | rfl | assumption) (n8 : s_nth f3 10 = some v7 := by first | rfl | assumption)  : wr P d sw_c395 sw_h395 (38, [r0, vi x1, vi x2, vl x3, t4], [], h, kc, ks) Q := by
  refine w_ld rfl rfl (Or.inr (Or.inr ⟨by decide, y1⟩)) ?_
  subst e_q2
  refine w_getf rfl g4 n6 ?_
  refine w_ld rfl rfl (Or.inr (Or.inr ⟨by decide, rfl⟩)) ?_
  refine w_getf rfl g4 n8 ?_
  exact w_cs rfl [v5, v7] [] rfl rfl (s_wt_4 rfl) k

theorem k395_49 {P : s_P} {d : Nat} {Q : s_O → Prop} {h : s_H} {kc ks : Nat} {r0 : Term} {x1 x2 x3 : Int} {t4 : Term} {q2 : Nat} {f3 : List Term} {v5 v7 : Term} (g4 : s_get h q2 = some (1, 11, f3)) (k : wm P d 529 [v5, v7, vl x3] h (wq P d sw_c395 sw_h395 61 [.index q2, vi x1, vi x2, vl x3, t4] [] kc ks Q)) (e_q2 : r0 = .index q2 := by first | rfl | assumption) (y1 : s_ty r0 = 3 := by first | rfl | assumption) (n6 : s_nth f3 14 = some v5 := by first | rfl | assumption) (n8 : s_nth f3 12 = some v7 := by first | rfl | assumption)  : wr P d sw_c395 sw_h395 (49, [r0, vi x1, vi x2, vl x3, t4], [], h, kc, ks) Q := by
  refine w_ld rfl rfl (Or.inr (Or.inr ⟨by decide, y1⟩)) ?_
  subst e_q2
  refine w_getf rfl g4 n6 ?_
  refine w_ld rfl rfl (Or.inr (Or.inr ⟨by decide, rfl⟩)) ?_
  refine w_getf rfl g4 n8 ?_
  refine w_ld rfl rfl (Or.inr (Or.inl ⟨by decide, rfl⟩)) ?_
  exact w_cs rfl [v5, v7, vl x3] [] rfl rfl (s_wt_4 rfl) k

theorem k395_61 {P : s_P} {d : Nat} {Q : s_O → Prop} {h : s_H} {kc ks : Nat} {r0 : Term} {x1 x2 x3 : Int} {t4 : Term} {q2 : Nat} {f3 : List Term} (g4 : s_get h q2 = some (1, 11, f3)) (k : wm P d 499 [.index q2, vi 3] h (wq P d sw_c395 sw_h395 66 [.index q2, vi x1, vi x2, vl x3, t4] [] kc ks Q)) (e_q2 : r0 = .index q2 := by first | rfl | assumption) (y1 : s_ty r0 = 3 := by first | rfl | assumption)  : wr P d sw_c395 sw_h395 (61, [r0, vi x1, vi x2, vl x3, t4], [], h, kc, ks) Q := by
  refine w_ld rfl rfl (Or.inr (Or.inr ⟨by decide, y1⟩)) ?_
  refine w_c32 rfl (by decide) 3 (by decide) ?_
  subst e_q2
  exact w_cv rfl [.index q2, vi 3] [] rfl rfl (s_wt_4 rfl) rfl g4 k

theorem k395_66 {P : s_P} {d : Nat} {Q : s_O → Prop} {h : s_H} {kc ks : Nat} {r0 : Term} {x1 x2 x3 : Int} {t4 : Term} {s0 : Int}  (k : Q (.inl (some (vi s0)), h, kc, ks))   : wr P d sw_c395 sw_h395 (66, [r0, vi x1, vi x2, vl x3, t4], [vi s0], h, kc, ks) Q := by
  exact w_iret rfl k

theorem k395_67 {P : s_P} {d : Nat} {Q : s_O → Prop} {h : s_H} {kc ks : Nat} {r0 : Term} {x1 x2 x3 : Int} {t4 : Term} {q2 : Nat} {f3 : List Term} (g4 : s_get h q2 = some (1, 11, f3)) (k : wm P d 602 [.index q2, vl x3] h (wq P d sw_c395 sw_h395 72 [.index q2, vi x1, vi x2, vl x3, t4] [] kc ks Q)) (e_q2 : r0 = .index q2 := by first | rfl | assumption) (y1 : s_ty r0 = 3 := by first | rfl | assumption)  : wr P d sw_c395 sw_h395 (67, [r0, vi x1, vi x2, vl x3, t4], [], h, kc, ks) Q := by
  refine w_ld rfl rfl (Or.inr (Or.inr ⟨by decide, y1⟩)) ?_
  refine w_ld rfl rfl (Or.inr (Or.inl ⟨by decide, rfl⟩)) ?_
  subst e_q2
  exact w_cv rfl [.index q2, vl x3] [] rfl rfl (s_wt_4 rfl) rfl g4 k

theorem k395_72 {P : s_P} {d : Nat} {Q : s_O → Prop} {h : s_H} {kc ks : Nat} {r0 : Term} {x1 x2 x3 : Int} {t4 : Term} {q2 : Nat} {f3 : List Term} (g4 : s_get h q2 = some (1, 11, f3)) (k : wm P d 495 [.index q2, vi 3] h (wq P d sw_c395 sw_h395 77 [.index q2, vi x1, vi x2, vl x3, t4] [] kc ks Q)) (e_q2 : r0 = .index q2 := by first | rfl | assumption) (y1 : s_ty r0 = 3 := by first | rfl | assumption)  : wr P d sw_c395 sw_h395 (72, [r0, vi x1, vi x2, vl x3, t4], [], h, kc, ks) Q := by
  refine w_ld rfl rfl (Or.inr (Or.inr ⟨by decide, y1⟩)) ?_
  refine w_c32 rfl (by decide) 3 (by decide) ?_
  subst e_q2
  exact w_cv rfl [.index q2, vi 3] [] rfl rfl (s_wt_4 rfl) rfl g4 k

theorem k395_77 {P : s_P} {d : Nat} {Q : s_O → Prop} {h : s_H} {kc ks : Nat} {r0 : Term} {x1 x2 x3 : Int} {t4 : Term} {s0 : Int}  (k : Q (.inl (some (vi s0)), h, kc, ks))   : wr P d sw_c395 sw_h395 (77, [r0, vi x1, vi x2, vl x3, t4], [vi s0], h, kc, ks) Q := by
  exact w_iret rfl k

/-! 396: FormulaWorksModel.adjoint(I)I -/
theorem k396_0 {P : s_P} {d : Nat} {Q : s_O → Prop} {h : s_H} {kc ks : Nat} {r0 : Term} {x1 : Int} {t2 t3 t4 : Term} {q2 : Nat} {f3 : List Term} (g4 : s_get h q2 = some (1, 11, f3)) (k : wm P d 491 [.index q2, vi x1] h (wq P d sw_c396 sw_h396 5 [.index q2, vi x1, t2, t3, t4] [] kc ks Q)) (e_q2 : r0 = .index q2 := by first | rfl | assumption) (y1 : s_ty r0 = 3 := by first | rfl | assumption)  : wr P d sw_c396 sw_h396 (0, [r0, vi x1, t2, t3, t4], [], h, kc, ks) Q := by
  refine w_ld rfl rfl (Or.inr (Or.inr ⟨by decide, y1⟩)) ?_
  refine w_ld rfl rfl (Or.inl ⟨by decide, rfl⟩) ?_
  subst e_q2
  exact w_cv rfl [.index q2, vi x1] [] rfl rfl (s_wt_4 rfl) rfl g4 k

theorem k396_5 {P : s_P} {d : Nat} {Q : s_O → Prop} {h : s_H} {kc ks : Nat} {r0 : Term} {x1 : Int} {t2 t3 t4 : Term} {s0 : Int}  (k1 : s0 ≠ 0 → wr P d sw_c396 sw_h396 (10, [r0, vi x1, t2, t3, t4], [], h, kc, ks) Q) (k2 : ¬ s0 ≠ 0 → wr P d sw_c396 sw_h396 (8, [r0, vi x1, t2, t3, t4], [], h, kc, ks) Q)  (c1 : In3 s0 := by first | omega | assumption | (simp only [mk_len, List.length_map]; omega) | decide) : wr P d sw_c396 sw_h396 (5, [r0, vi x1, t2, t3, t4], [vi s0], h, kc, ks) Q := by
  exact w_if1 rfl c1 k1 k2

theorem k396_8 {P : s_P} {d : Nat} {Q : s_O → Prop} {h : s_H} {kc ks : Nat} {r0 : Term} {x1 : Int} {t2 t3 t4 : Term}  (k : Q (.inl (some (vi 0)), h, kc, ks))   : wr P d sw_c396 sw_h396 (8, [r0, vi x1, t2, t3, t4], [], h, kc, ks) Q := by
  refine w_c32 rfl (by decide) 0 (by decide) ?_
  exact w_iret rfl k

theorem k396_10 {P : s_P} {d : Nat} {Q : s_O → Prop} {h : s_H} {kc ks : Nat} {r0 : Term} {x1 : Int} {t2 t3 t4 : Term} {q2 : Nat} {f3 : List Term} {z5 : Int} (g4 : s_get h q2 = some (1, 11, f3)) (k1 : z5 ≠ 150 → wr P d sw_c396 sw_h396 (26, [.index q2, vi x1, t2, t3, t4], [], h, kc, ks) Q) (k2 : ¬ z5 ≠ 150 → wr P d sw_c396 sw_h396 (20, [.index q2, vi x1, t2, t3, t4], [], h, kc, ks) Q) (e_q2 : r0 = .index q2 := by first | rfl | assumption) (y1 : s_ty r0 = 3 := by first | rfl | assumption) (n6 : s_nth f3 1 = some (vi z5) := by first | rfl | assumption) (c7 : In3 z5 := by first | omega | assumption | (simp only [mk_len, List.length_map]; omega) | decide) : wr P d sw_c396 sw_h396 (10, [r0, vi x1, t2, t3, t4], [], h, kc, ks) Q := by
  refine w_ld rfl rfl (Or.inr (Or.inr ⟨by decide, y1⟩)) ?_
  subst e_q2
  refine w_getf rfl g4 n6 ?_
  refine w_c32 rfl (by decide) 150 (by decide) ?_
  exact w_if2 rfl c7 (by decide) k1 k2

theorem k396_20 {P : s_P} {d : Nat} {Q : s_O → Prop} {h : s_H} {kc ks : Nat} {r0 : Term} {x1 : Int} {t2 t3 t4 : Term} {q2 : Nat} {f3 : List Term} (g4 : s_get h q2 = some (1, 11, f3)) (k : wm P d 570 [.index q2, vi 3] h (wq P d sw_c396 sw_h396 25 [.index q2, vi x1, t2, t3, t4] [] kc ks Q)) (e_q2 : r0 = .index q2 := by first | rfl | assumption) (y1 : s_ty r0 = 3 := by first | rfl | assumption)  : wr P d sw_c396 sw_h396 (20, [r0, vi x1, t2, t3, t4], [], h, kc, ks) Q := by
  refine w_ld rfl rfl (Or.inr (Or.inr ⟨by decide, y1⟩)) ?_
  refine w_c32 rfl (by decide) 3 (by decide) ?_
  subst e_q2
  exact w_cv rfl [.index q2, vi 3] [] rfl rfl (s_wt_4 rfl) rfl g4 k

theorem k396_25 {P : s_P} {d : Nat} {Q : s_O → Prop} {h : s_H} {kc ks : Nat} {r0 : Term} {x1 : Int} {t2 t3 t4 : Term} {s0 : Int}  (k : Q (.inl (some (vi s0)), h, kc, ks))   : wr P d sw_c396 sw_h396 (25, [r0, vi x1, t2, t3, t4], [vi s0], h, kc, ks) Q := by
  exact w_iret rfl k

theorem k396_26 {P : s_P} {d : Nat} {Q : s_O → Prop} {h : s_H} {kc ks : Nat} {r0 : Term} {x1 : Int} {t2 t3 t4 : Term} {q2 : Nat} {f3 : List Term} (g4 : s_get h q2 = some (1, 11, f3)) (k : wm P d 453 [.index q2, vi x1] h (wq P d sw_c396 sw_h396 31 [.index q2, vi x1, t2, t3, t4] [] kc ks Q)) (e_q2 : r0 = .index q2 := by first | rfl | assumption) (y1 : s_ty r0 = 3 := by first | rfl | assumption)  : wr P d sw_c396 sw_h396 (26, [r0, vi x1, t2, t3, t4], [], h, kc, ks) Q := by
  refine w_ld rfl rfl (Or.inr (Or.inr ⟨by decide, y1⟩)) ?_
  refine w_ld rfl rfl (Or.inl ⟨by decide, rfl⟩) ?_
  subst e_q2
  exact w_cv rfl [.index q2, vi x1] [] rfl rfl (s_wt_4 rfl) rfl g4 k

theorem k396_31 {P : s_P} {d : Nat} {Q : s_O → Prop} {h : s_H} {kc ks : Nat} {r0 : Term} {x1 : Int} {t2 t3 t4 : Term} {q2 : Nat} {f3 : List Term} {v5 : Term} {q7 : Nat} {a8 : List Int} (g4 : s_get h q2 = some (1, 11, f3)) (g9 : s_get h q7 = some (0, 0, a8.map vi)) (k : wr P d sw_c396 sw_h396 (44, [.index q2, vi x1, vi ((zi 27 1 (gi a8 x1)) - 1), vi 0, t4], [], h, kc, ks) Q) (e_q2 : r0 = .index q2 := by first | rfl | assumption) (e_q7 : v5 = .index q7 := by first | rfl | assumption) (y1 : s_ty r0 = 3 := by first | rfl | assumption) (n6 : s_nth f3 5 = some v5 := by first | rfl | assumption) (c10 : x1 < a8.length := by first | omega | assumption | (simp only [mk_len, List.length_map]; omega) | decide) (c11 : 0 ≤ x1 := by first | omega | assumption | (simp only [mk_len, List.length_map]; omega) | decide) (c12 : In3 x1 := by first | omega | assumption | (simp only [mk_len, List.length_map]; omega) | decide) : wr P d sw_c396 sw_h396 (31, [r0, vi x1, t2, t3, t4], [], h, kc, ks) Q := by
  refine w_c32 rfl (by decide) 1 (by decide) ?_
  refine w_ld rfl rfl (Or.inr (Or.inr ⟨by decide, y1⟩)) ?_
  subst e_q2
  refine w_getf rfl g4 n6 ?_
  refine w_ld rfl rfl (Or.inl ⟨by decide, rfl⟩) ?_
  subst e_q7
  refine w_iald rfl g9 (Or.inl rfl) c12 c11 c10 ?_
  refine w_ib rfl (by decide) ?_
  refine w_c32 rfl (by decide) 1 (by decide) ?_
  refine w_isub rfl ?_
  refine w_st (ls' := [.index q2, vi x1, vi ((zi 27 1 (gi a8 x1)) - 1), t3, t4]) rfl (Or.inl ⟨by decide, rfl⟩) rfl ?_
  refine w_c32 rfl (by decide) 0 (by decide) ?_
  refine w_st (ls' := [.index q2, vi x1, vi ((zi 27 1 (gi a8 x1)) - 1), vi 0, t4]) rfl (Or.inl ⟨by decide, rfl⟩) rfl ?_
  exact k

theorem k396_44 {P : s_P} {d : Nat} {Q : s_O → Prop} {h : s_H} {kc ks : Nat} {r0 : Term} {x1 x2 x3 : Int} {t4 : Term} {q2 : Nat} {f3 : List Term} {v5 : Term} {q7 : Nat} {a8 : List Int} (g4 : s_get h q2 = some (1, 11, f3)) (g9 : s_get h q7 = some (0, 0, a8.map vi)) (k1 : gi a8 x1 ≤ x3 → wr P d sw_c396 sw_h396 (148, [.index q2, vi x1, vi x2, vi x3, t4], [], h, kc, ks) Q) (k2 : ¬ gi a8 x1 ≤ x3 → wr P d sw_c396 sw_h396 (54, [.index q2, vi x1, vi x2, vi x3, t4], [], h, kc, ks) Q) (e_q2 : r0 = .index q2 := by first | rfl | assumption) (e_q7 : v5 = .index q7 := by first | rfl | assumption) (y1 : s_ty r0 = 3 := by first | rfl | assumption) (n6 : s_nth f3 5 = some v5 := by first | rfl | assumption) (c10 : x1 < a8.length := by first | omega | assumption | (simp only [mk_len, List.length_map]; omega) | decide) (c11 : 0 ≤ x1 := by first | omega | assumption | (simp only [mk_len, List.length_map]; omega) | decide) (c12 : In3 x1 := by first | omega | assumption | (simp only [mk_len, List.length_map]; omega) | decide) (c13 : In3 x3 := by first | omega | assumption | (simp only [mk_len, List.length_map]; omega) | decide) (c14 : In3 (gi a8 x1) := by first | omega | assumption | (simp only [mk_len, List.length_map]; omega) | decide) : wr P d sw_c396 sw_h396 (44, [r0, vi x1, vi x2, vi x3, t4], [], h, kc, ks) Q := by
  refine w_ld rfl rfl (Or.inl ⟨by decide, rfl⟩) ?_
  refine w_ld rfl rfl (Or.inr (Or.inr ⟨by decide, y1⟩)) ?_
  subst e_q2
  refine w_getf rfl g4 n6 ?_
  refine w_ld rfl rfl (Or.inl ⟨by decide, rfl⟩) ?_
  subst e_q7
  refine w_iald rfl g9 (Or.inl rfl) c12 c11 c10 ?_
  exact w_if2 rfl c13 c14 k1 k2

theorem k396_54 {P : s_P} {d : Nat} {Q : s_O → Prop} {h : s_H} {kc ks : Nat} {r0 : Term} {x1 x2 x3 : Int} {t4 : Term}  (k : wr P d sw_c396 sw_h396 (57, [r0, vi x1, vi x2, vi x3, vi 0], [], h, kc, ks) Q)   : wr P d sw_c396 sw_h396 (54, [r0, vi x1, vi x2, vi x3, t4], [], h, kc, ks) Q := by
  refine w_c32 rfl (by decide) 0 (by decide) ?_
  refine w_st (ls' := [r0, vi x1, vi x2, vi x3, vi 0]) rfl (Or.inl ⟨by decide, rfl⟩) rfl ?_
  exact k

theorem k396_57 {P : s_P} {d : Nat} {Q : s_O → Prop} {h : s_H} {kc ks : Nat} {r0 : Term} {x1 x2 x3 x4 : Int} {q2 : Nat} {f3 : List Term} {v5 : Term} {q7 : Nat} {a8 : List Int} (g4 : s_get h q2 = some (1, 11, f3)) (g9 : s_get h q7 = some (0, 0, a8.map vi)) (k1 : gi a8 x1 ≤ x4 → wr P d sw_c396 sw_h396 (142, [.index q2, vi x1, vi x2, vi x3, vi x4], [], h, kc, ks) Q) (k2 : ¬ gi a8 x1 ≤ x4 → wr P d sw_c396 sw_h396 (68, [.index q2, vi x1, vi x2, vi x3, vi x4], [], h, kc, ks) Q) (e_q2 : r0 = .index q2 := by first | rfl | assumption) (e_q7 : v5 = .index q7 := by first | rfl | assumption) (y1 : s_ty r0 = 3 := by first | rfl | assumption) (n6 : s_nth f3 5 = some v5 := by first | rfl | assumption) (c10 : x1 < a8.length := by first | omega | assumption | (simp only [mk_len, List.length_map]; omega) | decide) (c11 : 0 ≤ x1 := by first | omega | assumption | (simp only [mk_len, List.length_map]; omega) | decide) (c12 : In3 x1 := by first | omega | assumption | (simp only [mk_len, List.length_map]; omega) | decide) (c13 : In3 x4 := by first | omega | assumption | (simp only [mk_len, List.length_map]; omega) | decide) (c14 : In3 (gi a8 x1) := by first | omega | assumption | (simp only [mk_len, List.length_map]; omega) | decide) : wr P d sw_c396 sw_h396 (57, [r0, vi x1, vi x2, vi x3, vi x4], [], h, kc, ks) Q := by
  refine w_ld rfl rfl (Or.inl ⟨by decide, rfl⟩) ?_
  refine w_ld rfl rfl (Or.inr (Or.inr ⟨by decide, y1⟩)) ?_
  subst e_q2
  refine w_getf rfl g4 n6 ?_
  refine w_ld rfl rfl (Or.inl ⟨by decide, rfl⟩) ?_
  subst e_q7
  refine w_iald rfl g9 (Or.inl rfl) c12 c11 c10 ?_
  exact w_if2 rfl c13 c14 k1 k2

theorem k396_68 {P : s_P} {d : Nat} {Q : s_O → Prop} {h : s_H} {kc ks : Nat} {r0 : Term} {x1 x2 x3 x4 : Int} {q2 : Nat} {f3 : List Term} {v5 : Term} (g4 : s_get h q2 = some (1, 11, f3)) (k : wm P d 510 [.index q2, v5, vi (x2 - (zi 27 1 x4)), vi (x2 - (zi 27 1 x3))] h (wq P d sw_c396 sw_h396 87 [.index q2, vi x1, vi x2, vi x3, vi x4] [] kc ks Q)) (e_q2 : r0 = .index q2 := by first | rfl | assumption) (y1 : s_ty r0 = 3 := by first | rfl | assumption) (n6 : s_nth f3 20 = some v5 := by first | rfl | assumption)  : wr P d sw_c396 sw_h396 (68, [r0, vi x1, vi x2, vi x3, vi x4], [], h, kc, ks) Q := by
  refine w_ld rfl rfl (Or.inr (Or.inr ⟨by decide, y1⟩)) ?_
  refine w_ld rfl rfl (Or.inr (Or.inr ⟨by decide, y1⟩)) ?_
  subst e_q2
  refine w_getf rfl g4 n6 ?_
  refine w_ld rfl rfl (Or.inl ⟨by decide, rfl⟩) ?_
  refine w_c32 rfl (by decide) 1 (by decide) ?_
  refine w_ld rfl rfl (Or.inl ⟨by decide, rfl⟩) ?_
  refine w_ib rfl (by decide) ?_
  refine w_isub rfl ?_
  refine w_ld rfl rfl (Or.inl ⟨by decide, rfl⟩) ?_
  refine w_c32 rfl (by decide) 1 (by decide) ?_
  refine w_ld rfl rfl (Or.inl ⟨by decide, rfl⟩) ?_
  refine w_ib rfl (by decide) ?_
  refine w_isub rfl ?_
  exact w_cv rfl [.index q2, v5, vi (x2 - (zi 27 1 x4)), vi (x2 - (zi 27 1 x3))] [] rfl rfl (s_wt_4 rfl) rfl g4 k

theorem k396_87 {P : s_P} {d : Nat} {Q : s_O → Prop} {h : s_H} {kc ks : Nat} {r0 : Term} {x1 x2 x3 x4 : Int} {q2 : Nat} {f3 : List Term} {v5 : Term} (g4 : s_get h q2 = some (1, 11, f3)) (k : wm P d 463 [v5] h (wq P d sw_c396 sw_h396 94 [.index q2, vi x1, vi x2, vi x3, vi x4] [] kc ks Q)) (e_q2 : r0 = .index q2 := by first | rfl | assumption) (y1 : s_ty r0 = 3 := by first | rfl | assumption) (n6 : s_nth f3 20 = some v5 := by first | rfl | assumption)  : wr P d sw_c396 sw_h396 (87, [r0, vi x1, vi x2, vi x3, vi x4], [], h, kc, ks) Q := by
  refine w_ld rfl rfl (Or.inr (Or.inr ⟨by decide, y1⟩)) ?_
  subst e_q2
  refine w_getf rfl g4 n6 ?_
  exact w_cs rfl [v5] [] rfl rfl (s_wt_4 rfl) k

theorem k396_94 {P : s_P} {d : Nat} {Q : s_O → Prop} {h : s_H} {kc ks : Nat} {r0 : Term} {x1 x2 x3 x4 s0 : Int}  (k1 : s0 ≤ 10 → wr P d sw_c396 sw_h396 (105, [r0, vi x1, vi x2, vi x3, vi x4], [], h, kc, ks) Q) (k2 : ¬ s0 ≤ 10 → wr P d sw_c396 sw_h396 (99, [r0, vi x1, vi x2, vi x3, vi x4], [], h, kc, ks) Q)  (c1 : In3 s0 := by first | omega | assumption | (simp only [mk_len, List.length_map]; omega) | decide) : wr P d sw_c396 sw_h396 (94, [r0, vi x1, vi x2, vi x3, vi x4], [vi s0], h, kc, ks) Q := by
  refine w_c32 rfl (by decide) 10 (by decide) ?_
  exact w_if2 rfl c1 (by decide) k1 k2

theorem k396_99 {P : s_P} {d : Nat} {Q : s_O → Prop} {h : s_H} {kc ks : Nat} {r0 : Term} {x1 x2 x3 x4 : Int} {q2 : Nat} {f3 : List Term} (g4 : s_get h q2 = some (1, 11, f3)) (k : wm P d 570 [.index q2, vi 3] h (wq P d sw_c396 sw_h396 104 [.index q2, vi x1, vi x2, vi x3, vi x4] [] kc ks Q)) (e_q2 : r0 = .index q2 := by first | rfl | assumption) (y1 : s_ty r0 = 3 := by first | rfl | assumption)  : wr P d sw_c396 sw_h396 (99, [r0, vi x1, vi x2, vi x3, vi x4], [], h, kc, ks) Q := by
  refine w_ld rfl rfl (Or.inr (Or.inr ⟨by decide, y1⟩)) ?_
  refine w_c32 rfl (by decide) 3 (by decide) ?_
  subst e_q2
  exact w_cv rfl [.index q2, vi 3] [] rfl rfl (s_wt_4 rfl) rfl g4 k

theorem k396_104 {P : s_P} {d : Nat} {Q : s_O → Prop} {h : s_H} {kc ks : Nat} {r0 : Term} {x1 x2 x3 x4 s0 : Int}  (k : Q (.inl (some (vi s0)), h, kc, ks))   : wr P d sw_c396 sw_h396 (104, [r0, vi x1, vi x2, vi x3, vi x4], [vi s0], h, kc, ks) Q := by
  exact w_iret rfl k

theorem k396_105 {P : s_P} {d : Nat} {Q : s_O → Prop} {h : s_H} {kc ks : Nat} {r0 : Term} {x1 x2 x3 x4 : Int}  (k1 : Int.tmod (x3 + x4) 2 ≠ 1 → wr P d sw_c396 sw_h396 (125, [r0, vi x1, vi x2, vi x3, vi x4], [], h, kc, ks) Q) (k2 : ¬ Int.tmod (x3 + x4) 2 ≠ 1 → wr P d sw_c396 sw_h396 (115, [r0, vi x1, vi x2, vi x3, vi x4], [], h, kc, ks) Q)  (c1 : In3 (x3 + x4) := by first | omega | assumption | (simp only [mk_len, List.length_map]; omega) | decide) (c2 : In3 (Int.tmod (x3 + x4) 2) := by first | omega | assumption | (simp only [mk_len, List.length_map]; omega) | decide) : wr P d sw_c396 sw_h396 (105, [r0, vi x1, vi x2, vi x3, vi x4], [], h, kc, ks) Q := by
  refine w_ld rfl rfl (Or.inl ⟨by decide, rfl⟩) ?_
  refine w_ld rfl rfl (Or.inl ⟨by decide, rfl⟩) ?_
  refine w_iadd rfl ?_
  refine w_c32 rfl (by decide) 2 (by decide) ?_
  refine w_irem rfl c1 (by decide) (by decide) ?_
  refine w_c32 rfl (by decide) 1 (by decide) ?_
  exact w_if2 rfl c2 (by decide) k1 k2

theorem k396_115 {P : s_P} {d : Nat} {Q : s_O → Prop} {h : s_H} {kc ks : Nat} {r0 : Term} {x1 x2 x3 x4 : Int} {q2 : Nat} {f3 : List Term} {v5 : Term} (g4 : s_get h q2 = some (1, 11, f3)) (k : wm P d 592 [v5, vl 32002] h (wq P d sw_c396 sw_h396 125 [.index q2, vi x1, vi x2, vi x3, vi x4] [] kc ks Q)) (e_q2 : r0 = .index q2 := by first | rfl | assumption) (y1 : s_ty r0 = 3 := by first | rfl | assumption) (n6 : s_nth f3 20 = some v5 := by first | rfl | assumption)  : wr P d sw_c396 sw_h396 (115, [r0, vi x1, vi x2, vi x3, vi x4], [], h, kc, ks) Q := by
  refine w_ld rfl rfl (Or.inr (Or.inr ⟨by decide, y1⟩)) ?_
  subst e_q2
  refine w_getf rfl g4 n6 ?_
  refine w_c64 rfl (by decide) 32002 (by decide) ?_
  exact w_cs rfl [v5, vl 32002] [] rfl rfl (s_wt_4 rfl) k

theorem k396_125 {P : s_P} {d : Nat} {Q : s_O → Prop} {h : s_H} {kc ks : Nat} {r0 : Term} {x1 x2 x3 x4 : Int} {q2 : Nat} {f3 : List Term} {v5 : Term} (g4 : s_get h q2 = some (1, 11, f3)) (k : wm P d 496 [.index q2, v5, vi x3, vi x4] h (wq P d sw_c396 sw_h396 136 [.index q2, vi x1, vi x2, vi x3, vi x4] [] kc ks Q)) (e_q2 : r0 = .index q2 := by first | rfl | assumption) (y1 : s_ty r0 = 3 := by first | rfl | assumption) (n6 : s_nth f3 20 = some v5 := by first | rfl | assumption)  : wr P d sw_c396 sw_h396 (125, [r0, vi x1, vi x2, vi x3, vi x4], [], h, kc, ks) Q := by
  refine w_ld rfl rfl (Or.inr (Or.inr ⟨by decide, y1⟩)) ?_
  refine w_ld rfl rfl (Or.inr (Or.inr ⟨by decide, y1⟩)) ?_
  subst e_q2
  refine w_getf rfl g4 n6 ?_
  refine w_ld rfl rfl (Or.inl ⟨by decide, rfl⟩) ?_
  refine w_ld rfl rfl (Or.inl ⟨by decide, rfl⟩) ?_
  exact w_cv rfl [.index q2, v5, vi x3, vi x4] [] rfl rfl (s_wt_4 rfl) rfl g4 k

theorem k396_136 {P : s_P} {d : Nat} {Q : s_O → Prop} {h : s_H} {kc ks : Nat} {r0 : Term} {x1 x2 x3 x4 : Int}  (k : wr P d sw_c396 sw_h396 (57, [r0, vi x1, vi x2, vi x3, vi (x4 + 1)], [], h, kc, ks) Q)   : wr P d sw_c396 sw_h396 (136, [r0, vi x1, vi x2, vi x3, vi x4], [], h, kc, ks) Q := by
  refine w_iinc (ls' := [r0, vi x1, vi x2, vi x3, vi (x4 + 1)]) rfl rfl 1 (by decide) rfl ?_
  refine w_goto rfl ?_
  exact k

theorem k396_142 {P : s_P} {d : Nat} {Q : s_O → Prop} {h : s_H} {kc ks : Nat} {r0 : Term} {x1 x2 x3 x4 : Int}  (k : wr P d sw_c396 sw_h396 (44, [r0, vi x1, vi x2, vi (x3 + 1), vi x4], [], h, kc, ks) Q)   : wr P d sw_c396 sw_h396 (142, [r0, vi x1, vi x2, vi x3, vi x4], [], h, kc, ks) Q := by
  refine w_iinc (ls' := [r0, vi x1, vi x2, vi (x3 + 1), vi x4]) rfl rfl 1 (by decide) rfl ?_
  refine w_goto rfl ?_
  exact k

theorem k396_148 {P : s_P} {d : Nat} {Q : s_O → Prop} {h : s_H} {kc ks : Nat} {r0 : Term} {x1 x2 x3 : Int} {t4 : Term} {q2 : Nat} {f3 : List Term} {v5 : Term} {q7 : Nat} {a8 : List Int} (g4 : s_get h q2 = some (1, 11, f3)) (g9 : s_get h q7 = some (0, 0, a8.map vi)) (k : wm P d 498 [.index q2, vi (gi a8 x1), vi (gi a8 x1)] h (wq P d sw_c396 sw_h396 164 [.index q2, vi x1, vi x2, vi x3, t4] [] kc ks Q)) (e_q2 : r0 = .index q2 := by first | rfl | assumption) (e_q7 : v5 = .index q7 := by first | rfl | assumption) (y1 : s_ty r0 = 3 := by first | rfl | assumption) (n6 : s_nth f3 5 = some v5 := by first | rfl | assumption) (c10 : x1 < a8.length := by first | omega | assumption | (simp only [mk_len, List.length_map]; omega) | decide) (c11 : 0 ≤ x1 := by first | omega | assumption | (simp only [mk_len, List.length_map]; omega) | decide) (c12 : In3 x1 := by first | omega | assumption | (simp only [mk_len, List.length_map]; omega) | decide) : wr P d sw_c396 sw_h396 (148, [r0, vi x1, vi x2, vi x3, t4], [], h, kc, ks) Q := by
  refine w_ld rfl rfl (Or.inr (Or.inr ⟨by decide, y1⟩)) ?_
  refine w_ld rfl rfl (Or.inr (Or.inr ⟨by decide, y1⟩)) ?_
  subst e_q2
  refine w_getf rfl g4 n6 ?_
  refine w_ld rfl rfl (Or.inl ⟨by decide, rfl⟩) ?_
  subst e_q7
  refine w_iald rfl g9 (Or.inl rfl) c12 c11 c10 ?_
  refine w_ld rfl rfl (Or.inr (Or.inr ⟨by decide, rfl⟩)) ?_
  refine w_getf rfl g4 n6 ?_
  refine w_ld rfl rfl (Or.inl ⟨by decide, rfl⟩) ?_
  refine w_iald rfl g9 (Or.inl rfl) c12 c11 c10 ?_
  exact w_cv rfl [.index q2, vi (gi a8 x1), vi (gi a8 x1)] [] rfl rfl (s_wt_4 rfl) rfl g4 k

theorem k396_164 {P : s_P} {d : Nat} {Q : s_O → Prop} {h : s_H} {kc ks : Nat} {r0 : Term} {x1 x2 x3 : Int} {t4 : Term} {s0 : Int}  (k : Q (.inl (some (vi s0)), h, kc, ks))   : wr P d sw_c396 sw_h396 (164, [r0, vi x1, vi x2, vi x3, t4], [vi s0], h, kc, ks) Q := by
  exact w_iret rfl k

/-! 397: FormulaWorksModel.answer(III)I -/
theorem k397_0 {P : s_P} {d : Nat} {Q : s_O → Prop} {h : s_H} {kc ks : Nat} {r0 : Term} {x1 x2 x3 : Int} {t4 t5 t6 : Term} {q2 : Nat} {f3 : List Term} (g4 : s_get h q2 = some (1, 11, f3)) (k : wm P d 487 [.index q2, vi x1, vi x2] h (wq P d sw_c397 sw_h397 6 [.index q2, vi x1, vi x2, vi x3, t4, t5, t6] [] kc ks Q)) (e_q2 : r0 = .index q2 := by first | rfl | assumption) (y1 : s_ty r0 = 3 := by first | rfl | assumption)  : wr P d sw_c397 sw_h397 (0, [r0, vi x1, vi x2, vi x3, t4, t5, t6], [], h, kc, ks) Q := by
  refine w_ld rfl rfl (Or.inr (Or.inr ⟨by decide, y1⟩)) ?_
  refine w_ld rfl rfl (Or.inl ⟨by decide, rfl⟩) ?_
  refine w_ld rfl rfl (Or.inl ⟨by decide, rfl⟩) ?_
  subst e_q2
  exact w_cv rfl [.index q2, vi x1, vi x2] [] rfl rfl (s_wt_4 rfl) rfl g4 k

theorem k397_6 {P : s_P} {d : Nat} {Q : s_O → Prop} {h : s_H} {kc ks : Nat} {r0 : Term} {x1 x2 x3 : Int} {t4 t5 t6 : Term} {s0 : Int}  (k1 : s0 ≠ 0 → wr P d sw_c397 sw_h397 (11, [r0, vi x1, vi x2, vi x3, t4, t5, t6], [], h, kc, ks) Q) (k2 : ¬ s0 ≠ 0 → wr P d sw_c397 sw_h397 (9, [r0, vi x1, vi x2, vi x3, t4, t5, t6], [], h, kc, ks) Q)  (c1 : In3 s0 := by first | omega | assumption | (simp only [mk_len, List.length_map]; omega) | decide) : wr P d sw_c397 sw_h397 (6, [r0, vi x1, vi x2, vi x3, t4, t5, t6], [vi s0], h, kc, ks) Q := by
  exact w_if1 rfl c1 k1 k2

theorem k397_9 {P : s_P} {d : Nat} {Q : s_O → Prop} {h : s_H} {kc ks : Nat} {r0 : Term} {x1 x2 x3 : Int} {t4 t5 t6 : Term}  (k : Q (.inl (some (vi 0)), h, kc, ks))   : wr P d sw_c397 sw_h397 (9, [r0, vi x1, vi x2, vi x3, t4, t5, t6], [], h, kc, ks) Q := by
  refine w_c32 rfl (by decide) 0 (by decide) ?_
  exact w_iret rfl k

theorem k397_11 {P : s_P} {d : Nat} {Q : s_O → Prop} {h : s_H} {kc ks : Nat} {r0 : Term} {x1 x2 x3 : Int} {t4 t5 t6 : Term} {q2 : Nat} {f3 : List Term} {v5 : Term} (g4 : s_get h q2 = some (1, 11, f3)) (k : wm P d 438 [v5] h (wq P d sw_c397 sw_h397 18 [.index q2, vi x1, vi x2, vi x3, t4, t5, t6] [] kc ks Q)) (e_q2 : r0 = .index q2 := by first | rfl | assumption) (y1 : s_ty r0 = 3 := by first | rfl | assumption) (n6 : s_nth f3 24 = some v5 := by first | rfl | assumption)  : wr P d sw_c397 sw_h397 (11, [r0, vi x1, vi x2, vi x3, t4, t5, t6], [], h, kc, ks) Q := by
  refine w_ld rfl rfl (Or.inr (Or.inr ⟨by decide, y1⟩)) ?_
  subst e_q2
  refine w_getf rfl g4 n6 ?_
  exact w_cs rfl [v5] [] rfl rfl (s_wt_4 rfl) k

theorem k397_18 {P : s_P} {d : Nat} {Q : s_O → Prop} {h : s_H} {kc ks : Nat} {r0 : Term} {x1 x2 x3 : Int} {t4 t5 t6 : Term} {q2 : Nat} {f3 : List Term} {v5 : Term} (g4 : s_get h q2 = some (1, 11, f3)) (k : wm P d 416 [.index q2, vi x1, vi x2, v5] h (wq P d sw_c397 sw_h397 28 [.index q2, vi x1, vi x2, vi x3, t4, t5, t6] [] kc ks Q)) (e_q2 : r0 = .index q2 := by first | rfl | assumption) (y1 : s_ty r0 = 3 := by first | rfl | assumption) (n6 : s_nth f3 24 = some v5 := by first | rfl | assumption)  : wr P d sw_c397 sw_h397 (18, [r0, vi x1, vi x2, vi x3, t4, t5, t6], [], h, kc, ks) Q := by
  refine w_ld rfl rfl (Or.inr (Or.inr ⟨by decide, y1⟩)) ?_
  refine w_ld rfl rfl (Or.inl ⟨by decide, rfl⟩) ?_
  refine w_ld rfl rfl (Or.inl ⟨by decide, rfl⟩) ?_
  refine w_ld rfl rfl (Or.inr (Or.inr ⟨by decide, y1⟩)) ?_
  subst e_q2
  refine w_getf rfl g4 n6 ?_
  exact w_cv rfl [.index q2, vi x1, vi x2, v5] [] rfl rfl (s_wt_4 rfl) rfl g4 k

theorem k397_28 {P : s_P} {d : Nat} {Q : s_O → Prop} {h : s_H} {kc ks : Nat} {r0 : Term} {x1 x2 x3 : Int} {t4 t5 t6 : Term} {q3 : Nat} {f4 : List Term} {z6 : Int} (g5 : s_get h q3 = some (1, 11, f4)) (k : wm P d 464 [vl x3, vl 0, vl (z6 - 1)] h (wq P d sw_c397 sw_h397 41 [.index q3, vi x1, vi x2, vi x3, t4, t5, t6] [] kc ks Q)) (e_q3 : r0 = .index q3 := by first | rfl | assumption) (y2 : s_ty r0 = 3 := by first | rfl | assumption) (n7 : s_nth f4 32 = some (vi z6) := by first | rfl | assumption) (c1 : In3 x3 := by first | omega | assumption | (simp only [mk_len, List.length_map]; omega) | decide) (c8 : In3 (z6 - 1) := by first | omega | assumption | (simp only [mk_len, List.length_map]; omega) | decide) : wr P d sw_c397 sw_h397 (28, [r0, vi x1, vi x2, vi x3, t4, t5, t6], [], h, kc, ks) Q := by
  refine w_ld rfl rfl (Or.inl ⟨by decide, rfl⟩) ?_
  refine w_i2l rfl c1 ?_
  refine w_c64 rfl (by decide) 0 (by decide) ?_
  refine w_ld rfl rfl (Or.inr (Or.inr ⟨by decide, y2⟩)) ?_
  subst e_q3
  refine w_getf rfl g5 n7 ?_
  refine w_c32 rfl (by decide) 1 (by decide) ?_
  refine w_isub rfl ?_
  refine w_i2l rfl c8 ?_
  exact w_cs rfl [vl x3, vl 0, vl (z6 - 1)] [] rfl rfl (s_wt_4 rfl) k

theorem k397_41 {P : s_P} {d : Nat} {Q : s_O → Prop} {h : s_H} {kc ks : Nat} {r0 : Term} {x1 x2 x3 : Int} {t4 t5 t6 : Term} {s0 : Int}  (k1 : s0 ≠ 0 → wr P d sw_c397 sw_h397 (50, [r0, vi x1, vi x2, vi x3, t4, t5, t6], [], h, kc, ks) Q) (k2 : ¬ s0 ≠ 0 → wr P d sw_c397 sw_h397 (44, [r0, vi x1, vi x2, vi x3, t4, t5, t6], [], h, kc, ks) Q)  (c1 : In3 s0 := by first | omega | assumption | (simp only [mk_len, List.length_map]; omega) | decide) : wr P d sw_c397 sw_h397 (41, [r0, vi x1, vi x2, vi x3, t4, t5, t6], [vi s0], h, kc, ks) Q := by
  exact w_if1 rfl c1 k1 k2

theorem k397_44 {P : s_P} {d : Nat} {Q : s_O → Prop} {h : s_H} {kc ks : Nat} {r0 : Term} {x1 x2 x3 : Int} {t4 t5 t6 : Term} {q2 : Nat} {f3 : List Term} (g4 : s_get h q2 = some (1, 11, f3)) (k : wm P d 570 [.index q2, vi 1] h (wq P d sw_c397 sw_h397 49 [.index q2, vi x1, vi x2, vi x3, t4, t5, t6] [] kc ks Q)) (e_q2 : r0 = .index q2 := by first | rfl | assumption) (y1 : s_ty r0 = 3 := by first | rfl | assumption)  : wr P d sw_c397 sw_h397 (44, [r0, vi x1, vi x2, vi x3, t4, t5, t6], [], h, kc, ks) Q := by
  refine w_ld rfl rfl (Or.inr (Or.inr ⟨by decide, y1⟩)) ?_
  refine w_c32 rfl (by decide) 1 (by decide) ?_
  subst e_q2
  exact w_cv rfl [.index q2, vi 1] [] rfl rfl (s_wt_4 rfl) rfl g4 k

theorem k397_49 {P : s_P} {d : Nat} {Q : s_O → Prop} {h : s_H} {kc ks : Nat} {r0 : Term} {x1 x2 x3 : Int} {t4 t5 t6 : Term} {s0 : Int}  (k : Q (.inl (some (vi s0)), h, kc, ks))   : wr P d sw_c397 sw_h397 (49, [r0, vi x1, vi x2, vi x3, t4, t5, t6], [vi s0], h, kc, ks) Q := by
  exact w_iret rfl k

theorem k397_50 {P : s_P} {d : Nat} {Q : s_O → Prop} {h : s_H} {kc ks : Nat} {r0 : Term} {x1 x2 x3 : Int} {t4 t5 t6 : Term}  (k : wr P d sw_c397 sw_h397 (58, [r0, vi x1, vi x2, vi x3, vi (-1), vi (x3 + 1), t6], [], h, kc, ks) Q)   : wr P d sw_c397 sw_h397 (50, [r0, vi x1, vi x2, vi x3, t4, t5, t6], [], h, kc, ks) Q := by
  refine w_c32 rfl (by decide) (-1) (by decide) ?_
  refine w_st (ls' := [r0, vi x1, vi x2, vi x3, vi (-1), t5, t6]) rfl (Or.inl ⟨by decide, rfl⟩) rfl ?_
  refine w_ld rfl rfl (Or.inl ⟨by decide, rfl⟩) ?_
  refine w_c32 rfl (by decide) 1 (by decide) ?_
  refine w_iadd rfl ?_
  refine w_st (ls' := [r0, vi x1, vi x2, vi x3, vi (-1), vi (x3 + 1), t6]) rfl (Or.inl ⟨by decide, rfl⟩) rfl ?_
  exact k

theorem k397_58 {P : s_P} {d : Nat} {Q : s_O → Prop} {h : s_H} {kc ks : Nat} {r0 : Term} {x1 x2 x3 x4 x5 : Int} {t6 : Term}  (k1 : x5 ≤ 0 → wr P d sw_c397 sw_h397 (90, [r0, vi x1, vi x2, vi x3, vi x4, vi x5, t6], [], h, kc, ks) Q) (k2 : ¬ x5 ≤ 0 → wr P d sw_c397 sw_h397 (63, [r0, vi x1, vi x2, vi x3, vi x4, vi x5, t6], [], h, kc, ks) Q)  (c1 : In3 x5 := by first | omega | assumption | (simp only [mk_len, List.length_map]; omega) | decide) : wr P d sw_c397 sw_h397 (58, [r0, vi x1, vi x2, vi x3, vi x4, vi x5, t6], [], h, kc, ks) Q := by
  refine w_ld rfl rfl (Or.inl ⟨by decide, rfl⟩) ?_
  exact w_if1 rfl c1 k1 k2

theorem k397_63 {P : s_P} {d : Nat} {Q : s_O → Prop} {h : s_H} {kc ks : Nat} {r0 : Term} {x1 x2 x3 x4 x5 : Int} {t6 : Term} {q2 : Nat} {f3 : List Term} {v5 : Term} {q7 : Nat} {a8 : List Int} (g4 : s_get h q2 = some (1, 11, f3)) (g9 : s_get h q7 = some (0, 0, a8.map vi)) (k1 : gi a8 (x4 + 1) ≠ (-1) → wr P d sw_c397 sw_h397 (83, [.index q2, vi x1, vi x2, vi x3, vi (x4 + 1), vi x5, t6], [vi x5], h, kc, ks) Q) (k2 : ¬ gi a8 (x4 + 1) ≠ (-1) → wr P d sw_c397 sw_h397 (79, [.index q2, vi x1, vi x2, vi x3, vi (x4 + 1), vi x5, t6], [vi x5], h, kc, ks) Q) (e_q2 : r0 = .index q2 := by first | rfl | assumption) (e_q7 : v5 = .index q7 := by first | rfl | assumption) (y1 : s_ty r0 = 3 := by first | rfl | assumption) (n6 : s_nth f3 31 = some v5 := by first | rfl | assumption) (c10 : x4 + 1 < a8.length := by first | omega | assumption | (simp only [mk_len, List.length_map]; omega) | decide) (c11 : 0 ≤ x4 + 1 := by first | omega | assumption | (simp only [mk_len, List.length_map]; omega) | decide) (c12 : In3 (x4 + 1) := by first | omega | assumption | (simp only [mk_len, List.length_map]; omega) | decide) (c13 : In3 (gi a8 (x4 + 1)) := by first | omega | assumption | (simp only [mk_len, List.length_map]; omega) | decide) : wr P d sw_c397 sw_h397 (63, [r0, vi x1, vi x2, vi x3, vi x4, vi x5, t6], [], h, kc, ks) Q := by
  refine w_iinc (ls' := [r0, vi x1, vi x2, vi x3, vi (x4 + 1), vi x5, t6]) rfl rfl 1 (by decide) rfl ?_
  refine w_ld rfl rfl (Or.inl ⟨by decide, rfl⟩) ?_
  refine w_ld rfl rfl (Or.inr (Or.inr ⟨by decide, y1⟩)) ?_
  subst e_q2
  refine w_getf rfl g4 n6 ?_
  refine w_ld rfl rfl (Or.inl ⟨by decide, rfl⟩) ?_
  subst e_q7
  refine w_iald rfl g9 (Or.inl rfl) c12 c11 c10 ?_
  refine w_c32 rfl (by decide) (-1) (by decide) ?_
  exact w_if2 rfl c13 (by decide) k1 k2

theorem k397_79 {P : s_P} {d : Nat} {Q : s_O → Prop} {h : s_H} {kc ks : Nat} {r0 : Term} {x1 x2 x3 x4 x5 : Int} {t6 : Term} {s0 : Int}  (k : wr P d sw_c397 sw_h397 (84, [r0, vi x1, vi x2, vi x3, vi x4, vi x5, t6], [vi 1, vi s0], h, kc, ks) Q)   : wr P d sw_c397 sw_h397 (79, [r0, vi x1, vi x2, vi x3, vi x4, vi x5, t6], [vi s0], h, kc, ks) Q := by
  refine w_c32 rfl (by decide) 1 (by decide) ?_
  refine w_goto rfl ?_
  exact k

theorem k397_83 {P : s_P} {d : Nat} {Q : s_O → Prop} {h : s_H} {kc ks : Nat} {r0 : Term} {x1 x2 x3 x4 x5 : Int} {t6 : Term} {s0 : Int}  (k : wr P d sw_c397 sw_h397 (84, [r0, vi x1, vi x2, vi x3, vi x4, vi x5, t6], [vi 0, vi s0], h, kc, ks) Q)   : wr P d sw_c397 sw_h397 (83, [r0, vi x1, vi x2, vi x3, vi x4, vi x5, t6], [vi s0], h, kc, ks) Q := by
  refine w_c32 rfl (by decide) 0 (by decide) ?_
  exact k

theorem k397_84 {P : s_P} {d : Nat} {Q : s_O → Prop} {h : s_H} {kc ks : Nat} {r0 : Term} {x1 x2 x3 x4 x5 : Int} {t6 : Term} {s0 s1 : Int}  (k : wr P d sw_c397 sw_h397 (58, [r0, vi x1, vi x2, vi x3, vi x4, vi (s0 - s1), t6], [], h, kc, ks) Q)   : wr P d sw_c397 sw_h397 (84, [r0, vi x1, vi x2, vi x3, vi x4, vi x5, t6], [vi s1, vi s0], h, kc, ks) Q := by
  refine w_isub rfl ?_
  refine w_st (ls' := [r0, vi x1, vi x2, vi x3, vi x4, vi (s0 - s1), t6]) rfl (Or.inl ⟨by decide, rfl⟩) rfl ?_
  refine w_goto rfl ?_
  exact k

theorem k397_90 {P : s_P} {d : Nat} {Q : s_O → Prop} {h : s_H} {kc ks : Nat} {r0 : Term} {x1 x2 x3 x4 x5 : Int} {t6 : Term} {q2 : Nat} {f3 : List Term} {v5 : Term} (g4 : s_get h q2 = some (1, 11, f3)) (k : wm P d 438 [v5] h (wq P d sw_c397 sw_h397 97 [.index q2, vi x1, vi x2, vi x3, vi x4, vi x5, t6] [] kc ks Q)) (e_q2 : r0 = .index q2 := by first | rfl | assumption) (y1 : s_ty r0 = 3 := by first | rfl | assumption) (n6 : s_nth f3 14 = some v5 := by first | rfl | assumption)  : wr P d sw_c397 sw_h397 (90, [r0, vi x1, vi x2, vi x3, vi x4, vi x5, t6], [], h, kc, ks) Q := by
  refine w_ld rfl rfl (Or.inr (Or.inr ⟨by decide, y1⟩)) ?_
  subst e_q2
  refine w_getf rfl g4 n6 ?_
  exact w_cs rfl [v5] [] rfl rfl (s_wt_4 rfl) k

theorem k397_97 {P : s_P} {d : Nat} {Q : s_O → Prop} {h : s_H} {kc ks : Nat} {r0 : Term} {x1 x2 x3 x4 x5 : Int} {t6 : Term} {q2 : Nat} {f3 : List Term} {v5 : Term} {q7 : Nat} {a8 : List Int} (g4 : s_get h q2 = some (1, 11, f3)) (g9 : s_get h q7 = some (0, 1, a8.map vl)) (k : wr P d sw_c397 sw_h397 (108, [.index q2, vi x1, vi x2, vi x3, vi x4, vi x5, vi 0], [], (hp h q7 (0, 1, (a8.set (Int.toNat (x4)) 1).map vl)), kc, ks) Q) (e_q2 : r0 = .index q2 := by first | rfl | assumption) (e_q7 : v5 = .index q7 := by first | rfl | assumption) (y1 : s_ty r0 = 3 := by first | rfl | assumption) (n6 : s_nth f3 14 = some v5 := by first | rfl | assumption) (c10 : x4 < a8.length := by first | omega | assumption | (simp only [mk_len, List.length_map]; omega) | decide) (c11 : 0 ≤ x4 := by first | omega | assumption | (simp only [mk_len, List.length_map]; omega) | decide) (c12 : In3 x4 := by first | omega | assumption | (simp only [mk_len, List.length_map]; omega) | decide) (c13 : 0 < q7 := by first | omega | assumption | (simp only [mk_len, List.length_map]; omega) | decide) : wr P d sw_c397 sw_h397 (97, [r0, vi x1, vi x2, vi x3, vi x4, vi x5, t6], [], h, kc, ks) Q := by
  refine w_ld rfl rfl (Or.inr (Or.inr ⟨by decide, y1⟩)) ?_
  subst e_q2
  refine w_getf rfl g4 n6 ?_
  refine w_ld rfl rfl (Or.inl ⟨by decide, rfl⟩) ?_
  refine w_c64 rfl (by decide) 1 (by decide) ?_
  subst e_q7
  refine w_last rfl g9 (Nat.ble_eq_true_of_le c13) c12 c11 c10 ?_
  refine w_c32 rfl (by decide) 0 (by decide) ?_
  refine w_st (ls' := [.index q2, vi x1, vi x2, vi x3, vi x4, vi x5, vi 0]) rfl (Or.inl ⟨by decide, rfl⟩) rfl ?_
  exact k

theorem k397_108 {P : s_P} {d : Nat} {Q : s_O → Prop} {h : s_H} {kc ks : Nat} {r0 : Term} {x1 x2 x3 x4 x5 x6 : Int}  (k1 : x4 ≤ x6 → wr P d sw_c397 sw_h397 (161, [r0, vi x1, vi x2, vi x3, vi x4, vi x5, vi x6], [], h, kc, ks) Q) (k2 : ¬ x4 ≤ x6 → wr P d sw_c397 sw_h397 (115, [r0, vi x1, vi x2, vi x3, vi x4, vi x5, vi x6], [], h, kc, ks) Q)  (c1 : In3 x6 := by first | omega | assumption | (simp only [mk_len, List.length_map]; omega) | decide) (c2 : In3 x4 := by first | omega | assumption | (simp only [mk_len, List.length_map]; omega) | decide) : wr P d sw_c397 sw_h397 (108, [r0, vi x1, vi x2, vi x3, vi x4, vi x5, vi x6], [], h, kc, ks) Q := by
  refine w_ld rfl rfl (Or.inl ⟨by decide, rfl⟩) ?_
  refine w_ld rfl rfl (Or.inl ⟨by decide, rfl⟩) ?_
  exact w_if2 rfl c1 c2 k1 k2

theorem k397_115 {P : s_P} {d : Nat} {Q : s_O → Prop} {h : s_H} {kc ks : Nat} {r0 : Term} {x1 x2 x3 x4 x5 x6 : Int} {q2 : Nat} {f3 : List Term} {v5 : Term} {q7 : Nat} {a8 : List Int} (g4 : s_get h q2 = some (1, 11, f3)) (g9 : s_get h q7 = some (0, 0, a8.map vi)) (k1 : gi a8 x6 = (-1) → wr P d sw_c397 sw_h397 (155, [.index q2, vi x1, vi x2, vi x3, vi x4, vi x5, vi x6], [], h, kc, ks) Q) (k2 : ¬ gi a8 x6 = (-1) → wr P d sw_c397 sw_h397 (126, [.index q2, vi x1, vi x2, vi x3, vi x4, vi x5, vi x6], [], h, kc, ks) Q) (e_q2 : r0 = .index q2 := by first | rfl | assumption) (e_q7 : v5 = .index q7 := by first | rfl | assumption) (y1 : s_ty r0 = 3 := by first | rfl | assumption) (n6 : s_nth f3 31 = some v5 := by first | rfl | assumption) (c10 : x6 < a8.length := by first | omega | assumption | (simp only [mk_len, List.length_map]; omega) | decide) (c11 : 0 ≤ x6 := by first | omega | assumption | (simp only [mk_len, List.length_map]; omega) | decide) (c12 : In3 x6 := by first | omega | assumption | (simp only [mk_len, List.length_map]; omega) | decide) (c13 : In3 (gi a8 x6) := by first | omega | assumption | (simp only [mk_len, List.length_map]; omega) | decide) : wr P d sw_c397 sw_h397 (115, [r0, vi x1, vi x2, vi x3, vi x4, vi x5, vi x6], [], h, kc, ks) Q := by
  refine w_ld rfl rfl (Or.inr (Or.inr ⟨by decide, y1⟩)) ?_
  subst e_q2
  refine w_getf rfl g4 n6 ?_
  refine w_ld rfl rfl (Or.inl ⟨by decide, rfl⟩) ?_
  subst e_q7
  refine w_iald rfl g9 (Or.inl rfl) c12 c11 c10 ?_
  refine w_c32 rfl (by decide) (-1) (by decide) ?_
  exact w_if2 rfl c13 (by decide) k1 k2

theorem k397_126 {P : s_P} {d : Nat} {Q : s_O → Prop} {h : s_H} {kc ks : Nat} {r0 : Term} {x1 x2 x3 x4 x5 x6 : Int} {q2 : Nat} {f3 : List Term} {v5 v7 v9 : Term} {q11 : Nat} {a12 : List Int} {q17 : Nat} {a18 : List Int} (g4 : s_get h q2 = some (1, 11, f3)) (g13 : s_get h q11 = some (0, 0, a12.map vi)) (g19 : s_get h q17 = some (0, 1, a18.map vl)) (k : wm P d 528 [vl (-(gi a18 ((48 * (gi a12 x6)) + x4)))] h (wq P d sw_c397 sw_h397 154 [.index q2, vi x1, vi x2, vi x3, vi x4, vi x5, vi x6] [vi x6, v5] kc ks Q)) (e_q2 : r0 = .index q2 := by first | rfl | assumption) (e_q11 : v9 = .index q11 := by first | rfl | assumption) (e_q17 : v7 = .index q17 := by first | rfl | assumption) (y1 : s_ty r0 = 3 := by first | rfl | assumption) (n6 : s_nth f3 14 = some v5 := by first | rfl | assumption) (n8 : s_nth f3 30 = some v7 := by first | rfl | assumption) (n10 : s_nth f3 31 = some v9 := by first | rfl | assumption) (c14 : x6 < a12.length := by first | omega | assumption | (simp only [mk_len, List.length_map]; omega) | decide) (c15 : 0 ≤ x6 := by first | omega | assumption | (simp only [mk_len, List.length_map]; omega) | decide) (c16 : In3 x6 := by first | omega | assumption | (simp only [mk_len, List.length_map]; omega) | decide) (c20 : (48 * (gi a12 x6)) + x4 < a18.length := by first | omega | assumption | (simp only [mk_len, List.length_map]; omega) | decide) (c21 : 0 ≤ (48 * (gi a12 x6)) + x4 := by first | omega | assumption | (simp only [mk_len, List.length_map]; omega) | decide) (c22 : In3 ((48 * (gi a12 x6)) + x4) := by first | omega | assumption | (simp only [mk_len, List.length_map]; omega) | decide) : wr P d sw_c397 sw_h397 (126, [r0, vi x1, vi x2, vi x3, vi x4, vi x5, vi x6], [], h, kc, ks) Q := by
  refine w_ld rfl rfl (Or.inr (Or.inr ⟨by decide, y1⟩)) ?_
  subst e_q2
  refine w_getf rfl g4 n6 ?_
  refine w_ld rfl rfl (Or.inl ⟨by decide, rfl⟩) ?_
  refine w_ld rfl rfl (Or.inr (Or.inr ⟨by decide, rfl⟩)) ?_
  refine w_getf rfl g4 n8 ?_
  refine w_c32 rfl (by decide) 48 (by decide) ?_
  refine w_ld rfl rfl (Or.inr (Or.inr ⟨by decide, rfl⟩)) ?_
  refine w_getf rfl g4 n10 ?_
  refine w_ld rfl rfl (Or.inl ⟨by decide, rfl⟩) ?_
  subst e_q11
  refine w_iald rfl g13 (Or.inl rfl) c16 c15 c14 ?_
  refine w_imul rfl ?_
  refine w_ld rfl rfl (Or.inl ⟨by decide, rfl⟩) ?_
  refine w_iadd rfl ?_
  subst e_q17
  refine w_lald rfl g19 c22 c21 c20 ?_
  refine w_lneg rfl ?_
  exact w_cs rfl [vl (-(gi a18 ((48 * (gi a12 x6)) + x4)))] [vi x6, v5] rfl rfl (s_wt_4 rfl) k

theorem k397_154 {P : s_P} {d : Nat} {Q : s_O → Prop} {h : s_H} {kc ks : Nat} {r0 : Term} {x1 x2 x3 x4 x5 x6 : Int} {s0 : Term} {s1 s2 : Int} {q1 : Nat} {a2 : List Int} (g3 : s_get h q1 = some (0, 1, a2.map vl)) (k : wr P d sw_c397 sw_h397 (155, [r0, vi x1, vi x2, vi x3, vi x4, vi x5, vi x6], [], (hp h q1 (0, 1, (a2.set (Int.toNat (s1)) s2).map vl)), kc, ks) Q) (e_q1 : s0 = .index q1 := by first | rfl | assumption) (c4 : s1 < a2.length := by first | omega | assumption | (simp only [mk_len, List.length_map]; omega) | decide) (c5 : 0 ≤ s1 := by first | omega | assumption | (simp only [mk_len, List.length_map]; omega) | decide) (c6 : In3 s1 := by first | omega | assumption | (simp only [mk_len, List.length_map]; omega) | decide) (c7 : 0 < q1 := by first | omega | assumption | (simp only [mk_len, List.length_map]; omega) | decide) : wr P d sw_c397 sw_h397 (154, [r0, vi x1, vi x2, vi x3, vi x4, vi x5, vi x6], [vl s2, vi s1, s0], h, kc, ks) Q := by
  subst e_q1
  refine w_last rfl g3 (Nat.ble_eq_true_of_le c7) c6 c5 c4 ?_
  exact k

theorem k397_155 {P : s_P} {d : Nat} {Q : s_O → Prop} {h : s_H} {kc ks : Nat} {r0 : Term} {x1 x2 x3 x4 x5 x6 : Int}  (k : wr P d sw_c397 sw_h397 (108, [r0, vi x1, vi x2, vi x3, vi x4, vi x5, vi (x6 + 1)], [], h, kc, ks) Q)   : wr P d sw_c397 sw_h397 (155, [r0, vi x1, vi x2, vi x3, vi x4, vi x5, vi x6], [], h, kc, ks) Q := by
  refine w_iinc (ls' := [r0, vi x1, vi x2, vi x3, vi x4, vi x5, vi (x6 + 1)]) rfl rfl 1 (by decide) rfl ?_
  refine w_goto rfl ?_
  exact k

theorem k397_161 {P : s_P} {d : Nat} {Q : s_O → Prop} {h : s_H} {kc ks : Nat} {r0 : Term} {x1 x2 x3 x4 x5 x6 : Int} {q2 : Nat} {f3 : List Term} {v5 : Term} (g4 : s_get h q2 = some (1, 11, f3)) (k : wm P d 405 [v5, vl 1] h (wq P d sw_c397 sw_h397 169 [.index q2, vi x1, vi x2, vi x3, vi x4, vi x5, vi x6] [] kc ks Q)) (e_q2 : r0 = .index q2 := by first | rfl | assumption) (y1 : s_ty r0 = 3 := by first | rfl | assumption) (n6 : s_nth f3 15 = some v5 := by first | rfl | assumption)  : wr P d sw_c397 sw_h397 (161, [r0, vi x1, vi x2, vi x3, vi x4, vi x5, vi x6], [], h, kc, ks) Q := by
  refine w_ld rfl rfl (Or.inr (Or.inr ⟨by decide, y1⟩)) ?_
  subst e_q2
  refine w_getf rfl g4 n6 ?_
  refine w_c64 rfl (by decide) 1 (by decide) ?_
  exact w_cs rfl [v5, vl 1] [] rfl rfl (s_wt_4 rfl) k

theorem k397_169 {P : s_P} {d : Nat} {Q : s_O → Prop} {h : s_H} {kc ks : Nat} {r0 : Term} {x1 x2 x3 x4 x5 x6 : Int} {q2 : Nat} {f3 : List Term} (g4 : s_get h q2 = some (1, 11, f3)) (k : wm P d 495 [.index q2, vi 3] h (wq P d sw_c397 sw_h397 174 [.index q2, vi x1, vi x2, vi x3, vi x4, vi x5, vi x6] [] kc ks Q)) (e_q2 : r0 = .index q2 := by first | rfl | assumption) (y1 : s_ty r0 = 3 := by first | rfl | assumption)  : wr P d sw_c397 sw_h397 (169, [r0, vi x1, vi x2, vi x3, vi x4, vi x5, vi x6], [], h, kc, ks) Q := by
  refine w_ld rfl rfl (Or.inr (Or.inr ⟨by decide, y1⟩)) ?_
  refine w_c32 rfl (by decide) 3 (by decide) ?_
  subst e_q2
  exact w_cv rfl [.index q2, vi 3] [] rfl rfl (s_wt_4 rfl) rfl g4 k

theorem k397_174 {P : s_P} {d : Nat} {Q : s_O → Prop} {h : s_H} {kc ks : Nat} {r0 : Term} {x1 x2 x3 x4 x5 x6 s0 : Int}  (k : Q (.inl (some (vi s0)), h, kc, ks))   : wr P d sw_c397 sw_h397 (174, [r0, vi x1, vi x2, vi x3, vi x4, vi x5, vi x6], [vi s0], h, kc, ks) Q := by
  exact w_iret rfl k

/-! 398: FormulaWorksModel.answers(II)I -/
theorem k398_0 {P : s_P} {d : Nat} {Q : s_O → Prop} {h : s_H} {kc ks : Nat} {r0 : Term} {x1 x2 : Int} {q2 : Nat} {f3 : List Term} (g4 : s_get h q2 = some (1, 11, f3)) (k : wm P d 487 [.index q2, vi x1, vi x2] h (wq P d sw_c398 sw_h398 6 [.index q2, vi x1, vi x2] [] kc ks Q)) (e_q2 : r0 = .index q2 := by first | rfl | assumption) (y1 : s_ty r0 = 3 := by first | rfl | assumption)  : wr P d sw_c398 sw_h398 (0, [r0, vi x1, vi x2], [], h, kc, ks) Q := by
  refine w_ld rfl rfl (Or.inr (Or.inr ⟨by decide, y1⟩)) ?_
  refine w_ld rfl rfl (Or.inl ⟨by decide, rfl⟩) ?_
  refine w_ld rfl rfl (Or.inl ⟨by decide, rfl⟩) ?_
  subst e_q2
  exact w_cv rfl [.index q2, vi x1, vi x2] [] rfl rfl (s_wt_4 rfl) rfl g4 k

theorem k398_6 {P : s_P} {d : Nat} {Q : s_O → Prop} {h : s_H} {kc ks : Nat} {r0 : Term} {x1 x2 s0 : Int}  (k1 : s0 ≠ 0 → wr P d sw_c398 sw_h398 (11, [r0, vi x1, vi x2], [], h, kc, ks) Q) (k2 : ¬ s0 ≠ 0 → wr P d sw_c398 sw_h398 (9, [r0, vi x1, vi x2], [], h, kc, ks) Q)  (c1 : In3 s0 := by first | omega | assumption | (simp only [mk_len, List.length_map]; omega) | decide) : wr P d sw_c398 sw_h398 (6, [r0, vi x1, vi x2], [vi s0], h, kc, ks) Q := by
  exact w_if1 rfl c1 k1 k2

theorem k398_9 {P : s_P} {d : Nat} {Q : s_O → Prop} {h : s_H} {kc ks : Nat} {r0 : Term} {x1 x2 : Int}  (k : Q (.inl (some (vi 0)), h, kc, ks))   : wr P d sw_c398 sw_h398 (9, [r0, vi x1, vi x2], [], h, kc, ks) Q := by
  refine w_c32 rfl (by decide) 0 (by decide) ?_
  exact w_iret rfl k

theorem k398_11 {P : s_P} {d : Nat} {Q : s_O → Prop} {h : s_H} {kc ks : Nat} {r0 : Term} {x1 x2 : Int} {q2 : Nat} {f3 : List Term} {v5 : Term} (g4 : s_get h q2 = some (1, 11, f3)) (k : wm P d 438 [v5] h (wq P d sw_c398 sw_h398 18 [.index q2, vi x1, vi x2] [] kc ks Q)) (e_q2 : r0 = .index q2 := by first | rfl | assumption) (y1 : s_ty r0 = 3 := by first | rfl | assumption) (n6 : s_nth f3 24 = some v5 := by first | rfl | assumption)  : wr P d sw_c398 sw_h398 (11, [r0, vi x1, vi x2], [], h, kc, ks) Q := by
  refine w_ld rfl rfl (Or.inr (Or.inr ⟨by decide, y1⟩)) ?_
  subst e_q2
  refine w_getf rfl g4 n6 ?_
  exact w_cs rfl [v5] [] rfl rfl (s_wt_4 rfl) k

theorem k398_18 {P : s_P} {d : Nat} {Q : s_O → Prop} {h : s_H} {kc ks : Nat} {r0 : Term} {x1 x2 : Int} {q2 : Nat} {f3 : List Term} {v5 : Term} (g4 : s_get h q2 = some (1, 11, f3)) (k : wm P d 416 [.index q2, vi x1, vi x2, v5] h (wq P d sw_c398 sw_h398 28 [.index q2, vi x1, vi x2] [] kc ks Q)) (e_q2 : r0 = .index q2 := by first | rfl | assumption) (y1 : s_ty r0 = 3 := by first | rfl | assumption) (n6 : s_nth f3 24 = some v5 := by first | rfl | assumption)  : wr P d sw_c398 sw_h398 (18, [r0, vi x1, vi x2], [], h, kc, ks) Q := by
  refine w_ld rfl rfl (Or.inr (Or.inr ⟨by decide, y1⟩)) ?_
  refine w_ld rfl rfl (Or.inl ⟨by decide, rfl⟩) ?_
  refine w_ld rfl rfl (Or.inl ⟨by decide, rfl⟩) ?_
  refine w_ld rfl rfl (Or.inr (Or.inr ⟨by decide, y1⟩)) ?_
  subst e_q2
  refine w_getf rfl g4 n6 ?_
  exact w_cv rfl [.index q2, vi x1, vi x2, v5] [] rfl rfl (s_wt_4 rfl) rfl g4 k

theorem k398_28 {P : s_P} {d : Nat} {Q : s_O → Prop} {h : s_H} {kc ks : Nat} {r0 : Term} {x1 x2 : Int} {q2 : Nat} {f3 : List Term} {z5 : Int} (g4 : s_get h q2 = some (1, 11, f3)) (k : Q (.inl (some (vi z5)), h, kc, ks)) (e_q2 : r0 = .index q2 := by first | rfl | assumption) (y1 : s_ty r0 = 3 := by first | rfl | assumption) (n6 : s_nth f3 32 = some (vi z5) := by first | rfl | assumption)  : wr P d sw_c398 sw_h398 (28, [r0, vi x1, vi x2], [], h, kc, ks) Q := by
  refine w_ld rfl rfl (Or.inr (Or.inr ⟨by decide, y1⟩)) ?_
  subst e_q2
  refine w_getf rfl g4 n6 ?_
  exact w_iret rfl k

/-! 399: FormulaWorksModel.areSamePieces(II)Z -/
theorem k399_0 {P : s_P} {d : Nat} {Q : s_O → Prop} {h : s_H} {kc ks : Nat} {r0 : Term} {x1 x2 : Int} {t3 t4 t5 : Term} {q2 : Nat} {f3 : List Term} (g4 : s_get h q2 = some (1, 11, f3)) (k : wm P d 407 [.index q2, vi x1] h (wq P d sw_c399 sw_h399 5 [.index q2, vi x1, vi x2, t3, t4, t5] [] kc ks Q)) (e_q2 : r0 = .index q2 := by first | rfl | assumption) (y1 : s_ty r0 = 3 := by first | rfl | assumption)  : wr P d sw_c399 sw_h399 (0, [r0, vi x1, vi x2, t3, t4, t5], [], h, kc, ks) Q := by
  refine w_ld rfl rfl (Or.inr (Or.inr ⟨by decide, y1⟩)) ?_
  refine w_ld rfl rfl (Or.inl ⟨by decide, rfl⟩) ?_
  subst e_q2
  exact w_cv rfl [.index q2, vi x1] [] rfl rfl (s_wt_4 rfl) rfl g4 k

theorem k399_5 {P : s_P} {d : Nat} {Q : s_O → Prop} {h : s_H} {kc ks : Nat} {r0 : Term} {x1 x2 : Int} {t3 t4 t5 : Term} {s0 : Int} {q2 : Nat} {f3 : List Term} (g4 : s_get h q2 = some (1, 11, f3)) (k : wm P d 407 [.index q2, vi x2] h (wq P d sw_c399 sw_h399 13 [.index q2, vi x1, vi x2, vi (s0 - x1), t4, t5] [] kc ks Q)) (e_q2 : r0 = .index q2 := by first | rfl | assumption) (y1 : s_ty r0 = 3 := by first | rfl | assumption)  : wr P d sw_c399 sw_h399 (5, [r0, vi x1, vi x2, t3, t4, t5], [vi s0], h, kc, ks) Q := by
  refine w_ld rfl rfl (Or.inl ⟨by decide, rfl⟩) ?_
  refine w_isub rfl ?_
  refine w_st (ls' := [r0, vi x1, vi x2, vi (s0 - x1), t4, t5]) rfl (Or.inl ⟨by decide, rfl⟩) rfl ?_
  refine w_ld rfl rfl (Or.inr (Or.inr ⟨by decide, y1⟩)) ?_
  refine w_ld rfl rfl (Or.inl ⟨by decide, rfl⟩) ?_
  subst e_q2
  exact w_cv rfl [.index q2, vi x2] [] rfl rfl (s_wt_4 rfl) rfl g4 k

theorem k399_13 {P : s_P} {d : Nat} {Q : s_O → Prop} {h : s_H} {kc ks : Nat} {r0 : Term} {x1 x2 x3 : Int} {t4 t5 : Term} {s0 : Int}  (k1 : s0 - x2 ≠ x3 → wr P d sw_c399 sw_h399 (23, [r0, vi x1, vi x2, vi x3, t4, t5], [], h, kc, ks) Q) (k2 : ¬ s0 - x2 ≠ x3 → wr P d sw_c399 sw_h399 (19, [r0, vi x1, vi x2, vi x3, t4, t5], [], h, kc, ks) Q)  (c1 : In3 (s0 - x2) := by first | omega | assumption | (simp only [mk_len, List.length_map]; omega) | decide) (c2 : In3 x3 := by first | omega | assumption | (simp only [mk_len, List.length_map]; omega) | decide) : wr P d sw_c399 sw_h399 (13, [r0, vi x1, vi x2, vi x3, t4, t5], [vi s0], h, kc, ks) Q := by
  refine w_ld rfl rfl (Or.inl ⟨by decide, rfl⟩) ?_
  refine w_isub rfl ?_
  refine w_ld rfl rfl (Or.inl ⟨by decide, rfl⟩) ?_
  exact w_if2 rfl c1 c2 k1 k2

theorem k399_19 {P : s_P} {d : Nat} {Q : s_O → Prop} {h : s_H} {kc ks : Nat} {r0 : Term} {x1 x2 x3 : Int} {t4 t5 : Term}  (k : wr P d sw_c399 sw_h399 (24, [r0, vi x1, vi x2, vi x3, t4, t5], [vi 1], h, kc, ks) Q)   : wr P d sw_c399 sw_h399 (19, [r0, vi x1, vi x2, vi x3, t4, t5], [], h, kc, ks) Q := by
  refine w_c32 rfl (by decide) 1 (by decide) ?_
  refine w_goto rfl ?_
  exact k

theorem k399_23 {P : s_P} {d : Nat} {Q : s_O → Prop} {h : s_H} {kc ks : Nat} {r0 : Term} {x1 x2 x3 : Int} {t4 t5 : Term}  (k : wr P d sw_c399 sw_h399 (24, [r0, vi x1, vi x2, vi x3, t4, t5], [vi 0], h, kc, ks) Q)   : wr P d sw_c399 sw_h399 (23, [r0, vi x1, vi x2, vi x3, t4, t5], [], h, kc, ks) Q := by
  refine w_c32 rfl (by decide) 0 (by decide) ?_
  exact k

theorem k399_24 {P : s_P} {d : Nat} {Q : s_O → Prop} {h : s_H} {kc ks : Nat} {r0 : Term} {x1 x2 x3 : Int} {t4 t5 : Term} {s0 : Int}  (k : wr P d sw_c399 sw_h399 (29, [r0, vi x1, vi x2, vi x3, vi s0, vi 0], [], h, kc, ks) Q)   : wr P d sw_c399 sw_h399 (24, [r0, vi x1, vi x2, vi x3, t4, t5], [vi s0], h, kc, ks) Q := by
  refine w_st (ls' := [r0, vi x1, vi x2, vi x3, vi s0, t5]) rfl (Or.inl ⟨by decide, rfl⟩) rfl ?_
  refine w_c32 rfl (by decide) 0 (by decide) ?_
  refine w_st (ls' := [r0, vi x1, vi x2, vi x3, vi s0, vi 0]) rfl (Or.inl ⟨by decide, rfl⟩) rfl ?_
  exact k

theorem k399_29 {P : s_P} {d : Nat} {Q : s_O → Prop} {h : s_H} {kc ks : Nat} {r0 : Term} {x1 x2 x3 x4 x5 : Int}  (k1 : x3 ≤ x5 → wr P d sw_c399 sw_h399 (95, [r0, vi x1, vi x2, vi x3, vi x4, vi x5], [], h, kc, ks) Q) (k2 : ¬ x3 ≤ x5 → wr P d sw_c399 sw_h399 (35, [r0, vi x1, vi x2, vi x3, vi x4, vi x5], [], h, kc, ks) Q)  (c1 : In3 x5 := by first | omega | assumption | (simp only [mk_len, List.length_map]; omega) | decide) (c2 : In3 x3 := by first | omega | assumption | (simp only [mk_len, List.length_map]; omega) | decide) : wr P d sw_c399 sw_h399 (29, [r0, vi x1, vi x2, vi x3, vi x4, vi x5], [], h, kc, ks) Q := by
  refine w_ld rfl rfl (Or.inl ⟨by decide, rfl⟩) ?_
  refine w_ld rfl rfl (Or.inl ⟨by decide, rfl⟩) ?_
  exact w_if2 rfl c1 c2 k1 k2

theorem k399_35 {P : s_P} {d : Nat} {Q : s_O → Prop} {h : s_H} {kc ks : Nat} {r0 : Term} {x1 x2 x3 x4 x5 : Int}  (k1 : x4 = 0 → wr P d sw_c399 sw_h399 (95, [r0, vi x1, vi x2, vi x3, vi x4, vi x5], [], h, kc, ks) Q) (k2 : ¬ x4 = 0 → wr P d sw_c399 sw_h399 (40, [r0, vi x1, vi x2, vi x3, vi x4, vi x5], [], h, kc, ks) Q)  (c1 : In3 x4 := by first | omega | assumption | (simp only [mk_len, List.length_map]; omega) | decide) : wr P d sw_c399 sw_h399 (35, [r0, vi x1, vi x2, vi x3, vi x4, vi x5], [], h, kc, ks) Q := by
  refine w_ld rfl rfl (Or.inl ⟨by decide, rfl⟩) ?_
  exact w_if1 rfl c1 k1 k2

theorem k399_40 {P : s_P} {d : Nat} {Q : s_O → Prop} {h : s_H} {kc ks : Nat} {r0 : Term} {x1 x2 x3 x4 x5 : Int} {q2 : Nat} {f3 : List Term} {v5 : Term} {q7 : Nat} {a8 : List Int} (g4 : s_get h q2 = some (1, 11, f3)) (g9 : s_get h q7 = some (0, 0, a8.map vi)) (k1 : gi a8 (x1 + x5) ≠ gi a8 (x2 + x5) → wr P d sw_c399 sw_h399 (86, [.index q2, vi x1, vi x2, vi x3, vi x4, vi x5], [], h, kc, ks) Q) (k2 : ¬ gi a8 (x1 + x5) ≠ gi a8 (x2 + x5) → wr P d sw_c399 sw_h399 (61, [.index q2, vi x1, vi x2, vi x3, vi x4, vi x5], [], h, kc, ks) Q) (e_q2 : r0 = .index q2 := by first | rfl | assumption) (e_q7 : v5 = .index q7 := by first | rfl | assumption) (y1 : s_ty r0 = 3 := by first | rfl | assumption) (n6 : s_nth f3 83 = some v5 := by first | rfl | assumption) (c10 : x1 + x5 < a8.length := by first | omega | assumption | (simp only [mk_len, List.length_map]; omega) | decide) (c11 : 0 ≤ x1 + x5 := by first | omega | assumption | (simp only [mk_len, List.length_map]; omega) | decide) (c12 : In3 (x1 + x5) := by first | omega | assumption | (simp only [mk_len, List.length_map]; omega) | decide) (c13 : x2 + x5 < a8.length := by first | omega | assumption | (simp only [mk_len, List.length_map]; omega) | decide) (c14 : 0 ≤ x2 + x5 := by first | omega | assumption | (simp only [mk_len, List.length_map]; omega) | decide) (c15 : In3 (x2 + x5) := by first | omega | assumption | (simp only [mk_len, List.length_map]; omega) | decide) (c16 : In3 (gi a8 (x1 + x5)) := by first | omega | assumption | (simp only [mk_len, List.length_map]; omega) | decide) (c17 : In3 (gi a8 (x2 + x5)) := by first | omega | assumption | (simp only [mk_len, List.length_map]; omega) | decide) : wr P d sw_c399 sw_h399 (40, [r0, vi x1, vi x2, vi x3, vi x4, vi x5], [], h, kc, ks) Q := by
  refine w_ld rfl rfl (Or.inr (Or.inr ⟨by decide, y1⟩)) ?_
  subst e_q2
  refine w_getf rfl g4 n6 ?_
  refine w_ld rfl rfl (Or.inl ⟨by decide, rfl⟩) ?_
  refine w_ld rfl rfl (Or.inl ⟨by decide, rfl⟩) ?_
  refine w_iadd rfl ?_
  subst e_q7
  refine w_iald rfl g9 (Or.inl rfl) c12 c11 c10 ?_
  refine w_ld rfl rfl (Or.inr (Or.inr ⟨by decide, rfl⟩)) ?_
  refine w_getf rfl g4 n6 ?_
  refine w_ld rfl rfl (Or.inl ⟨by decide, rfl⟩) ?_
  refine w_ld rfl rfl (Or.inl ⟨by decide, rfl⟩) ?_
  refine w_iadd rfl ?_
  refine w_iald rfl g9 (Or.inl rfl) c15 c14 c13 ?_
  exact w_if2 rfl c16 c17 k1 k2

theorem k399_61 {P : s_P} {d : Nat} {Q : s_O → Prop} {h : s_H} {kc ks : Nat} {r0 : Term} {x1 x2 x3 x4 x5 : Int} {q2 : Nat} {f3 : List Term} {v5 : Term} {q7 : Nat} {a8 : List Int} (g4 : s_get h q2 = some (1, 11, f3)) (g9 : s_get h q7 = some (0, 0, a8.map vi)) (k1 : gi a8 (x1 + x5) ≠ gi a8 (x2 + x5) → wr P d sw_c399 sw_h399 (86, [.index q2, vi x1, vi x2, vi x3, vi x4, vi x5], [], h, kc, ks) Q) (k2 : ¬ gi a8 (x1 + x5) ≠ gi a8 (x2 + x5) → wr P d sw_c399 sw_h399 (82, [.index q2, vi x1, vi x2, vi x3, vi x4, vi x5], [], h, kc, ks) Q) (e_q2 : r0 = .index q2 := by first | rfl | assumption) (e_q7 : v5 = .index q7 := by first | rfl | assumption) (y1 : s_ty r0 = 3 := by first | rfl | assumption) (n6 : s_nth f3 84 = some v5 := by first | rfl | assumption) (c10 : x1 + x5 < a8.length := by first | omega | assumption | (simp only [mk_len, List.length_map]; omega) | decide) (c11 : 0 ≤ x1 + x5 := by first | omega | assumption | (simp only [mk_len, List.length_map]; omega) | decide) (c12 : In3 (x1 + x5) := by first | omega | assumption | (simp only [mk_len, List.length_map]; omega) | decide) (c13 : x2 + x5 < a8.length := by first | omega | assumption | (simp only [mk_len, List.length_map]; omega) | decide) (c14 : 0 ≤ x2 + x5 := by first | omega | assumption | (simp only [mk_len, List.length_map]; omega) | decide) (c15 : In3 (x2 + x5) := by first | omega | assumption | (simp only [mk_len, List.length_map]; omega) | decide) (c16 : In3 (gi a8 (x1 + x5)) := by first | omega | assumption | (simp only [mk_len, List.length_map]; omega) | decide) (c17 : In3 (gi a8 (x2 + x5)) := by first | omega | assumption | (simp only [mk_len, List.length_map]; omega) | decide) : wr P d sw_c399 sw_h399 (61, [r0, vi x1, vi x2, vi x3, vi x4, vi x5], [], h, kc, ks) Q := by
  refine w_ld rfl rfl (Or.inr (Or.inr ⟨by decide, y1⟩)) ?_
  subst e_q2
  refine w_getf rfl g4 n6 ?_
  refine w_ld rfl rfl (Or.inl ⟨by decide, rfl⟩) ?_
  refine w_ld rfl rfl (Or.inl ⟨by decide, rfl⟩) ?_
  refine w_iadd rfl ?_
  subst e_q7
  refine w_iald rfl g9 (Or.inl rfl) c12 c11 c10 ?_
  refine w_ld rfl rfl (Or.inr (Or.inr ⟨by decide, rfl⟩)) ?_
  refine w_getf rfl g4 n6 ?_
  refine w_ld rfl rfl (Or.inl ⟨by decide, rfl⟩) ?_
  refine w_ld rfl rfl (Or.inl ⟨by decide, rfl⟩) ?_
  refine w_iadd rfl ?_
  refine w_iald rfl g9 (Or.inl rfl) c15 c14 c13 ?_
  exact w_if2 rfl c16 c17 k1 k2

theorem k399_82 {P : s_P} {d : Nat} {Q : s_O → Prop} {h : s_H} {kc ks : Nat} {r0 : Term} {x1 x2 x3 x4 x5 : Int}  (k : wr P d sw_c399 sw_h399 (87, [r0, vi x1, vi x2, vi x3, vi x4, vi x5], [vi 1], h, kc, ks) Q)   : wr P d sw_c399 sw_h399 (82, [r0, vi x1, vi x2, vi x3, vi x4, vi x5], [], h, kc, ks) Q := by
  refine w_c32 rfl (by decide) 1 (by decide) ?_
  refine w_goto rfl ?_
  exact k

theorem k399_86 {P : s_P} {d : Nat} {Q : s_O → Prop} {h : s_H} {kc ks : Nat} {r0 : Term} {x1 x2 x3 x4 x5 : Int}  (k : wr P d sw_c399 sw_h399 (87, [r0, vi x1, vi x2, vi x3, vi x4, vi x5], [vi 0], h, kc, ks) Q)   : wr P d sw_c399 sw_h399 (86, [r0, vi x1, vi x2, vi x3, vi x4, vi x5], [], h, kc, ks) Q := by
  refine w_c32 rfl (by decide) 0 (by decide) ?_
  exact k

theorem k399_87 {P : s_P} {d : Nat} {Q : s_O → Prop} {h : s_H} {kc ks : Nat} {r0 : Term} {x1 x2 x3 x4 x5 s0 : Int}  (k : wr P d sw_c399 sw_h399 (29, [r0, vi x1, vi x2, vi x3, vi s0, vi (x5 + 1)], [], h, kc, ks) Q)   : wr P d sw_c399 sw_h399 (87, [r0, vi x1, vi x2, vi x3, vi x4, vi x5], [vi s0], h, kc, ks) Q := by
  refine w_st (ls' := [r0, vi x1, vi x2, vi x3, vi s0, vi x5]) rfl (Or.inl ⟨by decide, rfl⟩) rfl ?_
  refine w_iinc (ls' := [r0, vi x1, vi x2, vi x3, vi s0, vi (x5 + 1)]) rfl rfl 1 (by decide) rfl ?_
  refine w_goto rfl ?_
  exact k

theorem k399_95 {P : s_P} {d : Nat} {Q : s_O → Prop} {h : s_H} {kc ks : Nat} {r0 : Term} {x1 x2 x3 x4 x5 : Int}  (k : Q (.inl (some (vi x4)), h, kc, ks))  (c1 : x4 = 0 ∨ x4 = 1 := by first | omega | assumption | (simp only [mk_len, List.length_map]; omega) | decide) : wr P d sw_c399 sw_h399 (95, [r0, vi x1, vi x2, vi x3, vi x4, vi x5], [], h, kc, ks) Q := by
  refine w_ld rfl rfl (Or.inl ⟨by decide, rfl⟩) ?_
  exact w_zret rfl c1 k

/-! 400: FormulaWorksModel.areSameTrees(II)Z -/
theorem k400_0 {P : s_P} {d : Nat} {Q : s_O → Prop} {h : s_H} {kc ks : Nat} {r0 : Term} {x1 x2 : Int} {t3 t4 : Term} {q2 : Nat} {f3 : List Term} {v5 : Term} {q7 : Nat} {a8 : List Int} (g4 : s_get h q2 = some (1, 11, f3)) (g9 : s_get h q7 = some (0, 0, a8.map vi)) (k1 : gi a8 x1 = gi a8 x2 → wr P d sw_c400 sw_h400 (17, [.index q2, vi x1, vi x2, t3, t4], [], h, kc, ks) Q) (k2 : ¬ gi a8 x1 = gi a8 x2 → wr P d sw_c400 sw_h400 (15, [.index q2, vi x1, vi x2, t3, t4], [], h, kc, ks) Q) (e_q2 : r0 = .index q2 := by first | rfl | assumption) (e_q7 : v5 = .index q7 := by first | rfl | assumption) (y1 : s_ty r0 = 3 := by first | rfl | assumption) (n6 : s_nth f3 79 = some v5 := by first | rfl | assumption) (c10 : x1 < a8.length := by first | omega | assumption | (simp only [mk_len, List.length_map]; omega) | decide) (c11 : 0 ≤ x1 := by first | omega | assumption | (simp only [mk_len, List.length_map]; omega) | decide) (c12 : In3 x1 := by first | omega | assumption | (simp only [mk_len, List.length_map]; omega) | decide) (c13 : x2 < a8.length := by first | omega | assumption | (simp only [mk_len, List.length_map]; omega) | decide) (c14 : 0 ≤ x2 := by first | omega | assumption | (simp only [mk_len, List.length_map]; omega) | decide) (c15 : In3 x2 := by first | omega | assumption | (simp only [mk_len, List.length_map]; omega) | decide) (c16 : In3 (gi a8 x1) := by first | omega | assumption | (simp only [mk_len, List.length_map]; omega) | decide) (c17 : In3 (gi a8 x2) := by first | omega | assumption | (simp only [mk_len, List.length_map]; omega) | decide) : wr P d sw_c400 sw_h400 (0, [r0, vi x1, vi x2, t3, t4], [], h, kc, ks) Q := by
  refine w_ld rfl rfl (Or.inr (Or.inr ⟨by decide, y1⟩)) ?_
  subst e_q2
  refine w_getf rfl g4 n6 ?_
  refine w_ld rfl rfl (Or.inl ⟨by decide, rfl⟩) ?_
  subst e_q7
  refine w_iald rfl g9 (Or.inl rfl) c12 c11 c10 ?_
  refine w_ld rfl rfl (Or.inr (Or.inr ⟨by decide, rfl⟩)) ?_
  refine w_getf rfl g4 n6 ?_
  refine w_ld rfl rfl (Or.inl ⟨by decide, rfl⟩) ?_
  refine w_iald rfl g9 (Or.inl rfl) c15 c14 c13 ?_
  exact w_if2 rfl c16 c17 k1 k2

theorem k400_15 {P : s_P} {d : Nat} {Q : s_O → Prop} {h : s_H} {kc ks : Nat} {r0 : Term} {x1 x2 : Int} {t3 t4 : Term}  (k : Q (.inl (some (vi 0)), h, kc, ks))   : wr P d sw_c400 sw_h400 (15, [r0, vi x1, vi x2, t3, t4], [], h, kc, ks) Q := by
  refine w_c32 rfl (by decide) 0 (by decide) ?_
  exact w_zret rfl (by decide) k

theorem k400_17 {P : s_P} {d : Nat} {Q : s_O → Prop} {h : s_H} {kc ks : Nat} {r0 : Term} {x1 x2 : Int} {t3 t4 : Term}  (k : wr P d sw_c400 sw_h400 (22, [r0, vi x1, vi x2, vi 1, vi 0], [], h, kc, ks) Q)   : wr P d sw_c400 sw_h400 (17, [r0, vi x1, vi x2, t3, t4], [], h, kc, ks) Q := by
  refine w_c32 rfl (by decide) 1 (by decide) ?_
  refine w_st (ls' := [r0, vi x1, vi x2, vi 1, t4]) rfl (Or.inl ⟨by decide, rfl⟩) rfl ?_
  refine w_c32 rfl (by decide) 0 (by decide) ?_
  refine w_st (ls' := [r0, vi x1, vi x2, vi 1, vi 0]) rfl (Or.inl ⟨by decide, rfl⟩) rfl ?_
  exact k

theorem k400_22 {P : s_P} {d : Nat} {Q : s_O → Prop} {h : s_H} {kc ks : Nat} {r0 : Term} {x1 x2 x3 x4 : Int} {q2 : Nat} {f3 : List Term} {v5 : Term} {q7 : Nat} {a8 : List Int} (g4 : s_get h q2 = some (1, 11, f3)) (g9 : s_get h q7 = some (0, 0, a8.map vi)) (k1 : gi a8 x1 ≤ x4 → wr P d sw_c400 sw_h400 (107, [.index q2, vi x1, vi x2, vi x3, vi x4], [], h, kc, ks) Q) (k2 : ¬ gi a8 x1 ≤ x4 → wr P d sw_c400 sw_h400 (33, [.index q2, vi x1, vi x2, vi x3, vi x4], [], h, kc, ks) Q) (e_q2 : r0 = .index q2 := by first | rfl | assumption) (e_q7 : v5 = .index q7 := by first | rfl | assumption) (y1 : s_ty r0 = 3 := by first | rfl | assumption) (n6 : s_nth f3 79 = some v5 := by first | rfl | assumption) (c10 : x1 < a8.length := by first | omega | assumption | (simp only [mk_len, List.length_map]; omega) | decide) (c11 : 0 ≤ x1 := by first | omega | assumption | (simp only [mk_len, List.length_map]; omega) | decide) (c12 : In3 x1 := by first | omega | assumption | (simp only [mk_len, List.length_map]; omega) | decide) (c13 : In3 x4 := by first | omega | assumption | (simp only [mk_len, List.length_map]; omega) | decide) (c14 : In3 (gi a8 x1) := by first | omega | assumption | (simp only [mk_len, List.length_map]; omega) | decide) : wr P d sw_c400 sw_h400 (22, [r0, vi x1, vi x2, vi x3, vi x4], [], h, kc, ks) Q := by
  refine w_ld rfl rfl (Or.inl ⟨by decide, rfl⟩) ?_
  refine w_ld rfl rfl (Or.inr (Or.inr ⟨by decide, y1⟩)) ?_
  subst e_q2
  refine w_getf rfl g4 n6 ?_
  refine w_ld rfl rfl (Or.inl ⟨by decide, rfl⟩) ?_
  subst e_q7
  refine w_iald rfl g9 (Or.inl rfl) c12 c11 c10 ?_
  exact w_if2 rfl c13 c14 k1 k2

theorem k400_33 {P : s_P} {d : Nat} {Q : s_O → Prop} {h : s_H} {kc ks : Nat} {r0 : Term} {x1 x2 x3 x4 : Int}  (k1 : x3 = 0 → wr P d sw_c400 sw_h400 (99, [r0, vi x1, vi x2, vi x3, vi x4], [], h, kc, ks) Q) (k2 : ¬ x3 = 0 → wr P d sw_c400 sw_h400 (37, [r0, vi x1, vi x2, vi x3, vi x4], [], h, kc, ks) Q)  (c1 : In3 x3 := by first | omega | assumption | (simp only [mk_len, List.length_map]; omega) | decide) : wr P d sw_c400 sw_h400 (33, [r0, vi x1, vi x2, vi x3, vi x4], [], h, kc, ks) Q := by
  refine w_ld rfl rfl (Or.inl ⟨by decide, rfl⟩) ?_
  exact w_if1 rfl c1 k1 k2

theorem k400_37 {P : s_P} {d : Nat} {Q : s_O → Prop} {h : s_H} {kc ks : Nat} {r0 : Term} {x1 x2 x3 x4 : Int} {q2 : Nat} {f3 : List Term} {v5 : Term} {q7 : Nat} {a8 : List Int} (g4 : s_get h q2 = some (1, 11, f3)) (g9 : s_get h q7 = some (0, 0, a8.map vi)) (k1 : gi a8 ((200 * x1) + x4) ≠ gi a8 ((200 * x2) + x4) → wr P d sw_c400 sw_h400 (99, [.index q2, vi x1, vi x2, vi x3, vi x4], [], h, kc, ks) Q) (k2 : ¬ gi a8 ((200 * x1) + x4) ≠ gi a8 ((200 * x2) + x4) → wr P d sw_c400 sw_h400 (66, [.index q2, vi x1, vi x2, vi x3, vi x4], [], h, kc, ks) Q) (e_q2 : r0 = .index q2 := by first | rfl | assumption) (e_q7 : v5 = .index q7 := by first | rfl | assumption) (y1 : s_ty r0 = 3 := by first | rfl | assumption) (n6 : s_nth f3 80 = some v5 := by first | rfl | assumption) (c10 : (200 * x1) + x4 < a8.length := by first | omega | assumption | (simp only [mk_len, List.length_map]; omega) | decide) (c11 : 0 ≤ (200 * x1) + x4 := by first | omega | assumption | (simp only [mk_len, List.length_map]; omega) | decide) (c12 : In3 ((200 * x1) + x4) := by first | omega | assumption | (simp only [mk_len, List.length_map]; omega) | decide) (c13 : (200 * x2) + x4 < a8.length := by first | omega | assumption | (simp only [mk_len, List.length_map]; omega) | decide) (c14 : 0 ≤ (200 * x2) + x4 := by first | omega | assumption | (simp only [mk_len, List.length_map]; omega) | decide) (c15 : In3 ((200 * x2) + x4) := by first | omega | assumption | (simp only [mk_len, List.length_map]; omega) | decide) (c16 : In3 (gi a8 ((200 * x1) + x4)) := by first | omega | assumption | (simp only [mk_len, List.length_map]; omega) | decide) (c17 : In3 (gi a8 ((200 * x2) + x4)) := by first | omega | assumption | (simp only [mk_len, List.length_map]; omega) | decide) : wr P d sw_c400 sw_h400 (37, [r0, vi x1, vi x2, vi x3, vi x4], [], h, kc, ks) Q := by
  refine w_ld rfl rfl (Or.inr (Or.inr ⟨by decide, y1⟩)) ?_
  subst e_q2
  refine w_getf rfl g4 n6 ?_
  refine w_c32 rfl (by decide) 200 (by decide) ?_
  refine w_ld rfl rfl (Or.inl ⟨by decide, rfl⟩) ?_
  refine w_imul rfl ?_
  refine w_ld rfl rfl (Or.inl ⟨by decide, rfl⟩) ?_
  refine w_iadd rfl ?_
  subst e_q7
  refine w_iald rfl g9 (Or.inl rfl) c12 c11 c10 ?_
  refine w_ld rfl rfl (Or.inr (Or.inr ⟨by decide, rfl⟩)) ?_
  refine w_getf rfl g4 n6 ?_
  refine w_c32 rfl (by decide) 200 (by decide) ?_
  refine w_ld rfl rfl (Or.inl ⟨by decide, rfl⟩) ?_
  refine w_imul rfl ?_
  refine w_ld rfl rfl (Or.inl ⟨by decide, rfl⟩) ?_
  refine w_iadd rfl ?_
  refine w_iald rfl g9 (Or.inl rfl) c15 c14 c13 ?_
  exact w_if2 rfl c16 c17 k1 k2

theorem k400_66 {P : s_P} {d : Nat} {Q : s_O → Prop} {h : s_H} {kc ks : Nat} {r0 : Term} {x1 x2 x3 x4 : Int} {q2 : Nat} {f3 : List Term} {v5 : Term} {q7 : Nat} {a8 : List Int} (g4 : s_get h q2 = some (1, 11, f3)) (g9 : s_get h q7 = some (0, 0, a8.map vi)) (k1 : gi a8 ((200 * x1) + x4) ≠ gi a8 ((200 * x2) + x4) → wr P d sw_c400 sw_h400 (99, [.index q2, vi x1, vi x2, vi x3, vi x4], [], h, kc, ks) Q) (k2 : ¬ gi a8 ((200 * x1) + x4) ≠ gi a8 ((200 * x2) + x4) → wr P d sw_c400 sw_h400 (95, [.index q2, vi x1, vi x2, vi x3, vi x4], [], h, kc, ks) Q) (e_q2 : r0 = .index q2 := by first | rfl | assumption) (e_q7 : v5 = .index q7 := by first | rfl | assumption) (y1 : s_ty r0 = 3 := by first | rfl | assumption) (n6 : s_nth f3 81 = some v5 := by first | rfl | assumption) (c10 : (200 * x1) + x4 < a8.length := by first | omega | assumption | (simp only [mk_len, List.length_map]; omega) | decide) (c11 : 0 ≤ (200 * x1) + x4 := by first | omega | assumption | (simp only [mk_len, List.length_map]; omega) | decide) (c12 : In3 ((200 * x1) + x4) := by first | omega | assumption | (simp only [mk_len, List.length_map]; omega) | decide) (c13 : (200 * x2) + x4 < a8.length := by first | omega | assumption | (simp only [mk_len, List.length_map]; omega) | decide) (c14 : 0 ≤ (200 * x2) + x4 := by first | omega | assumption | (simp only [mk_len, List.length_map]; omega) | decide) (c15 : In3 ((200 * x2) + x4) := by first | omega | assumption | (simp only [mk_len, List.length_map]; omega) | decide) (c16 : In3 (gi a8 ((200 * x1) + x4)) := by first | omega | assumption | (simp only [mk_len, List.length_map]; omega) | decide) (c17 : In3 (gi a8 ((200 * x2) + x4)) := by first | omega | assumption | (simp only [mk_len, List.length_map]; omega) | decide) : wr P d sw_c400 sw_h400 (66, [r0, vi x1, vi x2, vi x3, vi x4], [], h, kc, ks) Q := by
  refine w_ld rfl rfl (Or.inr (Or.inr ⟨by decide, y1⟩)) ?_
  subst e_q2
  refine w_getf rfl g4 n6 ?_
  refine w_c32 rfl (by decide) 200 (by decide) ?_
  refine w_ld rfl rfl (Or.inl ⟨by decide, rfl⟩) ?_
  refine w_imul rfl ?_
  refine w_ld rfl rfl (Or.inl ⟨by decide, rfl⟩) ?_
  refine w_iadd rfl ?_
  subst e_q7
  refine w_iald rfl g9 (Or.inl rfl) c12 c11 c10 ?_
  refine w_ld rfl rfl (Or.inr (Or.inr ⟨by decide, rfl⟩)) ?_
  refine w_getf rfl g4 n6 ?_
  refine w_c32 rfl (by decide) 200 (by decide) ?_
  refine w_ld rfl rfl (Or.inl ⟨by decide, rfl⟩) ?_
  refine w_imul rfl ?_
  refine w_ld rfl rfl (Or.inl ⟨by decide, rfl⟩) ?_
  refine w_iadd rfl ?_
  refine w_iald rfl g9 (Or.inl rfl) c15 c14 c13 ?_
  exact w_if2 rfl c16 c17 k1 k2

theorem k400_95 {P : s_P} {d : Nat} {Q : s_O → Prop} {h : s_H} {kc ks : Nat} {r0 : Term} {x1 x2 x3 x4 : Int}  (k : wr P d sw_c400 sw_h400 (100, [r0, vi x1, vi x2, vi x3, vi x4], [vi 1], h, kc, ks) Q)   : wr P d sw_c400 sw_h400 (95, [r0, vi x1, vi x2, vi x3, vi x4], [], h, kc, ks) Q := by
  refine w_c32 rfl (by decide) 1 (by decide) ?_
  refine w_goto rfl ?_
  exact k

theorem k400_99 {P : s_P} {d : Nat} {Q : s_O → Prop} {h : s_H} {kc ks : Nat} {r0 : Term} {x1 x2 x3 x4 : Int}  (k : wr P d sw_c400 sw_h400 (100, [r0, vi x1, vi x2, vi x3, vi x4], [vi 0], h, kc, ks) Q)   : wr P d sw_c400 sw_h400 (99, [r0, vi x1, vi x2, vi x3, vi x4], [], h, kc, ks) Q := by
  refine w_c32 rfl (by decide) 0 (by decide) ?_
  exact k

theorem k400_100 {P : s_P} {d : Nat} {Q : s_O → Prop} {h : s_H} {kc ks : Nat} {r0 : Term} {x1 x2 x3 x4 s0 : Int}  (k : wr P d sw_c400 sw_h400 (22, [r0, vi x1, vi x2, vi s0, vi (x4 + 1)], [], h, kc, ks) Q)   : wr P d sw_c400 sw_h400 (100, [r0, vi x1, vi x2, vi x3, vi x4], [vi s0], h, kc, ks) Q := by
  refine w_st (ls' := [r0, vi x1, vi x2, vi s0, vi x4]) rfl (Or.inl ⟨by decide, rfl⟩) rfl ?_
  refine w_iinc (ls' := [r0, vi x1, vi x2, vi s0, vi (x4 + 1)]) rfl rfl 1 (by decide) rfl ?_
  refine w_goto rfl ?_
  exact k

theorem k400_107 {P : s_P} {d : Nat} {Q : s_O → Prop} {h : s_H} {kc ks : Nat} {r0 : Term} {x1 x2 x3 x4 : Int}  (k : Q (.inl (some (vi x3)), h, kc, ks))  (c1 : x3 = 0 ∨ x3 = 1 := by first | omega | assumption | (simp only [mk_len, List.length_map]; omega) | decide) : wr P d sw_c400 sw_h400 (107, [r0, vi x1, vi x2, vi x3, vi x4], [], h, kc, ks) Q := by
  refine w_ld rfl rfl (Or.inl ⟨by decide, rfl⟩) ?_
  exact w_zret rfl c1 k

/-! 401: FormulaWorksModel.areTwo(IIZ)Z -/
theorem k401_0 {P : s_P} {d : Nat} {Q : s_O → Prop} {h : s_H} {kc ks : Nat} {r0 : Term} {x1 x2 x3 : Int} {q2 : Nat} {f3 : List Term} (g4 : s_get h q2 = some (1, 11, f3)) (k : wm P d 492 [.index q2, vi x1] h (wq P d sw_c401 sw_h401 6 [.index q2, vi x1, vi x2, vi x3] [.index q2] kc ks Q)) (e_q2 : r0 = .index q2 := by first | rfl | assumption) (y1 : s_ty r0 = 3 := by first | rfl | assumption)  : wr P d sw_c401 sw_h401 (0, [r0, vi x1, vi x2, vi x3], [], h, kc, ks) Q := by
  refine w_ld rfl rfl (Or.inr (Or.inr ⟨by decide, y1⟩)) ?_
  refine w_ld rfl rfl (Or.inr (Or.inr ⟨by decide, y1⟩)) ?_
  refine w_ld rfl rfl (Or.inl ⟨by decide, rfl⟩) ?_
  subst e_q2
  exact w_cv rfl [.index q2, vi x1] [.index q2] rfl rfl (s_wt_4 rfl) rfl g4 k

theorem k401_6 {P : s_P} {d : Nat} {Q : s_O → Prop} {h : s_H} {kc ks : Nat} {r0 : Term} {x1 x2 x3 : Int} {s0 : Term} {s1 : Int}  (k1 : s1 = 0 → wr P d sw_c401 sw_h401 (17, [r0, vi x1, vi x2, vi x3], [s0], h, kc, ks) Q) (k2 : ¬ s1 = 0 → wr P d sw_c401 sw_h401 (9, [r0, vi x1, vi x2, vi x3], [s0], h, kc, ks) Q)  (c1 : In3 s1 := by first | omega | assumption | (simp only [mk_len, List.length_map]; omega) | decide) : wr P d sw_c401 sw_h401 (6, [r0, vi x1, vi x2, vi x3], [vi s1, s0], h, kc, ks) Q := by
  exact w_if1 rfl c1 k1 k2

theorem k401_9 {P : s_P} {d : Nat} {Q : s_O → Prop} {h : s_H} {kc ks : Nat} {r0 : Term} {x1 x2 x3 : Int} {s0 : Term} {q2 : Nat} {f3 : List Term} (g4 : s_get h q2 = some (1, 11, f3)) (k : wm P d 492 [.index q2, vi x2] h (wq P d sw_c401 sw_h401 14 [.index q2, vi x1, vi x2, vi x3] [s0] kc ks Q)) (e_q2 : r0 = .index q2 := by first | rfl | assumption) (y1 : s_ty r0 = 3 := by first | rfl | assumption)  : wr P d sw_c401 sw_h401 (9, [r0, vi x1, vi x2, vi x3], [s0], h, kc, ks) Q := by
  refine w_ld rfl rfl (Or.inr (Or.inr ⟨by decide, y1⟩)) ?_
  refine w_ld rfl rfl (Or.inl ⟨by decide, rfl⟩) ?_
  subst e_q2
  exact w_cv rfl [.index q2, vi x2] [s0] rfl rfl (s_wt_4 rfl) rfl g4 k

theorem k401_14 {P : s_P} {d : Nat} {Q : s_O → Prop} {h : s_H} {kc ks : Nat} {r0 : Term} {x1 x2 x3 : Int} {s0 : Term} {s1 : Int}  (k1 : s1 ≠ 0 → wr P d sw_c401 sw_h401 (21, [r0, vi x1, vi x2, vi x3], [s0], h, kc, ks) Q) (k2 : ¬ s1 ≠ 0 → wr P d sw_c401 sw_h401 (17, [r0, vi x1, vi x2, vi x3], [s0], h, kc, ks) Q)  (c1 : In3 s1 := by first | omega | assumption | (simp only [mk_len, List.length_map]; omega) | decide) : wr P d sw_c401 sw_h401 (14, [r0, vi x1, vi x2, vi x3], [vi s1, s0], h, kc, ks) Q := by
  exact w_if1 rfl c1 k1 k2

theorem k401_17 {P : s_P} {d : Nat} {Q : s_O → Prop} {h : s_H} {kc ks : Nat} {r0 : Term} {x1 x2 x3 : Int} {s0 : Term}  (k : wr P d sw_c401 sw_h401 (63, [r0, vi x1, vi x2, vi x3], [vi 1, s0], h, kc, ks) Q)   : wr P d sw_c401 sw_h401 (17, [r0, vi x1, vi x2, vi x3], [s0], h, kc, ks) Q := by
  refine w_c32 rfl (by decide) 1 (by decide) ?_
  refine w_goto rfl ?_
  exact k

theorem k401_21 {P : s_P} {d : Nat} {Q : s_O → Prop} {h : s_H} {kc ks : Nat} {r0 : Term} {x1 x2 x3 : Int} {s0 : Term} {q2 : Nat} {f3 : List Term} {v5 : Term} {q7 : Nat} {a8 : List Int} (g4 : s_get h q2 = some (1, 11, f3)) (g9 : s_get h q7 = some (0, 0, a8.map vi)) (k1 : gi a8 x1 ≠ gi a8 x2 → wr P d sw_c401 sw_h401 (58, [.index q2, vi x1, vi x2, vi x3], [s0], h, kc, ks) Q) (k2 : ¬ gi a8 x1 ≠ gi a8 x2 → wr P d sw_c401 sw_h401 (36, [.index q2, vi x1, vi x2, vi x3], [s0], h, kc, ks) Q) (e_q2 : r0 = .index q2 := by first | rfl | assumption) (e_q7 : v5 = .index q7 := by first | rfl | assumption) (y1 : s_ty r0 = 3 := by first | rfl | assumption) (n6 : s_nth f3 2 = some v5 := by first | rfl | assumption) (c10 : x1 < a8.length := by first | omega | assumption | (simp only [mk_len, List.length_map]; omega) | decide) (c11 : 0 ≤ x1 := by first | omega | assumption | (simp only [mk_len, List.length_map]; omega) | decide) (c12 : In3 x1 := by first | omega | assumption | (simp only [mk_len, List.length_map]; omega) | decide) (c13 : x2 < a8.length := by first | omega | assumption | (simp only [mk_len, List.length_map]; omega) | decide) (c14 : 0 ≤ x2 := by first | omega | assumption | (simp only [mk_len, List.length_map]; omega) | decide) (c15 : In3 x2 := by first | omega | assumption | (simp only [mk_len, List.length_map]; omega) | decide) (c16 : In3 (gi a8 x1) := by first | omega | assumption | (simp only [mk_len, List.length_map]; omega) | decide) (c17 : In3 (gi a8 x2) := by first | omega | assumption | (simp only [mk_len, List.length_map]; omega) | decide) : wr P d sw_c401 sw_h401 (21, [r0, vi x1, vi x2, vi x3], [s0], h, kc, ks) Q := by
  refine w_ld rfl rfl (Or.inr (Or.inr ⟨by decide, y1⟩)) ?_
  subst e_q2
  refine w_getf rfl g4 n6 ?_
  refine w_ld rfl rfl (Or.inl ⟨by decide, rfl⟩) ?_
  subst e_q7
  refine w_iald rfl g9 (Or.inl rfl) c12 c11 c10 ?_
  refine w_ld rfl rfl (Or.inr (Or.inr ⟨by decide, rfl⟩)) ?_
  refine w_getf rfl g4 n6 ?_
  refine w_ld rfl rfl (Or.inl ⟨by decide, rfl⟩) ?_
  refine w_iald rfl g9 (Or.inl rfl) c15 c14 c13 ?_
  exact w_if2 rfl c16 c17 k1 k2

theorem k401_36 {P : s_P} {d : Nat} {Q : s_O → Prop} {h : s_H} {kc ks : Nat} {r0 : Term} {x1 x2 x3 : Int} {s0 : Term} {q2 : Nat} {f3 : List Term} (g4 : s_get h q2 = some (1, 11, f3)) (k : wm P d 469 [.index q2, vi x1, vi 3] h (wq P d sw_c401 sw_h401 42 [.index q2, vi x1, vi x2, vi x3] [s0] kc ks Q)) (e_q2 : r0 = .index q2 := by first | rfl | assumption) (y1 : s_ty r0 = 3 := by first | rfl | assumption)  : wr P d sw_c401 sw_h401 (36, [r0, vi x1, vi x2, vi x3], [s0], h, kc, ks) Q := by
  refine w_ld rfl rfl (Or.inr (Or.inr ⟨by decide, y1⟩)) ?_
  refine w_ld rfl rfl (Or.inl ⟨by decide, rfl⟩) ?_
  refine w_c32 rfl (by decide) 3 (by decide) ?_
  subst e_q2
  exact w_cv rfl [.index q2, vi x1, vi 3] [s0] rfl rfl (s_wt_4 rfl) rfl g4 k

theorem k401_42 {P : s_P} {d : Nat} {Q : s_O → Prop} {h : s_H} {kc ks : Nat} {r0 : Term} {x1 x2 x3 : Int} {s0 : Term} {s1 : Int}  (k1 : s1 ≠ 0 → wr P d sw_c401 sw_h401 (58, [r0, vi x1, vi x2, vi x3], [s0], h, kc, ks) Q) (k2 : ¬ s1 ≠ 0 → wr P d sw_c401 sw_h401 (45, [r0, vi x1, vi x2, vi x3], [s0], h, kc, ks) Q)  (c1 : In3 s1 := by first | omega | assumption | (simp only [mk_len, List.length_map]; omega) | decide) : wr P d sw_c401 sw_h401 (42, [r0, vi x1, vi x2, vi x3], [vi s1, s0], h, kc, ks) Q := by
  exact w_if1 rfl c1 k1 k2

theorem k401_45 {P : s_P} {d : Nat} {Q : s_O → Prop} {h : s_H} {kc ks : Nat} {r0 : Term} {x1 x2 x3 : Int} {s0 : Term}  (k1 : x3 ≠ 0 → wr P d sw_c401 sw_h401 (62, [r0, vi x1, vi x2, vi x3], [s0], h, kc, ks) Q) (k2 : ¬ x3 ≠ 0 → wr P d sw_c401 sw_h401 (49, [r0, vi x1, vi x2, vi x3], [s0], h, kc, ks) Q)  (c1 : In3 x3 := by first | omega | assumption | (simp only [mk_len, List.length_map]; omega) | decide) : wr P d sw_c401 sw_h401 (45, [r0, vi x1, vi x2, vi x3], [s0], h, kc, ks) Q := by
  refine w_ld rfl rfl (Or.inl ⟨by decide, rfl⟩) ?_
  exact w_if1 rfl c1 k1 k2

theorem k401_49 {P : s_P} {d : Nat} {Q : s_O → Prop} {h : s_H} {kc ks : Nat} {r0 : Term} {x1 x2 x3 : Int} {s0 : Term} {q2 : Nat} {f3 : List Term} (g4 : s_get h q2 = some (1, 11, f3)) (k : wm P d 469 [.index q2, vi x1, vi 2] h (wq P d sw_c401 sw_h401 55 [.index q2, vi x1, vi x2, vi x3] [s0] kc ks Q)) (e_q2 : r0 = .index q2 := by first | rfl | assumption) (y1 : s_ty r0 = 3 := by first | rfl | assumption)  : wr P d sw_c401 sw_h401 (49, [r0, vi x1, vi x2, vi x3], [s0], h, kc, ks) Q := by
  refine w_ld rfl rfl (Or.inr (Or.inr ⟨by decide, y1⟩)) ?_
  refine w_ld rfl rfl (Or.inl ⟨by decide, rfl⟩) ?_
  refine w_c32 rfl (by decide) 2 (by decide) ?_
  subst e_q2
  exact w_cv rfl [.index q2, vi x1, vi 2] [s0] rfl rfl (s_wt_4 rfl) rfl g4 k

theorem k401_55 {P : s_P} {d : Nat} {Q : s_O → Prop} {h : s_H} {kc ks : Nat} {r0 : Term} {x1 x2 x3 : Int} {s0 : Term} {s1 : Int}  (k1 : s1 = 0 → wr P d sw_c401 sw_h401 (62, [r0, vi x1, vi x2, vi x3], [s0], h, kc, ks) Q) (k2 : ¬ s1 = 0 → wr P d sw_c401 sw_h401 (58, [r0, vi x1, vi x2, vi x3], [s0], h, kc, ks) Q)  (c1 : In3 s1 := by first | omega | assumption | (simp only [mk_len, List.length_map]; omega) | decide) : wr P d sw_c401 sw_h401 (55, [r0, vi x1, vi x2, vi x3], [vi s1, s0], h, kc, ks) Q := by
  exact w_if1 rfl c1 k1 k2

theorem k401_58 {P : s_P} {d : Nat} {Q : s_O → Prop} {h : s_H} {kc ks : Nat} {r0 : Term} {x1 x2 x3 : Int} {s0 : Term}  (k : wr P d sw_c401 sw_h401 (63, [r0, vi x1, vi x2, vi x3], [vi 2, s0], h, kc, ks) Q)   : wr P d sw_c401 sw_h401 (58, [r0, vi x1, vi x2, vi x3], [s0], h, kc, ks) Q := by
  refine w_c32 rfl (by decide) 2 (by decide) ?_
  refine w_goto rfl ?_
  exact k

theorem k401_62 {P : s_P} {d : Nat} {Q : s_O → Prop} {h : s_H} {kc ks : Nat} {r0 : Term} {x1 x2 x3 : Int} {s0 : Term}  (k : wr P d sw_c401 sw_h401 (63, [r0, vi x1, vi x2, vi x3], [vi 0, s0], h, kc, ks) Q)   : wr P d sw_c401 sw_h401 (62, [r0, vi x1, vi x2, vi x3], [s0], h, kc, ks) Q := by
  refine w_c32 rfl (by decide) 0 (by decide) ?_
  exact k

theorem k401_63 {P : s_P} {d : Nat} {Q : s_O → Prop} {h : s_H} {kc ks : Nat} {r0 : Term} {x1 x2 x3 : Int} {s0 : Term} {s1 : Int} {q1 : Nat} {f2 : List Term} {q7 : Nat} {f8 : List Term} {z10 : Int} (g3 : s_get h q1 = some (1, 11, f2)) (g9 : s_get (hp h q1 (1, 11, f2.set 0 (vi s1))) q7 = some (1, 11, f8)) (k1 : z10 ≤ 0 → wr P d sw_c401 sw_h401 (75, [.index q7, vi x1, vi x2, vi x3], [], (hp h q1 (1, 11, f2.set 0 (vi s1))), kc, ks) Q) (k2 : ¬ z10 ≤ 0 → wr P d sw_c401 sw_h401 (73, [.index q7, vi x1, vi x2, vi x3], [], (hp h q1 (1, 11, f2.set 0 (vi s1))), kc, ks) Q) (e_q1 : s0 = .index q1 := by first | rfl | assumption) (e_q7 : r0 = .index q7 := by first | rfl | assumption) (l4 : 0 < f2.length := by first | exact Nat.le_of_ble_eq_true rfl | omega | assumption) (y6 : s_ty r0 = 3 := by first | rfl | assumption) (n11 : s_nth f8 0 = some (vi z10) := by first | rfl | assumption) (c5 : 0 < q1 := by first | omega | assumption | (simp only [mk_len, List.length_map]; omega) | decide) (c12 : In3 z10 := by first | omega | assumption | (simp only [mk_len, List.length_map]; omega) | decide) : wr P d sw_c401 sw_h401 (63, [r0, vi x1, vi x2, vi x3], [vi s1, s0], h, kc, ks) Q := by
  subst e_q1
  refine w_putf rfl g3 (Nat.ble_eq_true_of_le c5) rfl (Nat.ble_eq_true_of_le l4) ?_
  refine w_ld rfl rfl (Or.inr (Or.inr ⟨by decide, y6⟩)) ?_
  subst e_q7
  refine w_getf rfl g9 n11 ?_
  exact w_if1 rfl c12 k1 k2

theorem k401_73 {P : s_P} {d : Nat} {Q : s_O → Prop} {h : s_H} {kc ks : Nat} {r0 : Term} {x1 x2 x3 : Int}  (k : Q (.inl (some (vi 0)), h, kc, ks))   : wr P d sw_c401 sw_h401 (73, [r0, vi x1, vi x2, vi x3], [], h, kc, ks) Q := by
  refine w_c32 rfl (by decide) 0 (by decide) ?_
  exact w_zret rfl (by decide) k

theorem k401_75 {P : s_P} {d : Nat} {Q : s_O → Prop} {h : s_H} {kc ks : Nat} {r0 : Term} {x1 x2 x3 : Int} {q2 : Nat} {f3 : List Term} {v5 v7 : Term} (g4 : s_get h q2 = some (1, 11, f3)) (k : wm P d 505 [.index q2, v5, v7, vi x1] h (wq P d sw_c401 sw_h401 88 [.index q2, vi x1, vi x2, vi x3] [] kc ks Q)) (e_q2 : r0 = .index q2 := by first | rfl | assumption) (y1 : s_ty r0 = 3 := by first | rfl | assumption) (n6 : s_nth f3 10 = some v5 := by first | rfl | assumption) (n8 : s_nth f3 11 = some v7 := by first | rfl | assumption)  : wr P d sw_c401 sw_h401 (75, [r0, vi x1, vi x2, vi x3], [], h, kc, ks) Q := by
  refine w_ld rfl rfl (Or.inr (Or.inr ⟨by decide, y1⟩)) ?_
  refine w_ld rfl rfl (Or.inr (Or.inr ⟨by decide, y1⟩)) ?_
  subst e_q2
  refine w_getf rfl g4 n6 ?_
  refine w_ld rfl rfl (Or.inr (Or.inr ⟨by decide, rfl⟩)) ?_
  refine w_getf rfl g4 n8 ?_
  refine w_ld rfl rfl (Or.inl ⟨by decide, rfl⟩) ?_
  exact w_cv rfl [.index q2, v5, v7, vi x1] [] rfl rfl (s_wt_4 rfl) rfl g4 k

theorem k401_88 {P : s_P} {d : Nat} {Q : s_O → Prop} {h : s_H} {kc ks : Nat} {r0 : Term} {x1 x2 x3 : Int} {q2 : Nat} {f3 : List Term} {v5 v7 : Term} (g4 : s_get h q2 = some (1, 11, f3)) (k : wm P d 505 [.index q2, v5, v7, vi x2] h (wq P d sw_c401 sw_h401 101 [.index q2, vi x1, vi x2, vi x3] [] kc ks Q)) (e_q2 : r0 = .index q2 := by first | rfl | assumption) (y1 : s_ty r0 = 3 := by first | rfl | assumption) (n6 : s_nth f3 12 = some v5 := by first | rfl | assumption) (n8 : s_nth f3 13 = some v7 := by first | rfl | assumption)  : wr P d sw_c401 sw_h401 (88, [r0, vi x1, vi x2, vi x3], [], h, kc, ks) Q := by
  refine w_ld rfl rfl (Or.inr (Or.inr ⟨by decide, y1⟩)) ?_
  refine w_ld rfl rfl (Or.inr (Or.inr ⟨by decide, y1⟩)) ?_
  subst e_q2
  refine w_getf rfl g4 n6 ?_
  refine w_ld rfl rfl (Or.inr (Or.inr ⟨by decide, rfl⟩)) ?_
  refine w_getf rfl g4 n8 ?_
  refine w_ld rfl rfl (Or.inl ⟨by decide, rfl⟩) ?_
  exact w_cv rfl [.index q2, v5, v7, vi x2] [] rfl rfl (s_wt_4 rfl) rfl g4 k

theorem k401_101 {P : s_P} {d : Nat} {Q : s_O → Prop} {h : s_H} {kc ks : Nat} {r0 : Term} {x1 x2 x3 : Int}  (k : Q (.inl (some (vi 1)), h, kc, ks))   : wr P d sw_c401 sw_h401 (101, [r0, vi x1, vi x2, vi x3], [], h, kc, ks) Q := by
  refine w_c32 rfl (by decide) 1 (by decide) ?_
  exact w_zret rfl (by decide) k

/-! 402: FormulaWorksModel.areWhole(II)Z -/
theorem k402_0 {P : s_P} {d : Nat} {Q : s_O → Prop} {h : s_H} {kc ks : Nat} {r0 : Term} {x1 x2 : Int} {q2 : Nat} {f3 : List Term} (g4 : s_get h q2 = some (1, 11, f3)) (k : wm P d 492 [.index q2, vi x1] h (wq P d sw_c402 sw_h402 6 [.index q2, vi x1, vi x2] [.index q2] kc ks Q)) (e_q2 : r0 = .index q2 := by first | rfl | assumption) (y1 : s_ty r0 = 3 := by first | rfl | assumption)  : wr P d sw_c402 sw_h402 (0, [r0, vi x1, vi x2], [], h, kc, ks) Q := by
  refine w_ld rfl rfl (Or.inr (Or.inr ⟨by decide, y1⟩)) ?_
  refine w_ld rfl rfl (Or.inr (Or.inr ⟨by decide, y1⟩)) ?_
  refine w_ld rfl rfl (Or.inl ⟨by decide, rfl⟩) ?_
  subst e_q2
  exact w_cv rfl [.index q2, vi x1] [.index q2] rfl rfl (s_wt_4 rfl) rfl g4 k

theorem k402_6 {P : s_P} {d : Nat} {Q : s_O → Prop} {h : s_H} {kc ks : Nat} {r0 : Term} {x1 x2 : Int} {s0 : Term} {s1 : Int}  (k1 : s1 = 0 → wr P d sw_c402 sw_h402 (17, [r0, vi x1, vi x2], [s0], h, kc, ks) Q) (k2 : ¬ s1 = 0 → wr P d sw_c402 sw_h402 (9, [r0, vi x1, vi x2], [s0], h, kc, ks) Q)  (c1 : In3 s1 := by first | omega | assumption | (simp only [mk_len, List.length_map]; omega) | decide) : wr P d sw_c402 sw_h402 (6, [r0, vi x1, vi x2], [vi s1, s0], h, kc, ks) Q := by
  exact w_if1 rfl c1 k1 k2

theorem k402_9 {P : s_P} {d : Nat} {Q : s_O → Prop} {h : s_H} {kc ks : Nat} {r0 : Term} {x1 x2 : Int} {s0 : Term} {q2 : Nat} {f3 : List Term} (g4 : s_get h q2 = some (1, 11, f3)) (k : wm P d 492 [.index q2, vi x2] h (wq P d sw_c402 sw_h402 14 [.index q2, vi x1, vi x2] [s0] kc ks Q)) (e_q2 : r0 = .index q2 := by first | rfl | assumption) (y1 : s_ty r0 = 3 := by first | rfl | assumption)  : wr P d sw_c402 sw_h402 (9, [r0, vi x1, vi x2], [s0], h, kc, ks) Q := by
  refine w_ld rfl rfl (Or.inr (Or.inr ⟨by decide, y1⟩)) ?_
  refine w_ld rfl rfl (Or.inl ⟨by decide, rfl⟩) ?_
  subst e_q2
  exact w_cv rfl [.index q2, vi x2] [s0] rfl rfl (s_wt_4 rfl) rfl g4 k

theorem k402_14 {P : s_P} {d : Nat} {Q : s_O → Prop} {h : s_H} {kc ks : Nat} {r0 : Term} {x1 x2 : Int} {s0 : Term} {s1 : Int}  (k1 : s1 ≠ 0 → wr P d sw_c402 sw_h402 (21, [r0, vi x1, vi x2], [s0], h, kc, ks) Q) (k2 : ¬ s1 ≠ 0 → wr P d sw_c402 sw_h402 (17, [r0, vi x1, vi x2], [s0], h, kc, ks) Q)  (c1 : In3 s1 := by first | omega | assumption | (simp only [mk_len, List.length_map]; omega) | decide) : wr P d sw_c402 sw_h402 (14, [r0, vi x1, vi x2], [vi s1, s0], h, kc, ks) Q := by
  exact w_if1 rfl c1 k1 k2

theorem k402_17 {P : s_P} {d : Nat} {Q : s_O → Prop} {h : s_H} {kc ks : Nat} {r0 : Term} {x1 x2 : Int} {s0 : Term}  (k : wr P d sw_c402 sw_h402 (44, [r0, vi x1, vi x2], [vi 1, s0], h, kc, ks) Q)   : wr P d sw_c402 sw_h402 (17, [r0, vi x1, vi x2], [s0], h, kc, ks) Q := by
  refine w_c32 rfl (by decide) 1 (by decide) ?_
  refine w_goto rfl ?_
  exact k

theorem k402_21 {P : s_P} {d : Nat} {Q : s_O → Prop} {h : s_H} {kc ks : Nat} {r0 : Term} {x1 x2 : Int} {s0 : Term} {q2 : Nat} {f3 : List Term} (g4 : s_get h q2 = some (1, 11, f3)) (k : wm P d 469 [.index q2, vi x1, vi 0] h (wq P d sw_c402 sw_h402 27 [.index q2, vi x1, vi x2] [s0] kc ks Q)) (e_q2 : r0 = .index q2 := by first | rfl | assumption) (y1 : s_ty r0 = 3 := by first | rfl | assumption)  : wr P d sw_c402 sw_h402 (21, [r0, vi x1, vi x2], [s0], h, kc, ks) Q := by
  refine w_ld rfl rfl (Or.inr (Or.inr ⟨by decide, y1⟩)) ?_
  refine w_ld rfl rfl (Or.inl ⟨by decide, rfl⟩) ?_
  refine w_c32 rfl (by decide) 0 (by decide) ?_
  subst e_q2
  exact w_cv rfl [.index q2, vi x1, vi 0] [s0] rfl rfl (s_wt_4 rfl) rfl g4 k

theorem k402_27 {P : s_P} {d : Nat} {Q : s_O → Prop} {h : s_H} {kc ks : Nat} {r0 : Term} {x1 x2 : Int} {s0 : Term} {s1 : Int}  (k1 : s1 = 0 → wr P d sw_c402 sw_h402 (39, [r0, vi x1, vi x2], [s0], h, kc, ks) Q) (k2 : ¬ s1 = 0 → wr P d sw_c402 sw_h402 (30, [r0, vi x1, vi x2], [s0], h, kc, ks) Q)  (c1 : In3 s1 := by first | omega | assumption | (simp only [mk_len, List.length_map]; omega) | decide) : wr P d sw_c402 sw_h402 (27, [r0, vi x1, vi x2], [vi s1, s0], h, kc, ks) Q := by
  exact w_if1 rfl c1 k1 k2

theorem k402_30 {P : s_P} {d : Nat} {Q : s_O → Prop} {h : s_H} {kc ks : Nat} {r0 : Term} {x1 x2 : Int} {s0 : Term} {q2 : Nat} {f3 : List Term} (g4 : s_get h q2 = some (1, 11, f3)) (k : wm P d 469 [.index q2, vi x2, vi 0] h (wq P d sw_c402 sw_h402 36 [.index q2, vi x1, vi x2] [s0] kc ks Q)) (e_q2 : r0 = .index q2 := by first | rfl | assumption) (y1 : s_ty r0 = 3 := by first | rfl | assumption)  : wr P d sw_c402 sw_h402 (30, [r0, vi x1, vi x2], [s0], h, kc, ks) Q := by
  refine w_ld rfl rfl (Or.inr (Or.inr ⟨by decide, y1⟩)) ?_
  refine w_ld rfl rfl (Or.inl ⟨by decide, rfl⟩) ?_
  refine w_c32 rfl (by decide) 0 (by decide) ?_
  subst e_q2
  exact w_cv rfl [.index q2, vi x2, vi 0] [s0] rfl rfl (s_wt_4 rfl) rfl g4 k

theorem k402_36 {P : s_P} {d : Nat} {Q : s_O → Prop} {h : s_H} {kc ks : Nat} {r0 : Term} {x1 x2 : Int} {s0 : Term} {s1 : Int}  (k1 : s1 ≠ 0 → wr P d sw_c402 sw_h402 (43, [r0, vi x1, vi x2], [s0], h, kc, ks) Q) (k2 : ¬ s1 ≠ 0 → wr P d sw_c402 sw_h402 (39, [r0, vi x1, vi x2], [s0], h, kc, ks) Q)  (c1 : In3 s1 := by first | omega | assumption | (simp only [mk_len, List.length_map]; omega) | decide) : wr P d sw_c402 sw_h402 (36, [r0, vi x1, vi x2], [vi s1, s0], h, kc, ks) Q := by
  exact w_if1 rfl c1 k1 k2

theorem k402_39 {P : s_P} {d : Nat} {Q : s_O → Prop} {h : s_H} {kc ks : Nat} {r0 : Term} {x1 x2 : Int} {s0 : Term}  (k : wr P d sw_c402 sw_h402 (44, [r0, vi x1, vi x2], [vi 2, s0], h, kc, ks) Q)   : wr P d sw_c402 sw_h402 (39, [r0, vi x1, vi x2], [s0], h, kc, ks) Q := by
  refine w_c32 rfl (by decide) 2 (by decide) ?_
  refine w_goto rfl ?_
  exact k

theorem k402_43 {P : s_P} {d : Nat} {Q : s_O → Prop} {h : s_H} {kc ks : Nat} {r0 : Term} {x1 x2 : Int} {s0 : Term}  (k : wr P d sw_c402 sw_h402 (44, [r0, vi x1, vi x2], [vi 0, s0], h, kc, ks) Q)   : wr P d sw_c402 sw_h402 (43, [r0, vi x1, vi x2], [s0], h, kc, ks) Q := by
  refine w_c32 rfl (by decide) 0 (by decide) ?_
  exact k

theorem k402_44 {P : s_P} {d : Nat} {Q : s_O → Prop} {h : s_H} {kc ks : Nat} {r0 : Term} {x1 x2 : Int} {s0 : Term} {s1 : Int} {q1 : Nat} {f2 : List Term} {q7 : Nat} {f8 : List Term} {z10 : Int} (g3 : s_get h q1 = some (1, 11, f2)) (g9 : s_get (hp h q1 (1, 11, f2.set 0 (vi s1))) q7 = some (1, 11, f8)) (k1 : z10 ≤ 0 → wr P d sw_c402 sw_h402 (56, [.index q7, vi x1, vi x2], [], (hp h q1 (1, 11, f2.set 0 (vi s1))), kc, ks) Q) (k2 : ¬ z10 ≤ 0 → wr P d sw_c402 sw_h402 (54, [.index q7, vi x1, vi x2], [], (hp h q1 (1, 11, f2.set 0 (vi s1))), kc, ks) Q) (e_q1 : s0 = .index q1 := by first | rfl | assumption) (e_q7 : r0 = .index q7 := by first | rfl | assumption) (l4 : 0 < f2.length := by first | exact Nat.le_of_ble_eq_true rfl | omega | assumption) (y6 : s_ty r0 = 3 := by first | rfl | assumption) (n11 : s_nth f8 0 = some (vi z10) := by first | rfl | assumption) (c5 : 0 < q1 := by first | omega | assumption | (simp only [mk_len, List.length_map]; omega) | decide) (c12 : In3 z10 := by first | omega | assumption | (simp only [mk_len, List.length_map]; omega) | decide) : wr P d sw_c402 sw_h402 (44, [r0, vi x1, vi x2], [vi s1, s0], h, kc, ks) Q := by
  subst e_q1
  refine w_putf rfl g3 (Nat.ble_eq_true_of_le c5) rfl (Nat.ble_eq_true_of_le l4) ?_
  refine w_ld rfl rfl (Or.inr (Or.inr ⟨by decide, y6⟩)) ?_
  subst e_q7
  refine w_getf rfl g9 n11 ?_
  exact w_if1 rfl c12 k1 k2

theorem k402_54 {P : s_P} {d : Nat} {Q : s_O → Prop} {h : s_H} {kc ks : Nat} {r0 : Term} {x1 x2 : Int}  (k : Q (.inl (some (vi 0)), h, kc, ks))   : wr P d sw_c402 sw_h402 (54, [r0, vi x1, vi x2], [], h, kc, ks) Q := by
  refine w_c32 rfl (by decide) 0 (by decide) ?_
  exact w_zret rfl (by decide) k

theorem k402_56 {P : s_P} {d : Nat} {Q : s_O → Prop} {h : s_H} {kc ks : Nat} {r0 : Term} {x1 x2 : Int} {q2 : Nat} {f3 : List Term} {v5 v7 : Term} (g4 : s_get h q2 = some (1, 11, f3)) (k : wm P d 505 [.index q2, v5, v7, vi x1] h (wq P d sw_c402 sw_h402 69 [.index q2, vi x1, vi x2] [] kc ks Q)) (e_q2 : r0 = .index q2 := by first | rfl | assumption) (y1 : s_ty r0 = 3 := by first | rfl | assumption) (n6 : s_nth f3 10 = some v5 := by first | rfl | assumption) (n8 : s_nth f3 11 = some v7 := by first | rfl | assumption)  : wr P d sw_c402 sw_h402 (56, [r0, vi x1, vi x2], [], h, kc, ks) Q := by
  refine w_ld rfl rfl (Or.inr (Or.inr ⟨by decide, y1⟩)) ?_
  refine w_ld rfl rfl (Or.inr (Or.inr ⟨by decide, y1⟩)) ?_
  subst e_q2
  refine w_getf rfl g4 n6 ?_
  refine w_ld rfl rfl (Or.inr (Or.inr ⟨by decide, rfl⟩)) ?_
  refine w_getf rfl g4 n8 ?_
  refine w_ld rfl rfl (Or.inl ⟨by decide, rfl⟩) ?_
  exact w_cv rfl [.index q2, v5, v7, vi x1] [] rfl rfl (s_wt_4 rfl) rfl g4 k

theorem k402_69 {P : s_P} {d : Nat} {Q : s_O → Prop} {h : s_H} {kc ks : Nat} {r0 : Term} {x1 x2 : Int} {q2 : Nat} {f3 : List Term} {v5 v7 : Term} (g4 : s_get h q2 = some (1, 11, f3)) (k : wm P d 505 [.index q2, v5, v7, vi x2] h (wq P d sw_c402 sw_h402 82 [.index q2, vi x1, vi x2] [] kc ks Q)) (e_q2 : r0 = .index q2 := by first | rfl | assumption) (y1 : s_ty r0 = 3 := by first | rfl | assumption) (n6 : s_nth f3 12 = some v5 := by first | rfl | assumption) (n8 : s_nth f3 13 = some v7 := by first | rfl | assumption)  : wr P d sw_c402 sw_h402 (69, [r0, vi x1, vi x2], [], h, kc, ks) Q := by
  refine w_ld rfl rfl (Or.inr (Or.inr ⟨by decide, y1⟩)) ?_
  refine w_ld rfl rfl (Or.inr (Or.inr ⟨by decide, y1⟩)) ?_
  subst e_q2
  refine w_getf rfl g4 n6 ?_
  refine w_ld rfl rfl (Or.inr (Or.inr ⟨by decide, rfl⟩)) ?_
  refine w_getf rfl g4 n8 ?_
  refine w_ld rfl rfl (Or.inl ⟨by decide, rfl⟩) ?_
  exact w_cv rfl [.index q2, v5, v7, vi x2] [] rfl rfl (s_wt_4 rfl) rfl g4 k

theorem k402_82 {P : s_P} {d : Nat} {Q : s_O → Prop} {h : s_H} {kc ks : Nat} {r0 : Term} {x1 x2 : Int} {q2 : Nat} {f3 : List Term} {v5 : Term} (g4 : s_get h q2 = some (1, 11, f3)) (k : wm P d 483 [v5] h (wq P d sw_c402 sw_h402 90 [.index q2, vi x1, vi x2] [.index q2] kc ks Q)) (e_q2 : r0 = .index q2 := by first | rfl | assumption) (y1 : s_ty r0 = 3 := by first | rfl | assumption) (n6 : s_nth f3 11 = some v5 := by first | rfl | assumption)  : wr P d sw_c402 sw_h402 (82, [r0, vi x1, vi x2], [], h, kc, ks) Q := by
  refine w_ld rfl rfl (Or.inr (Or.inr ⟨by decide, y1⟩)) ?_
  refine w_ld rfl rfl (Or.inr (Or.inr ⟨by decide, y1⟩)) ?_
  subst e_q2
  refine w_getf rfl g4 n6 ?_
  exact w_cs rfl [v5] [.index q2] rfl rfl (s_wt_4 rfl) k

theorem k402_90 {P : s_P} {d : Nat} {Q : s_O → Prop} {h : s_H} {kc ks : Nat} {r0 : Term} {x1 x2 : Int} {s0 : Term} {s1 : Int}  (k1 : s1 = 0 → wr P d sw_c402 sw_h402 (107, [r0, vi x1, vi x2], [s0], h, kc, ks) Q) (k2 : ¬ s1 = 0 → wr P d sw_c402 sw_h402 (93, [r0, vi x1, vi x2], [s0], h, kc, ks) Q)  (c1 : In3 s1 := by first | omega | assumption | (simp only [mk_len, List.length_map]; omega) | decide) : wr P d sw_c402 sw_h402 (90, [r0, vi x1, vi x2], [vi s1, s0], h, kc, ks) Q := by
  exact w_if1 rfl c1 k1 k2

theorem k402_93 {P : s_P} {d : Nat} {Q : s_O → Prop} {h : s_H} {kc ks : Nat} {r0 : Term} {x1 x2 : Int} {s0 : Term} {q2 : Nat} {f3 : List Term} {v5 : Term} (g4 : s_get h q2 = some (1, 11, f3)) (k : wm P d 483 [v5] h (wq P d sw_c402 sw_h402 100 [.index q2, vi x1, vi x2] [s0] kc ks Q)) (e_q2 : r0 = .index q2 := by first | rfl | assumption) (y1 : s_ty r0 = 3 := by first | rfl | assumption) (n6 : s_nth f3 13 = some v5 := by first | rfl | assumption)  : wr P d sw_c402 sw_h402 (93, [r0, vi x1, vi x2], [s0], h, kc, ks) Q := by
  refine w_ld rfl rfl (Or.inr (Or.inr ⟨by decide, y1⟩)) ?_
  subst e_q2
  refine w_getf rfl g4 n6 ?_
  exact w_cs rfl [v5] [s0] rfl rfl (s_wt_4 rfl) k

theorem k402_100 {P : s_P} {d : Nat} {Q : s_O → Prop} {h : s_H} {kc ks : Nat} {r0 : Term} {x1 x2 : Int} {s0 : Term} {s1 : Int}  (k1 : s1 = 0 → wr P d sw_c402 sw_h402 (107, [r0, vi x1, vi x2], [s0], h, kc, ks) Q) (k2 : ¬ s1 = 0 → wr P d sw_c402 sw_h402 (103, [r0, vi x1, vi x2], [s0], h, kc, ks) Q)  (c1 : In3 s1 := by first | omega | assumption | (simp only [mk_len, List.length_map]; omega) | decide) : wr P d sw_c402 sw_h402 (100, [r0, vi x1, vi x2], [vi s1, s0], h, kc, ks) Q := by
  exact w_if1 rfl c1 k1 k2

theorem k402_103 {P : s_P} {d : Nat} {Q : s_O → Prop} {h : s_H} {kc ks : Nat} {r0 : Term} {x1 x2 : Int} {s0 : Term}  (k : wr P d sw_c402 sw_h402 (108, [r0, vi x1, vi x2], [vi 0, s0], h, kc, ks) Q)   : wr P d sw_c402 sw_h402 (103, [r0, vi x1, vi x2], [s0], h, kc, ks) Q := by
  refine w_c32 rfl (by decide) 0 (by decide) ?_
  refine w_goto rfl ?_
  exact k

theorem k402_107 {P : s_P} {d : Nat} {Q : s_O → Prop} {h : s_H} {kc ks : Nat} {r0 : Term} {x1 x2 : Int} {s0 : Term}  (k : wr P d sw_c402 sw_h402 (108, [r0, vi x1, vi x2], [vi 2, s0], h, kc, ks) Q)   : wr P d sw_c402 sw_h402 (107, [r0, vi x1, vi x2], [s0], h, kc, ks) Q := by
  refine w_c32 rfl (by decide) 2 (by decide) ?_
  exact k

theorem k402_108 {P : s_P} {d : Nat} {Q : s_O → Prop} {h : s_H} {kc ks : Nat} {r0 : Term} {x1 x2 : Int} {s0 : Term} {s1 : Int} {q1 : Nat} {f2 : List Term} {q7 : Nat} {f8 : List Term} {z10 : Int} (g3 : s_get h q1 = some (1, 11, f2)) (g9 : s_get (hp h q1 (1, 11, f2.set 0 (vi s1))) q7 = some (1, 11, f8)) (k1 : z10 ≠ 0 → wr P d sw_c402 sw_h402 (122, [.index q7, vi x1, vi x2], [], (hp h q1 (1, 11, f2.set 0 (vi s1))), kc, ks) Q) (k2 : ¬ z10 ≠ 0 → wr P d sw_c402 sw_h402 (118, [.index q7, vi x1, vi x2], [], (hp h q1 (1, 11, f2.set 0 (vi s1))), kc, ks) Q) (e_q1 : s0 = .index q1 := by first | rfl | assumption) (e_q7 : r0 = .index q7 := by first | rfl | assumption) (l4 : 0 < f2.length := by first | exact Nat.le_of_ble_eq_true rfl | omega | assumption) (y6 : s_ty r0 = 3 := by first | rfl | assumption) (n11 : s_nth f8 0 = some (vi z10) := by first | rfl | assumption) (c5 : 0 < q1 := by first | omega | assumption | (simp only [mk_len, List.length_map]; omega) | decide) (c12 : In3 z10 := by first | omega | assumption | (simp only [mk_len, List.length_map]; omega) | decide) : wr P d sw_c402 sw_h402 (108, [r0, vi x1, vi x2], [vi s1, s0], h, kc, ks) Q := by
  subst e_q1
  refine w_putf rfl g3 (Nat.ble_eq_true_of_le c5) rfl (Nat.ble_eq_true_of_le l4) ?_
  refine w_ld rfl rfl (Or.inr (Or.inr ⟨by decide, y6⟩)) ?_
  subst e_q7
  refine w_getf rfl g9 n11 ?_
  exact w_if1 rfl c12 k1 k2

theorem k402_118 {P : s_P} {d : Nat} {Q : s_O → Prop} {h : s_H} {kc ks : Nat} {r0 : Term} {x1 x2 : Int}  (k : wr P d sw_c402 sw_h402 (123, [r0, vi x1, vi x2], [vi 1], h, kc, ks) Q)   : wr P d sw_c402 sw_h402 (118, [r0, vi x1, vi x2], [], h, kc, ks) Q := by
  refine w_c32 rfl (by decide) 1 (by decide) ?_
  refine w_goto rfl ?_
  exact k

theorem k402_122 {P : s_P} {d : Nat} {Q : s_O → Prop} {h : s_H} {kc ks : Nat} {r0 : Term} {x1 x2 : Int}  (k : wr P d sw_c402 sw_h402 (123, [r0, vi x1, vi x2], [vi 0], h, kc, ks) Q)   : wr P d sw_c402 sw_h402 (122, [r0, vi x1, vi x2], [], h, kc, ks) Q := by
  refine w_c32 rfl (by decide) 0 (by decide) ?_
  exact k

theorem k402_123 {P : s_P} {d : Nat} {Q : s_O → Prop} {h : s_H} {kc ks : Nat} {r0 : Term} {x1 x2 s0 : Int}  (k : Q (.inl (some (vi s0)), h, kc, ks))  (c1 : s0 = 0 ∨ s0 = 1 := by first | omega | assumption | (simp only [mk_len, List.length_map]; omega) | decide) : wr P d sw_c402 sw_h402 (123, [r0, vi x1, vi x2], [vi s0], h, kc, ks) Q := by
  exact w_zret rfl c1 k

/-! 403: FormulaWorksModel.areWholeFor(III)Z -/
theorem k403_0 {P : s_P} {d : Nat} {Q : s_O → Prop} {h : s_H} {kc ks : Nat} {r0 : Term} {x1 x2 x3 : Int} {q2 : Nat} {f3 : List Term} (g4 : s_get h q2 = some (1, 11, f3)) (k : wm P d 402 [.index q2, vi x1, vi x2] h (wq P d sw_c403 sw_h403 6 [.index q2, vi x1, vi x2, vi x3] [] kc ks Q)) (e_q2 : r0 = .index q2 := by first | rfl | assumption) (y1 : s_ty r0 = 3 := by first | rfl | assumption)  : wr P d sw_c403 sw_h403 (0, [r0, vi x1, vi x2, vi x3], [], h, kc, ks) Q := by
  refine w_ld rfl rfl (Or.inr (Or.inr ⟨by decide, y1⟩)) ?_
  refine w_ld rfl rfl (Or.inl ⟨by decide, rfl⟩) ?_
  refine w_ld rfl rfl (Or.inl ⟨by decide, rfl⟩) ?_
  subst e_q2
  exact w_cv rfl [.index q2, vi x1, vi x2] [] rfl rfl (s_wt_4 rfl) rfl g4 k

theorem k403_6 {P : s_P} {d : Nat} {Q : s_O → Prop} {h : s_H} {kc ks : Nat} {r0 : Term} {x1 x2 x3 s0 : Int}  (k1 : s0 ≠ 0 → wr P d sw_c403 sw_h403 (11, [r0, vi x1, vi x2, vi x3], [], h, kc, ks) Q) (k2 : ¬ s0 ≠ 0 → wr P d sw_c403 sw_h403 (9, [r0, vi x1, vi x2, vi x3], [], h, kc, ks) Q)  (c1 : In3 s0 := by first | omega | assumption | (simp only [mk_len, List.length_map]; omega) | decide) : wr P d sw_c403 sw_h403 (6, [r0, vi x1, vi x2, vi x3], [vi s0], h, kc, ks) Q := by
  exact w_if1 rfl c1 k1 k2

theorem k403_9 {P : s_P} {d : Nat} {Q : s_O → Prop} {h : s_H} {kc ks : Nat} {r0 : Term} {x1 x2 x3 : Int}  (k : Q (.inl (some (vi 0)), h, kc, ks))   : wr P d sw_c403 sw_h403 (9, [r0, vi x1, vi x2, vi x3], [], h, kc, ks) Q := by
  refine w_c32 rfl (by decide) 0 (by decide) ?_
  exact w_zret rfl (by decide) k

theorem k403_11 {P : s_P} {d : Nat} {Q : s_O → Prop} {h : s_H} {kc ks : Nat} {r0 : Term} {x1 x2 x3 : Int}  (k : wm P d 464 [vl x3, vl 0, vl 1] h (wq P d sw_c403 sw_h403 19 [r0, vi x1, vi x2, vi x3] [r0] kc ks Q)) (y1 : s_ty r0 = 3 := by first | rfl | assumption) (c2 : In3 x3 := by first | omega | assumption | (simp only [mk_len, List.length_map]; omega) | decide) : wr P d sw_c403 sw_h403 (11, [r0, vi x1, vi x2, vi x3], [], h, kc, ks) Q := by
  refine w_ld rfl rfl (Or.inr (Or.inr ⟨by decide, y1⟩)) ?_
  refine w_ld rfl rfl (Or.inl ⟨by decide, rfl⟩) ?_
  refine w_i2l rfl c2 ?_
  refine w_c64 rfl (by decide) 0 (by decide) ?_
  refine w_c64 rfl (by decide) 1 (by decide) ?_
  exact w_cs rfl [vl x3, vl 0, vl 1] [r0] rfl rfl (s_wt_4 rfl) k

theorem k403_19 {P : s_P} {d : Nat} {Q : s_O → Prop} {h : s_H} {kc ks : Nat} {r0 : Term} {x1 x2 x3 : Int} {s0 : Term} {s1 : Int}  (k1 : s1 = 0 → wr P d sw_c403 sw_h403 (26, [r0, vi x1, vi x2, vi x3], [s0], h, kc, ks) Q) (k2 : ¬ s1 = 0 → wr P d sw_c403 sw_h403 (22, [r0, vi x1, vi x2, vi x3], [s0], h, kc, ks) Q)  (c1 : In3 s1 := by first | omega | assumption | (simp only [mk_len, List.length_map]; omega) | decide) : wr P d sw_c403 sw_h403 (19, [r0, vi x1, vi x2, vi x3], [vi s1, s0], h, kc, ks) Q := by
  exact w_if1 rfl c1 k1 k2

theorem k403_22 {P : s_P} {d : Nat} {Q : s_O → Prop} {h : s_H} {kc ks : Nat} {r0 : Term} {x1 x2 x3 : Int} {s0 : Term}  (k : wr P d sw_c403 sw_h403 (27, [r0, vi x1, vi x2, vi x3], [vi 0, s0], h, kc, ks) Q)   : wr P d sw_c403 sw_h403 (22, [r0, vi x1, vi x2, vi x3], [s0], h, kc, ks) Q := by
  refine w_c32 rfl (by decide) 0 (by decide) ?_
  refine w_goto rfl ?_
  exact k

theorem k403_26 {P : s_P} {d : Nat} {Q : s_O → Prop} {h : s_H} {kc ks : Nat} {r0 : Term} {x1 x2 x3 : Int} {s0 : Term}  (k : wr P d sw_c403 sw_h403 (27, [r0, vi x1, vi x2, vi x3], [vi 2, s0], h, kc, ks) Q)   : wr P d sw_c403 sw_h403 (26, [r0, vi x1, vi x2, vi x3], [s0], h, kc, ks) Q := by
  refine w_c32 rfl (by decide) 2 (by decide) ?_
  exact k

theorem k403_27 {P : s_P} {d : Nat} {Q : s_O → Prop} {h : s_H} {kc ks : Nat} {r0 : Term} {x1 x2 x3 : Int} {s0 : Term} {s1 : Int} {q1 : Nat} {f2 : List Term} {q7 : Nat} {f8 : List Term} {z10 : Int} (g3 : s_get h q1 = some (1, 11, f2)) (g9 : s_get (hp h q1 (1, 11, f2.set 0 (vi s1))) q7 = some (1, 11, f8)) (k1 : z10 ≠ 0 → wr P d sw_c403 sw_h403 (41, [.index q7, vi x1, vi x2, vi x3], [], (hp h q1 (1, 11, f2.set 0 (vi s1))), kc, ks) Q) (k2 : ¬ z10 ≠ 0 → wr P d sw_c403 sw_h403 (37, [.index q7, vi x1, vi x2, vi x3], [], (hp h q1 (1, 11, f2.set 0 (vi s1))), kc, ks) Q) (e_q1 : s0 = .index q1 := by first | rfl | assumption) (e_q7 : r0 = .index q7 := by first | rfl | assumption) (l4 : 0 < f2.length := by first | exact Nat.le_of_ble_eq_true rfl | omega | assumption) (y6 : s_ty r0 = 3 := by first | rfl | assumption) (n11 : s_nth f8 0 = some (vi z10) := by first | rfl | assumption) (c5 : 0 < q1 := by first | omega | assumption | (simp only [mk_len, List.length_map]; omega) | decide) (c12 : In3 z10 := by first | omega | assumption | (simp only [mk_len, List.length_map]; omega) | decide) : wr P d sw_c403 sw_h403 (27, [r0, vi x1, vi x2, vi x3], [vi s1, s0], h, kc, ks) Q := by
  subst e_q1
  refine w_putf rfl g3 (Nat.ble_eq_true_of_le c5) rfl (Nat.ble_eq_true_of_le l4) ?_
  refine w_ld rfl rfl (Or.inr (Or.inr ⟨by decide, y6⟩)) ?_
  subst e_q7
  refine w_getf rfl g9 n11 ?_
  exact w_if1 rfl c12 k1 k2

theorem k403_37 {P : s_P} {d : Nat} {Q : s_O → Prop} {h : s_H} {kc ks : Nat} {r0 : Term} {x1 x2 x3 : Int}  (k : wr P d sw_c403 sw_h403 (42, [r0, vi x1, vi x2, vi x3], [vi 1], h, kc, ks) Q)   : wr P d sw_c403 sw_h403 (37, [r0, vi x1, vi x2, vi x3], [], h, kc, ks) Q := by
  refine w_c32 rfl (by decide) 1 (by decide) ?_
  refine w_goto rfl ?_
  exact k

theorem k403_41 {P : s_P} {d : Nat} {Q : s_O → Prop} {h : s_H} {kc ks : Nat} {r0 : Term} {x1 x2 x3 : Int}  (k : wr P d sw_c403 sw_h403 (42, [r0, vi x1, vi x2, vi x3], [vi 0], h, kc, ks) Q)   : wr P d sw_c403 sw_h403 (41, [r0, vi x1, vi x2, vi x3], [], h, kc, ks) Q := by
  refine w_c32 rfl (by decide) 0 (by decide) ?_
  exact k

theorem k403_42 {P : s_P} {d : Nat} {Q : s_O → Prop} {h : s_H} {kc ks : Nat} {r0 : Term} {x1 x2 x3 s0 : Int}  (k : Q (.inl (some (vi s0)), h, kc, ks))  (c1 : s0 = 0 ∨ s0 = 1 := by first | omega | assumption | (simp only [mk_len, List.length_map]; omega) | decide) : wr P d sw_c403 sw_h403 (42, [r0, vi x1, vi x2, vi x3], [vi s0], h, kc, ks) Q := by
  exact w_zret rfl c1 k

/-! 404: FormulaWorksModel.at(III)I -/
theorem k404_0 {P : s_P} {d : Nat} {Q : s_O → Prop} {h : s_H} {kc ks : Nat} {r0 : Term} {x1 x2 x3 : Int} {q2 : Nat} {f3 : List Term} (g4 : s_get h q2 = some (1, 11, f3)) (k : wm P d 492 [.index q2, vi x1] h (wq P d sw_c404 sw_h404 6 [.index q2, vi x1, vi x2, vi x3] [.index q2] kc ks Q)) (e_q2 : r0 = .index q2 := by first | rfl | assumption) (y1 : s_ty r0 = 3 := by first | rfl | assumption)  : wr P d sw_c404 sw_h404 (0, [r0, vi x1, vi x2, vi x3], [], h, kc, ks) Q := by
  refine w_ld rfl rfl (Or.inr (Or.inr ⟨by decide, y1⟩)) ?_
  refine w_ld rfl rfl (Or.inr (Or.inr ⟨by decide, y1⟩)) ?_
  refine w_ld rfl rfl (Or.inl ⟨by decide, rfl⟩) ?_
  subst e_q2
  exact w_cv rfl [.index q2, vi x1] [.index q2] rfl rfl (s_wt_4 rfl) rfl g4 k

theorem k404_6 {P : s_P} {d : Nat} {Q : s_O → Prop} {h : s_H} {kc ks : Nat} {r0 : Term} {x1 x2 x3 : Int} {s0 : Term} {s1 : Int}  (k1 : s1 ≠ 0 → wr P d sw_c404 sw_h404 (13, [r0, vi x1, vi x2, vi x3], [s0], h, kc, ks) Q) (k2 : ¬ s1 ≠ 0 → wr P d sw_c404 sw_h404 (9, [r0, vi x1, vi x2, vi x3], [s0], h, kc, ks) Q)  (c1 : In3 s1 := by first | omega | assumption | (simp only [mk_len, List.length_map]; omega) | decide) : wr P d sw_c404 sw_h404 (6, [r0, vi x1, vi x2, vi x3], [vi s1, s0], h, kc, ks) Q := by
  exact w_if1 rfl c1 k1 k2

theorem k404_9 {P : s_P} {d : Nat} {Q : s_O → Prop} {h : s_H} {kc ks : Nat} {r0 : Term} {x1 x2 x3 : Int} {s0 : Term}  (k : wr P d sw_c404 sw_h404 (46, [r0, vi x1, vi x2, vi x3], [vi 1, s0], h, kc, ks) Q)   : wr P d sw_c404 sw_h404 (9, [r0, vi x1, vi x2, vi x3], [s0], h, kc, ks) Q := by
  refine w_c32 rfl (by decide) 1 (by decide) ?_
  refine w_goto rfl ?_
  exact k

theorem k404_13 {P : s_P} {d : Nat} {Q : s_O → Prop} {h : s_H} {kc ks : Nat} {r0 : Term} {x1 x2 x3 : Int} {s0 : Term} {q2 : Nat} {f3 : List Term} (g4 : s_get h q2 = some (1, 11, f3)) (k : wm P d 469 [.index q2, vi x1, vi 2] h (wq P d sw_c404 sw_h404 19 [.index q2, vi x1, vi x2, vi x3] [s0] kc ks Q)) (e_q2 : r0 = .index q2 := by first | rfl | assumption) (y1 : s_ty r0 = 3 := by first | rfl | assumption)  : wr P d sw_c404 sw_h404 (13, [r0, vi x1, vi x2, vi x3], [s0], h, kc, ks) Q := by
  refine w_ld rfl rfl (Or.inr (Or.inr ⟨by decide, y1⟩)) ?_
  refine w_ld rfl rfl (Or.inl ⟨by decide, rfl⟩) ?_
  refine w_c32 rfl (by decide) 2 (by decide) ?_
  subst e_q2
  exact w_cv rfl [.index q2, vi x1, vi 2] [s0] rfl rfl (s_wt_4 rfl) rfl g4 k

theorem k404_19 {P : s_P} {d : Nat} {Q : s_O → Prop} {h : s_H} {kc ks : Nat} {r0 : Term} {x1 x2 x3 : Int} {s0 : Term} {s1 : Int}  (k1 : s1 ≠ 0 → wr P d sw_c404 sw_h404 (41, [r0, vi x1, vi x2, vi x3], [s0], h, kc, ks) Q) (k2 : ¬ s1 ≠ 0 → wr P d sw_c404 sw_h404 (22, [r0, vi x1, vi x2, vi x3], [s0], h, kc, ks) Q)  (c1 : In3 s1 := by first | omega | assumption | (simp only [mk_len, List.length_map]; omega) | decide) : wr P d sw_c404 sw_h404 (19, [r0, vi x1, vi x2, vi x3], [vi s1, s0], h, kc, ks) Q := by
  exact w_if1 rfl c1 k1 k2

theorem k404_22 {P : s_P} {d : Nat} {Q : s_O → Prop} {h : s_H} {kc ks : Nat} {r0 : Term} {x1 x2 x3 : Int} {s0 : Term} {q2 : Nat} {f3 : List Term} (g4 : s_get h q2 = some (1, 11, f3)) (k : wm P d 469 [.index q2, vi x1, vi 3] h (wq P d sw_c404 sw_h404 28 [.index q2, vi x1, vi x2, vi x3] [s0] kc ks Q)) (e_q2 : r0 = .index q2 := by first | rfl | assumption) (y1 : s_ty r0 = 3 := by first | rfl | assumption)  : wr P d sw_c404 sw_h404 (22, [r0, vi x1, vi x2, vi x3], [s0], h, kc, ks) Q := by
  refine w_ld rfl rfl (Or.inr (Or.inr ⟨by decide, y1⟩)) ?_
  refine w_ld rfl rfl (Or.inl ⟨by decide, rfl⟩) ?_
  refine w_c32 rfl (by decide) 3 (by decide) ?_
  subst e_q2
  exact w_cv rfl [.index q2, vi x1, vi 3] [s0] rfl rfl (s_wt_4 rfl) rfl g4 k

theorem k404_28 {P : s_P} {d : Nat} {Q : s_O → Prop} {h : s_H} {kc ks : Nat} {r0 : Term} {x1 x2 x3 : Int} {s0 : Term} {s1 : Int}  (k1 : s1 ≠ 0 → wr P d sw_c404 sw_h404 (41, [r0, vi x1, vi x2, vi x3], [s0], h, kc, ks) Q) (k2 : ¬ s1 ≠ 0 → wr P d sw_c404 sw_h404 (31, [r0, vi x1, vi x2, vi x3], [s0], h, kc, ks) Q)  (c1 : In3 s1 := by first | omega | assumption | (simp only [mk_len, List.length_map]; omega) | decide) : wr P d sw_c404 sw_h404 (28, [r0, vi x1, vi x2, vi x3], [vi s1, s0], h, kc, ks) Q := by
  exact w_if1 rfl c1 k1 k2

theorem k404_31 {P : s_P} {d : Nat} {Q : s_O → Prop} {h : s_H} {kc ks : Nat} {r0 : Term} {x1 x2 x3 : Int} {s0 : Term}  (k : wm P d 464 [vl x2, vl 0, vl 1] h (wq P d sw_c404 sw_h404 38 [r0, vi x1, vi x2, vi x3] [s0] kc ks Q))  (c1 : In3 x2 := by first | omega | assumption | (simp only [mk_len, List.length_map]; omega) | decide) : wr P d sw_c404 sw_h404 (31, [r0, vi x1, vi x2, vi x3], [s0], h, kc, ks) Q := by
  refine w_ld rfl rfl (Or.inl ⟨by decide, rfl⟩) ?_
  refine w_i2l rfl c1 ?_
  refine w_c64 rfl (by decide) 0 (by decide) ?_
  refine w_c64 rfl (by decide) 1 (by decide) ?_
  exact w_cs rfl [vl x2, vl 0, vl 1] [s0] rfl rfl (s_wt_4 rfl) k

theorem k404_38 {P : s_P} {d : Nat} {Q : s_O → Prop} {h : s_H} {kc ks : Nat} {r0 : Term} {x1 x2 x3 : Int} {s0 : Term} {s1 : Int}  (k1 : s1 ≠ 0 → wr P d sw_c404 sw_h404 (45, [r0, vi x1, vi x2, vi x3], [s0], h, kc, ks) Q) (k2 : ¬ s1 ≠ 0 → wr P d sw_c404 sw_h404 (41, [r0, vi x1, vi x2, vi x3], [s0], h, kc, ks) Q)  (c1 : In3 s1 := by first | omega | assumption | (simp only [mk_len, List.length_map]; omega) | decide) : wr P d sw_c404 sw_h404 (38, [r0, vi x1, vi x2, vi x3], [vi s1, s0], h, kc, ks) Q := by
  exact w_if1 rfl c1 k1 k2

theorem k404_41 {P : s_P} {d : Nat} {Q : s_O → Prop} {h : s_H} {kc ks : Nat} {r0 : Term} {x1 x2 x3 : Int} {s0 : Term}  (k : wr P d sw_c404 sw_h404 (46, [r0, vi x1, vi x2, vi x3], [vi 2, s0], h, kc, ks) Q)   : wr P d sw_c404 sw_h404 (41, [r0, vi x1, vi x2, vi x3], [s0], h, kc, ks) Q := by
  refine w_c32 rfl (by decide) 2 (by decide) ?_
  refine w_goto rfl ?_
  exact k

theorem k404_45 {P : s_P} {d : Nat} {Q : s_O → Prop} {h : s_H} {kc ks : Nat} {r0 : Term} {x1 x2 x3 : Int} {s0 : Term}  (k : wr P d sw_c404 sw_h404 (46, [r0, vi x1, vi x2, vi x3], [vi 0, s0], h, kc, ks) Q)   : wr P d sw_c404 sw_h404 (45, [r0, vi x1, vi x2, vi x3], [s0], h, kc, ks) Q := by
  refine w_c32 rfl (by decide) 0 (by decide) ?_
  exact k

theorem k404_46 {P : s_P} {d : Nat} {Q : s_O → Prop} {h : s_H} {kc ks : Nat} {r0 : Term} {x1 x2 x3 : Int} {s0 : Term} {s1 : Int} {q1 : Nat} {f2 : List Term} {q7 : Nat} {f8 : List Term} {z10 : Int} (g3 : s_get h q1 = some (1, 11, f2)) (g9 : s_get (hp h q1 (1, 11, f2.set 0 (vi s1))) q7 = some (1, 11, f8)) (k1 : 0 < z10 → wr P d sw_c404 sw_h404 (68, [.index q7, vi x1, vi x2, vi x3], [], (hp h q1 (1, 11, f2.set 0 (vi s1))), kc, ks) Q) (k2 : ¬ 0 < z10 → wr P d sw_c404 sw_h404 (56, [.index q7, vi x1, vi x2, vi x3], [], (hp h q1 (1, 11, f2.set 0 (vi s1))), kc, ks) Q) (e_q1 : s0 = .index q1 := by first | rfl | assumption) (e_q7 : r0 = .index q7 := by first | rfl | assumption) (l4 : 0 < f2.length := by first | exact Nat.le_of_ble_eq_true rfl | omega | assumption) (y6 : s_ty r0 = 3 := by first | rfl | assumption) (n11 : s_nth f8 0 = some (vi z10) := by first | rfl | assumption) (c5 : 0 < q1 := by first | omega | assumption | (simp only [mk_len, List.length_map]; omega) | decide) (c12 : In3 z10 := by first | omega | assumption | (simp only [mk_len, List.length_map]; omega) | decide) : wr P d sw_c404 sw_h404 (46, [r0, vi x1, vi x2, vi x3], [vi s1, s0], h, kc, ks) Q := by
  subst e_q1
  refine w_putf rfl g3 (Nat.ble_eq_true_of_le c5) rfl (Nat.ble_eq_true_of_le l4) ?_
  refine w_ld rfl rfl (Or.inr (Or.inr ⟨by decide, y6⟩)) ?_
  subst e_q7
  refine w_getf rfl g9 n11 ?_
  exact w_if1 rfl c12 k1 k2

theorem k404_56 {P : s_P} {d : Nat} {Q : s_O → Prop} {h : s_H} {kc ks : Nat} {r0 : Term} {x1 x2 x3 : Int}  (k : wm P d 464 [vl x3, vl 0, vl 40] h (wq P d sw_c404 sw_h404 65 [r0, vi x1, vi x2, vi x3] [] kc ks Q))  (c1 : In3 x3 := by first | omega | assumption | (simp only [mk_len, List.length_map]; omega) | decide) : wr P d sw_c404 sw_h404 (56, [r0, vi x1, vi x2, vi x3], [], h, kc, ks) Q := by
  refine w_ld rfl rfl (Or.inl ⟨by decide, rfl⟩) ?_
  refine w_i2l rfl c1 ?_
  refine w_c64 rfl (by decide) 0 (by decide) ?_
  refine w_c64 rfl (by decide) 40 (by decide) ?_
  exact w_cs rfl [vl x3, vl 0, vl 40] [] rfl rfl (s_wt_4 rfl) k

theorem k404_65 {P : s_P} {d : Nat} {Q : s_O → Prop} {h : s_H} {kc ks : Nat} {r0 : Term} {x1 x2 x3 s0 : Int}  (k1 : s0 ≠ 0 → wr P d sw_c404 sw_h404 (70, [r0, vi x1, vi x2, vi x3], [], h, kc, ks) Q) (k2 : ¬ s0 ≠ 0 → wr P d sw_c404 sw_h404 (68, [r0, vi x1, vi x2, vi x3], [], h, kc, ks) Q)  (c1 : In3 s0 := by first | omega | assumption | (simp only [mk_len, List.length_map]; omega) | decide) : wr P d sw_c404 sw_h404 (65, [r0, vi x1, vi x2, vi x3], [vi s0], h, kc, ks) Q := by
  exact w_if1 rfl c1 k1 k2

theorem k404_68 {P : s_P} {d : Nat} {Q : s_O → Prop} {h : s_H} {kc ks : Nat} {r0 : Term} {x1 x2 x3 : Int}  (k : Q (.inl (some (vi 0)), h, kc, ks))   : wr P d sw_c404 sw_h404 (68, [r0, vi x1, vi x2, vi x3], [], h, kc, ks) Q := by
  refine w_c32 rfl (by decide) 0 (by decide) ?_
  exact w_iret rfl k

theorem k404_70 {P : s_P} {d : Nat} {Q : s_O → Prop} {h : s_H} {kc ks : Nat} {r0 : Term} {x1 x2 x3 : Int}  (k1 : x2 = 0 → wr P d sw_c404 sw_h404 (83, [r0, vi x1, vi x2, vi x3], [], h, kc, ks) Q) (k2 : ¬ x2 = 0 → wr P d sw_c404 sw_h404 (74, [r0, vi x1, vi x2, vi x3], [], h, kc, ks) Q)  (c1 : In3 x2 := by first | omega | assumption | (simp only [mk_len, List.length_map]; omega) | decide) : wr P d sw_c404 sw_h404 (70, [r0, vi x1, vi x2, vi x3], [], h, kc, ks) Q := by
  refine w_ld rfl rfl (Or.inl ⟨by decide, rfl⟩) ?_
  exact w_if1 rfl c1 k1 k2

theorem k404_74 {P : s_P} {d : Nat} {Q : s_O → Prop} {h : s_H} {kc ks : Nat} {r0 : Term} {x1 x2 x3 : Int} {q2 : Nat} {f3 : List Term} (g4 : s_get h q2 = some (1, 11, f3)) (k : wm P d 469 [.index q2, vi x1, vi 1] h (wq P d sw_c404 sw_h404 80 [.index q2, vi x1, vi x2, vi x3] [] kc ks Q)) (e_q2 : r0 = .index q2 := by first | rfl | assumption) (y1 : s_ty r0 = 3 := by first | rfl | assumption)  : wr P d sw_c404 sw_h404 (74, [r0, vi x1, vi x2, vi x3], [], h, kc, ks) Q := by
  refine w_ld rfl rfl (Or.inr (Or.inr ⟨by decide, y1⟩)) ?_
  refine w_ld rfl rfl (Or.inl ⟨by decide, rfl⟩) ?_
  refine w_c32 rfl (by decide) 1 (by decide) ?_
  subst e_q2
  exact w_cv rfl [.index q2, vi x1, vi 1] [] rfl rfl (s_wt_4 rfl) rfl g4 k

theorem k404_80 {P : s_P} {d : Nat} {Q : s_O → Prop} {h : s_H} {kc ks : Nat} {r0 : Term} {x1 x2 x3 s0 : Int}  (k1 : s0 = 0 → wr P d sw_c404 sw_h404 (97, [r0, vi x1, vi x2, vi x3], [], h, kc, ks) Q) (k2 : ¬ s0 = 0 → wr P d sw_c404 sw_h404 (83, [r0, vi x1, vi x2, vi x3], [], h, kc, ks) Q)  (c1 : In3 s0 := by first | omega | assumption | (simp only [mk_len, List.length_map]; omega) | decide) : wr P d sw_c404 sw_h404 (80, [r0, vi x1, vi x2, vi x3], [vi s0], h, kc, ks) Q := by
  exact w_if1 rfl c1 k1 k2

theorem k404_83 {P : s_P} {d : Nat} {Q : s_O → Prop} {h : s_H} {kc ks : Nat} {r0 : Term} {x1 x2 x3 : Int} {q2 : Nat} {f3 : List Term} {v5 : Term} {q7 : Nat} {a8 : List Int} (g4 : s_get h q2 = some (1, 11, f3)) (g9 : s_get h q7 = some (0, 0, a8.map vi)) (k : wr P d sw_c404 sw_h404 (108, [.index q2, vi x1, vi x2, vi x3], [vi (gi a8 ((41 * x1) + x3))], h, kc, ks) Q) (e_q2 : r0 = .index q2 := by first | rfl | assumption) (e_q7 : v5 = .index q7 := by first | rfl | assumption) (y1 : s_ty r0 = 3 := by first | rfl | assumption) (n6 : s_nth f3 3 = some v5 := by first | rfl | assumption) (c10 : (41 * x1) + x3 < a8.length := by first | omega | assumption | (simp only [mk_len, List.length_map]; omega) | decide) (c11 : 0 ≤ (41 * x1) + x3 := by first | omega | assumption | (simp only [mk_len, List.length_map]; omega) | decide) (c12 : In3 ((41 * x1) + x3) := by first | omega | assumption | (simp only [mk_len, List.length_map]; omega) | decide) : wr P d sw_c404 sw_h404 (83, [r0, vi x1, vi x2, vi x3], [], h, kc, ks) Q := by
  refine w_ld rfl rfl (Or.inr (Or.inr ⟨by decide, y1⟩)) ?_
  subst e_q2
  refine w_getf rfl g4 n6 ?_
  refine w_c32 rfl (by decide) 41 (by decide) ?_
  refine w_ld rfl rfl (Or.inl ⟨by decide, rfl⟩) ?_
  refine w_imul rfl ?_
  refine w_ld rfl rfl (Or.inl ⟨by decide, rfl⟩) ?_
  refine w_iadd rfl ?_
  subst e_q7
  refine w_iald rfl g9 (Or.inl rfl) c12 c11 c10 ?_
  refine w_goto rfl ?_
  exact k

theorem k404_97 {P : s_P} {d : Nat} {Q : s_O → Prop} {h : s_H} {kc ks : Nat} {r0 : Term} {x1 x2 x3 : Int} {q2 : Nat} {f3 : List Term} {v5 : Term} {q7 : Nat} {a8 : List Int} (g4 : s_get h q2 = some (1, 11, f3)) (g9 : s_get h q7 = some (0, 0, a8.map vi)) (k : wr P d sw_c404 sw_h404 (108, [.index q2, vi x1, vi x2, vi x3], [vi (gi a8 ((41 * x1) + x3))], h, kc, ks) Q) (e_q2 : r0 = .index q2 := by first | rfl | assumption) (e_q7 : v5 = .index q7 := by first | rfl | assumption) (y1 : s_ty r0 = 3 := by first | rfl | assumption) (n6 : s_nth f3 4 = some v5 := by first | rfl | assumption) (c10 : (41 * x1) + x3 < a8.length := by first | omega | assumption | (simp only [mk_len, List.length_map]; omega) | decide) (c11 : 0 ≤ (41 * x1) + x3 := by first | omega | assumption | (simp only [mk_len, List.length_map]; omega) | decide) (c12 : In3 ((41 * x1) + x3) := by first | omega | assumption | (simp only [mk_len, List.length_map]; omega) | decide) : wr P d sw_c404 sw_h404 (97, [r0, vi x1, vi x2, vi x3], [], h, kc, ks) Q := by
  refine w_ld rfl rfl (Or.inr (Or.inr ⟨by decide, y1⟩)) ?_
  subst e_q2
  refine w_getf rfl g4 n6 ?_
  refine w_c32 rfl (by decide) 41 (by decide) ?_
  refine w_ld rfl rfl (Or.inl ⟨by decide, rfl⟩) ?_
  refine w_imul rfl ?_
  refine w_ld rfl rfl (Or.inl ⟨by decide, rfl⟩) ?_
  refine w_iadd rfl ?_
  subst e_q7
  refine w_iald rfl g9 (Or.inl rfl) c12 c11 c10 ?_
  exact k

theorem k404_108 {P : s_P} {d : Nat} {Q : s_O → Prop} {h : s_H} {kc ks : Nat} {r0 : Term} {x1 x2 x3 s0 : Int}  (k : Q (.inl (some (vi s0)), h, kc, ks))   : wr P d sw_c404 sw_h404 (108, [r0, vi x1, vi x2, vi x3], [vi s0], h, kc, ks) Q := by
  exact w_iret rfl k

/-! 405: FormulaWorksModel.become([JJ)V -/
theorem k405_0 {P : s_P} {d : Nat} {Q : s_O → Prop} {h : s_H} {kc ks : Nat} {r0 : Term} {x1 : Int} {t2 t3 : Term}  (k : wr P d sw_c405 sw_h405 (2, [r0, vl x1, (s_uu t2), vi 1], [], h, kc, ks) Q)   : wr P d sw_c405 sw_h405 (0, [r0, vl x1, t2, t3], [], h, kc, ks) Q := by
  refine w_c32 rfl (by decide) 1 (by decide) ?_
  refine w_st (ls' := [r0, vl x1, (s_uu t2), vi 1]) rfl (Or.inl ⟨by decide, rfl⟩) (s_stK_t (pre := [r0, vl x1])) ?_
  exact k

theorem k405_2 {P : s_P} {d : Nat} {Q : s_O → Prop} {h : s_H} {kc ks : Nat} {r0 : Term} {x1 : Int} {t2 : Term} {x3 : Int}  (k1 : 176 ≤ x3 → wr P d sw_c405 sw_h405 (19, [r0, vl x1, t2, vi x3], [], h, kc, ks) Q) (k2 : ¬ 176 ≤ x3 → wr P d sw_c405 sw_h405 (9, [r0, vl x1, t2, vi x3], [], h, kc, ks) Q)  (c1 : In3 x3 := by first | omega | assumption | (simp only [mk_len, List.length_map]; omega) | decide) : wr P d sw_c405 sw_h405 (2, [r0, vl x1, t2, vi x3], [], h, kc, ks) Q := by
  refine w_ld rfl rfl (Or.inl ⟨by decide, rfl⟩) ?_
  refine w_c32 rfl (by decide) 176 (by decide) ?_
  exact w_if2 rfl c1 (by decide) k1 k2

theorem k405_9 {P : s_P} {d : Nat} {Q : s_O → Prop} {h : s_H} {kc ks : Nat} {r0 : Term} {x1 : Int} {t2 : Term} {x3 : Int} {q2 : Nat} {a3 : List Int} (g4 : s_get h q2 = some (0, 1, a3.map vl)) (k : wr P d sw_c405 sw_h405 (2, [.index q2, vl x1, (s_uu t2), vi (x3 + 1)], [], (hp h q2 (0, 1, (a3.set (Int.toNat (x3)) 0).map vl)), kc, ks) Q) (e_q2 : r0 = .index q2 := by first | rfl | assumption) (y1 : s_ty r0 = 3 := by first | rfl | assumption) (c5 : x3 < a3.length := by first | omega | assumption | (simp only [mk_len, List.length_map]; omega) | decide) (c6 : 0 ≤ x3 := by first | omega | assumption | (simp only [mk_len, List.length_map]; omega) | decide) (c7 : In3 x3 := by first | omega | assumption | (simp only [mk_len, List.length_map]; omega) | decide) (c8 : 0 < q2 := by first | omega | assumption | (simp only [mk_len, List.length_map]; omega) | decide) : wr P d sw_c405 sw_h405 (9, [r0, vl x1, t2, vi x3], [], h, kc, ks) Q := by
  refine w_ld rfl rfl (Or.inr (Or.inr ⟨by decide, y1⟩)) ?_
  refine w_ld rfl rfl (Or.inl ⟨by decide, rfl⟩) ?_
  refine w_c64 rfl (by decide) 0 (by decide) ?_
  subst e_q2
  refine w_last rfl g4 (Nat.ble_eq_true_of_le c8) c7 c6 c5 ?_
  refine w_iinc (ls' := [.index q2, vl x1, (s_uu t2), vi (x3 + 1)]) rfl rfl 1 (by decide) (s_stK_t (pre := [.index q2, vl x1])) ?_
  refine w_goto rfl ?_
  exact k

theorem k405_19 {P : s_P} {d : Nat} {Q : s_O → Prop} {h : s_H} {kc ks : Nat} {r0 : Term} {x1 : Int} {t2 : Term} {x3 : Int}  (k : wm P d 528 [vl x1] h (wq P d sw_c405 sw_h405 25 [r0, vl x1, t2, vi x3] [vi 0, r0] kc ks Q)) (y1 : s_ty r0 = 3 := by first | rfl | assumption)  : wr P d sw_c405 sw_h405 (19, [r0, vl x1, t2, vi x3], [], h, kc, ks) Q := by
  refine w_ld rfl rfl (Or.inr (Or.inr ⟨by decide, y1⟩)) ?_
  refine w_c32 rfl (by decide) 0 (by decide) ?_
  refine w_ld rfl rfl (Or.inr (Or.inl ⟨by decide, rfl⟩)) ?_
  exact w_cs rfl [vl x1] [vi 0, r0] rfl rfl (s_wt_4 rfl) k

theorem k405_25 {P : s_P} {d : Nat} {Q : s_O → Prop} {h : s_H} {kc ks : Nat} {r0 : Term} {x1 : Int} {t2 : Term} {x3 : Int} {s0 : Term} {s1 s2 : Int} {q1 : Nat} {a2 : List Int} (g3 : s_get h q1 = some (0, 1, a2.map vl)) (k : Q (.inl none, (hp h q1 (0, 1, (a2.set (Int.toNat (s1)) s2).map vl)), kc, ks)) (e_q1 : s0 = .index q1 := by first | rfl | assumption) (c4 : s1 < a2.length := by first | omega | assumption | (simp only [mk_len, List.length_map]; omega) | decide) (c5 : 0 ≤ s1 := by first | omega | assumption | (simp only [mk_len, List.length_map]; omega) | decide) (c6 : In3 s1 := by first | omega | assumption | (simp only [mk_len, List.length_map]; omega) | decide) (c7 : 0 < q1 := by first | omega | assumption | (simp only [mk_len, List.length_map]; omega) | decide) : wr P d sw_c405 sw_h405 (25, [r0, vl x1, t2, vi x3], [vl s2, vi s1, s0], h, kc, ks) Q := by
  subst e_q1
  refine w_last rfl g3 (Nat.ble_eq_true_of_le c7) c6 c5 c4 ?_
  exact w_ret rfl k

/-! 406: FormulaWorksModel.begin()V -/
theorem k406_0 {P : s_P} {d : Nat} {Q : s_O → Prop} {h : s_H} {kc ks : Nat} {r0 : Term} {q2 : Nat} {f3 : List Term} {v5 : Term} {z7 : Int} {q9 : Nat} {a10 : List Int} {f16 : List Term} {v18 : Term} {z20 : Int} {q22 : Nat} {a23 : List Int} {f29 : List Term} {v31 : Term} {z33 : Int} {q35 : Nat} {a36 : List Int} {f42 : List Term} (g4 : s_get h q2 = some (1, 11, f3)) (g11 : s_get h q9 = some (0, 5, a10.map vi)) (g17 : s_get (hp h q9 (0, 5, (a10.set (Int.toNat (z7)) 0).map vi)) q2 = some (1, 11, f16)) (g24 : s_get (hp h q9 (0, 5, (a10.set (Int.toNat (z7)) 0).map vi)) q22 = some (0, 5, a23.map vi)) (g30 : s_get (hp (hp h q9 (0, 5, (a10.set (Int.toNat (z7)) 0).map vi)) q22 (0, 5, (a23.set (Int.toNat (z20)) 0).map vi)) q2 = some (1, 11, f29)) (g37 : s_get (hp (hp h q9 (0, 5, (a10.set (Int.toNat (z7)) 0).map vi)) q22 (0, 5, (a23.set (Int.toNat (z20)) 0).map vi)) q35 = some (0, 5, a36.map vi)) (g43 : s_get (hp (hp (hp h q9 (0, 5, (a10.set (Int.toNat (z7)) 0).map vi)) q22 (0, 5, (a23.set (Int.toNat (z20)) 0).map vi)) q35 (0, 5, (a36.set (Int.toNat (z33)) 0).map vi)) q2 = some (1, 11, f42)) (k : Q (.inl none, (hp (hp (hp (hp h q9 (0, 5, (a10.set (Int.toNat (z7)) 0).map vi)) q22 (0, 5, (a23.set (Int.toNat (z20)) 0).map vi)) q35 (0, 5, (a36.set (Int.toNat (z33)) 0).map vi)) q2 (1, 11, f42.set 72 (vi 0))), kc, ks)) (e_q2 : r0 = .index q2 := by first | rfl | assumption) (e_q9 : v5 = .index q9 := by first | rfl | assumption) (e_q22 : v18 = .index q22 := by first | rfl | assumption) (e_q35 : v31 = .index q35 := by first | rfl | assumption) (y1 : s_ty r0 = 3 := by first | rfl | assumption) (n6 : s_nth f3 60 = some v5 := by first | rfl | assumption) (n8 : s_nth f3 59 = some (vi z7) := by first | rfl | assumption) (n19 : s_nth f16 61 = some v18 := by first | rfl | assumption) (n21 : s_nth f16 59 = some (vi z20) := by first | rfl | assumption) (n32 : s_nth f29 62 = some v31 := by first | rfl | assumption) (n34 : s_nth f29 59 = some (vi z33) := by first | rfl | assumption) (l44 : 72 < f42.length := by first | exact Nat.le_of_ble_eq_true rfl | omega | assumption) (c12 : z7 < a10.length := by first | omega | assumption | (simp only [mk_len, List.length_map]; omega) | decide) (c13 : 0 ≤ z7 := by first | omega | assumption | (simp only [mk_len, List.length_map]; omega) | decide) (c14 : In3 z7 := by first | omega | assumption | (simp only [mk_len, List.length_map]; omega) | decide) (c15 : 0 < q9 := by first | omega | assumption | (simp only [mk_len, List.length_map]; omega) | decide) (c25 : z20 < a23.length := by first | omega | assumption | (simp only [mk_len, List.length_map]; omega) | decide) (c26 : 0 ≤ z20 := by first | omega | assumption | (simp only [mk_len, List.length_map]; omega) | decide) (c27 : In3 z20 := by first | omega | assumption | (simp only [mk_len, List.length_map]; omega) | decide) (c28 : 0 < q22 := by first | omega | assumption | (simp only [mk_len, List.length_map]; omega) | decide) (c38 : z33 < a36.length := by first | omega | assumption | (simp only [mk_len, List.length_map]; omega) | decide) (c39 : 0 ≤ z33 := by first | omega | assumption | (simp only [mk_len, List.length_map]; omega) | decide) (c40 : In3 z33 := by first | omega | assumption | (simp only [mk_len, List.length_map]; omega) | decide) (c41 : 0 < q35 := by first | omega | assumption | (simp only [mk_len, List.length_map]; omega) | decide) (c45 : 0 < q2 := by first | omega | assumption | (simp only [mk_len, List.length_map]; omega) | decide) : wr P d sw_c406 sw_h406 (0, [r0], [], h, kc, ks) Q := by
  refine w_ld rfl rfl (Or.inr (Or.inr ⟨by decide, y1⟩)) ?_
  subst e_q2
  refine w_getf rfl g4 n6 ?_
  refine w_ld rfl rfl (Or.inr (Or.inr ⟨by decide, rfl⟩)) ?_
  refine w_getf rfl g4 n8 ?_
  refine w_c32 rfl (by decide) 0 (by decide) ?_
  subst e_q9
  refine w_bast rfl g11 (Nat.ble_eq_true_of_le c15) c14 c13 c12 (by decide) ?_
  refine w_ld rfl rfl (Or.inr (Or.inr ⟨by decide, rfl⟩)) ?_
  refine w_getf rfl g17 n19 ?_
  refine w_ld rfl rfl (Or.inr (Or.inr ⟨by decide, rfl⟩)) ?_
  refine w_getf rfl g17 n21 ?_
  refine w_c32 rfl (by decide) 0 (by decide) ?_
  subst e_q22
  refine w_bast rfl g24 (Nat.ble_eq_true_of_le c28) c27 c26 c25 (by decide) ?_
  refine w_ld rfl rfl (Or.inr (Or.inr ⟨by decide, rfl⟩)) ?_
  refine w_getf rfl g30 n32 ?_
  refine w_ld rfl rfl (Or.inr (Or.inr ⟨by decide, rfl⟩)) ?_
  refine w_getf rfl g30 n34 ?_
  refine w_c32 rfl (by decide) 0 (by decide) ?_
  subst e_q35
  refine w_bast rfl g37 (Nat.ble_eq_true_of_le c41) c40 c39 c38 (by decide) ?_
  refine w_ld rfl rfl (Or.inr (Or.inr ⟨by decide, rfl⟩)) ?_
  refine w_c32 rfl (by decide) 0 (by decide) ?_
  refine w_putf rfl g43 (Nat.ble_eq_true_of_le c45) rfl (Nat.ble_eq_true_of_le l44) ?_
  exact w_ret rfl k

/-! 407: FormulaWorksModel.behind(I)I -/
theorem k407_0 {P : s_P} {d : Nat} {Q : s_O → Prop} {h : s_H} {kc ks : Nat} {r0 : Term} {x1 : Int} {t2 t3 : Term}  (k : wr P d sw_c407 sw_h407 (4, [r0, vi x1, vi x1, vi 1], [], h, kc, ks) Q)   : wr P d sw_c407 sw_h407 (0, [r0, vi x1, t2, t3], [], h, kc, ks) Q := by
  refine w_ld rfl rfl (Or.inl ⟨by decide, rfl⟩) ?_
  refine w_st (ls' := [r0, vi x1, vi x1, t3]) rfl (Or.inl ⟨by decide, rfl⟩) rfl ?_
  refine w_c32 rfl (by decide) 1 (by decide) ?_
  refine w_st (ls' := [r0, vi x1, vi x1, vi 1]) rfl (Or.inl ⟨by decide, rfl⟩) rfl ?_
  exact k

theorem k407_4 {P : s_P} {d : Nat} {Q : s_O → Prop} {h : s_H} {kc ks : Nat} {r0 : Term} {x1 x2 x3 : Int}  (k1 : x3 ≤ 0 → wr P d sw_c407 sw_h407 (28, [r0, vi x1, vi x2, vi x3], [], h, kc, ks) Q) (k2 : ¬ x3 ≤ 0 → wr P d sw_c407 sw_h407 (8, [r0, vi x1, vi x2, vi x3], [], h, kc, ks) Q)  (c1 : In3 x3 := by first | omega | assumption | (simp only [mk_len, List.length_map]; omega) | decide) : wr P d sw_c407 sw_h407 (4, [r0, vi x1, vi x2, vi x3], [], h, kc, ks) Q := by
  refine w_ld rfl rfl (Or.inl ⟨by decide, rfl⟩) ?_
  exact w_if1 rfl c1 k1 k2

theorem k407_8 {P : s_P} {d : Nat} {Q : s_O → Prop} {h : s_H} {kc ks : Nat} {r0 : Term} {x1 x2 x3 : Int} {q2 : Nat} {f3 : List Term} {v5 : Term} {q7 : Nat} {a8 : List Int} (g4 : s_get h q2 = some (1, 11, f3)) (g9 : s_get h q7 = some (0, 0, a8.map vi)) (k : wm P d 547 [vi (gi a8 x2)] h (wq P d sw_c407 sw_h407 18 [.index q2, vi x1, vi x2, vi x3] [vi x3] kc ks Q)) (e_q2 : r0 = .index q2 := by first | rfl | assumption) (e_q7 : v5 = .index q7 := by first | rfl | assumption) (y1 : s_ty r0 = 3 := by first | rfl | assumption) (n6 : s_nth f3 83 = some v5 := by first | rfl | assumption) (c10 : x2 < a8.length := by first | omega | assumption | (simp only [mk_len, List.length_map]; omega) | decide) (c11 : 0 ≤ x2 := by first | omega | assumption | (simp only [mk_len, List.length_map]; omega) | decide) (c12 : In3 x2 := by first | omega | assumption | (simp only [mk_len, List.length_map]; omega) | decide) : wr P d sw_c407 sw_h407 (8, [r0, vi x1, vi x2, vi x3], [], h, kc, ks) Q := by
  refine w_ld rfl rfl (Or.inl ⟨by decide, rfl⟩) ?_
  refine w_ld rfl rfl (Or.inr (Or.inr ⟨by decide, y1⟩)) ?_
  subst e_q2
  refine w_getf rfl g4 n6 ?_
  refine w_ld rfl rfl (Or.inl ⟨by decide, rfl⟩) ?_
  subst e_q7
  refine w_iald rfl g9 (Or.inl rfl) c12 c11 c10 ?_
  exact w_cs rfl [vi (gi a8 x2)] [vi x3] rfl rfl (s_wt_4 rfl) k

theorem k407_18 {P : s_P} {d : Nat} {Q : s_O → Prop} {h : s_H} {kc ks : Nat} {r0 : Term} {x1 x2 x3 s0 s1 : Int}  (k : wr P d sw_c407 sw_h407 (4, [r0, vi x1, vi (x2 + 1), vi (s0 + (s1 - 1))], [], h, kc, ks) Q)   : wr P d sw_c407 sw_h407 (18, [r0, vi x1, vi x2, vi x3], [vi s1, vi s0], h, kc, ks) Q := by
  refine w_c32 rfl (by decide) 1 (by decide) ?_
  refine w_isub rfl ?_
  refine w_iadd rfl ?_
  refine w_st (ls' := [r0, vi x1, vi x2, vi (s0 + (s1 - 1))]) rfl (Or.inl ⟨by decide, rfl⟩) rfl ?_
  refine w_iinc (ls' := [r0, vi x1, vi (x2 + 1), vi (s0 + (s1 - 1))]) rfl rfl 1 (by decide) rfl ?_
  refine w_goto rfl ?_
  exact k

theorem k407_28 {P : s_P} {d : Nat} {Q : s_O → Prop} {h : s_H} {kc ks : Nat} {r0 : Term} {x1 x2 x3 : Int}  (k : Q (.inl (some (vi x2)), h, kc, ks))   : wr P d sw_c407 sw_h407 (28, [r0, vi x1, vi x2, vi x3], [], h, kc, ks) Q := by
  refine w_ld rfl rfl (Or.inl ⟨by decide, rfl⟩) ?_
  exact w_iret rfl k

/-! 408: FormulaWorksModel.bits(I)I -/
theorem k408_0 {P : s_P} {d : Nat} {Q : s_O → Prop} {h : s_H} {kc ks : Nat} {x0 : Int}  (k : Q (.inl (some (vi ((((zi 24 x0 1) + (zi 24 (zi 28 x0 1) 1)) + (zi 24 (zi 28 x0 2) 1)) + (zi 24 (zi 28 x0 3) 1)))), h, kc, ks))   : wr P d sw_c408 sw_h408 (0, [vi x0], [], h, kc, ks) Q := by
  refine w_ld rfl rfl (Or.inl ⟨by decide, rfl⟩) ?_
  refine w_c32 rfl (by decide) 1 (by decide) ?_
  refine w_ib rfl (by decide) ?_
  refine w_ld rfl rfl (Or.inl ⟨by decide, rfl⟩) ?_
  refine w_c32 rfl (by decide) 1 (by decide) ?_
  refine w_ib rfl (by decide) ?_
  refine w_c32 rfl (by decide) 1 (by decide) ?_
  refine w_ib rfl (by decide) ?_
  refine w_iadd rfl ?_
  refine w_ld rfl rfl (Or.inl ⟨by decide, rfl⟩) ?_
  refine w_c32 rfl (by decide) 2 (by decide) ?_
  refine w_ib rfl (by decide) ?_
  refine w_c32 rfl (by decide) 1 (by decide) ?_
  refine w_ib rfl (by decide) ?_
  refine w_iadd rfl ?_
  refine w_ld rfl rfl (Or.inl ⟨by decide, rfl⟩) ?_
  refine w_c32 rfl (by decide) 3 (by decide) ?_
  refine w_ib rfl (by decide) ?_
  refine w_c32 rfl (by decide) 1 (by decide) ?_
  refine w_ib rfl (by decide) ?_
  refine w_iadd rfl ?_
  exact w_iret rfl k

/-! 409: FormulaWorksModel.bottomsBut(II)V -/
theorem k409_0 {P : s_P} {d : Nat} {Q : s_O → Prop} {h : s_H} {kc ks : Nat} {r0 : Term} {x1 x2 : Int} {t3 : Term} {q2 : Nat} {f3 : List Term} {v5 : Term} (g4 : s_get h q2 = some (1, 11, f3)) (k : wm P d 405 [v5, vl 1] h (wq P d sw_c409 sw_h409 8 [.index q2, vi x1, vi x2, t3] [] kc ks Q)) (e_q2 : r0 = .index q2 := by first | rfl | assumption) (y1 : s_ty r0 = 3 := by first | rfl | assumption) (n6 : s_nth f3 23 = some v5 := by first | rfl | assumption)  : wr P d sw_c409 sw_h409 (0, [r0, vi x1, vi x2, t3], [], h, kc, ks) Q := by
  refine w_ld rfl rfl (Or.inr (Or.inr ⟨by decide, y1⟩)) ?_
  subst e_q2
  refine w_getf rfl g4 n6 ?_
  refine w_c64 rfl (by decide) 1 (by decide) ?_
  exact w_cs rfl [v5, vl 1] [] rfl rfl (s_wt_4 rfl) k

theorem k409_8 {P : s_P} {d : Nat} {Q : s_O → Prop} {h : s_H} {kc ks : Nat} {r0 : Term} {x1 x2 : Int} {t3 : Term}  (k : wr P d sw_c409 sw_h409 (10, [r0, vi x1, vi x2, vi 0], [], h, kc, ks) Q)   : wr P d sw_c409 sw_h409 (8, [r0, vi x1, vi x2, t3], [], h, kc, ks) Q := by
  refine w_c32 rfl (by decide) 0 (by decide) ?_
  refine w_st (ls' := [r0, vi x1, vi x2, vi 0]) rfl (Or.inl ⟨by decide, rfl⟩) rfl ?_
  exact k

theorem k409_10 {P : s_P} {d : Nat} {Q : s_O → Prop} {h : s_H} {kc ks : Nat} {r0 : Term} {x1 x2 x3 : Int}  (k1 : x1 < x3 → wr P d sw_c409 sw_h409 (61, [r0, vi x1, vi x2, vi x3], [], h, kc, ks) Q) (k2 : ¬ x1 < x3 → wr P d sw_c409 sw_h409 (15, [r0, vi x1, vi x2, vi x3], [], h, kc, ks) Q)  (c1 : In3 x3 := by first | omega | assumption | (simp only [mk_len, List.length_map]; omega) | decide) (c2 : In3 x1 := by first | omega | assumption | (simp only [mk_len, List.length_map]; omega) | decide) : wr P d sw_c409 sw_h409 (10, [r0, vi x1, vi x2, vi x3], [], h, kc, ks) Q := by
  refine w_ld rfl rfl (Or.inl ⟨by decide, rfl⟩) ?_
  refine w_ld rfl rfl (Or.inl ⟨by decide, rfl⟩) ?_
  exact w_if2 rfl c1 c2 k1 k2

theorem k409_15 {P : s_P} {d : Nat} {Q : s_O → Prop} {h : s_H} {kc ks : Nat} {r0 : Term} {x1 x2 x3 : Int}  (k1 : x3 ≠ x2 → wr P d sw_c409 sw_h409 (23, [r0, vi x1, vi x2, vi x3], [], h, kc, ks) Q) (k2 : ¬ x3 ≠ x2 → wr P d sw_c409 sw_h409 (20, [r0, vi x1, vi x2, vi x3], [], h, kc, ks) Q)  (c1 : In3 x3 := by first | omega | assumption | (simp only [mk_len, List.length_map]; omega) | decide) (c2 : In3 x2 := by first | omega | assumption | (simp only [mk_len, List.length_map]; omega) | decide) : wr P d sw_c409 sw_h409 (15, [r0, vi x1, vi x2, vi x3], [], h, kc, ks) Q := by
  refine w_ld rfl rfl (Or.inl ⟨by decide, rfl⟩) ?_
  refine w_ld rfl rfl (Or.inl ⟨by decide, rfl⟩) ?_
  exact w_if2 rfl c1 c2 k1 k2

theorem k409_20 {P : s_P} {d : Nat} {Q : s_O → Prop} {h : s_H} {kc ks : Nat} {r0 : Term} {x1 x2 x3 : Int}  (k : wr P d sw_c409 sw_h409 (55, [r0, vi x1, vi x2, vi x3], [], h, kc, ks) Q)   : wr P d sw_c409 sw_h409 (20, [r0, vi x1, vi x2, vi x3], [], h, kc, ks) Q := by
  refine w_goto rfl ?_
  exact k

theorem k409_23 {P : s_P} {d : Nat} {Q : s_O → Prop} {h : s_H} {kc ks : Nat} {r0 : Term} {x1 x2 x3 : Int} {q2 : Nat} {f3 : List Term} {v5 v7 : Term} (g4 : s_get h q2 = some (1, 11, f3)) (k : wm P d 425 [v5, v7] h (wq P d sw_c409 sw_h409 34 [.index q2, vi x1, vi x2, vi x3] [] kc ks Q)) (e_q2 : r0 = .index q2 := by first | rfl | assumption) (y1 : s_ty r0 = 3 := by first | rfl | assumption) (n6 : s_nth f3 22 = some v5 := by first | rfl | assumption) (n8 : s_nth f3 11 = some v7 := by first | rfl | assumption)  : wr P d sw_c409 sw_h409 (23, [r0, vi x1, vi x2, vi x3], [], h, kc, ks) Q := by
  refine w_ld rfl rfl (Or.inr (Or.inr ⟨by decide, y1⟩)) ?_
  subst e_q2
  refine w_getf rfl g4 n6 ?_
  refine w_ld rfl rfl (Or.inr (Or.inr ⟨by decide, rfl⟩)) ?_
  refine w_getf rfl g4 n8 ?_
  exact w_cs rfl [v5, v7] [] rfl rfl (s_wt_4 rfl) k

theorem k409_34 {P : s_P} {d : Nat} {Q : s_O → Prop} {h : s_H} {kc ks : Nat} {r0 : Term} {x1 x2 x3 : Int} {q2 : Nat} {f3 : List Term} {v5 : Term} (g4 : s_get h q2 = some (1, 11, f3)) (k : wm P d 530 [v5, vl x3] h (wq P d sw_c409 sw_h409 43 [.index q2, vi x1, vi x2, vi x3] [] kc ks Q)) (e_q2 : r0 = .index q2 := by first | rfl | assumption) (y1 : s_ty r0 = 3 := by first | rfl | assumption) (n6 : s_nth f3 22 = some v5 := by first | rfl | assumption) (c7 : In3 x3 := by first | omega | assumption | (simp only [mk_len, List.length_map]; omega) | decide) : wr P d sw_c409 sw_h409 (34, [r0, vi x1, vi x2, vi x3], [], h, kc, ks) Q := by
  refine w_ld rfl rfl (Or.inr (Or.inr ⟨by decide, y1⟩)) ?_
  subst e_q2
  refine w_getf rfl g4 n6 ?_
  refine w_ld rfl rfl (Or.inl ⟨by decide, rfl⟩) ?_
  refine w_i2l rfl c7 ?_
  exact w_cs rfl [v5, vl x3] [] rfl rfl (s_wt_4 rfl) k

theorem k409_43 {P : s_P} {d : Nat} {Q : s_O → Prop} {h : s_H} {kc ks : Nat} {r0 : Term} {x1 x2 x3 : Int} {q2 : Nat} {f3 : List Term} {v5 v7 : Term} (g4 : s_get h q2 = some (1, 11, f3)) (k : wm P d 532 [.index q2, v5, v7] h (wq P d sw_c409 sw_h409 55 [.index q2, vi x1, vi x2, vi x3] [] kc ks Q)) (e_q2 : r0 = .index q2 := by first | rfl | assumption) (y1 : s_ty r0 = 3 := by first | rfl | assumption) (n6 : s_nth f3 23 = some v5 := by first | rfl | assumption) (n8 : s_nth f3 22 = some v7 := by first | rfl | assumption)  : wr P d sw_c409 sw_h409 (43, [r0, vi x1, vi x2, vi x3], [], h, kc, ks) Q := by
  refine w_ld rfl rfl (Or.inr (Or.inr ⟨by decide, y1⟩)) ?_
  refine w_ld rfl rfl (Or.inr (Or.inr ⟨by decide, y1⟩)) ?_
  subst e_q2
  refine w_getf rfl g4 n6 ?_
  refine w_ld rfl rfl (Or.inr (Or.inr ⟨by decide, rfl⟩)) ?_
  refine w_getf rfl g4 n8 ?_
  exact w_cv rfl [.index q2, v5, v7] [] rfl rfl (s_wt_4 rfl) rfl g4 k

theorem k409_55 {P : s_P} {d : Nat} {Q : s_O → Prop} {h : s_H} {kc ks : Nat} {r0 : Term} {x1 x2 x3 : Int}  (k : wr P d sw_c409 sw_h409 (10, [r0, vi x1, vi x2, vi (x3 + 1)], [], h, kc, ks) Q)   : wr P d sw_c409 sw_h409 (55, [r0, vi x1, vi x2, vi x3], [], h, kc, ks) Q := by
  refine w_iinc (ls' := [r0, vi x1, vi x2, vi (x3 + 1)]) rfl rfl 1 (by decide) rfl ?_
  refine w_goto rfl ?_
  exact k

theorem k409_61 {P : s_P} {d : Nat} {Q : s_O → Prop} {h : s_H} {kc ks : Nat} {r0 : Term} {x1 x2 x3 : Int}  (k : Q (.inl none, h, kc, ks))   : wr P d sw_c409 sw_h409 (61, [r0, vi x1, vi x2, vi x3], [], h, kc, ks) Q := by
  exact w_ret rfl k

/-! 410: FormulaWorksModel.bringOut(III)V -/
theorem k410_0 {P : s_P} {d : Nat} {Q : s_O → Prop} {h : s_H} {kc ks : Nat} {r0 : Term} {x1 x2 x3 : Int} {t4 t5 t6 t7 t8 t9 : Term} {q2 : Nat} {f3 : List Term} {v5 : Term} {q7 : Nat} {a8 : List Int} (g4 : s_get h q2 = some (1, 11, f3)) (g9 : s_get h q7 = some (0, 1, a8.map vl)) (k : wm P d 467 [vl (gi a8 ((24 * x1) + x3))] h (wq P d sw_c410 sw_h410 14 [.index q2, vi x1, vi x2, vi x3, t4, t5, t6, t7, t8, t9] [] kc ks Q)) (e_q2 : r0 = .index q2 := by first | rfl | assumption) (e_q7 : v5 = .index q7 := by first | rfl | assumption) (y1 : s_ty r0 = 3 := by first | rfl | assumption) (n6 : s_nth f3 43 = some v5 := by first | rfl | assumption) (c10 : (24 * x1) + x3 < a8.length := by first | omega | assumption | (simp only [mk_len, List.length_map]; omega) | decide) (c11 : 0 ≤ (24 * x1) + x3 := by first | omega | assumption | (simp only [mk_len, List.length_map]; omega) | decide) (c12 : In3 ((24 * x1) + x3) := by first | omega | assumption | (simp only [mk_len, List.length_map]; omega) | decide) : wr P d sw_c410 sw_h410 (0, [r0, vi x1, vi x2, vi x3, t4, t5, t6, t7, t8, t9], [], h, kc, ks) Q := by
  refine w_ld rfl rfl (Or.inr (Or.inr ⟨by decide, y1⟩)) ?_
  subst e_q2
  refine w_getf rfl g4 n6 ?_
  refine w_c32 rfl (by decide) 24 (by decide) ?_
  refine w_ld rfl rfl (Or.inl ⟨by decide, rfl⟩) ?_
  refine w_imul rfl ?_
  refine w_ld rfl rfl (Or.inl ⟨by decide, rfl⟩) ?_
  refine w_iadd rfl ?_
  subst e_q7
  refine w_lald rfl g9 c12 c11 c10 ?_
  exact w_cs rfl [vl (gi a8 ((24 * x1) + x3))] [] rfl rfl (s_wt_4 rfl) k

theorem k410_14 {P : s_P} {d : Nat} {Q : s_O → Prop} {h : s_H} {kc ks : Nat} {r0 : Term} {x1 x2 x3 : Int} {t4 t5 t6 t7 t8 t9 : Term} {s0 : Int}  (k : wr P d sw_c410 sw_h410 (19, [r0, vi x1, vi x2, vi x3, vl s0, .result, vi 0, t7, t8, t9], [], h, kc, ks) Q)   : wr P d sw_c410 sw_h410 (14, [r0, vi x1, vi x2, vi x3, t4, t5, t6, t7, t8, t9], [vl s0], h, kc, ks) Q := by
  refine w_stl (ls' := [r0, vi x1, vi x2, vi x3, vl s0, t5, t6, t7, t8, t9]) (ls'' := [r0, vi x1, vi x2, vi x3, vl s0, .result, t6, t7, t8, t9]) rfl ⟨by decide, rfl⟩ rfl rfl ?_
  refine w_c32 rfl (by decide) 0 (by decide) ?_
  refine w_st (ls' := [r0, vi x1, vi x2, vi x3, vl s0, .result, vi 0, t7, t8, t9]) rfl (Or.inl ⟨by decide, rfl⟩) rfl ?_
  exact k

theorem k410_19 {P : s_P} {d : Nat} {Q : s_O → Prop} {h : s_H} {kc ks : Nat} {r0 : Term} {x1 x2 x3 x4 : Int} {t5 : Term} {x6 : Int} {t7 t8 t9 : Term}  (k1 : 22 ≤ x6 → wr P d sw_c410 sw_h410 (91, [r0, vi x1, vi x2, vi x3, vl x4, t5, vi x6, t7, t8, t9], [], h, kc, ks) Q) (k2 : ¬ 22 ≤ x6 → wr P d sw_c410 sw_h410 (26, [r0, vi x1, vi x2, vi x3, vl x4, t5, vi x6, t7, t8, t9], [], h, kc, ks) Q)  (c1 : In3 x6 := by first | omega | assumption | (simp only [mk_len, List.length_map]; omega) | decide) : wr P d sw_c410 sw_h410 (19, [r0, vi x1, vi x2, vi x3, vl x4, t5, vi x6, t7, t8, t9], [], h, kc, ks) Q := by
  refine w_ld rfl rfl (Or.inl ⟨by decide, rfl⟩) ?_
  refine w_c32 rfl (by decide) 22 (by decide) ?_
  exact w_if2 rfl c1 (by decide) k1 k2

theorem k410_26 {P : s_P} {d : Nat} {Q : s_O → Prop} {h : s_H} {kc ks : Nat} {r0 : Term} {x1 x2 x3 x4 : Int} {t5 : Term} {x6 : Int} {t7 t8 t9 : Term} {q2 : Nat} {f3 : List Term} {v5 : Term} {q7 : Nat} {a8 : List Int} {f18 : List Term} {v20 : Term} {q22 : Nat} {a23 : List Int} (g4 : s_get h q2 = some (1, 11, f3)) (g9 : s_get h q7 = some (0, 1, a8.map vl)) (g19 : s_get (hp h q7 (0, 1, (a8.set (Int.toNat ((24 * x1) + x6)) (gi a8 ((24 * x2) + x6))).map vl)) q2 = some (1, 11, f18)) (g24 : s_get (hp h q7 (0, 1, (a8.set (Int.toNat ((24 * x1) + x6)) (gi a8 ((24 * x2) + x6))).map vl)) q22 = some (0, 1, a23.map vl)) (k : wr P d sw_c410 sw_h410 (19, [.index q2, vi x1, vi x2, vi x3, vl x4, (s_uu t5), vi (x6 + 1), vl (Int.tmod ((gi a8 ((24 * x1) + x6)) * x4) 32003), .result, t9], [], (hp (hp h q7 (0, 1, (a8.set (Int.toNat ((24 * x1) + x6)) (gi a8 ((24 * x2) + x6))).map vl)) q22 (0, 1, (a23.set (Int.toNat ((24 * x2) + x6)) (Int.tmod ((gi a8 ((24 * x1) + x6)) * x4) 32003)).map vl)), kc, ks) Q) (e_q2 : r0 = .index q2 := by first | rfl | assumption) (e_q7 : v5 = .index q7 := by first | rfl | assumption) (e_q22 : v20 = .index q22 := by first | rfl | assumption) (y1 : s_ty r0 = 3 := by first | rfl | assumption) (n6 : s_nth f3 43 = some v5 := by first | rfl | assumption) (n21 : s_nth f18 43 = some v20 := by first | rfl | assumption) (c10 : (24 * x1) + x6 < a8.length := by first | omega | assumption | (simp only [mk_len, List.length_map]; omega) | decide) (c11 : 0 ≤ (24 * x1) + x6 := by first | omega | assumption | (simp only [mk_len, List.length_map]; omega) | decide) (c12 : In3 ((24 * x1) + x6) := by first | omega | assumption | (simp only [mk_len, List.length_map]; omega) | decide) (c13 : In6 ((gi a8 ((24 * x1) + x6)) * x4) := by first | omega | assumption | (simp only [mk_len, List.length_map]; omega) | decide) (c14 : (24 * x2) + x6 < a8.length := by first | omega | assumption | (simp only [mk_len, List.length_map]; omega) | decide) (c15 : 0 ≤ (24 * x2) + x6 := by first | omega | assumption | (simp only [mk_len, List.length_map]; omega) | decide) (c16 : In3 ((24 * x2) + x6) := by first | omega | assumption | (simp only [mk_len, List.length_map]; omega) | decide) (c17 : 0 < q7 := by first | omega | assumption | (simp only [mk_len, List.length_map]; omega) | decide) (c25 : (24 * x2) + x6 < a23.length := by first | omega | assumption | (simp only [mk_len, List.length_map]; omega) | decide) (c26 : 0 < q22 := by first | omega | assumption | (simp only [mk_len, List.length_map]; omega) | decide) : wr P d sw_c410 sw_h410 (26, [r0, vi x1, vi x2, vi x3, vl x4, t5, vi x6, t7, t8, t9], [], h, kc, ks) Q := by
  refine w_ld rfl rfl (Or.inr (Or.inr ⟨by decide, y1⟩)) ?_
  subst e_q2
  refine w_getf rfl g4 n6 ?_
  refine w_c32 rfl (by decide) 24 (by decide) ?_
  refine w_ld rfl rfl (Or.inl ⟨by decide, rfl⟩) ?_
  refine w_imul rfl ?_
  refine w_ld rfl rfl (Or.inl ⟨by decide, rfl⟩) ?_
  refine w_iadd rfl ?_
  subst e_q7
  refine w_lald rfl g9 c12 c11 c10 ?_
  refine w_ld rfl rfl (Or.inr (Or.inl ⟨by decide, rfl⟩)) ?_
  refine w_lmul rfl ?_
  refine w_c64 rfl (by decide) 32003 (by decide) ?_
  refine w_lrem rfl c13 (by decide) (by decide) ?_
  refine w_stl (ls' := [.index q2, vi x1, vi x2, vi x3, vl x4, t5, vi x6, vl (Int.tmod ((gi a8 ((24 * x1) + x6)) * x4) 32003), t8, t9]) (ls'' := [.index q2, vi x1, vi x2, vi x3, vl x4, t5, vi x6, vl (Int.tmod ((gi a8 ((24 * x1) + x6)) * x4) 32003), .result, t9]) rfl ⟨by decide, rfl⟩ rfl rfl ?_
  refine w_ld rfl rfl (Or.inr (Or.inr ⟨by decide, rfl⟩)) ?_
  refine w_getf rfl g4 n6 ?_
  refine w_c32 rfl (by decide) 24 (by decide) ?_
  refine w_ld rfl rfl (Or.inl ⟨by decide, rfl⟩) ?_
  refine w_imul rfl ?_
  refine w_ld rfl rfl (Or.inl ⟨by decide, rfl⟩) ?_
  refine w_iadd rfl ?_
  refine w_ld rfl rfl (Or.inr (Or.inr ⟨by decide, rfl⟩)) ?_
  refine w_getf rfl g4 n6 ?_
  refine w_c32 rfl (by decide) 24 (by decide) ?_
  refine w_ld rfl rfl (Or.inl ⟨by decide, rfl⟩) ?_
  refine w_imul rfl ?_
  refine w_ld rfl rfl (Or.inl ⟨by decide, rfl⟩) ?_
  refine w_iadd rfl ?_
  refine w_lald rfl g9 c16 c15 c14 ?_
  refine w_last rfl g9 (Nat.ble_eq_true_of_le c17) c12 c11 c10 ?_
  refine w_ld rfl rfl (Or.inr (Or.inr ⟨by decide, rfl⟩)) ?_
  refine w_getf rfl g19 n21 ?_
  refine w_c32 rfl (by decide) 24 (by decide) ?_
  refine w_ld rfl rfl (Or.inl ⟨by decide, rfl⟩) ?_
  refine w_imul rfl ?_
  refine w_ld rfl rfl (Or.inl ⟨by decide, rfl⟩) ?_
  refine w_iadd rfl ?_
  refine w_ld rfl rfl (Or.inr (Or.inl ⟨by decide, rfl⟩)) ?_
  subst e_q22
  refine w_last rfl g24 (Nat.ble_eq_true_of_le c26) c16 c15 c25 ?_
  refine w_iinc (ls' := [.index q2, vi x1, vi x2, vi x3, vl x4, (s_uu t5), vi (x6 + 1), vl (Int.tmod ((gi a8 ((24 * x1) + x6)) * x4) 32003), .result, t9]) rfl rfl 1 (by decide) (s_stK_t (pre := [.index q2, vi x1, vi x2, vi x3, vl x4])) ?_
  refine w_goto rfl ?_
  exact k

theorem k410_91 {P : s_P} {d : Nat} {Q : s_O → Prop} {h : s_H} {kc ks : Nat} {r0 : Term} {x1 x2 x3 x4 : Int} {t5 : Term} {x6 : Int} {t7 t8 t9 : Term}  (k : wr P d sw_c410 sw_h410 (94, [r0, vi x1, vi x2, vi x3, vl x4, (s_uu t5), vi 0, t7, t8, t9], [], h, kc, ks) Q)   : wr P d sw_c410 sw_h410 (91, [r0, vi x1, vi x2, vi x3, vl x4, t5, vi x6, t7, t8, t9], [], h, kc, ks) Q := by
  refine w_c32 rfl (by decide) 0 (by decide) ?_
  refine w_st (ls' := [r0, vi x1, vi x2, vi x3, vl x4, (s_uu t5), vi 0, t7, t8, t9]) rfl (Or.inl ⟨by decide, rfl⟩) (s_stK_t (pre := [r0, vi x1, vi x2, vi x3, vl x4])) ?_
  exact k

theorem k410_94 {P : s_P} {d : Nat} {Q : s_O → Prop} {h : s_H} {kc ks : Nat} {r0 : Term} {x1 x2 x3 x4 : Int} {t5 : Term} {x6 : Int} {t7 t8 t9 : Term}  (k1 : 80 ≤ x6 → wr P d sw_c410 sw_h410 (199, [r0, vi x1, vi x2, vi x3, vl x4, t5, vi x6, t7, t8, t9], [], h, kc, ks) Q) (k2 : ¬ 80 ≤ x6 → wr P d sw_c410 sw_h410 (101, [r0, vi x1, vi x2, vi x3, vl x4, t5, vi x6, t7, t8, t9], [], h, kc, ks) Q)  (c1 : In3 x6 := by first | omega | assumption | (simp only [mk_len, List.length_map]; omega) | decide) : wr P d sw_c410 sw_h410 (94, [r0, vi x1, vi x2, vi x3, vl x4, t5, vi x6, t7, t8, t9], [], h, kc, ks) Q := by
  refine w_ld rfl rfl (Or.inl ⟨by decide, rfl⟩) ?_
  refine w_c32 rfl (by decide) 80 (by decide) ?_
  exact w_if2 rfl c1 (by decide) k1 k2

theorem k410_101 {P : s_P} {d : Nat} {Q : s_O → Prop} {h : s_H} {kc ks : Nat} {r0 : Term} {x1 x2 x3 x4 : Int} {t5 : Term} {x6 : Int} {t7 t8 t9 : Term}  (k1 : x6 ≠ x2 → wr P d sw_c410 sw_h410 (111, [r0, vi x1, vi x2, vi x3, vl x4, t5, vi x6, t7, t8, t9], [], h, kc, ks) Q) (k2 : ¬ x6 ≠ x2 → wr P d sw_c410 sw_h410 (107, [r0, vi x1, vi x2, vi x3, vl x4, t5, vi x6, t7, t8, t9], [], h, kc, ks) Q)  (c1 : In3 x6 := by first | omega | assumption | (simp only [mk_len, List.length_map]; omega) | decide) (c2 : In3 x2 := by first | omega | assumption | (simp only [mk_len, List.length_map]; omega) | decide) : wr P d sw_c410 sw_h410 (101, [r0, vi x1, vi x2, vi x3, vl x4, t5, vi x6, t7, t8, t9], [], h, kc, ks) Q := by
  refine w_ld rfl rfl (Or.inl ⟨by decide, rfl⟩) ?_
  refine w_ld rfl rfl (Or.inl ⟨by decide, rfl⟩) ?_
  exact w_if2 rfl c1 c2 k1 k2

theorem k410_107 {P : s_P} {d : Nat} {Q : s_O → Prop} {h : s_H} {kc ks : Nat} {r0 : Term} {x1 x2 x3 x4 : Int} {t5 : Term} {x6 : Int} {t7 t8 t9 : Term}  (k : wr P d sw_c410 sw_h410 (123, [r0, vi x1, vi x2, vi x3, vl x4, t5, vi x6, t7, t8, t9], [vl 0], h, kc, ks) Q)   : wr P d sw_c410 sw_h410 (107, [r0, vi x1, vi x2, vi x3, vl x4, t5, vi x6, t7, t8, t9], [], h, kc, ks) Q := by
  refine w_c64 rfl (by decide) 0 (by decide) ?_
  refine w_goto rfl ?_
  exact k

theorem k410_111 {P : s_P} {d : Nat} {Q : s_O → Prop} {h : s_H} {kc ks : Nat} {r0 : Term} {x1 x2 x3 x4 : Int} {t5 : Term} {x6 : Int} {t7 t8 t9 : Term} {q2 : Nat} {f3 : List Term} {v5 : Term} {q7 : Nat} {a8 : List Int} (g4 : s_get h q2 = some (1, 11, f3)) (g9 : s_get h q7 = some (0, 1, a8.map vl)) (k : wr P d sw_c410 sw_h410 (123, [.index q2, vi x1, vi x2, vi x3, vl x4, t5, vi x6, t7, t8, t9], [vl (gi a8 ((24 * x6) + x3))], h, kc, ks) Q) (e_q2 : r0 = .index q2 := by first | rfl | assumption) (e_q7 : v5 = .index q7 := by first | rfl | assumption) (y1 : s_ty r0 = 3 := by first | rfl | assumption) (n6 : s_nth f3 43 = some v5 := by first | rfl | assumption) (c10 : (24 * x6) + x3 < a8.length := by first | omega | assumption | (simp only [mk_len, List.length_map]; omega) | decide) (c11 : 0 ≤ (24 * x6) + x3 := by first | omega | assumption | (simp only [mk_len, List.length_map]; omega) | decide) (c12 : In3 ((24 * x6) + x3) := by first | omega | assumption | (simp only [mk_len, List.length_map]; omega) | decide) : wr P d sw_c410 sw_h410 (111, [r0, vi x1, vi x2, vi x3, vl x4, t5, vi x6, t7, t8, t9], [], h, kc, ks) Q := by
  refine w_ld rfl rfl (Or.inr (Or.inr ⟨by decide, y1⟩)) ?_
  subst e_q2
  refine w_getf rfl g4 n6 ?_
  refine w_c32 rfl (by decide) 24 (by decide) ?_
  refine w_ld rfl rfl (Or.inl ⟨by decide, rfl⟩) ?_
  refine w_imul rfl ?_
  refine w_ld rfl rfl (Or.inl ⟨by decide, rfl⟩) ?_
  refine w_iadd rfl ?_
  subst e_q7
  refine w_lald rfl g9 c12 c11 c10 ?_
  exact k

theorem k410_123 {P : s_P} {d : Nat} {Q : s_O → Prop} {h : s_H} {kc ks : Nat} {r0 : Term} {x1 x2 x3 x4 : Int} {t5 : Term} {x6 : Int} {t7 t8 t9 : Term} {s0 : Int}  (k : wr P d sw_c410 sw_h410 (128, [r0, vi x1, vi x2, vi x3, vl x4, t5, vi x6, vl s0, .result, vi 0], [], h, kc, ks) Q)   : wr P d sw_c410 sw_h410 (123, [r0, vi x1, vi x2, vi x3, vl x4, t5, vi x6, t7, t8, t9], [vl s0], h, kc, ks) Q := by
  refine w_stl (ls' := [r0, vi x1, vi x2, vi x3, vl x4, t5, vi x6, vl s0, t8, t9]) (ls'' := [r0, vi x1, vi x2, vi x3, vl x4, t5, vi x6, vl s0, .result, t9]) rfl ⟨by decide, rfl⟩ rfl rfl ?_
  refine w_c32 rfl (by decide) 0 (by decide) ?_
  refine w_st (ls' := [r0, vi x1, vi x2, vi x3, vl x4, t5, vi x6, vl s0, .result, vi 0]) rfl (Or.inl ⟨by decide, rfl⟩) rfl ?_
  exact k

theorem k410_128 {P : s_P} {d : Nat} {Q : s_O → Prop} {h : s_H} {kc ks : Nat} {r0 : Term} {x1 x2 x3 x4 : Int} {t5 : Term} {x6 x7 : Int} {t8 : Term} {x9 : Int}  (k1 : 22 ≤ x9 → wr P d sw_c410 sw_h410 (193, [r0, vi x1, vi x2, vi x3, vl x4, t5, vi x6, vl x7, t8, vi x9], [], h, kc, ks) Q) (k2 : ¬ 22 ≤ x9 → wr P d sw_c410 sw_h410 (135, [r0, vi x1, vi x2, vi x3, vl x4, t5, vi x6, vl x7, t8, vi x9], [], h, kc, ks) Q)  (c1 : In3 x9 := by first | omega | assumption | (simp only [mk_len, List.length_map]; omega) | decide) : wr P d sw_c410 sw_h410 (128, [r0, vi x1, vi x2, vi x3, vl x4, t5, vi x6, vl x7, t8, vi x9], [], h, kc, ks) Q := by
  refine w_ld rfl rfl (Or.inl ⟨by decide, rfl⟩) ?_
  refine w_c32 rfl (by decide) 22 (by decide) ?_
  exact w_if2 rfl c1 (by decide) k1 k2

theorem k410_135 {P : s_P} {d : Nat} {Q : s_O → Prop} {h : s_H} {kc ks : Nat} {r0 : Term} {x1 x2 x3 x4 : Int} {t5 : Term} {x6 x7 : Int} {t8 : Term} {x9 : Int}  (k1 : x7 ≤ 0 → wr P d sw_c410 sw_h410 (193, [r0, vi x1, vi x2, vi x3, vl x4, t5, vi x6, vl x7, t8, vi x9], [], h, kc, ks) Q) (k2 : ¬ x7 ≤ 0 → wr P d sw_c410 sw_h410 (142, [r0, vi x1, vi x2, vi x3, vl x4, t5, vi x6, vl x7, t8, vi x9], [], h, kc, ks) Q)  (c1 : In6 x7 := by first | omega | assumption | (simp only [mk_len, List.length_map]; omega) | decide) : wr P d sw_c410 sw_h410 (135, [r0, vi x1, vi x2, vi x3, vl x4, t5, vi x6, vl x7, t8, vi x9], [], h, kc, ks) Q := by
  refine w_ld rfl rfl (Or.inr (Or.inl ⟨by decide, rfl⟩)) ?_
  refine w_c64 rfl (by decide) 0 (by decide) ?_
  exact w_lcmp rfl rfl c1 (by decide) k1 k2

theorem k410_142 {P : s_P} {d : Nat} {Q : s_O → Prop} {h : s_H} {kc ks : Nat} {r0 : Term} {x1 x2 x3 x4 : Int} {t5 : Term} {x6 x7 : Int} {t8 : Term} {x9 : Int} {q2 : Nat} {f3 : List Term} {v5 : Term} {q7 : Nat} {a8 : List Int} (g4 : s_get h q2 = some (1, 11, f3)) (g9 : s_get h q7 = some (0, 1, a8.map vl)) (k : wm P d 528 [vl ((gi a8 ((24 * x6) + x9)) - (x7 * (gi a8 ((24 * x2) + x9))))] h (wq P d sw_c410 sw_h410 186 [.index q2, vi x1, vi x2, vi x3, vl x4, t5, vi x6, vl x7, t8, vi x9] [vi ((24 * x6) + x9), .index q7] kc ks Q)) (e_q2 : r0 = .index q2 := by first | rfl | assumption) (e_q7 : v5 = .index q7 := by first | rfl | assumption) (y1 : s_ty r0 = 3 := by first | rfl | assumption) (n6 : s_nth f3 43 = some v5 := by first | rfl | assumption) (c10 : (24 * x6) + x9 < a8.length := by first | omega | assumption | (simp only [mk_len, List.length_map]; omega) | decide) (c11 : 0 ≤ (24 * x6) + x9 := by first | omega | assumption | (simp only [mk_len, List.length_map]; omega) | decide) (c12 : In3 ((24 * x6) + x9) := by first | omega | assumption | (simp only [mk_len, List.length_map]; omega) | decide) (c13 : (24 * x2) + x9 < a8.length := by first | omega | assumption | (simp only [mk_len, List.length_map]; omega) | decide) (c14 : 0 ≤ (24 * x2) + x9 := by first | omega | assumption | (simp only [mk_len, List.length_map]; omega) | decide) (c15 : In3 ((24 * x2) + x9) := by first | omega | assumption | (simp only [mk_len, List.length_map]; omega) | decide) : wr P d sw_c410 sw_h410 (142, [r0, vi x1, vi x2, vi x3, vl x4, t5, vi x6, vl x7, t8, vi x9], [], h, kc, ks) Q := by
  refine w_ld rfl rfl (Or.inr (Or.inr ⟨by decide, y1⟩)) ?_
  subst e_q2
  refine w_getf rfl g4 n6 ?_
  refine w_c32 rfl (by decide) 24 (by decide) ?_
  refine w_ld rfl rfl (Or.inl ⟨by decide, rfl⟩) ?_
  refine w_imul rfl ?_
  refine w_ld rfl rfl (Or.inl ⟨by decide, rfl⟩) ?_
  refine w_iadd rfl ?_
  refine w_ld rfl rfl (Or.inr (Or.inr ⟨by decide, rfl⟩)) ?_
  refine w_getf rfl g4 n6 ?_
  refine w_c32 rfl (by decide) 24 (by decide) ?_
  refine w_ld rfl rfl (Or.inl ⟨by decide, rfl⟩) ?_
  refine w_imul rfl ?_
  refine w_ld rfl rfl (Or.inl ⟨by decide, rfl⟩) ?_
  refine w_iadd rfl ?_
  subst e_q7
  refine w_lald rfl g9 c12 c11 c10 ?_
  refine w_ld rfl rfl (Or.inr (Or.inl ⟨by decide, rfl⟩)) ?_
  refine w_ld rfl rfl (Or.inr (Or.inr ⟨by decide, rfl⟩)) ?_
  refine w_getf rfl g4 n6 ?_
  refine w_c32 rfl (by decide) 24 (by decide) ?_
  refine w_ld rfl rfl (Or.inl ⟨by decide, rfl⟩) ?_
  refine w_imul rfl ?_
  refine w_ld rfl rfl (Or.inl ⟨by decide, rfl⟩) ?_
  refine w_iadd rfl ?_
  refine w_lald rfl g9 c15 c14 c13 ?_
  refine w_lmul rfl ?_
  refine w_lsub rfl ?_
  exact w_cs rfl [vl ((gi a8 ((24 * x6) + x9)) - (x7 * (gi a8 ((24 * x2) + x9))))] [vi ((24 * x6) + x9), .index q7] rfl rfl (s_wt_4 rfl) k

theorem k410_186 {P : s_P} {d : Nat} {Q : s_O → Prop} {h : s_H} {kc ks : Nat} {r0 : Term} {x1 x2 x3 x4 : Int} {t5 : Term} {x6 x7 : Int} {t8 : Term} {x9 : Int} {s0 : Term} {s1 s2 : Int} {q1 : Nat} {a2 : List Int} (g3 : s_get h q1 = some (0, 1, a2.map vl)) (k : wr P d sw_c410 sw_h410 (128, [r0, vi x1, vi x2, vi x3, vl x4, t5, vi x6, vl x7, (s_uu t8), vi (x9 + 1)], [], (hp h q1 (0, 1, (a2.set (Int.toNat (s1)) s2).map vl)), kc, ks) Q) (e_q1 : s0 = .index q1 := by first | rfl | assumption) (c4 : s1 < a2.length := by first | omega | assumption | (simp only [mk_len, List.length_map]; omega) | decide) (c5 : 0 ≤ s1 := by first | omega | assumption | (simp only [mk_len, List.length_map]; omega) | decide) (c6 : In3 s1 := by first | omega | assumption | (simp only [mk_len, List.length_map]; omega) | decide) (c7 : 0 < q1 := by first | omega | assumption | (simp only [mk_len, List.length_map]; omega) | decide) : wr P d sw_c410 sw_h410 (186, [r0, vi x1, vi x2, vi x3, vl x4, t5, vi x6, vl x7, t8, vi x9], [vl s2, vi s1, s0], h, kc, ks) Q := by
  subst e_q1
  refine w_last rfl g3 (Nat.ble_eq_true_of_le c7) c6 c5 c4 ?_
  refine w_iinc (ls' := [r0, vi x1, vi x2, vi x3, vl x4, t5, vi x6, vl x7, (s_uu t8), vi (x9 + 1)]) rfl rfl 1 (by decide) (s_stK_t (pre := [r0, vi x1, vi x2, vi x3, vl x4, t5, vi x6, vl x7])) ?_
  refine w_goto rfl ?_
  exact k

theorem k410_193 {P : s_P} {d : Nat} {Q : s_O → Prop} {h : s_H} {kc ks : Nat} {r0 : Term} {x1 x2 x3 x4 : Int} {t5 : Term} {x6 x7 : Int} {t8 : Term} {x9 : Int}  (k : wr P d sw_c410 sw_h410 (94, [r0, vi x1, vi x2, vi x3, vl x4, (s_uu t5), vi (x6 + 1), vl x7, t8, vi x9], [], h, kc, ks) Q)   : wr P d sw_c410 sw_h410 (193, [r0, vi x1, vi x2, vi x3, vl x4, t5, vi x6, vl x7, t8, vi x9], [], h, kc, ks) Q := by
  refine w_iinc (ls' := [r0, vi x1, vi x2, vi x3, vl x4, (s_uu t5), vi (x6 + 1), vl x7, t8, vi x9]) rfl rfl 1 (by decide) (s_stK_t (pre := [r0, vi x1, vi x2, vi x3, vl x4])) ?_
  refine w_goto rfl ?_
  exact k

theorem k410_199 {P : s_P} {d : Nat} {Q : s_O → Prop} {h : s_H} {kc ks : Nat} {r0 : Term} {x1 x2 x3 x4 : Int} {t5 : Term} {x6 : Int} {t7 t8 t9 : Term}  (k : Q (.inl none, h, kc, ks))   : wr P d sw_c410 sw_h410 (199, [r0, vi x1, vi x2, vi x3, vl x4, t5, vi x6, t7, t8, t9], [], h, kc, ks) Q := by
  exact w_ret rfl k

