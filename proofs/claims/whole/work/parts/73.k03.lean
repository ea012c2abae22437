/-! 222: FormulaWorks$Rules.ruleOf([III)LFormulaWorks$Thing; -/
theorem k222_0 {P : s_P} {d : Nat} {Q : s_O → Prop} {h : s_H} {kc ks : Nat} {r0 r1 : Term} {x2 x3 : Int} {t4 t5 t6 t7 t8 t9 t10 : Term} {q2 : Nat} {f3 : List Term} {v5 : Term} {q7 : Nat} {f8 : List Term} (g4 : s_get h q2 = some (1, 6, f3)) (g9 : s_get h q7 = some (1, 1, f8)) (k : wm P d 124 [.index q7, vi (25 - x2), vi ((x2 + 1) * (x3 + 1))] h (wq P d sw_c222 sw_h222 22 [.index q2, r1, vi x2, vi x3, vi (x3 + 1), t5, t6, t7, t8, t9, t10] [] kc ks Q)) (e_q2 : r0 = .index q2 := by first | rfl | assumption) (e_q7 : v5 = .index q7 := by first | rfl | assumption) (y1 : s_ty r0 = 3 := by first | rfl | assumption) (n6 : s_nth f3 1 = some v5 := by first | rfl | assumption)  : wr P d sw_c222 sw_h222 (0, [r0, r1, vi x2, vi x3, t4, t5, t6, t7, t8, t9, t10], [], h, kc, ks) Q := by
  refine w_ld rfl rfl (Or.inl ⟨by decide, rfl⟩) ?_
  refine w_c32 rfl (by decide) 1 (by decide) ?_
  refine w_iadd rfl ?_
  refine w_st (ls' := [r0, r1, vi x2, vi x3, vi (x3 + 1), t5, t6, t7, t8, t9, t10]) rfl (Or.inl ⟨by decide, rfl⟩) rfl ?_
  refine w_ld rfl rfl (Or.inr (Or.inr ⟨by decide, y1⟩)) ?_
  subst e_q2
  refine w_getf rfl g4 n6 ?_
  refine w_c32 rfl (by decide) 25 (by decide) ?_
  refine w_ld rfl rfl (Or.inl ⟨by decide, rfl⟩) ?_
  refine w_isub rfl ?_
  refine w_ld rfl rfl (Or.inl ⟨by decide, rfl⟩) ?_
  refine w_c32 rfl (by decide) 1 (by decide) ?_
  refine w_iadd rfl ?_
  refine w_ld rfl rfl (Or.inl ⟨by decide, rfl⟩) ?_
  refine w_imul rfl ?_
  subst e_q7
  exact w_cv rfl [.index q7, vi (25 - x2), vi ((x2 + 1) * (x3 + 1))] [] rfl rfl (s_wt_4 rfl) rfl g9 k

theorem k222_22 {P : s_P} {d : Nat} {Q : s_O → Prop} {h : s_H} {kc ks : Nat} {r0 r1 : Term} {x2 x3 x4 : Int} {t5 t6 t7 t8 t9 t10 : Term}  (k : wr P d sw_c222 sw_h222 (25, [r0, r1, vi x2, vi x3, vi x4, vi 0, t6, t7, t8, t9, t10], [], h, kc, ks) Q)   : wr P d sw_c222 sw_h222 (22, [r0, r1, vi x2, vi x3, vi x4, t5, t6, t7, t8, t9, t10], [], h, kc, ks) Q := by
  refine w_c32 rfl (by decide) 0 (by decide) ?_
  refine w_st (ls' := [r0, r1, vi x2, vi x3, vi x4, vi 0, t6, t7, t8, t9, t10]) rfl (Or.inl ⟨by decide, rfl⟩) rfl ?_
  exact k

theorem k222_25 {P : s_P} {d : Nat} {Q : s_O → Prop} {h : s_H} {kc ks : Nat} {r0 r1 : Term} {x2 x3 x4 x5 : Int} {t6 t7 t8 t9 t10 : Term}  (k1 : 25 - x2 ≤ x5 → wr P d sw_c222 sw_h222 (109, [r0, r1, vi x2, vi x3, vi x4, vi x5, t6, t7, t8, t9, t10], [], h, kc, ks) Q) (k2 : ¬ 25 - x2 ≤ x5 → wr P d sw_c222 sw_h222 (34, [r0, r1, vi x2, vi x3, vi x4, vi x5, t6, t7, t8, t9, t10], [], h, kc, ks) Q)  (c1 : In3 x5 := by first | omega | assumption | (simp only [mk_len, List.length_map]; omega) | decide) (c2 : In3 (25 - x2) := by first | omega | assumption | (simp only [mk_len, List.length_map]; omega) | decide) : wr P d sw_c222 sw_h222 (25, [r0, r1, vi x2, vi x3, vi x4, vi x5, t6, t7, t8, t9, t10], [], h, kc, ks) Q := by
  refine w_ld rfl rfl (Or.inl ⟨by decide, rfl⟩) ?_
  refine w_c32 rfl (by decide) 25 (by decide) ?_
  refine w_ld rfl rfl (Or.inl ⟨by decide, rfl⟩) ?_
  refine w_isub rfl ?_
  exact w_if2 rfl c1 c2 k1 k2

theorem k222_34 {P : s_P} {d : Nat} {Q : s_O → Prop} {h : s_H} {kc ks : Nat} {r0 r1 : Term} {x2 x3 x4 x5 : Int} {t6 t7 t8 t9 t10 : Term}  (k : wr P d sw_c222 sw_h222 (37, [r0, r1, vi x2, vi x3, vi x4, vi x5, vi 0, t7, t8, t9, t10], [], h, kc, ks) Q)   : wr P d sw_c222 sw_h222 (34, [r0, r1, vi x2, vi x3, vi x4, vi x5, t6, t7, t8, t9, t10], [], h, kc, ks) Q := by
  refine w_c32 rfl (by decide) 0 (by decide) ?_
  refine w_st (ls' := [r0, r1, vi x2, vi x3, vi x4, vi x5, vi 0, t7, t8, t9, t10]) rfl (Or.inl ⟨by decide, rfl⟩) rfl ?_
  exact k

theorem k222_37 {P : s_P} {d : Nat} {Q : s_O → Prop} {h : s_H} {kc ks : Nat} {r0 r1 : Term} {x2 x3 x4 x5 x6 : Int} {t7 t8 t9 t10 : Term}  (k1 : x2 < x6 → wr P d sw_c222 sw_h222 (103, [r0, r1, vi x2, vi x3, vi x4, vi x5, vi x6, t7, t8, t9, t10], [], h, kc, ks) Q) (k2 : ¬ x2 < x6 → wr P d sw_c222 sw_h222 (43, [r0, r1, vi x2, vi x3, vi x4, vi x5, vi x6, t7, t8, t9, t10], [], h, kc, ks) Q)  (c1 : In3 x6 := by first | omega | assumption | (simp only [mk_len, List.length_map]; omega) | decide) (c2 : In3 x2 := by first | omega | assumption | (simp only [mk_len, List.length_map]; omega) | decide) : wr P d sw_c222 sw_h222 (37, [r0, r1, vi x2, vi x3, vi x4, vi x5, vi x6, t7, t8, t9, t10], [], h, kc, ks) Q := by
  refine w_ld rfl rfl (Or.inl ⟨by decide, rfl⟩) ?_
  refine w_ld rfl rfl (Or.inl ⟨by decide, rfl⟩) ?_
  exact w_if2 rfl c1 c2 k1 k2

theorem k222_43 {P : s_P} {d : Nat} {Q : s_O → Prop} {h : s_H} {kc ks : Nat} {r0 r1 : Term} {x2 x3 x4 x5 x6 : Int} {t7 t8 t9 t10 : Term} {q2 : Nat} {a3 : List Int} (g4 : s_get h q2 = some (0, 0, a3.map vi)) (k : wr P d sw_c222 sw_h222 (55, [r0, .index q2, vi x2, vi x3, vi x4, vi x5, vi x6, vi (gi a3 (x5 + x6)), vi 0, t9, t10], [], h, kc, ks) Q) (e_q2 : r1 = .index q2 := by first | rfl | assumption) (y1 : s_ty r1 = 3 := by first | rfl | assumption) (c5 : x5 + x6 < a3.length := by first | omega | assumption | (simp only [mk_len, List.length_map]; omega) | decide) (c6 : 0 ≤ x5 + x6 := by first | omega | assumption | (simp only [mk_len, List.length_map]; omega) | decide) (c7 : In3 (x5 + x6) := by first | omega | assumption | (simp only [mk_len, List.length_map]; omega) | decide) : wr P d sw_c222 sw_h222 (43, [r0, r1, vi x2, vi x3, vi x4, vi x5, vi x6, t7, t8, t9, t10], [], h, kc, ks) Q := by
  refine w_ld rfl rfl (Or.inr (Or.inr ⟨by decide, y1⟩)) ?_
  refine w_ld rfl rfl (Or.inl ⟨by decide, rfl⟩) ?_
  refine w_ld rfl rfl (Or.inl ⟨by decide, rfl⟩) ?_
  refine w_iadd rfl ?_
  subst e_q2
  refine w_iald rfl g4 (Or.inl rfl) c7 c6 c5 ?_
  refine w_st (ls' := [r0, .index q2, vi x2, vi x3, vi x4, vi x5, vi x6, vi (gi a3 (x5 + x6)), t8, t9, t10]) rfl (Or.inl ⟨by decide, rfl⟩) rfl ?_
  refine w_c32 rfl (by decide) 0 (by decide) ?_
  refine w_st (ls' := [r0, .index q2, vi x2, vi x3, vi x4, vi x5, vi x6, vi (gi a3 (x5 + x6)), vi 0, t9, t10]) rfl (Or.inl ⟨by decide, rfl⟩) rfl ?_
  exact k

theorem k222_55 {P : s_P} {d : Nat} {Q : s_O → Prop} {h : s_H} {kc ks : Nat} {r0 r1 : Term} {x2 x3 x4 x5 x6 x7 x8 : Int} {t9 t10 : Term}  (k1 : x3 < x8 → wr P d sw_c222 sw_h222 (97, [r0, r1, vi x2, vi x3, vi x4, vi x5, vi x6, vi x7, vi x8, t9, t10], [], h, kc, ks) Q) (k2 : ¬ x3 < x8 → wr P d sw_c222 sw_h222 (61, [r0, r1, vi x2, vi x3, vi x4, vi x5, vi x6, vi x7, vi x8, t9, t10], [], h, kc, ks) Q)  (c1 : In3 x8 := by first | omega | assumption | (simp only [mk_len, List.length_map]; omega) | decide) (c2 : In3 x3 := by first | omega | assumption | (simp only [mk_len, List.length_map]; omega) | decide) : wr P d sw_c222 sw_h222 (55, [r0, r1, vi x2, vi x3, vi x4, vi x5, vi x6, vi x7, vi x8, t9, t10], [], h, kc, ks) Q := by
  refine w_ld rfl rfl (Or.inl ⟨by decide, rfl⟩) ?_
  refine w_ld rfl rfl (Or.inl ⟨by decide, rfl⟩) ?_
  exact w_if2 rfl c1 c2 k1 k2

theorem k222_61 {P : s_P} {d : Nat} {Q : s_O → Prop} {h : s_H} {kc ks : Nat} {r0 r1 : Term} {x2 x3 x4 x5 x6 x7 x8 : Int} {t9 t10 : Term} {q2 : Nat} {f3 : List Term} {v5 : Term} {q7 : Nat} {f8 : List Term} (g4 : s_get h q2 = some (1, 6, f3)) (g9 : s_get h q7 = some (1, 1, f8)) (k : wm P d 130 [.index q7, vi x5, vi ((x6 * x4) + x8), vi x7] h (wq P d sw_c222 sw_h222 80 [.index q2, r1, vi x2, vi x3, vi x4, vi x5, vi x6, vi x7, vi x8, t9, t10] [] kc ks Q)) (e_q2 : r0 = .index q2 := by first | rfl | assumption) (e_q7 : v5 = .index q7 := by first | rfl | assumption) (y1 : s_ty r0 = 3 := by first | rfl | assumption) (n6 : s_nth f3 1 = some v5 := by first | rfl | assumption)  : wr P d sw_c222 sw_h222 (61, [r0, r1, vi x2, vi x3, vi x4, vi x5, vi x6, vi x7, vi x8, t9, t10], [], h, kc, ks) Q := by
  refine w_ld rfl rfl (Or.inr (Or.inr ⟨by decide, y1⟩)) ?_
  subst e_q2
  refine w_getf rfl g4 n6 ?_
  refine w_ld rfl rfl (Or.inl ⟨by decide, rfl⟩) ?_
  refine w_ld rfl rfl (Or.inl ⟨by decide, rfl⟩) ?_
  refine w_ld rfl rfl (Or.inl ⟨by decide, rfl⟩) ?_
  refine w_imul rfl ?_
  refine w_ld rfl rfl (Or.inl ⟨by decide, rfl⟩) ?_
  refine w_iadd rfl ?_
  refine w_ld rfl rfl (Or.inl ⟨by decide, rfl⟩) ?_
  subst e_q7
  exact w_cv rfl [.index q7, vi x5, vi ((x6 * x4) + x8), vi x7] [] rfl rfl (s_wt_4 rfl) rfl g9 k

theorem k222_80 {P : s_P} {d : Nat} {Q : s_O → Prop} {h : s_H} {kc ks : Nat} {r0 r1 : Term} {x2 x3 x4 x5 x6 x7 x8 : Int} {t9 t10 : Term}  (k : wr P d sw_c222 sw_h222 (55, [r0, r1, vi x2, vi x3, vi x4, vi x5, vi x6, vi (Int.tmod (x7 * x5) 32003), vi (x8 + 1), t9, t10], [], h, kc, ks) Q)  (c1 : In3 (x7 * x5) := by first | omega | assumption | (simp only [mk_len, List.length_map]; omega) | decide) : wr P d sw_c222 sw_h222 (80, [r0, r1, vi x2, vi x3, vi x4, vi x5, vi x6, vi x7, vi x8, t9, t10], [], h, kc, ks) Q := by
  refine w_ld rfl rfl (Or.inl ⟨by decide, rfl⟩) ?_
  refine w_ld rfl rfl (Or.inl ⟨by decide, rfl⟩) ?_
  refine w_imul rfl ?_
  refine w_c32 rfl (by decide) 32003 (by decide) ?_
  refine w_irem rfl c1 (by decide) (by decide) ?_
  refine w_st (ls' := [r0, r1, vi x2, vi x3, vi x4, vi x5, vi x6, vi (Int.tmod (x7 * x5) 32003), vi x8, t9, t10]) rfl (Or.inl ⟨by decide, rfl⟩) rfl ?_
  refine w_iinc (ls' := [r0, r1, vi x2, vi x3, vi x4, vi x5, vi x6, vi (Int.tmod (x7 * x5) 32003), vi (x8 + 1), t9, t10]) rfl rfl 1 (by decide) rfl ?_
  refine w_goto rfl ?_
  exact k

theorem k222_97 {P : s_P} {d : Nat} {Q : s_O → Prop} {h : s_H} {kc ks : Nat} {r0 r1 : Term} {x2 x3 x4 x5 x6 x7 x8 : Int} {t9 t10 : Term}  (k : wr P d sw_c222 sw_h222 (37, [r0, r1, vi x2, vi x3, vi x4, vi x5, vi (x6 + 1), vi x7, vi x8, t9, t10], [], h, kc, ks) Q)   : wr P d sw_c222 sw_h222 (97, [r0, r1, vi x2, vi x3, vi x4, vi x5, vi x6, vi x7, vi x8, t9, t10], [], h, kc, ks) Q := by
  refine w_iinc (ls' := [r0, r1, vi x2, vi x3, vi x4, vi x5, vi (x6 + 1), vi x7, vi x8, t9, t10]) rfl rfl 1 (by decide) rfl ?_
  refine w_goto rfl ?_
  exact k

theorem k222_103 {P : s_P} {d : Nat} {Q : s_O → Prop} {h : s_H} {kc ks : Nat} {r0 r1 : Term} {x2 x3 x4 x5 x6 : Int} {t7 t8 t9 t10 : Term}  (k : wr P d sw_c222 sw_h222 (25, [r0, r1, vi x2, vi x3, vi x4, vi (x5 + 1), vi x6, t7, t8, t9, t10], [], h, kc, ks) Q)   : wr P d sw_c222 sw_h222 (103, [r0, r1, vi x2, vi x3, vi x4, vi x5, vi x6, t7, t8, t9, t10], [], h, kc, ks) Q := by
  refine w_iinc (ls' := [r0, r1, vi x2, vi x3, vi x4, vi (x5 + 1), vi x6, t7, t8, t9, t10]) rfl rfl 1 (by decide) rfl ?_
  refine w_goto rfl ?_
  exact k

theorem k222_109 {P : s_P} {d : Nat} {Q : s_O → Prop} {h : s_H} {kc ks : Nat} {r0 r1 : Term} {x2 x3 x4 x5 : Int} {t6 t7 t8 t9 t10 : Term} {q2 : Nat} {f3 : List Term} {v5 : Term} {q7 : Nat} {f8 : List Term} (g4 : s_get h q2 = some (1, 6, f3)) (g9 : s_get h q7 = some (1, 1, f8)) (k : wm P d 127 [.index q7] h (wq P d sw_c222 sw_h222 116 [.index q2, r1, vi x2, vi x3, vi x4, vi x5, t6, t7, t8, t9, t10] [] kc ks Q)) (e_q2 : r0 = .index q2 := by first | rfl | assumption) (e_q7 : v5 = .index q7 := by first | rfl | assumption) (y1 : s_ty r0 = 3 := by first | rfl | assumption) (n6 : s_nth f3 1 = some v5 := by first | rfl | assumption)  : wr P d sw_c222 sw_h222 (109, [r0, r1, vi x2, vi x3, vi x4, vi x5, t6, t7, t8, t9, t10], [], h, kc, ks) Q := by
  refine w_ld rfl rfl (Or.inr (Or.inr ⟨by decide, y1⟩)) ?_
  subst e_q2
  refine w_getf rfl g4 n6 ?_
  subst e_q7
  exact w_cv rfl [.index q7] [] rfl rfl (s_wt_4 rfl) rfl g9 k

theorem k222_116 {P : s_P} {d : Nat} {Q : s_O → Prop} {h : s_H} {kc ks : Nat} {r0 r1 : Term} {x2 x3 x4 x5 : Int} {t6 t7 t8 t9 t10 : Term} {q2 : Nat} {f3 : List Term} {v5 : Term} {q7 : Nat} {f8 : List Term} (g4 : s_get h q2 = some (1, 6, f3)) (g9 : s_get h q7 = some (1, 1, f8)) (k : wm P d 128 [.index q7] h (wq P d sw_c222 sw_h222 123 [.index q2, r1, vi x2, vi x3, vi x4, vi x5, t6, t7, t8, t9, t10] [] kc ks Q)) (e_q2 : r0 = .index q2 := by first | rfl | assumption) (e_q7 : v5 = .index q7 := by first | rfl | assumption) (y1 : s_ty r0 = 3 := by first | rfl | assumption) (n6 : s_nth f3 1 = some v5 := by first | rfl | assumption)  : wr P d sw_c222 sw_h222 (116, [r0, r1, vi x2, vi x3, vi x4, vi x5, t6, t7, t8, t9, t10], [], h, kc, ks) Q := by
  refine w_ld rfl rfl (Or.inr (Or.inr ⟨by decide, y1⟩)) ?_
  subst e_q2
  refine w_getf rfl g4 n6 ?_
  subst e_q7
  exact w_cv rfl [.index q7] [] rfl rfl (s_wt_4 rfl) rfl g9 k

theorem k222_123 {P : s_P} {d : Nat} {Q : s_O → Prop} {h : s_H} {kc ks : Nat} {r0 r1 : Term} {x2 x3 x4 x5 : Int} {t6 t7 t8 t9 t10 : Term} {s0 : Int}  (k1 : s0 < (x2 + 1) * x4 → wr P d sw_c222 sw_h222 (138, [r0, r1, vi x2, vi x3, vi x4, vi s0, t6, t7, t8, t9, t10], [], h, kc, ks) Q) (k2 : ¬ s0 < (x2 + 1) * x4 → wr P d sw_c222 sw_h222 (136, [r0, r1, vi x2, vi x3, vi x4, vi s0, t6, t7, t8, t9, t10], [], h, kc, ks) Q)  (c1 : In3 s0 := by first | omega | assumption | (simp only [mk_len, List.length_map]; omega) | decide) (c2 : In3 ((x2 + 1) * x4) := by first | omega | assumption | (simp only [mk_len, List.length_map]; omega) | decide) : wr P d sw_c222 sw_h222 (123, [r0, r1, vi x2, vi x3, vi x4, vi x5, t6, t7, t8, t9, t10], [vi s0], h, kc, ks) Q := by
  refine w_st (ls' := [r0, r1, vi x2, vi x3, vi x4, vi s0, t6, t7, t8, t9, t10]) rfl (Or.inl ⟨by decide, rfl⟩) rfl ?_
  refine w_ld rfl rfl (Or.inl ⟨by decide, rfl⟩) ?_
  refine w_ld rfl rfl (Or.inl ⟨by decide, rfl⟩) ?_
  refine w_c32 rfl (by decide) 1 (by decide) ?_
  refine w_iadd rfl ?_
  refine w_ld rfl rfl (Or.inl ⟨by decide, rfl⟩) ?_
  refine w_imul rfl ?_
  exact w_if2 rfl c1 c2 k1 k2

theorem k222_136 {P : s_P} {d : Nat} {Q : s_O → Prop} {h : s_H} {kc ks : Nat} {r0 r1 : Term} {x2 x3 x4 x5 : Int} {t6 t7 t8 t9 t10 : Term}  (k : Q (.inl (some .null), h, kc, ks))   : wr P d sw_c222 sw_h222 (136, [r0, r1, vi x2, vi x3, vi x4, vi x5, t6, t7, t8, t9, t10], [], h, kc, ks) Q := by
  refine w_null rfl ?_
  exact w_aret rfl rfl k

theorem k222_138 {P : s_P} {d : Nat} {Q : s_O → Prop} {h : s_H} {kc ks : Nat} {r0 r1 : Term} {x2 x3 x4 x5 : Int} {t6 t7 t8 t9 t10 : Term} {q2 : Nat} {f3 : List Term} {v5 : Term} {q7 : Nat} {f8 : List Term} (g4 : s_get h q2 = some (1, 6, f3)) (g9 : s_get h q7 = some (1, 1, f8)) (k : wm P d 125 [.index q7, vi x5] h (wq P d sw_c222 sw_h222 147 [.index q2, r1, vi x2, vi x3, vi x4, vi x5, t6, t7, t8, t9, t10] [] kc ks Q)) (e_q2 : r0 = .index q2 := by first | rfl | assumption) (e_q7 : v5 = .index q7 := by first | rfl | assumption) (y1 : s_ty r0 = 3 := by first | rfl | assumption) (n6 : s_nth f3 1 = some v5 := by first | rfl | assumption)  : wr P d sw_c222 sw_h222 (138, [r0, r1, vi x2, vi x3, vi x4, vi x5, t6, t7, t8, t9, t10], [], h, kc, ks) Q := by
  refine w_ld rfl rfl (Or.inr (Or.inr ⟨by decide, y1⟩)) ?_
  subst e_q2
  refine w_getf rfl g4 n6 ?_
  refine w_ld rfl rfl (Or.inl ⟨by decide, rfl⟩) ?_
  subst e_q7
  exact w_cv rfl [.index q7, vi x5] [] rfl rfl (s_wt_4 rfl) rfl g9 k

theorem k222_147 {P : s_P} {d : Nat} {Q : s_O → Prop} {h : s_H} {kc ks : Nat} {r0 r1 : Term} {x2 x3 x4 x5 : Int} {t6 t7 t8 t9 t10 : Term} {fc4 fc6 : s_C} (g5 : s_get h (h).1 = some fc4) (g7 : s_get (hq h (1, 8, s_df 8)) ((hq h (1, 8, s_df 8))).1 = some fc6) (k : wm P d 262 [.index h.1, vi 1, vi ((Int.tdiv x5 x4) + 1), .index ((hq h (1, 8, s_df 8))).1] (hq (hq h (1, 8, s_df 8)) (0, 2, List.replicate (Int.toNat ((Int.tdiv x5 x4) + 1)) (.null))) (fun out => out.1 = .inl none ∧ wr P d sw_c222 sw_h222 (171, [r0, r1, vi x2, vi x3, vi x4, vi x5, vi ((Int.tdiv x5 x4) + 1), t7, t8, t9, t10], [.index h.1], out.2.1, ((kc + 1) + 1) + out.2.2.1, ((ks + 8) + (Int.toNat ((Int.tdiv x5 x4) + 1))) + out.2.2.2) Q))  (c1 : x4 ≠ 0 := by first | omega | assumption | (simp only [mk_len, List.length_map]; omega) | decide) (c2 : In3 x5 := by first | omega | assumption | (simp only [mk_len, List.length_map]; omega) | decide) (c3 : In3 x4 := by first | omega | assumption | (simp only [mk_len, List.length_map]; omega) | decide) (c8 : (Int.tdiv x5 x4) + 1 ≤ 60000000 := by first | omega | assumption | (simp only [mk_len, List.length_map]; omega) | decide) (c9 : In3 ((Int.tdiv x5 x4) + 1) := by first | omega | assumption | (simp only [mk_len, List.length_map]; omega) | decide) (c10 : 0 ≤ (Int.tdiv x5 x4) + 1 := by first | omega | assumption | (simp only [mk_len, List.length_map]; omega) | decide) : wr P d sw_c222 sw_h222 (147, [r0, r1, vi x2, vi x3, vi x4, vi x5, t6, t7, t8, t9, t10], [], h, kc, ks) Q := by
  refine w_ld rfl rfl (Or.inl ⟨by decide, rfl⟩) ?_
  refine w_ld rfl rfl (Or.inl ⟨by decide, rfl⟩) ?_
  refine w_idiv rfl c2 c3 c1 ?_
  refine w_c32 rfl (by decide) 1 (by decide) ?_
  refine w_iadd rfl ?_
  refine w_st (ls' := [r0, r1, vi x2, vi x3, vi x4, vi x5, vi ((Int.tdiv x5 x4) + 1), t7, t8, t9, t10]) rfl (Or.inl ⟨by decide, rfl⟩) rfl ?_
  refine w_new rfl g5 ?_
  refine w_dup rfl rfl ?_
  refine w_c32 rfl (by decide) 1 (by decide) ?_
  refine w_ld rfl rfl (Or.inl ⟨by decide, rfl⟩) ?_
  refine w_ld rfl rfl (Or.inl ⟨by decide, rfl⟩) ?_
  refine w_newa rfl (by decide) g7 c9 c10 c8 (.null) rfl ?_
  exact w_ci rfl [.index h.1, vi 1, vi ((Int.tdiv x5 x4) + 1), .index ((hq h (1, 8, s_df 8))).1] [.index h.1] rfl rfl (s_wt_4 rfl) rfl k

theorem k222_171 {P : s_P} {d : Nat} {Q : s_O → Prop} {h : s_H} {kc ks : Nat} {r0 r1 : Term} {x2 x3 x4 x5 x6 : Int} {t7 t8 t9 t10 s0 : Term} {q3 : Nat} {f4 : List Term} {v6 : Term} {q8 : Nat} {f9 : List Term} (g5 : s_get h q3 = some (1, 6, f4)) (g10 : s_get h q8 = some (1, 0, f9)) (k : wm P d 110 [.index q8] h (wq P d sw_c222 sw_h222 180 [.index q3, r1, vi x2, vi x3, vi x4, vi x5, vi x6, s0, t8, t9, t10] [] kc ks Q)) (e_q3 : r0 = .index q3 := by first | rfl | assumption) (e_q8 : v6 = .index q8 := by first | rfl | assumption) (y1 : s_ty s0 = 3 := by first | rfl | assumption) (y2 : s_ty r0 = 3 := by first | rfl | assumption) (n7 : s_nth f4 0 = some v6 := by first | rfl | assumption)  : wr P d sw_c222 sw_h222 (171, [r0, r1, vi x2, vi x3, vi x4, vi x5, vi x6, t7, t8, t9, t10], [s0], h, kc, ks) Q := by
  refine w_st (ls' := [r0, r1, vi x2, vi x3, vi x4, vi x5, vi x6, s0, t8, t9, t10]) rfl (Or.inr ⟨by decide, y1⟩) rfl ?_
  refine w_ld rfl rfl (Or.inr (Or.inr ⟨by decide, y2⟩)) ?_
  subst e_q3
  refine w_getf rfl g5 n7 ?_
  subst e_q8
  exact w_cv rfl [.index q8] [] rfl rfl (s_wt_4 rfl) rfl g10 k

theorem k222_180 {P : s_P} {d : Nat} {Q : s_O → Prop} {h : s_H} {kc ks : Nat} {r0 r1 : Term} {x2 x3 x4 x5 x6 : Int} {r7 t8 t9 t10 : Term} {s0 : Int} {q3 : Nat} {f4 : List Term} {v6 : Term} {q8 : Nat} {f9 : List Term} (g5 : s_get h q3 = some (1, 6, f4)) (g10 : s_get h q8 = some (1, 0, f9)) (k : wm P d 109 [.index q8] h (wq P d sw_c222 sw_h222 189 [.index q3, r1, vi x2, vi x3, vi x4, vi x5, vi x6, r7, vi s0, t9, t10] [] kc ks Q)) (e_q3 : r0 = .index q3 := by first | rfl | assumption) (e_q8 : v6 = .index q8 := by first | rfl | assumption) (y1 : s_ty r7 = 3 := by first | rfl | assumption) (y2 : s_ty r0 = 3 := by first | rfl | assumption) (n7 : s_nth f4 0 = some v6 := by first | rfl | assumption)  : wr P d sw_c222 sw_h222 (180, [r0, r1, vi x2, vi x3, vi x4, vi x5, vi x6, r7, t8, t9, t10], [vi s0], h, kc, ks) Q := by
  refine w_st (ls' := [r0, r1, vi x2, vi x3, vi x4, vi x5, vi x6, r7, vi s0, t9, t10]) rfl (Or.inl ⟨by decide, rfl⟩) (s_stK_r (pre := [r0, r1, vi x2, vi x3, vi x4, vi x5, vi x6]) y1) ?_
  refine w_ld rfl rfl (Or.inr (Or.inr ⟨by decide, y2⟩)) ?_
  subst e_q3
  refine w_getf rfl g5 n7 ?_
  subst e_q8
  exact w_cv rfl [.index q8] [] rfl rfl (s_wt_4 rfl) rfl g10 k

theorem k222_189 {P : s_P} {d : Nat} {Q : s_O → Prop} {h : s_H} {kc ks : Nat} {r0 r1 : Term} {x2 x3 x4 x5 x6 : Int} {r7 : Term} {x8 : Int} {t9 t10 s0 : Term}  (k : wr P d sw_c222 sw_h222 (194, [r0, r1, vi x2, vi x3, vi x4, vi x5, vi x6, r7, vi x8, s0, vi 0], [], h, kc, ks) Q) (y1 : s_ty s0 = 3 := by first | rfl | assumption)  : wr P d sw_c222 sw_h222 (189, [r0, r1, vi x2, vi x3, vi x4, vi x5, vi x6, r7, vi x8, t9, t10], [s0], h, kc, ks) Q := by
  refine w_st (ls' := [r0, r1, vi x2, vi x3, vi x4, vi x5, vi x6, r7, vi x8, s0, t10]) rfl (Or.inr ⟨by decide, y1⟩) rfl ?_
  refine w_c32 rfl (by decide) 0 (by decide) ?_
  refine w_st (ls' := [r0, r1, vi x2, vi x3, vi x4, vi x5, vi x6, r7, vi x8, s0, vi 0]) rfl (Or.inl ⟨by decide, rfl⟩) (s_stK_r (pre := [r0, r1, vi x2, vi x3, vi x4, vi x5, vi x6, r7, vi x8]) y1) ?_
  exact k

theorem k222_194 {P : s_P} {d : Nat} {Q : s_O → Prop} {h : s_H} {kc ks : Nat} {r0 r1 : Term} {x2 x3 x4 x5 x6 : Int} {r7 : Term} {x8 : Int} {r9 : Term} {x10 : Int}  (k1 : x6 ≤ x10 → wr P d sw_c222 sw_h222 (239, [r0, r1, vi x2, vi x3, vi x4, vi x5, vi x6, r7, vi x8, r9, vi x10], [], h, kc, ks) Q) (k2 : ¬ x6 ≤ x10 → wr P d sw_c222 sw_h222 (201, [r0, r1, vi x2, vi x3, vi x4, vi x5, vi x6, r7, vi x8, r9, vi x10], [], h, kc, ks) Q)  (c1 : In3 x10 := by first | omega | assumption | (simp only [mk_len, List.length_map]; omega) | decide) (c2 : In3 x6 := by first | omega | assumption | (simp only [mk_len, List.length_map]; omega) | decide) : wr P d sw_c222 sw_h222 (194, [r0, r1, vi x2, vi x3, vi x4, vi x5, vi x6, r7, vi x8, r9, vi x10], [], h, kc, ks) Q := by
  refine w_ld rfl rfl (Or.inl ⟨by decide, rfl⟩) ?_
  refine w_ld rfl rfl (Or.inl ⟨by decide, rfl⟩) ?_
  exact w_if2 rfl c1 c2 k1 k2

theorem k222_201 {P : s_P} {d : Nat} {Q : s_O → Prop} {h : s_H} {kc ks : Nat} {r0 r1 : Term} {x2 x3 x4 x5 x6 : Int} {r7 : Term} {x8 : Int} {r9 : Term} {x10 : Int} {q3 : Nat} {f4 : List Term} {v6 : Term} {q8 : Nat} {f9 : List Term} {v11 : Term} {q13 : Nat} {f14 : List Term} (g5 : s_get h q3 = some (1, 6, f4)) (g10 : s_get h q8 = some (1, 1, f9)) (g15 : s_get h q13 = some (1, 4, f14)) (k : wm P d 183 [.index q13, v11, vi (x10 * x4), vi x4] h (wq P d sw_c222 sw_h222 220 [.index q3, r1, vi x2, vi x3, vi x4, vi x5, vi x6, r7, vi x8, .index q13, vi x10] [] kc ks Q)) (e_q3 : r0 = .index q3 := by first | rfl | assumption) (e_q8 : v6 = .index q8 := by first | rfl | assumption) (e_q13 : r9 = .index q13 := by first | rfl | assumption) (y1 : s_ty r9 = 3 := by first | rfl | assumption) (y2 : s_ty r0 = 3 := by first | rfl | assumption) (n7 : s_nth f4 1 = some v6 := by first | rfl | assumption) (n12 : s_nth f9 2 = some v11 := by first | rfl | assumption)  : wr P d sw_c222 sw_h222 (201, [r0, r1, vi x2, vi x3, vi x4, vi x5, vi x6, r7, vi x8, r9, vi x10], [], h, kc, ks) Q := by
  refine w_ld rfl rfl (Or.inr (Or.inr ⟨by decide, y1⟩)) ?_
  refine w_ld rfl rfl (Or.inr (Or.inr ⟨by decide, y2⟩)) ?_
  subst e_q3
  refine w_getf rfl g5 n7 ?_
  subst e_q8
  refine w_getf rfl g10 n12 ?_
  refine w_ld rfl rfl (Or.inl ⟨by decide, rfl⟩) ?_
  refine w_ld rfl rfl (Or.inl ⟨by decide, rfl⟩) ?_
  refine w_imul rfl ?_
  refine w_ld rfl rfl (Or.inl ⟨by decide, rfl⟩) ?_
  subst e_q13
  exact w_cv rfl [.index q13, v11, vi (x10 * x4), vi x4] [] rfl rfl (s_wt_4 rfl) rfl g15 k

theorem k222_220 {P : s_P} {d : Nat} {Q : s_O → Prop} {h : s_H} {kc ks : Nat} {r0 r1 : Term} {x2 x3 x4 x5 x6 : Int} {r7 : Term} {x8 : Int} {r9 : Term} {x10 : Int} {q3 : Nat} {f4 : List Term} (g5 : s_get h q3 = some (1, 4, f4)) (k : wm P d 170 [.index q3] h (wq P d sw_c222 sw_h222 230 [r0, r1, vi x2, vi x3, vi x4, vi x5, vi x6, r7, vi x8, .index q3, vi x10] [vi x10, vi 0, r7] kc ks Q)) (e_q3 : r9 = .index q3 := by first | rfl | assumption) (y1 : s_ty r7 = 3 := by first | rfl | assumption) (y2 : s_ty r9 = 3 := by first | rfl | assumption)  : wr P d sw_c222 sw_h222 (220, [r0, r1, vi x2, vi x3, vi x4, vi x5, vi x6, r7, vi x8, r9, vi x10], [], h, kc, ks) Q := by
  refine w_ld rfl rfl (Or.inr (Or.inr ⟨by decide, y1⟩)) ?_
  refine w_c32 rfl (by decide) 0 (by decide) ?_
  refine w_ld rfl rfl (Or.inl ⟨by decide, rfl⟩) ?_
  refine w_ld rfl rfl (Or.inr (Or.inr ⟨by decide, y2⟩)) ?_
  subst e_q3
  exact w_cv rfl [.index q3] [vi x10, vi 0, r7] rfl rfl (s_wt_4 rfl) rfl g5 k

theorem k222_230 {P : s_P} {d : Nat} {Q : s_O → Prop} {h : s_H} {kc ks : Nat} {r0 r1 : Term} {x2 x3 x4 x5 x6 : Int} {r7 : Term} {x8 : Int} {r9 : Term} {x10 : Int} {s0 : Term} {s1 s2 : Int} {s3 : Term} {q1 : Nat} {f2 : List Term} (g3 : s_get h q1 = some (1, 8, f2)) (k : wm P d 271 [.index q1, vi s1, vi s2, s3] h (wq P d sw_c222 sw_h222 233 [r0, r1, vi x2, vi x3, vi x4, vi x5, vi x6, r7, vi x8, r9, vi x10] [] kc ks Q)) (e_q1 : s0 = .index q1 := by first | rfl | assumption)  : wr P d sw_c222 sw_h222 (230, [r0, r1, vi x2, vi x3, vi x4, vi x5, vi x6, r7, vi x8, r9, vi x10], [s3, vi s2, vi s1, s0], h, kc, ks) Q := by
  subst e_q1
  exact w_cv rfl [.index q1, vi s1, vi s2, s3] [] rfl rfl (s_wt_4 rfl) rfl g3 k

theorem k222_233 {P : s_P} {d : Nat} {Q : s_O → Prop} {h : s_H} {kc ks : Nat} {r0 r1 : Term} {x2 x3 x4 x5 x6 : Int} {r7 : Term} {x8 : Int} {r9 : Term} {x10 : Int}  (k : wr P d sw_c222 sw_h222 (194, [r0, r1, vi x2, vi x3, vi x4, vi x5, vi x6, r7, vi x8, r9, vi (x10 + 1)], [], h, kc, ks) Q) (y1 : s_ty r9 = 3 := by first | rfl | assumption)  : wr P d sw_c222 sw_h222 (233, [r0, r1, vi x2, vi x3, vi x4, vi x5, vi x6, r7, vi x8, r9, vi x10], [], h, kc, ks) Q := by
  refine w_iinc (ls' := [r0, r1, vi x2, vi x3, vi x4, vi x5, vi x6, r7, vi x8, r9, vi (x10 + 1)]) rfl rfl 1 (by decide) (s_stK_r (pre := [r0, r1, vi x2, vi x3, vi x4, vi x5, vi x6, r7, vi x8]) y1) ?_
  refine w_goto rfl ?_
  exact k

theorem k222_239 {P : s_P} {d : Nat} {Q : s_O → Prop} {h : s_H} {kc ks : Nat} {r0 r1 : Term} {x2 x3 x4 x5 x6 : Int} {r7 : Term} {x8 : Int} {r9 : Term} {x10 : Int} {q2 : Nat} {f3 : List Term} {v5 : Term} {q7 : Nat} {f8 : List Term} (g4 : s_get h q2 = some (1, 6, f3)) (g9 : s_get h q7 = some (1, 0, f8)) (k : wm P d 113 [.index q7, vi x8] h (wq P d sw_c222 sw_h222 248 [.index q2, r1, vi x2, vi x3, vi x4, vi x5, vi x6, r7, vi x8, r9, vi x10] [] kc ks Q)) (e_q2 : r0 = .index q2 := by first | rfl | assumption) (e_q7 : v5 = .index q7 := by first | rfl | assumption) (y1 : s_ty r0 = 3 := by first | rfl | assumption) (n6 : s_nth f3 0 = some v5 := by first | rfl | assumption)  : wr P d sw_c222 sw_h222 (239, [r0, r1, vi x2, vi x3, vi x4, vi x5, vi x6, r7, vi x8, r9, vi x10], [], h, kc, ks) Q := by
  refine w_ld rfl rfl (Or.inr (Or.inr ⟨by decide, y1⟩)) ?_
  subst e_q2
  refine w_getf rfl g4 n6 ?_
  refine w_ld rfl rfl (Or.inl ⟨by decide, rfl⟩) ?_
  subst e_q7
  exact w_cv rfl [.index q7, vi x8] [] rfl rfl (s_wt_4 rfl) rfl g9 k

theorem k222_248 {P : s_P} {d : Nat} {Q : s_O → Prop} {h : s_H} {kc ks : Nat} {r0 r1 : Term} {x2 x3 x4 x5 x6 : Int} {r7 : Term} {x8 : Int} {r9 : Term} {x10 : Int}  (k : Q (.inl (some r7), h, kc, ks)) (y1 : s_ty r7 = 3 := by first | rfl | assumption)  : wr P d sw_c222 sw_h222 (248, [r0, r1, vi x2, vi x3, vi x4, vi x5, vi x6, r7, vi x8, r9, vi x10], [], h, kc, ks) Q := by
  refine w_ld rfl rfl (Or.inr (Or.inr ⟨by decide, y1⟩)) ?_
  exact w_aret rfl y1 k

/-! 223: FormulaWorks$Rules.setAnswer(ILFormulaWorks$Poly;)V -/
theorem k223_0 {P : s_P} {d : Nat} {Q : s_O → Prop} {h : s_H} {kc ks : Nat} {r0 : Term} {x1 : Int} {r2 t3 t4 : Term}  (k : wr P d sw_c223 sw_h223 (5, [r0, vi x1, r2, vi (-1), vi x1], [], h, kc, ks) Q) (y1 : s_ty r2 = 3 := by first | rfl | assumption)  : wr P d sw_c223 sw_h223 (0, [r0, vi x1, r2, t3, t4], [], h, kc, ks) Q := by
  refine w_c32 rfl (by decide) (-1) (by decide) ?_
  refine w_st (ls' := [r0, vi x1, r2, vi (-1), t4]) rfl (Or.inl ⟨by decide, rfl⟩) (s_stK_r (pre := [r0, vi x1]) y1) ?_
  refine w_ld rfl rfl (Or.inl ⟨by decide, rfl⟩) ?_
  refine w_st (ls' := [r0, vi x1, r2, vi (-1), vi x1]) rfl (Or.inl ⟨by decide, rfl⟩) rfl ?_
  exact k

theorem k223_5 {P : s_P} {d : Nat} {Q : s_O → Prop} {h : s_H} {kc ks : Nat} {r0 : Term} {x1 : Int} {r2 : Term} {x3 x4 : Int}  (k1 : x4 < 0 → wr P d sw_c223 sw_h223 (36, [r0, vi x1, r2, vi x3, vi x4], [], h, kc, ks) Q) (k2 : ¬ x4 < 0 → wr P d sw_c223 sw_h223 (10, [r0, vi x1, r2, vi x3, vi x4], [], h, kc, ks) Q)  (c1 : In3 x4 := by first | omega | assumption | (simp only [mk_len, List.length_map]; omega) | decide) : wr P d sw_c223 sw_h223 (5, [r0, vi x1, r2, vi x3, vi x4], [], h, kc, ks) Q := by
  refine w_ld rfl rfl (Or.inl ⟨by decide, rfl⟩) ?_
  exact w_if1 rfl c1 k1 k2

theorem k223_10 {P : s_P} {d : Nat} {Q : s_O → Prop} {h : s_H} {kc ks : Nat} {r0 : Term} {x1 : Int} {r2 : Term} {x3 x4 : Int}  (k1 : 20 ≤ x3 → wr P d sw_c223 sw_h223 (36, [r0, vi x1, r2, vi x3, vi x4], [], h, kc, ks) Q) (k2 : ¬ 20 ≤ x3 → wr P d sw_c223 sw_h223 (16, [r0, vi x1, r2, vi x3, vi x4], [], h, kc, ks) Q)  (c1 : In3 x3 := by first | omega | assumption | (simp only [mk_len, List.length_map]; omega) | decide) : wr P d sw_c223 sw_h223 (10, [r0, vi x1, r2, vi x3, vi x4], [], h, kc, ks) Q := by
  refine w_ld rfl rfl (Or.inl ⟨by decide, rfl⟩) ?_
  refine w_c32 rfl (by decide) 20 (by decide) ?_
  exact w_if2 rfl c1 (by decide) k1 k2

theorem k223_16 {P : s_P} {d : Nat} {Q : s_O → Prop} {h : s_H} {kc ks : Nat} {r0 : Term} {x1 : Int} {r2 : Term} {x3 x4 : Int} {q3 : Nat} {f4 : List Term} {v6 : Term} {q8 : Nat} {f9 : List Term} (g5 : s_get h q3 = some (1, 6, f4)) (g10 : s_get h q8 = some (1, 1, f9)) (k : wm P d 129 [.index q8, vi (x3 + 1)] h (wq P d sw_c223 sw_h223 27 [.index q3, vi x1, r2, vi (x3 + 1), vi x4] [] kc ks Q)) (e_q3 : r0 = .index q3 := by first | rfl | assumption) (e_q8 : v6 = .index q8 := by first | rfl | assumption) (y1 : s_ty r2 = 3 := by first | rfl | assumption) (y2 : s_ty r0 = 3 := by first | rfl | assumption) (n7 : s_nth f4 1 = some v6 := by first | rfl | assumption)  : wr P d sw_c223 sw_h223 (16, [r0, vi x1, r2, vi x3, vi x4], [], h, kc, ks) Q := by
  refine w_iinc (ls' := [r0, vi x1, r2, vi (x3 + 1), vi x4]) rfl rfl 1 (by decide) (s_stK_r (pre := [r0, vi x1]) y1) ?_
  refine w_ld rfl rfl (Or.inr (Or.inr ⟨by decide, y2⟩)) ?_
  subst e_q3
  refine w_getf rfl g5 n7 ?_
  refine w_ld rfl rfl (Or.inl ⟨by decide, rfl⟩) ?_
  subst e_q8
  exact w_cv rfl [.index q8, vi (x3 + 1)] [] rfl rfl (s_wt_4 rfl) rfl g10 k

theorem k223_27 {P : s_P} {d : Nat} {Q : s_O → Prop} {h : s_H} {kc ks : Nat} {r0 : Term} {x1 : Int} {r2 : Term} {x3 x4 s0 : Int}  (k1 : s0 = 0 → wr P d sw_c223 sw_h223 (5, [r0, vi x1, r2, vi x3, vi x4], [], h, kc, ks) Q) (k2 : ¬ s0 = 0 → wr P d sw_c223 sw_h223 (30, [r0, vi x1, r2, vi x3, vi x4], [], h, kc, ks) Q)  (c1 : In3 s0 := by first | omega | assumption | (simp only [mk_len, List.length_map]; omega) | decide) : wr P d sw_c223 sw_h223 (27, [r0, vi x1, r2, vi x3, vi x4], [vi s0], h, kc, ks) Q := by
  exact w_if1 rfl c1 k1 k2

theorem k223_30 {P : s_P} {d : Nat} {Q : s_O → Prop} {h : s_H} {kc ks : Nat} {r0 : Term} {x1 : Int} {r2 : Term} {x3 x4 : Int}  (k : wr P d sw_c223 sw_h223 (5, [r0, vi x1, r2, vi x3, vi (x4 + (-1))], [], h, kc, ks) Q)   : wr P d sw_c223 sw_h223 (30, [r0, vi x1, r2, vi x3, vi x4], [], h, kc, ks) Q := by
  refine w_iinc (ls' := [r0, vi x1, r2, vi x3, vi (x4 + (-1))]) rfl rfl (-1) (by decide) rfl ?_
  refine w_goto rfl ?_
  exact k

theorem k223_36 {P : s_P} {d : Nat} {Q : s_O → Prop} {h : s_H} {kc ks : Nat} {r0 : Term} {x1 : Int} {r2 : Term} {x3 x4 : Int} {q2 : Nat} {f3 : List Term} {v5 : Term} {q7 : Nat} {f8 : List Term} (g4 : s_get h q2 = some (1, 6, f3)) (g9 : s_get h q7 = some (1, 1, f8)) (k : wm P d 125 [.index q7, vi x3] h (wq P d sw_c223 sw_h223 44 [.index q2, vi x1, r2, vi x3, vi x4] [] kc ks Q)) (e_q2 : r0 = .index q2 := by first | rfl | assumption) (e_q7 : v5 = .index q7 := by first | rfl | assumption) (y1 : s_ty r0 = 3 := by first | rfl | assumption) (n6 : s_nth f3 1 = some v5 := by first | rfl | assumption)  : wr P d sw_c223 sw_h223 (36, [r0, vi x1, r2, vi x3, vi x4], [], h, kc, ks) Q := by
  refine w_ld rfl rfl (Or.inr (Or.inr ⟨by decide, y1⟩)) ?_
  subst e_q2
  refine w_getf rfl g4 n6 ?_
  refine w_ld rfl rfl (Or.inl ⟨by decide, rfl⟩) ?_
  subst e_q7
  exact w_cv rfl [.index q7, vi x3] [] rfl rfl (s_wt_4 rfl) rfl g9 k

theorem k223_44 {P : s_P} {d : Nat} {Q : s_O → Prop} {h : s_H} {kc ks : Nat} {r0 : Term} {x1 : Int} {r2 : Term} {x3 x4 : Int} {q3 : Nat} {f4 : List Term} {v6 : Term} {q8 : Nat} {f9 : List Term} {v11 : Term} {q13 : Nat} {f14 : List Term} (g5 : s_get h q3 = some (1, 6, f4)) (g10 : s_get h q8 = some (1, 1, f9)) (g15 : s_get h q13 = some (1, 4, f14)) (k : wm P d 183 [.index q13, v11, vi 0, vi 21] h (wq P d sw_c223 sw_h223 58 [.index q3, vi x1, .index q13, vi x3, vi x4] [] kc ks Q)) (e_q3 : r0 = .index q3 := by first | rfl | assumption) (e_q8 : v6 = .index q8 := by first | rfl | assumption) (e_q13 : r2 = .index q13 := by first | rfl | assumption) (y1 : s_ty r2 = 3 := by first | rfl | assumption) (y2 : s_ty r0 = 3 := by first | rfl | assumption) (n7 : s_nth f4 1 = some v6 := by first | rfl | assumption) (n12 : s_nth f9 2 = some v11 := by first | rfl | assumption)  : wr P d sw_c223 sw_h223 (44, [r0, vi x1, r2, vi x3, vi x4], [], h, kc, ks) Q := by
  refine w_ld rfl rfl (Or.inr (Or.inr ⟨by decide, y1⟩)) ?_
  refine w_ld rfl rfl (Or.inr (Or.inr ⟨by decide, y2⟩)) ?_
  subst e_q3
  refine w_getf rfl g5 n7 ?_
  subst e_q8
  refine w_getf rfl g10 n12 ?_
  refine w_c32 rfl (by decide) 0 (by decide) ?_
  refine w_c32 rfl (by decide) 21 (by decide) ?_
  subst e_q13
  exact w_cv rfl [.index q13, v11, vi 0, vi 21] [] rfl rfl (s_wt_4 rfl) rfl g15 k

theorem k223_58 {P : s_P} {d : Nat} {Q : s_O → Prop} {h : s_H} {kc ks : Nat} {r0 : Term} {x1 : Int} {r2 : Term} {x3 x4 : Int}  (k : Q (.inl none, h, kc, ks))   : wr P d sw_c223 sw_h223 (58, [r0, vi x1, r2, vi x3, vi x4], [], h, kc, ks) Q := by
  exact w_ret rfl k

/-! 224: FormulaWorks$Rules.setImages(LFormulaWorks$Thing;I)V -/
theorem k224_0 {P : s_P} {d : Nat} {Q : s_O → Prop} {h : s_H} {kc ks : Nat} {r0 r1 : Term} {x2 : Int} {t3 t4 t5 t6 : Term} {q2 : Nat} {f3 : List Term} {v5 : Term} {q7 : Nat} {f8 : List Term} (g4 : s_get h q2 = some (1, 6, f3)) (g9 : s_get h q7 = some (1, 0, f8)) (k : wm P d 110 [.index q7] h (wq P d sw_c224 sw_h224 7 [.index q2, r1, vi x2, t3, t4, t5, t6] [] kc ks Q)) (e_q2 : r0 = .index q2 := by first | rfl | assumption) (e_q7 : v5 = .index q7 := by first | rfl | assumption) (y1 : s_ty r0 = 3 := by first | rfl | assumption) (n6 : s_nth f3 0 = some v5 := by first | rfl | assumption)  : wr P d sw_c224 sw_h224 (0, [r0, r1, vi x2, t3, t4, t5, t6], [], h, kc, ks) Q := by
  refine w_ld rfl rfl (Or.inr (Or.inr ⟨by decide, y1⟩)) ?_
  subst e_q2
  refine w_getf rfl g4 n6 ?_
  subst e_q7
  exact w_cv rfl [.index q7] [] rfl rfl (s_wt_4 rfl) rfl g9 k

theorem k224_7 {P : s_P} {d : Nat} {Q : s_O → Prop} {h : s_H} {kc ks : Nat} {r0 r1 : Term} {x2 : Int} {t3 t4 t5 t6 : Term} {s0 : Int} {q2 : Nat} {f3 : List Term} {v5 : Term} {q7 : Nat} {f8 : List Term} (g4 : s_get h q2 = some (1, 6, f3)) (g9 : s_get h q7 = some (1, 0, f8)) (k : wm P d 109 [.index q7] h (wq P d sw_c224 sw_h224 15 [.index q2, r1, vi x2, vi s0, t4, t5, t6] [] kc ks Q)) (e_q2 : r0 = .index q2 := by first | rfl | assumption) (e_q7 : v5 = .index q7 := by first | rfl | assumption) (y1 : s_ty r0 = 3 := by first | rfl | assumption) (n6 : s_nth f3 0 = some v5 := by first | rfl | assumption)  : wr P d sw_c224 sw_h224 (7, [r0, r1, vi x2, t3, t4, t5, t6], [vi s0], h, kc, ks) Q := by
  refine w_st (ls' := [r0, r1, vi x2, vi s0, t4, t5, t6]) rfl (Or.inl ⟨by decide, rfl⟩) rfl ?_
  refine w_ld rfl rfl (Or.inr (Or.inr ⟨by decide, y1⟩)) ?_
  subst e_q2
  refine w_getf rfl g4 n6 ?_
  subst e_q7
  exact w_cv rfl [.index q7] [] rfl rfl (s_wt_4 rfl) rfl g9 k

theorem k224_15 {P : s_P} {d : Nat} {Q : s_O → Prop} {h : s_H} {kc ks : Nat} {r0 r1 : Term} {x2 x3 : Int} {t4 t5 t6 s0 : Term} {q3 : Nat} {f4 : List Term} {v6 : Term} {q8 : Nat} {f9 : List Term} (g5 : s_get h q3 = some (1, 6, f4)) (g10 : s_get h q8 = some (1, 0, f9)) (k : wm P d 109 [.index q8] h (wq P d sw_c224 sw_h224 24 [.index q3, r1, vi x2, vi x3, s0, t5, t6] [] kc ks Q)) (e_q3 : r0 = .index q3 := by first | rfl | assumption) (e_q8 : v6 = .index q8 := by first | rfl | assumption) (y1 : s_ty s0 = 3 := by first | rfl | assumption) (y2 : s_ty r0 = 3 := by first | rfl | assumption) (n7 : s_nth f4 0 = some v6 := by first | rfl | assumption)  : wr P d sw_c224 sw_h224 (15, [r0, r1, vi x2, vi x3, t4, t5, t6], [s0], h, kc, ks) Q := by
  refine w_st (ls' := [r0, r1, vi x2, vi x3, s0, t5, t6]) rfl (Or.inr ⟨by decide, y1⟩) rfl ?_
  refine w_ld rfl rfl (Or.inr (Or.inr ⟨by decide, y2⟩)) ?_
  subst e_q3
  refine w_getf rfl g5 n7 ?_
  subst e_q8
  exact w_cv rfl [.index q8] [] rfl rfl (s_wt_4 rfl) rfl g10 k

theorem k224_24 {P : s_P} {d : Nat} {Q : s_O → Prop} {h : s_H} {kc ks : Nat} {r0 r1 : Term} {x2 x3 : Int} {r4 t5 t6 s0 : Term} {q4 : Nat} {f5 : List Term} {v7 : Term} {q9 : Nat} {f10 : List Term} (g6 : s_get h q4 = some (1, 6, f5)) (g11 : s_get h q9 = some (1, 1, f10)) (k : wm P d 124 [.index q9, vi 41, vi 22] h (wq P d sw_c224 sw_h224 37 [.index q4, r1, vi x2, vi x3, r4, s0, t6] [] kc ks Q)) (e_q4 : r0 = .index q4 := by first | rfl | assumption) (e_q9 : v7 = .index q9 := by first | rfl | assumption) (y1 : s_ty r4 = 3 := by first | rfl | assumption) (y2 : s_ty s0 = 3 := by first | rfl | assumption) (y3 : s_ty r0 = 3 := by first | rfl | assumption) (n8 : s_nth f5 1 = some v7 := by first | rfl | assumption)  : wr P d sw_c224 sw_h224 (24, [r0, r1, vi x2, vi x3, r4, t5, t6], [s0], h, kc, ks) Q := by
  refine w_st (ls' := [r0, r1, vi x2, vi x3, r4, s0, t6]) rfl (Or.inr ⟨by decide, y2⟩) (s_stK_r (pre := [r0, r1, vi x2, vi x3]) y1) ?_
  refine w_ld rfl rfl (Or.inr (Or.inr ⟨by decide, y3⟩)) ?_
  subst e_q4
  refine w_getf rfl g6 n8 ?_
  refine w_c32 rfl (by decide) 41 (by decide) ?_
  refine w_c32 rfl (by decide) 22 (by decide) ?_
  subst e_q9
  exact w_cv rfl [.index q9, vi 41, vi 22] [] rfl rfl (s_wt_4 rfl) rfl g11 k

theorem k224_37 {P : s_P} {d : Nat} {Q : s_O → Prop} {h : s_H} {kc ks : Nat} {r0 r1 : Term} {x2 x3 : Int} {r4 r5 t6 : Term}  (k : wr P d sw_c224 sw_h224 (40, [r0, r1, vi x2, vi x3, r4, r5, vi 0], [], h, kc, ks) Q) (y1 : s_ty r5 = 3 := by first | rfl | assumption)  : wr P d sw_c224 sw_h224 (37, [r0, r1, vi x2, vi x3, r4, r5, t6], [], h, kc, ks) Q := by
  refine w_c32 rfl (by decide) 0 (by decide) ?_
  refine w_st (ls' := [r0, r1, vi x2, vi x3, r4, r5, vi 0]) rfl (Or.inl ⟨by decide, rfl⟩) (s_stK_r (pre := [r0, r1, vi x2, vi x3, r4]) y1) ?_
  exact k

theorem k224_40 {P : s_P} {d : Nat} {Q : s_O → Prop} {h : s_H} {kc ks : Nat} {r0 r1 : Term} {x2 x3 : Int} {r4 r5 : Term} {x6 : Int}  (k1 : 21 ≤ x6 → wr P d sw_c224 sw_h224 (81, [r0, r1, vi x2, vi x3, r4, r5, vi x6], [], h, kc, ks) Q) (k2 : ¬ 21 ≤ x6 → wr P d sw_c224 sw_h224 (47, [r0, r1, vi x2, vi x3, r4, r5, vi x6], [], h, kc, ks) Q)  (c1 : In3 x6 := by first | omega | assumption | (simp only [mk_len, List.length_map]; omega) | decide) : wr P d sw_c224 sw_h224 (40, [r0, r1, vi x2, vi x3, r4, r5, vi x6], [], h, kc, ks) Q := by
  refine w_ld rfl rfl (Or.inl ⟨by decide, rfl⟩) ?_
  refine w_c32 rfl (by decide) 21 (by decide) ?_
  exact w_if2 rfl c1 (by decide) k1 k2

theorem k224_47 {P : s_P} {d : Nat} {Q : s_O → Prop} {h : s_H} {kc ks : Nat} {r0 r1 : Term} {x2 x3 : Int} {r4 r5 : Term} {x6 : Int} {q2 : Nat} {f3 : List Term} (g4 : s_get h q2 = some (1, 4, f3)) (k : wm P d 181 [.index q2, vi x6] h (wq P d sw_c224 sw_h224 54 [r0, r1, vi x2, vi x3, .index q2, r5, vi x6] [] kc ks Q)) (e_q2 : r4 = .index q2 := by first | rfl | assumption) (y1 : s_ty r4 = 3 := by first | rfl | assumption)  : wr P d sw_c224 sw_h224 (47, [r0, r1, vi x2, vi x3, r4, r5, vi x6], [], h, kc, ks) Q := by
  refine w_ld rfl rfl (Or.inr (Or.inr ⟨by decide, y1⟩)) ?_
  refine w_ld rfl rfl (Or.inl ⟨by decide, rfl⟩) ?_
  subst e_q2
  exact w_cv rfl [.index q2, vi x6] [] rfl rfl (s_wt_4 rfl) rfl g4 k

theorem k224_54 {P : s_P} {d : Nat} {Q : s_O → Prop} {h : s_H} {kc ks : Nat} {r0 r1 : Term} {x2 x3 : Int} {r4 r5 : Term} {x6 : Int} {q5 : Nat} {f6 : List Term} (g7 : s_get h q5 = some (1, 6, f6)) (k : wm P d 214 [.index q5, r1, vi x2, r4, r5] h (wq P d sw_c224 sw_h224 64 [.index q5, r1, vi x2, vi x3, r4, r5, vi x6] [] kc ks Q)) (e_q5 : r0 = .index q5 := by first | rfl | assumption) (y1 : s_ty r0 = 3 := by first | rfl | assumption) (y2 : s_ty r1 = 3 := by first | rfl | assumption) (y3 : s_ty r4 = 3 := by first | rfl | assumption) (y4 : s_ty r5 = 3 := by first | rfl | assumption)  : wr P d sw_c224 sw_h224 (54, [r0, r1, vi x2, vi x3, r4, r5, vi x6], [], h, kc, ks) Q := by
  refine w_ld rfl rfl (Or.inr (Or.inr ⟨by decide, y1⟩)) ?_
  refine w_ld rfl rfl (Or.inr (Or.inr ⟨by decide, y2⟩)) ?_
  refine w_ld rfl rfl (Or.inl ⟨by decide, rfl⟩) ?_
  refine w_ld rfl rfl (Or.inr (Or.inr ⟨by decide, y3⟩)) ?_
  refine w_ld rfl rfl (Or.inr (Or.inr ⟨by decide, y4⟩)) ?_
  subst e_q5
  exact w_cv rfl [.index q5, r1, vi x2, r4, r5] [] rfl rfl (s_wt_4 rfl) rfl g7 k

theorem k224_64 {P : s_P} {d : Nat} {Q : s_O → Prop} {h : s_H} {kc ks : Nat} {r0 r1 : Term} {x2 x3 : Int} {r4 r5 : Term} {x6 : Int} {q2 : Nat} {f3 : List Term} {v5 : Term} {q8 : Nat} {f9 : List Term} (g4 : s_get h q2 = some (1, 6, f3)) (g10 : s_get h q8 = some (1, 1, f9)) (k : wm P d 131 [.index q8, vi x6, r5] h (wq P d sw_c224 sw_h224 75 [.index q2, r1, vi x2, vi x3, r4, r5, vi x6] [] kc ks Q)) (e_q2 : r0 = .index q2 := by first | rfl | assumption) (e_q8 : v5 = .index q8 := by first | rfl | assumption) (y1 : s_ty r0 = 3 := by first | rfl | assumption) (n6 : s_nth f3 1 = some v5 := by first | rfl | assumption) (y7 : s_ty r5 = 3 := by first | rfl | assumption)  : wr P d sw_c224 sw_h224 (64, [r0, r1, vi x2, vi x3, r4, r5, vi x6], [], h, kc, ks) Q := by
  refine w_ld rfl rfl (Or.inr (Or.inr ⟨by decide, y1⟩)) ?_
  subst e_q2
  refine w_getf rfl g4 n6 ?_
  refine w_ld rfl rfl (Or.inl ⟨by decide, rfl⟩) ?_
  refine w_ld rfl rfl (Or.inr (Or.inr ⟨by decide, y7⟩)) ?_
  subst e_q8
  exact w_cv rfl [.index q8, vi x6, r5] [] rfl rfl (s_wt_4 rfl) rfl g10 k

theorem k224_75 {P : s_P} {d : Nat} {Q : s_O → Prop} {h : s_H} {kc ks : Nat} {r0 r1 : Term} {x2 x3 : Int} {r4 r5 : Term} {x6 : Int}  (k : wr P d sw_c224 sw_h224 (40, [r0, r1, vi x2, vi x3, r4, r5, vi (x6 + 1)], [], h, kc, ks) Q) (y1 : s_ty r5 = 3 := by first | rfl | assumption)  : wr P d sw_c224 sw_h224 (75, [r0, r1, vi x2, vi x3, r4, r5, vi x6], [], h, kc, ks) Q := by
  refine w_iinc (ls' := [r0, r1, vi x2, vi x3, r4, r5, vi (x6 + 1)]) rfl rfl 1 (by decide) (s_stK_r (pre := [r0, r1, vi x2, vi x3, r4]) y1) ?_
  refine w_goto rfl ?_
  exact k

theorem k224_81 {P : s_P} {d : Nat} {Q : s_O → Prop} {h : s_H} {kc ks : Nat} {r0 r1 : Term} {x2 x3 : Int} {r4 r5 : Term} {x6 : Int} {q2 : Nat} {f3 : List Term} {v5 : Term} {q7 : Nat} {f8 : List Term} (g4 : s_get h q2 = some (1, 6, f3)) (g9 : s_get h q7 = some (1, 0, f8)) (k : wm P d 113 [.index q7, vi x3] h (wq P d sw_c224 sw_h224 89 [.index q2, r1, vi x2, vi x3, r4, r5, vi x6] [] kc ks Q)) (e_q2 : r0 = .index q2 := by first | rfl | assumption) (e_q7 : v5 = .index q7 := by first | rfl | assumption) (y1 : s_ty r0 = 3 := by first | rfl | assumption) (n6 : s_nth f3 0 = some v5 := by first | rfl | assumption)  : wr P d sw_c224 sw_h224 (81, [r0, r1, vi x2, vi x3, r4, r5, vi x6], [], h, kc, ks) Q := by
  refine w_ld rfl rfl (Or.inr (Or.inr ⟨by decide, y1⟩)) ?_
  subst e_q2
  refine w_getf rfl g4 n6 ?_
  refine w_ld rfl rfl (Or.inl ⟨by decide, rfl⟩) ?_
  subst e_q7
  exact w_cv rfl [.index q7, vi x3] [] rfl rfl (s_wt_4 rfl) rfl g9 k

theorem k224_89 {P : s_P} {d : Nat} {Q : s_O → Prop} {h : s_H} {kc ks : Nat} {r0 r1 : Term} {x2 x3 : Int} {r4 r5 : Term} {x6 : Int}  (k : Q (.inl none, h, kc, ks))   : wr P d sw_c224 sw_h224 (89, [r0, r1, vi x2, vi x3, r4, r5, vi x6], [], h, kc, ks) Q := by
  exact w_ret rfl k

/-! 225: FormulaWorks$Rules.setLeast(LFormulaWorks$Poly;LFormulaWorks$Poly;LFormulaWorks$Poly;)V -/
theorem k225_0 {P : s_P} {d : Nat} {Q : s_O → Prop} {h : s_H} {kc ks : Nat} {r0 r1 r2 r3 t4 t5 t6 t7 : Term} {q2 : Nat} {f3 : List Term} {v5 : Term} {q7 : Nat} {f8 : List Term} (g4 : s_get h q2 = some (1, 6, f3)) (g9 : s_get h q7 = some (1, 0, f8)) (k : wm P d 110 [.index q7] h (wq P d sw_c225 sw_h225 7 [.index q2, r1, r2, r3, t4, t5, t6, t7] [] kc ks Q)) (e_q2 : r0 = .index q2 := by first | rfl | assumption) (e_q7 : v5 = .index q7 := by first | rfl | assumption) (y1 : s_ty r0 = 3 := by first | rfl | assumption) (n6 : s_nth f3 0 = some v5 := by first | rfl | assumption)  : wr P d sw_c225 sw_h225 (0, [r0, r1, r2, r3, t4, t5, t6, t7], [], h, kc, ks) Q := by
  refine w_ld rfl rfl (Or.inr (Or.inr ⟨by decide, y1⟩)) ?_
  subst e_q2
  refine w_getf rfl g4 n6 ?_
  subst e_q7
  exact w_cv rfl [.index q7] [] rfl rfl (s_wt_4 rfl) rfl g9 k

theorem k225_7 {P : s_P} {d : Nat} {Q : s_O → Prop} {h : s_H} {kc ks : Nat} {r0 r1 r2 r3 t4 t5 t6 t7 : Term} {s0 : Int} {q3 : Nat} {f4 : List Term} {v6 : Term} {q8 : Nat} {f9 : List Term} (g5 : s_get h q3 = some (1, 6, f4)) (g10 : s_get h q8 = some (1, 0, f9)) (k : wm P d 109 [.index q8] h (wq P d sw_c225 sw_h225 16 [.index q3, r1, r2, r3, vi s0, t5, t6, t7] [] kc ks Q)) (e_q3 : r0 = .index q3 := by first | rfl | assumption) (e_q8 : v6 = .index q8 := by first | rfl | assumption) (y1 : s_ty r3 = 3 := by first | rfl | assumption) (y2 : s_ty r0 = 3 := by first | rfl | assumption) (n7 : s_nth f4 0 = some v6 := by first | rfl | assumption)  : wr P d sw_c225 sw_h225 (7, [r0, r1, r2, r3, t4, t5, t6, t7], [vi s0], h, kc, ks) Q := by
  refine w_st (ls' := [r0, r1, r2, r3, vi s0, t5, t6, t7]) rfl (Or.inl ⟨by decide, rfl⟩) (s_stK_r (pre := [r0, r1, r2]) y1) ?_
  refine w_ld rfl rfl (Or.inr (Or.inr ⟨by decide, y2⟩)) ?_
  subst e_q3
  refine w_getf rfl g5 n7 ?_
  subst e_q8
  exact w_cv rfl [.index q8] [] rfl rfl (s_wt_4 rfl) rfl g10 k

theorem k225_16 {P : s_P} {d : Nat} {Q : s_O → Prop} {h : s_H} {kc ks : Nat} {r0 r1 r2 r3 : Term} {x4 : Int} {t5 t6 t7 s0 : Term} {q3 : Nat} {f4 : List Term} (g5 : s_get h q3 = some (1, 4, f4)) (k : wm P d 171 [.index q3] h (wq P d sw_c225 sw_h225 22 [r0, r1, .index q3, r3, vi x4, s0, t6, t7] [] kc ks Q)) (e_q3 : r2 = .index q3 := by first | rfl | assumption) (y1 : s_ty s0 = 3 := by first | rfl | assumption) (y2 : s_ty r2 = 3 := by first | rfl | assumption)  : wr P d sw_c225 sw_h225 (16, [r0, r1, r2, r3, vi x4, t5, t6, t7], [s0], h, kc, ks) Q := by
  refine w_st (ls' := [r0, r1, r2, r3, vi x4, s0, t6, t7]) rfl (Or.inr ⟨by decide, y1⟩) rfl ?_
  refine w_ld rfl rfl (Or.inr (Or.inr ⟨by decide, y2⟩)) ?_
  subst e_q3
  exact w_cv rfl [.index q3] [] rfl rfl (s_wt_4 rfl) rfl g5 k

theorem k225_22 {P : s_P} {d : Nat} {Q : s_O → Prop} {h : s_H} {kc ks : Nat} {r0 r1 r2 r3 : Term} {x4 : Int} {r5 t6 t7 : Term} {s0 : Int}  (k : wm P d 168 [vi s0] h (wq P d sw_c225 sw_h225 25 [r0, r1, r2, r3, vi x4, r5, t6, t7] [] kc ks Q))   : wr P d sw_c225 sw_h225 (22, [r0, r1, r2, r3, vi x4, r5, t6, t7], [vi s0], h, kc, ks) Q := by
  exact w_cs rfl [vi s0] [] rfl rfl (s_wt_4 rfl) k

theorem k225_25 {P : s_P} {d : Nat} {Q : s_O → Prop} {h : s_H} {kc ks : Nat} {r0 r1 r2 r3 : Term} {x4 : Int} {r5 t6 t7 : Term} {s0 : Int} {q3 : Nat} {f4 : List Term} {v6 : Term} {q9 : Nat} {f10 : List Term} {z12 : Int} {q14 : Nat} {f15 : List Term} (g5 : s_get h q3 = some (1, 6, f4)) (g11 : s_get h q9 = some (1, 4, f10)) (g16 : s_get h q14 = some (1, 1, f15)) (k : wm P d 124 [.index q14, vi z12, vi (z12 + 1)] h (wq P d sw_c225 sw_h225 44 [.index q3, r1, .index q9, r3, vi x4, r5, vi s0, t7] [] kc ks Q)) (e_q3 : r0 = .index q3 := by first | rfl | assumption) (e_q9 : r2 = .index q9 := by first | rfl | assumption) (e_q14 : v6 = .index q14 := by first | rfl | assumption) (y1 : s_ty r5 = 3 := by first | rfl | assumption) (y2 : s_ty r0 = 3 := by first | rfl | assumption) (n7 : s_nth f4 1 = some v6 := by first | rfl | assumption) (y8 : s_ty r2 = 3 := by first | rfl | assumption) (n13 : s_nth f10 1 = some (vi z12) := by first | rfl | assumption)  : wr P d sw_c225 sw_h225 (25, [r0, r1, r2, r3, vi x4, r5, t6, t7], [vi s0], h, kc, ks) Q := by
  refine w_st (ls' := [r0, r1, r2, r3, vi x4, r5, vi s0, t7]) rfl (Or.inl ⟨by decide, rfl⟩) (s_stK_r (pre := [r0, r1, r2, r3, vi x4]) y1) ?_
  refine w_ld rfl rfl (Or.inr (Or.inr ⟨by decide, y2⟩)) ?_
  subst e_q3
  refine w_getf rfl g5 n7 ?_
  refine w_ld rfl rfl (Or.inr (Or.inr ⟨by decide, y8⟩)) ?_
  subst e_q9
  refine w_getf rfl g11 n13 ?_
  refine w_ld rfl rfl (Or.inr (Or.inr ⟨by decide, rfl⟩)) ?_
  refine w_getf rfl g11 n13 ?_
  refine w_c32 rfl (by decide) 1 (by decide) ?_
  refine w_iadd rfl ?_
  subst e_q14
  exact w_cv rfl [.index q14, vi z12, vi (z12 + 1)] [] rfl rfl (s_wt_4 rfl) rfl g16 k

theorem k225_44 {P : s_P} {d : Nat} {Q : s_O → Prop} {h : s_H} {kc ks : Nat} {r0 r1 r2 r3 : Term} {x4 : Int} {r5 : Term} {x6 : Int} {t7 : Term} {q2 : Nat} {f3 : List Term} (g4 : s_get h q2 = some (1, 4, f3)) (k : wm P d 180 [.index q2, vi 1] h (wq P d sw_c225 sw_h225 50 [r0, r1, r2, r3, vi x4, .index q2, vi x6, t7] [] kc ks Q)) (e_q2 : r5 = .index q2 := by first | rfl | assumption) (y1 : s_ty r5 = 3 := by first | rfl | assumption)  : wr P d sw_c225 sw_h225 (44, [r0, r1, r2, r3, vi x4, r5, vi x6, t7], [], h, kc, ks) Q := by
  refine w_ld rfl rfl (Or.inr (Or.inr ⟨by decide, y1⟩)) ?_
  refine w_c32 rfl (by decide) 1 (by decide) ?_
  subst e_q2
  exact w_cv rfl [.index q2, vi 1] [] rfl rfl (s_wt_4 rfl) rfl g4 k

theorem k225_50 {P : s_P} {d : Nat} {Q : s_O → Prop} {h : s_H} {kc ks : Nat} {r0 r1 r2 r3 : Term} {x4 : Int} {r5 : Term} {x6 : Int} {t7 : Term}  (k : wr P d sw_c225 sw_h225 (53, [r0, r1, r2, r3, vi x4, r5, vi x6, vi 0], [], h, kc, ks) Q)   : wr P d sw_c225 sw_h225 (50, [r0, r1, r2, r3, vi x4, r5, vi x6, t7], [], h, kc, ks) Q := by
  refine w_c32 rfl (by decide) 0 (by decide) ?_
  refine w_st (ls' := [r0, r1, r2, r3, vi x4, r5, vi x6, vi 0]) rfl (Or.inl ⟨by decide, rfl⟩) rfl ?_
  exact k

theorem k225_53 {P : s_P} {d : Nat} {Q : s_O → Prop} {h : s_H} {kc ks : Nat} {r0 r1 r2 r3 : Term} {x4 : Int} {r5 : Term} {x6 x7 : Int} {q2 : Nat} {f3 : List Term} {z5 : Int} (g4 : s_get h q2 = some (1, 4, f3)) (k1 : z5 < x7 → wr P d sw_c225 sw_h225 (98, [r0, r1, .index q2, r3, vi x4, r5, vi x6, vi x7], [], h, kc, ks) Q) (k2 : ¬ z5 < x7 → wr P d sw_c225 sw_h225 (62, [r0, r1, .index q2, r3, vi x4, r5, vi x6, vi x7], [], h, kc, ks) Q) (e_q2 : r2 = .index q2 := by first | rfl | assumption) (y1 : s_ty r2 = 3 := by first | rfl | assumption) (n6 : s_nth f3 1 = some (vi z5) := by first | rfl | assumption) (c7 : In3 x7 := by first | omega | assumption | (simp only [mk_len, List.length_map]; omega) | decide) (c8 : In3 z5 := by first | omega | assumption | (simp only [mk_len, List.length_map]; omega) | decide) : wr P d sw_c225 sw_h225 (53, [r0, r1, r2, r3, vi x4, r5, vi x6, vi x7], [], h, kc, ks) Q := by
  refine w_ld rfl rfl (Or.inl ⟨by decide, rfl⟩) ?_
  refine w_ld rfl rfl (Or.inr (Or.inr ⟨by decide, y1⟩)) ?_
  subst e_q2
  refine w_getf rfl g4 n6 ?_
  exact w_if2 rfl c7 c8 k1 k2

theorem k225_62 {P : s_P} {d : Nat} {Q : s_O → Prop} {h : s_H} {kc ks : Nat} {r0 r1 r2 r3 : Term} {x4 : Int} {r5 : Term} {x6 x7 : Int} {q2 : Nat} {f3 : List Term} {v5 : Term} {q8 : Nat} {f9 : List Term} (g4 : s_get h q2 = some (1, 6, f3)) (g10 : s_get h q8 = some (1, 1, f9)) (k : wm P d 131 [.index q8, vi x7, r5] h (wq P d sw_c225 sw_h225 73 [.index q2, r1, r2, r3, vi x4, r5, vi x6, vi x7] [] kc ks Q)) (e_q2 : r0 = .index q2 := by first | rfl | assumption) (e_q8 : v5 = .index q8 := by first | rfl | assumption) (y1 : s_ty r0 = 3 := by first | rfl | assumption) (n6 : s_nth f3 1 = some v5 := by first | rfl | assumption) (y7 : s_ty r5 = 3 := by first | rfl | assumption)  : wr P d sw_c225 sw_h225 (62, [r0, r1, r2, r3, vi x4, r5, vi x6, vi x7], [], h, kc, ks) Q := by
  refine w_ld rfl rfl (Or.inr (Or.inr ⟨by decide, y1⟩)) ?_
  subst e_q2
  refine w_getf rfl g4 n6 ?_
  refine w_ld rfl rfl (Or.inl ⟨by decide, rfl⟩) ?_
  refine w_ld rfl rfl (Or.inr (Or.inr ⟨by decide, y7⟩)) ?_
  subst e_q8
  exact w_cv rfl [.index q8, vi x7, r5] [] rfl rfl (s_wt_4 rfl) rfl g10 k

theorem k225_73 {P : s_P} {d : Nat} {Q : s_O → Prop} {h : s_H} {kc ks : Nat} {r0 r1 r2 r3 : Term} {x4 : Int} {r5 : Term} {x6 x7 : Int} {q2 : Nat} {f3 : List Term} {v5 : Term} {q9 : Nat} {f10 : List Term} (g4 : s_get h q2 = some (1, 6, f3)) (g11 : s_get h q9 = some (1, 0, f10)) (k : wm P d 111 [.index q9, r5, r1] h (wq P d sw_c225 sw_h225 83 [.index q2, r1, r2, r3, vi x4, r5, vi x6, vi x7] [] kc ks Q)) (e_q2 : r0 = .index q2 := by first | rfl | assumption) (e_q9 : v5 = .index q9 := by first | rfl | assumption) (y1 : s_ty r0 = 3 := by first | rfl | assumption) (n6 : s_nth f3 0 = some v5 := by first | rfl | assumption) (y7 : s_ty r5 = 3 := by first | rfl | assumption) (y8 : s_ty r1 = 3 := by first | rfl | assumption)  : wr P d sw_c225 sw_h225 (73, [r0, r1, r2, r3, vi x4, r5, vi x6, vi x7], [], h, kc, ks) Q := by
  refine w_ld rfl rfl (Or.inr (Or.inr ⟨by decide, y1⟩)) ?_
  subst e_q2
  refine w_getf rfl g4 n6 ?_
  refine w_ld rfl rfl (Or.inr (Or.inr ⟨by decide, y7⟩)) ?_
  refine w_ld rfl rfl (Or.inr (Or.inr ⟨by decide, y8⟩)) ?_
  subst e_q9
  exact w_cv rfl [.index q9, r5, r1] [] rfl rfl (s_wt_4 rfl) rfl g11 k

theorem k225_83 {P : s_P} {d : Nat} {Q : s_O → Prop} {h : s_H} {kc ks : Nat} {r0 r1 r2 r3 : Term} {x4 : Int} {r5 : Term} {x6 x7 : Int} {q3 : Nat} {f4 : List Term} (g5 : s_get h q3 = some (1, 4, f4)) (k : wm P d 176 [.index q3, r2, vi x6, .null] h (wq P d sw_c225 sw_h225 92 [r0, r1, r2, r3, vi x4, .index q3, vi x6, vi x7] [] kc ks Q)) (e_q3 : r5 = .index q3 := by first | rfl | assumption) (y1 : s_ty r5 = 3 := by first | rfl | assumption) (y2 : s_ty r2 = 3 := by first | rfl | assumption)  : wr P d sw_c225 sw_h225 (83, [r0, r1, r2, r3, vi x4, r5, vi x6, vi x7], [], h, kc, ks) Q := by
  refine w_ld rfl rfl (Or.inr (Or.inr ⟨by decide, y1⟩)) ?_
  refine w_ld rfl rfl (Or.inr (Or.inr ⟨by decide, y2⟩)) ?_
  refine w_ld rfl rfl (Or.inl ⟨by decide, rfl⟩) ?_
  refine w_null rfl ?_
  subst e_q3
  exact w_cv rfl [.index q3, r2, vi x6, .null] [] rfl rfl (s_wt_4 rfl) rfl g5 k

theorem k225_92 {P : s_P} {d : Nat} {Q : s_O → Prop} {h : s_H} {kc ks : Nat} {r0 r1 r2 r3 : Term} {x4 : Int} {r5 : Term} {x6 x7 : Int}  (k : wr P d sw_c225 sw_h225 (53, [r0, r1, r2, r3, vi x4, r5, vi x6, vi (x7 + 1)], [], h, kc, ks) Q)   : wr P d sw_c225 sw_h225 (92, [r0, r1, r2, r3, vi x4, r5, vi x6, vi x7], [], h, kc, ks) Q := by
  refine w_iinc (ls' := [r0, r1, r2, r3, vi x4, r5, vi x6, vi (x7 + 1)]) rfl rfl 1 (by decide) rfl ?_
  refine w_goto rfl ?_
  exact k

theorem k225_98 {P : s_P} {d : Nat} {Q : s_O → Prop} {h : s_H} {kc ks : Nat} {r0 r1 r2 r3 : Term} {x4 : Int} {r5 : Term} {x6 x7 : Int} {q2 : Nat} {f3 : List Term} {v5 : Term} {q7 : Nat} {f8 : List Term} (g4 : s_get h q2 = some (1, 6, f3)) (g9 : s_get h q7 = some (1, 1, f8)) (k : wm P d 127 [.index q7] h (wq P d sw_c225 sw_h225 105 [.index q2, r1, r2, r3, vi x4, r5, vi x6, vi x7] [] kc ks Q)) (e_q2 : r0 = .index q2 := by first | rfl | assumption) (e_q7 : v5 = .index q7 := by first | rfl | assumption) (y1 : s_ty r0 = 3 := by first | rfl | assumption) (n6 : s_nth f3 1 = some v5 := by first | rfl | assumption)  : wr P d sw_c225 sw_h225 (98, [r0, r1, r2, r3, vi x4, r5, vi x6, vi x7], [], h, kc, ks) Q := by
  refine w_ld rfl rfl (Or.inr (Or.inr ⟨by decide, y1⟩)) ?_
  subst e_q2
  refine w_getf rfl g4 n6 ?_
  subst e_q7
  exact w_cv rfl [.index q7] [] rfl rfl (s_wt_4 rfl) rfl g9 k

theorem k225_105 {P : s_P} {d : Nat} {Q : s_O → Prop} {h : s_H} {kc ks : Nat} {r0 r1 r2 r3 : Term} {x4 : Int} {r5 : Term} {x6 x7 : Int} {q2 : Nat} {f3 : List Term} {v5 : Term} {q7 : Nat} {f8 : List Term} (g4 : s_get h q2 = some (1, 6, f3)) (g9 : s_get h q7 = some (1, 1, f8)) (k : wm P d 128 [.index q7] h (wq P d sw_c225 sw_h225 112 [.index q2, r1, r2, r3, vi x4, r5, vi x6, vi x7] [] kc ks Q)) (e_q2 : r0 = .index q2 := by first | rfl | assumption) (e_q7 : v5 = .index q7 := by first | rfl | assumption) (y1 : s_ty r0 = 3 := by first | rfl | assumption) (n6 : s_nth f3 1 = some v5 := by first | rfl | assumption)  : wr P d sw_c225 sw_h225 (105, [r0, r1, r2, r3, vi x4, r5, vi x6, vi x7], [], h, kc, ks) Q := by
  refine w_ld rfl rfl (Or.inr (Or.inr ⟨by decide, y1⟩)) ?_
  subst e_q2
  refine w_getf rfl g4 n6 ?_
  subst e_q7
  exact w_cv rfl [.index q7] [] rfl rfl (s_wt_4 rfl) rfl g9 k

theorem k225_112 {P : s_P} {d : Nat} {Q : s_O → Prop} {h : s_H} {kc ks : Nat} {r0 r1 r2 r3 : Term} {x4 : Int} {r5 : Term} {x6 x7 s0 : Int} {q2 : Nat} {f3 : List Term} {v5 : Term} {q7 : Nat} {f8 : List Term} (g4 : s_get h q2 = some (1, 6, f3)) (g9 : s_get h q7 = some (1, 1, f8)) (k : wm P d 125 [.index q7, vi s0] h (wq P d sw_c225 sw_h225 123 [.index q2, r1, r2, r3, vi x4, r5, vi x6, vi s0] [] kc ks Q)) (e_q2 : r0 = .index q2 := by first | rfl | assumption) (e_q7 : v5 = .index q7 := by first | rfl | assumption) (y1 : s_ty r0 = 3 := by first | rfl | assumption) (n6 : s_nth f3 1 = some v5 := by first | rfl | assumption)  : wr P d sw_c225 sw_h225 (112, [r0, r1, r2, r3, vi x4, r5, vi x6, vi x7], [vi s0], h, kc, ks) Q := by
  refine w_st (ls' := [r0, r1, r2, r3, vi x4, r5, vi x6, vi s0]) rfl (Or.inl ⟨by decide, rfl⟩) rfl ?_
  refine w_ld rfl rfl (Or.inr (Or.inr ⟨by decide, y1⟩)) ?_
  subst e_q2
  refine w_getf rfl g4 n6 ?_
  refine w_ld rfl rfl (Or.inl ⟨by decide, rfl⟩) ?_
  subst e_q7
  exact w_cv rfl [.index q7, vi s0] [] rfl rfl (s_wt_4 rfl) rfl g9 k

theorem k225_123 {P : s_P} {d : Nat} {Q : s_O → Prop} {h : s_H} {kc ks : Nat} {r0 r1 r2 r3 : Term} {x4 : Int} {r5 : Term} {x6 x7 : Int} {q3 : Nat} {f4 : List Term} {v6 : Term} {q8 : Nat} {f9 : List Term} {v11 : Term} {q13 : Nat} {f14 : List Term} (g5 : s_get h q3 = some (1, 6, f4)) (g10 : s_get h q8 = some (1, 1, f9)) (g15 : s_get h q13 = some (1, 4, f14)) (k : wm P d 183 [.index q13, v11, vi 0, vi (x7 + 1)] h (wq P d sw_c225 sw_h225 139 [.index q3, r1, r2, .index q13, vi x4, r5, vi x6, vi x7] [] kc ks Q)) (e_q3 : r0 = .index q3 := by first | rfl | assumption) (e_q8 : v6 = .index q8 := by first | rfl | assumption) (e_q13 : r3 = .index q13 := by first | rfl | assumption) (y1 : s_ty r3 = 3 := by first | rfl | assumption) (y2 : s_ty r0 = 3 := by first | rfl | assumption) (n7 : s_nth f4 1 = some v6 := by first | rfl | assumption) (n12 : s_nth f9 2 = some v11 := by first | rfl | assumption)  : wr P d sw_c225 sw_h225 (123, [r0, r1, r2, r3, vi x4, r5, vi x6, vi x7], [], h, kc, ks) Q := by
  refine w_ld rfl rfl (Or.inr (Or.inr ⟨by decide, y1⟩)) ?_
  refine w_ld rfl rfl (Or.inr (Or.inr ⟨by decide, y2⟩)) ?_
  subst e_q3
  refine w_getf rfl g5 n7 ?_
  subst e_q8
  refine w_getf rfl g10 n12 ?_
  refine w_c32 rfl (by decide) 0 (by decide) ?_
  refine w_ld rfl rfl (Or.inl ⟨by decide, rfl⟩) ?_
  refine w_c32 rfl (by decide) 1 (by decide) ?_
  refine w_iadd rfl ?_
  subst e_q13
  exact w_cv rfl [.index q13, v11, vi 0, vi (x7 + 1)] [] rfl rfl (s_wt_4 rfl) rfl g15 k

theorem k225_139 {P : s_P} {d : Nat} {Q : s_O → Prop} {h : s_H} {kc ks : Nat} {r0 r1 r2 r3 : Term} {x4 : Int} {r5 : Term} {x6 x7 : Int} {q2 : Nat} {f3 : List Term} {v5 : Term} {q7 : Nat} {f8 : List Term} (g4 : s_get h q2 = some (1, 6, f3)) (g9 : s_get h q7 = some (1, 0, f8)) (k : wm P d 113 [.index q7, vi x4] h (wq P d sw_c225 sw_h225 148 [.index q2, r1, r2, r3, vi x4, r5, vi x6, vi x7] [] kc ks Q)) (e_q2 : r0 = .index q2 := by first | rfl | assumption) (e_q7 : v5 = .index q7 := by first | rfl | assumption) (y1 : s_ty r0 = 3 := by first | rfl | assumption) (n6 : s_nth f3 0 = some v5 := by first | rfl | assumption)  : wr P d sw_c225 sw_h225 (139, [r0, r1, r2, r3, vi x4, r5, vi x6, vi x7], [], h, kc, ks) Q := by
  refine w_ld rfl rfl (Or.inr (Or.inr ⟨by decide, y1⟩)) ?_
  subst e_q2
  refine w_getf rfl g4 n6 ?_
  refine w_ld rfl rfl (Or.inl ⟨by decide, rfl⟩) ?_
  subst e_q7
  exact w_cv rfl [.index q7, vi x4] [] rfl rfl (s_wt_4 rfl) rfl g9 k

theorem k225_148 {P : s_P} {d : Nat} {Q : s_O → Prop} {h : s_H} {kc ks : Nat} {r0 r1 r2 r3 : Term} {x4 : Int} {r5 : Term} {x6 x7 : Int}  (k : Q (.inl none, h, kc, ks))   : wr P d sw_c225 sw_h225 (148, [r0, r1, r2, r3, vi x4, r5, vi x6, vi x7], [], h, kc, ks) Q := by
  exact w_ret rfl k

/-! 226: FormulaWorks$Rules.setShifted(LFormulaWorks$Poly;ILFormulaWorks$Poly;)V -/
theorem k226_0 {P : s_P} {d : Nat} {Q : s_O → Prop} {h : s_H} {kc ks : Nat} {r0 r1 : Term} {x2 : Int} {r3 : Term} {q3 : Nat} {f4 : List Term} (g5 : s_get h q3 = some (1, 4, f4)) (k : wm P d 179 [.index q3, r1] h (wq P d sw_c226 sw_h226 5 [r0, r1, vi x2, .index q3] [] kc ks Q)) (e_q3 : r3 = .index q3 := by first | rfl | assumption) (y1 : s_ty r3 = 3 := by first | rfl | assumption) (y2 : s_ty r1 = 3 := by first | rfl | assumption)  : wr P d sw_c226 sw_h226 (0, [r0, r1, vi x2, r3], [], h, kc, ks) Q := by
  refine w_ld rfl rfl (Or.inr (Or.inr ⟨by decide, y1⟩)) ?_
  refine w_ld rfl rfl (Or.inr (Or.inr ⟨by decide, y2⟩)) ?_
  subst e_q3
  exact w_cv rfl [.index q3, r1] [] rfl rfl (s_wt_4 rfl) rfl g5 k

theorem k226_5 {P : s_P} {d : Nat} {Q : s_O → Prop} {h : s_H} {kc ks : Nat} {r0 r1 : Term} {x2 : Int} {r3 : Term} {q2 : Nat} {f3 : List Term} (g4 : s_get h q2 = some (1, 4, f3)) (k : wm P d 185 [.index q2, vi x2] h (wq P d sw_c226 sw_h226 10 [r0, r1, vi x2, .index q2] [] kc ks Q)) (e_q2 : r3 = .index q2 := by first | rfl | assumption) (y1 : s_ty r3 = 3 := by first | rfl | assumption)  : wr P d sw_c226 sw_h226 (5, [r0, r1, vi x2, r3], [], h, kc, ks) Q := by
  refine w_ld rfl rfl (Or.inr (Or.inr ⟨by decide, y1⟩)) ?_
  refine w_ld rfl rfl (Or.inl ⟨by decide, rfl⟩) ?_
  subst e_q2
  exact w_cv rfl [.index q2, vi x2] [] rfl rfl (s_wt_4 rfl) rfl g4 k

theorem k226_10 {P : s_P} {d : Nat} {Q : s_O → Prop} {h : s_H} {kc ks : Nat} {r0 r1 : Term} {x2 : Int} {r3 : Term}  (k : Q (.inl none, h, kc, ks))   : wr P d sw_c226 sw_h226 (10, [r0, r1, vi x2, r3], [], h, kc, ks) Q := by
  exact w_ret rfl k

/-! 227: FormulaWorks$Rules.solution(LFormulaWorks$Thing;)LFormulaWorks$Thing; -/
theorem k227_0 {P : s_P} {d : Nat} {Q : s_O → Prop} {h : s_H} {kc ks : Nat} {r0 r1 : Term} {q2 : Nat} {f3 : List Term} {v5 : Term} {q7 : Nat} {f8 : List Term} (g4 : s_get h q2 = some (1, 6, f3)) (g9 : s_get h q7 = some (1, 1, f8)) (k : wm P d 127 [.index q7] h (wq P d sw_c227 sw_h227 7 [.index q2, r1] [] kc ks Q)) (e_q2 : r0 = .index q2 := by first | rfl | assumption) (e_q7 : v5 = .index q7 := by first | rfl | assumption) (y1 : s_ty r0 = 3 := by first | rfl | assumption) (n6 : s_nth f3 1 = some v5 := by first | rfl | assumption)  : wr P d sw_c227 sw_h227 (0, [r0, r1], [], h, kc, ks) Q := by
  refine w_ld rfl rfl (Or.inr (Or.inr ⟨by decide, y1⟩)) ?_
  subst e_q2
  refine w_getf rfl g4 n6 ?_
  subst e_q7
  exact w_cv rfl [.index q7] [] rfl rfl (s_wt_4 rfl) rfl g9 k

theorem k227_7 {P : s_P} {d : Nat} {Q : s_O → Prop} {h : s_H} {kc ks : Nat} {r0 r1 : Term} {q2 : Nat} {f3 : List Term} {v5 : Term} {q7 : Nat} {f8 : List Term} (g4 : s_get h q2 = some (1, 6, f3)) (g9 : s_get h q7 = some (1, 1, f8)) (k : wm P d 132 [.index q7, vi 21] h (wq P d sw_c227 sw_h227 16 [.index q2, r1] [] kc ks Q)) (e_q2 : r0 = .index q2 := by first | rfl | assumption) (e_q7 : v5 = .index q7 := by first | rfl | assumption) (y1 : s_ty r0 = 3 := by first | rfl | assumption) (n6 : s_nth f3 1 = some v5 := by first | rfl | assumption)  : wr P d sw_c227 sw_h227 (7, [r0, r1], [], h, kc, ks) Q := by
  refine w_ld rfl rfl (Or.inr (Or.inr ⟨by decide, y1⟩)) ?_
  subst e_q2
  refine w_getf rfl g4 n6 ?_
  refine w_c32 rfl (by decide) 21 (by decide) ?_
  subst e_q7
  exact w_cv rfl [.index q7, vi 21] [] rfl rfl (s_wt_4 rfl) rfl g9 k

theorem k227_16 {P : s_P} {d : Nat} {Q : s_O → Prop} {h : s_H} {kc ks : Nat} {r0 r1 : Term} {q2 : Nat} {f3 : List Term} {v5 : Term} {q8 : Nat} {f9 : List Term} {v11 : Term} {q13 : Nat} {f14 : List Term} {v16 : Term} {q18 : Nat} {f19 : List Term} (g4 : s_get h q2 = some (1, 8, f3)) (g10 : s_get h q8 = some (1, 6, f9)) (g15 : s_get h q13 = some (1, 1, f14)) (g20 : s_get h q18 = some (1, 4, f19)) (k : wm P d 183 [.index q18, v16, vi 0, vi 21] h (wq P d sw_c227 sw_h227 33 [.index q8, .index q2] [] kc ks Q)) (e_q2 : r1 = .index q2 := by first | rfl | assumption) (e_q8 : r0 = .index q8 := by first | rfl | assumption) (e_q13 : v11 = .index q13 := by first | rfl | assumption) (e_q18 : v5 = .index q18 := by first | rfl | assumption) (y1 : s_ty r1 = 3 := by first | rfl | assumption) (n6 : s_nth f3 1 = some v5 := by first | rfl | assumption) (y7 : s_ty r0 = 3 := by first | rfl | assumption) (n12 : s_nth f9 1 = some v11 := by first | rfl | assumption) (n17 : s_nth f14 2 = some v16 := by first | rfl | assumption)  : wr P d sw_c227 sw_h227 (16, [r0, r1], [], h, kc, ks) Q := by
  refine w_ld rfl rfl (Or.inr (Or.inr ⟨by decide, y1⟩)) ?_
  subst e_q2
  refine w_getf rfl g4 n6 ?_
  refine w_ld rfl rfl (Or.inr (Or.inr ⟨by decide, y7⟩)) ?_
  subst e_q8
  refine w_getf rfl g10 n12 ?_
  subst e_q13
  refine w_getf rfl g15 n17 ?_
  refine w_c32 rfl (by decide) 0 (by decide) ?_
  refine w_c32 rfl (by decide) 21 (by decide) ?_
  subst e_q18
  exact w_cv rfl [.index q18, v16, vi 0, vi 21] [] rfl rfl (s_wt_4 rfl) rfl g20 k

theorem k227_33 {P : s_P} {d : Nat} {Q : s_O → Prop} {h : s_H} {kc ks : Nat} {r0 r1 : Term} {q2 : Nat} {f3 : List Term} {v5 : Term} {q7 : Nat} {f8 : List Term} (g4 : s_get h q2 = some (1, 8, f3)) (g9 : s_get h q7 = some (1, 4, f8)) (k : wm P d 180 [.index q7, vi 1] h (wq P d sw_c227 sw_h227 41 [r0, .index q2] [] kc ks Q)) (e_q2 : r1 = .index q2 := by first | rfl | assumption) (e_q7 : v5 = .index q7 := by first | rfl | assumption) (y1 : s_ty r1 = 3 := by first | rfl | assumption) (n6 : s_nth f3 2 = some v5 := by first | rfl | assumption)  : wr P d sw_c227 sw_h227 (33, [r0, r1], [], h, kc, ks) Q := by
  refine w_ld rfl rfl (Or.inr (Or.inr ⟨by decide, y1⟩)) ?_
  subst e_q2
  refine w_getf rfl g4 n6 ?_
  refine w_c32 rfl (by decide) 1 (by decide) ?_
  subst e_q7
  exact w_cv rfl [.index q7, vi 1] [] rfl rfl (s_wt_4 rfl) rfl g9 k

theorem k227_41 {P : s_P} {d : Nat} {Q : s_O → Prop} {h : s_H} {kc ks : Nat} {r0 r1 : Term} {q3 : Nat} {f4 : List Term} {v6 : Term} {q8 : Nat} {f9 : List Term} (g5 : s_get h q3 = some (1, 6, f4)) (g10 : s_get h q8 = some (1, 1, f9)) (k : wm P d 129 [.index q8, vi 21] h (wq P d sw_c227 sw_h227 51 [.index q3, r1] [r1] kc ks Q)) (e_q3 : r0 = .index q3 := by first | rfl | assumption) (e_q8 : v6 = .index q8 := by first | rfl | assumption) (y1 : s_ty r1 = 3 := by first | rfl | assumption) (y2 : s_ty r0 = 3 := by first | rfl | assumption) (n7 : s_nth f4 1 = some v6 := by first | rfl | assumption)  : wr P d sw_c227 sw_h227 (41, [r0, r1], [], h, kc, ks) Q := by
  refine w_ld rfl rfl (Or.inr (Or.inr ⟨by decide, y1⟩)) ?_
  refine w_ld rfl rfl (Or.inr (Or.inr ⟨by decide, y2⟩)) ?_
  subst e_q3
  refine w_getf rfl g5 n7 ?_
  refine w_c32 rfl (by decide) 21 (by decide) ?_
  subst e_q8
  exact w_cv rfl [.index q8, vi 21] [r1] rfl rfl (s_wt_4 rfl) rfl g10 k

theorem k227_51 {P : s_P} {d : Nat} {Q : s_O → Prop} {h : s_H} {kc ks : Nat} {r0 r1 s0 : Term} {s1 : Int}  (k1 : s1 = 0 → wr P d sw_c227 sw_h227 (58, [r0, r1], [s0], h, kc, ks) Q) (k2 : ¬ s1 = 0 → wr P d sw_c227 sw_h227 (54, [r0, r1], [s0], h, kc, ks) Q)  (c1 : In3 s1 := by first | omega | assumption | (simp only [mk_len, List.length_map]; omega) | decide) : wr P d sw_c227 sw_h227 (51, [r0, r1], [vi s1, s0], h, kc, ks) Q := by
  exact w_if1 rfl c1 k1 k2

theorem k227_54 {P : s_P} {d : Nat} {Q : s_O → Prop} {h : s_H} {kc ks : Nat} {r0 r1 s0 : Term}  (k : wr P d sw_c227 sw_h227 (60, [r0, r1], [vi 0, s0], h, kc, ks) Q)   : wr P d sw_c227 sw_h227 (54, [r0, r1], [s0], h, kc, ks) Q := by
  refine w_c32 rfl (by decide) 0 (by decide) ?_
  refine w_goto rfl ?_
  exact k

theorem k227_58 {P : s_P} {d : Nat} {Q : s_O → Prop} {h : s_H} {kc ks : Nat} {r0 r1 s0 : Term}  (k : wr P d sw_c227 sw_h227 (60, [r0, r1], [vi 9, s0], h, kc, ks) Q)   : wr P d sw_c227 sw_h227 (58, [r0, r1], [s0], h, kc, ks) Q := by
  refine w_c32 rfl (by decide) 9 (by decide) ?_
  exact k

theorem k227_60 {P : s_P} {d : Nat} {Q : s_O → Prop} {h : s_H} {kc ks : Nat} {r0 r1 s0 : Term} {s1 : Int} {q1 : Nat} {f2 : List Term} (g3 : s_get h q1 = some (1, 8, f2)) (k : Q (.inl (some r1), (hp h q1 (1, 8, f2.set 7 (vi s1))), kc, ks)) (e_q1 : s0 = .index q1 := by first | rfl | assumption) (l4 : 7 < f2.length := by first | exact Nat.le_of_ble_eq_true rfl | omega | assumption) (y6 : s_ty r1 = 3 := by first | rfl | assumption) (c5 : 0 < q1 := by first | omega | assumption | (simp only [mk_len, List.length_map]; omega) | decide) : wr P d sw_c227 sw_h227 (60, [r0, r1], [vi s1, s0], h, kc, ks) Q := by
  subst e_q1
  refine w_putf rfl g3 (Nat.ble_eq_true_of_le c5) rfl (Nat.ble_eq_true_of_le l4) ?_
  refine w_ld rfl rfl (Or.inr (Or.inr ⟨by decide, y6⟩)) ?_
  exact w_aret rfl y6 k

/-! 228: FormulaWorks$Rules.solveSum(LFormulaWorks$Poly;LFormulaWorks$Poly;LFormulaWorks$Poly;LFormulaWorks$Thing;)LFormulaWorks$Thing; -/
theorem k228_0 {P : s_P} {d : Nat} {Q : s_O → Prop} {h : s_H} {kc ks : Nat} {r0 r1 r2 r3 r4 t5 t6 t7 t8 t9 : Term} {q2 : Nat} {f3 : List Term} {v5 : Term} {q7 : Nat} {f8 : List Term} (g4 : s_get h q2 = some (1, 6, f3)) (g9 : s_get h q7 = some (1, 0, f8)) (k : wm P d 110 [.index q7] h (wq P d sw_c228 sw_h228 7 [.index q2, r1, r2, r3, r4, t5, t6, t7, t8, t9] [] kc ks Q)) (e_q2 : r0 = .index q2 := by first | rfl | assumption) (e_q7 : v5 = .index q7 := by first | rfl | assumption) (y1 : s_ty r0 = 3 := by first | rfl | assumption) (n6 : s_nth f3 0 = some v5 := by first | rfl | assumption)  : wr P d sw_c228 sw_h228 (0, [r0, r1, r2, r3, r4, t5, t6, t7, t8, t9], [], h, kc, ks) Q := by
  refine w_ld rfl rfl (Or.inr (Or.inr ⟨by decide, y1⟩)) ?_
  subst e_q2
  refine w_getf rfl g4 n6 ?_
  subst e_q7
  exact w_cv rfl [.index q7] [] rfl rfl (s_wt_4 rfl) rfl g9 k

theorem k228_7 {P : s_P} {d : Nat} {Q : s_O → Prop} {h : s_H} {kc ks : Nat} {r0 r1 r2 r3 r4 t5 t6 t7 t8 t9 : Term} {s0 : Int} {q3 : Nat} {f4 : List Term} {v6 : Term} {q8 : Nat} {f9 : List Term} (g5 : s_get h q3 = some (1, 6, f4)) (g10 : s_get h q8 = some (1, 0, f9)) (k : wm P d 109 [.index q8] h (wq P d sw_c228 sw_h228 16 [.index q3, r1, r2, r3, r4, vi s0, t6, t7, t8, t9] [] kc ks Q)) (e_q3 : r0 = .index q3 := by first | rfl | assumption) (e_q8 : v6 = .index q8 := by first | rfl | assumption) (y1 : s_ty r4 = 3 := by first | rfl | assumption) (y2 : s_ty r0 = 3 := by first | rfl | assumption) (n7 : s_nth f4 0 = some v6 := by first | rfl | assumption)  : wr P d sw_c228 sw_h228 (7, [r0, r1, r2, r3, r4, t5, t6, t7, t8, t9], [vi s0], h, kc, ks) Q := by
  refine w_st (ls' := [r0, r1, r2, r3, r4, vi s0, t6, t7, t8, t9]) rfl (Or.inl ⟨by decide, rfl⟩) (s_stK_r (pre := [r0, r1, r2, r3]) y1) ?_
  refine w_ld rfl rfl (Or.inr (Or.inr ⟨by decide, y2⟩)) ?_
  subst e_q3
  refine w_getf rfl g5 n7 ?_
  subst e_q8
  exact w_cv rfl [.index q8] [] rfl rfl (s_wt_4 rfl) rfl g10 k

theorem k228_16 {P : s_P} {d : Nat} {Q : s_O → Prop} {h : s_H} {kc ks : Nat} {r0 r1 r2 r3 r4 : Term} {x5 : Int} {t6 t7 t8 t9 s0 : Term} {q3 : Nat} {f4 : List Term} {v6 : Term} {q8 : Nat} {f9 : List Term} (g5 : s_get h q3 = some (1, 6, f4)) (g10 : s_get h q8 = some (1, 0, f9)) (k : wm P d 109 [.index q8] h (wq P d sw_c228 sw_h228 25 [.index q3, r1, r2, r3, r4, vi x5, s0, t7, t8, t9] [] kc ks Q)) (e_q3 : r0 = .index q3 := by first | rfl | assumption) (e_q8 : v6 = .index q8 := by first | rfl | assumption) (y1 : s_ty s0 = 3 := by first | rfl | assumption) (y2 : s_ty r0 = 3 := by first | rfl | assumption) (n7 : s_nth f4 0 = some v6 := by first | rfl | assumption)  : wr P d sw_c228 sw_h228 (16, [r0, r1, r2, r3, r4, vi x5, t6, t7, t8, t9], [s0], h, kc, ks) Q := by
  refine w_st (ls' := [r0, r1, r2, r3, r4, vi x5, s0, t7, t8, t9]) rfl (Or.inr ⟨by decide, y1⟩) rfl ?_
  refine w_ld rfl rfl (Or.inr (Or.inr ⟨by decide, y2⟩)) ?_
  subst e_q3
  refine w_getf rfl g5 n7 ?_
  subst e_q8
  exact w_cv rfl [.index q8] [] rfl rfl (s_wt_4 rfl) rfl g10 k

theorem k228_25 {P : s_P} {d : Nat} {Q : s_O → Prop} {h : s_H} {kc ks : Nat} {r0 r1 r2 r3 r4 : Term} {x5 : Int} {r6 t7 t8 t9 s0 : Term} {q4 : Nat} {f5 : List Term} {v7 : Term} {q9 : Nat} {f10 : List Term} (g6 : s_get h q4 = some (1, 6, f5)) (g11 : s_get h q9 = some (1, 0, f10)) (k : wm P d 109 [.index q9] h (wq P d sw_c228 sw_h228 34 [.index q4, r1, r2, r3, r4, vi x5, r6, s0, t8, t9] [] kc ks Q)) (e_q4 : r0 = .index q4 := by first | rfl | assumption) (e_q9 : v7 = .index q9 := by first | rfl | assumption) (y1 : s_ty r6 = 3 := by first | rfl | assumption) (y2 : s_ty s0 = 3 := by first | rfl | assumption) (y3 : s_ty r0 = 3 := by first | rfl | assumption) (n8 : s_nth f5 0 = some v7 := by first | rfl | assumption)  : wr P d sw_c228 sw_h228 (25, [r0, r1, r2, r3, r4, vi x5, r6, t7, t8, t9], [s0], h, kc, ks) Q := by
  refine w_st (ls' := [r0, r1, r2, r3, r4, vi x5, r6, s0, t8, t9]) rfl (Or.inr ⟨by decide, y2⟩) (s_stK_r (pre := [r0, r1, r2, r3, r4, vi x5]) y1) ?_
  refine w_ld rfl rfl (Or.inr (Or.inr ⟨by decide, y3⟩)) ?_
  subst e_q4
  refine w_getf rfl g6 n8 ?_
  subst e_q9
  exact w_cv rfl [.index q9] [] rfl rfl (s_wt_4 rfl) rfl g11 k

theorem k228_34 {P : s_P} {d : Nat} {Q : s_O → Prop} {h : s_H} {kc ks : Nat} {r0 r1 r2 r3 r4 : Term} {x5 : Int} {r6 r7 t8 t9 s0 : Term} {q4 : Nat} {f5 : List Term} {v7 : Term} {q9 : Nat} {f10 : List Term} (g6 : s_get h q4 = some (1, 6, f5)) (g11 : s_get h q9 = some (1, 1, f10)) (k : wm P d 124 [.index q9, vi 61, vi 22] h (wq P d sw_c228 sw_h228 47 [.index q4, r1, r2, r3, r4, vi x5, r6, r7, s0, t9] [] kc ks Q)) (e_q4 : r0 = .index q4 := by first | rfl | assumption) (e_q9 : v7 = .index q9 := by first | rfl | assumption) (y1 : s_ty r7 = 3 := by first | rfl | assumption) (y2 : s_ty s0 = 3 := by first | rfl | assumption) (y3 : s_ty r0 = 3 := by first | rfl | assumption) (n8 : s_nth f5 1 = some v7 := by first | rfl | assumption)  : wr P d sw_c228 sw_h228 (34, [r0, r1, r2, r3, r4, vi x5, r6, r7, t8, t9], [s0], h, kc, ks) Q := by
  refine w_st (ls' := [r0, r1, r2, r3, r4, vi x5, r6, r7, s0, t9]) rfl (Or.inr ⟨by decide, y2⟩) (s_stK_r (pre := [r0, r1, r2, r3, r4, vi x5, r6]) y1) ?_
  refine w_ld rfl rfl (Or.inr (Or.inr ⟨by decide, y3⟩)) ?_
  subst e_q4
  refine w_getf rfl g6 n8 ?_
  refine w_c32 rfl (by decide) 61 (by decide) ?_
  refine w_c32 rfl (by decide) 22 (by decide) ?_
  subst e_q9
  exact w_cv rfl [.index q9, vi 61, vi 22] [] rfl rfl (s_wt_4 rfl) rfl g11 k

theorem k228_47 {P : s_P} {d : Nat} {Q : s_O → Prop} {h : s_H} {kc ks : Nat} {r0 r1 r2 r3 r4 : Term} {x5 : Int} {r6 r7 r8 t9 : Term}  (k : wr P d sw_c228 sw_h228 (50, [r0, r1, r2, r3, r4, vi x5, r6, r7, r8, vi 0], [], h, kc, ks) Q) (y1 : s_ty r8 = 3 := by first | rfl | assumption)  : wr P d sw_c228 sw_h228 (47, [r0, r1, r2, r3, r4, vi x5, r6, r7, r8, t9], [], h, kc, ks) Q := by
  refine w_c32 rfl (by decide) 0 (by decide) ?_
  refine w_st (ls' := [r0, r1, r2, r3, r4, vi x5, r6, r7, r8, vi 0]) rfl (Or.inl ⟨by decide, rfl⟩) (s_stK_r (pre := [r0, r1, r2, r3, r4, vi x5, r6, r7]) y1) ?_
  exact k

theorem k228_50 {P : s_P} {d : Nat} {Q : s_O → Prop} {h : s_H} {kc ks : Nat} {r0 r1 r2 r3 r4 : Term} {x5 : Int} {r6 r7 r8 : Term} {x9 : Int}  (k1 : 21 ≤ x9 → wr P d sw_c228 sw_h228 (115, [r0, r1, r2, r3, r4, vi x5, r6, r7, r8, vi x9], [], h, kc, ks) Q) (k2 : ¬ 21 ≤ x9 → wr P d sw_c228 sw_h228 (57, [r0, r1, r2, r3, r4, vi x5, r6, r7, r8, vi x9], [], h, kc, ks) Q)  (c1 : In3 x9 := by first | omega | assumption | (simp only [mk_len, List.length_map]; omega) | decide) : wr P d sw_c228 sw_h228 (50, [r0, r1, r2, r3, r4, vi x5, r6, r7, r8, vi x9], [], h, kc, ks) Q := by
  refine w_ld rfl rfl (Or.inl ⟨by decide, rfl⟩) ?_
  refine w_c32 rfl (by decide) 21 (by decide) ?_
  exact w_if2 rfl c1 (by decide) k1 k2

theorem k228_57 {P : s_P} {d : Nat} {Q : s_O → Prop} {h : s_H} {kc ks : Nat} {r0 r1 r2 r3 r4 : Term} {x5 : Int} {r6 r7 r8 : Term} {x9 : Int} {q2 : Nat} {f3 : List Term} (g4 : s_get h q2 = some (1, 4, f3)) (k : wm P d 181 [.index q2, vi x9] h (wq P d sw_c228 sw_h228 64 [r0, r1, r2, r3, r4, vi x5, .index q2, r7, r8, vi x9] [] kc ks Q)) (e_q2 : r6 = .index q2 := by first | rfl | assumption) (y1 : s_ty r6 = 3 := by first | rfl | assumption)  : wr P d sw_c228 sw_h228 (57, [r0, r1, r2, r3, r4, vi x5, r6, r7, r8, vi x9], [], h, kc, ks) Q := by
  refine w_ld rfl rfl (Or.inr (Or.inr ⟨by decide, y1⟩)) ?_
  refine w_ld rfl rfl (Or.inl ⟨by decide, rfl⟩) ?_
  subst e_q2
  exact w_cv rfl [.index q2, vi x9] [] rfl rfl (s_wt_4 rfl) rfl g4 k

theorem k228_64 {P : s_P} {d : Nat} {Q : s_O → Prop} {h : s_H} {kc ks : Nat} {r0 r1 r2 r3 r4 : Term} {x5 : Int} {r6 r7 r8 : Term} {x9 : Int} {q4 : Nat} {f5 : List Term} (g6 : s_get h q4 = some (1, 4, f5)) (k : wm P d 182 [.index q4, r2, r6] h (wq P d sw_c228 sw_h228 72 [r0, r1, r2, r3, r4, vi x5, r6, r7, .index q4, vi x9] [] kc ks Q)) (e_q4 : r8 = .index q4 := by first | rfl | assumption) (y1 : s_ty r8 = 3 := by first | rfl | assumption) (y2 : s_ty r2 = 3 := by first | rfl | assumption) (y3 : s_ty r6 = 3 := by first | rfl | assumption)  : wr P d sw_c228 sw_h228 (64, [r0, r1, r2, r3, r4, vi x5, r6, r7, r8, vi x9], [], h, kc, ks) Q := by
  refine w_ld rfl rfl (Or.inr (Or.inr ⟨by decide, y1⟩)) ?_
  refine w_ld rfl rfl (Or.inr (Or.inr ⟨by decide, y2⟩)) ?_
  refine w_ld rfl rfl (Or.inr (Or.inr ⟨by decide, y3⟩)) ?_
  subst e_q4
  exact w_cv rfl [.index q4, r2, r6] [] rfl rfl (s_wt_4 rfl) rfl g6 k

theorem k228_72 {P : s_P} {d : Nat} {Q : s_O → Prop} {h : s_H} {kc ks : Nat} {r0 r1 r2 r3 r4 : Term} {x5 : Int} {r6 r7 r8 : Term} {x9 : Int} {q2 : Nat} {f3 : List Term} (g4 : s_get h q2 = some (1, 4, f3)) (k : wm P d 185 [.index q2, vi 1] h (wq P d sw_c228 sw_h228 78 [r0, r1, r2, r3, r4, vi x5, .index q2, r7, r8, vi x9] [] kc ks Q)) (e_q2 : r6 = .index q2 := by first | rfl | assumption) (y1 : s_ty r6 = 3 := by first | rfl | assumption)  : wr P d sw_c228 sw_h228 (72, [r0, r1, r2, r3, r4, vi x5, r6, r7, r8, vi x9], [], h, kc, ks) Q := by
  refine w_ld rfl rfl (Or.inr (Or.inr ⟨by decide, y1⟩)) ?_
  refine w_c32 rfl (by decide) 1 (by decide) ?_
  subst e_q2
  exact w_cv rfl [.index q2, vi 1] [] rfl rfl (s_wt_4 rfl) rfl g4 k

theorem k228_78 {P : s_P} {d : Nat} {Q : s_O → Prop} {h : s_H} {kc ks : Nat} {r0 r1 r2 r3 r4 : Term} {x5 : Int} {r6 r7 r8 : Term} {x9 : Int} {q4 : Nat} {f5 : List Term} (g6 : s_get h q4 = some (1, 4, f5)) (k : wm P d 182 [.index q4, r1, r6] h (wq P d sw_c228 sw_h228 86 [r0, r1, r2, r3, r4, vi x5, r6, .index q4, r8, vi x9] [] kc ks Q)) (e_q4 : r7 = .index q4 := by first | rfl | assumption) (y1 : s_ty r7 = 3 := by first | rfl | assumption) (y2 : s_ty r1 = 3 := by first | rfl | assumption) (y3 : s_ty r6 = 3 := by first | rfl | assumption)  : wr P d sw_c228 sw_h228 (78, [r0, r1, r2, r3, r4, vi x5, r6, r7, r8, vi x9], [], h, kc, ks) Q := by
  refine w_ld rfl rfl (Or.inr (Or.inr ⟨by decide, y1⟩)) ?_
  refine w_ld rfl rfl (Or.inr (Or.inr ⟨by decide, y2⟩)) ?_
  refine w_ld rfl rfl (Or.inr (Or.inr ⟨by decide, y3⟩)) ?_
  subst e_q4
  exact w_cv rfl [.index q4, r1, r6] [] rfl rfl (s_wt_4 rfl) rfl g6 k

theorem k228_86 {P : s_P} {d : Nat} {Q : s_O → Prop} {h : s_H} {kc ks : Nat} {r0 r1 r2 r3 r4 : Term} {x5 : Int} {r6 r7 r8 : Term} {x9 : Int} {q3 : Nat} {f4 : List Term} (g5 : s_get h q3 = some (1, 4, f4)) (k : wm P d 184 [.index q3, .index q3, r8, vi 32002] h (wq P d sw_c228 sw_h228 98 [r0, r1, r2, r3, r4, vi x5, r6, .index q3, r8, vi x9] [] kc ks Q)) (e_q3 : r7 = .index q3 := by first | rfl | assumption) (y1 : s_ty r7 = 3 := by first | rfl | assumption) (y2 : s_ty r8 = 3 := by first | rfl | assumption)  : wr P d sw_c228 sw_h228 (86, [r0, r1, r2, r3, r4, vi x5, r6, r7, r8, vi x9], [], h, kc, ks) Q := by
  refine w_ld rfl rfl (Or.inr (Or.inr ⟨by decide, y1⟩)) ?_
  refine w_ld rfl rfl (Or.inr (Or.inr ⟨by decide, y1⟩)) ?_
  refine w_ld rfl rfl (Or.inr (Or.inr ⟨by decide, y2⟩)) ?_
  refine w_c32 rfl (by decide) 32002 (by decide) ?_
  subst e_q3
  exact w_cv rfl [.index q3, .index q3, r8, vi 32002] [] rfl rfl (s_wt_4 rfl) rfl g5 k

theorem k228_98 {P : s_P} {d : Nat} {Q : s_O → Prop} {h : s_H} {kc ks : Nat} {r0 r1 r2 r3 r4 : Term} {x5 : Int} {r6 r7 r8 : Term} {x9 : Int} {q2 : Nat} {f3 : List Term} {v5 : Term} {q8 : Nat} {f9 : List Term} (g4 : s_get h q2 = some (1, 6, f3)) (g10 : s_get h q8 = some (1, 1, f9)) (k : wm P d 131 [.index q8, vi x9, r7] h (wq P d sw_c228 sw_h228 109 [.index q2, r1, r2, r3, r4, vi x5, r6, r7, r8, vi x9] [] kc ks Q)) (e_q2 : r0 = .index q2 := by first | rfl | assumption) (e_q8 : v5 = .index q8 := by first | rfl | assumption) (y1 : s_ty r0 = 3 := by first | rfl | assumption) (n6 : s_nth f3 1 = some v5 := by first | rfl | assumption) (y7 : s_ty r7 = 3 := by first | rfl | assumption)  : wr P d sw_c228 sw_h228 (98, [r0, r1, r2, r3, r4, vi x5, r6, r7, r8, vi x9], [], h, kc, ks) Q := by
  refine w_ld rfl rfl (Or.inr (Or.inr ⟨by decide, y1⟩)) ?_
  subst e_q2
  refine w_getf rfl g4 n6 ?_
  refine w_ld rfl rfl (Or.inl ⟨by decide, rfl⟩) ?_
  refine w_ld rfl rfl (Or.inr (Or.inr ⟨by decide, y7⟩)) ?_
  subst e_q8
  exact w_cv rfl [.index q8, vi x9, r7] [] rfl rfl (s_wt_4 rfl) rfl g10 k

theorem k228_109 {P : s_P} {d : Nat} {Q : s_O → Prop} {h : s_H} {kc ks : Nat} {r0 r1 r2 r3 r4 : Term} {x5 : Int} {r6 r7 r8 : Term} {x9 : Int}  (k : wr P d sw_c228 sw_h228 (50, [r0, r1, r2, r3, r4, vi x5, r6, r7, r8, vi (x9 + 1)], [], h, kc, ks) Q) (y1 : s_ty r8 = 3 := by first | rfl | assumption)  : wr P d sw_c228 sw_h228 (109, [r0, r1, r2, r3, r4, vi x5, r6, r7, r8, vi x9], [], h, kc, ks) Q := by
  refine w_iinc (ls' := [r0, r1, r2, r3, r4, vi x5, r6, r7, r8, vi (x9 + 1)]) rfl rfl 1 (by decide) (s_stK_r (pre := [r0, r1, r2, r3, r4, vi x5, r6, r7]) y1) ?_
  refine w_goto rfl ?_
  exact k

theorem k228_115 {P : s_P} {d : Nat} {Q : s_O → Prop} {h : s_H} {kc ks : Nat} {r0 r1 r2 r3 r4 : Term} {x5 : Int} {r6 r7 r8 : Term} {x9 : Int} {q2 : Nat} {f3 : List Term} {v5 : Term} {q8 : Nat} {f9 : List Term} (g4 : s_get h q2 = some (1, 6, f3)) (g10 : s_get h q8 = some (1, 1, f9)) (k : wm P d 131 [.index q8, vi 21, r3] h (wq P d sw_c228 sw_h228 125 [.index q2, r1, r2, r3, r4, vi x5, r6, r7, r8, vi x9] [] kc ks Q)) (e_q2 : r0 = .index q2 := by first | rfl | assumption) (e_q8 : v5 = .index q8 := by first | rfl | assumption) (y1 : s_ty r0 = 3 := by first | rfl | assumption) (n6 : s_nth f3 1 = some v5 := by first | rfl | assumption) (y7 : s_ty r3 = 3 := by first | rfl | assumption)  : wr P d sw_c228 sw_h228 (115, [r0, r1, r2, r3, r4, vi x5, r6, r7, r8, vi x9], [], h, kc, ks) Q := by
  refine w_ld rfl rfl (Or.inr (Or.inr ⟨by decide, y1⟩)) ?_
  subst e_q2
  refine w_getf rfl g4 n6 ?_
  refine w_c32 rfl (by decide) 21 (by decide) ?_
  refine w_ld rfl rfl (Or.inr (Or.inr ⟨by decide, y7⟩)) ?_
  subst e_q8
  exact w_cv rfl [.index q8, vi 21, r3] [] rfl rfl (s_wt_4 rfl) rfl g10 k

theorem k228_125 {P : s_P} {d : Nat} {Q : s_O → Prop} {h : s_H} {kc ks : Nat} {r0 r1 r2 r3 r4 : Term} {x5 : Int} {r6 r7 r8 : Term} {x9 : Int} {q2 : Nat} {f3 : List Term} {v5 : Term} {q7 : Nat} {f8 : List Term} (g4 : s_get h q2 = some (1, 6, f3)) (g9 : s_get h q7 = some (1, 0, f8)) (k : wm P d 113 [.index q7, vi x5] h (wq P d sw_c228 sw_h228 134 [.index q2, r1, r2, r3, r4, vi x5, r6, r7, r8, vi x9] [] kc ks Q)) (e_q2 : r0 = .index q2 := by first | rfl | assumption) (e_q7 : v5 = .index q7 := by first | rfl | assumption) (y1 : s_ty r0 = 3 := by first | rfl | assumption) (n6 : s_nth f3 0 = some v5 := by first | rfl | assumption)  : wr P d sw_c228 sw_h228 (125, [r0, r1, r2, r3, r4, vi x5, r6, r7, r8, vi x9], [], h, kc, ks) Q := by
  refine w_ld rfl rfl (Or.inr (Or.inr ⟨by decide, y1⟩)) ?_
  subst e_q2
  refine w_getf rfl g4 n6 ?_
  refine w_ld rfl rfl (Or.inl ⟨by decide, rfl⟩) ?_
  subst e_q7
  exact w_cv rfl [.index q7, vi x5] [] rfl rfl (s_wt_4 rfl) rfl g9 k

theorem k228_134 {P : s_P} {d : Nat} {Q : s_O → Prop} {h : s_H} {kc ks : Nat} {r0 r1 r2 r3 r4 : Term} {x5 : Int} {r6 r7 r8 : Term} {x9 : Int} {q3 : Nat} {f4 : List Term} (g5 : s_get h q3 = some (1, 6, f4)) (k : wm P d 227 [.index q3, r4] h (wq P d sw_c228 sw_h228 140 [.index q3, r1, r2, r3, r4, vi x5, r6, r7, r8, vi x9] [] kc ks Q)) (e_q3 : r0 = .index q3 := by first | rfl | assumption) (y1 : s_ty r0 = 3 := by first | rfl | assumption) (y2 : s_ty r4 = 3 := by first | rfl | assumption)  : wr P d sw_c228 sw_h228 (134, [r0, r1, r2, r3, r4, vi x5, r6, r7, r8, vi x9], [], h, kc, ks) Q := by
  refine w_ld rfl rfl (Or.inr (Or.inr ⟨by decide, y1⟩)) ?_
  refine w_ld rfl rfl (Or.inr (Or.inr ⟨by decide, y2⟩)) ?_
  subst e_q3
  exact w_cv rfl [.index q3, r4] [] rfl rfl (s_wt_4 rfl) rfl g5 k

theorem k228_140 {P : s_P} {d : Nat} {Q : s_O → Prop} {h : s_H} {kc ks : Nat} {r0 r1 r2 r3 r4 : Term} {x5 : Int} {r6 r7 r8 : Term} {x9 : Int} {s0 : Term}  (k : Q (.inl (some s0), h, kc, ks)) (y1 : s_ty s0 = 3 := by first | rfl | assumption)  : wr P d sw_c228 sw_h228 (140, [r0, r1, r2, r3, r4, vi x5, r6, r7, r8, vi x9], [s0], h, kc, ks) Q := by
  exact w_aret rfl y1 k

/-! 229: FormulaWorks$Rules.step(LFormulaWorks$Thing;II)LFormulaWorks$Poly; -/
theorem k229_0 {P : s_P} {d : Nat} {Q : s_O → Prop} {h : s_H} {kc ks : Nat} {r0 r1 : Term} {x2 x3 : Int} {t4 t5 t6 t7 t8 : Term} {q2 : Nat} {f3 : List Term} {v5 : Term} {q7 : Nat} {f8 : List Term} (g4 : s_get h q2 = some (1, 6, f3)) (g9 : s_get h q7 = some (1, 0, f8)) (k : wm P d 110 [.index q7] h (wq P d sw_c229 sw_h229 7 [.index q2, r1, vi x2, vi x3, t4, t5, t6, t7, t8] [] kc ks Q)) (e_q2 : r0 = .index q2 := by first | rfl | assumption) (e_q7 : v5 = .index q7 := by first | rfl | assumption) (y1 : s_ty r0 = 3 := by first | rfl | assumption) (n6 : s_nth f3 0 = some v5 := by first | rfl | assumption)  : wr P d sw_c229 sw_h229 (0, [r0, r1, vi x2, vi x3, t4, t5, t6, t7, t8], [], h, kc, ks) Q := by
  refine w_ld rfl rfl (Or.inr (Or.inr ⟨by decide, y1⟩)) ?_
  subst e_q2
  refine w_getf rfl g4 n6 ?_
  subst e_q7
  exact w_cv rfl [.index q7] [] rfl rfl (s_wt_4 rfl) rfl g9 k

theorem k229_7 {P : s_P} {d : Nat} {Q : s_O → Prop} {h : s_H} {kc ks : Nat} {r0 r1 : Term} {x2 x3 : Int} {t4 t5 t6 t7 t8 : Term} {s0 : Int} {q2 : Nat} {f3 : List Term} {v5 : Term} {q7 : Nat} {f8 : List Term} (g4 : s_get h q2 = some (1, 6, f3)) (g9 : s_get h q7 = some (1, 0, f8)) (k : wm P d 109 [.index q7] h (wq P d sw_c229 sw_h229 16 [.index q2, r1, vi x2, vi x3, vi s0, t5, t6, t7, t8] [] kc ks Q)) (e_q2 : r0 = .index q2 := by first | rfl | assumption) (e_q7 : v5 = .index q7 := by first | rfl | assumption) (y1 : s_ty r0 = 3 := by first | rfl | assumption) (n6 : s_nth f3 0 = some v5 := by first | rfl | assumption)  : wr P d sw_c229 sw_h229 (7, [r0, r1, vi x2, vi x3, t4, t5, t6, t7, t8], [vi s0], h, kc, ks) Q := by
  refine w_st (ls' := [r0, r1, vi x2, vi x3, vi s0, t5, t6, t7, t8]) rfl (Or.inl ⟨by decide, rfl⟩) rfl ?_
  refine w_ld rfl rfl (Or.inr (Or.inr ⟨by decide, y1⟩)) ?_
  subst e_q2
  refine w_getf rfl g4 n6 ?_
  subst e_q7
  exact w_cv rfl [.index q7] [] rfl rfl (s_wt_4 rfl) rfl g9 k

theorem k229_16 {P : s_P} {d : Nat} {Q : s_O → Prop} {h : s_H} {kc ks : Nat} {r0 r1 : Term} {x2 x3 x4 : Int} {t5 t6 t7 t8 s0 : Term} {q3 : Nat} {f4 : List Term} {v6 : Term} {q8 : Nat} {f9 : List Term} (g5 : s_get h q3 = some (1, 6, f4)) (g10 : s_get h q8 = some (1, 0, f9)) (k : wm P d 109 [.index q8] h (wq P d sw_c229 sw_h229 25 [.index q3, r1, vi x2, vi x3, vi x4, s0, t6, t7, t8] [] kc ks Q)) (e_q3 : r0 = .index q3 := by first | rfl | assumption) (e_q8 : v6 = .index q8 := by first | rfl | assumption) (y1 : s_ty s0 = 3 := by first | rfl | assumption) (y2 : s_ty r0 = 3 := by first | rfl | assumption) (n7 : s_nth f4 0 = some v6 := by first | rfl | assumption)  : wr P d sw_c229 sw_h229 (16, [r0, r1, vi x2, vi x3, vi x4, t5, t6, t7, t8], [s0], h, kc, ks) Q := by
  refine w_st (ls' := [r0, r1, vi x2, vi x3, vi x4, s0, t6, t7, t8]) rfl (Or.inr ⟨by decide, y1⟩) rfl ?_
  refine w_ld rfl rfl (Or.inr (Or.inr ⟨by decide, y2⟩)) ?_
  subst e_q3
  refine w_getf rfl g5 n7 ?_
  subst e_q8
  exact w_cv rfl [.index q8] [] rfl rfl (s_wt_4 rfl) rfl g10 k

theorem k229_25 {P : s_P} {d : Nat} {Q : s_O → Prop} {h : s_H} {kc ks : Nat} {r0 r1 : Term} {x2 x3 x4 : Int} {r5 t6 t7 t8 s0 : Term} {q4 : Nat} {f5 : List Term} {v7 : Term} {q9 : Nat} {f10 : List Term} (g6 : s_get h q4 = some (1, 6, f5)) (g11 : s_get h q9 = some (1, 0, f10)) (k : wm P d 109 [.index q9] h (wq P d sw_c229 sw_h229 34 [.index q4, r1, vi x2, vi x3, vi x4, r5, s0, t7, t8] [] kc ks Q)) (e_q4 : r0 = .index q4 := by first | rfl | assumption) (e_q9 : v7 = .index q9 := by first | rfl | assumption) (y1 : s_ty r5 = 3 := by first | rfl | assumption) (y2 : s_ty s0 = 3 := by first | rfl | assumption) (y3 : s_ty r0 = 3 := by first | rfl | assumption) (n8 : s_nth f5 0 = some v7 := by first | rfl | assumption)  : wr P d sw_c229 sw_h229 (25, [r0, r1, vi x2, vi x3, vi x4, r5, t6, t7, t8], [s0], h, kc, ks) Q := by
  refine w_st (ls' := [r0, r1, vi x2, vi x3, vi x4, r5, s0, t7, t8]) rfl (Or.inr ⟨by decide, y2⟩) (s_stK_r (pre := [r0, r1, vi x2, vi x3, vi x4]) y1) ?_
  refine w_ld rfl rfl (Or.inr (Or.inr ⟨by decide, y3⟩)) ?_
  subst e_q4
  refine w_getf rfl g6 n8 ?_
  subst e_q9
  exact w_cv rfl [.index q9] [] rfl rfl (s_wt_4 rfl) rfl g11 k

theorem k229_34 {P : s_P} {d : Nat} {Q : s_O → Prop} {h : s_H} {kc ks : Nat} {r0 r1 : Term} {x2 x3 x4 : Int} {r5 r6 t7 t8 s0 : Term} {q3 : Nat} {f4 : List Term} (g5 : s_get h q3 = some (1, 4, f4)) (k : wm P d 180 [.index q3, vi 1] h (wq P d sw_c229 sw_h229 42 [r0, r1, vi x2, vi x3, vi x4, r5, .index q3, s0, t8] [] kc ks Q)) (e_q3 : r6 = .index q3 := by first | rfl | assumption) (y1 : s_ty r6 = 3 := by first | rfl | assumption) (y2 : s_ty s0 = 3 := by first | rfl | assumption)  : wr P d sw_c229 sw_h229 (34, [r0, r1, vi x2, vi x3, vi x4, r5, r6, t7, t8], [s0], h, kc, ks) Q := by
  refine w_st (ls' := [r0, r1, vi x2, vi x3, vi x4, r5, r6, s0, t8]) rfl (Or.inr ⟨by decide, y2⟩) (s_stK_r (pre := [r0, r1, vi x2, vi x3, vi x4, r5]) y1) ?_
  refine w_ld rfl rfl (Or.inr (Or.inr ⟨by decide, y1⟩)) ?_
  refine w_c32 rfl (by decide) 1 (by decide) ?_
  subst e_q3
  exact w_cv rfl [.index q3, vi 1] [] rfl rfl (s_wt_4 rfl) rfl g5 k

theorem k229_42 {P : s_P} {d : Nat} {Q : s_O → Prop} {h : s_H} {kc ks : Nat} {r0 r1 : Term} {x2 x3 x4 : Int} {r5 r6 r7 t8 : Term}  (k : wr P d sw_c229 sw_h229 (45, [r0, r1, vi x2, vi x3, vi x4, r5, r6, r7, vi 0], [], h, kc, ks) Q) (y1 : s_ty r7 = 3 := by first | rfl | assumption)  : wr P d sw_c229 sw_h229 (42, [r0, r1, vi x2, vi x3, vi x4, r5, r6, r7, t8], [], h, kc, ks) Q := by
  refine w_c32 rfl (by decide) 0 (by decide) ?_
  refine w_st (ls' := [r0, r1, vi x2, vi x3, vi x4, r5, r6, r7, vi 0]) rfl (Or.inl ⟨by decide, rfl⟩) (s_stK_r (pre := [r0, r1, vi x2, vi x3, vi x4, r5, r6]) y1) ?_
  exact k

theorem k229_45 {P : s_P} {d : Nat} {Q : s_O → Prop} {h : s_H} {kc ks : Nat} {r0 r1 : Term} {x2 x3 x4 : Int} {r5 r6 r7 : Term} {x8 : Int} {q2 : Nat} {f3 : List Term} {z5 : Int} (g4 : s_get h q2 = some (1, 8, f3)) (k1 : z5 ≤ x8 → wr P d sw_c229 sw_h229 (109, [r0, .index q2, vi x2, vi x3, vi x4, r5, r6, r7, vi x8], [], h, kc, ks) Q) (k2 : ¬ z5 ≤ x8 → wr P d sw_c229 sw_h229 (54, [r0, .index q2, vi x2, vi x3, vi x4, r5, r6, r7, vi x8], [], h, kc, ks) Q) (e_q2 : r1 = .index q2 := by first | rfl | assumption) (y1 : s_ty r1 = 3 := by first | rfl | assumption) (n6 : s_nth f3 4 = some (vi z5) := by first | rfl | assumption) (c7 : In3 x8 := by first | omega | assumption | (simp only [mk_len, List.length_map]; omega) | decide) (c8 : In3 z5 := by first | omega | assumption | (simp only [mk_len, List.length_map]; omega) | decide) : wr P d sw_c229 sw_h229 (45, [r0, r1, vi x2, vi x3, vi x4, r5, r6, r7, vi x8], [], h, kc, ks) Q := by
  refine w_ld rfl rfl (Or.inl ⟨by decide, rfl⟩) ?_
  refine w_ld rfl rfl (Or.inr (Or.inr ⟨by decide, y1⟩)) ?_
  subst e_q2
  refine w_getf rfl g4 n6 ?_
  exact w_if2 rfl c7 c8 k1 k2

theorem k229_54 {P : s_P} {d : Nat} {Q : s_O → Prop} {h : s_H} {kc ks : Nat} {r0 r1 : Term} {x2 x3 x4 : Int} {r5 r6 r7 : Term} {x8 : Int} {q4 : Nat} {f5 : List Term} (g6 : s_get h q4 = some (1, 8, f5)) (k : wm P d 265 [.index q4, vi 0, vi x8] h (wq P d sw_c229 sw_h229 67 [r0, .index q4, vi x2, vi x3, vi x4, r5, r6, r7, vi x8] [r6, r5, r5] kc ks Q)) (e_q4 : r1 = .index q4 := by first | rfl | assumption) (y1 : s_ty r5 = 3 := by first | rfl | assumption) (y2 : s_ty r6 = 3 := by first | rfl | assumption) (y3 : s_ty r1 = 3 := by first | rfl | assumption)  : wr P d sw_c229 sw_h229 (54, [r0, r1, vi x2, vi x3, vi x4, r5, r6, r7, vi x8], [], h, kc, ks) Q := by
  refine w_ld rfl rfl (Or.inr (Or.inr ⟨by decide, y1⟩)) ?_
  refine w_ld rfl rfl (Or.inr (Or.inr ⟨by decide, y1⟩)) ?_
  refine w_ld rfl rfl (Or.inr (Or.inr ⟨by decide, y2⟩)) ?_
  refine w_ld rfl rfl (Or.inr (Or.inr ⟨by decide, y3⟩)) ?_
  refine w_c32 rfl (by decide) 0 (by decide) ?_
  refine w_ld rfl rfl (Or.inl ⟨by decide, rfl⟩) ?_
  subst e_q4
  exact w_cv rfl [.index q4, vi 0, vi x8] [r6, r5, r5] rfl rfl (s_wt_4 rfl) rfl g6 k

theorem k229_67 {P : s_P} {d : Nat} {Q : s_O → Prop} {h : s_H} {kc ks : Nat} {r0 r1 : Term} {x2 x3 x4 : Int} {r5 r6 r7 : Term} {x8 : Int} {s0 s1 s2 s3 : Term} {q1 : Nat} {f2 : List Term} (g3 : s_get h q1 = some (1, 4, f2)) (k : wm P d 167 [.index q1, vi (x8 - x2)] h (wq P d sw_c229 sw_h229 74 [r0, r1, vi x2, vi x3, vi x4, r5, r6, r7, vi x8] [s2, s1, s0] kc ks Q)) (e_q1 : s3 = .index q1 := by first | rfl | assumption)  : wr P d sw_c229 sw_h229 (67, [r0, r1, vi x2, vi x3, vi x4, r5, r6, r7, vi x8], [s3, s2, s1, s0], h, kc, ks) Q := by
  refine w_ld rfl rfl (Or.inl ⟨by decide, rfl⟩) ?_
  refine w_ld rfl rfl (Or.inl ⟨by decide, rfl⟩) ?_
  refine w_isub rfl ?_
  subst e_q1
  exact w_cv rfl [.index q1, vi (x8 - x2)] [s2, s1, s0] rfl rfl (s_wt_4 rfl) rfl g3 k

theorem k229_74 {P : s_P} {d : Nat} {Q : s_O → Prop} {h : s_H} {kc ks : Nat} {r0 r1 : Term} {x2 x3 x4 : Int} {r5 r6 r7 : Term} {x8 : Int} {s0 s1 s2 : Term} {s3 : Int} {q1 : Nat} {f2 : List Term} (g3 : s_get h q1 = some (1, 4, f2)) (k : wm P d 184 [.index q1, s1, s2, vi s3] h (wq P d sw_c229 sw_h229 77 [r0, r1, vi x2, vi x3, vi x4, r5, r6, r7, vi x8] [] kc ks Q)) (e_q1 : s0 = .index q1 := by first | rfl | assumption)  : wr P d sw_c229 sw_h229 (74, [r0, r1, vi x2, vi x3, vi x4, r5, r6, r7, vi x8], [vi s3, s2, s1, s0], h, kc, ks) Q := by
  subst e_q1
  exact w_cv rfl [.index q1, s1, s2, vi s3] [] rfl rfl (s_wt_4 rfl) rfl g3 k

theorem k229_77 {P : s_P} {d : Nat} {Q : s_O → Prop} {h : s_H} {kc ks : Nat} {r0 r1 : Term} {x2 x3 x4 : Int} {r5 r6 r7 : Term} {x8 : Int} {q2 : Nat} {f3 : List Term} (g4 : s_get h q2 = some (1, 4, f3)) (k : wm P d 181 [.index q2, vi 1] h (wq P d sw_c229 sw_h229 83 [r0, r1, vi x2, vi x3, vi x4, r5, r6, .index q2, vi x8] [] kc ks Q)) (e_q2 : r7 = .index q2 := by first | rfl | assumption) (y1 : s_ty r7 = 3 := by first | rfl | assumption)  : wr P d sw_c229 sw_h229 (77, [r0, r1, vi x2, vi x3, vi x4, r5, r6, r7, vi x8], [], h, kc, ks) Q := by
  refine w_ld rfl rfl (Or.inr (Or.inr ⟨by decide, y1⟩)) ?_
  refine w_c32 rfl (by decide) 1 (by decide) ?_
  subst e_q2
  exact w_cv rfl [.index q2, vi 1] [] rfl rfl (s_wt_4 rfl) rfl g4 k

theorem k229_83 {P : s_P} {d : Nat} {Q : s_O → Prop} {h : s_H} {kc ks : Nat} {r0 r1 : Term} {x2 x3 x4 : Int} {r5 r6 r7 : Term} {x8 : Int} {q2 : Nat} {f3 : List Term} (g4 : s_get h q2 = some (1, 4, f3)) (k : wm P d 185 [.index q2, vi (x3 - x8)] h (wq P d sw_c229 sw_h229 92 [r0, r1, vi x2, vi x3, vi x4, r5, r6, .index q2, vi x8] [] kc ks Q)) (e_q2 : r7 = .index q2 := by first | rfl | assumption) (y1 : s_ty r7 = 3 := by first | rfl | assumption)  : wr P d sw_c229 sw_h229 (83, [r0, r1, vi x2, vi x3, vi x4, r5, r6, r7, vi x8], [], h, kc, ks) Q := by
  refine w_ld rfl rfl (Or.inr (Or.inr ⟨by decide, y1⟩)) ?_
  refine w_ld rfl rfl (Or.inl ⟨by decide, rfl⟩) ?_
  refine w_ld rfl rfl (Or.inl ⟨by decide, rfl⟩) ?_
  refine w_isub rfl ?_
  subst e_q2
  exact w_cv rfl [.index q2, vi (x3 - x8)] [] rfl rfl (s_wt_4 rfl) rfl g4 k

theorem k229_92 {P : s_P} {d : Nat} {Q : s_O → Prop} {h : s_H} {kc ks : Nat} {r0 r1 : Term} {x2 x3 x4 : Int} {r5 r6 r7 : Term} {x8 : Int} {q2 : Nat} {f3 : List Term} {v5 : Term} {q9 : Nat} {f10 : List Term} (g4 : s_get h q2 = some (1, 6, f3)) (g11 : s_get h q9 = some (1, 0, f10)) (k : wm P d 111 [.index q9, r6, r7] h (wq P d sw_c229 sw_h229 103 [.index q2, r1, vi x2, vi x3, vi x4, r5, r6, r7, vi x8] [] kc ks Q)) (e_q2 : r0 = .index q2 := by first | rfl | assumption) (e_q9 : v5 = .index q9 := by first | rfl | assumption) (y1 : s_ty r0 = 3 := by first | rfl | assumption) (n6 : s_nth f3 0 = some v5 := by first | rfl | assumption) (y7 : s_ty r6 = 3 := by first | rfl | assumption) (y8 : s_ty r7 = 3 := by first | rfl | assumption)  : wr P d sw_c229 sw_h229 (92, [r0, r1, vi x2, vi x3, vi x4, r5, r6, r7, vi x8], [], h, kc, ks) Q := by
  refine w_ld rfl rfl (Or.inr (Or.inr ⟨by decide, y1⟩)) ?_
  subst e_q2
  refine w_getf rfl g4 n6 ?_
  refine w_ld rfl rfl (Or.inr (Or.inr ⟨by decide, y7⟩)) ?_
  refine w_ld rfl rfl (Or.inr (Or.inr ⟨by decide, y8⟩)) ?_
  subst e_q9
  exact w_cv rfl [.index q9, r6, r7] [] rfl rfl (s_wt_4 rfl) rfl g11 k

theorem k229_103 {P : s_P} {d : Nat} {Q : s_O → Prop} {h : s_H} {kc ks : Nat} {r0 r1 : Term} {x2 x3 x4 : Int} {r5 r6 r7 : Term} {x8 : Int}  (k : wr P d sw_c229 sw_h229 (45, [r0, r1, vi x2, vi x3, vi x4, r5, r6, r7, vi (x8 + 1)], [], h, kc, ks) Q) (y1 : s_ty r7 = 3 := by first | rfl | assumption)  : wr P d sw_c229 sw_h229 (103, [r0, r1, vi x2, vi x3, vi x4, r5, r6, r7, vi x8], [], h, kc, ks) Q := by
  refine w_iinc (ls' := [r0, r1, vi x2, vi x3, vi x4, r5, r6, r7, vi (x8 + 1)]) rfl rfl 1 (by decide) (s_stK_r (pre := [r0, r1, vi x2, vi x3, vi x4, r5, r6]) y1) ?_
  refine w_goto rfl ?_
  exact k

theorem k229_109 {P : s_P} {d : Nat} {Q : s_O → Prop} {h : s_H} {kc ks : Nat} {r0 r1 : Term} {x2 x3 x4 : Int} {r5 r6 r7 : Term} {x8 : Int} {q2 : Nat} {f3 : List Term} (g4 : s_get h q2 = some (1, 4, f3)) (k : wm P d 170 [.index q2] h (wq P d sw_c229 sw_h229 114 [r0, r1, vi x2, vi x3, vi x4, .index q2, r6, r7, vi x8] [] kc ks Q)) (e_q2 : r5 = .index q2 := by first | rfl | assumption) (y1 : s_ty r5 = 3 := by first | rfl | assumption)  : wr P d sw_c229 sw_h229 (109, [r0, r1, vi x2, vi x3, vi x4, r5, r6, r7, vi x8], [], h, kc, ks) Q := by
  refine w_ld rfl rfl (Or.inr (Or.inr ⟨by decide, y1⟩)) ?_
  subst e_q2
  exact w_cv rfl [.index q2] [] rfl rfl (s_wt_4 rfl) rfl g4 k

theorem k229_114 {P : s_P} {d : Nat} {Q : s_O → Prop} {h : s_H} {kc ks : Nat} {r0 r1 : Term} {x2 x3 x4 : Int} {r5 r6 r7 : Term} {x8 : Int} {s0 : Term} {q4 : Nat} {f5 : List Term} {v7 : Term} {q9 : Nat} {f10 : List Term} (g6 : s_get h q4 = some (1, 6, f5)) (g11 : s_get h q9 = some (1, 0, f10)) (k : wm P d 113 [.index q9, vi x4] h (wq P d sw_c229 sw_h229 125 [.index q4, r1, vi x2, vi x3, vi x4, r5, r6, r7, s0] [] kc ks Q)) (e_q4 : r0 = .index q4 := by first | rfl | assumption) (e_q9 : v7 = .index q9 := by first | rfl | assumption) (y1 : s_ty r7 = 3 := by first | rfl | assumption) (y2 : s_ty s0 = 3 := by first | rfl | assumption) (y3 : s_ty r0 = 3 := by first | rfl | assumption) (n8 : s_nth f5 0 = some v7 := by first | rfl | assumption)  : wr P d sw_c229 sw_h229 (114, [r0, r1, vi x2, vi x3, vi x4, r5, r6, r7, vi x8], [s0], h, kc, ks) Q := by
  refine w_st (ls' := [r0, r1, vi x2, vi x3, vi x4, r5, r6, r7, s0]) rfl (Or.inr ⟨by decide, y2⟩) (s_stK_r (pre := [r0, r1, vi x2, vi x3, vi x4, r5, r6]) y1) ?_
  refine w_ld rfl rfl (Or.inr (Or.inr ⟨by decide, y3⟩)) ?_
  subst e_q4
  refine w_getf rfl g6 n8 ?_
  refine w_ld rfl rfl (Or.inl ⟨by decide, rfl⟩) ?_
  subst e_q9
  exact w_cv rfl [.index q9, vi x4] [] rfl rfl (s_wt_4 rfl) rfl g11 k

theorem k229_125 {P : s_P} {d : Nat} {Q : s_O → Prop} {h : s_H} {kc ks : Nat} {r0 r1 : Term} {x2 x3 x4 : Int} {r5 r6 r7 r8 : Term}  (k : Q (.inl (some r8), h, kc, ks)) (y1 : s_ty r8 = 3 := by first | rfl | assumption)  : wr P d sw_c229 sw_h229 (125, [r0, r1, vi x2, vi x3, vi x4, r5, r6, r7, r8], [], h, kc, ks) Q := by
  refine w_ld rfl rfl (Or.inr (Or.inr ⟨by decide, y1⟩)) ?_
  exact w_aret rfl y1 k

/-! 230: FormulaWorks$Rules.stepsOf(LFormulaWorks$Thing;)LFormulaWorks$Thing; -/
theorem k230_0 {P : s_P} {d : Nat} {Q : s_O → Prop} {h : s_H} {kc ks : Nat} {r0 r1 t2 t3 t4 t5 t6 t7 : Term} {q2 : Nat} {f3 : List Term} {z5 : Int} (g4 : s_get h q2 = some (1, 8, f3)) (k : wr P d sw_c230 sw_h230 (11, [r0, .index q2, vi z5, vi (-11), vi 0, t5, t6, t7], [], h, kc, ks) Q) (e_q2 : r1 = .index q2 := by first | rfl | assumption) (y1 : s_ty r1 = 3 := by first | rfl | assumption) (n6 : s_nth f3 4 = some (vi z5) := by first | rfl | assumption)  : wr P d sw_c230 sw_h230 (0, [r0, r1, t2, t3, t4, t5, t6, t7], [], h, kc, ks) Q := by
  refine w_ld rfl rfl (Or.inr (Or.inr ⟨by decide, y1⟩)) ?_
  subst e_q2
  refine w_getf rfl g4 n6 ?_
  refine w_st (ls' := [r0, .index q2, vi z5, t3, t4, t5, t6, t7]) rfl (Or.inl ⟨by decide, rfl⟩) rfl ?_
  refine w_c32 rfl (by decide) (-11) (by decide) ?_
  refine w_st (ls' := [r0, .index q2, vi z5, vi (-11), t4, t5, t6, t7]) rfl (Or.inl ⟨by decide, rfl⟩) rfl ?_
  refine w_c32 rfl (by decide) 0 (by decide) ?_
  refine w_st (ls' := [r0, .index q2, vi z5, vi (-11), vi 0, t5, t6, t7]) rfl (Or.inl ⟨by decide, rfl⟩) rfl ?_
  exact k

theorem k230_11 {P : s_P} {d : Nat} {Q : s_O → Prop} {h : s_H} {kc ks : Nat} {r0 r1 : Term} {x2 x3 x4 : Int} {t5 t6 t7 : Term} {q2 : Nat} {f3 : List Term} {z5 : Int} (g4 : s_get h q2 = some (1, 8, f3)) (k1 : z5 ≤ x4 → wr P d sw_c230 sw_h230 (77, [r0, .index q2, vi x2, vi x3, vi x4, t5, t6, t7], [], h, kc, ks) Q) (k2 : ¬ z5 ≤ x4 → wr P d sw_c230 sw_h230 (20, [r0, .index q2, vi x2, vi x3, vi x4, t5, t6, t7], [], h, kc, ks) Q) (e_q2 : r1 = .index q2 := by first | rfl | assumption) (y1 : s_ty r1 = 3 := by first | rfl | assumption) (n6 : s_nth f3 4 = some (vi z5) := by first | rfl | assumption) (c7 : In3 x4 := by first | omega | assumption | (simp only [mk_len, List.length_map]; omega) | decide) (c8 : In3 z5 := by first | omega | assumption | (simp only [mk_len, List.length_map]; omega) | decide) : wr P d sw_c230 sw_h230 (11, [r0, r1, vi x2, vi x3, vi x4, t5, t6, t7], [], h, kc, ks) Q := by
  refine w_ld rfl rfl (Or.inl ⟨by decide, rfl⟩) ?_
  refine w_ld rfl rfl (Or.inr (Or.inr ⟨by decide, y1⟩)) ?_
  subst e_q2
  refine w_getf rfl g4 n6 ?_
  exact w_if2 rfl c7 c8 k1 k2

theorem k230_20 {P : s_P} {d : Nat} {Q : s_O → Prop} {h : s_H} {kc ks : Nat} {r0 r1 : Term} {x2 x3 x4 : Int} {t5 t6 t7 : Term}  (k : wr P d sw_c230 sw_h230 (23, [r0, r1, vi x2, vi x3, vi x4, vi 0, t6, t7], [], h, kc, ks) Q)   : wr P d sw_c230 sw_h230 (20, [r0, r1, vi x2, vi x3, vi x4, t5, t6, t7], [], h, kc, ks) Q := by
  refine w_c32 rfl (by decide) 0 (by decide) ?_
  refine w_st (ls' := [r0, r1, vi x2, vi x3, vi x4, vi 0, t6, t7]) rfl (Or.inl ⟨by decide, rfl⟩) rfl ?_
  exact k

theorem k230_23 {P : s_P} {d : Nat} {Q : s_O → Prop} {h : s_H} {kc ks : Nat} {r0 r1 : Term} {x2 x3 x4 x5 : Int} {t6 t7 : Term}  (k1 : 10 < x5 → wr P d sw_c230 sw_h230 (71, [r0, r1, vi x2, vi x3, vi x4, vi x5, t6, t7], [], h, kc, ks) Q) (k2 : ¬ 10 < x5 → wr P d sw_c230 sw_h230 (30, [r0, r1, vi x2, vi x3, vi x4, vi x5, t6, t7], [], h, kc, ks) Q)  (c1 : In3 x5 := by first | omega | assumption | (simp only [mk_len, List.length_map]; omega) | decide) : wr P d sw_c230 sw_h230 (23, [r0, r1, vi x2, vi x3, vi x4, vi x5, t6, t7], [], h, kc, ks) Q := by
  refine w_ld rfl rfl (Or.inl ⟨by decide, rfl⟩) ?_
  refine w_c32 rfl (by decide) 10 (by decide) ?_
  exact w_if2 rfl c1 (by decide) k1 k2

theorem k230_30 {P : s_P} {d : Nat} {Q : s_O → Prop} {h : s_H} {kc ks : Nat} {r0 r1 : Term} {x2 x3 x4 x5 : Int} {t6 t7 : Term} {q2 : Nat} {f3 : List Term} (g4 : s_get h q2 = some (1, 8, f3)) (k : wm P d 265 [.index q2, vi 0, vi x4] h (wq P d sw_c230 sw_h230 37 [r0, .index q2, vi x2, vi x3, vi x4, vi x5, t6, t7] [] kc ks Q)) (e_q2 : r1 = .index q2 := by first | rfl | assumption) (y1 : s_ty r1 = 3 := by first | rfl | assumption)  : wr P d sw_c230 sw_h230 (30, [r0, r1, vi x2, vi x3, vi x4, vi x5, t6, t7], [], h, kc, ks) Q := by
  refine w_ld rfl rfl (Or.inr (Or.inr ⟨by decide, y1⟩)) ?_
  refine w_c32 rfl (by decide) 0 (by decide) ?_
  refine w_ld rfl rfl (Or.inl ⟨by decide, rfl⟩) ?_
  subst e_q2
  exact w_cv rfl [.index q2, vi 0, vi x4] [] rfl rfl (s_wt_4 rfl) rfl g4 k

theorem k230_37 {P : s_P} {d : Nat} {Q : s_O → Prop} {h : s_H} {kc ks : Nat} {r0 r1 : Term} {x2 x3 x4 x5 : Int} {t6 t7 s0 : Term} {q1 : Nat} {f2 : List Term} (g3 : s_get h q1 = some (1, 4, f2)) (k : wm P d 167 [.index q1, vi x5] h (wq P d sw_c230 sw_h230 42 [r0, r1, vi x2, vi x3, vi x4, vi x5, t6, t7] [] kc ks Q)) (e_q1 : s0 = .index q1 := by first | rfl | assumption)  : wr P d sw_c230 sw_h230 (37, [r0, r1, vi x2, vi x3, vi x4, vi x5, t6, t7], [s0], h, kc, ks) Q := by
  refine w_ld rfl rfl (Or.inl ⟨by decide, rfl⟩) ?_
  subst e_q1
  exact w_cv rfl [.index q1, vi x5] [] rfl rfl (s_wt_4 rfl) rfl g3 k

theorem k230_42 {P : s_P} {d : Nat} {Q : s_O → Prop} {h : s_H} {kc ks : Nat} {r0 r1 : Term} {x2 x3 x4 x5 : Int} {t6 t7 : Term} {s0 : Int}  (k1 : s0 = 0 → wr P d sw_c230 sw_h230 (65, [r0, r1, vi x2, vi x3, vi x4, vi x5, t6, t7], [], h, kc, ks) Q) (k2 : ¬ s0 = 0 → wr P d sw_c230 sw_h230 (45, [r0, r1, vi x2, vi x3, vi x4, vi x5, t6, t7], [], h, kc, ks) Q)  (c1 : In3 s0 := by first | omega | assumption | (simp only [mk_len, List.length_map]; omega) | decide) : wr P d sw_c230 sw_h230 (42, [r0, r1, vi x2, vi x3, vi x4, vi x5, t6, t7], [vi s0], h, kc, ks) Q := by
  exact w_if1 rfl c1 k1 k2

theorem k230_45 {P : s_P} {d : Nat} {Q : s_O → Prop} {h : s_H} {kc ks : Nat} {r0 r1 : Term} {x2 x3 x4 x5 : Int} {t6 t7 : Term}  (k : wm P d 626 [vi x2, vi (x4 - x5)] h (wq P d sw_c230 sw_h230 54 [r0, r1, vi x2, vi x3, vi x4, vi x5, t6, t7] [] kc ks Q))   : wr P d sw_c230 sw_h230 (45, [r0, r1, vi x2, vi x3, vi x4, vi x5, t6, t7], [], h, kc, ks) Q := by
  refine w_ld rfl rfl (Or.inl ⟨by decide, rfl⟩) ?_
  refine w_ld rfl rfl (Or.inl ⟨by decide, rfl⟩) ?_
  refine w_ld rfl rfl (Or.inl ⟨by decide, rfl⟩) ?_
  refine w_isub rfl ?_
  exact w_cs rfl [vi x2, vi (x4 - x5)] [] rfl rfl (s_wt_4 rfl) k

theorem k230_54 {P : s_P} {d : Nat} {Q : s_O → Prop} {h : s_H} {kc ks : Nat} {r0 r1 : Term} {x2 x3 x4 x5 : Int} {t6 t7 : Term} {s0 : Int}  (k : wm P d 625 [vi x3, vi (x4 - x5)] h (wq P d sw_c230 sw_h230 64 [r0, r1, vi s0, vi x3, vi x4, vi x5, t6, t7] [] kc ks Q)) (y1 : s_ty r1 = 3 := by first | rfl | assumption)  : wr P d sw_c230 sw_h230 (54, [r0, r1, vi x2, vi x3, vi x4, vi x5, t6, t7], [vi s0], h, kc, ks) Q := by
  refine w_st (ls' := [r0, r1, vi s0, vi x3, vi x4, vi x5, t6, t7]) rfl (Or.inl ⟨by decide, rfl⟩) (s_stK_r (pre := [r0]) y1) ?_
  refine w_ld rfl rfl (Or.inl ⟨by decide, rfl⟩) ?_
  refine w_ld rfl rfl (Or.inl ⟨by decide, rfl⟩) ?_
  refine w_ld rfl rfl (Or.inl ⟨by decide, rfl⟩) ?_
  refine w_isub rfl ?_
  exact w_cs rfl [vi x3, vi (x4 - x5)] [] rfl rfl (s_wt_4 rfl) k

theorem k230_64 {P : s_P} {d : Nat} {Q : s_O → Prop} {h : s_H} {kc ks : Nat} {r0 r1 : Term} {x2 x3 x4 x5 : Int} {t6 t7 : Term} {s0 : Int}  (k : wr P d sw_c230 sw_h230 (65, [r0, r1, vi x2, vi s0, vi x4, vi x5, t6, t7], [], h, kc, ks) Q)   : wr P d sw_c230 sw_h230 (64, [r0, r1, vi x2, vi x3, vi x4, vi x5, t6, t7], [vi s0], h, kc, ks) Q := by
  refine w_st (ls' := [r0, r1, vi x2, vi s0, vi x4, vi x5, t6, t7]) rfl (Or.inl ⟨by decide, rfl⟩) rfl ?_
  exact k

theorem k230_65 {P : s_P} {d : Nat} {Q : s_O → Prop} {h : s_H} {kc ks : Nat} {r0 r1 : Term} {x2 x3 x4 x5 : Int} {t6 t7 : Term}  (k : wr P d sw_c230 sw_h230 (23, [r0, r1, vi x2, vi x3, vi x4, vi (x5 + 1), t6, t7], [], h, kc, ks) Q)   : wr P d sw_c230 sw_h230 (65, [r0, r1, vi x2, vi x3, vi x4, vi x5, t6, t7], [], h, kc, ks) Q := by
  refine w_iinc (ls' := [r0, r1, vi x2, vi x3, vi x4, vi (x5 + 1), t6, t7]) rfl rfl 1 (by decide) rfl ?_
  refine w_goto rfl ?_
  exact k

theorem k230_71 {P : s_P} {d : Nat} {Q : s_O → Prop} {h : s_H} {kc ks : Nat} {r0 r1 : Term} {x2 x3 x4 x5 : Int} {t6 t7 : Term}  (k : wr P d sw_c230 sw_h230 (11, [r0, r1, vi x2, vi x3, vi (x4 + 1), vi x5, t6, t7], [], h, kc, ks) Q)   : wr P d sw_c230 sw_h230 (71, [r0, r1, vi x2, vi x3, vi x4, vi x5, t6, t7], [], h, kc, ks) Q := by
  refine w_iinc (ls' := [r0, r1, vi x2, vi x3, vi (x4 + 1), vi x5, t6, t7]) rfl rfl 1 (by decide) rfl ?_
  refine w_goto rfl ?_
  exact k

theorem k230_77 {P : s_P} {d : Nat} {Q : s_O → Prop} {h : s_H} {kc ks : Nat} {r0 r1 : Term} {x2 x3 x4 : Int} {t5 t6 t7 : Term}  (k1 : (x3 - x2) + 1 < 1 → wr P d sw_c230 sw_h230 (96, [r0, r1, vi x2, vi x3, vi ((x3 - x2) + 1), t5, t6, t7], [], h, kc, ks) Q) (k2 : ¬ (x3 - x2) + 1 < 1 → wr P d sw_c230 sw_h230 (90, [r0, r1, vi x2, vi x3, vi ((x3 - x2) + 1), t5, t6, t7], [], h, kc, ks) Q)  (c1 : In3 ((x3 - x2) + 1) := by first | omega | assumption | (simp only [mk_len, List.length_map]; omega) | decide) : wr P d sw_c230 sw_h230 (77, [r0, r1, vi x2, vi x3, vi x4, t5, t6, t7], [], h, kc, ks) Q := by
  refine w_ld rfl rfl (Or.inl ⟨by decide, rfl⟩) ?_
  refine w_ld rfl rfl (Or.inl ⟨by decide, rfl⟩) ?_
  refine w_isub rfl ?_
  refine w_c32 rfl (by decide) 1 (by decide) ?_
  refine w_iadd rfl ?_
  refine w_st (ls' := [r0, r1, vi x2, vi x3, vi ((x3 - x2) + 1), t5, t6, t7]) rfl (Or.inl ⟨by decide, rfl⟩) rfl ?_
  refine w_ld rfl rfl (Or.inl ⟨by decide, rfl⟩) ?_
  refine w_c32 rfl (by decide) 1 (by decide) ?_
  exact w_if2 rfl c1 (by decide) k1 k2

theorem k230_90 {P : s_P} {d : Nat} {Q : s_O → Prop} {h : s_H} {kc ks : Nat} {r0 r1 : Term} {x2 x3 x4 : Int} {t5 t6 t7 : Term}  (k1 : x4 ≤ 4 → wr P d sw_c230 sw_h230 (100, [r0, r1, vi x2, vi x3, vi x4, t5, t6, t7], [], h, kc, ks) Q) (k2 : ¬ x4 ≤ 4 → wr P d sw_c230 sw_h230 (96, [r0, r1, vi x2, vi x3, vi x4, t5, t6, t7], [], h, kc, ks) Q)  (c1 : In3 x4 := by first | omega | assumption | (simp only [mk_len, List.length_map]; omega) | decide) : wr P d sw_c230 sw_h230 (90, [r0, r1, vi x2, vi x3, vi x4, t5, t6, t7], [], h, kc, ks) Q := by
  refine w_ld rfl rfl (Or.inl ⟨by decide, rfl⟩) ?_
  refine w_c32 rfl (by decide) 4 (by decide) ?_
  exact w_if2 rfl c1 (by decide) k1 k2

theorem k230_96 {P : s_P} {d : Nat} {Q : s_O → Prop} {h : s_H} {kc ks : Nat} {r0 r1 : Term} {x2 x3 x4 : Int} {t5 t6 t7 : Term}  (k : wr P d sw_c230 sw_h230 (101, [r0, r1, vi x2, vi x3, vi x4, t5, t6, t7], [vi 1], h, kc, ks) Q)   : wr P d sw_c230 sw_h230 (96, [r0, r1, vi x2, vi x3, vi x4, t5, t6, t7], [], h, kc, ks) Q := by
  refine w_c32 rfl (by decide) 1 (by decide) ?_
  refine w_goto rfl ?_
  exact k

theorem k230_100 {P : s_P} {d : Nat} {Q : s_O → Prop} {h : s_H} {kc ks : Nat} {r0 r1 : Term} {x2 x3 x4 : Int} {t5 t6 t7 : Term}  (k : wr P d sw_c230 sw_h230 (101, [r0, r1, vi x2, vi x3, vi x4, t5, t6, t7], [vi 0], h, kc, ks) Q)   : wr P d sw_c230 sw_h230 (100, [r0, r1, vi x2, vi x3, vi x4, t5, t6, t7], [], h, kc, ks) Q := by
  refine w_c32 rfl (by decide) 0 (by decide) ?_
  exact k

theorem k230_101 {P : s_P} {d : Nat} {Q : s_O → Prop} {h : s_H} {kc ks : Nat} {r0 r1 : Term} {x2 x3 x4 : Int} {t5 t6 t7 : Term} {s0 : Int} {fc1 : s_C} (g2 : s_get h (h).1 = some fc1) (k1 : s0 = 0 → wr P d sw_c230 sw_h230 (117, [r0, r1, vi x2, vi x3, vi x4, vi s0, t6, t7], [vi 1, .index h.1, .index h.1], (hq h (1, 8, s_df 8)), (kc + 1), (ks + 8)) Q) (k2 : ¬ s0 = 0 → wr P d sw_c230 sw_h230 (113, [r0, r1, vi x2, vi x3, vi x4, vi s0, t6, t7], [vi 1, .index h.1, .index h.1], (hq h (1, 8, s_df 8)), (kc + 1), (ks + 8)) Q)  (c3 : In3 s0 := by first | omega | assumption | (simp only [mk_len, List.length_map]; omega) | decide) : wr P d sw_c230 sw_h230 (101, [r0, r1, vi x2, vi x3, vi x4, t5, t6, t7], [vi s0], h, kc, ks) Q := by
  refine w_st (ls' := [r0, r1, vi x2, vi x3, vi x4, vi s0, t6, t7]) rfl (Or.inl ⟨by decide, rfl⟩) rfl ?_
  refine w_new rfl g2 ?_
  refine w_dup rfl rfl ?_
  refine w_c32 rfl (by decide) 1 (by decide) ?_
  refine w_ld rfl rfl (Or.inl ⟨by decide, rfl⟩) ?_
  exact w_if1 rfl c3 k1 k2

theorem k230_113 {P : s_P} {d : Nat} {Q : s_O → Prop} {h : s_H} {kc ks : Nat} {r0 r1 : Term} {x2 x3 x4 x5 : Int} {t6 t7 s0 s1 : Term} {s2 : Int}  (k : wr P d sw_c230 sw_h230 (119, [r0, r1, vi x2, vi x3, vi x4, vi x5, t6, t7], [vi 1, vi s2, s1, s0], h, kc, ks) Q)   : wr P d sw_c230 sw_h230 (113, [r0, r1, vi x2, vi x3, vi x4, vi x5, t6, t7], [vi s2, s1, s0], h, kc, ks) Q := by
  refine w_c32 rfl (by decide) 1 (by decide) ?_
  refine w_goto rfl ?_
  exact k

theorem k230_117 {P : s_P} {d : Nat} {Q : s_O → Prop} {h : s_H} {kc ks : Nat} {r0 r1 : Term} {x2 x3 x4 x5 : Int} {t6 t7 s0 s1 : Term} {s2 : Int}  (k : wr P d sw_c230 sw_h230 (119, [r0, r1, vi x2, vi x3, vi x4, vi x5, t6, t7], [vi x4, vi s2, s1, s0], h, kc, ks) Q)   : wr P d sw_c230 sw_h230 (117, [r0, r1, vi x2, vi x3, vi x4, vi x5, t6, t7], [vi s2, s1, s0], h, kc, ks) Q := by
  refine w_ld rfl rfl (Or.inl ⟨by decide, rfl⟩) ?_
  exact k

theorem k230_119 {P : s_P} {d : Nat} {Q : s_O → Prop} {h : s_H} {kc ks : Nat} {r0 r1 : Term} {x2 x3 x4 x5 : Int} {t6 t7 s0 s1 : Term} {s2 s3 : Int}  (k1 : x5 = 0 → wr P d sw_c230 sw_h230 (128, [r0, r1, vi x2, vi x3, vi x4, vi x5, t6, t7], [vi s3, vi s2, s1, s0], h, kc, ks) Q) (k2 : ¬ x5 = 0 → wr P d sw_c230 sw_h230 (124, [r0, r1, vi x2, vi x3, vi x4, vi x5, t6, t7], [vi s3, vi s2, s1, s0], h, kc, ks) Q)  (c1 : In3 x5 := by first | omega | assumption | (simp only [mk_len, List.length_map]; omega) | decide) : wr P d sw_c230 sw_h230 (119, [r0, r1, vi x2, vi x3, vi x4, vi x5, t6, t7], [vi s3, vi s2, s1, s0], h, kc, ks) Q := by
  refine w_ld rfl rfl (Or.inl ⟨by decide, rfl⟩) ?_
  exact w_if1 rfl c1 k1 k2

theorem k230_124 {P : s_P} {d : Nat} {Q : s_O → Prop} {h : s_H} {kc ks : Nat} {r0 r1 : Term} {x2 x3 x4 x5 : Int} {t6 t7 s0 s1 : Term} {s2 s3 : Int}  (k : wr P d sw_c230 sw_h230 (130, [r0, r1, vi x2, vi x3, vi x4, vi x5, t6, t7], [vi 1, vi s3, vi s2, s1, s0], h, kc, ks) Q)   : wr P d sw_c230 sw_h230 (124, [r0, r1, vi x2, vi x3, vi x4, vi x5, t6, t7], [vi s3, vi s2, s1, s0], h, kc, ks) Q := by
  refine w_c32 rfl (by decide) 1 (by decide) ?_
  refine w_goto rfl ?_
  exact k

theorem k230_128 {P : s_P} {d : Nat} {Q : s_O → Prop} {h : s_H} {kc ks : Nat} {r0 r1 : Term} {x2 x3 x4 x5 : Int} {t6 t7 s0 s1 : Term} {s2 s3 : Int}  (k : wr P d sw_c230 sw_h230 (130, [r0, r1, vi x2, vi x3, vi x4, vi x5, t6, t7], [vi x4, vi s3, vi s2, s1, s0], h, kc, ks) Q)   : wr P d sw_c230 sw_h230 (128, [r0, r1, vi x2, vi x3, vi x4, vi x5, t6, t7], [vi s3, vi s2, s1, s0], h, kc, ks) Q := by
  refine w_ld rfl rfl (Or.inl ⟨by decide, rfl⟩) ?_
  exact k

theorem k230_130 {P : s_P} {d : Nat} {Q : s_O → Prop} {h : s_H} {kc ks : Nat} {r0 r1 : Term} {x2 x3 x4 x5 : Int} {t6 t7 s0 s1 : Term} {s2 s3 s4 : Int} {fc1 : s_C} {q6 : Nat} (g2 : s_get h (h).1 = some fc1) (k : wm P d 262 [.index q6, vi s2, vi s3, .index h.1] (hq h (0, 2, List.replicate (Int.toNat (s4)) (.null))) (fun out => out.1 = .inl none ∧ wr P d sw_c230 sw_h230 (136, [r0, r1, vi x2, vi x3, vi x4, vi x5, t6, t7], [s0], out.2.1, (kc + 1) + out.2.2.1, (ks + (Int.toNat (s4))) + out.2.2.2) Q)) (e_q6 : s1 = .index q6 := by first | rfl | assumption) (c3 : s4 ≤ 60000000 := by first | omega | assumption | (simp only [mk_len, List.length_map]; omega) | decide) (c4 : In3 s4 := by first | omega | assumption | (simp only [mk_len, List.length_map]; omega) | decide) (c5 : 0 ≤ s4 := by first | omega | assumption | (simp only [mk_len, List.length_map]; omega) | decide) : wr P d sw_c230 sw_h230 (130, [r0, r1, vi x2, vi x3, vi x4, vi x5, t6, t7], [vi s4, vi s3, vi s2, s1, s0], h, kc, ks) Q := by
  refine w_newa rfl (by decide) g2 c4 c5 c3 (.null) rfl ?_
  subst e_q6
  exact w_ci rfl [.index q6, vi s2, vi s3, .index h.1] [s0] rfl rfl (s_wt_4 rfl) rfl k

theorem k230_136 {P : s_P} {d : Nat} {Q : s_O → Prop} {h : s_H} {kc ks : Nat} {r0 r1 : Term} {x2 x3 x4 x5 : Int} {t6 t7 s0 : Term}  (k1 : x5 = 0 → wr P d sw_c230 sw_h230 (149, [r0, r1, vi x2, vi x3, vi x4, vi x5, s0, t7], [], h, kc, ks) Q) (k2 : ¬ x5 = 0 → wr P d sw_c230 sw_h230 (143, [r0, r1, vi x2, vi x3, vi x4, vi x5, s0, t7], [], h, kc, ks) Q) (y1 : s_ty s0 = 3 := by first | rfl | assumption) (c2 : In3 x5 := by first | omega | assumption | (simp only [mk_len, List.length_map]; omega) | decide) : wr P d sw_c230 sw_h230 (136, [r0, r1, vi x2, vi x3, vi x4, vi x5, t6, t7], [s0], h, kc, ks) Q := by
  refine w_st (ls' := [r0, r1, vi x2, vi x3, vi x4, vi x5, s0, t7]) rfl (Or.inr ⟨by decide, y1⟩) rfl ?_
  refine w_ld rfl rfl (Or.inl ⟨by decide, rfl⟩) ?_
  exact w_if1 rfl c2 k1 k2

theorem k230_143 {P : s_P} {d : Nat} {Q : s_O → Prop} {h : s_H} {kc ks : Nat} {r0 r1 : Term} {x2 x3 x4 x5 : Int} {r6 t7 : Term} {q2 : Nat} {f3 : List Term} (g4 : s_get h q2 = some (1, 8, f3)) (k : wr P d sw_c230 sw_h230 (149, [r0, r1, vi x2, vi x3, vi x4, vi x5, .index q2, t7], [], (hp h q2 (1, 8, f3.set 7 (vi 5))), kc, ks) Q) (e_q2 : r6 = .index q2 := by first | rfl | assumption) (y1 : s_ty r6 = 3 := by first | rfl | assumption) (l5 : 7 < f3.length := by first | exact Nat.le_of_ble_eq_true rfl | omega | assumption) (c6 : 0 < q2 := by first | omega | assumption | (simp only [mk_len, List.length_map]; omega) | decide) : wr P d sw_c230 sw_h230 (143, [r0, r1, vi x2, vi x3, vi x4, vi x5, r6, t7], [], h, kc, ks) Q := by
  refine w_ld rfl rfl (Or.inr (Or.inr ⟨by decide, y1⟩)) ?_
  refine w_c32 rfl (by decide) 5 (by decide) ?_
  subst e_q2
  refine w_putf rfl g4 (Nat.ble_eq_true_of_le c6) rfl (Nat.ble_eq_true_of_le l5) ?_
  exact k

theorem k230_149 {P : s_P} {d : Nat} {Q : s_O → Prop} {h : s_H} {kc ks : Nat} {r0 r1 : Term} {x2 x3 x4 x5 : Int} {r6 t7 : Term}  (k : wr P d sw_c230 sw_h230 (152, [r0, r1, vi x2, vi x3, vi x4, vi x5, r6, vi 0], [], h, kc, ks) Q) (y1 : s_ty r6 = 3 := by first | rfl | assumption)  : wr P d sw_c230 sw_h230 (149, [r0, r1, vi x2, vi x3, vi x4, vi x5, r6, t7], [], h, kc, ks) Q := by
  refine w_c32 rfl (by decide) 0 (by decide) ?_
  refine w_st (ls' := [r0, r1, vi x2, vi x3, vi x4, vi x5, r6, vi 0]) rfl (Or.inl ⟨by decide, rfl⟩) (s_stK_r (pre := [r0, r1, vi x2, vi x3, vi x4, vi x5]) y1) ?_
  exact k

theorem k230_152 {P : s_P} {d : Nat} {Q : s_O → Prop} {h : s_H} {kc ks : Nat} {r0 r1 : Term} {x2 x3 x4 x5 : Int} {r6 : Term} {x7 : Int}  (k1 : x4 ≤ x7 → wr P d sw_c230 sw_h230 (189, [r0, r1, vi x2, vi x3, vi x4, vi x5, r6, vi x7], [], h, kc, ks) Q) (k2 : ¬ x4 ≤ x7 → wr P d sw_c230 sw_h230 (159, [r0, r1, vi x2, vi x3, vi x4, vi x5, r6, vi x7], [], h, kc, ks) Q)  (c1 : In3 x7 := by first | omega | assumption | (simp only [mk_len, List.length_map]; omega) | decide) (c2 : In3 x4 := by first | omega | assumption | (simp only [mk_len, List.length_map]; omega) | decide) : wr P d sw_c230 sw_h230 (152, [r0, r1, vi x2, vi x3, vi x4, vi x5, r6, vi x7], [], h, kc, ks) Q := by
  refine w_ld rfl rfl (Or.inl ⟨by decide, rfl⟩) ?_
  refine w_ld rfl rfl (Or.inl ⟨by decide, rfl⟩) ?_
  exact w_if2 rfl c1 c2 k1 k2

theorem k230_159 {P : s_P} {d : Nat} {Q : s_O → Prop} {h : s_H} {kc ks : Nat} {r0 r1 : Term} {x2 x3 x4 x5 : Int} {r6 : Term} {x7 : Int}  (k1 : x5 ≠ 0 → wr P d sw_c230 sw_h230 (189, [r0, r1, vi x2, vi x3, vi x4, vi x5, r6, vi x7], [], h, kc, ks) Q) (k2 : ¬ x5 ≠ 0 → wr P d sw_c230 sw_h230 (164, [r0, r1, vi x2, vi x3, vi x4, vi x5, r6, vi x7], [], h, kc, ks) Q)  (c1 : In3 x5 := by first | omega | assumption | (simp only [mk_len, List.length_map]; omega) | decide) : wr P d sw_c230 sw_h230 (159, [r0, r1, vi x2, vi x3, vi x4, vi x5, r6, vi x7], [], h, kc, ks) Q := by
  refine w_ld rfl rfl (Or.inl ⟨by decide, rfl⟩) ?_
  exact w_if1 rfl c1 k1 k2

theorem k230_164 {P : s_P} {d : Nat} {Q : s_O → Prop} {h : s_H} {kc ks : Nat} {r0 r1 : Term} {x2 x3 x4 x5 : Int} {r6 : Term} {x7 : Int} {q4 : Nat} {f5 : List Term} (g6 : s_get h q4 = some (1, 6, f5)) (k : wm P d 229 [.index q4, r1, vi (x2 + x7), vi x7] h (wq P d sw_c230 sw_h230 180 [.index q4, r1, vi x2, vi x3, vi x4, vi x5, r6, vi x7] [vi x7, vi 0, r6] kc ks Q)) (e_q4 : r0 = .index q4 := by first | rfl | assumption) (y1 : s_ty r6 = 3 := by first | rfl | assumption) (y2 : s_ty r0 = 3 := by first | rfl | assumption) (y3 : s_ty r1 = 3 := by first | rfl | assumption)  : wr P d sw_c230 sw_h230 (164, [r0, r1, vi x2, vi x3, vi x4, vi x5, r6, vi x7], [], h, kc, ks) Q := by
  refine w_ld rfl rfl (Or.inr (Or.inr ⟨by decide, y1⟩)) ?_
  refine w_c32 rfl (by decide) 0 (by decide) ?_
  refine w_ld rfl rfl (Or.inl ⟨by decide, rfl⟩) ?_
  refine w_ld rfl rfl (Or.inr (Or.inr ⟨by decide, y2⟩)) ?_
  refine w_ld rfl rfl (Or.inr (Or.inr ⟨by decide, y3⟩)) ?_
  refine w_ld rfl rfl (Or.inl ⟨by decide, rfl⟩) ?_
  refine w_ld rfl rfl (Or.inl ⟨by decide, rfl⟩) ?_
  refine w_iadd rfl ?_
  refine w_ld rfl rfl (Or.inl ⟨by decide, rfl⟩) ?_
  subst e_q4
  exact w_cv rfl [.index q4, r1, vi (x2 + x7), vi x7] [vi x7, vi 0, r6] rfl rfl (s_wt_4 rfl) rfl g6 k

theorem k230_180 {P : s_P} {d : Nat} {Q : s_O → Prop} {h : s_H} {kc ks : Nat} {r0 r1 : Term} {x2 x3 x4 x5 : Int} {r6 : Term} {x7 : Int} {s0 : Term} {s1 s2 : Int} {s3 : Term} {q1 : Nat} {f2 : List Term} (g3 : s_get h q1 = some (1, 8, f2)) (k : wm P d 271 [.index q1, vi s1, vi s2, s3] h (wq P d sw_c230 sw_h230 183 [r0, r1, vi x2, vi x3, vi x4, vi x5, r6, vi x7] [] kc ks Q)) (e_q1 : s0 = .index q1 := by first | rfl | assumption)  : wr P d sw_c230 sw_h230 (180, [r0, r1, vi x2, vi x3, vi x4, vi x5, r6, vi x7], [s3, vi s2, vi s1, s0], h, kc, ks) Q := by
  subst e_q1
  exact w_cv rfl [.index q1, vi s1, vi s2, s3] [] rfl rfl (s_wt_4 rfl) rfl g3 k

theorem k230_183 {P : s_P} {d : Nat} {Q : s_O → Prop} {h : s_H} {kc ks : Nat} {r0 r1 : Term} {x2 x3 x4 x5 : Int} {r6 : Term} {x7 : Int}  (k : wr P d sw_c230 sw_h230 (152, [r0, r1, vi x2, vi x3, vi x4, vi x5, r6, vi (x7 + 1)], [], h, kc, ks) Q) (y1 : s_ty r6 = 3 := by first | rfl | assumption)  : wr P d sw_c230 sw_h230 (183, [r0, r1, vi x2, vi x3, vi x4, vi x5, r6, vi x7], [], h, kc, ks) Q := by
  refine w_iinc (ls' := [r0, r1, vi x2, vi x3, vi x4, vi x5, r6, vi (x7 + 1)]) rfl rfl 1 (by decide) (s_stK_r (pre := [r0, r1, vi x2, vi x3, vi x4, vi x5]) y1) ?_
  refine w_goto rfl ?_
  exact k

theorem k230_189 {P : s_P} {d : Nat} {Q : s_O → Prop} {h : s_H} {kc ks : Nat} {r0 r1 : Term} {x2 x3 x4 x5 : Int} {r6 : Term} {x7 : Int}  (k : Q (.inl (some r6), h, kc, ks)) (y1 : s_ty r6 = 3 := by first | rfl | assumption)  : wr P d sw_c230 sw_h230 (189, [r0, r1, vi x2, vi x3, vi x4, vi x5, r6, vi x7], [], h, kc, ks) Q := by
  refine w_ld rfl rfl (Or.inr (Or.inr ⟨by decide, y1⟩)) ?_
  exact w_aret rfl y1 k

/-! 231: FormulaWorks$Series.areSame([I[I)Z -/
theorem k231_0 {P : s_P} {d : Nat} {Q : s_O → Prop} {h : s_H} {kc ks : Nat} {r0 r1 t2 : Term}  (k : wr P d sw_c231 sw_h231 (2, [r0, r1, vi 0], [], h, kc, ks) Q) (y1 : s_ty r1 = 3 := by first | rfl | assumption)  : wr P d sw_c231 sw_h231 (0, [r0, r1, t2], [], h, kc, ks) Q := by
  refine w_c32 rfl (by decide) 0 (by decide) ?_
  refine w_st (ls' := [r0, r1, vi 0]) rfl (Or.inl ⟨by decide, rfl⟩) (s_stK_r (pre := [r0]) y1) ?_
  exact k

theorem k231_2 {P : s_P} {d : Nat} {Q : s_O → Prop} {h : s_H} {kc ks : Nat} {r0 r1 : Term} {x2 : Int}  (k1 : 25 ≤ x2 → wr P d sw_c231 sw_h231 (25, [r0, r1, vi x2], [], h, kc, ks) Q) (k2 : ¬ 25 ≤ x2 → wr P d sw_c231 sw_h231 (8, [r0, r1, vi x2], [], h, kc, ks) Q)  (c1 : In3 x2 := by first | omega | assumption | (simp only [mk_len, List.length_map]; omega) | decide) : wr P d sw_c231 sw_h231 (2, [r0, r1, vi x2], [], h, kc, ks) Q := by
  refine w_ld rfl rfl (Or.inl ⟨by decide, rfl⟩) ?_
  refine w_c32 rfl (by decide) 25 (by decide) ?_
  exact w_if2 rfl c1 (by decide) k1 k2

theorem k231_8 {P : s_P} {d : Nat} {Q : s_O → Prop} {h : s_H} {kc ks : Nat} {r0 r1 : Term} {x2 : Int} {q2 : Nat} {a3 : List Int} {q9 : Nat} {a10 : List Int} (g4 : s_get h q2 = some (0, 0, a3.map vi)) (g11 : s_get h q9 = some (0, 0, a10.map vi)) (k1 : gi a3 x2 = gi a10 x2 → wr P d sw_c231 sw_h231 (19, [.index q2, .index q9, vi x2], [], h, kc, ks) Q) (k2 : ¬ gi a3 x2 = gi a10 x2 → wr P d sw_c231 sw_h231 (17, [.index q2, .index q9, vi x2], [], h, kc, ks) Q) (e_q2 : r0 = .index q2 := by first | rfl | assumption) (e_q9 : r1 = .index q9 := by first | rfl | assumption) (y1 : s_ty r0 = 3 := by first | rfl | assumption) (y8 : s_ty r1 = 3 := by first | rfl | assumption) (c5 : x2 < a3.length := by first | omega | assumption | (simp only [mk_len, List.length_map]; omega) | decide) (c6 : 0 ≤ x2 := by first | omega | assumption | (simp only [mk_len, List.length_map]; omega) | decide) (c7 : In3 x2 := by first | omega | assumption | (simp only [mk_len, List.length_map]; omega) | decide) (c12 : x2 < a10.length := by first | omega | assumption | (simp only [mk_len, List.length_map]; omega) | decide) (c13 : In3 (gi a3 x2) := by first | omega | assumption | (simp only [mk_len, List.length_map]; omega) | decide) (c14 : In3 (gi a10 x2) := by first | omega | assumption | (simp only [mk_len, List.length_map]; omega) | decide) : wr P d sw_c231 sw_h231 (8, [r0, r1, vi x2], [], h, kc, ks) Q := by
  refine w_ld rfl rfl (Or.inr (Or.inr ⟨by decide, y1⟩)) ?_
  refine w_ld rfl rfl (Or.inl ⟨by decide, rfl⟩) ?_
  subst e_q2
  refine w_iald rfl g4 (Or.inl rfl) c7 c6 c5 ?_
  refine w_ld rfl rfl (Or.inr (Or.inr ⟨by decide, y8⟩)) ?_
  refine w_ld rfl rfl (Or.inl ⟨by decide, rfl⟩) ?_
  subst e_q9
  refine w_iald rfl g11 (Or.inl rfl) c7 c6 c12 ?_
  exact w_if2 rfl c13 c14 k1 k2

theorem k231_17 {P : s_P} {d : Nat} {Q : s_O → Prop} {h : s_H} {kc ks : Nat} {r0 r1 : Term} {x2 : Int}  (k : Q (.inl (some (vi 0)), h, kc, ks))   : wr P d sw_c231 sw_h231 (17, [r0, r1, vi x2], [], h, kc, ks) Q := by
  refine w_c32 rfl (by decide) 0 (by decide) ?_
  exact w_zret rfl (by decide) k

theorem k231_19 {P : s_P} {d : Nat} {Q : s_O → Prop} {h : s_H} {kc ks : Nat} {r0 r1 : Term} {x2 : Int}  (k : wr P d sw_c231 sw_h231 (2, [r0, r1, vi (x2 + 1)], [], h, kc, ks) Q) (y1 : s_ty r1 = 3 := by first | rfl | assumption)  : wr P d sw_c231 sw_h231 (19, [r0, r1, vi x2], [], h, kc, ks) Q := by
  refine w_iinc (ls' := [r0, r1, vi (x2 + 1)]) rfl rfl 1 (by decide) (s_stK_r (pre := [r0]) y1) ?_
  refine w_goto rfl ?_
  exact k

theorem k231_25 {P : s_P} {d : Nat} {Q : s_O → Prop} {h : s_H} {kc ks : Nat} {r0 r1 : Term} {x2 : Int}  (k : Q (.inl (some (vi 1)), h, kc, ks))   : wr P d sw_c231 sw_h231 (25, [r0, r1, vi x2], [], h, kc, ks) Q := by
  refine w_c32 rfl (by decide) 1 (by decide) ?_
  exact w_zret rfl (by decide) k

/-! 232: FormulaWorks$Series.comesTo(LFormulaWorks$Thing;I[II)I -/
theorem k232_0 {P : s_P} {d : Nat} {Q : s_O → Prop} {h : s_H} {kc ks : Nat} {r0 : Term} {x1 : Int} {r2 : Term} {x3 : Int} {t4 t5 : Term}  (k : wr P d sw_c232 sw_h232 (6, [r0, vi x1, r2, vi x3, vi 0, vi 0], [], h, kc, ks) Q)   : wr P d sw_c232 sw_h232 (0, [r0, vi x1, r2, vi x3, t4, t5], [], h, kc, ks) Q := by
  refine w_c32 rfl (by decide) 0 (by decide) ?_
  refine w_st (ls' := [r0, vi x1, r2, vi x3, vi 0, t5]) rfl (Or.inl ⟨by decide, rfl⟩) rfl ?_
  refine w_c32 rfl (by decide) 0 (by decide) ?_
  refine w_st (ls' := [r0, vi x1, r2, vi x3, vi 0, vi 0]) rfl (Or.inl ⟨by decide, rfl⟩) rfl ?_
  exact k

theorem k232_6 {P : s_P} {d : Nat} {Q : s_O → Prop} {h : s_H} {kc ks : Nat} {r0 : Term} {x1 : Int} {r2 : Term} {x3 x4 x5 : Int}  (k1 : x1 ≤ x5 → wr P d sw_c232 sw_h232 (54, [r0, vi x1, r2, vi x3, vi x4, vi x5], [], h, kc, ks) Q) (k2 : ¬ x1 ≤ x5 → wr P d sw_c232 sw_h232 (12, [r0, vi x1, r2, vi x3, vi x4, vi x5], [], h, kc, ks) Q)  (c1 : In3 x5 := by first | omega | assumption | (simp only [mk_len, List.length_map]; omega) | decide) (c2 : In3 x1 := by first | omega | assumption | (simp only [mk_len, List.length_map]; omega) | decide) : wr P d sw_c232 sw_h232 (6, [r0, vi x1, r2, vi x3, vi x4, vi x5], [], h, kc, ks) Q := by
  refine w_ld rfl rfl (Or.inl ⟨by decide, rfl⟩) ?_
  refine w_ld rfl rfl (Or.inl ⟨by decide, rfl⟩) ?_
  exact w_if2 rfl c1 c2 k1 k2

theorem k232_12 {P : s_P} {d : Nat} {Q : s_O → Prop} {h : s_H} {kc ks : Nat} {r0 : Term} {x1 : Int} {r2 : Term} {x3 x4 x5 : Int} {q2 : Nat} {a3 : List Term} {tg5 : Nat} (g4 : s_get h q2 = some (0, tg5, a3)) (k1 : (a3.length : Int) ≤ x3 + x5 → wr P d sw_c232 sw_h232 (54, [r0, vi x1, .index q2, vi x3, vi x4, vi x5], [], h, kc, ks) Q) (k2 : ¬ (a3.length : Int) ≤ x3 + x5 → wr P d sw_c232 sw_h232 (21, [r0, vi x1, .index q2, vi x3, vi x4, vi x5], [], h, kc, ks) Q) (e_q2 : r2 = .index q2 := by first | rfl | assumption) (y1 : s_ty r2 = 3 := by first | rfl | assumption) (c6 : In3 (x3 + x5) := by first | omega | assumption | (simp only [mk_len, List.length_map]; omega) | decide) (c7 : In3 (a3.length : Int) := by first | omega | assumption | (simp only [mk_len, List.length_map]; omega) | decide) : wr P d sw_c232 sw_h232 (12, [r0, vi x1, r2, vi x3, vi x4, vi x5], [], h, kc, ks) Q := by
  refine w_ld rfl rfl (Or.inl ⟨by decide, rfl⟩) ?_
  refine w_ld rfl rfl (Or.inl ⟨by decide, rfl⟩) ?_
  refine w_iadd rfl ?_
  refine w_ld rfl rfl (Or.inr (Or.inr ⟨by decide, y1⟩)) ?_
  subst e_q2
  refine w_alen rfl g4 (Or.inl rfl) ?_
  exact w_if2 rfl c6 c7 k1 k2

theorem k232_21 {P : s_P} {d : Nat} {Q : s_O → Prop} {h : s_H} {kc ks : Nat} {r0 : Term} {x1 : Int} {r2 : Term} {x3 x4 x5 : Int} {q2 : Nat} {f3 : List Term} (g4 : s_get h q2 = some (1, 8, f3)) (k : wm P d 265 [.index q2, vi 0, vi x5] h (wq P d sw_c232 sw_h232 30 [.index q2, vi x1, r2, vi x3, vi x4, vi x5] [vi x4] kc ks Q)) (e_q2 : r0 = .index q2 := by first | rfl | assumption) (y1 : s_ty r0 = 3 := by first | rfl | assumption)  : wr P d sw_c232 sw_h232 (21, [r0, vi x1, r2, vi x3, vi x4, vi x5], [], h, kc, ks) Q := by
  refine w_ld rfl rfl (Or.inl ⟨by decide, rfl⟩) ?_
  refine w_ld rfl rfl (Or.inr (Or.inr ⟨by decide, y1⟩)) ?_
  refine w_c32 rfl (by decide) 0 (by decide) ?_
  refine w_ld rfl rfl (Or.inl ⟨by decide, rfl⟩) ?_
  subst e_q2
  exact w_cv rfl [.index q2, vi 0, vi x5] [vi x4] rfl rfl (s_wt_4 rfl) rfl g4 k

theorem k232_30 {P : s_P} {d : Nat} {Q : s_O → Prop} {h : s_H} {kc ks : Nat} {r0 : Term} {x1 : Int} {r2 : Term} {x3 x4 x5 s0 : Int} {s1 : Term} {q1 : Nat} {f2 : List Term} (g3 : s_get h q1 = some (1, 4, f2)) (k : wm P d 187 [.index q1, vi x3] h (wq P d sw_c232 sw_h232 34 [r0, vi x1, r2, vi x3, vi x4, vi x5] [vi s0] kc ks Q)) (e_q1 : s1 = .index q1 := by first | rfl | assumption)  : wr P d sw_c232 sw_h232 (30, [r0, vi x1, r2, vi x3, vi x4, vi x5], [s1, vi s0], h, kc, ks) Q := by
  refine w_ld rfl rfl (Or.inl ⟨by decide, rfl⟩) ?_
  subst e_q1
  exact w_cv rfl [.index q1, vi x3] [vi s0] rfl rfl (s_wt_4 rfl) rfl g3 k

theorem k232_34 {P : s_P} {d : Nat} {Q : s_O → Prop} {h : s_H} {kc ks : Nat} {r0 : Term} {x1 : Int} {r2 : Term} {x3 x4 x5 s0 s1 : Int} {q2 : Nat} {a3 : List Int} (g4 : s_get h q2 = some (0, 0, a3.map vi)) (k : wr P d sw_c232 sw_h232 (6, [r0, vi x1, .index q2, vi x3, vi (Int.tmod (s0 + (s1 * (gi a3 (x3 + x5)))) 32003), vi (x5 + 1)], [], h, kc, ks) Q) (e_q2 : r2 = .index q2 := by first | rfl | assumption) (y1 : s_ty r2 = 3 := by first | rfl | assumption) (c5 : x3 + x5 < a3.length := by first | omega | assumption | (simp only [mk_len, List.length_map]; omega) | decide) (c6 : 0 ≤ x3 + x5 := by first | omega | assumption | (simp only [mk_len, List.length_map]; omega) | decide) (c7 : In3 (x3 + x5) := by first | omega | assumption | (simp only [mk_len, List.length_map]; omega) | decide) (c8 : In3 (s0 + (s1 * (gi a3 (x3 + x5)))) := by first | omega | assumption | (simp only [mk_len, List.length_map]; omega) | decide) : wr P d sw_c232 sw_h232 (34, [r0, vi x1, r2, vi x3, vi x4, vi x5], [vi s1, vi s0], h, kc, ks) Q := by
  refine w_ld rfl rfl (Or.inr (Or.inr ⟨by decide, y1⟩)) ?_
  refine w_ld rfl rfl (Or.inl ⟨by decide, rfl⟩) ?_
  refine w_ld rfl rfl (Or.inl ⟨by decide, rfl⟩) ?_
  refine w_iadd rfl ?_
  subst e_q2
  refine w_iald rfl g4 (Or.inl rfl) c7 c6 c5 ?_
  refine w_imul rfl ?_
  refine w_iadd rfl ?_
  refine w_c32 rfl (by decide) 32003 (by decide) ?_
  refine w_irem rfl c8 (by decide) (by decide) ?_
  refine w_st (ls' := [r0, vi x1, .index q2, vi x3, vi (Int.tmod (s0 + (s1 * (gi a3 (x3 + x5)))) 32003), vi x5]) rfl (Or.inl ⟨by decide, rfl⟩) rfl ?_
  refine w_iinc (ls' := [r0, vi x1, .index q2, vi x3, vi (Int.tmod (s0 + (s1 * (gi a3 (x3 + x5)))) 32003), vi (x5 + 1)]) rfl rfl 1 (by decide) rfl ?_
  refine w_goto rfl ?_
  exact k

theorem k232_54 {P : s_P} {d : Nat} {Q : s_O → Prop} {h : s_H} {kc ks : Nat} {r0 : Term} {x1 : Int} {r2 : Term} {x3 x4 x5 : Int}  (k : Q (.inl (some (vi x4)), h, kc, ks))   : wr P d sw_c232 sw_h232 (54, [r0, vi x1, r2, vi x3, vi x4, vi x5], [], h, kc, ks) Q := by
  refine w_ld rfl rfl (Or.inl ⟨by decide, rfl⟩) ?_
  exact w_iret rfl k

/-! 233: FormulaWorks$Series.inserted([I[I)[I -/
theorem k233_0 {P : s_P} {d : Nat} {Q : s_O → Prop} {h : s_H} {kc ks : Nat} {r0 r1 t2 t3 : Term} {fc1 : s_C} (g2 : s_get h (h).1 = some fc1) (k : wr P d sw_c233 sw_h233 (8, [r0, r1, .index h.1, vi 24], [], (hq h (0, 0, List.replicate (Int.toNat (25)) (.int 0))), (kc + 1), (ks + (Int.toNat (25)))) Q) (y3 : s_ty r1 = 3 := by first | rfl | assumption)  : wr P d sw_c233 sw_h233 (0, [r0, r1, t2, t3], [], h, kc, ks) Q := by
  refine w_c32 rfl (by decide) 25 (by decide) ?_
  refine w_newa rfl (by decide) g2 (by decide) (by decide) (by decide) (.int 0) rfl ?_
  refine w_st (ls' := [r0, r1, .index h.1, t3]) rfl (Or.inr ⟨by decide, rfl⟩) (s_stK_r (pre := [r0]) y3) ?_
  refine w_c32 rfl (by decide) 24 (by decide) ?_
  refine w_st (ls' := [r0, r1, .index h.1, vi 24]) rfl (Or.inl ⟨by decide, rfl⟩) rfl ?_
  exact k

theorem k233_8 {P : s_P} {d : Nat} {Q : s_O → Prop} {h : s_H} {kc ks : Nat} {r0 r1 r2 : Term} {x3 : Int}  (k1 : x3 < 0 → wr P d sw_c233 sw_h233 (30, [r0, r1, r2, vi x3], [], h, kc, ks) Q) (k2 : ¬ x3 < 0 → wr P d sw_c233 sw_h233 (12, [r0, r1, r2, vi x3], [], h, kc, ks) Q)  (c1 : In3 x3 := by first | omega | assumption | (simp only [mk_len, List.length_map]; omega) | decide) : wr P d sw_c233 sw_h233 (8, [r0, r1, r2, vi x3], [], h, kc, ks) Q := by
  refine w_ld rfl rfl (Or.inl ⟨by decide, rfl⟩) ?_
  exact w_if1 rfl c1 k1 k2

theorem k233_12 {P : s_P} {d : Nat} {Q : s_O → Prop} {h : s_H} {kc ks : Nat} {r0 r1 r2 : Term} {x3 : Int}  (k : wm P d 242 [r2, r1] h (wq P d sw_c233 sw_h233 17 [r0, r1, r2, vi x3] [] kc ks Q)) (y1 : s_ty r2 = 3 := by first | rfl | assumption) (y2 : s_ty r1 = 3 := by first | rfl | assumption)  : wr P d sw_c233 sw_h233 (12, [r0, r1, r2, vi x3], [], h, kc, ks) Q := by
  refine w_ld rfl rfl (Or.inr (Or.inr ⟨by decide, y1⟩)) ?_
  refine w_ld rfl rfl (Or.inr (Or.inr ⟨by decide, y2⟩)) ?_
  exact w_cs rfl [r2, r1] [] rfl rfl (s_wt_4 rfl) k

theorem k233_17 {P : s_P} {d : Nat} {Q : s_O → Prop} {h : s_H} {kc ks : Nat} {r0 r1 r2 : Term} {x3 : Int} {s0 : Term} {q4 : Nat} {a5 : List Int} {q10 : Nat} {a11 : List Int} (g6 : s_get h q4 = some (0, 0, a5.map vi)) (g12 : s_get h q10 = some (0, 0, a11.map vi)) (k : wr P d sw_c233 sw_h233 (8, [.index q4, r1, .index q10, vi (x3 + (-1))], [], (hp h q10 (0, 0, (a11.set (Int.toNat (0)) (gi a5 x3)).map vi)), kc, ks) Q) (e_q4 : r0 = .index q4 := by first | rfl | assumption) (e_q10 : s0 = .index q10 := by first | rfl | assumption) (y1 : s_ty r1 = 3 := by first | rfl | assumption) (y2 : s_ty s0 = 3 := by first | rfl | assumption) (y3 : s_ty r0 = 3 := by first | rfl | assumption) (c7 : x3 < a5.length := by first | omega | assumption | (simp only [mk_len, List.length_map]; omega) | decide) (c8 : 0 ≤ x3 := by first | omega | assumption | (simp only [mk_len, List.length_map]; omega) | decide) (c9 : In3 x3 := by first | omega | assumption | (simp only [mk_len, List.length_map]; omega) | decide) (c13 : (0 : Int) < a11.length := by first | omega | assumption | (simp only [mk_len, List.length_map]; omega) | decide) (c14 : 0 < q10 := by first | omega | assumption | (simp only [mk_len, List.length_map]; omega) | decide) : wr P d sw_c233 sw_h233 (17, [r0, r1, r2, vi x3], [s0], h, kc, ks) Q := by
  refine w_st (ls' := [r0, r1, s0, vi x3]) rfl (Or.inr ⟨by decide, y2⟩) (s_stK_r (pre := [r0]) y1) ?_
  refine w_ld rfl rfl (Or.inr (Or.inr ⟨by decide, y2⟩)) ?_
  refine w_c32 rfl (by decide) 0 (by decide) ?_
  refine w_ld rfl rfl (Or.inr (Or.inr ⟨by decide, y3⟩)) ?_
  refine w_ld rfl rfl (Or.inl ⟨by decide, rfl⟩) ?_
  subst e_q4
  refine w_iald rfl g6 (Or.inl rfl) c9 c8 c7 ?_
  subst e_q10
  refine w_iast rfl g12 (Nat.ble_eq_true_of_le c14) (by decide) (by decide) c13 ?_
  refine w_iinc (ls' := [.index q4, r1, .index q10, vi (x3 + (-1))]) rfl rfl (-1) (by decide) rfl ?_
  refine w_goto rfl ?_
  exact k

theorem k233_30 {P : s_P} {d : Nat} {Q : s_O → Prop} {h : s_H} {kc ks : Nat} {r0 r1 r2 : Term} {x3 : Int}  (k : Q (.inl (some r2), h, kc, ks)) (y1 : s_ty r2 = 3 := by first | rfl | assumption)  : wr P d sw_c233 sw_h233 (30, [r0, r1, r2, vi x3], [], h, kc, ks) Q := by
  refine w_ld rfl rfl (Or.inr (Or.inr ⟨by decide, y1⟩)) ?_
  exact w_aret rfl y1 k

/-! 234: FormulaWorks$Series.integralOf([I)[I -/
theorem k234_0 {P : s_P} {d : Nat} {Q : s_O → Prop} {h : s_H} {kc ks : Nat} {r0 t1 t2 : Term} {fc1 : s_C} (g2 : s_get h (h).1 = some fc1) (k : wr P d sw_c234 sw_h234 (7, [r0, .index h.1, vi 1], [], (hq h (0, 0, List.replicate (Int.toNat (25)) (.int 0))), (kc + 1), (ks + (Int.toNat (25)))) Q) (y3 : s_ty r0 = 3 := by first | rfl | assumption)  : wr P d sw_c234 sw_h234 (0, [r0, t1, t2], [], h, kc, ks) Q := by
  refine w_c32 rfl (by decide) 25 (by decide) ?_
  refine w_newa rfl (by decide) g2 (by decide) (by decide) (by decide) (.int 0) rfl ?_
  refine w_st (ls' := [r0, .index h.1, t2]) rfl (Or.inr ⟨by decide, rfl⟩) (s_stK_r (pre := []) y3) ?_
  refine w_c32 rfl (by decide) 1 (by decide) ?_
  refine w_st (ls' := [r0, .index h.1, vi 1]) rfl (Or.inl ⟨by decide, rfl⟩) rfl ?_
  exact k

theorem k234_7 {P : s_P} {d : Nat} {Q : s_O → Prop} {h : s_H} {kc ks : Nat} {r0 r1 : Term} {x2 : Int}  (k1 : 25 ≤ x2 → wr P d sw_c234 sw_h234 (36, [r0, r1, vi x2], [], h, kc, ks) Q) (k2 : ¬ 25 ≤ x2 → wr P d sw_c234 sw_h234 (13, [r0, r1, vi x2], [], h, kc, ks) Q)  (c1 : In3 x2 := by first | omega | assumption | (simp only [mk_len, List.length_map]; omega) | decide) : wr P d sw_c234 sw_h234 (7, [r0, r1, vi x2], [], h, kc, ks) Q := by
  refine w_ld rfl rfl (Or.inl ⟨by decide, rfl⟩) ?_
  refine w_c32 rfl (by decide) 25 (by decide) ?_
  exact w_if2 rfl c1 (by decide) k1 k2

theorem k234_13 {P : s_P} {d : Nat} {Q : s_O → Prop} {h : s_H} {kc ks : Nat} {r0 r1 : Term} {x2 : Int} {q3 : Nat} {a4 : List Int} (g5 : s_get h q3 = some (0, 0, a4.map vi)) (k : wm P d 168 [vi x2] h (wq P d sw_c234 sw_h234 24 [.index q3, r1, vi x2] [vi (gi a4 (x2 - 1)), vi x2, r1] kc ks Q)) (e_q3 : r0 = .index q3 := by first | rfl | assumption) (y1 : s_ty r1 = 3 := by first | rfl | assumption) (y2 : s_ty r0 = 3 := by first | rfl | assumption) (c6 : x2 - 1 < a4.length := by first | omega | assumption | (simp only [mk_len, List.length_map]; omega) | decide) (c7 : 0 ≤ x2 - 1 := by first | omega | assumption | (simp only [mk_len, List.length_map]; omega) | decide) (c8 : In3 (x2 - 1) := by first | omega | assumption | (simp only [mk_len, List.length_map]; omega) | decide) : wr P d sw_c234 sw_h234 (13, [r0, r1, vi x2], [], h, kc, ks) Q := by
  refine w_ld rfl rfl (Or.inr (Or.inr ⟨by decide, y1⟩)) ?_
  refine w_ld rfl rfl (Or.inl ⟨by decide, rfl⟩) ?_
  refine w_ld rfl rfl (Or.inr (Or.inr ⟨by decide, y2⟩)) ?_
  refine w_ld rfl rfl (Or.inl ⟨by decide, rfl⟩) ?_
  refine w_c32 rfl (by decide) 1 (by decide) ?_
  refine w_isub rfl ?_
  subst e_q3
  refine w_iald rfl g5 (Or.inl rfl) c8 c7 c6 ?_
  refine w_ld rfl rfl (Or.inl ⟨by decide, rfl⟩) ?_
  exact w_cs rfl [vi x2] [vi (gi a4 (x2 - 1)), vi x2, r1] rfl rfl (s_wt_4 rfl) k

theorem k234_24 {P : s_P} {d : Nat} {Q : s_O → Prop} {h : s_H} {kc ks : Nat} {r0 r1 : Term} {x2 : Int} {s0 : Term} {s1 s2 s3 : Int} {q2 : Nat} {a3 : List Int} (g4 : s_get h q2 = some (0, 0, a3.map vi)) (k : wr P d sw_c234 sw_h234 (7, [r0, r1, vi (x2 + 1)], [], (hp h q2 (0, 0, (a3.set (Int.toNat (s1)) (Int.tmod (s2 * s3) 32003)).map vi)), kc, ks) Q) (e_q2 : s0 = .index q2 := by first | rfl | assumption) (y9 : s_ty r1 = 3 := by first | rfl | assumption) (c1 : In3 (s2 * s3) := by first | omega | assumption | (simp only [mk_len, List.length_map]; omega) | decide) (c5 : s1 < a3.length := by first | omega | assumption | (simp only [mk_len, List.length_map]; omega) | decide) (c6 : 0 ≤ s1 := by first | omega | assumption | (simp only [mk_len, List.length_map]; omega) | decide) (c7 : In3 s1 := by first | omega | assumption | (simp only [mk_len, List.length_map]; omega) | decide) (c8 : 0 < q2 := by first | omega | assumption | (simp only [mk_len, List.length_map]; omega) | decide) : wr P d sw_c234 sw_h234 (24, [r0, r1, vi x2], [vi s3, vi s2, vi s1, s0], h, kc, ks) Q := by
  refine w_imul rfl ?_
  refine w_c32 rfl (by decide) 32003 (by decide) ?_
  refine w_irem rfl c1 (by decide) (by decide) ?_
  subst e_q2
  refine w_iast rfl g4 (Nat.ble_eq_true_of_le c8) c7 c6 c5 ?_
  refine w_iinc (ls' := [r0, r1, vi (x2 + 1)]) rfl rfl 1 (by decide) (s_stK_r (pre := [r0]) y9) ?_
  refine w_goto rfl ?_
  exact k

theorem k234_36 {P : s_P} {d : Nat} {Q : s_O → Prop} {h : s_H} {kc ks : Nat} {r0 r1 : Term} {x2 : Int}  (k : Q (.inl (some r1), h, kc, ks)) (y1 : s_ty r1 = 3 := by first | rfl | assumption)  : wr P d sw_c234 sw_h234 (36, [r0, r1, vi x2], [], h, kc, ks) Q := by
  refine w_ld rfl rfl (Or.inr (Or.inr ⟨by decide, y1⟩)) ?_
  exact w_aret rfl y1 k

/-! 235: FormulaWorks$Series.leastPower([I)I -/
theorem k235_0 {P : s_P} {d : Nat} {Q : s_O → Prop} {h : s_H} {kc ks : Nat} {r0 t1 : Term}  (k : wr P d sw_c235 sw_h235 (2, [r0, vi 0], [], h, kc, ks) Q) (y1 : s_ty r0 = 3 := by first | rfl | assumption)  : wr P d sw_c235 sw_h235 (0, [r0, t1], [], h, kc, ks) Q := by
  refine w_c32 rfl (by decide) 0 (by decide) ?_
  refine w_st (ls' := [r0, vi 0]) rfl (Or.inl ⟨by decide, rfl⟩) (s_stK_r (pre := []) y1) ?_
  exact k

theorem k235_2 {P : s_P} {d : Nat} {Q : s_O → Prop} {h : s_H} {kc ks : Nat} {r0 : Term} {x1 : Int}  (k1 : 25 ≤ x1 → wr P d sw_c235 sw_h235 (20, [r0, vi x1], [], h, kc, ks) Q) (k2 : ¬ 25 ≤ x1 → wr P d sw_c235 sw_h235 (8, [r0, vi x1], [], h, kc, ks) Q)  (c1 : In3 x1 := by first | omega | assumption | (simp only [mk_len, List.length_map]; omega) | decide) : wr P d sw_c235 sw_h235 (2, [r0, vi x1], [], h, kc, ks) Q := by
  refine w_ld rfl rfl (Or.inl ⟨by decide, rfl⟩) ?_
  refine w_c32 rfl (by decide) 25 (by decide) ?_
  exact w_if2 rfl c1 (by decide) k1 k2

theorem k235_8 {P : s_P} {d : Nat} {Q : s_O → Prop} {h : s_H} {kc ks : Nat} {r0 : Term} {x1 : Int} {q2 : Nat} {a3 : List Int} (g4 : s_get h q2 = some (0, 0, a3.map vi)) (k1 : gi a3 x1 ≠ 0 → wr P d sw_c235 sw_h235 (20, [.index q2, vi x1], [], h, kc, ks) Q) (k2 : ¬ gi a3 x1 ≠ 0 → wr P d sw_c235 sw_h235 (14, [.index q2, vi x1], [], h, kc, ks) Q) (e_q2 : r0 = .index q2 := by first | rfl | assumption) (y1 : s_ty r0 = 3 := by first | rfl | assumption) (c5 : x1 < a3.length := by first | omega | assumption | (simp only [mk_len, List.length_map]; omega) | decide) (c6 : 0 ≤ x1 := by first | omega | assumption | (simp only [mk_len, List.length_map]; omega) | decide) (c7 : In3 x1 := by first | omega | assumption | (simp only [mk_len, List.length_map]; omega) | decide) (c8 : In3 (gi a3 x1) := by first | omega | assumption | (simp only [mk_len, List.length_map]; omega) | decide) : wr P d sw_c235 sw_h235 (8, [r0, vi x1], [], h, kc, ks) Q := by
  refine w_ld rfl rfl (Or.inr (Or.inr ⟨by decide, y1⟩)) ?_
  refine w_ld rfl rfl (Or.inl ⟨by decide, rfl⟩) ?_
  subst e_q2
  refine w_iald rfl g4 (Or.inl rfl) c7 c6 c5 ?_
  exact w_if1 rfl c8 k1 k2

theorem k235_14 {P : s_P} {d : Nat} {Q : s_O → Prop} {h : s_H} {kc ks : Nat} {r0 : Term} {x1 : Int}  (k : wr P d sw_c235 sw_h235 (2, [r0, vi (x1 + 1)], [], h, kc, ks) Q) (y1 : s_ty r0 = 3 := by first | rfl | assumption)  : wr P d sw_c235 sw_h235 (14, [r0, vi x1], [], h, kc, ks) Q := by
  refine w_iinc (ls' := [r0, vi (x1 + 1)]) rfl rfl 1 (by decide) (s_stK_r (pre := []) y1) ?_
  refine w_goto rfl ?_
  exact k

theorem k235_20 {P : s_P} {d : Nat} {Q : s_O → Prop} {h : s_H} {kc ks : Nat} {r0 : Term} {x1 : Int}  (k : Q (.inl (some (vi x1)), h, kc, ks))   : wr P d sw_c235 sw_h235 (20, [r0, vi x1], [], h, kc, ks) Q := by
  refine w_ld rfl rfl (Or.inl ⟨by decide, rfl⟩) ?_
  exact w_iret rfl k

/-! 236: FormulaWorks$Series.lesserRoot(I)I -/
theorem k236_0 {P : s_P} {d : Nat} {Q : s_O → Prop} {h : s_H} {kc ks : Nat} {x0 : Int} {t1 : Term}  (k : wm P d 175 [vi x0, vi 8001] h (wq P d sw_c236 sw_h236 7 [vi x0, t1] [] kc ks Q))   : wr P d sw_c236 sw_h236 (0, [vi x0, t1], [], h, kc, ks) Q := by
  refine w_ld rfl rfl (Or.inl ⟨by decide, rfl⟩) ?_
  refine w_c32 rfl (by decide) 8001 (by decide) ?_
  exact w_cs rfl [vi x0, vi 8001] [] rfl rfl (s_wt_4 rfl) k

theorem k236_7 {P : s_P} {d : Nat} {Q : s_O → Prop} {h : s_H} {kc ks : Nat} {x0 : Int} {t1 : Term} {s0 : Int}  (k1 : Int.tmod (s0 * s0) 32003 = x0 → wr P d sw_c236 sw_h236 (21, [vi x0, vi s0], [], h, kc, ks) Q) (k2 : ¬ Int.tmod (s0 * s0) 32003 = x0 → wr P d sw_c236 sw_h236 (19, [vi x0, vi s0], [], h, kc, ks) Q)  (c1 : In3 (s0 * s0) := by first | omega | assumption | (simp only [mk_len, List.length_map]; omega) | decide) (c2 : In3 (Int.tmod (s0 * s0) 32003) := by first | omega | assumption | (simp only [mk_len, List.length_map]; omega) | decide) (c3 : In3 x0 := by first | omega | assumption | (simp only [mk_len, List.length_map]; omega) | decide) : wr P d sw_c236 sw_h236 (7, [vi x0, t1], [vi s0], h, kc, ks) Q := by
  refine w_st (ls' := [vi x0, vi s0]) rfl (Or.inl ⟨by decide, rfl⟩) rfl ?_
  refine w_ld rfl rfl (Or.inl ⟨by decide, rfl⟩) ?_
  refine w_ld rfl rfl (Or.inl ⟨by decide, rfl⟩) ?_
  refine w_imul rfl ?_
  refine w_c32 rfl (by decide) 32003 (by decide) ?_
  refine w_irem rfl c1 (by decide) (by decide) ?_
  refine w_ld rfl rfl (Or.inl ⟨by decide, rfl⟩) ?_
  exact w_if2 rfl c2 c3 k1 k2

theorem k236_19 {P : s_P} {d : Nat} {Q : s_O → Prop} {h : s_H} {kc ks : Nat} {x0 x1 : Int}  (k : Q (.inl (some (vi (-1))), h, kc, ks))   : wr P d sw_c236 sw_h236 (19, [vi x0, vi x1], [], h, kc, ks) Q := by
  refine w_c32 rfl (by decide) (-1) (by decide) ?_
  exact w_iret rfl k

theorem k236_21 {P : s_P} {d : Nat} {Q : s_O → Prop} {h : s_H} {kc ks : Nat} {x0 x1 : Int}  (k : wm P d 626 [vi x1, vi (32003 - x1)] h (wq P d sw_c236 sw_h236 30 [vi x0, vi x1] [] kc ks Q))   : wr P d sw_c236 sw_h236 (21, [vi x0, vi x1], [], h, kc, ks) Q := by
  refine w_ld rfl rfl (Or.inl ⟨by decide, rfl⟩) ?_
  refine w_c32 rfl (by decide) 32003 (by decide) ?_
  refine w_ld rfl rfl (Or.inl ⟨by decide, rfl⟩) ?_
  refine w_isub rfl ?_
  exact w_cs rfl [vi x1, vi (32003 - x1)] [] rfl rfl (s_wt_4 rfl) k

theorem k236_30 {P : s_P} {d : Nat} {Q : s_O → Prop} {h : s_H} {kc ks : Nat} {x0 x1 s0 : Int}  (k : Q (.inl (some (vi s0)), h, kc, ks))   : wr P d sw_c236 sw_h236 (30, [vi x0, vi x1], [vi s0], h, kc, ks) Q := by
  exact w_iret rfl k

/-! 237: FormulaWorks$Series.madeBy(LFormulaWorks$Thing;[I)[I -/
theorem k237_0 {P : s_P} {d : Nat} {Q : s_O → Prop} {h : s_H} {kc ks : Nat} {r0 r1 t2 t3 t4 : Term} {fc1 : s_C} (g2 : s_get h (h).1 = some fc1) (k : wr P d sw_c237 sw_h237 (10, [r0, r1, .index h.1, r1, vi 0], [], (hq h (0, 0, List.replicate (Int.toNat (25)) (.int 0))), (kc + 1), (ks + (Int.toNat (25)))) Q) (y3 : s_ty r1 = 3 := by first | rfl | assumption)  : wr P d sw_c237 sw_h237 (0, [r0, r1, t2, t3, t4], [], h, kc, ks) Q := by
  refine w_c32 rfl (by decide) 25 (by decide) ?_
  refine w_newa rfl (by decide) g2 (by decide) (by decide) (by decide) (.int 0) rfl ?_
  refine w_st (ls' := [r0, r1, .index h.1, t3, t4]) rfl (Or.inr ⟨by decide, rfl⟩) (s_stK_r (pre := [r0]) y3) ?_
  refine w_ld rfl rfl (Or.inr (Or.inr ⟨by decide, y3⟩)) ?_
  refine w_st (ls' := [r0, r1, .index h.1, r1, t4]) rfl (Or.inr ⟨by decide, y3⟩) rfl ?_
  refine w_c32 rfl (by decide) 0 (by decide) ?_
  refine w_st (ls' := [r0, r1, .index h.1, r1, vi 0]) rfl (Or.inl ⟨by decide, rfl⟩) (s_stK_r (pre := [r0, r1, .index h.1]) y3) ?_
  exact k

theorem k237_10 {P : s_P} {d : Nat} {Q : s_O → Prop} {h : s_H} {kc ks : Nat} {r0 r1 r2 r3 : Term} {x4 : Int} {q2 : Nat} {f3 : List Term} {z5 : Int} (g4 : s_get h q2 = some (1, 8, f3)) (k1 : z5 ≤ x4 → wr P d sw_c237 sw_h237 (50, [.index q2, r1, r2, r3, vi x4], [], h, kc, ks) Q) (k2 : ¬ z5 ≤ x4 → wr P d sw_c237 sw_h237 (19, [.index q2, r1, r2, r3, vi x4], [], h, kc, ks) Q) (e_q2 : r0 = .index q2 := by first | rfl | assumption) (y1 : s_ty r0 = 3 := by first | rfl | assumption) (n6 : s_nth f3 4 = some (vi z5) := by first | rfl | assumption) (c7 : In3 x4 := by first | omega | assumption | (simp only [mk_len, List.length_map]; omega) | decide) (c8 : In3 z5 := by first | omega | assumption | (simp only [mk_len, List.length_map]; omega) | decide) : wr P d sw_c237 sw_h237 (10, [r0, r1, r2, r3, vi x4], [], h, kc, ks) Q := by
  refine w_ld rfl rfl (Or.inl ⟨by decide, rfl⟩) ?_
  refine w_ld rfl rfl (Or.inr (Or.inr ⟨by decide, y1⟩)) ?_
  subst e_q2
  refine w_getf rfl g4 n6 ?_
  exact w_if2 rfl c7 c8 k1 k2

theorem k237_19 {P : s_P} {d : Nat} {Q : s_O → Prop} {h : s_H} {kc ks : Nat} {r0 r1 r2 r3 : Term} {x4 : Int} {q3 : Nat} {f4 : List Term} (g5 : s_get h q3 = some (1, 8, f4)) (k : wm P d 265 [.index q3, vi 0, vi x4] h (wq P d sw_c237 sw_h237 27 [.index q3, r1, r2, r3, vi x4] [r2] kc ks Q)) (e_q3 : r0 = .index q3 := by first | rfl | assumption) (y1 : s_ty r2 = 3 := by first | rfl | assumption) (y2 : s_ty r0 = 3 := by first | rfl | assumption)  : wr P d sw_c237 sw_h237 (19, [r0, r1, r2, r3, vi x4], [], h, kc, ks) Q := by
  refine w_ld rfl rfl (Or.inr (Or.inr ⟨by decide, y1⟩)) ?_
  refine w_ld rfl rfl (Or.inr (Or.inr ⟨by decide, y2⟩)) ?_
  refine w_c32 rfl (by decide) 0 (by decide) ?_
  refine w_ld rfl rfl (Or.inl ⟨by decide, rfl⟩) ?_
  subst e_q3
  exact w_cv rfl [.index q3, vi 0, vi x4] [r2] rfl rfl (s_wt_4 rfl) rfl g5 k

theorem k237_27 {P : s_P} {d : Nat} {Q : s_O → Prop} {h : s_H} {kc ks : Nat} {r0 r1 r2 r3 : Term} {x4 : Int} {s0 s1 : Term}  (k : wm P d 238 [s1] h (wq P d sw_c237 sw_h237 30 [r0, r1, r2, r3, vi x4] [s0] kc ks Q))   : wr P d sw_c237 sw_h237 (27, [r0, r1, r2, r3, vi x4], [s1, s0], h, kc, ks) Q := by
  exact w_cs rfl [s1] [s0] rfl rfl (s_wt_4 rfl) k

theorem k237_30 {P : s_P} {d : Nat} {Q : s_O → Prop} {h : s_H} {kc ks : Nat} {r0 r1 r2 r3 : Term} {x4 : Int} {s0 s1 : Term}  (k : wm P d 242 [s1, r3] h (wq P d sw_c237 sw_h237 34 [r0, r1, r2, r3, vi x4] [s0] kc ks Q)) (y1 : s_ty r3 = 3 := by first | rfl | assumption)  : wr P d sw_c237 sw_h237 (30, [r0, r1, r2, r3, vi x4], [s1, s0], h, kc, ks) Q := by
  refine w_ld rfl rfl (Or.inr (Or.inr ⟨by decide, y1⟩)) ?_
  exact w_cs rfl [s1, r3] [s0] rfl rfl (s_wt_4 rfl) k

theorem k237_34 {P : s_P} {d : Nat} {Q : s_O → Prop} {h : s_H} {kc ks : Nat} {r0 r1 r2 r3 : Term} {x4 : Int} {s0 s1 : Term}  (k : wm P d 241 [s0, s1, vi 1] h (wq P d sw_c237 sw_h237 38 [r0, r1, r2, r3, vi x4] [] kc ks Q))   : wr P d sw_c237 sw_h237 (34, [r0, r1, r2, r3, vi x4], [s1, s0], h, kc, ks) Q := by
  refine w_c32 rfl (by decide) 1 (by decide) ?_
  exact w_cs rfl [s0, s1, vi 1] [] rfl rfl (s_wt_4 rfl) k

theorem k237_38 {P : s_P} {d : Nat} {Q : s_O → Prop} {h : s_H} {kc ks : Nat} {r0 r1 r2 r3 : Term} {x4 : Int} {s0 : Term}  (k : wm P d 247 [r3] h (wq P d sw_c237 sw_h237 43 [r0, r1, s0, r3, vi x4] [] kc ks Q)) (y1 : s_ty r1 = 3 := by first | rfl | assumption) (y2 : s_ty s0 = 3 := by first | rfl | assumption) (y3 : s_ty r3 = 3 := by first | rfl | assumption)  : wr P d sw_c237 sw_h237 (38, [r0, r1, r2, r3, vi x4], [s0], h, kc, ks) Q := by
  refine w_st (ls' := [r0, r1, s0, r3, vi x4]) rfl (Or.inr ⟨by decide, y2⟩) (s_stK_r (pre := [r0]) y1) ?_
  refine w_ld rfl rfl (Or.inr (Or.inr ⟨by decide, y3⟩)) ?_
  exact w_cs rfl [r3] [] rfl rfl (s_wt_4 rfl) k

theorem k237_43 {P : s_P} {d : Nat} {Q : s_O → Prop} {h : s_H} {kc ks : Nat} {r0 r1 r2 r3 : Term} {x4 : Int} {s0 : Term}  (k : wr P d sw_c237 sw_h237 (10, [r0, r1, r2, s0, vi (x4 + 1)], [], h, kc, ks) Q) (y1 : s_ty r2 = 3 := by first | rfl | assumption) (y2 : s_ty s0 = 3 := by first | rfl | assumption)  : wr P d sw_c237 sw_h237 (43, [r0, r1, r2, r3, vi x4], [s0], h, kc, ks) Q := by
  refine w_st (ls' := [r0, r1, r2, s0, vi x4]) rfl (Or.inr ⟨by decide, y2⟩) (s_stK_r (pre := [r0, r1]) y1) ?_
  refine w_iinc (ls' := [r0, r1, r2, s0, vi (x4 + 1)]) rfl rfl 1 (by decide) (s_stK_r (pre := [r0, r1, r2]) y2) ?_
  refine w_goto rfl ?_
  exact k

theorem k237_50 {P : s_P} {d : Nat} {Q : s_O → Prop} {h : s_H} {kc ks : Nat} {r0 r1 r2 r3 : Term} {x4 : Int}  (k : Q (.inl (some r2), h, kc, ks)) (y1 : s_ty r2 = 3 := by first | rfl | assumption)  : wr P d sw_c237 sw_h237 (50, [r0, r1, r2, r3, vi x4], [], h, kc, ks) Q := by
  refine w_ld rfl rfl (Or.inr (Or.inr ⟨by decide, y1⟩)) ?_
  exact w_aret rfl y1 k

/-! 238: FormulaWorks$Series.numbersOf(LFormulaWorks$Poly;)[I -/
theorem k238_0 {P : s_P} {d : Nat} {Q : s_O → Prop} {h : s_H} {kc ks : Nat} {r0 t1 t2 : Term} {fc1 : s_C} (g2 : s_get h (h).1 = some fc1) (k : wr P d sw_c238 sw_h238 (7, [r0, .index h.1, vi 0], [], (hq h (0, 0, List.replicate (Int.toNat (25)) (.int 0))), (kc + 1), (ks + (Int.toNat (25)))) Q) (y3 : s_ty r0 = 3 := by first | rfl | assumption)  : wr P d sw_c238 sw_h238 (0, [r0, t1, t2], [], h, kc, ks) Q := by
  refine w_c32 rfl (by decide) 25 (by decide) ?_
  refine w_newa rfl (by decide) g2 (by decide) (by decide) (by decide) (.int 0) rfl ?_
  refine w_st (ls' := [r0, .index h.1, t2]) rfl (Or.inr ⟨by decide, rfl⟩) (s_stK_r (pre := []) y3) ?_
  refine w_c32 rfl (by decide) 0 (by decide) ?_
  refine w_st (ls' := [r0, .index h.1, vi 0]) rfl (Or.inl ⟨by decide, rfl⟩) rfl ?_
  exact k

theorem k238_7 {P : s_P} {d : Nat} {Q : s_O → Prop} {h : s_H} {kc ks : Nat} {r0 r1 : Term} {x2 : Int}  (k1 : 25 ≤ x2 → wr P d sw_c238 sw_h238 (27, [r0, r1, vi x2], [], h, kc, ks) Q) (k2 : ¬ 25 ≤ x2 → wr P d sw_c238 sw_h238 (13, [r0, r1, vi x2], [], h, kc, ks) Q)  (c1 : In3 x2 := by first | omega | assumption | (simp only [mk_len, List.length_map]; omega) | decide) : wr P d sw_c238 sw_h238 (7, [r0, r1, vi x2], [], h, kc, ks) Q := by
  refine w_ld rfl rfl (Or.inl ⟨by decide, rfl⟩) ?_
  refine w_c32 rfl (by decide) 25 (by decide) ?_
  exact w_if2 rfl c1 (by decide) k1 k2

theorem k238_13 {P : s_P} {d : Nat} {Q : s_O → Prop} {h : s_H} {kc ks : Nat} {r0 r1 : Term} {x2 : Int} {q3 : Nat} {f4 : List Term} (g5 : s_get h q3 = some (1, 4, f4)) (k : wm P d 167 [.index q3, vi x2] h (wq P d sw_c238 sw_h238 20 [.index q3, r1, vi x2] [vi x2, r1] kc ks Q)) (e_q3 : r0 = .index q3 := by first | rfl | assumption) (y1 : s_ty r1 = 3 := by first | rfl | assumption) (y2 : s_ty r0 = 3 := by first | rfl | assumption)  : wr P d sw_c238 sw_h238 (13, [r0, r1, vi x2], [], h, kc, ks) Q := by
  refine w_ld rfl rfl (Or.inr (Or.inr ⟨by decide, y1⟩)) ?_
  refine w_ld rfl rfl (Or.inl ⟨by decide, rfl⟩) ?_
  refine w_ld rfl rfl (Or.inr (Or.inr ⟨by decide, y2⟩)) ?_
  refine w_ld rfl rfl (Or.inl ⟨by decide, rfl⟩) ?_
  subst e_q3
  exact w_cv rfl [.index q3, vi x2] [vi x2, r1] rfl rfl (s_wt_4 rfl) rfl g5 k

theorem k238_20 {P : s_P} {d : Nat} {Q : s_O → Prop} {h : s_H} {kc ks : Nat} {r0 r1 : Term} {x2 : Int} {s0 : Term} {s1 s2 : Int} {q1 : Nat} {a2 : List Int} (g3 : s_get h q1 = some (0, 0, a2.map vi)) (k : wr P d sw_c238 sw_h238 (7, [r0, r1, vi (x2 + 1)], [], (hp h q1 (0, 0, (a2.set (Int.toNat (s1)) s2).map vi)), kc, ks) Q) (e_q1 : s0 = .index q1 := by first | rfl | assumption) (y8 : s_ty r1 = 3 := by first | rfl | assumption) (c4 : s1 < a2.length := by first | omega | assumption | (simp only [mk_len, List.length_map]; omega) | decide) (c5 : 0 ≤ s1 := by first | omega | assumption | (simp only [mk_len, List.length_map]; omega) | decide) (c6 : In3 s1 := by first | omega | assumption | (simp only [mk_len, List.length_map]; omega) | decide) (c7 : 0 < q1 := by first | omega | assumption | (simp only [mk_len, List.length_map]; omega) | decide) : wr P d sw_c238 sw_h238 (20, [r0, r1, vi x2], [vi s2, vi s1, s0], h, kc, ks) Q := by
  subst e_q1
  refine w_iast rfl g3 (Nat.ble_eq_true_of_le c7) c6 c5 c4 ?_
  refine w_iinc (ls' := [r0, r1, vi (x2 + 1)]) rfl rfl 1 (by decide) (s_stK_r (pre := [r0]) y8) ?_
  refine w_goto rfl ?_
  exact k

theorem k238_27 {P : s_P} {d : Nat} {Q : s_O → Prop} {h : s_H} {kc ks : Nat} {r0 r1 : Term} {x2 : Int}  (k : Q (.inl (some r1), h, kc, ks)) (y1 : s_ty r1 = 3 := by first | rfl | assumption)  : wr P d sw_c238 sw_h238 (27, [r0, r1, vi x2], [], h, kc, ks) Q := by
  refine w_ld rfl rfl (Or.inr (Or.inr ⟨by decide, y1⟩)) ?_
  exact w_aret rfl y1 k

/-! 239: FormulaWorks$Series.obeying(LFormulaWorks$Thing;[I)Z -/
theorem k239_0 {P : s_P} {d : Nat} {Q : s_O → Prop} {h : s_H} {kc ks : Nat} {r0 r1 t2 : Term}  (k : wr P d sw_c239 sw_h239 (2, [r0, r1, vi 0], [], h, kc, ks) Q) (y1 : s_ty r1 = 3 := by first | rfl | assumption)  : wr P d sw_c239 sw_h239 (0, [r0, r1, t2], [], h, kc, ks) Q := by
  refine w_c32 rfl (by decide) 0 (by decide) ?_
  refine w_st (ls' := [r0, r1, vi 0]) rfl (Or.inl ⟨by decide, rfl⟩) (s_stK_r (pre := [r0]) y1) ?_
  exact k

theorem k239_2 {P : s_P} {d : Nat} {Q : s_O → Prop} {h : s_H} {kc ks : Nat} {r0 r1 : Term} {x2 : Int} {q2 : Nat} {f3 : List Term} {z5 : Int} (g4 : s_get h q2 = some (1, 8, f3)) (k1 : 25 < x2 + z5 → wr P d sw_c239 sw_h239 (34, [.index q2, r1, vi x2], [], h, kc, ks) Q) (k2 : ¬ 25 < x2 + z5 → wr P d sw_c239 sw_h239 (13, [.index q2, r1, vi x2], [], h, kc, ks) Q) (e_q2 : r0 = .index q2 := by first | rfl | assumption) (y1 : s_ty r0 = 3 := by first | rfl | assumption) (n6 : s_nth f3 4 = some (vi z5) := by first | rfl | assumption) (c7 : In3 (x2 + z5) := by first | omega | assumption | (simp only [mk_len, List.length_map]; omega) | decide) : wr P d sw_c239 sw_h239 (2, [r0, r1, vi x2], [], h, kc, ks) Q := by
  refine w_ld rfl rfl (Or.inl ⟨by decide, rfl⟩) ?_
  refine w_ld rfl rfl (Or.inr (Or.inr ⟨by decide, y1⟩)) ?_
  subst e_q2
  refine w_getf rfl g4 n6 ?_
  refine w_iadd rfl ?_
  refine w_c32 rfl (by decide) 25 (by decide) ?_
  exact w_if2 rfl c7 (by decide) k1 k2

theorem k239_13 {P : s_P} {d : Nat} {Q : s_O → Prop} {h : s_H} {kc ks : Nat} {r0 r1 : Term} {x2 : Int} {q2 : Nat} {f3 : List Term} {z5 : Int} (g4 : s_get h q2 = some (1, 8, f3)) (k : wm P d 232 [.index q2, vi z5, r1, vi x2] h (wq P d sw_c239 sw_h239 23 [.index q2, r1, vi x2] [] kc ks Q)) (e_q2 : r0 = .index q2 := by first | rfl | assumption) (y1 : s_ty r0 = 3 := by first | rfl | assumption) (n6 : s_nth f3 4 = some (vi z5) := by first | rfl | assumption) (y7 : s_ty r1 = 3 := by first | rfl | assumption)  : wr P d sw_c239 sw_h239 (13, [r0, r1, vi x2], [], h, kc, ks) Q := by
  refine w_ld rfl rfl (Or.inr (Or.inr ⟨by decide, y1⟩)) ?_
  refine w_ld rfl rfl (Or.inr (Or.inr ⟨by decide, y1⟩)) ?_
  subst e_q2
  refine w_getf rfl g4 n6 ?_
  refine w_ld rfl rfl (Or.inr (Or.inr ⟨by decide, y7⟩)) ?_
  refine w_ld rfl rfl (Or.inl ⟨by decide, rfl⟩) ?_
  exact w_cs rfl [.index q2, vi z5, r1, vi x2] [] rfl rfl (s_wt_4 rfl) k

theorem k239_23 {P : s_P} {d : Nat} {Q : s_O → Prop} {h : s_H} {kc ks : Nat} {r0 r1 : Term} {x2 s0 : Int}  (k1 : s0 = 0 → wr P d sw_c239 sw_h239 (28, [r0, r1, vi x2], [], h, kc, ks) Q) (k2 : ¬ s0 = 0 → wr P d sw_c239 sw_h239 (26, [r0, r1, vi x2], [], h, kc, ks) Q)  (c1 : In3 s0 := by first | omega | assumption | (simp only [mk_len, List.length_map]; omega) | decide) : wr P d sw_c239 sw_h239 (23, [r0, r1, vi x2], [vi s0], h, kc, ks) Q := by
  exact w_if1 rfl c1 k1 k2

theorem k239_26 {P : s_P} {d : Nat} {Q : s_O → Prop} {h : s_H} {kc ks : Nat} {r0 r1 : Term} {x2 : Int}  (k : Q (.inl (some (vi 0)), h, kc, ks))   : wr P d sw_c239 sw_h239 (26, [r0, r1, vi x2], [], h, kc, ks) Q := by
  refine w_c32 rfl (by decide) 0 (by decide) ?_
  exact w_zret rfl (by decide) k

theorem k239_28 {P : s_P} {d : Nat} {Q : s_O → Prop} {h : s_H} {kc ks : Nat} {r0 r1 : Term} {x2 : Int}  (k : wr P d sw_c239 sw_h239 (2, [r0, r1, vi (x2 + 1)], [], h, kc, ks) Q) (y1 : s_ty r1 = 3 := by first | rfl | assumption)  : wr P d sw_c239 sw_h239 (28, [r0, r1, vi x2], [], h, kc, ks) Q := by
  refine w_iinc (ls' := [r0, r1, vi (x2 + 1)]) rfl rfl 1 (by decide) (s_stK_r (pre := [r0]) y1) ?_
  refine w_goto rfl ?_
  exact k

theorem k239_34 {P : s_P} {d : Nat} {Q : s_O → Prop} {h : s_H} {kc ks : Nat} {r0 r1 : Term} {x2 : Int}  (k : Q (.inl (some (vi 1)), h, kc, ks))   : wr P d sw_c239 sw_h239 (34, [r0, r1, vi x2], [], h, kc, ks) Q := by
  refine w_c32 rfl (by decide) 1 (by decide) ?_
  exact w_zret rfl (by decide) k

/-! 240: FormulaWorks$Series.ofFraction(LFormulaWorks$Thing;)[I -/
theorem k240_0 {P : s_P} {d : Nat} {Q : s_O → Prop} {h : s_H} {kc ks : Nat} {r0 : Term} {q2 : Nat} {f3 : List Term} {v5 : Term} (g4 : s_get h q2 = some (1, 8, f3)) (k : wm P d 238 [v5] h (wq P d sw_c240 sw_h240 7 [.index q2] [] kc ks Q)) (e_q2 : r0 = .index q2 := by first | rfl | assumption) (y1 : s_ty r0 = 3 := by first | rfl | assumption) (n6 : s_nth f3 1 = some v5 := by first | rfl | assumption)  : wr P d sw_c240 sw_h240 (0, [r0], [], h, kc, ks) Q := by
  refine w_ld rfl rfl (Or.inr (Or.inr ⟨by decide, y1⟩)) ?_
  subst e_q2
  refine w_getf rfl g4 n6 ?_
  exact w_cs rfl [v5] [] rfl rfl (s_wt_4 rfl) k

theorem k240_7 {P : s_P} {d : Nat} {Q : s_O → Prop} {h : s_H} {kc ks : Nat} {r0 s0 : Term} {q2 : Nat} {f3 : List Term} {v5 : Term} (g4 : s_get h q2 = some (1, 8, f3)) (k : wm P d 238 [v5] h (wq P d sw_c240 sw_h240 14 [.index q2] [s0] kc ks Q)) (e_q2 : r0 = .index q2 := by first | rfl | assumption) (y1 : s_ty r0 = 3 := by first | rfl | assumption) (n6 : s_nth f3 2 = some v5 := by first | rfl | assumption)  : wr P d sw_c240 sw_h240 (7, [r0], [s0], h, kc, ks) Q := by
  refine w_ld rfl rfl (Or.inr (Or.inr ⟨by decide, y1⟩)) ?_
  subst e_q2
  refine w_getf rfl g4 n6 ?_
  exact w_cs rfl [v5] [s0] rfl rfl (s_wt_4 rfl) k

theorem k240_14 {P : s_P} {d : Nat} {Q : s_O → Prop} {h : s_H} {kc ks : Nat} {r0 s0 s1 : Term}  (k : wm P d 243 [s0, s1] h (wq P d sw_c240 sw_h240 17 [r0] [] kc ks Q))   : wr P d sw_c240 sw_h240 (14, [r0], [s1, s0], h, kc, ks) Q := by
  exact w_cs rfl [s0, s1] [] rfl rfl (s_wt_4 rfl) k

theorem k240_17 {P : s_P} {d : Nat} {Q : s_O → Prop} {h : s_H} {kc ks : Nat} {r0 s0 : Term}  (k : Q (.inl (some s0), h, kc, ks)) (y1 : s_ty s0 = 3 := by first | rfl | assumption)  : wr P d sw_c240 sw_h240 (17, [r0], [s0], h, kc, ks) Q := by
  exact w_aret rfl y1 k

/-! 241: FormulaWorks$Series.plus([I[II)[I -/
theorem k241_0 {P : s_P} {d : Nat} {Q : s_O → Prop} {h : s_H} {kc ks : Nat} {r0 r1 : Term} {x2 : Int} {t3 t4 : Term} {fc1 : s_C} (g2 : s_get h (h).1 = some fc1) (k : wr P d sw_c241 sw_h241 (8, [r0, r1, vi x2, .index h.1, vi 0], [], (hq h (0, 0, List.replicate (Int.toNat (25)) (.int 0))), (kc + 1), (ks + (Int.toNat (25)))) Q)   : wr P d sw_c241 sw_h241 (0, [r0, r1, vi x2, t3, t4], [], h, kc, ks) Q := by
  refine w_c32 rfl (by decide) 25 (by decide) ?_
  refine w_newa rfl (by decide) g2 (by decide) (by decide) (by decide) (.int 0) rfl ?_
  refine w_st (ls' := [r0, r1, vi x2, .index h.1, t4]) rfl (Or.inr ⟨by decide, rfl⟩) rfl ?_
  refine w_c32 rfl (by decide) 0 (by decide) ?_
  refine w_st (ls' := [r0, r1, vi x2, .index h.1, vi 0]) rfl (Or.inl ⟨by decide, rfl⟩) rfl ?_
  exact k

theorem k241_8 {P : s_P} {d : Nat} {Q : s_O → Prop} {h : s_H} {kc ks : Nat} {r0 r1 : Term} {x2 : Int} {r3 : Term} {x4 : Int}  (k1 : 25 ≤ x4 → wr P d sw_c241 sw_h241 (40, [r0, r1, vi x2, r3, vi x4], [], h, kc, ks) Q) (k2 : ¬ 25 ≤ x4 → wr P d sw_c241 sw_h241 (15, [r0, r1, vi x2, r3, vi x4], [], h, kc, ks) Q)  (c1 : In3 x4 := by first | omega | assumption | (simp only [mk_len, List.length_map]; omega) | decide) : wr P d sw_c241 sw_h241 (8, [r0, r1, vi x2, r3, vi x4], [], h, kc, ks) Q := by
  refine w_ld rfl rfl (Or.inl ⟨by decide, rfl⟩) ?_
  refine w_c32 rfl (by decide) 25 (by decide) ?_
  exact w_if2 rfl c1 (by decide) k1 k2

theorem k241_15 {P : s_P} {d : Nat} {Q : s_O → Prop} {h : s_H} {kc ks : Nat} {r0 r1 : Term} {x2 : Int} {r3 : Term} {x4 : Int} {q3 : Nat} {a4 : List Int} {q10 : Nat} {a11 : List Int} {q15 : Nat} {a16 : List Int} (g5 : s_get h q3 = some (0, 0, a4.map vi)) (g12 : s_get h q10 = some (0, 0, a11.map vi)) (g17 : s_get h q15 = some (0, 0, a16.map vi)) (k : wr P d sw_c241 sw_h241 (8, [.index q3, .index q10, vi x2, .index q15, vi (x4 + 1)], [], (hp h q15 (0, 0, (a16.set (Int.toNat (x4)) (Int.tmod ((gi a4 x4) + (x2 * (gi a11 x4))) 32003)).map vi)), kc, ks) Q) (e_q3 : r0 = .index q3 := by first | rfl | assumption) (e_q10 : r1 = .index q10 := by first | rfl | assumption) (e_q15 : r3 = .index q15 := by first | rfl | assumption) (y1 : s_ty r3 = 3 := by first | rfl | assumption) (y2 : s_ty r0 = 3 := by first | rfl | assumption) (y9 : s_ty r1 = 3 := by first | rfl | assumption) (c6 : x4 < a4.length := by first | omega | assumption | (simp only [mk_len, List.length_map]; omega) | decide) (c7 : 0 ≤ x4 := by first | omega | assumption | (simp only [mk_len, List.length_map]; omega) | decide) (c8 : In3 x4 := by first | omega | assumption | (simp only [mk_len, List.length_map]; omega) | decide) (c13 : x4 < a11.length := by first | omega | assumption | (simp only [mk_len, List.length_map]; omega) | decide) (c14 : In3 ((gi a4 x4) + (x2 * (gi a11 x4))) := by first | omega | assumption | (simp only [mk_len, List.length_map]; omega) | decide) (c18 : x4 < a16.length := by first | omega | assumption | (simp only [mk_len, List.length_map]; omega) | decide) (c19 : 0 < q15 := by first | omega | assumption | (simp only [mk_len, List.length_map]; omega) | decide) : wr P d sw_c241 sw_h241 (15, [r0, r1, vi x2, r3, vi x4], [], h, kc, ks) Q := by
  refine w_ld rfl rfl (Or.inr (Or.inr ⟨by decide, y1⟩)) ?_
  refine w_ld rfl rfl (Or.inl ⟨by decide, rfl⟩) ?_
  refine w_ld rfl rfl (Or.inr (Or.inr ⟨by decide, y2⟩)) ?_
  refine w_ld rfl rfl (Or.inl ⟨by decide, rfl⟩) ?_
  subst e_q3
  refine w_iald rfl g5 (Or.inl rfl) c8 c7 c6 ?_
  refine w_ld rfl rfl (Or.inl ⟨by decide, rfl⟩) ?_
  refine w_ld rfl rfl (Or.inr (Or.inr ⟨by decide, y9⟩)) ?_
  refine w_ld rfl rfl (Or.inl ⟨by decide, rfl⟩) ?_
  subst e_q10
  refine w_iald rfl g12 (Or.inl rfl) c8 c7 c13 ?_
  refine w_imul rfl ?_
  refine w_iadd rfl ?_
  refine w_c32 rfl (by decide) 32003 (by decide) ?_
  refine w_irem rfl c14 (by decide) (by decide) ?_
  subst e_q15
  refine w_iast rfl g17 (Nat.ble_eq_true_of_le c19) c8 c7 c18 ?_
  refine w_iinc (ls' := [.index q3, .index q10, vi x2, .index q15, vi (x4 + 1)]) rfl rfl 1 (by decide) rfl ?_
  refine w_goto rfl ?_
  exact k

theorem k241_40 {P : s_P} {d : Nat} {Q : s_O → Prop} {h : s_H} {kc ks : Nat} {r0 r1 : Term} {x2 : Int} {r3 : Term} {x4 : Int}  (k : Q (.inl (some r3), h, kc, ks)) (y1 : s_ty r3 = 3 := by first | rfl | assumption)  : wr P d sw_c241 sw_h241 (40, [r0, r1, vi x2, r3, vi x4], [], h, kc, ks) Q := by
  refine w_ld rfl rfl (Or.inr (Or.inr ⟨by decide, y1⟩)) ?_
  exact w_aret rfl y1 k

/-! 242: FormulaWorks$Series.product([I[I)[I -/
theorem k242_0 {P : s_P} {d : Nat} {Q : s_O → Prop} {h : s_H} {kc ks : Nat} {r0 r1 t2 t3 t4 t5 t6 : Term} {fc1 : s_C} (g2 : s_get h (h).1 = some fc1) (k : wr P d sw_c242 sw_h242 (7, [r0, r1, .index h.1, vi 0, t4, t5, t6], [], (hq h (0, 0, List.replicate (Int.toNat (25)) (.int 0))), (kc + 1), (ks + (Int.toNat (25)))) Q) (y3 : s_ty r1 = 3 := by first | rfl | assumption)  : wr P d sw_c242 sw_h242 (0, [r0, r1, t2, t3, t4, t5, t6], [], h, kc, ks) Q := by
  refine w_c32 rfl (by decide) 25 (by decide) ?_
  refine w_newa rfl (by decide) g2 (by decide) (by decide) (by decide) (.int 0) rfl ?_
  refine w_st (ls' := [r0, r1, .index h.1, t3, t4, t5, t6]) rfl (Or.inr ⟨by decide, rfl⟩) (s_stK_r (pre := [r0]) y3) ?_
  refine w_c32 rfl (by decide) 0 (by decide) ?_
  refine w_st (ls' := [r0, r1, .index h.1, vi 0, t4, t5, t6]) rfl (Or.inl ⟨by decide, rfl⟩) rfl ?_
  exact k

theorem k242_7 {P : s_P} {d : Nat} {Q : s_O → Prop} {h : s_H} {kc ks : Nat} {r0 r1 r2 : Term} {x3 : Int} {t4 t5 t6 : Term}  (k1 : 25 ≤ x3 → wr P d sw_c242 sw_h242 (64, [r0, r1, r2, vi x3, t4, t5, t6], [], h, kc, ks) Q) (k2 : ¬ 25 ≤ x3 → wr P d sw_c242 sw_h242 (13, [r0, r1, r2, vi x3, t4, t5, t6], [], h, kc, ks) Q)  (c1 : In3 x3 := by first | omega | assumption | (simp only [mk_len, List.length_map]; omega) | decide) : wr P d sw_c242 sw_h242 (7, [r0, r1, r2, vi x3, t4, t5, t6], [], h, kc, ks) Q := by
  refine w_ld rfl rfl (Or.inl ⟨by decide, rfl⟩) ?_
  refine w_c32 rfl (by decide) 25 (by decide) ?_
  exact w_if2 rfl c1 (by decide) k1 k2

theorem k242_13 {P : s_P} {d : Nat} {Q : s_O → Prop} {h : s_H} {kc ks : Nat} {r0 r1 r2 : Term} {x3 : Int} {t4 t5 t6 : Term}  (k : wr P d sw_c242 sw_h242 (19, [r0, r1, r2, vi x3, vl 0, .result, vi 0], [], h, kc, ks) Q)   : wr P d sw_c242 sw_h242 (13, [r0, r1, r2, vi x3, t4, t5, t6], [], h, kc, ks) Q := by
  refine w_c64 rfl (by decide) 0 (by decide) ?_
  refine w_stl (ls' := [r0, r1, r2, vi x3, vl 0, t5, t6]) (ls'' := [r0, r1, r2, vi x3, vl 0, .result, t6]) rfl ⟨by decide, rfl⟩ rfl rfl ?_
  refine w_c32 rfl (by decide) 0 (by decide) ?_
  refine w_st (ls' := [r0, r1, r2, vi x3, vl 0, .result, vi 0]) rfl (Or.inl ⟨by decide, rfl⟩) rfl ?_
  exact k

theorem k242_19 {P : s_P} {d : Nat} {Q : s_O → Prop} {h : s_H} {kc ks : Nat} {r0 r1 r2 : Term} {x3 x4 : Int} {t5 : Term} {x6 : Int}  (k1 : x3 < x6 → wr P d sw_c242 sw_h242 (48, [r0, r1, r2, vi x3, vl x4, t5, vi x6], [], h, kc, ks) Q) (k2 : ¬ x3 < x6 → wr P d sw_c242 sw_h242 (25, [r0, r1, r2, vi x3, vl x4, t5, vi x6], [], h, kc, ks) Q)  (c1 : In3 x6 := by first | omega | assumption | (simp only [mk_len, List.length_map]; omega) | decide) (c2 : In3 x3 := by first | omega | assumption | (simp only [mk_len, List.length_map]; omega) | decide) : wr P d sw_c242 sw_h242 (19, [r0, r1, r2, vi x3, vl x4, t5, vi x6], [], h, kc, ks) Q := by
  refine w_ld rfl rfl (Or.inl ⟨by decide, rfl⟩) ?_
  refine w_ld rfl rfl (Or.inl ⟨by decide, rfl⟩) ?_
  exact w_if2 rfl c1 c2 k1 k2

theorem k242_25 {P : s_P} {d : Nat} {Q : s_O → Prop} {h : s_H} {kc ks : Nat} {r0 r1 r2 : Term} {x3 x4 : Int} {t5 : Term} {x6 : Int} {q2 : Nat} {a3 : List Int} {q9 : Nat} {a10 : List Int} (g4 : s_get h q2 = some (0, 0, a3.map vi)) (g11 : s_get h q9 = some (0, 0, a10.map vi)) (k : wr P d sw_c242 sw_h242 (19, [.index q2, .index q9, r2, vi x3, vl (x4 + ((gi a3 x6) * (gi a10 (x3 - x6)))), .result, vi (x6 + 1)], [], h, kc, ks) Q) (e_q2 : r0 = .index q2 := by first | rfl | assumption) (e_q9 : r1 = .index q9 := by first | rfl | assumption) (y1 : s_ty r0 = 3 := by first | rfl | assumption) (y8 : s_ty r1 = 3 := by first | rfl | assumption) (c5 : x6 < a3.length := by first | omega | assumption | (simp only [mk_len, List.length_map]; omega) | decide) (c6 : 0 ≤ x6 := by first | omega | assumption | (simp only [mk_len, List.length_map]; omega) | decide) (c7 : In3 x6 := by first | omega | assumption | (simp only [mk_len, List.length_map]; omega) | decide) (c12 : x3 - x6 < a10.length := by first | omega | assumption | (simp only [mk_len, List.length_map]; omega) | decide) (c13 : 0 ≤ x3 - x6 := by first | omega | assumption | (simp only [mk_len, List.length_map]; omega) | decide) (c14 : In3 (x3 - x6) := by first | omega | assumption | (simp only [mk_len, List.length_map]; omega) | decide) (c15 : In3 ((gi a3 x6) * (gi a10 (x3 - x6))) := by first | omega | assumption | (simp only [mk_len, List.length_map]; omega) | decide) : wr P d sw_c242 sw_h242 (25, [r0, r1, r2, vi x3, vl x4, t5, vi x6], [], h, kc, ks) Q := by
  refine w_ld rfl rfl (Or.inr (Or.inl ⟨by decide, rfl⟩)) ?_
  refine w_ld rfl rfl (Or.inr (Or.inr ⟨by decide, y1⟩)) ?_
  refine w_ld rfl rfl (Or.inl ⟨by decide, rfl⟩) ?_
  subst e_q2
  refine w_iald rfl g4 (Or.inl rfl) c7 c6 c5 ?_
  refine w_ld rfl rfl (Or.inr (Or.inr ⟨by decide, y8⟩)) ?_
  refine w_ld rfl rfl (Or.inl ⟨by decide, rfl⟩) ?_
  refine w_ld rfl rfl (Or.inl ⟨by decide, rfl⟩) ?_
  refine w_isub rfl ?_
  subst e_q9
  refine w_iald rfl g11 (Or.inl rfl) c14 c13 c12 ?_
  refine w_imul rfl ?_
  refine w_i2l rfl c15 ?_
  refine w_ladd rfl ?_
  refine w_stl (ls' := [.index q2, .index q9, r2, vi x3, vl (x4 + ((gi a3 x6) * (gi a10 (x3 - x6)))), t5, vi x6]) (ls'' := [.index q2, .index q9, r2, vi x3, vl (x4 + ((gi a3 x6) * (gi a10 (x3 - x6)))), .result, vi x6]) rfl ⟨by decide, rfl⟩ rfl rfl ?_
  refine w_iinc (ls' := [.index q2, .index q9, r2, vi x3, vl (x4 + ((gi a3 x6) * (gi a10 (x3 - x6)))), .result, vi (x6 + 1)]) rfl rfl 1 (by decide) rfl ?_
  refine w_goto rfl ?_
  exact k

theorem k242_48 {P : s_P} {d : Nat} {Q : s_O → Prop} {h : s_H} {kc ks : Nat} {r0 r1 r2 : Term} {x3 x4 : Int} {t5 : Term} {x6 : Int} {q3 : Nat} {a4 : List Int} (g5 : s_get h q3 = some (0, 0, a4.map vi)) (k : wr P d sw_c242 sw_h242 (7, [r0, r1, .index q3, vi (x3 + 1), vl x4, t5, vi x6], [], (hp h q3 (0, 0, (a4.set (Int.toNat (x3)) (Int.tmod x4 32003)).map vi)), kc, ks) Q) (e_q3 : r2 = .index q3 := by first | rfl | assumption) (y1 : s_ty r2 = 3 := by first | rfl | assumption) (c2 : In6 x4 := by first | omega | assumption | (simp only [mk_len, List.length_map]; omega) | decide) (c6 : x3 < a4.length := by first | omega | assumption | (simp only [mk_len, List.length_map]; omega) | decide) (c7 : 0 ≤ x3 := by first | omega | assumption | (simp only [mk_len, List.length_map]; omega) | decide) (c8 : In3 x3 := by first | omega | assumption | (simp only [mk_len, List.length_map]; omega) | decide) (c9 : 0 < q3 := by first | omega | assumption | (simp only [mk_len, List.length_map]; omega) | decide) : wr P d sw_c242 sw_h242 (48, [r0, r1, r2, vi x3, vl x4, t5, vi x6], [], h, kc, ks) Q := by
  refine w_ld rfl rfl (Or.inr (Or.inr ⟨by decide, y1⟩)) ?_
  refine w_ld rfl rfl (Or.inl ⟨by decide, rfl⟩) ?_
  refine w_ld rfl rfl (Or.inr (Or.inl ⟨by decide, rfl⟩)) ?_
  refine w_c64 rfl (by decide) 32003 (by decide) ?_
  refine w_lrem rfl c2 (by decide) (by decide) ?_
  refine w_l2i rfl ?_
  subst e_q3
  refine w_iast rfl g5 (Nat.ble_eq_true_of_le c9) c8 c7 c6 ?_
  refine w_iinc (ls' := [r0, r1, .index q3, vi (x3 + 1), vl x4, t5, vi x6]) rfl rfl 1 (by decide) rfl ?_
  refine w_goto rfl ?_
  exact k

theorem k242_64 {P : s_P} {d : Nat} {Q : s_O → Prop} {h : s_H} {kc ks : Nat} {r0 r1 r2 : Term} {x3 : Int} {t4 t5 t6 : Term}  (k : Q (.inl (some r2), h, kc, ks)) (y1 : s_ty r2 = 3 := by first | rfl | assumption)  : wr P d sw_c242 sw_h242 (64, [r0, r1, r2, vi x3, t4, t5, t6], [], h, kc, ks) Q := by
  refine w_ld rfl rfl (Or.inr (Or.inr ⟨by decide, y1⟩)) ?_
  exact w_aret rfl y1 k

/-! 243: FormulaWorks$Series.quotient([I[I)[I -/
theorem k243_0 {P : s_P} {d : Nat} {Q : s_O → Prop} {h : s_H} {kc ks : Nat} {r0 r1 t2 t3 t4 t5 t6 t7 : Term} {fc1 : s_C} {q4 : Nat} {a5 : List Int} (g2 : s_get h (h).1 = some fc1) (g6 : s_get (hq h (0, 0, List.replicate (Int.toNat (25)) (.int 0))) q4 = some (0, 0, a5.map vi)) (k : wm P d 168 [vi (gi a5 0)] (hq h (0, 0, List.replicate (Int.toNat (25)) (.int 0))) (wq P d sw_c243 sw_h243 11 [r0, .index q4, .index h.1, t3, t4, t5, t6, t7] [] (kc + 1) (ks + (Int.toNat (25))) Q)) (e_q4 : r1 = .index q4 := by first | rfl | assumption) (y3 : s_ty r1 = 3 := by first | rfl | assumption) (c7 : (0 : Int) < a5.length := by first | omega | assumption | (simp only [mk_len, List.length_map]; omega) | decide) : wr P d sw_c243 sw_h243 (0, [r0, r1, t2, t3, t4, t5, t6, t7], [], h, kc, ks) Q := by
  refine w_c32 rfl (by decide) 25 (by decide) ?_
  refine w_newa rfl (by decide) g2 (by decide) (by decide) (by decide) (.int 0) rfl ?_
  refine w_st (ls' := [r0, r1, .index h.1, t3, t4, t5, t6, t7]) rfl (Or.inr ⟨by decide, rfl⟩) (s_stK_r (pre := [r0]) y3) ?_
  refine w_ld rfl rfl (Or.inr (Or.inr ⟨by decide, y3⟩)) ?_
  refine w_c32 rfl (by decide) 0 (by decide) ?_
  subst e_q4
  refine w_iald rfl g6 (Or.inl rfl) (by decide) (by decide) c7 ?_
  exact w_cs rfl [vi (gi a5 0)] [] rfl rfl (s_wt_4 rfl) k

theorem k243_11 {P : s_P} {d : Nat} {Q : s_O → Prop} {h : s_H} {kc ks : Nat} {r0 r1 r2 t3 t4 t5 t6 t7 : Term} {s0 : Int}  (k : wr P d sw_c243 sw_h243 (15, [r0, r1, r2, vi s0, vi 0, t5, t6, t7], [], h, kc, ks) Q) (y1 : s_ty r2 = 3 := by first | rfl | assumption)  : wr P d sw_c243 sw_h243 (11, [r0, r1, r2, t3, t4, t5, t6, t7], [vi s0], h, kc, ks) Q := by
  refine w_st (ls' := [r0, r1, r2, vi s0, t4, t5, t6, t7]) rfl (Or.inl ⟨by decide, rfl⟩) (s_stK_r (pre := [r0, r1]) y1) ?_
  refine w_c32 rfl (by decide) 0 (by decide) ?_
  refine w_st (ls' := [r0, r1, r2, vi s0, vi 0, t5, t6, t7]) rfl (Or.inl ⟨by decide, rfl⟩) rfl ?_
  exact k

theorem k243_15 {P : s_P} {d : Nat} {Q : s_O → Prop} {h : s_H} {kc ks : Nat} {r0 r1 r2 : Term} {x3 x4 : Int} {t5 t6 t7 : Term}  (k1 : 25 ≤ x4 → wr P d sw_c243 sw_h243 (95, [r0, r1, r2, vi x3, vi x4, t5, t6, t7], [], h, kc, ks) Q) (k2 : ¬ 25 ≤ x4 → wr P d sw_c243 sw_h243 (22, [r0, r1, r2, vi x3, vi x4, t5, t6, t7], [], h, kc, ks) Q)  (c1 : In3 x4 := by first | omega | assumption | (simp only [mk_len, List.length_map]; omega) | decide) : wr P d sw_c243 sw_h243 (15, [r0, r1, r2, vi x3, vi x4, t5, t6, t7], [], h, kc, ks) Q := by
  refine w_ld rfl rfl (Or.inl ⟨by decide, rfl⟩) ?_
  refine w_c32 rfl (by decide) 25 (by decide) ?_
  exact w_if2 rfl c1 (by decide) k1 k2

theorem k243_22 {P : s_P} {d : Nat} {Q : s_O → Prop} {h : s_H} {kc ks : Nat} {r0 r1 r2 : Term} {x3 x4 : Int} {t5 t6 t7 : Term}  (k : wr P d sw_c243 sw_h243 (28, [r0, r1, r2, vi x3, vi x4, vl 0, .result, vi 1], [], h, kc, ks) Q)   : wr P d sw_c243 sw_h243 (22, [r0, r1, r2, vi x3, vi x4, t5, t6, t7], [], h, kc, ks) Q := by
  refine w_c64 rfl (by decide) 0 (by decide) ?_
  refine w_stl (ls' := [r0, r1, r2, vi x3, vi x4, vl 0, t6, t7]) (ls'' := [r0, r1, r2, vi x3, vi x4, vl 0, .result, t7]) rfl ⟨by decide, rfl⟩ rfl rfl ?_
  refine w_c32 rfl (by decide) 1 (by decide) ?_
  refine w_st (ls' := [r0, r1, r2, vi x3, vi x4, vl 0, .result, vi 1]) rfl (Or.inl ⟨by decide, rfl⟩) rfl ?_
  exact k

theorem k243_28 {P : s_P} {d : Nat} {Q : s_O → Prop} {h : s_H} {kc ks : Nat} {r0 r1 r2 : Term} {x3 x4 x5 : Int} {t6 : Term} {x7 : Int}  (k1 : x4 < x7 → wr P d sw_c243 sw_h243 (59, [r0, r1, r2, vi x3, vi x4, vl x5, t6, vi x7], [], h, kc, ks) Q) (k2 : ¬ x4 < x7 → wr P d sw_c243 sw_h243 (35, [r0, r1, r2, vi x3, vi x4, vl x5, t6, vi x7], [], h, kc, ks) Q)  (c1 : In3 x7 := by first | omega | assumption | (simp only [mk_len, List.length_map]; omega) | decide) (c2 : In3 x4 := by first | omega | assumption | (simp only [mk_len, List.length_map]; omega) | decide) : wr P d sw_c243 sw_h243 (28, [r0, r1, r2, vi x3, vi x4, vl x5, t6, vi x7], [], h, kc, ks) Q := by
  refine w_ld rfl rfl (Or.inl ⟨by decide, rfl⟩) ?_
  refine w_ld rfl rfl (Or.inl ⟨by decide, rfl⟩) ?_
  exact w_if2 rfl c1 c2 k1 k2

theorem k243_35 {P : s_P} {d : Nat} {Q : s_O → Prop} {h : s_H} {kc ks : Nat} {r0 r1 r2 : Term} {x3 x4 x5 : Int} {t6 : Term} {x7 : Int} {q2 : Nat} {a3 : List Int} {q9 : Nat} {a10 : List Int} (g4 : s_get h q2 = some (0, 0, a3.map vi)) (g11 : s_get h q9 = some (0, 0, a10.map vi)) (k : wr P d sw_c243 sw_h243 (28, [r0, .index q2, .index q9, vi x3, vi x4, vl (x5 + ((gi a3 x7) * (gi a10 (x4 - x7)))), .result, vi (x7 + 1)], [], h, kc, ks) Q) (e_q2 : r1 = .index q2 := by first | rfl | assumption) (e_q9 : r2 = .index q9 := by first | rfl | assumption) (y1 : s_ty r1 = 3 := by first | rfl | assumption) (y8 : s_ty r2 = 3 := by first | rfl | assumption) (c5 : x7 < a3.length := by first | omega | assumption | (simp only [mk_len, List.length_map]; omega) | decide) (c6 : 0 ≤ x7 := by first | omega | assumption | (simp only [mk_len, List.length_map]; omega) | decide) (c7 : In3 x7 := by first | omega | assumption | (simp only [mk_len, List.length_map]; omega) | decide) (c12 : x4 - x7 < a10.length := by first | omega | assumption | (simp only [mk_len, List.length_map]; omega) | decide) (c13 : 0 ≤ x4 - x7 := by first | omega | assumption | (simp only [mk_len, List.length_map]; omega) | decide) (c14 : In3 (x4 - x7) := by first | omega | assumption | (simp only [mk_len, List.length_map]; omega) | decide) (c15 : In3 ((gi a3 x7) * (gi a10 (x4 - x7))) := by first | omega | assumption | (simp only [mk_len, List.length_map]; omega) | decide) : wr P d sw_c243 sw_h243 (35, [r0, r1, r2, vi x3, vi x4, vl x5, t6, vi x7], [], h, kc, ks) Q := by
  refine w_ld rfl rfl (Or.inr (Or.inl ⟨by decide, rfl⟩)) ?_
  refine w_ld rfl rfl (Or.inr (Or.inr ⟨by decide, y1⟩)) ?_
  refine w_ld rfl rfl (Or.inl ⟨by decide, rfl⟩) ?_
  subst e_q2
  refine w_iald rfl g4 (Or.inl rfl) c7 c6 c5 ?_
  refine w_ld rfl rfl (Or.inr (Or.inr ⟨by decide, y8⟩)) ?_
  refine w_ld rfl rfl (Or.inl ⟨by decide, rfl⟩) ?_
  refine w_ld rfl rfl (Or.inl ⟨by decide, rfl⟩) ?_
  refine w_isub rfl ?_
  subst e_q9
  refine w_iald rfl g11 (Or.inl rfl) c14 c13 c12 ?_
  refine w_imul rfl ?_
  refine w_i2l rfl c15 ?_
  refine w_ladd rfl ?_
  refine w_stl (ls' := [r0, .index q2, .index q9, vi x3, vi x4, vl (x5 + ((gi a3 x7) * (gi a10 (x4 - x7)))), t6, vi x7]) (ls'' := [r0, .index q2, .index q9, vi x3, vi x4, vl (x5 + ((gi a3 x7) * (gi a10 (x4 - x7)))), .result, vi x7]) rfl ⟨by decide, rfl⟩ rfl rfl ?_
  refine w_iinc (ls' := [r0, .index q2, .index q9, vi x3, vi x4, vl (x5 + ((gi a3 x7) * (gi a10 (x4 - x7)))), .result, vi (x7 + 1)]) rfl rfl 1 (by decide) rfl ?_
  refine w_goto rfl ?_
  exact k

theorem k243_59 {P : s_P} {d : Nat} {Q : s_O → Prop} {h : s_H} {kc ks : Nat} {r0 r1 r2 : Term} {x3 x4 x5 : Int} {t6 : Term} {x7 : Int} {q3 : Nat} {a4 : List Int} {q12 : Nat} {a13 : List Int} (g5 : s_get h q3 = some (0, 0, a4.map vi)) (g14 : s_get h q12 = some (0, 0, a13.map vi)) (k : wr P d sw_c243 sw_h243 (15, [.index q3, r1, .index q12, vi x3, vi (x4 + 1), vl x5, t6, vi x7], [], (hp h q12 (0, 0, (a13.set (Int.toNat (x4)) (Int.tmod ((Int.tmod (((gi a4 x4) + 32003) - (Int.tmod x5 32003)) 32003) * x3) 32003)).map vi)), kc, ks) Q) (e_q3 : r0 = .index q3 := by first | rfl | assumption) (e_q12 : r2 = .index q12 := by first | rfl | assumption) (y1 : s_ty r2 = 3 := by first | rfl | assumption) (y2 : s_ty r0 = 3 := by first | rfl | assumption) (c6 : x4 < a4.length := by first | omega | assumption | (simp only [mk_len, List.length_map]; omega) | decide) (c7 : 0 ≤ x4 := by first | omega | assumption | (simp only [mk_len, List.length_map]; omega) | decide) (c8 : In3 x4 := by first | omega | assumption | (simp only [mk_len, List.length_map]; omega) | decide) (c9 : In6 x5 := by first | omega | assumption | (simp only [mk_len, List.length_map]; omega) | decide) (c10 : In3 (((gi a4 x4) + 32003) - (Int.tmod x5 32003)) := by first | omega | assumption | (simp only [mk_len, List.length_map]; omega) | decide) (c11 : In3 ((Int.tmod (((gi a4 x4) + 32003) - (Int.tmod x5 32003)) 32003) * x3) := by first | omega | assumption | (simp only [mk_len, List.length_map]; omega) | decide) (c15 : x4 < a13.length := by first | omega | assumption | (simp only [mk_len, List.length_map]; omega) | decide) (c16 : 0 < q12 := by first | omega | assumption | (simp only [mk_len, List.length_map]; omega) | decide) : wr P d sw_c243 sw_h243 (59, [r0, r1, r2, vi x3, vi x4, vl x5, t6, vi x7], [], h, kc, ks) Q := by
  refine w_ld rfl rfl (Or.inr (Or.inr ⟨by decide, y1⟩)) ?_
  refine w_ld rfl rfl (Or.inl ⟨by decide, rfl⟩) ?_
  refine w_ld rfl rfl (Or.inr (Or.inr ⟨by decide, y2⟩)) ?_
  refine w_ld rfl rfl (Or.inl ⟨by decide, rfl⟩) ?_
  subst e_q3
  refine w_iald rfl g5 (Or.inl rfl) c8 c7 c6 ?_
  refine w_c32 rfl (by decide) 32003 (by decide) ?_
  refine w_iadd rfl ?_
  refine w_ld rfl rfl (Or.inr (Or.inl ⟨by decide, rfl⟩)) ?_
  refine w_c64 rfl (by decide) 32003 (by decide) ?_
  refine w_lrem rfl c9 (by decide) (by decide) ?_
  refine w_l2i rfl ?_
  refine w_isub rfl ?_
  refine w_c32 rfl (by decide) 32003 (by decide) ?_
  refine w_irem rfl c10 (by decide) (by decide) ?_
  refine w_ld rfl rfl (Or.inl ⟨by decide, rfl⟩) ?_
  refine w_imul rfl ?_
  refine w_c32 rfl (by decide) 32003 (by decide) ?_
  refine w_irem rfl c11 (by decide) (by decide) ?_
  subst e_q12
  refine w_iast rfl g14 (Nat.ble_eq_true_of_le c16) c8 c7 c15 ?_
  refine w_iinc (ls' := [.index q3, r1, .index q12, vi x3, vi (x4 + 1), vl x5, t6, vi x7]) rfl rfl 1 (by decide) rfl ?_
  refine w_goto rfl ?_
  exact k

theorem k243_95 {P : s_P} {d : Nat} {Q : s_O → Prop} {h : s_H} {kc ks : Nat} {r0 r1 r2 : Term} {x3 x4 : Int} {t5 t6 t7 : Term}  (k : Q (.inl (some r2), h, kc, ks)) (y1 : s_ty r2 = 3 := by first | rfl | assumption)  : wr P d sw_c243 sw_h243 (95, [r0, r1, r2, vi x3, vi x4, t5, t6, t7], [], h, kc, ks) Q := by
  refine w_ld rfl rfl (Or.inr (Or.inr ⟨by decide, y1⟩)) ?_
  exact w_aret rfl y1 k

/-! 244: FormulaWorks$Series.raisedFrom([I)[I -/
theorem k244_0 {P : s_P} {d : Nat} {Q : s_O → Prop} {h : s_H} {kc ks : Nat} {r0 t1 t2 t3 t4 t5 : Term} {fc1 : s_C} {a4 : List Int} (g2 : s_get h (h).1 = some fc1) (g5 : s_get (hq h (0, 0, List.replicate (Int.toNat (25)) (.int 0))) h.1 = some (0, 0, a4.map vi)) (k : wr P d sw_c244 sw_h244 (11, [r0, .index h.1, vi 1, t3, t4, t5], [], (hp (hq h (0, 0, List.replicate (Int.toNat (25)) (.int 0))) h.1 (0, 0, (a4.set (Int.toNat (0)) 1).map vi)), (kc + 1), (ks + (Int.toNat (25)))) Q) (y3 : s_ty r0 = 3 := by first | rfl | assumption) (c6 : (0 : Int) < a4.length := by first | omega | assumption | (simp only [mk_len, List.length_map]; omega) | decide) (c7 : 0 < h.1 := by first | omega | assumption | (simp only [mk_len, List.length_map]; omega) | decide) : wr P d sw_c244 sw_h244 (0, [r0, t1, t2, t3, t4, t5], [], h, kc, ks) Q := by
  refine w_c32 rfl (by decide) 25 (by decide) ?_
  refine w_newa rfl (by decide) g2 (by decide) (by decide) (by decide) (.int 0) rfl ?_
  refine w_st (ls' := [r0, .index h.1, t2, t3, t4, t5]) rfl (Or.inr ⟨by decide, rfl⟩) (s_stK_r (pre := []) y3) ?_
  refine w_ld rfl rfl (Or.inr (Or.inr ⟨by decide, rfl⟩)) ?_
  refine w_c32 rfl (by decide) 0 (by decide) ?_
  refine w_c32 rfl (by decide) 1 (by decide) ?_
  refine w_iast rfl g5 (Nat.ble_eq_true_of_le c7) (by decide) (by decide) c6 ?_
  refine w_c32 rfl (by decide) 1 (by decide) ?_
  refine w_st (ls' := [r0, .index h.1, vi 1, t3, t4, t5]) rfl (Or.inl ⟨by decide, rfl⟩) rfl ?_
  exact k

theorem k244_11 {P : s_P} {d : Nat} {Q : s_O → Prop} {h : s_H} {kc ks : Nat} {r0 r1 : Term} {x2 : Int} {t3 t4 t5 : Term}  (k1 : 25 ≤ x2 → wr P d sw_c244 sw_h244 (80, [r0, r1, vi x2, t3, t4, t5], [], h, kc, ks) Q) (k2 : ¬ 25 ≤ x2 → wr P d sw_c244 sw_h244 (17, [r0, r1, vi x2, t3, t4, t5], [], h, kc, ks) Q)  (c1 : In3 x2 := by first | omega | assumption | (simp only [mk_len, List.length_map]; omega) | decide) : wr P d sw_c244 sw_h244 (11, [r0, r1, vi x2, t3, t4, t5], [], h, kc, ks) Q := by
  refine w_ld rfl rfl (Or.inl ⟨by decide, rfl⟩) ?_
  refine w_c32 rfl (by decide) 25 (by decide) ?_
  exact w_if2 rfl c1 (by decide) k1 k2

theorem k244_17 {P : s_P} {d : Nat} {Q : s_O → Prop} {h : s_H} {kc ks : Nat} {r0 r1 : Term} {x2 : Int} {t3 t4 t5 : Term}  (k : wr P d sw_c244 sw_h244 (22, [r0, r1, vi x2, vl 0, .result, vi 1], [], h, kc, ks) Q)   : wr P d sw_c244 sw_h244 (17, [r0, r1, vi x2, t3, t4, t5], [], h, kc, ks) Q := by
  refine w_c64 rfl (by decide) 0 (by decide) ?_
  refine w_stl (ls' := [r0, r1, vi x2, vl 0, t4, t5]) (ls'' := [r0, r1, vi x2, vl 0, .result, t5]) rfl ⟨by decide, rfl⟩ rfl rfl ?_
  refine w_c32 rfl (by decide) 1 (by decide) ?_
  refine w_st (ls' := [r0, r1, vi x2, vl 0, .result, vi 1]) rfl (Or.inl ⟨by decide, rfl⟩) rfl ?_
  exact k

theorem k244_22 {P : s_P} {d : Nat} {Q : s_O → Prop} {h : s_H} {kc ks : Nat} {r0 r1 : Term} {x2 x3 : Int} {t4 : Term} {x5 : Int}  (k1 : x2 < x5 → wr P d sw_c244 sw_h244 (56, [r0, r1, vi x2, vl x3, t4, vi x5], [], h, kc, ks) Q) (k2 : ¬ x2 < x5 → wr P d sw_c244 sw_h244 (28, [r0, r1, vi x2, vl x3, t4, vi x5], [], h, kc, ks) Q)  (c1 : In3 x5 := by first | omega | assumption | (simp only [mk_len, List.length_map]; omega) | decide) (c2 : In3 x2 := by first | omega | assumption | (simp only [mk_len, List.length_map]; omega) | decide) : wr P d sw_c244 sw_h244 (22, [r0, r1, vi x2, vl x3, t4, vi x5], [], h, kc, ks) Q := by
  refine w_ld rfl rfl (Or.inl ⟨by decide, rfl⟩) ?_
  refine w_ld rfl rfl (Or.inl ⟨by decide, rfl⟩) ?_
  exact w_if2 rfl c1 c2 k1 k2

theorem k244_28 {P : s_P} {d : Nat} {Q : s_O → Prop} {h : s_H} {kc ks : Nat} {r0 r1 : Term} {x2 x3 : Int} {t4 : Term} {x5 : Int} {q2 : Nat} {a3 : List Int} {q10 : Nat} {a11 : List Int} (g4 : s_get h q2 = some (0, 0, a3.map vi)) (g12 : s_get h q10 = some (0, 0, a11.map vi)) (k : wr P d sw_c244 sw_h244 (22, [.index q2, .index q10, vi x2, vl (x3 + ((Int.tmod ((gi a3 x5) * x5) 32003) * (gi a11 (x2 - x5)))), .result, vi (x5 + 1)], [], h, kc, ks) Q) (e_q2 : r0 = .index q2 := by first | rfl | assumption) (e_q10 : r1 = .index q10 := by first | rfl | assumption) (y1 : s_ty r0 = 3 := by first | rfl | assumption) (y9 : s_ty r1 = 3 := by first | rfl | assumption) (c5 : x5 < a3.length := by first | omega | assumption | (simp only [mk_len, List.length_map]; omega) | decide) (c6 : 0 ≤ x5 := by first | omega | assumption | (simp only [mk_len, List.length_map]; omega) | decide) (c7 : In3 x5 := by first | omega | assumption | (simp only [mk_len, List.length_map]; omega) | decide) (c8 : In3 ((gi a3 x5) * x5) := by first | omega | assumption | (simp only [mk_len, List.length_map]; omega) | decide) (c13 : x2 - x5 < a11.length := by first | omega | assumption | (simp only [mk_len, List.length_map]; omega) | decide) (c14 : 0 ≤ x2 - x5 := by first | omega | assumption | (simp only [mk_len, List.length_map]; omega) | decide) (c15 : In3 (x2 - x5) := by first | omega | assumption | (simp only [mk_len, List.length_map]; omega) | decide) (c16 : In3 ((Int.tmod ((gi a3 x5) * x5) 32003) * (gi a11 (x2 - x5))) := by first | omega | assumption | (simp only [mk_len, List.length_map]; omega) | decide) : wr P d sw_c244 sw_h244 (28, [r0, r1, vi x2, vl x3, t4, vi x5], [], h, kc, ks) Q := by
  refine w_ld rfl rfl (Or.inr (Or.inl ⟨by decide, rfl⟩)) ?_
  refine w_ld rfl rfl (Or.inr (Or.inr ⟨by decide, y1⟩)) ?_
  refine w_ld rfl rfl (Or.inl ⟨by decide, rfl⟩) ?_
  subst e_q2
  refine w_iald rfl g4 (Or.inl rfl) c7 c6 c5 ?_
  refine w_ld rfl rfl (Or.inl ⟨by decide, rfl⟩) ?_
  refine w_imul rfl ?_
  refine w_c32 rfl (by decide) 32003 (by decide) ?_
  refine w_irem rfl c8 (by decide) (by decide) ?_
  refine w_ld rfl rfl (Or.inr (Or.inr ⟨by decide, y9⟩)) ?_
  refine w_ld rfl rfl (Or.inl ⟨by decide, rfl⟩) ?_
  refine w_ld rfl rfl (Or.inl ⟨by decide, rfl⟩) ?_
  refine w_isub rfl ?_
  subst e_q10
  refine w_iald rfl g12 (Or.inl rfl) c15 c14 c13 ?_
  refine w_imul rfl ?_
  refine w_i2l rfl c16 ?_
  refine w_ladd rfl ?_
  refine w_stl (ls' := [.index q2, .index q10, vi x2, vl (x3 + ((Int.tmod ((gi a3 x5) * x5) 32003) * (gi a11 (x2 - x5)))), t4, vi x5]) (ls'' := [.index q2, .index q10, vi x2, vl (x3 + ((Int.tmod ((gi a3 x5) * x5) 32003) * (gi a11 (x2 - x5)))), .result, vi x5]) rfl ⟨by decide, rfl⟩ rfl rfl ?_
  refine w_iinc (ls' := [.index q2, .index q10, vi x2, vl (x3 + ((Int.tmod ((gi a3 x5) * x5) 32003) * (gi a11 (x2 - x5)))), .result, vi (x5 + 1)]) rfl rfl 1 (by decide) rfl ?_
  refine w_goto rfl ?_
  exact k

theorem k244_56 {P : s_P} {d : Nat} {Q : s_O → Prop} {h : s_H} {kc ks : Nat} {r0 r1 : Term} {x2 x3 : Int} {t4 : Term} {x5 : Int}  (k : wm P d 168 [vi x2] h (wq P d sw_c244 sw_h244 68 [r0, r1, vi x2, vl x3, t4, vi x5] [vi (Int.tmod x3 32003), vi x2, r1] kc ks Q)) (y1 : s_ty r1 = 3 := by first | rfl | assumption) (c2 : In6 x3 := by first | omega | assumption | (simp only [mk_len, List.length_map]; omega) | decide) : wr P d sw_c244 sw_h244 (56, [r0, r1, vi x2, vl x3, t4, vi x5], [], h, kc, ks) Q := by
  refine w_ld rfl rfl (Or.inr (Or.inr ⟨by decide, y1⟩)) ?_
  refine w_ld rfl rfl (Or.inl ⟨by decide, rfl⟩) ?_
  refine w_ld rfl rfl (Or.inr (Or.inl ⟨by decide, rfl⟩)) ?_
  refine w_c64 rfl (by decide) 32003 (by decide) ?_
  refine w_lrem rfl c2 (by decide) (by decide) ?_
  refine w_l2i rfl ?_
  refine w_ld rfl rfl (Or.inl ⟨by decide, rfl⟩) ?_
  exact w_cs rfl [vi x2] [vi (Int.tmod x3 32003), vi x2, r1] rfl rfl (s_wt_4 rfl) k

theorem k244_68 {P : s_P} {d : Nat} {Q : s_O → Prop} {h : s_H} {kc ks : Nat} {r0 r1 : Term} {x2 x3 : Int} {t4 : Term} {x5 : Int} {s0 : Term} {s1 s2 s3 : Int} {q2 : Nat} {a3 : List Int} (g4 : s_get h q2 = some (0, 0, a3.map vi)) (k : wr P d sw_c244 sw_h244 (11, [r0, r1, vi (x2 + 1), vl x3, t4, vi x5], [], (hp h q2 (0, 0, (a3.set (Int.toNat (s1)) (Int.tmod (s2 * s3) 32003)).map vi)), kc, ks) Q) (e_q2 : s0 = .index q2 := by first | rfl | assumption) (y9 : s_ty r1 = 3 := by first | rfl | assumption) (c1 : In3 (s2 * s3) := by first | omega | assumption | (simp only [mk_len, List.length_map]; omega) | decide) (c5 : s1 < a3.length := by first | omega | assumption | (simp only [mk_len, List.length_map]; omega) | decide) (c6 : 0 ≤ s1 := by first | omega | assumption | (simp only [mk_len, List.length_map]; omega) | decide) (c7 : In3 s1 := by first | omega | assumption | (simp only [mk_len, List.length_map]; omega) | decide) (c8 : 0 < q2 := by first | omega | assumption | (simp only [mk_len, List.length_map]; omega) | decide) : wr P d sw_c244 sw_h244 (68, [r0, r1, vi x2, vl x3, t4, vi x5], [vi s3, vi s2, vi s1, s0], h, kc, ks) Q := by
  refine w_imul rfl ?_
  refine w_c32 rfl (by decide) 32003 (by decide) ?_
  refine w_irem rfl c1 (by decide) (by decide) ?_
  subst e_q2
  refine w_iast rfl g4 (Nat.ble_eq_true_of_le c8) c7 c6 c5 ?_
  refine w_iinc (ls' := [r0, r1, vi (x2 + 1), vl x3, t4, vi x5]) rfl rfl 1 (by decide) (s_stK_r (pre := [r0]) y9) ?_
  refine w_goto rfl ?_
  exact k

theorem k244_80 {P : s_P} {d : Nat} {Q : s_O → Prop} {h : s_H} {kc ks : Nat} {r0 r1 : Term} {x2 : Int} {t3 t4 t5 : Term}  (k : Q (.inl (some r1), h, kc, ks)) (y1 : s_ty r1 = 3 := by first | rfl | assumption)  : wr P d sw_c244 sw_h244 (80, [r0, r1, vi x2, t3, t4, t5], [], h, kc, ks) Q := by
  refine w_ld rfl rfl (Or.inr (Or.inr ⟨by decide, y1⟩)) ?_
  exact w_aret rfl y1 k

/-! 245: FormulaWorks$Series.reversed([I)[I -/
theorem k245_0 {P : s_P} {d : Nat} {Q : s_O → Prop} {h : s_H} {kc ks : Nat} {r0 t1 t2 t3 t4 t5 t6 : Term} {fc1 fc4 : s_C} {a6 : List Int} (g2 : s_get h (h).1 = some fc1) (g5 : s_get (hq h (0, 0, List.replicate (Int.toNat (25)) (.int 0))) ((hq h (0, 0, List.replicate (Int.toNat (25)) (.int 0)))).1 = some fc4) (g7 : s_get (hq (hq h (0, 0, List.replicate (Int.toNat (25)) (.int 0))) (0, 0, List.replicate (Int.toNat (25)) (.int 0))) (((hq h (0, 0, List.replicate (Int.toNat (25)) (.int 0)))).1) = some (0, 0, a6.map vi)) (k : wm P d 629 [r0, vi 1, vi 26] (hp (hq (hq h (0, 0, List.replicate (Int.toNat (25)) (.int 0))) (0, 0, List.replicate (Int.toNat (25)) (.int 0))) (((hq h (0, 0, List.replicate (Int.toNat (25)) (.int 0)))).1) (0, 0, (a6.set (Int.toNat (0)) 1).map vi)) (wq P d sw_c245 sw_h245 21 [r0, .index h.1, .index ((hq h (0, 0, List.replicate (Int.toNat (25)) (.int 0)))).1, t3, t4, t5, t6] [] ((kc + 1) + 1) ((ks + (Int.toNat (25))) + (Int.toNat (25))) Q)) (y3 : s_ty r0 = 3 := by first | rfl | assumption) (c8 : (0 : Int) < a6.length := by first | omega | assumption | (simp only [mk_len, List.length_map]; omega) | decide) (c9 : 0 < ((hq h (0, 0, List.replicate (Int.toNat (25)) (.int 0)))).1 := by first | omega | assumption | (simp only [mk_len, List.length_map]; omega) | decide) : wr P d sw_c245 sw_h245 (0, [r0, t1, t2, t3, t4, t5, t6], [], h, kc, ks) Q := by
  refine w_c32 rfl (by decide) 25 (by decide) ?_
  refine w_newa rfl (by decide) g2 (by decide) (by decide) (by decide) (.int 0) rfl ?_
  refine w_st (ls' := [r0, .index h.1, t2, t3, t4, t5, t6]) rfl (Or.inr ⟨by decide, rfl⟩) (s_stK_r (pre := []) y3) ?_
  refine w_c32 rfl (by decide) 25 (by decide) ?_
  refine w_newa rfl (by decide) g5 (by decide) (by decide) (by decide) (.int 0) rfl ?_
  refine w_st (ls' := [r0, .index h.1, .index ((hq h (0, 0, List.replicate (Int.toNat (25)) (.int 0)))).1, t3, t4, t5, t6]) rfl (Or.inr ⟨by decide, rfl⟩) rfl ?_
  refine w_ld rfl rfl (Or.inr (Or.inr ⟨by decide, rfl⟩)) ?_
  refine w_c32 rfl (by decide) 0 (by decide) ?_
  refine w_c32 rfl (by decide) 1 (by decide) ?_
  refine w_iast rfl g7 (Nat.ble_eq_true_of_le c9) (by decide) (by decide) c8 ?_
  refine w_ld rfl rfl (Or.inr (Or.inr ⟨by decide, y3⟩)) ?_
  refine w_c32 rfl (by decide) 1 (by decide) ?_
  refine w_c32 rfl (by decide) 26 (by decide) ?_
  exact w_cs rfl [r0, vi 1, vi 26] [] rfl rfl (s_wt_4 rfl) k

theorem k245_21 {P : s_P} {d : Nat} {Q : s_O → Prop} {h : s_H} {kc ks : Nat} {r0 r1 r2 t3 t4 t5 t6 s0 : Term}  (k : wm P d 243 [r2, s0] h (wq P d sw_c245 sw_h245 27 [r0, r1, r2, s0, t4, t5, t6] [] kc ks Q)) (y1 : s_ty r2 = 3 := by first | rfl | assumption) (y2 : s_ty s0 = 3 := by first | rfl | assumption)  : wr P d sw_c245 sw_h245 (21, [r0, r1, r2, t3, t4, t5, t6], [s0], h, kc, ks) Q := by
  refine w_st (ls' := [r0, r1, r2, s0, t4, t5, t6]) rfl (Or.inr ⟨by decide, y2⟩) (s_stK_r (pre := [r0, r1]) y1) ?_
  refine w_ld rfl rfl (Or.inr (Or.inr ⟨by decide, y1⟩)) ?_
  refine w_ld rfl rfl (Or.inr (Or.inr ⟨by decide, y2⟩)) ?_
  exact w_cs rfl [r2, s0] [] rfl rfl (s_wt_4 rfl) k

theorem k245_27 {P : s_P} {d : Nat} {Q : s_O → Prop} {h : s_H} {kc ks : Nat} {r0 r1 r2 r3 t4 t5 t6 s0 : Term}  (k : wr P d sw_c245 sw_h245 (36, [r0, r1, r2, r3, s0, s0, vi 1], [], h, kc, ks) Q) (y1 : s_ty r3 = 3 := by first | rfl | assumption) (y2 : s_ty s0 = 3 := by first | rfl | assumption)  : wr P d sw_c245 sw_h245 (27, [r0, r1, r2, r3, t4, t5, t6], [s0], h, kc, ks) Q := by
  refine w_st (ls' := [r0, r1, r2, r3, s0, t5, t6]) rfl (Or.inr ⟨by decide, y2⟩) (s_stK_r (pre := [r0, r1, r2]) y1) ?_
  refine w_ld rfl rfl (Or.inr (Or.inr ⟨by decide, y2⟩)) ?_
  refine w_st (ls' := [r0, r1, r2, r3, s0, s0, t6]) rfl (Or.inr ⟨by decide, y2⟩) (s_stK_r (pre := [r0, r1, r2, r3]) y2) ?_
  refine w_c32 rfl (by decide) 1 (by decide) ?_
  refine w_st (ls' := [r0, r1, r2, r3, s0, s0, vi 1]) rfl (Or.inl ⟨by decide, rfl⟩) (s_stK_r (pre := [r0, r1, r2, r3, s0]) y2) ?_
  exact k

theorem k245_36 {P : s_P} {d : Nat} {Q : s_O → Prop} {h : s_H} {kc ks : Nat} {r0 r1 r2 r3 r4 r5 : Term} {x6 : Int}  (k1 : 25 ≤ x6 → wr P d sw_c245 sw_h245 (79, [r0, r1, r2, r3, r4, r5, vi x6], [], h, kc, ks) Q) (k2 : ¬ 25 ≤ x6 → wr P d sw_c245 sw_h245 (43, [r0, r1, r2, r3, r4, r5, vi x6], [], h, kc, ks) Q)  (c1 : In3 x6 := by first | omega | assumption | (simp only [mk_len, List.length_map]; omega) | decide) : wr P d sw_c245 sw_h245 (36, [r0, r1, r2, r3, r4, r5, vi x6], [], h, kc, ks) Q := by
  refine w_ld rfl rfl (Or.inl ⟨by decide, rfl⟩) ?_
  refine w_c32 rfl (by decide) 25 (by decide) ?_
  exact w_if2 rfl c1 (by decide) k1 k2

theorem k245_43 {P : s_P} {d : Nat} {Q : s_O → Prop} {h : s_H} {kc ks : Nat} {r0 r1 r2 r3 r4 r5 : Term} {x6 : Int} {q3 : Nat} {a4 : List Int} (g5 : s_get h q3 = some (0, 0, a4.map vi)) (k : wm P d 168 [vi x6] h (wq P d sw_c245 sw_h245 58 [r0, r1, r2, r3, r4, .index q3, vi x6] [vi (gi a4 (x6 - 1)), vi x6, r1] kc ks Q)) (e_q3 : r5 = .index q3 := by first | rfl | assumption) (y1 : s_ty r1 = 3 := by first | rfl | assumption) (y2 : s_ty r5 = 3 := by first | rfl | assumption) (c6 : x6 - 1 < a4.length := by first | omega | assumption | (simp only [mk_len, List.length_map]; omega) | decide) (c7 : 0 ≤ x6 - 1 := by first | omega | assumption | (simp only [mk_len, List.length_map]; omega) | decide) (c8 : In3 (x6 - 1) := by first | omega | assumption | (simp only [mk_len, List.length_map]; omega) | decide) : wr P d sw_c245 sw_h245 (43, [r0, r1, r2, r3, r4, r5, vi x6], [], h, kc, ks) Q := by
  refine w_ld rfl rfl (Or.inr (Or.inr ⟨by decide, y1⟩)) ?_
  refine w_ld rfl rfl (Or.inl ⟨by decide, rfl⟩) ?_
  refine w_ld rfl rfl (Or.inr (Or.inr ⟨by decide, y2⟩)) ?_
  refine w_ld rfl rfl (Or.inl ⟨by decide, rfl⟩) ?_
  refine w_c32 rfl (by decide) 1 (by decide) ?_
  refine w_isub rfl ?_
  subst e_q3
  refine w_iald rfl g5 (Or.inl rfl) c8 c7 c6 ?_
  refine w_ld rfl rfl (Or.inl ⟨by decide, rfl⟩) ?_
  exact w_cs rfl [vi x6] [vi (gi a4 (x6 - 1)), vi x6, r1] rfl rfl (s_wt_4 rfl) k

theorem k245_58 {P : s_P} {d : Nat} {Q : s_O → Prop} {h : s_H} {kc ks : Nat} {r0 r1 r2 r3 r4 r5 : Term} {x6 : Int} {s0 : Term} {s1 s2 s3 : Int} {q2 : Nat} {a3 : List Int} (g4 : s_get h q2 = some (0, 0, a3.map vi)) (k : wm P d 242 [r5, r4] (hp h q2 (0, 0, (a3.set (Int.toNat (s1)) (Int.tmod (s2 * s3) 32003)).map vi)) (wq P d sw_c245 sw_h245 71 [r0, r1, r2, r3, r4, r5, vi x6] [] kc ks Q)) (e_q2 : s0 = .index q2 := by first | rfl | assumption) (y9 : s_ty r5 = 3 := by first | rfl | assumption) (y10 : s_ty r4 = 3 := by first | rfl | assumption) (c1 : In3 (s2 * s3) := by first | omega | assumption | (simp only [mk_len, List.length_map]; omega) | decide) (c5 : s1 < a3.length := by first | omega | assumption | (simp only [mk_len, List.length_map]; omega) | decide) (c6 : 0 ≤ s1 := by first | omega | assumption | (simp only [mk_len, List.length_map]; omega) | decide) (c7 : In3 s1 := by first | omega | assumption | (simp only [mk_len, List.length_map]; omega) | decide) (c8 : 0 < q2 := by first | omega | assumption | (simp only [mk_len, List.length_map]; omega) | decide) : wr P d sw_c245 sw_h245 (58, [r0, r1, r2, r3, r4, r5, vi x6], [vi s3, vi s2, vi s1, s0], h, kc, ks) Q := by
  refine w_imul rfl ?_
  refine w_c32 rfl (by decide) 32003 (by decide) ?_
  refine w_irem rfl c1 (by decide) (by decide) ?_
  subst e_q2
  refine w_iast rfl g4 (Nat.ble_eq_true_of_le c8) c7 c6 c5 ?_
  refine w_ld rfl rfl (Or.inr (Or.inr ⟨by decide, y9⟩)) ?_
  refine w_ld rfl rfl (Or.inr (Or.inr ⟨by decide, y10⟩)) ?_
  exact w_cs rfl [r5, r4] [] rfl rfl (s_wt_4 rfl) k

theorem k245_71 {P : s_P} {d : Nat} {Q : s_O → Prop} {h : s_H} {kc ks : Nat} {r0 r1 r2 r3 r4 r5 : Term} {x6 : Int} {s0 : Term}  (k : wr P d sw_c245 sw_h245 (36, [r0, r1, r2, r3, r4, s0, vi (x6 + 1)], [], h, kc, ks) Q) (y1 : s_ty r4 = 3 := by first | rfl | assumption) (y2 : s_ty s0 = 3 := by first | rfl | assumption)  : wr P d sw_c245 sw_h245 (71, [r0, r1, r2, r3, r4, r5, vi x6], [s0], h, kc, ks) Q := by
  refine w_st (ls' := [r0, r1, r2, r3, r4, s0, vi x6]) rfl (Or.inr ⟨by decide, y2⟩) (s_stK_r (pre := [r0, r1, r2, r3]) y1) ?_
  refine w_iinc (ls' := [r0, r1, r2, r3, r4, s0, vi (x6 + 1)]) rfl rfl 1 (by decide) (s_stK_r (pre := [r0, r1, r2, r3, r4]) y2) ?_
  refine w_goto rfl ?_
  exact k

theorem k245_79 {P : s_P} {d : Nat} {Q : s_O → Prop} {h : s_H} {kc ks : Nat} {r0 r1 r2 r3 r4 r5 : Term} {x6 : Int}  (k : Q (.inl (some r1), h, kc, ks)) (y1 : s_ty r1 = 3 := by first | rfl | assumption)  : wr P d sw_c245 sw_h245 (79, [r0, r1, r2, r3, r4, r5, vi x6], [], h, kc, ks) Q := by
  refine w_ld rfl rfl (Or.inr (Or.inr ⟨by decide, y1⟩)) ?_
  exact w_aret rfl y1 k

/-! 246: FormulaWorks$Series.rootFrom([II)[I -/
theorem k246_0 {P : s_P} {d : Nat} {Q : s_O → Prop} {h : s_H} {kc ks : Nat} {r0 : Term} {x1 : Int} {t2 t3 t4 t5 t6 t7 : Term} {fc1 : s_C} {a3 : List Int} (g2 : s_get h (h).1 = some fc1) (g4 : s_get (hq h (0, 0, List.replicate (Int.toNat (25)) (.int 0))) h.1 = some (0, 0, a3.map vi)) (k : wm P d 168 [vi (Int.tmod (2 * x1) 32003)] (hp (hq h (0, 0, List.replicate (Int.toNat (25)) (.int 0))) h.1 (0, 0, (a3.set (Int.toNat (0)) x1).map vi)) (wq P d sw_c246 sw_h246 19 [r0, vi x1, .index h.1, t3, t4, t5, t6, t7] [] (kc + 1) (ks + (Int.toNat (25))) Q))  (c5 : (0 : Int) < a3.length := by first | omega | assumption | (simp only [mk_len, List.length_map]; omega) | decide) (c6 : 0 < h.1 := by first | omega | assumption | (simp only [mk_len, List.length_map]; omega) | decide) (c7 : In3 (2 * x1) := by first | omega | assumption | (simp only [mk_len, List.length_map]; omega) | decide) : wr P d sw_c246 sw_h246 (0, [r0, vi x1, t2, t3, t4, t5, t6, t7], [], h, kc, ks) Q := by
  refine w_c32 rfl (by decide) 25 (by decide) ?_
  refine w_newa rfl (by decide) g2 (by decide) (by decide) (by decide) (.int 0) rfl ?_
  refine w_st (ls' := [r0, vi x1, .index h.1, t3, t4, t5, t6, t7]) rfl (Or.inr ⟨by decide, rfl⟩) rfl ?_
  refine w_ld rfl rfl (Or.inr (Or.inr ⟨by decide, rfl⟩)) ?_
  refine w_c32 rfl (by decide) 0 (by decide) ?_
  refine w_ld rfl rfl (Or.inl ⟨by decide, rfl⟩) ?_
  refine w_iast rfl g4 (Nat.ble_eq_true_of_le c6) (by decide) (by decide) c5 ?_
  refine w_c32 rfl (by decide) 2 (by decide) ?_
  refine w_ld rfl rfl (Or.inl ⟨by decide, rfl⟩) ?_
  refine w_imul rfl ?_
  refine w_c32 rfl (by decide) 32003 (by decide) ?_
  refine w_irem rfl c7 (by decide) (by decide) ?_
  exact w_cs rfl [vi (Int.tmod (2 * x1) 32003)] [] rfl rfl (s_wt_4 rfl) k

theorem k246_19 {P : s_P} {d : Nat} {Q : s_O → Prop} {h : s_H} {kc ks : Nat} {r0 : Term} {x1 : Int} {r2 t3 t4 t5 t6 t7 : Term} {s0 : Int}  (k : wr P d sw_c246 sw_h246 (23, [r0, vi x1, r2, vi s0, vi 1, t5, t6, t7], [], h, kc, ks) Q) (y1 : s_ty r2 = 3 := by first | rfl | assumption)  : wr P d sw_c246 sw_h246 (19, [r0, vi x1, r2, t3, t4, t5, t6, t7], [vi s0], h, kc, ks) Q := by
  refine w_st (ls' := [r0, vi x1, r2, vi s0, t4, t5, t6, t7]) rfl (Or.inl ⟨by decide, rfl⟩) (s_stK_r (pre := [r0, vi x1]) y1) ?_
  refine w_c32 rfl (by decide) 1 (by decide) ?_
  refine w_st (ls' := [r0, vi x1, r2, vi s0, vi 1, t5, t6, t7]) rfl (Or.inl ⟨by decide, rfl⟩) rfl ?_
  exact k

theorem k246_23 {P : s_P} {d : Nat} {Q : s_O → Prop} {h : s_H} {kc ks : Nat} {r0 : Term} {x1 : Int} {r2 : Term} {x3 x4 : Int} {t5 t6 t7 : Term}  (k1 : 25 ≤ x4 → wr P d sw_c246 sw_h246 (103, [r0, vi x1, r2, vi x3, vi x4, t5, t6, t7], [], h, kc, ks) Q) (k2 : ¬ 25 ≤ x4 → wr P d sw_c246 sw_h246 (30, [r0, vi x1, r2, vi x3, vi x4, t5, t6, t7], [], h, kc, ks) Q)  (c1 : In3 x4 := by first | omega | assumption | (simp only [mk_len, List.length_map]; omega) | decide) : wr P d sw_c246 sw_h246 (23, [r0, vi x1, r2, vi x3, vi x4, t5, t6, t7], [], h, kc, ks) Q := by
  refine w_ld rfl rfl (Or.inl ⟨by decide, rfl⟩) ?_
  refine w_c32 rfl (by decide) 25 (by decide) ?_
  exact w_if2 rfl c1 (by decide) k1 k2

theorem k246_30 {P : s_P} {d : Nat} {Q : s_O → Prop} {h : s_H} {kc ks : Nat} {r0 : Term} {x1 : Int} {r2 : Term} {x3 x4 : Int} {t5 t6 t7 : Term}  (k : wr P d sw_c246 sw_h246 (36, [r0, vi x1, r2, vi x3, vi x4, vl 0, .result, vi 1], [], h, kc, ks) Q)   : wr P d sw_c246 sw_h246 (30, [r0, vi x1, r2, vi x3, vi x4, t5, t6, t7], [], h, kc, ks) Q := by
  refine w_c64 rfl (by decide) 0 (by decide) ?_
  refine w_stl (ls' := [r0, vi x1, r2, vi x3, vi x4, vl 0, t6, t7]) (ls'' := [r0, vi x1, r2, vi x3, vi x4, vl 0, .result, t7]) rfl ⟨by decide, rfl⟩ rfl rfl ?_
  refine w_c32 rfl (by decide) 1 (by decide) ?_
  refine w_st (ls' := [r0, vi x1, r2, vi x3, vi x4, vl 0, .result, vi 1]) rfl (Or.inl ⟨by decide, rfl⟩) rfl ?_
  exact k

theorem k246_36 {P : s_P} {d : Nat} {Q : s_O → Prop} {h : s_H} {kc ks : Nat} {r0 : Term} {x1 : Int} {r2 : Term} {x3 x4 x5 : Int} {t6 : Term} {x7 : Int}  (k1 : x4 ≤ x7 → wr P d sw_c246 sw_h246 (67, [r0, vi x1, r2, vi x3, vi x4, vl x5, t6, vi x7], [], h, kc, ks) Q) (k2 : ¬ x4 ≤ x7 → wr P d sw_c246 sw_h246 (43, [r0, vi x1, r2, vi x3, vi x4, vl x5, t6, vi x7], [], h, kc, ks) Q)  (c1 : In3 x7 := by first | omega | assumption | (simp only [mk_len, List.length_map]; omega) | decide) (c2 : In3 x4 := by first | omega | assumption | (simp only [mk_len, List.length_map]; omega) | decide) : wr P d sw_c246 sw_h246 (36, [r0, vi x1, r2, vi x3, vi x4, vl x5, t6, vi x7], [], h, kc, ks) Q := by
  refine w_ld rfl rfl (Or.inl ⟨by decide, rfl⟩) ?_
  refine w_ld rfl rfl (Or.inl ⟨by decide, rfl⟩) ?_
  exact w_if2 rfl c1 c2 k1 k2

theorem k246_43 {P : s_P} {d : Nat} {Q : s_O → Prop} {h : s_H} {kc ks : Nat} {r0 : Term} {x1 : Int} {r2 : Term} {x3 x4 x5 : Int} {t6 : Term} {x7 : Int} {q2 : Nat} {a3 : List Int} (g4 : s_get h q2 = some (0, 0, a3.map vi)) (k : wr P d sw_c246 sw_h246 (36, [r0, vi x1, .index q2, vi x3, vi x4, vl (x5 + ((gi a3 x7) * (gi a3 (x4 - x7)))), .result, vi (x7 + 1)], [], h, kc, ks) Q) (e_q2 : r2 = .index q2 := by first | rfl | assumption) (y1 : s_ty r2 = 3 := by first | rfl | assumption) (c5 : x7 < a3.length := by first | omega | assumption | (simp only [mk_len, List.length_map]; omega) | decide) (c6 : 0 ≤ x7 := by first | omega | assumption | (simp only [mk_len, List.length_map]; omega) | decide) (c7 : In3 x7 := by first | omega | assumption | (simp only [mk_len, List.length_map]; omega) | decide) (c8 : x4 - x7 < a3.length := by first | omega | assumption | (simp only [mk_len, List.length_map]; omega) | decide) (c9 : 0 ≤ x4 - x7 := by first | omega | assumption | (simp only [mk_len, List.length_map]; omega) | decide) (c10 : In3 (x4 - x7) := by first | omega | assumption | (simp only [mk_len, List.length_map]; omega) | decide) (c11 : In3 ((gi a3 x7) * (gi a3 (x4 - x7))) := by first | omega | assumption | (simp only [mk_len, List.length_map]; omega) | decide) : wr P d sw_c246 sw_h246 (43, [r0, vi x1, r2, vi x3, vi x4, vl x5, t6, vi x7], [], h, kc, ks) Q := by
  refine w_ld rfl rfl (Or.inr (Or.inl ⟨by decide, rfl⟩)) ?_
  refine w_ld rfl rfl (Or.inr (Or.inr ⟨by decide, y1⟩)) ?_
  refine w_ld rfl rfl (Or.inl ⟨by decide, rfl⟩) ?_
  subst e_q2
  refine w_iald rfl g4 (Or.inl rfl) c7 c6 c5 ?_
  refine w_ld rfl rfl (Or.inr (Or.inr ⟨by decide, rfl⟩)) ?_
  refine w_ld rfl rfl (Or.inl ⟨by decide, rfl⟩) ?_
  refine w_ld rfl rfl (Or.inl ⟨by decide, rfl⟩) ?_
  refine w_isub rfl ?_
  refine w_iald rfl g4 (Or.inl rfl) c10 c9 c8 ?_
  refine w_imul rfl ?_
  refine w_i2l rfl c11 ?_
  refine w_ladd rfl ?_
  refine w_stl (ls' := [r0, vi x1, .index q2, vi x3, vi x4, vl (x5 + ((gi a3 x7) * (gi a3 (x4 - x7)))), t6, vi x7]) (ls'' := [r0, vi x1, .index q2, vi x3, vi x4, vl (x5 + ((gi a3 x7) * (gi a3 (x4 - x7)))), .result, vi x7]) rfl ⟨by decide, rfl⟩ rfl rfl ?_
  refine w_iinc (ls' := [r0, vi x1, .index q2, vi x3, vi x4, vl (x5 + ((gi a3 x7) * (gi a3 (x4 - x7)))), .result, vi (x7 + 1)]) rfl rfl 1 (by decide) rfl ?_
  refine w_goto rfl ?_
  exact k

theorem k246_67 {P : s_P} {d : Nat} {Q : s_O → Prop} {h : s_H} {kc ks : Nat} {r0 : Term} {x1 : Int} {r2 : Term} {x3 x4 x5 : Int} {t6 : Term} {x7 : Int} {q3 : Nat} {a4 : List Int} {q12 : Nat} {a13 : List Int} (g5 : s_get h q3 = some (0, 0, a4.map vi)) (g14 : s_get h q12 = some (0, 0, a13.map vi)) (k : wr P d sw_c246 sw_h246 (23, [.index q3, vi x1, .index q12, vi x3, vi (x4 + 1), vl x5, t6, vi x7], [], (hp h q12 (0, 0, (a13.set (Int.toNat (x4)) (Int.tmod ((Int.tmod (((gi a4 x4) + 32003) - (Int.tmod x5 32003)) 32003) * x3) 32003)).map vi)), kc, ks) Q) (e_q3 : r0 = .index q3 := by first | rfl | assumption) (e_q12 : r2 = .index q12 := by first | rfl | assumption) (y1 : s_ty r2 = 3 := by first | rfl | assumption) (y2 : s_ty r0 = 3 := by first | rfl | assumption) (c6 : x4 < a4.length := by first | omega | assumption | (simp only [mk_len, List.length_map]; omega) | decide) (c7 : 0 ≤ x4 := by first | omega | assumption | (simp only [mk_len, List.length_map]; omega) | decide) (c8 : In3 x4 := by first | omega | assumption | (simp only [mk_len, List.length_map]; omega) | decide) (c9 : In6 x5 := by first | omega | assumption | (simp only [mk_len, List.length_map]; omega) | decide) (c10 : In3 (((gi a4 x4) + 32003) - (Int.tmod x5 32003)) := by first | omega | assumption | (simp only [mk_len, List.length_map]; omega) | decide) (c11 : In3 ((Int.tmod (((gi a4 x4) + 32003) - (Int.tmod x5 32003)) 32003) * x3) := by first | omega | assumption | (simp only [mk_len, List.length_map]; omega) | decide) (c15 : x4 < a13.length := by first | omega | assumption | (simp only [mk_len, List.length_map]; omega) | decide) (c16 : 0 < q12 := by first | omega | assumption | (simp only [mk_len, List.length_map]; omega) | decide) : wr P d sw_c246 sw_h246 (67, [r0, vi x1, r2, vi x3, vi x4, vl x5, t6, vi x7], [], h, kc, ks) Q := by
  refine w_ld rfl rfl (Or.inr (Or.inr ⟨by decide, y1⟩)) ?_
  refine w_ld rfl rfl (Or.inl ⟨by decide, rfl⟩) ?_
  refine w_ld rfl rfl (Or.inr (Or.inr ⟨by decide, y2⟩)) ?_
  refine w_ld rfl rfl (Or.inl ⟨by decide, rfl⟩) ?_
  subst e_q3
  refine w_iald rfl g5 (Or.inl rfl) c8 c7 c6 ?_
  refine w_c32 rfl (by decide) 32003 (by decide) ?_
  refine w_iadd rfl ?_
  refine w_ld rfl rfl (Or.inr (Or.inl ⟨by decide, rfl⟩)) ?_
  refine w_c64 rfl (by decide) 32003 (by decide) ?_
  refine w_lrem rfl c9 (by decide) (by decide) ?_
  refine w_l2i rfl ?_
  refine w_isub rfl ?_
  refine w_c32 rfl (by decide) 32003 (by decide) ?_
  refine w_irem rfl c10 (by decide) (by decide) ?_
  refine w_ld rfl rfl (Or.inl ⟨by decide, rfl⟩) ?_
  refine w_imul rfl ?_
  refine w_c32 rfl (by decide) 32003 (by decide) ?_
  refine w_irem rfl c11 (by decide) (by decide) ?_
  subst e_q12
  refine w_iast rfl g14 (Nat.ble_eq_true_of_le c16) c8 c7 c15 ?_
  refine w_iinc (ls' := [.index q3, vi x1, .index q12, vi x3, vi (x4 + 1), vl x5, t6, vi x7]) rfl rfl 1 (by decide) rfl ?_
  refine w_goto rfl ?_
  exact k

theorem k246_103 {P : s_P} {d : Nat} {Q : s_O → Prop} {h : s_H} {kc ks : Nat} {r0 : Term} {x1 : Int} {r2 : Term} {x3 x4 : Int} {t5 t6 t7 : Term}  (k : Q (.inl (some r2), h, kc, ks)) (y1 : s_ty r2 = 3 := by first | rfl | assumption)  : wr P d sw_c246 sw_h246 (103, [r0, vi x1, r2, vi x3, vi x4, t5, t6, t7], [], h, kc, ks) Q := by
  refine w_ld rfl rfl (Or.inr (Or.inr ⟨by decide, y1⟩)) ?_
  exact w_aret rfl y1 k

/-! 247: FormulaWorks$Series.slopeOf([I)[I -/
theorem k247_0 {P : s_P} {d : Nat} {Q : s_O → Prop} {h : s_H} {kc ks : Nat} {r0 t1 t2 : Term} {fc1 : s_C} (g2 : s_get h (h).1 = some fc1) (k : wr P d sw_c247 sw_h247 (7, [r0, .index h.1, vi 1], [], (hq h (0, 0, List.replicate (Int.toNat (25)) (.int 0))), (kc + 1), (ks + (Int.toNat (25)))) Q) (y3 : s_ty r0 = 3 := by first | rfl | assumption)  : wr P d sw_c247 sw_h247 (0, [r0, t1, t2], [], h, kc, ks) Q := by
  refine w_c32 rfl (by decide) 25 (by decide) ?_
  refine w_newa rfl (by decide) g2 (by decide) (by decide) (by decide) (.int 0) rfl ?_
  refine w_st (ls' := [r0, .index h.1, t2]) rfl (Or.inr ⟨by decide, rfl⟩) (s_stK_r (pre := []) y3) ?_
  refine w_c32 rfl (by decide) 1 (by decide) ?_
  refine w_st (ls' := [r0, .index h.1, vi 1]) rfl (Or.inl ⟨by decide, rfl⟩) rfl ?_
  exact k

theorem k247_7 {P : s_P} {d : Nat} {Q : s_O → Prop} {h : s_H} {kc ks : Nat} {r0 r1 : Term} {x2 : Int}  (k1 : 25 ≤ x2 → wr P d sw_c247 sw_h247 (33, [r0, r1, vi x2], [], h, kc, ks) Q) (k2 : ¬ 25 ≤ x2 → wr P d sw_c247 sw_h247 (13, [r0, r1, vi x2], [], h, kc, ks) Q)  (c1 : In3 x2 := by first | omega | assumption | (simp only [mk_len, List.length_map]; omega) | decide) : wr P d sw_c247 sw_h247 (7, [r0, r1, vi x2], [], h, kc, ks) Q := by
  refine w_ld rfl rfl (Or.inl ⟨by decide, rfl⟩) ?_
  refine w_c32 rfl (by decide) 25 (by decide) ?_
  exact w_if2 rfl c1 (by decide) k1 k2

theorem k247_13 {P : s_P} {d : Nat} {Q : s_O → Prop} {h : s_H} {kc ks : Nat} {r0 r1 : Term} {x2 : Int} {q3 : Nat} {a4 : List Int} {q10 : Nat} {a11 : List Int} (g5 : s_get h q3 = some (0, 0, a4.map vi)) (g12 : s_get h q10 = some (0, 0, a11.map vi)) (k : wr P d sw_c247 sw_h247 (7, [.index q3, .index q10, vi (x2 + 1)], [], (hp h q10 (0, 0, (a11.set (Int.toNat (x2 - 1)) (Int.tmod ((gi a4 x2) * x2) 32003)).map vi)), kc, ks) Q) (e_q3 : r0 = .index q3 := by first | rfl | assumption) (e_q10 : r1 = .index q10 := by first | rfl | assumption) (y1 : s_ty r1 = 3 := by first | rfl | assumption) (y2 : s_ty r0 = 3 := by first | rfl | assumption) (c6 : x2 < a4.length := by first | omega | assumption | (simp only [mk_len, List.length_map]; omega) | decide) (c7 : 0 ≤ x2 := by first | omega | assumption | (simp only [mk_len, List.length_map]; omega) | decide) (c8 : In3 x2 := by first | omega | assumption | (simp only [mk_len, List.length_map]; omega) | decide) (c9 : In3 ((gi a4 x2) * x2) := by first | omega | assumption | (simp only [mk_len, List.length_map]; omega) | decide) (c13 : x2 - 1 < a11.length := by first | omega | assumption | (simp only [mk_len, List.length_map]; omega) | decide) (c14 : 0 ≤ x2 - 1 := by first | omega | assumption | (simp only [mk_len, List.length_map]; omega) | decide) (c15 : In3 (x2 - 1) := by first | omega | assumption | (simp only [mk_len, List.length_map]; omega) | decide) (c16 : 0 < q10 := by first | omega | assumption | (simp only [mk_len, List.length_map]; omega) | decide) : wr P d sw_c247 sw_h247 (13, [r0, r1, vi x2], [], h, kc, ks) Q := by
  refine w_ld rfl rfl (Or.inr (Or.inr ⟨by decide, y1⟩)) ?_
  refine w_ld rfl rfl (Or.inl ⟨by decide, rfl⟩) ?_
  refine w_c32 rfl (by decide) 1 (by decide) ?_
  refine w_isub rfl ?_
  refine w_ld rfl rfl (Or.inr (Or.inr ⟨by decide, y2⟩)) ?_
  refine w_ld rfl rfl (Or.inl ⟨by decide, rfl⟩) ?_
  subst e_q3
  refine w_iald rfl g5 (Or.inl rfl) c8 c7 c6 ?_
  refine w_ld rfl rfl (Or.inl ⟨by decide, rfl⟩) ?_
  refine w_imul rfl ?_
  refine w_c32 rfl (by decide) 32003 (by decide) ?_
  refine w_irem rfl c9 (by decide) (by decide) ?_
  subst e_q10
  refine w_iast rfl g12 (Nat.ble_eq_true_of_le c16) c15 c14 c13 ?_
  refine w_iinc (ls' := [.index q3, .index q10, vi (x2 + 1)]) rfl rfl 1 (by decide) rfl ?_
  refine w_goto rfl ?_
  exact k

theorem k247_33 {P : s_P} {d : Nat} {Q : s_O → Prop} {h : s_H} {kc ks : Nat} {r0 r1 : Term} {x2 : Int}  (k : Q (.inl (some r1), h, kc, ks)) (y1 : s_ty r1 = 3 := by first | rfl | assumption)  : wr P d sw_c247 sw_h247 (33, [r0, r1, vi x2], [], h, kc, ks) Q := by
  refine w_ld rfl rfl (Or.inr (Or.inr ⟨by decide, y1⟩)) ?_
  exact w_aret rfl y1 k

/-! 248: FormulaWorks$Series.unrolled(LFormulaWorks$Thing;[I)[I -/
theorem k248_0 {P : s_P} {d : Nat} {Q : s_O → Prop} {h : s_H} {kc ks : Nat} {r0 r1 t2 t3 t4 t5 : Term} {fc1 : s_C} {q5 : Nat} {f6 : List Term} {z8 : Int} (g2 : s_get h (h).1 = some fc1) (g7 : s_get (hq h (0, 0, List.replicate (Int.toNat (25)) (.int 0))) q5 = some (1, 8, f6)) (k : wr P d sw_c248 sw_h248 (15, [.index q5, r1, .index h.1, vi (z8 - 1), vi 0, t5], [], (hq h (0, 0, List.replicate (Int.toNat (25)) (.int 0))), (kc + 1), (ks + (Int.toNat (25)))) Q) (e_q5 : r0 = .index q5 := by first | rfl | assumption) (y3 : s_ty r1 = 3 := by first | rfl | assumption) (y4 : s_ty r0 = 3 := by first | rfl | assumption) (n9 : s_nth f6 4 = some (vi z8) := by first | rfl | assumption)  : wr P d sw_c248 sw_h248 (0, [r0, r1, t2, t3, t4, t5], [], h, kc, ks) Q := by
  refine w_c32 rfl (by decide) 25 (by decide) ?_
  refine w_newa rfl (by decide) g2 (by decide) (by decide) (by decide) (.int 0) rfl ?_
  refine w_st (ls' := [r0, r1, .index h.1, t3, t4, t5]) rfl (Or.inr ⟨by decide, rfl⟩) (s_stK_r (pre := [r0]) y3) ?_
  refine w_ld rfl rfl (Or.inr (Or.inr ⟨by decide, y4⟩)) ?_
  subst e_q5
  refine w_getf rfl g7 n9 ?_
  refine w_c32 rfl (by decide) 1 (by decide) ?_
  refine w_isub rfl ?_
  refine w_st (ls' := [.index q5, r1, .index h.1, vi (z8 - 1), t4, t5]) rfl (Or.inl ⟨by decide, rfl⟩) rfl ?_
  refine w_c32 rfl (by decide) 0 (by decide) ?_
  refine w_st (ls' := [.index q5, r1, .index h.1, vi (z8 - 1), vi 0, t5]) rfl (Or.inl ⟨by decide, rfl⟩) rfl ?_
  exact k

theorem k248_15 {P : s_P} {d : Nat} {Q : s_O → Prop} {h : s_H} {kc ks : Nat} {r0 r1 r2 : Term} {x3 x4 : Int} {t5 : Term}  (k1 : x3 ≤ x4 → wr P d sw_c248 sw_h248 (42, [r0, r1, r2, vi x3, vi x4, t5], [], h, kc, ks) Q) (k2 : ¬ x3 ≤ x4 → wr P d sw_c248 sw_h248 (21, [r0, r1, r2, vi x3, vi x4, t5], [], h, kc, ks) Q)  (c1 : In3 x4 := by first | omega | assumption | (simp only [mk_len, List.length_map]; omega) | decide) (c2 : In3 x3 := by first | omega | assumption | (simp only [mk_len, List.length_map]; omega) | decide) : wr P d sw_c248 sw_h248 (15, [r0, r1, r2, vi x3, vi x4, t5], [], h, kc, ks) Q := by
  refine w_ld rfl rfl (Or.inl ⟨by decide, rfl⟩) ?_
  refine w_ld rfl rfl (Or.inl ⟨by decide, rfl⟩) ?_
  exact w_if2 rfl c1 c2 k1 k2

theorem k248_21 {P : s_P} {d : Nat} {Q : s_O → Prop} {h : s_H} {kc ks : Nat} {r0 r1 r2 : Term} {x3 x4 : Int} {t5 : Term}  (k1 : 25 ≤ x4 → wr P d sw_c248 sw_h248 (42, [r0, r1, r2, vi x3, vi x4, t5], [], h, kc, ks) Q) (k2 : ¬ 25 ≤ x4 → wr P d sw_c248 sw_h248 (28, [r0, r1, r2, vi x3, vi x4, t5], [], h, kc, ks) Q)  (c1 : In3 x4 := by first | omega | assumption | (simp only [mk_len, List.length_map]; omega) | decide) : wr P d sw_c248 sw_h248 (21, [r0, r1, r2, vi x3, vi x4, t5], [], h, kc, ks) Q := by
  refine w_ld rfl rfl (Or.inl ⟨by decide, rfl⟩) ?_
  refine w_c32 rfl (by decide) 25 (by decide) ?_
  exact w_if2 rfl c1 (by decide) k1 k2

theorem k248_28 {P : s_P} {d : Nat} {Q : s_O → Prop} {h : s_H} {kc ks : Nat} {r0 r1 r2 : Term} {x3 x4 : Int} {t5 : Term} {q3 : Nat} {a4 : List Int} {q9 : Nat} {a10 : List Int} (g5 : s_get h q3 = some (0, 0, a4.map vi)) (g11 : s_get h q9 = some (0, 0, a10.map vi)) (k : wr P d sw_c248 sw_h248 (15, [r0, .index q3, .index q9, vi x3, vi (x4 + 1), t5], [], (hp h q9 (0, 0, (a10.set (Int.toNat (x4)) (gi a4 x4)).map vi)), kc, ks) Q) (e_q3 : r1 = .index q3 := by first | rfl | assumption) (e_q9 : r2 = .index q9 := by first | rfl | assumption) (y1 : s_ty r2 = 3 := by first | rfl | assumption) (y2 : s_ty r1 = 3 := by first | rfl | assumption) (c6 : x4 < a4.length := by first | omega | assumption | (simp only [mk_len, List.length_map]; omega) | decide) (c7 : 0 ≤ x4 := by first | omega | assumption | (simp only [mk_len, List.length_map]; omega) | decide) (c8 : In3 x4 := by first | omega | assumption | (simp only [mk_len, List.length_map]; omega) | decide) (c12 : x4 < a10.length := by first | omega | assumption | (simp only [mk_len, List.length_map]; omega) | decide) (c13 : 0 < q9 := by first | omega | assumption | (simp only [mk_len, List.length_map]; omega) | decide) : wr P d sw_c248 sw_h248 (28, [r0, r1, r2, vi x3, vi x4, t5], [], h, kc, ks) Q := by
  refine w_ld rfl rfl (Or.inr (Or.inr ⟨by decide, y1⟩)) ?_
  refine w_ld rfl rfl (Or.inl ⟨by decide, rfl⟩) ?_
  refine w_ld rfl rfl (Or.inr (Or.inr ⟨by decide, y2⟩)) ?_
  refine w_ld rfl rfl (Or.inl ⟨by decide, rfl⟩) ?_
  subst e_q3
  refine w_iald rfl g5 (Or.inl rfl) c8 c7 c6 ?_
  subst e_q9
  refine w_iast rfl g11 (Nat.ble_eq_true_of_le c13) c8 c7 c12 ?_
  refine w_iinc (ls' := [r0, .index q3, .index q9, vi x3, vi (x4 + 1), t5]) rfl rfl 1 (by decide) rfl ?_
  refine w_goto rfl ?_
  exact k

theorem k248_42 {P : s_P} {d : Nat} {Q : s_O → Prop} {h : s_H} {kc ks : Nat} {r0 r1 r2 : Term} {x3 x4 : Int} {t5 : Term}  (k : wr P d sw_c248 sw_h248 (45, [r0, r1, r2, vi x3, vi 0, t5], [], h, kc, ks) Q)   : wr P d sw_c248 sw_h248 (42, [r0, r1, r2, vi x3, vi x4, t5], [], h, kc, ks) Q := by
  refine w_c32 rfl (by decide) 0 (by decide) ?_
  refine w_st (ls' := [r0, r1, r2, vi x3, vi 0, t5]) rfl (Or.inl ⟨by decide, rfl⟩) rfl ?_
  exact k

theorem k248_45 {P : s_P} {d : Nat} {Q : s_O → Prop} {h : s_H} {kc ks : Nat} {r0 r1 r2 : Term} {x3 x4 : Int} {t5 : Term}  (k1 : 25 ≤ x4 + x3 → wr P d sw_c248 sw_h248 (105, [r0, r1, r2, vi x3, vi x4, t5], [], h, kc, ks) Q) (k2 : ¬ 25 ≤ x4 + x3 → wr P d sw_c248 sw_h248 (54, [r0, r1, r2, vi x3, vi x4, t5], [], h, kc, ks) Q)  (c1 : In3 (x4 + x3) := by first | omega | assumption | (simp only [mk_len, List.length_map]; omega) | decide) : wr P d sw_c248 sw_h248 (45, [r0, r1, r2, vi x3, vi x4, t5], [], h, kc, ks) Q := by
  refine w_ld rfl rfl (Or.inl ⟨by decide, rfl⟩) ?_
  refine w_ld rfl rfl (Or.inl ⟨by decide, rfl⟩) ?_
  refine w_iadd rfl ?_
  refine w_c32 rfl (by decide) 25 (by decide) ?_
  exact w_if2 rfl c1 (by decide) k1 k2

theorem k248_54 {P : s_P} {d : Nat} {Q : s_O → Prop} {h : s_H} {kc ks : Nat} {r0 r1 r2 : Term} {x3 x4 : Int} {t5 : Term} {q2 : Nat} {f3 : List Term} (g4 : s_get h q2 = some (1, 8, f3)) (k : wm P d 265 [.index q2, vi 0, vi x3] h (wq P d sw_c248 sw_h248 60 [.index q2, r1, r2, vi x3, vi x4, t5] [] kc ks Q)) (e_q2 : r0 = .index q2 := by first | rfl | assumption) (y1 : s_ty r0 = 3 := by first | rfl | assumption)  : wr P d sw_c248 sw_h248 (54, [r0, r1, r2, vi x3, vi x4, t5], [], h, kc, ks) Q := by
  refine w_ld rfl rfl (Or.inr (Or.inr ⟨by decide, y1⟩)) ?_
  refine w_c32 rfl (by decide) 0 (by decide) ?_
  refine w_ld rfl rfl (Or.inl ⟨by decide, rfl⟩) ?_
  subst e_q2
  exact w_cv rfl [.index q2, vi 0, vi x3] [] rfl rfl (s_wt_4 rfl) rfl g4 k

theorem k248_60 {P : s_P} {d : Nat} {Q : s_O → Prop} {h : s_H} {kc ks : Nat} {r0 r1 r2 : Term} {x3 x4 : Int} {t5 s0 : Term} {q1 : Nat} {f2 : List Term} (g3 : s_get h q1 = some (1, 4, f2)) (k : wm P d 187 [.index q1, vi x4] h (wq P d sw_c248 sw_h248 65 [r0, r1, r2, vi x3, vi x4, t5] [] kc ks Q)) (e_q1 : s0 = .index q1 := by first | rfl | assumption)  : wr P d sw_c248 sw_h248 (60, [r0, r1, r2, vi x3, vi x4, t5], [s0], h, kc, ks) Q := by
  refine w_ld rfl rfl (Or.inl ⟨by decide, rfl⟩) ?_
  subst e_q1
  exact w_cv rfl [.index q1, vi x4] [] rfl rfl (s_wt_4 rfl) rfl g3 k

theorem k248_65 {P : s_P} {d : Nat} {Q : s_O → Prop} {h : s_H} {kc ks : Nat} {r0 r1 r2 : Term} {x3 x4 : Int} {t5 : Term} {s0 : Int}  (k : wm P d 168 [vi s0] h (wq P d sw_c248 sw_h248 68 [r0, r1, r2, vi x3, vi x4, t5] [] kc ks Q))   : wr P d sw_c248 sw_h248 (65, [r0, r1, r2, vi x3, vi x4, t5], [vi s0], h, kc, ks) Q := by
  exact w_cs rfl [vi s0] [] rfl rfl (s_wt_4 rfl) k

theorem k248_68 {P : s_P} {d : Nat} {Q : s_O → Prop} {h : s_H} {kc ks : Nat} {r0 r1 r2 : Term} {x3 x4 : Int} {t5 : Term} {s0 : Int}  (k : wm P d 232 [r0, vi x3, r2, vi x4] h (wq P d sw_c248 sw_h248 86 [r0, r1, r2, vi x3, vi x4, vi s0] [vi 32003, vi (x4 + x3), r2] kc ks Q)) (y1 : s_ty r2 = 3 := by first | rfl | assumption) (y2 : s_ty r0 = 3 := by first | rfl | assumption)  : wr P d sw_c248 sw_h248 (68, [r0, r1, r2, vi x3, vi x4, t5], [vi s0], h, kc, ks) Q := by
  refine w_st (ls' := [r0, r1, r2, vi x3, vi x4, vi s0]) rfl (Or.inl ⟨by decide, rfl⟩) rfl ?_
  refine w_ld rfl rfl (Or.inr (Or.inr ⟨by decide, y1⟩)) ?_
  refine w_ld rfl rfl (Or.inl ⟨by decide, rfl⟩) ?_
  refine w_ld rfl rfl (Or.inl ⟨by decide, rfl⟩) ?_
  refine w_iadd rfl ?_
  refine w_c32 rfl (by decide) 32003 (by decide) ?_
  refine w_ld rfl rfl (Or.inr (Or.inr ⟨by decide, y2⟩)) ?_
  refine w_ld rfl rfl (Or.inl ⟨by decide, rfl⟩) ?_
  refine w_ld rfl rfl (Or.inr (Or.inr ⟨by decide, y1⟩)) ?_
  refine w_ld rfl rfl (Or.inl ⟨by decide, rfl⟩) ?_
  exact w_cs rfl [r0, vi x3, r2, vi x4] [vi 32003, vi (x4 + x3), r2] rfl rfl (s_wt_4 rfl) k

theorem k248_86 {P : s_P} {d : Nat} {Q : s_O → Prop} {h : s_H} {kc ks : Nat} {r0 r1 r2 : Term} {x3 x4 x5 : Int} {s0 : Term} {s1 s2 s3 : Int} {q3 : Nat} {a4 : List Int} (g5 : s_get h q3 = some (0, 0, a4.map vi)) (k : wr P d sw_c248 sw_h248 (45, [r0, r1, r2, vi x3, vi (x4 + 1), vi x5], [], (hp h q3 (0, 0, (a4.set (Int.toNat (s1)) (Int.tmod ((Int.tmod (s2 - s3) 32003) * x5) 32003)).map vi)), kc, ks) Q) (e_q3 : s0 = .index q3 := by first | rfl | assumption) (c1 : In3 (s2 - s3) := by first | omega | assumption | (simp only [mk_len, List.length_map]; omega) | decide) (c2 : In3 ((Int.tmod (s2 - s3) 32003) * x5) := by first | omega | assumption | (simp only [mk_len, List.length_map]; omega) | decide) (c6 : s1 < a4.length := by first | omega | assumption | (simp only [mk_len, List.length_map]; omega) | decide) (c7 : 0 ≤ s1 := by first | omega | assumption | (simp only [mk_len, List.length_map]; omega) | decide) (c8 : In3 s1 := by first | omega | assumption | (simp only [mk_len, List.length_map]; omega) | decide) (c9 : 0 < q3 := by first | omega | assumption | (simp only [mk_len, List.length_map]; omega) | decide) : wr P d sw_c248 sw_h248 (86, [r0, r1, r2, vi x3, vi x4, vi x5], [vi s3, vi s2, vi s1, s0], h, kc, ks) Q := by
  refine w_isub rfl ?_
  refine w_c32 rfl (by decide) 32003 (by decide) ?_
  refine w_irem rfl c1 (by decide) (by decide) ?_
  refine w_ld rfl rfl (Or.inl ⟨by decide, rfl⟩) ?_
  refine w_imul rfl ?_
  refine w_c32 rfl (by decide) 32003 (by decide) ?_
  refine w_irem rfl c2 (by decide) (by decide) ?_
  subst e_q3
  refine w_iast rfl g5 (Nat.ble_eq_true_of_le c9) c8 c7 c6 ?_
  refine w_iinc (ls' := [r0, r1, r2, vi x3, vi (x4 + 1), vi x5]) rfl rfl 1 (by decide) rfl ?_
  refine w_goto rfl ?_
  exact k

theorem k248_105 {P : s_P} {d : Nat} {Q : s_O → Prop} {h : s_H} {kc ks : Nat} {r0 r1 r2 : Term} {x3 x4 : Int} {t5 : Term}  (k : Q (.inl (some r2), h, kc, ks)) (y1 : s_ty r2 = 3 := by first | rfl | assumption)  : wr P d sw_c248 sw_h248 (105, [r0, r1, r2, vi x3, vi x4, t5], [], h, kc, ks) Q := by
  refine w_ld rfl rfl (Or.inr (Or.inr ⟨by decide, y1⟩)) ?_
  exact w_aret rfl y1 k

/-! 250: FormulaWorks$Sheet.ask(I)V -/
theorem k250_0 {P : s_P} {d : Nat} {Q : s_O → Prop} {h : s_H} {kc ks : Nat} {r0 : Term} {x1 : Int} {t2 t3 t4 t5 : Term} {q2 : Nat} {f3 : List Term} (g4 : s_get h q2 = some (1, 7, f3)) (k : wm P d 258 [.index q2, vi x1] h (wq P d sw_c250 sw_h250 5 [.index q2, vi x1, t2, t3, t4, t5] [] kc ks Q)) (e_q2 : r0 = .index q2 := by first | rfl | assumption) (y1 : s_ty r0 = 3 := by first | rfl | assumption)  : wr P d sw_c250 sw_h250 (0, [r0, vi x1, t2, t3, t4, t5], [], h, kc, ks) Q := by
  refine w_ld rfl rfl (Or.inr (Or.inr ⟨by decide, y1⟩)) ?_
  refine w_ld rfl rfl (Or.inl ⟨by decide, rfl⟩) ?_
  subst e_q2
  exact w_cv rfl [.index q2, vi x1] [] rfl rfl (s_wt_4 rfl) rfl g4 k

theorem k250_5 {P : s_P} {d : Nat} {Q : s_O → Prop} {h : s_H} {kc ks : Nat} {r0 : Term} {x1 : Int} {t2 t3 t4 t5 : Term} {s0 : Int}  (k : wr P d sw_c250 sw_h250 (8, [r0, vi x1, vi s0, vi 0, t4, t5], [], h, kc, ks) Q)   : wr P d sw_c250 sw_h250 (5, [r0, vi x1, t2, t3, t4, t5], [vi s0], h, kc, ks) Q := by
  refine w_st (ls' := [r0, vi x1, vi s0, t3, t4, t5]) rfl (Or.inl ⟨by decide, rfl⟩) rfl ?_
  refine w_c32 rfl (by decide) 0 (by decide) ?_
  refine w_st (ls' := [r0, vi x1, vi s0, vi 0, t4, t5]) rfl (Or.inl ⟨by decide, rfl⟩) rfl ?_
  exact k

theorem k250_8 {P : s_P} {d : Nat} {Q : s_O → Prop} {h : s_H} {kc ks : Nat} {r0 : Term} {x1 x2 x3 : Int} {t4 t5 : Term}  (k1 : 16 ≤ x3 → wr P d sw_c250 sw_h250 (191, [r0, vi x1, vi x2, vi x3, t4, t5], [], h, kc, ks) Q) (k2 : ¬ 16 ≤ x3 → wr P d sw_c250 sw_h250 (14, [r0, vi x1, vi x2, vi x3, t4, t5], [], h, kc, ks) Q)  (c1 : In3 x3 := by first | omega | assumption | (simp only [mk_len, List.length_map]; omega) | decide) : wr P d sw_c250 sw_h250 (8, [r0, vi x1, vi x2, vi x3, t4, t5], [], h, kc, ks) Q := by
  refine w_ld rfl rfl (Or.inl ⟨by decide, rfl⟩) ?_
  refine w_c32 rfl (by decide) 16 (by decide) ?_
  exact w_if2 rfl c1 (by decide) k1 k2

theorem k250_14 {P : s_P} {d : Nat} {Q : s_O → Prop} {h : s_H} {kc ks : Nat} {r0 : Term} {x1 x2 x3 : Int} {t4 t5 : Term}  (k1 : x2 < 0 → wr P d sw_c250 sw_h250 (191, [r0, vi x1, vi x2, vi x3, t4, t5], [], h, kc, ks) Q) (k2 : ¬ x2 < 0 → wr P d sw_c250 sw_h250 (18, [r0, vi x1, vi x2, vi x3, t4, t5], [], h, kc, ks) Q)  (c1 : In3 x2 := by first | omega | assumption | (simp only [mk_len, List.length_map]; omega) | decide) : wr P d sw_c250 sw_h250 (14, [r0, vi x1, vi x2, vi x3, t4, t5], [], h, kc, ks) Q := by
  refine w_ld rfl rfl (Or.inl ⟨by decide, rfl⟩) ?_
  exact w_if1 rfl c1 k1 k2

theorem k250_18 {P : s_P} {d : Nat} {Q : s_O → Prop} {h : s_H} {kc ks : Nat} {r0 : Term} {x1 x2 x3 : Int} {t4 t5 : Term} {q2 : Nat} {f3 : List Term} {z5 : Int} {f9 : List Term} {z11 : Int} {f14 : List Term} {v16 v18 : Term} {q20 : Nat} {a21 : List Term} {tg23 : Nat} {v24 v29 : Term} {q31 : Nat} {a32 : List Int} {q35 : Nat} {f36 : List Term} (g4 : s_get h q2 = some (1, 7, f3)) (g10 : s_get (hp h q2 (1, 7, f3.set 9 (vi (z5 + 1)))) q2 = some (1, 7, f9)) (g15 : s_get (hp (hp h q2 (1, 7, f3.set 9 (vi (z5 + 1)))) q2 (1, 7, f9.set 8 (vi (zi 25 z11 (zi 27 1 x2))))) q2 = some (1, 7, f14)) (g22 : s_get (hp (hp h q2 (1, 7, f3.set 9 (vi (z5 + 1)))) q2 (1, 7, f9.set 8 (vi (zi 25 z11 (zi 27 1 x2))))) q20 = some (0, tg23, a21)) (g33 : s_get (hp (hp h q2 (1, 7, f3.set 9 (vi (z5 + 1)))) q2 (1, 7, f9.set 8 (vi (zi 25 z11 (zi 27 1 x2))))) q31 = some (0, 0, a32.map vi)) (g37 : s_get (hp (hp h q2 (1, 7, f3.set 9 (vi (z5 + 1)))) q2 (1, 7, f9.set 8 (vi (zi 25 z11 (zi 27 1 x2))))) q35 = some (1, 5, f36)) (k : wm P d 192 [.index q35, v24, vi (gi a32 x2), vi 2, vi 0] (hp (hp h q2 (1, 7, f3.set 9 (vi (z5 + 1)))) q2 (1, 7, f9.set 8 (vi (zi 25 z11 (zi 27 1 x2))))) (wq P d sw_c250 sw_h250 61 [.index q2, vi x1, vi x2, vi x3, t4, t5] [] kc ks Q)) (e_q2 : r0 = .index q2 := by first | rfl | assumption) (e_q20 : v18 = .index q20 := by first | rfl | assumption) (e_q31 : v29 = .index q31 := by first | rfl | assumption) (e_q35 : v16 = .index q35 := by first | rfl | assumption) (y1 : s_ty r0 = 3 := by first | rfl | assumption) (n6 : s_nth f3 9 = some (vi z5) := by first | rfl | assumption) (l7 : 9 < f3.length := by first | exact Nat.le_of_ble_eq_true rfl | omega | assumption) (n12 : s_nth f9 8 = some (vi z11) := by first | rfl | assumption) (l13 : 8 < f9.length := by first | exact Nat.le_of_ble_eq_true rfl | omega | assumption) (n17 : s_nth f14 0 = some v16 := by first | rfl | assumption) (n19 : s_nth f14 1 = some v18 := by first | rfl | assumption) (n25 : s_nth a21 (Int.toNat (x2)) = some v24 := by first | rfl | assumption) (u26 : tg23 = 2 ∨ tg23 = 3 ∨ tg23 = 4 := by first | decide | assumption) (n30 : s_nth f14 2 = some v29 := by first | rfl | assumption) (c8 : 0 < q2 := by first | omega | assumption | (simp only [mk_len, List.length_map]; omega) | decide) (c27 : In3 x2 := by first | omega | assumption | (simp only [mk_len, List.length_map]; omega) | decide) (c28 : 0 ≤ x2 := by first | omega | assumption | (simp only [mk_len, List.length_map]; omega) | decide) (c34 : x2 < a32.length := by first | omega | assumption | (simp only [mk_len, List.length_map]; omega) | decide) : wr P d sw_c250 sw_h250 (18, [r0, vi x1, vi x2, vi x3, t4, t5], [], h, kc, ks) Q := by
  refine w_ld rfl rfl (Or.inr (Or.inr ⟨by decide, y1⟩)) ?_
  refine w_dup rfl (by rw [y1]; rfl) ?_
  subst e_q2
  refine w_getf rfl g4 n6 ?_
  refine w_c32 rfl (by decide) 1 (by decide) ?_
  refine w_iadd rfl ?_
  refine w_putf rfl g4 (Nat.ble_eq_true_of_le c8) rfl (Nat.ble_eq_true_of_le l7) ?_
  refine w_ld rfl rfl (Or.inr (Or.inr ⟨by decide, rfl⟩)) ?_
  refine w_dup rfl rfl ?_
  refine w_getf rfl g10 n12 ?_
  refine w_c32 rfl (by decide) 1 (by decide) ?_
  refine w_ld rfl rfl (Or.inl ⟨by decide, rfl⟩) ?_
  refine w_ib rfl (by decide) ?_
  refine w_ib rfl (by decide) ?_
  refine w_putf rfl g10 (Nat.ble_eq_true_of_le c8) rfl (Nat.ble_eq_true_of_le l13) ?_
  refine w_ld rfl rfl (Or.inr (Or.inr ⟨by decide, rfl⟩)) ?_
  refine w_getf rfl g15 n17 ?_
  refine w_ld rfl rfl (Or.inr (Or.inr ⟨by decide, rfl⟩)) ?_
  refine w_getf rfl g15 n19 ?_
  refine w_ld rfl rfl (Or.inl ⟨by decide, rfl⟩) ?_
  subst e_q20
  refine w_aald rfl g22 u26 c27 c28 n25 ?_
  refine w_ld rfl rfl (Or.inr (Or.inr ⟨by decide, rfl⟩)) ?_
  refine w_getf rfl g15 n30 ?_
  refine w_ld rfl rfl (Or.inl ⟨by decide, rfl⟩) ?_
  subst e_q31
  refine w_iald rfl g33 (Or.inl rfl) c27 c28 c34 ?_
  refine w_c32 rfl (by decide) 2 (by decide) ?_
  refine w_c32 rfl (by decide) 0 (by decide) ?_
  subst e_q35
  exact w_cv rfl [.index q35, v24, vi (gi a32 x2), vi 2, vi 0] [] rfl rfl (s_wt_4 rfl) rfl g37 k

theorem k250_61 {P : s_P} {d : Nat} {Q : s_O → Prop} {h : s_H} {kc ks : Nat} {r0 : Term} {x1 x2 x3 : Int} {t4 t5 : Term} {q2 : Nat} {f3 : List Term} {v5 : Term} {q7 : Nat} {f8 : List Term} (g4 : s_get h q2 = some (1, 7, f3)) (g9 : s_get h q7 = some (1, 5, f8)) (k : wm P d 207 [.index q7] h (wq P d sw_c250 sw_h250 68 [.index q2, vi x1, vi x2, vi x3, t4, t5] [] kc ks Q)) (e_q2 : r0 = .index q2 := by first | rfl | assumption) (e_q7 : v5 = .index q7 := by first | rfl | assumption) (y1 : s_ty r0 = 3 := by first | rfl | assumption) (n6 : s_nth f3 0 = some v5 := by first | rfl | assumption)  : wr P d sw_c250 sw_h250 (61, [r0, vi x1, vi x2, vi x3, t4, t5], [], h, kc, ks) Q := by
  refine w_ld rfl rfl (Or.inr (Or.inr ⟨by decide, y1⟩)) ?_
  subst e_q2
  refine w_getf rfl g4 n6 ?_
  subst e_q7
  exact w_cv rfl [.index q7] [] rfl rfl (s_wt_4 rfl) rfl g9 k

theorem k250_68 {P : s_P} {d : Nat} {Q : s_O → Prop} {h : s_H} {kc ks : Nat} {r0 : Term} {x1 x2 x3 : Int} {t4 t5 : Term} {s0 : Int}  (k : wr P d sw_c250 sw_h250 (73, [r0, vi x1, vi x2, vi x3, vi s0, vi 0], [], h, kc, ks) Q)   : wr P d sw_c250 sw_h250 (68, [r0, vi x1, vi x2, vi x3, t4, t5], [vi s0], h, kc, ks) Q := by
  refine w_st (ls' := [r0, vi x1, vi x2, vi x3, vi s0, t5]) rfl (Or.inl ⟨by decide, rfl⟩) rfl ?_
  refine w_c32 rfl (by decide) 0 (by decide) ?_
  refine w_st (ls' := [r0, vi x1, vi x2, vi x3, vi s0, vi 0]) rfl (Or.inl ⟨by decide, rfl⟩) rfl ?_
  exact k

theorem k250_73 {P : s_P} {d : Nat} {Q : s_O → Prop} {h : s_H} {kc ks : Nat} {r0 : Term} {x1 x2 x3 x4 x5 : Int}  (k1 : 60 ≤ x5 → wr P d sw_c250 sw_h250 (113, [r0, vi x1, vi x2, vi x3, vi x4, vi x5], [], h, kc, ks) Q) (k2 : ¬ 60 ≤ x5 → wr P d sw_c250 sw_h250 (80, [r0, vi x1, vi x2, vi x3, vi x4, vi x5], [], h, kc, ks) Q)  (c1 : In3 x5 := by first | omega | assumption | (simp only [mk_len, List.length_map]; omega) | decide) : wr P d sw_c250 sw_h250 (73, [r0, vi x1, vi x2, vi x3, vi x4, vi x5], [], h, kc, ks) Q := by
  refine w_ld rfl rfl (Or.inl ⟨by decide, rfl⟩) ?_
  refine w_c32 rfl (by decide) 60 (by decide) ?_
  exact w_if2 rfl c1 (by decide) k1 k2

theorem k250_80 {P : s_P} {d : Nat} {Q : s_O → Prop} {h : s_H} {kc ks : Nat} {r0 : Term} {x1 x2 x3 x4 x5 : Int}  (k1 : x4 < 0 → wr P d sw_c250 sw_h250 (113, [r0, vi x1, vi x2, vi x3, vi x4, vi x5], [], h, kc, ks) Q) (k2 : ¬ x4 < 0 → wr P d sw_c250 sw_h250 (85, [r0, vi x1, vi x2, vi x3, vi x4, vi x5], [], h, kc, ks) Q)  (c1 : In3 x4 := by first | omega | assumption | (simp only [mk_len, List.length_map]; omega) | decide) : wr P d sw_c250 sw_h250 (80, [r0, vi x1, vi x2, vi x3, vi x4, vi x5], [], h, kc, ks) Q := by
  refine w_ld rfl rfl (Or.inl ⟨by decide, rfl⟩) ?_
  exact w_if1 rfl c1 k1 k2

theorem k250_85 {P : s_P} {d : Nat} {Q : s_O → Prop} {h : s_H} {kc ks : Nat} {r0 : Term} {x1 x2 x3 x4 x5 : Int} {q2 : Nat} {f3 : List Term} {v5 : Term} (g4 : s_get h q2 = some (1, 7, f3)) (k : wm P d 255 [.index q2, vi x4] h (wq P d sw_c250 sw_h250 95 [.index q2, vi x1, vi x2, vi x3, vi x4, vi x5] [v5] kc ks Q)) (e_q2 : r0 = .index q2 := by first | rfl | assumption) (y1 : s_ty r0 = 3 := by first | rfl | assumption) (n6 : s_nth f3 0 = some v5 := by first | rfl | assumption)  : wr P d sw_c250 sw_h250 (85, [r0, vi x1, vi x2, vi x3, vi x4, vi x5], [], h, kc, ks) Q := by
  refine w_ld rfl rfl (Or.inr (Or.inr ⟨by decide, y1⟩)) ?_
  subst e_q2
  refine w_getf rfl g4 n6 ?_
  refine w_ld rfl rfl (Or.inr (Or.inr ⟨by decide, rfl⟩)) ?_
  refine w_ld rfl rfl (Or.inl ⟨by decide, rfl⟩) ?_
  exact w_cv rfl [.index q2, vi x4] [v5] rfl rfl (s_wt_4 rfl) rfl g4 k

theorem k250_95 {P : s_P} {d : Nat} {Q : s_O → Prop} {h : s_H} {kc ks : Nat} {r0 : Term} {x1 x2 x3 x4 x5 : Int} {s0 s1 : Term} {q1 : Nat} {f2 : List Term} (g3 : s_get h q1 = some (1, 5, f2)) (k : wm P d 196 [.index q1, s1] h (wq P d sw_c250 sw_h250 98 [r0, vi x1, vi x2, vi x3, vi x4, vi x5] [] kc ks Q)) (e_q1 : s0 = .index q1 := by first | rfl | assumption)  : wr P d sw_c250 sw_h250 (95, [r0, vi x1, vi x2, vi x3, vi x4, vi x5], [s1, s0], h, kc, ks) Q := by
  subst e_q1
  exact w_cv rfl [.index q1, s1] [] rfl rfl (s_wt_4 rfl) rfl g3 k

theorem k250_98 {P : s_P} {d : Nat} {Q : s_O → Prop} {h : s_H} {kc ks : Nat} {r0 : Term} {x1 x2 x3 x4 x5 : Int} {q2 : Nat} {f3 : List Term} {v5 : Term} {q7 : Nat} {f8 : List Term} (g4 : s_get h q2 = some (1, 7, f3)) (g9 : s_get h q7 = some (1, 5, f8)) (k : wm P d 207 [.index q7] h (wq P d sw_c250 sw_h250 105 [.index q2, vi x1, vi x2, vi x3, vi x4, vi x5] [] kc ks Q)) (e_q2 : r0 = .index q2 := by first | rfl | assumption) (e_q7 : v5 = .index q7 := by first | rfl | assumption) (y1 : s_ty r0 = 3 := by first | rfl | assumption) (n6 : s_nth f3 0 = some v5 := by first | rfl | assumption)  : wr P d sw_c250 sw_h250 (98, [r0, vi x1, vi x2, vi x3, vi x4, vi x5], [], h, kc, ks) Q := by
  refine w_ld rfl rfl (Or.inr (Or.inr ⟨by decide, y1⟩)) ?_
  subst e_q2
  refine w_getf rfl g4 n6 ?_
  subst e_q7
  exact w_cv rfl [.index q7] [] rfl rfl (s_wt_4 rfl) rfl g9 k

theorem k250_105 {P : s_P} {d : Nat} {Q : s_O → Prop} {h : s_H} {kc ks : Nat} {r0 : Term} {x1 x2 x3 x4 x5 s0 : Int}  (k : wr P d sw_c250 sw_h250 (73, [r0, vi x1, vi x2, vi x3, vi s0, vi (x5 + 1)], [], h, kc, ks) Q)   : wr P d sw_c250 sw_h250 (105, [r0, vi x1, vi x2, vi x3, vi x4, vi x5], [vi s0], h, kc, ks) Q := by
  refine w_st (ls' := [r0, vi x1, vi x2, vi x3, vi s0, vi x5]) rfl (Or.inl ⟨by decide, rfl⟩) rfl ?_
  refine w_iinc (ls' := [r0, vi x1, vi x2, vi x3, vi s0, vi (x5 + 1)]) rfl rfl 1 (by decide) rfl ?_
  refine w_goto rfl ?_
  exact k

theorem k250_113 {P : s_P} {d : Nat} {Q : s_O → Prop} {h : s_H} {kc ks : Nat} {r0 : Term} {x1 x2 x3 x4 x5 : Int} {q2 : Nat} {f3 : List Term} {v5 v7 : Term} {q9 : Nat} {f10 : List Term} {z12 : Int} {q14 : Nat} {a15 : List Int} {f21 : List Term} {v23 v25 : Term} {q27 : Nat} {f28 : List Term} {z30 : Int} {q32 : Nat} {a33 : List Int} {f37 : List Term} {v39 : Term} {q41 : Nat} {f42 : List Term} {v44 : Term} {q46 : Nat} {a47 : List Term} {tg49 : Nat} {v50 : Term} {z54 : Int} (g4 : s_get h q2 = some (1, 7, f3)) (g11 : s_get h q9 = some (1, 5, f10)) (g16 : s_get h q14 = some (0, 0, a15.map vi)) (g22 : s_get (hp h q14 (0, 0, (a15.set (Int.toNat (x2)) z12).map vi)) q2 = some (1, 7, f21)) (g29 : s_get (hp h q14 (0, 0, (a15.set (Int.toNat (x2)) z12).map vi)) q27 = some (1, 5, f28)) (g34 : s_get (hp h q14 (0, 0, (a15.set (Int.toNat (x2)) z12).map vi)) q32 = some (0, 0, a33.map vi)) (g38 : s_get (hp (hp h q14 (0, 0, (a15.set (Int.toNat (x2)) z12).map vi)) q32 (0, 0, (a33.set (Int.toNat (x2)) z30).map vi)) q2 = some (1, 7, f37)) (g43 : s_get (hp (hp h q14 (0, 0, (a15.set (Int.toNat (x2)) z12).map vi)) q32 (0, 0, (a33.set (Int.toNat (x2)) z30).map vi)) q41 = some (1, 5, f42)) (g48 : s_get (hp (hp h q14 (0, 0, (a15.set (Int.toNat (x2)) z12).map vi)) q32 (0, 0, (a33.set (Int.toNat (x2)) z30).map vi)) q46 = some (0, tg49, a47)) (k1 : z54 ≠ 0 → wr P d sw_c250 sw_h250 (179, [.index q2, vi x1, vi x2, vi x3, vi x4, v50], [], (hp (hp h q14 (0, 0, (a15.set (Int.toNat (x2)) z12).map vi)) q32 (0, 0, (a33.set (Int.toNat (x2)) z30).map vi)), kc, ks) Q) (k2 : ¬ z54 ≠ 0 → wr P d sw_c250 sw_h250 (160, [.index q2, vi x1, vi x2, vi x3, vi x4, v50], [], (hp (hp h q14 (0, 0, (a15.set (Int.toNat (x2)) z12).map vi)) q32 (0, 0, (a33.set (Int.toNat (x2)) z30).map vi)), kc, ks) Q) (e_q2 : r0 = .index q2 := by first | rfl | assumption) (e_q9 : v7 = .index q9 := by first | rfl | assumption) (e_q14 : v5 = .index q14 := by first | rfl | assumption) (e_q27 : v25 = .index q27 := by first | rfl | assumption) (e_q32 : v23 = .index q32 := by first | rfl | assumption) (e_q41 : v39 = .index q41 := by first | rfl | assumption) (e_q46 : v44 = .index q46 := by first | rfl | assumption) (y1 : s_ty r0 = 3 := by first | rfl | assumption) (n6 : s_nth f3 6 = some v5 := by first | rfl | assumption) (n8 : s_nth f3 0 = some v7 := by first | rfl | assumption) (n13 : s_nth f10 18 = some (vi z12) := by first | rfl | assumption) (n24 : s_nth f21 7 = some v23 := by first | rfl | assumption) (n26 : s_nth f21 0 = some v25 := by first | rfl | assumption) (n31 : s_nth f28 19 = some (vi z30) := by first | rfl | assumption) (n40 : s_nth f37 0 = some v39 := by first | rfl | assumption) (n45 : s_nth f42 3 = some v44 := by first | rfl | assumption) (n51 : s_nth a47 (Int.toNat (0)) = some v50 := by first | rfl | assumption) (u52 : tg49 = 2 ∨ tg49 = 3 ∨ tg49 = 4 := by first | decide | assumption) (y53 : s_ty v50 = 3 := by first | rfl | assumption) (n55 : s_nth f42 18 = some (vi z54) := by first | rfl | assumption) (c17 : x2 < a15.length := by first | omega | assumption | (simp only [mk_len, List.length_map]; omega) | decide) (c18 : 0 ≤ x2 := by first | omega | assumption | (simp only [mk_len, List.length_map]; omega) | decide) (c19 : In3 x2 := by first | omega | assumption | (simp only [mk_len, List.length_map]; omega) | decide) (c20 : 0 < q14 := by first | omega | assumption | (simp only [mk_len, List.length_map]; omega) | decide) (c35 : x2 < a33.length := by first | omega | assumption | (simp only [mk_len, List.length_map]; omega) | decide) (c36 : 0 < q32 := by first | omega | assumption | (simp only [mk_len, List.length_map]; omega) | decide) (c56 : In3 z54 := by first | omega | assumption | (simp only [mk_len, List.length_map]; omega) | decide) : wr P d sw_c250 sw_h250 (113, [r0, vi x1, vi x2, vi x3, vi x4, vi x5], [], h, kc, ks) Q := by
  refine w_ld rfl rfl (Or.inr (Or.inr ⟨by decide, y1⟩)) ?_
  subst e_q2
  refine w_getf rfl g4 n6 ?_
  refine w_ld rfl rfl (Or.inl ⟨by decide, rfl⟩) ?_
  refine w_ld rfl rfl (Or.inr (Or.inr ⟨by decide, rfl⟩)) ?_
  refine w_getf rfl g4 n8 ?_
  subst e_q9
  refine w_getf rfl g11 n13 ?_
  subst e_q14
  refine w_iast rfl g16 (Nat.ble_eq_true_of_le c20) c19 c18 c17 ?_
  refine w_ld rfl rfl (Or.inr (Or.inr ⟨by decide, rfl⟩)) ?_
  refine w_getf rfl g22 n24 ?_
  refine w_ld rfl rfl (Or.inl ⟨by decide, rfl⟩) ?_
  refine w_ld rfl rfl (Or.inr (Or.inr ⟨by decide, rfl⟩)) ?_
  refine w_getf rfl g22 n26 ?_
  subst e_q27
  refine w_getf rfl g29 n31 ?_
  subst e_q32
  refine w_iast rfl g34 (Nat.ble_eq_true_of_le c36) c19 c18 c35 ?_
  refine w_ld rfl rfl (Or.inr (Or.inr ⟨by decide, rfl⟩)) ?_
  refine w_getf rfl g38 n40 ?_
  subst e_q41
  refine w_getf rfl g43 n45 ?_
  refine w_c32 rfl (by decide) 0 (by decide) ?_
  subst e_q46
  refine w_aald rfl g48 u52 (by decide) (by decide) n51 ?_
  refine w_st (ls' := [.index q2, vi x1, vi x2, vi x3, vi x4, v50]) rfl (Or.inr ⟨by decide, y53⟩) rfl ?_
  refine w_ld rfl rfl (Or.inr (Or.inr ⟨by decide, rfl⟩)) ?_
  refine w_getf rfl g38 n40 ?_
  refine w_getf rfl g43 n55 ?_
  exact w_if1 rfl c56 k1 k2

theorem k250_160 {P : s_P} {d : Nat} {Q : s_O → Prop} {h : s_H} {kc ks : Nat} {r0 : Term} {x1 x2 x3 x4 : Int} {r5 : Term} {q2 : Nat} {f3 : List Term} {v5 : Term} {q7 : Nat} {a8 : List Term} {tg10 : Nat} {v11 : Term} {q17 : Nat} {f18 : List Term} {v20 v22 : Term} {q24 : Nat} {f25 : List Term} (g4 : s_get h q2 = some (1, 7, f3)) (g9 : s_get h q7 = some (0, tg10, a8)) (g19 : s_get h q17 = some (1, 8, f18)) (g26 : s_get h q24 = some (1, 8, f25)) (k : wm P d 272 [.index q24, v20, v22] h (wq P d sw_c250 sw_h250 179 [.index q2, vi x1, vi x2, vi x3, vi x4, .index q17] [] kc ks Q)) (e_q2 : r0 = .index q2 := by first | rfl | assumption) (e_q7 : v5 = .index q7 := by first | rfl | assumption) (e_q17 : r5 = .index q17 := by first | rfl | assumption) (e_q24 : v11 = .index q24 := by first | rfl | assumption) (y1 : s_ty r0 = 3 := by first | rfl | assumption) (n6 : s_nth f3 5 = some v5 := by first | rfl | assumption) (n12 : s_nth a8 (Int.toNat (x2)) = some v11 := by first | rfl | assumption) (u13 : tg10 = 2 ∨ tg10 = 3 ∨ tg10 = 4 := by first | decide | assumption) (y16 : s_ty r5 = 3 := by first | rfl | assumption) (n21 : s_nth f18 1 = some v20 := by first | rfl | assumption) (n23 : s_nth f18 2 = some v22 := by first | rfl | assumption) (c14 : In3 x2 := by first | omega | assumption | (simp only [mk_len, List.length_map]; omega) | decide) (c15 : 0 ≤ x2 := by first | omega | assumption | (simp only [mk_len, List.length_map]; omega) | decide) : wr P d sw_c250 sw_h250 (160, [r0, vi x1, vi x2, vi x3, vi x4, r5], [], h, kc, ks) Q := by
  refine w_ld rfl rfl (Or.inr (Or.inr ⟨by decide, y1⟩)) ?_
  subst e_q2
  refine w_getf rfl g4 n6 ?_
  refine w_ld rfl rfl (Or.inl ⟨by decide, rfl⟩) ?_
  subst e_q7
  refine w_aald rfl g9 u13 c14 c15 n12 ?_
  refine w_ld rfl rfl (Or.inr (Or.inr ⟨by decide, y16⟩)) ?_
  subst e_q17
  refine w_getf rfl g19 n21 ?_
  refine w_ld rfl rfl (Or.inr (Or.inr ⟨by decide, rfl⟩)) ?_
  refine w_getf rfl g19 n23 ?_
  subst e_q24
  exact w_cv rfl [.index q24, v20, v22] [] rfl rfl (s_wt_4 rfl) rfl g26 k

theorem k250_179 {P : s_P} {d : Nat} {Q : s_O → Prop} {h : s_H} {kc ks : Nat} {r0 : Term} {x1 x2 x3 x4 : Int} {r5 : Term} {q2 : Nat} {f3 : List Term} (g4 : s_get h q2 = some (1, 7, f3)) (k : wm P d 258 [.index q2, vi x1] h (wq P d sw_c250 sw_h250 184 [.index q2, vi x1, vi x2, vi x3, vi x4, r5] [] kc ks Q)) (e_q2 : r0 = .index q2 := by first | rfl | assumption) (y1 : s_ty r0 = 3 := by first | rfl | assumption)  : wr P d sw_c250 sw_h250 (179, [r0, vi x1, vi x2, vi x3, vi x4, r5], [], h, kc, ks) Q := by
  refine w_ld rfl rfl (Or.inr (Or.inr ⟨by decide, y1⟩)) ?_
  refine w_ld rfl rfl (Or.inl ⟨by decide, rfl⟩) ?_
  subst e_q2
  exact w_cv rfl [.index q2, vi x1] [] rfl rfl (s_wt_4 rfl) rfl g4 k

theorem k250_184 {P : s_P} {d : Nat} {Q : s_O → Prop} {h : s_H} {kc ks : Nat} {r0 : Term} {x1 x2 x3 x4 : Int} {r5 : Term} {s0 : Int}  (k : wr P d sw_c250 sw_h250 (8, [r0, vi x1, vi s0, vi (x3 + 1), vi x4, r5], [], h, kc, ks) Q)   : wr P d sw_c250 sw_h250 (184, [r0, vi x1, vi x2, vi x3, vi x4, r5], [vi s0], h, kc, ks) Q := by
  refine w_st (ls' := [r0, vi x1, vi s0, vi x3, vi x4, r5]) rfl (Or.inl ⟨by decide, rfl⟩) rfl ?_
  refine w_iinc (ls' := [r0, vi x1, vi s0, vi (x3 + 1), vi x4, r5]) rfl rfl 1 (by decide) rfl ?_
  refine w_goto rfl ?_
  exact k

theorem k250_191 {P : s_P} {d : Nat} {Q : s_O → Prop} {h : s_H} {kc ks : Nat} {r0 : Term} {x1 x2 x3 : Int} {t4 t5 : Term}  (k : Q (.inl none, h, kc, ks))   : wr P d sw_c250 sw_h250 (191, [r0, vi x1, vi x2, vi x3, t4, t5], [], h, kc, ks) Q := by
  exact w_ret rfl k

/-! 251: FormulaWorks$Sheet.dueNamedBy(I)I -/
theorem k251_0 {P : s_P} {d : Nat} {Q : s_O → Prop} {h : s_H} {kc ks : Nat} {r0 : Term} {x1 : Int} {t2 : Term}  (k : wr P d sw_c251 sw_h251 (2, [r0, vi x1, vi 0], [], h, kc, ks) Q)   : wr P d sw_c251 sw_h251 (0, [r0, vi x1, t2], [], h, kc, ks) Q := by
  refine w_c32 rfl (by decide) 0 (by decide) ?_
  refine w_st (ls' := [r0, vi x1, vi 0]) rfl (Or.inl ⟨by decide, rfl⟩) rfl ?_
  exact k

theorem k251_2 {P : s_P} {d : Nat} {Q : s_O → Prop} {h : s_H} {kc ks : Nat} {r0 : Term} {x1 x2 : Int}  (k1 : 16 ≤ x2 → wr P d sw_c251 sw_h251 (38, [r0, vi x1, vi x2], [], h, kc, ks) Q) (k2 : ¬ 16 ≤ x2 → wr P d sw_c251 sw_h251 (8, [r0, vi x1, vi x2], [], h, kc, ks) Q)  (c1 : In3 x2 := by first | omega | assumption | (simp only [mk_len, List.length_map]; omega) | decide) : wr P d sw_c251 sw_h251 (2, [r0, vi x1, vi x2], [], h, kc, ks) Q := by
  refine w_ld rfl rfl (Or.inl ⟨by decide, rfl⟩) ?_
  refine w_c32 rfl (by decide) 16 (by decide) ?_
  exact w_if2 rfl c1 (by decide) k1 k2

theorem k251_8 {P : s_P} {d : Nat} {Q : s_O → Prop} {h : s_H} {kc ks : Nat} {r0 : Term} {x1 x2 : Int} {q2 : Nat} {f3 : List Term} {v5 : Term} {q7 : Nat} {a8 : List Int} (g4 : s_get h q2 = some (1, 7, f3)) (g9 : s_get h q7 = some (0, 0, a8.map vi)) (k1 : zi 24 (zi 28 (gi a8 x1) x2) 1 ≠ 1 → wr P d sw_c251 sw_h251 (32, [.index q2, vi x1, vi x2], [], h, kc, ks) Q) (k2 : ¬ zi 24 (zi 28 (gi a8 x1) x2) 1 ≠ 1 → wr P d sw_c251 sw_h251 (22, [.index q2, vi x1, vi x2], [], h, kc, ks) Q) (e_q2 : r0 = .index q2 := by first | rfl | assumption) (e_q7 : v5 = .index q7 := by first | rfl | assumption) (y1 : s_ty r0 = 3 := by first | rfl | assumption) (n6 : s_nth f3 3 = some v5 := by first | rfl | assumption) (c10 : x1 < a8.length := by first | omega | assumption | (simp only [mk_len, List.length_map]; omega) | decide) (c11 : 0 ≤ x1 := by first | omega | assumption | (simp only [mk_len, List.length_map]; omega) | decide) (c12 : In3 x1 := by first | omega | assumption | (simp only [mk_len, List.length_map]; omega) | decide) (c13 : In3 (zi 24 (zi 28 (gi a8 x1) x2) 1) := by first | omega | assumption | (simp only [mk_len, List.length_map]; omega) | decide) : wr P d sw_c251 sw_h251 (8, [r0, vi x1, vi x2], [], h, kc, ks) Q := by
  refine w_ld rfl rfl (Or.inr (Or.inr ⟨by decide, y1⟩)) ?_
  subst e_q2
  refine w_getf rfl g4 n6 ?_
  refine w_ld rfl rfl (Or.inl ⟨by decide, rfl⟩) ?_
  subst e_q7
  refine w_iald rfl g9 (Or.inl rfl) c12 c11 c10 ?_
  refine w_ld rfl rfl (Or.inl ⟨by decide, rfl⟩) ?_
  refine w_ib rfl (by decide) ?_
  refine w_c32 rfl (by decide) 1 (by decide) ?_
  refine w_ib rfl (by decide) ?_
  refine w_c32 rfl (by decide) 1 (by decide) ?_
  exact w_if2 rfl c13 (by decide) k1 k2

theorem k251_22 {P : s_P} {d : Nat} {Q : s_O → Prop} {h : s_H} {kc ks : Nat} {r0 : Term} {x1 x2 : Int} {q2 : Nat} {f3 : List Term} (g4 : s_get h q2 = some (1, 7, f3)) (k : wm P d 256 [.index q2, vi x2] h (wq P d sw_c251 sw_h251 27 [.index q2, vi x1, vi x2] [] kc ks Q)) (e_q2 : r0 = .index q2 := by first | rfl | assumption) (y1 : s_ty r0 = 3 := by first | rfl | assumption)  : wr P d sw_c251 sw_h251 (22, [r0, vi x1, vi x2], [], h, kc, ks) Q := by
  refine w_ld rfl rfl (Or.inr (Or.inr ⟨by decide, y1⟩)) ?_
  refine w_ld rfl rfl (Or.inl ⟨by decide, rfl⟩) ?_
  subst e_q2
  exact w_cv rfl [.index q2, vi x2] [] rfl rfl (s_wt_4 rfl) rfl g4 k

theorem k251_27 {P : s_P} {d : Nat} {Q : s_O → Prop} {h : s_H} {kc ks : Nat} {r0 : Term} {x1 x2 s0 : Int}  (k1 : s0 = 0 → wr P d sw_c251 sw_h251 (32, [r0, vi x1, vi x2], [], h, kc, ks) Q) (k2 : ¬ s0 = 0 → wr P d sw_c251 sw_h251 (30, [r0, vi x1, vi x2], [], h, kc, ks) Q)  (c1 : In3 s0 := by first | omega | assumption | (simp only [mk_len, List.length_map]; omega) | decide) : wr P d sw_c251 sw_h251 (27, [r0, vi x1, vi x2], [vi s0], h, kc, ks) Q := by
  exact w_if1 rfl c1 k1 k2

theorem k251_30 {P : s_P} {d : Nat} {Q : s_O → Prop} {h : s_H} {kc ks : Nat} {r0 : Term} {x1 x2 : Int}  (k : Q (.inl (some (vi x2)), h, kc, ks))   : wr P d sw_c251 sw_h251 (30, [r0, vi x1, vi x2], [], h, kc, ks) Q := by
  refine w_ld rfl rfl (Or.inl ⟨by decide, rfl⟩) ?_
  exact w_iret rfl k

theorem k251_32 {P : s_P} {d : Nat} {Q : s_O → Prop} {h : s_H} {kc ks : Nat} {r0 : Term} {x1 x2 : Int}  (k : wr P d sw_c251 sw_h251 (2, [r0, vi x1, vi (x2 + 1)], [], h, kc, ks) Q)   : wr P d sw_c251 sw_h251 (32, [r0, vi x1, vi x2], [], h, kc, ks) Q := by
  refine w_iinc (ls' := [r0, vi x1, vi (x2 + 1)]) rfl rfl 1 (by decide) rfl ?_
  refine w_goto rfl ?_
  exact k

theorem k251_38 {P : s_P} {d : Nat} {Q : s_O → Prop} {h : s_H} {kc ks : Nat} {r0 : Term} {x1 x2 : Int}  (k : Q (.inl (some (vi (-1))), h, kc, ks))   : wr P d sw_c251 sw_h251 (38, [r0, vi x1, vi x2], [], h, kc, ks) Q := by
  refine w_c32 rfl (by decide) (-1) (by decide) ?_
  exact w_iret rfl k

/-! 252: FormulaWorks$Sheet.enterText(I[II)V -/
theorem k252_0 {P : s_P} {d : Nat} {Q : s_O → Prop} {h : s_H} {kc ks : Nat} {r0 : Term} {x1 : Int} {r2 : Term} {x3 : Int} {t4 t5 : Term} {q2 : Nat} {f3 : List Term} {v5 : Term} {q7 : Nat} {a8 : List Int} {f14 : List Term} {v16 : Term} (g4 : s_get h q2 = some (1, 7, f3)) (g9 : s_get h q7 = some (0, 0, a8.map vi)) (g15 : s_get (hp h q7 (0, 0, (a8.set (Int.toNat (x1)) 0).map vi)) q2 = some (1, 7, f14)) (k : wm P d 626 [vi x3, vi 60] (hp h q7 (0, 0, (a8.set (Int.toNat (x1)) 0).map vi)) (wq P d sw_c252 sw_h252 18 [.index q2, vi x1, r2, vi x3, t4, t5] [vi x1, v16] kc ks Q)) (e_q2 : r0 = .index q2 := by first | rfl | assumption) (e_q7 : v5 = .index q7 := by first | rfl | assumption) (y1 : s_ty r0 = 3 := by first | rfl | assumption) (n6 : s_nth f3 3 = some v5 := by first | rfl | assumption) (n17 : s_nth f14 2 = some v16 := by first | rfl | assumption) (c10 : x1 < a8.length := by first | omega | assumption | (simp only [mk_len, List.length_map]; omega) | decide) (c11 : 0 ≤ x1 := by first | omega | assumption | (simp only [mk_len, List.length_map]; omega) | decide) (c12 : In3 x1 := by first | omega | assumption | (simp only [mk_len, List.length_map]; omega) | decide) (c13 : 0 < q7 := by first | omega | assumption | (simp only [mk_len, List.length_map]; omega) | decide) : wr P d sw_c252 sw_h252 (0, [r0, vi x1, r2, vi x3, t4, t5], [], h, kc, ks) Q := by
  refine w_ld rfl rfl (Or.inr (Or.inr ⟨by decide, y1⟩)) ?_
  subst e_q2
  refine w_getf rfl g4 n6 ?_
  refine w_ld rfl rfl (Or.inl ⟨by decide, rfl⟩) ?_
  refine w_c32 rfl (by decide) 0 (by decide) ?_
  subst e_q7
  refine w_iast rfl g9 (Nat.ble_eq_true_of_le c13) c12 c11 c10 ?_
  refine w_ld rfl rfl (Or.inr (Or.inr ⟨by decide, rfl⟩)) ?_
  refine w_getf rfl g15 n17 ?_
  refine w_ld rfl rfl (Or.inl ⟨by decide, rfl⟩) ?_
  refine w_ld rfl rfl (Or.inl ⟨by decide, rfl⟩) ?_
  refine w_c32 rfl (by decide) 60 (by decide) ?_
  exact w_cs rfl [vi x3, vi 60] [vi x1, v16] rfl rfl (s_wt_4 rfl) k

theorem k252_18 {P : s_P} {d : Nat} {Q : s_O → Prop} {h : s_H} {kc ks : Nat} {r0 : Term} {x1 : Int} {r2 : Term} {x3 : Int} {t4 t5 s0 : Term} {s1 s2 : Int} {q1 : Nat} {a2 : List Int} (g3 : s_get h q1 = some (0, 0, a2.map vi)) (k : wr P d sw_c252 sw_h252 (22, [r0, vi x1, r2, vi x3, vi 0, t5], [], (hp h q1 (0, 0, (a2.set (Int.toNat (s1)) s2).map vi)), kc, ks) Q) (e_q1 : s0 = .index q1 := by first | rfl | assumption) (c4 : s1 < a2.length := by first | omega | assumption | (simp only [mk_len, List.length_map]; omega) | decide) (c5 : 0 ≤ s1 := by first | omega | assumption | (simp only [mk_len, List.length_map]; omega) | decide) (c6 : In3 s1 := by first | omega | assumption | (simp only [mk_len, List.length_map]; omega) | decide) (c7 : 0 < q1 := by first | omega | assumption | (simp only [mk_len, List.length_map]; omega) | decide) : wr P d sw_c252 sw_h252 (18, [r0, vi x1, r2, vi x3, t4, t5], [vi s2, vi s1, s0], h, kc, ks) Q := by
  subst e_q1
  refine w_iast rfl g3 (Nat.ble_eq_true_of_le c7) c6 c5 c4 ?_
  refine w_c32 rfl (by decide) 0 (by decide) ?_
  refine w_st (ls' := [r0, vi x1, r2, vi x3, vi 0, t5]) rfl (Or.inl ⟨by decide, rfl⟩) rfl ?_
  exact k

theorem k252_22 {P : s_P} {d : Nat} {Q : s_O → Prop} {h : s_H} {kc ks : Nat} {r0 : Term} {x1 : Int} {r2 : Term} {x3 x4 : Int} {t5 : Term} {q2 : Nat} {f3 : List Term} {v5 : Term} {q7 : Nat} {a8 : List Int} (g4 : s_get h q2 = some (1, 7, f3)) (g9 : s_get h q7 = some (0, 0, a8.map vi)) (k1 : gi a8 x1 ≤ x4 → wr P d sw_c252 sw_h252 (93, [.index q2, vi x1, r2, vi x3, vi x4, t5], [], h, kc, ks) Q) (k2 : ¬ gi a8 x1 ≤ x4 → wr P d sw_c252 sw_h252 (33, [.index q2, vi x1, r2, vi x3, vi x4, t5], [], h, kc, ks) Q) (e_q2 : r0 = .index q2 := by first | rfl | assumption) (e_q7 : v5 = .index q7 := by first | rfl | assumption) (y1 : s_ty r0 = 3 := by first | rfl | assumption) (n6 : s_nth f3 2 = some v5 := by first | rfl | assumption) (c10 : x1 < a8.length := by first | omega | assumption | (simp only [mk_len, List.length_map]; omega) | decide) (c11 : 0 ≤ x1 := by first | omega | assumption | (simp only [mk_len, List.length_map]; omega) | decide) (c12 : In3 x1 := by first | omega | assumption | (simp only [mk_len, List.length_map]; omega) | decide) (c13 : In3 x4 := by first | omega | assumption | (simp only [mk_len, List.length_map]; omega) | decide) (c14 : In3 (gi a8 x1) := by first | omega | assumption | (simp only [mk_len, List.length_map]; omega) | decide) : wr P d sw_c252 sw_h252 (22, [r0, vi x1, r2, vi x3, vi x4, t5], [], h, kc, ks) Q := by
  refine w_ld rfl rfl (Or.inl ⟨by decide, rfl⟩) ?_
  refine w_ld rfl rfl (Or.inr (Or.inr ⟨by decide, y1⟩)) ?_
  subst e_q2
  refine w_getf rfl g4 n6 ?_
  refine w_ld rfl rfl (Or.inl ⟨by decide, rfl⟩) ?_
  subst e_q7
  refine w_iald rfl g9 (Or.inl rfl) c12 c11 c10 ?_
  exact w_if2 rfl c13 c14 k1 k2

theorem k252_33 {P : s_P} {d : Nat} {Q : s_O → Prop} {h : s_H} {kc ks : Nat} {r0 : Term} {x1 : Int} {r2 : Term} {x3 x4 : Int} {t5 : Term} {q2 : Nat} {a3 : List Term} {tg5 : Nat} (g4 : s_get h q2 = some (0, tg5, a3)) (k1 : (a3.length : Int) ≤ x4 → wr P d sw_c252 sw_h252 (93, [r0, vi x1, .index q2, vi x3, vi x4, t5], [], h, kc, ks) Q) (k2 : ¬ (a3.length : Int) ≤ x4 → wr P d sw_c252 sw_h252 (40, [r0, vi x1, .index q2, vi x3, vi x4, t5], [], h, kc, ks) Q) (e_q2 : r2 = .index q2 := by first | rfl | assumption) (y1 : s_ty r2 = 3 := by first | rfl | assumption) (c6 : In3 x4 := by first | omega | assumption | (simp only [mk_len, List.length_map]; omega) | decide) (c7 : In3 (a3.length : Int) := by first | omega | assumption | (simp only [mk_len, List.length_map]; omega) | decide) : wr P d sw_c252 sw_h252 (33, [r0, vi x1, r2, vi x3, vi x4, t5], [], h, kc, ks) Q := by
  refine w_ld rfl rfl (Or.inl ⟨by decide, rfl⟩) ?_
  refine w_ld rfl rfl (Or.inr (Or.inr ⟨by decide, y1⟩)) ?_
  subst e_q2
  refine w_alen rfl g4 (Or.inl rfl) ?_
  exact w_if2 rfl c6 c7 k1 k2

theorem k252_40 {P : s_P} {d : Nat} {Q : s_O → Prop} {h : s_H} {kc ks : Nat} {r0 : Term} {x1 : Int} {r2 : Term} {x3 x4 : Int} {t5 : Term} {q2 : Nat} {a3 : List Int} {q9 : Nat} {f10 : List Term} {v12 : Term} {q14 : Nat} {a15 : List Term} {tg17 : Nat} {v18 : Term} {q23 : Nat} {a24 : List Int} (g4 : s_get h q2 = some (0, 0, a3.map vi)) (g11 : s_get h q9 = some (1, 7, f10)) (g16 : s_get h q14 = some (0, tg17, a15)) (g25 : s_get h q23 = some (0, 0, a24.map vi)) (k1 : gi a3 x4 < 65 → wr P d sw_c252 sw_h252 (87, [.index q9, vi x1, .index q2, vi x3, vi x4, vi (gi a3 x4)], [], (hp h q23 (0, 0, (a24.set (Int.toNat (x4)) (gi a3 x4)).map vi)), kc, ks) Q) (k2 : ¬ gi a3 x4 < 65 → wr P d sw_c252 sw_h252 (64, [.index q9, vi x1, .index q2, vi x3, vi x4, vi (gi a3 x4)], [], (hp h q23 (0, 0, (a24.set (Int.toNat (x4)) (gi a3 x4)).map vi)), kc, ks) Q) (e_q2 : r2 = .index q2 := by first | rfl | assumption) (e_q9 : r0 = .index q9 := by first | rfl | assumption) (e_q14 : v12 = .index q14 := by first | rfl | assumption) (e_q23 : v18 = .index q23 := by first | rfl | assumption) (y1 : s_ty r2 = 3 := by first | rfl | assumption) (y8 : s_ty r0 = 3 := by first | rfl | assumption) (n13 : s_nth f10 1 = some v12 := by first | rfl | assumption) (n19 : s_nth a15 (Int.toNat (x1)) = some v18 := by first | rfl | assumption) (u20 : tg17 = 2 ∨ tg17 = 3 ∨ tg17 = 4 := by first | decide | assumption) (c5 : x4 < a3.length := by first | omega | assumption | (simp only [mk_len, List.length_map]; omega) | decide) (c6 : 0 ≤ x4 := by first | omega | assumption | (simp only [mk_len, List.length_map]; omega) | decide) (c7 : In3 x4 := by first | omega | assumption | (simp only [mk_len, List.length_map]; omega) | decide) (c21 : In3 x1 := by first | omega | assumption | (simp only [mk_len, List.length_map]; omega) | decide) (c22 : 0 ≤ x1 := by first | omega | assumption | (simp only [mk_len, List.length_map]; omega) | decide) (c26 : x4 < a24.length := by first | omega | assumption | (simp only [mk_len, List.length_map]; omega) | decide) (c27 : 0 < q23 := by first | omega | assumption | (simp only [mk_len, List.length_map]; omega) | decide) (c28 : In3 (gi a3 x4) := by first | omega | assumption | (simp only [mk_len, List.length_map]; omega) | decide) : wr P d sw_c252 sw_h252 (40, [r0, vi x1, r2, vi x3, vi x4, t5], [], h, kc, ks) Q := by
  refine w_ld rfl rfl (Or.inr (Or.inr ⟨by decide, y1⟩)) ?_
  refine w_ld rfl rfl (Or.inl ⟨by decide, rfl⟩) ?_
  subst e_q2
  refine w_iald rfl g4 (Or.inl rfl) c7 c6 c5 ?_
  refine w_st (ls' := [r0, vi x1, .index q2, vi x3, vi x4, vi (gi a3 x4)]) rfl (Or.inl ⟨by decide, rfl⟩) rfl ?_
  refine w_ld rfl rfl (Or.inr (Or.inr ⟨by decide, y8⟩)) ?_
  subst e_q9
  refine w_getf rfl g11 n13 ?_
  refine w_ld rfl rfl (Or.inl ⟨by decide, rfl⟩) ?_
  subst e_q14
  refine w_aald rfl g16 u20 c21 c22 n19 ?_
  refine w_ld rfl rfl (Or.inl ⟨by decide, rfl⟩) ?_
  refine w_ld rfl rfl (Or.inl ⟨by decide, rfl⟩) ?_
  subst e_q23
  refine w_iast rfl g25 (Nat.ble_eq_true_of_le c27) c7 c6 c26 ?_
  refine w_ld rfl rfl (Or.inl ⟨by decide, rfl⟩) ?_
  refine w_c32 rfl (by decide) 65 (by decide) ?_
  exact w_if2 rfl c28 (by decide) k1 k2

theorem k252_64 {P : s_P} {d : Nat} {Q : s_O → Prop} {h : s_H} {kc ks : Nat} {r0 : Term} {x1 : Int} {r2 : Term} {x3 x4 x5 : Int}  (k1 : 81 ≤ x5 → wr P d sw_c252 sw_h252 (87, [r0, vi x1, r2, vi x3, vi x4, vi x5], [], h, kc, ks) Q) (k2 : ¬ 81 ≤ x5 → wr P d sw_c252 sw_h252 (71, [r0, vi x1, r2, vi x3, vi x4, vi x5], [], h, kc, ks) Q)  (c1 : In3 x5 := by first | omega | assumption | (simp only [mk_len, List.length_map]; omega) | decide) : wr P d sw_c252 sw_h252 (64, [r0, vi x1, r2, vi x3, vi x4, vi x5], [], h, kc, ks) Q := by
  refine w_ld rfl rfl (Or.inl ⟨by decide, rfl⟩) ?_
  refine w_c32 rfl (by decide) 81 (by decide) ?_
  exact w_if2 rfl c1 (by decide) k1 k2

theorem k252_71 {P : s_P} {d : Nat} {Q : s_O → Prop} {h : s_H} {kc ks : Nat} {r0 : Term} {x1 : Int} {r2 : Term} {x3 x4 x5 : Int} {q2 : Nat} {f3 : List Term} {v5 : Term} {q8 : Nat} {a9 : List Int} (g4 : s_get h q2 = some (1, 7, f3)) (g10 : s_get h q8 = some (0, 0, a9.map vi)) (k : wr P d sw_c252 sw_h252 (87, [.index q2, vi x1, r2, vi x3, vi x4, vi x5], [], (hp h q8 (0, 0, (a9.set (Int.toNat (x1)) (zi 25 (gi a9 x1) (zi 27 1 (x5 - 65)))).map vi)), kc, ks) Q) (e_q2 : r0 = .index q2 := by first | rfl | assumption) (e_q8 : v5 = .index q8 := by first | rfl | assumption) (y1 : s_ty r0 = 3 := by first | rfl | assumption) (n6 : s_nth f3 3 = some v5 := by first | rfl | assumption) (y7 : s_ty v5 = 3 := by first | rfl | assumption) (c11 : x1 < a9.length := by first | omega | assumption | (simp only [mk_len, List.length_map]; omega) | decide) (c12 : 0 ≤ x1 := by first | omega | assumption | (simp only [mk_len, List.length_map]; omega) | decide) (c13 : In3 x1 := by first | omega | assumption | (simp only [mk_len, List.length_map]; omega) | decide) (c14 : 0 < q8 := by first | omega | assumption | (simp only [mk_len, List.length_map]; omega) | decide) : wr P d sw_c252 sw_h252 (71, [r0, vi x1, r2, vi x3, vi x4, vi x5], [], h, kc, ks) Q := by
  refine w_ld rfl rfl (Or.inr (Or.inr ⟨by decide, y1⟩)) ?_
  subst e_q2
  refine w_getf rfl g4 n6 ?_
  refine w_ld rfl rfl (Or.inl ⟨by decide, rfl⟩) ?_
  refine w_dup2 rfl (by rw [y7]; rfl) ?_
  subst e_q8
  refine w_iald rfl g10 (Or.inl rfl) c13 c12 c11 ?_
  refine w_c32 rfl (by decide) 1 (by decide) ?_
  refine w_ld rfl rfl (Or.inl ⟨by decide, rfl⟩) ?_
  refine w_c32 rfl (by decide) 65 (by decide) ?_
  refine w_isub rfl ?_
  refine w_ib rfl (by decide) ?_
  refine w_ib rfl (by decide) ?_
  refine w_iast rfl g10 (Nat.ble_eq_true_of_le c14) c13 c12 c11 ?_
  exact k

theorem k252_87 {P : s_P} {d : Nat} {Q : s_O → Prop} {h : s_H} {kc ks : Nat} {r0 : Term} {x1 : Int} {r2 : Term} {x3 x4 x5 : Int}  (k : wr P d sw_c252 sw_h252 (22, [r0, vi x1, r2, vi x3, vi (x4 + 1), vi x5], [], h, kc, ks) Q)   : wr P d sw_c252 sw_h252 (87, [r0, vi x1, r2, vi x3, vi x4, vi x5], [], h, kc, ks) Q := by
  refine w_iinc (ls' := [r0, vi x1, r2, vi x3, vi (x4 + 1), vi x5]) rfl rfl 1 (by decide) rfl ?_
  refine w_goto rfl ?_
  exact k

theorem k252_93 {P : s_P} {d : Nat} {Q : s_O → Prop} {h : s_H} {kc ks : Nat} {r0 : Term} {x1 : Int} {r2 : Term} {x3 x4 : Int} {t5 : Term}  (k : wr P d sw_c252 sw_h252 (96, [r0, vi x1, r2, vi x3, vi 0, t5], [], h, kc, ks) Q)   : wr P d sw_c252 sw_h252 (93, [r0, vi x1, r2, vi x3, vi x4, t5], [], h, kc, ks) Q := by
  refine w_c32 rfl (by decide) 0 (by decide) ?_
  refine w_st (ls' := [r0, vi x1, r2, vi x3, vi 0, t5]) rfl (Or.inl ⟨by decide, rfl⟩) rfl ?_
  exact k

theorem k252_96 {P : s_P} {d : Nat} {Q : s_O → Prop} {h : s_H} {kc ks : Nat} {r0 : Term} {x1 : Int} {r2 : Term} {x3 x4 : Int} {t5 : Term}  (k1 : 16 ≤ x4 → wr P d sw_c252 sw_h252 (151, [r0, vi x1, r2, vi x3, vi x4, t5], [], h, kc, ks) Q) (k2 : ¬ 16 ≤ x4 → wr P d sw_c252 sw_h252 (103, [r0, vi x1, r2, vi x3, vi x4, t5], [], h, kc, ks) Q)  (c1 : In3 x4 := by first | omega | assumption | (simp only [mk_len, List.length_map]; omega) | decide) : wr P d sw_c252 sw_h252 (96, [r0, vi x1, r2, vi x3, vi x4, t5], [], h, kc, ks) Q := by
  refine w_ld rfl rfl (Or.inl ⟨by decide, rfl⟩) ?_
  refine w_c32 rfl (by decide) 16 (by decide) ?_
  exact w_if2 rfl c1 (by decide) k1 k2

theorem k252_103 {P : s_P} {d : Nat} {Q : s_O → Prop} {h : s_H} {kc ks : Nat} {r0 : Term} {x1 : Int} {r2 : Term} {x3 x4 : Int} {t5 : Term} {q2 : Nat} {f3 : List Term} (g4 : s_get h q2 = some (1, 7, f3)) (k : wm P d 254 [.index q2, vi x4] h (wq P d sw_c252 sw_h252 109 [.index q2, vi x1, r2, vi x3, vi x4, t5] [] kc ks Q)) (e_q2 : r0 = .index q2 := by first | rfl | assumption) (y1 : s_ty r0 = 3 := by first | rfl | assumption)  : wr P d sw_c252 sw_h252 (103, [r0, vi x1, r2, vi x3, vi x4, t5], [], h, kc, ks) Q := by
  refine w_ld rfl rfl (Or.inr (Or.inr ⟨by decide, y1⟩)) ?_
  refine w_ld rfl rfl (Or.inl ⟨by decide, rfl⟩) ?_
  subst e_q2
  exact w_cv rfl [.index q2, vi x4] [] rfl rfl (s_wt_4 rfl) rfl g4 k

theorem k252_109 {P : s_P} {d : Nat} {Q : s_O → Prop} {h : s_H} {kc ks : Nat} {r0 : Term} {x1 : Int} {r2 : Term} {x3 x4 : Int} {t5 : Term}  (k1 : x4 = x1 → wr P d sw_c252 sw_h252 (130, [r0, vi x1, r2, vi x3, vi x4, t5], [], h, kc, ks) Q) (k2 : ¬ x4 = x1 → wr P d sw_c252 sw_h252 (115, [r0, vi x1, r2, vi x3, vi x4, t5], [], h, kc, ks) Q)  (c1 : In3 x4 := by first | omega | assumption | (simp only [mk_len, List.length_map]; omega) | decide) (c2 : In3 x1 := by first | omega | assumption | (simp only [mk_len, List.length_map]; omega) | decide) : wr P d sw_c252 sw_h252 (109, [r0, vi x1, r2, vi x3, vi x4, t5], [], h, kc, ks) Q := by
  refine w_ld rfl rfl (Or.inl ⟨by decide, rfl⟩) ?_
  refine w_ld rfl rfl (Or.inl ⟨by decide, rfl⟩) ?_
  exact w_if2 rfl c1 c2 k1 k2

theorem k252_115 {P : s_P} {d : Nat} {Q : s_O → Prop} {h : s_H} {kc ks : Nat} {r0 : Term} {x1 : Int} {r2 : Term} {x3 x4 : Int} {t5 : Term} {q2 : Nat} {f3 : List Term} {v5 : Term} {q7 : Nat} {a8 : List Int} (g4 : s_get h q2 = some (1, 7, f3)) (g9 : s_get h q7 = some (0, 0, a8.map vi)) (k1 : zi 24 (zi 28 (gi a8 x4) x1) 1 ≠ 1 → wr P d sw_c252 sw_h252 (145, [.index q2, vi x1, r2, vi x3, vi x4, t5], [], h, kc, ks) Q) (k2 : ¬ zi 24 (zi 28 (gi a8 x4) x1) 1 ≠ 1 → wr P d sw_c252 sw_h252 (130, [.index q2, vi x1, r2, vi x3, vi x4, t5], [], h, kc, ks) Q) (e_q2 : r0 = .index q2 := by first | rfl | assumption) (e_q7 : v5 = .index q7 := by first | rfl | assumption) (y1 : s_ty r0 = 3 := by first | rfl | assumption) (n6 : s_nth f3 4 = some v5 := by first | rfl | assumption) (c10 : x4 < a8.length := by first | omega | assumption | (simp only [mk_len, List.length_map]; omega) | decide) (c11 : 0 ≤ x4 := by first | omega | assumption | (simp only [mk_len, List.length_map]; omega) | decide) (c12 : In3 x4 := by first | omega | assumption | (simp only [mk_len, List.length_map]; omega) | decide) (c13 : In3 (zi 24 (zi 28 (gi a8 x4) x1) 1) := by first | omega | assumption | (simp only [mk_len, List.length_map]; omega) | decide) : wr P d sw_c252 sw_h252 (115, [r0, vi x1, r2, vi x3, vi x4, t5], [], h, kc, ks) Q := by
  refine w_ld rfl rfl (Or.inr (Or.inr ⟨by decide, y1⟩)) ?_
  subst e_q2
  refine w_getf rfl g4 n6 ?_
  refine w_ld rfl rfl (Or.inl ⟨by decide, rfl⟩) ?_
  subst e_q7
  refine w_iald rfl g9 (Or.inl rfl) c12 c11 c10 ?_
  refine w_ld rfl rfl (Or.inl ⟨by decide, rfl⟩) ?_
  refine w_ib rfl (by decide) ?_
  refine w_c32 rfl (by decide) 1 (by decide) ?_
  refine w_ib rfl (by decide) ?_
  refine w_c32 rfl (by decide) 1 (by decide) ?_
  exact w_if2 rfl c13 (by decide) k1 k2

theorem k252_130 {P : s_P} {d : Nat} {Q : s_O → Prop} {h : s_H} {kc ks : Nat} {r0 : Term} {x1 : Int} {r2 : Term} {x3 x4 : Int} {t5 : Term} {q2 : Nat} {f3 : List Term} {z5 : Int} (g4 : s_get h q2 = some (1, 7, f3)) (k : wr P d sw_c252 sw_h252 (145, [.index q2, vi x1, r2, vi x3, vi x4, t5], [], (hp h q2 (1, 7, f3.set 8 (vi (zi 24 z5 (zi 26 (zi 27 1 x4) (-1)))))), kc, ks) Q) (e_q2 : r0 = .index q2 := by first | rfl | assumption) (y1 : s_ty r0 = 3 := by first | rfl | assumption) (n6 : s_nth f3 8 = some (vi z5) := by first | rfl | assumption) (l7 : 8 < f3.length := by first | exact Nat.le_of_ble_eq_true rfl | omega | assumption) (c8 : 0 < q2 := by first | omega | assumption | (simp only [mk_len, List.length_map]; omega) | decide) : wr P d sw_c252 sw_h252 (130, [r0, vi x1, r2, vi x3, vi x4, t5], [], h, kc, ks) Q := by
  refine w_ld rfl rfl (Or.inr (Or.inr ⟨by decide, y1⟩)) ?_
  refine w_dup rfl (by rw [y1]; rfl) ?_
  subst e_q2
  refine w_getf rfl g4 n6 ?_
  refine w_c32 rfl (by decide) 1 (by decide) ?_
  refine w_ld rfl rfl (Or.inl ⟨by decide, rfl⟩) ?_
  refine w_ib rfl (by decide) ?_
  refine w_c32 rfl (by decide) (-1) (by decide) ?_
  refine w_ib rfl (by decide) ?_
  refine w_ib rfl (by decide) ?_
  refine w_putf rfl g4 (Nat.ble_eq_true_of_le c8) rfl (Nat.ble_eq_true_of_le l7) ?_
  exact k

theorem k252_145 {P : s_P} {d : Nat} {Q : s_O → Prop} {h : s_H} {kc ks : Nat} {r0 : Term} {x1 : Int} {r2 : Term} {x3 x4 : Int} {t5 : Term}  (k : wr P d sw_c252 sw_h252 (96, [r0, vi x1, r2, vi x3, vi (x4 + 1), t5], [], h, kc, ks) Q)   : wr P d sw_c252 sw_h252 (145, [r0, vi x1, r2, vi x3, vi x4, t5], [], h, kc, ks) Q := by
  refine w_iinc (ls' := [r0, vi x1, r2, vi x3, vi (x4 + 1), t5]) rfl rfl 1 (by decide) rfl ?_
  refine w_goto rfl ?_
  exact k

theorem k252_151 {P : s_P} {d : Nat} {Q : s_O → Prop} {h : s_H} {kc ks : Nat} {r0 : Term} {x1 : Int} {r2 : Term} {x3 x4 : Int} {t5 : Term}  (k : Q (.inl none, h, kc, ks))   : wr P d sw_c252 sw_h252 (151, [r0, vi x1, r2, vi x3, vi x4, t5], [], h, kc, ks) Q := by
  exact w_ret rfl k

/-! 253: FormulaWorks$Sheet.faultOf(I)I -/
theorem k253_0 {P : s_P} {d : Nat} {Q : s_O → Prop} {h : s_H} {kc ks : Nat} {r0 : Term} {x1 : Int} {q2 : Nat} {f3 : List Term} {v5 : Term} {q7 : Nat} {a8 : List Int} (g4 : s_get h q2 = some (1, 7, f3)) (g9 : s_get h q7 = some (0, 0, a8.map vi)) (k1 : gi a8 x1 ≠ 0 → wr P d sw_c253 sw_h253 (11, [.index q2, vi x1], [], h, kc, ks) Q) (k2 : ¬ gi a8 x1 ≠ 0 → wr P d sw_c253 sw_h253 (9, [.index q2, vi x1], [], h, kc, ks) Q) (e_q2 : r0 = .index q2 := by first | rfl | assumption) (e_q7 : v5 = .index q7 := by first | rfl | assumption) (y1 : s_ty r0 = 3 := by first | rfl | assumption) (n6 : s_nth f3 2 = some v5 := by first | rfl | assumption) (c10 : x1 < a8.length := by first | omega | assumption | (simp only [mk_len, List.length_map]; omega) | decide) (c11 : 0 ≤ x1 := by first | omega | assumption | (simp only [mk_len, List.length_map]; omega) | decide) (c12 : In3 x1 := by first | omega | assumption | (simp only [mk_len, List.length_map]; omega) | decide) (c13 : In3 (gi a8 x1) := by first | omega | assumption | (simp only [mk_len, List.length_map]; omega) | decide) : wr P d sw_c253 sw_h253 (0, [r0, vi x1], [], h, kc, ks) Q := by
  refine w_ld rfl rfl (Or.inr (Or.inr ⟨by decide, y1⟩)) ?_
  subst e_q2
  refine w_getf rfl g4 n6 ?_
  refine w_ld rfl rfl (Or.inl ⟨by decide, rfl⟩) ?_
  subst e_q7
  refine w_iald rfl g9 (Or.inl rfl) c12 c11 c10 ?_
  exact w_if1 rfl c13 k1 k2

theorem k253_9 {P : s_P} {d : Nat} {Q : s_O → Prop} {h : s_H} {kc ks : Nat} {r0 : Term} {x1 : Int}  (k : Q (.inl (some (vi 0)), h, kc, ks))   : wr P d sw_c253 sw_h253 (9, [r0, vi x1], [], h, kc, ks) Q := by
  refine w_c32 rfl (by decide) 0 (by decide) ?_
  exact w_iret rfl k

theorem k253_11 {P : s_P} {d : Nat} {Q : s_O → Prop} {h : s_H} {kc ks : Nat} {r0 : Term} {x1 : Int} {q2 : Nat} {f3 : List Term} (g4 : s_get h q2 = some (1, 7, f3)) (k : wm P d 257 [.index q2, vi x1] h (wq P d sw_c253 sw_h253 16 [.index q2, vi x1] [] kc ks Q)) (e_q2 : r0 = .index q2 := by first | rfl | assumption) (y1 : s_ty r0 = 3 := by first | rfl | assumption)  : wr P d sw_c253 sw_h253 (11, [r0, vi x1], [], h, kc, ks) Q := by
  refine w_ld rfl rfl (Or.inr (Or.inr ⟨by decide, y1⟩)) ?_
  refine w_ld rfl rfl (Or.inl ⟨by decide, rfl⟩) ?_
  subst e_q2
  exact w_cv rfl [.index q2, vi x1] [] rfl rfl (s_wt_4 rfl) rfl g4 k

theorem k253_16 {P : s_P} {d : Nat} {Q : s_O → Prop} {h : s_H} {kc ks : Nat} {r0 : Term} {x1 s0 : Int}  (k1 : s0 = 0 → wr P d sw_c253 sw_h253 (24, [r0, vi x1], [], h, kc, ks) Q) (k2 : ¬ s0 = 0 → wr P d sw_c253 sw_h253 (19, [r0, vi x1], [], h, kc, ks) Q)  (c1 : In3 s0 := by first | omega | assumption | (simp only [mk_len, List.length_map]; omega) | decide) : wr P d sw_c253 sw_h253 (16, [r0, vi x1], [vi s0], h, kc, ks) Q := by
  exact w_if1 rfl c1 k1 k2

theorem k253_19 {P : s_P} {d : Nat} {Q : s_O → Prop} {h : s_H} {kc ks : Nat} {r0 : Term} {x1 : Int}  (k : wr P d sw_c253 sw_h253 (30, [r0, vi x1], [vi 8], h, kc, ks) Q)   : wr P d sw_c253 sw_h253 (19, [r0, vi x1], [], h, kc, ks) Q := by
  refine w_c32 rfl (by decide) 8 (by decide) ?_
  refine w_goto rfl ?_
  exact k

theorem k253_24 {P : s_P} {d : Nat} {Q : s_O → Prop} {h : s_H} {kc ks : Nat} {r0 : Term} {x1 : Int} {q2 : Nat} {f3 : List Term} {v5 : Term} {q7 : Nat} {a8 : List Int} (g4 : s_get h q2 = some (1, 7, f3)) (g9 : s_get h q7 = some (0, 0, a8.map vi)) (k : wr P d sw_c253 sw_h253 (30, [.index q2, vi x1], [vi (gi a8 x1)], h, kc, ks) Q) (e_q2 : r0 = .index q2 := by first | rfl | assumption) (e_q7 : v5 = .index q7 := by first | rfl | assumption) (y1 : s_ty r0 = 3 := by first | rfl | assumption) (n6 : s_nth f3 6 = some v5 := by first | rfl | assumption) (c10 : x1 < a8.length := by first | omega | assumption | (simp only [mk_len, List.length_map]; omega) | decide) (c11 : 0 ≤ x1 := by first | omega | assumption | (simp only [mk_len, List.length_map]; omega) | decide) (c12 : In3 x1 := by first | omega | assumption | (simp only [mk_len, List.length_map]; omega) | decide) : wr P d sw_c253 sw_h253 (24, [r0, vi x1], [], h, kc, ks) Q := by
  refine w_ld rfl rfl (Or.inr (Or.inr ⟨by decide, y1⟩)) ?_
  subst e_q2
  refine w_getf rfl g4 n6 ?_
  refine w_ld rfl rfl (Or.inl ⟨by decide, rfl⟩) ?_
  subst e_q7
  refine w_iald rfl g9 (Or.inl rfl) c12 c11 c10 ?_
  exact k

theorem k253_30 {P : s_P} {d : Nat} {Q : s_O → Prop} {h : s_H} {kc ks : Nat} {r0 : Term} {x1 s0 : Int}  (k : Q (.inl (some (vi s0)), h, kc, ks))   : wr P d sw_c253 sw_h253 (30, [r0, vi x1], [vi s0], h, kc, ks) Q := by
  exact w_iret rfl k

/-! 254: FormulaWorks$Sheet.findHanging(I)V -/
theorem k254_0 {P : s_P} {d : Nat} {Q : s_O → Prop} {h : s_H} {kc ks : Nat} {r0 : Term} {x1 : Int} {t2 t3 t4 : Term} {q2 : Nat} {f3 : List Term} {v5 : Term} {q7 : Nat} {a8 : List Int} (g4 : s_get h q2 = some (1, 7, f3)) (g9 : s_get h q7 = some (0, 0, a8.map vi)) (k : wr P d sw_c254 sw_h254 (9, [.index q2, vi x1, vi (gi a8 x1), vi 0, t4], [], h, kc, ks) Q) (e_q2 : r0 = .index q2 := by first | rfl | assumption) (e_q7 : v5 = .index q7 := by first | rfl | assumption) (y1 : s_ty r0 = 3 := by first | rfl | assumption) (n6 : s_nth f3 3 = some v5 := by first | rfl | assumption) (c10 : x1 < a8.length := by first | omega | assumption | (simp only [mk_len, List.length_map]; omega) | decide) (c11 : 0 ≤ x1 := by first | omega | assumption | (simp only [mk_len, List.length_map]; omega) | decide) (c12 : In3 x1 := by first | omega | assumption | (simp only [mk_len, List.length_map]; omega) | decide) : wr P d sw_c254 sw_h254 (0, [r0, vi x1, t2, t3, t4], [], h, kc, ks) Q := by
  refine w_ld rfl rfl (Or.inr (Or.inr ⟨by decide, y1⟩)) ?_
  subst e_q2
  refine w_getf rfl g4 n6 ?_
  refine w_ld rfl rfl (Or.inl ⟨by decide, rfl⟩) ?_
  subst e_q7
  refine w_iald rfl g9 (Or.inl rfl) c12 c11 c10 ?_
  refine w_st (ls' := [.index q2, vi x1, vi (gi a8 x1), t3, t4]) rfl (Or.inl ⟨by decide, rfl⟩) rfl ?_
  refine w_c32 rfl (by decide) 0 (by decide) ?_
  refine w_st (ls' := [.index q2, vi x1, vi (gi a8 x1), vi 0, t4]) rfl (Or.inl ⟨by decide, rfl⟩) rfl ?_
  exact k

theorem k254_9 {P : s_P} {d : Nat} {Q : s_O → Prop} {h : s_H} {kc ks : Nat} {r0 : Term} {x1 x2 x3 : Int} {t4 : Term}  (k1 : 16 ≤ x3 → wr P d sw_c254 sw_h254 (57, [r0, vi x1, vi x2, vi x3, t4], [], h, kc, ks) Q) (k2 : ¬ 16 ≤ x3 → wr P d sw_c254 sw_h254 (15, [r0, vi x1, vi x2, vi x3, t4], [], h, kc, ks) Q)  (c1 : In3 x3 := by first | omega | assumption | (simp only [mk_len, List.length_map]; omega) | decide) : wr P d sw_c254 sw_h254 (9, [r0, vi x1, vi x2, vi x3, t4], [], h, kc, ks) Q := by
  refine w_ld rfl rfl (Or.inl ⟨by decide, rfl⟩) ?_
  refine w_c32 rfl (by decide) 16 (by decide) ?_
  exact w_if2 rfl c1 (by decide) k1 k2

theorem k254_15 {P : s_P} {d : Nat} {Q : s_O → Prop} {h : s_H} {kc ks : Nat} {r0 : Term} {x1 x2 x3 : Int} {t4 : Term}  (k : wr P d sw_c254 sw_h254 (18, [r0, vi x1, vi x2, vi x3, vi 0], [], h, kc, ks) Q)   : wr P d sw_c254 sw_h254 (15, [r0, vi x1, vi x2, vi x3, t4], [], h, kc, ks) Q := by
  refine w_c32 rfl (by decide) 0 (by decide) ?_
  refine w_st (ls' := [r0, vi x1, vi x2, vi x3, vi 0]) rfl (Or.inl ⟨by decide, rfl⟩) rfl ?_
  exact k

theorem k254_18 {P : s_P} {d : Nat} {Q : s_O → Prop} {h : s_H} {kc ks : Nat} {r0 : Term} {x1 x2 x3 x4 : Int}  (k1 : 16 ≤ x4 → wr P d sw_c254 sw_h254 (51, [r0, vi x1, vi x2, vi x3, vi x4], [], h, kc, ks) Q) (k2 : ¬ 16 ≤ x4 → wr P d sw_c254 sw_h254 (25, [r0, vi x1, vi x2, vi x3, vi x4], [], h, kc, ks) Q)  (c1 : In3 x4 := by first | omega | assumption | (simp only [mk_len, List.length_map]; omega) | decide) : wr P d sw_c254 sw_h254 (18, [r0, vi x1, vi x2, vi x3, vi x4], [], h, kc, ks) Q := by
  refine w_ld rfl rfl (Or.inl ⟨by decide, rfl⟩) ?_
  refine w_c32 rfl (by decide) 16 (by decide) ?_
  exact w_if2 rfl c1 (by decide) k1 k2

theorem k254_25 {P : s_P} {d : Nat} {Q : s_O → Prop} {h : s_H} {kc ks : Nat} {r0 : Term} {x1 x2 x3 x4 : Int}  (k1 : zi 24 (zi 28 x2 x4) 1 ≠ 1 → wr P d sw_c254 sw_h254 (45, [r0, vi x1, vi x2, vi x3, vi x4], [], h, kc, ks) Q) (k2 : ¬ zi 24 (zi 28 x2 x4) 1 ≠ 1 → wr P d sw_c254 sw_h254 (35, [r0, vi x1, vi x2, vi x3, vi x4], [], h, kc, ks) Q)  (c1 : In3 (zi 24 (zi 28 x2 x4) 1) := by first | omega | assumption | (simp only [mk_len, List.length_map]; omega) | decide) : wr P d sw_c254 sw_h254 (25, [r0, vi x1, vi x2, vi x3, vi x4], [], h, kc, ks) Q := by
  refine w_ld rfl rfl (Or.inl ⟨by decide, rfl⟩) ?_
  refine w_ld rfl rfl (Or.inl ⟨by decide, rfl⟩) ?_
  refine w_ib rfl (by decide) ?_
  refine w_c32 rfl (by decide) 1 (by decide) ?_
  refine w_ib rfl (by decide) ?_
  refine w_c32 rfl (by decide) 1 (by decide) ?_
  exact w_if2 rfl c1 (by decide) k1 k2

theorem k254_35 {P : s_P} {d : Nat} {Q : s_O → Prop} {h : s_H} {kc ks : Nat} {r0 : Term} {x1 x2 x3 x4 : Int} {q2 : Nat} {f3 : List Term} {v5 : Term} {q7 : Nat} {a8 : List Int} (g4 : s_get h q2 = some (1, 7, f3)) (g9 : s_get h q7 = some (0, 0, a8.map vi)) (k : wr P d sw_c254 sw_h254 (45, [.index q2, vi x1, vi (zi 25 x2 (gi a8 x4)), vi x3, vi x4], [], h, kc, ks) Q) (e_q2 : r0 = .index q2 := by first | rfl | assumption) (e_q7 : v5 = .index q7 := by first | rfl | assumption) (y1 : s_ty r0 = 3 := by first | rfl | assumption) (n6 : s_nth f3 3 = some v5 := by first | rfl | assumption) (c10 : x4 < a8.length := by first | omega | assumption | (simp only [mk_len, List.length_map]; omega) | decide) (c11 : 0 ≤ x4 := by first | omega | assumption | (simp only [mk_len, List.length_map]; omega) | decide) (c12 : In3 x4 := by first | omega | assumption | (simp only [mk_len, List.length_map]; omega) | decide) : wr P d sw_c254 sw_h254 (35, [r0, vi x1, vi x2, vi x3, vi x4], [], h, kc, ks) Q := by
  refine w_ld rfl rfl (Or.inl ⟨by decide, rfl⟩) ?_
  refine w_ld rfl rfl (Or.inr (Or.inr ⟨by decide, y1⟩)) ?_
  subst e_q2
  refine w_getf rfl g4 n6 ?_
  refine w_ld rfl rfl (Or.inl ⟨by decide, rfl⟩) ?_
  subst e_q7
  refine w_iald rfl g9 (Or.inl rfl) c12 c11 c10 ?_
  refine w_ib rfl (by decide) ?_
  refine w_st (ls' := [.index q2, vi x1, vi (zi 25 x2 (gi a8 x4)), vi x3, vi x4]) rfl (Or.inl ⟨by decide, rfl⟩) rfl ?_
  exact k

theorem k254_45 {P : s_P} {d : Nat} {Q : s_O → Prop} {h : s_H} {kc ks : Nat} {r0 : Term} {x1 x2 x3 x4 : Int}  (k : wr P d sw_c254 sw_h254 (18, [r0, vi x1, vi x2, vi x3, vi (x4 + 1)], [], h, kc, ks) Q)   : wr P d sw_c254 sw_h254 (45, [r0, vi x1, vi x2, vi x3, vi x4], [], h, kc, ks) Q := by
  refine w_iinc (ls' := [r0, vi x1, vi x2, vi x3, vi (x4 + 1)]) rfl rfl 1 (by decide) rfl ?_
  refine w_goto rfl ?_
  exact k

theorem k254_51 {P : s_P} {d : Nat} {Q : s_O → Prop} {h : s_H} {kc ks : Nat} {r0 : Term} {x1 x2 x3 x4 : Int}  (k : wr P d sw_c254 sw_h254 (9, [r0, vi x1, vi x2, vi (x3 + 1), vi x4], [], h, kc, ks) Q)   : wr P d sw_c254 sw_h254 (51, [r0, vi x1, vi x2, vi x3, vi x4], [], h, kc, ks) Q := by
  refine w_iinc (ls' := [r0, vi x1, vi x2, vi (x3 + 1), vi x4]) rfl rfl 1 (by decide) rfl ?_
  refine w_goto rfl ?_
  exact k

theorem k254_57 {P : s_P} {d : Nat} {Q : s_O → Prop} {h : s_H} {kc ks : Nat} {r0 : Term} {x1 x2 x3 : Int} {t4 : Term} {q2 : Nat} {f3 : List Term} {v5 : Term} {q7 : Nat} {a8 : List Int} (g4 : s_get h q2 = some (1, 7, f3)) (g9 : s_get h q7 = some (0, 0, a8.map vi)) (k : Q (.inl none, (hp h q7 (0, 0, (a8.set (Int.toNat (x1)) x2).map vi)), kc, ks)) (e_q2 : r0 = .index q2 := by first | rfl | assumption) (e_q7 : v5 = .index q7 := by first | rfl | assumption) (y1 : s_ty r0 = 3 := by first | rfl | assumption) (n6 : s_nth f3 4 = some v5 := by first | rfl | assumption) (c10 : x1 < a8.length := by first | omega | assumption | (simp only [mk_len, List.length_map]; omega) | decide) (c11 : 0 ≤ x1 := by first | omega | assumption | (simp only [mk_len, List.length_map]; omega) | decide) (c12 : In3 x1 := by first | omega | assumption | (simp only [mk_len, List.length_map]; omega) | decide) (c13 : 0 < q7 := by first | omega | assumption | (simp only [mk_len, List.length_map]; omega) | decide) : wr P d sw_c254 sw_h254 (57, [r0, vi x1, vi x2, vi x3, t4], [], h, kc, ks) Q := by
  refine w_ld rfl rfl (Or.inr (Or.inr ⟨by decide, y1⟩)) ?_
  subst e_q2
  refine w_getf rfl g4 n6 ?_
  refine w_ld rfl rfl (Or.inl ⟨by decide, rfl⟩) ?_
  refine w_ld rfl rfl (Or.inl ⟨by decide, rfl⟩) ?_
  subst e_q7
  refine w_iast rfl g9 (Nat.ble_eq_true_of_le c13) c12 c11 c10 ?_
  exact w_ret rfl k

/-! 255: FormulaWorks$Sheet.fractionOf(I)LFormulaWorks$Thing; -/
theorem k255_0 {P : s_P} {d : Nat} {Q : s_O → Prop} {h : s_H} {kc ks : Nat} {r0 : Term} {x1 : Int} {q2 : Nat} {f3 : List Term} (g4 : s_get h q2 = some (1, 7, f3)) (k : wm P d 260 [.index q2, vi x1] h (wq P d sw_c255 sw_h255 5 [.index q2, vi x1] [] kc ks Q)) (e_q2 : r0 = .index q2 := by first | rfl | assumption) (y1 : s_ty r0 = 3 := by first | rfl | assumption)  : wr P d sw_c255 sw_h255 (0, [r0, vi x1], [], h, kc, ks) Q := by
  refine w_ld rfl rfl (Or.inr (Or.inr ⟨by decide, y1⟩)) ?_
  refine w_ld rfl rfl (Or.inl ⟨by decide, rfl⟩) ?_
  subst e_q2
  exact w_cv rfl [.index q2, vi x1] [] rfl rfl (s_wt_4 rfl) rfl g4 k

theorem k255_5 {P : s_P} {d : Nat} {Q : s_O → Prop} {h : s_H} {kc ks : Nat} {r0 : Term} {x1 s0 : Int}  (k1 : s0 ≠ 1 → wr P d sw_c255 sw_h255 (18, [r0, vi x1], [], h, kc, ks) Q) (k2 : ¬ s0 ≠ 1 → wr P d sw_c255 sw_h255 (9, [r0, vi x1], [], h, kc, ks) Q)  (c1 : In3 s0 := by first | omega | assumption | (simp only [mk_len, List.length_map]; omega) | decide) : wr P d sw_c255 sw_h255 (5, [r0, vi x1], [vi s0], h, kc, ks) Q := by
  refine w_c32 rfl (by decide) 1 (by decide) ?_
  exact w_if2 rfl c1 (by decide) k1 k2

theorem k255_9 {P : s_P} {d : Nat} {Q : s_O → Prop} {h : s_H} {kc ks : Nat} {r0 : Term} {x1 : Int} {q2 : Nat} {f3 : List Term} {v5 : Term} {q7 : Nat} {a8 : List Term} {tg10 : Nat} {v11 : Term} (g4 : s_get h q2 = some (1, 7, f3)) (g9 : s_get h q7 = some (0, tg10, a8)) (k : wr P d sw_c255 sw_h255 (19, [.index q2, vi x1], [v11], h, kc, ks) Q) (e_q2 : r0 = .index q2 := by first | rfl | assumption) (e_q7 : v5 = .index q7 := by first | rfl | assumption) (y1 : s_ty r0 = 3 := by first | rfl | assumption) (n6 : s_nth f3 5 = some v5 := by first | rfl | assumption) (n12 : s_nth a8 (Int.toNat (x1)) = some v11 := by first | rfl | assumption) (u13 : tg10 = 2 ∨ tg10 = 3 ∨ tg10 = 4 := by first | decide | assumption) (c14 : In3 x1 := by first | omega | assumption | (simp only [mk_len, List.length_map]; omega) | decide) (c15 : 0 ≤ x1 := by first | omega | assumption | (simp only [mk_len, List.length_map]; omega) | decide) : wr P d sw_c255 sw_h255 (9, [r0, vi x1], [], h, kc, ks) Q := by
  refine w_ld rfl rfl (Or.inr (Or.inr ⟨by decide, y1⟩)) ?_
  subst e_q2
  refine w_getf rfl g4 n6 ?_
  refine w_ld rfl rfl (Or.inl ⟨by decide, rfl⟩) ?_
  subst e_q7
  refine w_aald rfl g9 u13 c14 c15 n12 ?_
  refine w_goto rfl ?_
  exact k

theorem k255_18 {P : s_P} {d : Nat} {Q : s_O → Prop} {h : s_H} {kc ks : Nat} {r0 : Term} {x1 : Int}  (k : wr P d sw_c255 sw_h255 (19, [r0, vi x1], [.null], h, kc, ks) Q)   : wr P d sw_c255 sw_h255 (18, [r0, vi x1], [], h, kc, ks) Q := by
  refine w_null rfl ?_
  exact k

theorem k255_19 {P : s_P} {d : Nat} {Q : s_O → Prop} {h : s_H} {kc ks : Nat} {r0 : Term} {x1 : Int} {s0 : Term}  (k : Q (.inl (some s0), h, kc, ks)) (y1 : s_ty s0 = 3 := by first | rfl | assumption)  : wr P d sw_c255 sw_h255 (19, [r0, vi x1], [s0], h, kc, ks) Q := by
  exact w_aret rfl y1 k

/-! 256: FormulaWorks$Sheet.isDue(I)Z -/
theorem k256_0 {P : s_P} {d : Nat} {Q : s_O → Prop} {h : s_H} {kc ks : Nat} {r0 : Term} {x1 : Int} {q2 : Nat} {f3 : List Term} {v5 : Term} {q7 : Nat} {a8 : List Int} (g4 : s_get h q2 = some (1, 7, f3)) (g9 : s_get h q7 = some (0, 0, a8.map vi)) (k1 : gi a8 x1 ≤ 0 → wr P d sw_c256 sw_h256 (32, [.index q2, vi x1], [], h, kc, ks) Q) (k2 : ¬ gi a8 x1 ≤ 0 → wr P d sw_c256 sw_h256 (9, [.index q2, vi x1], [], h, kc, ks) Q) (e_q2 : r0 = .index q2 := by first | rfl | assumption) (e_q7 : v5 = .index q7 := by first | rfl | assumption) (y1 : s_ty r0 = 3 := by first | rfl | assumption) (n6 : s_nth f3 2 = some v5 := by first | rfl | assumption) (c10 : x1 < a8.length := by first | omega | assumption | (simp only [mk_len, List.length_map]; omega) | decide) (c11 : 0 ≤ x1 := by first | omega | assumption | (simp only [mk_len, List.length_map]; omega) | decide) (c12 : In3 x1 := by first | omega | assumption | (simp only [mk_len, List.length_map]; omega) | decide) (c13 : In3 (gi a8 x1) := by first | omega | assumption | (simp only [mk_len, List.length_map]; omega) | decide) : wr P d sw_c256 sw_h256 (0, [r0, vi x1], [], h, kc, ks) Q := by
  refine w_ld rfl rfl (Or.inr (Or.inr ⟨by decide, y1⟩)) ?_
  subst e_q2
  refine w_getf rfl g4 n6 ?_
  refine w_ld rfl rfl (Or.inl ⟨by decide, rfl⟩) ?_
  subst e_q7
  refine w_iald rfl g9 (Or.inl rfl) c12 c11 c10 ?_
  exact w_if1 rfl c13 k1 k2

theorem k256_9 {P : s_P} {d : Nat} {Q : s_O → Prop} {h : s_H} {kc ks : Nat} {r0 : Term} {x1 : Int} {q2 : Nat} {f3 : List Term} {z5 : Int} (g4 : s_get h q2 = some (1, 7, f3)) (k1 : zi 24 (zi 28 z5 x1) 1 ≠ 0 → wr P d sw_c256 sw_h256 (32, [.index q2, vi x1], [], h, kc, ks) Q) (k2 : ¬ zi 24 (zi 28 z5 x1) 1 ≠ 0 → wr P d sw_c256 sw_h256 (20, [.index q2, vi x1], [], h, kc, ks) Q) (e_q2 : r0 = .index q2 := by first | rfl | assumption) (y1 : s_ty r0 = 3 := by first | rfl | assumption) (n6 : s_nth f3 8 = some (vi z5) := by first | rfl | assumption) (c7 : In3 (zi 24 (zi 28 z5 x1) 1) := by first | omega | assumption | (simp only [mk_len, List.length_map]; omega) | decide) : wr P d sw_c256 sw_h256 (9, [r0, vi x1], [], h, kc, ks) Q := by
  refine w_ld rfl rfl (Or.inr (Or.inr ⟨by decide, y1⟩)) ?_
  subst e_q2
  refine w_getf rfl g4 n6 ?_
  refine w_ld rfl rfl (Or.inl ⟨by decide, rfl⟩) ?_
  refine w_ib rfl (by decide) ?_
  refine w_c32 rfl (by decide) 1 (by decide) ?_
  refine w_ib rfl (by decide) ?_
  exact w_if1 rfl c7 k1 k2

theorem k256_20 {P : s_P} {d : Nat} {Q : s_O → Prop} {h : s_H} {kc ks : Nat} {r0 : Term} {x1 : Int} {q2 : Nat} {f3 : List Term} (g4 : s_get h q2 = some (1, 7, f3)) (k : wm P d 257 [.index q2, vi x1] h (wq P d sw_c256 sw_h256 25 [.index q2, vi x1] [] kc ks Q)) (e_q2 : r0 = .index q2 := by first | rfl | assumption) (y1 : s_ty r0 = 3 := by first | rfl | assumption)  : wr P d sw_c256 sw_h256 (20, [r0, vi x1], [], h, kc, ks) Q := by
  refine w_ld rfl rfl (Or.inr (Or.inr ⟨by decide, y1⟩)) ?_
  refine w_ld rfl rfl (Or.inl ⟨by decide, rfl⟩) ?_
  subst e_q2
  exact w_cv rfl [.index q2, vi x1] [] rfl rfl (s_wt_4 rfl) rfl g4 k

theorem k256_25 {P : s_P} {d : Nat} {Q : s_O → Prop} {h : s_H} {kc ks : Nat} {r0 : Term} {x1 s0 : Int}  (k1 : s0 ≠ 0 → wr P d sw_c256 sw_h256 (32, [r0, vi x1], [], h, kc, ks) Q) (k2 : ¬ s0 ≠ 0 → wr P d sw_c256 sw_h256 (28, [r0, vi x1], [], h, kc, ks) Q)  (c1 : In3 s0 := by first | omega | assumption | (simp only [mk_len, List.length_map]; omega) | decide) : wr P d sw_c256 sw_h256 (25, [r0, vi x1], [vi s0], h, kc, ks) Q := by
  exact w_if1 rfl c1 k1 k2

theorem k256_28 {P : s_P} {d : Nat} {Q : s_O → Prop} {h : s_H} {kc ks : Nat} {r0 : Term} {x1 : Int}  (k : wr P d sw_c256 sw_h256 (33, [r0, vi x1], [vi 1], h, kc, ks) Q)   : wr P d sw_c256 sw_h256 (28, [r0, vi x1], [], h, kc, ks) Q := by
  refine w_c32 rfl (by decide) 1 (by decide) ?_
  refine w_goto rfl ?_
  exact k

theorem k256_32 {P : s_P} {d : Nat} {Q : s_O → Prop} {h : s_H} {kc ks : Nat} {r0 : Term} {x1 : Int}  (k : wr P d sw_c256 sw_h256 (33, [r0, vi x1], [vi 0], h, kc, ks) Q)   : wr P d sw_c256 sw_h256 (32, [r0, vi x1], [], h, kc, ks) Q := by
  refine w_c32 rfl (by decide) 0 (by decide) ?_
  exact k

theorem k256_33 {P : s_P} {d : Nat} {Q : s_O → Prop} {h : s_H} {kc ks : Nat} {r0 : Term} {x1 s0 : Int}  (k : Q (.inl (some (vi s0)), h, kc, ks))  (c1 : s0 = 0 ∨ s0 = 1 := by first | omega | assumption | (simp only [mk_len, List.length_map]; omega) | decide) : wr P d sw_c256 sw_h256 (33, [r0, vi x1], [vi s0], h, kc, ks) Q := by
  exact w_zret rfl c1 k

/-! 257: FormulaWorks$Sheet.isInCircle(I)Z -/
theorem k257_0 {P : s_P} {d : Nat} {Q : s_O → Prop} {h : s_H} {kc ks : Nat} {r0 : Term} {x1 : Int} {q2 : Nat} {f3 : List Term} {v5 : Term} {q7 : Nat} {a8 : List Int} (g4 : s_get h q2 = some (1, 7, f3)) (g9 : s_get h q7 = some (0, 0, a8.map vi)) (k1 : zi 24 (zi 28 (gi a8 x1) x1) 1 ≠ 1 → wr P d sw_c257 sw_h257 (18, [.index q2, vi x1], [], h, kc, ks) Q) (k2 : ¬ zi 24 (zi 28 (gi a8 x1) x1) 1 ≠ 1 → wr P d sw_c257 sw_h257 (14, [.index q2, vi x1], [], h, kc, ks) Q) (e_q2 : r0 = .index q2 := by first | rfl | assumption) (e_q7 : v5 = .index q7 := by first | rfl | assumption) (y1 : s_ty r0 = 3 := by first | rfl | assumption) (n6 : s_nth f3 4 = some v5 := by first | rfl | assumption) (c10 : x1 < a8.length := by first | omega | assumption | (simp only [mk_len, List.length_map]; omega) | decide) (c11 : 0 ≤ x1 := by first | omega | assumption | (simp only [mk_len, List.length_map]; omega) | decide) (c12 : In3 x1 := by first | omega | assumption | (simp only [mk_len, List.length_map]; omega) | decide) (c13 : In3 (zi 24 (zi 28 (gi a8 x1) x1) 1) := by first | omega | assumption | (simp only [mk_len, List.length_map]; omega) | decide) : wr P d sw_c257 sw_h257 (0, [r0, vi x1], [], h, kc, ks) Q := by
  refine w_ld rfl rfl (Or.inr (Or.inr ⟨by decide, y1⟩)) ?_
  subst e_q2
  refine w_getf rfl g4 n6 ?_
  refine w_ld rfl rfl (Or.inl ⟨by decide, rfl⟩) ?_
  subst e_q7
  refine w_iald rfl g9 (Or.inl rfl) c12 c11 c10 ?_
  refine w_ld rfl rfl (Or.inl ⟨by decide, rfl⟩) ?_
  refine w_ib rfl (by decide) ?_
  refine w_c32 rfl (by decide) 1 (by decide) ?_
  refine w_ib rfl (by decide) ?_
  refine w_c32 rfl (by decide) 1 (by decide) ?_
  exact w_if2 rfl c13 (by decide) k1 k2

theorem k257_14 {P : s_P} {d : Nat} {Q : s_O → Prop} {h : s_H} {kc ks : Nat} {r0 : Term} {x1 : Int}  (k : wr P d sw_c257 sw_h257 (19, [r0, vi x1], [vi 1], h, kc, ks) Q)   : wr P d sw_c257 sw_h257 (14, [r0, vi x1], [], h, kc, ks) Q := by
  refine w_c32 rfl (by decide) 1 (by decide) ?_
  refine w_goto rfl ?_
  exact k

theorem k257_18 {P : s_P} {d : Nat} {Q : s_O → Prop} {h : s_H} {kc ks : Nat} {r0 : Term} {x1 : Int}  (k : wr P d sw_c257 sw_h257 (19, [r0, vi x1], [vi 0], h, kc, ks) Q)   : wr P d sw_c257 sw_h257 (18, [r0, vi x1], [], h, kc, ks) Q := by
  refine w_c32 rfl (by decide) 0 (by decide) ?_
  exact k

theorem k257_19 {P : s_P} {d : Nat} {Q : s_O → Prop} {h : s_H} {kc ks : Nat} {r0 : Term} {x1 s0 : Int}  (k : Q (.inl (some (vi s0)), h, kc, ks))  (c1 : s0 = 0 ∨ s0 = 1 := by first | omega | assumption | (simp only [mk_len, List.length_map]; omega) | decide) : wr P d sw_c257 sw_h257 (19, [r0, vi x1], [vi s0], h, kc, ks) Q := by
  exact w_zret rfl c1 k

/-! 258: FormulaWorks$Sheet.nextFor(I)I -/
theorem k258_0 {P : s_P} {d : Nat} {Q : s_O → Prop} {h : s_H} {kc ks : Nat} {r0 : Term} {x1 : Int} {t2 t3 t4 : Term} {q2 : Nat} {f3 : List Term} (g4 : s_get h q2 = some (1, 7, f3)) (k : wm P d 256 [.index q2, vi x1] h (wq P d sw_c258 sw_h258 5 [.index q2, vi x1, t2, t3, t4] [] kc ks Q)) (e_q2 : r0 = .index q2 := by first | rfl | assumption) (y1 : s_ty r0 = 3 := by first | rfl | assumption)  : wr P d sw_c258 sw_h258 (0, [r0, vi x1, t2, t3, t4], [], h, kc, ks) Q := by
  refine w_ld rfl rfl (Or.inr (Or.inr ⟨by decide, y1⟩)) ?_
  refine w_ld rfl rfl (Or.inl ⟨by decide, rfl⟩) ?_
  subst e_q2
  exact w_cv rfl [.index q2, vi x1] [] rfl rfl (s_wt_4 rfl) rfl g4 k

theorem k258_5 {P : s_P} {d : Nat} {Q : s_O → Prop} {h : s_H} {kc ks : Nat} {r0 : Term} {x1 : Int} {t2 t3 t4 : Term} {s0 : Int}  (k1 : s0 = 0 → wr P d sw_c258 sw_h258 (12, [r0, vi x1, t2, t3, t4], [], h, kc, ks) Q) (k2 : ¬ s0 = 0 → wr P d sw_c258 sw_h258 (8, [r0, vi x1, t2, t3, t4], [], h, kc, ks) Q)  (c1 : In3 s0 := by first | omega | assumption | (simp only [mk_len, List.length_map]; omega) | decide) : wr P d sw_c258 sw_h258 (5, [r0, vi x1, t2, t3, t4], [vi s0], h, kc, ks) Q := by
  exact w_if1 rfl c1 k1 k2

theorem k258_8 {P : s_P} {d : Nat} {Q : s_O → Prop} {h : s_H} {kc ks : Nat} {r0 : Term} {x1 : Int} {t2 t3 t4 : Term}  (k : wr P d sw_c258 sw_h258 (13, [r0, vi x1, t2, t3, t4], [vi x1], h, kc, ks) Q)   : wr P d sw_c258 sw_h258 (8, [r0, vi x1, t2, t3, t4], [], h, kc, ks) Q := by
  refine w_ld rfl rfl (Or.inl ⟨by decide, rfl⟩) ?_
  refine w_goto rfl ?_
  exact k

theorem k258_12 {P : s_P} {d : Nat} {Q : s_O → Prop} {h : s_H} {kc ks : Nat} {r0 : Term} {x1 : Int} {t2 t3 t4 : Term}  (k : wr P d sw_c258 sw_h258 (13, [r0, vi x1, t2, t3, t4], [vi (-1)], h, kc, ks) Q)   : wr P d sw_c258 sw_h258 (12, [r0, vi x1, t2, t3, t4], [], h, kc, ks) Q := by
  refine w_c32 rfl (by decide) (-1) (by decide) ?_
  exact k

theorem k258_13 {P : s_P} {d : Nat} {Q : s_O → Prop} {h : s_H} {kc ks : Nat} {r0 : Term} {x1 : Int} {t2 t3 t4 : Term} {s0 : Int}  (k : wr P d sw_c258 sw_h258 (16, [r0, vi x1, vi s0, vi 0, t4], [], h, kc, ks) Q)   : wr P d sw_c258 sw_h258 (13, [r0, vi x1, t2, t3, t4], [vi s0], h, kc, ks) Q := by
  refine w_st (ls' := [r0, vi x1, vi s0, t3, t4]) rfl (Or.inl ⟨by decide, rfl⟩) rfl ?_
  refine w_c32 rfl (by decide) 0 (by decide) ?_
  refine w_st (ls' := [r0, vi x1, vi s0, vi 0, t4]) rfl (Or.inl ⟨by decide, rfl⟩) rfl ?_
  exact k

theorem k258_16 {P : s_P} {d : Nat} {Q : s_O → Prop} {h : s_H} {kc ks : Nat} {r0 : Term} {x1 x2 x3 : Int} {t4 : Term}  (k1 : 16 ≤ x3 → wr P d sw_c258 sw_h258 (50, [r0, vi x1, vi x2, vi x3, t4], [], h, kc, ks) Q) (k2 : ¬ 16 ≤ x3 → wr P d sw_c258 sw_h258 (22, [r0, vi x1, vi x2, vi x3, t4], [], h, kc, ks) Q)  (c1 : In3 x3 := by first | omega | assumption | (simp only [mk_len, List.length_map]; omega) | decide) : wr P d sw_c258 sw_h258 (16, [r0, vi x1, vi x2, vi x3, t4], [], h, kc, ks) Q := by
  refine w_ld rfl rfl (Or.inl ⟨by decide, rfl⟩) ?_
  refine w_c32 rfl (by decide) 16 (by decide) ?_
  exact w_if2 rfl c1 (by decide) k1 k2

theorem k258_22 {P : s_P} {d : Nat} {Q : s_O → Prop} {h : s_H} {kc ks : Nat} {r0 : Term} {x1 x2 x3 : Int} {t4 : Term}  (k1 : x2 < 0 → wr P d sw_c258 sw_h258 (50, [r0, vi x1, vi x2, vi x3, t4], [], h, kc, ks) Q) (k2 : ¬ x2 < 0 → wr P d sw_c258 sw_h258 (26, [r0, vi x1, vi x2, vi x3, t4], [], h, kc, ks) Q)  (c1 : In3 x2 := by first | omega | assumption | (simp only [mk_len, List.length_map]; omega) | decide) : wr P d sw_c258 sw_h258 (22, [r0, vi x1, vi x2, vi x3, t4], [], h, kc, ks) Q := by
  refine w_ld rfl rfl (Or.inl ⟨by decide, rfl⟩) ?_
  exact w_if1 rfl c1 k1 k2

theorem k258_26 {P : s_P} {d : Nat} {Q : s_O → Prop} {h : s_H} {kc ks : Nat} {r0 : Term} {x1 x2 x3 : Int} {t4 : Term} {q2 : Nat} {f3 : List Term} (g4 : s_get h q2 = some (1, 7, f3)) (k : wm P d 251 [.index q2, vi x2] h (wq P d sw_c258 sw_h258 31 [.index q2, vi x1, vi x2, vi x3, t4] [] kc ks Q)) (e_q2 : r0 = .index q2 := by first | rfl | assumption) (y1 : s_ty r0 = 3 := by first | rfl | assumption)  : wr P d sw_c258 sw_h258 (26, [r0, vi x1, vi x2, vi x3, t4], [], h, kc, ks) Q := by
  refine w_ld rfl rfl (Or.inr (Or.inr ⟨by decide, y1⟩)) ?_
  refine w_ld rfl rfl (Or.inl ⟨by decide, rfl⟩) ?_
  subst e_q2
  exact w_cv rfl [.index q2, vi x2] [] rfl rfl (s_wt_4 rfl) rfl g4 k

theorem k258_31 {P : s_P} {d : Nat} {Q : s_O → Prop} {h : s_H} {kc ks : Nat} {r0 : Term} {x1 x2 x3 : Int} {t4 : Term} {s0 : Int}  (k1 : 0 ≤ s0 → wr P d sw_c258 sw_h258 (41, [r0, vi x1, vi x2, vi x3, vi s0], [], h, kc, ks) Q) (k2 : ¬ 0 ≤ s0 → wr P d sw_c258 sw_h258 (38, [r0, vi x1, vi x2, vi x3, vi s0], [], h, kc, ks) Q)  (c1 : In3 s0 := by first | omega | assumption | (simp only [mk_len, List.length_map]; omega) | decide) : wr P d sw_c258 sw_h258 (31, [r0, vi x1, vi x2, vi x3, t4], [vi s0], h, kc, ks) Q := by
  refine w_st (ls' := [r0, vi x1, vi x2, vi x3, vi s0]) rfl (Or.inl ⟨by decide, rfl⟩) rfl ?_
  refine w_ld rfl rfl (Or.inl ⟨by decide, rfl⟩) ?_
  exact w_if1 rfl c1 k1 k2

theorem k258_38 {P : s_P} {d : Nat} {Q : s_O → Prop} {h : s_H} {kc ks : Nat} {r0 : Term} {x1 x2 x3 x4 : Int}  (k : wr P d sw_c258 sw_h258 (50, [r0, vi x1, vi x2, vi x3, vi x4], [], h, kc, ks) Q)   : wr P d sw_c258 sw_h258 (38, [r0, vi x1, vi x2, vi x3, vi x4], [], h, kc, ks) Q := by
  refine w_goto rfl ?_
  exact k

theorem k258_41 {P : s_P} {d : Nat} {Q : s_O → Prop} {h : s_H} {kc ks : Nat} {r0 : Term} {x1 x2 x3 x4 : Int}  (k : wr P d sw_c258 sw_h258 (16, [r0, vi x1, vi x4, vi (x3 + 1), vi x4], [], h, kc, ks) Q)   : wr P d sw_c258 sw_h258 (41, [r0, vi x1, vi x2, vi x3, vi x4], [], h, kc, ks) Q := by
  refine w_ld rfl rfl (Or.inl ⟨by decide, rfl⟩) ?_
  refine w_st (ls' := [r0, vi x1, vi x4, vi x3, vi x4]) rfl (Or.inl ⟨by decide, rfl⟩) rfl ?_
  refine w_iinc (ls' := [r0, vi x1, vi x4, vi (x3 + 1), vi x4]) rfl rfl 1 (by decide) rfl ?_
  refine w_goto rfl ?_
  exact k

theorem k258_50 {P : s_P} {d : Nat} {Q : s_O → Prop} {h : s_H} {kc ks : Nat} {r0 : Term} {x1 x2 x3 : Int} {t4 : Term}  (k : Q (.inl (some (vi x2)), h, kc, ks))   : wr P d sw_c258 sw_h258 (50, [r0, vi x1, vi x2, vi x3, t4], [], h, kc, ks) Q := by
  refine w_ld rfl rfl (Or.inl ⟨by decide, rfl⟩) ?_
  exact w_iret rfl k

/-! 259: FormulaWorks$Sheet.placeOf(I)I -/
theorem k259_0 {P : s_P} {d : Nat} {Q : s_O → Prop} {h : s_H} {kc ks : Nat} {r0 : Term} {x1 : Int} {q2 : Nat} {f3 : List Term} {v5 : Term} {q7 : Nat} {a8 : List Int} (g4 : s_get h q2 = some (1, 7, f3)) (g9 : s_get h q7 = some (0, 0, a8.map vi)) (k1 : gi a8 x1 ≠ 0 → wr P d sw_c259 sw_h259 (11, [.index q2, vi x1], [], h, kc, ks) Q) (k2 : ¬ gi a8 x1 ≠ 0 → wr P d sw_c259 sw_h259 (9, [.index q2, vi x1], [], h, kc, ks) Q) (e_q2 : r0 = .index q2 := by first | rfl | assumption) (e_q7 : v5 = .index q7 := by first | rfl | assumption) (y1 : s_ty r0 = 3 := by first | rfl | assumption) (n6 : s_nth f3 2 = some v5 := by first | rfl | assumption) (c10 : x1 < a8.length := by first | omega | assumption | (simp only [mk_len, List.length_map]; omega) | decide) (c11 : 0 ≤ x1 := by first | omega | assumption | (simp only [mk_len, List.length_map]; omega) | decide) (c12 : In3 x1 := by first | omega | assumption | (simp only [mk_len, List.length_map]; omega) | decide) (c13 : In3 (gi a8 x1) := by first | omega | assumption | (simp only [mk_len, List.length_map]; omega) | decide) : wr P d sw_c259 sw_h259 (0, [r0, vi x1], [], h, kc, ks) Q := by
  refine w_ld rfl rfl (Or.inr (Or.inr ⟨by decide, y1⟩)) ?_
  subst e_q2
  refine w_getf rfl g4 n6 ?_
  refine w_ld rfl rfl (Or.inl ⟨by decide, rfl⟩) ?_
  subst e_q7
  refine w_iald rfl g9 (Or.inl rfl) c12 c11 c10 ?_
  exact w_if1 rfl c13 k1 k2

theorem k259_9 {P : s_P} {d : Nat} {Q : s_O → Prop} {h : s_H} {kc ks : Nat} {r0 : Term} {x1 : Int}  (k : Q (.inl (some (vi (-1))), h, kc, ks))   : wr P d sw_c259 sw_h259 (9, [r0, vi x1], [], h, kc, ks) Q := by
  refine w_c32 rfl (by decide) (-1) (by decide) ?_
  exact w_iret rfl k

theorem k259_11 {P : s_P} {d : Nat} {Q : s_O → Prop} {h : s_H} {kc ks : Nat} {r0 : Term} {x1 : Int} {q2 : Nat} {f3 : List Term} (g4 : s_get h q2 = some (1, 7, f3)) (k : wm P d 257 [.index q2, vi x1] h (wq P d sw_c259 sw_h259 16 [.index q2, vi x1] [] kc ks Q)) (e_q2 : r0 = .index q2 := by first | rfl | assumption) (y1 : s_ty r0 = 3 := by first | rfl | assumption)  : wr P d sw_c259 sw_h259 (11, [r0, vi x1], [], h, kc, ks) Q := by
  refine w_ld rfl rfl (Or.inr (Or.inr ⟨by decide, y1⟩)) ?_
  refine w_ld rfl rfl (Or.inl ⟨by decide, rfl⟩) ?_
  subst e_q2
  exact w_cv rfl [.index q2, vi x1] [] rfl rfl (s_wt_4 rfl) rfl g4 k

theorem k259_16 {P : s_P} {d : Nat} {Q : s_O → Prop} {h : s_H} {kc ks : Nat} {r0 : Term} {x1 s0 : Int}  (k1 : s0 = 0 → wr P d sw_c259 sw_h259 (23, [r0, vi x1], [], h, kc, ks) Q) (k2 : ¬ s0 = 0 → wr P d sw_c259 sw_h259 (19, [r0, vi x1], [], h, kc, ks) Q)  (c1 : In3 s0 := by first | omega | assumption | (simp only [mk_len, List.length_map]; omega) | decide) : wr P d sw_c259 sw_h259 (16, [r0, vi x1], [vi s0], h, kc, ks) Q := by
  exact w_if1 rfl c1 k1 k2

theorem k259_19 {P : s_P} {d : Nat} {Q : s_O → Prop} {h : s_H} {kc ks : Nat} {r0 : Term} {x1 : Int}  (k : wr P d sw_c259 sw_h259 (29, [r0, vi x1], [vi 0], h, kc, ks) Q)   : wr P d sw_c259 sw_h259 (19, [r0, vi x1], [], h, kc, ks) Q := by
  refine w_c32 rfl (by decide) 0 (by decide) ?_
  refine w_goto rfl ?_
  exact k

theorem k259_23 {P : s_P} {d : Nat} {Q : s_O → Prop} {h : s_H} {kc ks : Nat} {r0 : Term} {x1 : Int} {q2 : Nat} {f3 : List Term} {v5 : Term} {q7 : Nat} {a8 : List Int} (g4 : s_get h q2 = some (1, 7, f3)) (g9 : s_get h q7 = some (0, 0, a8.map vi)) (k : wr P d sw_c259 sw_h259 (29, [.index q2, vi x1], [vi (gi a8 x1)], h, kc, ks) Q) (e_q2 : r0 = .index q2 := by first | rfl | assumption) (e_q7 : v5 = .index q7 := by first | rfl | assumption) (y1 : s_ty r0 = 3 := by first | rfl | assumption) (n6 : s_nth f3 7 = some v5 := by first | rfl | assumption) (c10 : x1 < a8.length := by first | omega | assumption | (simp only [mk_len, List.length_map]; omega) | decide) (c11 : 0 ≤ x1 := by first | omega | assumption | (simp only [mk_len, List.length_map]; omega) | decide) (c12 : In3 x1 := by first | omega | assumption | (simp only [mk_len, List.length_map]; omega) | decide) : wr P d sw_c259 sw_h259 (23, [r0, vi x1], [], h, kc, ks) Q := by
  refine w_ld rfl rfl (Or.inr (Or.inr ⟨by decide, y1⟩)) ?_
  subst e_q2
  refine w_getf rfl g4 n6 ?_
  refine w_ld rfl rfl (Or.inl ⟨by decide, rfl⟩) ?_
  subst e_q7
  refine w_iald rfl g9 (Or.inl rfl) c12 c11 c10 ?_
  exact k

theorem k259_29 {P : s_P} {d : Nat} {Q : s_O → Prop} {h : s_H} {kc ks : Nat} {r0 : Term} {x1 s0 : Int}  (k : Q (.inl (some (vi s0)), h, kc, ks))   : wr P d sw_c259 sw_h259 (29, [r0, vi x1], [vi s0], h, kc, ks) Q := by
  exact w_iret rfl k

/-! 260: FormulaWorks$Sheet.stateOf(I)I -/
theorem k260_0 {P : s_P} {d : Nat} {Q : s_O → Prop} {h : s_H} {kc ks : Nat} {r0 : Term} {x1 : Int} {q2 : Nat} {f3 : List Term} {v5 : Term} {q7 : Nat} {a8 : List Int} (g4 : s_get h q2 = some (1, 7, f3)) (g9 : s_get h q7 = some (0, 0, a8.map vi)) (k1 : gi a8 x1 ≠ 0 → wr P d sw_c260 sw_h260 (11, [.index q2, vi x1], [], h, kc, ks) Q) (k2 : ¬ gi a8 x1 ≠ 0 → wr P d sw_c260 sw_h260 (9, [.index q2, vi x1], [], h, kc, ks) Q) (e_q2 : r0 = .index q2 := by first | rfl | assumption) (e_q7 : v5 = .index q7 := by first | rfl | assumption) (y1 : s_ty r0 = 3 := by first | rfl | assumption) (n6 : s_nth f3 2 = some v5 := by first | rfl | assumption) (c10 : x1 < a8.length := by first | omega | assumption | (simp only [mk_len, List.length_map]; omega) | decide) (c11 : 0 ≤ x1 := by first | omega | assumption | (simp only [mk_len, List.length_map]; omega) | decide) (c12 : In3 x1 := by first | omega | assumption | (simp only [mk_len, List.length_map]; omega) | decide) (c13 : In3 (gi a8 x1) := by first | omega | assumption | (simp only [mk_len, List.length_map]; omega) | decide) : wr P d sw_c260 sw_h260 (0, [r0, vi x1], [], h, kc, ks) Q := by
  refine w_ld rfl rfl (Or.inr (Or.inr ⟨by decide, y1⟩)) ?_
  subst e_q2
  refine w_getf rfl g4 n6 ?_
  refine w_ld rfl rfl (Or.inl ⟨by decide, rfl⟩) ?_
  subst e_q7
  refine w_iald rfl g9 (Or.inl rfl) c12 c11 c10 ?_
  exact w_if1 rfl c13 k1 k2

theorem k260_9 {P : s_P} {d : Nat} {Q : s_O → Prop} {h : s_H} {kc ks : Nat} {r0 : Term} {x1 : Int}  (k : Q (.inl (some (vi 0)), h, kc, ks))   : wr P d sw_c260 sw_h260 (9, [r0, vi x1], [], h, kc, ks) Q := by
  refine w_c32 rfl (by decide) 0 (by decide) ?_
  exact w_iret rfl k

theorem k260_11 {P : s_P} {d : Nat} {Q : s_O → Prop} {h : s_H} {kc ks : Nat} {r0 : Term} {x1 : Int} {q2 : Nat} {f3 : List Term} (g4 : s_get h q2 = some (1, 7, f3)) (k : wm P d 253 [.index q2, vi x1] h (wq P d sw_c260 sw_h260 16 [.index q2, vi x1] [] kc ks Q)) (e_q2 : r0 = .index q2 := by first | rfl | assumption) (y1 : s_ty r0 = 3 := by first | rfl | assumption)  : wr P d sw_c260 sw_h260 (11, [r0, vi x1], [], h, kc, ks) Q := by
  refine w_ld rfl rfl (Or.inr (Or.inr ⟨by decide, y1⟩)) ?_
  refine w_ld rfl rfl (Or.inl ⟨by decide, rfl⟩) ?_
  subst e_q2
  exact w_cv rfl [.index q2, vi x1] [] rfl rfl (s_wt_4 rfl) rfl g4 k

theorem k260_16 {P : s_P} {d : Nat} {Q : s_O → Prop} {h : s_H} {kc ks : Nat} {r0 : Term} {x1 s0 : Int}  (k1 : s0 ≠ 0 → wr P d sw_c260 sw_h260 (23, [r0, vi x1], [], h, kc, ks) Q) (k2 : ¬ s0 ≠ 0 → wr P d sw_c260 sw_h260 (19, [r0, vi x1], [], h, kc, ks) Q)  (c1 : In3 s0 := by first | omega | assumption | (simp only [mk_len, List.length_map]; omega) | decide) : wr P d sw_c260 sw_h260 (16, [r0, vi x1], [vi s0], h, kc, ks) Q := by
  exact w_if1 rfl c1 k1 k2

theorem k260_19 {P : s_P} {d : Nat} {Q : s_O → Prop} {h : s_H} {kc ks : Nat} {r0 : Term} {x1 : Int}  (k : wr P d sw_c260 sw_h260 (24, [r0, vi x1], [vi 1], h, kc, ks) Q)   : wr P d sw_c260 sw_h260 (19, [r0, vi x1], [], h, kc, ks) Q := by
  refine w_c32 rfl (by decide) 1 (by decide) ?_
  refine w_goto rfl ?_
  exact k

theorem k260_23 {P : s_P} {d : Nat} {Q : s_O → Prop} {h : s_H} {kc ks : Nat} {r0 : Term} {x1 : Int}  (k : wr P d sw_c260 sw_h260 (24, [r0, vi x1], [vi 2], h, kc, ks) Q)   : wr P d sw_c260 sw_h260 (23, [r0, vi x1], [], h, kc, ks) Q := by
  refine w_c32 rfl (by decide) 2 (by decide) ?_
  exact k

theorem k260_24 {P : s_P} {d : Nat} {Q : s_O → Prop} {h : s_H} {kc ks : Nat} {r0 : Term} {x1 s0 : Int}  (k : Q (.inl (some (vi s0)), h, kc, ks))   : wr P d sw_c260 sw_h260 (24, [r0, vi x1], [vi s0], h, kc, ks) Q := by
  exact w_iret rfl k

/-! 261: FormulaWorks$Thing.<init>(I)V -/
theorem k261_0 {P : s_P} {d : Nat} {Q : s_O → Prop} {h : s_H} {kc ks : Nat} {r0 : Term} {x1 : Int} {q2 : Nat} {f3 : List Term} {fc7 : s_C} (g4 : s_get h q2 = some (1, 8, f3)) (g8 : s_get (hp h q2 (1, 8, f3.set 0 (vi 0))) ((hp h q2 (1, 8, f3.set 0 (vi 0)))).1 = some fc7) (k : wm P d 166 [.index ((hp h q2 (1, 8, f3.set 0 (vi 0)))).1, vi x1] (hq (hp h q2 (1, 8, f3.set 0 (vi 0))) (1, 4, s_df 4)) (fun out => out.1 = .inl none ∧ wr P d sw_c261 sw_h261 (18, [.index q2, vi x1], [.index ((hp h q2 (1, 8, f3.set 0 (vi 0)))).1, .index q2], out.2.1, (kc + 1) + out.2.2.1, (ks + 2) + out.2.2.2) Q)) (e_q2 : r0 = .index q2 := by first | rfl | assumption) (y1 : s_ty r0 = 3 := by first | rfl | assumption) (l5 : 0 < f3.length := by first | exact Nat.le_of_ble_eq_true rfl | omega | assumption) (c6 : 0 < q2 := by first | omega | assumption | (simp only [mk_len, List.length_map]; omega) | decide) : wr P d sw_c261 sw_h261 (0, [r0, vi x1], [], h, kc, ks) Q := by
  refine w_ld rfl rfl (Or.inr (Or.inr ⟨by decide, y1⟩)) ?_
  subst e_q2
  refine w_cobj rfl (s_wt_4 rfl) ?_
  refine w_ld rfl rfl (Or.inr (Or.inr ⟨by decide, rfl⟩)) ?_
  refine w_c32 rfl (by decide) 0 (by decide) ?_
  refine w_putf rfl g4 (Nat.ble_eq_true_of_le c6) rfl (Nat.ble_eq_true_of_le l5) ?_
  refine w_ld rfl rfl (Or.inr (Or.inr ⟨by decide, rfl⟩)) ?_
  refine w_new rfl g8 ?_
  refine w_dup rfl rfl ?_
  refine w_ld rfl rfl (Or.inl ⟨by decide, rfl⟩) ?_
  exact w_ci rfl [.index ((hp h q2 (1, 8, f3.set 0 (vi 0)))).1, vi x1] [.index ((hp h q2 (1, 8, f3.set 0 (vi 0)))).1, .index q2] rfl rfl (s_wt_4 rfl) rfl k

theorem k261_18 {P : s_P} {d : Nat} {Q : s_O → Prop} {h : s_H} {kc ks : Nat} {r0 : Term} {x1 : Int} {s0 s1 : Term} {q1 : Nat} {f2 : List Term} {fc8 : s_C} (g3 : s_get h q1 = some (1, 8, f2)) (g9 : s_get (hp h q1 (1, 8, f2.set 1 s1)) ((hp h q1 (1, 8, f2.set 1 s1))).1 = some fc8) (k : wm P d 166 [.index ((hp h q1 (1, 8, f2.set 1 s1))).1, vi x1] (hq (hp h q1 (1, 8, f2.set 1 s1)) (1, 4, s_df 4)) (fun out => out.1 = .inl none ∧ wr P d sw_c261 sw_h261 (30, [r0, vi x1], [.index ((hp h q1 (1, 8, f2.set 1 s1))).1, r0], out.2.1, (kc + 1) + out.2.2.1, (ks + 2) + out.2.2.2) Q)) (e_q1 : s0 = .index q1 := by first | rfl | assumption) (l4 : 1 < f2.length := by first | exact Nat.le_of_ble_eq_true rfl | omega | assumption) (y6 : s_ty s1 = 3 := by first | rfl | assumption) (y7 : s_ty r0 = 3 := by first | rfl | assumption) (c5 : 0 < q1 := by first | omega | assumption | (simp only [mk_len, List.length_map]; omega) | decide) : wr P d sw_c261 sw_h261 (18, [r0, vi x1], [s1, s0], h, kc, ks) Q := by
  subst e_q1
  refine w_putf rfl g3 (Nat.ble_eq_true_of_le c5) (s_okF3 y6) (Nat.ble_eq_true_of_le l4) ?_
  refine w_ld rfl rfl (Or.inr (Or.inr ⟨by decide, y7⟩)) ?_
  refine w_new rfl g9 ?_
  refine w_dup rfl rfl ?_
  refine w_ld rfl rfl (Or.inl ⟨by decide, rfl⟩) ?_
  exact w_ci rfl [.index ((hp h q1 (1, 8, f2.set 1 s1))).1, vi x1] [.index ((hp h q1 (1, 8, f2.set 1 s1))).1, r0] rfl rfl (s_wt_4 rfl) rfl k

theorem k261_30 {P : s_P} {d : Nat} {Q : s_O → Prop} {h : s_H} {kc ks : Nat} {r0 : Term} {x1 : Int} {s0 s1 : Term} {q1 : Nat} {f2 : List Term} {q8 : Nat} {f9 : List Term} {v11 : Term} {q13 : Nat} {f14 : List Term} (g3 : s_get h q1 = some (1, 8, f2)) (g10 : s_get (hp h q1 (1, 8, f2.set 2 s1)) q8 = some (1, 8, f9)) (g15 : s_get (hp h q1 (1, 8, f2.set 2 s1)) q13 = some (1, 4, f14)) (k : wm P d 180 [.index q13, vi 1] (hp h q1 (1, 8, f2.set 2 s1)) (wq P d sw_c261 sw_h261 41 [.index q8, vi x1] [] kc ks Q)) (e_q1 : s0 = .index q1 := by first | rfl | assumption) (e_q8 : r0 = .index q8 := by first | rfl | assumption) (e_q13 : v11 = .index q13 := by first | rfl | assumption) (l4 : 2 < f2.length := by first | exact Nat.le_of_ble_eq_true rfl | omega | assumption) (y6 : s_ty s1 = 3 := by first | rfl | assumption) (y7 : s_ty r0 = 3 := by first | rfl | assumption) (n12 : s_nth f9 2 = some v11 := by first | rfl | assumption) (c5 : 0 < q1 := by first | omega | assumption | (simp only [mk_len, List.length_map]; omega) | decide) : wr P d sw_c261 sw_h261 (30, [r0, vi x1], [s1, s0], h, kc, ks) Q := by
  subst e_q1
  refine w_putf rfl g3 (Nat.ble_eq_true_of_le c5) (s_okF3 y6) (Nat.ble_eq_true_of_le l4) ?_
  refine w_ld rfl rfl (Or.inr (Or.inr ⟨by decide, y7⟩)) ?_
  subst e_q8
  refine w_getf rfl g10 n12 ?_
  refine w_c32 rfl (by decide) 1 (by decide) ?_
  subst e_q13
  exact w_cv rfl [.index q13, vi 1] [] rfl rfl (s_wt_4 rfl) rfl g15 k

theorem k261_41 {P : s_P} {d : Nat} {Q : s_O → Prop} {h : s_H} {kc ks : Nat} {r0 : Term} {x1 : Int} {q2 : Nat} {f3 f7 f10 f13 : List Term} (g4 : s_get h q2 = some (1, 8, f3)) (g8 : s_get (hp h q2 (1, 8, f3.set 3 (vi 0))) q2 = some (1, 8, f7)) (g11 : s_get (hp (hp h q2 (1, 8, f3.set 3 (vi 0))) q2 (1, 8, f7.set 4 (vi 0))) q2 = some (1, 8, f10)) (g14 : s_get (hp (hp (hp h q2 (1, 8, f3.set 3 (vi 0))) q2 (1, 8, f7.set 4 (vi 0))) q2 (1, 8, f10.set 5 .null)) q2 = some (1, 8, f13)) (k : Q (.inl none, (hp (hp (hp (hp h q2 (1, 8, f3.set 3 (vi 0))) q2 (1, 8, f7.set 4 (vi 0))) q2 (1, 8, f10.set 5 .null)) q2 (1, 8, f13.set 6 .null)), kc, ks)) (e_q2 : r0 = .index q2 := by first | rfl | assumption) (y1 : s_ty r0 = 3 := by first | rfl | assumption) (l5 : 3 < f3.length := by first | exact Nat.le_of_ble_eq_true rfl | omega | assumption) (l9 : 4 < f7.length := by first | exact Nat.le_of_ble_eq_true rfl | omega | assumption) (l12 : 5 < f10.length := by first | exact Nat.le_of_ble_eq_true rfl | omega | assumption) (l15 : 6 < f13.length := by first | exact Nat.le_of_ble_eq_true rfl | omega | assumption) (c6 : 0 < q2 := by first | omega | assumption | (simp only [mk_len, List.length_map]; omega) | decide) : wr P d sw_c261 sw_h261 (41, [r0, vi x1], [], h, kc, ks) Q := by
  refine w_ld rfl rfl (Or.inr (Or.inr ⟨by decide, y1⟩)) ?_
  refine w_c32 rfl (by decide) 0 (by decide) ?_
  subst e_q2
  refine w_putf rfl g4 (Nat.ble_eq_true_of_le c6) rfl (Nat.ble_eq_true_of_le l5) ?_
  refine w_ld rfl rfl (Or.inr (Or.inr ⟨by decide, rfl⟩)) ?_
  refine w_c32 rfl (by decide) 0 (by decide) ?_
  refine w_putf rfl g8 (Nat.ble_eq_true_of_le c6) rfl (Nat.ble_eq_true_of_le l9) ?_
  refine w_ld rfl rfl (Or.inr (Or.inr ⟨by decide, rfl⟩)) ?_
  refine w_null rfl ?_
  refine w_putf rfl g11 (Nat.ble_eq_true_of_le c6) (s_okF3 rfl) (Nat.ble_eq_true_of_le l12) ?_
  refine w_ld rfl rfl (Or.inr (Or.inr ⟨by decide, rfl⟩)) ?_
  refine w_null rfl ?_
  refine w_putf rfl g14 (Nat.ble_eq_true_of_le c6) (s_okF3 rfl) (Nat.ble_eq_true_of_le l15) ?_
  exact w_ret rfl k

/-! 262: FormulaWorks$Thing.<init>(II[LFormulaWorks$Poly;)V -/
theorem k262_0 {P : s_P} {d : Nat} {Q : s_O → Prop} {h : s_H} {kc ks : Nat} {r0 : Term} {x1 x2 : Int} {r3 : Term} {q2 : Nat} {f3 f7 f10 f13 f16 f20 f23 : List Term} (g4 : s_get h q2 = some (1, 8, f3)) (g8 : s_get (hp h q2 (1, 8, f3.set 0 (vi 2))) q2 = some (1, 8, f7)) (g11 : s_get (hp (hp h q2 (1, 8, f3.set 0 (vi 2))) q2 (1, 8, f7.set 1 .null)) q2 = some (1, 8, f10)) (g14 : s_get (hp (hp (hp h q2 (1, 8, f3.set 0 (vi 2))) q2 (1, 8, f7.set 1 .null)) q2 (1, 8, f10.set 2 .null)) q2 = some (1, 8, f13)) (g17 : s_get (hp (hp (hp (hp h q2 (1, 8, f3.set 0 (vi 2))) q2 (1, 8, f7.set 1 .null)) q2 (1, 8, f10.set 2 .null)) q2 (1, 8, f13.set 3 (vi x1))) q2 = some (1, 8, f16)) (g21 : s_get (hp (hp (hp (hp (hp h q2 (1, 8, f3.set 0 (vi 2))) q2 (1, 8, f7.set 1 .null)) q2 (1, 8, f10.set 2 .null)) q2 (1, 8, f13.set 3 (vi x1))) q2 (1, 8, f16.set 4 (vi x2))) q2 = some (1, 8, f20)) (g24 : s_get (hp (hp (hp (hp (hp (hp h q2 (1, 8, f3.set 0 (vi 2))) q2 (1, 8, f7.set 1 .null)) q2 (1, 8, f10.set 2 .null)) q2 (1, 8, f13.set 3 (vi x1))) q2 (1, 8, f16.set 4 (vi x2))) q2 (1, 8, f20.set 5 r3)) q2 = some (1, 8, f23)) (k : Q (.inl none, (hp (hp (hp (hp (hp (hp (hp h q2 (1, 8, f3.set 0 (vi 2))) q2 (1, 8, f7.set 1 .null)) q2 (1, 8, f10.set 2 .null)) q2 (1, 8, f13.set 3 (vi x1))) q2 (1, 8, f16.set 4 (vi x2))) q2 (1, 8, f20.set 5 r3)) q2 (1, 8, f23.set 6 .null)), kc, ks)) (e_q2 : r0 = .index q2 := by first | rfl | assumption) (y1 : s_ty r0 = 3 := by first | rfl | assumption) (l5 : 0 < f3.length := by first | exact Nat.le_of_ble_eq_true rfl | omega | assumption) (l9 : 1 < f7.length := by first | exact Nat.le_of_ble_eq_true rfl | omega | assumption) (l12 : 2 < f10.length := by first | exact Nat.le_of_ble_eq_true rfl | omega | assumption) (l15 : 3 < f13.length := by first | exact Nat.le_of_ble_eq_true rfl | omega | assumption) (l18 : 4 < f16.length := by first | exact Nat.le_of_ble_eq_true rfl | omega | assumption) (y19 : s_ty r3 = 3 := by first | rfl | assumption) (l22 : 5 < f20.length := by first | exact Nat.le_of_ble_eq_true rfl | omega | assumption) (l25 : 6 < f23.length := by first | exact Nat.le_of_ble_eq_true rfl | omega | assumption) (c6 : 0 < q2 := by first | omega | assumption | (simp only [mk_len, List.length_map]; omega) | decide) : wr P d sw_c262 sw_h262 (0, [r0, vi x1, vi x2, r3], [], h, kc, ks) Q := by
  refine w_ld rfl rfl (Or.inr (Or.inr ⟨by decide, y1⟩)) ?_
  subst e_q2
  refine w_cobj rfl (s_wt_4 rfl) ?_
  refine w_ld rfl rfl (Or.inr (Or.inr ⟨by decide, rfl⟩)) ?_
  refine w_c32 rfl (by decide) 2 (by decide) ?_
  refine w_putf rfl g4 (Nat.ble_eq_true_of_le c6) rfl (Nat.ble_eq_true_of_le l5) ?_
  refine w_ld rfl rfl (Or.inr (Or.inr ⟨by decide, rfl⟩)) ?_
  refine w_null rfl ?_
  refine w_putf rfl g8 (Nat.ble_eq_true_of_le c6) (s_okF3 rfl) (Nat.ble_eq_true_of_le l9) ?_
  refine w_ld rfl rfl (Or.inr (Or.inr ⟨by decide, rfl⟩)) ?_
  refine w_null rfl ?_
  refine w_putf rfl g11 (Nat.ble_eq_true_of_le c6) (s_okF3 rfl) (Nat.ble_eq_true_of_le l12) ?_
  refine w_ld rfl rfl (Or.inr (Or.inr ⟨by decide, rfl⟩)) ?_
  refine w_ld rfl rfl (Or.inl ⟨by decide, rfl⟩) ?_
  refine w_putf rfl g14 (Nat.ble_eq_true_of_le c6) rfl (Nat.ble_eq_true_of_le l15) ?_
  refine w_ld rfl rfl (Or.inr (Or.inr ⟨by decide, rfl⟩)) ?_
  refine w_ld rfl rfl (Or.inl ⟨by decide, rfl⟩) ?_
  refine w_putf rfl g17 (Nat.ble_eq_true_of_le c6) rfl (Nat.ble_eq_true_of_le l18) ?_
  refine w_ld rfl rfl (Or.inr (Or.inr ⟨by decide, rfl⟩)) ?_
  refine w_ld rfl rfl (Or.inr (Or.inr ⟨by decide, y19⟩)) ?_
  refine w_putf rfl g21 (Nat.ble_eq_true_of_le c6) (s_okF3 y19) (Nat.ble_eq_true_of_le l22) ?_
  refine w_ld rfl rfl (Or.inr (Or.inr ⟨by decide, rfl⟩)) ?_
  refine w_null rfl ?_
  refine w_putf rfl g24 (Nat.ble_eq_true_of_le c6) (s_okF3 rfl) (Nat.ble_eq_true_of_le l25) ?_
  exact w_ret rfl k

/-! 263: FormulaWorks$Thing.<init>(I[I)V -/
theorem k263_0 {P : s_P} {d : Nat} {Q : s_O → Prop} {h : s_H} {kc ks : Nat} {r0 : Term} {x1 : Int} {r2 : Term} {q2 : Nat} {f3 f7 f10 f13 f16 f19 f23 : List Term} (g4 : s_get h q2 = some (1, 8, f3)) (g8 : s_get (hp h q2 (1, 8, f3.set 0 (vi x1))) q2 = some (1, 8, f7)) (g11 : s_get (hp (hp h q2 (1, 8, f3.set 0 (vi x1))) q2 (1, 8, f7.set 1 .null)) q2 = some (1, 8, f10)) (g14 : s_get (hp (hp (hp h q2 (1, 8, f3.set 0 (vi x1))) q2 (1, 8, f7.set 1 .null)) q2 (1, 8, f10.set 2 .null)) q2 = some (1, 8, f13)) (g17 : s_get (hp (hp (hp (hp h q2 (1, 8, f3.set 0 (vi x1))) q2 (1, 8, f7.set 1 .null)) q2 (1, 8, f10.set 2 .null)) q2 (1, 8, f13.set 3 (vi 0))) q2 = some (1, 8, f16)) (g20 : s_get (hp (hp (hp (hp (hp h q2 (1, 8, f3.set 0 (vi x1))) q2 (1, 8, f7.set 1 .null)) q2 (1, 8, f10.set 2 .null)) q2 (1, 8, f13.set 3 (vi 0))) q2 (1, 8, f16.set 4 (vi 0))) q2 = some (1, 8, f19)) (g24 : s_get (hp (hp (hp (hp (hp (hp h q2 (1, 8, f3.set 0 (vi x1))) q2 (1, 8, f7.set 1 .null)) q2 (1, 8, f10.set 2 .null)) q2 (1, 8, f13.set 3 (vi 0))) q2 (1, 8, f16.set 4 (vi 0))) q2 (1, 8, f19.set 5 .null)) q2 = some (1, 8, f23)) (k : Q (.inl none, (hp (hp (hp (hp (hp (hp (hp h q2 (1, 8, f3.set 0 (vi x1))) q2 (1, 8, f7.set 1 .null)) q2 (1, 8, f10.set 2 .null)) q2 (1, 8, f13.set 3 (vi 0))) q2 (1, 8, f16.set 4 (vi 0))) q2 (1, 8, f19.set 5 .null)) q2 (1, 8, f23.set 6 r2)), kc, ks)) (e_q2 : r0 = .index q2 := by first | rfl | assumption) (y1 : s_ty r0 = 3 := by first | rfl | assumption) (l5 : 0 < f3.length := by first | exact Nat.le_of_ble_eq_true rfl | omega | assumption) (l9 : 1 < f7.length := by first | exact Nat.le_of_ble_eq_true rfl | omega | assumption) (l12 : 2 < f10.length := by first | exact Nat.le_of_ble_eq_true rfl | omega | assumption) (l15 : 3 < f13.length := by first | exact Nat.le_of_ble_eq_true rfl | omega | assumption) (l18 : 4 < f16.length := by first | exact Nat.le_of_ble_eq_true rfl | omega | assumption) (l21 : 5 < f19.length := by first | exact Nat.le_of_ble_eq_true rfl | omega | assumption) (y22 : s_ty r2 = 3 := by first | rfl | assumption) (l25 : 6 < f23.length := by first | exact Nat.le_of_ble_eq_true rfl | omega | assumption) (c6 : 0 < q2 := by first | omega | assumption | (simp only [mk_len, List.length_map]; omega) | decide) : wr P d sw_c263 sw_h263 (0, [r0, vi x1, r2], [], h, kc, ks) Q := by
  refine w_ld rfl rfl (Or.inr (Or.inr ⟨by decide, y1⟩)) ?_
  subst e_q2
  refine w_cobj rfl (s_wt_4 rfl) ?_
  refine w_ld rfl rfl (Or.inr (Or.inr ⟨by decide, rfl⟩)) ?_
  refine w_ld rfl rfl (Or.inl ⟨by decide, rfl⟩) ?_
  refine w_putf rfl g4 (Nat.ble_eq_true_of_le c6) rfl (Nat.ble_eq_true_of_le l5) ?_
  refine w_ld rfl rfl (Or.inr (Or.inr ⟨by decide, rfl⟩)) ?_
  refine w_null rfl ?_
  refine w_putf rfl g8 (Nat.ble_eq_true_of_le c6) (s_okF3 rfl) (Nat.ble_eq_true_of_le l9) ?_
  refine w_ld rfl rfl (Or.inr (Or.inr ⟨by decide, rfl⟩)) ?_
  refine w_null rfl ?_
  refine w_putf rfl g11 (Nat.ble_eq_true_of_le c6) (s_okF3 rfl) (Nat.ble_eq_true_of_le l12) ?_
  refine w_ld rfl rfl (Or.inr (Or.inr ⟨by decide, rfl⟩)) ?_
  refine w_c32 rfl (by decide) 0 (by decide) ?_
  refine w_putf rfl g14 (Nat.ble_eq_true_of_le c6) rfl (Nat.ble_eq_true_of_le l15) ?_
  refine w_ld rfl rfl (Or.inr (Or.inr ⟨by decide, rfl⟩)) ?_
  refine w_c32 rfl (by decide) 0 (by decide) ?_
  refine w_putf rfl g17 (Nat.ble_eq_true_of_le c6) rfl (Nat.ble_eq_true_of_le l18) ?_
  refine w_ld rfl rfl (Or.inr (Or.inr ⟨by decide, rfl⟩)) ?_
  refine w_null rfl ?_
  refine w_putf rfl g20 (Nat.ble_eq_true_of_le c6) (s_okF3 rfl) (Nat.ble_eq_true_of_le l21) ?_
  refine w_ld rfl rfl (Or.inr (Or.inr ⟨by decide, rfl⟩)) ?_
  refine w_ld rfl rfl (Or.inr (Or.inr ⟨by decide, y22⟩)) ?_
  refine w_putf rfl g24 (Nat.ble_eq_true_of_le c6) (s_okF3 y22) (Nat.ble_eq_true_of_le l25) ?_
  exact w_ret rfl k

/-! 264: FormulaWorks$Thing.<init>(LFormulaWorks$Poly;LFormulaWorks$Poly;)V -/
theorem k264_0 {P : s_P} {d : Nat} {Q : s_O → Prop} {h : s_H} {kc ks : Nat} {r0 r1 r2 : Term} {q2 : Nat} {f3 f8 f12 f15 f18 f21 f24 : List Term} (g4 : s_get h q2 = some (1, 8, f3)) (g9 : s_get (hp h q2 (1, 8, f3.set 0 (vi 0))) q2 = some (1, 8, f8)) (g13 : s_get (hp (hp h q2 (1, 8, f3.set 0 (vi 0))) q2 (1, 8, f8.set 1 r1)) q2 = some (1, 8, f12)) (g16 : s_get (hp (hp (hp h q2 (1, 8, f3.set 0 (vi 0))) q2 (1, 8, f8.set 1 r1)) q2 (1, 8, f12.set 2 r2)) q2 = some (1, 8, f15)) (g19 : s_get (hp (hp (hp (hp h q2 (1, 8, f3.set 0 (vi 0))) q2 (1, 8, f8.set 1 r1)) q2 (1, 8, f12.set 2 r2)) q2 (1, 8, f15.set 3 (vi 0))) q2 = some (1, 8, f18)) (g22 : s_get (hp (hp (hp (hp (hp h q2 (1, 8, f3.set 0 (vi 0))) q2 (1, 8, f8.set 1 r1)) q2 (1, 8, f12.set 2 r2)) q2 (1, 8, f15.set 3 (vi 0))) q2 (1, 8, f18.set 4 (vi 0))) q2 = some (1, 8, f21)) (g25 : s_get (hp (hp (hp (hp (hp (hp h q2 (1, 8, f3.set 0 (vi 0))) q2 (1, 8, f8.set 1 r1)) q2 (1, 8, f12.set 2 r2)) q2 (1, 8, f15.set 3 (vi 0))) q2 (1, 8, f18.set 4 (vi 0))) q2 (1, 8, f21.set 5 .null)) q2 = some (1, 8, f24)) (k : Q (.inl none, (hp (hp (hp (hp (hp (hp (hp h q2 (1, 8, f3.set 0 (vi 0))) q2 (1, 8, f8.set 1 r1)) q2 (1, 8, f12.set 2 r2)) q2 (1, 8, f15.set 3 (vi 0))) q2 (1, 8, f18.set 4 (vi 0))) q2 (1, 8, f21.set 5 .null)) q2 (1, 8, f24.set 6 .null)), kc, ks)) (e_q2 : r0 = .index q2 := by first | rfl | assumption) (y1 : s_ty r0 = 3 := by first | rfl | assumption) (l5 : 0 < f3.length := by first | exact Nat.le_of_ble_eq_true rfl | omega | assumption) (y7 : s_ty r1 = 3 := by first | rfl | assumption) (l10 : 1 < f8.length := by first | exact Nat.le_of_ble_eq_true rfl | omega | assumption) (y11 : s_ty r2 = 3 := by first | rfl | assumption) (l14 : 2 < f12.length := by first | exact Nat.le_of_ble_eq_true rfl | omega | assumption) (l17 : 3 < f15.length := by first | exact Nat.le_of_ble_eq_true rfl | omega | assumption) (l20 : 4 < f18.length := by first | exact Nat.le_of_ble_eq_true rfl | omega | assumption) (l23 : 5 < f21.length := by first | exact Nat.le_of_ble_eq_true rfl | omega | assumption) (l26 : 6 < f24.length := by first | exact Nat.le_of_ble_eq_true rfl | omega | assumption) (c6 : 0 < q2 := by first | omega | assumption | (simp only [mk_len, List.length_map]; omega) | decide) : wr P d sw_c264 sw_h264 (0, [r0, r1, r2], [], h, kc, ks) Q := by
  refine w_ld rfl rfl (Or.inr (Or.inr ⟨by decide, y1⟩)) ?_
  subst e_q2
  refine w_cobj rfl (s_wt_4 rfl) ?_
  refine w_ld rfl rfl (Or.inr (Or.inr ⟨by decide, rfl⟩)) ?_
  refine w_c32 rfl (by decide) 0 (by decide) ?_
  refine w_putf rfl g4 (Nat.ble_eq_true_of_le c6) rfl (Nat.ble_eq_true_of_le l5) ?_
  refine w_ld rfl rfl (Or.inr (Or.inr ⟨by decide, rfl⟩)) ?_
  refine w_ld rfl rfl (Or.inr (Or.inr ⟨by decide, y7⟩)) ?_
  refine w_putf rfl g9 (Nat.ble_eq_true_of_le c6) (s_okF3 y7) (Nat.ble_eq_true_of_le l10) ?_
  refine w_ld rfl rfl (Or.inr (Or.inr ⟨by decide, rfl⟩)) ?_
  refine w_ld rfl rfl (Or.inr (Or.inr ⟨by decide, y11⟩)) ?_
  refine w_putf rfl g13 (Nat.ble_eq_true_of_le c6) (s_okF3 y11) (Nat.ble_eq_true_of_le l14) ?_
  refine w_ld rfl rfl (Or.inr (Or.inr ⟨by decide, rfl⟩)) ?_
  refine w_c32 rfl (by decide) 0 (by decide) ?_
  refine w_putf rfl g16 (Nat.ble_eq_true_of_le c6) rfl (Nat.ble_eq_true_of_le l17) ?_
  refine w_ld rfl rfl (Or.inr (Or.inr ⟨by decide, rfl⟩)) ?_
  refine w_c32 rfl (by decide) 0 (by decide) ?_
  refine w_putf rfl g19 (Nat.ble_eq_true_of_le c6) rfl (Nat.ble_eq_true_of_le l20) ?_
  refine w_ld rfl rfl (Or.inr (Or.inr ⟨by decide, rfl⟩)) ?_
  refine w_null rfl ?_
  refine w_putf rfl g22 (Nat.ble_eq_true_of_le c6) (s_okF3 rfl) (Nat.ble_eq_true_of_le l23) ?_
  refine w_ld rfl rfl (Or.inr (Or.inr ⟨by decide, rfl⟩)) ?_
  refine w_null rfl ?_
  refine w_putf rfl g25 (Nat.ble_eq_true_of_le c6) (s_okF3 rfl) (Nat.ble_eq_true_of_le l26) ?_
  exact w_ret rfl k

/-! 265: FormulaWorks$Thing.entryAt(II)LFormulaWorks$Poly; -/
theorem k265_0 {P : s_P} {d : Nat} {Q : s_O → Prop} {h : s_H} {kc ks : Nat} {r0 : Term} {x1 x2 : Int} {q2 : Nat} {f3 : List Term} {v5 : Term} {z7 : Int} {q9 : Nat} {a10 : List Term} {tg12 : Nat} {v13 : Term} (g4 : s_get h q2 = some (1, 8, f3)) (g11 : s_get h q9 = some (0, tg12, a10)) (k : Q (.inl (some v13), h, kc, ks)) (e_q2 : r0 = .index q2 := by first | rfl | assumption) (e_q9 : v5 = .index q9 := by first | rfl | assumption) (y1 : s_ty r0 = 3 := by first | rfl | assumption) (n6 : s_nth f3 5 = some v5 := by first | rfl | assumption) (n8 : s_nth f3 4 = some (vi z7) := by first | rfl | assumption) (n14 : s_nth a10 (Int.toNat ((x1 * z7) + x2)) = some v13 := by first | rfl | assumption) (u15 : tg12 = 2 ∨ tg12 = 3 ∨ tg12 = 4 := by first | decide | assumption) (y18 : s_ty v13 = 3 := by first | rfl | assumption) (c16 : In3 ((x1 * z7) + x2) := by first | omega | assumption | (simp only [mk_len, List.length_map]; omega) | decide) (c17 : 0 ≤ (x1 * z7) + x2 := by first | omega | assumption | (simp only [mk_len, List.length_map]; omega) | decide) : wr P d sw_c265 sw_h265 (0, [r0, vi x1, vi x2], [], h, kc, ks) Q := by
  refine w_ld rfl rfl (Or.inr (Or.inr ⟨by decide, y1⟩)) ?_
  subst e_q2
  refine w_getf rfl g4 n6 ?_
  refine w_ld rfl rfl (Or.inl ⟨by decide, rfl⟩) ?_
  refine w_ld rfl rfl (Or.inr (Or.inr ⟨by decide, rfl⟩)) ?_
  refine w_getf rfl g4 n8 ?_
  refine w_imul rfl ?_
  refine w_ld rfl rfl (Or.inl ⟨by decide, rfl⟩) ?_
  refine w_iadd rfl ?_
  subst e_q9
  refine w_aald rfl g11 u15 c16 c17 n14 ?_
  exact w_aret rfl y18 k

/-! 266: FormulaWorks$Thing.factored()LFormulaWorks$Poly; -/
theorem k266_0 {P : s_P} {d : Nat} {Q : s_O → Prop} {h : s_H} {kc ks : Nat} {r0 : Term} {q2 : Nat} {f3 : List Term} {v5 : Term} {q7 : Nat} {f8 : List Term} {z10 : Int} (g4 : s_get h q2 = some (1, 8, f3)) (g9 : s_get h q7 = some (1, 4, f8)) (k1 : z10 ≠ 0 → wr P d sw_c266 sw_h266 (17, [.index q2], [], h, kc, ks) Q) (k2 : ¬ z10 ≠ 0 → wr P d sw_c266 sw_h266 (10, [.index q2], [], h, kc, ks) Q) (e_q2 : r0 = .index q2 := by first | rfl | assumption) (e_q7 : v5 = .index q7 := by first | rfl | assumption) (y1 : s_ty r0 = 3 := by first | rfl | assumption) (n6 : s_nth f3 2 = some v5 := by first | rfl | assumption) (n11 : s_nth f8 1 = some (vi z10) := by first | rfl | assumption) (c12 : In3 z10 := by first | omega | assumption | (simp only [mk_len, List.length_map]; omega) | decide) : wr P d sw_c266 sw_h266 (0, [r0], [], h, kc, ks) Q := by
  refine w_ld rfl rfl (Or.inr (Or.inr ⟨by decide, y1⟩)) ?_
  subst e_q2
  refine w_getf rfl g4 n6 ?_
  subst e_q7
  refine w_getf rfl g9 n11 ?_
  exact w_if1 rfl c12 k1 k2

theorem k266_10 {P : s_P} {d : Nat} {Q : s_O → Prop} {h : s_H} {kc ks : Nat} {r0 : Term} {q2 : Nat} {f3 : List Term} {v5 : Term} (g4 : s_get h q2 = some (1, 8, f3)) (k : wr P d sw_c266 sw_h266 (21, [.index q2], [v5], h, kc, ks) Q) (e_q2 : r0 = .index q2 := by first | rfl | assumption) (y1 : s_ty r0 = 3 := by first | rfl | assumption) (n6 : s_nth f3 1 = some v5 := by first | rfl | assumption)  : wr P d sw_c266 sw_h266 (10, [r0], [], h, kc, ks) Q := by
  refine w_ld rfl rfl (Or.inr (Or.inr ⟨by decide, y1⟩)) ?_
  subst e_q2
  refine w_getf rfl g4 n6 ?_
  refine w_goto rfl ?_
  exact k

theorem k266_17 {P : s_P} {d : Nat} {Q : s_O → Prop} {h : s_H} {kc ks : Nat} {r0 : Term} {q2 : Nat} {f3 : List Term} {v5 : Term} (g4 : s_get h q2 = some (1, 8, f3)) (k : wr P d sw_c266 sw_h266 (21, [.index q2], [v5], h, kc, ks) Q) (e_q2 : r0 = .index q2 := by first | rfl | assumption) (y1 : s_ty r0 = 3 := by first | rfl | assumption) (n6 : s_nth f3 2 = some v5 := by first | rfl | assumption)  : wr P d sw_c266 sw_h266 (17, [r0], [], h, kc, ks) Q := by
  refine w_ld rfl rfl (Or.inr (Or.inr ⟨by decide, y1⟩)) ?_
  subst e_q2
  refine w_getf rfl g4 n6 ?_
  exact k

theorem k266_21 {P : s_P} {d : Nat} {Q : s_O → Prop} {h : s_H} {kc ks : Nat} {r0 s0 : Term}  (k : Q (.inl (some s0), h, kc, ks)) (y1 : s_ty s0 = 3 := by first | rfl | assumption)  : wr P d sw_c266 sw_h266 (21, [r0], [s0], h, kc, ks) Q := by
  exact w_aret rfl y1 k

/-! 267: FormulaWorks$Thing.isWhole()Z -/
theorem k267_0 {P : s_P} {d : Nat} {Q : s_O → Prop} {h : s_H} {kc ks : Nat} {r0 : Term} {q2 : Nat} {f3 : List Term} {v5 : Term} {q7 : Nat} {f8 : List Term} {z10 : Int} (g4 : s_get h q2 = some (1, 8, f3)) (g9 : s_get h q7 = some (1, 4, f8)) (k1 : z10 ≠ 0 → wr P d sw_c267 sw_h267 (14, [.index q2], [], h, kc, ks) Q) (k2 : ¬ z10 ≠ 0 → wr P d sw_c267 sw_h267 (10, [.index q2], [], h, kc, ks) Q) (e_q2 : r0 = .index q2 := by first | rfl | assumption) (e_q7 : v5 = .index q7 := by first | rfl | assumption) (y1 : s_ty r0 = 3 := by first | rfl | assumption) (n6 : s_nth f3 2 = some v5 := by first | rfl | assumption) (n11 : s_nth f8 1 = some (vi z10) := by first | rfl | assumption) (c12 : In3 z10 := by first | omega | assumption | (simp only [mk_len, List.length_map]; omega) | decide) : wr P d sw_c267 sw_h267 (0, [r0], [], h, kc, ks) Q := by
  refine w_ld rfl rfl (Or.inr (Or.inr ⟨by decide, y1⟩)) ?_
  subst e_q2
  refine w_getf rfl g4 n6 ?_
  subst e_q7
  refine w_getf rfl g9 n11 ?_
  exact w_if1 rfl c12 k1 k2

theorem k267_10 {P : s_P} {d : Nat} {Q : s_O → Prop} {h : s_H} {kc ks : Nat} {r0 : Term}  (k : wr P d sw_c267 sw_h267 (15, [r0], [vi 1], h, kc, ks) Q)   : wr P d sw_c267 sw_h267 (10, [r0], [], h, kc, ks) Q := by
  refine w_c32 rfl (by decide) 1 (by decide) ?_
  refine w_goto rfl ?_
  exact k

theorem k267_14 {P : s_P} {d : Nat} {Q : s_O → Prop} {h : s_H} {kc ks : Nat} {r0 : Term}  (k : wr P d sw_c267 sw_h267 (15, [r0], [vi 0], h, kc, ks) Q)   : wr P d sw_c267 sw_h267 (14, [r0], [], h, kc, ks) Q := by
  refine w_c32 rfl (by decide) 0 (by decide) ?_
  exact k

theorem k267_15 {P : s_P} {d : Nat} {Q : s_O → Prop} {h : s_H} {kc ks : Nat} {r0 : Term} {s0 : Int}  (k : Q (.inl (some (vi s0)), h, kc, ks))  (c1 : s0 = 0 ∨ s0 = 1 := by first | omega | assumption | (simp only [mk_len, List.length_map]; omega) | decide) : wr P d sw_c267 sw_h267 (15, [r0], [vi s0], h, kc, ks) Q := by
  exact w_zret rfl c1 k

/-! 268: FormulaWorks$Thing.sameAs(LFormulaWorks$Thing;)Z -/
theorem k268_0 {P : s_P} {d : Nat} {Q : s_O → Prop} {h : s_H} {kc ks : Nat} {r0 r1 : Term} {q2 : Nat} {f3 : List Term} {z5 : Int} {q8 : Nat} {f9 : List Term} {z11 : Int} (g4 : s_get h q2 = some (1, 8, f3)) (g10 : s_get h q8 = some (1, 8, f9)) (k1 : z5 = z11 → wr P d sw_c268 sw_h268 (13, [.index q2, .index q8], [], h, kc, ks) Q) (k2 : ¬ z5 = z11 → wr P d sw_c268 sw_h268 (11, [.index q2, .index q8], [], h, kc, ks) Q) (e_q2 : r0 = .index q2 := by first | rfl | assumption) (e_q8 : r1 = .index q8 := by first | rfl | assumption) (y1 : s_ty r0 = 3 := by first | rfl | assumption) (n6 : s_nth f3 0 = some (vi z5) := by first | rfl | assumption) (y7 : s_ty r1 = 3 := by first | rfl | assumption) (n12 : s_nth f9 0 = some (vi z11) := by first | rfl | assumption) (c13 : In3 z5 := by first | omega | assumption | (simp only [mk_len, List.length_map]; omega) | decide) (c14 : In3 z11 := by first | omega | assumption | (simp only [mk_len, List.length_map]; omega) | decide) : wr P d sw_c268 sw_h268 (0, [r0, r1], [], h, kc, ks) Q := by
  refine w_ld rfl rfl (Or.inr (Or.inr ⟨by decide, y1⟩)) ?_
  subst e_q2
  refine w_getf rfl g4 n6 ?_
  refine w_ld rfl rfl (Or.inr (Or.inr ⟨by decide, y7⟩)) ?_
  subst e_q8
  refine w_getf rfl g10 n12 ?_
  exact w_if2 rfl c13 c14 k1 k2

theorem k268_11 {P : s_P} {d : Nat} {Q : s_O → Prop} {h : s_H} {kc ks : Nat} {r0 r1 : Term}  (k : Q (.inl (some (vi 0)), h, kc, ks))   : wr P d sw_c268 sw_h268 (11, [r0, r1], [], h, kc, ks) Q := by
  refine w_c32 rfl (by decide) 0 (by decide) ?_
  exact w_zret rfl (by decide) k

theorem k268_13 {P : s_P} {d : Nat} {Q : s_O → Prop} {h : s_H} {kc ks : Nat} {r0 r1 : Term} {q2 : Nat} {f3 : List Term} {z5 : Int} (g4 : s_get h q2 = some (1, 8, f3)) (k1 : z5 ≠ 0 → wr P d sw_c268 sw_h268 (54, [.index q2, r1], [], h, kc, ks) Q) (k2 : ¬ z5 ≠ 0 → wr P d sw_c268 sw_h268 (20, [.index q2, r1], [], h, kc, ks) Q) (e_q2 : r0 = .index q2 := by first | rfl | assumption) (y1 : s_ty r0 = 3 := by first | rfl | assumption) (n6 : s_nth f3 0 = some (vi z5) := by first | rfl | assumption) (c7 : In3 z5 := by first | omega | assumption | (simp only [mk_len, List.length_map]; omega) | decide) : wr P d sw_c268 sw_h268 (13, [r0, r1], [], h, kc, ks) Q := by
  refine w_ld rfl rfl (Or.inr (Or.inr ⟨by decide, y1⟩)) ?_
  subst e_q2
  refine w_getf rfl g4 n6 ?_
  exact w_if1 rfl c7 k1 k2

theorem k268_20 {P : s_P} {d : Nat} {Q : s_O → Prop} {h : s_H} {kc ks : Nat} {r0 r1 : Term} {q2 : Nat} {f3 : List Term} {v5 : Term} {q8 : Nat} {f9 : List Term} {v11 : Term} {q13 : Nat} {f14 : List Term} (g4 : s_get h q2 = some (1, 8, f3)) (g10 : s_get h q8 = some (1, 8, f9)) (g15 : s_get h q13 = some (1, 4, f14)) (k : wm P d 177 [.index q13, v11] h (wq P d sw_c268 sw_h268 31 [.index q2, .index q8] [] kc ks Q)) (e_q2 : r0 = .index q2 := by first | rfl | assumption) (e_q8 : r1 = .index q8 := by first | rfl | assumption) (e_q13 : v5 = .index q13 := by first | rfl | assumption) (y1 : s_ty r0 = 3 := by first | rfl | assumption) (n6 : s_nth f3 1 = some v5 := by first | rfl | assumption) (y7 : s_ty r1 = 3 := by first | rfl | assumption) (n12 : s_nth f9 1 = some v11 := by first | rfl | assumption)  : wr P d sw_c268 sw_h268 (20, [r0, r1], [], h, kc, ks) Q := by
  refine w_ld rfl rfl (Or.inr (Or.inr ⟨by decide, y1⟩)) ?_
  subst e_q2
  refine w_getf rfl g4 n6 ?_
  refine w_ld rfl rfl (Or.inr (Or.inr ⟨by decide, y7⟩)) ?_
  subst e_q8
  refine w_getf rfl g10 n12 ?_
  subst e_q13
  exact w_cv rfl [.index q13, v11] [] rfl rfl (s_wt_4 rfl) rfl g15 k

theorem k268_31 {P : s_P} {d : Nat} {Q : s_O → Prop} {h : s_H} {kc ks : Nat} {r0 r1 : Term} {s0 : Int}  (k1 : s0 = 0 → wr P d sw_c268 sw_h268 (52, [r0, r1], [], h, kc, ks) Q) (k2 : ¬ s0 = 0 → wr P d sw_c268 sw_h268 (34, [r0, r1], [], h, kc, ks) Q)  (c1 : In3 s0 := by first | omega | assumption | (simp only [mk_len, List.length_map]; omega) | decide) : wr P d sw_c268 sw_h268 (31, [r0, r1], [vi s0], h, kc, ks) Q := by
  exact w_if1 rfl c1 k1 k2

theorem k268_34 {P : s_P} {d : Nat} {Q : s_O → Prop} {h : s_H} {kc ks : Nat} {r0 r1 : Term} {q2 : Nat} {f3 : List Term} {v5 : Term} {q8 : Nat} {f9 : List Term} {v11 : Term} {q13 : Nat} {f14 : List Term} (g4 : s_get h q2 = some (1, 8, f3)) (g10 : s_get h q8 = some (1, 8, f9)) (g15 : s_get h q13 = some (1, 4, f14)) (k : wm P d 177 [.index q13, v11] h (wq P d sw_c268 sw_h268 45 [.index q2, .index q8] [] kc ks Q)) (e_q2 : r0 = .index q2 := by first | rfl | assumption) (e_q8 : r1 = .index q8 := by first | rfl | assumption) (e_q13 : v5 = .index q13 := by first | rfl | assumption) (y1 : s_ty r0 = 3 := by first | rfl | assumption) (n6 : s_nth f3 2 = some v5 := by first | rfl | assumption) (y7 : s_ty r1 = 3 := by first | rfl | assumption) (n12 : s_nth f9 2 = some v11 := by first | rfl | assumption)  : wr P d sw_c268 sw_h268 (34, [r0, r1], [], h, kc, ks) Q := by
  refine w_ld rfl rfl (Or.inr (Or.inr ⟨by decide, y1⟩)) ?_
  subst e_q2
  refine w_getf rfl g4 n6 ?_
  refine w_ld rfl rfl (Or.inr (Or.inr ⟨by decide, y7⟩)) ?_
  subst e_q8
  refine w_getf rfl g10 n12 ?_
  subst e_q13
  exact w_cv rfl [.index q13, v11] [] rfl rfl (s_wt_4 rfl) rfl g15 k

theorem k268_45 {P : s_P} {d : Nat} {Q : s_O → Prop} {h : s_H} {kc ks : Nat} {r0 r1 : Term} {s0 : Int}  (k1 : s0 = 0 → wr P d sw_c268 sw_h268 (52, [r0, r1], [], h, kc, ks) Q) (k2 : ¬ s0 = 0 → wr P d sw_c268 sw_h268 (48, [r0, r1], [], h, kc, ks) Q)  (c1 : In3 s0 := by first | omega | assumption | (simp only [mk_len, List.length_map]; omega) | decide) : wr P d sw_c268 sw_h268 (45, [r0, r1], [vi s0], h, kc, ks) Q := by
  exact w_if1 rfl c1 k1 k2

theorem k268_48 {P : s_P} {d : Nat} {Q : s_O → Prop} {h : s_H} {kc ks : Nat} {r0 r1 : Term}  (k : wr P d sw_c268 sw_h268 (53, [r0, r1], [vi 1], h, kc, ks) Q)   : wr P d sw_c268 sw_h268 (48, [r0, r1], [], h, kc, ks) Q := by
  refine w_c32 rfl (by decide) 1 (by decide) ?_
  refine w_goto rfl ?_
  exact k

theorem k268_52 {P : s_P} {d : Nat} {Q : s_O → Prop} {h : s_H} {kc ks : Nat} {r0 r1 : Term}  (k : wr P d sw_c268 sw_h268 (53, [r0, r1], [vi 0], h, kc, ks) Q)   : wr P d sw_c268 sw_h268 (52, [r0, r1], [], h, kc, ks) Q := by
  refine w_c32 rfl (by decide) 0 (by decide) ?_
  exact k

theorem k268_53 {P : s_P} {d : Nat} {Q : s_O → Prop} {h : s_H} {kc ks : Nat} {r0 r1 : Term} {s0 : Int}  (k : Q (.inl (some (vi s0)), h, kc, ks))  (c1 : s0 = 0 ∨ s0 = 1 := by first | omega | assumption | (simp only [mk_len, List.length_map]; omega) | decide) : wr P d sw_c268 sw_h268 (53, [r0, r1], [vi s0], h, kc, ks) Q := by
  exact w_zret rfl c1 k

theorem k268_54 {P : s_P} {d : Nat} {Q : s_O → Prop} {h : s_H} {kc ks : Nat} {r0 r1 : Term} {q2 : Nat} {f3 : List Term} {z5 : Int} (g4 : s_get h q2 = some (1, 8, f3)) (k1 : z5 ≠ 2 → wr P d sw_c268 sw_h268 (70, [.index q2, r1], [], h, kc, ks) Q) (k2 : ¬ z5 ≠ 2 → wr P d sw_c268 sw_h268 (62, [.index q2, r1], [], h, kc, ks) Q) (e_q2 : r0 = .index q2 := by first | rfl | assumption) (y1 : s_ty r0 = 3 := by first | rfl | assumption) (n6 : s_nth f3 0 = some (vi z5) := by first | rfl | assumption) (c7 : In3 z5 := by first | omega | assumption | (simp only [mk_len, List.length_map]; omega) | decide) : wr P d sw_c268 sw_h268 (54, [r0, r1], [], h, kc, ks) Q := by
  refine w_ld rfl rfl (Or.inr (Or.inr ⟨by decide, y1⟩)) ?_
  subst e_q2
  refine w_getf rfl g4 n6 ?_
  refine w_c32 rfl (by decide) 2 (by decide) ?_
  exact w_if2 rfl c7 (by decide) k1 k2

theorem k268_62 {P : s_P} {d : Nat} {Q : s_O → Prop} {h : s_H} {kc ks : Nat} {r0 r1 : Term} {q3 : Nat} {f4 : List Term} (g5 : s_get h q3 = some (1, 8, f4)) (k : wm P d 269 [.index q3, r1] h (wq P d sw_c268 sw_h268 67 [.index q3, r1] [] kc ks Q)) (e_q3 : r0 = .index q3 := by first | rfl | assumption) (y1 : s_ty r0 = 3 := by first | rfl | assumption) (y2 : s_ty r1 = 3 := by first | rfl | assumption)  : wr P d sw_c268 sw_h268 (62, [r0, r1], [], h, kc, ks) Q := by
  refine w_ld rfl rfl (Or.inr (Or.inr ⟨by decide, y1⟩)) ?_
  refine w_ld rfl rfl (Or.inr (Or.inr ⟨by decide, y2⟩)) ?_
  subst e_q3
  exact w_cv rfl [.index q3, r1] [] rfl rfl (s_wt_4 rfl) rfl g5 k

theorem k268_67 {P : s_P} {d : Nat} {Q : s_O → Prop} {h : s_H} {kc ks : Nat} {r0 r1 : Term} {s0 : Int}  (k : wr P d sw_c268 sw_h268 (75, [r0, r1], [vi s0], h, kc, ks) Q)   : wr P d sw_c268 sw_h268 (67, [r0, r1], [vi s0], h, kc, ks) Q := by
  refine w_goto rfl ?_
  exact k

theorem k268_70 {P : s_P} {d : Nat} {Q : s_O → Prop} {h : s_H} {kc ks : Nat} {r0 r1 : Term} {q3 : Nat} {f4 : List Term} (g5 : s_get h q3 = some (1, 8, f4)) (k : wm P d 270 [.index q3, r1] h (wq P d sw_c268 sw_h268 75 [.index q3, r1] [] kc ks Q)) (e_q3 : r0 = .index q3 := by first | rfl | assumption) (y1 : s_ty r0 = 3 := by first | rfl | assumption) (y2 : s_ty r1 = 3 := by first | rfl | assumption)  : wr P d sw_c268 sw_h268 (70, [r0, r1], [], h, kc, ks) Q := by
  refine w_ld rfl rfl (Or.inr (Or.inr ⟨by decide, y1⟩)) ?_
  refine w_ld rfl rfl (Or.inr (Or.inr ⟨by decide, y2⟩)) ?_
  subst e_q3
  exact w_cv rfl [.index q3, r1] [] rfl rfl (s_wt_4 rfl) rfl g5 k

theorem k268_75 {P : s_P} {d : Nat} {Q : s_O → Prop} {h : s_H} {kc ks : Nat} {r0 r1 : Term} {s0 : Int}  (k : Q (.inl (some (vi s0)), h, kc, ks))  (c1 : s0 = 0 ∨ s0 = 1 := by first | omega | assumption | (simp only [mk_len, List.length_map]; omega) | decide) : wr P d sw_c268 sw_h268 (75, [r0, r1], [vi s0], h, kc, ks) Q := by
  exact w_zret rfl c1 k

/-! 269: FormulaWorks$Thing.sameEntries(LFormulaWorks$Thing;)Z -/
theorem k269_0 {P : s_P} {d : Nat} {Q : s_O → Prop} {h : s_H} {kc ks : Nat} {r0 r1 t2 : Term} {q2 : Nat} {f3 : List Term} {z5 : Int} {q8 : Nat} {f9 : List Term} {z11 : Int} (g4 : s_get h q2 = some (1, 8, f3)) (g10 : s_get h q8 = some (1, 8, f9)) (k1 : z5 ≠ z11 → wr P d sw_c269 sw_h269 (22, [.index q2, .index q8, t2], [], h, kc, ks) Q) (k2 : ¬ z5 ≠ z11 → wr P d sw_c269 sw_h269 (11, [.index q2, .index q8, t2], [], h, kc, ks) Q) (e_q2 : r0 = .index q2 := by first | rfl | assumption) (e_q8 : r1 = .index q8 := by first | rfl | assumption) (y1 : s_ty r0 = 3 := by first | rfl | assumption) (n6 : s_nth f3 3 = some (vi z5) := by first | rfl | assumption) (y7 : s_ty r1 = 3 := by first | rfl | assumption) (n12 : s_nth f9 3 = some (vi z11) := by first | rfl | assumption) (c13 : In3 z5 := by first | omega | assumption | (simp only [mk_len, List.length_map]; omega) | decide) (c14 : In3 z11 := by first | omega | assumption | (simp only [mk_len, List.length_map]; omega) | decide) : wr P d sw_c269 sw_h269 (0, [r0, r1, t2], [], h, kc, ks) Q := by
  refine w_ld rfl rfl (Or.inr (Or.inr ⟨by decide, y1⟩)) ?_
  subst e_q2
  refine w_getf rfl g4 n6 ?_
  refine w_ld rfl rfl (Or.inr (Or.inr ⟨by decide, y7⟩)) ?_
  subst e_q8
  refine w_getf rfl g10 n12 ?_
  exact w_if2 rfl c13 c14 k1 k2

theorem k269_11 {P : s_P} {d : Nat} {Q : s_O → Prop} {h : s_H} {kc ks : Nat} {r0 r1 t2 : Term} {q2 : Nat} {f3 : List Term} {z5 : Int} {q8 : Nat} {f9 : List Term} {z11 : Int} (g4 : s_get h q2 = some (1, 8, f3)) (g10 : s_get h q8 = some (1, 8, f9)) (k1 : z5 = z11 → wr P d sw_c269 sw_h269 (24, [.index q2, .index q8, t2], [], h, kc, ks) Q) (k2 : ¬ z5 = z11 → wr P d sw_c269 sw_h269 (22, [.index q2, .index q8, t2], [], h, kc, ks) Q) (e_q2 : r0 = .index q2 := by first | rfl | assumption) (e_q8 : r1 = .index q8 := by first | rfl | assumption) (y1 : s_ty r0 = 3 := by first | rfl | assumption) (n6 : s_nth f3 4 = some (vi z5) := by first | rfl | assumption) (y7 : s_ty r1 = 3 := by first | rfl | assumption) (n12 : s_nth f9 4 = some (vi z11) := by first | rfl | assumption) (c13 : In3 z5 := by first | omega | assumption | (simp only [mk_len, List.length_map]; omega) | decide) (c14 : In3 z11 := by first | omega | assumption | (simp only [mk_len, List.length_map]; omega) | decide) : wr P d sw_c269 sw_h269 (11, [r0, r1, t2], [], h, kc, ks) Q := by
  refine w_ld rfl rfl (Or.inr (Or.inr ⟨by decide, y1⟩)) ?_
  subst e_q2
  refine w_getf rfl g4 n6 ?_
  refine w_ld rfl rfl (Or.inr (Or.inr ⟨by decide, y7⟩)) ?_
  subst e_q8
  refine w_getf rfl g10 n12 ?_
  exact w_if2 rfl c13 c14 k1 k2

theorem k269_22 {P : s_P} {d : Nat} {Q : s_O → Prop} {h : s_H} {kc ks : Nat} {r0 r1 t2 : Term}  (k : Q (.inl (some (vi 0)), h, kc, ks))   : wr P d sw_c269 sw_h269 (22, [r0, r1, t2], [], h, kc, ks) Q := by
  refine w_c32 rfl (by decide) 0 (by decide) ?_
  exact w_zret rfl (by decide) k

theorem k269_24 {P : s_P} {d : Nat} {Q : s_O → Prop} {h : s_H} {kc ks : Nat} {r0 r1 t2 : Term}  (k : wr P d sw_c269 sw_h269 (26, [r0, r1, vi 0], [], h, kc, ks) Q) (y1 : s_ty r1 = 3 := by first | rfl | assumption)  : wr P d sw_c269 sw_h269 (24, [r0, r1, t2], [], h, kc, ks) Q := by
  refine w_c32 rfl (by decide) 0 (by decide) ?_
  refine w_st (ls' := [r0, r1, vi 0]) rfl (Or.inl ⟨by decide, rfl⟩) (s_stK_r (pre := [r0]) y1) ?_
  exact k

theorem k269_26 {P : s_P} {d : Nat} {Q : s_O → Prop} {h : s_H} {kc ks : Nat} {r0 r1 : Term} {x2 : Int} {q2 : Nat} {f3 : List Term} {v5 : Term} {q7 : Nat} {a8 : List Term} {tg10 : Nat} (g4 : s_get h q2 = some (1, 8, f3)) (g9 : s_get h q7 = some (0, tg10, a8)) (k1 : (a8.length : Int) ≤ x2 → wr P d sw_c269 sw_h269 (70, [.index q2, r1, vi x2], [], h, kc, ks) Q) (k2 : ¬ (a8.length : Int) ≤ x2 → wr P d sw_c269 sw_h269 (35, [.index q2, r1, vi x2], [], h, kc, ks) Q) (e_q2 : r0 = .index q2 := by first | rfl | assumption) (e_q7 : v5 = .index q7 := by first | rfl | assumption) (y1 : s_ty r0 = 3 := by first | rfl | assumption) (n6 : s_nth f3 5 = some v5 := by first | rfl | assumption) (c11 : In3 x2 := by first | omega | assumption | (simp only [mk_len, List.length_map]; omega) | decide) (c12 : In3 (a8.length : Int) := by first | omega | assumption | (simp only [mk_len, List.length_map]; omega) | decide) : wr P d sw_c269 sw_h269 (26, [r0, r1, vi x2], [], h, kc, ks) Q := by
  refine w_ld rfl rfl (Or.inl ⟨by decide, rfl⟩) ?_
  refine w_ld rfl rfl (Or.inr (Or.inr ⟨by decide, y1⟩)) ?_
  subst e_q2
  refine w_getf rfl g4 n6 ?_
  subst e_q7
  refine w_alen rfl g9 (Or.inl rfl) ?_
  exact w_if2 rfl c11 c12 k1 k2

theorem k269_35 {P : s_P} {d : Nat} {Q : s_O → Prop} {h : s_H} {kc ks : Nat} {r0 r1 : Term} {x2 : Int} {q2 : Nat} {f3 : List Term} {v5 : Term} {q7 : Nat} {a8 : List Term} {tg10 : Nat} (g4 : s_get h q2 = some (1, 8, f3)) (g9 : s_get h q7 = some (0, tg10, a8)) (k1 : (a8.length : Int) ≤ x2 → wr P d sw_c269 sw_h269 (70, [r0, .index q2, vi x2], [], h, kc, ks) Q) (k2 : ¬ (a8.length : Int) ≤ x2 → wr P d sw_c269 sw_h269 (44, [r0, .index q2, vi x2], [], h, kc, ks) Q) (e_q2 : r1 = .index q2 := by first | rfl | assumption) (e_q7 : v5 = .index q7 := by first | rfl | assumption) (y1 : s_ty r1 = 3 := by first | rfl | assumption) (n6 : s_nth f3 5 = some v5 := by first | rfl | assumption) (c11 : In3 x2 := by first | omega | assumption | (simp only [mk_len, List.length_map]; omega) | decide) (c12 : In3 (a8.length : Int) := by first | omega | assumption | (simp only [mk_len, List.length_map]; omega) | decide) : wr P d sw_c269 sw_h269 (35, [r0, r1, vi x2], [], h, kc, ks) Q := by
  refine w_ld rfl rfl (Or.inl ⟨by decide, rfl⟩) ?_
  refine w_ld rfl rfl (Or.inr (Or.inr ⟨by decide, y1⟩)) ?_
  subst e_q2
  refine w_getf rfl g4 n6 ?_
  subst e_q7
  refine w_alen rfl g9 (Or.inl rfl) ?_
  exact w_if2 rfl c11 c12 k1 k2

theorem k269_44 {P : s_P} {d : Nat} {Q : s_O → Prop} {h : s_H} {kc ks : Nat} {r0 r1 : Term} {x2 : Int} {q2 : Nat} {f3 : List Term} {v5 : Term} {q7 : Nat} {a8 : List Term} {tg10 : Nat} {v11 : Term} {q17 : Nat} {f18 : List Term} {v20 : Term} {q22 : Nat} {a23 : List Term} {tg25 : Nat} {v26 : Term} {q29 : Nat} {f30 : List Term} (g4 : s_get h q2 = some (1, 8, f3)) (g9 : s_get h q7 = some (0, tg10, a8)) (g19 : s_get h q17 = some (1, 8, f18)) (g24 : s_get h q22 = some (0, tg25, a23)) (g31 : s_get h q29 = some (1, 4, f30)) (k : wm P d 177 [.index q29, v26] h (wq P d sw_c269 sw_h269 59 [.index q2, .index q17, vi x2] [] kc ks Q)) (e_q2 : r0 = .index q2 := by first | rfl | assumption) (e_q7 : v5 = .index q7 := by first | rfl | assumption) (e_q17 : r1 = .index q17 := by first | rfl | assumption) (e_q22 : v20 = .index q22 := by first | rfl | assumption) (e_q29 : v11 = .index q29 := by first | rfl | assumption) (y1 : s_ty r0 = 3 := by first | rfl | assumption) (n6 : s_nth f3 5 = some v5 := by first | rfl | assumption) (n12 : s_nth a8 (Int.toNat (x2)) = some v11 := by first | rfl | assumption) (u13 : tg10 = 2 ∨ tg10 = 3 ∨ tg10 = 4 := by first | decide | assumption) (y16 : s_ty r1 = 3 := by first | rfl | assumption) (n21 : s_nth f18 5 = some v20 := by first | rfl | assumption) (n27 : s_nth a23 (Int.toNat (x2)) = some v26 := by first | rfl | assumption) (u28 : tg25 = 2 ∨ tg25 = 3 ∨ tg25 = 4 := by first | decide | assumption) (c14 : In3 x2 := by first | omega | assumption | (simp only [mk_len, List.length_map]; omega) | decide) (c15 : 0 ≤ x2 := by first | omega | assumption | (simp only [mk_len, List.length_map]; omega) | decide) : wr P d sw_c269 sw_h269 (44, [r0, r1, vi x2], [], h, kc, ks) Q := by
  refine w_ld rfl rfl (Or.inr (Or.inr ⟨by decide, y1⟩)) ?_
  subst e_q2
  refine w_getf rfl g4 n6 ?_
  refine w_ld rfl rfl (Or.inl ⟨by decide, rfl⟩) ?_
  subst e_q7
  refine w_aald rfl g9 u13 c14 c15 n12 ?_
  refine w_ld rfl rfl (Or.inr (Or.inr ⟨by decide, y16⟩)) ?_
  subst e_q17
  refine w_getf rfl g19 n21 ?_
  refine w_ld rfl rfl (Or.inl ⟨by decide, rfl⟩) ?_
  subst e_q22
  refine w_aald rfl g24 u28 c14 c15 n27 ?_
  subst e_q29
  exact w_cv rfl [.index q29, v26] [] rfl rfl (s_wt_4 rfl) rfl g31 k

theorem k269_59 {P : s_P} {d : Nat} {Q : s_O → Prop} {h : s_H} {kc ks : Nat} {r0 r1 : Term} {x2 s0 : Int}  (k1 : s0 ≠ 0 → wr P d sw_c269 sw_h269 (64, [r0, r1, vi x2], [], h, kc, ks) Q) (k2 : ¬ s0 ≠ 0 → wr P d sw_c269 sw_h269 (62, [r0, r1, vi x2], [], h, kc, ks) Q)  (c1 : In3 s0 := by first | omega | assumption | (simp only [mk_len, List.length_map]; omega) | decide) : wr P d sw_c269 sw_h269 (59, [r0, r1, vi x2], [vi s0], h, kc, ks) Q := by
  exact w_if1 rfl c1 k1 k2

theorem k269_62 {P : s_P} {d : Nat} {Q : s_O → Prop} {h : s_H} {kc ks : Nat} {r0 r1 : Term} {x2 : Int}  (k : Q (.inl (some (vi 0)), h, kc, ks))   : wr P d sw_c269 sw_h269 (62, [r0, r1, vi x2], [], h, kc, ks) Q := by
  refine w_c32 rfl (by decide) 0 (by decide) ?_
  exact w_zret rfl (by decide) k

theorem k269_64 {P : s_P} {d : Nat} {Q : s_O → Prop} {h : s_H} {kc ks : Nat} {r0 r1 : Term} {x2 : Int}  (k : wr P d sw_c269 sw_h269 (26, [r0, r1, vi (x2 + 1)], [], h, kc, ks) Q) (y1 : s_ty r1 = 3 := by first | rfl | assumption)  : wr P d sw_c269 sw_h269 (64, [r0, r1, vi x2], [], h, kc, ks) Q := by
  refine w_iinc (ls' := [r0, r1, vi (x2 + 1)]) rfl rfl 1 (by decide) (s_stK_r (pre := [r0]) y1) ?_
  refine w_goto rfl ?_
  exact k

theorem k269_70 {P : s_P} {d : Nat} {Q : s_O → Prop} {h : s_H} {kc ks : Nat} {r0 r1 : Term} {x2 : Int}  (k : Q (.inl (some (vi 1)), h, kc, ks))   : wr P d sw_c269 sw_h269 (70, [r0, r1, vi x2], [], h, kc, ks) Q := by
  refine w_c32 rfl (by decide) 1 (by decide) ?_
  exact w_zret rfl (by decide) k

/-! 270: FormulaWorks$Thing.sameNumbers(LFormulaWorks$Thing;)Z -/
theorem k270_0 {P : s_P} {d : Nat} {Q : s_O → Prop} {h : s_H} {kc ks : Nat} {r0 r1 t2 : Term} {q2 : Nat} {f3 : List Term} {v5 : Term} {q7 : Nat} {a8 : List Term} {tg10 q12 : Nat} {f13 : List Term} {v15 : Term} {q17 : Nat} {a18 : List Term} {tg20 : Nat} (g4 : s_get h q2 = some (1, 8, f3)) (g9 : s_get h q7 = some (0, tg10, a8)) (g14 : s_get h q12 = some (1, 8, f13)) (g19 : s_get h q17 = some (0, tg20, a18)) (k1 : (a8.length : Int) = (a18.length : Int) → wr P d sw_c270 sw_h270 (15, [.index q2, .index q12, t2], [], h, kc, ks) Q) (k2 : ¬ (a8.length : Int) = (a18.length : Int) → wr P d sw_c270 sw_h270 (13, [.index q2, .index q12, t2], [], h, kc, ks) Q) (e_q2 : r0 = .index q2 := by first | rfl | assumption) (e_q7 : v5 = .index q7 := by first | rfl | assumption) (e_q12 : r1 = .index q12 := by first | rfl | assumption) (e_q17 : v15 = .index q17 := by first | rfl | assumption) (y1 : s_ty r0 = 3 := by first | rfl | assumption) (n6 : s_nth f3 6 = some v5 := by first | rfl | assumption) (y11 : s_ty r1 = 3 := by first | rfl | assumption) (n16 : s_nth f13 6 = some v15 := by first | rfl | assumption) (c21 : In3 (a8.length : Int) := by first | omega | assumption | (simp only [mk_len, List.length_map]; omega) | decide) (c22 : In3 (a18.length : Int) := by first | omega | assumption | (simp only [mk_len, List.length_map]; omega) | decide) : wr P d sw_c270 sw_h270 (0, [r0, r1, t2], [], h, kc, ks) Q := by
  refine w_ld rfl rfl (Or.inr (Or.inr ⟨by decide, y1⟩)) ?_
  subst e_q2
  refine w_getf rfl g4 n6 ?_
  subst e_q7
  refine w_alen rfl g9 (Or.inl rfl) ?_
  refine w_ld rfl rfl (Or.inr (Or.inr ⟨by decide, y11⟩)) ?_
  subst e_q12
  refine w_getf rfl g14 n16 ?_
  subst e_q17
  refine w_alen rfl g19 (Or.inl rfl) ?_
  exact w_if2 rfl c21 c22 k1 k2

theorem k270_13 {P : s_P} {d : Nat} {Q : s_O → Prop} {h : s_H} {kc ks : Nat} {r0 r1 t2 : Term}  (k : Q (.inl (some (vi 0)), h, kc, ks))   : wr P d sw_c270 sw_h270 (13, [r0, r1, t2], [], h, kc, ks) Q := by
  refine w_c32 rfl (by decide) 0 (by decide) ?_
  exact w_zret rfl (by decide) k

theorem k270_15 {P : s_P} {d : Nat} {Q : s_O → Prop} {h : s_H} {kc ks : Nat} {r0 r1 t2 : Term}  (k : wr P d sw_c270 sw_h270 (17, [r0, r1, vi 0], [], h, kc, ks) Q) (y1 : s_ty r1 = 3 := by first | rfl | assumption)  : wr P d sw_c270 sw_h270 (15, [r0, r1, t2], [], h, kc, ks) Q := by
  refine w_c32 rfl (by decide) 0 (by decide) ?_
  refine w_st (ls' := [r0, r1, vi 0]) rfl (Or.inl ⟨by decide, rfl⟩) (s_stK_r (pre := [r0]) y1) ?_
  exact k

theorem k270_17 {P : s_P} {d : Nat} {Q : s_O → Prop} {h : s_H} {kc ks : Nat} {r0 r1 : Term} {x2 : Int} {q2 : Nat} {f3 : List Term} {v5 : Term} {q7 : Nat} {a8 : List Term} {tg10 : Nat} (g4 : s_get h q2 = some (1, 8, f3)) (g9 : s_get h q7 = some (0, tg10, a8)) (k1 : (a8.length : Int) ≤ x2 → wr P d sw_c270 sw_h270 (49, [.index q2, r1, vi x2], [], h, kc, ks) Q) (k2 : ¬ (a8.length : Int) ≤ x2 → wr P d sw_c270 sw_h270 (26, [.index q2, r1, vi x2], [], h, kc, ks) Q) (e_q2 : r0 = .index q2 := by first | rfl | assumption) (e_q7 : v5 = .index q7 := by first | rfl | assumption) (y1 : s_ty r0 = 3 := by first | rfl | assumption) (n6 : s_nth f3 6 = some v5 := by first | rfl | assumption) (c11 : In3 x2 := by first | omega | assumption | (simp only [mk_len, List.length_map]; omega) | decide) (c12 : In3 (a8.length : Int) := by first | omega | assumption | (simp only [mk_len, List.length_map]; omega) | decide) : wr P d sw_c270 sw_h270 (17, [r0, r1, vi x2], [], h, kc, ks) Q := by
  refine w_ld rfl rfl (Or.inl ⟨by decide, rfl⟩) ?_
  refine w_ld rfl rfl (Or.inr (Or.inr ⟨by decide, y1⟩)) ?_
  subst e_q2
  refine w_getf rfl g4 n6 ?_
  subst e_q7
  refine w_alen rfl g9 (Or.inl rfl) ?_
  exact w_if2 rfl c11 c12 k1 k2

theorem k270_26 {P : s_P} {d : Nat} {Q : s_O → Prop} {h : s_H} {kc ks : Nat} {r0 r1 : Term} {x2 : Int} {q2 : Nat} {f3 : List Term} {v5 : Term} {q7 : Nat} {a8 : List Int} {q14 : Nat} {f15 : List Term} {v17 : Term} {q19 : Nat} {a20 : List Int} (g4 : s_get h q2 = some (1, 8, f3)) (g9 : s_get h q7 = some (0, 0, a8.map vi)) (g16 : s_get h q14 = some (1, 8, f15)) (g21 : s_get h q19 = some (0, 0, a20.map vi)) (k1 : gi a8 x2 = gi a20 x2 → wr P d sw_c270 sw_h270 (43, [.index q2, .index q14, vi x2], [], h, kc, ks) Q) (k2 : ¬ gi a8 x2 = gi a20 x2 → wr P d sw_c270 sw_h270 (41, [.index q2, .index q14, vi x2], [], h, kc, ks) Q) (e_q2 : r0 = .index q2 := by first | rfl | assumption) (e_q7 : v5 = .index q7 := by first | rfl | assumption) (e_q14 : r1 = .index q14 := by first | rfl | assumption) (e_q19 : v17 = .index q19 := by first | rfl | assumption) (y1 : s_ty r0 = 3 := by first | rfl | assumption) (n6 : s_nth f3 6 = some v5 := by first | rfl | assumption) (y13 : s_ty r1 = 3 := by first | rfl | assumption) (n18 : s_nth f15 6 = some v17 := by first | rfl | assumption) (c10 : x2 < a8.length := by first | omega | assumption | (simp only [mk_len, List.length_map]; omega) | decide) (c11 : 0 ≤ x2 := by first | omega | assumption | (simp only [mk_len, List.length_map]; omega) | decide) (c12 : In3 x2 := by first | omega | assumption | (simp only [mk_len, List.length_map]; omega) | decide) (c22 : x2 < a20.length := by first | omega | assumption | (simp only [mk_len, List.length_map]; omega) | decide) (c23 : In3 (gi a8 x2) := by first | omega | assumption | (simp only [mk_len, List.length_map]; omega) | decide) (c24 : In3 (gi a20 x2) := by first | omega | assumption | (simp only [mk_len, List.length_map]; omega) | decide) : wr P d sw_c270 sw_h270 (26, [r0, r1, vi x2], [], h, kc, ks) Q := by
  refine w_ld rfl rfl (Or.inr (Or.inr ⟨by decide, y1⟩)) ?_
  subst e_q2
  refine w_getf rfl g4 n6 ?_
  refine w_ld rfl rfl (Or.inl ⟨by decide, rfl⟩) ?_
  subst e_q7
  refine w_iald rfl g9 (Or.inl rfl) c12 c11 c10 ?_
  refine w_ld rfl rfl (Or.inr (Or.inr ⟨by decide, y13⟩)) ?_
  subst e_q14
  refine w_getf rfl g16 n18 ?_
  refine w_ld rfl rfl (Or.inl ⟨by decide, rfl⟩) ?_
  subst e_q19
  refine w_iald rfl g21 (Or.inl rfl) c12 c11 c22 ?_
  exact w_if2 rfl c23 c24 k1 k2

theorem k270_41 {P : s_P} {d : Nat} {Q : s_O → Prop} {h : s_H} {kc ks : Nat} {r0 r1 : Term} {x2 : Int}  (k : Q (.inl (some (vi 0)), h, kc, ks))   : wr P d sw_c270 sw_h270 (41, [r0, r1, vi x2], [], h, kc, ks) Q := by
  refine w_c32 rfl (by decide) 0 (by decide) ?_
  exact w_zret rfl (by decide) k

theorem k270_43 {P : s_P} {d : Nat} {Q : s_O → Prop} {h : s_H} {kc ks : Nat} {r0 r1 : Term} {x2 : Int}  (k : wr P d sw_c270 sw_h270 (17, [r0, r1, vi (x2 + 1)], [], h, kc, ks) Q) (y1 : s_ty r1 = 3 := by first | rfl | assumption)  : wr P d sw_c270 sw_h270 (43, [r0, r1, vi x2], [], h, kc, ks) Q := by
  refine w_iinc (ls' := [r0, r1, vi (x2 + 1)]) rfl rfl 1 (by decide) (s_stK_r (pre := [r0]) y1) ?_
  refine w_goto rfl ?_
  exact k

theorem k270_49 {P : s_P} {d : Nat} {Q : s_O → Prop} {h : s_H} {kc ks : Nat} {r0 r1 : Term} {x2 : Int}  (k : Q (.inl (some (vi 1)), h, kc, ks))   : wr P d sw_c270 sw_h270 (49, [r0, r1, vi x2], [], h, kc, ks) Q := by
  refine w_c32 rfl (by decide) 1 (by decide) ?_
  exact w_zret rfl (by decide) k

/-! 271: FormulaWorks$Thing.setEntry(IILFormulaWorks$Poly;)V -/
theorem k271_0 {P : s_P} {d : Nat} {Q : s_O → Prop} {h : s_H} {kc ks : Nat} {r0 : Term} {x1 x2 : Int} {r3 : Term} {q2 : Nat} {f3 : List Term} {z5 : Int} (g4 : s_get h q2 = some (1, 4, f3)) (k1 : z5 ≤ 10 → wr P d sw_c271 sw_h271 (14, [r0, vi x1, vi x2, .index q2], [], h, kc, ks) Q) (k2 : ¬ z5 ≤ 10 → wr P d sw_c271 sw_h271 (9, [r0, vi x1, vi x2, .index q2], [], h, kc, ks) Q) (e_q2 : r3 = .index q2 := by first | rfl | assumption) (y1 : s_ty r3 = 3 := by first | rfl | assumption) (n6 : s_nth f3 1 = some (vi z5) := by first | rfl | assumption) (c7 : In3 z5 := by first | omega | assumption | (simp only [mk_len, List.length_map]; omega) | decide) : wr P d sw_c271 sw_h271 (0, [r0, vi x1, vi x2, r3], [], h, kc, ks) Q := by
  refine w_ld rfl rfl (Or.inr (Or.inr ⟨by decide, y1⟩)) ?_
  subst e_q2
  refine w_getf rfl g4 n6 ?_
  refine w_c32 rfl (by decide) 10 (by decide) ?_
  exact w_if2 rfl c7 (by decide) k1 k2

theorem k271_9 {P : s_P} {d : Nat} {Q : s_O → Prop} {h : s_H} {kc ks : Nat} {r0 : Term} {x1 x2 : Int} {r3 : Term} {q2 : Nat} {f3 : List Term} (g4 : s_get h q2 = some (1, 8, f3)) (k : wr P d sw_c271 sw_h271 (14, [.index q2, vi x1, vi x2, r3], [], (hp h q2 (1, 8, f3.set 7 (vi 5))), kc, ks) Q) (e_q2 : r0 = .index q2 := by first | rfl | assumption) (y1 : s_ty r0 = 3 := by first | rfl | assumption) (l5 : 7 < f3.length := by first | exact Nat.le_of_ble_eq_true rfl | omega | assumption) (c6 : 0 < q2 := by first | omega | assumption | (simp only [mk_len, List.length_map]; omega) | decide) : wr P d sw_c271 sw_h271 (9, [r0, vi x1, vi x2, r3], [], h, kc, ks) Q := by
  refine w_ld rfl rfl (Or.inr (Or.inr ⟨by decide, y1⟩)) ?_
  refine w_c32 rfl (by decide) 5 (by decide) ?_
  subst e_q2
  refine w_putf rfl g4 (Nat.ble_eq_true_of_le c6) rfl (Nat.ble_eq_true_of_le l5) ?_
  exact k

theorem k271_14 {P : s_P} {d : Nat} {Q : s_O → Prop} {h : s_H} {kc ks : Nat} {r0 : Term} {x1 x2 : Int} {r3 : Term} {q2 : Nat} {f3 : List Term} {v5 : Term} {z7 : Int} {q10 : Nat} {a11 : List Term} {tg13 : Nat} (g4 : s_get h q2 = some (1, 8, f3)) (g12 : s_get h q10 = some (0, tg13, a11)) (w15 : s_okA h s_comp tg13 r3 = true) (k : Q (.inl none, (hp h q10 (0, tg13, a11.set (Int.toNat ((x1 * z7) + x2)) r3)), kc, ks)) (e_q2 : r0 = .index q2 := by first | rfl | assumption) (e_q10 : v5 = .index q10 := by first | rfl | assumption) (y1 : s_ty r0 = 3 := by first | rfl | assumption) (n6 : s_nth f3 5 = some v5 := by first | rfl | assumption) (n8 : s_nth f3 4 = some (vi z7) := by first | rfl | assumption) (y9 : s_ty r3 = 3 := by first | rfl | assumption) (u14 : tg13 = 2 ∨ tg13 = 3 := by first | decide | assumption) (c16 : (x1 * z7) + x2 < a11.length := by first | omega | assumption | (simp only [mk_len, List.length_map]; omega) | decide) (c17 : 0 ≤ (x1 * z7) + x2 := by first | omega | assumption | (simp only [mk_len, List.length_map]; omega) | decide) (c18 : In3 ((x1 * z7) + x2) := by first | omega | assumption | (simp only [mk_len, List.length_map]; omega) | decide) (c19 : 0 < q10 := by first | omega | assumption | (simp only [mk_len, List.length_map]; omega) | decide) : wr P d sw_c271 sw_h271 (14, [r0, vi x1, vi x2, r3], [], h, kc, ks) Q := by
  refine w_ld rfl rfl (Or.inr (Or.inr ⟨by decide, y1⟩)) ?_
  subst e_q2
  refine w_getf rfl g4 n6 ?_
  refine w_ld rfl rfl (Or.inl ⟨by decide, rfl⟩) ?_
  refine w_ld rfl rfl (Or.inr (Or.inr ⟨by decide, rfl⟩)) ?_
  refine w_getf rfl g4 n8 ?_
  refine w_imul rfl ?_
  refine w_ld rfl rfl (Or.inl ⟨by decide, rfl⟩) ?_
  refine w_iadd rfl ?_
  refine w_ld rfl rfl (Or.inr (Or.inr ⟨by decide, y9⟩)) ?_
  subst e_q10
  refine w_aast rfl g12 u14 (Nat.ble_eq_true_of_le c19) c18 c17 c16 w15 ?_
  exact w_ret rfl k

/-! 272: FormulaWorks$Thing.setFraction(LFormulaWorks$Poly;LFormulaWorks$Poly;)V -/
theorem k272_0 {P : s_P} {d : Nat} {Q : s_O → Prop} {h : s_H} {kc ks : Nat} {r0 r1 r2 : Term} {q2 : Nat} {f3 : List Term} {v5 : Term} {q8 : Nat} {f9 : List Term} (g4 : s_get h q2 = some (1, 8, f3)) (g10 : s_get h q8 = some (1, 4, f9)) (k : wm P d 179 [.index q8, r1] h (wq P d sw_c272 sw_h272 8 [.index q2, r1, r2] [] kc ks Q)) (e_q2 : r0 = .index q2 := by first | rfl | assumption) (e_q8 : v5 = .index q8 := by first | rfl | assumption) (y1 : s_ty r0 = 3 := by first | rfl | assumption) (n6 : s_nth f3 1 = some v5 := by first | rfl | assumption) (y7 : s_ty r1 = 3 := by first | rfl | assumption)  : wr P d sw_c272 sw_h272 (0, [r0, r1, r2], [], h, kc, ks) Q := by
  refine w_ld rfl rfl (Or.inr (Or.inr ⟨by decide, y1⟩)) ?_
  subst e_q2
  refine w_getf rfl g4 n6 ?_
  refine w_ld rfl rfl (Or.inr (Or.inr ⟨by decide, y7⟩)) ?_
  subst e_q8
  exact w_cv rfl [.index q8, r1] [] rfl rfl (s_wt_4 rfl) rfl g10 k

theorem k272_8 {P : s_P} {d : Nat} {Q : s_O → Prop} {h : s_H} {kc ks : Nat} {r0 r1 r2 : Term} {q2 : Nat} {f3 : List Term} {v5 : Term} {q8 : Nat} {f9 : List Term} (g4 : s_get h q2 = some (1, 8, f3)) (g10 : s_get h q8 = some (1, 4, f9)) (k : wm P d 179 [.index q8, r2] h (wq P d sw_c272 sw_h272 16 [.index q2, r1, r2] [] kc ks Q)) (e_q2 : r0 = .index q2 := by first | rfl | assumption) (e_q8 : v5 = .index q8 := by first | rfl | assumption) (y1 : s_ty r0 = 3 := by first | rfl | assumption) (n6 : s_nth f3 2 = some v5 := by first | rfl | assumption) (y7 : s_ty r2 = 3 := by first | rfl | assumption)  : wr P d sw_c272 sw_h272 (8, [r0, r1, r2], [], h, kc, ks) Q := by
  refine w_ld rfl rfl (Or.inr (Or.inr ⟨by decide, y1⟩)) ?_
  subst e_q2
  refine w_getf rfl g4 n6 ?_
  refine w_ld rfl rfl (Or.inr (Or.inr ⟨by decide, y7⟩)) ?_
  subst e_q8
  exact w_cv rfl [.index q8, r2] [] rfl rfl (s_wt_4 rfl) rfl g10 k

theorem k272_16 {P : s_P} {d : Nat} {Q : s_O → Prop} {h : s_H} {kc ks : Nat} {r0 r1 r2 : Term} {q2 : Nat} {f3 : List Term} (g4 : s_get h q2 = some (1, 8, f3)) (k : Q (.inl none, (hp h q2 (1, 8, f3.set 7 (vi 0))), kc, ks)) (e_q2 : r0 = .index q2 := by first | rfl | assumption) (y1 : s_ty r0 = 3 := by first | rfl | assumption) (l5 : 7 < f3.length := by first | exact Nat.le_of_ble_eq_true rfl | omega | assumption) (c6 : 0 < q2 := by first | omega | assumption | (simp only [mk_len, List.length_map]; omega) | decide) : wr P d sw_c272 sw_h272 (16, [r0, r1, r2], [], h, kc, ks) Q := by
  refine w_ld rfl rfl (Or.inr (Or.inr ⟨by decide, y1⟩)) ?_
  refine w_c32 rfl (by decide) 0 (by decide) ?_
  subst e_q2
  refine w_putf rfl g4 (Nat.ble_eq_true_of_le c6) rfl (Nat.ble_eq_true_of_le l5) ?_
  exact w_ret rfl k

/-! 274: FormulaWorks$Trees.amount(I)I -/
theorem k274_0 {P : s_P} {d : Nat} {Q : s_O → Prop} {h : s_H} {kc ks : Nat} {r0 : Term} {x1 : Int}  (k1 : x1 < 0 → wr P d sw_c274 sw_h274 (12, [r0, vi x1], [], h, kc, ks) Q) (k2 : ¬ x1 < 0 → wr P d sw_c274 sw_h274 (4, [r0, vi x1], [], h, kc, ks) Q)  (c1 : In3 x1 := by first | omega | assumption | (simp only [mk_len, List.length_map]; omega) | decide) : wr P d sw_c274 sw_h274 (0, [r0, vi x1], [], h, kc, ks) Q := by
  refine w_ld rfl rfl (Or.inl ⟨by decide, rfl⟩) ?_
  exact w_if1 rfl c1 k1 k2

theorem k274_4 {P : s_P} {d : Nat} {Q : s_O → Prop} {h : s_H} {kc ks : Nat} {r0 : Term} {x1 : Int} {q2 : Nat} {f3 : List Term} {z5 : Int} (g4 : s_get h q2 = some (1, 9, f3)) (k1 : x1 < z5 → wr P d sw_c274 sw_h274 (16, [.index q2, vi x1], [], h, kc, ks) Q) (k2 : ¬ x1 < z5 → wr P d sw_c274 sw_h274 (12, [.index q2, vi x1], [], h, kc, ks) Q) (e_q2 : r0 = .index q2 := by first | rfl | assumption) (y1 : s_ty r0 = 3 := by first | rfl | assumption) (n6 : s_nth f3 1 = some (vi z5) := by first | rfl | assumption) (c7 : In3 x1 := by first | omega | assumption | (simp only [mk_len, List.length_map]; omega) | decide) (c8 : In3 z5 := by first | omega | assumption | (simp only [mk_len, List.length_map]; omega) | decide) : wr P d sw_c274 sw_h274 (4, [r0, vi x1], [], h, kc, ks) Q := by
  refine w_ld rfl rfl (Or.inl ⟨by decide, rfl⟩) ?_
  refine w_ld rfl rfl (Or.inr (Or.inr ⟨by decide, y1⟩)) ?_
  subst e_q2
  refine w_getf rfl g4 n6 ?_
  exact w_if2 rfl c7 c8 k1 k2

theorem k274_12 {P : s_P} {d : Nat} {Q : s_O → Prop} {h : s_H} {kc ks : Nat} {r0 : Term} {x1 : Int}  (k : wr P d sw_c274 sw_h274 (24, [r0, vi x1], [vi 0], h, kc, ks) Q)   : wr P d sw_c274 sw_h274 (12, [r0, vi x1], [], h, kc, ks) Q := by
  refine w_c32 rfl (by decide) 0 (by decide) ?_
  refine w_goto rfl ?_
  exact k

theorem k274_16 {P : s_P} {d : Nat} {Q : s_O → Prop} {h : s_H} {kc ks : Nat} {r0 : Term} {x1 : Int} {q2 : Nat} {f3 : List Term} {v5 : Term} {q7 : Nat} {a8 : List Int} (g4 : s_get h q2 = some (1, 9, f3)) (g9 : s_get h q7 = some (0, 0, a8.map vi)) (k : wr P d sw_c274 sw_h274 (24, [.index q2, vi x1], [vi (zi 28 (gi a8 x1) 3)], h, kc, ks) Q) (e_q2 : r0 = .index q2 := by first | rfl | assumption) (e_q7 : v5 = .index q7 := by first | rfl | assumption) (y1 : s_ty r0 = 3 := by first | rfl | assumption) (n6 : s_nth f3 0 = some v5 := by first | rfl | assumption) (c10 : x1 < a8.length := by first | omega | assumption | (simp only [mk_len, List.length_map]; omega) | decide) (c11 : 0 ≤ x1 := by first | omega | assumption | (simp only [mk_len, List.length_map]; omega) | decide) (c12 : In3 x1 := by first | omega | assumption | (simp only [mk_len, List.length_map]; omega) | decide) : wr P d sw_c274 sw_h274 (16, [r0, vi x1], [], h, kc, ks) Q := by
  refine w_ld rfl rfl (Or.inr (Or.inr ⟨by decide, y1⟩)) ?_
  subst e_q2
  refine w_getf rfl g4 n6 ?_
  refine w_ld rfl rfl (Or.inl ⟨by decide, rfl⟩) ?_
  subst e_q7
  refine w_iald rfl g9 (Or.inl rfl) c12 c11 c10 ?_
  refine w_c32 rfl (by decide) 3 (by decide) ?_
  refine w_ib rfl (by decide) ?_
  exact k

theorem k274_24 {P : s_P} {d : Nat} {Q : s_O → Prop} {h : s_H} {kc ks : Nat} {r0 : Term} {x1 s0 : Int}  (k : Q (.inl (some (vi s0)), h, kc, ks))   : wr P d sw_c274 sw_h274 (24, [r0, vi x1], [vi s0], h, kc, ks) Q := by
  exact w_iret rfl k

/-! 275: FormulaWorks$Trees.areSame(II)Z -/
theorem k275_0 {P : s_P} {d : Nat} {Q : s_O → Prop} {h : s_H} {kc ks : Nat} {r0 : Term} {x1 x2 : Int} {t3 t4 : Term} {q2 : Nat} {f3 : List Term} (g4 : s_get h q2 = some (1, 9, f3)) (k : wm P d 317 [.index q2, vi x1] h (wq P d sw_c275 sw_h275 5 [.index q2, vi x1, vi x2, t3, t4] [] kc ks Q)) (e_q2 : r0 = .index q2 := by first | rfl | assumption) (y1 : s_ty r0 = 3 := by first | rfl | assumption)  : wr P d sw_c275 sw_h275 (0, [r0, vi x1, vi x2, t3, t4], [], h, kc, ks) Q := by
  refine w_ld rfl rfl (Or.inr (Or.inr ⟨by decide, y1⟩)) ?_
  refine w_ld rfl rfl (Or.inl ⟨by decide, rfl⟩) ?_
  subst e_q2
  exact w_cv rfl [.index q2, vi x1] [] rfl rfl (s_wt_4 rfl) rfl g4 k

theorem k275_15 {P : s_P} {d : Nat} {Q : s_O → Prop} {h : s_H} {kc ks : Nat} {r0 : Term} {x1 x2 x3 : Int} {t4 : Term}  (k : Q (.inl (some (vi 0)), h, kc, ks))   : wr P d sw_c275 sw_h275 (15, [r0, vi x1, vi x2, vi x3, t4], [], h, kc, ks) Q := by
  refine w_c32 rfl (by decide) 0 (by decide) ?_
  exact w_zret rfl (by decide) k

theorem k275_17 {P : s_P} {d : Nat} {Q : s_O → Prop} {h : s_H} {kc ks : Nat} {r0 : Term} {x1 x2 x3 : Int} {t4 : Term}  (k : wr P d sw_c275 sw_h275 (20, [r0, vi x1, vi x2, vi x3, vi 0], [], h, kc, ks) Q)   : wr P d sw_c275 sw_h275 (17, [r0, vi x1, vi x2, vi x3, t4], [], h, kc, ks) Q := by
  refine w_c32 rfl (by decide) 0 (by decide) ?_
  refine w_st (ls' := [r0, vi x1, vi x2, vi x3, vi 0]) rfl (Or.inl ⟨by decide, rfl⟩) rfl ?_
  exact k

theorem k275_20 {P : s_P} {d : Nat} {Q : s_O → Prop} {h : s_H} {kc ks : Nat} {r0 : Term} {x1 x2 x3 x4 : Int}  (k1 : x3 ≤ x4 → wr P d sw_c275 sw_h275 (55, [r0, vi x1, vi x2, vi x3, vi x4], [], h, kc, ks) Q) (k2 : ¬ x3 ≤ x4 → wr P d sw_c275 sw_h275 (26, [r0, vi x1, vi x2, vi x3, vi x4], [], h, kc, ks) Q)  (c1 : In3 x4 := by first | omega | assumption | (simp only [mk_len, List.length_map]; omega) | decide) (c2 : In3 x3 := by first | omega | assumption | (simp only [mk_len, List.length_map]; omega) | decide) : wr P d sw_c275 sw_h275 (20, [r0, vi x1, vi x2, vi x3, vi x4], [], h, kc, ks) Q := by
  refine w_ld rfl rfl (Or.inl ⟨by decide, rfl⟩) ?_
  refine w_ld rfl rfl (Or.inl ⟨by decide, rfl⟩) ?_
  exact w_if2 rfl c1 c2 k1 k2

theorem k275_26 {P : s_P} {d : Nat} {Q : s_O → Prop} {h : s_H} {kc ks : Nat} {r0 : Term} {x1 x2 x3 x4 : Int} {q2 : Nat} {f3 : List Term} {v5 : Term} {q7 : Nat} {a8 : List Int} (g4 : s_get h q2 = some (1, 9, f3)) (g9 : s_get h q7 = some (0, 0, a8.map vi)) (k1 : gi a8 (x1 + x4) = gi a8 (x2 + x4) → wr P d sw_c275 sw_h275 (49, [.index q2, vi x1, vi x2, vi x3, vi x4], [], h, kc, ks) Q) (k2 : ¬ gi a8 (x1 + x4) = gi a8 (x2 + x4) → wr P d sw_c275 sw_h275 (47, [.index q2, vi x1, vi x2, vi x3, vi x4], [], h, kc, ks) Q) (e_q2 : r0 = .index q2 := by first | rfl | assumption) (e_q7 : v5 = .index q7 := by first | rfl | assumption) (y1 : s_ty r0 = 3 := by first | rfl | assumption) (n6 : s_nth f3 0 = some v5 := by first | rfl | assumption) (c10 : x1 + x4 < a8.length := by first | omega | assumption | (simp only [mk_len, List.length_map]; omega) | decide) (c11 : 0 ≤ x1 + x4 := by first | omega | assumption | (simp only [mk_len, List.length_map]; omega) | decide) (c12 : In3 (x1 + x4) := by first | omega | assumption | (simp only [mk_len, List.length_map]; omega) | decide) (c13 : x2 + x4 < a8.length := by first | omega | assumption | (simp only [mk_len, List.length_map]; omega) | decide) (c14 : 0 ≤ x2 + x4 := by first | omega | assumption | (simp only [mk_len, List.length_map]; omega) | decide) (c15 : In3 (x2 + x4) := by first | omega | assumption | (simp only [mk_len, List.length_map]; omega) | decide) (c16 : In3 (gi a8 (x1 + x4)) := by first | omega | assumption | (simp only [mk_len, List.length_map]; omega) | decide) (c17 : In3 (gi a8 (x2 + x4)) := by first | omega | assumption | (simp only [mk_len, List.length_map]; omega) | decide) : wr P d sw_c275 sw_h275 (26, [r0, vi x1, vi x2, vi x3, vi x4], [], h, kc, ks) Q := by
  refine w_ld rfl rfl (Or.inr (Or.inr ⟨by decide, y1⟩)) ?_
  subst e_q2
  refine w_getf rfl g4 n6 ?_
  refine w_ld rfl rfl (Or.inl ⟨by decide, rfl⟩) ?_
  refine w_ld rfl rfl (Or.inl ⟨by decide, rfl⟩) ?_
  refine w_iadd rfl ?_
  subst e_q7
  refine w_iald rfl g9 (Or.inl rfl) c12 c11 c10 ?_
  refine w_ld rfl rfl (Or.inr (Or.inr ⟨by decide, rfl⟩)) ?_
  refine w_getf rfl g4 n6 ?_
  refine w_ld rfl rfl (Or.inl ⟨by decide, rfl⟩) ?_
  refine w_ld rfl rfl (Or.inl ⟨by decide, rfl⟩) ?_
  refine w_iadd rfl ?_
  refine w_iald rfl g9 (Or.inl rfl) c15 c14 c13 ?_
  exact w_if2 rfl c16 c17 k1 k2

theorem k275_47 {P : s_P} {d : Nat} {Q : s_O → Prop} {h : s_H} {kc ks : Nat} {r0 : Term} {x1 x2 x3 x4 : Int}  (k : Q (.inl (some (vi 0)), h, kc, ks))   : wr P d sw_c275 sw_h275 (47, [r0, vi x1, vi x2, vi x3, vi x4], [], h, kc, ks) Q := by
  refine w_c32 rfl (by decide) 0 (by decide) ?_
  exact w_zret rfl (by decide) k

theorem k275_49 {P : s_P} {d : Nat} {Q : s_O → Prop} {h : s_H} {kc ks : Nat} {r0 : Term} {x1 x2 x3 x4 : Int}  (k : wr P d sw_c275 sw_h275 (20, [r0, vi x1, vi x2, vi x3, vi (x4 + 1)], [], h, kc, ks) Q)   : wr P d sw_c275 sw_h275 (49, [r0, vi x1, vi x2, vi x3, vi x4], [], h, kc, ks) Q := by
  refine w_iinc (ls' := [r0, vi x1, vi x2, vi x3, vi (x4 + 1)]) rfl rfl 1 (by decide) rfl ?_
  refine w_goto rfl ?_
  exact k

theorem k275_55 {P : s_P} {d : Nat} {Q : s_O → Prop} {h : s_H} {kc ks : Nat} {r0 : Term} {x1 x2 x3 x4 : Int}  (k : Q (.inl (some (vi 1)), h, kc, ks))   : wr P d sw_c275 sw_h275 (55, [r0, vi x1, vi x2, vi x3, vi x4], [], h, kc, ks) Q := by
  refine w_c32 rfl (by decide) 1 (by decide) ?_
  exact w_zret rfl (by decide) k

/-! 276: FormulaWorks$Trees.await(I)V -/
theorem k276_0 {P : s_P} {d : Nat} {Q : s_O → Prop} {h : s_H} {kc ks : Nat} {r0 : Term} {x1 : Int} {q2 : Nat} {f3 : List Term} {z5 : Int} {v7 : Term} {q9 : Nat} {a10 : List Term} {tg12 : Nat} (g4 : s_get h q2 = some (1, 9, f3)) (g11 : s_get h q9 = some (0, tg12, a10)) (k1 : z5 < (a10.length : Int) → wr P d sw_c276 sw_h276 (13, [.index q2, vi x1], [], h, kc, ks) Q) (k2 : ¬ z5 < (a10.length : Int) → wr P d sw_c276 sw_h276 (12, [.index q2, vi x1], [], h, kc, ks) Q) (e_q2 : r0 = .index q2 := by first | rfl | assumption) (e_q9 : v7 = .index q9 := by first | rfl | assumption) (y1 : s_ty r0 = 3 := by first | rfl | assumption) (n6 : s_nth f3 10 = some (vi z5) := by first | rfl | assumption) (n8 : s_nth f3 9 = some v7 := by first | rfl | assumption) (c13 : In3 z5 := by first | omega | assumption | (simp only [mk_len, List.length_map]; omega) | decide) (c14 : In3 (a10.length : Int) := by first | omega | assumption | (simp only [mk_len, List.length_map]; omega) | decide) : wr P d sw_c276 sw_h276 (0, [r0, vi x1], [], h, kc, ks) Q := by
  refine w_ld rfl rfl (Or.inr (Or.inr ⟨by decide, y1⟩)) ?_
  subst e_q2
  refine w_getf rfl g4 n6 ?_
  refine w_ld rfl rfl (Or.inr (Or.inr ⟨by decide, rfl⟩)) ?_
  refine w_getf rfl g4 n8 ?_
  subst e_q9
  refine w_alen rfl g11 (Or.inl rfl) ?_
  exact w_if2 rfl c13 c14 k1 k2

theorem k276_12 {P : s_P} {d : Nat} {Q : s_O → Prop} {h : s_H} {kc ks : Nat} {r0 : Term} {x1 : Int}  (k : Q (.inl none, h, kc, ks))   : wr P d sw_c276 sw_h276 (12, [r0, vi x1], [], h, kc, ks) Q := by
  exact w_ret rfl k

theorem k276_13 {P : s_P} {d : Nat} {Q : s_O → Prop} {h : s_H} {kc ks : Nat} {r0 : Term} {x1 : Int} {q2 : Nat} {f3 : List Term} {v5 : Term} {z7 : Int} {q9 : Nat} {a10 : List Int} {f16 : List Term} {z18 : Int} (g4 : s_get h q2 = some (1, 9, f3)) (g11 : s_get h q9 = some (0, 0, a10.map vi)) (g17 : s_get (hp h q9 (0, 0, (a10.set (Int.toNat (z7)) x1).map vi)) q2 = some (1, 9, f16)) (k : Q (.inl none, (hp (hp h q9 (0, 0, (a10.set (Int.toNat (z7)) x1).map vi)) q2 (1, 9, f16.set 10 (vi (z18 + 1)))), kc, ks)) (e_q2 : r0 = .index q2 := by first | rfl | assumption) (e_q9 : v5 = .index q9 := by first | rfl | assumption) (y1 : s_ty r0 = 3 := by first | rfl | assumption) (n6 : s_nth f3 9 = some v5 := by first | rfl | assumption) (n8 : s_nth f3 10 = some (vi z7) := by first | rfl | assumption) (n19 : s_nth f16 10 = some (vi z18) := by first | rfl | assumption) (l20 : 10 < f16.length := by first | exact Nat.le_of_ble_eq_true rfl | omega | assumption) (c12 : z7 < a10.length := by first | omega | assumption | (simp only [mk_len, List.length_map]; omega) | decide) (c13 : 0 ≤ z7 := by first | omega | assumption | (simp only [mk_len, List.length_map]; omega) | decide) (c14 : In3 z7 := by first | omega | assumption | (simp only [mk_len, List.length_map]; omega) | decide) (c15 : 0 < q9 := by first | omega | assumption | (simp only [mk_len, List.length_map]; omega) | decide) (c21 : 0 < q2 := by first | omega | assumption | (simp only [mk_len, List.length_map]; omega) | decide) : wr P d sw_c276 sw_h276 (13, [r0, vi x1], [], h, kc, ks) Q := by
  refine w_ld rfl rfl (Or.inr (Or.inr ⟨by decide, y1⟩)) ?_
  subst e_q2
  refine w_getf rfl g4 n6 ?_
  refine w_ld rfl rfl (Or.inr (Or.inr ⟨by decide, rfl⟩)) ?_
  refine w_getf rfl g4 n8 ?_
  refine w_ld rfl rfl (Or.inl ⟨by decide, rfl⟩) ?_
  subst e_q9
  refine w_iast rfl g11 (Nat.ble_eq_true_of_le c15) c14 c13 c12 ?_
  refine w_ld rfl rfl (Or.inr (Or.inr ⟨by decide, rfl⟩)) ?_
  refine w_dup rfl rfl ?_
  refine w_getf rfl g17 n19 ?_
  refine w_c32 rfl (by decide) 1 (by decide) ?_
  refine w_iadd rfl ?_
  refine w_putf rfl g17 (Nat.ble_eq_true_of_le c21) rfl (Nat.ble_eq_true_of_le l20) ?_
  exact w_ret rfl k

/-! 277: FormulaWorks$Trees.awaitPart(II)V -/
theorem k277_0 {P : s_P} {d : Nat} {Q : s_O → Prop} {h : s_H} {kc ks : Nat} {r0 : Term} {x1 x2 : Int} {q2 : Nat} {f3 : List Term} (g4 : s_get h q2 = some (1, 9, f3)) (k : wm P d 293 [.index q2, vi x1, vi x2] h (wq P d sw_c277 sw_h277 10 [.index q2, vi x1, vi x2] [vi (2 * x2), .index q2] kc ks Q)) (e_q2 : r0 = .index q2 := by first | rfl | assumption) (y1 : s_ty r0 = 3 := by first | rfl | assumption)  : wr P d sw_c277 sw_h277 (0, [r0, vi x1, vi x2], [], h, kc, ks) Q := by
  refine w_ld rfl rfl (Or.inr (Or.inr ⟨by decide, y1⟩)) ?_
  refine w_c32 rfl (by decide) 2 (by decide) ?_
  refine w_ld rfl rfl (Or.inl ⟨by decide, rfl⟩) ?_
  refine w_imul rfl ?_
  refine w_ld rfl rfl (Or.inr (Or.inr ⟨by decide, y1⟩)) ?_
  refine w_ld rfl rfl (Or.inl ⟨by decide, rfl⟩) ?_
  refine w_ld rfl rfl (Or.inl ⟨by decide, rfl⟩) ?_
  subst e_q2
  exact w_cv rfl [.index q2, vi x1, vi x2] [vi (2 * x2), .index q2] rfl rfl (s_wt_4 rfl) rfl g4 k

theorem k277_13 {P : s_P} {d : Nat} {Q : s_O → Prop} {h : s_H} {kc ks : Nat} {r0 : Term} {x1 x2 : Int} {s0 : Term} {s1 : Int}  (k : wr P d sw_c277 sw_h277 (18, [r0, vi x1, vi x2], [vi 1, vi s1, s0], h, kc, ks) Q)   : wr P d sw_c277 sw_h277 (13, [r0, vi x1, vi x2], [vi s1, s0], h, kc, ks) Q := by
  refine w_c32 rfl (by decide) 1 (by decide) ?_
  refine w_goto rfl ?_
  exact k

theorem k277_17 {P : s_P} {d : Nat} {Q : s_O → Prop} {h : s_H} {kc ks : Nat} {r0 : Term} {x1 x2 : Int} {s0 : Term} {s1 : Int}  (k : wr P d sw_c277 sw_h277 (18, [r0, vi x1, vi x2], [vi 0, vi s1, s0], h, kc, ks) Q)   : wr P d sw_c277 sw_h277 (17, [r0, vi x1, vi x2], [vi s1, s0], h, kc, ks) Q := by
  refine w_c32 rfl (by decide) 0 (by decide) ?_
  exact k

theorem k277_18 {P : s_P} {d : Nat} {Q : s_O → Prop} {h : s_H} {kc ks : Nat} {r0 : Term} {x1 x2 : Int} {s0 : Term} {s1 s2 : Int} {q1 : Nat} {f2 : List Term} (g3 : s_get h q1 = some (1, 9, f2)) (k : wm P d 276 [.index q1, vi (s1 + s2)] h (wq P d sw_c277 sw_h277 22 [r0, vi x1, vi x2] [] kc ks Q)) (e_q1 : s0 = .index q1 := by first | rfl | assumption)  : wr P d sw_c277 sw_h277 (18, [r0, vi x1, vi x2], [vi s2, vi s1, s0], h, kc, ks) Q := by
  refine w_iadd rfl ?_
  subst e_q1
  exact w_cv rfl [.index q1, vi (s1 + s2)] [] rfl rfl (s_wt_4 rfl) rfl g3 k

/-! 278: FormulaWorks$Trees.begin()V -/
theorem k278_0 {P : s_P} {d : Nat} {Q : s_O → Prop} {h : s_H} {kc ks : Nat} {r0 : Term} {q2 : Nat} {f3 f7 : List Term} (g4 : s_get h q2 = some (1, 9, f3)) (g8 : s_get (hp h q2 (1, 9, f3.set 1 (vi 0))) q2 = some (1, 9, f7)) (k : Q (.inl none, (hp (hp h q2 (1, 9, f3.set 1 (vi 0))) q2 (1, 9, f7.set 4 (vi 0))), kc, ks)) (e_q2 : r0 = .index q2 := by first | rfl | assumption) (y1 : s_ty r0 = 3 := by first | rfl | assumption) (l5 : 1 < f3.length := by first | exact Nat.le_of_ble_eq_true rfl | omega | assumption) (l9 : 4 < f7.length := by first | exact Nat.le_of_ble_eq_true rfl | omega | assumption) (c6 : 0 < q2 := by first | omega | assumption | (simp only [mk_len, List.length_map]; omega) | decide) : wr P d sw_c278 sw_h278 (0, [r0], [], h, kc, ks) Q := by
  refine w_ld rfl rfl (Or.inr (Or.inr ⟨by decide, y1⟩)) ?_
  refine w_c32 rfl (by decide) 0 (by decide) ?_
  subst e_q2
  refine w_putf rfl g4 (Nat.ble_eq_true_of_le c6) rfl (Nat.ble_eq_true_of_le l5) ?_
  refine w_ld rfl rfl (Or.inr (Or.inr ⟨by decide, rfl⟩)) ?_
  refine w_c32 rfl (by decide) 0 (by decide) ?_
  refine w_putf rfl g8 (Nat.ble_eq_true_of_le c6) rfl (Nat.ble_eq_true_of_le l9) ?_
  exact w_ret rfl k

/-! 279: FormulaWorks$Trees.code(II)I -/
theorem k279_0 {P : s_P} {d : Nat} {Q : s_O → Prop} {h : s_H} {kc ks : Nat} {x0 x1 : Int}  (k : Q (.inl (some (vi (zi 25 (zi 27 x1 3) x0))), h, kc, ks))   : wr P d sw_c279 sw_h279 (0, [vi x0, vi x1], [], h, kc, ks) Q := by
  refine w_ld rfl rfl (Or.inl ⟨by decide, rfl⟩) ?_
  refine w_c32 rfl (by decide) 3 (by decide) ?_
  refine w_ib rfl (by decide) ?_
  refine w_ld rfl rfl (Or.inl ⟨by decide, rfl⟩) ?_
  refine w_ib rfl (by decide) ?_
  exact w_iret rfl k

/-! 280: FormulaWorks$Trees.end(I)I -/
theorem k280_0 {P : s_P} {d : Nat} {Q : s_O → Prop} {h : s_H} {kc ks : Nat} {r0 : Term} {x1 : Int} {q2 : Nat} {f3 : List Term} (g4 : s_get h q2 = some (1, 9, f3)) (k : wm P d 317 [.index q2, vi x1] h (wq P d sw_c280 sw_h280 6 [.index q2, vi x1] [vi x1] kc ks Q)) (e_q2 : r0 = .index q2 := by first | rfl | assumption) (y1 : s_ty r0 = 3 := by first | rfl | assumption)  : wr P d sw_c280 sw_h280 (0, [r0, vi x1], [], h, kc, ks) Q := by
  refine w_ld rfl rfl (Or.inl ⟨by decide, rfl⟩) ?_
  refine w_ld rfl rfl (Or.inr (Or.inr ⟨by decide, y1⟩)) ?_
  refine w_ld rfl rfl (Or.inl ⟨by decide, rfl⟩) ?_
  subst e_q2
  exact w_cv rfl [.index q2, vi x1] [vi x1] rfl rfl (s_wt_4 rfl) rfl g4 k

/-! 281: FormulaWorks$Trees.first(I)I -/
theorem k281_0 {P : s_P} {d : Nat} {Q : s_O → Prop} {h : s_H} {kc ks : Nat} {r0 : Term} {x1 : Int} {q2 : Nat} {f3 : List Term} (g4 : s_get h q2 = some (1, 9, f3)) (k : wm P d 318 [.index q2, vi x1] h (wq P d sw_c281 sw_h281 5 [.index q2, vi x1] [] kc ks Q)) (e_q2 : r0 = .index q2 := by first | rfl | assumption) (y1 : s_ty r0 = 3 := by first | rfl | assumption)  : wr P d sw_c281 sw_h281 (0, [r0, vi x1], [], h, kc, ks) Q := by
  refine w_ld rfl rfl (Or.inr (Or.inr ⟨by decide, y1⟩)) ?_
  refine w_ld rfl rfl (Or.inl ⟨by decide, rfl⟩) ?_
  subst e_q2
  exact w_cv rfl [.index q2, vi x1] [] rfl rfl (s_wt_4 rfl) rfl g4 k

theorem k281_9 {P : s_P} {d : Nat} {Q : s_O → Prop} {h : s_H} {kc ks : Nat} {r0 : Term} {x1 : Int}  (k : wr P d sw_c281 sw_h281 (16, [r0, vi x1], [vi (x1 + 1)], h, kc, ks) Q)   : wr P d sw_c281 sw_h281 (9, [r0, vi x1], [], h, kc, ks) Q := by
  refine w_ld rfl rfl (Or.inl ⟨by decide, rfl⟩) ?_
  refine w_c32 rfl (by decide) 1 (by decide) ?_
  refine w_iadd rfl ?_
  refine w_goto rfl ?_
  exact k

theorem k281_15 {P : s_P} {d : Nat} {Q : s_O → Prop} {h : s_H} {kc ks : Nat} {r0 : Term} {x1 : Int}  (k : wr P d sw_c281 sw_h281 (16, [r0, vi x1], [vi (-1)], h, kc, ks) Q)   : wr P d sw_c281 sw_h281 (15, [r0, vi x1], [], h, kc, ks) Q := by
  refine w_c32 rfl (by decide) (-1) (by decide) ?_
  exact k

theorem k281_16 {P : s_P} {d : Nat} {Q : s_O → Prop} {h : s_H} {kc ks : Nat} {r0 : Term} {x1 s0 : Int}  (k : Q (.inl (some (vi s0)), h, kc, ks))   : wr P d sw_c281 sw_h281 (16, [r0, vi x1], [vi s0], h, kc, ks) Q := by
  exact w_iret rfl k

/-! 282: FormulaWorks$Trees.fits(II)Z -/
-- switch at 0
theorem k282_68 {P : s_P} {d : Nat} {Q : s_O → Prop} {h : s_H} {kc ks : Nat} {r0 : Term} {x1 x2 : Int} {q2 : Nat} {f3 : List Term} (g4 : s_get h q2 = some (1, 9, f3)) (k : wm P d 291 [.index q2, vi x1] h (wq P d sw_c282 sw_h282 73 [.index q2, vi x1, vi x2] [] kc ks Q)) (e_q2 : r0 = .index q2 := by first | rfl | assumption) (y1 : s_ty r0 = 3 := by first | rfl | assumption)  : wr P d sw_c282 sw_h282 (68, [r0, vi x1, vi x2], [], h, kc, ks) Q := by
  refine w_ld rfl rfl (Or.inr (Or.inr ⟨by decide, y1⟩)) ?_
  refine w_ld rfl rfl (Or.inl ⟨by decide, rfl⟩) ?_
  subst e_q2
  exact w_cv rfl [.index q2, vi x1] [] rfl rfl (s_wt_4 rfl) rfl g4 k

theorem k282_74 {P : s_P} {d : Nat} {Q : s_O → Prop} {h : s_H} {kc ks : Nat} {r0 : Term} {x1 x2 : Int} {q2 : Nat} {f3 : List Term} (g4 : s_get h q2 = some (1, 9, f3)) (k : wm P d 288 [.index q2, vi x1] h (wq P d sw_c282 sw_h282 79 [.index q2, vi x1, vi x2] [] kc ks Q)) (e_q2 : r0 = .index q2 := by first | rfl | assumption) (y1 : s_ty r0 = 3 := by first | rfl | assumption)  : wr P d sw_c282 sw_h282 (74, [r0, vi x1, vi x2], [], h, kc, ks) Q := by
  refine w_ld rfl rfl (Or.inr (Or.inr ⟨by decide, y1⟩)) ?_
  refine w_ld rfl rfl (Or.inl ⟨by decide, rfl⟩) ?_
  subst e_q2
  exact w_cv rfl [.index q2, vi x1] [] rfl rfl (s_wt_4 rfl) rfl g4 k

theorem k282_80 {P : s_P} {d : Nat} {Q : s_O → Prop} {h : s_H} {kc ks : Nat} {r0 : Term} {x1 x2 : Int} {q2 : Nat} {f3 : List Term} (g4 : s_get h q2 = some (1, 9, f3)) (k : wm P d 284 [.index q2, vi x1] h (wq P d sw_c282 sw_h282 85 [.index q2, vi x1, vi x2] [] kc ks Q)) (e_q2 : r0 = .index q2 := by first | rfl | assumption) (y1 : s_ty r0 = 3 := by first | rfl | assumption)  : wr P d sw_c282 sw_h282 (80, [r0, vi x1, vi x2], [], h, kc, ks) Q := by
  refine w_ld rfl rfl (Or.inr (Or.inr ⟨by decide, y1⟩)) ?_
  refine w_ld rfl rfl (Or.inl ⟨by decide, rfl⟩) ?_
  subst e_q2
  exact w_cv rfl [.index q2, vi x1] [] rfl rfl (s_wt_4 rfl) rfl g4 k

theorem k282_86 {P : s_P} {d : Nat} {Q : s_O → Prop} {h : s_H} {kc ks : Nat} {r0 : Term} {x1 x2 : Int} {q2 : Nat} {f3 : List Term} (g4 : s_get h q2 = some (1, 9, f3)) (k : wm P d 289 [.index q2, vi x1] h (wq P d sw_c282 sw_h282 91 [.index q2, vi x1, vi x2] [] kc ks Q)) (e_q2 : r0 = .index q2 := by first | rfl | assumption) (y1 : s_ty r0 = 3 := by first | rfl | assumption)  : wr P d sw_c282 sw_h282 (86, [r0, vi x1, vi x2], [], h, kc, ks) Q := by
  refine w_ld rfl rfl (Or.inr (Or.inr ⟨by decide, y1⟩)) ?_
  refine w_ld rfl rfl (Or.inl ⟨by decide, rfl⟩) ?_
  subst e_q2
  exact w_cv rfl [.index q2, vi x1] [] rfl rfl (s_wt_4 rfl) rfl g4 k

theorem k282_92 {P : s_P} {d : Nat} {Q : s_O → Prop} {h : s_H} {kc ks : Nat} {r0 : Term} {x1 x2 : Int} {q2 : Nat} {f3 : List Term} (g4 : s_get h q2 = some (1, 9, f3)) (k : wm P d 283 [.index q2, vi x1] h (wq P d sw_c282 sw_h282 97 [.index q2, vi x1, vi x2] [] kc ks Q)) (e_q2 : r0 = .index q2 := by first | rfl | assumption) (y1 : s_ty r0 = 3 := by first | rfl | assumption)  : wr P d sw_c282 sw_h282 (92, [r0, vi x1, vi x2], [], h, kc, ks) Q := by
  refine w_ld rfl rfl (Or.inr (Or.inr ⟨by decide, y1⟩)) ?_
  refine w_ld rfl rfl (Or.inl ⟨by decide, rfl⟩) ?_
  subst e_q2
  exact w_cv rfl [.index q2, vi x1] [] rfl rfl (s_wt_4 rfl) rfl g4 k

theorem k282_98 {P : s_P} {d : Nat} {Q : s_O → Prop} {h : s_H} {kc ks : Nat} {r0 : Term} {x1 x2 : Int} {q2 : Nat} {f3 : List Term} (g4 : s_get h q2 = some (1, 9, f3)) (k : wm P d 318 [.index q2, vi x1] h (wq P d sw_c282 sw_h282 103 [.index q2, vi x1, vi x2] [] kc ks Q)) (e_q2 : r0 = .index q2 := by first | rfl | assumption) (y1 : s_ty r0 = 3 := by first | rfl | assumption)  : wr P d sw_c282 sw_h282 (98, [r0, vi x1, vi x2], [], h, kc, ks) Q := by
  refine w_ld rfl rfl (Or.inr (Or.inr ⟨by decide, y1⟩)) ?_
  refine w_ld rfl rfl (Or.inl ⟨by decide, rfl⟩) ?_
  subst e_q2
  exact w_cv rfl [.index q2, vi x1] [] rfl rfl (s_wt_4 rfl) rfl g4 k

theorem k282_107 {P : s_P} {d : Nat} {Q : s_O → Prop} {h : s_H} {kc ks : Nat} {r0 : Term} {x1 x2 : Int} {q2 : Nat} {f3 : List Term} (g4 : s_get h q2 = some (1, 9, f3)) (k : wm P d 299 [.index q2, vi x1] h (wq P d sw_c282 sw_h282 112 [.index q2, vi x1, vi x2] [] kc ks Q)) (e_q2 : r0 = .index q2 := by first | rfl | assumption) (y1 : s_ty r0 = 3 := by first | rfl | assumption)  : wr P d sw_c282 sw_h282 (107, [r0, vi x1, vi x2], [], h, kc, ks) Q := by
  refine w_ld rfl rfl (Or.inr (Or.inr ⟨by decide, y1⟩)) ?_
  refine w_ld rfl rfl (Or.inl ⟨by decide, rfl⟩) ?_
  subst e_q2
  exact w_cv rfl [.index q2, vi x1] [] rfl rfl (s_wt_4 rfl) rfl g4 k

theorem k282_115 {P : s_P} {d : Nat} {Q : s_O → Prop} {h : s_H} {kc ks : Nat} {r0 : Term} {x1 x2 : Int}  (k : wr P d sw_c282 sw_h282 (120, [r0, vi x1, vi x2], [vi 1], h, kc, ks) Q)   : wr P d sw_c282 sw_h282 (115, [r0, vi x1, vi x2], [], h, kc, ks) Q := by
  refine w_c32 rfl (by decide) 1 (by decide) ?_
  refine w_goto rfl ?_
  exact k

theorem k282_119 {P : s_P} {d : Nat} {Q : s_O → Prop} {h : s_H} {kc ks : Nat} {r0 : Term} {x1 x2 : Int}  (k : wr P d sw_c282 sw_h282 (120, [r0, vi x1, vi x2], [vi 0], h, kc, ks) Q)   : wr P d sw_c282 sw_h282 (119, [r0, vi x1, vi x2], [], h, kc, ks) Q := by
  refine w_c32 rfl (by decide) 0 (by decide) ?_
  exact k

theorem k282_120 {P : s_P} {d : Nat} {Q : s_O → Prop} {h : s_H} {kc ks : Nat} {r0 : Term} {x1 x2 s0 : Int}  (k : Q (.inl (some (vi s0)), h, kc, ks))  (c1 : s0 = 0 ∨ s0 = 1 := by first | omega | assumption | (simp only [mk_len, List.length_map]; omega) | decide) : wr P d sw_c282 sw_h282 (120, [r0, vi x1, vi x2], [vi s0], h, kc, ks) Q := by
  exact w_zret rfl c1 k

theorem k282_121 {P : s_P} {d : Nat} {Q : s_O → Prop} {h : s_H} {kc ks : Nat} {r0 : Term} {x1 x2 : Int} {q2 : Nat} {f3 : List Term} (g4 : s_get h q2 = some (1, 9, f3)) (k : wm P d 290 [.index q2, vi x1] h (wq P d sw_c282 sw_h282 126 [.index q2, vi x1, vi x2] [] kc ks Q)) (e_q2 : r0 = .index q2 := by first | rfl | assumption) (y1 : s_ty r0 = 3 := by first | rfl | assumption)  : wr P d sw_c282 sw_h282 (121, [r0, vi x1, vi x2], [], h, kc, ks) Q := by
  refine w_ld rfl rfl (Or.inr (Or.inr ⟨by decide, y1⟩)) ?_
  refine w_ld rfl rfl (Or.inl ⟨by decide, rfl⟩) ?_
  subst e_q2
  exact w_cv rfl [.index q2, vi x1] [] rfl rfl (s_wt_4 rfl) rfl g4 k

theorem k282_127 {P : s_P} {d : Nat} {Q : s_O → Prop} {h : s_H} {kc ks : Nat} {r0 : Term} {x1 x2 : Int} {q2 : Nat} {f3 : List Term} (g4 : s_get h q2 = some (1, 9, f3)) (k : wm P d 318 [.index q2, vi x1] h (wq P d sw_c282 sw_h282 132 [.index q2, vi x1, vi x2] [] kc ks Q)) (e_q2 : r0 = .index q2 := by first | rfl | assumption) (y1 : s_ty r0 = 3 := by first | rfl | assumption)  : wr P d sw_c282 sw_h282 (127, [r0, vi x1, vi x2], [], h, kc, ks) Q := by
  refine w_ld rfl rfl (Or.inr (Or.inr ⟨by decide, y1⟩)) ?_
  refine w_ld rfl rfl (Or.inl ⟨by decide, rfl⟩) ?_
  subst e_q2
  exact w_cv rfl [.index q2, vi x1] [] rfl rfl (s_wt_4 rfl) rfl g4 k

theorem k282_137 {P : s_P} {d : Nat} {Q : s_O → Prop} {h : s_H} {kc ks : Nat} {r0 : Term} {x1 x2 : Int} {q2 : Nat} {f3 : List Term} (g4 : s_get h q2 = some (1, 9, f3)) (k : wm P d 318 [.index q2, vi (x1 + 1)] h (wq P d sw_c282 sw_h282 144 [.index q2, vi x1, vi x2] [] kc ks Q)) (e_q2 : r0 = .index q2 := by first | rfl | assumption) (y1 : s_ty r0 = 3 := by first | rfl | assumption)  : wr P d sw_c282 sw_h282 (137, [r0, vi x1, vi x2], [], h, kc, ks) Q := by
  refine w_ld rfl rfl (Or.inr (Or.inr ⟨by decide, y1⟩)) ?_
  refine w_ld rfl rfl (Or.inl ⟨by decide, rfl⟩) ?_
  refine w_c32 rfl (by decide) 1 (by decide) ?_
  refine w_iadd rfl ?_
  subst e_q2
  exact w_cv rfl [.index q2, vi (x1 + 1)] [] rfl rfl (s_wt_4 rfl) rfl g4 k

theorem k282_149 {P : s_P} {d : Nat} {Q : s_O → Prop} {h : s_H} {kc ks : Nat} {r0 : Term} {x1 x2 : Int} {q2 : Nat} {f3 : List Term} (g4 : s_get h q2 = some (1, 9, f3)) (k : wm P d 301 [.index q2, vi (x1 + 2)] h (wq P d sw_c282 sw_h282 156 [.index q2, vi x1, vi x2] [] kc ks Q)) (e_q2 : r0 = .index q2 := by first | rfl | assumption) (y1 : s_ty r0 = 3 := by first | rfl | assumption)  : wr P d sw_c282 sw_h282 (149, [r0, vi x1, vi x2], [], h, kc, ks) Q := by
  refine w_ld rfl rfl (Or.inr (Or.inr ⟨by decide, y1⟩)) ?_
  refine w_ld rfl rfl (Or.inl ⟨by decide, rfl⟩) ?_
  refine w_c32 rfl (by decide) 2 (by decide) ?_
  refine w_iadd rfl ?_
  subst e_q2
  exact w_cv rfl [.index q2, vi (x1 + 2)] [] rfl rfl (s_wt_4 rfl) rfl g4 k

theorem k282_159 {P : s_P} {d : Nat} {Q : s_O → Prop} {h : s_H} {kc ks : Nat} {r0 : Term} {x1 x2 : Int}  (k : wr P d sw_c282 sw_h282 (164, [r0, vi x1, vi x2], [vi 1], h, kc, ks) Q)   : wr P d sw_c282 sw_h282 (159, [r0, vi x1, vi x2], [], h, kc, ks) Q := by
  refine w_c32 rfl (by decide) 1 (by decide) ?_
  refine w_goto rfl ?_
  exact k

theorem k282_163 {P : s_P} {d : Nat} {Q : s_O → Prop} {h : s_H} {kc ks : Nat} {r0 : Term} {x1 x2 : Int}  (k : wr P d sw_c282 sw_h282 (164, [r0, vi x1, vi x2], [vi 0], h, kc, ks) Q)   : wr P d sw_c282 sw_h282 (163, [r0, vi x1, vi x2], [], h, kc, ks) Q := by
  refine w_c32 rfl (by decide) 0 (by decide) ?_
  exact k

theorem k282_164 {P : s_P} {d : Nat} {Q : s_O → Prop} {h : s_H} {kc ks : Nat} {r0 : Term} {x1 x2 s0 : Int}  (k : Q (.inl (some (vi s0)), h, kc, ks))  (c1 : s0 = 0 ∨ s0 = 1 := by first | omega | assumption | (simp only [mk_len, List.length_map]; omega) | decide) : wr P d sw_c282 sw_h282 (164, [r0, vi x1, vi x2], [vi s0], h, kc, ks) Q := by
  exact w_zret rfl c1 k

theorem k282_165 {P : s_P} {d : Nat} {Q : s_O → Prop} {h : s_H} {kc ks : Nat} {r0 : Term} {x1 x2 : Int} {q2 : Nat} {f3 : List Term} (g4 : s_get h q2 = some (1, 9, f3)) (k : wm P d 285 [.index q2, vi x1] h (wq P d sw_c282 sw_h282 170 [.index q2, vi x1, vi x2] [] kc ks Q)) (e_q2 : r0 = .index q2 := by first | rfl | assumption) (y1 : s_ty r0 = 3 := by first | rfl | assumption)  : wr P d sw_c282 sw_h282 (165, [r0, vi x1, vi x2], [], h, kc, ks) Q := by
  refine w_ld rfl rfl (Or.inr (Or.inr ⟨by decide, y1⟩)) ?_
  refine w_ld rfl rfl (Or.inl ⟨by decide, rfl⟩) ?_
  subst e_q2
  exact w_cv rfl [.index q2, vi x1] [] rfl rfl (s_wt_4 rfl) rfl g4 k

theorem k282_171 {P : s_P} {d : Nat} {Q : s_O → Prop} {h : s_H} {kc ks : Nat} {r0 : Term} {x1 x2 : Int} {q2 : Nat} {f3 : List Term} (g4 : s_get h q2 = some (1, 9, f3)) (k : wm P d 292 [.index q2, vi x1] h (wq P d sw_c282 sw_h282 176 [.index q2, vi x1, vi x2] [] kc ks Q)) (e_q2 : r0 = .index q2 := by first | rfl | assumption) (y1 : s_ty r0 = 3 := by first | rfl | assumption)  : wr P d sw_c282 sw_h282 (171, [r0, vi x1, vi x2], [], h, kc, ks) Q := by
  refine w_ld rfl rfl (Or.inr (Or.inr ⟨by decide, y1⟩)) ?_
  refine w_ld rfl rfl (Or.inl ⟨by decide, rfl⟩) ?_
  subst e_q2
  exact w_cv rfl [.index q2, vi x1] [] rfl rfl (s_wt_4 rfl) rfl g4 k

theorem k282_177 {P : s_P} {d : Nat} {Q : s_O → Prop} {h : s_H} {kc ks : Nat} {r0 : Term} {x1 x2 : Int} {q2 : Nat} {f3 : List Term} (g4 : s_get h q2 = some (1, 9, f3)) (k : wm P d 286 [.index q2, vi x1] h (wq P d sw_c282 sw_h282 182 [.index q2, vi x1, vi x2] [] kc ks Q)) (e_q2 : r0 = .index q2 := by first | rfl | assumption) (y1 : s_ty r0 = 3 := by first | rfl | assumption)  : wr P d sw_c282 sw_h282 (177, [r0, vi x1, vi x2], [], h, kc, ks) Q := by
  refine w_ld rfl rfl (Or.inr (Or.inr ⟨by decide, y1⟩)) ?_
  refine w_ld rfl rfl (Or.inl ⟨by decide, rfl⟩) ?_
  subst e_q2
  exact w_cv rfl [.index q2, vi x1] [] rfl rfl (s_wt_4 rfl) rfl g4 k

theorem k282_183 {P : s_P} {d : Nat} {Q : s_O → Prop} {h : s_H} {kc ks : Nat} {r0 : Term} {x1 x2 : Int} {q2 : Nat} {f3 : List Term} (g4 : s_get h q2 = some (1, 9, f3)) (k : wm P d 287 [.index q2, vi x1] h (wq P d sw_c282 sw_h282 188 [.index q2, vi x1, vi x2] [] kc ks Q)) (e_q2 : r0 = .index q2 := by first | rfl | assumption) (y1 : s_ty r0 = 3 := by first | rfl | assumption)  : wr P d sw_c282 sw_h282 (183, [r0, vi x1, vi x2], [], h, kc, ks) Q := by
  refine w_ld rfl rfl (Or.inr (Or.inr ⟨by decide, y1⟩)) ?_
  refine w_ld rfl rfl (Or.inl ⟨by decide, rfl⟩) ?_
  subst e_q2
  exact w_cv rfl [.index q2, vi x1] [] rfl rfl (s_wt_4 rfl) rfl g4 k

theorem k282_189 {P : s_P} {d : Nat} {Q : s_O → Prop} {h : s_H} {kc ks : Nat} {r0 : Term} {x1 x2 : Int}  (k : Q (.inl (some (vi 0)), h, kc, ks))   : wr P d sw_c282 sw_h282 (189, [r0, vi x1, vi x2], [], h, kc, ks) Q := by
  refine w_c32 rfl (by decide) 0 (by decide) ?_
  exact w_zret rfl (by decide) k

/-! 283: FormulaWorks$Trees.fitsGathering(I)Z -/
theorem k283_0 {P : s_P} {d : Nat} {Q : s_O → Prop} {h : s_H} {kc ks : Nat} {r0 : Term} {x1 : Int} {t2 t3 t4 : Term} {q2 : Nat} {f3 : List Term} (g4 : s_get h q2 = some (1, 9, f3)) (k : wm P d 318 [.index q2, vi x1] h (wq P d sw_c283 sw_h283 5 [.index q2, vi x1, t2, t3, t4] [] kc ks Q)) (e_q2 : r0 = .index q2 := by first | rfl | assumption) (y1 : s_ty r0 = 3 := by first | rfl | assumption)  : wr P d sw_c283 sw_h283 (0, [r0, vi x1, t2, t3, t4], [], h, kc, ks) Q := by
  refine w_ld rfl rfl (Or.inr (Or.inr ⟨by decide, y1⟩)) ?_
  refine w_ld rfl rfl (Or.inl ⟨by decide, rfl⟩) ?_
  subst e_q2
  exact w_cv rfl [.index q2, vi x1] [] rfl rfl (s_wt_4 rfl) rfl g4 k

theorem k283_24 {P : s_P} {d : Nat} {Q : s_O → Prop} {h : s_H} {kc ks : Nat} {r0 : Term} {x1 x2 x3 x4 : Int}  (k1 : x2 = 3 → wr P d sw_c283 sw_h283 (31, [r0, vi x1, vi x2, vi x3, vi x4], [], h, kc, ks) Q) (k2 : ¬ x2 = 3 → wr P d sw_c283 sw_h283 (29, [r0, vi x1, vi x2, vi x3, vi x4], [], h, kc, ks) Q)  (c1 : In3 x2 := by first | omega | assumption | (simp only [mk_len, List.length_map]; omega) | decide) : wr P d sw_c283 sw_h283 (24, [r0, vi x1, vi x2, vi x3, vi x4], [], h, kc, ks) Q := by
  refine w_ld rfl rfl (Or.inl ⟨by decide, rfl⟩) ?_
  refine w_c32 rfl (by decide) 3 (by decide) ?_
  exact w_if2 rfl c1 (by decide) k1 k2

theorem k283_29 {P : s_P} {d : Nat} {Q : s_O → Prop} {h : s_H} {kc ks : Nat} {r0 : Term} {x1 x2 x3 x4 : Int}  (k : Q (.inl (some (vi 0)), h, kc, ks))   : wr P d sw_c283 sw_h283 (29, [r0, vi x1, vi x2, vi x3, vi x4], [], h, kc, ks) Q := by
  refine w_c32 rfl (by decide) 0 (by decide) ?_
  exact w_zret rfl (by decide) k

theorem k283_31 {P : s_P} {d : Nat} {Q : s_O → Prop} {h : s_H} {kc ks : Nat} {r0 : Term} {x1 x2 x3 x4 : Int} {q2 : Nat} {f3 : List Term} (g4 : s_get h q2 = some (1, 9, f3)) (k : wm P d 318 [.index q2, vi x3] h (wq P d sw_c283 sw_h283 36 [.index q2, vi x1, vi x2, vi x3, vi x4] [] kc ks Q)) (e_q2 : r0 = .index q2 := by first | rfl | assumption) (y1 : s_ty r0 = 3 := by first | rfl | assumption)  : wr P d sw_c283 sw_h283 (31, [r0, vi x1, vi x2, vi x3, vi x4], [], h, kc, ks) Q := by
  refine w_ld rfl rfl (Or.inr (Or.inr ⟨by decide, y1⟩)) ?_
  refine w_ld rfl rfl (Or.inl ⟨by decide, rfl⟩) ?_
  subst e_q2
  exact w_cv rfl [.index q2, vi x3] [] rfl rfl (s_wt_4 rfl) rfl g4 k

theorem k283_40 {P : s_P} {d : Nat} {Q : s_O → Prop} {h : s_H} {kc ks : Nat} {r0 : Term} {x1 x2 x3 x4 : Int} {q2 : Nat} {f3 : List Term} (g4 : s_get h q2 = some (1, 9, f3)) (k : wm P d 318 [.index q2, vi x4] h (wq P d sw_c283 sw_h283 46 [.index q2, vi x1, vi x2, vi x3, vi x4] [] kc ks Q)) (e_q2 : r0 = .index q2 := by first | rfl | assumption) (y1 : s_ty r0 = 3 := by first | rfl | assumption)  : wr P d sw_c283 sw_h283 (40, [r0, vi x1, vi x2, vi x3, vi x4], [], h, kc, ks) Q := by
  refine w_ld rfl rfl (Or.inr (Or.inr ⟨by decide, y1⟩)) ?_
  refine w_ld rfl rfl (Or.inl ⟨by decide, rfl⟩) ?_
  subst e_q2
  exact w_cv rfl [.index q2, vi x4] [] rfl rfl (s_wt_4 rfl) rfl g4 k

theorem k283_50 {P : s_P} {d : Nat} {Q : s_O → Prop} {h : s_H} {kc ks : Nat} {r0 : Term} {x1 x2 x3 x4 : Int} {q2 : Nat} {f3 : List Term} (g4 : s_get h q2 = some (1, 9, f3)) (k : wm P d 275 [.index q2, vi (x3 + 1), vi (x4 + 1)] h (wq P d sw_c283 sw_h283 61 [.index q2, vi x1, vi x2, vi x3, vi x4] [] kc ks Q)) (e_q2 : r0 = .index q2 := by first | rfl | assumption) (y1 : s_ty r0 = 3 := by first | rfl | assumption)  : wr P d sw_c283 sw_h283 (50, [r0, vi x1, vi x2, vi x3, vi x4], [], h, kc, ks) Q := by
  refine w_ld rfl rfl (Or.inr (Or.inr ⟨by decide, y1⟩)) ?_
  refine w_ld rfl rfl (Or.inl ⟨by decide, rfl⟩) ?_
  refine w_c32 rfl (by decide) 1 (by decide) ?_
  refine w_iadd rfl ?_
  refine w_ld rfl rfl (Or.inl ⟨by decide, rfl⟩) ?_
  refine w_c32 rfl (by decide) 1 (by decide) ?_
  refine w_iadd rfl ?_
  subst e_q2
  exact w_cv rfl [.index q2, vi (x3 + 1), vi (x4 + 1)] [] rfl rfl (s_wt_4 rfl) rfl g4 k

theorem k283_64 {P : s_P} {d : Nat} {Q : s_O → Prop} {h : s_H} {kc ks : Nat} {r0 : Term} {x1 x2 x3 x4 : Int}  (k : Q (.inl (some (vi 0)), h, kc, ks))   : wr P d sw_c283 sw_h283 (64, [r0, vi x1, vi x2, vi x3, vi x4], [], h, kc, ks) Q := by
  refine w_c32 rfl (by decide) 0 (by decide) ?_
  exact w_zret rfl (by decide) k

theorem k283_66 {P : s_P} {d : Nat} {Q : s_O → Prop} {h : s_H} {kc ks : Nat} {r0 : Term} {x1 x2 x3 x4 : Int} {q2 : Nat} {f3 : List Term} (g4 : s_get h q2 = some (1, 9, f3)) (k : wm P d 298 [.index q2, vi 4] h (wq P d sw_c283 sw_h283 71 [.index q2, vi x1, vi x2, vi x3, vi x4] [] kc ks Q)) (e_q2 : r0 = .index q2 := by first | rfl | assumption) (y1 : s_ty r0 = 3 := by first | rfl | assumption)  : wr P d sw_c283 sw_h283 (66, [r0, vi x1, vi x2, vi x3, vi x4], [], h, kc, ks) Q := by
  refine w_ld rfl rfl (Or.inr (Or.inr ⟨by decide, y1⟩)) ?_
  refine w_c32 rfl (by decide) 4 (by decide) ?_
  subst e_q2
  exact w_cv rfl [.index q2, vi 4] [] rfl rfl (s_wt_4 rfl) rfl g4 k

/-! 284: FormulaWorks$Trees.fitsLeftward(I)Z -/
theorem k284_0 {P : s_P} {d : Nat} {Q : s_O → Prop} {h : s_H} {kc ks : Nat} {r0 : Term} {x1 : Int} {t2 t3 : Term} {q2 : Nat} {f3 : List Term} (g4 : s_get h q2 = some (1, 9, f3)) (k : wm P d 318 [.index q2, vi x1] h (wq P d sw_c284 sw_h284 5 [.index q2, vi x1, t2, t3] [] kc ks Q)) (e_q2 : r0 = .index q2 := by first | rfl | assumption) (y1 : s_ty r0 = 3 := by first | rfl | assumption)  : wr P d sw_c284 sw_h284 (0, [r0, vi x1, t2, t3], [], h, kc, ks) Q := by
  refine w_ld rfl rfl (Or.inr (Or.inr ⟨by decide, y1⟩)) ?_
  refine w_ld rfl rfl (Or.inl ⟨by decide, rfl⟩) ?_
  subst e_q2
  exact w_cv rfl [.index q2, vi x1] [] rfl rfl (s_wt_4 rfl) rfl g4 k

theorem k284_17 {P : s_P} {d : Nat} {Q : s_O → Prop} {h : s_H} {kc ks : Nat} {r0 : Term} {x1 x2 x3 : Int}  (k1 : x2 ≠ 4 → wr P d sw_c284 sw_h284 (31, [r0, vi x1, vi x2, vi x3], [], h, kc, ks) Q) (k2 : ¬ x2 ≠ 4 → wr P d sw_c284 sw_h284 (22, [r0, vi x1, vi x2, vi x3], [], h, kc, ks) Q)  (c1 : In3 x2 := by first | omega | assumption | (simp only [mk_len, List.length_map]; omega) | decide) : wr P d sw_c284 sw_h284 (17, [r0, vi x1, vi x2, vi x3], [], h, kc, ks) Q := by
  refine w_ld rfl rfl (Or.inl ⟨by decide, rfl⟩) ?_
  refine w_c32 rfl (by decide) 4 (by decide) ?_
  exact w_if2 rfl c1 (by decide) k1 k2

theorem k284_22 {P : s_P} {d : Nat} {Q : s_O → Prop} {h : s_H} {kc ks : Nat} {r0 : Term} {x1 x2 x3 : Int} {q2 : Nat} {f3 : List Term} (g4 : s_get h q2 = some (1, 9, f3)) (k : wm P d 318 [.index q2, vi x3] h (wq P d sw_c284 sw_h284 27 [.index q2, vi x1, vi x2, vi x3] [] kc ks Q)) (e_q2 : r0 = .index q2 := by first | rfl | assumption) (y1 : s_ty r0 = 3 := by first | rfl | assumption)  : wr P d sw_c284 sw_h284 (22, [r0, vi x1, vi x2, vi x3], [], h, kc, ks) Q := by
  refine w_ld rfl rfl (Or.inr (Or.inr ⟨by decide, y1⟩)) ?_
  refine w_ld rfl rfl (Or.inl ⟨by decide, rfl⟩) ?_
  subst e_q2
  exact w_cv rfl [.index q2, vi x3] [] rfl rfl (s_wt_4 rfl) rfl g4 k

theorem k284_31 {P : s_P} {d : Nat} {Q : s_O → Prop} {h : s_H} {kc ks : Nat} {r0 : Term} {x1 x2 x3 : Int}  (k : Q (.inl (some (vi 0)), h, kc, ks))   : wr P d sw_c284 sw_h284 (31, [r0, vi x1, vi x2, vi x3], [], h, kc, ks) Q := by
  refine w_c32 rfl (by decide) 0 (by decide) ?_
  exact w_zret rfl (by decide) k

theorem k284_33 {P : s_P} {d : Nat} {Q : s_O → Prop} {h : s_H} {kc ks : Nat} {r0 : Term} {x1 x2 x3 : Int} {q2 : Nat} {f3 : List Term} (g4 : s_get h q2 = some (1, 9, f3)) (k : wm P d 298 [.index q2, vi x2] h (wq P d sw_c284 sw_h284 38 [.index q2, vi x1, vi x2, vi x3] [] kc ks Q)) (e_q2 : r0 = .index q2 := by first | rfl | assumption) (y1 : s_ty r0 = 3 := by first | rfl | assumption)  : wr P d sw_c284 sw_h284 (33, [r0, vi x1, vi x2, vi x3], [], h, kc, ks) Q := by
  refine w_ld rfl rfl (Or.inr (Or.inr ⟨by decide, y1⟩)) ?_
  refine w_ld rfl rfl (Or.inl ⟨by decide, rfl⟩) ?_
  subst e_q2
  exact w_cv rfl [.index q2, vi x2] [] rfl rfl (s_wt_4 rfl) rfl g4 k

/-! 285: FormulaWorks$Trees.fitsNothing(I)Z -/
theorem k285_0 {P : s_P} {d : Nat} {Q : s_O → Prop} {h : s_H} {kc ks : Nat} {r0 : Term} {x1 : Int} {t2 t3 : Term} {q2 : Nat} {f3 : List Term} (g4 : s_get h q2 = some (1, 9, f3)) (k : wm P d 281 [.index q2, vi x1] h (wq P d sw_c285 sw_h285 5 [.index q2, vi x1, t2, t3] [] kc ks Q)) (e_q2 : r0 = .index q2 := by first | rfl | assumption) (y1 : s_ty r0 = 3 := by first | rfl | assumption)  : wr P d sw_c285 sw_h285 (0, [r0, vi x1, t2, t3], [], h, kc, ks) Q := by
  refine w_ld rfl rfl (Or.inr (Or.inr ⟨by decide, y1⟩)) ?_
  refine w_ld rfl rfl (Or.inl ⟨by decide, rfl⟩) ?_
  subst e_q2
  exact w_cv rfl [.index q2, vi x1] [] rfl rfl (s_wt_4 rfl) rfl g4 k

theorem k285_56 {P : s_P} {d : Nat} {Q : s_O → Prop} {h : s_H} {kc ks : Nat} {r0 : Term} {x1 x2 x3 : Int} {q2 : Nat} {f3 : List Term} (g4 : s_get h q2 = some (1, 9, f3)) (k : wm P d 295 [.index q2, vi x3, vi 0] h (wq P d sw_c285 sw_h285 62 [.index q2, vi x1, vi x2, vi x3] [] kc ks Q)) (e_q2 : r0 = .index q2 := by first | rfl | assumption) (y1 : s_ty r0 = 3 := by first | rfl | assumption)  : wr P d sw_c285 sw_h285 (56, [r0, vi x1, vi x2, vi x3], [], h, kc, ks) Q := by
  refine w_ld rfl rfl (Or.inr (Or.inr ⟨by decide, y1⟩)) ?_
  refine w_ld rfl rfl (Or.inl ⟨by decide, rfl⟩) ?_
  refine w_c32 rfl (by decide) 0 (by decide) ?_
  subst e_q2
  exact w_cv rfl [.index q2, vi x3, vi 0] [] rfl rfl (s_wt_4 rfl) rfl g4 k

theorem k285_65 {P : s_P} {d : Nat} {Q : s_O → Prop} {h : s_H} {kc ks : Nat} {r0 : Term} {x1 x2 x3 : Int} {q2 : Nat} {f3 : List Term} (g4 : s_get h q2 = some (1, 9, f3)) (k : wm P d 301 [.index q2, vi x2] h (wq P d sw_c285 sw_h285 70 [.index q2, vi x1, vi x2, vi x3] [] kc ks Q)) (e_q2 : r0 = .index q2 := by first | rfl | assumption) (y1 : s_ty r0 = 3 := by first | rfl | assumption)  : wr P d sw_c285 sw_h285 (65, [r0, vi x1, vi x2, vi x3], [], h, kc, ks) Q := by
  refine w_ld rfl rfl (Or.inr (Or.inr ⟨by decide, y1⟩)) ?_
  refine w_ld rfl rfl (Or.inl ⟨by decide, rfl⟩) ?_
  subst e_q2
  exact w_cv rfl [.index q2, vi x2] [] rfl rfl (s_wt_4 rfl) rfl g4 k

theorem k285_71 {P : s_P} {d : Nat} {Q : s_O → Prop} {h : s_H} {kc ks : Nat} {r0 : Term} {x1 x2 x3 : Int} {q2 : Nat} {f3 : List Term} (g4 : s_get h q2 = some (1, 9, f3)) (k : wm P d 295 [.index q2, vi x2, vi 0] h (wq P d sw_c285 sw_h285 77 [.index q2, vi x1, vi x2, vi x3] [] kc ks Q)) (e_q2 : r0 = .index q2 := by first | rfl | assumption) (y1 : s_ty r0 = 3 := by first | rfl | assumption)  : wr P d sw_c285 sw_h285 (71, [r0, vi x1, vi x2, vi x3], [], h, kc, ks) Q := by
  refine w_ld rfl rfl (Or.inr (Or.inr ⟨by decide, y1⟩)) ?_
  refine w_ld rfl rfl (Or.inl ⟨by decide, rfl⟩) ?_
  refine w_c32 rfl (by decide) 0 (by decide) ?_
  subst e_q2
  exact w_cv rfl [.index q2, vi x2, vi 0] [] rfl rfl (s_wt_4 rfl) rfl g4 k

theorem k285_80 {P : s_P} {d : Nat} {Q : s_O → Prop} {h : s_H} {kc ks : Nat} {r0 : Term} {x1 x2 x3 : Int} {q2 : Nat} {f3 : List Term} (g4 : s_get h q2 = some (1, 9, f3)) (k : wm P d 301 [.index q2, vi x3] h (wq P d sw_c285 sw_h285 85 [.index q2, vi x1, vi x2, vi x3] [] kc ks Q)) (e_q2 : r0 = .index q2 := by first | rfl | assumption) (y1 : s_ty r0 = 3 := by first | rfl | assumption)  : wr P d sw_c285 sw_h285 (80, [r0, vi x1, vi x2, vi x3], [], h, kc, ks) Q := by
  refine w_ld rfl rfl (Or.inr (Or.inr ⟨by decide, y1⟩)) ?_
  refine w_ld rfl rfl (Or.inl ⟨by decide, rfl⟩) ?_
  subst e_q2
  exact w_cv rfl [.index q2, vi x3] [] rfl rfl (s_wt_4 rfl) rfl g4 k

theorem k285_88 {P : s_P} {d : Nat} {Q : s_O → Prop} {h : s_H} {kc ks : Nat} {r0 : Term} {x1 x2 x3 : Int}  (k : wr P d sw_c285 sw_h285 (93, [r0, vi x1, vi x2, vi x3], [vi 1], h, kc, ks) Q)   : wr P d sw_c285 sw_h285 (88, [r0, vi x1, vi x2, vi x3], [], h, kc, ks) Q := by
  refine w_c32 rfl (by decide) 1 (by decide) ?_
  refine w_goto rfl ?_
  exact k

theorem k285_92 {P : s_P} {d : Nat} {Q : s_O → Prop} {h : s_H} {kc ks : Nat} {r0 : Term} {x1 x2 x3 : Int}  (k : wr P d sw_c285 sw_h285 (93, [r0, vi x1, vi x2, vi x3], [vi 0], h, kc, ks) Q)   : wr P d sw_c285 sw_h285 (92, [r0, vi x1, vi x2, vi x3], [], h, kc, ks) Q := by
  refine w_c32 rfl (by decide) 0 (by decide) ?_
  exact k

theorem k285_93 {P : s_P} {d : Nat} {Q : s_O → Prop} {h : s_H} {kc ks : Nat} {r0 : Term} {x1 x2 x3 s0 : Int}  (k : Q (.inl (some (vi s0)), h, kc, ks))  (c1 : s0 = 0 ∨ s0 = 1 := by first | omega | assumption | (simp only [mk_len, List.length_map]; omega) | decide) : wr P d sw_c285 sw_h285 (93, [r0, vi x1, vi x2, vi x3], [vi s0], h, kc, ks) Q := by
  exact w_zret rfl c1 k

theorem k285_94 {P : s_P} {d : Nat} {Q : s_O → Prop} {h : s_H} {kc ks : Nat} {r0 : Term} {x1 x2 x3 : Int} {q2 : Nat} {f3 : List Term} (g4 : s_get h q2 = some (1, 9, f3)) (k : wm P d 295 [.index q2, vi x3, vi 0] h (wq P d sw_c285 sw_h285 100 [.index q2, vi x1, vi x2, vi x3] [] kc ks Q)) (e_q2 : r0 = .index q2 := by first | rfl | assumption) (y1 : s_ty r0 = 3 := by first | rfl | assumption)  : wr P d sw_c285 sw_h285 (94, [r0, vi x1, vi x2, vi x3], [], h, kc, ks) Q := by
  refine w_ld rfl rfl (Or.inr (Or.inr ⟨by decide, y1⟩)) ?_
  refine w_ld rfl rfl (Or.inl ⟨by decide, rfl⟩) ?_
  refine w_c32 rfl (by decide) 0 (by decide) ?_
  subst e_q2
  exact w_cv rfl [.index q2, vi x3, vi 0] [] rfl rfl (s_wt_4 rfl) rfl g4 k

theorem k285_103 {P : s_P} {d : Nat} {Q : s_O → Prop} {h : s_H} {kc ks : Nat} {r0 : Term} {x1 x2 x3 : Int} {q2 : Nat} {f3 : List Term} (g4 : s_get h q2 = some (1, 9, f3)) (k : wm P d 301 [.index q2, vi x2] h (wq P d sw_c285 sw_h285 108 [.index q2, vi x1, vi x2, vi x3] [] kc ks Q)) (e_q2 : r0 = .index q2 := by first | rfl | assumption) (y1 : s_ty r0 = 3 := by first | rfl | assumption)  : wr P d sw_c285 sw_h285 (103, [r0, vi x1, vi x2, vi x3], [], h, kc, ks) Q := by
  refine w_ld rfl rfl (Or.inr (Or.inr ⟨by decide, y1⟩)) ?_
  refine w_ld rfl rfl (Or.inl ⟨by decide, rfl⟩) ?_
  subst e_q2
  exact w_cv rfl [.index q2, vi x2] [] rfl rfl (s_wt_4 rfl) rfl g4 k

theorem k285_109 {P : s_P} {d : Nat} {Q : s_O → Prop} {h : s_H} {kc ks : Nat} {r0 : Term} {x1 x2 x3 : Int} {q2 : Nat} {f3 : List Term} (g4 : s_get h q2 = some (1, 9, f3)) (k : wm P d 295 [.index q2, vi x2, vi 0] h (wq P d sw_c285 sw_h285 115 [.index q2, vi x1, vi x2, vi x3] [] kc ks Q)) (e_q2 : r0 = .index q2 := by first | rfl | assumption) (y1 : s_ty r0 = 3 := by first | rfl | assumption)  : wr P d sw_c285 sw_h285 (109, [r0, vi x1, vi x2, vi x3], [], h, kc, ks) Q := by
  refine w_ld rfl rfl (Or.inr (Or.inr ⟨by decide, y1⟩)) ?_
  refine w_ld rfl rfl (Or.inl ⟨by decide, rfl⟩) ?_
  refine w_c32 rfl (by decide) 0 (by decide) ?_
  subst e_q2
  exact w_cv rfl [.index q2, vi x2, vi 0] [] rfl rfl (s_wt_4 rfl) rfl g4 k

theorem k285_118 {P : s_P} {d : Nat} {Q : s_O → Prop} {h : s_H} {kc ks : Nat} {r0 : Term} {x1 x2 x3 : Int} {q2 : Nat} {f3 : List Term} (g4 : s_get h q2 = some (1, 9, f3)) (k : wm P d 298 [.index q2, vi 6] h (wq P d sw_c285 sw_h285 124 [.index q2, vi x1, vi x2, vi x3] [] kc ks Q)) (e_q2 : r0 = .index q2 := by first | rfl | assumption) (y1 : s_ty r0 = 3 := by first | rfl | assumption)  : wr P d sw_c285 sw_h285 (118, [r0, vi x1, vi x2, vi x3], [], h, kc, ks) Q := by
  refine w_ld rfl rfl (Or.inr (Or.inr ⟨by decide, y1⟩)) ?_
  refine w_c32 rfl (by decide) 6 (by decide) ?_
  subst e_q2
  exact w_cv rfl [.index q2, vi 6] [] rfl rfl (s_wt_4 rfl) rfl g4 k

theorem k285_127 {P : s_P} {d : Nat} {Q : s_O → Prop} {h : s_H} {kc ks : Nat} {r0 : Term} {x1 x2 x3 : Int} {q2 : Nat} {f3 : List Term} (g4 : s_get h q2 = some (1, 9, f3)) (k : wm P d 301 [.index q2, vi x3] h (wq P d sw_c285 sw_h285 132 [.index q2, vi x1, vi x2, vi x3] [] kc ks Q)) (e_q2 : r0 = .index q2 := by first | rfl | assumption) (y1 : s_ty r0 = 3 := by first | rfl | assumption)  : wr P d sw_c285 sw_h285 (127, [r0, vi x1, vi x2, vi x3], [], h, kc, ks) Q := by
  refine w_ld rfl rfl (Or.inr (Or.inr ⟨by decide, y1⟩)) ?_
  refine w_ld rfl rfl (Or.inl ⟨by decide, rfl⟩) ?_
  subst e_q2
  exact w_cv rfl [.index q2, vi x3] [] rfl rfl (s_wt_4 rfl) rfl g4 k

theorem k285_135 {P : s_P} {d : Nat} {Q : s_O → Prop} {h : s_H} {kc ks : Nat} {r0 : Term} {x1 x2 x3 : Int}  (k : wr P d sw_c285 sw_h285 (140, [r0, vi x1, vi x2, vi x3], [vi 1], h, kc, ks) Q)   : wr P d sw_c285 sw_h285 (135, [r0, vi x1, vi x2, vi x3], [], h, kc, ks) Q := by
  refine w_c32 rfl (by decide) 1 (by decide) ?_
  refine w_goto rfl ?_
  exact k

theorem k285_139 {P : s_P} {d : Nat} {Q : s_O → Prop} {h : s_H} {kc ks : Nat} {r0 : Term} {x1 x2 x3 : Int}  (k : wr P d sw_c285 sw_h285 (140, [r0, vi x1, vi x2, vi x3], [vi 0], h, kc, ks) Q)   : wr P d sw_c285 sw_h285 (139, [r0, vi x1, vi x2, vi x3], [], h, kc, ks) Q := by
  refine w_c32 rfl (by decide) 0 (by decide) ?_
  exact k

theorem k285_140 {P : s_P} {d : Nat} {Q : s_O → Prop} {h : s_H} {kc ks : Nat} {r0 : Term} {x1 x2 x3 s0 : Int}  (k : Q (.inl (some (vi s0)), h, kc, ks))  (c1 : s0 = 0 ∨ s0 = 1 := by first | omega | assumption | (simp only [mk_len, List.length_map]; omega) | decide) : wr P d sw_c285 sw_h285 (140, [r0, vi x1, vi x2, vi x3], [vi s0], h, kc, ks) Q := by
  exact w_zret rfl c1 k

theorem k285_141 {P : s_P} {d : Nat} {Q : s_O → Prop} {h : s_H} {kc ks : Nat} {r0 : Term} {x1 x2 x3 : Int} {q2 : Nat} {f3 : List Term} (g4 : s_get h q2 = some (1, 9, f3)) (k : wm P d 295 [.index q2, vi x3, vi 1] h (wq P d sw_c285 sw_h285 147 [.index q2, vi x1, vi x2, vi x3] [] kc ks Q)) (e_q2 : r0 = .index q2 := by first | rfl | assumption) (y1 : s_ty r0 = 3 := by first | rfl | assumption)  : wr P d sw_c285 sw_h285 (141, [r0, vi x1, vi x2, vi x3], [], h, kc, ks) Q := by
  refine w_ld rfl rfl (Or.inr (Or.inr ⟨by decide, y1⟩)) ?_
  refine w_ld rfl rfl (Or.inl ⟨by decide, rfl⟩) ?_
  refine w_c32 rfl (by decide) 1 (by decide) ?_
  subst e_q2
  exact w_cv rfl [.index q2, vi x3, vi 1] [] rfl rfl (s_wt_4 rfl) rfl g4 k

theorem k285_150 {P : s_P} {d : Nat} {Q : s_O → Prop} {h : s_H} {kc ks : Nat} {r0 : Term} {x1 x2 x3 : Int} {q2 : Nat} {f3 : List Term} (g4 : s_get h q2 = some (1, 9, f3)) (k : wm P d 301 [.index q2, vi x2] h (wq P d sw_c285 sw_h285 155 [.index q2, vi x1, vi x2, vi x3] [] kc ks Q)) (e_q2 : r0 = .index q2 := by first | rfl | assumption) (y1 : s_ty r0 = 3 := by first | rfl | assumption)  : wr P d sw_c285 sw_h285 (150, [r0, vi x1, vi x2, vi x3], [], h, kc, ks) Q := by
  refine w_ld rfl rfl (Or.inr (Or.inr ⟨by decide, y1⟩)) ?_
  refine w_ld rfl rfl (Or.inl ⟨by decide, rfl⟩) ?_
  subst e_q2
  exact w_cv rfl [.index q2, vi x2] [] rfl rfl (s_wt_4 rfl) rfl g4 k

theorem k285_156 {P : s_P} {d : Nat} {Q : s_O → Prop} {h : s_H} {kc ks : Nat} {r0 : Term} {x1 x2 x3 : Int} {q2 : Nat} {f3 : List Term} (g4 : s_get h q2 = some (1, 9, f3)) (k : wm P d 295 [.index q2, vi x2, vi 1] h (wq P d sw_c285 sw_h285 162 [.index q2, vi x1, vi x2, vi x3] [] kc ks Q)) (e_q2 : r0 = .index q2 := by first | rfl | assumption) (y1 : s_ty r0 = 3 := by first | rfl | assumption)  : wr P d sw_c285 sw_h285 (156, [r0, vi x1, vi x2, vi x3], [], h, kc, ks) Q := by
  refine w_ld rfl rfl (Or.inr (Or.inr ⟨by decide, y1⟩)) ?_
  refine w_ld rfl rfl (Or.inl ⟨by decide, rfl⟩) ?_
  refine w_c32 rfl (by decide) 1 (by decide) ?_
  subst e_q2
  exact w_cv rfl [.index q2, vi x2, vi 1] [] rfl rfl (s_wt_4 rfl) rfl g4 k

theorem k285_165 {P : s_P} {d : Nat} {Q : s_O → Prop} {h : s_H} {kc ks : Nat} {r0 : Term} {x1 x2 x3 : Int} {q2 : Nat} {f3 : List Term} (g4 : s_get h q2 = some (1, 9, f3)) (k : wm P d 301 [.index q2, vi x3] h (wq P d sw_c285 sw_h285 170 [.index q2, vi x1, vi x2, vi x3] [] kc ks Q)) (e_q2 : r0 = .index q2 := by first | rfl | assumption) (y1 : s_ty r0 = 3 := by first | rfl | assumption)  : wr P d sw_c285 sw_h285 (165, [r0, vi x1, vi x2, vi x3], [], h, kc, ks) Q := by
  refine w_ld rfl rfl (Or.inr (Or.inr ⟨by decide, y1⟩)) ?_
  refine w_ld rfl rfl (Or.inl ⟨by decide, rfl⟩) ?_
  subst e_q2
  exact w_cv rfl [.index q2, vi x3] [] rfl rfl (s_wt_4 rfl) rfl g4 k

theorem k285_173 {P : s_P} {d : Nat} {Q : s_O → Prop} {h : s_H} {kc ks : Nat} {r0 : Term} {x1 x2 x3 : Int}  (k : wr P d sw_c285 sw_h285 (178, [r0, vi x1, vi x2, vi x3], [vi 1], h, kc, ks) Q)   : wr P d sw_c285 sw_h285 (173, [r0, vi x1, vi x2, vi x3], [], h, kc, ks) Q := by
  refine w_c32 rfl (by decide) 1 (by decide) ?_
  refine w_goto rfl ?_
  exact k

theorem k285_177 {P : s_P} {d : Nat} {Q : s_O → Prop} {h : s_H} {kc ks : Nat} {r0 : Term} {x1 x2 x3 : Int}  (k : wr P d sw_c285 sw_h285 (178, [r0, vi x1, vi x2, vi x3], [vi 0], h, kc, ks) Q)   : wr P d sw_c285 sw_h285 (177, [r0, vi x1, vi x2, vi x3], [], h, kc, ks) Q := by
  refine w_c32 rfl (by decide) 0 (by decide) ?_
  exact k

theorem k285_178 {P : s_P} {d : Nat} {Q : s_O → Prop} {h : s_H} {kc ks : Nat} {r0 : Term} {x1 x2 x3 s0 : Int}  (k : Q (.inl (some (vi s0)), h, kc, ks))  (c1 : s0 = 0 ∨ s0 = 1 := by first | omega | assumption | (simp only [mk_len, List.length_map]; omega) | decide) : wr P d sw_c285 sw_h285 (178, [r0, vi x1, vi x2, vi x3], [vi s0], h, kc, ks) Q := by
  exact w_zret rfl c1 k

theorem k285_179 {P : s_P} {d : Nat} {Q : s_O → Prop} {h : s_H} {kc ks : Nat} {r0 : Term} {x1 x2 x3 : Int} {q2 : Nat} {f3 : List Term} (g4 : s_get h q2 = some (1, 9, f3)) (k : wm P d 295 [.index q2, vi x3, vi 1] h (wq P d sw_c285 sw_h285 185 [.index q2, vi x1, vi x2, vi x3] [] kc ks Q)) (e_q2 : r0 = .index q2 := by first | rfl | assumption) (y1 : s_ty r0 = 3 := by first | rfl | assumption)  : wr P d sw_c285 sw_h285 (179, [r0, vi x1, vi x2, vi x3], [], h, kc, ks) Q := by
  refine w_ld rfl rfl (Or.inr (Or.inr ⟨by decide, y1⟩)) ?_
  refine w_ld rfl rfl (Or.inl ⟨by decide, rfl⟩) ?_
  refine w_c32 rfl (by decide) 1 (by decide) ?_
  subst e_q2
  exact w_cv rfl [.index q2, vi x3, vi 1] [] rfl rfl (s_wt_4 rfl) rfl g4 k

theorem k285_188 {P : s_P} {d : Nat} {Q : s_O → Prop} {h : s_H} {kc ks : Nat} {r0 : Term} {x1 x2 x3 : Int} {q2 : Nat} {f3 : List Term} (g4 : s_get h q2 = some (1, 9, f3)) (k : wm P d 301 [.index q2, vi x2] h (wq P d sw_c285 sw_h285 193 [.index q2, vi x1, vi x2, vi x3] [] kc ks Q)) (e_q2 : r0 = .index q2 := by first | rfl | assumption) (y1 : s_ty r0 = 3 := by first | rfl | assumption)  : wr P d sw_c285 sw_h285 (188, [r0, vi x1, vi x2, vi x3], [], h, kc, ks) Q := by
  refine w_ld rfl rfl (Or.inr (Or.inr ⟨by decide, y1⟩)) ?_
  refine w_ld rfl rfl (Or.inl ⟨by decide, rfl⟩) ?_
  subst e_q2
  exact w_cv rfl [.index q2, vi x2] [] rfl rfl (s_wt_4 rfl) rfl g4 k

theorem k285_196 {P : s_P} {d : Nat} {Q : s_O → Prop} {h : s_H} {kc ks : Nat} {r0 : Term} {x1 x2 x3 : Int}  (k : wr P d sw_c285 sw_h285 (201, [r0, vi x1, vi x2, vi x3], [vi 1], h, kc, ks) Q)   : wr P d sw_c285 sw_h285 (196, [r0, vi x1, vi x2, vi x3], [], h, kc, ks) Q := by
  refine w_c32 rfl (by decide) 1 (by decide) ?_
  refine w_goto rfl ?_
  exact k

theorem k285_200 {P : s_P} {d : Nat} {Q : s_O → Prop} {h : s_H} {kc ks : Nat} {r0 : Term} {x1 x2 x3 : Int}  (k : wr P d sw_c285 sw_h285 (201, [r0, vi x1, vi x2, vi x3], [vi 0], h, kc, ks) Q)   : wr P d sw_c285 sw_h285 (200, [r0, vi x1, vi x2, vi x3], [], h, kc, ks) Q := by
  refine w_c32 rfl (by decide) 0 (by decide) ?_
  exact k

theorem k285_201 {P : s_P} {d : Nat} {Q : s_O → Prop} {h : s_H} {kc ks : Nat} {r0 : Term} {x1 x2 x3 s0 : Int}  (k : Q (.inl (some (vi s0)), h, kc, ks))  (c1 : s0 = 0 ∨ s0 = 1 := by first | omega | assumption | (simp only [mk_len, List.length_map]; omega) | decide) : wr P d sw_c285 sw_h285 (201, [r0, vi x1, vi x2, vi x3], [vi s0], h, kc, ks) Q := by
  exact w_zret rfl c1 k

theorem k285_202 {P : s_P} {d : Nat} {Q : s_O → Prop} {h : s_H} {kc ks : Nat} {r0 : Term} {x1 x2 x3 : Int} {q2 : Nat} {f3 : List Term} (g4 : s_get h q2 = some (1, 9, f3)) (k : wm P d 274 [.index q2, vi x1] h (wq P d sw_c285 sw_h285 207 [.index q2, vi x1, vi x2, vi x3] [] kc ks Q)) (e_q2 : r0 = .index q2 := by first | rfl | assumption) (y1 : s_ty r0 = 3 := by first | rfl | assumption)  : wr P d sw_c285 sw_h285 (202, [r0, vi x1, vi x2, vi x3], [], h, kc, ks) Q := by
  refine w_ld rfl rfl (Or.inr (Or.inr ⟨by decide, y1⟩)) ?_
  refine w_ld rfl rfl (Or.inl ⟨by decide, rfl⟩) ?_
  subst e_q2
  exact w_cv rfl [.index q2, vi x1] [] rfl rfl (s_wt_4 rfl) rfl g4 k

theorem k285_211 {P : s_P} {d : Nat} {Q : s_O → Prop} {h : s_H} {kc ks : Nat} {r0 : Term} {x1 x2 x3 : Int} {q2 : Nat} {f3 : List Term} (g4 : s_get h q2 = some (1, 9, f3)) (k : wm P d 301 [.index q2, vi x2] h (wq P d sw_c285 sw_h285 216 [.index q2, vi x1, vi x2, vi x3] [] kc ks Q)) (e_q2 : r0 = .index q2 := by first | rfl | assumption) (y1 : s_ty r0 = 3 := by first | rfl | assumption)  : wr P d sw_c285 sw_h285 (211, [r0, vi x1, vi x2, vi x3], [], h, kc, ks) Q := by
  refine w_ld rfl rfl (Or.inr (Or.inr ⟨by decide, y1⟩)) ?_
  refine w_ld rfl rfl (Or.inl ⟨by decide, rfl⟩) ?_
  subst e_q2
  exact w_cv rfl [.index q2, vi x2] [] rfl rfl (s_wt_4 rfl) rfl g4 k

theorem k285_219 {P : s_P} {d : Nat} {Q : s_O → Prop} {h : s_H} {kc ks : Nat} {r0 : Term} {x1 x2 x3 : Int}  (k : wr P d sw_c285 sw_h285 (224, [r0, vi x1, vi x2, vi x3], [vi 1], h, kc, ks) Q)   : wr P d sw_c285 sw_h285 (219, [r0, vi x1, vi x2, vi x3], [], h, kc, ks) Q := by
  refine w_c32 rfl (by decide) 1 (by decide) ?_
  refine w_goto rfl ?_
  exact k

theorem k285_223 {P : s_P} {d : Nat} {Q : s_O → Prop} {h : s_H} {kc ks : Nat} {r0 : Term} {x1 x2 x3 : Int}  (k : wr P d sw_c285 sw_h285 (224, [r0, vi x1, vi x2, vi x3], [vi 0], h, kc, ks) Q)   : wr P d sw_c285 sw_h285 (223, [r0, vi x1, vi x2, vi x3], [], h, kc, ks) Q := by
  refine w_c32 rfl (by decide) 0 (by decide) ?_
  exact k

theorem k285_224 {P : s_P} {d : Nat} {Q : s_O → Prop} {h : s_H} {kc ks : Nat} {r0 : Term} {x1 x2 x3 s0 : Int}  (k : Q (.inl (some (vi s0)), h, kc, ks))  (c1 : s0 = 0 ∨ s0 = 1 := by first | omega | assumption | (simp only [mk_len, List.length_map]; omega) | decide) : wr P d sw_c285 sw_h285 (224, [r0, vi x1, vi x2, vi x3], [vi s0], h, kc, ks) Q := by
  exact w_zret rfl c1 k

theorem k285_225 {P : s_P} {d : Nat} {Q : s_O → Prop} {h : s_H} {kc ks : Nat} {r0 : Term} {x1 x2 x3 : Int}  (k : Q (.inl (some (vi 0)), h, kc, ks))   : wr P d sw_c285 sw_h285 (225, [r0, vi x1, vi x2, vi x3], [], h, kc, ks) Q := by
  refine w_c32 rfl (by decide) 0 (by decide) ?_
  exact w_zret rfl (by decide) k

/-! 286: FormulaWorks$Trees.fitsNumbers(I)Z -/
theorem k286_0 {P : s_P} {d : Nat} {Q : s_O → Prop} {h : s_H} {kc ks : Nat} {r0 : Term} {x1 : Int} {t2 t3 t4 : Term} {q2 : Nat} {f3 : List Term} (g4 : s_get h q2 = some (1, 9, f3)) (k : wm P d 318 [.index q2, vi x1] h (wq P d sw_c286 sw_h286 5 [.index q2, vi x1, t2, t3, t4] [] kc ks Q)) (e_q2 : r0 = .index q2 := by first | rfl | assumption) (y1 : s_ty r0 = 3 := by first | rfl | assumption)  : wr P d sw_c286 sw_h286 (0, [r0, vi x1, t2, t3, t4], [], h, kc, ks) Q := by
  refine w_ld rfl rfl (Or.inr (Or.inr ⟨by decide, y1⟩)) ?_
  refine w_ld rfl rfl (Or.inl ⟨by decide, rfl⟩) ?_
  subst e_q2
  exact w_cv rfl [.index q2, vi x1] [] rfl rfl (s_wt_4 rfl) rfl g4 k

theorem k286_11 {P : s_P} {d : Nat} {Q : s_O → Prop} {h : s_H} {kc ks : Nat} {r0 : Term} {x1 x2 : Int} {t3 t4 : Term} {q2 : Nat} {f3 : List Term} (g4 : s_get h q2 = some (1, 9, f3)) (k : wm P d 294 [.index q2, vi (x1 + 1)] h (wq P d sw_c286 sw_h286 18 [.index q2, vi x1, vi x2, t3, t4] [] kc ks Q)) (e_q2 : r0 = .index q2 := by first | rfl | assumption) (y1 : s_ty r0 = 3 := by first | rfl | assumption)  : wr P d sw_c286 sw_h286 (11, [r0, vi x1, vi x2, t3, t4], [], h, kc, ks) Q := by
  refine w_ld rfl rfl (Or.inr (Or.inr ⟨by decide, y1⟩)) ?_
  refine w_ld rfl rfl (Or.inl ⟨by decide, rfl⟩) ?_
  refine w_c32 rfl (by decide) 1 (by decide) ?_
  refine w_iadd rfl ?_
  subst e_q2
  exact w_cv rfl [.index q2, vi (x1 + 1)] [] rfl rfl (s_wt_4 rfl) rfl g4 k

theorem k286_21 {P : s_P} {d : Nat} {Q : s_O → Prop} {h : s_H} {kc ks : Nat} {r0 : Term} {x1 x2 : Int} {t3 t4 : Term}  (k : Q (.inl (some (vi 0)), h, kc, ks))   : wr P d sw_c286 sw_h286 (21, [r0, vi x1, vi x2, t3, t4], [], h, kc, ks) Q := by
  refine w_c32 rfl (by decide) 0 (by decide) ?_
  exact w_zret rfl (by decide) k

theorem k286_23 {P : s_P} {d : Nat} {Q : s_O → Prop} {h : s_H} {kc ks : Nat} {r0 : Term} {x1 x2 : Int} {t3 t4 : Term} {q2 : Nat} {f3 : List Term} (g4 : s_get h q2 = some (1, 9, f3)) (k : wm P d 274 [.index q2, vi (x1 + 1)] h (wq P d sw_c286 sw_h286 30 [.index q2, vi x1, vi x2, t3, t4] [] kc ks Q)) (e_q2 : r0 = .index q2 := by first | rfl | assumption) (y1 : s_ty r0 = 3 := by first | rfl | assumption)  : wr P d sw_c286 sw_h286 (23, [r0, vi x1, vi x2, t3, t4], [], h, kc, ks) Q := by
  refine w_ld rfl rfl (Or.inr (Or.inr ⟨by decide, y1⟩)) ?_
  refine w_ld rfl rfl (Or.inl ⟨by decide, rfl⟩) ?_
  refine w_c32 rfl (by decide) 1 (by decide) ?_
  refine w_iadd rfl ?_
  subst e_q2
  exact w_cv rfl [.index q2, vi (x1 + 1)] [] rfl rfl (s_wt_4 rfl) rfl g4 k

theorem k286_37 {P : s_P} {d : Nat} {Q : s_O → Prop} {h : s_H} {kc ks : Nat} {r0 : Term} {x1 x2 x3 : Int} {t4 : Term}  (k : wm P d 279 [vi 0, vi (Int.tmod (32003 - x3) 32003)] h (wq P d sw_c286 sw_h286 51 [r0, vi x1, vi x2, vi x3, t4] [r0] kc ks Q)) (y1 : s_ty r0 = 3 := by first | rfl | assumption) (c2 : In3 (32003 - x3) := by first | omega | assumption | (simp only [mk_len, List.length_map]; omega) | decide) : wr P d sw_c286 sw_h286 (37, [r0, vi x1, vi x2, vi x3, t4], [], h, kc, ks) Q := by
  refine w_ld rfl rfl (Or.inr (Or.inr ⟨by decide, y1⟩)) ?_
  refine w_c32 rfl (by decide) 0 (by decide) ?_
  refine w_c32 rfl (by decide) 32003 (by decide) ?_
  refine w_ld rfl rfl (Or.inl ⟨by decide, rfl⟩) ?_
  refine w_isub rfl ?_
  refine w_c32 rfl (by decide) 32003 (by decide) ?_
  refine w_irem rfl c2 (by decide) (by decide) ?_
  exact w_cs rfl [vi 0, vi (Int.tmod (32003 - x3) 32003)] [r0] rfl rfl (s_wt_4 rfl) k

theorem k286_51 {P : s_P} {d : Nat} {Q : s_O → Prop} {h : s_H} {kc ks : Nat} {r0 : Term} {x1 x2 x3 : Int} {t4 s0 : Term} {s1 : Int} {q1 : Nat} {f2 : List Term} (g3 : s_get h q1 = some (1, 9, f2)) (k : wm P d 298 [.index q1, vi s1] h (wq P d sw_c286 sw_h286 54 [r0, vi x1, vi x2, vi x3, t4] [] kc ks Q)) (e_q1 : s0 = .index q1 := by first | rfl | assumption)  : wr P d sw_c286 sw_h286 (51, [r0, vi x1, vi x2, vi x3, t4], [vi s1, s0], h, kc, ks) Q := by
  subst e_q1
  exact w_cv rfl [.index q1, vi s1] [] rfl rfl (s_wt_4 rfl) rfl g3 k

theorem k286_55 {P : s_P} {d : Nat} {Q : s_O → Prop} {h : s_H} {kc ks : Nat} {r0 : Term} {x1 x2 x3 : Int} {t4 : Term}  (k1 : x2 ≠ 7 → wr P d sw_c286 sw_h286 (79, [r0, vi x1, vi x2, vi x3, t4], [], h, kc, ks) Q) (k2 : ¬ x2 ≠ 7 → wr P d sw_c286 sw_h286 (61, [r0, vi x1, vi x2, vi x3, t4], [], h, kc, ks) Q)  (c1 : In3 x2 := by first | omega | assumption | (simp only [mk_len, List.length_map]; omega) | decide) : wr P d sw_c286 sw_h286 (55, [r0, vi x1, vi x2, vi x3, t4], [], h, kc, ks) Q := by
  refine w_ld rfl rfl (Or.inl ⟨by decide, rfl⟩) ?_
  refine w_c32 rfl (by decide) 7 (by decide) ?_
  exact w_if2 rfl c1 (by decide) k1 k2

theorem k286_61 {P : s_P} {d : Nat} {Q : s_O → Prop} {h : s_H} {kc ks : Nat} {r0 : Term} {x1 x2 x3 : Int} {t4 : Term} {q2 : Nat} {f3 : List Term} (g4 : s_get h q2 = some (1, 9, f3)) (k : wm P d 274 [.index q2, vi x1] h (wq P d sw_c286 sw_h286 69 [.index q2, vi x1, vi x2, vi x3, t4] [vi x3, vi 0, .index q2] kc ks Q)) (e_q2 : r0 = .index q2 := by first | rfl | assumption) (y1 : s_ty r0 = 3 := by first | rfl | assumption)  : wr P d sw_c286 sw_h286 (61, [r0, vi x1, vi x2, vi x3, t4], [], h, kc, ks) Q := by
  refine w_ld rfl rfl (Or.inr (Or.inr ⟨by decide, y1⟩)) ?_
  refine w_c32 rfl (by decide) 0 (by decide) ?_
  refine w_ld rfl rfl (Or.inl ⟨by decide, rfl⟩) ?_
  refine w_ld rfl rfl (Or.inr (Or.inr ⟨by decide, y1⟩)) ?_
  refine w_ld rfl rfl (Or.inl ⟨by decide, rfl⟩) ?_
  subst e_q2
  exact w_cv rfl [.index q2, vi x1] [vi x3, vi 0, .index q2] rfl rfl (s_wt_4 rfl) rfl g4 k

theorem k286_72 {P : s_P} {d : Nat} {Q : s_O → Prop} {h : s_H} {kc ks : Nat} {r0 : Term} {x1 x2 x3 : Int} {t4 s0 : Term} {s1 s2 : Int}  (k : wm P d 279 [vi s1, vi s2] h (wq P d sw_c286 sw_h286 75 [r0, vi x1, vi x2, vi x3, t4] [s0] kc ks Q))   : wr P d sw_c286 sw_h286 (72, [r0, vi x1, vi x2, vi x3, t4], [vi s2, vi s1, s0], h, kc, ks) Q := by
  exact w_cs rfl [vi s1, vi s2] [s0] rfl rfl (s_wt_4 rfl) k

theorem k286_75 {P : s_P} {d : Nat} {Q : s_O → Prop} {h : s_H} {kc ks : Nat} {r0 : Term} {x1 x2 x3 : Int} {t4 s0 : Term} {s1 : Int} {q1 : Nat} {f2 : List Term} (g3 : s_get h q1 = some (1, 9, f2)) (k : wm P d 298 [.index q1, vi s1] h (wq P d sw_c286 sw_h286 78 [r0, vi x1, vi x2, vi x3, t4] [] kc ks Q)) (e_q1 : s0 = .index q1 := by first | rfl | assumption)  : wr P d sw_c286 sw_h286 (75, [r0, vi x1, vi x2, vi x3, t4], [vi s1, s0], h, kc, ks) Q := by
  subst e_q1
  exact w_cv rfl [.index q1, vi s1] [] rfl rfl (s_wt_4 rfl) rfl g3 k

theorem k286_79 {P : s_P} {d : Nat} {Q : s_O → Prop} {h : s_H} {kc ks : Nat} {r0 : Term} {x1 x2 x3 : Int} {t4 : Term} {q2 : Nat} {f3 : List Term} (g4 : s_get h q2 = some (1, 9, f3)) (k : wm P d 307 [.index q2, vi x1] h (wq P d sw_c286 sw_h286 85 [.index q2, vi x1, vi x2, vi x3, t4] [.index q2] kc ks Q)) (e_q2 : r0 = .index q2 := by first | rfl | assumption) (y1 : s_ty r0 = 3 := by first | rfl | assumption)  : wr P d sw_c286 sw_h286 (79, [r0, vi x1, vi x2, vi x3, t4], [], h, kc, ks) Q := by
  refine w_ld rfl rfl (Or.inr (Or.inr ⟨by decide, y1⟩)) ?_
  refine w_ld rfl rfl (Or.inr (Or.inr ⟨by decide, y1⟩)) ?_
  refine w_ld rfl rfl (Or.inl ⟨by decide, rfl⟩) ?_
  subst e_q2
  exact w_cv rfl [.index q2, vi x1] [.index q2] rfl rfl (s_wt_4 rfl) rfl g4 k

theorem k286_91 {P : s_P} {d : Nat} {Q : s_O → Prop} {h : s_H} {kc ks : Nat} {r0 : Term} {x1 x2 x3 : Int} {t4 : Term}  (k : Q (.inl (some (vi 0)), h, kc, ks))   : wr P d sw_c286 sw_h286 (91, [r0, vi x1, vi x2, vi x3, t4], [], h, kc, ks) Q := by
  refine w_c32 rfl (by decide) 0 (by decide) ?_
  exact w_zret rfl (by decide) k

theorem k286_93 {P : s_P} {d : Nat} {Q : s_O → Prop} {h : s_H} {kc ks : Nat} {r0 : Term} {x1 x2 x3 : Int} {t4 : Term} {q2 : Nat} {f3 : List Term} (g4 : s_get h q2 = some (1, 9, f3)) (k : wm P d 307 [.index q2, vi x1] h (wq P d sw_c286 sw_h286 99 [.index q2, vi x1, vi x2, vi x3, t4] [.index q2] kc ks Q)) (e_q2 : r0 = .index q2 := by first | rfl | assumption) (y1 : s_ty r0 = 3 := by first | rfl | assumption)  : wr P d sw_c286 sw_h286 (93, [r0, vi x1, vi x2, vi x3, t4], [], h, kc, ks) Q := by
  refine w_ld rfl rfl (Or.inr (Or.inr ⟨by decide, y1⟩)) ?_
  refine w_ld rfl rfl (Or.inr (Or.inr ⟨by decide, y1⟩)) ?_
  refine w_ld rfl rfl (Or.inl ⟨by decide, rfl⟩) ?_
  subst e_q2
  exact w_cv rfl [.index q2, vi x1] [.index q2] rfl rfl (s_wt_4 rfl) rfl g4 k

theorem k286_109 {P : s_P} {d : Nat} {Q : s_O → Prop} {h : s_H} {kc ks : Nat} {r0 : Term} {x1 x2 x3 x4 : Int}  (k : wm P d 279 [vi 0, vi (Int.tmod (x3 + x4) 32003)] h (wq P d sw_c286 sw_h286 122 [r0, vi x1, vi x2, vi x3, vi x4] [r0] kc ks Q)) (y1 : s_ty r0 = 3 := by first | rfl | assumption) (c2 : In3 (x3 + x4) := by first | omega | assumption | (simp only [mk_len, List.length_map]; omega) | decide) : wr P d sw_c286 sw_h286 (109, [r0, vi x1, vi x2, vi x3, vi x4], [], h, kc, ks) Q := by
  refine w_ld rfl rfl (Or.inr (Or.inr ⟨by decide, y1⟩)) ?_
  refine w_c32 rfl (by decide) 0 (by decide) ?_
  refine w_ld rfl rfl (Or.inl ⟨by decide, rfl⟩) ?_
  refine w_ld rfl rfl (Or.inl ⟨by decide, rfl⟩) ?_
  refine w_iadd rfl ?_
  refine w_c32 rfl (by decide) 32003 (by decide) ?_
  refine w_irem rfl c2 (by decide) (by decide) ?_
  exact w_cs rfl [vi 0, vi (Int.tmod (x3 + x4) 32003)] [r0] rfl rfl (s_wt_4 rfl) k

theorem k286_122 {P : s_P} {d : Nat} {Q : s_O → Prop} {h : s_H} {kc ks : Nat} {r0 : Term} {x1 x2 x3 x4 : Int} {s0 : Term} {s1 : Int} {q1 : Nat} {f2 : List Term} (g3 : s_get h q1 = some (1, 9, f2)) (k : wm P d 298 [.index q1, vi s1] h (wq P d sw_c286 sw_h286 125 [r0, vi x1, vi x2, vi x3, vi x4] [] kc ks Q)) (e_q1 : s0 = .index q1 := by first | rfl | assumption)  : wr P d sw_c286 sw_h286 (122, [r0, vi x1, vi x2, vi x3, vi x4], [vi s1, s0], h, kc, ks) Q := by
  subst e_q1
  exact w_cv rfl [.index q1, vi s1] [] rfl rfl (s_wt_4 rfl) rfl g3 k

theorem k286_126 {P : s_P} {d : Nat} {Q : s_O → Prop} {h : s_H} {kc ks : Nat} {r0 : Term} {x1 x2 x3 x4 : Int}  (k1 : x2 ≠ 3 → wr P d sw_c286 sw_h286 (152, [r0, vi x1, vi x2, vi x3, vi x4], [], h, kc, ks) Q) (k2 : ¬ x2 ≠ 3 → wr P d sw_c286 sw_h286 (131, [r0, vi x1, vi x2, vi x3, vi x4], [], h, kc, ks) Q)  (c1 : In3 x2 := by first | omega | assumption | (simp only [mk_len, List.length_map]; omega) | decide) : wr P d sw_c286 sw_h286 (126, [r0, vi x1, vi x2, vi x3, vi x4], [], h, kc, ks) Q := by
  refine w_ld rfl rfl (Or.inl ⟨by decide, rfl⟩) ?_
  refine w_c32 rfl (by decide) 3 (by decide) ?_
  exact w_if2 rfl c1 (by decide) k1 k2

theorem k286_131 {P : s_P} {d : Nat} {Q : s_O → Prop} {h : s_H} {kc ks : Nat} {r0 : Term} {x1 x2 x3 x4 : Int}  (k : wm P d 279 [vi 0, vi (Int.tmod ((x3 + 32003) - x4) 32003)] h (wq P d sw_c286 sw_h286 148 [r0, vi x1, vi x2, vi x3, vi x4] [r0] kc ks Q)) (y1 : s_ty r0 = 3 := by first | rfl | assumption) (c2 : In3 ((x3 + 32003) - x4) := by first | omega | assumption | (simp only [mk_len, List.length_map]; omega) | decide) : wr P d sw_c286 sw_h286 (131, [r0, vi x1, vi x2, vi x3, vi x4], [], h, kc, ks) Q := by
  refine w_ld rfl rfl (Or.inr (Or.inr ⟨by decide, y1⟩)) ?_
  refine w_c32 rfl (by decide) 0 (by decide) ?_
  refine w_ld rfl rfl (Or.inl ⟨by decide, rfl⟩) ?_
  refine w_c32 rfl (by decide) 32003 (by decide) ?_
  refine w_iadd rfl ?_
  refine w_ld rfl rfl (Or.inl ⟨by decide, rfl⟩) ?_
  refine w_isub rfl ?_
  refine w_c32 rfl (by decide) 32003 (by decide) ?_
  refine w_irem rfl c2 (by decide) (by decide) ?_
  exact w_cs rfl [vi 0, vi (Int.tmod ((x3 + 32003) - x4) 32003)] [r0] rfl rfl (s_wt_4 rfl) k

theorem k286_148 {P : s_P} {d : Nat} {Q : s_O → Prop} {h : s_H} {kc ks : Nat} {r0 : Term} {x1 x2 x3 x4 : Int} {s0 : Term} {s1 : Int} {q1 : Nat} {f2 : List Term} (g3 : s_get h q1 = some (1, 9, f2)) (k : wm P d 298 [.index q1, vi s1] h (wq P d sw_c286 sw_h286 151 [r0, vi x1, vi x2, vi x3, vi x4] [] kc ks Q)) (e_q1 : s0 = .index q1 := by first | rfl | assumption)  : wr P d sw_c286 sw_h286 (148, [r0, vi x1, vi x2, vi x3, vi x4], [vi s1, s0], h, kc, ks) Q := by
  subst e_q1
  exact w_cv rfl [.index q1, vi s1] [] rfl rfl (s_wt_4 rfl) rfl g3 k

theorem k286_152 {P : s_P} {d : Nat} {Q : s_O → Prop} {h : s_H} {kc ks : Nat} {r0 : Term} {x1 x2 x3 x4 : Int}  (k1 : x2 ≠ 4 → wr P d sw_c286 sw_h286 (174, [r0, vi x1, vi x2, vi x3, vi x4], [], h, kc, ks) Q) (k2 : ¬ x2 ≠ 4 → wr P d sw_c286 sw_h286 (157, [r0, vi x1, vi x2, vi x3, vi x4], [], h, kc, ks) Q)  (c1 : In3 x2 := by first | omega | assumption | (simp only [mk_len, List.length_map]; omega) | decide) : wr P d sw_c286 sw_h286 (152, [r0, vi x1, vi x2, vi x3, vi x4], [], h, kc, ks) Q := by
  refine w_ld rfl rfl (Or.inl ⟨by decide, rfl⟩) ?_
  refine w_c32 rfl (by decide) 4 (by decide) ?_
  exact w_if2 rfl c1 (by decide) k1 k2

theorem k286_157 {P : s_P} {d : Nat} {Q : s_O → Prop} {h : s_H} {kc ks : Nat} {r0 : Term} {x1 x2 x3 x4 : Int}  (k : wm P d 279 [vi 0, vi (Int.tmod (x3 * x4) 32003)] h (wq P d sw_c286 sw_h286 170 [r0, vi x1, vi x2, vi x3, vi x4] [r0] kc ks Q)) (y1 : s_ty r0 = 3 := by first | rfl | assumption) (c2 : In3 (x3 * x4) := by first | omega | assumption | (simp only [mk_len, List.length_map]; omega) | decide) : wr P d sw_c286 sw_h286 (157, [r0, vi x1, vi x2, vi x3, vi x4], [], h, kc, ks) Q := by
  refine w_ld rfl rfl (Or.inr (Or.inr ⟨by decide, y1⟩)) ?_
  refine w_c32 rfl (by decide) 0 (by decide) ?_
  refine w_ld rfl rfl (Or.inl ⟨by decide, rfl⟩) ?_
  refine w_ld rfl rfl (Or.inl ⟨by decide, rfl⟩) ?_
  refine w_imul rfl ?_
  refine w_c32 rfl (by decide) 32003 (by decide) ?_
  refine w_irem rfl c2 (by decide) (by decide) ?_
  exact w_cs rfl [vi 0, vi (Int.tmod (x3 * x4) 32003)] [r0] rfl rfl (s_wt_4 rfl) k

theorem k286_170 {P : s_P} {d : Nat} {Q : s_O → Prop} {h : s_H} {kc ks : Nat} {r0 : Term} {x1 x2 x3 x4 : Int} {s0 : Term} {s1 : Int} {q1 : Nat} {f2 : List Term} (g3 : s_get h q1 = some (1, 9, f2)) (k : wm P d 298 [.index q1, vi s1] h (wq P d sw_c286 sw_h286 173 [r0, vi x1, vi x2, vi x3, vi x4] [] kc ks Q)) (e_q1 : s0 = .index q1 := by first | rfl | assumption)  : wr P d sw_c286 sw_h286 (170, [r0, vi x1, vi x2, vi x3, vi x4], [vi s1, s0], h, kc, ks) Q := by
  subst e_q1
  exact w_cv rfl [.index q1, vi s1] [] rfl rfl (s_wt_4 rfl) rfl g3 k

theorem k286_174 {P : s_P} {d : Nat} {Q : s_O → Prop} {h : s_H} {kc ks : Nat} {r0 : Term} {x1 x2 x3 x4 : Int}  (k1 : x4 = 0 → wr P d sw_c286 sw_h286 (205, [r0, vi x1, vi x2, vi x3, vi x4], [], h, kc, ks) Q) (k2 : ¬ x4 = 0 → wr P d sw_c286 sw_h286 (179, [r0, vi x1, vi x2, vi x3, vi x4], [], h, kc, ks) Q)  (c1 : In3 x4 := by first | omega | assumption | (simp only [mk_len, List.length_map]; omega) | decide) : wr P d sw_c286 sw_h286 (174, [r0, vi x1, vi x2, vi x3, vi x4], [], h, kc, ks) Q := by
  refine w_ld rfl rfl (Or.inl ⟨by decide, rfl⟩) ?_
  exact w_if1 rfl c1 k1 k2

theorem k286_179 {P : s_P} {d : Nat} {Q : s_O → Prop} {h : s_H} {kc ks : Nat} {r0 : Term} {x1 x2 x3 x4 : Int}  (k : wm P d 168 [vi x4] h (wq P d sw_c286 sw_h286 187 [r0, vi x1, vi x2, vi x3, vi x4] [vi x3, vi 0, r0] kc ks Q)) (y1 : s_ty r0 = 3 := by first | rfl | assumption)  : wr P d sw_c286 sw_h286 (179, [r0, vi x1, vi x2, vi x3, vi x4], [], h, kc, ks) Q := by
  refine w_ld rfl rfl (Or.inr (Or.inr ⟨by decide, y1⟩)) ?_
  refine w_c32 rfl (by decide) 0 (by decide) ?_
  refine w_ld rfl rfl (Or.inl ⟨by decide, rfl⟩) ?_
  refine w_ld rfl rfl (Or.inl ⟨by decide, rfl⟩) ?_
  exact w_cs rfl [vi x4] [vi x3, vi 0, r0] rfl rfl (s_wt_4 rfl) k

theorem k286_187 {P : s_P} {d : Nat} {Q : s_O → Prop} {h : s_H} {kc ks : Nat} {r0 : Term} {x1 x2 x3 x4 : Int} {s0 : Term} {s1 s2 s3 : Int}  (k : wm P d 279 [vi s1, vi (Int.tmod (s2 * s3) 32003)] h (wq P d sw_c286 sw_h286 195 [r0, vi x1, vi x2, vi x3, vi x4] [s0] kc ks Q))  (c1 : In3 (s2 * s3) := by first | omega | assumption | (simp only [mk_len, List.length_map]; omega) | decide) : wr P d sw_c286 sw_h286 (187, [r0, vi x1, vi x2, vi x3, vi x4], [vi s3, vi s2, vi s1, s0], h, kc, ks) Q := by
  refine w_imul rfl ?_
  refine w_c32 rfl (by decide) 32003 (by decide) ?_
  refine w_irem rfl c1 (by decide) (by decide) ?_
  exact w_cs rfl [vi s1, vi (Int.tmod (s2 * s3) 32003)] [s0] rfl rfl (s_wt_4 rfl) k

theorem k286_195 {P : s_P} {d : Nat} {Q : s_O → Prop} {h : s_H} {kc ks : Nat} {r0 : Term} {x1 x2 x3 x4 : Int} {s0 : Term} {s1 : Int} {q1 : Nat} {f2 : List Term} (g3 : s_get h q1 = some (1, 9, f2)) (k : wm P d 298 [.index q1, vi s1] h (wq P d sw_c286 sw_h286 198 [r0, vi x1, vi x2, vi x3, vi x4] [] kc ks Q)) (e_q1 : s0 = .index q1 := by first | rfl | assumption)  : wr P d sw_c286 sw_h286 (195, [r0, vi x1, vi x2, vi x3, vi x4], [vi s1, s0], h, kc, ks) Q := by
  subst e_q1
  exact w_cv rfl [.index q1, vi s1] [] rfl rfl (s_wt_4 rfl) rfl g3 k

theorem k286_201 {P : s_P} {d : Nat} {Q : s_O → Prop} {h : s_H} {kc ks : Nat} {r0 : Term} {x1 x2 x3 x4 : Int}  (k : wr P d sw_c286 sw_h286 (206, [r0, vi x1, vi x2, vi x3, vi x4], [vi 1], h, kc, ks) Q)   : wr P d sw_c286 sw_h286 (201, [r0, vi x1, vi x2, vi x3, vi x4], [], h, kc, ks) Q := by
  refine w_c32 rfl (by decide) 1 (by decide) ?_
  refine w_goto rfl ?_
  exact k

theorem k286_205 {P : s_P} {d : Nat} {Q : s_O → Prop} {h : s_H} {kc ks : Nat} {r0 : Term} {x1 x2 x3 x4 : Int}  (k : wr P d sw_c286 sw_h286 (206, [r0, vi x1, vi x2, vi x3, vi x4], [vi 0], h, kc, ks) Q)   : wr P d sw_c286 sw_h286 (205, [r0, vi x1, vi x2, vi x3, vi x4], [], h, kc, ks) Q := by
  refine w_c32 rfl (by decide) 0 (by decide) ?_
  exact k

theorem k286_206 {P : s_P} {d : Nat} {Q : s_O → Prop} {h : s_H} {kc ks : Nat} {r0 : Term} {x1 x2 x3 x4 s0 : Int}  (k : Q (.inl (some (vi s0)), h, kc, ks))  (c1 : s0 = 0 ∨ s0 = 1 := by first | omega | assumption | (simp only [mk_len, List.length_map]; omega) | decide) : wr P d sw_c286 sw_h286 (206, [r0, vi x1, vi x2, vi x3, vi x4], [vi s0], h, kc, ks) Q := by
  exact w_zret rfl c1 k

/-! 287: FormulaWorks$Trees.fitsQuotients(I)Z -/
theorem k287_0 {P : s_P} {d : Nat} {Q : s_O → Prop} {h : s_H} {kc ks : Nat} {r0 : Term} {x1 : Int} {t2 : Term} {q2 : Nat} {f3 : List Term} (g4 : s_get h q2 = some (1, 9, f3)) (k : wm P d 318 [.index q2, vi x1] h (wq P d sw_c287 sw_h287 5 [.index q2, vi x1, t2] [] kc ks Q)) (e_q2 : r0 = .index q2 := by first | rfl | assumption) (y1 : s_ty r0 = 3 := by first | rfl | assumption)  : wr P d sw_c287 sw_h287 (0, [r0, vi x1, t2], [], h, kc, ks) Q := by
  refine w_ld rfl rfl (Or.inr (Or.inr ⟨by decide, y1⟩)) ?_
  refine w_ld rfl rfl (Or.inl ⟨by decide, rfl⟩) ?_
  subst e_q2
  exact w_cv rfl [.index q2, vi x1] [] rfl rfl (s_wt_4 rfl) rfl g4 k

theorem k287_11 {P : s_P} {d : Nat} {Q : s_O → Prop} {h : s_H} {kc ks : Nat} {r0 : Term} {x1 x2 : Int}  (k1 : x2 ≠ 5 → wr P d sw_c287 sw_h287 (27, [r0, vi x1, vi x2], [], h, kc, ks) Q) (k2 : ¬ x2 ≠ 5 → wr P d sw_c287 sw_h287 (16, [r0, vi x1, vi x2], [], h, kc, ks) Q)  (c1 : In3 x2 := by first | omega | assumption | (simp only [mk_len, List.length_map]; omega) | decide) : wr P d sw_c287 sw_h287 (11, [r0, vi x1, vi x2], [], h, kc, ks) Q := by
  refine w_ld rfl rfl (Or.inl ⟨by decide, rfl⟩) ?_
  refine w_c32 rfl (by decide) 5 (by decide) ?_
  exact w_if2 rfl c1 (by decide) k1 k2

theorem k287_16 {P : s_P} {d : Nat} {Q : s_O → Prop} {h : s_H} {kc ks : Nat} {r0 : Term} {x1 x2 : Int} {q2 : Nat} {f3 : List Term} (g4 : s_get h q2 = some (1, 9, f3)) (k : wm P d 318 [.index q2, vi (x1 + 1)] h (wq P d sw_c287 sw_h287 23 [.index q2, vi x1, vi x2] [] kc ks Q)) (e_q2 : r0 = .index q2 := by first | rfl | assumption) (y1 : s_ty r0 = 3 := by first | rfl | assumption)  : wr P d sw_c287 sw_h287 (16, [r0, vi x1, vi x2], [], h, kc, ks) Q := by
  refine w_ld rfl rfl (Or.inr (Or.inr ⟨by decide, y1⟩)) ?_
  refine w_ld rfl rfl (Or.inl ⟨by decide, rfl⟩) ?_
  refine w_c32 rfl (by decide) 1 (by decide) ?_
  refine w_iadd rfl ?_
  subst e_q2
  exact w_cv rfl [.index q2, vi (x1 + 1)] [] rfl rfl (s_wt_4 rfl) rfl g4 k

theorem k287_27 {P : s_P} {d : Nat} {Q : s_O → Prop} {h : s_H} {kc ks : Nat} {r0 : Term} {x1 x2 : Int}  (k : Q (.inl (some (vi 0)), h, kc, ks))   : wr P d sw_c287 sw_h287 (27, [r0, vi x1, vi x2], [], h, kc, ks) Q := by
  refine w_c32 rfl (by decide) 0 (by decide) ?_
  exact w_zret rfl (by decide) k

theorem k287_29 {P : s_P} {d : Nat} {Q : s_O → Prop} {h : s_H} {kc ks : Nat} {r0 : Term} {x1 x2 : Int} {q2 : Nat} {f3 : List Term} (g4 : s_get h q2 = some (1, 9, f3)) (k : wm P d 298 [.index q2, vi 5] h (wq P d sw_c287 sw_h287 34 [.index q2, vi x1, vi x2] [] kc ks Q)) (e_q2 : r0 = .index q2 := by first | rfl | assumption) (y1 : s_ty r0 = 3 := by first | rfl | assumption)  : wr P d sw_c287 sw_h287 (29, [r0, vi x1, vi x2], [], h, kc, ks) Q := by
  refine w_ld rfl rfl (Or.inr (Or.inr ⟨by decide, y1⟩)) ?_
  refine w_c32 rfl (by decide) 5 (by decide) ?_
  subst e_q2
  exact w_cv rfl [.index q2, vi 5] [] rfl rfl (s_wt_4 rfl) rfl g4 k

theorem k287_40 {P : s_P} {d : Nat} {Q : s_O → Prop} {h : s_H} {kc ks : Nat} {r0 : Term} {x1 x2 : Int} {q2 : Nat} {f3 : List Term} (g4 : s_get h q2 = some (1, 9, f3)) (k : wm P d 307 [.index q2, vi x1] h (wq P d sw_c287 sw_h287 50 [.index q2, vi x1, vi x2] [vi (x1 + 2), vi 4, .index q2] kc ks Q)) (e_q2 : r0 = .index q2 := by first | rfl | assumption) (y1 : s_ty r0 = 3 := by first | rfl | assumption)  : wr P d sw_c287 sw_h287 (40, [r0, vi x1, vi x2], [], h, kc, ks) Q := by
  refine w_ld rfl rfl (Or.inr (Or.inr ⟨by decide, y1⟩)) ?_
  refine w_c32 rfl (by decide) 4 (by decide) ?_
  refine w_ld rfl rfl (Or.inl ⟨by decide, rfl⟩) ?_
  refine w_c32 rfl (by decide) 2 (by decide) ?_
  refine w_iadd rfl ?_
  refine w_ld rfl rfl (Or.inr (Or.inr ⟨by decide, y1⟩)) ?_
  refine w_ld rfl rfl (Or.inl ⟨by decide, rfl⟩) ?_
  subst e_q2
  exact w_cv rfl [.index q2, vi x1] [vi (x1 + 2), vi 4, .index q2] rfl rfl (s_wt_4 rfl) rfl g4 k

theorem k287_66 {P : s_P} {d : Nat} {Q : s_O → Prop} {h : s_H} {kc ks : Nat} {r0 : Term} {x1 x2 : Int} {q2 : Nat} {f3 : List Term} (g4 : s_get h q2 = some (1, 9, f3)) (k : wm P d 301 [.index q2, vi (x1 + 2)] h (wq P d sw_c287 sw_h287 73 [.index q2, vi x1, vi x2] [] kc ks Q)) (e_q2 : r0 = .index q2 := by first | rfl | assumption) (y1 : s_ty r0 = 3 := by first | rfl | assumption)  : wr P d sw_c287 sw_h287 (66, [r0, vi x1, vi x2], [], h, kc, ks) Q := by
  refine w_ld rfl rfl (Or.inr (Or.inr ⟨by decide, y1⟩)) ?_
  refine w_ld rfl rfl (Or.inl ⟨by decide, rfl⟩) ?_
  refine w_c32 rfl (by decide) 2 (by decide) ?_
  refine w_iadd rfl ?_
  subst e_q2
  exact w_cv rfl [.index q2, vi (x1 + 2)] [] rfl rfl (s_wt_4 rfl) rfl g4 k

/-! 288: FormulaWorks$Trees.fitsRightward(I)Z -/
theorem k288_0 {P : s_P} {d : Nat} {Q : s_O → Prop} {h : s_H} {kc ks : Nat} {r0 : Term} {x1 : Int} {t2 : Term} {q2 : Nat} {f3 : List Term} (g4 : s_get h q2 = some (1, 9, f3)) (k : wm P d 318 [.index q2, vi x1] h (wq P d sw_c288 sw_h288 5 [.index q2, vi x1, t2] [] kc ks Q)) (e_q2 : r0 = .index q2 := by first | rfl | assumption) (y1 : s_ty r0 = 3 := by first | rfl | assumption)  : wr P d sw_c288 sw_h288 (0, [r0, vi x1, t2], [], h, kc, ks) Q := by
  refine w_ld rfl rfl (Or.inr (Or.inr ⟨by decide, y1⟩)) ?_
  refine w_ld rfl rfl (Or.inl ⟨by decide, rfl⟩) ?_
  subst e_q2
  exact w_cv rfl [.index q2, vi x1] [] rfl rfl (s_wt_4 rfl) rfl g4 k

theorem k288_11 {P : s_P} {d : Nat} {Q : s_O → Prop} {h : s_H} {kc ks : Nat} {r0 : Term} {x1 x2 : Int}  (k1 : x2 ≠ 4 → wr P d sw_c288 sw_h288 (27, [r0, vi x1, vi x2], [], h, kc, ks) Q) (k2 : ¬ x2 ≠ 4 → wr P d sw_c288 sw_h288 (16, [r0, vi x1, vi x2], [], h, kc, ks) Q)  (c1 : In3 x2 := by first | omega | assumption | (simp only [mk_len, List.length_map]; omega) | decide) : wr P d sw_c288 sw_h288 (11, [r0, vi x1, vi x2], [], h, kc, ks) Q := by
  refine w_ld rfl rfl (Or.inl ⟨by decide, rfl⟩) ?_
  refine w_c32 rfl (by decide) 4 (by decide) ?_
  exact w_if2 rfl c1 (by decide) k1 k2

theorem k288_16 {P : s_P} {d : Nat} {Q : s_O → Prop} {h : s_H} {kc ks : Nat} {r0 : Term} {x1 x2 : Int} {q2 : Nat} {f3 : List Term} (g4 : s_get h q2 = some (1, 9, f3)) (k : wm P d 318 [.index q2, vi (x1 + 1)] h (wq P d sw_c288 sw_h288 23 [.index q2, vi x1, vi x2] [] kc ks Q)) (e_q2 : r0 = .index q2 := by first | rfl | assumption) (y1 : s_ty r0 = 3 := by first | rfl | assumption)  : wr P d sw_c288 sw_h288 (16, [r0, vi x1, vi x2], [], h, kc, ks) Q := by
  refine w_ld rfl rfl (Or.inr (Or.inr ⟨by decide, y1⟩)) ?_
  refine w_ld rfl rfl (Or.inl ⟨by decide, rfl⟩) ?_
  refine w_c32 rfl (by decide) 1 (by decide) ?_
  refine w_iadd rfl ?_
  subst e_q2
  exact w_cv rfl [.index q2, vi (x1 + 1)] [] rfl rfl (s_wt_4 rfl) rfl g4 k

theorem k288_27 {P : s_P} {d : Nat} {Q : s_O → Prop} {h : s_H} {kc ks : Nat} {r0 : Term} {x1 x2 : Int}  (k : Q (.inl (some (vi 0)), h, kc, ks))   : wr P d sw_c288 sw_h288 (27, [r0, vi x1, vi x2], [], h, kc, ks) Q := by
  refine w_c32 rfl (by decide) 0 (by decide) ?_
  exact w_zret rfl (by decide) k

theorem k288_29 {P : s_P} {d : Nat} {Q : s_O → Prop} {h : s_H} {kc ks : Nat} {r0 : Term} {x1 x2 : Int} {q2 : Nat} {f3 : List Term} (g4 : s_get h q2 = some (1, 9, f3)) (k : wm P d 298 [.index q2, vi x2] h (wq P d sw_c288 sw_h288 34 [.index q2, vi x1, vi x2] [] kc ks Q)) (e_q2 : r0 = .index q2 := by first | rfl | assumption) (y1 : s_ty r0 = 3 := by first | rfl | assumption)  : wr P d sw_c288 sw_h288 (29, [r0, vi x1, vi x2], [], h, kc, ks) Q := by
  refine w_ld rfl rfl (Or.inr (Or.inr ⟨by decide, y1⟩)) ?_
  refine w_ld rfl rfl (Or.inl ⟨by decide, rfl⟩) ?_
  subst e_q2
  exact w_cv rfl [.index q2, vi x2] [] rfl rfl (s_wt_4 rfl) rfl g4 k

/-! 289: FormulaWorks$Trees.fitsSpreading(I)Z -/
theorem k289_0 {P : s_P} {d : Nat} {Q : s_O → Prop} {h : s_H} {kc ks : Nat} {r0 : Term} {x1 : Int} {t2 t3 : Term} {q2 : Nat} {f3 : List Term} (g4 : s_get h q2 = some (1, 9, f3)) (k : wm P d 307 [.index q2, vi x1] h (wq P d sw_c289 sw_h289 5 [.index q2, vi x1, t2, t3] [] kc ks Q)) (e_q2 : r0 = .index q2 := by first | rfl | assumption) (y1 : s_ty r0 = 3 := by first | rfl | assumption)  : wr P d sw_c289 sw_h289 (0, [r0, vi x1, t2, t3], [], h, kc, ks) Q := by
  refine w_ld rfl rfl (Or.inr (Or.inr ⟨by decide, y1⟩)) ?_
  refine w_ld rfl rfl (Or.inl ⟨by decide, rfl⟩) ?_
  subst e_q2
  exact w_cv rfl [.index q2, vi x1] [] rfl rfl (s_wt_4 rfl) rfl g4 k

theorem k289_21 {P : s_P} {d : Nat} {Q : s_O → Prop} {h : s_H} {kc ks : Nat} {r0 : Term} {x1 x2 x3 : Int}  (k1 : x3 = 2 → wr P d sw_c289 sw_h289 (33, [r0, vi x1, vi x2, vi x3], [], h, kc, ks) Q) (k2 : ¬ x3 = 2 → wr P d sw_c289 sw_h289 (26, [r0, vi x1, vi x2, vi x3], [], h, kc, ks) Q)  (c1 : In3 x3 := by first | omega | assumption | (simp only [mk_len, List.length_map]; omega) | decide) : wr P d sw_c289 sw_h289 (21, [r0, vi x1, vi x2, vi x3], [], h, kc, ks) Q := by
  refine w_ld rfl rfl (Or.inl ⟨by decide, rfl⟩) ?_
  refine w_c32 rfl (by decide) 2 (by decide) ?_
  exact w_if2 rfl c1 (by decide) k1 k2

theorem k289_26 {P : s_P} {d : Nat} {Q : s_O → Prop} {h : s_H} {kc ks : Nat} {r0 : Term} {x1 x2 x3 : Int}  (k1 : x3 = 3 → wr P d sw_c289 sw_h289 (33, [r0, vi x1, vi x2, vi x3], [], h, kc, ks) Q) (k2 : ¬ x3 = 3 → wr P d sw_c289 sw_h289 (31, [r0, vi x1, vi x2, vi x3], [], h, kc, ks) Q)  (c1 : In3 x3 := by first | omega | assumption | (simp only [mk_len, List.length_map]; omega) | decide) : wr P d sw_c289 sw_h289 (26, [r0, vi x1, vi x2, vi x3], [], h, kc, ks) Q := by
  refine w_ld rfl rfl (Or.inl ⟨by decide, rfl⟩) ?_
  refine w_c32 rfl (by decide) 3 (by decide) ?_
  exact w_if2 rfl c1 (by decide) k1 k2

theorem k289_31 {P : s_P} {d : Nat} {Q : s_O → Prop} {h : s_H} {kc ks : Nat} {r0 : Term} {x1 x2 x3 : Int}  (k : Q (.inl (some (vi 0)), h, kc, ks))   : wr P d sw_c289 sw_h289 (31, [r0, vi x1, vi x2, vi x3], [], h, kc, ks) Q := by
  refine w_c32 rfl (by decide) 0 (by decide) ?_
  exact w_zret rfl (by decide) k

theorem k289_33 {P : s_P} {d : Nat} {Q : s_O → Prop} {h : s_H} {kc ks : Nat} {r0 : Term} {x1 x2 x3 : Int} {q2 : Nat} {f3 : List Term} (g4 : s_get h q2 = some (1, 9, f3)) (k : wm P d 298 [.index q2, vi x3] h (wq P d sw_c289 sw_h289 38 [.index q2, vi x1, vi x2, vi x3] [] kc ks Q)) (e_q2 : r0 = .index q2 := by first | rfl | assumption) (y1 : s_ty r0 = 3 := by first | rfl | assumption)  : wr P d sw_c289 sw_h289 (33, [r0, vi x1, vi x2, vi x3], [], h, kc, ks) Q := by
  refine w_ld rfl rfl (Or.inr (Or.inr ⟨by decide, y1⟩)) ?_
  refine w_ld rfl rfl (Or.inl ⟨by decide, rfl⟩) ?_
  subst e_q2
  exact w_cv rfl [.index q2, vi x3] [] rfl rfl (s_wt_4 rfl) rfl g4 k

/-! 290: FormulaWorks$Trees.fitsTakingLess(I)Z -/
theorem k290_0 {P : s_P} {d : Nat} {Q : s_O → Prop} {h : s_H} {kc ks : Nat} {r0 : Term} {x1 : Int} {t2 : Term} {q2 : Nat} {f3 : List Term} (g4 : s_get h q2 = some (1, 9, f3)) (k : wm P d 307 [.index q2, vi x1] h (wq P d sw_c290 sw_h290 5 [.index q2, vi x1, t2] [] kc ks Q)) (e_q2 : r0 = .index q2 := by first | rfl | assumption) (y1 : s_ty r0 = 3 := by first | rfl | assumption)  : wr P d sw_c290 sw_h290 (0, [r0, vi x1, t2], [], h, kc, ks) Q := by
  refine w_ld rfl rfl (Or.inr (Or.inr ⟨by decide, y1⟩)) ?_
  refine w_ld rfl rfl (Or.inl ⟨by decide, rfl⟩) ?_
  subst e_q2
  exact w_cv rfl [.index q2, vi x1] [] rfl rfl (s_wt_4 rfl) rfl g4 k

theorem k290_15 {P : s_P} {d : Nat} {Q : s_O → Prop} {h : s_H} {kc ks : Nat} {r0 : Term} {x1 x2 : Int} {q2 : Nat} {f3 : List Term} (g4 : s_get h q2 = some (1, 9, f3)) (k : wm P d 318 [.index q2, vi x2] h (wq P d sw_c290 sw_h290 20 [.index q2, vi x1, vi x2] [] kc ks Q)) (e_q2 : r0 = .index q2 := by first | rfl | assumption) (y1 : s_ty r0 = 3 := by first | rfl | assumption)  : wr P d sw_c290 sw_h290 (15, [r0, vi x1, vi x2], [], h, kc, ks) Q := by
  refine w_ld rfl rfl (Or.inr (Or.inr ⟨by decide, y1⟩)) ?_
  refine w_ld rfl rfl (Or.inl ⟨by decide, rfl⟩) ?_
  subst e_q2
  exact w_cv rfl [.index q2, vi x2] [] rfl rfl (s_wt_4 rfl) rfl g4 k

theorem k290_25 {P : s_P} {d : Nat} {Q : s_O → Prop} {h : s_H} {kc ks : Nat} {r0 : Term} {x1 x2 : Int} {q2 : Nat} {f3 : List Term} (g4 : s_get h q2 = some (1, 9, f3)) (k : wm P d 281 [.index q2, vi x1] h (wq P d sw_c290 sw_h290 32 [.index q2, vi x1, vi x2] [vi 3, .index q2] kc ks Q)) (e_q2 : r0 = .index q2 := by first | rfl | assumption) (y1 : s_ty r0 = 3 := by first | rfl | assumption)  : wr P d sw_c290 sw_h290 (25, [r0, vi x1, vi x2], [], h, kc, ks) Q := by
  refine w_ld rfl rfl (Or.inr (Or.inr ⟨by decide, y1⟩)) ?_
  refine w_c32 rfl (by decide) 3 (by decide) ?_
  refine w_ld rfl rfl (Or.inr (Or.inr ⟨by decide, y1⟩)) ?_
  refine w_ld rfl rfl (Or.inl ⟨by decide, rfl⟩) ?_
  subst e_q2
  exact w_cv rfl [.index q2, vi x1] [vi 3, .index q2] rfl rfl (s_wt_4 rfl) rfl g4 k

theorem k290_41 {P : s_P} {d : Nat} {Q : s_O → Prop} {h : s_H} {kc ks : Nat} {r0 : Term} {x1 x2 : Int}  (k : wr P d sw_c290 sw_h290 (46, [r0, vi x1, vi x2], [vi 1], h, kc, ks) Q)   : wr P d sw_c290 sw_h290 (41, [r0, vi x1, vi x2], [], h, kc, ks) Q := by
  refine w_c32 rfl (by decide) 1 (by decide) ?_
  refine w_goto rfl ?_
  exact k

theorem k290_45 {P : s_P} {d : Nat} {Q : s_O → Prop} {h : s_H} {kc ks : Nat} {r0 : Term} {x1 x2 : Int}  (k : wr P d sw_c290 sw_h290 (46, [r0, vi x1, vi x2], [vi 0], h, kc, ks) Q)   : wr P d sw_c290 sw_h290 (45, [r0, vi x1, vi x2], [], h, kc, ks) Q := by
  refine w_c32 rfl (by decide) 0 (by decide) ?_
  exact k

theorem k290_46 {P : s_P} {d : Nat} {Q : s_O → Prop} {h : s_H} {kc ks : Nat} {r0 : Term} {x1 x2 s0 : Int}  (k : Q (.inl (some (vi s0)), h, kc, ks))  (c1 : s0 = 0 ∨ s0 = 1 := by first | omega | assumption | (simp only [mk_len, List.length_map]; omega) | decide) : wr P d sw_c290 sw_h290 (46, [r0, vi x1, vi x2], [vi s0], h, kc, ks) Q := by
  exact w_zret rfl c1 k

/-! 291: FormulaWorks$Trees.fitsTurning(I)Z -/
theorem k291_0 {P : s_P} {d : Nat} {Q : s_O → Prop} {h : s_H} {kc ks : Nat} {r0 : Term} {x1 : Int} {q2 : Nat} {f3 : List Term} (g4 : s_get h q2 = some (1, 9, f3)) (k : wm P d 318 [.index q2, vi x1] h (wq P d sw_c291 sw_h291 5 [.index q2, vi x1] [] kc ks Q)) (e_q2 : r0 = .index q2 := by first | rfl | assumption) (y1 : s_ty r0 = 3 := by first | rfl | assumption)  : wr P d sw_c291 sw_h291 (0, [r0, vi x1], [], h, kc, ks) Q := by
  refine w_ld rfl rfl (Or.inr (Or.inr ⟨by decide, y1⟩)) ?_
  refine w_ld rfl rfl (Or.inl ⟨by decide, rfl⟩) ?_
  subst e_q2
  exact w_cv rfl [.index q2, vi x1] [] rfl rfl (s_wt_4 rfl) rfl g4 k

theorem k291_9 {P : s_P} {d : Nat} {Q : s_O → Prop} {h : s_H} {kc ks : Nat} {r0 : Term} {x1 : Int} {q2 : Nat} {f3 : List Term} (g4 : s_get h q2 = some (1, 9, f3)) (k : wm P d 318 [.index q2, vi x1] h (wq P d sw_c291 sw_h291 14 [.index q2, vi x1] [] kc ks Q)) (e_q2 : r0 = .index q2 := by first | rfl | assumption) (y1 : s_ty r0 = 3 := by first | rfl | assumption)  : wr P d sw_c291 sw_h291 (9, [r0, vi x1], [], h, kc, ks) Q := by
  refine w_ld rfl rfl (Or.inr (Or.inr ⟨by decide, y1⟩)) ?_
  refine w_ld rfl rfl (Or.inl ⟨by decide, rfl⟩) ?_
  subst e_q2
  exact w_cv rfl [.index q2, vi x1] [] rfl rfl (s_wt_4 rfl) rfl g4 k

theorem k291_18 {P : s_P} {d : Nat} {Q : s_O → Prop} {h : s_H} {kc ks : Nat} {r0 : Term} {x1 : Int} {q2 : Nat} {f3 : List Term} (g4 : s_get h q2 = some (1, 9, f3)) (k : wm P d 318 [.index q2, vi x1] h (wq P d sw_c291 sw_h291 24 [.index q2, vi x1] [.index q2] kc ks Q)) (e_q2 : r0 = .index q2 := by first | rfl | assumption) (y1 : s_ty r0 = 3 := by first | rfl | assumption)  : wr P d sw_c291 sw_h291 (18, [r0, vi x1], [], h, kc, ks) Q := by
  refine w_ld rfl rfl (Or.inr (Or.inr ⟨by decide, y1⟩)) ?_
  refine w_ld rfl rfl (Or.inr (Or.inr ⟨by decide, y1⟩)) ?_
  refine w_ld rfl rfl (Or.inl ⟨by decide, rfl⟩) ?_
  subst e_q2
  exact w_cv rfl [.index q2, vi x1] [.index q2] rfl rfl (s_wt_4 rfl) rfl g4 k

theorem k291_40 {P : s_P} {d : Nat} {Q : s_O → Prop} {h : s_H} {kc ks : Nat} {r0 : Term} {x1 : Int}  (k : wr P d sw_c291 sw_h291 (45, [r0, vi x1], [vi 1], h, kc, ks) Q)   : wr P d sw_c291 sw_h291 (40, [r0, vi x1], [], h, kc, ks) Q := by
  refine w_c32 rfl (by decide) 1 (by decide) ?_
  refine w_goto rfl ?_
  exact k

theorem k291_44 {P : s_P} {d : Nat} {Q : s_O → Prop} {h : s_H} {kc ks : Nat} {r0 : Term} {x1 : Int}  (k : wr P d sw_c291 sw_h291 (45, [r0, vi x1], [vi 0], h, kc, ks) Q)   : wr P d sw_c291 sw_h291 (44, [r0, vi x1], [], h, kc, ks) Q := by
  refine w_c32 rfl (by decide) 0 (by decide) ?_
  exact k

theorem k291_45 {P : s_P} {d : Nat} {Q : s_O → Prop} {h : s_H} {kc ks : Nat} {r0 : Term} {x1 s0 : Int}  (k : Q (.inl (some (vi s0)), h, kc, ks))  (c1 : s0 = 0 ∨ s0 = 1 := by first | omega | assumption | (simp only [mk_len, List.length_map]; omega) | decide) : wr P d sw_c291 sw_h291 (45, [r0, vi x1], [vi s0], h, kc, ks) Q := by
  exact w_zret rfl c1 k

/-! 292: FormulaWorks$Trees.fitsUnrolling(I)Z -/
theorem k292_0 {P : s_P} {d : Nat} {Q : s_O → Prop} {h : s_H} {kc ks : Nat} {r0 : Term} {x1 : Int} {t2 : Term} {q2 : Nat} {f3 : List Term} (g4 : s_get h q2 = some (1, 9, f3)) (k : wm P d 274 [.index q2, vi x1] h (wq P d sw_c292 sw_h292 5 [.index q2, vi x1, t2] [] kc ks Q)) (e_q2 : r0 = .index q2 := by first | rfl | assumption) (y1 : s_ty r0 = 3 := by first | rfl | assumption)  : wr P d sw_c292 sw_h292 (0, [r0, vi x1, t2], [], h, kc, ks) Q := by
  refine w_ld rfl rfl (Or.inr (Or.inr ⟨by decide, y1⟩)) ?_
  refine w_ld rfl rfl (Or.inl ⟨by decide, rfl⟩) ?_
  subst e_q2
  exact w_cv rfl [.index q2, vi x1] [] rfl rfl (s_wt_4 rfl) rfl g4 k

theorem k292_16 {P : s_P} {d : Nat} {Q : s_O → Prop} {h : s_H} {kc ks : Nat} {r0 : Term} {x1 x2 : Int}  (k1 : x2 ≠ 1 → wr P d sw_c292 sw_h292 (23, [r0, vi x1, vi x2], [], h, kc, ks) Q) (k2 : ¬ x2 ≠ 1 → wr P d sw_c292 sw_h292 (21, [r0, vi x1, vi x2], [], h, kc, ks) Q)  (c1 : In3 x2 := by first | omega | assumption | (simp only [mk_len, List.length_map]; omega) | decide) : wr P d sw_c292 sw_h292 (16, [r0, vi x1, vi x2], [], h, kc, ks) Q := by
  refine w_ld rfl rfl (Or.inl ⟨by decide, rfl⟩) ?_
  refine w_c32 rfl (by decide) 1 (by decide) ?_
  exact w_if2 rfl c1 (by decide) k1 k2

theorem k292_21 {P : s_P} {d : Nat} {Q : s_O → Prop} {h : s_H} {kc ks : Nat} {r0 : Term} {x1 x2 : Int}  (k : Q (.inl (some (vi 0)), h, kc, ks))   : wr P d sw_c292 sw_h292 (21, [r0, vi x1, vi x2], [], h, kc, ks) Q := by
  refine w_c32 rfl (by decide) 0 (by decide) ?_
  exact w_zret rfl (by decide) k

theorem k292_23 {P : s_P} {d : Nat} {Q : s_O → Prop} {h : s_H} {kc ks : Nat} {r0 : Term} {x1 x2 : Int}  (k1 : x2 ≠ 0 → wr P d sw_c292 sw_h292 (37, [r0, vi x1, vi x2], [], h, kc, ks) Q) (k2 : ¬ x2 ≠ 0 → wr P d sw_c292 sw_h292 (27, [r0, vi x1, vi x2], [], h, kc, ks) Q)  (c1 : In3 x2 := by first | omega | assumption | (simp only [mk_len, List.length_map]; omega) | decide) : wr P d sw_c292 sw_h292 (23, [r0, vi x1, vi x2], [], h, kc, ks) Q := by
  refine w_ld rfl rfl (Or.inl ⟨by decide, rfl⟩) ?_
  exact w_if1 rfl c1 k1 k2

theorem k292_27 {P : s_P} {d : Nat} {Q : s_O → Prop} {h : s_H} {kc ks : Nat} {r0 : Term} {x1 x2 : Int}  (k : wm P d 279 [vi 0, vi 1] h (wq P d sw_c292 sw_h292 33 [r0, vi x1, vi x2] [r0] kc ks Q)) (y1 : s_ty r0 = 3 := by first | rfl | assumption)  : wr P d sw_c292 sw_h292 (27, [r0, vi x1, vi x2], [], h, kc, ks) Q := by
  refine w_ld rfl rfl (Or.inr (Or.inr ⟨by decide, y1⟩)) ?_
  refine w_c32 rfl (by decide) 0 (by decide) ?_
  refine w_c32 rfl (by decide) 1 (by decide) ?_
  exact w_cs rfl [vi 0, vi 1] [r0] rfl rfl (s_wt_4 rfl) k

theorem k292_33 {P : s_P} {d : Nat} {Q : s_O → Prop} {h : s_H} {kc ks : Nat} {r0 : Term} {x1 x2 : Int} {s0 : Term} {s1 : Int} {q1 : Nat} {f2 : List Term} (g3 : s_get h q1 = some (1, 9, f2)) (k : wm P d 298 [.index q1, vi s1] h (wq P d sw_c292 sw_h292 36 [r0, vi x1, vi x2] [] kc ks Q)) (e_q1 : s0 = .index q1 := by first | rfl | assumption)  : wr P d sw_c292 sw_h292 (33, [r0, vi x1, vi x2], [vi s1, s0], h, kc, ks) Q := by
  subst e_q1
  exact w_cv rfl [.index q1, vi s1] [] rfl rfl (s_wt_4 rfl) rfl g3 k

theorem k292_37 {P : s_P} {d : Nat} {Q : s_O → Prop} {h : s_H} {kc ks : Nat} {r0 : Term} {x1 x2 : Int} {q2 : Nat} {f3 : List Term} (g4 : s_get h q2 = some (1, 9, f3)) (k : wm P d 298 [.index q2, vi 4] h (wq P d sw_c292 sw_h292 42 [.index q2, vi x1, vi x2] [] kc ks Q)) (e_q2 : r0 = .index q2 := by first | rfl | assumption) (y1 : s_ty r0 = 3 := by first | rfl | assumption)  : wr P d sw_c292 sw_h292 (37, [r0, vi x1, vi x2], [], h, kc, ks) Q := by
  refine w_ld rfl rfl (Or.inr (Or.inr ⟨by decide, y1⟩)) ?_
  refine w_c32 rfl (by decide) 4 (by decide) ?_
  subst e_q2
  exact w_cv rfl [.index q2, vi 4] [] rfl rfl (s_wt_4 rfl) rfl g4 k

theorem k292_60 {P : s_P} {d : Nat} {Q : s_O → Prop} {h : s_H} {kc ks : Nat} {r0 : Term} {x1 x2 : Int} {s0 : Term} {s1 : Int} {q1 : Nat} {f2 : List Term} (g3 : s_get h q1 = some (1, 9, f2)) (k : wm P d 298 [.index q1, vi s1] h (wq P d sw_c292 sw_h292 63 [r0, vi x1, vi x2] [] kc ks Q)) (e_q1 : s0 = .index q1 := by first | rfl | assumption)  : wr P d sw_c292 sw_h292 (60, [r0, vi x1, vi x2], [vi s1, s0], h, kc, ks) Q := by
  subst e_q1
  exact w_cv rfl [.index q1, vi s1] [] rfl rfl (s_wt_4 rfl) rfl g3 k

/-! 293: FormulaWorks$Trees.isBracketed(II)Z -/
theorem k293_0 {P : s_P} {d : Nat} {Q : s_O → Prop} {h : s_H} {kc ks : Nat} {r0 : Term} {x1 x2 : Int} {t3 t4 t5 t6 : Term} {q2 : Nat} {f3 : List Term} (g4 : s_get h q2 = some (1, 9, f3)) (k : wm P d 318 [.index q2, vi x2] h (wq P d sw_c293 sw_h293 5 [.index q2, vi x1, vi x2, t3, t4, t5, t6] [] kc ks Q)) (e_q2 : r0 = .index q2 := by first | rfl | assumption) (y1 : s_ty r0 = 3 := by first | rfl | assumption)  : wr P d sw_c293 sw_h293 (0, [r0, vi x1, vi x2, t3, t4, t5, t6], [], h, kc, ks) Q := by
  refine w_ld rfl rfl (Or.inr (Or.inr ⟨by decide, y1⟩)) ?_
  refine w_ld rfl rfl (Or.inl ⟨by decide, rfl⟩) ?_
  subst e_q2
  exact w_cv rfl [.index q2, vi x2] [] rfl rfl (s_wt_4 rfl) rfl g4 k

theorem k293_11 {P : s_P} {d : Nat} {Q : s_O → Prop} {h : s_H} {kc ks : Nat} {r0 : Term} {x1 x2 x3 : Int} {t4 t5 t6 : Term}  (k1 : x3 = 3 → wr P d sw_c293 sw_h293 (22, [r0, vi x1, vi x2, vi x3, t4, t5, t6], [], h, kc, ks) Q) (k2 : ¬ x3 = 3 → wr P d sw_c293 sw_h293 (16, [r0, vi x1, vi x2, vi x3, t4, t5, t6], [], h, kc, ks) Q)  (c1 : In3 x3 := by first | omega | assumption | (simp only [mk_len, List.length_map]; omega) | decide) : wr P d sw_c293 sw_h293 (11, [r0, vi x1, vi x2, vi x3, t4, t5, t6], [], h, kc, ks) Q := by
  refine w_ld rfl rfl (Or.inl ⟨by decide, rfl⟩) ?_
  refine w_c32 rfl (by decide) 3 (by decide) ?_
  exact w_if2 rfl c1 (by decide) k1 k2

theorem k293_16 {P : s_P} {d : Nat} {Q : s_O → Prop} {h : s_H} {kc ks : Nat} {r0 : Term} {x1 x2 x3 : Int} {t4 t5 t6 : Term}  (k1 : x3 ≠ 6 → wr P d sw_c293 sw_h293 (26, [r0, vi x1, vi x2, vi x3, t4, t5, t6], [], h, kc, ks) Q) (k2 : ¬ x3 ≠ 6 → wr P d sw_c293 sw_h293 (22, [r0, vi x1, vi x2, vi x3, t4, t5, t6], [], h, kc, ks) Q)  (c1 : In3 x3 := by first | omega | assumption | (simp only [mk_len, List.length_map]; omega) | decide) : wr P d sw_c293 sw_h293 (16, [r0, vi x1, vi x2, vi x3, t4, t5, t6], [], h, kc, ks) Q := by
  refine w_ld rfl rfl (Or.inl ⟨by decide, rfl⟩) ?_
  refine w_c32 rfl (by decide) 6 (by decide) ?_
  exact w_if2 rfl c1 (by decide) k1 k2

theorem k293_22 {P : s_P} {d : Nat} {Q : s_O → Prop} {h : s_H} {kc ks : Nat} {r0 : Term} {x1 x2 x3 : Int} {t4 t5 t6 : Term}  (k : wr P d sw_c293 sw_h293 (27, [r0, vi x1, vi x2, vi x3, t4, t5, t6], [vi 1], h, kc, ks) Q)   : wr P d sw_c293 sw_h293 (22, [r0, vi x1, vi x2, vi x3, t4, t5, t6], [], h, kc, ks) Q := by
  refine w_c32 rfl (by decide) 1 (by decide) ?_
  refine w_goto rfl ?_
  exact k

theorem k293_26 {P : s_P} {d : Nat} {Q : s_O → Prop} {h : s_H} {kc ks : Nat} {r0 : Term} {x1 x2 x3 : Int} {t4 t5 t6 : Term}  (k : wr P d sw_c293 sw_h293 (27, [r0, vi x1, vi x2, vi x3, t4, t5, t6], [vi 0], h, kc, ks) Q)   : wr P d sw_c293 sw_h293 (26, [r0, vi x1, vi x2, vi x3, t4, t5, t6], [], h, kc, ks) Q := by
  refine w_c32 rfl (by decide) 0 (by decide) ?_
  exact k

theorem k293_27 {P : s_P} {d : Nat} {Q : s_O → Prop} {h : s_H} {kc ks : Nat} {r0 : Term} {x1 x2 x3 : Int} {t4 t5 t6 : Term} {s0 : Int}  (k1 : x3 = 4 → wr P d sw_c293 sw_h293 (39, [r0, vi x1, vi x2, vi x3, vi s0, t5, t6], [], h, kc, ks) Q) (k2 : ¬ x3 = 4 → wr P d sw_c293 sw_h293 (34, [r0, vi x1, vi x2, vi x3, vi s0, t5, t6], [], h, kc, ks) Q)  (c1 : In3 x3 := by first | omega | assumption | (simp only [mk_len, List.length_map]; omega) | decide) : wr P d sw_c293 sw_h293 (27, [r0, vi x1, vi x2, vi x3, t4, t5, t6], [vi s0], h, kc, ks) Q := by
  refine w_st (ls' := [r0, vi x1, vi x2, vi x3, vi s0, t5, t6]) rfl (Or.inl ⟨by decide, rfl⟩) rfl ?_
  refine w_ld rfl rfl (Or.inl ⟨by decide, rfl⟩) ?_
  refine w_c32 rfl (by decide) 4 (by decide) ?_
  exact w_if2 rfl c1 (by decide) k1 k2

theorem k293_34 {P : s_P} {d : Nat} {Q : s_O → Prop} {h : s_H} {kc ks : Nat} {r0 : Term} {x1 x2 x3 x4 : Int} {t5 t6 : Term}  (k1 : x3 ≠ 5 → wr P d sw_c293 sw_h293 (43, [r0, vi x1, vi x2, vi x3, vi x4, t5, t6], [], h, kc, ks) Q) (k2 : ¬ x3 ≠ 5 → wr P d sw_c293 sw_h293 (39, [r0, vi x1, vi x2, vi x3, vi x4, t5, t6], [], h, kc, ks) Q)  (c1 : In3 x3 := by first | omega | assumption | (simp only [mk_len, List.length_map]; omega) | decide) : wr P d sw_c293 sw_h293 (34, [r0, vi x1, vi x2, vi x3, vi x4, t5, t6], [], h, kc, ks) Q := by
  refine w_ld rfl rfl (Or.inl ⟨by decide, rfl⟩) ?_
  refine w_c32 rfl (by decide) 5 (by decide) ?_
  exact w_if2 rfl c1 (by decide) k1 k2

theorem k293_39 {P : s_P} {d : Nat} {Q : s_O → Prop} {h : s_H} {kc ks : Nat} {r0 : Term} {x1 x2 x3 x4 : Int} {t5 t6 : Term}  (k : wr P d sw_c293 sw_h293 (44, [r0, vi x1, vi x2, vi x3, vi x4, t5, t6], [vi 1], h, kc, ks) Q)   : wr P d sw_c293 sw_h293 (39, [r0, vi x1, vi x2, vi x3, vi x4, t5, t6], [], h, kc, ks) Q := by
  refine w_c32 rfl (by decide) 1 (by decide) ?_
  refine w_goto rfl ?_
  exact k

theorem k293_43 {P : s_P} {d : Nat} {Q : s_O → Prop} {h : s_H} {kc ks : Nat} {r0 : Term} {x1 x2 x3 x4 : Int} {t5 t6 : Term}  (k : wr P d sw_c293 sw_h293 (44, [r0, vi x1, vi x2, vi x3, vi x4, t5, t6], [vi 0], h, kc, ks) Q)   : wr P d sw_c293 sw_h293 (43, [r0, vi x1, vi x2, vi x3, vi x4, t5, t6], [], h, kc, ks) Q := by
  refine w_c32 rfl (by decide) 0 (by decide) ?_
  exact k

theorem k293_44 {P : s_P} {d : Nat} {Q : s_O → Prop} {h : s_H} {kc ks : Nat} {r0 : Term} {x1 x2 x3 x4 : Int} {t5 t6 : Term} {s0 : Int} {q2 : Nat} {f3 : List Term} (g4 : s_get h q2 = some (1, 9, f3)) (k : wm P d 307 [.index q2, vi x1] h (wq P d sw_c293 sw_h293 52 [.index q2, vi x1, vi x2, vi x3, vi x4, vi s0, t6] [vi x2] kc ks Q)) (e_q2 : r0 = .index q2 := by first | rfl | assumption) (y1 : s_ty r0 = 3 := by first | rfl | assumption)  : wr P d sw_c293 sw_h293 (44, [r0, vi x1, vi x2, vi x3, vi x4, t5, t6], [vi s0], h, kc, ks) Q := by
  refine w_st (ls' := [r0, vi x1, vi x2, vi x3, vi x4, vi s0, t6]) rfl (Or.inl ⟨by decide, rfl⟩) rfl ?_
  refine w_ld rfl rfl (Or.inl ⟨by decide, rfl⟩) ?_
  refine w_ld rfl rfl (Or.inr (Or.inr ⟨by decide, y1⟩)) ?_
  refine w_ld rfl rfl (Or.inl ⟨by decide, rfl⟩) ?_
  subst e_q2
  exact w_cv rfl [.index q2, vi x1] [vi x2] rfl rfl (s_wt_4 rfl) rfl g4 k

theorem k293_55 {P : s_P} {d : Nat} {Q : s_O → Prop} {h : s_H} {kc ks : Nat} {r0 : Term} {x1 x2 x3 x4 x5 : Int} {t6 : Term}  (k : wr P d sw_c293 sw_h293 (60, [r0, vi x1, vi x2, vi x3, vi x4, vi x5, t6], [vi 1], h, kc, ks) Q)   : wr P d sw_c293 sw_h293 (55, [r0, vi x1, vi x2, vi x3, vi x4, vi x5, t6], [], h, kc, ks) Q := by
  refine w_c32 rfl (by decide) 1 (by decide) ?_
  refine w_goto rfl ?_
  exact k

theorem k293_59 {P : s_P} {d : Nat} {Q : s_O → Prop} {h : s_H} {kc ks : Nat} {r0 : Term} {x1 x2 x3 x4 x5 : Int} {t6 : Term}  (k : wr P d sw_c293 sw_h293 (60, [r0, vi x1, vi x2, vi x3, vi x4, vi x5, t6], [vi 0], h, kc, ks) Q)   : wr P d sw_c293 sw_h293 (59, [r0, vi x1, vi x2, vi x3, vi x4, vi x5, t6], [], h, kc, ks) Q := by
  refine w_c32 rfl (by decide) 0 (by decide) ?_
  exact k

theorem k293_60 {P : s_P} {d : Nat} {Q : s_O → Prop} {h : s_H} {kc ks : Nat} {r0 : Term} {x1 x2 x3 x4 x5 : Int} {t6 : Term} {s0 : Int} {q2 : Nat} {f3 : List Term} (g4 : s_get h q2 = some (1, 9, f3)) (k : wm P d 318 [.index q2, vi x1] h (wq P d sw_c293 sw_h293 67 [.index q2, vi x1, vi x2, vi x3, vi x4, vi x5, vi s0] [] kc ks Q)) (e_q2 : r0 = .index q2 := by first | rfl | assumption) (y1 : s_ty r0 = 3 := by first | rfl | assumption)  : wr P d sw_c293 sw_h293 (60, [r0, vi x1, vi x2, vi x3, vi x4, vi x5, t6], [vi s0], h, kc, ks) Q := by
  refine w_st (ls' := [r0, vi x1, vi x2, vi x3, vi x4, vi x5, vi s0]) rfl (Or.inl ⟨by decide, rfl⟩) rfl ?_
  refine w_ld rfl rfl (Or.inr (Or.inr ⟨by decide, y1⟩)) ?_
  refine w_ld rfl rfl (Or.inl ⟨by decide, rfl⟩) ?_
  subst e_q2
  exact w_cv rfl [.index q2, vi x1] [] rfl rfl (s_wt_4 rfl) rfl g4 k

theorem k293_100 {P : s_P} {d : Nat} {Q : s_O → Prop} {h : s_H} {kc ks : Nat} {r0 : Term} {x1 x2 x3 x4 x5 x6 : Int}  (k1 : x6 = 0 → wr P d sw_c293 sw_h293 (114, [r0, vi x1, vi x2, vi x3, vi x4, vi x5, vi x6], [], h, kc, ks) Q) (k2 : ¬ x6 = 0 → wr P d sw_c293 sw_h293 (105, [r0, vi x1, vi x2, vi x3, vi x4, vi x5, vi x6], [], h, kc, ks) Q)  (c1 : In3 x6 := by first | omega | assumption | (simp only [mk_len, List.length_map]; omega) | decide) : wr P d sw_c293 sw_h293 (100, [r0, vi x1, vi x2, vi x3, vi x4, vi x5, vi x6], [], h, kc, ks) Q := by
  refine w_ld rfl rfl (Or.inl ⟨by decide, rfl⟩) ?_
  exact w_if1 rfl c1 k1 k2

theorem k293_105 {P : s_P} {d : Nat} {Q : s_O → Prop} {h : s_H} {kc ks : Nat} {r0 : Term} {x1 x2 x3 x4 x5 x6 : Int}  (k1 : x4 = 0 → wr P d sw_c293 sw_h293 (114, [r0, vi x1, vi x2, vi x3, vi x4, vi x5, vi x6], [], h, kc, ks) Q) (k2 : ¬ x4 = 0 → wr P d sw_c293 sw_h293 (110, [r0, vi x1, vi x2, vi x3, vi x4, vi x5, vi x6], [], h, kc, ks) Q)  (c1 : In3 x4 := by first | omega | assumption | (simp only [mk_len, List.length_map]; omega) | decide) : wr P d sw_c293 sw_h293 (105, [r0, vi x1, vi x2, vi x3, vi x4, vi x5, vi x6], [], h, kc, ks) Q := by
  refine w_ld rfl rfl (Or.inl ⟨by decide, rfl⟩) ?_
  exact w_if1 rfl c1 k1 k2

theorem k293_110 {P : s_P} {d : Nat} {Q : s_O → Prop} {h : s_H} {kc ks : Nat} {r0 : Term} {x1 x2 x3 x4 x5 x6 : Int}  (k : wr P d sw_c293 sw_h293 (115, [r0, vi x1, vi x2, vi x3, vi x4, vi x5, vi x6], [vi 1], h, kc, ks) Q)   : wr P d sw_c293 sw_h293 (110, [r0, vi x1, vi x2, vi x3, vi x4, vi x5, vi x6], [], h, kc, ks) Q := by
  refine w_c32 rfl (by decide) 1 (by decide) ?_
  refine w_goto rfl ?_
  exact k

theorem k293_114 {P : s_P} {d : Nat} {Q : s_O → Prop} {h : s_H} {kc ks : Nat} {r0 : Term} {x1 x2 x3 x4 x5 x6 : Int}  (k : wr P d sw_c293 sw_h293 (115, [r0, vi x1, vi x2, vi x3, vi x4, vi x5, vi x6], [vi 0], h, kc, ks) Q)   : wr P d sw_c293 sw_h293 (114, [r0, vi x1, vi x2, vi x3, vi x4, vi x5, vi x6], [], h, kc, ks) Q := by
  refine w_c32 rfl (by decide) 0 (by decide) ?_
  exact k

theorem k293_115 {P : s_P} {d : Nat} {Q : s_O → Prop} {h : s_H} {kc ks : Nat} {r0 : Term} {x1 x2 x3 x4 x5 x6 s0 : Int}  (k : Q (.inl (some (vi s0)), h, kc, ks))  (c1 : s0 = 0 ∨ s0 = 1 := by first | omega | assumption | (simp only [mk_len, List.length_map]; omega) | decide) : wr P d sw_c293 sw_h293 (115, [r0, vi x1, vi x2, vi x3, vi x4, vi x5, vi x6], [vi s0], h, kc, ks) Q := by
  exact w_zret rfl c1 k

theorem k293_116 {P : s_P} {d : Nat} {Q : s_O → Prop} {h : s_H} {kc ks : Nat} {r0 : Term} {x1 x2 x3 x4 x5 x6 : Int}  (k1 : x4 ≠ 0 → wr P d sw_c293 sw_h293 (131, [r0, vi x1, vi x2, vi x3, vi x4, vi x5, vi x6], [], h, kc, ks) Q) (k2 : ¬ x4 ≠ 0 → wr P d sw_c293 sw_h293 (121, [r0, vi x1, vi x2, vi x3, vi x4, vi x5, vi x6], [], h, kc, ks) Q)  (c1 : In3 x4 := by first | omega | assumption | (simp only [mk_len, List.length_map]; omega) | decide) : wr P d sw_c293 sw_h293 (116, [r0, vi x1, vi x2, vi x3, vi x4, vi x5, vi x6], [], h, kc, ks) Q := by
  refine w_ld rfl rfl (Or.inl ⟨by decide, rfl⟩) ?_
  exact w_if1 rfl c1 k1 k2

theorem k293_121 {P : s_P} {d : Nat} {Q : s_O → Prop} {h : s_H} {kc ks : Nat} {r0 : Term} {x1 x2 x3 x4 x5 x6 : Int}  (k1 : x6 = 0 → wr P d sw_c293 sw_h293 (135, [r0, vi x1, vi x2, vi x3, vi x4, vi x5, vi x6], [], h, kc, ks) Q) (k2 : ¬ x6 = 0 → wr P d sw_c293 sw_h293 (126, [r0, vi x1, vi x2, vi x3, vi x4, vi x5, vi x6], [], h, kc, ks) Q)  (c1 : In3 x6 := by first | omega | assumption | (simp only [mk_len, List.length_map]; omega) | decide) : wr P d sw_c293 sw_h293 (121, [r0, vi x1, vi x2, vi x3, vi x4, vi x5, vi x6], [], h, kc, ks) Q := by
  refine w_ld rfl rfl (Or.inl ⟨by decide, rfl⟩) ?_
  exact w_if1 rfl c1 k1 k2

theorem k293_126 {P : s_P} {d : Nat} {Q : s_O → Prop} {h : s_H} {kc ks : Nat} {r0 : Term} {x1 x2 x3 x4 x5 x6 : Int}  (k1 : x5 = 0 → wr P d sw_c293 sw_h293 (135, [r0, vi x1, vi x2, vi x3, vi x4, vi x5, vi x6], [], h, kc, ks) Q) (k2 : ¬ x5 = 0 → wr P d sw_c293 sw_h293 (131, [r0, vi x1, vi x2, vi x3, vi x4, vi x5, vi x6], [], h, kc, ks) Q)  (c1 : In3 x5 := by first | omega | assumption | (simp only [mk_len, List.length_map]; omega) | decide) : wr P d sw_c293 sw_h293 (126, [r0, vi x1, vi x2, vi x3, vi x4, vi x5, vi x6], [], h, kc, ks) Q := by
  refine w_ld rfl rfl (Or.inl ⟨by decide, rfl⟩) ?_
  exact w_if1 rfl c1 k1 k2

theorem k293_131 {P : s_P} {d : Nat} {Q : s_O → Prop} {h : s_H} {kc ks : Nat} {r0 : Term} {x1 x2 x3 x4 x5 x6 : Int}  (k : wr P d sw_c293 sw_h293 (136, [r0, vi x1, vi x2, vi x3, vi x4, vi x5, vi x6], [vi 1], h, kc, ks) Q)   : wr P d sw_c293 sw_h293 (131, [r0, vi x1, vi x2, vi x3, vi x4, vi x5, vi x6], [], h, kc, ks) Q := by
  refine w_c32 rfl (by decide) 1 (by decide) ?_
  refine w_goto rfl ?_
  exact k

theorem k293_135 {P : s_P} {d : Nat} {Q : s_O → Prop} {h : s_H} {kc ks : Nat} {r0 : Term} {x1 x2 x3 x4 x5 x6 : Int}  (k : wr P d sw_c293 sw_h293 (136, [r0, vi x1, vi x2, vi x3, vi x4, vi x5, vi x6], [vi 0], h, kc, ks) Q)   : wr P d sw_c293 sw_h293 (135, [r0, vi x1, vi x2, vi x3, vi x4, vi x5, vi x6], [], h, kc, ks) Q := by
  refine w_c32 rfl (by decide) 0 (by decide) ?_
  exact k

theorem k293_136 {P : s_P} {d : Nat} {Q : s_O → Prop} {h : s_H} {kc ks : Nat} {r0 : Term} {x1 x2 x3 x4 x5 x6 s0 : Int}  (k : Q (.inl (some (vi s0)), h, kc, ks))  (c1 : s0 = 0 ∨ s0 = 1 := by first | omega | assumption | (simp only [mk_len, List.length_map]; omega) | decide) : wr P d sw_c293 sw_h293 (136, [r0, vi x1, vi x2, vi x3, vi x4, vi x5, vi x6], [vi s0], h, kc, ks) Q := by
  exact w_zret rfl c1 k

theorem k293_137 {P : s_P} {d : Nat} {Q : s_O → Prop} {h : s_H} {kc ks : Nat} {r0 : Term} {x1 x2 x3 x4 x5 x6 : Int}  (k : Q (.inl (some (vi x4)), h, kc, ks))  (c1 : x4 = 0 ∨ x4 = 1 := by first | omega | assumption | (simp only [mk_len, List.length_map]; omega) | decide) : wr P d sw_c293 sw_h293 (137, [r0, vi x1, vi x2, vi x3, vi x4, vi x5, vi x6], [], h, kc, ks) Q := by
  refine w_ld rfl rfl (Or.inl ⟨by decide, rfl⟩) ?_
  exact w_zret rfl c1 k

theorem k293_140 {P : s_P} {d : Nat} {Q : s_O → Prop} {h : s_H} {kc ks : Nat} {r0 : Term} {x1 x2 x3 x4 x5 x6 : Int}  (k1 : x3 ≤ 1 → wr P d sw_c293 sw_h293 (149, [r0, vi x1, vi x2, vi x3, vi x4, vi x5, vi x6], [], h, kc, ks) Q) (k2 : ¬ x3 ≤ 1 → wr P d sw_c293 sw_h293 (145, [r0, vi x1, vi x2, vi x3, vi x4, vi x5, vi x6], [], h, kc, ks) Q)  (c1 : In3 x3 := by first | omega | assumption | (simp only [mk_len, List.length_map]; omega) | decide) : wr P d sw_c293 sw_h293 (140, [r0, vi x1, vi x2, vi x3, vi x4, vi x5, vi x6], [], h, kc, ks) Q := by
  refine w_ld rfl rfl (Or.inl ⟨by decide, rfl⟩) ?_
  refine w_c32 rfl (by decide) 1 (by decide) ?_
  exact w_if2 rfl c1 (by decide) k1 k2

theorem k293_145 {P : s_P} {d : Nat} {Q : s_O → Prop} {h : s_H} {kc ks : Nat} {r0 : Term} {x1 x2 x3 x4 x5 x6 : Int}  (k : wr P d sw_c293 sw_h293 (150, [r0, vi x1, vi x2, vi x3, vi x4, vi x5, vi x6], [vi 1], h, kc, ks) Q)   : wr P d sw_c293 sw_h293 (145, [r0, vi x1, vi x2, vi x3, vi x4, vi x5, vi x6], [], h, kc, ks) Q := by
  refine w_c32 rfl (by decide) 1 (by decide) ?_
  refine w_goto rfl ?_
  exact k

theorem k293_149 {P : s_P} {d : Nat} {Q : s_O → Prop} {h : s_H} {kc ks : Nat} {r0 : Term} {x1 x2 x3 x4 x5 x6 : Int}  (k : wr P d sw_c293 sw_h293 (150, [r0, vi x1, vi x2, vi x3, vi x4, vi x5, vi x6], [vi 0], h, kc, ks) Q)   : wr P d sw_c293 sw_h293 (149, [r0, vi x1, vi x2, vi x3, vi x4, vi x5, vi x6], [], h, kc, ks) Q := by
  refine w_c32 rfl (by decide) 0 (by decide) ?_
  exact k

theorem k293_150 {P : s_P} {d : Nat} {Q : s_O → Prop} {h : s_H} {kc ks : Nat} {r0 : Term} {x1 x2 x3 x4 x5 x6 s0 : Int}  (k : Q (.inl (some (vi s0)), h, kc, ks))  (c1 : s0 = 0 ∨ s0 = 1 := by first | omega | assumption | (simp only [mk_len, List.length_map]; omega) | decide) : wr P d sw_c293 sw_h293 (150, [r0, vi x1, vi x2, vi x3, vi x4, vi x5, vi x6], [vi s0], h, kc, ks) Q := by
  exact w_zret rfl c1 k

/-! 294: FormulaWorks$Trees.isNumber(I)Z -/
theorem k294_0 {P : s_P} {d : Nat} {Q : s_O → Prop} {h : s_H} {kc ks : Nat} {r0 : Term} {x1 : Int} {q2 : Nat} {f3 : List Term} (g4 : s_get h q2 = some (1, 9, f3)) (k : wm P d 318 [.index q2, vi x1] h (wq P d sw_c294 sw_h294 5 [.index q2, vi x1] [] kc ks Q)) (e_q2 : r0 = .index q2 := by first | rfl | assumption) (y1 : s_ty r0 = 3 := by first | rfl | assumption)  : wr P d sw_c294 sw_h294 (0, [r0, vi x1], [], h, kc, ks) Q := by
  refine w_ld rfl rfl (Or.inr (Or.inr ⟨by decide, y1⟩)) ?_
  refine w_ld rfl rfl (Or.inl ⟨by decide, rfl⟩) ?_
  subst e_q2
  exact w_cv rfl [.index q2, vi x1] [] rfl rfl (s_wt_4 rfl) rfl g4 k

theorem k294_8 {P : s_P} {d : Nat} {Q : s_O → Prop} {h : s_H} {kc ks : Nat} {r0 : Term} {x1 : Int}  (k : wr P d sw_c294 sw_h294 (13, [r0, vi x1], [vi 1], h, kc, ks) Q)   : wr P d sw_c294 sw_h294 (8, [r0, vi x1], [], h, kc, ks) Q := by
  refine w_c32 rfl (by decide) 1 (by decide) ?_
  refine w_goto rfl ?_
  exact k

theorem k294_12 {P : s_P} {d : Nat} {Q : s_O → Prop} {h : s_H} {kc ks : Nat} {r0 : Term} {x1 : Int}  (k : wr P d sw_c294 sw_h294 (13, [r0, vi x1], [vi 0], h, kc, ks) Q)   : wr P d sw_c294 sw_h294 (12, [r0, vi x1], [], h, kc, ks) Q := by
  refine w_c32 rfl (by decide) 0 (by decide) ?_
  exact k

theorem k294_13 {P : s_P} {d : Nat} {Q : s_O → Prop} {h : s_H} {kc ks : Nat} {r0 : Term} {x1 s0 : Int}  (k : Q (.inl (some (vi s0)), h, kc, ks))  (c1 : s0 = 0 ∨ s0 = 1 := by first | omega | assumption | (simp only [mk_len, List.length_map]; omega) | decide) : wr P d sw_c294 sw_h294 (13, [r0, vi x1], [vi s0], h, kc, ks) Q := by
  exact w_zret rfl c1 k

/-! 295: FormulaWorks$Trees.isNumber(II)Z -/
theorem k295_0 {P : s_P} {d : Nat} {Q : s_O → Prop} {h : s_H} {kc ks : Nat} {r0 : Term} {x1 x2 : Int} {q2 : Nat} {f3 : List Term} (g4 : s_get h q2 = some (1, 9, f3)) (k : wm P d 318 [.index q2, vi x1] h (wq P d sw_c295 sw_h295 5 [.index q2, vi x1, vi x2] [] kc ks Q)) (e_q2 : r0 = .index q2 := by first | rfl | assumption) (y1 : s_ty r0 = 3 := by first | rfl | assumption)  : wr P d sw_c295 sw_h295 (0, [r0, vi x1, vi x2], [], h, kc, ks) Q := by
  refine w_ld rfl rfl (Or.inr (Or.inr ⟨by decide, y1⟩)) ?_
  refine w_ld rfl rfl (Or.inl ⟨by decide, rfl⟩) ?_
  subst e_q2
  exact w_cv rfl [.index q2, vi x1] [] rfl rfl (s_wt_4 rfl) rfl g4 k

theorem k295_8 {P : s_P} {d : Nat} {Q : s_O → Prop} {h : s_H} {kc ks : Nat} {r0 : Term} {x1 x2 : Int} {q2 : Nat} {f3 : List Term} (g4 : s_get h q2 = some (1, 9, f3)) (k : wm P d 274 [.index q2, vi x1] h (wq P d sw_c295 sw_h295 13 [.index q2, vi x1, vi x2] [] kc ks Q)) (e_q2 : r0 = .index q2 := by first | rfl | assumption) (y1 : s_ty r0 = 3 := by first | rfl | assumption)  : wr P d sw_c295 sw_h295 (8, [r0, vi x1, vi x2], [], h, kc, ks) Q := by
  refine w_ld rfl rfl (Or.inr (Or.inr ⟨by decide, y1⟩)) ?_
  refine w_ld rfl rfl (Or.inl ⟨by decide, rfl⟩) ?_
  subst e_q2
  exact w_cv rfl [.index q2, vi x1] [] rfl rfl (s_wt_4 rfl) rfl g4 k

theorem k295_17 {P : s_P} {d : Nat} {Q : s_O → Prop} {h : s_H} {kc ks : Nat} {r0 : Term} {x1 x2 : Int}  (k : wr P d sw_c295 sw_h295 (22, [r0, vi x1, vi x2], [vi 1], h, kc, ks) Q)   : wr P d sw_c295 sw_h295 (17, [r0, vi x1, vi x2], [], h, kc, ks) Q := by
  refine w_c32 rfl (by decide) 1 (by decide) ?_
  refine w_goto rfl ?_
  exact k

theorem k295_21 {P : s_P} {d : Nat} {Q : s_O → Prop} {h : s_H} {kc ks : Nat} {r0 : Term} {x1 x2 : Int}  (k : wr P d sw_c295 sw_h295 (22, [r0, vi x1, vi x2], [vi 0], h, kc, ks) Q)   : wr P d sw_c295 sw_h295 (21, [r0, vi x1, vi x2], [], h, kc, ks) Q := by
  refine w_c32 rfl (by decide) 0 (by decide) ?_
  exact k

theorem k295_22 {P : s_P} {d : Nat} {Q : s_O → Prop} {h : s_H} {kc ks : Nat} {r0 : Term} {x1 x2 s0 : Int}  (k : Q (.inl (some (vi s0)), h, kc, ks))  (c1 : s0 = 0 ∨ s0 = 1 := by first | omega | assumption | (simp only [mk_len, List.length_map]; omega) | decide) : wr P d sw_c295 sw_h295 (22, [r0, vi x1, vi x2], [vi s0], h, kc, ks) Q := by
  exact w_zret rfl c1 k

/-! 296: FormulaWorks$Trees.isPair(I)Z -/
theorem k296_0 {P : s_P} {d : Nat} {Q : s_O → Prop} {h : s_H} {kc ks : Nat} {r0 : Term} {x1 : Int} {q2 : Nat} {f3 : List Term} (g4 : s_get h q2 = some (1, 9, f3)) (k : wm P d 318 [.index q2, vi x1] h (wq P d sw_c296 sw_h296 5 [.index q2, vi x1] [] kc ks Q)) (e_q2 : r0 = .index q2 := by first | rfl | assumption) (y1 : s_ty r0 = 3 := by first | rfl | assumption)  : wr P d sw_c296 sw_h296 (0, [r0, vi x1], [], h, kc, ks) Q := by
  refine w_ld rfl rfl (Or.inr (Or.inr ⟨by decide, y1⟩)) ?_
  refine w_ld rfl rfl (Or.inl ⟨by decide, rfl⟩) ?_
  subst e_q2
  exact w_cv rfl [.index q2, vi x1] [] rfl rfl (s_wt_4 rfl) rfl g4 k

theorem k296_9 {P : s_P} {d : Nat} {Q : s_O → Prop} {h : s_H} {kc ks : Nat} {r0 : Term} {x1 : Int} {q2 : Nat} {f3 : List Term} (g4 : s_get h q2 = some (1, 9, f3)) (k : wm P d 318 [.index q2, vi x1] h (wq P d sw_c296 sw_h296 14 [.index q2, vi x1] [] kc ks Q)) (e_q2 : r0 = .index q2 := by first | rfl | assumption) (y1 : s_ty r0 = 3 := by first | rfl | assumption)  : wr P d sw_c296 sw_h296 (9, [r0, vi x1], [], h, kc, ks) Q := by
  refine w_ld rfl rfl (Or.inr (Or.inr ⟨by decide, y1⟩)) ?_
  refine w_ld rfl rfl (Or.inl ⟨by decide, rfl⟩) ?_
  subst e_q2
  exact w_cv rfl [.index q2, vi x1] [] rfl rfl (s_wt_4 rfl) rfl g4 k

theorem k296_18 {P : s_P} {d : Nat} {Q : s_O → Prop} {h : s_H} {kc ks : Nat} {r0 : Term} {x1 : Int}  (k : wr P d sw_c296 sw_h296 (23, [r0, vi x1], [vi 1], h, kc, ks) Q)   : wr P d sw_c296 sw_h296 (18, [r0, vi x1], [], h, kc, ks) Q := by
  refine w_c32 rfl (by decide) 1 (by decide) ?_
  refine w_goto rfl ?_
  exact k

theorem k296_22 {P : s_P} {d : Nat} {Q : s_O → Prop} {h : s_H} {kc ks : Nat} {r0 : Term} {x1 : Int}  (k : wr P d sw_c296 sw_h296 (23, [r0, vi x1], [vi 0], h, kc, ks) Q)   : wr P d sw_c296 sw_h296 (22, [r0, vi x1], [], h, kc, ks) Q := by
  refine w_c32 rfl (by decide) 0 (by decide) ?_
  exact k

theorem k296_23 {P : s_P} {d : Nat} {Q : s_O → Prop} {h : s_H} {kc ks : Nat} {r0 : Term} {x1 s0 : Int}  (k : Q (.inl (some (vi s0)), h, kc, ks))  (c1 : s0 = 0 ∨ s0 = 1 := by first | omega | assumption | (simp only [mk_len, List.length_map]; omega) | decide) : wr P d sw_c296 sw_h296 (23, [r0, vi x1], [vi s0], h, kc, ks) Q := by
  exact w_zret rfl c1 k

/-! 297: FormulaWorks$Trees.kept()[I -/
theorem k297_0 {P : s_P} {d : Nat} {Q : s_O → Prop} {h : s_H} {kc ks : Nat} {r0 : Term} {q2 : Nat} {f3 : List Term} {v5 : Term} {z7 : Int} (g4 : s_get h q2 = some (1, 9, f3)) (k : wm P d 628 [v5, vi z7] h (wq P d sw_c297 sw_h297 11 [.index q2] [] kc ks Q)) (e_q2 : r0 = .index q2 := by first | rfl | assumption) (y1 : s_ty r0 = 3 := by first | rfl | assumption) (n6 : s_nth f3 0 = some v5 := by first | rfl | assumption) (n8 : s_nth f3 1 = some (vi z7) := by first | rfl | assumption)  : wr P d sw_c297 sw_h297 (0, [r0], [], h, kc, ks) Q := by
  refine w_ld rfl rfl (Or.inr (Or.inr ⟨by decide, y1⟩)) ?_
  subst e_q2
  refine w_getf rfl g4 n6 ?_
  refine w_ld rfl rfl (Or.inr (Or.inr ⟨by decide, rfl⟩)) ?_
  refine w_getf rfl g4 n8 ?_
  exact w_cs rfl [v5, vi z7] [] rfl rfl (s_wt_4 rfl) k

theorem k297_11 {P : s_P} {d : Nat} {Q : s_O → Prop} {h : s_H} {kc ks : Nat} {r0 s0 : Term}  (k : Q (.inl (some s0), h, kc, ks)) (y1 : s_ty s0 = 3 := by first | rfl | assumption)  : wr P d sw_c297 sw_h297 (11, [r0], [s0], h, kc, ks) Q := by
  exact w_aret rfl y1 k

/-! 298: FormulaWorks$Trees.lay(I)Z -/
theorem k298_0 {P : s_P} {d : Nat} {Q : s_O → Prop} {h : s_H} {kc ks : Nat} {r0 : Term} {x1 : Int} {q2 : Nat} {f3 : List Term} {z5 : Int} (g4 : s_get h q2 = some (1, 9, f3)) (k1 : 512 ≤ z5 → wr P d sw_c298 sw_h298 (30, [.index q2, vi x1], [], h, kc, ks) Q) (k2 : ¬ 512 ≤ z5 → wr P d sw_c298 sw_h298 (10, [.index q2, vi x1], [], h, kc, ks) Q) (e_q2 : r0 = .index q2 := by first | rfl | assumption) (y1 : s_ty r0 = 3 := by first | rfl | assumption) (n6 : s_nth f3 6 = some (vi z5) := by first | rfl | assumption) (c7 : In3 z5 := by first | omega | assumption | (simp only [mk_len, List.length_map]; omega) | decide) : wr P d sw_c298 sw_h298 (0, [r0, vi x1], [], h, kc, ks) Q := by
  refine w_ld rfl rfl (Or.inr (Or.inr ⟨by decide, y1⟩)) ?_
  subst e_q2
  refine w_getf rfl g4 n6 ?_
  refine w_c32 rfl (by decide) 512 (by decide) ?_
  exact w_if2 rfl c7 (by decide) k1 k2

theorem k298_10 {P : s_P} {d : Nat} {Q : s_O → Prop} {h : s_H} {kc ks : Nat} {r0 : Term} {x1 : Int} {q2 : Nat} {f3 : List Term} {v5 : Term} {z7 : Int} {q9 : Nat} {a10 : List Int} {f16 : List Term} {z18 : Int} (g4 : s_get h q2 = some (1, 9, f3)) (g11 : s_get h q9 = some (0, 0, a10.map vi)) (g17 : s_get (hp h q9 (0, 0, (a10.set (Int.toNat (z7)) x1).map vi)) q2 = some (1, 9, f16)) (k : wr P d sw_c298 sw_h298 (30, [.index q2, vi x1], [], (hp (hp h q9 (0, 0, (a10.set (Int.toNat (z7)) x1).map vi)) q2 (1, 9, f16.set 6 (vi (z18 + 1)))), kc, ks) Q) (e_q2 : r0 = .index q2 := by first | rfl | assumption) (e_q9 : v5 = .index q9 := by first | rfl | assumption) (y1 : s_ty r0 = 3 := by first | rfl | assumption) (n6 : s_nth f3 5 = some v5 := by first | rfl | assumption) (n8 : s_nth f3 6 = some (vi z7) := by first | rfl | assumption) (n19 : s_nth f16 6 = some (vi z18) := by first | rfl | assumption) (l20 : 6 < f16.length := by first | exact Nat.le_of_ble_eq_true rfl | omega | assumption) (c12 : z7 < a10.length := by first | omega | assumption | (simp only [mk_len, List.length_map]; omega) | decide) (c13 : 0 ≤ z7 := by first | omega | assumption | (simp only [mk_len, List.length_map]; omega) | decide) (c14 : In3 z7 := by first | omega | assumption | (simp only [mk_len, List.length_map]; omega) | decide) (c15 : 0 < q9 := by first | omega | assumption | (simp only [mk_len, List.length_map]; omega) | decide) (c21 : 0 < q2 := by first | omega | assumption | (simp only [mk_len, List.length_map]; omega) | decide) : wr P d sw_c298 sw_h298 (10, [r0, vi x1], [], h, kc, ks) Q := by
  refine w_ld rfl rfl (Or.inr (Or.inr ⟨by decide, y1⟩)) ?_
  subst e_q2
  refine w_getf rfl g4 n6 ?_
  refine w_ld rfl rfl (Or.inr (Or.inr ⟨by decide, rfl⟩)) ?_
  refine w_getf rfl g4 n8 ?_
  refine w_ld rfl rfl (Or.inl ⟨by decide, rfl⟩) ?_
  subst e_q9
  refine w_iast rfl g11 (Nat.ble_eq_true_of_le c15) c14 c13 c12 ?_
  refine w_ld rfl rfl (Or.inr (Or.inr ⟨by decide, rfl⟩)) ?_
  refine w_dup rfl rfl ?_
  refine w_getf rfl g17 n19 ?_
  refine w_c32 rfl (by decide) 1 (by decide) ?_
  refine w_iadd rfl ?_
  refine w_putf rfl g17 (Nat.ble_eq_true_of_le c21) rfl (Nat.ble_eq_true_of_le l20) ?_
  exact k

theorem k298_30 {P : s_P} {d : Nat} {Q : s_O → Prop} {h : s_H} {kc ks : Nat} {r0 : Term} {x1 : Int}  (k : Q (.inl (some (vi 1)), h, kc, ks))   : wr P d sw_c298 sw_h298 (30, [r0, vi x1], [], h, kc, ks) Q := by
  refine w_c32 rfl (by decide) 1 (by decide) ?_
  exact w_zret rfl (by decide) k

/-! 299: FormulaWorks$Trees.layLess(I)Z -/
theorem k299_0 {P : s_P} {d : Nat} {Q : s_O → Prop} {h : s_H} {kc ks : Nat} {r0 : Term} {x1 : Int} {q2 : Nat} {f3 : List Term} (g4 : s_get h q2 = some (1, 9, f3)) (k : wm P d 298 [.index q2, vi 2] h (wq P d sw_c299 sw_h299 5 [.index q2, vi x1] [] kc ks Q)) (e_q2 : r0 = .index q2 := by first | rfl | assumption) (y1 : s_ty r0 = 3 := by first | rfl | assumption)  : wr P d sw_c299 sw_h299 (0, [r0, vi x1], [], h, kc, ks) Q := by
  refine w_ld rfl rfl (Or.inr (Or.inr ⟨by decide, y1⟩)) ?_
  refine w_c32 rfl (by decide) 2 (by decide) ?_
  subst e_q2
  exact w_cv rfl [.index q2, vi 2] [] rfl rfl (s_wt_4 rfl) rfl g4 k

/-! 300: FormulaWorks$Trees.layPair(III)Z -/
theorem k300_0 {P : s_P} {d : Nat} {Q : s_O → Prop} {h : s_H} {kc ks : Nat} {r0 : Term} {x1 x2 x3 : Int} {q2 : Nat} {f3 : List Term} (g4 : s_get h q2 = some (1, 9, f3)) (k : wm P d 298 [.index q2, vi x1] h (wq P d sw_c300 sw_h300 5 [.index q2, vi x1, vi x2, vi x3] [] kc ks Q)) (e_q2 : r0 = .index q2 := by first | rfl | assumption) (y1 : s_ty r0 = 3 := by first | rfl | assumption)  : wr P d sw_c300 sw_h300 (0, [r0, vi x1, vi x2, vi x3], [], h, kc, ks) Q := by
  refine w_ld rfl rfl (Or.inr (Or.inr ⟨by decide, y1⟩)) ?_
  refine w_ld rfl rfl (Or.inl ⟨by decide, rfl⟩) ?_
  subst e_q2
  exact w_cv rfl [.index q2, vi x1] [] rfl rfl (s_wt_4 rfl) rfl g4 k

/-! 301: FormulaWorks$Trees.layTree(I)Z -/
theorem k301_0 {P : s_P} {d : Nat} {Q : s_O → Prop} {h : s_H} {kc ks : Nat} {r0 : Term} {x1 : Int} {t2 : Term}  (k : wr P d sw_c301 sw_h301 (2, [r0, vi x1, vi 0], [], h, kc, ks) Q)   : wr P d sw_c301 sw_h301 (0, [r0, vi x1, t2], [], h, kc, ks) Q := by
  refine w_c32 rfl (by decide) 0 (by decide) ?_
  refine w_st (ls' := [r0, vi x1, vi 0]) rfl (Or.inl ⟨by decide, rfl⟩) rfl ?_
  exact k

theorem k301_2 {P : s_P} {d : Nat} {Q : s_O → Prop} {h : s_H} {kc ks : Nat} {r0 : Term} {x1 x2 : Int} {q2 : Nat} {f3 : List Term} (g4 : s_get h q2 = some (1, 9, f3)) (k : wm P d 317 [.index q2, vi x1] h (wq P d sw_c301 sw_h301 8 [.index q2, vi x1, vi x2] [vi x2] kc ks Q)) (e_q2 : r0 = .index q2 := by first | rfl | assumption) (y1 : s_ty r0 = 3 := by first | rfl | assumption)  : wr P d sw_c301 sw_h301 (2, [r0, vi x1, vi x2], [], h, kc, ks) Q := by
  refine w_ld rfl rfl (Or.inl ⟨by decide, rfl⟩) ?_
  refine w_ld rfl rfl (Or.inr (Or.inr ⟨by decide, y1⟩)) ?_
  refine w_ld rfl rfl (Or.inl ⟨by decide, rfl⟩) ?_
  subst e_q2
  exact w_cv rfl [.index q2, vi x1] [vi x2] rfl rfl (s_wt_4 rfl) rfl g4 k

theorem k301_11 {P : s_P} {d : Nat} {Q : s_O → Prop} {h : s_H} {kc ks : Nat} {r0 : Term} {x1 x2 : Int} {q2 : Nat} {f3 : List Term} {v5 : Term} {q7 : Nat} {a8 : List Int} (g4 : s_get h q2 = some (1, 9, f3)) (g9 : s_get h q7 = some (0, 0, a8.map vi)) (k : wm P d 298 [.index q2, vi (gi a8 (x1 + x2))] h (wq P d sw_c301 sw_h301 23 [.index q2, vi x1, vi x2] [] kc ks Q)) (e_q2 : r0 = .index q2 := by first | rfl | assumption) (e_q7 : v5 = .index q7 := by first | rfl | assumption) (y1 : s_ty r0 = 3 := by first | rfl | assumption) (n6 : s_nth f3 0 = some v5 := by first | rfl | assumption) (c10 : x1 + x2 < a8.length := by first | omega | assumption | (simp only [mk_len, List.length_map]; omega) | decide) (c11 : 0 ≤ x1 + x2 := by first | omega | assumption | (simp only [mk_len, List.length_map]; omega) | decide) (c12 : In3 (x1 + x2) := by first | omega | assumption | (simp only [mk_len, List.length_map]; omega) | decide) : wr P d sw_c301 sw_h301 (11, [r0, vi x1, vi x2], [], h, kc, ks) Q := by
  refine w_ld rfl rfl (Or.inr (Or.inr ⟨by decide, y1⟩)) ?_
  refine w_ld rfl rfl (Or.inr (Or.inr ⟨by decide, y1⟩)) ?_
  subst e_q2
  refine w_getf rfl g4 n6 ?_
  refine w_ld rfl rfl (Or.inl ⟨by decide, rfl⟩) ?_
  refine w_ld rfl rfl (Or.inl ⟨by decide, rfl⟩) ?_
  refine w_iadd rfl ?_
  subst e_q7
  refine w_iald rfl g9 (Or.inl rfl) c12 c11 c10 ?_
  exact w_cv rfl [.index q2, vi (gi a8 (x1 + x2))] [] rfl rfl (s_wt_4 rfl) rfl g4 k

theorem k301_30 {P : s_P} {d : Nat} {Q : s_O → Prop} {h : s_H} {kc ks : Nat} {r0 : Term} {x1 x2 : Int}  (k : Q (.inl (some (vi 1)), h, kc, ks))   : wr P d sw_c301 sw_h301 (30, [r0, vi x1, vi x2], [], h, kc, ks) Q := by
  refine w_c32 rfl (by decide) 1 (by decide) ?_
  exact w_zret rfl (by decide) k

/-! 302: FormulaWorks$Trees.leaf(I)V -/
theorem k302_0 {P : s_P} {d : Nat} {Q : s_O → Prop} {h : s_H} {kc ks : Nat} {r0 : Term} {x1 : Int} {q2 : Nat} {f3 : List Term} {z5 : Int} (g4 : s_get h q2 = some (1, 9, f3)) (k1 : 512 ≤ z5 → wr P d sw_c302 sw_h302 (20, [.index q2, vi x1], [], h, kc, ks) Q) (k2 : ¬ 512 ≤ z5 → wr P d sw_c302 sw_h302 (10, [.index q2, vi x1], [], h, kc, ks) Q) (e_q2 : r0 = .index q2 := by first | rfl | assumption) (y1 : s_ty r0 = 3 := by first | rfl | assumption) (n6 : s_nth f3 4 = some (vi z5) := by first | rfl | assumption) (c7 : In3 z5 := by first | omega | assumption | (simp only [mk_len, List.length_map]; omega) | decide) : wr P d sw_c302 sw_h302 (0, [r0, vi x1], [], h, kc, ks) Q := by
  refine w_ld rfl rfl (Or.inr (Or.inr ⟨by decide, y1⟩)) ?_
  subst e_q2
  refine w_getf rfl g4 n6 ?_
  refine w_c32 rfl (by decide) 512 (by decide) ?_
  exact w_if2 rfl c7 (by decide) k1 k2

theorem k302_10 {P : s_P} {d : Nat} {Q : s_O → Prop} {h : s_H} {kc ks : Nat} {r0 : Term} {x1 : Int} {q2 : Nat} {f3 : List Term} {z5 : Int} (g4 : s_get h q2 = some (1, 9, f3)) (k1 : z5 < 512 → wr P d sw_c302 sw_h302 (21, [.index q2, vi x1], [], h, kc, ks) Q) (k2 : ¬ z5 < 512 → wr P d sw_c302 sw_h302 (20, [.index q2, vi x1], [], h, kc, ks) Q) (e_q2 : r0 = .index q2 := by first | rfl | assumption) (y1 : s_ty r0 = 3 := by first | rfl | assumption) (n6 : s_nth f3 1 = some (vi z5) := by first | rfl | assumption) (c7 : In3 z5 := by first | omega | assumption | (simp only [mk_len, List.length_map]; omega) | decide) : wr P d sw_c302 sw_h302 (10, [r0, vi x1], [], h, kc, ks) Q := by
  refine w_ld rfl rfl (Or.inr (Or.inr ⟨by decide, y1⟩)) ?_
  subst e_q2
  refine w_getf rfl g4 n6 ?_
  refine w_c32 rfl (by decide) 512 (by decide) ?_
  exact w_if2 rfl c7 (by decide) k1 k2

theorem k302_20 {P : s_P} {d : Nat} {Q : s_O → Prop} {h : s_H} {kc ks : Nat} {r0 : Term} {x1 : Int}  (k : Q (.inl none, h, kc, ks))   : wr P d sw_c302 sw_h302 (20, [r0, vi x1], [], h, kc, ks) Q := by
  exact w_ret rfl k

theorem k302_21 {P : s_P} {d : Nat} {Q : s_O → Prop} {h : s_H} {kc ks : Nat} {r0 : Term} {x1 : Int} {q2 : Nat} {f3 : List Term} {v5 : Term} {z7 z9 : Int} {q11 : Nat} {a12 : List Int} {f18 : List Term} {z20 : Int} {f24 : List Term} {v26 : Term} {z28 : Int} {q30 : Nat} {a31 : List Int} {f37 : List Term} {z39 : Int} (g4 : s_get h q2 = some (1, 9, f3)) (g13 : s_get h q11 = some (0, 0, a12.map vi)) (g19 : s_get (hp h q11 (0, 0, (a12.set (Int.toNat (z7)) z9).map vi)) q2 = some (1, 9, f18)) (g25 : s_get (hp (hp h q11 (0, 0, (a12.set (Int.toNat (z7)) z9).map vi)) q2 (1, 9, f18.set 4 (vi (z20 + 1)))) q2 = some (1, 9, f24)) (g32 : s_get (hp (hp h q11 (0, 0, (a12.set (Int.toNat (z7)) z9).map vi)) q2 (1, 9, f18.set 4 (vi (z20 + 1)))) q30 = some (0, 0, a31.map vi)) (g38 : s_get (hp (hp (hp h q11 (0, 0, (a12.set (Int.toNat (z7)) z9).map vi)) q2 (1, 9, f18.set 4 (vi (z20 + 1)))) q30 (0, 0, (a31.set (Int.toNat (z28)) x1).map vi)) q2 = some (1, 9, f37)) (k : Q (.inl none, (hp (hp (hp (hp h q11 (0, 0, (a12.set (Int.toNat (z7)) z9).map vi)) q2 (1, 9, f18.set 4 (vi (z20 + 1)))) q30 (0, 0, (a31.set (Int.toNat (z28)) x1).map vi)) q2 (1, 9, f37.set 1 (vi (z39 + 1)))), kc, ks)) (e_q2 : r0 = .index q2 := by first | rfl | assumption) (e_q11 : v5 = .index q11 := by first | rfl | assumption) (e_q30 : v26 = .index q30 := by first | rfl | assumption) (y1 : s_ty r0 = 3 := by first | rfl | assumption) (n6 : s_nth f3 3 = some v5 := by first | rfl | assumption) (n8 : s_nth f3 4 = some (vi z7) := by first | rfl | assumption) (n10 : s_nth f3 1 = some (vi z9) := by first | rfl | assumption) (n21 : s_nth f18 4 = some (vi z20) := by first | rfl | assumption) (l22 : 4 < f18.length := by first | exact Nat.le_of_ble_eq_true rfl | omega | assumption) (n27 : s_nth f24 0 = some v26 := by first | rfl | assumption) (n29 : s_nth f24 1 = some (vi z28) := by first | rfl | assumption) (n40 : s_nth f37 1 = some (vi z39) := by first | rfl | assumption) (l41 : 1 < f37.length := by first | exact Nat.le_of_ble_eq_true rfl | omega | assumption) (c14 : z7 < a12.length := by first | omega | assumption | (simp only [mk_len, List.length_map]; omega) | decide) (c15 : 0 ≤ z7 := by first | omega | assumption | (simp only [mk_len, List.length_map]; omega) | decide) (c16 : In3 z7 := by first | omega | assumption | (simp only [mk_len, List.length_map]; omega) | decide) (c17 : 0 < q11 := by first | omega | assumption | (simp only [mk_len, List.length_map]; omega) | decide) (c23 : 0 < q2 := by first | omega | assumption | (simp only [mk_len, List.length_map]; omega) | decide) (c33 : z28 < a31.length := by first | omega | assumption | (simp only [mk_len, List.length_map]; omega) | decide) (c34 : 0 ≤ z28 := by first | omega | assumption | (simp only [mk_len, List.length_map]; omega) | decide) (c35 : In3 z28 := by first | omega | assumption | (simp only [mk_len, List.length_map]; omega) | decide) (c36 : 0 < q30 := by first | omega | assumption | (simp only [mk_len, List.length_map]; omega) | decide) : wr P d sw_c302 sw_h302 (21, [r0, vi x1], [], h, kc, ks) Q := by
  refine w_ld rfl rfl (Or.inr (Or.inr ⟨by decide, y1⟩)) ?_
  subst e_q2
  refine w_getf rfl g4 n6 ?_
  refine w_ld rfl rfl (Or.inr (Or.inr ⟨by decide, rfl⟩)) ?_
  refine w_getf rfl g4 n8 ?_
  refine w_ld rfl rfl (Or.inr (Or.inr ⟨by decide, rfl⟩)) ?_
  refine w_getf rfl g4 n10 ?_
  subst e_q11
  refine w_iast rfl g13 (Nat.ble_eq_true_of_le c17) c16 c15 c14 ?_
  refine w_ld rfl rfl (Or.inr (Or.inr ⟨by decide, rfl⟩)) ?_
  refine w_dup rfl rfl ?_
  refine w_getf rfl g19 n21 ?_
  refine w_c32 rfl (by decide) 1 (by decide) ?_
  refine w_iadd rfl ?_
  refine w_putf rfl g19 (Nat.ble_eq_true_of_le c23) rfl (Nat.ble_eq_true_of_le l22) ?_
  refine w_ld rfl rfl (Or.inr (Or.inr ⟨by decide, rfl⟩)) ?_
  refine w_getf rfl g25 n27 ?_
  refine w_ld rfl rfl (Or.inr (Or.inr ⟨by decide, rfl⟩)) ?_
  refine w_getf rfl g25 n29 ?_
  refine w_ld rfl rfl (Or.inl ⟨by decide, rfl⟩) ?_
  subst e_q30
  refine w_iast rfl g32 (Nat.ble_eq_true_of_le c36) c35 c34 c33 ?_
  refine w_ld rfl rfl (Or.inr (Or.inr ⟨by decide, rfl⟩)) ?_
  refine w_dup rfl rfl ?_
  refine w_getf rfl g38 n40 ?_
  refine w_c32 rfl (by decide) 1 (by decide) ?_
  refine w_iadd rfl ?_
  refine w_putf rfl g38 (Nat.ble_eq_true_of_le c23) rfl (Nat.ble_eq_true_of_le l41) ?_
  exact w_ret rfl k

/-! 303: FormulaWorks$Trees.load([I)V -/
theorem k303_0 {P : s_P} {d : Nat} {Q : s_O → Prop} {h : s_H} {kc ks : Nat} {r0 r1 : Term} {q3 : Nat} {a4 : List Term} {tg6 : Nat} (g5 : s_get h q3 = some (0, tg6, a4)) (k1 : 512 ≤ (a4.length : Int) → wr P d sw_c303 sw_h303 (14, [r0, .index q3], [r0], h, kc, ks) Q) (k2 : ¬ 512 ≤ (a4.length : Int) → wr P d sw_c303 sw_h303 (9, [r0, .index q3], [r0], h, kc, ks) Q) (e_q3 : r1 = .index q3 := by first | rfl | assumption) (y1 : s_ty r0 = 3 := by first | rfl | assumption) (y2 : s_ty r1 = 3 := by first | rfl | assumption) (c7 : In3 (a4.length : Int) := by first | omega | assumption | (simp only [mk_len, List.length_map]; omega) | decide) : wr P d sw_c303 sw_h303 (0, [r0, r1], [], h, kc, ks) Q := by
  refine w_ld rfl rfl (Or.inr (Or.inr ⟨by decide, y1⟩)) ?_
  refine w_ld rfl rfl (Or.inr (Or.inr ⟨by decide, y2⟩)) ?_
  subst e_q3
  refine w_alen rfl g5 (Or.inl rfl) ?_
  refine w_c32 rfl (by decide) 512 (by decide) ?_
  exact w_if2 rfl c7 (by decide) k1 k2

theorem k303_9 {P : s_P} {d : Nat} {Q : s_O → Prop} {h : s_H} {kc ks : Nat} {r0 r1 s0 : Term} {q2 : Nat} {a3 : List Term} {tg5 : Nat} (g4 : s_get h q2 = some (0, tg5, a3)) (k : wr P d sw_c303 sw_h303 (17, [r0, .index q2], [vi (a3.length : Int), s0], h, kc, ks) Q) (e_q2 : r1 = .index q2 := by first | rfl | assumption) (y1 : s_ty r1 = 3 := by first | rfl | assumption)  : wr P d sw_c303 sw_h303 (9, [r0, r1], [s0], h, kc, ks) Q := by
  refine w_ld rfl rfl (Or.inr (Or.inr ⟨by decide, y1⟩)) ?_
  subst e_q2
  refine w_alen rfl g4 (Or.inl rfl) ?_
  refine w_goto rfl ?_
  exact k

theorem k303_14 {P : s_P} {d : Nat} {Q : s_O → Prop} {h : s_H} {kc ks : Nat} {r0 r1 s0 : Term}  (k : wr P d sw_c303 sw_h303 (17, [r0, r1], [vi 512, s0], h, kc, ks) Q)   : wr P d sw_c303 sw_h303 (14, [r0, r1], [s0], h, kc, ks) Q := by
  refine w_c32 rfl (by decide) 512 (by decide) ?_
  exact k

-- native at 17
theorem k303_34 {P : s_P} {d : Nat} {Q : s_O → Prop} {h : s_H} {kc ks : Nat} {r0 r1 : Term} {q2 : Nat} {f3 : List Term} (g4 : s_get h q2 = some (1, 9, f3)) (k : wm P d 304 [.index q2] h (wq P d sw_c303 sw_h303 38 [.index q2, r1] [] kc ks Q)) (e_q2 : r0 = .index q2 := by first | rfl | assumption) (y1 : s_ty r0 = 3 := by first | rfl | assumption)  : wr P d sw_c303 sw_h303 (34, [r0, r1], [], h, kc, ks) Q := by
  refine w_ld rfl rfl (Or.inr (Or.inr ⟨by decide, y1⟩)) ?_
  subst e_q2
  exact w_cv rfl [.index q2] [] rfl rfl (s_wt_4 rfl) rfl g4 k

/-! 304: FormulaWorks$Trees.measure()V -/
theorem k304_0 {P : s_P} {d : Nat} {Q : s_O → Prop} {h : s_H} {kc ks : Nat} {r0 t1 t2 : Term} {q2 : Nat} {f3 : List Term} {z5 : Int} (g4 : s_get h q2 = some (1, 9, f3)) (k : wr P d sw_c304 sw_h304 (7, [.index q2, vi (z5 - 1), t2], [], h, kc, ks) Q) (e_q2 : r0 = .index q2 := by first | rfl | assumption) (y1 : s_ty r0 = 3 := by first | rfl | assumption) (n6 : s_nth f3 1 = some (vi z5) := by first | rfl | assumption)  : wr P d sw_c304 sw_h304 (0, [r0, t1, t2], [], h, kc, ks) Q := by
  refine w_ld rfl rfl (Or.inr (Or.inr ⟨by decide, y1⟩)) ?_
  subst e_q2
  refine w_getf rfl g4 n6 ?_
  refine w_c32 rfl (by decide) 1 (by decide) ?_
  refine w_isub rfl ?_
  refine w_st (ls' := [.index q2, vi (z5 - 1), t2]) rfl (Or.inl ⟨by decide, rfl⟩) rfl ?_
  exact k

theorem k304_7 {P : s_P} {d : Nat} {Q : s_O → Prop} {h : s_H} {kc ks : Nat} {r0 : Term} {x1 : Int} {t2 : Term}  (k1 : x1 < 0 → wr P d sw_c304 sw_h304 (63, [r0, vi x1, t2], [], h, kc, ks) Q) (k2 : ¬ x1 < 0 → wr P d sw_c304 sw_h304 (11, [r0, vi x1, t2], [], h, kc, ks) Q)  (c1 : In3 x1 := by first | omega | assumption | (simp only [mk_len, List.length_map]; omega) | decide) : wr P d sw_c304 sw_h304 (7, [r0, vi x1, t2], [], h, kc, ks) Q := by
  refine w_ld rfl rfl (Or.inl ⟨by decide, rfl⟩) ?_
  exact w_if1 rfl c1 k1 k2

theorem k304_11 {P : s_P} {d : Nat} {Q : s_O → Prop} {h : s_H} {kc ks : Nat} {r0 : Term} {x1 : Int} {t2 : Term} {q2 : Nat} {f3 : List Term} (g4 : s_get h q2 = some (1, 9, f3)) (k : wm P d 318 [.index q2, vi x1] h (wq P d sw_c304 sw_h304 18 [.index q2, vi x1, vi 1] [] kc ks Q)) (e_q2 : r0 = .index q2 := by first | rfl | assumption) (y1 : s_ty r0 = 3 := by first | rfl | assumption)  : wr P d sw_c304 sw_h304 (11, [r0, vi x1, t2], [], h, kc, ks) Q := by
  refine w_c32 rfl (by decide) 1 (by decide) ?_
  refine w_st (ls' := [r0, vi x1, vi 1]) rfl (Or.inl ⟨by decide, rfl⟩) rfl ?_
  refine w_ld rfl rfl (Or.inr (Or.inr ⟨by decide, y1⟩)) ?_
  refine w_ld rfl rfl (Or.inl ⟨by decide, rfl⟩) ?_
  subst e_q2
  exact w_cv rfl [.index q2, vi x1] [] rfl rfl (s_wt_4 rfl) rfl g4 k

theorem k304_22 {P : s_P} {d : Nat} {Q : s_O → Prop} {h : s_H} {kc ks : Nat} {r0 : Term} {x1 x2 : Int} {q2 : Nat} {f3 : List Term} (g4 : s_get h q2 = some (1, 9, f3)) (k : wm P d 317 [.index q2, vi (x1 + 1)] h (wq P d sw_c304 sw_h304 30 [.index q2, vi x1, vi x2] [vi x2] kc ks Q)) (e_q2 : r0 = .index q2 := by first | rfl | assumption) (y1 : s_ty r0 = 3 := by first | rfl | assumption)  : wr P d sw_c304 sw_h304 (22, [r0, vi x1, vi x2], [], h, kc, ks) Q := by
  refine w_ld rfl rfl (Or.inl ⟨by decide, rfl⟩) ?_
  refine w_ld rfl rfl (Or.inr (Or.inr ⟨by decide, y1⟩)) ?_
  refine w_ld rfl rfl (Or.inl ⟨by decide, rfl⟩) ?_
  refine w_c32 rfl (by decide) 1 (by decide) ?_
  refine w_iadd rfl ?_
  subst e_q2
  exact w_cv rfl [.index q2, vi (x1 + 1)] [vi x2] rfl rfl (s_wt_4 rfl) rfl g4 k

theorem k304_32 {P : s_P} {d : Nat} {Q : s_O → Prop} {h : s_H} {kc ks : Nat} {r0 : Term} {x1 x2 : Int} {q2 : Nat} {f3 : List Term} (g4 : s_get h q2 = some (1, 9, f3)) (k : wm P d 296 [.index q2, vi x1] h (wq P d sw_c304 sw_h304 37 [.index q2, vi x1, vi x2] [] kc ks Q)) (e_q2 : r0 = .index q2 := by first | rfl | assumption) (y1 : s_ty r0 = 3 := by first | rfl | assumption)  : wr P d sw_c304 sw_h304 (32, [r0, vi x1, vi x2], [], h, kc, ks) Q := by
  refine w_ld rfl rfl (Or.inr (Or.inr ⟨by decide, y1⟩)) ?_
  refine w_ld rfl rfl (Or.inl ⟨by decide, rfl⟩) ?_
  subst e_q2
  exact w_cv rfl [.index q2, vi x1] [] rfl rfl (s_wt_4 rfl) rfl g4 k

theorem k304_40 {P : s_P} {d : Nat} {Q : s_O → Prop} {h : s_H} {kc ks : Nat} {r0 : Term} {x1 x2 : Int} {q2 : Nat} {f3 : List Term} (g4 : s_get h q2 = some (1, 9, f3)) (k : wm P d 317 [.index q2, vi (x1 + x2)] h (wq P d sw_c304 sw_h304 48 [.index q2, vi x1, vi x2] [vi x2] kc ks Q)) (e_q2 : r0 = .index q2 := by first | rfl | assumption) (y1 : s_ty r0 = 3 := by first | rfl | assumption)  : wr P d sw_c304 sw_h304 (40, [r0, vi x1, vi x2], [], h, kc, ks) Q := by
  refine w_ld rfl rfl (Or.inl ⟨by decide, rfl⟩) ?_
  refine w_ld rfl rfl (Or.inr (Or.inr ⟨by decide, y1⟩)) ?_
  refine w_ld rfl rfl (Or.inl ⟨by decide, rfl⟩) ?_
  refine w_ld rfl rfl (Or.inl ⟨by decide, rfl⟩) ?_
  refine w_iadd rfl ?_
  subst e_q2
  exact w_cv rfl [.index q2, vi (x1 + x2)] [vi x2] rfl rfl (s_wt_4 rfl) rfl g4 k

theorem k304_50 {P : s_P} {d : Nat} {Q : s_O → Prop} {h : s_H} {kc ks : Nat} {r0 : Term} {x1 x2 : Int} {q2 : Nat} {f3 : List Term} {v5 : Term} {q7 : Nat} {a8 : List Int} (g4 : s_get h q2 = some (1, 9, f3)) (g9 : s_get h q7 = some (0, 0, a8.map vi)) (k : wr P d sw_c304 sw_h304 (7, [.index q2, vi (x1 + (-1)), vi x2], [], (hp h q7 (0, 0, (a8.set (Int.toNat (x1)) x2).map vi)), kc, ks) Q) (e_q2 : r0 = .index q2 := by first | rfl | assumption) (e_q7 : v5 = .index q7 := by first | rfl | assumption) (y1 : s_ty r0 = 3 := by first | rfl | assumption) (n6 : s_nth f3 2 = some v5 := by first | rfl | assumption) (c10 : x1 < a8.length := by first | omega | assumption | (simp only [mk_len, List.length_map]; omega) | decide) (c11 : 0 ≤ x1 := by first | omega | assumption | (simp only [mk_len, List.length_map]; omega) | decide) (c12 : In3 x1 := by first | omega | assumption | (simp only [mk_len, List.length_map]; omega) | decide) (c13 : 0 < q7 := by first | omega | assumption | (simp only [mk_len, List.length_map]; omega) | decide) : wr P d sw_c304 sw_h304 (50, [r0, vi x1, vi x2], [], h, kc, ks) Q := by
  refine w_ld rfl rfl (Or.inr (Or.inr ⟨by decide, y1⟩)) ?_
  subst e_q2
  refine w_getf rfl g4 n6 ?_
  refine w_ld rfl rfl (Or.inl ⟨by decide, rfl⟩) ?_
  refine w_ld rfl rfl (Or.inl ⟨by decide, rfl⟩) ?_
  subst e_q7
  refine w_iast rfl g9 (Nat.ble_eq_true_of_le c13) c12 c11 c10 ?_
  refine w_iinc (ls' := [.index q2, vi (x1 + (-1)), vi x2]) rfl rfl (-1) (by decide) rfl ?_
  refine w_goto rfl ?_
  exact k

theorem k304_63 {P : s_P} {d : Nat} {Q : s_O → Prop} {h : s_H} {kc ks : Nat} {r0 : Term} {x1 : Int} {t2 : Term}  (k : Q (.inl none, h, kc, ks))   : wr P d sw_c304 sw_h304 (63, [r0, vi x1, t2], [], h, kc, ks) Q := by
  exact w_ret rfl k

/-! 305: FormulaWorks$Trees.pair(I)V -/
theorem k305_0 {P : s_P} {d : Nat} {Q : s_O → Prop} {h : s_H} {kc ks : Nat} {r0 : Term} {x1 : Int} {q2 : Nat} {f3 : List Term} {z5 : Int} (g4 : s_get h q2 = some (1, 9, f3)) (k1 : 2 ≤ z5 → wr P d sw_c305 sw_h305 (9, [.index q2, vi x1], [], h, kc, ks) Q) (k2 : ¬ 2 ≤ z5 → wr P d sw_c305 sw_h305 (8, [.index q2, vi x1], [], h, kc, ks) Q) (e_q2 : r0 = .index q2 := by first | rfl | assumption) (y1 : s_ty r0 = 3 := by first | rfl | assumption) (n6 : s_nth f3 4 = some (vi z5) := by first | rfl | assumption) (c7 : In3 z5 := by first | omega | assumption | (simp only [mk_len, List.length_map]; omega) | decide) : wr P d sw_c305 sw_h305 (0, [r0, vi x1], [], h, kc, ks) Q := by
  refine w_ld rfl rfl (Or.inr (Or.inr ⟨by decide, y1⟩)) ?_
  subst e_q2
  refine w_getf rfl g4 n6 ?_
  refine w_c32 rfl (by decide) 2 (by decide) ?_
  exact w_if2 rfl c7 (by decide) k1 k2

theorem k305_8 {P : s_P} {d : Nat} {Q : s_O → Prop} {h : s_H} {kc ks : Nat} {r0 : Term} {x1 : Int}  (k : Q (.inl none, h, kc, ks))   : wr P d sw_c305 sw_h305 (8, [r0, vi x1], [], h, kc, ks) Q := by
  exact w_ret rfl k

theorem k305_9 {P : s_P} {d : Nat} {Q : s_O → Prop} {h : s_H} {kc ks : Nat} {r0 : Term} {x1 : Int} {q2 : Nat} {f3 : List Term} {z5 : Int} {f9 : List Term} (g4 : s_get h q2 = some (1, 9, f3)) (g10 : s_get (hp h q2 (1, 9, f3.set 4 (vi (z5 - 1)))) q2 = some (1, 9, f9)) (k : wm P d 320 [.index q2, vi x1] (hp h q2 (1, 9, f3.set 4 (vi (z5 - 1)))) (wq P d sw_c305 sw_h305 24 [.index q2, vi x1] [] kc ks Q)) (e_q2 : r0 = .index q2 := by first | rfl | assumption) (y1 : s_ty r0 = 3 := by first | rfl | assumption) (n6 : s_nth f3 4 = some (vi z5) := by first | rfl | assumption) (l7 : 4 < f3.length := by first | exact Nat.le_of_ble_eq_true rfl | omega | assumption) (c8 : 0 < q2 := by first | omega | assumption | (simp only [mk_len, List.length_map]; omega) | decide) : wr P d sw_c305 sw_h305 (9, [r0, vi x1], [], h, kc, ks) Q := by
  refine w_ld rfl rfl (Or.inr (Or.inr ⟨by decide, y1⟩)) ?_
  refine w_dup rfl (by rw [y1]; rfl) ?_
  subst e_q2
  refine w_getf rfl g4 n6 ?_
  refine w_c32 rfl (by decide) 1 (by decide) ?_
  refine w_isub rfl ?_
  refine w_putf rfl g4 (Nat.ble_eq_true_of_le c8) rfl (Nat.ble_eq_true_of_le l7) ?_
  refine w_ld rfl rfl (Or.inr (Or.inr ⟨by decide, rfl⟩)) ?_
  refine w_ld rfl rfl (Or.inl ⟨by decide, rfl⟩) ?_
  exact w_cv rfl [.index q2, vi x1] [] rfl rfl (s_wt_4 rfl) rfl g10 k

/-! 306: FormulaWorks$Trees.replace(I)V -/
theorem k306_0 {P : s_P} {d : Nat} {Q : s_O → Prop} {h : s_H} {kc ks : Nat} {r0 : Term} {x1 : Int} {t2 t3 t4 : Term} {q2 : Nat} {f3 : List Term} (g4 : s_get h q2 = some (1, 9, f3)) (k : wm P d 317 [.index q2, vi x1] h (wq P d sw_c306 sw_h306 6 [.index q2, vi x1, t2, t3, t4] [vi x1] kc ks Q)) (e_q2 : r0 = .index q2 := by first | rfl | assumption) (y1 : s_ty r0 = 3 := by first | rfl | assumption)  : wr P d sw_c306 sw_h306 (0, [r0, vi x1, t2, t3, t4], [], h, kc, ks) Q := by
  refine w_ld rfl rfl (Or.inl ⟨by decide, rfl⟩) ?_
  refine w_ld rfl rfl (Or.inr (Or.inr ⟨by decide, y1⟩)) ?_
  refine w_ld rfl rfl (Or.inl ⟨by decide, rfl⟩) ?_
  subst e_q2
  exact w_cv rfl [.index q2, vi x1] [vi x1] rfl rfl (s_wt_4 rfl) rfl g4 k

theorem k306_22 {P : s_P} {d : Nat} {Q : s_O → Prop} {h : s_H} {kc ks : Nat} {r0 : Term} {x1 x2 : Int} {t3 t4 : Term} {s0 : Int} {q2 : Nat} {f3 : List Term} {z5 : Int} (g4 : s_get h q2 = some (1, 9, f3)) (k : wm P d 626 [vi z5, vi ((512 - x1) - s0)] h (wq P d sw_c306 sw_h306 37 [.index q2, vi x1, vi x2, vi s0, t4] [] kc ks Q)) (e_q2 : r0 = .index q2 := by first | rfl | assumption) (y1 : s_ty r0 = 3 := by first | rfl | assumption) (n6 : s_nth f3 6 = some (vi z5) := by first | rfl | assumption)  : wr P d sw_c306 sw_h306 (22, [r0, vi x1, vi x2, t3, t4], [vi s0], h, kc, ks) Q := by
  refine w_st (ls' := [r0, vi x1, vi x2, vi s0, t4]) rfl (Or.inl ⟨by decide, rfl⟩) rfl ?_
  refine w_ld rfl rfl (Or.inr (Or.inr ⟨by decide, y1⟩)) ?_
  subst e_q2
  refine w_getf rfl g4 n6 ?_
  refine w_c32 rfl (by decide) 512 (by decide) ?_
  refine w_ld rfl rfl (Or.inl ⟨by decide, rfl⟩) ?_
  refine w_isub rfl ?_
  refine w_ld rfl rfl (Or.inl ⟨by decide, rfl⟩) ?_
  refine w_isub rfl ?_
  exact w_cs rfl [vi z5, vi ((512 - x1) - s0)] [] rfl rfl (s_wt_4 rfl) k

theorem k306_37 {P : s_P} {d : Nat} {Q : s_O → Prop} {h : s_H} {kc ks : Nat} {r0 : Term} {x1 x2 x3 : Int} {t4 : Term} {s0 : Int}  (k1 : x1 < 0 → wr P d sw_c306 sw_h306 (52, [r0, vi x1, vi x2, vi x3, vi s0], [], h, kc, ks) Q) (k2 : ¬ x1 < 0 → wr P d sw_c306 sw_h306 (43, [r0, vi x1, vi x2, vi x3, vi s0], [], h, kc, ks) Q)  (c1 : In3 x1 := by first | omega | assumption | (simp only [mk_len, List.length_map]; omega) | decide) : wr P d sw_c306 sw_h306 (37, [r0, vi x1, vi x2, vi x3, t4], [vi s0], h, kc, ks) Q := by
  refine w_st (ls' := [r0, vi x1, vi x2, vi x3, vi s0]) rfl (Or.inl ⟨by decide, rfl⟩) rfl ?_
  refine w_ld rfl rfl (Or.inl ⟨by decide, rfl⟩) ?_
  exact w_if1 rfl c1 k1 k2

theorem k306_43 {P : s_P} {d : Nat} {Q : s_O → Prop} {h : s_H} {kc ks : Nat} {r0 : Term} {x1 x2 x3 x4 : Int}  (k1 : x3 < 0 → wr P d sw_c306 sw_h306 (52, [r0, vi x1, vi x2, vi x3, vi x4], [], h, kc, ks) Q) (k2 : ¬ x3 < 0 → wr P d sw_c306 sw_h306 (47, [r0, vi x1, vi x2, vi x3, vi x4], [], h, kc, ks) Q)  (c1 : In3 x3 := by first | omega | assumption | (simp only [mk_len, List.length_map]; omega) | decide) : wr P d sw_c306 sw_h306 (43, [r0, vi x1, vi x2, vi x3, vi x4], [], h, kc, ks) Q := by
  refine w_ld rfl rfl (Or.inl ⟨by decide, rfl⟩) ?_
  exact w_if1 rfl c1 k1 k2

theorem k306_47 {P : s_P} {d : Nat} {Q : s_O → Prop} {h : s_H} {kc ks : Nat} {r0 : Term} {x1 x2 x3 x4 : Int}  (k1 : 0 ≤ x4 → wr P d sw_c306 sw_h306 (53, [r0, vi x1, vi x2, vi x3, vi x4], [], h, kc, ks) Q) (k2 : ¬ 0 ≤ x4 → wr P d sw_c306 sw_h306 (52, [r0, vi x1, vi x2, vi x3, vi x4], [], h, kc, ks) Q)  (c1 : In3 x4 := by first | omega | assumption | (simp only [mk_len, List.length_map]; omega) | decide) : wr P d sw_c306 sw_h306 (47, [r0, vi x1, vi x2, vi x3, vi x4], [], h, kc, ks) Q := by
  refine w_ld rfl rfl (Or.inl ⟨by decide, rfl⟩) ?_
  exact w_if1 rfl c1 k1 k2

theorem k306_52 {P : s_P} {d : Nat} {Q : s_O → Prop} {h : s_H} {kc ks : Nat} {r0 : Term} {x1 x2 x3 x4 : Int}  (k : Q (.inl none, h, kc, ks))   : wr P d sw_c306 sw_h306 (52, [r0, vi x1, vi x2, vi x3, vi x4], [], h, kc, ks) Q := by
  exact w_ret rfl k

-- native at 53
-- native at 70
theorem k306_85 {P : s_P} {d : Nat} {Q : s_O → Prop} {h : s_H} {kc ks : Nat} {r0 : Term} {x1 x2 x3 x4 : Int} {q2 : Nat} {f3 f7 : List Term} (g4 : s_get h q2 = some (1, 9, f3)) (g8 : s_get (hp h q2 (1, 9, f3.set 1 (vi ((x1 + x4) + x3)))) q2 = some (1, 9, f7)) (k : wm P d 304 [.index q2] (hp h q2 (1, 9, f3.set 1 (vi ((x1 + x4) + x3)))) (wq P d sw_c306 sw_h306 99 [.index q2, vi x1, vi x2, vi x3, vi x4] [] kc ks Q)) (e_q2 : r0 = .index q2 := by first | rfl | assumption) (y1 : s_ty r0 = 3 := by first | rfl | assumption) (l5 : 1 < f3.length := by first | exact Nat.le_of_ble_eq_true rfl | omega | assumption) (c6 : 0 < q2 := by first | omega | assumption | (simp only [mk_len, List.length_map]; omega) | decide) : wr P d sw_c306 sw_h306 (85, [r0, vi x1, vi x2, vi x3, vi x4], [], h, kc, ks) Q := by
  refine w_ld rfl rfl (Or.inr (Or.inr ⟨by decide, y1⟩)) ?_
  refine w_ld rfl rfl (Or.inl ⟨by decide, rfl⟩) ?_
  refine w_ld rfl rfl (Or.inl ⟨by decide, rfl⟩) ?_
  refine w_iadd rfl ?_
  refine w_ld rfl rfl (Or.inl ⟨by decide, rfl⟩) ?_
  refine w_iadd rfl ?_
  subst e_q2
  refine w_putf rfl g4 (Nat.ble_eq_true_of_le c6) rfl (Nat.ble_eq_true_of_le l5) ?_
  refine w_ld rfl rfl (Or.inr (Or.inr ⟨by decide, rfl⟩)) ?_
  exact w_cv rfl [.index q2] [] rfl rfl (s_wt_4 rfl) rfl g8 k

/-! 307: FormulaWorks$Trees.second(I)I -/
theorem k307_0 {P : s_P} {d : Nat} {Q : s_O → Prop} {h : s_H} {kc ks : Nat} {r0 : Term} {x1 : Int} {t2 : Term} {q2 : Nat} {f3 : List Term} (g4 : s_get h q2 = some (1, 9, f3)) (k : wm P d 318 [.index q2, vi x1] h (wq P d sw_c307 sw_h307 5 [.index q2, vi x1, t2] [] kc ks Q)) (e_q2 : r0 = .index q2 := by first | rfl | assumption) (y1 : s_ty r0 = 3 := by first | rfl | assumption)  : wr P d sw_c307 sw_h307 (0, [r0, vi x1, t2], [], h, kc, ks) Q := by
  refine w_ld rfl rfl (Or.inr (Or.inr ⟨by decide, y1⟩)) ?_
  refine w_ld rfl rfl (Or.inl ⟨by decide, rfl⟩) ?_
  subst e_q2
  exact w_cv rfl [.index q2, vi x1] [] rfl rfl (s_wt_4 rfl) rfl g4 k

theorem k307_11 {P : s_P} {d : Nat} {Q : s_O → Prop} {h : s_H} {kc ks : Nat} {r0 : Term} {x1 x2 : Int}  (k1 : 5 < x2 → wr P d sw_c307 sw_h307 (30, [r0, vi x1, vi x2], [], h, kc, ks) Q) (k2 : ¬ 5 < x2 → wr P d sw_c307 sw_h307 (16, [r0, vi x1, vi x2], [], h, kc, ks) Q)  (c1 : In3 x2 := by first | omega | assumption | (simp only [mk_len, List.length_map]; omega) | decide) : wr P d sw_c307 sw_h307 (11, [r0, vi x1, vi x2], [], h, kc, ks) Q := by
  refine w_ld rfl rfl (Or.inl ⟨by decide, rfl⟩) ?_
  refine w_c32 rfl (by decide) 5 (by decide) ?_
  exact w_if2 rfl c1 (by decide) k1 k2

theorem k307_16 {P : s_P} {d : Nat} {Q : s_O → Prop} {h : s_H} {kc ks : Nat} {r0 : Term} {x1 x2 : Int} {q2 : Nat} {f3 : List Term} (g4 : s_get h q2 = some (1, 9, f3)) (k : wm P d 317 [.index q2, vi (x1 + 1)] h (wq P d sw_c307 sw_h307 26 [.index q2, vi x1, vi x2] [vi (x1 + 1)] kc ks Q)) (e_q2 : r0 = .index q2 := by first | rfl | assumption) (y1 : s_ty r0 = 3 := by first | rfl | assumption)  : wr P d sw_c307 sw_h307 (16, [r0, vi x1, vi x2], [], h, kc, ks) Q := by
  refine w_ld rfl rfl (Or.inl ⟨by decide, rfl⟩) ?_
  refine w_c32 rfl (by decide) 1 (by decide) ?_
  refine w_iadd rfl ?_
  refine w_ld rfl rfl (Or.inr (Or.inr ⟨by decide, y1⟩)) ?_
  refine w_ld rfl rfl (Or.inl ⟨by decide, rfl⟩) ?_
  refine w_c32 rfl (by decide) 1 (by decide) ?_
  refine w_iadd rfl ?_
  subst e_q2
  exact w_cv rfl [.index q2, vi (x1 + 1)] [vi (x1 + 1)] rfl rfl (s_wt_4 rfl) rfl g4 k

theorem k307_30 {P : s_P} {d : Nat} {Q : s_O → Prop} {h : s_H} {kc ks : Nat} {r0 : Term} {x1 x2 : Int}  (k : wr P d sw_c307 sw_h307 (31, [r0, vi x1, vi x2], [vi (-1)], h, kc, ks) Q)   : wr P d sw_c307 sw_h307 (30, [r0, vi x1, vi x2], [], h, kc, ks) Q := by
  refine w_c32 rfl (by decide) (-1) (by decide) ?_
  exact k

theorem k307_31 {P : s_P} {d : Nat} {Q : s_O → Prop} {h : s_H} {kc ks : Nat} {r0 : Term} {x1 x2 s0 : Int}  (k : Q (.inl (some (vi s0)), h, kc, ks))   : wr P d sw_c307 sw_h307 (31, [r0, vi x1, vi x2], [vi s0], h, kc, ks) Q := by
  exact w_iret rfl k

/-! 308: FormulaWorks$Trees.show(I)V -/
theorem k308_0 {P : s_P} {d : Nat} {Q : s_O → Prop} {h : s_H} {kc ks : Nat} {r0 : Term} {x1 : Int} {q2 : Nat} {f3 : List Term} {z5 : Int} {v7 : Term} {q9 : Nat} {a10 : List Term} {tg12 : Nat} (g4 : s_get h q2 = some (1, 9, f3)) (g11 : s_get h q9 = some (0, tg12, a10)) (k1 : z5 < (a10.length : Int) → wr P d sw_c308 sw_h308 (13, [.index q2, vi x1], [], h, kc, ks) Q) (k2 : ¬ z5 < (a10.length : Int) → wr P d sw_c308 sw_h308 (12, [.index q2, vi x1], [], h, kc, ks) Q) (e_q2 : r0 = .index q2 := by first | rfl | assumption) (e_q9 : v7 = .index q9 := by first | rfl | assumption) (y1 : s_ty r0 = 3 := by first | rfl | assumption) (n6 : s_nth f3 8 = some (vi z5) := by first | rfl | assumption) (n8 : s_nth f3 7 = some v7 := by first | rfl | assumption) (c13 : In3 z5 := by first | omega | assumption | (simp only [mk_len, List.length_map]; omega) | decide) (c14 : In3 (a10.length : Int) := by first | omega | assumption | (simp only [mk_len, List.length_map]; omega) | decide) : wr P d sw_c308 sw_h308 (0, [r0, vi x1], [], h, kc, ks) Q := by
  refine w_ld rfl rfl (Or.inr (Or.inr ⟨by decide, y1⟩)) ?_
  subst e_q2
  refine w_getf rfl g4 n6 ?_
  refine w_ld rfl rfl (Or.inr (Or.inr ⟨by decide, rfl⟩)) ?_
  refine w_getf rfl g4 n8 ?_
  subst e_q9
  refine w_alen rfl g11 (Or.inl rfl) ?_
  exact w_if2 rfl c13 c14 k1 k2

theorem k308_12 {P : s_P} {d : Nat} {Q : s_O → Prop} {h : s_H} {kc ks : Nat} {r0 : Term} {x1 : Int}  (k : Q (.inl none, h, kc, ks))   : wr P d sw_c308 sw_h308 (12, [r0, vi x1], [], h, kc, ks) Q := by
  exact w_ret rfl k

theorem k308_13 {P : s_P} {d : Nat} {Q : s_O → Prop} {h : s_H} {kc ks : Nat} {r0 : Term} {x1 : Int} {q2 : Nat} {f3 : List Term} {v5 : Term} {z7 : Int} {q9 : Nat} {a10 : List Int} {f16 : List Term} {z18 : Int} (g4 : s_get h q2 = some (1, 9, f3)) (g11 : s_get h q9 = some (0, 0, a10.map vi)) (g17 : s_get (hp h q9 (0, 0, (a10.set (Int.toNat (z7)) x1).map vi)) q2 = some (1, 9, f16)) (k : Q (.inl none, (hp (hp h q9 (0, 0, (a10.set (Int.toNat (z7)) x1).map vi)) q2 (1, 9, f16.set 8 (vi (z18 + 1)))), kc, ks)) (e_q2 : r0 = .index q2 := by first | rfl | assumption) (e_q9 : v5 = .index q9 := by first | rfl | assumption) (y1 : s_ty r0 = 3 := by first | rfl | assumption) (n6 : s_nth f3 7 = some v5 := by first | rfl | assumption) (n8 : s_nth f3 8 = some (vi z7) := by first | rfl | assumption) (n19 : s_nth f16 8 = some (vi z18) := by first | rfl | assumption) (l20 : 8 < f16.length := by first | exact Nat.le_of_ble_eq_true rfl | omega | assumption) (c12 : z7 < a10.length := by first | omega | assumption | (simp only [mk_len, List.length_map]; omega) | decide) (c13 : 0 ≤ z7 := by first | omega | assumption | (simp only [mk_len, List.length_map]; omega) | decide) (c14 : In3 z7 := by first | omega | assumption | (simp only [mk_len, List.length_map]; omega) | decide) (c15 : 0 < q9 := by first | omega | assumption | (simp only [mk_len, List.length_map]; omega) | decide) (c21 : 0 < q2 := by first | omega | assumption | (simp only [mk_len, List.length_map]; omega) | decide) : wr P d sw_c308 sw_h308 (13, [r0, vi x1], [], h, kc, ks) Q := by
  refine w_ld rfl rfl (Or.inr (Or.inr ⟨by decide, y1⟩)) ?_
  subst e_q2
  refine w_getf rfl g4 n6 ?_
  refine w_ld rfl rfl (Or.inr (Or.inr ⟨by decide, rfl⟩)) ?_
  refine w_getf rfl g4 n8 ?_
  refine w_ld rfl rfl (Or.inl ⟨by decide, rfl⟩) ?_
  subst e_q9
  refine w_iast rfl g11 (Nat.ble_eq_true_of_le c15) c14 c13 c12 ?_
  refine w_ld rfl rfl (Or.inr (Or.inr ⟨by decide, rfl⟩)) ?_
  refine w_dup rfl rfl ?_
  refine w_getf rfl g17 n19 ?_
  refine w_c32 rfl (by decide) 1 (by decide) ?_
  refine w_iadd rfl ?_
  refine w_putf rfl g17 (Nat.ble_eq_true_of_le c21) rfl (Nat.ble_eq_true_of_le l20) ?_
  exact w_ret rfl k

/-! 309: FormulaWorks$Trees.showFraction(LFormulaWorks$Thing;)V -/
theorem k309_0 {P : s_P} {d : Nat} {Q : s_O → Prop} {h : s_H} {kc ks : Nat} {r0 r1 : Term} {q2 : Nat} {f3 : List Term} {q8 : Nat} {f9 : List Term} (g4 : s_get h q2 = some (1, 9, f3)) (g10 : s_get (hp h q2 (1, 9, f3.set 8 (vi 0))) q8 = some (1, 8, f9)) (k : wm P d 267 [.index q8] (hp h q2 (1, 9, f3.set 8 (vi 0))) (wq P d sw_c309 sw_h309 9 [.index q2, .index q8] [] kc ks Q)) (e_q2 : r0 = .index q2 := by first | rfl | assumption) (e_q8 : r1 = .index q8 := by first | rfl | assumption) (y1 : s_ty r0 = 3 := by first | rfl | assumption) (l5 : 8 < f3.length := by first | exact Nat.le_of_ble_eq_true rfl | omega | assumption) (y7 : s_ty r1 = 3 := by first | rfl | assumption) (c6 : 0 < q2 := by first | omega | assumption | (simp only [mk_len, List.length_map]; omega) | decide) : wr P d sw_c309 sw_h309 (0, [r0, r1], [], h, kc, ks) Q := by
  refine w_ld rfl rfl (Or.inr (Or.inr ⟨by decide, y1⟩)) ?_
  refine w_c32 rfl (by decide) 0 (by decide) ?_
  subst e_q2
  refine w_putf rfl g4 (Nat.ble_eq_true_of_le c6) rfl (Nat.ble_eq_true_of_le l5) ?_
  refine w_ld rfl rfl (Or.inr (Or.inr ⟨by decide, y7⟩)) ?_
  subst e_q8
  exact w_cv rfl [.index q8] [] rfl rfl (s_wt_4 rfl) rfl g10 k

theorem k309_9 {P : s_P} {d : Nat} {Q : s_O → Prop} {h : s_H} {kc ks : Nat} {r0 r1 : Term} {s0 : Int}  (k1 : s0 = 0 → wr P d sw_c309 sw_h309 (21, [r0, r1], [], h, kc, ks) Q) (k2 : ¬ s0 = 0 → wr P d sw_c309 sw_h309 (12, [r0, r1], [], h, kc, ks) Q)  (c1 : In3 s0 := by first | omega | assumption | (simp only [mk_len, List.length_map]; omega) | decide) : wr P d sw_c309 sw_h309 (9, [r0, r1], [vi s0], h, kc, ks) Q := by
  exact w_if1 rfl c1 k1 k2

theorem k309_12 {P : s_P} {d : Nat} {Q : s_O → Prop} {h : s_H} {kc ks : Nat} {r0 r1 : Term} {q3 : Nat} {f4 : List Term} {v6 : Term} {q8 : Nat} {f9 : List Term} (g5 : s_get h q3 = some (1, 8, f4)) (g10 : s_get h q8 = some (1, 9, f9)) (k : wm P d 312 [.index q8, v6] h (wq P d sw_c309 sw_h309 20 [.index q8, .index q3] [] kc ks Q)) (e_q3 : r1 = .index q3 := by first | rfl | assumption) (e_q8 : r0 = .index q8 := by first | rfl | assumption) (y1 : s_ty r0 = 3 := by first | rfl | assumption) (y2 : s_ty r1 = 3 := by first | rfl | assumption) (n7 : s_nth f4 1 = some v6 := by first | rfl | assumption)  : wr P d sw_c309 sw_h309 (12, [r0, r1], [], h, kc, ks) Q := by
  refine w_ld rfl rfl (Or.inr (Or.inr ⟨by decide, y1⟩)) ?_
  refine w_ld rfl rfl (Or.inr (Or.inr ⟨by decide, y2⟩)) ?_
  subst e_q3
  refine w_getf rfl g5 n7 ?_
  subst e_q8
  exact w_cv rfl [.index q8, v6] [] rfl rfl (s_wt_4 rfl) rfl g10 k

theorem k309_21 {P : s_P} {d : Nat} {Q : s_O → Prop} {h : s_H} {kc ks : Nat} {r0 r1 : Term} {q2 : Nat} {f3 : List Term} (g4 : s_get h q2 = some (1, 9, f3)) (k : wm P d 308 [.index q2, vi 40] h (wq P d sw_c309 sw_h309 27 [.index q2, r1] [] kc ks Q)) (e_q2 : r0 = .index q2 := by first | rfl | assumption) (y1 : s_ty r0 = 3 := by first | rfl | assumption)  : wr P d sw_c309 sw_h309 (21, [r0, r1], [], h, kc, ks) Q := by
  refine w_ld rfl rfl (Or.inr (Or.inr ⟨by decide, y1⟩)) ?_
  refine w_c32 rfl (by decide) 40 (by decide) ?_
  subst e_q2
  exact w_cv rfl [.index q2, vi 40] [] rfl rfl (s_wt_4 rfl) rfl g4 k

/-! 310: FormulaWorks$Trees.showNode(I)V -/
theorem k310_0 {P : s_P} {d : Nat} {Q : s_O → Prop} {h : s_H} {kc ks : Nat} {r0 : Term} {x1 : Int} {t2 : Term} {q2 : Nat} {f3 : List Term} (g4 : s_get h q2 = some (1, 9, f3)) (k : wm P d 318 [.index q2, vi x1] h (wq P d sw_c310 sw_h310 5 [.index q2, vi x1, t2] [] kc ks Q)) (e_q2 : r0 = .index q2 := by first | rfl | assumption) (y1 : s_ty r0 = 3 := by first | rfl | assumption)  : wr P d sw_c310 sw_h310 (0, [r0, vi x1, t2], [], h, kc, ks) Q := by
  refine w_ld rfl rfl (Or.inr (Or.inr ⟨by decide, y1⟩)) ?_
  refine w_ld rfl rfl (Or.inl ⟨by decide, rfl⟩) ?_
  subst e_q2
  exact w_cv rfl [.index q2, vi x1] [] rfl rfl (s_wt_4 rfl) rfl g4 k

theorem k310_10 {P : s_P} {d : Nat} {Q : s_O → Prop} {h : s_H} {kc ks : Nat} {r0 : Term} {x1 x2 : Int} {q2 : Nat} {f3 : List Term} (g4 : s_get h q2 = some (1, 9, f3)) (k : wm P d 274 [.index q2, vi x1] h (wq P d sw_c310 sw_h310 16 [.index q2, vi x1, vi x2] [.index q2] kc ks Q)) (e_q2 : r0 = .index q2 := by first | rfl | assumption) (y1 : s_ty r0 = 3 := by first | rfl | assumption)  : wr P d sw_c310 sw_h310 (10, [r0, vi x1, vi x2], [], h, kc, ks) Q := by
  refine w_ld rfl rfl (Or.inr (Or.inr ⟨by decide, y1⟩)) ?_
  refine w_ld rfl rfl (Or.inr (Or.inr ⟨by decide, y1⟩)) ?_
  refine w_ld rfl rfl (Or.inl ⟨by decide, rfl⟩) ?_
  subst e_q2
  exact w_cv rfl [.index q2, vi x1] [.index q2] rfl rfl (s_wt_4 rfl) rfl g4 k

theorem k310_22 {P : s_P} {d : Nat} {Q : s_O → Prop} {h : s_H} {kc ks : Nat} {r0 : Term} {x1 x2 : Int}  (k1 : x2 ≠ 1 → wr P d sw_c310 sw_h310 (36, [r0, vi x1, vi x2], [], h, kc, ks) Q) (k2 : ¬ x2 ≠ 1 → wr P d sw_c310 sw_h310 (27, [r0, vi x1, vi x2], [], h, kc, ks) Q)  (c1 : In3 x2 := by first | omega | assumption | (simp only [mk_len, List.length_map]; omega) | decide) : wr P d sw_c310 sw_h310 (22, [r0, vi x1, vi x2], [], h, kc, ks) Q := by
  refine w_ld rfl rfl (Or.inl ⟨by decide, rfl⟩) ?_
  refine w_c32 rfl (by decide) 1 (by decide) ?_
  exact w_if2 rfl c1 (by decide) k1 k2

theorem k310_27 {P : s_P} {d : Nat} {Q : s_O → Prop} {h : s_H} {kc ks : Nat} {r0 : Term} {x1 x2 : Int} {q2 : Nat} {f3 : List Term} (g4 : s_get h q2 = some (1, 9, f3)) (k : wm P d 308 [.index q2, vi 120] h (wq P d sw_c310 sw_h310 33 [.index q2, vi x1, vi x2] [] kc ks Q)) (e_q2 : r0 = .index q2 := by first | rfl | assumption) (y1 : s_ty r0 = 3 := by first | rfl | assumption)  : wr P d sw_c310 sw_h310 (27, [r0, vi x1, vi x2], [], h, kc, ks) Q := by
  refine w_ld rfl rfl (Or.inr (Or.inr ⟨by decide, y1⟩)) ?_
  refine w_c32 rfl (by decide) 120 (by decide) ?_
  subst e_q2
  exact w_cv rfl [.index q2, vi 120] [] rfl rfl (s_wt_4 rfl) rfl g4 k

theorem k310_36 {P : s_P} {d : Nat} {Q : s_O → Prop} {h : s_H} {kc ks : Nat} {r0 : Term} {x1 x2 : Int}  (k1 : x2 ≠ 6 → wr P d sw_c310 sw_h310 (59, [r0, vi x1, vi x2], [], h, kc, ks) Q) (k2 : ¬ x2 ≠ 6 → wr P d sw_c310 sw_h310 (42, [r0, vi x1, vi x2], [], h, kc, ks) Q)  (c1 : In3 x2 := by first | omega | assumption | (simp only [mk_len, List.length_map]; omega) | decide) : wr P d sw_c310 sw_h310 (36, [r0, vi x1, vi x2], [], h, kc, ks) Q := by
  refine w_ld rfl rfl (Or.inl ⟨by decide, rfl⟩) ?_
  refine w_c32 rfl (by decide) 6 (by decide) ?_
  exact w_if2 rfl c1 (by decide) k1 k2

theorem k310_42 {P : s_P} {d : Nat} {Q : s_O → Prop} {h : s_H} {kc ks : Nat} {r0 : Term} {x1 x2 : Int} {q2 : Nat} {f3 : List Term} (g4 : s_get h q2 = some (1, 9, f3)) (k : wm P d 308 [.index q2, vi 45] h (wq P d sw_c310 sw_h310 48 [.index q2, vi x1, vi x2] [] kc ks Q)) (e_q2 : r0 = .index q2 := by first | rfl | assumption) (y1 : s_ty r0 = 3 := by first | rfl | assumption)  : wr P d sw_c310 sw_h310 (42, [r0, vi x1, vi x2], [], h, kc, ks) Q := by
  refine w_ld rfl rfl (Or.inr (Or.inr ⟨by decide, y1⟩)) ?_
  refine w_c32 rfl (by decide) 45 (by decide) ?_
  subst e_q2
  exact w_cv rfl [.index q2, vi 45] [] rfl rfl (s_wt_4 rfl) rfl g4 k

theorem k310_59 {P : s_P} {d : Nat} {Q : s_O → Prop} {h : s_H} {kc ks : Nat} {r0 : Term} {x1 x2 : Int}  (k1 : x2 ≠ 7 → wr P d sw_c310 sw_h310 (125, [r0, vi x1, vi x2], [], h, kc, ks) Q) (k2 : ¬ x2 ≠ 7 → wr P d sw_c310 sw_h310 (65, [r0, vi x1, vi x2], [], h, kc, ks) Q)  (c1 : In3 x2 := by first | omega | assumption | (simp only [mk_len, List.length_map]; omega) | decide) : wr P d sw_c310 sw_h310 (59, [r0, vi x1, vi x2], [], h, kc, ks) Q := by
  refine w_ld rfl rfl (Or.inl ⟨by decide, rfl⟩) ?_
  refine w_c32 rfl (by decide) 7 (by decide) ?_
  exact w_if2 rfl c1 (by decide) k1 k2

theorem k310_65 {P : s_P} {d : Nat} {Q : s_O → Prop} {h : s_H} {kc ks : Nat} {r0 : Term} {x1 x2 : Int} {q2 : Nat} {f3 : List Term} (g4 : s_get h q2 = some (1, 9, f3)) (k : wm P d 274 [.index q2, vi x1] h (wq P d sw_c310 sw_h310 73 [.index q2, vi x1, vi x2] [vi (-48), .index q2] kc ks Q)) (e_q2 : r0 = .index q2 := by first | rfl | assumption) (y1 : s_ty r0 = 3 := by first | rfl | assumption)  : wr P d sw_c310 sw_h310 (65, [r0, vi x1, vi x2], [], h, kc, ks) Q := by
  refine w_ld rfl rfl (Or.inr (Or.inr ⟨by decide, y1⟩)) ?_
  refine w_c32 rfl (by decide) (-48) (by decide) ?_
  refine w_ld rfl rfl (Or.inr (Or.inr ⟨by decide, y1⟩)) ?_
  refine w_ld rfl rfl (Or.inl ⟨by decide, rfl⟩) ?_
  subst e_q2
  exact w_cv rfl [.index q2, vi x1] [vi (-48), .index q2] rfl rfl (s_wt_4 rfl) rfl g4 k

theorem k310_90 {P : s_P} {d : Nat} {Q : s_O → Prop} {h : s_H} {kc ks : Nat} {r0 : Term} {x1 x2 : Int} {q2 : Nat} {f3 : List Term} (g4 : s_get h q2 = some (1, 9, f3)) (k : wm P d 274 [.index q2, vi x1] h (wq P d sw_c310 sw_h310 98 [.index q2, vi x1, vi x2] [vi (-48), .index q2] kc ks Q)) (e_q2 : r0 = .index q2 := by first | rfl | assumption) (y1 : s_ty r0 = 3 := by first | rfl | assumption)  : wr P d sw_c310 sw_h310 (90, [r0, vi x1, vi x2], [], h, kc, ks) Q := by
  refine w_ld rfl rfl (Or.inr (Or.inr ⟨by decide, y1⟩)) ?_
  refine w_c32 rfl (by decide) (-48) (by decide) ?_
  refine w_ld rfl rfl (Or.inr (Or.inr ⟨by decide, y1⟩)) ?_
  refine w_ld rfl rfl (Or.inl ⟨by decide, rfl⟩) ?_
  subst e_q2
  exact w_cv rfl [.index q2, vi x1] [vi (-48), .index q2] rfl rfl (s_wt_4 rfl) rfl g4 k

theorem k310_108 {P : s_P} {d : Nat} {Q : s_O → Prop} {h : s_H} {kc ks : Nat} {r0 : Term} {x1 x2 : Int} {q2 : Nat} {f3 : List Term} (g4 : s_get h q2 = some (1, 9, f3)) (k : wm P d 276 [.index q2, vi (-94)] h (wq P d sw_c310 sw_h310 114 [.index q2, vi x1, vi x2] [] kc ks Q)) (e_q2 : r0 = .index q2 := by first | rfl | assumption) (y1 : s_ty r0 = 3 := by first | rfl | assumption)  : wr P d sw_c310 sw_h310 (108, [r0, vi x1, vi x2], [], h, kc, ks) Q := by
  refine w_ld rfl rfl (Or.inr (Or.inr ⟨by decide, y1⟩)) ?_
  refine w_c32 rfl (by decide) (-94) (by decide) ?_
  subst e_q2
  exact w_cv rfl [.index q2, vi (-94)] [] rfl rfl (s_wt_4 rfl) rfl g4 k

theorem k310_125 {P : s_P} {d : Nat} {Q : s_O → Prop} {h : s_H} {kc ks : Nat} {r0 : Term} {x1 x2 : Int} {q2 : Nat} {f3 : List Term} (g4 : s_get h q2 = some (1, 9, f3)) (k : wm P d 307 [.index q2, vi x1] h (wq P d sw_c310 sw_h310 132 [.index q2, vi x1, vi x2] [vi x1, .index q2] kc ks Q)) (e_q2 : r0 = .index q2 := by first | rfl | assumption) (y1 : s_ty r0 = 3 := by first | rfl | assumption)  : wr P d sw_c310 sw_h310 (125, [r0, vi x1, vi x2], [], h, kc, ks) Q := by
  refine w_ld rfl rfl (Or.inr (Or.inr ⟨by decide, y1⟩)) ?_
  refine w_ld rfl rfl (Or.inl ⟨by decide, rfl⟩) ?_
  refine w_ld rfl rfl (Or.inr (Or.inr ⟨by decide, y1⟩)) ?_
  refine w_ld rfl rfl (Or.inl ⟨by decide, rfl⟩) ?_
  subst e_q2
  exact w_cv rfl [.index q2, vi x1] [vi x1, .index q2] rfl rfl (s_wt_4 rfl) rfl g4 k

theorem k310_140 {P : s_P} {d : Nat} {Q : s_O → Prop} {h : s_H} {kc ks : Nat} {r0 : Term} {x1 x2 : Int} {s0 : Term} {s1 : Int} {q1 : Nat} {f2 : List Term} (g3 : s_get h q1 = some (1, 9, f2)) (k : wm P d 276 [.index q1, vi (-s1)] h (wq P d sw_c310 sw_h310 144 [r0, vi x1, vi x2] [] kc ks Q)) (e_q1 : s0 = .index q1 := by first | rfl | assumption)  : wr P d sw_c310 sw_h310 (140, [r0, vi x1, vi x2], [vi s1, s0], h, kc, ks) Q := by
  refine w_ineg rfl ?_
  subst e_q1
  exact w_cv rfl [.index q1, vi (-s1)] [] rfl rfl (s_wt_4 rfl) rfl g3 k

theorem k310_152 {P : s_P} {d : Nat} {Q : s_O → Prop} {h : s_H} {kc ks : Nat} {r0 : Term} {x1 x2 : Int}  (k : Q (.inl none, h, kc, ks))   : wr P d sw_c310 sw_h310 (152, [r0, vi x1, vi x2], [], h, kc, ks) Q := by
  exact w_ret rfl k

/-! 311: FormulaWorks$Trees.showNumber(I)V -/
theorem k311_0 {P : s_P} {d : Nat} {Q : s_O → Prop} {h : s_H} {kc ks : Nat} {r0 : Term} {x1 : Int} {t2 t3 : Term}  (k : wr P d sw_c311 sw_h311 (2, [r0, vi x1, vi 1, t3], [], h, kc, ks) Q)   : wr P d sw_c311 sw_h311 (0, [r0, vi x1, t2, t3], [], h, kc, ks) Q := by
  refine w_c32 rfl (by decide) 1 (by decide) ?_
  refine w_st (ls' := [r0, vi x1, vi 1, t3]) rfl (Or.inl ⟨by decide, rfl⟩) rfl ?_
  exact k

theorem k311_2 {P : s_P} {d : Nat} {Q : s_O → Prop} {h : s_H} {kc ks : Nat} {r0 : Term} {x1 x2 : Int} {t3 : Term}  (k1 : Int.tdiv x1 10 < x2 → wr P d sw_c311 sw_h311 (18, [r0, vi x1, vi x2, t3], [], h, kc, ks) Q) (k2 : ¬ Int.tdiv x1 10 < x2 → wr P d sw_c311 sw_h311 (10, [r0, vi x1, vi x2, t3], [], h, kc, ks) Q)  (c1 : In3 x1 := by first | omega | assumption | (simp only [mk_len, List.length_map]; omega) | decide) (c2 : In3 x2 := by first | omega | assumption | (simp only [mk_len, List.length_map]; omega) | decide) (c3 : In3 (Int.tdiv x1 10) := by first | omega | assumption | (simp only [mk_len, List.length_map]; omega) | decide) : wr P d sw_c311 sw_h311 (2, [r0, vi x1, vi x2, t3], [], h, kc, ks) Q := by
  refine w_ld rfl rfl (Or.inl ⟨by decide, rfl⟩) ?_
  refine w_ld rfl rfl (Or.inl ⟨by decide, rfl⟩) ?_
  refine w_c32 rfl (by decide) 10 (by decide) ?_
  refine w_idiv rfl c1 (by decide) (by decide) ?_
  exact w_if2 rfl c2 c3 k1 k2

theorem k311_10 {P : s_P} {d : Nat} {Q : s_O → Prop} {h : s_H} {kc ks : Nat} {r0 : Term} {x1 x2 : Int} {t3 : Term}  (k : wr P d sw_c311 sw_h311 (2, [r0, vi x1, vi (x2 * 10), t3], [], h, kc, ks) Q)   : wr P d sw_c311 sw_h311 (10, [r0, vi x1, vi x2, t3], [], h, kc, ks) Q := by
  refine w_ld rfl rfl (Or.inl ⟨by decide, rfl⟩) ?_
  refine w_c32 rfl (by decide) 10 (by decide) ?_
  refine w_imul rfl ?_
  refine w_st (ls' := [r0, vi x1, vi (x2 * 10), t3]) rfl (Or.inl ⟨by decide, rfl⟩) rfl ?_
  refine w_goto rfl ?_
  exact k

theorem k311_18 {P : s_P} {d : Nat} {Q : s_O → Prop} {h : s_H} {kc ks : Nat} {r0 : Term} {x1 x2 : Int} {t3 : Term}  (k : wr P d sw_c311 sw_h311 (20, [r0, vi x1, vi x2, vi x2], [], h, kc, ks) Q)   : wr P d sw_c311 sw_h311 (18, [r0, vi x1, vi x2, t3], [], h, kc, ks) Q := by
  refine w_ld rfl rfl (Or.inl ⟨by decide, rfl⟩) ?_
  refine w_st (ls' := [r0, vi x1, vi x2, vi x2]) rfl (Or.inl ⟨by decide, rfl⟩) rfl ?_
  exact k

theorem k311_20 {P : s_P} {d : Nat} {Q : s_O → Prop} {h : s_H} {kc ks : Nat} {r0 : Term} {x1 x2 x3 : Int}  (k1 : x3 ≤ 0 → wr P d sw_c311 sw_h311 (45, [r0, vi x1, vi x2, vi x3], [], h, kc, ks) Q) (k2 : ¬ x3 ≤ 0 → wr P d sw_c311 sw_h311 (24, [r0, vi x1, vi x2, vi x3], [], h, kc, ks) Q)  (c1 : In3 x3 := by first | omega | assumption | (simp only [mk_len, List.length_map]; omega) | decide) : wr P d sw_c311 sw_h311 (20, [r0, vi x1, vi x2, vi x3], [], h, kc, ks) Q := by
  refine w_ld rfl rfl (Or.inl ⟨by decide, rfl⟩) ?_
  exact w_if1 rfl c1 k1 k2

theorem k311_24 {P : s_P} {d : Nat} {Q : s_O → Prop} {h : s_H} {kc ks : Nat} {r0 : Term} {x1 x2 x3 : Int} {q6 : Nat} {f7 : List Term} (g8 : s_get h q6 = some (1, 9, f7)) (k : wm P d 308 [.index q6, vi (48 + (Int.tmod (Int.tdiv x1 x3) 10))] h (wq P d sw_c311 sw_h311 37 [.index q6, vi x1, vi x2, vi x3] [] kc ks Q)) (e_q6 : r0 = .index q6 := by first | rfl | assumption) (y1 : s_ty r0 = 3 := by first | rfl | assumption) (c2 : x3 ≠ 0 := by first | omega | assumption | (simp only [mk_len, List.length_map]; omega) | decide) (c3 : In3 x1 := by first | omega | assumption | (simp only [mk_len, List.length_map]; omega) | decide) (c4 : In3 x3 := by first | omega | assumption | (simp only [mk_len, List.length_map]; omega) | decide) (c5 : In3 (Int.tdiv x1 x3) := by first | omega | assumption | (simp only [mk_len, List.length_map]; omega) | decide) : wr P d sw_c311 sw_h311 (24, [r0, vi x1, vi x2, vi x3], [], h, kc, ks) Q := by
  refine w_ld rfl rfl (Or.inr (Or.inr ⟨by decide, y1⟩)) ?_
  refine w_c32 rfl (by decide) 48 (by decide) ?_
  refine w_ld rfl rfl (Or.inl ⟨by decide, rfl⟩) ?_
  refine w_ld rfl rfl (Or.inl ⟨by decide, rfl⟩) ?_
  refine w_idiv rfl c3 c4 c2 ?_
  refine w_c32 rfl (by decide) 10 (by decide) ?_
  refine w_irem rfl c5 (by decide) (by decide) ?_
  refine w_iadd rfl ?_
  subst e_q6
  exact w_cv rfl [.index q6, vi (48 + (Int.tmod (Int.tdiv x1 x3) 10))] [] rfl rfl (s_wt_4 rfl) rfl g8 k

theorem k311_45 {P : s_P} {d : Nat} {Q : s_O → Prop} {h : s_H} {kc ks : Nat} {r0 : Term} {x1 x2 x3 : Int}  (k : Q (.inl none, h, kc, ks))   : wr P d sw_c311 sw_h311 (45, [r0, vi x1, vi x2, vi x3], [], h, kc, ks) Q := by
  exact w_ret rfl k

/-! 312: FormulaWorks$Trees.showPoly(LFormulaWorks$Poly;)V -/
theorem k312_0 {P : s_P} {d : Nat} {Q : s_O → Prop} {h : s_H} {kc ks : Nat} {r0 r1 t2 t3 : Term} {q2 : Nat} {f3 : List Term} {z5 : Int} (g4 : s_get h q2 = some (1, 4, f3)) (k1 : 0 ≤ z5 → wr P d sw_c312 sw_h312 (13, [r0, .index q2, t2, t3], [], h, kc, ks) Q) (k2 : ¬ 0 ≤ z5 → wr P d sw_c312 sw_h312 (7, [r0, .index q2, t2, t3], [], h, kc, ks) Q) (e_q2 : r1 = .index q2 := by first | rfl | assumption) (y1 : s_ty r1 = 3 := by first | rfl | assumption) (n6 : s_nth f3 1 = some (vi z5) := by first | rfl | assumption) (c7 : In3 z5 := by first | omega | assumption | (simp only [mk_len, List.length_map]; omega) | decide) : wr P d sw_c312 sw_h312 (0, [r0, r1, t2, t3], [], h, kc, ks) Q := by
  refine w_ld rfl rfl (Or.inr (Or.inr ⟨by decide, y1⟩)) ?_
  subst e_q2
  refine w_getf rfl g4 n6 ?_
  exact w_if1 rfl c7 k1 k2

theorem k312_7 {P : s_P} {d : Nat} {Q : s_O → Prop} {h : s_H} {kc ks : Nat} {r0 r1 t2 t3 : Term} {q2 : Nat} {f3 : List Term} (g4 : s_get h q2 = some (1, 9, f3)) (k : wm P d 308 [.index q2, vi 48] h (wq P d sw_c312 sw_h312 13 [.index q2, r1, t2, t3] [] kc ks Q)) (e_q2 : r0 = .index q2 := by first | rfl | assumption) (y1 : s_ty r0 = 3 := by first | rfl | assumption)  : wr P d sw_c312 sw_h312 (7, [r0, r1, t2, t3], [], h, kc, ks) Q := by
  refine w_ld rfl rfl (Or.inr (Or.inr ⟨by decide, y1⟩)) ?_
  refine w_c32 rfl (by decide) 48 (by decide) ?_
  subst e_q2
  exact w_cv rfl [.index q2, vi 48] [] rfl rfl (s_wt_4 rfl) rfl g4 k

theorem k312_13 {P : s_P} {d : Nat} {Q : s_O → Prop} {h : s_H} {kc ks : Nat} {r0 r1 t2 t3 : Term} {q2 : Nat} {f3 : List Term} {z5 : Int} (g4 : s_get h q2 = some (1, 4, f3)) (k : wr P d sw_c312 sw_h312 (18, [r0, .index q2, vi z5, t3], [], h, kc, ks) Q) (e_q2 : r1 = .index q2 := by first | rfl | assumption) (y1 : s_ty r1 = 3 := by first | rfl | assumption) (n6 : s_nth f3 1 = some (vi z5) := by first | rfl | assumption)  : wr P d sw_c312 sw_h312 (13, [r0, r1, t2, t3], [], h, kc, ks) Q := by
  refine w_ld rfl rfl (Or.inr (Or.inr ⟨by decide, y1⟩)) ?_
  subst e_q2
  refine w_getf rfl g4 n6 ?_
  refine w_st (ls' := [r0, .index q2, vi z5, t3]) rfl (Or.inl ⟨by decide, rfl⟩) rfl ?_
  exact k

theorem k312_18 {P : s_P} {d : Nat} {Q : s_O → Prop} {h : s_H} {kc ks : Nat} {r0 r1 : Term} {x2 : Int} {t3 : Term}  (k1 : x2 < 0 → wr P d sw_c312 sw_h312 (110, [r0, r1, vi x2, t3], [], h, kc, ks) Q) (k2 : ¬ x2 < 0 → wr P d sw_c312 sw_h312 (22, [r0, r1, vi x2, t3], [], h, kc, ks) Q)  (c1 : In3 x2 := by first | omega | assumption | (simp only [mk_len, List.length_map]; omega) | decide) : wr P d sw_c312 sw_h312 (18, [r0, r1, vi x2, t3], [], h, kc, ks) Q := by
  refine w_ld rfl rfl (Or.inl ⟨by decide, rfl⟩) ?_
  exact w_if1 rfl c1 k1 k2

theorem k312_22 {P : s_P} {d : Nat} {Q : s_O → Prop} {h : s_H} {kc ks : Nat} {r0 r1 : Term} {x2 : Int} {t3 : Term} {q2 : Nat} {f3 : List Term} (g4 : s_get h q2 = some (1, 4, f3)) (k : wm P d 167 [.index q2, vi x2] h (wq P d sw_c312 sw_h312 27 [r0, .index q2, vi x2, t3] [] kc ks Q)) (e_q2 : r1 = .index q2 := by first | rfl | assumption) (y1 : s_ty r1 = 3 := by first | rfl | assumption)  : wr P d sw_c312 sw_h312 (22, [r0, r1, vi x2, t3], [], h, kc, ks) Q := by
  refine w_ld rfl rfl (Or.inr (Or.inr ⟨by decide, y1⟩)) ?_
  refine w_ld rfl rfl (Or.inl ⟨by decide, rfl⟩) ?_
  subst e_q2
  exact w_cv rfl [.index q2, vi x2] [] rfl rfl (s_wt_4 rfl) rfl g4 k

theorem k312_27 {P : s_P} {d : Nat} {Q : s_O → Prop} {h : s_H} {kc ks : Nat} {r0 r1 : Term} {x2 : Int} {t3 : Term} {s0 : Int}  (k1 : s0 ≠ 0 → wr P d sw_c312 sw_h312 (35, [r0, r1, vi x2, vi s0], [], h, kc, ks) Q) (k2 : ¬ s0 ≠ 0 → wr P d sw_c312 sw_h312 (32, [r0, r1, vi x2, vi s0], [], h, kc, ks) Q)  (c1 : In3 s0 := by first | omega | assumption | (simp only [mk_len, List.length_map]; omega) | decide) : wr P d sw_c312 sw_h312 (27, [r0, r1, vi x2, t3], [vi s0], h, kc, ks) Q := by
  refine w_st (ls' := [r0, r1, vi x2, vi s0]) rfl (Or.inl ⟨by decide, rfl⟩) rfl ?_
  refine w_ld rfl rfl (Or.inl ⟨by decide, rfl⟩) ?_
  exact w_if1 rfl c1 k1 k2

theorem k312_32 {P : s_P} {d : Nat} {Q : s_O → Prop} {h : s_H} {kc ks : Nat} {r0 r1 : Term} {x2 x3 : Int}  (k : wr P d sw_c312 sw_h312 (104, [r0, r1, vi x2, vi x3], [], h, kc, ks) Q)   : wr P d sw_c312 sw_h312 (32, [r0, r1, vi x2, vi x3], [], h, kc, ks) Q := by
  refine w_goto rfl ?_
  exact k

theorem k312_35 {P : s_P} {d : Nat} {Q : s_O → Prop} {h : s_H} {kc ks : Nat} {r0 r1 : Term} {x2 x3 : Int} {q2 : Nat} {f3 : List Term} {z5 : Int} (g4 : s_get h q2 = some (1, 4, f3)) (k1 : z5 ≤ x2 → wr P d sw_c312 sw_h312 (49, [r0, .index q2, vi x2, vi x3], [], h, kc, ks) Q) (k2 : ¬ z5 ≤ x2 → wr P d sw_c312 sw_h312 (43, [r0, .index q2, vi x2, vi x3], [], h, kc, ks) Q) (e_q2 : r1 = .index q2 := by first | rfl | assumption) (y1 : s_ty r1 = 3 := by first | rfl | assumption) (n6 : s_nth f3 1 = some (vi z5) := by first | rfl | assumption) (c7 : In3 x2 := by first | omega | assumption | (simp only [mk_len, List.length_map]; omega) | decide) (c8 : In3 z5 := by first | omega | assumption | (simp only [mk_len, List.length_map]; omega) | decide) : wr P d sw_c312 sw_h312 (35, [r0, r1, vi x2, vi x3], [], h, kc, ks) Q := by
  refine w_ld rfl rfl (Or.inl ⟨by decide, rfl⟩) ?_
  refine w_ld rfl rfl (Or.inr (Or.inr ⟨by decide, y1⟩)) ?_
  subst e_q2
  refine w_getf rfl g4 n6 ?_
  exact w_if2 rfl c7 c8 k1 k2

theorem k312_43 {P : s_P} {d : Nat} {Q : s_O → Prop} {h : s_H} {kc ks : Nat} {r0 r1 : Term} {x2 x3 : Int} {q2 : Nat} {f3 : List Term} (g4 : s_get h q2 = some (1, 9, f3)) (k : wm P d 308 [.index q2, vi 43] h (wq P d sw_c312 sw_h312 49 [.index q2, r1, vi x2, vi x3] [] kc ks Q)) (e_q2 : r0 = .index q2 := by first | rfl | assumption) (y1 : s_ty r0 = 3 := by first | rfl | assumption)  : wr P d sw_c312 sw_h312 (43, [r0, r1, vi x2, vi x3], [], h, kc, ks) Q := by
  refine w_ld rfl rfl (Or.inr (Or.inr ⟨by decide, y1⟩)) ?_
  refine w_c32 rfl (by decide) 43 (by decide) ?_
  subst e_q2
  exact w_cv rfl [.index q2, vi 43] [] rfl rfl (s_wt_4 rfl) rfl g4 k

theorem k312_49 {P : s_P} {d : Nat} {Q : s_O → Prop} {h : s_H} {kc ks : Nat} {r0 r1 : Term} {x2 x3 : Int}  (k1 : x3 ≠ 1 → wr P d sw_c312 sw_h312 (58, [r0, r1, vi x2, vi x3], [], h, kc, ks) Q) (k2 : ¬ x3 ≠ 1 → wr P d sw_c312 sw_h312 (54, [r0, r1, vi x2, vi x3], [], h, kc, ks) Q)  (c1 : In3 x3 := by first | omega | assumption | (simp only [mk_len, List.length_map]; omega) | decide) : wr P d sw_c312 sw_h312 (49, [r0, r1, vi x2, vi x3], [], h, kc, ks) Q := by
  refine w_ld rfl rfl (Or.inl ⟨by decide, rfl⟩) ?_
  refine w_c32 rfl (by decide) 1 (by decide) ?_
  exact w_if2 rfl c1 (by decide) k1 k2

theorem k312_54 {P : s_P} {d : Nat} {Q : s_O → Prop} {h : s_H} {kc ks : Nat} {r0 r1 : Term} {x2 x3 : Int}  (k1 : x2 ≠ 0 → wr P d sw_c312 sw_h312 (63, [r0, r1, vi x2, vi x3], [], h, kc, ks) Q) (k2 : ¬ x2 ≠ 0 → wr P d sw_c312 sw_h312 (58, [r0, r1, vi x2, vi x3], [], h, kc, ks) Q)  (c1 : In3 x2 := by first | omega | assumption | (simp only [mk_len, List.length_map]; omega) | decide) : wr P d sw_c312 sw_h312 (54, [r0, r1, vi x2, vi x3], [], h, kc, ks) Q := by
  refine w_ld rfl rfl (Or.inl ⟨by decide, rfl⟩) ?_
  exact w_if1 rfl c1 k1 k2

theorem k312_58 {P : s_P} {d : Nat} {Q : s_O → Prop} {h : s_H} {kc ks : Nat} {r0 r1 : Term} {x2 x3 : Int} {q2 : Nat} {f3 : List Term} (g4 : s_get h q2 = some (1, 9, f3)) (k : wm P d 311 [.index q2, vi x3] h (wq P d sw_c312 sw_h312 63 [.index q2, r1, vi x2, vi x3] [] kc ks Q)) (e_q2 : r0 = .index q2 := by first | rfl | assumption) (y1 : s_ty r0 = 3 := by first | rfl | assumption)  : wr P d sw_c312 sw_h312 (58, [r0, r1, vi x2, vi x3], [], h, kc, ks) Q := by
  refine w_ld rfl rfl (Or.inr (Or.inr ⟨by decide, y1⟩)) ?_
  refine w_ld rfl rfl (Or.inl ⟨by decide, rfl⟩) ?_
  subst e_q2
  exact w_cv rfl [.index q2, vi x3] [] rfl rfl (s_wt_4 rfl) rfl g4 k

theorem k312_63 {P : s_P} {d : Nat} {Q : s_O → Prop} {h : s_H} {kc ks : Nat} {r0 r1 : Term} {x2 x3 : Int}  (k1 : x3 = 1 → wr P d sw_c312 sw_h312 (78, [r0, r1, vi x2, vi x3], [], h, kc, ks) Q) (k2 : ¬ x3 = 1 → wr P d sw_c312 sw_h312 (68, [r0, r1, vi x2, vi x3], [], h, kc, ks) Q)  (c1 : In3 x3 := by first | omega | assumption | (simp only [mk_len, List.length_map]; omega) | decide) : wr P d sw_c312 sw_h312 (63, [r0, r1, vi x2, vi x3], [], h, kc, ks) Q := by
  refine w_ld rfl rfl (Or.inl ⟨by decide, rfl⟩) ?_
  refine w_c32 rfl (by decide) 1 (by decide) ?_
  exact w_if2 rfl c1 (by decide) k1 k2

theorem k312_68 {P : s_P} {d : Nat} {Q : s_O → Prop} {h : s_H} {kc ks : Nat} {r0 r1 : Term} {x2 x3 : Int}  (k1 : x2 ≤ 0 → wr P d sw_c312 sw_h312 (78, [r0, r1, vi x2, vi x3], [], h, kc, ks) Q) (k2 : ¬ x2 ≤ 0 → wr P d sw_c312 sw_h312 (72, [r0, r1, vi x2, vi x3], [], h, kc, ks) Q)  (c1 : In3 x2 := by first | omega | assumption | (simp only [mk_len, List.length_map]; omega) | decide) : wr P d sw_c312 sw_h312 (68, [r0, r1, vi x2, vi x3], [], h, kc, ks) Q := by
  refine w_ld rfl rfl (Or.inl ⟨by decide, rfl⟩) ?_
  exact w_if1 rfl c1 k1 k2

theorem k312_72 {P : s_P} {d : Nat} {Q : s_O → Prop} {h : s_H} {kc ks : Nat} {r0 r1 : Term} {x2 x3 : Int} {q2 : Nat} {f3 : List Term} (g4 : s_get h q2 = some (1, 9, f3)) (k : wm P d 308 [.index q2, vi 42] h (wq P d sw_c312 sw_h312 78 [.index q2, r1, vi x2, vi x3] [] kc ks Q)) (e_q2 : r0 = .index q2 := by first | rfl | assumption) (y1 : s_ty r0 = 3 := by first | rfl | assumption)  : wr P d sw_c312 sw_h312 (72, [r0, r1, vi x2, vi x3], [], h, kc, ks) Q := by
  refine w_ld rfl rfl (Or.inr (Or.inr ⟨by decide, y1⟩)) ?_
  refine w_c32 rfl (by decide) 42 (by decide) ?_
  subst e_q2
  exact w_cv rfl [.index q2, vi 42] [] rfl rfl (s_wt_4 rfl) rfl g4 k

theorem k312_78 {P : s_P} {d : Nat} {Q : s_O → Prop} {h : s_H} {kc ks : Nat} {r0 r1 : Term} {x2 x3 : Int}  (k1 : x2 ≤ 0 → wr P d sw_c312 sw_h312 (88, [r0, r1, vi x2, vi x3], [], h, kc, ks) Q) (k2 : ¬ x2 ≤ 0 → wr P d sw_c312 sw_h312 (82, [r0, r1, vi x2, vi x3], [], h, kc, ks) Q)  (c1 : In3 x2 := by first | omega | assumption | (simp only [mk_len, List.length_map]; omega) | decide) : wr P d sw_c312 sw_h312 (78, [r0, r1, vi x2, vi x3], [], h, kc, ks) Q := by
  refine w_ld rfl rfl (Or.inl ⟨by decide, rfl⟩) ?_
  exact w_if1 rfl c1 k1 k2

theorem k312_82 {P : s_P} {d : Nat} {Q : s_O → Prop} {h : s_H} {kc ks : Nat} {r0 r1 : Term} {x2 x3 : Int} {q2 : Nat} {f3 : List Term} (g4 : s_get h q2 = some (1, 9, f3)) (k : wm P d 308 [.index q2, vi 120] h (wq P d sw_c312 sw_h312 88 [.index q2, r1, vi x2, vi x3] [] kc ks Q)) (e_q2 : r0 = .index q2 := by first | rfl | assumption) (y1 : s_ty r0 = 3 := by first | rfl | assumption)  : wr P d sw_c312 sw_h312 (82, [r0, r1, vi x2, vi x3], [], h, kc, ks) Q := by
  refine w_ld rfl rfl (Or.inr (Or.inr ⟨by decide, y1⟩)) ?_
  refine w_c32 rfl (by decide) 120 (by decide) ?_
  subst e_q2
  exact w_cv rfl [.index q2, vi 120] [] rfl rfl (s_wt_4 rfl) rfl g4 k

theorem k312_88 {P : s_P} {d : Nat} {Q : s_O → Prop} {h : s_H} {kc ks : Nat} {r0 r1 : Term} {x2 x3 : Int}  (k1 : x2 ≤ 1 → wr P d sw_c312 sw_h312 (104, [r0, r1, vi x2, vi x3], [], h, kc, ks) Q) (k2 : ¬ x2 ≤ 1 → wr P d sw_c312 sw_h312 (93, [r0, r1, vi x2, vi x3], [], h, kc, ks) Q)  (c1 : In3 x2 := by first | omega | assumption | (simp only [mk_len, List.length_map]; omega) | decide) : wr P d sw_c312 sw_h312 (88, [r0, r1, vi x2, vi x3], [], h, kc, ks) Q := by
  refine w_ld rfl rfl (Or.inl ⟨by decide, rfl⟩) ?_
  refine w_c32 rfl (by decide) 1 (by decide) ?_
  exact w_if2 rfl c1 (by decide) k1 k2

theorem k312_93 {P : s_P} {d : Nat} {Q : s_O → Prop} {h : s_H} {kc ks : Nat} {r0 r1 : Term} {x2 x3 : Int} {q2 : Nat} {f3 : List Term} (g4 : s_get h q2 = some (1, 9, f3)) (k : wm P d 308 [.index q2, vi 94] h (wq P d sw_c312 sw_h312 99 [.index q2, r1, vi x2, vi x3] [] kc ks Q)) (e_q2 : r0 = .index q2 := by first | rfl | assumption) (y1 : s_ty r0 = 3 := by first | rfl | assumption)  : wr P d sw_c312 sw_h312 (93, [r0, r1, vi x2, vi x3], [], h, kc, ks) Q := by
  refine w_ld rfl rfl (Or.inr (Or.inr ⟨by decide, y1⟩)) ?_
  refine w_c32 rfl (by decide) 94 (by decide) ?_
  subst e_q2
  exact w_cv rfl [.index q2, vi 94] [] rfl rfl (s_wt_4 rfl) rfl g4 k

theorem k312_104 {P : s_P} {d : Nat} {Q : s_O → Prop} {h : s_H} {kc ks : Nat} {r0 r1 : Term} {x2 x3 : Int}  (k : wr P d sw_c312 sw_h312 (18, [r0, r1, vi (x2 + (-1)), vi x3], [], h, kc, ks) Q) (y1 : s_ty r1 = 3 := by first | rfl | assumption)  : wr P d sw_c312 sw_h312 (104, [r0, r1, vi x2, vi x3], [], h, kc, ks) Q := by
  refine w_iinc (ls' := [r0, r1, vi (x2 + (-1)), vi x3]) rfl rfl (-1) (by decide) (s_stK_r (pre := [r0]) y1) ?_
  refine w_goto rfl ?_
  exact k

theorem k312_110 {P : s_P} {d : Nat} {Q : s_O → Prop} {h : s_H} {kc ks : Nat} {r0 r1 : Term} {x2 : Int} {t3 : Term}  (k : Q (.inl none, h, kc, ks))   : wr P d sw_c312 sw_h312 (110, [r0, r1, vi x2, t3], [], h, kc, ks) Q := by
  exact w_ret rfl k

