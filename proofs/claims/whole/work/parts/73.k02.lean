/-! 160: FormulaWorks$Parts.setPart(LFormulaWorks$Thing;IILFormulaWorks$Poly;)V -/
theorem k160_0 {P : s_P} {d : Nat} {Q : s_O → Prop} {h : s_H} {kc ks : Nat} {r0 r1 : Term} {x2 x3 : Int} {r4 t5 t6 t7 t8 t9 t10 : Term} {q2 : Nat} {f3 : List Term} {v5 : Term} {q7 : Nat} {f8 : List Term} (g4 : s_get h q2 = some (1, 3, f3)) (g9 : s_get h q7 = some (1, 0, f8)) (k : wm P d 110 [.index q7] h (wq P d sw_c160 sw_h160 7 [.index q2, r1, vi x2, vi x3, r4, t5, t6, t7, t8, t9, t10] [] kc ks Q)) (e_q2 : r0 = .index q2 := by first | rfl | assumption) (e_q7 : v5 = .index q7 := by first | rfl | assumption) (y1 : s_ty r0 = 3 := by first | rfl | assumption) (n6 : s_nth f3 0 = some v5 := by first | rfl | assumption)  : wr P d sw_c160 sw_h160 (0, [r0, r1, vi x2, vi x3, r4, t5, t6, t7, t8, t9, t10], [], h, kc, ks) Q := by
  refine w_ld rfl rfl (Or.inr (Or.inr ⟨by decide, y1⟩)) ?_
  subst e_q2
  refine w_getf rfl g4 n6 ?_
  subst e_q7
  exact w_cv rfl [.index q7] [] rfl rfl (s_wt_4 rfl) rfl g9 k

theorem k160_7 {P : s_P} {d : Nat} {Q : s_O → Prop} {h : s_H} {kc ks : Nat} {r0 r1 : Term} {x2 x3 : Int} {r4 t5 t6 t7 t8 t9 t10 : Term} {s0 : Int} {q3 : Nat} {f4 : List Term} {v6 : Term} {q8 : Nat} {a9 : List Term} {tg11 : Nat} {v12 v18 : Term} {q20 : Nat} {f21 : List Term} (g5 : s_get h q3 = some (1, 3, f4)) (g10 : s_get h q8 = some (0, tg11, a9)) (g22 : s_get h q20 = some (1, 0, f21)) (k : wm P d 109 [.index q20] h (wq P d sw_c160 sw_h160 24 [.index q3, r1, vi x2, vi x3, r4, vi s0, v12, t7, t8, t9, t10] [] kc ks Q)) (e_q3 : r0 = .index q3 := by first | rfl | assumption) (e_q8 : v6 = .index q8 := by first | rfl | assumption) (e_q20 : v18 = .index q20 := by first | rfl | assumption) (y1 : s_ty r4 = 3 := by first | rfl | assumption) (y2 : s_ty r0 = 3 := by first | rfl | assumption) (n7 : s_nth f4 2 = some v6 := by first | rfl | assumption) (n13 : s_nth a9 (Int.toNat (x2)) = some v12 := by first | rfl | assumption) (u14 : tg11 = 2 ∨ tg11 = 3 ∨ tg11 = 4 := by first | decide | assumption) (y17 : s_ty v12 = 3 := by first | rfl | assumption) (n19 : s_nth f4 0 = some v18 := by first | rfl | assumption) (c15 : In3 x2 := by first | omega | assumption | (simp only [mk_len, List.length_map]; omega) | decide) (c16 : 0 ≤ x2 := by first | omega | assumption | (simp only [mk_len, List.length_map]; omega) | decide) : wr P d sw_c160 sw_h160 (7, [r0, r1, vi x2, vi x3, r4, t5, t6, t7, t8, t9, t10], [vi s0], h, kc, ks) Q := by
  refine w_st (ls' := [r0, r1, vi x2, vi x3, r4, vi s0, t6, t7, t8, t9, t10]) rfl (Or.inl ⟨by decide, rfl⟩) (s_stK_r (pre := [r0, r1, vi x2, vi x3]) y1) ?_
  refine w_ld rfl rfl (Or.inr (Or.inr ⟨by decide, y2⟩)) ?_
  subst e_q3
  refine w_getf rfl g5 n7 ?_
  refine w_ld rfl rfl (Or.inl ⟨by decide, rfl⟩) ?_
  subst e_q8
  refine w_aald rfl g10 u14 c15 c16 n13 ?_
  refine w_st (ls' := [.index q3, r1, vi x2, vi x3, r4, vi s0, v12, t7, t8, t9, t10]) rfl (Or.inr ⟨by decide, y17⟩) rfl ?_
  refine w_ld rfl rfl (Or.inr (Or.inr ⟨by decide, rfl⟩)) ?_
  refine w_getf rfl g5 n19 ?_
  subst e_q20
  exact w_cv rfl [.index q20] [] rfl rfl (s_wt_4 rfl) rfl g22 k

theorem k160_24 {P : s_P} {d : Nat} {Q : s_O → Prop} {h : s_H} {kc ks : Nat} {r0 r1 : Term} {x2 x3 : Int} {r4 : Term} {x5 : Int} {r6 t7 t8 t9 t10 s0 : Term} {q4 : Nat} {f5 : List Term} {v7 : Term} {q9 : Nat} {f10 : List Term} (g6 : s_get h q4 = some (1, 3, f5)) (g11 : s_get h q9 = some (1, 0, f10)) (k : wm P d 109 [.index q9] h (wq P d sw_c160 sw_h160 33 [.index q4, r1, vi x2, vi x3, r4, vi x5, r6, s0, t8, t9, t10] [] kc ks Q)) (e_q4 : r0 = .index q4 := by first | rfl | assumption) (e_q9 : v7 = .index q9 := by first | rfl | assumption) (y1 : s_ty r6 = 3 := by first | rfl | assumption) (y2 : s_ty s0 = 3 := by first | rfl | assumption) (y3 : s_ty r0 = 3 := by first | rfl | assumption) (n8 : s_nth f5 0 = some v7 := by first | rfl | assumption)  : wr P d sw_c160 sw_h160 (24, [r0, r1, vi x2, vi x3, r4, vi x5, r6, t7, t8, t9, t10], [s0], h, kc, ks) Q := by
  refine w_st (ls' := [r0, r1, vi x2, vi x3, r4, vi x5, r6, s0, t8, t9, t10]) rfl (Or.inr ⟨by decide, y2⟩) (s_stK_r (pre := [r0, r1, vi x2, vi x3, r4, vi x5]) y1) ?_
  refine w_ld rfl rfl (Or.inr (Or.inr ⟨by decide, y3⟩)) ?_
  subst e_q4
  refine w_getf rfl g6 n8 ?_
  subst e_q9
  exact w_cv rfl [.index q9] [] rfl rfl (s_wt_4 rfl) rfl g11 k

theorem k160_33 {P : s_P} {d : Nat} {Q : s_O → Prop} {h : s_H} {kc ks : Nat} {r0 r1 : Term} {x2 x3 : Int} {r4 : Term} {x5 : Int} {r6 r7 t8 t9 t10 s0 : Term} {q4 : Nat} {f5 : List Term} {v7 : Term} {q9 : Nat} {f10 : List Term} (g6 : s_get h q4 = some (1, 3, f5)) (g11 : s_get h q9 = some (1, 0, f10)) (k : wm P d 109 [.index q9] h (wq P d sw_c160 sw_h160 42 [.index q4, r1, vi x2, vi x3, r4, vi x5, r6, r7, s0, t9, t10] [] kc ks Q)) (e_q4 : r0 = .index q4 := by first | rfl | assumption) (e_q9 : v7 = .index q9 := by first | rfl | assumption) (y1 : s_ty r7 = 3 := by first | rfl | assumption) (y2 : s_ty s0 = 3 := by first | rfl | assumption) (y3 : s_ty r0 = 3 := by first | rfl | assumption) (n8 : s_nth f5 0 = some v7 := by first | rfl | assumption)  : wr P d sw_c160 sw_h160 (33, [r0, r1, vi x2, vi x3, r4, vi x5, r6, r7, t8, t9, t10], [s0], h, kc, ks) Q := by
  refine w_st (ls' := [r0, r1, vi x2, vi x3, r4, vi x5, r6, r7, s0, t9, t10]) rfl (Or.inr ⟨by decide, y2⟩) (s_stK_r (pre := [r0, r1, vi x2, vi x3, r4, vi x5, r6]) y1) ?_
  refine w_ld rfl rfl (Or.inr (Or.inr ⟨by decide, y3⟩)) ?_
  subst e_q4
  refine w_getf rfl g6 n8 ?_
  subst e_q9
  exact w_cv rfl [.index q9] [] rfl rfl (s_wt_4 rfl) rfl g11 k

theorem k160_42 {P : s_P} {d : Nat} {Q : s_O → Prop} {h : s_H} {kc ks : Nat} {r0 r1 : Term} {x2 x3 : Int} {r4 : Term} {x5 : Int} {r6 r7 r8 t9 t10 s0 : Term} {q4 : Nat} {f5 : List Term} (g6 : s_get h q4 = some (1, 4, f5)) (k : wm P d 180 [.index q4, vi 1] h (wq P d sw_c160 sw_h160 50 [r0, r1, vi x2, vi x3, r4, vi x5, r6, .index q4, r8, s0, t10] [] kc ks Q)) (e_q4 : r7 = .index q4 := by first | rfl | assumption) (y1 : s_ty r8 = 3 := by first | rfl | assumption) (y2 : s_ty s0 = 3 := by first | rfl | assumption) (y3 : s_ty r7 = 3 := by first | rfl | assumption)  : wr P d sw_c160 sw_h160 (42, [r0, r1, vi x2, vi x3, r4, vi x5, r6, r7, r8, t9, t10], [s0], h, kc, ks) Q := by
  refine w_st (ls' := [r0, r1, vi x2, vi x3, r4, vi x5, r6, r7, r8, s0, t10]) rfl (Or.inr ⟨by decide, y2⟩) (s_stK_r (pre := [r0, r1, vi x2, vi x3, r4, vi x5, r6, r7]) y1) ?_
  refine w_ld rfl rfl (Or.inr (Or.inr ⟨by decide, y3⟩)) ?_
  refine w_c32 rfl (by decide) 1 (by decide) ?_
  subst e_q4
  exact w_cv rfl [.index q4, vi 1] [] rfl rfl (s_wt_4 rfl) rfl g6 k

theorem k160_50 {P : s_P} {d : Nat} {Q : s_O → Prop} {h : s_H} {kc ks : Nat} {r0 r1 : Term} {x2 x3 : Int} {r4 : Term} {x5 : Int} {r6 r7 r8 r9 t10 : Term}  (k : wr P d sw_c160 sw_h160 (53, [r0, r1, vi x2, vi x3, r4, vi x5, r6, r7, r8, r9, vi 0], [], h, kc, ks) Q) (y1 : s_ty r9 = 3 := by first | rfl | assumption)  : wr P d sw_c160 sw_h160 (50, [r0, r1, vi x2, vi x3, r4, vi x5, r6, r7, r8, r9, t10], [], h, kc, ks) Q := by
  refine w_c32 rfl (by decide) 0 (by decide) ?_
  refine w_st (ls' := [r0, r1, vi x2, vi x3, r4, vi x5, r6, r7, r8, r9, vi 0]) rfl (Or.inl ⟨by decide, rfl⟩) (s_stK_r (pre := [r0, r1, vi x2, vi x3, r4, vi x5, r6, r7, r8]) y1) ?_
  exact k

theorem k160_53 {P : s_P} {d : Nat} {Q : s_O → Prop} {h : s_H} {kc ks : Nat} {r0 r1 : Term} {x2 x3 : Int} {r4 : Term} {x5 : Int} {r6 r7 r8 r9 : Term} {x10 : Int} {q2 : Nat} {f3 : List Term} {v5 : Term} {q7 : Nat} {a8 : List Int} (g4 : s_get h q2 = some (1, 3, f3)) (g9 : s_get h q7 = some (0, 0, a8.map vi)) (k1 : gi a8 x2 ≤ x10 → wr P d sw_c160 sw_h160 (81, [.index q2, r1, vi x2, vi x3, r4, vi x5, r6, r7, r8, r9, vi x10], [], h, kc, ks) Q) (k2 : ¬ gi a8 x2 ≤ x10 → wr P d sw_c160 sw_h160 (64, [.index q2, r1, vi x2, vi x3, r4, vi x5, r6, r7, r8, r9, vi x10], [], h, kc, ks) Q) (e_q2 : r0 = .index q2 := by first | rfl | assumption) (e_q7 : v5 = .index q7 := by first | rfl | assumption) (y1 : s_ty r0 = 3 := by first | rfl | assumption) (n6 : s_nth f3 3 = some v5 := by first | rfl | assumption) (c10 : x2 < a8.length := by first | omega | assumption | (simp only [mk_len, List.length_map]; omega) | decide) (c11 : 0 ≤ x2 := by first | omega | assumption | (simp only [mk_len, List.length_map]; omega) | decide) (c12 : In3 x2 := by first | omega | assumption | (simp only [mk_len, List.length_map]; omega) | decide) (c13 : In3 x10 := by first | omega | assumption | (simp only [mk_len, List.length_map]; omega) | decide) (c14 : In3 (gi a8 x2) := by first | omega | assumption | (simp only [mk_len, List.length_map]; omega) | decide) : wr P d sw_c160 sw_h160 (53, [r0, r1, vi x2, vi x3, r4, vi x5, r6, r7, r8, r9, vi x10], [], h, kc, ks) Q := by
  refine w_ld rfl rfl (Or.inl ⟨by decide, rfl⟩) ?_
  refine w_ld rfl rfl (Or.inr (Or.inr ⟨by decide, y1⟩)) ?_
  subst e_q2
  refine w_getf rfl g4 n6 ?_
  refine w_ld rfl rfl (Or.inl ⟨by decide, rfl⟩) ?_
  subst e_q7
  refine w_iald rfl g9 (Or.inl rfl) c12 c11 c10 ?_
  exact w_if2 rfl c13 c14 k1 k2

theorem k160_64 {P : s_P} {d : Nat} {Q : s_O → Prop} {h : s_H} {kc ks : Nat} {r0 r1 : Term} {x2 x3 : Int} {r4 : Term} {x5 : Int} {r6 r7 r8 r9 : Term} {x10 : Int} {q2 : Nat} {f3 : List Term} {v5 : Term} {q9 : Nat} {f10 : List Term} (g4 : s_get h q2 = some (1, 3, f3)) (g11 : s_get h q9 = some (1, 0, f10)) (k : wm P d 111 [.index q9, r7, r6] h (wq P d sw_c160 sw_h160 75 [.index q2, r1, vi x2, vi x3, r4, vi x5, r6, r7, r8, r9, vi x10] [] kc ks Q)) (e_q2 : r0 = .index q2 := by first | rfl | assumption) (e_q9 : v5 = .index q9 := by first | rfl | assumption) (y1 : s_ty r0 = 3 := by first | rfl | assumption) (n6 : s_nth f3 0 = some v5 := by first | rfl | assumption) (y7 : s_ty r7 = 3 := by first | rfl | assumption) (y8 : s_ty r6 = 3 := by first | rfl | assumption)  : wr P d sw_c160 sw_h160 (64, [r0, r1, vi x2, vi x3, r4, vi x5, r6, r7, r8, r9, vi x10], [], h, kc, ks) Q := by
  refine w_ld rfl rfl (Or.inr (Or.inr ⟨by decide, y1⟩)) ?_
  subst e_q2
  refine w_getf rfl g4 n6 ?_
  refine w_ld rfl rfl (Or.inr (Or.inr ⟨by decide, y7⟩)) ?_
  refine w_ld rfl rfl (Or.inr (Or.inr ⟨by decide, y8⟩)) ?_
  subst e_q9
  exact w_cv rfl [.index q9, r7, r6] [] rfl rfl (s_wt_4 rfl) rfl g11 k

theorem k160_75 {P : s_P} {d : Nat} {Q : s_O → Prop} {h : s_H} {kc ks : Nat} {r0 r1 : Term} {x2 x3 : Int} {r4 : Term} {x5 : Int} {r6 r7 r8 r9 : Term} {x10 : Int}  (k : wr P d sw_c160 sw_h160 (53, [r0, r1, vi x2, vi x3, r4, vi x5, r6, r7, r8, r9, vi (x10 + 1)], [], h, kc, ks) Q) (y1 : s_ty r9 = 3 := by first | rfl | assumption)  : wr P d sw_c160 sw_h160 (75, [r0, r1, vi x2, vi x3, r4, vi x5, r6, r7, r8, r9, vi x10], [], h, kc, ks) Q := by
  refine w_iinc (ls' := [r0, r1, vi x2, vi x3, r4, vi x5, r6, r7, r8, r9, vi (x10 + 1)]) rfl rfl 1 (by decide) (s_stK_r (pre := [r0, r1, vi x2, vi x3, r4, vi x5, r6, r7, r8]) y1) ?_
  refine w_goto rfl ?_
  exact k

theorem k160_81 {P : s_P} {d : Nat} {Q : s_O → Prop} {h : s_H} {kc ks : Nat} {r0 r1 : Term} {x2 x3 : Int} {r4 : Term} {x5 : Int} {r6 r7 r8 r9 : Term} {x10 : Int} {q2 : Nat} {f3 : List Term} {v5 : Term} {q8 : Nat} {f9 : List Term} {v11 : Term} {q15 : Nat} {f16 : List Term} (g4 : s_get h q2 = some (1, 3, f3)) (g10 : s_get h q8 = some (1, 8, f9)) (g17 : s_get h q15 = some (1, 0, f16)) (k : wm P d 117 [.index q15, v11, r7, vi 1, r8] h (wq P d sw_c160 sw_h160 97 [.index q2, .index q8, vi x2, vi x3, r4, vi x5, r6, r7, r8, r9, vi x10] [] kc ks Q)) (e_q2 : r0 = .index q2 := by first | rfl | assumption) (e_q8 : r1 = .index q8 := by first | rfl | assumption) (e_q15 : v5 = .index q15 := by first | rfl | assumption) (y1 : s_ty r0 = 3 := by first | rfl | assumption) (n6 : s_nth f3 0 = some v5 := by first | rfl | assumption) (y7 : s_ty r1 = 3 := by first | rfl | assumption) (n12 : s_nth f9 2 = some v11 := by first | rfl | assumption) (y13 : s_ty r7 = 3 := by first | rfl | assumption) (y14 : s_ty r8 = 3 := by first | rfl | assumption)  : wr P d sw_c160 sw_h160 (81, [r0, r1, vi x2, vi x3, r4, vi x5, r6, r7, r8, r9, vi x10], [], h, kc, ks) Q := by
  refine w_ld rfl rfl (Or.inr (Or.inr ⟨by decide, y1⟩)) ?_
  subst e_q2
  refine w_getf rfl g4 n6 ?_
  refine w_ld rfl rfl (Or.inr (Or.inr ⟨by decide, y7⟩)) ?_
  subst e_q8
  refine w_getf rfl g10 n12 ?_
  refine w_ld rfl rfl (Or.inr (Or.inr ⟨by decide, y13⟩)) ?_
  refine w_c32 rfl (by decide) 1 (by decide) ?_
  refine w_ld rfl rfl (Or.inr (Or.inr ⟨by decide, y14⟩)) ?_
  subst e_q15
  exact w_cv rfl [.index q15, v11, r7, vi 1, r8] [] rfl rfl (s_wt_4 rfl) rfl g17 k

theorem k160_97 {P : s_P} {d : Nat} {Q : s_O → Prop} {h : s_H} {kc ks : Nat} {r0 r1 : Term} {x2 x3 : Int} {r4 : Term} {x5 : Int} {r6 r7 r8 r9 : Term} {x10 : Int} {q2 : Nat} {f3 : List Term} {v5 : Term} {q10 : Nat} {f11 : List Term} (g4 : s_get h q2 = some (1, 3, f3)) (g12 : s_get h q10 = some (1, 0, f11)) (k : wm P d 119 [.index q10, r8, r7, r9] h (wq P d sw_c160 sw_h160 110 [.index q2, r1, vi x2, vi x3, r4, vi x5, r6, r7, r8, r9, vi x10] [] kc ks Q)) (e_q2 : r0 = .index q2 := by first | rfl | assumption) (e_q10 : v5 = .index q10 := by first | rfl | assumption) (y1 : s_ty r0 = 3 := by first | rfl | assumption) (n6 : s_nth f3 0 = some v5 := by first | rfl | assumption) (y7 : s_ty r8 = 3 := by first | rfl | assumption) (y8 : s_ty r7 = 3 := by first | rfl | assumption) (y9 : s_ty r9 = 3 := by first | rfl | assumption)  : wr P d sw_c160 sw_h160 (97, [r0, r1, vi x2, vi x3, r4, vi x5, r6, r7, r8, r9, vi x10], [], h, kc, ks) Q := by
  refine w_ld rfl rfl (Or.inr (Or.inr ⟨by decide, y1⟩)) ?_
  subst e_q2
  refine w_getf rfl g4 n6 ?_
  refine w_ld rfl rfl (Or.inr (Or.inr ⟨by decide, y7⟩)) ?_
  refine w_ld rfl rfl (Or.inr (Or.inr ⟨by decide, y8⟩)) ?_
  refine w_ld rfl rfl (Or.inr (Or.inr ⟨by decide, y9⟩)) ?_
  subst e_q10
  exact w_cv rfl [.index q10, r8, r7, r9] [] rfl rfl (s_wt_4 rfl) rfl g12 k

theorem k160_110 {P : s_P} {d : Nat} {Q : s_O → Prop} {h : s_H} {kc ks : Nat} {r0 r1 : Term} {x2 x3 : Int} {r4 : Term} {x5 : Int} {r6 r7 r8 r9 : Term} {x10 : Int} {q3 : Nat} {f4 : List Term} {v6 : Term} {q8 : Nat} {f9 : List Term} (g5 : s_get h q3 = some (1, 8, f4)) (g10 : s_get h q8 = some (1, 4, f9)) (k : wm P d 179 [.index q8, v6] h (wq P d sw_c160 sw_h160 119 [r0, .index q3, vi x2, vi x3, r4, vi x5, r6, r7, .index q8, r9, vi x10] [] kc ks Q)) (e_q3 : r1 = .index q3 := by first | rfl | assumption) (e_q8 : r8 = .index q8 := by first | rfl | assumption) (y1 : s_ty r8 = 3 := by first | rfl | assumption) (y2 : s_ty r1 = 3 := by first | rfl | assumption) (n7 : s_nth f4 1 = some v6 := by first | rfl | assumption)  : wr P d sw_c160 sw_h160 (110, [r0, r1, vi x2, vi x3, r4, vi x5, r6, r7, r8, r9, vi x10], [], h, kc, ks) Q := by
  refine w_ld rfl rfl (Or.inr (Or.inr ⟨by decide, y1⟩)) ?_
  refine w_ld rfl rfl (Or.inr (Or.inr ⟨by decide, y2⟩)) ?_
  subst e_q3
  refine w_getf rfl g5 n7 ?_
  subst e_q8
  exact w_cv rfl [.index q8, v6] [] rfl rfl (s_wt_4 rfl) rfl g10 k

theorem k160_119 {P : s_P} {d : Nat} {Q : s_O → Prop} {h : s_H} {kc ks : Nat} {r0 r1 : Term} {x2 x3 : Int} {r4 : Term} {x5 : Int} {r6 r7 r8 r9 : Term} {x10 : Int} {q3 : Nat} {f4 : List Term} (g5 : s_get h q3 = some (1, 4, f4)) (k : wm P d 176 [.index q3, r7, vi 1, .null] h (wq P d sw_c160 sw_h160 128 [r0, r1, vi x2, vi x3, r4, vi x5, r6, r7, .index q3, r9, vi x10] [] kc ks Q)) (e_q3 : r8 = .index q3 := by first | rfl | assumption) (y1 : s_ty r8 = 3 := by first | rfl | assumption) (y2 : s_ty r7 = 3 := by first | rfl | assumption)  : wr P d sw_c160 sw_h160 (119, [r0, r1, vi x2, vi x3, r4, vi x5, r6, r7, r8, r9, vi x10], [], h, kc, ks) Q := by
  refine w_ld rfl rfl (Or.inr (Or.inr ⟨by decide, y1⟩)) ?_
  refine w_ld rfl rfl (Or.inr (Or.inr ⟨by decide, y2⟩)) ?_
  refine w_c32 rfl (by decide) 1 (by decide) ?_
  refine w_null rfl ?_
  subst e_q3
  exact w_cv rfl [.index q3, r7, vi 1, .null] [] rfl rfl (s_wt_4 rfl) rfl g5 k

theorem k160_128 {P : s_P} {d : Nat} {Q : s_O → Prop} {h : s_H} {kc ks : Nat} {r0 r1 : Term} {x2 x3 : Int} {r4 : Term} {x5 : Int} {r6 r7 r8 r9 : Term} {x10 : Int} {q5 : Nat} {f6 : List Term} (g7 : s_get h q5 = some (1, 3, f6)) (k : wm P d 156 [.index q5, r8, r9, r7] h (wq P d sw_c160 sw_h160 138 [.index q5, r1, vi x2, vi x3, r4, vi x5, r6, r7, r8, r9, vi x10] [] kc ks Q)) (e_q5 : r0 = .index q5 := by first | rfl | assumption) (y1 : s_ty r0 = 3 := by first | rfl | assumption) (y2 : s_ty r8 = 3 := by first | rfl | assumption) (y3 : s_ty r9 = 3 := by first | rfl | assumption) (y4 : s_ty r7 = 3 := by first | rfl | assumption)  : wr P d sw_c160 sw_h160 (128, [r0, r1, vi x2, vi x3, r4, vi x5, r6, r7, r8, r9, vi x10], [], h, kc, ks) Q := by
  refine w_ld rfl rfl (Or.inr (Or.inr ⟨by decide, y1⟩)) ?_
  refine w_ld rfl rfl (Or.inr (Or.inr ⟨by decide, y2⟩)) ?_
  refine w_ld rfl rfl (Or.inr (Or.inr ⟨by decide, y3⟩)) ?_
  refine w_ld rfl rfl (Or.inr (Or.inr ⟨by decide, y4⟩)) ?_
  subst e_q5
  exact w_cv rfl [.index q5, r8, r9, r7] [] rfl rfl (s_wt_4 rfl) rfl g7 k

theorem k160_138 {P : s_P} {d : Nat} {Q : s_O → Prop} {h : s_H} {kc ks : Nat} {r0 r1 : Term} {x2 x3 : Int} {r4 : Term} {x5 : Int} {r6 r7 r8 r9 : Term} {x10 : Int} {q2 : Nat} {f3 : List Term} {v5 : Term} {q7 : Nat} {a8 : List Int} (g4 : s_get h q2 = some (1, 3, f3)) (g9 : s_get h q7 = some (0, 0, a8.map vi)) (k : wr P d sw_c160 sw_h160 (146, [.index q2, r1, vi x2, vi x3, r4, vi x5, r6, r7, r8, r9, vi (gi a8 x2)], [], h, kc, ks) Q) (e_q2 : r0 = .index q2 := by first | rfl | assumption) (e_q7 : v5 = .index q7 := by first | rfl | assumption) (y1 : s_ty r0 = 3 := by first | rfl | assumption) (n6 : s_nth f3 3 = some v5 := by first | rfl | assumption) (y13 : s_ty r9 = 3 := by first | rfl | assumption) (c10 : x2 < a8.length := by first | omega | assumption | (simp only [mk_len, List.length_map]; omega) | decide) (c11 : 0 ≤ x2 := by first | omega | assumption | (simp only [mk_len, List.length_map]; omega) | decide) (c12 : In3 x2 := by first | omega | assumption | (simp only [mk_len, List.length_map]; omega) | decide) : wr P d sw_c160 sw_h160 (138, [r0, r1, vi x2, vi x3, r4, vi x5, r6, r7, r8, r9, vi x10], [], h, kc, ks) Q := by
  refine w_ld rfl rfl (Or.inr (Or.inr ⟨by decide, y1⟩)) ?_
  subst e_q2
  refine w_getf rfl g4 n6 ?_
  refine w_ld rfl rfl (Or.inl ⟨by decide, rfl⟩) ?_
  subst e_q7
  refine w_iald rfl g9 (Or.inl rfl) c12 c11 c10 ?_
  refine w_st (ls' := [.index q2, r1, vi x2, vi x3, r4, vi x5, r6, r7, r8, r9, vi (gi a8 x2)]) rfl (Or.inl ⟨by decide, rfl⟩) (s_stK_r (pre := [.index q2, r1, vi x2, vi x3, r4, vi x5, r6, r7, r8]) y13) ?_
  exact k

theorem k160_146 {P : s_P} {d : Nat} {Q : s_O → Prop} {h : s_H} {kc ks : Nat} {r0 r1 : Term} {x2 x3 : Int} {r4 : Term} {x5 : Int} {r6 r7 r8 r9 : Term} {x10 : Int}  (k1 : x10 ≤ x3 → wr P d sw_c160 sw_h160 (172, [r0, r1, vi x2, vi x3, r4, vi x5, r6, r7, r8, r9, vi x10], [], h, kc, ks) Q) (k2 : ¬ x10 ≤ x3 → wr P d sw_c160 sw_h160 (152, [r0, r1, vi x2, vi x3, r4, vi x5, r6, r7, r8, r9, vi x10], [], h, kc, ks) Q)  (c1 : In3 x10 := by first | omega | assumption | (simp only [mk_len, List.length_map]; omega) | decide) (c2 : In3 x3 := by first | omega | assumption | (simp only [mk_len, List.length_map]; omega) | decide) : wr P d sw_c160 sw_h160 (146, [r0, r1, vi x2, vi x3, r4, vi x5, r6, r7, r8, r9, vi x10], [], h, kc, ks) Q := by
  refine w_ld rfl rfl (Or.inl ⟨by decide, rfl⟩) ?_
  refine w_ld rfl rfl (Or.inl ⟨by decide, rfl⟩) ?_
  exact w_if2 rfl c1 c2 k1 k2

theorem k160_152 {P : s_P} {d : Nat} {Q : s_O → Prop} {h : s_H} {kc ks : Nat} {r0 r1 : Term} {x2 x3 : Int} {r4 : Term} {x5 : Int} {r6 r7 r8 r9 : Term} {x10 : Int} {q2 : Nat} {f3 : List Term} {v5 : Term} {q9 : Nat} {f10 : List Term} (g4 : s_get h q2 = some (1, 3, f3)) (g11 : s_get h q9 = some (1, 0, f10)) (k : wm P d 117 [.index q9, r8, r6, vi 1, r8] h (wq P d sw_c160 sw_h160 166 [.index q2, r1, vi x2, vi x3, r4, vi x5, r6, r7, r8, r9, vi x10] [] kc ks Q)) (e_q2 : r0 = .index q2 := by first | rfl | assumption) (e_q9 : v5 = .index q9 := by first | rfl | assumption) (y1 : s_ty r0 = 3 := by first | rfl | assumption) (n6 : s_nth f3 0 = some v5 := by first | rfl | assumption) (y7 : s_ty r8 = 3 := by first | rfl | assumption) (y8 : s_ty r6 = 3 := by first | rfl | assumption)  : wr P d sw_c160 sw_h160 (152, [r0, r1, vi x2, vi x3, r4, vi x5, r6, r7, r8, r9, vi x10], [], h, kc, ks) Q := by
  refine w_ld rfl rfl (Or.inr (Or.inr ⟨by decide, y1⟩)) ?_
  subst e_q2
  refine w_getf rfl g4 n6 ?_
  refine w_ld rfl rfl (Or.inr (Or.inr ⟨by decide, y7⟩)) ?_
  refine w_ld rfl rfl (Or.inr (Or.inr ⟨by decide, y8⟩)) ?_
  refine w_c32 rfl (by decide) 1 (by decide) ?_
  refine w_ld rfl rfl (Or.inr (Or.inr ⟨by decide, y7⟩)) ?_
  subst e_q9
  exact w_cv rfl [.index q9, r8, r6, vi 1, r8] [] rfl rfl (s_wt_4 rfl) rfl g11 k

theorem k160_166 {P : s_P} {d : Nat} {Q : s_O → Prop} {h : s_H} {kc ks : Nat} {r0 r1 : Term} {x2 x3 : Int} {r4 : Term} {x5 : Int} {r6 r7 r8 r9 : Term} {x10 : Int}  (k : wr P d sw_c160 sw_h160 (146, [r0, r1, vi x2, vi x3, r4, vi x5, r6, r7, r8, r9, vi (x10 + (-1))], [], h, kc, ks) Q) (y1 : s_ty r9 = 3 := by first | rfl | assumption)  : wr P d sw_c160 sw_h160 (166, [r0, r1, vi x2, vi x3, r4, vi x5, r6, r7, r8, r9, vi x10], [], h, kc, ks) Q := by
  refine w_iinc (ls' := [r0, r1, vi x2, vi x3, r4, vi x5, r6, r7, r8, r9, vi (x10 + (-1))]) rfl rfl (-1) (by decide) (s_stK_r (pre := [r0, r1, vi x2, vi x3, r4, vi x5, r6, r7, r8]) y1) ?_
  refine w_goto rfl ?_
  exact k

theorem k160_172 {P : s_P} {d : Nat} {Q : s_O → Prop} {h : s_H} {kc ks : Nat} {r0 r1 : Term} {x2 x3 : Int} {r4 : Term} {x5 : Int} {r6 r7 r8 r9 : Term} {x10 : Int} {q2 : Nat} {f3 : List Term} {v5 : Term} {q10 : Nat} {f11 : List Term} (g4 : s_get h q2 = some (1, 3, f3)) (g12 : s_get h q10 = some (1, 0, f11)) (k : wm P d 117 [.index q10, r8, r6, vi 0, r4] h (wq P d sw_c160 sw_h160 186 [.index q2, r1, vi x2, vi x3, r4, vi x5, r6, r7, r8, r9, vi x10] [] kc ks Q)) (e_q2 : r0 = .index q2 := by first | rfl | assumption) (e_q10 : v5 = .index q10 := by first | rfl | assumption) (y1 : s_ty r0 = 3 := by first | rfl | assumption) (n6 : s_nth f3 0 = some v5 := by first | rfl | assumption) (y7 : s_ty r8 = 3 := by first | rfl | assumption) (y8 : s_ty r6 = 3 := by first | rfl | assumption) (y9 : s_ty r4 = 3 := by first | rfl | assumption)  : wr P d sw_c160 sw_h160 (172, [r0, r1, vi x2, vi x3, r4, vi x5, r6, r7, r8, r9, vi x10], [], h, kc, ks) Q := by
  refine w_ld rfl rfl (Or.inr (Or.inr ⟨by decide, y1⟩)) ?_
  subst e_q2
  refine w_getf rfl g4 n6 ?_
  refine w_ld rfl rfl (Or.inr (Or.inr ⟨by decide, y7⟩)) ?_
  refine w_ld rfl rfl (Or.inr (Or.inr ⟨by decide, y8⟩)) ?_
  refine w_c32 rfl (by decide) 0 (by decide) ?_
  refine w_ld rfl rfl (Or.inr (Or.inr ⟨by decide, y9⟩)) ?_
  subst e_q10
  exact w_cv rfl [.index q10, r8, r6, vi 0, r4] [] rfl rfl (s_wt_4 rfl) rfl g12 k

theorem k160_186 {P : s_P} {d : Nat} {Q : s_O → Prop} {h : s_H} {kc ks : Nat} {r0 r1 : Term} {x2 x3 : Int} {r4 : Term} {x5 : Int} {r6 r7 r8 r9 : Term} {x10 : Int} {q2 : Nat} {f3 : List Term} {v5 : Term} {q7 : Nat} {f8 : List Term} (g4 : s_get h q2 = some (1, 3, f3)) (g9 : s_get h q7 = some (1, 0, f8)) (k : wm P d 113 [.index q7, vi x5] h (wq P d sw_c160 sw_h160 195 [.index q2, r1, vi x2, vi x3, r4, vi x5, r6, r7, r8, r9, vi x10] [] kc ks Q)) (e_q2 : r0 = .index q2 := by first | rfl | assumption) (e_q7 : v5 = .index q7 := by first | rfl | assumption) (y1 : s_ty r0 = 3 := by first | rfl | assumption) (n6 : s_nth f3 0 = some v5 := by first | rfl | assumption)  : wr P d sw_c160 sw_h160 (186, [r0, r1, vi x2, vi x3, r4, vi x5, r6, r7, r8, r9, vi x10], [], h, kc, ks) Q := by
  refine w_ld rfl rfl (Or.inr (Or.inr ⟨by decide, y1⟩)) ?_
  subst e_q2
  refine w_getf rfl g4 n6 ?_
  refine w_ld rfl rfl (Or.inl ⟨by decide, rfl⟩) ?_
  subst e_q7
  exact w_cv rfl [.index q7, vi x5] [] rfl rfl (s_wt_4 rfl) rfl g9 k

theorem k160_195 {P : s_P} {d : Nat} {Q : s_O → Prop} {h : s_H} {kc ks : Nat} {r0 r1 : Term} {x2 x3 : Int} {r4 : Term} {x5 : Int} {r6 r7 r8 r9 : Term} {x10 : Int}  (k : Q (.inl none, h, kc, ks))   : wr P d sw_c160 sw_h160 (195, [r0, r1, vi x2, vi x3, r4, vi x5, r6, r7, r8, r9, vi x10], [], h, kc, ks) Q := by
  exact w_ret rfl k

/-! 161: FormulaWorks$Parts.setRaised(LFormulaWorks$Poly;ILFormulaWorks$Poly;LFormulaWorks$Poly;)V -/
theorem k161_0 {P : s_P} {d : Nat} {Q : s_O → Prop} {h : s_H} {kc ks : Nat} {r0 r1 : Term} {x2 : Int} {r3 r4 t5 t6 t7 : Term} {q2 : Nat} {f3 : List Term} {v5 : Term} {q7 : Nat} {f8 : List Term} (g4 : s_get h q2 = some (1, 3, f3)) (g9 : s_get h q7 = some (1, 0, f8)) (k : wm P d 110 [.index q7] h (wq P d sw_c161 sw_h161 7 [.index q2, r1, vi x2, r3, r4, t5, t6, t7] [] kc ks Q)) (e_q2 : r0 = .index q2 := by first | rfl | assumption) (e_q7 : v5 = .index q7 := by first | rfl | assumption) (y1 : s_ty r0 = 3 := by first | rfl | assumption) (n6 : s_nth f3 0 = some v5 := by first | rfl | assumption)  : wr P d sw_c161 sw_h161 (0, [r0, r1, vi x2, r3, r4, t5, t6, t7], [], h, kc, ks) Q := by
  refine w_ld rfl rfl (Or.inr (Or.inr ⟨by decide, y1⟩)) ?_
  subst e_q2
  refine w_getf rfl g4 n6 ?_
  subst e_q7
  exact w_cv rfl [.index q7] [] rfl rfl (s_wt_4 rfl) rfl g9 k

theorem k161_7 {P : s_P} {d : Nat} {Q : s_O → Prop} {h : s_H} {kc ks : Nat} {r0 r1 : Term} {x2 : Int} {r3 r4 t5 t6 t7 : Term} {s0 : Int} {q3 : Nat} {f4 : List Term} {v6 : Term} {q8 : Nat} {f9 : List Term} (g5 : s_get h q3 = some (1, 3, f4)) (g10 : s_get h q8 = some (1, 0, f9)) (k : wm P d 109 [.index q8] h (wq P d sw_c161 sw_h161 16 [.index q3, r1, vi x2, r3, r4, vi s0, t6, t7] [] kc ks Q)) (e_q3 : r0 = .index q3 := by first | rfl | assumption) (e_q8 : v6 = .index q8 := by first | rfl | assumption) (y1 : s_ty r4 = 3 := by first | rfl | assumption) (y2 : s_ty r0 = 3 := by first | rfl | assumption) (n7 : s_nth f4 0 = some v6 := by first | rfl | assumption)  : wr P d sw_c161 sw_h161 (7, [r0, r1, vi x2, r3, r4, t5, t6, t7], [vi s0], h, kc, ks) Q := by
  refine w_st (ls' := [r0, r1, vi x2, r3, r4, vi s0, t6, t7]) rfl (Or.inl ⟨by decide, rfl⟩) (s_stK_r (pre := [r0, r1, vi x2, r3]) y1) ?_
  refine w_ld rfl rfl (Or.inr (Or.inr ⟨by decide, y2⟩)) ?_
  subst e_q3
  refine w_getf rfl g5 n7 ?_
  subst e_q8
  exact w_cv rfl [.index q8] [] rfl rfl (s_wt_4 rfl) rfl g10 k

theorem k161_16 {P : s_P} {d : Nat} {Q : s_O → Prop} {h : s_H} {kc ks : Nat} {r0 r1 : Term} {x2 : Int} {r3 r4 : Term} {x5 : Int} {t6 t7 s0 : Term} {q2 : Nat} {f3 : List Term} (g4 : s_get h q2 = some (1, 4, f3)) (k : wm P d 180 [.index q2, vi 1] h (wq P d sw_c161 sw_h161 24 [r0, r1, vi x2, r3, r4, vi x5, .index q2, t7] [] kc ks Q)) (e_q2 : s0 = .index q2 := by first | rfl | assumption) (y1 : s_ty s0 = 3 := by first | rfl | assumption)  : wr P d sw_c161 sw_h161 (16, [r0, r1, vi x2, r3, r4, vi x5, t6, t7], [s0], h, kc, ks) Q := by
  refine w_st (ls' := [r0, r1, vi x2, r3, r4, vi x5, s0, t7]) rfl (Or.inr ⟨by decide, y1⟩) rfl ?_
  refine w_ld rfl rfl (Or.inr (Or.inr ⟨by decide, y1⟩)) ?_
  refine w_c32 rfl (by decide) 1 (by decide) ?_
  subst e_q2
  exact w_cv rfl [.index q2, vi 1] [] rfl rfl (s_wt_4 rfl) rfl g4 k

theorem k161_24 {P : s_P} {d : Nat} {Q : s_O → Prop} {h : s_H} {kc ks : Nat} {r0 r1 : Term} {x2 : Int} {r3 r4 : Term} {x5 : Int} {r6 t7 : Term}  (k : wr P d sw_c161 sw_h161 (28, [r0, r1, vi x2, r3, r4, vi x5, r6, vi 15], [], h, kc, ks) Q) (y1 : s_ty r6 = 3 := by first | rfl | assumption)  : wr P d sw_c161 sw_h161 (24, [r0, r1, vi x2, r3, r4, vi x5, r6, t7], [], h, kc, ks) Q := by
  refine w_c32 rfl (by decide) 15 (by decide) ?_
  refine w_st (ls' := [r0, r1, vi x2, r3, r4, vi x5, r6, vi 15]) rfl (Or.inl ⟨by decide, rfl⟩) (s_stK_r (pre := [r0, r1, vi x2, r3, r4, vi x5]) y1) ?_
  exact k

theorem k161_28 {P : s_P} {d : Nat} {Q : s_O → Prop} {h : s_H} {kc ks : Nat} {r0 r1 : Term} {x2 : Int} {r3 r4 : Term} {x5 : Int} {r6 : Term} {x7 : Int}  (k1 : x7 < 0 → wr P d sw_c161 sw_h161 (66, [r0, r1, vi x2, r3, r4, vi x5, r6, vi x7], [], h, kc, ks) Q) (k2 : ¬ x7 < 0 → wr P d sw_c161 sw_h161 (33, [r0, r1, vi x2, r3, r4, vi x5, r6, vi x7], [], h, kc, ks) Q)  (c1 : In3 x7 := by first | omega | assumption | (simp only [mk_len, List.length_map]; omega) | decide) : wr P d sw_c161 sw_h161 (28, [r0, r1, vi x2, r3, r4, vi x5, r6, vi x7], [], h, kc, ks) Q := by
  refine w_ld rfl rfl (Or.inl ⟨by decide, rfl⟩) ?_
  exact w_if1 rfl c1 k1 k2

theorem k161_33 {P : s_P} {d : Nat} {Q : s_O → Prop} {h : s_H} {kc ks : Nat} {r0 r1 : Term} {x2 : Int} {r3 r4 : Term} {x5 : Int} {r6 : Term} {x7 : Int} {q4 : Nat} {f5 : List Term} (g6 : s_get h q4 = some (1, 3, f5)) (k : wm P d 156 [.index q4, r6, r6, r3] h (wq P d sw_c161 sw_h161 42 [.index q4, r1, vi x2, r3, r4, vi x5, r6, vi x7] [] kc ks Q)) (e_q4 : r0 = .index q4 := by first | rfl | assumption) (y1 : s_ty r0 = 3 := by first | rfl | assumption) (y2 : s_ty r6 = 3 := by first | rfl | assumption) (y3 : s_ty r3 = 3 := by first | rfl | assumption)  : wr P d sw_c161 sw_h161 (33, [r0, r1, vi x2, r3, r4, vi x5, r6, vi x7], [], h, kc, ks) Q := by
  refine w_ld rfl rfl (Or.inr (Or.inr ⟨by decide, y1⟩)) ?_
  refine w_ld rfl rfl (Or.inr (Or.inr ⟨by decide, y2⟩)) ?_
  refine w_ld rfl rfl (Or.inr (Or.inr ⟨by decide, y2⟩)) ?_
  refine w_ld rfl rfl (Or.inr (Or.inr ⟨by decide, y3⟩)) ?_
  subst e_q4
  exact w_cv rfl [.index q4, r6, r6, r3] [] rfl rfl (s_wt_4 rfl) rfl g6 k

theorem k161_42 {P : s_P} {d : Nat} {Q : s_O → Prop} {h : s_H} {kc ks : Nat} {r0 r1 : Term} {x2 : Int} {r3 r4 : Term} {x5 : Int} {r6 : Term} {x7 : Int}  (k1 : zi 24 (zi 28 x2 x7) 1 ≠ 1 → wr P d sw_c161 sw_h161 (60, [r0, r1, vi x2, r3, r4, vi x5, r6, vi x7], [], h, kc, ks) Q) (k2 : ¬ zi 24 (zi 28 x2 x7) 1 ≠ 1 → wr P d sw_c161 sw_h161 (52, [r0, r1, vi x2, r3, r4, vi x5, r6, vi x7], [], h, kc, ks) Q)  (c1 : In3 (zi 24 (zi 28 x2 x7) 1) := by first | omega | assumption | (simp only [mk_len, List.length_map]; omega) | decide) : wr P d sw_c161 sw_h161 (42, [r0, r1, vi x2, r3, r4, vi x5, r6, vi x7], [], h, kc, ks) Q := by
  refine w_ld rfl rfl (Or.inl ⟨by decide, rfl⟩) ?_
  refine w_ld rfl rfl (Or.inl ⟨by decide, rfl⟩) ?_
  refine w_ib rfl (by decide) ?_
  refine w_c32 rfl (by decide) 1 (by decide) ?_
  refine w_ib rfl (by decide) ?_
  refine w_c32 rfl (by decide) 1 (by decide) ?_
  exact w_if2 rfl c1 (by decide) k1 k2

theorem k161_52 {P : s_P} {d : Nat} {Q : s_O → Prop} {h : s_H} {kc ks : Nat} {r0 r1 : Term} {x2 : Int} {r3 r4 : Term} {x5 : Int} {r6 : Term} {x7 : Int} {q5 : Nat} {f6 : List Term} (g7 : s_get h q5 = some (1, 3, f6)) (k : wm P d 156 [.index q5, r6, r1, r3] h (wq P d sw_c161 sw_h161 60 [.index q5, r1, vi x2, r3, r4, vi x5, r6, vi x7] [] kc ks Q)) (e_q5 : r0 = .index q5 := by first | rfl | assumption) (y1 : s_ty r0 = 3 := by first | rfl | assumption) (y2 : s_ty r6 = 3 := by first | rfl | assumption) (y3 : s_ty r1 = 3 := by first | rfl | assumption) (y4 : s_ty r3 = 3 := by first | rfl | assumption)  : wr P d sw_c161 sw_h161 (52, [r0, r1, vi x2, r3, r4, vi x5, r6, vi x7], [], h, kc, ks) Q := by
  refine w_ld rfl rfl (Or.inr (Or.inr ⟨by decide, y1⟩)) ?_
  refine w_ld rfl rfl (Or.inr (Or.inr ⟨by decide, y2⟩)) ?_
  refine w_ld rfl rfl (Or.inr (Or.inr ⟨by decide, y3⟩)) ?_
  refine w_ld rfl rfl (Or.inr (Or.inr ⟨by decide, y4⟩)) ?_
  subst e_q5
  exact w_cv rfl [.index q5, r6, r1, r3] [] rfl rfl (s_wt_4 rfl) rfl g7 k

theorem k161_60 {P : s_P} {d : Nat} {Q : s_O → Prop} {h : s_H} {kc ks : Nat} {r0 r1 : Term} {x2 : Int} {r3 r4 : Term} {x5 : Int} {r6 : Term} {x7 : Int}  (k : wr P d sw_c161 sw_h161 (28, [r0, r1, vi x2, r3, r4, vi x5, r6, vi (x7 + (-1))], [], h, kc, ks) Q) (y1 : s_ty r6 = 3 := by first | rfl | assumption)  : wr P d sw_c161 sw_h161 (60, [r0, r1, vi x2, r3, r4, vi x5, r6, vi x7], [], h, kc, ks) Q := by
  refine w_iinc (ls' := [r0, r1, vi x2, r3, r4, vi x5, r6, vi (x7 + (-1))]) rfl rfl (-1) (by decide) (s_stK_r (pre := [r0, r1, vi x2, r3, r4, vi x5]) y1) ?_
  refine w_goto rfl ?_
  exact k

theorem k161_66 {P : s_P} {d : Nat} {Q : s_O → Prop} {h : s_H} {kc ks : Nat} {r0 r1 : Term} {x2 : Int} {r3 r4 : Term} {x5 : Int} {r6 : Term} {x7 : Int} {q3 : Nat} {f4 : List Term} (g5 : s_get h q3 = some (1, 4, f4)) (k : wm P d 179 [.index q3, r6] h (wq P d sw_c161 sw_h161 73 [r0, r1, vi x2, r3, .index q3, vi x5, r6, vi x7] [] kc ks Q)) (e_q3 : r4 = .index q3 := by first | rfl | assumption) (y1 : s_ty r4 = 3 := by first | rfl | assumption) (y2 : s_ty r6 = 3 := by first | rfl | assumption)  : wr P d sw_c161 sw_h161 (66, [r0, r1, vi x2, r3, r4, vi x5, r6, vi x7], [], h, kc, ks) Q := by
  refine w_ld rfl rfl (Or.inr (Or.inr ⟨by decide, y1⟩)) ?_
  refine w_ld rfl rfl (Or.inr (Or.inr ⟨by decide, y2⟩)) ?_
  subst e_q3
  exact w_cv rfl [.index q3, r6] [] rfl rfl (s_wt_4 rfl) rfl g5 k

theorem k161_73 {P : s_P} {d : Nat} {Q : s_O → Prop} {h : s_H} {kc ks : Nat} {r0 r1 : Term} {x2 : Int} {r3 r4 : Term} {x5 : Int} {r6 : Term} {x7 : Int} {q2 : Nat} {f3 : List Term} {v5 : Term} {q7 : Nat} {f8 : List Term} (g4 : s_get h q2 = some (1, 3, f3)) (g9 : s_get h q7 = some (1, 0, f8)) (k : wm P d 113 [.index q7, vi x5] h (wq P d sw_c161 sw_h161 82 [.index q2, r1, vi x2, r3, r4, vi x5, r6, vi x7] [] kc ks Q)) (e_q2 : r0 = .index q2 := by first | rfl | assumption) (e_q7 : v5 = .index q7 := by first | rfl | assumption) (y1 : s_ty r0 = 3 := by first | rfl | assumption) (n6 : s_nth f3 0 = some v5 := by first | rfl | assumption)  : wr P d sw_c161 sw_h161 (73, [r0, r1, vi x2, r3, r4, vi x5, r6, vi x7], [], h, kc, ks) Q := by
  refine w_ld rfl rfl (Or.inr (Or.inr ⟨by decide, y1⟩)) ?_
  subst e_q2
  refine w_getf rfl g4 n6 ?_
  refine w_ld rfl rfl (Or.inl ⟨by decide, rfl⟩) ?_
  subst e_q7
  exact w_cv rfl [.index q7, vi x5] [] rfl rfl (s_wt_4 rfl) rfl g9 k

theorem k161_82 {P : s_P} {d : Nat} {Q : s_O → Prop} {h : s_H} {kc ks : Nat} {r0 r1 : Term} {x2 : Int} {r3 r4 : Term} {x5 : Int} {r6 : Term} {x7 : Int}  (k : Q (.inl none, h, kc, ks))   : wr P d sw_c161 sw_h161 (82, [r0, r1, vi x2, r3, r4, vi x5, r6, vi x7], [], h, kc, ks) Q := by
  exact w_ret rfl k

/-! 162: FormulaWorks$Parts.solve(LFormulaWorks$Thing;LFormulaWorks$Poly;LFormulaWorks$Poly;)V -/
theorem k162_0 {P : s_P} {d : Nat} {Q : s_O → Prop} {h : s_H} {kc ks : Nat} {r0 r1 r2 r3 t4 t5 t6 t7 t8 t9 t10 : Term} {q2 : Nat} {f3 : List Term} {v5 : Term} {q7 : Nat} {f8 : List Term} (g4 : s_get h q2 = some (1, 3, f3)) (g9 : s_get h q7 = some (1, 0, f8)) (k : wm P d 110 [.index q7] h (wq P d sw_c162 sw_h162 7 [.index q2, r1, r2, r3, t4, t5, t6, t7, t8, t9, t10] [] kc ks Q)) (e_q2 : r0 = .index q2 := by first | rfl | assumption) (e_q7 : v5 = .index q7 := by first | rfl | assumption) (y1 : s_ty r0 = 3 := by first | rfl | assumption) (n6 : s_nth f3 0 = some v5 := by first | rfl | assumption)  : wr P d sw_c162 sw_h162 (0, [r0, r1, r2, r3, t4, t5, t6, t7, t8, t9, t10], [], h, kc, ks) Q := by
  refine w_ld rfl rfl (Or.inr (Or.inr ⟨by decide, y1⟩)) ?_
  subst e_q2
  refine w_getf rfl g4 n6 ?_
  subst e_q7
  exact w_cv rfl [.index q7] [] rfl rfl (s_wt_4 rfl) rfl g9 k

theorem k162_7 {P : s_P} {d : Nat} {Q : s_O → Prop} {h : s_H} {kc ks : Nat} {r0 r1 r2 r3 t4 t5 t6 t7 t8 t9 t10 : Term} {s0 : Int} {q3 : Nat} {f4 : List Term} {v6 : Term} {q8 : Nat} {f9 : List Term} (g5 : s_get h q3 = some (1, 3, f4)) (g10 : s_get h q8 = some (1, 0, f9)) (k : wm P d 109 [.index q8] h (wq P d sw_c162 sw_h162 16 [.index q3, r1, r2, r3, vi s0, t5, t6, t7, t8, t9, t10] [] kc ks Q)) (e_q3 : r0 = .index q3 := by first | rfl | assumption) (e_q8 : v6 = .index q8 := by first | rfl | assumption) (y1 : s_ty r3 = 3 := by first | rfl | assumption) (y2 : s_ty r0 = 3 := by first | rfl | assumption) (n7 : s_nth f4 0 = some v6 := by first | rfl | assumption)  : wr P d sw_c162 sw_h162 (7, [r0, r1, r2, r3, t4, t5, t6, t7, t8, t9, t10], [vi s0], h, kc, ks) Q := by
  refine w_st (ls' := [r0, r1, r2, r3, vi s0, t5, t6, t7, t8, t9, t10]) rfl (Or.inl ⟨by decide, rfl⟩) (s_stK_r (pre := [r0, r1, r2]) y1) ?_
  refine w_ld rfl rfl (Or.inr (Or.inr ⟨by decide, y2⟩)) ?_
  subst e_q3
  refine w_getf rfl g5 n7 ?_
  subst e_q8
  exact w_cv rfl [.index q8] [] rfl rfl (s_wt_4 rfl) rfl g10 k

theorem k162_16 {P : s_P} {d : Nat} {Q : s_O → Prop} {h : s_H} {kc ks : Nat} {r0 r1 r2 r3 : Term} {x4 : Int} {t5 t6 t7 t8 t9 t10 s0 : Term} {q3 : Nat} {f4 : List Term} {v6 : Term} {q8 : Nat} {f9 : List Term} (g5 : s_get h q3 = some (1, 3, f4)) (g10 : s_get h q8 = some (1, 0, f9)) (k : wm P d 109 [.index q8] h (wq P d sw_c162 sw_h162 25 [.index q3, r1, r2, r3, vi x4, s0, t6, t7, t8, t9, t10] [] kc ks Q)) (e_q3 : r0 = .index q3 := by first | rfl | assumption) (e_q8 : v6 = .index q8 := by first | rfl | assumption) (y1 : s_ty s0 = 3 := by first | rfl | assumption) (y2 : s_ty r0 = 3 := by first | rfl | assumption) (n7 : s_nth f4 0 = some v6 := by first | rfl | assumption)  : wr P d sw_c162 sw_h162 (16, [r0, r1, r2, r3, vi x4, t5, t6, t7, t8, t9, t10], [s0], h, kc, ks) Q := by
  refine w_st (ls' := [r0, r1, r2, r3, vi x4, s0, t6, t7, t8, t9, t10]) rfl (Or.inr ⟨by decide, y1⟩) rfl ?_
  refine w_ld rfl rfl (Or.inr (Or.inr ⟨by decide, y2⟩)) ?_
  subst e_q3
  refine w_getf rfl g5 n7 ?_
  subst e_q8
  exact w_cv rfl [.index q8] [] rfl rfl (s_wt_4 rfl) rfl g10 k

theorem k162_25 {P : s_P} {d : Nat} {Q : s_O → Prop} {h : s_H} {kc ks : Nat} {r0 r1 r2 r3 : Term} {x4 : Int} {r5 t6 t7 t8 t9 t10 s0 : Term} {q4 : Nat} {f5 : List Term} {v7 : Term} {q9 : Nat} {f10 : List Term} (g6 : s_get h q4 = some (1, 3, f5)) (g11 : s_get h q9 = some (1, 0, f10)) (k : wm P d 109 [.index q9] h (wq P d sw_c162 sw_h162 34 [.index q4, r1, r2, r3, vi x4, r5, s0, t7, t8, t9, t10] [] kc ks Q)) (e_q4 : r0 = .index q4 := by first | rfl | assumption) (e_q9 : v7 = .index q9 := by first | rfl | assumption) (y1 : s_ty r5 = 3 := by first | rfl | assumption) (y2 : s_ty s0 = 3 := by first | rfl | assumption) (y3 : s_ty r0 = 3 := by first | rfl | assumption) (n8 : s_nth f5 0 = some v7 := by first | rfl | assumption)  : wr P d sw_c162 sw_h162 (25, [r0, r1, r2, r3, vi x4, r5, t6, t7, t8, t9, t10], [s0], h, kc, ks) Q := by
  refine w_st (ls' := [r0, r1, r2, r3, vi x4, r5, s0, t7, t8, t9, t10]) rfl (Or.inr ⟨by decide, y2⟩) (s_stK_r (pre := [r0, r1, r2, r3, vi x4]) y1) ?_
  refine w_ld rfl rfl (Or.inr (Or.inr ⟨by decide, y3⟩)) ?_
  subst e_q4
  refine w_getf rfl g6 n8 ?_
  subst e_q9
  exact w_cv rfl [.index q9] [] rfl rfl (s_wt_4 rfl) rfl g11 k

theorem k162_34 {P : s_P} {d : Nat} {Q : s_O → Prop} {h : s_H} {kc ks : Nat} {r0 r1 r2 r3 : Term} {x4 : Int} {r5 r6 t7 t8 t9 t10 s0 : Term} {q4 : Nat} {f5 : List Term} {z7 : Int} {q10 : Nat} {f11 : List Term} {z13 : Int} {q16 : Nat} {f17 : List Term} {v19 : Term} {q21 : Nat} {f22 : List Term} (g6 : s_get h q4 = some (1, 4, f5)) (g12 : s_get h q10 = some (1, 4, f11)) (g18 : s_get h q16 = some (1, 3, f17)) (g23 : s_get h q21 = some (1, 1, f22)) (k : wm P d 124 [.index q21, vi (z7 + z13), vi ((z7 + z13) + 1)] h (wq P d sw_c162 sw_h162 64 [.index q16, r1, .index q10, .index q4, vi x4, r5, r6, s0, vi z7, vi (z7 + z13), t10] [] kc ks Q)) (e_q4 : r3 = .index q4 := by first | rfl | assumption) (e_q10 : r2 = .index q10 := by first | rfl | assumption) (e_q16 : r0 = .index q16 := by first | rfl | assumption) (e_q21 : v19 = .index q21 := by first | rfl | assumption) (y1 : s_ty r6 = 3 := by first | rfl | assumption) (y2 : s_ty s0 = 3 := by first | rfl | assumption) (y3 : s_ty r3 = 3 := by first | rfl | assumption) (n8 : s_nth f5 1 = some (vi z7) := by first | rfl | assumption) (y9 : s_ty r2 = 3 := by first | rfl | assumption) (n14 : s_nth f11 1 = some (vi z13) := by first | rfl | assumption) (y15 : s_ty r0 = 3 := by first | rfl | assumption) (n20 : s_nth f17 1 = some v19 := by first | rfl | assumption)  : wr P d sw_c162 sw_h162 (34, [r0, r1, r2, r3, vi x4, r5, r6, t7, t8, t9, t10], [s0], h, kc, ks) Q := by
  refine w_st (ls' := [r0, r1, r2, r3, vi x4, r5, r6, s0, t8, t9, t10]) rfl (Or.inr ⟨by decide, y2⟩) (s_stK_r (pre := [r0, r1, r2, r3, vi x4, r5]) y1) ?_
  refine w_ld rfl rfl (Or.inr (Or.inr ⟨by decide, y3⟩)) ?_
  subst e_q4
  refine w_getf rfl g6 n8 ?_
  refine w_st (ls' := [r0, r1, r2, .index q4, vi x4, r5, r6, s0, vi z7, t9, t10]) rfl (Or.inl ⟨by decide, rfl⟩) (s_stK_r (pre := [r0, r1, r2, .index q4, vi x4, r5, r6]) y2) ?_
  refine w_ld rfl rfl (Or.inl ⟨by decide, rfl⟩) ?_
  refine w_ld rfl rfl (Or.inr (Or.inr ⟨by decide, y9⟩)) ?_
  subst e_q10
  refine w_getf rfl g12 n14 ?_
  refine w_iadd rfl ?_
  refine w_st (ls' := [r0, r1, .index q10, .index q4, vi x4, r5, r6, s0, vi z7, vi (z7 + z13), t10]) rfl (Or.inl ⟨by decide, rfl⟩) rfl ?_
  refine w_ld rfl rfl (Or.inr (Or.inr ⟨by decide, y15⟩)) ?_
  subst e_q16
  refine w_getf rfl g18 n20 ?_
  refine w_ld rfl rfl (Or.inl ⟨by decide, rfl⟩) ?_
  refine w_ld rfl rfl (Or.inl ⟨by decide, rfl⟩) ?_
  refine w_c32 rfl (by decide) 1 (by decide) ?_
  refine w_iadd rfl ?_
  subst e_q21
  exact w_cv rfl [.index q21, vi (z7 + z13), vi ((z7 + z13) + 1)] [] rfl rfl (s_wt_4 rfl) rfl g23 k

theorem k162_64 {P : s_P} {d : Nat} {Q : s_O → Prop} {h : s_H} {kc ks : Nat} {r0 r1 r2 r3 : Term} {x4 : Int} {r5 r6 r7 : Term} {x8 x9 : Int} {t10 : Term} {q3 : Nat} {f4 : List Term} (g5 : s_get h q3 = some (1, 4, f4)) (k : wm P d 179 [.index q3, r3] h (wq P d sw_c162 sw_h162 70 [r0, r1, r2, r3, vi x4, .index q3, r6, r7, vi x8, vi x9, t10] [] kc ks Q)) (e_q3 : r5 = .index q3 := by first | rfl | assumption) (y1 : s_ty r5 = 3 := by first | rfl | assumption) (y2 : s_ty r3 = 3 := by first | rfl | assumption)  : wr P d sw_c162 sw_h162 (64, [r0, r1, r2, r3, vi x4, r5, r6, r7, vi x8, vi x9, t10], [], h, kc, ks) Q := by
  refine w_ld rfl rfl (Or.inr (Or.inr ⟨by decide, y1⟩)) ?_
  refine w_ld rfl rfl (Or.inr (Or.inr ⟨by decide, y2⟩)) ?_
  subst e_q3
  exact w_cv rfl [.index q3, r3] [] rfl rfl (s_wt_4 rfl) rfl g5 k

theorem k162_70 {P : s_P} {d : Nat} {Q : s_O → Prop} {h : s_H} {kc ks : Nat} {r0 r1 r2 r3 : Term} {x4 : Int} {r5 r6 r7 : Term} {x8 x9 : Int} {t10 : Term} {q2 : Nat} {f3 : List Term} (g4 : s_get h q2 = some (1, 4, f3)) (k : wm P d 174 [.index q2] h (wq P d sw_c162 sw_h162 75 [r0, r1, r2, r3, vi x4, .index q2, r6, r7, vi x8, vi x9, t10] [] kc ks Q)) (e_q2 : r5 = .index q2 := by first | rfl | assumption) (y1 : s_ty r5 = 3 := by first | rfl | assumption)  : wr P d sw_c162 sw_h162 (70, [r0, r1, r2, r3, vi x4, r5, r6, r7, vi x8, vi x9, t10], [], h, kc, ks) Q := by
  refine w_ld rfl rfl (Or.inr (Or.inr ⟨by decide, y1⟩)) ?_
  subst e_q2
  exact w_cv rfl [.index q2] [] rfl rfl (s_wt_4 rfl) rfl g4 k

theorem k162_75 {P : s_P} {d : Nat} {Q : s_O → Prop} {h : s_H} {kc ks : Nat} {r0 r1 r2 r3 : Term} {x4 : Int} {r5 r6 r7 : Term} {x8 x9 : Int} {t10 : Term} {q2 : Nat} {f3 : List Term} {v5 : Term} {q9 : Nat} {f10 : List Term} (g4 : s_get h q2 = some (1, 3, f3)) (g11 : s_get h q9 = some (1, 0, f10)) (k : wm P d 111 [.index q9, r5, r2] h (wq P d sw_c162 sw_h162 85 [.index q2, r1, r2, r3, vi x4, r5, r6, r7, vi x8, vi x9, t10] [] kc ks Q)) (e_q2 : r0 = .index q2 := by first | rfl | assumption) (e_q9 : v5 = .index q9 := by first | rfl | assumption) (y1 : s_ty r0 = 3 := by first | rfl | assumption) (n6 : s_nth f3 0 = some v5 := by first | rfl | assumption) (y7 : s_ty r5 = 3 := by first | rfl | assumption) (y8 : s_ty r2 = 3 := by first | rfl | assumption)  : wr P d sw_c162 sw_h162 (75, [r0, r1, r2, r3, vi x4, r5, r6, r7, vi x8, vi x9, t10], [], h, kc, ks) Q := by
  refine w_ld rfl rfl (Or.inr (Or.inr ⟨by decide, y1⟩)) ?_
  subst e_q2
  refine w_getf rfl g4 n6 ?_
  refine w_ld rfl rfl (Or.inr (Or.inr ⟨by decide, y7⟩)) ?_
  refine w_ld rfl rfl (Or.inr (Or.inr ⟨by decide, y8⟩)) ?_
  subst e_q9
  exact w_cv rfl [.index q9, r5, r2] [] rfl rfl (s_wt_4 rfl) rfl g11 k

theorem k162_85 {P : s_P} {d : Nat} {Q : s_O → Prop} {h : s_H} {kc ks : Nat} {r0 r1 r2 r3 : Term} {x4 : Int} {r5 r6 r7 : Term} {x8 x9 : Int} {t10 : Term} {q2 : Nat} {f3 : List Term} {v5 : Term} {q9 : Nat} {f10 : List Term} (g4 : s_get h q2 = some (1, 3, f3)) (g11 : s_get h q9 = some (1, 0, f10)) (k : wm P d 117 [.index q9, r5, r3, vi 1, r5] h (wq P d sw_c162 sw_h162 98 [.index q2, r1, r2, r3, vi x4, r5, r6, r7, vi x8, vi x9, t10] [] kc ks Q)) (e_q2 : r0 = .index q2 := by first | rfl | assumption) (e_q9 : v5 = .index q9 := by first | rfl | assumption) (y1 : s_ty r0 = 3 := by first | rfl | assumption) (n6 : s_nth f3 0 = some v5 := by first | rfl | assumption) (y7 : s_ty r5 = 3 := by first | rfl | assumption) (y8 : s_ty r3 = 3 := by first | rfl | assumption)  : wr P d sw_c162 sw_h162 (85, [r0, r1, r2, r3, vi x4, r5, r6, r7, vi x8, vi x9, t10], [], h, kc, ks) Q := by
  refine w_ld rfl rfl (Or.inr (Or.inr ⟨by decide, y1⟩)) ?_
  subst e_q2
  refine w_getf rfl g4 n6 ?_
  refine w_ld rfl rfl (Or.inr (Or.inr ⟨by decide, y7⟩)) ?_
  refine w_ld rfl rfl (Or.inr (Or.inr ⟨by decide, y8⟩)) ?_
  refine w_c32 rfl (by decide) 1 (by decide) ?_
  refine w_ld rfl rfl (Or.inr (Or.inr ⟨by decide, y7⟩)) ?_
  subst e_q9
  exact w_cv rfl [.index q9, r5, r3, vi 1, r5] [] rfl rfl (s_wt_4 rfl) rfl g11 k

theorem k162_98 {P : s_P} {d : Nat} {Q : s_O → Prop} {h : s_H} {kc ks : Nat} {r0 r1 r2 r3 : Term} {x4 : Int} {r5 r6 r7 : Term} {x8 x9 : Int} {t10 : Term}  (k : wr P d sw_c162 sw_h162 (101, [r0, r1, r2, r3, vi x4, r5, r6, r7, vi x8, vi x9, vi 0], [], h, kc, ks) Q)   : wr P d sw_c162 sw_h162 (98, [r0, r1, r2, r3, vi x4, r5, r6, r7, vi x8, vi x9, t10], [], h, kc, ks) Q := by
  refine w_c32 rfl (by decide) 0 (by decide) ?_
  refine w_st (ls' := [r0, r1, r2, r3, vi x4, r5, r6, r7, vi x8, vi x9, vi 0]) rfl (Or.inl ⟨by decide, rfl⟩) rfl ?_
  exact k

theorem k162_101 {P : s_P} {d : Nat} {Q : s_O → Prop} {h : s_H} {kc ks : Nat} {r0 r1 r2 r3 : Term} {x4 : Int} {r5 r6 r7 : Term} {x8 x9 x10 : Int}  (k1 : x9 ≤ x10 → wr P d sw_c162 sw_h162 (201, [r0, r1, r2, r3, vi x4, r5, r6, r7, vi x8, vi x9, vi x10], [], h, kc, ks) Q) (k2 : ¬ x9 ≤ x10 → wr P d sw_c162 sw_h162 (108, [r0, r1, r2, r3, vi x4, r5, r6, r7, vi x8, vi x9, vi x10], [], h, kc, ks) Q)  (c1 : In3 x10 := by first | omega | assumption | (simp only [mk_len, List.length_map]; omega) | decide) (c2 : In3 x9 := by first | omega | assumption | (simp only [mk_len, List.length_map]; omega) | decide) : wr P d sw_c162 sw_h162 (101, [r0, r1, r2, r3, vi x4, r5, r6, r7, vi x8, vi x9, vi x10], [], h, kc, ks) Q := by
  refine w_ld rfl rfl (Or.inl ⟨by decide, rfl⟩) ?_
  refine w_ld rfl rfl (Or.inl ⟨by decide, rfl⟩) ?_
  exact w_if2 rfl c1 c2 k1 k2

theorem k162_108 {P : s_P} {d : Nat} {Q : s_O → Prop} {h : s_H} {kc ks : Nat} {r0 r1 r2 r3 : Term} {x4 : Int} {r5 r6 r7 : Term} {x8 x9 x10 : Int}  (k1 : x8 ≤ x10 → wr P d sw_c162 sw_h162 (122, [r0, r1, r2, r3, vi x4, r5, r6, r7, vi x8, vi x9, vi x10], [r7], h, kc, ks) Q) (k2 : ¬ x8 ≤ x10 → wr P d sw_c162 sw_h162 (117, [r0, r1, r2, r3, vi x4, r5, r6, r7, vi x8, vi x9, vi x10], [r7], h, kc, ks) Q) (y1 : s_ty r7 = 3 := by first | rfl | assumption) (c2 : In3 x10 := by first | omega | assumption | (simp only [mk_len, List.length_map]; omega) | decide) (c3 : In3 x8 := by first | omega | assumption | (simp only [mk_len, List.length_map]; omega) | decide) : wr P d sw_c162 sw_h162 (108, [r0, r1, r2, r3, vi x4, r5, r6, r7, vi x8, vi x9, vi x10], [], h, kc, ks) Q := by
  refine w_ld rfl rfl (Or.inr (Or.inr ⟨by decide, y1⟩)) ?_
  refine w_ld rfl rfl (Or.inl ⟨by decide, rfl⟩) ?_
  refine w_ld rfl rfl (Or.inl ⟨by decide, rfl⟩) ?_
  exact w_if2 rfl c2 c3 k1 k2

theorem k162_117 {P : s_P} {d : Nat} {Q : s_O → Prop} {h : s_H} {kc ks : Nat} {r0 r1 r2 r3 : Term} {x4 : Int} {r5 r6 r7 : Term} {x8 x9 x10 : Int} {s0 : Term}  (k : wr P d sw_c162 sw_h162 (127, [r0, r1, r2, r3, vi x4, r5, r6, r7, vi x8, vi x9, vi x10], [vi x10, s0], h, kc, ks) Q)   : wr P d sw_c162 sw_h162 (117, [r0, r1, r2, r3, vi x4, r5, r6, r7, vi x8, vi x9, vi x10], [s0], h, kc, ks) Q := by
  refine w_ld rfl rfl (Or.inl ⟨by decide, rfl⟩) ?_
  refine w_goto rfl ?_
  exact k

theorem k162_122 {P : s_P} {d : Nat} {Q : s_O → Prop} {h : s_H} {kc ks : Nat} {r0 r1 r2 r3 : Term} {x4 : Int} {r5 r6 r7 : Term} {x8 x9 x10 : Int} {s0 : Term}  (k : wr P d sw_c162 sw_h162 (127, [r0, r1, r2, r3, vi x4, r5, r6, r7, vi x8, vi x9, vi x10], [vi (x10 - x8), s0], h, kc, ks) Q)   : wr P d sw_c162 sw_h162 (122, [r0, r1, r2, r3, vi x4, r5, r6, r7, vi x8, vi x9, vi x10], [s0], h, kc, ks) Q := by
  refine w_ld rfl rfl (Or.inl ⟨by decide, rfl⟩) ?_
  refine w_ld rfl rfl (Or.inl ⟨by decide, rfl⟩) ?_
  refine w_isub rfl ?_
  exact k

theorem k162_127 {P : s_P} {d : Nat} {Q : s_O → Prop} {h : s_H} {kc ks : Nat} {r0 r1 r2 r3 : Term} {x4 : Int} {r5 r6 r7 : Term} {x8 x9 x10 : Int} {s0 : Term} {s1 : Int} {q1 : Nat} {f2 : List Term} (g3 : s_get h q1 = some (1, 4, f2)) (k : wm P d 181 [.index q1, vi s1] h (wq P d sw_c162 sw_h162 130 [r0, r1, r2, r3, vi x4, r5, r6, r7, vi x8, vi x9, vi x10] [] kc ks Q)) (e_q1 : s0 = .index q1 := by first | rfl | assumption)  : wr P d sw_c162 sw_h162 (127, [r0, r1, r2, r3, vi x4, r5, r6, r7, vi x8, vi x9, vi x10], [vi s1, s0], h, kc, ks) Q := by
  subst e_q1
  exact w_cv rfl [.index q1, vi s1] [] rfl rfl (s_wt_4 rfl) rfl g3 k

theorem k162_130 {P : s_P} {d : Nat} {Q : s_O → Prop} {h : s_H} {kc ks : Nat} {r0 r1 r2 r3 : Term} {x4 : Int} {r5 r6 r7 : Term} {x8 x9 x10 : Int}  (k1 : x8 ≤ x10 → wr P d sw_c162 sw_h162 (146, [r0, r1, r2, r3, vi x4, r5, r6, r7, vi x8, vi x9, vi x10], [r7, r6], h, kc, ks) Q) (k2 : ¬ x8 ≤ x10 → wr P d sw_c162 sw_h162 (141, [r0, r1, r2, r3, vi x4, r5, r6, r7, vi x8, vi x9, vi x10], [r7, r6], h, kc, ks) Q) (y1 : s_ty r6 = 3 := by first | rfl | assumption) (y2 : s_ty r7 = 3 := by first | rfl | assumption) (c3 : In3 x10 := by first | omega | assumption | (simp only [mk_len, List.length_map]; omega) | decide) (c4 : In3 x8 := by first | omega | assumption | (simp only [mk_len, List.length_map]; omega) | decide) : wr P d sw_c162 sw_h162 (130, [r0, r1, r2, r3, vi x4, r5, r6, r7, vi x8, vi x9, vi x10], [], h, kc, ks) Q := by
  refine w_ld rfl rfl (Or.inr (Or.inr ⟨by decide, y1⟩)) ?_
  refine w_ld rfl rfl (Or.inr (Or.inr ⟨by decide, y2⟩)) ?_
  refine w_ld rfl rfl (Or.inl ⟨by decide, rfl⟩) ?_
  refine w_ld rfl rfl (Or.inl ⟨by decide, rfl⟩) ?_
  exact w_if2 rfl c3 c4 k1 k2

theorem k162_141 {P : s_P} {d : Nat} {Q : s_O → Prop} {h : s_H} {kc ks : Nat} {r0 r1 r2 r3 : Term} {x4 : Int} {r5 r6 r7 : Term} {x8 x9 x10 : Int} {s0 s1 : Term}  (k : wr P d sw_c162 sw_h162 (147, [r0, r1, r2, r3, vi x4, r5, r6, r7, vi x8, vi x9, vi x10], [r5, s1, s0], h, kc, ks) Q) (y1 : s_ty r5 = 3 := by first | rfl | assumption)  : wr P d sw_c162 sw_h162 (141, [r0, r1, r2, r3, vi x4, r5, r6, r7, vi x8, vi x9, vi x10], [s1, s0], h, kc, ks) Q := by
  refine w_ld rfl rfl (Or.inr (Or.inr ⟨by decide, y1⟩)) ?_
  refine w_goto rfl ?_
  exact k

theorem k162_146 {P : s_P} {d : Nat} {Q : s_O → Prop} {h : s_H} {kc ks : Nat} {r0 r1 r2 r3 : Term} {x4 : Int} {r5 r6 r7 : Term} {x8 x9 x10 : Int} {s0 s1 : Term}  (k : wr P d sw_c162 sw_h162 (147, [r0, r1, r2, r3, vi x4, r5, r6, r7, vi x8, vi x9, vi x10], [r3, s1, s0], h, kc, ks) Q) (y1 : s_ty r3 = 3 := by first | rfl | assumption)  : wr P d sw_c162 sw_h162 (146, [r0, r1, r2, r3, vi x4, r5, r6, r7, vi x8, vi x9, vi x10], [s1, s0], h, kc, ks) Q := by
  refine w_ld rfl rfl (Or.inr (Or.inr ⟨by decide, y1⟩)) ?_
  exact k

theorem k162_147 {P : s_P} {d : Nat} {Q : s_O → Prop} {h : s_H} {kc ks : Nat} {r0 r1 r2 r3 : Term} {x4 : Int} {r5 r6 r7 : Term} {x8 x9 x10 : Int} {s0 s1 s2 : Term} {q1 : Nat} {f2 : List Term} (g3 : s_get h q1 = some (1, 4, f2)) (k : wm P d 182 [.index q1, s1, s2] h (wq P d sw_c162 sw_h162 150 [r0, r1, r2, r3, vi x4, r5, r6, r7, vi x8, vi x9, vi x10] [] kc ks Q)) (e_q1 : s0 = .index q1 := by first | rfl | assumption)  : wr P d sw_c162 sw_h162 (147, [r0, r1, r2, r3, vi x4, r5, r6, r7, vi x8, vi x9, vi x10], [s2, s1, s0], h, kc, ks) Q := by
  subst e_q1
  exact w_cv rfl [.index q1, s1, s2] [] rfl rfl (s_wt_4 rfl) rfl g3 k

theorem k162_150 {P : s_P} {d : Nat} {Q : s_O → Prop} {h : s_H} {kc ks : Nat} {r0 r1 r2 r3 : Term} {x4 : Int} {r5 r6 r7 : Term} {x8 x9 x10 : Int}  (k1 : x8 ≤ x10 → wr P d sw_c162 sw_h162 (184, [r0, r1, r2, r3, vi x4, r5, r6, r7, vi x8, vi x9, vi x10], [], h, kc, ks) Q) (k2 : ¬ x8 ≤ x10 → wr P d sw_c162 sw_h162 (157, [r0, r1, r2, r3, vi x4, r5, r6, r7, vi x8, vi x9, vi x10], [], h, kc, ks) Q)  (c1 : In3 x10 := by first | omega | assumption | (simp only [mk_len, List.length_map]; omega) | decide) (c2 : In3 x8 := by first | omega | assumption | (simp only [mk_len, List.length_map]; omega) | decide) : wr P d sw_c162 sw_h162 (150, [r0, r1, r2, r3, vi x4, r5, r6, r7, vi x8, vi x9, vi x10], [], h, kc, ks) Q := by
  refine w_ld rfl rfl (Or.inl ⟨by decide, rfl⟩) ?_
  refine w_ld rfl rfl (Or.inl ⟨by decide, rfl⟩) ?_
  exact w_if2 rfl c1 c2 k1 k2

theorem k162_157 {P : s_P} {d : Nat} {Q : s_O → Prop} {h : s_H} {kc ks : Nat} {r0 r1 r2 r3 : Term} {x4 : Int} {r5 r6 r7 : Term} {x8 x9 x10 : Int} {q2 : Nat} {f3 : List Term} (g4 : s_get h q2 = some (1, 4, f3)) (k : wm P d 174 [.index q2] h (wq P d sw_c162 sw_h162 162 [r0, r1, r2, r3, vi x4, r5, r6, .index q2, vi x8, vi x9, vi x10] [] kc ks Q)) (e_q2 : r7 = .index q2 := by first | rfl | assumption) (y1 : s_ty r7 = 3 := by first | rfl | assumption)  : wr P d sw_c162 sw_h162 (157, [r0, r1, r2, r3, vi x4, r5, r6, r7, vi x8, vi x9, vi x10], [], h, kc, ks) Q := by
  refine w_ld rfl rfl (Or.inr (Or.inr ⟨by decide, y1⟩)) ?_
  subst e_q2
  exact w_cv rfl [.index q2] [] rfl rfl (s_wt_4 rfl) rfl g4 k

theorem k162_162 {P : s_P} {d : Nat} {Q : s_O → Prop} {h : s_H} {kc ks : Nat} {r0 r1 r2 r3 : Term} {x4 : Int} {r5 r6 r7 : Term} {x8 x9 x10 : Int} {q2 : Nat} {f3 : List Term} {v5 : Term} {q9 : Nat} {f10 : List Term} (g4 : s_get h q2 = some (1, 3, f3)) (g11 : s_get h q9 = some (1, 0, f10)) (k : wm P d 111 [.index q9, r7, r2] h (wq P d sw_c162 sw_h162 172 [.index q2, r1, r2, r3, vi x4, r5, r6, r7, vi x8, vi x9, vi x10] [] kc ks Q)) (e_q2 : r0 = .index q2 := by first | rfl | assumption) (e_q9 : v5 = .index q9 := by first | rfl | assumption) (y1 : s_ty r0 = 3 := by first | rfl | assumption) (n6 : s_nth f3 0 = some v5 := by first | rfl | assumption) (y7 : s_ty r7 = 3 := by first | rfl | assumption) (y8 : s_ty r2 = 3 := by first | rfl | assumption)  : wr P d sw_c162 sw_h162 (162, [r0, r1, r2, r3, vi x4, r5, r6, r7, vi x8, vi x9, vi x10], [], h, kc, ks) Q := by
  refine w_ld rfl rfl (Or.inr (Or.inr ⟨by decide, y1⟩)) ?_
  subst e_q2
  refine w_getf rfl g4 n6 ?_
  refine w_ld rfl rfl (Or.inr (Or.inr ⟨by decide, y7⟩)) ?_
  refine w_ld rfl rfl (Or.inr (Or.inr ⟨by decide, y8⟩)) ?_
  subst e_q9
  exact w_cv rfl [.index q9, r7, r2] [] rfl rfl (s_wt_4 rfl) rfl g11 k

theorem k162_172 {P : s_P} {d : Nat} {Q : s_O → Prop} {h : s_H} {kc ks : Nat} {r0 r1 r2 r3 : Term} {x4 : Int} {r5 r6 r7 : Term} {x8 x9 x10 : Int} {q3 : Nat} {f4 : List Term} (g5 : s_get h q3 = some (1, 4, f4)) (k : wm P d 184 [.index q3, r7, .index q3, vi 32002] h (wq P d sw_c162 sw_h162 184 [r0, r1, r2, r3, vi x4, r5, .index q3, r7, vi x8, vi x9, vi x10] [] kc ks Q)) (e_q3 : r6 = .index q3 := by first | rfl | assumption) (y1 : s_ty r6 = 3 := by first | rfl | assumption) (y2 : s_ty r7 = 3 := by first | rfl | assumption)  : wr P d sw_c162 sw_h162 (172, [r0, r1, r2, r3, vi x4, r5, r6, r7, vi x8, vi x9, vi x10], [], h, kc, ks) Q := by
  refine w_ld rfl rfl (Or.inr (Or.inr ⟨by decide, y1⟩)) ?_
  refine w_ld rfl rfl (Or.inr (Or.inr ⟨by decide, y2⟩)) ?_
  refine w_ld rfl rfl (Or.inr (Or.inr ⟨by decide, y1⟩)) ?_
  refine w_c32 rfl (by decide) 32002 (by decide) ?_
  subst e_q3
  exact w_cv rfl [.index q3, r7, .index q3, vi 32002] [] rfl rfl (s_wt_4 rfl) rfl g5 k

theorem k162_184 {P : s_P} {d : Nat} {Q : s_O → Prop} {h : s_H} {kc ks : Nat} {r0 r1 r2 r3 : Term} {x4 : Int} {r5 r6 r7 : Term} {x8 x9 x10 : Int} {q2 : Nat} {f3 : List Term} {v5 : Term} {q8 : Nat} {f9 : List Term} (g4 : s_get h q2 = some (1, 3, f3)) (g10 : s_get h q8 = some (1, 1, f9)) (k : wm P d 131 [.index q8, vi x10, r6] h (wq P d sw_c162 sw_h162 195 [.index q2, r1, r2, r3, vi x4, r5, r6, r7, vi x8, vi x9, vi x10] [] kc ks Q)) (e_q2 : r0 = .index q2 := by first | rfl | assumption) (e_q8 : v5 = .index q8 := by first | rfl | assumption) (y1 : s_ty r0 = 3 := by first | rfl | assumption) (n6 : s_nth f3 1 = some v5 := by first | rfl | assumption) (y7 : s_ty r6 = 3 := by first | rfl | assumption)  : wr P d sw_c162 sw_h162 (184, [r0, r1, r2, r3, vi x4, r5, r6, r7, vi x8, vi x9, vi x10], [], h, kc, ks) Q := by
  refine w_ld rfl rfl (Or.inr (Or.inr ⟨by decide, y1⟩)) ?_
  subst e_q2
  refine w_getf rfl g4 n6 ?_
  refine w_ld rfl rfl (Or.inl ⟨by decide, rfl⟩) ?_
  refine w_ld rfl rfl (Or.inr (Or.inr ⟨by decide, y7⟩)) ?_
  subst e_q8
  exact w_cv rfl [.index q8, vi x10, r6] [] rfl rfl (s_wt_4 rfl) rfl g10 k

theorem k162_195 {P : s_P} {d : Nat} {Q : s_O → Prop} {h : s_H} {kc ks : Nat} {r0 r1 r2 r3 : Term} {x4 : Int} {r5 r6 r7 : Term} {x8 x9 x10 : Int}  (k : wr P d sw_c162 sw_h162 (101, [r0, r1, r2, r3, vi x4, r5, r6, r7, vi x8, vi x9, vi (x10 + 1)], [], h, kc, ks) Q)   : wr P d sw_c162 sw_h162 (195, [r0, r1, r2, r3, vi x4, r5, r6, r7, vi x8, vi x9, vi x10], [], h, kc, ks) Q := by
  refine w_iinc (ls' := [r0, r1, r2, r3, vi x4, r5, r6, r7, vi x8, vi x9, vi (x10 + 1)]) rfl rfl 1 (by decide) rfl ?_
  refine w_goto rfl ?_
  exact k

theorem k162_201 {P : s_P} {d : Nat} {Q : s_O → Prop} {h : s_H} {kc ks : Nat} {r0 r1 r2 r3 : Term} {x4 : Int} {r5 r6 r7 : Term} {x8 x9 x10 : Int} {q2 : Nat} {f3 : List Term} {v5 : Term} {q8 : Nat} {f9 : List Term} {v11 v13 : Term} {q16 : Nat} {f17 : List Term} (g4 : s_get h q2 = some (1, 3, f3)) (g10 : s_get h q8 = some (1, 8, f9)) (g18 : s_get h q16 = some (1, 0, f17)) (k : wm P d 117 [.index q16, v11, v13, vi 0, r6] h (wq P d sw_c162 sw_h162 219 [.index q2, .index q8, r2, r3, vi x4, r5, r6, r7, vi x8, vi x9, vi x10] [] kc ks Q)) (e_q2 : r0 = .index q2 := by first | rfl | assumption) (e_q8 : r1 = .index q8 := by first | rfl | assumption) (e_q16 : v5 = .index q16 := by first | rfl | assumption) (y1 : s_ty r0 = 3 := by first | rfl | assumption) (n6 : s_nth f3 0 = some v5 := by first | rfl | assumption) (y7 : s_ty r1 = 3 := by first | rfl | assumption) (n12 : s_nth f9 1 = some v11 := by first | rfl | assumption) (n14 : s_nth f9 2 = some v13 := by first | rfl | assumption) (y15 : s_ty r6 = 3 := by first | rfl | assumption)  : wr P d sw_c162 sw_h162 (201, [r0, r1, r2, r3, vi x4, r5, r6, r7, vi x8, vi x9, vi x10], [], h, kc, ks) Q := by
  refine w_ld rfl rfl (Or.inr (Or.inr ⟨by decide, y1⟩)) ?_
  subst e_q2
  refine w_getf rfl g4 n6 ?_
  refine w_ld rfl rfl (Or.inr (Or.inr ⟨by decide, y7⟩)) ?_
  subst e_q8
  refine w_getf rfl g10 n12 ?_
  refine w_ld rfl rfl (Or.inr (Or.inr ⟨by decide, rfl⟩)) ?_
  refine w_getf rfl g10 n14 ?_
  refine w_c32 rfl (by decide) 0 (by decide) ?_
  refine w_ld rfl rfl (Or.inr (Or.inr ⟨by decide, y15⟩)) ?_
  subst e_q16
  exact w_cv rfl [.index q16, v11, v13, vi 0, r6] [] rfl rfl (s_wt_4 rfl) rfl g18 k

theorem k162_219 {P : s_P} {d : Nat} {Q : s_O → Prop} {h : s_H} {kc ks : Nat} {r0 r1 r2 r3 : Term} {x4 : Int} {r5 r6 r7 : Term} {x8 x9 x10 : Int} {q2 : Nat} {f3 : List Term} {v5 : Term} {q8 : Nat} {f9 : List Term} (g4 : s_get h q2 = some (1, 3, f3)) (g10 : s_get h q8 = some (1, 1, f9)) (k : wm P d 131 [.index q8, vi x9, r6] h (wq P d sw_c162 sw_h162 230 [.index q2, r1, r2, r3, vi x4, r5, r6, r7, vi x8, vi x9, vi x10] [] kc ks Q)) (e_q2 : r0 = .index q2 := by first | rfl | assumption) (e_q8 : v5 = .index q8 := by first | rfl | assumption) (y1 : s_ty r0 = 3 := by first | rfl | assumption) (n6 : s_nth f3 1 = some v5 := by first | rfl | assumption) (y7 : s_ty r6 = 3 := by first | rfl | assumption)  : wr P d sw_c162 sw_h162 (219, [r0, r1, r2, r3, vi x4, r5, r6, r7, vi x8, vi x9, vi x10], [], h, kc, ks) Q := by
  refine w_ld rfl rfl (Or.inr (Or.inr ⟨by decide, y1⟩)) ?_
  subst e_q2
  refine w_getf rfl g4 n6 ?_
  refine w_ld rfl rfl (Or.inl ⟨by decide, rfl⟩) ?_
  refine w_ld rfl rfl (Or.inr (Or.inr ⟨by decide, y7⟩)) ?_
  subst e_q8
  exact w_cv rfl [.index q8, vi x9, r6] [] rfl rfl (s_wt_4 rfl) rfl g10 k

theorem k162_230 {P : s_P} {d : Nat} {Q : s_O → Prop} {h : s_H} {kc ks : Nat} {r0 r1 r2 r3 : Term} {x4 : Int} {r5 r6 r7 : Term} {x8 x9 x10 : Int} {q2 : Nat} {f3 : List Term} {v5 : Term} {q7 : Nat} {f8 : List Term} (g4 : s_get h q2 = some (1, 3, f3)) (g9 : s_get h q7 = some (1, 1, f8)) (k : wm P d 127 [.index q7] h (wq P d sw_c162 sw_h162 237 [.index q2, r1, r2, r3, vi x4, r5, r6, r7, vi x8, vi x9, vi x10] [] kc ks Q)) (e_q2 : r0 = .index q2 := by first | rfl | assumption) (e_q7 : v5 = .index q7 := by first | rfl | assumption) (y1 : s_ty r0 = 3 := by first | rfl | assumption) (n6 : s_nth f3 1 = some v5 := by first | rfl | assumption)  : wr P d sw_c162 sw_h162 (230, [r0, r1, r2, r3, vi x4, r5, r6, r7, vi x8, vi x9, vi x10], [], h, kc, ks) Q := by
  refine w_ld rfl rfl (Or.inr (Or.inr ⟨by decide, y1⟩)) ?_
  subst e_q2
  refine w_getf rfl g4 n6 ?_
  subst e_q7
  exact w_cv rfl [.index q7] [] rfl rfl (s_wt_4 rfl) rfl g9 k

theorem k162_237 {P : s_P} {d : Nat} {Q : s_O → Prop} {h : s_H} {kc ks : Nat} {r0 r1 r2 r3 : Term} {x4 : Int} {r5 r6 r7 : Term} {x8 x9 x10 : Int} {q2 : Nat} {f3 : List Term} {v5 : Term} {q7 : Nat} {f8 : List Term} (g4 : s_get h q2 = some (1, 3, f3)) (g9 : s_get h q7 = some (1, 1, f8)) (k : wm P d 132 [.index q7, vi x9] h (wq P d sw_c162 sw_h162 246 [.index q2, r1, r2, r3, vi x4, r5, r6, r7, vi x8, vi x9, vi x10] [] kc ks Q)) (e_q2 : r0 = .index q2 := by first | rfl | assumption) (e_q7 : v5 = .index q7 := by first | rfl | assumption) (y1 : s_ty r0 = 3 := by first | rfl | assumption) (n6 : s_nth f3 1 = some v5 := by first | rfl | assumption)  : wr P d sw_c162 sw_h162 (237, [r0, r1, r2, r3, vi x4, r5, r6, r7, vi x8, vi x9, vi x10], [], h, kc, ks) Q := by
  refine w_ld rfl rfl (Or.inr (Or.inr ⟨by decide, y1⟩)) ?_
  subst e_q2
  refine w_getf rfl g4 n6 ?_
  refine w_ld rfl rfl (Or.inl ⟨by decide, rfl⟩) ?_
  subst e_q7
  exact w_cv rfl [.index q7, vi x9] [] rfl rfl (s_wt_4 rfl) rfl g9 k

theorem k162_246 {P : s_P} {d : Nat} {Q : s_O → Prop} {h : s_H} {kc ks : Nat} {r0 r1 r2 r3 : Term} {x4 : Int} {r5 r6 r7 : Term} {x8 x9 x10 : Int} {q2 : Nat} {f3 : List Term} {v5 : Term} {q7 : Nat} {f8 : List Term} (g4 : s_get h q2 = some (1, 3, f3)) (g9 : s_get h q7 = some (1, 0, f8)) (k : wm P d 113 [.index q7, vi x4] h (wq P d sw_c162 sw_h162 255 [.index q2, r1, r2, r3, vi x4, r5, r6, r7, vi x8, vi x9, vi x10] [] kc ks Q)) (e_q2 : r0 = .index q2 := by first | rfl | assumption) (e_q7 : v5 = .index q7 := by first | rfl | assumption) (y1 : s_ty r0 = 3 := by first | rfl | assumption) (n6 : s_nth f3 0 = some v5 := by first | rfl | assumption)  : wr P d sw_c162 sw_h162 (246, [r0, r1, r2, r3, vi x4, r5, r6, r7, vi x8, vi x9, vi x10], [], h, kc, ks) Q := by
  refine w_ld rfl rfl (Or.inr (Or.inr ⟨by decide, y1⟩)) ?_
  subst e_q2
  refine w_getf rfl g4 n6 ?_
  refine w_ld rfl rfl (Or.inl ⟨by decide, rfl⟩) ?_
  subst e_q7
  exact w_cv rfl [.index q7, vi x4] [] rfl rfl (s_wt_4 rfl) rfl g9 k

theorem k162_255 {P : s_P} {d : Nat} {Q : s_O → Prop} {h : s_H} {kc ks : Nat} {r0 r1 r2 r3 : Term} {x4 : Int} {r5 r6 r7 : Term} {x8 x9 x10 : Int}  (k : Q (.inl none, h, kc, ks))   : wr P d sw_c162 sw_h162 (255, [r0, r1, r2, r3, vi x4, r5, r6, r7, vi x8, vi x9, vi x10], [], h, kc, ks) Q := by
  exact w_ret rfl k

/-! 163: FormulaWorks$Parts.sortFactors()V -/
theorem k163_0 {P : s_P} {d : Nat} {Q : s_O → Prop} {h : s_H} {kc ks : Nat} {r0 t1 t2 t3 : Term}  (k : wr P d sw_c163 sw_h163 (2, [r0, vi 1, t2, t3], [], h, kc, ks) Q) (y1 : s_ty r0 = 3 := by first | rfl | assumption)  : wr P d sw_c163 sw_h163 (0, [r0, t1, t2, t3], [], h, kc, ks) Q := by
  refine w_c32 rfl (by decide) 1 (by decide) ?_
  refine w_st (ls' := [r0, vi 1, t2, t3]) rfl (Or.inl ⟨by decide, rfl⟩) (s_stK_r (pre := []) y1) ?_
  exact k

theorem k163_2 {P : s_P} {d : Nat} {Q : s_O → Prop} {h : s_H} {kc ks : Nat} {r0 : Term} {x1 : Int} {t2 t3 : Term} {q2 : Nat} {f3 : List Term} {z5 : Int} (g4 : s_get h q2 = some (1, 3, f3)) (k1 : z5 ≤ x1 → wr P d sw_c163 sw_h163 (71, [.index q2, vi x1, t2, t3], [], h, kc, ks) Q) (k2 : ¬ z5 ≤ x1 → wr P d sw_c163 sw_h163 (10, [.index q2, vi x1, t2, t3], [], h, kc, ks) Q) (e_q2 : r0 = .index q2 := by first | rfl | assumption) (y1 : s_ty r0 = 3 := by first | rfl | assumption) (n6 : s_nth f3 4 = some (vi z5) := by first | rfl | assumption) (c7 : In3 x1 := by first | omega | assumption | (simp only [mk_len, List.length_map]; omega) | decide) (c8 : In3 z5 := by first | omega | assumption | (simp only [mk_len, List.length_map]; omega) | decide) : wr P d sw_c163 sw_h163 (2, [r0, vi x1, t2, t3], [], h, kc, ks) Q := by
  refine w_ld rfl rfl (Or.inl ⟨by decide, rfl⟩) ?_
  refine w_ld rfl rfl (Or.inr (Or.inr ⟨by decide, y1⟩)) ?_
  subst e_q2
  refine w_getf rfl g4 n6 ?_
  exact w_if2 rfl c7 c8 k1 k2

theorem k163_10 {P : s_P} {d : Nat} {Q : s_O → Prop} {h : s_H} {kc ks : Nat} {r0 : Term} {x1 : Int} {t2 t3 : Term} {q2 : Nat} {f3 : List Term} {v5 : Term} {q7 : Nat} {a8 : List Term} {tg10 : Nat} {v11 : Term} (g4 : s_get h q2 = some (1, 3, f3)) (g9 : s_get h q7 = some (0, tg10, a8)) (k : wr P d sw_c163 sw_h163 (19, [.index q2, vi x1, v11, vi x1], [], h, kc, ks) Q) (e_q2 : r0 = .index q2 := by first | rfl | assumption) (e_q7 : v5 = .index q7 := by first | rfl | assumption) (y1 : s_ty r0 = 3 := by first | rfl | assumption) (n6 : s_nth f3 2 = some v5 := by first | rfl | assumption) (n12 : s_nth a8 (Int.toNat (x1)) = some v11 := by first | rfl | assumption) (u13 : tg10 = 2 ∨ tg10 = 3 ∨ tg10 = 4 := by first | decide | assumption) (y16 : s_ty v11 = 3 := by first | rfl | assumption) (c14 : In3 x1 := by first | omega | assumption | (simp only [mk_len, List.length_map]; omega) | decide) (c15 : 0 ≤ x1 := by first | omega | assumption | (simp only [mk_len, List.length_map]; omega) | decide) : wr P d sw_c163 sw_h163 (10, [r0, vi x1, t2, t3], [], h, kc, ks) Q := by
  refine w_ld rfl rfl (Or.inr (Or.inr ⟨by decide, y1⟩)) ?_
  subst e_q2
  refine w_getf rfl g4 n6 ?_
  refine w_ld rfl rfl (Or.inl ⟨by decide, rfl⟩) ?_
  subst e_q7
  refine w_aald rfl g9 u13 c14 c15 n12 ?_
  refine w_st (ls' := [.index q2, vi x1, v11, t3]) rfl (Or.inr ⟨by decide, y16⟩) rfl ?_
  refine w_ld rfl rfl (Or.inl ⟨by decide, rfl⟩) ?_
  refine w_st (ls' := [.index q2, vi x1, v11, vi x1]) rfl (Or.inl ⟨by decide, rfl⟩) (s_stK_r (pre := [.index q2, vi x1]) y16) ?_
  exact k

theorem k163_19 {P : s_P} {d : Nat} {Q : s_O → Prop} {h : s_H} {kc ks : Nat} {r0 : Term} {x1 : Int} {r2 : Term} {x3 : Int}  (k1 : x3 ≤ 0 → wr P d sw_c163 sw_h163 (58, [r0, vi x1, r2, vi x3], [], h, kc, ks) Q) (k2 : ¬ x3 ≤ 0 → wr P d sw_c163 sw_h163 (23, [r0, vi x1, r2, vi x3], [], h, kc, ks) Q)  (c1 : In3 x3 := by first | omega | assumption | (simp only [mk_len, List.length_map]; omega) | decide) : wr P d sw_c163 sw_h163 (19, [r0, vi x1, r2, vi x3], [], h, kc, ks) Q := by
  refine w_ld rfl rfl (Or.inl ⟨by decide, rfl⟩) ?_
  exact w_if1 rfl c1 k1 k2

theorem k163_23 {P : s_P} {d : Nat} {Q : s_O → Prop} {h : s_H} {kc ks : Nat} {r0 : Term} {x1 : Int} {r2 : Term} {x3 : Int} {q3 : Nat} {f4 : List Term} {v6 : Term} {q8 : Nat} {a9 : List Term} {tg11 : Nat} {v12 : Term} {q17 : Nat} {f18 : List Term} (g5 : s_get h q3 = some (1, 3, f4)) (g10 : s_get h q8 = some (0, tg11, a9)) (g19 : s_get h q17 = some (1, 4, f18)) (k : wm P d 169 [.index q17, v12] h (wq P d sw_c163 sw_h163 35 [.index q3, vi x1, .index q17, vi x3] [] kc ks Q)) (e_q3 : r0 = .index q3 := by first | rfl | assumption) (e_q8 : v6 = .index q8 := by first | rfl | assumption) (e_q17 : r2 = .index q17 := by first | rfl | assumption) (y1 : s_ty r2 = 3 := by first | rfl | assumption) (y2 : s_ty r0 = 3 := by first | rfl | assumption) (n7 : s_nth f4 2 = some v6 := by first | rfl | assumption) (n13 : s_nth a9 (Int.toNat (x3 - 1)) = some v12 := by first | rfl | assumption) (u14 : tg11 = 2 ∨ tg11 = 3 ∨ tg11 = 4 := by first | decide | assumption) (c15 : In3 (x3 - 1) := by first | omega | assumption | (simp only [mk_len, List.length_map]; omega) | decide) (c16 : 0 ≤ x3 - 1 := by first | omega | assumption | (simp only [mk_len, List.length_map]; omega) | decide) : wr P d sw_c163 sw_h163 (23, [r0, vi x1, r2, vi x3], [], h, kc, ks) Q := by
  refine w_ld rfl rfl (Or.inr (Or.inr ⟨by decide, y1⟩)) ?_
  refine w_ld rfl rfl (Or.inr (Or.inr ⟨by decide, y2⟩)) ?_
  subst e_q3
  refine w_getf rfl g5 n7 ?_
  refine w_ld rfl rfl (Or.inl ⟨by decide, rfl⟩) ?_
  refine w_c32 rfl (by decide) 1 (by decide) ?_
  refine w_isub rfl ?_
  subst e_q8
  refine w_aald rfl g10 u14 c15 c16 n13 ?_
  subst e_q17
  exact w_cv rfl [.index q17, v12] [] rfl rfl (s_wt_4 rfl) rfl g19 k

theorem k163_35 {P : s_P} {d : Nat} {Q : s_O → Prop} {h : s_H} {kc ks : Nat} {r0 : Term} {x1 : Int} {r2 : Term} {x3 s0 : Int}  (k1 : s0 = 0 → wr P d sw_c163 sw_h163 (58, [r0, vi x1, r2, vi x3], [], h, kc, ks) Q) (k2 : ¬ s0 = 0 → wr P d sw_c163 sw_h163 (38, [r0, vi x1, r2, vi x3], [], h, kc, ks) Q)  (c1 : In3 s0 := by first | omega | assumption | (simp only [mk_len, List.length_map]; omega) | decide) : wr P d sw_c163 sw_h163 (35, [r0, vi x1, r2, vi x3], [vi s0], h, kc, ks) Q := by
  exact w_if1 rfl c1 k1 k2

theorem k163_38 {P : s_P} {d : Nat} {Q : s_O → Prop} {h : s_H} {kc ks : Nat} {r0 : Term} {x1 : Int} {r2 : Term} {x3 : Int} {q2 : Nat} {f3 : List Term} {v5 : Term} {q7 : Nat} {a8 : List Term} {tg10 : Nat} {v11 : Term} {a16 : List Term} {tg18 : Nat} (g4 : s_get h q2 = some (1, 3, f3)) (g9 : s_get h q7 = some (0, tg10, a8)) (g17 : s_get h q7 = some (0, tg18, a16)) (w20 : s_okA h s_comp tg18 v11 = true) (k : wr P d sw_c163 sw_h163 (19, [.index q2, vi x1, r2, vi (x3 + (-1))], [], (hp h q7 (0, tg18, a16.set (Int.toNat (x3)) v11)), kc, ks) Q) (e_q2 : r0 = .index q2 := by first | rfl | assumption) (e_q7 : v5 = .index q7 := by first | rfl | assumption) (y1 : s_ty r0 = 3 := by first | rfl | assumption) (n6 : s_nth f3 2 = some v5 := by first | rfl | assumption) (n12 : s_nth a8 (Int.toNat (x3 - 1)) = some v11 := by first | rfl | assumption) (u13 : tg10 = 2 ∨ tg10 = 3 ∨ tg10 = 4 := by first | decide | assumption) (u19 : tg18 = 2 ∨ tg18 = 3 := by first | decide | assumption) (y25 : s_ty r2 = 3 := by first | rfl | assumption) (c14 : In3 (x3 - 1) := by first | omega | assumption | (simp only [mk_len, List.length_map]; omega) | decide) (c15 : 0 ≤ x3 - 1 := by first | omega | assumption | (simp only [mk_len, List.length_map]; omega) | decide) (c21 : x3 < a16.length := by first | omega | assumption | (simp only [mk_len, List.length_map]; omega) | decide) (c22 : 0 ≤ x3 := by first | omega | assumption | (simp only [mk_len, List.length_map]; omega) | decide) (c23 : In3 x3 := by first | omega | assumption | (simp only [mk_len, List.length_map]; omega) | decide) (c24 : 0 < q7 := by first | omega | assumption | (simp only [mk_len, List.length_map]; omega) | decide) : wr P d sw_c163 sw_h163 (38, [r0, vi x1, r2, vi x3], [], h, kc, ks) Q := by
  refine w_ld rfl rfl (Or.inr (Or.inr ⟨by decide, y1⟩)) ?_
  subst e_q2
  refine w_getf rfl g4 n6 ?_
  refine w_ld rfl rfl (Or.inl ⟨by decide, rfl⟩) ?_
  refine w_ld rfl rfl (Or.inr (Or.inr ⟨by decide, rfl⟩)) ?_
  refine w_getf rfl g4 n6 ?_
  refine w_ld rfl rfl (Or.inl ⟨by decide, rfl⟩) ?_
  refine w_c32 rfl (by decide) 1 (by decide) ?_
  refine w_isub rfl ?_
  subst e_q7
  refine w_aald rfl g9 u13 c14 c15 n12 ?_
  refine w_aast rfl g17 u19 (Nat.ble_eq_true_of_le c24) c23 c22 c21 w20 ?_
  refine w_iinc (ls' := [.index q2, vi x1, r2, vi (x3 + (-1))]) rfl rfl (-1) (by decide) (s_stK_r (pre := [.index q2, vi x1]) y25) ?_
  refine w_goto rfl ?_
  exact k

theorem k163_58 {P : s_P} {d : Nat} {Q : s_O → Prop} {h : s_H} {kc ks : Nat} {r0 : Term} {x1 : Int} {r2 : Term} {x3 : Int} {q2 : Nat} {f3 : List Term} {v5 : Term} {q8 : Nat} {a9 : List Term} {tg11 : Nat} (g4 : s_get h q2 = some (1, 3, f3)) (g10 : s_get h q8 = some (0, tg11, a9)) (w13 : s_okA h s_comp tg11 r2 = true) (k : wr P d sw_c163 sw_h163 (2, [.index q2, vi (x1 + 1), r2, vi x3], [], (hp h q8 (0, tg11, a9.set (Int.toNat (x3)) r2)), kc, ks) Q) (e_q2 : r0 = .index q2 := by first | rfl | assumption) (e_q8 : v5 = .index q8 := by first | rfl | assumption) (y1 : s_ty r0 = 3 := by first | rfl | assumption) (n6 : s_nth f3 2 = some v5 := by first | rfl | assumption) (y7 : s_ty r2 = 3 := by first | rfl | assumption) (u12 : tg11 = 2 ∨ tg11 = 3 := by first | decide | assumption) (c14 : x3 < a9.length := by first | omega | assumption | (simp only [mk_len, List.length_map]; omega) | decide) (c15 : 0 ≤ x3 := by first | omega | assumption | (simp only [mk_len, List.length_map]; omega) | decide) (c16 : In3 x3 := by first | omega | assumption | (simp only [mk_len, List.length_map]; omega) | decide) (c17 : 0 < q8 := by first | omega | assumption | (simp only [mk_len, List.length_map]; omega) | decide) : wr P d sw_c163 sw_h163 (58, [r0, vi x1, r2, vi x3], [], h, kc, ks) Q := by
  refine w_ld rfl rfl (Or.inr (Or.inr ⟨by decide, y1⟩)) ?_
  subst e_q2
  refine w_getf rfl g4 n6 ?_
  refine w_ld rfl rfl (Or.inl ⟨by decide, rfl⟩) ?_
  refine w_ld rfl rfl (Or.inr (Or.inr ⟨by decide, y7⟩)) ?_
  subst e_q8
  refine w_aast rfl g10 u12 (Nat.ble_eq_true_of_le c17) c16 c15 c14 w13 ?_
  refine w_iinc (ls' := [.index q2, vi (x1 + 1), r2, vi x3]) rfl rfl 1 (by decide) rfl ?_
  refine w_goto rfl ?_
  exact k

theorem k163_71 {P : s_P} {d : Nat} {Q : s_O → Prop} {h : s_H} {kc ks : Nat} {r0 : Term} {x1 : Int} {t2 t3 : Term}  (k : Q (.inl none, h, kc, ks))   : wr P d sw_c163 sw_h163 (71, [r0, vi x1, t2, t3], [], h, kc, ks) Q := by
  exact w_ret rfl k

/-! 164: FormulaWorks$Parts.split(LFormulaWorks$Poly;I)V -/
theorem k164_0 {P : s_P} {d : Nat} {Q : s_O → Prop} {h : s_H} {kc ks : Nat} {r0 r1 : Term} {x2 : Int} {t3 t4 t5 t6 t7 : Term} {q2 : Nat} {f3 : List Term} {z5 : Int} (g4 : s_get h q2 = some (1, 3, f3)) (k : wm P d 151 [.index q2, r1] h (wq P d sw_c164 sw_h164 10 [.index q2, r1, vi x2, vi z5, t4, t5, t6, t7] [] kc ks Q)) (e_q2 : r0 = .index q2 := by first | rfl | assumption) (y1 : s_ty r0 = 3 := by first | rfl | assumption) (n6 : s_nth f3 4 = some (vi z5) := by first | rfl | assumption) (y7 : s_ty r1 = 3 := by first | rfl | assumption)  : wr P d sw_c164 sw_h164 (0, [r0, r1, vi x2, t3, t4, t5, t6, t7], [], h, kc, ks) Q := by
  refine w_ld rfl rfl (Or.inr (Or.inr ⟨by decide, y1⟩)) ?_
  subst e_q2
  refine w_getf rfl g4 n6 ?_
  refine w_st (ls' := [.index q2, r1, vi x2, vi z5, t4, t5, t6, t7]) rfl (Or.inl ⟨by decide, rfl⟩) rfl ?_
  refine w_ld rfl rfl (Or.inr (Or.inr ⟨by decide, rfl⟩)) ?_
  refine w_ld rfl rfl (Or.inr (Or.inr ⟨by decide, y7⟩)) ?_
  exact w_cv rfl [.index q2, r1] [] rfl rfl (s_wt_4 rfl) rfl g4 k

theorem k164_10 {P : s_P} {d : Nat} {Q : s_O → Prop} {h : s_H} {kc ks : Nat} {r0 r1 : Term} {x2 x3 : Int} {t4 t5 t6 t7 : Term} {q2 : Nat} {f3 : List Term} {z5 : Int} (g4 : s_get h q2 = some (1, 4, f3)) (k1 : z5 ≠ x2 → wr P d sw_c164 sw_h164 (22, [r0, .index q2, vi x2, vi x3, t4, t5, t6, t7], [], h, kc, ks) Q) (k2 : ¬ z5 ≠ x2 → wr P d sw_c164 sw_h164 (18, [r0, .index q2, vi x2, vi x3, t4, t5, t6, t7], [], h, kc, ks) Q) (e_q2 : r1 = .index q2 := by first | rfl | assumption) (y1 : s_ty r1 = 3 := by first | rfl | assumption) (n6 : s_nth f3 1 = some (vi z5) := by first | rfl | assumption) (c7 : In3 z5 := by first | omega | assumption | (simp only [mk_len, List.length_map]; omega) | decide) (c8 : In3 x2 := by first | omega | assumption | (simp only [mk_len, List.length_map]; omega) | decide) : wr P d sw_c164 sw_h164 (10, [r0, r1, vi x2, vi x3, t4, t5, t6, t7], [], h, kc, ks) Q := by
  refine w_ld rfl rfl (Or.inr (Or.inr ⟨by decide, y1⟩)) ?_
  subst e_q2
  refine w_getf rfl g4 n6 ?_
  refine w_ld rfl rfl (Or.inl ⟨by decide, rfl⟩) ?_
  exact w_if2 rfl c7 c8 k1 k2

theorem k164_18 {P : s_P} {d : Nat} {Q : s_O → Prop} {h : s_H} {kc ks : Nat} {r0 r1 : Term} {x2 x3 : Int} {t4 t5 t6 t7 : Term}  (k : wr P d sw_c164 sw_h164 (23, [r0, r1, vi x2, vi x3, t4, t5, t6, t7], [vi 1], h, kc, ks) Q)   : wr P d sw_c164 sw_h164 (18, [r0, r1, vi x2, vi x3, t4, t5, t6, t7], [], h, kc, ks) Q := by
  refine w_c32 rfl (by decide) 1 (by decide) ?_
  refine w_goto rfl ?_
  exact k

theorem k164_22 {P : s_P} {d : Nat} {Q : s_O → Prop} {h : s_H} {kc ks : Nat} {r0 r1 : Term} {x2 x3 : Int} {t4 t5 t6 t7 : Term}  (k : wr P d sw_c164 sw_h164 (23, [r0, r1, vi x2, vi x3, t4, t5, t6, t7], [vi 0], h, kc, ks) Q)   : wr P d sw_c164 sw_h164 (22, [r0, r1, vi x2, vi x3, t4, t5, t6, t7], [], h, kc, ks) Q := by
  refine w_c32 rfl (by decide) 0 (by decide) ?_
  exact k

theorem k164_23 {P : s_P} {d : Nat} {Q : s_O → Prop} {h : s_H} {kc ks : Nat} {r0 r1 : Term} {x2 x3 : Int} {t4 t5 t6 t7 : Term} {s0 : Int}  (k : wr P d sw_c164 sw_h164 (28, [r0, r1, vi x2, vi x3, vi s0, vi 0, t6, t7], [], h, kc, ks) Q)   : wr P d sw_c164 sw_h164 (23, [r0, r1, vi x2, vi x3, t4, t5, t6, t7], [vi s0], h, kc, ks) Q := by
  refine w_st (ls' := [r0, r1, vi x2, vi x3, vi s0, t5, t6, t7]) rfl (Or.inl ⟨by decide, rfl⟩) rfl ?_
  refine w_c32 rfl (by decide) 0 (by decide) ?_
  refine w_st (ls' := [r0, r1, vi x2, vi x3, vi s0, vi 0, t6, t7]) rfl (Or.inl ⟨by decide, rfl⟩) rfl ?_
  exact k

theorem k164_28 {P : s_P} {d : Nat} {Q : s_O → Prop} {h : s_H} {kc ks : Nat} {r0 r1 : Term} {x2 x3 x4 x5 : Int} {t6 t7 : Term}  (k1 : 32003 ≤ x5 → wr P d sw_c164 sw_h164 (153, [r0, r1, vi x2, vi x3, vi x4, vi x5, t6, t7], [], h, kc, ks) Q) (k2 : ¬ 32003 ≤ x5 → wr P d sw_c164 sw_h164 (36, [r0, r1, vi x2, vi x3, vi x4, vi x5, t6, t7], [], h, kc, ks) Q)  (c1 : In3 x5 := by first | omega | assumption | (simp only [mk_len, List.length_map]; omega) | decide) : wr P d sw_c164 sw_h164 (28, [r0, r1, vi x2, vi x3, vi x4, vi x5, t6, t7], [], h, kc, ks) Q := by
  refine w_ld rfl rfl (Or.inl ⟨by decide, rfl⟩) ?_
  refine w_c32 rfl (by decide) 32003 (by decide) ?_
  exact w_if2 rfl c1 (by decide) k1 k2

theorem k164_36 {P : s_P} {d : Nat} {Q : s_O → Prop} {h : s_H} {kc ks : Nat} {r0 r1 : Term} {x2 x3 x4 x5 : Int} {t6 t7 : Term}  (k1 : x4 ≠ 0 → wr P d sw_c164 sw_h164 (153, [r0, r1, vi x2, vi x3, vi x4, vi x5, t6, t7], [], h, kc, ks) Q) (k2 : ¬ x4 ≠ 0 → wr P d sw_c164 sw_h164 (41, [r0, r1, vi x2, vi x3, vi x4, vi x5, t6, t7], [], h, kc, ks) Q)  (c1 : In3 x4 := by first | omega | assumption | (simp only [mk_len, List.length_map]; omega) | decide) : wr P d sw_c164 sw_h164 (36, [r0, r1, vi x2, vi x3, vi x4, vi x5, t6, t7], [], h, kc, ks) Q := by
  refine w_ld rfl rfl (Or.inl ⟨by decide, rfl⟩) ?_
  exact w_if1 rfl c1 k1 k2

theorem k164_41 {P : s_P} {d : Nat} {Q : s_O → Prop} {h : s_H} {kc ks : Nat} {r0 r1 : Term} {x2 x3 x4 x5 : Int} {t6 t7 : Term} {q2 : Nat} {f3 : List Term} {z5 : Int} (g4 : s_get h q2 = some (1, 3, f3)) (k : wr P d sw_c164 sw_h164 (53, [.index q2, r1, vi x2, vi x3, vi 1, vi x5, vi z5, vi x3], [], h, kc, ks) Q) (e_q2 : r0 = .index q2 := by first | rfl | assumption) (y1 : s_ty r0 = 3 := by first | rfl | assumption) (n6 : s_nth f3 4 = some (vi z5) := by first | rfl | assumption)  : wr P d sw_c164 sw_h164 (41, [r0, r1, vi x2, vi x3, vi x4, vi x5, t6, t7], [], h, kc, ks) Q := by
  refine w_ld rfl rfl (Or.inr (Or.inr ⟨by decide, y1⟩)) ?_
  subst e_q2
  refine w_getf rfl g4 n6 ?_
  refine w_st (ls' := [.index q2, r1, vi x2, vi x3, vi x4, vi x5, vi z5, t7]) rfl (Or.inl ⟨by decide, rfl⟩) rfl ?_
  refine w_c32 rfl (by decide) 1 (by decide) ?_
  refine w_st (ls' := [.index q2, r1, vi x2, vi x3, vi 1, vi x5, vi z5, t7]) rfl (Or.inl ⟨by decide, rfl⟩) rfl ?_
  refine w_ld rfl rfl (Or.inl ⟨by decide, rfl⟩) ?_
  refine w_st (ls' := [.index q2, r1, vi x2, vi x3, vi 1, vi x5, vi z5, vi x3]) rfl (Or.inl ⟨by decide, rfl⟩) rfl ?_
  exact k

theorem k164_53 {P : s_P} {d : Nat} {Q : s_O → Prop} {h : s_H} {kc ks : Nat} {r0 r1 : Term} {x2 x3 x4 x5 x6 x7 : Int}  (k1 : x6 ≤ x7 → wr P d sw_c164 sw_h164 (111, [r0, r1, vi x2, vi x3, vi x4, vi x5, vi x6, vi x7], [], h, kc, ks) Q) (k2 : ¬ x6 ≤ x7 → wr P d sw_c164 sw_h164 (60, [r0, r1, vi x2, vi x3, vi x4, vi x5, vi x6, vi x7], [], h, kc, ks) Q)  (c1 : In3 x7 := by first | omega | assumption | (simp only [mk_len, List.length_map]; omega) | decide) (c2 : In3 x6 := by first | omega | assumption | (simp only [mk_len, List.length_map]; omega) | decide) : wr P d sw_c164 sw_h164 (53, [r0, r1, vi x2, vi x3, vi x4, vi x5, vi x6, vi x7], [], h, kc, ks) Q := by
  refine w_ld rfl rfl (Or.inl ⟨by decide, rfl⟩) ?_
  refine w_ld rfl rfl (Or.inl ⟨by decide, rfl⟩) ?_
  exact w_if2 rfl c1 c2 k1 k2

theorem k164_60 {P : s_P} {d : Nat} {Q : s_O → Prop} {h : s_H} {kc ks : Nat} {r0 r1 : Term} {x2 x3 x4 x5 x6 x7 : Int} {q2 : Nat} {f3 : List Term} {v5 : Term} {q7 : Nat} {a8 : List Term} {tg10 : Nat} {v11 : Term} {q16 : Nat} {f17 : List Term} {z19 : Int} (g4 : s_get h q2 = some (1, 3, f3)) (g9 : s_get h q7 = some (0, tg10, a8)) (g18 : s_get h q16 = some (1, 4, f17)) (k1 : z19 ≤ x2 → wr P d sw_c164 sw_h164 (88, [.index q2, r1, vi x2, vi x3, vi x4, vi x5, vi x6, vi x7], [], h, kc, ks) Q) (k2 : ¬ z19 ≤ x2 → wr P d sw_c164 sw_h164 (74, [.index q2, r1, vi x2, vi x3, vi x4, vi x5, vi x6, vi x7], [], h, kc, ks) Q) (e_q2 : r0 = .index q2 := by first | rfl | assumption) (e_q7 : v5 = .index q7 := by first | rfl | assumption) (e_q16 : v11 = .index q16 := by first | rfl | assumption) (y1 : s_ty r0 = 3 := by first | rfl | assumption) (n6 : s_nth f3 2 = some v5 := by first | rfl | assumption) (n12 : s_nth a8 (Int.toNat (x7)) = some v11 := by first | rfl | assumption) (u13 : tg10 = 2 ∨ tg10 = 3 ∨ tg10 = 4 := by first | decide | assumption) (n20 : s_nth f17 1 = some (vi z19) := by first | rfl | assumption) (c14 : In3 x7 := by first | omega | assumption | (simp only [mk_len, List.length_map]; omega) | decide) (c15 : 0 ≤ x7 := by first | omega | assumption | (simp only [mk_len, List.length_map]; omega) | decide) (c21 : In3 z19 := by first | omega | assumption | (simp only [mk_len, List.length_map]; omega) | decide) (c22 : In3 x2 := by first | omega | assumption | (simp only [mk_len, List.length_map]; omega) | decide) : wr P d sw_c164 sw_h164 (60, [r0, r1, vi x2, vi x3, vi x4, vi x5, vi x6, vi x7], [], h, kc, ks) Q := by
  refine w_ld rfl rfl (Or.inr (Or.inr ⟨by decide, y1⟩)) ?_
  subst e_q2
  refine w_getf rfl g4 n6 ?_
  refine w_ld rfl rfl (Or.inl ⟨by decide, rfl⟩) ?_
  subst e_q7
  refine w_aald rfl g9 u13 c14 c15 n12 ?_
  subst e_q16
  refine w_getf rfl g18 n20 ?_
  refine w_ld rfl rfl (Or.inl ⟨by decide, rfl⟩) ?_
  exact w_if2 rfl c21 c22 k1 k2

theorem k164_74 {P : s_P} {d : Nat} {Q : s_O → Prop} {h : s_H} {kc ks : Nat} {r0 r1 : Term} {x2 x3 x4 x5 x6 x7 : Int} {q2 : Nat} {f3 : List Term} {v5 : Term} {q7 : Nat} {a8 : List Term} {tg10 : Nat} {v11 : Term} (g4 : s_get h q2 = some (1, 3, f3)) (g9 : s_get h q7 = some (0, tg10, a8)) (k : wm P d 165 [.index q2, v11, vi x2, vi x5] h (wq P d sw_c164 sw_h164 88 [.index q2, r1, vi x2, vi x3, vi x4, vi x5, vi x6, vi x7] [] kc ks Q)) (e_q2 : r0 = .index q2 := by first | rfl | assumption) (e_q7 : v5 = .index q7 := by first | rfl | assumption) (y1 : s_ty r0 = 3 := by first | rfl | assumption) (n6 : s_nth f3 2 = some v5 := by first | rfl | assumption) (n12 : s_nth a8 (Int.toNat (x7)) = some v11 := by first | rfl | assumption) (u13 : tg10 = 2 ∨ tg10 = 3 ∨ tg10 = 4 := by first | decide | assumption) (c14 : In3 x7 := by first | omega | assumption | (simp only [mk_len, List.length_map]; omega) | decide) (c15 : 0 ≤ x7 := by first | omega | assumption | (simp only [mk_len, List.length_map]; omega) | decide) : wr P d sw_c164 sw_h164 (74, [r0, r1, vi x2, vi x3, vi x4, vi x5, vi x6, vi x7], [], h, kc, ks) Q := by
  refine w_ld rfl rfl (Or.inr (Or.inr ⟨by decide, y1⟩)) ?_
  refine w_ld rfl rfl (Or.inr (Or.inr ⟨by decide, y1⟩)) ?_
  subst e_q2
  refine w_getf rfl g4 n6 ?_
  refine w_ld rfl rfl (Or.inl ⟨by decide, rfl⟩) ?_
  subst e_q7
  refine w_aald rfl g9 u13 c14 c15 n12 ?_
  refine w_ld rfl rfl (Or.inl ⟨by decide, rfl⟩) ?_
  refine w_ld rfl rfl (Or.inl ⟨by decide, rfl⟩) ?_
  exact w_cv rfl [.index q2, v11, vi x2, vi x5] [] rfl rfl (s_wt_4 rfl) rfl g4 k

theorem k164_88 {P : s_P} {d : Nat} {Q : s_O → Prop} {h : s_H} {kc ks : Nat} {r0 r1 : Term} {x2 x3 x4 x5 x6 x7 : Int} {q2 : Nat} {f3 : List Term} {v5 : Term} {q7 : Nat} {a8 : List Term} {tg10 : Nat} {v11 : Term} {q16 : Nat} {f17 : List Term} {z19 : Int} (g4 : s_get h q2 = some (1, 3, f3)) (g9 : s_get h q7 = some (0, tg10, a8)) (g18 : s_get h q16 = some (1, 4, f17)) (k1 : z19 ≤ x2 → wr P d sw_c164 sw_h164 (105, [.index q2, r1, vi x2, vi x3, vi x4, vi x5, vi x6, vi x7], [], h, kc, ks) Q) (k2 : ¬ z19 ≤ x2 → wr P d sw_c164 sw_h164 (102, [.index q2, r1, vi x2, vi x3, vi x4, vi x5, vi x6, vi x7], [], h, kc, ks) Q) (e_q2 : r0 = .index q2 := by first | rfl | assumption) (e_q7 : v5 = .index q7 := by first | rfl | assumption) (e_q16 : v11 = .index q16 := by first | rfl | assumption) (y1 : s_ty r0 = 3 := by first | rfl | assumption) (n6 : s_nth f3 2 = some v5 := by first | rfl | assumption) (n12 : s_nth a8 (Int.toNat (x7)) = some v11 := by first | rfl | assumption) (u13 : tg10 = 2 ∨ tg10 = 3 ∨ tg10 = 4 := by first | decide | assumption) (n20 : s_nth f17 1 = some (vi z19) := by first | rfl | assumption) (c14 : In3 x7 := by first | omega | assumption | (simp only [mk_len, List.length_map]; omega) | decide) (c15 : 0 ≤ x7 := by first | omega | assumption | (simp only [mk_len, List.length_map]; omega) | decide) (c21 : In3 z19 := by first | omega | assumption | (simp only [mk_len, List.length_map]; omega) | decide) (c22 : In3 x2 := by first | omega | assumption | (simp only [mk_len, List.length_map]; omega) | decide) : wr P d sw_c164 sw_h164 (88, [r0, r1, vi x2, vi x3, vi x4, vi x5, vi x6, vi x7], [], h, kc, ks) Q := by
  refine w_ld rfl rfl (Or.inr (Or.inr ⟨by decide, y1⟩)) ?_
  subst e_q2
  refine w_getf rfl g4 n6 ?_
  refine w_ld rfl rfl (Or.inl ⟨by decide, rfl⟩) ?_
  subst e_q7
  refine w_aald rfl g9 u13 c14 c15 n12 ?_
  subst e_q16
  refine w_getf rfl g18 n20 ?_
  refine w_ld rfl rfl (Or.inl ⟨by decide, rfl⟩) ?_
  exact w_if2 rfl c21 c22 k1 k2

theorem k164_102 {P : s_P} {d : Nat} {Q : s_O → Prop} {h : s_H} {kc ks : Nat} {r0 r1 : Term} {x2 x3 x4 x5 x6 x7 : Int}  (k : wr P d sw_c164 sw_h164 (105, [r0, r1, vi x2, vi x3, vi 0, vi x5, vi x6, vi x7], [], h, kc, ks) Q)   : wr P d sw_c164 sw_h164 (102, [r0, r1, vi x2, vi x3, vi x4, vi x5, vi x6, vi x7], [], h, kc, ks) Q := by
  refine w_c32 rfl (by decide) 0 (by decide) ?_
  refine w_st (ls' := [r0, r1, vi x2, vi x3, vi 0, vi x5, vi x6, vi x7]) rfl (Or.inl ⟨by decide, rfl⟩) rfl ?_
  exact k

theorem k164_105 {P : s_P} {d : Nat} {Q : s_O → Prop} {h : s_H} {kc ks : Nat} {r0 r1 : Term} {x2 x3 x4 x5 x6 x7 : Int}  (k : wr P d sw_c164 sw_h164 (53, [r0, r1, vi x2, vi x3, vi x4, vi x5, vi x6, vi (x7 + 1)], [], h, kc, ks) Q)   : wr P d sw_c164 sw_h164 (105, [r0, r1, vi x2, vi x3, vi x4, vi x5, vi x6, vi x7], [], h, kc, ks) Q := by
  refine w_iinc (ls' := [r0, r1, vi x2, vi x3, vi x4, vi x5, vi x6, vi (x7 + 1)]) rfl rfl 1 (by decide) rfl ?_
  refine w_goto rfl ?_
  exact k

theorem k164_111 {P : s_P} {d : Nat} {Q : s_O → Prop} {h : s_H} {kc ks : Nat} {r0 r1 : Term} {x2 x3 x4 x5 x6 x7 : Int}  (k : wr P d sw_c164 sw_h164 (115, [r0, r1, vi x2, vi x3, vi x4, vi x5, vi x6, vi x6], [], h, kc, ks) Q)   : wr P d sw_c164 sw_h164 (111, [r0, r1, vi x2, vi x3, vi x4, vi x5, vi x6, vi x7], [], h, kc, ks) Q := by
  refine w_ld rfl rfl (Or.inl ⟨by decide, rfl⟩) ?_
  refine w_st (ls' := [r0, r1, vi x2, vi x3, vi x4, vi x5, vi x6, vi x6]) rfl (Or.inl ⟨by decide, rfl⟩) rfl ?_
  exact k

theorem k164_115 {P : s_P} {d : Nat} {Q : s_O → Prop} {h : s_H} {kc ks : Nat} {r0 r1 : Term} {x2 x3 x4 x5 x6 x7 : Int} {q2 : Nat} {f3 : List Term} {z5 : Int} (g4 : s_get h q2 = some (1, 3, f3)) (k1 : z5 ≤ x7 → wr P d sw_c164 sw_h164 (147, [.index q2, r1, vi x2, vi x3, vi x4, vi x5, vi x6, vi x7], [], h, kc, ks) Q) (k2 : ¬ z5 ≤ x7 → wr P d sw_c164 sw_h164 (124, [.index q2, r1, vi x2, vi x3, vi x4, vi x5, vi x6, vi x7], [], h, kc, ks) Q) (e_q2 : r0 = .index q2 := by first | rfl | assumption) (y1 : s_ty r0 = 3 := by first | rfl | assumption) (n6 : s_nth f3 4 = some (vi z5) := by first | rfl | assumption) (c7 : In3 x7 := by first | omega | assumption | (simp only [mk_len, List.length_map]; omega) | decide) (c8 : In3 z5 := by first | omega | assumption | (simp only [mk_len, List.length_map]; omega) | decide) : wr P d sw_c164 sw_h164 (115, [r0, r1, vi x2, vi x3, vi x4, vi x5, vi x6, vi x7], [], h, kc, ks) Q := by
  refine w_ld rfl rfl (Or.inl ⟨by decide, rfl⟩) ?_
  refine w_ld rfl rfl (Or.inr (Or.inr ⟨by decide, y1⟩)) ?_
  subst e_q2
  refine w_getf rfl g4 n6 ?_
  exact w_if2 rfl c7 c8 k1 k2

theorem k164_124 {P : s_P} {d : Nat} {Q : s_O → Prop} {h : s_H} {kc ks : Nat} {r0 r1 : Term} {x2 x3 x4 x5 x6 x7 : Int} {q2 : Nat} {f3 : List Term} {v5 : Term} {q7 : Nat} {a8 : List Term} {tg10 : Nat} {v11 : Term} {q16 : Nat} {f17 : List Term} {z19 : Int} (g4 : s_get h q2 = some (1, 3, f3)) (g9 : s_get h q7 = some (0, tg10, a8)) (g18 : s_get h q16 = some (1, 4, f17)) (k1 : z19 ≤ x2 → wr P d sw_c164 sw_h164 (141, [.index q2, r1, vi x2, vi x3, vi x4, vi x5, vi x6, vi x7], [], h, kc, ks) Q) (k2 : ¬ z19 ≤ x2 → wr P d sw_c164 sw_h164 (138, [.index q2, r1, vi x2, vi x3, vi x4, vi x5, vi x6, vi x7], [], h, kc, ks) Q) (e_q2 : r0 = .index q2 := by first | rfl | assumption) (e_q7 : v5 = .index q7 := by first | rfl | assumption) (e_q16 : v11 = .index q16 := by first | rfl | assumption) (y1 : s_ty r0 = 3 := by first | rfl | assumption) (n6 : s_nth f3 2 = some v5 := by first | rfl | assumption) (n12 : s_nth a8 (Int.toNat (x7)) = some v11 := by first | rfl | assumption) (u13 : tg10 = 2 ∨ tg10 = 3 ∨ tg10 = 4 := by first | decide | assumption) (n20 : s_nth f17 1 = some (vi z19) := by first | rfl | assumption) (c14 : In3 x7 := by first | omega | assumption | (simp only [mk_len, List.length_map]; omega) | decide) (c15 : 0 ≤ x7 := by first | omega | assumption | (simp only [mk_len, List.length_map]; omega) | decide) (c21 : In3 z19 := by first | omega | assumption | (simp only [mk_len, List.length_map]; omega) | decide) (c22 : In3 x2 := by first | omega | assumption | (simp only [mk_len, List.length_map]; omega) | decide) : wr P d sw_c164 sw_h164 (124, [r0, r1, vi x2, vi x3, vi x4, vi x5, vi x6, vi x7], [], h, kc, ks) Q := by
  refine w_ld rfl rfl (Or.inr (Or.inr ⟨by decide, y1⟩)) ?_
  subst e_q2
  refine w_getf rfl g4 n6 ?_
  refine w_ld rfl rfl (Or.inl ⟨by decide, rfl⟩) ?_
  subst e_q7
  refine w_aald rfl g9 u13 c14 c15 n12 ?_
  subst e_q16
  refine w_getf rfl g18 n20 ?_
  refine w_ld rfl rfl (Or.inl ⟨by decide, rfl⟩) ?_
  exact w_if2 rfl c21 c22 k1 k2

theorem k164_138 {P : s_P} {d : Nat} {Q : s_O → Prop} {h : s_H} {kc ks : Nat} {r0 r1 : Term} {x2 x3 x4 x5 x6 x7 : Int}  (k : wr P d sw_c164 sw_h164 (141, [r0, r1, vi x2, vi x3, vi 0, vi x5, vi x6, vi x7], [], h, kc, ks) Q)   : wr P d sw_c164 sw_h164 (138, [r0, r1, vi x2, vi x3, vi x4, vi x5, vi x6, vi x7], [], h, kc, ks) Q := by
  refine w_c32 rfl (by decide) 0 (by decide) ?_
  refine w_st (ls' := [r0, r1, vi x2, vi x3, vi 0, vi x5, vi x6, vi x7]) rfl (Or.inl ⟨by decide, rfl⟩) rfl ?_
  exact k

theorem k164_141 {P : s_P} {d : Nat} {Q : s_O → Prop} {h : s_H} {kc ks : Nat} {r0 r1 : Term} {x2 x3 x4 x5 x6 x7 : Int}  (k : wr P d sw_c164 sw_h164 (115, [r0, r1, vi x2, vi x3, vi x4, vi x5, vi x6, vi (x7 + 1)], [], h, kc, ks) Q)   : wr P d sw_c164 sw_h164 (141, [r0, r1, vi x2, vi x3, vi x4, vi x5, vi x6, vi x7], [], h, kc, ks) Q := by
  refine w_iinc (ls' := [r0, r1, vi x2, vi x3, vi x4, vi x5, vi x6, vi (x7 + 1)]) rfl rfl 1 (by decide) rfl ?_
  refine w_goto rfl ?_
  exact k

theorem k164_147 {P : s_P} {d : Nat} {Q : s_O → Prop} {h : s_H} {kc ks : Nat} {r0 r1 : Term} {x2 x3 x4 x5 x6 x7 : Int}  (k : wr P d sw_c164 sw_h164 (28, [r0, r1, vi x2, vi x3, vi x4, vi (x5 + 1), vi x6, vi x7], [], h, kc, ks) Q)   : wr P d sw_c164 sw_h164 (147, [r0, r1, vi x2, vi x3, vi x4, vi x5, vi x6, vi x7], [], h, kc, ks) Q := by
  refine w_iinc (ls' := [r0, r1, vi x2, vi x3, vi x4, vi (x5 + 1), vi x6, vi x7]) rfl rfl 1 (by decide) rfl ?_
  refine w_goto rfl ?_
  exact k

theorem k164_153 {P : s_P} {d : Nat} {Q : s_O → Prop} {h : s_H} {kc ks : Nat} {r0 r1 : Term} {x2 x3 x4 x5 : Int} {t6 t7 : Term}  (k : Q (.inl none, h, kc, ks))   : wr P d sw_c164 sw_h164 (153, [r0, r1, vi x2, vi x3, vi x4, vi x5, t6, t7], [], h, kc, ks) Q := by
  exact w_ret rfl k

/-! 165: FormulaWorks$Parts.splitPiece(LFormulaWorks$Poly;II)V -/
theorem k165_0 {P : s_P} {d : Nat} {Q : s_O → Prop} {h : s_H} {kc ks : Nat} {r0 r1 : Term} {x2 x3 : Int} {t4 t5 t6 t7 t8 : Term} {q2 : Nat} {f3 : List Term} {v5 : Term} {q7 : Nat} {f8 : List Term} (g4 : s_get h q2 = some (1, 3, f3)) (g9 : s_get h q7 = some (1, 0, f8)) (k : wm P d 110 [.index q7] h (wq P d sw_c165 sw_h165 7 [.index q2, r1, vi x2, vi x3, t4, t5, t6, t7, t8] [] kc ks Q)) (e_q2 : r0 = .index q2 := by first | rfl | assumption) (e_q7 : v5 = .index q7 := by first | rfl | assumption) (y1 : s_ty r0 = 3 := by first | rfl | assumption) (n6 : s_nth f3 0 = some v5 := by first | rfl | assumption)  : wr P d sw_c165 sw_h165 (0, [r0, r1, vi x2, vi x3, t4, t5, t6, t7, t8], [], h, kc, ks) Q := by
  refine w_ld rfl rfl (Or.inr (Or.inr ⟨by decide, y1⟩)) ?_
  subst e_q2
  refine w_getf rfl g4 n6 ?_
  subst e_q7
  exact w_cv rfl [.index q7] [] rfl rfl (s_wt_4 rfl) rfl g9 k

theorem k165_7 {P : s_P} {d : Nat} {Q : s_O → Prop} {h : s_H} {kc ks : Nat} {r0 r1 : Term} {x2 x3 : Int} {t4 t5 t6 t7 t8 : Term} {s0 : Int} {q2 : Nat} {f3 : List Term} {v5 : Term} {q7 : Nat} {f8 : List Term} (g4 : s_get h q2 = some (1, 3, f3)) (g9 : s_get h q7 = some (1, 0, f8)) (k : wm P d 109 [.index q7] h (wq P d sw_c165 sw_h165 16 [.index q2, r1, vi x2, vi x3, vi s0, t5, t6, t7, t8] [] kc ks Q)) (e_q2 : r0 = .index q2 := by first | rfl | assumption) (e_q7 : v5 = .index q7 := by first | rfl | assumption) (y1 : s_ty r0 = 3 := by first | rfl | assumption) (n6 : s_nth f3 0 = some v5 := by first | rfl | assumption)  : wr P d sw_c165 sw_h165 (7, [r0, r1, vi x2, vi x3, t4, t5, t6, t7, t8], [vi s0], h, kc, ks) Q := by
  refine w_st (ls' := [r0, r1, vi x2, vi x3, vi s0, t5, t6, t7, t8]) rfl (Or.inl ⟨by decide, rfl⟩) rfl ?_
  refine w_ld rfl rfl (Or.inr (Or.inr ⟨by decide, y1⟩)) ?_
  subst e_q2
  refine w_getf rfl g4 n6 ?_
  subst e_q7
  exact w_cv rfl [.index q7] [] rfl rfl (s_wt_4 rfl) rfl g9 k

theorem k165_16 {P : s_P} {d : Nat} {Q : s_O → Prop} {h : s_H} {kc ks : Nat} {r0 r1 : Term} {x2 x3 x4 : Int} {t5 t6 t7 t8 s0 : Term} {q3 : Nat} {f4 : List Term} {v6 : Term} {q8 : Nat} {f9 : List Term} (g5 : s_get h q3 = some (1, 3, f4)) (g10 : s_get h q8 = some (1, 0, f9)) (k : wm P d 109 [.index q8] h (wq P d sw_c165 sw_h165 25 [.index q3, r1, vi x2, vi x3, vi x4, s0, t6, t7, t8] [] kc ks Q)) (e_q3 : r0 = .index q3 := by first | rfl | assumption) (e_q8 : v6 = .index q8 := by first | rfl | assumption) (y1 : s_ty s0 = 3 := by first | rfl | assumption) (y2 : s_ty r0 = 3 := by first | rfl | assumption) (n7 : s_nth f4 0 = some v6 := by first | rfl | assumption)  : wr P d sw_c165 sw_h165 (16, [r0, r1, vi x2, vi x3, vi x4, t5, t6, t7, t8], [s0], h, kc, ks) Q := by
  refine w_st (ls' := [r0, r1, vi x2, vi x3, vi x4, s0, t6, t7, t8]) rfl (Or.inr ⟨by decide, y1⟩) rfl ?_
  refine w_ld rfl rfl (Or.inr (Or.inr ⟨by decide, y2⟩)) ?_
  subst e_q3
  refine w_getf rfl g5 n7 ?_
  subst e_q8
  exact w_cv rfl [.index q8] [] rfl rfl (s_wt_4 rfl) rfl g10 k

theorem k165_25 {P : s_P} {d : Nat} {Q : s_O → Prop} {h : s_H} {kc ks : Nat} {r0 r1 : Term} {x2 x3 x4 : Int} {r5 t6 t7 t8 s0 : Term} {q4 : Nat} {f5 : List Term} {v7 : Term} {q9 : Nat} {f10 : List Term} (g6 : s_get h q4 = some (1, 3, f5)) (g11 : s_get h q9 = some (1, 0, f10)) (k : wm P d 109 [.index q9] h (wq P d sw_c165 sw_h165 34 [.index q4, r1, vi x2, vi x3, vi x4, r5, s0, t7, t8] [] kc ks Q)) (e_q4 : r0 = .index q4 := by first | rfl | assumption) (e_q9 : v7 = .index q9 := by first | rfl | assumption) (y1 : s_ty r5 = 3 := by first | rfl | assumption) (y2 : s_ty s0 = 3 := by first | rfl | assumption) (y3 : s_ty r0 = 3 := by first | rfl | assumption) (n8 : s_nth f5 0 = some v7 := by first | rfl | assumption)  : wr P d sw_c165 sw_h165 (25, [r0, r1, vi x2, vi x3, vi x4, r5, t6, t7, t8], [s0], h, kc, ks) Q := by
  refine w_st (ls' := [r0, r1, vi x2, vi x3, vi x4, r5, s0, t7, t8]) rfl (Or.inr ⟨by decide, y2⟩) (s_stK_r (pre := [r0, r1, vi x2, vi x3, vi x4]) y1) ?_
  refine w_ld rfl rfl (Or.inr (Or.inr ⟨by decide, y3⟩)) ?_
  subst e_q4
  refine w_getf rfl g6 n8 ?_
  subst e_q9
  exact w_cv rfl [.index q9] [] rfl rfl (s_wt_4 rfl) rfl g11 k

theorem k165_34 {P : s_P} {d : Nat} {Q : s_O → Prop} {h : s_H} {kc ks : Nat} {r0 r1 : Term} {x2 x3 x4 : Int} {r5 r6 t7 t8 s0 : Term} {q4 : Nat} {f5 : List Term} (g6 : s_get h q4 = some (1, 4, f5)) (k : wm P d 180 [.index q4, vi 1] h (wq P d sw_c165 sw_h165 42 [r0, r1, vi x2, vi x3, vi x4, .index q4, r6, s0, t8] [] kc ks Q)) (e_q4 : r5 = .index q4 := by first | rfl | assumption) (y1 : s_ty r6 = 3 := by first | rfl | assumption) (y2 : s_ty s0 = 3 := by first | rfl | assumption) (y3 : s_ty r5 = 3 := by first | rfl | assumption)  : wr P d sw_c165 sw_h165 (34, [r0, r1, vi x2, vi x3, vi x4, r5, r6, t7, t8], [s0], h, kc, ks) Q := by
  refine w_st (ls' := [r0, r1, vi x2, vi x3, vi x4, r5, r6, s0, t8]) rfl (Or.inr ⟨by decide, y2⟩) (s_stK_r (pre := [r0, r1, vi x2, vi x3, vi x4, r5]) y1) ?_
  refine w_ld rfl rfl (Or.inr (Or.inr ⟨by decide, y3⟩)) ?_
  refine w_c32 rfl (by decide) 1 (by decide) ?_
  subst e_q4
  exact w_cv rfl [.index q4, vi 1] [] rfl rfl (s_wt_4 rfl) rfl g6 k

theorem k165_42 {P : s_P} {d : Nat} {Q : s_O → Prop} {h : s_H} {kc ks : Nat} {r0 r1 : Term} {x2 x3 x4 : Int} {r5 r6 r7 t8 : Term}  (k : wr P d sw_c165 sw_h165 (45, [r0, r1, vi x2, vi x3, vi x4, r5, r6, r7, vi 0], [], h, kc, ks) Q) (y1 : s_ty r7 = 3 := by first | rfl | assumption)  : wr P d sw_c165 sw_h165 (42, [r0, r1, vi x2, vi x3, vi x4, r5, r6, r7, t8], [], h, kc, ks) Q := by
  refine w_c32 rfl (by decide) 0 (by decide) ?_
  refine w_st (ls' := [r0, r1, vi x2, vi x3, vi x4, r5, r6, r7, vi 0]) rfl (Or.inl ⟨by decide, rfl⟩) (s_stK_r (pre := [r0, r1, vi x2, vi x3, vi x4, r5, r6]) y1) ?_
  exact k

theorem k165_45 {P : s_P} {d : Nat} {Q : s_O → Prop} {h : s_H} {kc ks : Nat} {r0 r1 : Term} {x2 x3 x4 : Int} {r5 r6 r7 : Term} {x8 : Int}  (k1 : x2 ≤ x8 → wr P d sw_c165 sw_h165 (95, [r0, r1, vi x2, vi x3, vi x4, r5, r6, r7, vi x8], [], h, kc, ks) Q) (k2 : ¬ x2 ≤ x8 → wr P d sw_c165 sw_h165 (51, [r0, r1, vi x2, vi x3, vi x4, r5, r6, r7, vi x8], [], h, kc, ks) Q)  (c1 : In3 x8 := by first | omega | assumption | (simp only [mk_len, List.length_map]; omega) | decide) (c2 : In3 x2 := by first | omega | assumption | (simp only [mk_len, List.length_map]; omega) | decide) : wr P d sw_c165 sw_h165 (45, [r0, r1, vi x2, vi x3, vi x4, r5, r6, r7, vi x8], [], h, kc, ks) Q := by
  refine w_ld rfl rfl (Or.inl ⟨by decide, rfl⟩) ?_
  refine w_ld rfl rfl (Or.inl ⟨by decide, rfl⟩) ?_
  exact w_if2 rfl c1 c2 k1 k2

theorem k165_51 {P : s_P} {d : Nat} {Q : s_O → Prop} {h : s_H} {kc ks : Nat} {r0 r1 : Term} {x2 x3 x4 : Int} {r5 r6 r7 : Term} {x8 : Int} {q2 : Nat} {f3 : List Term} (g4 : s_get h q2 = some (1, 4, f3)) (k : wm P d 180 [.index q2, vi x3] h (wq P d sw_c165 sw_h165 57 [r0, r1, vi x2, vi x3, vi x4, r5, r6, .index q2, vi x8] [] kc ks Q)) (e_q2 : r7 = .index q2 := by first | rfl | assumption) (y1 : s_ty r7 = 3 := by first | rfl | assumption)  : wr P d sw_c165 sw_h165 (51, [r0, r1, vi x2, vi x3, vi x4, r5, r6, r7, vi x8], [], h, kc, ks) Q := by
  refine w_ld rfl rfl (Or.inr (Or.inr ⟨by decide, y1⟩)) ?_
  refine w_ld rfl rfl (Or.inl ⟨by decide, rfl⟩) ?_
  subst e_q2
  exact w_cv rfl [.index q2, vi x3] [] rfl rfl (s_wt_4 rfl) rfl g4 k

theorem k165_57 {P : s_P} {d : Nat} {Q : s_O → Prop} {h : s_H} {kc ks : Nat} {r0 r1 : Term} {x2 x3 x4 : Int} {r5 r6 r7 : Term} {x8 : Int} {q3 : Nat} {f4 : List Term} {v6 : Term} {q8 : Nat} {a9 : List Term} {tg11 : Nat} {v12 : Term} {q18 : Nat} {f19 : List Term} (g5 : s_get h q3 = some (1, 3, f4)) (g10 : s_get h q8 = some (0, tg11, a9)) (g20 : s_get h q18 = some (1, 4, f19)) (k : wm P d 184 [.index q18, v12, r7, vi 1] h (wq P d sw_c165 sw_h165 72 [.index q3, r1, vi x2, vi x3, vi x4, r5, .index q18, r7, vi x8] [] kc ks Q)) (e_q3 : r0 = .index q3 := by first | rfl | assumption) (e_q8 : v6 = .index q8 := by first | rfl | assumption) (e_q18 : r6 = .index q18 := by first | rfl | assumption) (y1 : s_ty r6 = 3 := by first | rfl | assumption) (y2 : s_ty r0 = 3 := by first | rfl | assumption) (n7 : s_nth f4 5 = some v6 := by first | rfl | assumption) (n13 : s_nth a9 (Int.toNat (x8)) = some v12 := by first | rfl | assumption) (u14 : tg11 = 2 ∨ tg11 = 3 ∨ tg11 = 4 := by first | decide | assumption) (y17 : s_ty r7 = 3 := by first | rfl | assumption) (c15 : In3 x8 := by first | omega | assumption | (simp only [mk_len, List.length_map]; omega) | decide) (c16 : 0 ≤ x8 := by first | omega | assumption | (simp only [mk_len, List.length_map]; omega) | decide) : wr P d sw_c165 sw_h165 (57, [r0, r1, vi x2, vi x3, vi x4, r5, r6, r7, vi x8], [], h, kc, ks) Q := by
  refine w_ld rfl rfl (Or.inr (Or.inr ⟨by decide, y1⟩)) ?_
  refine w_ld rfl rfl (Or.inr (Or.inr ⟨by decide, y2⟩)) ?_
  subst e_q3
  refine w_getf rfl g5 n7 ?_
  refine w_ld rfl rfl (Or.inl ⟨by decide, rfl⟩) ?_
  subst e_q8
  refine w_aald rfl g10 u14 c15 c16 n13 ?_
  refine w_ld rfl rfl (Or.inr (Or.inr ⟨by decide, y17⟩)) ?_
  refine w_c32 rfl (by decide) 1 (by decide) ?_
  subst e_q18
  exact w_cv rfl [.index q18, v12, r7, vi 1] [] rfl rfl (s_wt_4 rfl) rfl g20 k

theorem k165_72 {P : s_P} {d : Nat} {Q : s_O → Prop} {h : s_H} {kc ks : Nat} {r0 r1 : Term} {x2 x3 x4 : Int} {r5 r6 r7 : Term} {x8 : Int} {q3 : Nat} {f4 : List Term} (g5 : s_get h q3 = some (1, 4, f4)) (k : wm P d 176 [.index q3, r1, vi 1, .null] h (wq P d sw_c165 sw_h165 80 [r0, r1, vi x2, vi x3, vi x4, r5, .index q3, r7, vi x8] [] kc ks Q)) (e_q3 : r6 = .index q3 := by first | rfl | assumption) (y1 : s_ty r6 = 3 := by first | rfl | assumption) (y2 : s_ty r1 = 3 := by first | rfl | assumption)  : wr P d sw_c165 sw_h165 (72, [r0, r1, vi x2, vi x3, vi x4, r5, r6, r7, vi x8], [], h, kc, ks) Q := by
  refine w_ld rfl rfl (Or.inr (Or.inr ⟨by decide, y1⟩)) ?_
  refine w_ld rfl rfl (Or.inr (Or.inr ⟨by decide, y2⟩)) ?_
  refine w_c32 rfl (by decide) 1 (by decide) ?_
  refine w_null rfl ?_
  subst e_q3
  exact w_cv rfl [.index q3, r1, vi 1, .null] [] rfl rfl (s_wt_4 rfl) rfl g5 k

theorem k165_80 {P : s_P} {d : Nat} {Q : s_O → Prop} {h : s_H} {kc ks : Nat} {r0 r1 : Term} {x2 x3 x4 : Int} {r5 r6 r7 : Term} {x8 : Int} {q5 : Nat} {f6 : List Term} (g7 : s_get h q5 = some (1, 3, f6)) (k : wm P d 156 [.index q5, r5, r6, r1] h (wq P d sw_c165 sw_h165 89 [.index q5, r1, vi x2, vi x3, vi x4, r5, r6, r7, vi x8] [] kc ks Q)) (e_q5 : r0 = .index q5 := by first | rfl | assumption) (y1 : s_ty r0 = 3 := by first | rfl | assumption) (y2 : s_ty r5 = 3 := by first | rfl | assumption) (y3 : s_ty r6 = 3 := by first | rfl | assumption) (y4 : s_ty r1 = 3 := by first | rfl | assumption)  : wr P d sw_c165 sw_h165 (80, [r0, r1, vi x2, vi x3, vi x4, r5, r6, r7, vi x8], [], h, kc, ks) Q := by
  refine w_ld rfl rfl (Or.inr (Or.inr ⟨by decide, y1⟩)) ?_
  refine w_ld rfl rfl (Or.inr (Or.inr ⟨by decide, y2⟩)) ?_
  refine w_ld rfl rfl (Or.inr (Or.inr ⟨by decide, y3⟩)) ?_
  refine w_ld rfl rfl (Or.inr (Or.inr ⟨by decide, y4⟩)) ?_
  subst e_q5
  exact w_cv rfl [.index q5, r5, r6, r1] [] rfl rfl (s_wt_4 rfl) rfl g7 k

theorem k165_89 {P : s_P} {d : Nat} {Q : s_O → Prop} {h : s_H} {kc ks : Nat} {r0 r1 : Term} {x2 x3 x4 : Int} {r5 r6 r7 : Term} {x8 : Int}  (k : wr P d sw_c165 sw_h165 (45, [r0, r1, vi x2, vi x3, vi x4, r5, r6, r7, vi (x8 + 1)], [], h, kc, ks) Q) (y1 : s_ty r7 = 3 := by first | rfl | assumption)  : wr P d sw_c165 sw_h165 (89, [r0, r1, vi x2, vi x3, vi x4, r5, r6, r7, vi x8], [], h, kc, ks) Q := by
  refine w_iinc (ls' := [r0, r1, vi x2, vi x3, vi x4, r5, r6, r7, vi (x8 + 1)]) rfl rfl 1 (by decide) (s_stK_r (pre := [r0, r1, vi x2, vi x3, vi x4, r5, r6]) y1) ?_
  refine w_goto rfl ?_
  exact k

theorem k165_95 {P : s_P} {d : Nat} {Q : s_O → Prop} {h : s_H} {kc ks : Nat} {r0 r1 : Term} {x2 x3 x4 : Int} {r5 r6 r7 : Term} {x8 : Int} {q5 : Nat} {f6 : List Term} (g7 : s_get h q5 = some (1, 3, f6)) (k : wm P d 161 [.index q5, r5, vi 16001, r1, r6] h (wq P d sw_c165 sw_h165 107 [.index q5, r1, vi x2, vi x3, vi x4, r5, r6, r7, vi x8] [] kc ks Q)) (e_q5 : r0 = .index q5 := by first | rfl | assumption) (y1 : s_ty r0 = 3 := by first | rfl | assumption) (y2 : s_ty r5 = 3 := by first | rfl | assumption) (y3 : s_ty r1 = 3 := by first | rfl | assumption) (y4 : s_ty r6 = 3 := by first | rfl | assumption)  : wr P d sw_c165 sw_h165 (95, [r0, r1, vi x2, vi x3, vi x4, r5, r6, r7, vi x8], [], h, kc, ks) Q := by
  refine w_ld rfl rfl (Or.inr (Or.inr ⟨by decide, y1⟩)) ?_
  refine w_ld rfl rfl (Or.inr (Or.inr ⟨by decide, y2⟩)) ?_
  refine w_c32 rfl (by decide) 16001 (by decide) ?_
  refine w_ld rfl rfl (Or.inr (Or.inr ⟨by decide, y3⟩)) ?_
  refine w_ld rfl rfl (Or.inr (Or.inr ⟨by decide, y4⟩)) ?_
  subst e_q5
  exact w_cv rfl [.index q5, r5, vi 16001, r1, r6] [] rfl rfl (s_wt_4 rfl) rfl g7 k

theorem k165_107 {P : s_P} {d : Nat} {Q : s_O → Prop} {h : s_H} {kc ks : Nat} {r0 r1 : Term} {x2 x3 x4 : Int} {r5 r6 r7 : Term} {x8 : Int} {q2 : Nat} {f3 : List Term} (g4 : s_get h q2 = some (1, 4, f3)) (k : wm P d 180 [.index q2, vi 1] h (wq P d sw_c165 sw_h165 113 [r0, r1, vi x2, vi x3, vi x4, r5, r6, .index q2, vi x8] [] kc ks Q)) (e_q2 : r7 = .index q2 := by first | rfl | assumption) (y1 : s_ty r7 = 3 := by first | rfl | assumption)  : wr P d sw_c165 sw_h165 (107, [r0, r1, vi x2, vi x3, vi x4, r5, r6, r7, vi x8], [], h, kc, ks) Q := by
  refine w_ld rfl rfl (Or.inr (Or.inr ⟨by decide, y1⟩)) ?_
  refine w_c32 rfl (by decide) 1 (by decide) ?_
  subst e_q2
  exact w_cv rfl [.index q2, vi 1] [] rfl rfl (s_wt_4 rfl) rfl g4 k

theorem k165_113 {P : s_P} {d : Nat} {Q : s_O → Prop} {h : s_H} {kc ks : Nat} {r0 r1 : Term} {x2 x3 x4 : Int} {r5 r6 r7 : Term} {x8 : Int} {q3 : Nat} {f4 : List Term} (g5 : s_get h q3 = some (1, 4, f4)) (k : wm P d 184 [.index q3, .index q3, r7, vi 32002] h (wq P d sw_c165 sw_h165 125 [r0, r1, vi x2, vi x3, vi x4, r5, .index q3, r7, vi x8] [] kc ks Q)) (e_q3 : r6 = .index q3 := by first | rfl | assumption) (y1 : s_ty r6 = 3 := by first | rfl | assumption) (y2 : s_ty r7 = 3 := by first | rfl | assumption)  : wr P d sw_c165 sw_h165 (113, [r0, r1, vi x2, vi x3, vi x4, r5, r6, r7, vi x8], [], h, kc, ks) Q := by
  refine w_ld rfl rfl (Or.inr (Or.inr ⟨by decide, y1⟩)) ?_
  refine w_ld rfl rfl (Or.inr (Or.inr ⟨by decide, y1⟩)) ?_
  refine w_ld rfl rfl (Or.inr (Or.inr ⟨by decide, y2⟩)) ?_
  refine w_c32 rfl (by decide) 32002 (by decide) ?_
  subst e_q3
  exact w_cv rfl [.index q3, .index q3, r7, vi 32002] [] rfl rfl (s_wt_4 rfl) rfl g5 k

theorem k165_125 {P : s_P} {d : Nat} {Q : s_O → Prop} {h : s_H} {kc ks : Nat} {r0 r1 : Term} {x2 x3 x4 : Int} {r5 r6 r7 : Term} {x8 : Int} {q2 : Nat} {f3 : List Term} {v5 : Term} {q9 : Nat} {f10 : List Term} (g4 : s_get h q2 = some (1, 3, f3)) (g11 : s_get h q9 = some (1, 0, f10)) (k : wm P d 116 [.index q9, r6, r1, r6] h (wq P d sw_c165 sw_h165 137 [.index q2, r1, vi x2, vi x3, vi x4, r5, r6, r7, vi x8] [] kc ks Q)) (e_q2 : r0 = .index q2 := by first | rfl | assumption) (e_q9 : v5 = .index q9 := by first | rfl | assumption) (y1 : s_ty r0 = 3 := by first | rfl | assumption) (n6 : s_nth f3 0 = some v5 := by first | rfl | assumption) (y7 : s_ty r6 = 3 := by first | rfl | assumption) (y8 : s_ty r1 = 3 := by first | rfl | assumption)  : wr P d sw_c165 sw_h165 (125, [r0, r1, vi x2, vi x3, vi x4, r5, r6, r7, vi x8], [], h, kc, ks) Q := by
  refine w_ld rfl rfl (Or.inr (Or.inr ⟨by decide, y1⟩)) ?_
  subst e_q2
  refine w_getf rfl g4 n6 ?_
  refine w_ld rfl rfl (Or.inr (Or.inr ⟨by decide, y7⟩)) ?_
  refine w_ld rfl rfl (Or.inr (Or.inr ⟨by decide, y8⟩)) ?_
  refine w_ld rfl rfl (Or.inr (Or.inr ⟨by decide, y7⟩)) ?_
  subst e_q9
  exact w_cv rfl [.index q9, r6, r1, r6] [] rfl rfl (s_wt_4 rfl) rfl g11 k

theorem k165_137 {P : s_P} {d : Nat} {Q : s_O → Prop} {h : s_H} {kc ks : Nat} {r0 r1 : Term} {x2 x3 x4 : Int} {r5 r6 r7 : Term} {x8 : Int} {q2 : Nat} {f3 : List Term} {z5 : Int} (g4 : s_get h q2 = some (1, 4, f3)) (k1 : z5 ≤ 0 → wr P d sw_c165 sw_h165 (182, [r0, r1, vi x2, vi x3, vi x4, r5, .index q2, r7, vi x8], [], h, kc, ks) Q) (k2 : ¬ z5 ≤ 0 → wr P d sw_c165 sw_h165 (145, [r0, r1, vi x2, vi x3, vi x4, r5, .index q2, r7, vi x8], [], h, kc, ks) Q) (e_q2 : r6 = .index q2 := by first | rfl | assumption) (y1 : s_ty r6 = 3 := by first | rfl | assumption) (n6 : s_nth f3 1 = some (vi z5) := by first | rfl | assumption) (c7 : In3 z5 := by first | omega | assumption | (simp only [mk_len, List.length_map]; omega) | decide) : wr P d sw_c165 sw_h165 (137, [r0, r1, vi x2, vi x3, vi x4, r5, r6, r7, vi x8], [], h, kc, ks) Q := by
  refine w_ld rfl rfl (Or.inr (Or.inr ⟨by decide, y1⟩)) ?_
  subst e_q2
  refine w_getf rfl g4 n6 ?_
  exact w_if1 rfl c7 k1 k2

theorem k165_145 {P : s_P} {d : Nat} {Q : s_O → Prop} {h : s_H} {kc ks : Nat} {r0 r1 : Term} {x2 x3 x4 : Int} {r5 r6 r7 : Term} {x8 : Int} {q2 : Nat} {f3 : List Term} {z5 : Int} {q8 : Nat} {f9 : List Term} {z11 : Int} (g4 : s_get h q2 = some (1, 4, f3)) (g10 : s_get h q8 = some (1, 4, f9)) (k1 : z11 ≤ z5 → wr P d sw_c165 sw_h165 (182, [r0, .index q8, vi x2, vi x3, vi x4, r5, .index q2, r7, vi x8], [], h, kc, ks) Q) (k2 : ¬ z11 ≤ z5 → wr P d sw_c165 sw_h165 (157, [r0, .index q8, vi x2, vi x3, vi x4, r5, .index q2, r7, vi x8], [], h, kc, ks) Q) (e_q2 : r6 = .index q2 := by first | rfl | assumption) (e_q8 : r1 = .index q8 := by first | rfl | assumption) (y1 : s_ty r6 = 3 := by first | rfl | assumption) (n6 : s_nth f3 1 = some (vi z5) := by first | rfl | assumption) (y7 : s_ty r1 = 3 := by first | rfl | assumption) (n12 : s_nth f9 1 = some (vi z11) := by first | rfl | assumption) (c13 : In3 z5 := by first | omega | assumption | (simp only [mk_len, List.length_map]; omega) | decide) (c14 : In3 z11 := by first | omega | assumption | (simp only [mk_len, List.length_map]; omega) | decide) : wr P d sw_c165 sw_h165 (145, [r0, r1, vi x2, vi x3, vi x4, r5, r6, r7, vi x8], [], h, kc, ks) Q := by
  refine w_ld rfl rfl (Or.inr (Or.inr ⟨by decide, y1⟩)) ?_
  subst e_q2
  refine w_getf rfl g4 n6 ?_
  refine w_ld rfl rfl (Or.inr (Or.inr ⟨by decide, y7⟩)) ?_
  subst e_q8
  refine w_getf rfl g10 n12 ?_
  exact w_if2 rfl c13 c14 k1 k2

theorem k165_157 {P : s_P} {d : Nat} {Q : s_O → Prop} {h : s_H} {kc ks : Nat} {r0 r1 : Term} {x2 x3 x4 : Int} {r5 r6 r7 : Term} {x8 : Int} {q2 : Nat} {f3 : List Term} {v5 : Term} {q10 : Nat} {f11 : List Term} (g4 : s_get h q2 = some (1, 3, f3)) (g12 : s_get h q10 = some (1, 0, f11)) (k : wm P d 117 [.index q10, r1, r6, vi 1, r7] h (wq P d sw_c165 sw_h165 170 [.index q2, r1, vi x2, vi x3, vi x4, r5, r6, r7, vi x8] [] kc ks Q)) (e_q2 : r0 = .index q2 := by first | rfl | assumption) (e_q10 : v5 = .index q10 := by first | rfl | assumption) (y1 : s_ty r0 = 3 := by first | rfl | assumption) (n6 : s_nth f3 0 = some v5 := by first | rfl | assumption) (y7 : s_ty r1 = 3 := by first | rfl | assumption) (y8 : s_ty r6 = 3 := by first | rfl | assumption) (y9 : s_ty r7 = 3 := by first | rfl | assumption)  : wr P d sw_c165 sw_h165 (157, [r0, r1, vi x2, vi x3, vi x4, r5, r6, r7, vi x8], [], h, kc, ks) Q := by
  refine w_ld rfl rfl (Or.inr (Or.inr ⟨by decide, y1⟩)) ?_
  subst e_q2
  refine w_getf rfl g4 n6 ?_
  refine w_ld rfl rfl (Or.inr (Or.inr ⟨by decide, y7⟩)) ?_
  refine w_ld rfl rfl (Or.inr (Or.inr ⟨by decide, y8⟩)) ?_
  refine w_c32 rfl (by decide) 1 (by decide) ?_
  refine w_ld rfl rfl (Or.inr (Or.inr ⟨by decide, y9⟩)) ?_
  subst e_q10
  exact w_cv rfl [.index q10, r1, r6, vi 1, r7] [] rfl rfl (s_wt_4 rfl) rfl g12 k

theorem k165_170 {P : s_P} {d : Nat} {Q : s_O → Prop} {h : s_H} {kc ks : Nat} {r0 r1 : Term} {x2 x3 x4 : Int} {r5 r6 r7 : Term} {x8 : Int} {q3 : Nat} {f4 : List Term} (g5 : s_get h q3 = some (1, 3, f4)) (k : wm P d 151 [.index q3, r7] h (wq P d sw_c165 sw_h165 176 [.index q3, r1, vi x2, vi x3, vi x4, r5, r6, r7, vi x8] [] kc ks Q)) (e_q3 : r0 = .index q3 := by first | rfl | assumption) (y1 : s_ty r0 = 3 := by first | rfl | assumption) (y2 : s_ty r7 = 3 := by first | rfl | assumption)  : wr P d sw_c165 sw_h165 (170, [r0, r1, vi x2, vi x3, vi x4, r5, r6, r7, vi x8], [], h, kc, ks) Q := by
  refine w_ld rfl rfl (Or.inr (Or.inr ⟨by decide, y1⟩)) ?_
  refine w_ld rfl rfl (Or.inr (Or.inr ⟨by decide, y2⟩)) ?_
  subst e_q3
  exact w_cv rfl [.index q3, r7] [] rfl rfl (s_wt_4 rfl) rfl g5 k

theorem k165_176 {P : s_P} {d : Nat} {Q : s_O → Prop} {h : s_H} {kc ks : Nat} {r0 r1 : Term} {x2 x3 x4 : Int} {r5 r6 r7 : Term} {x8 : Int} {q3 : Nat} {f4 : List Term} (g5 : s_get h q3 = some (1, 4, f4)) (k : wm P d 179 [.index q3, r6] h (wq P d sw_c165 sw_h165 182 [r0, .index q3, vi x2, vi x3, vi x4, r5, r6, r7, vi x8] [] kc ks Q)) (e_q3 : r1 = .index q3 := by first | rfl | assumption) (y1 : s_ty r1 = 3 := by first | rfl | assumption) (y2 : s_ty r6 = 3 := by first | rfl | assumption)  : wr P d sw_c165 sw_h165 (176, [r0, r1, vi x2, vi x3, vi x4, r5, r6, r7, vi x8], [], h, kc, ks) Q := by
  refine w_ld rfl rfl (Or.inr (Or.inr ⟨by decide, y1⟩)) ?_
  refine w_ld rfl rfl (Or.inr (Or.inr ⟨by decide, y2⟩)) ?_
  subst e_q3
  exact w_cv rfl [.index q3, r6] [] rfl rfl (s_wt_4 rfl) rfl g5 k

theorem k165_182 {P : s_P} {d : Nat} {Q : s_O → Prop} {h : s_H} {kc ks : Nat} {r0 r1 : Term} {x2 x3 x4 : Int} {r5 r6 r7 : Term} {x8 : Int} {q2 : Nat} {f3 : List Term} {v5 : Term} {q7 : Nat} {f8 : List Term} (g4 : s_get h q2 = some (1, 3, f3)) (g9 : s_get h q7 = some (1, 0, f8)) (k : wm P d 113 [.index q7, vi x4] h (wq P d sw_c165 sw_h165 191 [.index q2, r1, vi x2, vi x3, vi x4, r5, r6, r7, vi x8] [] kc ks Q)) (e_q2 : r0 = .index q2 := by first | rfl | assumption) (e_q7 : v5 = .index q7 := by first | rfl | assumption) (y1 : s_ty r0 = 3 := by first | rfl | assumption) (n6 : s_nth f3 0 = some v5 := by first | rfl | assumption)  : wr P d sw_c165 sw_h165 (182, [r0, r1, vi x2, vi x3, vi x4, r5, r6, r7, vi x8], [], h, kc, ks) Q := by
  refine w_ld rfl rfl (Or.inr (Or.inr ⟨by decide, y1⟩)) ?_
  subst e_q2
  refine w_getf rfl g4 n6 ?_
  refine w_ld rfl rfl (Or.inl ⟨by decide, rfl⟩) ?_
  subst e_q7
  exact w_cv rfl [.index q7, vi x4] [] rfl rfl (s_wt_4 rfl) rfl g9 k

theorem k165_191 {P : s_P} {d : Nat} {Q : s_O → Prop} {h : s_H} {kc ks : Nat} {r0 r1 : Term} {x2 x3 x4 : Int} {r5 r6 r7 : Term} {x8 : Int}  (k : Q (.inl none, h, kc, ks))   : wr P d sw_c165 sw_h165 (191, [r0, r1, vi x2, vi x3, vi x4, r5, r6, r7, vi x8], [], h, kc, ks) Q := by
  exact w_ret rfl k

/-! 166: FormulaWorks$Poly.<init>(I)V -/
theorem k166_0 {P : s_P} {d : Nat} {Q : s_O → Prop} {h : s_H} {kc ks : Nat} {r0 : Term} {x1 : Int} {q2 : Nat} (k1 : 1 ≤ x1 → wr P d sw_c166 sw_h166 (14, [.index q2, vi x1], [.index q2], h, kc, ks) Q) (k2 : ¬ 1 ≤ x1 → wr P d sw_c166 sw_h166 (10, [.index q2, vi x1], [.index q2], h, kc, ks) Q) (e_q2 : r0 = .index q2 := by first | rfl | assumption) (y1 : s_ty r0 = 3 := by first | rfl | assumption) (c3 : In3 x1 := by first | omega | assumption | (simp only [mk_len, List.length_map]; omega) | decide) : wr P d sw_c166 sw_h166 (0, [r0, vi x1], [], h, kc, ks) Q := by
  refine w_ld rfl rfl (Or.inr (Or.inr ⟨by decide, y1⟩)) ?_
  subst e_q2
  refine w_cobj rfl (s_wt_4 rfl) ?_
  refine w_ld rfl rfl (Or.inr (Or.inr ⟨by decide, rfl⟩)) ?_
  refine w_ld rfl rfl (Or.inl ⟨by decide, rfl⟩) ?_
  refine w_c32 rfl (by decide) 1 (by decide) ?_
  exact w_if2 rfl c3 (by decide) k1 k2

theorem k166_10 {P : s_P} {d : Nat} {Q : s_O → Prop} {h : s_H} {kc ks : Nat} {r0 : Term} {x1 : Int} {s0 : Term}  (k : wr P d sw_c166 sw_h166 (15, [r0, vi x1], [vi 1, s0], h, kc, ks) Q)   : wr P d sw_c166 sw_h166 (10, [r0, vi x1], [s0], h, kc, ks) Q := by
  refine w_c32 rfl (by decide) 1 (by decide) ?_
  refine w_goto rfl ?_
  exact k

theorem k166_14 {P : s_P} {d : Nat} {Q : s_O → Prop} {h : s_H} {kc ks : Nat} {r0 : Term} {x1 : Int} {s0 : Term}  (k : wr P d sw_c166 sw_h166 (15, [r0, vi x1], [vi x1, s0], h, kc, ks) Q)   : wr P d sw_c166 sw_h166 (14, [r0, vi x1], [s0], h, kc, ks) Q := by
  refine w_ld rfl rfl (Or.inl ⟨by decide, rfl⟩) ?_
  exact k

theorem k166_15 {P : s_P} {d : Nat} {Q : s_O → Prop} {h : s_H} {kc ks : Nat} {r0 : Term} {x1 : Int} {s0 : Term} {s1 : Int} {fc1 : s_C} {q6 : Nat} {f7 : List Term} {q12 : Nat} {f13 : List Term} (g2 : s_get h (h).1 = some fc1) (g8 : s_get (hq h (0, 0, List.replicate (Int.toNat (s1)) (.int 0))) q6 = some (1, 4, f7)) (g14 : s_get (hp (hq h (0, 0, List.replicate (Int.toNat (s1)) (.int 0))) q6 (1, 4, f7.set 0 (.index h.1))) q12 = some (1, 4, f13)) (k : Q (.inl none, (hp (hp (hq h (0, 0, List.replicate (Int.toNat (s1)) (.int 0))) q6 (1, 4, f7.set 0 (.index h.1))) q12 (1, 4, f13.set 1 (vi (-1)))), (kc + 1), (ks + (Int.toNat (s1))))) (e_q6 : s0 = .index q6 := by first | rfl | assumption) (e_q12 : r0 = .index q12 := by first | rfl | assumption) (l9 : 0 < f7.length := by first | exact Nat.le_of_ble_eq_true rfl | omega | assumption) (y11 : s_ty r0 = 3 := by first | rfl | assumption) (l15 : 1 < f13.length := by first | exact Nat.le_of_ble_eq_true rfl | omega | assumption) (c3 : s1 ≤ 60000000 := by first | omega | assumption | (simp only [mk_len, List.length_map]; omega) | decide) (c4 : In3 s1 := by first | omega | assumption | (simp only [mk_len, List.length_map]; omega) | decide) (c5 : 0 ≤ s1 := by first | omega | assumption | (simp only [mk_len, List.length_map]; omega) | decide) (c10 : 0 < q6 := by first | omega | assumption | (simp only [mk_len, List.length_map]; omega) | decide) (c16 : 0 < q12 := by first | omega | assumption | (simp only [mk_len, List.length_map]; omega) | decide) : wr P d sw_c166 sw_h166 (15, [r0, vi x1], [vi s1, s0], h, kc, ks) Q := by
  refine w_newa rfl (by decide) g2 c4 c5 c3 (.int 0) rfl ?_
  subst e_q6
  refine w_putf rfl g8 (Nat.ble_eq_true_of_le c10) (s_okF3 rfl) (Nat.ble_eq_true_of_le l9) ?_
  refine w_ld rfl rfl (Or.inr (Or.inr ⟨by decide, y11⟩)) ?_
  refine w_c32 rfl (by decide) (-1) (by decide) ?_
  subst e_q12
  refine w_putf rfl g14 (Nat.ble_eq_true_of_le c16) rfl (Nat.ble_eq_true_of_le l15) ?_
  exact w_ret rfl k

/-! 167: FormulaWorks$Poly.coefficient(I)I -/
theorem k167_0 {P : s_P} {d : Nat} {Q : s_O → Prop} {h : s_H} {kc ks : Nat} {r0 : Term} {x1 : Int}  (k1 : x1 < 0 → wr P d sw_c167 sw_h167 (12, [r0, vi x1], [], h, kc, ks) Q) (k2 : ¬ x1 < 0 → wr P d sw_c167 sw_h167 (4, [r0, vi x1], [], h, kc, ks) Q)  (c1 : In3 x1 := by first | omega | assumption | (simp only [mk_len, List.length_map]; omega) | decide) : wr P d sw_c167 sw_h167 (0, [r0, vi x1], [], h, kc, ks) Q := by
  refine w_ld rfl rfl (Or.inl ⟨by decide, rfl⟩) ?_
  exact w_if1 rfl c1 k1 k2

theorem k167_4 {P : s_P} {d : Nat} {Q : s_O → Prop} {h : s_H} {kc ks : Nat} {r0 : Term} {x1 : Int} {q2 : Nat} {f3 : List Term} {z5 : Int} (g4 : s_get h q2 = some (1, 4, f3)) (k1 : x1 ≤ z5 → wr P d sw_c167 sw_h167 (16, [.index q2, vi x1], [], h, kc, ks) Q) (k2 : ¬ x1 ≤ z5 → wr P d sw_c167 sw_h167 (12, [.index q2, vi x1], [], h, kc, ks) Q) (e_q2 : r0 = .index q2 := by first | rfl | assumption) (y1 : s_ty r0 = 3 := by first | rfl | assumption) (n6 : s_nth f3 1 = some (vi z5) := by first | rfl | assumption) (c7 : In3 x1 := by first | omega | assumption | (simp only [mk_len, List.length_map]; omega) | decide) (c8 : In3 z5 := by first | omega | assumption | (simp only [mk_len, List.length_map]; omega) | decide) : wr P d sw_c167 sw_h167 (4, [r0, vi x1], [], h, kc, ks) Q := by
  refine w_ld rfl rfl (Or.inl ⟨by decide, rfl⟩) ?_
  refine w_ld rfl rfl (Or.inr (Or.inr ⟨by decide, y1⟩)) ?_
  subst e_q2
  refine w_getf rfl g4 n6 ?_
  exact w_if2 rfl c7 c8 k1 k2

theorem k167_12 {P : s_P} {d : Nat} {Q : s_O → Prop} {h : s_H} {kc ks : Nat} {r0 : Term} {x1 : Int}  (k : wr P d sw_c167 sw_h167 (22, [r0, vi x1], [vi 0], h, kc, ks) Q)   : wr P d sw_c167 sw_h167 (12, [r0, vi x1], [], h, kc, ks) Q := by
  refine w_c32 rfl (by decide) 0 (by decide) ?_
  refine w_goto rfl ?_
  exact k

theorem k167_16 {P : s_P} {d : Nat} {Q : s_O → Prop} {h : s_H} {kc ks : Nat} {r0 : Term} {x1 : Int} {q2 : Nat} {f3 : List Term} {v5 : Term} {q7 : Nat} {a8 : List Int} (g4 : s_get h q2 = some (1, 4, f3)) (g9 : s_get h q7 = some (0, 0, a8.map vi)) (k : wr P d sw_c167 sw_h167 (22, [.index q2, vi x1], [vi (gi a8 x1)], h, kc, ks) Q) (e_q2 : r0 = .index q2 := by first | rfl | assumption) (e_q7 : v5 = .index q7 := by first | rfl | assumption) (y1 : s_ty r0 = 3 := by first | rfl | assumption) (n6 : s_nth f3 0 = some v5 := by first | rfl | assumption) (c10 : x1 < a8.length := by first | omega | assumption | (simp only [mk_len, List.length_map]; omega) | decide) (c11 : 0 ≤ x1 := by first | omega | assumption | (simp only [mk_len, List.length_map]; omega) | decide) (c12 : In3 x1 := by first | omega | assumption | (simp only [mk_len, List.length_map]; omega) | decide) : wr P d sw_c167 sw_h167 (16, [r0, vi x1], [], h, kc, ks) Q := by
  refine w_ld rfl rfl (Or.inr (Or.inr ⟨by decide, y1⟩)) ?_
  subst e_q2
  refine w_getf rfl g4 n6 ?_
  refine w_ld rfl rfl (Or.inl ⟨by decide, rfl⟩) ?_
  subst e_q7
  refine w_iald rfl g9 (Or.inl rfl) c12 c11 c10 ?_
  exact k

theorem k167_22 {P : s_P} {d : Nat} {Q : s_O → Prop} {h : s_H} {kc ks : Nat} {r0 : Term} {x1 s0 : Int}  (k : Q (.inl (some (vi s0)), h, kc, ks))   : wr P d sw_c167 sw_h167 (22, [r0, vi x1], [vi s0], h, kc, ks) Q := by
  exact w_iret rfl k

/-! 168: FormulaWorks$Poly.inverseOf(I)I -/
theorem k168_0 {P : s_P} {d : Nat} {Q : s_O → Prop} {h : s_H} {kc ks : Nat} {x0 : Int} {t1 t2 t3 t4 t5 t6 t7 t8 : Term}  (k : wr P d sw_c168 sw_h168 (14, [vi x0, vi 32003, vi x0, vi 0, vi 1, vi 0, t6, t7, t8], [], h, kc, ks) Q)   : wr P d sw_c168 sw_h168 (0, [vi x0, t1, t2, t3, t4, t5, t6, t7, t8], [], h, kc, ks) Q := by
  refine w_c32 rfl (by decide) 32003 (by decide) ?_
  refine w_st (ls' := [vi x0, vi 32003, t2, t3, t4, t5, t6, t7, t8]) rfl (Or.inl ⟨by decide, rfl⟩) rfl ?_
  refine w_ld rfl rfl (Or.inl ⟨by decide, rfl⟩) ?_
  refine w_st (ls' := [vi x0, vi 32003, vi x0, t3, t4, t5, t6, t7, t8]) rfl (Or.inl ⟨by decide, rfl⟩) rfl ?_
  refine w_c32 rfl (by decide) 0 (by decide) ?_
  refine w_st (ls' := [vi x0, vi 32003, vi x0, vi 0, t4, t5, t6, t7, t8]) rfl (Or.inl ⟨by decide, rfl⟩) rfl ?_
  refine w_c32 rfl (by decide) 1 (by decide) ?_
  refine w_st (ls' := [vi x0, vi 32003, vi x0, vi 0, vi 1, t5, t6, t7, t8]) rfl (Or.inl ⟨by decide, rfl⟩) rfl ?_
  refine w_c32 rfl (by decide) 0 (by decide) ?_
  refine w_st (ls' := [vi x0, vi 32003, vi x0, vi 0, vi 1, vi 0, t6, t7, t8]) rfl (Or.inl ⟨by decide, rfl⟩) rfl ?_
  exact k

theorem k168_14 {P : s_P} {d : Nat} {Q : s_O → Prop} {h : s_H} {kc ks : Nat} {x0 x1 x2 x3 x4 x5 : Int} {t6 t7 t8 : Term}  (k1 : 64 ≤ x5 → wr P d sw_c168 sw_h168 (65, [vi x0, vi x1, vi x2, vi x3, vi x4, vi x5, t6, t7, t8], [], h, kc, ks) Q) (k2 : ¬ 64 ≤ x5 → wr P d sw_c168 sw_h168 (21, [vi x0, vi x1, vi x2, vi x3, vi x4, vi x5, t6, t7, t8], [], h, kc, ks) Q)  (c1 : In3 x5 := by first | omega | assumption | (simp only [mk_len, List.length_map]; omega) | decide) : wr P d sw_c168 sw_h168 (14, [vi x0, vi x1, vi x2, vi x3, vi x4, vi x5, t6, t7, t8], [], h, kc, ks) Q := by
  refine w_ld rfl rfl (Or.inl ⟨by decide, rfl⟩) ?_
  refine w_c32 rfl (by decide) 64 (by decide) ?_
  exact w_if2 rfl c1 (by decide) k1 k2

theorem k168_21 {P : s_P} {d : Nat} {Q : s_O → Prop} {h : s_H} {kc ks : Nat} {x0 x1 x2 x3 x4 x5 : Int} {t6 t7 t8 : Term}  (k1 : x2 = 0 → wr P d sw_c168 sw_h168 (65, [vi x0, vi x1, vi x2, vi x3, vi x4, vi x5, t6, t7, t8], [], h, kc, ks) Q) (k2 : ¬ x2 = 0 → wr P d sw_c168 sw_h168 (25, [vi x0, vi x1, vi x2, vi x3, vi x4, vi x5, t6, t7, t8], [], h, kc, ks) Q)  (c1 : In3 x2 := by first | omega | assumption | (simp only [mk_len, List.length_map]; omega) | decide) : wr P d sw_c168 sw_h168 (21, [vi x0, vi x1, vi x2, vi x3, vi x4, vi x5, t6, t7, t8], [], h, kc, ks) Q := by
  refine w_ld rfl rfl (Or.inl ⟨by decide, rfl⟩) ?_
  exact w_if1 rfl c1 k1 k2

theorem k168_25 {P : s_P} {d : Nat} {Q : s_O → Prop} {h : s_H} {kc ks : Nat} {x0 x1 x2 x3 x4 x5 : Int} {t6 t7 t8 : Term}  (k : wr P d sw_c168 sw_h168 (14, [vi x0, vi x2, vi (x1 - ((Int.tdiv x1 x2) * x2)), vi x4, vi (x3 - ((Int.tdiv x1 x2) * x4)), vi (x5 + 1), vi (Int.tdiv x1 x2), vi (x1 - ((Int.tdiv x1 x2) * x2)), vi (x3 - ((Int.tdiv x1 x2) * x4))], [], h, kc, ks) Q)  (c1 : x2 ≠ 0 := by first | omega | assumption | (simp only [mk_len, List.length_map]; omega) | decide) (c2 : In3 x1 := by first | omega | assumption | (simp only [mk_len, List.length_map]; omega) | decide) (c3 : In3 x2 := by first | omega | assumption | (simp only [mk_len, List.length_map]; omega) | decide) : wr P d sw_c168 sw_h168 (25, [vi x0, vi x1, vi x2, vi x3, vi x4, vi x5, t6, t7, t8], [], h, kc, ks) Q := by
  refine w_ld rfl rfl (Or.inl ⟨by decide, rfl⟩) ?_
  refine w_ld rfl rfl (Or.inl ⟨by decide, rfl⟩) ?_
  refine w_idiv rfl c2 c3 c1 ?_
  refine w_st (ls' := [vi x0, vi x1, vi x2, vi x3, vi x4, vi x5, vi (Int.tdiv x1 x2), t7, t8]) rfl (Or.inl ⟨by decide, rfl⟩) rfl ?_
  refine w_ld rfl rfl (Or.inl ⟨by decide, rfl⟩) ?_
  refine w_ld rfl rfl (Or.inl ⟨by decide, rfl⟩) ?_
  refine w_ld rfl rfl (Or.inl ⟨by decide, rfl⟩) ?_
  refine w_imul rfl ?_
  refine w_isub rfl ?_
  refine w_st (ls' := [vi x0, vi x1, vi x2, vi x3, vi x4, vi x5, vi (Int.tdiv x1 x2), vi (x1 - ((Int.tdiv x1 x2) * x2)), t8]) rfl (Or.inl ⟨by decide, rfl⟩) rfl ?_
  refine w_ld rfl rfl (Or.inl ⟨by decide, rfl⟩) ?_
  refine w_st (ls' := [vi x0, vi x2, vi x2, vi x3, vi x4, vi x5, vi (Int.tdiv x1 x2), vi (x1 - ((Int.tdiv x1 x2) * x2)), t8]) rfl (Or.inl ⟨by decide, rfl⟩) rfl ?_
  refine w_ld rfl rfl (Or.inl ⟨by decide, rfl⟩) ?_
  refine w_st (ls' := [vi x0, vi x2, vi (x1 - ((Int.tdiv x1 x2) * x2)), vi x3, vi x4, vi x5, vi (Int.tdiv x1 x2), vi (x1 - ((Int.tdiv x1 x2) * x2)), t8]) rfl (Or.inl ⟨by decide, rfl⟩) rfl ?_
  refine w_ld rfl rfl (Or.inl ⟨by decide, rfl⟩) ?_
  refine w_ld rfl rfl (Or.inl ⟨by decide, rfl⟩) ?_
  refine w_ld rfl rfl (Or.inl ⟨by decide, rfl⟩) ?_
  refine w_imul rfl ?_
  refine w_isub rfl ?_
  refine w_st (ls' := [vi x0, vi x2, vi (x1 - ((Int.tdiv x1 x2) * x2)), vi x3, vi x4, vi x5, vi (Int.tdiv x1 x2), vi (x1 - ((Int.tdiv x1 x2) * x2)), vi (x3 - ((Int.tdiv x1 x2) * x4))]) rfl (Or.inl ⟨by decide, rfl⟩) rfl ?_
  refine w_ld rfl rfl (Or.inl ⟨by decide, rfl⟩) ?_
  refine w_st (ls' := [vi x0, vi x2, vi (x1 - ((Int.tdiv x1 x2) * x2)), vi x4, vi x4, vi x5, vi (Int.tdiv x1 x2), vi (x1 - ((Int.tdiv x1 x2) * x2)), vi (x3 - ((Int.tdiv x1 x2) * x4))]) rfl (Or.inl ⟨by decide, rfl⟩) rfl ?_
  refine w_ld rfl rfl (Or.inl ⟨by decide, rfl⟩) ?_
  refine w_st (ls' := [vi x0, vi x2, vi (x1 - ((Int.tdiv x1 x2) * x2)), vi x4, vi (x3 - ((Int.tdiv x1 x2) * x4)), vi x5, vi (Int.tdiv x1 x2), vi (x1 - ((Int.tdiv x1 x2) * x2)), vi (x3 - ((Int.tdiv x1 x2) * x4))]) rfl (Or.inl ⟨by decide, rfl⟩) rfl ?_
  refine w_iinc (ls' := [vi x0, vi x2, vi (x1 - ((Int.tdiv x1 x2) * x2)), vi x4, vi (x3 - ((Int.tdiv x1 x2) * x4)), vi (x5 + 1), vi (Int.tdiv x1 x2), vi (x1 - ((Int.tdiv x1 x2) * x2)), vi (x3 - ((Int.tdiv x1 x2) * x4))]) rfl rfl 1 (by decide) rfl ?_
  refine w_goto rfl ?_
  exact k

theorem k168_65 {P : s_P} {d : Nat} {Q : s_O → Prop} {h : s_H} {kc ks : Nat} {x0 x1 x2 x3 x4 x5 : Int} {t6 t7 t8 : Term}  (k1 : 0 ≤ x3 → wr P d sw_c168 sw_h168 (77, [vi x0, vi x1, vi x2, vi x3, vi x4, vi x5, t6, t7, t8], [], h, kc, ks) Q) (k2 : ¬ 0 ≤ x3 → wr P d sw_c168 sw_h168 (69, [vi x0, vi x1, vi x2, vi x3, vi x4, vi x5, t6, t7, t8], [], h, kc, ks) Q)  (c1 : In3 x3 := by first | omega | assumption | (simp only [mk_len, List.length_map]; omega) | decide) : wr P d sw_c168 sw_h168 (65, [vi x0, vi x1, vi x2, vi x3, vi x4, vi x5, t6, t7, t8], [], h, kc, ks) Q := by
  refine w_ld rfl rfl (Or.inl ⟨by decide, rfl⟩) ?_
  exact w_if1 rfl c1 k1 k2

theorem k168_69 {P : s_P} {d : Nat} {Q : s_O → Prop} {h : s_H} {kc ks : Nat} {x0 x1 x2 x3 x4 x5 : Int} {t6 t7 t8 : Term}  (k : wr P d sw_c168 sw_h168 (78, [vi x0, vi x1, vi x2, vi x3, vi x4, vi x5, t6, t7, t8], [vi (x3 + 32003)], h, kc, ks) Q)   : wr P d sw_c168 sw_h168 (69, [vi x0, vi x1, vi x2, vi x3, vi x4, vi x5, t6, t7, t8], [], h, kc, ks) Q := by
  refine w_ld rfl rfl (Or.inl ⟨by decide, rfl⟩) ?_
  refine w_c32 rfl (by decide) 32003 (by decide) ?_
  refine w_iadd rfl ?_
  refine w_goto rfl ?_
  exact k

theorem k168_77 {P : s_P} {d : Nat} {Q : s_O → Prop} {h : s_H} {kc ks : Nat} {x0 x1 x2 x3 x4 x5 : Int} {t6 t7 t8 : Term}  (k : wr P d sw_c168 sw_h168 (78, [vi x0, vi x1, vi x2, vi x3, vi x4, vi x5, t6, t7, t8], [vi x3], h, kc, ks) Q)   : wr P d sw_c168 sw_h168 (77, [vi x0, vi x1, vi x2, vi x3, vi x4, vi x5, t6, t7, t8], [], h, kc, ks) Q := by
  refine w_ld rfl rfl (Or.inl ⟨by decide, rfl⟩) ?_
  exact k

theorem k168_78 {P : s_P} {d : Nat} {Q : s_O → Prop} {h : s_H} {kc ks : Nat} {x0 x1 x2 x3 x4 x5 : Int} {t6 t7 t8 : Term} {s0 : Int}  (k : Q (.inl (some (vi s0)), h, kc, ks))   : wr P d sw_c168 sw_h168 (78, [vi x0, vi x1, vi x2, vi x3, vi x4, vi x5, t6, t7, t8], [vi s0], h, kc, ks) Q := by
  exact w_iret rfl k

/-! 169: FormulaWorks$Poly.isAheadOf(LFormulaWorks$Poly;)Z -/
theorem k169_0 {P : s_P} {d : Nat} {Q : s_O → Prop} {h : s_H} {kc ks : Nat} {r0 r1 t2 : Term} {q2 : Nat} {f3 : List Term} {z5 : Int} {q8 : Nat} {f9 : List Term} {z11 : Int} (g4 : s_get h q2 = some (1, 4, f3)) (g10 : s_get h q8 = some (1, 4, f9)) (k1 : z5 = z11 → wr P d sw_c169 sw_h169 (28, [.index q2, .index q8, t2], [], h, kc, ks) Q) (k2 : ¬ z5 = z11 → wr P d sw_c169 sw_h169 (11, [.index q2, .index q8, t2], [], h, kc, ks) Q) (e_q2 : r0 = .index q2 := by first | rfl | assumption) (e_q8 : r1 = .index q8 := by first | rfl | assumption) (y1 : s_ty r0 = 3 := by first | rfl | assumption) (n6 : s_nth f3 1 = some (vi z5) := by first | rfl | assumption) (y7 : s_ty r1 = 3 := by first | rfl | assumption) (n12 : s_nth f9 1 = some (vi z11) := by first | rfl | assumption) (c13 : In3 z5 := by first | omega | assumption | (simp only [mk_len, List.length_map]; omega) | decide) (c14 : In3 z11 := by first | omega | assumption | (simp only [mk_len, List.length_map]; omega) | decide) : wr P d sw_c169 sw_h169 (0, [r0, r1, t2], [], h, kc, ks) Q := by
  refine w_ld rfl rfl (Or.inr (Or.inr ⟨by decide, y1⟩)) ?_
  subst e_q2
  refine w_getf rfl g4 n6 ?_
  refine w_ld rfl rfl (Or.inr (Or.inr ⟨by decide, y7⟩)) ?_
  subst e_q8
  refine w_getf rfl g10 n12 ?_
  exact w_if2 rfl c13 c14 k1 k2

theorem k169_11 {P : s_P} {d : Nat} {Q : s_O → Prop} {h : s_H} {kc ks : Nat} {r0 r1 t2 : Term} {q2 : Nat} {f3 : List Term} {z5 : Int} {q8 : Nat} {f9 : List Term} {z11 : Int} (g4 : s_get h q2 = some (1, 4, f3)) (g10 : s_get h q8 = some (1, 4, f9)) (k1 : z11 ≤ z5 → wr P d sw_c169 sw_h169 (26, [.index q2, .index q8, t2], [], h, kc, ks) Q) (k2 : ¬ z11 ≤ z5 → wr P d sw_c169 sw_h169 (22, [.index q2, .index q8, t2], [], h, kc, ks) Q) (e_q2 : r0 = .index q2 := by first | rfl | assumption) (e_q8 : r1 = .index q8 := by first | rfl | assumption) (y1 : s_ty r0 = 3 := by first | rfl | assumption) (n6 : s_nth f3 1 = some (vi z5) := by first | rfl | assumption) (y7 : s_ty r1 = 3 := by first | rfl | assumption) (n12 : s_nth f9 1 = some (vi z11) := by first | rfl | assumption) (c13 : In3 z5 := by first | omega | assumption | (simp only [mk_len, List.length_map]; omega) | decide) (c14 : In3 z11 := by first | omega | assumption | (simp only [mk_len, List.length_map]; omega) | decide) : wr P d sw_c169 sw_h169 (11, [r0, r1, t2], [], h, kc, ks) Q := by
  refine w_ld rfl rfl (Or.inr (Or.inr ⟨by decide, y1⟩)) ?_
  subst e_q2
  refine w_getf rfl g4 n6 ?_
  refine w_ld rfl rfl (Or.inr (Or.inr ⟨by decide, y7⟩)) ?_
  subst e_q8
  refine w_getf rfl g10 n12 ?_
  exact w_if2 rfl c13 c14 k1 k2

theorem k169_22 {P : s_P} {d : Nat} {Q : s_O → Prop} {h : s_H} {kc ks : Nat} {r0 r1 t2 : Term}  (k : wr P d sw_c169 sw_h169 (27, [r0, r1, t2], [vi 1], h, kc, ks) Q)   : wr P d sw_c169 sw_h169 (22, [r0, r1, t2], [], h, kc, ks) Q := by
  refine w_c32 rfl (by decide) 1 (by decide) ?_
  refine w_goto rfl ?_
  exact k

theorem k169_26 {P : s_P} {d : Nat} {Q : s_O → Prop} {h : s_H} {kc ks : Nat} {r0 r1 t2 : Term}  (k : wr P d sw_c169 sw_h169 (27, [r0, r1, t2], [vi 0], h, kc, ks) Q)   : wr P d sw_c169 sw_h169 (26, [r0, r1, t2], [], h, kc, ks) Q := by
  refine w_c32 rfl (by decide) 0 (by decide) ?_
  exact k

theorem k169_27 {P : s_P} {d : Nat} {Q : s_O → Prop} {h : s_H} {kc ks : Nat} {r0 r1 t2 : Term} {s0 : Int}  (k : Q (.inl (some (vi s0)), h, kc, ks))  (c1 : s0 = 0 ∨ s0 = 1 := by first | omega | assumption | (simp only [mk_len, List.length_map]; omega) | decide) : wr P d sw_c169 sw_h169 (27, [r0, r1, t2], [vi s0], h, kc, ks) Q := by
  exact w_zret rfl c1 k

theorem k169_28 {P : s_P} {d : Nat} {Q : s_O → Prop} {h : s_H} {kc ks : Nat} {r0 r1 t2 : Term} {q2 : Nat} {f3 : List Term} {z5 : Int} (g4 : s_get h q2 = some (1, 4, f3)) (k : wr P d sw_c169 sw_h169 (33, [.index q2, r1, vi z5], [], h, kc, ks) Q) (e_q2 : r0 = .index q2 := by first | rfl | assumption) (y1 : s_ty r0 = 3 := by first | rfl | assumption) (n6 : s_nth f3 1 = some (vi z5) := by first | rfl | assumption) (y7 : s_ty r1 = 3 := by first | rfl | assumption)  : wr P d sw_c169 sw_h169 (28, [r0, r1, t2], [], h, kc, ks) Q := by
  refine w_ld rfl rfl (Or.inr (Or.inr ⟨by decide, y1⟩)) ?_
  subst e_q2
  refine w_getf rfl g4 n6 ?_
  refine w_st (ls' := [.index q2, r1, vi z5]) rfl (Or.inl ⟨by decide, rfl⟩) (s_stK_r (pre := [.index q2]) y7) ?_
  exact k

theorem k169_33 {P : s_P} {d : Nat} {Q : s_O → Prop} {h : s_H} {kc ks : Nat} {r0 r1 : Term} {x2 : Int}  (k1 : x2 < 0 → wr P d sw_c169 sw_h169 (79, [r0, r1, vi x2], [], h, kc, ks) Q) (k2 : ¬ x2 < 0 → wr P d sw_c169 sw_h169 (37, [r0, r1, vi x2], [], h, kc, ks) Q)  (c1 : In3 x2 := by first | omega | assumption | (simp only [mk_len, List.length_map]; omega) | decide) : wr P d sw_c169 sw_h169 (33, [r0, r1, vi x2], [], h, kc, ks) Q := by
  refine w_ld rfl rfl (Or.inl ⟨by decide, rfl⟩) ?_
  exact w_if1 rfl c1 k1 k2

theorem k169_37 {P : s_P} {d : Nat} {Q : s_O → Prop} {h : s_H} {kc ks : Nat} {r0 r1 : Term} {x2 : Int} {q2 : Nat} {f3 : List Term} {v5 : Term} {q7 : Nat} {a8 : List Int} {q14 : Nat} {f15 : List Term} {v17 : Term} {q19 : Nat} {a20 : List Int} (g4 : s_get h q2 = some (1, 4, f3)) (g9 : s_get h q7 = some (0, 0, a8.map vi)) (g16 : s_get h q14 = some (1, 4, f15)) (g21 : s_get h q19 = some (0, 0, a20.map vi)) (k1 : gi a8 x2 = gi a20 x2 → wr P d sw_c169 sw_h169 (73, [.index q2, .index q14, vi x2], [], h, kc, ks) Q) (k2 : ¬ gi a8 x2 = gi a20 x2 → wr P d sw_c169 sw_h169 (52, [.index q2, .index q14, vi x2], [], h, kc, ks) Q) (e_q2 : r0 = .index q2 := by first | rfl | assumption) (e_q7 : v5 = .index q7 := by first | rfl | assumption) (e_q14 : r1 = .index q14 := by first | rfl | assumption) (e_q19 : v17 = .index q19 := by first | rfl | assumption) (y1 : s_ty r0 = 3 := by first | rfl | assumption) (n6 : s_nth f3 0 = some v5 := by first | rfl | assumption) (y13 : s_ty r1 = 3 := by first | rfl | assumption) (n18 : s_nth f15 0 = some v17 := by first | rfl | assumption) (c10 : x2 < a8.length := by first | omega | assumption | (simp only [mk_len, List.length_map]; omega) | decide) (c11 : 0 ≤ x2 := by first | omega | assumption | (simp only [mk_len, List.length_map]; omega) | decide) (c12 : In3 x2 := by first | omega | assumption | (simp only [mk_len, List.length_map]; omega) | decide) (c22 : x2 < a20.length := by first | omega | assumption | (simp only [mk_len, List.length_map]; omega) | decide) (c23 : In3 (gi a8 x2) := by first | omega | assumption | (simp only [mk_len, List.length_map]; omega) | decide) (c24 : In3 (gi a20 x2) := by first | omega | assumption | (simp only [mk_len, List.length_map]; omega) | decide) : wr P d sw_c169 sw_h169 (37, [r0, r1, vi x2], [], h, kc, ks) Q := by
  refine w_ld rfl rfl (Or.inr (Or.inr ⟨by decide, y1⟩)) ?_
  subst e_q2
  refine w_getf rfl g4 n6 ?_
  refine w_ld rfl rfl (Or.inl ⟨by decide, rfl⟩) ?_
  subst e_q7
  refine w_iald rfl g9 (Or.inl rfl) c12 c11 c10 ?_
  refine w_ld rfl rfl (Or.inr (Or.inr ⟨by decide, y13⟩)) ?_
  subst e_q14
  refine w_getf rfl g16 n18 ?_
  refine w_ld rfl rfl (Or.inl ⟨by decide, rfl⟩) ?_
  subst e_q19
  refine w_iald rfl g21 (Or.inl rfl) c12 c11 c22 ?_
  exact w_if2 rfl c23 c24 k1 k2

theorem k169_52 {P : s_P} {d : Nat} {Q : s_O → Prop} {h : s_H} {kc ks : Nat} {r0 r1 : Term} {x2 : Int} {q2 : Nat} {f3 : List Term} {v5 : Term} {q7 : Nat} {a8 : List Int} {q14 : Nat} {f15 : List Term} {v17 : Term} {q19 : Nat} {a20 : List Int} (g4 : s_get h q2 = some (1, 4, f3)) (g9 : s_get h q7 = some (0, 0, a8.map vi)) (g16 : s_get h q14 = some (1, 4, f15)) (g21 : s_get h q19 = some (0, 0, a20.map vi)) (k1 : gi a20 x2 ≤ gi a8 x2 → wr P d sw_c169 sw_h169 (71, [.index q2, .index q14, vi x2], [], h, kc, ks) Q) (k2 : ¬ gi a20 x2 ≤ gi a8 x2 → wr P d sw_c169 sw_h169 (67, [.index q2, .index q14, vi x2], [], h, kc, ks) Q) (e_q2 : r0 = .index q2 := by first | rfl | assumption) (e_q7 : v5 = .index q7 := by first | rfl | assumption) (e_q14 : r1 = .index q14 := by first | rfl | assumption) (e_q19 : v17 = .index q19 := by first | rfl | assumption) (y1 : s_ty r0 = 3 := by first | rfl | assumption) (n6 : s_nth f3 0 = some v5 := by first | rfl | assumption) (y13 : s_ty r1 = 3 := by first | rfl | assumption) (n18 : s_nth f15 0 = some v17 := by first | rfl | assumption) (c10 : x2 < a8.length := by first | omega | assumption | (simp only [mk_len, List.length_map]; omega) | decide) (c11 : 0 ≤ x2 := by first | omega | assumption | (simp only [mk_len, List.length_map]; omega) | decide) (c12 : In3 x2 := by first | omega | assumption | (simp only [mk_len, List.length_map]; omega) | decide) (c22 : x2 < a20.length := by first | omega | assumption | (simp only [mk_len, List.length_map]; omega) | decide) (c23 : In3 (gi a8 x2) := by first | omega | assumption | (simp only [mk_len, List.length_map]; omega) | decide) (c24 : In3 (gi a20 x2) := by first | omega | assumption | (simp only [mk_len, List.length_map]; omega) | decide) : wr P d sw_c169 sw_h169 (52, [r0, r1, vi x2], [], h, kc, ks) Q := by
  refine w_ld rfl rfl (Or.inr (Or.inr ⟨by decide, y1⟩)) ?_
  subst e_q2
  refine w_getf rfl g4 n6 ?_
  refine w_ld rfl rfl (Or.inl ⟨by decide, rfl⟩) ?_
  subst e_q7
  refine w_iald rfl g9 (Or.inl rfl) c12 c11 c10 ?_
  refine w_ld rfl rfl (Or.inr (Or.inr ⟨by decide, y13⟩)) ?_
  subst e_q14
  refine w_getf rfl g16 n18 ?_
  refine w_ld rfl rfl (Or.inl ⟨by decide, rfl⟩) ?_
  subst e_q19
  refine w_iald rfl g21 (Or.inl rfl) c12 c11 c22 ?_
  exact w_if2 rfl c23 c24 k1 k2

theorem k169_67 {P : s_P} {d : Nat} {Q : s_O → Prop} {h : s_H} {kc ks : Nat} {r0 r1 : Term} {x2 : Int}  (k : wr P d sw_c169 sw_h169 (72, [r0, r1, vi x2], [vi 1], h, kc, ks) Q)   : wr P d sw_c169 sw_h169 (67, [r0, r1, vi x2], [], h, kc, ks) Q := by
  refine w_c32 rfl (by decide) 1 (by decide) ?_
  refine w_goto rfl ?_
  exact k

theorem k169_71 {P : s_P} {d : Nat} {Q : s_O → Prop} {h : s_H} {kc ks : Nat} {r0 r1 : Term} {x2 : Int}  (k : wr P d sw_c169 sw_h169 (72, [r0, r1, vi x2], [vi 0], h, kc, ks) Q)   : wr P d sw_c169 sw_h169 (71, [r0, r1, vi x2], [], h, kc, ks) Q := by
  refine w_c32 rfl (by decide) 0 (by decide) ?_
  exact k

theorem k169_72 {P : s_P} {d : Nat} {Q : s_O → Prop} {h : s_H} {kc ks : Nat} {r0 r1 : Term} {x2 s0 : Int}  (k : Q (.inl (some (vi s0)), h, kc, ks))  (c1 : s0 = 0 ∨ s0 = 1 := by first | omega | assumption | (simp only [mk_len, List.length_map]; omega) | decide) : wr P d sw_c169 sw_h169 (72, [r0, r1, vi x2], [vi s0], h, kc, ks) Q := by
  exact w_zret rfl c1 k

theorem k169_73 {P : s_P} {d : Nat} {Q : s_O → Prop} {h : s_H} {kc ks : Nat} {r0 r1 : Term} {x2 : Int}  (k : wr P d sw_c169 sw_h169 (33, [r0, r1, vi (x2 + (-1))], [], h, kc, ks) Q) (y1 : s_ty r1 = 3 := by first | rfl | assumption)  : wr P d sw_c169 sw_h169 (73, [r0, r1, vi x2], [], h, kc, ks) Q := by
  refine w_iinc (ls' := [r0, r1, vi (x2 + (-1))]) rfl rfl (-1) (by decide) (s_stK_r (pre := [r0]) y1) ?_
  refine w_goto rfl ?_
  exact k

theorem k169_79 {P : s_P} {d : Nat} {Q : s_O → Prop} {h : s_H} {kc ks : Nat} {r0 r1 : Term} {x2 : Int}  (k : Q (.inl (some (vi 0)), h, kc, ks))   : wr P d sw_c169 sw_h169 (79, [r0, r1, vi x2], [], h, kc, ks) Q := by
  refine w_c32 rfl (by decide) 0 (by decide) ?_
  exact w_zret rfl (by decide) k

/-! 170: FormulaWorks$Poly.kept()LFormulaWorks$Poly; -/
theorem k170_0 {P : s_P} {d : Nat} {Q : s_O → Prop} {h : s_H} {kc ks : Nat} {r0 t1 : Term} {fc1 : s_C} {q4 : Nat} {f5 : List Term} {z7 : Int} (g2 : s_get h (h).1 = some fc1) (g6 : s_get (hq h (1, 4, s_df 4)) q4 = some (1, 4, f5)) (k : wm P d 166 [.index h.1, vi (z7 + 1)] (hq h (1, 4, s_df 4)) (fun out => out.1 = .inl none ∧ wr P d sw_c170 sw_h170 (13, [.index q4, t1], [.index h.1], out.2.1, (kc + 1) + out.2.2.1, (ks + 2) + out.2.2.2) Q)) (e_q4 : r0 = .index q4 := by first | rfl | assumption) (y3 : s_ty r0 = 3 := by first | rfl | assumption) (n8 : s_nth f5 1 = some (vi z7) := by first | rfl | assumption)  : wr P d sw_c170 sw_h170 (0, [r0, t1], [], h, kc, ks) Q := by
  refine w_new rfl g2 ?_
  refine w_dup rfl rfl ?_
  refine w_ld rfl rfl (Or.inr (Or.inr ⟨by decide, y3⟩)) ?_
  subst e_q4
  refine w_getf rfl g6 n8 ?_
  refine w_c32 rfl (by decide) 1 (by decide) ?_
  refine w_iadd rfl ?_
  exact w_ci rfl [.index h.1, vi (z7 + 1)] [.index h.1] rfl rfl (s_wt_4 rfl) rfl k

theorem k170_13 {P : s_P} {d : Nat} {Q : s_O → Prop} {h : s_H} {kc ks : Nat} {r0 t1 s0 : Term} {q3 : Nat} {f4 : List Term} (g5 : s_get h q3 = some (1, 4, f4)) (k : wm P d 179 [.index q3, r0] h (wq P d sw_c170 sw_h170 19 [r0, .index q3] [] kc ks Q)) (e_q3 : s0 = .index q3 := by first | rfl | assumption) (y1 : s_ty r0 = 3 := by first | rfl | assumption) (y2 : s_ty s0 = 3 := by first | rfl | assumption)  : wr P d sw_c170 sw_h170 (13, [r0, t1], [s0], h, kc, ks) Q := by
  refine w_st (ls' := [r0, s0]) rfl (Or.inr ⟨by decide, y2⟩) (s_stK_r (pre := []) y1) ?_
  refine w_ld rfl rfl (Or.inr (Or.inr ⟨by decide, y2⟩)) ?_
  refine w_ld rfl rfl (Or.inr (Or.inr ⟨by decide, y1⟩)) ?_
  subst e_q3
  exact w_cv rfl [.index q3, r0] [] rfl rfl (s_wt_4 rfl) rfl g5 k

theorem k170_19 {P : s_P} {d : Nat} {Q : s_O → Prop} {h : s_H} {kc ks : Nat} {r0 r1 : Term}  (k : Q (.inl (some r1), h, kc, ks)) (y1 : s_ty r1 = 3 := by first | rfl | assumption)  : wr P d sw_c170 sw_h170 (19, [r0, r1], [], h, kc, ks) Q := by
  refine w_ld rfl rfl (Or.inr (Or.inr ⟨by decide, y1⟩)) ?_
  exact w_aret rfl y1 k

/-! 171: FormulaWorks$Poly.lead()I -/
theorem k171_0 {P : s_P} {d : Nat} {Q : s_O → Prop} {h : s_H} {kc ks : Nat} {r0 : Term} {q2 : Nat} {f3 : List Term} {z5 : Int} (g4 : s_get h q2 = some (1, 4, f3)) (k1 : 0 ≤ z5 → wr P d sw_c171 sw_h171 (11, [.index q2], [], h, kc, ks) Q) (k2 : ¬ 0 ≤ z5 → wr P d sw_c171 sw_h171 (7, [.index q2], [], h, kc, ks) Q) (e_q2 : r0 = .index q2 := by first | rfl | assumption) (y1 : s_ty r0 = 3 := by first | rfl | assumption) (n6 : s_nth f3 1 = some (vi z5) := by first | rfl | assumption) (c7 : In3 z5 := by first | omega | assumption | (simp only [mk_len, List.length_map]; omega) | decide) : wr P d sw_c171 sw_h171 (0, [r0], [], h, kc, ks) Q := by
  refine w_ld rfl rfl (Or.inr (Or.inr ⟨by decide, y1⟩)) ?_
  subst e_q2
  refine w_getf rfl g4 n6 ?_
  exact w_if1 rfl c7 k1 k2

theorem k171_7 {P : s_P} {d : Nat} {Q : s_O → Prop} {h : s_H} {kc ks : Nat} {r0 : Term}  (k : wr P d sw_c171 sw_h171 (20, [r0], [vi 0], h, kc, ks) Q)   : wr P d sw_c171 sw_h171 (7, [r0], [], h, kc, ks) Q := by
  refine w_c32 rfl (by decide) 0 (by decide) ?_
  refine w_goto rfl ?_
  exact k

theorem k171_11 {P : s_P} {d : Nat} {Q : s_O → Prop} {h : s_H} {kc ks : Nat} {r0 : Term} {q2 : Nat} {f3 : List Term} {v5 : Term} {z7 : Int} {q9 : Nat} {a10 : List Int} (g4 : s_get h q2 = some (1, 4, f3)) (g11 : s_get h q9 = some (0, 0, a10.map vi)) (k : wr P d sw_c171 sw_h171 (20, [.index q2], [vi (gi a10 z7)], h, kc, ks) Q) (e_q2 : r0 = .index q2 := by first | rfl | assumption) (e_q9 : v5 = .index q9 := by first | rfl | assumption) (y1 : s_ty r0 = 3 := by first | rfl | assumption) (n6 : s_nth f3 0 = some v5 := by first | rfl | assumption) (n8 : s_nth f3 1 = some (vi z7) := by first | rfl | assumption) (c12 : z7 < a10.length := by first | omega | assumption | (simp only [mk_len, List.length_map]; omega) | decide) (c13 : 0 ≤ z7 := by first | omega | assumption | (simp only [mk_len, List.length_map]; omega) | decide) (c14 : In3 z7 := by first | omega | assumption | (simp only [mk_len, List.length_map]; omega) | decide) : wr P d sw_c171 sw_h171 (11, [r0], [], h, kc, ks) Q := by
  refine w_ld rfl rfl (Or.inr (Or.inr ⟨by decide, y1⟩)) ?_
  subst e_q2
  refine w_getf rfl g4 n6 ?_
  refine w_ld rfl rfl (Or.inr (Or.inr ⟨by decide, rfl⟩)) ?_
  refine w_getf rfl g4 n8 ?_
  subst e_q9
  refine w_iald rfl g11 (Or.inl rfl) c14 c13 c12 ?_
  exact k

theorem k171_20 {P : s_P} {d : Nat} {Q : s_O → Prop} {h : s_H} {kc ks : Nat} {r0 : Term} {s0 : Int}  (k : Q (.inl (some (vi s0)), h, kc, ks))   : wr P d sw_c171 sw_h171 (20, [r0], [vi s0], h, kc, ks) Q := by
  exact w_iret rfl k

/-! 172: FormulaWorks$Poly.makeIntegral()V -/
theorem k172_0 {P : s_P} {d : Nat} {Q : s_O → Prop} {h : s_H} {kc ks : Nat} {r0 t1 t2 : Term} {q2 : Nat} {f3 : List Term} {z5 : Int} {v7 : Term} {q9 : Nat} {a10 : List Term} {tg12 : Nat} (g4 : s_get h q2 = some (1, 4, f3)) (g11 : s_get h q9 = some (0, tg12, a10)) (k1 : (a10.length : Int) ≤ z5 + 1 → wr P d sw_c172 sw_h172 (23, [.index q2, t1, t2], [], h, kc, ks) Q) (k2 : ¬ (a10.length : Int) ≤ z5 + 1 → wr P d sw_c172 sw_h172 (14, [.index q2, t1, t2], [], h, kc, ks) Q) (e_q2 : r0 = .index q2 := by first | rfl | assumption) (e_q9 : v7 = .index q9 := by first | rfl | assumption) (y1 : s_ty r0 = 3 := by first | rfl | assumption) (n6 : s_nth f3 1 = some (vi z5) := by first | rfl | assumption) (n8 : s_nth f3 0 = some v7 := by first | rfl | assumption) (c13 : In3 (z5 + 1) := by first | omega | assumption | (simp only [mk_len, List.length_map]; omega) | decide) (c14 : In3 (a10.length : Int) := by first | omega | assumption | (simp only [mk_len, List.length_map]; omega) | decide) : wr P d sw_c172 sw_h172 (0, [r0, t1, t2], [], h, kc, ks) Q := by
  refine w_ld rfl rfl (Or.inr (Or.inr ⟨by decide, y1⟩)) ?_
  subst e_q2
  refine w_getf rfl g4 n6 ?_
  refine w_c32 rfl (by decide) 1 (by decide) ?_
  refine w_iadd rfl ?_
  refine w_ld rfl rfl (Or.inr (Or.inr ⟨by decide, rfl⟩)) ?_
  refine w_getf rfl g4 n8 ?_
  subst e_q9
  refine w_alen rfl g11 (Or.inl rfl) ?_
  exact w_if2 rfl c13 c14 k1 k2

theorem k172_14 {P : s_P} {d : Nat} {Q : s_O → Prop} {h : s_H} {kc ks : Nat} {r0 t1 t2 : Term} {q2 : Nat} {f3 : List Term} {z5 : Int} (g4 : s_get h q2 = some (1, 4, f3)) (k : wr P d sw_c172 sw_h172 (30, [.index q2, t1, t2], [vi (z5 + 1)], h, kc, ks) Q) (e_q2 : r0 = .index q2 := by first | rfl | assumption) (y1 : s_ty r0 = 3 := by first | rfl | assumption) (n6 : s_nth f3 1 = some (vi z5) := by first | rfl | assumption)  : wr P d sw_c172 sw_h172 (14, [r0, t1, t2], [], h, kc, ks) Q := by
  refine w_ld rfl rfl (Or.inr (Or.inr ⟨by decide, y1⟩)) ?_
  subst e_q2
  refine w_getf rfl g4 n6 ?_
  refine w_c32 rfl (by decide) 1 (by decide) ?_
  refine w_iadd rfl ?_
  refine w_goto rfl ?_
  exact k

theorem k172_23 {P : s_P} {d : Nat} {Q : s_O → Prop} {h : s_H} {kc ks : Nat} {r0 t1 t2 : Term} {q2 : Nat} {f3 : List Term} {v5 : Term} {q7 : Nat} {a8 : List Term} {tg10 : Nat} (g4 : s_get h q2 = some (1, 4, f3)) (g9 : s_get h q7 = some (0, tg10, a8)) (k : wr P d sw_c172 sw_h172 (30, [.index q2, t1, t2], [vi ((a8.length : Int) - 1)], h, kc, ks) Q) (e_q2 : r0 = .index q2 := by first | rfl | assumption) (e_q7 : v5 = .index q7 := by first | rfl | assumption) (y1 : s_ty r0 = 3 := by first | rfl | assumption) (n6 : s_nth f3 0 = some v5 := by first | rfl | assumption)  : wr P d sw_c172 sw_h172 (23, [r0, t1, t2], [], h, kc, ks) Q := by
  refine w_ld rfl rfl (Or.inr (Or.inr ⟨by decide, y1⟩)) ?_
  subst e_q2
  refine w_getf rfl g4 n6 ?_
  subst e_q7
  refine w_alen rfl g9 (Or.inl rfl) ?_
  refine w_c32 rfl (by decide) 1 (by decide) ?_
  refine w_isub rfl ?_
  exact k

theorem k172_30 {P : s_P} {d : Nat} {Q : s_O → Prop} {h : s_H} {kc ks : Nat} {r0 t1 t2 : Term} {s0 : Int} {q2 : Nat} {f3 : List Term} {z5 : Int} (g4 : s_get h q2 = some (1, 4, f3)) (k1 : 0 ≤ z5 → wr P d sw_c172 sw_h172 (39, [.index q2, vi s0, t2], [], h, kc, ks) Q) (k2 : ¬ 0 ≤ z5 → wr P d sw_c172 sw_h172 (38, [.index q2, vi s0, t2], [], h, kc, ks) Q) (e_q2 : r0 = .index q2 := by first | rfl | assumption) (y1 : s_ty r0 = 3 := by first | rfl | assumption) (n6 : s_nth f3 1 = some (vi z5) := by first | rfl | assumption) (c7 : In3 z5 := by first | omega | assumption | (simp only [mk_len, List.length_map]; omega) | decide) : wr P d sw_c172 sw_h172 (30, [r0, t1, t2], [vi s0], h, kc, ks) Q := by
  refine w_st (ls' := [r0, vi s0, t2]) rfl (Or.inl ⟨by decide, rfl⟩) (s_stK_r (pre := []) y1) ?_
  refine w_ld rfl rfl (Or.inr (Or.inr ⟨by decide, y1⟩)) ?_
  subst e_q2
  refine w_getf rfl g4 n6 ?_
  exact w_if1 rfl c7 k1 k2

theorem k172_38 {P : s_P} {d : Nat} {Q : s_O → Prop} {h : s_H} {kc ks : Nat} {r0 : Term} {x1 : Int} {t2 : Term}  (k : Q (.inl none, h, kc, ks))   : wr P d sw_c172 sw_h172 (38, [r0, vi x1, t2], [], h, kc, ks) Q := by
  exact w_ret rfl k

theorem k172_39 {P : s_P} {d : Nat} {Q : s_O → Prop} {h : s_H} {kc ks : Nat} {r0 : Term} {x1 : Int} {t2 : Term}  (k : wr P d sw_c172 sw_h172 (41, [r0, vi x1, vi x1], [], h, kc, ks) Q)   : wr P d sw_c172 sw_h172 (39, [r0, vi x1, t2], [], h, kc, ks) Q := by
  refine w_ld rfl rfl (Or.inl ⟨by decide, rfl⟩) ?_
  refine w_st (ls' := [r0, vi x1, vi x1]) rfl (Or.inl ⟨by decide, rfl⟩) rfl ?_
  exact k

theorem k172_41 {P : s_P} {d : Nat} {Q : s_O → Prop} {h : s_H} {kc ks : Nat} {r0 : Term} {x1 x2 : Int}  (k1 : x2 ≤ 0 → wr P d sw_c172 sw_h172 (74, [r0, vi x1, vi x2], [], h, kc, ks) Q) (k2 : ¬ x2 ≤ 0 → wr P d sw_c172 sw_h172 (45, [r0, vi x1, vi x2], [], h, kc, ks) Q)  (c1 : In3 x2 := by first | omega | assumption | (simp only [mk_len, List.length_map]; omega) | decide) : wr P d sw_c172 sw_h172 (41, [r0, vi x1, vi x2], [], h, kc, ks) Q := by
  refine w_ld rfl rfl (Or.inl ⟨by decide, rfl⟩) ?_
  exact w_if1 rfl c1 k1 k2

theorem k172_45 {P : s_P} {d : Nat} {Q : s_O → Prop} {h : s_H} {kc ks : Nat} {r0 : Term} {x1 x2 : Int} {q2 : Nat} {f3 : List Term} {v5 : Term} {q7 : Nat} {a8 : List Int} (g4 : s_get h q2 = some (1, 4, f3)) (g9 : s_get h q7 = some (0, 0, a8.map vi)) (k : wm P d 168 [vi x2] h (wq P d sw_c172 sw_h172 62 [.index q2, vi x1, vi x2] [vi (gi a8 (x2 - 1)), vi x2, .index q7] kc ks Q)) (e_q2 : r0 = .index q2 := by first | rfl | assumption) (e_q7 : v5 = .index q7 := by first | rfl | assumption) (y1 : s_ty r0 = 3 := by first | rfl | assumption) (n6 : s_nth f3 0 = some v5 := by first | rfl | assumption) (c10 : x2 - 1 < a8.length := by first | omega | assumption | (simp only [mk_len, List.length_map]; omega) | decide) (c11 : 0 ≤ x2 - 1 := by first | omega | assumption | (simp only [mk_len, List.length_map]; omega) | decide) (c12 : In3 (x2 - 1) := by first | omega | assumption | (simp only [mk_len, List.length_map]; omega) | decide) : wr P d sw_c172 sw_h172 (45, [r0, vi x1, vi x2], [], h, kc, ks) Q := by
  refine w_ld rfl rfl (Or.inr (Or.inr ⟨by decide, y1⟩)) ?_
  subst e_q2
  refine w_getf rfl g4 n6 ?_
  refine w_ld rfl rfl (Or.inl ⟨by decide, rfl⟩) ?_
  refine w_ld rfl rfl (Or.inr (Or.inr ⟨by decide, rfl⟩)) ?_
  refine w_getf rfl g4 n6 ?_
  refine w_ld rfl rfl (Or.inl ⟨by decide, rfl⟩) ?_
  refine w_c32 rfl (by decide) 1 (by decide) ?_
  refine w_isub rfl ?_
  subst e_q7
  refine w_iald rfl g9 (Or.inl rfl) c12 c11 c10 ?_
  refine w_ld rfl rfl (Or.inl ⟨by decide, rfl⟩) ?_
  exact w_cs rfl [vi x2] [vi (gi a8 (x2 - 1)), vi x2, .index q7] rfl rfl (s_wt_4 rfl) k

theorem k172_62 {P : s_P} {d : Nat} {Q : s_O → Prop} {h : s_H} {kc ks : Nat} {r0 : Term} {x1 x2 : Int} {s0 : Term} {s1 s2 s3 : Int} {q2 : Nat} {a3 : List Int} (g4 : s_get h q2 = some (0, 0, a3.map vi)) (k : wr P d sw_c172 sw_h172 (41, [r0, vi x1, vi (x2 + (-1))], [], (hp h q2 (0, 0, (a3.set (Int.toNat (s1)) (Int.tmod (s2 * s3) 32003)).map vi)), kc, ks) Q) (e_q2 : s0 = .index q2 := by first | rfl | assumption) (c1 : In3 (s2 * s3) := by first | omega | assumption | (simp only [mk_len, List.length_map]; omega) | decide) (c5 : s1 < a3.length := by first | omega | assumption | (simp only [mk_len, List.length_map]; omega) | decide) (c6 : 0 ≤ s1 := by first | omega | assumption | (simp only [mk_len, List.length_map]; omega) | decide) (c7 : In3 s1 := by first | omega | assumption | (simp only [mk_len, List.length_map]; omega) | decide) (c8 : 0 < q2 := by first | omega | assumption | (simp only [mk_len, List.length_map]; omega) | decide) : wr P d sw_c172 sw_h172 (62, [r0, vi x1, vi x2], [vi s3, vi s2, vi s1, s0], h, kc, ks) Q := by
  refine w_imul rfl ?_
  refine w_c32 rfl (by decide) 32003 (by decide) ?_
  refine w_irem rfl c1 (by decide) (by decide) ?_
  subst e_q2
  refine w_iast rfl g4 (Nat.ble_eq_true_of_le c8) c7 c6 c5 ?_
  refine w_iinc (ls' := [r0, vi x1, vi (x2 + (-1))]) rfl rfl (-1) (by decide) rfl ?_
  refine w_goto rfl ?_
  exact k

theorem k172_74 {P : s_P} {d : Nat} {Q : s_O → Prop} {h : s_H} {kc ks : Nat} {r0 : Term} {x1 x2 : Int} {q2 : Nat} {f3 : List Term} {v5 : Term} {q7 : Nat} {a8 : List Int} {f12 : List Term} (g4 : s_get h q2 = some (1, 4, f3)) (g9 : s_get h q7 = some (0, 0, a8.map vi)) (g13 : s_get (hp h q7 (0, 0, (a8.set (Int.toNat (0)) 0).map vi)) q2 = some (1, 4, f12)) (k : wm P d 186 [.index q2, vi x1] (hp h q7 (0, 0, (a8.set (Int.toNat (0)) 0).map vi)) (wq P d sw_c172 sw_h172 86 [.index q2, vi x1, vi x2] [] kc ks Q)) (e_q2 : r0 = .index q2 := by first | rfl | assumption) (e_q7 : v5 = .index q7 := by first | rfl | assumption) (y1 : s_ty r0 = 3 := by first | rfl | assumption) (n6 : s_nth f3 0 = some v5 := by first | rfl | assumption) (c10 : (0 : Int) < a8.length := by first | omega | assumption | (simp only [mk_len, List.length_map]; omega) | decide) (c11 : 0 < q7 := by first | omega | assumption | (simp only [mk_len, List.length_map]; omega) | decide) : wr P d sw_c172 sw_h172 (74, [r0, vi x1, vi x2], [], h, kc, ks) Q := by
  refine w_ld rfl rfl (Or.inr (Or.inr ⟨by decide, y1⟩)) ?_
  subst e_q2
  refine w_getf rfl g4 n6 ?_
  refine w_c32 rfl (by decide) 0 (by decide) ?_
  refine w_c32 rfl (by decide) 0 (by decide) ?_
  subst e_q7
  refine w_iast rfl g9 (Nat.ble_eq_true_of_le c11) (by decide) (by decide) c10 ?_
  refine w_ld rfl rfl (Or.inr (Or.inr ⟨by decide, rfl⟩)) ?_
  refine w_ld rfl rfl (Or.inl ⟨by decide, rfl⟩) ?_
  exact w_cv rfl [.index q2, vi x1] [] rfl rfl (s_wt_4 rfl) rfl g13 k

theorem k172_86 {P : s_P} {d : Nat} {Q : s_O → Prop} {h : s_H} {kc ks : Nat} {r0 : Term} {x1 x2 : Int}  (k : Q (.inl none, h, kc, ks))   : wr P d sw_c172 sw_h172 (86, [r0, vi x1, vi x2], [], h, kc, ks) Q := by
  exact w_ret rfl k

/-! 173: FormulaWorks$Poly.makeMonic()V -/
theorem k173_0 {P : s_P} {d : Nat} {Q : s_O → Prop} {h : s_H} {kc ks : Nat} {r0 : Term} {q2 : Nat} {f3 : List Term} {z5 : Int} (g4 : s_get h q2 = some (1, 4, f3)) (k1 : z5 < 0 → wr P d sw_c173 sw_h173 (36, [.index q2], [], h, kc, ks) Q) (k2 : ¬ z5 < 0 → wr P d sw_c173 sw_h173 (7, [.index q2], [], h, kc, ks) Q) (e_q2 : r0 = .index q2 := by first | rfl | assumption) (y1 : s_ty r0 = 3 := by first | rfl | assumption) (n6 : s_nth f3 1 = some (vi z5) := by first | rfl | assumption) (c7 : In3 z5 := by first | omega | assumption | (simp only [mk_len, List.length_map]; omega) | decide) : wr P d sw_c173 sw_h173 (0, [r0], [], h, kc, ks) Q := by
  refine w_ld rfl rfl (Or.inr (Or.inr ⟨by decide, y1⟩)) ?_
  subst e_q2
  refine w_getf rfl g4 n6 ?_
  exact w_if1 rfl c7 k1 k2

theorem k173_7 {P : s_P} {d : Nat} {Q : s_O → Prop} {h : s_H} {kc ks : Nat} {r0 : Term} {q2 : Nat} {f3 : List Term} {v5 : Term} {z7 : Int} {q9 : Nat} {a10 : List Int} (g4 : s_get h q2 = some (1, 4, f3)) (g11 : s_get h q9 = some (0, 0, a10.map vi)) (k1 : gi a10 z7 = 1 → wr P d sw_c173 sw_h173 (36, [.index q2], [], h, kc, ks) Q) (k2 : ¬ gi a10 z7 = 1 → wr P d sw_c173 sw_h173 (20, [.index q2], [], h, kc, ks) Q) (e_q2 : r0 = .index q2 := by first | rfl | assumption) (e_q9 : v5 = .index q9 := by first | rfl | assumption) (y1 : s_ty r0 = 3 := by first | rfl | assumption) (n6 : s_nth f3 0 = some v5 := by first | rfl | assumption) (n8 : s_nth f3 1 = some (vi z7) := by first | rfl | assumption) (c12 : z7 < a10.length := by first | omega | assumption | (simp only [mk_len, List.length_map]; omega) | decide) (c13 : 0 ≤ z7 := by first | omega | assumption | (simp only [mk_len, List.length_map]; omega) | decide) (c14 : In3 z7 := by first | omega | assumption | (simp only [mk_len, List.length_map]; omega) | decide) (c15 : In3 (gi a10 z7) := by first | omega | assumption | (simp only [mk_len, List.length_map]; omega) | decide) : wr P d sw_c173 sw_h173 (7, [r0], [], h, kc, ks) Q := by
  refine w_ld rfl rfl (Or.inr (Or.inr ⟨by decide, y1⟩)) ?_
  subst e_q2
  refine w_getf rfl g4 n6 ?_
  refine w_ld rfl rfl (Or.inr (Or.inr ⟨by decide, rfl⟩)) ?_
  refine w_getf rfl g4 n8 ?_
  subst e_q9
  refine w_iald rfl g11 (Or.inl rfl) c14 c13 c12 ?_
  refine w_c32 rfl (by decide) 1 (by decide) ?_
  exact w_if2 rfl c15 (by decide) k1 k2

theorem k173_20 {P : s_P} {d : Nat} {Q : s_O → Prop} {h : s_H} {kc ks : Nat} {r0 : Term} {q2 : Nat} {f3 : List Term} {v5 : Term} {z7 : Int} {q9 : Nat} {a10 : List Int} (g4 : s_get h q2 = some (1, 4, f3)) (g11 : s_get h q9 = some (0, 0, a10.map vi)) (k : wm P d 168 [vi (gi a10 z7)] h (wq P d sw_c173 sw_h173 33 [.index q2] [.index q2] kc ks Q)) (e_q2 : r0 = .index q2 := by first | rfl | assumption) (e_q9 : v5 = .index q9 := by first | rfl | assumption) (y1 : s_ty r0 = 3 := by first | rfl | assumption) (n6 : s_nth f3 0 = some v5 := by first | rfl | assumption) (n8 : s_nth f3 1 = some (vi z7) := by first | rfl | assumption) (c12 : z7 < a10.length := by first | omega | assumption | (simp only [mk_len, List.length_map]; omega) | decide) (c13 : 0 ≤ z7 := by first | omega | assumption | (simp only [mk_len, List.length_map]; omega) | decide) (c14 : In3 z7 := by first | omega | assumption | (simp only [mk_len, List.length_map]; omega) | decide) : wr P d sw_c173 sw_h173 (20, [r0], [], h, kc, ks) Q := by
  refine w_ld rfl rfl (Or.inr (Or.inr ⟨by decide, y1⟩)) ?_
  refine w_ld rfl rfl (Or.inr (Or.inr ⟨by decide, y1⟩)) ?_
  subst e_q2
  refine w_getf rfl g4 n6 ?_
  refine w_ld rfl rfl (Or.inr (Or.inr ⟨by decide, rfl⟩)) ?_
  refine w_getf rfl g4 n8 ?_
  subst e_q9
  refine w_iald rfl g11 (Or.inl rfl) c14 c13 c12 ?_
  exact w_cs rfl [vi (gi a10 z7)] [.index q2] rfl rfl (s_wt_4 rfl) k

theorem k173_33 {P : s_P} {d : Nat} {Q : s_O → Prop} {h : s_H} {kc ks : Nat} {r0 s0 : Term} {s1 : Int} {q1 : Nat} {f2 : List Term} (g3 : s_get h q1 = some (1, 4, f2)) (k : wm P d 178 [.index q1, vi s1] h (wq P d sw_c173 sw_h173 36 [r0] [] kc ks Q)) (e_q1 : s0 = .index q1 := by first | rfl | assumption)  : wr P d sw_c173 sw_h173 (33, [r0], [vi s1, s0], h, kc, ks) Q := by
  subst e_q1
  exact w_cv rfl [.index q1, vi s1] [] rfl rfl (s_wt_4 rfl) rfl g3 k

theorem k173_36 {P : s_P} {d : Nat} {Q : s_O → Prop} {h : s_H} {kc ks : Nat} {r0 : Term}  (k : Q (.inl none, h, kc, ks))   : wr P d sw_c173 sw_h173 (36, [r0], [], h, kc, ks) Q := by
  exact w_ret rfl k

/-! 174: FormulaWorks$Poly.makeSlope()V -/
theorem k174_0 {P : s_P} {d : Nat} {Q : s_O → Prop} {h : s_H} {kc ks : Nat} {r0 t1 : Term}  (k : wr P d sw_c174 sw_h174 (2, [r0, vi 1], [], h, kc, ks) Q) (y1 : s_ty r0 = 3 := by first | rfl | assumption)  : wr P d sw_c174 sw_h174 (0, [r0, t1], [], h, kc, ks) Q := by
  refine w_c32 rfl (by decide) 1 (by decide) ?_
  refine w_st (ls' := [r0, vi 1]) rfl (Or.inl ⟨by decide, rfl⟩) (s_stK_r (pre := []) y1) ?_
  exact k

theorem k174_2 {P : s_P} {d : Nat} {Q : s_O → Prop} {h : s_H} {kc ks : Nat} {r0 : Term} {x1 : Int} {q2 : Nat} {f3 : List Term} {z5 : Int} (g4 : s_get h q2 = some (1, 4, f3)) (k1 : z5 < x1 → wr P d sw_c174 sw_h174 (36, [.index q2, vi x1], [], h, kc, ks) Q) (k2 : ¬ z5 < x1 → wr P d sw_c174 sw_h174 (10, [.index q2, vi x1], [], h, kc, ks) Q) (e_q2 : r0 = .index q2 := by first | rfl | assumption) (y1 : s_ty r0 = 3 := by first | rfl | assumption) (n6 : s_nth f3 1 = some (vi z5) := by first | rfl | assumption) (c7 : In3 x1 := by first | omega | assumption | (simp only [mk_len, List.length_map]; omega) | decide) (c8 : In3 z5 := by first | omega | assumption | (simp only [mk_len, List.length_map]; omega) | decide) : wr P d sw_c174 sw_h174 (2, [r0, vi x1], [], h, kc, ks) Q := by
  refine w_ld rfl rfl (Or.inl ⟨by decide, rfl⟩) ?_
  refine w_ld rfl rfl (Or.inr (Or.inr ⟨by decide, y1⟩)) ?_
  subst e_q2
  refine w_getf rfl g4 n6 ?_
  exact w_if2 rfl c7 c8 k1 k2

theorem k174_10 {P : s_P} {d : Nat} {Q : s_O → Prop} {h : s_H} {kc ks : Nat} {r0 : Term} {x1 : Int} {q2 : Nat} {f3 : List Term} {v5 : Term} {q7 : Nat} {a8 : List Int} (g4 : s_get h q2 = some (1, 4, f3)) (g9 : s_get h q7 = some (0, 0, a8.map vi)) (k : wr P d sw_c174 sw_h174 (2, [.index q2, vi (x1 + 1)], [], (hp h q7 (0, 0, (a8.set (Int.toNat (x1 - 1)) (Int.tmod ((gi a8 x1) * x1) 32003)).map vi)), kc, ks) Q) (e_q2 : r0 = .index q2 := by first | rfl | assumption) (e_q7 : v5 = .index q7 := by first | rfl | assumption) (y1 : s_ty r0 = 3 := by first | rfl | assumption) (n6 : s_nth f3 0 = some v5 := by first | rfl | assumption) (c10 : x1 < a8.length := by first | omega | assumption | (simp only [mk_len, List.length_map]; omega) | decide) (c11 : 0 ≤ x1 := by first | omega | assumption | (simp only [mk_len, List.length_map]; omega) | decide) (c12 : In3 x1 := by first | omega | assumption | (simp only [mk_len, List.length_map]; omega) | decide) (c13 : In3 ((gi a8 x1) * x1) := by first | omega | assumption | (simp only [mk_len, List.length_map]; omega) | decide) (c14 : x1 - 1 < a8.length := by first | omega | assumption | (simp only [mk_len, List.length_map]; omega) | decide) (c15 : 0 ≤ x1 - 1 := by first | omega | assumption | (simp only [mk_len, List.length_map]; omega) | decide) (c16 : In3 (x1 - 1) := by first | omega | assumption | (simp only [mk_len, List.length_map]; omega) | decide) (c17 : 0 < q7 := by first | omega | assumption | (simp only [mk_len, List.length_map]; omega) | decide) : wr P d sw_c174 sw_h174 (10, [r0, vi x1], [], h, kc, ks) Q := by
  refine w_ld rfl rfl (Or.inr (Or.inr ⟨by decide, y1⟩)) ?_
  subst e_q2
  refine w_getf rfl g4 n6 ?_
  refine w_ld rfl rfl (Or.inl ⟨by decide, rfl⟩) ?_
  refine w_c32 rfl (by decide) 1 (by decide) ?_
  refine w_isub rfl ?_
  refine w_ld rfl rfl (Or.inr (Or.inr ⟨by decide, rfl⟩)) ?_
  refine w_getf rfl g4 n6 ?_
  refine w_ld rfl rfl (Or.inl ⟨by decide, rfl⟩) ?_
  subst e_q7
  refine w_iald rfl g9 (Or.inl rfl) c12 c11 c10 ?_
  refine w_ld rfl rfl (Or.inl ⟨by decide, rfl⟩) ?_
  refine w_imul rfl ?_
  refine w_c32 rfl (by decide) 32003 (by decide) ?_
  refine w_irem rfl c13 (by decide) (by decide) ?_
  refine w_iast rfl g9 (Nat.ble_eq_true_of_le c17) c16 c15 c14 ?_
  refine w_iinc (ls' := [.index q2, vi (x1 + 1)]) rfl rfl 1 (by decide) rfl ?_
  refine w_goto rfl ?_
  exact k

theorem k174_36 {P : s_P} {d : Nat} {Q : s_O → Prop} {h : s_H} {kc ks : Nat} {r0 : Term} {x1 : Int} {q2 : Nat} {f3 : List Term} {z5 : Int} (g4 : s_get h q2 = some (1, 4, f3)) (k : wm P d 186 [.index q2, vi (z5 - 1)] h (wq P d sw_c174 sw_h174 46 [.index q2, vi x1] [] kc ks Q)) (e_q2 : r0 = .index q2 := by first | rfl | assumption) (y1 : s_ty r0 = 3 := by first | rfl | assumption) (n6 : s_nth f3 1 = some (vi z5) := by first | rfl | assumption)  : wr P d sw_c174 sw_h174 (36, [r0, vi x1], [], h, kc, ks) Q := by
  refine w_ld rfl rfl (Or.inr (Or.inr ⟨by decide, y1⟩)) ?_
  refine w_ld rfl rfl (Or.inr (Or.inr ⟨by decide, y1⟩)) ?_
  subst e_q2
  refine w_getf rfl g4 n6 ?_
  refine w_c32 rfl (by decide) 1 (by decide) ?_
  refine w_isub rfl ?_
  exact w_cv rfl [.index q2, vi (z5 - 1)] [] rfl rfl (s_wt_4 rfl) rfl g4 k

theorem k174_46 {P : s_P} {d : Nat} {Q : s_O → Prop} {h : s_H} {kc ks : Nat} {r0 : Term} {x1 : Int}  (k : Q (.inl none, h, kc, ks))   : wr P d sw_c174 sw_h174 (46, [r0, vi x1], [], h, kc, ks) Q := by
  exact w_ret rfl k

/-! 175: FormulaWorks$Poly.raised(II)I -/
theorem k175_0 {P : s_P} {d : Nat} {Q : s_O → Prop} {h : s_H} {kc ks : Nat} {x0 x1 : Int} {t2 t3 t4 : Term}  (k : wr P d sw_c175 sw_h175 (7, [vi x0, vi x1, vi 1, vi x0, vi x1], [], h, kc, ks) Q)   : wr P d sw_c175 sw_h175 (0, [vi x0, vi x1, t2, t3, t4], [], h, kc, ks) Q := by
  refine w_c32 rfl (by decide) 1 (by decide) ?_
  refine w_st (ls' := [vi x0, vi x1, vi 1, t3, t4]) rfl (Or.inl ⟨by decide, rfl⟩) rfl ?_
  refine w_ld rfl rfl (Or.inl ⟨by decide, rfl⟩) ?_
  refine w_st (ls' := [vi x0, vi x1, vi 1, vi x0, t4]) rfl (Or.inl ⟨by decide, rfl⟩) rfl ?_
  refine w_ld rfl rfl (Or.inl ⟨by decide, rfl⟩) ?_
  refine w_st (ls' := [vi x0, vi x1, vi 1, vi x0, vi x1]) rfl (Or.inl ⟨by decide, rfl⟩) rfl ?_
  exact k

theorem k175_7 {P : s_P} {d : Nat} {Q : s_O → Prop} {h : s_H} {kc ks : Nat} {x0 x1 x2 x3 x4 : Int}  (k1 : x4 ≤ 0 → wr P d sw_c175 sw_h175 (45, [vi x0, vi x1, vi x2, vi x3, vi x4], [], h, kc, ks) Q) (k2 : ¬ x4 ≤ 0 → wr P d sw_c175 sw_h175 (12, [vi x0, vi x1, vi x2, vi x3, vi x4], [], h, kc, ks) Q)  (c1 : In3 x4 := by first | omega | assumption | (simp only [mk_len, List.length_map]; omega) | decide) : wr P d sw_c175 sw_h175 (7, [vi x0, vi x1, vi x2, vi x3, vi x4], [], h, kc, ks) Q := by
  refine w_ld rfl rfl (Or.inl ⟨by decide, rfl⟩) ?_
  exact w_if1 rfl c1 k1 k2

theorem k175_12 {P : s_P} {d : Nat} {Q : s_O → Prop} {h : s_H} {kc ks : Nat} {x0 x1 x2 x3 x4 : Int}  (k1 : zi 24 x4 1 ≠ 1 → wr P d sw_c175 sw_h175 (28, [vi x0, vi x1, vi x2, vi x3, vi x4], [], h, kc, ks) Q) (k2 : ¬ zi 24 x4 1 ≠ 1 → wr P d sw_c175 sw_h175 (20, [vi x0, vi x1, vi x2, vi x3, vi x4], [], h, kc, ks) Q)  (c1 : In3 (zi 24 x4 1) := by first | omega | assumption | (simp only [mk_len, List.length_map]; omega) | decide) : wr P d sw_c175 sw_h175 (12, [vi x0, vi x1, vi x2, vi x3, vi x4], [], h, kc, ks) Q := by
  refine w_ld rfl rfl (Or.inl ⟨by decide, rfl⟩) ?_
  refine w_c32 rfl (by decide) 1 (by decide) ?_
  refine w_ib rfl (by decide) ?_
  refine w_c32 rfl (by decide) 1 (by decide) ?_
  exact w_if2 rfl c1 (by decide) k1 k2

theorem k175_20 {P : s_P} {d : Nat} {Q : s_O → Prop} {h : s_H} {kc ks : Nat} {x0 x1 x2 x3 x4 : Int}  (k : wr P d sw_c175 sw_h175 (28, [vi x0, vi x1, vi (Int.tmod (x2 * x3) 32003), vi x3, vi x4], [], h, kc, ks) Q)  (c1 : In3 (x2 * x3) := by first | omega | assumption | (simp only [mk_len, List.length_map]; omega) | decide) : wr P d sw_c175 sw_h175 (20, [vi x0, vi x1, vi x2, vi x3, vi x4], [], h, kc, ks) Q := by
  refine w_ld rfl rfl (Or.inl ⟨by decide, rfl⟩) ?_
  refine w_ld rfl rfl (Or.inl ⟨by decide, rfl⟩) ?_
  refine w_imul rfl ?_
  refine w_c32 rfl (by decide) 32003 (by decide) ?_
  refine w_irem rfl c1 (by decide) (by decide) ?_
  refine w_st (ls' := [vi x0, vi x1, vi (Int.tmod (x2 * x3) 32003), vi x3, vi x4]) rfl (Or.inl ⟨by decide, rfl⟩) rfl ?_
  exact k

theorem k175_28 {P : s_P} {d : Nat} {Q : s_O → Prop} {h : s_H} {kc ks : Nat} {x0 x1 x2 x3 x4 : Int}  (k : wr P d sw_c175 sw_h175 (7, [vi x0, vi x1, vi x2, vi (Int.tmod (x3 * x3) 32003), vi (zi 28 x4 1)], [], h, kc, ks) Q)  (c1 : In3 (x3 * x3) := by first | omega | assumption | (simp only [mk_len, List.length_map]; omega) | decide) : wr P d sw_c175 sw_h175 (28, [vi x0, vi x1, vi x2, vi x3, vi x4], [], h, kc, ks) Q := by
  refine w_ld rfl rfl (Or.inl ⟨by decide, rfl⟩) ?_
  refine w_ld rfl rfl (Or.inl ⟨by decide, rfl⟩) ?_
  refine w_imul rfl ?_
  refine w_c32 rfl (by decide) 32003 (by decide) ?_
  refine w_irem rfl c1 (by decide) (by decide) ?_
  refine w_st (ls' := [vi x0, vi x1, vi x2, vi (Int.tmod (x3 * x3) 32003), vi x4]) rfl (Or.inl ⟨by decide, rfl⟩) rfl ?_
  refine w_ld rfl rfl (Or.inl ⟨by decide, rfl⟩) ?_
  refine w_c32 rfl (by decide) 1 (by decide) ?_
  refine w_ib rfl (by decide) ?_
  refine w_st (ls' := [vi x0, vi x1, vi x2, vi (Int.tmod (x3 * x3) 32003), vi (zi 28 x4 1)]) rfl (Or.inl ⟨by decide, rfl⟩) rfl ?_
  refine w_goto rfl ?_
  exact k

theorem k175_45 {P : s_P} {d : Nat} {Q : s_O → Prop} {h : s_H} {kc ks : Nat} {x0 x1 x2 x3 x4 : Int}  (k : Q (.inl (some (vi x2)), h, kc, ks))   : wr P d sw_c175 sw_h175 (45, [vi x0, vi x1, vi x2, vi x3, vi x4], [], h, kc, ks) Q := by
  refine w_ld rfl rfl (Or.inl ⟨by decide, rfl⟩) ?_
  exact w_iret rfl k

/-! 176: FormulaWorks$Poly.reduceBy(LFormulaWorks$Poly;ILFormulaWorks$Poly;)V -/
theorem k176_0 {P : s_P} {d : Nat} {Q : s_O → Prop} {h : s_H} {kc ks : Nat} {r0 r1 : Term} {x2 : Int} {r3 t4 t5 t6 t7 : Term} {q2 : Nat} {f3 : List Term} {z5 : Int} (g4 : s_get h q2 = some (1, 4, f3)) (k1 : 0 ≤ z5 → wr P d sw_c176 sw_h176 (11, [r0, .index q2, vi x2, r3, t4, t5, t6, t7], [], h, kc, ks) Q) (k2 : ¬ 0 ≤ z5 → wr P d sw_c176 sw_h176 (7, [r0, .index q2, vi x2, r3, t4, t5, t6, t7], [], h, kc, ks) Q) (e_q2 : r1 = .index q2 := by first | rfl | assumption) (y1 : s_ty r1 = 3 := by first | rfl | assumption) (n6 : s_nth f3 1 = some (vi z5) := by first | rfl | assumption) (c7 : In3 z5 := by first | omega | assumption | (simp only [mk_len, List.length_map]; omega) | decide) : wr P d sw_c176 sw_h176 (0, [r0, r1, vi x2, r3, t4, t5, t6, t7], [], h, kc, ks) Q := by
  refine w_ld rfl rfl (Or.inr (Or.inr ⟨by decide, y1⟩)) ?_
  subst e_q2
  refine w_getf rfl g4 n6 ?_
  exact w_if1 rfl c7 k1 k2

theorem k176_7 {P : s_P} {d : Nat} {Q : s_O → Prop} {h : s_H} {kc ks : Nat} {r0 r1 : Term} {x2 : Int} {r3 t4 t5 t6 t7 : Term}  (k : wr P d sw_c176 sw_h176 (20, [r0, r1, vi x2, r3, t4, t5, t6, t7], [vi (-1)], h, kc, ks) Q)   : wr P d sw_c176 sw_h176 (7, [r0, r1, vi x2, r3, t4, t5, t6, t7], [], h, kc, ks) Q := by
  refine w_c32 rfl (by decide) (-1) (by decide) ?_
  refine w_goto rfl ?_
  exact k

theorem k176_11 {P : s_P} {d : Nat} {Q : s_O → Prop} {h : s_H} {kc ks : Nat} {r0 r1 : Term} {x2 : Int} {r3 t4 t5 t6 t7 : Term} {q2 : Nat} {f3 : List Term} {z5 : Int} {q8 : Nat} {f9 : List Term} {z11 : Int} (g4 : s_get h q2 = some (1, 4, f3)) (g10 : s_get h q8 = some (1, 4, f9)) (k : wr P d sw_c176 sw_h176 (20, [.index q2, .index q8, vi x2, r3, t4, t5, t6, t7], [vi (z5 - z11)], h, kc, ks) Q) (e_q2 : r0 = .index q2 := by first | rfl | assumption) (e_q8 : r1 = .index q8 := by first | rfl | assumption) (y1 : s_ty r0 = 3 := by first | rfl | assumption) (n6 : s_nth f3 1 = some (vi z5) := by first | rfl | assumption) (y7 : s_ty r1 = 3 := by first | rfl | assumption) (n12 : s_nth f9 1 = some (vi z11) := by first | rfl | assumption)  : wr P d sw_c176 sw_h176 (11, [r0, r1, vi x2, r3, t4, t5, t6, t7], [], h, kc, ks) Q := by
  refine w_ld rfl rfl (Or.inr (Or.inr ⟨by decide, y1⟩)) ?_
  subst e_q2
  refine w_getf rfl g4 n6 ?_
  refine w_ld rfl rfl (Or.inr (Or.inr ⟨by decide, y7⟩)) ?_
  subst e_q8
  refine w_getf rfl g10 n12 ?_
  refine w_isub rfl ?_
  exact k

theorem k176_20 {P : s_P} {d : Nat} {Q : s_O → Prop} {h : s_H} {kc ks : Nat} {r0 r1 : Term} {x2 : Int} {r3 t4 t5 t6 t7 : Term} {s0 : Int}  (k1 : s0 < 0 → wr P d sw_c176 sw_h176 (41, [r0, r1, vi x2, r3, vi s0, t5, t6, t7], [], h, kc, ks) Q) (k2 : ¬ s0 < 0 → wr P d sw_c176 sw_h176 (27, [r0, r1, vi x2, r3, vi s0, t5, t6, t7], [], h, kc, ks) Q) (y1 : s_ty r3 = 3 := by first | rfl | assumption) (c2 : In3 s0 := by first | omega | assumption | (simp only [mk_len, List.length_map]; omega) | decide) : wr P d sw_c176 sw_h176 (20, [r0, r1, vi x2, r3, t4, t5, t6, t7], [vi s0], h, kc, ks) Q := by
  refine w_st (ls' := [r0, r1, vi x2, r3, vi s0, t5, t6, t7]) rfl (Or.inl ⟨by decide, rfl⟩) (s_stK_r (pre := [r0, r1, vi x2]) y1) ?_
  refine w_ld rfl rfl (Or.inl ⟨by decide, rfl⟩) ?_
  exact w_if1 rfl c2 k1 k2

theorem k176_27 {P : s_P} {d : Nat} {Q : s_O → Prop} {h : s_H} {kc ks : Nat} {r0 r1 : Term} {x2 : Int} {r3 : Term} {x4 : Int} {t5 t6 t7 : Term}  (k1 : (r3 = .null) → wr P d sw_c176 sw_h176 (44, [r0, r1, vi x2, r3, vi x4, t5, t6, t7], [], h, kc, ks) Q) (k2 : ∀ q, r3 = .index q → wr P d sw_c176 sw_h176 (31, [r0, r1, vi x2, r3, vi x4, t5, t6, t7], [], h, kc, ks) Q) (y1 : s_ty r3 = 3 := by first | rfl | assumption)  : wr P d sw_c176 sw_h176 (27, [r0, r1, vi x2, r3, vi x4, t5, t6, t7], [], h, kc, ks) Q := by
  refine w_ld rfl rfl (Or.inr (Or.inr ⟨by decide, y1⟩)) ?_
  exact w_ifnull rfl k1 k2 y1

theorem k176_31 {P : s_P} {d : Nat} {Q : s_O → Prop} {h : s_H} {kc ks : Nat} {r0 r1 : Term} {x2 : Int} {r3 : Term} {x4 : Int} {t5 t6 t7 : Term} {q2 : Nat} {f3 : List Term} {v5 : Term} {q7 : Nat} {a8 : List Term} {tg10 : Nat} (g4 : s_get h q2 = some (1, 4, f3)) (g9 : s_get h q7 = some (0, tg10, a8)) (k1 : x4 < (a8.length : Int) → wr P d sw_c176 sw_h176 (44, [r0, r1, vi x2, .index q2, vi x4, t5, t6, t7], [], h, kc, ks) Q) (k2 : ¬ x4 < (a8.length : Int) → wr P d sw_c176 sw_h176 (41, [r0, r1, vi x2, .index q2, vi x4, t5, t6, t7], [], h, kc, ks) Q) (e_q2 : r3 = .index q2 := by first | rfl | assumption) (e_q7 : v5 = .index q7 := by first | rfl | assumption) (y1 : s_ty r3 = 3 := by first | rfl | assumption) (n6 : s_nth f3 0 = some v5 := by first | rfl | assumption) (c11 : In3 x4 := by first | omega | assumption | (simp only [mk_len, List.length_map]; omega) | decide) (c12 : In3 (a8.length : Int) := by first | omega | assumption | (simp only [mk_len, List.length_map]; omega) | decide) : wr P d sw_c176 sw_h176 (31, [r0, r1, vi x2, r3, vi x4, t5, t6, t7], [], h, kc, ks) Q := by
  refine w_ld rfl rfl (Or.inl ⟨by decide, rfl⟩) ?_
  refine w_ld rfl rfl (Or.inr (Or.inr ⟨by decide, y1⟩)) ?_
  subst e_q2
  refine w_getf rfl g4 n6 ?_
  subst e_q7
  refine w_alen rfl g9 (Or.inl rfl) ?_
  exact w_if2 rfl c11 c12 k1 k2

theorem k176_41 {P : s_P} {d : Nat} {Q : s_O → Prop} {h : s_H} {kc ks : Nat} {r0 r1 : Term} {x2 : Int} {r3 : Term} {x4 : Int} {t5 t6 t7 : Term}  (k : wr P d sw_c176 sw_h176 (44, [r0, r1, vi x2, r3, vi (-1), t5, t6, t7], [], h, kc, ks) Q) (y1 : s_ty r3 = 3 := by first | rfl | assumption)  : wr P d sw_c176 sw_h176 (41, [r0, r1, vi x2, r3, vi x4, t5, t6, t7], [], h, kc, ks) Q := by
  refine w_c32 rfl (by decide) (-1) (by decide) ?_
  refine w_st (ls' := [r0, r1, vi x2, r3, vi (-1), t5, t6, t7]) rfl (Or.inl ⟨by decide, rfl⟩) (s_stK_r (pre := [r0, r1, vi x2]) y1) ?_
  exact k

theorem k176_44 {P : s_P} {d : Nat} {Q : s_O → Prop} {h : s_H} {kc ks : Nat} {r0 r1 : Term} {x2 : Int} {r3 : Term} {x4 : Int} {t5 t6 t7 : Term}  (k : wr P d sw_c176 sw_h176 (48, [r0, r1, vi x2, r3, vi x4, vi x4, t6, t7], [], h, kc, ks) Q)   : wr P d sw_c176 sw_h176 (44, [r0, r1, vi x2, r3, vi x4, t5, t6, t7], [], h, kc, ks) Q := by
  refine w_ld rfl rfl (Or.inl ⟨by decide, rfl⟩) ?_
  refine w_st (ls' := [r0, r1, vi x2, r3, vi x4, vi x4, t6, t7]) rfl (Or.inl ⟨by decide, rfl⟩) rfl ?_
  exact k

theorem k176_48 {P : s_P} {d : Nat} {Q : s_O → Prop} {h : s_H} {kc ks : Nat} {r0 r1 : Term} {x2 : Int} {r3 : Term} {x4 x5 : Int} {t6 t7 : Term}  (k1 : x5 < 0 → wr P d sw_c176 sw_h176 (154, [r0, r1, vi x2, r3, vi x4, vi x5, t6, t7], [], h, kc, ks) Q) (k2 : ¬ x5 < 0 → wr P d sw_c176 sw_h176 (53, [r0, r1, vi x2, r3, vi x4, vi x5, t6, t7], [], h, kc, ks) Q)  (c1 : In3 x5 := by first | omega | assumption | (simp only [mk_len, List.length_map]; omega) | decide) : wr P d sw_c176 sw_h176 (48, [r0, r1, vi x2, r3, vi x4, vi x5, t6, t7], [], h, kc, ks) Q := by
  refine w_ld rfl rfl (Or.inl ⟨by decide, rfl⟩) ?_
  exact w_if1 rfl c1 k1 k2

theorem k176_53 {P : s_P} {d : Nat} {Q : s_O → Prop} {h : s_H} {kc ks : Nat} {r0 r1 : Term} {x2 : Int} {r3 : Term} {x4 x5 : Int} {t6 t7 : Term} {q2 : Nat} {f3 : List Term} {v5 : Term} {q8 : Nat} {f9 : List Term} {z11 : Int} {q13 : Nat} {a14 : List Int} (g4 : s_get h q2 = some (1, 4, f3)) (g10 : s_get h q8 = some (1, 4, f9)) (g15 : s_get h q13 = some (0, 0, a14.map vi)) (k1 : (r3 = .null) → wr P d sw_c176 sw_h176 (86, [.index q2, .index q8, vi x2, r3, vi x4, vi x5, vi (Int.tmod ((gi a14 (x5 + z11)) * x2) 32003), t7], [], h, kc, ks) Q) (k2 : ∀ q, r3 = .index q → wr P d sw_c176 sw_h176 (77, [.index q2, .index q8, vi x2, r3, vi x4, vi x5, vi (Int.tmod ((gi a14 (x5 + z11)) * x2) 32003), t7], [], h, kc, ks) Q) (e_q2 : r0 = .index q2 := by first | rfl | assumption) (e_q8 : r1 = .index q8 := by first | rfl | assumption) (e_q13 : v5 = .index q13 := by first | rfl | assumption) (y1 : s_ty r0 = 3 := by first | rfl | assumption) (n6 : s_nth f3 0 = some v5 := by first | rfl | assumption) (y7 : s_ty r1 = 3 := by first | rfl | assumption) (n12 : s_nth f9 1 = some (vi z11) := by first | rfl | assumption) (y20 : s_ty r3 = 3 := by first | rfl | assumption) (c16 : x5 + z11 < a14.length := by first | omega | assumption | (simp only [mk_len, List.length_map]; omega) | decide) (c17 : 0 ≤ x5 + z11 := by first | omega | assumption | (simp only [mk_len, List.length_map]; omega) | decide) (c18 : In3 (x5 + z11) := by first | omega | assumption | (simp only [mk_len, List.length_map]; omega) | decide) (c19 : In3 ((gi a14 (x5 + z11)) * x2) := by first | omega | assumption | (simp only [mk_len, List.length_map]; omega) | decide) : wr P d sw_c176 sw_h176 (53, [r0, r1, vi x2, r3, vi x4, vi x5, t6, t7], [], h, kc, ks) Q := by
  refine w_ld rfl rfl (Or.inr (Or.inr ⟨by decide, y1⟩)) ?_
  subst e_q2
  refine w_getf rfl g4 n6 ?_
  refine w_ld rfl rfl (Or.inl ⟨by decide, rfl⟩) ?_
  refine w_ld rfl rfl (Or.inr (Or.inr ⟨by decide, y7⟩)) ?_
  subst e_q8
  refine w_getf rfl g10 n12 ?_
  refine w_iadd rfl ?_
  subst e_q13
  refine w_iald rfl g15 (Or.inl rfl) c18 c17 c16 ?_
  refine w_ld rfl rfl (Or.inl ⟨by decide, rfl⟩) ?_
  refine w_imul rfl ?_
  refine w_c32 rfl (by decide) 32003 (by decide) ?_
  refine w_irem rfl c19 (by decide) (by decide) ?_
  refine w_st (ls' := [.index q2, .index q8, vi x2, r3, vi x4, vi x5, vi (Int.tmod ((gi a14 (x5 + z11)) * x2) 32003), t7]) rfl (Or.inl ⟨by decide, rfl⟩) rfl ?_
  refine w_ld rfl rfl (Or.inr (Or.inr ⟨by decide, y20⟩)) ?_
  exact w_ifnull rfl k1 k2 y20

theorem k176_77 {P : s_P} {d : Nat} {Q : s_O → Prop} {h : s_H} {kc ks : Nat} {r0 r1 : Term} {x2 : Int} {r3 : Term} {x4 x5 x6 : Int} {t7 : Term} {q2 : Nat} {f3 : List Term} {v5 : Term} {q7 : Nat} {a8 : List Int} (g4 : s_get h q2 = some (1, 4, f3)) (g9 : s_get h q7 = some (0, 0, a8.map vi)) (k : wr P d sw_c176 sw_h176 (86, [r0, r1, vi x2, .index q2, vi x4, vi x5, vi x6, t7], [], (hp h q7 (0, 0, (a8.set (Int.toNat (x5)) x6).map vi)), kc, ks) Q) (e_q2 : r3 = .index q2 := by first | rfl | assumption) (e_q7 : v5 = .index q7 := by first | rfl | assumption) (y1 : s_ty r3 = 3 := by first | rfl | assumption) (n6 : s_nth f3 0 = some v5 := by first | rfl | assumption) (c10 : x5 < a8.length := by first | omega | assumption | (simp only [mk_len, List.length_map]; omega) | decide) (c11 : 0 ≤ x5 := by first | omega | assumption | (simp only [mk_len, List.length_map]; omega) | decide) (c12 : In3 x5 := by first | omega | assumption | (simp only [mk_len, List.length_map]; omega) | decide) (c13 : 0 < q7 := by first | omega | assumption | (simp only [mk_len, List.length_map]; omega) | decide) : wr P d sw_c176 sw_h176 (77, [r0, r1, vi x2, r3, vi x4, vi x5, vi x6, t7], [], h, kc, ks) Q := by
  refine w_ld rfl rfl (Or.inr (Or.inr ⟨by decide, y1⟩)) ?_
  subst e_q2
  refine w_getf rfl g4 n6 ?_
  refine w_ld rfl rfl (Or.inl ⟨by decide, rfl⟩) ?_
  refine w_ld rfl rfl (Or.inl ⟨by decide, rfl⟩) ?_
  subst e_q7
  refine w_iast rfl g9 (Nat.ble_eq_true_of_le c13) c12 c11 c10 ?_
  exact k

theorem k176_86 {P : s_P} {d : Nat} {Q : s_O → Prop} {h : s_H} {kc ks : Nat} {r0 r1 : Term} {x2 : Int} {r3 : Term} {x4 x5 x6 : Int} {t7 : Term}  (k1 : x6 = 0 → wr P d sw_c176 sw_h176 (148, [r0, r1, vi x2, r3, vi x4, vi x5, vi x6, t7], [], h, kc, ks) Q) (k2 : ¬ x6 = 0 → wr P d sw_c176 sw_h176 (91, [r0, r1, vi x2, r3, vi x4, vi x5, vi x6, t7], [], h, kc, ks) Q)  (c1 : In3 x6 := by first | omega | assumption | (simp only [mk_len, List.length_map]; omega) | decide) : wr P d sw_c176 sw_h176 (86, [r0, r1, vi x2, r3, vi x4, vi x5, vi x6, t7], [], h, kc, ks) Q := by
  refine w_ld rfl rfl (Or.inl ⟨by decide, rfl⟩) ?_
  exact w_if1 rfl c1 k1 k2

theorem k176_91 {P : s_P} {d : Nat} {Q : s_O → Prop} {h : s_H} {kc ks : Nat} {r0 r1 : Term} {x2 : Int} {r3 : Term} {x4 x5 x6 : Int} {t7 : Term}  (k : wr P d sw_c176 sw_h176 (94, [r0, r1, vi x2, r3, vi x4, vi x5, vi x6, vi 0], [], h, kc, ks) Q)   : wr P d sw_c176 sw_h176 (91, [r0, r1, vi x2, r3, vi x4, vi x5, vi x6, t7], [], h, kc, ks) Q := by
  refine w_c32 rfl (by decide) 0 (by decide) ?_
  refine w_st (ls' := [r0, r1, vi x2, r3, vi x4, vi x5, vi x6, vi 0]) rfl (Or.inl ⟨by decide, rfl⟩) rfl ?_
  exact k

theorem k176_94 {P : s_P} {d : Nat} {Q : s_O → Prop} {h : s_H} {kc ks : Nat} {r0 r1 : Term} {x2 : Int} {r3 : Term} {x4 x5 x6 x7 : Int} {q2 : Nat} {f3 : List Term} {z5 : Int} (g4 : s_get h q2 = some (1, 4, f3)) (k1 : z5 < x7 → wr P d sw_c176 sw_h176 (148, [r0, .index q2, vi x2, r3, vi x4, vi x5, vi x6, vi x7], [], h, kc, ks) Q) (k2 : ¬ z5 < x7 → wr P d sw_c176 sw_h176 (103, [r0, .index q2, vi x2, r3, vi x4, vi x5, vi x6, vi x7], [], h, kc, ks) Q) (e_q2 : r1 = .index q2 := by first | rfl | assumption) (y1 : s_ty r1 = 3 := by first | rfl | assumption) (n6 : s_nth f3 1 = some (vi z5) := by first | rfl | assumption) (c7 : In3 x7 := by first | omega | assumption | (simp only [mk_len, List.length_map]; omega) | decide) (c8 : In3 z5 := by first | omega | assumption | (simp only [mk_len, List.length_map]; omega) | decide) : wr P d sw_c176 sw_h176 (94, [r0, r1, vi x2, r3, vi x4, vi x5, vi x6, vi x7], [], h, kc, ks) Q := by
  refine w_ld rfl rfl (Or.inl ⟨by decide, rfl⟩) ?_
  refine w_ld rfl rfl (Or.inr (Or.inr ⟨by decide, y1⟩)) ?_
  subst e_q2
  refine w_getf rfl g4 n6 ?_
  exact w_if2 rfl c7 c8 k1 k2

theorem k176_103 {P : s_P} {d : Nat} {Q : s_O → Prop} {h : s_H} {kc ks : Nat} {r0 r1 : Term} {x2 : Int} {r3 : Term} {x4 x5 x6 x7 : Int} {q2 : Nat} {f3 : List Term} {v5 : Term} {q7 : Nat} {a8 : List Int} {q14 : Nat} {f15 : List Term} {v17 : Term} {q19 : Nat} {a20 : List Int} (g4 : s_get h q2 = some (1, 4, f3)) (g9 : s_get h q7 = some (0, 0, a8.map vi)) (g16 : s_get h q14 = some (1, 4, f15)) (g21 : s_get h q19 = some (0, 0, a20.map vi)) (k : wr P d sw_c176 sw_h176 (94, [.index q2, .index q14, vi x2, r3, vi x4, vi x5, vi x6, vi (x7 + 1)], [], (hp h q7 (0, 0, (a8.set (Int.toNat (x5 + x7)) (Int.tmod ((gi a8 (x5 + x7)) + ((32003 - x6) * (gi a20 x7))) 32003)).map vi)), kc, ks) Q) (e_q2 : r0 = .index q2 := by first | rfl | assumption) (e_q7 : v5 = .index q7 := by first | rfl | assumption) (e_q14 : r1 = .index q14 := by first | rfl | assumption) (e_q19 : v17 = .index q19 := by first | rfl | assumption) (y1 : s_ty r0 = 3 := by first | rfl | assumption) (n6 : s_nth f3 0 = some v5 := by first | rfl | assumption) (y13 : s_ty r1 = 3 := by first | rfl | assumption) (n18 : s_nth f15 0 = some v17 := by first | rfl | assumption) (c10 : x5 + x7 < a8.length := by first | omega | assumption | (simp only [mk_len, List.length_map]; omega) | decide) (c11 : 0 ≤ x5 + x7 := by first | omega | assumption | (simp only [mk_len, List.length_map]; omega) | decide) (c12 : In3 (x5 + x7) := by first | omega | assumption | (simp only [mk_len, List.length_map]; omega) | decide) (c22 : x7 < a20.length := by first | omega | assumption | (simp only [mk_len, List.length_map]; omega) | decide) (c23 : 0 ≤ x7 := by first | omega | assumption | (simp only [mk_len, List.length_map]; omega) | decide) (c24 : In3 x7 := by first | omega | assumption | (simp only [mk_len, List.length_map]; omega) | decide) (c25 : In3 ((gi a8 (x5 + x7)) + ((32003 - x6) * (gi a20 x7))) := by first | omega | assumption | (simp only [mk_len, List.length_map]; omega) | decide) (c26 : 0 < q7 := by first | omega | assumption | (simp only [mk_len, List.length_map]; omega) | decide) : wr P d sw_c176 sw_h176 (103, [r0, r1, vi x2, r3, vi x4, vi x5, vi x6, vi x7], [], h, kc, ks) Q := by
  refine w_ld rfl rfl (Or.inr (Or.inr ⟨by decide, y1⟩)) ?_
  subst e_q2
  refine w_getf rfl g4 n6 ?_
  refine w_ld rfl rfl (Or.inl ⟨by decide, rfl⟩) ?_
  refine w_ld rfl rfl (Or.inl ⟨by decide, rfl⟩) ?_
  refine w_iadd rfl ?_
  refine w_ld rfl rfl (Or.inr (Or.inr ⟨by decide, rfl⟩)) ?_
  refine w_getf rfl g4 n6 ?_
  refine w_ld rfl rfl (Or.inl ⟨by decide, rfl⟩) ?_
  refine w_ld rfl rfl (Or.inl ⟨by decide, rfl⟩) ?_
  refine w_iadd rfl ?_
  subst e_q7
  refine w_iald rfl g9 (Or.inl rfl) c12 c11 c10 ?_
  refine w_c32 rfl (by decide) 32003 (by decide) ?_
  refine w_ld rfl rfl (Or.inl ⟨by decide, rfl⟩) ?_
  refine w_isub rfl ?_
  refine w_ld rfl rfl (Or.inr (Or.inr ⟨by decide, y13⟩)) ?_
  subst e_q14
  refine w_getf rfl g16 n18 ?_
  refine w_ld rfl rfl (Or.inl ⟨by decide, rfl⟩) ?_
  subst e_q19
  refine w_iald rfl g21 (Or.inl rfl) c24 c23 c22 ?_
  refine w_imul rfl ?_
  refine w_iadd rfl ?_
  refine w_c32 rfl (by decide) 32003 (by decide) ?_
  refine w_irem rfl c25 (by decide) (by decide) ?_
  refine w_iast rfl g9 (Nat.ble_eq_true_of_le c26) c12 c11 c10 ?_
  refine w_iinc (ls' := [.index q2, .index q14, vi x2, r3, vi x4, vi x5, vi x6, vi (x7 + 1)]) rfl rfl 1 (by decide) rfl ?_
  refine w_goto rfl ?_
  exact k

theorem k176_148 {P : s_P} {d : Nat} {Q : s_O → Prop} {h : s_H} {kc ks : Nat} {r0 r1 : Term} {x2 : Int} {r3 : Term} {x4 x5 x6 : Int} {t7 : Term}  (k : wr P d sw_c176 sw_h176 (48, [r0, r1, vi x2, r3, vi x4, vi (x5 + (-1)), vi x6, t7], [], h, kc, ks) Q)   : wr P d sw_c176 sw_h176 (148, [r0, r1, vi x2, r3, vi x4, vi x5, vi x6, t7], [], h, kc, ks) Q := by
  refine w_iinc (ls' := [r0, r1, vi x2, r3, vi x4, vi (x5 + (-1)), vi x6, t7]) rfl rfl (-1) (by decide) rfl ?_
  refine w_goto rfl ?_
  exact k

theorem k176_154 {P : s_P} {d : Nat} {Q : s_O → Prop} {h : s_H} {kc ks : Nat} {r0 r1 : Term} {x2 : Int} {r3 : Term} {x4 x5 : Int} {t6 t7 : Term}  (k1 : (r3 = .null) → wr P d sw_c176 sw_h176 (164, [r0, r1, vi x2, r3, vi x4, vi x5, t6, t7], [], h, kc, ks) Q) (k2 : ∀ q, r3 = .index q → wr P d sw_c176 sw_h176 (158, [r0, r1, vi x2, r3, vi x4, vi x5, t6, t7], [], h, kc, ks) Q) (y1 : s_ty r3 = 3 := by first | rfl | assumption)  : wr P d sw_c176 sw_h176 (154, [r0, r1, vi x2, r3, vi x4, vi x5, t6, t7], [], h, kc, ks) Q := by
  refine w_ld rfl rfl (Or.inr (Or.inr ⟨by decide, y1⟩)) ?_
  exact w_ifnull rfl k1 k2 y1

theorem k176_158 {P : s_P} {d : Nat} {Q : s_O → Prop} {h : s_H} {kc ks : Nat} {r0 r1 : Term} {x2 : Int} {r3 : Term} {x4 x5 : Int} {t6 t7 : Term} {q2 : Nat} {f3 : List Term} (g4 : s_get h q2 = some (1, 4, f3)) (k : wr P d sw_c176 sw_h176 (164, [r0, r1, vi x2, .index q2, vi x4, vi x5, t6, t7], [], (hp h q2 (1, 4, f3.set 1 (vi x4))), kc, ks) Q) (e_q2 : r3 = .index q2 := by first | rfl | assumption) (y1 : s_ty r3 = 3 := by first | rfl | assumption) (l5 : 1 < f3.length := by first | exact Nat.le_of_ble_eq_true rfl | omega | assumption) (c6 : 0 < q2 := by first | omega | assumption | (simp only [mk_len, List.length_map]; omega) | decide) : wr P d sw_c176 sw_h176 (158, [r0, r1, vi x2, r3, vi x4, vi x5, t6, t7], [], h, kc, ks) Q := by
  refine w_ld rfl rfl (Or.inr (Or.inr ⟨by decide, y1⟩)) ?_
  refine w_ld rfl rfl (Or.inl ⟨by decide, rfl⟩) ?_
  subst e_q2
  refine w_putf rfl g4 (Nat.ble_eq_true_of_le c6) rfl (Nat.ble_eq_true_of_le l5) ?_
  exact k

theorem k176_164 {P : s_P} {d : Nat} {Q : s_O → Prop} {h : s_H} {kc ks : Nat} {r0 r1 : Term} {x2 : Int} {r3 : Term} {x4 x5 : Int} {t6 t7 : Term} {q2 : Nat} {f3 : List Term} {z5 : Int} (g4 : s_get h q2 = some (1, 4, f3)) (k1 : z5 < 0 → wr P d sw_c176 sw_h176 (196, [.index q2, r1, vi x2, r3, vi x4, vi x5, t6, t7], [], h, kc, ks) Q) (k2 : ¬ z5 < 0 → wr P d sw_c176 sw_h176 (171, [.index q2, r1, vi x2, r3, vi x4, vi x5, t6, t7], [], h, kc, ks) Q) (e_q2 : r0 = .index q2 := by first | rfl | assumption) (y1 : s_ty r0 = 3 := by first | rfl | assumption) (n6 : s_nth f3 1 = some (vi z5) := by first | rfl | assumption) (c7 : In3 z5 := by first | omega | assumption | (simp only [mk_len, List.length_map]; omega) | decide) : wr P d sw_c176 sw_h176 (164, [r0, r1, vi x2, r3, vi x4, vi x5, t6, t7], [], h, kc, ks) Q := by
  refine w_ld rfl rfl (Or.inr (Or.inr ⟨by decide, y1⟩)) ?_
  subst e_q2
  refine w_getf rfl g4 n6 ?_
  exact w_if1 rfl c7 k1 k2

theorem k176_171 {P : s_P} {d : Nat} {Q : s_O → Prop} {h : s_H} {kc ks : Nat} {r0 r1 : Term} {x2 : Int} {r3 : Term} {x4 x5 : Int} {t6 t7 : Term} {q2 : Nat} {f3 : List Term} {v5 : Term} {z7 : Int} {q9 : Nat} {a10 : List Int} (g4 : s_get h q2 = some (1, 4, f3)) (g11 : s_get h q9 = some (0, 0, a10.map vi)) (k1 : gi a10 z7 ≠ 0 → wr P d sw_c176 sw_h176 (196, [.index q2, r1, vi x2, r3, vi x4, vi x5, t6, t7], [], h, kc, ks) Q) (k2 : ¬ gi a10 z7 ≠ 0 → wr P d sw_c176 sw_h176 (183, [.index q2, r1, vi x2, r3, vi x4, vi x5, t6, t7], [], h, kc, ks) Q) (e_q2 : r0 = .index q2 := by first | rfl | assumption) (e_q9 : v5 = .index q9 := by first | rfl | assumption) (y1 : s_ty r0 = 3 := by first | rfl | assumption) (n6 : s_nth f3 0 = some v5 := by first | rfl | assumption) (n8 : s_nth f3 1 = some (vi z7) := by first | rfl | assumption) (c12 : z7 < a10.length := by first | omega | assumption | (simp only [mk_len, List.length_map]; omega) | decide) (c13 : 0 ≤ z7 := by first | omega | assumption | (simp only [mk_len, List.length_map]; omega) | decide) (c14 : In3 z7 := by first | omega | assumption | (simp only [mk_len, List.length_map]; omega) | decide) (c15 : In3 (gi a10 z7) := by first | omega | assumption | (simp only [mk_len, List.length_map]; omega) | decide) : wr P d sw_c176 sw_h176 (171, [r0, r1, vi x2, r3, vi x4, vi x5, t6, t7], [], h, kc, ks) Q := by
  refine w_ld rfl rfl (Or.inr (Or.inr ⟨by decide, y1⟩)) ?_
  subst e_q2
  refine w_getf rfl g4 n6 ?_
  refine w_ld rfl rfl (Or.inr (Or.inr ⟨by decide, rfl⟩)) ?_
  refine w_getf rfl g4 n8 ?_
  subst e_q9
  refine w_iald rfl g11 (Or.inl rfl) c14 c13 c12 ?_
  exact w_if1 rfl c15 k1 k2

theorem k176_183 {P : s_P} {d : Nat} {Q : s_O → Prop} {h : s_H} {kc ks : Nat} {r0 r1 : Term} {x2 : Int} {r3 : Term} {x4 x5 : Int} {t6 t7 : Term} {q2 : Nat} {f3 : List Term} {z5 : Int} (g4 : s_get h q2 = some (1, 4, f3)) (k : wr P d sw_c176 sw_h176 (164, [.index q2, r1, vi x2, r3, vi x4, vi x5, t6, t7], [], (hp h q2 (1, 4, f3.set 1 (vi (z5 - 1)))), kc, ks) Q) (e_q2 : r0 = .index q2 := by first | rfl | assumption) (y1 : s_ty r0 = 3 := by first | rfl | assumption) (n6 : s_nth f3 1 = some (vi z5) := by first | rfl | assumption) (l7 : 1 < f3.length := by first | exact Nat.le_of_ble_eq_true rfl | omega | assumption) (c8 : 0 < q2 := by first | omega | assumption | (simp only [mk_len, List.length_map]; omega) | decide) : wr P d sw_c176 sw_h176 (183, [r0, r1, vi x2, r3, vi x4, vi x5, t6, t7], [], h, kc, ks) Q := by
  refine w_ld rfl rfl (Or.inr (Or.inr ⟨by decide, y1⟩)) ?_
  refine w_dup rfl (by rw [y1]; rfl) ?_
  subst e_q2
  refine w_getf rfl g4 n6 ?_
  refine w_c32 rfl (by decide) 1 (by decide) ?_
  refine w_isub rfl ?_
  refine w_putf rfl g4 (Nat.ble_eq_true_of_le c8) rfl (Nat.ble_eq_true_of_le l7) ?_
  refine w_goto rfl ?_
  exact k

theorem k176_196 {P : s_P} {d : Nat} {Q : s_O → Prop} {h : s_H} {kc ks : Nat} {r0 r1 : Term} {x2 : Int} {r3 : Term} {x4 x5 : Int} {t6 t7 : Term}  (k : Q (.inl none, h, kc, ks))   : wr P d sw_c176 sw_h176 (196, [r0, r1, vi x2, r3, vi x4, vi x5, t6, t7], [], h, kc, ks) Q := by
  exact w_ret rfl k

/-! 177: FormulaWorks$Poly.sameAs(LFormulaWorks$Poly;)Z -/
theorem k177_0 {P : s_P} {d : Nat} {Q : s_O → Prop} {h : s_H} {kc ks : Nat} {r0 r1 t2 : Term} {q2 : Nat} {f3 : List Term} {z5 : Int} {q8 : Nat} {f9 : List Term} {z11 : Int} (g4 : s_get h q2 = some (1, 4, f3)) (g10 : s_get h q8 = some (1, 4, f9)) (k1 : z5 = z11 → wr P d sw_c177 sw_h177 (13, [.index q2, .index q8, t2], [], h, kc, ks) Q) (k2 : ¬ z5 = z11 → wr P d sw_c177 sw_h177 (11, [.index q2, .index q8, t2], [], h, kc, ks) Q) (e_q2 : r0 = .index q2 := by first | rfl | assumption) (e_q8 : r1 = .index q8 := by first | rfl | assumption) (y1 : s_ty r0 = 3 := by first | rfl | assumption) (n6 : s_nth f3 1 = some (vi z5) := by first | rfl | assumption) (y7 : s_ty r1 = 3 := by first | rfl | assumption) (n12 : s_nth f9 1 = some (vi z11) := by first | rfl | assumption) (c13 : In3 z5 := by first | omega | assumption | (simp only [mk_len, List.length_map]; omega) | decide) (c14 : In3 z11 := by first | omega | assumption | (simp only [mk_len, List.length_map]; omega) | decide) : wr P d sw_c177 sw_h177 (0, [r0, r1, t2], [], h, kc, ks) Q := by
  refine w_ld rfl rfl (Or.inr (Or.inr ⟨by decide, y1⟩)) ?_
  subst e_q2
  refine w_getf rfl g4 n6 ?_
  refine w_ld rfl rfl (Or.inr (Or.inr ⟨by decide, y7⟩)) ?_
  subst e_q8
  refine w_getf rfl g10 n12 ?_
  exact w_if2 rfl c13 c14 k1 k2

theorem k177_11 {P : s_P} {d : Nat} {Q : s_O → Prop} {h : s_H} {kc ks : Nat} {r0 r1 t2 : Term}  (k : Q (.inl (some (vi 0)), h, kc, ks))   : wr P d sw_c177 sw_h177 (11, [r0, r1, t2], [], h, kc, ks) Q := by
  refine w_c32 rfl (by decide) 0 (by decide) ?_
  exact w_zret rfl (by decide) k

theorem k177_13 {P : s_P} {d : Nat} {Q : s_O → Prop} {h : s_H} {kc ks : Nat} {r0 r1 t2 : Term}  (k : wr P d sw_c177 sw_h177 (15, [r0, r1, vi 0], [], h, kc, ks) Q) (y1 : s_ty r1 = 3 := by first | rfl | assumption)  : wr P d sw_c177 sw_h177 (13, [r0, r1, t2], [], h, kc, ks) Q := by
  refine w_c32 rfl (by decide) 0 (by decide) ?_
  refine w_st (ls' := [r0, r1, vi 0]) rfl (Or.inl ⟨by decide, rfl⟩) (s_stK_r (pre := [r0]) y1) ?_
  exact k

theorem k177_15 {P : s_P} {d : Nat} {Q : s_O → Prop} {h : s_H} {kc ks : Nat} {r0 r1 : Term} {x2 : Int} {q2 : Nat} {f3 : List Term} {z5 : Int} (g4 : s_get h q2 = some (1, 4, f3)) (k1 : z5 < x2 → wr P d sw_c177 sw_h177 (46, [.index q2, r1, vi x2], [], h, kc, ks) Q) (k2 : ¬ z5 < x2 → wr P d sw_c177 sw_h177 (23, [.index q2, r1, vi x2], [], h, kc, ks) Q) (e_q2 : r0 = .index q2 := by first | rfl | assumption) (y1 : s_ty r0 = 3 := by first | rfl | assumption) (n6 : s_nth f3 1 = some (vi z5) := by first | rfl | assumption) (c7 : In3 x2 := by first | omega | assumption | (simp only [mk_len, List.length_map]; omega) | decide) (c8 : In3 z5 := by first | omega | assumption | (simp only [mk_len, List.length_map]; omega) | decide) : wr P d sw_c177 sw_h177 (15, [r0, r1, vi x2], [], h, kc, ks) Q := by
  refine w_ld rfl rfl (Or.inl ⟨by decide, rfl⟩) ?_
  refine w_ld rfl rfl (Or.inr (Or.inr ⟨by decide, y1⟩)) ?_
  subst e_q2
  refine w_getf rfl g4 n6 ?_
  exact w_if2 rfl c7 c8 k1 k2

theorem k177_23 {P : s_P} {d : Nat} {Q : s_O → Prop} {h : s_H} {kc ks : Nat} {r0 r1 : Term} {x2 : Int} {q2 : Nat} {f3 : List Term} {v5 : Term} {q7 : Nat} {a8 : List Int} {q14 : Nat} {f15 : List Term} {v17 : Term} {q19 : Nat} {a20 : List Int} (g4 : s_get h q2 = some (1, 4, f3)) (g9 : s_get h q7 = some (0, 0, a8.map vi)) (g16 : s_get h q14 = some (1, 4, f15)) (g21 : s_get h q19 = some (0, 0, a20.map vi)) (k1 : gi a8 x2 = gi a20 x2 → wr P d sw_c177 sw_h177 (40, [.index q2, .index q14, vi x2], [], h, kc, ks) Q) (k2 : ¬ gi a8 x2 = gi a20 x2 → wr P d sw_c177 sw_h177 (38, [.index q2, .index q14, vi x2], [], h, kc, ks) Q) (e_q2 : r0 = .index q2 := by first | rfl | assumption) (e_q7 : v5 = .index q7 := by first | rfl | assumption) (e_q14 : r1 = .index q14 := by first | rfl | assumption) (e_q19 : v17 = .index q19 := by first | rfl | assumption) (y1 : s_ty r0 = 3 := by first | rfl | assumption) (n6 : s_nth f3 0 = some v5 := by first | rfl | assumption) (y13 : s_ty r1 = 3 := by first | rfl | assumption) (n18 : s_nth f15 0 = some v17 := by first | rfl | assumption) (c10 : x2 < a8.length := by first | omega | assumption | (simp only [mk_len, List.length_map]; omega) | decide) (c11 : 0 ≤ x2 := by first | omega | assumption | (simp only [mk_len, List.length_map]; omega) | decide) (c12 : In3 x2 := by first | omega | assumption | (simp only [mk_len, List.length_map]; omega) | decide) (c22 : x2 < a20.length := by first | omega | assumption | (simp only [mk_len, List.length_map]; omega) | decide) (c23 : In3 (gi a8 x2) := by first | omega | assumption | (simp only [mk_len, List.length_map]; omega) | decide) (c24 : In3 (gi a20 x2) := by first | omega | assumption | (simp only [mk_len, List.length_map]; omega) | decide) : wr P d sw_c177 sw_h177 (23, [r0, r1, vi x2], [], h, kc, ks) Q := by
  refine w_ld rfl rfl (Or.inr (Or.inr ⟨by decide, y1⟩)) ?_
  subst e_q2
  refine w_getf rfl g4 n6 ?_
  refine w_ld rfl rfl (Or.inl ⟨by decide, rfl⟩) ?_
  subst e_q7
  refine w_iald rfl g9 (Or.inl rfl) c12 c11 c10 ?_
  refine w_ld rfl rfl (Or.inr (Or.inr ⟨by decide, y13⟩)) ?_
  subst e_q14
  refine w_getf rfl g16 n18 ?_
  refine w_ld rfl rfl (Or.inl ⟨by decide, rfl⟩) ?_
  subst e_q19
  refine w_iald rfl g21 (Or.inl rfl) c12 c11 c22 ?_
  exact w_if2 rfl c23 c24 k1 k2

theorem k177_38 {P : s_P} {d : Nat} {Q : s_O → Prop} {h : s_H} {kc ks : Nat} {r0 r1 : Term} {x2 : Int}  (k : Q (.inl (some (vi 0)), h, kc, ks))   : wr P d sw_c177 sw_h177 (38, [r0, r1, vi x2], [], h, kc, ks) Q := by
  refine w_c32 rfl (by decide) 0 (by decide) ?_
  exact w_zret rfl (by decide) k

theorem k177_40 {P : s_P} {d : Nat} {Q : s_O → Prop} {h : s_H} {kc ks : Nat} {r0 r1 : Term} {x2 : Int}  (k : wr P d sw_c177 sw_h177 (15, [r0, r1, vi (x2 + 1)], [], h, kc, ks) Q) (y1 : s_ty r1 = 3 := by first | rfl | assumption)  : wr P d sw_c177 sw_h177 (40, [r0, r1, vi x2], [], h, kc, ks) Q := by
  refine w_iinc (ls' := [r0, r1, vi (x2 + 1)]) rfl rfl 1 (by decide) (s_stK_r (pre := [r0]) y1) ?_
  refine w_goto rfl ?_
  exact k

theorem k177_46 {P : s_P} {d : Nat} {Q : s_O → Prop} {h : s_H} {kc ks : Nat} {r0 r1 : Term} {x2 : Int}  (k : Q (.inl (some (vi 1)), h, kc, ks))   : wr P d sw_c177 sw_h177 (46, [r0, r1, vi x2], [], h, kc, ks) Q := by
  refine w_c32 rfl (by decide) 1 (by decide) ?_
  exact w_zret rfl (by decide) k

/-! 178: FormulaWorks$Poly.scale(I)V -/
theorem k178_0 {P : s_P} {d : Nat} {Q : s_O → Prop} {h : s_H} {kc ks : Nat} {r0 : Term} {x1 : Int} {t2 : Term}  (k1 : x1 ≠ 0 → wr P d sw_c178 sw_h178 (9, [r0, vi x1, t2], [], h, kc, ks) Q) (k2 : ¬ x1 ≠ 0 → wr P d sw_c178 sw_h178 (4, [r0, vi x1, t2], [], h, kc, ks) Q)  (c1 : In3 x1 := by first | omega | assumption | (simp only [mk_len, List.length_map]; omega) | decide) : wr P d sw_c178 sw_h178 (0, [r0, vi x1, t2], [], h, kc, ks) Q := by
  refine w_ld rfl rfl (Or.inl ⟨by decide, rfl⟩) ?_
  exact w_if1 rfl c1 k1 k2

theorem k178_4 {P : s_P} {d : Nat} {Q : s_O → Prop} {h : s_H} {kc ks : Nat} {r0 : Term} {x1 : Int} {t2 : Term} {q2 : Nat} {f3 : List Term} (g4 : s_get h q2 = some (1, 4, f3)) (k : wr P d sw_c178 sw_h178 (9, [.index q2, vi x1, t2], [], (hp h q2 (1, 4, f3.set 1 (vi (-1)))), kc, ks) Q) (e_q2 : r0 = .index q2 := by first | rfl | assumption) (y1 : s_ty r0 = 3 := by first | rfl | assumption) (l5 : 1 < f3.length := by first | exact Nat.le_of_ble_eq_true rfl | omega | assumption) (c6 : 0 < q2 := by first | omega | assumption | (simp only [mk_len, List.length_map]; omega) | decide) : wr P d sw_c178 sw_h178 (4, [r0, vi x1, t2], [], h, kc, ks) Q := by
  refine w_ld rfl rfl (Or.inr (Or.inr ⟨by decide, y1⟩)) ?_
  refine w_c32 rfl (by decide) (-1) (by decide) ?_
  subst e_q2
  refine w_putf rfl g4 (Nat.ble_eq_true_of_le c6) rfl (Nat.ble_eq_true_of_le l5) ?_
  exact k

theorem k178_9 {P : s_P} {d : Nat} {Q : s_O → Prop} {h : s_H} {kc ks : Nat} {r0 : Term} {x1 : Int} {t2 : Term}  (k : wr P d sw_c178 sw_h178 (11, [r0, vi x1, vi 0], [], h, kc, ks) Q)   : wr P d sw_c178 sw_h178 (9, [r0, vi x1, t2], [], h, kc, ks) Q := by
  refine w_c32 rfl (by decide) 0 (by decide) ?_
  refine w_st (ls' := [r0, vi x1, vi 0]) rfl (Or.inl ⟨by decide, rfl⟩) rfl ?_
  exact k

theorem k178_11 {P : s_P} {d : Nat} {Q : s_O → Prop} {h : s_H} {kc ks : Nat} {r0 : Term} {x1 x2 : Int} {q2 : Nat} {f3 : List Term} {z5 : Int} (g4 : s_get h q2 = some (1, 4, f3)) (k1 : z5 < x2 → wr P d sw_c178 sw_h178 (43, [.index q2, vi x1, vi x2], [], h, kc, ks) Q) (k2 : ¬ z5 < x2 → wr P d sw_c178 sw_h178 (19, [.index q2, vi x1, vi x2], [], h, kc, ks) Q) (e_q2 : r0 = .index q2 := by first | rfl | assumption) (y1 : s_ty r0 = 3 := by first | rfl | assumption) (n6 : s_nth f3 1 = some (vi z5) := by first | rfl | assumption) (c7 : In3 x2 := by first | omega | assumption | (simp only [mk_len, List.length_map]; omega) | decide) (c8 : In3 z5 := by first | omega | assumption | (simp only [mk_len, List.length_map]; omega) | decide) : wr P d sw_c178 sw_h178 (11, [r0, vi x1, vi x2], [], h, kc, ks) Q := by
  refine w_ld rfl rfl (Or.inl ⟨by decide, rfl⟩) ?_
  refine w_ld rfl rfl (Or.inr (Or.inr ⟨by decide, y1⟩)) ?_
  subst e_q2
  refine w_getf rfl g4 n6 ?_
  exact w_if2 rfl c7 c8 k1 k2

theorem k178_19 {P : s_P} {d : Nat} {Q : s_O → Prop} {h : s_H} {kc ks : Nat} {r0 : Term} {x1 x2 : Int} {q2 : Nat} {f3 : List Term} {v5 : Term} {q7 : Nat} {a8 : List Int} (g4 : s_get h q2 = some (1, 4, f3)) (g9 : s_get h q7 = some (0, 0, a8.map vi)) (k : wr P d sw_c178 sw_h178 (11, [.index q2, vi x1, vi (x2 + 1)], [], (hp h q7 (0, 0, (a8.set (Int.toNat (x2)) (Int.tmod ((gi a8 x2) * x1) 32003)).map vi)), kc, ks) Q) (e_q2 : r0 = .index q2 := by first | rfl | assumption) (e_q7 : v5 = .index q7 := by first | rfl | assumption) (y1 : s_ty r0 = 3 := by first | rfl | assumption) (n6 : s_nth f3 0 = some v5 := by first | rfl | assumption) (c10 : x2 < a8.length := by first | omega | assumption | (simp only [mk_len, List.length_map]; omega) | decide) (c11 : 0 ≤ x2 := by first | omega | assumption | (simp only [mk_len, List.length_map]; omega) | decide) (c12 : In3 x2 := by first | omega | assumption | (simp only [mk_len, List.length_map]; omega) | decide) (c13 : In3 ((gi a8 x2) * x1) := by first | omega | assumption | (simp only [mk_len, List.length_map]; omega) | decide) (c14 : 0 < q7 := by first | omega | assumption | (simp only [mk_len, List.length_map]; omega) | decide) : wr P d sw_c178 sw_h178 (19, [r0, vi x1, vi x2], [], h, kc, ks) Q := by
  refine w_ld rfl rfl (Or.inr (Or.inr ⟨by decide, y1⟩)) ?_
  subst e_q2
  refine w_getf rfl g4 n6 ?_
  refine w_ld rfl rfl (Or.inl ⟨by decide, rfl⟩) ?_
  refine w_ld rfl rfl (Or.inr (Or.inr ⟨by decide, rfl⟩)) ?_
  refine w_getf rfl g4 n6 ?_
  refine w_ld rfl rfl (Or.inl ⟨by decide, rfl⟩) ?_
  subst e_q7
  refine w_iald rfl g9 (Or.inl rfl) c12 c11 c10 ?_
  refine w_ld rfl rfl (Or.inl ⟨by decide, rfl⟩) ?_
  refine w_imul rfl ?_
  refine w_c32 rfl (by decide) 32003 (by decide) ?_
  refine w_irem rfl c13 (by decide) (by decide) ?_
  refine w_iast rfl g9 (Nat.ble_eq_true_of_le c14) c12 c11 c10 ?_
  refine w_iinc (ls' := [.index q2, vi x1, vi (x2 + 1)]) rfl rfl 1 (by decide) rfl ?_
  refine w_goto rfl ?_
  exact k

theorem k178_43 {P : s_P} {d : Nat} {Q : s_O → Prop} {h : s_H} {kc ks : Nat} {r0 : Term} {x1 x2 : Int}  (k : Q (.inl none, h, kc, ks))   : wr P d sw_c178 sw_h178 (43, [r0, vi x1, vi x2], [], h, kc, ks) Q := by
  exact w_ret rfl k

/-! 179: FormulaWorks$Poly.setCopy(LFormulaWorks$Poly;)V -/
theorem k179_0 {P : s_P} {d : Nat} {Q : s_O → Prop} {h : s_H} {kc ks : Nat} {r0 r1 t2 : Term} {q3 : Nat} {f4 : List Term} {z6 : Int} {q8 : Nat} {f9 : List Term} {v11 : Term} {q13 : Nat} {a14 : List Term} {tg16 : Nat} (g5 : s_get h q3 = some (1, 4, f4)) (g10 : s_get h q8 = some (1, 4, f9)) (g15 : s_get h q13 = some (0, tg16, a14)) (k1 : (a14.length : Int) ≤ z6 → wr P d sw_c179 sw_h179 (20, [.index q8, .index q3, t2], [.index q8], h, kc, ks) Q) (k2 : ¬ (a14.length : Int) ≤ z6 → wr P d sw_c179 sw_h179 (13, [.index q8, .index q3, t2], [.index q8], h, kc, ks) Q) (e_q3 : r1 = .index q3 := by first | rfl | assumption) (e_q8 : r0 = .index q8 := by first | rfl | assumption) (e_q13 : v11 = .index q13 := by first | rfl | assumption) (y1 : s_ty r0 = 3 := by first | rfl | assumption) (y2 : s_ty r1 = 3 := by first | rfl | assumption) (n7 : s_nth f4 1 = some (vi z6) := by first | rfl | assumption) (n12 : s_nth f9 0 = some v11 := by first | rfl | assumption) (c17 : In3 z6 := by first | omega | assumption | (simp only [mk_len, List.length_map]; omega) | decide) (c18 : In3 (a14.length : Int) := by first | omega | assumption | (simp only [mk_len, List.length_map]; omega) | decide) : wr P d sw_c179 sw_h179 (0, [r0, r1, t2], [], h, kc, ks) Q := by
  refine w_ld rfl rfl (Or.inr (Or.inr ⟨by decide, y1⟩)) ?_
  refine w_ld rfl rfl (Or.inr (Or.inr ⟨by decide, y2⟩)) ?_
  subst e_q3
  refine w_getf rfl g5 n7 ?_
  refine w_ld rfl rfl (Or.inr (Or.inr ⟨by decide, y1⟩)) ?_
  subst e_q8
  refine w_getf rfl g10 n12 ?_
  subst e_q13
  refine w_alen rfl g15 (Or.inl rfl) ?_
  exact w_if2 rfl c17 c18 k1 k2

theorem k179_13 {P : s_P} {d : Nat} {Q : s_O → Prop} {h : s_H} {kc ks : Nat} {r0 r1 t2 s0 : Term} {q2 : Nat} {f3 : List Term} {z5 : Int} (g4 : s_get h q2 = some (1, 4, f3)) (k : wr P d sw_c179 sw_h179 (21, [r0, .index q2, t2], [vi z5, s0], h, kc, ks) Q) (e_q2 : r1 = .index q2 := by first | rfl | assumption) (y1 : s_ty r1 = 3 := by first | rfl | assumption) (n6 : s_nth f3 1 = some (vi z5) := by first | rfl | assumption)  : wr P d sw_c179 sw_h179 (13, [r0, r1, t2], [s0], h, kc, ks) Q := by
  refine w_ld rfl rfl (Or.inr (Or.inr ⟨by decide, y1⟩)) ?_
  subst e_q2
  refine w_getf rfl g4 n6 ?_
  refine w_goto rfl ?_
  exact k

theorem k179_20 {P : s_P} {d : Nat} {Q : s_O → Prop} {h : s_H} {kc ks : Nat} {r0 r1 t2 s0 : Term}  (k : wr P d sw_c179 sw_h179 (21, [r0, r1, t2], [vi (-1), s0], h, kc, ks) Q)   : wr P d sw_c179 sw_h179 (20, [r0, r1, t2], [s0], h, kc, ks) Q := by
  refine w_c32 rfl (by decide) (-1) (by decide) ?_
  exact k

theorem k179_21 {P : s_P} {d : Nat} {Q : s_O → Prop} {h : s_H} {kc ks : Nat} {r0 r1 t2 s0 : Term} {s1 : Int} {q1 : Nat} {f2 : List Term} (g3 : s_get h q1 = some (1, 4, f2)) (k : wr P d sw_c179 sw_h179 (26, [r0, r1, vi 0], [], (hp h q1 (1, 4, f2.set 1 (vi s1))), kc, ks) Q) (e_q1 : s0 = .index q1 := by first | rfl | assumption) (l4 : 1 < f2.length := by first | exact Nat.le_of_ble_eq_true rfl | omega | assumption) (y6 : s_ty r1 = 3 := by first | rfl | assumption) (c5 : 0 < q1 := by first | omega | assumption | (simp only [mk_len, List.length_map]; omega) | decide) : wr P d sw_c179 sw_h179 (21, [r0, r1, t2], [vi s1, s0], h, kc, ks) Q := by
  subst e_q1
  refine w_putf rfl g3 (Nat.ble_eq_true_of_le c5) rfl (Nat.ble_eq_true_of_le l4) ?_
  refine w_c32 rfl (by decide) 0 (by decide) ?_
  refine w_st (ls' := [r0, r1, vi 0]) rfl (Or.inl ⟨by decide, rfl⟩) (s_stK_r (pre := [r0]) y6) ?_
  exact k

theorem k179_26 {P : s_P} {d : Nat} {Q : s_O → Prop} {h : s_H} {kc ks : Nat} {r0 r1 : Term} {x2 : Int} {q2 : Nat} {f3 : List Term} {z5 : Int} (g4 : s_get h q2 = some (1, 4, f3)) (k1 : z5 < x2 → wr P d sw_c179 sw_h179 (52, [.index q2, r1, vi x2], [], h, kc, ks) Q) (k2 : ¬ z5 < x2 → wr P d sw_c179 sw_h179 (34, [.index q2, r1, vi x2], [], h, kc, ks) Q) (e_q2 : r0 = .index q2 := by first | rfl | assumption) (y1 : s_ty r0 = 3 := by first | rfl | assumption) (n6 : s_nth f3 1 = some (vi z5) := by first | rfl | assumption) (c7 : In3 x2 := by first | omega | assumption | (simp only [mk_len, List.length_map]; omega) | decide) (c8 : In3 z5 := by first | omega | assumption | (simp only [mk_len, List.length_map]; omega) | decide) : wr P d sw_c179 sw_h179 (26, [r0, r1, vi x2], [], h, kc, ks) Q := by
  refine w_ld rfl rfl (Or.inl ⟨by decide, rfl⟩) ?_
  refine w_ld rfl rfl (Or.inr (Or.inr ⟨by decide, y1⟩)) ?_
  subst e_q2
  refine w_getf rfl g4 n6 ?_
  exact w_if2 rfl c7 c8 k1 k2

theorem k179_34 {P : s_P} {d : Nat} {Q : s_O → Prop} {h : s_H} {kc ks : Nat} {r0 r1 : Term} {x2 : Int} {q2 : Nat} {f3 : List Term} {v5 : Term} {q8 : Nat} {f9 : List Term} {v11 : Term} {q13 : Nat} {a14 : List Int} {q19 : Nat} {a20 : List Int} (g4 : s_get h q2 = some (1, 4, f3)) (g10 : s_get h q8 = some (1, 4, f9)) (g15 : s_get h q13 = some (0, 0, a14.map vi)) (g21 : s_get h q19 = some (0, 0, a20.map vi)) (k : wr P d sw_c179 sw_h179 (26, [.index q2, .index q8, vi (x2 + 1)], [], (hp h q19 (0, 0, (a20.set (Int.toNat (x2)) (gi a14 x2)).map vi)), kc, ks) Q) (e_q2 : r0 = .index q2 := by first | rfl | assumption) (e_q8 : r1 = .index q8 := by first | rfl | assumption) (e_q13 : v11 = .index q13 := by first | rfl | assumption) (e_q19 : v5 = .index q19 := by first | rfl | assumption) (y1 : s_ty r0 = 3 := by first | rfl | assumption) (n6 : s_nth f3 0 = some v5 := by first | rfl | assumption) (y7 : s_ty r1 = 3 := by first | rfl | assumption) (n12 : s_nth f9 0 = some v11 := by first | rfl | assumption) (c16 : x2 < a14.length := by first | omega | assumption | (simp only [mk_len, List.length_map]; omega) | decide) (c17 : 0 ≤ x2 := by first | omega | assumption | (simp only [mk_len, List.length_map]; omega) | decide) (c18 : In3 x2 := by first | omega | assumption | (simp only [mk_len, List.length_map]; omega) | decide) (c22 : x2 < a20.length := by first | omega | assumption | (simp only [mk_len, List.length_map]; omega) | decide) (c23 : 0 < q19 := by first | omega | assumption | (simp only [mk_len, List.length_map]; omega) | decide) : wr P d sw_c179 sw_h179 (34, [r0, r1, vi x2], [], h, kc, ks) Q := by
  refine w_ld rfl rfl (Or.inr (Or.inr ⟨by decide, y1⟩)) ?_
  subst e_q2
  refine w_getf rfl g4 n6 ?_
  refine w_ld rfl rfl (Or.inl ⟨by decide, rfl⟩) ?_
  refine w_ld rfl rfl (Or.inr (Or.inr ⟨by decide, y7⟩)) ?_
  subst e_q8
  refine w_getf rfl g10 n12 ?_
  refine w_ld rfl rfl (Or.inl ⟨by decide, rfl⟩) ?_
  subst e_q13
  refine w_iald rfl g15 (Or.inl rfl) c18 c17 c16 ?_
  subst e_q19
  refine w_iast rfl g21 (Nat.ble_eq_true_of_le c23) c18 c17 c22 ?_
  refine w_iinc (ls' := [.index q2, .index q8, vi (x2 + 1)]) rfl rfl 1 (by decide) rfl ?_
  refine w_goto rfl ?_
  exact k

theorem k179_52 {P : s_P} {d : Nat} {Q : s_O → Prop} {h : s_H} {kc ks : Nat} {r0 r1 : Term} {x2 : Int}  (k : Q (.inl none, h, kc, ks))   : wr P d sw_c179 sw_h179 (52, [r0, r1, vi x2], [], h, kc, ks) Q := by
  exact w_ret rfl k

/-! 180: FormulaWorks$Poly.setNumber(I)V -/
theorem k180_0 {P : s_P} {d : Nat} {Q : s_O → Prop} {h : s_H} {kc ks : Nat} {r0 : Term} {x1 : Int} {q2 : Nat} {f3 : List Term} {v5 : Term} {q7 : Nat} {a8 : List Int} (g4 : s_get h q2 = some (1, 4, f3)) (g9 : s_get h q7 = some (0, 0, a8.map vi)) (k1 : x1 ≠ 0 → wr P d sw_c180 sw_h180 (16, [.index q2, vi x1], [.index q2], (hp h q7 (0, 0, (a8.set (Int.toNat (0)) x1).map vi)), kc, ks) Q) (k2 : ¬ x1 ≠ 0 → wr P d sw_c180 sw_h180 (12, [.index q2, vi x1], [.index q2], (hp h q7 (0, 0, (a8.set (Int.toNat (0)) x1).map vi)), kc, ks) Q) (e_q2 : r0 = .index q2 := by first | rfl | assumption) (e_q7 : v5 = .index q7 := by first | rfl | assumption) (y1 : s_ty r0 = 3 := by first | rfl | assumption) (n6 : s_nth f3 0 = some v5 := by first | rfl | assumption) (c10 : (0 : Int) < a8.length := by first | omega | assumption | (simp only [mk_len, List.length_map]; omega) | decide) (c11 : 0 < q7 := by first | omega | assumption | (simp only [mk_len, List.length_map]; omega) | decide) (c12 : In3 x1 := by first | omega | assumption | (simp only [mk_len, List.length_map]; omega) | decide) : wr P d sw_c180 sw_h180 (0, [r0, vi x1], [], h, kc, ks) Q := by
  refine w_ld rfl rfl (Or.inr (Or.inr ⟨by decide, y1⟩)) ?_
  subst e_q2
  refine w_getf rfl g4 n6 ?_
  refine w_c32 rfl (by decide) 0 (by decide) ?_
  refine w_ld rfl rfl (Or.inl ⟨by decide, rfl⟩) ?_
  subst e_q7
  refine w_iast rfl g9 (Nat.ble_eq_true_of_le c11) (by decide) (by decide) c10 ?_
  refine w_ld rfl rfl (Or.inr (Or.inr ⟨by decide, rfl⟩)) ?_
  refine w_ld rfl rfl (Or.inl ⟨by decide, rfl⟩) ?_
  exact w_if1 rfl c12 k1 k2

theorem k180_12 {P : s_P} {d : Nat} {Q : s_O → Prop} {h : s_H} {kc ks : Nat} {r0 : Term} {x1 : Int} {s0 : Term}  (k : wr P d sw_c180 sw_h180 (17, [r0, vi x1], [vi (-1), s0], h, kc, ks) Q)   : wr P d sw_c180 sw_h180 (12, [r0, vi x1], [s0], h, kc, ks) Q := by
  refine w_c32 rfl (by decide) (-1) (by decide) ?_
  refine w_goto rfl ?_
  exact k

theorem k180_16 {P : s_P} {d : Nat} {Q : s_O → Prop} {h : s_H} {kc ks : Nat} {r0 : Term} {x1 : Int} {s0 : Term}  (k : wr P d sw_c180 sw_h180 (17, [r0, vi x1], [vi 0, s0], h, kc, ks) Q)   : wr P d sw_c180 sw_h180 (16, [r0, vi x1], [s0], h, kc, ks) Q := by
  refine w_c32 rfl (by decide) 0 (by decide) ?_
  exact k

theorem k180_17 {P : s_P} {d : Nat} {Q : s_O → Prop} {h : s_H} {kc ks : Nat} {r0 : Term} {x1 : Int} {s0 : Term} {s1 : Int} {q1 : Nat} {f2 : List Term} (g3 : s_get h q1 = some (1, 4, f2)) (k : Q (.inl none, (hp h q1 (1, 4, f2.set 1 (vi s1))), kc, ks)) (e_q1 : s0 = .index q1 := by first | rfl | assumption) (l4 : 1 < f2.length := by first | exact Nat.le_of_ble_eq_true rfl | omega | assumption) (c5 : 0 < q1 := by first | omega | assumption | (simp only [mk_len, List.length_map]; omega) | decide) : wr P d sw_c180 sw_h180 (17, [r0, vi x1], [vi s1, s0], h, kc, ks) Q := by
  subst e_q1
  refine w_putf rfl g3 (Nat.ble_eq_true_of_le c5) rfl (Nat.ble_eq_true_of_le l4) ?_
  exact w_ret rfl k

/-! 181: FormulaWorks$Poly.setPower(I)V -/
theorem k181_0 {P : s_P} {d : Nat} {Q : s_O → Prop} {h : s_H} {kc ks : Nat} {r0 : Term} {x1 : Int} {t2 t3 : Term} {q2 : Nat} {f3 : List Term} {v5 : Term} {q7 : Nat} {a8 : List Term} {tg10 : Nat} (g4 : s_get h q2 = some (1, 4, f3)) (g9 : s_get h q7 = some (0, tg10, a8)) (k1 : (a8.length : Int) ≤ x1 → wr P d sw_c181 sw_h181 (13, [.index q2, vi x1, t2, t3], [], h, kc, ks) Q) (k2 : ¬ (a8.length : Int) ≤ x1 → wr P d sw_c181 sw_h181 (9, [.index q2, vi x1, t2, t3], [], h, kc, ks) Q) (e_q2 : r0 = .index q2 := by first | rfl | assumption) (e_q7 : v5 = .index q7 := by first | rfl | assumption) (y1 : s_ty r0 = 3 := by first | rfl | assumption) (n6 : s_nth f3 0 = some v5 := by first | rfl | assumption) (c11 : In3 x1 := by first | omega | assumption | (simp only [mk_len, List.length_map]; omega) | decide) (c12 : In3 (a8.length : Int) := by first | omega | assumption | (simp only [mk_len, List.length_map]; omega) | decide) : wr P d sw_c181 sw_h181 (0, [r0, vi x1, t2, t3], [], h, kc, ks) Q := by
  refine w_ld rfl rfl (Or.inl ⟨by decide, rfl⟩) ?_
  refine w_ld rfl rfl (Or.inr (Or.inr ⟨by decide, y1⟩)) ?_
  subst e_q2
  refine w_getf rfl g4 n6 ?_
  subst e_q7
  refine w_alen rfl g9 (Or.inl rfl) ?_
  exact w_if2 rfl c11 c12 k1 k2

theorem k181_9 {P : s_P} {d : Nat} {Q : s_O → Prop} {h : s_H} {kc ks : Nat} {r0 : Term} {x1 : Int} {t2 t3 : Term}  (k : wr P d sw_c181 sw_h181 (20, [r0, vi x1, t2, t3], [vi x1], h, kc, ks) Q)   : wr P d sw_c181 sw_h181 (9, [r0, vi x1, t2, t3], [], h, kc, ks) Q := by
  refine w_ld rfl rfl (Or.inl ⟨by decide, rfl⟩) ?_
  refine w_goto rfl ?_
  exact k

theorem k181_13 {P : s_P} {d : Nat} {Q : s_O → Prop} {h : s_H} {kc ks : Nat} {r0 : Term} {x1 : Int} {t2 t3 : Term} {q2 : Nat} {f3 : List Term} {v5 : Term} {q7 : Nat} {a8 : List Term} {tg10 : Nat} (g4 : s_get h q2 = some (1, 4, f3)) (g9 : s_get h q7 = some (0, tg10, a8)) (k : wr P d sw_c181 sw_h181 (20, [.index q2, vi x1, t2, t3], [vi ((a8.length : Int) - 1)], h, kc, ks) Q) (e_q2 : r0 = .index q2 := by first | rfl | assumption) (e_q7 : v5 = .index q7 := by first | rfl | assumption) (y1 : s_ty r0 = 3 := by first | rfl | assumption) (n6 : s_nth f3 0 = some v5 := by first | rfl | assumption)  : wr P d sw_c181 sw_h181 (13, [r0, vi x1, t2, t3], [], h, kc, ks) Q := by
  refine w_ld rfl rfl (Or.inr (Or.inr ⟨by decide, y1⟩)) ?_
  subst e_q2
  refine w_getf rfl g4 n6 ?_
  subst e_q7
  refine w_alen rfl g9 (Or.inl rfl) ?_
  refine w_c32 rfl (by decide) 1 (by decide) ?_
  refine w_isub rfl ?_
  exact k

theorem k181_20 {P : s_P} {d : Nat} {Q : s_O → Prop} {h : s_H} {kc ks : Nat} {r0 : Term} {x1 : Int} {t2 t3 : Term} {s0 : Int}  (k : wr P d sw_c181 sw_h181 (23, [r0, vi x1, vi s0, vi 0], [], h, kc, ks) Q)   : wr P d sw_c181 sw_h181 (20, [r0, vi x1, t2, t3], [vi s0], h, kc, ks) Q := by
  refine w_st (ls' := [r0, vi x1, vi s0, t3]) rfl (Or.inl ⟨by decide, rfl⟩) rfl ?_
  refine w_c32 rfl (by decide) 0 (by decide) ?_
  refine w_st (ls' := [r0, vi x1, vi s0, vi 0]) rfl (Or.inl ⟨by decide, rfl⟩) rfl ?_
  exact k

theorem k181_23 {P : s_P} {d : Nat} {Q : s_O → Prop} {h : s_H} {kc ks : Nat} {r0 : Term} {x1 x2 x3 : Int}  (k1 : x2 ≤ x3 → wr P d sw_c181 sw_h181 (41, [r0, vi x1, vi x2, vi x3], [], h, kc, ks) Q) (k2 : ¬ x2 ≤ x3 → wr P d sw_c181 sw_h181 (28, [r0, vi x1, vi x2, vi x3], [], h, kc, ks) Q)  (c1 : In3 x3 := by first | omega | assumption | (simp only [mk_len, List.length_map]; omega) | decide) (c2 : In3 x2 := by first | omega | assumption | (simp only [mk_len, List.length_map]; omega) | decide) : wr P d sw_c181 sw_h181 (23, [r0, vi x1, vi x2, vi x3], [], h, kc, ks) Q := by
  refine w_ld rfl rfl (Or.inl ⟨by decide, rfl⟩) ?_
  refine w_ld rfl rfl (Or.inl ⟨by decide, rfl⟩) ?_
  exact w_if2 rfl c1 c2 k1 k2

theorem k181_28 {P : s_P} {d : Nat} {Q : s_O → Prop} {h : s_H} {kc ks : Nat} {r0 : Term} {x1 x2 x3 : Int} {q2 : Nat} {f3 : List Term} {v5 : Term} {q7 : Nat} {a8 : List Int} (g4 : s_get h q2 = some (1, 4, f3)) (g9 : s_get h q7 = some (0, 0, a8.map vi)) (k : wr P d sw_c181 sw_h181 (23, [.index q2, vi x1, vi x2, vi (x3 + 1)], [], (hp h q7 (0, 0, (a8.set (Int.toNat (x3)) 0).map vi)), kc, ks) Q) (e_q2 : r0 = .index q2 := by first | rfl | assumption) (e_q7 : v5 = .index q7 := by first | rfl | assumption) (y1 : s_ty r0 = 3 := by first | rfl | assumption) (n6 : s_nth f3 0 = some v5 := by first | rfl | assumption) (c10 : x3 < a8.length := by first | omega | assumption | (simp only [mk_len, List.length_map]; omega) | decide) (c11 : 0 ≤ x3 := by first | omega | assumption | (simp only [mk_len, List.length_map]; omega) | decide) (c12 : In3 x3 := by first | omega | assumption | (simp only [mk_len, List.length_map]; omega) | decide) (c13 : 0 < q7 := by first | omega | assumption | (simp only [mk_len, List.length_map]; omega) | decide) : wr P d sw_c181 sw_h181 (28, [r0, vi x1, vi x2, vi x3], [], h, kc, ks) Q := by
  refine w_ld rfl rfl (Or.inr (Or.inr ⟨by decide, y1⟩)) ?_
  subst e_q2
  refine w_getf rfl g4 n6 ?_
  refine w_ld rfl rfl (Or.inl ⟨by decide, rfl⟩) ?_
  refine w_c32 rfl (by decide) 0 (by decide) ?_
  subst e_q7
  refine w_iast rfl g9 (Nat.ble_eq_true_of_le c13) c12 c11 c10 ?_
  refine w_iinc (ls' := [.index q2, vi x1, vi x2, vi (x3 + 1)]) rfl rfl 1 (by decide) rfl ?_
  refine w_goto rfl ?_
  exact k

theorem k181_41 {P : s_P} {d : Nat} {Q : s_O → Prop} {h : s_H} {kc ks : Nat} {r0 : Term} {x1 x2 x3 : Int}  (k1 : x2 < 0 → wr P d sw_c181 sw_h181 (52, [r0, vi x1, vi x2, vi x3], [], h, kc, ks) Q) (k2 : ¬ x2 < 0 → wr P d sw_c181 sw_h181 (45, [r0, vi x1, vi x2, vi x3], [], h, kc, ks) Q)  (c1 : In3 x2 := by first | omega | assumption | (simp only [mk_len, List.length_map]; omega) | decide) : wr P d sw_c181 sw_h181 (41, [r0, vi x1, vi x2, vi x3], [], h, kc, ks) Q := by
  refine w_ld rfl rfl (Or.inl ⟨by decide, rfl⟩) ?_
  exact w_if1 rfl c1 k1 k2

theorem k181_45 {P : s_P} {d : Nat} {Q : s_O → Prop} {h : s_H} {kc ks : Nat} {r0 : Term} {x1 x2 x3 : Int} {q2 : Nat} {f3 : List Term} {v5 : Term} {q7 : Nat} {a8 : List Int} (g4 : s_get h q2 = some (1, 4, f3)) (g9 : s_get h q7 = some (0, 0, a8.map vi)) (k : wr P d sw_c181 sw_h181 (52, [.index q2, vi x1, vi x2, vi x3], [], (hp h q7 (0, 0, (a8.set (Int.toNat (x2)) 1).map vi)), kc, ks) Q) (e_q2 : r0 = .index q2 := by first | rfl | assumption) (e_q7 : v5 = .index q7 := by first | rfl | assumption) (y1 : s_ty r0 = 3 := by first | rfl | assumption) (n6 : s_nth f3 0 = some v5 := by first | rfl | assumption) (c10 : x2 < a8.length := by first | omega | assumption | (simp only [mk_len, List.length_map]; omega) | decide) (c11 : 0 ≤ x2 := by first | omega | assumption | (simp only [mk_len, List.length_map]; omega) | decide) (c12 : In3 x2 := by first | omega | assumption | (simp only [mk_len, List.length_map]; omega) | decide) (c13 : 0 < q7 := by first | omega | assumption | (simp only [mk_len, List.length_map]; omega) | decide) : wr P d sw_c181 sw_h181 (45, [r0, vi x1, vi x2, vi x3], [], h, kc, ks) Q := by
  refine w_ld rfl rfl (Or.inr (Or.inr ⟨by decide, y1⟩)) ?_
  subst e_q2
  refine w_getf rfl g4 n6 ?_
  refine w_ld rfl rfl (Or.inl ⟨by decide, rfl⟩) ?_
  refine w_c32 rfl (by decide) 1 (by decide) ?_
  subst e_q7
  refine w_iast rfl g9 (Nat.ble_eq_true_of_le c13) c12 c11 c10 ?_
  exact k

theorem k181_52 {P : s_P} {d : Nat} {Q : s_O → Prop} {h : s_H} {kc ks : Nat} {r0 : Term} {x1 x2 x3 : Int} {q2 : Nat} {f3 : List Term} (g4 : s_get h q2 = some (1, 4, f3)) (k : Q (.inl none, (hp h q2 (1, 4, f3.set 1 (vi x2))), kc, ks)) (e_q2 : r0 = .index q2 := by first | rfl | assumption) (y1 : s_ty r0 = 3 := by first | rfl | assumption) (l5 : 1 < f3.length := by first | exact Nat.le_of_ble_eq_true rfl | omega | assumption) (c6 : 0 < q2 := by first | omega | assumption | (simp only [mk_len, List.length_map]; omega) | decide) : wr P d sw_c181 sw_h181 (52, [r0, vi x1, vi x2, vi x3], [], h, kc, ks) Q := by
  refine w_ld rfl rfl (Or.inr (Or.inr ⟨by decide, y1⟩)) ?_
  refine w_ld rfl rfl (Or.inl ⟨by decide, rfl⟩) ?_
  subst e_q2
  refine w_putf rfl g4 (Nat.ble_eq_true_of_le c6) rfl (Nat.ble_eq_true_of_le l5) ?_
  exact w_ret rfl k

/-! 182: FormulaWorks$Poly.setProduct(LFormulaWorks$Poly;LFormulaWorks$Poly;)V -/
theorem k182_0 {P : s_P} {d : Nat} {Q : s_O → Prop} {h : s_H} {kc ks : Nat} {r0 r1 r2 t3 t4 t5 t6 t7 : Term} {q3 : Nat} {f4 : List Term} {z6 : Int} (g5 : s_get h q3 = some (1, 4, f4)) (k1 : z6 < 0 → wr P d sw_c182 sw_h182 (15, [r0, .index q3, r2, t3, t4, t5, t6, t7], [r0], h, kc, ks) Q) (k2 : ¬ z6 < 0 → wr P d sw_c182 sw_h182 (8, [r0, .index q3, r2, t3, t4, t5, t6, t7], [r0], h, kc, ks) Q) (e_q3 : r1 = .index q3 := by first | rfl | assumption) (y1 : s_ty r0 = 3 := by first | rfl | assumption) (y2 : s_ty r1 = 3 := by first | rfl | assumption) (n7 : s_nth f4 1 = some (vi z6) := by first | rfl | assumption) (c8 : In3 z6 := by first | omega | assumption | (simp only [mk_len, List.length_map]; omega) | decide) : wr P d sw_c182 sw_h182 (0, [r0, r1, r2, t3, t4, t5, t6, t7], [], h, kc, ks) Q := by
  refine w_ld rfl rfl (Or.inr (Or.inr ⟨by decide, y1⟩)) ?_
  refine w_ld rfl rfl (Or.inr (Or.inr ⟨by decide, y2⟩)) ?_
  subst e_q3
  refine w_getf rfl g5 n7 ?_
  exact w_if1 rfl c8 k1 k2

theorem k182_8 {P : s_P} {d : Nat} {Q : s_O → Prop} {h : s_H} {kc ks : Nat} {r0 r1 r2 t3 t4 t5 t6 t7 s0 : Term} {q2 : Nat} {f3 : List Term} {z5 : Int} (g4 : s_get h q2 = some (1, 4, f3)) (k1 : 0 ≤ z5 → wr P d sw_c182 sw_h182 (19, [r0, r1, .index q2, t3, t4, t5, t6, t7], [s0], h, kc, ks) Q) (k2 : ¬ 0 ≤ z5 → wr P d sw_c182 sw_h182 (15, [r0, r1, .index q2, t3, t4, t5, t6, t7], [s0], h, kc, ks) Q) (e_q2 : r2 = .index q2 := by first | rfl | assumption) (y1 : s_ty r2 = 3 := by first | rfl | assumption) (n6 : s_nth f3 1 = some (vi z5) := by first | rfl | assumption) (c7 : In3 z5 := by first | omega | assumption | (simp only [mk_len, List.length_map]; omega) | decide) : wr P d sw_c182 sw_h182 (8, [r0, r1, r2, t3, t4, t5, t6, t7], [s0], h, kc, ks) Q := by
  refine w_ld rfl rfl (Or.inr (Or.inr ⟨by decide, y1⟩)) ?_
  subst e_q2
  refine w_getf rfl g4 n6 ?_
  exact w_if1 rfl c7 k1 k2

theorem k182_15 {P : s_P} {d : Nat} {Q : s_O → Prop} {h : s_H} {kc ks : Nat} {r0 r1 r2 t3 t4 t5 t6 t7 s0 : Term}  (k : wr P d sw_c182 sw_h182 (28, [r0, r1, r2, t3, t4, t5, t6, t7], [vi (-1), s0], h, kc, ks) Q)   : wr P d sw_c182 sw_h182 (15, [r0, r1, r2, t3, t4, t5, t6, t7], [s0], h, kc, ks) Q := by
  refine w_c32 rfl (by decide) (-1) (by decide) ?_
  refine w_goto rfl ?_
  exact k

theorem k182_19 {P : s_P} {d : Nat} {Q : s_O → Prop} {h : s_H} {kc ks : Nat} {r0 r1 r2 t3 t4 t5 t6 t7 s0 : Term} {q2 : Nat} {f3 : List Term} {z5 : Int} {q8 : Nat} {f9 : List Term} {z11 : Int} (g4 : s_get h q2 = some (1, 4, f3)) (g10 : s_get h q8 = some (1, 4, f9)) (k : wr P d sw_c182 sw_h182 (28, [r0, .index q2, .index q8, t3, t4, t5, t6, t7], [vi (z5 + z11), s0], h, kc, ks) Q) (e_q2 : r1 = .index q2 := by first | rfl | assumption) (e_q8 : r2 = .index q8 := by first | rfl | assumption) (y1 : s_ty r1 = 3 := by first | rfl | assumption) (n6 : s_nth f3 1 = some (vi z5) := by first | rfl | assumption) (y7 : s_ty r2 = 3 := by first | rfl | assumption) (n12 : s_nth f9 1 = some (vi z11) := by first | rfl | assumption)  : wr P d sw_c182 sw_h182 (19, [r0, r1, r2, t3, t4, t5, t6, t7], [s0], h, kc, ks) Q := by
  refine w_ld rfl rfl (Or.inr (Or.inr ⟨by decide, y1⟩)) ?_
  subst e_q2
  refine w_getf rfl g4 n6 ?_
  refine w_ld rfl rfl (Or.inr (Or.inr ⟨by decide, y7⟩)) ?_
  subst e_q8
  refine w_getf rfl g10 n12 ?_
  refine w_iadd rfl ?_
  exact k

theorem k182_28 {P : s_P} {d : Nat} {Q : s_O → Prop} {h : s_H} {kc ks : Nat} {r0 r1 r2 t3 t4 t5 t6 t7 s0 : Term} {s1 : Int} {q1 : Nat} {f2 : List Term} {q7 : Nat} {f8 : List Term} {z10 : Int} {v12 : Term} {q14 : Nat} {a15 : List Term} {tg17 : Nat} (g3 : s_get h q1 = some (1, 4, f2)) (g9 : s_get (hp h q1 (1, 4, f2.set 1 (vi s1))) q7 = some (1, 4, f8)) (g16 : s_get (hp h q1 (1, 4, f2.set 1 (vi s1))) q14 = some (0, tg17, a15)) (k1 : z10 < (a15.length : Int) → wr P d sw_c182 sw_h182 (48, [.index q7, r1, r2, t3, t4, t5, t6, t7], [], (hp h q1 (1, 4, f2.set 1 (vi s1))), kc, ks) Q) (k2 : ¬ z10 < (a15.length : Int) → wr P d sw_c182 sw_h182 (43, [.index q7, r1, r2, t3, t4, t5, t6, t7], [], (hp h q1 (1, 4, f2.set 1 (vi s1))), kc, ks) Q) (e_q1 : s0 = .index q1 := by first | rfl | assumption) (e_q7 : r0 = .index q7 := by first | rfl | assumption) (e_q14 : v12 = .index q14 := by first | rfl | assumption) (l4 : 1 < f2.length := by first | exact Nat.le_of_ble_eq_true rfl | omega | assumption) (y6 : s_ty r0 = 3 := by first | rfl | assumption) (n11 : s_nth f8 1 = some (vi z10) := by first | rfl | assumption) (n13 : s_nth f8 0 = some v12 := by first | rfl | assumption) (c5 : 0 < q1 := by first | omega | assumption | (simp only [mk_len, List.length_map]; omega) | decide) (c18 : In3 z10 := by first | omega | assumption | (simp only [mk_len, List.length_map]; omega) | decide) (c19 : In3 (a15.length : Int) := by first | omega | assumption | (simp only [mk_len, List.length_map]; omega) | decide) : wr P d sw_c182 sw_h182 (28, [r0, r1, r2, t3, t4, t5, t6, t7], [vi s1, s0], h, kc, ks) Q := by
  subst e_q1
  refine w_putf rfl g3 (Nat.ble_eq_true_of_le c5) rfl (Nat.ble_eq_true_of_le l4) ?_
  refine w_ld rfl rfl (Or.inr (Or.inr ⟨by decide, y6⟩)) ?_
  subst e_q7
  refine w_getf rfl g9 n11 ?_
  refine w_ld rfl rfl (Or.inr (Or.inr ⟨by decide, rfl⟩)) ?_
  refine w_getf rfl g9 n13 ?_
  subst e_q14
  refine w_alen rfl g16 (Or.inl rfl) ?_
  exact w_if2 rfl c18 c19 k1 k2

theorem k182_43 {P : s_P} {d : Nat} {Q : s_O → Prop} {h : s_H} {kc ks : Nat} {r0 r1 r2 t3 t4 t5 t6 t7 : Term} {q2 : Nat} {f3 : List Term} (g4 : s_get h q2 = some (1, 4, f3)) (k : wr P d sw_c182 sw_h182 (48, [.index q2, r1, r2, t3, t4, t5, t6, t7], [], (hp h q2 (1, 4, f3.set 1 (vi (-1)))), kc, ks) Q) (e_q2 : r0 = .index q2 := by first | rfl | assumption) (y1 : s_ty r0 = 3 := by first | rfl | assumption) (l5 : 1 < f3.length := by first | exact Nat.le_of_ble_eq_true rfl | omega | assumption) (c6 : 0 < q2 := by first | omega | assumption | (simp only [mk_len, List.length_map]; omega) | decide) : wr P d sw_c182 sw_h182 (43, [r0, r1, r2, t3, t4, t5, t6, t7], [], h, kc, ks) Q := by
  refine w_ld rfl rfl (Or.inr (Or.inr ⟨by decide, y1⟩)) ?_
  refine w_c32 rfl (by decide) (-1) (by decide) ?_
  subst e_q2
  refine w_putf rfl g4 (Nat.ble_eq_true_of_le c6) rfl (Nat.ble_eq_true_of_le l5) ?_
  exact k

theorem k182_48 {P : s_P} {d : Nat} {Q : s_O → Prop} {h : s_H} {kc ks : Nat} {r0 r1 r2 t3 t4 t5 t6 t7 : Term} {q2 : Nat} {f3 : List Term} {z5 : Int} (g4 : s_get h q2 = some (1, 4, f3)) (k : wr P d sw_c182 sw_h182 (53, [.index q2, r1, r2, vi z5, t4, t5, t6, t7], [], h, kc, ks) Q) (e_q2 : r0 = .index q2 := by first | rfl | assumption) (y1 : s_ty r0 = 3 := by first | rfl | assumption) (n6 : s_nth f3 1 = some (vi z5) := by first | rfl | assumption) (y7 : s_ty r2 = 3 := by first | rfl | assumption)  : wr P d sw_c182 sw_h182 (48, [r0, r1, r2, t3, t4, t5, t6, t7], [], h, kc, ks) Q := by
  refine w_ld rfl rfl (Or.inr (Or.inr ⟨by decide, y1⟩)) ?_
  subst e_q2
  refine w_getf rfl g4 n6 ?_
  refine w_st (ls' := [.index q2, r1, r2, vi z5, t4, t5, t6, t7]) rfl (Or.inl ⟨by decide, rfl⟩) (s_stK_r (pre := [.index q2, r1]) y7) ?_
  exact k

theorem k182_53 {P : s_P} {d : Nat} {Q : s_O → Prop} {h : s_H} {kc ks : Nat} {r0 r1 r2 : Term} {x3 : Int} {t4 t5 t6 t7 : Term}  (k1 : x3 < 0 → wr P d sw_c182 sw_h182 (153, [r0, r1, r2, vi x3, t4, t5, t6, t7], [], h, kc, ks) Q) (k2 : ¬ x3 < 0 → wr P d sw_c182 sw_h182 (57, [r0, r1, r2, vi x3, t4, t5, t6, t7], [], h, kc, ks) Q)  (c1 : In3 x3 := by first | omega | assumption | (simp only [mk_len, List.length_map]; omega) | decide) : wr P d sw_c182 sw_h182 (53, [r0, r1, r2, vi x3, t4, t5, t6, t7], [], h, kc, ks) Q := by
  refine w_ld rfl rfl (Or.inl ⟨by decide, rfl⟩) ?_
  exact w_if1 rfl c1 k1 k2

theorem k182_57 {P : s_P} {d : Nat} {Q : s_O → Prop} {h : s_H} {kc ks : Nat} {r0 r1 r2 : Term} {x3 : Int} {t4 t5 t6 t7 : Term} {q2 : Nat} {f3 : List Term} {z5 : Int} (g4 : s_get h q2 = some (1, 4, f3)) (k1 : z5 ≤ x3 → wr P d sw_c182 sw_h182 (72, [r0, .index q2, r2, vi x3, vl 0, .result, t6, t7], [], h, kc, ks) Q) (k2 : ¬ z5 ≤ x3 → wr P d sw_c182 sw_h182 (68, [r0, .index q2, r2, vi x3, vl 0, .result, t6, t7], [], h, kc, ks) Q) (e_q2 : r1 = .index q2 := by first | rfl | assumption) (y1 : s_ty r1 = 3 := by first | rfl | assumption) (n6 : s_nth f3 1 = some (vi z5) := by first | rfl | assumption) (c7 : In3 x3 := by first | omega | assumption | (simp only [mk_len, List.length_map]; omega) | decide) (c8 : In3 z5 := by first | omega | assumption | (simp only [mk_len, List.length_map]; omega) | decide) : wr P d sw_c182 sw_h182 (57, [r0, r1, r2, vi x3, t4, t5, t6, t7], [], h, kc, ks) Q := by
  refine w_c64 rfl (by decide) 0 (by decide) ?_
  refine w_stl (ls' := [r0, r1, r2, vi x3, vl 0, t5, t6, t7]) (ls'' := [r0, r1, r2, vi x3, vl 0, .result, t6, t7]) rfl ⟨by decide, rfl⟩ rfl rfl ?_
  refine w_ld rfl rfl (Or.inl ⟨by decide, rfl⟩) ?_
  refine w_ld rfl rfl (Or.inr (Or.inr ⟨by decide, y1⟩)) ?_
  subst e_q2
  refine w_getf rfl g4 n6 ?_
  exact w_if2 rfl c7 c8 k1 k2

theorem k182_68 {P : s_P} {d : Nat} {Q : s_O → Prop} {h : s_H} {kc ks : Nat} {r0 r1 r2 : Term} {x3 x4 : Int} {t5 t6 t7 : Term}  (k : wr P d sw_c182 sw_h182 (76, [r0, r1, r2, vi x3, vl x4, t5, t6, t7], [vi x3], h, kc, ks) Q)   : wr P d sw_c182 sw_h182 (68, [r0, r1, r2, vi x3, vl x4, t5, t6, t7], [], h, kc, ks) Q := by
  refine w_ld rfl rfl (Or.inl ⟨by decide, rfl⟩) ?_
  refine w_goto rfl ?_
  exact k

theorem k182_72 {P : s_P} {d : Nat} {Q : s_O → Prop} {h : s_H} {kc ks : Nat} {r0 r1 r2 : Term} {x3 x4 : Int} {t5 t6 t7 : Term} {q2 : Nat} {f3 : List Term} {z5 : Int} (g4 : s_get h q2 = some (1, 4, f3)) (k : wr P d sw_c182 sw_h182 (76, [r0, .index q2, r2, vi x3, vl x4, t5, t6, t7], [vi z5], h, kc, ks) Q) (e_q2 : r1 = .index q2 := by first | rfl | assumption) (y1 : s_ty r1 = 3 := by first | rfl | assumption) (n6 : s_nth f3 1 = some (vi z5) := by first | rfl | assumption)  : wr P d sw_c182 sw_h182 (72, [r0, r1, r2, vi x3, vl x4, t5, t6, t7], [], h, kc, ks) Q := by
  refine w_ld rfl rfl (Or.inr (Or.inr ⟨by decide, y1⟩)) ?_
  subst e_q2
  refine w_getf rfl g4 n6 ?_
  exact k

theorem k182_76 {P : s_P} {d : Nat} {Q : s_O → Prop} {h : s_H} {kc ks : Nat} {r0 r1 r2 : Term} {x3 x4 : Int} {t5 t6 t7 : Term} {s0 : Int} {q2 : Nat} {f3 : List Term} {z5 : Int} (g4 : s_get h q2 = some (1, 4, f3)) (k1 : x3 ≤ z5 → wr P d sw_c182 sw_h182 (95, [r0, r1, .index q2, vi x3, vl x4, (s_uu t5), vi s0, t7], [], h, kc, ks) Q) (k2 : ¬ x3 ≤ z5 → wr P d sw_c182 sw_h182 (86, [r0, r1, .index q2, vi x3, vl x4, (s_uu t5), vi s0, t7], [], h, kc, ks) Q) (e_q2 : r2 = .index q2 := by first | rfl | assumption) (y1 : s_ty r2 = 3 := by first | rfl | assumption) (n6 : s_nth f3 1 = some (vi z5) := by first | rfl | assumption) (c7 : In3 x3 := by first | omega | assumption | (simp only [mk_len, List.length_map]; omega) | decide) (c8 : In3 z5 := by first | omega | assumption | (simp only [mk_len, List.length_map]; omega) | decide) : wr P d sw_c182 sw_h182 (76, [r0, r1, r2, vi x3, vl x4, t5, t6, t7], [vi s0], h, kc, ks) Q := by
  refine w_st (ls' := [r0, r1, r2, vi x3, vl x4, (s_uu t5), vi s0, t7]) rfl (Or.inl ⟨by decide, rfl⟩) (s_stK_t (pre := [r0, r1, r2, vi x3, vl x4])) ?_
  refine w_ld rfl rfl (Or.inl ⟨by decide, rfl⟩) ?_
  refine w_ld rfl rfl (Or.inr (Or.inr ⟨by decide, y1⟩)) ?_
  subst e_q2
  refine w_getf rfl g4 n6 ?_
  exact w_if2 rfl c7 c8 k1 k2

theorem k182_86 {P : s_P} {d : Nat} {Q : s_O → Prop} {h : s_H} {kc ks : Nat} {r0 r1 r2 : Term} {x3 x4 : Int} {t5 : Term} {x6 : Int} {t7 : Term} {q2 : Nat} {f3 : List Term} {z5 : Int} (g4 : s_get h q2 = some (1, 4, f3)) (k : wr P d sw_c182 sw_h182 (96, [r0, r1, .index q2, vi x3, vl x4, t5, vi x6, t7], [vi (x3 - z5)], h, kc, ks) Q) (e_q2 : r2 = .index q2 := by first | rfl | assumption) (y1 : s_ty r2 = 3 := by first | rfl | assumption) (n6 : s_nth f3 1 = some (vi z5) := by first | rfl | assumption)  : wr P d sw_c182 sw_h182 (86, [r0, r1, r2, vi x3, vl x4, t5, vi x6, t7], [], h, kc, ks) Q := by
  refine w_ld rfl rfl (Or.inl ⟨by decide, rfl⟩) ?_
  refine w_ld rfl rfl (Or.inr (Or.inr ⟨by decide, y1⟩)) ?_
  subst e_q2
  refine w_getf rfl g4 n6 ?_
  refine w_isub rfl ?_
  refine w_goto rfl ?_
  exact k

theorem k182_95 {P : s_P} {d : Nat} {Q : s_O → Prop} {h : s_H} {kc ks : Nat} {r0 r1 r2 : Term} {x3 x4 : Int} {t5 : Term} {x6 : Int} {t7 : Term}  (k : wr P d sw_c182 sw_h182 (96, [r0, r1, r2, vi x3, vl x4, t5, vi x6, t7], [vi 0], h, kc, ks) Q)   : wr P d sw_c182 sw_h182 (95, [r0, r1, r2, vi x3, vl x4, t5, vi x6, t7], [], h, kc, ks) Q := by
  refine w_c32 rfl (by decide) 0 (by decide) ?_
  exact k

theorem k182_96 {P : s_P} {d : Nat} {Q : s_O → Prop} {h : s_H} {kc ks : Nat} {r0 r1 r2 : Term} {x3 x4 : Int} {t5 : Term} {x6 : Int} {t7 : Term} {s0 : Int}  (k : wr P d sw_c182 sw_h182 (98, [r0, r1, r2, vi x3, vl x4, t5, vi x6, vi s0], [], h, kc, ks) Q)   : wr P d sw_c182 sw_h182 (96, [r0, r1, r2, vi x3, vl x4, t5, vi x6, t7], [vi s0], h, kc, ks) Q := by
  refine w_st (ls' := [r0, r1, r2, vi x3, vl x4, t5, vi x6, vi s0]) rfl (Or.inl ⟨by decide, rfl⟩) rfl ?_
  exact k

theorem k182_98 {P : s_P} {d : Nat} {Q : s_O → Prop} {h : s_H} {kc ks : Nat} {r0 r1 r2 : Term} {x3 x4 : Int} {t5 : Term} {x6 x7 : Int}  (k1 : x6 < x7 → wr P d sw_c182 sw_h182 (134, [r0, r1, r2, vi x3, vl x4, t5, vi x6, vi x7], [], h, kc, ks) Q) (k2 : ¬ x6 < x7 → wr P d sw_c182 sw_h182 (105, [r0, r1, r2, vi x3, vl x4, t5, vi x6, vi x7], [], h, kc, ks) Q)  (c1 : In3 x7 := by first | omega | assumption | (simp only [mk_len, List.length_map]; omega) | decide) (c2 : In3 x6 := by first | omega | assumption | (simp only [mk_len, List.length_map]; omega) | decide) : wr P d sw_c182 sw_h182 (98, [r0, r1, r2, vi x3, vl x4, t5, vi x6, vi x7], [], h, kc, ks) Q := by
  refine w_ld rfl rfl (Or.inl ⟨by decide, rfl⟩) ?_
  refine w_ld rfl rfl (Or.inl ⟨by decide, rfl⟩) ?_
  exact w_if2 rfl c1 c2 k1 k2

theorem k182_105 {P : s_P} {d : Nat} {Q : s_O → Prop} {h : s_H} {kc ks : Nat} {r0 r1 r2 : Term} {x3 x4 : Int} {t5 : Term} {x6 x7 : Int} {q2 : Nat} {f3 : List Term} {v5 : Term} {q7 : Nat} {a8 : List Int} {q14 : Nat} {f15 : List Term} {v17 : Term} {q19 : Nat} {a20 : List Int} (g4 : s_get h q2 = some (1, 4, f3)) (g9 : s_get h q7 = some (0, 0, a8.map vi)) (g16 : s_get h q14 = some (1, 4, f15)) (g21 : s_get h q19 = some (0, 0, a20.map vi)) (k : wr P d sw_c182 sw_h182 (98, [r0, .index q2, .index q14, vi x3, vl (x4 + ((gi a8 x7) * (gi a20 (x3 - x7)))), .result, vi x6, vi (x7 + 1)], [], h, kc, ks) Q) (e_q2 : r1 = .index q2 := by first | rfl | assumption) (e_q7 : v5 = .index q7 := by first | rfl | assumption) (e_q14 : r2 = .index q14 := by first | rfl | assumption) (e_q19 : v17 = .index q19 := by first | rfl | assumption) (y1 : s_ty r1 = 3 := by first | rfl | assumption) (n6 : s_nth f3 0 = some v5 := by first | rfl | assumption) (y13 : s_ty r2 = 3 := by first | rfl | assumption) (n18 : s_nth f15 0 = some v17 := by first | rfl | assumption) (c10 : x7 < a8.length := by first | omega | assumption | (simp only [mk_len, List.length_map]; omega) | decide) (c11 : 0 ≤ x7 := by first | omega | assumption | (simp only [mk_len, List.length_map]; omega) | decide) (c12 : In3 x7 := by first | omega | assumption | (simp only [mk_len, List.length_map]; omega) | decide) (c22 : x3 - x7 < a20.length := by first | omega | assumption | (simp only [mk_len, List.length_map]; omega) | decide) (c23 : 0 ≤ x3 - x7 := by first | omega | assumption | (simp only [mk_len, List.length_map]; omega) | decide) (c24 : In3 (x3 - x7) := by first | omega | assumption | (simp only [mk_len, List.length_map]; omega) | decide) (c25 : In3 ((gi a8 x7) * (gi a20 (x3 - x7))) := by first | omega | assumption | (simp only [mk_len, List.length_map]; omega) | decide) : wr P d sw_c182 sw_h182 (105, [r0, r1, r2, vi x3, vl x4, t5, vi x6, vi x7], [], h, kc, ks) Q := by
  refine w_ld rfl rfl (Or.inr (Or.inl ⟨by decide, rfl⟩)) ?_
  refine w_ld rfl rfl (Or.inr (Or.inr ⟨by decide, y1⟩)) ?_
  subst e_q2
  refine w_getf rfl g4 n6 ?_
  refine w_ld rfl rfl (Or.inl ⟨by decide, rfl⟩) ?_
  subst e_q7
  refine w_iald rfl g9 (Or.inl rfl) c12 c11 c10 ?_
  refine w_ld rfl rfl (Or.inr (Or.inr ⟨by decide, y13⟩)) ?_
  subst e_q14
  refine w_getf rfl g16 n18 ?_
  refine w_ld rfl rfl (Or.inl ⟨by decide, rfl⟩) ?_
  refine w_ld rfl rfl (Or.inl ⟨by decide, rfl⟩) ?_
  refine w_isub rfl ?_
  subst e_q19
  refine w_iald rfl g21 (Or.inl rfl) c24 c23 c22 ?_
  refine w_imul rfl ?_
  refine w_i2l rfl c25 ?_
  refine w_ladd rfl ?_
  refine w_stl (ls' := [r0, .index q2, .index q14, vi x3, vl (x4 + ((gi a8 x7) * (gi a20 (x3 - x7)))), t5, vi x6, vi x7]) (ls'' := [r0, .index q2, .index q14, vi x3, vl (x4 + ((gi a8 x7) * (gi a20 (x3 - x7)))), .result, vi x6, vi x7]) rfl ⟨by decide, rfl⟩ rfl rfl ?_
  refine w_iinc (ls' := [r0, .index q2, .index q14, vi x3, vl (x4 + ((gi a8 x7) * (gi a20 (x3 - x7)))), .result, vi x6, vi (x7 + 1)]) rfl rfl 1 (by decide) rfl ?_
  refine w_goto rfl ?_
  exact k

theorem k182_134 {P : s_P} {d : Nat} {Q : s_O → Prop} {h : s_H} {kc ks : Nat} {r0 r1 r2 : Term} {x3 x4 : Int} {t5 : Term} {x6 x7 : Int} {q2 : Nat} {f3 : List Term} {v5 : Term} {q8 : Nat} {a9 : List Int} (g4 : s_get h q2 = some (1, 4, f3)) (g10 : s_get h q8 = some (0, 0, a9.map vi)) (k : wr P d sw_c182 sw_h182 (53, [.index q2, r1, r2, vi (x3 + (-1)), vl x4, t5, vi x6, vi x7], [], (hp h q8 (0, 0, (a9.set (Int.toNat (x3)) (Int.tmod x4 32003)).map vi)), kc, ks) Q) (e_q2 : r0 = .index q2 := by first | rfl | assumption) (e_q8 : v5 = .index q8 := by first | rfl | assumption) (y1 : s_ty r0 = 3 := by first | rfl | assumption) (n6 : s_nth f3 0 = some v5 := by first | rfl | assumption) (y15 : s_ty r2 = 3 := by first | rfl | assumption) (c7 : In6 x4 := by first | omega | assumption | (simp only [mk_len, List.length_map]; omega) | decide) (c11 : x3 < a9.length := by first | omega | assumption | (simp only [mk_len, List.length_map]; omega) | decide) (c12 : 0 ≤ x3 := by first | omega | assumption | (simp only [mk_len, List.length_map]; omega) | decide) (c13 : In3 x3 := by first | omega | assumption | (simp only [mk_len, List.length_map]; omega) | decide) (c14 : 0 < q8 := by first | omega | assumption | (simp only [mk_len, List.length_map]; omega) | decide) : wr P d sw_c182 sw_h182 (134, [r0, r1, r2, vi x3, vl x4, t5, vi x6, vi x7], [], h, kc, ks) Q := by
  refine w_ld rfl rfl (Or.inr (Or.inr ⟨by decide, y1⟩)) ?_
  subst e_q2
  refine w_getf rfl g4 n6 ?_
  refine w_ld rfl rfl (Or.inl ⟨by decide, rfl⟩) ?_
  refine w_ld rfl rfl (Or.inr (Or.inl ⟨by decide, rfl⟩)) ?_
  refine w_c64 rfl (by decide) 32003 (by decide) ?_
  refine w_lrem rfl c7 (by decide) (by decide) ?_
  refine w_l2i rfl ?_
  subst e_q8
  refine w_iast rfl g10 (Nat.ble_eq_true_of_le c14) c13 c12 c11 ?_
  refine w_iinc (ls' := [.index q2, r1, r2, vi (x3 + (-1)), vl x4, t5, vi x6, vi x7]) rfl rfl (-1) (by decide) (s_stK_r (pre := [.index q2, r1]) y15) ?_
  refine w_goto rfl ?_
  exact k

theorem k182_153 {P : s_P} {d : Nat} {Q : s_O → Prop} {h : s_H} {kc ks : Nat} {r0 r1 r2 : Term} {x3 : Int} {t4 t5 t6 t7 : Term}  (k : Q (.inl none, h, kc, ks))   : wr P d sw_c182 sw_h182 (153, [r0, r1, r2, vi x3, t4, t5, t6, t7], [], h, kc, ks) Q := by
  exact w_ret rfl k

/-! 183: FormulaWorks$Poly.setRow([III)V -/
theorem k183_0 {P : s_P} {d : Nat} {Q : s_O → Prop} {h : s_H} {kc ks : Nat} {r0 r1 : Term} {x2 x3 : Int} {t4 t5 : Term} {q2 : Nat} {f3 : List Term} {v5 : Term} {q7 : Nat} {a8 : List Term} {tg10 : Nat} (g4 : s_get h q2 = some (1, 4, f3)) (g9 : s_get h q7 = some (0, tg10, a8)) (k1 : (a8.length : Int) ≤ x3 → wr P d sw_c183 sw_h183 (13, [.index q2, r1, vi x2, vi x3, t4, t5], [], h, kc, ks) Q) (k2 : ¬ (a8.length : Int) ≤ x3 → wr P d sw_c183 sw_h183 (9, [.index q2, r1, vi x2, vi x3, t4, t5], [], h, kc, ks) Q) (e_q2 : r0 = .index q2 := by first | rfl | assumption) (e_q7 : v5 = .index q7 := by first | rfl | assumption) (y1 : s_ty r0 = 3 := by first | rfl | assumption) (n6 : s_nth f3 0 = some v5 := by first | rfl | assumption) (c11 : In3 x3 := by first | omega | assumption | (simp only [mk_len, List.length_map]; omega) | decide) (c12 : In3 (a8.length : Int) := by first | omega | assumption | (simp only [mk_len, List.length_map]; omega) | decide) : wr P d sw_c183 sw_h183 (0, [r0, r1, vi x2, vi x3, t4, t5], [], h, kc, ks) Q := by
  refine w_ld rfl rfl (Or.inl ⟨by decide, rfl⟩) ?_
  refine w_ld rfl rfl (Or.inr (Or.inr ⟨by decide, y1⟩)) ?_
  subst e_q2
  refine w_getf rfl g4 n6 ?_
  subst e_q7
  refine w_alen rfl g9 (Or.inl rfl) ?_
  exact w_if2 rfl c11 c12 k1 k2

theorem k183_9 {P : s_P} {d : Nat} {Q : s_O → Prop} {h : s_H} {kc ks : Nat} {r0 r1 : Term} {x2 x3 : Int} {t4 t5 : Term}  (k : wr P d sw_c183 sw_h183 (18, [r0, r1, vi x2, vi x3, t4, t5], [vi x3], h, kc, ks) Q)   : wr P d sw_c183 sw_h183 (9, [r0, r1, vi x2, vi x3, t4, t5], [], h, kc, ks) Q := by
  refine w_ld rfl rfl (Or.inl ⟨by decide, rfl⟩) ?_
  refine w_goto rfl ?_
  exact k

theorem k183_13 {P : s_P} {d : Nat} {Q : s_O → Prop} {h : s_H} {kc ks : Nat} {r0 r1 : Term} {x2 x3 : Int} {t4 t5 : Term} {q2 : Nat} {f3 : List Term} {v5 : Term} {q7 : Nat} {a8 : List Term} {tg10 : Nat} (g4 : s_get h q2 = some (1, 4, f3)) (g9 : s_get h q7 = some (0, tg10, a8)) (k : wr P d sw_c183 sw_h183 (18, [.index q2, r1, vi x2, vi x3, t4, t5], [vi (a8.length : Int)], h, kc, ks) Q) (e_q2 : r0 = .index q2 := by first | rfl | assumption) (e_q7 : v5 = .index q7 := by first | rfl | assumption) (y1 : s_ty r0 = 3 := by first | rfl | assumption) (n6 : s_nth f3 0 = some v5 := by first | rfl | assumption)  : wr P d sw_c183 sw_h183 (13, [r0, r1, vi x2, vi x3, t4, t5], [], h, kc, ks) Q := by
  refine w_ld rfl rfl (Or.inr (Or.inr ⟨by decide, y1⟩)) ?_
  subst e_q2
  refine w_getf rfl g4 n6 ?_
  subst e_q7
  refine w_alen rfl g9 (Or.inl rfl) ?_
  exact k

theorem k183_18 {P : s_P} {d : Nat} {Q : s_O → Prop} {h : s_H} {kc ks : Nat} {r0 r1 : Term} {x2 x3 : Int} {t4 t5 : Term} {s0 : Int}  (k : wr P d sw_c183 sw_h183 (23, [r0, r1, vi x2, vi x3, vi s0, vi 0], [], h, kc, ks) Q)   : wr P d sw_c183 sw_h183 (18, [r0, r1, vi x2, vi x3, t4, t5], [vi s0], h, kc, ks) Q := by
  refine w_st (ls' := [r0, r1, vi x2, vi x3, vi s0, t5]) rfl (Or.inl ⟨by decide, rfl⟩) rfl ?_
  refine w_c32 rfl (by decide) 0 (by decide) ?_
  refine w_st (ls' := [r0, r1, vi x2, vi x3, vi s0, vi 0]) rfl (Or.inl ⟨by decide, rfl⟩) rfl ?_
  exact k

theorem k183_23 {P : s_P} {d : Nat} {Q : s_O → Prop} {h : s_H} {kc ks : Nat} {r0 r1 : Term} {x2 x3 x4 x5 : Int}  (k1 : x4 ≤ x5 → wr P d sw_c183 sw_h183 (62, [r0, r1, vi x2, vi x3, vi x4, vi x5], [], h, kc, ks) Q) (k2 : ¬ x4 ≤ x5 → wr P d sw_c183 sw_h183 (30, [r0, r1, vi x2, vi x3, vi x4, vi x5], [], h, kc, ks) Q)  (c1 : In3 x5 := by first | omega | assumption | (simp only [mk_len, List.length_map]; omega) | decide) (c2 : In3 x4 := by first | omega | assumption | (simp only [mk_len, List.length_map]; omega) | decide) : wr P d sw_c183 sw_h183 (23, [r0, r1, vi x2, vi x3, vi x4, vi x5], [], h, kc, ks) Q := by
  refine w_ld rfl rfl (Or.inl ⟨by decide, rfl⟩) ?_
  refine w_ld rfl rfl (Or.inl ⟨by decide, rfl⟩) ?_
  exact w_if2 rfl c1 c2 k1 k2

theorem k183_30 {P : s_P} {d : Nat} {Q : s_O → Prop} {h : s_H} {kc ks : Nat} {r0 r1 : Term} {x2 x3 x4 x5 : Int} {q2 : Nat} {f3 : List Term} {v5 : Term} {q8 : Nat} {a9 : List Term} {tg11 : Nat} (g4 : s_get h q2 = some (1, 4, f3)) (g10 : s_get h q8 = some (0, tg11, a9)) (k1 : (a9.length : Int) ≤ x2 + x5 → wr P d sw_c183 sw_h183 (54, [.index q2, .index q8, vi x2, vi x3, vi x4, vi x5], [vi x5, v5], h, kc, ks) Q) (k2 : ¬ (a9.length : Int) ≤ x2 + x5 → wr P d sw_c183 sw_h183 (45, [.index q2, .index q8, vi x2, vi x3, vi x4, vi x5], [vi x5, v5], h, kc, ks) Q) (e_q2 : r0 = .index q2 := by first | rfl | assumption) (e_q8 : r1 = .index q8 := by first | rfl | assumption) (y1 : s_ty r0 = 3 := by first | rfl | assumption) (n6 : s_nth f3 0 = some v5 := by first | rfl | assumption) (y7 : s_ty r1 = 3 := by first | rfl | assumption) (c12 : In3 (x2 + x5) := by first | omega | assumption | (simp only [mk_len, List.length_map]; omega) | decide) (c13 : In3 (a9.length : Int) := by first | omega | assumption | (simp only [mk_len, List.length_map]; omega) | decide) : wr P d sw_c183 sw_h183 (30, [r0, r1, vi x2, vi x3, vi x4, vi x5], [], h, kc, ks) Q := by
  refine w_ld rfl rfl (Or.inr (Or.inr ⟨by decide, y1⟩)) ?_
  subst e_q2
  refine w_getf rfl g4 n6 ?_
  refine w_ld rfl rfl (Or.inl ⟨by decide, rfl⟩) ?_
  refine w_ld rfl rfl (Or.inl ⟨by decide, rfl⟩) ?_
  refine w_ld rfl rfl (Or.inl ⟨by decide, rfl⟩) ?_
  refine w_iadd rfl ?_
  refine w_ld rfl rfl (Or.inr (Or.inr ⟨by decide, y7⟩)) ?_
  subst e_q8
  refine w_alen rfl g10 (Or.inl rfl) ?_
  exact w_if2 rfl c12 c13 k1 k2

theorem k183_45 {P : s_P} {d : Nat} {Q : s_O → Prop} {h : s_H} {kc ks : Nat} {r0 r1 : Term} {x2 x3 x4 x5 : Int} {s0 : Term} {s1 : Int} {q2 : Nat} {a3 : List Int} (g4 : s_get h q2 = some (0, 0, a3.map vi)) (k : wr P d sw_c183 sw_h183 (55, [r0, .index q2, vi x2, vi x3, vi x4, vi x5], [vi (gi a3 (x2 + x5)), vi s1, s0], h, kc, ks) Q) (e_q2 : r1 = .index q2 := by first | rfl | assumption) (y1 : s_ty r1 = 3 := by first | rfl | assumption) (c5 : x2 + x5 < a3.length := by first | omega | assumption | (simp only [mk_len, List.length_map]; omega) | decide) (c6 : 0 ≤ x2 + x5 := by first | omega | assumption | (simp only [mk_len, List.length_map]; omega) | decide) (c7 : In3 (x2 + x5) := by first | omega | assumption | (simp only [mk_len, List.length_map]; omega) | decide) : wr P d sw_c183 sw_h183 (45, [r0, r1, vi x2, vi x3, vi x4, vi x5], [vi s1, s0], h, kc, ks) Q := by
  refine w_ld rfl rfl (Or.inr (Or.inr ⟨by decide, y1⟩)) ?_
  refine w_ld rfl rfl (Or.inl ⟨by decide, rfl⟩) ?_
  refine w_ld rfl rfl (Or.inl ⟨by decide, rfl⟩) ?_
  refine w_iadd rfl ?_
  subst e_q2
  refine w_iald rfl g4 (Or.inl rfl) c7 c6 c5 ?_
  refine w_goto rfl ?_
  exact k

theorem k183_54 {P : s_P} {d : Nat} {Q : s_O → Prop} {h : s_H} {kc ks : Nat} {r0 r1 : Term} {x2 x3 x4 x5 : Int} {s0 : Term} {s1 : Int}  (k : wr P d sw_c183 sw_h183 (55, [r0, r1, vi x2, vi x3, vi x4, vi x5], [vi 0, vi s1, s0], h, kc, ks) Q)   : wr P d sw_c183 sw_h183 (54, [r0, r1, vi x2, vi x3, vi x4, vi x5], [vi s1, s0], h, kc, ks) Q := by
  refine w_c32 rfl (by decide) 0 (by decide) ?_
  exact k

theorem k183_55 {P : s_P} {d : Nat} {Q : s_O → Prop} {h : s_H} {kc ks : Nat} {r0 r1 : Term} {x2 x3 x4 x5 : Int} {s0 : Term} {s1 s2 : Int} {q1 : Nat} {a2 : List Int} (g3 : s_get h q1 = some (0, 0, a2.map vi)) (k : wr P d sw_c183 sw_h183 (23, [r0, r1, vi x2, vi x3, vi x4, vi (x5 + 1)], [], (hp h q1 (0, 0, (a2.set (Int.toNat (s1)) s2).map vi)), kc, ks) Q) (e_q1 : s0 = .index q1 := by first | rfl | assumption) (c4 : s1 < a2.length := by first | omega | assumption | (simp only [mk_len, List.length_map]; omega) | decide) (c5 : 0 ≤ s1 := by first | omega | assumption | (simp only [mk_len, List.length_map]; omega) | decide) (c6 : In3 s1 := by first | omega | assumption | (simp only [mk_len, List.length_map]; omega) | decide) (c7 : 0 < q1 := by first | omega | assumption | (simp only [mk_len, List.length_map]; omega) | decide) : wr P d sw_c183 sw_h183 (55, [r0, r1, vi x2, vi x3, vi x4, vi x5], [vi s2, vi s1, s0], h, kc, ks) Q := by
  subst e_q1
  refine w_iast rfl g3 (Nat.ble_eq_true_of_le c7) c6 c5 c4 ?_
  refine w_iinc (ls' := [r0, r1, vi x2, vi x3, vi x4, vi (x5 + 1)]) rfl rfl 1 (by decide) rfl ?_
  refine w_goto rfl ?_
  exact k

theorem k183_62 {P : s_P} {d : Nat} {Q : s_O → Prop} {h : s_H} {kc ks : Nat} {r0 r1 : Term} {x2 x3 x4 x5 : Int} {q2 : Nat} {f3 : List Term} (g4 : s_get h q2 = some (1, 4, f3)) (k : wm P d 186 [.index q2, vi (x4 - 1)] h (wq P d sw_c183 sw_h183 70 [.index q2, r1, vi x2, vi x3, vi x4, vi x5] [] kc ks Q)) (e_q2 : r0 = .index q2 := by first | rfl | assumption) (y1 : s_ty r0 = 3 := by first | rfl | assumption)  : wr P d sw_c183 sw_h183 (62, [r0, r1, vi x2, vi x3, vi x4, vi x5], [], h, kc, ks) Q := by
  refine w_ld rfl rfl (Or.inr (Or.inr ⟨by decide, y1⟩)) ?_
  refine w_ld rfl rfl (Or.inl ⟨by decide, rfl⟩) ?_
  refine w_c32 rfl (by decide) 1 (by decide) ?_
  refine w_isub rfl ?_
  subst e_q2
  exact w_cv rfl [.index q2, vi (x4 - 1)] [] rfl rfl (s_wt_4 rfl) rfl g4 k

theorem k183_70 {P : s_P} {d : Nat} {Q : s_O → Prop} {h : s_H} {kc ks : Nat} {r0 r1 : Term} {x2 x3 x4 x5 : Int}  (k : Q (.inl none, h, kc, ks))   : wr P d sw_c183 sw_h183 (70, [r0, r1, vi x2, vi x3, vi x4, vi x5], [], h, kc, ks) Q := by
  exact w_ret rfl k

/-! 184: FormulaWorks$Poly.setSum(LFormulaWorks$Poly;LFormulaWorks$Poly;I)V -/
theorem k184_0 {P : s_P} {d : Nat} {Q : s_O → Prop} {h : s_H} {kc ks : Nat} {r0 r1 r2 : Term} {x3 : Int} {t4 t5 : Term} {q2 : Nat} {f3 : List Term} {z5 : Int} {q8 : Nat} {f9 : List Term} {z11 : Int} (g4 : s_get h q2 = some (1, 4, f3)) (g10 : s_get h q8 = some (1, 4, f9)) (k1 : z5 ≤ z11 → wr P d sw_c184 sw_h184 (18, [r0, .index q2, .index q8, vi x3, t4, t5], [], h, kc, ks) Q) (k2 : ¬ z5 ≤ z11 → wr P d sw_c184 sw_h184 (11, [r0, .index q2, .index q8, vi x3, t4, t5], [], h, kc, ks) Q) (e_q2 : r1 = .index q2 := by first | rfl | assumption) (e_q8 : r2 = .index q8 := by first | rfl | assumption) (y1 : s_ty r1 = 3 := by first | rfl | assumption) (n6 : s_nth f3 1 = some (vi z5) := by first | rfl | assumption) (y7 : s_ty r2 = 3 := by first | rfl | assumption) (n12 : s_nth f9 1 = some (vi z11) := by first | rfl | assumption) (c13 : In3 z5 := by first | omega | assumption | (simp only [mk_len, List.length_map]; omega) | decide) (c14 : In3 z11 := by first | omega | assumption | (simp only [mk_len, List.length_map]; omega) | decide) : wr P d sw_c184 sw_h184 (0, [r0, r1, r2, vi x3, t4, t5], [], h, kc, ks) Q := by
  refine w_ld rfl rfl (Or.inr (Or.inr ⟨by decide, y1⟩)) ?_
  subst e_q2
  refine w_getf rfl g4 n6 ?_
  refine w_ld rfl rfl (Or.inr (Or.inr ⟨by decide, y7⟩)) ?_
  subst e_q8
  refine w_getf rfl g10 n12 ?_
  exact w_if2 rfl c13 c14 k1 k2

theorem k184_11 {P : s_P} {d : Nat} {Q : s_O → Prop} {h : s_H} {kc ks : Nat} {r0 r1 r2 : Term} {x3 : Int} {t4 t5 : Term} {q2 : Nat} {f3 : List Term} {z5 : Int} (g4 : s_get h q2 = some (1, 4, f3)) (k : wr P d sw_c184 sw_h184 (22, [r0, .index q2, r2, vi x3, t4, t5], [vi z5], h, kc, ks) Q) (e_q2 : r1 = .index q2 := by first | rfl | assumption) (y1 : s_ty r1 = 3 := by first | rfl | assumption) (n6 : s_nth f3 1 = some (vi z5) := by first | rfl | assumption)  : wr P d sw_c184 sw_h184 (11, [r0, r1, r2, vi x3, t4, t5], [], h, kc, ks) Q := by
  refine w_ld rfl rfl (Or.inr (Or.inr ⟨by decide, y1⟩)) ?_
  subst e_q2
  refine w_getf rfl g4 n6 ?_
  refine w_goto rfl ?_
  exact k

theorem k184_18 {P : s_P} {d : Nat} {Q : s_O → Prop} {h : s_H} {kc ks : Nat} {r0 r1 r2 : Term} {x3 : Int} {t4 t5 : Term} {q2 : Nat} {f3 : List Term} {z5 : Int} (g4 : s_get h q2 = some (1, 4, f3)) (k : wr P d sw_c184 sw_h184 (22, [r0, r1, .index q2, vi x3, t4, t5], [vi z5], h, kc, ks) Q) (e_q2 : r2 = .index q2 := by first | rfl | assumption) (y1 : s_ty r2 = 3 := by first | rfl | assumption) (n6 : s_nth f3 1 = some (vi z5) := by first | rfl | assumption)  : wr P d sw_c184 sw_h184 (18, [r0, r1, r2, vi x3, t4, t5], [], h, kc, ks) Q := by
  refine w_ld rfl rfl (Or.inr (Or.inr ⟨by decide, y1⟩)) ?_
  subst e_q2
  refine w_getf rfl g4 n6 ?_
  exact k

theorem k184_22 {P : s_P} {d : Nat} {Q : s_O → Prop} {h : s_H} {kc ks : Nat} {r0 r1 r2 : Term} {x3 : Int} {t4 t5 : Term} {s0 : Int} {q2 : Nat} {f3 : List Term} {v5 : Term} {q7 : Nat} {a8 : List Term} {tg10 : Nat} (g4 : s_get h q2 = some (1, 4, f3)) (g9 : s_get h q7 = some (0, tg10, a8)) (k1 : s0 < (a8.length : Int) → wr P d sw_c184 sw_h184 (43, [.index q2, r1, r2, vi x3, vi s0, t5], [], h, kc, ks) Q) (k2 : ¬ s0 < (a8.length : Int) → wr P d sw_c184 sw_h184 (34, [.index q2, r1, r2, vi x3, vi s0, t5], [], h, kc, ks) Q) (e_q2 : r0 = .index q2 := by first | rfl | assumption) (e_q7 : v5 = .index q7 := by first | rfl | assumption) (y1 : s_ty r0 = 3 := by first | rfl | assumption) (n6 : s_nth f3 0 = some v5 := by first | rfl | assumption) (c11 : In3 s0 := by first | omega | assumption | (simp only [mk_len, List.length_map]; omega) | decide) (c12 : In3 (a8.length : Int) := by first | omega | assumption | (simp only [mk_len, List.length_map]; omega) | decide) : wr P d sw_c184 sw_h184 (22, [r0, r1, r2, vi x3, t4, t5], [vi s0], h, kc, ks) Q := by
  refine w_st (ls' := [r0, r1, r2, vi x3, vi s0, t5]) rfl (Or.inl ⟨by decide, rfl⟩) rfl ?_
  refine w_ld rfl rfl (Or.inl ⟨by decide, rfl⟩) ?_
  refine w_ld rfl rfl (Or.inr (Or.inr ⟨by decide, y1⟩)) ?_
  subst e_q2
  refine w_getf rfl g4 n6 ?_
  subst e_q7
  refine w_alen rfl g9 (Or.inl rfl) ?_
  exact w_if2 rfl c11 c12 k1 k2

theorem k184_34 {P : s_P} {d : Nat} {Q : s_O → Prop} {h : s_H} {kc ks : Nat} {r0 r1 r2 : Term} {x3 x4 : Int} {t5 : Term} {q2 : Nat} {f3 : List Term} {v5 : Term} {q7 : Nat} {a8 : List Term} {tg10 : Nat} (g4 : s_get h q2 = some (1, 4, f3)) (g9 : s_get h q7 = some (0, tg10, a8)) (k : wr P d sw_c184 sw_h184 (43, [.index q2, r1, r2, vi x3, vi ((a8.length : Int) - 1), t5], [], h, kc, ks) Q) (e_q2 : r0 = .index q2 := by first | rfl | assumption) (e_q7 : v5 = .index q7 := by first | rfl | assumption) (y1 : s_ty r0 = 3 := by first | rfl | assumption) (n6 : s_nth f3 0 = some v5 := by first | rfl | assumption)  : wr P d sw_c184 sw_h184 (34, [r0, r1, r2, vi x3, vi x4, t5], [], h, kc, ks) Q := by
  refine w_ld rfl rfl (Or.inr (Or.inr ⟨by decide, y1⟩)) ?_
  subst e_q2
  refine w_getf rfl g4 n6 ?_
  subst e_q7
  refine w_alen rfl g9 (Or.inl rfl) ?_
  refine w_c32 rfl (by decide) 1 (by decide) ?_
  refine w_isub rfl ?_
  refine w_st (ls' := [.index q2, r1, r2, vi x3, vi ((a8.length : Int) - 1), t5]) rfl (Or.inl ⟨by decide, rfl⟩) rfl ?_
  exact k

theorem k184_43 {P : s_P} {d : Nat} {Q : s_O → Prop} {h : s_H} {kc ks : Nat} {r0 r1 r2 : Term} {x3 x4 : Int} {t5 : Term}  (k : wr P d sw_c184 sw_h184 (46, [r0, r1, r2, vi x3, vi x4, vi 0], [], h, kc, ks) Q)   : wr P d sw_c184 sw_h184 (43, [r0, r1, r2, vi x3, vi x4, t5], [], h, kc, ks) Q := by
  refine w_c32 rfl (by decide) 0 (by decide) ?_
  refine w_st (ls' := [r0, r1, r2, vi x3, vi x4, vi 0]) rfl (Or.inl ⟨by decide, rfl⟩) rfl ?_
  exact k

theorem k184_46 {P : s_P} {d : Nat} {Q : s_O → Prop} {h : s_H} {kc ks : Nat} {r0 r1 r2 : Term} {x3 x4 x5 : Int}  (k1 : x4 < x5 → wr P d sw_c184 sw_h184 (85, [r0, r1, r2, vi x3, vi x4, vi x5], [], h, kc, ks) Q) (k2 : ¬ x4 < x5 → wr P d sw_c184 sw_h184 (53, [r0, r1, r2, vi x3, vi x4, vi x5], [], h, kc, ks) Q)  (c1 : In3 x5 := by first | omega | assumption | (simp only [mk_len, List.length_map]; omega) | decide) (c2 : In3 x4 := by first | omega | assumption | (simp only [mk_len, List.length_map]; omega) | decide) : wr P d sw_c184 sw_h184 (46, [r0, r1, r2, vi x3, vi x4, vi x5], [], h, kc, ks) Q := by
  refine w_ld rfl rfl (Or.inl ⟨by decide, rfl⟩) ?_
  refine w_ld rfl rfl (Or.inl ⟨by decide, rfl⟩) ?_
  exact w_if2 rfl c1 c2 k1 k2

theorem k184_53 {P : s_P} {d : Nat} {Q : s_O → Prop} {h : s_H} {kc ks : Nat} {r0 r1 r2 : Term} {x3 x4 x5 : Int} {q2 : Nat} {f3 : List Term} {v5 : Term} {q8 : Nat} {f9 : List Term} (g4 : s_get h q2 = some (1, 4, f3)) (g10 : s_get h q8 = some (1, 4, f9)) (k : wm P d 167 [.index q8, vi x5] h (wq P d sw_c184 sw_h184 65 [.index q2, .index q8, r2, vi x3, vi x4, vi x5] [vi x5, v5] kc ks Q)) (e_q2 : r0 = .index q2 := by first | rfl | assumption) (e_q8 : r1 = .index q8 := by first | rfl | assumption) (y1 : s_ty r0 = 3 := by first | rfl | assumption) (n6 : s_nth f3 0 = some v5 := by first | rfl | assumption) (y7 : s_ty r1 = 3 := by first | rfl | assumption)  : wr P d sw_c184 sw_h184 (53, [r0, r1, r2, vi x3, vi x4, vi x5], [], h, kc, ks) Q := by
  refine w_ld rfl rfl (Or.inr (Or.inr ⟨by decide, y1⟩)) ?_
  subst e_q2
  refine w_getf rfl g4 n6 ?_
  refine w_ld rfl rfl (Or.inl ⟨by decide, rfl⟩) ?_
  refine w_ld rfl rfl (Or.inr (Or.inr ⟨by decide, y7⟩)) ?_
  refine w_ld rfl rfl (Or.inl ⟨by decide, rfl⟩) ?_
  subst e_q8
  exact w_cv rfl [.index q8, vi x5] [vi x5, v5] rfl rfl (s_wt_4 rfl) rfl g10 k

theorem k184_65 {P : s_P} {d : Nat} {Q : s_O → Prop} {h : s_H} {kc ks : Nat} {r0 r1 r2 : Term} {x3 x4 x5 : Int} {s0 : Term} {s1 s2 : Int} {q2 : Nat} {f3 : List Term} (g4 : s_get h q2 = some (1, 4, f3)) (k : wm P d 167 [.index q2, vi x5] h (wq P d sw_c184 sw_h184 72 [r0, r1, .index q2, vi x3, vi x4, vi x5] [vi x3, vi s2, vi s1, s0] kc ks Q)) (e_q2 : r2 = .index q2 := by first | rfl | assumption) (y1 : s_ty r2 = 3 := by first | rfl | assumption)  : wr P d sw_c184 sw_h184 (65, [r0, r1, r2, vi x3, vi x4, vi x5], [vi s2, vi s1, s0], h, kc, ks) Q := by
  refine w_ld rfl rfl (Or.inl ⟨by decide, rfl⟩) ?_
  refine w_ld rfl rfl (Or.inr (Or.inr ⟨by decide, y1⟩)) ?_
  refine w_ld rfl rfl (Or.inl ⟨by decide, rfl⟩) ?_
  subst e_q2
  exact w_cv rfl [.index q2, vi x5] [vi x3, vi s2, vi s1, s0] rfl rfl (s_wt_4 rfl) rfl g4 k

theorem k184_72 {P : s_P} {d : Nat} {Q : s_O → Prop} {h : s_H} {kc ks : Nat} {r0 r1 r2 : Term} {x3 x4 x5 : Int} {s0 : Term} {s1 s2 s3 s4 : Int} {q2 : Nat} {a3 : List Int} (g4 : s_get h q2 = some (0, 0, a3.map vi)) (k : wr P d sw_c184 sw_h184 (46, [r0, r1, r2, vi x3, vi x4, vi (x5 + 1)], [], (hp h q2 (0, 0, (a3.set (Int.toNat (s1)) (Int.tmod (s2 + (s3 * s4)) 32003)).map vi)), kc, ks) Q) (e_q2 : s0 = .index q2 := by first | rfl | assumption) (c1 : In3 (s2 + (s3 * s4)) := by first | omega | assumption | (simp only [mk_len, List.length_map]; omega) | decide) (c5 : s1 < a3.length := by first | omega | assumption | (simp only [mk_len, List.length_map]; omega) | decide) (c6 : 0 ≤ s1 := by first | omega | assumption | (simp only [mk_len, List.length_map]; omega) | decide) (c7 : In3 s1 := by first | omega | assumption | (simp only [mk_len, List.length_map]; omega) | decide) (c8 : 0 < q2 := by first | omega | assumption | (simp only [mk_len, List.length_map]; omega) | decide) : wr P d sw_c184 sw_h184 (72, [r0, r1, r2, vi x3, vi x4, vi x5], [vi s4, vi s3, vi s2, vi s1, s0], h, kc, ks) Q := by
  refine w_imul rfl ?_
  refine w_iadd rfl ?_
  refine w_c32 rfl (by decide) 32003 (by decide) ?_
  refine w_irem rfl c1 (by decide) (by decide) ?_
  subst e_q2
  refine w_iast rfl g4 (Nat.ble_eq_true_of_le c8) c7 c6 c5 ?_
  refine w_iinc (ls' := [r0, r1, r2, vi x3, vi x4, vi (x5 + 1)]) rfl rfl 1 (by decide) rfl ?_
  refine w_goto rfl ?_
  exact k

theorem k184_85 {P : s_P} {d : Nat} {Q : s_O → Prop} {h : s_H} {kc ks : Nat} {r0 r1 r2 : Term} {x3 x4 x5 : Int} {q2 : Nat} {f3 : List Term} (g4 : s_get h q2 = some (1, 4, f3)) (k : wm P d 186 [.index q2, vi x4] h (wq P d sw_c184 sw_h184 91 [.index q2, r1, r2, vi x3, vi x4, vi x5] [] kc ks Q)) (e_q2 : r0 = .index q2 := by first | rfl | assumption) (y1 : s_ty r0 = 3 := by first | rfl | assumption)  : wr P d sw_c184 sw_h184 (85, [r0, r1, r2, vi x3, vi x4, vi x5], [], h, kc, ks) Q := by
  refine w_ld rfl rfl (Or.inr (Or.inr ⟨by decide, y1⟩)) ?_
  refine w_ld rfl rfl (Or.inl ⟨by decide, rfl⟩) ?_
  subst e_q2
  exact w_cv rfl [.index q2, vi x4] [] rfl rfl (s_wt_4 rfl) rfl g4 k

theorem k184_91 {P : s_P} {d : Nat} {Q : s_O → Prop} {h : s_H} {kc ks : Nat} {r0 r1 r2 : Term} {x3 x4 x5 : Int}  (k : Q (.inl none, h, kc, ks))   : wr P d sw_c184 sw_h184 (91, [r0, r1, r2, vi x3, vi x4, vi x5], [], h, kc, ks) Q := by
  exact w_ret rfl k

/-! 185: FormulaWorks$Poly.shift(I)V -/
theorem k185_0 {P : s_P} {d : Nat} {Q : s_O → Prop} {h : s_H} {kc ks : Nat} {r0 : Term} {x1 : Int} {t2 t3 t4 : Term}  (k : wm P d 623 [vi x1, vi 32003] h (wq P d sw_c185 sw_h185 7 [r0, vi x1, t2, t3, t4] [] kc ks Q))   : wr P d sw_c185 sw_h185 (0, [r0, vi x1, t2, t3, t4], [], h, kc, ks) Q := by
  refine w_ld rfl rfl (Or.inl ⟨by decide, rfl⟩) ?_
  refine w_c32 rfl (by decide) 32003 (by decide) ?_
  exact w_cs rfl [vi x1, vi 32003] [] rfl rfl (s_wt_4 rfl) k

theorem k185_7 {P : s_P} {d : Nat} {Q : s_O → Prop} {h : s_H} {kc ks : Nat} {r0 : Term} {x1 : Int} {t2 t3 t4 : Term} {s0 : Int}  (k : wr P d sw_c185 sw_h185 (10, [r0, vi x1, vi s0, vi 0, t4], [], h, kc, ks) Q)   : wr P d sw_c185 sw_h185 (7, [r0, vi x1, t2, t3, t4], [vi s0], h, kc, ks) Q := by
  refine w_st (ls' := [r0, vi x1, vi s0, t3, t4]) rfl (Or.inl ⟨by decide, rfl⟩) rfl ?_
  refine w_c32 rfl (by decide) 0 (by decide) ?_
  refine w_st (ls' := [r0, vi x1, vi s0, vi 0, t4]) rfl (Or.inl ⟨by decide, rfl⟩) rfl ?_
  exact k

theorem k185_10 {P : s_P} {d : Nat} {Q : s_O → Prop} {h : s_H} {kc ks : Nat} {r0 : Term} {x1 x2 x3 : Int} {t4 : Term} {q2 : Nat} {f3 : List Term} {z5 : Int} (g4 : s_get h q2 = some (1, 4, f3)) (k1 : z5 ≤ x3 → wr P d sw_c185 sw_h185 (74, [.index q2, vi x1, vi x2, vi x3, t4], [], h, kc, ks) Q) (k2 : ¬ z5 ≤ x3 → wr P d sw_c185 sw_h185 (18, [.index q2, vi x1, vi x2, vi x3, t4], [], h, kc, ks) Q) (e_q2 : r0 = .index q2 := by first | rfl | assumption) (y1 : s_ty r0 = 3 := by first | rfl | assumption) (n6 : s_nth f3 1 = some (vi z5) := by first | rfl | assumption) (c7 : In3 x3 := by first | omega | assumption | (simp only [mk_len, List.length_map]; omega) | decide) (c8 : In3 z5 := by first | omega | assumption | (simp only [mk_len, List.length_map]; omega) | decide) : wr P d sw_c185 sw_h185 (10, [r0, vi x1, vi x2, vi x3, t4], [], h, kc, ks) Q := by
  refine w_ld rfl rfl (Or.inl ⟨by decide, rfl⟩) ?_
  refine w_ld rfl rfl (Or.inr (Or.inr ⟨by decide, y1⟩)) ?_
  subst e_q2
  refine w_getf rfl g4 n6 ?_
  exact w_if2 rfl c7 c8 k1 k2

theorem k185_18 {P : s_P} {d : Nat} {Q : s_O → Prop} {h : s_H} {kc ks : Nat} {r0 : Term} {x1 x2 x3 : Int} {t4 : Term} {q2 : Nat} {f3 : List Term} {z5 : Int} (g4 : s_get h q2 = some (1, 4, f3)) (k : wr P d sw_c185 sw_h185 (26, [.index q2, vi x1, vi x2, vi x3, vi (z5 - 1)], [], h, kc, ks) Q) (e_q2 : r0 = .index q2 := by first | rfl | assumption) (y1 : s_ty r0 = 3 := by first | rfl | assumption) (n6 : s_nth f3 1 = some (vi z5) := by first | rfl | assumption)  : wr P d sw_c185 sw_h185 (18, [r0, vi x1, vi x2, vi x3, t4], [], h, kc, ks) Q := by
  refine w_ld rfl rfl (Or.inr (Or.inr ⟨by decide, y1⟩)) ?_
  subst e_q2
  refine w_getf rfl g4 n6 ?_
  refine w_c32 rfl (by decide) 1 (by decide) ?_
  refine w_isub rfl ?_
  refine w_st (ls' := [.index q2, vi x1, vi x2, vi x3, vi (z5 - 1)]) rfl (Or.inl ⟨by decide, rfl⟩) rfl ?_
  exact k

theorem k185_26 {P : s_P} {d : Nat} {Q : s_O → Prop} {h : s_H} {kc ks : Nat} {r0 : Term} {x1 x2 x3 x4 : Int}  (k1 : x4 < x3 → wr P d sw_c185 sw_h185 (68, [r0, vi x1, vi x2, vi x3, vi x4], [], h, kc, ks) Q) (k2 : ¬ x4 < x3 → wr P d sw_c185 sw_h185 (32, [r0, vi x1, vi x2, vi x3, vi x4], [], h, kc, ks) Q)  (c1 : In3 x4 := by first | omega | assumption | (simp only [mk_len, List.length_map]; omega) | decide) (c2 : In3 x3 := by first | omega | assumption | (simp only [mk_len, List.length_map]; omega) | decide) : wr P d sw_c185 sw_h185 (26, [r0, vi x1, vi x2, vi x3, vi x4], [], h, kc, ks) Q := by
  refine w_ld rfl rfl (Or.inl ⟨by decide, rfl⟩) ?_
  refine w_ld rfl rfl (Or.inl ⟨by decide, rfl⟩) ?_
  exact w_if2 rfl c1 c2 k1 k2

theorem k185_32 {P : s_P} {d : Nat} {Q : s_O → Prop} {h : s_H} {kc ks : Nat} {r0 : Term} {x1 x2 x3 x4 : Int} {q2 : Nat} {f3 : List Term} {v5 : Term} {q7 : Nat} {a8 : List Int} (g4 : s_get h q2 = some (1, 4, f3)) (g9 : s_get h q7 = some (0, 0, a8.map vi)) (k : wr P d sw_c185 sw_h185 (26, [.index q2, vi x1, vi x2, vi x3, vi (x4 + (-1))], [], (hp h q7 (0, 0, (a8.set (Int.toNat (x4)) (Int.tmod ((gi a8 x4) + (x2 * (gi a8 (x4 + 1)))) 32003)).map vi)), kc, ks) Q) (e_q2 : r0 = .index q2 := by first | rfl | assumption) (e_q7 : v5 = .index q7 := by first | rfl | assumption) (y1 : s_ty r0 = 3 := by first | rfl | assumption) (n6 : s_nth f3 0 = some v5 := by first | rfl | assumption) (c10 : x4 < a8.length := by first | omega | assumption | (simp only [mk_len, List.length_map]; omega) | decide) (c11 : 0 ≤ x4 := by first | omega | assumption | (simp only [mk_len, List.length_map]; omega) | decide) (c12 : In3 x4 := by first | omega | assumption | (simp only [mk_len, List.length_map]; omega) | decide) (c13 : x4 + 1 < a8.length := by first | omega | assumption | (simp only [mk_len, List.length_map]; omega) | decide) (c14 : 0 ≤ x4 + 1 := by first | omega | assumption | (simp only [mk_len, List.length_map]; omega) | decide) (c15 : In3 (x4 + 1) := by first | omega | assumption | (simp only [mk_len, List.length_map]; omega) | decide) (c16 : In3 ((gi a8 x4) + (x2 * (gi a8 (x4 + 1)))) := by first | omega | assumption | (simp only [mk_len, List.length_map]; omega) | decide) (c17 : 0 < q7 := by first | omega | assumption | (simp only [mk_len, List.length_map]; omega) | decide) : wr P d sw_c185 sw_h185 (32, [r0, vi x1, vi x2, vi x3, vi x4], [], h, kc, ks) Q := by
  refine w_ld rfl rfl (Or.inr (Or.inr ⟨by decide, y1⟩)) ?_
  subst e_q2
  refine w_getf rfl g4 n6 ?_
  refine w_ld rfl rfl (Or.inl ⟨by decide, rfl⟩) ?_
  refine w_ld rfl rfl (Or.inr (Or.inr ⟨by decide, rfl⟩)) ?_
  refine w_getf rfl g4 n6 ?_
  refine w_ld rfl rfl (Or.inl ⟨by decide, rfl⟩) ?_
  subst e_q7
  refine w_iald rfl g9 (Or.inl rfl) c12 c11 c10 ?_
  refine w_ld rfl rfl (Or.inl ⟨by decide, rfl⟩) ?_
  refine w_ld rfl rfl (Or.inr (Or.inr ⟨by decide, rfl⟩)) ?_
  refine w_getf rfl g4 n6 ?_
  refine w_ld rfl rfl (Or.inl ⟨by decide, rfl⟩) ?_
  refine w_c32 rfl (by decide) 1 (by decide) ?_
  refine w_iadd rfl ?_
  refine w_iald rfl g9 (Or.inl rfl) c15 c14 c13 ?_
  refine w_imul rfl ?_
  refine w_iadd rfl ?_
  refine w_c32 rfl (by decide) 32003 (by decide) ?_
  refine w_irem rfl c16 (by decide) (by decide) ?_
  refine w_iast rfl g9 (Nat.ble_eq_true_of_le c17) c12 c11 c10 ?_
  refine w_iinc (ls' := [.index q2, vi x1, vi x2, vi x3, vi (x4 + (-1))]) rfl rfl (-1) (by decide) rfl ?_
  refine w_goto rfl ?_
  exact k

theorem k185_68 {P : s_P} {d : Nat} {Q : s_O → Prop} {h : s_H} {kc ks : Nat} {r0 : Term} {x1 x2 x3 x4 : Int}  (k : wr P d sw_c185 sw_h185 (10, [r0, vi x1, vi x2, vi (x3 + 1), vi x4], [], h, kc, ks) Q)   : wr P d sw_c185 sw_h185 (68, [r0, vi x1, vi x2, vi x3, vi x4], [], h, kc, ks) Q := by
  refine w_iinc (ls' := [r0, vi x1, vi x2, vi (x3 + 1), vi x4]) rfl rfl 1 (by decide) rfl ?_
  refine w_goto rfl ?_
  exact k

theorem k185_74 {P : s_P} {d : Nat} {Q : s_O → Prop} {h : s_H} {kc ks : Nat} {r0 : Term} {x1 x2 x3 : Int} {t4 : Term}  (k : Q (.inl none, h, kc, ks))   : wr P d sw_c185 sw_h185 (74, [r0, vi x1, vi x2, vi x3, t4], [], h, kc, ks) Q := by
  exact w_ret rfl k

/-! 186: FormulaWorks$Poly.trim(I)V -/
theorem k186_0 {P : s_P} {d : Nat} {Q : s_O → Prop} {h : s_H} {kc ks : Nat} {r0 : Term} {x1 : Int} {t2 : Term} {q2 : Nat} {f3 : List Term} {v5 : Term} {q7 : Nat} {a8 : List Term} {tg10 : Nat} (g4 : s_get h q2 = some (1, 4, f3)) (g9 : s_get h q7 = some (0, tg10, a8)) (k1 : (a8.length : Int) ≤ x1 → wr P d sw_c186 sw_h186 (13, [.index q2, vi x1, t2], [], h, kc, ks) Q) (k2 : ¬ (a8.length : Int) ≤ x1 → wr P d sw_c186 sw_h186 (9, [.index q2, vi x1, t2], [], h, kc, ks) Q) (e_q2 : r0 = .index q2 := by first | rfl | assumption) (e_q7 : v5 = .index q7 := by first | rfl | assumption) (y1 : s_ty r0 = 3 := by first | rfl | assumption) (n6 : s_nth f3 0 = some v5 := by first | rfl | assumption) (c11 : In3 x1 := by first | omega | assumption | (simp only [mk_len, List.length_map]; omega) | decide) (c12 : In3 (a8.length : Int) := by first | omega | assumption | (simp only [mk_len, List.length_map]; omega) | decide) : wr P d sw_c186 sw_h186 (0, [r0, vi x1, t2], [], h, kc, ks) Q := by
  refine w_ld rfl rfl (Or.inl ⟨by decide, rfl⟩) ?_
  refine w_ld rfl rfl (Or.inr (Or.inr ⟨by decide, y1⟩)) ?_
  subst e_q2
  refine w_getf rfl g4 n6 ?_
  subst e_q7
  refine w_alen rfl g9 (Or.inl rfl) ?_
  exact w_if2 rfl c11 c12 k1 k2

theorem k186_9 {P : s_P} {d : Nat} {Q : s_O → Prop} {h : s_H} {kc ks : Nat} {r0 : Term} {x1 : Int} {t2 : Term}  (k : wr P d sw_c186 sw_h186 (20, [r0, vi x1, t2], [vi x1], h, kc, ks) Q)   : wr P d sw_c186 sw_h186 (9, [r0, vi x1, t2], [], h, kc, ks) Q := by
  refine w_ld rfl rfl (Or.inl ⟨by decide, rfl⟩) ?_
  refine w_goto rfl ?_
  exact k

theorem k186_13 {P : s_P} {d : Nat} {Q : s_O → Prop} {h : s_H} {kc ks : Nat} {r0 : Term} {x1 : Int} {t2 : Term} {q2 : Nat} {f3 : List Term} {v5 : Term} {q7 : Nat} {a8 : List Term} {tg10 : Nat} (g4 : s_get h q2 = some (1, 4, f3)) (g9 : s_get h q7 = some (0, tg10, a8)) (k : wr P d sw_c186 sw_h186 (20, [.index q2, vi x1, t2], [vi ((a8.length : Int) - 1)], h, kc, ks) Q) (e_q2 : r0 = .index q2 := by first | rfl | assumption) (e_q7 : v5 = .index q7 := by first | rfl | assumption) (y1 : s_ty r0 = 3 := by first | rfl | assumption) (n6 : s_nth f3 0 = some v5 := by first | rfl | assumption)  : wr P d sw_c186 sw_h186 (13, [r0, vi x1, t2], [], h, kc, ks) Q := by
  refine w_ld rfl rfl (Or.inr (Or.inr ⟨by decide, y1⟩)) ?_
  subst e_q2
  refine w_getf rfl g4 n6 ?_
  subst e_q7
  refine w_alen rfl g9 (Or.inl rfl) ?_
  refine w_c32 rfl (by decide) 1 (by decide) ?_
  refine w_isub rfl ?_
  exact k

theorem k186_20 {P : s_P} {d : Nat} {Q : s_O → Prop} {h : s_H} {kc ks : Nat} {r0 : Term} {x1 : Int} {t2 : Term} {s0 : Int}  (k : wr P d sw_c186 sw_h186 (21, [r0, vi x1, vi s0], [], h, kc, ks) Q)   : wr P d sw_c186 sw_h186 (20, [r0, vi x1, t2], [vi s0], h, kc, ks) Q := by
  refine w_st (ls' := [r0, vi x1, vi s0]) rfl (Or.inl ⟨by decide, rfl⟩) rfl ?_
  exact k

theorem k186_21 {P : s_P} {d : Nat} {Q : s_O → Prop} {h : s_H} {kc ks : Nat} {r0 : Term} {x1 x2 : Int}  (k1 : x2 < 0 → wr P d sw_c186 sw_h186 (40, [r0, vi x1, vi x2], [], h, kc, ks) Q) (k2 : ¬ x2 < 0 → wr P d sw_c186 sw_h186 (25, [r0, vi x1, vi x2], [], h, kc, ks) Q)  (c1 : In3 x2 := by first | omega | assumption | (simp only [mk_len, List.length_map]; omega) | decide) : wr P d sw_c186 sw_h186 (21, [r0, vi x1, vi x2], [], h, kc, ks) Q := by
  refine w_ld rfl rfl (Or.inl ⟨by decide, rfl⟩) ?_
  exact w_if1 rfl c1 k1 k2

theorem k186_25 {P : s_P} {d : Nat} {Q : s_O → Prop} {h : s_H} {kc ks : Nat} {r0 : Term} {x1 x2 : Int} {q2 : Nat} {f3 : List Term} {v5 : Term} {q7 : Nat} {a8 : List Int} (g4 : s_get h q2 = some (1, 4, f3)) (g9 : s_get h q7 = some (0, 0, a8.map vi)) (k1 : gi a8 x2 ≠ 0 → wr P d sw_c186 sw_h186 (40, [.index q2, vi x1, vi x2], [], h, kc, ks) Q) (k2 : ¬ gi a8 x2 ≠ 0 → wr P d sw_c186 sw_h186 (34, [.index q2, vi x1, vi x2], [], h, kc, ks) Q) (e_q2 : r0 = .index q2 := by first | rfl | assumption) (e_q7 : v5 = .index q7 := by first | rfl | assumption) (y1 : s_ty r0 = 3 := by first | rfl | assumption) (n6 : s_nth f3 0 = some v5 := by first | rfl | assumption) (c10 : x2 < a8.length := by first | omega | assumption | (simp only [mk_len, List.length_map]; omega) | decide) (c11 : 0 ≤ x2 := by first | omega | assumption | (simp only [mk_len, List.length_map]; omega) | decide) (c12 : In3 x2 := by first | omega | assumption | (simp only [mk_len, List.length_map]; omega) | decide) (c13 : In3 (gi a8 x2) := by first | omega | assumption | (simp only [mk_len, List.length_map]; omega) | decide) : wr P d sw_c186 sw_h186 (25, [r0, vi x1, vi x2], [], h, kc, ks) Q := by
  refine w_ld rfl rfl (Or.inr (Or.inr ⟨by decide, y1⟩)) ?_
  subst e_q2
  refine w_getf rfl g4 n6 ?_
  refine w_ld rfl rfl (Or.inl ⟨by decide, rfl⟩) ?_
  subst e_q7
  refine w_iald rfl g9 (Or.inl rfl) c12 c11 c10 ?_
  exact w_if1 rfl c13 k1 k2

theorem k186_34 {P : s_P} {d : Nat} {Q : s_O → Prop} {h : s_H} {kc ks : Nat} {r0 : Term} {x1 x2 : Int}  (k : wr P d sw_c186 sw_h186 (21, [r0, vi x1, vi (x2 + (-1))], [], h, kc, ks) Q)   : wr P d sw_c186 sw_h186 (34, [r0, vi x1, vi x2], [], h, kc, ks) Q := by
  refine w_iinc (ls' := [r0, vi x1, vi (x2 + (-1))]) rfl rfl (-1) (by decide) rfl ?_
  refine w_goto rfl ?_
  exact k

theorem k186_40 {P : s_P} {d : Nat} {Q : s_O → Prop} {h : s_H} {kc ks : Nat} {r0 : Term} {x1 x2 : Int} {q2 : Nat} {f3 : List Term} (g4 : s_get h q2 = some (1, 4, f3)) (k : Q (.inl none, (hp h q2 (1, 4, f3.set 1 (vi x2))), kc, ks)) (e_q2 : r0 = .index q2 := by first | rfl | assumption) (y1 : s_ty r0 = 3 := by first | rfl | assumption) (l5 : 1 < f3.length := by first | exact Nat.le_of_ble_eq_true rfl | omega | assumption) (c6 : 0 < q2 := by first | omega | assumption | (simp only [mk_len, List.length_map]; omega) | decide) : wr P d sw_c186 sw_h186 (40, [r0, vi x1, vi x2], [], h, kc, ks) Q := by
  refine w_ld rfl rfl (Or.inr (Or.inr ⟨by decide, y1⟩)) ?_
  refine w_ld rfl rfl (Or.inl ⟨by decide, rfl⟩) ?_
  subst e_q2
  refine w_putf rfl g4 (Nat.ble_eq_true_of_le c6) rfl (Nat.ble_eq_true_of_le l5) ?_
  exact w_ret rfl k

/-! 187: FormulaWorks$Poly.valueAt(I)I -/
theorem k187_0 {P : s_P} {d : Nat} {Q : s_O → Prop} {h : s_H} {kc ks : Nat} {r0 : Term} {x1 : Int} {t2 t3 : Term} {q2 : Nat} {f3 : List Term} {z5 : Int} (g4 : s_get h q2 = some (1, 4, f3)) (k : wr P d sw_c187 sw_h187 (7, [.index q2, vi x1, vi 0, vi z5], [], h, kc, ks) Q) (e_q2 : r0 = .index q2 := by first | rfl | assumption) (y1 : s_ty r0 = 3 := by first | rfl | assumption) (n6 : s_nth f3 1 = some (vi z5) := by first | rfl | assumption)  : wr P d sw_c187 sw_h187 (0, [r0, vi x1, t2, t3], [], h, kc, ks) Q := by
  refine w_c32 rfl (by decide) 0 (by decide) ?_
  refine w_st (ls' := [r0, vi x1, vi 0, t3]) rfl (Or.inl ⟨by decide, rfl⟩) rfl ?_
  refine w_ld rfl rfl (Or.inr (Or.inr ⟨by decide, y1⟩)) ?_
  subst e_q2
  refine w_getf rfl g4 n6 ?_
  refine w_st (ls' := [.index q2, vi x1, vi 0, vi z5]) rfl (Or.inl ⟨by decide, rfl⟩) rfl ?_
  exact k

theorem k187_7 {P : s_P} {d : Nat} {Q : s_O → Prop} {h : s_H} {kc ks : Nat} {r0 : Term} {x1 x2 x3 : Int}  (k1 : x3 < 0 → wr P d sw_c187 sw_h187 (32, [r0, vi x1, vi x2, vi x3], [], h, kc, ks) Q) (k2 : ¬ x3 < 0 → wr P d sw_c187 sw_h187 (11, [r0, vi x1, vi x2, vi x3], [], h, kc, ks) Q)  (c1 : In3 x3 := by first | omega | assumption | (simp only [mk_len, List.length_map]; omega) | decide) : wr P d sw_c187 sw_h187 (7, [r0, vi x1, vi x2, vi x3], [], h, kc, ks) Q := by
  refine w_ld rfl rfl (Or.inl ⟨by decide, rfl⟩) ?_
  exact w_if1 rfl c1 k1 k2

theorem k187_11 {P : s_P} {d : Nat} {Q : s_O → Prop} {h : s_H} {kc ks : Nat} {r0 : Term} {x1 x2 x3 : Int} {q2 : Nat} {f3 : List Term} {v5 : Term} {q7 : Nat} {a8 : List Int} (g4 : s_get h q2 = some (1, 4, f3)) (g9 : s_get h q7 = some (0, 0, a8.map vi)) (k : wr P d sw_c187 sw_h187 (7, [.index q2, vi x1, vi (Int.tmod ((x2 * x1) + (gi a8 x3)) 32003), vi (x3 + (-1))], [], h, kc, ks) Q) (e_q2 : r0 = .index q2 := by first | rfl | assumption) (e_q7 : v5 = .index q7 := by first | rfl | assumption) (y1 : s_ty r0 = 3 := by first | rfl | assumption) (n6 : s_nth f3 0 = some v5 := by first | rfl | assumption) (c10 : x3 < a8.length := by first | omega | assumption | (simp only [mk_len, List.length_map]; omega) | decide) (c11 : 0 ≤ x3 := by first | omega | assumption | (simp only [mk_len, List.length_map]; omega) | decide) (c12 : In3 x3 := by first | omega | assumption | (simp only [mk_len, List.length_map]; omega) | decide) (c13 : In3 ((x2 * x1) + (gi a8 x3)) := by first | omega | assumption | (simp only [mk_len, List.length_map]; omega) | decide) : wr P d sw_c187 sw_h187 (11, [r0, vi x1, vi x2, vi x3], [], h, kc, ks) Q := by
  refine w_ld rfl rfl (Or.inl ⟨by decide, rfl⟩) ?_
  refine w_ld rfl rfl (Or.inl ⟨by decide, rfl⟩) ?_
  refine w_imul rfl ?_
  refine w_ld rfl rfl (Or.inr (Or.inr ⟨by decide, y1⟩)) ?_
  subst e_q2
  refine w_getf rfl g4 n6 ?_
  refine w_ld rfl rfl (Or.inl ⟨by decide, rfl⟩) ?_
  subst e_q7
  refine w_iald rfl g9 (Or.inl rfl) c12 c11 c10 ?_
  refine w_iadd rfl ?_
  refine w_c32 rfl (by decide) 32003 (by decide) ?_
  refine w_irem rfl c13 (by decide) (by decide) ?_
  refine w_st (ls' := [.index q2, vi x1, vi (Int.tmod ((x2 * x1) + (gi a8 x3)) 32003), vi x3]) rfl (Or.inl ⟨by decide, rfl⟩) rfl ?_
  refine w_iinc (ls' := [.index q2, vi x1, vi (Int.tmod ((x2 * x1) + (gi a8 x3)) 32003), vi (x3 + (-1))]) rfl rfl (-1) (by decide) rfl ?_
  refine w_goto rfl ?_
  exact k

theorem k187_32 {P : s_P} {d : Nat} {Q : s_O → Prop} {h : s_H} {kc ks : Nat} {r0 : Term} {x1 x2 x3 : Int}  (k : Q (.inl (some (vi x2)), h, kc, ks))   : wr P d sw_c187 sw_h187 (32, [r0, vi x1, vi x2, vi x3], [], h, kc, ks) Q := by
  refine w_ld rfl rfl (Or.inl ⟨by decide, rfl⟩) ?_
  exact w_iret rfl k

/-! 189: FormulaWorks$Reader.afterPower()V -/
theorem k189_0 {P : s_P} {d : Nat} {Q : s_O → Prop} {h : s_H} {kc ks : Nat} {r0 t1 : Term} {q2 : Nat} {f3 : List Term} (g4 : s_get h q2 = some (1, 5, f3)) (k : wm P d 200 [.index q2] h (wq P d sw_c189 sw_h189 4 [.index q2, t1] [] kc ks Q)) (e_q2 : r0 = .index q2 := by first | rfl | assumption) (y1 : s_ty r0 = 3 := by first | rfl | assumption)  : wr P d sw_c189 sw_h189 (0, [r0, t1], [], h, kc, ks) Q := by
  refine w_ld rfl rfl (Or.inr (Or.inr ⟨by decide, y1⟩)) ?_
  subst e_q2
  exact w_cv rfl [.index q2] [] rfl rfl (s_wt_4 rfl) rfl g4 k

theorem k189_4 {P : s_P} {d : Nat} {Q : s_O → Prop} {h : s_H} {kc ks : Nat} {r0 t1 : Term} {s0 : Int}  (k1 : s0 = 42 → wr P d sw_c189 sw_h189 (17, [r0, vi s0], [], h, kc, ks) Q) (k2 : ¬ s0 = 42 → wr P d sw_c189 sw_h189 (11, [r0, vi s0], [], h, kc, ks) Q) (y1 : s_ty r0 = 3 := by first | rfl | assumption) (c2 : In3 s0 := by first | omega | assumption | (simp only [mk_len, List.length_map]; omega) | decide) : wr P d sw_c189 sw_h189 (4, [r0, t1], [vi s0], h, kc, ks) Q := by
  refine w_st (ls' := [r0, vi s0]) rfl (Or.inl ⟨by decide, rfl⟩) (s_stK_r (pre := []) y1) ?_
  refine w_ld rfl rfl (Or.inl ⟨by decide, rfl⟩) ?_
  refine w_c32 rfl (by decide) 42 (by decide) ?_
  exact w_if2 rfl c2 (by decide) k1 k2

theorem k189_11 {P : s_P} {d : Nat} {Q : s_O → Prop} {h : s_H} {kc ks : Nat} {r0 : Term} {x1 : Int}  (k1 : x1 ≠ 47 → wr P d sw_c189 sw_h189 (38, [r0, vi x1], [], h, kc, ks) Q) (k2 : ¬ x1 ≠ 47 → wr P d sw_c189 sw_h189 (17, [r0, vi x1], [], h, kc, ks) Q)  (c1 : In3 x1 := by first | omega | assumption | (simp only [mk_len, List.length_map]; omega) | decide) : wr P d sw_c189 sw_h189 (11, [r0, vi x1], [], h, kc, ks) Q := by
  refine w_ld rfl rfl (Or.inl ⟨by decide, rfl⟩) ?_
  refine w_c32 rfl (by decide) 47 (by decide) ?_
  exact w_if2 rfl c1 (by decide) k1 k2

theorem k189_17 {P : s_P} {d : Nat} {Q : s_O → Prop} {h : s_H} {kc ks : Nat} {r0 : Term} {x1 : Int} {q2 : Nat} {f3 : List Term} {v5 : Term} {z7 z9 : Int} {q11 : Nat} {a12 : List Int} {f18 : List Term} (g4 : s_get h q2 = some (1, 5, f3)) (g13 : s_get h q11 = some (0, 0, a12.map vi)) (g19 : s_get (hp h q11 (0, 0, (a12.set (Int.toNat (z7)) z9).map vi)) q2 = some (1, 5, f18)) (k : wm P d 209 [.index q2, vi 1] (hp h q11 (0, 0, (a12.set (Int.toNat (z7)) z9).map vi)) (wq P d sw_c189 sw_h189 35 [.index q2, vi x1] [] kc ks Q)) (e_q2 : r0 = .index q2 := by first | rfl | assumption) (e_q11 : v5 = .index q11 := by first | rfl | assumption) (y1 : s_ty r0 = 3 := by first | rfl | assumption) (n6 : s_nth f3 7 = some v5 := by first | rfl | assumption) (n8 : s_nth f3 14 = some (vi z7) := by first | rfl | assumption) (n10 : s_nth f3 13 = some (vi z9) := by first | rfl | assumption) (c14 : z7 < a12.length := by first | omega | assumption | (simp only [mk_len, List.length_map]; omega) | decide) (c15 : 0 ≤ z7 := by first | omega | assumption | (simp only [mk_len, List.length_map]; omega) | decide) (c16 : In3 z7 := by first | omega | assumption | (simp only [mk_len, List.length_map]; omega) | decide) (c17 : 0 < q11 := by first | omega | assumption | (simp only [mk_len, List.length_map]; omega) | decide) : wr P d sw_c189 sw_h189 (17, [r0, vi x1], [], h, kc, ks) Q := by
  refine w_ld rfl rfl (Or.inr (Or.inr ⟨by decide, y1⟩)) ?_
  subst e_q2
  refine w_getf rfl g4 n6 ?_
  refine w_ld rfl rfl (Or.inr (Or.inr ⟨by decide, rfl⟩)) ?_
  refine w_getf rfl g4 n8 ?_
  refine w_ld rfl rfl (Or.inr (Or.inr ⟨by decide, rfl⟩)) ?_
  refine w_getf rfl g4 n10 ?_
  subst e_q11
  refine w_iast rfl g13 (Nat.ble_eq_true_of_le c17) c16 c15 c14 ?_
  refine w_ld rfl rfl (Or.inr (Or.inr ⟨by decide, rfl⟩)) ?_
  refine w_c32 rfl (by decide) 1 (by decide) ?_
  exact w_cv rfl [.index q2, vi 1] [] rfl rfl (s_wt_4 rfl) rfl g19 k

theorem k189_35 {P : s_P} {d : Nat} {Q : s_O → Prop} {h : s_H} {kc ks : Nat} {r0 : Term} {x1 : Int}  (k : wr P d sw_c189 sw_h189 (43, [r0, vi x1], [], h, kc, ks) Q)   : wr P d sw_c189 sw_h189 (35, [r0, vi x1], [], h, kc, ks) Q := by
  refine w_goto rfl ?_
  exact k

theorem k189_38 {P : s_P} {d : Nat} {Q : s_O → Prop} {h : s_H} {kc ks : Nat} {r0 : Term} {x1 : Int} {q2 : Nat} {f3 : List Term} (g4 : s_get h q2 = some (1, 5, f3)) (k : wr P d sw_c189 sw_h189 (43, [.index q2, vi x1], [], (hp h q2 (1, 5, f3.set 15 (vi 4))), kc, ks) Q) (e_q2 : r0 = .index q2 := by first | rfl | assumption) (y1 : s_ty r0 = 3 := by first | rfl | assumption) (l5 : 15 < f3.length := by first | exact Nat.le_of_ble_eq_true rfl | omega | assumption) (c6 : 0 < q2 := by first | omega | assumption | (simp only [mk_len, List.length_map]; omega) | decide) : wr P d sw_c189 sw_h189 (38, [r0, vi x1], [], h, kc, ks) Q := by
  refine w_ld rfl rfl (Or.inr (Or.inr ⟨by decide, y1⟩)) ?_
  refine w_c32 rfl (by decide) 4 (by decide) ?_
  subst e_q2
  refine w_putf rfl g4 (Nat.ble_eq_true_of_le c6) rfl (Nat.ble_eq_true_of_le l5) ?_
  exact k

theorem k189_43 {P : s_P} {d : Nat} {Q : s_O → Prop} {h : s_H} {kc ks : Nat} {r0 : Term} {x1 : Int}  (k : Q (.inl none, h, kc, ks))   : wr P d sw_c189 sw_h189 (43, [r0, vi x1], [], h, kc, ks) Q := by
  exact w_ret rfl k

/-! 190: FormulaWorks$Reader.afterTerm()V -/
theorem k190_0 {P : s_P} {d : Nat} {Q : s_O → Prop} {h : s_H} {kc ks : Nat} {r0 t1 : Term} {q2 : Nat} {f3 : List Term} (g4 : s_get h q2 = some (1, 5, f3)) (k : wm P d 200 [.index q2] h (wq P d sw_c190 sw_h190 4 [.index q2, t1] [] kc ks Q)) (e_q2 : r0 = .index q2 := by first | rfl | assumption) (y1 : s_ty r0 = 3 := by first | rfl | assumption)  : wr P d sw_c190 sw_h190 (0, [r0, t1], [], h, kc, ks) Q := by
  refine w_ld rfl rfl (Or.inr (Or.inr ⟨by decide, y1⟩)) ?_
  subst e_q2
  exact w_cv rfl [.index q2] [] rfl rfl (s_wt_4 rfl) rfl g4 k

theorem k190_4 {P : s_P} {d : Nat} {Q : s_O → Prop} {h : s_H} {kc ks : Nat} {r0 t1 : Term} {s0 : Int}  (k1 : s0 = 43 → wr P d sw_c190 sw_h190 (17, [r0, vi s0], [], h, kc, ks) Q) (k2 : ¬ s0 = 43 → wr P d sw_c190 sw_h190 (11, [r0, vi s0], [], h, kc, ks) Q) (y1 : s_ty r0 = 3 := by first | rfl | assumption) (c2 : In3 s0 := by first | omega | assumption | (simp only [mk_len, List.length_map]; omega) | decide) : wr P d sw_c190 sw_h190 (4, [r0, t1], [vi s0], h, kc, ks) Q := by
  refine w_st (ls' := [r0, vi s0]) rfl (Or.inl ⟨by decide, rfl⟩) (s_stK_r (pre := []) y1) ?_
  refine w_ld rfl rfl (Or.inl ⟨by decide, rfl⟩) ?_
  refine w_c32 rfl (by decide) 43 (by decide) ?_
  exact w_if2 rfl c2 (by decide) k1 k2

theorem k190_11 {P : s_P} {d : Nat} {Q : s_O → Prop} {h : s_H} {kc ks : Nat} {r0 : Term} {x1 : Int}  (k1 : x1 ≠ 45 → wr P d sw_c190 sw_h190 (38, [r0, vi x1], [], h, kc, ks) Q) (k2 : ¬ x1 ≠ 45 → wr P d sw_c190 sw_h190 (17, [r0, vi x1], [], h, kc, ks) Q)  (c1 : In3 x1 := by first | omega | assumption | (simp only [mk_len, List.length_map]; omega) | decide) : wr P d sw_c190 sw_h190 (11, [r0, vi x1], [], h, kc, ks) Q := by
  refine w_ld rfl rfl (Or.inl ⟨by decide, rfl⟩) ?_
  refine w_c32 rfl (by decide) 45 (by decide) ?_
  exact w_if2 rfl c1 (by decide) k1 k2

theorem k190_17 {P : s_P} {d : Nat} {Q : s_O → Prop} {h : s_H} {kc ks : Nat} {r0 : Term} {x1 : Int} {q2 : Nat} {f3 : List Term} {v5 : Term} {z7 z9 : Int} {q11 : Nat} {a12 : List Int} {f18 : List Term} (g4 : s_get h q2 = some (1, 5, f3)) (g13 : s_get h q11 = some (0, 0, a12.map vi)) (g19 : s_get (hp h q11 (0, 0, (a12.set (Int.toNat (z7)) z9).map vi)) q2 = some (1, 5, f18)) (k : wm P d 209 [.index q2, vi 1] (hp h q11 (0, 0, (a12.set (Int.toNat (z7)) z9).map vi)) (wq P d sw_c190 sw_h190 35 [.index q2, vi x1] [] kc ks Q)) (e_q2 : r0 = .index q2 := by first | rfl | assumption) (e_q11 : v5 = .index q11 := by first | rfl | assumption) (y1 : s_ty r0 = 3 := by first | rfl | assumption) (n6 : s_nth f3 6 = some v5 := by first | rfl | assumption) (n8 : s_nth f3 14 = some (vi z7) := by first | rfl | assumption) (n10 : s_nth f3 13 = some (vi z9) := by first | rfl | assumption) (c14 : z7 < a12.length := by first | omega | assumption | (simp only [mk_len, List.length_map]; omega) | decide) (c15 : 0 ≤ z7 := by first | omega | assumption | (simp only [mk_len, List.length_map]; omega) | decide) (c16 : In3 z7 := by first | omega | assumption | (simp only [mk_len, List.length_map]; omega) | decide) (c17 : 0 < q11 := by first | omega | assumption | (simp only [mk_len, List.length_map]; omega) | decide) : wr P d sw_c190 sw_h190 (17, [r0, vi x1], [], h, kc, ks) Q := by
  refine w_ld rfl rfl (Or.inr (Or.inr ⟨by decide, y1⟩)) ?_
  subst e_q2
  refine w_getf rfl g4 n6 ?_
  refine w_ld rfl rfl (Or.inr (Or.inr ⟨by decide, rfl⟩)) ?_
  refine w_getf rfl g4 n8 ?_
  refine w_ld rfl rfl (Or.inr (Or.inr ⟨by decide, rfl⟩)) ?_
  refine w_getf rfl g4 n10 ?_
  subst e_q11
  refine w_iast rfl g13 (Nat.ble_eq_true_of_le c17) c16 c15 c14 ?_
  refine w_ld rfl rfl (Or.inr (Or.inr ⟨by decide, rfl⟩)) ?_
  refine w_c32 rfl (by decide) 1 (by decide) ?_
  exact w_cv rfl [.index q2, vi 1] [] rfl rfl (s_wt_4 rfl) rfl g19 k

theorem k190_35 {P : s_P} {d : Nat} {Q : s_O → Prop} {h : s_H} {kc ks : Nat} {r0 : Term} {x1 : Int}  (k : wr P d sw_c190 sw_h190 (160, [r0, vi x1], [], h, kc, ks) Q)   : wr P d sw_c190 sw_h190 (35, [r0, vi x1], [], h, kc, ks) Q := by
  refine w_goto rfl ?_
  exact k

theorem k190_38 {P : s_P} {d : Nat} {Q : s_O → Prop} {h : s_H} {kc ks : Nat} {r0 : Term} {x1 : Int}  (k1 : x1 ≠ 41 → wr P d sw_c190 sw_h190 (69, [r0, vi x1], [], h, kc, ks) Q) (k2 : ¬ x1 ≠ 41 → wr P d sw_c190 sw_h190 (44, [r0, vi x1], [], h, kc, ks) Q)  (c1 : In3 x1 := by first | omega | assumption | (simp only [mk_len, List.length_map]; omega) | decide) : wr P d sw_c190 sw_h190 (38, [r0, vi x1], [], h, kc, ks) Q := by
  refine w_ld rfl rfl (Or.inl ⟨by decide, rfl⟩) ?_
  refine w_c32 rfl (by decide) 41 (by decide) ?_
  exact w_if2 rfl c1 (by decide) k1 k2

theorem k190_44 {P : s_P} {d : Nat} {Q : s_O → Prop} {h : s_H} {kc ks : Nat} {r0 : Term} {x1 : Int} {q2 : Nat} {f3 : List Term} {z5 : Int} (g4 : s_get h q2 = some (1, 5, f3)) (k1 : z5 ≤ 0 → wr P d sw_c190 sw_h190 (69, [.index q2, vi x1], [], h, kc, ks) Q) (k2 : ¬ z5 ≤ 0 → wr P d sw_c190 sw_h190 (51, [.index q2, vi x1], [], h, kc, ks) Q) (e_q2 : r0 = .index q2 := by first | rfl | assumption) (y1 : s_ty r0 = 3 := by first | rfl | assumption) (n6 : s_nth f3 14 = some (vi z5) := by first | rfl | assumption) (c7 : In3 z5 := by first | omega | assumption | (simp only [mk_len, List.length_map]; omega) | decide) : wr P d sw_c190 sw_h190 (44, [r0, vi x1], [], h, kc, ks) Q := by
  refine w_ld rfl rfl (Or.inr (Or.inr ⟨by decide, y1⟩)) ?_
  subst e_q2
  refine w_getf rfl g4 n6 ?_
  exact w_if1 rfl c7 k1 k2

theorem k190_51 {P : s_P} {d : Nat} {Q : s_O → Prop} {h : s_H} {kc ks : Nat} {r0 : Term} {x1 : Int} {q2 : Nat} {f3 : List Term} {z5 : Int} {f9 : List Term} (g4 : s_get h q2 = some (1, 5, f3)) (g10 : s_get (hp h q2 (1, 5, f3.set 14 (vi (z5 - 1)))) q2 = some (1, 5, f9)) (k : wm P d 209 [.index q2, vi 2] (hp h q2 (1, 5, f3.set 14 (vi (z5 - 1)))) (wq P d sw_c190 sw_h190 66 [.index q2, vi x1] [] kc ks Q)) (e_q2 : r0 = .index q2 := by first | rfl | assumption) (y1 : s_ty r0 = 3 := by first | rfl | assumption) (n6 : s_nth f3 14 = some (vi z5) := by first | rfl | assumption) (l7 : 14 < f3.length := by first | exact Nat.le_of_ble_eq_true rfl | omega | assumption) (c8 : 0 < q2 := by first | omega | assumption | (simp only [mk_len, List.length_map]; omega) | decide) : wr P d sw_c190 sw_h190 (51, [r0, vi x1], [], h, kc, ks) Q := by
  refine w_ld rfl rfl (Or.inr (Or.inr ⟨by decide, y1⟩)) ?_
  refine w_dup rfl (by rw [y1]; rfl) ?_
  subst e_q2
  refine w_getf rfl g4 n6 ?_
  refine w_c32 rfl (by decide) 1 (by decide) ?_
  refine w_isub rfl ?_
  refine w_putf rfl g4 (Nat.ble_eq_true_of_le c8) rfl (Nat.ble_eq_true_of_le l7) ?_
  refine w_ld rfl rfl (Or.inr (Or.inr ⟨by decide, rfl⟩)) ?_
  refine w_c32 rfl (by decide) 2 (by decide) ?_
  exact w_cv rfl [.index q2, vi 2] [] rfl rfl (s_wt_4 rfl) rfl g10 k

theorem k190_66 {P : s_P} {d : Nat} {Q : s_O → Prop} {h : s_H} {kc ks : Nat} {r0 : Term} {x1 : Int}  (k : wr P d sw_c190 sw_h190 (160, [r0, vi x1], [], h, kc, ks) Q)   : wr P d sw_c190 sw_h190 (66, [r0, vi x1], [], h, kc, ks) Q := by
  refine w_goto rfl ?_
  exact k

theorem k190_69 {P : s_P} {d : Nat} {Q : s_O → Prop} {h : s_H} {kc ks : Nat} {r0 : Term} {x1 : Int}  (k1 : x1 ≠ 61 → wr P d sw_c190 sw_h190 (119, [r0, vi x1], [], h, kc, ks) Q) (k2 : ¬ x1 ≠ 61 → wr P d sw_c190 sw_h190 (75, [r0, vi x1], [], h, kc, ks) Q)  (c1 : In3 x1 := by first | omega | assumption | (simp only [mk_len, List.length_map]; omega) | decide) : wr P d sw_c190 sw_h190 (69, [r0, vi x1], [], h, kc, ks) Q := by
  refine w_ld rfl rfl (Or.inl ⟨by decide, rfl⟩) ?_
  refine w_c32 rfl (by decide) 61 (by decide) ?_
  exact w_if2 rfl c1 (by decide) k1 k2

theorem k190_75 {P : s_P} {d : Nat} {Q : s_O → Prop} {h : s_H} {kc ks : Nat} {r0 : Term} {x1 : Int} {q2 : Nat} {f3 : List Term} {z5 : Int} (g4 : s_get h q2 = some (1, 5, f3)) (k1 : z5 ≠ 0 → wr P d sw_c190 sw_h190 (119, [.index q2, vi x1], [], h, kc, ks) Q) (k2 : ¬ z5 ≠ 0 → wr P d sw_c190 sw_h190 (82, [.index q2, vi x1], [], h, kc, ks) Q) (e_q2 : r0 = .index q2 := by first | rfl | assumption) (y1 : s_ty r0 = 3 := by first | rfl | assumption) (n6 : s_nth f3 14 = some (vi z5) := by first | rfl | assumption) (c7 : In3 z5 := by first | omega | assumption | (simp only [mk_len, List.length_map]; omega) | decide) : wr P d sw_c190 sw_h190 (75, [r0, vi x1], [], h, kc, ks) Q := by
  refine w_ld rfl rfl (Or.inr (Or.inr ⟨by decide, y1⟩)) ?_
  subst e_q2
  refine w_getf rfl g4 n6 ?_
  exact w_if1 rfl c7 k1 k2

theorem k190_82 {P : s_P} {d : Nat} {Q : s_O → Prop} {h : s_H} {kc ks : Nat} {r0 : Term} {x1 : Int} {q2 : Nat} {f3 : List Term} (g4 : s_get h q2 = some (1, 5, f3)) (k : wm P d 201 [.index q2, vi 4] h (wq P d sw_c190 sw_h190 87 [.index q2, vi x1] [] kc ks Q)) (e_q2 : r0 = .index q2 := by first | rfl | assumption) (y1 : s_ty r0 = 3 := by first | rfl | assumption)  : wr P d sw_c190 sw_h190 (82, [r0, vi x1], [], h, kc, ks) Q := by
  refine w_ld rfl rfl (Or.inr (Or.inr ⟨by decide, y1⟩)) ?_
  refine w_c32 rfl (by decide) 4 (by decide) ?_
  subst e_q2
  exact w_cv rfl [.index q2, vi 4] [] rfl rfl (s_wt_4 rfl) rfl g4 k

theorem k190_87 {P : s_P} {d : Nat} {Q : s_O → Prop} {h : s_H} {kc ks : Nat} {r0 : Term} {x1 s0 : Int}  (k1 : s0 = 0 → wr P d sw_c190 sw_h190 (119, [r0, vi x1], [], h, kc, ks) Q) (k2 : ¬ s0 = 0 → wr P d sw_c190 sw_h190 (90, [r0, vi x1], [], h, kc, ks) Q)  (c1 : In3 s0 := by first | omega | assumption | (simp only [mk_len, List.length_map]; omega) | decide) : wr P d sw_c190 sw_h190 (87, [r0, vi x1], [vi s0], h, kc, ks) Q := by
  exact w_if1 rfl c1 k1 k2

theorem k190_90 {P : s_P} {d : Nat} {Q : s_O → Prop} {h : s_H} {kc ks : Nat} {r0 : Term} {x1 : Int} {q2 : Nat} {f3 : List Term} {z5 : Int} (g4 : s_get h q2 = some (1, 5, f3)) (k1 : z5 ≠ 0 → wr P d sw_c190 sw_h190 (119, [.index q2, vi x1], [], h, kc, ks) Q) (k2 : ¬ z5 ≠ 0 → wr P d sw_c190 sw_h190 (97, [.index q2, vi x1], [], h, kc, ks) Q) (e_q2 : r0 = .index q2 := by first | rfl | assumption) (y1 : s_ty r0 = 3 := by first | rfl | assumption) (n6 : s_nth f3 16 = some (vi z5) := by first | rfl | assumption) (c7 : In3 z5 := by first | omega | assumption | (simp only [mk_len, List.length_map]; omega) | decide) : wr P d sw_c190 sw_h190 (90, [r0, vi x1], [], h, kc, ks) Q := by
  refine w_ld rfl rfl (Or.inr (Or.inr ⟨by decide, y1⟩)) ?_
  subst e_q2
  refine w_getf rfl g4 n6 ?_
  exact w_if1 rfl c7 k1 k2

theorem k190_97 {P : s_P} {d : Nat} {Q : s_O → Prop} {h : s_H} {kc ks : Nat} {r0 : Term} {x1 : Int} {q2 : Nat} {f3 f7 : List Term} {z9 : Int} {f12 : List Term} (g4 : s_get h q2 = some (1, 5, f3)) (g8 : s_get (hp h q2 (1, 5, f3.set 16 (vi 1))) q2 = some (1, 5, f7)) (g13 : s_get (hp (hp h q2 (1, 5, f3.set 16 (vi 1))) q2 (1, 5, f7.set 13 (vi (z9 + 1)))) q2 = some (1, 5, f12)) (k : wm P d 208 [.index q2] (hp (hp h q2 (1, 5, f3.set 16 (vi 1))) q2 (1, 5, f7.set 13 (vi (z9 + 1)))) (wq P d sw_c190 sw_h190 116 [.index q2, vi x1] [] kc ks Q)) (e_q2 : r0 = .index q2 := by first | rfl | assumption) (y1 : s_ty r0 = 3 := by first | rfl | assumption) (l5 : 16 < f3.length := by first | exact Nat.le_of_ble_eq_true rfl | omega | assumption) (n10 : s_nth f7 13 = some (vi z9) := by first | rfl | assumption) (l11 : 13 < f7.length := by first | exact Nat.le_of_ble_eq_true rfl | omega | assumption) (c6 : 0 < q2 := by first | omega | assumption | (simp only [mk_len, List.length_map]; omega) | decide) : wr P d sw_c190 sw_h190 (97, [r0, vi x1], [], h, kc, ks) Q := by
  refine w_ld rfl rfl (Or.inr (Or.inr ⟨by decide, y1⟩)) ?_
  refine w_c32 rfl (by decide) 1 (by decide) ?_
  subst e_q2
  refine w_putf rfl g4 (Nat.ble_eq_true_of_le c6) (by decide) (Nat.ble_eq_true_of_le l5) ?_
  refine w_ld rfl rfl (Or.inr (Or.inr ⟨by decide, rfl⟩)) ?_
  refine w_dup rfl rfl ?_
  refine w_getf rfl g8 n10 ?_
  refine w_c32 rfl (by decide) 1 (by decide) ?_
  refine w_iadd rfl ?_
  refine w_putf rfl g8 (Nat.ble_eq_true_of_le c6) rfl (Nat.ble_eq_true_of_le l11) ?_
  refine w_ld rfl rfl (Or.inr (Or.inr ⟨by decide, rfl⟩)) ?_
  exact w_cv rfl [.index q2] [] rfl rfl (s_wt_4 rfl) rfl g13 k

theorem k190_116 {P : s_P} {d : Nat} {Q : s_O → Prop} {h : s_H} {kc ks : Nat} {r0 : Term} {x1 : Int}  (k : wr P d sw_c190 sw_h190 (160, [r0, vi x1], [], h, kc, ks) Q)   : wr P d sw_c190 sw_h190 (116, [r0, vi x1], [], h, kc, ks) Q := by
  refine w_goto rfl ?_
  exact k

theorem k190_119 {P : s_P} {d : Nat} {Q : s_O → Prop} {h : s_H} {kc ks : Nat} {r0 : Term} {x1 : Int}  (k1 : x1 ≠ (-1) → wr P d sw_c190 sw_h190 (151, [r0, vi x1], [], h, kc, ks) Q) (k2 : ¬ x1 ≠ (-1) → wr P d sw_c190 sw_h190 (124, [r0, vi x1], [], h, kc, ks) Q)  (c1 : In3 x1 := by first | omega | assumption | (simp only [mk_len, List.length_map]; omega) | decide) : wr P d sw_c190 sw_h190 (119, [r0, vi x1], [], h, kc, ks) Q := by
  refine w_ld rfl rfl (Or.inl ⟨by decide, rfl⟩) ?_
  refine w_c32 rfl (by decide) (-1) (by decide) ?_
  exact w_if2 rfl c1 (by decide) k1 k2

theorem k190_124 {P : s_P} {d : Nat} {Q : s_O → Prop} {h : s_H} {kc ks : Nat} {r0 : Term} {x1 : Int} {q2 : Nat} {f3 : List Term} {z5 : Int} (g4 : s_get h q2 = some (1, 5, f3)) (k1 : z5 ≠ 0 → wr P d sw_c190 sw_h190 (151, [.index q2, vi x1], [], h, kc, ks) Q) (k2 : ¬ z5 ≠ 0 → wr P d sw_c190 sw_h190 (131, [.index q2, vi x1], [], h, kc, ks) Q) (e_q2 : r0 = .index q2 := by first | rfl | assumption) (y1 : s_ty r0 = 3 := by first | rfl | assumption) (n6 : s_nth f3 14 = some (vi z5) := by first | rfl | assumption) (c7 : In3 z5 := by first | omega | assumption | (simp only [mk_len, List.length_map]; omega) | decide) : wr P d sw_c190 sw_h190 (124, [r0, vi x1], [], h, kc, ks) Q := by
  refine w_ld rfl rfl (Or.inr (Or.inr ⟨by decide, y1⟩)) ?_
  subst e_q2
  refine w_getf rfl g4 n6 ?_
  exact w_if1 rfl c7 k1 k2

theorem k190_131 {P : s_P} {d : Nat} {Q : s_O → Prop} {h : s_H} {kc ks : Nat} {r0 : Term} {x1 : Int} {q2 : Nat} {f3 : List Term} {z5 : Int} (g4 : s_get h q2 = some (1, 5, f3)) (k : wm P d 201 [.index q2, vi 4] h (wq P d sw_c190 sw_h190 140 [.index q2, vi x1] [vi z5] kc ks Q)) (e_q2 : r0 = .index q2 := by first | rfl | assumption) (y1 : s_ty r0 = 3 := by first | rfl | assumption) (n6 : s_nth f3 16 = some (vi z5) := by first | rfl | assumption)  : wr P d sw_c190 sw_h190 (131, [r0, vi x1], [], h, kc, ks) Q := by
  refine w_ld rfl rfl (Or.inr (Or.inr ⟨by decide, y1⟩)) ?_
  subst e_q2
  refine w_getf rfl g4 n6 ?_
  refine w_ld rfl rfl (Or.inr (Or.inr ⟨by decide, rfl⟩)) ?_
  refine w_c32 rfl (by decide) 4 (by decide) ?_
  exact w_cv rfl [.index q2, vi 4] [vi z5] rfl rfl (s_wt_4 rfl) rfl g4 k

theorem k190_140 {P : s_P} {d : Nat} {Q : s_O → Prop} {h : s_H} {kc ks : Nat} {r0 : Term} {x1 s0 s1 : Int}  (k1 : s0 ≠ s1 → wr P d sw_c190 sw_h190 (151, [r0, vi x1], [], h, kc, ks) Q) (k2 : ¬ s0 ≠ s1 → wr P d sw_c190 sw_h190 (143, [r0, vi x1], [], h, kc, ks) Q)  (c1 : In3 s0 := by first | omega | assumption | (simp only [mk_len, List.length_map]; omega) | decide) (c2 : In3 s1 := by first | omega | assumption | (simp only [mk_len, List.length_map]; omega) | decide) : wr P d sw_c190 sw_h190 (140, [r0, vi x1], [vi s1, vi s0], h, kc, ks) Q := by
  exact w_if2 rfl c1 c2 k1 k2

theorem k190_143 {P : s_P} {d : Nat} {Q : s_O → Prop} {h : s_H} {kc ks : Nat} {r0 : Term} {x1 : Int} {q2 : Nat} {f3 : List Term} (g4 : s_get h q2 = some (1, 5, f3)) (k : wr P d sw_c190 sw_h190 (160, [.index q2, vi x1], [], (hp h q2 (1, 5, f3.set 17 (vi 1))), kc, ks) Q) (e_q2 : r0 = .index q2 := by first | rfl | assumption) (y1 : s_ty r0 = 3 := by first | rfl | assumption) (l5 : 17 < f3.length := by first | exact Nat.le_of_ble_eq_true rfl | omega | assumption) (c6 : 0 < q2 := by first | omega | assumption | (simp only [mk_len, List.length_map]; omega) | decide) : wr P d sw_c190 sw_h190 (143, [r0, vi x1], [], h, kc, ks) Q := by
  refine w_ld rfl rfl (Or.inr (Or.inr ⟨by decide, y1⟩)) ?_
  refine w_c32 rfl (by decide) 1 (by decide) ?_
  subst e_q2
  refine w_putf rfl g4 (Nat.ble_eq_true_of_le c6) (by decide) (Nat.ble_eq_true_of_le l5) ?_
  refine w_goto rfl ?_
  exact k

theorem k190_151 {P : s_P} {d : Nat} {Q : s_O → Prop} {h : s_H} {kc ks : Nat} {r0 : Term} {x1 : Int} {q2 : Nat} {f3 : List Term} {z5 : Int} (g4 : s_get h q2 = some (1, 5, f3)) (k : wm P d 195 [.index q2, vi 1, vi z5] h (wq P d sw_c190 sw_h190 160 [.index q2, vi x1] [] kc ks Q)) (e_q2 : r0 = .index q2 := by first | rfl | assumption) (y1 : s_ty r0 = 3 := by first | rfl | assumption) (n6 : s_nth f3 13 = some (vi z5) := by first | rfl | assumption)  : wr P d sw_c190 sw_h190 (151, [r0, vi x1], [], h, kc, ks) Q := by
  refine w_ld rfl rfl (Or.inr (Or.inr ⟨by decide, y1⟩)) ?_
  refine w_c32 rfl (by decide) 1 (by decide) ?_
  refine w_ld rfl rfl (Or.inr (Or.inr ⟨by decide, y1⟩)) ?_
  subst e_q2
  refine w_getf rfl g4 n6 ?_
  exact w_cv rfl [.index q2, vi 1, vi z5] [] rfl rfl (s_wt_4 rfl) rfl g4 k

theorem k190_160 {P : s_P} {d : Nat} {Q : s_O → Prop} {h : s_H} {kc ks : Nat} {r0 : Term} {x1 : Int}  (k : Q (.inl none, h, kc, ks))   : wr P d sw_c190 sw_h190 (160, [r0, vi x1], [], h, kc, ks) Q := by
  exact w_ret rfl k

/-! 191: FormulaWorks$Reader.atom()I -/
theorem k191_0 {P : s_P} {d : Nat} {Q : s_O → Prop} {h : s_H} {kc ks : Nat} {r0 t1 : Term} {q2 : Nat} {f3 : List Term} (g4 : s_get h q2 = some (1, 5, f3)) (k : wm P d 200 [.index q2] h (wq P d sw_c191 sw_h191 4 [.index q2, t1] [] kc ks Q)) (e_q2 : r0 = .index q2 := by first | rfl | assumption) (y1 : s_ty r0 = 3 := by first | rfl | assumption)  : wr P d sw_c191 sw_h191 (0, [r0, t1], [], h, kc, ks) Q := by
  refine w_ld rfl rfl (Or.inr (Or.inr ⟨by decide, y1⟩)) ?_
  subst e_q2
  exact w_cv rfl [.index q2] [] rfl rfl (s_wt_4 rfl) rfl g4 k

theorem k191_4 {P : s_P} {d : Nat} {Q : s_O → Prop} {h : s_H} {kc ks : Nat} {r0 t1 : Term} {s0 : Int} {q2 : Nat} {f3 : List Term} (g4 : s_get h q2 = some (1, 5, f3)) (k : wm P d 198 [.index q2] h (wq P d sw_c191 sw_h191 9 [.index q2, vi s0] [] kc ks Q)) (e_q2 : r0 = .index q2 := by first | rfl | assumption) (y1 : s_ty r0 = 3 := by first | rfl | assumption)  : wr P d sw_c191 sw_h191 (4, [r0, t1], [vi s0], h, kc, ks) Q := by
  refine w_st (ls' := [r0, vi s0]) rfl (Or.inl ⟨by decide, rfl⟩) (s_stK_r (pre := []) y1) ?_
  refine w_ld rfl rfl (Or.inr (Or.inr ⟨by decide, y1⟩)) ?_
  subst e_q2
  exact w_cv rfl [.index q2] [] rfl rfl (s_wt_4 rfl) rfl g4 k

theorem k191_9 {P : s_P} {d : Nat} {Q : s_O → Prop} {h : s_H} {kc ks : Nat} {r0 : Term} {x1 s0 : Int}  (k1 : s0 = 0 → wr P d sw_c191 sw_h191 (25, [r0, vi x1], [], h, kc, ks) Q) (k2 : ¬ s0 = 0 → wr P d sw_c191 sw_h191 (12, [r0, vi x1], [], h, kc, ks) Q)  (c1 : In3 s0 := by first | omega | assumption | (simp only [mk_len, List.length_map]; omega) | decide) : wr P d sw_c191 sw_h191 (9, [r0, vi x1], [vi s0], h, kc, ks) Q := by
  exact w_if1 rfl c1 k1 k2

theorem k191_12 {P : s_P} {d : Nat} {Q : s_O → Prop} {h : s_H} {kc ks : Nat} {r0 : Term} {x1 : Int} {q2 : Nat} {f3 : List Term} (g4 : s_get h q2 = some (1, 5, f3)) (k : wm P d 194 [.index q2, vi 6] h (wq P d sw_c191 sw_h191 19 [.index q2, vi x1] [.index q2] kc ks Q)) (e_q2 : r0 = .index q2 := by first | rfl | assumption) (y1 : s_ty r0 = 3 := by first | rfl | assumption)  : wr P d sw_c191 sw_h191 (12, [r0, vi x1], [], h, kc, ks) Q := by
  refine w_ld rfl rfl (Or.inr (Or.inr ⟨by decide, y1⟩)) ?_
  refine w_ld rfl rfl (Or.inr (Or.inr ⟨by decide, y1⟩)) ?_
  refine w_c32 rfl (by decide) 6 (by decide) ?_
  subst e_q2
  exact w_cv rfl [.index q2, vi 6] [.index q2] rfl rfl (s_wt_4 rfl) rfl g4 k

theorem k191_19 {P : s_P} {d : Nat} {Q : s_O → Prop} {h : s_H} {kc ks : Nat} {r0 : Term} {x1 : Int} {s0 : Term} {s1 : Int} {q1 : Nat} {f2 : List Term} (g3 : s_get h q1 = some (1, 5, f2)) (k : wm P d 205 [.index q1, vi s1] h (wq P d sw_c191 sw_h191 22 [r0, vi x1] [] kc ks Q)) (e_q1 : s0 = .index q1 := by first | rfl | assumption)  : wr P d sw_c191 sw_h191 (19, [r0, vi x1], [vi s1, s0], h, kc, ks) Q := by
  subst e_q1
  exact w_cv rfl [.index q1, vi s1] [] rfl rfl (s_wt_4 rfl) rfl g3 k

theorem k191_22 {P : s_P} {d : Nat} {Q : s_O → Prop} {h : s_H} {kc ks : Nat} {r0 : Term} {x1 : Int}  (k : wr P d sw_c191 sw_h191 (145, [r0, vi x1], [], h, kc, ks) Q)   : wr P d sw_c191 sw_h191 (22, [r0, vi x1], [], h, kc, ks) Q := by
  refine w_goto rfl ?_
  exact k

theorem k191_25 {P : s_P} {d : Nat} {Q : s_O → Prop} {h : s_H} {kc ks : Nat} {r0 : Term} {x1 : Int}  (k1 : x1 ≠ 120 → wr P d sw_c191 sw_h191 (43, [r0, vi x1], [], h, kc, ks) Q) (k2 : ¬ x1 ≠ 120 → wr P d sw_c191 sw_h191 (31, [r0, vi x1], [], h, kc, ks) Q)  (c1 : In3 x1 := by first | omega | assumption | (simp only [mk_len, List.length_map]; omega) | decide) : wr P d sw_c191 sw_h191 (25, [r0, vi x1], [], h, kc, ks) Q := by
  refine w_ld rfl rfl (Or.inl ⟨by decide, rfl⟩) ?_
  refine w_c32 rfl (by decide) 120 (by decide) ?_
  exact w_if2 rfl c1 (by decide) k1 k2

theorem k191_31 {P : s_P} {d : Nat} {Q : s_O → Prop} {h : s_H} {kc ks : Nat} {r0 : Term} {x1 : Int} {q2 : Nat} {f3 : List Term} (g4 : s_get h q2 = some (1, 5, f3)) (k : wm P d 204 [.index q2] h (wq P d sw_c191 sw_h191 35 [.index q2, vi x1] [] kc ks Q)) (e_q2 : r0 = .index q2 := by first | rfl | assumption) (y1 : s_ty r0 = 3 := by first | rfl | assumption)  : wr P d sw_c191 sw_h191 (31, [r0, vi x1], [], h, kc, ks) Q := by
  refine w_ld rfl rfl (Or.inr (Or.inr ⟨by decide, y1⟩)) ?_
  subst e_q2
  exact w_cv rfl [.index q2] [] rfl rfl (s_wt_4 rfl) rfl g4 k

theorem k191_35 {P : s_P} {d : Nat} {Q : s_O → Prop} {h : s_H} {kc ks : Nat} {r0 : Term} {x1 : Int} {q2 : Nat} {f3 : List Term} (g4 : s_get h q2 = some (1, 5, f3)) (k : wm P d 209 [.index q2, vi 2] h (wq P d sw_c191 sw_h191 40 [.index q2, vi x1] [] kc ks Q)) (e_q2 : r0 = .index q2 := by first | rfl | assumption) (y1 : s_ty r0 = 3 := by first | rfl | assumption)  : wr P d sw_c191 sw_h191 (35, [r0, vi x1], [], h, kc, ks) Q := by
  refine w_ld rfl rfl (Or.inr (Or.inr ⟨by decide, y1⟩)) ?_
  refine w_c32 rfl (by decide) 2 (by decide) ?_
  subst e_q2
  exact w_cv rfl [.index q2, vi 2] [] rfl rfl (s_wt_4 rfl) rfl g4 k

theorem k191_40 {P : s_P} {d : Nat} {Q : s_O → Prop} {h : s_H} {kc ks : Nat} {r0 : Term} {x1 : Int}  (k : wr P d sw_c191 sw_h191 (145, [r0, vi x1], [], h, kc, ks) Q)   : wr P d sw_c191 sw_h191 (40, [r0, vi x1], [], h, kc, ks) Q := by
  refine w_goto rfl ?_
  exact k

theorem k191_43 {P : s_P} {d : Nat} {Q : s_O → Prop} {h : s_H} {kc ks : Nat} {r0 : Term} {x1 : Int}  (k1 : x1 ≠ 35 → wr P d sw_c191 sw_h191 (64, [r0, vi x1], [], h, kc, ks) Q) (k2 : ¬ x1 ≠ 35 → wr P d sw_c191 sw_h191 (49, [r0, vi x1], [], h, kc, ks) Q)  (c1 : In3 x1 := by first | omega | assumption | (simp only [mk_len, List.length_map]; omega) | decide) : wr P d sw_c191 sw_h191 (43, [r0, vi x1], [], h, kc, ks) Q := by
  refine w_ld rfl rfl (Or.inl ⟨by decide, rfl⟩) ?_
  refine w_c32 rfl (by decide) 35 (by decide) ?_
  exact w_if2 rfl c1 (by decide) k1 k2

theorem k191_49 {P : s_P} {d : Nat} {Q : s_O → Prop} {h : s_H} {kc ks : Nat} {r0 : Term} {x1 : Int} {q2 : Nat} {f3 : List Term} (g4 : s_get h q2 = some (1, 5, f3)) (k : wm P d 201 [.index q2, vi 1] h (wq P d sw_c191 sw_h191 54 [.index q2, vi x1] [] kc ks Q)) (e_q2 : r0 = .index q2 := by first | rfl | assumption) (y1 : s_ty r0 = 3 := by first | rfl | assumption)  : wr P d sw_c191 sw_h191 (49, [r0, vi x1], [], h, kc, ks) Q := by
  refine w_ld rfl rfl (Or.inr (Or.inr ⟨by decide, y1⟩)) ?_
  refine w_c32 rfl (by decide) 1 (by decide) ?_
  subst e_q2
  exact w_cv rfl [.index q2, vi 1] [] rfl rfl (s_wt_4 rfl) rfl g4 k

theorem k191_54 {P : s_P} {d : Nat} {Q : s_O → Prop} {h : s_H} {kc ks : Nat} {r0 : Term} {x1 s0 : Int}  (k1 : s0 = 0 → wr P d sw_c191 sw_h191 (64, [r0, vi x1], [], h, kc, ks) Q) (k2 : ¬ s0 = 0 → wr P d sw_c191 sw_h191 (57, [r0, vi x1], [], h, kc, ks) Q)  (c1 : In3 s0 := by first | omega | assumption | (simp only [mk_len, List.length_map]; omega) | decide) : wr P d sw_c191 sw_h191 (54, [r0, vi x1], [vi s0], h, kc, ks) Q := by
  exact w_if1 rfl c1 k1 k2

theorem k191_57 {P : s_P} {d : Nat} {Q : s_O → Prop} {h : s_H} {kc ks : Nat} {r0 : Term} {x1 : Int} {q2 : Nat} {f3 : List Term} (g4 : s_get h q2 = some (1, 5, f3)) (k : wm P d 197 [.index q2] h (wq P d sw_c191 sw_h191 61 [.index q2, vi x1] [] kc ks Q)) (e_q2 : r0 = .index q2 := by first | rfl | assumption) (y1 : s_ty r0 = 3 := by first | rfl | assumption)  : wr P d sw_c191 sw_h191 (57, [r0, vi x1], [], h, kc, ks) Q := by
  refine w_ld rfl rfl (Or.inr (Or.inr ⟨by decide, y1⟩)) ?_
  subst e_q2
  exact w_cv rfl [.index q2] [] rfl rfl (s_wt_4 rfl) rfl g4 k

theorem k191_61 {P : s_P} {d : Nat} {Q : s_O → Prop} {h : s_H} {kc ks : Nat} {r0 : Term} {x1 : Int}  (k : wr P d sw_c191 sw_h191 (145, [r0, vi x1], [], h, kc, ks) Q)   : wr P d sw_c191 sw_h191 (61, [r0, vi x1], [], h, kc, ks) Q := by
  refine w_goto rfl ?_
  exact k

theorem k191_64 {P : s_P} {d : Nat} {Q : s_O → Prop} {h : s_H} {kc ks : Nat} {r0 : Term} {x1 : Int}  (k1 : x1 ≠ 40 → wr P d sw_c191 sw_h191 (77, [r0, vi x1], [], h, kc, ks) Q) (k2 : ¬ x1 ≠ 40 → wr P d sw_c191 sw_h191 (70, [r0, vi x1], [], h, kc, ks) Q)  (c1 : In3 x1 := by first | omega | assumption | (simp only [mk_len, List.length_map]; omega) | decide) : wr P d sw_c191 sw_h191 (64, [r0, vi x1], [], h, kc, ks) Q := by
  refine w_ld rfl rfl (Or.inl ⟨by decide, rfl⟩) ?_
  refine w_c32 rfl (by decide) 40 (by decide) ?_
  exact w_if2 rfl c1 (by decide) k1 k2

theorem k191_70 {P : s_P} {d : Nat} {Q : s_O → Prop} {h : s_H} {kc ks : Nat} {r0 : Term} {x1 : Int} {q2 : Nat} {f3 : List Term} (g4 : s_get h q2 = some (1, 5, f3)) (k : wm P d 193 [.index q2] h (wq P d sw_c191 sw_h191 74 [.index q2, vi x1] [] kc ks Q)) (e_q2 : r0 = .index q2 := by first | rfl | assumption) (y1 : s_ty r0 = 3 := by first | rfl | assumption)  : wr P d sw_c191 sw_h191 (70, [r0, vi x1], [], h, kc, ks) Q := by
  refine w_ld rfl rfl (Or.inr (Or.inr ⟨by decide, y1⟩)) ?_
  subst e_q2
  exact w_cv rfl [.index q2] [] rfl rfl (s_wt_4 rfl) rfl g4 k

theorem k191_74 {P : s_P} {d : Nat} {Q : s_O → Prop} {h : s_H} {kc ks : Nat} {r0 : Term} {x1 : Int}  (k : wr P d sw_c191 sw_h191 (145, [r0, vi x1], [], h, kc, ks) Q)   : wr P d sw_c191 sw_h191 (74, [r0, vi x1], [], h, kc, ks) Q := by
  refine w_goto rfl ?_
  exact k

theorem k191_77 {P : s_P} {d : Nat} {Q : s_O → Prop} {h : s_H} {kc ks : Nat} {r0 : Term} {x1 : Int}  (k1 : x1 ≠ 45 → wr P d sw_c191 sw_h191 (111, [r0, vi x1], [], h, kc, ks) Q) (k2 : ¬ x1 ≠ 45 → wr P d sw_c191 sw_h191 (83, [r0, vi x1], [], h, kc, ks) Q)  (c1 : In3 x1 := by first | omega | assumption | (simp only [mk_len, List.length_map]; omega) | decide) : wr P d sw_c191 sw_h191 (77, [r0, vi x1], [], h, kc, ks) Q := by
  refine w_ld rfl rfl (Or.inl ⟨by decide, rfl⟩) ?_
  refine w_c32 rfl (by decide) 45 (by decide) ?_
  exact w_if2 rfl c1 (by decide) k1 k2

theorem k191_83 {P : s_P} {d : Nat} {Q : s_O → Prop} {h : s_H} {kc ks : Nat} {r0 : Term} {x1 : Int} {q2 : Nat} {f3 : List Term} {z5 : Int} (g4 : s_get h q2 = some (1, 5, f3)) (k1 : z5 ≠ 0 → wr P d sw_c191 sw_h191 (111, [.index q2, vi x1], [], h, kc, ks) Q) (k2 : ¬ z5 ≠ 0 → wr P d sw_c191 sw_h191 (90, [.index q2, vi x1], [], h, kc, ks) Q) (e_q2 : r0 = .index q2 := by first | rfl | assumption) (y1 : s_ty r0 = 3 := by first | rfl | assumption) (n6 : s_nth f3 15 = some (vi z5) := by first | rfl | assumption) (c7 : In3 z5 := by first | omega | assumption | (simp only [mk_len, List.length_map]; omega) | decide) : wr P d sw_c191 sw_h191 (83, [r0, vi x1], [], h, kc, ks) Q := by
  refine w_ld rfl rfl (Or.inr (Or.inr ⟨by decide, y1⟩)) ?_
  subst e_q2
  refine w_getf rfl g4 n6 ?_
  exact w_if1 rfl c7 k1 k2

theorem k191_90 {P : s_P} {d : Nat} {Q : s_O → Prop} {h : s_H} {kc ks : Nat} {r0 : Term} {x1 : Int} {q2 : Nat} {f3 : List Term} {v5 : Term} {z7 z9 : Int} {q11 : Nat} {a12 : List Int} {f18 : List Term} (g4 : s_get h q2 = some (1, 5, f3)) (g13 : s_get h q11 = some (0, 0, a12.map vi)) (g19 : s_get (hp h q11 (0, 0, (a12.set (Int.toNat (z7)) z9).map vi)) q2 = some (1, 5, f18)) (k : wm P d 209 [.index q2, vi 1] (hp h q11 (0, 0, (a12.set (Int.toNat (z7)) z9).map vi)) (wq P d sw_c191 sw_h191 108 [.index q2, vi x1] [] kc ks Q)) (e_q2 : r0 = .index q2 := by first | rfl | assumption) (e_q11 : v5 = .index q11 := by first | rfl | assumption) (y1 : s_ty r0 = 3 := by first | rfl | assumption) (n6 : s_nth f3 5 = some v5 := by first | rfl | assumption) (n8 : s_nth f3 14 = some (vi z7) := by first | rfl | assumption) (n10 : s_nth f3 13 = some (vi z9) := by first | rfl | assumption) (c14 : z7 < a12.length := by first | omega | assumption | (simp only [mk_len, List.length_map]; omega) | decide) (c15 : 0 ≤ z7 := by first | omega | assumption | (simp only [mk_len, List.length_map]; omega) | decide) (c16 : In3 z7 := by first | omega | assumption | (simp only [mk_len, List.length_map]; omega) | decide) (c17 : 0 < q11 := by first | omega | assumption | (simp only [mk_len, List.length_map]; omega) | decide) : wr P d sw_c191 sw_h191 (90, [r0, vi x1], [], h, kc, ks) Q := by
  refine w_ld rfl rfl (Or.inr (Or.inr ⟨by decide, y1⟩)) ?_
  subst e_q2
  refine w_getf rfl g4 n6 ?_
  refine w_ld rfl rfl (Or.inr (Or.inr ⟨by decide, rfl⟩)) ?_
  refine w_getf rfl g4 n8 ?_
  refine w_ld rfl rfl (Or.inr (Or.inr ⟨by decide, rfl⟩)) ?_
  refine w_getf rfl g4 n10 ?_
  subst e_q11
  refine w_iast rfl g13 (Nat.ble_eq_true_of_le c17) c16 c15 c14 ?_
  refine w_ld rfl rfl (Or.inr (Or.inr ⟨by decide, rfl⟩)) ?_
  refine w_c32 rfl (by decide) 1 (by decide) ?_
  exact w_cv rfl [.index q2, vi 1] [] rfl rfl (s_wt_4 rfl) rfl g19 k

theorem k191_108 {P : s_P} {d : Nat} {Q : s_O → Prop} {h : s_H} {kc ks : Nat} {r0 : Term} {x1 : Int}  (k : wr P d sw_c191 sw_h191 (145, [r0, vi x1], [], h, kc, ks) Q)   : wr P d sw_c191 sw_h191 (108, [r0, vi x1], [], h, kc, ks) Q := by
  refine w_goto rfl ?_
  exact k

theorem k191_111 {P : s_P} {d : Nat} {Q : s_O → Prop} {h : s_H} {kc ks : Nat} {r0 : Term} {x1 : Int}  (k1 : x1 < 65 → wr P d sw_c191 sw_h191 (136, [r0, vi x1], [], h, kc, ks) Q) (k2 : ¬ x1 < 65 → wr P d sw_c191 sw_h191 (117, [r0, vi x1], [], h, kc, ks) Q)  (c1 : In3 x1 := by first | omega | assumption | (simp only [mk_len, List.length_map]; omega) | decide) : wr P d sw_c191 sw_h191 (111, [r0, vi x1], [], h, kc, ks) Q := by
  refine w_ld rfl rfl (Or.inl ⟨by decide, rfl⟩) ?_
  refine w_c32 rfl (by decide) 65 (by decide) ?_
  exact w_if2 rfl c1 (by decide) k1 k2

theorem k191_117 {P : s_P} {d : Nat} {Q : s_O → Prop} {h : s_H} {kc ks : Nat} {r0 : Term} {x1 : Int}  (k1 : 81 ≤ x1 → wr P d sw_c191 sw_h191 (136, [r0, vi x1], [], h, kc, ks) Q) (k2 : ¬ 81 ≤ x1 → wr P d sw_c191 sw_h191 (123, [r0, vi x1], [], h, kc, ks) Q)  (c1 : In3 x1 := by first | omega | assumption | (simp only [mk_len, List.length_map]; omega) | decide) : wr P d sw_c191 sw_h191 (117, [r0, vi x1], [], h, kc, ks) Q := by
  refine w_ld rfl rfl (Or.inl ⟨by decide, rfl⟩) ?_
  refine w_c32 rfl (by decide) 81 (by decide) ?_
  exact w_if2 rfl c1 (by decide) k1 k2

theorem k191_123 {P : s_P} {d : Nat} {Q : s_O → Prop} {h : s_H} {kc ks : Nat} {r0 : Term} {x1 : Int} {q2 : Nat} {f3 : List Term} (g4 : s_get h q2 = some (1, 5, f3)) (k : wm P d 201 [.index q2, vi 2] h (wq P d sw_c191 sw_h191 128 [.index q2, vi x1] [] kc ks Q)) (e_q2 : r0 = .index q2 := by first | rfl | assumption) (y1 : s_ty r0 = 3 := by first | rfl | assumption)  : wr P d sw_c191 sw_h191 (123, [r0, vi x1], [], h, kc, ks) Q := by
  refine w_ld rfl rfl (Or.inr (Or.inr ⟨by decide, y1⟩)) ?_
  refine w_c32 rfl (by decide) 2 (by decide) ?_
  subst e_q2
  exact w_cv rfl [.index q2, vi 2] [] rfl rfl (s_wt_4 rfl) rfl g4 k

theorem k191_128 {P : s_P} {d : Nat} {Q : s_O → Prop} {h : s_H} {kc ks : Nat} {r0 : Term} {x1 s0 : Int}  (k1 : s0 = 0 → wr P d sw_c191 sw_h191 (136, [r0, vi x1], [], h, kc, ks) Q) (k2 : ¬ s0 = 0 → wr P d sw_c191 sw_h191 (131, [r0, vi x1], [], h, kc, ks) Q)  (c1 : In3 s0 := by first | omega | assumption | (simp only [mk_len, List.length_map]; omega) | decide) : wr P d sw_c191 sw_h191 (128, [r0, vi x1], [vi s0], h, kc, ks) Q := by
  exact w_if1 rfl c1 k1 k2

theorem k191_131 {P : s_P} {d : Nat} {Q : s_O → Prop} {h : s_H} {kc ks : Nat} {r0 : Term} {x1 : Int}  (k : Q (.inl (some (vi (x1 - 65))), h, kc, ks))   : wr P d sw_c191 sw_h191 (131, [r0, vi x1], [], h, kc, ks) Q := by
  refine w_ld rfl rfl (Or.inl ⟨by decide, rfl⟩) ?_
  refine w_c32 rfl (by decide) 65 (by decide) ?_
  refine w_isub rfl ?_
  exact w_iret rfl k

theorem k191_136 {P : s_P} {d : Nat} {Q : s_O → Prop} {h : s_H} {kc ks : Nat} {r0 : Term} {x1 : Int} {q2 : Nat} {f3 : List Term} {z5 : Int} (g4 : s_get h q2 = some (1, 5, f3)) (k : wm P d 195 [.index q2, vi 1, vi z5] h (wq P d sw_c191 sw_h191 145 [.index q2, vi x1] [] kc ks Q)) (e_q2 : r0 = .index q2 := by first | rfl | assumption) (y1 : s_ty r0 = 3 := by first | rfl | assumption) (n6 : s_nth f3 13 = some (vi z5) := by first | rfl | assumption)  : wr P d sw_c191 sw_h191 (136, [r0, vi x1], [], h, kc, ks) Q := by
  refine w_ld rfl rfl (Or.inr (Or.inr ⟨by decide, y1⟩)) ?_
  refine w_c32 rfl (by decide) 1 (by decide) ?_
  refine w_ld rfl rfl (Or.inr (Or.inr ⟨by decide, y1⟩)) ?_
  subst e_q2
  refine w_getf rfl g4 n6 ?_
  exact w_cv rfl [.index q2, vi 1, vi z5] [] rfl rfl (s_wt_4 rfl) rfl g4 k

theorem k191_145 {P : s_P} {d : Nat} {Q : s_O → Prop} {h : s_H} {kc ks : Nat} {r0 : Term} {x1 : Int}  (k : Q (.inl (some (vi (-1))), h, kc, ks))   : wr P d sw_c191 sw_h191 (145, [r0, vi x1], [], h, kc, ks) Q := by
  refine w_c32 rfl (by decide) (-1) (by decide) ?_
  exact w_iret rfl k

/-! 192: FormulaWorks$Reader.begin([IIII)V -/
theorem k192_0 {P : s_P} {d : Nat} {Q : s_O → Prop} {h : s_H} {kc ks : Nat} {r0 r1 : Term} {x2 x3 x4 : Int} {q3 : Nat} {f4 f8 f11 f14 f17 f20 f23 f26 f29 f32 f35 f38 : List Term} (g5 : s_get h q3 = some (1, 5, f4)) (g9 : s_get (hp h q3 (1, 5, f4.set 9 r1)) q3 = some (1, 5, f8)) (g12 : s_get (hp (hp h q3 (1, 5, f4.set 9 r1)) q3 (1, 5, f8.set 10 (vi x2))) q3 = some (1, 5, f11)) (g15 : s_get (hp (hp (hp h q3 (1, 5, f4.set 9 r1)) q3 (1, 5, f8.set 10 (vi x2))) q3 (1, 5, f11.set 11 (vi x3))) q3 = some (1, 5, f14)) (g18 : s_get (hp (hp (hp (hp h q3 (1, 5, f4.set 9 r1)) q3 (1, 5, f8.set 10 (vi x2))) q3 (1, 5, f11.set 11 (vi x3))) q3 (1, 5, f14.set 12 (vi x4))) q3 = some (1, 5, f17)) (g21 : s_get (hp (hp (hp (hp (hp h q3 (1, 5, f4.set 9 r1)) q3 (1, 5, f8.set 10 (vi x2))) q3 (1, 5, f11.set 11 (vi x3))) q3 (1, 5, f14.set 12 (vi x4))) q3 (1, 5, f17.set 4 (vi 0))) q3 = some (1, 5, f20)) (g24 : s_get (hp (hp (hp (hp (hp (hp h q3 (1, 5, f4.set 9 r1)) q3 (1, 5, f8.set 10 (vi x2))) q3 (1, 5, f11.set 11 (vi x3))) q3 (1, 5, f14.set 12 (vi x4))) q3 (1, 5, f17.set 4 (vi 0))) q3 (1, 5, f20.set 13 (vi 0))) q3 = some (1, 5, f23)) (g27 : s_get (hp (hp (hp (hp (hp (hp (hp h q3 (1, 5, f4.set 9 r1)) q3 (1, 5, f8.set 10 (vi x2))) q3 (1, 5, f11.set 11 (vi x3))) q3 (1, 5, f14.set 12 (vi x4))) q3 (1, 5, f17.set 4 (vi 0))) q3 (1, 5, f20.set 13 (vi 0))) q3 (1, 5, f23.set 14 (vi 0))) q3 = some (1, 5, f26)) (g30 : s_get (hp (hp (hp (hp (hp (hp (hp (hp h q3 (1, 5, f4.set 9 r1)) q3 (1, 5, f8.set 10 (vi x2))) q3 (1, 5, f11.set 11 (vi x3))) q3 (1, 5, f14.set 12 (vi x4))) q3 (1, 5, f17.set 4 (vi 0))) q3 (1, 5, f20.set 13 (vi 0))) q3 (1, 5, f23.set 14 (vi 0))) q3 (1, 5, f26.set 16 (vi 0))) q3 = some (1, 5, f29)) (g33 : s_get (hp (hp (hp (hp (hp (hp (hp (hp (hp h q3 (1, 5, f4.set 9 r1)) q3 (1, 5, f8.set 10 (vi x2))) q3 (1, 5, f11.set 11 (vi x3))) q3 (1, 5, f14.set 12 (vi x4))) q3 (1, 5, f17.set 4 (vi 0))) q3 (1, 5, f20.set 13 (vi 0))) q3 (1, 5, f23.set 14 (vi 0))) q3 (1, 5, f26.set 16 (vi 0))) q3 (1, 5, f29.set 17 (vi 0))) q3 = some (1, 5, f32)) (g36 : s_get (hp (hp (hp (hp (hp (hp (hp (hp (hp (hp h q3 (1, 5, f4.set 9 r1)) q3 (1, 5, f8.set 10 (vi x2))) q3 (1, 5, f11.set 11 (vi x3))) q3 (1, 5, f14.set 12 (vi x4))) q3 (1, 5, f17.set 4 (vi 0))) q3 (1, 5, f20.set 13 (vi 0))) q3 (1, 5, f23.set 14 (vi 0))) q3 (1, 5, f26.set 16 (vi 0))) q3 (1, 5, f29.set 17 (vi 0))) q3 (1, 5, f32.set 18 (vi 0))) q3 = some (1, 5, f35)) (g39 : s_get (hp (hp (hp (hp (hp (hp (hp (hp (hp (hp (hp h q3 (1, 5, f4.set 9 r1)) q3 (1, 5, f8.set 10 (vi x2))) q3 (1, 5, f11.set 11 (vi x3))) q3 (1, 5, f14.set 12 (vi x4))) q3 (1, 5, f17.set 4 (vi 0))) q3 (1, 5, f20.set 13 (vi 0))) q3 (1, 5, f23.set 14 (vi 0))) q3 (1, 5, f26.set 16 (vi 0))) q3 (1, 5, f29.set 17 (vi 0))) q3 (1, 5, f32.set 18 (vi 0))) q3 (1, 5, f35.set 19 (vi (-1)))) q3 = some (1, 5, f38)) (k : wm P d 201 [.index q3, vi 8] (hp (hp (hp (hp (hp (hp (hp (hp (hp (hp (hp h q3 (1, 5, f4.set 9 r1)) q3 (1, 5, f8.set 10 (vi x2))) q3 (1, 5, f11.set 11 (vi x3))) q3 (1, 5, f14.set 12 (vi x4))) q3 (1, 5, f17.set 4 (vi 0))) q3 (1, 5, f20.set 13 (vi 0))) q3 (1, 5, f23.set 14 (vi 0))) q3 (1, 5, f26.set 16 (vi 0))) q3 (1, 5, f29.set 17 (vi 0))) q3 (1, 5, f32.set 18 (vi 0))) q3 (1, 5, f35.set 19 (vi (-1)))) (wq P d sw_c192 sw_h192 62 [.index q3, r1, vi x2, vi x3, vi x4] [] kc ks Q)) (e_q3 : r0 = .index q3 := by first | rfl | assumption) (y1 : s_ty r0 = 3 := by first | rfl | assumption) (y2 : s_ty r1 = 3 := by first | rfl | assumption) (l6 : 9 < f4.length := by first | exact Nat.le_of_ble_eq_true rfl | omega | assumption) (l10 : 10 < f8.length := by first | exact Nat.le_of_ble_eq_true rfl | omega | assumption) (l13 : 11 < f11.length := by first | exact Nat.le_of_ble_eq_true rfl | omega | assumption) (l16 : 12 < f14.length := by first | exact Nat.le_of_ble_eq_true rfl | omega | assumption) (l19 : 4 < f17.length := by first | exact Nat.le_of_ble_eq_true rfl | omega | assumption) (l22 : 13 < f20.length := by first | exact Nat.le_of_ble_eq_true rfl | omega | assumption) (l25 : 14 < f23.length := by first | exact Nat.le_of_ble_eq_true rfl | omega | assumption) (l28 : 16 < f26.length := by first | exact Nat.le_of_ble_eq_true rfl | omega | assumption) (l31 : 17 < f29.length := by first | exact Nat.le_of_ble_eq_true rfl | omega | assumption) (l34 : 18 < f32.length := by first | exact Nat.le_of_ble_eq_true rfl | omega | assumption) (l37 : 19 < f35.length := by first | exact Nat.le_of_ble_eq_true rfl | omega | assumption) (c7 : 0 < q3 := by first | omega | assumption | (simp only [mk_len, List.length_map]; omega) | decide) : wr P d sw_c192 sw_h192 (0, [r0, r1, vi x2, vi x3, vi x4], [], h, kc, ks) Q := by
  refine w_ld rfl rfl (Or.inr (Or.inr ⟨by decide, y1⟩)) ?_
  refine w_ld rfl rfl (Or.inr (Or.inr ⟨by decide, y2⟩)) ?_
  subst e_q3
  refine w_putf rfl g5 (Nat.ble_eq_true_of_le c7) (s_okF3 y2) (Nat.ble_eq_true_of_le l6) ?_
  refine w_ld rfl rfl (Or.inr (Or.inr ⟨by decide, rfl⟩)) ?_
  refine w_ld rfl rfl (Or.inl ⟨by decide, rfl⟩) ?_
  refine w_putf rfl g9 (Nat.ble_eq_true_of_le c7) rfl (Nat.ble_eq_true_of_le l10) ?_
  refine w_ld rfl rfl (Or.inr (Or.inr ⟨by decide, rfl⟩)) ?_
  refine w_ld rfl rfl (Or.inl ⟨by decide, rfl⟩) ?_
  refine w_putf rfl g12 (Nat.ble_eq_true_of_le c7) rfl (Nat.ble_eq_true_of_le l13) ?_
  refine w_ld rfl rfl (Or.inr (Or.inr ⟨by decide, rfl⟩)) ?_
  refine w_ld rfl rfl (Or.inl ⟨by decide, rfl⟩) ?_
  refine w_putf rfl g15 (Nat.ble_eq_true_of_le c7) rfl (Nat.ble_eq_true_of_le l16) ?_
  refine w_ld rfl rfl (Or.inr (Or.inr ⟨by decide, rfl⟩)) ?_
  refine w_c32 rfl (by decide) 0 (by decide) ?_
  refine w_putf rfl g18 (Nat.ble_eq_true_of_le c7) rfl (Nat.ble_eq_true_of_le l19) ?_
  refine w_ld rfl rfl (Or.inr (Or.inr ⟨by decide, rfl⟩)) ?_
  refine w_c32 rfl (by decide) 0 (by decide) ?_
  refine w_putf rfl g21 (Nat.ble_eq_true_of_le c7) rfl (Nat.ble_eq_true_of_le l22) ?_
  refine w_ld rfl rfl (Or.inr (Or.inr ⟨by decide, rfl⟩)) ?_
  refine w_c32 rfl (by decide) 0 (by decide) ?_
  refine w_putf rfl g24 (Nat.ble_eq_true_of_le c7) rfl (Nat.ble_eq_true_of_le l25) ?_
  refine w_ld rfl rfl (Or.inr (Or.inr ⟨by decide, rfl⟩)) ?_
  refine w_c32 rfl (by decide) 0 (by decide) ?_
  refine w_putf rfl g27 (Nat.ble_eq_true_of_le c7) (by decide) (Nat.ble_eq_true_of_le l28) ?_
  refine w_ld rfl rfl (Or.inr (Or.inr ⟨by decide, rfl⟩)) ?_
  refine w_c32 rfl (by decide) 0 (by decide) ?_
  refine w_putf rfl g30 (Nat.ble_eq_true_of_le c7) (by decide) (Nat.ble_eq_true_of_le l31) ?_
  refine w_ld rfl rfl (Or.inr (Or.inr ⟨by decide, rfl⟩)) ?_
  refine w_c32 rfl (by decide) 0 (by decide) ?_
  refine w_putf rfl g33 (Nat.ble_eq_true_of_le c7) rfl (Nat.ble_eq_true_of_le l34) ?_
  refine w_ld rfl rfl (Or.inr (Or.inr ⟨by decide, rfl⟩)) ?_
  refine w_c32 rfl (by decide) (-1) (by decide) ?_
  refine w_putf rfl g36 (Nat.ble_eq_true_of_le c7) rfl (Nat.ble_eq_true_of_le l37) ?_
  refine w_ld rfl rfl (Or.inr (Or.inr ⟨by decide, rfl⟩)) ?_
  refine w_c32 rfl (by decide) 8 (by decide) ?_
  exact w_cv rfl [.index q3, vi 8] [] rfl rfl (s_wt_4 rfl) rfl g39 k

theorem k192_62 {P : s_P} {d : Nat} {Q : s_O → Prop} {h : s_H} {kc ks : Nat} {r0 r1 : Term} {x2 x3 x4 s0 : Int}  (k1 : s0 = 0 → wr P d sw_c192 sw_h192 (72, [r0, r1, vi x2, vi x3, vi x4], [], h, kc, ks) Q) (k2 : ¬ s0 = 0 → wr P d sw_c192 sw_h192 (65, [r0, r1, vi x2, vi x3, vi x4], [], h, kc, ks) Q)  (c1 : In3 s0 := by first | omega | assumption | (simp only [mk_len, List.length_map]; omega) | decide) : wr P d sw_c192 sw_h192 (62, [r0, r1, vi x2, vi x3, vi x4], [vi s0], h, kc, ks) Q := by
  exact w_if1 rfl c1 k1 k2

theorem k192_65 {P : s_P} {d : Nat} {Q : s_O → Prop} {h : s_H} {kc ks : Nat} {r0 r1 : Term} {x2 x3 x4 : Int} {q2 : Nat} {f3 : List Term} {v5 : Term} {q7 : Nat} {f8 : List Term} (g4 : s_get h q2 = some (1, 5, f3)) (g9 : s_get h q7 = some (1, 9, f8)) (k : wm P d 278 [.index q7] h (wq P d sw_c192 sw_h192 72 [.index q2, r1, vi x2, vi x3, vi x4] [] kc ks Q)) (e_q2 : r0 = .index q2 := by first | rfl | assumption) (e_q7 : v5 = .index q7 := by first | rfl | assumption) (y1 : s_ty r0 = 3 := by first | rfl | assumption) (n6 : s_nth f3 1 = some v5 := by first | rfl | assumption)  : wr P d sw_c192 sw_h192 (65, [r0, r1, vi x2, vi x3, vi x4], [], h, kc, ks) Q := by
  refine w_ld rfl rfl (Or.inr (Or.inr ⟨by decide, y1⟩)) ?_
  subst e_q2
  refine w_getf rfl g4 n6 ?_
  subst e_q7
  exact w_cv rfl [.index q7] [] rfl rfl (s_wt_4 rfl) rfl g9 k

theorem k192_72 {P : s_P} {d : Nat} {Q : s_O → Prop} {h : s_H} {kc ks : Nat} {r0 r1 : Term} {x2 x3 x4 : Int} {q2 : Nat} {f3 : List Term} (g4 : s_get h q2 = some (1, 5, f3)) (k : wm P d 208 [.index q2] h (wq P d sw_c192 sw_h192 76 [.index q2, r1, vi x2, vi x3, vi x4] [] kc ks Q)) (e_q2 : r0 = .index q2 := by first | rfl | assumption) (y1 : s_ty r0 = 3 := by first | rfl | assumption)  : wr P d sw_c192 sw_h192 (72, [r0, r1, vi x2, vi x3, vi x4], [], h, kc, ks) Q := by
  refine w_ld rfl rfl (Or.inr (Or.inr ⟨by decide, y1⟩)) ?_
  subst e_q2
  exact w_cv rfl [.index q2] [] rfl rfl (s_wt_4 rfl) rfl g4 k

theorem k192_76 {P : s_P} {d : Nat} {Q : s_O → Prop} {h : s_H} {kc ks : Nat} {r0 r1 : Term} {x2 x3 x4 : Int}  (k : Q (.inl none, h, kc, ks))   : wr P d sw_c192 sw_h192 (76, [r0, r1, vi x2, vi x3, vi x4], [], h, kc, ks) Q := by
  exact w_ret rfl k

/-! 193: FormulaWorks$Reader.bracket()V -/
theorem k193_0 {P : s_P} {d : Nat} {Q : s_O → Prop} {h : s_H} {kc ks : Nat} {r0 : Term} {q2 : Nat} {f3 : List Term} {z5 : Int} (g4 : s_get h q2 = some (1, 5, f3)) (k1 : z5 < 20 → wr P d sw_c193 sw_h193 (20, [.index q2], [], h, kc, ks) Q) (k2 : ¬ z5 < 20 → wr P d sw_c193 sw_h193 (9, [.index q2], [], h, kc, ks) Q) (e_q2 : r0 = .index q2 := by first | rfl | assumption) (y1 : s_ty r0 = 3 := by first | rfl | assumption) (n6 : s_nth f3 14 = some (vi z5) := by first | rfl | assumption) (c7 : In3 z5 := by first | omega | assumption | (simp only [mk_len, List.length_map]; omega) | decide) : wr P d sw_c193 sw_h193 (0, [r0], [], h, kc, ks) Q := by
  refine w_ld rfl rfl (Or.inr (Or.inr ⟨by decide, y1⟩)) ?_
  subst e_q2
  refine w_getf rfl g4 n6 ?_
  refine w_c32 rfl (by decide) 20 (by decide) ?_
  exact w_if2 rfl c7 (by decide) k1 k2

theorem k193_9 {P : s_P} {d : Nat} {Q : s_O → Prop} {h : s_H} {kc ks : Nat} {r0 : Term} {q2 : Nat} {f3 : List Term} {z5 : Int} (g4 : s_get h q2 = some (1, 5, f3)) (k : wm P d 195 [.index q2, vi 6, vi z5] h (wq P d sw_c193 sw_h193 19 [.index q2] [] kc ks Q)) (e_q2 : r0 = .index q2 := by first | rfl | assumption) (y1 : s_ty r0 = 3 := by first | rfl | assumption) (n6 : s_nth f3 13 = some (vi z5) := by first | rfl | assumption)  : wr P d sw_c193 sw_h193 (9, [r0], [], h, kc, ks) Q := by
  refine w_ld rfl rfl (Or.inr (Or.inr ⟨by decide, y1⟩)) ?_
  refine w_c32 rfl (by decide) 6 (by decide) ?_
  refine w_ld rfl rfl (Or.inr (Or.inr ⟨by decide, y1⟩)) ?_
  subst e_q2
  refine w_getf rfl g4 n6 ?_
  exact w_cv rfl [.index q2, vi 6, vi z5] [] rfl rfl (s_wt_4 rfl) rfl g4 k

theorem k193_19 {P : s_P} {d : Nat} {Q : s_O → Prop} {h : s_H} {kc ks : Nat} {r0 : Term}  (k : Q (.inl none, h, kc, ks))   : wr P d sw_c193 sw_h193 (19, [r0], [], h, kc, ks) Q := by
  exact w_ret rfl k

theorem k193_20 {P : s_P} {d : Nat} {Q : s_O → Prop} {h : s_H} {kc ks : Nat} {r0 : Term} {q2 : Nat} {f3 : List Term} {z5 : Int} {f9 : List Term} {z11 : Int} {f14 : List Term} (g4 : s_get h q2 = some (1, 5, f3)) (g10 : s_get (hp h q2 (1, 5, f3.set 14 (vi (z5 + 1)))) q2 = some (1, 5, f9)) (g15 : s_get (hp (hp h q2 (1, 5, f3.set 14 (vi (z5 + 1)))) q2 (1, 5, f9.set 13 (vi (z11 + 1)))) q2 = some (1, 5, f14)) (k : wm P d 208 [.index q2] (hp (hp h q2 (1, 5, f3.set 14 (vi (z5 + 1)))) q2 (1, 5, f9.set 13 (vi (z11 + 1)))) (wq P d sw_c193 sw_h193 44 [.index q2] [] kc ks Q)) (e_q2 : r0 = .index q2 := by first | rfl | assumption) (y1 : s_ty r0 = 3 := by first | rfl | assumption) (n6 : s_nth f3 14 = some (vi z5) := by first | rfl | assumption) (l7 : 14 < f3.length := by first | exact Nat.le_of_ble_eq_true rfl | omega | assumption) (n12 : s_nth f9 13 = some (vi z11) := by first | rfl | assumption) (l13 : 13 < f9.length := by first | exact Nat.le_of_ble_eq_true rfl | omega | assumption) (c8 : 0 < q2 := by first | omega | assumption | (simp only [mk_len, List.length_map]; omega) | decide) : wr P d sw_c193 sw_h193 (20, [r0], [], h, kc, ks) Q := by
  refine w_ld rfl rfl (Or.inr (Or.inr ⟨by decide, y1⟩)) ?_
  refine w_dup rfl (by rw [y1]; rfl) ?_
  subst e_q2
  refine w_getf rfl g4 n6 ?_
  refine w_c32 rfl (by decide) 1 (by decide) ?_
  refine w_iadd rfl ?_
  refine w_putf rfl g4 (Nat.ble_eq_true_of_le c8) rfl (Nat.ble_eq_true_of_le l7) ?_
  refine w_ld rfl rfl (Or.inr (Or.inr ⟨by decide, rfl⟩)) ?_
  refine w_dup rfl rfl ?_
  refine w_getf rfl g10 n12 ?_
  refine w_c32 rfl (by decide) 1 (by decide) ?_
  refine w_iadd rfl ?_
  refine w_putf rfl g10 (Nat.ble_eq_true_of_le c8) rfl (Nat.ble_eq_true_of_le l13) ?_
  refine w_ld rfl rfl (Or.inr (Or.inr ⟨by decide, rfl⟩)) ?_
  exact w_cv rfl [.index q2] [] rfl rfl (s_wt_4 rfl) rfl g15 k

theorem k193_44 {P : s_P} {d : Nat} {Q : s_O → Prop} {h : s_H} {kc ks : Nat} {r0 : Term}  (k : Q (.inl none, h, kc, ks))   : wr P d sw_c193 sw_h193 (44, [r0], [], h, kc, ks) Q := by
  exact w_ret rfl k

/-! 194: FormulaWorks$Reader.digits(I)I -/
theorem k194_0 {P : s_P} {d : Nat} {Q : s_O → Prop} {h : s_H} {kc ks : Nat} {r0 : Term} {x1 : Int} {t2 t3 : Term} {q2 : Nat} {f3 : List Term} (g4 : s_get h q2 = some (1, 5, f3)) (k : wm P d 198 [.index q2] h (wq P d sw_c194 sw_h194 4 [.index q2, vi x1, t2, t3] [] kc ks Q)) (e_q2 : r0 = .index q2 := by first | rfl | assumption) (y1 : s_ty r0 = 3 := by first | rfl | assumption)  : wr P d sw_c194 sw_h194 (0, [r0, vi x1, t2, t3], [], h, kc, ks) Q := by
  refine w_ld rfl rfl (Or.inr (Or.inr ⟨by decide, y1⟩)) ?_
  subst e_q2
  exact w_cv rfl [.index q2] [] rfl rfl (s_wt_4 rfl) rfl g4 k

theorem k194_4 {P : s_P} {d : Nat} {Q : s_O → Prop} {h : s_H} {kc ks : Nat} {r0 : Term} {x1 : Int} {t2 t3 : Term} {s0 : Int}  (k1 : s0 ≠ 0 → wr P d sw_c194 sw_h194 (18, [r0, vi x1, t2, t3], [], h, kc, ks) Q) (k2 : ¬ s0 ≠ 0 → wr P d sw_c194 sw_h194 (7, [r0, vi x1, t2, t3], [], h, kc, ks) Q)  (c1 : In3 s0 := by first | omega | assumption | (simp only [mk_len, List.length_map]; omega) | decide) : wr P d sw_c194 sw_h194 (4, [r0, vi x1, t2, t3], [vi s0], h, kc, ks) Q := by
  exact w_if1 rfl c1 k1 k2

theorem k194_7 {P : s_P} {d : Nat} {Q : s_O → Prop} {h : s_H} {kc ks : Nat} {r0 : Term} {x1 : Int} {t2 t3 : Term} {q2 : Nat} {f3 : List Term} {z5 : Int} (g4 : s_get h q2 = some (1, 5, f3)) (k : wm P d 195 [.index q2, vi 1, vi z5] h (wq P d sw_c194 sw_h194 16 [.index q2, vi x1, t2, t3] [] kc ks Q)) (e_q2 : r0 = .index q2 := by first | rfl | assumption) (y1 : s_ty r0 = 3 := by first | rfl | assumption) (n6 : s_nth f3 13 = some (vi z5) := by first | rfl | assumption)  : wr P d sw_c194 sw_h194 (7, [r0, vi x1, t2, t3], [], h, kc, ks) Q := by
  refine w_ld rfl rfl (Or.inr (Or.inr ⟨by decide, y1⟩)) ?_
  refine w_c32 rfl (by decide) 1 (by decide) ?_
  refine w_ld rfl rfl (Or.inr (Or.inr ⟨by decide, y1⟩)) ?_
  subst e_q2
  refine w_getf rfl g4 n6 ?_
  exact w_cv rfl [.index q2, vi 1, vi z5] [] rfl rfl (s_wt_4 rfl) rfl g4 k

theorem k194_16 {P : s_P} {d : Nat} {Q : s_O → Prop} {h : s_H} {kc ks : Nat} {r0 : Term} {x1 : Int} {t2 t3 : Term}  (k : Q (.inl (some (vi (-1))), h, kc, ks))   : wr P d sw_c194 sw_h194 (16, [r0, vi x1, t2, t3], [], h, kc, ks) Q := by
  refine w_c32 rfl (by decide) (-1) (by decide) ?_
  exact w_iret rfl k

theorem k194_18 {P : s_P} {d : Nat} {Q : s_O → Prop} {h : s_H} {kc ks : Nat} {r0 : Term} {x1 : Int} {t2 t3 : Term}  (k : wr P d sw_c194 sw_h194 (22, [r0, vi x1, vi 0, vi 0], [], h, kc, ks) Q)   : wr P d sw_c194 sw_h194 (18, [r0, vi x1, t2, t3], [], h, kc, ks) Q := by
  refine w_c32 rfl (by decide) 0 (by decide) ?_
  refine w_st (ls' := [r0, vi x1, vi 0, t3]) rfl (Or.inl ⟨by decide, rfl⟩) rfl ?_
  refine w_c32 rfl (by decide) 0 (by decide) ?_
  refine w_st (ls' := [r0, vi x1, vi 0, vi 0]) rfl (Or.inl ⟨by decide, rfl⟩) rfl ?_
  exact k

theorem k194_22 {P : s_P} {d : Nat} {Q : s_O → Prop} {h : s_H} {kc ks : Nat} {r0 : Term} {x1 x2 x3 : Int}  (k1 : x1 ≤ x3 → wr P d sw_c194 sw_h194 (63, [r0, vi x1, vi x2, vi x3], [], h, kc, ks) Q) (k2 : ¬ x1 ≤ x3 → wr P d sw_c194 sw_h194 (27, [r0, vi x1, vi x2, vi x3], [], h, kc, ks) Q)  (c1 : In3 x3 := by first | omega | assumption | (simp only [mk_len, List.length_map]; omega) | decide) (c2 : In3 x1 := by first | omega | assumption | (simp only [mk_len, List.length_map]; omega) | decide) : wr P d sw_c194 sw_h194 (22, [r0, vi x1, vi x2, vi x3], [], h, kc, ks) Q := by
  refine w_ld rfl rfl (Or.inl ⟨by decide, rfl⟩) ?_
  refine w_ld rfl rfl (Or.inl ⟨by decide, rfl⟩) ?_
  exact w_if2 rfl c1 c2 k1 k2

theorem k194_27 {P : s_P} {d : Nat} {Q : s_O → Prop} {h : s_H} {kc ks : Nat} {r0 : Term} {x1 x2 x3 : Int} {q2 : Nat} {f3 : List Term} (g4 : s_get h q2 = some (1, 5, f3)) (k : wm P d 198 [.index q2] h (wq P d sw_c194 sw_h194 31 [.index q2, vi x1, vi x2, vi x3] [] kc ks Q)) (e_q2 : r0 = .index q2 := by first | rfl | assumption) (y1 : s_ty r0 = 3 := by first | rfl | assumption)  : wr P d sw_c194 sw_h194 (27, [r0, vi x1, vi x2, vi x3], [], h, kc, ks) Q := by
  refine w_ld rfl rfl (Or.inr (Or.inr ⟨by decide, y1⟩)) ?_
  subst e_q2
  exact w_cv rfl [.index q2] [] rfl rfl (s_wt_4 rfl) rfl g4 k

theorem k194_31 {P : s_P} {d : Nat} {Q : s_O → Prop} {h : s_H} {kc ks : Nat} {r0 : Term} {x1 x2 x3 s0 : Int}  (k1 : s0 = 0 → wr P d sw_c194 sw_h194 (63, [r0, vi x1, vi x2, vi x3], [], h, kc, ks) Q) (k2 : ¬ s0 = 0 → wr P d sw_c194 sw_h194 (34, [r0, vi x1, vi x2, vi x3], [], h, kc, ks) Q)  (c1 : In3 s0 := by first | omega | assumption | (simp only [mk_len, List.length_map]; omega) | decide) : wr P d sw_c194 sw_h194 (31, [r0, vi x1, vi x2, vi x3], [vi s0], h, kc, ks) Q := by
  exact w_if1 rfl c1 k1 k2

theorem k194_34 {P : s_P} {d : Nat} {Q : s_O → Prop} {h : s_H} {kc ks : Nat} {r0 : Term} {x1 x2 x3 : Int} {q2 : Nat} {f3 : List Term} (g4 : s_get h q2 = some (1, 5, f3)) (k : wm P d 200 [.index q2] h (wq P d sw_c194 sw_h194 42 [.index q2, vi x1, vi x2, vi x3] [vi (x2 * 10)] kc ks Q)) (e_q2 : r0 = .index q2 := by first | rfl | assumption) (y1 : s_ty r0 = 3 := by first | rfl | assumption)  : wr P d sw_c194 sw_h194 (34, [r0, vi x1, vi x2, vi x3], [], h, kc, ks) Q := by
  refine w_ld rfl rfl (Or.inl ⟨by decide, rfl⟩) ?_
  refine w_c32 rfl (by decide) 10 (by decide) ?_
  refine w_imul rfl ?_
  refine w_ld rfl rfl (Or.inr (Or.inr ⟨by decide, y1⟩)) ?_
  subst e_q2
  exact w_cv rfl [.index q2] [vi (x2 * 10)] rfl rfl (s_wt_4 rfl) rfl g4 k

theorem k194_42 {P : s_P} {d : Nat} {Q : s_O → Prop} {h : s_H} {kc ks : Nat} {r0 : Term} {x1 x2 x3 s0 s1 : Int} {q2 : Nat} {f3 : List Term} {z5 : Int} (g4 : s_get h q2 = some (1, 5, f3)) (k : wr P d sw_c194 sw_h194 (22, [.index q2, vi x1, vi ((s0 + s1) - 48), vi (x3 + 1)], [], (hp h q2 (1, 5, f3.set 13 (vi (z5 + 1)))), kc, ks) Q) (e_q2 : r0 = .index q2 := by first | rfl | assumption) (y1 : s_ty r0 = 3 := by first | rfl | assumption) (n6 : s_nth f3 13 = some (vi z5) := by first | rfl | assumption) (l7 : 13 < f3.length := by first | exact Nat.le_of_ble_eq_true rfl | omega | assumption) (c8 : 0 < q2 := by first | omega | assumption | (simp only [mk_len, List.length_map]; omega) | decide) : wr P d sw_c194 sw_h194 (42, [r0, vi x1, vi x2, vi x3], [vi s1, vi s0], h, kc, ks) Q := by
  refine w_iadd rfl ?_
  refine w_c32 rfl (by decide) 48 (by decide) ?_
  refine w_isub rfl ?_
  refine w_st (ls' := [r0, vi x1, vi ((s0 + s1) - 48), vi x3]) rfl (Or.inl ⟨by decide, rfl⟩) rfl ?_
  refine w_ld rfl rfl (Or.inr (Or.inr ⟨by decide, y1⟩)) ?_
  refine w_dup rfl (by rw [y1]; rfl) ?_
  subst e_q2
  refine w_getf rfl g4 n6 ?_
  refine w_c32 rfl (by decide) 1 (by decide) ?_
  refine w_iadd rfl ?_
  refine w_putf rfl g4 (Nat.ble_eq_true_of_le c8) rfl (Nat.ble_eq_true_of_le l7) ?_
  refine w_iinc (ls' := [.index q2, vi x1, vi ((s0 + s1) - 48), vi (x3 + 1)]) rfl rfl 1 (by decide) rfl ?_
  refine w_goto rfl ?_
  exact k

theorem k194_63 {P : s_P} {d : Nat} {Q : s_O → Prop} {h : s_H} {kc ks : Nat} {r0 : Term} {x1 x2 x3 : Int} {q2 : Nat} {f3 : List Term} (g4 : s_get h q2 = some (1, 5, f3)) (k : wm P d 198 [.index q2] h (wq P d sw_c194 sw_h194 67 [.index q2, vi x1, vi x2, vi x3] [] kc ks Q)) (e_q2 : r0 = .index q2 := by first | rfl | assumption) (y1 : s_ty r0 = 3 := by first | rfl | assumption)  : wr P d sw_c194 sw_h194 (63, [r0, vi x1, vi x2, vi x3], [], h, kc, ks) Q := by
  refine w_ld rfl rfl (Or.inr (Or.inr ⟨by decide, y1⟩)) ?_
  subst e_q2
  exact w_cv rfl [.index q2] [] rfl rfl (s_wt_4 rfl) rfl g4 k

theorem k194_67 {P : s_P} {d : Nat} {Q : s_O → Prop} {h : s_H} {kc ks : Nat} {r0 : Term} {x1 x2 x3 s0 : Int}  (k1 : s0 ≠ 0 → wr P d sw_c194 sw_h194 (72, [r0, vi x1, vi x2, vi x3], [], h, kc, ks) Q) (k2 : ¬ s0 ≠ 0 → wr P d sw_c194 sw_h194 (70, [r0, vi x1, vi x2, vi x3], [], h, kc, ks) Q)  (c1 : In3 s0 := by first | omega | assumption | (simp only [mk_len, List.length_map]; omega) | decide) : wr P d sw_c194 sw_h194 (67, [r0, vi x1, vi x2, vi x3], [vi s0], h, kc, ks) Q := by
  exact w_if1 rfl c1 k1 k2

theorem k194_70 {P : s_P} {d : Nat} {Q : s_O → Prop} {h : s_H} {kc ks : Nat} {r0 : Term} {x1 x2 x3 : Int}  (k : Q (.inl (some (vi x2)), h, kc, ks))   : wr P d sw_c194 sw_h194 (70, [r0, vi x1, vi x2, vi x3], [], h, kc, ks) Q := by
  refine w_ld rfl rfl (Or.inl ⟨by decide, rfl⟩) ?_
  exact w_iret rfl k

theorem k194_72 {P : s_P} {d : Nat} {Q : s_O → Prop} {h : s_H} {kc ks : Nat} {r0 : Term} {x1 x2 x3 : Int} {q2 : Nat} {f3 : List Term} {z5 : Int} (g4 : s_get h q2 = some (1, 5, f3)) (k : wm P d 195 [.index q2, vi 2, vi z5] h (wq P d sw_c194 sw_h194 81 [.index q2, vi x1, vi x2, vi x3] [] kc ks Q)) (e_q2 : r0 = .index q2 := by first | rfl | assumption) (y1 : s_ty r0 = 3 := by first | rfl | assumption) (n6 : s_nth f3 13 = some (vi z5) := by first | rfl | assumption)  : wr P d sw_c194 sw_h194 (72, [r0, vi x1, vi x2, vi x3], [], h, kc, ks) Q := by
  refine w_ld rfl rfl (Or.inr (Or.inr ⟨by decide, y1⟩)) ?_
  refine w_c32 rfl (by decide) 2 (by decide) ?_
  refine w_ld rfl rfl (Or.inr (Or.inr ⟨by decide, y1⟩)) ?_
  subst e_q2
  refine w_getf rfl g4 n6 ?_
  exact w_cv rfl [.index q2, vi 2, vi z5] [] rfl rfl (s_wt_4 rfl) rfl g4 k

theorem k194_81 {P : s_P} {d : Nat} {Q : s_O → Prop} {h : s_H} {kc ks : Nat} {r0 : Term} {x1 x2 x3 : Int}  (k : Q (.inl (some (vi (-1))), h, kc, ks))   : wr P d sw_c194 sw_h194 (81, [r0, vi x1, vi x2, vi x3], [], h, kc, ks) Q := by
  refine w_c32 rfl (by decide) (-1) (by decide) ?_
  exact w_iret rfl k

/-! 195: FormulaWorks$Reader.fail(II)V -/
theorem k195_0 {P : s_P} {d : Nat} {Q : s_O → Prop} {h : s_H} {kc ks : Nat} {r0 : Term} {x1 x2 : Int} {q2 : Nat} {f3 f7 f10 : List Term} (g4 : s_get h q2 = some (1, 5, f3)) (g8 : s_get (hp h q2 (1, 5, f3.set 18 (vi x1))) q2 = some (1, 5, f7)) (g11 : s_get (hp (hp h q2 (1, 5, f3.set 18 (vi x1))) q2 (1, 5, f7.set 19 (vi x2))) q2 = some (1, 5, f10)) (k : Q (.inl none, (hp (hp (hp h q2 (1, 5, f3.set 18 (vi x1))) q2 (1, 5, f7.set 19 (vi x2))) q2 (1, 5, f10.set 17 (vi 1))), kc, ks)) (e_q2 : r0 = .index q2 := by first | rfl | assumption) (y1 : s_ty r0 = 3 := by first | rfl | assumption) (l5 : 18 < f3.length := by first | exact Nat.le_of_ble_eq_true rfl | omega | assumption) (l9 : 19 < f7.length := by first | exact Nat.le_of_ble_eq_true rfl | omega | assumption) (l12 : 17 < f10.length := by first | exact Nat.le_of_ble_eq_true rfl | omega | assumption) (c6 : 0 < q2 := by first | omega | assumption | (simp only [mk_len, List.length_map]; omega) | decide) : wr P d sw_c195 sw_h195 (0, [r0, vi x1, vi x2], [], h, kc, ks) Q := by
  refine w_ld rfl rfl (Or.inr (Or.inr ⟨by decide, y1⟩)) ?_
  refine w_ld rfl rfl (Or.inl ⟨by decide, rfl⟩) ?_
  subst e_q2
  refine w_putf rfl g4 (Nat.ble_eq_true_of_le c6) rfl (Nat.ble_eq_true_of_le l5) ?_
  refine w_ld rfl rfl (Or.inr (Or.inr ⟨by decide, rfl⟩)) ?_
  refine w_ld rfl rfl (Or.inl ⟨by decide, rfl⟩) ?_
  refine w_putf rfl g8 (Nat.ble_eq_true_of_le c6) rfl (Nat.ble_eq_true_of_le l9) ?_
  refine w_ld rfl rfl (Or.inr (Or.inr ⟨by decide, rfl⟩)) ?_
  refine w_c32 rfl (by decide) 1 (by decide) ?_
  refine w_putf rfl g11 (Nat.ble_eq_true_of_le c6) (by decide) (Nat.ble_eq_true_of_le l12) ?_
  exact w_ret rfl k

/-! 196: FormulaWorks$Reader.give(LFormulaWorks$Thing;)V -/
theorem k196_0 {P : s_P} {d : Nat} {Q : s_O → Prop} {h : s_H} {kc ks : Nat} {r0 r1 : Term}  (k1 : ∀ q, r1 = .index q → wr P d sw_c196 sw_h196 (15, [r0, r1], [], h, kc, ks) Q) (k2 : (r1 = .null) → wr P d sw_c196 sw_h196 (4, [r0, r1], [], h, kc, ks) Q) (y1 : s_ty r1 = 3 := by first | rfl | assumption)  : wr P d sw_c196 sw_h196 (0, [r0, r1], [], h, kc, ks) Q := by
  refine w_ld rfl rfl (Or.inr (Or.inr ⟨by decide, y1⟩)) ?_
  exact w_ifnonnull rfl k1 k2 y1

theorem k196_4 {P : s_P} {d : Nat} {Q : s_O → Prop} {h : s_H} {kc ks : Nat} {r0 r1 : Term} {q2 : Nat} {f3 : List Term} {z5 : Int} (g4 : s_get h q2 = some (1, 5, f3)) (k : wm P d 195 [.index q2, vi 7, vi z5] h (wq P d sw_c196 sw_h196 14 [.index q2, r1] [] kc ks Q)) (e_q2 : r0 = .index q2 := by first | rfl | assumption) (y1 : s_ty r0 = 3 := by first | rfl | assumption) (n6 : s_nth f3 13 = some (vi z5) := by first | rfl | assumption)  : wr P d sw_c196 sw_h196 (4, [r0, r1], [], h, kc, ks) Q := by
  refine w_ld rfl rfl (Or.inr (Or.inr ⟨by decide, y1⟩)) ?_
  refine w_c32 rfl (by decide) 7 (by decide) ?_
  refine w_ld rfl rfl (Or.inr (Or.inr ⟨by decide, y1⟩)) ?_
  subst e_q2
  refine w_getf rfl g4 n6 ?_
  exact w_cv rfl [.index q2, vi 7, vi z5] [] rfl rfl (s_wt_4 rfl) rfl g4 k

theorem k196_14 {P : s_P} {d : Nat} {Q : s_O → Prop} {h : s_H} {kc ks : Nat} {r0 r1 : Term}  (k : Q (.inl none, h, kc, ks))   : wr P d sw_c196 sw_h196 (14, [r0, r1], [], h, kc, ks) Q := by
  exact w_ret rfl k

theorem k196_15 {P : s_P} {d : Nat} {Q : s_O → Prop} {h : s_H} {kc ks : Nat} {r0 r1 : Term} {q2 : Nat} {f3 : List Term} (g4 : s_get h q2 = some (1, 5, f3)) (k : wm P d 203 [.index q2] h (wq P d sw_c196 sw_h196 19 [.index q2, r1] [] kc ks Q)) (e_q2 : r0 = .index q2 := by first | rfl | assumption) (y1 : s_ty r0 = 3 := by first | rfl | assumption)  : wr P d sw_c196 sw_h196 (15, [r0, r1], [], h, kc, ks) Q := by
  refine w_ld rfl rfl (Or.inr (Or.inr ⟨by decide, y1⟩)) ?_
  subst e_q2
  exact w_cv rfl [.index q2] [] rfl rfl (s_wt_4 rfl) rfl g4 k

theorem k196_19 {P : s_P} {d : Nat} {Q : s_O → Prop} {h : s_H} {kc ks : Nat} {r0 r1 s0 : Term} {q2 : Nat} {f3 : List Term} {v5 v7 : Term} {q9 : Nat} {f10 : List Term} (g4 : s_get h q2 = some (1, 8, f3)) (g11 : s_get h q9 = some (1, 8, f10)) (k : wm P d 272 [.index q9, v5, v7] h (wq P d sw_c196 sw_h196 30 [r0, .index q2] [] kc ks Q)) (e_q2 : r1 = .index q2 := by first | rfl | assumption) (e_q9 : s0 = .index q9 := by first | rfl | assumption) (y1 : s_ty r1 = 3 := by first | rfl | assumption) (n6 : s_nth f3 1 = some v5 := by first | rfl | assumption) (n8 : s_nth f3 2 = some v7 := by first | rfl | assumption)  : wr P d sw_c196 sw_h196 (19, [r0, r1], [s0], h, kc, ks) Q := by
  refine w_ld rfl rfl (Or.inr (Or.inr ⟨by decide, y1⟩)) ?_
  subst e_q2
  refine w_getf rfl g4 n6 ?_
  refine w_ld rfl rfl (Or.inr (Or.inr ⟨by decide, rfl⟩)) ?_
  refine w_getf rfl g4 n8 ?_
  subst e_q9
  exact w_cv rfl [.index q9, v5, v7] [] rfl rfl (s_wt_4 rfl) rfl g11 k

theorem k196_30 {P : s_P} {d : Nat} {Q : s_O → Prop} {h : s_H} {kc ks : Nat} {r0 r1 : Term} {q2 : Nat} {f3 : List Term} (g4 : s_get h q2 = some (1, 5, f3)) (k : wm P d 209 [.index q2, vi 2] h (wq P d sw_c196 sw_h196 35 [.index q2, r1] [] kc ks Q)) (e_q2 : r0 = .index q2 := by first | rfl | assumption) (y1 : s_ty r0 = 3 := by first | rfl | assumption)  : wr P d sw_c196 sw_h196 (30, [r0, r1], [], h, kc, ks) Q := by
  refine w_ld rfl rfl (Or.inr (Or.inr ⟨by decide, y1⟩)) ?_
  refine w_c32 rfl (by decide) 2 (by decide) ?_
  subst e_q2
  exact w_cv rfl [.index q2, vi 2] [] rfl rfl (s_wt_4 rfl) rfl g4 k

theorem k196_35 {P : s_P} {d : Nat} {Q : s_O → Prop} {h : s_H} {kc ks : Nat} {r0 r1 : Term}  (k : Q (.inl none, h, kc, ks))   : wr P d sw_c196 sw_h196 (35, [r0, r1], [], h, kc, ks) Q := by
  exact w_ret rfl k

/-! 197: FormulaWorks$Reader.handle()V -/
theorem k197_0 {P : s_P} {d : Nat} {Q : s_O → Prop} {h : s_H} {kc ks : Nat} {r0 t1 t2 t3 : Term} {q2 : Nat} {f3 : List Term} {z5 : Int} {f9 : List Term} (g4 : s_get h q2 = some (1, 5, f3)) (g10 : s_get (hp h q2 (1, 5, f3.set 13 (vi (z5 + 1)))) q2 = some (1, 5, f9)) (k : wm P d 194 [.index q2, vi 3] (hp h q2 (1, 5, f3.set 13 (vi (z5 + 1)))) (wq P d sw_c197 sw_h197 20 [.index q2, vi z5, t2, t3] [] kc ks Q)) (e_q2 : r0 = .index q2 := by first | rfl | assumption) (y1 : s_ty r0 = 3 := by first | rfl | assumption) (n6 : s_nth f3 13 = some (vi z5) := by first | rfl | assumption) (l7 : 13 < f3.length := by first | exact Nat.le_of_ble_eq_true rfl | omega | assumption) (c8 : 0 < q2 := by first | omega | assumption | (simp only [mk_len, List.length_map]; omega) | decide) : wr P d sw_c197 sw_h197 (0, [r0, t1, t2, t3], [], h, kc, ks) Q := by
  refine w_ld rfl rfl (Or.inr (Or.inr ⟨by decide, y1⟩)) ?_
  subst e_q2
  refine w_getf rfl g4 n6 ?_
  refine w_st (ls' := [.index q2, vi z5, t2, t3]) rfl (Or.inl ⟨by decide, rfl⟩) rfl ?_
  refine w_ld rfl rfl (Or.inr (Or.inr ⟨by decide, rfl⟩)) ?_
  refine w_dup rfl rfl ?_
  refine w_getf rfl g4 n6 ?_
  refine w_c32 rfl (by decide) 1 (by decide) ?_
  refine w_iadd rfl ?_
  refine w_putf rfl g4 (Nat.ble_eq_true_of_le c8) rfl (Nat.ble_eq_true_of_le l7) ?_
  refine w_ld rfl rfl (Or.inr (Or.inr ⟨by decide, rfl⟩)) ?_
  refine w_c32 rfl (by decide) 3 (by decide) ?_
  exact w_cv rfl [.index q2, vi 3] [] rfl rfl (s_wt_4 rfl) rfl g10 k

theorem k197_20 {P : s_P} {d : Nat} {Q : s_O → Prop} {h : s_H} {kc ks : Nat} {r0 : Term} {x1 : Int} {t2 t3 : Term} {s0 : Int}  (k1 : 0 ≤ s0 → wr P d sw_c197 sw_h197 (26, [r0, vi x1, vi s0, t3], [], h, kc, ks) Q) (k2 : ¬ 0 ≤ s0 → wr P d sw_c197 sw_h197 (25, [r0, vi x1, vi s0, t3], [], h, kc, ks) Q)  (c1 : In3 s0 := by first | omega | assumption | (simp only [mk_len, List.length_map]; omega) | decide) : wr P d sw_c197 sw_h197 (20, [r0, vi x1, t2, t3], [vi s0], h, kc, ks) Q := by
  refine w_st (ls' := [r0, vi x1, vi s0, t3]) rfl (Or.inl ⟨by decide, rfl⟩) rfl ?_
  refine w_ld rfl rfl (Or.inl ⟨by decide, rfl⟩) ?_
  exact w_if1 rfl c1 k1 k2

theorem k197_25 {P : s_P} {d : Nat} {Q : s_O → Prop} {h : s_H} {kc ks : Nat} {r0 : Term} {x1 x2 : Int} {t3 : Term}  (k : Q (.inl none, h, kc, ks))   : wr P d sw_c197 sw_h197 (25, [r0, vi x1, vi x2, t3], [], h, kc, ks) Q := by
  exact w_ret rfl k

theorem k197_26 {P : s_P} {d : Nat} {Q : s_O → Prop} {h : s_H} {kc ks : Nat} {r0 : Term} {x1 x2 : Int} {t3 : Term} {q2 : Nat} {f3 : List Term} {z5 : Int} (g4 : s_get h q2 = some (1, 5, f3)) (k1 : z5 ≤ x2 → wr P d sw_c197 sw_h197 (52, [.index q2, vi x1, vi x2, t3], [], h, kc, ks) Q) (k2 : ¬ z5 ≤ x2 → wr P d sw_c197 sw_h197 (34, [.index q2, vi x1, vi x2, t3], [], h, kc, ks) Q) (e_q2 : r0 = .index q2 := by first | rfl | assumption) (y1 : s_ty r0 = 3 := by first | rfl | assumption) (n6 : s_nth f3 12 = some (vi z5) := by first | rfl | assumption) (c7 : In3 x2 := by first | omega | assumption | (simp only [mk_len, List.length_map]; omega) | decide) (c8 : In3 z5 := by first | omega | assumption | (simp only [mk_len, List.length_map]; omega) | decide) : wr P d sw_c197 sw_h197 (26, [r0, vi x1, vi x2, t3], [], h, kc, ks) Q := by
  refine w_ld rfl rfl (Or.inl ⟨by decide, rfl⟩) ?_
  refine w_ld rfl rfl (Or.inr (Or.inr ⟨by decide, y1⟩)) ?_
  subst e_q2
  refine w_getf rfl g4 n6 ?_
  exact w_if2 rfl c7 c8 k1 k2

theorem k197_34 {P : s_P} {d : Nat} {Q : s_O → Prop} {h : s_H} {kc ks : Nat} {r0 : Term} {x1 x2 : Int} {t3 : Term} {q2 : Nat} {f3 : List Term} {v5 : Term} {q7 : Nat} {a8 : List Term} {tg10 : Nat} (g4 : s_get h q2 = some (1, 5, f3)) (g9 : s_get h q7 = some (0, tg10, a8)) (k1 : (a8.length : Int) ≤ x2 → wr P d sw_c197 sw_h197 (52, [.index q2, vi x1, vi x2, t3], [], h, kc, ks) Q) (k2 : ¬ (a8.length : Int) ≤ x2 → wr P d sw_c197 sw_h197 (43, [.index q2, vi x1, vi x2, t3], [], h, kc, ks) Q) (e_q2 : r0 = .index q2 := by first | rfl | assumption) (e_q7 : v5 = .index q7 := by first | rfl | assumption) (y1 : s_ty r0 = 3 := by first | rfl | assumption) (n6 : s_nth f3 2 = some v5 := by first | rfl | assumption) (c11 : In3 x2 := by first | omega | assumption | (simp only [mk_len, List.length_map]; omega) | decide) (c12 : In3 (a8.length : Int) := by first | omega | assumption | (simp only [mk_len, List.length_map]; omega) | decide) : wr P d sw_c197 sw_h197 (34, [r0, vi x1, vi x2, t3], [], h, kc, ks) Q := by
  refine w_ld rfl rfl (Or.inl ⟨by decide, rfl⟩) ?_
  refine w_ld rfl rfl (Or.inr (Or.inr ⟨by decide, y1⟩)) ?_
  subst e_q2
  refine w_getf rfl g4 n6 ?_
  subst e_q7
  refine w_alen rfl g9 (Or.inl rfl) ?_
  exact w_if2 rfl c11 c12 k1 k2

theorem k197_43 {P : s_P} {d : Nat} {Q : s_O → Prop} {h : s_H} {kc ks : Nat} {r0 : Term} {x1 x2 : Int} {t3 : Term} {q2 : Nat} {f3 : List Term} {v5 : Term} {q7 : Nat} {a8 : List Term} {tg10 : Nat} {v11 : Term} (g4 : s_get h q2 = some (1, 5, f3)) (g9 : s_get h q7 = some (0, tg10, a8)) (k : wr P d sw_c197 sw_h197 (53, [.index q2, vi x1, vi x2, t3], [v11], h, kc, ks) Q) (e_q2 : r0 = .index q2 := by first | rfl | assumption) (e_q7 : v5 = .index q7 := by first | rfl | assumption) (y1 : s_ty r0 = 3 := by first | rfl | assumption) (n6 : s_nth f3 2 = some v5 := by first | rfl | assumption) (n12 : s_nth a8 (Int.toNat (x2)) = some v11 := by first | rfl | assumption) (u13 : tg10 = 2 ∨ tg10 = 3 ∨ tg10 = 4 := by first | decide | assumption) (c14 : In3 x2 := by first | omega | assumption | (simp only [mk_len, List.length_map]; omega) | decide) (c15 : 0 ≤ x2 := by first | omega | assumption | (simp only [mk_len, List.length_map]; omega) | decide) : wr P d sw_c197 sw_h197 (43, [r0, vi x1, vi x2, t3], [], h, kc, ks) Q := by
  refine w_ld rfl rfl (Or.inr (Or.inr ⟨by decide, y1⟩)) ?_
  subst e_q2
  refine w_getf rfl g4 n6 ?_
  refine w_ld rfl rfl (Or.inl ⟨by decide, rfl⟩) ?_
  subst e_q7
  refine w_aald rfl g9 u13 c14 c15 n12 ?_
  refine w_goto rfl ?_
  exact k

theorem k197_52 {P : s_P} {d : Nat} {Q : s_O → Prop} {h : s_H} {kc ks : Nat} {r0 : Term} {x1 x2 : Int} {t3 : Term}  (k : wr P d sw_c197 sw_h197 (53, [r0, vi x1, vi x2, t3], [.null], h, kc, ks) Q)   : wr P d sw_c197 sw_h197 (52, [r0, vi x1, vi x2, t3], [], h, kc, ks) Q := by
  refine w_null rfl ?_
  exact k

theorem k197_53 {P : s_P} {d : Nat} {Q : s_O → Prop} {h : s_H} {kc ks : Nat} {r0 : Term} {x1 x2 : Int} {t3 s0 : Term}  (k1 : (s0 = .null) → wr P d sw_c197 sw_h197 (65, [r0, vi x1, vi x2, s0], [], h, kc, ks) Q) (k2 : ∀ q, s0 = .index q → wr P d sw_c197 sw_h197 (58, [r0, vi x1, vi x2, s0], [], h, kc, ks) Q) (y1 : s_ty s0 = 3 := by first | rfl | assumption)  : wr P d sw_c197 sw_h197 (53, [r0, vi x1, vi x2, t3], [s0], h, kc, ks) Q := by
  refine w_st (ls' := [r0, vi x1, vi x2, s0]) rfl (Or.inr ⟨by decide, y1⟩) rfl ?_
  refine w_ld rfl rfl (Or.inr (Or.inr ⟨by decide, y1⟩)) ?_
  exact w_ifnull rfl k1 k2 y1

theorem k197_58 {P : s_P} {d : Nat} {Q : s_O → Prop} {h : s_H} {kc ks : Nat} {r0 : Term} {x1 x2 : Int} {r3 : Term} {q2 : Nat} {f3 : List Term} {z5 : Int} (g4 : s_get h q2 = some (1, 8, f3)) (k1 : z5 = 0 → wr P d sw_c197 sw_h197 (72, [r0, vi x1, vi x2, .index q2], [], h, kc, ks) Q) (k2 : ¬ z5 = 0 → wr P d sw_c197 sw_h197 (65, [r0, vi x1, vi x2, .index q2], [], h, kc, ks) Q) (e_q2 : r3 = .index q2 := by first | rfl | assumption) (y1 : s_ty r3 = 3 := by first | rfl | assumption) (n6 : s_nth f3 0 = some (vi z5) := by first | rfl | assumption) (c7 : In3 z5 := by first | omega | assumption | (simp only [mk_len, List.length_map]; omega) | decide) : wr P d sw_c197 sw_h197 (58, [r0, vi x1, vi x2, r3], [], h, kc, ks) Q := by
  refine w_ld rfl rfl (Or.inr (Or.inr ⟨by decide, y1⟩)) ?_
  subst e_q2
  refine w_getf rfl g4 n6 ?_
  exact w_if1 rfl c7 k1 k2

theorem k197_65 {P : s_P} {d : Nat} {Q : s_O → Prop} {h : s_H} {kc ks : Nat} {r0 : Term} {x1 x2 : Int} {r3 : Term} {q2 : Nat} {f3 : List Term} (g4 : s_get h q2 = some (1, 5, f3)) (k : wm P d 195 [.index q2, vi 3, vi x1] h (wq P d sw_c197 sw_h197 71 [.index q2, vi x1, vi x2, r3] [] kc ks Q)) (e_q2 : r0 = .index q2 := by first | rfl | assumption) (y1 : s_ty r0 = 3 := by first | rfl | assumption)  : wr P d sw_c197 sw_h197 (65, [r0, vi x1, vi x2, r3], [], h, kc, ks) Q := by
  refine w_ld rfl rfl (Or.inr (Or.inr ⟨by decide, y1⟩)) ?_
  refine w_c32 rfl (by decide) 3 (by decide) ?_
  refine w_ld rfl rfl (Or.inl ⟨by decide, rfl⟩) ?_
  subst e_q2
  exact w_cv rfl [.index q2, vi 3, vi x1] [] rfl rfl (s_wt_4 rfl) rfl g4 k

theorem k197_71 {P : s_P} {d : Nat} {Q : s_O → Prop} {h : s_H} {kc ks : Nat} {r0 : Term} {x1 x2 : Int} {r3 : Term}  (k : Q (.inl none, h, kc, ks))   : wr P d sw_c197 sw_h197 (71, [r0, vi x1, vi x2, r3], [], h, kc, ks) Q := by
  exact w_ret rfl k

theorem k197_72 {P : s_P} {d : Nat} {Q : s_O → Prop} {h : s_H} {kc ks : Nat} {r0 : Term} {x1 x2 : Int} {r3 : Term} {q2 : Nat} {f3 : List Term} (g4 : s_get h q2 = some (1, 5, f3)) (k : wm P d 203 [.index q2] h (wq P d sw_c197 sw_h197 76 [.index q2, vi x1, vi x2, r3] [] kc ks Q)) (e_q2 : r0 = .index q2 := by first | rfl | assumption) (y1 : s_ty r0 = 3 := by first | rfl | assumption)  : wr P d sw_c197 sw_h197 (72, [r0, vi x1, vi x2, r3], [], h, kc, ks) Q := by
  refine w_ld rfl rfl (Or.inr (Or.inr ⟨by decide, y1⟩)) ?_
  subst e_q2
  exact w_cv rfl [.index q2] [] rfl rfl (s_wt_4 rfl) rfl g4 k

theorem k197_76 {P : s_P} {d : Nat} {Q : s_O → Prop} {h : s_H} {kc ks : Nat} {r0 : Term} {x1 x2 : Int} {r3 s0 : Term} {q2 : Nat} {f3 : List Term} {v5 v7 : Term} {q9 : Nat} {f10 : List Term} (g4 : s_get h q2 = some (1, 8, f3)) (g11 : s_get h q9 = some (1, 8, f10)) (k : wm P d 272 [.index q9, v5, v7] h (wq P d sw_c197 sw_h197 87 [r0, vi x1, vi x2, .index q2] [] kc ks Q)) (e_q2 : r3 = .index q2 := by first | rfl | assumption) (e_q9 : s0 = .index q9 := by first | rfl | assumption) (y1 : s_ty r3 = 3 := by first | rfl | assumption) (n6 : s_nth f3 1 = some v5 := by first | rfl | assumption) (n8 : s_nth f3 2 = some v7 := by first | rfl | assumption)  : wr P d sw_c197 sw_h197 (76, [r0, vi x1, vi x2, r3], [s0], h, kc, ks) Q := by
  refine w_ld rfl rfl (Or.inr (Or.inr ⟨by decide, y1⟩)) ?_
  subst e_q2
  refine w_getf rfl g4 n6 ?_
  refine w_ld rfl rfl (Or.inr (Or.inr ⟨by decide, rfl⟩)) ?_
  refine w_getf rfl g4 n8 ?_
  subst e_q9
  exact w_cv rfl [.index q9, v5, v7] [] rfl rfl (s_wt_4 rfl) rfl g11 k

theorem k197_87 {P : s_P} {d : Nat} {Q : s_O → Prop} {h : s_H} {kc ks : Nat} {r0 : Term} {x1 x2 : Int} {r3 : Term} {q2 : Nat} {f3 : List Term} (g4 : s_get h q2 = some (1, 5, f3)) (k : Q (.inl none, (hp h q2 (1, 5, f3.set 15 (vi 2))), kc, ks)) (e_q2 : r0 = .index q2 := by first | rfl | assumption) (y1 : s_ty r0 = 3 := by first | rfl | assumption) (l5 : 15 < f3.length := by first | exact Nat.le_of_ble_eq_true rfl | omega | assumption) (c6 : 0 < q2 := by first | omega | assumption | (simp only [mk_len, List.length_map]; omega) | decide) : wr P d sw_c197 sw_h197 (87, [r0, vi x1, vi x2, r3], [], h, kc, ks) Q := by
  refine w_ld rfl rfl (Or.inr (Or.inr ⟨by decide, y1⟩)) ?_
  refine w_c32 rfl (by decide) 2 (by decide) ?_
  subst e_q2
  refine w_putf rfl g4 (Nat.ble_eq_true_of_le c6) rfl (Nat.ble_eq_true_of_le l5) ?_
  exact w_ret rfl k

/-! 198: FormulaWorks$Reader.isDigit()Z -/
theorem k198_0 {P : s_P} {d : Nat} {Q : s_O → Prop} {h : s_H} {kc ks : Nat} {r0 : Term} {q2 : Nat} {f3 : List Term} (g4 : s_get h q2 = some (1, 5, f3)) (k : wm P d 200 [.index q2] h (wq P d sw_c198 sw_h198 4 [.index q2] [] kc ks Q)) (e_q2 : r0 = .index q2 := by first | rfl | assumption) (y1 : s_ty r0 = 3 := by first | rfl | assumption)  : wr P d sw_c198 sw_h198 (0, [r0], [], h, kc, ks) Q := by
  refine w_ld rfl rfl (Or.inr (Or.inr ⟨by decide, y1⟩)) ?_
  subst e_q2
  exact w_cv rfl [.index q2] [] rfl rfl (s_wt_4 rfl) rfl g4 k

theorem k198_4 {P : s_P} {d : Nat} {Q : s_O → Prop} {h : s_H} {kc ks : Nat} {r0 : Term} {s0 : Int}  (k1 : s0 < 48 → wr P d sw_c198 sw_h198 (22, [r0], [], h, kc, ks) Q) (k2 : ¬ s0 < 48 → wr P d sw_c198 sw_h198 (9, [r0], [], h, kc, ks) Q)  (c1 : In3 s0 := by first | omega | assumption | (simp only [mk_len, List.length_map]; omega) | decide) : wr P d sw_c198 sw_h198 (4, [r0], [vi s0], h, kc, ks) Q := by
  refine w_c32 rfl (by decide) 48 (by decide) ?_
  exact w_if2 rfl c1 (by decide) k1 k2

theorem k198_9 {P : s_P} {d : Nat} {Q : s_O → Prop} {h : s_H} {kc ks : Nat} {r0 : Term} {q2 : Nat} {f3 : List Term} (g4 : s_get h q2 = some (1, 5, f3)) (k : wm P d 200 [.index q2] h (wq P d sw_c198 sw_h198 13 [.index q2] [] kc ks Q)) (e_q2 : r0 = .index q2 := by first | rfl | assumption) (y1 : s_ty r0 = 3 := by first | rfl | assumption)  : wr P d sw_c198 sw_h198 (9, [r0], [], h, kc, ks) Q := by
  refine w_ld rfl rfl (Or.inr (Or.inr ⟨by decide, y1⟩)) ?_
  subst e_q2
  exact w_cv rfl [.index q2] [] rfl rfl (s_wt_4 rfl) rfl g4 k

theorem k198_13 {P : s_P} {d : Nat} {Q : s_O → Prop} {h : s_H} {kc ks : Nat} {r0 : Term} {s0 : Int}  (k1 : 57 < s0 → wr P d sw_c198 sw_h198 (22, [r0], [], h, kc, ks) Q) (k2 : ¬ 57 < s0 → wr P d sw_c198 sw_h198 (18, [r0], [], h, kc, ks) Q)  (c1 : In3 s0 := by first | omega | assumption | (simp only [mk_len, List.length_map]; omega) | decide) : wr P d sw_c198 sw_h198 (13, [r0], [vi s0], h, kc, ks) Q := by
  refine w_c32 rfl (by decide) 57 (by decide) ?_
  exact w_if2 rfl c1 (by decide) k1 k2

theorem k198_18 {P : s_P} {d : Nat} {Q : s_O → Prop} {h : s_H} {kc ks : Nat} {r0 : Term}  (k : wr P d sw_c198 sw_h198 (23, [r0], [vi 1], h, kc, ks) Q)   : wr P d sw_c198 sw_h198 (18, [r0], [], h, kc, ks) Q := by
  refine w_c32 rfl (by decide) 1 (by decide) ?_
  refine w_goto rfl ?_
  exact k

theorem k198_22 {P : s_P} {d : Nat} {Q : s_O → Prop} {h : s_H} {kc ks : Nat} {r0 : Term}  (k : wr P d sw_c198 sw_h198 (23, [r0], [vi 0], h, kc, ks) Q)   : wr P d sw_c198 sw_h198 (22, [r0], [], h, kc, ks) Q := by
  refine w_c32 rfl (by decide) 0 (by decide) ?_
  exact k

theorem k198_23 {P : s_P} {d : Nat} {Q : s_O → Prop} {h : s_H} {kc ks : Nat} {r0 : Term} {s0 : Int}  (k : Q (.inl (some (vi s0)), h, kc, ks))  (c1 : s0 = 0 ∨ s0 = 1 := by first | omega | assumption | (simp only [mk_len, List.length_map]; omega) | decide) : wr P d sw_c198 sw_h198 (23, [r0], [vi s0], h, kc, ks) Q := by
  exact w_zret rfl c1 k

/-! 199: FormulaWorks$Reader.lessen()V -/
theorem k199_0 {P : s_P} {d : Nat} {Q : s_O → Prop} {h : s_H} {kc ks : Nat} {r0 : Term} {q2 : Nat} {f3 : List Term} {v5 : Term} {z7 : Int} {q9 : Nat} {a10 : List Int} (g4 : s_get h q2 = some (1, 5, f3)) (g11 : s_get h q9 = some (0, 0, a10.map vi)) (k1 : 0 ≤ gi a10 z7 → wr P d sw_c199 sw_h199 (13, [.index q2], [], h, kc, ks) Q) (k2 : ¬ 0 ≤ gi a10 z7 → wr P d sw_c199 sw_h199 (12, [.index q2], [], h, kc, ks) Q) (e_q2 : r0 = .index q2 := by first | rfl | assumption) (e_q9 : v5 = .index q9 := by first | rfl | assumption) (y1 : s_ty r0 = 3 := by first | rfl | assumption) (n6 : s_nth f3 5 = some v5 := by first | rfl | assumption) (n8 : s_nth f3 14 = some (vi z7) := by first | rfl | assumption) (c12 : z7 < a10.length := by first | omega | assumption | (simp only [mk_len, List.length_map]; omega) | decide) (c13 : 0 ≤ z7 := by first | omega | assumption | (simp only [mk_len, List.length_map]; omega) | decide) (c14 : In3 z7 := by first | omega | assumption | (simp only [mk_len, List.length_map]; omega) | decide) (c15 : In3 (gi a10 z7) := by first | omega | assumption | (simp only [mk_len, List.length_map]; omega) | decide) : wr P d sw_c199 sw_h199 (0, [r0], [], h, kc, ks) Q := by
  refine w_ld rfl rfl (Or.inr (Or.inr ⟨by decide, y1⟩)) ?_
  subst e_q2
  refine w_getf rfl g4 n6 ?_
  refine w_ld rfl rfl (Or.inr (Or.inr ⟨by decide, rfl⟩)) ?_
  refine w_getf rfl g4 n8 ?_
  subst e_q9
  refine w_iald rfl g11 (Or.inl rfl) c14 c13 c12 ?_
  exact w_if1 rfl c15 k1 k2

theorem k199_12 {P : s_P} {d : Nat} {Q : s_O → Prop} {h : s_H} {kc ks : Nat} {r0 : Term}  (k : Q (.inl none, h, kc, ks))   : wr P d sw_c199 sw_h199 (12, [r0], [], h, kc, ks) Q := by
  exact w_ret rfl k

theorem k199_13 {P : s_P} {d : Nat} {Q : s_O → Prop} {h : s_H} {kc ks : Nat} {r0 : Term} {q2 : Nat} {f3 : List Term} {v5 : Term} {z7 : Int} {q9 : Nat} {a10 : List Int} {f16 : List Term} (g4 : s_get h q2 = some (1, 5, f3)) (g11 : s_get h q9 = some (0, 0, a10.map vi)) (g17 : s_get (hp h q9 (0, 0, (a10.set (Int.toNat (z7)) (-1)).map vi)) q2 = some (1, 5, f16)) (k : wm P d 201 [.index q2, vi 8] (hp h q9 (0, 0, (a10.set (Int.toNat (z7)) (-1)).map vi)) (wq P d sw_c199 sw_h199 29 [.index q2] [] kc ks Q)) (e_q2 : r0 = .index q2 := by first | rfl | assumption) (e_q9 : v5 = .index q9 := by first | rfl | assumption) (y1 : s_ty r0 = 3 := by first | rfl | assumption) (n6 : s_nth f3 5 = some v5 := by first | rfl | assumption) (n8 : s_nth f3 14 = some (vi z7) := by first | rfl | assumption) (c12 : z7 < a10.length := by first | omega | assumption | (simp only [mk_len, List.length_map]; omega) | decide) (c13 : 0 ≤ z7 := by first | omega | assumption | (simp only [mk_len, List.length_map]; omega) | decide) (c14 : In3 z7 := by first | omega | assumption | (simp only [mk_len, List.length_map]; omega) | decide) (c15 : 0 < q9 := by first | omega | assumption | (simp only [mk_len, List.length_map]; omega) | decide) : wr P d sw_c199 sw_h199 (13, [r0], [], h, kc, ks) Q := by
  refine w_ld rfl rfl (Or.inr (Or.inr ⟨by decide, y1⟩)) ?_
  subst e_q2
  refine w_getf rfl g4 n6 ?_
  refine w_ld rfl rfl (Or.inr (Or.inr ⟨by decide, rfl⟩)) ?_
  refine w_getf rfl g4 n8 ?_
  refine w_c32 rfl (by decide) (-1) (by decide) ?_
  subst e_q9
  refine w_iast rfl g11 (Nat.ble_eq_true_of_le c15) c14 c13 c12 ?_
  refine w_ld rfl rfl (Or.inr (Or.inr ⟨by decide, rfl⟩)) ?_
  refine w_c32 rfl (by decide) 8 (by decide) ?_
  exact w_cv rfl [.index q2, vi 8] [] rfl rfl (s_wt_4 rfl) rfl g17 k

theorem k199_29 {P : s_P} {d : Nat} {Q : s_O → Prop} {h : s_H} {kc ks : Nat} {r0 : Term} {s0 : Int}  (k1 : s0 = 0 → wr P d sw_c199 sw_h199 (44, [r0], [], h, kc, ks) Q) (k2 : ¬ s0 = 0 → wr P d sw_c199 sw_h199 (32, [r0], [], h, kc, ks) Q)  (c1 : In3 s0 := by first | omega | assumption | (simp only [mk_len, List.length_map]; omega) | decide) : wr P d sw_c199 sw_h199 (29, [r0], [vi s0], h, kc, ks) Q := by
  exact w_if1 rfl c1 k1 k2

theorem k199_32 {P : s_P} {d : Nat} {Q : s_O → Prop} {h : s_H} {kc ks : Nat} {r0 : Term} {q2 : Nat} {f3 : List Term} {v5 : Term} {q7 : Nat} {f8 : List Term} (g4 : s_get h q2 = some (1, 5, f3)) (g9 : s_get h q7 = some (1, 9, f8)) (k : wm P d 320 [.index q7, vi 6] h (wq P d sw_c199 sw_h199 41 [.index q2] [] kc ks Q)) (e_q2 : r0 = .index q2 := by first | rfl | assumption) (e_q7 : v5 = .index q7 := by first | rfl | assumption) (y1 : s_ty r0 = 3 := by first | rfl | assumption) (n6 : s_nth f3 1 = some v5 := by first | rfl | assumption)  : wr P d sw_c199 sw_h199 (32, [r0], [], h, kc, ks) Q := by
  refine w_ld rfl rfl (Or.inr (Or.inr ⟨by decide, y1⟩)) ?_
  subst e_q2
  refine w_getf rfl g4 n6 ?_
  refine w_c32 rfl (by decide) 6 (by decide) ?_
  subst e_q7
  exact w_cv rfl [.index q7, vi 6] [] rfl rfl (s_wt_4 rfl) rfl g9 k

theorem k199_44 {P : s_P} {d : Nat} {Q : s_O → Prop} {h : s_H} {kc ks : Nat} {r0 : Term} {q2 : Nat} {f3 : List Term} (g4 : s_get h q2 = some (1, 5, f3)) (k : wm P d 210 [.index q2] h (wq P d sw_c199 sw_h199 48 [.index q2] [] kc ks Q)) (e_q2 : r0 = .index q2 := by first | rfl | assumption) (y1 : s_ty r0 = 3 := by first | rfl | assumption)  : wr P d sw_c199 sw_h199 (44, [r0], [], h, kc, ks) Q := by
  refine w_ld rfl rfl (Or.inr (Or.inr ⟨by decide, y1⟩)) ?_
  subst e_q2
  exact w_cv rfl [.index q2] [] rfl rfl (s_wt_4 rfl) rfl g4 k

theorem k199_48 {P : s_P} {d : Nat} {Q : s_O → Prop} {h : s_H} {kc ks : Nat} {r0 s0 : Term} {q1 : Nat} {f2 : List Term} {v4 : Term} {q6 : Nat} {f7 : List Term} (g3 : s_get h q1 = some (1, 8, f2)) (g8 : s_get h q6 = some (1, 4, f7)) (k : wm P d 178 [.index q6, vi 32002] h (wq P d sw_c199 sw_h199 57 [r0] [] kc ks Q)) (e_q1 : s0 = .index q1 := by first | rfl | assumption) (e_q6 : v4 = .index q6 := by first | rfl | assumption) (n5 : s_nth f2 1 = some v4 := by first | rfl | assumption)  : wr P d sw_c199 sw_h199 (48, [r0], [s0], h, kc, ks) Q := by
  subst e_q1
  refine w_getf rfl g3 n5 ?_
  refine w_c32 rfl (by decide) 32002 (by decide) ?_
  subst e_q6
  exact w_cv rfl [.index q6, vi 32002] [] rfl rfl (s_wt_4 rfl) rfl g8 k

theorem k199_57 {P : s_P} {d : Nat} {Q : s_O → Prop} {h : s_H} {kc ks : Nat} {r0 : Term}  (k : Q (.inl none, h, kc, ks))   : wr P d sw_c199 sw_h199 (57, [r0], [], h, kc, ks) Q := by
  exact w_ret rfl k

/-! 200: FormulaWorks$Reader.look()I -/
theorem k200_0 {P : s_P} {d : Nat} {Q : s_O → Prop} {h : s_H} {kc ks : Nat} {r0 : Term} {q2 : Nat} {f3 : List Term} {z5 : Int} (g4 : s_get h q2 = some (1, 5, f3)) (k1 : z5 < 0 → wr P d sw_c200 sw_h200 (42, [.index q2], [], h, kc, ks) Q) (k2 : ¬ z5 < 0 → wr P d sw_c200 sw_h200 (7, [.index q2], [], h, kc, ks) Q) (e_q2 : r0 = .index q2 := by first | rfl | assumption) (y1 : s_ty r0 = 3 := by first | rfl | assumption) (n6 : s_nth f3 13 = some (vi z5) := by first | rfl | assumption) (c7 : In3 z5 := by first | omega | assumption | (simp only [mk_len, List.length_map]; omega) | decide) : wr P d sw_c200 sw_h200 (0, [r0], [], h, kc, ks) Q := by
  refine w_ld rfl rfl (Or.inr (Or.inr ⟨by decide, y1⟩)) ?_
  subst e_q2
  refine w_getf rfl g4 n6 ?_
  exact w_if1 rfl c7 k1 k2

theorem k200_7 {P : s_P} {d : Nat} {Q : s_O → Prop} {h : s_H} {kc ks : Nat} {r0 : Term} {q2 : Nat} {f3 : List Term} {z5 z7 : Int} (g4 : s_get h q2 = some (1, 5, f3)) (k1 : z7 ≤ z5 → wr P d sw_c200 sw_h200 (42, [.index q2], [], h, kc, ks) Q) (k2 : ¬ z7 ≤ z5 → wr P d sw_c200 sw_h200 (18, [.index q2], [], h, kc, ks) Q) (e_q2 : r0 = .index q2 := by first | rfl | assumption) (y1 : s_ty r0 = 3 := by first | rfl | assumption) (n6 : s_nth f3 13 = some (vi z5) := by first | rfl | assumption) (n8 : s_nth f3 10 = some (vi z7) := by first | rfl | assumption) (c9 : In3 z5 := by first | omega | assumption | (simp only [mk_len, List.length_map]; omega) | decide) (c10 : In3 z7 := by first | omega | assumption | (simp only [mk_len, List.length_map]; omega) | decide) : wr P d sw_c200 sw_h200 (7, [r0], [], h, kc, ks) Q := by
  refine w_ld rfl rfl (Or.inr (Or.inr ⟨by decide, y1⟩)) ?_
  subst e_q2
  refine w_getf rfl g4 n6 ?_
  refine w_ld rfl rfl (Or.inr (Or.inr ⟨by decide, rfl⟩)) ?_
  refine w_getf rfl g4 n8 ?_
  exact w_if2 rfl c9 c10 k1 k2

theorem k200_18 {P : s_P} {d : Nat} {Q : s_O → Prop} {h : s_H} {kc ks : Nat} {r0 : Term} {q2 : Nat} {f3 : List Term} {z5 : Int} {v7 : Term} {q9 : Nat} {a10 : List Term} {tg12 : Nat} (g4 : s_get h q2 = some (1, 5, f3)) (g11 : s_get h q9 = some (0, tg12, a10)) (k1 : (a10.length : Int) ≤ z5 → wr P d sw_c200 sw_h200 (42, [.index q2], [], h, kc, ks) Q) (k2 : ¬ (a10.length : Int) ≤ z5 → wr P d sw_c200 sw_h200 (30, [.index q2], [], h, kc, ks) Q) (e_q2 : r0 = .index q2 := by first | rfl | assumption) (e_q9 : v7 = .index q9 := by first | rfl | assumption) (y1 : s_ty r0 = 3 := by first | rfl | assumption) (n6 : s_nth f3 13 = some (vi z5) := by first | rfl | assumption) (n8 : s_nth f3 9 = some v7 := by first | rfl | assumption) (c13 : In3 z5 := by first | omega | assumption | (simp only [mk_len, List.length_map]; omega) | decide) (c14 : In3 (a10.length : Int) := by first | omega | assumption | (simp only [mk_len, List.length_map]; omega) | decide) : wr P d sw_c200 sw_h200 (18, [r0], [], h, kc, ks) Q := by
  refine w_ld rfl rfl (Or.inr (Or.inr ⟨by decide, y1⟩)) ?_
  subst e_q2
  refine w_getf rfl g4 n6 ?_
  refine w_ld rfl rfl (Or.inr (Or.inr ⟨by decide, rfl⟩)) ?_
  refine w_getf rfl g4 n8 ?_
  subst e_q9
  refine w_alen rfl g11 (Or.inl rfl) ?_
  exact w_if2 rfl c13 c14 k1 k2

theorem k200_30 {P : s_P} {d : Nat} {Q : s_O → Prop} {h : s_H} {kc ks : Nat} {r0 : Term} {q2 : Nat} {f3 : List Term} {v5 : Term} {z7 : Int} {q9 : Nat} {a10 : List Int} (g4 : s_get h q2 = some (1, 5, f3)) (g11 : s_get h q9 = some (0, 0, a10.map vi)) (k : wr P d sw_c200 sw_h200 (43, [.index q2], [vi (gi a10 z7)], h, kc, ks) Q) (e_q2 : r0 = .index q2 := by first | rfl | assumption) (e_q9 : v5 = .index q9 := by first | rfl | assumption) (y1 : s_ty r0 = 3 := by first | rfl | assumption) (n6 : s_nth f3 9 = some v5 := by first | rfl | assumption) (n8 : s_nth f3 13 = some (vi z7) := by first | rfl | assumption) (c12 : z7 < a10.length := by first | omega | assumption | (simp only [mk_len, List.length_map]; omega) | decide) (c13 : 0 ≤ z7 := by first | omega | assumption | (simp only [mk_len, List.length_map]; omega) | decide) (c14 : In3 z7 := by first | omega | assumption | (simp only [mk_len, List.length_map]; omega) | decide) : wr P d sw_c200 sw_h200 (30, [r0], [], h, kc, ks) Q := by
  refine w_ld rfl rfl (Or.inr (Or.inr ⟨by decide, y1⟩)) ?_
  subst e_q2
  refine w_getf rfl g4 n6 ?_
  refine w_ld rfl rfl (Or.inr (Or.inr ⟨by decide, rfl⟩)) ?_
  refine w_getf rfl g4 n8 ?_
  subst e_q9
  refine w_iald rfl g11 (Or.inl rfl) c14 c13 c12 ?_
  refine w_goto rfl ?_
  exact k

theorem k200_42 {P : s_P} {d : Nat} {Q : s_O → Prop} {h : s_H} {kc ks : Nat} {r0 : Term}  (k : wr P d sw_c200 sw_h200 (43, [r0], [vi (-1)], h, kc, ks) Q)   : wr P d sw_c200 sw_h200 (42, [r0], [], h, kc, ks) Q := by
  refine w_c32 rfl (by decide) (-1) (by decide) ?_
  exact k

theorem k200_43 {P : s_P} {d : Nat} {Q : s_O → Prop} {h : s_H} {kc ks : Nat} {r0 : Term} {s0 : Int}  (k : Q (.inl (some (vi s0)), h, kc, ks))   : wr P d sw_c200 sw_h200 (43, [r0], [vi s0], h, kc, ks) Q := by
  exact w_iret rfl k

/-! 201: FormulaWorks$Reader.may(I)Z -/
theorem k201_0 {P : s_P} {d : Nat} {Q : s_O → Prop} {h : s_H} {kc ks : Nat} {r0 : Term} {x1 : Int} {q2 : Nat} {f3 : List Term} {z5 : Int} (g4 : s_get h q2 = some (1, 5, f3)) (k1 : zi 24 z5 x1 = 0 → wr P d sw_c201 sw_h201 (13, [.index q2, vi x1], [], h, kc, ks) Q) (k2 : ¬ zi 24 z5 x1 = 0 → wr P d sw_c201 sw_h201 (9, [.index q2, vi x1], [], h, kc, ks) Q) (e_q2 : r0 = .index q2 := by first | rfl | assumption) (y1 : s_ty r0 = 3 := by first | rfl | assumption) (n6 : s_nth f3 11 = some (vi z5) := by first | rfl | assumption) (c7 : In3 (zi 24 z5 x1) := by first | omega | assumption | (simp only [mk_len, List.length_map]; omega) | decide) : wr P d sw_c201 sw_h201 (0, [r0, vi x1], [], h, kc, ks) Q := by
  refine w_ld rfl rfl (Or.inr (Or.inr ⟨by decide, y1⟩)) ?_
  subst e_q2
  refine w_getf rfl g4 n6 ?_
  refine w_ld rfl rfl (Or.inl ⟨by decide, rfl⟩) ?_
  refine w_ib rfl (by decide) ?_
  exact w_if1 rfl c7 k1 k2

theorem k201_9 {P : s_P} {d : Nat} {Q : s_O → Prop} {h : s_H} {kc ks : Nat} {r0 : Term} {x1 : Int}  (k : wr P d sw_c201 sw_h201 (14, [r0, vi x1], [vi 1], h, kc, ks) Q)   : wr P d sw_c201 sw_h201 (9, [r0, vi x1], [], h, kc, ks) Q := by
  refine w_c32 rfl (by decide) 1 (by decide) ?_
  refine w_goto rfl ?_
  exact k

theorem k201_13 {P : s_P} {d : Nat} {Q : s_O → Prop} {h : s_H} {kc ks : Nat} {r0 : Term} {x1 : Int}  (k : wr P d sw_c201 sw_h201 (14, [r0, vi x1], [vi 0], h, kc, ks) Q)   : wr P d sw_c201 sw_h201 (13, [r0, vi x1], [], h, kc, ks) Q := by
  refine w_c32 rfl (by decide) 0 (by decide) ?_
  exact k

theorem k201_14 {P : s_P} {d : Nat} {Q : s_O → Prop} {h : s_H} {kc ks : Nat} {r0 : Term} {x1 s0 : Int}  (k : Q (.inl (some (vi s0)), h, kc, ks))  (c1 : s0 = 0 ∨ s0 = 1 := by first | omega | assumption | (simp only [mk_len, List.length_map]; omega) | decide) : wr P d sw_c201 sw_h201 (14, [r0, vi x1], [vi s0], h, kc, ks) Q := by
  exact w_zret rfl c1 k

/-! 202: FormulaWorks$Reader.pair([I)V -/
theorem k202_0 {P : s_P} {d : Nat} {Q : s_O → Prop} {h : s_H} {kc ks : Nat} {r0 r1 t2 t3 t4 : Term} {q3 : Nat} {f4 : List Term} {z6 : Int} {q8 : Nat} {a9 : List Int} (g5 : s_get h q3 = some (1, 5, f4)) (g10 : s_get h q8 = some (0, 0, a9.map vi)) (k1 : gi a9 z6 < 0 → wr P d sw_c202 sw_h202 (20, [.index q3, .index q8, vi (gi a9 z6), t3, t4], [], h, kc, ks) Q) (k2 : ¬ gi a9 z6 < 0 → wr P d sw_c202 sw_h202 (11, [.index q3, .index q8, vi (gi a9 z6), t3, t4], [], h, kc, ks) Q) (e_q3 : r0 = .index q3 := by first | rfl | assumption) (e_q8 : r1 = .index q8 := by first | rfl | assumption) (y1 : s_ty r1 = 3 := by first | rfl | assumption) (y2 : s_ty r0 = 3 := by first | rfl | assumption) (n7 : s_nth f4 14 = some (vi z6) := by first | rfl | assumption) (c11 : z6 < a9.length := by first | omega | assumption | (simp only [mk_len, List.length_map]; omega) | decide) (c12 : 0 ≤ z6 := by first | omega | assumption | (simp only [mk_len, List.length_map]; omega) | decide) (c13 : In3 z6 := by first | omega | assumption | (simp only [mk_len, List.length_map]; omega) | decide) (c14 : In3 (gi a9 z6) := by first | omega | assumption | (simp only [mk_len, List.length_map]; omega) | decide) : wr P d sw_c202 sw_h202 (0, [r0, r1, t2, t3, t4], [], h, kc, ks) Q := by
  refine w_ld rfl rfl (Or.inr (Or.inr ⟨by decide, y1⟩)) ?_
  refine w_ld rfl rfl (Or.inr (Or.inr ⟨by decide, y2⟩)) ?_
  subst e_q3
  refine w_getf rfl g5 n7 ?_
  subst e_q8
  refine w_iald rfl g10 (Or.inl rfl) c13 c12 c11 ?_
  refine w_st (ls' := [.index q3, .index q8, vi (gi a9 z6), t3, t4]) rfl (Or.inl ⟨by decide, rfl⟩) rfl ?_
  refine w_ld rfl rfl (Or.inl ⟨by decide, rfl⟩) ?_
  exact w_if1 rfl c14 k1 k2

theorem k202_11 {P : s_P} {d : Nat} {Q : s_O → Prop} {h : s_H} {kc ks : Nat} {r0 r1 : Term} {x2 : Int} {t3 t4 : Term} {q2 : Nat} {f3 : List Term} {v5 : Term} {q7 : Nat} {a8 : List Term} {tg10 : Nat} (g4 : s_get h q2 = some (1, 5, f3)) (g9 : s_get h q7 = some (0, tg10, a8)) (k1 : x2 < (a8.length : Int) → wr P d sw_c202 sw_h202 (21, [.index q2, r1, vi x2, t3, t4], [], h, kc, ks) Q) (k2 : ¬ x2 < (a8.length : Int) → wr P d sw_c202 sw_h202 (20, [.index q2, r1, vi x2, t3, t4], [], h, kc, ks) Q) (e_q2 : r0 = .index q2 := by first | rfl | assumption) (e_q7 : v5 = .index q7 := by first | rfl | assumption) (y1 : s_ty r0 = 3 := by first | rfl | assumption) (n6 : s_nth f3 9 = some v5 := by first | rfl | assumption) (c11 : In3 x2 := by first | omega | assumption | (simp only [mk_len, List.length_map]; omega) | decide) (c12 : In3 (a8.length : Int) := by first | omega | assumption | (simp only [mk_len, List.length_map]; omega) | decide) : wr P d sw_c202 sw_h202 (11, [r0, r1, vi x2, t3, t4], [], h, kc, ks) Q := by
  refine w_ld rfl rfl (Or.inl ⟨by decide, rfl⟩) ?_
  refine w_ld rfl rfl (Or.inr (Or.inr ⟨by decide, y1⟩)) ?_
  subst e_q2
  refine w_getf rfl g4 n6 ?_
  subst e_q7
  refine w_alen rfl g9 (Or.inl rfl) ?_
  exact w_if2 rfl c11 c12 k1 k2

theorem k202_20 {P : s_P} {d : Nat} {Q : s_O → Prop} {h : s_H} {kc ks : Nat} {r0 r1 : Term} {x2 : Int} {t3 t4 : Term}  (k : Q (.inl none, h, kc, ks))   : wr P d sw_c202 sw_h202 (20, [r0, r1, vi x2, t3, t4], [], h, kc, ks) Q := by
  exact w_ret rfl k

theorem k202_21 {P : s_P} {d : Nat} {Q : s_O → Prop} {h : s_H} {kc ks : Nat} {r0 r1 : Term} {x2 : Int} {t3 t4 : Term} {q3 : Nat} {f4 : List Term} {z6 : Int} {q8 : Nat} {a9 : List Int} {f15 : List Term} {v17 : Term} {q19 : Nat} {a20 : List Int} (g5 : s_get h q3 = some (1, 5, f4)) (g10 : s_get h q8 = some (0, 0, a9.map vi)) (g16 : s_get (hp h q8 (0, 0, (a9.set (Int.toNat (z6)) (-1)).map vi)) q3 = some (1, 5, f15)) (g21 : s_get (hp h q8 (0, 0, (a9.set (Int.toNat (z6)) (-1)).map vi)) q19 = some (0, 0, a20.map vi)) (k : wm P d 201 [.index q3, vi 8] (hp h q8 (0, 0, (a9.set (Int.toNat (z6)) (-1)).map vi)) (wq P d sw_c202 sw_h202 41 [.index q3, .index q8, vi x2, vi (gi a20 x2), t4] [] kc ks Q)) (e_q3 : r0 = .index q3 := by first | rfl | assumption) (e_q8 : r1 = .index q8 := by first | rfl | assumption) (e_q19 : v17 = .index q19 := by first | rfl | assumption) (y1 : s_ty r1 = 3 := by first | rfl | assumption) (y2 : s_ty r0 = 3 := by first | rfl | assumption) (n7 : s_nth f4 14 = some (vi z6) := by first | rfl | assumption) (n18 : s_nth f15 9 = some v17 := by first | rfl | assumption) (c11 : z6 < a9.length := by first | omega | assumption | (simp only [mk_len, List.length_map]; omega) | decide) (c12 : 0 ≤ z6 := by first | omega | assumption | (simp only [mk_len, List.length_map]; omega) | decide) (c13 : In3 z6 := by first | omega | assumption | (simp only [mk_len, List.length_map]; omega) | decide) (c14 : 0 < q8 := by first | omega | assumption | (simp only [mk_len, List.length_map]; omega) | decide) (c22 : x2 < a20.length := by first | omega | assumption | (simp only [mk_len, List.length_map]; omega) | decide) (c23 : 0 ≤ x2 := by first | omega | assumption | (simp only [mk_len, List.length_map]; omega) | decide) (c24 : In3 x2 := by first | omega | assumption | (simp only [mk_len, List.length_map]; omega) | decide) : wr P d sw_c202 sw_h202 (21, [r0, r1, vi x2, t3, t4], [], h, kc, ks) Q := by
  refine w_ld rfl rfl (Or.inr (Or.inr ⟨by decide, y1⟩)) ?_
  refine w_ld rfl rfl (Or.inr (Or.inr ⟨by decide, y2⟩)) ?_
  subst e_q3
  refine w_getf rfl g5 n7 ?_
  refine w_c32 rfl (by decide) (-1) (by decide) ?_
  subst e_q8
  refine w_iast rfl g10 (Nat.ble_eq_true_of_le c14) c13 c12 c11 ?_
  refine w_ld rfl rfl (Or.inr (Or.inr ⟨by decide, rfl⟩)) ?_
  refine w_getf rfl g16 n18 ?_
  refine w_ld rfl rfl (Or.inl ⟨by decide, rfl⟩) ?_
  subst e_q19
  refine w_iald rfl g21 (Or.inl rfl) c24 c23 c22 ?_
  refine w_st (ls' := [.index q3, .index q8, vi x2, vi (gi a20 x2), t4]) rfl (Or.inl ⟨by decide, rfl⟩) rfl ?_
  refine w_ld rfl rfl (Or.inr (Or.inr ⟨by decide, rfl⟩)) ?_
  refine w_c32 rfl (by decide) 8 (by decide) ?_
  exact w_cv rfl [.index q3, vi 8] [] rfl rfl (s_wt_4 rfl) rfl g16 k

theorem k202_41 {P : s_P} {d : Nat} {Q : s_O → Prop} {h : s_H} {kc ks : Nat} {r0 r1 : Term} {x2 x3 : Int} {t4 : Term} {s0 : Int}  (k1 : s0 = 0 → wr P d sw_c202 sw_h202 (56, [r0, r1, vi x2, vi x3, t4], [], h, kc, ks) Q) (k2 : ¬ s0 = 0 → wr P d sw_c202 sw_h202 (44, [r0, r1, vi x2, vi x3, t4], [], h, kc, ks) Q)  (c1 : In3 s0 := by first | omega | assumption | (simp only [mk_len, List.length_map]; omega) | decide) : wr P d sw_c202 sw_h202 (41, [r0, r1, vi x2, vi x3, t4], [vi s0], h, kc, ks) Q := by
  exact w_if1 rfl c1 k1 k2

theorem k202_44 {P : s_P} {d : Nat} {Q : s_O → Prop} {h : s_H} {kc ks : Nat} {r0 r1 : Term} {x2 x3 : Int} {t4 : Term} {q2 : Nat} {f3 : List Term} {v5 : Term} (g4 : s_get h q2 = some (1, 5, f3)) (k : wm P d 319 [vi x3] h (wq P d sw_c202 sw_h202 52 [.index q2, r1, vi x2, vi x3, t4] [v5] kc ks Q)) (e_q2 : r0 = .index q2 := by first | rfl | assumption) (y1 : s_ty r0 = 3 := by first | rfl | assumption) (n6 : s_nth f3 1 = some v5 := by first | rfl | assumption)  : wr P d sw_c202 sw_h202 (44, [r0, r1, vi x2, vi x3, t4], [], h, kc, ks) Q := by
  refine w_ld rfl rfl (Or.inr (Or.inr ⟨by decide, y1⟩)) ?_
  subst e_q2
  refine w_getf rfl g4 n6 ?_
  refine w_ld rfl rfl (Or.inl ⟨by decide, rfl⟩) ?_
  exact w_cs rfl [vi x3] [v5] rfl rfl (s_wt_4 rfl) k

theorem k202_52 {P : s_P} {d : Nat} {Q : s_O → Prop} {h : s_H} {kc ks : Nat} {r0 r1 : Term} {x2 x3 : Int} {t4 s0 : Term} {s1 : Int} {q1 : Nat} {f2 : List Term} (g3 : s_get h q1 = some (1, 9, f2)) (k : wm P d 305 [.index q1, vi s1] h (wq P d sw_c202 sw_h202 55 [r0, r1, vi x2, vi x3, t4] [] kc ks Q)) (e_q1 : s0 = .index q1 := by first | rfl | assumption)  : wr P d sw_c202 sw_h202 (52, [r0, r1, vi x2, vi x3, t4], [vi s1, s0], h, kc, ks) Q := by
  subst e_q1
  exact w_cv rfl [.index q1, vi s1] [] rfl rfl (s_wt_4 rfl) rfl g3 k

theorem k202_56 {P : s_P} {d : Nat} {Q : s_O → Prop} {h : s_H} {kc ks : Nat} {r0 r1 : Term} {x2 x3 : Int} {t4 : Term} {q2 : Nat} {f3 : List Term} {z5 : Int} (g4 : s_get h q2 = some (1, 5, f3)) (k1 : 2 ≤ z5 → wr P d sw_c202 sw_h202 (65, [.index q2, r1, vi x2, vi x3, t4], [], h, kc, ks) Q) (k2 : ¬ 2 ≤ z5 → wr P d sw_c202 sw_h202 (64, [.index q2, r1, vi x2, vi x3, t4], [], h, kc, ks) Q) (e_q2 : r0 = .index q2 := by first | rfl | assumption) (y1 : s_ty r0 = 3 := by first | rfl | assumption) (n6 : s_nth f3 4 = some (vi z5) := by first | rfl | assumption) (c7 : In3 z5 := by first | omega | assumption | (simp only [mk_len, List.length_map]; omega) | decide) : wr P d sw_c202 sw_h202 (56, [r0, r1, vi x2, vi x3, t4], [], h, kc, ks) Q := by
  refine w_ld rfl rfl (Or.inr (Or.inr ⟨by decide, y1⟩)) ?_
  subst e_q2
  refine w_getf rfl g4 n6 ?_
  refine w_c32 rfl (by decide) 2 (by decide) ?_
  exact w_if2 rfl c7 (by decide) k1 k2

theorem k202_64 {P : s_P} {d : Nat} {Q : s_O → Prop} {h : s_H} {kc ks : Nat} {r0 r1 : Term} {x2 x3 : Int} {t4 : Term}  (k : Q (.inl none, h, kc, ks))   : wr P d sw_c202 sw_h202 (64, [r0, r1, vi x2, vi x3, t4], [], h, kc, ks) Q := by
  exact w_ret rfl k

theorem k202_65 {P : s_P} {d : Nat} {Q : s_O → Prop} {h : s_H} {kc ks : Nat} {r0 r1 : Term} {x2 x3 : Int} {t4 : Term} {q2 : Nat} {f3 : List Term} {z5 : Int} {f9 : List Term} {v11 v13 : Term} {z15 : Int} {q17 : Nat} {a18 : List Term} {tg20 : Nat} {v21 : Term} {a26 : List Term} {tg28 : Nat} {v29 : Term} {a34 : List Term} {tg36 : Nat} {v37 : Term} {q40 : Nat} {f41 : List Term} (g4 : s_get h q2 = some (1, 5, f3)) (g10 : s_get (hp h q2 (1, 5, f3.set 4 (vi (z5 - 1)))) q2 = some (1, 5, f9)) (g19 : s_get (hp h q2 (1, 5, f3.set 4 (vi (z5 - 1)))) q17 = some (0, tg20, a18)) (g27 : s_get (hp h q2 (1, 5, f3.set 4 (vi (z5 - 1)))) q17 = some (0, tg28, a26)) (g35 : s_get (hp h q2 (1, 5, f3.set 4 (vi (z5 - 1)))) q17 = some (0, tg36, a34)) (g42 : s_get (hp h q2 (1, 5, f3.set 4 (vi (z5 - 1)))) q40 = some (1, 0, f41)) (k : wm P d 108 [.index q40, vi x3, v21, v29, v37] (hp h q2 (1, 5, f3.set 4 (vi (z5 - 1)))) (wq P d sw_c202 sw_h202 114 [.index q2, r1, vi x2, vi x3, t4] [] kc ks Q)) (e_q2 : r0 = .index q2 := by first | rfl | assumption) (e_q17 : v13 = .index q17 := by first | rfl | assumption) (e_q40 : v11 = .index q40 := by first | rfl | assumption) (y1 : s_ty r0 = 3 := by first | rfl | assumption) (n6 : s_nth f3 4 = some (vi z5) := by first | rfl | assumption) (l7 : 4 < f3.length := by first | exact Nat.le_of_ble_eq_true rfl | omega | assumption) (n12 : s_nth f9 0 = some v11 := by first | rfl | assumption) (n14 : s_nth f9 3 = some v13 := by first | rfl | assumption) (n16 : s_nth f9 4 = some (vi z15) := by first | rfl | assumption) (n22 : s_nth a18 (Int.toNat (z15 - 1)) = some v21 := by first | rfl | assumption) (u23 : tg20 = 2 ∨ tg20 = 3 ∨ tg20 = 4 := by first | decide | assumption) (n30 : s_nth a26 (Int.toNat (z15)) = some v29 := by first | rfl | assumption) (u31 : tg28 = 2 ∨ tg28 = 3 ∨ tg28 = 4 := by first | decide | assumption) (n38 : s_nth a34 (Int.toNat (z15 - 1)) = some v37 := by first | rfl | assumption) (u39 : tg36 = 2 ∨ tg36 = 3 ∨ tg36 = 4 := by first | decide | assumption) (c8 : 0 < q2 := by first | omega | assumption | (simp only [mk_len, List.length_map]; omega) | decide) (c24 : In3 (z15 - 1) := by first | omega | assumption | (simp only [mk_len, List.length_map]; omega) | decide) (c25 : 0 ≤ z15 - 1 := by first | omega | assumption | (simp only [mk_len, List.length_map]; omega) | decide) (c32 : In3 z15 := by first | omega | assumption | (simp only [mk_len, List.length_map]; omega) | decide) (c33 : 0 ≤ z15 := by first | omega | assumption | (simp only [mk_len, List.length_map]; omega) | decide) : wr P d sw_c202 sw_h202 (65, [r0, r1, vi x2, vi x3, t4], [], h, kc, ks) Q := by
  refine w_ld rfl rfl (Or.inr (Or.inr ⟨by decide, y1⟩)) ?_
  refine w_dup rfl (by rw [y1]; rfl) ?_
  subst e_q2
  refine w_getf rfl g4 n6 ?_
  refine w_c32 rfl (by decide) 1 (by decide) ?_
  refine w_isub rfl ?_
  refine w_putf rfl g4 (Nat.ble_eq_true_of_le c8) rfl (Nat.ble_eq_true_of_le l7) ?_
  refine w_ld rfl rfl (Or.inr (Or.inr ⟨by decide, rfl⟩)) ?_
  refine w_getf rfl g10 n12 ?_
  refine w_ld rfl rfl (Or.inl ⟨by decide, rfl⟩) ?_
  refine w_ld rfl rfl (Or.inr (Or.inr ⟨by decide, rfl⟩)) ?_
  refine w_getf rfl g10 n14 ?_
  refine w_ld rfl rfl (Or.inr (Or.inr ⟨by decide, rfl⟩)) ?_
  refine w_getf rfl g10 n16 ?_
  refine w_c32 rfl (by decide) 1 (by decide) ?_
  refine w_isub rfl ?_
  subst e_q17
  refine w_aald rfl g19 u23 c24 c25 n22 ?_
  refine w_ld rfl rfl (Or.inr (Or.inr ⟨by decide, rfl⟩)) ?_
  refine w_getf rfl g10 n14 ?_
  refine w_ld rfl rfl (Or.inr (Or.inr ⟨by decide, rfl⟩)) ?_
  refine w_getf rfl g10 n16 ?_
  refine w_aald rfl g27 u31 c32 c33 n30 ?_
  refine w_ld rfl rfl (Or.inr (Or.inr ⟨by decide, rfl⟩)) ?_
  refine w_getf rfl g10 n14 ?_
  refine w_ld rfl rfl (Or.inr (Or.inr ⟨by decide, rfl⟩)) ?_
  refine w_getf rfl g10 n16 ?_
  refine w_c32 rfl (by decide) 1 (by decide) ?_
  refine w_isub rfl ?_
  refine w_aald rfl g35 u39 c24 c25 n38 ?_
  subst e_q40
  exact w_cv rfl [.index q40, vi x3, v21, v29, v37] [] rfl rfl (s_wt_4 rfl) rfl g42 k

theorem k202_114 {P : s_P} {d : Nat} {Q : s_O → Prop} {h : s_H} {kc ks : Nat} {r0 r1 : Term} {x2 x3 : Int} {t4 s0 : Term} {q2 : Nat} {f3 : List Term} {z5 : Int} (g4 : s_get h q2 = some (1, 8, f3)) (k1 : z5 = 0 → wr P d sw_c202 sw_h202 (134, [r0, r1, vi x2, vi x3, .index q2], [], h, kc, ks) Q) (k2 : ¬ z5 = 0 → wr P d sw_c202 sw_h202 (124, [r0, r1, vi x2, vi x3, .index q2], [], h, kc, ks) Q) (e_q2 : s0 = .index q2 := by first | rfl | assumption) (y1 : s_ty s0 = 3 := by first | rfl | assumption) (n6 : s_nth f3 7 = some (vi z5) := by first | rfl | assumption) (c7 : In3 z5 := by first | omega | assumption | (simp only [mk_len, List.length_map]; omega) | decide) : wr P d sw_c202 sw_h202 (114, [r0, r1, vi x2, vi x3, t4], [s0], h, kc, ks) Q := by
  refine w_st (ls' := [r0, r1, vi x2, vi x3, s0]) rfl (Or.inr ⟨by decide, y1⟩) rfl ?_
  refine w_ld rfl rfl (Or.inr (Or.inr ⟨by decide, y1⟩)) ?_
  subst e_q2
  refine w_getf rfl g4 n6 ?_
  exact w_if1 rfl c7 k1 k2

theorem k202_124 {P : s_P} {d : Nat} {Q : s_O → Prop} {h : s_H} {kc ks : Nat} {r0 r1 : Term} {x2 x3 : Int} {r4 : Term} {q3 : Nat} {f4 : List Term} {z6 : Int} {q8 : Nat} {f9 : List Term} (g5 : s_get h q3 = some (1, 8, f4)) (g10 : s_get h q8 = some (1, 5, f9)) (k : wm P d 195 [.index q8, vi z6, vi x2] h (wq P d sw_c202 sw_h202 134 [.index q8, r1, vi x2, vi x3, .index q3] [] kc ks Q)) (e_q3 : r4 = .index q3 := by first | rfl | assumption) (e_q8 : r0 = .index q8 := by first | rfl | assumption) (y1 : s_ty r0 = 3 := by first | rfl | assumption) (y2 : s_ty r4 = 3 := by first | rfl | assumption) (n7 : s_nth f4 7 = some (vi z6) := by first | rfl | assumption)  : wr P d sw_c202 sw_h202 (124, [r0, r1, vi x2, vi x3, r4], [], h, kc, ks) Q := by
  refine w_ld rfl rfl (Or.inr (Or.inr ⟨by decide, y1⟩)) ?_
  refine w_ld rfl rfl (Or.inr (Or.inr ⟨by decide, y2⟩)) ?_
  subst e_q3
  refine w_getf rfl g5 n7 ?_
  refine w_ld rfl rfl (Or.inl ⟨by decide, rfl⟩) ?_
  subst e_q8
  exact w_cv rfl [.index q8, vi z6, vi x2] [] rfl rfl (s_wt_4 rfl) rfl g10 k

theorem k202_134 {P : s_P} {d : Nat} {Q : s_O → Prop} {h : s_H} {kc ks : Nat} {r0 r1 : Term} {x2 x3 : Int} {r4 : Term}  (k : Q (.inl none, h, kc, ks))   : wr P d sw_c202 sw_h202 (134, [r0, r1, vi x2, vi x3, r4], [], h, kc, ks) Q := by
  exact w_ret rfl k

/-! 203: FormulaWorks$Reader.push()LFormulaWorks$Thing; -/
theorem k203_0 {P : s_P} {d : Nat} {Q : s_O → Prop} {h : s_H} {kc ks : Nat} {r0 t1 : Term} {q2 : Nat} {f3 : List Term} {z5 : Int} {v7 : Term} {q9 : Nat} {a10 : List Term} {tg12 : Nat} (g4 : s_get h q2 = some (1, 5, f3)) (g11 : s_get h q9 = some (0, tg12, a10)) (k1 : (a10.length : Int) ≤ z5 → wr P d sw_c203 sw_h203 (22, [.index q2, t1], [], h, kc, ks) Q) (k2 : ¬ (a10.length : Int) ≤ z5 → wr P d sw_c203 sw_h203 (12, [.index q2, t1], [], h, kc, ks) Q) (e_q2 : r0 = .index q2 := by first | rfl | assumption) (e_q9 : v7 = .index q9 := by first | rfl | assumption) (y1 : s_ty r0 = 3 := by first | rfl | assumption) (n6 : s_nth f3 4 = some (vi z5) := by first | rfl | assumption) (n8 : s_nth f3 3 = some v7 := by first | rfl | assumption) (c13 : In3 z5 := by first | omega | assumption | (simp only [mk_len, List.length_map]; omega) | decide) (c14 : In3 (a10.length : Int) := by first | omega | assumption | (simp only [mk_len, List.length_map]; omega) | decide) : wr P d sw_c203 sw_h203 (0, [r0, t1], [], h, kc, ks) Q := by
  refine w_ld rfl rfl (Or.inr (Or.inr ⟨by decide, y1⟩)) ?_
  subst e_q2
  refine w_getf rfl g4 n6 ?_
  refine w_ld rfl rfl (Or.inr (Or.inr ⟨by decide, rfl⟩)) ?_
  refine w_getf rfl g4 n8 ?_
  subst e_q9
  refine w_alen rfl g11 (Or.inl rfl) ?_
  exact w_if2 rfl c13 c14 k1 k2

theorem k203_12 {P : s_P} {d : Nat} {Q : s_O → Prop} {h : s_H} {kc ks : Nat} {r0 t1 : Term} {q2 : Nat} {f3 : List Term} {z5 : Int} (g4 : s_get h q2 = some (1, 5, f3)) (k : wr P d sw_c203 sw_h203 (22, [.index q2, t1], [], (hp h q2 (1, 5, f3.set 4 (vi (z5 + 1)))), kc, ks) Q) (e_q2 : r0 = .index q2 := by first | rfl | assumption) (y1 : s_ty r0 = 3 := by first | rfl | assumption) (n6 : s_nth f3 4 = some (vi z5) := by first | rfl | assumption) (l7 : 4 < f3.length := by first | exact Nat.le_of_ble_eq_true rfl | omega | assumption) (c8 : 0 < q2 := by first | omega | assumption | (simp only [mk_len, List.length_map]; omega) | decide) : wr P d sw_c203 sw_h203 (12, [r0, t1], [], h, kc, ks) Q := by
  refine w_ld rfl rfl (Or.inr (Or.inr ⟨by decide, y1⟩)) ?_
  refine w_dup rfl (by rw [y1]; rfl) ?_
  subst e_q2
  refine w_getf rfl g4 n6 ?_
  refine w_c32 rfl (by decide) 1 (by decide) ?_
  refine w_iadd rfl ?_
  refine w_putf rfl g4 (Nat.ble_eq_true_of_le c8) rfl (Nat.ble_eq_true_of_le l7) ?_
  exact k

theorem k203_22 {P : s_P} {d : Nat} {Q : s_O → Prop} {h : s_H} {kc ks : Nat} {r0 t1 : Term} {q2 : Nat} {f3 : List Term} {v5 : Term} {z7 : Int} {q9 : Nat} {a10 : List Term} {tg12 : Nat} {v13 : Term} {q19 : Nat} {f20 f24 : List Term} {v26 : Term} {q28 : Nat} {f29 : List Term} (g4 : s_get h q2 = some (1, 5, f3)) (g11 : s_get h q9 = some (0, tg12, a10)) (g21 : s_get h q19 = some (1, 8, f20)) (g25 : s_get (hp h q19 (1, 8, f20.set 7 (vi 0))) q19 = some (1, 8, f24)) (g30 : s_get (hp h q19 (1, 8, f20.set 7 (vi 0))) q28 = some (1, 4, f29)) (k : wm P d 180 [.index q28, vi 1] (hp h q19 (1, 8, f20.set 7 (vi 0))) (wq P d sw_c203 sw_h203 47 [.index q2, .index q19] [] kc ks Q)) (e_q2 : r0 = .index q2 := by first | rfl | assumption) (e_q9 : v5 = .index q9 := by first | rfl | assumption) (e_q19 : v13 = .index q19 := by first | rfl | assumption) (e_q28 : v26 = .index q28 := by first | rfl | assumption) (y1 : s_ty r0 = 3 := by first | rfl | assumption) (n6 : s_nth f3 3 = some v5 := by first | rfl | assumption) (n8 : s_nth f3 4 = some (vi z7) := by first | rfl | assumption) (n14 : s_nth a10 (Int.toNat (z7 - 1)) = some v13 := by first | rfl | assumption) (u15 : tg12 = 2 ∨ tg12 = 3 ∨ tg12 = 4 := by first | decide | assumption) (y18 : s_ty v13 = 3 := by first | rfl | assumption) (l22 : 7 < f20.length := by first | exact Nat.le_of_ble_eq_true rfl | omega | assumption) (n27 : s_nth f24 2 = some v26 := by first | rfl | assumption) (c16 : In3 (z7 - 1) := by first | omega | assumption | (simp only [mk_len, List.length_map]; omega) | decide) (c17 : 0 ≤ z7 - 1 := by first | omega | assumption | (simp only [mk_len, List.length_map]; omega) | decide) (c23 : 0 < q19 := by first | omega | assumption | (simp only [mk_len, List.length_map]; omega) | decide) : wr P d sw_c203 sw_h203 (22, [r0, t1], [], h, kc, ks) Q := by
  refine w_ld rfl rfl (Or.inr (Or.inr ⟨by decide, y1⟩)) ?_
  subst e_q2
  refine w_getf rfl g4 n6 ?_
  refine w_ld rfl rfl (Or.inr (Or.inr ⟨by decide, rfl⟩)) ?_
  refine w_getf rfl g4 n8 ?_
  refine w_c32 rfl (by decide) 1 (by decide) ?_
  refine w_isub rfl ?_
  subst e_q9
  refine w_aald rfl g11 u15 c16 c17 n14 ?_
  refine w_st (ls' := [.index q2, v13]) rfl (Or.inr ⟨by decide, y18⟩) rfl ?_
  refine w_ld rfl rfl (Or.inr (Or.inr ⟨by decide, y18⟩)) ?_
  refine w_c32 rfl (by decide) 0 (by decide) ?_
  subst e_q19
  refine w_putf rfl g21 (Nat.ble_eq_true_of_le c23) rfl (Nat.ble_eq_true_of_le l22) ?_
  refine w_ld rfl rfl (Or.inr (Or.inr ⟨by decide, rfl⟩)) ?_
  refine w_getf rfl g25 n27 ?_
  refine w_c32 rfl (by decide) 1 (by decide) ?_
  subst e_q28
  exact w_cv rfl [.index q28, vi 1] [] rfl rfl (s_wt_4 rfl) rfl g30 k

theorem k203_47 {P : s_P} {d : Nat} {Q : s_O → Prop} {h : s_H} {kc ks : Nat} {r0 r1 : Term}  (k : Q (.inl (some r1), h, kc, ks)) (y1 : s_ty r1 = 3 := by first | rfl | assumption)  : wr P d sw_c203 sw_h203 (47, [r0, r1], [], h, kc, ks) Q := by
  refine w_ld rfl rfl (Or.inr (Or.inr ⟨by decide, y1⟩)) ?_
  exact w_aret rfl y1 k

/-! 204: FormulaWorks$Reader.pushLetter()V -/
theorem k204_0 {P : s_P} {d : Nat} {Q : s_O → Prop} {h : s_H} {kc ks : Nat} {r0 : Term} {q2 : Nat} {f3 : List Term} (g4 : s_get h q2 = some (1, 5, f3)) (k : wm P d 201 [.index q2, vi 8] h (wq P d sw_c204 sw_h204 6 [.index q2] [] kc ks Q)) (e_q2 : r0 = .index q2 := by first | rfl | assumption) (y1 : s_ty r0 = 3 := by first | rfl | assumption)  : wr P d sw_c204 sw_h204 (0, [r0], [], h, kc, ks) Q := by
  refine w_ld rfl rfl (Or.inr (Or.inr ⟨by decide, y1⟩)) ?_
  refine w_c32 rfl (by decide) 8 (by decide) ?_
  subst e_q2
  exact w_cv rfl [.index q2, vi 8] [] rfl rfl (s_wt_4 rfl) rfl g4 k

theorem k204_6 {P : s_P} {d : Nat} {Q : s_O → Prop} {h : s_H} {kc ks : Nat} {r0 : Term} {s0 : Int}  (k1 : s0 = 0 → wr P d sw_c204 sw_h204 (20, [r0], [], h, kc, ks) Q) (k2 : ¬ s0 = 0 → wr P d sw_c204 sw_h204 (9, [r0], [], h, kc, ks) Q)  (c1 : In3 s0 := by first | omega | assumption | (simp only [mk_len, List.length_map]; omega) | decide) : wr P d sw_c204 sw_h204 (6, [r0], [vi s0], h, kc, ks) Q := by
  exact w_if1 rfl c1 k1 k2

theorem k204_9 {P : s_P} {d : Nat} {Q : s_O → Prop} {h : s_H} {kc ks : Nat} {r0 : Term} {q2 : Nat} {f3 : List Term} {v5 : Term} {q7 : Nat} {f8 : List Term} (g4 : s_get h q2 = some (1, 5, f3)) (g9 : s_get h q7 = some (1, 9, f8)) (k : wm P d 302 [.index q7, vi 1] h (wq P d sw_c204 sw_h204 17 [.index q2] [] kc ks Q)) (e_q2 : r0 = .index q2 := by first | rfl | assumption) (e_q7 : v5 = .index q7 := by first | rfl | assumption) (y1 : s_ty r0 = 3 := by first | rfl | assumption) (n6 : s_nth f3 1 = some v5 := by first | rfl | assumption)  : wr P d sw_c204 sw_h204 (9, [r0], [], h, kc, ks) Q := by
  refine w_ld rfl rfl (Or.inr (Or.inr ⟨by decide, y1⟩)) ?_
  subst e_q2
  refine w_getf rfl g4 n6 ?_
  refine w_c32 rfl (by decide) 1 (by decide) ?_
  subst e_q7
  exact w_cv rfl [.index q7, vi 1] [] rfl rfl (s_wt_4 rfl) rfl g9 k

theorem k204_20 {P : s_P} {d : Nat} {Q : s_O → Prop} {h : s_H} {kc ks : Nat} {r0 : Term} {q2 : Nat} {f3 : List Term} (g4 : s_get h q2 = some (1, 5, f3)) (k : wm P d 203 [.index q2] h (wq P d sw_c204 sw_h204 24 [.index q2] [] kc ks Q)) (e_q2 : r0 = .index q2 := by first | rfl | assumption) (y1 : s_ty r0 = 3 := by first | rfl | assumption)  : wr P d sw_c204 sw_h204 (20, [r0], [], h, kc, ks) Q := by
  refine w_ld rfl rfl (Or.inr (Or.inr ⟨by decide, y1⟩)) ?_
  subst e_q2
  exact w_cv rfl [.index q2] [] rfl rfl (s_wt_4 rfl) rfl g4 k

theorem k204_24 {P : s_P} {d : Nat} {Q : s_O → Prop} {h : s_H} {kc ks : Nat} {r0 s0 : Term} {q1 : Nat} {f2 : List Term} {v4 : Term} {q6 : Nat} {f7 : List Term} (g3 : s_get h q1 = some (1, 8, f2)) (g8 : s_get h q6 = some (1, 4, f7)) (k : wm P d 181 [.index q6, vi 1] h (wq P d sw_c204 sw_h204 31 [r0] [] kc ks Q)) (e_q1 : s0 = .index q1 := by first | rfl | assumption) (e_q6 : v4 = .index q6 := by first | rfl | assumption) (n5 : s_nth f2 1 = some v4 := by first | rfl | assumption)  : wr P d sw_c204 sw_h204 (24, [r0], [s0], h, kc, ks) Q := by
  subst e_q1
  refine w_getf rfl g3 n5 ?_
  refine w_c32 rfl (by decide) 1 (by decide) ?_
  subst e_q6
  exact w_cv rfl [.index q6, vi 1] [] rfl rfl (s_wt_4 rfl) rfl g8 k

theorem k204_31 {P : s_P} {d : Nat} {Q : s_O → Prop} {h : s_H} {kc ks : Nat} {r0 : Term}  (k : Q (.inl none, h, kc, ks))   : wr P d sw_c204 sw_h204 (31, [r0], [], h, kc, ks) Q := by
  exact w_ret rfl k

/-! 205: FormulaWorks$Reader.pushNumber(I)V -/
theorem k205_0 {P : s_P} {d : Nat} {Q : s_O → Prop} {h : s_H} {kc ks : Nat} {r0 : Term} {x1 : Int}  (k1 : 0 ≤ x1 → wr P d sw_c205 sw_h205 (5, [r0, vi x1], [], h, kc, ks) Q) (k2 : ¬ 0 ≤ x1 → wr P d sw_c205 sw_h205 (4, [r0, vi x1], [], h, kc, ks) Q)  (c1 : In3 x1 := by first | omega | assumption | (simp only [mk_len, List.length_map]; omega) | decide) : wr P d sw_c205 sw_h205 (0, [r0, vi x1], [], h, kc, ks) Q := by
  refine w_ld rfl rfl (Or.inl ⟨by decide, rfl⟩) ?_
  exact w_if1 rfl c1 k1 k2

theorem k205_4 {P : s_P} {d : Nat} {Q : s_O → Prop} {h : s_H} {kc ks : Nat} {r0 : Term} {x1 : Int}  (k : Q (.inl none, h, kc, ks))   : wr P d sw_c205 sw_h205 (4, [r0, vi x1], [], h, kc, ks) Q := by
  exact w_ret rfl k

theorem k205_5 {P : s_P} {d : Nat} {Q : s_O → Prop} {h : s_H} {kc ks : Nat} {r0 : Term} {x1 : Int} {q2 : Nat} {f3 : List Term} (g4 : s_get h q2 = some (1, 5, f3)) (k : wm P d 201 [.index q2, vi 8] h (wq P d sw_c205 sw_h205 11 [.index q2, vi x1] [] kc ks Q)) (e_q2 : r0 = .index q2 := by first | rfl | assumption) (y1 : s_ty r0 = 3 := by first | rfl | assumption)  : wr P d sw_c205 sw_h205 (5, [r0, vi x1], [], h, kc, ks) Q := by
  refine w_ld rfl rfl (Or.inr (Or.inr ⟨by decide, y1⟩)) ?_
  refine w_c32 rfl (by decide) 8 (by decide) ?_
  subst e_q2
  exact w_cv rfl [.index q2, vi 8] [] rfl rfl (s_wt_4 rfl) rfl g4 k

theorem k205_11 {P : s_P} {d : Nat} {Q : s_O → Prop} {h : s_H} {kc ks : Nat} {r0 : Term} {x1 s0 : Int}  (k1 : s0 = 0 → wr P d sw_c205 sw_h205 (33, [r0, vi x1], [], h, kc, ks) Q) (k2 : ¬ s0 = 0 → wr P d sw_c205 sw_h205 (14, [r0, vi x1], [], h, kc, ks) Q)  (c1 : In3 s0 := by first | omega | assumption | (simp only [mk_len, List.length_map]; omega) | decide) : wr P d sw_c205 sw_h205 (11, [r0, vi x1], [vi s0], h, kc, ks) Q := by
  exact w_if1 rfl c1 k1 k2

theorem k205_14 {P : s_P} {d : Nat} {Q : s_O → Prop} {h : s_H} {kc ks : Nat} {r0 : Term} {x1 : Int} {q2 : Nat} {f3 : List Term} {v5 : Term} (g4 : s_get h q2 = some (1, 5, f3)) (k : wm P d 279 [vi 0, vi (Int.tmod x1 32003)] h (wq P d sw_c205 sw_h205 27 [.index q2, vi x1] [v5] kc ks Q)) (e_q2 : r0 = .index q2 := by first | rfl | assumption) (y1 : s_ty r0 = 3 := by first | rfl | assumption) (n6 : s_nth f3 1 = some v5 := by first | rfl | assumption) (c7 : In3 x1 := by first | omega | assumption | (simp only [mk_len, List.length_map]; omega) | decide) : wr P d sw_c205 sw_h205 (14, [r0, vi x1], [], h, kc, ks) Q := by
  refine w_ld rfl rfl (Or.inr (Or.inr ⟨by decide, y1⟩)) ?_
  subst e_q2
  refine w_getf rfl g4 n6 ?_
  refine w_c32 rfl (by decide) 0 (by decide) ?_
  refine w_ld rfl rfl (Or.inl ⟨by decide, rfl⟩) ?_
  refine w_c32 rfl (by decide) 32003 (by decide) ?_
  refine w_irem rfl c7 (by decide) (by decide) ?_
  exact w_cs rfl [vi 0, vi (Int.tmod x1 32003)] [v5] rfl rfl (s_wt_4 rfl) k

theorem k205_27 {P : s_P} {d : Nat} {Q : s_O → Prop} {h : s_H} {kc ks : Nat} {r0 : Term} {x1 : Int} {s0 : Term} {s1 : Int} {q1 : Nat} {f2 : List Term} (g3 : s_get h q1 = some (1, 9, f2)) (k : wm P d 302 [.index q1, vi s1] h (wq P d sw_c205 sw_h205 30 [r0, vi x1] [] kc ks Q)) (e_q1 : s0 = .index q1 := by first | rfl | assumption)  : wr P d sw_c205 sw_h205 (27, [r0, vi x1], [vi s1, s0], h, kc, ks) Q := by
  subst e_q1
  exact w_cv rfl [.index q1, vi s1] [] rfl rfl (s_wt_4 rfl) rfl g3 k

theorem k205_33 {P : s_P} {d : Nat} {Q : s_O → Prop} {h : s_H} {kc ks : Nat} {r0 : Term} {x1 : Int} {q2 : Nat} {f3 : List Term} (g4 : s_get h q2 = some (1, 5, f3)) (k : wm P d 203 [.index q2] h (wq P d sw_c205 sw_h205 37 [.index q2, vi x1] [] kc ks Q)) (e_q2 : r0 = .index q2 := by first | rfl | assumption) (y1 : s_ty r0 = 3 := by first | rfl | assumption)  : wr P d sw_c205 sw_h205 (33, [r0, vi x1], [], h, kc, ks) Q := by
  refine w_ld rfl rfl (Or.inr (Or.inr ⟨by decide, y1⟩)) ?_
  subst e_q2
  exact w_cv rfl [.index q2] [] rfl rfl (s_wt_4 rfl) rfl g4 k

theorem k205_37 {P : s_P} {d : Nat} {Q : s_O → Prop} {h : s_H} {kc ks : Nat} {r0 : Term} {x1 : Int} {s0 : Term} {q1 : Nat} {f2 : List Term} {v4 : Term} {q7 : Nat} {f8 : List Term} (g3 : s_get h q1 = some (1, 8, f2)) (g9 : s_get h q7 = some (1, 4, f8)) (k : wm P d 180 [.index q7, vi (Int.tmod x1 32003)] h (wq P d sw_c205 sw_h205 48 [r0, vi x1] [] kc ks Q)) (e_q1 : s0 = .index q1 := by first | rfl | assumption) (e_q7 : v4 = .index q7 := by first | rfl | assumption) (n5 : s_nth f2 1 = some v4 := by first | rfl | assumption) (c6 : In3 x1 := by first | omega | assumption | (simp only [mk_len, List.length_map]; omega) | decide) : wr P d sw_c205 sw_h205 (37, [r0, vi x1], [s0], h, kc, ks) Q := by
  subst e_q1
  refine w_getf rfl g3 n5 ?_
  refine w_ld rfl rfl (Or.inl ⟨by decide, rfl⟩) ?_
  refine w_c32 rfl (by decide) 32003 (by decide) ?_
  refine w_irem rfl c6 (by decide) (by decide) ?_
  subst e_q7
  exact w_cv rfl [.index q7, vi (Int.tmod x1 32003)] [] rfl rfl (s_wt_4 rfl) rfl g9 k

theorem k205_48 {P : s_P} {d : Nat} {Q : s_O → Prop} {h : s_H} {kc ks : Nat} {r0 : Term} {x1 : Int} {q2 : Nat} {f3 : List Term} (g4 : s_get h q2 = some (1, 5, f3)) (k : Q (.inl none, (hp h q2 (1, 5, f3.set 15 (vi 2))), kc, ks)) (e_q2 : r0 = .index q2 := by first | rfl | assumption) (y1 : s_ty r0 = 3 := by first | rfl | assumption) (l5 : 15 < f3.length := by first | exact Nat.le_of_ble_eq_true rfl | omega | assumption) (c6 : 0 < q2 := by first | omega | assumption | (simp only [mk_len, List.length_map]; omega) | decide) : wr P d sw_c205 sw_h205 (48, [r0, vi x1], [], h, kc, ks) Q := by
  refine w_ld rfl rfl (Or.inr (Or.inr ⟨by decide, y1⟩)) ?_
  refine w_c32 rfl (by decide) 2 (by decide) ?_
  subst e_q2
  refine w_putf rfl g4 (Nat.ble_eq_true_of_le c6) rfl (Nat.ble_eq_true_of_le l5) ?_
  exact w_ret rfl k

/-! 206: FormulaWorks$Reader.raise()V -/
theorem k206_0 {P : s_P} {d : Nat} {Q : s_O → Prop} {h : s_H} {kc ks : Nat} {r0 t1 t2 : Term} {q2 : Nat} {f3 f7 : List Term} (g4 : s_get h q2 = some (1, 5, f3)) (g8 : s_get (hp h q2 (1, 5, f3.set 15 (vi 3))) q2 = some (1, 5, f7)) (k : wm P d 200 [.index q2] (hp h q2 (1, 5, f3.set 15 (vi 3))) (wq P d sw_c206 sw_h206 9 [.index q2, t1, t2] [] kc ks Q)) (e_q2 : r0 = .index q2 := by first | rfl | assumption) (y1 : s_ty r0 = 3 := by first | rfl | assumption) (l5 : 15 < f3.length := by first | exact Nat.le_of_ble_eq_true rfl | omega | assumption) (c6 : 0 < q2 := by first | omega | assumption | (simp only [mk_len, List.length_map]; omega) | decide) : wr P d sw_c206 sw_h206 (0, [r0, t1, t2], [], h, kc, ks) Q := by
  refine w_ld rfl rfl (Or.inr (Or.inr ⟨by decide, y1⟩)) ?_
  refine w_c32 rfl (by decide) 3 (by decide) ?_
  subst e_q2
  refine w_putf rfl g4 (Nat.ble_eq_true_of_le c6) rfl (Nat.ble_eq_true_of_le l5) ?_
  refine w_ld rfl rfl (Or.inr (Or.inr ⟨by decide, rfl⟩)) ?_
  exact w_cv rfl [.index q2] [] rfl rfl (s_wt_4 rfl) rfl g8 k

theorem k206_9 {P : s_P} {d : Nat} {Q : s_O → Prop} {h : s_H} {kc ks : Nat} {r0 t1 t2 : Term} {s0 : Int}  (k1 : s0 = 94 → wr P d sw_c206 sw_h206 (15, [r0, t1, t2], [], h, kc, ks) Q) (k2 : ¬ s0 = 94 → wr P d sw_c206 sw_h206 (14, [r0, t1, t2], [], h, kc, ks) Q)  (c1 : In3 s0 := by first | omega | assumption | (simp only [mk_len, List.length_map]; omega) | decide) : wr P d sw_c206 sw_h206 (9, [r0, t1, t2], [vi s0], h, kc, ks) Q := by
  refine w_c32 rfl (by decide) 94 (by decide) ?_
  exact w_if2 rfl c1 (by decide) k1 k2

theorem k206_14 {P : s_P} {d : Nat} {Q : s_O → Prop} {h : s_H} {kc ks : Nat} {r0 t1 t2 : Term}  (k : Q (.inl none, h, kc, ks))   : wr P d sw_c206 sw_h206 (14, [r0, t1, t2], [], h, kc, ks) Q := by
  exact w_ret rfl k

theorem k206_15 {P : s_P} {d : Nat} {Q : s_O → Prop} {h : s_H} {kc ks : Nat} {r0 t1 t2 : Term} {q2 : Nat} {f3 : List Term} {z5 : Int} {f9 : List Term} (g4 : s_get h q2 = some (1, 5, f3)) (g10 : s_get (hp h q2 (1, 5, f3.set 13 (vi (z5 + 1)))) q2 = some (1, 5, f9)) (k : wm P d 194 [.index q2, vi 2] (hp h q2 (1, 5, f3.set 13 (vi (z5 + 1)))) (wq P d sw_c206 sw_h206 35 [.index q2, vi z5, t2] [] kc ks Q)) (e_q2 : r0 = .index q2 := by first | rfl | assumption) (y1 : s_ty r0 = 3 := by first | rfl | assumption) (n6 : s_nth f3 13 = some (vi z5) := by first | rfl | assumption) (l7 : 13 < f3.length := by first | exact Nat.le_of_ble_eq_true rfl | omega | assumption) (c8 : 0 < q2 := by first | omega | assumption | (simp only [mk_len, List.length_map]; omega) | decide) : wr P d sw_c206 sw_h206 (15, [r0, t1, t2], [], h, kc, ks) Q := by
  refine w_ld rfl rfl (Or.inr (Or.inr ⟨by decide, y1⟩)) ?_
  subst e_q2
  refine w_getf rfl g4 n6 ?_
  refine w_st (ls' := [.index q2, vi z5, t2]) rfl (Or.inl ⟨by decide, rfl⟩) rfl ?_
  refine w_ld rfl rfl (Or.inr (Or.inr ⟨by decide, rfl⟩)) ?_
  refine w_dup rfl rfl ?_
  refine w_getf rfl g4 n6 ?_
  refine w_c32 rfl (by decide) 1 (by decide) ?_
  refine w_iadd rfl ?_
  refine w_putf rfl g4 (Nat.ble_eq_true_of_le c8) rfl (Nat.ble_eq_true_of_le l7) ?_
  refine w_ld rfl rfl (Or.inr (Or.inr ⟨by decide, rfl⟩)) ?_
  refine w_c32 rfl (by decide) 2 (by decide) ?_
  exact w_cv rfl [.index q2, vi 2] [] rfl rfl (s_wt_4 rfl) rfl g10 k

theorem k206_35 {P : s_P} {d : Nat} {Q : s_O → Prop} {h : s_H} {kc ks : Nat} {r0 : Term} {x1 : Int} {t2 : Term} {s0 : Int}  (k1 : 0 ≤ s0 → wr P d sw_c206 sw_h206 (41, [r0, vi x1, vi s0], [], h, kc, ks) Q) (k2 : ¬ 0 ≤ s0 → wr P d sw_c206 sw_h206 (40, [r0, vi x1, vi s0], [], h, kc, ks) Q)  (c1 : In3 s0 := by first | omega | assumption | (simp only [mk_len, List.length_map]; omega) | decide) : wr P d sw_c206 sw_h206 (35, [r0, vi x1, t2], [vi s0], h, kc, ks) Q := by
  refine w_st (ls' := [r0, vi x1, vi s0]) rfl (Or.inl ⟨by decide, rfl⟩) rfl ?_
  refine w_ld rfl rfl (Or.inl ⟨by decide, rfl⟩) ?_
  exact w_if1 rfl c1 k1 k2

theorem k206_40 {P : s_P} {d : Nat} {Q : s_O → Prop} {h : s_H} {kc ks : Nat} {r0 : Term} {x1 x2 : Int}  (k : Q (.inl none, h, kc, ks))   : wr P d sw_c206 sw_h206 (40, [r0, vi x1, vi x2], [], h, kc, ks) Q := by
  exact w_ret rfl k

theorem k206_41 {P : s_P} {d : Nat} {Q : s_O → Prop} {h : s_H} {kc ks : Nat} {r0 : Term} {x1 x2 : Int} {q2 : Nat} {f3 : List Term} (g4 : s_get h q2 = some (1, 5, f3)) (k : wm P d 201 [.index q2, vi 8] h (wq P d sw_c206 sw_h206 47 [.index q2, vi x1, vi x2] [] kc ks Q)) (e_q2 : r0 = .index q2 := by first | rfl | assumption) (y1 : s_ty r0 = 3 := by first | rfl | assumption)  : wr P d sw_c206 sw_h206 (41, [r0, vi x1, vi x2], [], h, kc, ks) Q := by
  refine w_ld rfl rfl (Or.inr (Or.inr ⟨by decide, y1⟩)) ?_
  refine w_c32 rfl (by decide) 8 (by decide) ?_
  subst e_q2
  exact w_cv rfl [.index q2, vi 8] [] rfl rfl (s_wt_4 rfl) rfl g4 k

theorem k206_47 {P : s_P} {d : Nat} {Q : s_O → Prop} {h : s_H} {kc ks : Nat} {r0 : Term} {x1 x2 s0 : Int}  (k1 : s0 = 0 → wr P d sw_c206 sw_h206 (66, [r0, vi x1, vi x2], [], h, kc, ks) Q) (k2 : ¬ s0 = 0 → wr P d sw_c206 sw_h206 (50, [r0, vi x1, vi x2], [], h, kc, ks) Q)  (c1 : In3 s0 := by first | omega | assumption | (simp only [mk_len, List.length_map]; omega) | decide) : wr P d sw_c206 sw_h206 (47, [r0, vi x1, vi x2], [vi s0], h, kc, ks) Q := by
  exact w_if1 rfl c1 k1 k2

theorem k206_50 {P : s_P} {d : Nat} {Q : s_O → Prop} {h : s_H} {kc ks : Nat} {r0 : Term} {x1 x2 : Int} {q2 : Nat} {f3 : List Term} {v5 : Term} (g4 : s_get h q2 = some (1, 5, f3)) (k : wm P d 279 [vi 7, vi x2] h (wq P d sw_c206 sw_h206 60 [.index q2, vi x1, vi x2] [v5] kc ks Q)) (e_q2 : r0 = .index q2 := by first | rfl | assumption) (y1 : s_ty r0 = 3 := by first | rfl | assumption) (n6 : s_nth f3 1 = some v5 := by first | rfl | assumption)  : wr P d sw_c206 sw_h206 (50, [r0, vi x1, vi x2], [], h, kc, ks) Q := by
  refine w_ld rfl rfl (Or.inr (Or.inr ⟨by decide, y1⟩)) ?_
  subst e_q2
  refine w_getf rfl g4 n6 ?_
  refine w_c32 rfl (by decide) 7 (by decide) ?_
  refine w_ld rfl rfl (Or.inl ⟨by decide, rfl⟩) ?_
  exact w_cs rfl [vi 7, vi x2] [v5] rfl rfl (s_wt_4 rfl) k

theorem k206_60 {P : s_P} {d : Nat} {Q : s_O → Prop} {h : s_H} {kc ks : Nat} {r0 : Term} {x1 x2 : Int} {s0 : Term} {s1 : Int} {q1 : Nat} {f2 : List Term} (g3 : s_get h q1 = some (1, 9, f2)) (k : wm P d 320 [.index q1, vi s1] h (wq P d sw_c206 sw_h206 63 [r0, vi x1, vi x2] [] kc ks Q)) (e_q1 : s0 = .index q1 := by first | rfl | assumption)  : wr P d sw_c206 sw_h206 (60, [r0, vi x1, vi x2], [vi s1, s0], h, kc, ks) Q := by
  subst e_q1
  exact w_cv rfl [.index q1, vi s1] [] rfl rfl (s_wt_4 rfl) rfl g3 k

theorem k206_66 {P : s_P} {d : Nat} {Q : s_O → Prop} {h : s_H} {kc ks : Nat} {r0 : Term} {x1 x2 : Int} {q2 : Nat} {f3 : List Term} {v5 : Term} (g4 : s_get h q2 = some (1, 5, f3)) (k : wm P d 210 [.index q2] h (wq P d sw_c206 sw_h206 74 [.index q2, vi x1, vi x2] [v5] kc ks Q)) (e_q2 : r0 = .index q2 := by first | rfl | assumption) (y1 : s_ty r0 = 3 := by first | rfl | assumption) (n6 : s_nth f3 0 = some v5 := by first | rfl | assumption)  : wr P d sw_c206 sw_h206 (66, [r0, vi x1, vi x2], [], h, kc, ks) Q := by
  refine w_ld rfl rfl (Or.inr (Or.inr ⟨by decide, y1⟩)) ?_
  subst e_q2
  refine w_getf rfl g4 n6 ?_
  refine w_ld rfl rfl (Or.inr (Or.inr ⟨by decide, rfl⟩)) ?_
  exact w_cv rfl [.index q2] [v5] rfl rfl (s_wt_4 rfl) rfl g4 k

theorem k206_74 {P : s_P} {d : Nat} {Q : s_O → Prop} {h : s_H} {kc ks : Nat} {r0 : Term} {x1 x2 : Int} {s0 s1 : Term} {q2 : Nat} {f3 : List Term} (g4 : s_get h q2 = some (1, 5, f3)) (k : wm P d 210 [.index q2] h (wq P d sw_c206 sw_h206 79 [.index q2, vi x1, vi x2] [vi x2, s1, s0] kc ks Q)) (e_q2 : r0 = .index q2 := by first | rfl | assumption) (y1 : s_ty r0 = 3 := by first | rfl | assumption)  : wr P d sw_c206 sw_h206 (74, [r0, vi x1, vi x2], [s1, s0], h, kc, ks) Q := by
  refine w_ld rfl rfl (Or.inl ⟨by decide, rfl⟩) ?_
  refine w_ld rfl rfl (Or.inr (Or.inr ⟨by decide, y1⟩)) ?_
  subst e_q2
  exact w_cv rfl [.index q2] [vi x2, s1, s0] rfl rfl (s_wt_4 rfl) rfl g4 k

theorem k206_79 {P : s_P} {d : Nat} {Q : s_O → Prop} {h : s_H} {kc ks : Nat} {r0 : Term} {x1 x2 : Int} {s0 s1 : Term} {s2 : Int} {s3 : Term} {q1 : Nat} {f2 : List Term} (g3 : s_get h q1 = some (1, 0, f2)) (k : wm P d 112 [.index q1, s1, vi s2, s3] h (wq P d sw_c206 sw_h206 82 [r0, vi x1, vi x2] [] kc ks Q)) (e_q1 : s0 = .index q1 := by first | rfl | assumption)  : wr P d sw_c206 sw_h206 (79, [r0, vi x1, vi x2], [s3, vi s2, s1, s0], h, kc, ks) Q := by
  subst e_q1
  exact w_cv rfl [.index q1, s1, vi s2, s3] [] rfl rfl (s_wt_4 rfl) rfl g3 k

theorem k206_82 {P : s_P} {d : Nat} {Q : s_O → Prop} {h : s_H} {kc ks : Nat} {r0 : Term} {x1 x2 : Int} {s0 : Term} {q1 : Nat} {f2 : List Term} {z4 : Int} (g3 : s_get h q1 = some (1, 8, f2)) (k1 : z4 = 0 → wr P d sw_c206 sw_h206 (94, [r0, vi x1, vi x2], [], h, kc, ks) Q) (k2 : ¬ z4 = 0 → wr P d sw_c206 sw_h206 (88, [r0, vi x1, vi x2], [], h, kc, ks) Q) (e_q1 : s0 = .index q1 := by first | rfl | assumption) (n5 : s_nth f2 7 = some (vi z4) := by first | rfl | assumption) (c6 : In3 z4 := by first | omega | assumption | (simp only [mk_len, List.length_map]; omega) | decide) : wr P d sw_c206 sw_h206 (82, [r0, vi x1, vi x2], [s0], h, kc, ks) Q := by
  subst e_q1
  refine w_getf rfl g3 n5 ?_
  exact w_if1 rfl c6 k1 k2

theorem k206_88 {P : s_P} {d : Nat} {Q : s_O → Prop} {h : s_H} {kc ks : Nat} {r0 : Term} {x1 x2 : Int} {q2 : Nat} {f3 : List Term} (g4 : s_get h q2 = some (1, 5, f3)) (k : wm P d 195 [.index q2, vi 5, vi x1] h (wq P d sw_c206 sw_h206 94 [.index q2, vi x1, vi x2] [] kc ks Q)) (e_q2 : r0 = .index q2 := by first | rfl | assumption) (y1 : s_ty r0 = 3 := by first | rfl | assumption)  : wr P d sw_c206 sw_h206 (88, [r0, vi x1, vi x2], [], h, kc, ks) Q := by
  refine w_ld rfl rfl (Or.inr (Or.inr ⟨by decide, y1⟩)) ?_
  refine w_c32 rfl (by decide) 5 (by decide) ?_
  refine w_ld rfl rfl (Or.inl ⟨by decide, rfl⟩) ?_
  subst e_q2
  exact w_cv rfl [.index q2, vi 5, vi x1] [] rfl rfl (s_wt_4 rfl) rfl g4 k

theorem k206_94 {P : s_P} {d : Nat} {Q : s_O → Prop} {h : s_H} {kc ks : Nat} {r0 : Term} {x1 x2 : Int}  (k : Q (.inl none, h, kc, ks))   : wr P d sw_c206 sw_h206 (94, [r0, vi x1, vi x2], [], h, kc, ks) Q := by
  exact w_ret rfl k

/-! 207: FormulaWorks$Reader.run()I -/
theorem k207_0 {P : s_P} {d : Nat} {Q : s_O → Prop} {h : s_H} {kc ks : Nat} {r0 t1 t2 : Term}  (k : wr P d sw_c207 sw_h207 (4, [r0, vi (-1), vi 0], [], h, kc, ks) Q) (y1 : s_ty r0 = 3 := by first | rfl | assumption)  : wr P d sw_c207 sw_h207 (0, [r0, t1, t2], [], h, kc, ks) Q := by
  refine w_c32 rfl (by decide) (-1) (by decide) ?_
  refine w_st (ls' := [r0, vi (-1), t2]) rfl (Or.inl ⟨by decide, rfl⟩) (s_stK_r (pre := []) y1) ?_
  refine w_c32 rfl (by decide) 0 (by decide) ?_
  refine w_st (ls' := [r0, vi (-1), vi 0]) rfl (Or.inl ⟨by decide, rfl⟩) rfl ?_
  exact k

theorem k207_4 {P : s_P} {d : Nat} {Q : s_O → Prop} {h : s_H} {kc ks : Nat} {r0 : Term} {x1 x2 : Int} {q2 : Nat} {f3 : List Term} {z5 : Int} (g4 : s_get h q2 = some (1, 5, f3)) (k1 : (8 * z5) + 16 ≤ x2 → wr P d sw_c207 sw_h207 (130, [.index q2, vi x1, vi x2], [], h, kc, ks) Q) (k2 : ¬ (8 * z5) + 16 ≤ x2 → wr P d sw_c207 sw_h207 (18, [.index q2, vi x1, vi x2], [], h, kc, ks) Q) (e_q2 : r0 = .index q2 := by first | rfl | assumption) (y1 : s_ty r0 = 3 := by first | rfl | assumption) (n6 : s_nth f3 10 = some (vi z5) := by first | rfl | assumption) (c7 : In3 x2 := by first | omega | assumption | (simp only [mk_len, List.length_map]; omega) | decide) (c8 : In3 ((8 * z5) + 16) := by first | omega | assumption | (simp only [mk_len, List.length_map]; omega) | decide) : wr P d sw_c207 sw_h207 (4, [r0, vi x1, vi x2], [], h, kc, ks) Q := by
  refine w_ld rfl rfl (Or.inl ⟨by decide, rfl⟩) ?_
  refine w_c32 rfl (by decide) 8 (by decide) ?_
  refine w_ld rfl rfl (Or.inr (Or.inr ⟨by decide, y1⟩)) ?_
  subst e_q2
  refine w_getf rfl g4 n6 ?_
  refine w_imul rfl ?_
  refine w_c32 rfl (by decide) 16 (by decide) ?_
  refine w_iadd rfl ?_
  exact w_if2 rfl c7 c8 k1 k2

theorem k207_18 {P : s_P} {d : Nat} {Q : s_O → Prop} {h : s_H} {kc ks : Nat} {r0 : Term} {x1 x2 : Int} {q2 : Nat} {f3 : List Term} {z5 : Int} (g4 : s_get h q2 = some (1, 5, f3)) (k1 : z5 ≠ 0 → wr P d sw_c207 sw_h207 (130, [.index q2, vi x1, vi x2], [], h, kc, ks) Q) (k2 : ¬ z5 ≠ 0 → wr P d sw_c207 sw_h207 (25, [.index q2, vi x1, vi x2], [], h, kc, ks) Q) (e_q2 : r0 = .index q2 := by first | rfl | assumption) (y1 : s_ty r0 = 3 := by first | rfl | assumption) (n6 : s_nth f3 17 = some (vi z5) := by first | rfl | assumption) (c7 : In3 z5 := by first | omega | assumption | (simp only [mk_len, List.length_map]; omega) | decide) : wr P d sw_c207 sw_h207 (18, [r0, vi x1, vi x2], [], h, kc, ks) Q := by
  refine w_ld rfl rfl (Or.inr (Or.inr ⟨by decide, y1⟩)) ?_
  subst e_q2
  refine w_getf rfl g4 n6 ?_
  exact w_if1 rfl c7 k1 k2

theorem k207_25 {P : s_P} {d : Nat} {Q : s_O → Prop} {h : s_H} {kc ks : Nat} {r0 : Term} {x1 x2 : Int}  (k1 : 0 ≤ x1 → wr P d sw_c207 sw_h207 (130, [r0, vi x1, vi x2], [], h, kc, ks) Q) (k2 : ¬ 0 ≤ x1 → wr P d sw_c207 sw_h207 (29, [r0, vi x1, vi x2], [], h, kc, ks) Q)  (c1 : In3 x1 := by first | omega | assumption | (simp only [mk_len, List.length_map]; omega) | decide) : wr P d sw_c207 sw_h207 (25, [r0, vi x1, vi x2], [], h, kc, ks) Q := by
  refine w_ld rfl rfl (Or.inl ⟨by decide, rfl⟩) ?_
  exact w_if1 rfl c1 k1 k2

-- switch at 29
theorem k207_64 {P : s_P} {d : Nat} {Q : s_O → Prop} {h : s_H} {kc ks : Nat} {r0 : Term} {x1 x2 : Int} {q2 : Nat} {f3 : List Term} (g4 : s_get h q2 = some (1, 5, f3)) (k : wm P d 191 [.index q2] h (wq P d sw_c207 sw_h207 68 [.index q2, vi x1, vi x2] [] kc ks Q)) (e_q2 : r0 = .index q2 := by first | rfl | assumption) (y1 : s_ty r0 = 3 := by first | rfl | assumption)  : wr P d sw_c207 sw_h207 (64, [r0, vi x1, vi x2], [], h, kc, ks) Q := by
  refine w_ld rfl rfl (Or.inr (Or.inr ⟨by decide, y1⟩)) ?_
  subst e_q2
  exact w_cv rfl [.index q2] [] rfl rfl (s_wt_4 rfl) rfl g4 k

theorem k207_68 {P : s_P} {d : Nat} {Q : s_O → Prop} {h : s_H} {kc ks : Nat} {r0 : Term} {x1 x2 s0 : Int}  (k : wr P d sw_c207 sw_h207 (124, [r0, vi s0, vi x2], [], h, kc, ks) Q) (y1 : s_ty r0 = 3 := by first | rfl | assumption)  : wr P d sw_c207 sw_h207 (68, [r0, vi x1, vi x2], [vi s0], h, kc, ks) Q := by
  refine w_st (ls' := [r0, vi s0, vi x2]) rfl (Or.inl ⟨by decide, rfl⟩) (s_stK_r (pre := []) y1) ?_
  refine w_goto rfl ?_
  exact k

theorem k207_72 {P : s_P} {d : Nat} {Q : s_O → Prop} {h : s_H} {kc ks : Nat} {r0 : Term} {x1 x2 : Int} {q2 : Nat} {f3 : List Term} (g4 : s_get h q2 = some (1, 5, f3)) (k : wm P d 206 [.index q2] h (wq P d sw_c207 sw_h207 76 [.index q2, vi x1, vi x2] [] kc ks Q)) (e_q2 : r0 = .index q2 := by first | rfl | assumption) (y1 : s_ty r0 = 3 := by first | rfl | assumption)  : wr P d sw_c207 sw_h207 (72, [r0, vi x1, vi x2], [], h, kc, ks) Q := by
  refine w_ld rfl rfl (Or.inr (Or.inr ⟨by decide, y1⟩)) ?_
  subst e_q2
  exact w_cv rfl [.index q2] [] rfl rfl (s_wt_4 rfl) rfl g4 k

theorem k207_76 {P : s_P} {d : Nat} {Q : s_O → Prop} {h : s_H} {kc ks : Nat} {r0 : Term} {x1 x2 : Int}  (k : wr P d sw_c207 sw_h207 (124, [r0, vi x1, vi x2], [], h, kc, ks) Q)   : wr P d sw_c207 sw_h207 (76, [r0, vi x1, vi x2], [], h, kc, ks) Q := by
  refine w_goto rfl ?_
  exact k

theorem k207_79 {P : s_P} {d : Nat} {Q : s_O → Prop} {h : s_H} {kc ks : Nat} {r0 : Term} {x1 x2 : Int} {q2 : Nat} {f3 : List Term} {v5 : Term} (g4 : s_get h q2 = some (1, 5, f3)) (k : wm P d 202 [.index q2, v5] h (wq P d sw_c207 sw_h207 87 [.index q2, vi x1, vi x2] [] kc ks Q)) (e_q2 : r0 = .index q2 := by first | rfl | assumption) (y1 : s_ty r0 = 3 := by first | rfl | assumption) (n6 : s_nth f3 7 = some v5 := by first | rfl | assumption)  : wr P d sw_c207 sw_h207 (79, [r0, vi x1, vi x2], [], h, kc, ks) Q := by
  refine w_ld rfl rfl (Or.inr (Or.inr ⟨by decide, y1⟩)) ?_
  refine w_ld rfl rfl (Or.inr (Or.inr ⟨by decide, y1⟩)) ?_
  subst e_q2
  refine w_getf rfl g4 n6 ?_
  exact w_cv rfl [.index q2, v5] [] rfl rfl (s_wt_4 rfl) rfl g4 k

theorem k207_87 {P : s_P} {d : Nat} {Q : s_O → Prop} {h : s_H} {kc ks : Nat} {r0 : Term} {x1 x2 : Int} {q2 : Nat} {f3 : List Term} {z5 : Int} (g4 : s_get h q2 = some (1, 5, f3)) (k1 : z5 ≠ 0 → wr P d sw_c207 sw_h207 (124, [.index q2, vi x1, vi x2], [], h, kc, ks) Q) (k2 : ¬ z5 ≠ 0 → wr P d sw_c207 sw_h207 (94, [.index q2, vi x1, vi x2], [], h, kc, ks) Q) (e_q2 : r0 = .index q2 := by first | rfl | assumption) (y1 : s_ty r0 = 3 := by first | rfl | assumption) (n6 : s_nth f3 17 = some (vi z5) := by first | rfl | assumption) (c7 : In3 z5 := by first | omega | assumption | (simp only [mk_len, List.length_map]; omega) | decide) : wr P d sw_c207 sw_h207 (87, [r0, vi x1, vi x2], [], h, kc, ks) Q := by
  refine w_ld rfl rfl (Or.inr (Or.inr ⟨by decide, y1⟩)) ?_
  subst e_q2
  refine w_getf rfl g4 n6 ?_
  exact w_if1 rfl c7 k1 k2

theorem k207_94 {P : s_P} {d : Nat} {Q : s_O → Prop} {h : s_H} {kc ks : Nat} {r0 : Term} {x1 x2 : Int} {q2 : Nat} {f3 : List Term} (g4 : s_get h q2 = some (1, 5, f3)) (k : wm P d 189 [.index q2] h (wq P d sw_c207 sw_h207 98 [.index q2, vi x1, vi x2] [] kc ks Q)) (e_q2 : r0 = .index q2 := by first | rfl | assumption) (y1 : s_ty r0 = 3 := by first | rfl | assumption)  : wr P d sw_c207 sw_h207 (94, [r0, vi x1, vi x2], [], h, kc, ks) Q := by
  refine w_ld rfl rfl (Or.inr (Or.inr ⟨by decide, y1⟩)) ?_
  subst e_q2
  exact w_cv rfl [.index q2] [] rfl rfl (s_wt_4 rfl) rfl g4 k

theorem k207_98 {P : s_P} {d : Nat} {Q : s_O → Prop} {h : s_H} {kc ks : Nat} {r0 : Term} {x1 x2 : Int}  (k : wr P d sw_c207 sw_h207 (124, [r0, vi x1, vi x2], [], h, kc, ks) Q)   : wr P d sw_c207 sw_h207 (98, [r0, vi x1, vi x2], [], h, kc, ks) Q := by
  refine w_goto rfl ?_
  exact k

theorem k207_101 {P : s_P} {d : Nat} {Q : s_O → Prop} {h : s_H} {kc ks : Nat} {r0 : Term} {x1 x2 : Int} {q2 : Nat} {f3 : List Term} (g4 : s_get h q2 = some (1, 5, f3)) (k : wm P d 199 [.index q2] h (wq P d sw_c207 sw_h207 105 [.index q2, vi x1, vi x2] [] kc ks Q)) (e_q2 : r0 = .index q2 := by first | rfl | assumption) (y1 : s_ty r0 = 3 := by first | rfl | assumption)  : wr P d sw_c207 sw_h207 (101, [r0, vi x1, vi x2], [], h, kc, ks) Q := by
  refine w_ld rfl rfl (Or.inr (Or.inr ⟨by decide, y1⟩)) ?_
  subst e_q2
  exact w_cv rfl [.index q2] [] rfl rfl (s_wt_4 rfl) rfl g4 k

theorem k207_105 {P : s_P} {d : Nat} {Q : s_O → Prop} {h : s_H} {kc ks : Nat} {r0 : Term} {x1 x2 : Int} {q2 : Nat} {f3 : List Term} {v5 : Term} (g4 : s_get h q2 = some (1, 5, f3)) (k : wm P d 202 [.index q2, v5] h (wq P d sw_c207 sw_h207 113 [.index q2, vi x1, vi x2] [] kc ks Q)) (e_q2 : r0 = .index q2 := by first | rfl | assumption) (y1 : s_ty r0 = 3 := by first | rfl | assumption) (n6 : s_nth f3 6 = some v5 := by first | rfl | assumption)  : wr P d sw_c207 sw_h207 (105, [r0, vi x1, vi x2], [], h, kc, ks) Q := by
  refine w_ld rfl rfl (Or.inr (Or.inr ⟨by decide, y1⟩)) ?_
  refine w_ld rfl rfl (Or.inr (Or.inr ⟨by decide, y1⟩)) ?_
  subst e_q2
  refine w_getf rfl g4 n6 ?_
  exact w_cv rfl [.index q2, v5] [] rfl rfl (s_wt_4 rfl) rfl g4 k

theorem k207_113 {P : s_P} {d : Nat} {Q : s_O → Prop} {h : s_H} {kc ks : Nat} {r0 : Term} {x1 x2 : Int} {q2 : Nat} {f3 : List Term} {z5 : Int} (g4 : s_get h q2 = some (1, 5, f3)) (k1 : z5 ≠ 0 → wr P d sw_c207 sw_h207 (124, [.index q2, vi x1, vi x2], [], h, kc, ks) Q) (k2 : ¬ z5 ≠ 0 → wr P d sw_c207 sw_h207 (120, [.index q2, vi x1, vi x2], [], h, kc, ks) Q) (e_q2 : r0 = .index q2 := by first | rfl | assumption) (y1 : s_ty r0 = 3 := by first | rfl | assumption) (n6 : s_nth f3 17 = some (vi z5) := by first | rfl | assumption) (c7 : In3 z5 := by first | omega | assumption | (simp only [mk_len, List.length_map]; omega) | decide) : wr P d sw_c207 sw_h207 (113, [r0, vi x1, vi x2], [], h, kc, ks) Q := by
  refine w_ld rfl rfl (Or.inr (Or.inr ⟨by decide, y1⟩)) ?_
  subst e_q2
  refine w_getf rfl g4 n6 ?_
  exact w_if1 rfl c7 k1 k2

theorem k207_120 {P : s_P} {d : Nat} {Q : s_O → Prop} {h : s_H} {kc ks : Nat} {r0 : Term} {x1 x2 : Int} {q2 : Nat} {f3 : List Term} (g4 : s_get h q2 = some (1, 5, f3)) (k : wm P d 190 [.index q2] h (wq P d sw_c207 sw_h207 124 [.index q2, vi x1, vi x2] [] kc ks Q)) (e_q2 : r0 = .index q2 := by first | rfl | assumption) (y1 : s_ty r0 = 3 := by first | rfl | assumption)  : wr P d sw_c207 sw_h207 (120, [r0, vi x1, vi x2], [], h, kc, ks) Q := by
  refine w_ld rfl rfl (Or.inr (Or.inr ⟨by decide, y1⟩)) ?_
  subst e_q2
  exact w_cv rfl [.index q2] [] rfl rfl (s_wt_4 rfl) rfl g4 k

theorem k207_124 {P : s_P} {d : Nat} {Q : s_O → Prop} {h : s_H} {kc ks : Nat} {r0 : Term} {x1 x2 : Int}  (k : wr P d sw_c207 sw_h207 (4, [r0, vi x1, vi (x2 + 1)], [], h, kc, ks) Q)   : wr P d sw_c207 sw_h207 (124, [r0, vi x1, vi x2], [], h, kc, ks) Q := by
  refine w_iinc (ls' := [r0, vi x1, vi (x2 + 1)]) rfl rfl 1 (by decide) rfl ?_
  refine w_goto rfl ?_
  exact k

theorem k207_130 {P : s_P} {d : Nat} {Q : s_O → Prop} {h : s_H} {kc ks : Nat} {r0 : Term} {x1 x2 : Int}  (k : Q (.inl (some (vi x1)), h, kc, ks))   : wr P d sw_c207 sw_h207 (130, [r0, vi x1, vi x2], [], h, kc, ks) Q := by
  refine w_ld rfl rfl (Or.inl ⟨by decide, rfl⟩) ?_
  exact w_iret rfl k

/-! 208: FormulaWorks$Reader.startSum()V -/
theorem k208_0 {P : s_P} {d : Nat} {Q : s_O → Prop} {h : s_H} {kc ks : Nat} {r0 : Term} {q2 : Nat} {f3 : List Term} {v5 : Term} {z7 : Int} {q9 : Nat} {a10 : List Int} {f16 : List Term} {v18 : Term} {z20 : Int} {q22 : Nat} {a23 : List Int} {f29 : List Term} {v31 : Term} {z33 : Int} {q35 : Nat} {a36 : List Int} {f42 : List Term} (g4 : s_get h q2 = some (1, 5, f3)) (g11 : s_get h q9 = some (0, 0, a10.map vi)) (g17 : s_get (hp h q9 (0, 0, (a10.set (Int.toNat (z7)) (-1)).map vi)) q2 = some (1, 5, f16)) (g24 : s_get (hp h q9 (0, 0, (a10.set (Int.toNat (z7)) (-1)).map vi)) q22 = some (0, 0, a23.map vi)) (g30 : s_get (hp (hp h q9 (0, 0, (a10.set (Int.toNat (z7)) (-1)).map vi)) q22 (0, 0, (a23.set (Int.toNat (z20)) (-1)).map vi)) q2 = some (1, 5, f29)) (g37 : s_get (hp (hp h q9 (0, 0, (a10.set (Int.toNat (z7)) (-1)).map vi)) q22 (0, 0, (a23.set (Int.toNat (z20)) (-1)).map vi)) q35 = some (0, 0, a36.map vi)) (g43 : s_get (hp (hp (hp h q9 (0, 0, (a10.set (Int.toNat (z7)) (-1)).map vi)) q22 (0, 0, (a23.set (Int.toNat (z20)) (-1)).map vi)) q35 (0, 0, (a36.set (Int.toNat (z33)) (-1)).map vi)) q2 = some (1, 5, f42)) (k : Q (.inl none, (hp (hp (hp (hp h q9 (0, 0, (a10.set (Int.toNat (z7)) (-1)).map vi)) q22 (0, 0, (a23.set (Int.toNat (z20)) (-1)).map vi)) q35 (0, 0, (a36.set (Int.toNat (z33)) (-1)).map vi)) q2 (1, 5, f42.set 15 (vi 0))), kc, ks)) (e_q2 : r0 = .index q2 := by first | rfl | assumption) (e_q9 : v5 = .index q9 := by first | rfl | assumption) (e_q22 : v18 = .index q22 := by first | rfl | assumption) (e_q35 : v31 = .index q35 := by first | rfl | assumption) (y1 : s_ty r0 = 3 := by first | rfl | assumption) (n6 : s_nth f3 5 = some v5 := by first | rfl | assumption) (n8 : s_nth f3 14 = some (vi z7) := by first | rfl | assumption) (n19 : s_nth f16 6 = some v18 := by first | rfl | assumption) (n21 : s_nth f16 14 = some (vi z20) := by first | rfl | assumption) (n32 : s_nth f29 7 = some v31 := by first | rfl | assumption) (n34 : s_nth f29 14 = some (vi z33) := by first | rfl | assumption) (l44 : 15 < f42.length := by first | exact Nat.le_of_ble_eq_true rfl | omega | assumption) (c12 : z7 < a10.length := by first | omega | assumption | (simp only [mk_len, List.length_map]; omega) | decide) (c13 : 0 ≤ z7 := by first | omega | assumption | (simp only [mk_len, List.length_map]; omega) | decide) (c14 : In3 z7 := by first | omega | assumption | (simp only [mk_len, List.length_map]; omega) | decide) (c15 : 0 < q9 := by first | omega | assumption | (simp only [mk_len, List.length_map]; omega) | decide) (c25 : z20 < a23.length := by first | omega | assumption | (simp only [mk_len, List.length_map]; omega) | decide) (c26 : 0 ≤ z20 := by first | omega | assumption | (simp only [mk_len, List.length_map]; omega) | decide) (c27 : In3 z20 := by first | omega | assumption | (simp only [mk_len, List.length_map]; omega) | decide) (c28 : 0 < q22 := by first | omega | assumption | (simp only [mk_len, List.length_map]; omega) | decide) (c38 : z33 < a36.length := by first | omega | assumption | (simp only [mk_len, List.length_map]; omega) | decide) (c39 : 0 ≤ z33 := by first | omega | assumption | (simp only [mk_len, List.length_map]; omega) | decide) (c40 : In3 z33 := by first | omega | assumption | (simp only [mk_len, List.length_map]; omega) | decide) (c41 : 0 < q35 := by first | omega | assumption | (simp only [mk_len, List.length_map]; omega) | decide) (c45 : 0 < q2 := by first | omega | assumption | (simp only [mk_len, List.length_map]; omega) | decide) : wr P d sw_c208 sw_h208 (0, [r0], [], h, kc, ks) Q := by
  refine w_ld rfl rfl (Or.inr (Or.inr ⟨by decide, y1⟩)) ?_
  subst e_q2
  refine w_getf rfl g4 n6 ?_
  refine w_ld rfl rfl (Or.inr (Or.inr ⟨by decide, rfl⟩)) ?_
  refine w_getf rfl g4 n8 ?_
  refine w_c32 rfl (by decide) (-1) (by decide) ?_
  subst e_q9
  refine w_iast rfl g11 (Nat.ble_eq_true_of_le c15) c14 c13 c12 ?_
  refine w_ld rfl rfl (Or.inr (Or.inr ⟨by decide, rfl⟩)) ?_
  refine w_getf rfl g17 n19 ?_
  refine w_ld rfl rfl (Or.inr (Or.inr ⟨by decide, rfl⟩)) ?_
  refine w_getf rfl g17 n21 ?_
  refine w_c32 rfl (by decide) (-1) (by decide) ?_
  subst e_q22
  refine w_iast rfl g24 (Nat.ble_eq_true_of_le c28) c27 c26 c25 ?_
  refine w_ld rfl rfl (Or.inr (Or.inr ⟨by decide, rfl⟩)) ?_
  refine w_getf rfl g30 n32 ?_
  refine w_ld rfl rfl (Or.inr (Or.inr ⟨by decide, rfl⟩)) ?_
  refine w_getf rfl g30 n34 ?_
  refine w_c32 rfl (by decide) (-1) (by decide) ?_
  subst e_q35
  refine w_iast rfl g37 (Nat.ble_eq_true_of_le c41) c40 c39 c38 ?_
  refine w_ld rfl rfl (Or.inr (Or.inr ⟨by decide, rfl⟩)) ?_
  refine w_c32 rfl (by decide) 0 (by decide) ?_
  refine w_putf rfl g43 (Nat.ble_eq_true_of_le c45) rfl (Nat.ble_eq_true_of_le l44) ?_
  exact w_ret rfl k

/-! 209: FormulaWorks$Reader.step(I)V -/
theorem k209_0 {P : s_P} {d : Nat} {Q : s_O → Prop} {h : s_H} {kc ks : Nat} {r0 : Term} {x1 : Int} {q2 : Nat} {f3 : List Term} {z5 : Int} {f9 : List Term} (g4 : s_get h q2 = some (1, 5, f3)) (g10 : s_get (hp h q2 (1, 5, f3.set 13 (vi (z5 + 1)))) q2 = some (1, 5, f9)) (k : Q (.inl none, (hp (hp h q2 (1, 5, f3.set 13 (vi (z5 + 1)))) q2 (1, 5, f9.set 15 (vi x1))), kc, ks)) (e_q2 : r0 = .index q2 := by first | rfl | assumption) (y1 : s_ty r0 = 3 := by first | rfl | assumption) (n6 : s_nth f3 13 = some (vi z5) := by first | rfl | assumption) (l7 : 13 < f3.length := by first | exact Nat.le_of_ble_eq_true rfl | omega | assumption) (l11 : 15 < f9.length := by first | exact Nat.le_of_ble_eq_true rfl | omega | assumption) (c8 : 0 < q2 := by first | omega | assumption | (simp only [mk_len, List.length_map]; omega) | decide) : wr P d sw_c209 sw_h209 (0, [r0, vi x1], [], h, kc, ks) Q := by
  refine w_ld rfl rfl (Or.inr (Or.inr ⟨by decide, y1⟩)) ?_
  refine w_dup rfl (by rw [y1]; rfl) ?_
  subst e_q2
  refine w_getf rfl g4 n6 ?_
  refine w_c32 rfl (by decide) 1 (by decide) ?_
  refine w_iadd rfl ?_
  refine w_putf rfl g4 (Nat.ble_eq_true_of_le c8) rfl (Nat.ble_eq_true_of_le l7) ?_
  refine w_ld rfl rfl (Or.inr (Or.inr ⟨by decide, rfl⟩)) ?_
  refine w_ld rfl rfl (Or.inl ⟨by decide, rfl⟩) ?_
  refine w_putf rfl g10 (Nat.ble_eq_true_of_le c8) rfl (Nat.ble_eq_true_of_le l11) ?_
  exact w_ret rfl k

/-! 210: FormulaWorks$Reader.top()LFormulaWorks$Thing; -/
theorem k210_0 {P : s_P} {d : Nat} {Q : s_O → Prop} {h : s_H} {kc ks : Nat} {r0 : Term} {q2 : Nat} {f3 : List Term} {v5 : Term} {z7 : Int} (g4 : s_get h q2 = some (1, 5, f3)) (k1 : 1 ≤ z7 → wr P d sw_c210 sw_h210 (16, [.index q2], [v5], h, kc, ks) Q) (k2 : ¬ 1 ≤ z7 → wr P d sw_c210 sw_h210 (12, [.index q2], [v5], h, kc, ks) Q) (e_q2 : r0 = .index q2 := by first | rfl | assumption) (y1 : s_ty r0 = 3 := by first | rfl | assumption) (n6 : s_nth f3 3 = some v5 := by first | rfl | assumption) (n8 : s_nth f3 4 = some (vi z7) := by first | rfl | assumption) (c9 : In3 z7 := by first | omega | assumption | (simp only [mk_len, List.length_map]; omega) | decide) : wr P d sw_c210 sw_h210 (0, [r0], [], h, kc, ks) Q := by
  refine w_ld rfl rfl (Or.inr (Or.inr ⟨by decide, y1⟩)) ?_
  subst e_q2
  refine w_getf rfl g4 n6 ?_
  refine w_ld rfl rfl (Or.inr (Or.inr ⟨by decide, rfl⟩)) ?_
  refine w_getf rfl g4 n8 ?_
  refine w_c32 rfl (by decide) 1 (by decide) ?_
  exact w_if2 rfl c9 (by decide) k1 k2

theorem k210_12 {P : s_P} {d : Nat} {Q : s_O → Prop} {h : s_H} {kc ks : Nat} {r0 s0 : Term}  (k : wr P d sw_c210 sw_h210 (22, [r0], [vi 0, s0], h, kc, ks) Q)   : wr P d sw_c210 sw_h210 (12, [r0], [s0], h, kc, ks) Q := by
  refine w_c32 rfl (by decide) 0 (by decide) ?_
  refine w_goto rfl ?_
  exact k

theorem k210_16 {P : s_P} {d : Nat} {Q : s_O → Prop} {h : s_H} {kc ks : Nat} {r0 s0 : Term} {q2 : Nat} {f3 : List Term} {z5 : Int} (g4 : s_get h q2 = some (1, 5, f3)) (k : wr P d sw_c210 sw_h210 (22, [.index q2], [vi (z5 - 1), s0], h, kc, ks) Q) (e_q2 : r0 = .index q2 := by first | rfl | assumption) (y1 : s_ty r0 = 3 := by first | rfl | assumption) (n6 : s_nth f3 4 = some (vi z5) := by first | rfl | assumption)  : wr P d sw_c210 sw_h210 (16, [r0], [s0], h, kc, ks) Q := by
  refine w_ld rfl rfl (Or.inr (Or.inr ⟨by decide, y1⟩)) ?_
  subst e_q2
  refine w_getf rfl g4 n6 ?_
  refine w_c32 rfl (by decide) 1 (by decide) ?_
  refine w_isub rfl ?_
  exact k

theorem k210_22 {P : s_P} {d : Nat} {Q : s_O → Prop} {h : s_H} {kc ks : Nat} {r0 s0 : Term} {s1 : Int} {q1 : Nat} {a2 : List Term} {tg4 : Nat} {v5 : Term} (g3 : s_get h q1 = some (0, tg4, a2)) (k : Q (.inl (some v5), h, kc, ks)) (e_q1 : s0 = .index q1 := by first | rfl | assumption) (n6 : s_nth a2 (Int.toNat (s1)) = some v5 := by first | rfl | assumption) (u7 : tg4 = 2 ∨ tg4 = 3 ∨ tg4 = 4 := by first | decide | assumption) (y10 : s_ty v5 = 3 := by first | rfl | assumption) (c8 : In3 s1 := by first | omega | assumption | (simp only [mk_len, List.length_map]; omega) | decide) (c9 : 0 ≤ s1 := by first | omega | assumption | (simp only [mk_len, List.length_map]; omega) | decide) : wr P d sw_c210 sw_h210 (22, [r0], [vi s1, s0], h, kc, ks) Q := by
  subst e_q1
  refine w_aald rfl g3 u7 c8 c9 n6 ?_
  exact w_aret rfl y10 k

/-! 211: FormulaWorks$Reader.workNode(I)LFormulaWorks$Thing; -/
theorem k211_0 {P : s_P} {d : Nat} {Q : s_O → Prop} {h : s_H} {kc ks : Nat} {r0 : Term} {x1 : Int} {t2 : Term} {q2 : Nat} {f3 : List Term} {v5 : Term} {q7 : Nat} {f8 : List Term} (g4 : s_get h q2 = some (1, 5, f3)) (g9 : s_get h q7 = some (1, 9, f8)) (k : wm P d 318 [.index q7, vi x1] h (wq P d sw_c211 sw_h211 8 [.index q2, vi x1, t2] [] kc ks Q)) (e_q2 : r0 = .index q2 := by first | rfl | assumption) (e_q7 : v5 = .index q7 := by first | rfl | assumption) (y1 : s_ty r0 = 3 := by first | rfl | assumption) (n6 : s_nth f3 1 = some v5 := by first | rfl | assumption)  : wr P d sw_c211 sw_h211 (0, [r0, vi x1, t2], [], h, kc, ks) Q := by
  refine w_ld rfl rfl (Or.inr (Or.inr ⟨by decide, y1⟩)) ?_
  subst e_q2
  refine w_getf rfl g4 n6 ?_
  refine w_ld rfl rfl (Or.inl ⟨by decide, rfl⟩) ?_
  subst e_q7
  exact w_cv rfl [.index q7, vi x1] [] rfl rfl (s_wt_4 rfl) rfl g9 k

theorem k211_13 {P : s_P} {d : Nat} {Q : s_O → Prop} {h : s_H} {kc ks : Nat} {r0 : Term} {x1 x2 : Int} {q2 : Nat} {f3 : List Term} (g4 : s_get h q2 = some (1, 5, f3)) (k : wm P d 203 [.index q2] h (wq P d sw_c211 sw_h211 17 [.index q2, vi x1, vi x2] [] kc ks Q)) (e_q2 : r0 = .index q2 := by first | rfl | assumption) (y1 : s_ty r0 = 3 := by first | rfl | assumption)  : wr P d sw_c211 sw_h211 (13, [r0, vi x1, vi x2], [], h, kc, ks) Q := by
  refine w_ld rfl rfl (Or.inr (Or.inr ⟨by decide, y1⟩)) ?_
  subst e_q2
  exact w_cv rfl [.index q2] [] rfl rfl (s_wt_4 rfl) rfl g4 k

theorem k211_17 {P : s_P} {d : Nat} {Q : s_O → Prop} {h : s_H} {kc ks : Nat} {r0 : Term} {x1 x2 : Int} {s0 : Term} {q1 : Nat} {f2 : List Term} {v4 : Term} {q7 : Nat} {f8 : List Term} {v10 : Term} {q12 : Nat} {f13 : List Term} (g3 : s_get h q1 = some (1, 8, f2)) (g9 : s_get h q7 = some (1, 5, f8)) (g14 : s_get h q12 = some (1, 9, f13)) (k : wm P d 274 [.index q12, vi x1] h (wq P d sw_c211 sw_h211 28 [.index q7, vi x1, vi x2] [v4] kc ks Q)) (e_q1 : s0 = .index q1 := by first | rfl | assumption) (e_q7 : r0 = .index q7 := by first | rfl | assumption) (e_q12 : v10 = .index q12 := by first | rfl | assumption) (n5 : s_nth f2 1 = some v4 := by first | rfl | assumption) (y6 : s_ty r0 = 3 := by first | rfl | assumption) (n11 : s_nth f8 1 = some v10 := by first | rfl | assumption)  : wr P d sw_c211 sw_h211 (17, [r0, vi x1, vi x2], [s0], h, kc, ks) Q := by
  subst e_q1
  refine w_getf rfl g3 n5 ?_
  refine w_ld rfl rfl (Or.inr (Or.inr ⟨by decide, y6⟩)) ?_
  subst e_q7
  refine w_getf rfl g9 n11 ?_
  refine w_ld rfl rfl (Or.inl ⟨by decide, rfl⟩) ?_
  subst e_q12
  exact w_cv rfl [.index q12, vi x1] [v4] rfl rfl (s_wt_4 rfl) rfl g14 k

theorem k211_31 {P : s_P} {d : Nat} {Q : s_O → Prop} {h : s_H} {kc ks : Nat} {r0 : Term} {x1 x2 : Int}  (k : wr P d sw_c211 sw_h211 (166, [r0, vi x1, vi x2], [], h, kc, ks) Q)   : wr P d sw_c211 sw_h211 (31, [r0, vi x1, vi x2], [], h, kc, ks) Q := by
  refine w_goto rfl ?_
  exact k

theorem k211_34 {P : s_P} {d : Nat} {Q : s_O → Prop} {h : s_H} {kc ks : Nat} {r0 : Term} {x1 x2 : Int}  (k1 : x2 ≠ 1 → wr P d sw_c211 sw_h211 (53, [r0, vi x1, vi x2], [], h, kc, ks) Q) (k2 : ¬ x2 ≠ 1 → wr P d sw_c211 sw_h211 (39, [r0, vi x1, vi x2], [], h, kc, ks) Q)  (c1 : In3 x2 := by first | omega | assumption | (simp only [mk_len, List.length_map]; omega) | decide) : wr P d sw_c211 sw_h211 (34, [r0, vi x1, vi x2], [], h, kc, ks) Q := by
  refine w_ld rfl rfl (Or.inl ⟨by decide, rfl⟩) ?_
  refine w_c32 rfl (by decide) 1 (by decide) ?_
  exact w_if2 rfl c1 (by decide) k1 k2

theorem k211_39 {P : s_P} {d : Nat} {Q : s_O → Prop} {h : s_H} {kc ks : Nat} {r0 : Term} {x1 x2 : Int} {q2 : Nat} {f3 : List Term} (g4 : s_get h q2 = some (1, 5, f3)) (k : wm P d 203 [.index q2] h (wq P d sw_c211 sw_h211 43 [.index q2, vi x1, vi x2] [] kc ks Q)) (e_q2 : r0 = .index q2 := by first | rfl | assumption) (y1 : s_ty r0 = 3 := by first | rfl | assumption)  : wr P d sw_c211 sw_h211 (39, [r0, vi x1, vi x2], [], h, kc, ks) Q := by
  refine w_ld rfl rfl (Or.inr (Or.inr ⟨by decide, y1⟩)) ?_
  subst e_q2
  exact w_cv rfl [.index q2] [] rfl rfl (s_wt_4 rfl) rfl g4 k

theorem k211_43 {P : s_P} {d : Nat} {Q : s_O → Prop} {h : s_H} {kc ks : Nat} {r0 : Term} {x1 x2 : Int} {s0 : Term} {q1 : Nat} {f2 : List Term} {v4 : Term} {q6 : Nat} {f7 : List Term} (g3 : s_get h q1 = some (1, 8, f2)) (g8 : s_get h q6 = some (1, 4, f7)) (k : wm P d 181 [.index q6, vi 1] h (wq P d sw_c211 sw_h211 50 [r0, vi x1, vi x2] [] kc ks Q)) (e_q1 : s0 = .index q1 := by first | rfl | assumption) (e_q6 : v4 = .index q6 := by first | rfl | assumption) (n5 : s_nth f2 1 = some v4 := by first | rfl | assumption)  : wr P d sw_c211 sw_h211 (43, [r0, vi x1, vi x2], [s0], h, kc, ks) Q := by
  subst e_q1
  refine w_getf rfl g3 n5 ?_
  refine w_c32 rfl (by decide) 1 (by decide) ?_
  subst e_q6
  exact w_cv rfl [.index q6, vi 1] [] rfl rfl (s_wt_4 rfl) rfl g8 k

theorem k211_50 {P : s_P} {d : Nat} {Q : s_O → Prop} {h : s_H} {kc ks : Nat} {r0 : Term} {x1 x2 : Int}  (k : wr P d sw_c211 sw_h211 (166, [r0, vi x1, vi x2], [], h, kc, ks) Q)   : wr P d sw_c211 sw_h211 (50, [r0, vi x1, vi x2], [], h, kc, ks) Q := by
  refine w_goto rfl ?_
  exact k

theorem k211_53 {P : s_P} {d : Nat} {Q : s_O → Prop} {h : s_H} {kc ks : Nat} {r0 : Term} {x1 x2 : Int}  (k1 : x2 ≠ 6 → wr P d sw_c211 sw_h211 (75, [r0, vi x1, vi x2], [], h, kc, ks) Q) (k2 : ¬ x2 ≠ 6 → wr P d sw_c211 sw_h211 (59, [r0, vi x1, vi x2], [], h, kc, ks) Q)  (c1 : In3 x2 := by first | omega | assumption | (simp only [mk_len, List.length_map]; omega) | decide) : wr P d sw_c211 sw_h211 (53, [r0, vi x1, vi x2], [], h, kc, ks) Q := by
  refine w_ld rfl rfl (Or.inl ⟨by decide, rfl⟩) ?_
  refine w_c32 rfl (by decide) 6 (by decide) ?_
  exact w_if2 rfl c1 (by decide) k1 k2

theorem k211_59 {P : s_P} {d : Nat} {Q : s_O → Prop} {h : s_H} {kc ks : Nat} {r0 : Term} {x1 x2 : Int} {q2 : Nat} {f3 : List Term} (g4 : s_get h q2 = some (1, 5, f3)) (k : wm P d 210 [.index q2] h (wq P d sw_c211 sw_h211 63 [.index q2, vi x1, vi x2] [] kc ks Q)) (e_q2 : r0 = .index q2 := by first | rfl | assumption) (y1 : s_ty r0 = 3 := by first | rfl | assumption)  : wr P d sw_c211 sw_h211 (59, [r0, vi x1, vi x2], [], h, kc, ks) Q := by
  refine w_ld rfl rfl (Or.inr (Or.inr ⟨by decide, y1⟩)) ?_
  subst e_q2
  exact w_cv rfl [.index q2] [] rfl rfl (s_wt_4 rfl) rfl g4 k

theorem k211_63 {P : s_P} {d : Nat} {Q : s_O → Prop} {h : s_H} {kc ks : Nat} {r0 : Term} {x1 x2 : Int} {s0 : Term} {q1 : Nat} {f2 : List Term} {v4 : Term} {q6 : Nat} {f7 : List Term} (g3 : s_get h q1 = some (1, 8, f2)) (g8 : s_get h q6 = some (1, 4, f7)) (k : wm P d 178 [.index q6, vi 32002] h (wq P d sw_c211 sw_h211 72 [r0, vi x1, vi x2] [] kc ks Q)) (e_q1 : s0 = .index q1 := by first | rfl | assumption) (e_q6 : v4 = .index q6 := by first | rfl | assumption) (n5 : s_nth f2 1 = some v4 := by first | rfl | assumption)  : wr P d sw_c211 sw_h211 (63, [r0, vi x1, vi x2], [s0], h, kc, ks) Q := by
  subst e_q1
  refine w_getf rfl g3 n5 ?_
  refine w_c32 rfl (by decide) 32002 (by decide) ?_
  subst e_q6
  exact w_cv rfl [.index q6, vi 32002] [] rfl rfl (s_wt_4 rfl) rfl g8 k

theorem k211_72 {P : s_P} {d : Nat} {Q : s_O → Prop} {h : s_H} {kc ks : Nat} {r0 : Term} {x1 x2 : Int}  (k : wr P d sw_c211 sw_h211 (166, [r0, vi x1, vi x2], [], h, kc, ks) Q)   : wr P d sw_c211 sw_h211 (72, [r0, vi x1, vi x2], [], h, kc, ks) Q := by
  refine w_goto rfl ?_
  exact k

theorem k211_75 {P : s_P} {d : Nat} {Q : s_O → Prop} {h : s_H} {kc ks : Nat} {r0 : Term} {x1 x2 : Int}  (k1 : x2 ≠ 7 → wr P d sw_c211 sw_h211 (105, [r0, vi x1, vi x2], [], h, kc, ks) Q) (k2 : ¬ x2 ≠ 7 → wr P d sw_c211 sw_h211 (81, [r0, vi x1, vi x2], [], h, kc, ks) Q)  (c1 : In3 x2 := by first | omega | assumption | (simp only [mk_len, List.length_map]; omega) | decide) : wr P d sw_c211 sw_h211 (75, [r0, vi x1, vi x2], [], h, kc, ks) Q := by
  refine w_ld rfl rfl (Or.inl ⟨by decide, rfl⟩) ?_
  refine w_c32 rfl (by decide) 7 (by decide) ?_
  exact w_if2 rfl c1 (by decide) k1 k2

theorem k211_81 {P : s_P} {d : Nat} {Q : s_O → Prop} {h : s_H} {kc ks : Nat} {r0 : Term} {x1 x2 : Int} {q2 : Nat} {f3 : List Term} {v5 : Term} (g4 : s_get h q2 = some (1, 5, f3)) (k : wm P d 210 [.index q2] h (wq P d sw_c211 sw_h211 89 [.index q2, vi x1, vi x2] [v5] kc ks Q)) (e_q2 : r0 = .index q2 := by first | rfl | assumption) (y1 : s_ty r0 = 3 := by first | rfl | assumption) (n6 : s_nth f3 0 = some v5 := by first | rfl | assumption)  : wr P d sw_c211 sw_h211 (81, [r0, vi x1, vi x2], [], h, kc, ks) Q := by
  refine w_ld rfl rfl (Or.inr (Or.inr ⟨by decide, y1⟩)) ?_
  subst e_q2
  refine w_getf rfl g4 n6 ?_
  refine w_ld rfl rfl (Or.inr (Or.inr ⟨by decide, rfl⟩)) ?_
  exact w_cv rfl [.index q2] [v5] rfl rfl (s_wt_4 rfl) rfl g4 k

theorem k211_89 {P : s_P} {d : Nat} {Q : s_O → Prop} {h : s_H} {kc ks : Nat} {r0 : Term} {x1 x2 : Int} {s0 s1 : Term} {q2 : Nat} {f3 : List Term} {v5 : Term} {q7 : Nat} {f8 : List Term} (g4 : s_get h q2 = some (1, 5, f3)) (g9 : s_get h q7 = some (1, 9, f8)) (k : wm P d 274 [.index q7, vi x1] h (wq P d sw_c211 sw_h211 97 [.index q2, vi x1, vi x2] [s1, s0] kc ks Q)) (e_q2 : r0 = .index q2 := by first | rfl | assumption) (e_q7 : v5 = .index q7 := by first | rfl | assumption) (y1 : s_ty r0 = 3 := by first | rfl | assumption) (n6 : s_nth f3 1 = some v5 := by first | rfl | assumption)  : wr P d sw_c211 sw_h211 (89, [r0, vi x1, vi x2], [s1, s0], h, kc, ks) Q := by
  refine w_ld rfl rfl (Or.inr (Or.inr ⟨by decide, y1⟩)) ?_
  subst e_q2
  refine w_getf rfl g4 n6 ?_
  refine w_ld rfl rfl (Or.inl ⟨by decide, rfl⟩) ?_
  subst e_q7
  exact w_cv rfl [.index q7, vi x1] [s1, s0] rfl rfl (s_wt_4 rfl) rfl g9 k

theorem k211_101 {P : s_P} {d : Nat} {Q : s_O → Prop} {h : s_H} {kc ks : Nat} {r0 : Term} {x1 x2 : Int} {s0 s1 : Term} {s2 : Int} {s3 : Term} {q1 : Nat} {f2 : List Term} (g3 : s_get h q1 = some (1, 0, f2)) (k : wm P d 112 [.index q1, s1, vi s2, s3] h (wq P d sw_c211 sw_h211 104 [r0, vi x1, vi x2] [] kc ks Q)) (e_q1 : s0 = .index q1 := by first | rfl | assumption)  : wr P d sw_c211 sw_h211 (101, [r0, vi x1, vi x2], [s3, vi s2, s1, s0], h, kc, ks) Q := by
  subst e_q1
  exact w_cv rfl [.index q1, s1, vi s2, s3] [] rfl rfl (s_wt_4 rfl) rfl g3 k

theorem k211_104 {P : s_P} {d : Nat} {Q : s_O → Prop} {h : s_H} {kc ks : Nat} {r0 : Term} {x1 x2 : Int} {s0 : Term}  (k : Q (.inl (some s0), h, kc, ks)) (y1 : s_ty s0 = 3 := by first | rfl | assumption)  : wr P d sw_c211 sw_h211 (104, [r0, vi x1, vi x2], [s0], h, kc, ks) Q := by
  exact w_aret rfl y1 k

theorem k211_105 {P : s_P} {d : Nat} {Q : s_O → Prop} {h : s_H} {kc ks : Nat} {r0 : Term} {x1 x2 : Int} {q2 : Nat} {f3 : List Term} {z5 : Int} (g4 : s_get h q2 = some (1, 5, f3)) (k1 : z5 ≤ 1 → wr P d sw_c211 sw_h211 (166, [.index q2, vi x1, vi x2], [], h, kc, ks) Q) (k2 : ¬ z5 ≤ 1 → wr P d sw_c211 sw_h211 (113, [.index q2, vi x1, vi x2], [], h, kc, ks) Q) (e_q2 : r0 = .index q2 := by first | rfl | assumption) (y1 : s_ty r0 = 3 := by first | rfl | assumption) (n6 : s_nth f3 4 = some (vi z5) := by first | rfl | assumption) (c7 : In3 z5 := by first | omega | assumption | (simp only [mk_len, List.length_map]; omega) | decide) : wr P d sw_c211 sw_h211 (105, [r0, vi x1, vi x2], [], h, kc, ks) Q := by
  refine w_ld rfl rfl (Or.inr (Or.inr ⟨by decide, y1⟩)) ?_
  subst e_q2
  refine w_getf rfl g4 n6 ?_
  refine w_c32 rfl (by decide) 1 (by decide) ?_
  exact w_if2 rfl c7 (by decide) k1 k2

theorem k211_113 {P : s_P} {d : Nat} {Q : s_O → Prop} {h : s_H} {kc ks : Nat} {r0 : Term} {x1 x2 : Int} {q2 : Nat} {f3 : List Term} {z5 : Int} {f9 : List Term} {v11 : Term} (g4 : s_get h q2 = some (1, 5, f3)) (g10 : s_get (hp h q2 (1, 5, f3.set 4 (vi (z5 - 1)))) q2 = some (1, 5, f9)) (k : wm P d 314 [vi x2] (hp h q2 (1, 5, f3.set 4 (vi (z5 - 1)))) (wq P d sw_c211 sw_h211 131 [.index q2, vi x1, vi x2] [v11] kc ks Q)) (e_q2 : r0 = .index q2 := by first | rfl | assumption) (y1 : s_ty r0 = 3 := by first | rfl | assumption) (n6 : s_nth f3 4 = some (vi z5) := by first | rfl | assumption) (l7 : 4 < f3.length := by first | exact Nat.le_of_ble_eq_true rfl | omega | assumption) (n12 : s_nth f9 0 = some v11 := by first | rfl | assumption) (c8 : 0 < q2 := by first | omega | assumption | (simp only [mk_len, List.length_map]; omega) | decide) : wr P d sw_c211 sw_h211 (113, [r0, vi x1, vi x2], [], h, kc, ks) Q := by
  refine w_ld rfl rfl (Or.inr (Or.inr ⟨by decide, y1⟩)) ?_
  refine w_dup rfl (by rw [y1]; rfl) ?_
  subst e_q2
  refine w_getf rfl g4 n6 ?_
  refine w_c32 rfl (by decide) 1 (by decide) ?_
  refine w_isub rfl ?_
  refine w_putf rfl g4 (Nat.ble_eq_true_of_le c8) rfl (Nat.ble_eq_true_of_le l7) ?_
  refine w_ld rfl rfl (Or.inr (Or.inr ⟨by decide, rfl⟩)) ?_
  refine w_getf rfl g10 n12 ?_
  refine w_ld rfl rfl (Or.inl ⟨by decide, rfl⟩) ?_
  exact w_cs rfl [vi x2] [v11] rfl rfl (s_wt_4 rfl) k

theorem k211_131 {P : s_P} {d : Nat} {Q : s_O → Prop} {h : s_H} {kc ks : Nat} {r0 : Term} {x1 x2 : Int} {s0 : Term} {s1 : Int} {q2 : Nat} {f3 : List Term} {v5 : Term} {z7 : Int} {q9 : Nat} {a10 : List Term} {tg12 : Nat} {v13 : Term} {a18 : List Term} {tg20 : Nat} {v21 : Term} {a26 : List Term} {tg28 : Nat} {v29 : Term} {q32 : Nat} {f33 : List Term} (g4 : s_get h q2 = some (1, 5, f3)) (g11 : s_get h q9 = some (0, tg12, a10)) (g19 : s_get h q9 = some (0, tg20, a18)) (g27 : s_get h q9 = some (0, tg28, a26)) (g34 : s_get h q32 = some (1, 0, f33)) (k : wm P d 108 [.index q32, vi s1, v13, v21, v29] h (wq P d sw_c211 sw_h211 165 [.index q2, vi x1, vi x2] [] kc ks Q)) (e_q2 : r0 = .index q2 := by first | rfl | assumption) (e_q9 : v5 = .index q9 := by first | rfl | assumption) (e_q32 : s0 = .index q32 := by first | rfl | assumption) (y1 : s_ty r0 = 3 := by first | rfl | assumption) (n6 : s_nth f3 3 = some v5 := by first | rfl | assumption) (n8 : s_nth f3 4 = some (vi z7) := by first | rfl | assumption) (n14 : s_nth a10 (Int.toNat (z7 - 1)) = some v13 := by first | rfl | assumption) (u15 : tg12 = 2 ∨ tg12 = 3 ∨ tg12 = 4 := by first | decide | assumption) (n22 : s_nth a18 (Int.toNat (z7)) = some v21 := by first | rfl | assumption) (u23 : tg20 = 2 ∨ tg20 = 3 ∨ tg20 = 4 := by first | decide | assumption) (n30 : s_nth a26 (Int.toNat (z7 - 1)) = some v29 := by first | rfl | assumption) (u31 : tg28 = 2 ∨ tg28 = 3 ∨ tg28 = 4 := by first | decide | assumption) (c16 : In3 (z7 - 1) := by first | omega | assumption | (simp only [mk_len, List.length_map]; omega) | decide) (c17 : 0 ≤ z7 - 1 := by first | omega | assumption | (simp only [mk_len, List.length_map]; omega) | decide) (c24 : In3 z7 := by first | omega | assumption | (simp only [mk_len, List.length_map]; omega) | decide) (c25 : 0 ≤ z7 := by first | omega | assumption | (simp only [mk_len, List.length_map]; omega) | decide) : wr P d sw_c211 sw_h211 (131, [r0, vi x1, vi x2], [vi s1, s0], h, kc, ks) Q := by
  refine w_ld rfl rfl (Or.inr (Or.inr ⟨by decide, y1⟩)) ?_
  subst e_q2
  refine w_getf rfl g4 n6 ?_
  refine w_ld rfl rfl (Or.inr (Or.inr ⟨by decide, rfl⟩)) ?_
  refine w_getf rfl g4 n8 ?_
  refine w_c32 rfl (by decide) 1 (by decide) ?_
  refine w_isub rfl ?_
  subst e_q9
  refine w_aald rfl g11 u15 c16 c17 n14 ?_
  refine w_ld rfl rfl (Or.inr (Or.inr ⟨by decide, rfl⟩)) ?_
  refine w_getf rfl g4 n6 ?_
  refine w_ld rfl rfl (Or.inr (Or.inr ⟨by decide, rfl⟩)) ?_
  refine w_getf rfl g4 n8 ?_
  refine w_aald rfl g19 u23 c24 c25 n22 ?_
  refine w_ld rfl rfl (Or.inr (Or.inr ⟨by decide, rfl⟩)) ?_
  refine w_getf rfl g4 n6 ?_
  refine w_ld rfl rfl (Or.inr (Or.inr ⟨by decide, rfl⟩)) ?_
  refine w_getf rfl g4 n8 ?_
  refine w_c32 rfl (by decide) 1 (by decide) ?_
  refine w_isub rfl ?_
  refine w_aald rfl g27 u31 c16 c17 n30 ?_
  subst e_q32
  exact w_cv rfl [.index q32, vi s1, v13, v21, v29] [] rfl rfl (s_wt_4 rfl) rfl g34 k

theorem k211_165 {P : s_P} {d : Nat} {Q : s_O → Prop} {h : s_H} {kc ks : Nat} {r0 : Term} {x1 x2 : Int} {s0 : Term}  (k : Q (.inl (some s0), h, kc, ks)) (y1 : s_ty s0 = 3 := by first | rfl | assumption)  : wr P d sw_c211 sw_h211 (165, [r0, vi x1, vi x2], [s0], h, kc, ks) Q := by
  exact w_aret rfl y1 k

theorem k211_166 {P : s_P} {d : Nat} {Q : s_O → Prop} {h : s_H} {kc ks : Nat} {r0 : Term} {x1 x2 : Int} {q2 : Nat} {f3 : List Term} (g4 : s_get h q2 = some (1, 5, f3)) (k : wm P d 210 [.index q2] h (wq P d sw_c211 sw_h211 170 [.index q2, vi x1, vi x2] [] kc ks Q)) (e_q2 : r0 = .index q2 := by first | rfl | assumption) (y1 : s_ty r0 = 3 := by first | rfl | assumption)  : wr P d sw_c211 sw_h211 (166, [r0, vi x1, vi x2], [], h, kc, ks) Q := by
  refine w_ld rfl rfl (Or.inr (Or.inr ⟨by decide, y1⟩)) ?_
  subst e_q2
  exact w_cv rfl [.index q2] [] rfl rfl (s_wt_4 rfl) rfl g4 k

theorem k211_170 {P : s_P} {d : Nat} {Q : s_O → Prop} {h : s_H} {kc ks : Nat} {r0 : Term} {x1 x2 : Int} {s0 : Term}  (k : Q (.inl (some s0), h, kc, ks)) (y1 : s_ty s0 = 3 := by first | rfl | assumption)  : wr P d sw_c211 sw_h211 (170, [r0, vi x1, vi x2], [s0], h, kc, ks) Q := by
  exact w_aret rfl y1 k

/-! 212: FormulaWorks$Reader.worthOf([I)LFormulaWorks$Thing; -/
theorem k212_0 {P : s_P} {d : Nat} {Q : s_O → Prop} {h : s_H} {kc ks : Nat} {r0 r1 t2 t3 t4 : Term} {q2 : Nat} {f3 : List Term} {v5 : Term} {q8 : Nat} {f9 : List Term} (g4 : s_get h q2 = some (1, 5, f3)) (g10 : s_get h q8 = some (1, 9, f9)) (k : wm P d 303 [.index q8, r1] h (wq P d sw_c212 sw_h212 8 [.index q2, r1, t2, t3, t4] [] kc ks Q)) (e_q2 : r0 = .index q2 := by first | rfl | assumption) (e_q8 : v5 = .index q8 := by first | rfl | assumption) (y1 : s_ty r0 = 3 := by first | rfl | assumption) (n6 : s_nth f3 1 = some v5 := by first | rfl | assumption) (y7 : s_ty r1 = 3 := by first | rfl | assumption)  : wr P d sw_c212 sw_h212 (0, [r0, r1, t2, t3, t4], [], h, kc, ks) Q := by
  refine w_ld rfl rfl (Or.inr (Or.inr ⟨by decide, y1⟩)) ?_
  subst e_q2
  refine w_getf rfl g4 n6 ?_
  refine w_ld rfl rfl (Or.inr (Or.inr ⟨by decide, y7⟩)) ?_
  subst e_q8
  exact w_cv rfl [.index q8, r1] [] rfl rfl (s_wt_4 rfl) rfl g10 k

theorem k212_22 {P : s_P} {d : Nat} {Q : s_O → Prop} {h : s_H} {kc ks : Nat} {r0 r1 : Term} {x2 x3 : Int} {t4 : Term} {q2 : Nat} {f3 : List Term} {v5 : Term} {q7 : Nat} {f8 : List Term} {z10 : Int} (g4 : s_get h q2 = some (1, 5, f3)) (g9 : s_get h q7 = some (1, 9, f8)) (k1 : z10 ≤ x3 → wr P d sw_c212 sw_h212 (110, [.index q2, r1, vi x2, vi x3, t4], [], h, kc, ks) Q) (k2 : ¬ z10 ≤ x3 → wr P d sw_c212 sw_h212 (33, [.index q2, r1, vi x2, vi x3, t4], [], h, kc, ks) Q) (e_q2 : r0 = .index q2 := by first | rfl | assumption) (e_q7 : v5 = .index q7 := by first | rfl | assumption) (y1 : s_ty r0 = 3 := by first | rfl | assumption) (n6 : s_nth f3 1 = some v5 := by first | rfl | assumption) (n11 : s_nth f8 1 = some (vi z10) := by first | rfl | assumption) (c12 : In3 x3 := by first | omega | assumption | (simp only [mk_len, List.length_map]; omega) | decide) (c13 : In3 z10 := by first | omega | assumption | (simp only [mk_len, List.length_map]; omega) | decide) : wr P d sw_c212 sw_h212 (22, [r0, r1, vi x2, vi x3, t4], [], h, kc, ks) Q := by
  refine w_ld rfl rfl (Or.inl ⟨by decide, rfl⟩) ?_
  refine w_ld rfl rfl (Or.inr (Or.inr ⟨by decide, y1⟩)) ?_
  subst e_q2
  refine w_getf rfl g4 n6 ?_
  subst e_q7
  refine w_getf rfl g9 n11 ?_
  exact w_if2 rfl c12 c13 k1 k2

theorem k212_33 {P : s_P} {d : Nat} {Q : s_O → Prop} {h : s_H} {kc ks : Nat} {r0 r1 : Term} {x2 x3 : Int} {t4 : Term} {q2 : Nat} {f3 : List Term} {v5 : Term} {q7 : Nat} {a8 : List Term} {tg10 : Nat} (g4 : s_get h q2 = some (1, 5, f3)) (g9 : s_get h q7 = some (0, tg10, a8)) (k1 : (a8.length : Int) ≤ x3 → wr P d sw_c212 sw_h212 (110, [.index q2, r1, vi x2, vi x3, t4], [], h, kc, ks) Q) (k2 : ¬ (a8.length : Int) ≤ x3 → wr P d sw_c212 sw_h212 (42, [.index q2, r1, vi x2, vi x3, t4], [], h, kc, ks) Q) (e_q2 : r0 = .index q2 := by first | rfl | assumption) (e_q7 : v5 = .index q7 := by first | rfl | assumption) (y1 : s_ty r0 = 3 := by first | rfl | assumption) (n6 : s_nth f3 8 = some v5 := by first | rfl | assumption) (c11 : In3 x3 := by first | omega | assumption | (simp only [mk_len, List.length_map]; omega) | decide) (c12 : In3 (a8.length : Int) := by first | omega | assumption | (simp only [mk_len, List.length_map]; omega) | decide) : wr P d sw_c212 sw_h212 (33, [r0, r1, vi x2, vi x3, t4], [], h, kc, ks) Q := by
  refine w_ld rfl rfl (Or.inl ⟨by decide, rfl⟩) ?_
  refine w_ld rfl rfl (Or.inr (Or.inr ⟨by decide, y1⟩)) ?_
  subst e_q2
  refine w_getf rfl g4 n6 ?_
  subst e_q7
  refine w_alen rfl g9 (Or.inl rfl) ?_
  exact w_if2 rfl c11 c12 k1 k2

theorem k212_42 {P : s_P} {d : Nat} {Q : s_O → Prop} {h : s_H} {kc ks : Nat} {r0 r1 : Term} {x2 x3 : Int} {t4 : Term} {q2 : Nat} {f3 : List Term} {v5 : Term} {q7 : Nat} {a8 : List Int} (g4 : s_get h q2 = some (1, 5, f3)) (g9 : s_get h q7 = some (0, 0, a8.map vi)) (k : wr P d sw_c212 sw_h212 (52, [.index q2, r1, vi (x2 + 1), vi x3, t4], [], (hp h q7 (0, 0, (a8.set (Int.toNat (x2)) x3).map vi)), kc, ks) Q) (e_q2 : r0 = .index q2 := by first | rfl | assumption) (e_q7 : v5 = .index q7 := by first | rfl | assumption) (y1 : s_ty r0 = 3 := by first | rfl | assumption) (n6 : s_nth f3 8 = some v5 := by first | rfl | assumption) (y14 : s_ty r1 = 3 := by first | rfl | assumption) (c10 : x2 < a8.length := by first | omega | assumption | (simp only [mk_len, List.length_map]; omega) | decide) (c11 : 0 ≤ x2 := by first | omega | assumption | (simp only [mk_len, List.length_map]; omega) | decide) (c12 : In3 x2 := by first | omega | assumption | (simp only [mk_len, List.length_map]; omega) | decide) (c13 : 0 < q7 := by first | omega | assumption | (simp only [mk_len, List.length_map]; omega) | decide) : wr P d sw_c212 sw_h212 (42, [r0, r1, vi x2, vi x3, t4], [], h, kc, ks) Q := by
  refine w_ld rfl rfl (Or.inr (Or.inr ⟨by decide, y1⟩)) ?_
  subst e_q2
  refine w_getf rfl g4 n6 ?_
  refine w_ld rfl rfl (Or.inl ⟨by decide, rfl⟩) ?_
  refine w_ld rfl rfl (Or.inl ⟨by decide, rfl⟩) ?_
  subst e_q7
  refine w_iast rfl g9 (Nat.ble_eq_true_of_le c13) c12 c11 c10 ?_
  refine w_iinc (ls' := [.index q2, r1, vi (x2 + 1), vi x3, t4]) rfl rfl 1 (by decide) (s_stK_r (pre := [.index q2]) y14) ?_
  exact k

theorem k212_52 {P : s_P} {d : Nat} {Q : s_O → Prop} {h : s_H} {kc ks : Nat} {r0 r1 : Term} {x2 x3 : Int} {t4 : Term}  (k1 : x2 ≤ 0 → wr P d sw_c212 sw_h212 (104, [r0, r1, vi x2, vi x3, t4], [], h, kc, ks) Q) (k2 : ¬ x2 ≤ 0 → wr P d sw_c212 sw_h212 (56, [r0, r1, vi x2, vi x3, t4], [], h, kc, ks) Q)  (c1 : In3 x2 := by first | omega | assumption | (simp only [mk_len, List.length_map]; omega) | decide) : wr P d sw_c212 sw_h212 (52, [r0, r1, vi x2, vi x3, t4], [], h, kc, ks) Q := by
  refine w_ld rfl rfl (Or.inl ⟨by decide, rfl⟩) ?_
  exact w_if1 rfl c1 k1 k2

theorem k212_56 {P : s_P} {d : Nat} {Q : s_O → Prop} {h : s_H} {kc ks : Nat} {r0 r1 : Term} {x2 x3 : Int} {t4 : Term} {q2 : Nat} {f3 : List Term} {v5 v7 : Term} {q9 : Nat} {a10 : List Int} {q15 : Nat} {f16 : List Term} (g4 : s_get h q2 = some (1, 5, f3)) (g11 : s_get h q9 = some (0, 0, a10.map vi)) (g17 : s_get h q15 = some (1, 9, f16)) (k : wm P d 280 [.index q15, vi (gi a10 (x2 - 1))] h (wq P d sw_c212 sw_h212 71 [.index q2, r1, vi x2, vi x3, t4] [] kc ks Q)) (e_q2 : r0 = .index q2 := by first | rfl | assumption) (e_q9 : v7 = .index q9 := by first | rfl | assumption) (e_q15 : v5 = .index q15 := by first | rfl | assumption) (y1 : s_ty r0 = 3 := by first | rfl | assumption) (n6 : s_nth f3 1 = some v5 := by first | rfl | assumption) (n8 : s_nth f3 8 = some v7 := by first | rfl | assumption) (c12 : x2 - 1 < a10.length := by first | omega | assumption | (simp only [mk_len, List.length_map]; omega) | decide) (c13 : 0 ≤ x2 - 1 := by first | omega | assumption | (simp only [mk_len, List.length_map]; omega) | decide) (c14 : In3 (x2 - 1) := by first | omega | assumption | (simp only [mk_len, List.length_map]; omega) | decide) : wr P d sw_c212 sw_h212 (56, [r0, r1, vi x2, vi x3, t4], [], h, kc, ks) Q := by
  refine w_ld rfl rfl (Or.inr (Or.inr ⟨by decide, y1⟩)) ?_
  subst e_q2
  refine w_getf rfl g4 n6 ?_
  refine w_ld rfl rfl (Or.inr (Or.inr ⟨by decide, rfl⟩)) ?_
  refine w_getf rfl g4 n8 ?_
  refine w_ld rfl rfl (Or.inl ⟨by decide, rfl⟩) ?_
  refine w_c32 rfl (by decide) 1 (by decide) ?_
  refine w_isub rfl ?_
  subst e_q9
  refine w_iald rfl g11 (Or.inl rfl) c14 c13 c12 ?_
  subst e_q15
  exact w_cv rfl [.index q15, vi (gi a10 (x2 - 1))] [] rfl rfl (s_wt_4 rfl) rfl g17 k

theorem k212_75 {P : s_P} {d : Nat} {Q : s_O → Prop} {h : s_H} {kc ks : Nat} {r0 r1 : Term} {x2 x3 : Int} {t4 : Term} {q3 : Nat} {f4 : List Term} {v6 : Term} {q8 : Nat} {a9 : List Int} (g5 : s_get h q3 = some (1, 5, f4)) (g10 : s_get h q8 = some (0, 0, a9.map vi)) (k : wm P d 211 [.index q3, vi (gi a9 (x2 + (-1)))] h (wq P d sw_c212 sw_h212 88 [.index q3, r1, vi (x2 + (-1)), vi x3, t4] [] kc ks Q)) (e_q3 : r0 = .index q3 := by first | rfl | assumption) (e_q8 : v6 = .index q8 := by first | rfl | assumption) (y1 : s_ty r1 = 3 := by first | rfl | assumption) (y2 : s_ty r0 = 3 := by first | rfl | assumption) (n7 : s_nth f4 8 = some v6 := by first | rfl | assumption) (c11 : x2 + (-1) < a9.length := by first | omega | assumption | (simp only [mk_len, List.length_map]; omega) | decide) (c12 : 0 ≤ x2 + (-1) := by first | omega | assumption | (simp only [mk_len, List.length_map]; omega) | decide) (c13 : In3 (x2 + (-1)) := by first | omega | assumption | (simp only [mk_len, List.length_map]; omega) | decide) : wr P d sw_c212 sw_h212 (75, [r0, r1, vi x2, vi x3, t4], [], h, kc, ks) Q := by
  refine w_iinc (ls' := [r0, r1, vi (x2 + (-1)), vi x3, t4]) rfl rfl (-1) (by decide) (s_stK_r (pre := [r0]) y1) ?_
  refine w_ld rfl rfl (Or.inr (Or.inr ⟨by decide, y2⟩)) ?_
  refine w_ld rfl rfl (Or.inr (Or.inr ⟨by decide, y2⟩)) ?_
  subst e_q3
  refine w_getf rfl g5 n7 ?_
  refine w_ld rfl rfl (Or.inl ⟨by decide, rfl⟩) ?_
  subst e_q8
  refine w_iald rfl g10 (Or.inl rfl) c13 c12 c11 ?_
  exact w_cv rfl [.index q3, vi (gi a9 (x2 + (-1)))] [] rfl rfl (s_wt_4 rfl) rfl g5 k

theorem k212_88 {P : s_P} {d : Nat} {Q : s_O → Prop} {h : s_H} {kc ks : Nat} {r0 r1 : Term} {x2 x3 : Int} {t4 s0 : Term} {q2 : Nat} {f3 : List Term} {z5 : Int} (g4 : s_get h q2 = some (1, 8, f3)) (k1 : z5 = 0 → wr P d sw_c212 sw_h212 (101, [r0, r1, vi x2, vi x3, .index q2], [], h, kc, ks) Q) (k2 : ¬ z5 = 0 → wr P d sw_c212 sw_h212 (98, [r0, r1, vi x2, vi x3, .index q2], [], h, kc, ks) Q) (e_q2 : s0 = .index q2 := by first | rfl | assumption) (y1 : s_ty s0 = 3 := by first | rfl | assumption) (n6 : s_nth f3 7 = some (vi z5) := by first | rfl | assumption) (c7 : In3 z5 := by first | omega | assumption | (simp only [mk_len, List.length_map]; omega) | decide) : wr P d sw_c212 sw_h212 (88, [r0, r1, vi x2, vi x3, t4], [s0], h, kc, ks) Q := by
  refine w_st (ls' := [r0, r1, vi x2, vi x3, s0]) rfl (Or.inr ⟨by decide, y1⟩) rfl ?_
  refine w_ld rfl rfl (Or.inr (Or.inr ⟨by decide, y1⟩)) ?_
  subst e_q2
  refine w_getf rfl g4 n6 ?_
  exact w_if1 rfl c7 k1 k2

theorem k212_98 {P : s_P} {d : Nat} {Q : s_O → Prop} {h : s_H} {kc ks : Nat} {r0 r1 : Term} {x2 x3 : Int} {r4 : Term}  (k : Q (.inl (some r4), h, kc, ks)) (y1 : s_ty r4 = 3 := by first | rfl | assumption)  : wr P d sw_c212 sw_h212 (98, [r0, r1, vi x2, vi x3, r4], [], h, kc, ks) Q := by
  refine w_ld rfl rfl (Or.inr (Or.inr ⟨by decide, y1⟩)) ?_
  exact w_aret rfl y1 k

theorem k212_101 {P : s_P} {d : Nat} {Q : s_O → Prop} {h : s_H} {kc ks : Nat} {r0 r1 : Term} {x2 x3 : Int} {r4 : Term}  (k : wr P d sw_c212 sw_h212 (52, [r0, r1, vi x2, vi x3, r4], [], h, kc, ks) Q)   : wr P d sw_c212 sw_h212 (101, [r0, r1, vi x2, vi x3, r4], [], h, kc, ks) Q := by
  refine w_goto rfl ?_
  exact k

theorem k212_104 {P : s_P} {d : Nat} {Q : s_O → Prop} {h : s_H} {kc ks : Nat} {r0 r1 : Term} {x2 x3 : Int} {t4 : Term}  (k : wr P d sw_c212 sw_h212 (22, [r0, r1, vi x2, vi (x3 + 1), t4], [], h, kc, ks) Q)   : wr P d sw_c212 sw_h212 (104, [r0, r1, vi x2, vi x3, t4], [], h, kc, ks) Q := by
  refine w_iinc (ls' := [r0, r1, vi x2, vi (x3 + 1), t4]) rfl rfl 1 (by decide) rfl ?_
  refine w_goto rfl ?_
  exact k

theorem k212_110 {P : s_P} {d : Nat} {Q : s_O → Prop} {h : s_H} {kc ks : Nat} {r0 r1 : Term} {x2 x3 : Int} {t4 : Term} {q2 : Nat} {f3 : List Term} (g4 : s_get h q2 = some (1, 5, f3)) (k : wm P d 210 [.index q2] h (wq P d sw_c212 sw_h212 114 [.index q2, r1, vi x2, vi x3, t4] [] kc ks Q)) (e_q2 : r0 = .index q2 := by first | rfl | assumption) (y1 : s_ty r0 = 3 := by first | rfl | assumption)  : wr P d sw_c212 sw_h212 (110, [r0, r1, vi x2, vi x3, t4], [], h, kc, ks) Q := by
  refine w_ld rfl rfl (Or.inr (Or.inr ⟨by decide, y1⟩)) ?_
  subst e_q2
  exact w_cv rfl [.index q2] [] rfl rfl (s_wt_4 rfl) rfl g4 k

theorem k212_114 {P : s_P} {d : Nat} {Q : s_O → Prop} {h : s_H} {kc ks : Nat} {r0 r1 : Term} {x2 x3 : Int} {t4 s0 : Term}  (k : Q (.inl (some s0), h, kc, ks)) (y1 : s_ty s0 = 3 := by first | rfl | assumption)  : wr P d sw_c212 sw_h212 (114, [r0, r1, vi x2, vi x3, t4], [s0], h, kc, ks) Q := by
  exact w_aret rfl y1 k

/-! 214: FormulaWorks$Rules.apply(LFormulaWorks$Thing;ILFormulaWorks$Poly;LFormulaWorks$Poly;)V -/
theorem k214_0 {P : s_P} {d : Nat} {Q : s_O → Prop} {h : s_H} {kc ks : Nat} {r0 r1 : Term} {x2 : Int} {r3 r4 t5 t6 t7 t8 : Term} {q2 : Nat} {f3 : List Term} {v5 : Term} {q7 : Nat} {f8 : List Term} (g4 : s_get h q2 = some (1, 6, f3)) (g9 : s_get h q7 = some (1, 0, f8)) (k : wm P d 110 [.index q7] h (wq P d sw_c214 sw_h214 7 [.index q2, r1, vi x2, r3, r4, t5, t6, t7, t8] [] kc ks Q)) (e_q2 : r0 = .index q2 := by first | rfl | assumption) (e_q7 : v5 = .index q7 := by first | rfl | assumption) (y1 : s_ty r0 = 3 := by first | rfl | assumption) (n6 : s_nth f3 0 = some v5 := by first | rfl | assumption)  : wr P d sw_c214 sw_h214 (0, [r0, r1, vi x2, r3, r4, t5, t6, t7, t8], [], h, kc, ks) Q := by
  refine w_ld rfl rfl (Or.inr (Or.inr ⟨by decide, y1⟩)) ?_
  subst e_q2
  refine w_getf rfl g4 n6 ?_
  subst e_q7
  exact w_cv rfl [.index q7] [] rfl rfl (s_wt_4 rfl) rfl g9 k

theorem k214_7 {P : s_P} {d : Nat} {Q : s_O → Prop} {h : s_H} {kc ks : Nat} {r0 r1 : Term} {x2 : Int} {r3 r4 t5 t6 t7 t8 : Term} {s0 : Int} {q3 : Nat} {f4 : List Term} {v6 : Term} {q8 : Nat} {f9 : List Term} (g5 : s_get h q3 = some (1, 6, f4)) (g10 : s_get h q8 = some (1, 0, f9)) (k : wm P d 109 [.index q8] h (wq P d sw_c214 sw_h214 16 [.index q3, r1, vi x2, r3, r4, vi s0, t6, t7, t8] [] kc ks Q)) (e_q3 : r0 = .index q3 := by first | rfl | assumption) (e_q8 : v6 = .index q8 := by first | rfl | assumption) (y1 : s_ty r4 = 3 := by first | rfl | assumption) (y2 : s_ty r0 = 3 := by first | rfl | assumption) (n7 : s_nth f4 0 = some v6 := by first | rfl | assumption)  : wr P d sw_c214 sw_h214 (7, [r0, r1, vi x2, r3, r4, t5, t6, t7, t8], [vi s0], h, kc, ks) Q := by
  refine w_st (ls' := [r0, r1, vi x2, r3, r4, vi s0, t6, t7, t8]) rfl (Or.inl ⟨by decide, rfl⟩) (s_stK_r (pre := [r0, r1, vi x2, r3]) y1) ?_
  refine w_ld rfl rfl (Or.inr (Or.inr ⟨by decide, y2⟩)) ?_
  subst e_q3
  refine w_getf rfl g5 n7 ?_
  subst e_q8
  exact w_cv rfl [.index q8] [] rfl rfl (s_wt_4 rfl) rfl g10 k

theorem k214_16 {P : s_P} {d : Nat} {Q : s_O → Prop} {h : s_H} {kc ks : Nat} {r0 r1 : Term} {x2 : Int} {r3 r4 : Term} {x5 : Int} {t6 t7 t8 s0 : Term} {q3 : Nat} {f4 : List Term} {v6 : Term} {q8 : Nat} {f9 : List Term} (g5 : s_get h q3 = some (1, 6, f4)) (g10 : s_get h q8 = some (1, 0, f9)) (k : wm P d 109 [.index q8] h (wq P d sw_c214 sw_h214 25 [.index q3, r1, vi x2, r3, r4, vi x5, s0, t7, t8] [] kc ks Q)) (e_q3 : r0 = .index q3 := by first | rfl | assumption) (e_q8 : v6 = .index q8 := by first | rfl | assumption) (y1 : s_ty s0 = 3 := by first | rfl | assumption) (y2 : s_ty r0 = 3 := by first | rfl | assumption) (n7 : s_nth f4 0 = some v6 := by first | rfl | assumption)  : wr P d sw_c214 sw_h214 (16, [r0, r1, vi x2, r3, r4, vi x5, t6, t7, t8], [s0], h, kc, ks) Q := by
  refine w_st (ls' := [r0, r1, vi x2, r3, r4, vi x5, s0, t7, t8]) rfl (Or.inr ⟨by decide, y1⟩) rfl ?_
  refine w_ld rfl rfl (Or.inr (Or.inr ⟨by decide, y2⟩)) ?_
  subst e_q3
  refine w_getf rfl g5 n7 ?_
  subst e_q8
  exact w_cv rfl [.index q8] [] rfl rfl (s_wt_4 rfl) rfl g10 k

theorem k214_25 {P : s_P} {d : Nat} {Q : s_O → Prop} {h : s_H} {kc ks : Nat} {r0 r1 : Term} {x2 : Int} {r3 r4 : Term} {x5 : Int} {r6 t7 t8 s0 : Term} {q4 : Nat} {f5 : List Term} (g6 : s_get h q4 = some (1, 4, f5)) (k : wm P d 179 [.index q4, r3] h (wq P d sw_c214 sw_h214 33 [r0, r1, vi x2, r3, r4, vi x5, .index q4, s0, t8] [] kc ks Q)) (e_q4 : r6 = .index q4 := by first | rfl | assumption) (y1 : s_ty r6 = 3 := by first | rfl | assumption) (y2 : s_ty s0 = 3 := by first | rfl | assumption) (y3 : s_ty r3 = 3 := by first | rfl | assumption)  : wr P d sw_c214 sw_h214 (25, [r0, r1, vi x2, r3, r4, vi x5, r6, t7, t8], [s0], h, kc, ks) Q := by
  refine w_st (ls' := [r0, r1, vi x2, r3, r4, vi x5, r6, s0, t8]) rfl (Or.inr ⟨by decide, y2⟩) (s_stK_r (pre := [r0, r1, vi x2, r3, r4, vi x5]) y1) ?_
  refine w_ld rfl rfl (Or.inr (Or.inr ⟨by decide, y1⟩)) ?_
  refine w_ld rfl rfl (Or.inr (Or.inr ⟨by decide, y3⟩)) ?_
  subst e_q4
  exact w_cv rfl [.index q4, r3] [] rfl rfl (s_wt_4 rfl) rfl g6 k

theorem k214_33 {P : s_P} {d : Nat} {Q : s_O → Prop} {h : s_H} {kc ks : Nat} {r0 r1 : Term} {x2 : Int} {r3 r4 : Term} {x5 : Int} {r6 r7 t8 : Term} {q2 : Nat} {f3 : List Term} (g4 : s_get h q2 = some (1, 4, f3)) (k : wm P d 180 [.index q2, vi 0] h (wq P d sw_c214 sw_h214 39 [r0, r1, vi x2, r3, .index q2, vi x5, r6, r7, t8] [] kc ks Q)) (e_q2 : r4 = .index q2 := by first | rfl | assumption) (y1 : s_ty r4 = 3 := by first | rfl | assumption)  : wr P d sw_c214 sw_h214 (33, [r0, r1, vi x2, r3, r4, vi x5, r6, r7, t8], [], h, kc, ks) Q := by
  refine w_ld rfl rfl (Or.inr (Or.inr ⟨by decide, y1⟩)) ?_
  refine w_c32 rfl (by decide) 0 (by decide) ?_
  subst e_q2
  exact w_cv rfl [.index q2, vi 0] [] rfl rfl (s_wt_4 rfl) rfl g4 k

theorem k214_39 {P : s_P} {d : Nat} {Q : s_O → Prop} {h : s_H} {kc ks : Nat} {r0 r1 : Term} {x2 : Int} {r3 r4 : Term} {x5 : Int} {r6 r7 t8 : Term}  (k : wr P d sw_c214 sw_h214 (42, [r0, r1, vi x2, r3, r4, vi x5, r6, r7, vi 0], [], h, kc, ks) Q) (y1 : s_ty r7 = 3 := by first | rfl | assumption)  : wr P d sw_c214 sw_h214 (39, [r0, r1, vi x2, r3, r4, vi x5, r6, r7, t8], [], h, kc, ks) Q := by
  refine w_c32 rfl (by decide) 0 (by decide) ?_
  refine w_st (ls' := [r0, r1, vi x2, r3, r4, vi x5, r6, r7, vi 0]) rfl (Or.inl ⟨by decide, rfl⟩) (s_stK_r (pre := [r0, r1, vi x2, r3, r4, vi x5, r6]) y1) ?_
  exact k

theorem k214_42 {P : s_P} {d : Nat} {Q : s_O → Prop} {h : s_H} {kc ks : Nat} {r0 r1 : Term} {x2 : Int} {r3 r4 : Term} {x5 : Int} {r6 r7 : Term} {x8 : Int} {q2 : Nat} {f3 : List Term} {z5 : Int} (g4 : s_get h q2 = some (1, 8, f3)) (k1 : z5 ≤ x8 → wr P d sw_c214 sw_h214 (99, [r0, .index q2, vi x2, r3, r4, vi x5, r6, r7, vi x8], [], h, kc, ks) Q) (k2 : ¬ z5 ≤ x8 → wr P d sw_c214 sw_h214 (51, [r0, .index q2, vi x2, r3, r4, vi x5, r6, r7, vi x8], [], h, kc, ks) Q) (e_q2 : r1 = .index q2 := by first | rfl | assumption) (y1 : s_ty r1 = 3 := by first | rfl | assumption) (n6 : s_nth f3 4 = some (vi z5) := by first | rfl | assumption) (c7 : In3 x8 := by first | omega | assumption | (simp only [mk_len, List.length_map]; omega) | decide) (c8 : In3 z5 := by first | omega | assumption | (simp only [mk_len, List.length_map]; omega) | decide) : wr P d sw_c214 sw_h214 (42, [r0, r1, vi x2, r3, r4, vi x5, r6, r7, vi x8], [], h, kc, ks) Q := by
  refine w_ld rfl rfl (Or.inl ⟨by decide, rfl⟩) ?_
  refine w_ld rfl rfl (Or.inr (Or.inr ⟨by decide, y1⟩)) ?_
  subst e_q2
  refine w_getf rfl g4 n6 ?_
  exact w_if2 rfl c7 c8 k1 k2

theorem k214_51 {P : s_P} {d : Nat} {Q : s_O → Prop} {h : s_H} {kc ks : Nat} {r0 r1 : Term} {x2 : Int} {r3 r4 : Term} {x5 : Int} {r6 r7 : Term} {x8 : Int} {q3 : Nat} {f4 : List Term} (g5 : s_get h q3 = some (1, 8, f4)) (k : wm P d 265 [.index q3, vi 0, vi x8] h (wq P d sw_c214 sw_h214 60 [r0, .index q3, vi x2, r3, r4, vi x5, r6, r7, vi x8] [r7] kc ks Q)) (e_q3 : r1 = .index q3 := by first | rfl | assumption) (y1 : s_ty r7 = 3 := by first | rfl | assumption) (y2 : s_ty r1 = 3 := by first | rfl | assumption)  : wr P d sw_c214 sw_h214 (51, [r0, r1, vi x2, r3, r4, vi x5, r6, r7, vi x8], [], h, kc, ks) Q := by
  refine w_ld rfl rfl (Or.inr (Or.inr ⟨by decide, y1⟩)) ?_
  refine w_ld rfl rfl (Or.inr (Or.inr ⟨by decide, y2⟩)) ?_
  refine w_c32 rfl (by decide) 0 (by decide) ?_
  refine w_ld rfl rfl (Or.inl ⟨by decide, rfl⟩) ?_
  subst e_q3
  exact w_cv rfl [.index q3, vi 0, vi x8] [r7] rfl rfl (s_wt_4 rfl) rfl g5 k

theorem k214_60 {P : s_P} {d : Nat} {Q : s_O → Prop} {h : s_H} {kc ks : Nat} {r0 r1 : Term} {x2 : Int} {r3 r4 : Term} {x5 : Int} {r6 r7 : Term} {x8 : Int} {s0 s1 : Term} {q2 : Nat} {f3 : List Term} (g4 : s_get h q2 = some (1, 4, f3)) (k : wm P d 182 [.index q2, s1, r6] h (wq P d sw_c214 sw_h214 65 [r0, r1, vi x2, r3, r4, vi x5, r6, r7, vi x8] [] kc ks Q)) (e_q2 : s0 = .index q2 := by first | rfl | assumption) (y1 : s_ty r6 = 3 := by first | rfl | assumption)  : wr P d sw_c214 sw_h214 (60, [r0, r1, vi x2, r3, r4, vi x5, r6, r7, vi x8], [s1, s0], h, kc, ks) Q := by
  refine w_ld rfl rfl (Or.inr (Or.inr ⟨by decide, y1⟩)) ?_
  subst e_q2
  exact w_cv rfl [.index q2, s1, r6] [] rfl rfl (s_wt_4 rfl) rfl g4 k

theorem k214_65 {P : s_P} {d : Nat} {Q : s_O → Prop} {h : s_H} {kc ks : Nat} {r0 r1 : Term} {x2 : Int} {r3 r4 : Term} {x5 : Int} {r6 r7 : Term} {x8 : Int} {q3 : Nat} {f4 : List Term} (g5 : s_get h q3 = some (1, 4, f4)) (k : wm P d 184 [.index q3, .index q3, r7, vi 1] h (wq P d sw_c214 sw_h214 75 [r0, r1, vi x2, r3, .index q3, vi x5, r6, r7, vi x8] [] kc ks Q)) (e_q3 : r4 = .index q3 := by first | rfl | assumption) (y1 : s_ty r4 = 3 := by first | rfl | assumption) (y2 : s_ty r7 = 3 := by first | rfl | assumption)  : wr P d sw_c214 sw_h214 (65, [r0, r1, vi x2, r3, r4, vi x5, r6, r7, vi x8], [], h, kc, ks) Q := by
  refine w_ld rfl rfl (Or.inr (Or.inr ⟨by decide, y1⟩)) ?_
  refine w_ld rfl rfl (Or.inr (Or.inr ⟨by decide, y1⟩)) ?_
  refine w_ld rfl rfl (Or.inr (Or.inr ⟨by decide, y2⟩)) ?_
  refine w_c32 rfl (by decide) 1 (by decide) ?_
  subst e_q3
  exact w_cv rfl [.index q3, .index q3, r7, vi 1] [] rfl rfl (s_wt_4 rfl) rfl g5 k

theorem k214_75 {P : s_P} {d : Nat} {Q : s_O → Prop} {h : s_H} {kc ks : Nat} {r0 r1 : Term} {x2 : Int} {r3 r4 : Term} {x5 : Int} {r6 r7 : Term} {x8 : Int}  (k1 : x2 ≠ 0 → wr P d sw_c214 sw_h214 (88, [r0, r1, vi x2, r3, r4, vi x5, r6, r7, vi x8], [], h, kc, ks) Q) (k2 : ¬ x2 ≠ 0 → wr P d sw_c214 sw_h214 (79, [r0, r1, vi x2, r3, r4, vi x5, r6, r7, vi x8], [], h, kc, ks) Q)  (c1 : In3 x2 := by first | omega | assumption | (simp only [mk_len, List.length_map]; omega) | decide) : wr P d sw_c214 sw_h214 (75, [r0, r1, vi x2, r3, r4, vi x5, r6, r7, vi x8], [], h, kc, ks) Q := by
  refine w_ld rfl rfl (Or.inl ⟨by decide, rfl⟩) ?_
  exact w_if1 rfl c1 k1 k2

theorem k214_79 {P : s_P} {d : Nat} {Q : s_O → Prop} {h : s_H} {kc ks : Nat} {r0 r1 : Term} {x2 : Int} {r3 r4 : Term} {x5 : Int} {r6 r7 : Term} {x8 : Int} {q2 : Nat} {f3 : List Term} (g4 : s_get h q2 = some (1, 4, f3)) (k : wm P d 185 [.index q2, vi 1] h (wq P d sw_c214 sw_h214 85 [r0, r1, vi x2, r3, r4, vi x5, .index q2, r7, vi x8] [] kc ks Q)) (e_q2 : r6 = .index q2 := by first | rfl | assumption) (y1 : s_ty r6 = 3 := by first | rfl | assumption)  : wr P d sw_c214 sw_h214 (79, [r0, r1, vi x2, r3, r4, vi x5, r6, r7, vi x8], [], h, kc, ks) Q := by
  refine w_ld rfl rfl (Or.inr (Or.inr ⟨by decide, y1⟩)) ?_
  refine w_c32 rfl (by decide) 1 (by decide) ?_
  subst e_q2
  exact w_cv rfl [.index q2, vi 1] [] rfl rfl (s_wt_4 rfl) rfl g4 k

theorem k214_85 {P : s_P} {d : Nat} {Q : s_O → Prop} {h : s_H} {kc ks : Nat} {r0 r1 : Term} {x2 : Int} {r3 r4 : Term} {x5 : Int} {r6 r7 : Term} {x8 : Int}  (k : wr P d sw_c214 sw_h214 (93, [r0, r1, vi x2, r3, r4, vi x5, r6, r7, vi x8], [], h, kc, ks) Q)   : wr P d sw_c214 sw_h214 (85, [r0, r1, vi x2, r3, r4, vi x5, r6, r7, vi x8], [], h, kc, ks) Q := by
  refine w_goto rfl ?_
  exact k

theorem k214_88 {P : s_P} {d : Nat} {Q : s_O → Prop} {h : s_H} {kc ks : Nat} {r0 r1 : Term} {x2 : Int} {r3 r4 : Term} {x5 : Int} {r6 r7 : Term} {x8 : Int} {q2 : Nat} {f3 : List Term} (g4 : s_get h q2 = some (1, 4, f3)) (k : wm P d 174 [.index q2] h (wq P d sw_c214 sw_h214 93 [r0, r1, vi x2, r3, r4, vi x5, .index q2, r7, vi x8] [] kc ks Q)) (e_q2 : r6 = .index q2 := by first | rfl | assumption) (y1 : s_ty r6 = 3 := by first | rfl | assumption)  : wr P d sw_c214 sw_h214 (88, [r0, r1, vi x2, r3, r4, vi x5, r6, r7, vi x8], [], h, kc, ks) Q := by
  refine w_ld rfl rfl (Or.inr (Or.inr ⟨by decide, y1⟩)) ?_
  subst e_q2
  exact w_cv rfl [.index q2] [] rfl rfl (s_wt_4 rfl) rfl g4 k

theorem k214_93 {P : s_P} {d : Nat} {Q : s_O → Prop} {h : s_H} {kc ks : Nat} {r0 r1 : Term} {x2 : Int} {r3 r4 : Term} {x5 : Int} {r6 r7 : Term} {x8 : Int}  (k : wr P d sw_c214 sw_h214 (42, [r0, r1, vi x2, r3, r4, vi x5, r6, r7, vi (x8 + 1)], [], h, kc, ks) Q) (y1 : s_ty r7 = 3 := by first | rfl | assumption)  : wr P d sw_c214 sw_h214 (93, [r0, r1, vi x2, r3, r4, vi x5, r6, r7, vi x8], [], h, kc, ks) Q := by
  refine w_iinc (ls' := [r0, r1, vi x2, r3, r4, vi x5, r6, r7, vi (x8 + 1)]) rfl rfl 1 (by decide) (s_stK_r (pre := [r0, r1, vi x2, r3, r4, vi x5, r6]) y1) ?_
  refine w_goto rfl ?_
  exact k

theorem k214_99 {P : s_P} {d : Nat} {Q : s_O → Prop} {h : s_H} {kc ks : Nat} {r0 r1 : Term} {x2 : Int} {r3 r4 : Term} {x5 : Int} {r6 r7 : Term} {x8 : Int} {q2 : Nat} {f3 : List Term} {v5 : Term} {q7 : Nat} {f8 : List Term} (g4 : s_get h q2 = some (1, 6, f3)) (g9 : s_get h q7 = some (1, 0, f8)) (k : wm P d 113 [.index q7, vi x5] h (wq P d sw_c214 sw_h214 108 [.index q2, r1, vi x2, r3, r4, vi x5, r6, r7, vi x8] [] kc ks Q)) (e_q2 : r0 = .index q2 := by first | rfl | assumption) (e_q7 : v5 = .index q7 := by first | rfl | assumption) (y1 : s_ty r0 = 3 := by first | rfl | assumption) (n6 : s_nth f3 0 = some v5 := by first | rfl | assumption)  : wr P d sw_c214 sw_h214 (99, [r0, r1, vi x2, r3, r4, vi x5, r6, r7, vi x8], [], h, kc, ks) Q := by
  refine w_ld rfl rfl (Or.inr (Or.inr ⟨by decide, y1⟩)) ?_
  subst e_q2
  refine w_getf rfl g4 n6 ?_
  refine w_ld rfl rfl (Or.inl ⟨by decide, rfl⟩) ?_
  subst e_q7
  exact w_cv rfl [.index q7, vi x5] [] rfl rfl (s_wt_4 rfl) rfl g9 k

theorem k214_108 {P : s_P} {d : Nat} {Q : s_O → Prop} {h : s_H} {kc ks : Nat} {r0 r1 : Term} {x2 : Int} {r3 r4 : Term} {x5 : Int} {r6 r7 : Term} {x8 : Int}  (k : Q (.inl none, h, kc, ks))   : wr P d sw_c214 sw_h214 (108, [r0, r1, vi x2, r3, r4, vi x5, r6, r7, vi x8], [], h, kc, ks) Q := by
  exact w_ret rfl k

/-! 215: FormulaWorks$Rules.close(LFormulaWorks$Thing;LFormulaWorks$Thing;)LFormulaWorks$Thing; -/
theorem k215_0 {P : s_P} {d : Nat} {Q : s_O → Prop} {h : s_H} {kc ks : Nat} {r0 r1 r2 t3 t4 t5 t6 t7 t8 t9 t10 t11 : Term} {q2 : Nat} {f3 : List Term} {v5 : Term} {q7 : Nat} {f8 : List Term} (g4 : s_get h q2 = some (1, 6, f3)) (g9 : s_get h q7 = some (1, 0, f8)) (k : wm P d 110 [.index q7] h (wq P d sw_c215 sw_h215 7 [.index q2, r1, r2, t3, t4, t5, t6, t7, t8, t9, t10, t11] [] kc ks Q)) (e_q2 : r0 = .index q2 := by first | rfl | assumption) (e_q7 : v5 = .index q7 := by first | rfl | assumption) (y1 : s_ty r0 = 3 := by first | rfl | assumption) (n6 : s_nth f3 0 = some v5 := by first | rfl | assumption)  : wr P d sw_c215 sw_h215 (0, [r0, r1, r2, t3, t4, t5, t6, t7, t8, t9, t10, t11], [], h, kc, ks) Q := by
  refine w_ld rfl rfl (Or.inr (Or.inr ⟨by decide, y1⟩)) ?_
  subst e_q2
  refine w_getf rfl g4 n6 ?_
  subst e_q7
  exact w_cv rfl [.index q7] [] rfl rfl (s_wt_4 rfl) rfl g9 k

theorem k215_7 {P : s_P} {d : Nat} {Q : s_O → Prop} {h : s_H} {kc ks : Nat} {r0 r1 r2 t3 t4 t5 t6 t7 t8 t9 t10 t11 : Term} {s0 : Int} {q3 : Nat} {f4 : List Term} {v6 : Term} {q8 : Nat} {f9 : List Term} (g5 : s_get h q3 = some (1, 6, f4)) (g10 : s_get h q8 = some (1, 0, f9)) (k : wm P d 109 [.index q8] h (wq P d sw_c215 sw_h215 15 [.index q3, r1, r2, vi s0, t4, t5, t6, t7, t8, t9, t10, t11] [] kc ks Q)) (e_q3 : r0 = .index q3 := by first | rfl | assumption) (e_q8 : v6 = .index q8 := by first | rfl | assumption) (y1 : s_ty r2 = 3 := by first | rfl | assumption) (y2 : s_ty r0 = 3 := by first | rfl | assumption) (n7 : s_nth f4 0 = some v6 := by first | rfl | assumption)  : wr P d sw_c215 sw_h215 (7, [r0, r1, r2, t3, t4, t5, t6, t7, t8, t9, t10, t11], [vi s0], h, kc, ks) Q := by
  refine w_st (ls' := [r0, r1, r2, vi s0, t4, t5, t6, t7, t8, t9, t10, t11]) rfl (Or.inl ⟨by decide, rfl⟩) (s_stK_r (pre := [r0, r1]) y1) ?_
  refine w_ld rfl rfl (Or.inr (Or.inr ⟨by decide, y2⟩)) ?_
  subst e_q3
  refine w_getf rfl g5 n7 ?_
  subst e_q8
  exact w_cv rfl [.index q8] [] rfl rfl (s_wt_4 rfl) rfl g10 k

theorem k215_15 {P : s_P} {d : Nat} {Q : s_O → Prop} {h : s_H} {kc ks : Nat} {r0 r1 r2 : Term} {x3 : Int} {t4 t5 t6 t7 t8 t9 t10 t11 s0 : Term} {q3 : Nat} {f4 : List Term} {v6 : Term} {q8 : Nat} {f9 : List Term} (g5 : s_get h q3 = some (1, 6, f4)) (g10 : s_get h q8 = some (1, 0, f9)) (k : wm P d 109 [.index q8] h (wq P d sw_c215 sw_h215 24 [.index q3, r1, r2, vi x3, s0, t5, t6, t7, t8, t9, t10, t11] [] kc ks Q)) (e_q3 : r0 = .index q3 := by first | rfl | assumption) (e_q8 : v6 = .index q8 := by first | rfl | assumption) (y1 : s_ty s0 = 3 := by first | rfl | assumption) (y2 : s_ty r0 = 3 := by first | rfl | assumption) (n7 : s_nth f4 0 = some v6 := by first | rfl | assumption)  : wr P d sw_c215 sw_h215 (15, [r0, r1, r2, vi x3, t4, t5, t6, t7, t8, t9, t10, t11], [s0], h, kc, ks) Q := by
  refine w_st (ls' := [r0, r1, r2, vi x3, s0, t5, t6, t7, t8, t9, t10, t11]) rfl (Or.inr ⟨by decide, y1⟩) rfl ?_
  refine w_ld rfl rfl (Or.inr (Or.inr ⟨by decide, y2⟩)) ?_
  subst e_q3
  refine w_getf rfl g5 n7 ?_
  subst e_q8
  exact w_cv rfl [.index q8] [] rfl rfl (s_wt_4 rfl) rfl g10 k

theorem k215_24 {P : s_P} {d : Nat} {Q : s_O → Prop} {h : s_H} {kc ks : Nat} {r0 r1 r2 : Term} {x3 : Int} {r4 t5 t6 t7 t8 t9 t10 t11 s0 : Term} {q4 : Nat} {f5 : List Term} {v7 : Term} {q9 : Nat} {f10 : List Term} (g6 : s_get h q4 = some (1, 6, f5)) (g11 : s_get h q9 = some (1, 0, f10)) (k : wm P d 109 [.index q9] h (wq P d sw_c215 sw_h215 33 [.index q4, r1, r2, vi x3, r4, s0, t6, t7, t8, t9, t10, t11] [] kc ks Q)) (e_q4 : r0 = .index q4 := by first | rfl | assumption) (e_q9 : v7 = .index q9 := by first | rfl | assumption) (y1 : s_ty r4 = 3 := by first | rfl | assumption) (y2 : s_ty s0 = 3 := by first | rfl | assumption) (y3 : s_ty r0 = 3 := by first | rfl | assumption) (n8 : s_nth f5 0 = some v7 := by first | rfl | assumption)  : wr P d sw_c215 sw_h215 (24, [r0, r1, r2, vi x3, r4, t5, t6, t7, t8, t9, t10, t11], [s0], h, kc, ks) Q := by
  refine w_st (ls' := [r0, r1, r2, vi x3, r4, s0, t6, t7, t8, t9, t10, t11]) rfl (Or.inr ⟨by decide, y2⟩) (s_stK_r (pre := [r0, r1, r2, vi x3]) y1) ?_
  refine w_ld rfl rfl (Or.inr (Or.inr ⟨by decide, y3⟩)) ?_
  subst e_q4
  refine w_getf rfl g6 n8 ?_
  subst e_q9
  exact w_cv rfl [.index q9] [] rfl rfl (s_wt_4 rfl) rfl g11 k

theorem k215_33 {P : s_P} {d : Nat} {Q : s_O → Prop} {h : s_H} {kc ks : Nat} {r0 r1 r2 : Term} {x3 : Int} {r4 r5 t6 t7 t8 t9 t10 t11 s0 : Term} {q4 : Nat} {f5 : List Term} {v7 : Term} {q9 : Nat} {f10 : List Term} (g6 : s_get h q4 = some (1, 6, f5)) (g11 : s_get h q9 = some (1, 0, f10)) (k : wm P d 109 [.index q9] h (wq P d sw_c215 sw_h215 42 [.index q4, r1, r2, vi x3, r4, r5, s0, t7, t8, t9, t10, t11] [] kc ks Q)) (e_q4 : r0 = .index q4 := by first | rfl | assumption) (e_q9 : v7 = .index q9 := by first | rfl | assumption) (y1 : s_ty r5 = 3 := by first | rfl | assumption) (y2 : s_ty s0 = 3 := by first | rfl | assumption) (y3 : s_ty r0 = 3 := by first | rfl | assumption) (n8 : s_nth f5 0 = some v7 := by first | rfl | assumption)  : wr P d sw_c215 sw_h215 (33, [r0, r1, r2, vi x3, r4, r5, t6, t7, t8, t9, t10, t11], [s0], h, kc, ks) Q := by
  refine w_st (ls' := [r0, r1, r2, vi x3, r4, r5, s0, t7, t8, t9, t10, t11]) rfl (Or.inr ⟨by decide, y2⟩) (s_stK_r (pre := [r0, r1, r2, vi x3, r4]) y1) ?_
  refine w_ld rfl rfl (Or.inr (Or.inr ⟨by decide, y3⟩)) ?_
  subst e_q4
  refine w_getf rfl g6 n8 ?_
  subst e_q9
  exact w_cv rfl [.index q9] [] rfl rfl (s_wt_4 rfl) rfl g11 k

theorem k215_42 {P : s_P} {d : Nat} {Q : s_O → Prop} {h : s_H} {kc ks : Nat} {r0 r1 r2 : Term} {x3 : Int} {r4 r5 r6 t7 t8 t9 t10 t11 s0 : Term} {q4 : Nat} {f5 : List Term} {v7 : Term} {q9 : Nat} {f10 : List Term} (g6 : s_get h q4 = some (1, 6, f5)) (g11 : s_get h q9 = some (1, 0, f10)) (k : wm P d 109 [.index q9] h (wq P d sw_c215 sw_h215 51 [.index q4, r1, r2, vi x3, r4, r5, r6, s0, t8, t9, t10, t11] [] kc ks Q)) (e_q4 : r0 = .index q4 := by first | rfl | assumption) (e_q9 : v7 = .index q9 := by first | rfl | assumption) (y1 : s_ty r6 = 3 := by first | rfl | assumption) (y2 : s_ty s0 = 3 := by first | rfl | assumption) (y3 : s_ty r0 = 3 := by first | rfl | assumption) (n8 : s_nth f5 0 = some v7 := by first | rfl | assumption)  : wr P d sw_c215 sw_h215 (42, [r0, r1, r2, vi x3, r4, r5, r6, t7, t8, t9, t10, t11], [s0], h, kc, ks) Q := by
  refine w_st (ls' := [r0, r1, r2, vi x3, r4, r5, r6, s0, t8, t9, t10, t11]) rfl (Or.inr ⟨by decide, y2⟩) (s_stK_r (pre := [r0, r1, r2, vi x3, r4, r5]) y1) ?_
  refine w_ld rfl rfl (Or.inr (Or.inr ⟨by decide, y3⟩)) ?_
  subst e_q4
  refine w_getf rfl g6 n8 ?_
  subst e_q9
  exact w_cv rfl [.index q9] [] rfl rfl (s_wt_4 rfl) rfl g11 k

theorem k215_51 {P : s_P} {d : Nat} {Q : s_O → Prop} {h : s_H} {kc ks : Nat} {r0 r1 r2 : Term} {x3 : Int} {r4 r5 r6 r7 t8 t9 t10 t11 s0 : Term} {q5 : Nat} {f6 : List Term} {v8 : Term} {q10 : Nat} {f11 : List Term} (g7 : s_get h q5 = some (1, 8, f6)) (g12 : s_get h q10 = some (1, 4, f11)) (k : wm P d 179 [.index q10, v8] h (wq P d sw_c215 sw_h215 66 [r0, .index q5, r2, vi x3, .index q10, r5, r6, r7, s0, vi 60, t10, t11] [] kc ks Q)) (e_q5 : r1 = .index q5 := by first | rfl | assumption) (e_q10 : r4 = .index q10 := by first | rfl | assumption) (y1 : s_ty r7 = 3 := by first | rfl | assumption) (y2 : s_ty s0 = 3 := by first | rfl | assumption) (y3 : s_ty r4 = 3 := by first | rfl | assumption) (y4 : s_ty r1 = 3 := by first | rfl | assumption) (n9 : s_nth f6 1 = some v8 := by first | rfl | assumption)  : wr P d sw_c215 sw_h215 (51, [r0, r1, r2, vi x3, r4, r5, r6, r7, t8, t9, t10, t11], [s0], h, kc, ks) Q := by
  refine w_st (ls' := [r0, r1, r2, vi x3, r4, r5, r6, r7, s0, t9, t10, t11]) rfl (Or.inr ⟨by decide, y2⟩) (s_stK_r (pre := [r0, r1, r2, vi x3, r4, r5, r6]) y1) ?_
  refine w_c32 rfl (by decide) 60 (by decide) ?_
  refine w_st (ls' := [r0, r1, r2, vi x3, r4, r5, r6, r7, s0, vi 60, t10, t11]) rfl (Or.inl ⟨by decide, rfl⟩) (s_stK_r (pre := [r0, r1, r2, vi x3, r4, r5, r6, r7]) y2) ?_
  refine w_ld rfl rfl (Or.inr (Or.inr ⟨by decide, y3⟩)) ?_
  refine w_ld rfl rfl (Or.inr (Or.inr ⟨by decide, y4⟩)) ?_
  subst e_q5
  refine w_getf rfl g7 n9 ?_
  subst e_q10
  exact w_cv rfl [.index q10, v8] [] rfl rfl (s_wt_4 rfl) rfl g12 k

theorem k215_66 {P : s_P} {d : Nat} {Q : s_O → Prop} {h : s_H} {kc ks : Nat} {r0 r1 r2 : Term} {x3 : Int} {r4 r5 r6 r7 r8 : Term} {x9 : Int} {t10 t11 : Term} {q3 : Nat} {f4 : List Term} {v6 : Term} {q8 : Nat} {f9 : List Term} (g5 : s_get h q3 = some (1, 8, f4)) (g10 : s_get h q8 = some (1, 4, f9)) (k : wm P d 179 [.index q8, v6] h (wq P d sw_c215 sw_h215 75 [r0, .index q3, r2, vi x3, r4, .index q8, r6, r7, r8, vi x9, t10, t11] [] kc ks Q)) (e_q3 : r1 = .index q3 := by first | rfl | assumption) (e_q8 : r5 = .index q8 := by first | rfl | assumption) (y1 : s_ty r5 = 3 := by first | rfl | assumption) (y2 : s_ty r1 = 3 := by first | rfl | assumption) (n7 : s_nth f4 2 = some v6 := by first | rfl | assumption)  : wr P d sw_c215 sw_h215 (66, [r0, r1, r2, vi x3, r4, r5, r6, r7, r8, vi x9, t10, t11], [], h, kc, ks) Q := by
  refine w_ld rfl rfl (Or.inr (Or.inr ⟨by decide, y1⟩)) ?_
  refine w_ld rfl rfl (Or.inr (Or.inr ⟨by decide, y2⟩)) ?_
  subst e_q3
  refine w_getf rfl g5 n7 ?_
  subst e_q8
  exact w_cv rfl [.index q8, v6] [] rfl rfl (s_wt_4 rfl) rfl g10 k

theorem k215_75 {P : s_P} {d : Nat} {Q : s_O → Prop} {h : s_H} {kc ks : Nat} {r0 r1 r2 : Term} {x3 : Int} {r4 r5 r6 r7 r8 : Term} {x9 : Int} {t10 t11 : Term} {q2 : Nat} {f3 : List Term} (g4 : s_get h q2 = some (1, 4, f3)) (k : wm P d 180 [.index q2, vi 1] h (wq P d sw_c215 sw_h215 81 [r0, r1, r2, vi x3, r4, r5, .index q2, r7, r8, vi x9, t10, t11] [] kc ks Q)) (e_q2 : r6 = .index q2 := by first | rfl | assumption) (y1 : s_ty r6 = 3 := by first | rfl | assumption)  : wr P d sw_c215 sw_h215 (75, [r0, r1, r2, vi x3, r4, r5, r6, r7, r8, vi x9, t10, t11], [], h, kc, ks) Q := by
  refine w_ld rfl rfl (Or.inr (Or.inr ⟨by decide, y1⟩)) ?_
  refine w_c32 rfl (by decide) 1 (by decide) ?_
  subst e_q2
  exact w_cv rfl [.index q2, vi 1] [] rfl rfl (s_wt_4 rfl) rfl g4 k

theorem k215_81 {P : s_P} {d : Nat} {Q : s_O → Prop} {h : s_H} {kc ks : Nat} {r0 r1 r2 : Term} {x3 : Int} {r4 r5 r6 r7 r8 : Term} {x9 : Int} {t10 t11 : Term}  (k : wr P d sw_c215 sw_h215 (84, [r0, r1, r2, vi x3, r4, r5, r6, r7, r8, vi x9, vi 0, t11], [], h, kc, ks) Q)   : wr P d sw_c215 sw_h215 (81, [r0, r1, r2, vi x3, r4, r5, r6, r7, r8, vi x9, t10, t11], [], h, kc, ks) Q := by
  refine w_c32 rfl (by decide) 0 (by decide) ?_
  refine w_st (ls' := [r0, r1, r2, vi x3, r4, r5, r6, r7, r8, vi x9, vi 0, t11]) rfl (Or.inl ⟨by decide, rfl⟩) rfl ?_
  exact k

theorem k215_84 {P : s_P} {d : Nat} {Q : s_O → Prop} {h : s_H} {kc ks : Nat} {r0 r1 r2 : Term} {x3 : Int} {r4 r5 r6 r7 r8 : Term} {x9 x10 : Int} {t11 : Term}  (k1 : 20 < x10 → wr P d sw_c215 sw_h215 (217, [r0, r1, r2, vi x3, r4, r5, r6, r7, r8, vi x9, vi x10, t11], [], h, kc, ks) Q) (k2 : ¬ 20 < x10 → wr P d sw_c215 sw_h215 (91, [r0, r1, r2, vi x3, r4, r5, r6, r7, r8, vi x9, vi x10, t11], [], h, kc, ks) Q)  (c1 : In3 x10 := by first | omega | assumption | (simp only [mk_len, List.length_map]; omega) | decide) : wr P d sw_c215 sw_h215 (84, [r0, r1, r2, vi x3, r4, r5, r6, r7, r8, vi x9, vi x10, t11], [], h, kc, ks) Q := by
  refine w_ld rfl rfl (Or.inl ⟨by decide, rfl⟩) ?_
  refine w_c32 rfl (by decide) 20 (by decide) ?_
  exact w_if2 rfl c1 (by decide) k1 k2

theorem k215_91 {P : s_P} {d : Nat} {Q : s_O → Prop} {h : s_H} {kc ks : Nat} {r0 r1 r2 : Term} {x3 : Int} {r4 r5 r6 r7 r8 : Term} {x9 x10 : Int} {t11 : Term} {q2 : Nat} {f3 : List Term} {z5 : Int} (g4 : s_get h q2 = some (1, 4, f3)) (k1 : x9 < z5 → wr P d sw_c215 sw_h215 (217, [r0, r1, r2, vi x3, r4, r5, .index q2, r7, r8, vi x9, vi x10, t11], [], h, kc, ks) Q) (k2 : ¬ x9 < z5 → wr P d sw_c215 sw_h215 (101, [r0, r1, r2, vi x3, r4, r5, .index q2, r7, r8, vi x9, vi x10, t11], [], h, kc, ks) Q) (e_q2 : r6 = .index q2 := by first | rfl | assumption) (y1 : s_ty r6 = 3 := by first | rfl | assumption) (n6 : s_nth f3 1 = some (vi z5) := by first | rfl | assumption) (c7 : In3 z5 := by first | omega | assumption | (simp only [mk_len, List.length_map]; omega) | decide) (c8 : In3 x9 := by first | omega | assumption | (simp only [mk_len, List.length_map]; omega) | decide) : wr P d sw_c215 sw_h215 (91, [r0, r1, r2, vi x3, r4, r5, r6, r7, r8, vi x9, vi x10, t11], [], h, kc, ks) Q := by
  refine w_ld rfl rfl (Or.inr (Or.inr ⟨by decide, y1⟩)) ?_
  subst e_q2
  refine w_getf rfl g4 n6 ?_
  refine w_ld rfl rfl (Or.inl ⟨by decide, rfl⟩) ?_
  exact w_if2 rfl c7 c8 k1 k2

theorem k215_101 {P : s_P} {d : Nat} {Q : s_O → Prop} {h : s_H} {kc ks : Nat} {r0 r1 r2 : Term} {x3 : Int} {r4 r5 r6 r7 r8 : Term} {x9 x10 : Int} {t11 : Term} {q4 : Nat} {f5 : List Term} (g6 : s_get h q4 = some (1, 6, f5)) (k : wm P d 226 [.index q4, r5, vi x10, r8] h (wq P d sw_c215 sw_h215 111 [.index q4, r1, r2, vi x3, r4, r5, r6, r7, r8, vi x9, vi x10, t11] [] kc ks Q)) (e_q4 : r0 = .index q4 := by first | rfl | assumption) (y1 : s_ty r0 = 3 := by first | rfl | assumption) (y2 : s_ty r5 = 3 := by first | rfl | assumption) (y3 : s_ty r8 = 3 := by first | rfl | assumption)  : wr P d sw_c215 sw_h215 (101, [r0, r1, r2, vi x3, r4, r5, r6, r7, r8, vi x9, vi x10, t11], [], h, kc, ks) Q := by
  refine w_ld rfl rfl (Or.inr (Or.inr ⟨by decide, y1⟩)) ?_
  refine w_ld rfl rfl (Or.inr (Or.inr ⟨by decide, y2⟩)) ?_
  refine w_ld rfl rfl (Or.inl ⟨by decide, rfl⟩) ?_
  refine w_ld rfl rfl (Or.inr (Or.inr ⟨by decide, y3⟩)) ?_
  subst e_q4
  exact w_cv rfl [.index q4, r5, vi x10, r8] [] rfl rfl (s_wt_4 rfl) rfl g6 k

theorem k215_111 {P : s_P} {d : Nat} {Q : s_O → Prop} {h : s_H} {kc ks : Nat} {r0 r1 r2 : Term} {x3 : Int} {r4 r5 r6 r7 r8 : Term} {x9 x10 : Int} {t11 : Term} {q2 : Nat} {f3 : List Term} {v5 : Term} {q10 : Nat} {f11 : List Term} (g4 : s_get h q2 = some (1, 6, f3)) (g12 : s_get h q10 = some (1, 0, f11)) (k : wm P d 116 [.index q10, r4, r8, r7] h (wq P d sw_c215 sw_h215 124 [.index q2, r1, r2, vi x3, r4, r5, r6, r7, r8, vi x9, vi x10, t11] [] kc ks Q)) (e_q2 : r0 = .index q2 := by first | rfl | assumption) (e_q10 : v5 = .index q10 := by first | rfl | assumption) (y1 : s_ty r0 = 3 := by first | rfl | assumption) (n6 : s_nth f3 0 = some v5 := by first | rfl | assumption) (y7 : s_ty r4 = 3 := by first | rfl | assumption) (y8 : s_ty r8 = 3 := by first | rfl | assumption) (y9 : s_ty r7 = 3 := by first | rfl | assumption)  : wr P d sw_c215 sw_h215 (111, [r0, r1, r2, vi x3, r4, r5, r6, r7, r8, vi x9, vi x10, t11], [], h, kc, ks) Q := by
  refine w_ld rfl rfl (Or.inr (Or.inr ⟨by decide, y1⟩)) ?_
  subst e_q2
  refine w_getf rfl g4 n6 ?_
  refine w_ld rfl rfl (Or.inr (Or.inr ⟨by decide, y7⟩)) ?_
  refine w_ld rfl rfl (Or.inr (Or.inr ⟨by decide, y8⟩)) ?_
  refine w_ld rfl rfl (Or.inr (Or.inr ⟨by decide, y9⟩)) ?_
  subst e_q10
  exact w_cv rfl [.index q10, r4, r8, r7] [] rfl rfl (s_wt_4 rfl) rfl g12 k

theorem k215_124 {P : s_P} {d : Nat} {Q : s_O → Prop} {h : s_H} {kc ks : Nat} {r0 r1 r2 : Term} {x3 : Int} {r4 r5 r6 r7 r8 : Term} {x9 x10 : Int} {t11 : Term} {q2 : Nat} {f3 : List Term} {v5 : Term} {q9 : Nat} {f10 : List Term} (g4 : s_get h q2 = some (1, 6, f3)) (g11 : s_get h q9 = some (1, 0, f10)) (k : wm P d 117 [.index q9, r4, r7, vi 1, r4] h (wq P d sw_c215 sw_h215 138 [.index q2, r1, r2, vi x3, r4, r5, r6, r7, r8, vi x9, vi x10, t11] [] kc ks Q)) (e_q2 : r0 = .index q2 := by first | rfl | assumption) (e_q9 : v5 = .index q9 := by first | rfl | assumption) (y1 : s_ty r0 = 3 := by first | rfl | assumption) (n6 : s_nth f3 0 = some v5 := by first | rfl | assumption) (y7 : s_ty r4 = 3 := by first | rfl | assumption) (y8 : s_ty r7 = 3 := by first | rfl | assumption)  : wr P d sw_c215 sw_h215 (124, [r0, r1, r2, vi x3, r4, r5, r6, r7, r8, vi x9, vi x10, t11], [], h, kc, ks) Q := by
  refine w_ld rfl rfl (Or.inr (Or.inr ⟨by decide, y1⟩)) ?_
  subst e_q2
  refine w_getf rfl g4 n6 ?_
  refine w_ld rfl rfl (Or.inr (Or.inr ⟨by decide, y7⟩)) ?_
  refine w_ld rfl rfl (Or.inr (Or.inr ⟨by decide, y8⟩)) ?_
  refine w_c32 rfl (by decide) 1 (by decide) ?_
  refine w_ld rfl rfl (Or.inr (Or.inr ⟨by decide, y7⟩)) ?_
  subst e_q9
  exact w_cv rfl [.index q9, r4, r7, vi 1, r4] [] rfl rfl (s_wt_4 rfl) rfl g11 k

theorem k215_138 {P : s_P} {d : Nat} {Q : s_O → Prop} {h : s_H} {kc ks : Nat} {r0 r1 r2 : Term} {x3 : Int} {r4 r5 r6 r7 r8 : Term} {x9 x10 : Int} {t11 : Term} {q4 : Nat} {f5 : List Term} (g6 : s_get h q4 = some (1, 6, f5)) (k : wm P d 226 [.index q4, r7, vi (-x10), r8] h (wq P d sw_c215 sw_h215 149 [.index q4, r1, r2, vi x3, r4, r5, r6, r7, r8, vi x9, vi x10, t11] [] kc ks Q)) (e_q4 : r0 = .index q4 := by first | rfl | assumption) (y1 : s_ty r0 = 3 := by first | rfl | assumption) (y2 : s_ty r7 = 3 := by first | rfl | assumption) (y3 : s_ty r8 = 3 := by first | rfl | assumption)  : wr P d sw_c215 sw_h215 (138, [r0, r1, r2, vi x3, r4, r5, r6, r7, r8, vi x9, vi x10, t11], [], h, kc, ks) Q := by
  refine w_ld rfl rfl (Or.inr (Or.inr ⟨by decide, y1⟩)) ?_
  refine w_ld rfl rfl (Or.inr (Or.inr ⟨by decide, y2⟩)) ?_
  refine w_ld rfl rfl (Or.inl ⟨by decide, rfl⟩) ?_
  refine w_ineg rfl ?_
  refine w_ld rfl rfl (Or.inr (Or.inr ⟨by decide, y3⟩)) ?_
  subst e_q4
  exact w_cv rfl [.index q4, r7, vi (-x10), r8] [] rfl rfl (s_wt_4 rfl) rfl g6 k

theorem k215_149 {P : s_P} {d : Nat} {Q : s_O → Prop} {h : s_H} {kc ks : Nat} {r0 r1 r2 : Term} {x3 : Int} {r4 r5 r6 r7 r8 : Term} {x9 x10 : Int} {t11 : Term} {q2 : Nat} {f3 : List Term} {v5 : Term} {q9 : Nat} {f10 : List Term} (g4 : s_get h q2 = some (1, 6, f3)) (g11 : s_get h q9 = some (1, 0, f10)) (k : wm P d 117 [.index q9, r5, r8, vi 1, r5] h (wq P d sw_c215 sw_h215 163 [.index q2, r1, r2, vi x3, r4, r5, r6, r7, r8, vi x9, vi x10, t11] [] kc ks Q)) (e_q2 : r0 = .index q2 := by first | rfl | assumption) (e_q9 : v5 = .index q9 := by first | rfl | assumption) (y1 : s_ty r0 = 3 := by first | rfl | assumption) (n6 : s_nth f3 0 = some v5 := by first | rfl | assumption) (y7 : s_ty r5 = 3 := by first | rfl | assumption) (y8 : s_ty r8 = 3 := by first | rfl | assumption)  : wr P d sw_c215 sw_h215 (149, [r0, r1, r2, vi x3, r4, r5, r6, r7, r8, vi x9, vi x10, t11], [], h, kc, ks) Q := by
  refine w_ld rfl rfl (Or.inr (Or.inr ⟨by decide, y1⟩)) ?_
  subst e_q2
  refine w_getf rfl g4 n6 ?_
  refine w_ld rfl rfl (Or.inr (Or.inr ⟨by decide, y7⟩)) ?_
  refine w_ld rfl rfl (Or.inr (Or.inr ⟨by decide, y8⟩)) ?_
  refine w_c32 rfl (by decide) 1 (by decide) ?_
  refine w_ld rfl rfl (Or.inr (Or.inr ⟨by decide, y7⟩)) ?_
  subst e_q9
  exact w_cv rfl [.index q9, r5, r8, vi 1, r5] [] rfl rfl (s_wt_4 rfl) rfl g11 k

theorem k215_163 {P : s_P} {d : Nat} {Q : s_O → Prop} {h : s_H} {kc ks : Nat} {r0 r1 r2 : Term} {x3 : Int} {r4 r5 r6 r7 r8 : Term} {x9 x10 : Int} {t11 : Term}  (k : wr P d sw_c215 sw_h215 (166, [r0, r1, r2, vi x3, r4, r5, r6, r7, r8, vi x9, vi x10, vi 1], [], h, kc, ks) Q)   : wr P d sw_c215 sw_h215 (163, [r0, r1, r2, vi x3, r4, r5, r6, r7, r8, vi x9, vi x10, t11], [], h, kc, ks) Q := by
  refine w_c32 rfl (by decide) 1 (by decide) ?_
  refine w_st (ls' := [r0, r1, r2, vi x3, r4, r5, r6, r7, r8, vi x9, vi x10, vi 1]) rfl (Or.inl ⟨by decide, rfl⟩) rfl ?_
  exact k

theorem k215_166 {P : s_P} {d : Nat} {Q : s_O → Prop} {h : s_H} {kc ks : Nat} {r0 r1 r2 : Term} {x3 : Int} {r4 r5 r6 r7 r8 : Term} {x9 x10 x11 : Int}  (k1 : x10 < x11 → wr P d sw_c215 sw_h215 (211, [r0, r1, r2, vi x3, r4, r5, r6, r7, r8, vi x9, vi x10, vi x11], [], h, kc, ks) Q) (k2 : ¬ x10 < x11 → wr P d sw_c215 sw_h215 (173, [r0, r1, r2, vi x3, r4, r5, r6, r7, r8, vi x9, vi x10, vi x11], [], h, kc, ks) Q)  (c1 : In3 x11 := by first | omega | assumption | (simp only [mk_len, List.length_map]; omega) | decide) (c2 : In3 x10 := by first | omega | assumption | (simp only [mk_len, List.length_map]; omega) | decide) : wr P d sw_c215 sw_h215 (166, [r0, r1, r2, vi x3, r4, r5, r6, r7, r8, vi x9, vi x10, vi x11], [], h, kc, ks) Q := by
  refine w_ld rfl rfl (Or.inl ⟨by decide, rfl⟩) ?_
  refine w_ld rfl rfl (Or.inl ⟨by decide, rfl⟩) ?_
  exact w_if2 rfl c1 c2 k1 k2

theorem k215_173 {P : s_P} {d : Nat} {Q : s_O → Prop} {h : s_H} {kc ks : Nat} {r0 r1 r2 : Term} {x3 : Int} {r4 r5 r6 r7 r8 : Term} {x9 x10 x11 : Int} {q2 : Nat} {f3 : List Term} {z5 : Int} (g4 : s_get h q2 = some (1, 4, f3)) (k1 : x9 < z5 → wr P d sw_c215 sw_h215 (211, [r0, r1, r2, vi x3, r4, r5, .index q2, r7, r8, vi x9, vi x10, vi x11], [], h, kc, ks) Q) (k2 : ¬ x9 < z5 → wr P d sw_c215 sw_h215 (183, [r0, r1, r2, vi x3, r4, r5, .index q2, r7, r8, vi x9, vi x10, vi x11], [], h, kc, ks) Q) (e_q2 : r6 = .index q2 := by first | rfl | assumption) (y1 : s_ty r6 = 3 := by first | rfl | assumption) (n6 : s_nth f3 1 = some (vi z5) := by first | rfl | assumption) (c7 : In3 z5 := by first | omega | assumption | (simp only [mk_len, List.length_map]; omega) | decide) (c8 : In3 x9 := by first | omega | assumption | (simp only [mk_len, List.length_map]; omega) | decide) : wr P d sw_c215 sw_h215 (173, [r0, r1, r2, vi x3, r4, r5, r6, r7, r8, vi x9, vi x10, vi x11], [], h, kc, ks) Q := by
  refine w_ld rfl rfl (Or.inr (Or.inr ⟨by decide, y1⟩)) ?_
  subst e_q2
  refine w_getf rfl g4 n6 ?_
  refine w_ld rfl rfl (Or.inl ⟨by decide, rfl⟩) ?_
  exact w_if2 rfl c7 c8 k1 k2

theorem k215_183 {P : s_P} {d : Nat} {Q : s_O → Prop} {h : s_H} {kc ks : Nat} {r0 r1 r2 : Term} {x3 : Int} {r4 r5 r6 r7 r8 : Term} {x9 x10 x11 : Int} {q4 : Nat} {f5 : List Term} (g6 : s_get h q4 = some (1, 6, f5)) (k : wm P d 226 [.index q4, r7, vi (-x11), r8] h (wq P d sw_c215 sw_h215 194 [.index q4, r1, r2, vi x3, r4, r5, r6, r7, r8, vi x9, vi x10, vi x11] [] kc ks Q)) (e_q4 : r0 = .index q4 := by first | rfl | assumption) (y1 : s_ty r0 = 3 := by first | rfl | assumption) (y2 : s_ty r7 = 3 := by first | rfl | assumption) (y3 : s_ty r8 = 3 := by first | rfl | assumption)  : wr P d sw_c215 sw_h215 (183, [r0, r1, r2, vi x3, r4, r5, r6, r7, r8, vi x9, vi x10, vi x11], [], h, kc, ks) Q := by
  refine w_ld rfl rfl (Or.inr (Or.inr ⟨by decide, y1⟩)) ?_
  refine w_ld rfl rfl (Or.inr (Or.inr ⟨by decide, y2⟩)) ?_
  refine w_ld rfl rfl (Or.inl ⟨by decide, rfl⟩) ?_
  refine w_ineg rfl ?_
  refine w_ld rfl rfl (Or.inr (Or.inr ⟨by decide, y3⟩)) ?_
  subst e_q4
  exact w_cv rfl [.index q4, r7, vi (-x11), r8] [] rfl rfl (s_wt_4 rfl) rfl g6 k

theorem k215_194 {P : s_P} {d : Nat} {Q : s_O → Prop} {h : s_H} {kc ks : Nat} {r0 r1 r2 : Term} {x3 : Int} {r4 r5 r6 r7 r8 : Term} {x9 x10 x11 : Int} {q2 : Nat} {f3 : List Term} {v5 : Term} {q9 : Nat} {f10 : List Term} (g4 : s_get h q2 = some (1, 6, f3)) (g11 : s_get h q9 = some (1, 0, f10)) (k : wm P d 111 [.index q9, r6, r8] h (wq P d sw_c215 sw_h215 205 [.index q2, r1, r2, vi x3, r4, r5, r6, r7, r8, vi x9, vi x10, vi x11] [] kc ks Q)) (e_q2 : r0 = .index q2 := by first | rfl | assumption) (e_q9 : v5 = .index q9 := by first | rfl | assumption) (y1 : s_ty r0 = 3 := by first | rfl | assumption) (n6 : s_nth f3 0 = some v5 := by first | rfl | assumption) (y7 : s_ty r6 = 3 := by first | rfl | assumption) (y8 : s_ty r8 = 3 := by first | rfl | assumption)  : wr P d sw_c215 sw_h215 (194, [r0, r1, r2, vi x3, r4, r5, r6, r7, r8, vi x9, vi x10, vi x11], [], h, kc, ks) Q := by
  refine w_ld rfl rfl (Or.inr (Or.inr ⟨by decide, y1⟩)) ?_
  subst e_q2
  refine w_getf rfl g4 n6 ?_
  refine w_ld rfl rfl (Or.inr (Or.inr ⟨by decide, y7⟩)) ?_
  refine w_ld rfl rfl (Or.inr (Or.inr ⟨by decide, y8⟩)) ?_
  subst e_q9
  exact w_cv rfl [.index q9, r6, r8] [] rfl rfl (s_wt_4 rfl) rfl g11 k

theorem k215_205 {P : s_P} {d : Nat} {Q : s_O → Prop} {h : s_H} {kc ks : Nat} {r0 r1 r2 : Term} {x3 : Int} {r4 r5 r6 r7 r8 : Term} {x9 x10 x11 : Int}  (k : wr P d sw_c215 sw_h215 (166, [r0, r1, r2, vi x3, r4, r5, r6, r7, r8, vi x9, vi x10, vi (x11 + 1)], [], h, kc, ks) Q)   : wr P d sw_c215 sw_h215 (205, [r0, r1, r2, vi x3, r4, r5, r6, r7, r8, vi x9, vi x10, vi x11], [], h, kc, ks) Q := by
  refine w_iinc (ls' := [r0, r1, r2, vi x3, r4, r5, r6, r7, r8, vi x9, vi x10, vi (x11 + 1)]) rfl rfl 1 (by decide) rfl ?_
  refine w_goto rfl ?_
  exact k

theorem k215_211 {P : s_P} {d : Nat} {Q : s_O → Prop} {h : s_H} {kc ks : Nat} {r0 r1 r2 : Term} {x3 : Int} {r4 r5 r6 r7 r8 : Term} {x9 x10 x11 : Int}  (k : wr P d sw_c215 sw_h215 (84, [r0, r1, r2, vi x3, r4, r5, r6, r7, r8, vi x9, vi (x10 + 1), vi x11], [], h, kc, ks) Q)   : wr P d sw_c215 sw_h215 (211, [r0, r1, r2, vi x3, r4, r5, r6, r7, r8, vi x9, vi x10, vi x11], [], h, kc, ks) Q := by
  refine w_iinc (ls' := [r0, r1, r2, vi x3, r4, r5, r6, r7, r8, vi x9, vi (x10 + 1), vi x11]) rfl rfl 1 (by decide) rfl ?_
  refine w_goto rfl ?_
  exact k

theorem k215_217 {P : s_P} {d : Nat} {Q : s_O → Prop} {h : s_H} {kc ks : Nat} {r0 r1 r2 : Term} {x3 : Int} {r4 r5 r6 r7 r8 : Term} {x9 x10 : Int} {t11 : Term} {q2 : Nat} {f3 : List Term} (g4 : s_get h q2 = some (1, 4, f3)) (k : wm P d 185 [.index q2, vi (-1)] h (wq P d sw_c215 sw_h215 223 [r0, r1, r2, vi x3, r4, .index q2, r6, r7, r8, vi x9, vi x10, t11] [] kc ks Q)) (e_q2 : r5 = .index q2 := by first | rfl | assumption) (y1 : s_ty r5 = 3 := by first | rfl | assumption)  : wr P d sw_c215 sw_h215 (217, [r0, r1, r2, vi x3, r4, r5, r6, r7, r8, vi x9, vi x10, t11], [], h, kc, ks) Q := by
  refine w_ld rfl rfl (Or.inr (Or.inr ⟨by decide, y1⟩)) ?_
  refine w_c32 rfl (by decide) (-1) (by decide) ?_
  subst e_q2
  exact w_cv rfl [.index q2, vi (-1)] [] rfl rfl (s_wt_4 rfl) rfl g4 k

theorem k215_223 {P : s_P} {d : Nat} {Q : s_O → Prop} {h : s_H} {kc ks : Nat} {r0 r1 r2 : Term} {x3 : Int} {r4 r5 r6 r7 r8 : Term} {x9 x10 : Int} {t11 : Term} {q2 : Nat} {f3 : List Term} {q8 : Nat} {f9 : List Term} {z11 : Int} (g4 : s_get h q2 = some (1, 8, f3)) (g10 : s_get (hp h q2 (1, 8, f3.set 7 (vi 9))) q8 = some (1, 4, f9)) (k1 : x9 < z11 → wr P d sw_c215 sw_h215 (282, [r0, r1, .index q2, vi x3, r4, r5, .index q8, r7, r8, vi x9, vi x10, t11], [], (hp h q2 (1, 8, f3.set 7 (vi 9))), kc, ks) Q) (k2 : ¬ x9 < z11 → wr P d sw_c215 sw_h215 (239, [r0, r1, .index q2, vi x3, r4, r5, .index q8, r7, r8, vi x9, vi x10, t11], [], (hp h q2 (1, 8, f3.set 7 (vi 9))), kc, ks) Q) (e_q2 : r2 = .index q2 := by first | rfl | assumption) (e_q8 : r6 = .index q8 := by first | rfl | assumption) (y1 : s_ty r2 = 3 := by first | rfl | assumption) (l5 : 7 < f3.length := by first | exact Nat.le_of_ble_eq_true rfl | omega | assumption) (y7 : s_ty r6 = 3 := by first | rfl | assumption) (n12 : s_nth f9 1 = some (vi z11) := by first | rfl | assumption) (c6 : 0 < q2 := by first | omega | assumption | (simp only [mk_len, List.length_map]; omega) | decide) (c13 : In3 z11 := by first | omega | assumption | (simp only [mk_len, List.length_map]; omega) | decide) (c14 : In3 x9 := by first | omega | assumption | (simp only [mk_len, List.length_map]; omega) | decide) : wr P d sw_c215 sw_h215 (223, [r0, r1, r2, vi x3, r4, r5, r6, r7, r8, vi x9, vi x10, t11], [], h, kc, ks) Q := by
  refine w_ld rfl rfl (Or.inr (Or.inr ⟨by decide, y1⟩)) ?_
  refine w_c32 rfl (by decide) 9 (by decide) ?_
  subst e_q2
  refine w_putf rfl g4 (Nat.ble_eq_true_of_le c6) rfl (Nat.ble_eq_true_of_le l5) ?_
  refine w_ld rfl rfl (Or.inr (Or.inr ⟨by decide, y7⟩)) ?_
  subst e_q8
  refine w_getf rfl g10 n12 ?_
  refine w_ld rfl rfl (Or.inl ⟨by decide, rfl⟩) ?_
  exact w_if2 rfl c13 c14 k1 k2

theorem k215_239 {P : s_P} {d : Nat} {Q : s_O → Prop} {h : s_H} {kc ks : Nat} {r0 r1 r2 : Term} {x3 : Int} {r4 r5 r6 r7 r8 : Term} {x9 x10 : Int} {t11 : Term} {q6 : Nat} {f7 : List Term} (g8 : s_get h q6 = some (1, 6, f7)) (k : wm P d 228 [.index q6, r4, r5, r6, r2] h (wq P d sw_c215 sw_h215 250 [.index q6, r1, r2, vi x3, r4, r5, r6, r7, r8, vi x9, vi x10, t11] [] kc ks Q)) (e_q6 : r0 = .index q6 := by first | rfl | assumption) (y1 : s_ty r0 = 3 := by first | rfl | assumption) (y2 : s_ty r4 = 3 := by first | rfl | assumption) (y3 : s_ty r5 = 3 := by first | rfl | assumption) (y4 : s_ty r6 = 3 := by first | rfl | assumption) (y5 : s_ty r2 = 3 := by first | rfl | assumption)  : wr P d sw_c215 sw_h215 (239, [r0, r1, r2, vi x3, r4, r5, r6, r7, r8, vi x9, vi x10, t11], [], h, kc, ks) Q := by
  refine w_ld rfl rfl (Or.inr (Or.inr ⟨by decide, y1⟩)) ?_
  refine w_ld rfl rfl (Or.inr (Or.inr ⟨by decide, y2⟩)) ?_
  refine w_ld rfl rfl (Or.inr (Or.inr ⟨by decide, y3⟩)) ?_
  refine w_ld rfl rfl (Or.inr (Or.inr ⟨by decide, y4⟩)) ?_
  refine w_ld rfl rfl (Or.inr (Or.inr ⟨by decide, y5⟩)) ?_
  subst e_q6
  exact w_cv rfl [.index q6, r4, r5, r6, r2] [] rfl rfl (s_wt_4 rfl) rfl g8 k

theorem k215_250 {P : s_P} {d : Nat} {Q : s_O → Prop} {h : s_H} {kc ks : Nat} {r0 r1 r2 : Term} {x3 : Int} {r4 r5 r6 r7 r8 : Term} {x9 x10 : Int} {t11 s0 : Term} {q1 : Nat} {f2 : List Term} {z4 : Int} (g3 : s_get h q1 = some (1, 8, f2)) (k1 : z4 ≠ 0 → wr P d sw_c215 sw_h215 (282, [r0, r1, r2, vi x3, r4, r5, r6, r7, r8, vi x9, vi x10, t11], [], h, kc, ks) Q) (k2 : ¬ z4 ≠ 0 → wr P d sw_c215 sw_h215 (256, [r0, r1, r2, vi x3, r4, r5, r6, r7, r8, vi x9, vi x10, t11], [], h, kc, ks) Q) (e_q1 : s0 = .index q1 := by first | rfl | assumption) (n5 : s_nth f2 7 = some (vi z4) := by first | rfl | assumption) (c6 : In3 z4 := by first | omega | assumption | (simp only [mk_len, List.length_map]; omega) | decide) : wr P d sw_c215 sw_h215 (250, [r0, r1, r2, vi x3, r4, r5, r6, r7, r8, vi x9, vi x10, t11], [s0], h, kc, ks) Q := by
  subst e_q1
  refine w_getf rfl g3 n5 ?_
  exact w_if1 rfl c6 k1 k2

theorem k215_256 {P : s_P} {d : Nat} {Q : s_O → Prop} {h : s_H} {kc ks : Nat} {r0 r1 r2 : Term} {x3 : Int} {r4 r5 r6 r7 r8 : Term} {x9 x10 : Int} {t11 : Term} {q2 : Nat} {f3 : List Term} {v5 : Term} {q9 : Nat} {f10 : List Term} {v12 : Term} {q14 : Nat} {f15 : List Term} (g4 : s_get h q2 = some (1, 6, f3)) (g11 : s_get h q9 = some (1, 8, f10)) (g16 : s_get h q14 = some (1, 0, f15)) (k : wm P d 111 [.index q14, r5, v12] h (wq P d sw_c215 sw_h215 269 [.index q2, r1, .index q9, vi x3, r4, r5, r6, r7, r8, vi x9, vi x10, t11] [] kc ks Q)) (e_q2 : r0 = .index q2 := by first | rfl | assumption) (e_q9 : r2 = .index q9 := by first | rfl | assumption) (e_q14 : v5 = .index q14 := by first | rfl | assumption) (y1 : s_ty r0 = 3 := by first | rfl | assumption) (n6 : s_nth f3 0 = some v5 := by first | rfl | assumption) (y7 : s_ty r5 = 3 := by first | rfl | assumption) (y8 : s_ty r2 = 3 := by first | rfl | assumption) (n13 : s_nth f10 1 = some v12 := by first | rfl | assumption)  : wr P d sw_c215 sw_h215 (256, [r0, r1, r2, vi x3, r4, r5, r6, r7, r8, vi x9, vi x10, t11], [], h, kc, ks) Q := by
  refine w_ld rfl rfl (Or.inr (Or.inr ⟨by decide, y1⟩)) ?_
  subst e_q2
  refine w_getf rfl g4 n6 ?_
  refine w_ld rfl rfl (Or.inr (Or.inr ⟨by decide, y7⟩)) ?_
  refine w_ld rfl rfl (Or.inr (Or.inr ⟨by decide, y8⟩)) ?_
  subst e_q9
  refine w_getf rfl g11 n13 ?_
  subst e_q14
  exact w_cv rfl [.index q14, r5, v12] [] rfl rfl (s_wt_4 rfl) rfl g16 k

theorem k215_269 {P : s_P} {d : Nat} {Q : s_O → Prop} {h : s_H} {kc ks : Nat} {r0 r1 r2 : Term} {x3 : Int} {r4 r5 r6 r7 r8 : Term} {x9 x10 : Int} {t11 : Term} {q2 : Nat} {f3 : List Term} {v5 : Term} {q10 : Nat} {f11 : List Term} (g4 : s_get h q2 = some (1, 6, f3)) (g12 : s_get h q10 = some (1, 0, f11)) (k : wm P d 121 [.index q10, r5, r6, r2] h (wq P d sw_c215 sw_h215 281 [.index q2, r1, r2, vi x3, r4, r5, r6, r7, r8, vi x9, vi x10, t11] [] kc ks Q)) (e_q2 : r0 = .index q2 := by first | rfl | assumption) (e_q10 : v5 = .index q10 := by first | rfl | assumption) (y1 : s_ty r0 = 3 := by first | rfl | assumption) (n6 : s_nth f3 0 = some v5 := by first | rfl | assumption) (y7 : s_ty r5 = 3 := by first | rfl | assumption) (y8 : s_ty r6 = 3 := by first | rfl | assumption) (y9 : s_ty r2 = 3 := by first | rfl | assumption)  : wr P d sw_c215 sw_h215 (269, [r0, r1, r2, vi x3, r4, r5, r6, r7, r8, vi x9, vi x10, t11], [], h, kc, ks) Q := by
  refine w_ld rfl rfl (Or.inr (Or.inr ⟨by decide, y1⟩)) ?_
  subst e_q2
  refine w_getf rfl g4 n6 ?_
  refine w_ld rfl rfl (Or.inr (Or.inr ⟨by decide, y7⟩)) ?_
  refine w_ld rfl rfl (Or.inr (Or.inr ⟨by decide, y8⟩)) ?_
  refine w_ld rfl rfl (Or.inr (Or.inr ⟨by decide, y9⟩)) ?_
  subst e_q10
  exact w_cv rfl [.index q10, r5, r6, r2] [] rfl rfl (s_wt_4 rfl) rfl g12 k

theorem k215_281 {P : s_P} {d : Nat} {Q : s_O → Prop} {h : s_H} {kc ks : Nat} {r0 r1 r2 : Term} {x3 : Int} {r4 r5 r6 r7 r8 : Term} {x9 x10 : Int} {t11 s0 : Term}  (k : wr P d sw_c215 sw_h215 (282, [r0, r1, r2, vi x3, r4, r5, r6, r7, r8, vi x9, vi x10, t11], [], h, kc, ks) Q) (y1 : s_ty s0 = 3 := by first | rfl | assumption)  : wr P d sw_c215 sw_h215 (281, [r0, r1, r2, vi x3, r4, r5, r6, r7, r8, vi x9, vi x10, t11], [s0], h, kc, ks) Q := by
  refine w_pop rfl (by rw [y1]; rfl) ?_
  exact k

theorem k215_282 {P : s_P} {d : Nat} {Q : s_O → Prop} {h : s_H} {kc ks : Nat} {r0 r1 r2 : Term} {x3 : Int} {r4 r5 r6 r7 r8 : Term} {x9 x10 : Int} {t11 : Term} {q2 : Nat} {f3 : List Term} {v5 : Term} {q7 : Nat} {f8 : List Term} (g4 : s_get h q2 = some (1, 6, f3)) (g9 : s_get h q7 = some (1, 0, f8)) (k : wm P d 113 [.index q7, vi x3] h (wq P d sw_c215 sw_h215 290 [.index q2, r1, r2, vi x3, r4, r5, r6, r7, r8, vi x9, vi x10, t11] [] kc ks Q)) (e_q2 : r0 = .index q2 := by first | rfl | assumption) (e_q7 : v5 = .index q7 := by first | rfl | assumption) (y1 : s_ty r0 = 3 := by first | rfl | assumption) (n6 : s_nth f3 0 = some v5 := by first | rfl | assumption)  : wr P d sw_c215 sw_h215 (282, [r0, r1, r2, vi x3, r4, r5, r6, r7, r8, vi x9, vi x10, t11], [], h, kc, ks) Q := by
  refine w_ld rfl rfl (Or.inr (Or.inr ⟨by decide, y1⟩)) ?_
  subst e_q2
  refine w_getf rfl g4 n6 ?_
  refine w_ld rfl rfl (Or.inl ⟨by decide, rfl⟩) ?_
  subst e_q7
  exact w_cv rfl [.index q7, vi x3] [] rfl rfl (s_wt_4 rfl) rfl g9 k

theorem k215_290 {P : s_P} {d : Nat} {Q : s_O → Prop} {h : s_H} {kc ks : Nat} {r0 r1 r2 : Term} {x3 : Int} {r4 r5 r6 r7 r8 : Term} {x9 x10 : Int} {t11 : Term}  (k : Q (.inl (some r2), h, kc, ks)) (y1 : s_ty r2 = 3 := by first | rfl | assumption)  : wr P d sw_c215 sw_h215 (290, [r0, r1, r2, vi x3, r4, r5, r6, r7, r8, vi x9, vi x10, t11], [], h, kc, ks) Q := by
  refine w_ld rfl rfl (Or.inr (Or.inr ⟨by decide, y1⟩)) ?_
  exact w_aret rfl y1 k

/-! 216: FormulaWorks$Rules.fitTo(LFormulaWorks$Thing;LFormulaWorks$Thing;LFormulaWorks$Thing;)LFormulaWorks$Thing; -/
theorem k216_0 {P : s_P} {d : Nat} {Q : s_O → Prop} {h : s_H} {kc ks : Nat} {r0 r1 r2 r3 t4 t5 t6 t7 t8 t9 t10 : Term} {q2 : Nat} {f3 : List Term} {v5 : Term} {q7 : Nat} {f8 : List Term} (g4 : s_get h q2 = some (1, 6, f3)) (g9 : s_get h q7 = some (1, 0, f8)) (k : wm P d 110 [.index q7] h (wq P d sw_c216 sw_h216 7 [.index q2, r1, r2, r3, t4, t5, t6, t7, t8, t9, t10] [] kc ks Q)) (e_q2 : r0 = .index q2 := by first | rfl | assumption) (e_q7 : v5 = .index q7 := by first | rfl | assumption) (y1 : s_ty r0 = 3 := by first | rfl | assumption) (n6 : s_nth f3 0 = some v5 := by first | rfl | assumption)  : wr P d sw_c216 sw_h216 (0, [r0, r1, r2, r3, t4, t5, t6, t7, t8, t9, t10], [], h, kc, ks) Q := by
  refine w_ld rfl rfl (Or.inr (Or.inr ⟨by decide, y1⟩)) ?_
  subst e_q2
  refine w_getf rfl g4 n6 ?_
  subst e_q7
  exact w_cv rfl [.index q7] [] rfl rfl (s_wt_4 rfl) rfl g9 k

theorem k216_7 {P : s_P} {d : Nat} {Q : s_O → Prop} {h : s_H} {kc ks : Nat} {r0 r1 r2 r3 t4 t5 t6 t7 t8 t9 t10 : Term} {s0 : Int} {q3 : Nat} {f4 : List Term} {v6 : Term} {q8 : Nat} {f9 : List Term} (g5 : s_get h q3 = some (1, 6, f4)) (g10 : s_get h q8 = some (1, 0, f9)) (k : wm P d 109 [.index q8] h (wq P d sw_c216 sw_h216 16 [.index q3, r1, r2, r3, vi s0, t5, t6, t7, t8, t9, t10] [] kc ks Q)) (e_q3 : r0 = .index q3 := by first | rfl | assumption) (e_q8 : v6 = .index q8 := by first | rfl | assumption) (y1 : s_ty r3 = 3 := by first | rfl | assumption) (y2 : s_ty r0 = 3 := by first | rfl | assumption) (n7 : s_nth f4 0 = some v6 := by first | rfl | assumption)  : wr P d sw_c216 sw_h216 (7, [r0, r1, r2, r3, t4, t5, t6, t7, t8, t9, t10], [vi s0], h, kc, ks) Q := by
  refine w_st (ls' := [r0, r1, r2, r3, vi s0, t5, t6, t7, t8, t9, t10]) rfl (Or.inl ⟨by decide, rfl⟩) (s_stK_r (pre := [r0, r1, r2]) y1) ?_
  refine w_ld rfl rfl (Or.inr (Or.inr ⟨by decide, y2⟩)) ?_
  subst e_q3
  refine w_getf rfl g5 n7 ?_
  subst e_q8
  exact w_cv rfl [.index q8] [] rfl rfl (s_wt_4 rfl) rfl g10 k

theorem k216_16 {P : s_P} {d : Nat} {Q : s_O → Prop} {h : s_H} {kc ks : Nat} {r0 r1 r2 r3 : Term} {x4 : Int} {t5 t6 t7 t8 t9 t10 s0 : Term} {q3 : Nat} {f4 : List Term} {v6 : Term} {q8 : Nat} {f9 : List Term} (g5 : s_get h q3 = some (1, 6, f4)) (g10 : s_get h q8 = some (1, 0, f9)) (k : wm P d 109 [.index q8] h (wq P d sw_c216 sw_h216 25 [.index q3, r1, r2, r3, vi x4, s0, t6, t7, t8, t9, t10] [] kc ks Q)) (e_q3 : r0 = .index q3 := by first | rfl | assumption) (e_q8 : v6 = .index q8 := by first | rfl | assumption) (y1 : s_ty s0 = 3 := by first | rfl | assumption) (y2 : s_ty r0 = 3 := by first | rfl | assumption) (n7 : s_nth f4 0 = some v6 := by first | rfl | assumption)  : wr P d sw_c216 sw_h216 (16, [r0, r1, r2, r3, vi x4, t5, t6, t7, t8, t9, t10], [s0], h, kc, ks) Q := by
  refine w_st (ls' := [r0, r1, r2, r3, vi x4, s0, t6, t7, t8, t9, t10]) rfl (Or.inr ⟨by decide, y1⟩) rfl ?_
  refine w_ld rfl rfl (Or.inr (Or.inr ⟨by decide, y2⟩)) ?_
  subst e_q3
  refine w_getf rfl g5 n7 ?_
  subst e_q8
  exact w_cv rfl [.index q8] [] rfl rfl (s_wt_4 rfl) rfl g10 k

theorem k216_25 {P : s_P} {d : Nat} {Q : s_O → Prop} {h : s_H} {kc ks : Nat} {r0 r1 r2 r3 : Term} {x4 : Int} {r5 t6 t7 t8 t9 t10 s0 : Term} {q4 : Nat} {f5 : List Term} {v7 : Term} {q9 : Nat} {f10 : List Term} (g6 : s_get h q4 = some (1, 6, f5)) (g11 : s_get h q9 = some (1, 0, f10)) (k : wm P d 109 [.index q9] h (wq P d sw_c216 sw_h216 34 [.index q4, r1, r2, r3, vi x4, r5, s0, t7, t8, t9, t10] [] kc ks Q)) (e_q4 : r0 = .index q4 := by first | rfl | assumption) (e_q9 : v7 = .index q9 := by first | rfl | assumption) (y1 : s_ty r5 = 3 := by first | rfl | assumption) (y2 : s_ty s0 = 3 := by first | rfl | assumption) (y3 : s_ty r0 = 3 := by first | rfl | assumption) (n8 : s_nth f5 0 = some v7 := by first | rfl | assumption)  : wr P d sw_c216 sw_h216 (25, [r0, r1, r2, r3, vi x4, r5, t6, t7, t8, t9, t10], [s0], h, kc, ks) Q := by
  refine w_st (ls' := [r0, r1, r2, r3, vi x4, r5, s0, t7, t8, t9, t10]) rfl (Or.inr ⟨by decide, y2⟩) (s_stK_r (pre := [r0, r1, r2, r3, vi x4]) y1) ?_
  refine w_ld rfl rfl (Or.inr (Or.inr ⟨by decide, y3⟩)) ?_
  subst e_q4
  refine w_getf rfl g6 n8 ?_
  subst e_q9
  exact w_cv rfl [.index q9] [] rfl rfl (s_wt_4 rfl) rfl g11 k

theorem k216_34 {P : s_P} {d : Nat} {Q : s_O → Prop} {h : s_H} {kc ks : Nat} {r0 r1 r2 r3 : Term} {x4 : Int} {r5 r6 t7 t8 t9 t10 s0 : Term} {q4 : Nat} {f5 : List Term} {v7 : Term} {q9 : Nat} {f10 : List Term} (g6 : s_get h q4 = some (1, 6, f5)) (g11 : s_get h q9 = some (1, 0, f10)) (k : wm P d 109 [.index q9] h (wq P d sw_c216 sw_h216 43 [.index q4, r1, r2, r3, vi x4, r5, r6, s0, t8, t9, t10] [] kc ks Q)) (e_q4 : r0 = .index q4 := by first | rfl | assumption) (e_q9 : v7 = .index q9 := by first | rfl | assumption) (y1 : s_ty r6 = 3 := by first | rfl | assumption) (y2 : s_ty s0 = 3 := by first | rfl | assumption) (y3 : s_ty r0 = 3 := by first | rfl | assumption) (n8 : s_nth f5 0 = some v7 := by first | rfl | assumption)  : wr P d sw_c216 sw_h216 (34, [r0, r1, r2, r3, vi x4, r5, r6, t7, t8, t9, t10], [s0], h, kc, ks) Q := by
  refine w_st (ls' := [r0, r1, r2, r3, vi x4, r5, r6, s0, t8, t9, t10]) rfl (Or.inr ⟨by decide, y2⟩) (s_stK_r (pre := [r0, r1, r2, r3, vi x4, r5]) y1) ?_
  refine w_ld rfl rfl (Or.inr (Or.inr ⟨by decide, y3⟩)) ?_
  subst e_q4
  refine w_getf rfl g6 n8 ?_
  subst e_q9
  exact w_cv rfl [.index q9] [] rfl rfl (s_wt_4 rfl) rfl g11 k

theorem k216_43 {P : s_P} {d : Nat} {Q : s_O → Prop} {h : s_H} {kc ks : Nat} {r0 r1 r2 r3 : Term} {x4 : Int} {r5 r6 r7 t8 t9 t10 s0 : Term} {q4 : Nat} {f5 : List Term} (g6 : s_get h q4 = some (1, 4, f5)) (k : wm P d 180 [.index q4, vi 1] h (wq P d sw_c216 sw_h216 51 [r0, r1, r2, r3, vi x4, r5, .index q4, r7, s0, t9, t10] [] kc ks Q)) (e_q4 : r6 = .index q4 := by first | rfl | assumption) (y1 : s_ty r7 = 3 := by first | rfl | assumption) (y2 : s_ty s0 = 3 := by first | rfl | assumption) (y3 : s_ty r6 = 3 := by first | rfl | assumption)  : wr P d sw_c216 sw_h216 (43, [r0, r1, r2, r3, vi x4, r5, r6, r7, t8, t9, t10], [s0], h, kc, ks) Q := by
  refine w_st (ls' := [r0, r1, r2, r3, vi x4, r5, r6, r7, s0, t9, t10]) rfl (Or.inr ⟨by decide, y2⟩) (s_stK_r (pre := [r0, r1, r2, r3, vi x4, r5, r6]) y1) ?_
  refine w_ld rfl rfl (Or.inr (Or.inr ⟨by decide, y3⟩)) ?_
  refine w_c32 rfl (by decide) 1 (by decide) ?_
  subst e_q4
  exact w_cv rfl [.index q4, vi 1] [] rfl rfl (s_wt_4 rfl) rfl g6 k

theorem k216_51 {P : s_P} {d : Nat} {Q : s_O → Prop} {h : s_H} {kc ks : Nat} {r0 r1 r2 r3 : Term} {x4 : Int} {r5 r6 r7 r8 t9 t10 : Term}  (k : wr P d sw_c216 sw_h216 (54, [r0, r1, r2, r3, vi x4, r5, r6, r7, r8, vi 0, t10], [], h, kc, ks) Q) (y1 : s_ty r8 = 3 := by first | rfl | assumption)  : wr P d sw_c216 sw_h216 (51, [r0, r1, r2, r3, vi x4, r5, r6, r7, r8, t9, t10], [], h, kc, ks) Q := by
  refine w_c32 rfl (by decide) 0 (by decide) ?_
  refine w_st (ls' := [r0, r1, r2, r3, vi x4, r5, r6, r7, r8, vi 0, t10]) rfl (Or.inl ⟨by decide, rfl⟩) (s_stK_r (pre := [r0, r1, r2, r3, vi x4, r5, r6, r7]) y1) ?_
  exact k

theorem k216_54 {P : s_P} {d : Nat} {Q : s_O → Prop} {h : s_H} {kc ks : Nat} {r0 r1 r2 r3 : Term} {x4 : Int} {r5 r6 r7 r8 : Term} {x9 : Int} {t10 : Term} {q2 : Nat} {f3 : List Term} {z5 : Int} (g4 : s_get h q2 = some (1, 8, f3)) (k1 : z5 ≤ x9 → wr P d sw_c216 sw_h216 (178, [r0, .index q2, r2, r3, vi x4, r5, r6, r7, r8, vi x9, t10], [], h, kc, ks) Q) (k2 : ¬ z5 ≤ x9 → wr P d sw_c216 sw_h216 (63, [r0, .index q2, r2, r3, vi x4, r5, r6, r7, r8, vi x9, t10], [], h, kc, ks) Q) (e_q2 : r1 = .index q2 := by first | rfl | assumption) (y1 : s_ty r1 = 3 := by first | rfl | assumption) (n6 : s_nth f3 4 = some (vi z5) := by first | rfl | assumption) (c7 : In3 x9 := by first | omega | assumption | (simp only [mk_len, List.length_map]; omega) | decide) (c8 : In3 z5 := by first | omega | assumption | (simp only [mk_len, List.length_map]; omega) | decide) : wr P d sw_c216 sw_h216 (54, [r0, r1, r2, r3, vi x4, r5, r6, r7, r8, vi x9, t10], [], h, kc, ks) Q := by
  refine w_ld rfl rfl (Or.inl ⟨by decide, rfl⟩) ?_
  refine w_ld rfl rfl (Or.inr (Or.inr ⟨by decide, y1⟩)) ?_
  subst e_q2
  refine w_getf rfl g4 n6 ?_
  exact w_if2 rfl c7 c8 k1 k2

theorem k216_63 {P : s_P} {d : Nat} {Q : s_O → Prop} {h : s_H} {kc ks : Nat} {r0 r1 r2 r3 : Term} {x4 : Int} {r5 r6 r7 r8 : Term} {x9 : Int} {t10 : Term} {q3 : Nat} {f4 : List Term} (g5 : s_get h q3 = some (1, 8, f4)) (k : wm P d 265 [.index q3, vi 0, vi x9] h (wq P d sw_c216 sw_h216 72 [r0, .index q3, r2, r3, vi x4, r5, r6, r7, r8, vi x9, t10] [r7] kc ks Q)) (e_q3 : r1 = .index q3 := by first | rfl | assumption) (y1 : s_ty r7 = 3 := by first | rfl | assumption) (y2 : s_ty r1 = 3 := by first | rfl | assumption)  : wr P d sw_c216 sw_h216 (63, [r0, r1, r2, r3, vi x4, r5, r6, r7, r8, vi x9, t10], [], h, kc, ks) Q := by
  refine w_ld rfl rfl (Or.inr (Or.inr ⟨by decide, y1⟩)) ?_
  refine w_ld rfl rfl (Or.inr (Or.inr ⟨by decide, y2⟩)) ?_
  refine w_c32 rfl (by decide) 0 (by decide) ?_
  refine w_ld rfl rfl (Or.inl ⟨by decide, rfl⟩) ?_
  subst e_q3
  exact w_cv rfl [.index q3, vi 0, vi x9] [r7] rfl rfl (s_wt_4 rfl) rfl g5 k

theorem k216_72 {P : s_P} {d : Nat} {Q : s_O → Prop} {h : s_H} {kc ks : Nat} {r0 r1 r2 r3 : Term} {x4 : Int} {r5 r6 r7 r8 : Term} {x9 : Int} {t10 s0 s1 : Term} {q1 : Nat} {f2 : List Term} (g3 : s_get h q1 = some (1, 4, f2)) (k : wm P d 179 [.index q1, s1] h (wq P d sw_c216 sw_h216 75 [r0, r1, r2, r3, vi x4, r5, r6, r7, r8, vi x9, t10] [] kc ks Q)) (e_q1 : s0 = .index q1 := by first | rfl | assumption)  : wr P d sw_c216 sw_h216 (72, [r0, r1, r2, r3, vi x4, r5, r6, r7, r8, vi x9, t10], [s1, s0], h, kc, ks) Q := by
  subst e_q1
  exact w_cv rfl [.index q1, s1] [] rfl rfl (s_wt_4 rfl) rfl g3 k

theorem k216_75 {P : s_P} {d : Nat} {Q : s_O → Prop} {h : s_H} {kc ks : Nat} {r0 r1 r2 r3 : Term} {x4 : Int} {r5 r6 r7 r8 : Term} {x9 : Int} {t10 : Term}  (k : wr P d sw_c216 sw_h216 (78, [r0, r1, r2, r3, vi x4, r5, r6, r7, r8, vi x9, vi 0], [], h, kc, ks) Q)   : wr P d sw_c216 sw_h216 (75, [r0, r1, r2, r3, vi x4, r5, r6, r7, r8, vi x9, t10], [], h, kc, ks) Q := by
  refine w_c32 rfl (by decide) 0 (by decide) ?_
  refine w_st (ls' := [r0, r1, r2, r3, vi x4, r5, r6, r7, r8, vi x9, vi 0]) rfl (Or.inl ⟨by decide, rfl⟩) rfl ?_
  exact k

theorem k216_78 {P : s_P} {d : Nat} {Q : s_O → Prop} {h : s_H} {kc ks : Nat} {r0 r1 r2 r3 : Term} {x4 : Int} {r5 r6 r7 r8 : Term} {x9 x10 : Int} {q2 : Nat} {f3 : List Term} {z5 : Int} (g4 : s_get h q2 = some (1, 8, f3)) (k1 : z5 - 1 ≤ x10 → wr P d sw_c216 sw_h216 (132, [r0, .index q2, r2, r3, vi x4, r5, r6, r7, r8, vi x9, vi x10], [], h, kc, ks) Q) (k2 : ¬ z5 - 1 ≤ x10 → wr P d sw_c216 sw_h216 (89, [r0, .index q2, r2, r3, vi x4, r5, r6, r7, r8, vi x9, vi x10], [], h, kc, ks) Q) (e_q2 : r1 = .index q2 := by first | rfl | assumption) (y1 : s_ty r1 = 3 := by first | rfl | assumption) (n6 : s_nth f3 4 = some (vi z5) := by first | rfl | assumption) (c7 : In3 x10 := by first | omega | assumption | (simp only [mk_len, List.length_map]; omega) | decide) (c8 : In3 (z5 - 1) := by first | omega | assumption | (simp only [mk_len, List.length_map]; omega) | decide) : wr P d sw_c216 sw_h216 (78, [r0, r1, r2, r3, vi x4, r5, r6, r7, r8, vi x9, vi x10], [], h, kc, ks) Q := by
  refine w_ld rfl rfl (Or.inl ⟨by decide, rfl⟩) ?_
  refine w_ld rfl rfl (Or.inr (Or.inr ⟨by decide, y1⟩)) ?_
  subst e_q2
  refine w_getf rfl g4 n6 ?_
  refine w_c32 rfl (by decide) 1 (by decide) ?_
  refine w_isub rfl ?_
  exact w_if2 rfl c7 c8 k1 k2

theorem k216_89 {P : s_P} {d : Nat} {Q : s_O → Prop} {h : s_H} {kc ks : Nat} {r0 r1 r2 r3 : Term} {x4 : Int} {r5 r6 r7 r8 : Term} {x9 x10 : Int}  (k1 : x9 ≤ x10 → wr P d sw_c216 sw_h216 (104, [r0, r1, r2, r3, vi x4, r5, r6, r7, r8, vi x9, vi x10], [r0], h, kc, ks) Q) (k2 : ¬ x9 ≤ x10 → wr P d sw_c216 sw_h216 (97, [r0, r1, r2, r3, vi x4, r5, r6, r7, r8, vi x9, vi x10], [r0], h, kc, ks) Q) (y1 : s_ty r0 = 3 := by first | rfl | assumption) (c2 : In3 x10 := by first | omega | assumption | (simp only [mk_len, List.length_map]; omega) | decide) (c3 : In3 x9 := by first | omega | assumption | (simp only [mk_len, List.length_map]; omega) | decide) : wr P d sw_c216 sw_h216 (89, [r0, r1, r2, r3, vi x4, r5, r6, r7, r8, vi x9, vi x10], [], h, kc, ks) Q := by
  refine w_ld rfl rfl (Or.inr (Or.inr ⟨by decide, y1⟩)) ?_
  refine w_ld rfl rfl (Or.inl ⟨by decide, rfl⟩) ?_
  refine w_ld rfl rfl (Or.inl ⟨by decide, rfl⟩) ?_
  exact w_if2 rfl c2 c3 k1 k2

theorem k216_97 {P : s_P} {d : Nat} {Q : s_O → Prop} {h : s_H} {kc ks : Nat} {r0 r1 r2 r3 : Term} {x4 : Int} {r5 r6 r7 r8 : Term} {x9 x10 : Int} {s0 : Term} {q2 : Nat} {f3 : List Term} {v5 : Term} (g4 : s_get h q2 = some (1, 8, f3)) (k : wr P d sw_c216 sw_h216 (108, [r0, r1, .index q2, r3, vi x4, r5, r6, r7, r8, vi x9, vi x10], [v5, s0], h, kc, ks) Q) (e_q2 : r2 = .index q2 := by first | rfl | assumption) (y1 : s_ty r2 = 3 := by first | rfl | assumption) (n6 : s_nth f3 1 = some v5 := by first | rfl | assumption)  : wr P d sw_c216 sw_h216 (97, [r0, r1, r2, r3, vi x4, r5, r6, r7, r8, vi x9, vi x10], [s0], h, kc, ks) Q := by
  refine w_ld rfl rfl (Or.inr (Or.inr ⟨by decide, y1⟩)) ?_
  subst e_q2
  refine w_getf rfl g4 n6 ?_
  refine w_goto rfl ?_
  exact k

theorem k216_104 {P : s_P} {d : Nat} {Q : s_O → Prop} {h : s_H} {kc ks : Nat} {r0 r1 r2 r3 : Term} {x4 : Int} {r5 r6 r7 r8 : Term} {x9 x10 : Int} {s0 : Term} {q2 : Nat} {f3 : List Term} {v5 : Term} (g4 : s_get h q2 = some (1, 8, f3)) (k : wr P d sw_c216 sw_h216 (108, [r0, r1, .index q2, r3, vi x4, r5, r6, r7, r8, vi x9, vi x10], [v5, s0], h, kc, ks) Q) (e_q2 : r2 = .index q2 := by first | rfl | assumption) (y1 : s_ty r2 = 3 := by first | rfl | assumption) (n6 : s_nth f3 2 = some v5 := by first | rfl | assumption)  : wr P d sw_c216 sw_h216 (104, [r0, r1, r2, r3, vi x4, r5, r6, r7, r8, vi x9, vi x10], [s0], h, kc, ks) Q := by
  refine w_ld rfl rfl (Or.inr (Or.inr ⟨by decide, y1⟩)) ?_
  subst e_q2
  refine w_getf rfl g4 n6 ?_
  exact k

theorem k216_108 {P : s_P} {d : Nat} {Q : s_O → Prop} {h : s_H} {kc ks : Nat} {r0 r1 r2 r3 : Term} {x4 : Int} {r5 r6 r7 r8 : Term} {x9 x10 : Int} {s0 s1 : Term} {q2 : Nat} {f3 : List Term} (g4 : s_get h q2 = some (1, 6, f3)) (k : wm P d 226 [.index q2, s1, vi x10, r8] h (wq P d sw_c216 sw_h216 115 [r0, r1, r2, r3, vi x4, r5, r6, r7, r8, vi x9, vi x10] [] kc ks Q)) (e_q2 : s0 = .index q2 := by first | rfl | assumption) (y1 : s_ty r8 = 3 := by first | rfl | assumption)  : wr P d sw_c216 sw_h216 (108, [r0, r1, r2, r3, vi x4, r5, r6, r7, r8, vi x9, vi x10], [s1, s0], h, kc, ks) Q := by
  refine w_ld rfl rfl (Or.inl ⟨by decide, rfl⟩) ?_
  refine w_ld rfl rfl (Or.inr (Or.inr ⟨by decide, y1⟩)) ?_
  subst e_q2
  exact w_cv rfl [.index q2, s1, vi x10, r8] [] rfl rfl (s_wt_4 rfl) rfl g4 k

theorem k216_115 {P : s_P} {d : Nat} {Q : s_O → Prop} {h : s_H} {kc ks : Nat} {r0 r1 r2 r3 : Term} {x4 : Int} {r5 r6 r7 r8 : Term} {x9 x10 : Int} {q2 : Nat} {f3 : List Term} {v5 : Term} {q9 : Nat} {f10 : List Term} (g4 : s_get h q2 = some (1, 6, f3)) (g11 : s_get h q9 = some (1, 0, f10)) (k : wm P d 111 [.index q9, r7, r8] h (wq P d sw_c216 sw_h216 126 [.index q2, r1, r2, r3, vi x4, r5, r6, r7, r8, vi x9, vi x10] [] kc ks Q)) (e_q2 : r0 = .index q2 := by first | rfl | assumption) (e_q9 : v5 = .index q9 := by first | rfl | assumption) (y1 : s_ty r0 = 3 := by first | rfl | assumption) (n6 : s_nth f3 0 = some v5 := by first | rfl | assumption) (y7 : s_ty r7 = 3 := by first | rfl | assumption) (y8 : s_ty r8 = 3 := by first | rfl | assumption)  : wr P d sw_c216 sw_h216 (115, [r0, r1, r2, r3, vi x4, r5, r6, r7, r8, vi x9, vi x10], [], h, kc, ks) Q := by
  refine w_ld rfl rfl (Or.inr (Or.inr ⟨by decide, y1⟩)) ?_
  subst e_q2
  refine w_getf rfl g4 n6 ?_
  refine w_ld rfl rfl (Or.inr (Or.inr ⟨by decide, y7⟩)) ?_
  refine w_ld rfl rfl (Or.inr (Or.inr ⟨by decide, y8⟩)) ?_
  subst e_q9
  exact w_cv rfl [.index q9, r7, r8] [] rfl rfl (s_wt_4 rfl) rfl g11 k

theorem k216_126 {P : s_P} {d : Nat} {Q : s_O → Prop} {h : s_H} {kc ks : Nat} {r0 r1 r2 r3 : Term} {x4 : Int} {r5 r6 r7 r8 : Term} {x9 x10 : Int}  (k : wr P d sw_c216 sw_h216 (78, [r0, r1, r2, r3, vi x4, r5, r6, r7, r8, vi x9, vi (x10 + 1)], [], h, kc, ks) Q)   : wr P d sw_c216 sw_h216 (126, [r0, r1, r2, r3, vi x4, r5, r6, r7, r8, vi x9, vi x10], [], h, kc, ks) Q := by
  refine w_iinc (ls' := [r0, r1, r2, r3, vi x4, r5, r6, r7, r8, vi x9, vi (x10 + 1)]) rfl rfl 1 (by decide) rfl ?_
  refine w_goto rfl ?_
  exact k

theorem k216_132 {P : s_P} {d : Nat} {Q : s_O → Prop} {h : s_H} {kc ks : Nat} {r0 r1 r2 r3 : Term} {x4 : Int} {r5 r6 r7 r8 : Term} {x9 x10 : Int} {q3 : Nat} {f4 : List Term} (g5 : s_get h q3 = some (1, 4, f4)) (k : wm P d 184 [.index q3, .index q3, r7, vi 1] h (wq P d sw_c216 sw_h216 142 [r0, r1, r2, r3, vi x4, .index q3, r6, r7, r8, vi x9, vi x10] [] kc ks Q)) (e_q3 : r5 = .index q3 := by first | rfl | assumption) (y1 : s_ty r5 = 3 := by first | rfl | assumption) (y2 : s_ty r7 = 3 := by first | rfl | assumption)  : wr P d sw_c216 sw_h216 (132, [r0, r1, r2, r3, vi x4, r5, r6, r7, r8, vi x9, vi x10], [], h, kc, ks) Q := by
  refine w_ld rfl rfl (Or.inr (Or.inr ⟨by decide, y1⟩)) ?_
  refine w_ld rfl rfl (Or.inr (Or.inr ⟨by decide, y1⟩)) ?_
  refine w_ld rfl rfl (Or.inr (Or.inr ⟨by decide, y2⟩)) ?_
  refine w_c32 rfl (by decide) 1 (by decide) ?_
  subst e_q3
  exact w_cv rfl [.index q3, .index q3, r7, vi 1] [] rfl rfl (s_wt_4 rfl) rfl g5 k

theorem k216_142 {P : s_P} {d : Nat} {Q : s_O → Prop} {h : s_H} {kc ks : Nat} {r0 r1 r2 r3 : Term} {x4 : Int} {r5 r6 r7 r8 : Term} {x9 x10 : Int}  (k1 : x9 ≤ 0 → wr P d sw_c216 sw_h216 (172, [r0, r1, r2, r3, vi x4, r5, r6, r7, r8, vi x9, vi x10], [], h, kc, ks) Q) (k2 : ¬ x9 ≤ 0 → wr P d sw_c216 sw_h216 (147, [r0, r1, r2, r3, vi x4, r5, r6, r7, r8, vi x9, vi x10], [], h, kc, ks) Q)  (c1 : In3 x9 := by first | omega | assumption | (simp only [mk_len, List.length_map]; omega) | decide) : wr P d sw_c216 sw_h216 (142, [r0, r1, r2, r3, vi x4, r5, r6, r7, r8, vi x9, vi x10], [], h, kc, ks) Q := by
  refine w_ld rfl rfl (Or.inl ⟨by decide, rfl⟩) ?_
  exact w_if1 rfl c1 k1 k2

theorem k216_147 {P : s_P} {d : Nat} {Q : s_O → Prop} {h : s_H} {kc ks : Nat} {r0 r1 r2 r3 : Term} {x4 : Int} {r5 r6 r7 r8 : Term} {x9 x10 : Int} {q3 : Nat} {f4 : List Term} {v6 : Term} {q9 : Nat} {f10 : List Term} (g5 : s_get h q3 = some (1, 8, f4)) (g11 : s_get h q9 = some (1, 6, f10)) (k : wm P d 226 [.index q9, v6, vi (x9 - 1), r8] h (wq P d sw_c216 sw_h216 161 [.index q9, r1, .index q3, r3, vi x4, r5, r6, r7, r8, vi x9, vi x10] [] kc ks Q)) (e_q3 : r2 = .index q3 := by first | rfl | assumption) (e_q9 : r0 = .index q9 := by first | rfl | assumption) (y1 : s_ty r0 = 3 := by first | rfl | assumption) (y2 : s_ty r2 = 3 := by first | rfl | assumption) (n7 : s_nth f4 2 = some v6 := by first | rfl | assumption) (y8 : s_ty r8 = 3 := by first | rfl | assumption)  : wr P d sw_c216 sw_h216 (147, [r0, r1, r2, r3, vi x4, r5, r6, r7, r8, vi x9, vi x10], [], h, kc, ks) Q := by
  refine w_ld rfl rfl (Or.inr (Or.inr ⟨by decide, y1⟩)) ?_
  refine w_ld rfl rfl (Or.inr (Or.inr ⟨by decide, y2⟩)) ?_
  subst e_q3
  refine w_getf rfl g5 n7 ?_
  refine w_ld rfl rfl (Or.inl ⟨by decide, rfl⟩) ?_
  refine w_c32 rfl (by decide) 1 (by decide) ?_
  refine w_isub rfl ?_
  refine w_ld rfl rfl (Or.inr (Or.inr ⟨by decide, y8⟩)) ?_
  subst e_q9
  exact w_cv rfl [.index q9, v6, vi (x9 - 1), r8] [] rfl rfl (s_wt_4 rfl) rfl g11 k

theorem k216_161 {P : s_P} {d : Nat} {Q : s_O → Prop} {h : s_H} {kc ks : Nat} {r0 r1 r2 r3 : Term} {x4 : Int} {r5 r6 r7 r8 : Term} {x9 x10 : Int} {q2 : Nat} {f3 : List Term} {v5 : Term} {q9 : Nat} {f10 : List Term} (g4 : s_get h q2 = some (1, 6, f3)) (g11 : s_get h q9 = some (1, 0, f10)) (k : wm P d 111 [.index q9, r6, r8] h (wq P d sw_c216 sw_h216 172 [.index q2, r1, r2, r3, vi x4, r5, r6, r7, r8, vi x9, vi x10] [] kc ks Q)) (e_q2 : r0 = .index q2 := by first | rfl | assumption) (e_q9 : v5 = .index q9 := by first | rfl | assumption) (y1 : s_ty r0 = 3 := by first | rfl | assumption) (n6 : s_nth f3 0 = some v5 := by first | rfl | assumption) (y7 : s_ty r6 = 3 := by first | rfl | assumption) (y8 : s_ty r8 = 3 := by first | rfl | assumption)  : wr P d sw_c216 sw_h216 (161, [r0, r1, r2, r3, vi x4, r5, r6, r7, r8, vi x9, vi x10], [], h, kc, ks) Q := by
  refine w_ld rfl rfl (Or.inr (Or.inr ⟨by decide, y1⟩)) ?_
  subst e_q2
  refine w_getf rfl g4 n6 ?_
  refine w_ld rfl rfl (Or.inr (Or.inr ⟨by decide, y7⟩)) ?_
  refine w_ld rfl rfl (Or.inr (Or.inr ⟨by decide, y8⟩)) ?_
  subst e_q9
  exact w_cv rfl [.index q9, r6, r8] [] rfl rfl (s_wt_4 rfl) rfl g11 k

theorem k216_172 {P : s_P} {d : Nat} {Q : s_O → Prop} {h : s_H} {kc ks : Nat} {r0 r1 r2 r3 : Term} {x4 : Int} {r5 r6 r7 r8 : Term} {x9 x10 : Int}  (k : wr P d sw_c216 sw_h216 (54, [r0, r1, r2, r3, vi x4, r5, r6, r7, r8, vi (x9 + 1), vi x10], [], h, kc, ks) Q) (y1 : s_ty r8 = 3 := by first | rfl | assumption)  : wr P d sw_c216 sw_h216 (172, [r0, r1, r2, r3, vi x4, r5, r6, r7, r8, vi x9, vi x10], [], h, kc, ks) Q := by
  refine w_iinc (ls' := [r0, r1, r2, r3, vi x4, r5, r6, r7, r8, vi (x9 + 1), vi x10]) rfl rfl 1 (by decide) (s_stK_r (pre := [r0, r1, r2, r3, vi x4, r5, r6, r7]) y1) ?_
  refine w_goto rfl ?_
  exact k

theorem k216_178 {P : s_P} {d : Nat} {Q : s_O → Prop} {h : s_H} {kc ks : Nat} {r0 r1 r2 r3 : Term} {x4 : Int} {r5 r6 r7 r8 : Term} {x9 : Int} {t10 : Term} {q2 : Nat} {f3 : List Term} {v5 : Term} {q10 : Nat} {f11 : List Term} (g4 : s_get h q2 = some (1, 6, f3)) (g12 : s_get h q10 = some (1, 0, f11)) (k : wm P d 121 [.index q10, r5, r6, r3] h (wq P d sw_c216 sw_h216 190 [.index q2, r1, r2, r3, vi x4, r5, r6, r7, r8, vi x9, t10] [] kc ks Q)) (e_q2 : r0 = .index q2 := by first | rfl | assumption) (e_q10 : v5 = .index q10 := by first | rfl | assumption) (y1 : s_ty r0 = 3 := by first | rfl | assumption) (n6 : s_nth f3 0 = some v5 := by first | rfl | assumption) (y7 : s_ty r5 = 3 := by first | rfl | assumption) (y8 : s_ty r6 = 3 := by first | rfl | assumption) (y9 : s_ty r3 = 3 := by first | rfl | assumption)  : wr P d sw_c216 sw_h216 (178, [r0, r1, r2, r3, vi x4, r5, r6, r7, r8, vi x9, t10], [], h, kc, ks) Q := by
  refine w_ld rfl rfl (Or.inr (Or.inr ⟨by decide, y1⟩)) ?_
  subst e_q2
  refine w_getf rfl g4 n6 ?_
  refine w_ld rfl rfl (Or.inr (Or.inr ⟨by decide, y7⟩)) ?_
  refine w_ld rfl rfl (Or.inr (Or.inr ⟨by decide, y8⟩)) ?_
  refine w_ld rfl rfl (Or.inr (Or.inr ⟨by decide, y9⟩)) ?_
  subst e_q10
  exact w_cv rfl [.index q10, r5, r6, r3] [] rfl rfl (s_wt_4 rfl) rfl g12 k

theorem k216_190 {P : s_P} {d : Nat} {Q : s_O → Prop} {h : s_H} {kc ks : Nat} {r0 r1 r2 r3 : Term} {x4 : Int} {r5 r6 r7 r8 : Term} {x9 : Int} {t10 s0 : Term} {q3 : Nat} {f4 : List Term} {v6 : Term} {q8 : Nat} {f9 : List Term} (g5 : s_get h q3 = some (1, 6, f4)) (g10 : s_get h q8 = some (1, 0, f9)) (k : wm P d 113 [.index q8, vi x4] h (wq P d sw_c216 sw_h216 200 [.index q3, r1, r2, r3, vi x4, r5, r6, r7, r8, vi x9, t10] [] kc ks Q)) (e_q3 : r0 = .index q3 := by first | rfl | assumption) (e_q8 : v6 = .index q8 := by first | rfl | assumption) (y1 : s_ty s0 = 3 := by first | rfl | assumption) (y2 : s_ty r0 = 3 := by first | rfl | assumption) (n7 : s_nth f4 0 = some v6 := by first | rfl | assumption)  : wr P d sw_c216 sw_h216 (190, [r0, r1, r2, r3, vi x4, r5, r6, r7, r8, vi x9, t10], [s0], h, kc, ks) Q := by
  refine w_pop rfl (by rw [y1]; rfl) ?_
  refine w_ld rfl rfl (Or.inr (Or.inr ⟨by decide, y2⟩)) ?_
  subst e_q3
  refine w_getf rfl g5 n7 ?_
  refine w_ld rfl rfl (Or.inl ⟨by decide, rfl⟩) ?_
  subst e_q8
  exact w_cv rfl [.index q8, vi x4] [] rfl rfl (s_wt_4 rfl) rfl g10 k

theorem k216_200 {P : s_P} {d : Nat} {Q : s_O → Prop} {h : s_H} {kc ks : Nat} {r0 r1 r2 r3 : Term} {x4 : Int} {r5 r6 r7 r8 : Term} {x9 : Int} {t10 : Term}  (k : Q (.inl (some r3), h, kc, ks)) (y1 : s_ty r3 = 3 := by first | rfl | assumption)  : wr P d sw_c216 sw_h216 (200, [r0, r1, r2, r3, vi x4, r5, r6, r7, r8, vi x9, t10], [], h, kc, ks) Q := by
  refine w_ld rfl rfl (Or.inr (Or.inr ⟨by decide, y1⟩)) ?_
  exact w_aret rfl y1 k

/-! 217: FormulaWorks$Rules.guessFraction([ILFormulaWorks$Thing;)LFormulaWorks$Thing; -/
theorem k217_0 {P : s_P} {d : Nat} {Q : s_O → Prop} {h : s_H} {kc ks : Nat} {r0 r1 r2 t3 t4 t5 t6 t7 : Term} {q2 : Nat} {f3 : List Term} {v5 : Term} {q7 : Nat} {f8 : List Term} (g4 : s_get h q2 = some (1, 6, f3)) (g9 : s_get h q7 = some (1, 1, f8)) (k : wm P d 124 [.index q7, vi 13, vi 13] h (wq P d sw_c217 sw_h217 11 [.index q2, r1, r2, t3, t4, t5, t6, t7] [] kc ks Q)) (e_q2 : r0 = .index q2 := by first | rfl | assumption) (e_q7 : v5 = .index q7 := by first | rfl | assumption) (y1 : s_ty r0 = 3 := by first | rfl | assumption) (n6 : s_nth f3 1 = some v5 := by first | rfl | assumption)  : wr P d sw_c217 sw_h217 (0, [r0, r1, r2, t3, t4, t5, t6, t7], [], h, kc, ks) Q := by
  refine w_ld rfl rfl (Or.inr (Or.inr ⟨by decide, y1⟩)) ?_
  subst e_q2
  refine w_getf rfl g4 n6 ?_
  refine w_c32 rfl (by decide) 13 (by decide) ?_
  refine w_c32 rfl (by decide) 13 (by decide) ?_
  subst e_q7
  exact w_cv rfl [.index q7, vi 13, vi 13] [] rfl rfl (s_wt_4 rfl) rfl g9 k

theorem k217_11 {P : s_P} {d : Nat} {Q : s_O → Prop} {h : s_H} {kc ks : Nat} {r0 r1 r2 t3 t4 t5 t6 t7 : Term}  (k : wr P d sw_c217 sw_h217 (14, [r0, r1, r2, vi 12, t4, t5, t6, t7], [], h, kc, ks) Q) (y1 : s_ty r2 = 3 := by first | rfl | assumption)  : wr P d sw_c217 sw_h217 (11, [r0, r1, r2, t3, t4, t5, t6, t7], [], h, kc, ks) Q := by
  refine w_c32 rfl (by decide) 12 (by decide) ?_
  refine w_st (ls' := [r0, r1, r2, vi 12, t4, t5, t6, t7]) rfl (Or.inl ⟨by decide, rfl⟩) (s_stK_r (pre := [r0, r1]) y1) ?_
  exact k

theorem k217_14 {P : s_P} {d : Nat} {Q : s_O → Prop} {h : s_H} {kc ks : Nat} {r0 r1 r2 : Term} {x3 : Int} {t4 t5 t6 t7 : Term}  (k1 : 25 ≤ x3 → wr P d sw_c217 sw_h217 (61, [r0, r1, r2, vi x3, t4, t5, t6, t7], [], h, kc, ks) Q) (k2 : ¬ 25 ≤ x3 → wr P d sw_c217 sw_h217 (20, [r0, r1, r2, vi x3, t4, t5, t6, t7], [], h, kc, ks) Q)  (c1 : In3 x3 := by first | omega | assumption | (simp only [mk_len, List.length_map]; omega) | decide) : wr P d sw_c217 sw_h217 (14, [r0, r1, r2, vi x3, t4, t5, t6, t7], [], h, kc, ks) Q := by
  refine w_ld rfl rfl (Or.inl ⟨by decide, rfl⟩) ?_
  refine w_c32 rfl (by decide) 25 (by decide) ?_
  exact w_if2 rfl c1 (by decide) k1 k2

theorem k217_20 {P : s_P} {d : Nat} {Q : s_O → Prop} {h : s_H} {kc ks : Nat} {r0 r1 r2 : Term} {x3 : Int} {t4 t5 t6 t7 : Term}  (k : wr P d sw_c217 sw_h217 (23, [r0, r1, r2, vi x3, vi 0, t5, t6, t7], [], h, kc, ks) Q)   : wr P d sw_c217 sw_h217 (20, [r0, r1, r2, vi x3, t4, t5, t6, t7], [], h, kc, ks) Q := by
  refine w_c32 rfl (by decide) 0 (by decide) ?_
  refine w_st (ls' := [r0, r1, r2, vi x3, vi 0, t5, t6, t7]) rfl (Or.inl ⟨by decide, rfl⟩) rfl ?_
  exact k

theorem k217_23 {P : s_P} {d : Nat} {Q : s_O → Prop} {h : s_H} {kc ks : Nat} {r0 r1 r2 : Term} {x3 x4 : Int} {t5 t6 t7 : Term}  (k1 : 12 < x4 → wr P d sw_c217 sw_h217 (55, [r0, r1, r2, vi x3, vi x4, t5, t6, t7], [], h, kc, ks) Q) (k2 : ¬ 12 < x4 → wr P d sw_c217 sw_h217 (30, [r0, r1, r2, vi x3, vi x4, t5, t6, t7], [], h, kc, ks) Q)  (c1 : In3 x4 := by first | omega | assumption | (simp only [mk_len, List.length_map]; omega) | decide) : wr P d sw_c217 sw_h217 (23, [r0, r1, r2, vi x3, vi x4, t5, t6, t7], [], h, kc, ks) Q := by
  refine w_ld rfl rfl (Or.inl ⟨by decide, rfl⟩) ?_
  refine w_c32 rfl (by decide) 12 (by decide) ?_
  exact w_if2 rfl c1 (by decide) k1 k2

theorem k217_30 {P : s_P} {d : Nat} {Q : s_O → Prop} {h : s_H} {kc ks : Nat} {r0 r1 r2 : Term} {x3 x4 : Int} {t5 t6 t7 : Term} {q2 : Nat} {f3 : List Term} {v5 : Term} {q8 : Nat} {a9 : List Int} {q14 : Nat} {f15 : List Term} (g4 : s_get h q2 = some (1, 6, f3)) (g10 : s_get h q8 = some (0, 0, a9.map vi)) (g16 : s_get h q14 = some (1, 1, f15)) (k : wm P d 130 [.index q14, vi (x3 - 12), vi x4, vi (gi a9 (x3 - x4))] h (wq P d sw_c217 sw_h217 49 [.index q2, .index q8, r2, vi x3, vi x4, t5, t6, t7] [] kc ks Q)) (e_q2 : r0 = .index q2 := by first | rfl | assumption) (e_q8 : r1 = .index q8 := by first | rfl | assumption) (e_q14 : v5 = .index q14 := by first | rfl | assumption) (y1 : s_ty r0 = 3 := by first | rfl | assumption) (n6 : s_nth f3 1 = some v5 := by first | rfl | assumption) (y7 : s_ty r1 = 3 := by first | rfl | assumption) (c11 : x3 - x4 < a9.length := by first | omega | assumption | (simp only [mk_len, List.length_map]; omega) | decide) (c12 : 0 ≤ x3 - x4 := by first | omega | assumption | (simp only [mk_len, List.length_map]; omega) | decide) (c13 : In3 (x3 - x4) := by first | omega | assumption | (simp only [mk_len, List.length_map]; omega) | decide) : wr P d sw_c217 sw_h217 (30, [r0, r1, r2, vi x3, vi x4, t5, t6, t7], [], h, kc, ks) Q := by
  refine w_ld rfl rfl (Or.inr (Or.inr ⟨by decide, y1⟩)) ?_
  subst e_q2
  refine w_getf rfl g4 n6 ?_
  refine w_ld rfl rfl (Or.inl ⟨by decide, rfl⟩) ?_
  refine w_c32 rfl (by decide) 12 (by decide) ?_
  refine w_isub rfl ?_
  refine w_ld rfl rfl (Or.inl ⟨by decide, rfl⟩) ?_
  refine w_ld rfl rfl (Or.inr (Or.inr ⟨by decide, y7⟩)) ?_
  refine w_ld rfl rfl (Or.inl ⟨by decide, rfl⟩) ?_
  refine w_ld rfl rfl (Or.inl ⟨by decide, rfl⟩) ?_
  refine w_isub rfl ?_
  subst e_q8
  refine w_iald rfl g10 (Or.inl rfl) c13 c12 c11 ?_
  subst e_q14
  exact w_cv rfl [.index q14, vi (x3 - 12), vi x4, vi (gi a9 (x3 - x4))] [] rfl rfl (s_wt_4 rfl) rfl g16 k

theorem k217_49 {P : s_P} {d : Nat} {Q : s_O → Prop} {h : s_H} {kc ks : Nat} {r0 r1 r2 : Term} {x3 x4 : Int} {t5 t6 t7 : Term}  (k : wr P d sw_c217 sw_h217 (23, [r0, r1, r2, vi x3, vi (x4 + 1), t5, t6, t7], [], h, kc, ks) Q)   : wr P d sw_c217 sw_h217 (49, [r0, r1, r2, vi x3, vi x4, t5, t6, t7], [], h, kc, ks) Q := by
  refine w_iinc (ls' := [r0, r1, r2, vi x3, vi (x4 + 1), t5, t6, t7]) rfl rfl 1 (by decide) rfl ?_
  refine w_goto rfl ?_
  exact k

theorem k217_55 {P : s_P} {d : Nat} {Q : s_O → Prop} {h : s_H} {kc ks : Nat} {r0 r1 r2 : Term} {x3 x4 : Int} {t5 t6 t7 : Term}  (k : wr P d sw_c217 sw_h217 (14, [r0, r1, r2, vi (x3 + 1), vi x4, t5, t6, t7], [], h, kc, ks) Q) (y1 : s_ty r2 = 3 := by first | rfl | assumption)  : wr P d sw_c217 sw_h217 (55, [r0, r1, r2, vi x3, vi x4, t5, t6, t7], [], h, kc, ks) Q := by
  refine w_iinc (ls' := [r0, r1, r2, vi (x3 + 1), vi x4, t5, t6, t7]) rfl rfl 1 (by decide) (s_stK_r (pre := [r0, r1]) y1) ?_
  refine w_goto rfl ?_
  exact k

theorem k217_61 {P : s_P} {d : Nat} {Q : s_O → Prop} {h : s_H} {kc ks : Nat} {r0 r1 r2 : Term} {x3 : Int} {t4 t5 t6 t7 : Term} {q2 : Nat} {f3 : List Term} {v5 : Term} {q7 : Nat} {f8 : List Term} (g4 : s_get h q2 = some (1, 6, f3)) (g9 : s_get h q7 = some (1, 1, f8)) (k : wm P d 127 [.index q7] h (wq P d sw_c217 sw_h217 68 [.index q2, r1, r2, vi x3, t4, t5, t6, t7] [] kc ks Q)) (e_q2 : r0 = .index q2 := by first | rfl | assumption) (e_q7 : v5 = .index q7 := by first | rfl | assumption) (y1 : s_ty r0 = 3 := by first | rfl | assumption) (n6 : s_nth f3 1 = some v5 := by first | rfl | assumption)  : wr P d sw_c217 sw_h217 (61, [r0, r1, r2, vi x3, t4, t5, t6, t7], [], h, kc, ks) Q := by
  refine w_ld rfl rfl (Or.inr (Or.inr ⟨by decide, y1⟩)) ?_
  subst e_q2
  refine w_getf rfl g4 n6 ?_
  subst e_q7
  exact w_cv rfl [.index q7] [] rfl rfl (s_wt_4 rfl) rfl g9 k

theorem k217_68 {P : s_P} {d : Nat} {Q : s_O → Prop} {h : s_H} {kc ks : Nat} {r0 r1 r2 : Term} {x3 : Int} {t4 t5 t6 t7 : Term} {q2 : Nat} {f3 : List Term} {v5 : Term} {q7 : Nat} {f8 : List Term} (g4 : s_get h q2 = some (1, 6, f3)) (g9 : s_get h q7 = some (1, 1, f8)) (k : wm P d 128 [.index q7] h (wq P d sw_c217 sw_h217 75 [.index q2, r1, r2, vi x3, t4, t5, t6, t7] [] kc ks Q)) (e_q2 : r0 = .index q2 := by first | rfl | assumption) (e_q7 : v5 = .index q7 := by first | rfl | assumption) (y1 : s_ty r0 = 3 := by first | rfl | assumption) (n6 : s_nth f3 1 = some v5 := by first | rfl | assumption)  : wr P d sw_c217 sw_h217 (68, [r0, r1, r2, vi x3, t4, t5, t6, t7], [], h, kc, ks) Q := by
  refine w_ld rfl rfl (Or.inr (Or.inr ⟨by decide, y1⟩)) ?_
  subst e_q2
  refine w_getf rfl g4 n6 ?_
  subst e_q7
  exact w_cv rfl [.index q7] [] rfl rfl (s_wt_4 rfl) rfl g9 k

theorem k217_75 {P : s_P} {d : Nat} {Q : s_O → Prop} {h : s_H} {kc ks : Nat} {r0 r1 r2 : Term} {x3 : Int} {t4 t5 t6 t7 : Term} {s0 : Int} {q2 : Nat} {f3 : List Term} (g4 : s_get h q2 = some (1, 8, f3)) (k1 : s0 ≤ 12 → wr P d sw_c217 sw_h217 (90, [r0, r1, .index q2, vi s0, t4, t5, t6, t7], [], (hp h q2 (1, 8, f3.set 7 (vi 9))), kc, ks) Q) (k2 : ¬ s0 ≤ 12 → wr P d sw_c217 sw_h217 (88, [r0, r1, .index q2, vi s0, t4, t5, t6, t7], [], (hp h q2 (1, 8, f3.set 7 (vi 9))), kc, ks) Q) (e_q2 : r2 = .index q2 := by first | rfl | assumption) (y1 : s_ty r2 = 3 := by first | rfl | assumption) (l5 : 7 < f3.length := by first | exact Nat.le_of_ble_eq_true rfl | omega | assumption) (c6 : 0 < q2 := by first | omega | assumption | (simp only [mk_len, List.length_map]; omega) | decide) (c7 : In3 s0 := by first | omega | assumption | (simp only [mk_len, List.length_map]; omega) | decide) : wr P d sw_c217 sw_h217 (75, [r0, r1, r2, vi x3, t4, t5, t6, t7], [vi s0], h, kc, ks) Q := by
  refine w_st (ls' := [r0, r1, r2, vi s0, t4, t5, t6, t7]) rfl (Or.inl ⟨by decide, rfl⟩) (s_stK_r (pre := [r0, r1]) y1) ?_
  refine w_ld rfl rfl (Or.inr (Or.inr ⟨by decide, y1⟩)) ?_
  refine w_c32 rfl (by decide) 9 (by decide) ?_
  subst e_q2
  refine w_putf rfl g4 (Nat.ble_eq_true_of_le c6) rfl (Nat.ble_eq_true_of_le l5) ?_
  refine w_ld rfl rfl (Or.inl ⟨by decide, rfl⟩) ?_
  refine w_c32 rfl (by decide) 12 (by decide) ?_
  exact w_if2 rfl c7 (by decide) k1 k2

theorem k217_88 {P : s_P} {d : Nat} {Q : s_O → Prop} {h : s_H} {kc ks : Nat} {r0 r1 r2 : Term} {x3 : Int} {t4 t5 t6 t7 : Term}  (k : Q (.inl (some r2), h, kc, ks)) (y1 : s_ty r2 = 3 := by first | rfl | assumption)  : wr P d sw_c217 sw_h217 (88, [r0, r1, r2, vi x3, t4, t5, t6, t7], [], h, kc, ks) Q := by
  refine w_ld rfl rfl (Or.inr (Or.inr ⟨by decide, y1⟩)) ?_
  exact w_aret rfl y1 k

theorem k217_90 {P : s_P} {d : Nat} {Q : s_O → Prop} {h : s_H} {kc ks : Nat} {r0 r1 r2 : Term} {x3 : Int} {t4 t5 t6 t7 : Term} {q2 : Nat} {f3 : List Term} {v5 : Term} {q7 : Nat} {f8 : List Term} (g4 : s_get h q2 = some (1, 6, f3)) (g9 : s_get h q7 = some (1, 0, f8)) (k : wm P d 110 [.index q7] h (wq P d sw_c217 sw_h217 97 [.index q2, r1, r2, vi x3, t4, t5, t6, t7] [] kc ks Q)) (e_q2 : r0 = .index q2 := by first | rfl | assumption) (e_q7 : v5 = .index q7 := by first | rfl | assumption) (y1 : s_ty r0 = 3 := by first | rfl | assumption) (n6 : s_nth f3 0 = some v5 := by first | rfl | assumption)  : wr P d sw_c217 sw_h217 (90, [r0, r1, r2, vi x3, t4, t5, t6, t7], [], h, kc, ks) Q := by
  refine w_ld rfl rfl (Or.inr (Or.inr ⟨by decide, y1⟩)) ?_
  subst e_q2
  refine w_getf rfl g4 n6 ?_
  subst e_q7
  exact w_cv rfl [.index q7] [] rfl rfl (s_wt_4 rfl) rfl g9 k

theorem k217_97 {P : s_P} {d : Nat} {Q : s_O → Prop} {h : s_H} {kc ks : Nat} {r0 r1 r2 : Term} {x3 : Int} {t4 t5 t6 t7 : Term} {s0 : Int} {q2 : Nat} {f3 : List Term} {v5 : Term} {q7 : Nat} {f8 : List Term} (g4 : s_get h q2 = some (1, 6, f3)) (g9 : s_get h q7 = some (1, 0, f8)) (k : wm P d 109 [.index q7] h (wq P d sw_c217 sw_h217 106 [.index q2, r1, r2, vi x3, vi s0, t5, t6, t7] [] kc ks Q)) (e_q2 : r0 = .index q2 := by first | rfl | assumption) (e_q7 : v5 = .index q7 := by first | rfl | assumption) (y1 : s_ty r0 = 3 := by first | rfl | assumption) (n6 : s_nth f3 0 = some v5 := by first | rfl | assumption)  : wr P d sw_c217 sw_h217 (97, [r0, r1, r2, vi x3, t4, t5, t6, t7], [vi s0], h, kc, ks) Q := by
  refine w_st (ls' := [r0, r1, r2, vi x3, vi s0, t5, t6, t7]) rfl (Or.inl ⟨by decide, rfl⟩) rfl ?_
  refine w_ld rfl rfl (Or.inr (Or.inr ⟨by decide, y1⟩)) ?_
  subst e_q2
  refine w_getf rfl g4 n6 ?_
  subst e_q7
  exact w_cv rfl [.index q7] [] rfl rfl (s_wt_4 rfl) rfl g9 k

theorem k217_106 {P : s_P} {d : Nat} {Q : s_O → Prop} {h : s_H} {kc ks : Nat} {r0 r1 r2 : Term} {x3 x4 : Int} {t5 t6 t7 s0 : Term} {q3 : Nat} {f4 : List Term} {v6 : Term} {q8 : Nat} {f9 : List Term} (g5 : s_get h q3 = some (1, 6, f4)) (g10 : s_get h q8 = some (1, 0, f9)) (k : wm P d 109 [.index q8] h (wq P d sw_c217 sw_h217 115 [.index q3, r1, r2, vi x3, vi x4, s0, t6, t7] [] kc ks Q)) (e_q3 : r0 = .index q3 := by first | rfl | assumption) (e_q8 : v6 = .index q8 := by first | rfl | assumption) (y1 : s_ty s0 = 3 := by first | rfl | assumption) (y2 : s_ty r0 = 3 := by first | rfl | assumption) (n7 : s_nth f4 0 = some v6 := by first | rfl | assumption)  : wr P d sw_c217 sw_h217 (106, [r0, r1, r2, vi x3, vi x4, t5, t6, t7], [s0], h, kc, ks) Q := by
  refine w_st (ls' := [r0, r1, r2, vi x3, vi x4, s0, t6, t7]) rfl (Or.inr ⟨by decide, y1⟩) rfl ?_
  refine w_ld rfl rfl (Or.inr (Or.inr ⟨by decide, y2⟩)) ?_
  subst e_q3
  refine w_getf rfl g5 n7 ?_
  subst e_q8
  exact w_cv rfl [.index q8] [] rfl rfl (s_wt_4 rfl) rfl g10 k

theorem k217_115 {P : s_P} {d : Nat} {Q : s_O → Prop} {h : s_H} {kc ks : Nat} {r0 r1 r2 : Term} {x3 x4 : Int} {r5 t6 t7 s0 : Term} {q4 : Nat} {f5 : List Term} {v7 : Term} {q9 : Nat} {f10 : List Term} (g6 : s_get h q4 = some (1, 6, f5)) (g11 : s_get h q9 = some (1, 1, f10)) (k : wm P d 125 [.index q9, vi x3] h (wq P d sw_c217 sw_h217 125 [.index q4, r1, r2, vi x3, vi x4, r5, s0, t7] [] kc ks Q)) (e_q4 : r0 = .index q4 := by first | rfl | assumption) (e_q9 : v7 = .index q9 := by first | rfl | assumption) (y1 : s_ty r5 = 3 := by first | rfl | assumption) (y2 : s_ty s0 = 3 := by first | rfl | assumption) (y3 : s_ty r0 = 3 := by first | rfl | assumption) (n8 : s_nth f5 1 = some v7 := by first | rfl | assumption)  : wr P d sw_c217 sw_h217 (115, [r0, r1, r2, vi x3, vi x4, r5, t6, t7], [s0], h, kc, ks) Q := by
  refine w_st (ls' := [r0, r1, r2, vi x3, vi x4, r5, s0, t7]) rfl (Or.inr ⟨by decide, y2⟩) (s_stK_r (pre := [r0, r1, r2, vi x3, vi x4]) y1) ?_
  refine w_ld rfl rfl (Or.inr (Or.inr ⟨by decide, y3⟩)) ?_
  subst e_q4
  refine w_getf rfl g6 n8 ?_
  refine w_ld rfl rfl (Or.inl ⟨by decide, rfl⟩) ?_
  subst e_q9
  exact w_cv rfl [.index q9, vi x3] [] rfl rfl (s_wt_4 rfl) rfl g11 k

theorem k217_125 {P : s_P} {d : Nat} {Q : s_O → Prop} {h : s_H} {kc ks : Nat} {r0 r1 r2 : Term} {x3 x4 : Int} {r5 r6 t7 : Term} {q3 : Nat} {f4 : List Term} {v6 : Term} {q8 : Nat} {f9 : List Term} {v11 : Term} {q13 : Nat} {f14 : List Term} (g5 : s_get h q3 = some (1, 6, f4)) (g10 : s_get h q8 = some (1, 1, f9)) (g15 : s_get h q13 = some (1, 4, f14)) (k : wm P d 183 [.index q13, v11, vi 0, vi 13] h (wq P d sw_c217 sw_h217 140 [.index q3, r1, r2, vi x3, vi x4, r5, .index q13, t7] [] kc ks Q)) (e_q3 : r0 = .index q3 := by first | rfl | assumption) (e_q8 : v6 = .index q8 := by first | rfl | assumption) (e_q13 : r6 = .index q13 := by first | rfl | assumption) (y1 : s_ty r6 = 3 := by first | rfl | assumption) (y2 : s_ty r0 = 3 := by first | rfl | assumption) (n7 : s_nth f4 1 = some v6 := by first | rfl | assumption) (n12 : s_nth f9 2 = some v11 := by first | rfl | assumption)  : wr P d sw_c217 sw_h217 (125, [r0, r1, r2, vi x3, vi x4, r5, r6, t7], [], h, kc, ks) Q := by
  refine w_ld rfl rfl (Or.inr (Or.inr ⟨by decide, y1⟩)) ?_
  refine w_ld rfl rfl (Or.inr (Or.inr ⟨by decide, y2⟩)) ?_
  subst e_q3
  refine w_getf rfl g5 n7 ?_
  subst e_q8
  refine w_getf rfl g10 n12 ?_
  refine w_c32 rfl (by decide) 0 (by decide) ?_
  refine w_c32 rfl (by decide) 13 (by decide) ?_
  subst e_q13
  exact w_cv rfl [.index q13, v11, vi 0, vi 13] [] rfl rfl (s_wt_4 rfl) rfl g15 k

theorem k217_140 {P : s_P} {d : Nat} {Q : s_O → Prop} {h : s_H} {kc ks : Nat} {r0 r1 r2 : Term} {x3 x4 : Int} {r5 r6 t7 : Term}  (k : wm P d 238 [r6] h (wq P d sw_c217 sw_h217 148 [r0, r1, r2, vi x3, vi x4, r5, r6, t7] [r1, r5] kc ks Q)) (y1 : s_ty r5 = 3 := by first | rfl | assumption) (y2 : s_ty r1 = 3 := by first | rfl | assumption) (y3 : s_ty r6 = 3 := by first | rfl | assumption)  : wr P d sw_c217 sw_h217 (140, [r0, r1, r2, vi x3, vi x4, r5, r6, t7], [], h, kc, ks) Q := by
  refine w_ld rfl rfl (Or.inr (Or.inr ⟨by decide, y1⟩)) ?_
  refine w_ld rfl rfl (Or.inr (Or.inr ⟨by decide, y2⟩)) ?_
  refine w_ld rfl rfl (Or.inr (Or.inr ⟨by decide, y3⟩)) ?_
  exact w_cs rfl [r6] [r1, r5] rfl rfl (s_wt_4 rfl) k

theorem k217_148 {P : s_P} {d : Nat} {Q : s_O → Prop} {h : s_H} {kc ks : Nat} {r0 r1 r2 : Term} {x3 x4 : Int} {r5 r6 t7 s0 s1 s2 : Term}  (k : wm P d 242 [s1, s2] h (wq P d sw_c217 sw_h217 151 [r0, r1, r2, vi x3, vi x4, r5, r6, t7] [s0] kc ks Q))   : wr P d sw_c217 sw_h217 (148, [r0, r1, r2, vi x3, vi x4, r5, r6, t7], [s2, s1, s0], h, kc, ks) Q := by
  exact w_cs rfl [s1, s2] [s0] rfl rfl (s_wt_4 rfl) k

theorem k217_151 {P : s_P} {d : Nat} {Q : s_O → Prop} {h : s_H} {kc ks : Nat} {r0 r1 r2 : Term} {x3 x4 : Int} {r5 r6 t7 s0 s1 : Term} {q1 : Nat} {f2 : List Term} (g3 : s_get h q1 = some (1, 4, f2)) (k : wm P d 183 [.index q1, s1, vi 0, vi 12] h (wq P d sw_c217 sw_h217 157 [r0, r1, r2, vi x3, vi x4, r5, r6, t7] [] kc ks Q)) (e_q1 : s0 = .index q1 := by first | rfl | assumption)  : wr P d sw_c217 sw_h217 (151, [r0, r1, r2, vi x3, vi x4, r5, r6, t7], [s1, s0], h, kc, ks) Q := by
  refine w_c32 rfl (by decide) 0 (by decide) ?_
  refine w_c32 rfl (by decide) 12 (by decide) ?_
  subst e_q1
  exact w_cv rfl [.index q1, s1, vi 0, vi 12] [] rfl rfl (s_wt_4 rfl) rfl g3 k

theorem k217_157 {P : s_P} {d : Nat} {Q : s_O → Prop} {h : s_H} {kc ks : Nat} {r0 r1 r2 : Term} {x3 x4 : Int} {r5 r6 t7 : Term} {q2 : Nat} {f3 : List Term} {v5 : Term} {q10 : Nat} {f11 : List Term} (g4 : s_get h q2 = some (1, 6, f3)) (g12 : s_get h q10 = some (1, 0, f11)) (k : wm P d 121 [.index q10, r5, r6, r2] h (wq P d sw_c217 sw_h217 169 [.index q2, r1, r2, vi x3, vi x4, r5, r6, t7] [] kc ks Q)) (e_q2 : r0 = .index q2 := by first | rfl | assumption) (e_q10 : v5 = .index q10 := by first | rfl | assumption) (y1 : s_ty r0 = 3 := by first | rfl | assumption) (n6 : s_nth f3 0 = some v5 := by first | rfl | assumption) (y7 : s_ty r5 = 3 := by first | rfl | assumption) (y8 : s_ty r6 = 3 := by first | rfl | assumption) (y9 : s_ty r2 = 3 := by first | rfl | assumption)  : wr P d sw_c217 sw_h217 (157, [r0, r1, r2, vi x3, vi x4, r5, r6, t7], [], h, kc, ks) Q := by
  refine w_ld rfl rfl (Or.inr (Or.inr ⟨by decide, y1⟩)) ?_
  subst e_q2
  refine w_getf rfl g4 n6 ?_
  refine w_ld rfl rfl (Or.inr (Or.inr ⟨by decide, y7⟩)) ?_
  refine w_ld rfl rfl (Or.inr (Or.inr ⟨by decide, y8⟩)) ?_
  refine w_ld rfl rfl (Or.inr (Or.inr ⟨by decide, y9⟩)) ?_
  subst e_q10
  exact w_cv rfl [.index q10, r5, r6, r2] [] rfl rfl (s_wt_4 rfl) rfl g12 k

theorem k217_169 {P : s_P} {d : Nat} {Q : s_O → Prop} {h : s_H} {kc ks : Nat} {r0 r1 r2 : Term} {x3 x4 : Int} {r5 r6 t7 s0 : Term} {q3 : Nat} {f4 : List Term} {v6 : Term} {q8 : Nat} {f9 : List Term} (g5 : s_get h q3 = some (1, 6, f4)) (g10 : s_get h q8 = some (1, 0, f9)) (k : wm P d 113 [.index q8, vi x4] h (wq P d sw_c217 sw_h217 179 [.index q3, r1, r2, vi x3, vi x4, r5, r6, t7] [] kc ks Q)) (e_q3 : r0 = .index q3 := by first | rfl | assumption) (e_q8 : v6 = .index q8 := by first | rfl | assumption) (y1 : s_ty s0 = 3 := by first | rfl | assumption) (y2 : s_ty r0 = 3 := by first | rfl | assumption) (n7 : s_nth f4 0 = some v6 := by first | rfl | assumption)  : wr P d sw_c217 sw_h217 (169, [r0, r1, r2, vi x3, vi x4, r5, r6, t7], [s0], h, kc, ks) Q := by
  refine w_pop rfl (by rw [y1]; rfl) ?_
  refine w_ld rfl rfl (Or.inr (Or.inr ⟨by decide, y2⟩)) ?_
  subst e_q3
  refine w_getf rfl g5 n7 ?_
  refine w_ld rfl rfl (Or.inl ⟨by decide, rfl⟩) ?_
  subst e_q8
  exact w_cv rfl [.index q8, vi x4] [] rfl rfl (s_wt_4 rfl) rfl g10 k

theorem k217_179 {P : s_P} {d : Nat} {Q : s_O → Prop} {h : s_H} {kc ks : Nat} {r0 r1 r2 : Term} {x3 x4 : Int} {r5 r6 t7 : Term} {q2 : Nat} {f3 : List Term} {v5 : Term} {q7 : Nat} {f8 : List Term} (g4 : s_get h q2 = some (1, 8, f3)) (g9 : s_get h q7 = some (1, 4, f8)) (k : wm P d 167 [.index q7, vi 0] h (wq P d sw_c217 sw_h217 187 [r0, r1, .index q2, vi x3, vi x4, r5, r6, t7] [] kc ks Q)) (e_q2 : r2 = .index q2 := by first | rfl | assumption) (e_q7 : v5 = .index q7 := by first | rfl | assumption) (y1 : s_ty r2 = 3 := by first | rfl | assumption) (n6 : s_nth f3 2 = some v5 := by first | rfl | assumption)  : wr P d sw_c217 sw_h217 (179, [r0, r1, r2, vi x3, vi x4, r5, r6, t7], [], h, kc, ks) Q := by
  refine w_ld rfl rfl (Or.inr (Or.inr ⟨by decide, y1⟩)) ?_
  subst e_q2
  refine w_getf rfl g4 n6 ?_
  refine w_c32 rfl (by decide) 0 (by decide) ?_
  subst e_q7
  exact w_cv rfl [.index q7, vi 0] [] rfl rfl (s_wt_4 rfl) rfl g9 k

theorem k217_187 {P : s_P} {d : Nat} {Q : s_O → Prop} {h : s_H} {kc ks : Nat} {r0 r1 r2 : Term} {x3 x4 : Int} {r5 r6 t7 : Term} {s0 : Int}  (k1 : s0 = 0 → wr P d sw_c217 sw_h217 (205, [r0, r1, r2, vi x3, vi x4, r5, r6, t7], [], h, kc, ks) Q) (k2 : ¬ s0 = 0 → wr P d sw_c217 sw_h217 (190, [r0, r1, r2, vi x3, vi x4, r5, r6, t7], [], h, kc, ks) Q)  (c1 : In3 s0 := by first | omega | assumption | (simp only [mk_len, List.length_map]; omega) | decide) : wr P d sw_c217 sw_h217 (187, [r0, r1, r2, vi x3, vi x4, r5, r6, t7], [vi s0], h, kc, ks) Q := by
  exact w_if1 rfl c1 k1 k2

theorem k217_190 {P : s_P} {d : Nat} {Q : s_O → Prop} {h : s_H} {kc ks : Nat} {r0 r1 r2 : Term} {x3 x4 : Int} {r5 r6 t7 : Term}  (k : wm P d 240 [r2] h (wq P d sw_c217 sw_h217 194 [r0, r1, r2, vi x3, vi x4, r5, r6, t7] [] kc ks Q)) (y1 : s_ty r2 = 3 := by first | rfl | assumption)  : wr P d sw_c217 sw_h217 (190, [r0, r1, r2, vi x3, vi x4, r5, r6, t7], [], h, kc, ks) Q := by
  refine w_ld rfl rfl (Or.inr (Or.inr ⟨by decide, y1⟩)) ?_
  exact w_cs rfl [r2] [] rfl rfl (s_wt_4 rfl) k

theorem k217_194 {P : s_P} {d : Nat} {Q : s_O → Prop} {h : s_H} {kc ks : Nat} {r0 r1 r2 : Term} {x3 x4 : Int} {r5 r6 t7 s0 : Term}  (k : wm P d 231 [s0, r1] h (wq P d sw_c217 sw_h217 198 [r0, r1, r2, vi x3, vi x4, r5, r6, t7] [] kc ks Q)) (y1 : s_ty r1 = 3 := by first | rfl | assumption)  : wr P d sw_c217 sw_h217 (194, [r0, r1, r2, vi x3, vi x4, r5, r6, t7], [s0], h, kc, ks) Q := by
  refine w_ld rfl rfl (Or.inr (Or.inr ⟨by decide, y1⟩)) ?_
  exact w_cs rfl [s0, r1] [] rfl rfl (s_wt_4 rfl) k

theorem k217_198 {P : s_P} {d : Nat} {Q : s_O → Prop} {h : s_H} {kc ks : Nat} {r0 r1 r2 : Term} {x3 x4 : Int} {r5 r6 t7 : Term} {s0 : Int}  (k1 : s0 = 0 → wr P d sw_c217 sw_h217 (205, [r0, r1, r2, vi x3, vi x4, r5, r6, t7], [], h, kc, ks) Q) (k2 : ¬ s0 = 0 → wr P d sw_c217 sw_h217 (201, [r0, r1, r2, vi x3, vi x4, r5, r6, t7], [], h, kc, ks) Q)  (c1 : In3 s0 := by first | omega | assumption | (simp only [mk_len, List.length_map]; omega) | decide) : wr P d sw_c217 sw_h217 (198, [r0, r1, r2, vi x3, vi x4, r5, r6, t7], [vi s0], h, kc, ks) Q := by
  exact w_if1 rfl c1 k1 k2

theorem k217_201 {P : s_P} {d : Nat} {Q : s_O → Prop} {h : s_H} {kc ks : Nat} {r0 r1 r2 : Term} {x3 x4 : Int} {r5 r6 t7 : Term}  (k : wr P d sw_c217 sw_h217 (206, [r0, r1, r2, vi x3, vi x4, r5, r6, t7], [vi 1], h, kc, ks) Q)   : wr P d sw_c217 sw_h217 (201, [r0, r1, r2, vi x3, vi x4, r5, r6, t7], [], h, kc, ks) Q := by
  refine w_c32 rfl (by decide) 1 (by decide) ?_
  refine w_goto rfl ?_
  exact k

theorem k217_205 {P : s_P} {d : Nat} {Q : s_O → Prop} {h : s_H} {kc ks : Nat} {r0 r1 r2 : Term} {x3 x4 : Int} {r5 r6 t7 : Term}  (k : wr P d sw_c217 sw_h217 (206, [r0, r1, r2, vi x3, vi x4, r5, r6, t7], [vi 0], h, kc, ks) Q)   : wr P d sw_c217 sw_h217 (205, [r0, r1, r2, vi x3, vi x4, r5, r6, t7], [], h, kc, ks) Q := by
  refine w_c32 rfl (by decide) 0 (by decide) ?_
  exact k

theorem k217_206 {P : s_P} {d : Nat} {Q : s_O → Prop} {h : s_H} {kc ks : Nat} {r0 r1 r2 : Term} {x3 x4 : Int} {r5 r6 t7 : Term} {s0 : Int}  (k1 : s0 ≠ 0 → wr P d sw_c217 sw_h217 (219, [r0, r1, r2, vi x3, vi x4, r5, r6, vi s0], [], h, kc, ks) Q) (k2 : ¬ s0 ≠ 0 → wr P d sw_c217 sw_h217 (213, [r0, r1, r2, vi x3, vi x4, r5, r6, vi s0], [], h, kc, ks) Q) (y1 : s_ty r6 = 3 := by first | rfl | assumption) (c2 : In3 s0 := by first | omega | assumption | (simp only [mk_len, List.length_map]; omega) | decide) : wr P d sw_c217 sw_h217 (206, [r0, r1, r2, vi x3, vi x4, r5, r6, t7], [vi s0], h, kc, ks) Q := by
  refine w_st (ls' := [r0, r1, r2, vi x3, vi x4, r5, r6, vi s0]) rfl (Or.inl ⟨by decide, rfl⟩) (s_stK_r (pre := [r0, r1, r2, vi x3, vi x4, r5]) y1) ?_
  refine w_ld rfl rfl (Or.inl ⟨by decide, rfl⟩) ?_
  exact w_if1 rfl c2 k1 k2

theorem k217_213 {P : s_P} {d : Nat} {Q : s_O → Prop} {h : s_H} {kc ks : Nat} {r0 r1 r2 : Term} {x3 x4 : Int} {r5 r6 : Term} {x7 : Int} {q2 : Nat} {f3 : List Term} (g4 : s_get h q2 = some (1, 8, f3)) (k : wr P d sw_c217 sw_h217 (219, [r0, r1, .index q2, vi x3, vi x4, r5, r6, vi x7], [], (hp h q2 (1, 8, f3.set 7 (vi 9))), kc, ks) Q) (e_q2 : r2 = .index q2 := by first | rfl | assumption) (y1 : s_ty r2 = 3 := by first | rfl | assumption) (l5 : 7 < f3.length := by first | exact Nat.le_of_ble_eq_true rfl | omega | assumption) (c6 : 0 < q2 := by first | omega | assumption | (simp only [mk_len, List.length_map]; omega) | decide) : wr P d sw_c217 sw_h217 (213, [r0, r1, r2, vi x3, vi x4, r5, r6, vi x7], [], h, kc, ks) Q := by
  refine w_ld rfl rfl (Or.inr (Or.inr ⟨by decide, y1⟩)) ?_
  refine w_c32 rfl (by decide) 9 (by decide) ?_
  subst e_q2
  refine w_putf rfl g4 (Nat.ble_eq_true_of_le c6) rfl (Nat.ble_eq_true_of_le l5) ?_
  exact k

theorem k217_219 {P : s_P} {d : Nat} {Q : s_O → Prop} {h : s_H} {kc ks : Nat} {r0 r1 r2 : Term} {x3 x4 : Int} {r5 r6 : Term} {x7 : Int}  (k : Q (.inl (some r2), h, kc, ks)) (y1 : s_ty r2 = 3 := by first | rfl | assumption)  : wr P d sw_c217 sw_h217 (219, [r0, r1, r2, vi x3, vi x4, r5, r6, vi x7], [], h, kc, ks) Q := by
  refine w_ld rfl rfl (Or.inr (Or.inr ⟨by decide, y1⟩)) ?_
  exact w_aret rfl y1 k

/-! 218: FormulaWorks$Rules.makeBySlopes(LFormulaWorks$Thing;LFormulaWorks$Thing;LFormulaWorks$Thing;)LFormulaWorks$Thing; -/
theorem k218_0 {P : s_P} {d : Nat} {Q : s_O → Prop} {h : s_H} {kc ks : Nat} {r0 r1 r2 r3 t4 t5 t6 t7 t8 t9 : Term} {q2 : Nat} {f3 : List Term} {v5 : Term} {q7 : Nat} {f8 : List Term} (g4 : s_get h q2 = some (1, 6, f3)) (g9 : s_get h q7 = some (1, 0, f8)) (k : wm P d 110 [.index q7] h (wq P d sw_c218 sw_h218 7 [.index q2, r1, r2, r3, t4, t5, t6, t7, t8, t9] [] kc ks Q)) (e_q2 : r0 = .index q2 := by first | rfl | assumption) (e_q7 : v5 = .index q7 := by first | rfl | assumption) (y1 : s_ty r0 = 3 := by first | rfl | assumption) (n6 : s_nth f3 0 = some v5 := by first | rfl | assumption)  : wr P d sw_c218 sw_h218 (0, [r0, r1, r2, r3, t4, t5, t6, t7, t8, t9], [], h, kc, ks) Q := by
  refine w_ld rfl rfl (Or.inr (Or.inr ⟨by decide, y1⟩)) ?_
  subst e_q2
  refine w_getf rfl g4 n6 ?_
  subst e_q7
  exact w_cv rfl [.index q7] [] rfl rfl (s_wt_4 rfl) rfl g9 k

theorem k218_7 {P : s_P} {d : Nat} {Q : s_O → Prop} {h : s_H} {kc ks : Nat} {r0 r1 r2 r3 t4 t5 t6 t7 t8 t9 : Term} {s0 : Int} {q3 : Nat} {f4 : List Term} {v6 : Term} {q8 : Nat} {f9 : List Term} (g5 : s_get h q3 = some (1, 6, f4)) (g10 : s_get h q8 = some (1, 0, f9)) (k : wm P d 109 [.index q8] h (wq P d sw_c218 sw_h218 16 [.index q3, r1, r2, r3, vi s0, t5, t6, t7, t8, t9] [] kc ks Q)) (e_q3 : r0 = .index q3 := by first | rfl | assumption) (e_q8 : v6 = .index q8 := by first | rfl | assumption) (y1 : s_ty r3 = 3 := by first | rfl | assumption) (y2 : s_ty r0 = 3 := by first | rfl | assumption) (n7 : s_nth f4 0 = some v6 := by first | rfl | assumption)  : wr P d sw_c218 sw_h218 (7, [r0, r1, r2, r3, t4, t5, t6, t7, t8, t9], [vi s0], h, kc, ks) Q := by
  refine w_st (ls' := [r0, r1, r2, r3, vi s0, t5, t6, t7, t8, t9]) rfl (Or.inl ⟨by decide, rfl⟩) (s_stK_r (pre := [r0, r1, r2]) y1) ?_
  refine w_ld rfl rfl (Or.inr (Or.inr ⟨by decide, y2⟩)) ?_
  subst e_q3
  refine w_getf rfl g5 n7 ?_
  subst e_q8
  exact w_cv rfl [.index q8] [] rfl rfl (s_wt_4 rfl) rfl g10 k

theorem k218_16 {P : s_P} {d : Nat} {Q : s_O → Prop} {h : s_H} {kc ks : Nat} {r0 r1 r2 r3 : Term} {x4 : Int} {t5 t6 t7 t8 t9 s0 : Term} {q3 : Nat} {f4 : List Term} {v6 : Term} {q8 : Nat} {f9 : List Term} (g5 : s_get h q3 = some (1, 6, f4)) (g10 : s_get h q8 = some (1, 0, f9)) (k : wm P d 109 [.index q8] h (wq P d sw_c218 sw_h218 25 [.index q3, r1, r2, r3, vi x4, s0, t6, t7, t8, t9] [] kc ks Q)) (e_q3 : r0 = .index q3 := by first | rfl | assumption) (e_q8 : v6 = .index q8 := by first | rfl | assumption) (y1 : s_ty s0 = 3 := by first | rfl | assumption) (y2 : s_ty r0 = 3 := by first | rfl | assumption) (n7 : s_nth f4 0 = some v6 := by first | rfl | assumption)  : wr P d sw_c218 sw_h218 (16, [r0, r1, r2, r3, vi x4, t5, t6, t7, t8, t9], [s0], h, kc, ks) Q := by
  refine w_st (ls' := [r0, r1, r2, r3, vi x4, s0, t6, t7, t8, t9]) rfl (Or.inr ⟨by decide, y1⟩) rfl ?_
  refine w_ld rfl rfl (Or.inr (Or.inr ⟨by decide, y2⟩)) ?_
  subst e_q3
  refine w_getf rfl g5 n7 ?_
  subst e_q8
  exact w_cv rfl [.index q8] [] rfl rfl (s_wt_4 rfl) rfl g10 k

theorem k218_25 {P : s_P} {d : Nat} {Q : s_O → Prop} {h : s_H} {kc ks : Nat} {r0 r1 r2 r3 : Term} {x4 : Int} {r5 t6 t7 t8 t9 s0 : Term} {q4 : Nat} {f5 : List Term} {v7 : Term} {q9 : Nat} {f10 : List Term} (g6 : s_get h q4 = some (1, 6, f5)) (g11 : s_get h q9 = some (1, 0, f10)) (k : wm P d 109 [.index q9] h (wq P d sw_c218 sw_h218 34 [.index q4, r1, r2, r3, vi x4, r5, s0, t7, t8, t9] [] kc ks Q)) (e_q4 : r0 = .index q4 := by first | rfl | assumption) (e_q9 : v7 = .index q9 := by first | rfl | assumption) (y1 : s_ty r5 = 3 := by first | rfl | assumption) (y2 : s_ty s0 = 3 := by first | rfl | assumption) (y3 : s_ty r0 = 3 := by first | rfl | assumption) (n8 : s_nth f5 0 = some v7 := by first | rfl | assumption)  : wr P d sw_c218 sw_h218 (25, [r0, r1, r2, r3, vi x4, r5, t6, t7, t8, t9], [s0], h, kc, ks) Q := by
  refine w_st (ls' := [r0, r1, r2, r3, vi x4, r5, s0, t7, t8, t9]) rfl (Or.inr ⟨by decide, y2⟩) (s_stK_r (pre := [r0, r1, r2, r3, vi x4]) y1) ?_
  refine w_ld rfl rfl (Or.inr (Or.inr ⟨by decide, y3⟩)) ?_
  subst e_q4
  refine w_getf rfl g6 n8 ?_
  subst e_q9
  exact w_cv rfl [.index q9] [] rfl rfl (s_wt_4 rfl) rfl g11 k

theorem k218_34 {P : s_P} {d : Nat} {Q : s_O → Prop} {h : s_H} {kc ks : Nat} {r0 r1 r2 r3 : Term} {x4 : Int} {r5 r6 t7 t8 t9 s0 : Term} {q4 : Nat} {f5 : List Term} {v7 : Term} {q9 : Nat} {f10 : List Term} (g6 : s_get h q4 = some (1, 6, f5)) (g11 : s_get h q9 = some (1, 0, f10)) (k : wm P d 109 [.index q9] h (wq P d sw_c218 sw_h218 43 [.index q4, r1, r2, r3, vi x4, r5, r6, s0, t8, t9] [] kc ks Q)) (e_q4 : r0 = .index q4 := by first | rfl | assumption) (e_q9 : v7 = .index q9 := by first | rfl | assumption) (y1 : s_ty r6 = 3 := by first | rfl | assumption) (y2 : s_ty s0 = 3 := by first | rfl | assumption) (y3 : s_ty r0 = 3 := by first | rfl | assumption) (n8 : s_nth f5 0 = some v7 := by first | rfl | assumption)  : wr P d sw_c218 sw_h218 (34, [r0, r1, r2, r3, vi x4, r5, r6, t7, t8, t9], [s0], h, kc, ks) Q := by
  refine w_st (ls' := [r0, r1, r2, r3, vi x4, r5, r6, s0, t8, t9]) rfl (Or.inr ⟨by decide, y2⟩) (s_stK_r (pre := [r0, r1, r2, r3, vi x4, r5]) y1) ?_
  refine w_ld rfl rfl (Or.inr (Or.inr ⟨by decide, y3⟩)) ?_
  subst e_q4
  refine w_getf rfl g6 n8 ?_
  subst e_q9
  exact w_cv rfl [.index q9] [] rfl rfl (s_wt_4 rfl) rfl g11 k

theorem k218_43 {P : s_P} {d : Nat} {Q : s_O → Prop} {h : s_H} {kc ks : Nat} {r0 r1 r2 r3 : Term} {x4 : Int} {r5 r6 r7 t8 t9 s0 : Term} {q4 : Nat} {f5 : List Term} {v7 : Term} {q9 : Nat} {f10 : List Term} (g6 : s_get h q4 = some (1, 8, f5)) (g11 : s_get h q9 = some (1, 4, f10)) (k : wm P d 179 [.index q9, v7] h (wq P d sw_c218 sw_h218 54 [r0, r1, .index q4, r3, vi x4, r5, r6, .index q9, s0, t9] [] kc ks Q)) (e_q4 : r2 = .index q4 := by first | rfl | assumption) (e_q9 : r7 = .index q9 := by first | rfl | assumption) (y1 : s_ty r7 = 3 := by first | rfl | assumption) (y2 : s_ty s0 = 3 := by first | rfl | assumption) (y3 : s_ty r2 = 3 := by first | rfl | assumption) (n8 : s_nth f5 1 = some v7 := by first | rfl | assumption)  : wr P d sw_c218 sw_h218 (43, [r0, r1, r2, r3, vi x4, r5, r6, r7, t8, t9], [s0], h, kc, ks) Q := by
  refine w_st (ls' := [r0, r1, r2, r3, vi x4, r5, r6, r7, s0, t9]) rfl (Or.inr ⟨by decide, y2⟩) (s_stK_r (pre := [r0, r1, r2, r3, vi x4, r5, r6]) y1) ?_
  refine w_ld rfl rfl (Or.inr (Or.inr ⟨by decide, y1⟩)) ?_
  refine w_ld rfl rfl (Or.inr (Or.inr ⟨by decide, y3⟩)) ?_
  subst e_q4
  refine w_getf rfl g6 n8 ?_
  subst e_q9
  exact w_cv rfl [.index q9, v7] [] rfl rfl (s_wt_4 rfl) rfl g11 k

theorem k218_54 {P : s_P} {d : Nat} {Q : s_O → Prop} {h : s_H} {kc ks : Nat} {r0 r1 r2 r3 : Term} {x4 : Int} {r5 r6 r7 r8 t9 : Term} {q3 : Nat} {f4 : List Term} {v6 : Term} {q8 : Nat} {f9 : List Term} (g5 : s_get h q3 = some (1, 8, f4)) (g10 : s_get h q8 = some (1, 4, f9)) (k : wm P d 179 [.index q8, v6] h (wq P d sw_c218 sw_h218 63 [r0, r1, .index q3, r3, vi x4, r5, .index q8, r7, r8, t9] [] kc ks Q)) (e_q3 : r2 = .index q3 := by first | rfl | assumption) (e_q8 : r6 = .index q8 := by first | rfl | assumption) (y1 : s_ty r6 = 3 := by first | rfl | assumption) (y2 : s_ty r2 = 3 := by first | rfl | assumption) (n7 : s_nth f4 2 = some v6 := by first | rfl | assumption)  : wr P d sw_c218 sw_h218 (54, [r0, r1, r2, r3, vi x4, r5, r6, r7, r8, t9], [], h, kc, ks) Q := by
  refine w_ld rfl rfl (Or.inr (Or.inr ⟨by decide, y1⟩)) ?_
  refine w_ld rfl rfl (Or.inr (Or.inr ⟨by decide, y2⟩)) ?_
  subst e_q3
  refine w_getf rfl g5 n7 ?_
  subst e_q8
  exact w_cv rfl [.index q8, v6] [] rfl rfl (s_wt_4 rfl) rfl g10 k

theorem k218_63 {P : s_P} {d : Nat} {Q : s_O → Prop} {h : s_H} {kc ks : Nat} {r0 r1 r2 r3 : Term} {x4 : Int} {r5 r6 r7 r8 t9 : Term}  (k : wr P d sw_c218 sw_h218 (66, [r0, r1, r2, r3, vi x4, r5, r6, r7, r8, vi 0], [], h, kc, ks) Q) (y1 : s_ty r8 = 3 := by first | rfl | assumption)  : wr P d sw_c218 sw_h218 (63, [r0, r1, r2, r3, vi x4, r5, r6, r7, r8, t9], [], h, kc, ks) Q := by
  refine w_c32 rfl (by decide) 0 (by decide) ?_
  refine w_st (ls' := [r0, r1, r2, r3, vi x4, r5, r6, r7, r8, vi 0]) rfl (Or.inl ⟨by decide, rfl⟩) (s_stK_r (pre := [r0, r1, r2, r3, vi x4, r5, r6, r7]) y1) ?_
  exact k

theorem k218_66 {P : s_P} {d : Nat} {Q : s_O → Prop} {h : s_H} {kc ks : Nat} {r0 r1 r2 r3 : Term} {x4 : Int} {r5 r6 r7 r8 : Term} {x9 : Int} {q2 : Nat} {f3 : List Term} {z5 : Int} (g4 : s_get h q2 = some (1, 8, f3)) (k1 : z5 ≤ x9 → wr P d sw_c218 sw_h218 (160, [r0, .index q2, r2, r3, vi x4, r5, r6, r7, r8, vi x9], [], h, kc, ks) Q) (k2 : ¬ z5 ≤ x9 → wr P d sw_c218 sw_h218 (75, [r0, .index q2, r2, r3, vi x4, r5, r6, r7, r8, vi x9], [], h, kc, ks) Q) (e_q2 : r1 = .index q2 := by first | rfl | assumption) (y1 : s_ty r1 = 3 := by first | rfl | assumption) (n6 : s_nth f3 4 = some (vi z5) := by first | rfl | assumption) (c7 : In3 x9 := by first | omega | assumption | (simp only [mk_len, List.length_map]; omega) | decide) (c8 : In3 z5 := by first | omega | assumption | (simp only [mk_len, List.length_map]; omega) | decide) : wr P d sw_c218 sw_h218 (66, [r0, r1, r2, r3, vi x4, r5, r6, r7, r8, vi x9], [], h, kc, ks) Q := by
  refine w_ld rfl rfl (Or.inl ⟨by decide, rfl⟩) ?_
  refine w_ld rfl rfl (Or.inr (Or.inr ⟨by decide, y1⟩)) ?_
  subst e_q2
  refine w_getf rfl g4 n6 ?_
  exact w_if2 rfl c7 c8 k1 k2

theorem k218_75 {P : s_P} {d : Nat} {Q : s_O → Prop} {h : s_H} {kc ks : Nat} {r0 r1 r2 r3 : Term} {x4 : Int} {r5 r6 r7 r8 : Term} {x9 : Int}  (k1 : x9 ≤ 0 → wr P d sw_c218 sw_h218 (130, [r0, r1, r2, r3, vi x4, r5, r6, r7, r8, vi x9], [], h, kc, ks) Q) (k2 : ¬ x9 ≤ 0 → wr P d sw_c218 sw_h218 (80, [r0, r1, r2, r3, vi x4, r5, r6, r7, r8, vi x9], [], h, kc, ks) Q)  (c1 : In3 x9 := by first | omega | assumption | (simp only [mk_len, List.length_map]; omega) | decide) : wr P d sw_c218 sw_h218 (75, [r0, r1, r2, r3, vi x4, r5, r6, r7, r8, vi x9], [], h, kc, ks) Q := by
  refine w_ld rfl rfl (Or.inl ⟨by decide, rfl⟩) ?_
  exact w_if1 rfl c1 k1 k2

theorem k218_80 {P : s_P} {d : Nat} {Q : s_O → Prop} {h : s_H} {kc ks : Nat} {r0 r1 r2 r3 : Term} {x4 : Int} {r5 r6 r7 r8 : Term} {x9 : Int} {q2 : Nat} {f3 : List Term} {v5 : Term} {q9 : Nat} {f10 : List Term} {v12 : Term} {q15 : Nat} {f16 : List Term} (g4 : s_get h q2 = some (1, 6, f3)) (g11 : s_get h q9 = some (1, 8, f10)) (g17 : s_get h q15 = some (1, 0, f16)) (k : wm P d 120 [.index q15, r7, v12, vi x9, r8] h (wq P d sw_c218 sw_h218 97 [.index q2, r1, .index q9, r3, vi x4, r5, r6, r7, r8, vi x9] [] kc ks Q)) (e_q2 : r0 = .index q2 := by first | rfl | assumption) (e_q9 : r2 = .index q9 := by first | rfl | assumption) (e_q15 : v5 = .index q15 := by first | rfl | assumption) (y1 : s_ty r0 = 3 := by first | rfl | assumption) (n6 : s_nth f3 0 = some v5 := by first | rfl | assumption) (y7 : s_ty r7 = 3 := by first | rfl | assumption) (y8 : s_ty r2 = 3 := by first | rfl | assumption) (n13 : s_nth f10 2 = some v12 := by first | rfl | assumption) (y14 : s_ty r8 = 3 := by first | rfl | assumption)  : wr P d sw_c218 sw_h218 (80, [r0, r1, r2, r3, vi x4, r5, r6, r7, r8, vi x9], [], h, kc, ks) Q := by
  refine w_ld rfl rfl (Or.inr (Or.inr ⟨by decide, y1⟩)) ?_
  subst e_q2
  refine w_getf rfl g4 n6 ?_
  refine w_ld rfl rfl (Or.inr (Or.inr ⟨by decide, y7⟩)) ?_
  refine w_ld rfl rfl (Or.inr (Or.inr ⟨by decide, y8⟩)) ?_
  subst e_q9
  refine w_getf rfl g11 n13 ?_
  refine w_ld rfl rfl (Or.inl ⟨by decide, rfl⟩) ?_
  refine w_ld rfl rfl (Or.inr (Or.inr ⟨by decide, y14⟩)) ?_
  subst e_q15
  exact w_cv rfl [.index q15, r7, v12, vi x9, r8] [] rfl rfl (s_wt_4 rfl) rfl g17 k

theorem k218_97 {P : s_P} {d : Nat} {Q : s_O → Prop} {h : s_H} {kc ks : Nat} {r0 r1 r2 r3 : Term} {x4 : Int} {r5 r6 r7 r8 : Term} {x9 : Int} {q3 : Nat} {f4 : List Term} (g5 : s_get h q3 = some (1, 4, f4)) (k : wm P d 179 [.index q3, r8] h (wq P d sw_c218 sw_h218 104 [r0, r1, r2, r3, vi x4, r5, r6, .index q3, r8, vi x9] [] kc ks Q)) (e_q3 : r7 = .index q3 := by first | rfl | assumption) (y1 : s_ty r7 = 3 := by first | rfl | assumption) (y2 : s_ty r8 = 3 := by first | rfl | assumption)  : wr P d sw_c218 sw_h218 (97, [r0, r1, r2, r3, vi x4, r5, r6, r7, r8, vi x9], [], h, kc, ks) Q := by
  refine w_ld rfl rfl (Or.inr (Or.inr ⟨by decide, y1⟩)) ?_
  refine w_ld rfl rfl (Or.inr (Or.inr ⟨by decide, y2⟩)) ?_
  subst e_q3
  exact w_cv rfl [.index q3, r8] [] rfl rfl (s_wt_4 rfl) rfl g5 k

theorem k218_104 {P : s_P} {d : Nat} {Q : s_O → Prop} {h : s_H} {kc ks : Nat} {r0 r1 r2 r3 : Term} {x4 : Int} {r5 r6 r7 r8 : Term} {x9 : Int} {q2 : Nat} {f3 : List Term} {v5 : Term} {q9 : Nat} {f10 : List Term} {v12 : Term} {q14 : Nat} {f15 : List Term} (g4 : s_get h q2 = some (1, 6, f3)) (g11 : s_get h q9 = some (1, 8, f10)) (g16 : s_get h q14 = some (1, 0, f15)) (k : wm P d 111 [.index q14, r5, v12] h (wq P d sw_c218 sw_h218 117 [.index q2, r1, .index q9, r3, vi x4, r5, r6, r7, r8, vi x9] [] kc ks Q)) (e_q2 : r0 = .index q2 := by first | rfl | assumption) (e_q9 : r2 = .index q9 := by first | rfl | assumption) (e_q14 : v5 = .index q14 := by first | rfl | assumption) (y1 : s_ty r0 = 3 := by first | rfl | assumption) (n6 : s_nth f3 0 = some v5 := by first | rfl | assumption) (y7 : s_ty r5 = 3 := by first | rfl | assumption) (y8 : s_ty r2 = 3 := by first | rfl | assumption) (n13 : s_nth f10 2 = some v12 := by first | rfl | assumption)  : wr P d sw_c218 sw_h218 (104, [r0, r1, r2, r3, vi x4, r5, r6, r7, r8, vi x9], [], h, kc, ks) Q := by
  refine w_ld rfl rfl (Or.inr (Or.inr ⟨by decide, y1⟩)) ?_
  subst e_q2
  refine w_getf rfl g4 n6 ?_
  refine w_ld rfl rfl (Or.inr (Or.inr ⟨by decide, y7⟩)) ?_
  refine w_ld rfl rfl (Or.inr (Or.inr ⟨by decide, y8⟩)) ?_
  subst e_q9
  refine w_getf rfl g11 n13 ?_
  subst e_q14
  exact w_cv rfl [.index q14, r5, v12] [] rfl rfl (s_wt_4 rfl) rfl g16 k

theorem k218_117 {P : s_P} {d : Nat} {Q : s_O → Prop} {h : s_H} {kc ks : Nat} {r0 r1 r2 r3 : Term} {x4 : Int} {r5 r6 r7 r8 : Term} {x9 : Int} {q2 : Nat} {f3 : List Term} {v5 : Term} {q9 : Nat} {f10 : List Term} {v12 : Term} {q14 : Nat} {f15 : List Term} (g4 : s_get h q2 = some (1, 6, f3)) (g11 : s_get h q9 = some (1, 8, f10)) (g16 : s_get h q14 = some (1, 0, f15)) (k : wm P d 111 [.index q14, r6, v12] h (wq P d sw_c218 sw_h218 130 [.index q2, r1, .index q9, r3, vi x4, r5, r6, r7, r8, vi x9] [] kc ks Q)) (e_q2 : r0 = .index q2 := by first | rfl | assumption) (e_q9 : r2 = .index q9 := by first | rfl | assumption) (e_q14 : v5 = .index q14 := by first | rfl | assumption) (y1 : s_ty r0 = 3 := by first | rfl | assumption) (n6 : s_nth f3 0 = some v5 := by first | rfl | assumption) (y7 : s_ty r6 = 3 := by first | rfl | assumption) (y8 : s_ty r2 = 3 := by first | rfl | assumption) (n13 : s_nth f10 2 = some v12 := by first | rfl | assumption)  : wr P d sw_c218 sw_h218 (117, [r0, r1, r2, r3, vi x4, r5, r6, r7, r8, vi x9], [], h, kc, ks) Q := by
  refine w_ld rfl rfl (Or.inr (Or.inr ⟨by decide, y1⟩)) ?_
  subst e_q2
  refine w_getf rfl g4 n6 ?_
  refine w_ld rfl rfl (Or.inr (Or.inr ⟨by decide, y7⟩)) ?_
  refine w_ld rfl rfl (Or.inr (Or.inr ⟨by decide, y8⟩)) ?_
  subst e_q9
  refine w_getf rfl g11 n13 ?_
  subst e_q14
  exact w_cv rfl [.index q14, r6, v12] [] rfl rfl (s_wt_4 rfl) rfl g16 k

theorem k218_130 {P : s_P} {d : Nat} {Q : s_O → Prop} {h : s_H} {kc ks : Nat} {r0 r1 r2 r3 : Term} {x4 : Int} {r5 r6 r7 r8 : Term} {x9 : Int} {q3 : Nat} {f4 : List Term} (g5 : s_get h q3 = some (1, 8, f4)) (k : wm P d 265 [.index q3, vi 0, vi x9] h (wq P d sw_c218 sw_h218 139 [r0, .index q3, r2, r3, vi x4, r5, r6, r7, r8, vi x9] [r8] kc ks Q)) (e_q3 : r1 = .index q3 := by first | rfl | assumption) (y1 : s_ty r8 = 3 := by first | rfl | assumption) (y2 : s_ty r1 = 3 := by first | rfl | assumption)  : wr P d sw_c218 sw_h218 (130, [r0, r1, r2, r3, vi x4, r5, r6, r7, r8, vi x9], [], h, kc, ks) Q := by
  refine w_ld rfl rfl (Or.inr (Or.inr ⟨by decide, y1⟩)) ?_
  refine w_ld rfl rfl (Or.inr (Or.inr ⟨by decide, y2⟩)) ?_
  refine w_c32 rfl (by decide) 0 (by decide) ?_
  refine w_ld rfl rfl (Or.inl ⟨by decide, rfl⟩) ?_
  subst e_q3
  exact w_cv rfl [.index q3, vi 0, vi x9] [r8] rfl rfl (s_wt_4 rfl) rfl g5 k

theorem k218_139 {P : s_P} {d : Nat} {Q : s_O → Prop} {h : s_H} {kc ks : Nat} {r0 r1 r2 r3 : Term} {x4 : Int} {r5 r6 r7 r8 : Term} {x9 : Int} {s0 s1 : Term} {q2 : Nat} {f3 : List Term} (g4 : s_get h q2 = some (1, 4, f3)) (k : wm P d 182 [.index q2, s1, r7] h (wq P d sw_c218 sw_h218 144 [r0, r1, r2, r3, vi x4, r5, r6, r7, r8, vi x9] [] kc ks Q)) (e_q2 : s0 = .index q2 := by first | rfl | assumption) (y1 : s_ty r7 = 3 := by first | rfl | assumption)  : wr P d sw_c218 sw_h218 (139, [r0, r1, r2, r3, vi x4, r5, r6, r7, r8, vi x9], [s1, s0], h, kc, ks) Q := by
  refine w_ld rfl rfl (Or.inr (Or.inr ⟨by decide, y1⟩)) ?_
  subst e_q2
  exact w_cv rfl [.index q2, s1, r7] [] rfl rfl (s_wt_4 rfl) rfl g4 k

theorem k218_144 {P : s_P} {d : Nat} {Q : s_O → Prop} {h : s_H} {kc ks : Nat} {r0 r1 r2 r3 : Term} {x4 : Int} {r5 r6 r7 r8 : Term} {x9 : Int} {q3 : Nat} {f4 : List Term} (g5 : s_get h q3 = some (1, 4, f4)) (k : wm P d 184 [.index q3, .index q3, r8, vi 1] h (wq P d sw_c218 sw_h218 154 [r0, r1, r2, r3, vi x4, .index q3, r6, r7, r8, vi x9] [] kc ks Q)) (e_q3 : r5 = .index q3 := by first | rfl | assumption) (y1 : s_ty r5 = 3 := by first | rfl | assumption) (y2 : s_ty r8 = 3 := by first | rfl | assumption)  : wr P d sw_c218 sw_h218 (144, [r0, r1, r2, r3, vi x4, r5, r6, r7, r8, vi x9], [], h, kc, ks) Q := by
  refine w_ld rfl rfl (Or.inr (Or.inr ⟨by decide, y1⟩)) ?_
  refine w_ld rfl rfl (Or.inr (Or.inr ⟨by decide, y1⟩)) ?_
  refine w_ld rfl rfl (Or.inr (Or.inr ⟨by decide, y2⟩)) ?_
  refine w_c32 rfl (by decide) 1 (by decide) ?_
  subst e_q3
  exact w_cv rfl [.index q3, .index q3, r8, vi 1] [] rfl rfl (s_wt_4 rfl) rfl g5 k

theorem k218_154 {P : s_P} {d : Nat} {Q : s_O → Prop} {h : s_H} {kc ks : Nat} {r0 r1 r2 r3 : Term} {x4 : Int} {r5 r6 r7 r8 : Term} {x9 : Int}  (k : wr P d sw_c218 sw_h218 (66, [r0, r1, r2, r3, vi x4, r5, r6, r7, r8, vi (x9 + 1)], [], h, kc, ks) Q) (y1 : s_ty r8 = 3 := by first | rfl | assumption)  : wr P d sw_c218 sw_h218 (154, [r0, r1, r2, r3, vi x4, r5, r6, r7, r8, vi x9], [], h, kc, ks) Q := by
  refine w_iinc (ls' := [r0, r1, r2, r3, vi x4, r5, r6, r7, r8, vi (x9 + 1)]) rfl rfl 1 (by decide) (s_stK_r (pre := [r0, r1, r2, r3, vi x4, r5, r6, r7]) y1) ?_
  refine w_goto rfl ?_
  exact k

theorem k218_160 {P : s_P} {d : Nat} {Q : s_O → Prop} {h : s_H} {kc ks : Nat} {r0 r1 r2 r3 : Term} {x4 : Int} {r5 r6 r7 r8 : Term} {x9 : Int} {q2 : Nat} {f3 : List Term} {v5 : Term} {q10 : Nat} {f11 : List Term} (g4 : s_get h q2 = some (1, 6, f3)) (g12 : s_get h q10 = some (1, 0, f11)) (k : wm P d 121 [.index q10, r5, r6, r3] h (wq P d sw_c218 sw_h218 172 [.index q2, r1, r2, r3, vi x4, r5, r6, r7, r8, vi x9] [] kc ks Q)) (e_q2 : r0 = .index q2 := by first | rfl | assumption) (e_q10 : v5 = .index q10 := by first | rfl | assumption) (y1 : s_ty r0 = 3 := by first | rfl | assumption) (n6 : s_nth f3 0 = some v5 := by first | rfl | assumption) (y7 : s_ty r5 = 3 := by first | rfl | assumption) (y8 : s_ty r6 = 3 := by first | rfl | assumption) (y9 : s_ty r3 = 3 := by first | rfl | assumption)  : wr P d sw_c218 sw_h218 (160, [r0, r1, r2, r3, vi x4, r5, r6, r7, r8, vi x9], [], h, kc, ks) Q := by
  refine w_ld rfl rfl (Or.inr (Or.inr ⟨by decide, y1⟩)) ?_
  subst e_q2
  refine w_getf rfl g4 n6 ?_
  refine w_ld rfl rfl (Or.inr (Or.inr ⟨by decide, y7⟩)) ?_
  refine w_ld rfl rfl (Or.inr (Or.inr ⟨by decide, y8⟩)) ?_
  refine w_ld rfl rfl (Or.inr (Or.inr ⟨by decide, y9⟩)) ?_
  subst e_q10
  exact w_cv rfl [.index q10, r5, r6, r3] [] rfl rfl (s_wt_4 rfl) rfl g12 k

theorem k218_172 {P : s_P} {d : Nat} {Q : s_O → Prop} {h : s_H} {kc ks : Nat} {r0 r1 r2 r3 : Term} {x4 : Int} {r5 r6 r7 r8 : Term} {x9 : Int} {s0 : Term} {q3 : Nat} {f4 : List Term} {v6 : Term} {q8 : Nat} {f9 : List Term} (g5 : s_get h q3 = some (1, 6, f4)) (g10 : s_get h q8 = some (1, 0, f9)) (k : wm P d 113 [.index q8, vi x4] h (wq P d sw_c218 sw_h218 182 [.index q3, r1, r2, r3, vi x4, r5, r6, r7, r8, vi x9] [] kc ks Q)) (e_q3 : r0 = .index q3 := by first | rfl | assumption) (e_q8 : v6 = .index q8 := by first | rfl | assumption) (y1 : s_ty s0 = 3 := by first | rfl | assumption) (y2 : s_ty r0 = 3 := by first | rfl | assumption) (n7 : s_nth f4 0 = some v6 := by first | rfl | assumption)  : wr P d sw_c218 sw_h218 (172, [r0, r1, r2, r3, vi x4, r5, r6, r7, r8, vi x9], [s0], h, kc, ks) Q := by
  refine w_pop rfl (by rw [y1]; rfl) ?_
  refine w_ld rfl rfl (Or.inr (Or.inr ⟨by decide, y2⟩)) ?_
  subst e_q3
  refine w_getf rfl g5 n7 ?_
  refine w_ld rfl rfl (Or.inl ⟨by decide, rfl⟩) ?_
  subst e_q8
  exact w_cv rfl [.index q8, vi x4] [] rfl rfl (s_wt_4 rfl) rfl g10 k

theorem k218_182 {P : s_P} {d : Nat} {Q : s_O → Prop} {h : s_H} {kc ks : Nat} {r0 r1 r2 r3 : Term} {x4 : Int} {r5 r6 r7 r8 : Term} {x9 : Int}  (k : Q (.inl (some r3), h, kc, ks)) (y1 : s_ty r3 = 3 := by first | rfl | assumption)  : wr P d sw_c218 sw_h218 (182, [r0, r1, r2, r3, vi x4, r5, r6, r7, r8, vi x9], [], h, kc, ks) Q := by
  refine w_ld rfl rfl (Or.inr (Or.inr ⟨by decide, y1⟩)) ?_
  exact w_aret rfl y1 k

/-! 219: FormulaWorks$Rules.makeBySteps(LFormulaWorks$Thing;LFormulaWorks$Thing;LFormulaWorks$Thing;)LFormulaWorks$Thing; -/
theorem k219_0 {P : s_P} {d : Nat} {Q : s_O → Prop} {h : s_H} {kc ks : Nat} {r0 r1 r2 r3 t4 t5 t6 t7 t8 t9 t10 : Term} {q2 : Nat} {f3 : List Term} {v5 : Term} {q7 : Nat} {f8 : List Term} (g4 : s_get h q2 = some (1, 6, f3)) (g9 : s_get h q7 = some (1, 0, f8)) (k : wm P d 110 [.index q7] h (wq P d sw_c219 sw_h219 7 [.index q2, r1, r2, r3, t4, t5, t6, t7, t8, t9, t10] [] kc ks Q)) (e_q2 : r0 = .index q2 := by first | rfl | assumption) (e_q7 : v5 = .index q7 := by first | rfl | assumption) (y1 : s_ty r0 = 3 := by first | rfl | assumption) (n6 : s_nth f3 0 = some v5 := by first | rfl | assumption)  : wr P d sw_c219 sw_h219 (0, [r0, r1, r2, r3, t4, t5, t6, t7, t8, t9, t10], [], h, kc, ks) Q := by
  refine w_ld rfl rfl (Or.inr (Or.inr ⟨by decide, y1⟩)) ?_
  subst e_q2
  refine w_getf rfl g4 n6 ?_
  subst e_q7
  exact w_cv rfl [.index q7] [] rfl rfl (s_wt_4 rfl) rfl g9 k

theorem k219_7 {P : s_P} {d : Nat} {Q : s_O → Prop} {h : s_H} {kc ks : Nat} {r0 r1 r2 r3 t4 t5 t6 t7 t8 t9 t10 : Term} {s0 : Int} {q3 : Nat} {f4 : List Term} {v6 : Term} {q8 : Nat} {f9 : List Term} (g5 : s_get h q3 = some (1, 6, f4)) (g10 : s_get h q8 = some (1, 0, f9)) (k : wm P d 109 [.index q8] h (wq P d sw_c219 sw_h219 16 [.index q3, r1, r2, r3, vi s0, t5, t6, t7, t8, t9, t10] [] kc ks Q)) (e_q3 : r0 = .index q3 := by first | rfl | assumption) (e_q8 : v6 = .index q8 := by first | rfl | assumption) (y1 : s_ty r3 = 3 := by first | rfl | assumption) (y2 : s_ty r0 = 3 := by first | rfl | assumption) (n7 : s_nth f4 0 = some v6 := by first | rfl | assumption)  : wr P d sw_c219 sw_h219 (7, [r0, r1, r2, r3, t4, t5, t6, t7, t8, t9, t10], [vi s0], h, kc, ks) Q := by
  refine w_st (ls' := [r0, r1, r2, r3, vi s0, t5, t6, t7, t8, t9, t10]) rfl (Or.inl ⟨by decide, rfl⟩) (s_stK_r (pre := [r0, r1, r2]) y1) ?_
  refine w_ld rfl rfl (Or.inr (Or.inr ⟨by decide, y2⟩)) ?_
  subst e_q3
  refine w_getf rfl g5 n7 ?_
  subst e_q8
  exact w_cv rfl [.index q8] [] rfl rfl (s_wt_4 rfl) rfl g10 k

theorem k219_16 {P : s_P} {d : Nat} {Q : s_O → Prop} {h : s_H} {kc ks : Nat} {r0 r1 r2 r3 : Term} {x4 : Int} {t5 t6 t7 t8 t9 t10 s0 : Term} {q3 : Nat} {f4 : List Term} {v6 : Term} {q8 : Nat} {f9 : List Term} (g5 : s_get h q3 = some (1, 6, f4)) (g10 : s_get h q8 = some (1, 0, f9)) (k : wm P d 109 [.index q8] h (wq P d sw_c219 sw_h219 25 [.index q3, r1, r2, r3, vi x4, s0, t6, t7, t8, t9, t10] [] kc ks Q)) (e_q3 : r0 = .index q3 := by first | rfl | assumption) (e_q8 : v6 = .index q8 := by first | rfl | assumption) (y1 : s_ty s0 = 3 := by first | rfl | assumption) (y2 : s_ty r0 = 3 := by first | rfl | assumption) (n7 : s_nth f4 0 = some v6 := by first | rfl | assumption)  : wr P d sw_c219 sw_h219 (16, [r0, r1, r2, r3, vi x4, t5, t6, t7, t8, t9, t10], [s0], h, kc, ks) Q := by
  refine w_st (ls' := [r0, r1, r2, r3, vi x4, s0, t6, t7, t8, t9, t10]) rfl (Or.inr ⟨by decide, y1⟩) rfl ?_
  refine w_ld rfl rfl (Or.inr (Or.inr ⟨by decide, y2⟩)) ?_
  subst e_q3
  refine w_getf rfl g5 n7 ?_
  subst e_q8
  exact w_cv rfl [.index q8] [] rfl rfl (s_wt_4 rfl) rfl g10 k

theorem k219_25 {P : s_P} {d : Nat} {Q : s_O → Prop} {h : s_H} {kc ks : Nat} {r0 r1 r2 r3 : Term} {x4 : Int} {r5 t6 t7 t8 t9 t10 s0 : Term} {q4 : Nat} {f5 : List Term} {v7 : Term} {q9 : Nat} {f10 : List Term} (g6 : s_get h q4 = some (1, 6, f5)) (g11 : s_get h q9 = some (1, 0, f10)) (k : wm P d 109 [.index q9] h (wq P d sw_c219 sw_h219 34 [.index q4, r1, r2, r3, vi x4, r5, s0, t7, t8, t9, t10] [] kc ks Q)) (e_q4 : r0 = .index q4 := by first | rfl | assumption) (e_q9 : v7 = .index q9 := by first | rfl | assumption) (y1 : s_ty r5 = 3 := by first | rfl | assumption) (y2 : s_ty s0 = 3 := by first | rfl | assumption) (y3 : s_ty r0 = 3 := by first | rfl | assumption) (n8 : s_nth f5 0 = some v7 := by first | rfl | assumption)  : wr P d sw_c219 sw_h219 (25, [r0, r1, r2, r3, vi x4, r5, t6, t7, t8, t9, t10], [s0], h, kc, ks) Q := by
  refine w_st (ls' := [r0, r1, r2, r3, vi x4, r5, s0, t7, t8, t9, t10]) rfl (Or.inr ⟨by decide, y2⟩) (s_stK_r (pre := [r0, r1, r2, r3, vi x4]) y1) ?_
  refine w_ld rfl rfl (Or.inr (Or.inr ⟨by decide, y3⟩)) ?_
  subst e_q4
  refine w_getf rfl g6 n8 ?_
  subst e_q9
  exact w_cv rfl [.index q9] [] rfl rfl (s_wt_4 rfl) rfl g11 k

theorem k219_34 {P : s_P} {d : Nat} {Q : s_O → Prop} {h : s_H} {kc ks : Nat} {r0 r1 r2 r3 : Term} {x4 : Int} {r5 r6 t7 t8 t9 t10 s0 : Term} {q4 : Nat} {f5 : List Term} {v7 : Term} {q9 : Nat} {f10 : List Term} (g6 : s_get h q4 = some (1, 6, f5)) (g11 : s_get h q9 = some (1, 0, f10)) (k : wm P d 109 [.index q9] h (wq P d sw_c219 sw_h219 43 [.index q4, r1, r2, r3, vi x4, r5, r6, s0, t8, t9, t10] [] kc ks Q)) (e_q4 : r0 = .index q4 := by first | rfl | assumption) (e_q9 : v7 = .index q9 := by first | rfl | assumption) (y1 : s_ty r6 = 3 := by first | rfl | assumption) (y2 : s_ty s0 = 3 := by first | rfl | assumption) (y3 : s_ty r0 = 3 := by first | rfl | assumption) (n8 : s_nth f5 0 = some v7 := by first | rfl | assumption)  : wr P d sw_c219 sw_h219 (34, [r0, r1, r2, r3, vi x4, r5, r6, t7, t8, t9, t10], [s0], h, kc, ks) Q := by
  refine w_st (ls' := [r0, r1, r2, r3, vi x4, r5, r6, s0, t8, t9, t10]) rfl (Or.inr ⟨by decide, y2⟩) (s_stK_r (pre := [r0, r1, r2, r3, vi x4, r5]) y1) ?_
  refine w_ld rfl rfl (Or.inr (Or.inr ⟨by decide, y3⟩)) ?_
  subst e_q4
  refine w_getf rfl g6 n8 ?_
  subst e_q9
  exact w_cv rfl [.index q9] [] rfl rfl (s_wt_4 rfl) rfl g11 k

theorem k219_43 {P : s_P} {d : Nat} {Q : s_O → Prop} {h : s_H} {kc ks : Nat} {r0 r1 r2 r3 : Term} {x4 : Int} {r5 r6 r7 t8 t9 t10 s0 : Term} {q4 : Nat} {f5 : List Term} (g6 : s_get h q4 = some (1, 4, f5)) (k : wm P d 180 [.index q4, vi 1] h (wq P d sw_c219 sw_h219 51 [r0, r1, r2, r3, vi x4, r5, .index q4, r7, s0, t9, t10] [] kc ks Q)) (e_q4 : r6 = .index q4 := by first | rfl | assumption) (y1 : s_ty r7 = 3 := by first | rfl | assumption) (y2 : s_ty s0 = 3 := by first | rfl | assumption) (y3 : s_ty r6 = 3 := by first | rfl | assumption)  : wr P d sw_c219 sw_h219 (43, [r0, r1, r2, r3, vi x4, r5, r6, r7, t8, t9, t10], [s0], h, kc, ks) Q := by
  refine w_st (ls' := [r0, r1, r2, r3, vi x4, r5, r6, r7, s0, t9, t10]) rfl (Or.inr ⟨by decide, y2⟩) (s_stK_r (pre := [r0, r1, r2, r3, vi x4, r5, r6]) y1) ?_
  refine w_ld rfl rfl (Or.inr (Or.inr ⟨by decide, y3⟩)) ?_
  refine w_c32 rfl (by decide) 1 (by decide) ?_
  subst e_q4
  exact w_cv rfl [.index q4, vi 1] [] rfl rfl (s_wt_4 rfl) rfl g6 k

theorem k219_51 {P : s_P} {d : Nat} {Q : s_O → Prop} {h : s_H} {kc ks : Nat} {r0 r1 r2 r3 : Term} {x4 : Int} {r5 r6 r7 r8 t9 t10 : Term}  (k : wr P d sw_c219 sw_h219 (54, [r0, r1, r2, r3, vi x4, r5, r6, r7, r8, vi 0, t10], [], h, kc, ks) Q) (y1 : s_ty r8 = 3 := by first | rfl | assumption)  : wr P d sw_c219 sw_h219 (51, [r0, r1, r2, r3, vi x4, r5, r6, r7, r8, t9, t10], [], h, kc, ks) Q := by
  refine w_c32 rfl (by decide) 0 (by decide) ?_
  refine w_st (ls' := [r0, r1, r2, r3, vi x4, r5, r6, r7, r8, vi 0, t10]) rfl (Or.inl ⟨by decide, rfl⟩) (s_stK_r (pre := [r0, r1, r2, r3, vi x4, r5, r6, r7]) y1) ?_
  exact k

theorem k219_54 {P : s_P} {d : Nat} {Q : s_O → Prop} {h : s_H} {kc ks : Nat} {r0 r1 r2 r3 : Term} {x4 : Int} {r5 r6 r7 r8 : Term} {x9 : Int} {t10 : Term} {q2 : Nat} {f3 : List Term} {z5 : Int} (g4 : s_get h q2 = some (1, 8, f3)) (k1 : z5 ≤ x9 → wr P d sw_c219 sw_h219 (169, [r0, .index q2, r2, r3, vi x4, r5, r6, r7, r8, vi x9, t10], [], h, kc, ks) Q) (k2 : ¬ z5 ≤ x9 → wr P d sw_c219 sw_h219 (63, [r0, .index q2, r2, r3, vi x4, r5, r6, r7, r8, vi x9, t10], [], h, kc, ks) Q) (e_q2 : r1 = .index q2 := by first | rfl | assumption) (y1 : s_ty r1 = 3 := by first | rfl | assumption) (n6 : s_nth f3 4 = some (vi z5) := by first | rfl | assumption) (c7 : In3 x9 := by first | omega | assumption | (simp only [mk_len, List.length_map]; omega) | decide) (c8 : In3 z5 := by first | omega | assumption | (simp only [mk_len, List.length_map]; omega) | decide) : wr P d sw_c219 sw_h219 (54, [r0, r1, r2, r3, vi x4, r5, r6, r7, r8, vi x9, t10], [], h, kc, ks) Q := by
  refine w_ld rfl rfl (Or.inl ⟨by decide, rfl⟩) ?_
  refine w_ld rfl rfl (Or.inr (Or.inr ⟨by decide, y1⟩)) ?_
  subst e_q2
  refine w_getf rfl g4 n6 ?_
  exact w_if2 rfl c7 c8 k1 k2

theorem k219_63 {P : s_P} {d : Nat} {Q : s_O → Prop} {h : s_H} {kc ks : Nat} {r0 r1 r2 r3 : Term} {x4 : Int} {r5 r6 r7 r8 : Term} {x9 : Int} {t10 : Term} {q3 : Nat} {f4 : List Term} (g5 : s_get h q3 = some (1, 8, f4)) (k : wm P d 265 [.index q3, vi 0, vi x9] h (wq P d sw_c219 sw_h219 72 [r0, .index q3, r2, r3, vi x4, r5, r6, r7, r8, vi x9, t10] [r7] kc ks Q)) (e_q3 : r1 = .index q3 := by first | rfl | assumption) (y1 : s_ty r7 = 3 := by first | rfl | assumption) (y2 : s_ty r1 = 3 := by first | rfl | assumption)  : wr P d sw_c219 sw_h219 (63, [r0, r1, r2, r3, vi x4, r5, r6, r7, r8, vi x9, t10], [], h, kc, ks) Q := by
  refine w_ld rfl rfl (Or.inr (Or.inr ⟨by decide, y1⟩)) ?_
  refine w_ld rfl rfl (Or.inr (Or.inr ⟨by decide, y2⟩)) ?_
  refine w_c32 rfl (by decide) 0 (by decide) ?_
  refine w_ld rfl rfl (Or.inl ⟨by decide, rfl⟩) ?_
  subst e_q3
  exact w_cv rfl [.index q3, vi 0, vi x9] [r7] rfl rfl (s_wt_4 rfl) rfl g5 k

theorem k219_72 {P : s_P} {d : Nat} {Q : s_O → Prop} {h : s_H} {kc ks : Nat} {r0 r1 r2 r3 : Term} {x4 : Int} {r5 r6 r7 r8 : Term} {x9 : Int} {t10 s0 s1 : Term} {q1 : Nat} {f2 : List Term} (g3 : s_get h q1 = some (1, 4, f2)) (k : wm P d 179 [.index q1, s1] h (wq P d sw_c219 sw_h219 75 [r0, r1, r2, r3, vi x4, r5, r6, r7, r8, vi x9, t10] [] kc ks Q)) (e_q1 : s0 = .index q1 := by first | rfl | assumption)  : wr P d sw_c219 sw_h219 (72, [r0, r1, r2, r3, vi x4, r5, r6, r7, r8, vi x9, t10], [s1, s0], h, kc, ks) Q := by
  subst e_q1
  exact w_cv rfl [.index q1, s1] [] rfl rfl (s_wt_4 rfl) rfl g3 k

theorem k219_75 {P : s_P} {d : Nat} {Q : s_O → Prop} {h : s_H} {kc ks : Nat} {r0 r1 r2 r3 : Term} {x4 : Int} {r5 r6 r7 r8 : Term} {x9 : Int} {t10 : Term}  (k : wr P d sw_c219 sw_h219 (78, [r0, r1, r2, r3, vi x4, r5, r6, r7, r8, vi x9, vi 0], [], h, kc, ks) Q)   : wr P d sw_c219 sw_h219 (75, [r0, r1, r2, r3, vi x4, r5, r6, r7, r8, vi x9, t10], [], h, kc, ks) Q := by
  refine w_c32 rfl (by decide) 0 (by decide) ?_
  refine w_st (ls' := [r0, r1, r2, r3, vi x4, r5, r6, r7, r8, vi x9, vi 0]) rfl (Or.inl ⟨by decide, rfl⟩) rfl ?_
  exact k

theorem k219_78 {P : s_P} {d : Nat} {Q : s_O → Prop} {h : s_H} {kc ks : Nat} {r0 r1 r2 r3 : Term} {x4 : Int} {r5 r6 r7 r8 : Term} {x9 x10 : Int} {q2 : Nat} {f3 : List Term} {z5 : Int} (g4 : s_get h q2 = some (1, 8, f3)) (k1 : z5 ≤ x10 → wr P d sw_c219 sw_h219 (130, [r0, .index q2, r2, r3, vi x4, r5, r6, r7, r8, vi x9, vi x10], [], h, kc, ks) Q) (k2 : ¬ z5 ≤ x10 → wr P d sw_c219 sw_h219 (87, [r0, .index q2, r2, r3, vi x4, r5, r6, r7, r8, vi x9, vi x10], [], h, kc, ks) Q) (e_q2 : r1 = .index q2 := by first | rfl | assumption) (y1 : s_ty r1 = 3 := by first | rfl | assumption) (n6 : s_nth f3 4 = some (vi z5) := by first | rfl | assumption) (c7 : In3 x10 := by first | omega | assumption | (simp only [mk_len, List.length_map]; omega) | decide) (c8 : In3 z5 := by first | omega | assumption | (simp only [mk_len, List.length_map]; omega) | decide) : wr P d sw_c219 sw_h219 (78, [r0, r1, r2, r3, vi x4, r5, r6, r7, r8, vi x9, vi x10], [], h, kc, ks) Q := by
  refine w_ld rfl rfl (Or.inl ⟨by decide, rfl⟩) ?_
  refine w_ld rfl rfl (Or.inr (Or.inr ⟨by decide, y1⟩)) ?_
  subst e_q2
  refine w_getf rfl g4 n6 ?_
  exact w_if2 rfl c7 c8 k1 k2

theorem k219_87 {P : s_P} {d : Nat} {Q : s_O → Prop} {h : s_H} {kc ks : Nat} {r0 r1 r2 r3 : Term} {x4 : Int} {r5 r6 r7 r8 : Term} {x9 x10 : Int}  (k1 : x10 ≠ x9 → wr P d sw_c219 sw_h219 (102, [r0, r1, r2, r3, vi x4, r5, r6, r7, r8, vi x9, vi x10], [r0], h, kc, ks) Q) (k2 : ¬ x10 ≠ x9 → wr P d sw_c219 sw_h219 (95, [r0, r1, r2, r3, vi x4, r5, r6, r7, r8, vi x9, vi x10], [r0], h, kc, ks) Q) (y1 : s_ty r0 = 3 := by first | rfl | assumption) (c2 : In3 x10 := by first | omega | assumption | (simp only [mk_len, List.length_map]; omega) | decide) (c3 : In3 x9 := by first | omega | assumption | (simp only [mk_len, List.length_map]; omega) | decide) : wr P d sw_c219 sw_h219 (87, [r0, r1, r2, r3, vi x4, r5, r6, r7, r8, vi x9, vi x10], [], h, kc, ks) Q := by
  refine w_ld rfl rfl (Or.inr (Or.inr ⟨by decide, y1⟩)) ?_
  refine w_ld rfl rfl (Or.inl ⟨by decide, rfl⟩) ?_
  refine w_ld rfl rfl (Or.inl ⟨by decide, rfl⟩) ?_
  exact w_if2 rfl c2 c3 k1 k2

theorem k219_95 {P : s_P} {d : Nat} {Q : s_O → Prop} {h : s_H} {kc ks : Nat} {r0 r1 r2 r3 : Term} {x4 : Int} {r5 r6 r7 r8 : Term} {x9 x10 : Int} {s0 : Term} {q2 : Nat} {f3 : List Term} {v5 : Term} (g4 : s_get h q2 = some (1, 8, f3)) (k : wr P d sw_c219 sw_h219 (106, [r0, r1, .index q2, r3, vi x4, r5, r6, r7, r8, vi x9, vi x10], [v5, s0], h, kc, ks) Q) (e_q2 : r2 = .index q2 := by first | rfl | assumption) (y1 : s_ty r2 = 3 := by first | rfl | assumption) (n6 : s_nth f3 1 = some v5 := by first | rfl | assumption)  : wr P d sw_c219 sw_h219 (95, [r0, r1, r2, r3, vi x4, r5, r6, r7, r8, vi x9, vi x10], [s0], h, kc, ks) Q := by
  refine w_ld rfl rfl (Or.inr (Or.inr ⟨by decide, y1⟩)) ?_
  subst e_q2
  refine w_getf rfl g4 n6 ?_
  refine w_goto rfl ?_
  exact k

theorem k219_102 {P : s_P} {d : Nat} {Q : s_O → Prop} {h : s_H} {kc ks : Nat} {r0 r1 r2 r3 : Term} {x4 : Int} {r5 r6 r7 r8 : Term} {x9 x10 : Int} {s0 : Term} {q2 : Nat} {f3 : List Term} {v5 : Term} (g4 : s_get h q2 = some (1, 8, f3)) (k : wr P d sw_c219 sw_h219 (106, [r0, r1, .index q2, r3, vi x4, r5, r6, r7, r8, vi x9, vi x10], [v5, s0], h, kc, ks) Q) (e_q2 : r2 = .index q2 := by first | rfl | assumption) (y1 : s_ty r2 = 3 := by first | rfl | assumption) (n6 : s_nth f3 2 = some v5 := by first | rfl | assumption)  : wr P d sw_c219 sw_h219 (102, [r0, r1, r2, r3, vi x4, r5, r6, r7, r8, vi x9, vi x10], [s0], h, kc, ks) Q := by
  refine w_ld rfl rfl (Or.inr (Or.inr ⟨by decide, y1⟩)) ?_
  subst e_q2
  refine w_getf rfl g4 n6 ?_
  exact k

theorem k219_106 {P : s_P} {d : Nat} {Q : s_O → Prop} {h : s_H} {kc ks : Nat} {r0 r1 r2 r3 : Term} {x4 : Int} {r5 r6 r7 r8 : Term} {x9 x10 : Int} {s0 s1 : Term} {q2 : Nat} {f3 : List Term} (g4 : s_get h q2 = some (1, 6, f3)) (k : wm P d 226 [.index q2, s1, vi x10, r8] h (wq P d sw_c219 sw_h219 113 [r0, r1, r2, r3, vi x4, r5, r6, r7, r8, vi x9, vi x10] [] kc ks Q)) (e_q2 : s0 = .index q2 := by first | rfl | assumption) (y1 : s_ty r8 = 3 := by first | rfl | assumption)  : wr P d sw_c219 sw_h219 (106, [r0, r1, r2, r3, vi x4, r5, r6, r7, r8, vi x9, vi x10], [s1, s0], h, kc, ks) Q := by
  refine w_ld rfl rfl (Or.inl ⟨by decide, rfl⟩) ?_
  refine w_ld rfl rfl (Or.inr (Or.inr ⟨by decide, y1⟩)) ?_
  subst e_q2
  exact w_cv rfl [.index q2, s1, vi x10, r8] [] rfl rfl (s_wt_4 rfl) rfl g4 k

theorem k219_113 {P : s_P} {d : Nat} {Q : s_O → Prop} {h : s_H} {kc ks : Nat} {r0 r1 r2 r3 : Term} {x4 : Int} {r5 r6 r7 r8 : Term} {x9 x10 : Int} {q2 : Nat} {f3 : List Term} {v5 : Term} {q9 : Nat} {f10 : List Term} (g4 : s_get h q2 = some (1, 6, f3)) (g11 : s_get h q9 = some (1, 0, f10)) (k : wm P d 111 [.index q9, r7, r8] h (wq P d sw_c219 sw_h219 124 [.index q2, r1, r2, r3, vi x4, r5, r6, r7, r8, vi x9, vi x10] [] kc ks Q)) (e_q2 : r0 = .index q2 := by first | rfl | assumption) (e_q9 : v5 = .index q9 := by first | rfl | assumption) (y1 : s_ty r0 = 3 := by first | rfl | assumption) (n6 : s_nth f3 0 = some v5 := by first | rfl | assumption) (y7 : s_ty r7 = 3 := by first | rfl | assumption) (y8 : s_ty r8 = 3 := by first | rfl | assumption)  : wr P d sw_c219 sw_h219 (113, [r0, r1, r2, r3, vi x4, r5, r6, r7, r8, vi x9, vi x10], [], h, kc, ks) Q := by
  refine w_ld rfl rfl (Or.inr (Or.inr ⟨by decide, y1⟩)) ?_
  subst e_q2
  refine w_getf rfl g4 n6 ?_
  refine w_ld rfl rfl (Or.inr (Or.inr ⟨by decide, y7⟩)) ?_
  refine w_ld rfl rfl (Or.inr (Or.inr ⟨by decide, y8⟩)) ?_
  subst e_q9
  exact w_cv rfl [.index q9, r7, r8] [] rfl rfl (s_wt_4 rfl) rfl g11 k

theorem k219_124 {P : s_P} {d : Nat} {Q : s_O → Prop} {h : s_H} {kc ks : Nat} {r0 r1 r2 r3 : Term} {x4 : Int} {r5 r6 r7 r8 : Term} {x9 x10 : Int}  (k : wr P d sw_c219 sw_h219 (78, [r0, r1, r2, r3, vi x4, r5, r6, r7, r8, vi x9, vi (x10 + 1)], [], h, kc, ks) Q)   : wr P d sw_c219 sw_h219 (124, [r0, r1, r2, r3, vi x4, r5, r6, r7, r8, vi x9, vi x10], [], h, kc, ks) Q := by
  refine w_iinc (ls' := [r0, r1, r2, r3, vi x4, r5, r6, r7, r8, vi x9, vi (x10 + 1)]) rfl rfl 1 (by decide) rfl ?_
  refine w_goto rfl ?_
  exact k

theorem k219_130 {P : s_P} {d : Nat} {Q : s_O → Prop} {h : s_H} {kc ks : Nat} {r0 r1 r2 r3 : Term} {x4 : Int} {r5 r6 r7 r8 : Term} {x9 x10 : Int} {q3 : Nat} {f4 : List Term} (g5 : s_get h q3 = some (1, 4, f4)) (k : wm P d 184 [.index q3, .index q3, r7, vi 1] h (wq P d sw_c219 sw_h219 140 [r0, r1, r2, r3, vi x4, .index q3, r6, r7, r8, vi x9, vi x10] [] kc ks Q)) (e_q3 : r5 = .index q3 := by first | rfl | assumption) (y1 : s_ty r5 = 3 := by first | rfl | assumption) (y2 : s_ty r7 = 3 := by first | rfl | assumption)  : wr P d sw_c219 sw_h219 (130, [r0, r1, r2, r3, vi x4, r5, r6, r7, r8, vi x9, vi x10], [], h, kc, ks) Q := by
  refine w_ld rfl rfl (Or.inr (Or.inr ⟨by decide, y1⟩)) ?_
  refine w_ld rfl rfl (Or.inr (Or.inr ⟨by decide, y1⟩)) ?_
  refine w_ld rfl rfl (Or.inr (Or.inr ⟨by decide, y2⟩)) ?_
  refine w_c32 rfl (by decide) 1 (by decide) ?_
  subst e_q3
  exact w_cv rfl [.index q3, .index q3, r7, vi 1] [] rfl rfl (s_wt_4 rfl) rfl g5 k

theorem k219_140 {P : s_P} {d : Nat} {Q : s_O → Prop} {h : s_H} {kc ks : Nat} {r0 r1 r2 r3 : Term} {x4 : Int} {r5 r6 r7 r8 : Term} {x9 x10 : Int} {q3 : Nat} {f4 : List Term} {v6 : Term} {q9 : Nat} {f10 : List Term} (g5 : s_get h q3 = some (1, 8, f4)) (g11 : s_get h q9 = some (1, 6, f10)) (k : wm P d 226 [.index q9, v6, vi x9, r8] h (wq P d sw_c219 sw_h219 152 [.index q9, r1, .index q3, r3, vi x4, r5, r6, r7, r8, vi x9, vi x10] [] kc ks Q)) (e_q3 : r2 = .index q3 := by first | rfl | assumption) (e_q9 : r0 = .index q9 := by first | rfl | assumption) (y1 : s_ty r0 = 3 := by first | rfl | assumption) (y2 : s_ty r2 = 3 := by first | rfl | assumption) (n7 : s_nth f4 2 = some v6 := by first | rfl | assumption) (y8 : s_ty r8 = 3 := by first | rfl | assumption)  : wr P d sw_c219 sw_h219 (140, [r0, r1, r2, r3, vi x4, r5, r6, r7, r8, vi x9, vi x10], [], h, kc, ks) Q := by
  refine w_ld rfl rfl (Or.inr (Or.inr ⟨by decide, y1⟩)) ?_
  refine w_ld rfl rfl (Or.inr (Or.inr ⟨by decide, y2⟩)) ?_
  subst e_q3
  refine w_getf rfl g5 n7 ?_
  refine w_ld rfl rfl (Or.inl ⟨by decide, rfl⟩) ?_
  refine w_ld rfl rfl (Or.inr (Or.inr ⟨by decide, y8⟩)) ?_
  subst e_q9
  exact w_cv rfl [.index q9, v6, vi x9, r8] [] rfl rfl (s_wt_4 rfl) rfl g11 k

theorem k219_152 {P : s_P} {d : Nat} {Q : s_O → Prop} {h : s_H} {kc ks : Nat} {r0 r1 r2 r3 : Term} {x4 : Int} {r5 r6 r7 r8 : Term} {x9 x10 : Int} {q2 : Nat} {f3 : List Term} {v5 : Term} {q9 : Nat} {f10 : List Term} (g4 : s_get h q2 = some (1, 6, f3)) (g11 : s_get h q9 = some (1, 0, f10)) (k : wm P d 111 [.index q9, r6, r8] h (wq P d sw_c219 sw_h219 163 [.index q2, r1, r2, r3, vi x4, r5, r6, r7, r8, vi x9, vi x10] [] kc ks Q)) (e_q2 : r0 = .index q2 := by first | rfl | assumption) (e_q9 : v5 = .index q9 := by first | rfl | assumption) (y1 : s_ty r0 = 3 := by first | rfl | assumption) (n6 : s_nth f3 0 = some v5 := by first | rfl | assumption) (y7 : s_ty r6 = 3 := by first | rfl | assumption) (y8 : s_ty r8 = 3 := by first | rfl | assumption)  : wr P d sw_c219 sw_h219 (152, [r0, r1, r2, r3, vi x4, r5, r6, r7, r8, vi x9, vi x10], [], h, kc, ks) Q := by
  refine w_ld rfl rfl (Or.inr (Or.inr ⟨by decide, y1⟩)) ?_
  subst e_q2
  refine w_getf rfl g4 n6 ?_
  refine w_ld rfl rfl (Or.inr (Or.inr ⟨by decide, y7⟩)) ?_
  refine w_ld rfl rfl (Or.inr (Or.inr ⟨by decide, y8⟩)) ?_
  subst e_q9
  exact w_cv rfl [.index q9, r6, r8] [] rfl rfl (s_wt_4 rfl) rfl g11 k

theorem k219_163 {P : s_P} {d : Nat} {Q : s_O → Prop} {h : s_H} {kc ks : Nat} {r0 r1 r2 r3 : Term} {x4 : Int} {r5 r6 r7 r8 : Term} {x9 x10 : Int}  (k : wr P d sw_c219 sw_h219 (54, [r0, r1, r2, r3, vi x4, r5, r6, r7, r8, vi (x9 + 1), vi x10], [], h, kc, ks) Q) (y1 : s_ty r8 = 3 := by first | rfl | assumption)  : wr P d sw_c219 sw_h219 (163, [r0, r1, r2, r3, vi x4, r5, r6, r7, r8, vi x9, vi x10], [], h, kc, ks) Q := by
  refine w_iinc (ls' := [r0, r1, r2, r3, vi x4, r5, r6, r7, r8, vi (x9 + 1), vi x10]) rfl rfl 1 (by decide) (s_stK_r (pre := [r0, r1, r2, r3, vi x4, r5, r6, r7]) y1) ?_
  refine w_goto rfl ?_
  exact k

theorem k219_169 {P : s_P} {d : Nat} {Q : s_O → Prop} {h : s_H} {kc ks : Nat} {r0 r1 r2 r3 : Term} {x4 : Int} {r5 r6 r7 r8 : Term} {x9 : Int} {t10 : Term} {q2 : Nat} {f3 : List Term} {v5 : Term} {q10 : Nat} {f11 : List Term} (g4 : s_get h q2 = some (1, 6, f3)) (g12 : s_get h q10 = some (1, 0, f11)) (k : wm P d 121 [.index q10, r5, r6, r3] h (wq P d sw_c219 sw_h219 181 [.index q2, r1, r2, r3, vi x4, r5, r6, r7, r8, vi x9, t10] [] kc ks Q)) (e_q2 : r0 = .index q2 := by first | rfl | assumption) (e_q10 : v5 = .index q10 := by first | rfl | assumption) (y1 : s_ty r0 = 3 := by first | rfl | assumption) (n6 : s_nth f3 0 = some v5 := by first | rfl | assumption) (y7 : s_ty r5 = 3 := by first | rfl | assumption) (y8 : s_ty r6 = 3 := by first | rfl | assumption) (y9 : s_ty r3 = 3 := by first | rfl | assumption)  : wr P d sw_c219 sw_h219 (169, [r0, r1, r2, r3, vi x4, r5, r6, r7, r8, vi x9, t10], [], h, kc, ks) Q := by
  refine w_ld rfl rfl (Or.inr (Or.inr ⟨by decide, y1⟩)) ?_
  subst e_q2
  refine w_getf rfl g4 n6 ?_
  refine w_ld rfl rfl (Or.inr (Or.inr ⟨by decide, y7⟩)) ?_
  refine w_ld rfl rfl (Or.inr (Or.inr ⟨by decide, y8⟩)) ?_
  refine w_ld rfl rfl (Or.inr (Or.inr ⟨by decide, y9⟩)) ?_
  subst e_q10
  exact w_cv rfl [.index q10, r5, r6, r3] [] rfl rfl (s_wt_4 rfl) rfl g12 k

theorem k219_181 {P : s_P} {d : Nat} {Q : s_O → Prop} {h : s_H} {kc ks : Nat} {r0 r1 r2 r3 : Term} {x4 : Int} {r5 r6 r7 r8 : Term} {x9 : Int} {t10 s0 : Term} {q3 : Nat} {f4 : List Term} {v6 : Term} {q8 : Nat} {f9 : List Term} (g5 : s_get h q3 = some (1, 6, f4)) (g10 : s_get h q8 = some (1, 0, f9)) (k : wm P d 113 [.index q8, vi x4] h (wq P d sw_c219 sw_h219 191 [.index q3, r1, r2, r3, vi x4, r5, r6, r7, r8, vi x9, t10] [] kc ks Q)) (e_q3 : r0 = .index q3 := by first | rfl | assumption) (e_q8 : v6 = .index q8 := by first | rfl | assumption) (y1 : s_ty s0 = 3 := by first | rfl | assumption) (y2 : s_ty r0 = 3 := by first | rfl | assumption) (n7 : s_nth f4 0 = some v6 := by first | rfl | assumption)  : wr P d sw_c219 sw_h219 (181, [r0, r1, r2, r3, vi x4, r5, r6, r7, r8, vi x9, t10], [s0], h, kc, ks) Q := by
  refine w_pop rfl (by rw [y1]; rfl) ?_
  refine w_ld rfl rfl (Or.inr (Or.inr ⟨by decide, y2⟩)) ?_
  subst e_q3
  refine w_getf rfl g5 n7 ?_
  refine w_ld rfl rfl (Or.inl ⟨by decide, rfl⟩) ?_
  subst e_q8
  exact w_cv rfl [.index q8, vi x4] [] rfl rfl (s_wt_4 rfl) rfl g10 k

theorem k219_191 {P : s_P} {d : Nat} {Q : s_O → Prop} {h : s_H} {kc ks : Nat} {r0 r1 r2 r3 : Term} {x4 : Int} {r5 r6 r7 r8 : Term} {x9 : Int} {t10 : Term}  (k : Q (.inl (some r3), h, kc, ks)) (y1 : s_ty r3 = 3 := by first | rfl | assumption)  : wr P d sw_c219 sw_h219 (191, [r0, r1, r2, r3, vi x4, r5, r6, r7, r8, vi x9, t10], [], h, kc, ks) Q := by
  refine w_ld rfl rfl (Or.inr (Or.inr ⟨by decide, y1⟩)) ?_
  exact w_aret rfl y1 k

/-! 220: FormulaWorks$Rules.meetWith(LFormulaWorks$Thing;ILFormulaWorks$Poly;LFormulaWorks$Thing;)LFormulaWorks$Thing; -/
theorem k220_0 {P : s_P} {d : Nat} {Q : s_O → Prop} {h : s_H} {kc ks : Nat} {r0 r1 : Term} {x2 : Int} {r3 r4 : Term} {q3 : Nat} {f4 : List Term} (g5 : s_get h q3 = some (1, 6, f4)) (k : wm P d 224 [.index q3, r1, vi x2] h (wq P d sw_c220 sw_h220 6 [.index q3, r1, vi x2, r3, r4] [] kc ks Q)) (e_q3 : r0 = .index q3 := by first | rfl | assumption) (y1 : s_ty r0 = 3 := by first | rfl | assumption) (y2 : s_ty r1 = 3 := by first | rfl | assumption)  : wr P d sw_c220 sw_h220 (0, [r0, r1, vi x2, r3, r4], [], h, kc, ks) Q := by
  refine w_ld rfl rfl (Or.inr (Or.inr ⟨by decide, y1⟩)) ?_
  refine w_ld rfl rfl (Or.inr (Or.inr ⟨by decide, y2⟩)) ?_
  refine w_ld rfl rfl (Or.inl ⟨by decide, rfl⟩) ?_
  subst e_q3
  exact w_cv rfl [.index q3, r1, vi x2] [] rfl rfl (s_wt_4 rfl) rfl g5 k

theorem k220_6 {P : s_P} {d : Nat} {Q : s_O → Prop} {h : s_H} {kc ks : Nat} {r0 r1 : Term} {x2 : Int} {r3 r4 : Term} {q2 : Nat} {f3 : List Term} {v5 : Term} {q8 : Nat} {f9 : List Term} (g4 : s_get h q2 = some (1, 6, f3)) (g10 : s_get h q8 = some (1, 1, f9)) (k : wm P d 131 [.index q8, vi 21, r3] h (wq P d sw_c220 sw_h220 16 [.index q2, r1, vi x2, r3, r4] [] kc ks Q)) (e_q2 : r0 = .index q2 := by first | rfl | assumption) (e_q8 : v5 = .index q8 := by first | rfl | assumption) (y1 : s_ty r0 = 3 := by first | rfl | assumption) (n6 : s_nth f3 1 = some v5 := by first | rfl | assumption) (y7 : s_ty r3 = 3 := by first | rfl | assumption)  : wr P d sw_c220 sw_h220 (6, [r0, r1, vi x2, r3, r4], [], h, kc, ks) Q := by
  refine w_ld rfl rfl (Or.inr (Or.inr ⟨by decide, y1⟩)) ?_
  subst e_q2
  refine w_getf rfl g4 n6 ?_
  refine w_c32 rfl (by decide) 21 (by decide) ?_
  refine w_ld rfl rfl (Or.inr (Or.inr ⟨by decide, y7⟩)) ?_
  subst e_q8
  exact w_cv rfl [.index q8, vi 21, r3] [] rfl rfl (s_wt_4 rfl) rfl g10 k

theorem k220_16 {P : s_P} {d : Nat} {Q : s_O → Prop} {h : s_H} {kc ks : Nat} {r0 r1 : Term} {x2 : Int} {r3 r4 : Term} {q3 : Nat} {f4 : List Term} (g5 : s_get h q3 = some (1, 6, f4)) (k : wm P d 227 [.index q3, r4] h (wq P d sw_c220 sw_h220 22 [.index q3, r1, vi x2, r3, r4] [] kc ks Q)) (e_q3 : r0 = .index q3 := by first | rfl | assumption) (y1 : s_ty r0 = 3 := by first | rfl | assumption) (y2 : s_ty r4 = 3 := by first | rfl | assumption)  : wr P d sw_c220 sw_h220 (16, [r0, r1, vi x2, r3, r4], [], h, kc, ks) Q := by
  refine w_ld rfl rfl (Or.inr (Or.inr ⟨by decide, y1⟩)) ?_
  refine w_ld rfl rfl (Or.inr (Or.inr ⟨by decide, y2⟩)) ?_
  subst e_q3
  exact w_cv rfl [.index q3, r4] [] rfl rfl (s_wt_4 rfl) rfl g5 k

theorem k220_22 {P : s_P} {d : Nat} {Q : s_O → Prop} {h : s_H} {kc ks : Nat} {r0 r1 : Term} {x2 : Int} {r3 r4 s0 : Term}  (k : Q (.inl (some s0), h, kc, ks)) (y1 : s_ty s0 = 3 := by first | rfl | assumption)  : wr P d sw_c220 sw_h220 (22, [r0, r1, vi x2, r3, r4], [s0], h, kc, ks) Q := by
  exact w_aret rfl y1 k

/-! 221: FormulaWorks$Rules.openPowers(LFormulaWorks$Thing;I)I -/
theorem k221_0 {P : s_P} {d : Nat} {Q : s_O → Prop} {h : s_H} {kc ks : Nat} {r0 r1 : Term} {x2 : Int} {t3 t4 : Term} {q3 : Nat} {f4 : List Term} (g5 : s_get h q3 = some (1, 6, f4)) (k : wm P d 224 [.index q3, r1, vi x2] h (wq P d sw_c221 sw_h221 6 [.index q3, r1, vi x2, t3, t4] [] kc ks Q)) (e_q3 : r0 = .index q3 := by first | rfl | assumption) (y1 : s_ty r0 = 3 := by first | rfl | assumption) (y2 : s_ty r1 = 3 := by first | rfl | assumption)  : wr P d sw_c221 sw_h221 (0, [r0, r1, vi x2, t3, t4], [], h, kc, ks) Q := by
  refine w_ld rfl rfl (Or.inr (Or.inr ⟨by decide, y1⟩)) ?_
  refine w_ld rfl rfl (Or.inr (Or.inr ⟨by decide, y2⟩)) ?_
  refine w_ld rfl rfl (Or.inl ⟨by decide, rfl⟩) ?_
  subst e_q3
  exact w_cv rfl [.index q3, r1, vi x2] [] rfl rfl (s_wt_4 rfl) rfl g5 k

theorem k221_6 {P : s_P} {d : Nat} {Q : s_O → Prop} {h : s_H} {kc ks : Nat} {r0 r1 : Term} {x2 : Int} {t3 t4 : Term} {q2 : Nat} {f3 : List Term} {v5 : Term} {q7 : Nat} {f8 : List Term} (g4 : s_get h q2 = some (1, 6, f3)) (g9 : s_get h q7 = some (1, 1, f8)) (k : wm P d 127 [.index q7] h (wq P d sw_c221 sw_h221 13 [.index q2, r1, vi x2, t3, t4] [] kc ks Q)) (e_q2 : r0 = .index q2 := by first | rfl | assumption) (e_q7 : v5 = .index q7 := by first | rfl | assumption) (y1 : s_ty r0 = 3 := by first | rfl | assumption) (n6 : s_nth f3 1 = some v5 := by first | rfl | assumption)  : wr P d sw_c221 sw_h221 (6, [r0, r1, vi x2, t3, t4], [], h, kc, ks) Q := by
  refine w_ld rfl rfl (Or.inr (Or.inr ⟨by decide, y1⟩)) ?_
  subst e_q2
  refine w_getf rfl g4 n6 ?_
  subst e_q7
  exact w_cv rfl [.index q7] [] rfl rfl (s_wt_4 rfl) rfl g9 k

theorem k221_13 {P : s_P} {d : Nat} {Q : s_O → Prop} {h : s_H} {kc ks : Nat} {r0 r1 : Term} {x2 : Int} {t3 t4 : Term}  (k : wr P d sw_c221 sw_h221 (18, [r0, r1, vi x2, vi 0, vi 0], [], h, kc, ks) Q)   : wr P d sw_c221 sw_h221 (13, [r0, r1, vi x2, t3, t4], [], h, kc, ks) Q := by
  refine w_c32 rfl (by decide) 0 (by decide) ?_
  refine w_st (ls' := [r0, r1, vi x2, vi 0, t4]) rfl (Or.inl ⟨by decide, rfl⟩) rfl ?_
  refine w_c32 rfl (by decide) 0 (by decide) ?_
  refine w_st (ls' := [r0, r1, vi x2, vi 0, vi 0]) rfl (Or.inl ⟨by decide, rfl⟩) rfl ?_
  exact k

theorem k221_18 {P : s_P} {d : Nat} {Q : s_O → Prop} {h : s_H} {kc ks : Nat} {r0 r1 : Term} {x2 x3 x4 : Int}  (k1 : 21 ≤ x4 → wr P d sw_c221 sw_h221 (46, [r0, r1, vi x2, vi x3, vi x4], [], h, kc, ks) Q) (k2 : ¬ 21 ≤ x4 → wr P d sw_c221 sw_h221 (25, [r0, r1, vi x2, vi x3, vi x4], [], h, kc, ks) Q)  (c1 : In3 x4 := by first | omega | assumption | (simp only [mk_len, List.length_map]; omega) | decide) : wr P d sw_c221 sw_h221 (18, [r0, r1, vi x2, vi x3, vi x4], [], h, kc, ks) Q := by
  refine w_ld rfl rfl (Or.inl ⟨by decide, rfl⟩) ?_
  refine w_c32 rfl (by decide) 21 (by decide) ?_
  exact w_if2 rfl c1 (by decide) k1 k2

theorem k221_25 {P : s_P} {d : Nat} {Q : s_O → Prop} {h : s_H} {kc ks : Nat} {r0 r1 : Term} {x2 x3 x4 : Int} {q2 : Nat} {f3 : List Term} {v5 : Term} {q7 : Nat} {f8 : List Term} (g4 : s_get h q2 = some (1, 6, f3)) (g9 : s_get h q7 = some (1, 1, f8)) (k : wm P d 129 [.index q7, vi x4] h (wq P d sw_c221 sw_h221 34 [.index q2, r1, vi x2, vi x3, vi x4] [] kc ks Q)) (e_q2 : r0 = .index q2 := by first | rfl | assumption) (e_q7 : v5 = .index q7 := by first | rfl | assumption) (y1 : s_ty r0 = 3 := by first | rfl | assumption) (n6 : s_nth f3 1 = some v5 := by first | rfl | assumption)  : wr P d sw_c221 sw_h221 (25, [r0, r1, vi x2, vi x3, vi x4], [], h, kc, ks) Q := by
  refine w_ld rfl rfl (Or.inr (Or.inr ⟨by decide, y1⟩)) ?_
  subst e_q2
  refine w_getf rfl g4 n6 ?_
  refine w_ld rfl rfl (Or.inl ⟨by decide, rfl⟩) ?_
  subst e_q7
  exact w_cv rfl [.index q7, vi x4] [] rfl rfl (s_wt_4 rfl) rfl g9 k

theorem k221_34 {P : s_P} {d : Nat} {Q : s_O → Prop} {h : s_H} {kc ks : Nat} {r0 r1 : Term} {x2 x3 x4 s0 : Int}  (k1 : s0 = 0 → wr P d sw_c221 sw_h221 (40, [r0, r1, vi x2, vi x3, vi x4], [], h, kc, ks) Q) (k2 : ¬ s0 = 0 → wr P d sw_c221 sw_h221 (37, [r0, r1, vi x2, vi x3, vi x4], [], h, kc, ks) Q)  (c1 : In3 s0 := by first | omega | assumption | (simp only [mk_len, List.length_map]; omega) | decide) : wr P d sw_c221 sw_h221 (34, [r0, r1, vi x2, vi x3, vi x4], [vi s0], h, kc, ks) Q := by
  exact w_if1 rfl c1 k1 k2

theorem k221_37 {P : s_P} {d : Nat} {Q : s_O → Prop} {h : s_H} {kc ks : Nat} {r0 r1 : Term} {x2 x3 x4 : Int}  (k : wr P d sw_c221 sw_h221 (40, [r0, r1, vi x2, vi (x3 + 1), vi x4], [], h, kc, ks) Q)   : wr P d sw_c221 sw_h221 (37, [r0, r1, vi x2, vi x3, vi x4], [], h, kc, ks) Q := by
  refine w_iinc (ls' := [r0, r1, vi x2, vi (x3 + 1), vi x4]) rfl rfl 1 (by decide) rfl ?_
  exact k

theorem k221_40 {P : s_P} {d : Nat} {Q : s_O → Prop} {h : s_H} {kc ks : Nat} {r0 r1 : Term} {x2 x3 x4 : Int}  (k : wr P d sw_c221 sw_h221 (18, [r0, r1, vi x2, vi x3, vi (x4 + 1)], [], h, kc, ks) Q)   : wr P d sw_c221 sw_h221 (40, [r0, r1, vi x2, vi x3, vi x4], [], h, kc, ks) Q := by
  refine w_iinc (ls' := [r0, r1, vi x2, vi x3, vi (x4 + 1)]) rfl rfl 1 (by decide) rfl ?_
  refine w_goto rfl ?_
  exact k

theorem k221_46 {P : s_P} {d : Nat} {Q : s_O → Prop} {h : s_H} {kc ks : Nat} {r0 r1 : Term} {x2 x3 x4 : Int}  (k : Q (.inl (some (vi x3)), h, kc, ks))   : wr P d sw_c221 sw_h221 (46, [r0, r1, vi x2, vi x3, vi x4], [], h, kc, ks) Q := by
  refine w_ld rfl rfl (Or.inl ⟨by decide, rfl⟩) ?_
  exact w_iret rfl k

