/-! 515: FormulaWorksModel.logarithm(I)I -/
theorem k515_0 {P : s_P} {d : Nat} {Q : s_O → Prop} {h : s_H} {kc ks : Nat} {r0 : Term} {x1 : Int} {t2 t3 t4 t5 : Term} {q2 : Nat} {f3 : List Term} (g4 : s_get h q2 = some (1, 11, f3)) (k : wm P d 481 [.index q2, vi x1, vi 1] h (wq P d sw_c515 sw_h515 6 [.index q2, vi x1, t2, t3, t4, t5] [] kc ks Q)) (e_q2 : r0 = .index q2 := by first | rfl | assumption) (y1 : s_ty r0 = 3 := by first | rfl | assumption)  : wr P d sw_c515 sw_h515 (0, [r0, vi x1, t2, t3, t4, t5], [], h, kc, ks) Q := by
  refine w_ld rfl rfl (Or.inr (Or.inr ⟨by decide, y1⟩)) ?_
  refine w_ld rfl rfl (Or.inl ⟨by decide, rfl⟩) ?_
  refine w_c32 rfl (by decide) 1 (by decide) ?_
  subst e_q2
  exact w_cv rfl [.index q2, vi x1, vi 1] [] rfl rfl (s_wt_4 rfl) rfl g4 k

theorem k515_6 {P : s_P} {d : Nat} {Q : s_O → Prop} {h : s_H} {kc ks : Nat} {r0 : Term} {x1 : Int} {t2 t3 t4 t5 : Term} {s0 : Int}  (k1 : s0 ≠ 0 → wr P d sw_c515 sw_h515 (11, [r0, vi x1, t2, t3, t4, t5], [], h, kc, ks) Q) (k2 : ¬ s0 ≠ 0 → wr P d sw_c515 sw_h515 (9, [r0, vi x1, t2, t3, t4, t5], [], h, kc, ks) Q)  (c1 : In3 s0 := by first | omega | assumption | (simp only [mk_len, List.length_map]; omega) | decide) : wr P d sw_c515 sw_h515 (6, [r0, vi x1, t2, t3, t4, t5], [vi s0], h, kc, ks) Q := by
  exact w_if1 rfl c1 k1 k2

theorem k515_9 {P : s_P} {d : Nat} {Q : s_O → Prop} {h : s_H} {kc ks : Nat} {r0 : Term} {x1 : Int} {t2 t3 t4 t5 : Term}  (k : Q (.inl (some (vi 0)), h, kc, ks))   : wr P d sw_c515 sw_h515 (9, [r0, vi x1, t2, t3, t4, t5], [], h, kc, ks) Q := by
  refine w_c32 rfl (by decide) 0 (by decide) ?_
  exact w_iret rfl k

theorem k515_11 {P : s_P} {d : Nat} {Q : s_O → Prop} {h : s_H} {kc ks : Nat} {r0 : Term} {x1 : Int} {t2 t3 t4 t5 : Term} {q2 : Nat} {f3 : List Term} {v5 : Term} {q7 : Nat} {a8 : List Int} (g4 : s_get h q2 = some (1, 11, f3)) (g9 : s_get h q7 = some (0, 1, a8.map vl)) (k1 : gi a8 0 = 1 → wr P d sw_c515 sw_h515 (28, [.index q2, vi x1, t2, t3, t4, t5], [], h, kc, ks) Q) (k2 : ¬ gi a8 0 = 1 → wr P d sw_c515 sw_h515 (22, [.index q2, vi x1, t2, t3, t4, t5], [], h, kc, ks) Q) (e_q2 : r0 = .index q2 := by first | rfl | assumption) (e_q7 : v5 = .index q7 := by first | rfl | assumption) (y1 : s_ty r0 = 3 := by first | rfl | assumption) (n6 : s_nth f3 10 = some v5 := by first | rfl | assumption) (c10 : (0 : Int) < a8.length := by first | omega | assumption | (simp only [mk_len, List.length_map]; omega) | decide) (c11 : In6 (gi a8 0) := by first | omega | assumption | (simp only [mk_len, List.length_map]; omega) | decide) : wr P d sw_c515 sw_h515 (11, [r0, vi x1, t2, t3, t4, t5], [], h, kc, ks) Q := by
  refine w_ld rfl rfl (Or.inr (Or.inr ⟨by decide, y1⟩)) ?_
  subst e_q2
  refine w_getf rfl g4 n6 ?_
  refine w_c32 rfl (by decide) 0 (by decide) ?_
  subst e_q7
  refine w_lald rfl g9 (by decide) (by decide) c10 ?_
  refine w_c64 rfl (by decide) 1 (by decide) ?_
  exact w_lcmp rfl rfl c11 (by decide) k1 k2

theorem k515_22 {P : s_P} {d : Nat} {Q : s_O → Prop} {h : s_H} {kc ks : Nat} {r0 : Term} {x1 : Int} {t2 t3 t4 t5 : Term} {q2 : Nat} {f3 : List Term} (g4 : s_get h q2 = some (1, 11, f3)) (k : wm P d 570 [.index q2, vi 2] h (wq P d sw_c515 sw_h515 27 [.index q2, vi x1, t2, t3, t4, t5] [] kc ks Q)) (e_q2 : r0 = .index q2 := by first | rfl | assumption) (y1 : s_ty r0 = 3 := by first | rfl | assumption)  : wr P d sw_c515 sw_h515 (22, [r0, vi x1, t2, t3, t4, t5], [], h, kc, ks) Q := by
  refine w_ld rfl rfl (Or.inr (Or.inr ⟨by decide, y1⟩)) ?_
  refine w_c32 rfl (by decide) 2 (by decide) ?_
  subst e_q2
  exact w_cv rfl [.index q2, vi 2] [] rfl rfl (s_wt_4 rfl) rfl g4 k

theorem k515_27 {P : s_P} {d : Nat} {Q : s_O → Prop} {h : s_H} {kc ks : Nat} {r0 : Term} {x1 : Int} {t2 t3 t4 t5 : Term} {s0 : Int}  (k : Q (.inl (some (vi s0)), h, kc, ks))   : wr P d sw_c515 sw_h515 (27, [r0, vi x1, t2, t3, t4, t5], [vi s0], h, kc, ks) Q := by
  exact w_iret rfl k

theorem k515_28 {P : s_P} {d : Nat} {Q : s_O → Prop} {h : s_H} {kc ks : Nat} {r0 : Term} {x1 : Int} {t2 t3 t4 t5 : Term} {q2 : Nat} {f3 : List Term} {v5 : Term} (g4 : s_get h q2 = some (1, 11, f3)) (k : wm P d 438 [v5] h (wq P d sw_c515 sw_h515 35 [.index q2, vi x1, t2, t3, t4, t5] [] kc ks Q)) (e_q2 : r0 = .index q2 := by first | rfl | assumption) (y1 : s_ty r0 = 3 := by first | rfl | assumption) (n6 : s_nth f3 14 = some v5 := by first | rfl | assumption)  : wr P d sw_c515 sw_h515 (28, [r0, vi x1, t2, t3, t4, t5], [], h, kc, ks) Q := by
  refine w_ld rfl rfl (Or.inr (Or.inr ⟨by decide, y1⟩)) ?_
  subst e_q2
  refine w_getf rfl g4 n6 ?_
  exact w_cs rfl [v5] [] rfl rfl (s_wt_4 rfl) k

theorem k515_35 {P : s_P} {d : Nat} {Q : s_O → Prop} {h : s_H} {kc ks : Nat} {r0 : Term} {x1 : Int} {t2 t3 t4 t5 : Term}  (k : wr P d sw_c515 sw_h515 (37, [r0, vi x1, vi 1, t3, t4, t5], [], h, kc, ks) Q)   : wr P d sw_c515 sw_h515 (35, [r0, vi x1, t2, t3, t4, t5], [], h, kc, ks) Q := by
  refine w_c32 rfl (by decide) 1 (by decide) ?_
  refine w_st (ls' := [r0, vi x1, vi 1, t3, t4, t5]) rfl (Or.inl ⟨by decide, rfl⟩) rfl ?_
  exact k

theorem k515_37 {P : s_P} {d : Nat} {Q : s_O → Prop} {h : s_H} {kc ks : Nat} {r0 : Term} {x1 x2 : Int} {t3 t4 t5 : Term}  (k1 : 25 ≤ x2 → wr P d sw_c515 sw_h515 (126, [r0, vi x1, vi x2, t3, t4, t5], [], h, kc, ks) Q) (k2 : ¬ 25 ≤ x2 → wr P d sw_c515 sw_h515 (43, [r0, vi x1, vi x2, t3, t4, t5], [], h, kc, ks) Q)  (c1 : In3 x2 := by first | omega | assumption | (simp only [mk_len, List.length_map]; omega) | decide) : wr P d sw_c515 sw_h515 (37, [r0, vi x1, vi x2, t3, t4, t5], [], h, kc, ks) Q := by
  refine w_ld rfl rfl (Or.inl ⟨by decide, rfl⟩) ?_
  refine w_c32 rfl (by decide) 25 (by decide) ?_
  exact w_if2 rfl c1 (by decide) k1 k2

theorem k515_43 {P : s_P} {d : Nat} {Q : s_O → Prop} {h : s_H} {kc ks : Nat} {r0 : Term} {x1 x2 : Int} {t3 t4 t5 : Term} {q3 : Nat} {f4 : List Term} {v6 : Term} {q8 : Nat} {a9 : List Int} (g5 : s_get h q3 = some (1, 11, f4)) (g10 : s_get h q8 = some (0, 1, a9.map vl)) (k : wr P d sw_c515 sw_h515 (60, [.index q3, vi x1, vi x2, vl (Int.tmod (x2 * (gi a9 x2)) 32003), .result, vi 1], [], h, kc, ks) Q) (e_q3 : r0 = .index q3 := by first | rfl | assumption) (e_q8 : v6 = .index q8 := by first | rfl | assumption) (y2 : s_ty r0 = 3 := by first | rfl | assumption) (n7 : s_nth f4 10 = some v6 := by first | rfl | assumption) (c1 : In3 x2 := by first | omega | assumption | (simp only [mk_len, List.length_map]; omega) | decide) (c11 : x2 < a9.length := by first | omega | assumption | (simp only [mk_len, List.length_map]; omega) | decide) (c12 : 0 ≤ x2 := by first | omega | assumption | (simp only [mk_len, List.length_map]; omega) | decide) (c13 : In6 (x2 * (gi a9 x2)) := by first | omega | assumption | (simp only [mk_len, List.length_map]; omega) | decide) : wr P d sw_c515 sw_h515 (43, [r0, vi x1, vi x2, t3, t4, t5], [], h, kc, ks) Q := by
  refine w_ld rfl rfl (Or.inl ⟨by decide, rfl⟩) ?_
  refine w_i2l rfl c1 ?_
  refine w_ld rfl rfl (Or.inr (Or.inr ⟨by decide, y2⟩)) ?_
  subst e_q3
  refine w_getf rfl g5 n7 ?_
  refine w_ld rfl rfl (Or.inl ⟨by decide, rfl⟩) ?_
  subst e_q8
  refine w_lald rfl g10 c1 c12 c11 ?_
  refine w_lmul rfl ?_
  refine w_c64 rfl (by decide) 32003 (by decide) ?_
  refine w_lrem rfl c13 (by decide) (by decide) ?_
  refine w_stl (ls' := [.index q3, vi x1, vi x2, vl (Int.tmod (x2 * (gi a9 x2)) 32003), t4, t5]) (ls'' := [.index q3, vi x1, vi x2, vl (Int.tmod (x2 * (gi a9 x2)) 32003), .result, t5]) rfl ⟨by decide, rfl⟩ rfl rfl ?_
  refine w_c32 rfl (by decide) 1 (by decide) ?_
  refine w_st (ls' := [.index q3, vi x1, vi x2, vl (Int.tmod (x2 * (gi a9 x2)) 32003), .result, vi 1]) rfl (Or.inl ⟨by decide, rfl⟩) rfl ?_
  exact k

theorem k515_60 {P : s_P} {d : Nat} {Q : s_O → Prop} {h : s_H} {kc ks : Nat} {r0 : Term} {x1 x2 x3 : Int} {t4 : Term} {x5 : Int}  (k1 : x2 ≤ x5 → wr P d sw_c515 sw_h515 (103, [r0, vi x1, vi x2, vl x3, t4, vi x5], [], h, kc, ks) Q) (k2 : ¬ x2 ≤ x5 → wr P d sw_c515 sw_h515 (66, [r0, vi x1, vi x2, vl x3, t4, vi x5], [], h, kc, ks) Q)  (c1 : In3 x5 := by first | omega | assumption | (simp only [mk_len, List.length_map]; omega) | decide) (c2 : In3 x2 := by first | omega | assumption | (simp only [mk_len, List.length_map]; omega) | decide) : wr P d sw_c515 sw_h515 (60, [r0, vi x1, vi x2, vl x3, t4, vi x5], [], h, kc, ks) Q := by
  refine w_ld rfl rfl (Or.inl ⟨by decide, rfl⟩) ?_
  refine w_ld rfl rfl (Or.inl ⟨by decide, rfl⟩) ?_
  exact w_if2 rfl c1 c2 k1 k2

theorem k515_66 {P : s_P} {d : Nat} {Q : s_O → Prop} {h : s_H} {kc ks : Nat} {r0 : Term} {x1 x2 x3 : Int} {t4 : Term} {x5 : Int} {q3 : Nat} {f4 : List Term} {v6 : Term} {q8 : Nat} {a9 : List Int} {v14 : Term} {q16 : Nat} {a17 : List Int} (g5 : s_get h q3 = some (1, 11, f4)) (g10 : s_get h q8 = some (0, 1, a9.map vl)) (g18 : s_get h q16 = some (0, 1, a17.map vl)) (k : wm P d 528 [vl (x3 - ((Int.tmod (x5 * (gi a9 x5)) 32003) * (gi a17 (x2 - x5))))] h (wq P d sw_c515 sw_h515 96 [.index q3, vi x1, vi x2, vl x3, t4, vi x5] [] kc ks Q)) (e_q3 : r0 = .index q3 := by first | rfl | assumption) (e_q8 : v6 = .index q8 := by first | rfl | assumption) (e_q16 : v14 = .index q16 := by first | rfl | assumption) (y2 : s_ty r0 = 3 := by first | rfl | assumption) (n7 : s_nth f4 14 = some v6 := by first | rfl | assumption) (n15 : s_nth f4 10 = some v14 := by first | rfl | assumption) (c1 : In3 x5 := by first | omega | assumption | (simp only [mk_len, List.length_map]; omega) | decide) (c11 : x5 < a9.length := by first | omega | assumption | (simp only [mk_len, List.length_map]; omega) | decide) (c12 : 0 ≤ x5 := by first | omega | assumption | (simp only [mk_len, List.length_map]; omega) | decide) (c13 : In6 (x5 * (gi a9 x5)) := by first | omega | assumption | (simp only [mk_len, List.length_map]; omega) | decide) (c19 : x2 - x5 < a17.length := by first | omega | assumption | (simp only [mk_len, List.length_map]; omega) | decide) (c20 : 0 ≤ x2 - x5 := by first | omega | assumption | (simp only [mk_len, List.length_map]; omega) | decide) (c21 : In3 (x2 - x5) := by first | omega | assumption | (simp only [mk_len, List.length_map]; omega) | decide) : wr P d sw_c515 sw_h515 (66, [r0, vi x1, vi x2, vl x3, t4, vi x5], [], h, kc, ks) Q := by
  refine w_ld rfl rfl (Or.inr (Or.inl ⟨by decide, rfl⟩)) ?_
  refine w_ld rfl rfl (Or.inl ⟨by decide, rfl⟩) ?_
  refine w_i2l rfl c1 ?_
  refine w_ld rfl rfl (Or.inr (Or.inr ⟨by decide, y2⟩)) ?_
  subst e_q3
  refine w_getf rfl g5 n7 ?_
  refine w_ld rfl rfl (Or.inl ⟨by decide, rfl⟩) ?_
  subst e_q8
  refine w_lald rfl g10 c1 c12 c11 ?_
  refine w_lmul rfl ?_
  refine w_c64 rfl (by decide) 32003 (by decide) ?_
  refine w_lrem rfl c13 (by decide) (by decide) ?_
  refine w_ld rfl rfl (Or.inr (Or.inr ⟨by decide, rfl⟩)) ?_
  refine w_getf rfl g5 n15 ?_
  refine w_ld rfl rfl (Or.inl ⟨by decide, rfl⟩) ?_
  refine w_ld rfl rfl (Or.inl ⟨by decide, rfl⟩) ?_
  refine w_isub rfl ?_
  subst e_q16
  refine w_lald rfl g18 c21 c20 c19 ?_
  refine w_lmul rfl ?_
  refine w_lsub rfl ?_
  exact w_cs rfl [vl (x3 - ((Int.tmod (x5 * (gi a9 x5)) 32003) * (gi a17 (x2 - x5))))] [] rfl rfl (s_wt_4 rfl) k

theorem k515_96 {P : s_P} {d : Nat} {Q : s_O → Prop} {h : s_H} {kc ks : Nat} {r0 : Term} {x1 x2 x3 : Int} {t4 : Term} {x5 s0 : Int}  (k : wr P d sw_c515 sw_h515 (60, [r0, vi x1, vi x2, vl s0, .result, vi (x5 + 1)], [], h, kc, ks) Q)   : wr P d sw_c515 sw_h515 (96, [r0, vi x1, vi x2, vl x3, t4, vi x5], [vl s0], h, kc, ks) Q := by
  refine w_stl (ls' := [r0, vi x1, vi x2, vl s0, t4, vi x5]) (ls'' := [r0, vi x1, vi x2, vl s0, .result, vi x5]) rfl ⟨by decide, rfl⟩ rfl rfl ?_
  refine w_iinc (ls' := [r0, vi x1, vi x2, vl s0, .result, vi (x5 + 1)]) rfl rfl 1 (by decide) rfl ?_
  refine w_goto rfl ?_
  exact k

theorem k515_103 {P : s_P} {d : Nat} {Q : s_O → Prop} {h : s_H} {kc ks : Nat} {r0 : Term} {x1 x2 x3 : Int} {t4 : Term} {x5 : Int} {q2 : Nat} {f3 : List Term} {v5 : Term} (g4 : s_get h q2 = some (1, 11, f3)) (k : wm P d 467 [vl x2] h (wq P d sw_c515 sw_h515 114 [.index q2, vi x1, vi x2, vl x3, t4, vi x5] [vl x3, vi x2, v5] kc ks Q)) (e_q2 : r0 = .index q2 := by first | rfl | assumption) (y1 : s_ty r0 = 3 := by first | rfl | assumption) (n6 : s_nth f3 14 = some v5 := by first | rfl | assumption) (c7 : In3 x2 := by first | omega | assumption | (simp only [mk_len, List.length_map]; omega) | decide) : wr P d sw_c515 sw_h515 (103, [r0, vi x1, vi x2, vl x3, t4, vi x5], [], h, kc, ks) Q := by
  refine w_ld rfl rfl (Or.inr (Or.inr ⟨by decide, y1⟩)) ?_
  subst e_q2
  refine w_getf rfl g4 n6 ?_
  refine w_ld rfl rfl (Or.inl ⟨by decide, rfl⟩) ?_
  refine w_ld rfl rfl (Or.inr (Or.inl ⟨by decide, rfl⟩)) ?_
  refine w_ld rfl rfl (Or.inl ⟨by decide, rfl⟩) ?_
  refine w_i2l rfl c7 ?_
  exact w_cs rfl [vl x2] [vl x3, vi x2, v5] rfl rfl (s_wt_4 rfl) k

theorem k515_114 {P : s_P} {d : Nat} {Q : s_O → Prop} {h : s_H} {kc ks : Nat} {r0 : Term} {x1 x2 x3 : Int} {t4 : Term} {x5 : Int} {s0 : Term} {s1 s2 s3 : Int} {q2 : Nat} {a3 : List Int} (g4 : s_get h q2 = some (0, 1, a3.map vl)) (k : wr P d sw_c515 sw_h515 (37, [r0, vi x1, vi (x2 + 1), vl x3, t4, vi x5], [], (hp h q2 (0, 1, (a3.set (Int.toNat (s1)) (Int.tmod (s2 * s3) 32003)).map vl)), kc, ks) Q) (e_q2 : s0 = .index q2 := by first | rfl | assumption) (c1 : In6 (s2 * s3) := by first | omega | assumption | (simp only [mk_len, List.length_map]; omega) | decide) (c5 : s1 < a3.length := by first | omega | assumption | (simp only [mk_len, List.length_map]; omega) | decide) (c6 : 0 ≤ s1 := by first | omega | assumption | (simp only [mk_len, List.length_map]; omega) | decide) (c7 : In3 s1 := by first | omega | assumption | (simp only [mk_len, List.length_map]; omega) | decide) (c8 : 0 < q2 := by first | omega | assumption | (simp only [mk_len, List.length_map]; omega) | decide) : wr P d sw_c515 sw_h515 (114, [r0, vi x1, vi x2, vl x3, t4, vi x5], [vl s3, vl s2, vi s1, s0], h, kc, ks) Q := by
  refine w_lmul rfl ?_
  refine w_c64 rfl (by decide) 32003 (by decide) ?_
  refine w_lrem rfl c1 (by decide) (by decide) ?_
  subst e_q2
  refine w_last rfl g4 (Nat.ble_eq_true_of_le c8) c7 c6 c5 ?_
  refine w_iinc (ls' := [r0, vi x1, vi (x2 + 1), vl x3, t4, vi x5]) rfl rfl 1 (by decide) rfl ?_
  refine w_goto rfl ?_
  exact k

theorem k515_126 {P : s_P} {d : Nat} {Q : s_O → Prop} {h : s_H} {kc ks : Nat} {r0 : Term} {x1 x2 : Int} {t3 t4 t5 : Term} {q2 : Nat} {f3 : List Term} (g4 : s_get h q2 = some (1, 11, f3)) (k : wm P d 499 [.index q2, vi 3] h (wq P d sw_c515 sw_h515 131 [.index q2, vi x1, vi x2, t3, t4, t5] [] kc ks Q)) (e_q2 : r0 = .index q2 := by first | rfl | assumption) (y1 : s_ty r0 = 3 := by first | rfl | assumption)  : wr P d sw_c515 sw_h515 (126, [r0, vi x1, vi x2, t3, t4, t5], [], h, kc, ks) Q := by
  refine w_ld rfl rfl (Or.inr (Or.inr ⟨by decide, y1⟩)) ?_
  refine w_c32 rfl (by decide) 3 (by decide) ?_
  subst e_q2
  exact w_cv rfl [.index q2, vi 3] [] rfl rfl (s_wt_4 rfl) rfl g4 k

theorem k515_131 {P : s_P} {d : Nat} {Q : s_O → Prop} {h : s_H} {kc ks : Nat} {r0 : Term} {x1 x2 : Int} {t3 t4 t5 : Term} {s0 : Int}  (k : Q (.inl (some (vi s0)), h, kc, ks))   : wr P d sw_c515 sw_h515 (131, [r0, vi x1, vi x2, t3, t4, t5], [vi s0], h, kc, ks) Q := by
  exact w_iret rfl k

/-! 516: FormulaWorksModel.lower()V -/
theorem k516_0 {P : s_P} {d : Nat} {Q : s_O → Prop} {h : s_H} {kc ks : Nat} {r0 t1 t2 : Term} {q2 : Nat} {f3 : List Term} {v5 : Term} (g4 : s_get h q2 = some (1, 11, f3)) (k : wm P d 463 [v5] h (wq P d sw_c516 sw_h516 7 [.index q2, t1, t2] [] kc ks Q)) (e_q2 : r0 = .index q2 := by first | rfl | assumption) (y1 : s_ty r0 = 3 := by first | rfl | assumption) (n6 : s_nth f3 14 = some v5 := by first | rfl | assumption)  : wr P d sw_c516 sw_h516 (0, [r0, t1, t2], [], h, kc, ks) Q := by
  refine w_ld rfl rfl (Or.inr (Or.inr ⟨by decide, y1⟩)) ?_
  subst e_q2
  refine w_getf rfl g4 n6 ?_
  exact w_cs rfl [v5] [] rfl rfl (s_wt_4 rfl) k

theorem k516_7 {P : s_P} {d : Nat} {Q : s_O → Prop} {h : s_H} {kc ks : Nat} {r0 t1 t2 : Term} {s0 : Int}  (k1 : 0 ≤ s0 → wr P d sw_c516 sw_h516 (19, [r0, t1, t2], [], h, kc, ks) Q) (k2 : ¬ 0 ≤ s0 → wr P d sw_c516 sw_h516 (10, [r0, t1, t2], [], h, kc, ks) Q)  (c1 : In3 s0 := by first | omega | assumption | (simp only [mk_len, List.length_map]; omega) | decide) : wr P d sw_c516 sw_h516 (7, [r0, t1, t2], [vi s0], h, kc, ks) Q := by
  exact w_if1 rfl c1 k1 k2

theorem k516_10 {P : s_P} {d : Nat} {Q : s_O → Prop} {h : s_H} {kc ks : Nat} {r0 t1 t2 : Term} {q2 : Nat} {f3 : List Term} {v5 : Term} (g4 : s_get h q2 = some (1, 11, f3)) (k : wm P d 405 [v5, vl 1] h (wq P d sw_c516 sw_h516 18 [.index q2, t1, t2] [] kc ks Q)) (e_q2 : r0 = .index q2 := by first | rfl | assumption) (y1 : s_ty r0 = 3 := by first | rfl | assumption) (n6 : s_nth f3 15 = some v5 := by first | rfl | assumption)  : wr P d sw_c516 sw_h516 (10, [r0, t1, t2], [], h, kc, ks) Q := by
  refine w_ld rfl rfl (Or.inr (Or.inr ⟨by decide, y1⟩)) ?_
  subst e_q2
  refine w_getf rfl g4 n6 ?_
  refine w_c64 rfl (by decide) 1 (by decide) ?_
  exact w_cs rfl [v5, vl 1] [] rfl rfl (s_wt_4 rfl) k

theorem k516_18 {P : s_P} {d : Nat} {Q : s_O → Prop} {h : s_H} {kc ks : Nat} {r0 t1 t2 : Term}  (k : Q (.inl none, h, kc, ks))   : wr P d sw_c516 sw_h516 (18, [r0, t1, t2], [], h, kc, ks) Q := by
  exact w_ret rfl k

theorem k516_19 {P : s_P} {d : Nat} {Q : s_O → Prop} {h : s_H} {kc ks : Nat} {r0 t1 t2 : Term} {q2 : Nat} {f3 : List Term} {v5 v7 : Term} (g4 : s_get h q2 = some (1, 11, f3)) (k : wm P d 423 [.index q2, v5, v7] h (wq P d sw_c516 sw_h516 31 [.index q2, t1, t2] [] kc ks Q)) (e_q2 : r0 = .index q2 := by first | rfl | assumption) (y1 : s_ty r0 = 3 := by first | rfl | assumption) (n6 : s_nth f3 14 = some v5 := by first | rfl | assumption) (n8 : s_nth f3 15 = some v7 := by first | rfl | assumption)  : wr P d sw_c516 sw_h516 (19, [r0, t1, t2], [], h, kc, ks) Q := by
  refine w_ld rfl rfl (Or.inr (Or.inr ⟨by decide, y1⟩)) ?_
  refine w_ld rfl rfl (Or.inr (Or.inr ⟨by decide, y1⟩)) ?_
  subst e_q2
  refine w_getf rfl g4 n6 ?_
  refine w_ld rfl rfl (Or.inr (Or.inr ⟨by decide, rfl⟩)) ?_
  refine w_getf rfl g4 n8 ?_
  exact w_cv rfl [.index q2, v5, v7] [] rfl rfl (s_wt_4 rfl) rfl g4 k

theorem k516_31 {P : s_P} {d : Nat} {Q : s_O → Prop} {h : s_H} {kc ks : Nat} {r0 t1 t2 : Term} {q2 : Nat} {f3 : List Term} {v5 v7 : Term} (g4 : s_get h q2 = some (1, 11, f3)) (k : wm P d 434 [.index q2, v5, v7] h (wq P d sw_c516 sw_h516 43 [.index q2, t1, t2] [] kc ks Q)) (e_q2 : r0 = .index q2 := by first | rfl | assumption) (y1 : s_ty r0 = 3 := by first | rfl | assumption) (n6 : s_nth f3 14 = some v5 := by first | rfl | assumption) (n8 : s_nth f3 18 = some v7 := by first | rfl | assumption)  : wr P d sw_c516 sw_h516 (31, [r0, t1, t2], [], h, kc, ks) Q := by
  refine w_ld rfl rfl (Or.inr (Or.inr ⟨by decide, y1⟩)) ?_
  refine w_ld rfl rfl (Or.inr (Or.inr ⟨by decide, y1⟩)) ?_
  subst e_q2
  refine w_getf rfl g4 n6 ?_
  refine w_ld rfl rfl (Or.inr (Or.inr ⟨by decide, rfl⟩)) ?_
  refine w_getf rfl g4 n8 ?_
  exact w_cv rfl [.index q2, v5, v7] [] rfl rfl (s_wt_4 rfl) rfl g4 k

theorem k516_43 {P : s_P} {d : Nat} {Q : s_O → Prop} {h : s_H} {kc ks : Nat} {r0 t1 t2 : Term} {q2 : Nat} {f3 : List Term} {v5 v7 : Term} (g4 : s_get h q2 = some (1, 11, f3)) (k : wm P d 434 [.index q2, v5, v7] h (wq P d sw_c516 sw_h516 55 [.index q2, t1, t2] [] kc ks Q)) (e_q2 : r0 = .index q2 := by first | rfl | assumption) (y1 : s_ty r0 = 3 := by first | rfl | assumption) (n6 : s_nth f3 15 = some v5 := by first | rfl | assumption) (n8 : s_nth f3 18 = some v7 := by first | rfl | assumption)  : wr P d sw_c516 sw_h516 (43, [r0, t1, t2], [], h, kc, ks) Q := by
  refine w_ld rfl rfl (Or.inr (Or.inr ⟨by decide, y1⟩)) ?_
  refine w_ld rfl rfl (Or.inr (Or.inr ⟨by decide, y1⟩)) ?_
  subst e_q2
  refine w_getf rfl g4 n6 ?_
  refine w_ld rfl rfl (Or.inr (Or.inr ⟨by decide, rfl⟩)) ?_
  refine w_getf rfl g4 n8 ?_
  exact w_cv rfl [.index q2, v5, v7] [] rfl rfl (s_wt_4 rfl) rfl g4 k

theorem k516_55 {P : s_P} {d : Nat} {Q : s_O → Prop} {h : s_H} {kc ks : Nat} {r0 t1 t2 : Term} {q2 : Nat} {f3 : List Term} {v5 : Term} (g4 : s_get h q2 = some (1, 11, f3)) (k : wm P d 463 [v5] h (wq P d sw_c516 sw_h516 66 [.index q2, t1, t2] [v5] kc ks Q)) (e_q2 : r0 = .index q2 := by first | rfl | assumption) (y1 : s_ty r0 = 3 := by first | rfl | assumption) (n6 : s_nth f3 15 = some v5 := by first | rfl | assumption)  : wr P d sw_c516 sw_h516 (55, [r0, t1, t2], [], h, kc, ks) Q := by
  refine w_ld rfl rfl (Or.inr (Or.inr ⟨by decide, y1⟩)) ?_
  subst e_q2
  refine w_getf rfl g4 n6 ?_
  refine w_ld rfl rfl (Or.inr (Or.inr ⟨by decide, rfl⟩)) ?_
  refine w_getf rfl g4 n6 ?_
  exact w_cs rfl [v5] [v5] rfl rfl (s_wt_4 rfl) k

theorem k516_66 {P : s_P} {d : Nat} {Q : s_O → Prop} {h : s_H} {kc ks : Nat} {r0 t1 t2 s0 : Term} {s1 : Int} {q1 : Nat} {a2 : List Int} (g3 : s_get h q1 = some (0, 1, a2.map vl)) (k : wm P d 467 [vl (gi a2 s1)] h (wq P d sw_c516 sw_h516 70 [r0, t1, t2] [] kc ks Q)) (e_q1 : s0 = .index q1 := by first | rfl | assumption) (c4 : s1 < a2.length := by first | omega | assumption | (simp only [mk_len, List.length_map]; omega) | decide) (c5 : 0 ≤ s1 := by first | omega | assumption | (simp only [mk_len, List.length_map]; omega) | decide) (c6 : In3 s1 := by first | omega | assumption | (simp only [mk_len, List.length_map]; omega) | decide) : wr P d sw_c516 sw_h516 (66, [r0, t1, t2], [vi s1, s0], h, kc, ks) Q := by
  subst e_q1
  refine w_lald rfl g3 c6 c5 c4 ?_
  exact w_cs rfl [vl (gi a2 s1)] [] rfl rfl (s_wt_4 rfl) k

theorem k516_70 {P : s_P} {d : Nat} {Q : s_O → Prop} {h : s_H} {kc ks : Nat} {r0 t1 t2 : Term} {s0 : Int} {q2 : Nat} {f3 : List Term} {v5 : Term} (g4 : s_get h q2 = some (1, 11, f3)) (k : wm P d 592 [v5, vl s0] h (wq P d sw_c516 sw_h516 79 [.index q2, vl s0, .result] [] kc ks Q)) (e_q2 : r0 = .index q2 := by first | rfl | assumption) (y1 : s_ty r0 = 3 := by first | rfl | assumption) (n6 : s_nth f3 14 = some v5 := by first | rfl | assumption)  : wr P d sw_c516 sw_h516 (70, [r0, t1, t2], [vl s0], h, kc, ks) Q := by
  refine w_stl (ls' := [r0, vl s0, t2]) (ls'' := [r0, vl s0, .result]) rfl ⟨by decide, rfl⟩ (s_stK_r (pre := []) y1) rfl ?_
  refine w_ld rfl rfl (Or.inr (Or.inr ⟨by decide, y1⟩)) ?_
  subst e_q2
  refine w_getf rfl g4 n6 ?_
  refine w_ld rfl rfl (Or.inr (Or.inl ⟨by decide, rfl⟩)) ?_
  exact w_cs rfl [v5, vl s0] [] rfl rfl (s_wt_4 rfl) k

theorem k516_79 {P : s_P} {d : Nat} {Q : s_O → Prop} {h : s_H} {kc ks : Nat} {r0 : Term} {x1 : Int} {t2 : Term} {q2 : Nat} {f3 : List Term} {v5 : Term} (g4 : s_get h q2 = some (1, 11, f3)) (k : wm P d 592 [v5, vl x1] h (wq P d sw_c516 sw_h516 87 [.index q2, vl x1, t2] [] kc ks Q)) (e_q2 : r0 = .index q2 := by first | rfl | assumption) (y1 : s_ty r0 = 3 := by first | rfl | assumption) (n6 : s_nth f3 15 = some v5 := by first | rfl | assumption)  : wr P d sw_c516 sw_h516 (79, [r0, vl x1, t2], [], h, kc, ks) Q := by
  refine w_ld rfl rfl (Or.inr (Or.inr ⟨by decide, y1⟩)) ?_
  subst e_q2
  refine w_getf rfl g4 n6 ?_
  refine w_ld rfl rfl (Or.inr (Or.inl ⟨by decide, rfl⟩)) ?_
  exact w_cs rfl [v5, vl x1] [] rfl rfl (s_wt_4 rfl) k

theorem k516_87 {P : s_P} {d : Nat} {Q : s_O → Prop} {h : s_H} {kc ks : Nat} {r0 : Term} {x1 : Int} {t2 : Term}  (k : Q (.inl none, h, kc, ks))   : wr P d sw_c516 sw_h516 (87, [r0, vl x1, t2], [], h, kc, ks) Q := by
  exact w_ret rfl k

/-! 517: FormulaWorksModel.made(III)I -/
theorem k517_0 {P : s_P} {d : Nat} {Q : s_O → Prop} {h : s_H} {kc ks : Nat} {r0 : Term} {x1 x2 x3 : Int} {t4 : Term} {q2 : Nat} {f3 : List Term} (g4 : s_get h q2 = some (1, 11, f3)) (k : wm P d 492 [.index q2, vi x1] h (wq P d sw_c517 sw_h517 6 [.index q2, vi x1, vi x2, vi x3, t4] [.index q2] kc ks Q)) (e_q2 : r0 = .index q2 := by first | rfl | assumption) (y1 : s_ty r0 = 3 := by first | rfl | assumption)  : wr P d sw_c517 sw_h517 (0, [r0, vi x1, vi x2, vi x3, t4], [], h, kc, ks) Q := by
  refine w_ld rfl rfl (Or.inr (Or.inr ⟨by decide, y1⟩)) ?_
  refine w_ld rfl rfl (Or.inr (Or.inr ⟨by decide, y1⟩)) ?_
  refine w_ld rfl rfl (Or.inl ⟨by decide, rfl⟩) ?_
  subst e_q2
  exact w_cv rfl [.index q2, vi x1] [.index q2] rfl rfl (s_wt_4 rfl) rfl g4 k

theorem k517_6 {P : s_P} {d : Nat} {Q : s_O → Prop} {h : s_H} {kc ks : Nat} {r0 : Term} {x1 x2 x3 : Int} {t4 s0 : Term} {s1 : Int}  (k1 : s1 = 0 → wr P d sw_c517 sw_h517 (17, [r0, vi x1, vi x2, vi x3, t4], [s0], h, kc, ks) Q) (k2 : ¬ s1 = 0 → wr P d sw_c517 sw_h517 (9, [r0, vi x1, vi x2, vi x3, t4], [s0], h, kc, ks) Q)  (c1 : In3 s1 := by first | omega | assumption | (simp only [mk_len, List.length_map]; omega) | decide) : wr P d sw_c517 sw_h517 (6, [r0, vi x1, vi x2, vi x3, t4], [vi s1, s0], h, kc, ks) Q := by
  exact w_if1 rfl c1 k1 k2

theorem k517_9 {P : s_P} {d : Nat} {Q : s_O → Prop} {h : s_H} {kc ks : Nat} {r0 : Term} {x1 x2 x3 : Int} {t4 s0 : Term} {q2 : Nat} {f3 : List Term} (g4 : s_get h q2 = some (1, 11, f3)) (k : wm P d 492 [.index q2, vi x3] h (wq P d sw_c517 sw_h517 14 [.index q2, vi x1, vi x2, vi x3, t4] [s0] kc ks Q)) (e_q2 : r0 = .index q2 := by first | rfl | assumption) (y1 : s_ty r0 = 3 := by first | rfl | assumption)  : wr P d sw_c517 sw_h517 (9, [r0, vi x1, vi x2, vi x3, t4], [s0], h, kc, ks) Q := by
  refine w_ld rfl rfl (Or.inr (Or.inr ⟨by decide, y1⟩)) ?_
  refine w_ld rfl rfl (Or.inl ⟨by decide, rfl⟩) ?_
  subst e_q2
  exact w_cv rfl [.index q2, vi x3] [s0] rfl rfl (s_wt_4 rfl) rfl g4 k

theorem k517_14 {P : s_P} {d : Nat} {Q : s_O → Prop} {h : s_H} {kc ks : Nat} {r0 : Term} {x1 x2 x3 : Int} {t4 s0 : Term} {s1 : Int}  (k1 : s1 ≠ 0 → wr P d sw_c517 sw_h517 (21, [r0, vi x1, vi x2, vi x3, t4], [s0], h, kc, ks) Q) (k2 : ¬ s1 ≠ 0 → wr P d sw_c517 sw_h517 (17, [r0, vi x1, vi x2, vi x3, t4], [s0], h, kc, ks) Q)  (c1 : In3 s1 := by first | omega | assumption | (simp only [mk_len, List.length_map]; omega) | decide) : wr P d sw_c517 sw_h517 (14, [r0, vi x1, vi x2, vi x3, t4], [vi s1, s0], h, kc, ks) Q := by
  exact w_if1 rfl c1 k1 k2

theorem k517_17 {P : s_P} {d : Nat} {Q : s_O → Prop} {h : s_H} {kc ks : Nat} {r0 : Term} {x1 x2 x3 : Int} {t4 s0 : Term}  (k : wr P d sw_c517 sw_h517 (89, [r0, vi x1, vi x2, vi x3, t4], [vi 1, s0], h, kc, ks) Q)   : wr P d sw_c517 sw_h517 (17, [r0, vi x1, vi x2, vi x3, t4], [s0], h, kc, ks) Q := by
  refine w_c32 rfl (by decide) 1 (by decide) ?_
  refine w_goto rfl ?_
  exact k

theorem k517_21 {P : s_P} {d : Nat} {Q : s_O → Prop} {h : s_H} {kc ks : Nat} {r0 : Term} {x1 x2 x3 : Int} {t4 s0 : Term} {q2 : Nat} {f3 : List Term} (g4 : s_get h q2 = some (1, 11, f3)) (k : wm P d 486 [.index q2, vi x1] h (wq P d sw_c517 sw_h517 26 [.index q2, vi x1, vi x2, vi x3, t4] [s0] kc ks Q)) (e_q2 : r0 = .index q2 := by first | rfl | assumption) (y1 : s_ty r0 = 3 := by first | rfl | assumption)  : wr P d sw_c517 sw_h517 (21, [r0, vi x1, vi x2, vi x3, t4], [s0], h, kc, ks) Q := by
  refine w_ld rfl rfl (Or.inr (Or.inr ⟨by decide, y1⟩)) ?_
  refine w_ld rfl rfl (Or.inl ⟨by decide, rfl⟩) ?_
  subst e_q2
  exact w_cv rfl [.index q2, vi x1] [s0] rfl rfl (s_wt_4 rfl) rfl g4 k

theorem k517_26 {P : s_P} {d : Nat} {Q : s_O → Prop} {h : s_H} {kc ks : Nat} {r0 : Term} {x1 x2 x3 : Int} {t4 s0 : Term} {s1 : Int}  (k1 : s1 = 0 → wr P d sw_c517 sw_h517 (70, [r0, vi x1, vi x2, vi x3, t4], [s0], h, kc, ks) Q) (k2 : ¬ s1 = 0 → wr P d sw_c517 sw_h517 (29, [r0, vi x1, vi x2, vi x3, t4], [s0], h, kc, ks) Q)  (c1 : In3 s1 := by first | omega | assumption | (simp only [mk_len, List.length_map]; omega) | decide) : wr P d sw_c517 sw_h517 (26, [r0, vi x1, vi x2, vi x3, t4], [vi s1, s0], h, kc, ks) Q := by
  exact w_if1 rfl c1 k1 k2

theorem k517_29 {P : s_P} {d : Nat} {Q : s_O → Prop} {h : s_H} {kc ks : Nat} {r0 : Term} {x1 x2 x3 : Int} {t4 s0 : Term}  (k : wm P d 464 [vl x2, vl 0, vl 1] h (wq P d sw_c517 sw_h517 36 [r0, vi x1, vi x2, vi x3, t4] [s0] kc ks Q))  (c1 : In3 x2 := by first | omega | assumption | (simp only [mk_len, List.length_map]; omega) | decide) : wr P d sw_c517 sw_h517 (29, [r0, vi x1, vi x2, vi x3, t4], [s0], h, kc, ks) Q := by
  refine w_ld rfl rfl (Or.inl ⟨by decide, rfl⟩) ?_
  refine w_i2l rfl c1 ?_
  refine w_c64 rfl (by decide) 0 (by decide) ?_
  refine w_c64 rfl (by decide) 1 (by decide) ?_
  exact w_cs rfl [vl x2, vl 0, vl 1] [s0] rfl rfl (s_wt_4 rfl) k

theorem k517_36 {P : s_P} {d : Nat} {Q : s_O → Prop} {h : s_H} {kc ks : Nat} {r0 : Term} {x1 x2 x3 : Int} {t4 s0 : Term} {s1 : Int}  (k1 : s1 = 0 → wr P d sw_c517 sw_h517 (70, [r0, vi x1, vi x2, vi x3, t4], [s0], h, kc, ks) Q) (k2 : ¬ s1 = 0 → wr P d sw_c517 sw_h517 (39, [r0, vi x1, vi x2, vi x3, t4], [s0], h, kc, ks) Q)  (c1 : In3 s1 := by first | omega | assumption | (simp only [mk_len, List.length_map]; omega) | decide) : wr P d sw_c517 sw_h517 (36, [r0, vi x1, vi x2, vi x3, t4], [vi s1, s0], h, kc, ks) Q := by
  exact w_if1 rfl c1 k1 k2

theorem k517_39 {P : s_P} {d : Nat} {Q : s_O → Prop} {h : s_H} {kc ks : Nat} {r0 : Term} {x1 x2 x3 : Int} {t4 s0 : Term} {q2 : Nat} {f3 : List Term} (g4 : s_get h q2 = some (1, 11, f3)) (k : wm P d 469 [.index q2, vi x3, vi 2] h (wq P d sw_c517 sw_h517 45 [.index q2, vi x1, vi x2, vi x3, t4] [s0] kc ks Q)) (e_q2 : r0 = .index q2 := by first | rfl | assumption) (y1 : s_ty r0 = 3 := by first | rfl | assumption)  : wr P d sw_c517 sw_h517 (39, [r0, vi x1, vi x2, vi x3, t4], [s0], h, kc, ks) Q := by
  refine w_ld rfl rfl (Or.inr (Or.inr ⟨by decide, y1⟩)) ?_
  refine w_ld rfl rfl (Or.inl ⟨by decide, rfl⟩) ?_
  refine w_c32 rfl (by decide) 2 (by decide) ?_
  subst e_q2
  exact w_cv rfl [.index q2, vi x3, vi 2] [s0] rfl rfl (s_wt_4 rfl) rfl g4 k

theorem k517_45 {P : s_P} {d : Nat} {Q : s_O → Prop} {h : s_H} {kc ks : Nat} {r0 : Term} {x1 x2 x3 : Int} {t4 s0 : Term} {s1 : Int}  (k1 : s1 ≠ 0 → wr P d sw_c517 sw_h517 (70, [r0, vi x1, vi x2, vi x3, t4], [s0], h, kc, ks) Q) (k2 : ¬ s1 ≠ 0 → wr P d sw_c517 sw_h517 (48, [r0, vi x1, vi x2, vi x3, t4], [s0], h, kc, ks) Q)  (c1 : In3 s1 := by first | omega | assumption | (simp only [mk_len, List.length_map]; omega) | decide) : wr P d sw_c517 sw_h517 (45, [r0, vi x1, vi x2, vi x3, t4], [vi s1, s0], h, kc, ks) Q := by
  exact w_if1 rfl c1 k1 k2

theorem k517_48 {P : s_P} {d : Nat} {Q : s_O → Prop} {h : s_H} {kc ks : Nat} {r0 : Term} {x1 x2 x3 : Int} {t4 s0 : Term} {q2 : Nat} {f3 : List Term} (g4 : s_get h q2 = some (1, 11, f3)) (k : wm P d 469 [.index q2, vi x3, vi 3] h (wq P d sw_c517 sw_h517 54 [.index q2, vi x1, vi x2, vi x3, t4] [s0] kc ks Q)) (e_q2 : r0 = .index q2 := by first | rfl | assumption) (y1 : s_ty r0 = 3 := by first | rfl | assumption)  : wr P d sw_c517 sw_h517 (48, [r0, vi x1, vi x2, vi x3, t4], [s0], h, kc, ks) Q := by
  refine w_ld rfl rfl (Or.inr (Or.inr ⟨by decide, y1⟩)) ?_
  refine w_ld rfl rfl (Or.inl ⟨by decide, rfl⟩) ?_
  refine w_c32 rfl (by decide) 3 (by decide) ?_
  subst e_q2
  exact w_cv rfl [.index q2, vi x3, vi 3] [s0] rfl rfl (s_wt_4 rfl) rfl g4 k

theorem k517_54 {P : s_P} {d : Nat} {Q : s_O → Prop} {h : s_H} {kc ks : Nat} {r0 : Term} {x1 x2 x3 : Int} {t4 s0 : Term} {s1 : Int}  (k1 : s1 ≠ 0 → wr P d sw_c517 sw_h517 (70, [r0, vi x1, vi x2, vi x3, t4], [s0], h, kc, ks) Q) (k2 : ¬ s1 ≠ 0 → wr P d sw_c517 sw_h517 (57, [r0, vi x1, vi x2, vi x3, t4], [s0], h, kc, ks) Q)  (c1 : In3 s1 := by first | omega | assumption | (simp only [mk_len, List.length_map]; omega) | decide) : wr P d sw_c517 sw_h517 (54, [r0, vi x1, vi x2, vi x3, t4], [vi s1, s0], h, kc, ks) Q := by
  exact w_if1 rfl c1 k1 k2

theorem k517_57 {P : s_P} {d : Nat} {Q : s_O → Prop} {h : s_H} {kc ks : Nat} {r0 : Term} {x1 x2 x3 : Int} {t4 s0 : Term} {q2 : Nat} {f3 : List Term} (g4 : s_get h q2 = some (1, 11, f3)) (k : wm P d 469 [.index q2, vi x3, vi 1] h (wq P d sw_c517 sw_h517 63 [.index q2, vi x1, vi x2, vi x3, t4] [s0] kc ks Q)) (e_q2 : r0 = .index q2 := by first | rfl | assumption) (y1 : s_ty r0 = 3 := by first | rfl | assumption)  : wr P d sw_c517 sw_h517 (57, [r0, vi x1, vi x2, vi x3, t4], [s0], h, kc, ks) Q := by
  refine w_ld rfl rfl (Or.inr (Or.inr ⟨by decide, y1⟩)) ?_
  refine w_ld rfl rfl (Or.inl ⟨by decide, rfl⟩) ?_
  refine w_c32 rfl (by decide) 1 (by decide) ?_
  subst e_q2
  exact w_cv rfl [.index q2, vi x3, vi 1] [s0] rfl rfl (s_wt_4 rfl) rfl g4 k

theorem k517_63 {P : s_P} {d : Nat} {Q : s_O → Prop} {h : s_H} {kc ks : Nat} {r0 : Term} {x1 x2 x3 : Int} {t4 s0 : Term} {s1 : Int}  (k1 : s1 = 0 → wr P d sw_c517 sw_h517 (74, [r0, vi x1, vi x2, vi x3, t4], [s0], h, kc, ks) Q) (k2 : ¬ s1 = 0 → wr P d sw_c517 sw_h517 (66, [r0, vi x1, vi x2, vi x3, t4], [s0], h, kc, ks) Q)  (c1 : In3 s1 := by first | omega | assumption | (simp only [mk_len, List.length_map]; omega) | decide) : wr P d sw_c517 sw_h517 (63, [r0, vi x1, vi x2, vi x3, t4], [vi s1, s0], h, kc, ks) Q := by
  exact w_if1 rfl c1 k1 k2

theorem k517_66 {P : s_P} {d : Nat} {Q : s_O → Prop} {h : s_H} {kc ks : Nat} {r0 : Term} {x1 x2 x3 : Int} {t4 s0 : Term}  (k1 : x2 ≠ 0 → wr P d sw_c517 sw_h517 (74, [r0, vi x1, vi x2, vi x3, t4], [s0], h, kc, ks) Q) (k2 : ¬ x2 ≠ 0 → wr P d sw_c517 sw_h517 (70, [r0, vi x1, vi x2, vi x3, t4], [s0], h, kc, ks) Q)  (c1 : In3 x2 := by first | omega | assumption | (simp only [mk_len, List.length_map]; omega) | decide) : wr P d sw_c517 sw_h517 (66, [r0, vi x1, vi x2, vi x3, t4], [s0], h, kc, ks) Q := by
  refine w_ld rfl rfl (Or.inl ⟨by decide, rfl⟩) ?_
  exact w_if1 rfl c1 k1 k2

theorem k517_70 {P : s_P} {d : Nat} {Q : s_O → Prop} {h : s_H} {kc ks : Nat} {r0 : Term} {x1 x2 x3 : Int} {t4 s0 : Term}  (k : wr P d sw_c517 sw_h517 (89, [r0, vi x1, vi x2, vi x3, t4], [vi 2, s0], h, kc, ks) Q)   : wr P d sw_c517 sw_h517 (70, [r0, vi x1, vi x2, vi x3, t4], [s0], h, kc, ks) Q := by
  refine w_c32 rfl (by decide) 2 (by decide) ?_
  refine w_goto rfl ?_
  exact k

theorem k517_74 {P : s_P} {d : Nat} {Q : s_O → Prop} {h : s_H} {kc ks : Nat} {r0 : Term} {x1 x2 x3 : Int} {t4 s0 : Term} {q2 : Nat} {f3 : List Term} {z5 : Int} (g4 : s_get h q2 = some (1, 11, f3)) (k1 : z5 ≠ 150 → wr P d sw_c517 sw_h517 (88, [.index q2, vi x1, vi x2, vi x3, t4], [s0], h, kc, ks) Q) (k2 : ¬ z5 ≠ 150 → wr P d sw_c517 sw_h517 (84, [.index q2, vi x1, vi x2, vi x3, t4], [s0], h, kc, ks) Q) (e_q2 : r0 = .index q2 := by first | rfl | assumption) (y1 : s_ty r0 = 3 := by first | rfl | assumption) (n6 : s_nth f3 1 = some (vi z5) := by first | rfl | assumption) (c7 : In3 z5 := by first | omega | assumption | (simp only [mk_len, List.length_map]; omega) | decide) : wr P d sw_c517 sw_h517 (74, [r0, vi x1, vi x2, vi x3, t4], [s0], h, kc, ks) Q := by
  refine w_ld rfl rfl (Or.inr (Or.inr ⟨by decide, y1⟩)) ?_
  subst e_q2
  refine w_getf rfl g4 n6 ?_
  refine w_c32 rfl (by decide) 150 (by decide) ?_
  exact w_if2 rfl c7 (by decide) k1 k2

theorem k517_84 {P : s_P} {d : Nat} {Q : s_O → Prop} {h : s_H} {kc ks : Nat} {r0 : Term} {x1 x2 x3 : Int} {t4 s0 : Term}  (k : wr P d sw_c517 sw_h517 (89, [r0, vi x1, vi x2, vi x3, t4], [vi 3, s0], h, kc, ks) Q)   : wr P d sw_c517 sw_h517 (84, [r0, vi x1, vi x2, vi x3, t4], [s0], h, kc, ks) Q := by
  refine w_c32 rfl (by decide) 3 (by decide) ?_
  refine w_goto rfl ?_
  exact k

theorem k517_88 {P : s_P} {d : Nat} {Q : s_O → Prop} {h : s_H} {kc ks : Nat} {r0 : Term} {x1 x2 x3 : Int} {t4 s0 : Term}  (k : wr P d sw_c517 sw_h517 (89, [r0, vi x1, vi x2, vi x3, t4], [vi 0, s0], h, kc, ks) Q)   : wr P d sw_c517 sw_h517 (88, [r0, vi x1, vi x2, vi x3, t4], [s0], h, kc, ks) Q := by
  refine w_c32 rfl (by decide) 0 (by decide) ?_
  exact k

theorem k517_89 {P : s_P} {d : Nat} {Q : s_O → Prop} {h : s_H} {kc ks : Nat} {r0 : Term} {x1 x2 x3 : Int} {t4 s0 : Term} {s1 : Int} {q1 : Nat} {f2 : List Term} {q7 : Nat} {f8 : List Term} {z10 : Int} (g3 : s_get h q1 = some (1, 11, f2)) (g9 : s_get (hp h q1 (1, 11, f2.set 0 (vi s1))) q7 = some (1, 11, f8)) (k1 : z10 ≤ 0 → wr P d sw_c517 sw_h517 (101, [.index q7, vi x1, vi x2, vi x3, t4], [], (hp h q1 (1, 11, f2.set 0 (vi s1))), kc, ks) Q) (k2 : ¬ z10 ≤ 0 → wr P d sw_c517 sw_h517 (99, [.index q7, vi x1, vi x2, vi x3, t4], [], (hp h q1 (1, 11, f2.set 0 (vi s1))), kc, ks) Q) (e_q1 : s0 = .index q1 := by first | rfl | assumption) (e_q7 : r0 = .index q7 := by first | rfl | assumption) (l4 : 0 < f2.length := by first | exact Nat.le_of_ble_eq_true rfl | omega | assumption) (y6 : s_ty r0 = 3 := by first | rfl | assumption) (n11 : s_nth f8 0 = some (vi z10) := by first | rfl | assumption) (c5 : 0 < q1 := by first | omega | assumption | (simp only [mk_len, List.length_map]; omega) | decide) (c12 : In3 z10 := by first | omega | assumption | (simp only [mk_len, List.length_map]; omega) | decide) : wr P d sw_c517 sw_h517 (89, [r0, vi x1, vi x2, vi x3, t4], [vi s1, s0], h, kc, ks) Q := by
  subst e_q1
  refine w_putf rfl g3 (Nat.ble_eq_true_of_le c5) rfl (Nat.ble_eq_true_of_le l4) ?_
  refine w_ld rfl rfl (Or.inr (Or.inr ⟨by decide, y6⟩)) ?_
  subst e_q7
  refine w_getf rfl g9 n11 ?_
  exact w_if1 rfl c12 k1 k2

theorem k517_99 {P : s_P} {d : Nat} {Q : s_O → Prop} {h : s_H} {kc ks : Nat} {r0 : Term} {x1 x2 x3 : Int} {t4 : Term}  (k : Q (.inl (some (vi 0)), h, kc, ks))   : wr P d sw_c517 sw_h517 (99, [r0, vi x1, vi x2, vi x3, t4], [], h, kc, ks) Q := by
  refine w_c32 rfl (by decide) 0 (by decide) ?_
  exact w_iret rfl k

theorem k517_101 {P : s_P} {d : Nat} {Q : s_O → Prop} {h : s_H} {kc ks : Nat} {r0 : Term} {x1 x2 x3 : Int} {t4 : Term} {q2 : Nat} {f3 : List Term} {v5 v7 : Term} (g4 : s_get h q2 = some (1, 11, f3)) (k : wm P d 505 [.index q2, v5, v7, vi x3] h (wq P d sw_c517 sw_h517 114 [.index q2, vi x1, vi x2, vi x3, t4] [] kc ks Q)) (e_q2 : r0 = .index q2 := by first | rfl | assumption) (y1 : s_ty r0 = 3 := by first | rfl | assumption) (n6 : s_nth f3 10 = some v5 := by first | rfl | assumption) (n8 : s_nth f3 11 = some v7 := by first | rfl | assumption)  : wr P d sw_c517 sw_h517 (101, [r0, vi x1, vi x2, vi x3, t4], [], h, kc, ks) Q := by
  refine w_ld rfl rfl (Or.inr (Or.inr ⟨by decide, y1⟩)) ?_
  refine w_ld rfl rfl (Or.inr (Or.inr ⟨by decide, y1⟩)) ?_
  subst e_q2
  refine w_getf rfl g4 n6 ?_
  refine w_ld rfl rfl (Or.inr (Or.inr ⟨by decide, rfl⟩)) ?_
  refine w_getf rfl g4 n8 ?_
  refine w_ld rfl rfl (Or.inl ⟨by decide, rfl⟩) ?_
  exact w_cv rfl [.index q2, v5, v7, vi x3] [] rfl rfl (s_wt_4 rfl) rfl g4 k

theorem k517_114 {P : s_P} {d : Nat} {Q : s_O → Prop} {h : s_H} {kc ks : Nat} {r0 : Term} {x1 x2 x3 : Int} {t4 : Term} {q2 : Nat} {f3 : List Term} (g4 : s_get h q2 = some (1, 11, f3)) (k : wm P d 469 [.index q2, vi x3, vi 1] h (wq P d sw_c517 sw_h517 120 [.index q2, vi x1, vi x2, vi x3, t4] [] kc ks Q)) (e_q2 : r0 = .index q2 := by first | rfl | assumption) (y1 : s_ty r0 = 3 := by first | rfl | assumption)  : wr P d sw_c517 sw_h517 (114, [r0, vi x1, vi x2, vi x3, t4], [], h, kc, ks) Q := by
  refine w_ld rfl rfl (Or.inr (Or.inr ⟨by decide, y1⟩)) ?_
  refine w_ld rfl rfl (Or.inl ⟨by decide, rfl⟩) ?_
  refine w_c32 rfl (by decide) 1 (by decide) ?_
  subst e_q2
  exact w_cv rfl [.index q2, vi x3, vi 1] [] rfl rfl (s_wt_4 rfl) rfl g4 k

theorem k517_120 {P : s_P} {d : Nat} {Q : s_O → Prop} {h : s_H} {kc ks : Nat} {r0 : Term} {x1 x2 x3 : Int} {t4 : Term} {s0 : Int}  (k1 : s0 = 0 → wr P d sw_c517 sw_h517 (221, [r0, vi x1, vi x2, vi x3, t4], [], h, kc, ks) Q) (k2 : ¬ s0 = 0 → wr P d sw_c517 sw_h517 (123, [r0, vi x1, vi x2, vi x3, t4], [], h, kc, ks) Q)  (c1 : In3 s0 := by first | omega | assumption | (simp only [mk_len, List.length_map]; omega) | decide) : wr P d sw_c517 sw_h517 (120, [r0, vi x1, vi x2, vi x3, t4], [vi s0], h, kc, ks) Q := by
  exact w_if1 rfl c1 k1 k2

theorem k517_123 {P : s_P} {d : Nat} {Q : s_O → Prop} {h : s_H} {kc ks : Nat} {r0 : Term} {x1 x2 x3 : Int} {t4 : Term} {q2 : Nat} {f3 : List Term} {v5 : Term} (g4 : s_get h q2 = some (1, 11, f3)) (k : wm P d 438 [v5] h (wq P d sw_c517 sw_h517 130 [.index q2, vi x1, vi x2, vi x3, t4] [] kc ks Q)) (e_q2 : r0 = .index q2 := by first | rfl | assumption) (y1 : s_ty r0 = 3 := by first | rfl | assumption) (n6 : s_nth f3 14 = some v5 := by first | rfl | assumption)  : wr P d sw_c517 sw_h517 (123, [r0, vi x1, vi x2, vi x3, t4], [], h, kc, ks) Q := by
  refine w_ld rfl rfl (Or.inr (Or.inr ⟨by decide, y1⟩)) ?_
  subst e_q2
  refine w_getf rfl g4 n6 ?_
  exact w_cs rfl [v5] [] rfl rfl (s_wt_4 rfl) k

theorem k517_130 {P : s_P} {d : Nat} {Q : s_O → Prop} {h : s_H} {kc ks : Nat} {r0 : Term} {x1 x2 x3 : Int} {t4 : Term}  (k : wr P d sw_c517 sw_h517 (133, [r0, vi x1, vi x2, vi x3, vi 0], [], h, kc, ks) Q)   : wr P d sw_c517 sw_h517 (130, [r0, vi x1, vi x2, vi x3, t4], [], h, kc, ks) Q := by
  refine w_c32 rfl (by decide) 0 (by decide) ?_
  refine w_st (ls' := [r0, vi x1, vi x2, vi x3, vi 0]) rfl (Or.inl ⟨by decide, rfl⟩) rfl ?_
  exact k

theorem k517_133 {P : s_P} {d : Nat} {Q : s_O → Prop} {h : s_H} {kc ks : Nat} {r0 : Term} {x1 x2 x3 x4 : Int} {q2 : Nat} {f3 : List Term} {v5 : Term} {q7 : Nat} {a8 : List Int} (g4 : s_get h q2 = some (1, 11, f3)) (g9 : s_get h q7 = some (0, 0, a8.map vi)) (k1 : gi a8 x1 ≤ x4 → wr P d sw_c517 sw_h517 (208, [.index q2, vi x1, vi x2, vi x3, vi x4], [], h, kc, ks) Q) (k2 : ¬ gi a8 x1 ≤ x4 → wr P d sw_c517 sw_h517 (144, [.index q2, vi x1, vi x2, vi x3, vi x4], [], h, kc, ks) Q) (e_q2 : r0 = .index q2 := by first | rfl | assumption) (e_q7 : v5 = .index q7 := by first | rfl | assumption) (y1 : s_ty r0 = 3 := by first | rfl | assumption) (n6 : s_nth f3 6 = some v5 := by first | rfl | assumption) (c10 : x1 < a8.length := by first | omega | assumption | (simp only [mk_len, List.length_map]; omega) | decide) (c11 : 0 ≤ x1 := by first | omega | assumption | (simp only [mk_len, List.length_map]; omega) | decide) (c12 : In3 x1 := by first | omega | assumption | (simp only [mk_len, List.length_map]; omega) | decide) (c13 : In3 x4 := by first | omega | assumption | (simp only [mk_len, List.length_map]; omega) | decide) (c14 : In3 (gi a8 x1) := by first | omega | assumption | (simp only [mk_len, List.length_map]; omega) | decide) : wr P d sw_c517 sw_h517 (133, [r0, vi x1, vi x2, vi x3, vi x4], [], h, kc, ks) Q := by
  refine w_ld rfl rfl (Or.inl ⟨by decide, rfl⟩) ?_
  refine w_ld rfl rfl (Or.inr (Or.inr ⟨by decide, y1⟩)) ?_
  subst e_q2
  refine w_getf rfl g4 n6 ?_
  refine w_ld rfl rfl (Or.inl ⟨by decide, rfl⟩) ?_
  subst e_q7
  refine w_iald rfl g9 (Or.inl rfl) c12 c11 c10 ?_
  exact w_if2 rfl c13 c14 k1 k2

theorem k517_144 {P : s_P} {d : Nat} {Q : s_O → Prop} {h : s_H} {kc ks : Nat} {r0 : Term} {x1 x2 x3 x4 : Int} {q2 : Nat} {f3 : List Term} {v5 : Term} (g4 : s_get h q2 = some (1, 11, f3)) (k : wm P d 508 [.index q2, v5, vi x1, vi 0, vi x4] h (wq P d sw_c517 sw_h517 156 [.index q2, vi x1, vi x2, vi x3, vi x4] [] kc ks Q)) (e_q2 : r0 = .index q2 := by first | rfl | assumption) (y1 : s_ty r0 = 3 := by first | rfl | assumption) (n6 : s_nth f3 20 = some v5 := by first | rfl | assumption)  : wr P d sw_c517 sw_h517 (144, [r0, vi x1, vi x2, vi x3, vi x4], [], h, kc, ks) Q := by
  refine w_ld rfl rfl (Or.inr (Or.inr ⟨by decide, y1⟩)) ?_
  refine w_ld rfl rfl (Or.inr (Or.inr ⟨by decide, y1⟩)) ?_
  subst e_q2
  refine w_getf rfl g4 n6 ?_
  refine w_ld rfl rfl (Or.inl ⟨by decide, rfl⟩) ?_
  refine w_c32 rfl (by decide) 0 (by decide) ?_
  refine w_ld rfl rfl (Or.inl ⟨by decide, rfl⟩) ?_
  exact w_cv rfl [.index q2, v5, vi x1, vi 0, vi x4] [] rfl rfl (s_wt_4 rfl) rfl g4 k

theorem k517_156 {P : s_P} {d : Nat} {Q : s_O → Prop} {h : s_H} {kc ks : Nat} {r0 : Term} {x1 x2 x3 x4 : Int} {q2 : Nat} {f3 : List Term} {v5 v7 : Term} (g4 : s_get h q2 = some (1, 11, f3)) (k : wm P d 531 [.index q2, v5, v7] h (wq P d sw_c517 sw_h517 168 [.index q2, vi x1, vi x2, vi x3, vi x4] [] kc ks Q)) (e_q2 : r0 = .index q2 := by first | rfl | assumption) (y1 : s_ty r0 = 3 := by first | rfl | assumption) (n6 : s_nth f3 20 = some v5 := by first | rfl | assumption) (n8 : s_nth f3 10 = some v7 := by first | rfl | assumption)  : wr P d sw_c517 sw_h517 (156, [r0, vi x1, vi x2, vi x3, vi x4], [], h, kc, ks) Q := by
  refine w_ld rfl rfl (Or.inr (Or.inr ⟨by decide, y1⟩)) ?_
  refine w_ld rfl rfl (Or.inr (Or.inr ⟨by decide, y1⟩)) ?_
  subst e_q2
  refine w_getf rfl g4 n6 ?_
  refine w_ld rfl rfl (Or.inr (Or.inr ⟨by decide, rfl⟩)) ?_
  refine w_getf rfl g4 n8 ?_
  exact w_cv rfl [.index q2, v5, v7] [] rfl rfl (s_wt_4 rfl) rfl g4 k

theorem k517_168 {P : s_P} {d : Nat} {Q : s_O → Prop} {h : s_H} {kc ks : Nat} {r0 : Term} {x1 x2 x3 x4 : Int} {q2 : Nat} {f3 : List Term} {v5 v7 : Term} (g4 : s_get h q2 = some (1, 11, f3)) (k : wm P d 529 [v5, v7, vl 1] h (wq P d sw_c517 sw_h517 180 [.index q2, vi x1, vi x2, vi x3, vi x4] [] kc ks Q)) (e_q2 : r0 = .index q2 := by first | rfl | assumption) (y1 : s_ty r0 = 3 := by first | rfl | assumption) (n6 : s_nth f3 14 = some v5 := by first | rfl | assumption) (n8 : s_nth f3 16 = some v7 := by first | rfl | assumption)  : wr P d sw_c517 sw_h517 (168, [r0, vi x1, vi x2, vi x3, vi x4], [], h, kc, ks) Q := by
  refine w_ld rfl rfl (Or.inr (Or.inr ⟨by decide, y1⟩)) ?_
  subst e_q2
  refine w_getf rfl g4 n6 ?_
  refine w_ld rfl rfl (Or.inr (Or.inr ⟨by decide, rfl⟩)) ?_
  refine w_getf rfl g4 n8 ?_
  refine w_c64 rfl (by decide) 1 (by decide) ?_
  exact w_cs rfl [v5, v7, vl 1] [] rfl rfl (s_wt_4 rfl) k

theorem k517_180 {P : s_P} {d : Nat} {Q : s_O → Prop} {h : s_H} {kc ks : Nat} {r0 : Term} {x1 x2 x3 x4 : Int} {q2 : Nat} {f3 : List Term} {v5 v7 : Term} (g4 : s_get h q2 = some (1, 11, f3)) (k : wm P d 596 [v5, v7] h (wq P d sw_c517 sw_h517 191 [.index q2, vi x1, vi x2, vi x3, vi x4] [] kc ks Q)) (e_q2 : r0 = .index q2 := by first | rfl | assumption) (y1 : s_ty r0 = 3 := by first | rfl | assumption) (n6 : s_nth f3 21 = some v5 := by first | rfl | assumption) (n8 : s_nth f3 10 = some v7 := by first | rfl | assumption)  : wr P d sw_c517 sw_h517 (180, [r0, vi x1, vi x2, vi x3, vi x4], [], h, kc, ks) Q := by
  refine w_ld rfl rfl (Or.inr (Or.inr ⟨by decide, y1⟩)) ?_
  subst e_q2
  refine w_getf rfl g4 n6 ?_
  refine w_ld rfl rfl (Or.inr (Or.inr ⟨by decide, rfl⟩)) ?_
  refine w_getf rfl g4 n8 ?_
  exact w_cs rfl [v5, v7] [] rfl rfl (s_wt_4 rfl) k

theorem k517_191 {P : s_P} {d : Nat} {Q : s_O → Prop} {h : s_H} {kc ks : Nat} {r0 : Term} {x1 x2 x3 x4 : Int} {q2 : Nat} {f3 : List Term} {v5 v7 : Term} (g4 : s_get h q2 = some (1, 11, f3)) (k : wm P d 425 [v5, v7] h (wq P d sw_c517 sw_h517 202 [.index q2, vi x1, vi x2, vi x3, vi x4] [] kc ks Q)) (e_q2 : r0 = .index q2 := by first | rfl | assumption) (y1 : s_ty r0 = 3 := by first | rfl | assumption) (n6 : s_nth f3 10 = some v5 := by first | rfl | assumption) (n8 : s_nth f3 21 = some v7 := by first | rfl | assumption)  : wr P d sw_c517 sw_h517 (191, [r0, vi x1, vi x2, vi x3, vi x4], [], h, kc, ks) Q := by
  refine w_ld rfl rfl (Or.inr (Or.inr ⟨by decide, y1⟩)) ?_
  subst e_q2
  refine w_getf rfl g4 n6 ?_
  refine w_ld rfl rfl (Or.inr (Or.inr ⟨by decide, rfl⟩)) ?_
  refine w_getf rfl g4 n8 ?_
  exact w_cs rfl [v5, v7] [] rfl rfl (s_wt_4 rfl) k

theorem k517_202 {P : s_P} {d : Nat} {Q : s_O → Prop} {h : s_H} {kc ks : Nat} {r0 : Term} {x1 x2 x3 x4 : Int}  (k : wr P d sw_c517 sw_h517 (133, [r0, vi x1, vi x2, vi x3, vi (x4 + 1)], [], h, kc, ks) Q)   : wr P d sw_c517 sw_h517 (202, [r0, vi x1, vi x2, vi x3, vi x4], [], h, kc, ks) Q := by
  refine w_iinc (ls' := [r0, vi x1, vi x2, vi x3, vi (x4 + 1)]) rfl rfl 1 (by decide) rfl ?_
  refine w_goto rfl ?_
  exact k

theorem k517_208 {P : s_P} {d : Nat} {Q : s_O → Prop} {h : s_H} {kc ks : Nat} {r0 : Term} {x1 x2 x3 x4 : Int} {q2 : Nat} {f3 : List Term} {v5 : Term} (g4 : s_get h q2 = some (1, 11, f3)) (k : wm P d 428 [v5] h (wq P d sw_c517 sw_h517 215 [.index q2, vi x1, vi x2, vi x3, vi x4] [] kc ks Q)) (e_q2 : r0 = .index q2 := by first | rfl | assumption) (y1 : s_ty r0 = 3 := by first | rfl | assumption) (n6 : s_nth f3 14 = some v5 := by first | rfl | assumption)  : wr P d sw_c517 sw_h517 (208, [r0, vi x1, vi x2, vi x3, vi x4], [], h, kc, ks) Q := by
  refine w_ld rfl rfl (Or.inr (Or.inr ⟨by decide, y1⟩)) ?_
  subst e_q2
  refine w_getf rfl g4 n6 ?_
  exact w_cs rfl [v5] [] rfl rfl (s_wt_4 rfl) k

theorem k517_215 {P : s_P} {d : Nat} {Q : s_O → Prop} {h : s_H} {kc ks : Nat} {r0 : Term} {x1 x2 x3 x4 : Int} {q2 : Nat} {f3 : List Term} (g4 : s_get h q2 = some (1, 11, f3)) (k : wm P d 499 [.index q2, vi 3] h (wq P d sw_c517 sw_h517 220 [.index q2, vi x1, vi x2, vi x3, vi x4] [] kc ks Q)) (e_q2 : r0 = .index q2 := by first | rfl | assumption) (y1 : s_ty r0 = 3 := by first | rfl | assumption)  : wr P d sw_c517 sw_h517 (215, [r0, vi x1, vi x2, vi x3, vi x4], [], h, kc, ks) Q := by
  refine w_ld rfl rfl (Or.inr (Or.inr ⟨by decide, y1⟩)) ?_
  refine w_c32 rfl (by decide) 3 (by decide) ?_
  subst e_q2
  exact w_cv rfl [.index q2, vi 3] [] rfl rfl (s_wt_4 rfl) rfl g4 k

theorem k517_220 {P : s_P} {d : Nat} {Q : s_O → Prop} {h : s_H} {kc ks : Nat} {r0 : Term} {x1 x2 x3 x4 s0 : Int}  (k : Q (.inl (some (vi s0)), h, kc, ks))   : wr P d sw_c517 sw_h517 (220, [r0, vi x1, vi x2, vi x3, vi x4], [vi s0], h, kc, ks) Q := by
  exact w_iret rfl k

theorem k517_221 {P : s_P} {d : Nat} {Q : s_O → Prop} {h : s_H} {kc ks : Nat} {r0 : Term} {x1 x2 x3 : Int} {t4 : Term}  (k1 : x2 ≠ 0 → wr P d sw_c517 sw_h517 (233, [r0, vi x1, vi x2, vi x3, t4], [], h, kc, ks) Q) (k2 : ¬ x2 ≠ 0 → wr P d sw_c517 sw_h517 (225, [r0, vi x1, vi x2, vi x3, t4], [], h, kc, ks) Q)  (c1 : In3 x2 := by first | omega | assumption | (simp only [mk_len, List.length_map]; omega) | decide) : wr P d sw_c517 sw_h517 (221, [r0, vi x1, vi x2, vi x3, t4], [], h, kc, ks) Q := by
  refine w_ld rfl rfl (Or.inl ⟨by decide, rfl⟩) ?_
  exact w_if1 rfl c1 k1 k2

theorem k517_225 {P : s_P} {d : Nat} {Q : s_O → Prop} {h : s_H} {kc ks : Nat} {r0 : Term} {x1 x2 x3 : Int} {t4 : Term} {q2 : Nat} {f3 : List Term} (g4 : s_get h q2 = some (1, 11, f3)) (k : wm P d 519 [.index q2, vi x1] h (wq P d sw_c517 sw_h517 230 [.index q2, vi x1, vi x2, vi x3, t4] [] kc ks Q)) (e_q2 : r0 = .index q2 := by first | rfl | assumption) (y1 : s_ty r0 = 3 := by first | rfl | assumption)  : wr P d sw_c517 sw_h517 (225, [r0, vi x1, vi x2, vi x3, t4], [], h, kc, ks) Q := by
  refine w_ld rfl rfl (Or.inr (Or.inr ⟨by decide, y1⟩)) ?_
  refine w_ld rfl rfl (Or.inl ⟨by decide, rfl⟩) ?_
  subst e_q2
  exact w_cv rfl [.index q2, vi x1] [] rfl rfl (s_wt_4 rfl) rfl g4 k

theorem k517_230 {P : s_P} {d : Nat} {Q : s_O → Prop} {h : s_H} {kc ks : Nat} {r0 : Term} {x1 x2 x3 : Int} {t4 : Term}  (k : wr P d sw_c517 sw_h517 (238, [r0, vi x1, vi x2, vi x3, t4], [], h, kc, ks) Q)   : wr P d sw_c517 sw_h517 (230, [r0, vi x1, vi x2, vi x3, t4], [], h, kc, ks) Q := by
  refine w_goto rfl ?_
  exact k

theorem k517_233 {P : s_P} {d : Nat} {Q : s_O → Prop} {h : s_H} {kc ks : Nat} {r0 : Term} {x1 x2 x3 : Int} {t4 : Term} {q2 : Nat} {f3 : List Term} (g4 : s_get h q2 = some (1, 11, f3)) (k : wm P d 518 [.index q2, vi x1] h (wq P d sw_c517 sw_h517 238 [.index q2, vi x1, vi x2, vi x3, t4] [] kc ks Q)) (e_q2 : r0 = .index q2 := by first | rfl | assumption) (y1 : s_ty r0 = 3 := by first | rfl | assumption)  : wr P d sw_c517 sw_h517 (233, [r0, vi x1, vi x2, vi x3, t4], [], h, kc, ks) Q := by
  refine w_ld rfl rfl (Or.inr (Or.inr ⟨by decide, y1⟩)) ?_
  refine w_ld rfl rfl (Or.inl ⟨by decide, rfl⟩) ?_
  subst e_q2
  exact w_cv rfl [.index q2, vi x1] [] rfl rfl (s_wt_4 rfl) rfl g4 k

theorem k517_238 {P : s_P} {d : Nat} {Q : s_O → Prop} {h : s_H} {kc ks : Nat} {r0 : Term} {x1 x2 x3 : Int} {t4 : Term} {q2 : Nat} {f3 : List Term} (g4 : s_get h q2 = some (1, 11, f3)) (k : wm P d 495 [.index q2, vi 3] h (wq P d sw_c517 sw_h517 243 [.index q2, vi x1, vi x2, vi x3, t4] [] kc ks Q)) (e_q2 : r0 = .index q2 := by first | rfl | assumption) (y1 : s_ty r0 = 3 := by first | rfl | assumption)  : wr P d sw_c517 sw_h517 (238, [r0, vi x1, vi x2, vi x3, t4], [], h, kc, ks) Q := by
  refine w_ld rfl rfl (Or.inr (Or.inr ⟨by decide, y1⟩)) ?_
  refine w_c32 rfl (by decide) 3 (by decide) ?_
  subst e_q2
  exact w_cv rfl [.index q2, vi 3] [] rfl rfl (s_wt_4 rfl) rfl g4 k

theorem k517_243 {P : s_P} {d : Nat} {Q : s_O → Prop} {h : s_H} {kc ks : Nat} {r0 : Term} {x1 x2 x3 : Int} {t4 : Term} {s0 : Int}  (k : Q (.inl (some (vi s0)), h, kc, ks))   : wr P d sw_c517 sw_h517 (243, [r0, vi x1, vi x2, vi x3, t4], [vi s0], h, kc, ks) Q := by
  exact w_iret rfl k

/-! 518: FormulaWorksModel.makeBySlopes(I)V -/
theorem k518_0 {P : s_P} {d : Nat} {Q : s_O → Prop} {h : s_H} {kc ks : Nat} {r0 : Term} {x1 : Int} {t2 t3 t4 : Term} {q2 : Nat} {f3 : List Term} {v5 : Term} {q7 : Nat} {a8 : List Int} {v13 : Term} (g4 : s_get h q2 = some (1, 11, f3)) (g9 : s_get h q7 = some (0, 0, a8.map vi)) (k : wm P d 438 [v13] h (wq P d sw_c518 sw_h518 16 [.index q2, vi x1, vi ((gi a8 x1) - 1), t3, t4] [] kc ks Q)) (e_q2 : r0 = .index q2 := by first | rfl | assumption) (e_q7 : v5 = .index q7 := by first | rfl | assumption) (y1 : s_ty r0 = 3 := by first | rfl | assumption) (n6 : s_nth f3 6 = some v5 := by first | rfl | assumption) (n14 : s_nth f3 14 = some v13 := by first | rfl | assumption) (c10 : x1 < a8.length := by first | omega | assumption | (simp only [mk_len, List.length_map]; omega) | decide) (c11 : 0 ≤ x1 := by first | omega | assumption | (simp only [mk_len, List.length_map]; omega) | decide) (c12 : In3 x1 := by first | omega | assumption | (simp only [mk_len, List.length_map]; omega) | decide) : wr P d sw_c518 sw_h518 (0, [r0, vi x1, t2, t3, t4], [], h, kc, ks) Q := by
  refine w_ld rfl rfl (Or.inr (Or.inr ⟨by decide, y1⟩)) ?_
  subst e_q2
  refine w_getf rfl g4 n6 ?_
  refine w_ld rfl rfl (Or.inl ⟨by decide, rfl⟩) ?_
  subst e_q7
  refine w_iald rfl g9 (Or.inl rfl) c12 c11 c10 ?_
  refine w_c32 rfl (by decide) 1 (by decide) ?_
  refine w_isub rfl ?_
  refine w_st (ls' := [.index q2, vi x1, vi ((gi a8 x1) - 1), t3, t4]) rfl (Or.inl ⟨by decide, rfl⟩) rfl ?_
  refine w_ld rfl rfl (Or.inr (Or.inr ⟨by decide, rfl⟩)) ?_
  refine w_getf rfl g4 n14 ?_
  exact w_cs rfl [v13] [] rfl rfl (s_wt_4 rfl) k

theorem k518_16 {P : s_P} {d : Nat} {Q : s_O → Prop} {h : s_H} {kc ks : Nat} {r0 : Term} {x1 x2 : Int} {t3 t4 : Term} {q2 : Nat} {f3 : List Term} {v5 v7 : Term} (g4 : s_get h q2 = some (1, 11, f3)) (k : wm P d 425 [v5, v7] h (wq P d sw_c518 sw_h518 27 [.index q2, vi x1, vi x2, t3, t4] [] kc ks Q)) (e_q2 : r0 = .index q2 := by first | rfl | assumption) (y1 : s_ty r0 = 3 := by first | rfl | assumption) (n6 : s_nth f3 21 = some v5 := by first | rfl | assumption) (n8 : s_nth f3 10 = some v7 := by first | rfl | assumption)  : wr P d sw_c518 sw_h518 (16, [r0, vi x1, vi x2, t3, t4], [], h, kc, ks) Q := by
  refine w_ld rfl rfl (Or.inr (Or.inr ⟨by decide, y1⟩)) ?_
  subst e_q2
  refine w_getf rfl g4 n6 ?_
  refine w_ld rfl rfl (Or.inr (Or.inr ⟨by decide, rfl⟩)) ?_
  refine w_getf rfl g4 n8 ?_
  exact w_cs rfl [v5, v7] [] rfl rfl (s_wt_4 rfl) k

theorem k518_27 {P : s_P} {d : Nat} {Q : s_O → Prop} {h : s_H} {kc ks : Nat} {r0 : Term} {x1 x2 : Int} {t3 t4 : Term}  (k : wr P d sw_c518 sw_h518 (29, [r0, vi x1, vi x2, vi 0, t4], [], h, kc, ks) Q)   : wr P d sw_c518 sw_h518 (27, [r0, vi x1, vi x2, t3, t4], [], h, kc, ks) Q := by
  refine w_c32 rfl (by decide) 0 (by decide) ?_
  refine w_st (ls' := [r0, vi x1, vi x2, vi 0, t4]) rfl (Or.inl ⟨by decide, rfl⟩) rfl ?_
  exact k

theorem k518_29 {P : s_P} {d : Nat} {Q : s_O → Prop} {h : s_H} {kc ks : Nat} {r0 : Term} {x1 x2 x3 : Int} {t4 : Term}  (k1 : x2 < x3 → wr P d sw_c518 sw_h518 (186, [r0, vi x1, vi x2, vi x3, t4], [], h, kc, ks) Q) (k2 : ¬ x2 < x3 → wr P d sw_c518 sw_h518 (34, [r0, vi x1, vi x2, vi x3, t4], [], h, kc, ks) Q)  (c1 : In3 x3 := by first | omega | assumption | (simp only [mk_len, List.length_map]; omega) | decide) (c2 : In3 x2 := by first | omega | assumption | (simp only [mk_len, List.length_map]; omega) | decide) : wr P d sw_c518 sw_h518 (29, [r0, vi x1, vi x2, vi x3, t4], [], h, kc, ks) Q := by
  refine w_ld rfl rfl (Or.inl ⟨by decide, rfl⟩) ?_
  refine w_ld rfl rfl (Or.inl ⟨by decide, rfl⟩) ?_
  exact w_if2 rfl c1 c2 k1 k2

theorem k518_34 {P : s_P} {d : Nat} {Q : s_O → Prop} {h : s_H} {kc ks : Nat} {r0 : Term} {x1 x2 x3 : Int} {t4 : Term} {q2 : Nat} {f3 : List Term} {v5 : Term} (g4 : s_get h q2 = some (1, 11, f3)) (k : wm P d 508 [.index q2, v5, vi x1, vi 0, vi x3] h (wq P d sw_c518 sw_h518 45 [.index q2, vi x1, vi x2, vi x3, t4] [] kc ks Q)) (e_q2 : r0 = .index q2 := by first | rfl | assumption) (y1 : s_ty r0 = 3 := by first | rfl | assumption) (n6 : s_nth f3 20 = some v5 := by first | rfl | assumption)  : wr P d sw_c518 sw_h518 (34, [r0, vi x1, vi x2, vi x3, t4], [], h, kc, ks) Q := by
  refine w_ld rfl rfl (Or.inr (Or.inr ⟨by decide, y1⟩)) ?_
  refine w_ld rfl rfl (Or.inr (Or.inr ⟨by decide, y1⟩)) ?_
  subst e_q2
  refine w_getf rfl g4 n6 ?_
  refine w_ld rfl rfl (Or.inl ⟨by decide, rfl⟩) ?_
  refine w_c32 rfl (by decide) 0 (by decide) ?_
  refine w_ld rfl rfl (Or.inl ⟨by decide, rfl⟩) ?_
  exact w_cv rfl [.index q2, v5, vi x1, vi 0, vi x3] [] rfl rfl (s_wt_4 rfl) rfl g4 k

theorem k518_45 {P : s_P} {d : Nat} {Q : s_O → Prop} {h : s_H} {kc ks : Nat} {r0 : Term} {x1 x2 x3 : Int} {t4 : Term} {q2 : Nat} {f3 : List Term} {v5 v7 : Term} (g4 : s_get h q2 = some (1, 11, f3)) (k : wm P d 531 [.index q2, v5, v7] h (wq P d sw_c518 sw_h518 57 [.index q2, vi x1, vi x2, vi x3, t4] [] kc ks Q)) (e_q2 : r0 = .index q2 := by first | rfl | assumption) (y1 : s_ty r0 = 3 := by first | rfl | assumption) (n6 : s_nth f3 20 = some v5 := by first | rfl | assumption) (n8 : s_nth f3 21 = some v7 := by first | rfl | assumption)  : wr P d sw_c518 sw_h518 (45, [r0, vi x1, vi x2, vi x3, t4], [], h, kc, ks) Q := by
  refine w_ld rfl rfl (Or.inr (Or.inr ⟨by decide, y1⟩)) ?_
  refine w_ld rfl rfl (Or.inr (Or.inr ⟨by decide, y1⟩)) ?_
  subst e_q2
  refine w_getf rfl g4 n6 ?_
  refine w_ld rfl rfl (Or.inr (Or.inr ⟨by decide, rfl⟩)) ?_
  refine w_getf rfl g4 n8 ?_
  exact w_cv rfl [.index q2, v5, v7] [] rfl rfl (s_wt_4 rfl) rfl g4 k

theorem k518_57 {P : s_P} {d : Nat} {Q : s_O → Prop} {h : s_H} {kc ks : Nat} {r0 : Term} {x1 x2 x3 : Int} {t4 : Term} {q2 : Nat} {f3 : List Term} {v5 v7 : Term} (g4 : s_get h q2 = some (1, 11, f3)) (k : wm P d 425 [v5, v7] h (wq P d sw_c518 sw_h518 68 [.index q2, vi x1, vi x2, vi x3, t4] [] kc ks Q)) (e_q2 : r0 = .index q2 := by first | rfl | assumption) (y1 : s_ty r0 = 3 := by first | rfl | assumption) (n6 : s_nth f3 23 = some v5 := by first | rfl | assumption) (n8 : s_nth f3 16 = some v7 := by first | rfl | assumption)  : wr P d sw_c518 sw_h518 (57, [r0, vi x1, vi x2, vi x3, t4], [], h, kc, ks) Q := by
  refine w_ld rfl rfl (Or.inr (Or.inr ⟨by decide, y1⟩)) ?_
  subst e_q2
  refine w_getf rfl g4 n6 ?_
  refine w_ld rfl rfl (Or.inr (Or.inr ⟨by decide, rfl⟩)) ?_
  refine w_getf rfl g4 n8 ?_
  exact w_cs rfl [v5, v7] [] rfl rfl (s_wt_4 rfl) k

theorem k518_68 {P : s_P} {d : Nat} {Q : s_O → Prop} {h : s_H} {kc ks : Nat} {r0 : Term} {x1 x2 x3 : Int} {t4 : Term}  (k : wr P d sw_c518 sw_h518 (71, [r0, vi x1, vi x2, vi x3, vi x3], [], h, kc, ks) Q)   : wr P d sw_c518 sw_h518 (68, [r0, vi x1, vi x2, vi x3, t4], [], h, kc, ks) Q := by
  refine w_ld rfl rfl (Or.inl ⟨by decide, rfl⟩) ?_
  refine w_st (ls' := [r0, vi x1, vi x2, vi x3, vi x3]) rfl (Or.inl ⟨by decide, rfl⟩) rfl ?_
  exact k

theorem k518_71 {P : s_P} {d : Nat} {Q : s_O → Prop} {h : s_H} {kc ks : Nat} {r0 : Term} {x1 x2 x3 x4 : Int}  (k1 : x2 ≤ x4 → wr P d sw_c518 sw_h518 (95, [r0, vi x1, vi x2, vi x3, vi x4], [], h, kc, ks) Q) (k2 : ¬ x2 ≤ x4 → wr P d sw_c518 sw_h518 (77, [r0, vi x1, vi x2, vi x3, vi x4], [], h, kc, ks) Q)  (c1 : In3 x4 := by first | omega | assumption | (simp only [mk_len, List.length_map]; omega) | decide) (c2 : In3 x2 := by first | omega | assumption | (simp only [mk_len, List.length_map]; omega) | decide) : wr P d sw_c518 sw_h518 (71, [r0, vi x1, vi x2, vi x3, vi x4], [], h, kc, ks) Q := by
  refine w_ld rfl rfl (Or.inl ⟨by decide, rfl⟩) ?_
  refine w_ld rfl rfl (Or.inl ⟨by decide, rfl⟩) ?_
  exact w_if2 rfl c1 c2 k1 k2

theorem k518_77 {P : s_P} {d : Nat} {Q : s_O → Prop} {h : s_H} {kc ks : Nat} {r0 : Term} {x1 x2 x3 x4 : Int} {q2 : Nat} {f3 : List Term} {v5 v7 : Term} (g4 : s_get h q2 = some (1, 11, f3)) (k : wm P d 532 [.index q2, v5, v7] h (wq P d sw_c518 sw_h518 89 [.index q2, vi x1, vi x2, vi x3, vi x4] [] kc ks Q)) (e_q2 : r0 = .index q2 := by first | rfl | assumption) (y1 : s_ty r0 = 3 := by first | rfl | assumption) (n6 : s_nth f3 23 = some v5 := by first | rfl | assumption) (n8 : s_nth f3 11 = some v7 := by first | rfl | assumption)  : wr P d sw_c518 sw_h518 (77, [r0, vi x1, vi x2, vi x3, vi x4], [], h, kc, ks) Q := by
  refine w_ld rfl rfl (Or.inr (Or.inr ⟨by decide, y1⟩)) ?_
  refine w_ld rfl rfl (Or.inr (Or.inr ⟨by decide, y1⟩)) ?_
  subst e_q2
  refine w_getf rfl g4 n6 ?_
  refine w_ld rfl rfl (Or.inr (Or.inr ⟨by decide, rfl⟩)) ?_
  refine w_getf rfl g4 n8 ?_
  exact w_cv rfl [.index q2, v5, v7] [] rfl rfl (s_wt_4 rfl) rfl g4 k

theorem k518_89 {P : s_P} {d : Nat} {Q : s_O → Prop} {h : s_H} {kc ks : Nat} {r0 : Term} {x1 x2 x3 x4 : Int}  (k : wr P d sw_c518 sw_h518 (71, [r0, vi x1, vi x2, vi x3, vi (x4 + 1)], [], h, kc, ks) Q)   : wr P d sw_c518 sw_h518 (89, [r0, vi x1, vi x2, vi x3, vi x4], [], h, kc, ks) Q := by
  refine w_iinc (ls' := [r0, vi x1, vi x2, vi x3, vi (x4 + 1)]) rfl rfl 1 (by decide) rfl ?_
  refine w_goto rfl ?_
  exact k

theorem k518_95 {P : s_P} {d : Nat} {Q : s_O → Prop} {h : s_H} {kc ks : Nat} {r0 : Term} {x1 x2 x3 x4 : Int} {q2 : Nat} {f3 : List Term} {v5 v7 : Term} (g4 : s_get h q2 = some (1, 11, f3)) (k : wm P d 529 [v5, v7, vl 1] h (wq P d sw_c518 sw_h518 107 [.index q2, vi x1, vi x2, vi x3, vi x4] [] kc ks Q)) (e_q2 : r0 = .index q2 := by first | rfl | assumption) (y1 : s_ty r0 = 3 := by first | rfl | assumption) (n6 : s_nth f3 14 = some v5 := by first | rfl | assumption) (n8 : s_nth f3 23 = some v7 := by first | rfl | assumption)  : wr P d sw_c518 sw_h518 (95, [r0, vi x1, vi x2, vi x3, vi x4], [], h, kc, ks) Q := by
  refine w_ld rfl rfl (Or.inr (Or.inr ⟨by decide, y1⟩)) ?_
  subst e_q2
  refine w_getf rfl g4 n6 ?_
  refine w_ld rfl rfl (Or.inr (Or.inr ⟨by decide, rfl⟩)) ?_
  refine w_getf rfl g4 n8 ?_
  refine w_c64 rfl (by decide) 1 (by decide) ?_
  exact w_cs rfl [v5, v7, vl 1] [] rfl rfl (s_wt_4 rfl) k

theorem k518_107 {P : s_P} {d : Nat} {Q : s_O → Prop} {h : s_H} {kc ks : Nat} {r0 : Term} {x1 x2 x3 x4 : Int} {q2 : Nat} {f3 : List Term} {v5 v7 : Term} (g4 : s_get h q2 = some (1, 11, f3)) (k : wm P d 596 [v5, v7] h (wq P d sw_c518 sw_h518 118 [.index q2, vi x1, vi x2, vi x3, vi x4] [] kc ks Q)) (e_q2 : r0 = .index q2 := by first | rfl | assumption) (y1 : s_ty r0 = 3 := by first | rfl | assumption) (n6 : s_nth f3 22 = some v5 := by first | rfl | assumption) (n8 : s_nth f3 21 = some v7 := by first | rfl | assumption)  : wr P d sw_c518 sw_h518 (107, [r0, vi x1, vi x2, vi x3, vi x4], [], h, kc, ks) Q := by
  refine w_ld rfl rfl (Or.inr (Or.inr ⟨by decide, y1⟩)) ?_
  subst e_q2
  refine w_getf rfl g4 n6 ?_
  refine w_ld rfl rfl (Or.inr (Or.inr ⟨by decide, rfl⟩)) ?_
  refine w_getf rfl g4 n8 ?_
  exact w_cs rfl [v5, v7] [] rfl rfl (s_wt_4 rfl) k

theorem k518_118 {P : s_P} {d : Nat} {Q : s_O → Prop} {h : s_H} {kc ks : Nat} {r0 : Term} {x1 x2 x3 x4 : Int} {q2 : Nat} {f3 : List Term} {v5 v7 : Term} (g4 : s_get h q2 = some (1, 11, f3)) (k : wm P d 532 [.index q2, v5, v7] h (wq P d sw_c518 sw_h518 130 [.index q2, vi x1, vi x2, vi x3, vi x4] [] kc ks Q)) (e_q2 : r0 = .index q2 := by first | rfl | assumption) (y1 : s_ty r0 = 3 := by first | rfl | assumption) (n6 : s_nth f3 22 = some v5 := by first | rfl | assumption) (n8 : s_nth f3 11 = some v7 := by first | rfl | assumption)  : wr P d sw_c518 sw_h518 (118, [r0, vi x1, vi x2, vi x3, vi x4], [], h, kc, ks) Q := by
  refine w_ld rfl rfl (Or.inr (Or.inr ⟨by decide, y1⟩)) ?_
  refine w_ld rfl rfl (Or.inr (Or.inr ⟨by decide, y1⟩)) ?_
  subst e_q2
  refine w_getf rfl g4 n6 ?_
  refine w_ld rfl rfl (Or.inr (Or.inr ⟨by decide, rfl⟩)) ?_
  refine w_getf rfl g4 n8 ?_
  exact w_cv rfl [.index q2, v5, v7] [] rfl rfl (s_wt_4 rfl) rfl g4 k

theorem k518_130 {P : s_P} {d : Nat} {Q : s_O → Prop} {h : s_H} {kc ks : Nat} {r0 : Term} {x1 x2 x3 x4 : Int} {q2 : Nat} {f3 : List Term} {v5 v7 : Term} (g4 : s_get h q2 = some (1, 11, f3)) (k : wm P d 596 [v5, v7] h (wq P d sw_c518 sw_h518 141 [.index q2, vi x1, vi x2, vi x3, vi x4] [] kc ks Q)) (e_q2 : r0 = .index q2 := by first | rfl | assumption) (y1 : s_ty r0 = 3 := by first | rfl | assumption) (n6 : s_nth f3 23 = some v5 := by first | rfl | assumption) (n8 : s_nth f3 11 = some v7 := by first | rfl | assumption)  : wr P d sw_c518 sw_h518 (130, [r0, vi x1, vi x2, vi x3, vi x4], [], h, kc, ks) Q := by
  refine w_ld rfl rfl (Or.inr (Or.inr ⟨by decide, y1⟩)) ?_
  subst e_q2
  refine w_getf rfl g4 n6 ?_
  refine w_ld rfl rfl (Or.inr (Or.inr ⟨by decide, rfl⟩)) ?_
  refine w_getf rfl g4 n8 ?_
  exact w_cs rfl [v5, v7] [] rfl rfl (s_wt_4 rfl) k

theorem k518_141 {P : s_P} {d : Nat} {Q : s_O → Prop} {h : s_H} {kc ks : Nat} {r0 : Term} {x1 x2 x3 x4 : Int} {q2 : Nat} {f3 : List Term} {v5 v7 : Term} (g4 : s_get h q2 = some (1, 11, f3)) (k : wm P d 532 [.index q2, v5, v7] h (wq P d sw_c518 sw_h518 153 [.index q2, vi x1, vi x2, vi x3, vi x4] [] kc ks Q)) (e_q2 : r0 = .index q2 := by first | rfl | assumption) (y1 : s_ty r0 = 3 := by first | rfl | assumption) (n6 : s_nth f3 23 = some v5 := by first | rfl | assumption) (n8 : s_nth f3 21 = some v7 := by first | rfl | assumption)  : wr P d sw_c518 sw_h518 (141, [r0, vi x1, vi x2, vi x3, vi x4], [], h, kc, ks) Q := by
  refine w_ld rfl rfl (Or.inr (Or.inr ⟨by decide, y1⟩)) ?_
  refine w_ld rfl rfl (Or.inr (Or.inr ⟨by decide, y1⟩)) ?_
  subst e_q2
  refine w_getf rfl g4 n6 ?_
  refine w_ld rfl rfl (Or.inr (Or.inr ⟨by decide, rfl⟩)) ?_
  refine w_getf rfl g4 n8 ?_
  exact w_cv rfl [.index q2, v5, v7] [] rfl rfl (s_wt_4 rfl) rfl g4 k

theorem k518_153 {P : s_P} {d : Nat} {Q : s_O → Prop} {h : s_H} {kc ks : Nat} {r0 : Term} {x1 x2 x3 x4 : Int} {q2 : Nat} {f3 : List Term} {v5 v7 : Term} (g4 : s_get h q2 = some (1, 11, f3)) (k : wm P d 529 [v5, v7, vl (-(x3 + 1))] h (wq P d sw_c518 sw_h518 169 [.index q2, vi x1, vi x2, vi x3, vi x4] [] kc ks Q)) (e_q2 : r0 = .index q2 := by first | rfl | assumption) (y1 : s_ty r0 = 3 := by first | rfl | assumption) (n6 : s_nth f3 22 = some v5 := by first | rfl | assumption) (n8 : s_nth f3 23 = some v7 := by first | rfl | assumption) (c9 : In3 x3 := by first | omega | assumption | (simp only [mk_len, List.length_map]; omega) | decide) : wr P d sw_c518 sw_h518 (153, [r0, vi x1, vi x2, vi x3, vi x4], [], h, kc, ks) Q := by
  refine w_ld rfl rfl (Or.inr (Or.inr ⟨by decide, y1⟩)) ?_
  subst e_q2
  refine w_getf rfl g4 n6 ?_
  refine w_ld rfl rfl (Or.inr (Or.inr ⟨by decide, rfl⟩)) ?_
  refine w_getf rfl g4 n8 ?_
  refine w_ld rfl rfl (Or.inl ⟨by decide, rfl⟩) ?_
  refine w_i2l rfl c9 ?_
  refine w_c64 rfl (by decide) 1 (by decide) ?_
  refine w_ladd rfl ?_
  refine w_lneg rfl ?_
  exact w_cs rfl [v5, v7, vl (-(x3 + 1))] [] rfl rfl (s_wt_4 rfl) k

theorem k518_169 {P : s_P} {d : Nat} {Q : s_O → Prop} {h : s_H} {kc ks : Nat} {r0 : Term} {x1 x2 x3 x4 : Int} {q2 : Nat} {f3 : List Term} {v5 v7 : Term} (g4 : s_get h q2 = some (1, 11, f3)) (k : wm P d 425 [v5, v7] h (wq P d sw_c518 sw_h518 180 [.index q2, vi x1, vi x2, vi x3, vi x4] [] kc ks Q)) (e_q2 : r0 = .index q2 := by first | rfl | assumption) (y1 : s_ty r0 = 3 := by first | rfl | assumption) (n6 : s_nth f3 21 = some v5 := by first | rfl | assumption) (n8 : s_nth f3 22 = some v7 := by first | rfl | assumption)  : wr P d sw_c518 sw_h518 (169, [r0, vi x1, vi x2, vi x3, vi x4], [], h, kc, ks) Q := by
  refine w_ld rfl rfl (Or.inr (Or.inr ⟨by decide, y1⟩)) ?_
  subst e_q2
  refine w_getf rfl g4 n6 ?_
  refine w_ld rfl rfl (Or.inr (Or.inr ⟨by decide, rfl⟩)) ?_
  refine w_getf rfl g4 n8 ?_
  exact w_cs rfl [v5, v7] [] rfl rfl (s_wt_4 rfl) k

theorem k518_180 {P : s_P} {d : Nat} {Q : s_O → Prop} {h : s_H} {kc ks : Nat} {r0 : Term} {x1 x2 x3 x4 : Int}  (k : wr P d sw_c518 sw_h518 (29, [r0, vi x1, vi x2, vi (x3 + 1), vi x4], [], h, kc, ks) Q)   : wr P d sw_c518 sw_h518 (180, [r0, vi x1, vi x2, vi x3, vi x4], [], h, kc, ks) Q := by
  refine w_iinc (ls' := [r0, vi x1, vi x2, vi (x3 + 1), vi x4]) rfl rfl 1 (by decide) rfl ?_
  refine w_goto rfl ?_
  exact k

theorem k518_186 {P : s_P} {d : Nat} {Q : s_O → Prop} {h : s_H} {kc ks : Nat} {r0 : Term} {x1 x2 x3 : Int} {t4 : Term} {q2 : Nat} {f3 : List Term} {v5 : Term} (g4 : s_get h q2 = some (1, 11, f3)) (k : wm P d 405 [v5, vl 1] h (wq P d sw_c518 sw_h518 194 [.index q2, vi x1, vi x2, vi x3, t4] [] kc ks Q)) (e_q2 : r0 = .index q2 := by first | rfl | assumption) (y1 : s_ty r0 = 3 := by first | rfl | assumption) (n6 : s_nth f3 15 = some v5 := by first | rfl | assumption)  : wr P d sw_c518 sw_h518 (186, [r0, vi x1, vi x2, vi x3, t4], [], h, kc, ks) Q := by
  refine w_ld rfl rfl (Or.inr (Or.inr ⟨by decide, y1⟩)) ?_
  subst e_q2
  refine w_getf rfl g4 n6 ?_
  refine w_c64 rfl (by decide) 1 (by decide) ?_
  exact w_cs rfl [v5, vl 1] [] rfl rfl (s_wt_4 rfl) k

theorem k518_194 {P : s_P} {d : Nat} {Q : s_O → Prop} {h : s_H} {kc ks : Nat} {r0 : Term} {x1 x2 x3 : Int} {t4 : Term}  (k : wr P d sw_c518 sw_h518 (196, [r0, vi x1, vi x2, vi 0, t4], [], h, kc, ks) Q)   : wr P d sw_c518 sw_h518 (194, [r0, vi x1, vi x2, vi x3, t4], [], h, kc, ks) Q := by
  refine w_c32 rfl (by decide) 0 (by decide) ?_
  refine w_st (ls' := [r0, vi x1, vi x2, vi 0, t4]) rfl (Or.inl ⟨by decide, rfl⟩) rfl ?_
  exact k

theorem k518_196 {P : s_P} {d : Nat} {Q : s_O → Prop} {h : s_H} {kc ks : Nat} {r0 : Term} {x1 x2 x3 : Int} {t4 : Term}  (k1 : x2 < x3 → wr P d sw_c518 sw_h518 (219, [r0, vi x1, vi x2, vi x3, t4], [], h, kc, ks) Q) (k2 : ¬ x2 < x3 → wr P d sw_c518 sw_h518 (201, [r0, vi x1, vi x2, vi x3, t4], [], h, kc, ks) Q)  (c1 : In3 x3 := by first | omega | assumption | (simp only [mk_len, List.length_map]; omega) | decide) (c2 : In3 x2 := by first | omega | assumption | (simp only [mk_len, List.length_map]; omega) | decide) : wr P d sw_c518 sw_h518 (196, [r0, vi x1, vi x2, vi x3, t4], [], h, kc, ks) Q := by
  refine w_ld rfl rfl (Or.inl ⟨by decide, rfl⟩) ?_
  refine w_ld rfl rfl (Or.inl ⟨by decide, rfl⟩) ?_
  exact w_if2 rfl c1 c2 k1 k2

theorem k518_201 {P : s_P} {d : Nat} {Q : s_O → Prop} {h : s_H} {kc ks : Nat} {r0 : Term} {x1 x2 x3 : Int} {t4 : Term} {q2 : Nat} {f3 : List Term} {v5 v7 : Term} (g4 : s_get h q2 = some (1, 11, f3)) (k : wm P d 532 [.index q2, v5, v7] h (wq P d sw_c518 sw_h518 213 [.index q2, vi x1, vi x2, vi x3, t4] [] kc ks Q)) (e_q2 : r0 = .index q2 := by first | rfl | assumption) (y1 : s_ty r0 = 3 := by first | rfl | assumption) (n6 : s_nth f3 15 = some v5 := by first | rfl | assumption) (n8 : s_nth f3 11 = some v7 := by first | rfl | assumption)  : wr P d sw_c518 sw_h518 (201, [r0, vi x1, vi x2, vi x3, t4], [], h, kc, ks) Q := by
  refine w_ld rfl rfl (Or.inr (Or.inr ⟨by decide, y1⟩)) ?_
  refine w_ld rfl rfl (Or.inr (Or.inr ⟨by decide, y1⟩)) ?_
  subst e_q2
  refine w_getf rfl g4 n6 ?_
  refine w_ld rfl rfl (Or.inr (Or.inr ⟨by decide, rfl⟩)) ?_
  refine w_getf rfl g4 n8 ?_
  exact w_cv rfl [.index q2, v5, v7] [] rfl rfl (s_wt_4 rfl) rfl g4 k

theorem k518_213 {P : s_P} {d : Nat} {Q : s_O → Prop} {h : s_H} {kc ks : Nat} {r0 : Term} {x1 x2 x3 : Int} {t4 : Term}  (k : wr P d sw_c518 sw_h518 (196, [r0, vi x1, vi x2, vi (x3 + 1), t4], [], h, kc, ks) Q)   : wr P d sw_c518 sw_h518 (213, [r0, vi x1, vi x2, vi x3, t4], [], h, kc, ks) Q := by
  refine w_iinc (ls' := [r0, vi x1, vi x2, vi (x3 + 1), t4]) rfl rfl 1 (by decide) rfl ?_
  refine w_goto rfl ?_
  exact k

theorem k518_219 {P : s_P} {d : Nat} {Q : s_O → Prop} {h : s_H} {kc ks : Nat} {r0 : Term} {x1 x2 x3 : Int} {t4 : Term} {q2 : Nat} {f3 : List Term} (g4 : s_get h q2 = some (1, 11, f3)) (k : wm P d 516 [.index q2] h (wq P d sw_c518 sw_h518 223 [.index q2, vi x1, vi x2, vi x3, t4] [] kc ks Q)) (e_q2 : r0 = .index q2 := by first | rfl | assumption) (y1 : s_ty r0 = 3 := by first | rfl | assumption)  : wr P d sw_c518 sw_h518 (219, [r0, vi x1, vi x2, vi x3, t4], [], h, kc, ks) Q := by
  refine w_ld rfl rfl (Or.inr (Or.inr ⟨by decide, y1⟩)) ?_
  subst e_q2
  exact w_cv rfl [.index q2] [] rfl rfl (s_wt_4 rfl) rfl g4 k

theorem k518_223 {P : s_P} {d : Nat} {Q : s_O → Prop} {h : s_H} {kc ks : Nat} {r0 : Term} {x1 x2 x3 : Int} {t4 : Term}  (k : Q (.inl none, h, kc, ks))   : wr P d sw_c518 sw_h518 (223, [r0, vi x1, vi x2, vi x3, t4], [], h, kc, ks) Q := by
  exact w_ret rfl k

/-! 519: FormulaWorksModel.makeBySteps(I)V -/
theorem k519_0 {P : s_P} {d : Nat} {Q : s_O → Prop} {h : s_H} {kc ks : Nat} {r0 : Term} {x1 : Int} {t2 t3 : Term} {q2 : Nat} {f3 : List Term} {v5 : Term} {q7 : Nat} {a8 : List Int} {v13 : Term} (g4 : s_get h q2 = some (1, 11, f3)) (g9 : s_get h q7 = some (0, 0, a8.map vi)) (k : wm P d 438 [v13] h (wq P d sw_c519 sw_h519 16 [.index q2, vi x1, vi ((gi a8 x1) - 1), t3] [] kc ks Q)) (e_q2 : r0 = .index q2 := by first | rfl | assumption) (e_q7 : v5 = .index q7 := by first | rfl | assumption) (y1 : s_ty r0 = 3 := by first | rfl | assumption) (n6 : s_nth f3 6 = some v5 := by first | rfl | assumption) (n14 : s_nth f3 14 = some v13 := by first | rfl | assumption) (c10 : x1 < a8.length := by first | omega | assumption | (simp only [mk_len, List.length_map]; omega) | decide) (c11 : 0 ≤ x1 := by first | omega | assumption | (simp only [mk_len, List.length_map]; omega) | decide) (c12 : In3 x1 := by first | omega | assumption | (simp only [mk_len, List.length_map]; omega) | decide) : wr P d sw_c519 sw_h519 (0, [r0, vi x1, t2, t3], [], h, kc, ks) Q := by
  refine w_ld rfl rfl (Or.inr (Or.inr ⟨by decide, y1⟩)) ?_
  subst e_q2
  refine w_getf rfl g4 n6 ?_
  refine w_ld rfl rfl (Or.inl ⟨by decide, rfl⟩) ?_
  subst e_q7
  refine w_iald rfl g9 (Or.inl rfl) c12 c11 c10 ?_
  refine w_c32 rfl (by decide) 1 (by decide) ?_
  refine w_isub rfl ?_
  refine w_st (ls' := [.index q2, vi x1, vi ((gi a8 x1) - 1), t3]) rfl (Or.inl ⟨by decide, rfl⟩) rfl ?_
  refine w_ld rfl rfl (Or.inr (Or.inr ⟨by decide, rfl⟩)) ?_
  refine w_getf rfl g4 n14 ?_
  exact w_cs rfl [v13] [] rfl rfl (s_wt_4 rfl) k

theorem k519_16 {P : s_P} {d : Nat} {Q : s_O → Prop} {h : s_H} {kc ks : Nat} {r0 : Term} {x1 x2 : Int} {t3 : Term}  (k : wr P d sw_c519 sw_h519 (18, [r0, vi x1, vi x2, vi 0], [], h, kc, ks) Q)   : wr P d sw_c519 sw_h519 (16, [r0, vi x1, vi x2, t3], [], h, kc, ks) Q := by
  refine w_c32 rfl (by decide) 0 (by decide) ?_
  refine w_st (ls' := [r0, vi x1, vi x2, vi 0]) rfl (Or.inl ⟨by decide, rfl⟩) rfl ?_
  exact k

theorem k519_18 {P : s_P} {d : Nat} {Q : s_O → Prop} {h : s_H} {kc ks : Nat} {r0 : Term} {x1 x2 x3 : Int}  (k1 : x2 < x3 → wr P d sw_c519 sw_h519 (102, [r0, vi x1, vi x2, vi x3], [], h, kc, ks) Q) (k2 : ¬ x2 < x3 → wr P d sw_c519 sw_h519 (23, [r0, vi x1, vi x2, vi x3], [], h, kc, ks) Q)  (c1 : In3 x3 := by first | omega | assumption | (simp only [mk_len, List.length_map]; omega) | decide) (c2 : In3 x2 := by first | omega | assumption | (simp only [mk_len, List.length_map]; omega) | decide) : wr P d sw_c519 sw_h519 (18, [r0, vi x1, vi x2, vi x3], [], h, kc, ks) Q := by
  refine w_ld rfl rfl (Or.inl ⟨by decide, rfl⟩) ?_
  refine w_ld rfl rfl (Or.inl ⟨by decide, rfl⟩) ?_
  exact w_if2 rfl c1 c2 k1 k2

theorem k519_23 {P : s_P} {d : Nat} {Q : s_O → Prop} {h : s_H} {kc ks : Nat} {r0 : Term} {x1 x2 x3 : Int} {q2 : Nat} {f3 : List Term} (g4 : s_get h q2 = some (1, 11, f3)) (k : wm P d 409 [.index q2, vi x2, vi x3] h (wq P d sw_c519 sw_h519 29 [.index q2, vi x1, vi x2, vi x3] [] kc ks Q)) (e_q2 : r0 = .index q2 := by first | rfl | assumption) (y1 : s_ty r0 = 3 := by first | rfl | assumption)  : wr P d sw_c519 sw_h519 (23, [r0, vi x1, vi x2, vi x3], [], h, kc, ks) Q := by
  refine w_ld rfl rfl (Or.inr (Or.inr ⟨by decide, y1⟩)) ?_
  refine w_ld rfl rfl (Or.inl ⟨by decide, rfl⟩) ?_
  refine w_ld rfl rfl (Or.inl ⟨by decide, rfl⟩) ?_
  subst e_q2
  exact w_cv rfl [.index q2, vi x2, vi x3] [] rfl rfl (s_wt_4 rfl) rfl g4 k

theorem k519_29 {P : s_P} {d : Nat} {Q : s_O → Prop} {h : s_H} {kc ks : Nat} {r0 : Term} {x1 x2 x3 : Int} {q2 : Nat} {f3 : List Term} {v5 v7 : Term} (g4 : s_get h q2 = some (1, 11, f3)) (k : wm P d 425 [v5, v7] h (wq P d sw_c519 sw_h519 40 [.index q2, vi x1, vi x2, vi x3] [] kc ks Q)) (e_q2 : r0 = .index q2 := by first | rfl | assumption) (y1 : s_ty r0 = 3 := by first | rfl | assumption) (n6 : s_nth f3 22 = some v5 := by first | rfl | assumption) (n8 : s_nth f3 10 = some v7 := by first | rfl | assumption)  : wr P d sw_c519 sw_h519 (29, [r0, vi x1, vi x2, vi x3], [], h, kc, ks) Q := by
  refine w_ld rfl rfl (Or.inr (Or.inr ⟨by decide, y1⟩)) ?_
  subst e_q2
  refine w_getf rfl g4 n6 ?_
  refine w_ld rfl rfl (Or.inr (Or.inr ⟨by decide, rfl⟩)) ?_
  refine w_getf rfl g4 n8 ?_
  exact w_cs rfl [v5, v7] [] rfl rfl (s_wt_4 rfl) k

theorem k519_40 {P : s_P} {d : Nat} {Q : s_O → Prop} {h : s_H} {kc ks : Nat} {r0 : Term} {x1 x2 x3 : Int} {q2 : Nat} {f3 : List Term} {v5 : Term} (g4 : s_get h q2 = some (1, 11, f3)) (k : wm P d 530 [v5, vl x3] h (wq P d sw_c519 sw_h519 49 [.index q2, vi x1, vi x2, vi x3] [] kc ks Q)) (e_q2 : r0 = .index q2 := by first | rfl | assumption) (y1 : s_ty r0 = 3 := by first | rfl | assumption) (n6 : s_nth f3 22 = some v5 := by first | rfl | assumption) (c7 : In3 x3 := by first | omega | assumption | (simp only [mk_len, List.length_map]; omega) | decide) : wr P d sw_c519 sw_h519 (40, [r0, vi x1, vi x2, vi x3], [], h, kc, ks) Q := by
  refine w_ld rfl rfl (Or.inr (Or.inr ⟨by decide, y1⟩)) ?_
  subst e_q2
  refine w_getf rfl g4 n6 ?_
  refine w_ld rfl rfl (Or.inl ⟨by decide, rfl⟩) ?_
  refine w_i2l rfl c7 ?_
  exact w_cs rfl [v5, vl x3] [] rfl rfl (s_wt_4 rfl) k

theorem k519_49 {P : s_P} {d : Nat} {Q : s_O → Prop} {h : s_H} {kc ks : Nat} {r0 : Term} {x1 x2 x3 : Int} {q2 : Nat} {f3 : List Term} {v5 v7 : Term} (g4 : s_get h q2 = some (1, 11, f3)) (k : wm P d 532 [.index q2, v5, v7] h (wq P d sw_c519 sw_h519 61 [.index q2, vi x1, vi x2, vi x3] [] kc ks Q)) (e_q2 : r0 = .index q2 := by first | rfl | assumption) (y1 : s_ty r0 = 3 := by first | rfl | assumption) (n6 : s_nth f3 23 = some v5 := by first | rfl | assumption) (n8 : s_nth f3 22 = some v7 := by first | rfl | assumption)  : wr P d sw_c519 sw_h519 (49, [r0, vi x1, vi x2, vi x3], [], h, kc, ks) Q := by
  refine w_ld rfl rfl (Or.inr (Or.inr ⟨by decide, y1⟩)) ?_
  refine w_ld rfl rfl (Or.inr (Or.inr ⟨by decide, y1⟩)) ?_
  subst e_q2
  refine w_getf rfl g4 n6 ?_
  refine w_ld rfl rfl (Or.inr (Or.inr ⟨by decide, rfl⟩)) ?_
  refine w_getf rfl g4 n8 ?_
  exact w_cv rfl [.index q2, v5, v7] [] rfl rfl (s_wt_4 rfl) rfl g4 k

theorem k519_61 {P : s_P} {d : Nat} {Q : s_O → Prop} {h : s_H} {kc ks : Nat} {r0 : Term} {x1 x2 x3 : Int} {q2 : Nat} {f3 : List Term} {v5 : Term} (g4 : s_get h q2 = some (1, 11, f3)) (k : wm P d 508 [.index q2, v5, vi x1, vi 0, vi x3] h (wq P d sw_c519 sw_h519 72 [.index q2, vi x1, vi x2, vi x3] [] kc ks Q)) (e_q2 : r0 = .index q2 := by first | rfl | assumption) (y1 : s_ty r0 = 3 := by first | rfl | assumption) (n6 : s_nth f3 20 = some v5 := by first | rfl | assumption)  : wr P d sw_c519 sw_h519 (61, [r0, vi x1, vi x2, vi x3], [], h, kc, ks) Q := by
  refine w_ld rfl rfl (Or.inr (Or.inr ⟨by decide, y1⟩)) ?_
  refine w_ld rfl rfl (Or.inr (Or.inr ⟨by decide, y1⟩)) ?_
  subst e_q2
  refine w_getf rfl g4 n6 ?_
  refine w_ld rfl rfl (Or.inl ⟨by decide, rfl⟩) ?_
  refine w_c32 rfl (by decide) 0 (by decide) ?_
  refine w_ld rfl rfl (Or.inl ⟨by decide, rfl⟩) ?_
  exact w_cv rfl [.index q2, v5, vi x1, vi 0, vi x3] [] rfl rfl (s_wt_4 rfl) rfl g4 k

theorem k519_72 {P : s_P} {d : Nat} {Q : s_O → Prop} {h : s_H} {kc ks : Nat} {r0 : Term} {x1 x2 x3 : Int} {q2 : Nat} {f3 : List Term} {v5 v7 : Term} (g4 : s_get h q2 = some (1, 11, f3)) (k : wm P d 532 [.index q2, v5, v7] h (wq P d sw_c519 sw_h519 84 [.index q2, vi x1, vi x2, vi x3] [] kc ks Q)) (e_q2 : r0 = .index q2 := by first | rfl | assumption) (y1 : s_ty r0 = 3 := by first | rfl | assumption) (n6 : s_nth f3 23 = some v5 := by first | rfl | assumption) (n8 : s_nth f3 20 = some v7 := by first | rfl | assumption)  : wr P d sw_c519 sw_h519 (72, [r0, vi x1, vi x2, vi x3], [], h, kc, ks) Q := by
  refine w_ld rfl rfl (Or.inr (Or.inr ⟨by decide, y1⟩)) ?_
  refine w_ld rfl rfl (Or.inr (Or.inr ⟨by decide, y1⟩)) ?_
  subst e_q2
  refine w_getf rfl g4 n6 ?_
  refine w_ld rfl rfl (Or.inr (Or.inr ⟨by decide, rfl⟩)) ?_
  refine w_getf rfl g4 n8 ?_
  exact w_cv rfl [.index q2, v5, v7] [] rfl rfl (s_wt_4 rfl) rfl g4 k

theorem k519_84 {P : s_P} {d : Nat} {Q : s_O → Prop} {h : s_H} {kc ks : Nat} {r0 : Term} {x1 x2 x3 : Int} {q2 : Nat} {f3 : List Term} {v5 v7 : Term} (g4 : s_get h q2 = some (1, 11, f3)) (k : wm P d 529 [v5, v7, vl 1] h (wq P d sw_c519 sw_h519 96 [.index q2, vi x1, vi x2, vi x3] [] kc ks Q)) (e_q2 : r0 = .index q2 := by first | rfl | assumption) (y1 : s_ty r0 = 3 := by first | rfl | assumption) (n6 : s_nth f3 14 = some v5 := by first | rfl | assumption) (n8 : s_nth f3 23 = some v7 := by first | rfl | assumption)  : wr P d sw_c519 sw_h519 (84, [r0, vi x1, vi x2, vi x3], [], h, kc, ks) Q := by
  refine w_ld rfl rfl (Or.inr (Or.inr ⟨by decide, y1⟩)) ?_
  subst e_q2
  refine w_getf rfl g4 n6 ?_
  refine w_ld rfl rfl (Or.inr (Or.inr ⟨by decide, rfl⟩)) ?_
  refine w_getf rfl g4 n8 ?_
  refine w_c64 rfl (by decide) 1 (by decide) ?_
  exact w_cs rfl [v5, v7, vl 1] [] rfl rfl (s_wt_4 rfl) k

theorem k519_96 {P : s_P} {d : Nat} {Q : s_O → Prop} {h : s_H} {kc ks : Nat} {r0 : Term} {x1 x2 x3 : Int}  (k : wr P d sw_c519 sw_h519 (18, [r0, vi x1, vi x2, vi (x3 + 1)], [], h, kc, ks) Q)   : wr P d sw_c519 sw_h519 (96, [r0, vi x1, vi x2, vi x3], [], h, kc, ks) Q := by
  refine w_iinc (ls' := [r0, vi x1, vi x2, vi (x3 + 1)]) rfl rfl 1 (by decide) rfl ?_
  refine w_goto rfl ?_
  exact k

theorem k519_102 {P : s_P} {d : Nat} {Q : s_O → Prop} {h : s_H} {kc ks : Nat} {r0 : Term} {x1 x2 x3 : Int} {q2 : Nat} {f3 : List Term} (g4 : s_get h q2 = some (1, 11, f3)) (k : wm P d 409 [.index q2, vi x2, vi (-1)] h (wq P d sw_c519 sw_h519 108 [.index q2, vi x1, vi x2, vi x3] [] kc ks Q)) (e_q2 : r0 = .index q2 := by first | rfl | assumption) (y1 : s_ty r0 = 3 := by first | rfl | assumption)  : wr P d sw_c519 sw_h519 (102, [r0, vi x1, vi x2, vi x3], [], h, kc, ks) Q := by
  refine w_ld rfl rfl (Or.inr (Or.inr ⟨by decide, y1⟩)) ?_
  refine w_ld rfl rfl (Or.inl ⟨by decide, rfl⟩) ?_
  refine w_c32 rfl (by decide) (-1) (by decide) ?_
  subst e_q2
  exact w_cv rfl [.index q2, vi x2, vi (-1)] [] rfl rfl (s_wt_4 rfl) rfl g4 k

theorem k519_108 {P : s_P} {d : Nat} {Q : s_O → Prop} {h : s_H} {kc ks : Nat} {r0 : Term} {x1 x2 x3 : Int} {q2 : Nat} {f3 : List Term} {v5 v7 : Term} (g4 : s_get h q2 = some (1, 11, f3)) (k : wm P d 425 [v5, v7] h (wq P d sw_c519 sw_h519 119 [.index q2, vi x1, vi x2, vi x3] [] kc ks Q)) (e_q2 : r0 = .index q2 := by first | rfl | assumption) (y1 : s_ty r0 = 3 := by first | rfl | assumption) (n6 : s_nth f3 15 = some v5 := by first | rfl | assumption) (n8 : s_nth f3 23 = some v7 := by first | rfl | assumption)  : wr P d sw_c519 sw_h519 (108, [r0, vi x1, vi x2, vi x3], [], h, kc, ks) Q := by
  refine w_ld rfl rfl (Or.inr (Or.inr ⟨by decide, y1⟩)) ?_
  subst e_q2
  refine w_getf rfl g4 n6 ?_
  refine w_ld rfl rfl (Or.inr (Or.inr ⟨by decide, rfl⟩)) ?_
  refine w_getf rfl g4 n8 ?_
  exact w_cs rfl [v5, v7] [] rfl rfl (s_wt_4 rfl) k

theorem k519_119 {P : s_P} {d : Nat} {Q : s_O → Prop} {h : s_H} {kc ks : Nat} {r0 : Term} {x1 x2 x3 : Int} {q2 : Nat} {f3 : List Term} (g4 : s_get h q2 = some (1, 11, f3)) (k : wm P d 516 [.index q2] h (wq P d sw_c519 sw_h519 123 [.index q2, vi x1, vi x2, vi x3] [] kc ks Q)) (e_q2 : r0 = .index q2 := by first | rfl | assumption) (y1 : s_ty r0 = 3 := by first | rfl | assumption)  : wr P d sw_c519 sw_h519 (119, [r0, vi x1, vi x2, vi x3], [], h, kc, ks) Q := by
  refine w_ld rfl rfl (Or.inr (Or.inr ⟨by decide, y1⟩)) ?_
  subst e_q2
  exact w_cv rfl [.index q2] [] rfl rfl (s_wt_4 rfl) rfl g4 k

theorem k519_123 {P : s_P} {d : Nat} {Q : s_O → Prop} {h : s_H} {kc ks : Nat} {r0 : Term} {x1 x2 x3 : Int}  (k : Q (.inl none, h, kc, ks))   : wr P d sw_c519 sw_h519 (123, [r0, vi x1, vi x2, vi x3], [], h, kc, ks) Q := by
  exact w_ret rfl k

/-! 520: FormulaWorksModel.makeCore()V -/
theorem k520_0 {P : s_P} {d : Nat} {Q : s_O → Prop} {h : s_H} {kc ks : Nat} {r0 : Term} {q2 : Nat} {f3 : List Term} {v5 v7 : Term} (g4 : s_get h q2 = some (1, 11, f3)) (k : wm P d 531 [.index q2, v5, v7] h (wq P d sw_c520 sw_h520 12 [.index q2] [] kc ks Q)) (e_q2 : r0 = .index q2 := by first | rfl | assumption) (y1 : s_ty r0 = 3 := by first | rfl | assumption) (n6 : s_nth f3 42 = some v5 := by first | rfl | assumption) (n8 : s_nth f3 38 = some v7 := by first | rfl | assumption)  : wr P d sw_c520 sw_h520 (0, [r0], [], h, kc, ks) Q := by
  refine w_ld rfl rfl (Or.inr (Or.inr ⟨by decide, y1⟩)) ?_
  refine w_ld rfl rfl (Or.inr (Or.inr ⟨by decide, y1⟩)) ?_
  subst e_q2
  refine w_getf rfl g4 n6 ?_
  refine w_ld rfl rfl (Or.inr (Or.inr ⟨by decide, rfl⟩)) ?_
  refine w_getf rfl g4 n8 ?_
  exact w_cv rfl [.index q2, v5, v7] [] rfl rfl (s_wt_4 rfl) rfl g4 k

theorem k520_12 {P : s_P} {d : Nat} {Q : s_O → Prop} {h : s_H} {kc ks : Nat} {r0 : Term} {q2 : Nat} {f3 : List Term} {v5 v7 : Term} (g4 : s_get h q2 = some (1, 11, f3)) (k : wm P d 425 [v5, v7] h (wq P d sw_c520 sw_h520 23 [.index q2] [] kc ks Q)) (e_q2 : r0 = .index q2 := by first | rfl | assumption) (y1 : s_ty r0 = 3 := by first | rfl | assumption) (n6 : s_nth f3 14 = some v5 := by first | rfl | assumption) (n8 : s_nth f3 16 = some v7 := by first | rfl | assumption)  : wr P d sw_c520 sw_h520 (12, [r0], [], h, kc, ks) Q := by
  refine w_ld rfl rfl (Or.inr (Or.inr ⟨by decide, y1⟩)) ?_
  subst e_q2
  refine w_getf rfl g4 n6 ?_
  refine w_ld rfl rfl (Or.inr (Or.inr ⟨by decide, rfl⟩)) ?_
  refine w_getf rfl g4 n8 ?_
  exact w_cs rfl [v5, v7] [] rfl rfl (s_wt_4 rfl) k

theorem k520_23 {P : s_P} {d : Nat} {Q : s_O → Prop} {h : s_H} {kc ks : Nat} {r0 : Term} {q2 : Nat} {f3 : List Term} {v5 v7 : Term} (g4 : s_get h q2 = some (1, 11, f3)) (k : wm P d 529 [v5, v7, vl 1] h (wq P d sw_c520 sw_h520 35 [.index q2] [] kc ks Q)) (e_q2 : r0 = .index q2 := by first | rfl | assumption) (y1 : s_ty r0 = 3 := by first | rfl | assumption) (n6 : s_nth f3 14 = some v5 := by first | rfl | assumption) (n8 : s_nth f3 40 = some v7 := by first | rfl | assumption)  : wr P d sw_c520 sw_h520 (23, [r0], [], h, kc, ks) Q := by
  refine w_ld rfl rfl (Or.inr (Or.inr ⟨by decide, y1⟩)) ?_
  subst e_q2
  refine w_getf rfl g4 n6 ?_
  refine w_ld rfl rfl (Or.inr (Or.inr ⟨by decide, rfl⟩)) ?_
  refine w_getf rfl g4 n8 ?_
  refine w_c64 rfl (by decide) 1 (by decide) ?_
  exact w_cs rfl [v5, v7, vl 1] [] rfl rfl (s_wt_4 rfl) k

theorem k520_35 {P : s_P} {d : Nat} {Q : s_O → Prop} {h : s_H} {kc ks : Nat} {r0 : Term} {q2 : Nat} {f3 : List Term} {v5 v7 : Term} (g4 : s_get h q2 = some (1, 11, f3)) (k : wm P d 425 [v5, v7] h (wq P d sw_c520 sw_h520 46 [.index q2] [] kc ks Q)) (e_q2 : r0 = .index q2 := by first | rfl | assumption) (y1 : s_ty r0 = 3 := by first | rfl | assumption) (n6 : s_nth f3 15 = some v5 := by first | rfl | assumption) (n8 : s_nth f3 38 = some v7 := by first | rfl | assumption)  : wr P d sw_c520 sw_h520 (35, [r0], [], h, kc, ks) Q := by
  refine w_ld rfl rfl (Or.inr (Or.inr ⟨by decide, y1⟩)) ?_
  subst e_q2
  refine w_getf rfl g4 n6 ?_
  refine w_ld rfl rfl (Or.inr (Or.inr ⟨by decide, rfl⟩)) ?_
  refine w_getf rfl g4 n8 ?_
  exact w_cs rfl [v5, v7] [] rfl rfl (s_wt_4 rfl) k

theorem k520_46 {P : s_P} {d : Nat} {Q : s_O → Prop} {h : s_H} {kc ks : Nat} {r0 : Term} {q2 : Nat} {f3 : List Term} (g4 : s_get h q2 = some (1, 11, f3)) (k : wm P d 516 [.index q2] h (wq P d sw_c520 sw_h520 50 [.index q2] [] kc ks Q)) (e_q2 : r0 = .index q2 := by first | rfl | assumption) (y1 : s_ty r0 = 3 := by first | rfl | assumption)  : wr P d sw_c520 sw_h520 (46, [r0], [], h, kc, ks) Q := by
  refine w_ld rfl rfl (Or.inr (Or.inr ⟨by decide, y1⟩)) ?_
  subst e_q2
  exact w_cv rfl [.index q2] [] rfl rfl (s_wt_4 rfl) rfl g4 k

theorem k520_50 {P : s_P} {d : Nat} {Q : s_O → Prop} {h : s_H} {kc ks : Nat} {r0 : Term}  (k : Q (.inl none, h, kc, ks))   : wr P d sw_c520 sw_h520 (50, [r0], [], h, kc, ks) Q := by
  exact w_ret rfl k

/-! 521: FormulaWorksModel.makeMonic([J)V -/
theorem k521_0 {P : s_P} {d : Nat} {Q : s_O → Prop} {h : s_H} {kc ks : Nat} {r0 t1 : Term}  (k : wm P d 463 [r0] h (wq P d sw_c521 sw_h521 4 [r0, t1] [] kc ks Q)) (y1 : s_ty r0 = 3 := by first | rfl | assumption)  : wr P d sw_c521 sw_h521 (0, [r0, t1], [], h, kc, ks) Q := by
  refine w_ld rfl rfl (Or.inr (Or.inr ⟨by decide, y1⟩)) ?_
  exact w_cs rfl [r0] [] rfl rfl (s_wt_4 rfl) k

theorem k521_4 {P : s_P} {d : Nat} {Q : s_O → Prop} {h : s_H} {kc ks : Nat} {r0 t1 : Term} {s0 : Int}  (k1 : s0 < 0 → wr P d sw_c521 sw_h521 (19, [r0, vi s0], [], h, kc, ks) Q) (k2 : ¬ s0 < 0 → wr P d sw_c521 sw_h521 (9, [r0, vi s0], [], h, kc, ks) Q) (y1 : s_ty r0 = 3 := by first | rfl | assumption) (c2 : In3 s0 := by first | omega | assumption | (simp only [mk_len, List.length_map]; omega) | decide) : wr P d sw_c521 sw_h521 (4, [r0, t1], [vi s0], h, kc, ks) Q := by
  refine w_st (ls' := [r0, vi s0]) rfl (Or.inl ⟨by decide, rfl⟩) (s_stK_r (pre := []) y1) ?_
  refine w_ld rfl rfl (Or.inl ⟨by decide, rfl⟩) ?_
  exact w_if1 rfl c2 k1 k2

theorem k521_9 {P : s_P} {d : Nat} {Q : s_O → Prop} {h : s_H} {kc ks : Nat} {r0 : Term} {x1 : Int} {q2 : Nat} {a3 : List Int} (g4 : s_get h q2 = some (0, 1, a3.map vl)) (k : wm P d 467 [vl (gi a3 x1)] h (wq P d sw_c521 sw_h521 16 [.index q2, vi x1] [.index q2] kc ks Q)) (e_q2 : r0 = .index q2 := by first | rfl | assumption) (y1 : s_ty r0 = 3 := by first | rfl | assumption) (c5 : x1 < a3.length := by first | omega | assumption | (simp only [mk_len, List.length_map]; omega) | decide) (c6 : 0 ≤ x1 := by first | omega | assumption | (simp only [mk_len, List.length_map]; omega) | decide) (c7 : In3 x1 := by first | omega | assumption | (simp only [mk_len, List.length_map]; omega) | decide) : wr P d sw_c521 sw_h521 (9, [r0, vi x1], [], h, kc, ks) Q := by
  refine w_ld rfl rfl (Or.inr (Or.inr ⟨by decide, y1⟩)) ?_
  refine w_ld rfl rfl (Or.inr (Or.inr ⟨by decide, y1⟩)) ?_
  refine w_ld rfl rfl (Or.inl ⟨by decide, rfl⟩) ?_
  subst e_q2
  refine w_lald rfl g4 c7 c6 c5 ?_
  exact w_cs rfl [vl (gi a3 x1)] [.index q2] rfl rfl (s_wt_4 rfl) k

theorem k521_16 {P : s_P} {d : Nat} {Q : s_O → Prop} {h : s_H} {kc ks : Nat} {r0 : Term} {x1 : Int} {s0 : Term} {s1 : Int}  (k : wm P d 592 [s0, vl s1] h (wq P d sw_c521 sw_h521 19 [r0, vi x1] [] kc ks Q))   : wr P d sw_c521 sw_h521 (16, [r0, vi x1], [vl s1, s0], h, kc, ks) Q := by
  exact w_cs rfl [s0, vl s1] [] rfl rfl (s_wt_4 rfl) k

theorem k521_19 {P : s_P} {d : Nat} {Q : s_O → Prop} {h : s_H} {kc ks : Nat} {r0 : Term} {x1 : Int}  (k : Q (.inl none, h, kc, ks))   : wr P d sw_c521 sw_h521 (19, [r0, vi x1], [], h, kc, ks) Q := by
  exact w_ret rfl k

/-! 522: FormulaWorksModel.makeOfPower(III)V -/
theorem k522_0 {P : s_P} {d : Nat} {Q : s_O → Prop} {h : s_H} {kc ks : Nat} {r0 : Term} {x1 x2 x3 : Int} {t4 : Term} {q2 : Nat} {f3 : List Term} {v5 : Term} (g4 : s_get h q2 = some (1, 11, f3)) (k : wm P d 438 [v5] h (wq P d sw_c522 sw_h522 7 [.index q2, vi x1, vi x2, vi x3, t4] [] kc ks Q)) (e_q2 : r0 = .index q2 := by first | rfl | assumption) (y1 : s_ty r0 = 3 := by first | rfl | assumption) (n6 : s_nth f3 22 = some v5 := by first | rfl | assumption)  : wr P d sw_c522 sw_h522 (0, [r0, vi x1, vi x2, vi x3, t4], [], h, kc, ks) Q := by
  refine w_ld rfl rfl (Or.inr (Or.inr ⟨by decide, y1⟩)) ?_
  subst e_q2
  refine w_getf rfl g4 n6 ?_
  exact w_cs rfl [v5] [] rfl rfl (s_wt_4 rfl) k

theorem k522_7 {P : s_P} {d : Nat} {Q : s_O → Prop} {h : s_H} {kc ks : Nat} {r0 : Term} {x1 x2 x3 : Int} {t4 : Term} {q2 : Nat} {f3 : List Term} {v5 : Term} (g4 : s_get h q2 = some (1, 11, f3)) (k : wm P d 405 [v5, vl 0] h (wq P d sw_c522 sw_h522 15 [.index q2, vi x1, vi x2, vi x3, t4] [] kc ks Q)) (e_q2 : r0 = .index q2 := by first | rfl | assumption) (y1 : s_ty r0 = 3 := by first | rfl | assumption) (n6 : s_nth f3 21 = some v5 := by first | rfl | assumption)  : wr P d sw_c522 sw_h522 (7, [r0, vi x1, vi x2, vi x3, t4], [], h, kc, ks) Q := by
  refine w_ld rfl rfl (Or.inr (Or.inr ⟨by decide, y1⟩)) ?_
  subst e_q2
  refine w_getf rfl g4 n6 ?_
  refine w_c64 rfl (by decide) 0 (by decide) ?_
  exact w_cs rfl [v5, vl 0] [] rfl rfl (s_wt_4 rfl) k

theorem k522_15 {P : s_P} {d : Nat} {Q : s_O → Prop} {h : s_H} {kc ks : Nat} {r0 : Term} {x1 x2 x3 : Int} {t4 : Term} {q2 : Nat} {f3 : List Term} {v5 : Term} {q7 : Nat} {a8 : List Int} (g4 : s_get h q2 = some (1, 11, f3)) (g9 : s_get h q7 = some (0, 1, a8.map vl)) (k : wr P d sw_c522 sw_h522 (25, [.index q2, vi x1, vi x2, vi x3, vi 0], [], (hp h q7 (0, 1, (a8.set (Int.toNat (x3)) 1).map vl)), kc, ks) Q) (e_q2 : r0 = .index q2 := by first | rfl | assumption) (e_q7 : v5 = .index q7 := by first | rfl | assumption) (y1 : s_ty r0 = 3 := by first | rfl | assumption) (n6 : s_nth f3 21 = some v5 := by first | rfl | assumption) (c10 : x3 < a8.length := by first | omega | assumption | (simp only [mk_len, List.length_map]; omega) | decide) (c11 : 0 ≤ x3 := by first | omega | assumption | (simp only [mk_len, List.length_map]; omega) | decide) (c12 : In3 x3 := by first | omega | assumption | (simp only [mk_len, List.length_map]; omega) | decide) (c13 : 0 < q7 := by first | omega | assumption | (simp only [mk_len, List.length_map]; omega) | decide) : wr P d sw_c522 sw_h522 (15, [r0, vi x1, vi x2, vi x3, t4], [], h, kc, ks) Q := by
  refine w_ld rfl rfl (Or.inr (Or.inr ⟨by decide, y1⟩)) ?_
  subst e_q2
  refine w_getf rfl g4 n6 ?_
  refine w_ld rfl rfl (Or.inl ⟨by decide, rfl⟩) ?_
  refine w_c64 rfl (by decide) 1 (by decide) ?_
  subst e_q7
  refine w_last rfl g9 (Nat.ble_eq_true_of_le c13) c12 c11 c10 ?_
  refine w_c32 rfl (by decide) 0 (by decide) ?_
  refine w_st (ls' := [.index q2, vi x1, vi x2, vi x3, vi 0]) rfl (Or.inl ⟨by decide, rfl⟩) rfl ?_
  exact k

theorem k522_25 {P : s_P} {d : Nat} {Q : s_O → Prop} {h : s_H} {kc ks : Nat} {r0 : Term} {x1 x2 x3 x4 : Int} {q2 : Nat} {f3 : List Term} {v5 : Term} {q7 : Nat} {a8 : List Int} (g4 : s_get h q2 = some (1, 11, f3)) (g9 : s_get h q7 = some (0, 0, a8.map vi)) (k1 : gi a8 x1 ≤ x4 → wr P d sw_c522 sw_h522 (115, [.index q2, vi x1, vi x2, vi x3, vi x4], [], h, kc, ks) Q) (k2 : ¬ gi a8 x1 ≤ x4 → wr P d sw_c522 sw_h522 (36, [.index q2, vi x1, vi x2, vi x3, vi x4], [], h, kc, ks) Q) (e_q2 : r0 = .index q2 := by first | rfl | assumption) (e_q7 : v5 = .index q7 := by first | rfl | assumption) (y1 : s_ty r0 = 3 := by first | rfl | assumption) (n6 : s_nth f3 6 = some v5 := by first | rfl | assumption) (c10 : x1 < a8.length := by first | omega | assumption | (simp only [mk_len, List.length_map]; omega) | decide) (c11 : 0 ≤ x1 := by first | omega | assumption | (simp only [mk_len, List.length_map]; omega) | decide) (c12 : In3 x1 := by first | omega | assumption | (simp only [mk_len, List.length_map]; omega) | decide) (c13 : In3 x4 := by first | omega | assumption | (simp only [mk_len, List.length_map]; omega) | decide) (c14 : In3 (gi a8 x1) := by first | omega | assumption | (simp only [mk_len, List.length_map]; omega) | decide) : wr P d sw_c522 sw_h522 (25, [r0, vi x1, vi x2, vi x3, vi x4], [], h, kc, ks) Q := by
  refine w_ld rfl rfl (Or.inl ⟨by decide, rfl⟩) ?_
  refine w_ld rfl rfl (Or.inr (Or.inr ⟨by decide, y1⟩)) ?_
  subst e_q2
  refine w_getf rfl g4 n6 ?_
  refine w_ld rfl rfl (Or.inl ⟨by decide, rfl⟩) ?_
  subst e_q7
  refine w_iald rfl g9 (Or.inl rfl) c12 c11 c10 ?_
  exact w_if2 rfl c13 c14 k1 k2

theorem k522_36 {P : s_P} {d : Nat} {Q : s_O → Prop} {h : s_H} {kc ks : Nat} {r0 : Term} {x1 x2 x3 x4 : Int} {q2 : Nat} {f3 : List Term} {v5 : Term} (g4 : s_get h q2 = some (1, 11, f3)) (k : wm P d 508 [.index q2, v5, vi x1, vi 0, vi x4] h (wq P d sw_c522 sw_h522 48 [.index q2, vi x1, vi x2, vi x3, vi x4] [] kc ks Q)) (e_q2 : r0 = .index q2 := by first | rfl | assumption) (y1 : s_ty r0 = 3 := by first | rfl | assumption) (n6 : s_nth f3 20 = some v5 := by first | rfl | assumption)  : wr P d sw_c522 sw_h522 (36, [r0, vi x1, vi x2, vi x3, vi x4], [], h, kc, ks) Q := by
  refine w_ld rfl rfl (Or.inr (Or.inr ⟨by decide, y1⟩)) ?_
  refine w_ld rfl rfl (Or.inr (Or.inr ⟨by decide, y1⟩)) ?_
  subst e_q2
  refine w_getf rfl g4 n6 ?_
  refine w_ld rfl rfl (Or.inl ⟨by decide, rfl⟩) ?_
  refine w_c32 rfl (by decide) 0 (by decide) ?_
  refine w_ld rfl rfl (Or.inl ⟨by decide, rfl⟩) ?_
  exact w_cv rfl [.index q2, v5, vi x1, vi 0, vi x4] [] rfl rfl (s_wt_4 rfl) rfl g4 k

theorem k522_48 {P : s_P} {d : Nat} {Q : s_O → Prop} {h : s_H} {kc ks : Nat} {r0 : Term} {x1 x2 x3 x4 : Int} {q2 : Nat} {f3 : List Term} {v5 v7 : Term} (g4 : s_get h q2 = some (1, 11, f3)) (k : wm P d 531 [.index q2, v5, v7] h (wq P d sw_c522 sw_h522 60 [.index q2, vi x1, vi x2, vi x3, vi x4] [] kc ks Q)) (e_q2 : r0 = .index q2 := by first | rfl | assumption) (y1 : s_ty r0 = 3 := by first | rfl | assumption) (n6 : s_nth f3 20 = some v5 := by first | rfl | assumption) (n8 : s_nth f3 21 = some v7 := by first | rfl | assumption)  : wr P d sw_c522 sw_h522 (48, [r0, vi x1, vi x2, vi x3, vi x4], [], h, kc, ks) Q := by
  refine w_ld rfl rfl (Or.inr (Or.inr ⟨by decide, y1⟩)) ?_
  refine w_ld rfl rfl (Or.inr (Or.inr ⟨by decide, y1⟩)) ?_
  subst e_q2
  refine w_getf rfl g4 n6 ?_
  refine w_ld rfl rfl (Or.inr (Or.inr ⟨by decide, rfl⟩)) ?_
  refine w_getf rfl g4 n8 ?_
  exact w_cv rfl [.index q2, v5, v7] [] rfl rfl (s_wt_4 rfl) rfl g4 k

theorem k522_60 {P : s_P} {d : Nat} {Q : s_O → Prop} {h : s_H} {kc ks : Nat} {r0 : Term} {x1 x2 x3 x4 : Int} {q2 : Nat} {f3 : List Term} {v5 v7 : Term} (g4 : s_get h q2 = some (1, 11, f3)) (k : wm P d 529 [v5, v7, vl 1] h (wq P d sw_c522 sw_h522 72 [.index q2, vi x1, vi x2, vi x3, vi x4] [] kc ks Q)) (e_q2 : r0 = .index q2 := by first | rfl | assumption) (y1 : s_ty r0 = 3 := by first | rfl | assumption) (n6 : s_nth f3 22 = some v5 := by first | rfl | assumption) (n8 : s_nth f3 16 = some v7 := by first | rfl | assumption)  : wr P d sw_c522 sw_h522 (60, [r0, vi x1, vi x2, vi x3, vi x4], [], h, kc, ks) Q := by
  refine w_ld rfl rfl (Or.inr (Or.inr ⟨by decide, y1⟩)) ?_
  subst e_q2
  refine w_getf rfl g4 n6 ?_
  refine w_ld rfl rfl (Or.inr (Or.inr ⟨by decide, rfl⟩)) ?_
  refine w_getf rfl g4 n8 ?_
  refine w_c64 rfl (by decide) 1 (by decide) ?_
  exact w_cs rfl [v5, v7, vl 1] [] rfl rfl (s_wt_4 rfl) k

theorem k522_72 {P : s_P} {d : Nat} {Q : s_O → Prop} {h : s_H} {kc ks : Nat} {r0 : Term} {x1 x2 x3 x4 : Int}  (k1 : x2 ≠ 0 → wr P d sw_c522 sw_h522 (87, [r0, vi x1, vi x2, vi x3, vi x4], [], h, kc, ks) Q) (k2 : ¬ x2 ≠ 0 → wr P d sw_c522 sw_h522 (76, [r0, vi x1, vi x2, vi x3, vi x4], [], h, kc, ks) Q)  (c1 : In3 x2 := by first | omega | assumption | (simp only [mk_len, List.length_map]; omega) | decide) : wr P d sw_c522 sw_h522 (72, [r0, vi x1, vi x2, vi x3, vi x4], [], h, kc, ks) Q := by
  refine w_ld rfl rfl (Or.inl ⟨by decide, rfl⟩) ?_
  exact w_if1 rfl c1 k1 k2

theorem k522_76 {P : s_P} {d : Nat} {Q : s_O → Prop} {h : s_H} {kc ks : Nat} {r0 : Term} {x1 x2 x3 x4 : Int} {q2 : Nat} {f3 : List Term} {v5 : Term} (g4 : s_get h q2 = some (1, 11, f3)) (k : wm P d 530 [v5, vl 1] h (wq P d sw_c522 sw_h522 84 [.index q2, vi x1, vi x2, vi x3, vi x4] [] kc ks Q)) (e_q2 : r0 = .index q2 := by first | rfl | assumption) (y1 : s_ty r0 = 3 := by first | rfl | assumption) (n6 : s_nth f3 21 = some v5 := by first | rfl | assumption)  : wr P d sw_c522 sw_h522 (76, [r0, vi x1, vi x2, vi x3, vi x4], [], h, kc, ks) Q := by
  refine w_ld rfl rfl (Or.inr (Or.inr ⟨by decide, y1⟩)) ?_
  subst e_q2
  refine w_getf rfl g4 n6 ?_
  refine w_c64 rfl (by decide) 1 (by decide) ?_
  exact w_cs rfl [v5, vl 1] [] rfl rfl (s_wt_4 rfl) k

theorem k522_84 {P : s_P} {d : Nat} {Q : s_O → Prop} {h : s_H} {kc ks : Nat} {r0 : Term} {x1 x2 x3 x4 : Int}  (k : wr P d sw_c522 sw_h522 (109, [r0, vi x1, vi x2, vi x3, vi x4], [], h, kc, ks) Q)   : wr P d sw_c522 sw_h522 (84, [r0, vi x1, vi x2, vi x3, vi x4], [], h, kc, ks) Q := by
  refine w_goto rfl ?_
  exact k

theorem k522_87 {P : s_P} {d : Nat} {Q : s_O → Prop} {h : s_H} {kc ks : Nat} {r0 : Term} {x1 x2 x3 x4 : Int} {q2 : Nat} {f3 : List Term} {v5 v7 : Term} (g4 : s_get h q2 = some (1, 11, f3)) (k : wm P d 596 [v5, v7] h (wq P d sw_c522 sw_h522 98 [.index q2, vi x1, vi x2, vi x3, vi x4] [] kc ks Q)) (e_q2 : r0 = .index q2 := by first | rfl | assumption) (y1 : s_ty r0 = 3 := by first | rfl | assumption) (n6 : s_nth f3 23 = some v5 := by first | rfl | assumption) (n8 : s_nth f3 21 = some v7 := by first | rfl | assumption)  : wr P d sw_c522 sw_h522 (87, [r0, vi x1, vi x2, vi x3, vi x4], [], h, kc, ks) Q := by
  refine w_ld rfl rfl (Or.inr (Or.inr ⟨by decide, y1⟩)) ?_
  subst e_q2
  refine w_getf rfl g4 n6 ?_
  refine w_ld rfl rfl (Or.inr (Or.inr ⟨by decide, rfl⟩)) ?_
  refine w_getf rfl g4 n8 ?_
  exact w_cs rfl [v5, v7] [] rfl rfl (s_wt_4 rfl) k

theorem k522_98 {P : s_P} {d : Nat} {Q : s_O → Prop} {h : s_H} {kc ks : Nat} {r0 : Term} {x1 x2 x3 x4 : Int} {q2 : Nat} {f3 : List Term} {v5 v7 : Term} (g4 : s_get h q2 = some (1, 11, f3)) (k : wm P d 425 [v5, v7] h (wq P d sw_c522 sw_h522 109 [.index q2, vi x1, vi x2, vi x3, vi x4] [] kc ks Q)) (e_q2 : r0 = .index q2 := by first | rfl | assumption) (y1 : s_ty r0 = 3 := by first | rfl | assumption) (n6 : s_nth f3 21 = some v5 := by first | rfl | assumption) (n8 : s_nth f3 23 = some v7 := by first | rfl | assumption)  : wr P d sw_c522 sw_h522 (98, [r0, vi x1, vi x2, vi x3, vi x4], [], h, kc, ks) Q := by
  refine w_ld rfl rfl (Or.inr (Or.inr ⟨by decide, y1⟩)) ?_
  subst e_q2
  refine w_getf rfl g4 n6 ?_
  refine w_ld rfl rfl (Or.inr (Or.inr ⟨by decide, rfl⟩)) ?_
  refine w_getf rfl g4 n8 ?_
  exact w_cs rfl [v5, v7] [] rfl rfl (s_wt_4 rfl) k

theorem k522_109 {P : s_P} {d : Nat} {Q : s_O → Prop} {h : s_H} {kc ks : Nat} {r0 : Term} {x1 x2 x3 x4 : Int}  (k : wr P d sw_c522 sw_h522 (25, [r0, vi x1, vi x2, vi x3, vi (x4 + 1)], [], h, kc, ks) Q)   : wr P d sw_c522 sw_h522 (109, [r0, vi x1, vi x2, vi x3, vi x4], [], h, kc, ks) Q := by
  refine w_iinc (ls' := [r0, vi x1, vi x2, vi x3, vi (x4 + 1)]) rfl rfl 1 (by decide) rfl ?_
  refine w_goto rfl ?_
  exact k

theorem k522_115 {P : s_P} {d : Nat} {Q : s_O → Prop} {h : s_H} {kc ks : Nat} {r0 : Term} {x1 x2 x3 x4 : Int}  (k : Q (.inl none, h, kc, ks))   : wr P d sw_c522 sw_h522 (115, [r0, vi x1, vi x2, vi x3, vi x4], [], h, kc, ks) Q := by
  exact w_ret rfl k

/-! 523: FormulaWorksModel.makeRest()V -/
theorem k523_0 {P : s_P} {d : Nat} {Q : s_O → Prop} {h : s_H} {kc ks : Nat} {r0 : Term} {q2 : Nat} {f3 : List Term} {v5 v7 : Term} (g4 : s_get h q2 = some (1, 11, f3)) (k : wm P d 425 [v5, v7] h (wq P d sw_c523 sw_h523 11 [.index q2] [] kc ks Q)) (e_q2 : r0 = .index q2 := by first | rfl | assumption) (y1 : s_ty r0 = 3 := by first | rfl | assumption) (n6 : s_nth f3 14 = some v5 := by first | rfl | assumption) (n8 : s_nth f3 41 = some v7 := by first | rfl | assumption)  : wr P d sw_c523 sw_h523 (0, [r0], [], h, kc, ks) Q := by
  refine w_ld rfl rfl (Or.inr (Or.inr ⟨by decide, y1⟩)) ?_
  subst e_q2
  refine w_getf rfl g4 n6 ?_
  refine w_ld rfl rfl (Or.inr (Or.inr ⟨by decide, rfl⟩)) ?_
  refine w_getf rfl g4 n8 ?_
  exact w_cs rfl [v5, v7] [] rfl rfl (s_wt_4 rfl) k

theorem k523_11 {P : s_P} {d : Nat} {Q : s_O → Prop} {h : s_H} {kc ks : Nat} {r0 : Term} {q2 : Nat} {f3 : List Term} {v5 v7 : Term} (g4 : s_get h q2 = some (1, 11, f3)) (k : wm P d 425 [v5, v7] h (wq P d sw_c523 sw_h523 22 [.index q2] [] kc ks Q)) (e_q2 : r0 = .index q2 := by first | rfl | assumption) (y1 : s_ty r0 = 3 := by first | rfl | assumption) (n6 : s_nth f3 15 = some v5 := by first | rfl | assumption) (n8 : s_nth f3 39 = some v7 := by first | rfl | assumption)  : wr P d sw_c523 sw_h523 (11, [r0], [], h, kc, ks) Q := by
  refine w_ld rfl rfl (Or.inr (Or.inr ⟨by decide, y1⟩)) ?_
  subst e_q2
  refine w_getf rfl g4 n6 ?_
  refine w_ld rfl rfl (Or.inr (Or.inr ⟨by decide, rfl⟩)) ?_
  refine w_getf rfl g4 n8 ?_
  exact w_cs rfl [v5, v7] [] rfl rfl (s_wt_4 rfl) k

theorem k523_22 {P : s_P} {d : Nat} {Q : s_O → Prop} {h : s_H} {kc ks : Nat} {r0 : Term} {q2 : Nat} {f3 : List Term} (g4 : s_get h q2 = some (1, 11, f3)) (k : wm P d 516 [.index q2] h (wq P d sw_c523 sw_h523 26 [.index q2] [] kc ks Q)) (e_q2 : r0 = .index q2 := by first | rfl | assumption) (y1 : s_ty r0 = 3 := by first | rfl | assumption)  : wr P d sw_c523 sw_h523 (22, [r0], [], h, kc, ks) Q := by
  refine w_ld rfl rfl (Or.inr (Or.inr ⟨by decide, y1⟩)) ?_
  subst e_q2
  exact w_cv rfl [.index q2] [] rfl rfl (s_wt_4 rfl) rfl g4 k

theorem k523_26 {P : s_P} {d : Nat} {Q : s_O → Prop} {h : s_H} {kc ks : Nat} {r0 : Term}  (k : Q (.inl none, h, kc, ks))   : wr P d sw_c523 sw_h523 (26, [r0], [], h, kc, ks) Q := by
  exact w_ret rfl k

/-! 524: FormulaWorksModel.manyOf(I)I -/
theorem k524_0 {P : s_P} {d : Nat} {Q : s_O → Prop} {h : s_H} {kc ks : Nat} {x0 : Int} {t1 t2 : Term}  (k : wr P d sw_c524 sw_h524 (4, [vi x0, vi 0, vi 0], [], h, kc, ks) Q)   : wr P d sw_c524 sw_h524 (0, [vi x0, t1, t2], [], h, kc, ks) Q := by
  refine w_c32 rfl (by decide) 0 (by decide) ?_
  refine w_st (ls' := [vi x0, vi 0, t2]) rfl (Or.inl ⟨by decide, rfl⟩) rfl ?_
  refine w_c32 rfl (by decide) 0 (by decide) ?_
  refine w_st (ls' := [vi x0, vi 0, vi 0]) rfl (Or.inl ⟨by decide, rfl⟩) rfl ?_
  exact k

theorem k524_4 {P : s_P} {d : Nat} {Q : s_O → Prop} {h : s_H} {kc ks : Nat} {x0 x1 x2 : Int}  (k1 : 16 ≤ x2 → wr P d sw_c524 sw_h524 (24, [vi x0, vi x1, vi x2], [], h, kc, ks) Q) (k2 : ¬ 16 ≤ x2 → wr P d sw_c524 sw_h524 (10, [vi x0, vi x1, vi x2], [], h, kc, ks) Q)  (c1 : In3 x2 := by first | omega | assumption | (simp only [mk_len, List.length_map]; omega) | decide) : wr P d sw_c524 sw_h524 (4, [vi x0, vi x1, vi x2], [], h, kc, ks) Q := by
  refine w_ld rfl rfl (Or.inl ⟨by decide, rfl⟩) ?_
  refine w_c32 rfl (by decide) 16 (by decide) ?_
  exact w_if2 rfl c1 (by decide) k1 k2

theorem k524_10 {P : s_P} {d : Nat} {Q : s_O → Prop} {h : s_H} {kc ks : Nat} {x0 x1 x2 : Int}  (k : wr P d sw_c524 sw_h524 (4, [vi x0, vi (x1 + (zi 24 (zi 28 x0 x2) 1)), vi (x2 + 1)], [], h, kc, ks) Q)   : wr P d sw_c524 sw_h524 (10, [vi x0, vi x1, vi x2], [], h, kc, ks) Q := by
  refine w_ld rfl rfl (Or.inl ⟨by decide, rfl⟩) ?_
  refine w_ld rfl rfl (Or.inl ⟨by decide, rfl⟩) ?_
  refine w_ld rfl rfl (Or.inl ⟨by decide, rfl⟩) ?_
  refine w_ib rfl (by decide) ?_
  refine w_c32 rfl (by decide) 1 (by decide) ?_
  refine w_ib rfl (by decide) ?_
  refine w_iadd rfl ?_
  refine w_st (ls' := [vi x0, vi (x1 + (zi 24 (zi 28 x0 x2) 1)), vi x2]) rfl (Or.inl ⟨by decide, rfl⟩) rfl ?_
  refine w_iinc (ls' := [vi x0, vi (x1 + (zi 24 (zi 28 x0 x2) 1)), vi (x2 + 1)]) rfl rfl 1 (by decide) rfl ?_
  refine w_goto rfl ?_
  exact k

theorem k524_24 {P : s_P} {d : Nat} {Q : s_O → Prop} {h : s_H} {kc ks : Nat} {x0 x1 x2 : Int}  (k : Q (.inl (some (vi x1)), h, kc, ks))   : wr P d sw_c524 sw_h524 (24, [vi x0, vi x1, vi x2], [], h, kc, ks) Q := by
  refine w_ld rfl rfl (Or.inl ⟨by decide, rfl⟩) ?_
  exact w_iret rfl k

/-! 525: FormulaWorksModel.matrix(II)I -/
theorem k525_0 {P : s_P} {d : Nat} {Q : s_O → Prop} {h : s_H} {kc ks : Nat} {r0 : Term} {x1 x2 : Int} {t3 t4 t5 : Term} {q2 : Nat} {f3 : List Term} (g4 : s_get h q2 = some (1, 11, f3)) (k : wm P d 489 [.index q2, vi x1, vi x2] h (wq P d sw_c525 sw_h525 7 [.index q2, vi x1, vi x2, t3, t4, t5] [.index q2] kc ks Q)) (e_q2 : r0 = .index q2 := by first | rfl | assumption) (y1 : s_ty r0 = 3 := by first | rfl | assumption)  : wr P d sw_c525 sw_h525 (0, [r0, vi x1, vi x2, t3, t4, t5], [], h, kc, ks) Q := by
  refine w_ld rfl rfl (Or.inr (Or.inr ⟨by decide, y1⟩)) ?_
  refine w_ld rfl rfl (Or.inr (Or.inr ⟨by decide, y1⟩)) ?_
  refine w_ld rfl rfl (Or.inl ⟨by decide, rfl⟩) ?_
  refine w_ld rfl rfl (Or.inl ⟨by decide, rfl⟩) ?_
  subst e_q2
  exact w_cv rfl [.index q2, vi x1, vi x2] [.index q2] rfl rfl (s_wt_4 rfl) rfl g4 k

theorem k525_7 {P : s_P} {d : Nat} {Q : s_O → Prop} {h : s_H} {kc ks : Nat} {r0 : Term} {x1 x2 : Int} {t3 t4 t5 s0 : Term} {s1 : Int}  (k1 : s1 = 0 → wr P d sw_c525 sw_h525 (20, [r0, vi x1, vi x2, t3, t4, t5], [s0], h, kc, ks) Q) (k2 : ¬ s1 = 0 → wr P d sw_c525 sw_h525 (10, [r0, vi x1, vi x2, t3, t4, t5], [s0], h, kc, ks) Q)  (c1 : In3 s1 := by first | omega | assumption | (simp only [mk_len, List.length_map]; omega) | decide) : wr P d sw_c525 sw_h525 (7, [r0, vi x1, vi x2, t3, t4, t5], [vi s1, s0], h, kc, ks) Q := by
  exact w_if1 rfl c1 k1 k2

theorem k525_10 {P : s_P} {d : Nat} {Q : s_O → Prop} {h : s_H} {kc ks : Nat} {r0 : Term} {x1 x2 : Int} {t3 t4 t5 s0 : Term} {q2 : Nat} {f3 : List Term} {z5 : Int} (g4 : s_get h q2 = some (1, 11, f3)) (k1 : z5 = x1 * x2 → wr P d sw_c525 sw_h525 (24, [.index q2, vi x1, vi x2, t3, t4, t5], [s0], h, kc, ks) Q) (k2 : ¬ z5 = x1 * x2 → wr P d sw_c525 sw_h525 (20, [.index q2, vi x1, vi x2, t3, t4, t5], [s0], h, kc, ks) Q) (e_q2 : r0 = .index q2 := by first | rfl | assumption) (y1 : s_ty r0 = 3 := by first | rfl | assumption) (n6 : s_nth f3 8 = some (vi z5) := by first | rfl | assumption) (c7 : In3 z5 := by first | omega | assumption | (simp only [mk_len, List.length_map]; omega) | decide) (c8 : In3 (x1 * x2) := by first | omega | assumption | (simp only [mk_len, List.length_map]; omega) | decide) : wr P d sw_c525 sw_h525 (10, [r0, vi x1, vi x2, t3, t4, t5], [s0], h, kc, ks) Q := by
  refine w_ld rfl rfl (Or.inr (Or.inr ⟨by decide, y1⟩)) ?_
  subst e_q2
  refine w_getf rfl g4 n6 ?_
  refine w_ld rfl rfl (Or.inl ⟨by decide, rfl⟩) ?_
  refine w_ld rfl rfl (Or.inl ⟨by decide, rfl⟩) ?_
  refine w_imul rfl ?_
  exact w_if2 rfl c7 c8 k1 k2

theorem k525_20 {P : s_P} {d : Nat} {Q : s_O → Prop} {h : s_H} {kc ks : Nat} {r0 : Term} {x1 x2 : Int} {t3 t4 t5 s0 : Term}  (k : wr P d sw_c525 sw_h525 (39, [r0, vi x1, vi x2, t3, t4, t5], [vi 1, s0], h, kc, ks) Q)   : wr P d sw_c525 sw_h525 (20, [r0, vi x1, vi x2, t3, t4, t5], [s0], h, kc, ks) Q := by
  refine w_c32 rfl (by decide) 1 (by decide) ?_
  refine w_goto rfl ?_
  exact k

theorem k525_24 {P : s_P} {d : Nat} {Q : s_O → Prop} {h : s_H} {kc ks : Nat} {r0 : Term} {x1 x2 : Int} {t3 t4 t5 s0 : Term} {q2 : Nat} {f3 : List Term} {z5 : Int} (g4 : s_get h q2 = some (1, 11, f3)) (k1 : z5 ≠ 150 → wr P d sw_c525 sw_h525 (38, [.index q2, vi x1, vi x2, t3, t4, t5], [s0], h, kc, ks) Q) (k2 : ¬ z5 ≠ 150 → wr P d sw_c525 sw_h525 (34, [.index q2, vi x1, vi x2, t3, t4, t5], [s0], h, kc, ks) Q) (e_q2 : r0 = .index q2 := by first | rfl | assumption) (y1 : s_ty r0 = 3 := by first | rfl | assumption) (n6 : s_nth f3 1 = some (vi z5) := by first | rfl | assumption) (c7 : In3 z5 := by first | omega | assumption | (simp only [mk_len, List.length_map]; omega) | decide) : wr P d sw_c525 sw_h525 (24, [r0, vi x1, vi x2, t3, t4, t5], [s0], h, kc, ks) Q := by
  refine w_ld rfl rfl (Or.inr (Or.inr ⟨by decide, y1⟩)) ?_
  subst e_q2
  refine w_getf rfl g4 n6 ?_
  refine w_c32 rfl (by decide) 150 (by decide) ?_
  exact w_if2 rfl c7 (by decide) k1 k2

theorem k525_34 {P : s_P} {d : Nat} {Q : s_O → Prop} {h : s_H} {kc ks : Nat} {r0 : Term} {x1 x2 : Int} {t3 t4 t5 s0 : Term}  (k : wr P d sw_c525 sw_h525 (39, [r0, vi x1, vi x2, t3, t4, t5], [vi 2, s0], h, kc, ks) Q)   : wr P d sw_c525 sw_h525 (34, [r0, vi x1, vi x2, t3, t4, t5], [s0], h, kc, ks) Q := by
  refine w_c32 rfl (by decide) 2 (by decide) ?_
  refine w_goto rfl ?_
  exact k

theorem k525_38 {P : s_P} {d : Nat} {Q : s_O → Prop} {h : s_H} {kc ks : Nat} {r0 : Term} {x1 x2 : Int} {t3 t4 t5 s0 : Term}  (k : wr P d sw_c525 sw_h525 (39, [r0, vi x1, vi x2, t3, t4, t5], [vi 0, s0], h, kc, ks) Q)   : wr P d sw_c525 sw_h525 (38, [r0, vi x1, vi x2, t3, t4, t5], [s0], h, kc, ks) Q := by
  refine w_c32 rfl (by decide) 0 (by decide) ?_
  exact k

theorem k525_39 {P : s_P} {d : Nat} {Q : s_O → Prop} {h : s_H} {kc ks : Nat} {r0 : Term} {x1 x2 : Int} {t3 t4 t5 s0 : Term} {s1 : Int} {q1 : Nat} {f2 : List Term} {q7 : Nat} {f8 : List Term} {z10 : Int} (g3 : s_get h q1 = some (1, 11, f2)) (g9 : s_get (hp h q1 (1, 11, f2.set 0 (vi s1))) q7 = some (1, 11, f8)) (k1 : z10 ≤ 0 → wr P d sw_c525 sw_h525 (51, [.index q7, vi x1, vi x2, t3, t4, t5], [], (hp h q1 (1, 11, f2.set 0 (vi s1))), kc, ks) Q) (k2 : ¬ z10 ≤ 0 → wr P d sw_c525 sw_h525 (49, [.index q7, vi x1, vi x2, t3, t4, t5], [], (hp h q1 (1, 11, f2.set 0 (vi s1))), kc, ks) Q) (e_q1 : s0 = .index q1 := by first | rfl | assumption) (e_q7 : r0 = .index q7 := by first | rfl | assumption) (l4 : 0 < f2.length := by first | exact Nat.le_of_ble_eq_true rfl | omega | assumption) (y6 : s_ty r0 = 3 := by first | rfl | assumption) (n11 : s_nth f8 0 = some (vi z10) := by first | rfl | assumption) (c5 : 0 < q1 := by first | omega | assumption | (simp only [mk_len, List.length_map]; omega) | decide) (c12 : In3 z10 := by first | omega | assumption | (simp only [mk_len, List.length_map]; omega) | decide) : wr P d sw_c525 sw_h525 (39, [r0, vi x1, vi x2, t3, t4, t5], [vi s1, s0], h, kc, ks) Q := by
  subst e_q1
  refine w_putf rfl g3 (Nat.ble_eq_true_of_le c5) rfl (Nat.ble_eq_true_of_le l4) ?_
  refine w_ld rfl rfl (Or.inr (Or.inr ⟨by decide, y6⟩)) ?_
  subst e_q7
  refine w_getf rfl g9 n11 ?_
  exact w_if1 rfl c12 k1 k2

theorem k525_49 {P : s_P} {d : Nat} {Q : s_O → Prop} {h : s_H} {kc ks : Nat} {r0 : Term} {x1 x2 : Int} {t3 t4 t5 : Term}  (k : Q (.inl (some (vi 0)), h, kc, ks))   : wr P d sw_c525 sw_h525 (49, [r0, vi x1, vi x2, t3, t4, t5], [], h, kc, ks) Q := by
  refine w_c32 rfl (by decide) 0 (by decide) ?_
  exact w_iret rfl k

theorem k525_51 {P : s_P} {d : Nat} {Q : s_O → Prop} {h : s_H} {kc ks : Nat} {r0 : Term} {x1 x2 : Int} {t3 t4 t5 : Term} {q2 : Nat} {f3 : List Term} {v5 : Term} {z7 : Int} {q9 : Nat} {a10 : List Int} {f16 : List Term} {v18 : Term} {z20 : Int} {q22 : Nat} {a23 : List Int} {f29 : List Term} {v31 : Term} {z33 : Int} {q35 : Nat} {a36 : List Int} (g4 : s_get h q2 = some (1, 11, f3)) (g11 : s_get h q9 = some (0, 0, a10.map vi)) (g17 : s_get (hp h q9 (0, 0, (a10.set (Int.toNat (z7)) 2).map vi)) q2 = some (1, 11, f16)) (g24 : s_get (hp h q9 (0, 0, (a10.set (Int.toNat (z7)) 2).map vi)) q22 = some (0, 0, a23.map vi)) (g30 : s_get (hp (hp h q9 (0, 0, (a10.set (Int.toNat (z7)) 2).map vi)) q22 (0, 0, (a23.set (Int.toNat (z20)) x1).map vi)) q2 = some (1, 11, f29)) (g37 : s_get (hp (hp h q9 (0, 0, (a10.set (Int.toNat (z7)) 2).map vi)) q22 (0, 0, (a23.set (Int.toNat (z20)) x1).map vi)) q35 = some (0, 0, a36.map vi)) (k : wr P d sw_c525 sw_h525 (83, [.index q2, vi x1, vi x2, vi 0, t4, t5], [], (hp (hp (hp h q9 (0, 0, (a10.set (Int.toNat (z7)) 2).map vi)) q22 (0, 0, (a23.set (Int.toNat (z20)) x1).map vi)) q35 (0, 0, (a36.set (Int.toNat (z33)) x2).map vi)), kc, ks) Q) (e_q2 : r0 = .index q2 := by first | rfl | assumption) (e_q9 : v5 = .index q9 := by first | rfl | assumption) (e_q22 : v18 = .index q22 := by first | rfl | assumption) (e_q35 : v31 = .index q35 := by first | rfl | assumption) (y1 : s_ty r0 = 3 := by first | rfl | assumption) (n6 : s_nth f3 2 = some v5 := by first | rfl | assumption) (n8 : s_nth f3 1 = some (vi z7) := by first | rfl | assumption) (n19 : s_nth f16 5 = some v18 := by first | rfl | assumption) (n21 : s_nth f16 1 = some (vi z20) := by first | rfl | assumption) (n32 : s_nth f29 6 = some v31 := by first | rfl | assumption) (n34 : s_nth f29 1 = some (vi z33) := by first | rfl | assumption) (c12 : z7 < a10.length := by first | omega | assumption | (simp only [mk_len, List.length_map]; omega) | decide) (c13 : 0 ≤ z7 := by first | omega | assumption | (simp only [mk_len, List.length_map]; omega) | decide) (c14 : In3 z7 := by first | omega | assumption | (simp only [mk_len, List.length_map]; omega) | decide) (c15 : 0 < q9 := by first | omega | assumption | (simp only [mk_len, List.length_map]; omega) | decide) (c25 : z20 < a23.length := by first | omega | assumption | (simp only [mk_len, List.length_map]; omega) | decide) (c26 : 0 ≤ z20 := by first | omega | assumption | (simp only [mk_len, List.length_map]; omega) | decide) (c27 : In3 z20 := by first | omega | assumption | (simp only [mk_len, List.length_map]; omega) | decide) (c28 : 0 < q22 := by first | omega | assumption | (simp only [mk_len, List.length_map]; omega) | decide) (c38 : z33 < a36.length := by first | omega | assumption | (simp only [mk_len, List.length_map]; omega) | decide) (c39 : 0 ≤ z33 := by first | omega | assumption | (simp only [mk_len, List.length_map]; omega) | decide) (c40 : In3 z33 := by first | omega | assumption | (simp only [mk_len, List.length_map]; omega) | decide) (c41 : 0 < q35 := by first | omega | assumption | (simp only [mk_len, List.length_map]; omega) | decide) : wr P d sw_c525 sw_h525 (51, [r0, vi x1, vi x2, t3, t4, t5], [], h, kc, ks) Q := by
  refine w_ld rfl rfl (Or.inr (Or.inr ⟨by decide, y1⟩)) ?_
  subst e_q2
  refine w_getf rfl g4 n6 ?_
  refine w_ld rfl rfl (Or.inr (Or.inr ⟨by decide, rfl⟩)) ?_
  refine w_getf rfl g4 n8 ?_
  refine w_c32 rfl (by decide) 2 (by decide) ?_
  subst e_q9
  refine w_iast rfl g11 (Nat.ble_eq_true_of_le c15) c14 c13 c12 ?_
  refine w_ld rfl rfl (Or.inr (Or.inr ⟨by decide, rfl⟩)) ?_
  refine w_getf rfl g17 n19 ?_
  refine w_ld rfl rfl (Or.inr (Or.inr ⟨by decide, rfl⟩)) ?_
  refine w_getf rfl g17 n21 ?_
  refine w_ld rfl rfl (Or.inl ⟨by decide, rfl⟩) ?_
  subst e_q22
  refine w_iast rfl g24 (Nat.ble_eq_true_of_le c28) c27 c26 c25 ?_
  refine w_ld rfl rfl (Or.inr (Or.inr ⟨by decide, rfl⟩)) ?_
  refine w_getf rfl g30 n32 ?_
  refine w_ld rfl rfl (Or.inr (Or.inr ⟨by decide, rfl⟩)) ?_
  refine w_getf rfl g30 n34 ?_
  refine w_ld rfl rfl (Or.inl ⟨by decide, rfl⟩) ?_
  subst e_q35
  refine w_iast rfl g37 (Nat.ble_eq_true_of_le c41) c40 c39 c38 ?_
  refine w_c32 rfl (by decide) 0 (by decide) ?_
  refine w_st (ls' := [.index q2, vi x1, vi x2, vi 0, t4, t5]) rfl (Or.inl ⟨by decide, rfl⟩) rfl ?_
  exact k

theorem k525_83 {P : s_P} {d : Nat} {Q : s_O → Prop} {h : s_H} {kc ks : Nat} {r0 : Term} {x1 x2 x3 : Int} {t4 t5 : Term}  (k1 : x1 ≤ x3 → wr P d sw_c525 sw_h525 (168, [r0, vi x1, vi x2, vi x3, t4, t5], [], h, kc, ks) Q) (k2 : ¬ x1 ≤ x3 → wr P d sw_c525 sw_h525 (88, [r0, vi x1, vi x2, vi x3, t4, t5], [], h, kc, ks) Q)  (c1 : In3 x3 := by first | omega | assumption | (simp only [mk_len, List.length_map]; omega) | decide) (c2 : In3 x1 := by first | omega | assumption | (simp only [mk_len, List.length_map]; omega) | decide) : wr P d sw_c525 sw_h525 (83, [r0, vi x1, vi x2, vi x3, t4, t5], [], h, kc, ks) Q := by
  refine w_ld rfl rfl (Or.inl ⟨by decide, rfl⟩) ?_
  refine w_ld rfl rfl (Or.inl ⟨by decide, rfl⟩) ?_
  exact w_if2 rfl c1 c2 k1 k2

theorem k525_88 {P : s_P} {d : Nat} {Q : s_O → Prop} {h : s_H} {kc ks : Nat} {r0 : Term} {x1 x2 x3 : Int} {t4 t5 : Term}  (k : wr P d sw_c525 sw_h525 (91, [r0, vi x1, vi x2, vi x3, vi 0, t5], [], h, kc, ks) Q)   : wr P d sw_c525 sw_h525 (88, [r0, vi x1, vi x2, vi x3, t4, t5], [], h, kc, ks) Q := by
  refine w_c32 rfl (by decide) 0 (by decide) ?_
  refine w_st (ls' := [r0, vi x1, vi x2, vi x3, vi 0, t5]) rfl (Or.inl ⟨by decide, rfl⟩) rfl ?_
  exact k

theorem k525_91 {P : s_P} {d : Nat} {Q : s_O → Prop} {h : s_H} {kc ks : Nat} {r0 : Term} {x1 x2 x3 x4 : Int} {t5 : Term}  (k1 : x2 ≤ x4 → wr P d sw_c525 sw_h525 (162, [r0, vi x1, vi x2, vi x3, vi x4, t5], [], h, kc, ks) Q) (k2 : ¬ x2 ≤ x4 → wr P d sw_c525 sw_h525 (97, [r0, vi x1, vi x2, vi x3, vi x4, t5], [], h, kc, ks) Q)  (c1 : In3 x4 := by first | omega | assumption | (simp only [mk_len, List.length_map]; omega) | decide) (c2 : In3 x2 := by first | omega | assumption | (simp only [mk_len, List.length_map]; omega) | decide) : wr P d sw_c525 sw_h525 (91, [r0, vi x1, vi x2, vi x3, vi x4, t5], [], h, kc, ks) Q := by
  refine w_ld rfl rfl (Or.inl ⟨by decide, rfl⟩) ?_
  refine w_ld rfl rfl (Or.inl ⟨by decide, rfl⟩) ?_
  exact w_if2 rfl c1 c2 k1 k2

theorem k525_97 {P : s_P} {d : Nat} {Q : s_O → Prop} {h : s_H} {kc ks : Nat} {r0 : Term} {x1 x2 x3 x4 : Int} {t5 : Term}  (k : wr P d sw_c525 sw_h525 (100, [r0, vi x1, vi x2, vi x3, vi x4, vi 0], [], h, kc, ks) Q)   : wr P d sw_c525 sw_h525 (97, [r0, vi x1, vi x2, vi x3, vi x4, t5], [], h, kc, ks) Q := by
  refine w_c32 rfl (by decide) 0 (by decide) ?_
  refine w_st (ls' := [r0, vi x1, vi x2, vi x3, vi x4, vi 0]) rfl (Or.inl ⟨by decide, rfl⟩) rfl ?_
  exact k

theorem k525_100 {P : s_P} {d : Nat} {Q : s_O → Prop} {h : s_H} {kc ks : Nat} {r0 : Term} {x1 x2 x3 x4 x5 : Int}  (k1 : 10 < x5 → wr P d sw_c525 sw_h525 (156, [r0, vi x1, vi x2, vi x3, vi x4, vi x5], [], h, kc, ks) Q) (k2 : ¬ 10 < x5 → wr P d sw_c525 sw_h525 (107, [r0, vi x1, vi x2, vi x3, vi x4, vi x5], [], h, kc, ks) Q)  (c1 : In3 x5 := by first | omega | assumption | (simp only [mk_len, List.length_map]; omega) | decide) : wr P d sw_c525 sw_h525 (100, [r0, vi x1, vi x2, vi x3, vi x4, vi x5], [], h, kc, ks) Q := by
  refine w_ld rfl rfl (Or.inl ⟨by decide, rfl⟩) ?_
  refine w_c32 rfl (by decide) 10 (by decide) ?_
  exact w_if2 rfl c1 (by decide) k1 k2

theorem k525_107 {P : s_P} {d : Nat} {Q : s_O → Prop} {h : s_H} {kc ks : Nat} {r0 : Term} {x1 x2 x3 x4 x5 : Int} {q2 : Nat} {f3 : List Term} {v5 : Term} {z7 : Int} {v9 : Term} {q11 : Nat} {a12 : List Int} {q17 : Nat} {a18 : List Int} (g4 : s_get h q2 = some (1, 11, f3)) (g13 : s_get h q11 = some (0, 0, a12.map vi)) (g19 : s_get h q17 = some (0, 0, a18.map vi)) (k : wr P d sw_c525 sw_h525 (100, [.index q2, vi x1, vi x2, vi x3, vi x4, vi (x5 + 1)], [], (hp h q17 (0, 0, (a18.set (Int.toNat (((176 * z7) + (11 * ((4 * x3) + x4))) + x5)) (gi a12 ((11 * ((x2 * x3) + x4)) + x5))).map vi)), kc, ks) Q) (e_q2 : r0 = .index q2 := by first | rfl | assumption) (e_q11 : v9 = .index q11 := by first | rfl | assumption) (e_q17 : v5 = .index q17 := by first | rfl | assumption) (y1 : s_ty r0 = 3 := by first | rfl | assumption) (n6 : s_nth f3 7 = some v5 := by first | rfl | assumption) (n8 : s_nth f3 1 = some (vi z7) := by first | rfl | assumption) (n10 : s_nth f3 9 = some v9 := by first | rfl | assumption) (c14 : (11 * ((x2 * x3) + x4)) + x5 < a12.length := by first | omega | assumption | (simp only [mk_len, List.length_map]; omega) | decide) (c15 : 0 ≤ (11 * ((x2 * x3) + x4)) + x5 := by first | omega | assumption | (simp only [mk_len, List.length_map]; omega) | decide) (c16 : In3 ((11 * ((x2 * x3) + x4)) + x5) := by first | omega | assumption | (simp only [mk_len, List.length_map]; omega) | decide) (c20 : ((176 * z7) + (11 * ((4 * x3) + x4))) + x5 < a18.length := by first | omega | assumption | (simp only [mk_len, List.length_map]; omega) | decide) (c21 : 0 ≤ ((176 * z7) + (11 * ((4 * x3) + x4))) + x5 := by first | omega | assumption | (simp only [mk_len, List.length_map]; omega) | decide) (c22 : In3 (((176 * z7) + (11 * ((4 * x3) + x4))) + x5) := by first | omega | assumption | (simp only [mk_len, List.length_map]; omega) | decide) (c23 : 0 < q17 := by first | omega | assumption | (simp only [mk_len, List.length_map]; omega) | decide) : wr P d sw_c525 sw_h525 (107, [r0, vi x1, vi x2, vi x3, vi x4, vi x5], [], h, kc, ks) Q := by
  refine w_ld rfl rfl (Or.inr (Or.inr ⟨by decide, y1⟩)) ?_
  subst e_q2
  refine w_getf rfl g4 n6 ?_
  refine w_c32 rfl (by decide) 176 (by decide) ?_
  refine w_ld rfl rfl (Or.inr (Or.inr ⟨by decide, rfl⟩)) ?_
  refine w_getf rfl g4 n8 ?_
  refine w_imul rfl ?_
  refine w_c32 rfl (by decide) 11 (by decide) ?_
  refine w_c32 rfl (by decide) 4 (by decide) ?_
  refine w_ld rfl rfl (Or.inl ⟨by decide, rfl⟩) ?_
  refine w_imul rfl ?_
  refine w_ld rfl rfl (Or.inl ⟨by decide, rfl⟩) ?_
  refine w_iadd rfl ?_
  refine w_imul rfl ?_
  refine w_iadd rfl ?_
  refine w_ld rfl rfl (Or.inl ⟨by decide, rfl⟩) ?_
  refine w_iadd rfl ?_
  refine w_ld rfl rfl (Or.inr (Or.inr ⟨by decide, rfl⟩)) ?_
  refine w_getf rfl g4 n10 ?_
  refine w_c32 rfl (by decide) 11 (by decide) ?_
  refine w_ld rfl rfl (Or.inl ⟨by decide, rfl⟩) ?_
  refine w_ld rfl rfl (Or.inl ⟨by decide, rfl⟩) ?_
  refine w_imul rfl ?_
  refine w_ld rfl rfl (Or.inl ⟨by decide, rfl⟩) ?_
  refine w_iadd rfl ?_
  refine w_imul rfl ?_
  refine w_ld rfl rfl (Or.inl ⟨by decide, rfl⟩) ?_
  refine w_iadd rfl ?_
  subst e_q11
  refine w_iald rfl g13 (Or.inl rfl) c16 c15 c14 ?_
  subst e_q17
  refine w_iast rfl g19 (Nat.ble_eq_true_of_le c23) c22 c21 c20 ?_
  refine w_iinc (ls' := [.index q2, vi x1, vi x2, vi x3, vi x4, vi (x5 + 1)]) rfl rfl 1 (by decide) rfl ?_
  refine w_goto rfl ?_
  exact k

theorem k525_156 {P : s_P} {d : Nat} {Q : s_O → Prop} {h : s_H} {kc ks : Nat} {r0 : Term} {x1 x2 x3 x4 x5 : Int}  (k : wr P d sw_c525 sw_h525 (91, [r0, vi x1, vi x2, vi x3, vi (x4 + 1), vi x5], [], h, kc, ks) Q)   : wr P d sw_c525 sw_h525 (156, [r0, vi x1, vi x2, vi x3, vi x4, vi x5], [], h, kc, ks) Q := by
  refine w_iinc (ls' := [r0, vi x1, vi x2, vi x3, vi (x4 + 1), vi x5]) rfl rfl 1 (by decide) rfl ?_
  refine w_goto rfl ?_
  exact k

theorem k525_162 {P : s_P} {d : Nat} {Q : s_O → Prop} {h : s_H} {kc ks : Nat} {r0 : Term} {x1 x2 x3 x4 : Int} {t5 : Term}  (k : wr P d sw_c525 sw_h525 (83, [r0, vi x1, vi x2, vi (x3 + 1), vi x4, t5], [], h, kc, ks) Q)   : wr P d sw_c525 sw_h525 (162, [r0, vi x1, vi x2, vi x3, vi x4, t5], [], h, kc, ks) Q := by
  refine w_iinc (ls' := [r0, vi x1, vi x2, vi (x3 + 1), vi x4, t5]) rfl rfl 1 (by decide) rfl ?_
  refine w_goto rfl ?_
  exact k

theorem k525_168 {P : s_P} {d : Nat} {Q : s_O → Prop} {h : s_H} {kc ks : Nat} {r0 : Term} {x1 x2 x3 : Int} {t4 t5 : Term} {q2 : Nat} {f3 f7 : List Term} {z9 : Int} {f12 : List Term} {z14 : Int} (g4 : s_get h q2 = some (1, 11, f3)) (g8 : s_get (hp h q2 (1, 11, f3.set 8 (vi 0))) q2 = some (1, 11, f7)) (g13 : s_get (hp (hp h q2 (1, 11, f3.set 8 (vi 0))) q2 (1, 11, f7.set 1 (vi (z9 + 1)))) q2 = some (1, 11, f12)) (k : Q (.inl (some (vi (z14 - 1))), (hp (hp h q2 (1, 11, f3.set 8 (vi 0))) q2 (1, 11, f7.set 1 (vi (z9 + 1)))), kc, ks)) (e_q2 : r0 = .index q2 := by first | rfl | assumption) (y1 : s_ty r0 = 3 := by first | rfl | assumption) (l5 : 8 < f3.length := by first | exact Nat.le_of_ble_eq_true rfl | omega | assumption) (n10 : s_nth f7 1 = some (vi z9) := by first | rfl | assumption) (l11 : 1 < f7.length := by first | exact Nat.le_of_ble_eq_true rfl | omega | assumption) (n15 : s_nth f12 1 = some (vi z14) := by first | rfl | assumption) (c6 : 0 < q2 := by first | omega | assumption | (simp only [mk_len, List.length_map]; omega) | decide) : wr P d sw_c525 sw_h525 (168, [r0, vi x1, vi x2, vi x3, t4, t5], [], h, kc, ks) Q := by
  refine w_ld rfl rfl (Or.inr (Or.inr ⟨by decide, y1⟩)) ?_
  refine w_c32 rfl (by decide) 0 (by decide) ?_
  subst e_q2
  refine w_putf rfl g4 (Nat.ble_eq_true_of_le c6) rfl (Nat.ble_eq_true_of_le l5) ?_
  refine w_ld rfl rfl (Or.inr (Or.inr ⟨by decide, rfl⟩)) ?_
  refine w_dup rfl rfl ?_
  refine w_getf rfl g8 n10 ?_
  refine w_c32 rfl (by decide) 1 (by decide) ?_
  refine w_iadd rfl ?_
  refine w_putf rfl g8 (Nat.ble_eq_true_of_le c6) rfl (Nat.ble_eq_true_of_le l11) ?_
  refine w_ld rfl rfl (Or.inr (Or.inr ⟨by decide, rfl⟩)) ?_
  refine w_getf rfl g13 n15 ?_
  refine w_c32 rfl (by decide) 1 (by decide) ?_
  refine w_isub rfl ?_
  exact w_iret rfl k

/-! 526: FormulaWorksModel.max(II)I -/
theorem k526_0 {P : s_P} {d : Nat} {Q : s_O → Prop} {h : s_H} {kc ks : Nat} {x0 x1 : Int}  (k1 : x0 ≤ x1 → wr P d sw_c526 sw_h526 (9, [vi x0, vi x1], [], h, kc, ks) Q) (k2 : ¬ x0 ≤ x1 → wr P d sw_c526 sw_h526 (5, [vi x0, vi x1], [], h, kc, ks) Q)  (c1 : In3 x0 := by first | omega | assumption | (simp only [mk_len, List.length_map]; omega) | decide) (c2 : In3 x1 := by first | omega | assumption | (simp only [mk_len, List.length_map]; omega) | decide) : wr P d sw_c526 sw_h526 (0, [vi x0, vi x1], [], h, kc, ks) Q := by
  refine w_ld rfl rfl (Or.inl ⟨by decide, rfl⟩) ?_
  refine w_ld rfl rfl (Or.inl ⟨by decide, rfl⟩) ?_
  exact w_if2 rfl c1 c2 k1 k2

theorem k526_5 {P : s_P} {d : Nat} {Q : s_O → Prop} {h : s_H} {kc ks : Nat} {x0 x1 : Int}  (k : wr P d sw_c526 sw_h526 (10, [vi x0, vi x1], [vi x0], h, kc, ks) Q)   : wr P d sw_c526 sw_h526 (5, [vi x0, vi x1], [], h, kc, ks) Q := by
  refine w_ld rfl rfl (Or.inl ⟨by decide, rfl⟩) ?_
  refine w_goto rfl ?_
  exact k

theorem k526_9 {P : s_P} {d : Nat} {Q : s_O → Prop} {h : s_H} {kc ks : Nat} {x0 x1 : Int}  (k : wr P d sw_c526 sw_h526 (10, [vi x0, vi x1], [vi x1], h, kc, ks) Q)   : wr P d sw_c526 sw_h526 (9, [vi x0, vi x1], [], h, kc, ks) Q := by
  refine w_ld rfl rfl (Or.inl ⟨by decide, rfl⟩) ?_
  exact k

theorem k526_10 {P : s_P} {d : Nat} {Q : s_O → Prop} {h : s_H} {kc ks : Nat} {x0 x1 s0 : Int}  (k : Q (.inl (some (vi s0)), h, kc, ks))   : wr P d sw_c526 sw_h526 (10, [vi x0, vi x1], [vi s0], h, kc, ks) Q := by
  exact w_iret rfl k

/-! 527: FormulaWorksModel.meet(III)I -/
theorem k527_0 {P : s_P} {d : Nat} {Q : s_O → Prop} {h : s_H} {kc ks : Nat} {r0 : Term} {x1 x2 x3 : Int} {t4 : Term} {q2 : Nat} {f3 : List Term} (g4 : s_get h q2 = some (1, 11, f3)) (k : wm P d 492 [.index q2, vi x1] h (wq P d sw_c527 sw_h527 6 [.index q2, vi x1, vi x2, vi x3, t4] [.index q2] kc ks Q)) (e_q2 : r0 = .index q2 := by first | rfl | assumption) (y1 : s_ty r0 = 3 := by first | rfl | assumption)  : wr P d sw_c527 sw_h527 (0, [r0, vi x1, vi x2, vi x3, t4], [], h, kc, ks) Q := by
  refine w_ld rfl rfl (Or.inr (Or.inr ⟨by decide, y1⟩)) ?_
  refine w_ld rfl rfl (Or.inr (Or.inr ⟨by decide, y1⟩)) ?_
  refine w_ld rfl rfl (Or.inl ⟨by decide, rfl⟩) ?_
  subst e_q2
  exact w_cv rfl [.index q2, vi x1] [.index q2] rfl rfl (s_wt_4 rfl) rfl g4 k

theorem k527_6 {P : s_P} {d : Nat} {Q : s_O → Prop} {h : s_H} {kc ks : Nat} {r0 : Term} {x1 x2 x3 : Int} {t4 s0 : Term} {s1 : Int}  (k1 : s1 = 0 → wr P d sw_c527 sw_h527 (17, [r0, vi x1, vi x2, vi x3, t4], [s0], h, kc, ks) Q) (k2 : ¬ s1 = 0 → wr P d sw_c527 sw_h527 (9, [r0, vi x1, vi x2, vi x3, t4], [s0], h, kc, ks) Q)  (c1 : In3 s1 := by first | omega | assumption | (simp only [mk_len, List.length_map]; omega) | decide) : wr P d sw_c527 sw_h527 (6, [r0, vi x1, vi x2, vi x3, t4], [vi s1, s0], h, kc, ks) Q := by
  exact w_if1 rfl c1 k1 k2

theorem k527_9 {P : s_P} {d : Nat} {Q : s_O → Prop} {h : s_H} {kc ks : Nat} {r0 : Term} {x1 x2 x3 : Int} {t4 s0 : Term} {q2 : Nat} {f3 : List Term} (g4 : s_get h q2 = some (1, 11, f3)) (k : wm P d 492 [.index q2, vi x3] h (wq P d sw_c527 sw_h527 14 [.index q2, vi x1, vi x2, vi x3, t4] [s0] kc ks Q)) (e_q2 : r0 = .index q2 := by first | rfl | assumption) (y1 : s_ty r0 = 3 := by first | rfl | assumption)  : wr P d sw_c527 sw_h527 (9, [r0, vi x1, vi x2, vi x3, t4], [s0], h, kc, ks) Q := by
  refine w_ld rfl rfl (Or.inr (Or.inr ⟨by decide, y1⟩)) ?_
  refine w_ld rfl rfl (Or.inl ⟨by decide, rfl⟩) ?_
  subst e_q2
  exact w_cv rfl [.index q2, vi x3] [s0] rfl rfl (s_wt_4 rfl) rfl g4 k

theorem k527_14 {P : s_P} {d : Nat} {Q : s_O → Prop} {h : s_H} {kc ks : Nat} {r0 : Term} {x1 x2 x3 : Int} {t4 s0 : Term} {s1 : Int}  (k1 : s1 ≠ 0 → wr P d sw_c527 sw_h527 (21, [r0, vi x1, vi x2, vi x3, t4], [s0], h, kc, ks) Q) (k2 : ¬ s1 ≠ 0 → wr P d sw_c527 sw_h527 (17, [r0, vi x1, vi x2, vi x3, t4], [s0], h, kc, ks) Q)  (c1 : In3 s1 := by first | omega | assumption | (simp only [mk_len, List.length_map]; omega) | decide) : wr P d sw_c527 sw_h527 (14, [r0, vi x1, vi x2, vi x3, t4], [vi s1, s0], h, kc, ks) Q := by
  exact w_if1 rfl c1 k1 k2

theorem k527_17 {P : s_P} {d : Nat} {Q : s_O → Prop} {h : s_H} {kc ks : Nat} {r0 : Term} {x1 x2 x3 : Int} {t4 s0 : Term}  (k : wr P d sw_c527 sw_h527 (53, [r0, vi x1, vi x2, vi x3, t4], [vi 1, s0], h, kc, ks) Q)   : wr P d sw_c527 sw_h527 (17, [r0, vi x1, vi x2, vi x3, t4], [s0], h, kc, ks) Q := by
  refine w_c32 rfl (by decide) 1 (by decide) ?_
  refine w_goto rfl ?_
  exact k

theorem k527_21 {P : s_P} {d : Nat} {Q : s_O → Prop} {h : s_H} {kc ks : Nat} {r0 : Term} {x1 x2 x3 : Int} {t4 s0 : Term} {q2 : Nat} {f3 : List Term} (g4 : s_get h q2 = some (1, 11, f3)) (k : wm P d 486 [.index q2, vi x1] h (wq P d sw_c527 sw_h527 26 [.index q2, vi x1, vi x2, vi x3, t4] [s0] kc ks Q)) (e_q2 : r0 = .index q2 := by first | rfl | assumption) (y1 : s_ty r0 = 3 := by first | rfl | assumption)  : wr P d sw_c527 sw_h527 (21, [r0, vi x1, vi x2, vi x3, t4], [s0], h, kc, ks) Q := by
  refine w_ld rfl rfl (Or.inr (Or.inr ⟨by decide, y1⟩)) ?_
  refine w_ld rfl rfl (Or.inl ⟨by decide, rfl⟩) ?_
  subst e_q2
  exact w_cv rfl [.index q2, vi x1] [s0] rfl rfl (s_wt_4 rfl) rfl g4 k

theorem k527_26 {P : s_P} {d : Nat} {Q : s_O → Prop} {h : s_H} {kc ks : Nat} {r0 : Term} {x1 x2 x3 : Int} {t4 s0 : Term} {s1 : Int}  (k1 : s1 = 0 → wr P d sw_c527 sw_h527 (48, [r0, vi x1, vi x2, vi x3, t4], [s0], h, kc, ks) Q) (k2 : ¬ s1 = 0 → wr P d sw_c527 sw_h527 (29, [r0, vi x1, vi x2, vi x3, t4], [s0], h, kc, ks) Q)  (c1 : In3 s1 := by first | omega | assumption | (simp only [mk_len, List.length_map]; omega) | decide) : wr P d sw_c527 sw_h527 (26, [r0, vi x1, vi x2, vi x3, t4], [vi s1, s0], h, kc, ks) Q := by
  exact w_if1 rfl c1 k1 k2

theorem k527_29 {P : s_P} {d : Nat} {Q : s_O → Prop} {h : s_H} {kc ks : Nat} {r0 : Term} {x1 x2 x3 : Int} {t4 s0 : Term}  (k : wm P d 464 [vl x2, vl 0, vl 1] h (wq P d sw_c527 sw_h527 36 [r0, vi x1, vi x2, vi x3, t4] [s0] kc ks Q))  (c1 : In3 x2 := by first | omega | assumption | (simp only [mk_len, List.length_map]; omega) | decide) : wr P d sw_c527 sw_h527 (29, [r0, vi x1, vi x2, vi x3, t4], [s0], h, kc, ks) Q := by
  refine w_ld rfl rfl (Or.inl ⟨by decide, rfl⟩) ?_
  refine w_i2l rfl c1 ?_
  refine w_c64 rfl (by decide) 0 (by decide) ?_
  refine w_c64 rfl (by decide) 1 (by decide) ?_
  exact w_cs rfl [vl x2, vl 0, vl 1] [s0] rfl rfl (s_wt_4 rfl) k

theorem k527_36 {P : s_P} {d : Nat} {Q : s_O → Prop} {h : s_H} {kc ks : Nat} {r0 : Term} {x1 x2 x3 : Int} {t4 s0 : Term} {s1 : Int}  (k1 : s1 = 0 → wr P d sw_c527 sw_h527 (48, [r0, vi x1, vi x2, vi x3, t4], [s0], h, kc, ks) Q) (k2 : ¬ s1 = 0 → wr P d sw_c527 sw_h527 (39, [r0, vi x1, vi x2, vi x3, t4], [s0], h, kc, ks) Q)  (c1 : In3 s1 := by first | omega | assumption | (simp only [mk_len, List.length_map]; omega) | decide) : wr P d sw_c527 sw_h527 (36, [r0, vi x1, vi x2, vi x3, t4], [vi s1, s0], h, kc, ks) Q := by
  exact w_if1 rfl c1 k1 k2

theorem k527_39 {P : s_P} {d : Nat} {Q : s_O → Prop} {h : s_H} {kc ks : Nat} {r0 : Term} {x1 x2 x3 : Int} {t4 s0 : Term} {q2 : Nat} {f3 : List Term} (g4 : s_get h q2 = some (1, 11, f3)) (k : wm P d 469 [.index q2, vi x3, vi 0] h (wq P d sw_c527 sw_h527 45 [.index q2, vi x1, vi x2, vi x3, t4] [s0] kc ks Q)) (e_q2 : r0 = .index q2 := by first | rfl | assumption) (y1 : s_ty r0 = 3 := by first | rfl | assumption)  : wr P d sw_c527 sw_h527 (39, [r0, vi x1, vi x2, vi x3, t4], [s0], h, kc, ks) Q := by
  refine w_ld rfl rfl (Or.inr (Or.inr ⟨by decide, y1⟩)) ?_
  refine w_ld rfl rfl (Or.inl ⟨by decide, rfl⟩) ?_
  refine w_c32 rfl (by decide) 0 (by decide) ?_
  subst e_q2
  exact w_cv rfl [.index q2, vi x3, vi 0] [s0] rfl rfl (s_wt_4 rfl) rfl g4 k

theorem k527_45 {P : s_P} {d : Nat} {Q : s_O → Prop} {h : s_H} {kc ks : Nat} {r0 : Term} {x1 x2 x3 : Int} {t4 s0 : Term} {s1 : Int}  (k1 : s1 ≠ 0 → wr P d sw_c527 sw_h527 (52, [r0, vi x1, vi x2, vi x3, t4], [s0], h, kc, ks) Q) (k2 : ¬ s1 ≠ 0 → wr P d sw_c527 sw_h527 (48, [r0, vi x1, vi x2, vi x3, t4], [s0], h, kc, ks) Q)  (c1 : In3 s1 := by first | omega | assumption | (simp only [mk_len, List.length_map]; omega) | decide) : wr P d sw_c527 sw_h527 (45, [r0, vi x1, vi x2, vi x3, t4], [vi s1, s0], h, kc, ks) Q := by
  exact w_if1 rfl c1 k1 k2

theorem k527_48 {P : s_P} {d : Nat} {Q : s_O → Prop} {h : s_H} {kc ks : Nat} {r0 : Term} {x1 x2 x3 : Int} {t4 s0 : Term}  (k : wr P d sw_c527 sw_h527 (53, [r0, vi x1, vi x2, vi x3, t4], [vi 2, s0], h, kc, ks) Q)   : wr P d sw_c527 sw_h527 (48, [r0, vi x1, vi x2, vi x3, t4], [s0], h, kc, ks) Q := by
  refine w_c32 rfl (by decide) 2 (by decide) ?_
  refine w_goto rfl ?_
  exact k

theorem k527_52 {P : s_P} {d : Nat} {Q : s_O → Prop} {h : s_H} {kc ks : Nat} {r0 : Term} {x1 x2 x3 : Int} {t4 s0 : Term}  (k : wr P d sw_c527 sw_h527 (53, [r0, vi x1, vi x2, vi x3, t4], [vi 0, s0], h, kc, ks) Q)   : wr P d sw_c527 sw_h527 (52, [r0, vi x1, vi x2, vi x3, t4], [s0], h, kc, ks) Q := by
  refine w_c32 rfl (by decide) 0 (by decide) ?_
  exact k

theorem k527_53 {P : s_P} {d : Nat} {Q : s_O → Prop} {h : s_H} {kc ks : Nat} {r0 : Term} {x1 x2 x3 : Int} {t4 s0 : Term} {s1 : Int} {q1 : Nat} {f2 : List Term} {q7 : Nat} {f8 : List Term} {z10 : Int} (g3 : s_get h q1 = some (1, 11, f2)) (g9 : s_get (hp h q1 (1, 11, f2.set 0 (vi s1))) q7 = some (1, 11, f8)) (k1 : z10 ≤ 0 → wr P d sw_c527 sw_h527 (65, [.index q7, vi x1, vi x2, vi x3, t4], [], (hp h q1 (1, 11, f2.set 0 (vi s1))), kc, ks) Q) (k2 : ¬ z10 ≤ 0 → wr P d sw_c527 sw_h527 (63, [.index q7, vi x1, vi x2, vi x3, t4], [], (hp h q1 (1, 11, f2.set 0 (vi s1))), kc, ks) Q) (e_q1 : s0 = .index q1 := by first | rfl | assumption) (e_q7 : r0 = .index q7 := by first | rfl | assumption) (l4 : 0 < f2.length := by first | exact Nat.le_of_ble_eq_true rfl | omega | assumption) (y6 : s_ty r0 = 3 := by first | rfl | assumption) (n11 : s_nth f8 0 = some (vi z10) := by first | rfl | assumption) (c5 : 0 < q1 := by first | omega | assumption | (simp only [mk_len, List.length_map]; omega) | decide) (c12 : In3 z10 := by first | omega | assumption | (simp only [mk_len, List.length_map]; omega) | decide) : wr P d sw_c527 sw_h527 (53, [r0, vi x1, vi x2, vi x3, t4], [vi s1, s0], h, kc, ks) Q := by
  subst e_q1
  refine w_putf rfl g3 (Nat.ble_eq_true_of_le c5) rfl (Nat.ble_eq_true_of_le l4) ?_
  refine w_ld rfl rfl (Or.inr (Or.inr ⟨by decide, y6⟩)) ?_
  subst e_q7
  refine w_getf rfl g9 n11 ?_
  exact w_if1 rfl c12 k1 k2

theorem k527_63 {P : s_P} {d : Nat} {Q : s_O → Prop} {h : s_H} {kc ks : Nat} {r0 : Term} {x1 x2 x3 : Int} {t4 : Term}  (k : Q (.inl (some (vi 0)), h, kc, ks))   : wr P d sw_c527 sw_h527 (63, [r0, vi x1, vi x2, vi x3, t4], [], h, kc, ks) Q := by
  refine w_c32 rfl (by decide) 0 (by decide) ?_
  exact w_iret rfl k

theorem k527_65 {P : s_P} {d : Nat} {Q : s_O → Prop} {h : s_H} {kc ks : Nat} {r0 : Term} {x1 x2 x3 : Int} {t4 : Term} {q2 : Nat} {f3 : List Term} {v5 v7 : Term} (g4 : s_get h q2 = some (1, 11, f3)) (k : wm P d 505 [.index q2, v5, v7, vi x3] h (wq P d sw_c527 sw_h527 78 [.index q2, vi x1, vi x2, vi x3, t4] [] kc ks Q)) (e_q2 : r0 = .index q2 := by first | rfl | assumption) (y1 : s_ty r0 = 3 := by first | rfl | assumption) (n6 : s_nth f3 10 = some v5 := by first | rfl | assumption) (n8 : s_nth f3 11 = some v7 := by first | rfl | assumption)  : wr P d sw_c527 sw_h527 (65, [r0, vi x1, vi x2, vi x3, t4], [], h, kc, ks) Q := by
  refine w_ld rfl rfl (Or.inr (Or.inr ⟨by decide, y1⟩)) ?_
  refine w_ld rfl rfl (Or.inr (Or.inr ⟨by decide, y1⟩)) ?_
  subst e_q2
  refine w_getf rfl g4 n6 ?_
  refine w_ld rfl rfl (Or.inr (Or.inr ⟨by decide, rfl⟩)) ?_
  refine w_getf rfl g4 n8 ?_
  refine w_ld rfl rfl (Or.inl ⟨by decide, rfl⟩) ?_
  exact w_cv rfl [.index q2, v5, v7, vi x3] [] rfl rfl (s_wt_4 rfl) rfl g4 k

theorem k527_78 {P : s_P} {d : Nat} {Q : s_O → Prop} {h : s_H} {kc ks : Nat} {r0 : Term} {x1 x2 x3 : Int} {t4 : Term} {q2 : Nat} {f3 : List Term} {v5 : Term} (g4 : s_get h q2 = some (1, 11, f3)) (k : wm P d 483 [v5] h (wq P d sw_c527 sw_h527 85 [.index q2, vi x1, vi x2, vi x3, t4] [] kc ks Q)) (e_q2 : r0 = .index q2 := by first | rfl | assumption) (y1 : s_ty r0 = 3 := by first | rfl | assumption) (n6 : s_nth f3 11 = some v5 := by first | rfl | assumption)  : wr P d sw_c527 sw_h527 (78, [r0, vi x1, vi x2, vi x3, t4], [], h, kc, ks) Q := by
  refine w_ld rfl rfl (Or.inr (Or.inr ⟨by decide, y1⟩)) ?_
  subst e_q2
  refine w_getf rfl g4 n6 ?_
  exact w_cs rfl [v5] [] rfl rfl (s_wt_4 rfl) k

theorem k527_85 {P : s_P} {d : Nat} {Q : s_O → Prop} {h : s_H} {kc ks : Nat} {r0 : Term} {x1 x2 x3 : Int} {t4 : Term} {s0 : Int}  (k1 : s0 ≠ 0 → wr P d sw_c527 sw_h527 (94, [r0, vi x1, vi x2, vi x3, t4], [], h, kc, ks) Q) (k2 : ¬ s0 ≠ 0 → wr P d sw_c527 sw_h527 (88, [r0, vi x1, vi x2, vi x3, t4], [], h, kc, ks) Q)  (c1 : In3 s0 := by first | omega | assumption | (simp only [mk_len, List.length_map]; omega) | decide) : wr P d sw_c527 sw_h527 (85, [r0, vi x1, vi x2, vi x3, t4], [vi s0], h, kc, ks) Q := by
  exact w_if1 rfl c1 k1 k2

theorem k527_88 {P : s_P} {d : Nat} {Q : s_O → Prop} {h : s_H} {kc ks : Nat} {r0 : Term} {x1 x2 x3 : Int} {t4 : Term} {q2 : Nat} {f3 : List Term} (g4 : s_get h q2 = some (1, 11, f3)) (k : wm P d 570 [.index q2, vi 2] h (wq P d sw_c527 sw_h527 93 [.index q2, vi x1, vi x2, vi x3, t4] [] kc ks Q)) (e_q2 : r0 = .index q2 := by first | rfl | assumption) (y1 : s_ty r0 = 3 := by first | rfl | assumption)  : wr P d sw_c527 sw_h527 (88, [r0, vi x1, vi x2, vi x3, t4], [], h, kc, ks) Q := by
  refine w_ld rfl rfl (Or.inr (Or.inr ⟨by decide, y1⟩)) ?_
  refine w_c32 rfl (by decide) 2 (by decide) ?_
  subst e_q2
  exact w_cv rfl [.index q2, vi 2] [] rfl rfl (s_wt_4 rfl) rfl g4 k

theorem k527_93 {P : s_P} {d : Nat} {Q : s_O → Prop} {h : s_H} {kc ks : Nat} {r0 : Term} {x1 x2 x3 : Int} {t4 : Term} {s0 : Int}  (k : Q (.inl (some (vi s0)), h, kc, ks))   : wr P d sw_c527 sw_h527 (93, [r0, vi x1, vi x2, vi x3, t4], [vi s0], h, kc, ks) Q := by
  exact w_iret rfl k

theorem k527_94 {P : s_P} {d : Nat} {Q : s_O → Prop} {h : s_H} {kc ks : Nat} {r0 : Term} {x1 x2 x3 : Int} {t4 : Term} {q2 : Nat} {f3 : List Term} {z5 : Int} (g4 : s_get h q2 = some (1, 11, f3)) (k1 : z5 ≠ 150 → wr P d sw_c527 sw_h527 (110, [.index q2, vi x1, vi x2, vi x3, t4], [], h, kc, ks) Q) (k2 : ¬ z5 ≠ 150 → wr P d sw_c527 sw_h527 (104, [.index q2, vi x1, vi x2, vi x3, t4], [], h, kc, ks) Q) (e_q2 : r0 = .index q2 := by first | rfl | assumption) (y1 : s_ty r0 = 3 := by first | rfl | assumption) (n6 : s_nth f3 1 = some (vi z5) := by first | rfl | assumption) (c7 : In3 z5 := by first | omega | assumption | (simp only [mk_len, List.length_map]; omega) | decide) : wr P d sw_c527 sw_h527 (94, [r0, vi x1, vi x2, vi x3, t4], [], h, kc, ks) Q := by
  refine w_ld rfl rfl (Or.inr (Or.inr ⟨by decide, y1⟩)) ?_
  subst e_q2
  refine w_getf rfl g4 n6 ?_
  refine w_c32 rfl (by decide) 150 (by decide) ?_
  exact w_if2 rfl c7 (by decide) k1 k2

theorem k527_104 {P : s_P} {d : Nat} {Q : s_O → Prop} {h : s_H} {kc ks : Nat} {r0 : Term} {x1 x2 x3 : Int} {t4 : Term} {q2 : Nat} {f3 : List Term} (g4 : s_get h q2 = some (1, 11, f3)) (k : wm P d 570 [.index q2, vi 3] h (wq P d sw_c527 sw_h527 109 [.index q2, vi x1, vi x2, vi x3, t4] [] kc ks Q)) (e_q2 : r0 = .index q2 := by first | rfl | assumption) (y1 : s_ty r0 = 3 := by first | rfl | assumption)  : wr P d sw_c527 sw_h527 (104, [r0, vi x1, vi x2, vi x3, t4], [], h, kc, ks) Q := by
  refine w_ld rfl rfl (Or.inr (Or.inr ⟨by decide, y1⟩)) ?_
  refine w_c32 rfl (by decide) 3 (by decide) ?_
  subst e_q2
  exact w_cv rfl [.index q2, vi 3] [] rfl rfl (s_wt_4 rfl) rfl g4 k

theorem k527_109 {P : s_P} {d : Nat} {Q : s_O → Prop} {h : s_H} {kc ks : Nat} {r0 : Term} {x1 x2 x3 : Int} {t4 : Term} {s0 : Int}  (k : Q (.inl (some (vi s0)), h, kc, ks))   : wr P d sw_c527 sw_h527 (109, [r0, vi x1, vi x2, vi x3, t4], [vi s0], h, kc, ks) Q := by
  exact w_iret rfl k

theorem k527_110 {P : s_P} {d : Nat} {Q : s_O → Prop} {h : s_H} {kc ks : Nat} {r0 : Term} {x1 x2 x3 : Int} {t4 : Term} {q2 : Nat} {f3 : List Term} {v5 : Term} (g4 : s_get h q2 = some (1, 11, f3)) (k : wm P d 416 [.index q2, vi x1, vi x2, v5] h (wq P d sw_c527 sw_h527 120 [.index q2, vi x1, vi x2, vi x3, t4] [] kc ks Q)) (e_q2 : r0 = .index q2 := by first | rfl | assumption) (y1 : s_ty r0 = 3 := by first | rfl | assumption) (n6 : s_nth f3 10 = some v5 := by first | rfl | assumption)  : wr P d sw_c527 sw_h527 (110, [r0, vi x1, vi x2, vi x3, t4], [], h, kc, ks) Q := by
  refine w_ld rfl rfl (Or.inr (Or.inr ⟨by decide, y1⟩)) ?_
  refine w_ld rfl rfl (Or.inl ⟨by decide, rfl⟩) ?_
  refine w_ld rfl rfl (Or.inl ⟨by decide, rfl⟩) ?_
  refine w_ld rfl rfl (Or.inr (Or.inr ⟨by decide, y1⟩)) ?_
  subst e_q2
  refine w_getf rfl g4 n6 ?_
  exact w_cv rfl [.index q2, vi x1, vi x2, v5] [] rfl rfl (s_wt_4 rfl) rfl g4 k

theorem k527_120 {P : s_P} {d : Nat} {Q : s_O → Prop} {h : s_H} {kc ks : Nat} {r0 : Term} {x1 x2 x3 : Int} {t4 : Term} {q2 : Nat} {f3 : List Term} {z5 : Int} (g4 : s_get h q2 = some (1, 11, f3)) (k : wr P d sw_c527 sw_h527 (126, [.index q2, vi x1, vi x2, vi x3, vi z5], [], h, kc, ks) Q) (e_q2 : r0 = .index q2 := by first | rfl | assumption) (y1 : s_ty r0 = 3 := by first | rfl | assumption) (n6 : s_nth f3 37 = some (vi z5) := by first | rfl | assumption)  : wr P d sw_c527 sw_h527 (120, [r0, vi x1, vi x2, vi x3, t4], [], h, kc, ks) Q := by
  refine w_ld rfl rfl (Or.inr (Or.inr ⟨by decide, y1⟩)) ?_
  subst e_q2
  refine w_getf rfl g4 n6 ?_
  refine w_st (ls' := [.index q2, vi x1, vi x2, vi x3, vi z5]) rfl (Or.inl ⟨by decide, rfl⟩) rfl ?_
  exact k

theorem k527_126 {P : s_P} {d : Nat} {Q : s_O → Prop} {h : s_H} {kc ks : Nat} {r0 : Term} {x1 x2 x3 x4 : Int}  (k1 : 41 ≤ x4 → wr P d sw_c527 sw_h527 (159, [r0, vi x1, vi x2, vi x3, vi x4], [], h, kc, ks) Q) (k2 : ¬ 41 ≤ x4 → wr P d sw_c527 sw_h527 (133, [r0, vi x1, vi x2, vi x3, vi x4], [], h, kc, ks) Q)  (c1 : In3 x4 := by first | omega | assumption | (simp only [mk_len, List.length_map]; omega) | decide) : wr P d sw_c527 sw_h527 (126, [r0, vi x1, vi x2, vi x3, vi x4], [], h, kc, ks) Q := by
  refine w_ld rfl rfl (Or.inl ⟨by decide, rfl⟩) ?_
  refine w_c32 rfl (by decide) 41 (by decide) ?_
  exact w_if2 rfl c1 (by decide) k1 k2

theorem k527_133 {P : s_P} {d : Nat} {Q : s_O → Prop} {h : s_H} {kc ks : Nat} {r0 : Term} {x1 x2 x3 x4 : Int} {q2 : Nat} {f3 : List Term} {v5 : Term} {q7 : Nat} {a8 : List Int} (g4 : s_get h q2 = some (1, 11, f3)) (g9 : s_get h q7 = some (0, 1, a8.map vl)) (k1 : gi a8 ((48 * x4) + 47) = 0 → wr P d sw_c527 sw_h527 (153, [.index q2, vi x1, vi x2, vi x3, vi x4], [], h, kc, ks) Q) (k2 : ¬ gi a8 ((48 * x4) + 47) = 0 → wr P d sw_c527 sw_h527 (151, [.index q2, vi x1, vi x2, vi x3, vi x4], [], h, kc, ks) Q) (e_q2 : r0 = .index q2 := by first | rfl | assumption) (e_q7 : v5 = .index q7 := by first | rfl | assumption) (y1 : s_ty r0 = 3 := by first | rfl | assumption) (n6 : s_nth f3 30 = some v5 := by first | rfl | assumption) (c10 : (48 * x4) + 47 < a8.length := by first | omega | assumption | (simp only [mk_len, List.length_map]; omega) | decide) (c11 : 0 ≤ (48 * x4) + 47 := by first | omega | assumption | (simp only [mk_len, List.length_map]; omega) | decide) (c12 : In3 ((48 * x4) + 47) := by first | omega | assumption | (simp only [mk_len, List.length_map]; omega) | decide) (c13 : In6 (gi a8 ((48 * x4) + 47)) := by first | omega | assumption | (simp only [mk_len, List.length_map]; omega) | decide) : wr P d sw_c527 sw_h527 (133, [r0, vi x1, vi x2, vi x3, vi x4], [], h, kc, ks) Q := by
  refine w_ld rfl rfl (Or.inr (Or.inr ⟨by decide, y1⟩)) ?_
  subst e_q2
  refine w_getf rfl g4 n6 ?_
  refine w_c32 rfl (by decide) 48 (by decide) ?_
  refine w_ld rfl rfl (Or.inl ⟨by decide, rfl⟩) ?_
  refine w_imul rfl ?_
  refine w_c32 rfl (by decide) 47 (by decide) ?_
  refine w_iadd rfl ?_
  subst e_q7
  refine w_lald rfl g9 c12 c11 c10 ?_
  refine w_c64 rfl (by decide) 0 (by decide) ?_
  exact w_lcmp rfl rfl c13 (by decide) k1 k2

theorem k527_151 {P : s_P} {d : Nat} {Q : s_O → Prop} {h : s_H} {kc ks : Nat} {r0 : Term} {x1 x2 x3 x4 : Int}  (k : Q (.inl (some (vi (-1))), h, kc, ks))   : wr P d sw_c527 sw_h527 (151, [r0, vi x1, vi x2, vi x3, vi x4], [], h, kc, ks) Q := by
  refine w_c32 rfl (by decide) (-1) (by decide) ?_
  exact w_iret rfl k

theorem k527_153 {P : s_P} {d : Nat} {Q : s_O → Prop} {h : s_H} {kc ks : Nat} {r0 : Term} {x1 x2 x3 x4 : Int}  (k : wr P d sw_c527 sw_h527 (126, [r0, vi x1, vi x2, vi x3, vi (x4 + 1)], [], h, kc, ks) Q)   : wr P d sw_c527 sw_h527 (153, [r0, vi x1, vi x2, vi x3, vi x4], [], h, kc, ks) Q := by
  refine w_iinc (ls' := [r0, vi x1, vi x2, vi x3, vi (x4 + 1)]) rfl rfl 1 (by decide) rfl ?_
  refine w_goto rfl ?_
  exact k

theorem k527_159 {P : s_P} {d : Nat} {Q : s_O → Prop} {h : s_H} {kc ks : Nat} {r0 : Term} {x1 x2 x3 x4 : Int} {q2 : Nat} {f3 : List Term} {v5 : Term} (g4 : s_get h q2 = some (1, 11, f3)) (k : wm P d 438 [v5] h (wq P d sw_c527 sw_h527 166 [.index q2, vi x1, vi x2, vi x3, vi x4] [] kc ks Q)) (e_q2 : r0 = .index q2 := by first | rfl | assumption) (y1 : s_ty r0 = 3 := by first | rfl | assumption) (n6 : s_nth f3 14 = some v5 := by first | rfl | assumption)  : wr P d sw_c527 sw_h527 (159, [r0, vi x1, vi x2, vi x3, vi x4], [], h, kc, ks) Q := by
  refine w_ld rfl rfl (Or.inr (Or.inr ⟨by decide, y1⟩)) ?_
  subst e_q2
  refine w_getf rfl g4 n6 ?_
  exact w_cs rfl [v5] [] rfl rfl (s_wt_4 rfl) k

theorem k527_166 {P : s_P} {d : Nat} {Q : s_O → Prop} {h : s_H} {kc ks : Nat} {r0 : Term} {x1 x2 x3 x4 : Int}  (k : wr P d sw_c527 sw_h527 (169, [r0, vi x1, vi x2, vi x3, vi 0], [], h, kc, ks) Q)   : wr P d sw_c527 sw_h527 (166, [r0, vi x1, vi x2, vi x3, vi x4], [], h, kc, ks) Q := by
  refine w_c32 rfl (by decide) 0 (by decide) ?_
  refine w_st (ls' := [r0, vi x1, vi x2, vi x3, vi 0]) rfl (Or.inl ⟨by decide, rfl⟩) rfl ?_
  exact k

theorem k527_169 {P : s_P} {d : Nat} {Q : s_O → Prop} {h : s_H} {kc ks : Nat} {r0 : Term} {x1 x2 x3 x4 : Int}  (k1 : 21 ≤ x4 → wr P d sw_c527 sw_h527 (218, [r0, vi x1, vi x2, vi x3, vi x4], [], h, kc, ks) Q) (k2 : ¬ 21 ≤ x4 → wr P d sw_c527 sw_h527 (176, [r0, vi x1, vi x2, vi x3, vi x4], [], h, kc, ks) Q)  (c1 : In3 x4 := by first | omega | assumption | (simp only [mk_len, List.length_map]; omega) | decide) : wr P d sw_c527 sw_h527 (169, [r0, vi x1, vi x2, vi x3, vi x4], [], h, kc, ks) Q := by
  refine w_ld rfl rfl (Or.inl ⟨by decide, rfl⟩) ?_
  refine w_c32 rfl (by decide) 21 (by decide) ?_
  exact w_if2 rfl c1 (by decide) k1 k2

theorem k527_176 {P : s_P} {d : Nat} {Q : s_O → Prop} {h : s_H} {kc ks : Nat} {r0 : Term} {x1 x2 x3 x4 : Int} {q2 : Nat} {f3 : List Term} {v5 : Term} {q7 : Nat} {a8 : List Int} (g4 : s_get h q2 = some (1, 11, f3)) (g9 : s_get h q7 = some (0, 0, a8.map vi)) (k1 : gi a8 x4 = (-1) → wr P d sw_c527 sw_h527 (212, [.index q2, vi x1, vi x2, vi x3, vi x4], [], h, kc, ks) Q) (k2 : ¬ gi a8 x4 = (-1) → wr P d sw_c527 sw_h527 (187, [.index q2, vi x1, vi x2, vi x3, vi x4], [], h, kc, ks) Q) (e_q2 : r0 = .index q2 := by first | rfl | assumption) (e_q7 : v5 = .index q7 := by first | rfl | assumption) (y1 : s_ty r0 = 3 := by first | rfl | assumption) (n6 : s_nth f3 31 = some v5 := by first | rfl | assumption) (c10 : x4 < a8.length := by first | omega | assumption | (simp only [mk_len, List.length_map]; omega) | decide) (c11 : 0 ≤ x4 := by first | omega | assumption | (simp only [mk_len, List.length_map]; omega) | decide) (c12 : In3 x4 := by first | omega | assumption | (simp only [mk_len, List.length_map]; omega) | decide) (c13 : In3 (gi a8 x4) := by first | omega | assumption | (simp only [mk_len, List.length_map]; omega) | decide) : wr P d sw_c527 sw_h527 (176, [r0, vi x1, vi x2, vi x3, vi x4], [], h, kc, ks) Q := by
  refine w_ld rfl rfl (Or.inr (Or.inr ⟨by decide, y1⟩)) ?_
  subst e_q2
  refine w_getf rfl g4 n6 ?_
  refine w_ld rfl rfl (Or.inl ⟨by decide, rfl⟩) ?_
  subst e_q7
  refine w_iald rfl g9 (Or.inl rfl) c12 c11 c10 ?_
  refine w_c32 rfl (by decide) (-1) (by decide) ?_
  exact w_if2 rfl c13 (by decide) k1 k2

theorem k527_187 {P : s_P} {d : Nat} {Q : s_O → Prop} {h : s_H} {kc ks : Nat} {r0 : Term} {x1 x2 x3 x4 : Int} {q2 : Nat} {f3 : List Term} {v5 v7 v9 : Term} {q11 : Nat} {a12 : List Int} {q17 : Nat} {a18 : List Int} {q23 : Nat} {a24 : List Int} (g4 : s_get h q2 = some (1, 11, f3)) (g13 : s_get h q11 = some (0, 0, a12.map vi)) (g19 : s_get h q17 = some (0, 1, a18.map vl)) (g25 : s_get h q23 = some (0, 1, a24.map vl)) (k : wr P d sw_c527 sw_h527 (212, [.index q2, vi x1, vi x2, vi x3, vi x4], [], (hp h q23 (0, 1, (a24.set (Int.toNat (x4)) (gi a18 ((48 * (gi a12 x4)) + 47))).map vl)), kc, ks) Q) (e_q2 : r0 = .index q2 := by first | rfl | assumption) (e_q11 : v9 = .index q11 := by first | rfl | assumption) (e_q17 : v7 = .index q17 := by first | rfl | assumption) (e_q23 : v5 = .index q23 := by first | rfl | assumption) (y1 : s_ty r0 = 3 := by first | rfl | assumption) (n6 : s_nth f3 14 = some v5 := by first | rfl | assumption) (n8 : s_nth f3 30 = some v7 := by first | rfl | assumption) (n10 : s_nth f3 31 = some v9 := by first | rfl | assumption) (c14 : x4 < a12.length := by first | omega | assumption | (simp only [mk_len, List.length_map]; omega) | decide) (c15 : 0 ≤ x4 := by first | omega | assumption | (simp only [mk_len, List.length_map]; omega) | decide) (c16 : In3 x4 := by first | omega | assumption | (simp only [mk_len, List.length_map]; omega) | decide) (c20 : (48 * (gi a12 x4)) + 47 < a18.length := by first | omega | assumption | (simp only [mk_len, List.length_map]; omega) | decide) (c21 : 0 ≤ (48 * (gi a12 x4)) + 47 := by first | omega | assumption | (simp only [mk_len, List.length_map]; omega) | decide) (c22 : In3 ((48 * (gi a12 x4)) + 47) := by first | omega | assumption | (simp only [mk_len, List.length_map]; omega) | decide) (c26 : x4 < a24.length := by first | omega | assumption | (simp only [mk_len, List.length_map]; omega) | decide) (c27 : 0 < q23 := by first | omega | assumption | (simp only [mk_len, List.length_map]; omega) | decide) : wr P d sw_c527 sw_h527 (187, [r0, vi x1, vi x2, vi x3, vi x4], [], h, kc, ks) Q := by
  refine w_ld rfl rfl (Or.inr (Or.inr ⟨by decide, y1⟩)) ?_
  subst e_q2
  refine w_getf rfl g4 n6 ?_
  refine w_ld rfl rfl (Or.inl ⟨by decide, rfl⟩) ?_
  refine w_ld rfl rfl (Or.inr (Or.inr ⟨by decide, rfl⟩)) ?_
  refine w_getf rfl g4 n8 ?_
  refine w_c32 rfl (by decide) 48 (by decide) ?_
  refine w_ld rfl rfl (Or.inr (Or.inr ⟨by decide, rfl⟩)) ?_
  refine w_getf rfl g4 n10 ?_
  refine w_ld rfl rfl (Or.inl ⟨by decide, rfl⟩) ?_
  subst e_q11
  refine w_iald rfl g13 (Or.inl rfl) c16 c15 c14 ?_
  refine w_imul rfl ?_
  refine w_c32 rfl (by decide) 47 (by decide) ?_
  refine w_iadd rfl ?_
  subst e_q17
  refine w_lald rfl g19 c22 c21 c20 ?_
  subst e_q23
  refine w_last rfl g25 (Nat.ble_eq_true_of_le c27) c16 c15 c26 ?_
  exact k

theorem k527_212 {P : s_P} {d : Nat} {Q : s_O → Prop} {h : s_H} {kc ks : Nat} {r0 : Term} {x1 x2 x3 x4 : Int}  (k : wr P d sw_c527 sw_h527 (169, [r0, vi x1, vi x2, vi x3, vi (x4 + 1)], [], h, kc, ks) Q)   : wr P d sw_c527 sw_h527 (212, [r0, vi x1, vi x2, vi x3, vi x4], [], h, kc, ks) Q := by
  refine w_iinc (ls' := [r0, vi x1, vi x2, vi x3, vi (x4 + 1)]) rfl rfl 1 (by decide) rfl ?_
  refine w_goto rfl ?_
  exact k

theorem k527_218 {P : s_P} {d : Nat} {Q : s_O → Prop} {h : s_H} {kc ks : Nat} {r0 : Term} {x1 x2 x3 x4 : Int} {q2 : Nat} {f3 : List Term} {v5 : Term} (g4 : s_get h q2 = some (1, 11, f3)) (k : wm P d 405 [v5, vl 1] h (wq P d sw_c527 sw_h527 226 [.index q2, vi x1, vi x2, vi x3, vi x4] [] kc ks Q)) (e_q2 : r0 = .index q2 := by first | rfl | assumption) (y1 : s_ty r0 = 3 := by first | rfl | assumption) (n6 : s_nth f3 15 = some v5 := by first | rfl | assumption)  : wr P d sw_c527 sw_h527 (218, [r0, vi x1, vi x2, vi x3, vi x4], [], h, kc, ks) Q := by
  refine w_ld rfl rfl (Or.inr (Or.inr ⟨by decide, y1⟩)) ?_
  subst e_q2
  refine w_getf rfl g4 n6 ?_
  refine w_c64 rfl (by decide) 1 (by decide) ?_
  exact w_cs rfl [v5, vl 1] [] rfl rfl (s_wt_4 rfl) k

theorem k527_226 {P : s_P} {d : Nat} {Q : s_O → Prop} {h : s_H} {kc ks : Nat} {r0 : Term} {x1 x2 x3 x4 : Int} {q2 : Nat} {f3 : List Term} (g4 : s_get h q2 = some (1, 11, f3)) (k : wm P d 495 [.index q2, vi 3] h (wq P d sw_c527 sw_h527 231 [.index q2, vi x1, vi x2, vi x3, vi x4] [] kc ks Q)) (e_q2 : r0 = .index q2 := by first | rfl | assumption) (y1 : s_ty r0 = 3 := by first | rfl | assumption)  : wr P d sw_c527 sw_h527 (226, [r0, vi x1, vi x2, vi x3, vi x4], [], h, kc, ks) Q := by
  refine w_ld rfl rfl (Or.inr (Or.inr ⟨by decide, y1⟩)) ?_
  refine w_c32 rfl (by decide) 3 (by decide) ?_
  subst e_q2
  exact w_cv rfl [.index q2, vi 3] [] rfl rfl (s_wt_4 rfl) rfl g4 k

theorem k527_231 {P : s_P} {d : Nat} {Q : s_O → Prop} {h : s_H} {kc ks : Nat} {r0 : Term} {x1 x2 x3 x4 s0 : Int}  (k : Q (.inl (some (vi s0)), h, kc, ks))   : wr P d sw_c527 sw_h527 (231, [r0, vi x1, vi x2, vi x3, vi x4], [vi s0], h, kc, ks) Q := by
  exact w_iret rfl k

/-! 528: FormulaWorksModel.modulo(J)J -/
theorem k528_0 {P : s_P} {d : Nat} {Q : s_O → Prop} {h : s_H} {kc ks : Nat} {x0 : Int} {t1 t2 t3 : Term}  (k1 : 0 ≤ Int.tmod x0 32003 → wr P d sw_c528 sw_h528 (20, [vl x0, (s_uu t1), vl (Int.tmod x0 32003), .result], [], h, kc, ks) Q) (k2 : ¬ 0 ≤ Int.tmod x0 32003 → wr P d sw_c528 sw_h528 (12, [vl x0, (s_uu t1), vl (Int.tmod x0 32003), .result], [], h, kc, ks) Q)  (c1 : In6 x0 := by first | omega | assumption | (simp only [mk_len, List.length_map]; omega) | decide) (c2 : In6 (Int.tmod x0 32003) := by first | omega | assumption | (simp only [mk_len, List.length_map]; omega) | decide) : wr P d sw_c528 sw_h528 (0, [vl x0, t1, t2, t3], [], h, kc, ks) Q := by
  refine w_ld rfl rfl (Or.inr (Or.inl ⟨by decide, rfl⟩)) ?_
  refine w_c64 rfl (by decide) 32003 (by decide) ?_
  refine w_lrem rfl c1 (by decide) (by decide) ?_
  refine w_stl (ls' := [vl x0, (s_uu t1), vl (Int.tmod x0 32003), t3]) (ls'' := [vl x0, (s_uu t1), vl (Int.tmod x0 32003), .result]) rfl ⟨by decide, rfl⟩ (s_stK_t (pre := [vl x0])) rfl ?_
  refine w_ld rfl rfl (Or.inr (Or.inl ⟨by decide, rfl⟩)) ?_
  refine w_c64 rfl (by decide) 0 (by decide) ?_
  exact w_lcmp rfl rfl c2 (by decide) k1 k2

theorem k528_12 {P : s_P} {d : Nat} {Q : s_O → Prop} {h : s_H} {kc ks : Nat} {x0 : Int} {t1 : Term} {x2 : Int} {t3 : Term}  (k : wr P d sw_c528 sw_h528 (21, [vl x0, t1, vl x2, t3], [vl (x2 + 32003)], h, kc, ks) Q)   : wr P d sw_c528 sw_h528 (12, [vl x0, t1, vl x2, t3], [], h, kc, ks) Q := by
  refine w_ld rfl rfl (Or.inr (Or.inl ⟨by decide, rfl⟩)) ?_
  refine w_c64 rfl (by decide) 32003 (by decide) ?_
  refine w_ladd rfl ?_
  refine w_goto rfl ?_
  exact k

theorem k528_20 {P : s_P} {d : Nat} {Q : s_O → Prop} {h : s_H} {kc ks : Nat} {x0 : Int} {t1 : Term} {x2 : Int} {t3 : Term}  (k : wr P d sw_c528 sw_h528 (21, [vl x0, t1, vl x2, t3], [vl x2], h, kc, ks) Q)   : wr P d sw_c528 sw_h528 (20, [vl x0, t1, vl x2, t3], [], h, kc, ks) Q := by
  refine w_ld rfl rfl (Or.inr (Or.inl ⟨by decide, rfl⟩)) ?_
  exact k

theorem k528_21 {P : s_P} {d : Nat} {Q : s_O → Prop} {h : s_H} {kc ks : Nat} {x0 : Int} {t1 : Term} {x2 : Int} {t3 : Term} {s0 : Int}  (k : Q (.inl (some (vl s0)), h, kc, ks))   : wr P d sw_c528 sw_h528 (21, [vl x0, t1, vl x2, t3], [vl s0], h, kc, ks) Q := by
  exact w_lret rfl k

/-! 529: FormulaWorksModel.more([J[JJ)V -/
theorem k529_0 {P : s_P} {d : Nat} {Q : s_O → Prop} {h : s_H} {kc ks : Nat} {r0 r1 : Term} {x2 : Int} {t3 t4 t5 t6 : Term}  (k : wm P d 528 [vl x2] h (wq P d sw_c529 sw_h529 4 [r0, r1, vl x2, t3, t4, t5, t6] [] kc ks Q))   : wr P d sw_c529 sw_h529 (0, [r0, r1, vl x2, t3, t4, t5, t6], [], h, kc, ks) Q := by
  refine w_ld rfl rfl (Or.inr (Or.inl ⟨by decide, rfl⟩)) ?_
  exact w_cs rfl [vl x2] [] rfl rfl (s_wt_4 rfl) k

theorem k529_4 {P : s_P} {d : Nat} {Q : s_O → Prop} {h : s_H} {kc ks : Nat} {r0 r1 : Term} {x2 : Int} {t3 t4 t5 t6 : Term} {s0 : Int}  (k : wr P d sw_c529 sw_h529 (9, [r0, r1, vl x2, (s_uu t3), vl s0, .result, vi 0], [], h, kc, ks) Q)   : wr P d sw_c529 sw_h529 (4, [r0, r1, vl x2, t3, t4, t5, t6], [vl s0], h, kc, ks) Q := by
  refine w_stl (ls' := [r0, r1, vl x2, (s_uu t3), vl s0, t5, t6]) (ls'' := [r0, r1, vl x2, (s_uu t3), vl s0, .result, t6]) rfl ⟨by decide, rfl⟩ (s_stK_t (pre := [r0, r1, vl x2])) rfl ?_
  refine w_c32 rfl (by decide) 0 (by decide) ?_
  refine w_st (ls' := [r0, r1, vl x2, (s_uu t3), vl s0, .result, vi 0]) rfl (Or.inl ⟨by decide, rfl⟩) rfl ?_
  exact k

theorem k529_9 {P : s_P} {d : Nat} {Q : s_O → Prop} {h : s_H} {kc ks : Nat} {r0 r1 : Term} {x2 : Int} {t3 : Term} {x4 : Int} {t5 : Term} {x6 : Int}  (k1 : 176 ≤ x6 → wr P d sw_c529 sw_h529 (43, [r0, r1, vl x2, t3, vl x4, t5, vi x6], [], h, kc, ks) Q) (k2 : ¬ 176 ≤ x6 → wr P d sw_c529 sw_h529 (17, [r0, r1, vl x2, t3, vl x4, t5, vi x6], [], h, kc, ks) Q)  (c1 : In3 x6 := by first | omega | assumption | (simp only [mk_len, List.length_map]; omega) | decide) : wr P d sw_c529 sw_h529 (9, [r0, r1, vl x2, t3, vl x4, t5, vi x6], [], h, kc, ks) Q := by
  refine w_ld rfl rfl (Or.inl ⟨by decide, rfl⟩) ?_
  refine w_c32 rfl (by decide) 176 (by decide) ?_
  exact w_if2 rfl c1 (by decide) k1 k2

theorem k529_17 {P : s_P} {d : Nat} {Q : s_O → Prop} {h : s_H} {kc ks : Nat} {r0 r1 : Term} {x2 : Int} {t3 : Term} {x4 : Int} {t5 : Term} {x6 : Int} {q2 : Nat} {a3 : List Int} {q9 : Nat} {a10 : List Int} (g4 : s_get h q2 = some (0, 1, a3.map vl)) (g11 : s_get h q9 = some (0, 1, a10.map vl)) (k : wr P d sw_c529 sw_h529 (9, [.index q2, .index q9, vl x2, t3, vl x4, (s_uu t5), vi (x6 + 1)], [], (hp h q2 (0, 1, (a3.set (Int.toNat (x6)) (Int.tmod ((gi a3 x6) + (x4 * (gi a10 x6))) 32003)).map vl)), kc, ks) Q) (e_q2 : r0 = .index q2 := by first | rfl | assumption) (e_q9 : r1 = .index q9 := by first | rfl | assumption) (y1 : s_ty r0 = 3 := by first | rfl | assumption) (y8 : s_ty r1 = 3 := by first | rfl | assumption) (c5 : x6 < a3.length := by first | omega | assumption | (simp only [mk_len, List.length_map]; omega) | decide) (c6 : 0 ≤ x6 := by first | omega | assumption | (simp only [mk_len, List.length_map]; omega) | decide) (c7 : In3 x6 := by first | omega | assumption | (simp only [mk_len, List.length_map]; omega) | decide) (c12 : x6 < a10.length := by first | omega | assumption | (simp only [mk_len, List.length_map]; omega) | decide) (c13 : In6 ((gi a3 x6) + (x4 * (gi a10 x6))) := by first | omega | assumption | (simp only [mk_len, List.length_map]; omega) | decide) (c14 : 0 < q2 := by first | omega | assumption | (simp only [mk_len, List.length_map]; omega) | decide) : wr P d sw_c529 sw_h529 (17, [r0, r1, vl x2, t3, vl x4, t5, vi x6], [], h, kc, ks) Q := by
  refine w_ld rfl rfl (Or.inr (Or.inr ⟨by decide, y1⟩)) ?_
  refine w_ld rfl rfl (Or.inl ⟨by decide, rfl⟩) ?_
  refine w_ld rfl rfl (Or.inr (Or.inr ⟨by decide, y1⟩)) ?_
  refine w_ld rfl rfl (Or.inl ⟨by decide, rfl⟩) ?_
  subst e_q2
  refine w_lald rfl g4 c7 c6 c5 ?_
  refine w_ld rfl rfl (Or.inr (Or.inl ⟨by decide, rfl⟩)) ?_
  refine w_ld rfl rfl (Or.inr (Or.inr ⟨by decide, y8⟩)) ?_
  refine w_ld rfl rfl (Or.inl ⟨by decide, rfl⟩) ?_
  subst e_q9
  refine w_lald rfl g11 c7 c6 c12 ?_
  refine w_lmul rfl ?_
  refine w_ladd rfl ?_
  refine w_c64 rfl (by decide) 32003 (by decide) ?_
  refine w_lrem rfl c13 (by decide) (by decide) ?_
  refine w_last rfl g4 (Nat.ble_eq_true_of_le c14) c7 c6 c5 ?_
  refine w_iinc (ls' := [.index q2, .index q9, vl x2, t3, vl x4, (s_uu t5), vi (x6 + 1)]) rfl rfl 1 (by decide) (s_stK_t (pre := [.index q2, .index q9, vl x2, t3, vl x4])) ?_
  refine w_goto rfl ?_
  exact k

theorem k529_43 {P : s_P} {d : Nat} {Q : s_O → Prop} {h : s_H} {kc ks : Nat} {r0 r1 : Term} {x2 : Int} {t3 : Term} {x4 : Int} {t5 : Term} {x6 : Int}  (k : Q (.inl none, h, kc, ks))   : wr P d sw_c529 sw_h529 (43, [r0, r1, vl x2, t3, vl x4, t5, vi x6], [], h, kc, ks) Q := by
  exact w_ret rfl k

/-! 530: FormulaWorksModel.move([JJ)V -/
theorem k530_0 {P : s_P} {d : Nat} {Q : s_O → Prop} {h : s_H} {kc ks : Nat} {r0 : Term} {x1 : Int} {t2 t3 t4 t5 t6 t7 : Term}  (k : wm P d 528 [vl x1] h (wq P d sw_c530 sw_h530 4 [r0, vl x1, t2, t3, t4, t5, t6, t7] [] kc ks Q))   : wr P d sw_c530 sw_h530 (0, [r0, vl x1, t2, t3, t4, t5, t6, t7], [], h, kc, ks) Q := by
  refine w_ld rfl rfl (Or.inr (Or.inl ⟨by decide, rfl⟩)) ?_
  exact w_cs rfl [vl x1] [] rfl rfl (s_wt_4 rfl) k

theorem k530_4 {P : s_P} {d : Nat} {Q : s_O → Prop} {h : s_H} {kc ks : Nat} {r0 : Term} {x1 : Int} {t2 t3 t4 t5 t6 t7 : Term} {s0 : Int}  (k : wm P d 463 [r0] h (wq P d sw_c530 sw_h530 9 [r0, vl x1, (s_uu t2), vl s0, .result, t5, t6, t7] [] kc ks Q)) (y1 : s_ty r0 = 3 := by first | rfl | assumption)  : wr P d sw_c530 sw_h530 (4, [r0, vl x1, t2, t3, t4, t5, t6, t7], [vl s0], h, kc, ks) Q := by
  refine w_stl (ls' := [r0, vl x1, (s_uu t2), vl s0, t4, t5, t6, t7]) (ls'' := [r0, vl x1, (s_uu t2), vl s0, .result, t5, t6, t7]) rfl ⟨by decide, rfl⟩ (s_stK_t (pre := [r0, vl x1])) rfl ?_
  refine w_ld rfl rfl (Or.inr (Or.inr ⟨by decide, y1⟩)) ?_
  exact w_cs rfl [r0] [] rfl rfl (s_wt_4 rfl) k

theorem k530_9 {P : s_P} {d : Nat} {Q : s_O → Prop} {h : s_H} {kc ks : Nat} {r0 : Term} {x1 : Int} {t2 : Term} {x3 : Int} {t4 t5 t6 t7 : Term} {s0 : Int}  (k : wr P d sw_c530 sw_h530 (14, [r0, vl x1, t2, vl x3, (s_uu t4), vi s0, vi 0, t7], [], h, kc, ks) Q)   : wr P d sw_c530 sw_h530 (9, [r0, vl x1, t2, vl x3, t4, t5, t6, t7], [vi s0], h, kc, ks) Q := by
  refine w_st (ls' := [r0, vl x1, t2, vl x3, (s_uu t4), vi s0, t6, t7]) rfl (Or.inl ⟨by decide, rfl⟩) (s_stK_t (pre := [r0, vl x1, t2, vl x3])) ?_
  refine w_c32 rfl (by decide) 0 (by decide) ?_
  refine w_st (ls' := [r0, vl x1, t2, vl x3, (s_uu t4), vi s0, vi 0, t7]) rfl (Or.inl ⟨by decide, rfl⟩) rfl ?_
  exact k

theorem k530_14 {P : s_P} {d : Nat} {Q : s_O → Prop} {h : s_H} {kc ks : Nat} {r0 : Term} {x1 : Int} {t2 : Term} {x3 : Int} {t4 : Term} {x5 x6 : Int} {t7 : Term}  (k1 : x5 ≤ x6 → wr P d sw_c530 sw_h530 (67, [r0, vl x1, t2, vl x3, t4, vi x5, vi x6, t7], [], h, kc, ks) Q) (k2 : ¬ x5 ≤ x6 → wr P d sw_c530 sw_h530 (21, [r0, vl x1, t2, vl x3, t4, vi x5, vi x6, t7], [], h, kc, ks) Q)  (c1 : In3 x6 := by first | omega | assumption | (simp only [mk_len, List.length_map]; omega) | decide) (c2 : In3 x5 := by first | omega | assumption | (simp only [mk_len, List.length_map]; omega) | decide) : wr P d sw_c530 sw_h530 (14, [r0, vl x1, t2, vl x3, t4, vi x5, vi x6, t7], [], h, kc, ks) Q := by
  refine w_ld rfl rfl (Or.inl ⟨by decide, rfl⟩) ?_
  refine w_ld rfl rfl (Or.inl ⟨by decide, rfl⟩) ?_
  exact w_if2 rfl c1 c2 k1 k2

theorem k530_21 {P : s_P} {d : Nat} {Q : s_O → Prop} {h : s_H} {kc ks : Nat} {r0 : Term} {x1 : Int} {t2 : Term} {x3 : Int} {t4 : Term} {x5 x6 : Int} {t7 : Term}  (k : wr P d sw_c530 sw_h530 (27, [r0, vl x1, t2, vl x3, t4, vi x5, vi x6, vi (x5 - 1)], [], h, kc, ks) Q)   : wr P d sw_c530 sw_h530 (21, [r0, vl x1, t2, vl x3, t4, vi x5, vi x6, t7], [], h, kc, ks) Q := by
  refine w_ld rfl rfl (Or.inl ⟨by decide, rfl⟩) ?_
  refine w_c32 rfl (by decide) 1 (by decide) ?_
  refine w_isub rfl ?_
  refine w_st (ls' := [r0, vl x1, t2, vl x3, t4, vi x5, vi x6, vi (x5 - 1)]) rfl (Or.inl ⟨by decide, rfl⟩) rfl ?_
  exact k

theorem k530_27 {P : s_P} {d : Nat} {Q : s_O → Prop} {h : s_H} {kc ks : Nat} {r0 : Term} {x1 : Int} {t2 : Term} {x3 : Int} {t4 : Term} {x5 x6 x7 : Int}  (k1 : x7 < x6 → wr P d sw_c530 sw_h530 (61, [r0, vl x1, t2, vl x3, t4, vi x5, vi x6, vi x7], [], h, kc, ks) Q) (k2 : ¬ x7 < x6 → wr P d sw_c530 sw_h530 (34, [r0, vl x1, t2, vl x3, t4, vi x5, vi x6, vi x7], [], h, kc, ks) Q)  (c1 : In3 x7 := by first | omega | assumption | (simp only [mk_len, List.length_map]; omega) | decide) (c2 : In3 x6 := by first | omega | assumption | (simp only [mk_len, List.length_map]; omega) | decide) : wr P d sw_c530 sw_h530 (27, [r0, vl x1, t2, vl x3, t4, vi x5, vi x6, vi x7], [], h, kc, ks) Q := by
  refine w_ld rfl rfl (Or.inl ⟨by decide, rfl⟩) ?_
  refine w_ld rfl rfl (Or.inl ⟨by decide, rfl⟩) ?_
  exact w_if2 rfl c1 c2 k1 k2

theorem k530_34 {P : s_P} {d : Nat} {Q : s_O → Prop} {h : s_H} {kc ks : Nat} {r0 : Term} {x1 : Int} {t2 : Term} {x3 : Int} {t4 : Term} {x5 x6 x7 : Int} {q2 : Nat} {a3 : List Int} (g4 : s_get h q2 = some (0, 1, a3.map vl)) (k : wr P d sw_c530 sw_h530 (27, [.index q2, vl x1, t2, vl x3, t4, vi x5, vi x6, vi (x7 + (-1))], [], (hp h q2 (0, 1, (a3.set (Int.toNat (x7)) (Int.tmod ((gi a3 x7) + (x3 * (gi a3 (x7 + 1)))) 32003)).map vl)), kc, ks) Q) (e_q2 : r0 = .index q2 := by first | rfl | assumption) (y1 : s_ty r0 = 3 := by first | rfl | assumption) (c5 : x7 < a3.length := by first | omega | assumption | (simp only [mk_len, List.length_map]; omega) | decide) (c6 : 0 ≤ x7 := by first | omega | assumption | (simp only [mk_len, List.length_map]; omega) | decide) (c7 : In3 x7 := by first | omega | assumption | (simp only [mk_len, List.length_map]; omega) | decide) (c8 : x7 + 1 < a3.length := by first | omega | assumption | (simp only [mk_len, List.length_map]; omega) | decide) (c9 : 0 ≤ x7 + 1 := by first | omega | assumption | (simp only [mk_len, List.length_map]; omega) | decide) (c10 : In3 (x7 + 1) := by first | omega | assumption | (simp only [mk_len, List.length_map]; omega) | decide) (c11 : In6 ((gi a3 x7) + (x3 * (gi a3 (x7 + 1)))) := by first | omega | assumption | (simp only [mk_len, List.length_map]; omega) | decide) (c12 : 0 < q2 := by first | omega | assumption | (simp only [mk_len, List.length_map]; omega) | decide) : wr P d sw_c530 sw_h530 (34, [r0, vl x1, t2, vl x3, t4, vi x5, vi x6, vi x7], [], h, kc, ks) Q := by
  refine w_ld rfl rfl (Or.inr (Or.inr ⟨by decide, y1⟩)) ?_
  refine w_ld rfl rfl (Or.inl ⟨by decide, rfl⟩) ?_
  refine w_ld rfl rfl (Or.inr (Or.inr ⟨by decide, y1⟩)) ?_
  refine w_ld rfl rfl (Or.inl ⟨by decide, rfl⟩) ?_
  subst e_q2
  refine w_lald rfl g4 c7 c6 c5 ?_
  refine w_ld rfl rfl (Or.inr (Or.inl ⟨by decide, rfl⟩)) ?_
  refine w_ld rfl rfl (Or.inr (Or.inr ⟨by decide, rfl⟩)) ?_
  refine w_ld rfl rfl (Or.inl ⟨by decide, rfl⟩) ?_
  refine w_c32 rfl (by decide) 1 (by decide) ?_
  refine w_iadd rfl ?_
  refine w_lald rfl g4 c10 c9 c8 ?_
  refine w_lmul rfl ?_
  refine w_ladd rfl ?_
  refine w_c64 rfl (by decide) 32003 (by decide) ?_
  refine w_lrem rfl c11 (by decide) (by decide) ?_
  refine w_last rfl g4 (Nat.ble_eq_true_of_le c12) c7 c6 c5 ?_
  refine w_iinc (ls' := [.index q2, vl x1, t2, vl x3, t4, vi x5, vi x6, vi (x7 + (-1))]) rfl rfl (-1) (by decide) rfl ?_
  refine w_goto rfl ?_
  exact k

theorem k530_61 {P : s_P} {d : Nat} {Q : s_O → Prop} {h : s_H} {kc ks : Nat} {r0 : Term} {x1 : Int} {t2 : Term} {x3 : Int} {t4 : Term} {x5 x6 x7 : Int}  (k : wr P d sw_c530 sw_h530 (14, [r0, vl x1, t2, vl x3, t4, vi x5, vi (x6 + 1), vi x7], [], h, kc, ks) Q)   : wr P d sw_c530 sw_h530 (61, [r0, vl x1, t2, vl x3, t4, vi x5, vi x6, vi x7], [], h, kc, ks) Q := by
  refine w_iinc (ls' := [r0, vl x1, t2, vl x3, t4, vi x5, vi (x6 + 1), vi x7]) rfl rfl 1 (by decide) rfl ?_
  refine w_goto rfl ?_
  exact k

theorem k530_67 {P : s_P} {d : Nat} {Q : s_O → Prop} {h : s_H} {kc ks : Nat} {r0 : Term} {x1 : Int} {t2 : Term} {x3 : Int} {t4 : Term} {x5 x6 : Int} {t7 : Term}  (k : Q (.inl none, h, kc, ks))   : wr P d sw_c530 sw_h530 (67, [r0, vl x1, t2, vl x3, t4, vi x5, vi x6, t7], [], h, kc, ks) Q := by
  exact w_ret rfl k

/-! 531: FormulaWorksModel.multiply([J[J)V -/
theorem k531_0 {P : s_P} {d : Nat} {Q : s_O → Prop} {h : s_H} {kc ks : Nat} {r0 r1 r2 t3 t4 t5 t6 : Term} {q2 : Nat} {f3 : List Term} {v5 : Term} (g4 : s_get h q2 = some (1, 11, f3)) (k : wm P d 438 [v5] h (wq P d sw_c531 sw_h531 7 [.index q2, r1, r2, t3, t4, t5, t6] [] kc ks Q)) (e_q2 : r0 = .index q2 := by first | rfl | assumption) (y1 : s_ty r0 = 3 := by first | rfl | assumption) (n6 : s_nth f3 16 = some v5 := by first | rfl | assumption)  : wr P d sw_c531 sw_h531 (0, [r0, r1, r2, t3, t4, t5, t6], [], h, kc, ks) Q := by
  refine w_ld rfl rfl (Or.inr (Or.inr ⟨by decide, y1⟩)) ?_
  subst e_q2
  refine w_getf rfl g4 n6 ?_
  exact w_cs rfl [v5] [] rfl rfl (s_wt_4 rfl) k

theorem k531_7 {P : s_P} {d : Nat} {Q : s_O → Prop} {h : s_H} {kc ks : Nat} {r0 r1 r2 t3 t4 t5 t6 : Term}  (k : wm P d 463 [r1] h (wq P d sw_c531 sw_h531 11 [r0, r1, r2, t3, t4, t5, t6] [] kc ks Q)) (y1 : s_ty r1 = 3 := by first | rfl | assumption)  : wr P d sw_c531 sw_h531 (7, [r0, r1, r2, t3, t4, t5, t6], [], h, kc, ks) Q := by
  refine w_ld rfl rfl (Or.inr (Or.inr ⟨by decide, y1⟩)) ?_
  exact w_cs rfl [r1] [] rfl rfl (s_wt_4 rfl) k

theorem k531_11 {P : s_P} {d : Nat} {Q : s_O → Prop} {h : s_H} {kc ks : Nat} {r0 r1 r2 t3 t4 t5 t6 : Term} {s0 : Int}  (k : wm P d 463 [r2] h (wq P d sw_c531 sw_h531 16 [r0, r1, r2, vi s0, t4, t5, t6] [] kc ks Q)) (y1 : s_ty r2 = 3 := by first | rfl | assumption)  : wr P d sw_c531 sw_h531 (11, [r0, r1, r2, t3, t4, t5, t6], [vi s0], h, kc, ks) Q := by
  refine w_st (ls' := [r0, r1, r2, vi s0, t4, t5, t6]) rfl (Or.inl ⟨by decide, rfl⟩) (s_stK_r (pre := [r0, r1]) y1) ?_
  refine w_ld rfl rfl (Or.inr (Or.inr ⟨by decide, y1⟩)) ?_
  exact w_cs rfl [r2] [] rfl rfl (s_wt_4 rfl) k

theorem k531_16 {P : s_P} {d : Nat} {Q : s_O → Prop} {h : s_H} {kc ks : Nat} {r0 r1 r2 : Term} {x3 : Int} {t4 t5 t6 : Term} {s0 : Int}  (k : wr P d sw_c531 sw_h531 (21, [r0, r1, r2, vi x3, vi s0, vi 0, t6], [], h, kc, ks) Q)   : wr P d sw_c531 sw_h531 (16, [r0, r1, r2, vi x3, t4, t5, t6], [vi s0], h, kc, ks) Q := by
  refine w_st (ls' := [r0, r1, r2, vi x3, vi s0, t5, t6]) rfl (Or.inl ⟨by decide, rfl⟩) rfl ?_
  refine w_c32 rfl (by decide) 0 (by decide) ?_
  refine w_st (ls' := [r0, r1, r2, vi x3, vi s0, vi 0, t6]) rfl (Or.inl ⟨by decide, rfl⟩) rfl ?_
  exact k

theorem k531_21 {P : s_P} {d : Nat} {Q : s_O → Prop} {h : s_H} {kc ks : Nat} {r0 r1 r2 : Term} {x3 x4 x5 : Int} {t6 : Term}  (k1 : x3 < x5 → wr P d sw_c531 sw_h531 (103, [r0, r1, r2, vi x3, vi x4, vi x5, t6], [], h, kc, ks) Q) (k2 : ¬ x3 < x5 → wr P d sw_c531 sw_h531 (27, [r0, r1, r2, vi x3, vi x4, vi x5, t6], [], h, kc, ks) Q)  (c1 : In3 x5 := by first | omega | assumption | (simp only [mk_len, List.length_map]; omega) | decide) (c2 : In3 x3 := by first | omega | assumption | (simp only [mk_len, List.length_map]; omega) | decide) : wr P d sw_c531 sw_h531 (21, [r0, r1, r2, vi x3, vi x4, vi x5, t6], [], h, kc, ks) Q := by
  refine w_ld rfl rfl (Or.inl ⟨by decide, rfl⟩) ?_
  refine w_ld rfl rfl (Or.inl ⟨by decide, rfl⟩) ?_
  exact w_if2 rfl c1 c2 k1 k2

theorem k531_27 {P : s_P} {d : Nat} {Q : s_O → Prop} {h : s_H} {kc ks : Nat} {r0 r1 r2 : Term} {x3 x4 x5 : Int} {t6 : Term}  (k : wr P d sw_c531 sw_h531 (30, [r0, r1, r2, vi x3, vi x4, vi x5, vi 0], [], h, kc, ks) Q)   : wr P d sw_c531 sw_h531 (27, [r0, r1, r2, vi x3, vi x4, vi x5, t6], [], h, kc, ks) Q := by
  refine w_c32 rfl (by decide) 0 (by decide) ?_
  refine w_st (ls' := [r0, r1, r2, vi x3, vi x4, vi x5, vi 0]) rfl (Or.inl ⟨by decide, rfl⟩) rfl ?_
  exact k

theorem k531_30 {P : s_P} {d : Nat} {Q : s_O → Prop} {h : s_H} {kc ks : Nat} {r0 r1 r2 : Term} {x3 x4 x5 x6 : Int}  (k1 : x4 < x6 → wr P d sw_c531 sw_h531 (97, [r0, r1, r2, vi x3, vi x4, vi x5, vi x6], [], h, kc, ks) Q) (k2 : ¬ x4 < x6 → wr P d sw_c531 sw_h531 (37, [r0, r1, r2, vi x3, vi x4, vi x5, vi x6], [], h, kc, ks) Q)  (c1 : In3 x6 := by first | omega | assumption | (simp only [mk_len, List.length_map]; omega) | decide) (c2 : In3 x4 := by first | omega | assumption | (simp only [mk_len, List.length_map]; omega) | decide) : wr P d sw_c531 sw_h531 (30, [r0, r1, r2, vi x3, vi x4, vi x5, vi x6], [], h, kc, ks) Q := by
  refine w_ld rfl rfl (Or.inl ⟨by decide, rfl⟩) ?_
  refine w_ld rfl rfl (Or.inl ⟨by decide, rfl⟩) ?_
  exact w_if2 rfl c1 c2 k1 k2

theorem k531_37 {P : s_P} {d : Nat} {Q : s_O → Prop} {h : s_H} {kc ks : Nat} {r0 r1 r2 : Term} {x3 x4 x5 x6 : Int}  (k1 : 176 ≤ x5 + x6 → wr P d sw_c531 sw_h531 (97, [r0, r1, r2, vi x3, vi x4, vi x5, vi x6], [], h, kc, ks) Q) (k2 : ¬ 176 ≤ x5 + x6 → wr P d sw_c531 sw_h531 (48, [r0, r1, r2, vi x3, vi x4, vi x5, vi x6], [], h, kc, ks) Q)  (c1 : In3 (x5 + x6) := by first | omega | assumption | (simp only [mk_len, List.length_map]; omega) | decide) : wr P d sw_c531 sw_h531 (37, [r0, r1, r2, vi x3, vi x4, vi x5, vi x6], [], h, kc, ks) Q := by
  refine w_ld rfl rfl (Or.inl ⟨by decide, rfl⟩) ?_
  refine w_ld rfl rfl (Or.inl ⟨by decide, rfl⟩) ?_
  refine w_iadd rfl ?_
  refine w_c32 rfl (by decide) 176 (by decide) ?_
  exact w_if2 rfl c1 (by decide) k1 k2

theorem k531_48 {P : s_P} {d : Nat} {Q : s_O → Prop} {h : s_H} {kc ks : Nat} {r0 r1 r2 : Term} {x3 x4 x5 x6 : Int} {q2 : Nat} {a3 : List Int} (g4 : s_get h q2 = some (0, 1, a3.map vl)) (k1 : gi a3 x5 = 0 → wr P d sw_c531 sw_h531 (97, [r0, .index q2, r2, vi x3, vi x4, vi x5, vi x6], [], h, kc, ks) Q) (k2 : ¬ gi a3 x5 = 0 → wr P d sw_c531 sw_h531 (57, [r0, .index q2, r2, vi x3, vi x4, vi x5, vi x6], [], h, kc, ks) Q) (e_q2 : r1 = .index q2 := by first | rfl | assumption) (y1 : s_ty r1 = 3 := by first | rfl | assumption) (c5 : x5 < a3.length := by first | omega | assumption | (simp only [mk_len, List.length_map]; omega) | decide) (c6 : 0 ≤ x5 := by first | omega | assumption | (simp only [mk_len, List.length_map]; omega) | decide) (c7 : In3 x5 := by first | omega | assumption | (simp only [mk_len, List.length_map]; omega) | decide) (c8 : In6 (gi a3 x5) := by first | omega | assumption | (simp only [mk_len, List.length_map]; omega) | decide) : wr P d sw_c531 sw_h531 (48, [r0, r1, r2, vi x3, vi x4, vi x5, vi x6], [], h, kc, ks) Q := by
  refine w_ld rfl rfl (Or.inr (Or.inr ⟨by decide, y1⟩)) ?_
  refine w_ld rfl rfl (Or.inl ⟨by decide, rfl⟩) ?_
  subst e_q2
  refine w_lald rfl g4 c7 c6 c5 ?_
  refine w_c64 rfl (by decide) 0 (by decide) ?_
  exact w_lcmp rfl rfl c8 (by decide) k1 k2

theorem k531_57 {P : s_P} {d : Nat} {Q : s_O → Prop} {h : s_H} {kc ks : Nat} {r0 r1 r2 : Term} {x3 x4 x5 x6 : Int} {q2 : Nat} {f3 : List Term} {v5 : Term} {q7 : Nat} {a8 : List Int} {q14 : Nat} {a15 : List Int} {q21 : Nat} {a22 : List Int} (g4 : s_get h q2 = some (1, 11, f3)) (g9 : s_get h q7 = some (0, 1, a8.map vl)) (g16 : s_get h q14 = some (0, 1, a15.map vl)) (g23 : s_get h q21 = some (0, 1, a22.map vl)) (k : wr P d sw_c531 sw_h531 (30, [.index q2, .index q14, .index q21, vi x3, vi x4, vi x5, vi (x6 + 1)], [], (hp h q7 (0, 1, (a8.set (Int.toNat (x5 + x6)) (Int.tmod ((gi a8 (x5 + x6)) + ((gi a15 x5) * (gi a22 x6))) 32003)).map vl)), kc, ks) Q) (e_q2 : r0 = .index q2 := by first | rfl | assumption) (e_q7 : v5 = .index q7 := by first | rfl | assumption) (e_q14 : r1 = .index q14 := by first | rfl | assumption) (e_q21 : r2 = .index q21 := by first | rfl | assumption) (y1 : s_ty r0 = 3 := by first | rfl | assumption) (n6 : s_nth f3 16 = some v5 := by first | rfl | assumption) (y13 : s_ty r1 = 3 := by first | rfl | assumption) (y20 : s_ty r2 = 3 := by first | rfl | assumption) (c10 : x5 + x6 < a8.length := by first | omega | assumption | (simp only [mk_len, List.length_map]; omega) | decide) (c11 : 0 ≤ x5 + x6 := by first | omega | assumption | (simp only [mk_len, List.length_map]; omega) | decide) (c12 : In3 (x5 + x6) := by first | omega | assumption | (simp only [mk_len, List.length_map]; omega) | decide) (c17 : x5 < a15.length := by first | omega | assumption | (simp only [mk_len, List.length_map]; omega) | decide) (c18 : 0 ≤ x5 := by first | omega | assumption | (simp only [mk_len, List.length_map]; omega) | decide) (c19 : In3 x5 := by first | omega | assumption | (simp only [mk_len, List.length_map]; omega) | decide) (c24 : x6 < a22.length := by first | omega | assumption | (simp only [mk_len, List.length_map]; omega) | decide) (c25 : 0 ≤ x6 := by first | omega | assumption | (simp only [mk_len, List.length_map]; omega) | decide) (c26 : In3 x6 := by first | omega | assumption | (simp only [mk_len, List.length_map]; omega) | decide) (c27 : In6 ((gi a8 (x5 + x6)) + ((gi a15 x5) * (gi a22 x6))) := by first | omega | assumption | (simp only [mk_len, List.length_map]; omega) | decide) (c28 : 0 < q7 := by first | omega | assumption | (simp only [mk_len, List.length_map]; omega) | decide) : wr P d sw_c531 sw_h531 (57, [r0, r1, r2, vi x3, vi x4, vi x5, vi x6], [], h, kc, ks) Q := by
  refine w_ld rfl rfl (Or.inr (Or.inr ⟨by decide, y1⟩)) ?_
  subst e_q2
  refine w_getf rfl g4 n6 ?_
  refine w_ld rfl rfl (Or.inl ⟨by decide, rfl⟩) ?_
  refine w_ld rfl rfl (Or.inl ⟨by decide, rfl⟩) ?_
  refine w_iadd rfl ?_
  refine w_ld rfl rfl (Or.inr (Or.inr ⟨by decide, rfl⟩)) ?_
  refine w_getf rfl g4 n6 ?_
  refine w_ld rfl rfl (Or.inl ⟨by decide, rfl⟩) ?_
  refine w_ld rfl rfl (Or.inl ⟨by decide, rfl⟩) ?_
  refine w_iadd rfl ?_
  subst e_q7
  refine w_lald rfl g9 c12 c11 c10 ?_
  refine w_ld rfl rfl (Or.inr (Or.inr ⟨by decide, y13⟩)) ?_
  refine w_ld rfl rfl (Or.inl ⟨by decide, rfl⟩) ?_
  subst e_q14
  refine w_lald rfl g16 c19 c18 c17 ?_
  refine w_ld rfl rfl (Or.inr (Or.inr ⟨by decide, y20⟩)) ?_
  refine w_ld rfl rfl (Or.inl ⟨by decide, rfl⟩) ?_
  subst e_q21
  refine w_lald rfl g23 c26 c25 c24 ?_
  refine w_lmul rfl ?_
  refine w_ladd rfl ?_
  refine w_c64 rfl (by decide) 32003 (by decide) ?_
  refine w_lrem rfl c27 (by decide) (by decide) ?_
  refine w_last rfl g9 (Nat.ble_eq_true_of_le c28) c12 c11 c10 ?_
  refine w_iinc (ls' := [.index q2, .index q14, .index q21, vi x3, vi x4, vi x5, vi (x6 + 1)]) rfl rfl 1 (by decide) rfl ?_
  refine w_goto rfl ?_
  exact k

theorem k531_97 {P : s_P} {d : Nat} {Q : s_O → Prop} {h : s_H} {kc ks : Nat} {r0 r1 r2 : Term} {x3 x4 x5 x6 : Int}  (k : wr P d sw_c531 sw_h531 (21, [r0, r1, r2, vi x3, vi x4, vi (x5 + 1), vi x6], [], h, kc, ks) Q)   : wr P d sw_c531 sw_h531 (97, [r0, r1, r2, vi x3, vi x4, vi x5, vi x6], [], h, kc, ks) Q := by
  refine w_iinc (ls' := [r0, r1, r2, vi x3, vi x4, vi (x5 + 1), vi x6]) rfl rfl 1 (by decide) rfl ?_
  refine w_goto rfl ?_
  exact k

theorem k531_103 {P : s_P} {d : Nat} {Q : s_O → Prop} {h : s_H} {kc ks : Nat} {r0 r1 r2 : Term} {x3 x4 x5 : Int} {t6 : Term}  (k : Q (.inl none, h, kc, ks))   : wr P d sw_c531 sw_h531 (103, [r0, r1, r2, vi x3, vi x4, vi x5, t6], [], h, kc, ks) Q := by
  exact w_ret rfl k

/-! 532: FormulaWorksModel.multiplyBy([J[J)V -/
theorem k532_0 {P : s_P} {d : Nat} {Q : s_O → Prop} {h : s_H} {kc ks : Nat} {r0 r1 r2 : Term} {q4 : Nat} {f5 : List Term} (g6 : s_get h q4 = some (1, 11, f5)) (k : wm P d 531 [.index q4, r1, r2] h (wq P d sw_c532 sw_h532 6 [.index q4, r1, r2] [] kc ks Q)) (e_q4 : r0 = .index q4 := by first | rfl | assumption) (y1 : s_ty r0 = 3 := by first | rfl | assumption) (y2 : s_ty r1 = 3 := by first | rfl | assumption) (y3 : s_ty r2 = 3 := by first | rfl | assumption)  : wr P d sw_c532 sw_h532 (0, [r0, r1, r2], [], h, kc, ks) Q := by
  refine w_ld rfl rfl (Or.inr (Or.inr ⟨by decide, y1⟩)) ?_
  refine w_ld rfl rfl (Or.inr (Or.inr ⟨by decide, y2⟩)) ?_
  refine w_ld rfl rfl (Or.inr (Or.inr ⟨by decide, y3⟩)) ?_
  subst e_q4
  exact w_cv rfl [.index q4, r1, r2] [] rfl rfl (s_wt_4 rfl) rfl g6 k

theorem k532_6 {P : s_P} {d : Nat} {Q : s_O → Prop} {h : s_H} {kc ks : Nat} {r0 r1 r2 : Term} {q3 : Nat} {f4 : List Term} {v6 : Term} (g5 : s_get h q3 = some (1, 11, f4)) (k : wm P d 425 [r1, v6] h (wq P d sw_c532 sw_h532 14 [.index q3, r1, r2] [] kc ks Q)) (e_q3 : r0 = .index q3 := by first | rfl | assumption) (y1 : s_ty r1 = 3 := by first | rfl | assumption) (y2 : s_ty r0 = 3 := by first | rfl | assumption) (n7 : s_nth f4 16 = some v6 := by first | rfl | assumption)  : wr P d sw_c532 sw_h532 (6, [r0, r1, r2], [], h, kc, ks) Q := by
  refine w_ld rfl rfl (Or.inr (Or.inr ⟨by decide, y1⟩)) ?_
  refine w_ld rfl rfl (Or.inr (Or.inr ⟨by decide, y2⟩)) ?_
  subst e_q3
  refine w_getf rfl g5 n7 ?_
  exact w_cs rfl [r1, v6] [] rfl rfl (s_wt_4 rfl) k

theorem k532_14 {P : s_P} {d : Nat} {Q : s_O → Prop} {h : s_H} {kc ks : Nat} {r0 r1 r2 : Term}  (k : Q (.inl none, h, kc, ks))   : wr P d sw_c532 sw_h532 (14, [r0, r1, r2], [], h, kc, ks) Q := by
  exact w_ret rfl k

/-! 533: FormulaWorksModel.multiplyMatrices(II)I -/
theorem k533_0 {P : s_P} {d : Nat} {Q : s_O → Prop} {h : s_H} {kc ks : Nat} {r0 : Term} {x1 x2 : Int} {t3 t4 t5 : Term} {q2 : Nat} {f3 : List Term} {v5 : Term} {q7 : Nat} {a8 : List Int} {v13 : Term} {q15 : Nat} {a16 : List Int} (g4 : s_get h q2 = some (1, 11, f3)) (g9 : s_get h q7 = some (0, 0, a8.map vi)) (g17 : s_get h q15 = some (0, 0, a16.map vi)) (k1 : gi a8 x1 = gi a16 x2 → wr P d sw_c533 sw_h533 (21, [.index q2, vi x1, vi x2, t3, t4, t5], [], h, kc, ks) Q) (k2 : ¬ gi a8 x1 = gi a16 x2 → wr P d sw_c533 sw_h533 (15, [.index q2, vi x1, vi x2, t3, t4, t5], [], h, kc, ks) Q) (e_q2 : r0 = .index q2 := by first | rfl | assumption) (e_q7 : v5 = .index q7 := by first | rfl | assumption) (e_q15 : v13 = .index q15 := by first | rfl | assumption) (y1 : s_ty r0 = 3 := by first | rfl | assumption) (n6 : s_nth f3 6 = some v5 := by first | rfl | assumption) (n14 : s_nth f3 5 = some v13 := by first | rfl | assumption) (c10 : x1 < a8.length := by first | omega | assumption | (simp only [mk_len, List.length_map]; omega) | decide) (c11 : 0 ≤ x1 := by first | omega | assumption | (simp only [mk_len, List.length_map]; omega) | decide) (c12 : In3 x1 := by first | omega | assumption | (simp only [mk_len, List.length_map]; omega) | decide) (c18 : x2 < a16.length := by first | omega | assumption | (simp only [mk_len, List.length_map]; omega) | decide) (c19 : 0 ≤ x2 := by first | omega | assumption | (simp only [mk_len, List.length_map]; omega) | decide) (c20 : In3 x2 := by first | omega | assumption | (simp only [mk_len, List.length_map]; omega) | decide) (c21 : In3 (gi a8 x1) := by first | omega | assumption | (simp only [mk_len, List.length_map]; omega) | decide) (c22 : In3 (gi a16 x2) := by first | omega | assumption | (simp only [mk_len, List.length_map]; omega) | decide) : wr P d sw_c533 sw_h533 (0, [r0, vi x1, vi x2, t3, t4, t5], [], h, kc, ks) Q := by
  refine w_ld rfl rfl (Or.inr (Or.inr ⟨by decide, y1⟩)) ?_
  subst e_q2
  refine w_getf rfl g4 n6 ?_
  refine w_ld rfl rfl (Or.inl ⟨by decide, rfl⟩) ?_
  subst e_q7
  refine w_iald rfl g9 (Or.inl rfl) c12 c11 c10 ?_
  refine w_ld rfl rfl (Or.inr (Or.inr ⟨by decide, rfl⟩)) ?_
  refine w_getf rfl g4 n14 ?_
  refine w_ld rfl rfl (Or.inl ⟨by decide, rfl⟩) ?_
  subst e_q15
  refine w_iald rfl g17 (Or.inl rfl) c20 c19 c18 ?_
  exact w_if2 rfl c21 c22 k1 k2

theorem k533_15 {P : s_P} {d : Nat} {Q : s_O → Prop} {h : s_H} {kc ks : Nat} {r0 : Term} {x1 x2 : Int} {t3 t4 t5 : Term} {q2 : Nat} {f3 : List Term} (g4 : s_get h q2 = some (1, 11, f3)) (k : wm P d 570 [.index q2, vi 2] h (wq P d sw_c533 sw_h533 20 [.index q2, vi x1, vi x2, t3, t4, t5] [] kc ks Q)) (e_q2 : r0 = .index q2 := by first | rfl | assumption) (y1 : s_ty r0 = 3 := by first | rfl | assumption)  : wr P d sw_c533 sw_h533 (15, [r0, vi x1, vi x2, t3, t4, t5], [], h, kc, ks) Q := by
  refine w_ld rfl rfl (Or.inr (Or.inr ⟨by decide, y1⟩)) ?_
  refine w_c32 rfl (by decide) 2 (by decide) ?_
  subst e_q2
  exact w_cv rfl [.index q2, vi 2] [] rfl rfl (s_wt_4 rfl) rfl g4 k

theorem k533_20 {P : s_P} {d : Nat} {Q : s_O → Prop} {h : s_H} {kc ks : Nat} {r0 : Term} {x1 x2 : Int} {t3 t4 t5 : Term} {s0 : Int}  (k : Q (.inl (some (vi s0)), h, kc, ks))   : wr P d sw_c533 sw_h533 (20, [r0, vi x1, vi x2, t3, t4, t5], [vi s0], h, kc, ks) Q := by
  exact w_iret rfl k

theorem k533_21 {P : s_P} {d : Nat} {Q : s_O → Prop} {h : s_H} {kc ks : Nat} {r0 : Term} {x1 x2 : Int} {t3 t4 t5 : Term} {q2 : Nat} {f3 : List Term} {z5 : Int} (g4 : s_get h q2 = some (1, 11, f3)) (k1 : z5 ≠ 150 → wr P d sw_c533 sw_h533 (37, [.index q2, vi x1, vi x2, t3, t4, t5], [], h, kc, ks) Q) (k2 : ¬ z5 ≠ 150 → wr P d sw_c533 sw_h533 (31, [.index q2, vi x1, vi x2, t3, t4, t5], [], h, kc, ks) Q) (e_q2 : r0 = .index q2 := by first | rfl | assumption) (y1 : s_ty r0 = 3 := by first | rfl | assumption) (n6 : s_nth f3 1 = some (vi z5) := by first | rfl | assumption) (c7 : In3 z5 := by first | omega | assumption | (simp only [mk_len, List.length_map]; omega) | decide) : wr P d sw_c533 sw_h533 (21, [r0, vi x1, vi x2, t3, t4, t5], [], h, kc, ks) Q := by
  refine w_ld rfl rfl (Or.inr (Or.inr ⟨by decide, y1⟩)) ?_
  subst e_q2
  refine w_getf rfl g4 n6 ?_
  refine w_c32 rfl (by decide) 150 (by decide) ?_
  exact w_if2 rfl c7 (by decide) k1 k2

theorem k533_31 {P : s_P} {d : Nat} {Q : s_O → Prop} {h : s_H} {kc ks : Nat} {r0 : Term} {x1 x2 : Int} {t3 t4 t5 : Term} {q2 : Nat} {f3 : List Term} (g4 : s_get h q2 = some (1, 11, f3)) (k : wm P d 570 [.index q2, vi 3] h (wq P d sw_c533 sw_h533 36 [.index q2, vi x1, vi x2, t3, t4, t5] [] kc ks Q)) (e_q2 : r0 = .index q2 := by first | rfl | assumption) (y1 : s_ty r0 = 3 := by first | rfl | assumption)  : wr P d sw_c533 sw_h533 (31, [r0, vi x1, vi x2, t3, t4, t5], [], h, kc, ks) Q := by
  refine w_ld rfl rfl (Or.inr (Or.inr ⟨by decide, y1⟩)) ?_
  refine w_c32 rfl (by decide) 3 (by decide) ?_
  subst e_q2
  exact w_cv rfl [.index q2, vi 3] [] rfl rfl (s_wt_4 rfl) rfl g4 k

theorem k533_36 {P : s_P} {d : Nat} {Q : s_O → Prop} {h : s_H} {kc ks : Nat} {r0 : Term} {x1 x2 : Int} {t3 t4 t5 : Term} {s0 : Int}  (k : Q (.inl (some (vi s0)), h, kc, ks))   : wr P d sw_c533 sw_h533 (36, [r0, vi x1, vi x2, t3, t4, t5], [vi s0], h, kc, ks) Q := by
  exact w_iret rfl k

theorem k533_37 {P : s_P} {d : Nat} {Q : s_O → Prop} {h : s_H} {kc ks : Nat} {r0 : Term} {x1 x2 : Int} {t3 t4 t5 : Term}  (k : wr P d sw_c533 sw_h533 (39, [r0, vi x1, vi x2, vi 0, t4, t5], [], h, kc, ks) Q)   : wr P d sw_c533 sw_h533 (37, [r0, vi x1, vi x2, t3, t4, t5], [], h, kc, ks) Q := by
  refine w_c32 rfl (by decide) 0 (by decide) ?_
  refine w_st (ls' := [r0, vi x1, vi x2, vi 0, t4, t5]) rfl (Or.inl ⟨by decide, rfl⟩) rfl ?_
  exact k

theorem k533_39 {P : s_P} {d : Nat} {Q : s_O → Prop} {h : s_H} {kc ks : Nat} {r0 : Term} {x1 x2 x3 : Int} {t4 t5 : Term} {q2 : Nat} {f3 : List Term} {v5 : Term} {q7 : Nat} {a8 : List Int} (g4 : s_get h q2 = some (1, 11, f3)) (g9 : s_get h q7 = some (0, 0, a8.map vi)) (k1 : gi a8 x1 ≤ x3 → wr P d sw_c533 sw_h533 (180, [.index q2, vi x1, vi x2, vi x3, t4, t5], [], h, kc, ks) Q) (k2 : ¬ gi a8 x1 ≤ x3 → wr P d sw_c533 sw_h533 (49, [.index q2, vi x1, vi x2, vi x3, t4, t5], [], h, kc, ks) Q) (e_q2 : r0 = .index q2 := by first | rfl | assumption) (e_q7 : v5 = .index q7 := by first | rfl | assumption) (y1 : s_ty r0 = 3 := by first | rfl | assumption) (n6 : s_nth f3 5 = some v5 := by first | rfl | assumption) (c10 : x1 < a8.length := by first | omega | assumption | (simp only [mk_len, List.length_map]; omega) | decide) (c11 : 0 ≤ x1 := by first | omega | assumption | (simp only [mk_len, List.length_map]; omega) | decide) (c12 : In3 x1 := by first | omega | assumption | (simp only [mk_len, List.length_map]; omega) | decide) (c13 : In3 x3 := by first | omega | assumption | (simp only [mk_len, List.length_map]; omega) | decide) (c14 : In3 (gi a8 x1) := by first | omega | assumption | (simp only [mk_len, List.length_map]; omega) | decide) : wr P d sw_c533 sw_h533 (39, [r0, vi x1, vi x2, vi x3, t4, t5], [], h, kc, ks) Q := by
  refine w_ld rfl rfl (Or.inl ⟨by decide, rfl⟩) ?_
  refine w_ld rfl rfl (Or.inr (Or.inr ⟨by decide, y1⟩)) ?_
  subst e_q2
  refine w_getf rfl g4 n6 ?_
  refine w_ld rfl rfl (Or.inl ⟨by decide, rfl⟩) ?_
  subst e_q7
  refine w_iald rfl g9 (Or.inl rfl) c12 c11 c10 ?_
  exact w_if2 rfl c13 c14 k1 k2

theorem k533_49 {P : s_P} {d : Nat} {Q : s_O → Prop} {h : s_H} {kc ks : Nat} {r0 : Term} {x1 x2 x3 : Int} {t4 t5 : Term}  (k : wr P d sw_c533 sw_h533 (52, [r0, vi x1, vi x2, vi x3, vi 0, t5], [], h, kc, ks) Q)   : wr P d sw_c533 sw_h533 (49, [r0, vi x1, vi x2, vi x3, t4, t5], [], h, kc, ks) Q := by
  refine w_c32 rfl (by decide) 0 (by decide) ?_
  refine w_st (ls' := [r0, vi x1, vi x2, vi x3, vi 0, t5]) rfl (Or.inl ⟨by decide, rfl⟩) rfl ?_
  exact k

theorem k533_52 {P : s_P} {d : Nat} {Q : s_O → Prop} {h : s_H} {kc ks : Nat} {r0 : Term} {x1 x2 x3 x4 : Int} {t5 : Term} {q2 : Nat} {f3 : List Term} {v5 : Term} {q7 : Nat} {a8 : List Int} (g4 : s_get h q2 = some (1, 11, f3)) (g9 : s_get h q7 = some (0, 0, a8.map vi)) (k1 : gi a8 x2 ≤ x4 → wr P d sw_c533 sw_h533 (174, [.index q2, vi x1, vi x2, vi x3, vi x4, t5], [], h, kc, ks) Q) (k2 : ¬ gi a8 x2 ≤ x4 → wr P d sw_c533 sw_h533 (63, [.index q2, vi x1, vi x2, vi x3, vi x4, t5], [], h, kc, ks) Q) (e_q2 : r0 = .index q2 := by first | rfl | assumption) (e_q7 : v5 = .index q7 := by first | rfl | assumption) (y1 : s_ty r0 = 3 := by first | rfl | assumption) (n6 : s_nth f3 6 = some v5 := by first | rfl | assumption) (c10 : x2 < a8.length := by first | omega | assumption | (simp only [mk_len, List.length_map]; omega) | decide) (c11 : 0 ≤ x2 := by first | omega | assumption | (simp only [mk_len, List.length_map]; omega) | decide) (c12 : In3 x2 := by first | omega | assumption | (simp only [mk_len, List.length_map]; omega) | decide) (c13 : In3 x4 := by first | omega | assumption | (simp only [mk_len, List.length_map]; omega) | decide) (c14 : In3 (gi a8 x2) := by first | omega | assumption | (simp only [mk_len, List.length_map]; omega) | decide) : wr P d sw_c533 sw_h533 (52, [r0, vi x1, vi x2, vi x3, vi x4, t5], [], h, kc, ks) Q := by
  refine w_ld rfl rfl (Or.inl ⟨by decide, rfl⟩) ?_
  refine w_ld rfl rfl (Or.inr (Or.inr ⟨by decide, y1⟩)) ?_
  subst e_q2
  refine w_getf rfl g4 n6 ?_
  refine w_ld rfl rfl (Or.inl ⟨by decide, rfl⟩) ?_
  subst e_q7
  refine w_iald rfl g9 (Or.inl rfl) c12 c11 c10 ?_
  exact w_if2 rfl c13 c14 k1 k2

theorem k533_63 {P : s_P} {d : Nat} {Q : s_O → Prop} {h : s_H} {kc ks : Nat} {r0 : Term} {x1 x2 x3 x4 : Int} {t5 : Term} {q2 : Nat} {f3 : List Term} {v5 : Term} (g4 : s_get h q2 = some (1, 11, f3)) (k : wm P d 438 [v5] h (wq P d sw_c533 sw_h533 70 [.index q2, vi x1, vi x2, vi x3, vi x4, t5] [] kc ks Q)) (e_q2 : r0 = .index q2 := by first | rfl | assumption) (y1 : s_ty r0 = 3 := by first | rfl | assumption) (n6 : s_nth f3 22 = some v5 := by first | rfl | assumption)  : wr P d sw_c533 sw_h533 (63, [r0, vi x1, vi x2, vi x3, vi x4, t5], [], h, kc, ks) Q := by
  refine w_ld rfl rfl (Or.inr (Or.inr ⟨by decide, y1⟩)) ?_
  subst e_q2
  refine w_getf rfl g4 n6 ?_
  exact w_cs rfl [v5] [] rfl rfl (s_wt_4 rfl) k

theorem k533_70 {P : s_P} {d : Nat} {Q : s_O → Prop} {h : s_H} {kc ks : Nat} {r0 : Term} {x1 x2 x3 x4 : Int} {t5 : Term}  (k : wr P d sw_c533 sw_h533 (73, [r0, vi x1, vi x2, vi x3, vi x4, vi 0], [], h, kc, ks) Q)   : wr P d sw_c533 sw_h533 (70, [r0, vi x1, vi x2, vi x3, vi x4, t5], [], h, kc, ks) Q := by
  refine w_c32 rfl (by decide) 0 (by decide) ?_
  refine w_st (ls' := [r0, vi x1, vi x2, vi x3, vi x4, vi 0]) rfl (Or.inl ⟨by decide, rfl⟩) rfl ?_
  exact k

theorem k533_73 {P : s_P} {d : Nat} {Q : s_O → Prop} {h : s_H} {kc ks : Nat} {r0 : Term} {x1 x2 x3 x4 x5 : Int} {q2 : Nat} {f3 : List Term} {v5 : Term} {q7 : Nat} {a8 : List Int} (g4 : s_get h q2 = some (1, 11, f3)) (g9 : s_get h q7 = some (0, 0, a8.map vi)) (k1 : gi a8 x1 ≤ x5 → wr P d sw_c533 sw_h533 (139, [.index q2, vi x1, vi x2, vi x3, vi x4, vi x5], [], h, kc, ks) Q) (k2 : ¬ gi a8 x1 ≤ x5 → wr P d sw_c533 sw_h533 (84, [.index q2, vi x1, vi x2, vi x3, vi x4, vi x5], [], h, kc, ks) Q) (e_q2 : r0 = .index q2 := by first | rfl | assumption) (e_q7 : v5 = .index q7 := by first | rfl | assumption) (y1 : s_ty r0 = 3 := by first | rfl | assumption) (n6 : s_nth f3 6 = some v5 := by first | rfl | assumption) (c10 : x1 < a8.length := by first | omega | assumption | (simp only [mk_len, List.length_map]; omega) | decide) (c11 : 0 ≤ x1 := by first | omega | assumption | (simp only [mk_len, List.length_map]; omega) | decide) (c12 : In3 x1 := by first | omega | assumption | (simp only [mk_len, List.length_map]; omega) | decide) (c13 : In3 x5 := by first | omega | assumption | (simp only [mk_len, List.length_map]; omega) | decide) (c14 : In3 (gi a8 x1) := by first | omega | assumption | (simp only [mk_len, List.length_map]; omega) | decide) : wr P d sw_c533 sw_h533 (73, [r0, vi x1, vi x2, vi x3, vi x4, vi x5], [], h, kc, ks) Q := by
  refine w_ld rfl rfl (Or.inl ⟨by decide, rfl⟩) ?_
  refine w_ld rfl rfl (Or.inr (Or.inr ⟨by decide, y1⟩)) ?_
  subst e_q2
  refine w_getf rfl g4 n6 ?_
  refine w_ld rfl rfl (Or.inl ⟨by decide, rfl⟩) ?_
  subst e_q7
  refine w_iald rfl g9 (Or.inl rfl) c12 c11 c10 ?_
  exact w_if2 rfl c13 c14 k1 k2

theorem k533_84 {P : s_P} {d : Nat} {Q : s_O → Prop} {h : s_H} {kc ks : Nat} {r0 : Term} {x1 x2 x3 x4 x5 : Int} {q2 : Nat} {f3 : List Term} {v5 : Term} (g4 : s_get h q2 = some (1, 11, f3)) (k : wm P d 508 [.index q2, v5, vi x1, vi x3, vi x5] h (wq P d sw_c533 sw_h533 96 [.index q2, vi x1, vi x2, vi x3, vi x4, vi x5] [] kc ks Q)) (e_q2 : r0 = .index q2 := by first | rfl | assumption) (y1 : s_ty r0 = 3 := by first | rfl | assumption) (n6 : s_nth f3 20 = some v5 := by first | rfl | assumption)  : wr P d sw_c533 sw_h533 (84, [r0, vi x1, vi x2, vi x3, vi x4, vi x5], [], h, kc, ks) Q := by
  refine w_ld rfl rfl (Or.inr (Or.inr ⟨by decide, y1⟩)) ?_
  refine w_ld rfl rfl (Or.inr (Or.inr ⟨by decide, y1⟩)) ?_
  subst e_q2
  refine w_getf rfl g4 n6 ?_
  refine w_ld rfl rfl (Or.inl ⟨by decide, rfl⟩) ?_
  refine w_ld rfl rfl (Or.inl ⟨by decide, rfl⟩) ?_
  refine w_ld rfl rfl (Or.inl ⟨by decide, rfl⟩) ?_
  exact w_cv rfl [.index q2, v5, vi x1, vi x3, vi x5] [] rfl rfl (s_wt_4 rfl) rfl g4 k

theorem k533_96 {P : s_P} {d : Nat} {Q : s_O → Prop} {h : s_H} {kc ks : Nat} {r0 : Term} {x1 x2 x3 x4 x5 : Int} {q2 : Nat} {f3 : List Term} {v5 : Term} (g4 : s_get h q2 = some (1, 11, f3)) (k : wm P d 508 [.index q2, v5, vi x2, vi x5, vi x4] h (wq P d sw_c533 sw_h533 109 [.index q2, vi x1, vi x2, vi x3, vi x4, vi x5] [] kc ks Q)) (e_q2 : r0 = .index q2 := by first | rfl | assumption) (y1 : s_ty r0 = 3 := by first | rfl | assumption) (n6 : s_nth f3 21 = some v5 := by first | rfl | assumption)  : wr P d sw_c533 sw_h533 (96, [r0, vi x1, vi x2, vi x3, vi x4, vi x5], [], h, kc, ks) Q := by
  refine w_ld rfl rfl (Or.inr (Or.inr ⟨by decide, y1⟩)) ?_
  refine w_ld rfl rfl (Or.inr (Or.inr ⟨by decide, y1⟩)) ?_
  subst e_q2
  refine w_getf rfl g4 n6 ?_
  refine w_ld rfl rfl (Or.inl ⟨by decide, rfl⟩) ?_
  refine w_ld rfl rfl (Or.inl ⟨by decide, rfl⟩) ?_
  refine w_ld rfl rfl (Or.inl ⟨by decide, rfl⟩) ?_
  exact w_cv rfl [.index q2, v5, vi x2, vi x5, vi x4] [] rfl rfl (s_wt_4 rfl) rfl g4 k

theorem k533_109 {P : s_P} {d : Nat} {Q : s_O → Prop} {h : s_H} {kc ks : Nat} {r0 : Term} {x1 x2 x3 x4 x5 : Int} {q2 : Nat} {f3 : List Term} {v5 v7 : Term} (g4 : s_get h q2 = some (1, 11, f3)) (k : wm P d 531 [.index q2, v5, v7] h (wq P d sw_c533 sw_h533 121 [.index q2, vi x1, vi x2, vi x3, vi x4, vi x5] [] kc ks Q)) (e_q2 : r0 = .index q2 := by first | rfl | assumption) (y1 : s_ty r0 = 3 := by first | rfl | assumption) (n6 : s_nth f3 20 = some v5 := by first | rfl | assumption) (n8 : s_nth f3 21 = some v7 := by first | rfl | assumption)  : wr P d sw_c533 sw_h533 (109, [r0, vi x1, vi x2, vi x3, vi x4, vi x5], [], h, kc, ks) Q := by
  refine w_ld rfl rfl (Or.inr (Or.inr ⟨by decide, y1⟩)) ?_
  refine w_ld rfl rfl (Or.inr (Or.inr ⟨by decide, y1⟩)) ?_
  subst e_q2
  refine w_getf rfl g4 n6 ?_
  refine w_ld rfl rfl (Or.inr (Or.inr ⟨by decide, rfl⟩)) ?_
  refine w_getf rfl g4 n8 ?_
  exact w_cv rfl [.index q2, v5, v7] [] rfl rfl (s_wt_4 rfl) rfl g4 k

theorem k533_121 {P : s_P} {d : Nat} {Q : s_O → Prop} {h : s_H} {kc ks : Nat} {r0 : Term} {x1 x2 x3 x4 x5 : Int} {q2 : Nat} {f3 : List Term} {v5 v7 : Term} (g4 : s_get h q2 = some (1, 11, f3)) (k : wm P d 529 [v5, v7, vl 1] h (wq P d sw_c533 sw_h533 133 [.index q2, vi x1, vi x2, vi x3, vi x4, vi x5] [] kc ks Q)) (e_q2 : r0 = .index q2 := by first | rfl | assumption) (y1 : s_ty r0 = 3 := by first | rfl | assumption) (n6 : s_nth f3 22 = some v5 := by first | rfl | assumption) (n8 : s_nth f3 16 = some v7 := by first | rfl | assumption)  : wr P d sw_c533 sw_h533 (121, [r0, vi x1, vi x2, vi x3, vi x4, vi x5], [], h, kc, ks) Q := by
  refine w_ld rfl rfl (Or.inr (Or.inr ⟨by decide, y1⟩)) ?_
  subst e_q2
  refine w_getf rfl g4 n6 ?_
  refine w_ld rfl rfl (Or.inr (Or.inr ⟨by decide, rfl⟩)) ?_
  refine w_getf rfl g4 n8 ?_
  refine w_c64 rfl (by decide) 1 (by decide) ?_
  exact w_cs rfl [v5, v7, vl 1] [] rfl rfl (s_wt_4 rfl) k

theorem k533_133 {P : s_P} {d : Nat} {Q : s_O → Prop} {h : s_H} {kc ks : Nat} {r0 : Term} {x1 x2 x3 x4 x5 : Int}  (k : wr P d sw_c533 sw_h533 (73, [r0, vi x1, vi x2, vi x3, vi x4, vi (x5 + 1)], [], h, kc, ks) Q)   : wr P d sw_c533 sw_h533 (133, [r0, vi x1, vi x2, vi x3, vi x4, vi x5], [], h, kc, ks) Q := by
  refine w_iinc (ls' := [r0, vi x1, vi x2, vi x3, vi x4, vi (x5 + 1)]) rfl rfl 1 (by decide) rfl ?_
  refine w_goto rfl ?_
  exact k

theorem k533_139 {P : s_P} {d : Nat} {Q : s_O → Prop} {h : s_H} {kc ks : Nat} {r0 : Term} {x1 x2 x3 x4 x5 : Int} {q2 : Nat} {f3 : List Term} {v5 : Term} (g4 : s_get h q2 = some (1, 11, f3)) (k : wm P d 463 [v5] h (wq P d sw_c533 sw_h533 146 [.index q2, vi x1, vi x2, vi x3, vi x4, vi x5] [] kc ks Q)) (e_q2 : r0 = .index q2 := by first | rfl | assumption) (y1 : s_ty r0 = 3 := by first | rfl | assumption) (n6 : s_nth f3 22 = some v5 := by first | rfl | assumption)  : wr P d sw_c533 sw_h533 (139, [r0, vi x1, vi x2, vi x3, vi x4, vi x5], [], h, kc, ks) Q := by
  refine w_ld rfl rfl (Or.inr (Or.inr ⟨by decide, y1⟩)) ?_
  subst e_q2
  refine w_getf rfl g4 n6 ?_
  exact w_cs rfl [v5] [] rfl rfl (s_wt_4 rfl) k

theorem k533_146 {P : s_P} {d : Nat} {Q : s_O → Prop} {h : s_H} {kc ks : Nat} {r0 : Term} {x1 x2 x3 x4 x5 s0 : Int}  (k1 : s0 ≤ 10 → wr P d sw_c533 sw_h533 (157, [r0, vi x1, vi x2, vi x3, vi x4, vi x5], [], h, kc, ks) Q) (k2 : ¬ s0 ≤ 10 → wr P d sw_c533 sw_h533 (151, [r0, vi x1, vi x2, vi x3, vi x4, vi x5], [], h, kc, ks) Q)  (c1 : In3 s0 := by first | omega | assumption | (simp only [mk_len, List.length_map]; omega) | decide) : wr P d sw_c533 sw_h533 (146, [r0, vi x1, vi x2, vi x3, vi x4, vi x5], [vi s0], h, kc, ks) Q := by
  refine w_c32 rfl (by decide) 10 (by decide) ?_
  exact w_if2 rfl c1 (by decide) k1 k2

theorem k533_151 {P : s_P} {d : Nat} {Q : s_O → Prop} {h : s_H} {kc ks : Nat} {r0 : Term} {x1 x2 x3 x4 x5 : Int} {q2 : Nat} {f3 : List Term} (g4 : s_get h q2 = some (1, 11, f3)) (k : wm P d 570 [.index q2, vi 3] h (wq P d sw_c533 sw_h533 156 [.index q2, vi x1, vi x2, vi x3, vi x4, vi x5] [] kc ks Q)) (e_q2 : r0 = .index q2 := by first | rfl | assumption) (y1 : s_ty r0 = 3 := by first | rfl | assumption)  : wr P d sw_c533 sw_h533 (151, [r0, vi x1, vi x2, vi x3, vi x4, vi x5], [], h, kc, ks) Q := by
  refine w_ld rfl rfl (Or.inr (Or.inr ⟨by decide, y1⟩)) ?_
  refine w_c32 rfl (by decide) 3 (by decide) ?_
  subst e_q2
  exact w_cv rfl [.index q2, vi 3] [] rfl rfl (s_wt_4 rfl) rfl g4 k

theorem k533_156 {P : s_P} {d : Nat} {Q : s_O → Prop} {h : s_H} {kc ks : Nat} {r0 : Term} {x1 x2 x3 x4 x5 s0 : Int}  (k : Q (.inl (some (vi s0)), h, kc, ks))   : wr P d sw_c533 sw_h533 (156, [r0, vi x1, vi x2, vi x3, vi x4, vi x5], [vi s0], h, kc, ks) Q := by
  exact w_iret rfl k

theorem k533_157 {P : s_P} {d : Nat} {Q : s_O → Prop} {h : s_H} {kc ks : Nat} {r0 : Term} {x1 x2 x3 x4 x5 : Int} {q2 : Nat} {f3 : List Term} {v5 : Term} (g4 : s_get h q2 = some (1, 11, f3)) (k : wm P d 496 [.index q2, v5, vi x3, vi x4] h (wq P d sw_c533 sw_h533 168 [.index q2, vi x1, vi x2, vi x3, vi x4, vi x5] [] kc ks Q)) (e_q2 : r0 = .index q2 := by first | rfl | assumption) (y1 : s_ty r0 = 3 := by first | rfl | assumption) (n6 : s_nth f3 22 = some v5 := by first | rfl | assumption)  : wr P d sw_c533 sw_h533 (157, [r0, vi x1, vi x2, vi x3, vi x4, vi x5], [], h, kc, ks) Q := by
  refine w_ld rfl rfl (Or.inr (Or.inr ⟨by decide, y1⟩)) ?_
  refine w_ld rfl rfl (Or.inr (Or.inr ⟨by decide, y1⟩)) ?_
  subst e_q2
  refine w_getf rfl g4 n6 ?_
  refine w_ld rfl rfl (Or.inl ⟨by decide, rfl⟩) ?_
  refine w_ld rfl rfl (Or.inl ⟨by decide, rfl⟩) ?_
  exact w_cv rfl [.index q2, v5, vi x3, vi x4] [] rfl rfl (s_wt_4 rfl) rfl g4 k

theorem k533_168 {P : s_P} {d : Nat} {Q : s_O → Prop} {h : s_H} {kc ks : Nat} {r0 : Term} {x1 x2 x3 x4 x5 : Int}  (k : wr P d sw_c533 sw_h533 (52, [r0, vi x1, vi x2, vi x3, vi (x4 + 1), vi x5], [], h, kc, ks) Q)   : wr P d sw_c533 sw_h533 (168, [r0, vi x1, vi x2, vi x3, vi x4, vi x5], [], h, kc, ks) Q := by
  refine w_iinc (ls' := [r0, vi x1, vi x2, vi x3, vi (x4 + 1), vi x5]) rfl rfl 1 (by decide) rfl ?_
  refine w_goto rfl ?_
  exact k

theorem k533_174 {P : s_P} {d : Nat} {Q : s_O → Prop} {h : s_H} {kc ks : Nat} {r0 : Term} {x1 x2 x3 x4 : Int} {t5 : Term}  (k : wr P d sw_c533 sw_h533 (39, [r0, vi x1, vi x2, vi (x3 + 1), vi x4, t5], [], h, kc, ks) Q)   : wr P d sw_c533 sw_h533 (174, [r0, vi x1, vi x2, vi x3, vi x4, t5], [], h, kc, ks) Q := by
  refine w_iinc (ls' := [r0, vi x1, vi x2, vi (x3 + 1), vi x4, t5]) rfl rfl 1 (by decide) rfl ?_
  refine w_goto rfl ?_
  exact k

theorem k533_180 {P : s_P} {d : Nat} {Q : s_O → Prop} {h : s_H} {kc ks : Nat} {r0 : Term} {x1 x2 x3 : Int} {t4 t5 : Term} {q2 : Nat} {f3 : List Term} {v5 : Term} {q7 : Nat} {a8 : List Int} {v13 : Term} {q15 : Nat} {a16 : List Int} (g4 : s_get h q2 = some (1, 11, f3)) (g9 : s_get h q7 = some (0, 0, a8.map vi)) (g17 : s_get h q15 = some (0, 0, a16.map vi)) (k : wm P d 498 [.index q2, vi (gi a8 x1), vi (gi a16 x2)] h (wq P d sw_c533 sw_h533 196 [.index q2, vi x1, vi x2, vi x3, t4, t5] [] kc ks Q)) (e_q2 : r0 = .index q2 := by first | rfl | assumption) (e_q7 : v5 = .index q7 := by first | rfl | assumption) (e_q15 : v13 = .index q15 := by first | rfl | assumption) (y1 : s_ty r0 = 3 := by first | rfl | assumption) (n6 : s_nth f3 5 = some v5 := by first | rfl | assumption) (n14 : s_nth f3 6 = some v13 := by first | rfl | assumption) (c10 : x1 < a8.length := by first | omega | assumption | (simp only [mk_len, List.length_map]; omega) | decide) (c11 : 0 ≤ x1 := by first | omega | assumption | (simp only [mk_len, List.length_map]; omega) | decide) (c12 : In3 x1 := by first | omega | assumption | (simp only [mk_len, List.length_map]; omega) | decide) (c18 : x2 < a16.length := by first | omega | assumption | (simp only [mk_len, List.length_map]; omega) | decide) (c19 : 0 ≤ x2 := by first | omega | assumption | (simp only [mk_len, List.length_map]; omega) | decide) (c20 : In3 x2 := by first | omega | assumption | (simp only [mk_len, List.length_map]; omega) | decide) : wr P d sw_c533 sw_h533 (180, [r0, vi x1, vi x2, vi x3, t4, t5], [], h, kc, ks) Q := by
  refine w_ld rfl rfl (Or.inr (Or.inr ⟨by decide, y1⟩)) ?_
  refine w_ld rfl rfl (Or.inr (Or.inr ⟨by decide, y1⟩)) ?_
  subst e_q2
  refine w_getf rfl g4 n6 ?_
  refine w_ld rfl rfl (Or.inl ⟨by decide, rfl⟩) ?_
  subst e_q7
  refine w_iald rfl g9 (Or.inl rfl) c12 c11 c10 ?_
  refine w_ld rfl rfl (Or.inr (Or.inr ⟨by decide, rfl⟩)) ?_
  refine w_getf rfl g4 n14 ?_
  refine w_ld rfl rfl (Or.inl ⟨by decide, rfl⟩) ?_
  subst e_q15
  refine w_iald rfl g17 (Or.inl rfl) c20 c19 c18 ?_
  exact w_cv rfl [.index q2, vi (gi a8 x1), vi (gi a16 x2)] [] rfl rfl (s_wt_4 rfl) rfl g4 k

theorem k533_196 {P : s_P} {d : Nat} {Q : s_O → Prop} {h : s_H} {kc ks : Nat} {r0 : Term} {x1 x2 x3 : Int} {t4 t5 : Term} {s0 : Int}  (k : Q (.inl (some (vi s0)), h, kc, ks))   : wr P d sw_c533 sw_h533 (196, [r0, vi x1, vi x2, vi x3, t4, t5], [vi s0], h, kc, ks) Q := by
  exact w_iret rfl k

/-! 534: FormulaWorksModel.multiplyModulo([J[J)V -/
theorem k534_0 {P : s_P} {d : Nat} {Q : s_O → Prop} {h : s_H} {kc ks : Nat} {r0 r1 r2 : Term} {q2 : Nat} {f3 : List Term} {v5 : Term} (g4 : s_get h q2 = some (1, 11, f3)) (k : wm P d 532 [.index q2, v5, r1] h (wq P d sw_c534 sw_h534 9 [.index q2, r1, r2] [] kc ks Q)) (e_q2 : r0 = .index q2 := by first | rfl | assumption) (y1 : s_ty r0 = 3 := by first | rfl | assumption) (n6 : s_nth f3 20 = some v5 := by first | rfl | assumption) (y7 : s_ty r1 = 3 := by first | rfl | assumption)  : wr P d sw_c534 sw_h534 (0, [r0, r1, r2], [], h, kc, ks) Q := by
  refine w_ld rfl rfl (Or.inr (Or.inr ⟨by decide, y1⟩)) ?_
  refine w_ld rfl rfl (Or.inr (Or.inr ⟨by decide, y1⟩)) ?_
  subst e_q2
  refine w_getf rfl g4 n6 ?_
  refine w_ld rfl rfl (Or.inr (Or.inr ⟨by decide, y7⟩)) ?_
  exact w_cv rfl [.index q2, v5, r1] [] rfl rfl (s_wt_4 rfl) rfl g4 k

theorem k534_9 {P : s_P} {d : Nat} {Q : s_O → Prop} {h : s_H} {kc ks : Nat} {r0 r1 r2 : Term} {q2 : Nat} {f3 : List Term} {v5 : Term} (g4 : s_get h q2 = some (1, 11, f3)) (k : wm P d 433 [.index q2, v5, r2] h (wq P d sw_c534 sw_h534 18 [.index q2, r1, r2] [] kc ks Q)) (e_q2 : r0 = .index q2 := by first | rfl | assumption) (y1 : s_ty r0 = 3 := by first | rfl | assumption) (n6 : s_nth f3 20 = some v5 := by first | rfl | assumption) (y7 : s_ty r2 = 3 := by first | rfl | assumption)  : wr P d sw_c534 sw_h534 (9, [r0, r1, r2], [], h, kc, ks) Q := by
  refine w_ld rfl rfl (Or.inr (Or.inr ⟨by decide, y1⟩)) ?_
  refine w_ld rfl rfl (Or.inr (Or.inr ⟨by decide, y1⟩)) ?_
  subst e_q2
  refine w_getf rfl g4 n6 ?_
  refine w_ld rfl rfl (Or.inr (Or.inr ⟨by decide, y7⟩)) ?_
  exact w_cv rfl [.index q2, v5, r2] [] rfl rfl (s_wt_4 rfl) rfl g4 k

theorem k534_18 {P : s_P} {d : Nat} {Q : s_O → Prop} {h : s_H} {kc ks : Nat} {r0 r1 r2 : Term}  (k : Q (.inl none, h, kc, ks))   : wr P d sw_c534 sw_h534 (18, [r0, r1, r2], [], h, kc, ks) Q := by
  exact w_ret rfl k

/-! 535: FormulaWorksModel.named(I)I -/
theorem k535_0 {P : s_P} {d : Nat} {Q : s_O → Prop} {h : s_H} {kc ks : Nat} {r0 : Term} {x1 : Int} {t2 t3 t4 : Term}  (k : wr P d sw_c535 sw_h535 (4, [r0, vi x1, vi 0, vi 0, t4], [], h, kc, ks) Q)   : wr P d sw_c535 sw_h535 (0, [r0, vi x1, t2, t3, t4], [], h, kc, ks) Q := by
  refine w_c32 rfl (by decide) 0 (by decide) ?_
  refine w_st (ls' := [r0, vi x1, vi 0, t3, t4]) rfl (Or.inl ⟨by decide, rfl⟩) rfl ?_
  refine w_c32 rfl (by decide) 0 (by decide) ?_
  refine w_st (ls' := [r0, vi x1, vi 0, vi 0, t4]) rfl (Or.inl ⟨by decide, rfl⟩) rfl ?_
  exact k

theorem k535_4 {P : s_P} {d : Nat} {Q : s_O → Prop} {h : s_H} {kc ks : Nat} {r0 : Term} {x1 x2 x3 : Int} {t4 : Term} {q2 : Nat} {f3 : List Term} {v5 : Term} {q7 : Nat} {a8 : List Int} (g4 : s_get h q2 = some (1, 11, f3)) (g9 : s_get h q7 = some (0, 0, a8.map vi)) (k1 : gi a8 x1 ≤ x3 → wr P d sw_c535 sw_h535 (62, [.index q2, vi x1, vi x2, vi x3, t4], [], h, kc, ks) Q) (k2 : ¬ gi a8 x1 ≤ x3 → wr P d sw_c535 sw_h535 (14, [.index q2, vi x1, vi x2, vi x3, t4], [], h, kc, ks) Q) (e_q2 : r0 = .index q2 := by first | rfl | assumption) (e_q7 : v5 = .index q7 := by first | rfl | assumption) (y1 : s_ty r0 = 3 := by first | rfl | assumption) (n6 : s_nth f3 101 = some v5 := by first | rfl | assumption) (c10 : x1 < a8.length := by first | omega | assumption | (simp only [mk_len, List.length_map]; omega) | decide) (c11 : 0 ≤ x1 := by first | omega | assumption | (simp only [mk_len, List.length_map]; omega) | decide) (c12 : In3 x1 := by first | omega | assumption | (simp only [mk_len, List.length_map]; omega) | decide) (c13 : In3 x3 := by first | omega | assumption | (simp only [mk_len, List.length_map]; omega) | decide) (c14 : In3 (gi a8 x1) := by first | omega | assumption | (simp only [mk_len, List.length_map]; omega) | decide) : wr P d sw_c535 sw_h535 (4, [r0, vi x1, vi x2, vi x3, t4], [], h, kc, ks) Q := by
  refine w_ld rfl rfl (Or.inl ⟨by decide, rfl⟩) ?_
  refine w_ld rfl rfl (Or.inr (Or.inr ⟨by decide, y1⟩)) ?_
  subst e_q2
  refine w_getf rfl g4 n6 ?_
  refine w_ld rfl rfl (Or.inl ⟨by decide, rfl⟩) ?_
  subst e_q7
  refine w_iald rfl g9 (Or.inl rfl) c12 c11 c10 ?_
  exact w_if2 rfl c13 c14 k1 k2

theorem k535_14 {P : s_P} {d : Nat} {Q : s_O → Prop} {h : s_H} {kc ks : Nat} {r0 : Term} {x1 x2 x3 : Int} {t4 : Term} {q2 : Nat} {f3 : List Term} {v5 : Term} {q7 : Nat} {a8 : List Int} (g4 : s_get h q2 = some (1, 11, f3)) (g9 : s_get h q7 = some (0, 0, a8.map vi)) (k : wm P d 464 [vl (gi a8 ((60 * x1) + x3)), vl 65, vl 80] h (wq P d sw_c535 sw_h535 40 [.index q2, vi x1, vi x2, vi x3, vi (gi a8 ((60 * x1) + x3))] [vi x2] kc ks Q)) (e_q2 : r0 = .index q2 := by first | rfl | assumption) (e_q7 : v5 = .index q7 := by first | rfl | assumption) (y1 : s_ty r0 = 3 := by first | rfl | assumption) (n6 : s_nth f3 102 = some v5 := by first | rfl | assumption) (c10 : (60 * x1) + x3 < a8.length := by first | omega | assumption | (simp only [mk_len, List.length_map]; omega) | decide) (c11 : 0 ≤ (60 * x1) + x3 := by first | omega | assumption | (simp only [mk_len, List.length_map]; omega) | decide) (c12 : In3 ((60 * x1) + x3) := by first | omega | assumption | (simp only [mk_len, List.length_map]; omega) | decide) (c13 : In3 (gi a8 ((60 * x1) + x3)) := by first | omega | assumption | (simp only [mk_len, List.length_map]; omega) | decide) : wr P d sw_c535 sw_h535 (14, [r0, vi x1, vi x2, vi x3, t4], [], h, kc, ks) Q := by
  refine w_ld rfl rfl (Or.inr (Or.inr ⟨by decide, y1⟩)) ?_
  subst e_q2
  refine w_getf rfl g4 n6 ?_
  refine w_c32 rfl (by decide) 60 (by decide) ?_
  refine w_ld rfl rfl (Or.inl ⟨by decide, rfl⟩) ?_
  refine w_imul rfl ?_
  refine w_ld rfl rfl (Or.inl ⟨by decide, rfl⟩) ?_
  refine w_iadd rfl ?_
  subst e_q7
  refine w_iald rfl g9 (Or.inl rfl) c12 c11 c10 ?_
  refine w_st (ls' := [.index q2, vi x1, vi x2, vi x3, vi (gi a8 ((60 * x1) + x3))]) rfl (Or.inl ⟨by decide, rfl⟩) rfl ?_
  refine w_ld rfl rfl (Or.inl ⟨by decide, rfl⟩) ?_
  refine w_ld rfl rfl (Or.inl ⟨by decide, rfl⟩) ?_
  refine w_i2l rfl c13 ?_
  refine w_c64 rfl (by decide) 65 (by decide) ?_
  refine w_c64 rfl (by decide) 80 (by decide) ?_
  exact w_cs rfl [vl (gi a8 ((60 * x1) + x3)), vl 65, vl 80] [vi x2] rfl rfl (s_wt_4 rfl) k

theorem k535_40 {P : s_P} {d : Nat} {Q : s_O → Prop} {h : s_H} {kc ks : Nat} {r0 : Term} {x1 x2 x3 x4 s0 s1 : Int}  (k1 : s1 = 0 → wr P d sw_c535 sw_h535 (53, [r0, vi x1, vi x2, vi x3, vi x4], [vi s0], h, kc, ks) Q) (k2 : ¬ s1 = 0 → wr P d sw_c535 sw_h535 (43, [r0, vi x1, vi x2, vi x3, vi x4], [vi s0], h, kc, ks) Q)  (c1 : In3 s1 := by first | omega | assumption | (simp only [mk_len, List.length_map]; omega) | decide) : wr P d sw_c535 sw_h535 (40, [r0, vi x1, vi x2, vi x3, vi x4], [vi s1, vi s0], h, kc, ks) Q := by
  exact w_if1 rfl c1 k1 k2

theorem k535_43 {P : s_P} {d : Nat} {Q : s_O → Prop} {h : s_H} {kc ks : Nat} {r0 : Term} {x1 x2 x3 x4 s0 : Int}  (k : wr P d sw_c535 sw_h535 (54, [r0, vi x1, vi x2, vi x3, vi x4], [vi (zi 27 1 (x4 - 65)), vi s0], h, kc, ks) Q)   : wr P d sw_c535 sw_h535 (43, [r0, vi x1, vi x2, vi x3, vi x4], [vi s0], h, kc, ks) Q := by
  refine w_c32 rfl (by decide) 1 (by decide) ?_
  refine w_ld rfl rfl (Or.inl ⟨by decide, rfl⟩) ?_
  refine w_c32 rfl (by decide) 65 (by decide) ?_
  refine w_isub rfl ?_
  refine w_ib rfl (by decide) ?_
  refine w_goto rfl ?_
  exact k

theorem k535_53 {P : s_P} {d : Nat} {Q : s_O → Prop} {h : s_H} {kc ks : Nat} {r0 : Term} {x1 x2 x3 x4 s0 : Int}  (k : wr P d sw_c535 sw_h535 (54, [r0, vi x1, vi x2, vi x3, vi x4], [vi 0, vi s0], h, kc, ks) Q)   : wr P d sw_c535 sw_h535 (53, [r0, vi x1, vi x2, vi x3, vi x4], [vi s0], h, kc, ks) Q := by
  refine w_c32 rfl (by decide) 0 (by decide) ?_
  exact k

theorem k535_54 {P : s_P} {d : Nat} {Q : s_O → Prop} {h : s_H} {kc ks : Nat} {r0 : Term} {x1 x2 x3 x4 s0 s1 : Int}  (k : wr P d sw_c535 sw_h535 (4, [r0, vi x1, vi (zi 25 s0 s1), vi (x3 + 1), vi x4], [], h, kc, ks) Q)   : wr P d sw_c535 sw_h535 (54, [r0, vi x1, vi x2, vi x3, vi x4], [vi s1, vi s0], h, kc, ks) Q := by
  refine w_ib rfl (by decide) ?_
  refine w_st (ls' := [r0, vi x1, vi (zi 25 s0 s1), vi x3, vi x4]) rfl (Or.inl ⟨by decide, rfl⟩) rfl ?_
  refine w_iinc (ls' := [r0, vi x1, vi (zi 25 s0 s1), vi (x3 + 1), vi x4]) rfl rfl 1 (by decide) rfl ?_
  refine w_goto rfl ?_
  exact k

theorem k535_62 {P : s_P} {d : Nat} {Q : s_O → Prop} {h : s_H} {kc ks : Nat} {r0 : Term} {x1 x2 x3 : Int} {t4 : Term}  (k : Q (.inl (some (vi x2)), h, kc, ks))   : wr P d sw_c535 sw_h535 (62, [r0, vi x1, vi x2, vi x3, t4], [], h, kc, ks) Q := by
  refine w_ld rfl rfl (Or.inl ⟨by decide, rfl⟩) ?_
  exact w_iret rfl k

/-! 536: FormulaWorksModel.nextPower(II)V -/
theorem k536_0 {P : s_P} {d : Nat} {Q : s_O → Prop} {h : s_H} {kc ks : Nat} {r0 : Term} {x1 x2 : Int} {t3 t4 t5 t6 t7 : Term}  (k : wr P d sw_c536 sw_h536 (2, [r0, vi x1, vi x2, vi 0, t4, t5, t6, t7], [], h, kc, ks) Q)   : wr P d sw_c536 sw_h536 (0, [r0, vi x1, vi x2, t3, t4, t5, t6, t7], [], h, kc, ks) Q := by
  refine w_c32 rfl (by decide) 0 (by decide) ?_
  refine w_st (ls' := [r0, vi x1, vi x2, vi 0, t4, t5, t6, t7]) rfl (Or.inl ⟨by decide, rfl⟩) rfl ?_
  exact k

theorem k536_2 {P : s_P} {d : Nat} {Q : s_O → Prop} {h : s_H} {kc ks : Nat} {r0 : Term} {x1 x2 x3 : Int} {t4 t5 t6 t7 : Term}  (k1 : 16 ≤ x3 → wr P d sw_c536 sw_h536 (26, [r0, vi x1, vi x2, vi x3, t4, t5, t6, t7], [], h, kc, ks) Q) (k2 : ¬ 16 ≤ x3 → wr P d sw_c536 sw_h536 (8, [r0, vi x1, vi x2, vi x3, t4, t5, t6, t7], [], h, kc, ks) Q)  (c1 : In3 x3 := by first | omega | assumption | (simp only [mk_len, List.length_map]; omega) | decide) : wr P d sw_c536 sw_h536 (2, [r0, vi x1, vi x2, vi x3, t4, t5, t6, t7], [], h, kc, ks) Q := by
  refine w_ld rfl rfl (Or.inl ⟨by decide, rfl⟩) ?_
  refine w_c32 rfl (by decide) 16 (by decide) ?_
  exact w_if2 rfl c1 (by decide) k1 k2

theorem k536_8 {P : s_P} {d : Nat} {Q : s_O → Prop} {h : s_H} {kc ks : Nat} {r0 : Term} {x1 x2 x3 : Int} {t4 t5 t6 t7 : Term} {q2 : Nat} {f3 : List Term} {v5 v7 : Term} {q9 : Nat} {a10 : List Int} {q15 : Nat} {a16 : List Int} (g4 : s_get h q2 = some (1, 11, f3)) (g11 : s_get h q9 = some (0, 1, a10.map vl)) (g17 : s_get h q15 = some (0, 1, a16.map vl)) (k : wr P d sw_c536 sw_h536 (2, [.index q2, vi x1, vi x2, vi (x3 + 1), t4, t5, t6, t7], [], (hp h q15 (0, 1, (a16.set (Int.toNat (x3)) (gi a10 x3)).map vl)), kc, ks) Q) (e_q2 : r0 = .index q2 := by first | rfl | assumption) (e_q9 : v7 = .index q9 := by first | rfl | assumption) (e_q15 : v5 = .index q15 := by first | rfl | assumption) (y1 : s_ty r0 = 3 := by first | rfl | assumption) (n6 : s_nth f3 49 = some v5 := by first | rfl | assumption) (n8 : s_nth f3 47 = some v7 := by first | rfl | assumption) (c12 : x3 < a10.length := by first | omega | assumption | (simp only [mk_len, List.length_map]; omega) | decide) (c13 : 0 ≤ x3 := by first | omega | assumption | (simp only [mk_len, List.length_map]; omega) | decide) (c14 : In3 x3 := by first | omega | assumption | (simp only [mk_len, List.length_map]; omega) | decide) (c18 : x3 < a16.length := by first | omega | assumption | (simp only [mk_len, List.length_map]; omega) | decide) (c19 : 0 < q15 := by first | omega | assumption | (simp only [mk_len, List.length_map]; omega) | decide) : wr P d sw_c536 sw_h536 (8, [r0, vi x1, vi x2, vi x3, t4, t5, t6, t7], [], h, kc, ks) Q := by
  refine w_ld rfl rfl (Or.inr (Or.inr ⟨by decide, y1⟩)) ?_
  subst e_q2
  refine w_getf rfl g4 n6 ?_
  refine w_ld rfl rfl (Or.inl ⟨by decide, rfl⟩) ?_
  refine w_ld rfl rfl (Or.inr (Or.inr ⟨by decide, rfl⟩)) ?_
  refine w_getf rfl g4 n8 ?_
  refine w_ld rfl rfl (Or.inl ⟨by decide, rfl⟩) ?_
  subst e_q9
  refine w_lald rfl g11 c14 c13 c12 ?_
  subst e_q15
  refine w_last rfl g17 (Nat.ble_eq_true_of_le c19) c14 c13 c18 ?_
  refine w_iinc (ls' := [.index q2, vi x1, vi x2, vi (x3 + 1), t4, t5, t6, t7]) rfl rfl 1 (by decide) rfl ?_
  refine w_goto rfl ?_
  exact k

theorem k536_26 {P : s_P} {d : Nat} {Q : s_O → Prop} {h : s_H} {kc ks : Nat} {r0 : Term} {x1 x2 x3 : Int} {t4 t5 t6 t7 : Term}  (k : wr P d sw_c536 sw_h536 (28, [r0, vi x1, vi x2, vi 0, t4, t5, t6, t7], [], h, kc, ks) Q)   : wr P d sw_c536 sw_h536 (26, [r0, vi x1, vi x2, vi x3, t4, t5, t6, t7], [], h, kc, ks) Q := by
  refine w_c32 rfl (by decide) 0 (by decide) ?_
  refine w_st (ls' := [r0, vi x1, vi x2, vi 0, t4, t5, t6, t7]) rfl (Or.inl ⟨by decide, rfl⟩) rfl ?_
  exact k

theorem k536_28 {P : s_P} {d : Nat} {Q : s_O → Prop} {h : s_H} {kc ks : Nat} {r0 : Term} {x1 x2 x3 : Int} {t4 t5 t6 t7 : Term}  (k1 : x2 ≤ x3 → wr P d sw_c536 sw_h536 (128, [r0, vi x1, vi x2, vi x3, t4, t5, t6, t7], [], h, kc, ks) Q) (k2 : ¬ x2 ≤ x3 → wr P d sw_c536 sw_h536 (33, [r0, vi x1, vi x2, vi x3, t4, t5, t6, t7], [], h, kc, ks) Q)  (c1 : In3 x3 := by first | omega | assumption | (simp only [mk_len, List.length_map]; omega) | decide) (c2 : In3 x2 := by first | omega | assumption | (simp only [mk_len, List.length_map]; omega) | decide) : wr P d sw_c536 sw_h536 (28, [r0, vi x1, vi x2, vi x3, t4, t5, t6, t7], [], h, kc, ks) Q := by
  refine w_ld rfl rfl (Or.inl ⟨by decide, rfl⟩) ?_
  refine w_ld rfl rfl (Or.inl ⟨by decide, rfl⟩) ?_
  exact w_if2 rfl c1 c2 k1 k2

theorem k536_33 {P : s_P} {d : Nat} {Q : s_O → Prop} {h : s_H} {kc ks : Nat} {r0 : Term} {x1 x2 x3 : Int} {t4 t5 t6 t7 : Term}  (k : wr P d sw_c536 sw_h536 (36, [r0, vi x1, vi x2, vi x3, vi 0, t5, t6, t7], [], h, kc, ks) Q)   : wr P d sw_c536 sw_h536 (33, [r0, vi x1, vi x2, vi x3, t4, t5, t6, t7], [], h, kc, ks) Q := by
  refine w_c32 rfl (by decide) 0 (by decide) ?_
  refine w_st (ls' := [r0, vi x1, vi x2, vi x3, vi 0, t5, t6, t7]) rfl (Or.inl ⟨by decide, rfl⟩) rfl ?_
  exact k

theorem k536_36 {P : s_P} {d : Nat} {Q : s_O → Prop} {h : s_H} {kc ks : Nat} {r0 : Term} {x1 x2 x3 x4 : Int} {t5 t6 t7 : Term}  (k1 : x2 ≤ x4 → wr P d sw_c536 sw_h536 (122, [r0, vi x1, vi x2, vi x3, vi x4, t5, t6, t7], [], h, kc, ks) Q) (k2 : ¬ x2 ≤ x4 → wr P d sw_c536 sw_h536 (42, [r0, vi x1, vi x2, vi x3, vi x4, t5, t6, t7], [], h, kc, ks) Q)  (c1 : In3 x4 := by first | omega | assumption | (simp only [mk_len, List.length_map]; omega) | decide) (c2 : In3 x2 := by first | omega | assumption | (simp only [mk_len, List.length_map]; omega) | decide) : wr P d sw_c536 sw_h536 (36, [r0, vi x1, vi x2, vi x3, vi x4, t5, t6, t7], [], h, kc, ks) Q := by
  refine w_ld rfl rfl (Or.inl ⟨by decide, rfl⟩) ?_
  refine w_ld rfl rfl (Or.inl ⟨by decide, rfl⟩) ?_
  exact w_if2 rfl c1 c2 k1 k2

theorem k536_42 {P : s_P} {d : Nat} {Q : s_O → Prop} {h : s_H} {kc ks : Nat} {r0 : Term} {x1 x2 x3 x4 : Int} {t5 t6 t7 : Term}  (k : wr P d sw_c536 sw_h536 (48, [r0, vi x1, vi x2, vi x3, vi x4, vl 0, .result, vi 0], [], h, kc, ks) Q)   : wr P d sw_c536 sw_h536 (42, [r0, vi x1, vi x2, vi x3, vi x4, t5, t6, t7], [], h, kc, ks) Q := by
  refine w_c64 rfl (by decide) 0 (by decide) ?_
  refine w_stl (ls' := [r0, vi x1, vi x2, vi x3, vi x4, vl 0, t6, t7]) (ls'' := [r0, vi x1, vi x2, vi x3, vi x4, vl 0, .result, t7]) rfl ⟨by decide, rfl⟩ rfl rfl ?_
  refine w_c32 rfl (by decide) 0 (by decide) ?_
  refine w_st (ls' := [r0, vi x1, vi x2, vi x3, vi x4, vl 0, .result, vi 0]) rfl (Or.inl ⟨by decide, rfl⟩) rfl ?_
  exact k

theorem k536_48 {P : s_P} {d : Nat} {Q : s_O → Prop} {h : s_H} {kc ks : Nat} {r0 : Term} {x1 x2 x3 x4 x5 : Int} {t6 : Term} {x7 : Int}  (k1 : x2 ≤ x7 → wr P d sw_c536 sw_h536 (103, [r0, vi x1, vi x2, vi x3, vi x4, vl x5, t6, vi x7], [], h, kc, ks) Q) (k2 : ¬ x2 ≤ x7 → wr P d sw_c536 sw_h536 (54, [r0, vi x1, vi x2, vi x3, vi x4, vl x5, t6, vi x7], [], h, kc, ks) Q)  (c1 : In3 x7 := by first | omega | assumption | (simp only [mk_len, List.length_map]; omega) | decide) (c2 : In3 x2 := by first | omega | assumption | (simp only [mk_len, List.length_map]; omega) | decide) : wr P d sw_c536 sw_h536 (48, [r0, vi x1, vi x2, vi x3, vi x4, vl x5, t6, vi x7], [], h, kc, ks) Q := by
  refine w_ld rfl rfl (Or.inl ⟨by decide, rfl⟩) ?_
  refine w_ld rfl rfl (Or.inl ⟨by decide, rfl⟩) ?_
  exact w_if2 rfl c1 c2 k1 k2

theorem k536_54 {P : s_P} {d : Nat} {Q : s_O → Prop} {h : s_H} {kc ks : Nat} {r0 : Term} {x1 x2 x3 x4 x5 : Int} {t6 : Term} {x7 : Int} {q2 : Nat} {f3 : List Term} {v5 : Term} {q7 : Nat} {a8 : List Int} {v13 : Term} {q15 : Nat} {a16 : List Int} (g4 : s_get h q2 = some (1, 11, f3)) (g9 : s_get h q7 = some (0, 1, a8.map vl)) (g17 : s_get h q15 = some (0, 0, a16.map vi)) (k : wr P d sw_c536 sw_h536 (48, [.index q2, vi x1, vi x2, vi x3, vi x4, vl (Int.tmod (x5 + ((gi a8 ((4 * x3) + x7)) * (gi a16 ((176 * x1) + (11 * ((4 * x7) + x4)))))) 32003), .result, vi (x7 + 1)], [], h, kc, ks) Q) (e_q2 : r0 = .index q2 := by first | rfl | assumption) (e_q7 : v5 = .index q7 := by first | rfl | assumption) (e_q15 : v13 = .index q15 := by first | rfl | assumption) (y1 : s_ty r0 = 3 := by first | rfl | assumption) (n6 : s_nth f3 49 = some v5 := by first | rfl | assumption) (n14 : s_nth f3 7 = some v13 := by first | rfl | assumption) (c10 : (4 * x3) + x7 < a8.length := by first | omega | assumption | (simp only [mk_len, List.length_map]; omega) | decide) (c11 : 0 ≤ (4 * x3) + x7 := by first | omega | assumption | (simp only [mk_len, List.length_map]; omega) | decide) (c12 : In3 ((4 * x3) + x7) := by first | omega | assumption | (simp only [mk_len, List.length_map]; omega) | decide) (c18 : (176 * x1) + (11 * ((4 * x7) + x4)) < a16.length := by first | omega | assumption | (simp only [mk_len, List.length_map]; omega) | decide) (c19 : 0 ≤ (176 * x1) + (11 * ((4 * x7) + x4)) := by first | omega | assumption | (simp only [mk_len, List.length_map]; omega) | decide) (c20 : In3 ((176 * x1) + (11 * ((4 * x7) + x4))) := by first | omega | assumption | (simp only [mk_len, List.length_map]; omega) | decide) (c21 : In3 (gi a16 ((176 * x1) + (11 * ((4 * x7) + x4)))) := by first | omega | assumption | (simp only [mk_len, List.length_map]; omega) | decide) (c22 : In6 (x5 + ((gi a8 ((4 * x3) + x7)) * (gi a16 ((176 * x1) + (11 * ((4 * x7) + x4)))))) := by first | omega | assumption | (simp only [mk_len, List.length_map]; omega) | decide) : wr P d sw_c536 sw_h536 (54, [r0, vi x1, vi x2, vi x3, vi x4, vl x5, t6, vi x7], [], h, kc, ks) Q := by
  refine w_ld rfl rfl (Or.inr (Or.inl ⟨by decide, rfl⟩)) ?_
  refine w_ld rfl rfl (Or.inr (Or.inr ⟨by decide, y1⟩)) ?_
  subst e_q2
  refine w_getf rfl g4 n6 ?_
  refine w_c32 rfl (by decide) 4 (by decide) ?_
  refine w_ld rfl rfl (Or.inl ⟨by decide, rfl⟩) ?_
  refine w_imul rfl ?_
  refine w_ld rfl rfl (Or.inl ⟨by decide, rfl⟩) ?_
  refine w_iadd rfl ?_
  subst e_q7
  refine w_lald rfl g9 c12 c11 c10 ?_
  refine w_ld rfl rfl (Or.inr (Or.inr ⟨by decide, rfl⟩)) ?_
  refine w_getf rfl g4 n14 ?_
  refine w_c32 rfl (by decide) 176 (by decide) ?_
  refine w_ld rfl rfl (Or.inl ⟨by decide, rfl⟩) ?_
  refine w_imul rfl ?_
  refine w_c32 rfl (by decide) 11 (by decide) ?_
  refine w_c32 rfl (by decide) 4 (by decide) ?_
  refine w_ld rfl rfl (Or.inl ⟨by decide, rfl⟩) ?_
  refine w_imul rfl ?_
  refine w_ld rfl rfl (Or.inl ⟨by decide, rfl⟩) ?_
  refine w_iadd rfl ?_
  refine w_imul rfl ?_
  refine w_iadd rfl ?_
  subst e_q15
  refine w_iald rfl g17 (Or.inl rfl) c20 c19 c18 ?_
  refine w_i2l rfl c21 ?_
  refine w_lmul rfl ?_
  refine w_ladd rfl ?_
  refine w_c64 rfl (by decide) 32003 (by decide) ?_
  refine w_lrem rfl c22 (by decide) (by decide) ?_
  refine w_stl (ls' := [.index q2, vi x1, vi x2, vi x3, vi x4, vl (Int.tmod (x5 + ((gi a8 ((4 * x3) + x7)) * (gi a16 ((176 * x1) + (11 * ((4 * x7) + x4)))))) 32003), t6, vi x7]) (ls'' := [.index q2, vi x1, vi x2, vi x3, vi x4, vl (Int.tmod (x5 + ((gi a8 ((4 * x3) + x7)) * (gi a16 ((176 * x1) + (11 * ((4 * x7) + x4)))))) 32003), .result, vi x7]) rfl ⟨by decide, rfl⟩ rfl rfl ?_
  refine w_iinc (ls' := [.index q2, vi x1, vi x2, vi x3, vi x4, vl (Int.tmod (x5 + ((gi a8 ((4 * x3) + x7)) * (gi a16 ((176 * x1) + (11 * ((4 * x7) + x4)))))) 32003), .result, vi (x7 + 1)]) rfl rfl 1 (by decide) rfl ?_
  refine w_goto rfl ?_
  exact k

theorem k536_103 {P : s_P} {d : Nat} {Q : s_O → Prop} {h : s_H} {kc ks : Nat} {r0 : Term} {x1 x2 x3 x4 x5 : Int} {t6 : Term} {x7 : Int} {q2 : Nat} {f3 : List Term} {v5 : Term} {q7 : Nat} {a8 : List Int} (g4 : s_get h q2 = some (1, 11, f3)) (g9 : s_get h q7 = some (0, 1, a8.map vl)) (k : wr P d sw_c536 sw_h536 (36, [.index q2, vi x1, vi x2, vi x3, vi (x4 + 1), vl x5, t6, vi x7], [], (hp h q7 (0, 1, (a8.set (Int.toNat ((4 * x3) + x4)) x5).map vl)), kc, ks) Q) (e_q2 : r0 = .index q2 := by first | rfl | assumption) (e_q7 : v5 = .index q7 := by first | rfl | assumption) (y1 : s_ty r0 = 3 := by first | rfl | assumption) (n6 : s_nth f3 47 = some v5 := by first | rfl | assumption) (c10 : (4 * x3) + x4 < a8.length := by first | omega | assumption | (simp only [mk_len, List.length_map]; omega) | decide) (c11 : 0 ≤ (4 * x3) + x4 := by first | omega | assumption | (simp only [mk_len, List.length_map]; omega) | decide) (c12 : In3 ((4 * x3) + x4) := by first | omega | assumption | (simp only [mk_len, List.length_map]; omega) | decide) (c13 : 0 < q7 := by first | omega | assumption | (simp only [mk_len, List.length_map]; omega) | decide) : wr P d sw_c536 sw_h536 (103, [r0, vi x1, vi x2, vi x3, vi x4, vl x5, t6, vi x7], [], h, kc, ks) Q := by
  refine w_ld rfl rfl (Or.inr (Or.inr ⟨by decide, y1⟩)) ?_
  subst e_q2
  refine w_getf rfl g4 n6 ?_
  refine w_c32 rfl (by decide) 4 (by decide) ?_
  refine w_ld rfl rfl (Or.inl ⟨by decide, rfl⟩) ?_
  refine w_imul rfl ?_
  refine w_ld rfl rfl (Or.inl ⟨by decide, rfl⟩) ?_
  refine w_iadd rfl ?_
  refine w_ld rfl rfl (Or.inr (Or.inl ⟨by decide, rfl⟩)) ?_
  subst e_q7
  refine w_last rfl g9 (Nat.ble_eq_true_of_le c13) c12 c11 c10 ?_
  refine w_iinc (ls' := [.index q2, vi x1, vi x2, vi x3, vi (x4 + 1), vl x5, t6, vi x7]) rfl rfl 1 (by decide) rfl ?_
  refine w_goto rfl ?_
  exact k

theorem k536_122 {P : s_P} {d : Nat} {Q : s_O → Prop} {h : s_H} {kc ks : Nat} {r0 : Term} {x1 x2 x3 x4 : Int} {t5 t6 t7 : Term}  (k : wr P d sw_c536 sw_h536 (28, [r0, vi x1, vi x2, vi (x3 + 1), vi x4, t5, t6, t7], [], h, kc, ks) Q)   : wr P d sw_c536 sw_h536 (122, [r0, vi x1, vi x2, vi x3, vi x4, t5, t6, t7], [], h, kc, ks) Q := by
  refine w_iinc (ls' := [r0, vi x1, vi x2, vi (x3 + 1), vi x4, t5, t6, t7]) rfl rfl 1 (by decide) rfl ?_
  refine w_goto rfl ?_
  exact k

theorem k536_128 {P : s_P} {d : Nat} {Q : s_O → Prop} {h : s_H} {kc ks : Nat} {r0 : Term} {x1 x2 x3 : Int} {t4 t5 t6 t7 : Term}  (k : Q (.inl none, h, kc, ks))   : wr P d sw_c536 sw_h536 (128, [r0, vi x1, vi x2, vi x3, t4, t5, t6, t7], [], h, kc, ks) Q := by
  exact w_ret rfl k

/-! 537: FormulaWorksModel.node(III)I -/
theorem k537_0 {P : s_P} {d : Nat} {Q : s_O → Prop} {h : s_H} {kc ks : Nat} {r0 : Term} {x1 x2 x3 : Int} {t4 : Term} {q2 : Nat} {f3 : List Term} (g4 : s_get h q2 = some (1, 11, f3)) (k : wm P d 481 [.index q2, vi x1, vi 3] h (wq P d sw_c537 sw_h537 6 [.index q2, vi x1, vi x2, vi x3, t4] [] kc ks Q)) (e_q2 : r0 = .index q2 := by first | rfl | assumption) (y1 : s_ty r0 = 3 := by first | rfl | assumption)  : wr P d sw_c537 sw_h537 (0, [r0, vi x1, vi x2, vi x3, t4], [], h, kc, ks) Q := by
  refine w_ld rfl rfl (Or.inr (Or.inr ⟨by decide, y1⟩)) ?_
  refine w_ld rfl rfl (Or.inl ⟨by decide, rfl⟩) ?_
  refine w_c32 rfl (by decide) 3 (by decide) ?_
  subst e_q2
  exact w_cv rfl [.index q2, vi x1, vi 3] [] rfl rfl (s_wt_4 rfl) rfl g4 k

theorem k537_6 {P : s_P} {d : Nat} {Q : s_O → Prop} {h : s_H} {kc ks : Nat} {r0 : Term} {x1 x2 x3 : Int} {t4 : Term} {s0 : Int}  (k1 : s0 ≠ 0 → wr P d sw_c537 sw_h537 (11, [r0, vi x1, vi x2, vi x3, t4], [], h, kc, ks) Q) (k2 : ¬ s0 ≠ 0 → wr P d sw_c537 sw_h537 (9, [r0, vi x1, vi x2, vi x3, t4], [], h, kc, ks) Q)  (c1 : In3 s0 := by first | omega | assumption | (simp only [mk_len, List.length_map]; omega) | decide) : wr P d sw_c537 sw_h537 (6, [r0, vi x1, vi x2, vi x3, t4], [vi s0], h, kc, ks) Q := by
  exact w_if1 rfl c1 k1 k2

theorem k537_9 {P : s_P} {d : Nat} {Q : s_O → Prop} {h : s_H} {kc ks : Nat} {r0 : Term} {x1 x2 x3 : Int} {t4 : Term}  (k : Q (.inl (some (vi 0)), h, kc, ks))   : wr P d sw_c537 sw_h537 (9, [r0, vi x1, vi x2, vi x3, t4], [], h, kc, ks) Q := by
  refine w_c32 rfl (by decide) 0 (by decide) ?_
  exact w_iret rfl k

theorem k537_11 {P : s_P} {d : Nat} {Q : s_O → Prop} {h : s_H} {kc ks : Nat} {r0 : Term} {x1 x2 x3 : Int} {t4 : Term} {q3 : Nat} {f4 : List Term} {v6 : Term} {q8 : Nat} {a9 : List Int} (g5 : s_get h q3 = some (1, 11, f4)) (g10 : s_get h q8 = some (0, 0, a9.map vi)) (k : wm P d 464 [vl x2, vl 0, vl ((gi a9 x1) - 1)] h (wq P d sw_c537 sw_h537 27 [.index q3, vi x1, vi x2, vi x3, t4] [.index q3] kc ks Q)) (e_q3 : r0 = .index q3 := by first | rfl | assumption) (e_q8 : v6 = .index q8 := by first | rfl | assumption) (y1 : s_ty r0 = 3 := by first | rfl | assumption) (n7 : s_nth f4 79 = some v6 := by first | rfl | assumption) (c2 : In3 x2 := by first | omega | assumption | (simp only [mk_len, List.length_map]; omega) | decide) (c11 : x1 < a9.length := by first | omega | assumption | (simp only [mk_len, List.length_map]; omega) | decide) (c12 : 0 ≤ x1 := by first | omega | assumption | (simp only [mk_len, List.length_map]; omega) | decide) (c13 : In3 x1 := by first | omega | assumption | (simp only [mk_len, List.length_map]; omega) | decide) (c14 : In3 ((gi a9 x1) - 1) := by first | omega | assumption | (simp only [mk_len, List.length_map]; omega) | decide) : wr P d sw_c537 sw_h537 (11, [r0, vi x1, vi x2, vi x3, t4], [], h, kc, ks) Q := by
  refine w_ld rfl rfl (Or.inr (Or.inr ⟨by decide, y1⟩)) ?_
  refine w_ld rfl rfl (Or.inl ⟨by decide, rfl⟩) ?_
  refine w_i2l rfl c2 ?_
  refine w_c64 rfl (by decide) 0 (by decide) ?_
  refine w_ld rfl rfl (Or.inr (Or.inr ⟨by decide, y1⟩)) ?_
  subst e_q3
  refine w_getf rfl g5 n7 ?_
  refine w_ld rfl rfl (Or.inl ⟨by decide, rfl⟩) ?_
  subst e_q8
  refine w_iald rfl g10 (Or.inl rfl) c13 c12 c11 ?_
  refine w_c32 rfl (by decide) 1 (by decide) ?_
  refine w_isub rfl ?_
  refine w_i2l rfl c14 ?_
  exact w_cs rfl [vl x2, vl 0, vl ((gi a9 x1) - 1)] [.index q3] rfl rfl (s_wt_4 rfl) k

theorem k537_27 {P : s_P} {d : Nat} {Q : s_O → Prop} {h : s_H} {kc ks : Nat} {r0 : Term} {x1 x2 x3 : Int} {t4 s0 : Term} {s1 : Int}  (k1 : s1 ≠ 0 → wr P d sw_c537 sw_h537 (34, [r0, vi x1, vi x2, vi x3, t4], [s0], h, kc, ks) Q) (k2 : ¬ s1 ≠ 0 → wr P d sw_c537 sw_h537 (30, [r0, vi x1, vi x2, vi x3, t4], [s0], h, kc, ks) Q)  (c1 : In3 s1 := by first | omega | assumption | (simp only [mk_len, List.length_map]; omega) | decide) : wr P d sw_c537 sw_h537 (27, [r0, vi x1, vi x2, vi x3, t4], [vi s1, s0], h, kc, ks) Q := by
  exact w_if1 rfl c1 k1 k2

theorem k537_30 {P : s_P} {d : Nat} {Q : s_O → Prop} {h : s_H} {kc ks : Nat} {r0 : Term} {x1 x2 x3 : Int} {t4 s0 : Term}  (k : wr P d sw_c537 sw_h537 (51, [r0, vi x1, vi x2, vi x3, t4], [vi 1, s0], h, kc, ks) Q)   : wr P d sw_c537 sw_h537 (30, [r0, vi x1, vi x2, vi x3, t4], [s0], h, kc, ks) Q := by
  refine w_c32 rfl (by decide) 1 (by decide) ?_
  refine w_goto rfl ?_
  exact k

theorem k537_34 {P : s_P} {d : Nat} {Q : s_O → Prop} {h : s_H} {kc ks : Nat} {r0 : Term} {x1 x2 x3 : Int} {t4 s0 : Term}  (k : wm P d 464 [vl x3, vl 0, vl 3] h (wq P d sw_c537 sw_h537 43 [r0, vi x1, vi x2, vi x3, t4] [s0] kc ks Q))  (c1 : In3 x3 := by first | omega | assumption | (simp only [mk_len, List.length_map]; omega) | decide) : wr P d sw_c537 sw_h537 (34, [r0, vi x1, vi x2, vi x3, t4], [s0], h, kc, ks) Q := by
  refine w_ld rfl rfl (Or.inl ⟨by decide, rfl⟩) ?_
  refine w_i2l rfl c1 ?_
  refine w_c64 rfl (by decide) 0 (by decide) ?_
  refine w_c64 rfl (by decide) 3 (by decide) ?_
  exact w_cs rfl [vl x3, vl 0, vl 3] [s0] rfl rfl (s_wt_4 rfl) k

theorem k537_43 {P : s_P} {d : Nat} {Q : s_O → Prop} {h : s_H} {kc ks : Nat} {r0 : Term} {x1 x2 x3 : Int} {t4 s0 : Term} {s1 : Int}  (k1 : s1 ≠ 0 → wr P d sw_c537 sw_h537 (50, [r0, vi x1, vi x2, vi x3, t4], [s0], h, kc, ks) Q) (k2 : ¬ s1 ≠ 0 → wr P d sw_c537 sw_h537 (46, [r0, vi x1, vi x2, vi x3, t4], [s0], h, kc, ks) Q)  (c1 : In3 s1 := by first | omega | assumption | (simp only [mk_len, List.length_map]; omega) | decide) : wr P d sw_c537 sw_h537 (43, [r0, vi x1, vi x2, vi x3, t4], [vi s1, s0], h, kc, ks) Q := by
  exact w_if1 rfl c1 k1 k2

theorem k537_46 {P : s_P} {d : Nat} {Q : s_O → Prop} {h : s_H} {kc ks : Nat} {r0 : Term} {x1 x2 x3 : Int} {t4 s0 : Term}  (k : wr P d sw_c537 sw_h537 (51, [r0, vi x1, vi x2, vi x3, t4], [vi 2, s0], h, kc, ks) Q)   : wr P d sw_c537 sw_h537 (46, [r0, vi x1, vi x2, vi x3, t4], [s0], h, kc, ks) Q := by
  refine w_c32 rfl (by decide) 2 (by decide) ?_
  refine w_goto rfl ?_
  exact k

theorem k537_50 {P : s_P} {d : Nat} {Q : s_O → Prop} {h : s_H} {kc ks : Nat} {r0 : Term} {x1 x2 x3 : Int} {t4 s0 : Term}  (k : wr P d sw_c537 sw_h537 (51, [r0, vi x1, vi x2, vi x3, t4], [vi 0, s0], h, kc, ks) Q)   : wr P d sw_c537 sw_h537 (50, [r0, vi x1, vi x2, vi x3, t4], [s0], h, kc, ks) Q := by
  refine w_c32 rfl (by decide) 0 (by decide) ?_
  exact k

theorem k537_51 {P : s_P} {d : Nat} {Q : s_O → Prop} {h : s_H} {kc ks : Nat} {r0 : Term} {x1 x2 x3 : Int} {t4 s0 : Term} {s1 : Int} {q1 : Nat} {f2 : List Term} {q7 : Nat} {f8 : List Term} {z10 : Int} (g3 : s_get h q1 = some (1, 11, f2)) (g9 : s_get (hp h q1 (1, 11, f2.set 0 (vi s1))) q7 = some (1, 11, f8)) (k1 : z10 ≤ 0 → wr P d sw_c537 sw_h537 (63, [.index q7, vi x1, vi x2, vi x3, t4], [], (hp h q1 (1, 11, f2.set 0 (vi s1))), kc, ks) Q) (k2 : ¬ z10 ≤ 0 → wr P d sw_c537 sw_h537 (61, [.index q7, vi x1, vi x2, vi x3, t4], [], (hp h q1 (1, 11, f2.set 0 (vi s1))), kc, ks) Q) (e_q1 : s0 = .index q1 := by first | rfl | assumption) (e_q7 : r0 = .index q7 := by first | rfl | assumption) (l4 : 0 < f2.length := by first | exact Nat.le_of_ble_eq_true rfl | omega | assumption) (y6 : s_ty r0 = 3 := by first | rfl | assumption) (n11 : s_nth f8 0 = some (vi z10) := by first | rfl | assumption) (c5 : 0 < q1 := by first | omega | assumption | (simp only [mk_len, List.length_map]; omega) | decide) (c12 : In3 z10 := by first | omega | assumption | (simp only [mk_len, List.length_map]; omega) | decide) : wr P d sw_c537 sw_h537 (51, [r0, vi x1, vi x2, vi x3, t4], [vi s1, s0], h, kc, ks) Q := by
  subst e_q1
  refine w_putf rfl g3 (Nat.ble_eq_true_of_le c5) rfl (Nat.ble_eq_true_of_le l4) ?_
  refine w_ld rfl rfl (Or.inr (Or.inr ⟨by decide, y6⟩)) ?_
  subst e_q7
  refine w_getf rfl g9 n11 ?_
  exact w_if1 rfl c12 k1 k2

theorem k537_61 {P : s_P} {d : Nat} {Q : s_O → Prop} {h : s_H} {kc ks : Nat} {r0 : Term} {x1 x2 x3 : Int} {t4 : Term}  (k : Q (.inl (some (vi 0)), h, kc, ks))   : wr P d sw_c537 sw_h537 (61, [r0, vi x1, vi x2, vi x3, t4], [], h, kc, ks) Q := by
  refine w_c32 rfl (by decide) 0 (by decide) ?_
  exact w_iret rfl k

theorem k537_63 {P : s_P} {d : Nat} {Q : s_O → Prop} {h : s_H} {kc ks : Nat} {r0 : Term} {x1 x2 x3 : Int} {t4 : Term} {q2 : Nat} {f3 : List Term} (g4 : s_get h q2 = some (1, 11, f3)) (k : wm P d 512 [.index q2, vi x1] h (wq P d sw_c537 sw_h537 68 [.index q2, vi x1, vi x2, vi x3, t4] [] kc ks Q)) (e_q2 : r0 = .index q2 := by first | rfl | assumption) (y1 : s_ty r0 = 3 := by first | rfl | assumption)  : wr P d sw_c537 sw_h537 (63, [r0, vi x1, vi x2, vi x3, t4], [], h, kc, ks) Q := by
  refine w_ld rfl rfl (Or.inr (Or.inr ⟨by decide, y1⟩)) ?_
  refine w_ld rfl rfl (Or.inl ⟨by decide, rfl⟩) ?_
  subst e_q2
  exact w_cv rfl [.index q2, vi x1] [] rfl rfl (s_wt_4 rfl) rfl g4 k

theorem k537_68 {P : s_P} {d : Nat} {Q : s_O → Prop} {h : s_H} {kc ks : Nat} {r0 : Term} {x1 x2 x3 : Int} {t4 : Term} {q2 : Nat} {f3 : List Term} {v5 : Term} {q7 : Nat} {a8 : List Int} (g4 : s_get h q2 = some (1, 11, f3)) (g9 : s_get h q7 = some (0, 0, a8.map vi)) (k : wm P d 547 [vi (gi a8 x2)] h (wq P d sw_c537 sw_h537 77 [.index q2, vi x1, vi x2, vi x3, t4] [] kc ks Q)) (e_q2 : r0 = .index q2 := by first | rfl | assumption) (e_q7 : v5 = .index q7 := by first | rfl | assumption) (y1 : s_ty r0 = 3 := by first | rfl | assumption) (n6 : s_nth f3 83 = some v5 := by first | rfl | assumption) (c10 : x2 < a8.length := by first | omega | assumption | (simp only [mk_len, List.length_map]; omega) | decide) (c11 : 0 ≤ x2 := by first | omega | assumption | (simp only [mk_len, List.length_map]; omega) | decide) (c12 : In3 x2 := by first | omega | assumption | (simp only [mk_len, List.length_map]; omega) | decide) : wr P d sw_c537 sw_h537 (68, [r0, vi x1, vi x2, vi x3, t4], [], h, kc, ks) Q := by
  refine w_ld rfl rfl (Or.inr (Or.inr ⟨by decide, y1⟩)) ?_
  subst e_q2
  refine w_getf rfl g4 n6 ?_
  refine w_ld rfl rfl (Or.inl ⟨by decide, rfl⟩) ?_
  subst e_q7
  refine w_iald rfl g9 (Or.inl rfl) c12 c11 c10 ?_
  exact w_cs rfl [vi (gi a8 x2)] [] rfl rfl (s_wt_4 rfl) k

theorem k537_77 {P : s_P} {d : Nat} {Q : s_O → Prop} {h : s_H} {kc ks : Nat} {r0 : Term} {x1 x2 x3 : Int} {t4 : Term} {s0 : Int}  (k1 : x3 ≠ 0 → wr P d sw_c537 sw_h537 (90, [r0, vi x1, vi x2, vi x3, vi s0], [], h, kc, ks) Q) (k2 : ¬ x3 ≠ 0 → wr P d sw_c537 sw_h537 (83, [r0, vi x1, vi x2, vi x3, vi s0], [], h, kc, ks) Q)  (c1 : In3 x3 := by first | omega | assumption | (simp only [mk_len, List.length_map]; omega) | decide) : wr P d sw_c537 sw_h537 (77, [r0, vi x1, vi x2, vi x3, t4], [vi s0], h, kc, ks) Q := by
  refine w_st (ls' := [r0, vi x1, vi x2, vi x3, vi s0]) rfl (Or.inl ⟨by decide, rfl⟩) rfl ?_
  refine w_ld rfl rfl (Or.inl ⟨by decide, rfl⟩) ?_
  exact w_if1 rfl c1 k1 k2

theorem k537_83 {P : s_P} {d : Nat} {Q : s_O → Prop} {h : s_H} {kc ks : Nat} {r0 : Term} {x1 x2 x3 x4 : Int} {q2 : Nat} {f3 : List Term} {v5 : Term} {q7 : Nat} {a8 : List Int} (g4 : s_get h q2 = some (1, 11, f3)) (g9 : s_get h q7 = some (0, 0, a8.map vi)) (k : Q (.inl (some (vi (gi a8 x2))), h, kc, ks)) (e_q2 : r0 = .index q2 := by first | rfl | assumption) (e_q7 : v5 = .index q7 := by first | rfl | assumption) (y1 : s_ty r0 = 3 := by first | rfl | assumption) (n6 : s_nth f3 83 = some v5 := by first | rfl | assumption) (c10 : x2 < a8.length := by first | omega | assumption | (simp only [mk_len, List.length_map]; omega) | decide) (c11 : 0 ≤ x2 := by first | omega | assumption | (simp only [mk_len, List.length_map]; omega) | decide) (c12 : In3 x2 := by first | omega | assumption | (simp only [mk_len, List.length_map]; omega) | decide) : wr P d sw_c537 sw_h537 (83, [r0, vi x1, vi x2, vi x3, vi x4], [], h, kc, ks) Q := by
  refine w_ld rfl rfl (Or.inr (Or.inr ⟨by decide, y1⟩)) ?_
  subst e_q2
  refine w_getf rfl g4 n6 ?_
  refine w_ld rfl rfl (Or.inl ⟨by decide, rfl⟩) ?_
  subst e_q7
  refine w_iald rfl g9 (Or.inl rfl) c12 c11 c10 ?_
  exact w_iret rfl k

theorem k537_90 {P : s_P} {d : Nat} {Q : s_O → Prop} {h : s_H} {kc ks : Nat} {r0 : Term} {x1 x2 x3 x4 : Int}  (k1 : x3 ≠ 1 → wr P d sw_c537 sw_h537 (102, [r0, vi x1, vi x2, vi x3, vi x4], [], h, kc, ks) Q) (k2 : ¬ x3 ≠ 1 → wr P d sw_c537 sw_h537 (95, [r0, vi x1, vi x2, vi x3, vi x4], [], h, kc, ks) Q)  (c1 : In3 x3 := by first | omega | assumption | (simp only [mk_len, List.length_map]; omega) | decide) : wr P d sw_c537 sw_h537 (90, [r0, vi x1, vi x2, vi x3, vi x4], [], h, kc, ks) Q := by
  refine w_ld rfl rfl (Or.inl ⟨by decide, rfl⟩) ?_
  refine w_c32 rfl (by decide) 1 (by decide) ?_
  exact w_if2 rfl c1 (by decide) k1 k2

theorem k537_95 {P : s_P} {d : Nat} {Q : s_O → Prop} {h : s_H} {kc ks : Nat} {r0 : Term} {x1 x2 x3 x4 : Int} {q2 : Nat} {f3 : List Term} {v5 : Term} {q7 : Nat} {a8 : List Int} (g4 : s_get h q2 = some (1, 11, f3)) (g9 : s_get h q7 = some (0, 0, a8.map vi)) (k : Q (.inl (some (vi (gi a8 x2))), h, kc, ks)) (e_q2 : r0 = .index q2 := by first | rfl | assumption) (e_q7 : v5 = .index q7 := by first | rfl | assumption) (y1 : s_ty r0 = 3 := by first | rfl | assumption) (n6 : s_nth f3 84 = some v5 := by first | rfl | assumption) (c10 : x2 < a8.length := by first | omega | assumption | (simp only [mk_len, List.length_map]; omega) | decide) (c11 : 0 ≤ x2 := by first | omega | assumption | (simp only [mk_len, List.length_map]; omega) | decide) (c12 : In3 x2 := by first | omega | assumption | (simp only [mk_len, List.length_map]; omega) | decide) : wr P d sw_c537 sw_h537 (95, [r0, vi x1, vi x2, vi x3, vi x4], [], h, kc, ks) Q := by
  refine w_ld rfl rfl (Or.inr (Or.inr ⟨by decide, y1⟩)) ?_
  subst e_q2
  refine w_getf rfl g4 n6 ?_
  refine w_ld rfl rfl (Or.inl ⟨by decide, rfl⟩) ?_
  subst e_q7
  refine w_iald rfl g9 (Or.inl rfl) c12 c11 c10 ?_
  exact w_iret rfl k

theorem k537_102 {P : s_P} {d : Nat} {Q : s_O → Prop} {h : s_H} {kc ks : Nat} {r0 : Term} {x1 x2 x3 x4 : Int}  (k1 : x3 ≠ 2 → wr P d sw_c537 sw_h537 (122, [r0, vi x1, vi x2, vi x3, vi x4], [], h, kc, ks) Q) (k2 : ¬ x3 ≠ 2 → wr P d sw_c537 sw_h537 (107, [r0, vi x1, vi x2, vi x3, vi x4], [], h, kc, ks) Q)  (c1 : In3 x3 := by first | omega | assumption | (simp only [mk_len, List.length_map]; omega) | decide) : wr P d sw_c537 sw_h537 (102, [r0, vi x1, vi x2, vi x3, vi x4], [], h, kc, ks) Q := by
  refine w_ld rfl rfl (Or.inl ⟨by decide, rfl⟩) ?_
  refine w_c32 rfl (by decide) 2 (by decide) ?_
  exact w_if2 rfl c1 (by decide) k1 k2

theorem k537_107 {P : s_P} {d : Nat} {Q : s_O → Prop} {h : s_H} {kc ks : Nat} {r0 : Term} {x1 x2 x3 x4 : Int}  (k1 : x4 ≤ 0 → wr P d sw_c537 sw_h537 (118, [r0, vi x1, vi x2, vi x3, vi x4], [], h, kc, ks) Q) (k2 : ¬ x4 ≤ 0 → wr P d sw_c537 sw_h537 (112, [r0, vi x1, vi x2, vi x3, vi x4], [], h, kc, ks) Q)  (c1 : In3 x4 := by first | omega | assumption | (simp only [mk_len, List.length_map]; omega) | decide) : wr P d sw_c537 sw_h537 (107, [r0, vi x1, vi x2, vi x3, vi x4], [], h, kc, ks) Q := by
  refine w_ld rfl rfl (Or.inl ⟨by decide, rfl⟩) ?_
  exact w_if1 rfl c1 k1 k2

theorem k537_112 {P : s_P} {d : Nat} {Q : s_O → Prop} {h : s_H} {kc ks : Nat} {r0 : Term} {x1 x2 x3 x4 : Int}  (k : wr P d sw_c537 sw_h537 (139, [r0, vi x1, vi x2, vi x3, vi x4], [vi (x2 + 1)], h, kc, ks) Q)   : wr P d sw_c537 sw_h537 (112, [r0, vi x1, vi x2, vi x3, vi x4], [], h, kc, ks) Q := by
  refine w_ld rfl rfl (Or.inl ⟨by decide, rfl⟩) ?_
  refine w_c32 rfl (by decide) 1 (by decide) ?_
  refine w_iadd rfl ?_
  refine w_goto rfl ?_
  exact k

theorem k537_118 {P : s_P} {d : Nat} {Q : s_O → Prop} {h : s_H} {kc ks : Nat} {r0 : Term} {x1 x2 x3 x4 : Int}  (k : wr P d sw_c537 sw_h537 (139, [r0, vi x1, vi x2, vi x3, vi x4], [vi (-1)], h, kc, ks) Q)   : wr P d sw_c537 sw_h537 (118, [r0, vi x1, vi x2, vi x3, vi x4], [], h, kc, ks) Q := by
  refine w_c32 rfl (by decide) (-1) (by decide) ?_
  refine w_goto rfl ?_
  exact k

theorem k537_122 {P : s_P} {d : Nat} {Q : s_O → Prop} {h : s_H} {kc ks : Nat} {r0 : Term} {x1 x2 x3 x4 : Int}  (k1 : x4 ≤ 1 → wr P d sw_c537 sw_h537 (138, [r0, vi x1, vi x2, vi x3, vi x4], [], h, kc, ks) Q) (k2 : ¬ x4 ≤ 1 → wr P d sw_c537 sw_h537 (128, [r0, vi x1, vi x2, vi x3, vi x4], [], h, kc, ks) Q)  (c1 : In3 x4 := by first | omega | assumption | (simp only [mk_len, List.length_map]; omega) | decide) : wr P d sw_c537 sw_h537 (122, [r0, vi x1, vi x2, vi x3, vi x4], [], h, kc, ks) Q := by
  refine w_ld rfl rfl (Or.inl ⟨by decide, rfl⟩) ?_
  refine w_c32 rfl (by decide) 1 (by decide) ?_
  exact w_if2 rfl c1 (by decide) k1 k2

theorem k537_128 {P : s_P} {d : Nat} {Q : s_O → Prop} {h : s_H} {kc ks : Nat} {r0 : Term} {x1 x2 x3 x4 : Int} {q2 : Nat} {f3 : List Term} (g4 : s_get h q2 = some (1, 11, f3)) (k : wm P d 407 [.index q2, vi (x2 + 1)] h (wq P d sw_c537 sw_h537 135 [.index q2, vi x1, vi x2, vi x3, vi x4] [] kc ks Q)) (e_q2 : r0 = .index q2 := by first | rfl | assumption) (y1 : s_ty r0 = 3 := by first | rfl | assumption)  : wr P d sw_c537 sw_h537 (128, [r0, vi x1, vi x2, vi x3, vi x4], [], h, kc, ks) Q := by
  refine w_ld rfl rfl (Or.inr (Or.inr ⟨by decide, y1⟩)) ?_
  refine w_ld rfl rfl (Or.inl ⟨by decide, rfl⟩) ?_
  refine w_c32 rfl (by decide) 1 (by decide) ?_
  refine w_iadd rfl ?_
  subst e_q2
  exact w_cv rfl [.index q2, vi (x2 + 1)] [] rfl rfl (s_wt_4 rfl) rfl g4 k

theorem k537_135 {P : s_P} {d : Nat} {Q : s_O → Prop} {h : s_H} {kc ks : Nat} {r0 : Term} {x1 x2 x3 x4 s0 : Int}  (k : wr P d sw_c537 sw_h537 (139, [r0, vi x1, vi x2, vi x3, vi x4], [vi s0], h, kc, ks) Q)   : wr P d sw_c537 sw_h537 (135, [r0, vi x1, vi x2, vi x3, vi x4], [vi s0], h, kc, ks) Q := by
  refine w_goto rfl ?_
  exact k

theorem k537_138 {P : s_P} {d : Nat} {Q : s_O → Prop} {h : s_H} {kc ks : Nat} {r0 : Term} {x1 x2 x3 x4 : Int}  (k : wr P d sw_c537 sw_h537 (139, [r0, vi x1, vi x2, vi x3, vi x4], [vi (-1)], h, kc, ks) Q)   : wr P d sw_c537 sw_h537 (138, [r0, vi x1, vi x2, vi x3, vi x4], [], h, kc, ks) Q := by
  refine w_c32 rfl (by decide) (-1) (by decide) ?_
  exact k

theorem k537_139 {P : s_P} {d : Nat} {Q : s_O → Prop} {h : s_H} {kc ks : Nat} {r0 : Term} {x1 x2 x3 x4 s0 : Int}  (k : Q (.inl (some (vi s0)), h, kc, ks))   : wr P d sw_c537 sw_h537 (139, [r0, vi x1, vi x2, vi x3, vi x4], [vi s0], h, kc, ks) Q := by
  exact w_iret rfl k

/-! 538: FormulaWorksModel.nodes(I)I -/
theorem k538_0 {P : s_P} {d : Nat} {Q : s_O → Prop} {h : s_H} {kc ks : Nat} {r0 : Term} {x1 : Int} {q2 : Nat} {f3 : List Term} (g4 : s_get h q2 = some (1, 11, f3)) (k : wm P d 481 [.index q2, vi x1, vi 3] h (wq P d sw_c538 sw_h538 6 [.index q2, vi x1] [] kc ks Q)) (e_q2 : r0 = .index q2 := by first | rfl | assumption) (y1 : s_ty r0 = 3 := by first | rfl | assumption)  : wr P d sw_c538 sw_h538 (0, [r0, vi x1], [], h, kc, ks) Q := by
  refine w_ld rfl rfl (Or.inr (Or.inr ⟨by decide, y1⟩)) ?_
  refine w_ld rfl rfl (Or.inl ⟨by decide, rfl⟩) ?_
  refine w_c32 rfl (by decide) 3 (by decide) ?_
  subst e_q2
  exact w_cv rfl [.index q2, vi x1, vi 3] [] rfl rfl (s_wt_4 rfl) rfl g4 k

theorem k538_6 {P : s_P} {d : Nat} {Q : s_O → Prop} {h : s_H} {kc ks : Nat} {r0 : Term} {x1 s0 : Int}  (k1 : s0 = 0 → wr P d sw_c538 sw_h538 (18, [r0, vi x1], [], h, kc, ks) Q) (k2 : ¬ s0 = 0 → wr P d sw_c538 sw_h538 (9, [r0, vi x1], [], h, kc, ks) Q)  (c1 : In3 s0 := by first | omega | assumption | (simp only [mk_len, List.length_map]; omega) | decide) : wr P d sw_c538 sw_h538 (6, [r0, vi x1], [vi s0], h, kc, ks) Q := by
  exact w_if1 rfl c1 k1 k2

theorem k538_9 {P : s_P} {d : Nat} {Q : s_O → Prop} {h : s_H} {kc ks : Nat} {r0 : Term} {x1 : Int} {q2 : Nat} {f3 : List Term} {v5 : Term} {q7 : Nat} {a8 : List Int} (g4 : s_get h q2 = some (1, 11, f3)) (g9 : s_get h q7 = some (0, 0, a8.map vi)) (k : wr P d sw_c538 sw_h538 (19, [.index q2, vi x1], [vi (gi a8 x1)], h, kc, ks) Q) (e_q2 : r0 = .index q2 := by first | rfl | assumption) (e_q7 : v5 = .index q7 := by first | rfl | assumption) (y1 : s_ty r0 = 3 := by first | rfl | assumption) (n6 : s_nth f3 79 = some v5 := by first | rfl | assumption) (c10 : x1 < a8.length := by first | omega | assumption | (simp only [mk_len, List.length_map]; omega) | decide) (c11 : 0 ≤ x1 := by first | omega | assumption | (simp only [mk_len, List.length_map]; omega) | decide) (c12 : In3 x1 := by first | omega | assumption | (simp only [mk_len, List.length_map]; omega) | decide) : wr P d sw_c538 sw_h538 (9, [r0, vi x1], [], h, kc, ks) Q := by
  refine w_ld rfl rfl (Or.inr (Or.inr ⟨by decide, y1⟩)) ?_
  subst e_q2
  refine w_getf rfl g4 n6 ?_
  refine w_ld rfl rfl (Or.inl ⟨by decide, rfl⟩) ?_
  subst e_q7
  refine w_iald rfl g9 (Or.inl rfl) c12 c11 c10 ?_
  refine w_goto rfl ?_
  exact k

theorem k538_18 {P : s_P} {d : Nat} {Q : s_O → Prop} {h : s_H} {kc ks : Nat} {r0 : Term} {x1 : Int}  (k : wr P d sw_c538 sw_h538 (19, [r0, vi x1], [vi 0], h, kc, ks) Q)   : wr P d sw_c538 sw_h538 (18, [r0, vi x1], [], h, kc, ks) Q := by
  refine w_c32 rfl (by decide) 0 (by decide) ?_
  exact k

theorem k538_19 {P : s_P} {d : Nat} {Q : s_O → Prop} {h : s_H} {kc ks : Nat} {r0 : Term} {x1 s0 : Int}  (k : Q (.inl (some (vi s0)), h, kc, ks))   : wr P d sw_c538 sw_h538 (19, [r0, vi x1], [vi s0], h, kc, ks) Q := by
  exact w_iret rfl k

/-! 539: FormulaWorksModel.number(J)I -/
theorem k539_0 {P : s_P} {d : Nat} {Q : s_O → Prop} {h : s_H} {kc ks : Nat} {r0 : Term} {x1 : Int} {t2 : Term} {q2 : Nat} {f3 : List Term} {v5 : Term} (g4 : s_get h q2 = some (1, 11, f3)) (k : wm P d 405 [v5, vl x1] h (wq P d sw_c539 sw_h539 8 [.index q2, vl x1, t2] [] kc ks Q)) (e_q2 : r0 = .index q2 := by first | rfl | assumption) (y1 : s_ty r0 = 3 := by first | rfl | assumption) (n6 : s_nth f3 14 = some v5 := by first | rfl | assumption)  : wr P d sw_c539 sw_h539 (0, [r0, vl x1, t2], [], h, kc, ks) Q := by
  refine w_ld rfl rfl (Or.inr (Or.inr ⟨by decide, y1⟩)) ?_
  subst e_q2
  refine w_getf rfl g4 n6 ?_
  refine w_ld rfl rfl (Or.inr (Or.inl ⟨by decide, rfl⟩)) ?_
  exact w_cs rfl [v5, vl x1] [] rfl rfl (s_wt_4 rfl) k

theorem k539_8 {P : s_P} {d : Nat} {Q : s_O → Prop} {h : s_H} {kc ks : Nat} {r0 : Term} {x1 : Int} {t2 : Term} {q2 : Nat} {f3 : List Term} {v5 : Term} (g4 : s_get h q2 = some (1, 11, f3)) (k : wm P d 405 [v5, vl 1] h (wq P d sw_c539 sw_h539 16 [.index q2, vl x1, t2] [] kc ks Q)) (e_q2 : r0 = .index q2 := by first | rfl | assumption) (y1 : s_ty r0 = 3 := by first | rfl | assumption) (n6 : s_nth f3 15 = some v5 := by first | rfl | assumption)  : wr P d sw_c539 sw_h539 (8, [r0, vl x1, t2], [], h, kc, ks) Q := by
  refine w_ld rfl rfl (Or.inr (Or.inr ⟨by decide, y1⟩)) ?_
  subst e_q2
  refine w_getf rfl g4 n6 ?_
  refine w_c64 rfl (by decide) 1 (by decide) ?_
  exact w_cs rfl [v5, vl 1] [] rfl rfl (s_wt_4 rfl) k

theorem k539_16 {P : s_P} {d : Nat} {Q : s_O → Prop} {h : s_H} {kc ks : Nat} {r0 : Term} {x1 : Int} {t2 : Term} {q2 : Nat} {f3 : List Term} (g4 : s_get h q2 = some (1, 11, f3)) (k : wm P d 495 [.index q2, vi 1] h (wq P d sw_c539 sw_h539 21 [.index q2, vl x1, t2] [] kc ks Q)) (e_q2 : r0 = .index q2 := by first | rfl | assumption) (y1 : s_ty r0 = 3 := by first | rfl | assumption)  : wr P d sw_c539 sw_h539 (16, [r0, vl x1, t2], [], h, kc, ks) Q := by
  refine w_ld rfl rfl (Or.inr (Or.inr ⟨by decide, y1⟩)) ?_
  refine w_c32 rfl (by decide) 1 (by decide) ?_
  subst e_q2
  exact w_cv rfl [.index q2, vi 1] [] rfl rfl (s_wt_4 rfl) rfl g4 k

theorem k539_21 {P : s_P} {d : Nat} {Q : s_O → Prop} {h : s_H} {kc ks : Nat} {r0 : Term} {x1 : Int} {t2 : Term} {s0 : Int}  (k : Q (.inl (some (vi s0)), h, kc, ks))   : wr P d sw_c539 sw_h539 (21, [r0, vl x1, t2], [vi s0], h, kc, ks) Q := by
  exact w_iret rfl k

/-! 540: FormulaWorksModel.numberAt(II)I -/
theorem k540_0 {P : s_P} {d : Nat} {Q : s_O → Prop} {h : s_H} {kc ks : Nat} {r0 : Term} {x1 x2 : Int} {t3 t4 : Term}  (k : wr P d sw_c540 sw_h540 (5, [r0, vi x1, vi x2, vi 0, vi 0], [], h, kc, ks) Q)   : wr P d sw_c540 sw_h540 (0, [r0, vi x1, vi x2, t3, t4], [], h, kc, ks) Q := by
  refine w_c32 rfl (by decide) 0 (by decide) ?_
  refine w_st (ls' := [r0, vi x1, vi x2, vi 0, t4]) rfl (Or.inl ⟨by decide, rfl⟩) rfl ?_
  refine w_c32 rfl (by decide) 0 (by decide) ?_
  refine w_st (ls' := [r0, vi x1, vi x2, vi 0, vi 0]) rfl (Or.inl ⟨by decide, rfl⟩) rfl ?_
  exact k

theorem k540_5 {P : s_P} {d : Nat} {Q : s_O → Prop} {h : s_H} {kc ks : Nat} {r0 : Term} {x1 x2 x3 x4 : Int}  (k1 : x2 ≤ x4 → wr P d sw_c540 sw_h540 (35, [r0, vi x1, vi x2, vi x3, vi x4], [], h, kc, ks) Q) (k2 : ¬ x2 ≤ x4 → wr P d sw_c540 sw_h540 (11, [r0, vi x1, vi x2, vi x3, vi x4], [], h, kc, ks) Q)  (c1 : In3 x4 := by first | omega | assumption | (simp only [mk_len, List.length_map]; omega) | decide) (c2 : In3 x2 := by first | omega | assumption | (simp only [mk_len, List.length_map]; omega) | decide) : wr P d sw_c540 sw_h540 (5, [r0, vi x1, vi x2, vi x3, vi x4], [], h, kc, ks) Q := by
  refine w_ld rfl rfl (Or.inl ⟨by decide, rfl⟩) ?_
  refine w_ld rfl rfl (Or.inl ⟨by decide, rfl⟩) ?_
  exact w_if2 rfl c1 c2 k1 k2

theorem k540_11 {P : s_P} {d : Nat} {Q : s_O → Prop} {h : s_H} {kc ks : Nat} {r0 : Term} {x1 x2 x3 x4 : Int} {q2 : Nat} {f3 : List Term} {v5 : Term} {q7 : Nat} {a8 : List Int} (g4 : s_get h q2 = some (1, 11, f3)) (g9 : s_get h q7 = some (0, 0, a8.map vi)) (k : wr P d sw_c540 sw_h540 (5, [.index q2, vi x1, vi x2, vi (((10 * x3) + (gi a8 (x1 + x4))) - 48), vi (x4 + 1)], [], h, kc, ks) Q) (e_q2 : r0 = .index q2 := by first | rfl | assumption) (e_q7 : v5 = .index q7 := by first | rfl | assumption) (y1 : s_ty r0 = 3 := by first | rfl | assumption) (n6 : s_nth f3 53 = some v5 := by first | rfl | assumption) (c10 : x1 + x4 < a8.length := by first | omega | assumption | (simp only [mk_len, List.length_map]; omega) | decide) (c11 : 0 ≤ x1 + x4 := by first | omega | assumption | (simp only [mk_len, List.length_map]; omega) | decide) (c12 : In3 (x1 + x4) := by first | omega | assumption | (simp only [mk_len, List.length_map]; omega) | decide) : wr P d sw_c540 sw_h540 (11, [r0, vi x1, vi x2, vi x3, vi x4], [], h, kc, ks) Q := by
  refine w_c32 rfl (by decide) 10 (by decide) ?_
  refine w_ld rfl rfl (Or.inl ⟨by decide, rfl⟩) ?_
  refine w_imul rfl ?_
  refine w_ld rfl rfl (Or.inr (Or.inr ⟨by decide, y1⟩)) ?_
  subst e_q2
  refine w_getf rfl g4 n6 ?_
  refine w_ld rfl rfl (Or.inl ⟨by decide, rfl⟩) ?_
  refine w_ld rfl rfl (Or.inl ⟨by decide, rfl⟩) ?_
  refine w_iadd rfl ?_
  subst e_q7
  refine w_iald rfl g9 (Or.inl rfl) c12 c11 c10 ?_
  refine w_iadd rfl ?_
  refine w_c32 rfl (by decide) 48 (by decide) ?_
  refine w_isub rfl ?_
  refine w_st (ls' := [.index q2, vi x1, vi x2, vi (((10 * x3) + (gi a8 (x1 + x4))) - 48), vi x4]) rfl (Or.inl ⟨by decide, rfl⟩) rfl ?_
  refine w_iinc (ls' := [.index q2, vi x1, vi x2, vi (((10 * x3) + (gi a8 (x1 + x4))) - 48), vi (x4 + 1)]) rfl rfl 1 (by decide) rfl ?_
  refine w_goto rfl ?_
  exact k

theorem k540_35 {P : s_P} {d : Nat} {Q : s_O → Prop} {h : s_H} {kc ks : Nat} {r0 : Term} {x1 x2 x3 x4 : Int}  (k : Q (.inl (some (vi x3)), h, kc, ks))   : wr P d sw_c540 sw_h540 (35, [r0, vi x1, vi x2, vi x3, vi x4], [], h, kc, ks) Q := by
  refine w_ld rfl rfl (Or.inl ⟨by decide, rfl⟩) ?_
  exact w_iret rfl k

/-! 541: FormulaWorksModel.obeys(II)Z -/
theorem k541_0 {P : s_P} {d : Nat} {Q : s_O → Prop} {h : s_H} {kc ks : Nat} {r0 : Term} {x1 x2 : Int} {t3 t4 t5 t6 t7 : Term} {q2 : Nat} {f3 : List Term} (g4 : s_get h q2 = some (1, 11, f3)) (k : wm P d 492 [.index q2, vi x1] h (wq P d sw_c541 sw_h541 6 [.index q2, vi x1, vi x2, t3, t4, t5, t6, t7] [.index q2] kc ks Q)) (e_q2 : r0 = .index q2 := by first | rfl | assumption) (y1 : s_ty r0 = 3 := by first | rfl | assumption)  : wr P d sw_c541 sw_h541 (0, [r0, vi x1, vi x2, t3, t4, t5, t6, t7], [], h, kc, ks) Q := by
  refine w_ld rfl rfl (Or.inr (Or.inr ⟨by decide, y1⟩)) ?_
  refine w_ld rfl rfl (Or.inr (Or.inr ⟨by decide, y1⟩)) ?_
  refine w_ld rfl rfl (Or.inl ⟨by decide, rfl⟩) ?_
  subst e_q2
  exact w_cv rfl [.index q2, vi x1] [.index q2] rfl rfl (s_wt_4 rfl) rfl g4 k

theorem k541_6 {P : s_P} {d : Nat} {Q : s_O → Prop} {h : s_H} {kc ks : Nat} {r0 : Term} {x1 x2 : Int} {t3 t4 t5 t6 t7 s0 : Term} {s1 : Int}  (k1 : s1 = 0 → wr P d sw_c541 sw_h541 (17, [r0, vi x1, vi x2, t3, t4, t5, t6, t7], [s0], h, kc, ks) Q) (k2 : ¬ s1 = 0 → wr P d sw_c541 sw_h541 (9, [r0, vi x1, vi x2, t3, t4, t5, t6, t7], [s0], h, kc, ks) Q)  (c1 : In3 s1 := by first | omega | assumption | (simp only [mk_len, List.length_map]; omega) | decide) : wr P d sw_c541 sw_h541 (6, [r0, vi x1, vi x2, t3, t4, t5, t6, t7], [vi s1, s0], h, kc, ks) Q := by
  exact w_if1 rfl c1 k1 k2

theorem k541_9 {P : s_P} {d : Nat} {Q : s_O → Prop} {h : s_H} {kc ks : Nat} {r0 : Term} {x1 x2 : Int} {t3 t4 t5 t6 t7 s0 : Term} {q2 : Nat} {f3 : List Term} (g4 : s_get h q2 = some (1, 11, f3)) (k : wm P d 492 [.index q2, vi x2] h (wq P d sw_c541 sw_h541 14 [.index q2, vi x1, vi x2, t3, t4, t5, t6, t7] [s0] kc ks Q)) (e_q2 : r0 = .index q2 := by first | rfl | assumption) (y1 : s_ty r0 = 3 := by first | rfl | assumption)  : wr P d sw_c541 sw_h541 (9, [r0, vi x1, vi x2, t3, t4, t5, t6, t7], [s0], h, kc, ks) Q := by
  refine w_ld rfl rfl (Or.inr (Or.inr ⟨by decide, y1⟩)) ?_
  refine w_ld rfl rfl (Or.inl ⟨by decide, rfl⟩) ?_
  subst e_q2
  exact w_cv rfl [.index q2, vi x2] [s0] rfl rfl (s_wt_4 rfl) rfl g4 k

theorem k541_14 {P : s_P} {d : Nat} {Q : s_O → Prop} {h : s_H} {kc ks : Nat} {r0 : Term} {x1 x2 : Int} {t3 t4 t5 t6 t7 s0 : Term} {s1 : Int}  (k1 : s1 ≠ 0 → wr P d sw_c541 sw_h541 (21, [r0, vi x1, vi x2, t3, t4, t5, t6, t7], [s0], h, kc, ks) Q) (k2 : ¬ s1 ≠ 0 → wr P d sw_c541 sw_h541 (17, [r0, vi x1, vi x2, t3, t4, t5, t6, t7], [s0], h, kc, ks) Q)  (c1 : In3 s1 := by first | omega | assumption | (simp only [mk_len, List.length_map]; omega) | decide) : wr P d sw_c541 sw_h541 (14, [r0, vi x1, vi x2, t3, t4, t5, t6, t7], [vi s1, s0], h, kc, ks) Q := by
  exact w_if1 rfl c1 k1 k2

theorem k541_17 {P : s_P} {d : Nat} {Q : s_O → Prop} {h : s_H} {kc ks : Nat} {r0 : Term} {x1 x2 : Int} {t3 t4 t5 t6 t7 s0 : Term}  (k : wr P d sw_c541 sw_h541 (43, [r0, vi x1, vi x2, t3, t4, t5, t6, t7], [vi 1, s0], h, kc, ks) Q)   : wr P d sw_c541 sw_h541 (17, [r0, vi x1, vi x2, t3, t4, t5, t6, t7], [s0], h, kc, ks) Q := by
  refine w_c32 rfl (by decide) 1 (by decide) ?_
  refine w_goto rfl ?_
  exact k

theorem k541_21 {P : s_P} {d : Nat} {Q : s_O → Prop} {h : s_H} {kc ks : Nat} {r0 : Term} {x1 x2 : Int} {t3 t4 t5 t6 t7 s0 : Term} {q2 : Nat} {f3 : List Term} (g4 : s_get h q2 = some (1, 11, f3)) (k : wm P d 486 [.index q2, vi x1] h (wq P d sw_c541 sw_h541 26 [.index q2, vi x1, vi x2, t3, t4, t5, t6, t7] [s0] kc ks Q)) (e_q2 : r0 = .index q2 := by first | rfl | assumption) (y1 : s_ty r0 = 3 := by first | rfl | assumption)  : wr P d sw_c541 sw_h541 (21, [r0, vi x1, vi x2, t3, t4, t5, t6, t7], [s0], h, kc, ks) Q := by
  refine w_ld rfl rfl (Or.inr (Or.inr ⟨by decide, y1⟩)) ?_
  refine w_ld rfl rfl (Or.inl ⟨by decide, rfl⟩) ?_
  subst e_q2
  exact w_cv rfl [.index q2, vi x1] [s0] rfl rfl (s_wt_4 rfl) rfl g4 k

theorem k541_26 {P : s_P} {d : Nat} {Q : s_O → Prop} {h : s_H} {kc ks : Nat} {r0 : Term} {x1 x2 : Int} {t3 t4 t5 t6 t7 s0 : Term} {s1 : Int}  (k1 : s1 = 0 → wr P d sw_c541 sw_h541 (38, [r0, vi x1, vi x2, t3, t4, t5, t6, t7], [s0], h, kc, ks) Q) (k2 : ¬ s1 = 0 → wr P d sw_c541 sw_h541 (29, [r0, vi x1, vi x2, t3, t4, t5, t6, t7], [s0], h, kc, ks) Q)  (c1 : In3 s1 := by first | omega | assumption | (simp only [mk_len, List.length_map]; omega) | decide) : wr P d sw_c541 sw_h541 (26, [r0, vi x1, vi x2, t3, t4, t5, t6, t7], [vi s1, s0], h, kc, ks) Q := by
  exact w_if1 rfl c1 k1 k2

theorem k541_29 {P : s_P} {d : Nat} {Q : s_O → Prop} {h : s_H} {kc ks : Nat} {r0 : Term} {x1 x2 : Int} {t3 t4 t5 t6 t7 s0 : Term} {q2 : Nat} {f3 : List Term} (g4 : s_get h q2 = some (1, 11, f3)) (k : wm P d 469 [.index q2, vi x2, vi 1] h (wq P d sw_c541 sw_h541 35 [.index q2, vi x1, vi x2, t3, t4, t5, t6, t7] [s0] kc ks Q)) (e_q2 : r0 = .index q2 := by first | rfl | assumption) (y1 : s_ty r0 = 3 := by first | rfl | assumption)  : wr P d sw_c541 sw_h541 (29, [r0, vi x1, vi x2, t3, t4, t5, t6, t7], [s0], h, kc, ks) Q := by
  refine w_ld rfl rfl (Or.inr (Or.inr ⟨by decide, y1⟩)) ?_
  refine w_ld rfl rfl (Or.inl ⟨by decide, rfl⟩) ?_
  refine w_c32 rfl (by decide) 1 (by decide) ?_
  subst e_q2
  exact w_cv rfl [.index q2, vi x2, vi 1] [s0] rfl rfl (s_wt_4 rfl) rfl g4 k

theorem k541_35 {P : s_P} {d : Nat} {Q : s_O → Prop} {h : s_H} {kc ks : Nat} {r0 : Term} {x1 x2 : Int} {t3 t4 t5 t6 t7 s0 : Term} {s1 : Int}  (k1 : s1 ≠ 0 → wr P d sw_c541 sw_h541 (42, [r0, vi x1, vi x2, t3, t4, t5, t6, t7], [s0], h, kc, ks) Q) (k2 : ¬ s1 ≠ 0 → wr P d sw_c541 sw_h541 (38, [r0, vi x1, vi x2, t3, t4, t5, t6, t7], [s0], h, kc, ks) Q)  (c1 : In3 s1 := by first | omega | assumption | (simp only [mk_len, List.length_map]; omega) | decide) : wr P d sw_c541 sw_h541 (35, [r0, vi x1, vi x2, t3, t4, t5, t6, t7], [vi s1, s0], h, kc, ks) Q := by
  exact w_if1 rfl c1 k1 k2

theorem k541_38 {P : s_P} {d : Nat} {Q : s_O → Prop} {h : s_H} {kc ks : Nat} {r0 : Term} {x1 x2 : Int} {t3 t4 t5 t6 t7 s0 : Term}  (k : wr P d sw_c541 sw_h541 (43, [r0, vi x1, vi x2, t3, t4, t5, t6, t7], [vi 2, s0], h, kc, ks) Q)   : wr P d sw_c541 sw_h541 (38, [r0, vi x1, vi x2, t3, t4, t5, t6, t7], [s0], h, kc, ks) Q := by
  refine w_c32 rfl (by decide) 2 (by decide) ?_
  refine w_goto rfl ?_
  exact k

theorem k541_42 {P : s_P} {d : Nat} {Q : s_O → Prop} {h : s_H} {kc ks : Nat} {r0 : Term} {x1 x2 : Int} {t3 t4 t5 t6 t7 s0 : Term}  (k : wr P d sw_c541 sw_h541 (43, [r0, vi x1, vi x2, t3, t4, t5, t6, t7], [vi 0, s0], h, kc, ks) Q)   : wr P d sw_c541 sw_h541 (42, [r0, vi x1, vi x2, t3, t4, t5, t6, t7], [s0], h, kc, ks) Q := by
  refine w_c32 rfl (by decide) 0 (by decide) ?_
  exact k

theorem k541_43 {P : s_P} {d : Nat} {Q : s_O → Prop} {h : s_H} {kc ks : Nat} {r0 : Term} {x1 x2 : Int} {t3 t4 t5 t6 t7 s0 : Term} {s1 : Int} {q1 : Nat} {f2 : List Term} {q7 : Nat} {f8 : List Term} {z10 : Int} (g3 : s_get h q1 = some (1, 11, f2)) (g9 : s_get (hp h q1 (1, 11, f2.set 0 (vi s1))) q7 = some (1, 11, f8)) (k1 : z10 ≤ 0 → wr P d sw_c541 sw_h541 (55, [.index q7, vi x1, vi x2, t3, t4, t5, t6, t7], [], (hp h q1 (1, 11, f2.set 0 (vi s1))), kc, ks) Q) (k2 : ¬ z10 ≤ 0 → wr P d sw_c541 sw_h541 (53, [.index q7, vi x1, vi x2, t3, t4, t5, t6, t7], [], (hp h q1 (1, 11, f2.set 0 (vi s1))), kc, ks) Q) (e_q1 : s0 = .index q1 := by first | rfl | assumption) (e_q7 : r0 = .index q7 := by first | rfl | assumption) (l4 : 0 < f2.length := by first | exact Nat.le_of_ble_eq_true rfl | omega | assumption) (y6 : s_ty r0 = 3 := by first | rfl | assumption) (n11 : s_nth f8 0 = some (vi z10) := by first | rfl | assumption) (c5 : 0 < q1 := by first | omega | assumption | (simp only [mk_len, List.length_map]; omega) | decide) (c12 : In3 z10 := by first | omega | assumption | (simp only [mk_len, List.length_map]; omega) | decide) : wr P d sw_c541 sw_h541 (43, [r0, vi x1, vi x2, t3, t4, t5, t6, t7], [vi s1, s0], h, kc, ks) Q := by
  subst e_q1
  refine w_putf rfl g3 (Nat.ble_eq_true_of_le c5) rfl (Nat.ble_eq_true_of_le l4) ?_
  refine w_ld rfl rfl (Or.inr (Or.inr ⟨by decide, y6⟩)) ?_
  subst e_q7
  refine w_getf rfl g9 n11 ?_
  exact w_if1 rfl c12 k1 k2

theorem k541_53 {P : s_P} {d : Nat} {Q : s_O → Prop} {h : s_H} {kc ks : Nat} {r0 : Term} {x1 x2 : Int} {t3 t4 t5 t6 t7 : Term}  (k : Q (.inl (some (vi 0)), h, kc, ks))   : wr P d sw_c541 sw_h541 (53, [r0, vi x1, vi x2, t3, t4, t5, t6, t7], [], h, kc, ks) Q := by
  refine w_c32 rfl (by decide) 0 (by decide) ?_
  exact w_zret rfl (by decide) k

theorem k541_55 {P : s_P} {d : Nat} {Q : s_O → Prop} {h : s_H} {kc ks : Nat} {r0 : Term} {x1 x2 : Int} {t3 t4 t5 t6 t7 : Term} {q2 : Nat} {f3 : List Term} {v5 v7 : Term} (g4 : s_get h q2 = some (1, 11, f3)) (k : wm P d 505 [.index q2, v5, v7, vi x2] h (wq P d sw_c541 sw_h541 68 [.index q2, vi x1, vi x2, t3, t4, t5, t6, t7] [] kc ks Q)) (e_q2 : r0 = .index q2 := by first | rfl | assumption) (y1 : s_ty r0 = 3 := by first | rfl | assumption) (n6 : s_nth f3 10 = some v5 := by first | rfl | assumption) (n8 : s_nth f3 11 = some v7 := by first | rfl | assumption)  : wr P d sw_c541 sw_h541 (55, [r0, vi x1, vi x2, t3, t4, t5, t6, t7], [], h, kc, ks) Q := by
  refine w_ld rfl rfl (Or.inr (Or.inr ⟨by decide, y1⟩)) ?_
  refine w_ld rfl rfl (Or.inr (Or.inr ⟨by decide, y1⟩)) ?_
  subst e_q2
  refine w_getf rfl g4 n6 ?_
  refine w_ld rfl rfl (Or.inr (Or.inr ⟨by decide, rfl⟩)) ?_
  refine w_getf rfl g4 n8 ?_
  refine w_ld rfl rfl (Or.inl ⟨by decide, rfl⟩) ?_
  exact w_cv rfl [.index q2, v5, v7, vi x2] [] rfl rfl (s_wt_4 rfl) rfl g4 k

theorem k541_68 {P : s_P} {d : Nat} {Q : s_O → Prop} {h : s_H} {kc ks : Nat} {r0 : Term} {x1 x2 : Int} {t3 t4 t5 t6 t7 : Term}  (k : wr P d sw_c541 sw_h541 (73, [r0, vi x1, vi x2, vi 1, vi 0, t5, t6, t7], [], h, kc, ks) Q)   : wr P d sw_c541 sw_h541 (68, [r0, vi x1, vi x2, t3, t4, t5, t6, t7], [], h, kc, ks) Q := by
  refine w_c32 rfl (by decide) 1 (by decide) ?_
  refine w_st (ls' := [r0, vi x1, vi x2, vi 1, t4, t5, t6, t7]) rfl (Or.inl ⟨by decide, rfl⟩) rfl ?_
  refine w_c32 rfl (by decide) 0 (by decide) ?_
  refine w_st (ls' := [r0, vi x1, vi x2, vi 1, vi 0, t5, t6, t7]) rfl (Or.inl ⟨by decide, rfl⟩) rfl ?_
  exact k

theorem k541_73 {P : s_P} {d : Nat} {Q : s_O → Prop} {h : s_H} {kc ks : Nat} {r0 : Term} {x1 x2 x3 x4 : Int} {t5 t6 t7 : Term} {q2 : Nat} {f3 : List Term} {v5 : Term} {q7 : Nat} {a8 : List Int} (g4 : s_get h q2 = some (1, 11, f3)) (g9 : s_get h q7 = some (0, 0, a8.map vi)) (k1 : 25 ≤ (x4 + (gi a8 x1)) - 1 → wr P d sw_c541 sw_h541 (164, [.index q2, vi x1, vi x2, vi x3, vi x4, t5, t6, t7], [], h, kc, ks) Q) (k2 : ¬ 25 ≤ (x4 + (gi a8 x1)) - 1 → wr P d sw_c541 sw_h541 (89, [.index q2, vi x1, vi x2, vi x3, vi x4, t5, t6, t7], [], h, kc, ks) Q) (e_q2 : r0 = .index q2 := by first | rfl | assumption) (e_q7 : v5 = .index q7 := by first | rfl | assumption) (y1 : s_ty r0 = 3 := by first | rfl | assumption) (n6 : s_nth f3 6 = some v5 := by first | rfl | assumption) (c10 : x1 < a8.length := by first | omega | assumption | (simp only [mk_len, List.length_map]; omega) | decide) (c11 : 0 ≤ x1 := by first | omega | assumption | (simp only [mk_len, List.length_map]; omega) | decide) (c12 : In3 x1 := by first | omega | assumption | (simp only [mk_len, List.length_map]; omega) | decide) (c13 : In3 ((x4 + (gi a8 x1)) - 1) := by first | omega | assumption | (simp only [mk_len, List.length_map]; omega) | decide) : wr P d sw_c541 sw_h541 (73, [r0, vi x1, vi x2, vi x3, vi x4, t5, t6, t7], [], h, kc, ks) Q := by
  refine w_ld rfl rfl (Or.inl ⟨by decide, rfl⟩) ?_
  refine w_ld rfl rfl (Or.inr (Or.inr ⟨by decide, y1⟩)) ?_
  subst e_q2
  refine w_getf rfl g4 n6 ?_
  refine w_ld rfl rfl (Or.inl ⟨by decide, rfl⟩) ?_
  subst e_q7
  refine w_iald rfl g9 (Or.inl rfl) c12 c11 c10 ?_
  refine w_iadd rfl ?_
  refine w_c32 rfl (by decide) 1 (by decide) ?_
  refine w_isub rfl ?_
  refine w_c32 rfl (by decide) 25 (by decide) ?_
  exact w_if2 rfl c13 (by decide) k1 k2

theorem k541_89 {P : s_P} {d : Nat} {Q : s_O → Prop} {h : s_H} {kc ks : Nat} {r0 : Term} {x1 x2 x3 x4 : Int} {t5 t6 t7 : Term}  (k : wr P d sw_c541 sw_h541 (95, [r0, vi x1, vi x2, vi x3, vi x4, vl 0, .result, vi 0], [], h, kc, ks) Q)   : wr P d sw_c541 sw_h541 (89, [r0, vi x1, vi x2, vi x3, vi x4, t5, t6, t7], [], h, kc, ks) Q := by
  refine w_c64 rfl (by decide) 0 (by decide) ?_
  refine w_stl (ls' := [r0, vi x1, vi x2, vi x3, vi x4, vl 0, t6, t7]) (ls'' := [r0, vi x1, vi x2, vi x3, vi x4, vl 0, .result, t7]) rfl ⟨by decide, rfl⟩ rfl rfl ?_
  refine w_c32 rfl (by decide) 0 (by decide) ?_
  refine w_st (ls' := [r0, vi x1, vi x2, vi x3, vi x4, vl 0, .result, vi 0]) rfl (Or.inl ⟨by decide, rfl⟩) rfl ?_
  exact k

theorem k541_95 {P : s_P} {d : Nat} {Q : s_O → Prop} {h : s_H} {kc ks : Nat} {r0 : Term} {x1 x2 x3 x4 x5 : Int} {t6 : Term} {x7 : Int} {q2 : Nat} {f3 : List Term} {v5 : Term} {q7 : Nat} {a8 : List Int} (g4 : s_get h q2 = some (1, 11, f3)) (g9 : s_get h q7 = some (0, 0, a8.map vi)) (k1 : gi a8 x1 ≤ x7 → wr P d sw_c541 sw_h541 (141, [.index q2, vi x1, vi x2, vi x3, vi x4, vl x5, t6, vi x7], [], h, kc, ks) Q) (k2 : ¬ gi a8 x1 ≤ x7 → wr P d sw_c541 sw_h541 (106, [.index q2, vi x1, vi x2, vi x3, vi x4, vl x5, t6, vi x7], [], h, kc, ks) Q) (e_q2 : r0 = .index q2 := by first | rfl | assumption) (e_q7 : v5 = .index q7 := by first | rfl | assumption) (y1 : s_ty r0 = 3 := by first | rfl | assumption) (n6 : s_nth f3 6 = some v5 := by first | rfl | assumption) (c10 : x1 < a8.length := by first | omega | assumption | (simp only [mk_len, List.length_map]; omega) | decide) (c11 : 0 ≤ x1 := by first | omega | assumption | (simp only [mk_len, List.length_map]; omega) | decide) (c12 : In3 x1 := by first | omega | assumption | (simp only [mk_len, List.length_map]; omega) | decide) (c13 : In3 x7 := by first | omega | assumption | (simp only [mk_len, List.length_map]; omega) | decide) (c14 : In3 (gi a8 x1) := by first | omega | assumption | (simp only [mk_len, List.length_map]; omega) | decide) : wr P d sw_c541 sw_h541 (95, [r0, vi x1, vi x2, vi x3, vi x4, vl x5, t6, vi x7], [], h, kc, ks) Q := by
  refine w_ld rfl rfl (Or.inl ⟨by decide, rfl⟩) ?_
  refine w_ld rfl rfl (Or.inr (Or.inr ⟨by decide, y1⟩)) ?_
  subst e_q2
  refine w_getf rfl g4 n6 ?_
  refine w_ld rfl rfl (Or.inl ⟨by decide, rfl⟩) ?_
  subst e_q7
  refine w_iald rfl g9 (Or.inl rfl) c12 c11 c10 ?_
  exact w_if2 rfl c13 c14 k1 k2

theorem k541_106 {P : s_P} {d : Nat} {Q : s_O → Prop} {h : s_H} {kc ks : Nat} {r0 : Term} {x1 x2 x3 x4 x5 : Int} {t6 : Term} {x7 : Int} {q2 : Nat} {f3 : List Term} (g4 : s_get h q2 = some (1, 11, f3)) (k : wm P d 590 [.index q2, vi x1, vi x7, vi x4] h (wq P d sw_c541 sw_h541 117 [.index q2, vi x1, vi x2, vi x3, vi x4, vl x5, t6, vi x7] [vl x5] kc ks Q)) (e_q2 : r0 = .index q2 := by first | rfl | assumption) (y1 : s_ty r0 = 3 := by first | rfl | assumption)  : wr P d sw_c541 sw_h541 (106, [r0, vi x1, vi x2, vi x3, vi x4, vl x5, t6, vi x7], [], h, kc, ks) Q := by
  refine w_ld rfl rfl (Or.inr (Or.inl ⟨by decide, rfl⟩)) ?_
  refine w_ld rfl rfl (Or.inr (Or.inr ⟨by decide, y1⟩)) ?_
  refine w_ld rfl rfl (Or.inl ⟨by decide, rfl⟩) ?_
  refine w_ld rfl rfl (Or.inl ⟨by decide, rfl⟩) ?_
  refine w_ld rfl rfl (Or.inl ⟨by decide, rfl⟩) ?_
  subst e_q2
  exact w_cv rfl [.index q2, vi x1, vi x7, vi x4] [vl x5] rfl rfl (s_wt_4 rfl) rfl g4 k

theorem k541_117 {P : s_P} {d : Nat} {Q : s_O → Prop} {h : s_H} {kc ks : Nat} {r0 : Term} {x1 x2 x3 x4 x5 : Int} {t6 : Term} {x7 s0 s1 : Int} {q2 : Nat} {f3 : List Term} {v5 : Term} {q7 : Nat} {a8 : List Int} (g4 : s_get h q2 = some (1, 11, f3)) (g9 : s_get h q7 = some (0, 1, a8.map vl)) (k : wr P d sw_c541 sw_h541 (95, [.index q2, vi x1, vi x2, vi x3, vi x4, vl (Int.tmod (s0 + (s1 * (gi a8 (x4 + x7)))) 32003), .result, vi (x7 + 1)], [], h, kc, ks) Q) (e_q2 : r0 = .index q2 := by first | rfl | assumption) (e_q7 : v5 = .index q7 := by first | rfl | assumption) (y1 : s_ty r0 = 3 := by first | rfl | assumption) (n6 : s_nth f3 10 = some v5 := by first | rfl | assumption) (c10 : x4 + x7 < a8.length := by first | omega | assumption | (simp only [mk_len, List.length_map]; omega) | decide) (c11 : 0 ≤ x4 + x7 := by first | omega | assumption | (simp only [mk_len, List.length_map]; omega) | decide) (c12 : In3 (x4 + x7) := by first | omega | assumption | (simp only [mk_len, List.length_map]; omega) | decide) (c13 : In6 (s0 + (s1 * (gi a8 (x4 + x7)))) := by first | omega | assumption | (simp only [mk_len, List.length_map]; omega) | decide) : wr P d sw_c541 sw_h541 (117, [r0, vi x1, vi x2, vi x3, vi x4, vl x5, t6, vi x7], [vl s1, vl s0], h, kc, ks) Q := by
  refine w_ld rfl rfl (Or.inr (Or.inr ⟨by decide, y1⟩)) ?_
  subst e_q2
  refine w_getf rfl g4 n6 ?_
  refine w_ld rfl rfl (Or.inl ⟨by decide, rfl⟩) ?_
  refine w_ld rfl rfl (Or.inl ⟨by decide, rfl⟩) ?_
  refine w_iadd rfl ?_
  subst e_q7
  refine w_lald rfl g9 c12 c11 c10 ?_
  refine w_lmul rfl ?_
  refine w_ladd rfl ?_
  refine w_c64 rfl (by decide) 32003 (by decide) ?_
  refine w_lrem rfl c13 (by decide) (by decide) ?_
  refine w_stl (ls' := [.index q2, vi x1, vi x2, vi x3, vi x4, vl (Int.tmod (s0 + (s1 * (gi a8 (x4 + x7)))) 32003), t6, vi x7]) (ls'' := [.index q2, vi x1, vi x2, vi x3, vi x4, vl (Int.tmod (s0 + (s1 * (gi a8 (x4 + x7)))) 32003), .result, vi x7]) rfl ⟨by decide, rfl⟩ rfl rfl ?_
  refine w_iinc (ls' := [.index q2, vi x1, vi x2, vi x3, vi x4, vl (Int.tmod (s0 + (s1 * (gi a8 (x4 + x7)))) 32003), .result, vi (x7 + 1)]) rfl rfl 1 (by decide) rfl ?_
  refine w_goto rfl ?_
  exact k

theorem k541_141 {P : s_P} {d : Nat} {Q : s_O → Prop} {h : s_H} {kc ks : Nat} {r0 : Term} {x1 x2 x3 x4 x5 : Int} {t6 : Term} {x7 : Int}  (k1 : x3 = 0 → wr P d sw_c541 sw_h541 (156, [r0, vi x1, vi x2, vi x3, vi x4, vl x5, t6, vi x7], [], h, kc, ks) Q) (k2 : ¬ x3 = 0 → wr P d sw_c541 sw_h541 (145, [r0, vi x1, vi x2, vi x3, vi x4, vl x5, t6, vi x7], [], h, kc, ks) Q)  (c1 : In3 x3 := by first | omega | assumption | (simp only [mk_len, List.length_map]; omega) | decide) : wr P d sw_c541 sw_h541 (141, [r0, vi x1, vi x2, vi x3, vi x4, vl x5, t6, vi x7], [], h, kc, ks) Q := by
  refine w_ld rfl rfl (Or.inl ⟨by decide, rfl⟩) ?_
  exact w_if1 rfl c1 k1 k2

theorem k541_145 {P : s_P} {d : Nat} {Q : s_O → Prop} {h : s_H} {kc ks : Nat} {r0 : Term} {x1 x2 x3 x4 x5 : Int} {t6 : Term} {x7 : Int}  (k1 : x5 ≠ 0 → wr P d sw_c541 sw_h541 (156, [r0, vi x1, vi x2, vi x3, vi x4, vl x5, t6, vi x7], [], h, kc, ks) Q) (k2 : ¬ x5 ≠ 0 → wr P d sw_c541 sw_h541 (152, [r0, vi x1, vi x2, vi x3, vi x4, vl x5, t6, vi x7], [], h, kc, ks) Q)  (c1 : In6 x5 := by first | omega | assumption | (simp only [mk_len, List.length_map]; omega) | decide) : wr P d sw_c541 sw_h541 (145, [r0, vi x1, vi x2, vi x3, vi x4, vl x5, t6, vi x7], [], h, kc, ks) Q := by
  refine w_ld rfl rfl (Or.inr (Or.inl ⟨by decide, rfl⟩)) ?_
  refine w_c64 rfl (by decide) 0 (by decide) ?_
  exact w_lcmp rfl rfl c1 (by decide) k1 k2

theorem k541_152 {P : s_P} {d : Nat} {Q : s_O → Prop} {h : s_H} {kc ks : Nat} {r0 : Term} {x1 x2 x3 x4 x5 : Int} {t6 : Term} {x7 : Int}  (k : wr P d sw_c541 sw_h541 (157, [r0, vi x1, vi x2, vi x3, vi x4, vl x5, t6, vi x7], [vi 1], h, kc, ks) Q)   : wr P d sw_c541 sw_h541 (152, [r0, vi x1, vi x2, vi x3, vi x4, vl x5, t6, vi x7], [], h, kc, ks) Q := by
  refine w_c32 rfl (by decide) 1 (by decide) ?_
  refine w_goto rfl ?_
  exact k

theorem k541_156 {P : s_P} {d : Nat} {Q : s_O → Prop} {h : s_H} {kc ks : Nat} {r0 : Term} {x1 x2 x3 x4 x5 : Int} {t6 : Term} {x7 : Int}  (k : wr P d sw_c541 sw_h541 (157, [r0, vi x1, vi x2, vi x3, vi x4, vl x5, t6, vi x7], [vi 0], h, kc, ks) Q)   : wr P d sw_c541 sw_h541 (156, [r0, vi x1, vi x2, vi x3, vi x4, vl x5, t6, vi x7], [], h, kc, ks) Q := by
  refine w_c32 rfl (by decide) 0 (by decide) ?_
  exact k

theorem k541_157 {P : s_P} {d : Nat} {Q : s_O → Prop} {h : s_H} {kc ks : Nat} {r0 : Term} {x1 x2 x3 x4 x5 : Int} {t6 : Term} {x7 s0 : Int}  (k : wr P d sw_c541 sw_h541 (73, [r0, vi x1, vi x2, vi s0, vi (x4 + 1), vl x5, t6, vi x7], [], h, kc, ks) Q)   : wr P d sw_c541 sw_h541 (157, [r0, vi x1, vi x2, vi x3, vi x4, vl x5, t6, vi x7], [vi s0], h, kc, ks) Q := by
  refine w_st (ls' := [r0, vi x1, vi x2, vi s0, vi x4, vl x5, t6, vi x7]) rfl (Or.inl ⟨by decide, rfl⟩) rfl ?_
  refine w_iinc (ls' := [r0, vi x1, vi x2, vi s0, vi (x4 + 1), vl x5, t6, vi x7]) rfl rfl 1 (by decide) rfl ?_
  refine w_goto rfl ?_
  exact k

theorem k541_164 {P : s_P} {d : Nat} {Q : s_O → Prop} {h : s_H} {kc ks : Nat} {r0 : Term} {x1 x2 x3 x4 : Int} {t5 t6 t7 : Term}  (k : Q (.inl (some (vi x3)), h, kc, ks))  (c1 : x3 = 0 ∨ x3 = 1 := by first | omega | assumption | (simp only [mk_len, List.length_map]; omega) | decide) : wr P d sw_c541 sw_h541 (164, [r0, vi x1, vi x2, vi x3, vi x4, t5, t6, t7], [], h, kc, ks) Q := by
  refine w_ld rfl rfl (Or.inl ⟨by decide, rfl⟩) ?_
  exact w_zret rfl c1 k

/-! 542: FormulaWorksModel.often(II)I -/
theorem k542_0 {P : s_P} {d : Nat} {Q : s_O → Prop} {h : s_H} {kc ks : Nat} {r0 : Term} {x1 x2 : Int} {q2 : Nat} {f3 : List Term} (g4 : s_get h q2 = some (1, 11, f3)) (k : wm P d 477 [.index q2, vi x1, vi x2] h (wq P d sw_c542 sw_h542 6 [.index q2, vi x1, vi x2] [] kc ks Q)) (e_q2 : r0 = .index q2 := by first | rfl | assumption) (y1 : s_ty r0 = 3 := by first | rfl | assumption)  : wr P d sw_c542 sw_h542 (0, [r0, vi x1, vi x2], [], h, kc, ks) Q := by
  refine w_ld rfl rfl (Or.inr (Or.inr ⟨by decide, y1⟩)) ?_
  refine w_ld rfl rfl (Or.inl ⟨by decide, rfl⟩) ?_
  refine w_ld rfl rfl (Or.inl ⟨by decide, rfl⟩) ?_
  subst e_q2
  exact w_cv rfl [.index q2, vi x1, vi x2] [] rfl rfl (s_wt_4 rfl) rfl g4 k

theorem k542_6 {P : s_P} {d : Nat} {Q : s_O → Prop} {h : s_H} {kc ks : Nat} {r0 : Term} {x1 x2 s0 : Int}  (k1 : s0 = 0 → wr P d sw_c542 sw_h542 (18, [r0, vi x1, vi x2], [], h, kc, ks) Q) (k2 : ¬ s0 = 0 → wr P d sw_c542 sw_h542 (9, [r0, vi x1, vi x2], [], h, kc, ks) Q)  (c1 : In3 s0 := by first | omega | assumption | (simp only [mk_len, List.length_map]; omega) | decide) : wr P d sw_c542 sw_h542 (6, [r0, vi x1, vi x2], [vi s0], h, kc, ks) Q := by
  exact w_if1 rfl c1 k1 k2

theorem k542_9 {P : s_P} {d : Nat} {Q : s_O → Prop} {h : s_H} {kc ks : Nat} {r0 : Term} {x1 x2 : Int} {q2 : Nat} {f3 : List Term} {v5 : Term} {q7 : Nat} {a8 : List Int} (g4 : s_get h q2 = some (1, 11, f3)) (g9 : s_get h q7 = some (0, 0, a8.map vi)) (k : wr P d sw_c542 sw_h542 (19, [.index q2, vi x1, vi x2], [vi (gi a8 x2)], h, kc, ks) Q) (e_q2 : r0 = .index q2 := by first | rfl | assumption) (e_q7 : v5 = .index q7 := by first | rfl | assumption) (y1 : s_ty r0 = 3 := by first | rfl | assumption) (n6 : s_nth f3 29 = some v5 := by first | rfl | assumption) (c10 : x2 < a8.length := by first | omega | assumption | (simp only [mk_len, List.length_map]; omega) | decide) (c11 : 0 ≤ x2 := by first | omega | assumption | (simp only [mk_len, List.length_map]; omega) | decide) (c12 : In3 x2 := by first | omega | assumption | (simp only [mk_len, List.length_map]; omega) | decide) : wr P d sw_c542 sw_h542 (9, [r0, vi x1, vi x2], [], h, kc, ks) Q := by
  refine w_ld rfl rfl (Or.inr (Or.inr ⟨by decide, y1⟩)) ?_
  subst e_q2
  refine w_getf rfl g4 n6 ?_
  refine w_ld rfl rfl (Or.inl ⟨by decide, rfl⟩) ?_
  subst e_q7
  refine w_iald rfl g9 (Or.inl rfl) c12 c11 c10 ?_
  refine w_goto rfl ?_
  exact k

theorem k542_18 {P : s_P} {d : Nat} {Q : s_O → Prop} {h : s_H} {kc ks : Nat} {r0 : Term} {x1 x2 : Int}  (k : wr P d sw_c542 sw_h542 (19, [r0, vi x1, vi x2], [vi 0], h, kc, ks) Q)   : wr P d sw_c542 sw_h542 (18, [r0, vi x1, vi x2], [], h, kc, ks) Q := by
  refine w_c32 rfl (by decide) 0 (by decide) ?_
  exact k

theorem k542_19 {P : s_P} {d : Nat} {Q : s_O → Prop} {h : s_H} {kc ks : Nat} {r0 : Term} {x1 x2 s0 : Int}  (k : Q (.inl (some (vi s0)), h, kc, ks))   : wr P d sw_c542 sw_h542 (19, [r0, vi x1, vi x2], [vi s0], h, kc, ks) Q := by
  exact w_iret rfl k

/-! 543: FormulaWorksModel.over(II)I -/
theorem k543_0 {P : s_P} {d : Nat} {Q : s_O → Prop} {h : s_H} {kc ks : Nat} {r0 : Term} {x1 x2 : Int} {q2 : Nat} {f3 : List Term} (g4 : s_get h q2 = some (1, 11, f3)) (k : wm P d 401 [.index q2, vi x1, vi x2, vi 0] h (wq P d sw_c543 sw_h543 7 [.index q2, vi x1, vi x2] [] kc ks Q)) (e_q2 : r0 = .index q2 := by first | rfl | assumption) (y1 : s_ty r0 = 3 := by first | rfl | assumption)  : wr P d sw_c543 sw_h543 (0, [r0, vi x1, vi x2], [], h, kc, ks) Q := by
  refine w_ld rfl rfl (Or.inr (Or.inr ⟨by decide, y1⟩)) ?_
  refine w_ld rfl rfl (Or.inl ⟨by decide, rfl⟩) ?_
  refine w_ld rfl rfl (Or.inl ⟨by decide, rfl⟩) ?_
  refine w_c32 rfl (by decide) 0 (by decide) ?_
  subst e_q2
  exact w_cv rfl [.index q2, vi x1, vi x2, vi 0] [] rfl rfl (s_wt_4 rfl) rfl g4 k

theorem k543_7 {P : s_P} {d : Nat} {Q : s_O → Prop} {h : s_H} {kc ks : Nat} {r0 : Term} {x1 x2 s0 : Int}  (k1 : s0 ≠ 0 → wr P d sw_c543 sw_h543 (12, [r0, vi x1, vi x2], [], h, kc, ks) Q) (k2 : ¬ s0 ≠ 0 → wr P d sw_c543 sw_h543 (10, [r0, vi x1, vi x2], [], h, kc, ks) Q)  (c1 : In3 s0 := by first | omega | assumption | (simp only [mk_len, List.length_map]; omega) | decide) : wr P d sw_c543 sw_h543 (7, [r0, vi x1, vi x2], [vi s0], h, kc, ks) Q := by
  exact w_if1 rfl c1 k1 k2

theorem k543_10 {P : s_P} {d : Nat} {Q : s_O → Prop} {h : s_H} {kc ks : Nat} {r0 : Term} {x1 x2 : Int}  (k : Q (.inl (some (vi 0)), h, kc, ks))   : wr P d sw_c543 sw_h543 (10, [r0, vi x1, vi x2], [], h, kc, ks) Q := by
  refine w_c32 rfl (by decide) 0 (by decide) ?_
  exact w_iret rfl k

theorem k543_12 {P : s_P} {d : Nat} {Q : s_O → Prop} {h : s_H} {kc ks : Nat} {r0 : Term} {x1 x2 : Int} {q2 : Nat} {f3 : List Term} (g4 : s_get h q2 = some (1, 11, f3)) (k : wm P d 469 [.index q2, vi x1, vi 1] h (wq P d sw_c543 sw_h543 18 [.index q2, vi x1, vi x2] [] kc ks Q)) (e_q2 : r0 = .index q2 := by first | rfl | assumption) (y1 : s_ty r0 = 3 := by first | rfl | assumption)  : wr P d sw_c543 sw_h543 (12, [r0, vi x1, vi x2], [], h, kc, ks) Q := by
  refine w_ld rfl rfl (Or.inr (Or.inr ⟨by decide, y1⟩)) ?_
  refine w_ld rfl rfl (Or.inl ⟨by decide, rfl⟩) ?_
  refine w_c32 rfl (by decide) 1 (by decide) ?_
  subst e_q2
  exact w_cv rfl [.index q2, vi x1, vi 1] [] rfl rfl (s_wt_4 rfl) rfl g4 k

theorem k543_18 {P : s_P} {d : Nat} {Q : s_O → Prop} {h : s_H} {kc ks : Nat} {r0 : Term} {x1 x2 s0 : Int}  (k1 : s0 = 0 → wr P d sw_c543 sw_h543 (48, [r0, vi x1, vi x2], [], h, kc, ks) Q) (k2 : ¬ s0 = 0 → wr P d sw_c543 sw_h543 (21, [r0, vi x1, vi x2], [], h, kc, ks) Q)  (c1 : In3 s0 := by first | omega | assumption | (simp only [mk_len, List.length_map]; omega) | decide) : wr P d sw_c543 sw_h543 (18, [r0, vi x1, vi x2], [vi s0], h, kc, ks) Q := by
  exact w_if1 rfl c1 k1 k2

theorem k543_21 {P : s_P} {d : Nat} {Q : s_O → Prop} {h : s_H} {kc ks : Nat} {r0 : Term} {x1 x2 : Int} {q2 : Nat} {f3 : List Term} {v5 : Term} {q7 : Nat} {a8 : List Int} (g4 : s_get h q2 = some (1, 11, f3)) (g9 : s_get h q7 = some (0, 1, a8.map vl)) (k1 : gi a8 0 ≠ 0 → wr P d sw_c543 sw_h543 (38, [.index q2, vi x1, vi x2], [], h, kc, ks) Q) (k2 : ¬ gi a8 0 ≠ 0 → wr P d sw_c543 sw_h543 (32, [.index q2, vi x1, vi x2], [], h, kc, ks) Q) (e_q2 : r0 = .index q2 := by first | rfl | assumption) (e_q7 : v5 = .index q7 := by first | rfl | assumption) (y1 : s_ty r0 = 3 := by first | rfl | assumption) (n6 : s_nth f3 12 = some v5 := by first | rfl | assumption) (c10 : (0 : Int) < a8.length := by first | omega | assumption | (simp only [mk_len, List.length_map]; omega) | decide) (c11 : In6 (gi a8 0) := by first | omega | assumption | (simp only [mk_len, List.length_map]; omega) | decide) : wr P d sw_c543 sw_h543 (21, [r0, vi x1, vi x2], [], h, kc, ks) Q := by
  refine w_ld rfl rfl (Or.inr (Or.inr ⟨by decide, y1⟩)) ?_
  subst e_q2
  refine w_getf rfl g4 n6 ?_
  refine w_c32 rfl (by decide) 0 (by decide) ?_
  subst e_q7
  refine w_lald rfl g9 (by decide) (by decide) c10 ?_
  refine w_c64 rfl (by decide) 0 (by decide) ?_
  exact w_lcmp rfl rfl c11 (by decide) k1 k2

theorem k543_32 {P : s_P} {d : Nat} {Q : s_O → Prop} {h : s_H} {kc ks : Nat} {r0 : Term} {x1 x2 : Int} {q2 : Nat} {f3 : List Term} (g4 : s_get h q2 = some (1, 11, f3)) (k : wm P d 570 [.index q2, vi 3] h (wq P d sw_c543 sw_h543 37 [.index q2, vi x1, vi x2] [] kc ks Q)) (e_q2 : r0 = .index q2 := by first | rfl | assumption) (y1 : s_ty r0 = 3 := by first | rfl | assumption)  : wr P d sw_c543 sw_h543 (32, [r0, vi x1, vi x2], [], h, kc, ks) Q := by
  refine w_ld rfl rfl (Or.inr (Or.inr ⟨by decide, y1⟩)) ?_
  refine w_c32 rfl (by decide) 3 (by decide) ?_
  subst e_q2
  exact w_cv rfl [.index q2, vi 3] [] rfl rfl (s_wt_4 rfl) rfl g4 k

theorem k543_37 {P : s_P} {d : Nat} {Q : s_O → Prop} {h : s_H} {kc ks : Nat} {r0 : Term} {x1 x2 s0 : Int}  (k : Q (.inl (some (vi s0)), h, kc, ks))   : wr P d sw_c543 sw_h543 (37, [r0, vi x1, vi x2], [vi s0], h, kc, ks) Q := by
  exact w_iret rfl k

theorem k543_38 {P : s_P} {d : Nat} {Q : s_O → Prop} {h : s_H} {kc ks : Nat} {r0 : Term} {x1 x2 : Int} {q2 : Nat} {f3 : List Term} (g4 : s_get h q2 = some (1, 11, f3)) (k : wm P d 569 [.index q2] h (wq P d sw_c543 sw_h543 42 [.index q2, vi x1, vi x2] [] kc ks Q)) (e_q2 : r0 = .index q2 := by first | rfl | assumption) (y1 : s_ty r0 = 3 := by first | rfl | assumption)  : wr P d sw_c543 sw_h543 (38, [r0, vi x1, vi x2], [], h, kc, ks) Q := by
  refine w_ld rfl rfl (Or.inr (Or.inr ⟨by decide, y1⟩)) ?_
  subst e_q2
  exact w_cv rfl [.index q2] [] rfl rfl (s_wt_4 rfl) rfl g4 k

theorem k543_42 {P : s_P} {d : Nat} {Q : s_O → Prop} {h : s_H} {kc ks : Nat} {r0 : Term} {x1 x2 : Int} {q2 : Nat} {f3 : List Term} (g4 : s_get h q2 = some (1, 11, f3)) (k : wm P d 499 [.index q2, vi 4] h (wq P d sw_c543 sw_h543 47 [.index q2, vi x1, vi x2] [] kc ks Q)) (e_q2 : r0 = .index q2 := by first | rfl | assumption) (y1 : s_ty r0 = 3 := by first | rfl | assumption)  : wr P d sw_c543 sw_h543 (42, [r0, vi x1, vi x2], [], h, kc, ks) Q := by
  refine w_ld rfl rfl (Or.inr (Or.inr ⟨by decide, y1⟩)) ?_
  refine w_c32 rfl (by decide) 4 (by decide) ?_
  subst e_q2
  exact w_cv rfl [.index q2, vi 4] [] rfl rfl (s_wt_4 rfl) rfl g4 k

theorem k543_47 {P : s_P} {d : Nat} {Q : s_O → Prop} {h : s_H} {kc ks : Nat} {r0 : Term} {x1 x2 s0 : Int}  (k : Q (.inl (some (vi s0)), h, kc, ks))   : wr P d sw_c543 sw_h543 (47, [r0, vi x1, vi x2], [vi s0], h, kc, ks) Q := by
  exact w_iret rfl k

theorem k543_48 {P : s_P} {d : Nat} {Q : s_O → Prop} {h : s_H} {kc ks : Nat} {r0 : Term} {x1 x2 : Int} {q2 : Nat} {f3 : List Term} {v5 : Term} (g4 : s_get h q2 = some (1, 11, f3)) (k : wm P d 463 [v5] h (wq P d sw_c543 sw_h543 55 [.index q2, vi x1, vi x2] [] kc ks Q)) (e_q2 : r0 = .index q2 := by first | rfl | assumption) (y1 : s_ty r0 = 3 := by first | rfl | assumption) (n6 : s_nth f3 12 = some v5 := by first | rfl | assumption)  : wr P d sw_c543 sw_h543 (48, [r0, vi x1, vi x2], [], h, kc, ks) Q := by
  refine w_ld rfl rfl (Or.inr (Or.inr ⟨by decide, y1⟩)) ?_
  subst e_q2
  refine w_getf rfl g4 n6 ?_
  exact w_cs rfl [v5] [] rfl rfl (s_wt_4 rfl) k

theorem k543_55 {P : s_P} {d : Nat} {Q : s_O → Prop} {h : s_H} {kc ks : Nat} {r0 : Term} {x1 x2 s0 : Int}  (k1 : 0 ≤ s0 → wr P d sw_c543 sw_h543 (64, [r0, vi x1, vi x2], [], h, kc, ks) Q) (k2 : ¬ 0 ≤ s0 → wr P d sw_c543 sw_h543 (58, [r0, vi x1, vi x2], [], h, kc, ks) Q)  (c1 : In3 s0 := by first | omega | assumption | (simp only [mk_len, List.length_map]; omega) | decide) : wr P d sw_c543 sw_h543 (55, [r0, vi x1, vi x2], [vi s0], h, kc, ks) Q := by
  exact w_if1 rfl c1 k1 k2

theorem k543_58 {P : s_P} {d : Nat} {Q : s_O → Prop} {h : s_H} {kc ks : Nat} {r0 : Term} {x1 x2 : Int} {q2 : Nat} {f3 : List Term} (g4 : s_get h q2 = some (1, 11, f3)) (k : wm P d 570 [.index q2, vi 3] h (wq P d sw_c543 sw_h543 63 [.index q2, vi x1, vi x2] [] kc ks Q)) (e_q2 : r0 = .index q2 := by first | rfl | assumption) (y1 : s_ty r0 = 3 := by first | rfl | assumption)  : wr P d sw_c543 sw_h543 (58, [r0, vi x1, vi x2], [], h, kc, ks) Q := by
  refine w_ld rfl rfl (Or.inr (Or.inr ⟨by decide, y1⟩)) ?_
  refine w_c32 rfl (by decide) 3 (by decide) ?_
  subst e_q2
  exact w_cv rfl [.index q2, vi 3] [] rfl rfl (s_wt_4 rfl) rfl g4 k

theorem k543_63 {P : s_P} {d : Nat} {Q : s_O → Prop} {h : s_H} {kc ks : Nat} {r0 : Term} {x1 x2 s0 : Int}  (k : Q (.inl (some (vi s0)), h, kc, ks))   : wr P d sw_c543 sw_h543 (63, [r0, vi x1, vi x2], [vi s0], h, kc, ks) Q := by
  exact w_iret rfl k

theorem k543_64 {P : s_P} {d : Nat} {Q : s_O → Prop} {h : s_H} {kc ks : Nat} {r0 : Term} {x1 x2 : Int} {q2 : Nat} {f3 : List Term} (g4 : s_get h q2 = some (1, 11, f3)) (k : wm P d 568 [.index q2] h (wq P d sw_c543 sw_h543 68 [.index q2, vi x1, vi x2] [] kc ks Q)) (e_q2 : r0 = .index q2 := by first | rfl | assumption) (y1 : s_ty r0 = 3 := by first | rfl | assumption)  : wr P d sw_c543 sw_h543 (64, [r0, vi x1, vi x2], [], h, kc, ks) Q := by
  refine w_ld rfl rfl (Or.inr (Or.inr ⟨by decide, y1⟩)) ?_
  subst e_q2
  exact w_cv rfl [.index q2] [] rfl rfl (s_wt_4 rfl) rfl g4 k

theorem k543_68 {P : s_P} {d : Nat} {Q : s_O → Prop} {h : s_H} {kc ks : Nat} {r0 : Term} {x1 x2 : Int} {q2 : Nat} {f3 : List Term} (g4 : s_get h q2 = some (1, 11, f3)) (k : wm P d 495 [.index q2, vi 4] h (wq P d sw_c543 sw_h543 73 [.index q2, vi x1, vi x2] [] kc ks Q)) (e_q2 : r0 = .index q2 := by first | rfl | assumption) (y1 : s_ty r0 = 3 := by first | rfl | assumption)  : wr P d sw_c543 sw_h543 (68, [r0, vi x1, vi x2], [], h, kc, ks) Q := by
  refine w_ld rfl rfl (Or.inr (Or.inr ⟨by decide, y1⟩)) ?_
  refine w_c32 rfl (by decide) 4 (by decide) ?_
  subst e_q2
  exact w_cv rfl [.index q2, vi 4] [] rfl rfl (s_wt_4 rfl) rfl g4 k

theorem k543_73 {P : s_P} {d : Nat} {Q : s_O → Prop} {h : s_H} {kc ks : Nat} {r0 : Term} {x1 x2 s0 : Int}  (k : Q (.inl (some (vi s0)), h, kc, ks))   : wr P d sw_c543 sw_h543 (73, [r0, vi x1, vi x2], [vi s0], h, kc, ks) Q := by
  exact w_iret rfl k

/-! 544: FormulaWorksModel.own(I)I -/
theorem k544_0 {P : s_P} {d : Nat} {Q : s_O → Prop} {h : s_H} {kc ks : Nat} {r0 : Term} {x1 : Int} {t2 t3 : Term} {q2 : Nat} {f3 : List Term} (g4 : s_get h q2 = some (1, 11, f3)) (k : wm P d 491 [.index q2, vi x1] h (wq P d sw_c544 sw_h544 5 [.index q2, vi x1, t2, t3] [] kc ks Q)) (e_q2 : r0 = .index q2 := by first | rfl | assumption) (y1 : s_ty r0 = 3 := by first | rfl | assumption)  : wr P d sw_c544 sw_h544 (0, [r0, vi x1, t2, t3], [], h, kc, ks) Q := by
  refine w_ld rfl rfl (Or.inr (Or.inr ⟨by decide, y1⟩)) ?_
  refine w_ld rfl rfl (Or.inl ⟨by decide, rfl⟩) ?_
  subst e_q2
  exact w_cv rfl [.index q2, vi x1] [] rfl rfl (s_wt_4 rfl) rfl g4 k

theorem k544_5 {P : s_P} {d : Nat} {Q : s_O → Prop} {h : s_H} {kc ks : Nat} {r0 : Term} {x1 : Int} {t2 t3 : Term} {s0 : Int}  (k1 : s0 ≠ 0 → wr P d sw_c544 sw_h544 (10, [r0, vi x1, t2, t3], [], h, kc, ks) Q) (k2 : ¬ s0 ≠ 0 → wr P d sw_c544 sw_h544 (8, [r0, vi x1, t2, t3], [], h, kc, ks) Q)  (c1 : In3 s0 := by first | omega | assumption | (simp only [mk_len, List.length_map]; omega) | decide) : wr P d sw_c544 sw_h544 (5, [r0, vi x1, t2, t3], [vi s0], h, kc, ks) Q := by
  exact w_if1 rfl c1 k1 k2

theorem k544_8 {P : s_P} {d : Nat} {Q : s_O → Prop} {h : s_H} {kc ks : Nat} {r0 : Term} {x1 : Int} {t2 t3 : Term}  (k : Q (.inl (some (vi 0)), h, kc, ks))   : wr P d sw_c544 sw_h544 (8, [r0, vi x1, t2, t3], [], h, kc, ks) Q := by
  refine w_c32 rfl (by decide) 0 (by decide) ?_
  exact w_iret rfl k

theorem k544_10 {P : s_P} {d : Nat} {Q : s_O → Prop} {h : s_H} {kc ks : Nat} {r0 : Term} {x1 : Int} {t2 t3 : Term} {q2 : Nat} {f3 : List Term} {z5 : Int} (g4 : s_get h q2 = some (1, 11, f3)) (k1 : z5 ≠ 150 → wr P d sw_c544 sw_h544 (26, [.index q2, vi x1, t2, t3], [], h, kc, ks) Q) (k2 : ¬ z5 ≠ 150 → wr P d sw_c544 sw_h544 (20, [.index q2, vi x1, t2, t3], [], h, kc, ks) Q) (e_q2 : r0 = .index q2 := by first | rfl | assumption) (y1 : s_ty r0 = 3 := by first | rfl | assumption) (n6 : s_nth f3 1 = some (vi z5) := by first | rfl | assumption) (c7 : In3 z5 := by first | omega | assumption | (simp only [mk_len, List.length_map]; omega) | decide) : wr P d sw_c544 sw_h544 (10, [r0, vi x1, t2, t3], [], h, kc, ks) Q := by
  refine w_ld rfl rfl (Or.inr (Or.inr ⟨by decide, y1⟩)) ?_
  subst e_q2
  refine w_getf rfl g4 n6 ?_
  refine w_c32 rfl (by decide) 150 (by decide) ?_
  exact w_if2 rfl c7 (by decide) k1 k2

theorem k544_20 {P : s_P} {d : Nat} {Q : s_O → Prop} {h : s_H} {kc ks : Nat} {r0 : Term} {x1 : Int} {t2 t3 : Term} {q2 : Nat} {f3 : List Term} (g4 : s_get h q2 = some (1, 11, f3)) (k : wm P d 570 [.index q2, vi 3] h (wq P d sw_c544 sw_h544 25 [.index q2, vi x1, t2, t3] [] kc ks Q)) (e_q2 : r0 = .index q2 := by first | rfl | assumption) (y1 : s_ty r0 = 3 := by first | rfl | assumption)  : wr P d sw_c544 sw_h544 (20, [r0, vi x1, t2, t3], [], h, kc, ks) Q := by
  refine w_ld rfl rfl (Or.inr (Or.inr ⟨by decide, y1⟩)) ?_
  refine w_c32 rfl (by decide) 3 (by decide) ?_
  subst e_q2
  exact w_cv rfl [.index q2, vi 3] [] rfl rfl (s_wt_4 rfl) rfl g4 k

theorem k544_25 {P : s_P} {d : Nat} {Q : s_O → Prop} {h : s_H} {kc ks : Nat} {r0 : Term} {x1 : Int} {t2 t3 : Term} {s0 : Int}  (k : Q (.inl (some (vi s0)), h, kc, ks))   : wr P d sw_c544 sw_h544 (25, [r0, vi x1, t2, t3], [vi s0], h, kc, ks) Q := by
  exact w_iret rfl k

theorem k544_26 {P : s_P} {d : Nat} {Q : s_O → Prop} {h : s_H} {kc ks : Nat} {r0 : Term} {x1 : Int} {t2 t3 : Term}  (k : wr P d sw_c544 sw_h544 (28, [r0, vi x1, vi 0, t3], [], h, kc, ks) Q)   : wr P d sw_c544 sw_h544 (26, [r0, vi x1, t2, t3], [], h, kc, ks) Q := by
  refine w_c32 rfl (by decide) 0 (by decide) ?_
  refine w_st (ls' := [r0, vi x1, vi 0, t3]) rfl (Or.inl ⟨by decide, rfl⟩) rfl ?_
  exact k

theorem k544_28 {P : s_P} {d : Nat} {Q : s_O → Prop} {h : s_H} {kc ks : Nat} {r0 : Term} {x1 x2 : Int} {t3 : Term} {q2 : Nat} {f3 : List Term} {v5 : Term} {q7 : Nat} {a8 : List Int} (g4 : s_get h q2 = some (1, 11, f3)) (g9 : s_get h q7 = some (0, 0, a8.map vi)) (k1 : gi a8 x1 ≤ x2 → wr P d sw_c544 sw_h544 (116, [.index q2, vi x1, vi x2, t3], [], h, kc, ks) Q) (k2 : ¬ gi a8 x1 ≤ x2 → wr P d sw_c544 sw_h544 (38, [.index q2, vi x1, vi x2, t3], [], h, kc, ks) Q) (e_q2 : r0 = .index q2 := by first | rfl | assumption) (e_q7 : v5 = .index q7 := by first | rfl | assumption) (y1 : s_ty r0 = 3 := by first | rfl | assumption) (n6 : s_nth f3 5 = some v5 := by first | rfl | assumption) (c10 : x1 < a8.length := by first | omega | assumption | (simp only [mk_len, List.length_map]; omega) | decide) (c11 : 0 ≤ x1 := by first | omega | assumption | (simp only [mk_len, List.length_map]; omega) | decide) (c12 : In3 x1 := by first | omega | assumption | (simp only [mk_len, List.length_map]; omega) | decide) (c13 : In3 x2 := by first | omega | assumption | (simp only [mk_len, List.length_map]; omega) | decide) (c14 : In3 (gi a8 x1) := by first | omega | assumption | (simp only [mk_len, List.length_map]; omega) | decide) : wr P d sw_c544 sw_h544 (28, [r0, vi x1, vi x2, t3], [], h, kc, ks) Q := by
  refine w_ld rfl rfl (Or.inl ⟨by decide, rfl⟩) ?_
  refine w_ld rfl rfl (Or.inr (Or.inr ⟨by decide, y1⟩)) ?_
  subst e_q2
  refine w_getf rfl g4 n6 ?_
  refine w_ld rfl rfl (Or.inl ⟨by decide, rfl⟩) ?_
  subst e_q7
  refine w_iald rfl g9 (Or.inl rfl) c12 c11 c10 ?_
  exact w_if2 rfl c13 c14 k1 k2

theorem k544_38 {P : s_P} {d : Nat} {Q : s_O → Prop} {h : s_H} {kc ks : Nat} {r0 : Term} {x1 x2 : Int} {t3 : Term}  (k : wr P d sw_c544 sw_h544 (40, [r0, vi x1, vi x2, vi 0], [], h, kc, ks) Q)   : wr P d sw_c544 sw_h544 (38, [r0, vi x1, vi x2, t3], [], h, kc, ks) Q := by
  refine w_c32 rfl (by decide) 0 (by decide) ?_
  refine w_st (ls' := [r0, vi x1, vi x2, vi 0]) rfl (Or.inl ⟨by decide, rfl⟩) rfl ?_
  exact k

theorem k544_40 {P : s_P} {d : Nat} {Q : s_O → Prop} {h : s_H} {kc ks : Nat} {r0 : Term} {x1 x2 x3 : Int} {q2 : Nat} {f3 : List Term} {v5 : Term} {q7 : Nat} {a8 : List Int} (g4 : s_get h q2 = some (1, 11, f3)) (g9 : s_get h q7 = some (0, 0, a8.map vi)) (k1 : gi a8 x1 ≤ x3 → wr P d sw_c544 sw_h544 (110, [.index q2, vi x1, vi x2, vi x3], [], h, kc, ks) Q) (k2 : ¬ gi a8 x1 ≤ x3 → wr P d sw_c544 sw_h544 (50, [.index q2, vi x1, vi x2, vi x3], [], h, kc, ks) Q) (e_q2 : r0 = .index q2 := by first | rfl | assumption) (e_q7 : v5 = .index q7 := by first | rfl | assumption) (y1 : s_ty r0 = 3 := by first | rfl | assumption) (n6 : s_nth f3 5 = some v5 := by first | rfl | assumption) (c10 : x1 < a8.length := by first | omega | assumption | (simp only [mk_len, List.length_map]; omega) | decide) (c11 : 0 ≤ x1 := by first | omega | assumption | (simp only [mk_len, List.length_map]; omega) | decide) (c12 : In3 x1 := by first | omega | assumption | (simp only [mk_len, List.length_map]; omega) | decide) (c13 : In3 x3 := by first | omega | assumption | (simp only [mk_len, List.length_map]; omega) | decide) (c14 : In3 (gi a8 x1) := by first | omega | assumption | (simp only [mk_len, List.length_map]; omega) | decide) : wr P d sw_c544 sw_h544 (40, [r0, vi x1, vi x2, vi x3], [], h, kc, ks) Q := by
  refine w_ld rfl rfl (Or.inl ⟨by decide, rfl⟩) ?_
  refine w_ld rfl rfl (Or.inr (Or.inr ⟨by decide, y1⟩)) ?_
  subst e_q2
  refine w_getf rfl g4 n6 ?_
  refine w_ld rfl rfl (Or.inl ⟨by decide, rfl⟩) ?_
  subst e_q7
  refine w_iald rfl g9 (Or.inl rfl) c12 c11 c10 ?_
  exact w_if2 rfl c13 c14 k1 k2

theorem k544_50 {P : s_P} {d : Nat} {Q : s_O → Prop} {h : s_H} {kc ks : Nat} {r0 : Term} {x1 x2 x3 : Int} {q2 : Nat} {f3 : List Term} {v5 : Term} (g4 : s_get h q2 = some (1, 11, f3)) (k : wm P d 508 [.index q2, v5, vi x1, vi x2, vi x3] h (wq P d sw_c544 sw_h544 61 [.index q2, vi x1, vi x2, vi x3] [] kc ks Q)) (e_q2 : r0 = .index q2 := by first | rfl | assumption) (y1 : s_ty r0 = 3 := by first | rfl | assumption) (n6 : s_nth f3 20 = some v5 := by first | rfl | assumption)  : wr P d sw_c544 sw_h544 (50, [r0, vi x1, vi x2, vi x3], [], h, kc, ks) Q := by
  refine w_ld rfl rfl (Or.inr (Or.inr ⟨by decide, y1⟩)) ?_
  refine w_ld rfl rfl (Or.inr (Or.inr ⟨by decide, y1⟩)) ?_
  subst e_q2
  refine w_getf rfl g4 n6 ?_
  refine w_ld rfl rfl (Or.inl ⟨by decide, rfl⟩) ?_
  refine w_ld rfl rfl (Or.inl ⟨by decide, rfl⟩) ?_
  refine w_ld rfl rfl (Or.inl ⟨by decide, rfl⟩) ?_
  exact w_cv rfl [.index q2, v5, vi x1, vi x2, vi x3] [] rfl rfl (s_wt_4 rfl) rfl g4 k

theorem k544_61 {P : s_P} {d : Nat} {Q : s_O → Prop} {h : s_H} {kc ks : Nat} {r0 : Term} {x1 x2 x3 : Int} {q2 : Nat} {f3 : List Term} {v5 : Term} (g4 : s_get h q2 = some (1, 11, f3)) (k : wm P d 592 [v5, vl 32002] h (wq P d sw_c544 sw_h544 71 [.index q2, vi x1, vi x2, vi x3] [] kc ks Q)) (e_q2 : r0 = .index q2 := by first | rfl | assumption) (y1 : s_ty r0 = 3 := by first | rfl | assumption) (n6 : s_nth f3 20 = some v5 := by first | rfl | assumption)  : wr P d sw_c544 sw_h544 (61, [r0, vi x1, vi x2, vi x3], [], h, kc, ks) Q := by
  refine w_ld rfl rfl (Or.inr (Or.inr ⟨by decide, y1⟩)) ?_
  subst e_q2
  refine w_getf rfl g4 n6 ?_
  refine w_c64 rfl (by decide) 32002 (by decide) ?_
  exact w_cs rfl [v5, vl 32002] [] rfl rfl (s_wt_4 rfl) k

theorem k544_71 {P : s_P} {d : Nat} {Q : s_O → Prop} {h : s_H} {kc ks : Nat} {r0 : Term} {x1 x2 x3 : Int}  (k1 : x2 ≠ x3 → wr P d sw_c544 sw_h544 (94, [r0, vi x1, vi x2, vi x3], [], h, kc, ks) Q) (k2 : ¬ x2 ≠ x3 → wr P d sw_c544 sw_h544 (76, [r0, vi x1, vi x2, vi x3], [], h, kc, ks) Q)  (c1 : In3 x2 := by first | omega | assumption | (simp only [mk_len, List.length_map]; omega) | decide) (c2 : In3 x3 := by first | omega | assumption | (simp only [mk_len, List.length_map]; omega) | decide) : wr P d sw_c544 sw_h544 (71, [r0, vi x1, vi x2, vi x3], [], h, kc, ks) Q := by
  refine w_ld rfl rfl (Or.inl ⟨by decide, rfl⟩) ?_
  refine w_ld rfl rfl (Or.inl ⟨by decide, rfl⟩) ?_
  exact w_if2 rfl c1 c2 k1 k2

theorem k544_76 {P : s_P} {d : Nat} {Q : s_O → Prop} {h : s_H} {kc ks : Nat} {r0 : Term} {x1 x2 x3 : Int} {q2 : Nat} {f3 : List Term} {v5 : Term} {q7 : Nat} {a8 : List Int} (g4 : s_get h q2 = some (1, 11, f3)) (g9 : s_get h q7 = some (0, 1, a8.map vl)) (k : wr P d sw_c544 sw_h544 (94, [.index q2, vi x1, vi x2, vi x3], [], (hp h q7 (0, 1, (a8.set (Int.toNat (1)) (Int.tmod ((gi a8 1) + 1) 32003)).map vl)), kc, ks) Q) (e_q2 : r0 = .index q2 := by first | rfl | assumption) (e_q7 : v5 = .index q7 := by first | rfl | assumption) (y1 : s_ty r0 = 3 := by first | rfl | assumption) (n6 : s_nth f3 20 = some v5 := by first | rfl | assumption) (c10 : (1 : Int) < a8.length := by first | omega | assumption | (simp only [mk_len, List.length_map]; omega) | decide) (c11 : In6 ((gi a8 1) + 1) := by first | omega | assumption | (simp only [mk_len, List.length_map]; omega) | decide) (c12 : 0 < q7 := by first | omega | assumption | (simp only [mk_len, List.length_map]; omega) | decide) : wr P d sw_c544 sw_h544 (76, [r0, vi x1, vi x2, vi x3], [], h, kc, ks) Q := by
  refine w_ld rfl rfl (Or.inr (Or.inr ⟨by decide, y1⟩)) ?_
  subst e_q2
  refine w_getf rfl g4 n6 ?_
  refine w_c32 rfl (by decide) 1 (by decide) ?_
  refine w_ld rfl rfl (Or.inr (Or.inr ⟨by decide, rfl⟩)) ?_
  refine w_getf rfl g4 n6 ?_
  refine w_c32 rfl (by decide) 1 (by decide) ?_
  subst e_q7
  refine w_lald rfl g9 (by decide) (by decide) c10 ?_
  refine w_c64 rfl (by decide) 1 (by decide) ?_
  refine w_ladd rfl ?_
  refine w_c64 rfl (by decide) 32003 (by decide) ?_
  refine w_lrem rfl c11 (by decide) (by decide) ?_
  refine w_last rfl g9 (Nat.ble_eq_true_of_le c12) (by decide) (by decide) c10 ?_
  exact k

theorem k544_94 {P : s_P} {d : Nat} {Q : s_O → Prop} {h : s_H} {kc ks : Nat} {r0 : Term} {x1 x2 x3 : Int} {q2 : Nat} {f3 : List Term} {v5 : Term} (g4 : s_get h q2 = some (1, 11, f3)) (k : wm P d 496 [.index q2, v5, vi x2, vi x3] h (wq P d sw_c544 sw_h544 104 [.index q2, vi x1, vi x2, vi x3] [] kc ks Q)) (e_q2 : r0 = .index q2 := by first | rfl | assumption) (y1 : s_ty r0 = 3 := by first | rfl | assumption) (n6 : s_nth f3 20 = some v5 := by first | rfl | assumption)  : wr P d sw_c544 sw_h544 (94, [r0, vi x1, vi x2, vi x3], [], h, kc, ks) Q := by
  refine w_ld rfl rfl (Or.inr (Or.inr ⟨by decide, y1⟩)) ?_
  refine w_ld rfl rfl (Or.inr (Or.inr ⟨by decide, y1⟩)) ?_
  subst e_q2
  refine w_getf rfl g4 n6 ?_
  refine w_ld rfl rfl (Or.inl ⟨by decide, rfl⟩) ?_
  refine w_ld rfl rfl (Or.inl ⟨by decide, rfl⟩) ?_
  exact w_cv rfl [.index q2, v5, vi x2, vi x3] [] rfl rfl (s_wt_4 rfl) rfl g4 k

theorem k544_104 {P : s_P} {d : Nat} {Q : s_O → Prop} {h : s_H} {kc ks : Nat} {r0 : Term} {x1 x2 x3 : Int}  (k : wr P d sw_c544 sw_h544 (40, [r0, vi x1, vi x2, vi (x3 + 1)], [], h, kc, ks) Q)   : wr P d sw_c544 sw_h544 (104, [r0, vi x1, vi x2, vi x3], [], h, kc, ks) Q := by
  refine w_iinc (ls' := [r0, vi x1, vi x2, vi (x3 + 1)]) rfl rfl 1 (by decide) rfl ?_
  refine w_goto rfl ?_
  exact k

theorem k544_110 {P : s_P} {d : Nat} {Q : s_O → Prop} {h : s_H} {kc ks : Nat} {r0 : Term} {x1 x2 x3 : Int}  (k : wr P d sw_c544 sw_h544 (28, [r0, vi x1, vi (x2 + 1), vi x3], [], h, kc, ks) Q)   : wr P d sw_c544 sw_h544 (110, [r0, vi x1, vi x2, vi x3], [], h, kc, ks) Q := by
  refine w_iinc (ls' := [r0, vi x1, vi (x2 + 1), vi x3]) rfl rfl 1 (by decide) rfl ?_
  refine w_goto rfl ?_
  exact k

theorem k544_116 {P : s_P} {d : Nat} {Q : s_O → Prop} {h : s_H} {kc ks : Nat} {r0 : Term} {x1 x2 : Int} {t3 : Term} {q2 : Nat} {f3 : List Term} {v5 : Term} {q7 : Nat} {a8 : List Int} (g4 : s_get h q2 = some (1, 11, f3)) (g9 : s_get h q7 = some (0, 0, a8.map vi)) (k : wm P d 498 [.index q2, vi (gi a8 x1), vi (gi a8 x1)] h (wq P d sw_c544 sw_h544 132 [.index q2, vi x1, vi x2, t3] [] kc ks Q)) (e_q2 : r0 = .index q2 := by first | rfl | assumption) (e_q7 : v5 = .index q7 := by first | rfl | assumption) (y1 : s_ty r0 = 3 := by first | rfl | assumption) (n6 : s_nth f3 5 = some v5 := by first | rfl | assumption) (c10 : x1 < a8.length := by first | omega | assumption | (simp only [mk_len, List.length_map]; omega) | decide) (c11 : 0 ≤ x1 := by first | omega | assumption | (simp only [mk_len, List.length_map]; omega) | decide) (c12 : In3 x1 := by first | omega | assumption | (simp only [mk_len, List.length_map]; omega) | decide) : wr P d sw_c544 sw_h544 (116, [r0, vi x1, vi x2, t3], [], h, kc, ks) Q := by
  refine w_ld rfl rfl (Or.inr (Or.inr ⟨by decide, y1⟩)) ?_
  refine w_ld rfl rfl (Or.inr (Or.inr ⟨by decide, y1⟩)) ?_
  subst e_q2
  refine w_getf rfl g4 n6 ?_
  refine w_ld rfl rfl (Or.inl ⟨by decide, rfl⟩) ?_
  subst e_q7
  refine w_iald rfl g9 (Or.inl rfl) c12 c11 c10 ?_
  refine w_ld rfl rfl (Or.inr (Or.inr ⟨by decide, rfl⟩)) ?_
  refine w_getf rfl g4 n6 ?_
  refine w_ld rfl rfl (Or.inl ⟨by decide, rfl⟩) ?_
  refine w_iald rfl g9 (Or.inl rfl) c12 c11 c10 ?_
  exact w_cv rfl [.index q2, vi (gi a8 x1), vi (gi a8 x1)] [] rfl rfl (s_wt_4 rfl) rfl g4 k

theorem k544_132 {P : s_P} {d : Nat} {Q : s_O → Prop} {h : s_H} {kc ks : Nat} {r0 : Term} {x1 x2 : Int} {t3 : Term} {s0 : Int}  (k : Q (.inl (some (vi s0)), h, kc, ks))   : wr P d sw_c544 sw_h544 (132, [r0, vi x1, vi x2, t3], [vi s0], h, kc, ks) Q := by
  exact w_iret rfl k

/-! 545: FormulaWorksModel.part(III)I -/
theorem k545_0 {P : s_P} {d : Nat} {Q : s_O → Prop} {h : s_H} {kc ks : Nat} {r0 : Term} {x1 x2 x3 : Int} {t4 t5 t6 t7 t8 t9 t10 : Term} {q2 : Nat} {f3 : List Term} (g4 : s_get h q2 = some (1, 11, f3)) (k : wm P d 481 [.index q2, vi x1, vi 0] h (wq P d sw_c545 sw_h545 6 [.index q2, vi x1, vi x2, vi x3, t4, t5, t6, t7, t8, t9, t10] [] kc ks Q)) (e_q2 : r0 = .index q2 := by first | rfl | assumption) (y1 : s_ty r0 = 3 := by first | rfl | assumption)  : wr P d sw_c545 sw_h545 (0, [r0, vi x1, vi x2, vi x3, t4, t5, t6, t7, t8, t9, t10], [], h, kc, ks) Q := by
  refine w_ld rfl rfl (Or.inr (Or.inr ⟨by decide, y1⟩)) ?_
  refine w_ld rfl rfl (Or.inl ⟨by decide, rfl⟩) ?_
  refine w_c32 rfl (by decide) 0 (by decide) ?_
  subst e_q2
  exact w_cv rfl [.index q2, vi x1, vi 0] [] rfl rfl (s_wt_4 rfl) rfl g4 k

theorem k545_6 {P : s_P} {d : Nat} {Q : s_O → Prop} {h : s_H} {kc ks : Nat} {r0 : Term} {x1 x2 x3 : Int} {t4 t5 t6 t7 t8 t9 t10 : Term} {s0 : Int}  (k1 : s0 ≠ 0 → wr P d sw_c545 sw_h545 (11, [r0, vi x1, vi x2, vi x3, t4, t5, t6, t7, t8, t9, t10], [], h, kc, ks) Q) (k2 : ¬ s0 ≠ 0 → wr P d sw_c545 sw_h545 (9, [r0, vi x1, vi x2, vi x3, t4, t5, t6, t7, t8, t9, t10], [], h, kc, ks) Q)  (c1 : In3 s0 := by first | omega | assumption | (simp only [mk_len, List.length_map]; omega) | decide) : wr P d sw_c545 sw_h545 (6, [r0, vi x1, vi x2, vi x3, t4, t5, t6, t7, t8, t9, t10], [vi s0], h, kc, ks) Q := by
  exact w_if1 rfl c1 k1 k2

theorem k545_9 {P : s_P} {d : Nat} {Q : s_O → Prop} {h : s_H} {kc ks : Nat} {r0 : Term} {x1 x2 x3 : Int} {t4 t5 t6 t7 t8 t9 t10 : Term}  (k : Q (.inl (some (vi 0)), h, kc, ks))   : wr P d sw_c545 sw_h545 (9, [r0, vi x1, vi x2, vi x3, t4, t5, t6, t7, t8, t9, t10], [], h, kc, ks) Q := by
  refine w_c32 rfl (by decide) 0 (by decide) ?_
  exact w_iret rfl k

theorem k545_11 {P : s_P} {d : Nat} {Q : s_O → Prop} {h : s_H} {kc ks : Nat} {r0 : Term} {x1 x2 x3 : Int} {t4 t5 t6 t7 t8 t9 t10 : Term} {q2 : Nat} {f3 f7 : List Term} {v9 : Term} (g4 : s_get h q2 = some (1, 11, f3)) (g8 : s_get (hp h q2 (1, 11, f3.set 26 (vi 0))) q2 = some (1, 11, f7)) (k : wm P d 483 [v9] (hp h q2 (1, 11, f3.set 26 (vi 0))) (wq P d sw_c545 sw_h545 23 [.index q2, vi x1, vi x2, vi x3, t4, t5, t6, t7, t8, t9, t10] [] kc ks Q)) (e_q2 : r0 = .index q2 := by first | rfl | assumption) (y1 : s_ty r0 = 3 := by first | rfl | assumption) (l5 : 26 < f3.length := by first | exact Nat.le_of_ble_eq_true rfl | omega | assumption) (n10 : s_nth f7 11 = some v9 := by first | rfl | assumption) (c6 : 0 < q2 := by first | omega | assumption | (simp only [mk_len, List.length_map]; omega) | decide) : wr P d sw_c545 sw_h545 (11, [r0, vi x1, vi x2, vi x3, t4, t5, t6, t7, t8, t9, t10], [], h, kc, ks) Q := by
  refine w_ld rfl rfl (Or.inr (Or.inr ⟨by decide, y1⟩)) ?_
  refine w_c32 rfl (by decide) 0 (by decide) ?_
  subst e_q2
  refine w_putf rfl g4 (Nat.ble_eq_true_of_le c6) rfl (Nat.ble_eq_true_of_le l5) ?_
  refine w_ld rfl rfl (Or.inr (Or.inr ⟨by decide, rfl⟩)) ?_
  refine w_getf rfl g8 n10 ?_
  exact w_cs rfl [v9] [] rfl rfl (s_wt_4 rfl) k

theorem k545_23 {P : s_P} {d : Nat} {Q : s_O → Prop} {h : s_H} {kc ks : Nat} {r0 : Term} {x1 x2 x3 : Int} {t4 t5 t6 t7 t8 t9 t10 : Term} {s0 : Int}  (k1 : s0 ≠ 0 → wr P d sw_c545 sw_h545 (34, [r0, vi x1, vi x2, vi x3, t4, t5, t6, t7, t8, t9, t10], [], h, kc, ks) Q) (k2 : ¬ s0 ≠ 0 → wr P d sw_c545 sw_h545 (26, [r0, vi x1, vi x2, vi x3, t4, t5, t6, t7, t8, t9, t10], [], h, kc, ks) Q)  (c1 : In3 s0 := by first | omega | assumption | (simp only [mk_len, List.length_map]; omega) | decide) : wr P d sw_c545 sw_h545 (23, [r0, vi x1, vi x2, vi x3, t4, t5, t6, t7, t8, t9, t10], [vi s0], h, kc, ks) Q := by
  exact w_if1 rfl c1 k1 k2

theorem k545_26 {P : s_P} {d : Nat} {Q : s_O → Prop} {h : s_H} {kc ks : Nat} {r0 : Term} {x1 x2 x3 : Int} {t4 t5 t6 t7 t8 t9 t10 : Term} {q2 : Nat} {f3 : List Term} {v5 : Term} (g4 : s_get h q2 = some (1, 11, f3)) (k : wm P d 450 [.index q2, v5] h (wq P d sw_c545 sw_h545 34 [.index q2, vi x1, vi x2, vi x3, t4, t5, t6, t7, t8, t9, t10] [] kc ks Q)) (e_q2 : r0 = .index q2 := by first | rfl | assumption) (y1 : s_ty r0 = 3 := by first | rfl | assumption) (n6 : s_nth f3 11 = some v5 := by first | rfl | assumption)  : wr P d sw_c545 sw_h545 (26, [r0, vi x1, vi x2, vi x3, t4, t5, t6, t7, t8, t9, t10], [], h, kc, ks) Q := by
  refine w_ld rfl rfl (Or.inr (Or.inr ⟨by decide, y1⟩)) ?_
  refine w_ld rfl rfl (Or.inr (Or.inr ⟨by decide, y1⟩)) ?_
  subst e_q2
  refine w_getf rfl g4 n6 ?_
  exact w_cv rfl [.index q2, v5] [] rfl rfl (s_wt_4 rfl) rfl g4 k

theorem k545_34 {P : s_P} {d : Nat} {Q : s_O → Prop} {h : s_H} {kc ks : Nat} {r0 : Term} {x1 x2 x3 : Int} {t4 t5 t6 t7 t8 t9 t10 : Term} {q3 : Nat} {f4 : List Term} {z6 : Int} (g5 : s_get h q3 = some (1, 11, f4)) (k : wm P d 464 [vl x2, vl 0, vl (z6 - 1)] h (wq P d sw_c545 sw_h545 47 [.index q3, vi x1, vi x2, vi x3, t4, t5, t6, t7, t8, t9, t10] [] kc ks Q)) (e_q3 : r0 = .index q3 := by first | rfl | assumption) (y2 : s_ty r0 = 3 := by first | rfl | assumption) (n7 : s_nth f4 26 = some (vi z6) := by first | rfl | assumption) (c1 : In3 x2 := by first | omega | assumption | (simp only [mk_len, List.length_map]; omega) | decide) (c8 : In3 (z6 - 1) := by first | omega | assumption | (simp only [mk_len, List.length_map]; omega) | decide) : wr P d sw_c545 sw_h545 (34, [r0, vi x1, vi x2, vi x3, t4, t5, t6, t7, t8, t9, t10], [], h, kc, ks) Q := by
  refine w_ld rfl rfl (Or.inl ⟨by decide, rfl⟩) ?_
  refine w_i2l rfl c1 ?_
  refine w_c64 rfl (by decide) 0 (by decide) ?_
  refine w_ld rfl rfl (Or.inr (Or.inr ⟨by decide, y2⟩)) ?_
  subst e_q3
  refine w_getf rfl g5 n7 ?_
  refine w_c32 rfl (by decide) 1 (by decide) ?_
  refine w_isub rfl ?_
  refine w_i2l rfl c8 ?_
  exact w_cs rfl [vl x2, vl 0, vl (z6 - 1)] [] rfl rfl (s_wt_4 rfl) k

theorem k545_47 {P : s_P} {d : Nat} {Q : s_O → Prop} {h : s_H} {kc ks : Nat} {r0 : Term} {x1 x2 x3 : Int} {t4 t5 t6 t7 t8 t9 t10 : Term} {s0 : Int}  (k1 : s0 = 0 → wr P d sw_c545 sw_h545 (66, [r0, vi x1, vi x2, vi x3, t4, t5, t6, t7, t8, t9, t10], [], h, kc, ks) Q) (k2 : ¬ s0 = 0 → wr P d sw_c545 sw_h545 (50, [r0, vi x1, vi x2, vi x3, t4, t5, t6, t7, t8, t9, t10], [], h, kc, ks) Q)  (c1 : In3 s0 := by first | omega | assumption | (simp only [mk_len, List.length_map]; omega) | decide) : wr P d sw_c545 sw_h545 (47, [r0, vi x1, vi x2, vi x3, t4, t5, t6, t7, t8, t9, t10], [vi s0], h, kc, ks) Q := by
  exact w_if1 rfl c1 k1 k2

theorem k545_50 {P : s_P} {d : Nat} {Q : s_O → Prop} {h : s_H} {kc ks : Nat} {r0 : Term} {x1 x2 x3 : Int} {t4 t5 t6 t7 t8 t9 t10 : Term} {q3 : Nat} {f4 : List Term} {v6 : Term} {q8 : Nat} {a9 : List Int} (g5 : s_get h q3 = some (1, 11, f4)) (g10 : s_get h q8 = some (0, 0, a9.map vi)) (k : wm P d 464 [vl x3, vl 1, vl (gi a9 x2)] h (wq P d sw_c545 sw_h545 63 [.index q3, vi x1, vi x2, vi x3, t4, t5, t6, t7, t8, t9, t10] [] kc ks Q)) (e_q3 : r0 = .index q3 := by first | rfl | assumption) (e_q8 : v6 = .index q8 := by first | rfl | assumption) (y2 : s_ty r0 = 3 := by first | rfl | assumption) (n7 : s_nth f4 29 = some v6 := by first | rfl | assumption) (c1 : In3 x3 := by first | omega | assumption | (simp only [mk_len, List.length_map]; omega) | decide) (c11 : x2 < a9.length := by first | omega | assumption | (simp only [mk_len, List.length_map]; omega) | decide) (c12 : 0 ≤ x2 := by first | omega | assumption | (simp only [mk_len, List.length_map]; omega) | decide) (c13 : In3 x2 := by first | omega | assumption | (simp only [mk_len, List.length_map]; omega) | decide) (c14 : In3 (gi a9 x2) := by first | omega | assumption | (simp only [mk_len, List.length_map]; omega) | decide) : wr P d sw_c545 sw_h545 (50, [r0, vi x1, vi x2, vi x3, t4, t5, t6, t7, t8, t9, t10], [], h, kc, ks) Q := by
  refine w_ld rfl rfl (Or.inl ⟨by decide, rfl⟩) ?_
  refine w_i2l rfl c1 ?_
  refine w_c64 rfl (by decide) 1 (by decide) ?_
  refine w_ld rfl rfl (Or.inr (Or.inr ⟨by decide, y2⟩)) ?_
  subst e_q3
  refine w_getf rfl g5 n7 ?_
  refine w_ld rfl rfl (Or.inl ⟨by decide, rfl⟩) ?_
  subst e_q8
  refine w_iald rfl g10 (Or.inl rfl) c13 c12 c11 ?_
  refine w_i2l rfl c14 ?_
  exact w_cs rfl [vl x3, vl 1, vl (gi a9 x2)] [] rfl rfl (s_wt_4 rfl) k

theorem k545_63 {P : s_P} {d : Nat} {Q : s_O → Prop} {h : s_H} {kc ks : Nat} {r0 : Term} {x1 x2 x3 : Int} {t4 t5 t6 t7 t8 t9 t10 : Term} {s0 : Int}  (k1 : s0 ≠ 0 → wr P d sw_c545 sw_h545 (72, [r0, vi x1, vi x2, vi x3, t4, t5, t6, t7, t8, t9, t10], [], h, kc, ks) Q) (k2 : ¬ s0 ≠ 0 → wr P d sw_c545 sw_h545 (66, [r0, vi x1, vi x2, vi x3, t4, t5, t6, t7, t8, t9, t10], [], h, kc, ks) Q)  (c1 : In3 s0 := by first | omega | assumption | (simp only [mk_len, List.length_map]; omega) | decide) : wr P d sw_c545 sw_h545 (63, [r0, vi x1, vi x2, vi x3, t4, t5, t6, t7, t8, t9, t10], [vi s0], h, kc, ks) Q := by
  exact w_if1 rfl c1 k1 k2

theorem k545_66 {P : s_P} {d : Nat} {Q : s_O → Prop} {h : s_H} {kc ks : Nat} {r0 : Term} {x1 x2 x3 : Int} {t4 t5 t6 t7 t8 t9 t10 : Term} {q2 : Nat} {f3 : List Term} (g4 : s_get h q2 = some (1, 11, f3)) (k : wm P d 570 [.index q2, vi 1] h (wq P d sw_c545 sw_h545 71 [.index q2, vi x1, vi x2, vi x3, t4, t5, t6, t7, t8, t9, t10] [] kc ks Q)) (e_q2 : r0 = .index q2 := by first | rfl | assumption) (y1 : s_ty r0 = 3 := by first | rfl | assumption)  : wr P d sw_c545 sw_h545 (66, [r0, vi x1, vi x2, vi x3, t4, t5, t6, t7, t8, t9, t10], [], h, kc, ks) Q := by
  refine w_ld rfl rfl (Or.inr (Or.inr ⟨by decide, y1⟩)) ?_
  refine w_c32 rfl (by decide) 1 (by decide) ?_
  subst e_q2
  exact w_cv rfl [.index q2, vi 1] [] rfl rfl (s_wt_4 rfl) rfl g4 k

theorem k545_71 {P : s_P} {d : Nat} {Q : s_O → Prop} {h : s_H} {kc ks : Nat} {r0 : Term} {x1 x2 x3 : Int} {t4 t5 t6 t7 t8 t9 t10 : Term} {s0 : Int}  (k : Q (.inl (some (vi s0)), h, kc, ks))   : wr P d sw_c545 sw_h545 (71, [r0, vi x1, vi x2, vi x3, t4, t5, t6, t7, t8, t9, t10], [vi s0], h, kc, ks) Q := by
  exact w_iret rfl k

theorem k545_72 {P : s_P} {d : Nat} {Q : s_O → Prop} {h : s_H} {kc ks : Nat} {r0 : Term} {x1 x2 x3 : Int} {t4 t5 t6 t7 t8 t9 t10 : Term} {q2 : Nat} {f3 : List Term} (g4 : s_get h q2 = some (1, 11, f3)) (k : wm P d 598 [.index q2] h (wq P d sw_c545 sw_h545 76 [.index q2, vi x1, vi x2, vi x3, t4, t5, t6, t7, t8, t9, t10] [] kc ks Q)) (e_q2 : r0 = .index q2 := by first | rfl | assumption) (y1 : s_ty r0 = 3 := by first | rfl | assumption)  : wr P d sw_c545 sw_h545 (72, [r0, vi x1, vi x2, vi x3, t4, t5, t6, t7, t8, t9, t10], [], h, kc, ks) Q := by
  refine w_ld rfl rfl (Or.inr (Or.inr ⟨by decide, y1⟩)) ?_
  subst e_q2
  exact w_cv rfl [.index q2] [] rfl rfl (s_wt_4 rfl) rfl g4 k

theorem k545_76 {P : s_P} {d : Nat} {Q : s_O → Prop} {h : s_H} {kc ks : Nat} {r0 : Term} {x1 x2 x3 : Int} {t4 t5 t6 t7 t8 t9 t10 : Term} {q2 : Nat} {f3 : List Term} {v5 : Term} (g4 : s_get h q2 = some (1, 11, f3)) (k : wm P d 463 [v5] h (wq P d sw_c545 sw_h545 83 [.index q2, vi x1, vi x2, vi x3, t4, t5, t6, t7, t8, t9, t10] [] kc ks Q)) (e_q2 : r0 = .index q2 := by first | rfl | assumption) (y1 : s_ty r0 = 3 := by first | rfl | assumption) (n6 : s_nth f3 11 = some v5 := by first | rfl | assumption)  : wr P d sw_c545 sw_h545 (76, [r0, vi x1, vi x2, vi x3, t4, t5, t6, t7, t8, t9, t10], [], h, kc, ks) Q := by
  refine w_ld rfl rfl (Or.inr (Or.inr ⟨by decide, y1⟩)) ?_
  subst e_q2
  refine w_getf rfl g4 n6 ?_
  exact w_cs rfl [v5] [] rfl rfl (s_wt_4 rfl) k

theorem k545_83 {P : s_P} {d : Nat} {Q : s_O → Prop} {h : s_H} {kc ks : Nat} {r0 : Term} {x1 x2 x3 : Int} {t4 t5 t6 t7 t8 t9 t10 : Term} {s0 : Int} {q2 : Nat} {f3 : List Term} (g4 : s_get h q2 = some (1, 11, f3)) (k : wm P d 439 [.index q2] h (wq P d sw_c545 sw_h545 89 [.index q2, vi x1, vi x2, vi x3, vi s0, t5, t6, t7, t8, t9, t10] [] kc ks Q)) (e_q2 : r0 = .index q2 := by first | rfl | assumption) (y1 : s_ty r0 = 3 := by first | rfl | assumption)  : wr P d sw_c545 sw_h545 (83, [r0, vi x1, vi x2, vi x3, t4, t5, t6, t7, t8, t9, t10], [vi s0], h, kc, ks) Q := by
  refine w_st (ls' := [r0, vi x1, vi x2, vi x3, vi s0, t5, t6, t7, t8, t9, t10]) rfl (Or.inl ⟨by decide, rfl⟩) rfl ?_
  refine w_ld rfl rfl (Or.inr (Or.inr ⟨by decide, y1⟩)) ?_
  subst e_q2
  exact w_cv rfl [.index q2] [] rfl rfl (s_wt_4 rfl) rfl g4 k

theorem k545_89 {P : s_P} {d : Nat} {Q : s_O → Prop} {h : s_H} {kc ks : Nat} {r0 : Term} {x1 x2 x3 x4 : Int} {t5 t6 t7 t8 t9 t10 : Term}  (k : wr P d sw_c545 sw_h545 (98, [r0, vi x1, vi x2, vi x3, vi x4, vi 0, vi 0, vi 0, t8, t9, t10], [], h, kc, ks) Q)   : wr P d sw_c545 sw_h545 (89, [r0, vi x1, vi x2, vi x3, vi x4, t5, t6, t7, t8, t9, t10], [], h, kc, ks) Q := by
  refine w_c32 rfl (by decide) 0 (by decide) ?_
  refine w_st (ls' := [r0, vi x1, vi x2, vi x3, vi x4, vi 0, t6, t7, t8, t9, t10]) rfl (Or.inl ⟨by decide, rfl⟩) rfl ?_
  refine w_c32 rfl (by decide) 0 (by decide) ?_
  refine w_st (ls' := [r0, vi x1, vi x2, vi x3, vi x4, vi 0, vi 0, t7, t8, t9, t10]) rfl (Or.inl ⟨by decide, rfl⟩) rfl ?_
  refine w_c32 rfl (by decide) 0 (by decide) ?_
  refine w_st (ls' := [r0, vi x1, vi x2, vi x3, vi x4, vi 0, vi 0, vi 0, t8, t9, t10]) rfl (Or.inl ⟨by decide, rfl⟩) rfl ?_
  exact k

theorem k545_98 {P : s_P} {d : Nat} {Q : s_O → Prop} {h : s_H} {kc ks : Nat} {r0 : Term} {x1 x2 x3 x4 x5 x6 x7 : Int} {t8 t9 t10 : Term} {q2 : Nat} {f3 : List Term} {z5 : Int} (g4 : s_get h q2 = some (1, 11, f3)) (k1 : z5 ≤ x7 → wr P d sw_c545 sw_h545 (249, [.index q2, vi x1, vi x2, vi x3, vi x4, vi x5, vi x6, vi x7, t8, t9, t10], [], h, kc, ks) Q) (k2 : ¬ z5 ≤ x7 → wr P d sw_c545 sw_h545 (107, [.index q2, vi x1, vi x2, vi x3, vi x4, vi x5, vi x6, vi x7, t8, t9, t10], [], h, kc, ks) Q) (e_q2 : r0 = .index q2 := by first | rfl | assumption) (y1 : s_ty r0 = 3 := by first | rfl | assumption) (n6 : s_nth f3 26 = some (vi z5) := by first | rfl | assumption) (c7 : In3 x7 := by first | omega | assumption | (simp only [mk_len, List.length_map]; omega) | decide) (c8 : In3 z5 := by first | omega | assumption | (simp only [mk_len, List.length_map]; omega) | decide) : wr P d sw_c545 sw_h545 (98, [r0, vi x1, vi x2, vi x3, vi x4, vi x5, vi x6, vi x7, t8, t9, t10], [], h, kc, ks) Q := by
  refine w_ld rfl rfl (Or.inl ⟨by decide, rfl⟩) ?_
  refine w_ld rfl rfl (Or.inr (Or.inr ⟨by decide, y1⟩)) ?_
  subst e_q2
  refine w_getf rfl g4 n6 ?_
  exact w_if2 rfl c7 c8 k1 k2

theorem k545_107 {P : s_P} {d : Nat} {Q : s_O → Prop} {h : s_H} {kc ks : Nat} {r0 : Term} {x1 x2 x3 x4 x5 x6 x7 : Int} {t8 t9 t10 : Term} {q2 : Nat} {f3 : List Term} {v5 : Term} (g4 : s_get h q2 = some (1, 11, f3)) (k : wm P d 509 [.index q2, v5, vi x7] h (wq P d sw_c545 sw_h545 117 [.index q2, vi x1, vi x2, vi x3, vi x4, vi x5, vi x6, vi x7, t8, t9, t10] [] kc ks Q)) (e_q2 : r0 = .index q2 := by first | rfl | assumption) (y1 : s_ty r0 = 3 := by first | rfl | assumption) (n6 : s_nth f3 24 = some v5 := by first | rfl | assumption)  : wr P d sw_c545 sw_h545 (107, [r0, vi x1, vi x2, vi x3, vi x4, vi x5, vi x6, vi x7, t8, t9, t10], [], h, kc, ks) Q := by
  refine w_ld rfl rfl (Or.inr (Or.inr ⟨by decide, y1⟩)) ?_
  refine w_ld rfl rfl (Or.inr (Or.inr ⟨by decide, y1⟩)) ?_
  subst e_q2
  refine w_getf rfl g4 n6 ?_
  refine w_ld rfl rfl (Or.inl ⟨by decide, rfl⟩) ?_
  exact w_cv rfl [.index q2, v5, vi x7] [] rfl rfl (s_wt_4 rfl) rfl g4 k

theorem k545_117 {P : s_P} {d : Nat} {Q : s_O → Prop} {h : s_H} {kc ks : Nat} {r0 : Term} {x1 x2 x3 x4 x5 x6 x7 : Int} {t8 t9 t10 : Term} {q2 : Nat} {f3 : List Term} {v5 v7 : Term} (g4 : s_get h q2 = some (1, 11, f3)) (k : wm P d 425 [v5, v7] h (wq P d sw_c545 sw_h545 128 [.index q2, vi x1, vi x2, vi x3, vi x4, vi x5, vi x6, vi x7, t8, t9, t10] [] kc ks Q)) (e_q2 : r0 = .index q2 := by first | rfl | assumption) (y1 : s_ty r0 = 3 := by first | rfl | assumption) (n6 : s_nth f3 22 = some v5 := by first | rfl | assumption) (n8 : s_nth f3 11 = some v7 := by first | rfl | assumption)  : wr P d sw_c545 sw_h545 (117, [r0, vi x1, vi x2, vi x3, vi x4, vi x5, vi x6, vi x7, t8, t9, t10], [], h, kc, ks) Q := by
  refine w_ld rfl rfl (Or.inr (Or.inr ⟨by decide, y1⟩)) ?_
  subst e_q2
  refine w_getf rfl g4 n6 ?_
  refine w_ld rfl rfl (Or.inr (Or.inr ⟨by decide, rfl⟩)) ?_
  refine w_getf rfl g4 n8 ?_
  exact w_cs rfl [v5, v7] [] rfl rfl (s_wt_4 rfl) k

theorem k545_128 {P : s_P} {d : Nat} {Q : s_O → Prop} {h : s_H} {kc ks : Nat} {r0 : Term} {x1 x2 x3 x4 x5 x6 x7 : Int} {t8 t9 t10 : Term}  (k : wr P d sw_c545 sw_h545 (131, [r0, vi x1, vi x2, vi x3, vi x4, vi x5, vi x6, vi x7, vi 1, t9, t10], [], h, kc, ks) Q)   : wr P d sw_c545 sw_h545 (128, [r0, vi x1, vi x2, vi x3, vi x4, vi x5, vi x6, vi x7, t8, t9, t10], [], h, kc, ks) Q := by
  refine w_c32 rfl (by decide) 1 (by decide) ?_
  refine w_st (ls' := [r0, vi x1, vi x2, vi x3, vi x4, vi x5, vi x6, vi x7, vi 1, t9, t10]) rfl (Or.inl ⟨by decide, rfl⟩) rfl ?_
  exact k

theorem k545_131 {P : s_P} {d : Nat} {Q : s_O → Prop} {h : s_H} {kc ks : Nat} {r0 : Term} {x1 x2 x3 x4 x5 x6 x7 x8 : Int} {t9 t10 : Term} {q2 : Nat} {f3 : List Term} {v5 : Term} {q7 : Nat} {a8 : List Int} (g4 : s_get h q2 = some (1, 11, f3)) (g9 : s_get h q7 = some (0, 0, a8.map vi)) (k1 : gi a8 x7 < x8 → wr P d sw_c545 sw_h545 (243, [.index q2, vi x1, vi x2, vi x3, vi x4, vi x5, vi x6, vi x7, vi x8, t9, t10], [], h, kc, ks) Q) (k2 : ¬ gi a8 x7 < x8 → wr P d sw_c545 sw_h545 (143, [.index q2, vi x1, vi x2, vi x3, vi x4, vi x5, vi x6, vi x7, vi x8, t9, t10], [], h, kc, ks) Q) (e_q2 : r0 = .index q2 := by first | rfl | assumption) (e_q7 : v5 = .index q7 := by first | rfl | assumption) (y1 : s_ty r0 = 3 := by first | rfl | assumption) (n6 : s_nth f3 29 = some v5 := by first | rfl | assumption) (c10 : x7 < a8.length := by first | omega | assumption | (simp only [mk_len, List.length_map]; omega) | decide) (c11 : 0 ≤ x7 := by first | omega | assumption | (simp only [mk_len, List.length_map]; omega) | decide) (c12 : In3 x7 := by first | omega | assumption | (simp only [mk_len, List.length_map]; omega) | decide) (c13 : In3 x8 := by first | omega | assumption | (simp only [mk_len, List.length_map]; omega) | decide) (c14 : In3 (gi a8 x7) := by first | omega | assumption | (simp only [mk_len, List.length_map]; omega) | decide) : wr P d sw_c545 sw_h545 (131, [r0, vi x1, vi x2, vi x3, vi x4, vi x5, vi x6, vi x7, vi x8, t9, t10], [], h, kc, ks) Q := by
  refine w_ld rfl rfl (Or.inl ⟨by decide, rfl⟩) ?_
  refine w_ld rfl rfl (Or.inr (Or.inr ⟨by decide, y1⟩)) ?_
  subst e_q2
  refine w_getf rfl g4 n6 ?_
  refine w_ld rfl rfl (Or.inl ⟨by decide, rfl⟩) ?_
  subst e_q7
  refine w_iald rfl g9 (Or.inl rfl) c12 c11 c10 ?_
  exact w_if2 rfl c13 c14 k1 k2

theorem k545_143 {P : s_P} {d : Nat} {Q : s_O → Prop} {h : s_H} {kc ks : Nat} {r0 : Term} {x1 x2 x3 x4 x5 x6 x7 x8 : Int} {t9 t10 : Term} {q2 : Nat} {f3 : List Term} {v5 v7 : Term} (g4 : s_get h q2 = some (1, 11, f3)) (k : wm P d 434 [.index q2, v5, v7] h (wq P d sw_c545 sw_h545 155 [.index q2, vi x1, vi x2, vi x3, vi x4, vi x5, vi x6, vi x7, vi x8, t9, t10] [] kc ks Q)) (e_q2 : r0 = .index q2 := by first | rfl | assumption) (y1 : s_ty r0 = 3 := by first | rfl | assumption) (n6 : s_nth f3 22 = some v5 := by first | rfl | assumption) (n8 : s_nth f3 24 = some v7 := by first | rfl | assumption)  : wr P d sw_c545 sw_h545 (143, [r0, vi x1, vi x2, vi x3, vi x4, vi x5, vi x6, vi x7, vi x8, t9, t10], [], h, kc, ks) Q := by
  refine w_ld rfl rfl (Or.inr (Or.inr ⟨by decide, y1⟩)) ?_
  refine w_ld rfl rfl (Or.inr (Or.inr ⟨by decide, y1⟩)) ?_
  subst e_q2
  refine w_getf rfl g4 n6 ?_
  refine w_ld rfl rfl (Or.inr (Or.inr ⟨by decide, rfl⟩)) ?_
  refine w_getf rfl g4 n8 ?_
  exact w_cv rfl [.index q2, v5, v7] [] rfl rfl (s_wt_4 rfl) rfl g4 k

theorem k545_155 {P : s_P} {d : Nat} {Q : s_O → Prop} {h : s_H} {kc ks : Nat} {r0 : Term} {x1 x2 x3 x4 x5 x6 x7 x8 : Int} {t9 t10 : Term}  (k1 : x7 ≠ x2 → wr P d sw_c545 sw_h545 (171, [r0, vi x1, vi x2, vi x3, vi x4, vi x5, vi x6, vi x7, vi x8, t9, t10], [], h, kc, ks) Q) (k2 : ¬ x7 ≠ x2 → wr P d sw_c545 sw_h545 (161, [r0, vi x1, vi x2, vi x3, vi x4, vi x5, vi x6, vi x7, vi x8, t9, t10], [], h, kc, ks) Q)  (c1 : In3 x7 := by first | omega | assumption | (simp only [mk_len, List.length_map]; omega) | decide) (c2 : In3 x2 := by first | omega | assumption | (simp only [mk_len, List.length_map]; omega) | decide) : wr P d sw_c545 sw_h545 (155, [r0, vi x1, vi x2, vi x3, vi x4, vi x5, vi x6, vi x7, vi x8, t9, t10], [], h, kc, ks) Q := by
  refine w_ld rfl rfl (Or.inl ⟨by decide, rfl⟩) ?_
  refine w_ld rfl rfl (Or.inl ⟨by decide, rfl⟩) ?_
  exact w_if2 rfl c1 c2 k1 k2

theorem k545_161 {P : s_P} {d : Nat} {Q : s_O → Prop} {h : s_H} {kc ks : Nat} {r0 : Term} {x1 x2 x3 x4 x5 x6 x7 x8 : Int} {t9 t10 : Term}  (k1 : x8 ≠ x3 → wr P d sw_c545 sw_h545 (171, [r0, vi x1, vi x2, vi x3, vi x4, vi x5, vi x6, vi x7, vi x8, t9, t10], [], h, kc, ks) Q) (k2 : ¬ x8 ≠ x3 → wr P d sw_c545 sw_h545 (167, [r0, vi x1, vi x2, vi x3, vi x4, vi x5, vi x6, vi x7, vi x8, t9, t10], [], h, kc, ks) Q)  (c1 : In3 x8 := by first | omega | assumption | (simp only [mk_len, List.length_map]; omega) | decide) (c2 : In3 x3 := by first | omega | assumption | (simp only [mk_len, List.length_map]; omega) | decide) : wr P d sw_c545 sw_h545 (161, [r0, vi x1, vi x2, vi x3, vi x4, vi x5, vi x6, vi x7, vi x8, t9, t10], [], h, kc, ks) Q := by
  refine w_ld rfl rfl (Or.inl ⟨by decide, rfl⟩) ?_
  refine w_ld rfl rfl (Or.inl ⟨by decide, rfl⟩) ?_
  exact w_if2 rfl c1 c2 k1 k2

theorem k545_167 {P : s_P} {d : Nat} {Q : s_O → Prop} {h : s_H} {kc ks : Nat} {r0 : Term} {x1 x2 x3 x4 x5 x6 x7 x8 : Int} {t9 t10 : Term}  (k : wr P d sw_c545 sw_h545 (171, [r0, vi x1, vi x2, vi x3, vi x4, vi x5, vi x5, vi x7, vi x8, t9, t10], [], h, kc, ks) Q)   : wr P d sw_c545 sw_h545 (167, [r0, vi x1, vi x2, vi x3, vi x4, vi x5, vi x6, vi x7, vi x8, t9, t10], [], h, kc, ks) Q := by
  refine w_ld rfl rfl (Or.inl ⟨by decide, rfl⟩) ?_
  refine w_st (ls' := [r0, vi x1, vi x2, vi x3, vi x4, vi x5, vi x5, vi x7, vi x8, t9, t10]) rfl (Or.inl ⟨by decide, rfl⟩) rfl ?_
  exact k

theorem k545_171 {P : s_P} {d : Nat} {Q : s_O → Prop} {h : s_H} {kc ks : Nat} {r0 : Term} {x1 x2 x3 x4 x5 x6 x7 x8 : Int} {t9 t10 : Term}  (k : wr P d sw_c545 sw_h545 (174, [r0, vi x1, vi x2, vi x3, vi x4, vi x5, vi x6, vi x7, vi x8, vi 0, t10], [], h, kc, ks) Q)   : wr P d sw_c545 sw_h545 (171, [r0, vi x1, vi x2, vi x3, vi x4, vi x5, vi x6, vi x7, vi x8, t9, t10], [], h, kc, ks) Q := by
  refine w_c32 rfl (by decide) 0 (by decide) ?_
  refine w_st (ls' := [r0, vi x1, vi x2, vi x3, vi x4, vi x5, vi x6, vi x7, vi x8, vi 0, t10]) rfl (Or.inl ⟨by decide, rfl⟩) rfl ?_
  exact k

theorem k545_174 {P : s_P} {d : Nat} {Q : s_O → Prop} {h : s_H} {kc ks : Nat} {r0 : Term} {x1 x2 x3 x4 x5 x6 x7 x8 x9 : Int} {t10 : Term} {q2 : Nat} {f3 : List Term} {v5 : Term} {q7 : Nat} {a8 : List Int} (g4 : s_get h q2 = some (1, 11, f3)) (g9 : s_get h q7 = some (0, 0, a8.map vi)) (k1 : gi a8 x7 ≤ x9 → wr P d sw_c545 sw_h545 (237, [.index q2, vi x1, vi x2, vi x3, vi x4, vi x5, vi x6, vi x7, vi x8, vi x9, t10], [], h, kc, ks) Q) (k2 : ¬ gi a8 x7 ≤ x9 → wr P d sw_c545 sw_h545 (186, [.index q2, vi x1, vi x2, vi x3, vi x4, vi x5, vi x6, vi x7, vi x8, vi x9, t10], [], h, kc, ks) Q) (e_q2 : r0 = .index q2 := by first | rfl | assumption) (e_q7 : v5 = .index q7 := by first | rfl | assumption) (y1 : s_ty r0 = 3 := by first | rfl | assumption) (n6 : s_nth f3 27 = some v5 := by first | rfl | assumption) (c10 : x7 < a8.length := by first | omega | assumption | (simp only [mk_len, List.length_map]; omega) | decide) (c11 : 0 ≤ x7 := by first | omega | assumption | (simp only [mk_len, List.length_map]; omega) | decide) (c12 : In3 x7 := by first | omega | assumption | (simp only [mk_len, List.length_map]; omega) | decide) (c13 : In3 x9 := by first | omega | assumption | (simp only [mk_len, List.length_map]; omega) | decide) (c14 : In3 (gi a8 x7) := by first | omega | assumption | (simp only [mk_len, List.length_map]; omega) | decide) : wr P d sw_c545 sw_h545 (174, [r0, vi x1, vi x2, vi x3, vi x4, vi x5, vi x6, vi x7, vi x8, vi x9, t10], [], h, kc, ks) Q := by
  refine w_ld rfl rfl (Or.inl ⟨by decide, rfl⟩) ?_
  refine w_ld rfl rfl (Or.inr (Or.inr ⟨by decide, y1⟩)) ?_
  subst e_q2
  refine w_getf rfl g4 n6 ?_
  refine w_ld rfl rfl (Or.inl ⟨by decide, rfl⟩) ?_
  subst e_q7
  refine w_iald rfl g9 (Or.inl rfl) c12 c11 c10 ?_
  exact w_if2 rfl c13 c14 k1 k2

theorem k545_186 {P : s_P} {d : Nat} {Q : s_O → Prop} {h : s_H} {kc ks : Nat} {r0 : Term} {x1 x2 x3 x4 x5 x6 x7 x8 x9 : Int} {t10 : Term}  (k : wr P d sw_c545 sw_h545 (189, [r0, vi x1, vi x2, vi x3, vi x4, vi x5, vi x6, vi x7, vi x8, vi x9, vi 0], [], h, kc, ks) Q)   : wr P d sw_c545 sw_h545 (186, [r0, vi x1, vi x2, vi x3, vi x4, vi x5, vi x6, vi x7, vi x8, vi x9, t10], [], h, kc, ks) Q := by
  refine w_c32 rfl (by decide) 0 (by decide) ?_
  refine w_st (ls' := [r0, vi x1, vi x2, vi x3, vi x4, vi x5, vi x6, vi x7, vi x8, vi x9, vi 0]) rfl (Or.inl ⟨by decide, rfl⟩) rfl ?_
  exact k

theorem k545_189 {P : s_P} {d : Nat} {Q : s_O → Prop} {h : s_H} {kc ks : Nat} {r0 : Term} {x1 x2 x3 x4 x5 x6 x7 x8 x9 x10 : Int}  (k1 : x4 ≤ x10 + x9 → wr P d sw_c545 sw_h545 (228, [r0, vi x1, vi x2, vi x3, vi x4, vi x5, vi x6, vi x7, vi x8, vi x9, vi x10], [], h, kc, ks) Q) (k2 : ¬ x4 ≤ x10 + x9 → wr P d sw_c545 sw_h545 (199, [r0, vi x1, vi x2, vi x3, vi x4, vi x5, vi x6, vi x7, vi x8, vi x9, vi x10], [], h, kc, ks) Q)  (c1 : In3 (x10 + x9) := by first | omega | assumption | (simp only [mk_len, List.length_map]; omega) | decide) (c2 : In3 x4 := by first | omega | assumption | (simp only [mk_len, List.length_map]; omega) | decide) : wr P d sw_c545 sw_h545 (189, [r0, vi x1, vi x2, vi x3, vi x4, vi x5, vi x6, vi x7, vi x8, vi x9, vi x10], [], h, kc, ks) Q := by
  refine w_ld rfl rfl (Or.inl ⟨by decide, rfl⟩) ?_
  refine w_ld rfl rfl (Or.inl ⟨by decide, rfl⟩) ?_
  refine w_iadd rfl ?_
  refine w_ld rfl rfl (Or.inl ⟨by decide, rfl⟩) ?_
  exact w_if2 rfl c1 c2 k1 k2

theorem k545_199 {P : s_P} {d : Nat} {Q : s_O → Prop} {h : s_H} {kc ks : Nat} {r0 : Term} {x1 x2 x3 x4 x5 x6 x7 x8 x9 x10 : Int} {q2 : Nat} {f3 : List Term} {v5 v7 : Term} {q9 : Nat} {a10 : List Int} {q15 : Nat} {a16 : List Int} (g4 : s_get h q2 = some (1, 11, f3)) (g11 : s_get h q9 = some (0, 1, a10.map vl)) (g17 : s_get h q15 = some (0, 1, a16.map vl)) (k : wr P d sw_c545 sw_h545 (189, [.index q2, vi x1, vi x2, vi x3, vi x4, vi x5, vi x6, vi x7, vi x8, vi x9, vi (x10 + 1)], [], (hp h q15 (0, 1, (a16.set (Int.toNat ((48 * (x10 + x9)) + x5)) (gi a10 x10)).map vl)), kc, ks) Q) (e_q2 : r0 = .index q2 := by first | rfl | assumption) (e_q9 : v7 = .index q9 := by first | rfl | assumption) (e_q15 : v5 = .index q15 := by first | rfl | assumption) (y1 : s_ty r0 = 3 := by first | rfl | assumption) (n6 : s_nth f3 30 = some v5 := by first | rfl | assumption) (n8 : s_nth f3 22 = some v7 := by first | rfl | assumption) (c12 : x10 < a10.length := by first | omega | assumption | (simp only [mk_len, List.length_map]; omega) | decide) (c13 : 0 ≤ x10 := by first | omega | assumption | (simp only [mk_len, List.length_map]; omega) | decide) (c14 : In3 x10 := by first | omega | assumption | (simp only [mk_len, List.length_map]; omega) | decide) (c18 : (48 * (x10 + x9)) + x5 < a16.length := by first | omega | assumption | (simp only [mk_len, List.length_map]; omega) | decide) (c19 : 0 ≤ (48 * (x10 + x9)) + x5 := by first | omega | assumption | (simp only [mk_len, List.length_map]; omega) | decide) (c20 : In3 ((48 * (x10 + x9)) + x5) := by first | omega | assumption | (simp only [mk_len, List.length_map]; omega) | decide) (c21 : 0 < q15 := by first | omega | assumption | (simp only [mk_len, List.length_map]; omega) | decide) : wr P d sw_c545 sw_h545 (199, [r0, vi x1, vi x2, vi x3, vi x4, vi x5, vi x6, vi x7, vi x8, vi x9, vi x10], [], h, kc, ks) Q := by
  refine w_ld rfl rfl (Or.inr (Or.inr ⟨by decide, y1⟩)) ?_
  subst e_q2
  refine w_getf rfl g4 n6 ?_
  refine w_c32 rfl (by decide) 48 (by decide) ?_
  refine w_ld rfl rfl (Or.inl ⟨by decide, rfl⟩) ?_
  refine w_ld rfl rfl (Or.inl ⟨by decide, rfl⟩) ?_
  refine w_iadd rfl ?_
  refine w_imul rfl ?_
  refine w_ld rfl rfl (Or.inl ⟨by decide, rfl⟩) ?_
  refine w_iadd rfl ?_
  refine w_ld rfl rfl (Or.inr (Or.inr ⟨by decide, rfl⟩)) ?_
  refine w_getf rfl g4 n8 ?_
  refine w_ld rfl rfl (Or.inl ⟨by decide, rfl⟩) ?_
  subst e_q9
  refine w_lald rfl g11 c14 c13 c12 ?_
  subst e_q15
  refine w_last rfl g17 (Nat.ble_eq_true_of_le c21) c20 c19 c18 ?_
  refine w_iinc (ls' := [.index q2, vi x1, vi x2, vi x3, vi x4, vi x5, vi x6, vi x7, vi x8, vi x9, vi (x10 + 1)]) rfl rfl 1 (by decide) rfl ?_
  refine w_goto rfl ?_
  exact k

theorem k545_228 {P : s_P} {d : Nat} {Q : s_O → Prop} {h : s_H} {kc ks : Nat} {r0 : Term} {x1 x2 x3 x4 x5 x6 x7 x8 x9 x10 : Int}  (k : wr P d sw_c545 sw_h545 (174, [r0, vi x1, vi x2, vi x3, vi x4, vi (x5 + 1), vi x6, vi x7, vi x8, vi (x9 + 1), vi x10], [], h, kc, ks) Q)   : wr P d sw_c545 sw_h545 (228, [r0, vi x1, vi x2, vi x3, vi x4, vi x5, vi x6, vi x7, vi x8, vi x9, vi x10], [], h, kc, ks) Q := by
  refine w_iinc (ls' := [r0, vi x1, vi x2, vi x3, vi x4, vi (x5 + 1), vi x6, vi x7, vi x8, vi x9, vi x10]) rfl rfl 1 (by decide) rfl ?_
  refine w_iinc (ls' := [r0, vi x1, vi x2, vi x3, vi x4, vi (x5 + 1), vi x6, vi x7, vi x8, vi (x9 + 1), vi x10]) rfl rfl 1 (by decide) rfl ?_
  refine w_goto rfl ?_
  exact k

theorem k545_237 {P : s_P} {d : Nat} {Q : s_O → Prop} {h : s_H} {kc ks : Nat} {r0 : Term} {x1 x2 x3 x4 x5 x6 x7 x8 x9 : Int} {t10 : Term}  (k : wr P d sw_c545 sw_h545 (131, [r0, vi x1, vi x2, vi x3, vi x4, vi x5, vi x6, vi x7, vi (x8 + 1), vi x9, t10], [], h, kc, ks) Q)   : wr P d sw_c545 sw_h545 (237, [r0, vi x1, vi x2, vi x3, vi x4, vi x5, vi x6, vi x7, vi x8, vi x9, t10], [], h, kc, ks) Q := by
  refine w_iinc (ls' := [r0, vi x1, vi x2, vi x3, vi x4, vi x5, vi x6, vi x7, vi (x8 + 1), vi x9, t10]) rfl rfl 1 (by decide) rfl ?_
  refine w_goto rfl ?_
  exact k

theorem k545_243 {P : s_P} {d : Nat} {Q : s_O → Prop} {h : s_H} {kc ks : Nat} {r0 : Term} {x1 x2 x3 x4 x5 x6 x7 x8 : Int} {t9 t10 : Term}  (k : wr P d sw_c545 sw_h545 (98, [r0, vi x1, vi x2, vi x3, vi x4, vi x5, vi x6, vi (x7 + 1), vi x8, t9, t10], [], h, kc, ks) Q)   : wr P d sw_c545 sw_h545 (243, [r0, vi x1, vi x2, vi x3, vi x4, vi x5, vi x6, vi x7, vi x8, t9, t10], [], h, kc, ks) Q := by
  refine w_iinc (ls' := [r0, vi x1, vi x2, vi x3, vi x4, vi x5, vi x6, vi (x7 + 1), vi x8, t9, t10]) rfl rfl 1 (by decide) rfl ?_
  refine w_goto rfl ?_
  exact k

theorem k545_249 {P : s_P} {d : Nat} {Q : s_O → Prop} {h : s_H} {kc ks : Nat} {r0 : Term} {x1 x2 x3 x4 x5 x6 x7 : Int} {t8 t9 t10 : Term}  (k : wr P d sw_c545 sw_h545 (252, [r0, vi x1, vi x2, vi x3, vi x4, vi x5, vi x6, vi 0, t8, t9, t10], [], h, kc, ks) Q)   : wr P d sw_c545 sw_h545 (249, [r0, vi x1, vi x2, vi x3, vi x4, vi x5, vi x6, vi x7, t8, t9, t10], [], h, kc, ks) Q := by
  refine w_c32 rfl (by decide) 0 (by decide) ?_
  refine w_st (ls' := [r0, vi x1, vi x2, vi x3, vi x4, vi x5, vi x6, vi 0, t8, t9, t10]) rfl (Or.inl ⟨by decide, rfl⟩) rfl ?_
  exact k

theorem k545_252 {P : s_P} {d : Nat} {Q : s_O → Prop} {h : s_H} {kc ks : Nat} {r0 : Term} {x1 x2 x3 x4 x5 x6 x7 : Int} {t8 t9 t10 : Term}  (k1 : x4 ≤ x7 → wr P d sw_c545 sw_h545 (285, [r0, vi x1, vi x2, vi x3, vi x4, vi x5, vi x6, vi x7, t8, t9, t10], [], h, kc, ks) Q) (k2 : ¬ x4 ≤ x7 → wr P d sw_c545 sw_h545 (259, [r0, vi x1, vi x2, vi x3, vi x4, vi x5, vi x6, vi x7, t8, t9, t10], [], h, kc, ks) Q)  (c1 : In3 x7 := by first | omega | assumption | (simp only [mk_len, List.length_map]; omega) | decide) (c2 : In3 x4 := by first | omega | assumption | (simp only [mk_len, List.length_map]; omega) | decide) : wr P d sw_c545 sw_h545 (252, [r0, vi x1, vi x2, vi x3, vi x4, vi x5, vi x6, vi x7, t8, t9, t10], [], h, kc, ks) Q := by
  refine w_ld rfl rfl (Or.inl ⟨by decide, rfl⟩) ?_
  refine w_ld rfl rfl (Or.inl ⟨by decide, rfl⟩) ?_
  exact w_if2 rfl c1 c2 k1 k2

theorem k545_259 {P : s_P} {d : Nat} {Q : s_O → Prop} {h : s_H} {kc ks : Nat} {r0 : Term} {x1 x2 x3 x4 x5 x6 x7 : Int} {t8 t9 t10 : Term} {q2 : Nat} {f3 : List Term} {v5 v7 : Term} {q9 : Nat} {a10 : List Int} {q15 : Nat} {a16 : List Int} (g4 : s_get h q2 = some (1, 11, f3)) (g11 : s_get h q9 = some (0, 1, a10.map vl)) (g17 : s_get h q15 = some (0, 1, a16.map vl)) (k : wr P d sw_c545 sw_h545 (252, [.index q2, vi x1, vi x2, vi x3, vi x4, vi x5, vi x6, vi (x7 + 1), t8, t9, t10], [], (hp h q15 (0, 1, (a16.set (Int.toNat ((48 * x7) + 47)) (gi a10 x7)).map vl)), kc, ks) Q) (e_q2 : r0 = .index q2 := by first | rfl | assumption) (e_q9 : v7 = .index q9 := by first | rfl | assumption) (e_q15 : v5 = .index q15 := by first | rfl | assumption) (y1 : s_ty r0 = 3 := by first | rfl | assumption) (n6 : s_nth f3 30 = some v5 := by first | rfl | assumption) (n8 : s_nth f3 10 = some v7 := by first | rfl | assumption) (c12 : x7 < a10.length := by first | omega | assumption | (simp only [mk_len, List.length_map]; omega) | decide) (c13 : 0 ≤ x7 := by first | omega | assumption | (simp only [mk_len, List.length_map]; omega) | decide) (c14 : In3 x7 := by first | omega | assumption | (simp only [mk_len, List.length_map]; omega) | decide) (c18 : (48 * x7) + 47 < a16.length := by first | omega | assumption | (simp only [mk_len, List.length_map]; omega) | decide) (c19 : 0 ≤ (48 * x7) + 47 := by first | omega | assumption | (simp only [mk_len, List.length_map]; omega) | decide) (c20 : In3 ((48 * x7) + 47) := by first | omega | assumption | (simp only [mk_len, List.length_map]; omega) | decide) (c21 : 0 < q15 := by first | omega | assumption | (simp only [mk_len, List.length_map]; omega) | decide) : wr P d sw_c545 sw_h545 (259, [r0, vi x1, vi x2, vi x3, vi x4, vi x5, vi x6, vi x7, t8, t9, t10], [], h, kc, ks) Q := by
  refine w_ld rfl rfl (Or.inr (Or.inr ⟨by decide, y1⟩)) ?_
  subst e_q2
  refine w_getf rfl g4 n6 ?_
  refine w_c32 rfl (by decide) 48 (by decide) ?_
  refine w_ld rfl rfl (Or.inl ⟨by decide, rfl⟩) ?_
  refine w_imul rfl ?_
  refine w_c32 rfl (by decide) 47 (by decide) ?_
  refine w_iadd rfl ?_
  refine w_ld rfl rfl (Or.inr (Or.inr ⟨by decide, rfl⟩)) ?_
  refine w_getf rfl g4 n8 ?_
  refine w_ld rfl rfl (Or.inl ⟨by decide, rfl⟩) ?_
  subst e_q9
  refine w_lald rfl g11 c14 c13 c12 ?_
  subst e_q15
  refine w_last rfl g17 (Nat.ble_eq_true_of_le c21) c20 c19 c18 ?_
  refine w_iinc (ls' := [.index q2, vi x1, vi x2, vi x3, vi x4, vi x5, vi x6, vi (x7 + 1), t8, t9, t10]) rfl rfl 1 (by decide) rfl ?_
  refine w_goto rfl ?_
  exact k

theorem k545_285 {P : s_P} {d : Nat} {Q : s_O → Prop} {h : s_H} {kc ks : Nat} {r0 : Term} {x1 x2 x3 x4 x5 x6 x7 : Int} {t8 t9 t10 : Term} {q2 : Nat} {f3 : List Term} (g4 : s_get h q2 = some (1, 11, f3)) (k : wm P d 417 [.index q2, vi x4, vi x4] h (wq P d sw_c545 sw_h545 293 [.index q2, vi x1, vi x2, vi x3, vi x4, vi x5, vi x6, vi x7, t8, t9, t10] [] kc ks Q)) (e_q2 : r0 = .index q2 := by first | rfl | assumption) (y1 : s_ty r0 = 3 := by first | rfl | assumption)  : wr P d sw_c545 sw_h545 (285, [r0, vi x1, vi x2, vi x3, vi x4, vi x5, vi x6, vi x7, t8, t9, t10], [], h, kc, ks) Q := by
  refine w_ld rfl rfl (Or.inr (Or.inr ⟨by decide, y1⟩)) ?_
  refine w_ld rfl rfl (Or.inl ⟨by decide, rfl⟩) ?_
  refine w_ld rfl rfl (Or.inl ⟨by decide, rfl⟩) ?_
  subst e_q2
  exact w_cv rfl [.index q2, vi x4, vi x4] [] rfl rfl (s_wt_4 rfl) rfl g4 k

theorem k545_293 {P : s_P} {d : Nat} {Q : s_O → Prop} {h : s_H} {kc ks : Nat} {r0 : Term} {x1 x2 x3 x4 x5 x6 x7 : Int} {t8 t9 t10 : Term} {q2 : Nat} {f3 : List Term} {v5 : Term} (g4 : s_get h q2 = some (1, 11, f3)) (k : wm P d 438 [v5] h (wq P d sw_c545 sw_h545 300 [.index q2, vi x1, vi x2, vi x3, vi x4, vi x5, vi x6, vi x7, t8, t9, t10] [] kc ks Q)) (e_q2 : r0 = .index q2 := by first | rfl | assumption) (y1 : s_ty r0 = 3 := by first | rfl | assumption) (n6 : s_nth f3 14 = some v5 := by first | rfl | assumption)  : wr P d sw_c545 sw_h545 (293, [r0, vi x1, vi x2, vi x3, vi x4, vi x5, vi x6, vi x7, t8, t9, t10], [], h, kc, ks) Q := by
  refine w_ld rfl rfl (Or.inr (Or.inr ⟨by decide, y1⟩)) ?_
  subst e_q2
  refine w_getf rfl g4 n6 ?_
  exact w_cs rfl [v5] [] rfl rfl (s_wt_4 rfl) k

theorem k545_300 {P : s_P} {d : Nat} {Q : s_O → Prop} {h : s_H} {kc ks : Nat} {r0 : Term} {x1 x2 x3 x4 x5 x6 x7 : Int} {t8 t9 t10 : Term}  (k : wr P d sw_c545 sw_h545 (303, [r0, vi x1, vi x2, vi x3, vi x4, vi x5, vi x6, vi 0, t8, t9, t10], [], h, kc, ks) Q)   : wr P d sw_c545 sw_h545 (300, [r0, vi x1, vi x2, vi x3, vi x4, vi x5, vi x6, vi x7, t8, t9, t10], [], h, kc, ks) Q := by
  refine w_c32 rfl (by decide) 0 (by decide) ?_
  refine w_st (ls' := [r0, vi x1, vi x2, vi x3, vi x4, vi x5, vi x6, vi 0, t8, t9, t10]) rfl (Or.inl ⟨by decide, rfl⟩) rfl ?_
  exact k

theorem k545_303 {P : s_P} {d : Nat} {Q : s_O → Prop} {h : s_H} {kc ks : Nat} {r0 : Term} {x1 x2 x3 x4 x5 x6 x7 : Int} {t8 t9 t10 : Term} {q2 : Nat} {f3 : List Term} {v5 : Term} {q7 : Nat} {a8 : List Int} (g4 : s_get h q2 = some (1, 11, f3)) (g9 : s_get h q7 = some (0, 0, a8.map vi)) (k1 : gi a8 x2 ≤ x7 → wr P d sw_c545 sw_h545 (348, [.index q2, vi x1, vi x2, vi x3, vi x4, vi x5, vi x6, vi x7, t8, t9, t10], [], h, kc, ks) Q) (k2 : ¬ gi a8 x2 ≤ x7 → wr P d sw_c545 sw_h545 (314, [.index q2, vi x1, vi x2, vi x3, vi x4, vi x5, vi x6, vi x7, t8, t9, t10], [], h, kc, ks) Q) (e_q2 : r0 = .index q2 := by first | rfl | assumption) (e_q7 : v5 = .index q7 := by first | rfl | assumption) (y1 : s_ty r0 = 3 := by first | rfl | assumption) (n6 : s_nth f3 27 = some v5 := by first | rfl | assumption) (c10 : x2 < a8.length := by first | omega | assumption | (simp only [mk_len, List.length_map]; omega) | decide) (c11 : 0 ≤ x2 := by first | omega | assumption | (simp only [mk_len, List.length_map]; omega) | decide) (c12 : In3 x2 := by first | omega | assumption | (simp only [mk_len, List.length_map]; omega) | decide) (c13 : In3 x7 := by first | omega | assumption | (simp only [mk_len, List.length_map]; omega) | decide) (c14 : In3 (gi a8 x2) := by first | omega | assumption | (simp only [mk_len, List.length_map]; omega) | decide) : wr P d sw_c545 sw_h545 (303, [r0, vi x1, vi x2, vi x3, vi x4, vi x5, vi x6, vi x7, t8, t9, t10], [], h, kc, ks) Q := by
  refine w_ld rfl rfl (Or.inl ⟨by decide, rfl⟩) ?_
  refine w_ld rfl rfl (Or.inr (Or.inr ⟨by decide, y1⟩)) ?_
  subst e_q2
  refine w_getf rfl g4 n6 ?_
  refine w_ld rfl rfl (Or.inl ⟨by decide, rfl⟩) ?_
  subst e_q7
  refine w_iald rfl g9 (Or.inl rfl) c12 c11 c10 ?_
  exact w_if2 rfl c13 c14 k1 k2

theorem k545_314 {P : s_P} {d : Nat} {Q : s_O → Prop} {h : s_H} {kc ks : Nat} {r0 : Term} {x1 x2 x3 x4 x5 x6 x7 : Int} {t8 t9 t10 : Term} {q2 : Nat} {f3 : List Term} {v5 v7 v9 : Term} {q11 : Nat} {a12 : List Int} {q17 : Nat} {a18 : List Int} {q23 : Nat} {a24 : List Int} (g4 : s_get h q2 = some (1, 11, f3)) (g13 : s_get h q11 = some (0, 0, a12.map vi)) (g19 : s_get h q17 = some (0, 1, a18.map vl)) (g25 : s_get h q23 = some (0, 1, a24.map vl)) (k : wr P d sw_c545 sw_h545 (303, [.index q2, vi x1, vi x2, vi x3, vi x4, vi x5, vi x6, vi (x7 + 1), t8, t9, t10], [], (hp h q23 (0, 1, (a24.set (Int.toNat (x7)) (gi a18 ((48 * (gi a12 (x6 + x7))) + 47))).map vl)), kc, ks) Q) (e_q2 : r0 = .index q2 := by first | rfl | assumption) (e_q11 : v9 = .index q11 := by first | rfl | assumption) (e_q17 : v7 = .index q17 := by first | rfl | assumption) (e_q23 : v5 = .index q23 := by first | rfl | assumption) (y1 : s_ty r0 = 3 := by first | rfl | assumption) (n6 : s_nth f3 14 = some v5 := by first | rfl | assumption) (n8 : s_nth f3 30 = some v7 := by first | rfl | assumption) (n10 : s_nth f3 31 = some v9 := by first | rfl | assumption) (c14 : x6 + x7 < a12.length := by first | omega | assumption | (simp only [mk_len, List.length_map]; omega) | decide) (c15 : 0 ≤ x6 + x7 := by first | omega | assumption | (simp only [mk_len, List.length_map]; omega) | decide) (c16 : In3 (x6 + x7) := by first | omega | assumption | (simp only [mk_len, List.length_map]; omega) | decide) (c20 : (48 * (gi a12 (x6 + x7))) + 47 < a18.length := by first | omega | assumption | (simp only [mk_len, List.length_map]; omega) | decide) (c21 : 0 ≤ (48 * (gi a12 (x6 + x7))) + 47 := by first | omega | assumption | (simp only [mk_len, List.length_map]; omega) | decide) (c22 : In3 ((48 * (gi a12 (x6 + x7))) + 47) := by first | omega | assumption | (simp only [mk_len, List.length_map]; omega) | decide) (c26 : x7 < a24.length := by first | omega | assumption | (simp only [mk_len, List.length_map]; omega) | decide) (c27 : 0 ≤ x7 := by first | omega | assumption | (simp only [mk_len, List.length_map]; omega) | decide) (c28 : In3 x7 := by first | omega | assumption | (simp only [mk_len, List.length_map]; omega) | decide) (c29 : 0 < q23 := by first | omega | assumption | (simp only [mk_len, List.length_map]; omega) | decide) : wr P d sw_c545 sw_h545 (314, [r0, vi x1, vi x2, vi x3, vi x4, vi x5, vi x6, vi x7, t8, t9, t10], [], h, kc, ks) Q := by
  refine w_ld rfl rfl (Or.inr (Or.inr ⟨by decide, y1⟩)) ?_
  subst e_q2
  refine w_getf rfl g4 n6 ?_
  refine w_ld rfl rfl (Or.inl ⟨by decide, rfl⟩) ?_
  refine w_ld rfl rfl (Or.inr (Or.inr ⟨by decide, rfl⟩)) ?_
  refine w_getf rfl g4 n8 ?_
  refine w_c32 rfl (by decide) 48 (by decide) ?_
  refine w_ld rfl rfl (Or.inr (Or.inr ⟨by decide, rfl⟩)) ?_
  refine w_getf rfl g4 n10 ?_
  refine w_ld rfl rfl (Or.inl ⟨by decide, rfl⟩) ?_
  refine w_ld rfl rfl (Or.inl ⟨by decide, rfl⟩) ?_
  refine w_iadd rfl ?_
  subst e_q11
  refine w_iald rfl g13 (Or.inl rfl) c16 c15 c14 ?_
  refine w_imul rfl ?_
  refine w_c32 rfl (by decide) 47 (by decide) ?_
  refine w_iadd rfl ?_
  subst e_q17
  refine w_lald rfl g19 c22 c21 c20 ?_
  subst e_q23
  refine w_last rfl g25 (Nat.ble_eq_true_of_le c29) c28 c27 c26 ?_
  refine w_iinc (ls' := [.index q2, vi x1, vi x2, vi x3, vi x4, vi x5, vi x6, vi (x7 + 1), t8, t9, t10]) rfl rfl 1 (by decide) rfl ?_
  refine w_goto rfl ?_
  exact k

theorem k545_348 {P : s_P} {d : Nat} {Q : s_O → Prop} {h : s_H} {kc ks : Nat} {r0 : Term} {x1 x2 x3 x4 x5 x6 x7 : Int} {t8 t9 t10 : Term} {q2 : Nat} {f3 : List Term} {v5 : Term} (g4 : s_get h q2 = some (1, 11, f3)) (k : wm P d 405 [v5, vl 1] h (wq P d sw_c545 sw_h545 356 [.index q2, vi x1, vi x2, vi x3, vi x4, vi x5, vi x6, vi x7, t8, t9, t10] [] kc ks Q)) (e_q2 : r0 = .index q2 := by first | rfl | assumption) (y1 : s_ty r0 = 3 := by first | rfl | assumption) (n6 : s_nth f3 15 = some v5 := by first | rfl | assumption)  : wr P d sw_c545 sw_h545 (348, [r0, vi x1, vi x2, vi x3, vi x4, vi x5, vi x6, vi x7, t8, t9, t10], [], h, kc, ks) Q := by
  refine w_ld rfl rfl (Or.inr (Or.inr ⟨by decide, y1⟩)) ?_
  subst e_q2
  refine w_getf rfl g4 n6 ?_
  refine w_c64 rfl (by decide) 1 (by decide) ?_
  exact w_cs rfl [v5, vl 1] [] rfl rfl (s_wt_4 rfl) k

theorem k545_356 {P : s_P} {d : Nat} {Q : s_O → Prop} {h : s_H} {kc ks : Nat} {r0 : Term} {x1 x2 x3 x4 x5 x6 x7 : Int} {t8 t9 t10 : Term} {q2 : Nat} {f3 : List Term} (g4 : s_get h q2 = some (1, 11, f3)) (k : wm P d 495 [.index q2, vi 3] h (wq P d sw_c545 sw_h545 361 [.index q2, vi x1, vi x2, vi x3, vi x4, vi x5, vi x6, vi x7, t8, t9, t10] [] kc ks Q)) (e_q2 : r0 = .index q2 := by first | rfl | assumption) (y1 : s_ty r0 = 3 := by first | rfl | assumption)  : wr P d sw_c545 sw_h545 (356, [r0, vi x1, vi x2, vi x3, vi x4, vi x5, vi x6, vi x7, t8, t9, t10], [], h, kc, ks) Q := by
  refine w_ld rfl rfl (Or.inr (Or.inr ⟨by decide, y1⟩)) ?_
  refine w_c32 rfl (by decide) 3 (by decide) ?_
  subst e_q2
  exact w_cv rfl [.index q2, vi 3] [] rfl rfl (s_wt_4 rfl) rfl g4 k

theorem k545_361 {P : s_P} {d : Nat} {Q : s_O → Prop} {h : s_H} {kc ks : Nat} {r0 : Term} {x1 x2 x3 x4 x5 x6 x7 : Int} {t8 t9 t10 : Term} {s0 : Int}  (k : Q (.inl (some (vi s0)), h, kc, ks))   : wr P d sw_c545 sw_h545 (361, [r0, vi x1, vi x2, vi x3, vi x4, vi x5, vi x6, vi x7, t8, t9, t10], [vi s0], h, kc, ks) Q := by
  exact w_iret rfl k

/-! 546: FormulaWorksModel.partBy(I)V -/
theorem k546_0 {P : s_P} {d : Nat} {Q : s_O → Prop} {h : s_H} {kc ks : Nat} {r0 : Term} {x1 : Int} {t2 t3 t4 t5 t6 t7 : Term} {q2 : Nat} {f3 : List Term} {z5 : Int} (g4 : s_get h q2 = some (1, 11, f3)) (k : wr P d sw_c546 sw_h546 (7, [.index q2, vi x1, vi z5, vi 0, t4, t5, t6, t7], [], h, kc, ks) Q) (e_q2 : r0 = .index q2 := by first | rfl | assumption) (y1 : s_ty r0 = 3 := by first | rfl | assumption) (n6 : s_nth f3 33 = some (vi z5) := by first | rfl | assumption)  : wr P d sw_c546 sw_h546 (0, [r0, vi x1, t2, t3, t4, t5, t6, t7], [], h, kc, ks) Q := by
  refine w_ld rfl rfl (Or.inr (Or.inr ⟨by decide, y1⟩)) ?_
  subst e_q2
  refine w_getf rfl g4 n6 ?_
  refine w_st (ls' := [.index q2, vi x1, vi z5, t3, t4, t5, t6, t7]) rfl (Or.inl ⟨by decide, rfl⟩) rfl ?_
  refine w_c32 rfl (by decide) 0 (by decide) ?_
  refine w_st (ls' := [.index q2, vi x1, vi z5, vi 0, t4, t5, t6, t7]) rfl (Or.inl ⟨by decide, rfl⟩) rfl ?_
  exact k

theorem k546_7 {P : s_P} {d : Nat} {Q : s_O → Prop} {h : s_H} {kc ks : Nat} {r0 : Term} {x1 x2 x3 : Int} {t4 t5 t6 t7 : Term}  (k1 : x2 ≤ x3 → wr P d sw_c546 sw_h546 (241, [r0, vi x1, vi x2, vi x3, t4, t5, t6, t7], [], h, kc, ks) Q) (k2 : ¬ x2 ≤ x3 → wr P d sw_c546 sw_h546 (12, [r0, vi x1, vi x2, vi x3, t4, t5, t6, t7], [], h, kc, ks) Q)  (c1 : In3 x3 := by first | omega | assumption | (simp only [mk_len, List.length_map]; omega) | decide) (c2 : In3 x2 := by first | omega | assumption | (simp only [mk_len, List.length_map]; omega) | decide) : wr P d sw_c546 sw_h546 (7, [r0, vi x1, vi x2, vi x3, t4, t5, t6, t7], [], h, kc, ks) Q := by
  refine w_ld rfl rfl (Or.inl ⟨by decide, rfl⟩) ?_
  refine w_ld rfl rfl (Or.inl ⟨by decide, rfl⟩) ?_
  exact w_if2 rfl c1 c2 k1 k2

theorem k546_12 {P : s_P} {d : Nat} {Q : s_O → Prop} {h : s_H} {kc ks : Nat} {r0 : Term} {x1 x2 x3 : Int} {t4 t5 t6 t7 : Term} {q2 : Nat} {f3 : List Term} (g4 : s_get h q2 = some (1, 11, f3)) (k : wm P d 511 [.index q2, vi x3] h (wq P d sw_c546 sw_h546 17 [.index q2, vi x1, vi x2, vi x3, t4, t5, t6, t7] [] kc ks Q)) (e_q2 : r0 = .index q2 := by first | rfl | assumption) (y1 : s_ty r0 = 3 := by first | rfl | assumption)  : wr P d sw_c546 sw_h546 (12, [r0, vi x1, vi x2, vi x3, t4, t5, t6, t7], [], h, kc, ks) Q := by
  refine w_ld rfl rfl (Or.inr (Or.inr ⟨by decide, y1⟩)) ?_
  refine w_ld rfl rfl (Or.inl ⟨by decide, rfl⟩) ?_
  subst e_q2
  exact w_cv rfl [.index q2, vi x3] [] rfl rfl (s_wt_4 rfl) rfl g4 k

theorem k546_17 {P : s_P} {d : Nat} {Q : s_O → Prop} {h : s_H} {kc ks : Nat} {r0 : Term} {x1 x2 x3 : Int} {t4 t5 t6 t7 : Term} {q2 : Nat} {f3 : List Term} {v5 : Term} (g4 : s_get h q2 = some (1, 11, f3)) (k : wm P d 438 [v5] h (wq P d sw_c546 sw_h546 24 [.index q2, vi x1, vi x2, vi x3, t4, t5, t6, t7] [] kc ks Q)) (e_q2 : r0 = .index q2 := by first | rfl | assumption) (y1 : s_ty r0 = 3 := by first | rfl | assumption) (n6 : s_nth f3 23 = some v5 := by first | rfl | assumption)  : wr P d sw_c546 sw_h546 (17, [r0, vi x1, vi x2, vi x3, t4, t5, t6, t7], [], h, kc, ks) Q := by
  refine w_ld rfl rfl (Or.inr (Or.inr ⟨by decide, y1⟩)) ?_
  subst e_q2
  refine w_getf rfl g4 n6 ?_
  exact w_cs rfl [v5] [] rfl rfl (s_wt_4 rfl) k

theorem k546_24 {P : s_P} {d : Nat} {Q : s_O → Prop} {h : s_H} {kc ks : Nat} {r0 : Term} {x1 x2 x3 : Int} {t4 t5 t6 t7 : Term}  (k : wr P d sw_c546 sw_h546 (27, [r0, vi x1, vi x2, vi x3, vi 0, t5, t6, t7], [], h, kc, ks) Q)   : wr P d sw_c546 sw_h546 (24, [r0, vi x1, vi x2, vi x3, t4, t5, t6, t7], [], h, kc, ks) Q := by
  refine w_c32 rfl (by decide) 0 (by decide) ?_
  refine w_st (ls' := [r0, vi x1, vi x2, vi x3, vi 0, t5, t6, t7]) rfl (Or.inl ⟨by decide, rfl⟩) rfl ?_
  exact k

theorem k546_27 {P : s_P} {d : Nat} {Q : s_O → Prop} {h : s_H} {kc ks : Nat} {r0 : Term} {x1 x2 x3 x4 : Int} {t5 t6 t7 : Term}  (k1 : 41 ≤ x4 → wr P d sw_c546 sw_h546 (59, [r0, vi x1, vi x2, vi x3, vi x4, t5, t6, t7], [], h, kc, ks) Q) (k2 : ¬ 41 ≤ x4 → wr P d sw_c546 sw_h546 (34, [r0, vi x1, vi x2, vi x3, vi x4, t5, t6, t7], [], h, kc, ks) Q)  (c1 : In3 x4 := by first | omega | assumption | (simp only [mk_len, List.length_map]; omega) | decide) : wr P d sw_c546 sw_h546 (27, [r0, vi x1, vi x2, vi x3, vi x4, t5, t6, t7], [], h, kc, ks) Q := by
  refine w_ld rfl rfl (Or.inl ⟨by decide, rfl⟩) ?_
  refine w_c32 rfl (by decide) 41 (by decide) ?_
  exact w_if2 rfl c1 (by decide) k1 k2

theorem k546_34 {P : s_P} {d : Nat} {Q : s_O → Prop} {h : s_H} {kc ks : Nat} {r0 : Term} {x1 x2 x3 x4 : Int} {t5 t6 t7 : Term} {q2 : Nat} {f3 : List Term} {v5 v7 : Term} {q9 : Nat} {a10 : List Int} {q15 : Nat} {a16 : List Int} (g4 : s_get h q2 = some (1, 11, f3)) (g11 : s_get h q9 = some (0, 1, a10.map vl)) (g17 : s_get h q15 = some (0, 1, a16.map vl)) (k : wr P d sw_c546 sw_h546 (27, [.index q2, vi x1, vi x2, vi x3, vi (x4 + 1), t5, t6, t7], [], (hp h q15 (0, 1, (a16.set (Int.toNat (x4)) (gi a10 ((41 * x1) + x4))).map vl)), kc, ks) Q) (e_q2 : r0 = .index q2 := by first | rfl | assumption) (e_q9 : v7 = .index q9 := by first | rfl | assumption) (e_q15 : v5 = .index q15 := by first | rfl | assumption) (y1 : s_ty r0 = 3 := by first | rfl | assumption) (n6 : s_nth f3 23 = some v5 := by first | rfl | assumption) (n8 : s_nth f3 36 = some v7 := by first | rfl | assumption) (c12 : (41 * x1) + x4 < a10.length := by first | omega | assumption | (simp only [mk_len, List.length_map]; omega) | decide) (c13 : 0 ≤ (41 * x1) + x4 := by first | omega | assumption | (simp only [mk_len, List.length_map]; omega) | decide) (c14 : In3 ((41 * x1) + x4) := by first | omega | assumption | (simp only [mk_len, List.length_map]; omega) | decide) (c18 : x4 < a16.length := by first | omega | assumption | (simp only [mk_len, List.length_map]; omega) | decide) (c19 : 0 ≤ x4 := by first | omega | assumption | (simp only [mk_len, List.length_map]; omega) | decide) (c20 : In3 x4 := by first | omega | assumption | (simp only [mk_len, List.length_map]; omega) | decide) (c21 : 0 < q15 := by first | omega | assumption | (simp only [mk_len, List.length_map]; omega) | decide) : wr P d sw_c546 sw_h546 (34, [r0, vi x1, vi x2, vi x3, vi x4, t5, t6, t7], [], h, kc, ks) Q := by
  refine w_ld rfl rfl (Or.inr (Or.inr ⟨by decide, y1⟩)) ?_
  subst e_q2
  refine w_getf rfl g4 n6 ?_
  refine w_ld rfl rfl (Or.inl ⟨by decide, rfl⟩) ?_
  refine w_ld rfl rfl (Or.inr (Or.inr ⟨by decide, rfl⟩)) ?_
  refine w_getf rfl g4 n8 ?_
  refine w_c32 rfl (by decide) 41 (by decide) ?_
  refine w_ld rfl rfl (Or.inl ⟨by decide, rfl⟩) ?_
  refine w_imul rfl ?_
  refine w_ld rfl rfl (Or.inl ⟨by decide, rfl⟩) ?_
  refine w_iadd rfl ?_
  subst e_q9
  refine w_lald rfl g11 c14 c13 c12 ?_
  subst e_q15
  refine w_last rfl g17 (Nat.ble_eq_true_of_le c21) c20 c19 c18 ?_
  refine w_iinc (ls' := [.index q2, vi x1, vi x2, vi x3, vi (x4 + 1), t5, t6, t7]) rfl rfl 1 (by decide) rfl ?_
  refine w_goto rfl ?_
  exact k

theorem k546_59 {P : s_P} {d : Nat} {Q : s_O → Prop} {h : s_H} {kc ks : Nat} {r0 : Term} {x1 x2 x3 x4 : Int} {t5 t6 t7 : Term} {q2 : Nat} {f3 : List Term} {v5 v7 : Term} (g4 : s_get h q2 = some (1, 11, f3)) (k : wm P d 433 [.index q2, v5, v7] h (wq P d sw_c546 sw_h546 71 [.index q2, vi x1, vi x2, vi x3, vi x4, t5, t6, t7] [] kc ks Q)) (e_q2 : r0 = .index q2 := by first | rfl | assumption) (y1 : s_ty r0 = 3 := by first | rfl | assumption) (n6 : s_nth f3 23 = some v5 := by first | rfl | assumption) (n8 : s_nth f3 24 = some v7 := by first | rfl | assumption)  : wr P d sw_c546 sw_h546 (59, [r0, vi x1, vi x2, vi x3, vi x4, t5, t6, t7], [], h, kc, ks) Q := by
  refine w_ld rfl rfl (Or.inr (Or.inr ⟨by decide, y1⟩)) ?_
  refine w_ld rfl rfl (Or.inr (Or.inr ⟨by decide, y1⟩)) ?_
  subst e_q2
  refine w_getf rfl g4 n6 ?_
  refine w_ld rfl rfl (Or.inr (Or.inr ⟨by decide, rfl⟩)) ?_
  refine w_getf rfl g4 n8 ?_
  exact w_cv rfl [.index q2, v5, v7] [] rfl rfl (s_wt_4 rfl) rfl g4 k

theorem k546_71 {P : s_P} {d : Nat} {Q : s_O → Prop} {h : s_H} {kc ks : Nat} {r0 : Term} {x1 x2 x3 x4 : Int} {t5 t6 t7 : Term} {q2 : Nat} {f3 : List Term} {v5 : Term} (g4 : s_get h q2 = some (1, 11, f3)) (k : wm P d 463 [v5] h (wq P d sw_c546 sw_h546 78 [.index q2, vi x1, vi x2, vi x3, vi x4, t5, t6, t7] [] kc ks Q)) (e_q2 : r0 = .index q2 := by first | rfl | assumption) (y1 : s_ty r0 = 3 := by first | rfl | assumption) (n6 : s_nth f3 23 = some v5 := by first | rfl | assumption)  : wr P d sw_c546 sw_h546 (71, [r0, vi x1, vi x2, vi x3, vi x4, t5, t6, t7], [], h, kc, ks) Q := by
  refine w_ld rfl rfl (Or.inr (Or.inr ⟨by decide, y1⟩)) ?_
  subst e_q2
  refine w_getf rfl g4 n6 ?_
  exact w_cs rfl [v5] [] rfl rfl (s_wt_4 rfl) k

theorem k546_78 {P : s_P} {d : Nat} {Q : s_O → Prop} {h : s_H} {kc ks : Nat} {r0 : Term} {x1 x2 x3 x4 : Int} {t5 t6 t7 : Term} {s0 : Int}  (k1 : 1 ≤ s0 → wr P d sw_c546 sw_h546 (85, [r0, vi x1, vi x2, vi x3, vi x4, t5, t6, t7], [], h, kc, ks) Q) (k2 : ¬ 1 ≤ s0 → wr P d sw_c546 sw_h546 (82, [r0, vi x1, vi x2, vi x3, vi x4, t5, t6, t7], [], h, kc, ks) Q)  (c1 : In3 s0 := by first | omega | assumption | (simp only [mk_len, List.length_map]; omega) | decide) : wr P d sw_c546 sw_h546 (78, [r0, vi x1, vi x2, vi x3, vi x4, t5, t6, t7], [vi s0], h, kc, ks) Q := by
  refine w_c32 rfl (by decide) 1 (by decide) ?_
  exact w_if2 rfl c1 (by decide) k1 k2

theorem k546_82 {P : s_P} {d : Nat} {Q : s_O → Prop} {h : s_H} {kc ks : Nat} {r0 : Term} {x1 x2 x3 x4 : Int} {t5 t6 t7 : Term}  (k : wr P d sw_c546 sw_h546 (235, [r0, vi x1, vi x2, vi x3, vi x4, t5, t6, t7], [], h, kc, ks) Q)   : wr P d sw_c546 sw_h546 (82, [r0, vi x1, vi x2, vi x3, vi x4, t5, t6, t7], [], h, kc, ks) Q := by
  refine w_goto rfl ?_
  exact k

theorem k546_85 {P : s_P} {d : Nat} {Q : s_O → Prop} {h : s_H} {kc ks : Nat} {r0 : Term} {x1 x2 x3 x4 : Int} {t5 t6 t7 : Term} {q2 : Nat} {f3 : List Term} (g4 : s_get h q2 = some (1, 11, f3)) (k : wm P d 452 [.index q2] h (wq P d sw_c546 sw_h546 89 [.index q2, vi x1, vi x2, vi x3, vi x4, t5, t6, t7] [] kc ks Q)) (e_q2 : r0 = .index q2 := by first | rfl | assumption) (y1 : s_ty r0 = 3 := by first | rfl | assumption)  : wr P d sw_c546 sw_h546 (85, [r0, vi x1, vi x2, vi x3, vi x4, t5, t6, t7], [], h, kc, ks) Q := by
  refine w_ld rfl rfl (Or.inr (Or.inr ⟨by decide, y1⟩)) ?_
  subst e_q2
  exact w_cv rfl [.index q2] [] rfl rfl (s_wt_4 rfl) rfl g4 k

theorem k546_89 {P : s_P} {d : Nat} {Q : s_O → Prop} {h : s_H} {kc ks : Nat} {r0 : Term} {x1 x2 x3 x4 : Int} {t5 t6 t7 : Term} {s0 : Int}  (k : wr P d sw_c546 sw_h546 (97, [r0, vi x1, vi x2, vi x3, vi s0, vi 0, vi 0, t7], [], h, kc, ks) Q)   : wr P d sw_c546 sw_h546 (89, [r0, vi x1, vi x2, vi x3, vi x4, t5, t6, t7], [vi s0], h, kc, ks) Q := by
  refine w_st (ls' := [r0, vi x1, vi x2, vi x3, vi s0, t5, t6, t7]) rfl (Or.inl ⟨by decide, rfl⟩) rfl ?_
  refine w_c32 rfl (by decide) 0 (by decide) ?_
  refine w_st (ls' := [r0, vi x1, vi x2, vi x3, vi s0, vi 0, t6, t7]) rfl (Or.inl ⟨by decide, rfl⟩) rfl ?_
  refine w_c32 rfl (by decide) 0 (by decide) ?_
  refine w_st (ls' := [r0, vi x1, vi x2, vi x3, vi s0, vi 0, vi 0, t7]) rfl (Or.inl ⟨by decide, rfl⟩) rfl ?_
  exact k

theorem k546_97 {P : s_P} {d : Nat} {Q : s_O → Prop} {h : s_H} {kc ks : Nat} {r0 : Term} {x1 x2 x3 x4 x5 x6 : Int} {t7 : Term}  (k1 : 32003 ≤ x6 → wr P d sw_c546 sw_h546 (235, [r0, vi x1, vi x2, vi x3, vi x4, vi x5, vi x6, t7], [], h, kc, ks) Q) (k2 : ¬ 32003 ≤ x6 → wr P d sw_c546 sw_h546 (105, [r0, vi x1, vi x2, vi x3, vi x4, vi x5, vi x6, t7], [], h, kc, ks) Q)  (c1 : In3 x6 := by first | omega | assumption | (simp only [mk_len, List.length_map]; omega) | decide) : wr P d sw_c546 sw_h546 (97, [r0, vi x1, vi x2, vi x3, vi x4, vi x5, vi x6, t7], [], h, kc, ks) Q := by
  refine w_ld rfl rfl (Or.inl ⟨by decide, rfl⟩) ?_
  refine w_c32 rfl (by decide) 32003 (by decide) ?_
  exact w_if2 rfl c1 (by decide) k1 k2

theorem k546_105 {P : s_P} {d : Nat} {Q : s_O → Prop} {h : s_H} {kc ks : Nat} {r0 : Term} {x1 x2 x3 x4 x5 x6 : Int} {t7 : Term}  (k1 : x4 ≤ x5 → wr P d sw_c546 sw_h546 (235, [r0, vi x1, vi x2, vi x3, vi x4, vi x5, vi x6, t7], [], h, kc, ks) Q) (k2 : ¬ x4 ≤ x5 → wr P d sw_c546 sw_h546 (112, [r0, vi x1, vi x2, vi x3, vi x4, vi x5, vi x6, t7], [], h, kc, ks) Q)  (c1 : In3 x5 := by first | omega | assumption | (simp only [mk_len, List.length_map]; omega) | decide) (c2 : In3 x4 := by first | omega | assumption | (simp only [mk_len, List.length_map]; omega) | decide) : wr P d sw_c546 sw_h546 (105, [r0, vi x1, vi x2, vi x3, vi x4, vi x5, vi x6, t7], [], h, kc, ks) Q := by
  refine w_ld rfl rfl (Or.inl ⟨by decide, rfl⟩) ?_
  refine w_ld rfl rfl (Or.inl ⟨by decide, rfl⟩) ?_
  exact w_if2 rfl c1 c2 k1 k2

theorem k546_112 {P : s_P} {d : Nat} {Q : s_O → Prop} {h : s_H} {kc ks : Nat} {r0 : Term} {x1 x2 x3 x4 x5 x6 : Int} {t7 : Term} {q2 : Nat} {f3 : List Term} {v5 : Term} (g4 : s_get h q2 = some (1, 11, f3)) (k : wm P d 613 [v5, vl x6] h (wq P d sw_c546 sw_h546 122 [.index q2, vi x1, vi x2, vi x3, vi x4, vi x5, vi x6, t7] [] kc ks Q)) (e_q2 : r0 = .index q2 := by first | rfl | assumption) (y1 : s_ty r0 = 3 := by first | rfl | assumption) (n6 : s_nth f3 15 = some v5 := by first | rfl | assumption) (c7 : In3 x6 := by first | omega | assumption | (simp only [mk_len, List.length_map]; omega) | decide) : wr P d sw_c546 sw_h546 (112, [r0, vi x1, vi x2, vi x3, vi x4, vi x5, vi x6, t7], [], h, kc, ks) Q := by
  refine w_ld rfl rfl (Or.inr (Or.inr ⟨by decide, y1⟩)) ?_
  subst e_q2
  refine w_getf rfl g4 n6 ?_
  refine w_ld rfl rfl (Or.inl ⟨by decide, rfl⟩) ?_
  refine w_i2l rfl c7 ?_
  exact w_cs rfl [v5, vl x6] [] rfl rfl (s_wt_4 rfl) k

theorem k546_122 {P : s_P} {d : Nat} {Q : s_O → Prop} {h : s_H} {kc ks : Nat} {r0 : Term} {x1 x2 x3 x4 x5 x6 : Int} {t7 : Term} {s0 : Int}  (k1 : s0 = 0 → wr P d sw_c546 sw_h546 (130, [r0, vi x1, vi x2, vi x3, vi x4, vi x5, vi x6, t7], [], h, kc, ks) Q) (k2 : ¬ s0 = 0 → wr P d sw_c546 sw_h546 (127, [r0, vi x1, vi x2, vi x3, vi x4, vi x5, vi x6, t7], [], h, kc, ks) Q)  (c1 : In6 s0 := by first | omega | assumption | (simp only [mk_len, List.length_map]; omega) | decide) : wr P d sw_c546 sw_h546 (122, [r0, vi x1, vi x2, vi x3, vi x4, vi x5, vi x6, t7], [vl s0], h, kc, ks) Q := by
  refine w_c64 rfl (by decide) 0 (by decide) ?_
  exact w_lcmp rfl rfl c1 (by decide) k1 k2

theorem k546_127 {P : s_P} {d : Nat} {Q : s_O → Prop} {h : s_H} {kc ks : Nat} {r0 : Term} {x1 x2 x3 x4 x5 x6 : Int} {t7 : Term}  (k : wr P d sw_c546 sw_h546 (229, [r0, vi x1, vi x2, vi x3, vi x4, vi x5, vi x6, t7], [], h, kc, ks) Q)   : wr P d sw_c546 sw_h546 (127, [r0, vi x1, vi x2, vi x3, vi x4, vi x5, vi x6, t7], [], h, kc, ks) Q := by
  refine w_goto rfl ?_
  exact k

theorem k546_130 {P : s_P} {d : Nat} {Q : s_O → Prop} {h : s_H} {kc ks : Nat} {r0 : Term} {x1 x2 x3 x4 x5 x6 : Int} {t7 : Term} {q2 : Nat} {f3 : List Term} {v5 v7 : Term} (g4 : s_get h q2 = some (1, 11, f3)) (k : wm P d 425 [v5, v7] h (wq P d sw_c546 sw_h546 141 [.index q2, vi x1, vi x2, vi x3, vi x4, vi x5, vi x6, t7] [] kc ks Q)) (e_q2 : r0 = .index q2 := by first | rfl | assumption) (y1 : s_ty r0 = 3 := by first | rfl | assumption) (n6 : s_nth f3 18 = some v5 := by first | rfl | assumption) (n8 : s_nth f3 24 = some v7 := by first | rfl | assumption)  : wr P d sw_c546 sw_h546 (130, [r0, vi x1, vi x2, vi x3, vi x4, vi x5, vi x6, t7], [], h, kc, ks) Q := by
  refine w_ld rfl rfl (Or.inr (Or.inr ⟨by decide, y1⟩)) ?_
  subst e_q2
  refine w_getf rfl g4 n6 ?_
  refine w_ld rfl rfl (Or.inr (Or.inr ⟨by decide, rfl⟩)) ?_
  refine w_getf rfl g4 n8 ?_
  exact w_cs rfl [v5, v7] [] rfl rfl (s_wt_4 rfl) k

theorem k546_141 {P : s_P} {d : Nat} {Q : s_O → Prop} {h : s_H} {kc ks : Nat} {r0 : Term} {x1 x2 x3 x4 x5 x6 : Int} {t7 : Term} {q2 : Nat} {f3 : List Term} {v5 v7 : Term} (g4 : s_get h q2 = some (1, 11, f3)) (k : wm P d 425 [v5, v7] h (wq P d sw_c546 sw_h546 152 [.index q2, vi x1, vi x2, vi x3, vi x4, vi x5, vi x6, t7] [] kc ks Q)) (e_q2 : r0 = .index q2 := by first | rfl | assumption) (y1 : s_ty r0 = 3 := by first | rfl | assumption) (n6 : s_nth f3 19 = some v5 := by first | rfl | assumption) (n8 : s_nth f3 23 = some v7 := by first | rfl | assumption)  : wr P d sw_c546 sw_h546 (141, [r0, vi x1, vi x2, vi x3, vi x4, vi x5, vi x6, t7], [], h, kc, ks) Q := by
  refine w_ld rfl rfl (Or.inr (Or.inr ⟨by decide, y1⟩)) ?_
  subst e_q2
  refine w_getf rfl g4 n6 ?_
  refine w_ld rfl rfl (Or.inr (Or.inr ⟨by decide, rfl⟩)) ?_
  refine w_getf rfl g4 n8 ?_
  exact w_cs rfl [v5, v7] [] rfl rfl (s_wt_4 rfl) k

theorem k546_152 {P : s_P} {d : Nat} {Q : s_O → Prop} {h : s_H} {kc ks : Nat} {r0 : Term} {x1 x2 x3 x4 x5 x6 : Int} {t7 : Term} {q2 : Nat} {f3 : List Term} {v5 : Term} {q7 : Nat} {a8 : List Int} (g4 : s_get h q2 = some (1, 11, f3)) (g9 : s_get h q7 = some (0, 1, a8.map vl)) (k : wm P d 528 [vl ((gi a8 0) - x6)] h (wq P d sw_c546 sw_h546 170 [.index q2, vi x1, vi x2, vi x3, vi x4, vi x5, vi x6, t7] [vi 0, .index q7] kc ks Q)) (e_q2 : r0 = .index q2 := by first | rfl | assumption) (e_q7 : v5 = .index q7 := by first | rfl | assumption) (y1 : s_ty r0 = 3 := by first | rfl | assumption) (n6 : s_nth f3 19 = some v5 := by first | rfl | assumption) (c10 : (0 : Int) < a8.length := by first | omega | assumption | (simp only [mk_len, List.length_map]; omega) | decide) (c11 : In3 x6 := by first | omega | assumption | (simp only [mk_len, List.length_map]; omega) | decide) : wr P d sw_c546 sw_h546 (152, [r0, vi x1, vi x2, vi x3, vi x4, vi x5, vi x6, t7], [], h, kc, ks) Q := by
  refine w_ld rfl rfl (Or.inr (Or.inr ⟨by decide, y1⟩)) ?_
  subst e_q2
  refine w_getf rfl g4 n6 ?_
  refine w_c32 rfl (by decide) 0 (by decide) ?_
  refine w_ld rfl rfl (Or.inr (Or.inr ⟨by decide, rfl⟩)) ?_
  refine w_getf rfl g4 n6 ?_
  refine w_c32 rfl (by decide) 0 (by decide) ?_
  subst e_q7
  refine w_lald rfl g9 (by decide) (by decide) c10 ?_
  refine w_ld rfl rfl (Or.inl ⟨by decide, rfl⟩) ?_
  refine w_i2l rfl c11 ?_
  refine w_lsub rfl ?_
  exact w_cs rfl [vl ((gi a8 0) - x6)] [vi 0, .index q7] rfl rfl (s_wt_4 rfl) k

theorem k546_170 {P : s_P} {d : Nat} {Q : s_O → Prop} {h : s_H} {kc ks : Nat} {r0 : Term} {x1 x2 x3 x4 x5 x6 : Int} {t7 s0 : Term} {s1 s2 : Int} {q1 : Nat} {a2 : List Int} {q9 : Nat} {f10 : List Term} (g3 : s_get h q1 = some (0, 1, a2.map vl)) (g11 : s_get (hp h q1 (0, 1, (a2.set (Int.toNat (s1)) s2).map vl)) q9 = some (1, 11, f10)) (k : wm P d 448 [.index q9] (hp h q1 (0, 1, (a2.set (Int.toNat (s1)) s2).map vl)) (wq P d sw_c546 sw_h546 175 [.index q9, vi x1, vi x2, vi x3, vi x4, vi x5, vi x6, t7] [] kc ks Q)) (e_q1 : s0 = .index q1 := by first | rfl | assumption) (e_q9 : r0 = .index q9 := by first | rfl | assumption) (y8 : s_ty r0 = 3 := by first | rfl | assumption) (c4 : s1 < a2.length := by first | omega | assumption | (simp only [mk_len, List.length_map]; omega) | decide) (c5 : 0 ≤ s1 := by first | omega | assumption | (simp only [mk_len, List.length_map]; omega) | decide) (c6 : In3 s1 := by first | omega | assumption | (simp only [mk_len, List.length_map]; omega) | decide) (c7 : 0 < q1 := by first | omega | assumption | (simp only [mk_len, List.length_map]; omega) | decide) : wr P d sw_c546 sw_h546 (170, [r0, vi x1, vi x2, vi x3, vi x4, vi x5, vi x6, t7], [vl s2, vi s1, s0], h, kc, ks) Q := by
  subst e_q1
  refine w_last rfl g3 (Nat.ble_eq_true_of_le c7) c6 c5 c4 ?_
  refine w_ld rfl rfl (Or.inr (Or.inr ⟨by decide, y8⟩)) ?_
  subst e_q9
  exact w_cv rfl [.index q9] [] rfl rfl (s_wt_4 rfl) rfl g11 k

theorem k546_175 {P : s_P} {d : Nat} {Q : s_O → Prop} {h : s_H} {kc ks : Nat} {r0 : Term} {x1 x2 x3 x4 x5 x6 : Int} {t7 : Term}  (k1 : x5 ≤ 0 → wr P d sw_c546 sw_h546 (191, [r0, vi x1, vi x2, vi x3, vi x4, vi x5, vi x6, t7], [], h, kc, ks) Q) (k2 : ¬ x5 ≤ 0 → wr P d sw_c546 sw_h546 (180, [r0, vi x1, vi x2, vi x3, vi x4, vi x5, vi x6, t7], [], h, kc, ks) Q)  (c1 : In3 x5 := by first | omega | assumption | (simp only [mk_len, List.length_map]; omega) | decide) : wr P d sw_c546 sw_h546 (175, [r0, vi x1, vi x2, vi x3, vi x4, vi x5, vi x6, t7], [], h, kc, ks) Q := by
  refine w_ld rfl rfl (Or.inl ⟨by decide, rfl⟩) ?_
  exact w_if1 rfl c1 k1 k2

theorem k546_180 {P : s_P} {d : Nat} {Q : s_O → Prop} {h : s_H} {kc ks : Nat} {r0 : Term} {x1 x2 x3 x4 x5 x6 : Int} {t7 : Term} {q2 : Nat} {f3 : List Term} {v5 : Term} (g4 : s_get h q2 = some (1, 11, f3)) (k : wm P d 565 [.index q2, v5] h (wq P d sw_c546 sw_h546 188 [.index q2, vi x1, vi x2, vi x3, vi x4, vi x5, vi x6, t7] [] kc ks Q)) (e_q2 : r0 = .index q2 := by first | rfl | assumption) (y1 : s_ty r0 = 3 := by first | rfl | assumption) (n6 : s_nth f3 18 = some v5 := by first | rfl | assumption)  : wr P d sw_c546 sw_h546 (180, [r0, vi x1, vi x2, vi x3, vi x4, vi x5, vi x6, t7], [], h, kc, ks) Q := by
  refine w_ld rfl rfl (Or.inr (Or.inr ⟨by decide, y1⟩)) ?_
  refine w_ld rfl rfl (Or.inr (Or.inr ⟨by decide, y1⟩)) ?_
  subst e_q2
  refine w_getf rfl g4 n6 ?_
  exact w_cv rfl [.index q2, v5] [] rfl rfl (s_wt_4 rfl) rfl g4 k

theorem k546_188 {P : s_P} {d : Nat} {Q : s_O → Prop} {h : s_H} {kc ks : Nat} {r0 : Term} {x1 x2 x3 x4 x5 x6 : Int} {t7 : Term}  (k : wr P d sw_c546 sw_h546 (226, [r0, vi x1, vi x2, vi x3, vi x4, vi x5, vi x6, t7], [], h, kc, ks) Q)   : wr P d sw_c546 sw_h546 (188, [r0, vi x1, vi x2, vi x3, vi x4, vi x5, vi x6, t7], [], h, kc, ks) Q := by
  refine w_goto rfl ?_
  exact k

theorem k546_191 {P : s_P} {d : Nat} {Q : s_O → Prop} {h : s_H} {kc ks : Nat} {r0 : Term} {x1 x2 x3 x4 x5 x6 : Int} {t7 : Term}  (k : wr P d sw_c546 sw_h546 (194, [r0, vi x1, vi x2, vi x3, vi x4, vi x5, vi x6, vi 0], [], h, kc, ks) Q)   : wr P d sw_c546 sw_h546 (191, [r0, vi x1, vi x2, vi x3, vi x4, vi x5, vi x6, t7], [], h, kc, ks) Q := by
  refine w_c32 rfl (by decide) 0 (by decide) ?_
  refine w_st (ls' := [r0, vi x1, vi x2, vi x3, vi x4, vi x5, vi x6, vi 0]) rfl (Or.inl ⟨by decide, rfl⟩) rfl ?_
  exact k

theorem k546_194 {P : s_P} {d : Nat} {Q : s_O → Prop} {h : s_H} {kc ks : Nat} {r0 : Term} {x1 x2 x3 x4 x5 x6 x7 : Int}  (k1 : 42 ≤ x7 → wr P d sw_c546 sw_h546 (226, [r0, vi x1, vi x2, vi x3, vi x4, vi x5, vi x6, vi x7], [], h, kc, ks) Q) (k2 : ¬ 42 ≤ x7 → wr P d sw_c546 sw_h546 (201, [r0, vi x1, vi x2, vi x3, vi x4, vi x5, vi x6, vi x7], [], h, kc, ks) Q)  (c1 : In3 x7 := by first | omega | assumption | (simp only [mk_len, List.length_map]; omega) | decide) : wr P d sw_c546 sw_h546 (194, [r0, vi x1, vi x2, vi x3, vi x4, vi x5, vi x6, vi x7], [], h, kc, ks) Q := by
  refine w_ld rfl rfl (Or.inl ⟨by decide, rfl⟩) ?_
  refine w_c32 rfl (by decide) 42 (by decide) ?_
  exact w_if2 rfl c1 (by decide) k1 k2

theorem k546_201 {P : s_P} {d : Nat} {Q : s_O → Prop} {h : s_H} {kc ks : Nat} {r0 : Term} {x1 x2 x3 x4 x5 x6 x7 : Int} {q2 : Nat} {f3 : List Term} {v5 v7 : Term} {q9 : Nat} {a10 : List Int} {q15 : Nat} {a16 : List Int} (g4 : s_get h q2 = some (1, 11, f3)) (g11 : s_get h q9 = some (0, 1, a10.map vl)) (g17 : s_get h q15 = some (0, 1, a16.map vl)) (k : wr P d sw_c546 sw_h546 (194, [.index q2, vi x1, vi x2, vi x3, vi x4, vi x5, vi x6, vi (x7 + 1)], [], (hp h q15 (0, 1, (a16.set (Int.toNat ((42 * x3) + x7)) (gi a10 x7)).map vl)), kc, ks) Q) (e_q2 : r0 = .index q2 := by first | rfl | assumption) (e_q9 : v7 = .index q9 := by first | rfl | assumption) (e_q15 : v5 = .index q15 := by first | rfl | assumption) (y1 : s_ty r0 = 3 := by first | rfl | assumption) (n6 : s_nth f3 34 = some v5 := by first | rfl | assumption) (n8 : s_nth f3 18 = some v7 := by first | rfl | assumption) (c12 : x7 < a10.length := by first | omega | assumption | (simp only [mk_len, List.length_map]; omega) | decide) (c13 : 0 ≤ x7 := by first | omega | assumption | (simp only [mk_len, List.length_map]; omega) | decide) (c14 : In3 x7 := by first | omega | assumption | (simp only [mk_len, List.length_map]; omega) | decide) (c18 : (42 * x3) + x7 < a16.length := by first | omega | assumption | (simp only [mk_len, List.length_map]; omega) | decide) (c19 : 0 ≤ (42 * x3) + x7 := by first | omega | assumption | (simp only [mk_len, List.length_map]; omega) | decide) (c20 : In3 ((42 * x3) + x7) := by first | omega | assumption | (simp only [mk_len, List.length_map]; omega) | decide) (c21 : 0 < q15 := by first | omega | assumption | (simp only [mk_len, List.length_map]; omega) | decide) : wr P d sw_c546 sw_h546 (201, [r0, vi x1, vi x2, vi x3, vi x4, vi x5, vi x6, vi x7], [], h, kc, ks) Q := by
  refine w_ld rfl rfl (Or.inr (Or.inr ⟨by decide, y1⟩)) ?_
  subst e_q2
  refine w_getf rfl g4 n6 ?_
  refine w_c32 rfl (by decide) 42 (by decide) ?_
  refine w_ld rfl rfl (Or.inl ⟨by decide, rfl⟩) ?_
  refine w_imul rfl ?_
  refine w_ld rfl rfl (Or.inl ⟨by decide, rfl⟩) ?_
  refine w_iadd rfl ?_
  refine w_ld rfl rfl (Or.inr (Or.inr ⟨by decide, rfl⟩)) ?_
  refine w_getf rfl g4 n8 ?_
  refine w_ld rfl rfl (Or.inl ⟨by decide, rfl⟩) ?_
  subst e_q9
  refine w_lald rfl g11 c14 c13 c12 ?_
  subst e_q15
  refine w_last rfl g17 (Nat.ble_eq_true_of_le c21) c20 c19 c18 ?_
  refine w_iinc (ls' := [.index q2, vi x1, vi x2, vi x3, vi x4, vi x5, vi x6, vi (x7 + 1)]) rfl rfl 1 (by decide) rfl ?_
  refine w_goto rfl ?_
  exact k

theorem k546_226 {P : s_P} {d : Nat} {Q : s_O → Prop} {h : s_H} {kc ks : Nat} {r0 : Term} {x1 x2 x3 x4 x5 x6 : Int} {t7 : Term}  (k : wr P d sw_c546 sw_h546 (229, [r0, vi x1, vi x2, vi x3, vi x4, vi (x5 + 1), vi x6, t7], [], h, kc, ks) Q)   : wr P d sw_c546 sw_h546 (226, [r0, vi x1, vi x2, vi x3, vi x4, vi x5, vi x6, t7], [], h, kc, ks) Q := by
  refine w_iinc (ls' := [r0, vi x1, vi x2, vi x3, vi x4, vi (x5 + 1), vi x6, t7]) rfl rfl 1 (by decide) rfl ?_
  exact k

theorem k546_229 {P : s_P} {d : Nat} {Q : s_O → Prop} {h : s_H} {kc ks : Nat} {r0 : Term} {x1 x2 x3 x4 x5 x6 : Int} {t7 : Term}  (k : wr P d sw_c546 sw_h546 (97, [r0, vi x1, vi x2, vi x3, vi x4, vi x5, vi (x6 + 1), t7], [], h, kc, ks) Q)   : wr P d sw_c546 sw_h546 (229, [r0, vi x1, vi x2, vi x3, vi x4, vi x5, vi x6, t7], [], h, kc, ks) Q := by
  refine w_iinc (ls' := [r0, vi x1, vi x2, vi x3, vi x4, vi x5, vi (x6 + 1), t7]) rfl rfl 1 (by decide) rfl ?_
  refine w_goto rfl ?_
  exact k

theorem k546_235 {P : s_P} {d : Nat} {Q : s_O → Prop} {h : s_H} {kc ks : Nat} {r0 : Term} {x1 x2 x3 x4 : Int} {t5 t6 t7 : Term}  (k : wr P d sw_c546 sw_h546 (7, [r0, vi x1, vi x2, vi (x3 + 1), vi x4, t5, t6, t7], [], h, kc, ks) Q)   : wr P d sw_c546 sw_h546 (235, [r0, vi x1, vi x2, vi x3, vi x4, t5, t6, t7], [], h, kc, ks) Q := by
  refine w_iinc (ls' := [r0, vi x1, vi x2, vi (x3 + 1), vi x4, t5, t6, t7]) rfl rfl 1 (by decide) rfl ?_
  refine w_goto rfl ?_
  exact k

theorem k546_241 {P : s_P} {d : Nat} {Q : s_O → Prop} {h : s_H} {kc ks : Nat} {r0 : Term} {x1 x2 x3 : Int} {t4 t5 t6 t7 : Term}  (k : Q (.inl none, h, kc, ks))   : wr P d sw_c546 sw_h546 (241, [r0, vi x1, vi x2, vi x3, t4, t5, t6, t7], [], h, kc, ks) Q := by
  exact w_ret rfl k

/-! 547: FormulaWorksModel.partsOf(I)I -/
theorem k547_0 {P : s_P} {d : Nat} {Q : s_O → Prop} {h : s_H} {kc ks : Nat} {x0 : Int}  (k1 : x0 = 6 → wr P d sw_c547 sw_h547 (12, [vi x0], [], h, kc, ks) Q) (k2 : ¬ x0 = 6 → wr P d sw_c547 sw_h547 (6, [vi x0], [], h, kc, ks) Q)  (c1 : In3 x0 := by first | omega | assumption | (simp only [mk_len, List.length_map]; omega) | decide) : wr P d sw_c547 sw_h547 (0, [vi x0], [], h, kc, ks) Q := by
  refine w_ld rfl rfl (Or.inl ⟨by decide, rfl⟩) ?_
  refine w_c32 rfl (by decide) 6 (by decide) ?_
  exact w_if2 rfl c1 (by decide) k1 k2

theorem k547_6 {P : s_P} {d : Nat} {Q : s_O → Prop} {h : s_H} {kc ks : Nat} {x0 : Int}  (k1 : x0 ≠ 7 → wr P d sw_c547 sw_h547 (16, [vi x0], [], h, kc, ks) Q) (k2 : ¬ x0 ≠ 7 → wr P d sw_c547 sw_h547 (12, [vi x0], [], h, kc, ks) Q)  (c1 : In3 x0 := by first | omega | assumption | (simp only [mk_len, List.length_map]; omega) | decide) : wr P d sw_c547 sw_h547 (6, [vi x0], [], h, kc, ks) Q := by
  refine w_ld rfl rfl (Or.inl ⟨by decide, rfl⟩) ?_
  refine w_c32 rfl (by decide) 7 (by decide) ?_
  exact w_if2 rfl c1 (by decide) k1 k2

theorem k547_12 {P : s_P} {d : Nat} {Q : s_O → Prop} {h : s_H} {kc ks : Nat} {x0 : Int}  (k : wr P d sw_c547 sw_h547 (26, [vi x0], [vi 1], h, kc, ks) Q)   : wr P d sw_c547 sw_h547 (12, [vi x0], [], h, kc, ks) Q := by
  refine w_c32 rfl (by decide) 1 (by decide) ?_
  refine w_goto rfl ?_
  exact k

theorem k547_16 {P : s_P} {d : Nat} {Q : s_O → Prop} {h : s_H} {kc ks : Nat} {x0 : Int}  (k1 : 2 ≤ x0 → wr P d sw_c547 sw_h547 (25, [vi x0], [], h, kc, ks) Q) (k2 : ¬ 2 ≤ x0 → wr P d sw_c547 sw_h547 (21, [vi x0], [], h, kc, ks) Q)  (c1 : In3 x0 := by first | omega | assumption | (simp only [mk_len, List.length_map]; omega) | decide) : wr P d sw_c547 sw_h547 (16, [vi x0], [], h, kc, ks) Q := by
  refine w_ld rfl rfl (Or.inl ⟨by decide, rfl⟩) ?_
  refine w_c32 rfl (by decide) 2 (by decide) ?_
  exact w_if2 rfl c1 (by decide) k1 k2

theorem k547_21 {P : s_P} {d : Nat} {Q : s_O → Prop} {h : s_H} {kc ks : Nat} {x0 : Int}  (k : wr P d sw_c547 sw_h547 (26, [vi x0], [vi 0], h, kc, ks) Q)   : wr P d sw_c547 sw_h547 (21, [vi x0], [], h, kc, ks) Q := by
  refine w_c32 rfl (by decide) 0 (by decide) ?_
  refine w_goto rfl ?_
  exact k

theorem k547_25 {P : s_P} {d : Nat} {Q : s_O → Prop} {h : s_H} {kc ks : Nat} {x0 : Int}  (k : wr P d sw_c547 sw_h547 (26, [vi x0], [vi 2], h, kc, ks) Q)   : wr P d sw_c547 sw_h547 (25, [vi x0], [], h, kc, ks) Q := by
  refine w_c32 rfl (by decide) 2 (by decide) ?_
  exact k

theorem k547_26 {P : s_P} {d : Nat} {Q : s_O → Prop} {h : s_H} {kc ks : Nat} {x0 s0 : Int}  (k : Q (.inl (some (vi s0)), h, kc, ks))   : wr P d sw_c547 sw_h547 (26, [vi x0], [vi s0], h, kc, ks) Q := by
  exact w_iret rfl k

/-! 548: FormulaWorksModel.pileExponent(II)I -/
theorem k548_0 {P : s_P} {d : Nat} {Q : s_O → Prop} {h : s_H} {kc ks : Nat} {r0 : Term} {x1 x2 : Int} {t3 : Term} {q2 : Nat} {f3 : List Term} {v5 : Term} {q8 : Nat} {a9 : List Int} (g4 : s_get h q2 = some (1, 11, f3)) (g10 : s_get h q8 = some (0, 0, a9.map vi)) (k1 : x2 ≤ 9 → wr P d sw_c548 sw_h548 (42, [.index q2, vi x1, vi x2, vi (x1 + 1)], [], (hp h q8 (0, 0, (a9.set (Int.toNat (x1)) (-(48 + (Int.tmod x2 10)))).map vi)), kc, ks) Q) (k2 : ¬ x2 ≤ 9 → wr P d sw_c548 sw_h548 (25, [.index q2, vi x1, vi x2, vi (x1 + 1)], [], (hp h q8 (0, 0, (a9.set (Int.toNat (x1)) (-(48 + (Int.tmod x2 10)))).map vi)), kc, ks) Q) (e_q2 : r0 = .index q2 := by first | rfl | assumption) (e_q8 : v5 = .index q8 := by first | rfl | assumption) (y1 : s_ty r0 = 3 := by first | rfl | assumption) (n6 : s_nth f3 93 = some v5 := by first | rfl | assumption) (c7 : In3 x2 := by first | omega | assumption | (simp only [mk_len, List.length_map]; omega) | decide) (c11 : x1 < a9.length := by first | omega | assumption | (simp only [mk_len, List.length_map]; omega) | decide) (c12 : 0 ≤ x1 := by first | omega | assumption | (simp only [mk_len, List.length_map]; omega) | decide) (c13 : In3 x1 := by first | omega | assumption | (simp only [mk_len, List.length_map]; omega) | decide) (c14 : 0 < q8 := by first | omega | assumption | (simp only [mk_len, List.length_map]; omega) | decide) : wr P d sw_c548 sw_h548 (0, [r0, vi x1, vi x2, t3], [], h, kc, ks) Q := by
  refine w_ld rfl rfl (Or.inl ⟨by decide, rfl⟩) ?_
  refine w_st (ls' := [r0, vi x1, vi x2, vi x1]) rfl (Or.inl ⟨by decide, rfl⟩) rfl ?_
  refine w_ld rfl rfl (Or.inr (Or.inr ⟨by decide, y1⟩)) ?_
  subst e_q2
  refine w_getf rfl g4 n6 ?_
  refine w_ld rfl rfl (Or.inl ⟨by decide, rfl⟩) ?_
  refine w_c32 rfl (by decide) 48 (by decide) ?_
  refine w_ld rfl rfl (Or.inl ⟨by decide, rfl⟩) ?_
  refine w_c32 rfl (by decide) 10 (by decide) ?_
  refine w_irem rfl c7 (by decide) (by decide) ?_
  refine w_iadd rfl ?_
  refine w_ineg rfl ?_
  subst e_q8
  refine w_iast rfl g10 (Nat.ble_eq_true_of_le c14) c13 c12 c11 ?_
  refine w_iinc (ls' := [.index q2, vi x1, vi x2, vi (x1 + 1)]) rfl rfl 1 (by decide) rfl ?_
  refine w_ld rfl rfl (Or.inl ⟨by decide, rfl⟩) ?_
  refine w_c32 rfl (by decide) 9 (by decide) ?_
  exact w_if2 rfl c7 (by decide) k1 k2

theorem k548_25 {P : s_P} {d : Nat} {Q : s_O → Prop} {h : s_H} {kc ks : Nat} {r0 : Term} {x1 x2 x3 : Int} {q2 : Nat} {f3 : List Term} {v5 : Term} {q8 : Nat} {a9 : List Int} (g4 : s_get h q2 = some (1, 11, f3)) (g10 : s_get h q8 = some (0, 0, a9.map vi)) (k : wr P d sw_c548 sw_h548 (42, [.index q2, vi x1, vi x2, vi (x3 + 1)], [], (hp h q8 (0, 0, (a9.set (Int.toNat (x3)) (-(48 + (Int.tdiv x2 10)))).map vi)), kc, ks) Q) (e_q2 : r0 = .index q2 := by first | rfl | assumption) (e_q8 : v5 = .index q8 := by first | rfl | assumption) (y1 : s_ty r0 = 3 := by first | rfl | assumption) (n6 : s_nth f3 93 = some v5 := by first | rfl | assumption) (c7 : In3 x2 := by first | omega | assumption | (simp only [mk_len, List.length_map]; omega) | decide) (c11 : x3 < a9.length := by first | omega | assumption | (simp only [mk_len, List.length_map]; omega) | decide) (c12 : 0 ≤ x3 := by first | omega | assumption | (simp only [mk_len, List.length_map]; omega) | decide) (c13 : In3 x3 := by first | omega | assumption | (simp only [mk_len, List.length_map]; omega) | decide) (c14 : 0 < q8 := by first | omega | assumption | (simp only [mk_len, List.length_map]; omega) | decide) : wr P d sw_c548 sw_h548 (25, [r0, vi x1, vi x2, vi x3], [], h, kc, ks) Q := by
  refine w_ld rfl rfl (Or.inr (Or.inr ⟨by decide, y1⟩)) ?_
  subst e_q2
  refine w_getf rfl g4 n6 ?_
  refine w_ld rfl rfl (Or.inl ⟨by decide, rfl⟩) ?_
  refine w_c32 rfl (by decide) 48 (by decide) ?_
  refine w_ld rfl rfl (Or.inl ⟨by decide, rfl⟩) ?_
  refine w_c32 rfl (by decide) 10 (by decide) ?_
  refine w_idiv rfl c7 (by decide) (by decide) ?_
  refine w_iadd rfl ?_
  refine w_ineg rfl ?_
  subst e_q8
  refine w_iast rfl g10 (Nat.ble_eq_true_of_le c14) c13 c12 c11 ?_
  refine w_iinc (ls' := [.index q2, vi x1, vi x2, vi (x3 + 1)]) rfl rfl 1 (by decide) rfl ?_
  exact k

theorem k548_42 {P : s_P} {d : Nat} {Q : s_O → Prop} {h : s_H} {kc ks : Nat} {r0 : Term} {x1 x2 x3 : Int} {q2 : Nat} {f3 : List Term} {v5 : Term} {q7 : Nat} {a8 : List Int} (g4 : s_get h q2 = some (1, 11, f3)) (g9 : s_get h q7 = some (0, 0, a8.map vi)) (k : Q (.inl (some (vi (x3 + 1))), (hp h q7 (0, 0, (a8.set (Int.toNat (x3)) (-94)).map vi)), kc, ks)) (e_q2 : r0 = .index q2 := by first | rfl | assumption) (e_q7 : v5 = .index q7 := by first | rfl | assumption) (y1 : s_ty r0 = 3 := by first | rfl | assumption) (n6 : s_nth f3 93 = some v5 := by first | rfl | assumption) (c10 : x3 < a8.length := by first | omega | assumption | (simp only [mk_len, List.length_map]; omega) | decide) (c11 : 0 ≤ x3 := by first | omega | assumption | (simp only [mk_len, List.length_map]; omega) | decide) (c12 : In3 x3 := by first | omega | assumption | (simp only [mk_len, List.length_map]; omega) | decide) (c13 : 0 < q7 := by first | omega | assumption | (simp only [mk_len, List.length_map]; omega) | decide) : wr P d sw_c548 sw_h548 (42, [r0, vi x1, vi x2, vi x3], [], h, kc, ks) Q := by
  refine w_ld rfl rfl (Or.inr (Or.inr ⟨by decide, y1⟩)) ?_
  subst e_q2
  refine w_getf rfl g4 n6 ?_
  refine w_ld rfl rfl (Or.inl ⟨by decide, rfl⟩) ?_
  refine w_c32 rfl (by decide) (-94) (by decide) ?_
  subst e_q7
  refine w_iast rfl g9 (Nat.ble_eq_true_of_le c13) c12 c11 c10 ?_
  refine w_ld rfl rfl (Or.inl ⟨by decide, rfl⟩) ?_
  refine w_c32 rfl (by decide) 1 (by decide) ?_
  refine w_iadd rfl ?_
  exact w_iret rfl k

/-! 549: FormulaWorksModel.plant(II)V -/
theorem k549_0 {P : s_P} {d : Nat} {Q : s_O → Prop} {h : s_H} {kc ks : Nat} {r0 : Term} {x1 x2 : Int} {q2 : Nat} {f3 : List Term} {v5 : Term} {z7 : Int} {q9 : Nat} {a10 : List Int} {f16 : List Term} {v18 : Term} {z20 : Int} {q22 : Nat} {a23 : List Int} {f29 : List Term} {z31 : Int} (g4 : s_get h q2 = some (1, 11, f3)) (g11 : s_get h q9 = some (0, 0, a10.map vi)) (g17 : s_get (hp h q9 (0, 0, (a10.set (Int.toNat (z7)) x1).map vi)) q2 = some (1, 11, f16)) (g24 : s_get (hp h q9 (0, 0, (a10.set (Int.toNat (z7)) x1).map vi)) q22 = some (0, 0, a23.map vi)) (g30 : s_get (hp (hp h q9 (0, 0, (a10.set (Int.toNat (z7)) x1).map vi)) q22 (0, 0, (a23.set (Int.toNat (z20)) x2).map vi)) q2 = some (1, 11, f29)) (k : Q (.inl none, (hp (hp (hp h q9 (0, 0, (a10.set (Int.toNat (z7)) x1).map vi)) q22 (0, 0, (a23.set (Int.toNat (z20)) x2).map vi)) q2 (1, 11, f29.set 85 (vi (z31 + 1)))), kc, ks)) (e_q2 : r0 = .index q2 := by first | rfl | assumption) (e_q9 : v5 = .index q9 := by first | rfl | assumption) (e_q22 : v18 = .index q22 := by first | rfl | assumption) (y1 : s_ty r0 = 3 := by first | rfl | assumption) (n6 : s_nth f3 86 = some v5 := by first | rfl | assumption) (n8 : s_nth f3 85 = some (vi z7) := by first | rfl | assumption) (n19 : s_nth f16 87 = some v18 := by first | rfl | assumption) (n21 : s_nth f16 85 = some (vi z20) := by first | rfl | assumption) (n32 : s_nth f29 85 = some (vi z31) := by first | rfl | assumption) (l33 : 85 < f29.length := by first | exact Nat.le_of_ble_eq_true rfl | omega | assumption) (c12 : z7 < a10.length := by first | omega | assumption | (simp only [mk_len, List.length_map]; omega) | decide) (c13 : 0 ≤ z7 := by first | omega | assumption | (simp only [mk_len, List.length_map]; omega) | decide) (c14 : In3 z7 := by first | omega | assumption | (simp only [mk_len, List.length_map]; omega) | decide) (c15 : 0 < q9 := by first | omega | assumption | (simp only [mk_len, List.length_map]; omega) | decide) (c25 : z20 < a23.length := by first | omega | assumption | (simp only [mk_len, List.length_map]; omega) | decide) (c26 : 0 ≤ z20 := by first | omega | assumption | (simp only [mk_len, List.length_map]; omega) | decide) (c27 : In3 z20 := by first | omega | assumption | (simp only [mk_len, List.length_map]; omega) | decide) (c28 : 0 < q22 := by first | omega | assumption | (simp only [mk_len, List.length_map]; omega) | decide) (c34 : 0 < q2 := by first | omega | assumption | (simp only [mk_len, List.length_map]; omega) | decide) : wr P d sw_c549 sw_h549 (0, [r0, vi x1, vi x2], [], h, kc, ks) Q := by
  refine w_ld rfl rfl (Or.inr (Or.inr ⟨by decide, y1⟩)) ?_
  subst e_q2
  refine w_getf rfl g4 n6 ?_
  refine w_ld rfl rfl (Or.inr (Or.inr ⟨by decide, rfl⟩)) ?_
  refine w_getf rfl g4 n8 ?_
  refine w_ld rfl rfl (Or.inl ⟨by decide, rfl⟩) ?_
  subst e_q9
  refine w_iast rfl g11 (Nat.ble_eq_true_of_le c15) c14 c13 c12 ?_
  refine w_ld rfl rfl (Or.inr (Or.inr ⟨by decide, rfl⟩)) ?_
  refine w_getf rfl g17 n19 ?_
  refine w_ld rfl rfl (Or.inr (Or.inr ⟨by decide, rfl⟩)) ?_
  refine w_getf rfl g17 n21 ?_
  refine w_ld rfl rfl (Or.inl ⟨by decide, rfl⟩) ?_
  subst e_q22
  refine w_iast rfl g24 (Nat.ble_eq_true_of_le c28) c27 c26 c25 ?_
  refine w_ld rfl rfl (Or.inr (Or.inr ⟨by decide, rfl⟩)) ?_
  refine w_dup rfl rfl ?_
  refine w_getf rfl g30 n32 ?_
  refine w_c32 rfl (by decide) 1 (by decide) ?_
  refine w_iadd rfl ?_
  refine w_putf rfl g30 (Nat.ble_eq_true_of_le c34) rfl (Nat.ble_eq_true_of_le l33) ?_
  exact w_ret rfl k

/-! 550: FormulaWorksModel.plantPiece(II)V -/
theorem k550_0 {P : s_P} {d : Nat} {Q : s_O → Prop} {h : s_H} {kc ks : Nat} {r0 : Term} {x1 x2 : Int} {t3 : Term}  (k : wr P d sw_c550 sw_h550 (2, [r0, vi x1, vi x2, vi x1], [], h, kc, ks) Q)   : wr P d sw_c550 sw_h550 (0, [r0, vi x1, vi x2, t3], [], h, kc, ks) Q := by
  refine w_ld rfl rfl (Or.inl ⟨by decide, rfl⟩) ?_
  refine w_st (ls' := [r0, vi x1, vi x2, vi x1]) rfl (Or.inl ⟨by decide, rfl⟩) rfl ?_
  exact k

theorem k550_2 {P : s_P} {d : Nat} {Q : s_O → Prop} {h : s_H} {kc ks : Nat} {r0 : Term} {x1 x2 x3 : Int}  (k1 : x2 ≤ x3 → wr P d sw_c550 sw_h550 (29, [r0, vi x1, vi x2, vi x3], [], h, kc, ks) Q) (k2 : ¬ x2 ≤ x3 → wr P d sw_c550 sw_h550 (7, [r0, vi x1, vi x2, vi x3], [], h, kc, ks) Q)  (c1 : In3 x3 := by first | omega | assumption | (simp only [mk_len, List.length_map]; omega) | decide) (c2 : In3 x2 := by first | omega | assumption | (simp only [mk_len, List.length_map]; omega) | decide) : wr P d sw_c550 sw_h550 (2, [r0, vi x1, vi x2, vi x3], [], h, kc, ks) Q := by
  refine w_ld rfl rfl (Or.inl ⟨by decide, rfl⟩) ?_
  refine w_ld rfl rfl (Or.inl ⟨by decide, rfl⟩) ?_
  exact w_if2 rfl c1 c2 k1 k2

theorem k550_7 {P : s_P} {d : Nat} {Q : s_O → Prop} {h : s_H} {kc ks : Nat} {r0 : Term} {x1 x2 x3 : Int} {q2 : Nat} {f3 : List Term} {v5 : Term} {q7 : Nat} {a8 : List Int} {v13 : Term} {q15 : Nat} {a16 : List Int} (g4 : s_get h q2 = some (1, 11, f3)) (g9 : s_get h q7 = some (0, 0, a8.map vi)) (g17 : s_get h q15 = some (0, 0, a16.map vi)) (k : wm P d 549 [.index q2, vi (gi a8 x3), vi (gi a16 x3)] h (wq P d sw_c550 sw_h550 23 [.index q2, vi x1, vi x2, vi x3] [] kc ks Q)) (e_q2 : r0 = .index q2 := by first | rfl | assumption) (e_q7 : v5 = .index q7 := by first | rfl | assumption) (e_q15 : v13 = .index q15 := by first | rfl | assumption) (y1 : s_ty r0 = 3 := by first | rfl | assumption) (n6 : s_nth f3 83 = some v5 := by first | rfl | assumption) (n14 : s_nth f3 84 = some v13 := by first | rfl | assumption) (c10 : x3 < a8.length := by first | omega | assumption | (simp only [mk_len, List.length_map]; omega) | decide) (c11 : 0 ≤ x3 := by first | omega | assumption | (simp only [mk_len, List.length_map]; omega) | decide) (c12 : In3 x3 := by first | omega | assumption | (simp only [mk_len, List.length_map]; omega) | decide) (c18 : x3 < a16.length := by first | omega | assumption | (simp only [mk_len, List.length_map]; omega) | decide) : wr P d sw_c550 sw_h550 (7, [r0, vi x1, vi x2, vi x3], [], h, kc, ks) Q := by
  refine w_ld rfl rfl (Or.inr (Or.inr ⟨by decide, y1⟩)) ?_
  refine w_ld rfl rfl (Or.inr (Or.inr ⟨by decide, y1⟩)) ?_
  subst e_q2
  refine w_getf rfl g4 n6 ?_
  refine w_ld rfl rfl (Or.inl ⟨by decide, rfl⟩) ?_
  subst e_q7
  refine w_iald rfl g9 (Or.inl rfl) c12 c11 c10 ?_
  refine w_ld rfl rfl (Or.inr (Or.inr ⟨by decide, rfl⟩)) ?_
  refine w_getf rfl g4 n14 ?_
  refine w_ld rfl rfl (Or.inl ⟨by decide, rfl⟩) ?_
  subst e_q15
  refine w_iald rfl g17 (Or.inl rfl) c12 c11 c18 ?_
  exact w_cv rfl [.index q2, vi (gi a8 x3), vi (gi a16 x3)] [] rfl rfl (s_wt_4 rfl) rfl g4 k

theorem k550_23 {P : s_P} {d : Nat} {Q : s_O → Prop} {h : s_H} {kc ks : Nat} {r0 : Term} {x1 x2 x3 : Int}  (k : wr P d sw_c550 sw_h550 (2, [r0, vi x1, vi x2, vi (x3 + 1)], [], h, kc, ks) Q)   : wr P d sw_c550 sw_h550 (23, [r0, vi x1, vi x2, vi x3], [], h, kc, ks) Q := by
  refine w_iinc (ls' := [r0, vi x1, vi x2, vi (x3 + 1)]) rfl rfl 1 (by decide) rfl ?_
  refine w_goto rfl ?_
  exact k

theorem k550_29 {P : s_P} {d : Nat} {Q : s_O → Prop} {h : s_H} {kc ks : Nat} {r0 : Term} {x1 x2 x3 : Int}  (k : Q (.inl none, h, kc, ks))   : wr P d sw_c550 sw_h550 (29, [r0, vi x1, vi x2, vi x3], [], h, kc, ks) Q := by
  exact w_ret rfl k

/-! 551: FormulaWorksModel.plantRow([J)V -/
theorem k551_0 {P : s_P} {d : Nat} {Q : s_O → Prop} {h : s_H} {kc ks : Nat} {r0 r1 t2 t3 : Term}  (k : wr P d sw_c551 sw_h551 (4, [r0, r1, vi 0, vi 0], [], h, kc, ks) Q) (y1 : s_ty r1 = 3 := by first | rfl | assumption)  : wr P d sw_c551 sw_h551 (0, [r0, r1, t2, t3], [], h, kc, ks) Q := by
  refine w_c32 rfl (by decide) 0 (by decide) ?_
  refine w_st (ls' := [r0, r1, vi 0, t3]) rfl (Or.inl ⟨by decide, rfl⟩) (s_stK_r (pre := [r0]) y1) ?_
  refine w_c32 rfl (by decide) 0 (by decide) ?_
  refine w_st (ls' := [r0, r1, vi 0, vi 0]) rfl (Or.inl ⟨by decide, rfl⟩) rfl ?_
  exact k

theorem k551_4 {P : s_P} {d : Nat} {Q : s_O → Prop} {h : s_H} {kc ks : Nat} {r0 r1 : Term} {x2 x3 : Int}  (k1 : 40 < x3 → wr P d sw_c551 sw_h551 (32, [r0, r1, vi x2, vi x3], [], h, kc, ks) Q) (k2 : ¬ 40 < x3 → wr P d sw_c551 sw_h551 (10, [r0, r1, vi x2, vi x3], [], h, kc, ks) Q)  (c1 : In3 x3 := by first | omega | assumption | (simp only [mk_len, List.length_map]; omega) | decide) : wr P d sw_c551 sw_h551 (4, [r0, r1, vi x2, vi x3], [], h, kc, ks) Q := by
  refine w_ld rfl rfl (Or.inl ⟨by decide, rfl⟩) ?_
  refine w_c32 rfl (by decide) 40 (by decide) ?_
  exact w_if2 rfl c1 (by decide) k1 k2

theorem k551_10 {P : s_P} {d : Nat} {Q : s_O → Prop} {h : s_H} {kc ks : Nat} {r0 r1 : Term} {x2 x3 : Int} {q2 : Nat} {a3 : List Int} (g4 : s_get h q2 = some (0, 1, a3.map vl)) (k1 : gi a3 x3 = 0 → wr P d sw_c551 sw_h551 (23, [r0, .index q2, vi x2, vi x3], [vi x2], h, kc, ks) Q) (k2 : ¬ gi a3 x3 = 0 → wr P d sw_c551 sw_h551 (19, [r0, .index q2, vi x2, vi x3], [vi x2], h, kc, ks) Q) (e_q2 : r1 = .index q2 := by first | rfl | assumption) (y1 : s_ty r1 = 3 := by first | rfl | assumption) (c5 : x3 < a3.length := by first | omega | assumption | (simp only [mk_len, List.length_map]; omega) | decide) (c6 : 0 ≤ x3 := by first | omega | assumption | (simp only [mk_len, List.length_map]; omega) | decide) (c7 : In3 x3 := by first | omega | assumption | (simp only [mk_len, List.length_map]; omega) | decide) (c8 : In6 (gi a3 x3) := by first | omega | assumption | (simp only [mk_len, List.length_map]; omega) | decide) : wr P d sw_c551 sw_h551 (10, [r0, r1, vi x2, vi x3], [], h, kc, ks) Q := by
  refine w_ld rfl rfl (Or.inl ⟨by decide, rfl⟩) ?_
  refine w_ld rfl rfl (Or.inr (Or.inr ⟨by decide, y1⟩)) ?_
  refine w_ld rfl rfl (Or.inl ⟨by decide, rfl⟩) ?_
  subst e_q2
  refine w_lald rfl g4 c7 c6 c5 ?_
  refine w_c64 rfl (by decide) 0 (by decide) ?_
  exact w_lcmp rfl rfl c8 (by decide) k1 k2

theorem k551_19 {P : s_P} {d : Nat} {Q : s_O → Prop} {h : s_H} {kc ks : Nat} {r0 r1 : Term} {x2 x3 s0 : Int}  (k : wr P d sw_c551 sw_h551 (24, [r0, r1, vi x2, vi x3], [vi 1, vi s0], h, kc, ks) Q)   : wr P d sw_c551 sw_h551 (19, [r0, r1, vi x2, vi x3], [vi s0], h, kc, ks) Q := by
  refine w_c32 rfl (by decide) 1 (by decide) ?_
  refine w_goto rfl ?_
  exact k

theorem k551_23 {P : s_P} {d : Nat} {Q : s_O → Prop} {h : s_H} {kc ks : Nat} {r0 r1 : Term} {x2 x3 s0 : Int}  (k : wr P d sw_c551 sw_h551 (24, [r0, r1, vi x2, vi x3], [vi 0, vi s0], h, kc, ks) Q)   : wr P d sw_c551 sw_h551 (23, [r0, r1, vi x2, vi x3], [vi s0], h, kc, ks) Q := by
  refine w_c32 rfl (by decide) 0 (by decide) ?_
  exact k

theorem k551_24 {P : s_P} {d : Nat} {Q : s_O → Prop} {h : s_H} {kc ks : Nat} {r0 r1 : Term} {x2 x3 s0 s1 : Int}  (k : wr P d sw_c551 sw_h551 (4, [r0, r1, vi (s0 + s1), vi (x3 + 1)], [], h, kc, ks) Q) (y1 : s_ty r1 = 3 := by first | rfl | assumption)  : wr P d sw_c551 sw_h551 (24, [r0, r1, vi x2, vi x3], [vi s1, vi s0], h, kc, ks) Q := by
  refine w_iadd rfl ?_
  refine w_st (ls' := [r0, r1, vi (s0 + s1), vi x3]) rfl (Or.inl ⟨by decide, rfl⟩) (s_stK_r (pre := [r0]) y1) ?_
  refine w_iinc (ls' := [r0, r1, vi (s0 + s1), vi (x3 + 1)]) rfl rfl 1 (by decide) rfl ?_
  refine w_goto rfl ?_
  exact k

theorem k551_32 {P : s_P} {d : Nat} {Q : s_O → Prop} {h : s_H} {kc ks : Nat} {r0 r1 : Term} {x2 x3 : Int}  (k : wr P d sw_c551 sw_h551 (34, [r0, r1, vi x2, vi 1], [], h, kc, ks) Q)   : wr P d sw_c551 sw_h551 (32, [r0, r1, vi x2, vi x3], [], h, kc, ks) Q := by
  refine w_c32 rfl (by decide) 1 (by decide) ?_
  refine w_st (ls' := [r0, r1, vi x2, vi 1]) rfl (Or.inl ⟨by decide, rfl⟩) rfl ?_
  exact k

theorem k551_34 {P : s_P} {d : Nat} {Q : s_O → Prop} {h : s_H} {kc ks : Nat} {r0 r1 : Term} {x2 x3 : Int}  (k1 : x2 ≤ x3 → wr P d sw_c551 sw_h551 (51, [r0, r1, vi x2, vi x3], [], h, kc, ks) Q) (k2 : ¬ x2 ≤ x3 → wr P d sw_c551 sw_h551 (39, [r0, r1, vi x2, vi x3], [], h, kc, ks) Q)  (c1 : In3 x3 := by first | omega | assumption | (simp only [mk_len, List.length_map]; omega) | decide) (c2 : In3 x2 := by first | omega | assumption | (simp only [mk_len, List.length_map]; omega) | decide) : wr P d sw_c551 sw_h551 (34, [r0, r1, vi x2, vi x3], [], h, kc, ks) Q := by
  refine w_ld rfl rfl (Or.inl ⟨by decide, rfl⟩) ?_
  refine w_ld rfl rfl (Or.inl ⟨by decide, rfl⟩) ?_
  exact w_if2 rfl c1 c2 k1 k2

theorem k551_39 {P : s_P} {d : Nat} {Q : s_O → Prop} {h : s_H} {kc ks : Nat} {r0 r1 : Term} {x2 x3 : Int} {q2 : Nat} {f3 : List Term} (g4 : s_get h q2 = some (1, 11, f3)) (k : wm P d 549 [.index q2, vi 2, vi 0] h (wq P d sw_c551 sw_h551 45 [.index q2, r1, vi x2, vi x3] [] kc ks Q)) (e_q2 : r0 = .index q2 := by first | rfl | assumption) (y1 : s_ty r0 = 3 := by first | rfl | assumption)  : wr P d sw_c551 sw_h551 (39, [r0, r1, vi x2, vi x3], [], h, kc, ks) Q := by
  refine w_ld rfl rfl (Or.inr (Or.inr ⟨by decide, y1⟩)) ?_
  refine w_c32 rfl (by decide) 2 (by decide) ?_
  refine w_c32 rfl (by decide) 0 (by decide) ?_
  subst e_q2
  exact w_cv rfl [.index q2, vi 2, vi 0] [] rfl rfl (s_wt_4 rfl) rfl g4 k

theorem k551_45 {P : s_P} {d : Nat} {Q : s_O → Prop} {h : s_H} {kc ks : Nat} {r0 r1 : Term} {x2 x3 : Int}  (k : wr P d sw_c551 sw_h551 (34, [r0, r1, vi x2, vi (x3 + 1)], [], h, kc, ks) Q)   : wr P d sw_c551 sw_h551 (45, [r0, r1, vi x2, vi x3], [], h, kc, ks) Q := by
  refine w_iinc (ls' := [r0, r1, vi x2, vi (x3 + 1)]) rfl rfl 1 (by decide) rfl ?_
  refine w_goto rfl ?_
  exact k

theorem k551_51 {P : s_P} {d : Nat} {Q : s_O → Prop} {h : s_H} {kc ks : Nat} {r0 r1 : Term} {x2 x3 : Int}  (k1 : x2 ≠ 0 → wr P d sw_c551 sw_h551 (61, [r0, r1, vi x2, vi x3], [], h, kc, ks) Q) (k2 : ¬ x2 ≠ 0 → wr P d sw_c551 sw_h551 (55, [r0, r1, vi x2, vi x3], [], h, kc, ks) Q)  (c1 : In3 x2 := by first | omega | assumption | (simp only [mk_len, List.length_map]; omega) | decide) : wr P d sw_c551 sw_h551 (51, [r0, r1, vi x2, vi x3], [], h, kc, ks) Q := by
  refine w_ld rfl rfl (Or.inl ⟨by decide, rfl⟩) ?_
  exact w_if1 rfl c1 k1 k2

theorem k551_55 {P : s_P} {d : Nat} {Q : s_O → Prop} {h : s_H} {kc ks : Nat} {r0 r1 : Term} {x2 x3 : Int} {q2 : Nat} {f3 : List Term} (g4 : s_get h q2 = some (1, 11, f3)) (k : wm P d 549 [.index q2, vi 0, vi 0] h (wq P d sw_c551 sw_h551 61 [.index q2, r1, vi x2, vi x3] [] kc ks Q)) (e_q2 : r0 = .index q2 := by first | rfl | assumption) (y1 : s_ty r0 = 3 := by first | rfl | assumption)  : wr P d sw_c551 sw_h551 (55, [r0, r1, vi x2, vi x3], [], h, kc, ks) Q := by
  refine w_ld rfl rfl (Or.inr (Or.inr ⟨by decide, y1⟩)) ?_
  refine w_c32 rfl (by decide) 0 (by decide) ?_
  refine w_c32 rfl (by decide) 0 (by decide) ?_
  subst e_q2
  exact w_cv rfl [.index q2, vi 0, vi 0] [] rfl rfl (s_wt_4 rfl) rfl g4 k

theorem k551_61 {P : s_P} {d : Nat} {Q : s_O → Prop} {h : s_H} {kc ks : Nat} {r0 r1 : Term} {x2 x3 : Int}  (k : wr P d sw_c551 sw_h551 (64, [r0, r1, vi x2, vi 40], [], h, kc, ks) Q)   : wr P d sw_c551 sw_h551 (61, [r0, r1, vi x2, vi x3], [], h, kc, ks) Q := by
  refine w_c32 rfl (by decide) 40 (by decide) ?_
  refine w_st (ls' := [r0, r1, vi x2, vi 40]) rfl (Or.inl ⟨by decide, rfl⟩) rfl ?_
  exact k

theorem k551_64 {P : s_P} {d : Nat} {Q : s_O → Prop} {h : s_H} {kc ks : Nat} {r0 r1 : Term} {x2 x3 : Int}  (k1 : x3 < 0 → wr P d sw_c551 sw_h551 (146, [r0, r1, vi x2, vi x3], [], h, kc, ks) Q) (k2 : ¬ x3 < 0 → wr P d sw_c551 sw_h551 (68, [r0, r1, vi x2, vi x3], [], h, kc, ks) Q)  (c1 : In3 x3 := by first | omega | assumption | (simp only [mk_len, List.length_map]; omega) | decide) : wr P d sw_c551 sw_h551 (64, [r0, r1, vi x2, vi x3], [], h, kc, ks) Q := by
  refine w_ld rfl rfl (Or.inl ⟨by decide, rfl⟩) ?_
  exact w_if1 rfl c1 k1 k2

theorem k551_68 {P : s_P} {d : Nat} {Q : s_O → Prop} {h : s_H} {kc ks : Nat} {r0 r1 : Term} {x2 x3 : Int} {q2 : Nat} {a3 : List Int} (g4 : s_get h q2 = some (0, 1, a3.map vl)) (k1 : gi a3 x3 ≠ 0 → wr P d sw_c551 sw_h551 (79, [r0, .index q2, vi x2, vi x3], [], h, kc, ks) Q) (k2 : ¬ gi a3 x3 ≠ 0 → wr P d sw_c551 sw_h551 (76, [r0, .index q2, vi x2, vi x3], [], h, kc, ks) Q) (e_q2 : r1 = .index q2 := by first | rfl | assumption) (y1 : s_ty r1 = 3 := by first | rfl | assumption) (c5 : x3 < a3.length := by first | omega | assumption | (simp only [mk_len, List.length_map]; omega) | decide) (c6 : 0 ≤ x3 := by first | omega | assumption | (simp only [mk_len, List.length_map]; omega) | decide) (c7 : In3 x3 := by first | omega | assumption | (simp only [mk_len, List.length_map]; omega) | decide) (c8 : In6 (gi a3 x3) := by first | omega | assumption | (simp only [mk_len, List.length_map]; omega) | decide) : wr P d sw_c551 sw_h551 (68, [r0, r1, vi x2, vi x3], [], h, kc, ks) Q := by
  refine w_ld rfl rfl (Or.inr (Or.inr ⟨by decide, y1⟩)) ?_
  refine w_ld rfl rfl (Or.inl ⟨by decide, rfl⟩) ?_
  subst e_q2
  refine w_lald rfl g4 c7 c6 c5 ?_
  refine w_c64 rfl (by decide) 0 (by decide) ?_
  exact w_lcmp rfl rfl c8 (by decide) k1 k2

theorem k551_76 {P : s_P} {d : Nat} {Q : s_O → Prop} {h : s_H} {kc ks : Nat} {r0 r1 : Term} {x2 x3 : Int}  (k : wr P d sw_c551 sw_h551 (140, [r0, r1, vi x2, vi x3], [], h, kc, ks) Q)   : wr P d sw_c551 sw_h551 (76, [r0, r1, vi x2, vi x3], [], h, kc, ks) Q := by
  refine w_goto rfl ?_
  exact k

theorem k551_79 {P : s_P} {d : Nat} {Q : s_O → Prop} {h : s_H} {kc ks : Nat} {r0 r1 : Term} {x2 x3 : Int}  (k1 : x3 ≤ 0 → wr P d sw_c551 sw_h551 (97, [r0, r1, vi x2, vi x3], [], h, kc, ks) Q) (k2 : ¬ x3 ≤ 0 → wr P d sw_c551 sw_h551 (83, [r0, r1, vi x2, vi x3], [], h, kc, ks) Q)  (c1 : In3 x3 := by first | omega | assumption | (simp only [mk_len, List.length_map]; omega) | decide) : wr P d sw_c551 sw_h551 (79, [r0, r1, vi x2, vi x3], [], h, kc, ks) Q := by
  refine w_ld rfl rfl (Or.inl ⟨by decide, rfl⟩) ?_
  exact w_if1 rfl c1 k1 k2

theorem k551_83 {P : s_P} {d : Nat} {Q : s_O → Prop} {h : s_H} {kc ks : Nat} {r0 r1 : Term} {x2 x3 : Int} {q2 : Nat} {a3 : List Int} (g4 : s_get h q2 = some (0, 1, a3.map vl)) (k1 : gi a3 x3 = 1 → wr P d sw_c551 sw_h551 (97, [r0, .index q2, vi x2, vi x3], [], h, kc, ks) Q) (k2 : ¬ gi a3 x3 = 1 → wr P d sw_c551 sw_h551 (91, [r0, .index q2, vi x2, vi x3], [], h, kc, ks) Q) (e_q2 : r1 = .index q2 := by first | rfl | assumption) (y1 : s_ty r1 = 3 := by first | rfl | assumption) (c5 : x3 < a3.length := by first | omega | assumption | (simp only [mk_len, List.length_map]; omega) | decide) (c6 : 0 ≤ x3 := by first | omega | assumption | (simp only [mk_len, List.length_map]; omega) | decide) (c7 : In3 x3 := by first | omega | assumption | (simp only [mk_len, List.length_map]; omega) | decide) (c8 : In6 (gi a3 x3) := by first | omega | assumption | (simp only [mk_len, List.length_map]; omega) | decide) : wr P d sw_c551 sw_h551 (83, [r0, r1, vi x2, vi x3], [], h, kc, ks) Q := by
  refine w_ld rfl rfl (Or.inr (Or.inr ⟨by decide, y1⟩)) ?_
  refine w_ld rfl rfl (Or.inl ⟨by decide, rfl⟩) ?_
  subst e_q2
  refine w_lald rfl g4 c7 c6 c5 ?_
  refine w_c64 rfl (by decide) 1 (by decide) ?_
  exact w_lcmp rfl rfl c8 (by decide) k1 k2

theorem k551_91 {P : s_P} {d : Nat} {Q : s_O → Prop} {h : s_H} {kc ks : Nat} {r0 r1 : Term} {x2 x3 : Int} {q2 : Nat} {f3 : List Term} (g4 : s_get h q2 = some (1, 11, f3)) (k : wm P d 549 [.index q2, vi 4, vi 0] h (wq P d sw_c551 sw_h551 97 [.index q2, r1, vi x2, vi x3] [] kc ks Q)) (e_q2 : r0 = .index q2 := by first | rfl | assumption) (y1 : s_ty r0 = 3 := by first | rfl | assumption)  : wr P d sw_c551 sw_h551 (91, [r0, r1, vi x2, vi x3], [], h, kc, ks) Q := by
  refine w_ld rfl rfl (Or.inr (Or.inr ⟨by decide, y1⟩)) ?_
  refine w_c32 rfl (by decide) 4 (by decide) ?_
  refine w_c32 rfl (by decide) 0 (by decide) ?_
  subst e_q2
  exact w_cv rfl [.index q2, vi 4, vi 0] [] rfl rfl (s_wt_4 rfl) rfl g4 k

theorem k551_97 {P : s_P} {d : Nat} {Q : s_O → Prop} {h : s_H} {kc ks : Nat} {r0 r1 : Term} {x2 x3 : Int}  (k1 : x3 = 0 → wr P d sw_c551 sw_h551 (109, [r0, r1, vi x2, vi x3], [], h, kc, ks) Q) (k2 : ¬ x3 = 0 → wr P d sw_c551 sw_h551 (101, [r0, r1, vi x2, vi x3], [], h, kc, ks) Q)  (c1 : In3 x3 := by first | omega | assumption | (simp only [mk_len, List.length_map]; omega) | decide) : wr P d sw_c551 sw_h551 (97, [r0, r1, vi x2, vi x3], [], h, kc, ks) Q := by
  refine w_ld rfl rfl (Or.inl ⟨by decide, rfl⟩) ?_
  exact w_if1 rfl c1 k1 k2

theorem k551_101 {P : s_P} {d : Nat} {Q : s_O → Prop} {h : s_H} {kc ks : Nat} {r0 r1 : Term} {x2 x3 : Int} {q2 : Nat} {a3 : List Int} (g4 : s_get h q2 = some (0, 1, a3.map vl)) (k1 : gi a3 x3 = 1 → wr P d sw_c551 sw_h551 (118, [r0, .index q2, vi x2, vi x3], [], h, kc, ks) Q) (k2 : ¬ gi a3 x3 = 1 → wr P d sw_c551 sw_h551 (109, [r0, .index q2, vi x2, vi x3], [], h, kc, ks) Q) (e_q2 : r1 = .index q2 := by first | rfl | assumption) (y1 : s_ty r1 = 3 := by first | rfl | assumption) (c5 : x3 < a3.length := by first | omega | assumption | (simp only [mk_len, List.length_map]; omega) | decide) (c6 : 0 ≤ x3 := by first | omega | assumption | (simp only [mk_len, List.length_map]; omega) | decide) (c7 : In3 x3 := by first | omega | assumption | (simp only [mk_len, List.length_map]; omega) | decide) (c8 : In6 (gi a3 x3) := by first | omega | assumption | (simp only [mk_len, List.length_map]; omega) | decide) : wr P d sw_c551 sw_h551 (101, [r0, r1, vi x2, vi x3], [], h, kc, ks) Q := by
  refine w_ld rfl rfl (Or.inr (Or.inr ⟨by decide, y1⟩)) ?_
  refine w_ld rfl rfl (Or.inl ⟨by decide, rfl⟩) ?_
  subst e_q2
  refine w_lald rfl g4 c7 c6 c5 ?_
  refine w_c64 rfl (by decide) 1 (by decide) ?_
  exact w_lcmp rfl rfl c8 (by decide) k1 k2

theorem k551_109 {P : s_P} {d : Nat} {Q : s_O → Prop} {h : s_H} {kc ks : Nat} {r0 r1 : Term} {x2 x3 : Int} {q3 : Nat} {a4 : List Int} {q9 : Nat} {f10 : List Term} (g5 : s_get h q3 = some (0, 1, a4.map vl)) (g11 : s_get h q9 = some (1, 11, f10)) (k : wm P d 549 [.index q9, vi 0, vi (gi a4 x3)] h (wq P d sw_c551 sw_h551 118 [.index q9, .index q3, vi x2, vi x3] [] kc ks Q)) (e_q3 : r1 = .index q3 := by first | rfl | assumption) (e_q9 : r0 = .index q9 := by first | rfl | assumption) (y1 : s_ty r0 = 3 := by first | rfl | assumption) (y2 : s_ty r1 = 3 := by first | rfl | assumption) (c6 : x3 < a4.length := by first | omega | assumption | (simp only [mk_len, List.length_map]; omega) | decide) (c7 : 0 ≤ x3 := by first | omega | assumption | (simp only [mk_len, List.length_map]; omega) | decide) (c8 : In3 x3 := by first | omega | assumption | (simp only [mk_len, List.length_map]; omega) | decide) : wr P d sw_c551 sw_h551 (109, [r0, r1, vi x2, vi x3], [], h, kc, ks) Q := by
  refine w_ld rfl rfl (Or.inr (Or.inr ⟨by decide, y1⟩)) ?_
  refine w_c32 rfl (by decide) 0 (by decide) ?_
  refine w_ld rfl rfl (Or.inr (Or.inr ⟨by decide, y2⟩)) ?_
  refine w_ld rfl rfl (Or.inl ⟨by decide, rfl⟩) ?_
  subst e_q3
  refine w_lald rfl g5 c8 c7 c6 ?_
  refine w_l2i rfl ?_
  subst e_q9
  exact w_cv rfl [.index q9, vi 0, vi (gi a4 x3)] [] rfl rfl (s_wt_4 rfl) rfl g11 k

theorem k551_118 {P : s_P} {d : Nat} {Q : s_O → Prop} {h : s_H} {kc ks : Nat} {r0 r1 : Term} {x2 x3 : Int}  (k1 : x3 ≤ 1 → wr P d sw_c551 sw_h551 (130, [r0, r1, vi x2, vi x3], [], h, kc, ks) Q) (k2 : ¬ x3 ≤ 1 → wr P d sw_c551 sw_h551 (123, [r0, r1, vi x2, vi x3], [], h, kc, ks) Q)  (c1 : In3 x3 := by first | omega | assumption | (simp only [mk_len, List.length_map]; omega) | decide) : wr P d sw_c551 sw_h551 (118, [r0, r1, vi x2, vi x3], [], h, kc, ks) Q := by
  refine w_ld rfl rfl (Or.inl ⟨by decide, rfl⟩) ?_
  refine w_c32 rfl (by decide) 1 (by decide) ?_
  exact w_if2 rfl c1 (by decide) k1 k2

theorem k551_123 {P : s_P} {d : Nat} {Q : s_O → Prop} {h : s_H} {kc ks : Nat} {r0 r1 : Term} {x2 x3 : Int} {q2 : Nat} {f3 : List Term} (g4 : s_get h q2 = some (1, 11, f3)) (k : wm P d 549 [.index q2, vi 7, vi x3] h (wq P d sw_c551 sw_h551 130 [.index q2, r1, vi x2, vi x3] [] kc ks Q)) (e_q2 : r0 = .index q2 := by first | rfl | assumption) (y1 : s_ty r0 = 3 := by first | rfl | assumption)  : wr P d sw_c551 sw_h551 (123, [r0, r1, vi x2, vi x3], [], h, kc, ks) Q := by
  refine w_ld rfl rfl (Or.inr (Or.inr ⟨by decide, y1⟩)) ?_
  refine w_c32 rfl (by decide) 7 (by decide) ?_
  refine w_ld rfl rfl (Or.inl ⟨by decide, rfl⟩) ?_
  subst e_q2
  exact w_cv rfl [.index q2, vi 7, vi x3] [] rfl rfl (s_wt_4 rfl) rfl g4 k

theorem k551_130 {P : s_P} {d : Nat} {Q : s_O → Prop} {h : s_H} {kc ks : Nat} {r0 r1 : Term} {x2 x3 : Int}  (k1 : x3 ≤ 0 → wr P d sw_c551 sw_h551 (140, [r0, r1, vi x2, vi x3], [], h, kc, ks) Q) (k2 : ¬ x3 ≤ 0 → wr P d sw_c551 sw_h551 (134, [r0, r1, vi x2, vi x3], [], h, kc, ks) Q)  (c1 : In3 x3 := by first | omega | assumption | (simp only [mk_len, List.length_map]; omega) | decide) : wr P d sw_c551 sw_h551 (130, [r0, r1, vi x2, vi x3], [], h, kc, ks) Q := by
  refine w_ld rfl rfl (Or.inl ⟨by decide, rfl⟩) ?_
  exact w_if1 rfl c1 k1 k2

theorem k551_134 {P : s_P} {d : Nat} {Q : s_O → Prop} {h : s_H} {kc ks : Nat} {r0 r1 : Term} {x2 x3 : Int} {q2 : Nat} {f3 : List Term} (g4 : s_get h q2 = some (1, 11, f3)) (k : wm P d 549 [.index q2, vi 1, vi 0] h (wq P d sw_c551 sw_h551 140 [.index q2, r1, vi x2, vi x3] [] kc ks Q)) (e_q2 : r0 = .index q2 := by first | rfl | assumption) (y1 : s_ty r0 = 3 := by first | rfl | assumption)  : wr P d sw_c551 sw_h551 (134, [r0, r1, vi x2, vi x3], [], h, kc, ks) Q := by
  refine w_ld rfl rfl (Or.inr (Or.inr ⟨by decide, y1⟩)) ?_
  refine w_c32 rfl (by decide) 1 (by decide) ?_
  refine w_c32 rfl (by decide) 0 (by decide) ?_
  subst e_q2
  exact w_cv rfl [.index q2, vi 1, vi 0] [] rfl rfl (s_wt_4 rfl) rfl g4 k

theorem k551_140 {P : s_P} {d : Nat} {Q : s_O → Prop} {h : s_H} {kc ks : Nat} {r0 r1 : Term} {x2 x3 : Int}  (k : wr P d sw_c551 sw_h551 (64, [r0, r1, vi x2, vi (x3 + (-1))], [], h, kc, ks) Q)   : wr P d sw_c551 sw_h551 (140, [r0, r1, vi x2, vi x3], [], h, kc, ks) Q := by
  refine w_iinc (ls' := [r0, r1, vi x2, vi (x3 + (-1))]) rfl rfl (-1) (by decide) rfl ?_
  refine w_goto rfl ?_
  exact k

theorem k551_146 {P : s_P} {d : Nat} {Q : s_O → Prop} {h : s_H} {kc ks : Nat} {r0 r1 : Term} {x2 x3 : Int}  (k : Q (.inl none, h, kc, ks))   : wr P d sw_c551 sw_h551 (146, [r0, r1, vi x2, vi x3], [], h, kc, ks) Q := by
  exact w_ret rfl k

/-! 552: FormulaWorksModel.plantsLaw(II)Z -/
theorem k552_0 {P : s_P} {d : Nat} {Q : s_O → Prop} {h : s_H} {kc ks : Nat} {r0 : Term} {x1 x2 : Int} {t3 t4 t5 t6 t7 : Term} {q2 : Nat} {f3 : List Term} {v5 : Term} {q7 : Nat} {a8 : List Int} (g4 : s_get h q2 = some (1, 11, f3)) (g9 : s_get h q7 = some (0, 0, a8.map vi)) (k1 : x2 = 7 → wr P d sw_c552 sw_h552 (19, [.index q2, vi x1, vi x2, vi (gi a8 x1), t4, t5, t6, t7], [], h, kc, ks) Q) (k2 : ¬ x2 = 7 → wr P d sw_c552 sw_h552 (13, [.index q2, vi x1, vi x2, vi (gi a8 x1), t4, t5, t6, t7], [], h, kc, ks) Q) (e_q2 : r0 = .index q2 := by first | rfl | assumption) (e_q7 : v5 = .index q7 := by first | rfl | assumption) (y1 : s_ty r0 = 3 := by first | rfl | assumption) (n6 : s_nth f3 83 = some v5 := by first | rfl | assumption) (c10 : x1 < a8.length := by first | omega | assumption | (simp only [mk_len, List.length_map]; omega) | decide) (c11 : 0 ≤ x1 := by first | omega | assumption | (simp only [mk_len, List.length_map]; omega) | decide) (c12 : In3 x1 := by first | omega | assumption | (simp only [mk_len, List.length_map]; omega) | decide) (c13 : In3 x2 := by first | omega | assumption | (simp only [mk_len, List.length_map]; omega) | decide) : wr P d sw_c552 sw_h552 (0, [r0, vi x1, vi x2, t3, t4, t5, t6, t7], [], h, kc, ks) Q := by
  refine w_ld rfl rfl (Or.inr (Or.inr ⟨by decide, y1⟩)) ?_
  subst e_q2
  refine w_getf rfl g4 n6 ?_
  refine w_ld rfl rfl (Or.inl ⟨by decide, rfl⟩) ?_
  subst e_q7
  refine w_iald rfl g9 (Or.inl rfl) c12 c11 c10 ?_
  refine w_st (ls' := [.index q2, vi x1, vi x2, vi (gi a8 x1), t4, t5, t6, t7]) rfl (Or.inl ⟨by decide, rfl⟩) rfl ?_
  refine w_ld rfl rfl (Or.inl ⟨by decide, rfl⟩) ?_
  refine w_c32 rfl (by decide) 7 (by decide) ?_
  exact w_if2 rfl c13 (by decide) k1 k2

theorem k552_13 {P : s_P} {d : Nat} {Q : s_O → Prop} {h : s_H} {kc ks : Nat} {r0 : Term} {x1 x2 x3 : Int} {t4 t5 t6 t7 : Term}  (k1 : x2 ≠ 9 → wr P d sw_c552 sw_h552 (27, [r0, vi x1, vi x2, vi x3, t4, t5, t6, t7], [], h, kc, ks) Q) (k2 : ¬ x2 ≠ 9 → wr P d sw_c552 sw_h552 (19, [r0, vi x1, vi x2, vi x3, t4, t5, t6, t7], [], h, kc, ks) Q)  (c1 : In3 x2 := by first | omega | assumption | (simp only [mk_len, List.length_map]; omega) | decide) : wr P d sw_c552 sw_h552 (13, [r0, vi x1, vi x2, vi x3, t4, t5, t6, t7], [], h, kc, ks) Q := by
  refine w_ld rfl rfl (Or.inl ⟨by decide, rfl⟩) ?_
  refine w_c32 rfl (by decide) 9 (by decide) ?_
  exact w_if2 rfl c1 (by decide) k1 k2

theorem k552_19 {P : s_P} {d : Nat} {Q : s_O → Prop} {h : s_H} {kc ks : Nat} {r0 : Term} {x1 x2 x3 : Int} {t4 t5 t6 t7 : Term} {q2 : Nat} {f3 : List Term} (g4 : s_get h q2 = some (1, 11, f3)) (k : wm P d 555 [.index q2, vi x1, vi x2, vi x3] h (wq P d sw_c552 sw_h552 26 [.index q2, vi x1, vi x2, vi x3, t4, t5, t6, t7] [] kc ks Q)) (e_q2 : r0 = .index q2 := by first | rfl | assumption) (y1 : s_ty r0 = 3 := by first | rfl | assumption)  : wr P d sw_c552 sw_h552 (19, [r0, vi x1, vi x2, vi x3, t4, t5, t6, t7], [], h, kc, ks) Q := by
  refine w_ld rfl rfl (Or.inr (Or.inr ⟨by decide, y1⟩)) ?_
  refine w_ld rfl rfl (Or.inl ⟨by decide, rfl⟩) ?_
  refine w_ld rfl rfl (Or.inl ⟨by decide, rfl⟩) ?_
  refine w_ld rfl rfl (Or.inl ⟨by decide, rfl⟩) ?_
  subst e_q2
  exact w_cv rfl [.index q2, vi x1, vi x2, vi x3] [] rfl rfl (s_wt_4 rfl) rfl g4 k

theorem k552_26 {P : s_P} {d : Nat} {Q : s_O → Prop} {h : s_H} {kc ks : Nat} {r0 : Term} {x1 x2 x3 : Int} {t4 t5 t6 t7 : Term} {s0 : Int}  (k : Q (.inl (some (vi s0)), h, kc, ks))  (c1 : s0 = 0 ∨ s0 = 1 := by first | omega | assumption | (simp only [mk_len, List.length_map]; omega) | decide) : wr P d sw_c552 sw_h552 (26, [r0, vi x1, vi x2, vi x3, t4, t5, t6, t7], [vi s0], h, kc, ks) Q := by
  exact w_zret rfl c1 k

theorem k552_27 {P : s_P} {d : Nat} {Q : s_O → Prop} {h : s_H} {kc ks : Nat} {r0 : Term} {x1 x2 x3 : Int} {t4 t5 t6 t7 : Term}  (k1 : x2 ≠ 10 → wr P d sw_c552 sw_h552 (40, [r0, vi x1, vi x2, vi x3, t4, t5, t6, t7], [], h, kc, ks) Q) (k2 : ¬ x2 ≠ 10 → wr P d sw_c552 sw_h552 (33, [r0, vi x1, vi x2, vi x3, t4, t5, t6, t7], [], h, kc, ks) Q)  (c1 : In3 x2 := by first | omega | assumption | (simp only [mk_len, List.length_map]; omega) | decide) : wr P d sw_c552 sw_h552 (27, [r0, vi x1, vi x2, vi x3, t4, t5, t6, t7], [], h, kc, ks) Q := by
  refine w_ld rfl rfl (Or.inl ⟨by decide, rfl⟩) ?_
  refine w_c32 rfl (by decide) 10 (by decide) ?_
  exact w_if2 rfl c1 (by decide) k1 k2

theorem k552_33 {P : s_P} {d : Nat} {Q : s_O → Prop} {h : s_H} {kc ks : Nat} {r0 : Term} {x1 x2 x3 : Int} {t4 t5 t6 t7 : Term} {q2 : Nat} {f3 : List Term} (g4 : s_get h q2 = some (1, 11, f3)) (k : wm P d 554 [.index q2, vi x1, vi x3] h (wq P d sw_c552 sw_h552 39 [.index q2, vi x1, vi x2, vi x3, t4, t5, t6, t7] [] kc ks Q)) (e_q2 : r0 = .index q2 := by first | rfl | assumption) (y1 : s_ty r0 = 3 := by first | rfl | assumption)  : wr P d sw_c552 sw_h552 (33, [r0, vi x1, vi x2, vi x3, t4, t5, t6, t7], [], h, kc, ks) Q := by
  refine w_ld rfl rfl (Or.inr (Or.inr ⟨by decide, y1⟩)) ?_
  refine w_ld rfl rfl (Or.inl ⟨by decide, rfl⟩) ?_
  refine w_ld rfl rfl (Or.inl ⟨by decide, rfl⟩) ?_
  subst e_q2
  exact w_cv rfl [.index q2, vi x1, vi x3] [] rfl rfl (s_wt_4 rfl) rfl g4 k

theorem k552_39 {P : s_P} {d : Nat} {Q : s_O → Prop} {h : s_H} {kc ks : Nat} {r0 : Term} {x1 x2 x3 : Int} {t4 t5 t6 t7 : Term} {s0 : Int}  (k : Q (.inl (some (vi s0)), h, kc, ks))  (c1 : s0 = 0 ∨ s0 = 1 := by first | omega | assumption | (simp only [mk_len, List.length_map]; omega) | decide) : wr P d sw_c552 sw_h552 (39, [r0, vi x1, vi x2, vi x3, t4, t5, t6, t7], [vi s0], h, kc, ks) Q := by
  exact w_zret rfl c1 k

theorem k552_40 {P : s_P} {d : Nat} {Q : s_O → Prop} {h : s_H} {kc ks : Nat} {r0 : Term} {x1 x2 x3 : Int} {t4 t5 t6 t7 : Term}  (k1 : x2 ≠ 8 → wr P d sw_c552 sw_h552 (80, [r0, vi x1, vi x2, vi x3, t4, t5, t6, t7], [], h, kc, ks) Q) (k2 : ¬ x2 ≠ 8 → wr P d sw_c552 sw_h552 (46, [r0, vi x1, vi x2, vi x3, t4, t5, t6, t7], [], h, kc, ks) Q)  (c1 : In3 x2 := by first | omega | assumption | (simp only [mk_len, List.length_map]; omega) | decide) : wr P d sw_c552 sw_h552 (40, [r0, vi x1, vi x2, vi x3, t4, t5, t6, t7], [], h, kc, ks) Q := by
  refine w_ld rfl rfl (Or.inl ⟨by decide, rfl⟩) ?_
  refine w_c32 rfl (by decide) 8 (by decide) ?_
  exact w_if2 rfl c1 (by decide) k1 k2

theorem k552_46 {P : s_P} {d : Nat} {Q : s_O → Prop} {h : s_H} {kc ks : Nat} {r0 : Term} {x1 x2 x3 : Int} {t4 t5 t6 t7 : Term}  (k1 : x3 ≠ 7 → wr P d sw_c552 sw_h552 (80, [r0, vi x1, vi x2, vi x3, t4, t5, t6, t7], [], h, kc, ks) Q) (k2 : ¬ x3 ≠ 7 → wr P d sw_c552 sw_h552 (52, [r0, vi x1, vi x2, vi x3, t4, t5, t6, t7], [], h, kc, ks) Q)  (c1 : In3 x3 := by first | omega | assumption | (simp only [mk_len, List.length_map]; omega) | decide) : wr P d sw_c552 sw_h552 (46, [r0, vi x1, vi x2, vi x3, t4, t5, t6, t7], [], h, kc, ks) Q := by
  refine w_ld rfl rfl (Or.inl ⟨by decide, rfl⟩) ?_
  refine w_c32 rfl (by decide) 7 (by decide) ?_
  exact w_if2 rfl c1 (by decide) k1 k2

theorem k552_52 {P : s_P} {d : Nat} {Q : s_O → Prop} {h : s_H} {kc ks : Nat} {r0 : Term} {x1 x2 x3 : Int} {t4 t5 t6 t7 : Term} {q2 : Nat} {f3 : List Term} (g4 : s_get h q2 = some (1, 11, f3)) (k : wm P d 407 [.index q2, vi x1] h (wq P d sw_c552 sw_h552 61 [.index q2, vi x1, vi x2, vi x3, t4, t5, t6, t7] [vi (x1 + 1), .index q2] kc ks Q)) (e_q2 : r0 = .index q2 := by first | rfl | assumption) (y1 : s_ty r0 = 3 := by first | rfl | assumption)  : wr P d sw_c552 sw_h552 (52, [r0, vi x1, vi x2, vi x3, t4, t5, t6, t7], [], h, kc, ks) Q := by
  refine w_ld rfl rfl (Or.inr (Or.inr ⟨by decide, y1⟩)) ?_
  refine w_ld rfl rfl (Or.inl ⟨by decide, rfl⟩) ?_
  refine w_c32 rfl (by decide) 1 (by decide) ?_
  refine w_iadd rfl ?_
  refine w_ld rfl rfl (Or.inr (Or.inr ⟨by decide, y1⟩)) ?_
  refine w_ld rfl rfl (Or.inl ⟨by decide, rfl⟩) ?_
  subst e_q2
  exact w_cv rfl [.index q2, vi x1] [vi (x1 + 1), .index q2] rfl rfl (s_wt_4 rfl) rfl g4 k

theorem k552_61 {P : s_P} {d : Nat} {Q : s_O → Prop} {h : s_H} {kc ks : Nat} {r0 : Term} {x1 x2 x3 : Int} {t4 t5 t6 t7 s0 : Term} {s1 s2 : Int} {q1 : Nat} {f2 : List Term} (g3 : s_get h q1 = some (1, 11, f2)) (k : wm P d 550 [.index q1, vi s1, vi s2] h (wq P d sw_c552 sw_h552 64 [r0, vi x1, vi x2, vi x3, t4, t5, t6, t7] [] kc ks Q)) (e_q1 : s0 = .index q1 := by first | rfl | assumption)  : wr P d sw_c552 sw_h552 (61, [r0, vi x1, vi x2, vi x3, t4, t5, t6, t7], [vi s2, vi s1, s0], h, kc, ks) Q := by
  subst e_q1
  exact w_cv rfl [.index q1, vi s1, vi s2] [] rfl rfl (s_wt_4 rfl) rfl g3 k

theorem k552_64 {P : s_P} {d : Nat} {Q : s_O → Prop} {h : s_H} {kc ks : Nat} {r0 : Term} {x1 x2 x3 : Int} {t4 t5 t6 t7 : Term} {q2 : Nat} {f3 : List Term} {v5 : Term} {q7 : Nat} {a8 : List Int} (g4 : s_get h q2 = some (1, 11, f3)) (g9 : s_get h q7 = some (0, 0, a8.map vi)) (k1 : gi a8 x1 ≠ 1 → wr P d sw_c552 sw_h552 (78, [.index q2, vi x1, vi x2, vi x3, t4, t5, t6, t7], [], h, kc, ks) Q) (k2 : ¬ gi a8 x1 ≠ 1 → wr P d sw_c552 sw_h552 (74, [.index q2, vi x1, vi x2, vi x3, t4, t5, t6, t7], [], h, kc, ks) Q) (e_q2 : r0 = .index q2 := by first | rfl | assumption) (e_q7 : v5 = .index q7 := by first | rfl | assumption) (y1 : s_ty r0 = 3 := by first | rfl | assumption) (n6 : s_nth f3 84 = some v5 := by first | rfl | assumption) (c10 : x1 < a8.length := by first | omega | assumption | (simp only [mk_len, List.length_map]; omega) | decide) (c11 : 0 ≤ x1 := by first | omega | assumption | (simp only [mk_len, List.length_map]; omega) | decide) (c12 : In3 x1 := by first | omega | assumption | (simp only [mk_len, List.length_map]; omega) | decide) (c13 : In3 (gi a8 x1) := by first | omega | assumption | (simp only [mk_len, List.length_map]; omega) | decide) : wr P d sw_c552 sw_h552 (64, [r0, vi x1, vi x2, vi x3, t4, t5, t6, t7], [], h, kc, ks) Q := by
  refine w_ld rfl rfl (Or.inr (Or.inr ⟨by decide, y1⟩)) ?_
  subst e_q2
  refine w_getf rfl g4 n6 ?_
  refine w_ld rfl rfl (Or.inl ⟨by decide, rfl⟩) ?_
  subst e_q7
  refine w_iald rfl g9 (Or.inl rfl) c12 c11 c10 ?_
  refine w_c32 rfl (by decide) 1 (by decide) ?_
  exact w_if2 rfl c13 (by decide) k1 k2

theorem k552_74 {P : s_P} {d : Nat} {Q : s_O → Prop} {h : s_H} {kc ks : Nat} {r0 : Term} {x1 x2 x3 : Int} {t4 t5 t6 t7 : Term}  (k : wr P d sw_c552 sw_h552 (79, [r0, vi x1, vi x2, vi x3, t4, t5, t6, t7], [vi 1], h, kc, ks) Q)   : wr P d sw_c552 sw_h552 (74, [r0, vi x1, vi x2, vi x3, t4, t5, t6, t7], [], h, kc, ks) Q := by
  refine w_c32 rfl (by decide) 1 (by decide) ?_
  refine w_goto rfl ?_
  exact k

theorem k552_78 {P : s_P} {d : Nat} {Q : s_O → Prop} {h : s_H} {kc ks : Nat} {r0 : Term} {x1 x2 x3 : Int} {t4 t5 t6 t7 : Term}  (k : wr P d sw_c552 sw_h552 (79, [r0, vi x1, vi x2, vi x3, t4, t5, t6, t7], [vi 0], h, kc, ks) Q)   : wr P d sw_c552 sw_h552 (78, [r0, vi x1, vi x2, vi x3, t4, t5, t6, t7], [], h, kc, ks) Q := by
  refine w_c32 rfl (by decide) 0 (by decide) ?_
  exact k

theorem k552_79 {P : s_P} {d : Nat} {Q : s_O → Prop} {h : s_H} {kc ks : Nat} {r0 : Term} {x1 x2 x3 : Int} {t4 t5 t6 t7 : Term} {s0 : Int}  (k : Q (.inl (some (vi s0)), h, kc, ks))  (c1 : s0 = 0 ∨ s0 = 1 := by first | omega | assumption | (simp only [mk_len, List.length_map]; omega) | decide) : wr P d sw_c552 sw_h552 (79, [r0, vi x1, vi x2, vi x3, t4, t5, t6, t7], [vi s0], h, kc, ks) Q := by
  exact w_zret rfl c1 k

theorem k552_80 {P : s_P} {d : Nat} {Q : s_O → Prop} {h : s_H} {kc ks : Nat} {r0 : Term} {x1 x2 x3 : Int} {t4 t5 t6 t7 : Term}  (k : wm P d 547 [vi x3] h (wq P d sw_c552 sw_h552 84 [r0, vi x1, vi x2, vi x3, t4, t5, t6, t7] [] kc ks Q))   : wr P d sw_c552 sw_h552 (80, [r0, vi x1, vi x2, vi x3, t4, t5, t6, t7], [], h, kc, ks) Q := by
  refine w_ld rfl rfl (Or.inl ⟨by decide, rfl⟩) ?_
  exact w_cs rfl [vi x3] [] rfl rfl (s_wt_4 rfl) k

theorem k552_84 {P : s_P} {d : Nat} {Q : s_O → Prop} {h : s_H} {kc ks : Nat} {r0 : Term} {x1 x2 x3 : Int} {t4 t5 t6 t7 : Term} {s0 : Int}  (k1 : 2 ≤ s0 → wr P d sw_c552 sw_h552 (90, [r0, vi x1, vi x2, vi x3, t4, t5, t6, t7], [], h, kc, ks) Q) (k2 : ¬ 2 ≤ s0 → wr P d sw_c552 sw_h552 (88, [r0, vi x1, vi x2, vi x3, t4, t5, t6, t7], [], h, kc, ks) Q)  (c1 : In3 s0 := by first | omega | assumption | (simp only [mk_len, List.length_map]; omega) | decide) : wr P d sw_c552 sw_h552 (84, [r0, vi x1, vi x2, vi x3, t4, t5, t6, t7], [vi s0], h, kc, ks) Q := by
  refine w_c32 rfl (by decide) 2 (by decide) ?_
  exact w_if2 rfl c1 (by decide) k1 k2

theorem k552_88 {P : s_P} {d : Nat} {Q : s_O → Prop} {h : s_H} {kc ks : Nat} {r0 : Term} {x1 x2 x3 : Int} {t4 t5 t6 t7 : Term}  (k : Q (.inl (some (vi 0)), h, kc, ks))   : wr P d sw_c552 sw_h552 (88, [r0, vi x1, vi x2, vi x3, t4, t5, t6, t7], [], h, kc, ks) Q := by
  refine w_c32 rfl (by decide) 0 (by decide) ?_
  exact w_zret rfl (by decide) k

theorem k552_90 {P : s_P} {d : Nat} {Q : s_O → Prop} {h : s_H} {kc ks : Nat} {r0 : Term} {x1 x2 x3 : Int} {t4 t5 t6 t7 : Term} {q2 : Nat} {f3 : List Term} (g4 : s_get h q2 = some (1, 11, f3)) (k : wm P d 407 [.index q2, vi (x1 + 1)] h (wq P d sw_c552 sw_h552 101 [.index q2, vi x1, vi x2, vi x3, vi (x1 + 1), t5, t6, t7] [] kc ks Q)) (e_q2 : r0 = .index q2 := by first | rfl | assumption) (y1 : s_ty r0 = 3 := by first | rfl | assumption)  : wr P d sw_c552 sw_h552 (90, [r0, vi x1, vi x2, vi x3, t4, t5, t6, t7], [], h, kc, ks) Q := by
  refine w_ld rfl rfl (Or.inl ⟨by decide, rfl⟩) ?_
  refine w_c32 rfl (by decide) 1 (by decide) ?_
  refine w_iadd rfl ?_
  refine w_st (ls' := [r0, vi x1, vi x2, vi x3, vi (x1 + 1), t5, t6, t7]) rfl (Or.inl ⟨by decide, rfl⟩) rfl ?_
  refine w_ld rfl rfl (Or.inr (Or.inr ⟨by decide, y1⟩)) ?_
  refine w_ld rfl rfl (Or.inl ⟨by decide, rfl⟩) ?_
  subst e_q2
  exact w_cv rfl [.index q2, vi (x1 + 1)] [] rfl rfl (s_wt_4 rfl) rfl g4 k

theorem k552_101 {P : s_P} {d : Nat} {Q : s_O → Prop} {h : s_H} {kc ks : Nat} {r0 : Term} {x1 x2 x3 x4 : Int} {t5 t6 t7 : Term} {s0 : Int} {q2 : Nat} {f3 : List Term} (g4 : s_get h q2 = some (1, 11, f3)) (k : wm P d 407 [.index q2, vi s0] h (wq P d sw_c552 sw_h552 109 [.index q2, vi x1, vi x2, vi x3, vi x4, vi s0, t6, t7] [] kc ks Q)) (e_q2 : r0 = .index q2 := by first | rfl | assumption) (y1 : s_ty r0 = 3 := by first | rfl | assumption)  : wr P d sw_c552 sw_h552 (101, [r0, vi x1, vi x2, vi x3, vi x4, t5, t6, t7], [vi s0], h, kc, ks) Q := by
  refine w_st (ls' := [r0, vi x1, vi x2, vi x3, vi x4, vi s0, t6, t7]) rfl (Or.inl ⟨by decide, rfl⟩) rfl ?_
  refine w_ld rfl rfl (Or.inr (Or.inr ⟨by decide, y1⟩)) ?_
  refine w_ld rfl rfl (Or.inl ⟨by decide, rfl⟩) ?_
  subst e_q2
  exact w_cv rfl [.index q2, vi s0] [] rfl rfl (s_wt_4 rfl) rfl g4 k

theorem k552_109 {P : s_P} {d : Nat} {Q : s_O → Prop} {h : s_H} {kc ks : Nat} {r0 : Term} {x1 x2 x3 x4 x5 : Int} {t6 t7 : Term} {s0 : Int}  (k1 : x3 = 2 → wr P d sw_c552 sw_h552 (121, [r0, vi x1, vi x2, vi x3, vi x4, vi x5, vi s0, t7], [], h, kc, ks) Q) (k2 : ¬ x3 = 2 → wr P d sw_c552 sw_h552 (116, [r0, vi x1, vi x2, vi x3, vi x4, vi x5, vi s0, t7], [], h, kc, ks) Q)  (c1 : In3 x3 := by first | omega | assumption | (simp only [mk_len, List.length_map]; omega) | decide) : wr P d sw_c552 sw_h552 (109, [r0, vi x1, vi x2, vi x3, vi x4, vi x5, t6, t7], [vi s0], h, kc, ks) Q := by
  refine w_st (ls' := [r0, vi x1, vi x2, vi x3, vi x4, vi x5, vi s0, t7]) rfl (Or.inl ⟨by decide, rfl⟩) rfl ?_
  refine w_ld rfl rfl (Or.inl ⟨by decide, rfl⟩) ?_
  refine w_c32 rfl (by decide) 2 (by decide) ?_
  exact w_if2 rfl c1 (by decide) k1 k2

theorem k552_116 {P : s_P} {d : Nat} {Q : s_O → Prop} {h : s_H} {kc ks : Nat} {r0 : Term} {x1 x2 x3 x4 x5 x6 : Int} {t7 : Term}  (k1 : x3 ≠ 4 → wr P d sw_c552 sw_h552 (125, [r0, vi x1, vi x2, vi x3, vi x4, vi x5, vi x6, t7], [], h, kc, ks) Q) (k2 : ¬ x3 ≠ 4 → wr P d sw_c552 sw_h552 (121, [r0, vi x1, vi x2, vi x3, vi x4, vi x5, vi x6, t7], [], h, kc, ks) Q)  (c1 : In3 x3 := by first | omega | assumption | (simp only [mk_len, List.length_map]; omega) | decide) : wr P d sw_c552 sw_h552 (116, [r0, vi x1, vi x2, vi x3, vi x4, vi x5, vi x6, t7], [], h, kc, ks) Q := by
  refine w_ld rfl rfl (Or.inl ⟨by decide, rfl⟩) ?_
  refine w_c32 rfl (by decide) 4 (by decide) ?_
  exact w_if2 rfl c1 (by decide) k1 k2

theorem k552_121 {P : s_P} {d : Nat} {Q : s_O → Prop} {h : s_H} {kc ks : Nat} {r0 : Term} {x1 x2 x3 x4 x5 x6 : Int} {t7 : Term}  (k : wr P d sw_c552 sw_h552 (126, [r0, vi x1, vi x2, vi x3, vi x4, vi x5, vi x6, t7], [vi 1], h, kc, ks) Q)   : wr P d sw_c552 sw_h552 (121, [r0, vi x1, vi x2, vi x3, vi x4, vi x5, vi x6, t7], [], h, kc, ks) Q := by
  refine w_c32 rfl (by decide) 1 (by decide) ?_
  refine w_goto rfl ?_
  exact k

theorem k552_125 {P : s_P} {d : Nat} {Q : s_O → Prop} {h : s_H} {kc ks : Nat} {r0 : Term} {x1 x2 x3 x4 x5 x6 : Int} {t7 : Term}  (k : wr P d sw_c552 sw_h552 (126, [r0, vi x1, vi x2, vi x3, vi x4, vi x5, vi x6, t7], [vi 0], h, kc, ks) Q)   : wr P d sw_c552 sw_h552 (125, [r0, vi x1, vi x2, vi x3, vi x4, vi x5, vi x6, t7], [], h, kc, ks) Q := by
  refine w_c32 rfl (by decide) 0 (by decide) ?_
  exact k

-- switch at 126
theorem k552_180 {P : s_P} {d : Nat} {Q : s_O → Prop} {h : s_H} {kc ks : Nat} {r0 : Term} {x1 x2 x3 x4 x5 x6 x7 : Int} {q2 : Nat} {f3 : List Term} (g4 : s_get h q2 = some (1, 11, f3)) (k : wm P d 549 [.index q2, vi x3, vi 0] h (wq P d sw_c552 sw_h552 186 [.index q2, vi x1, vi x2, vi x3, vi x4, vi x5, vi x6, vi x7] [] kc ks Q)) (e_q2 : r0 = .index q2 := by first | rfl | assumption) (y1 : s_ty r0 = 3 := by first | rfl | assumption)  : wr P d sw_c552 sw_h552 (180, [r0, vi x1, vi x2, vi x3, vi x4, vi x5, vi x6, vi x7], [], h, kc, ks) Q := by
  refine w_ld rfl rfl (Or.inr (Or.inr ⟨by decide, y1⟩)) ?_
  refine w_ld rfl rfl (Or.inl ⟨by decide, rfl⟩) ?_
  refine w_c32 rfl (by decide) 0 (by decide) ?_
  subst e_q2
  exact w_cv rfl [.index q2, vi x3, vi 0] [] rfl rfl (s_wt_4 rfl) rfl g4 k

theorem k552_186 {P : s_P} {d : Nat} {Q : s_O → Prop} {h : s_H} {kc ks : Nat} {r0 : Term} {x1 x2 x3 x4 x5 x6 x7 : Int} {q2 : Nat} {f3 : List Term} (g4 : s_get h q2 = some (1, 11, f3)) (k : wm P d 550 [.index q2, vi x5, vi x6] h (wq P d sw_c552 sw_h552 194 [.index q2, vi x1, vi x2, vi x3, vi x4, vi x5, vi x6, vi x7] [] kc ks Q)) (e_q2 : r0 = .index q2 := by first | rfl | assumption) (y1 : s_ty r0 = 3 := by first | rfl | assumption)  : wr P d sw_c552 sw_h552 (186, [r0, vi x1, vi x2, vi x3, vi x4, vi x5, vi x6, vi x7], [], h, kc, ks) Q := by
  refine w_ld rfl rfl (Or.inr (Or.inr ⟨by decide, y1⟩)) ?_
  refine w_ld rfl rfl (Or.inl ⟨by decide, rfl⟩) ?_
  refine w_ld rfl rfl (Or.inl ⟨by decide, rfl⟩) ?_
  subst e_q2
  exact w_cv rfl [.index q2, vi x5, vi x6] [] rfl rfl (s_wt_4 rfl) rfl g4 k

theorem k552_194 {P : s_P} {d : Nat} {Q : s_O → Prop} {h : s_H} {kc ks : Nat} {r0 : Term} {x1 x2 x3 x4 x5 x6 x7 : Int} {q2 : Nat} {f3 : List Term} (g4 : s_get h q2 = some (1, 11, f3)) (k : wm P d 550 [.index q2, vi x4, vi x5] h (wq P d sw_c552 sw_h552 202 [.index q2, vi x1, vi x2, vi x3, vi x4, vi x5, vi x6, vi x7] [] kc ks Q)) (e_q2 : r0 = .index q2 := by first | rfl | assumption) (y1 : s_ty r0 = 3 := by first | rfl | assumption)  : wr P d sw_c552 sw_h552 (194, [r0, vi x1, vi x2, vi x3, vi x4, vi x5, vi x6, vi x7], [], h, kc, ks) Q := by
  refine w_ld rfl rfl (Or.inr (Or.inr ⟨by decide, y1⟩)) ?_
  refine w_ld rfl rfl (Or.inl ⟨by decide, rfl⟩) ?_
  refine w_ld rfl rfl (Or.inl ⟨by decide, rfl⟩) ?_
  subst e_q2
  exact w_cv rfl [.index q2, vi x4, vi x5] [] rfl rfl (s_wt_4 rfl) rfl g4 k

theorem k552_202 {P : s_P} {d : Nat} {Q : s_O → Prop} {h : s_H} {kc ks : Nat} {r0 : Term} {x1 x2 x3 x4 x5 x6 x7 : Int}  (k : Q (.inl (some (vi x7)), h, kc, ks))  (c1 : x7 = 0 ∨ x7 = 1 := by first | omega | assumption | (simp only [mk_len, List.length_map]; omega) | decide) : wr P d sw_c552 sw_h552 (202, [r0, vi x1, vi x2, vi x3, vi x4, vi x5, vi x6, vi x7], [], h, kc, ks) Q := by
  refine w_ld rfl rfl (Or.inl ⟨by decide, rfl⟩) ?_
  exact w_zret rfl c1 k

theorem k552_205 {P : s_P} {d : Nat} {Q : s_O → Prop} {h : s_H} {kc ks : Nat} {r0 : Term} {x1 x2 x3 x4 x5 x6 x7 : Int}  (k1 : x7 = 0 → wr P d sw_c552 sw_h552 (221, [r0, vi x1, vi x2, vi x3, vi x4, vi x5, vi x6, vi x7], [], h, kc, ks) Q) (k2 : ¬ x7 = 0 → wr P d sw_c552 sw_h552 (210, [r0, vi x1, vi x2, vi x3, vi x4, vi x5, vi x6, vi x7], [], h, kc, ks) Q)  (c1 : In3 x7 := by first | omega | assumption | (simp only [mk_len, List.length_map]; omega) | decide) : wr P d sw_c552 sw_h552 (205, [r0, vi x1, vi x2, vi x3, vi x4, vi x5, vi x6, vi x7], [], h, kc, ks) Q := by
  refine w_ld rfl rfl (Or.inl ⟨by decide, rfl⟩) ?_
  exact w_if1 rfl c1 k1 k2

theorem k552_210 {P : s_P} {d : Nat} {Q : s_O → Prop} {h : s_H} {kc ks : Nat} {r0 : Term} {x1 x2 x3 x4 x5 x6 x7 : Int} {q2 : Nat} {f3 : List Term} {v5 : Term} {q7 : Nat} {a8 : List Int} (g4 : s_get h q2 = some (1, 11, f3)) (g9 : s_get h q7 = some (0, 0, a8.map vi)) (k1 : gi a8 x4 = x3 → wr P d sw_c552 sw_h552 (223, [.index q2, vi x1, vi x2, vi x3, vi x4, vi x5, vi x6, vi x7], [], h, kc, ks) Q) (k2 : ¬ gi a8 x4 = x3 → wr P d sw_c552 sw_h552 (221, [.index q2, vi x1, vi x2, vi x3, vi x4, vi x5, vi x6, vi x7], [], h, kc, ks) Q) (e_q2 : r0 = .index q2 := by first | rfl | assumption) (e_q7 : v5 = .index q7 := by first | rfl | assumption) (y1 : s_ty r0 = 3 := by first | rfl | assumption) (n6 : s_nth f3 83 = some v5 := by first | rfl | assumption) (c10 : x4 < a8.length := by first | omega | assumption | (simp only [mk_len, List.length_map]; omega) | decide) (c11 : 0 ≤ x4 := by first | omega | assumption | (simp only [mk_len, List.length_map]; omega) | decide) (c12 : In3 x4 := by first | omega | assumption | (simp only [mk_len, List.length_map]; omega) | decide) (c13 : In3 (gi a8 x4) := by first | omega | assumption | (simp only [mk_len, List.length_map]; omega) | decide) (c14 : In3 x3 := by first | omega | assumption | (simp only [mk_len, List.length_map]; omega) | decide) : wr P d sw_c552 sw_h552 (210, [r0, vi x1, vi x2, vi x3, vi x4, vi x5, vi x6, vi x7], [], h, kc, ks) Q := by
  refine w_ld rfl rfl (Or.inr (Or.inr ⟨by decide, y1⟩)) ?_
  subst e_q2
  refine w_getf rfl g4 n6 ?_
  refine w_ld rfl rfl (Or.inl ⟨by decide, rfl⟩) ?_
  subst e_q7
  refine w_iald rfl g9 (Or.inl rfl) c12 c11 c10 ?_
  refine w_ld rfl rfl (Or.inl ⟨by decide, rfl⟩) ?_
  exact w_if2 rfl c13 c14 k1 k2

theorem k552_221 {P : s_P} {d : Nat} {Q : s_O → Prop} {h : s_H} {kc ks : Nat} {r0 : Term} {x1 x2 x3 x4 x5 x6 x7 : Int}  (k : Q (.inl (some (vi 0)), h, kc, ks))   : wr P d sw_c552 sw_h552 (221, [r0, vi x1, vi x2, vi x3, vi x4, vi x5, vi x6, vi x7], [], h, kc, ks) Q := by
  refine w_c32 rfl (by decide) 0 (by decide) ?_
  exact w_zret rfl (by decide) k

theorem k552_223 {P : s_P} {d : Nat} {Q : s_O → Prop} {h : s_H} {kc ks : Nat} {r0 : Term} {x1 x2 x3 x4 x5 x6 x7 : Int} {q2 : Nat} {f3 : List Term} (g4 : s_get h q2 = some (1, 11, f3)) (k : wm P d 549 [.index q2, vi x3, vi 0] h (wq P d sw_c552 sw_h552 229 [.index q2, vi x1, vi x2, vi x3, vi x4, vi x5, vi x6, vi x7] [] kc ks Q)) (e_q2 : r0 = .index q2 := by first | rfl | assumption) (y1 : s_ty r0 = 3 := by first | rfl | assumption)  : wr P d sw_c552 sw_h552 (223, [r0, vi x1, vi x2, vi x3, vi x4, vi x5, vi x6, vi x7], [], h, kc, ks) Q := by
  refine w_ld rfl rfl (Or.inr (Or.inr ⟨by decide, y1⟩)) ?_
  refine w_ld rfl rfl (Or.inl ⟨by decide, rfl⟩) ?_
  refine w_c32 rfl (by decide) 0 (by decide) ?_
  subst e_q2
  exact w_cv rfl [.index q2, vi x3, vi 0] [] rfl rfl (s_wt_4 rfl) rfl g4 k

theorem k552_229 {P : s_P} {d : Nat} {Q : s_O → Prop} {h : s_H} {kc ks : Nat} {r0 : Term} {x1 x2 x3 x4 x5 x6 x7 : Int} {q2 : Nat} {f3 : List Term} (g4 : s_get h q2 = some (1, 11, f3)) (k : wm P d 407 [.index q2, vi (x4 + 1)] h (wq P d sw_c552 sw_h552 242 [.index q2, vi x1, vi x2, vi x3, vi x4, vi x5, vi x6, vi x7] [vi (x4 + 1), .index q2] kc ks Q)) (e_q2 : r0 = .index q2 := by first | rfl | assumption) (y1 : s_ty r0 = 3 := by first | rfl | assumption)  : wr P d sw_c552 sw_h552 (229, [r0, vi x1, vi x2, vi x3, vi x4, vi x5, vi x6, vi x7], [], h, kc, ks) Q := by
  refine w_ld rfl rfl (Or.inr (Or.inr ⟨by decide, y1⟩)) ?_
  refine w_ld rfl rfl (Or.inl ⟨by decide, rfl⟩) ?_
  refine w_c32 rfl (by decide) 1 (by decide) ?_
  refine w_iadd rfl ?_
  refine w_ld rfl rfl (Or.inr (Or.inr ⟨by decide, y1⟩)) ?_
  refine w_ld rfl rfl (Or.inl ⟨by decide, rfl⟩) ?_
  refine w_c32 rfl (by decide) 1 (by decide) ?_
  refine w_iadd rfl ?_
  subst e_q2
  exact w_cv rfl [.index q2, vi (x4 + 1)] [vi (x4 + 1), .index q2] rfl rfl (s_wt_4 rfl) rfl g4 k

theorem k552_242 {P : s_P} {d : Nat} {Q : s_O → Prop} {h : s_H} {kc ks : Nat} {r0 : Term} {x1 x2 x3 x4 x5 x6 x7 : Int} {s0 : Term} {s1 s2 : Int} {q1 : Nat} {f2 : List Term} (g3 : s_get h q1 = some (1, 11, f2)) (k : wm P d 550 [.index q1, vi s1, vi s2] h (wq P d sw_c552 sw_h552 245 [r0, vi x1, vi x2, vi x3, vi x4, vi x5, vi x6, vi x7] [] kc ks Q)) (e_q1 : s0 = .index q1 := by first | rfl | assumption)  : wr P d sw_c552 sw_h552 (242, [r0, vi x1, vi x2, vi x3, vi x4, vi x5, vi x6, vi x7], [vi s2, vi s1, s0], h, kc, ks) Q := by
  subst e_q1
  exact w_cv rfl [.index q1, vi s1, vi s2] [] rfl rfl (s_wt_4 rfl) rfl g3 k

theorem k552_245 {P : s_P} {d : Nat} {Q : s_O → Prop} {h : s_H} {kc ks : Nat} {r0 : Term} {x1 x2 x3 x4 x5 x6 x7 : Int} {q2 : Nat} {f3 : List Term} (g4 : s_get h q2 = some (1, 11, f3)) (k : wm P d 549 [.index q2, vi x3, vi 0] h (wq P d sw_c552 sw_h552 251 [.index q2, vi x1, vi x2, vi x3, vi x4, vi x5, vi x6, vi x7] [] kc ks Q)) (e_q2 : r0 = .index q2 := by first | rfl | assumption) (y1 : s_ty r0 = 3 := by first | rfl | assumption)  : wr P d sw_c552 sw_h552 (245, [r0, vi x1, vi x2, vi x3, vi x4, vi x5, vi x6, vi x7], [], h, kc, ks) Q := by
  refine w_ld rfl rfl (Or.inr (Or.inr ⟨by decide, y1⟩)) ?_
  refine w_ld rfl rfl (Or.inl ⟨by decide, rfl⟩) ?_
  refine w_c32 rfl (by decide) 0 (by decide) ?_
  subst e_q2
  exact w_cv rfl [.index q2, vi x3, vi 0] [] rfl rfl (s_wt_4 rfl) rfl g4 k

theorem k552_251 {P : s_P} {d : Nat} {Q : s_O → Prop} {h : s_H} {kc ks : Nat} {r0 : Term} {x1 x2 x3 x4 x5 x6 x7 : Int} {q2 : Nat} {f3 : List Term} (g4 : s_get h q2 = some (1, 11, f3)) (k : wm P d 407 [.index q2, vi (x4 + 1)] h (wq P d sw_c552 sw_h552 260 [.index q2, vi x1, vi x2, vi x3, vi x4, vi x5, vi x6, vi x7] [.index q2] kc ks Q)) (e_q2 : r0 = .index q2 := by first | rfl | assumption) (y1 : s_ty r0 = 3 := by first | rfl | assumption)  : wr P d sw_c552 sw_h552 (251, [r0, vi x1, vi x2, vi x3, vi x4, vi x5, vi x6, vi x7], [], h, kc, ks) Q := by
  refine w_ld rfl rfl (Or.inr (Or.inr ⟨by decide, y1⟩)) ?_
  refine w_ld rfl rfl (Or.inr (Or.inr ⟨by decide, y1⟩)) ?_
  refine w_ld rfl rfl (Or.inl ⟨by decide, rfl⟩) ?_
  refine w_c32 rfl (by decide) 1 (by decide) ?_
  refine w_iadd rfl ?_
  subst e_q2
  exact w_cv rfl [.index q2, vi (x4 + 1)] [.index q2] rfl rfl (s_wt_4 rfl) rfl g4 k

theorem k552_260 {P : s_P} {d : Nat} {Q : s_O → Prop} {h : s_H} {kc ks : Nat} {r0 : Term} {x1 x2 x3 x4 x5 x6 x7 : Int} {s0 : Term} {s1 : Int} {q1 : Nat} {f2 : List Term} (g3 : s_get h q1 = some (1, 11, f2)) (k : wm P d 550 [.index q1, vi s1, vi x6] h (wq P d sw_c552 sw_h552 265 [r0, vi x1, vi x2, vi x3, vi x4, vi x5, vi x6, vi x7] [] kc ks Q)) (e_q1 : s0 = .index q1 := by first | rfl | assumption)  : wr P d sw_c552 sw_h552 (260, [r0, vi x1, vi x2, vi x3, vi x4, vi x5, vi x6, vi x7], [vi s1, s0], h, kc, ks) Q := by
  refine w_ld rfl rfl (Or.inl ⟨by decide, rfl⟩) ?_
  subst e_q1
  exact w_cv rfl [.index q1, vi s1, vi x6] [] rfl rfl (s_wt_4 rfl) rfl g3 k

theorem k552_265 {P : s_P} {d : Nat} {Q : s_O → Prop} {h : s_H} {kc ks : Nat} {r0 : Term} {x1 x2 x3 x4 x5 x6 x7 : Int}  (k : Q (.inl (some (vi 1)), h, kc, ks))   : wr P d sw_c552 sw_h552 (265, [r0, vi x1, vi x2, vi x3, vi x4, vi x5, vi x6, vi x7], [], h, kc, ks) Q := by
  refine w_c32 rfl (by decide) 1 (by decide) ?_
  exact w_zret rfl (by decide) k

theorem k552_267 {P : s_P} {d : Nat} {Q : s_O → Prop} {h : s_H} {kc ks : Nat} {r0 : Term} {x1 x2 x3 x4 x5 x6 x7 : Int}  (k1 : x7 = 0 → wr P d sw_c552 sw_h552 (283, [r0, vi x1, vi x2, vi x3, vi x4, vi x5, vi x6, vi x7], [], h, kc, ks) Q) (k2 : ¬ x7 = 0 → wr P d sw_c552 sw_h552 (272, [r0, vi x1, vi x2, vi x3, vi x4, vi x5, vi x6, vi x7], [], h, kc, ks) Q)  (c1 : In3 x7 := by first | omega | assumption | (simp only [mk_len, List.length_map]; omega) | decide) : wr P d sw_c552 sw_h552 (267, [r0, vi x1, vi x2, vi x3, vi x4, vi x5, vi x6, vi x7], [], h, kc, ks) Q := by
  refine w_ld rfl rfl (Or.inl ⟨by decide, rfl⟩) ?_
  exact w_if1 rfl c1 k1 k2

theorem k552_272 {P : s_P} {d : Nat} {Q : s_O → Prop} {h : s_H} {kc ks : Nat} {r0 : Term} {x1 x2 x3 x4 x5 x6 x7 : Int} {q2 : Nat} {f3 : List Term} {v5 : Term} {q7 : Nat} {a8 : List Int} (g4 : s_get h q2 = some (1, 11, f3)) (g9 : s_get h q7 = some (0, 0, a8.map vi)) (k1 : gi a8 x5 = x3 → wr P d sw_c552 sw_h552 (285, [.index q2, vi x1, vi x2, vi x3, vi x4, vi x5, vi x6, vi x7], [], h, kc, ks) Q) (k2 : ¬ gi a8 x5 = x3 → wr P d sw_c552 sw_h552 (283, [.index q2, vi x1, vi x2, vi x3, vi x4, vi x5, vi x6, vi x7], [], h, kc, ks) Q) (e_q2 : r0 = .index q2 := by first | rfl | assumption) (e_q7 : v5 = .index q7 := by first | rfl | assumption) (y1 : s_ty r0 = 3 := by first | rfl | assumption) (n6 : s_nth f3 83 = some v5 := by first | rfl | assumption) (c10 : x5 < a8.length := by first | omega | assumption | (simp only [mk_len, List.length_map]; omega) | decide) (c11 : 0 ≤ x5 := by first | omega | assumption | (simp only [mk_len, List.length_map]; omega) | decide) (c12 : In3 x5 := by first | omega | assumption | (simp only [mk_len, List.length_map]; omega) | decide) (c13 : In3 (gi a8 x5) := by first | omega | assumption | (simp only [mk_len, List.length_map]; omega) | decide) (c14 : In3 x3 := by first | omega | assumption | (simp only [mk_len, List.length_map]; omega) | decide) : wr P d sw_c552 sw_h552 (272, [r0, vi x1, vi x2, vi x3, vi x4, vi x5, vi x6, vi x7], [], h, kc, ks) Q := by
  refine w_ld rfl rfl (Or.inr (Or.inr ⟨by decide, y1⟩)) ?_
  subst e_q2
  refine w_getf rfl g4 n6 ?_
  refine w_ld rfl rfl (Or.inl ⟨by decide, rfl⟩) ?_
  subst e_q7
  refine w_iald rfl g9 (Or.inl rfl) c12 c11 c10 ?_
  refine w_ld rfl rfl (Or.inl ⟨by decide, rfl⟩) ?_
  exact w_if2 rfl c13 c14 k1 k2

theorem k552_283 {P : s_P} {d : Nat} {Q : s_O → Prop} {h : s_H} {kc ks : Nat} {r0 : Term} {x1 x2 x3 x4 x5 x6 x7 : Int}  (k : Q (.inl (some (vi 0)), h, kc, ks))   : wr P d sw_c552 sw_h552 (283, [r0, vi x1, vi x2, vi x3, vi x4, vi x5, vi x6, vi x7], [], h, kc, ks) Q := by
  refine w_c32 rfl (by decide) 0 (by decide) ?_
  exact w_zret rfl (by decide) k

theorem k552_285 {P : s_P} {d : Nat} {Q : s_O → Prop} {h : s_H} {kc ks : Nat} {r0 : Term} {x1 x2 x3 x4 x5 x6 x7 : Int} {q2 : Nat} {f3 : List Term} (g4 : s_get h q2 = some (1, 11, f3)) (k : wm P d 549 [.index q2, vi x3, vi 0] h (wq P d sw_c552 sw_h552 291 [.index q2, vi x1, vi x2, vi x3, vi x4, vi x5, vi x6, vi x7] [] kc ks Q)) (e_q2 : r0 = .index q2 := by first | rfl | assumption) (y1 : s_ty r0 = 3 := by first | rfl | assumption)  : wr P d sw_c552 sw_h552 (285, [r0, vi x1, vi x2, vi x3, vi x4, vi x5, vi x6, vi x7], [], h, kc, ks) Q := by
  refine w_ld rfl rfl (Or.inr (Or.inr ⟨by decide, y1⟩)) ?_
  refine w_ld rfl rfl (Or.inl ⟨by decide, rfl⟩) ?_
  refine w_c32 rfl (by decide) 0 (by decide) ?_
  subst e_q2
  exact w_cv rfl [.index q2, vi x3, vi 0] [] rfl rfl (s_wt_4 rfl) rfl g4 k

theorem k552_291 {P : s_P} {d : Nat} {Q : s_O → Prop} {h : s_H} {kc ks : Nat} {r0 : Term} {x1 x2 x3 x4 x5 x6 x7 : Int} {q2 : Nat} {f3 : List Term} (g4 : s_get h q2 = some (1, 11, f3)) (k : wm P d 549 [.index q2, vi x3, vi 0] h (wq P d sw_c552 sw_h552 297 [.index q2, vi x1, vi x2, vi x3, vi x4, vi x5, vi x6, vi x7] [] kc ks Q)) (e_q2 : r0 = .index q2 := by first | rfl | assumption) (y1 : s_ty r0 = 3 := by first | rfl | assumption)  : wr P d sw_c552 sw_h552 (291, [r0, vi x1, vi x2, vi x3, vi x4, vi x5, vi x6, vi x7], [], h, kc, ks) Q := by
  refine w_ld rfl rfl (Or.inr (Or.inr ⟨by decide, y1⟩)) ?_
  refine w_ld rfl rfl (Or.inl ⟨by decide, rfl⟩) ?_
  refine w_c32 rfl (by decide) 0 (by decide) ?_
  subst e_q2
  exact w_cv rfl [.index q2, vi x3, vi 0] [] rfl rfl (s_wt_4 rfl) rfl g4 k

theorem k552_297 {P : s_P} {d : Nat} {Q : s_O → Prop} {h : s_H} {kc ks : Nat} {r0 : Term} {x1 x2 x3 x4 x5 x6 x7 : Int} {q2 : Nat} {f3 : List Term} (g4 : s_get h q2 = some (1, 11, f3)) (k : wm P d 550 [.index q2, vi x4, vi x5] h (wq P d sw_c552 sw_h552 305 [.index q2, vi x1, vi x2, vi x3, vi x4, vi x5, vi x6, vi x7] [] kc ks Q)) (e_q2 : r0 = .index q2 := by first | rfl | assumption) (y1 : s_ty r0 = 3 := by first | rfl | assumption)  : wr P d sw_c552 sw_h552 (297, [r0, vi x1, vi x2, vi x3, vi x4, vi x5, vi x6, vi x7], [], h, kc, ks) Q := by
  refine w_ld rfl rfl (Or.inr (Or.inr ⟨by decide, y1⟩)) ?_
  refine w_ld rfl rfl (Or.inl ⟨by decide, rfl⟩) ?_
  refine w_ld rfl rfl (Or.inl ⟨by decide, rfl⟩) ?_
  subst e_q2
  exact w_cv rfl [.index q2, vi x4, vi x5] [] rfl rfl (s_wt_4 rfl) rfl g4 k

theorem k552_305 {P : s_P} {d : Nat} {Q : s_O → Prop} {h : s_H} {kc ks : Nat} {r0 : Term} {x1 x2 x3 x4 x5 x6 x7 : Int} {q2 : Nat} {f3 : List Term} (g4 : s_get h q2 = some (1, 11, f3)) (k : wm P d 550 [.index q2, vi (x5 + 1), vi x6] h (wq P d sw_c552 sw_h552 315 [.index q2, vi x1, vi x2, vi x3, vi x4, vi x5, vi x6, vi x7] [] kc ks Q)) (e_q2 : r0 = .index q2 := by first | rfl | assumption) (y1 : s_ty r0 = 3 := by first | rfl | assumption)  : wr P d sw_c552 sw_h552 (305, [r0, vi x1, vi x2, vi x3, vi x4, vi x5, vi x6, vi x7], [], h, kc, ks) Q := by
  refine w_ld rfl rfl (Or.inr (Or.inr ⟨by decide, y1⟩)) ?_
  refine w_ld rfl rfl (Or.inl ⟨by decide, rfl⟩) ?_
  refine w_c32 rfl (by decide) 1 (by decide) ?_
  refine w_iadd rfl ?_
  refine w_ld rfl rfl (Or.inl ⟨by decide, rfl⟩) ?_
  subst e_q2
  exact w_cv rfl [.index q2, vi (x5 + 1), vi x6] [] rfl rfl (s_wt_4 rfl) rfl g4 k

theorem k552_315 {P : s_P} {d : Nat} {Q : s_O → Prop} {h : s_H} {kc ks : Nat} {r0 : Term} {x1 x2 x3 x4 x5 x6 x7 : Int}  (k : Q (.inl (some (vi 1)), h, kc, ks))   : wr P d sw_c552 sw_h552 (315, [r0, vi x1, vi x2, vi x3, vi x4, vi x5, vi x6, vi x7], [], h, kc, ks) Q := by
  refine w_c32 rfl (by decide) 1 (by decide) ?_
  exact w_zret rfl (by decide) k

theorem k552_317 {P : s_P} {d : Nat} {Q : s_O → Prop} {h : s_H} {kc ks : Nat} {r0 : Term} {x1 x2 x3 x4 x5 x6 x7 : Int} {q2 : Nat} {f3 : List Term} (g4 : s_get h q2 = some (1, 11, f3)) (k : wm P d 549 [.index q2, vi 2, vi 0] h (wq P d sw_c552 sw_h552 323 [.index q2, vi x1, vi x2, vi x3, vi x4, vi x5, vi x6, vi x7] [] kc ks Q)) (e_q2 : r0 = .index q2 := by first | rfl | assumption) (y1 : s_ty r0 = 3 := by first | rfl | assumption)  : wr P d sw_c552 sw_h552 (317, [r0, vi x1, vi x2, vi x3, vi x4, vi x5, vi x6, vi x7], [], h, kc, ks) Q := by
  refine w_ld rfl rfl (Or.inr (Or.inr ⟨by decide, y1⟩)) ?_
  refine w_c32 rfl (by decide) 2 (by decide) ?_
  refine w_c32 rfl (by decide) 0 (by decide) ?_
  subst e_q2
  exact w_cv rfl [.index q2, vi 2, vi 0] [] rfl rfl (s_wt_4 rfl) rfl g4 k

theorem k552_323 {P : s_P} {d : Nat} {Q : s_O → Prop} {h : s_H} {kc ks : Nat} {r0 : Term} {x1 x2 x3 x4 x5 x6 x7 : Int} {q2 : Nat} {f3 : List Term} (g4 : s_get h q2 = some (1, 11, f3)) (k : wm P d 550 [.index q2, vi x4, vi x5] h (wq P d sw_c552 sw_h552 331 [.index q2, vi x1, vi x2, vi x3, vi x4, vi x5, vi x6, vi x7] [] kc ks Q)) (e_q2 : r0 = .index q2 := by first | rfl | assumption) (y1 : s_ty r0 = 3 := by first | rfl | assumption)  : wr P d sw_c552 sw_h552 (323, [r0, vi x1, vi x2, vi x3, vi x4, vi x5, vi x6, vi x7], [], h, kc, ks) Q := by
  refine w_ld rfl rfl (Or.inr (Or.inr ⟨by decide, y1⟩)) ?_
  refine w_ld rfl rfl (Or.inl ⟨by decide, rfl⟩) ?_
  refine w_ld rfl rfl (Or.inl ⟨by decide, rfl⟩) ?_
  subst e_q2
  exact w_cv rfl [.index q2, vi x4, vi x5] [] rfl rfl (s_wt_4 rfl) rfl g4 k

theorem k552_331 {P : s_P} {d : Nat} {Q : s_O → Prop} {h : s_H} {kc ks : Nat} {r0 : Term} {x1 x2 x3 x4 x5 x6 x7 : Int} {q2 : Nat} {f3 : List Term} (g4 : s_get h q2 = some (1, 11, f3)) (k : wm P d 549 [.index q2, vi 6, vi 0] h (wq P d sw_c552 sw_h552 338 [.index q2, vi x1, vi x2, vi x3, vi x4, vi x5, vi x6, vi x7] [] kc ks Q)) (e_q2 : r0 = .index q2 := by first | rfl | assumption) (y1 : s_ty r0 = 3 := by first | rfl | assumption)  : wr P d sw_c552 sw_h552 (331, [r0, vi x1, vi x2, vi x3, vi x4, vi x5, vi x6, vi x7], [], h, kc, ks) Q := by
  refine w_ld rfl rfl (Or.inr (Or.inr ⟨by decide, y1⟩)) ?_
  refine w_c32 rfl (by decide) 6 (by decide) ?_
  refine w_c32 rfl (by decide) 0 (by decide) ?_
  subst e_q2
  exact w_cv rfl [.index q2, vi 6, vi 0] [] rfl rfl (s_wt_4 rfl) rfl g4 k

theorem k552_338 {P : s_P} {d : Nat} {Q : s_O → Prop} {h : s_H} {kc ks : Nat} {r0 : Term} {x1 x2 x3 x4 x5 x6 x7 : Int} {q2 : Nat} {f3 : List Term} (g4 : s_get h q2 = some (1, 11, f3)) (k : wm P d 550 [.index q2, vi x5, vi x6] h (wq P d sw_c552 sw_h552 346 [.index q2, vi x1, vi x2, vi x3, vi x4, vi x5, vi x6, vi x7] [] kc ks Q)) (e_q2 : r0 = .index q2 := by first | rfl | assumption) (y1 : s_ty r0 = 3 := by first | rfl | assumption)  : wr P d sw_c552 sw_h552 (338, [r0, vi x1, vi x2, vi x3, vi x4, vi x5, vi x6, vi x7], [], h, kc, ks) Q := by
  refine w_ld rfl rfl (Or.inr (Or.inr ⟨by decide, y1⟩)) ?_
  refine w_ld rfl rfl (Or.inl ⟨by decide, rfl⟩) ?_
  refine w_ld rfl rfl (Or.inl ⟨by decide, rfl⟩) ?_
  subst e_q2
  exact w_cv rfl [.index q2, vi x5, vi x6] [] rfl rfl (s_wt_4 rfl) rfl g4 k

theorem k552_346 {P : s_P} {d : Nat} {Q : s_O → Prop} {h : s_H} {kc ks : Nat} {r0 : Term} {x1 x2 x3 x4 x5 x6 x7 : Int}  (k1 : x3 ≠ 3 → wr P d sw_c552 sw_h552 (355, [r0, vi x1, vi x2, vi x3, vi x4, vi x5, vi x6, vi x7], [], h, kc, ks) Q) (k2 : ¬ x3 ≠ 3 → wr P d sw_c552 sw_h552 (351, [r0, vi x1, vi x2, vi x3, vi x4, vi x5, vi x6, vi x7], [], h, kc, ks) Q)  (c1 : In3 x3 := by first | omega | assumption | (simp only [mk_len, List.length_map]; omega) | decide) : wr P d sw_c552 sw_h552 (346, [r0, vi x1, vi x2, vi x3, vi x4, vi x5, vi x6, vi x7], [], h, kc, ks) Q := by
  refine w_ld rfl rfl (Or.inl ⟨by decide, rfl⟩) ?_
  refine w_c32 rfl (by decide) 3 (by decide) ?_
  exact w_if2 rfl c1 (by decide) k1 k2

theorem k552_351 {P : s_P} {d : Nat} {Q : s_O → Prop} {h : s_H} {kc ks : Nat} {r0 : Term} {x1 x2 x3 x4 x5 x6 x7 : Int}  (k : wr P d sw_c552 sw_h552 (356, [r0, vi x1, vi x2, vi x3, vi x4, vi x5, vi x6, vi x7], [vi 1], h, kc, ks) Q)   : wr P d sw_c552 sw_h552 (351, [r0, vi x1, vi x2, vi x3, vi x4, vi x5, vi x6, vi x7], [], h, kc, ks) Q := by
  refine w_c32 rfl (by decide) 1 (by decide) ?_
  refine w_goto rfl ?_
  exact k

theorem k552_355 {P : s_P} {d : Nat} {Q : s_O → Prop} {h : s_H} {kc ks : Nat} {r0 : Term} {x1 x2 x3 x4 x5 x6 x7 : Int}  (k : wr P d sw_c552 sw_h552 (356, [r0, vi x1, vi x2, vi x3, vi x4, vi x5, vi x6, vi x7], [vi 0], h, kc, ks) Q)   : wr P d sw_c552 sw_h552 (355, [r0, vi x1, vi x2, vi x3, vi x4, vi x5, vi x6, vi x7], [], h, kc, ks) Q := by
  refine w_c32 rfl (by decide) 0 (by decide) ?_
  exact k

theorem k552_356 {P : s_P} {d : Nat} {Q : s_O → Prop} {h : s_H} {kc ks : Nat} {r0 : Term} {x1 x2 x3 x4 x5 x6 x7 s0 : Int}  (k : Q (.inl (some (vi s0)), h, kc, ks))  (c1 : s0 = 0 ∨ s0 = 1 := by first | omega | assumption | (simp only [mk_len, List.length_map]; omega) | decide) : wr P d sw_c552 sw_h552 (356, [r0, vi x1, vi x2, vi x3, vi x4, vi x5, vi x6, vi x7], [vi s0], h, kc, ks) Q := by
  exact w_zret rfl c1 k

theorem k552_357 {P : s_P} {d : Nat} {Q : s_O → Prop} {h : s_H} {kc ks : Nat} {r0 : Term} {x1 x2 x3 x4 x5 x6 x7 : Int} {q2 : Nat} {f3 : List Term} (g4 : s_get h q2 = some (1, 11, f3)) (k : wm P d 549 [.index q2, vi 3, vi 0] h (wq P d sw_c552 sw_h552 363 [.index q2, vi x1, vi x2, vi x3, vi x4, vi x5, vi x6, vi x7] [] kc ks Q)) (e_q2 : r0 = .index q2 := by first | rfl | assumption) (y1 : s_ty r0 = 3 := by first | rfl | assumption)  : wr P d sw_c552 sw_h552 (357, [r0, vi x1, vi x2, vi x3, vi x4, vi x5, vi x6, vi x7], [], h, kc, ks) Q := by
  refine w_ld rfl rfl (Or.inr (Or.inr ⟨by decide, y1⟩)) ?_
  refine w_c32 rfl (by decide) 3 (by decide) ?_
  refine w_c32 rfl (by decide) 0 (by decide) ?_
  subst e_q2
  exact w_cv rfl [.index q2, vi 3, vi 0] [] rfl rfl (s_wt_4 rfl) rfl g4 k

theorem k552_363 {P : s_P} {d : Nat} {Q : s_O → Prop} {h : s_H} {kc ks : Nat} {r0 : Term} {x1 x2 x3 x4 x5 x6 x7 : Int} {q2 : Nat} {f3 : List Term} (g4 : s_get h q2 = some (1, 11, f3)) (k : wm P d 550 [.index q2, vi x4, vi x5] h (wq P d sw_c552 sw_h552 371 [.index q2, vi x1, vi x2, vi x3, vi x4, vi x5, vi x6, vi x7] [] kc ks Q)) (e_q2 : r0 = .index q2 := by first | rfl | assumption) (y1 : s_ty r0 = 3 := by first | rfl | assumption)  : wr P d sw_c552 sw_h552 (363, [r0, vi x1, vi x2, vi x3, vi x4, vi x5, vi x6, vi x7], [], h, kc, ks) Q := by
  refine w_ld rfl rfl (Or.inr (Or.inr ⟨by decide, y1⟩)) ?_
  refine w_ld rfl rfl (Or.inl ⟨by decide, rfl⟩) ?_
  refine w_ld rfl rfl (Or.inl ⟨by decide, rfl⟩) ?_
  subst e_q2
  exact w_cv rfl [.index q2, vi x4, vi x5] [] rfl rfl (s_wt_4 rfl) rfl g4 k

theorem k552_371 {P : s_P} {d : Nat} {Q : s_O → Prop} {h : s_H} {kc ks : Nat} {r0 : Term} {x1 x2 x3 x4 x5 x6 x7 : Int} {q2 : Nat} {f3 : List Term} (g4 : s_get h q2 = some (1, 11, f3)) (k : wm P d 550 [.index q2, vi (x5 + 1), vi x6] h (wq P d sw_c552 sw_h552 381 [.index q2, vi x1, vi x2, vi x3, vi x4, vi x5, vi x6, vi x7] [] kc ks Q)) (e_q2 : r0 = .index q2 := by first | rfl | assumption) (y1 : s_ty r0 = 3 := by first | rfl | assumption)  : wr P d sw_c552 sw_h552 (371, [r0, vi x1, vi x2, vi x3, vi x4, vi x5, vi x6, vi x7], [], h, kc, ks) Q := by
  refine w_ld rfl rfl (Or.inr (Or.inr ⟨by decide, y1⟩)) ?_
  refine w_ld rfl rfl (Or.inl ⟨by decide, rfl⟩) ?_
  refine w_c32 rfl (by decide) 1 (by decide) ?_
  refine w_iadd rfl ?_
  refine w_ld rfl rfl (Or.inl ⟨by decide, rfl⟩) ?_
  subst e_q2
  exact w_cv rfl [.index q2, vi (x5 + 1), vi x6] [] rfl rfl (s_wt_4 rfl) rfl g4 k

theorem k552_381 {P : s_P} {d : Nat} {Q : s_O → Prop} {h : s_H} {kc ks : Nat} {r0 : Term} {x1 x2 x3 x4 x5 x6 x7 : Int}  (k1 : x3 ≠ 2 → wr P d sw_c552 sw_h552 (402, [r0, vi x1, vi x2, vi x3, vi x4, vi x5, vi x6, vi x7], [], h, kc, ks) Q) (k2 : ¬ x3 ≠ 2 → wr P d sw_c552 sw_h552 (386, [r0, vi x1, vi x2, vi x3, vi x4, vi x5, vi x6, vi x7], [], h, kc, ks) Q)  (c1 : In3 x3 := by first | omega | assumption | (simp only [mk_len, List.length_map]; omega) | decide) : wr P d sw_c552 sw_h552 (381, [r0, vi x1, vi x2, vi x3, vi x4, vi x5, vi x6, vi x7], [], h, kc, ks) Q := by
  refine w_ld rfl rfl (Or.inl ⟨by decide, rfl⟩) ?_
  refine w_c32 rfl (by decide) 2 (by decide) ?_
  exact w_if2 rfl c1 (by decide) k1 k2

theorem k552_386 {P : s_P} {d : Nat} {Q : s_O → Prop} {h : s_H} {kc ks : Nat} {r0 : Term} {x1 x2 x3 x4 x5 x6 x7 : Int} {q2 : Nat} {f3 : List Term} {v5 : Term} {q7 : Nat} {a8 : List Int} (g4 : s_get h q2 = some (1, 11, f3)) (g9 : s_get h q7 = some (0, 0, a8.map vi)) (k1 : gi a8 x5 ≠ 6 → wr P d sw_c552 sw_h552 (402, [.index q2, vi x1, vi x2, vi x3, vi x4, vi x5, vi x6, vi x7], [], h, kc, ks) Q) (k2 : ¬ gi a8 x5 ≠ 6 → wr P d sw_c552 sw_h552 (398, [.index q2, vi x1, vi x2, vi x3, vi x4, vi x5, vi x6, vi x7], [], h, kc, ks) Q) (e_q2 : r0 = .index q2 := by first | rfl | assumption) (e_q7 : v5 = .index q7 := by first | rfl | assumption) (y1 : s_ty r0 = 3 := by first | rfl | assumption) (n6 : s_nth f3 83 = some v5 := by first | rfl | assumption) (c10 : x5 < a8.length := by first | omega | assumption | (simp only [mk_len, List.length_map]; omega) | decide) (c11 : 0 ≤ x5 := by first | omega | assumption | (simp only [mk_len, List.length_map]; omega) | decide) (c12 : In3 x5 := by first | omega | assumption | (simp only [mk_len, List.length_map]; omega) | decide) (c13 : In3 (gi a8 x5) := by first | omega | assumption | (simp only [mk_len, List.length_map]; omega) | decide) : wr P d sw_c552 sw_h552 (386, [r0, vi x1, vi x2, vi x3, vi x4, vi x5, vi x6, vi x7], [], h, kc, ks) Q := by
  refine w_ld rfl rfl (Or.inr (Or.inr ⟨by decide, y1⟩)) ?_
  subst e_q2
  refine w_getf rfl g4 n6 ?_
  refine w_ld rfl rfl (Or.inl ⟨by decide, rfl⟩) ?_
  subst e_q7
  refine w_iald rfl g9 (Or.inl rfl) c12 c11 c10 ?_
  refine w_c32 rfl (by decide) 6 (by decide) ?_
  exact w_if2 rfl c13 (by decide) k1 k2

theorem k552_398 {P : s_P} {d : Nat} {Q : s_O → Prop} {h : s_H} {kc ks : Nat} {r0 : Term} {x1 x2 x3 x4 x5 x6 x7 : Int}  (k : wr P d sw_c552 sw_h552 (403, [r0, vi x1, vi x2, vi x3, vi x4, vi x5, vi x6, vi x7], [vi 1], h, kc, ks) Q)   : wr P d sw_c552 sw_h552 (398, [r0, vi x1, vi x2, vi x3, vi x4, vi x5, vi x6, vi x7], [], h, kc, ks) Q := by
  refine w_c32 rfl (by decide) 1 (by decide) ?_
  refine w_goto rfl ?_
  exact k

theorem k552_402 {P : s_P} {d : Nat} {Q : s_O → Prop} {h : s_H} {kc ks : Nat} {r0 : Term} {x1 x2 x3 x4 x5 x6 x7 : Int}  (k : wr P d sw_c552 sw_h552 (403, [r0, vi x1, vi x2, vi x3, vi x4, vi x5, vi x6, vi x7], [vi 0], h, kc, ks) Q)   : wr P d sw_c552 sw_h552 (402, [r0, vi x1, vi x2, vi x3, vi x4, vi x5, vi x6, vi x7], [], h, kc, ks) Q := by
  refine w_c32 rfl (by decide) 0 (by decide) ?_
  exact k

theorem k552_403 {P : s_P} {d : Nat} {Q : s_O → Prop} {h : s_H} {kc ks : Nat} {r0 : Term} {x1 x2 x3 x4 x5 x6 x7 s0 : Int}  (k : Q (.inl (some (vi s0)), h, kc, ks))  (c1 : s0 = 0 ∨ s0 = 1 := by first | omega | assumption | (simp only [mk_len, List.length_map]; omega) | decide) : wr P d sw_c552 sw_h552 (403, [r0, vi x1, vi x2, vi x3, vi x4, vi x5, vi x6, vi x7], [vi s0], h, kc, ks) Q := by
  exact w_zret rfl c1 k

theorem k552_404 {P : s_P} {d : Nat} {Q : s_O → Prop} {h : s_H} {kc ks : Nat} {r0 : Term} {x1 x2 x3 x4 x5 x6 x7 : Int} {q2 : Nat} {f3 : List Term} (g4 : s_get h q2 = some (1, 11, f3)) (k : wm P d 556 [.index q2, vi x3, vi x4, vi x5, vi x6] h (wq P d sw_c552 sw_h552 415 [.index q2, vi x1, vi x2, vi x3, vi x4, vi x5, vi x6, vi x7] [] kc ks Q)) (e_q2 : r0 = .index q2 := by first | rfl | assumption) (y1 : s_ty r0 = 3 := by first | rfl | assumption)  : wr P d sw_c552 sw_h552 (404, [r0, vi x1, vi x2, vi x3, vi x4, vi x5, vi x6, vi x7], [], h, kc, ks) Q := by
  refine w_ld rfl rfl (Or.inr (Or.inr ⟨by decide, y1⟩)) ?_
  refine w_ld rfl rfl (Or.inl ⟨by decide, rfl⟩) ?_
  refine w_ld rfl rfl (Or.inl ⟨by decide, rfl⟩) ?_
  refine w_ld rfl rfl (Or.inl ⟨by decide, rfl⟩) ?_
  refine w_ld rfl rfl (Or.inl ⟨by decide, rfl⟩) ?_
  subst e_q2
  exact w_cv rfl [.index q2, vi x3, vi x4, vi x5, vi x6] [] rfl rfl (s_wt_4 rfl) rfl g4 k

theorem k552_415 {P : s_P} {d : Nat} {Q : s_O → Prop} {h : s_H} {kc ks : Nat} {r0 : Term} {x1 x2 x3 x4 x5 x6 x7 s0 : Int}  (k : Q (.inl (some (vi s0)), h, kc, ks))  (c1 : s0 = 0 ∨ s0 = 1 := by first | omega | assumption | (simp only [mk_len, List.length_map]; omega) | decide) : wr P d sw_c552 sw_h552 (415, [r0, vi x1, vi x2, vi x3, vi x4, vi x5, vi x6, vi x7], [vi s0], h, kc, ks) Q := by
  exact w_zret rfl c1 k

theorem k552_416 {P : s_P} {d : Nat} {Q : s_O → Prop} {h : s_H} {kc ks : Nat} {r0 : Term} {x1 x2 x3 x4 x5 x6 x7 : Int} {q2 : Nat} {f3 : List Term} (g4 : s_get h q2 = some (1, 11, f3)) (k : wm P d 553 [.index q2, vi x3, vi x2, vi x4, vi x5, vi x6] h (wq P d sw_c552 sw_h552 428 [.index q2, vi x1, vi x2, vi x3, vi x4, vi x5, vi x6, vi x7] [] kc ks Q)) (e_q2 : r0 = .index q2 := by first | rfl | assumption) (y1 : s_ty r0 = 3 := by first | rfl | assumption)  : wr P d sw_c552 sw_h552 (416, [r0, vi x1, vi x2, vi x3, vi x4, vi x5, vi x6, vi x7], [], h, kc, ks) Q := by
  refine w_ld rfl rfl (Or.inr (Or.inr ⟨by decide, y1⟩)) ?_
  refine w_ld rfl rfl (Or.inl ⟨by decide, rfl⟩) ?_
  refine w_ld rfl rfl (Or.inl ⟨by decide, rfl⟩) ?_
  refine w_ld rfl rfl (Or.inl ⟨by decide, rfl⟩) ?_
  refine w_ld rfl rfl (Or.inl ⟨by decide, rfl⟩) ?_
  refine w_ld rfl rfl (Or.inl ⟨by decide, rfl⟩) ?_
  subst e_q2
  exact w_cv rfl [.index q2, vi x3, vi x2, vi x4, vi x5, vi x6] [] rfl rfl (s_wt_4 rfl) rfl g4 k

theorem k552_428 {P : s_P} {d : Nat} {Q : s_O → Prop} {h : s_H} {kc ks : Nat} {r0 : Term} {x1 x2 x3 x4 x5 x6 x7 s0 : Int}  (k : Q (.inl (some (vi s0)), h, kc, ks))  (c1 : s0 = 0 ∨ s0 = 1 := by first | omega | assumption | (simp only [mk_len, List.length_map]; omega) | decide) : wr P d sw_c552 sw_h552 (428, [r0, vi x1, vi x2, vi x3, vi x4, vi x5, vi x6, vi x7], [vi s0], h, kc, ks) Q := by
  exact w_zret rfl c1 k

/-! 553: FormulaWorksModel.plantsMore(IIIII)Z -/
theorem k553_0 {P : s_P} {d : Nat} {Q : s_O → Prop} {h : s_H} {kc ks : Nat} {r0 : Term} {x1 x2 x3 x4 x5 : Int} {t6 t7 : Term}  (k1 : x2 ≠ 3 → wr P d sw_c553 sw_h553 (96, [r0, vi x1, vi x2, vi x3, vi x4, vi x5, t6, t7], [], h, kc, ks) Q) (k2 : ¬ x2 ≠ 3 → wr P d sw_c553 sw_h553 (5, [r0, vi x1, vi x2, vi x3, vi x4, vi x5, t6, t7], [], h, kc, ks) Q)  (c1 : In3 x2 := by first | omega | assumption | (simp only [mk_len, List.length_map]; omega) | decide) : wr P d sw_c553 sw_h553 (0, [r0, vi x1, vi x2, vi x3, vi x4, vi x5, t6, t7], [], h, kc, ks) Q := by
  refine w_ld rfl rfl (Or.inl ⟨by decide, rfl⟩) ?_
  refine w_c32 rfl (by decide) 3 (by decide) ?_
  exact w_if2 rfl c1 (by decide) k1 k2

theorem k553_5 {P : s_P} {d : Nat} {Q : s_O → Prop} {h : s_H} {kc ks : Nat} {r0 : Term} {x1 x2 x3 x4 x5 : Int} {t6 t7 : Term} {q2 : Nat} {f3 : List Term} {v5 : Term} {q7 : Nat} {a8 : List Int} (g4 : s_get h q2 = some (1, 11, f3)) (g9 : s_get h q7 = some (0, 0, a8.map vi)) (k1 : x1 ≠ 4 → wr P d sw_c553 sw_h553 (31, [.index q2, vi x1, vi x2, vi x3, vi x4, vi x5, vi (gi a8 x4), t7], [], h, kc, ks) Q) (k2 : ¬ x1 ≠ 4 → wr P d sw_c553 sw_h553 (19, [.index q2, vi x1, vi x2, vi x3, vi x4, vi x5, vi (gi a8 x4), t7], [], h, kc, ks) Q) (e_q2 : r0 = .index q2 := by first | rfl | assumption) (e_q7 : v5 = .index q7 := by first | rfl | assumption) (y1 : s_ty r0 = 3 := by first | rfl | assumption) (n6 : s_nth f3 83 = some v5 := by first | rfl | assumption) (c10 : x4 < a8.length := by first | omega | assumption | (simp only [mk_len, List.length_map]; omega) | decide) (c11 : 0 ≤ x4 := by first | omega | assumption | (simp only [mk_len, List.length_map]; omega) | decide) (c12 : In3 x4 := by first | omega | assumption | (simp only [mk_len, List.length_map]; omega) | decide) (c13 : In3 x1 := by first | omega | assumption | (simp only [mk_len, List.length_map]; omega) | decide) : wr P d sw_c553 sw_h553 (5, [r0, vi x1, vi x2, vi x3, vi x4, vi x5, t6, t7], [], h, kc, ks) Q := by
  refine w_ld rfl rfl (Or.inr (Or.inr ⟨by decide, y1⟩)) ?_
  subst e_q2
  refine w_getf rfl g4 n6 ?_
  refine w_ld rfl rfl (Or.inl ⟨by decide, rfl⟩) ?_
  subst e_q7
  refine w_iald rfl g9 (Or.inl rfl) c12 c11 c10 ?_
  refine w_st (ls' := [.index q2, vi x1, vi x2, vi x3, vi x4, vi x5, vi (gi a8 x4), t7]) rfl (Or.inl ⟨by decide, rfl⟩) rfl ?_
  refine w_ld rfl rfl (Or.inl ⟨by decide, rfl⟩) ?_
  refine w_c32 rfl (by decide) 4 (by decide) ?_
  exact w_if2 rfl c13 (by decide) k1 k2

theorem k553_19 {P : s_P} {d : Nat} {Q : s_O → Prop} {h : s_H} {kc ks : Nat} {r0 : Term} {x1 x2 x3 x4 x5 x6 : Int} {t7 : Term}  (k1 : x6 = 2 → wr P d sw_c553 sw_h553 (33, [r0, vi x1, vi x2, vi x3, vi x4, vi x5, vi x6, t7], [], h, kc, ks) Q) (k2 : ¬ x6 = 2 → wr P d sw_c553 sw_h553 (25, [r0, vi x1, vi x2, vi x3, vi x4, vi x5, vi x6, t7], [], h, kc, ks) Q)  (c1 : In3 x6 := by first | omega | assumption | (simp only [mk_len, List.length_map]; omega) | decide) : wr P d sw_c553 sw_h553 (19, [r0, vi x1, vi x2, vi x3, vi x4, vi x5, vi x6, t7], [], h, kc, ks) Q := by
  refine w_ld rfl rfl (Or.inl ⟨by decide, rfl⟩) ?_
  refine w_c32 rfl (by decide) 2 (by decide) ?_
  exact w_if2 rfl c1 (by decide) k1 k2

theorem k553_25 {P : s_P} {d : Nat} {Q : s_O → Prop} {h : s_H} {kc ks : Nat} {r0 : Term} {x1 x2 x3 x4 x5 x6 : Int} {t7 : Term}  (k1 : x6 = 3 → wr P d sw_c553 sw_h553 (33, [r0, vi x1, vi x2, vi x3, vi x4, vi x5, vi x6, t7], [], h, kc, ks) Q) (k2 : ¬ x6 = 3 → wr P d sw_c553 sw_h553 (31, [r0, vi x1, vi x2, vi x3, vi x4, vi x5, vi x6, t7], [], h, kc, ks) Q)  (c1 : In3 x6 := by first | omega | assumption | (simp only [mk_len, List.length_map]; omega) | decide) : wr P d sw_c553 sw_h553 (25, [r0, vi x1, vi x2, vi x3, vi x4, vi x5, vi x6, t7], [], h, kc, ks) Q := by
  refine w_ld rfl rfl (Or.inl ⟨by decide, rfl⟩) ?_
  refine w_c32 rfl (by decide) 3 (by decide) ?_
  exact w_if2 rfl c1 (by decide) k1 k2

theorem k553_31 {P : s_P} {d : Nat} {Q : s_O → Prop} {h : s_H} {kc ks : Nat} {r0 : Term} {x1 x2 x3 x4 x5 x6 : Int} {t7 : Term}  (k : Q (.inl (some (vi 0)), h, kc, ks))   : wr P d sw_c553 sw_h553 (31, [r0, vi x1, vi x2, vi x3, vi x4, vi x5, vi x6, t7], [], h, kc, ks) Q := by
  refine w_c32 rfl (by decide) 0 (by decide) ?_
  exact w_zret rfl (by decide) k

theorem k553_33 {P : s_P} {d : Nat} {Q : s_O → Prop} {h : s_H} {kc ks : Nat} {r0 : Term} {x1 x2 x3 x4 x5 x6 : Int} {t7 : Term} {q2 : Nat} {f3 : List Term} (g4 : s_get h q2 = some (1, 11, f3)) (k : wm P d 407 [.index q2, vi (x4 + 1)] h (wq P d sw_c553 sw_h553 41 [.index q2, vi x1, vi x2, vi x3, vi x4, vi x5, vi x6, t7] [] kc ks Q)) (e_q2 : r0 = .index q2 := by first | rfl | assumption) (y1 : s_ty r0 = 3 := by first | rfl | assumption)  : wr P d sw_c553 sw_h553 (33, [r0, vi x1, vi x2, vi x3, vi x4, vi x5, vi x6, t7], [], h, kc, ks) Q := by
  refine w_ld rfl rfl (Or.inr (Or.inr ⟨by decide, y1⟩)) ?_
  refine w_ld rfl rfl (Or.inl ⟨by decide, rfl⟩) ?_
  refine w_c32 rfl (by decide) 1 (by decide) ?_
  refine w_iadd rfl ?_
  subst e_q2
  exact w_cv rfl [.index q2, vi (x4 + 1)] [] rfl rfl (s_wt_4 rfl) rfl g4 k

theorem k553_41 {P : s_P} {d : Nat} {Q : s_O → Prop} {h : s_H} {kc ks : Nat} {r0 : Term} {x1 x2 x3 x4 x5 x6 : Int} {t7 : Term} {s0 : Int} {q2 : Nat} {f3 : List Term} (g4 : s_get h q2 = some (1, 11, f3)) (k : wm P d 549 [.index q2, vi x6, vi 0] h (wq P d sw_c553 sw_h553 50 [.index q2, vi x1, vi x2, vi x3, vi x4, vi x5, vi x6, vi s0] [] kc ks Q)) (e_q2 : r0 = .index q2 := by first | rfl | assumption) (y1 : s_ty r0 = 3 := by first | rfl | assumption)  : wr P d sw_c553 sw_h553 (41, [r0, vi x1, vi x2, vi x3, vi x4, vi x5, vi x6, t7], [vi s0], h, kc, ks) Q := by
  refine w_st (ls' := [r0, vi x1, vi x2, vi x3, vi x4, vi x5, vi x6, vi s0]) rfl (Or.inl ⟨by decide, rfl⟩) rfl ?_
  refine w_ld rfl rfl (Or.inr (Or.inr ⟨by decide, y1⟩)) ?_
  refine w_ld rfl rfl (Or.inl ⟨by decide, rfl⟩) ?_
  refine w_c32 rfl (by decide) 0 (by decide) ?_
  subst e_q2
  exact w_cv rfl [.index q2, vi x6, vi 0] [] rfl rfl (s_wt_4 rfl) rfl g4 k

theorem k553_50 {P : s_P} {d : Nat} {Q : s_O → Prop} {h : s_H} {kc ks : Nat} {r0 : Term} {x1 x2 x3 x4 x5 x6 x7 : Int} {q2 : Nat} {f3 : List Term} (g4 : s_get h q2 = some (1, 11, f3)) (k : wm P d 549 [.index q2, vi 4, vi 0] h (wq P d sw_c553 sw_h553 56 [.index q2, vi x1, vi x2, vi x3, vi x4, vi x5, vi x6, vi x7] [] kc ks Q)) (e_q2 : r0 = .index q2 := by first | rfl | assumption) (y1 : s_ty r0 = 3 := by first | rfl | assumption)  : wr P d sw_c553 sw_h553 (50, [r0, vi x1, vi x2, vi x3, vi x4, vi x5, vi x6, vi x7], [], h, kc, ks) Q := by
  refine w_ld rfl rfl (Or.inr (Or.inr ⟨by decide, y1⟩)) ?_
  refine w_c32 rfl (by decide) 4 (by decide) ?_
  refine w_c32 rfl (by decide) 0 (by decide) ?_
  subst e_q2
  exact w_cv rfl [.index q2, vi 4, vi 0] [] rfl rfl (s_wt_4 rfl) rfl g4 k

theorem k553_56 {P : s_P} {d : Nat} {Q : s_O → Prop} {h : s_H} {kc ks : Nat} {r0 : Term} {x1 x2 x3 x4 x5 x6 x7 : Int} {q2 : Nat} {f3 : List Term} (g4 : s_get h q2 = some (1, 11, f3)) (k : wm P d 550 [.index q2, vi x3, vi x4] h (wq P d sw_c553 sw_h553 63 [.index q2, vi x1, vi x2, vi x3, vi x4, vi x5, vi x6, vi x7] [] kc ks Q)) (e_q2 : r0 = .index q2 := by first | rfl | assumption) (y1 : s_ty r0 = 3 := by first | rfl | assumption)  : wr P d sw_c553 sw_h553 (56, [r0, vi x1, vi x2, vi x3, vi x4, vi x5, vi x6, vi x7], [], h, kc, ks) Q := by
  refine w_ld rfl rfl (Or.inr (Or.inr ⟨by decide, y1⟩)) ?_
  refine w_ld rfl rfl (Or.inl ⟨by decide, rfl⟩) ?_
  refine w_ld rfl rfl (Or.inl ⟨by decide, rfl⟩) ?_
  subst e_q2
  exact w_cv rfl [.index q2, vi x3, vi x4] [] rfl rfl (s_wt_4 rfl) rfl g4 k

theorem k553_63 {P : s_P} {d : Nat} {Q : s_O → Prop} {h : s_H} {kc ks : Nat} {r0 : Term} {x1 x2 x3 x4 x5 x6 x7 : Int} {q2 : Nat} {f3 : List Term} (g4 : s_get h q2 = some (1, 11, f3)) (k : wm P d 550 [.index q2, vi (x4 + 1), vi x7] h (wq P d sw_c553 sw_h553 73 [.index q2, vi x1, vi x2, vi x3, vi x4, vi x5, vi x6, vi x7] [] kc ks Q)) (e_q2 : r0 = .index q2 := by first | rfl | assumption) (y1 : s_ty r0 = 3 := by first | rfl | assumption)  : wr P d sw_c553 sw_h553 (63, [r0, vi x1, vi x2, vi x3, vi x4, vi x5, vi x6, vi x7], [], h, kc, ks) Q := by
  refine w_ld rfl rfl (Or.inr (Or.inr ⟨by decide, y1⟩)) ?_
  refine w_ld rfl rfl (Or.inl ⟨by decide, rfl⟩) ?_
  refine w_c32 rfl (by decide) 1 (by decide) ?_
  refine w_iadd rfl ?_
  refine w_ld rfl rfl (Or.inl ⟨by decide, rfl⟩) ?_
  subst e_q2
  exact w_cv rfl [.index q2, vi (x4 + 1), vi x7] [] rfl rfl (s_wt_4 rfl) rfl g4 k

theorem k553_73 {P : s_P} {d : Nat} {Q : s_O → Prop} {h : s_H} {kc ks : Nat} {r0 : Term} {x1 x2 x3 x4 x5 x6 x7 : Int} {q2 : Nat} {f3 : List Term} (g4 : s_get h q2 = some (1, 11, f3)) (k : wm P d 549 [.index q2, vi 4, vi 0] h (wq P d sw_c553 sw_h553 79 [.index q2, vi x1, vi x2, vi x3, vi x4, vi x5, vi x6, vi x7] [] kc ks Q)) (e_q2 : r0 = .index q2 := by first | rfl | assumption) (y1 : s_ty r0 = 3 := by first | rfl | assumption)  : wr P d sw_c553 sw_h553 (73, [r0, vi x1, vi x2, vi x3, vi x4, vi x5, vi x6, vi x7], [], h, kc, ks) Q := by
  refine w_ld rfl rfl (Or.inr (Or.inr ⟨by decide, y1⟩)) ?_
  refine w_c32 rfl (by decide) 4 (by decide) ?_
  refine w_c32 rfl (by decide) 0 (by decide) ?_
  subst e_q2
  exact w_cv rfl [.index q2, vi 4, vi 0] [] rfl rfl (s_wt_4 rfl) rfl g4 k

theorem k553_79 {P : s_P} {d : Nat} {Q : s_O → Prop} {h : s_H} {kc ks : Nat} {r0 : Term} {x1 x2 x3 x4 x5 x6 x7 : Int} {q2 : Nat} {f3 : List Term} (g4 : s_get h q2 = some (1, 11, f3)) (k : wm P d 550 [.index q2, vi x3, vi x4] h (wq P d sw_c553 sw_h553 86 [.index q2, vi x1, vi x2, vi x3, vi x4, vi x5, vi x6, vi x7] [] kc ks Q)) (e_q2 : r0 = .index q2 := by first | rfl | assumption) (y1 : s_ty r0 = 3 := by first | rfl | assumption)  : wr P d sw_c553 sw_h553 (79, [r0, vi x1, vi x2, vi x3, vi x4, vi x5, vi x6, vi x7], [], h, kc, ks) Q := by
  refine w_ld rfl rfl (Or.inr (Or.inr ⟨by decide, y1⟩)) ?_
  refine w_ld rfl rfl (Or.inl ⟨by decide, rfl⟩) ?_
  refine w_ld rfl rfl (Or.inl ⟨by decide, rfl⟩) ?_
  subst e_q2
  exact w_cv rfl [.index q2, vi x3, vi x4] [] rfl rfl (s_wt_4 rfl) rfl g4 k

theorem k553_86 {P : s_P} {d : Nat} {Q : s_O → Prop} {h : s_H} {kc ks : Nat} {r0 : Term} {x1 x2 x3 x4 x5 x6 x7 : Int} {q2 : Nat} {f3 : List Term} (g4 : s_get h q2 = some (1, 11, f3)) (k : wm P d 550 [.index q2, vi x7, vi x5] h (wq P d sw_c553 sw_h553 94 [.index q2, vi x1, vi x2, vi x3, vi x4, vi x5, vi x6, vi x7] [] kc ks Q)) (e_q2 : r0 = .index q2 := by first | rfl | assumption) (y1 : s_ty r0 = 3 := by first | rfl | assumption)  : wr P d sw_c553 sw_h553 (86, [r0, vi x1, vi x2, vi x3, vi x4, vi x5, vi x6, vi x7], [], h, kc, ks) Q := by
  refine w_ld rfl rfl (Or.inr (Or.inr ⟨by decide, y1⟩)) ?_
  refine w_ld rfl rfl (Or.inl ⟨by decide, rfl⟩) ?_
  refine w_ld rfl rfl (Or.inl ⟨by decide, rfl⟩) ?_
  subst e_q2
  exact w_cv rfl [.index q2, vi x7, vi x5] [] rfl rfl (s_wt_4 rfl) rfl g4 k

theorem k553_94 {P : s_P} {d : Nat} {Q : s_O → Prop} {h : s_H} {kc ks : Nat} {r0 : Term} {x1 x2 x3 x4 x5 x6 x7 : Int}  (k : Q (.inl (some (vi 1)), h, kc, ks))   : wr P d sw_c553 sw_h553 (94, [r0, vi x1, vi x2, vi x3, vi x4, vi x5, vi x6, vi x7], [], h, kc, ks) Q := by
  refine w_c32 rfl (by decide) 1 (by decide) ?_
  exact w_zret rfl (by decide) k

theorem k553_96 {P : s_P} {d : Nat} {Q : s_O → Prop} {h : s_H} {kc ks : Nat} {r0 : Term} {x1 x2 x3 x4 x5 : Int} {t6 t7 : Term}  (k1 : x2 ≠ 4 → wr P d sw_c553 sw_h553 (203, [r0, vi x1, vi x2, vi x3, vi x4, vi x5, t6, t7], [], h, kc, ks) Q) (k2 : ¬ x2 ≠ 4 → wr P d sw_c553 sw_h553 (101, [r0, vi x1, vi x2, vi x3, vi x4, vi x5, t6, t7], [], h, kc, ks) Q)  (c1 : In3 x2 := by first | omega | assumption | (simp only [mk_len, List.length_map]; omega) | decide) : wr P d sw_c553 sw_h553 (96, [r0, vi x1, vi x2, vi x3, vi x4, vi x5, t6, t7], [], h, kc, ks) Q := by
  refine w_ld rfl rfl (Or.inl ⟨by decide, rfl⟩) ?_
  refine w_c32 rfl (by decide) 4 (by decide) ?_
  exact w_if2 rfl c1 (by decide) k1 k2

theorem k553_101 {P : s_P} {d : Nat} {Q : s_O → Prop} {h : s_H} {kc ks : Nat} {r0 : Term} {x1 x2 x3 x4 x5 : Int} {t6 t7 : Term}  (k1 : x1 = 2 → wr P d sw_c553 sw_h553 (111, [r0, vi x1, vi x2, vi x3, vi x4, vi x5, t6, t7], [], h, kc, ks) Q) (k2 : ¬ x1 = 2 → wr P d sw_c553 sw_h553 (106, [r0, vi x1, vi x2, vi x3, vi x4, vi x5, t6, t7], [], h, kc, ks) Q)  (c1 : In3 x1 := by first | omega | assumption | (simp only [mk_len, List.length_map]; omega) | decide) : wr P d sw_c553 sw_h553 (101, [r0, vi x1, vi x2, vi x3, vi x4, vi x5, t6, t7], [], h, kc, ks) Q := by
  refine w_ld rfl rfl (Or.inl ⟨by decide, rfl⟩) ?_
  refine w_c32 rfl (by decide) 2 (by decide) ?_
  exact w_if2 rfl c1 (by decide) k1 k2

theorem k553_106 {P : s_P} {d : Nat} {Q : s_O → Prop} {h : s_H} {kc ks : Nat} {r0 : Term} {x1 x2 x3 x4 x5 : Int} {t6 t7 : Term}  (k1 : x1 ≠ 3 → wr P d sw_c553 sw_h553 (146, [r0, vi x1, vi x2, vi x3, vi x4, vi x5, t6, t7], [], h, kc, ks) Q) (k2 : ¬ x1 ≠ 3 → wr P d sw_c553 sw_h553 (111, [r0, vi x1, vi x2, vi x3, vi x4, vi x5, t6, t7], [], h, kc, ks) Q)  (c1 : In3 x1 := by first | omega | assumption | (simp only [mk_len, List.length_map]; omega) | decide) : wr P d sw_c553 sw_h553 (106, [r0, vi x1, vi x2, vi x3, vi x4, vi x5, t6, t7], [], h, kc, ks) Q := by
  refine w_ld rfl rfl (Or.inl ⟨by decide, rfl⟩) ?_
  refine w_c32 rfl (by decide) 3 (by decide) ?_
  exact w_if2 rfl c1 (by decide) k1 k2

theorem k553_111 {P : s_P} {d : Nat} {Q : s_O → Prop} {h : s_H} {kc ks : Nat} {r0 : Term} {x1 x2 x3 x4 x5 : Int} {t6 t7 : Term} {q2 : Nat} {f3 : List Term} {v5 : Term} {q7 : Nat} {a8 : List Int} (g4 : s_get h q2 = some (1, 11, f3)) (g9 : s_get h q7 = some (0, 0, a8.map vi)) (k1 : gi a8 x3 ≠ 4 → wr P d sw_c553 sw_h553 (146, [.index q2, vi x1, vi x2, vi x3, vi x4, vi x5, t6, t7], [], h, kc, ks) Q) (k2 : ¬ gi a8 x3 ≠ 4 → wr P d sw_c553 sw_h553 (121, [.index q2, vi x1, vi x2, vi x3, vi x4, vi x5, t6, t7], [], h, kc, ks) Q) (e_q2 : r0 = .index q2 := by first | rfl | assumption) (e_q7 : v5 = .index q7 := by first | rfl | assumption) (y1 : s_ty r0 = 3 := by first | rfl | assumption) (n6 : s_nth f3 83 = some v5 := by first | rfl | assumption) (c10 : x3 < a8.length := by first | omega | assumption | (simp only [mk_len, List.length_map]; omega) | decide) (c11 : 0 ≤ x3 := by first | omega | assumption | (simp only [mk_len, List.length_map]; omega) | decide) (c12 : In3 x3 := by first | omega | assumption | (simp only [mk_len, List.length_map]; omega) | decide) (c13 : In3 (gi a8 x3) := by first | omega | assumption | (simp only [mk_len, List.length_map]; omega) | decide) : wr P d sw_c553 sw_h553 (111, [r0, vi x1, vi x2, vi x3, vi x4, vi x5, t6, t7], [], h, kc, ks) Q := by
  refine w_ld rfl rfl (Or.inr (Or.inr ⟨by decide, y1⟩)) ?_
  subst e_q2
  refine w_getf rfl g4 n6 ?_
  refine w_ld rfl rfl (Or.inl ⟨by decide, rfl⟩) ?_
  subst e_q7
  refine w_iald rfl g9 (Or.inl rfl) c12 c11 c10 ?_
  refine w_c32 rfl (by decide) 4 (by decide) ?_
  exact w_if2 rfl c13 (by decide) k1 k2

theorem k553_121 {P : s_P} {d : Nat} {Q : s_O → Prop} {h : s_H} {kc ks : Nat} {r0 : Term} {x1 x2 x3 x4 x5 : Int} {t6 t7 : Term} {q2 : Nat} {f3 : List Term} {v5 : Term} {q7 : Nat} {a8 : List Int} (g4 : s_get h q2 = some (1, 11, f3)) (g9 : s_get h q7 = some (0, 0, a8.map vi)) (k1 : gi a8 x4 ≠ 4 → wr P d sw_c553 sw_h553 (146, [.index q2, vi x1, vi x2, vi x3, vi x4, vi x5, t6, t7], [], h, kc, ks) Q) (k2 : ¬ gi a8 x4 ≠ 4 → wr P d sw_c553 sw_h553 (132, [.index q2, vi x1, vi x2, vi x3, vi x4, vi x5, t6, t7], [], h, kc, ks) Q) (e_q2 : r0 = .index q2 := by first | rfl | assumption) (e_q7 : v5 = .index q7 := by first | rfl | assumption) (y1 : s_ty r0 = 3 := by first | rfl | assumption) (n6 : s_nth f3 83 = some v5 := by first | rfl | assumption) (c10 : x4 < a8.length := by first | omega | assumption | (simp only [mk_len, List.length_map]; omega) | decide) (c11 : 0 ≤ x4 := by first | omega | assumption | (simp only [mk_len, List.length_map]; omega) | decide) (c12 : In3 x4 := by first | omega | assumption | (simp only [mk_len, List.length_map]; omega) | decide) (c13 : In3 (gi a8 x4) := by first | omega | assumption | (simp only [mk_len, List.length_map]; omega) | decide) : wr P d sw_c553 sw_h553 (121, [r0, vi x1, vi x2, vi x3, vi x4, vi x5, t6, t7], [], h, kc, ks) Q := by
  refine w_ld rfl rfl (Or.inr (Or.inr ⟨by decide, y1⟩)) ?_
  subst e_q2
  refine w_getf rfl g4 n6 ?_
  refine w_ld rfl rfl (Or.inl ⟨by decide, rfl⟩) ?_
  subst e_q7
  refine w_iald rfl g9 (Or.inl rfl) c12 c11 c10 ?_
  refine w_c32 rfl (by decide) 4 (by decide) ?_
  exact w_if2 rfl c13 (by decide) k1 k2

theorem k553_132 {P : s_P} {d : Nat} {Q : s_O → Prop} {h : s_H} {kc ks : Nat} {r0 : Term} {x1 x2 x3 x4 x5 : Int} {t6 t7 : Term} {q2 : Nat} {f3 : List Term} (g4 : s_get h q2 = some (1, 11, f3)) (k : wm P d 399 [.index q2, vi (x3 + 1), vi (x4 + 1)] h (wq P d sw_c553 sw_h553 143 [.index q2, vi x1, vi x2, vi x3, vi x4, vi x5, t6, t7] [] kc ks Q)) (e_q2 : r0 = .index q2 := by first | rfl | assumption) (y1 : s_ty r0 = 3 := by first | rfl | assumption)  : wr P d sw_c553 sw_h553 (132, [r0, vi x1, vi x2, vi x3, vi x4, vi x5, t6, t7], [], h, kc, ks) Q := by
  refine w_ld rfl rfl (Or.inr (Or.inr ⟨by decide, y1⟩)) ?_
  refine w_ld rfl rfl (Or.inl ⟨by decide, rfl⟩) ?_
  refine w_c32 rfl (by decide) 1 (by decide) ?_
  refine w_iadd rfl ?_
  refine w_ld rfl rfl (Or.inl ⟨by decide, rfl⟩) ?_
  refine w_c32 rfl (by decide) 1 (by decide) ?_
  refine w_iadd rfl ?_
  subst e_q2
  exact w_cv rfl [.index q2, vi (x3 + 1), vi (x4 + 1)] [] rfl rfl (s_wt_4 rfl) rfl g4 k

theorem k553_143 {P : s_P} {d : Nat} {Q : s_O → Prop} {h : s_H} {kc ks : Nat} {r0 : Term} {x1 x2 x3 x4 x5 : Int} {t6 t7 : Term} {s0 : Int}  (k1 : s0 ≠ 0 → wr P d sw_c553 sw_h553 (148, [r0, vi x1, vi x2, vi x3, vi x4, vi x5, t6, t7], [], h, kc, ks) Q) (k2 : ¬ s0 ≠ 0 → wr P d sw_c553 sw_h553 (146, [r0, vi x1, vi x2, vi x3, vi x4, vi x5, t6, t7], [], h, kc, ks) Q)  (c1 : In3 s0 := by first | omega | assumption | (simp only [mk_len, List.length_map]; omega) | decide) : wr P d sw_c553 sw_h553 (143, [r0, vi x1, vi x2, vi x3, vi x4, vi x5, t6, t7], [vi s0], h, kc, ks) Q := by
  exact w_if1 rfl c1 k1 k2

theorem k553_146 {P : s_P} {d : Nat} {Q : s_O → Prop} {h : s_H} {kc ks : Nat} {r0 : Term} {x1 x2 x3 x4 x5 : Int} {t6 t7 : Term}  (k : Q (.inl (some (vi 0)), h, kc, ks))   : wr P d sw_c553 sw_h553 (146, [r0, vi x1, vi x2, vi x3, vi x4, vi x5, t6, t7], [], h, kc, ks) Q := by
  refine w_c32 rfl (by decide) 0 (by decide) ?_
  exact w_zret rfl (by decide) k

theorem k553_148 {P : s_P} {d : Nat} {Q : s_O → Prop} {h : s_H} {kc ks : Nat} {r0 : Term} {x1 x2 x3 x4 x5 : Int} {t6 t7 : Term} {q2 : Nat} {f3 : List Term} (g4 : s_get h q2 = some (1, 11, f3)) (k : wm P d 549 [.index q2, vi 4, vi 0] h (wq P d sw_c553 sw_h553 154 [.index q2, vi x1, vi x2, vi x3, vi x4, vi x5, t6, t7] [] kc ks Q)) (e_q2 : r0 = .index q2 := by first | rfl | assumption) (y1 : s_ty r0 = 3 := by first | rfl | assumption)  : wr P d sw_c553 sw_h553 (148, [r0, vi x1, vi x2, vi x3, vi x4, vi x5, t6, t7], [], h, kc, ks) Q := by
  refine w_ld rfl rfl (Or.inr (Or.inr ⟨by decide, y1⟩)) ?_
  refine w_c32 rfl (by decide) 4 (by decide) ?_
  refine w_c32 rfl (by decide) 0 (by decide) ?_
  subst e_q2
  exact w_cv rfl [.index q2, vi 4, vi 0] [] rfl rfl (s_wt_4 rfl) rfl g4 k

theorem k553_154 {P : s_P} {d : Nat} {Q : s_O → Prop} {h : s_H} {kc ks : Nat} {r0 : Term} {x1 x2 x3 x4 x5 : Int} {t6 t7 : Term} {q2 : Nat} {f3 : List Term} (g4 : s_get h q2 = some (1, 11, f3)) (k : wm P d 407 [.index q2, vi (x3 + 1)] h (wq P d sw_c553 sw_h553 165 [.index q2, vi x1, vi x2, vi x3, vi x4, vi x5, t6, t7] [vi (x3 + 1), .index q2] kc ks Q)) (e_q2 : r0 = .index q2 := by first | rfl | assumption) (y1 : s_ty r0 = 3 := by first | rfl | assumption)  : wr P d sw_c553 sw_h553 (154, [r0, vi x1, vi x2, vi x3, vi x4, vi x5, t6, t7], [], h, kc, ks) Q := by
  refine w_ld rfl rfl (Or.inr (Or.inr ⟨by decide, y1⟩)) ?_
  refine w_ld rfl rfl (Or.inl ⟨by decide, rfl⟩) ?_
  refine w_c32 rfl (by decide) 1 (by decide) ?_
  refine w_iadd rfl ?_
  refine w_ld rfl rfl (Or.inr (Or.inr ⟨by decide, y1⟩)) ?_
  refine w_ld rfl rfl (Or.inl ⟨by decide, rfl⟩) ?_
  refine w_c32 rfl (by decide) 1 (by decide) ?_
  refine w_iadd rfl ?_
  subst e_q2
  exact w_cv rfl [.index q2, vi (x3 + 1)] [vi (x3 + 1), .index q2] rfl rfl (s_wt_4 rfl) rfl g4 k

theorem k553_165 {P : s_P} {d : Nat} {Q : s_O → Prop} {h : s_H} {kc ks : Nat} {r0 : Term} {x1 x2 x3 x4 x5 : Int} {t6 t7 s0 : Term} {s1 s2 : Int} {q1 : Nat} {f2 : List Term} (g3 : s_get h q1 = some (1, 11, f2)) (k : wm P d 550 [.index q1, vi s1, vi s2] h (wq P d sw_c553 sw_h553 168 [r0, vi x1, vi x2, vi x3, vi x4, vi x5, t6, t7] [] kc ks Q)) (e_q1 : s0 = .index q1 := by first | rfl | assumption)  : wr P d sw_c553 sw_h553 (165, [r0, vi x1, vi x2, vi x3, vi x4, vi x5, t6, t7], [vi s2, vi s1, s0], h, kc, ks) Q := by
  subst e_q1
  exact w_cv rfl [.index q1, vi s1, vi s2] [] rfl rfl (s_wt_4 rfl) rfl g3 k

theorem k553_168 {P : s_P} {d : Nat} {Q : s_O → Prop} {h : s_H} {kc ks : Nat} {r0 : Term} {x1 x2 x3 x4 x5 : Int} {t6 t7 : Term} {q2 : Nat} {f3 : List Term} (g4 : s_get h q2 = some (1, 11, f3)) (k : wm P d 549 [.index q2, vi x1, vi 0] h (wq P d sw_c553 sw_h553 174 [.index q2, vi x1, vi x2, vi x3, vi x4, vi x5, t6, t7] [] kc ks Q)) (e_q2 : r0 = .index q2 := by first | rfl | assumption) (y1 : s_ty r0 = 3 := by first | rfl | assumption)  : wr P d sw_c553 sw_h553 (168, [r0, vi x1, vi x2, vi x3, vi x4, vi x5, t6, t7], [], h, kc, ks) Q := by
  refine w_ld rfl rfl (Or.inr (Or.inr ⟨by decide, y1⟩)) ?_
  refine w_ld rfl rfl (Or.inl ⟨by decide, rfl⟩) ?_
  refine w_c32 rfl (by decide) 0 (by decide) ?_
  subst e_q2
  exact w_cv rfl [.index q2, vi x1, vi 0] [] rfl rfl (s_wt_4 rfl) rfl g4 k

theorem k553_174 {P : s_P} {d : Nat} {Q : s_O → Prop} {h : s_H} {kc ks : Nat} {r0 : Term} {x1 x2 x3 x4 x5 : Int} {t6 t7 : Term} {q2 : Nat} {f3 : List Term} (g4 : s_get h q2 = some (1, 11, f3)) (k : wm P d 407 [.index q2, vi (x3 + 1)] h (wq P d sw_c553 sw_h553 182 [.index q2, vi x1, vi x2, vi x3, vi x4, vi x5, t6, t7] [.index q2] kc ks Q)) (e_q2 : r0 = .index q2 := by first | rfl | assumption) (y1 : s_ty r0 = 3 := by first | rfl | assumption)  : wr P d sw_c553 sw_h553 (174, [r0, vi x1, vi x2, vi x3, vi x4, vi x5, t6, t7], [], h, kc, ks) Q := by
  refine w_ld rfl rfl (Or.inr (Or.inr ⟨by decide, y1⟩)) ?_
  refine w_ld rfl rfl (Or.inr (Or.inr ⟨by decide, y1⟩)) ?_
  refine w_ld rfl rfl (Or.inl ⟨by decide, rfl⟩) ?_
  refine w_c32 rfl (by decide) 1 (by decide) ?_
  refine w_iadd rfl ?_
  subst e_q2
  exact w_cv rfl [.index q2, vi (x3 + 1)] [.index q2] rfl rfl (s_wt_4 rfl) rfl g4 k

theorem k553_182 {P : s_P} {d : Nat} {Q : s_O → Prop} {h : s_H} {kc ks : Nat} {r0 : Term} {x1 x2 x3 x4 x5 : Int} {t6 t7 s0 : Term} {s1 : Int} {q1 : Nat} {f2 : List Term} (g3 : s_get h q1 = some (1, 11, f2)) (k : wm P d 550 [.index q1, vi s1, vi x4] h (wq P d sw_c553 sw_h553 187 [r0, vi x1, vi x2, vi x3, vi x4, vi x5, t6, t7] [] kc ks Q)) (e_q1 : s0 = .index q1 := by first | rfl | assumption)  : wr P d sw_c553 sw_h553 (182, [r0, vi x1, vi x2, vi x3, vi x4, vi x5, t6, t7], [vi s1, s0], h, kc, ks) Q := by
  refine w_ld rfl rfl (Or.inl ⟨by decide, rfl⟩) ?_
  subst e_q1
  exact w_cv rfl [.index q1, vi s1, vi x4] [] rfl rfl (s_wt_4 rfl) rfl g3 k

theorem k553_187 {P : s_P} {d : Nat} {Q : s_O → Prop} {h : s_H} {kc ks : Nat} {r0 : Term} {x1 x2 x3 x4 x5 : Int} {t6 t7 : Term} {q2 : Nat} {f3 : List Term} (g4 : s_get h q2 = some (1, 11, f3)) (k : wm P d 407 [.index q2, vi (x4 + 1)] h (wq P d sw_c553 sw_h553 196 [.index q2, vi x1, vi x2, vi x3, vi x4, vi x5, t6, t7] [.index q2] kc ks Q)) (e_q2 : r0 = .index q2 := by first | rfl | assumption) (y1 : s_ty r0 = 3 := by first | rfl | assumption)  : wr P d sw_c553 sw_h553 (187, [r0, vi x1, vi x2, vi x3, vi x4, vi x5, t6, t7], [], h, kc, ks) Q := by
  refine w_ld rfl rfl (Or.inr (Or.inr ⟨by decide, y1⟩)) ?_
  refine w_ld rfl rfl (Or.inr (Or.inr ⟨by decide, y1⟩)) ?_
  refine w_ld rfl rfl (Or.inl ⟨by decide, rfl⟩) ?_
  refine w_c32 rfl (by decide) 1 (by decide) ?_
  refine w_iadd rfl ?_
  subst e_q2
  exact w_cv rfl [.index q2, vi (x4 + 1)] [.index q2] rfl rfl (s_wt_4 rfl) rfl g4 k

theorem k553_196 {P : s_P} {d : Nat} {Q : s_O → Prop} {h : s_H} {kc ks : Nat} {r0 : Term} {x1 x2 x3 x4 x5 : Int} {t6 t7 s0 : Term} {s1 : Int} {q1 : Nat} {f2 : List Term} (g3 : s_get h q1 = some (1, 11, f2)) (k : wm P d 550 [.index q1, vi s1, vi x5] h (wq P d sw_c553 sw_h553 201 [r0, vi x1, vi x2, vi x3, vi x4, vi x5, t6, t7] [] kc ks Q)) (e_q1 : s0 = .index q1 := by first | rfl | assumption)  : wr P d sw_c553 sw_h553 (196, [r0, vi x1, vi x2, vi x3, vi x4, vi x5, t6, t7], [vi s1, s0], h, kc, ks) Q := by
  refine w_ld rfl rfl (Or.inl ⟨by decide, rfl⟩) ?_
  subst e_q1
  exact w_cv rfl [.index q1, vi s1, vi x5] [] rfl rfl (s_wt_4 rfl) rfl g3 k

theorem k553_201 {P : s_P} {d : Nat} {Q : s_O → Prop} {h : s_H} {kc ks : Nat} {r0 : Term} {x1 x2 x3 x4 x5 : Int} {t6 t7 : Term}  (k : Q (.inl (some (vi 1)), h, kc, ks))   : wr P d sw_c553 sw_h553 (201, [r0, vi x1, vi x2, vi x3, vi x4, vi x5, t6, t7], [], h, kc, ks) Q := by
  refine w_c32 rfl (by decide) 1 (by decide) ?_
  exact w_zret rfl (by decide) k

theorem k553_203 {P : s_P} {d : Nat} {Q : s_O → Prop} {h : s_H} {kc ks : Nat} {r0 : Term} {x1 x2 x3 x4 x5 : Int} {t6 t7 : Term}  (k1 : x1 = 4 → wr P d sw_c553 sw_h553 (213, [r0, vi x1, vi x2, vi x3, vi x4, vi x5, t6, t7], [], h, kc, ks) Q) (k2 : ¬ x1 = 4 → wr P d sw_c553 sw_h553 (208, [r0, vi x1, vi x2, vi x3, vi x4, vi x5, t6, t7], [], h, kc, ks) Q)  (c1 : In3 x1 := by first | omega | assumption | (simp only [mk_len, List.length_map]; omega) | decide) : wr P d sw_c553 sw_h553 (203, [r0, vi x1, vi x2, vi x3, vi x4, vi x5, t6, t7], [], h, kc, ks) Q := by
  refine w_ld rfl rfl (Or.inl ⟨by decide, rfl⟩) ?_
  refine w_c32 rfl (by decide) 4 (by decide) ?_
  exact w_if2 rfl c1 (by decide) k1 k2

theorem k553_208 {P : s_P} {d : Nat} {Q : s_O → Prop} {h : s_H} {kc ks : Nat} {r0 : Term} {x1 x2 x3 x4 x5 : Int} {t6 t7 : Term}  (k1 : x1 ≠ 5 → wr P d sw_c553 sw_h553 (223, [r0, vi x1, vi x2, vi x3, vi x4, vi x5, t6, t7], [], h, kc, ks) Q) (k2 : ¬ x1 ≠ 5 → wr P d sw_c553 sw_h553 (213, [r0, vi x1, vi x2, vi x3, vi x4, vi x5, t6, t7], [], h, kc, ks) Q)  (c1 : In3 x1 := by first | omega | assumption | (simp only [mk_len, List.length_map]; omega) | decide) : wr P d sw_c553 sw_h553 (208, [r0, vi x1, vi x2, vi x3, vi x4, vi x5, t6, t7], [], h, kc, ks) Q := by
  refine w_ld rfl rfl (Or.inl ⟨by decide, rfl⟩) ?_
  refine w_c32 rfl (by decide) 5 (by decide) ?_
  exact w_if2 rfl c1 (by decide) k1 k2

theorem k553_213 {P : s_P} {d : Nat} {Q : s_O → Prop} {h : s_H} {kc ks : Nat} {r0 : Term} {x1 x2 x3 x4 x5 : Int} {t6 t7 : Term} {q2 : Nat} {f3 : List Term} {v5 : Term} {q7 : Nat} {a8 : List Int} (g4 : s_get h q2 = some (1, 11, f3)) (g9 : s_get h q7 = some (0, 0, a8.map vi)) (k1 : gi a8 x3 = 5 → wr P d sw_c553 sw_h553 (225, [.index q2, vi x1, vi x2, vi x3, vi x4, vi x5, t6, t7], [], h, kc, ks) Q) (k2 : ¬ gi a8 x3 = 5 → wr P d sw_c553 sw_h553 (223, [.index q2, vi x1, vi x2, vi x3, vi x4, vi x5, t6, t7], [], h, kc, ks) Q) (e_q2 : r0 = .index q2 := by first | rfl | assumption) (e_q7 : v5 = .index q7 := by first | rfl | assumption) (y1 : s_ty r0 = 3 := by first | rfl | assumption) (n6 : s_nth f3 83 = some v5 := by first | rfl | assumption) (c10 : x3 < a8.length := by first | omega | assumption | (simp only [mk_len, List.length_map]; omega) | decide) (c11 : 0 ≤ x3 := by first | omega | assumption | (simp only [mk_len, List.length_map]; omega) | decide) (c12 : In3 x3 := by first | omega | assumption | (simp only [mk_len, List.length_map]; omega) | decide) (c13 : In3 (gi a8 x3) := by first | omega | assumption | (simp only [mk_len, List.length_map]; omega) | decide) : wr P d sw_c553 sw_h553 (213, [r0, vi x1, vi x2, vi x3, vi x4, vi x5, t6, t7], [], h, kc, ks) Q := by
  refine w_ld rfl rfl (Or.inr (Or.inr ⟨by decide, y1⟩)) ?_
  subst e_q2
  refine w_getf rfl g4 n6 ?_
  refine w_ld rfl rfl (Or.inl ⟨by decide, rfl⟩) ?_
  subst e_q7
  refine w_iald rfl g9 (Or.inl rfl) c12 c11 c10 ?_
  refine w_c32 rfl (by decide) 5 (by decide) ?_
  exact w_if2 rfl c13 (by decide) k1 k2

theorem k553_223 {P : s_P} {d : Nat} {Q : s_O → Prop} {h : s_H} {kc ks : Nat} {r0 : Term} {x1 x2 x3 x4 x5 : Int} {t6 t7 : Term}  (k : Q (.inl (some (vi 0)), h, kc, ks))   : wr P d sw_c553 sw_h553 (223, [r0, vi x1, vi x2, vi x3, vi x4, vi x5, t6, t7], [], h, kc, ks) Q := by
  refine w_c32 rfl (by decide) 0 (by decide) ?_
  exact w_zret rfl (by decide) k

theorem k553_225 {P : s_P} {d : Nat} {Q : s_O → Prop} {h : s_H} {kc ks : Nat} {r0 : Term} {x1 x2 x3 x4 x5 : Int} {t6 t7 : Term} {q2 : Nat} {f3 : List Term} (g4 : s_get h q2 = some (1, 11, f3)) (k : wm P d 407 [.index q2, vi (x3 + 1)] h (wq P d sw_c553 sw_h553 232 [.index q2, vi x1, vi x2, vi x3, vi x4, vi x5, t6, t7] [] kc ks Q)) (e_q2 : r0 = .index q2 := by first | rfl | assumption) (y1 : s_ty r0 = 3 := by first | rfl | assumption)  : wr P d sw_c553 sw_h553 (225, [r0, vi x1, vi x2, vi x3, vi x4, vi x5, t6, t7], [], h, kc, ks) Q := by
  refine w_ld rfl rfl (Or.inr (Or.inr ⟨by decide, y1⟩)) ?_
  refine w_ld rfl rfl (Or.inl ⟨by decide, rfl⟩) ?_
  refine w_c32 rfl (by decide) 1 (by decide) ?_
  refine w_iadd rfl ?_
  subst e_q2
  exact w_cv rfl [.index q2, vi (x3 + 1)] [] rfl rfl (s_wt_4 rfl) rfl g4 k

theorem k553_232 {P : s_P} {d : Nat} {Q : s_O → Prop} {h : s_H} {kc ks : Nat} {r0 : Term} {x1 x2 x3 x4 x5 : Int} {t6 t7 : Term} {s0 : Int} {q2 : Nat} {f3 : List Term} (g4 : s_get h q2 = some (1, 11, f3)) (k : wm P d 549 [.index q2, vi 5, vi 0] h (wq P d sw_c553 sw_h553 240 [.index q2, vi x1, vi x2, vi x3, vi x4, vi x5, vi s0, t7] [] kc ks Q)) (e_q2 : r0 = .index q2 := by first | rfl | assumption) (y1 : s_ty r0 = 3 := by first | rfl | assumption)  : wr P d sw_c553 sw_h553 (232, [r0, vi x1, vi x2, vi x3, vi x4, vi x5, t6, t7], [vi s0], h, kc, ks) Q := by
  refine w_st (ls' := [r0, vi x1, vi x2, vi x3, vi x4, vi x5, vi s0, t7]) rfl (Or.inl ⟨by decide, rfl⟩) rfl ?_
  refine w_ld rfl rfl (Or.inr (Or.inr ⟨by decide, y1⟩)) ?_
  refine w_c32 rfl (by decide) 5 (by decide) ?_
  refine w_c32 rfl (by decide) 0 (by decide) ?_
  subst e_q2
  exact w_cv rfl [.index q2, vi 5, vi 0] [] rfl rfl (s_wt_4 rfl) rfl g4 k

theorem k553_240 {P : s_P} {d : Nat} {Q : s_O → Prop} {h : s_H} {kc ks : Nat} {r0 : Term} {x1 x2 x3 x4 x5 x6 : Int} {t7 : Term}  (k1 : x1 ≠ 4 → wr P d sw_c553 sw_h553 (279, [r0, vi x1, vi x2, vi x3, vi x4, vi x5, vi x6, t7], [], h, kc, ks) Q) (k2 : ¬ x1 ≠ 4 → wr P d sw_c553 sw_h553 (245, [r0, vi x1, vi x2, vi x3, vi x4, vi x5, vi x6, t7], [], h, kc, ks) Q)  (c1 : In3 x1 := by first | omega | assumption | (simp only [mk_len, List.length_map]; omega) | decide) : wr P d sw_c553 sw_h553 (240, [r0, vi x1, vi x2, vi x3, vi x4, vi x5, vi x6, t7], [], h, kc, ks) Q := by
  refine w_ld rfl rfl (Or.inl ⟨by decide, rfl⟩) ?_
  refine w_c32 rfl (by decide) 4 (by decide) ?_
  exact w_if2 rfl c1 (by decide) k1 k2

theorem k553_245 {P : s_P} {d : Nat} {Q : s_O → Prop} {h : s_H} {kc ks : Nat} {r0 : Term} {x1 x2 x3 x4 x5 x6 : Int} {t7 : Term} {q2 : Nat} {f3 : List Term} (g4 : s_get h q2 = some (1, 11, f3)) (k : wm P d 549 [.index q2, vi 4, vi 0] h (wq P d sw_c553 sw_h553 251 [.index q2, vi x1, vi x2, vi x3, vi x4, vi x5, vi x6, t7] [] kc ks Q)) (e_q2 : r0 = .index q2 := by first | rfl | assumption) (y1 : s_ty r0 = 3 := by first | rfl | assumption)  : wr P d sw_c553 sw_h553 (245, [r0, vi x1, vi x2, vi x3, vi x4, vi x5, vi x6, t7], [], h, kc, ks) Q := by
  refine w_ld rfl rfl (Or.inr (Or.inr ⟨by decide, y1⟩)) ?_
  refine w_c32 rfl (by decide) 4 (by decide) ?_
  refine w_c32 rfl (by decide) 0 (by decide) ?_
  subst e_q2
  exact w_cv rfl [.index q2, vi 4, vi 0] [] rfl rfl (s_wt_4 rfl) rfl g4 k

theorem k553_251 {P : s_P} {d : Nat} {Q : s_O → Prop} {h : s_H} {kc ks : Nat} {r0 : Term} {x1 x2 x3 x4 x5 x6 : Int} {t7 : Term} {q2 : Nat} {f3 : List Term} (g4 : s_get h q2 = some (1, 11, f3)) (k : wm P d 550 [.index q2, vi (x3 + 1), vi x6] h (wq P d sw_c553 sw_h553 260 [.index q2, vi x1, vi x2, vi x3, vi x4, vi x5, vi x6, t7] [] kc ks Q)) (e_q2 : r0 = .index q2 := by first | rfl | assumption) (y1 : s_ty r0 = 3 := by first | rfl | assumption)  : wr P d sw_c553 sw_h553 (251, [r0, vi x1, vi x2, vi x3, vi x4, vi x5, vi x6, t7], [], h, kc, ks) Q := by
  refine w_ld rfl rfl (Or.inr (Or.inr ⟨by decide, y1⟩)) ?_
  refine w_ld rfl rfl (Or.inl ⟨by decide, rfl⟩) ?_
  refine w_c32 rfl (by decide) 1 (by decide) ?_
  refine w_iadd rfl ?_
  refine w_ld rfl rfl (Or.inl ⟨by decide, rfl⟩) ?_
  subst e_q2
  exact w_cv rfl [.index q2, vi (x3 + 1), vi x6] [] rfl rfl (s_wt_4 rfl) rfl g4 k

theorem k553_260 {P : s_P} {d : Nat} {Q : s_O → Prop} {h : s_H} {kc ks : Nat} {r0 : Term} {x1 x2 x3 x4 x5 x6 : Int} {t7 : Term} {q2 : Nat} {f3 : List Term} (g4 : s_get h q2 = some (1, 11, f3)) (k : wm P d 550 [.index q2, vi x4, vi x5] h (wq P d sw_c553 sw_h553 268 [.index q2, vi x1, vi x2, vi x3, vi x4, vi x5, vi x6, t7] [] kc ks Q)) (e_q2 : r0 = .index q2 := by first | rfl | assumption) (y1 : s_ty r0 = 3 := by first | rfl | assumption)  : wr P d sw_c553 sw_h553 (260, [r0, vi x1, vi x2, vi x3, vi x4, vi x5, vi x6, t7], [], h, kc, ks) Q := by
  refine w_ld rfl rfl (Or.inr (Or.inr ⟨by decide, y1⟩)) ?_
  refine w_ld rfl rfl (Or.inl ⟨by decide, rfl⟩) ?_
  refine w_ld rfl rfl (Or.inl ⟨by decide, rfl⟩) ?_
  subst e_q2
  exact w_cv rfl [.index q2, vi x4, vi x5] [] rfl rfl (s_wt_4 rfl) rfl g4 k

theorem k553_268 {P : s_P} {d : Nat} {Q : s_O → Prop} {h : s_H} {kc ks : Nat} {r0 : Term} {x1 x2 x3 x4 x5 x6 : Int} {t7 : Term} {q2 : Nat} {f3 : List Term} (g4 : s_get h q2 = some (1, 11, f3)) (k : wm P d 550 [.index q2, vi x6, vi x4] h (wq P d sw_c553 sw_h553 276 [.index q2, vi x1, vi x2, vi x3, vi x4, vi x5, vi x6, t7] [] kc ks Q)) (e_q2 : r0 = .index q2 := by first | rfl | assumption) (y1 : s_ty r0 = 3 := by first | rfl | assumption)  : wr P d sw_c553 sw_h553 (268, [r0, vi x1, vi x2, vi x3, vi x4, vi x5, vi x6, t7], [], h, kc, ks) Q := by
  refine w_ld rfl rfl (Or.inr (Or.inr ⟨by decide, y1⟩)) ?_
  refine w_ld rfl rfl (Or.inl ⟨by decide, rfl⟩) ?_
  refine w_ld rfl rfl (Or.inl ⟨by decide, rfl⟩) ?_
  subst e_q2
  exact w_cv rfl [.index q2, vi x6, vi x4] [] rfl rfl (s_wt_4 rfl) rfl g4 k

theorem k553_276 {P : s_P} {d : Nat} {Q : s_O → Prop} {h : s_H} {kc ks : Nat} {r0 : Term} {x1 x2 x3 x4 x5 x6 : Int} {t7 : Term}  (k : wr P d sw_c553 sw_h553 (302, [r0, vi x1, vi x2, vi x3, vi x4, vi x5, vi x6, t7], [], h, kc, ks) Q)   : wr P d sw_c553 sw_h553 (276, [r0, vi x1, vi x2, vi x3, vi x4, vi x5, vi x6, t7], [], h, kc, ks) Q := by
  refine w_goto rfl ?_
  exact k

theorem k553_279 {P : s_P} {d : Nat} {Q : s_O → Prop} {h : s_H} {kc ks : Nat} {r0 : Term} {x1 x2 x3 x4 x5 x6 : Int} {t7 : Term} {q2 : Nat} {f3 : List Term} (g4 : s_get h q2 = some (1, 11, f3)) (k : wm P d 550 [.index q2, vi (x3 + 1), vi x6] h (wq P d sw_c553 sw_h553 288 [.index q2, vi x1, vi x2, vi x3, vi x4, vi x5, vi x6, t7] [] kc ks Q)) (e_q2 : r0 = .index q2 := by first | rfl | assumption) (y1 : s_ty r0 = 3 := by first | rfl | assumption)  : wr P d sw_c553 sw_h553 (279, [r0, vi x1, vi x2, vi x3, vi x4, vi x5, vi x6, t7], [], h, kc, ks) Q := by
  refine w_ld rfl rfl (Or.inr (Or.inr ⟨by decide, y1⟩)) ?_
  refine w_ld rfl rfl (Or.inl ⟨by decide, rfl⟩) ?_
  refine w_c32 rfl (by decide) 1 (by decide) ?_
  refine w_iadd rfl ?_
  refine w_ld rfl rfl (Or.inl ⟨by decide, rfl⟩) ?_
  subst e_q2
  exact w_cv rfl [.index q2, vi (x3 + 1), vi x6] [] rfl rfl (s_wt_4 rfl) rfl g4 k

theorem k553_288 {P : s_P} {d : Nat} {Q : s_O → Prop} {h : s_H} {kc ks : Nat} {r0 : Term} {x1 x2 x3 x4 x5 x6 : Int} {t7 : Term} {q2 : Nat} {f3 : List Term} (g4 : s_get h q2 = some (1, 11, f3)) (k : wm P d 549 [.index q2, vi 4, vi 0] h (wq P d sw_c553 sw_h553 294 [.index q2, vi x1, vi x2, vi x3, vi x4, vi x5, vi x6, t7] [] kc ks Q)) (e_q2 : r0 = .index q2 := by first | rfl | assumption) (y1 : s_ty r0 = 3 := by first | rfl | assumption)  : wr P d sw_c553 sw_h553 (288, [r0, vi x1, vi x2, vi x3, vi x4, vi x5, vi x6, t7], [], h, kc, ks) Q := by
  refine w_ld rfl rfl (Or.inr (Or.inr ⟨by decide, y1⟩)) ?_
  refine w_c32 rfl (by decide) 4 (by decide) ?_
  refine w_c32 rfl (by decide) 0 (by decide) ?_
  subst e_q2
  exact w_cv rfl [.index q2, vi 4, vi 0] [] rfl rfl (s_wt_4 rfl) rfl g4 k

theorem k553_294 {P : s_P} {d : Nat} {Q : s_O → Prop} {h : s_H} {kc ks : Nat} {r0 : Term} {x1 x2 x3 x4 x5 x6 : Int} {t7 : Term} {q2 : Nat} {f3 : List Term} (g4 : s_get h q2 = some (1, 11, f3)) (k : wm P d 550 [.index q2, vi x6, vi x5] h (wq P d sw_c553 sw_h553 302 [.index q2, vi x1, vi x2, vi x3, vi x4, vi x5, vi x6, t7] [] kc ks Q)) (e_q2 : r0 = .index q2 := by first | rfl | assumption) (y1 : s_ty r0 = 3 := by first | rfl | assumption)  : wr P d sw_c553 sw_h553 (294, [r0, vi x1, vi x2, vi x3, vi x4, vi x5, vi x6, t7], [], h, kc, ks) Q := by
  refine w_ld rfl rfl (Or.inr (Or.inr ⟨by decide, y1⟩)) ?_
  refine w_ld rfl rfl (Or.inl ⟨by decide, rfl⟩) ?_
  refine w_ld rfl rfl (Or.inl ⟨by decide, rfl⟩) ?_
  subst e_q2
  exact w_cv rfl [.index q2, vi x6, vi x5] [] rfl rfl (s_wt_4 rfl) rfl g4 k

theorem k553_302 {P : s_P} {d : Nat} {Q : s_O → Prop} {h : s_H} {kc ks : Nat} {r0 : Term} {x1 x2 x3 x4 x5 x6 : Int} {t7 : Term}  (k : Q (.inl (some (vi 1)), h, kc, ks))   : wr P d sw_c553 sw_h553 (302, [r0, vi x1, vi x2, vi x3, vi x4, vi x5, vi x6, t7], [], h, kc, ks) Q := by
  refine w_c32 rfl (by decide) 1 (by decide) ?_
  exact w_zret rfl (by decide) k

/-! 554: FormulaWorksModel.plantsNumber(II)Z -/
theorem k554_0 {P : s_P} {d : Nat} {Q : s_O → Prop} {h : s_H} {kc ks : Nat} {r0 : Term} {x1 x2 : Int} {t3 t4 t5 t6 t7 t8 t9 t10 : Term}  (k : wm P d 547 [vi x2] h (wq P d sw_c554 sw_h554 4 [r0, vi x1, vi x2, t3, t4, t5, t6, t7, t8, t9, t10] [] kc ks Q))   : wr P d sw_c554 sw_h554 (0, [r0, vi x1, vi x2, t3, t4, t5, t6, t7, t8, t9, t10], [], h, kc, ks) Q := by
  refine w_ld rfl rfl (Or.inl ⟨by decide, rfl⟩) ?_
  exact w_cs rfl [vi x2] [] rfl rfl (s_wt_4 rfl) k

theorem k554_4 {P : s_P} {d : Nat} {Q : s_O → Prop} {h : s_H} {kc ks : Nat} {r0 : Term} {x1 x2 : Int} {t3 t4 t5 t6 t7 t8 t9 t10 : Term} {s0 : Int}  (k1 : s0 = 0 → wr P d sw_c554 sw_h554 (36, [r0, vi x1, vi x2, vi s0, t4, t5, t6, t7, t8, t9, t10], [], h, kc, ks) Q) (k2 : ¬ s0 = 0 → wr P d sw_c554 sw_h554 (9, [r0, vi x1, vi x2, vi s0, t4, t5, t6, t7, t8, t9, t10], [], h, kc, ks) Q)  (c1 : In3 s0 := by first | omega | assumption | (simp only [mk_len, List.length_map]; omega) | decide) : wr P d sw_c554 sw_h554 (4, [r0, vi x1, vi x2, t3, t4, t5, t6, t7, t8, t9, t10], [vi s0], h, kc, ks) Q := by
  refine w_st (ls' := [r0, vi x1, vi x2, vi s0, t4, t5, t6, t7, t8, t9, t10]) rfl (Or.inl ⟨by decide, rfl⟩) rfl ?_
  refine w_ld rfl rfl (Or.inl ⟨by decide, rfl⟩) ?_
  exact w_if1 rfl c1 k1 k2

theorem k554_9 {P : s_P} {d : Nat} {Q : s_O → Prop} {h : s_H} {kc ks : Nat} {r0 : Term} {x1 x2 x3 : Int} {t4 t5 t6 t7 t8 t9 t10 : Term} {q2 : Nat} {f3 : List Term} {v5 : Term} {q7 : Nat} {a8 : List Int} (g4 : s_get h q2 = some (1, 11, f3)) (g9 : s_get h q7 = some (0, 0, a8.map vi)) (k1 : gi a8 (x1 + 1) ≠ 0 → wr P d sw_c554 sw_h554 (36, [.index q2, vi x1, vi x2, vi x3, t4, t5, t6, t7, t8, t9, t10], [], h, kc, ks) Q) (k2 : ¬ gi a8 (x1 + 1) ≠ 0 → wr P d sw_c554 sw_h554 (20, [.index q2, vi x1, vi x2, vi x3, t4, t5, t6, t7, t8, t9, t10], [], h, kc, ks) Q) (e_q2 : r0 = .index q2 := by first | rfl | assumption) (e_q7 : v5 = .index q7 := by first | rfl | assumption) (y1 : s_ty r0 = 3 := by first | rfl | assumption) (n6 : s_nth f3 83 = some v5 := by first | rfl | assumption) (c10 : x1 + 1 < a8.length := by first | omega | assumption | (simp only [mk_len, List.length_map]; omega) | decide) (c11 : 0 ≤ x1 + 1 := by first | omega | assumption | (simp only [mk_len, List.length_map]; omega) | decide) (c12 : In3 (x1 + 1) := by first | omega | assumption | (simp only [mk_len, List.length_map]; omega) | decide) (c13 : In3 (gi a8 (x1 + 1)) := by first | omega | assumption | (simp only [mk_len, List.length_map]; omega) | decide) : wr P d sw_c554 sw_h554 (9, [r0, vi x1, vi x2, vi x3, t4, t5, t6, t7, t8, t9, t10], [], h, kc, ks) Q := by
  refine w_ld rfl rfl (Or.inr (Or.inr ⟨by decide, y1⟩)) ?_
  subst e_q2
  refine w_getf rfl g4 n6 ?_
  refine w_ld rfl rfl (Or.inl ⟨by decide, rfl⟩) ?_
  refine w_c32 rfl (by decide) 1 (by decide) ?_
  refine w_iadd rfl ?_
  subst e_q7
  refine w_iald rfl g9 (Or.inl rfl) c12 c11 c10 ?_
  exact w_if1 rfl c13 k1 k2

theorem k554_20 {P : s_P} {d : Nat} {Q : s_O → Prop} {h : s_H} {kc ks : Nat} {r0 : Term} {x1 x2 x3 : Int} {t4 t5 t6 t7 t8 t9 t10 : Term}  (k1 : x3 ≠ 2 → wr P d sw_c554 sw_h554 (38, [r0, vi x1, vi x2, vi x3, t4, t5, t6, t7, t8, t9, t10], [], h, kc, ks) Q) (k2 : ¬ x3 ≠ 2 → wr P d sw_c554 sw_h554 (25, [r0, vi x1, vi x2, vi x3, t4, t5, t6, t7, t8, t9, t10], [], h, kc, ks) Q)  (c1 : In3 x3 := by first | omega | assumption | (simp only [mk_len, List.length_map]; omega) | decide) : wr P d sw_c554 sw_h554 (20, [r0, vi x1, vi x2, vi x3, t4, t5, t6, t7, t8, t9, t10], [], h, kc, ks) Q := by
  refine w_ld rfl rfl (Or.inl ⟨by decide, rfl⟩) ?_
  refine w_c32 rfl (by decide) 2 (by decide) ?_
  exact w_if2 rfl c1 (by decide) k1 k2

theorem k554_25 {P : s_P} {d : Nat} {Q : s_O → Prop} {h : s_H} {kc ks : Nat} {r0 : Term} {x1 x2 x3 : Int} {t4 t5 t6 t7 t8 t9 t10 : Term} {q2 : Nat} {f3 : List Term} {v5 : Term} {q7 : Nat} {a8 : List Int} (g4 : s_get h q2 = some (1, 11, f3)) (g9 : s_get h q7 = some (0, 0, a8.map vi)) (k1 : gi a8 (x1 + 2) = 0 → wr P d sw_c554 sw_h554 (38, [.index q2, vi x1, vi x2, vi x3, t4, t5, t6, t7, t8, t9, t10], [], h, kc, ks) Q) (k2 : ¬ gi a8 (x1 + 2) = 0 → wr P d sw_c554 sw_h554 (36, [.index q2, vi x1, vi x2, vi x3, t4, t5, t6, t7, t8, t9, t10], [], h, kc, ks) Q) (e_q2 : r0 = .index q2 := by first | rfl | assumption) (e_q7 : v5 = .index q7 := by first | rfl | assumption) (y1 : s_ty r0 = 3 := by first | rfl | assumption) (n6 : s_nth f3 83 = some v5 := by first | rfl | assumption) (c10 : x1 + 2 < a8.length := by first | omega | assumption | (simp only [mk_len, List.length_map]; omega) | decide) (c11 : 0 ≤ x1 + 2 := by first | omega | assumption | (simp only [mk_len, List.length_map]; omega) | decide) (c12 : In3 (x1 + 2) := by first | omega | assumption | (simp only [mk_len, List.length_map]; omega) | decide) (c13 : In3 (gi a8 (x1 + 2)) := by first | omega | assumption | (simp only [mk_len, List.length_map]; omega) | decide) : wr P d sw_c554 sw_h554 (25, [r0, vi x1, vi x2, vi x3, t4, t5, t6, t7, t8, t9, t10], [], h, kc, ks) Q := by
  refine w_ld rfl rfl (Or.inr (Or.inr ⟨by decide, y1⟩)) ?_
  subst e_q2
  refine w_getf rfl g4 n6 ?_
  refine w_ld rfl rfl (Or.inl ⟨by decide, rfl⟩) ?_
  refine w_c32 rfl (by decide) 2 (by decide) ?_
  refine w_iadd rfl ?_
  subst e_q7
  refine w_iald rfl g9 (Or.inl rfl) c12 c11 c10 ?_
  exact w_if1 rfl c13 k1 k2

theorem k554_36 {P : s_P} {d : Nat} {Q : s_O → Prop} {h : s_H} {kc ks : Nat} {r0 : Term} {x1 x2 x3 : Int} {t4 t5 t6 t7 t8 t9 t10 : Term}  (k : Q (.inl (some (vi 0)), h, kc, ks))   : wr P d sw_c554 sw_h554 (36, [r0, vi x1, vi x2, vi x3, t4, t5, t6, t7, t8, t9, t10], [], h, kc, ks) Q := by
  refine w_c32 rfl (by decide) 0 (by decide) ?_
  exact w_zret rfl (by decide) k

theorem k554_38 {P : s_P} {d : Nat} {Q : s_O → Prop} {h : s_H} {kc ks : Nat} {r0 : Term} {x1 x2 x3 : Int} {t4 t5 t6 t7 t8 t9 t10 : Term} {q2 : Nat} {f3 : List Term} {v5 : Term} {q7 : Nat} {a8 : List Int} (g4 : s_get h q2 = some (1, 11, f3)) (g9 : s_get h q7 = some (0, 0, a8.map vi)) (k1 : x3 ≠ 2 → wr P d sw_c554 sw_h554 (66, [.index q2, vi x1, vi x2, vi x3, vl (gi a8 (x1 + 1)), .result, t6, t7, t8, t9, t10], [], h, kc, ks) Q) (k2 : ¬ x3 ≠ 2 → wr P d sw_c554 sw_h554 (54, [.index q2, vi x1, vi x2, vi x3, vl (gi a8 (x1 + 1)), .result, t6, t7, t8, t9, t10], [], h, kc, ks) Q) (e_q2 : r0 = .index q2 := by first | rfl | assumption) (e_q7 : v5 = .index q7 := by first | rfl | assumption) (y1 : s_ty r0 = 3 := by first | rfl | assumption) (n6 : s_nth f3 84 = some v5 := by first | rfl | assumption) (c10 : x1 + 1 < a8.length := by first | omega | assumption | (simp only [mk_len, List.length_map]; omega) | decide) (c11 : 0 ≤ x1 + 1 := by first | omega | assumption | (simp only [mk_len, List.length_map]; omega) | decide) (c12 : In3 (x1 + 1) := by first | omega | assumption | (simp only [mk_len, List.length_map]; omega) | decide) (c13 : In3 (gi a8 (x1 + 1)) := by first | omega | assumption | (simp only [mk_len, List.length_map]; omega) | decide) (c14 : In3 x3 := by first | omega | assumption | (simp only [mk_len, List.length_map]; omega) | decide) : wr P d sw_c554 sw_h554 (38, [r0, vi x1, vi x2, vi x3, t4, t5, t6, t7, t8, t9, t10], [], h, kc, ks) Q := by
  refine w_ld rfl rfl (Or.inr (Or.inr ⟨by decide, y1⟩)) ?_
  subst e_q2
  refine w_getf rfl g4 n6 ?_
  refine w_ld rfl rfl (Or.inl ⟨by decide, rfl⟩) ?_
  refine w_c32 rfl (by decide) 1 (by decide) ?_
  refine w_iadd rfl ?_
  subst e_q7
  refine w_iald rfl g9 (Or.inl rfl) c12 c11 c10 ?_
  refine w_i2l rfl c13 ?_
  refine w_stl (ls' := [.index q2, vi x1, vi x2, vi x3, vl (gi a8 (x1 + 1)), t5, t6, t7, t8, t9, t10]) (ls'' := [.index q2, vi x1, vi x2, vi x3, vl (gi a8 (x1 + 1)), .result, t6, t7, t8, t9, t10]) rfl ⟨by decide, rfl⟩ rfl rfl ?_
  refine w_ld rfl rfl (Or.inl ⟨by decide, rfl⟩) ?_
  refine w_c32 rfl (by decide) 2 (by decide) ?_
  exact w_if2 rfl c14 (by decide) k1 k2

theorem k554_54 {P : s_P} {d : Nat} {Q : s_O → Prop} {h : s_H} {kc ks : Nat} {r0 : Term} {x1 x2 x3 x4 : Int} {t5 t6 t7 t8 t9 t10 : Term} {q2 : Nat} {f3 : List Term} {v5 : Term} {q7 : Nat} {a8 : List Int} (g4 : s_get h q2 = some (1, 11, f3)) (g9 : s_get h q7 = some (0, 0, a8.map vi)) (k : wr P d sw_c554 sw_h554 (67, [.index q2, vi x1, vi x2, vi x3, vl x4, t5, t6, t7, t8, t9, t10], [vl (gi a8 (x1 + 2))], h, kc, ks) Q) (e_q2 : r0 = .index q2 := by first | rfl | assumption) (e_q7 : v5 = .index q7 := by first | rfl | assumption) (y1 : s_ty r0 = 3 := by first | rfl | assumption) (n6 : s_nth f3 84 = some v5 := by first | rfl | assumption) (c10 : x1 + 2 < a8.length := by first | omega | assumption | (simp only [mk_len, List.length_map]; omega) | decide) (c11 : 0 ≤ x1 + 2 := by first | omega | assumption | (simp only [mk_len, List.length_map]; omega) | decide) (c12 : In3 (x1 + 2) := by first | omega | assumption | (simp only [mk_len, List.length_map]; omega) | decide) (c13 : In3 (gi a8 (x1 + 2)) := by first | omega | assumption | (simp only [mk_len, List.length_map]; omega) | decide) : wr P d sw_c554 sw_h554 (54, [r0, vi x1, vi x2, vi x3, vl x4, t5, t6, t7, t8, t9, t10], [], h, kc, ks) Q := by
  refine w_ld rfl rfl (Or.inr (Or.inr ⟨by decide, y1⟩)) ?_
  subst e_q2
  refine w_getf rfl g4 n6 ?_
  refine w_ld rfl rfl (Or.inl ⟨by decide, rfl⟩) ?_
  refine w_c32 rfl (by decide) 2 (by decide) ?_
  refine w_iadd rfl ?_
  subst e_q7
  refine w_iald rfl g9 (Or.inl rfl) c12 c11 c10 ?_
  refine w_i2l rfl c13 ?_
  refine w_goto rfl ?_
  exact k

theorem k554_66 {P : s_P} {d : Nat} {Q : s_O → Prop} {h : s_H} {kc ks : Nat} {r0 : Term} {x1 x2 x3 x4 : Int} {t5 t6 t7 t8 t9 t10 : Term}  (k : wr P d sw_c554 sw_h554 (67, [r0, vi x1, vi x2, vi x3, vl x4, t5, t6, t7, t8, t9, t10], [vl 0], h, kc, ks) Q)   : wr P d sw_c554 sw_h554 (66, [r0, vi x1, vi x2, vi x3, vl x4, t5, t6, t7, t8, t9, t10], [], h, kc, ks) Q := by
  refine w_c64 rfl (by decide) 0 (by decide) ?_
  exact k

theorem k554_67 {P : s_P} {d : Nat} {Q : s_O → Prop} {h : s_H} {kc ks : Nat} {r0 : Term} {x1 x2 x3 x4 : Int} {t5 t6 t7 t8 t9 t10 : Term} {s0 : Int}  (k1 : x2 ≠ 5 → wr P d sw_c554 sw_h554 (83, [r0, vi x1, vi x2, vi x3, vl x4, (s_uu t5), vl s0, .result, t8, t9, t10], [], h, kc, ks) Q) (k2 : ¬ x2 ≠ 5 → wr P d sw_c554 sw_h554 (74, [r0, vi x1, vi x2, vi x3, vl x4, (s_uu t5), vl s0, .result, t8, t9, t10], [], h, kc, ks) Q)  (c1 : In3 x2 := by first | omega | assumption | (simp only [mk_len, List.length_map]; omega) | decide) : wr P d sw_c554 sw_h554 (67, [r0, vi x1, vi x2, vi x3, vl x4, t5, t6, t7, t8, t9, t10], [vl s0], h, kc, ks) Q := by
  refine w_stl (ls' := [r0, vi x1, vi x2, vi x3, vl x4, (s_uu t5), vl s0, t7, t8, t9, t10]) (ls'' := [r0, vi x1, vi x2, vi x3, vl x4, (s_uu t5), vl s0, .result, t8, t9, t10]) rfl ⟨by decide, rfl⟩ (s_stK_t (pre := [r0, vi x1, vi x2, vi x3, vl x4])) rfl ?_
  refine w_ld rfl rfl (Or.inl ⟨by decide, rfl⟩) ?_
  refine w_c32 rfl (by decide) 5 (by decide) ?_
  exact w_if2 rfl c1 (by decide) k1 k2

theorem k554_74 {P : s_P} {d : Nat} {Q : s_O → Prop} {h : s_H} {kc ks : Nat} {r0 : Term} {x1 x2 x3 x4 : Int} {t5 : Term} {x6 : Int} {t7 t8 t9 t10 : Term}  (k1 : x6 ≠ 0 → wr P d sw_c554 sw_h554 (83, [r0, vi x1, vi x2, vi x3, vl x4, t5, vl x6, t7, t8, t9, t10], [], h, kc, ks) Q) (k2 : ¬ x6 ≠ 0 → wr P d sw_c554 sw_h554 (81, [r0, vi x1, vi x2, vi x3, vl x4, t5, vl x6, t7, t8, t9, t10], [], h, kc, ks) Q)  (c1 : In6 x6 := by first | omega | assumption | (simp only [mk_len, List.length_map]; omega) | decide) : wr P d sw_c554 sw_h554 (74, [r0, vi x1, vi x2, vi x3, vl x4, t5, vl x6, t7, t8, t9, t10], [], h, kc, ks) Q := by
  refine w_ld rfl rfl (Or.inr (Or.inl ⟨by decide, rfl⟩)) ?_
  refine w_c64 rfl (by decide) 0 (by decide) ?_
  exact w_lcmp rfl rfl c1 (by decide) k1 k2

theorem k554_81 {P : s_P} {d : Nat} {Q : s_O → Prop} {h : s_H} {kc ks : Nat} {r0 : Term} {x1 x2 x3 x4 : Int} {t5 : Term} {x6 : Int} {t7 t8 t9 t10 : Term}  (k : Q (.inl (some (vi 0)), h, kc, ks))   : wr P d sw_c554 sw_h554 (81, [r0, vi x1, vi x2, vi x3, vl x4, t5, vl x6, t7, t8, t9, t10], [], h, kc, ks) Q := by
  refine w_c32 rfl (by decide) 0 (by decide) ?_
  exact w_zret rfl (by decide) k

theorem k554_83 {P : s_P} {d : Nat} {Q : s_O → Prop} {h : s_H} {kc ks : Nat} {r0 : Term} {x1 x2 x3 x4 : Int} {t5 : Term} {x6 : Int} {t7 t8 t9 t10 : Term}  (k : wr P d sw_c554 sw_h554 (89, [r0, vi x1, vi x2, vi x3, vl x4, t5, vl x6, (s_uu t7), vl 1, .result, vi 0], [], h, kc, ks) Q)   : wr P d sw_c554 sw_h554 (83, [r0, vi x1, vi x2, vi x3, vl x4, t5, vl x6, t7, t8, t9, t10], [], h, kc, ks) Q := by
  refine w_c64 rfl (by decide) 1 (by decide) ?_
  refine w_stl (ls' := [r0, vi x1, vi x2, vi x3, vl x4, t5, vl x6, (s_uu t7), vl 1, t9, t10]) (ls'' := [r0, vi x1, vi x2, vi x3, vl x4, t5, vl x6, (s_uu t7), vl 1, .result, t10]) rfl ⟨by decide, rfl⟩ (s_stK_t (pre := [r0, vi x1, vi x2, vi x3, vl x4, t5, vl x6])) rfl ?_
  refine w_c32 rfl (by decide) 0 (by decide) ?_
  refine w_st (ls' := [r0, vi x1, vi x2, vi x3, vl x4, t5, vl x6, (s_uu t7), vl 1, .result, vi 0]) rfl (Or.inl ⟨by decide, rfl⟩) rfl ?_
  exact k

theorem k554_89 {P : s_P} {d : Nat} {Q : s_O → Prop} {h : s_H} {kc ks : Nat} {r0 : Term} {x1 x2 x3 x4 : Int} {t5 : Term} {x6 : Int} {t7 : Term} {x8 : Int} {t9 : Term} {x10 : Int} {q2 : Nat} {f3 : List Term} {v5 : Term} {q7 : Nat} {a8 : List Int} (g4 : s_get h q2 = some (1, 11, f3)) (g9 : s_get h q7 = some (0, 0, a8.map vi)) (k1 : gi a8 x1 ≤ x10 → wr P d sw_c554 sw_h554 (123, [.index q2, vi x1, vi x2, vi x3, vl x4, t5, vl x6, t7, vl x8, t9, vi x10], [], h, kc, ks) Q) (k2 : ¬ gi a8 x1 ≤ x10 → wr P d sw_c554 sw_h554 (100, [.index q2, vi x1, vi x2, vi x3, vl x4, t5, vl x6, t7, vl x8, t9, vi x10], [], h, kc, ks) Q) (e_q2 : r0 = .index q2 := by first | rfl | assumption) (e_q7 : v5 = .index q7 := by first | rfl | assumption) (y1 : s_ty r0 = 3 := by first | rfl | assumption) (n6 : s_nth f3 84 = some v5 := by first | rfl | assumption) (c10 : x1 < a8.length := by first | omega | assumption | (simp only [mk_len, List.length_map]; omega) | decide) (c11 : 0 ≤ x1 := by first | omega | assumption | (simp only [mk_len, List.length_map]; omega) | decide) (c12 : In3 x1 := by first | omega | assumption | (simp only [mk_len, List.length_map]; omega) | decide) (c13 : In3 x10 := by first | omega | assumption | (simp only [mk_len, List.length_map]; omega) | decide) (c14 : In3 (gi a8 x1) := by first | omega | assumption | (simp only [mk_len, List.length_map]; omega) | decide) : wr P d sw_c554 sw_h554 (89, [r0, vi x1, vi x2, vi x3, vl x4, t5, vl x6, t7, vl x8, t9, vi x10], [], h, kc, ks) Q := by
  refine w_ld rfl rfl (Or.inl ⟨by decide, rfl⟩) ?_
  refine w_ld rfl rfl (Or.inr (Or.inr ⟨by decide, y1⟩)) ?_
  subst e_q2
  refine w_getf rfl g4 n6 ?_
  refine w_ld rfl rfl (Or.inl ⟨by decide, rfl⟩) ?_
  subst e_q7
  refine w_iald rfl g9 (Or.inl rfl) c12 c11 c10 ?_
  exact w_if2 rfl c13 c14 k1 k2

theorem k554_100 {P : s_P} {d : Nat} {Q : s_O → Prop} {h : s_H} {kc ks : Nat} {r0 : Term} {x1 x2 x3 x4 : Int} {t5 : Term} {x6 : Int} {t7 : Term} {x8 : Int} {t9 : Term} {x10 : Int}  (k1 : x2 ≠ 7 → wr P d sw_c554 sw_h554 (123, [r0, vi x1, vi x2, vi x3, vl x4, t5, vl x6, t7, vl x8, t9, vi x10], [], h, kc, ks) Q) (k2 : ¬ x2 ≠ 7 → wr P d sw_c554 sw_h554 (106, [r0, vi x1, vi x2, vi x3, vl x4, t5, vl x6, t7, vl x8, t9, vi x10], [], h, kc, ks) Q)  (c1 : In3 x2 := by first | omega | assumption | (simp only [mk_len, List.length_map]; omega) | decide) : wr P d sw_c554 sw_h554 (100, [r0, vi x1, vi x2, vi x3, vl x4, t5, vl x6, t7, vl x8, t9, vi x10], [], h, kc, ks) Q := by
  refine w_ld rfl rfl (Or.inl ⟨by decide, rfl⟩) ?_
  refine w_c32 rfl (by decide) 7 (by decide) ?_
  exact w_if2 rfl c1 (by decide) k1 k2

theorem k554_106 {P : s_P} {d : Nat} {Q : s_O → Prop} {h : s_H} {kc ks : Nat} {r0 : Term} {x1 x2 x3 x4 : Int} {t5 : Term} {x6 : Int} {t7 : Term} {x8 : Int} {t9 : Term} {x10 : Int}  (k : wr P d sw_c554 sw_h554 (89, [r0, vi x1, vi x2, vi x3, vl x4, t5, vl x6, (s_uu t7), vl (Int.tmod (x8 * x4) 32003), .result, vi (x10 + 1)], [], h, kc, ks) Q)  (c1 : In6 (x8 * x4) := by first | omega | assumption | (simp only [mk_len, List.length_map]; omega) | decide) : wr P d sw_c554 sw_h554 (106, [r0, vi x1, vi x2, vi x3, vl x4, t5, vl x6, t7, vl x8, t9, vi x10], [], h, kc, ks) Q := by
  refine w_ld rfl rfl (Or.inr (Or.inl ⟨by decide, rfl⟩)) ?_
  refine w_ld rfl rfl (Or.inr (Or.inl ⟨by decide, rfl⟩)) ?_
  refine w_lmul rfl ?_
  refine w_c64 rfl (by decide) 32003 (by decide) ?_
  refine w_lrem rfl c1 (by decide) (by decide) ?_
  refine w_stl (ls' := [r0, vi x1, vi x2, vi x3, vl x4, t5, vl x6, (s_uu t7), vl (Int.tmod (x8 * x4) 32003), t9, vi x10]) (ls'' := [r0, vi x1, vi x2, vi x3, vl x4, t5, vl x6, (s_uu t7), vl (Int.tmod (x8 * x4) 32003), .result, vi x10]) rfl ⟨by decide, rfl⟩ (s_stK_t (pre := [r0, vi x1, vi x2, vi x3, vl x4, t5, vl x6])) rfl ?_
  refine w_iinc (ls' := [r0, vi x1, vi x2, vi x3, vl x4, t5, vl x6, (s_uu t7), vl (Int.tmod (x8 * x4) 32003), .result, vi (x10 + 1)]) rfl rfl 1 (by decide) rfl ?_
  refine w_goto rfl ?_
  exact k

theorem k554_123 {P : s_P} {d : Nat} {Q : s_O → Prop} {h : s_H} {kc ks : Nat} {r0 : Term} {x1 x2 x3 x4 : Int} {t5 : Term} {x6 : Int} {t7 : Term} {x8 : Int} {t9 : Term} {x10 : Int}  (k1 : x2 ≠ 2 → wr P d sw_c554 sw_h554 (135, [r0, vi x1, vi x2, vi x3, vl x4, t5, vl x6, t7, vl x8, t9, vi x10], [], h, kc, ks) Q) (k2 : ¬ x2 ≠ 2 → wr P d sw_c554 sw_h554 (128, [r0, vi x1, vi x2, vi x3, vl x4, t5, vl x6, t7, vl x8, t9, vi x10], [], h, kc, ks) Q)  (c1 : In3 x2 := by first | omega | assumption | (simp only [mk_len, List.length_map]; omega) | decide) : wr P d sw_c554 sw_h554 (123, [r0, vi x1, vi x2, vi x3, vl x4, t5, vl x6, t7, vl x8, t9, vi x10], [], h, kc, ks) Q := by
  refine w_ld rfl rfl (Or.inl ⟨by decide, rfl⟩) ?_
  refine w_c32 rfl (by decide) 2 (by decide) ?_
  exact w_if2 rfl c1 (by decide) k1 k2

theorem k554_128 {P : s_P} {d : Nat} {Q : s_O → Prop} {h : s_H} {kc ks : Nat} {r0 : Term} {x1 x2 x3 x4 : Int} {t5 : Term} {x6 : Int} {t7 : Term} {x8 : Int} {t9 : Term} {x10 : Int}  (k : wr P d sw_c554 sw_h554 (135, [r0, vi x1, vi x2, vi x3, vl x4, t5, vl x6, (s_uu t7), vl (x4 + x6), .result, vi x10], [], h, kc, ks) Q)   : wr P d sw_c554 sw_h554 (128, [r0, vi x1, vi x2, vi x3, vl x4, t5, vl x6, t7, vl x8, t9, vi x10], [], h, kc, ks) Q := by
  refine w_ld rfl rfl (Or.inr (Or.inl ⟨by decide, rfl⟩)) ?_
  refine w_ld rfl rfl (Or.inr (Or.inl ⟨by decide, rfl⟩)) ?_
  refine w_ladd rfl ?_
  refine w_stl (ls' := [r0, vi x1, vi x2, vi x3, vl x4, t5, vl x6, (s_uu t7), vl (x4 + x6), t9, vi x10]) (ls'' := [r0, vi x1, vi x2, vi x3, vl x4, t5, vl x6, (s_uu t7), vl (x4 + x6), .result, vi x10]) rfl ⟨by decide, rfl⟩ (s_stK_t (pre := [r0, vi x1, vi x2, vi x3, vl x4, t5, vl x6])) rfl ?_
  exact k

theorem k554_135 {P : s_P} {d : Nat} {Q : s_O → Prop} {h : s_H} {kc ks : Nat} {r0 : Term} {x1 x2 x3 x4 : Int} {t5 : Term} {x6 : Int} {t7 : Term} {x8 : Int} {t9 : Term} {x10 : Int}  (k1 : x2 ≠ 3 → wr P d sw_c554 sw_h554 (147, [r0, vi x1, vi x2, vi x3, vl x4, t5, vl x6, t7, vl x8, t9, vi x10], [], h, kc, ks) Q) (k2 : ¬ x2 ≠ 3 → wr P d sw_c554 sw_h554 (140, [r0, vi x1, vi x2, vi x3, vl x4, t5, vl x6, t7, vl x8, t9, vi x10], [], h, kc, ks) Q)  (c1 : In3 x2 := by first | omega | assumption | (simp only [mk_len, List.length_map]; omega) | decide) : wr P d sw_c554 sw_h554 (135, [r0, vi x1, vi x2, vi x3, vl x4, t5, vl x6, t7, vl x8, t9, vi x10], [], h, kc, ks) Q := by
  refine w_ld rfl rfl (Or.inl ⟨by decide, rfl⟩) ?_
  refine w_c32 rfl (by decide) 3 (by decide) ?_
  exact w_if2 rfl c1 (by decide) k1 k2

theorem k554_140 {P : s_P} {d : Nat} {Q : s_O → Prop} {h : s_H} {kc ks : Nat} {r0 : Term} {x1 x2 x3 x4 : Int} {t5 : Term} {x6 : Int} {t7 : Term} {x8 : Int} {t9 : Term} {x10 : Int}  (k : wr P d sw_c554 sw_h554 (147, [r0, vi x1, vi x2, vi x3, vl x4, t5, vl x6, (s_uu t7), vl (x4 - x6), .result, vi x10], [], h, kc, ks) Q)   : wr P d sw_c554 sw_h554 (140, [r0, vi x1, vi x2, vi x3, vl x4, t5, vl x6, t7, vl x8, t9, vi x10], [], h, kc, ks) Q := by
  refine w_ld rfl rfl (Or.inr (Or.inl ⟨by decide, rfl⟩)) ?_
  refine w_ld rfl rfl (Or.inr (Or.inl ⟨by decide, rfl⟩)) ?_
  refine w_lsub rfl ?_
  refine w_stl (ls' := [r0, vi x1, vi x2, vi x3, vl x4, t5, vl x6, (s_uu t7), vl (x4 - x6), t9, vi x10]) (ls'' := [r0, vi x1, vi x2, vi x3, vl x4, t5, vl x6, (s_uu t7), vl (x4 - x6), .result, vi x10]) rfl ⟨by decide, rfl⟩ (s_stK_t (pre := [r0, vi x1, vi x2, vi x3, vl x4, t5, vl x6])) rfl ?_
  exact k

theorem k554_147 {P : s_P} {d : Nat} {Q : s_O → Prop} {h : s_H} {kc ks : Nat} {r0 : Term} {x1 x2 x3 x4 : Int} {t5 : Term} {x6 : Int} {t7 : Term} {x8 : Int} {t9 : Term} {x10 : Int}  (k1 : x2 ≠ 4 → wr P d sw_c554 sw_h554 (159, [r0, vi x1, vi x2, vi x3, vl x4, t5, vl x6, t7, vl x8, t9, vi x10], [], h, kc, ks) Q) (k2 : ¬ x2 ≠ 4 → wr P d sw_c554 sw_h554 (152, [r0, vi x1, vi x2, vi x3, vl x4, t5, vl x6, t7, vl x8, t9, vi x10], [], h, kc, ks) Q)  (c1 : In3 x2 := by first | omega | assumption | (simp only [mk_len, List.length_map]; omega) | decide) : wr P d sw_c554 sw_h554 (147, [r0, vi x1, vi x2, vi x3, vl x4, t5, vl x6, t7, vl x8, t9, vi x10], [], h, kc, ks) Q := by
  refine w_ld rfl rfl (Or.inl ⟨by decide, rfl⟩) ?_
  refine w_c32 rfl (by decide) 4 (by decide) ?_
  exact w_if2 rfl c1 (by decide) k1 k2

theorem k554_152 {P : s_P} {d : Nat} {Q : s_O → Prop} {h : s_H} {kc ks : Nat} {r0 : Term} {x1 x2 x3 x4 : Int} {t5 : Term} {x6 : Int} {t7 : Term} {x8 : Int} {t9 : Term} {x10 : Int}  (k : wr P d sw_c554 sw_h554 (159, [r0, vi x1, vi x2, vi x3, vl x4, t5, vl x6, (s_uu t7), vl (x4 * x6), .result, vi x10], [], h, kc, ks) Q)   : wr P d sw_c554 sw_h554 (152, [r0, vi x1, vi x2, vi x3, vl x4, t5, vl x6, t7, vl x8, t9, vi x10], [], h, kc, ks) Q := by
  refine w_ld rfl rfl (Or.inr (Or.inl ⟨by decide, rfl⟩)) ?_
  refine w_ld rfl rfl (Or.inr (Or.inl ⟨by decide, rfl⟩)) ?_
  refine w_lmul rfl ?_
  refine w_stl (ls' := [r0, vi x1, vi x2, vi x3, vl x4, t5, vl x6, (s_uu t7), vl (x4 * x6), t9, vi x10]) (ls'' := [r0, vi x1, vi x2, vi x3, vl x4, t5, vl x6, (s_uu t7), vl (x4 * x6), .result, vi x10]) rfl ⟨by decide, rfl⟩ (s_stK_t (pre := [r0, vi x1, vi x2, vi x3, vl x4, t5, vl x6])) rfl ?_
  exact k

theorem k554_159 {P : s_P} {d : Nat} {Q : s_O → Prop} {h : s_H} {kc ks : Nat} {r0 : Term} {x1 x2 x3 x4 : Int} {t5 : Term} {x6 : Int} {t7 : Term} {x8 : Int} {t9 : Term} {x10 : Int}  (k1 : x2 ≠ 5 → wr P d sw_c554 sw_h554 (174, [r0, vi x1, vi x2, vi x3, vl x4, t5, vl x6, t7, vl x8, t9, vi x10], [], h, kc, ks) Q) (k2 : ¬ x2 ≠ 5 → wr P d sw_c554 sw_h554 (164, [r0, vi x1, vi x2, vi x3, vl x4, t5, vl x6, t7, vl x8, t9, vi x10], [], h, kc, ks) Q)  (c1 : In3 x2 := by first | omega | assumption | (simp only [mk_len, List.length_map]; omega) | decide) : wr P d sw_c554 sw_h554 (159, [r0, vi x1, vi x2, vi x3, vl x4, t5, vl x6, t7, vl x8, t9, vi x10], [], h, kc, ks) Q := by
  refine w_ld rfl rfl (Or.inl ⟨by decide, rfl⟩) ?_
  refine w_c32 rfl (by decide) 5 (by decide) ?_
  exact w_if2 rfl c1 (by decide) k1 k2

theorem k554_164 {P : s_P} {d : Nat} {Q : s_O → Prop} {h : s_H} {kc ks : Nat} {r0 : Term} {x1 x2 x3 x4 : Int} {t5 : Term} {x6 : Int} {t7 : Term} {x8 : Int} {t9 : Term} {x10 : Int}  (k : wm P d 467 [vl x6] h (wq P d sw_c554 sw_h554 171 [r0, vi x1, vi x2, vi x3, vl x4, t5, vl x6, t7, vl x8, t9, vi x10] [vl x4] kc ks Q))   : wr P d sw_c554 sw_h554 (164, [r0, vi x1, vi x2, vi x3, vl x4, t5, vl x6, t7, vl x8, t9, vi x10], [], h, kc, ks) Q := by
  refine w_ld rfl rfl (Or.inr (Or.inl ⟨by decide, rfl⟩)) ?_
  refine w_ld rfl rfl (Or.inr (Or.inl ⟨by decide, rfl⟩)) ?_
  exact w_cs rfl [vl x6] [vl x4] rfl rfl (s_wt_4 rfl) k

theorem k554_171 {P : s_P} {d : Nat} {Q : s_O → Prop} {h : s_H} {kc ks : Nat} {r0 : Term} {x1 x2 x3 x4 : Int} {t5 : Term} {x6 : Int} {t7 : Term} {x8 : Int} {t9 : Term} {x10 s0 s1 : Int}  (k : wr P d sw_c554 sw_h554 (174, [r0, vi x1, vi x2, vi x3, vl x4, t5, vl x6, (s_uu t7), vl (s0 * s1), .result, vi x10], [], h, kc, ks) Q)   : wr P d sw_c554 sw_h554 (171, [r0, vi x1, vi x2, vi x3, vl x4, t5, vl x6, t7, vl x8, t9, vi x10], [vl s1, vl s0], h, kc, ks) Q := by
  refine w_lmul rfl ?_
  refine w_stl (ls' := [r0, vi x1, vi x2, vi x3, vl x4, t5, vl x6, (s_uu t7), vl (s0 * s1), t9, vi x10]) (ls'' := [r0, vi x1, vi x2, vi x3, vl x4, t5, vl x6, (s_uu t7), vl (s0 * s1), .result, vi x10]) rfl ⟨by decide, rfl⟩ (s_stK_t (pre := [r0, vi x1, vi x2, vi x3, vl x4, t5, vl x6])) rfl ?_
  exact k

theorem k554_174 {P : s_P} {d : Nat} {Q : s_O → Prop} {h : s_H} {kc ks : Nat} {r0 : Term} {x1 x2 x3 x4 : Int} {t5 : Term} {x6 : Int} {t7 : Term} {x8 : Int} {t9 : Term} {x10 : Int}  (k1 : x2 ≠ 6 → wr P d sw_c554 sw_h554 (185, [r0, vi x1, vi x2, vi x3, vl x4, t5, vl x6, t7, vl x8, t9, vi x10], [], h, kc, ks) Q) (k2 : ¬ x2 ≠ 6 → wr P d sw_c554 sw_h554 (180, [r0, vi x1, vi x2, vi x3, vl x4, t5, vl x6, t7, vl x8, t9, vi x10], [], h, kc, ks) Q)  (c1 : In3 x2 := by first | omega | assumption | (simp only [mk_len, List.length_map]; omega) | decide) : wr P d sw_c554 sw_h554 (174, [r0, vi x1, vi x2, vi x3, vl x4, t5, vl x6, t7, vl x8, t9, vi x10], [], h, kc, ks) Q := by
  refine w_ld rfl rfl (Or.inl ⟨by decide, rfl⟩) ?_
  refine w_c32 rfl (by decide) 6 (by decide) ?_
  exact w_if2 rfl c1 (by decide) k1 k2

theorem k554_180 {P : s_P} {d : Nat} {Q : s_O → Prop} {h : s_H} {kc ks : Nat} {r0 : Term} {x1 x2 x3 x4 : Int} {t5 : Term} {x6 : Int} {t7 : Term} {x8 : Int} {t9 : Term} {x10 : Int}  (k : wr P d sw_c554 sw_h554 (185, [r0, vi x1, vi x2, vi x3, vl x4, t5, vl x6, (s_uu t7), vl (-x4), .result, vi x10], [], h, kc, ks) Q)   : wr P d sw_c554 sw_h554 (180, [r0, vi x1, vi x2, vi x3, vl x4, t5, vl x6, t7, vl x8, t9, vi x10], [], h, kc, ks) Q := by
  refine w_ld rfl rfl (Or.inr (Or.inl ⟨by decide, rfl⟩)) ?_
  refine w_lneg rfl ?_
  refine w_stl (ls' := [r0, vi x1, vi x2, vi x3, vl x4, t5, vl x6, (s_uu t7), vl (-x4), t9, vi x10]) (ls'' := [r0, vi x1, vi x2, vi x3, vl x4, t5, vl x6, (s_uu t7), vl (-x4), .result, vi x10]) rfl ⟨by decide, rfl⟩ (s_stK_t (pre := [r0, vi x1, vi x2, vi x3, vl x4, t5, vl x6])) rfl ?_
  exact k

theorem k554_185 {P : s_P} {d : Nat} {Q : s_O → Prop} {h : s_H} {kc ks : Nat} {r0 : Term} {x1 x2 x3 x4 : Int} {t5 : Term} {x6 : Int} {t7 : Term} {x8 : Int} {t9 : Term} {x10 : Int}  (k : wm P d 528 [vl x8] h (wq P d sw_c554 sw_h554 192 [r0, vi x1, vi x2, vi x3, vl x4, t5, vl x6, t7, vl x8, t9, vi x10] [vi 0, r0] kc ks Q)) (y1 : s_ty r0 = 3 := by first | rfl | assumption)  : wr P d sw_c554 sw_h554 (185, [r0, vi x1, vi x2, vi x3, vl x4, t5, vl x6, t7, vl x8, t9, vi x10], [], h, kc, ks) Q := by
  refine w_ld rfl rfl (Or.inr (Or.inr ⟨by decide, y1⟩)) ?_
  refine w_c32 rfl (by decide) 0 (by decide) ?_
  refine w_ld rfl rfl (Or.inr (Or.inl ⟨by decide, rfl⟩)) ?_
  exact w_cs rfl [vl x8] [vi 0, r0] rfl rfl (s_wt_4 rfl) k

theorem k554_192 {P : s_P} {d : Nat} {Q : s_O → Prop} {h : s_H} {kc ks : Nat} {r0 : Term} {x1 x2 x3 x4 : Int} {t5 : Term} {x6 : Int} {t7 : Term} {x8 : Int} {t9 : Term} {x10 : Int} {s0 : Term} {s1 s2 : Int} {q1 : Nat} {f2 : List Term} (g3 : s_get h q1 = some (1, 11, f2)) (k : wm P d 549 [.index q1, vi s1, vi s2] h (wq P d sw_c554 sw_h554 196 [r0, vi x1, vi x2, vi x3, vl x4, t5, vl x6, t7, vl x8, t9, vi x10] [] kc ks Q)) (e_q1 : s0 = .index q1 := by first | rfl | assumption)  : wr P d sw_c554 sw_h554 (192, [r0, vi x1, vi x2, vi x3, vl x4, t5, vl x6, t7, vl x8, t9, vi x10], [vl s2, vi s1, s0], h, kc, ks) Q := by
  refine w_l2i rfl ?_
  subst e_q1
  exact w_cv rfl [.index q1, vi s1, vi s2] [] rfl rfl (s_wt_4 rfl) rfl g3 k

theorem k554_196 {P : s_P} {d : Nat} {Q : s_O → Prop} {h : s_H} {kc ks : Nat} {r0 : Term} {x1 x2 x3 x4 : Int} {t5 : Term} {x6 : Int} {t7 : Term} {x8 : Int} {t9 : Term} {x10 : Int}  (k : Q (.inl (some (vi 1)), h, kc, ks))   : wr P d sw_c554 sw_h554 (196, [r0, vi x1, vi x2, vi x3, vl x4, t5, vl x6, t7, vl x8, t9, vi x10], [], h, kc, ks) Q := by
  refine w_c32 rfl (by decide) 1 (by decide) ?_
  exact w_zret rfl (by decide) k

/-! 555: FormulaWorksModel.plantsOne(III)Z -/
theorem k555_0 {P : s_P} {d : Nat} {Q : s_O → Prop} {h : s_H} {kc ks : Nat} {r0 : Term} {x1 x2 x3 : Int} {t4 : Term} {q2 : Nat} {f3 : List Term} (g4 : s_get h q2 = some (1, 11, f3)) (k : wm P d 407 [.index q2, vi x1] h (wq P d sw_c555 sw_h555 5 [.index q2, vi x1, vi x2, vi x3, t4] [] kc ks Q)) (e_q2 : r0 = .index q2 := by first | rfl | assumption) (y1 : s_ty r0 = 3 := by first | rfl | assumption)  : wr P d sw_c555 sw_h555 (0, [r0, vi x1, vi x2, vi x3, t4], [], h, kc, ks) Q := by
  refine w_ld rfl rfl (Or.inr (Or.inr ⟨by decide, y1⟩)) ?_
  refine w_ld rfl rfl (Or.inl ⟨by decide, rfl⟩) ?_
  subst e_q2
  exact w_cv rfl [.index q2, vi x1] [] rfl rfl (s_wt_4 rfl) rfl g4 k

theorem k555_5 {P : s_P} {d : Nat} {Q : s_O → Prop} {h : s_H} {kc ks : Nat} {r0 : Term} {x1 x2 x3 : Int} {t4 : Term} {s0 : Int}  (k1 : x2 ≠ 7 → wr P d sw_c555 sw_h555 (45, [r0, vi x1, vi x2, vi x3, vi s0], [], h, kc, ks) Q) (k2 : ¬ x2 ≠ 7 → wr P d sw_c555 sw_h555 (13, [r0, vi x1, vi x2, vi x3, vi s0], [], h, kc, ks) Q)  (c1 : In3 x2 := by first | omega | assumption | (simp only [mk_len, List.length_map]; omega) | decide) : wr P d sw_c555 sw_h555 (5, [r0, vi x1, vi x2, vi x3, t4], [vi s0], h, kc, ks) Q := by
  refine w_st (ls' := [r0, vi x1, vi x2, vi x3, vi s0]) rfl (Or.inl ⟨by decide, rfl⟩) rfl ?_
  refine w_ld rfl rfl (Or.inl ⟨by decide, rfl⟩) ?_
  refine w_c32 rfl (by decide) 7 (by decide) ?_
  exact w_if2 rfl c1 (by decide) k1 k2

theorem k555_13 {P : s_P} {d : Nat} {Q : s_O → Prop} {h : s_H} {kc ks : Nat} {r0 : Term} {x1 x2 x3 x4 : Int}  (k1 : x3 ≠ 6 → wr P d sw_c555 sw_h555 (32, [r0, vi x1, vi x2, vi x3, vi x4], [], h, kc, ks) Q) (k2 : ¬ x3 ≠ 6 → wr P d sw_c555 sw_h555 (19, [r0, vi x1, vi x2, vi x3, vi x4], [], h, kc, ks) Q)  (c1 : In3 x3 := by first | omega | assumption | (simp only [mk_len, List.length_map]; omega) | decide) : wr P d sw_c555 sw_h555 (13, [r0, vi x1, vi x2, vi x3, vi x4], [], h, kc, ks) Q := by
  refine w_ld rfl rfl (Or.inl ⟨by decide, rfl⟩) ?_
  refine w_c32 rfl (by decide) 6 (by decide) ?_
  exact w_if2 rfl c1 (by decide) k1 k2

theorem k555_19 {P : s_P} {d : Nat} {Q : s_O → Prop} {h : s_H} {kc ks : Nat} {r0 : Term} {x1 x2 x3 x4 : Int} {q2 : Nat} {f3 : List Term} {v5 : Term} {q7 : Nat} {a8 : List Int} (g4 : s_get h q2 = some (1, 11, f3)) (g9 : s_get h q7 = some (0, 0, a8.map vi)) (k1 : gi a8 (x1 + 1) = 6 → wr P d sw_c555 sw_h555 (34, [.index q2, vi x1, vi x2, vi x3, vi x4], [], h, kc, ks) Q) (k2 : ¬ gi a8 (x1 + 1) = 6 → wr P d sw_c555 sw_h555 (32, [.index q2, vi x1, vi x2, vi x3, vi x4], [], h, kc, ks) Q) (e_q2 : r0 = .index q2 := by first | rfl | assumption) (e_q7 : v5 = .index q7 := by first | rfl | assumption) (y1 : s_ty r0 = 3 := by first | rfl | assumption) (n6 : s_nth f3 83 = some v5 := by first | rfl | assumption) (c10 : x1 + 1 < a8.length := by first | omega | assumption | (simp only [mk_len, List.length_map]; omega) | decide) (c11 : 0 ≤ x1 + 1 := by first | omega | assumption | (simp only [mk_len, List.length_map]; omega) | decide) (c12 : In3 (x1 + 1) := by first | omega | assumption | (simp only [mk_len, List.length_map]; omega) | decide) (c13 : In3 (gi a8 (x1 + 1)) := by first | omega | assumption | (simp only [mk_len, List.length_map]; omega) | decide) : wr P d sw_c555 sw_h555 (19, [r0, vi x1, vi x2, vi x3, vi x4], [], h, kc, ks) Q := by
  refine w_ld rfl rfl (Or.inr (Or.inr ⟨by decide, y1⟩)) ?_
  subst e_q2
  refine w_getf rfl g4 n6 ?_
  refine w_ld rfl rfl (Or.inl ⟨by decide, rfl⟩) ?_
  refine w_c32 rfl (by decide) 1 (by decide) ?_
  refine w_iadd rfl ?_
  subst e_q7
  refine w_iald rfl g9 (Or.inl rfl) c12 c11 c10 ?_
  refine w_c32 rfl (by decide) 6 (by decide) ?_
  exact w_if2 rfl c13 (by decide) k1 k2

theorem k555_32 {P : s_P} {d : Nat} {Q : s_O → Prop} {h : s_H} {kc ks : Nat} {r0 : Term} {x1 x2 x3 x4 : Int}  (k : Q (.inl (some (vi 0)), h, kc, ks))   : wr P d sw_c555 sw_h555 (32, [r0, vi x1, vi x2, vi x3, vi x4], [], h, kc, ks) Q := by
  refine w_c32 rfl (by decide) 0 (by decide) ?_
  exact w_zret rfl (by decide) k

theorem k555_34 {P : s_P} {d : Nat} {Q : s_O → Prop} {h : s_H} {kc ks : Nat} {r0 : Term} {x1 x2 x3 x4 : Int} {q2 : Nat} {f3 : List Term} (g4 : s_get h q2 = some (1, 11, f3)) (k : wm P d 550 [.index q2, vi (x1 + 2), vi x4] h (wq P d sw_c555 sw_h555 43 [.index q2, vi x1, vi x2, vi x3, vi x4] [] kc ks Q)) (e_q2 : r0 = .index q2 := by first | rfl | assumption) (y1 : s_ty r0 = 3 := by first | rfl | assumption)  : wr P d sw_c555 sw_h555 (34, [r0, vi x1, vi x2, vi x3, vi x4], [], h, kc, ks) Q := by
  refine w_ld rfl rfl (Or.inr (Or.inr ⟨by decide, y1⟩)) ?_
  refine w_ld rfl rfl (Or.inl ⟨by decide, rfl⟩) ?_
  refine w_c32 rfl (by decide) 2 (by decide) ?_
  refine w_iadd rfl ?_
  refine w_ld rfl rfl (Or.inl ⟨by decide, rfl⟩) ?_
  subst e_q2
  exact w_cv rfl [.index q2, vi (x1 + 2), vi x4] [] rfl rfl (s_wt_4 rfl) rfl g4 k

theorem k555_43 {P : s_P} {d : Nat} {Q : s_O → Prop} {h : s_H} {kc ks : Nat} {r0 : Term} {x1 x2 x3 x4 : Int}  (k : Q (.inl (some (vi 1)), h, kc, ks))   : wr P d sw_c555 sw_h555 (43, [r0, vi x1, vi x2, vi x3, vi x4], [], h, kc, ks) Q := by
  refine w_c32 rfl (by decide) 1 (by decide) ?_
  exact w_zret rfl (by decide) k

theorem k555_45 {P : s_P} {d : Nat} {Q : s_O → Prop} {h : s_H} {kc ks : Nat} {r0 : Term} {x1 x2 x3 x4 : Int}  (k1 : x3 ≠ 7 → wr P d sw_c555 sw_h555 (61, [r0, vi x1, vi x2, vi x3, vi x4], [], h, kc, ks) Q) (k2 : ¬ x3 ≠ 7 → wr P d sw_c555 sw_h555 (51, [r0, vi x1, vi x2, vi x3, vi x4], [], h, kc, ks) Q)  (c1 : In3 x3 := by first | omega | assumption | (simp only [mk_len, List.length_map]; omega) | decide) : wr P d sw_c555 sw_h555 (45, [r0, vi x1, vi x2, vi x3, vi x4], [], h, kc, ks) Q := by
  refine w_ld rfl rfl (Or.inl ⟨by decide, rfl⟩) ?_
  refine w_c32 rfl (by decide) 7 (by decide) ?_
  exact w_if2 rfl c1 (by decide) k1 k2

theorem k555_51 {P : s_P} {d : Nat} {Q : s_O → Prop} {h : s_H} {kc ks : Nat} {r0 : Term} {x1 x2 x3 x4 : Int} {q2 : Nat} {f3 : List Term} {v5 : Term} {q7 : Nat} {a8 : List Int} (g4 : s_get h q2 = some (1, 11, f3)) (g9 : s_get h q7 = some (0, 0, a8.map vi)) (k1 : gi a8 x1 ≠ 1 → wr P d sw_c555 sw_h555 (63, [.index q2, vi x1, vi x2, vi x3, vi x4], [], h, kc, ks) Q) (k2 : ¬ gi a8 x1 ≠ 1 → wr P d sw_c555 sw_h555 (61, [.index q2, vi x1, vi x2, vi x3, vi x4], [], h, kc, ks) Q) (e_q2 : r0 = .index q2 := by first | rfl | assumption) (e_q7 : v5 = .index q7 := by first | rfl | assumption) (y1 : s_ty r0 = 3 := by first | rfl | assumption) (n6 : s_nth f3 84 = some v5 := by first | rfl | assumption) (c10 : x1 < a8.length := by first | omega | assumption | (simp only [mk_len, List.length_map]; omega) | decide) (c11 : 0 ≤ x1 := by first | omega | assumption | (simp only [mk_len, List.length_map]; omega) | decide) (c12 : In3 x1 := by first | omega | assumption | (simp only [mk_len, List.length_map]; omega) | decide) (c13 : In3 (gi a8 x1) := by first | omega | assumption | (simp only [mk_len, List.length_map]; omega) | decide) : wr P d sw_c555 sw_h555 (51, [r0, vi x1, vi x2, vi x3, vi x4], [], h, kc, ks) Q := by
  refine w_ld rfl rfl (Or.inr (Or.inr ⟨by decide, y1⟩)) ?_
  subst e_q2
  refine w_getf rfl g4 n6 ?_
  refine w_ld rfl rfl (Or.inl ⟨by decide, rfl⟩) ?_
  subst e_q7
  refine w_iald rfl g9 (Or.inl rfl) c12 c11 c10 ?_
  refine w_c32 rfl (by decide) 1 (by decide) ?_
  exact w_if2 rfl c13 (by decide) k1 k2

theorem k555_61 {P : s_P} {d : Nat} {Q : s_O → Prop} {h : s_H} {kc ks : Nat} {r0 : Term} {x1 x2 x3 x4 : Int}  (k : Q (.inl (some (vi 0)), h, kc, ks))   : wr P d sw_c555 sw_h555 (61, [r0, vi x1, vi x2, vi x3, vi x4], [], h, kc, ks) Q := by
  refine w_c32 rfl (by decide) 0 (by decide) ?_
  exact w_zret rfl (by decide) k

theorem k555_63 {P : s_P} {d : Nat} {Q : s_O → Prop} {h : s_H} {kc ks : Nat} {r0 : Term} {x1 x2 x3 x4 : Int} {q2 : Nat} {f3 : List Term} {v5 : Term} {q7 : Nat} {a8 : List Int} (g4 : s_get h q2 = some (1, 11, f3)) (g9 : s_get h q7 = some (0, 0, a8.map vi)) (k1 : gi a8 x1 ≠ 0 → wr P d sw_c555 sw_h555 (80, [.index q2, vi x1, vi x2, vi x3, vi x4], [], h, kc, ks) Q) (k2 : ¬ gi a8 x1 ≠ 0 → wr P d sw_c555 sw_h555 (72, [.index q2, vi x1, vi x2, vi x3, vi x4], [], h, kc, ks) Q) (e_q2 : r0 = .index q2 := by first | rfl | assumption) (e_q7 : v5 = .index q7 := by first | rfl | assumption) (y1 : s_ty r0 = 3 := by first | rfl | assumption) (n6 : s_nth f3 84 = some v5 := by first | rfl | assumption) (c10 : x1 < a8.length := by first | omega | assumption | (simp only [mk_len, List.length_map]; omega) | decide) (c11 : 0 ≤ x1 := by first | omega | assumption | (simp only [mk_len, List.length_map]; omega) | decide) (c12 : In3 x1 := by first | omega | assumption | (simp only [mk_len, List.length_map]; omega) | decide) (c13 : In3 (gi a8 x1) := by first | omega | assumption | (simp only [mk_len, List.length_map]; omega) | decide) : wr P d sw_c555 sw_h555 (63, [r0, vi x1, vi x2, vi x3, vi x4], [], h, kc, ks) Q := by
  refine w_ld rfl rfl (Or.inr (Or.inr ⟨by decide, y1⟩)) ?_
  subst e_q2
  refine w_getf rfl g4 n6 ?_
  refine w_ld rfl rfl (Or.inl ⟨by decide, rfl⟩) ?_
  subst e_q7
  refine w_iald rfl g9 (Or.inl rfl) c12 c11 c10 ?_
  exact w_if1 rfl c13 k1 k2

theorem k555_72 {P : s_P} {d : Nat} {Q : s_O → Prop} {h : s_H} {kc ks : Nat} {r0 : Term} {x1 x2 x3 x4 : Int} {q2 : Nat} {f3 : List Term} (g4 : s_get h q2 = some (1, 11, f3)) (k : wm P d 549 [.index q2, vi 0, vi 1] h (wq P d sw_c555 sw_h555 78 [.index q2, vi x1, vi x2, vi x3, vi x4] [] kc ks Q)) (e_q2 : r0 = .index q2 := by first | rfl | assumption) (y1 : s_ty r0 = 3 := by first | rfl | assumption)  : wr P d sw_c555 sw_h555 (72, [r0, vi x1, vi x2, vi x3, vi x4], [], h, kc, ks) Q := by
  refine w_ld rfl rfl (Or.inr (Or.inr ⟨by decide, y1⟩)) ?_
  refine w_c32 rfl (by decide) 0 (by decide) ?_
  refine w_c32 rfl (by decide) 1 (by decide) ?_
  subst e_q2
  exact w_cv rfl [.index q2, vi 0, vi 1] [] rfl rfl (s_wt_4 rfl) rfl g4 k

theorem k555_78 {P : s_P} {d : Nat} {Q : s_O → Prop} {h : s_H} {kc ks : Nat} {r0 : Term} {x1 x2 x3 x4 : Int}  (k : Q (.inl (some (vi 1)), h, kc, ks))   : wr P d sw_c555 sw_h555 (78, [r0, vi x1, vi x2, vi x3, vi x4], [], h, kc, ks) Q := by
  refine w_c32 rfl (by decide) 1 (by decide) ?_
  exact w_zret rfl (by decide) k

theorem k555_80 {P : s_P} {d : Nat} {Q : s_O → Prop} {h : s_H} {kc ks : Nat} {r0 : Term} {x1 x2 x3 x4 : Int} {q2 : Nat} {f3 : List Term} (g4 : s_get h q2 = some (1, 11, f3)) (k : wm P d 549 [.index q2, vi 4, vi 0] h (wq P d sw_c555 sw_h555 86 [.index q2, vi x1, vi x2, vi x3, vi x4] [] kc ks Q)) (e_q2 : r0 = .index q2 := by first | rfl | assumption) (y1 : s_ty r0 = 3 := by first | rfl | assumption)  : wr P d sw_c555 sw_h555 (80, [r0, vi x1, vi x2, vi x3, vi x4], [], h, kc, ks) Q := by
  refine w_ld rfl rfl (Or.inr (Or.inr ⟨by decide, y1⟩)) ?_
  refine w_c32 rfl (by decide) 4 (by decide) ?_
  refine w_c32 rfl (by decide) 0 (by decide) ?_
  subst e_q2
  exact w_cv rfl [.index q2, vi 4, vi 0] [] rfl rfl (s_wt_4 rfl) rfl g4 k

theorem k555_86 {P : s_P} {d : Nat} {Q : s_O → Prop} {h : s_H} {kc ks : Nat} {r0 : Term} {x1 x2 x3 x4 : Int} {q2 : Nat} {f3 : List Term} (g4 : s_get h q2 = some (1, 11, f3)) (k : wm P d 550 [.index q2, vi (x1 + 1), vi x4] h (wq P d sw_c555 sw_h555 95 [.index q2, vi x1, vi x2, vi x3, vi x4] [] kc ks Q)) (e_q2 : r0 = .index q2 := by first | rfl | assumption) (y1 : s_ty r0 = 3 := by first | rfl | assumption)  : wr P d sw_c555 sw_h555 (86, [r0, vi x1, vi x2, vi x3, vi x4], [], h, kc, ks) Q := by
  refine w_ld rfl rfl (Or.inr (Or.inr ⟨by decide, y1⟩)) ?_
  refine w_ld rfl rfl (Or.inl ⟨by decide, rfl⟩) ?_
  refine w_c32 rfl (by decide) 1 (by decide) ?_
  refine w_iadd rfl ?_
  refine w_ld rfl rfl (Or.inl ⟨by decide, rfl⟩) ?_
  subst e_q2
  exact w_cv rfl [.index q2, vi (x1 + 1), vi x4] [] rfl rfl (s_wt_4 rfl) rfl g4 k

theorem k555_95 {P : s_P} {d : Nat} {Q : s_O → Prop} {h : s_H} {kc ks : Nat} {r0 : Term} {x1 x2 x3 x4 : Int} {q2 : Nat} {f3 : List Term} {v5 : Term} {q7 : Nat} {a8 : List Int} (g4 : s_get h q2 = some (1, 11, f3)) (g9 : s_get h q7 = some (0, 0, a8.map vi)) (k : wm P d 549 [.index q2, vi 7, vi ((gi a8 x1) - 1)] h (wq P d sw_c555 sw_h555 109 [.index q2, vi x1, vi x2, vi x3, vi x4] [] kc ks Q)) (e_q2 : r0 = .index q2 := by first | rfl | assumption) (e_q7 : v5 = .index q7 := by first | rfl | assumption) (y1 : s_ty r0 = 3 := by first | rfl | assumption) (n6 : s_nth f3 84 = some v5 := by first | rfl | assumption) (c10 : x1 < a8.length := by first | omega | assumption | (simp only [mk_len, List.length_map]; omega) | decide) (c11 : 0 ≤ x1 := by first | omega | assumption | (simp only [mk_len, List.length_map]; omega) | decide) (c12 : In3 x1 := by first | omega | assumption | (simp only [mk_len, List.length_map]; omega) | decide) : wr P d sw_c555 sw_h555 (95, [r0, vi x1, vi x2, vi x3, vi x4], [], h, kc, ks) Q := by
  refine w_ld rfl rfl (Or.inr (Or.inr ⟨by decide, y1⟩)) ?_
  refine w_c32 rfl (by decide) 7 (by decide) ?_
  refine w_ld rfl rfl (Or.inr (Or.inr ⟨by decide, y1⟩)) ?_
  subst e_q2
  refine w_getf rfl g4 n6 ?_
  refine w_ld rfl rfl (Or.inl ⟨by decide, rfl⟩) ?_
  subst e_q7
  refine w_iald rfl g9 (Or.inl rfl) c12 c11 c10 ?_
  refine w_c32 rfl (by decide) 1 (by decide) ?_
  refine w_isub rfl ?_
  exact w_cv rfl [.index q2, vi 7, vi ((gi a8 x1) - 1)] [] rfl rfl (s_wt_4 rfl) rfl g4 k

theorem k555_109 {P : s_P} {d : Nat} {Q : s_O → Prop} {h : s_H} {kc ks : Nat} {r0 : Term} {x1 x2 x3 x4 : Int} {q2 : Nat} {f3 : List Term} (g4 : s_get h q2 = some (1, 11, f3)) (k : wm P d 550 [.index q2, vi (x1 + 1), vi x4] h (wq P d sw_c555 sw_h555 118 [.index q2, vi x1, vi x2, vi x3, vi x4] [] kc ks Q)) (e_q2 : r0 = .index q2 := by first | rfl | assumption) (y1 : s_ty r0 = 3 := by first | rfl | assumption)  : wr P d sw_c555 sw_h555 (109, [r0, vi x1, vi x2, vi x3, vi x4], [], h, kc, ks) Q := by
  refine w_ld rfl rfl (Or.inr (Or.inr ⟨by decide, y1⟩)) ?_
  refine w_ld rfl rfl (Or.inl ⟨by decide, rfl⟩) ?_
  refine w_c32 rfl (by decide) 1 (by decide) ?_
  refine w_iadd rfl ?_
  refine w_ld rfl rfl (Or.inl ⟨by decide, rfl⟩) ?_
  subst e_q2
  exact w_cv rfl [.index q2, vi (x1 + 1), vi x4] [] rfl rfl (s_wt_4 rfl) rfl g4 k

theorem k555_118 {P : s_P} {d : Nat} {Q : s_O → Prop} {h : s_H} {kc ks : Nat} {r0 : Term} {x1 x2 x3 x4 : Int}  (k : Q (.inl (some (vi 1)), h, kc, ks))   : wr P d sw_c555 sw_h555 (118, [r0, vi x1, vi x2, vi x3, vi x4], [], h, kc, ks) Q := by
  refine w_c32 rfl (by decide) 1 (by decide) ?_
  exact w_zret rfl (by decide) k

/-! 556: FormulaWorksModel.plantsSame(IIII)Z -/
theorem k556_0 {P : s_P} {d : Nat} {Q : s_O → Prop} {h : s_H} {kc ks : Nat} {r0 : Term} {x1 x2 x3 x4 : Int} {t5 t6 t7 : Term}  (k1 : x1 = 2 → wr P d sw_c556 sw_h556 (10, [r0, vi x1, vi x2, vi x3, vi x4, t5, t6, t7], [], h, kc, ks) Q) (k2 : ¬ x1 = 2 → wr P d sw_c556 sw_h556 (5, [r0, vi x1, vi x2, vi x3, vi x4, t5, t6, t7], [], h, kc, ks) Q)  (c1 : In3 x1 := by first | omega | assumption | (simp only [mk_len, List.length_map]; omega) | decide) : wr P d sw_c556 sw_h556 (0, [r0, vi x1, vi x2, vi x3, vi x4, t5, t6, t7], [], h, kc, ks) Q := by
  refine w_ld rfl rfl (Or.inl ⟨by decide, rfl⟩) ?_
  refine w_c32 rfl (by decide) 2 (by decide) ?_
  exact w_if2 rfl c1 (by decide) k1 k2

theorem k556_5 {P : s_P} {d : Nat} {Q : s_O → Prop} {h : s_H} {kc ks : Nat} {r0 : Term} {x1 x2 x3 x4 : Int} {t5 t6 t7 : Term}  (k1 : x1 ≠ 3 → wr P d sw_c556 sw_h556 (14, [r0, vi x1, vi x2, vi x3, vi x4, t5, t6, t7], [], h, kc, ks) Q) (k2 : ¬ x1 ≠ 3 → wr P d sw_c556 sw_h556 (10, [r0, vi x1, vi x2, vi x3, vi x4, t5, t6, t7], [], h, kc, ks) Q)  (c1 : In3 x1 := by first | omega | assumption | (simp only [mk_len, List.length_map]; omega) | decide) : wr P d sw_c556 sw_h556 (5, [r0, vi x1, vi x2, vi x3, vi x4, t5, t6, t7], [], h, kc, ks) Q := by
  refine w_ld rfl rfl (Or.inl ⟨by decide, rfl⟩) ?_
  refine w_c32 rfl (by decide) 3 (by decide) ?_
  exact w_if2 rfl c1 (by decide) k1 k2

theorem k556_10 {P : s_P} {d : Nat} {Q : s_O → Prop} {h : s_H} {kc ks : Nat} {r0 : Term} {x1 x2 x3 x4 : Int} {t5 t6 t7 : Term}  (k : wr P d sw_c556 sw_h556 (15, [r0, vi x1, vi x2, vi x3, vi x4, t5, t6, t7], [vi 0], h, kc, ks) Q)   : wr P d sw_c556 sw_h556 (10, [r0, vi x1, vi x2, vi x3, vi x4, t5, t6, t7], [], h, kc, ks) Q := by
  refine w_c32 rfl (by decide) 0 (by decide) ?_
  refine w_goto rfl ?_
  exact k

theorem k556_14 {P : s_P} {d : Nat} {Q : s_O → Prop} {h : s_H} {kc ks : Nat} {r0 : Term} {x1 x2 x3 x4 : Int} {t5 t6 t7 : Term}  (k : wr P d sw_c556 sw_h556 (15, [r0, vi x1, vi x2, vi x3, vi x4, t5, t6, t7], [vi 1], h, kc, ks) Q)   : wr P d sw_c556 sw_h556 (14, [r0, vi x1, vi x2, vi x3, vi x4, t5, t6, t7], [], h, kc, ks) Q := by
  refine w_c32 rfl (by decide) 1 (by decide) ?_
  exact k

theorem k556_15 {P : s_P} {d : Nat} {Q : s_O → Prop} {h : s_H} {kc ks : Nat} {r0 : Term} {x1 x2 x3 x4 : Int} {t5 t6 t7 : Term} {s0 : Int} {q2 : Nat} {f3 : List Term} (g4 : s_get h q2 = some (1, 11, f3)) (k : wm P d 480 [.index q2, vi x3, vi s0] h (wq P d sw_c556 sw_h556 24 [.index q2, vi x1, vi x2, vi x3, vi x4, vi s0, t6, t7] [] kc ks Q)) (e_q2 : r0 = .index q2 := by first | rfl | assumption) (y1 : s_ty r0 = 3 := by first | rfl | assumption)  : wr P d sw_c556 sw_h556 (15, [r0, vi x1, vi x2, vi x3, vi x4, t5, t6, t7], [vi s0], h, kc, ks) Q := by
  refine w_st (ls' := [r0, vi x1, vi x2, vi x3, vi x4, vi s0, t6, t7]) rfl (Or.inl ⟨by decide, rfl⟩) rfl ?_
  refine w_ld rfl rfl (Or.inr (Or.inr ⟨by decide, y1⟩)) ?_
  refine w_ld rfl rfl (Or.inl ⟨by decide, rfl⟩) ?_
  refine w_ld rfl rfl (Or.inl ⟨by decide, rfl⟩) ?_
  subst e_q2
  exact w_cv rfl [.index q2, vi x3, vi s0] [] rfl rfl (s_wt_4 rfl) rfl g4 k

theorem k556_24 {P : s_P} {d : Nat} {Q : s_O → Prop} {h : s_H} {kc ks : Nat} {r0 : Term} {x1 x2 x3 x4 x5 : Int} {t6 t7 : Term} {s0 : Int} {q2 : Nat} {f3 : List Term} (g4 : s_get h q2 = some (1, 11, f3)) (k : wm P d 480 [.index q2, vi x2, vi x5] h (wq P d sw_c556 sw_h556 33 [.index q2, vi x1, vi x2, vi x3, vi x4, vi x5, vi s0, t7] [] kc ks Q)) (e_q2 : r0 = .index q2 := by first | rfl | assumption) (y1 : s_ty r0 = 3 := by first | rfl | assumption)  : wr P d sw_c556 sw_h556 (24, [r0, vi x1, vi x2, vi x3, vi x4, vi x5, t6, t7], [vi s0], h, kc, ks) Q := by
  refine w_st (ls' := [r0, vi x1, vi x2, vi x3, vi x4, vi x5, vi s0, t7]) rfl (Or.inl ⟨by decide, rfl⟩) rfl ?_
  refine w_ld rfl rfl (Or.inr (Or.inr ⟨by decide, y1⟩)) ?_
  refine w_ld rfl rfl (Or.inl ⟨by decide, rfl⟩) ?_
  refine w_ld rfl rfl (Or.inl ⟨by decide, rfl⟩) ?_
  subst e_q2
  exact w_cv rfl [.index q2, vi x2, vi x5] [] rfl rfl (s_wt_4 rfl) rfl g4 k

theorem k556_33 {P : s_P} {d : Nat} {Q : s_O → Prop} {h : s_H} {kc ks : Nat} {r0 : Term} {x1 x2 x3 x4 x5 x6 : Int} {t7 : Term} {s0 : Int}  (k1 : s0 = 0 → wr P d sw_c556 sw_h556 (45, [r0, vi x1, vi x2, vi x3, vi x4, vi x5, vi x6, t7], [], h, kc, ks) Q) (k2 : ¬ s0 = 0 → wr P d sw_c556 sw_h556 (36, [r0, vi x1, vi x2, vi x3, vi x4, vi x5, vi x6, t7], [], h, kc, ks) Q)  (c1 : In3 s0 := by first | omega | assumption | (simp only [mk_len, List.length_map]; omega) | decide) : wr P d sw_c556 sw_h556 (33, [r0, vi x1, vi x2, vi x3, vi x4, vi x5, vi x6, t7], [vi s0], h, kc, ks) Q := by
  exact w_if1 rfl c1 k1 k2

theorem k556_36 {P : s_P} {d : Nat} {Q : s_O → Prop} {h : s_H} {kc ks : Nat} {r0 : Term} {x1 x2 x3 x4 x5 x6 : Int} {t7 : Term}  (k1 : x1 = 5 → wr P d sw_c556 sw_h556 (45, [r0, vi x1, vi x2, vi x3, vi x4, vi x5, vi x6, t7], [], h, kc, ks) Q) (k2 : ¬ x1 = 5 → wr P d sw_c556 sw_h556 (41, [r0, vi x1, vi x2, vi x3, vi x4, vi x5, vi x6, t7], [], h, kc, ks) Q)  (c1 : In3 x1 := by first | omega | assumption | (simp only [mk_len, List.length_map]; omega) | decide) : wr P d sw_c556 sw_h556 (36, [r0, vi x1, vi x2, vi x3, vi x4, vi x5, vi x6, t7], [], h, kc, ks) Q := by
  refine w_ld rfl rfl (Or.inl ⟨by decide, rfl⟩) ?_
  refine w_c32 rfl (by decide) 5 (by decide) ?_
  exact w_if2 rfl c1 (by decide) k1 k2

theorem k556_41 {P : s_P} {d : Nat} {Q : s_O → Prop} {h : s_H} {kc ks : Nat} {r0 : Term} {x1 x2 x3 x4 x5 x6 : Int} {t7 : Term}  (k : wr P d sw_c556 sw_h556 (46, [r0, vi x1, vi x2, vi x3, vi x4, vi x5, vi x6, t7], [vi 1], h, kc, ks) Q)   : wr P d sw_c556 sw_h556 (41, [r0, vi x1, vi x2, vi x3, vi x4, vi x5, vi x6, t7], [], h, kc, ks) Q := by
  refine w_c32 rfl (by decide) 1 (by decide) ?_
  refine w_goto rfl ?_
  exact k

theorem k556_45 {P : s_P} {d : Nat} {Q : s_O → Prop} {h : s_H} {kc ks : Nat} {r0 : Term} {x1 x2 x3 x4 x5 x6 : Int} {t7 : Term}  (k : wr P d sw_c556 sw_h556 (46, [r0, vi x1, vi x2, vi x3, vi x4, vi x5, vi x6, t7], [vi 0], h, kc, ks) Q)   : wr P d sw_c556 sw_h556 (45, [r0, vi x1, vi x2, vi x3, vi x4, vi x5, vi x6, t7], [], h, kc, ks) Q := by
  refine w_c32 rfl (by decide) 0 (by decide) ?_
  exact k

theorem k556_46 {P : s_P} {d : Nat} {Q : s_O → Prop} {h : s_H} {kc ks : Nat} {r0 : Term} {x1 x2 x3 x4 x5 x6 : Int} {t7 : Term} {s0 : Int}  (k1 : x6 = 0 → wr P d sw_c556 sw_h556 (62, [r0, vi x1, vi x2, vi x3, vi x4, vi x5, vi x6, vi s0], [], h, kc, ks) Q) (k2 : ¬ x6 = 0 → wr P d sw_c556 sw_h556 (53, [r0, vi x1, vi x2, vi x3, vi x4, vi x5, vi x6, vi s0], [], h, kc, ks) Q)  (c1 : In3 x6 := by first | omega | assumption | (simp only [mk_len, List.length_map]; omega) | decide) : wr P d sw_c556 sw_h556 (46, [r0, vi x1, vi x2, vi x3, vi x4, vi x5, vi x6, t7], [vi s0], h, kc, ks) Q := by
  refine w_st (ls' := [r0, vi x1, vi x2, vi x3, vi x4, vi x5, vi x6, vi s0]) rfl (Or.inl ⟨by decide, rfl⟩) rfl ?_
  refine w_ld rfl rfl (Or.inl ⟨by decide, rfl⟩) ?_
  exact w_if1 rfl c1 k1 k2

theorem k556_53 {P : s_P} {d : Nat} {Q : s_O → Prop} {h : s_H} {kc ks : Nat} {r0 : Term} {x1 x2 x3 x4 x5 x6 x7 : Int} {q2 : Nat} {f3 : List Term} (g4 : s_get h q2 = some (1, 11, f3)) (k : wm P d 550 [.index q2, vi x2, vi x3] h (wq P d sw_c556 sw_h556 59 [.index q2, vi x1, vi x2, vi x3, vi x4, vi x5, vi x6, vi x7] [] kc ks Q)) (e_q2 : r0 = .index q2 := by first | rfl | assumption) (y1 : s_ty r0 = 3 := by first | rfl | assumption)  : wr P d sw_c556 sw_h556 (53, [r0, vi x1, vi x2, vi x3, vi x4, vi x5, vi x6, vi x7], [], h, kc, ks) Q := by
  refine w_ld rfl rfl (Or.inr (Or.inr ⟨by decide, y1⟩)) ?_
  refine w_ld rfl rfl (Or.inl ⟨by decide, rfl⟩) ?_
  refine w_ld rfl rfl (Or.inl ⟨by decide, rfl⟩) ?_
  subst e_q2
  exact w_cv rfl [.index q2, vi x2, vi x3] [] rfl rfl (s_wt_4 rfl) rfl g4 k

theorem k556_59 {P : s_P} {d : Nat} {Q : s_O → Prop} {h : s_H} {kc ks : Nat} {r0 : Term} {x1 x2 x3 x4 x5 x6 x7 : Int}  (k : wr P d sw_c556 sw_h556 (86, [r0, vi x1, vi x2, vi x3, vi x4, vi x5, vi x6, vi x7], [], h, kc, ks) Q)   : wr P d sw_c556 sw_h556 (59, [r0, vi x1, vi x2, vi x3, vi x4, vi x5, vi x6, vi x7], [], h, kc, ks) Q := by
  refine w_goto rfl ?_
  exact k

theorem k556_62 {P : s_P} {d : Nat} {Q : s_O → Prop} {h : s_H} {kc ks : Nat} {r0 : Term} {x1 x2 x3 x4 x5 x6 x7 : Int}  (k1 : x7 = 0 → wr P d sw_c556 sw_h556 (86, [r0, vi x1, vi x2, vi x3, vi x4, vi x5, vi x6, vi x7], [], h, kc, ks) Q) (k2 : ¬ x7 = 0 → wr P d sw_c556 sw_h556 (67, [r0, vi x1, vi x2, vi x3, vi x4, vi x5, vi x6, vi x7], [], h, kc, ks) Q)  (c1 : In3 x7 := by first | omega | assumption | (simp only [mk_len, List.length_map]; omega) | decide) : wr P d sw_c556 sw_h556 (62, [r0, vi x1, vi x2, vi x3, vi x4, vi x5, vi x6, vi x7], [], h, kc, ks) Q := by
  refine w_ld rfl rfl (Or.inl ⟨by decide, rfl⟩) ?_
  exact w_if1 rfl c1 k1 k2

theorem k556_67 {P : s_P} {d : Nat} {Q : s_O → Prop} {h : s_H} {kc ks : Nat} {r0 : Term} {x1 x2 x3 x4 x5 x6 x7 : Int}  (k1 : x1 ≠ 3 → wr P d sw_c556 sw_h556 (79, [r0, vi x1, vi x2, vi x3, vi x4, vi x5, vi x6, vi x7], [], h, kc, ks) Q) (k2 : ¬ x1 ≠ 3 → wr P d sw_c556 sw_h556 (72, [r0, vi x1, vi x2, vi x3, vi x4, vi x5, vi x6, vi x7], [], h, kc, ks) Q)  (c1 : In3 x1 := by first | omega | assumption | (simp only [mk_len, List.length_map]; omega) | decide) : wr P d sw_c556 sw_h556 (67, [r0, vi x1, vi x2, vi x3, vi x4, vi x5, vi x6, vi x7], [], h, kc, ks) Q := by
  refine w_ld rfl rfl (Or.inl ⟨by decide, rfl⟩) ?_
  refine w_c32 rfl (by decide) 3 (by decide) ?_
  exact w_if2 rfl c1 (by decide) k1 k2

theorem k556_72 {P : s_P} {d : Nat} {Q : s_O → Prop} {h : s_H} {kc ks : Nat} {r0 : Term} {x1 x2 x3 x4 x5 x6 x7 : Int} {q2 : Nat} {f3 : List Term} (g4 : s_get h q2 = some (1, 11, f3)) (k : wm P d 549 [.index q2, vi 6, vi 0] h (wq P d sw_c556 sw_h556 79 [.index q2, vi x1, vi x2, vi x3, vi x4, vi x5, vi x6, vi x7] [] kc ks Q)) (e_q2 : r0 = .index q2 := by first | rfl | assumption) (y1 : s_ty r0 = 3 := by first | rfl | assumption)  : wr P d sw_c556 sw_h556 (72, [r0, vi x1, vi x2, vi x3, vi x4, vi x5, vi x6, vi x7], [], h, kc, ks) Q := by
  refine w_ld rfl rfl (Or.inr (Or.inr ⟨by decide, y1⟩)) ?_
  refine w_c32 rfl (by decide) 6 (by decide) ?_
  refine w_c32 rfl (by decide) 0 (by decide) ?_
  subst e_q2
  exact w_cv rfl [.index q2, vi 6, vi 0] [] rfl rfl (s_wt_4 rfl) rfl g4 k

theorem k556_79 {P : s_P} {d : Nat} {Q : s_O → Prop} {h : s_H} {kc ks : Nat} {r0 : Term} {x1 x2 x3 x4 x5 x6 x7 : Int} {q2 : Nat} {f3 : List Term} (g4 : s_get h q2 = some (1, 11, f3)) (k : wm P d 550 [.index q2, vi x3, vi x4] h (wq P d sw_c556 sw_h556 86 [.index q2, vi x1, vi x2, vi x3, vi x4, vi x5, vi x6, vi x7] [] kc ks Q)) (e_q2 : r0 = .index q2 := by first | rfl | assumption) (y1 : s_ty r0 = 3 := by first | rfl | assumption)  : wr P d sw_c556 sw_h556 (79, [r0, vi x1, vi x2, vi x3, vi x4, vi x5, vi x6, vi x7], [], h, kc, ks) Q := by
  refine w_ld rfl rfl (Or.inr (Or.inr ⟨by decide, y1⟩)) ?_
  refine w_ld rfl rfl (Or.inl ⟨by decide, rfl⟩) ?_
  refine w_ld rfl rfl (Or.inl ⟨by decide, rfl⟩) ?_
  subst e_q2
  exact w_cv rfl [.index q2, vi x3, vi x4] [] rfl rfl (s_wt_4 rfl) rfl g4 k

theorem k556_86 {P : s_P} {d : Nat} {Q : s_O → Prop} {h : s_H} {kc ks : Nat} {r0 : Term} {x1 x2 x3 x4 x5 x6 x7 : Int}  (k1 : x6 ≠ 0 → wr P d sw_c556 sw_h556 (96, [r0, vi x1, vi x2, vi x3, vi x4, vi x5, vi x6, vi x7], [], h, kc, ks) Q) (k2 : ¬ x6 ≠ 0 → wr P d sw_c556 sw_h556 (91, [r0, vi x1, vi x2, vi x3, vi x4, vi x5, vi x6, vi x7], [], h, kc, ks) Q)  (c1 : In3 x6 := by first | omega | assumption | (simp only [mk_len, List.length_map]; omega) | decide) : wr P d sw_c556 sw_h556 (86, [r0, vi x1, vi x2, vi x3, vi x4, vi x5, vi x6, vi x7], [], h, kc, ks) Q := by
  refine w_ld rfl rfl (Or.inl ⟨by decide, rfl⟩) ?_
  exact w_if1 rfl c1 k1 k2

theorem k556_91 {P : s_P} {d : Nat} {Q : s_O → Prop} {h : s_H} {kc ks : Nat} {r0 : Term} {x1 x2 x3 x4 x5 x6 x7 : Int}  (k1 : x7 = 0 → wr P d sw_c556 sw_h556 (100, [r0, vi x1, vi x2, vi x3, vi x4, vi x5, vi x6, vi x7], [], h, kc, ks) Q) (k2 : ¬ x7 = 0 → wr P d sw_c556 sw_h556 (96, [r0, vi x1, vi x2, vi x3, vi x4, vi x5, vi x6, vi x7], [], h, kc, ks) Q)  (c1 : In3 x7 := by first | omega | assumption | (simp only [mk_len, List.length_map]; omega) | decide) : wr P d sw_c556 sw_h556 (91, [r0, vi x1, vi x2, vi x3, vi x4, vi x5, vi x6, vi x7], [], h, kc, ks) Q := by
  refine w_ld rfl rfl (Or.inl ⟨by decide, rfl⟩) ?_
  exact w_if1 rfl c1 k1 k2

theorem k556_96 {P : s_P} {d : Nat} {Q : s_O → Prop} {h : s_H} {kc ks : Nat} {r0 : Term} {x1 x2 x3 x4 x5 x6 x7 : Int}  (k : wr P d sw_c556 sw_h556 (101, [r0, vi x1, vi x2, vi x3, vi x4, vi x5, vi x6, vi x7], [vi 1], h, kc, ks) Q)   : wr P d sw_c556 sw_h556 (96, [r0, vi x1, vi x2, vi x3, vi x4, vi x5, vi x6, vi x7], [], h, kc, ks) Q := by
  refine w_c32 rfl (by decide) 1 (by decide) ?_
  refine w_goto rfl ?_
  exact k

theorem k556_100 {P : s_P} {d : Nat} {Q : s_O → Prop} {h : s_H} {kc ks : Nat} {r0 : Term} {x1 x2 x3 x4 x5 x6 x7 : Int}  (k : wr P d sw_c556 sw_h556 (101, [r0, vi x1, vi x2, vi x3, vi x4, vi x5, vi x6, vi x7], [vi 0], h, kc, ks) Q)   : wr P d sw_c556 sw_h556 (100, [r0, vi x1, vi x2, vi x3, vi x4, vi x5, vi x6, vi x7], [], h, kc, ks) Q := by
  refine w_c32 rfl (by decide) 0 (by decide) ?_
  exact k

theorem k556_101 {P : s_P} {d : Nat} {Q : s_O → Prop} {h : s_H} {kc ks : Nat} {r0 : Term} {x1 x2 x3 x4 x5 x6 x7 s0 : Int}  (k : Q (.inl (some (vi s0)), h, kc, ks))  (c1 : s0 = 0 ∨ s0 = 1 := by first | omega | assumption | (simp only [mk_len, List.length_map]; omega) | decide) : wr P d sw_c556 sw_h556 (101, [r0, vi x1, vi x2, vi x3, vi x4, vi x5, vi x6, vi x7], [vi s0], h, kc, ks) Q := by
  exact w_zret rfl c1 k

