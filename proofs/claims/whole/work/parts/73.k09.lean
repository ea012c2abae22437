/-! 608: FormulaWorksModel.turnEmitted()V -/
theorem k608_0 {P : s_P} {d : Nat} {Q : s_O → Prop} {h : s_H} {kc ks : Nat} {r0 t1 t2 t3 : Term}  (k : wr P d sw_c608 sw_h608 (4, [r0, vi 0, vi 0, t3], [], h, kc, ks) Q) (y1 : s_ty r0 = 3 := by first | rfl | assumption)  : wr P d sw_c608 sw_h608 (0, [r0, t1, t2, t3], [], h, kc, ks) Q := by
  refine w_c32 rfl (by decide) 0 (by decide) ?_
  refine w_st (ls' := [r0, vi 0, t2, t3]) rfl (Or.inl ⟨by decide, rfl⟩) (s_stK_r (pre := []) y1) ?_
  refine w_c32 rfl (by decide) 0 (by decide) ?_
  refine w_st (ls' := [r0, vi 0, vi 0, t3]) rfl (Or.inl ⟨by decide, rfl⟩) rfl ?_
  exact k

theorem k608_4 {P : s_P} {d : Nat} {Q : s_O → Prop} {h : s_H} {kc ks : Nat} {r0 : Term} {x1 x2 : Int} {t3 : Term} {q2 : Nat} {f3 : List Term} {z5 : Int} (g4 : s_get h q2 = some (1, 11, f3)) (k1 : z5 ≤ x2 → wr P d sw_c608 sw_h608 (87, [.index q2, vi x1, vi x2, t3], [], h, kc, ks) Q) (k2 : ¬ z5 ≤ x2 → wr P d sw_c608 sw_h608 (12, [.index q2, vi x1, vi x2, t3], [], h, kc, ks) Q) (e_q2 : r0 = .index q2 := by first | rfl | assumption) (y1 : s_ty r0 = 3 := by first | rfl | assumption) (n6 : s_nth f3 88 = some (vi z5) := by first | rfl | assumption) (c7 : In3 x2 := by first | omega | assumption | (simp only [mk_len, List.length_map]; omega) | decide) (c8 : In3 z5 := by first | omega | assumption | (simp only [mk_len, List.length_map]; omega) | decide) : wr P d sw_c608 sw_h608 (4, [r0, vi x1, vi x2, t3], [], h, kc, ks) Q := by
  refine w_ld rfl rfl (Or.inl ⟨by decide, rfl⟩) ?_
  refine w_ld rfl rfl (Or.inr (Or.inr ⟨by decide, y1⟩)) ?_
  subst e_q2
  refine w_getf rfl g4 n6 ?_
  exact w_if2 rfl c7 c8 k1 k2

theorem k608_12 {P : s_P} {d : Nat} {Q : s_O → Prop} {h : s_H} {kc ks : Nat} {r0 : Term} {x1 x2 : Int} {t3 : Term} {q2 : Nat} {f3 : List Term} {v5 : Term} {q7 : Nat} {a8 : List Int} (g4 : s_get h q2 = some (1, 11, f3)) (g9 : s_get h q7 = some (0, 0, a8.map vi)) (k : wm P d 547 [vi (gi a8 x2)] h (wq P d sw_c608 sw_h608 21 [.index q2, vi x1, vi x2, t3] [] kc ks Q)) (e_q2 : r0 = .index q2 := by first | rfl | assumption) (e_q7 : v5 = .index q7 := by first | rfl | assumption) (y1 : s_ty r0 = 3 := by first | rfl | assumption) (n6 : s_nth f3 89 = some v5 := by first | rfl | assumption) (c10 : x2 < a8.length := by first | omega | assumption | (simp only [mk_len, List.length_map]; omega) | decide) (c11 : 0 ≤ x2 := by first | omega | assumption | (simp only [mk_len, List.length_map]; omega) | decide) (c12 : In3 x2 := by first | omega | assumption | (simp only [mk_len, List.length_map]; omega) | decide) : wr P d sw_c608 sw_h608 (12, [r0, vi x1, vi x2, t3], [], h, kc, ks) Q := by
  refine w_ld rfl rfl (Or.inr (Or.inr ⟨by decide, y1⟩)) ?_
  subst e_q2
  refine w_getf rfl g4 n6 ?_
  refine w_ld rfl rfl (Or.inl ⟨by decide, rfl⟩) ?_
  subst e_q7
  refine w_iald rfl g9 (Or.inl rfl) c12 c11 c10 ?_
  exact w_cs rfl [vi (gi a8 x2)] [] rfl rfl (s_wt_4 rfl) k

theorem k608_21 {P : s_P} {d : Nat} {Q : s_O → Prop} {h : s_H} {kc ks : Nat} {r0 : Term} {x1 x2 : Int} {t3 : Term} {s0 : Int} {q2 : Nat} {f3 : List Term} {v5 : Term} (g4 : s_get h q2 = some (1, 11, f3)) (k1 : s0 ≤ 0 → wr P d sw_c608 sw_h608 (42, [.index q2, vi x1, vi x2, vi s0], [vi x2, v5], h, kc, ks) Q) (k2 : ¬ s0 ≤ 0 → wr P d sw_c608 sw_h608 (31, [.index q2, vi x1, vi x2, vi s0], [vi x2, v5], h, kc, ks) Q) (e_q2 : r0 = .index q2 := by first | rfl | assumption) (y1 : s_ty r0 = 3 := by first | rfl | assumption) (n6 : s_nth f3 91 = some v5 := by first | rfl | assumption) (c7 : In3 s0 := by first | omega | assumption | (simp only [mk_len, List.length_map]; omega) | decide) : wr P d sw_c608 sw_h608 (21, [r0, vi x1, vi x2, t3], [vi s0], h, kc, ks) Q := by
  refine w_st (ls' := [r0, vi x1, vi x2, vi s0]) rfl (Or.inl ⟨by decide, rfl⟩) rfl ?_
  refine w_ld rfl rfl (Or.inr (Or.inr ⟨by decide, y1⟩)) ?_
  subst e_q2
  refine w_getf rfl g4 n6 ?_
  refine w_ld rfl rfl (Or.inl ⟨by decide, rfl⟩) ?_
  refine w_ld rfl rfl (Or.inl ⟨by decide, rfl⟩) ?_
  exact w_if1 rfl c7 k1 k2

theorem k608_31 {P : s_P} {d : Nat} {Q : s_O → Prop} {h : s_H} {kc ks : Nat} {r0 : Term} {x1 x2 x3 : Int} {s0 : Term} {s1 : Int} {q2 : Nat} {f3 : List Term} {v5 : Term} {q7 : Nat} {a8 : List Int} (g4 : s_get h q2 = some (1, 11, f3)) (g9 : s_get h q7 = some (0, 0, a8.map vi)) (k : wr P d sw_c608 sw_h608 (43, [.index q2, vi x1, vi x2, vi x3], [vi (gi a8 (x1 - x3)), vi s1, s0], h, kc, ks) Q) (e_q2 : r0 = .index q2 := by first | rfl | assumption) (e_q7 : v5 = .index q7 := by first | rfl | assumption) (y1 : s_ty r0 = 3 := by first | rfl | assumption) (n6 : s_nth f3 93 = some v5 := by first | rfl | assumption) (c10 : x1 - x3 < a8.length := by first | omega | assumption | (simp only [mk_len, List.length_map]; omega) | decide) (c11 : 0 ≤ x1 - x3 := by first | omega | assumption | (simp only [mk_len, List.length_map]; omega) | decide) (c12 : In3 (x1 - x3) := by first | omega | assumption | (simp only [mk_len, List.length_map]; omega) | decide) : wr P d sw_c608 sw_h608 (31, [r0, vi x1, vi x2, vi x3], [vi s1, s0], h, kc, ks) Q := by
  refine w_ld rfl rfl (Or.inr (Or.inr ⟨by decide, y1⟩)) ?_
  subst e_q2
  refine w_getf rfl g4 n6 ?_
  refine w_ld rfl rfl (Or.inl ⟨by decide, rfl⟩) ?_
  refine w_ld rfl rfl (Or.inl ⟨by decide, rfl⟩) ?_
  refine w_isub rfl ?_
  subst e_q7
  refine w_iald rfl g9 (Or.inl rfl) c12 c11 c10 ?_
  refine w_goto rfl ?_
  exact k

theorem k608_42 {P : s_P} {d : Nat} {Q : s_O → Prop} {h : s_H} {kc ks : Nat} {r0 : Term} {x1 x2 x3 : Int} {s0 : Term} {s1 : Int}  (k : wr P d sw_c608 sw_h608 (43, [r0, vi x1, vi x2, vi x3], [vi (-1), vi s1, s0], h, kc, ks) Q)   : wr P d sw_c608 sw_h608 (42, [r0, vi x1, vi x2, vi x3], [vi s1, s0], h, kc, ks) Q := by
  refine w_c32 rfl (by decide) (-1) (by decide) ?_
  exact k

theorem k608_43 {P : s_P} {d : Nat} {Q : s_O → Prop} {h : s_H} {kc ks : Nat} {r0 : Term} {x1 x2 x3 : Int} {s0 : Term} {s1 s2 : Int} {q1 : Nat} {a2 : List Int} {q9 : Nat} {f10 : List Term} {v12 : Term} (g3 : s_get h q1 = some (0, 0, a2.map vi)) (g11 : s_get (hp h q1 (0, 0, (a2.set (Int.toNat (s1)) s2).map vi)) q9 = some (1, 11, f10)) (k1 : x3 ≤ 1 → wr P d sw_c608 sw_h608 (65, [.index q9, vi x1, vi x2, vi x3], [vi x2, v12], (hp h q1 (0, 0, (a2.set (Int.toNat (s1)) s2).map vi)), kc, ks) Q) (k2 : ¬ x3 ≤ 1 → wr P d sw_c608 sw_h608 (54, [.index q9, vi x1, vi x2, vi x3], [vi x2, v12], (hp h q1 (0, 0, (a2.set (Int.toNat (s1)) s2).map vi)), kc, ks) Q) (e_q1 : s0 = .index q1 := by first | rfl | assumption) (e_q9 : r0 = .index q9 := by first | rfl | assumption) (y8 : s_ty r0 = 3 := by first | rfl | assumption) (n13 : s_nth f10 92 = some v12 := by first | rfl | assumption) (c4 : s1 < a2.length := by first | omega | assumption | (simp only [mk_len, List.length_map]; omega) | decide) (c5 : 0 ≤ s1 := by first | omega | assumption | (simp only [mk_len, List.length_map]; omega) | decide) (c6 : In3 s1 := by first | omega | assumption | (simp only [mk_len, List.length_map]; omega) | decide) (c7 : 0 < q1 := by first | omega | assumption | (simp only [mk_len, List.length_map]; omega) | decide) (c14 : In3 x3 := by first | omega | assumption | (simp only [mk_len, List.length_map]; omega) | decide) : wr P d sw_c608 sw_h608 (43, [r0, vi x1, vi x2, vi x3], [vi s2, vi s1, s0], h, kc, ks) Q := by
  subst e_q1
  refine w_iast rfl g3 (Nat.ble_eq_true_of_le c7) c6 c5 c4 ?_
  refine w_ld rfl rfl (Or.inr (Or.inr ⟨by decide, y8⟩)) ?_
  subst e_q9
  refine w_getf rfl g11 n13 ?_
  refine w_ld rfl rfl (Or.inl ⟨by decide, rfl⟩) ?_
  refine w_ld rfl rfl (Or.inl ⟨by decide, rfl⟩) ?_
  refine w_c32 rfl (by decide) 1 (by decide) ?_
  exact w_if2 rfl c14 (by decide) k1 k2

theorem k608_54 {P : s_P} {d : Nat} {Q : s_O → Prop} {h : s_H} {kc ks : Nat} {r0 : Term} {x1 x2 x3 : Int} {s0 : Term} {s1 : Int} {q2 : Nat} {f3 : List Term} {v5 : Term} {q7 : Nat} {a8 : List Int} (g4 : s_get h q2 = some (1, 11, f3)) (g9 : s_get h q7 = some (0, 0, a8.map vi)) (k : wr P d sw_c608 sw_h608 (66, [.index q2, vi x1, vi x2, vi x3], [vi (gi a8 (x1 - 1)), vi s1, s0], h, kc, ks) Q) (e_q2 : r0 = .index q2 := by first | rfl | assumption) (e_q7 : v5 = .index q7 := by first | rfl | assumption) (y1 : s_ty r0 = 3 := by first | rfl | assumption) (n6 : s_nth f3 93 = some v5 := by first | rfl | assumption) (c10 : x1 - 1 < a8.length := by first | omega | assumption | (simp only [mk_len, List.length_map]; omega) | decide) (c11 : 0 ≤ x1 - 1 := by first | omega | assumption | (simp only [mk_len, List.length_map]; omega) | decide) (c12 : In3 (x1 - 1) := by first | omega | assumption | (simp only [mk_len, List.length_map]; omega) | decide) : wr P d sw_c608 sw_h608 (54, [r0, vi x1, vi x2, vi x3], [vi s1, s0], h, kc, ks) Q := by
  refine w_ld rfl rfl (Or.inr (Or.inr ⟨by decide, y1⟩)) ?_
  subst e_q2
  refine w_getf rfl g4 n6 ?_
  refine w_ld rfl rfl (Or.inl ⟨by decide, rfl⟩) ?_
  refine w_c32 rfl (by decide) 1 (by decide) ?_
  refine w_isub rfl ?_
  subst e_q7
  refine w_iald rfl g9 (Or.inl rfl) c12 c11 c10 ?_
  refine w_goto rfl ?_
  exact k

theorem k608_65 {P : s_P} {d : Nat} {Q : s_O → Prop} {h : s_H} {kc ks : Nat} {r0 : Term} {x1 x2 x3 : Int} {s0 : Term} {s1 : Int}  (k : wr P d sw_c608 sw_h608 (66, [r0, vi x1, vi x2, vi x3], [vi (-1), vi s1, s0], h, kc, ks) Q)   : wr P d sw_c608 sw_h608 (65, [r0, vi x1, vi x2, vi x3], [vi s1, s0], h, kc, ks) Q := by
  refine w_c32 rfl (by decide) (-1) (by decide) ?_
  exact k

theorem k608_66 {P : s_P} {d : Nat} {Q : s_O → Prop} {h : s_H} {kc ks : Nat} {r0 : Term} {x1 x2 x3 : Int} {s0 : Term} {s1 s2 : Int} {q1 : Nat} {a2 : List Int} {q9 : Nat} {f10 : List Term} {v12 : Term} {q14 : Nat} {a15 : List Int} (g3 : s_get h q1 = some (0, 0, a2.map vi)) (g11 : s_get (hp h q1 (0, 0, (a2.set (Int.toNat (s1)) s2).map vi)) q9 = some (1, 11, f10)) (g16 : s_get (hp h q1 (0, 0, (a2.set (Int.toNat (s1)) s2).map vi)) q14 = some (0, 0, a15.map vi)) (k : wr P d sw_c608 sw_h608 (4, [.index q9, vi ((x1 - x3) + 1), vi (x2 + 1), vi x3], [], (hp (hp h q1 (0, 0, (a2.set (Int.toNat (s1)) s2).map vi)) q14 (0, 0, (a15.set (Int.toNat (x1 - x3)) x2).map vi)), kc, ks) Q) (e_q1 : s0 = .index q1 := by first | rfl | assumption) (e_q9 : r0 = .index q9 := by first | rfl | assumption) (e_q14 : v12 = .index q14 := by first | rfl | assumption) (y8 : s_ty r0 = 3 := by first | rfl | assumption) (n13 : s_nth f10 93 = some v12 := by first | rfl | assumption) (c4 : s1 < a2.length := by first | omega | assumption | (simp only [mk_len, List.length_map]; omega) | decide) (c5 : 0 ≤ s1 := by first | omega | assumption | (simp only [mk_len, List.length_map]; omega) | decide) (c6 : In3 s1 := by first | omega | assumption | (simp only [mk_len, List.length_map]; omega) | decide) (c7 : 0 < q1 := by first | omega | assumption | (simp only [mk_len, List.length_map]; omega) | decide) (c17 : x1 - x3 < a15.length := by first | omega | assumption | (simp only [mk_len, List.length_map]; omega) | decide) (c18 : 0 ≤ x1 - x3 := by first | omega | assumption | (simp only [mk_len, List.length_map]; omega) | decide) (c19 : In3 (x1 - x3) := by first | omega | assumption | (simp only [mk_len, List.length_map]; omega) | decide) (c20 : 0 < q14 := by first | omega | assumption | (simp only [mk_len, List.length_map]; omega) | decide) : wr P d sw_c608 sw_h608 (66, [r0, vi x1, vi x2, vi x3], [vi s2, vi s1, s0], h, kc, ks) Q := by
  subst e_q1
  refine w_iast rfl g3 (Nat.ble_eq_true_of_le c7) c6 c5 c4 ?_
  refine w_ld rfl rfl (Or.inl ⟨by decide, rfl⟩) ?_
  refine w_ld rfl rfl (Or.inl ⟨by decide, rfl⟩) ?_
  refine w_isub rfl ?_
  refine w_st (ls' := [r0, vi (x1 - x3), vi x2, vi x3]) rfl (Or.inl ⟨by decide, rfl⟩) (s_stK_r (pre := []) y8) ?_
  refine w_ld rfl rfl (Or.inr (Or.inr ⟨by decide, y8⟩)) ?_
  subst e_q9
  refine w_getf rfl g11 n13 ?_
  refine w_ld rfl rfl (Or.inl ⟨by decide, rfl⟩) ?_
  refine w_ld rfl rfl (Or.inl ⟨by decide, rfl⟩) ?_
  subst e_q14
  refine w_iast rfl g16 (Nat.ble_eq_true_of_le c20) c19 c18 c17 ?_
  refine w_iinc (ls' := [.index q9, vi ((x1 - x3) + 1), vi x2, vi x3]) rfl rfl 1 (by decide) rfl ?_
  refine w_iinc (ls' := [.index q9, vi ((x1 - x3) + 1), vi (x2 + 1), vi x3]) rfl rfl 1 (by decide) rfl ?_
  refine w_goto rfl ?_
  exact k

theorem k608_87 {P : s_P} {d : Nat} {Q : s_O → Prop} {h : s_H} {kc ks : Nat} {r0 : Term} {x1 x2 : Int} {t3 : Term} {q2 : Nat} {f3 : List Term} (g4 : s_get h q2 = some (1, 11, f3)) (k : wr P d sw_c608 sw_h608 (92, [.index q2, vi x1, vi x2, t3], [], (hp h q2 (1, 11, f3.set 85 (vi 0))), kc, ks) Q) (e_q2 : r0 = .index q2 := by first | rfl | assumption) (y1 : s_ty r0 = 3 := by first | rfl | assumption) (l5 : 85 < f3.length := by first | exact Nat.le_of_ble_eq_true rfl | omega | assumption) (c6 : 0 < q2 := by first | omega | assumption | (simp only [mk_len, List.length_map]; omega) | decide) : wr P d sw_c608 sw_h608 (87, [r0, vi x1, vi x2, t3], [], h, kc, ks) Q := by
  refine w_ld rfl rfl (Or.inr (Or.inr ⟨by decide, y1⟩)) ?_
  refine w_c32 rfl (by decide) 0 (by decide) ?_
  subst e_q2
  refine w_putf rfl g4 (Nat.ble_eq_true_of_le c6) rfl (Nat.ble_eq_true_of_le l5) ?_
  exact k

theorem k608_92 {P : s_P} {d : Nat} {Q : s_O → Prop} {h : s_H} {kc ks : Nat} {r0 : Term} {x1 x2 : Int} {t3 : Term}  (k1 : x1 ≤ 0 → wr P d sw_c608 sw_h608 (175, [r0, vi x1, vi x2, t3], [], h, kc, ks) Q) (k2 : ¬ x1 ≤ 0 → wr P d sw_c608 sw_h608 (96, [r0, vi x1, vi x2, t3], [], h, kc, ks) Q)  (c1 : In3 x1 := by first | omega | assumption | (simp only [mk_len, List.length_map]; omega) | decide) : wr P d sw_c608 sw_h608 (92, [r0, vi x1, vi x2, t3], [], h, kc, ks) Q := by
  refine w_ld rfl rfl (Or.inl ⟨by decide, rfl⟩) ?_
  exact w_if1 rfl c1 k1 k2

theorem k608_96 {P : s_P} {d : Nat} {Q : s_O → Prop} {h : s_H} {kc ks : Nat} {r0 : Term} {x1 x2 : Int} {t3 : Term} {q2 : Nat} {f3 : List Term} {v5 : Term} {q7 : Nat} {a8 : List Int} {v13 : Term} {q15 : Nat} {a16 : List Int} {v21 : Term} {q23 : Nat} {a24 : List Int} (g4 : s_get h q2 = some (1, 11, f3)) (g9 : s_get h q7 = some (0, 0, a8.map vi)) (g17 : s_get h q15 = some (0, 0, a16.map vi)) (g25 : s_get h q23 = some (0, 0, a24.map vi)) (k : wm P d 549 [.index q2, vi (gi a16 (gi a8 (x1 + (-1)))), vi (gi a24 (gi a8 (x1 + (-1))))] h (wq P d sw_c608 sw_h608 122 [.index q2, vi (x1 + (-1)), vi (gi a8 (x1 + (-1))), t3] [] kc ks Q)) (e_q2 : r0 = .index q2 := by first | rfl | assumption) (e_q7 : v5 = .index q7 := by first | rfl | assumption) (e_q15 : v13 = .index q15 := by first | rfl | assumption) (e_q23 : v21 = .index q23 := by first | rfl | assumption) (y1 : s_ty r0 = 3 := by first | rfl | assumption) (n6 : s_nth f3 93 = some v5 := by first | rfl | assumption) (n14 : s_nth f3 89 = some v13 := by first | rfl | assumption) (n22 : s_nth f3 90 = some v21 := by first | rfl | assumption) (c10 : x1 + (-1) < a8.length := by first | omega | assumption | (simp only [mk_len, List.length_map]; omega) | decide) (c11 : 0 ≤ x1 + (-1) := by first | omega | assumption | (simp only [mk_len, List.length_map]; omega) | decide) (c12 : In3 (x1 + (-1)) := by first | omega | assumption | (simp only [mk_len, List.length_map]; omega) | decide) (c18 : gi a8 (x1 + (-1)) < a16.length := by first | omega | assumption | (simp only [mk_len, List.length_map]; omega) | decide) (c19 : 0 ≤ gi a8 (x1 + (-1)) := by first | omega | assumption | (simp only [mk_len, List.length_map]; omega) | decide) (c20 : In3 (gi a8 (x1 + (-1))) := by first | omega | assumption | (simp only [mk_len, List.length_map]; omega) | decide) (c26 : gi a8 (x1 + (-1)) < a24.length := by first | omega | assumption | (simp only [mk_len, List.length_map]; omega) | decide) : wr P d sw_c608 sw_h608 (96, [r0, vi x1, vi x2, t3], [], h, kc, ks) Q := by
  refine w_iinc (ls' := [r0, vi (x1 + (-1)), vi x2, t3]) rfl rfl (-1) (by decide) (s_stK_r (pre := []) y1) ?_
  refine w_ld rfl rfl (Or.inr (Or.inr ⟨by decide, y1⟩)) ?_
  subst e_q2
  refine w_getf rfl g4 n6 ?_
  refine w_ld rfl rfl (Or.inl ⟨by decide, rfl⟩) ?_
  subst e_q7
  refine w_iald rfl g9 (Or.inl rfl) c12 c11 c10 ?_
  refine w_st (ls' := [.index q2, vi (x1 + (-1)), vi (gi a8 (x1 + (-1))), t3]) rfl (Or.inl ⟨by decide, rfl⟩) rfl ?_
  refine w_ld rfl rfl (Or.inr (Or.inr ⟨by decide, rfl⟩)) ?_
  refine w_ld rfl rfl (Or.inr (Or.inr ⟨by decide, rfl⟩)) ?_
  refine w_getf rfl g4 n14 ?_
  refine w_ld rfl rfl (Or.inl ⟨by decide, rfl⟩) ?_
  subst e_q15
  refine w_iald rfl g17 (Or.inl rfl) c20 c19 c18 ?_
  refine w_ld rfl rfl (Or.inr (Or.inr ⟨by decide, rfl⟩)) ?_
  refine w_getf rfl g4 n22 ?_
  refine w_ld rfl rfl (Or.inl ⟨by decide, rfl⟩) ?_
  subst e_q23
  refine w_iald rfl g25 (Or.inl rfl) c20 c19 c26 ?_
  exact w_cv rfl [.index q2, vi (gi a16 (gi a8 (x1 + (-1)))), vi (gi a24 (gi a8 (x1 + (-1))))] [] rfl rfl (s_wt_4 rfl) rfl g4 k

theorem k608_122 {P : s_P} {d : Nat} {Q : s_O → Prop} {h : s_H} {kc ks : Nat} {r0 : Term} {x1 x2 : Int} {t3 : Term} {q2 : Nat} {f3 : List Term} {v5 : Term} {q7 : Nat} {a8 : List Int} (g4 : s_get h q2 = some (1, 11, f3)) (g9 : s_get h q7 = some (0, 0, a8.map vi)) (k1 : gi a8 x2 = (-1) → wr P d sw_c608 sw_h608 (147, [.index q2, vi x1, vi x2, t3], [], h, kc, ks) Q) (k2 : ¬ gi a8 x2 = (-1) → wr P d sw_c608 sw_h608 (132, [.index q2, vi x1, vi x2, t3], [], h, kc, ks) Q) (e_q2 : r0 = .index q2 := by first | rfl | assumption) (e_q7 : v5 = .index q7 := by first | rfl | assumption) (y1 : s_ty r0 = 3 := by first | rfl | assumption) (n6 : s_nth f3 92 = some v5 := by first | rfl | assumption) (c10 : x2 < a8.length := by first | omega | assumption | (simp only [mk_len, List.length_map]; omega) | decide) (c11 : 0 ≤ x2 := by first | omega | assumption | (simp only [mk_len, List.length_map]; omega) | decide) (c12 : In3 x2 := by first | omega | assumption | (simp only [mk_len, List.length_map]; omega) | decide) (c13 : In3 (gi a8 x2) := by first | omega | assumption | (simp only [mk_len, List.length_map]; omega) | decide) : wr P d sw_c608 sw_h608 (122, [r0, vi x1, vi x2, t3], [], h, kc, ks) Q := by
  refine w_ld rfl rfl (Or.inr (Or.inr ⟨by decide, y1⟩)) ?_
  subst e_q2
  refine w_getf rfl g4 n6 ?_
  refine w_ld rfl rfl (Or.inl ⟨by decide, rfl⟩) ?_
  subst e_q7
  refine w_iald rfl g9 (Or.inl rfl) c12 c11 c10 ?_
  refine w_c32 rfl (by decide) (-1) (by decide) ?_
  exact w_if2 rfl c13 (by decide) k1 k2

theorem k608_132 {P : s_P} {d : Nat} {Q : s_O → Prop} {h : s_H} {kc ks : Nat} {r0 : Term} {x1 x2 : Int} {t3 : Term} {q2 : Nat} {f3 : List Term} {v5 v7 : Term} {q9 : Nat} {a10 : List Int} {q15 : Nat} {a16 : List Int} (g4 : s_get h q2 = some (1, 11, f3)) (g11 : s_get h q9 = some (0, 0, a10.map vi)) (g17 : s_get h q15 = some (0, 0, a16.map vi)) (k : wr P d sw_c608 sw_h608 (147, [.index q2, vi (x1 + 1), vi x2, t3], [], (hp h q15 (0, 0, (a16.set (Int.toNat (x1)) (gi a10 x2)).map vi)), kc, ks) Q) (e_q2 : r0 = .index q2 := by first | rfl | assumption) (e_q9 : v7 = .index q9 := by first | rfl | assumption) (e_q15 : v5 = .index q15 := by first | rfl | assumption) (y1 : s_ty r0 = 3 := by first | rfl | assumption) (n6 : s_nth f3 93 = some v5 := by first | rfl | assumption) (n8 : s_nth f3 92 = some v7 := by first | rfl | assumption) (c12 : x2 < a10.length := by first | omega | assumption | (simp only [mk_len, List.length_map]; omega) | decide) (c13 : 0 ≤ x2 := by first | omega | assumption | (simp only [mk_len, List.length_map]; omega) | decide) (c14 : In3 x2 := by first | omega | assumption | (simp only [mk_len, List.length_map]; omega) | decide) (c18 : x1 < a16.length := by first | omega | assumption | (simp only [mk_len, List.length_map]; omega) | decide) (c19 : 0 ≤ x1 := by first | omega | assumption | (simp only [mk_len, List.length_map]; omega) | decide) (c20 : In3 x1 := by first | omega | assumption | (simp only [mk_len, List.length_map]; omega) | decide) (c21 : 0 < q15 := by first | omega | assumption | (simp only [mk_len, List.length_map]; omega) | decide) : wr P d sw_c608 sw_h608 (132, [r0, vi x1, vi x2, t3], [], h, kc, ks) Q := by
  refine w_ld rfl rfl (Or.inr (Or.inr ⟨by decide, y1⟩)) ?_
  subst e_q2
  refine w_getf rfl g4 n6 ?_
  refine w_ld rfl rfl (Or.inl ⟨by decide, rfl⟩) ?_
  refine w_ld rfl rfl (Or.inr (Or.inr ⟨by decide, rfl⟩)) ?_
  refine w_getf rfl g4 n8 ?_
  refine w_ld rfl rfl (Or.inl ⟨by decide, rfl⟩) ?_
  subst e_q9
  refine w_iald rfl g11 (Or.inl rfl) c14 c13 c12 ?_
  subst e_q15
  refine w_iast rfl g17 (Nat.ble_eq_true_of_le c21) c20 c19 c18 ?_
  refine w_iinc (ls' := [.index q2, vi (x1 + 1), vi x2, t3]) rfl rfl 1 (by decide) rfl ?_
  exact k

theorem k608_147 {P : s_P} {d : Nat} {Q : s_O → Prop} {h : s_H} {kc ks : Nat} {r0 : Term} {x1 x2 : Int} {t3 : Term} {q2 : Nat} {f3 : List Term} {v5 : Term} {q7 : Nat} {a8 : List Int} (g4 : s_get h q2 = some (1, 11, f3)) (g9 : s_get h q7 = some (0, 0, a8.map vi)) (k1 : gi a8 x2 = (-1) → wr P d sw_c608 sw_h608 (172, [.index q2, vi x1, vi x2, t3], [], h, kc, ks) Q) (k2 : ¬ gi a8 x2 = (-1) → wr P d sw_c608 sw_h608 (157, [.index q2, vi x1, vi x2, t3], [], h, kc, ks) Q) (e_q2 : r0 = .index q2 := by first | rfl | assumption) (e_q7 : v5 = .index q7 := by first | rfl | assumption) (y1 : s_ty r0 = 3 := by first | rfl | assumption) (n6 : s_nth f3 91 = some v5 := by first | rfl | assumption) (c10 : x2 < a8.length := by first | omega | assumption | (simp only [mk_len, List.length_map]; omega) | decide) (c11 : 0 ≤ x2 := by first | omega | assumption | (simp only [mk_len, List.length_map]; omega) | decide) (c12 : In3 x2 := by first | omega | assumption | (simp only [mk_len, List.length_map]; omega) | decide) (c13 : In3 (gi a8 x2) := by first | omega | assumption | (simp only [mk_len, List.length_map]; omega) | decide) : wr P d sw_c608 sw_h608 (147, [r0, vi x1, vi x2, t3], [], h, kc, ks) Q := by
  refine w_ld rfl rfl (Or.inr (Or.inr ⟨by decide, y1⟩)) ?_
  subst e_q2
  refine w_getf rfl g4 n6 ?_
  refine w_ld rfl rfl (Or.inl ⟨by decide, rfl⟩) ?_
  subst e_q7
  refine w_iald rfl g9 (Or.inl rfl) c12 c11 c10 ?_
  refine w_c32 rfl (by decide) (-1) (by decide) ?_
  exact w_if2 rfl c13 (by decide) k1 k2

theorem k608_157 {P : s_P} {d : Nat} {Q : s_O → Prop} {h : s_H} {kc ks : Nat} {r0 : Term} {x1 x2 : Int} {t3 : Term} {q2 : Nat} {f3 : List Term} {v5 v7 : Term} {q9 : Nat} {a10 : List Int} {q15 : Nat} {a16 : List Int} (g4 : s_get h q2 = some (1, 11, f3)) (g11 : s_get h q9 = some (0, 0, a10.map vi)) (g17 : s_get h q15 = some (0, 0, a16.map vi)) (k : wr P d sw_c608 sw_h608 (172, [.index q2, vi (x1 + 1), vi x2, t3], [], (hp h q15 (0, 0, (a16.set (Int.toNat (x1)) (gi a10 x2)).map vi)), kc, ks) Q) (e_q2 : r0 = .index q2 := by first | rfl | assumption) (e_q9 : v7 = .index q9 := by first | rfl | assumption) (e_q15 : v5 = .index q15 := by first | rfl | assumption) (y1 : s_ty r0 = 3 := by first | rfl | assumption) (n6 : s_nth f3 93 = some v5 := by first | rfl | assumption) (n8 : s_nth f3 91 = some v7 := by first | rfl | assumption) (c12 : x2 < a10.length := by first | omega | assumption | (simp only [mk_len, List.length_map]; omega) | decide) (c13 : 0 ≤ x2 := by first | omega | assumption | (simp only [mk_len, List.length_map]; omega) | decide) (c14 : In3 x2 := by first | omega | assumption | (simp only [mk_len, List.length_map]; omega) | decide) (c18 : x1 < a16.length := by first | omega | assumption | (simp only [mk_len, List.length_map]; omega) | decide) (c19 : 0 ≤ x1 := by first | omega | assumption | (simp only [mk_len, List.length_map]; omega) | decide) (c20 : In3 x1 := by first | omega | assumption | (simp only [mk_len, List.length_map]; omega) | decide) (c21 : 0 < q15 := by first | omega | assumption | (simp only [mk_len, List.length_map]; omega) | decide) : wr P d sw_c608 sw_h608 (157, [r0, vi x1, vi x2, t3], [], h, kc, ks) Q := by
  refine w_ld rfl rfl (Or.inr (Or.inr ⟨by decide, y1⟩)) ?_
  subst e_q2
  refine w_getf rfl g4 n6 ?_
  refine w_ld rfl rfl (Or.inl ⟨by decide, rfl⟩) ?_
  refine w_ld rfl rfl (Or.inr (Or.inr ⟨by decide, rfl⟩)) ?_
  refine w_getf rfl g4 n8 ?_
  refine w_ld rfl rfl (Or.inl ⟨by decide, rfl⟩) ?_
  subst e_q9
  refine w_iald rfl g11 (Or.inl rfl) c14 c13 c12 ?_
  subst e_q15
  refine w_iast rfl g17 (Nat.ble_eq_true_of_le c21) c20 c19 c18 ?_
  refine w_iinc (ls' := [.index q2, vi (x1 + 1), vi x2, t3]) rfl rfl 1 (by decide) rfl ?_
  exact k

theorem k608_172 {P : s_P} {d : Nat} {Q : s_O → Prop} {h : s_H} {kc ks : Nat} {r0 : Term} {x1 x2 : Int} {t3 : Term}  (k : wr P d sw_c608 sw_h608 (92, [r0, vi x1, vi x2, t3], [], h, kc, ks) Q)   : wr P d sw_c608 sw_h608 (172, [r0, vi x1, vi x2, t3], [], h, kc, ks) Q := by
  refine w_goto rfl ?_
  exact k

theorem k608_175 {P : s_P} {d : Nat} {Q : s_O → Prop} {h : s_H} {kc ks : Nat} {r0 : Term} {x1 x2 : Int} {t3 : Term}  (k : Q (.inl none, h, kc, ks))   : wr P d sw_c608 sw_h608 (175, [r0, vi x1, vi x2, t3], [], h, kc, ks) Q := by
  exact w_ret rfl k

/-! 609: FormulaWorksModel.turned(I)I -/
theorem k609_0 {P : s_P} {d : Nat} {Q : s_O → Prop} {h : s_H} {kc ks : Nat} {r0 : Term} {x1 : Int} {t2 t3 : Term} {q2 : Nat} {f3 : List Term} (g4 : s_get h q2 = some (1, 11, f3)) (k : wm P d 481 [.index q2, vi x1, vi 2] h (wq P d sw_c609 sw_h609 6 [.index q2, vi x1, t2, t3] [] kc ks Q)) (e_q2 : r0 = .index q2 := by first | rfl | assumption) (y1 : s_ty r0 = 3 := by first | rfl | assumption)  : wr P d sw_c609 sw_h609 (0, [r0, vi x1, t2, t3], [], h, kc, ks) Q := by
  refine w_ld rfl rfl (Or.inr (Or.inr ⟨by decide, y1⟩)) ?_
  refine w_ld rfl rfl (Or.inl ⟨by decide, rfl⟩) ?_
  refine w_c32 rfl (by decide) 2 (by decide) ?_
  subst e_q2
  exact w_cv rfl [.index q2, vi x1, vi 2] [] rfl rfl (s_wt_4 rfl) rfl g4 k

theorem k609_6 {P : s_P} {d : Nat} {Q : s_O → Prop} {h : s_H} {kc ks : Nat} {r0 : Term} {x1 : Int} {t2 t3 : Term} {s0 : Int}  (k1 : s0 ≠ 0 → wr P d sw_c609 sw_h609 (11, [r0, vi x1, t2, t3], [], h, kc, ks) Q) (k2 : ¬ s0 ≠ 0 → wr P d sw_c609 sw_h609 (9, [r0, vi x1, t2, t3], [], h, kc, ks) Q)  (c1 : In3 s0 := by first | omega | assumption | (simp only [mk_len, List.length_map]; omega) | decide) : wr P d sw_c609 sw_h609 (6, [r0, vi x1, t2, t3], [vi s0], h, kc, ks) Q := by
  exact w_if1 rfl c1 k1 k2

theorem k609_9 {P : s_P} {d : Nat} {Q : s_O → Prop} {h : s_H} {kc ks : Nat} {r0 : Term} {x1 : Int} {t2 t3 : Term}  (k : Q (.inl (some (vi 0)), h, kc, ks))   : wr P d sw_c609 sw_h609 (9, [r0, vi x1, t2, t3], [], h, kc, ks) Q := by
  refine w_c32 rfl (by decide) 0 (by decide) ?_
  exact w_iret rfl k

theorem k609_11 {P : s_P} {d : Nat} {Q : s_O → Prop} {h : s_H} {kc ks : Nat} {r0 : Term} {x1 : Int} {t2 t3 : Term} {q2 : Nat} {f3 : List Term} {z5 : Int} (g4 : s_get h q2 = some (1, 11, f3)) (k1 : z5 ≠ 150 → wr P d sw_c609 sw_h609 (27, [.index q2, vi x1, t2, t3], [], h, kc, ks) Q) (k2 : ¬ z5 ≠ 150 → wr P d sw_c609 sw_h609 (21, [.index q2, vi x1, t2, t3], [], h, kc, ks) Q) (e_q2 : r0 = .index q2 := by first | rfl | assumption) (y1 : s_ty r0 = 3 := by first | rfl | assumption) (n6 : s_nth f3 1 = some (vi z5) := by first | rfl | assumption) (c7 : In3 z5 := by first | omega | assumption | (simp only [mk_len, List.length_map]; omega) | decide) : wr P d sw_c609 sw_h609 (11, [r0, vi x1, t2, t3], [], h, kc, ks) Q := by
  refine w_ld rfl rfl (Or.inr (Or.inr ⟨by decide, y1⟩)) ?_
  subst e_q2
  refine w_getf rfl g4 n6 ?_
  refine w_c32 rfl (by decide) 150 (by decide) ?_
  exact w_if2 rfl c7 (by decide) k1 k2

theorem k609_21 {P : s_P} {d : Nat} {Q : s_O → Prop} {h : s_H} {kc ks : Nat} {r0 : Term} {x1 : Int} {t2 t3 : Term} {q2 : Nat} {f3 : List Term} (g4 : s_get h q2 = some (1, 11, f3)) (k : wm P d 570 [.index q2, vi 3] h (wq P d sw_c609 sw_h609 26 [.index q2, vi x1, t2, t3] [] kc ks Q)) (e_q2 : r0 = .index q2 := by first | rfl | assumption) (y1 : s_ty r0 = 3 := by first | rfl | assumption)  : wr P d sw_c609 sw_h609 (21, [r0, vi x1, t2, t3], [], h, kc, ks) Q := by
  refine w_ld rfl rfl (Or.inr (Or.inr ⟨by decide, y1⟩)) ?_
  refine w_c32 rfl (by decide) 3 (by decide) ?_
  subst e_q2
  exact w_cv rfl [.index q2, vi 3] [] rfl rfl (s_wt_4 rfl) rfl g4 k

theorem k609_26 {P : s_P} {d : Nat} {Q : s_O → Prop} {h : s_H} {kc ks : Nat} {r0 : Term} {x1 : Int} {t2 t3 : Term} {s0 : Int}  (k : Q (.inl (some (vi s0)), h, kc, ks))   : wr P d sw_c609 sw_h609 (26, [r0, vi x1, t2, t3], [vi s0], h, kc, ks) Q := by
  exact w_iret rfl k

theorem k609_27 {P : s_P} {d : Nat} {Q : s_O → Prop} {h : s_H} {kc ks : Nat} {r0 : Term} {x1 : Int} {t2 t3 : Term}  (k : wr P d sw_c609 sw_h609 (29, [r0, vi x1, vi 0, t3], [], h, kc, ks) Q)   : wr P d sw_c609 sw_h609 (27, [r0, vi x1, t2, t3], [], h, kc, ks) Q := by
  refine w_c32 rfl (by decide) 0 (by decide) ?_
  refine w_st (ls' := [r0, vi x1, vi 0, t3]) rfl (Or.inl ⟨by decide, rfl⟩) rfl ?_
  exact k

theorem k609_29 {P : s_P} {d : Nat} {Q : s_O → Prop} {h : s_H} {kc ks : Nat} {r0 : Term} {x1 x2 : Int} {t3 : Term} {q2 : Nat} {f3 : List Term} {v5 : Term} {q7 : Nat} {a8 : List Int} (g4 : s_get h q2 = some (1, 11, f3)) (g9 : s_get h q7 = some (0, 0, a8.map vi)) (k1 : gi a8 x1 ≤ x2 → wr P d sw_c609 sw_h609 (84, [.index q2, vi x1, vi x2, t3], [], h, kc, ks) Q) (k2 : ¬ gi a8 x1 ≤ x2 → wr P d sw_c609 sw_h609 (39, [.index q2, vi x1, vi x2, t3], [], h, kc, ks) Q) (e_q2 : r0 = .index q2 := by first | rfl | assumption) (e_q7 : v5 = .index q7 := by first | rfl | assumption) (y1 : s_ty r0 = 3 := by first | rfl | assumption) (n6 : s_nth f3 5 = some v5 := by first | rfl | assumption) (c10 : x1 < a8.length := by first | omega | assumption | (simp only [mk_len, List.length_map]; omega) | decide) (c11 : 0 ≤ x1 := by first | omega | assumption | (simp only [mk_len, List.length_map]; omega) | decide) (c12 : In3 x1 := by first | omega | assumption | (simp only [mk_len, List.length_map]; omega) | decide) (c13 : In3 x2 := by first | omega | assumption | (simp only [mk_len, List.length_map]; omega) | decide) (c14 : In3 (gi a8 x1) := by first | omega | assumption | (simp only [mk_len, List.length_map]; omega) | decide) : wr P d sw_c609 sw_h609 (29, [r0, vi x1, vi x2, t3], [], h, kc, ks) Q := by
  refine w_ld rfl rfl (Or.inl ⟨by decide, rfl⟩) ?_
  refine w_ld rfl rfl (Or.inr (Or.inr ⟨by decide, y1⟩)) ?_
  subst e_q2
  refine w_getf rfl g4 n6 ?_
  refine w_ld rfl rfl (Or.inl ⟨by decide, rfl⟩) ?_
  subst e_q7
  refine w_iald rfl g9 (Or.inl rfl) c12 c11 c10 ?_
  exact w_if2 rfl c13 c14 k1 k2

theorem k609_39 {P : s_P} {d : Nat} {Q : s_O → Prop} {h : s_H} {kc ks : Nat} {r0 : Term} {x1 x2 : Int} {t3 : Term}  (k : wr P d sw_c609 sw_h609 (41, [r0, vi x1, vi x2, vi 0], [], h, kc, ks) Q)   : wr P d sw_c609 sw_h609 (39, [r0, vi x1, vi x2, t3], [], h, kc, ks) Q := by
  refine w_c32 rfl (by decide) 0 (by decide) ?_
  refine w_st (ls' := [r0, vi x1, vi x2, vi 0]) rfl (Or.inl ⟨by decide, rfl⟩) rfl ?_
  exact k

theorem k609_41 {P : s_P} {d : Nat} {Q : s_O → Prop} {h : s_H} {kc ks : Nat} {r0 : Term} {x1 x2 x3 : Int} {q2 : Nat} {f3 : List Term} {v5 : Term} {q7 : Nat} {a8 : List Int} (g4 : s_get h q2 = some (1, 11, f3)) (g9 : s_get h q7 = some (0, 0, a8.map vi)) (k1 : gi a8 x1 ≤ x3 → wr P d sw_c609 sw_h609 (78, [.index q2, vi x1, vi x2, vi x3], [], h, kc, ks) Q) (k2 : ¬ gi a8 x1 ≤ x3 → wr P d sw_c609 sw_h609 (51, [.index q2, vi x1, vi x2, vi x3], [], h, kc, ks) Q) (e_q2 : r0 = .index q2 := by first | rfl | assumption) (e_q7 : v5 = .index q7 := by first | rfl | assumption) (y1 : s_ty r0 = 3 := by first | rfl | assumption) (n6 : s_nth f3 6 = some v5 := by first | rfl | assumption) (c10 : x1 < a8.length := by first | omega | assumption | (simp only [mk_len, List.length_map]; omega) | decide) (c11 : 0 ≤ x1 := by first | omega | assumption | (simp only [mk_len, List.length_map]; omega) | decide) (c12 : In3 x1 := by first | omega | assumption | (simp only [mk_len, List.length_map]; omega) | decide) (c13 : In3 x3 := by first | omega | assumption | (simp only [mk_len, List.length_map]; omega) | decide) (c14 : In3 (gi a8 x1) := by first | omega | assumption | (simp only [mk_len, List.length_map]; omega) | decide) : wr P d sw_c609 sw_h609 (41, [r0, vi x1, vi x2, vi x3], [], h, kc, ks) Q := by
  refine w_ld rfl rfl (Or.inl ⟨by decide, rfl⟩) ?_
  refine w_ld rfl rfl (Or.inr (Or.inr ⟨by decide, y1⟩)) ?_
  subst e_q2
  refine w_getf rfl g4 n6 ?_
  refine w_ld rfl rfl (Or.inl ⟨by decide, rfl⟩) ?_
  subst e_q7
  refine w_iald rfl g9 (Or.inl rfl) c12 c11 c10 ?_
  exact w_if2 rfl c13 c14 k1 k2

theorem k609_51 {P : s_P} {d : Nat} {Q : s_O → Prop} {h : s_H} {kc ks : Nat} {r0 : Term} {x1 x2 x3 : Int} {q2 : Nat} {f3 : List Term} {v5 : Term} (g4 : s_get h q2 = some (1, 11, f3)) (k : wm P d 508 [.index q2, v5, vi x1, vi x2, vi x3] h (wq P d sw_c609 sw_h609 62 [.index q2, vi x1, vi x2, vi x3] [] kc ks Q)) (e_q2 : r0 = .index q2 := by first | rfl | assumption) (y1 : s_ty r0 = 3 := by first | rfl | assumption) (n6 : s_nth f3 20 = some v5 := by first | rfl | assumption)  : wr P d sw_c609 sw_h609 (51, [r0, vi x1, vi x2, vi x3], [], h, kc, ks) Q := by
  refine w_ld rfl rfl (Or.inr (Or.inr ⟨by decide, y1⟩)) ?_
  refine w_ld rfl rfl (Or.inr (Or.inr ⟨by decide, y1⟩)) ?_
  subst e_q2
  refine w_getf rfl g4 n6 ?_
  refine w_ld rfl rfl (Or.inl ⟨by decide, rfl⟩) ?_
  refine w_ld rfl rfl (Or.inl ⟨by decide, rfl⟩) ?_
  refine w_ld rfl rfl (Or.inl ⟨by decide, rfl⟩) ?_
  exact w_cv rfl [.index q2, v5, vi x1, vi x2, vi x3] [] rfl rfl (s_wt_4 rfl) rfl g4 k

theorem k609_62 {P : s_P} {d : Nat} {Q : s_O → Prop} {h : s_H} {kc ks : Nat} {r0 : Term} {x1 x2 x3 : Int} {q2 : Nat} {f3 : List Term} {v5 : Term} (g4 : s_get h q2 = some (1, 11, f3)) (k : wm P d 496 [.index q2, v5, vi x3, vi x2] h (wq P d sw_c609 sw_h609 72 [.index q2, vi x1, vi x2, vi x3] [] kc ks Q)) (e_q2 : r0 = .index q2 := by first | rfl | assumption) (y1 : s_ty r0 = 3 := by first | rfl | assumption) (n6 : s_nth f3 20 = some v5 := by first | rfl | assumption)  : wr P d sw_c609 sw_h609 (62, [r0, vi x1, vi x2, vi x3], [], h, kc, ks) Q := by
  refine w_ld rfl rfl (Or.inr (Or.inr ⟨by decide, y1⟩)) ?_
  refine w_ld rfl rfl (Or.inr (Or.inr ⟨by decide, y1⟩)) ?_
  subst e_q2
  refine w_getf rfl g4 n6 ?_
  refine w_ld rfl rfl (Or.inl ⟨by decide, rfl⟩) ?_
  refine w_ld rfl rfl (Or.inl ⟨by decide, rfl⟩) ?_
  exact w_cv rfl [.index q2, v5, vi x3, vi x2] [] rfl rfl (s_wt_4 rfl) rfl g4 k

theorem k609_72 {P : s_P} {d : Nat} {Q : s_O → Prop} {h : s_H} {kc ks : Nat} {r0 : Term} {x1 x2 x3 : Int}  (k : wr P d sw_c609 sw_h609 (41, [r0, vi x1, vi x2, vi (x3 + 1)], [], h, kc, ks) Q)   : wr P d sw_c609 sw_h609 (72, [r0, vi x1, vi x2, vi x3], [], h, kc, ks) Q := by
  refine w_iinc (ls' := [r0, vi x1, vi x2, vi (x3 + 1)]) rfl rfl 1 (by decide) rfl ?_
  refine w_goto rfl ?_
  exact k

theorem k609_78 {P : s_P} {d : Nat} {Q : s_O → Prop} {h : s_H} {kc ks : Nat} {r0 : Term} {x1 x2 x3 : Int}  (k : wr P d sw_c609 sw_h609 (29, [r0, vi x1, vi (x2 + 1), vi x3], [], h, kc, ks) Q)   : wr P d sw_c609 sw_h609 (78, [r0, vi x1, vi x2, vi x3], [], h, kc, ks) Q := by
  refine w_iinc (ls' := [r0, vi x1, vi (x2 + 1), vi x3]) rfl rfl 1 (by decide) rfl ?_
  refine w_goto rfl ?_
  exact k

theorem k609_84 {P : s_P} {d : Nat} {Q : s_O → Prop} {h : s_H} {kc ks : Nat} {r0 : Term} {x1 x2 : Int} {t3 : Term} {q2 : Nat} {f3 : List Term} {v5 : Term} {q7 : Nat} {a8 : List Int} {v13 : Term} {q15 : Nat} {a16 : List Int} (g4 : s_get h q2 = some (1, 11, f3)) (g9 : s_get h q7 = some (0, 0, a8.map vi)) (g17 : s_get h q15 = some (0, 0, a16.map vi)) (k : wm P d 498 [.index q2, vi (gi a8 x1), vi (gi a16 x1)] h (wq P d sw_c609 sw_h609 100 [.index q2, vi x1, vi x2, t3] [] kc ks Q)) (e_q2 : r0 = .index q2 := by first | rfl | assumption) (e_q7 : v5 = .index q7 := by first | rfl | assumption) (e_q15 : v13 = .index q15 := by first | rfl | assumption) (y1 : s_ty r0 = 3 := by first | rfl | assumption) (n6 : s_nth f3 6 = some v5 := by first | rfl | assumption) (n14 : s_nth f3 5 = some v13 := by first | rfl | assumption) (c10 : x1 < a8.length := by first | omega | assumption | (simp only [mk_len, List.length_map]; omega) | decide) (c11 : 0 ≤ x1 := by first | omega | assumption | (simp only [mk_len, List.length_map]; omega) | decide) (c12 : In3 x1 := by first | omega | assumption | (simp only [mk_len, List.length_map]; omega) | decide) (c18 : x1 < a16.length := by first | omega | assumption | (simp only [mk_len, List.length_map]; omega) | decide) : wr P d sw_c609 sw_h609 (84, [r0, vi x1, vi x2, t3], [], h, kc, ks) Q := by
  refine w_ld rfl rfl (Or.inr (Or.inr ⟨by decide, y1⟩)) ?_
  refine w_ld rfl rfl (Or.inr (Or.inr ⟨by decide, y1⟩)) ?_
  subst e_q2
  refine w_getf rfl g4 n6 ?_
  refine w_ld rfl rfl (Or.inl ⟨by decide, rfl⟩) ?_
  subst e_q7
  refine w_iald rfl g9 (Or.inl rfl) c12 c11 c10 ?_
  refine w_ld rfl rfl (Or.inr (Or.inr ⟨by decide, rfl⟩)) ?_
  refine w_getf rfl g4 n14 ?_
  refine w_ld rfl rfl (Or.inl ⟨by decide, rfl⟩) ?_
  subst e_q15
  refine w_iald rfl g17 (Or.inl rfl) c12 c11 c18 ?_
  exact w_cv rfl [.index q2, vi (gi a8 x1), vi (gi a16 x1)] [] rfl rfl (s_wt_4 rfl) rfl g4 k

theorem k609_100 {P : s_P} {d : Nat} {Q : s_O → Prop} {h : s_H} {kc ks : Nat} {r0 : Term} {x1 x2 : Int} {t3 : Term} {s0 : Int}  (k : Q (.inl (some (vi s0)), h, kc, ks))   : wr P d sw_c609 sw_h609 (100, [r0, vi x1, vi x2, t3], [vi s0], h, kc, ks) Q := by
  exact w_iret rfl k

/-! 610: FormulaWorksModel.type(J)I -/
theorem k610_0 {P : s_P} {d : Nat} {Q : s_O → Prop} {h : s_H} {kc ks : Nat} {r0 : Term} {x1 : Int} {t2 t3 t4 : Term} {q2 : Nat} {f3 : List Term} (g4 : s_get h q2 = some (1, 11, f3)) (k : wr P d sw_c610 sw_h610 (11, [.index q2, vl x1, (s_uu t2), vi 0, vi 56], [], (hp h q2 (1, 11, f3.set 0 (vi 0))), kc, ks) Q) (e_q2 : r0 = .index q2 := by first | rfl | assumption) (y1 : s_ty r0 = 3 := by first | rfl | assumption) (l5 : 0 < f3.length := by first | exact Nat.le_of_ble_eq_true rfl | omega | assumption) (c6 : 0 < q2 := by first | omega | assumption | (simp only [mk_len, List.length_map]; omega) | decide) : wr P d sw_c610 sw_h610 (0, [r0, vl x1, t2, t3, t4], [], h, kc, ks) Q := by
  refine w_ld rfl rfl (Or.inr (Or.inr ⟨by decide, y1⟩)) ?_
  refine w_c32 rfl (by decide) 0 (by decide) ?_
  subst e_q2
  refine w_putf rfl g4 (Nat.ble_eq_true_of_le c6) rfl (Nat.ble_eq_true_of_le l5) ?_
  refine w_c32 rfl (by decide) 0 (by decide) ?_
  refine w_st (ls' := [.index q2, vl x1, (s_uu t2), vi 0, t4]) rfl (Or.inl ⟨by decide, rfl⟩) (s_stK_t (pre := [.index q2, vl x1])) ?_
  refine w_c32 rfl (by decide) 56 (by decide) ?_
  refine w_st (ls' := [.index q2, vl x1, (s_uu t2), vi 0, vi 56]) rfl (Or.inl ⟨by decide, rfl⟩) rfl ?_
  exact k

theorem k610_11 {P : s_P} {d : Nat} {Q : s_O → Prop} {h : s_H} {kc ks : Nat} {r0 : Term} {x1 : Int} {t2 : Term} {x3 x4 : Int}  (k1 : x4 < 0 → wr P d sw_c610 sw_h610 (43, [r0, vl x1, t2, vi x3, vi x4], [], h, kc, ks) Q) (k2 : ¬ x4 < 0 → wr P d sw_c610 sw_h610 (16, [r0, vl x1, t2, vi x3, vi x4], [], h, kc, ks) Q)  (c1 : In3 x4 := by first | omega | assumption | (simp only [mk_len, List.length_map]; omega) | decide) : wr P d sw_c610 sw_h610 (11, [r0, vl x1, t2, vi x3, vi x4], [], h, kc, ks) Q := by
  refine w_ld rfl rfl (Or.inl ⟨by decide, rfl⟩) ?_
  exact w_if1 rfl c1 k1 k2

theorem k610_16 {P : s_P} {d : Nat} {Q : s_O → Prop} {h : s_H} {kc ks : Nat} {r0 : Term} {x1 : Int} {t2 : Term} {x3 x4 : Int}  (k1 : zl 34 (zl 39 x1 x4) 255 = 0 → wr P d sw_c610 sw_h610 (34, [r0, vl x1, t2, vi x3, vi x4], [vi x3], h, kc, ks) Q) (k2 : ¬ zl 34 (zl 39 x1 x4) 255 = 0 → wr P d sw_c610 sw_h610 (30, [r0, vl x1, t2, vi x3, vi x4], [vi x3], h, kc, ks) Q)  (c1 : In6 (zl 34 (zl 39 x1 x4) 255) := by first | omega | assumption | (simp only [mk_len, List.length_map]; omega) | decide) : wr P d sw_c610 sw_h610 (16, [r0, vl x1, t2, vi x3, vi x4], [], h, kc, ks) Q := by
  refine w_ld rfl rfl (Or.inl ⟨by decide, rfl⟩) ?_
  refine w_ld rfl rfl (Or.inr (Or.inl ⟨by decide, rfl⟩)) ?_
  refine w_ld rfl rfl (Or.inl ⟨by decide, rfl⟩) ?_
  refine w_lsh rfl (by decide) ?_
  refine w_c64 rfl (by decide) 255 (by decide) ?_
  refine w_lb rfl (by decide) ?_
  refine w_c64 rfl (by decide) 0 (by decide) ?_
  exact w_lcmp rfl rfl c1 (by decide) k1 k2

theorem k610_30 {P : s_P} {d : Nat} {Q : s_O → Prop} {h : s_H} {kc ks : Nat} {r0 : Term} {x1 : Int} {t2 : Term} {x3 x4 s0 : Int}  (k : wr P d sw_c610 sw_h610 (35, [r0, vl x1, t2, vi x3, vi x4], [vi 1, vi s0], h, kc, ks) Q)   : wr P d sw_c610 sw_h610 (30, [r0, vl x1, t2, vi x3, vi x4], [vi s0], h, kc, ks) Q := by
  refine w_c32 rfl (by decide) 1 (by decide) ?_
  refine w_goto rfl ?_
  exact k

theorem k610_34 {P : s_P} {d : Nat} {Q : s_O → Prop} {h : s_H} {kc ks : Nat} {r0 : Term} {x1 : Int} {t2 : Term} {x3 x4 s0 : Int}  (k : wr P d sw_c610 sw_h610 (35, [r0, vl x1, t2, vi x3, vi x4], [vi 0, vi s0], h, kc, ks) Q)   : wr P d sw_c610 sw_h610 (34, [r0, vl x1, t2, vi x3, vi x4], [vi s0], h, kc, ks) Q := by
  refine w_c32 rfl (by decide) 0 (by decide) ?_
  exact k

theorem k610_35 {P : s_P} {d : Nat} {Q : s_O → Prop} {h : s_H} {kc ks : Nat} {r0 : Term} {x1 : Int} {t2 : Term} {x3 x4 s0 s1 : Int}  (k : wr P d sw_c610 sw_h610 (11, [r0, vl x1, (s_uu t2), vi (s0 + s1), vi (x4 + (-8))], [], h, kc, ks) Q)   : wr P d sw_c610 sw_h610 (35, [r0, vl x1, t2, vi x3, vi x4], [vi s1, vi s0], h, kc, ks) Q := by
  refine w_iadd rfl ?_
  refine w_st (ls' := [r0, vl x1, (s_uu t2), vi (s0 + s1), vi x4]) rfl (Or.inl ⟨by decide, rfl⟩) (s_stK_t (pre := [r0, vl x1])) ?_
  refine w_iinc (ls' := [r0, vl x1, (s_uu t2), vi (s0 + s1), vi (x4 + (-8))]) rfl rfl (-8) (by decide) rfl ?_
  refine w_goto rfl ?_
  exact k

theorem k610_43 {P : s_P} {d : Nat} {Q : s_O → Prop} {h : s_H} {kc ks : Nat} {r0 : Term} {x1 : Int} {t2 : Term} {x3 x4 : Int} {q2 : Nat} {f3 : List Term} {z5 : Int} (g4 : s_get h q2 = some (1, 11, f3)) (k1 : z5 + x3 ≤ 200 → wr P d sw_c610 sw_h610 (57, [.index q2, vl x1, t2, vi x3, vi x4], [], h, kc, ks) Q) (k2 : ¬ z5 + x3 ≤ 200 → wr P d sw_c610 sw_h610 (55, [.index q2, vl x1, t2, vi x3, vi x4], [], h, kc, ks) Q) (e_q2 : r0 = .index q2 := by first | rfl | assumption) (y1 : s_ty r0 = 3 := by first | rfl | assumption) (n6 : s_nth f3 50 = some (vi z5) := by first | rfl | assumption) (c7 : In3 (z5 + x3) := by first | omega | assumption | (simp only [mk_len, List.length_map]; omega) | decide) : wr P d sw_c610 sw_h610 (43, [r0, vl x1, t2, vi x3, vi x4], [], h, kc, ks) Q := by
  refine w_ld rfl rfl (Or.inr (Or.inr ⟨by decide, y1⟩)) ?_
  subst e_q2
  refine w_getf rfl g4 n6 ?_
  refine w_ld rfl rfl (Or.inl ⟨by decide, rfl⟩) ?_
  refine w_iadd rfl ?_
  refine w_c32 rfl (by decide) 200 (by decide) ?_
  exact w_if2 rfl c7 (by decide) k1 k2

theorem k610_55 {P : s_P} {d : Nat} {Q : s_O → Prop} {h : s_H} {kc ks : Nat} {r0 : Term} {x1 : Int} {t2 : Term} {x3 x4 : Int}  (k : Q (.inl (some (vi (-1))), h, kc, ks))   : wr P d sw_c610 sw_h610 (55, [r0, vl x1, t2, vi x3, vi x4], [], h, kc, ks) Q := by
  refine w_c32 rfl (by decide) (-1) (by decide) ?_
  exact w_iret rfl k

theorem k610_57 {P : s_P} {d : Nat} {Q : s_O → Prop} {h : s_H} {kc ks : Nat} {r0 : Term} {x1 : Int} {t2 : Term} {x3 x4 : Int}  (k : wr P d sw_c610 sw_h610 (61, [r0, vl x1, t2, vi x3, vi 56], [], h, kc, ks) Q)   : wr P d sw_c610 sw_h610 (57, [r0, vl x1, t2, vi x3, vi x4], [], h, kc, ks) Q := by
  refine w_c32 rfl (by decide) 56 (by decide) ?_
  refine w_st (ls' := [r0, vl x1, t2, vi x3, vi 56]) rfl (Or.inl ⟨by decide, rfl⟩) rfl ?_
  exact k

theorem k610_61 {P : s_P} {d : Nat} {Q : s_O → Prop} {h : s_H} {kc ks : Nat} {r0 : Term} {x1 : Int} {t2 : Term} {x3 x4 : Int}  (k1 : x4 < 0 → wr P d sw_c610 sw_h610 (116, [r0, vl x1, t2, vi x3, vi x4], [], h, kc, ks) Q) (k2 : ¬ x4 < 0 → wr P d sw_c610 sw_h610 (66, [r0, vl x1, t2, vi x3, vi x4], [], h, kc, ks) Q)  (c1 : In3 x4 := by first | omega | assumption | (simp only [mk_len, List.length_map]; omega) | decide) : wr P d sw_c610 sw_h610 (61, [r0, vl x1, t2, vi x3, vi x4], [], h, kc, ks) Q := by
  refine w_ld rfl rfl (Or.inl ⟨by decide, rfl⟩) ?_
  exact w_if1 rfl c1 k1 k2

theorem k610_66 {P : s_P} {d : Nat} {Q : s_O → Prop} {h : s_H} {kc ks : Nat} {r0 : Term} {x1 : Int} {t2 : Term} {x3 x4 : Int}  (k1 : zl 34 (zl 39 x1 x4) 255 ≠ 0 → wr P d sw_c610 sw_h610 (82, [r0, vl x1, t2, vi x3, vi x4], [], h, kc, ks) Q) (k2 : ¬ zl 34 (zl 39 x1 x4) 255 ≠ 0 → wr P d sw_c610 sw_h610 (79, [r0, vl x1, t2, vi x3, vi x4], [], h, kc, ks) Q)  (c1 : In6 (zl 34 (zl 39 x1 x4) 255) := by first | omega | assumption | (simp only [mk_len, List.length_map]; omega) | decide) : wr P d sw_c610 sw_h610 (66, [r0, vl x1, t2, vi x3, vi x4], [], h, kc, ks) Q := by
  refine w_ld rfl rfl (Or.inr (Or.inl ⟨by decide, rfl⟩)) ?_
  refine w_ld rfl rfl (Or.inl ⟨by decide, rfl⟩) ?_
  refine w_lsh rfl (by decide) ?_
  refine w_c64 rfl (by decide) 255 (by decide) ?_
  refine w_lb rfl (by decide) ?_
  refine w_c64 rfl (by decide) 0 (by decide) ?_
  exact w_lcmp rfl rfl c1 (by decide) k1 k2

theorem k610_79 {P : s_P} {d : Nat} {Q : s_O → Prop} {h : s_H} {kc ks : Nat} {r0 : Term} {x1 : Int} {t2 : Term} {x3 x4 : Int}  (k : wr P d sw_c610 sw_h610 (110, [r0, vl x1, t2, vi x3, vi x4], [], h, kc, ks) Q)   : wr P d sw_c610 sw_h610 (79, [r0, vl x1, t2, vi x3, vi x4], [], h, kc, ks) Q := by
  refine w_goto rfl ?_
  exact k

theorem k610_82 {P : s_P} {d : Nat} {Q : s_O → Prop} {h : s_H} {kc ks : Nat} {r0 : Term} {x1 : Int} {t2 : Term} {x3 x4 : Int} {q2 : Nat} {f3 : List Term} {v5 : Term} {z7 : Int} {q9 : Nat} {a10 : List Int} {f16 : List Term} {z18 : Int} (g4 : s_get h q2 = some (1, 11, f3)) (g11 : s_get h q9 = some (0, 0, a10.map vi)) (g17 : s_get (hp h q9 (0, 0, (a10.set (Int.toNat (z7)) (zl 34 (zl 39 x1 x4) 255)).map vi)) q2 = some (1, 11, f16)) (k : wr P d sw_c610 sw_h610 (110, [.index q2, vl x1, t2, vi x3, vi x4], [], (hp (hp h q9 (0, 0, (a10.set (Int.toNat (z7)) (zl 34 (zl 39 x1 x4) 255)).map vi)) q2 (1, 11, f16.set 50 (vi (z18 + 1)))), kc, ks) Q) (e_q2 : r0 = .index q2 := by first | rfl | assumption) (e_q9 : v5 = .index q9 := by first | rfl | assumption) (y1 : s_ty r0 = 3 := by first | rfl | assumption) (n6 : s_nth f3 51 = some v5 := by first | rfl | assumption) (n8 : s_nth f3 50 = some (vi z7) := by first | rfl | assumption) (n19 : s_nth f16 50 = some (vi z18) := by first | rfl | assumption) (l20 : 50 < f16.length := by first | exact Nat.le_of_ble_eq_true rfl | omega | assumption) (c12 : z7 < a10.length := by first | omega | assumption | (simp only [mk_len, List.length_map]; omega) | decide) (c13 : 0 ≤ z7 := by first | omega | assumption | (simp only [mk_len, List.length_map]; omega) | decide) (c14 : In3 z7 := by first | omega | assumption | (simp only [mk_len, List.length_map]; omega) | decide) (c15 : 0 < q9 := by first | omega | assumption | (simp only [mk_len, List.length_map]; omega) | decide) (c21 : 0 < q2 := by first | omega | assumption | (simp only [mk_len, List.length_map]; omega) | decide) : wr P d sw_c610 sw_h610 (82, [r0, vl x1, t2, vi x3, vi x4], [], h, kc, ks) Q := by
  refine w_ld rfl rfl (Or.inr (Or.inr ⟨by decide, y1⟩)) ?_
  subst e_q2
  refine w_getf rfl g4 n6 ?_
  refine w_ld rfl rfl (Or.inr (Or.inr ⟨by decide, rfl⟩)) ?_
  refine w_getf rfl g4 n8 ?_
  refine w_ld rfl rfl (Or.inr (Or.inl ⟨by decide, rfl⟩)) ?_
  refine w_ld rfl rfl (Or.inl ⟨by decide, rfl⟩) ?_
  refine w_lsh rfl (by decide) ?_
  refine w_c64 rfl (by decide) 255 (by decide) ?_
  refine w_lb rfl (by decide) ?_
  refine w_l2i rfl ?_
  subst e_q9
  refine w_iast rfl g11 (Nat.ble_eq_true_of_le c15) c14 c13 c12 ?_
  refine w_ld rfl rfl (Or.inr (Or.inr ⟨by decide, rfl⟩)) ?_
  refine w_dup rfl rfl ?_
  refine w_getf rfl g17 n19 ?_
  refine w_c32 rfl (by decide) 1 (by decide) ?_
  refine w_iadd rfl ?_
  refine w_putf rfl g17 (Nat.ble_eq_true_of_le c21) rfl (Nat.ble_eq_true_of_le l20) ?_
  exact k

theorem k610_110 {P : s_P} {d : Nat} {Q : s_O → Prop} {h : s_H} {kc ks : Nat} {r0 : Term} {x1 : Int} {t2 : Term} {x3 x4 : Int}  (k : wr P d sw_c610 sw_h610 (61, [r0, vl x1, t2, vi x3, vi (x4 + (-8))], [], h, kc, ks) Q)   : wr P d sw_c610 sw_h610 (110, [r0, vl x1, t2, vi x3, vi x4], [], h, kc, ks) Q := by
  refine w_iinc (ls' := [r0, vl x1, t2, vi x3, vi (x4 + (-8))]) rfl rfl (-8) (by decide) rfl ?_
  refine w_goto rfl ?_
  exact k

theorem k610_116 {P : s_P} {d : Nat} {Q : s_O → Prop} {h : s_H} {kc ks : Nat} {r0 : Term} {x1 : Int} {t2 : Term} {x3 x4 : Int} {q2 : Nat} {f3 : List Term} {z5 : Int} (g4 : s_get h q2 = some (1, 11, f3)) (k : Q (.inl (some (vi z5)), h, kc, ks)) (e_q2 : r0 = .index q2 := by first | rfl | assumption) (y1 : s_ty r0 = 3 := by first | rfl | assumption) (n6 : s_nth f3 50 = some (vi z5) := by first | rfl | assumption)  : wr P d sw_c610 sw_h610 (116, [r0, vl x1, t2, vi x3, vi x4], [], h, kc, ks) Q := by
  refine w_ld rfl rfl (Or.inr (Or.inr ⟨by decide, y1⟩)) ?_
  subst e_q2
  refine w_getf rfl g4 n6 ?_
  exact w_iret rfl k

/-! 611: FormulaWorksModel.unroll(II)I -/
theorem k611_0 {P : s_P} {d : Nat} {Q : s_O → Prop} {h : s_H} {kc ks : Nat} {r0 : Term} {x1 x2 : Int} {t3 t4 t5 t6 t7 t8 t9 : Term} {q2 : Nat} {f3 : List Term} (g4 : s_get h q2 = some (1, 11, f3)) (k : wm P d 492 [.index q2, vi x1] h (wq P d sw_c611 sw_h611 6 [.index q2, vi x1, vi x2, t3, t4, t5, t6, t7, t8, t9] [.index q2] kc ks Q)) (e_q2 : r0 = .index q2 := by first | rfl | assumption) (y1 : s_ty r0 = 3 := by first | rfl | assumption)  : wr P d sw_c611 sw_h611 (0, [r0, vi x1, vi x2, t3, t4, t5, t6, t7, t8, t9], [], h, kc, ks) Q := by
  refine w_ld rfl rfl (Or.inr (Or.inr ⟨by decide, y1⟩)) ?_
  refine w_ld rfl rfl (Or.inr (Or.inr ⟨by decide, y1⟩)) ?_
  refine w_ld rfl rfl (Or.inl ⟨by decide, rfl⟩) ?_
  subst e_q2
  exact w_cv rfl [.index q2, vi x1] [.index q2] rfl rfl (s_wt_4 rfl) rfl g4 k

theorem k611_6 {P : s_P} {d : Nat} {Q : s_O → Prop} {h : s_H} {kc ks : Nat} {r0 : Term} {x1 x2 : Int} {t3 t4 t5 t6 t7 t8 t9 s0 : Term} {s1 : Int}  (k1 : s1 = 0 → wr P d sw_c611 sw_h611 (17, [r0, vi x1, vi x2, t3, t4, t5, t6, t7, t8, t9], [s0], h, kc, ks) Q) (k2 : ¬ s1 = 0 → wr P d sw_c611 sw_h611 (9, [r0, vi x1, vi x2, t3, t4, t5, t6, t7, t8, t9], [s0], h, kc, ks) Q)  (c1 : In3 s1 := by first | omega | assumption | (simp only [mk_len, List.length_map]; omega) | decide) : wr P d sw_c611 sw_h611 (6, [r0, vi x1, vi x2, t3, t4, t5, t6, t7, t8, t9], [vi s1, s0], h, kc, ks) Q := by
  exact w_if1 rfl c1 k1 k2

theorem k611_9 {P : s_P} {d : Nat} {Q : s_O → Prop} {h : s_H} {kc ks : Nat} {r0 : Term} {x1 x2 : Int} {t3 t4 t5 t6 t7 t8 t9 s0 : Term} {q2 : Nat} {f3 : List Term} (g4 : s_get h q2 = some (1, 11, f3)) (k : wm P d 492 [.index q2, vi x2] h (wq P d sw_c611 sw_h611 14 [.index q2, vi x1, vi x2, t3, t4, t5, t6, t7, t8, t9] [s0] kc ks Q)) (e_q2 : r0 = .index q2 := by first | rfl | assumption) (y1 : s_ty r0 = 3 := by first | rfl | assumption)  : wr P d sw_c611 sw_h611 (9, [r0, vi x1, vi x2, t3, t4, t5, t6, t7, t8, t9], [s0], h, kc, ks) Q := by
  refine w_ld rfl rfl (Or.inr (Or.inr ⟨by decide, y1⟩)) ?_
  refine w_ld rfl rfl (Or.inl ⟨by decide, rfl⟩) ?_
  subst e_q2
  exact w_cv rfl [.index q2, vi x2] [s0] rfl rfl (s_wt_4 rfl) rfl g4 k

theorem k611_14 {P : s_P} {d : Nat} {Q : s_O → Prop} {h : s_H} {kc ks : Nat} {r0 : Term} {x1 x2 : Int} {t3 t4 t5 t6 t7 t8 t9 s0 : Term} {s1 : Int}  (k1 : s1 ≠ 0 → wr P d sw_c611 sw_h611 (21, [r0, vi x1, vi x2, t3, t4, t5, t6, t7, t8, t9], [s0], h, kc, ks) Q) (k2 : ¬ s1 ≠ 0 → wr P d sw_c611 sw_h611 (17, [r0, vi x1, vi x2, t3, t4, t5, t6, t7, t8, t9], [s0], h, kc, ks) Q)  (c1 : In3 s1 := by first | omega | assumption | (simp only [mk_len, List.length_map]; omega) | decide) : wr P d sw_c611 sw_h611 (14, [r0, vi x1, vi x2, t3, t4, t5, t6, t7, t8, t9], [vi s1, s0], h, kc, ks) Q := by
  exact w_if1 rfl c1 k1 k2

theorem k611_17 {P : s_P} {d : Nat} {Q : s_O → Prop} {h : s_H} {kc ks : Nat} {r0 : Term} {x1 x2 : Int} {t3 t4 t5 t6 t7 t8 t9 s0 : Term}  (k : wr P d sw_c611 sw_h611 (43, [r0, vi x1, vi x2, t3, t4, t5, t6, t7, t8, t9], [vi 1, s0], h, kc, ks) Q)   : wr P d sw_c611 sw_h611 (17, [r0, vi x1, vi x2, t3, t4, t5, t6, t7, t8, t9], [s0], h, kc, ks) Q := by
  refine w_c32 rfl (by decide) 1 (by decide) ?_
  refine w_goto rfl ?_
  exact k

theorem k611_21 {P : s_P} {d : Nat} {Q : s_O → Prop} {h : s_H} {kc ks : Nat} {r0 : Term} {x1 x2 : Int} {t3 t4 t5 t6 t7 t8 t9 s0 : Term} {q2 : Nat} {f3 : List Term} (g4 : s_get h q2 = some (1, 11, f3)) (k : wm P d 486 [.index q2, vi x1] h (wq P d sw_c611 sw_h611 26 [.index q2, vi x1, vi x2, t3, t4, t5, t6, t7, t8, t9] [s0] kc ks Q)) (e_q2 : r0 = .index q2 := by first | rfl | assumption) (y1 : s_ty r0 = 3 := by first | rfl | assumption)  : wr P d sw_c611 sw_h611 (21, [r0, vi x1, vi x2, t3, t4, t5, t6, t7, t8, t9], [s0], h, kc, ks) Q := by
  refine w_ld rfl rfl (Or.inr (Or.inr ⟨by decide, y1⟩)) ?_
  refine w_ld rfl rfl (Or.inl ⟨by decide, rfl⟩) ?_
  subst e_q2
  exact w_cv rfl [.index q2, vi x1] [s0] rfl rfl (s_wt_4 rfl) rfl g4 k

theorem k611_26 {P : s_P} {d : Nat} {Q : s_O → Prop} {h : s_H} {kc ks : Nat} {r0 : Term} {x1 x2 : Int} {t3 t4 t5 t6 t7 t8 t9 s0 : Term} {s1 : Int}  (k1 : s1 = 0 → wr P d sw_c611 sw_h611 (38, [r0, vi x1, vi x2, t3, t4, t5, t6, t7, t8, t9], [s0], h, kc, ks) Q) (k2 : ¬ s1 = 0 → wr P d sw_c611 sw_h611 (29, [r0, vi x1, vi x2, t3, t4, t5, t6, t7, t8, t9], [s0], h, kc, ks) Q)  (c1 : In3 s1 := by first | omega | assumption | (simp only [mk_len, List.length_map]; omega) | decide) : wr P d sw_c611 sw_h611 (26, [r0, vi x1, vi x2, t3, t4, t5, t6, t7, t8, t9], [vi s1, s0], h, kc, ks) Q := by
  exact w_if1 rfl c1 k1 k2

theorem k611_29 {P : s_P} {d : Nat} {Q : s_O → Prop} {h : s_H} {kc ks : Nat} {r0 : Term} {x1 x2 : Int} {t3 t4 t5 t6 t7 t8 t9 s0 : Term} {q2 : Nat} {f3 : List Term} (g4 : s_get h q2 = some (1, 11, f3)) (k : wm P d 469 [.index q2, vi x2, vi 1] h (wq P d sw_c611 sw_h611 35 [.index q2, vi x1, vi x2, t3, t4, t5, t6, t7, t8, t9] [s0] kc ks Q)) (e_q2 : r0 = .index q2 := by first | rfl | assumption) (y1 : s_ty r0 = 3 := by first | rfl | assumption)  : wr P d sw_c611 sw_h611 (29, [r0, vi x1, vi x2, t3, t4, t5, t6, t7, t8, t9], [s0], h, kc, ks) Q := by
  refine w_ld rfl rfl (Or.inr (Or.inr ⟨by decide, y1⟩)) ?_
  refine w_ld rfl rfl (Or.inl ⟨by decide, rfl⟩) ?_
  refine w_c32 rfl (by decide) 1 (by decide) ?_
  subst e_q2
  exact w_cv rfl [.index q2, vi x2, vi 1] [s0] rfl rfl (s_wt_4 rfl) rfl g4 k

theorem k611_35 {P : s_P} {d : Nat} {Q : s_O → Prop} {h : s_H} {kc ks : Nat} {r0 : Term} {x1 x2 : Int} {t3 t4 t5 t6 t7 t8 t9 s0 : Term} {s1 : Int}  (k1 : s1 ≠ 0 → wr P d sw_c611 sw_h611 (42, [r0, vi x1, vi x2, t3, t4, t5, t6, t7, t8, t9], [s0], h, kc, ks) Q) (k2 : ¬ s1 ≠ 0 → wr P d sw_c611 sw_h611 (38, [r0, vi x1, vi x2, t3, t4, t5, t6, t7, t8, t9], [s0], h, kc, ks) Q)  (c1 : In3 s1 := by first | omega | assumption | (simp only [mk_len, List.length_map]; omega) | decide) : wr P d sw_c611 sw_h611 (35, [r0, vi x1, vi x2, t3, t4, t5, t6, t7, t8, t9], [vi s1, s0], h, kc, ks) Q := by
  exact w_if1 rfl c1 k1 k2

theorem k611_38 {P : s_P} {d : Nat} {Q : s_O → Prop} {h : s_H} {kc ks : Nat} {r0 : Term} {x1 x2 : Int} {t3 t4 t5 t6 t7 t8 t9 s0 : Term}  (k : wr P d sw_c611 sw_h611 (43, [r0, vi x1, vi x2, t3, t4, t5, t6, t7, t8, t9], [vi 2, s0], h, kc, ks) Q)   : wr P d sw_c611 sw_h611 (38, [r0, vi x1, vi x2, t3, t4, t5, t6, t7, t8, t9], [s0], h, kc, ks) Q := by
  refine w_c32 rfl (by decide) 2 (by decide) ?_
  refine w_goto rfl ?_
  exact k

theorem k611_42 {P : s_P} {d : Nat} {Q : s_O → Prop} {h : s_H} {kc ks : Nat} {r0 : Term} {x1 x2 : Int} {t3 t4 t5 t6 t7 t8 t9 s0 : Term}  (k : wr P d sw_c611 sw_h611 (43, [r0, vi x1, vi x2, t3, t4, t5, t6, t7, t8, t9], [vi 0, s0], h, kc, ks) Q)   : wr P d sw_c611 sw_h611 (42, [r0, vi x1, vi x2, t3, t4, t5, t6, t7, t8, t9], [s0], h, kc, ks) Q := by
  refine w_c32 rfl (by decide) 0 (by decide) ?_
  exact k

theorem k611_43 {P : s_P} {d : Nat} {Q : s_O → Prop} {h : s_H} {kc ks : Nat} {r0 : Term} {x1 x2 : Int} {t3 t4 t5 t6 t7 t8 t9 s0 : Term} {s1 : Int} {q1 : Nat} {f2 : List Term} {q7 : Nat} {f8 : List Term} {z10 : Int} (g3 : s_get h q1 = some (1, 11, f2)) (g9 : s_get (hp h q1 (1, 11, f2.set 0 (vi s1))) q7 = some (1, 11, f8)) (k1 : z10 ≤ 0 → wr P d sw_c611 sw_h611 (55, [.index q7, vi x1, vi x2, t3, t4, t5, t6, t7, t8, t9], [], (hp h q1 (1, 11, f2.set 0 (vi s1))), kc, ks) Q) (k2 : ¬ z10 ≤ 0 → wr P d sw_c611 sw_h611 (53, [.index q7, vi x1, vi x2, t3, t4, t5, t6, t7, t8, t9], [], (hp h q1 (1, 11, f2.set 0 (vi s1))), kc, ks) Q) (e_q1 : s0 = .index q1 := by first | rfl | assumption) (e_q7 : r0 = .index q7 := by first | rfl | assumption) (l4 : 0 < f2.length := by first | exact Nat.le_of_ble_eq_true rfl | omega | assumption) (y6 : s_ty r0 = 3 := by first | rfl | assumption) (n11 : s_nth f8 0 = some (vi z10) := by first | rfl | assumption) (c5 : 0 < q1 := by first | omega | assumption | (simp only [mk_len, List.length_map]; omega) | decide) (c12 : In3 z10 := by first | omega | assumption | (simp only [mk_len, List.length_map]; omega) | decide) : wr P d sw_c611 sw_h611 (43, [r0, vi x1, vi x2, t3, t4, t5, t6, t7, t8, t9], [vi s1, s0], h, kc, ks) Q := by
  subst e_q1
  refine w_putf rfl g3 (Nat.ble_eq_true_of_le c5) rfl (Nat.ble_eq_true_of_le l4) ?_
  refine w_ld rfl rfl (Or.inr (Or.inr ⟨by decide, y6⟩)) ?_
  subst e_q7
  refine w_getf rfl g9 n11 ?_
  exact w_if1 rfl c12 k1 k2

theorem k611_53 {P : s_P} {d : Nat} {Q : s_O → Prop} {h : s_H} {kc ks : Nat} {r0 : Term} {x1 x2 : Int} {t3 t4 t5 t6 t7 t8 t9 : Term}  (k : Q (.inl (some (vi 0)), h, kc, ks))   : wr P d sw_c611 sw_h611 (53, [r0, vi x1, vi x2, t3, t4, t5, t6, t7, t8, t9], [], h, kc, ks) Q := by
  refine w_c32 rfl (by decide) 0 (by decide) ?_
  exact w_iret rfl k

theorem k611_55 {P : s_P} {d : Nat} {Q : s_O → Prop} {h : s_H} {kc ks : Nat} {r0 : Term} {x1 x2 : Int} {t3 t4 t5 t6 t7 t8 t9 : Term} {q2 : Nat} {f3 : List Term} {v5 : Term} {q7 : Nat} {a8 : List Int} {v13 v15 : Term} (g4 : s_get h q2 = some (1, 11, f3)) (g9 : s_get h q7 = some (0, 0, a8.map vi)) (k : wm P d 505 [.index q2, v13, v15, vi x2] h (wq P d sw_c611 sw_h611 77 [.index q2, vi x1, vi x2, vi ((gi a8 x1) - 1), t4, t5, t6, t7, t8, t9] [] kc ks Q)) (e_q2 : r0 = .index q2 := by first | rfl | assumption) (e_q7 : v5 = .index q7 := by first | rfl | assumption) (y1 : s_ty r0 = 3 := by first | rfl | assumption) (n6 : s_nth f3 6 = some v5 := by first | rfl | assumption) (n14 : s_nth f3 10 = some v13 := by first | rfl | assumption) (n16 : s_nth f3 11 = some v15 := by first | rfl | assumption) (c10 : x1 < a8.length := by first | omega | assumption | (simp only [mk_len, List.length_map]; omega) | decide) (c11 : 0 ≤ x1 := by first | omega | assumption | (simp only [mk_len, List.length_map]; omega) | decide) (c12 : In3 x1 := by first | omega | assumption | (simp only [mk_len, List.length_map]; omega) | decide) : wr P d sw_c611 sw_h611 (55, [r0, vi x1, vi x2, t3, t4, t5, t6, t7, t8, t9], [], h, kc, ks) Q := by
  refine w_ld rfl rfl (Or.inr (Or.inr ⟨by decide, y1⟩)) ?_
  subst e_q2
  refine w_getf rfl g4 n6 ?_
  refine w_ld rfl rfl (Or.inl ⟨by decide, rfl⟩) ?_
  subst e_q7
  refine w_iald rfl g9 (Or.inl rfl) c12 c11 c10 ?_
  refine w_c32 rfl (by decide) 1 (by decide) ?_
  refine w_isub rfl ?_
  refine w_st (ls' := [.index q2, vi x1, vi x2, vi ((gi a8 x1) - 1), t4, t5, t6, t7, t8, t9]) rfl (Or.inl ⟨by decide, rfl⟩) rfl ?_
  refine w_ld rfl rfl (Or.inr (Or.inr ⟨by decide, rfl⟩)) ?_
  refine w_ld rfl rfl (Or.inr (Or.inr ⟨by decide, rfl⟩)) ?_
  refine w_getf rfl g4 n14 ?_
  refine w_ld rfl rfl (Or.inr (Or.inr ⟨by decide, rfl⟩)) ?_
  refine w_getf rfl g4 n16 ?_
  refine w_ld rfl rfl (Or.inl ⟨by decide, rfl⟩) ?_
  exact w_cv rfl [.index q2, v13, v15, vi x2] [] rfl rfl (s_wt_4 rfl) rfl g4 k

theorem k611_77 {P : s_P} {d : Nat} {Q : s_O → Prop} {h : s_H} {kc ks : Nat} {r0 : Term} {x1 x2 x3 : Int} {t4 t5 t6 t7 t8 t9 : Term} {q2 : Nat} {f3 : List Term} {v5 : Term} (g4 : s_get h q2 = some (1, 11, f3)) (k : wm P d 438 [v5] h (wq P d sw_c611 sw_h611 84 [.index q2, vi x1, vi x2, vi x3, t4, t5, t6, t7, t8, t9] [] kc ks Q)) (e_q2 : r0 = .index q2 := by first | rfl | assumption) (y1 : s_ty r0 = 3 := by first | rfl | assumption) (n6 : s_nth f3 14 = some v5 := by first | rfl | assumption)  : wr P d sw_c611 sw_h611 (77, [r0, vi x1, vi x2, vi x3, t4, t5, t6, t7, t8, t9], [], h, kc, ks) Q := by
  refine w_ld rfl rfl (Or.inr (Or.inr ⟨by decide, y1⟩)) ?_
  subst e_q2
  refine w_getf rfl g4 n6 ?_
  exact w_cs rfl [v5] [] rfl rfl (s_wt_4 rfl) k

theorem k611_84 {P : s_P} {d : Nat} {Q : s_O → Prop} {h : s_H} {kc ks : Nat} {r0 : Term} {x1 x2 x3 : Int} {t4 t5 t6 t7 t8 t9 : Term}  (k : wr P d sw_c611 sw_h611 (87, [r0, vi x1, vi x2, vi x3, vi 0, t5, t6, t7, t8, t9], [], h, kc, ks) Q)   : wr P d sw_c611 sw_h611 (84, [r0, vi x1, vi x2, vi x3, t4, t5, t6, t7, t8, t9], [], h, kc, ks) Q := by
  refine w_c32 rfl (by decide) 0 (by decide) ?_
  refine w_st (ls' := [r0, vi x1, vi x2, vi x3, vi 0, t5, t6, t7, t8, t9]) rfl (Or.inl ⟨by decide, rfl⟩) rfl ?_
  exact k

theorem k611_87 {P : s_P} {d : Nat} {Q : s_O → Prop} {h : s_H} {kc ks : Nat} {r0 : Term} {x1 x2 x3 x4 : Int} {t5 t6 t7 t8 t9 : Term}  (k1 : 25 ≤ x4 → wr P d sw_c611 sw_h611 (222, [r0, vi x1, vi x2, vi x3, vi x4, t5, t6, t7, t8, t9], [], h, kc, ks) Q) (k2 : ¬ 25 ≤ x4 → wr P d sw_c611 sw_h611 (94, [r0, vi x1, vi x2, vi x3, vi x4, t5, t6, t7, t8, t9], [], h, kc, ks) Q)  (c1 : In3 x4 := by first | omega | assumption | (simp only [mk_len, List.length_map]; omega) | decide) : wr P d sw_c611 sw_h611 (87, [r0, vi x1, vi x2, vi x3, vi x4, t5, t6, t7, t8, t9], [], h, kc, ks) Q := by
  refine w_ld rfl rfl (Or.inl ⟨by decide, rfl⟩) ?_
  refine w_c32 rfl (by decide) 25 (by decide) ?_
  exact w_if2 rfl c1 (by decide) k1 k2

theorem k611_94 {P : s_P} {d : Nat} {Q : s_O → Prop} {h : s_H} {kc ks : Nat} {r0 : Term} {x1 x2 x3 x4 : Int} {t5 t6 t7 t8 t9 : Term}  (k1 : x3 ≤ x4 → wr P d sw_c611 sw_h611 (117, [r0, vi x1, vi x2, vi x3, vi x4, t5, t6, t7, t8, t9], [], h, kc, ks) Q) (k2 : ¬ x3 ≤ x4 → wr P d sw_c611 sw_h611 (100, [r0, vi x1, vi x2, vi x3, vi x4, t5, t6, t7, t8, t9], [], h, kc, ks) Q)  (c1 : In3 x4 := by first | omega | assumption | (simp only [mk_len, List.length_map]; omega) | decide) (c2 : In3 x3 := by first | omega | assumption | (simp only [mk_len, List.length_map]; omega) | decide) : wr P d sw_c611 sw_h611 (94, [r0, vi x1, vi x2, vi x3, vi x4, t5, t6, t7, t8, t9], [], h, kc, ks) Q := by
  refine w_ld rfl rfl (Or.inl ⟨by decide, rfl⟩) ?_
  refine w_ld rfl rfl (Or.inl ⟨by decide, rfl⟩) ?_
  exact w_if2 rfl c1 c2 k1 k2

theorem k611_100 {P : s_P} {d : Nat} {Q : s_O → Prop} {h : s_H} {kc ks : Nat} {r0 : Term} {x1 x2 x3 x4 : Int} {t5 t6 t7 t8 t9 : Term} {q2 : Nat} {f3 : List Term} {v5 v7 : Term} {q9 : Nat} {a10 : List Int} {q15 : Nat} {a16 : List Int} (g4 : s_get h q2 = some (1, 11, f3)) (g11 : s_get h q9 = some (0, 1, a10.map vl)) (g17 : s_get h q15 = some (0, 1, a16.map vl)) (k : wr P d sw_c611 sw_h611 (216, [.index q2, vi x1, vi x2, vi x3, vi x4, t5, t6, t7, t8, t9], [], (hp h q15 (0, 1, (a16.set (Int.toNat (x4)) (gi a10 x4)).map vl)), kc, ks) Q) (e_q2 : r0 = .index q2 := by first | rfl | assumption) (e_q9 : v7 = .index q9 := by first | rfl | assumption) (e_q15 : v5 = .index q15 := by first | rfl | assumption) (y1 : s_ty r0 = 3 := by first | rfl | assumption) (n6 : s_nth f3 14 = some v5 := by first | rfl | assumption) (n8 : s_nth f3 10 = some v7 := by first | rfl | assumption) (c12 : x4 < a10.length := by first | omega | assumption | (simp only [mk_len, List.length_map]; omega) | decide) (c13 : 0 ≤ x4 := by first | omega | assumption | (simp only [mk_len, List.length_map]; omega) | decide) (c14 : In3 x4 := by first | omega | assumption | (simp only [mk_len, List.length_map]; omega) | decide) (c18 : x4 < a16.length := by first | omega | assumption | (simp only [mk_len, List.length_map]; omega) | decide) (c19 : 0 < q15 := by first | omega | assumption | (simp only [mk_len, List.length_map]; omega) | decide) : wr P d sw_c611 sw_h611 (100, [r0, vi x1, vi x2, vi x3, vi x4, t5, t6, t7, t8, t9], [], h, kc, ks) Q := by
  refine w_ld rfl rfl (Or.inr (Or.inr ⟨by decide, y1⟩)) ?_
  subst e_q2
  refine w_getf rfl g4 n6 ?_
  refine w_ld rfl rfl (Or.inl ⟨by decide, rfl⟩) ?_
  refine w_ld rfl rfl (Or.inr (Or.inr ⟨by decide, rfl⟩)) ?_
  refine w_getf rfl g4 n8 ?_
  refine w_ld rfl rfl (Or.inl ⟨by decide, rfl⟩) ?_
  subst e_q9
  refine w_lald rfl g11 c14 c13 c12 ?_
  subst e_q15
  refine w_last rfl g17 (Nat.ble_eq_true_of_le c19) c14 c13 c18 ?_
  refine w_goto rfl ?_
  exact k

theorem k611_117 {P : s_P} {d : Nat} {Q : s_O → Prop} {h : s_H} {kc ks : Nat} {r0 : Term} {x1 x2 x3 x4 : Int} {t5 t6 t7 t8 t9 : Term} {q2 : Nat} {f3 : List Term} (g4 : s_get h q2 = some (1, 11, f3)) (k : wm P d 590 [.index q2, vi x1, vi x3, vi (x4 - x3)] h (wq P d sw_c611 sw_h611 127 [.index q2, vi x1, vi x2, vi x3, vi x4, t5, t6, t7, t8, t9] [] kc ks Q)) (e_q2 : r0 = .index q2 := by first | rfl | assumption) (y1 : s_ty r0 = 3 := by first | rfl | assumption)  : wr P d sw_c611 sw_h611 (117, [r0, vi x1, vi x2, vi x3, vi x4, t5, t6, t7, t8, t9], [], h, kc, ks) Q := by
  refine w_ld rfl rfl (Or.inr (Or.inr ⟨by decide, y1⟩)) ?_
  refine w_ld rfl rfl (Or.inl ⟨by decide, rfl⟩) ?_
  refine w_ld rfl rfl (Or.inl ⟨by decide, rfl⟩) ?_
  refine w_ld rfl rfl (Or.inl ⟨by decide, rfl⟩) ?_
  refine w_ld rfl rfl (Or.inl ⟨by decide, rfl⟩) ?_
  refine w_isub rfl ?_
  subst e_q2
  exact w_cv rfl [.index q2, vi x1, vi x3, vi (x4 - x3)] [] rfl rfl (s_wt_4 rfl) rfl g4 k

theorem k611_127 {P : s_P} {d : Nat} {Q : s_O → Prop} {h : s_H} {kc ks : Nat} {r0 : Term} {x1 x2 x3 x4 : Int} {t5 t6 t7 t8 t9 : Term} {s0 : Int}  (k1 : s0 ≠ 0 → wr P d sw_c611 sw_h611 (142, [r0, vi x1, vi x2, vi x3, vi x4, vl s0, .result, t7, t8, t9], [], h, kc, ks) Q) (k2 : ¬ s0 ≠ 0 → wr P d sw_c611 sw_h611 (136, [r0, vi x1, vi x2, vi x3, vi x4, vl s0, .result, t7, t8, t9], [], h, kc, ks) Q)  (c1 : In6 s0 := by first | omega | assumption | (simp only [mk_len, List.length_map]; omega) | decide) : wr P d sw_c611 sw_h611 (127, [r0, vi x1, vi x2, vi x3, vi x4, t5, t6, t7, t8, t9], [vl s0], h, kc, ks) Q := by
  refine w_stl (ls' := [r0, vi x1, vi x2, vi x3, vi x4, vl s0, t6, t7, t8, t9]) (ls'' := [r0, vi x1, vi x2, vi x3, vi x4, vl s0, .result, t7, t8, t9]) rfl ⟨by decide, rfl⟩ rfl rfl ?_
  refine w_ld rfl rfl (Or.inr (Or.inl ⟨by decide, rfl⟩)) ?_
  refine w_c64 rfl (by decide) 0 (by decide) ?_
  exact w_lcmp rfl rfl c1 (by decide) k1 k2

theorem k611_136 {P : s_P} {d : Nat} {Q : s_O → Prop} {h : s_H} {kc ks : Nat} {r0 : Term} {x1 x2 x3 x4 x5 : Int} {t6 t7 t8 t9 : Term} {q2 : Nat} {f3 : List Term} (g4 : s_get h q2 = some (1, 11, f3)) (k : wm P d 570 [.index q2, vi 3] h (wq P d sw_c611 sw_h611 141 [.index q2, vi x1, vi x2, vi x3, vi x4, vl x5, t6, t7, t8, t9] [] kc ks Q)) (e_q2 : r0 = .index q2 := by first | rfl | assumption) (y1 : s_ty r0 = 3 := by first | rfl | assumption)  : wr P d sw_c611 sw_h611 (136, [r0, vi x1, vi x2, vi x3, vi x4, vl x5, t6, t7, t8, t9], [], h, kc, ks) Q := by
  refine w_ld rfl rfl (Or.inr (Or.inr ⟨by decide, y1⟩)) ?_
  refine w_c32 rfl (by decide) 3 (by decide) ?_
  subst e_q2
  exact w_cv rfl [.index q2, vi 3] [] rfl rfl (s_wt_4 rfl) rfl g4 k

theorem k611_141 {P : s_P} {d : Nat} {Q : s_O → Prop} {h : s_H} {kc ks : Nat} {r0 : Term} {x1 x2 x3 x4 x5 : Int} {t6 t7 t8 t9 : Term} {s0 : Int}  (k : Q (.inl (some (vi s0)), h, kc, ks))   : wr P d sw_c611 sw_h611 (141, [r0, vi x1, vi x2, vi x3, vi x4, vl x5, t6, t7, t8, t9], [vi s0], h, kc, ks) Q := by
  exact w_iret rfl k

theorem k611_142 {P : s_P} {d : Nat} {Q : s_O → Prop} {h : s_H} {kc ks : Nat} {r0 : Term} {x1 x2 x3 x4 x5 : Int} {t6 t7 t8 t9 : Term}  (k : wr P d sw_c611 sw_h611 (148, [r0, vi x1, vi x2, vi x3, vi x4, vl x5, (s_uu t6), vl 0, .result, vi 0], [], h, kc, ks) Q)   : wr P d sw_c611 sw_h611 (142, [r0, vi x1, vi x2, vi x3, vi x4, vl x5, t6, t7, t8, t9], [], h, kc, ks) Q := by
  refine w_c64 rfl (by decide) 0 (by decide) ?_
  refine w_stl (ls' := [r0, vi x1, vi x2, vi x3, vi x4, vl x5, (s_uu t6), vl 0, t8, t9]) (ls'' := [r0, vi x1, vi x2, vi x3, vi x4, vl x5, (s_uu t6), vl 0, .result, t9]) rfl ⟨by decide, rfl⟩ (s_stK_t (pre := [r0, vi x1, vi x2, vi x3, vi x4, vl x5])) rfl ?_
  refine w_c32 rfl (by decide) 0 (by decide) ?_
  refine w_st (ls' := [r0, vi x1, vi x2, vi x3, vi x4, vl x5, (s_uu t6), vl 0, .result, vi 0]) rfl (Or.inl ⟨by decide, rfl⟩) rfl ?_
  exact k

theorem k611_148 {P : s_P} {d : Nat} {Q : s_O → Prop} {h : s_H} {kc ks : Nat} {r0 : Term} {x1 x2 x3 x4 x5 : Int} {t6 : Term} {x7 : Int} {t8 : Term} {x9 : Int}  (k1 : x3 ≤ x9 → wr P d sw_c611 sw_h611 (193, [r0, vi x1, vi x2, vi x3, vi x4, vl x5, t6, vl x7, t8, vi x9], [], h, kc, ks) Q) (k2 : ¬ x3 ≤ x9 → wr P d sw_c611 sw_h611 (154, [r0, vi x1, vi x2, vi x3, vi x4, vl x5, t6, vl x7, t8, vi x9], [], h, kc, ks) Q)  (c1 : In3 x9 := by first | omega | assumption | (simp only [mk_len, List.length_map]; omega) | decide) (c2 : In3 x3 := by first | omega | assumption | (simp only [mk_len, List.length_map]; omega) | decide) : wr P d sw_c611 sw_h611 (148, [r0, vi x1, vi x2, vi x3, vi x4, vl x5, t6, vl x7, t8, vi x9], [], h, kc, ks) Q := by
  refine w_ld rfl rfl (Or.inl ⟨by decide, rfl⟩) ?_
  refine w_ld rfl rfl (Or.inl ⟨by decide, rfl⟩) ?_
  exact w_if2 rfl c1 c2 k1 k2

theorem k611_154 {P : s_P} {d : Nat} {Q : s_O → Prop} {h : s_H} {kc ks : Nat} {r0 : Term} {x1 x2 x3 x4 x5 : Int} {t6 : Term} {x7 : Int} {t8 : Term} {x9 : Int} {q2 : Nat} {f3 : List Term} (g4 : s_get h q2 = some (1, 11, f3)) (k : wm P d 590 [.index q2, vi x1, vi x9, vi (x4 - x3)] h (wq P d sw_c611 sw_h611 167 [.index q2, vi x1, vi x2, vi x3, vi x4, vl x5, t6, vl x7, t8, vi x9] [vl x7] kc ks Q)) (e_q2 : r0 = .index q2 := by first | rfl | assumption) (y1 : s_ty r0 = 3 := by first | rfl | assumption)  : wr P d sw_c611 sw_h611 (154, [r0, vi x1, vi x2, vi x3, vi x4, vl x5, t6, vl x7, t8, vi x9], [], h, kc, ks) Q := by
  refine w_ld rfl rfl (Or.inr (Or.inl ⟨by decide, rfl⟩)) ?_
  refine w_ld rfl rfl (Or.inr (Or.inr ⟨by decide, y1⟩)) ?_
  refine w_ld rfl rfl (Or.inl ⟨by decide, rfl⟩) ?_
  refine w_ld rfl rfl (Or.inl ⟨by decide, rfl⟩) ?_
  refine w_ld rfl rfl (Or.inl ⟨by decide, rfl⟩) ?_
  refine w_ld rfl rfl (Or.inl ⟨by decide, rfl⟩) ?_
  refine w_isub rfl ?_
  subst e_q2
  exact w_cv rfl [.index q2, vi x1, vi x9, vi (x4 - x3)] [vl x7] rfl rfl (s_wt_4 rfl) rfl g4 k

theorem k611_167 {P : s_P} {d : Nat} {Q : s_O → Prop} {h : s_H} {kc ks : Nat} {r0 : Term} {x1 x2 x3 x4 x5 : Int} {t6 : Term} {x7 : Int} {t8 : Term} {x9 s0 s1 : Int} {q2 : Nat} {f3 : List Term} {v5 : Term} {q7 : Nat} {a8 : List Int} (g4 : s_get h q2 = some (1, 11, f3)) (g9 : s_get h q7 = some (0, 1, a8.map vl)) (k : wr P d sw_c611 sw_h611 (148, [.index q2, vi x1, vi x2, vi x3, vi x4, vl x5, (s_uu t6), vl (Int.tmod (s0 + (s1 * (gi a8 ((x4 - x3) + x9)))) 32003), .result, vi (x9 + 1)], [], h, kc, ks) Q) (e_q2 : r0 = .index q2 := by first | rfl | assumption) (e_q7 : v5 = .index q7 := by first | rfl | assumption) (y1 : s_ty r0 = 3 := by first | rfl | assumption) (n6 : s_nth f3 14 = some v5 := by first | rfl | assumption) (c10 : (x4 - x3) + x9 < a8.length := by first | omega | assumption | (simp only [mk_len, List.length_map]; omega) | decide) (c11 : 0 ≤ (x4 - x3) + x9 := by first | omega | assumption | (simp only [mk_len, List.length_map]; omega) | decide) (c12 : In3 ((x4 - x3) + x9) := by first | omega | assumption | (simp only [mk_len, List.length_map]; omega) | decide) (c13 : In6 (s0 + (s1 * (gi a8 ((x4 - x3) + x9)))) := by first | omega | assumption | (simp only [mk_len, List.length_map]; omega) | decide) : wr P d sw_c611 sw_h611 (167, [r0, vi x1, vi x2, vi x3, vi x4, vl x5, t6, vl x7, t8, vi x9], [vl s1, vl s0], h, kc, ks) Q := by
  refine w_ld rfl rfl (Or.inr (Or.inr ⟨by decide, y1⟩)) ?_
  subst e_q2
  refine w_getf rfl g4 n6 ?_
  refine w_ld rfl rfl (Or.inl ⟨by decide, rfl⟩) ?_
  refine w_ld rfl rfl (Or.inl ⟨by decide, rfl⟩) ?_
  refine w_isub rfl ?_
  refine w_ld rfl rfl (Or.inl ⟨by decide, rfl⟩) ?_
  refine w_iadd rfl ?_
  subst e_q7
  refine w_lald rfl g9 c12 c11 c10 ?_
  refine w_lmul rfl ?_
  refine w_ladd rfl ?_
  refine w_c64 rfl (by decide) 32003 (by decide) ?_
  refine w_lrem rfl c13 (by decide) (by decide) ?_
  refine w_stl (ls' := [.index q2, vi x1, vi x2, vi x3, vi x4, vl x5, (s_uu t6), vl (Int.tmod (s0 + (s1 * (gi a8 ((x4 - x3) + x9)))) 32003), t8, vi x9]) (ls'' := [.index q2, vi x1, vi x2, vi x3, vi x4, vl x5, (s_uu t6), vl (Int.tmod (s0 + (s1 * (gi a8 ((x4 - x3) + x9)))) 32003), .result, vi x9]) rfl ⟨by decide, rfl⟩ (s_stK_t (pre := [.index q2, vi x1, vi x2, vi x3, vi x4, vl x5])) rfl ?_
  refine w_iinc (ls' := [.index q2, vi x1, vi x2, vi x3, vi x4, vl x5, (s_uu t6), vl (Int.tmod (s0 + (s1 * (gi a8 ((x4 - x3) + x9)))) 32003), .result, vi (x9 + 1)]) rfl rfl 1 (by decide) rfl ?_
  refine w_goto rfl ?_
  exact k

theorem k611_193 {P : s_P} {d : Nat} {Q : s_O → Prop} {h : s_H} {kc ks : Nat} {r0 : Term} {x1 x2 x3 x4 x5 : Int} {t6 : Term} {x7 : Int} {t8 : Term} {x9 : Int} {q2 : Nat} {f3 : List Term} {v5 : Term} (g4 : s_get h q2 = some (1, 11, f3)) (k : wm P d 528 [vl (-x7)] h (wq P d sw_c611 sw_h611 205 [.index q2, vi x1, vi x2, vi x3, vi x4, vl x5, t6, vl x7, t8, vi x9] [vi x4, v5] kc ks Q)) (e_q2 : r0 = .index q2 := by first | rfl | assumption) (y1 : s_ty r0 = 3 := by first | rfl | assumption) (n6 : s_nth f3 14 = some v5 := by first | rfl | assumption)  : wr P d sw_c611 sw_h611 (193, [r0, vi x1, vi x2, vi x3, vi x4, vl x5, t6, vl x7, t8, vi x9], [], h, kc, ks) Q := by
  refine w_ld rfl rfl (Or.inr (Or.inr ⟨by decide, y1⟩)) ?_
  subst e_q2
  refine w_getf rfl g4 n6 ?_
  refine w_ld rfl rfl (Or.inl ⟨by decide, rfl⟩) ?_
  refine w_ld rfl rfl (Or.inr (Or.inl ⟨by decide, rfl⟩)) ?_
  refine w_lneg rfl ?_
  exact w_cs rfl [vl (-x7)] [vi x4, v5] rfl rfl (s_wt_4 rfl) k

theorem k611_205 {P : s_P} {d : Nat} {Q : s_O → Prop} {h : s_H} {kc ks : Nat} {r0 : Term} {x1 x2 x3 x4 x5 : Int} {t6 : Term} {x7 : Int} {t8 : Term} {x9 : Int} {s0 : Term} {s1 s2 : Int}  (k : wm P d 467 [vl x5] h (wq P d sw_c611 sw_h611 210 [r0, vi x1, vi x2, vi x3, vi x4, vl x5, t6, vl x7, t8, vi x9] [vl s2, vi s1, s0] kc ks Q))   : wr P d sw_c611 sw_h611 (205, [r0, vi x1, vi x2, vi x3, vi x4, vl x5, t6, vl x7, t8, vi x9], [vl s2, vi s1, s0], h, kc, ks) Q := by
  refine w_ld rfl rfl (Or.inr (Or.inl ⟨by decide, rfl⟩)) ?_
  exact w_cs rfl [vl x5] [vl s2, vi s1, s0] rfl rfl (s_wt_4 rfl) k

theorem k611_210 {P : s_P} {d : Nat} {Q : s_O → Prop} {h : s_H} {kc ks : Nat} {r0 : Term} {x1 x2 x3 x4 x5 : Int} {t6 : Term} {x7 : Int} {t8 : Term} {x9 : Int} {s0 : Term} {s1 s2 s3 : Int} {q2 : Nat} {a3 : List Int} (g4 : s_get h q2 = some (0, 1, a3.map vl)) (k : wr P d sw_c611 sw_h611 (216, [r0, vi x1, vi x2, vi x3, vi x4, vl x5, t6, vl x7, t8, vi x9], [], (hp h q2 (0, 1, (a3.set (Int.toNat (s1)) (Int.tmod (s2 * s3) 32003)).map vl)), kc, ks) Q) (e_q2 : s0 = .index q2 := by first | rfl | assumption) (c1 : In6 (s2 * s3) := by first | omega | assumption | (simp only [mk_len, List.length_map]; omega) | decide) (c5 : s1 < a3.length := by first | omega | assumption | (simp only [mk_len, List.length_map]; omega) | decide) (c6 : 0 ≤ s1 := by first | omega | assumption | (simp only [mk_len, List.length_map]; omega) | decide) (c7 : In3 s1 := by first | omega | assumption | (simp only [mk_len, List.length_map]; omega) | decide) (c8 : 0 < q2 := by first | omega | assumption | (simp only [mk_len, List.length_map]; omega) | decide) : wr P d sw_c611 sw_h611 (210, [r0, vi x1, vi x2, vi x3, vi x4, vl x5, t6, vl x7, t8, vi x9], [vl s3, vl s2, vi s1, s0], h, kc, ks) Q := by
  refine w_lmul rfl ?_
  refine w_c64 rfl (by decide) 32003 (by decide) ?_
  refine w_lrem rfl c1 (by decide) (by decide) ?_
  subst e_q2
  refine w_last rfl g4 (Nat.ble_eq_true_of_le c8) c7 c6 c5 ?_
  exact k

theorem k611_216 {P : s_P} {d : Nat} {Q : s_O → Prop} {h : s_H} {kc ks : Nat} {r0 : Term} {x1 x2 x3 x4 : Int} {t5 t6 t7 t8 t9 : Term}  (k : wr P d sw_c611 sw_h611 (87, [r0, vi x1, vi x2, vi x3, vi (x4 + 1), t5, t6, t7, t8, t9], [], h, kc, ks) Q)   : wr P d sw_c611 sw_h611 (216, [r0, vi x1, vi x2, vi x3, vi x4, t5, t6, t7, t8, t9], [], h, kc, ks) Q := by
  refine w_iinc (ls' := [r0, vi x1, vi x2, vi x3, vi (x4 + 1), t5, t6, t7, t8, t9]) rfl rfl 1 (by decide) rfl ?_
  refine w_goto rfl ?_
  exact k

theorem k611_222 {P : s_P} {d : Nat} {Q : s_O → Prop} {h : s_H} {kc ks : Nat} {r0 : Term} {x1 x2 x3 x4 : Int} {t5 t6 t7 t8 t9 : Term} {q2 : Nat} {f3 : List Term} (g4 : s_get h q2 = some (1, 11, f3)) (k : wm P d 499 [.index q2, vi 4] h (wq P d sw_c611 sw_h611 227 [.index q2, vi x1, vi x2, vi x3, vi x4, t5, t6, t7, t8, t9] [] kc ks Q)) (e_q2 : r0 = .index q2 := by first | rfl | assumption) (y1 : s_ty r0 = 3 := by first | rfl | assumption)  : wr P d sw_c611 sw_h611 (222, [r0, vi x1, vi x2, vi x3, vi x4, t5, t6, t7, t8, t9], [], h, kc, ks) Q := by
  refine w_ld rfl rfl (Or.inr (Or.inr ⟨by decide, y1⟩)) ?_
  refine w_c32 rfl (by decide) 4 (by decide) ?_
  subst e_q2
  exact w_cv rfl [.index q2, vi 4] [] rfl rfl (s_wt_4 rfl) rfl g4 k

theorem k611_227 {P : s_P} {d : Nat} {Q : s_O → Prop} {h : s_H} {kc ks : Nat} {r0 : Term} {x1 x2 x3 x4 : Int} {t5 t6 t7 t8 t9 : Term} {s0 : Int}  (k : Q (.inl (some (vi s0)), h, kc, ks))   : wr P d sw_c611 sw_h611 (227, [r0, vi x1, vi x2, vi x3, vi x4, t5, t6, t7, t8, t9], [vi s0], h, kc, ks) Q := by
  exact w_iret rfl k

/-! 612: FormulaWorksModel.value(IJ)I -/
theorem k612_0 {P : s_P} {d : Nat} {Q : s_O → Prop} {h : s_H} {kc ks : Nat} {r0 : Term} {x1 x2 : Int} {t3 t4 t5 : Term} {q2 : Nat} {f3 : List Term} (g4 : s_get h q2 = some (1, 11, f3)) (k : wm P d 481 [.index q2, vi x1, vi 0] h (wq P d sw_c612 sw_h612 6 [.index q2, vi x1, vl x2, t3, t4, t5] [] kc ks Q)) (e_q2 : r0 = .index q2 := by first | rfl | assumption) (y1 : s_ty r0 = 3 := by first | rfl | assumption)  : wr P d sw_c612 sw_h612 (0, [r0, vi x1, vl x2, t3, t4, t5], [], h, kc, ks) Q := by
  refine w_ld rfl rfl (Or.inr (Or.inr ⟨by decide, y1⟩)) ?_
  refine w_ld rfl rfl (Or.inl ⟨by decide, rfl⟩) ?_
  refine w_c32 rfl (by decide) 0 (by decide) ?_
  subst e_q2
  exact w_cv rfl [.index q2, vi x1, vi 0] [] rfl rfl (s_wt_4 rfl) rfl g4 k

theorem k612_6 {P : s_P} {d : Nat} {Q : s_O → Prop} {h : s_H} {kc ks : Nat} {r0 : Term} {x1 x2 : Int} {t3 t4 t5 : Term} {s0 : Int}  (k1 : s0 ≠ 0 → wr P d sw_c612 sw_h612 (11, [r0, vi x1, vl x2, t3, t4, t5], [], h, kc, ks) Q) (k2 : ¬ s0 ≠ 0 → wr P d sw_c612 sw_h612 (9, [r0, vi x1, vl x2, t3, t4, t5], [], h, kc, ks) Q)  (c1 : In3 s0 := by first | omega | assumption | (simp only [mk_len, List.length_map]; omega) | decide) : wr P d sw_c612 sw_h612 (6, [r0, vi x1, vl x2, t3, t4, t5], [vi s0], h, kc, ks) Q := by
  exact w_if1 rfl c1 k1 k2

theorem k612_9 {P : s_P} {d : Nat} {Q : s_O → Prop} {h : s_H} {kc ks : Nat} {r0 : Term} {x1 x2 : Int} {t3 t4 t5 : Term}  (k : Q (.inl (some (vi 0)), h, kc, ks))   : wr P d sw_c612 sw_h612 (9, [r0, vi x1, vl x2, t3, t4, t5], [], h, kc, ks) Q := by
  refine w_c32 rfl (by decide) 0 (by decide) ?_
  exact w_iret rfl k

theorem k612_11 {P : s_P} {d : Nat} {Q : s_O → Prop} {h : s_H} {kc ks : Nat} {r0 : Term} {x1 x2 : Int} {t3 t4 t5 : Term} {q2 : Nat} {f3 : List Term} {v5 : Term} (g4 : s_get h q2 = some (1, 11, f3)) (k : wm P d 528 [vl x2] h (wq P d sw_c612 sw_h612 19 [.index q2, vi x1, vl x2, t3, t4, t5] [v5] kc ks Q)) (e_q2 : r0 = .index q2 := by first | rfl | assumption) (y1 : s_ty r0 = 3 := by first | rfl | assumption) (n6 : s_nth f3 11 = some v5 := by first | rfl | assumption)  : wr P d sw_c612 sw_h612 (11, [r0, vi x1, vl x2, t3, t4, t5], [], h, kc, ks) Q := by
  refine w_ld rfl rfl (Or.inr (Or.inr ⟨by decide, y1⟩)) ?_
  subst e_q2
  refine w_getf rfl g4 n6 ?_
  refine w_ld rfl rfl (Or.inr (Or.inl ⟨by decide, rfl⟩)) ?_
  exact w_cs rfl [vl x2] [v5] rfl rfl (s_wt_4 rfl) k

theorem k612_19 {P : s_P} {d : Nat} {Q : s_O → Prop} {h : s_H} {kc ks : Nat} {r0 : Term} {x1 x2 : Int} {t3 t4 t5 s0 : Term} {s1 : Int}  (k : wm P d 613 [s0, vl s1] h (wq P d sw_c612 sw_h612 22 [r0, vi x1, vl x2, t3, t4, t5] [] kc ks Q))   : wr P d sw_c612 sw_h612 (19, [r0, vi x1, vl x2, t3, t4, t5], [vl s1, s0], h, kc, ks) Q := by
  exact w_cs rfl [s0, vl s1] [] rfl rfl (s_wt_4 rfl) k

theorem k612_22 {P : s_P} {d : Nat} {Q : s_O → Prop} {h : s_H} {kc ks : Nat} {r0 : Term} {x1 x2 : Int} {t3 t4 t5 : Term} {s0 : Int}  (k1 : s0 ≠ 0 → wr P d sw_c612 sw_h612 (35, [r0, vi x1, vl x2, (s_uu t3), vl s0, .result], [], h, kc, ks) Q) (k2 : ¬ s0 ≠ 0 → wr P d sw_c612 sw_h612 (31, [r0, vi x1, vl x2, (s_uu t3), vl s0, .result], [], h, kc, ks) Q)  (c1 : In6 s0 := by first | omega | assumption | (simp only [mk_len, List.length_map]; omega) | decide) : wr P d sw_c612 sw_h612 (22, [r0, vi x1, vl x2, t3, t4, t5], [vl s0], h, kc, ks) Q := by
  refine w_stl (ls' := [r0, vi x1, vl x2, (s_uu t3), vl s0, t5]) (ls'' := [r0, vi x1, vl x2, (s_uu t3), vl s0, .result]) rfl ⟨by decide, rfl⟩ (s_stK_t (pre := [r0, vi x1, vl x2])) rfl ?_
  refine w_ld rfl rfl (Or.inr (Or.inl ⟨by decide, rfl⟩)) ?_
  refine w_c64 rfl (by decide) 0 (by decide) ?_
  exact w_lcmp rfl rfl c1 (by decide) k1 k2

theorem k612_31 {P : s_P} {d : Nat} {Q : s_O → Prop} {h : s_H} {kc ks : Nat} {r0 : Term} {x1 x2 : Int} {t3 : Term} {x4 : Int} {t5 : Term}  (k : wr P d sw_c612 sw_h612 (57, [r0, vi x1, vl x2, t3, vl x4, t5], [vi (-1)], h, kc, ks) Q)   : wr P d sw_c612 sw_h612 (31, [r0, vi x1, vl x2, t3, vl x4, t5], [], h, kc, ks) Q := by
  refine w_c32 rfl (by decide) (-1) (by decide) ?_
  refine w_goto rfl ?_
  exact k

theorem k612_35 {P : s_P} {d : Nat} {Q : s_O → Prop} {h : s_H} {kc ks : Nat} {r0 : Term} {x1 x2 : Int} {t3 : Term} {x4 : Int} {t5 : Term} {q2 : Nat} {f3 : List Term} {v5 : Term} (g4 : s_get h q2 = some (1, 11, f3)) (k : wm P d 528 [vl x2] h (wq P d sw_c612 sw_h612 43 [.index q2, vi x1, vl x2, t3, vl x4, t5] [v5] kc ks Q)) (e_q2 : r0 = .index q2 := by first | rfl | assumption) (y1 : s_ty r0 = 3 := by first | rfl | assumption) (n6 : s_nth f3 10 = some v5 := by first | rfl | assumption)  : wr P d sw_c612 sw_h612 (35, [r0, vi x1, vl x2, t3, vl x4, t5], [], h, kc, ks) Q := by
  refine w_ld rfl rfl (Or.inr (Or.inr ⟨by decide, y1⟩)) ?_
  subst e_q2
  refine w_getf rfl g4 n6 ?_
  refine w_ld rfl rfl (Or.inr (Or.inl ⟨by decide, rfl⟩)) ?_
  exact w_cs rfl [vl x2] [v5] rfl rfl (s_wt_4 rfl) k

theorem k612_43 {P : s_P} {d : Nat} {Q : s_O → Prop} {h : s_H} {kc ks : Nat} {r0 : Term} {x1 x2 : Int} {t3 : Term} {x4 : Int} {t5 s0 : Term} {s1 : Int}  (k : wm P d 613 [s0, vl s1] h (wq P d sw_c612 sw_h612 46 [r0, vi x1, vl x2, t3, vl x4, t5] [] kc ks Q))   : wr P d sw_c612 sw_h612 (43, [r0, vi x1, vl x2, t3, vl x4, t5], [vl s1, s0], h, kc, ks) Q := by
  exact w_cs rfl [s0, vl s1] [] rfl rfl (s_wt_4 rfl) k

theorem k612_46 {P : s_P} {d : Nat} {Q : s_O → Prop} {h : s_H} {kc ks : Nat} {r0 : Term} {x1 x2 : Int} {t3 : Term} {x4 : Int} {t5 : Term} {s0 : Int}  (k : wm P d 467 [vl x4] h (wq P d sw_c612 sw_h612 51 [r0, vi x1, vl x2, t3, vl x4, t5] [vl s0] kc ks Q))   : wr P d sw_c612 sw_h612 (46, [r0, vi x1, vl x2, t3, vl x4, t5], [vl s0], h, kc, ks) Q := by
  refine w_ld rfl rfl (Or.inr (Or.inl ⟨by decide, rfl⟩)) ?_
  exact w_cs rfl [vl x4] [vl s0] rfl rfl (s_wt_4 rfl) k

theorem k612_51 {P : s_P} {d : Nat} {Q : s_O → Prop} {h : s_H} {kc ks : Nat} {r0 : Term} {x1 x2 : Int} {t3 : Term} {x4 : Int} {t5 : Term} {s0 s1 : Int}  (k : wr P d sw_c612 sw_h612 (57, [r0, vi x1, vl x2, t3, vl x4, t5], [vi (Int.tmod (s0 * s1) 32003)], h, kc, ks) Q)  (c1 : In6 (s0 * s1) := by first | omega | assumption | (simp only [mk_len, List.length_map]; omega) | decide) : wr P d sw_c612 sw_h612 (51, [r0, vi x1, vl x2, t3, vl x4, t5], [vl s1, vl s0], h, kc, ks) Q := by
  refine w_lmul rfl ?_
  refine w_c64 rfl (by decide) 32003 (by decide) ?_
  refine w_lrem rfl c1 (by decide) (by decide) ?_
  refine w_l2i rfl ?_
  exact k

theorem k612_57 {P : s_P} {d : Nat} {Q : s_O → Prop} {h : s_H} {kc ks : Nat} {r0 : Term} {x1 x2 : Int} {t3 : Term} {x4 : Int} {t5 : Term} {s0 : Int}  (k : Q (.inl (some (vi s0)), h, kc, ks))   : wr P d sw_c612 sw_h612 (57, [r0, vi x1, vl x2, t3, vl x4, t5], [vi s0], h, kc, ks) Q := by
  exact w_iret rfl k

/-! 613: FormulaWorksModel.valueAt([JJ)J -/
theorem k613_0 {P : s_P} {d : Nat} {Q : s_O → Prop} {h : s_H} {kc ks : Nat} {r0 : Term} {x1 : Int} {t2 t3 t4 t5 : Term}  (k : wm P d 463 [r0] h (wq P d sw_c613 sw_h613 6 [r0, vl x1, (s_uu t2), vl 0, .result, t5] [] kc ks Q)) (y1 : s_ty r0 = 3 := by first | rfl | assumption)  : wr P d sw_c613 sw_h613 (0, [r0, vl x1, t2, t3, t4, t5], [], h, kc, ks) Q := by
  refine w_c64 rfl (by decide) 0 (by decide) ?_
  refine w_stl (ls' := [r0, vl x1, (s_uu t2), vl 0, t4, t5]) (ls'' := [r0, vl x1, (s_uu t2), vl 0, .result, t5]) rfl ⟨by decide, rfl⟩ (s_stK_t (pre := [r0, vl x1])) rfl ?_
  refine w_ld rfl rfl (Or.inr (Or.inr ⟨by decide, y1⟩)) ?_
  exact w_cs rfl [r0] [] rfl rfl (s_wt_4 rfl) k

theorem k613_6 {P : s_P} {d : Nat} {Q : s_O → Prop} {h : s_H} {kc ks : Nat} {r0 : Term} {x1 : Int} {t2 : Term} {x3 : Int} {t4 t5 : Term} {s0 : Int}  (k : wr P d sw_c613 sw_h613 (8, [r0, vl x1, t2, vl x3, (s_uu t4), vi s0], [], h, kc, ks) Q)   : wr P d sw_c613 sw_h613 (6, [r0, vl x1, t2, vl x3, t4, t5], [vi s0], h, kc, ks) Q := by
  refine w_st (ls' := [r0, vl x1, t2, vl x3, (s_uu t4), vi s0]) rfl (Or.inl ⟨by decide, rfl⟩) (s_stK_t (pre := [r0, vl x1, t2, vl x3])) ?_
  exact k

theorem k613_8 {P : s_P} {d : Nat} {Q : s_O → Prop} {h : s_H} {kc ks : Nat} {r0 : Term} {x1 : Int} {t2 : Term} {x3 : Int} {t4 : Term} {x5 : Int}  (k1 : x5 < 0 → wr P d sw_c613 sw_h613 (32, [r0, vl x1, t2, vl x3, t4, vi x5], [], h, kc, ks) Q) (k2 : ¬ x5 < 0 → wr P d sw_c613 sw_h613 (13, [r0, vl x1, t2, vl x3, t4, vi x5], [], h, kc, ks) Q)  (c1 : In3 x5 := by first | omega | assumption | (simp only [mk_len, List.length_map]; omega) | decide) : wr P d sw_c613 sw_h613 (8, [r0, vl x1, t2, vl x3, t4, vi x5], [], h, kc, ks) Q := by
  refine w_ld rfl rfl (Or.inl ⟨by decide, rfl⟩) ?_
  exact w_if1 rfl c1 k1 k2

theorem k613_13 {P : s_P} {d : Nat} {Q : s_O → Prop} {h : s_H} {kc ks : Nat} {r0 : Term} {x1 : Int} {t2 : Term} {x3 : Int} {t4 : Term} {x5 : Int} {q2 : Nat} {a3 : List Int} (g4 : s_get h q2 = some (0, 1, a3.map vl)) (k : wr P d sw_c613 sw_h613 (8, [.index q2, vl x1, (s_uu t2), vl (Int.tmod ((x3 * x1) + (gi a3 x5)) 32003), .result, vi (x5 + (-1))], [], h, kc, ks) Q) (e_q2 : r0 = .index q2 := by first | rfl | assumption) (y1 : s_ty r0 = 3 := by first | rfl | assumption) (c5 : x5 < a3.length := by first | omega | assumption | (simp only [mk_len, List.length_map]; omega) | decide) (c6 : 0 ≤ x5 := by first | omega | assumption | (simp only [mk_len, List.length_map]; omega) | decide) (c7 : In3 x5 := by first | omega | assumption | (simp only [mk_len, List.length_map]; omega) | decide) (c8 : In6 ((x3 * x1) + (gi a3 x5)) := by first | omega | assumption | (simp only [mk_len, List.length_map]; omega) | decide) : wr P d sw_c613 sw_h613 (13, [r0, vl x1, t2, vl x3, t4, vi x5], [], h, kc, ks) Q := by
  refine w_ld rfl rfl (Or.inr (Or.inl ⟨by decide, rfl⟩)) ?_
  refine w_ld rfl rfl (Or.inr (Or.inl ⟨by decide, rfl⟩)) ?_
  refine w_lmul rfl ?_
  refine w_ld rfl rfl (Or.inr (Or.inr ⟨by decide, y1⟩)) ?_
  refine w_ld rfl rfl (Or.inl ⟨by decide, rfl⟩) ?_
  subst e_q2
  refine w_lald rfl g4 c7 c6 c5 ?_
  refine w_ladd rfl ?_
  refine w_c64 rfl (by decide) 32003 (by decide) ?_
  refine w_lrem rfl c8 (by decide) (by decide) ?_
  refine w_stl (ls' := [.index q2, vl x1, (s_uu t2), vl (Int.tmod ((x3 * x1) + (gi a3 x5)) 32003), t4, vi x5]) (ls'' := [.index q2, vl x1, (s_uu t2), vl (Int.tmod ((x3 * x1) + (gi a3 x5)) 32003), .result, vi x5]) rfl ⟨by decide, rfl⟩ (s_stK_t (pre := [.index q2, vl x1])) rfl ?_
  refine w_iinc (ls' := [.index q2, vl x1, (s_uu t2), vl (Int.tmod ((x3 * x1) + (gi a3 x5)) 32003), .result, vi (x5 + (-1))]) rfl rfl (-1) (by decide) rfl ?_
  refine w_goto rfl ?_
  exact k

theorem k613_32 {P : s_P} {d : Nat} {Q : s_O → Prop} {h : s_H} {kc ks : Nat} {r0 : Term} {x1 : Int} {t2 : Term} {x3 : Int} {t4 : Term} {x5 : Int}  (k : Q (.inl (some (vl x3)), h, kc, ks))   : wr P d sw_c613 sw_h613 (32, [r0, vl x1, t2, vl x3, t4, vi x5], [], h, kc, ks) Q := by
  refine w_ld rfl rfl (Or.inr (Or.inl ⟨by decide, rfl⟩)) ?_
  exact w_lret rfl k

/-! 614: FormulaWorksModel.within(II)I -/
theorem k614_0 {P : s_P} {d : Nat} {Q : s_O → Prop} {h : s_H} {kc ks : Nat} {r0 : Term} {x1 x2 : Int} {t3 t4 t5 : Term} {q2 : Nat} {f3 : List Term} (g4 : s_get h q2 = some (1, 11, f3)) (k : wm P d 492 [.index q2, vi x1] h (wq P d sw_c614 sw_h614 6 [.index q2, vi x1, vi x2, t3, t4, t5] [.index q2] kc ks Q)) (e_q2 : r0 = .index q2 := by first | rfl | assumption) (y1 : s_ty r0 = 3 := by first | rfl | assumption)  : wr P d sw_c614 sw_h614 (0, [r0, vi x1, vi x2, t3, t4, t5], [], h, kc, ks) Q := by
  refine w_ld rfl rfl (Or.inr (Or.inr ⟨by decide, y1⟩)) ?_
  refine w_ld rfl rfl (Or.inr (Or.inr ⟨by decide, y1⟩)) ?_
  refine w_ld rfl rfl (Or.inl ⟨by decide, rfl⟩) ?_
  subst e_q2
  exact w_cv rfl [.index q2, vi x1] [.index q2] rfl rfl (s_wt_4 rfl) rfl g4 k

theorem k614_6 {P : s_P} {d : Nat} {Q : s_O → Prop} {h : s_H} {kc ks : Nat} {r0 : Term} {x1 x2 : Int} {t3 t4 t5 s0 : Term} {s1 : Int}  (k1 : s1 = 0 → wr P d sw_c614 sw_h614 (17, [r0, vi x1, vi x2, t3, t4, t5], [s0], h, kc, ks) Q) (k2 : ¬ s1 = 0 → wr P d sw_c614 sw_h614 (9, [r0, vi x1, vi x2, t3, t4, t5], [s0], h, kc, ks) Q)  (c1 : In3 s1 := by first | omega | assumption | (simp only [mk_len, List.length_map]; omega) | decide) : wr P d sw_c614 sw_h614 (6, [r0, vi x1, vi x2, t3, t4, t5], [vi s1, s0], h, kc, ks) Q := by
  exact w_if1 rfl c1 k1 k2

theorem k614_9 {P : s_P} {d : Nat} {Q : s_O → Prop} {h : s_H} {kc ks : Nat} {r0 : Term} {x1 x2 : Int} {t3 t4 t5 s0 : Term} {q2 : Nat} {f3 : List Term} (g4 : s_get h q2 = some (1, 11, f3)) (k : wm P d 492 [.index q2, vi x2] h (wq P d sw_c614 sw_h614 14 [.index q2, vi x1, vi x2, t3, t4, t5] [s0] kc ks Q)) (e_q2 : r0 = .index q2 := by first | rfl | assumption) (y1 : s_ty r0 = 3 := by first | rfl | assumption)  : wr P d sw_c614 sw_h614 (9, [r0, vi x1, vi x2, t3, t4, t5], [s0], h, kc, ks) Q := by
  refine w_ld rfl rfl (Or.inr (Or.inr ⟨by decide, y1⟩)) ?_
  refine w_ld rfl rfl (Or.inl ⟨by decide, rfl⟩) ?_
  subst e_q2
  exact w_cv rfl [.index q2, vi x2] [s0] rfl rfl (s_wt_4 rfl) rfl g4 k

theorem k614_14 {P : s_P} {d : Nat} {Q : s_O → Prop} {h : s_H} {kc ks : Nat} {r0 : Term} {x1 x2 : Int} {t3 t4 t5 s0 : Term} {s1 : Int}  (k1 : s1 ≠ 0 → wr P d sw_c614 sw_h614 (21, [r0, vi x1, vi x2, t3, t4, t5], [s0], h, kc, ks) Q) (k2 : ¬ s1 ≠ 0 → wr P d sw_c614 sw_h614 (17, [r0, vi x1, vi x2, t3, t4, t5], [s0], h, kc, ks) Q)  (c1 : In3 s1 := by first | omega | assumption | (simp only [mk_len, List.length_map]; omega) | decide) : wr P d sw_c614 sw_h614 (14, [r0, vi x1, vi x2, t3, t4, t5], [vi s1, s0], h, kc, ks) Q := by
  exact w_if1 rfl c1 k1 k2

theorem k614_17 {P : s_P} {d : Nat} {Q : s_O → Prop} {h : s_H} {kc ks : Nat} {r0 : Term} {x1 x2 : Int} {t3 t4 t5 s0 : Term}  (k : wr P d sw_c614 sw_h614 (44, [r0, vi x1, vi x2, t3, t4, t5], [vi 1, s0], h, kc, ks) Q)   : wr P d sw_c614 sw_h614 (17, [r0, vi x1, vi x2, t3, t4, t5], [s0], h, kc, ks) Q := by
  refine w_c32 rfl (by decide) 1 (by decide) ?_
  refine w_goto rfl ?_
  exact k

theorem k614_21 {P : s_P} {d : Nat} {Q : s_O → Prop} {h : s_H} {kc ks : Nat} {r0 : Term} {x1 x2 : Int} {t3 t4 t5 s0 : Term} {q2 : Nat} {f3 : List Term} (g4 : s_get h q2 = some (1, 11, f3)) (k : wm P d 469 [.index q2, vi x1, vi 0] h (wq P d sw_c614 sw_h614 27 [.index q2, vi x1, vi x2, t3, t4, t5] [s0] kc ks Q)) (e_q2 : r0 = .index q2 := by first | rfl | assumption) (y1 : s_ty r0 = 3 := by first | rfl | assumption)  : wr P d sw_c614 sw_h614 (21, [r0, vi x1, vi x2, t3, t4, t5], [s0], h, kc, ks) Q := by
  refine w_ld rfl rfl (Or.inr (Or.inr ⟨by decide, y1⟩)) ?_
  refine w_ld rfl rfl (Or.inl ⟨by decide, rfl⟩) ?_
  refine w_c32 rfl (by decide) 0 (by decide) ?_
  subst e_q2
  exact w_cv rfl [.index q2, vi x1, vi 0] [s0] rfl rfl (s_wt_4 rfl) rfl g4 k

theorem k614_27 {P : s_P} {d : Nat} {Q : s_O → Prop} {h : s_H} {kc ks : Nat} {r0 : Term} {x1 x2 : Int} {t3 t4 t5 s0 : Term} {s1 : Int}  (k1 : s1 = 0 → wr P d sw_c614 sw_h614 (39, [r0, vi x1, vi x2, t3, t4, t5], [s0], h, kc, ks) Q) (k2 : ¬ s1 = 0 → wr P d sw_c614 sw_h614 (30, [r0, vi x1, vi x2, t3, t4, t5], [s0], h, kc, ks) Q)  (c1 : In3 s1 := by first | omega | assumption | (simp only [mk_len, List.length_map]; omega) | decide) : wr P d sw_c614 sw_h614 (27, [r0, vi x1, vi x2, t3, t4, t5], [vi s1, s0], h, kc, ks) Q := by
  exact w_if1 rfl c1 k1 k2

theorem k614_30 {P : s_P} {d : Nat} {Q : s_O → Prop} {h : s_H} {kc ks : Nat} {r0 : Term} {x1 x2 : Int} {t3 t4 t5 s0 : Term} {q2 : Nat} {f3 : List Term} (g4 : s_get h q2 = some (1, 11, f3)) (k : wm P d 469 [.index q2, vi x2, vi 2] h (wq P d sw_c614 sw_h614 36 [.index q2, vi x1, vi x2, t3, t4, t5] [s0] kc ks Q)) (e_q2 : r0 = .index q2 := by first | rfl | assumption) (y1 : s_ty r0 = 3 := by first | rfl | assumption)  : wr P d sw_c614 sw_h614 (30, [r0, vi x1, vi x2, t3, t4, t5], [s0], h, kc, ks) Q := by
  refine w_ld rfl rfl (Or.inr (Or.inr ⟨by decide, y1⟩)) ?_
  refine w_ld rfl rfl (Or.inl ⟨by decide, rfl⟩) ?_
  refine w_c32 rfl (by decide) 2 (by decide) ?_
  subst e_q2
  exact w_cv rfl [.index q2, vi x2, vi 2] [s0] rfl rfl (s_wt_4 rfl) rfl g4 k

theorem k614_36 {P : s_P} {d : Nat} {Q : s_O → Prop} {h : s_H} {kc ks : Nat} {r0 : Term} {x1 x2 : Int} {t3 t4 t5 s0 : Term} {s1 : Int}  (k1 : s1 ≠ 0 → wr P d sw_c614 sw_h614 (43, [r0, vi x1, vi x2, t3, t4, t5], [s0], h, kc, ks) Q) (k2 : ¬ s1 ≠ 0 → wr P d sw_c614 sw_h614 (39, [r0, vi x1, vi x2, t3, t4, t5], [s0], h, kc, ks) Q)  (c1 : In3 s1 := by first | omega | assumption | (simp only [mk_len, List.length_map]; omega) | decide) : wr P d sw_c614 sw_h614 (36, [r0, vi x1, vi x2, t3, t4, t5], [vi s1, s0], h, kc, ks) Q := by
  exact w_if1 rfl c1 k1 k2

theorem k614_39 {P : s_P} {d : Nat} {Q : s_O → Prop} {h : s_H} {kc ks : Nat} {r0 : Term} {x1 x2 : Int} {t3 t4 t5 s0 : Term}  (k : wr P d sw_c614 sw_h614 (44, [r0, vi x1, vi x2, t3, t4, t5], [vi 2, s0], h, kc, ks) Q)   : wr P d sw_c614 sw_h614 (39, [r0, vi x1, vi x2, t3, t4, t5], [s0], h, kc, ks) Q := by
  refine w_c32 rfl (by decide) 2 (by decide) ?_
  refine w_goto rfl ?_
  exact k

theorem k614_43 {P : s_P} {d : Nat} {Q : s_O → Prop} {h : s_H} {kc ks : Nat} {r0 : Term} {x1 x2 : Int} {t3 t4 t5 s0 : Term}  (k : wr P d sw_c614 sw_h614 (44, [r0, vi x1, vi x2, t3, t4, t5], [vi 0, s0], h, kc, ks) Q)   : wr P d sw_c614 sw_h614 (43, [r0, vi x1, vi x2, t3, t4, t5], [s0], h, kc, ks) Q := by
  refine w_c32 rfl (by decide) 0 (by decide) ?_
  exact k

theorem k614_44 {P : s_P} {d : Nat} {Q : s_O → Prop} {h : s_H} {kc ks : Nat} {r0 : Term} {x1 x2 : Int} {t3 t4 t5 s0 : Term} {s1 : Int} {q1 : Nat} {f2 : List Term} {q7 : Nat} {f8 : List Term} {z10 : Int} (g3 : s_get h q1 = some (1, 11, f2)) (g9 : s_get (hp h q1 (1, 11, f2.set 0 (vi s1))) q7 = some (1, 11, f8)) (k1 : z10 ≤ 0 → wr P d sw_c614 sw_h614 (56, [.index q7, vi x1, vi x2, t3, t4, t5], [], (hp h q1 (1, 11, f2.set 0 (vi s1))), kc, ks) Q) (k2 : ¬ z10 ≤ 0 → wr P d sw_c614 sw_h614 (54, [.index q7, vi x1, vi x2, t3, t4, t5], [], (hp h q1 (1, 11, f2.set 0 (vi s1))), kc, ks) Q) (e_q1 : s0 = .index q1 := by first | rfl | assumption) (e_q7 : r0 = .index q7 := by first | rfl | assumption) (l4 : 0 < f2.length := by first | exact Nat.le_of_ble_eq_true rfl | omega | assumption) (y6 : s_ty r0 = 3 := by first | rfl | assumption) (n11 : s_nth f8 0 = some (vi z10) := by first | rfl | assumption) (c5 : 0 < q1 := by first | omega | assumption | (simp only [mk_len, List.length_map]; omega) | decide) (c12 : In3 z10 := by first | omega | assumption | (simp only [mk_len, List.length_map]; omega) | decide) : wr P d sw_c614 sw_h614 (44, [r0, vi x1, vi x2, t3, t4, t5], [vi s1, s0], h, kc, ks) Q := by
  subst e_q1
  refine w_putf rfl g3 (Nat.ble_eq_true_of_le c5) rfl (Nat.ble_eq_true_of_le l4) ?_
  refine w_ld rfl rfl (Or.inr (Or.inr ⟨by decide, y6⟩)) ?_
  subst e_q7
  refine w_getf rfl g9 n11 ?_
  exact w_if1 rfl c12 k1 k2

theorem k614_54 {P : s_P} {d : Nat} {Q : s_O → Prop} {h : s_H} {kc ks : Nat} {r0 : Term} {x1 x2 : Int} {t3 t4 t5 : Term}  (k : Q (.inl (some (vi 0)), h, kc, ks))   : wr P d sw_c614 sw_h614 (54, [r0, vi x1, vi x2, t3, t4, t5], [], h, kc, ks) Q := by
  refine w_c32 rfl (by decide) 0 (by decide) ?_
  exact w_iret rfl k

theorem k614_56 {P : s_P} {d : Nat} {Q : s_O → Prop} {h : s_H} {kc ks : Nat} {r0 : Term} {x1 x2 : Int} {t3 t4 t5 : Term} {q2 : Nat} {f3 : List Term} {v5 v7 : Term} (g4 : s_get h q2 = some (1, 11, f3)) (k : wm P d 505 [.index q2, v5, v7, vi x1] h (wq P d sw_c614 sw_h614 69 [.index q2, vi x1, vi x2, t3, t4, t5] [] kc ks Q)) (e_q2 : r0 = .index q2 := by first | rfl | assumption) (y1 : s_ty r0 = 3 := by first | rfl | assumption) (n6 : s_nth f3 10 = some v5 := by first | rfl | assumption) (n8 : s_nth f3 11 = some v7 := by first | rfl | assumption)  : wr P d sw_c614 sw_h614 (56, [r0, vi x1, vi x2, t3, t4, t5], [], h, kc, ks) Q := by
  refine w_ld rfl rfl (Or.inr (Or.inr ⟨by decide, y1⟩)) ?_
  refine w_ld rfl rfl (Or.inr (Or.inr ⟨by decide, y1⟩)) ?_
  subst e_q2
  refine w_getf rfl g4 n6 ?_
  refine w_ld rfl rfl (Or.inr (Or.inr ⟨by decide, rfl⟩)) ?_
  refine w_getf rfl g4 n8 ?_
  refine w_ld rfl rfl (Or.inl ⟨by decide, rfl⟩) ?_
  exact w_cv rfl [.index q2, v5, v7, vi x1] [] rfl rfl (s_wt_4 rfl) rfl g4 k

theorem k614_69 {P : s_P} {d : Nat} {Q : s_O → Prop} {h : s_H} {kc ks : Nat} {r0 : Term} {x1 x2 : Int} {t3 t4 t5 : Term} {q2 : Nat} {f3 : List Term} {v5 : Term} (g4 : s_get h q2 = some (1, 11, f3)) (k : wm P d 483 [v5] h (wq P d sw_c614 sw_h614 76 [.index q2, vi x1, vi x2, t3, t4, t5] [] kc ks Q)) (e_q2 : r0 = .index q2 := by first | rfl | assumption) (y1 : s_ty r0 = 3 := by first | rfl | assumption) (n6 : s_nth f3 11 = some v5 := by first | rfl | assumption)  : wr P d sw_c614 sw_h614 (69, [r0, vi x1, vi x2, t3, t4, t5], [], h, kc, ks) Q := by
  refine w_ld rfl rfl (Or.inr (Or.inr ⟨by decide, y1⟩)) ?_
  subst e_q2
  refine w_getf rfl g4 n6 ?_
  exact w_cs rfl [v5] [] rfl rfl (s_wt_4 rfl) k

theorem k614_76 {P : s_P} {d : Nat} {Q : s_O → Prop} {h : s_H} {kc ks : Nat} {r0 : Term} {x1 x2 : Int} {t3 t4 t5 : Term} {s0 : Int}  (k1 : s0 = 0 → wr P d sw_c614 sw_h614 (87, [r0, vi x1, vi x2, t3, t4, t5], [], h, kc, ks) Q) (k2 : ¬ s0 = 0 → wr P d sw_c614 sw_h614 (79, [r0, vi x1, vi x2, t3, t4, t5], [], h, kc, ks) Q)  (c1 : In3 s0 := by first | omega | assumption | (simp only [mk_len, List.length_map]; omega) | decide) : wr P d sw_c614 sw_h614 (76, [r0, vi x1, vi x2, t3, t4, t5], [vi s0], h, kc, ks) Q := by
  exact w_if1 rfl c1 k1 k2

theorem k614_79 {P : s_P} {d : Nat} {Q : s_O → Prop} {h : s_H} {kc ks : Nat} {r0 : Term} {x1 x2 : Int} {t3 t4 t5 : Term} {q2 : Nat} {f3 : List Term} (g4 : s_get h q2 = some (1, 11, f3)) (k : wm P d 482 [.index q2, vi x2] h (wq P d sw_c614 sw_h614 84 [.index q2, vi x1, vi x2, t3, t4, t5] [] kc ks Q)) (e_q2 : r0 = .index q2 := by first | rfl | assumption) (y1 : s_ty r0 = 3 := by first | rfl | assumption)  : wr P d sw_c614 sw_h614 (79, [r0, vi x1, vi x2, t3, t4, t5], [], h, kc, ks) Q := by
  refine w_ld rfl rfl (Or.inr (Or.inr ⟨by decide, y1⟩)) ?_
  refine w_ld rfl rfl (Or.inl ⟨by decide, rfl⟩) ?_
  subst e_q2
  exact w_cv rfl [.index q2, vi x2] [] rfl rfl (s_wt_4 rfl) rfl g4 k

theorem k614_84 {P : s_P} {d : Nat} {Q : s_O → Prop} {h : s_H} {kc ks : Nat} {r0 : Term} {x1 x2 : Int} {t3 t4 t5 : Term} {s0 : Int}  (k1 : s0 ≠ 0 → wr P d sw_c614 sw_h614 (93, [r0, vi x1, vi x2, t3, t4, t5], [], h, kc, ks) Q) (k2 : ¬ s0 ≠ 0 → wr P d sw_c614 sw_h614 (87, [r0, vi x1, vi x2, t3, t4, t5], [], h, kc, ks) Q)  (c1 : In3 s0 := by first | omega | assumption | (simp only [mk_len, List.length_map]; omega) | decide) : wr P d sw_c614 sw_h614 (84, [r0, vi x1, vi x2, t3, t4, t5], [vi s0], h, kc, ks) Q := by
  exact w_if1 rfl c1 k1 k2

theorem k614_87 {P : s_P} {d : Nat} {Q : s_O → Prop} {h : s_H} {kc ks : Nat} {r0 : Term} {x1 x2 : Int} {t3 t4 t5 : Term} {q2 : Nat} {f3 : List Term} (g4 : s_get h q2 = some (1, 11, f3)) (k : wm P d 570 [.index q2, vi 2] h (wq P d sw_c614 sw_h614 92 [.index q2, vi x1, vi x2, t3, t4, t5] [] kc ks Q)) (e_q2 : r0 = .index q2 := by first | rfl | assumption) (y1 : s_ty r0 = 3 := by first | rfl | assumption)  : wr P d sw_c614 sw_h614 (87, [r0, vi x1, vi x2, t3, t4, t5], [], h, kc, ks) Q := by
  refine w_ld rfl rfl (Or.inr (Or.inr ⟨by decide, y1⟩)) ?_
  refine w_c32 rfl (by decide) 2 (by decide) ?_
  subst e_q2
  exact w_cv rfl [.index q2, vi 2] [] rfl rfl (s_wt_4 rfl) rfl g4 k

theorem k614_92 {P : s_P} {d : Nat} {Q : s_O → Prop} {h : s_H} {kc ks : Nat} {r0 : Term} {x1 x2 : Int} {t3 t4 t5 : Term} {s0 : Int}  (k : Q (.inl (some (vi s0)), h, kc, ks))   : wr P d sw_c614 sw_h614 (92, [r0, vi x1, vi x2, t3, t4, t5], [vi s0], h, kc, ks) Q := by
  exact w_iret rfl k

theorem k614_93 {P : s_P} {d : Nat} {Q : s_O → Prop} {h : s_H} {kc ks : Nat} {r0 : Term} {x1 x2 : Int} {t3 t4 t5 : Term} {q2 : Nat} {f3 : List Term} {z5 : Int} (g4 : s_get h q2 = some (1, 11, f3)) (k1 : z5 ≠ 150 → wr P d sw_c614 sw_h614 (109, [.index q2, vi x1, vi x2, t3, t4, t5], [], h, kc, ks) Q) (k2 : ¬ z5 ≠ 150 → wr P d sw_c614 sw_h614 (103, [.index q2, vi x1, vi x2, t3, t4, t5], [], h, kc, ks) Q) (e_q2 : r0 = .index q2 := by first | rfl | assumption) (y1 : s_ty r0 = 3 := by first | rfl | assumption) (n6 : s_nth f3 1 = some (vi z5) := by first | rfl | assumption) (c7 : In3 z5 := by first | omega | assumption | (simp only [mk_len, List.length_map]; omega) | decide) : wr P d sw_c614 sw_h614 (93, [r0, vi x1, vi x2, t3, t4, t5], [], h, kc, ks) Q := by
  refine w_ld rfl rfl (Or.inr (Or.inr ⟨by decide, y1⟩)) ?_
  subst e_q2
  refine w_getf rfl g4 n6 ?_
  refine w_c32 rfl (by decide) 150 (by decide) ?_
  exact w_if2 rfl c7 (by decide) k1 k2

theorem k614_103 {P : s_P} {d : Nat} {Q : s_O → Prop} {h : s_H} {kc ks : Nat} {r0 : Term} {x1 x2 : Int} {t3 t4 t5 : Term} {q2 : Nat} {f3 : List Term} (g4 : s_get h q2 = some (1, 11, f3)) (k : wm P d 570 [.index q2, vi 3] h (wq P d sw_c614 sw_h614 108 [.index q2, vi x1, vi x2, t3, t4, t5] [] kc ks Q)) (e_q2 : r0 = .index q2 := by first | rfl | assumption) (y1 : s_ty r0 = 3 := by first | rfl | assumption)  : wr P d sw_c614 sw_h614 (103, [r0, vi x1, vi x2, t3, t4, t5], [], h, kc, ks) Q := by
  refine w_ld rfl rfl (Or.inr (Or.inr ⟨by decide, y1⟩)) ?_
  refine w_c32 rfl (by decide) 3 (by decide) ?_
  subst e_q2
  exact w_cv rfl [.index q2, vi 3] [] rfl rfl (s_wt_4 rfl) rfl g4 k

theorem k614_108 {P : s_P} {d : Nat} {Q : s_O → Prop} {h : s_H} {kc ks : Nat} {r0 : Term} {x1 x2 : Int} {t3 t4 t5 : Term} {s0 : Int}  (k : Q (.inl (some (vi s0)), h, kc, ks))   : wr P d sw_c614 sw_h614 (108, [r0, vi x1, vi x2, t3, t4, t5], [vi s0], h, kc, ks) Q := by
  exact w_iret rfl k

theorem k614_109 {P : s_P} {d : Nat} {Q : s_O → Prop} {h : s_H} {kc ks : Nat} {r0 : Term} {x1 x2 : Int} {t3 t4 t5 : Term} {q2 : Nat} {f3 : List Term} {v5 : Term} {q7 : Nat} {a8 : List Int} (g4 : s_get h q2 = some (1, 11, f3)) (g9 : s_get h q7 = some (0, 0, a8.map vi)) (k : wr P d sw_c614 sw_h614 (119, [.index q2, vi x1, vi x2, vi (gi a8 x2), vi 0, t5], [], h, kc, ks) Q) (e_q2 : r0 = .index q2 := by first | rfl | assumption) (e_q7 : v5 = .index q7 := by first | rfl | assumption) (y1 : s_ty r0 = 3 := by first | rfl | assumption) (n6 : s_nth f3 5 = some v5 := by first | rfl | assumption) (c10 : x2 < a8.length := by first | omega | assumption | (simp only [mk_len, List.length_map]; omega) | decide) (c11 : 0 ≤ x2 := by first | omega | assumption | (simp only [mk_len, List.length_map]; omega) | decide) (c12 : In3 x2 := by first | omega | assumption | (simp only [mk_len, List.length_map]; omega) | decide) : wr P d sw_c614 sw_h614 (109, [r0, vi x1, vi x2, t3, t4, t5], [], h, kc, ks) Q := by
  refine w_ld rfl rfl (Or.inr (Or.inr ⟨by decide, y1⟩)) ?_
  subst e_q2
  refine w_getf rfl g4 n6 ?_
  refine w_ld rfl rfl (Or.inl ⟨by decide, rfl⟩) ?_
  subst e_q7
  refine w_iald rfl g9 (Or.inl rfl) c12 c11 c10 ?_
  refine w_st (ls' := [.index q2, vi x1, vi x2, vi (gi a8 x2), t4, t5]) rfl (Or.inl ⟨by decide, rfl⟩) rfl ?_
  refine w_c32 rfl (by decide) 0 (by decide) ?_
  refine w_st (ls' := [.index q2, vi x1, vi x2, vi (gi a8 x2), vi 0, t5]) rfl (Or.inl ⟨by decide, rfl⟩) rfl ?_
  exact k

theorem k614_119 {P : s_P} {d : Nat} {Q : s_O → Prop} {h : s_H} {kc ks : Nat} {r0 : Term} {x1 x2 x3 x4 : Int} {t5 : Term}  (k1 : 16 ≤ x4 → wr P d sw_c614 sw_h614 (159, [r0, vi x1, vi x2, vi x3, vi x4, t5], [], h, kc, ks) Q) (k2 : ¬ 16 ≤ x4 → wr P d sw_c614 sw_h614 (126, [r0, vi x1, vi x2, vi x3, vi x4, t5], [], h, kc, ks) Q)  (c1 : In3 x4 := by first | omega | assumption | (simp only [mk_len, List.length_map]; omega) | decide) : wr P d sw_c614 sw_h614 (119, [r0, vi x1, vi x2, vi x3, vi x4, t5], [], h, kc, ks) Q := by
  refine w_ld rfl rfl (Or.inl ⟨by decide, rfl⟩) ?_
  refine w_c32 rfl (by decide) 16 (by decide) ?_
  exact w_if2 rfl c1 (by decide) k1 k2

theorem k614_126 {P : s_P} {d : Nat} {Q : s_O → Prop} {h : s_H} {kc ks : Nat} {r0 : Term} {x1 x2 x3 x4 : Int} {t5 : Term} {q2 : Nat} {f3 : List Term} {v5 : Term} {q7 : Nat} {a8 : List Int} {f14 : List Term} {v16 : Term} (g4 : s_get h q2 = some (1, 11, f3)) (g9 : s_get h q7 = some (0, 1, a8.map vl)) (g15 : s_get (hp h q7 (0, 1, (a8.set (Int.toNat (x4)) 0).map vl)) q2 = some (1, 11, f14)) (k1 : Int.tmod x4 5 ≠ 0 → wr P d sw_c614 sw_h614 (151, [.index q2, vi x1, vi x2, vi x3, vi x4, t5], [vi x4, v16], (hp h q7 (0, 1, (a8.set (Int.toNat (x4)) 0).map vl)), kc, ks) Q) (k2 : ¬ Int.tmod x4 5 ≠ 0 → wr P d sw_c614 sw_h614 (147, [.index q2, vi x1, vi x2, vi x3, vi x4, t5], [vi x4, v16], (hp h q7 (0, 1, (a8.set (Int.toNat (x4)) 0).map vl)), kc, ks) Q) (e_q2 : r0 = .index q2 := by first | rfl | assumption) (e_q7 : v5 = .index q7 := by first | rfl | assumption) (y1 : s_ty r0 = 3 := by first | rfl | assumption) (n6 : s_nth f3 48 = some v5 := by first | rfl | assumption) (n17 : s_nth f14 47 = some v16 := by first | rfl | assumption) (c10 : x4 < a8.length := by first | omega | assumption | (simp only [mk_len, List.length_map]; omega) | decide) (c11 : 0 ≤ x4 := by first | omega | assumption | (simp only [mk_len, List.length_map]; omega) | decide) (c12 : In3 x4 := by first | omega | assumption | (simp only [mk_len, List.length_map]; omega) | decide) (c13 : 0 < q7 := by first | omega | assumption | (simp only [mk_len, List.length_map]; omega) | decide) (c18 : In3 (Int.tmod x4 5) := by first | omega | assumption | (simp only [mk_len, List.length_map]; omega) | decide) : wr P d sw_c614 sw_h614 (126, [r0, vi x1, vi x2, vi x3, vi x4, t5], [], h, kc, ks) Q := by
  refine w_ld rfl rfl (Or.inr (Or.inr ⟨by decide, y1⟩)) ?_
  subst e_q2
  refine w_getf rfl g4 n6 ?_
  refine w_ld rfl rfl (Or.inl ⟨by decide, rfl⟩) ?_
  refine w_c64 rfl (by decide) 0 (by decide) ?_
  subst e_q7
  refine w_last rfl g9 (Nat.ble_eq_true_of_le c13) c12 c11 c10 ?_
  refine w_ld rfl rfl (Or.inr (Or.inr ⟨by decide, rfl⟩)) ?_
  refine w_getf rfl g15 n17 ?_
  refine w_ld rfl rfl (Or.inl ⟨by decide, rfl⟩) ?_
  refine w_ld rfl rfl (Or.inl ⟨by decide, rfl⟩) ?_
  refine w_c32 rfl (by decide) 5 (by decide) ?_
  refine w_irem rfl c12 (by decide) (by decide) ?_
  exact w_if1 rfl c18 k1 k2

theorem k614_147 {P : s_P} {d : Nat} {Q : s_O → Prop} {h : s_H} {kc ks : Nat} {r0 : Term} {x1 x2 x3 x4 : Int} {t5 s0 : Term} {s1 : Int}  (k : wr P d sw_c614 sw_h614 (152, [r0, vi x1, vi x2, vi x3, vi x4, t5], [vl 1, vi s1, s0], h, kc, ks) Q)   : wr P d sw_c614 sw_h614 (147, [r0, vi x1, vi x2, vi x3, vi x4, t5], [vi s1, s0], h, kc, ks) Q := by
  refine w_c64 rfl (by decide) 1 (by decide) ?_
  refine w_goto rfl ?_
  exact k

theorem k614_151 {P : s_P} {d : Nat} {Q : s_O → Prop} {h : s_H} {kc ks : Nat} {r0 : Term} {x1 x2 x3 x4 : Int} {t5 s0 : Term} {s1 : Int}  (k : wr P d sw_c614 sw_h614 (152, [r0, vi x1, vi x2, vi x3, vi x4, t5], [vl 0, vi s1, s0], h, kc, ks) Q)   : wr P d sw_c614 sw_h614 (151, [r0, vi x1, vi x2, vi x3, vi x4, t5], [vi s1, s0], h, kc, ks) Q := by
  refine w_c64 rfl (by decide) 0 (by decide) ?_
  exact k

theorem k614_152 {P : s_P} {d : Nat} {Q : s_O → Prop} {h : s_H} {kc ks : Nat} {r0 : Term} {x1 x2 x3 x4 : Int} {t5 s0 : Term} {s1 s2 : Int} {q1 : Nat} {a2 : List Int} (g3 : s_get h q1 = some (0, 1, a2.map vl)) (k : wr P d sw_c614 sw_h614 (119, [r0, vi x1, vi x2, vi x3, vi (x4 + 1), t5], [], (hp h q1 (0, 1, (a2.set (Int.toNat (s1)) s2).map vl)), kc, ks) Q) (e_q1 : s0 = .index q1 := by first | rfl | assumption) (c4 : s1 < a2.length := by first | omega | assumption | (simp only [mk_len, List.length_map]; omega) | decide) (c5 : 0 ≤ s1 := by first | omega | assumption | (simp only [mk_len, List.length_map]; omega) | decide) (c6 : In3 s1 := by first | omega | assumption | (simp only [mk_len, List.length_map]; omega) | decide) (c7 : 0 < q1 := by first | omega | assumption | (simp only [mk_len, List.length_map]; omega) | decide) : wr P d sw_c614 sw_h614 (152, [r0, vi x1, vi x2, vi x3, vi x4, t5], [vl s2, vi s1, s0], h, kc, ks) Q := by
  subst e_q1
  refine w_last rfl g3 (Nat.ble_eq_true_of_le c7) c6 c5 c4 ?_
  refine w_iinc (ls' := [r0, vi x1, vi x2, vi x3, vi (x4 + 1), t5]) rfl rfl 1 (by decide) rfl ?_
  refine w_goto rfl ?_
  exact k

theorem k614_159 {P : s_P} {d : Nat} {Q : s_O → Prop} {h : s_H} {kc ks : Nat} {r0 : Term} {x1 x2 x3 x4 : Int} {t5 : Term}  (k : wr P d sw_c614 sw_h614 (162, [r0, vi x1, vi x2, vi x3, vi 0, t5], [], h, kc, ks) Q)   : wr P d sw_c614 sw_h614 (159, [r0, vi x1, vi x2, vi x3, vi x4, t5], [], h, kc, ks) Q := by
  refine w_c32 rfl (by decide) 0 (by decide) ?_
  refine w_st (ls' := [r0, vi x1, vi x2, vi x3, vi 0, t5]) rfl (Or.inl ⟨by decide, rfl⟩) rfl ?_
  exact k

theorem k614_162 {P : s_P} {d : Nat} {Q : s_O → Prop} {h : s_H} {kc ks : Nat} {r0 : Term} {x1 x2 x3 x4 : Int} {t5 : Term} {q2 : Nat} {f3 : List Term} {v5 : Term} (g4 : s_get h q2 = some (1, 11, f3)) (k : wm P d 463 [v5] h (wq P d sw_c614 sw_h614 171 [.index q2, vi x1, vi x2, vi x3, vi x4, t5] [vi x4] kc ks Q)) (e_q2 : r0 = .index q2 := by first | rfl | assumption) (y1 : s_ty r0 = 3 := by first | rfl | assumption) (n6 : s_nth f3 10 = some v5 := by first | rfl | assumption)  : wr P d sw_c614 sw_h614 (162, [r0, vi x1, vi x2, vi x3, vi x4, t5], [], h, kc, ks) Q := by
  refine w_ld rfl rfl (Or.inl ⟨by decide, rfl⟩) ?_
  refine w_ld rfl rfl (Or.inr (Or.inr ⟨by decide, y1⟩)) ?_
  subst e_q2
  refine w_getf rfl g4 n6 ?_
  exact w_cs rfl [v5] [vi x4] rfl rfl (s_wt_4 rfl) k

theorem k614_171 {P : s_P} {d : Nat} {Q : s_O → Prop} {h : s_H} {kc ks : Nat} {r0 : Term} {x1 x2 x3 x4 : Int} {t5 : Term} {s0 s1 : Int}  (k1 : s1 < s0 → wr P d sw_c614 sw_h614 (236, [r0, vi x1, vi x2, vi x3, vi x4, t5], [], h, kc, ks) Q) (k2 : ¬ s1 < s0 → wr P d sw_c614 sw_h614 (174, [r0, vi x1, vi x2, vi x3, vi x4, t5], [], h, kc, ks) Q)  (c1 : In3 s0 := by first | omega | assumption | (simp only [mk_len, List.length_map]; omega) | decide) (c2 : In3 s1 := by first | omega | assumption | (simp only [mk_len, List.length_map]; omega) | decide) : wr P d sw_c614 sw_h614 (171, [r0, vi x1, vi x2, vi x3, vi x4, t5], [vi s1, vi s0], h, kc, ks) Q := by
  exact w_if2 rfl c1 c2 k1 k2

theorem k614_174 {P : s_P} {d : Nat} {Q : s_O → Prop} {h : s_H} {kc ks : Nat} {r0 : Term} {x1 x2 x3 x4 : Int} {t5 : Term}  (k : wr P d sw_c614 sw_h614 (177, [r0, vi x1, vi x2, vi x3, vi x4, vi 0], [], h, kc, ks) Q)   : wr P d sw_c614 sw_h614 (174, [r0, vi x1, vi x2, vi x3, vi x4, t5], [], h, kc, ks) Q := by
  refine w_c32 rfl (by decide) 0 (by decide) ?_
  refine w_st (ls' := [r0, vi x1, vi x2, vi x3, vi x4, vi 0]) rfl (Or.inl ⟨by decide, rfl⟩) rfl ?_
  exact k

theorem k614_177 {P : s_P} {d : Nat} {Q : s_O → Prop} {h : s_H} {kc ks : Nat} {r0 : Term} {x1 x2 x3 x4 x5 : Int}  (k1 : 16 ≤ x5 → wr P d sw_c614 sw_h614 (224, [r0, vi x1, vi x2, vi x3, vi x4, vi x5], [], h, kc, ks) Q) (k2 : ¬ 16 ≤ x5 → wr P d sw_c614 sw_h614 (184, [r0, vi x1, vi x2, vi x3, vi x4, vi x5], [], h, kc, ks) Q)  (c1 : In3 x5 := by first | omega | assumption | (simp only [mk_len, List.length_map]; omega) | decide) : wr P d sw_c614 sw_h614 (177, [r0, vi x1, vi x2, vi x3, vi x4, vi x5], [], h, kc, ks) Q := by
  refine w_ld rfl rfl (Or.inl ⟨by decide, rfl⟩) ?_
  refine w_c32 rfl (by decide) 16 (by decide) ?_
  exact w_if2 rfl c1 (by decide) k1 k2

theorem k614_184 {P : s_P} {d : Nat} {Q : s_O → Prop} {h : s_H} {kc ks : Nat} {r0 : Term} {x1 x2 x3 x4 x5 : Int} {q2 : Nat} {f3 : List Term} {v5 : Term} {q7 : Nat} {a8 : List Int} {v13 : Term} {q15 : Nat} {a16 : List Int} {v21 : Term} {q23 : Nat} {a24 : List Int} (g4 : s_get h q2 = some (1, 11, f3)) (g9 : s_get h q7 = some (0, 1, a8.map vl)) (g17 : s_get h q15 = some (0, 1, a16.map vl)) (g25 : s_get h q23 = some (0, 1, a24.map vl)) (k : wr P d sw_c614 sw_h614 (177, [.index q2, vi x1, vi x2, vi x3, vi x4, vi (x5 + 1)], [], (hp h q7 (0, 1, (a8.set (Int.toNat (x5)) (Int.tmod ((gi a8 x5) + ((gi a16 x4) * (gi a24 x5))) 32003)).map vl)), kc, ks) Q) (e_q2 : r0 = .index q2 := by first | rfl | assumption) (e_q7 : v5 = .index q7 := by first | rfl | assumption) (e_q15 : v13 = .index q15 := by first | rfl | assumption) (e_q23 : v21 = .index q23 := by first | rfl | assumption) (y1 : s_ty r0 = 3 := by first | rfl | assumption) (n6 : s_nth f3 48 = some v5 := by first | rfl | assumption) (n14 : s_nth f3 10 = some v13 := by first | rfl | assumption) (n22 : s_nth f3 47 = some v21 := by first | rfl | assumption) (c10 : x5 < a8.length := by first | omega | assumption | (simp only [mk_len, List.length_map]; omega) | decide) (c11 : 0 ≤ x5 := by first | omega | assumption | (simp only [mk_len, List.length_map]; omega) | decide) (c12 : In3 x5 := by first | omega | assumption | (simp only [mk_len, List.length_map]; omega) | decide) (c18 : x4 < a16.length := by first | omega | assumption | (simp only [mk_len, List.length_map]; omega) | decide) (c19 : 0 ≤ x4 := by first | omega | assumption | (simp only [mk_len, List.length_map]; omega) | decide) (c20 : In3 x4 := by first | omega | assumption | (simp only [mk_len, List.length_map]; omega) | decide) (c26 : x5 < a24.length := by first | omega | assumption | (simp only [mk_len, List.length_map]; omega) | decide) (c27 : In6 ((gi a8 x5) + ((gi a16 x4) * (gi a24 x5))) := by first | omega | assumption | (simp only [mk_len, List.length_map]; omega) | decide) (c28 : 0 < q7 := by first | omega | assumption | (simp only [mk_len, List.length_map]; omega) | decide) : wr P d sw_c614 sw_h614 (184, [r0, vi x1, vi x2, vi x3, vi x4, vi x5], [], h, kc, ks) Q := by
  refine w_ld rfl rfl (Or.inr (Or.inr ⟨by decide, y1⟩)) ?_
  subst e_q2
  refine w_getf rfl g4 n6 ?_
  refine w_ld rfl rfl (Or.inl ⟨by decide, rfl⟩) ?_
  refine w_ld rfl rfl (Or.inr (Or.inr ⟨by decide, rfl⟩)) ?_
  refine w_getf rfl g4 n6 ?_
  refine w_ld rfl rfl (Or.inl ⟨by decide, rfl⟩) ?_
  subst e_q7
  refine w_lald rfl g9 c12 c11 c10 ?_
  refine w_ld rfl rfl (Or.inr (Or.inr ⟨by decide, rfl⟩)) ?_
  refine w_getf rfl g4 n14 ?_
  refine w_ld rfl rfl (Or.inl ⟨by decide, rfl⟩) ?_
  subst e_q15
  refine w_lald rfl g17 c20 c19 c18 ?_
  refine w_ld rfl rfl (Or.inr (Or.inr ⟨by decide, rfl⟩)) ?_
  refine w_getf rfl g4 n22 ?_
  refine w_ld rfl rfl (Or.inl ⟨by decide, rfl⟩) ?_
  subst e_q23
  refine w_lald rfl g25 c12 c11 c26 ?_
  refine w_lmul rfl ?_
  refine w_ladd rfl ?_
  refine w_c64 rfl (by decide) 32003 (by decide) ?_
  refine w_lrem rfl c27 (by decide) (by decide) ?_
  refine w_last rfl g9 (Nat.ble_eq_true_of_le c28) c12 c11 c10 ?_
  refine w_iinc (ls' := [.index q2, vi x1, vi x2, vi x3, vi x4, vi (x5 + 1)]) rfl rfl 1 (by decide) rfl ?_
  refine w_goto rfl ?_
  exact k

theorem k614_224 {P : s_P} {d : Nat} {Q : s_O → Prop} {h : s_H} {kc ks : Nat} {r0 : Term} {x1 x2 x3 x4 x5 : Int} {q2 : Nat} {f3 : List Term} (g4 : s_get h q2 = some (1, 11, f3)) (k : wm P d 536 [.index q2, vi x2, vi x3] h (wq P d sw_c614 sw_h614 230 [.index q2, vi x1, vi x2, vi x3, vi x4, vi x5] [] kc ks Q)) (e_q2 : r0 = .index q2 := by first | rfl | assumption) (y1 : s_ty r0 = 3 := by first | rfl | assumption)  : wr P d sw_c614 sw_h614 (224, [r0, vi x1, vi x2, vi x3, vi x4, vi x5], [], h, kc, ks) Q := by
  refine w_ld rfl rfl (Or.inr (Or.inr ⟨by decide, y1⟩)) ?_
  refine w_ld rfl rfl (Or.inl ⟨by decide, rfl⟩) ?_
  refine w_ld rfl rfl (Or.inl ⟨by decide, rfl⟩) ?_
  subst e_q2
  exact w_cv rfl [.index q2, vi x2, vi x3] [] rfl rfl (s_wt_4 rfl) rfl g4 k

theorem k614_230 {P : s_P} {d : Nat} {Q : s_O → Prop} {h : s_H} {kc ks : Nat} {r0 : Term} {x1 x2 x3 x4 x5 : Int}  (k : wr P d sw_c614 sw_h614 (162, [r0, vi x1, vi x2, vi x3, vi (x4 + 1), vi x5], [], h, kc, ks) Q)   : wr P d sw_c614 sw_h614 (230, [r0, vi x1, vi x2, vi x3, vi x4, vi x5], [], h, kc, ks) Q := by
  refine w_iinc (ls' := [r0, vi x1, vi x2, vi x3, vi (x4 + 1), vi x5]) rfl rfl 1 (by decide) rfl ?_
  refine w_goto rfl ?_
  exact k

theorem k614_236 {P : s_P} {d : Nat} {Q : s_O → Prop} {h : s_H} {kc ks : Nat} {r0 : Term} {x1 x2 x3 x4 : Int} {t5 : Term}  (k : wr P d sw_c614 sw_h614 (239, [r0, vi x1, vi x2, vi x3, vi 0, t5], [], h, kc, ks) Q)   : wr P d sw_c614 sw_h614 (236, [r0, vi x1, vi x2, vi x3, vi x4, t5], [], h, kc, ks) Q := by
  refine w_c32 rfl (by decide) 0 (by decide) ?_
  refine w_st (ls' := [r0, vi x1, vi x2, vi x3, vi 0, t5]) rfl (Or.inl ⟨by decide, rfl⟩) rfl ?_
  exact k

theorem k614_239 {P : s_P} {d : Nat} {Q : s_O → Prop} {h : s_H} {kc ks : Nat} {r0 : Term} {x1 x2 x3 x4 : Int} {t5 : Term}  (k1 : x3 ≤ x4 → wr P d sw_c614 sw_h614 (297, [r0, vi x1, vi x2, vi x3, vi x4, t5], [], h, kc, ks) Q) (k2 : ¬ x3 ≤ x4 → wr P d sw_c614 sw_h614 (245, [r0, vi x1, vi x2, vi x3, vi x4, t5], [], h, kc, ks) Q)  (c1 : In3 x4 := by first | omega | assumption | (simp only [mk_len, List.length_map]; omega) | decide) (c2 : In3 x3 := by first | omega | assumption | (simp only [mk_len, List.length_map]; omega) | decide) : wr P d sw_c614 sw_h614 (239, [r0, vi x1, vi x2, vi x3, vi x4, t5], [], h, kc, ks) Q := by
  refine w_ld rfl rfl (Or.inl ⟨by decide, rfl⟩) ?_
  refine w_ld rfl rfl (Or.inl ⟨by decide, rfl⟩) ?_
  exact w_if2 rfl c1 c2 k1 k2

theorem k614_245 {P : s_P} {d : Nat} {Q : s_O → Prop} {h : s_H} {kc ks : Nat} {r0 : Term} {x1 x2 x3 x4 : Int} {t5 : Term}  (k : wr P d sw_c614 sw_h614 (248, [r0, vi x1, vi x2, vi x3, vi x4, vi 0], [], h, kc, ks) Q)   : wr P d sw_c614 sw_h614 (245, [r0, vi x1, vi x2, vi x3, vi x4, t5], [], h, kc, ks) Q := by
  refine w_c32 rfl (by decide) 0 (by decide) ?_
  refine w_st (ls' := [r0, vi x1, vi x2, vi x3, vi x4, vi 0]) rfl (Or.inl ⟨by decide, rfl⟩) rfl ?_
  exact k

theorem k614_248 {P : s_P} {d : Nat} {Q : s_O → Prop} {h : s_H} {kc ks : Nat} {r0 : Term} {x1 x2 x3 x4 x5 : Int}  (k1 : x3 ≤ x5 → wr P d sw_c614 sw_h614 (291, [r0, vi x1, vi x2, vi x3, vi x4, vi x5], [], h, kc, ks) Q) (k2 : ¬ x3 ≤ x5 → wr P d sw_c614 sw_h614 (254, [r0, vi x1, vi x2, vi x3, vi x4, vi x5], [], h, kc, ks) Q)  (c1 : In3 x5 := by first | omega | assumption | (simp only [mk_len, List.length_map]; omega) | decide) (c2 : In3 x3 := by first | omega | assumption | (simp only [mk_len, List.length_map]; omega) | decide) : wr P d sw_c614 sw_h614 (248, [r0, vi x1, vi x2, vi x3, vi x4, vi x5], [], h, kc, ks) Q := by
  refine w_ld rfl rfl (Or.inl ⟨by decide, rfl⟩) ?_
  refine w_ld rfl rfl (Or.inl ⟨by decide, rfl⟩) ?_
  exact w_if2 rfl c1 c2 k1 k2

theorem k614_254 {P : s_P} {d : Nat} {Q : s_O → Prop} {h : s_H} {kc ks : Nat} {r0 : Term} {x1 x2 x3 x4 x5 : Int} {q2 : Nat} {f3 : List Term} {v5 v7 : Term} {q9 : Nat} {a10 : List Int} (g4 : s_get h q2 = some (1, 11, f3)) (g11 : s_get h q9 = some (0, 1, a10.map vl)) (k : wm P d 405 [v5, vl (gi a10 ((4 * x4) + x5))] h (wq P d sw_c614 sw_h614 273 [.index q2, vi x1, vi x2, vi x3, vi x4, vi x5] [] kc ks Q)) (e_q2 : r0 = .index q2 := by first | rfl | assumption) (e_q9 : v7 = .index q9 := by first | rfl | assumption) (y1 : s_ty r0 = 3 := by first | rfl | assumption) (n6 : s_nth f3 20 = some v5 := by first | rfl | assumption) (n8 : s_nth f3 48 = some v7 := by first | rfl | assumption) (c12 : (4 * x4) + x5 < a10.length := by first | omega | assumption | (simp only [mk_len, List.length_map]; omega) | decide) (c13 : 0 ≤ (4 * x4) + x5 := by first | omega | assumption | (simp only [mk_len, List.length_map]; omega) | decide) (c14 : In3 ((4 * x4) + x5) := by first | omega | assumption | (simp only [mk_len, List.length_map]; omega) | decide) : wr P d sw_c614 sw_h614 (254, [r0, vi x1, vi x2, vi x3, vi x4, vi x5], [], h, kc, ks) Q := by
  refine w_ld rfl rfl (Or.inr (Or.inr ⟨by decide, y1⟩)) ?_
  subst e_q2
  refine w_getf rfl g4 n6 ?_
  refine w_ld rfl rfl (Or.inr (Or.inr ⟨by decide, rfl⟩)) ?_
  refine w_getf rfl g4 n8 ?_
  refine w_c32 rfl (by decide) 4 (by decide) ?_
  refine w_ld rfl rfl (Or.inl ⟨by decide, rfl⟩) ?_
  refine w_imul rfl ?_
  refine w_ld rfl rfl (Or.inl ⟨by decide, rfl⟩) ?_
  refine w_iadd rfl ?_
  subst e_q9
  refine w_lald rfl g11 c14 c13 c12 ?_
  exact w_cs rfl [v5, vl (gi a10 ((4 * x4) + x5))] [] rfl rfl (s_wt_4 rfl) k

theorem k614_273 {P : s_P} {d : Nat} {Q : s_O → Prop} {h : s_H} {kc ks : Nat} {r0 : Term} {x1 x2 x3 x4 x5 : Int} {q2 : Nat} {f3 : List Term} {v5 : Term} (g4 : s_get h q2 = some (1, 11, f3)) (k : wm P d 496 [.index q2, v5, vi x4, vi x5] h (wq P d sw_c614 sw_h614 285 [.index q2, vi x1, vi x2, vi x3, vi x4, vi x5] [] kc ks Q)) (e_q2 : r0 = .index q2 := by first | rfl | assumption) (y1 : s_ty r0 = 3 := by first | rfl | assumption) (n6 : s_nth f3 20 = some v5 := by first | rfl | assumption)  : wr P d sw_c614 sw_h614 (273, [r0, vi x1, vi x2, vi x3, vi x4, vi x5], [], h, kc, ks) Q := by
  refine w_ld rfl rfl (Or.inr (Or.inr ⟨by decide, y1⟩)) ?_
  refine w_ld rfl rfl (Or.inr (Or.inr ⟨by decide, y1⟩)) ?_
  subst e_q2
  refine w_getf rfl g4 n6 ?_
  refine w_ld rfl rfl (Or.inl ⟨by decide, rfl⟩) ?_
  refine w_ld rfl rfl (Or.inl ⟨by decide, rfl⟩) ?_
  exact w_cv rfl [.index q2, v5, vi x4, vi x5] [] rfl rfl (s_wt_4 rfl) rfl g4 k

theorem k614_285 {P : s_P} {d : Nat} {Q : s_O → Prop} {h : s_H} {kc ks : Nat} {r0 : Term} {x1 x2 x3 x4 x5 : Int}  (k : wr P d sw_c614 sw_h614 (248, [r0, vi x1, vi x2, vi x3, vi x4, vi (x5 + 1)], [], h, kc, ks) Q)   : wr P d sw_c614 sw_h614 (285, [r0, vi x1, vi x2, vi x3, vi x4, vi x5], [], h, kc, ks) Q := by
  refine w_iinc (ls' := [r0, vi x1, vi x2, vi x3, vi x4, vi (x5 + 1)]) rfl rfl 1 (by decide) rfl ?_
  refine w_goto rfl ?_
  exact k

theorem k614_291 {P : s_P} {d : Nat} {Q : s_O → Prop} {h : s_H} {kc ks : Nat} {r0 : Term} {x1 x2 x3 x4 x5 : Int}  (k : wr P d sw_c614 sw_h614 (239, [r0, vi x1, vi x2, vi x3, vi (x4 + 1), vi x5], [], h, kc, ks) Q)   : wr P d sw_c614 sw_h614 (291, [r0, vi x1, vi x2, vi x3, vi x4, vi x5], [], h, kc, ks) Q := by
  refine w_iinc (ls' := [r0, vi x1, vi x2, vi x3, vi (x4 + 1), vi x5]) rfl rfl 1 (by decide) rfl ?_
  refine w_goto rfl ?_
  exact k

theorem k614_297 {P : s_P} {d : Nat} {Q : s_O → Prop} {h : s_H} {kc ks : Nat} {r0 : Term} {x1 x2 x3 x4 : Int} {t5 : Term} {q2 : Nat} {f3 : List Term} (g4 : s_get h q2 = some (1, 11, f3)) (k : wm P d 498 [.index q2, vi x3, vi x3] h (wq P d sw_c614 sw_h614 303 [.index q2, vi x1, vi x2, vi x3, vi x4, t5] [] kc ks Q)) (e_q2 : r0 = .index q2 := by first | rfl | assumption) (y1 : s_ty r0 = 3 := by first | rfl | assumption)  : wr P d sw_c614 sw_h614 (297, [r0, vi x1, vi x2, vi x3, vi x4, t5], [], h, kc, ks) Q := by
  refine w_ld rfl rfl (Or.inr (Or.inr ⟨by decide, y1⟩)) ?_
  refine w_ld rfl rfl (Or.inl ⟨by decide, rfl⟩) ?_
  refine w_ld rfl rfl (Or.inl ⟨by decide, rfl⟩) ?_
  subst e_q2
  exact w_cv rfl [.index q2, vi x3, vi x3] [] rfl rfl (s_wt_4 rfl) rfl g4 k

theorem k614_303 {P : s_P} {d : Nat} {Q : s_O → Prop} {h : s_H} {kc ks : Nat} {r0 : Term} {x1 x2 x3 x4 : Int} {t5 : Term} {s0 : Int}  (k : Q (.inl (some (vi s0)), h, kc, ks))   : wr P d sw_c614 sw_h614 (303, [r0, vi x1, vi x2, vi x3, vi x4, t5], [vi s0], h, kc, ks) Q := by
  exact w_iret rfl k

/-! 615: FormulaWorksModel.workCell(I)V -/
theorem k615_0 {P : s_P} {d : Nat} {Q : s_O → Prop} {h : s_H} {kc ks : Nat} {r0 : Term} {x1 : Int} {t2 : Term} {q2 : Nat} {f3 : List Term} {z5 : Int} {f9 : List Term} {v11 : Term} {q13 : Nat} {a14 : List Int} (g4 : s_get h q2 = some (1, 11, f3)) (g10 : s_get (hp h q2 (1, 11, f3.set 110 (vi (z5 + 1)))) q2 = some (1, 11, f9)) (g15 : s_get (hp h q2 (1, 11, f3.set 110 (vi (z5 + 1)))) q13 = some (0, 0, a14.map vi)) (k : wr P d sw_c615 sw_h615 (22, [.index q2, vi x1, vi 0], [], (hp (hp h q2 (1, 11, f3.set 110 (vi (z5 + 1)))) q2 (1, 11, f9.set 52 (vi (gi a14 x1)))), kc, ks) Q) (e_q2 : r0 = .index q2 := by first | rfl | assumption) (e_q13 : v11 = .index q13 := by first | rfl | assumption) (y1 : s_ty r0 = 3 := by first | rfl | assumption) (n6 : s_nth f3 110 = some (vi z5) := by first | rfl | assumption) (l7 : 110 < f3.length := by first | exact Nat.le_of_ble_eq_true rfl | omega | assumption) (n12 : s_nth f9 101 = some v11 := by first | rfl | assumption) (l19 : 52 < f9.length := by first | exact Nat.le_of_ble_eq_true rfl | omega | assumption) (c8 : 0 < q2 := by first | omega | assumption | (simp only [mk_len, List.length_map]; omega) | decide) (c16 : x1 < a14.length := by first | omega | assumption | (simp only [mk_len, List.length_map]; omega) | decide) (c17 : 0 ≤ x1 := by first | omega | assumption | (simp only [mk_len, List.length_map]; omega) | decide) (c18 : In3 x1 := by first | omega | assumption | (simp only [mk_len, List.length_map]; omega) | decide) : wr P d sw_c615 sw_h615 (0, [r0, vi x1, t2], [], h, kc, ks) Q := by
  refine w_ld rfl rfl (Or.inr (Or.inr ⟨by decide, y1⟩)) ?_
  refine w_dup rfl (by rw [y1]; rfl) ?_
  subst e_q2
  refine w_getf rfl g4 n6 ?_
  refine w_c32 rfl (by decide) 1 (by decide) ?_
  refine w_iadd rfl ?_
  refine w_putf rfl g4 (Nat.ble_eq_true_of_le c8) rfl (Nat.ble_eq_true_of_le l7) ?_
  refine w_ld rfl rfl (Or.inr (Or.inr ⟨by decide, rfl⟩)) ?_
  refine w_ld rfl rfl (Or.inr (Or.inr ⟨by decide, rfl⟩)) ?_
  refine w_getf rfl g10 n12 ?_
  refine w_ld rfl rfl (Or.inl ⟨by decide, rfl⟩) ?_
  subst e_q13
  refine w_iald rfl g15 (Or.inl rfl) c18 c17 c16 ?_
  refine w_putf rfl g10 (Nat.ble_eq_true_of_le c8) rfl (Nat.ble_eq_true_of_le l19) ?_
  refine w_c32 rfl (by decide) 0 (by decide) ?_
  refine w_st (ls' := [.index q2, vi x1, vi 0]) rfl (Or.inl ⟨by decide, rfl⟩) rfl ?_
  exact k

theorem k615_22 {P : s_P} {d : Nat} {Q : s_O → Prop} {h : s_H} {kc ks : Nat} {r0 : Term} {x1 x2 : Int} {q2 : Nat} {f3 : List Term} {z5 : Int} (g4 : s_get h q2 = some (1, 11, f3)) (k1 : z5 ≤ x2 → wr P d sw_c615 sw_h615 (53, [.index q2, vi x1, vi x2], [], h, kc, ks) Q) (k2 : ¬ z5 ≤ x2 → wr P d sw_c615 sw_h615 (30, [.index q2, vi x1, vi x2], [], h, kc, ks) Q) (e_q2 : r0 = .index q2 := by first | rfl | assumption) (y1 : s_ty r0 = 3 := by first | rfl | assumption) (n6 : s_nth f3 52 = some (vi z5) := by first | rfl | assumption) (c7 : In3 x2 := by first | omega | assumption | (simp only [mk_len, List.length_map]; omega) | decide) (c8 : In3 z5 := by first | omega | assumption | (simp only [mk_len, List.length_map]; omega) | decide) : wr P d sw_c615 sw_h615 (22, [r0, vi x1, vi x2], [], h, kc, ks) Q := by
  refine w_ld rfl rfl (Or.inl ⟨by decide, rfl⟩) ?_
  refine w_ld rfl rfl (Or.inr (Or.inr ⟨by decide, y1⟩)) ?_
  subst e_q2
  refine w_getf rfl g4 n6 ?_
  exact w_if2 rfl c7 c8 k1 k2

theorem k615_30 {P : s_P} {d : Nat} {Q : s_O → Prop} {h : s_H} {kc ks : Nat} {r0 : Term} {x1 x2 : Int} {q2 : Nat} {f3 : List Term} {v5 v7 : Term} {q9 : Nat} {a10 : List Int} {q15 : Nat} {a16 : List Int} (g4 : s_get h q2 = some (1, 11, f3)) (g11 : s_get h q9 = some (0, 0, a10.map vi)) (g17 : s_get h q15 = some (0, 0, a16.map vi)) (k : wr P d sw_c615 sw_h615 (22, [.index q2, vi x1, vi (x2 + 1)], [], (hp h q15 (0, 0, (a16.set (Int.toNat (x2)) (gi a10 ((60 * x1) + x2))).map vi)), kc, ks) Q) (e_q2 : r0 = .index q2 := by first | rfl | assumption) (e_q9 : v7 = .index q9 := by first | rfl | assumption) (e_q15 : v5 = .index q15 := by first | rfl | assumption) (y1 : s_ty r0 = 3 := by first | rfl | assumption) (n6 : s_nth f3 53 = some v5 := by first | rfl | assumption) (n8 : s_nth f3 102 = some v7 := by first | rfl | assumption) (c12 : (60 * x1) + x2 < a10.length := by first | omega | assumption | (simp only [mk_len, List.length_map]; omega) | decide) (c13 : 0 ≤ (60 * x1) + x2 := by first | omega | assumption | (simp only [mk_len, List.length_map]; omega) | decide) (c14 : In3 ((60 * x1) + x2) := by first | omega | assumption | (simp only [mk_len, List.length_map]; omega) | decide) (c18 : x2 < a16.length := by first | omega | assumption | (simp only [mk_len, List.length_map]; omega) | decide) (c19 : 0 ≤ x2 := by first | omega | assumption | (simp only [mk_len, List.length_map]; omega) | decide) (c20 : In3 x2 := by first | omega | assumption | (simp only [mk_len, List.length_map]; omega) | decide) (c21 : 0 < q15 := by first | omega | assumption | (simp only [mk_len, List.length_map]; omega) | decide) : wr P d sw_c615 sw_h615 (30, [r0, vi x1, vi x2], [], h, kc, ks) Q := by
  refine w_ld rfl rfl (Or.inr (Or.inr ⟨by decide, y1⟩)) ?_
  subst e_q2
  refine w_getf rfl g4 n6 ?_
  refine w_ld rfl rfl (Or.inl ⟨by decide, rfl⟩) ?_
  refine w_ld rfl rfl (Or.inr (Or.inr ⟨by decide, rfl⟩)) ?_
  refine w_getf rfl g4 n8 ?_
  refine w_c32 rfl (by decide) 60 (by decide) ?_
  refine w_ld rfl rfl (Or.inl ⟨by decide, rfl⟩) ?_
  refine w_imul rfl ?_
  refine w_ld rfl rfl (Or.inl ⟨by decide, rfl⟩) ?_
  refine w_iadd rfl ?_
  subst e_q9
  refine w_iald rfl g11 (Or.inl rfl) c14 c13 c12 ?_
  subst e_q15
  refine w_iast rfl g17 (Nat.ble_eq_true_of_le c21) c20 c19 c18 ?_
  refine w_iinc (ls' := [.index q2, vi x1, vi (x2 + 1)]) rfl rfl 1 (by decide) rfl ?_
  refine w_goto rfl ?_
  exact k

theorem k615_53 {P : s_P} {d : Nat} {Q : s_O → Prop} {h : s_H} {kc ks : Nat} {r0 : Term} {x1 x2 : Int} {q2 : Nat} {f3 : List Term} (g4 : s_get h q2 = some (1, 11, f3)) (k : wm P d 578 [.index q2, vi 2] h (wq P d sw_c615 sw_h615 58 [.index q2, vi x1, vi x2] [] kc ks Q)) (e_q2 : r0 = .index q2 := by first | rfl | assumption) (y1 : s_ty r0 = 3 := by first | rfl | assumption)  : wr P d sw_c615 sw_h615 (53, [r0, vi x1, vi x2], [], h, kc, ks) Q := by
  refine w_ld rfl rfl (Or.inr (Or.inr ⟨by decide, y1⟩)) ?_
  refine w_c32 rfl (by decide) 2 (by decide) ?_
  subst e_q2
  exact w_cv rfl [.index q2, vi 2] [] rfl rfl (s_wt_4 rfl) rfl g4 k

theorem k615_58 {P : s_P} {d : Nat} {Q : s_O → Prop} {h : s_H} {kc ks : Nat} {r0 : Term} {x1 x2 : Int} {q2 : Nat} {f3 : List Term} {v5 : Term} {z7 : Int} {q9 : Nat} {a10 : List Int} {f16 : List Term} {v18 : Term} {z20 : Int} {q22 : Nat} {a23 : List Int} (g4 : s_get h q2 = some (1, 11, f3)) (g11 : s_get h q9 = some (0, 0, a10.map vi)) (g17 : s_get (hp h q9 (0, 0, (a10.set (Int.toNat (x1)) z7).map vi)) q2 = some (1, 11, f16)) (g24 : s_get (hp h q9 (0, 0, (a10.set (Int.toNat (x1)) z7).map vi)) q22 = some (0, 0, a23.map vi)) (k : wr P d sw_c615 sw_h615 (80, [.index q2, vi x1, vi 0], [], (hp (hp h q9 (0, 0, (a10.set (Int.toNat (x1)) z7).map vi)) q22 (0, 0, (a23.set (Int.toNat (x1)) z20).map vi)), kc, ks) Q) (e_q2 : r0 = .index q2 := by first | rfl | assumption) (e_q9 : v5 = .index q9 := by first | rfl | assumption) (e_q22 : v18 = .index q22 := by first | rfl | assumption) (y1 : s_ty r0 = 3 := by first | rfl | assumption) (n6 : s_nth f3 105 = some v5 := by first | rfl | assumption) (n8 : s_nth f3 55 = some (vi z7) := by first | rfl | assumption) (n19 : s_nth f16 106 = some v18 := by first | rfl | assumption) (n21 : s_nth f16 56 = some (vi z20) := by first | rfl | assumption) (c12 : x1 < a10.length := by first | omega | assumption | (simp only [mk_len, List.length_map]; omega) | decide) (c13 : 0 ≤ x1 := by first | omega | assumption | (simp only [mk_len, List.length_map]; omega) | decide) (c14 : In3 x1 := by first | omega | assumption | (simp only [mk_len, List.length_map]; omega) | decide) (c15 : 0 < q9 := by first | omega | assumption | (simp only [mk_len, List.length_map]; omega) | decide) (c25 : x1 < a23.length := by first | omega | assumption | (simp only [mk_len, List.length_map]; omega) | decide) (c26 : 0 < q22 := by first | omega | assumption | (simp only [mk_len, List.length_map]; omega) | decide) : wr P d sw_c615 sw_h615 (58, [r0, vi x1, vi x2], [], h, kc, ks) Q := by
  refine w_ld rfl rfl (Or.inr (Or.inr ⟨by decide, y1⟩)) ?_
  subst e_q2
  refine w_getf rfl g4 n6 ?_
  refine w_ld rfl rfl (Or.inl ⟨by decide, rfl⟩) ?_
  refine w_ld rfl rfl (Or.inr (Or.inr ⟨by decide, rfl⟩)) ?_
  refine w_getf rfl g4 n8 ?_
  subst e_q9
  refine w_iast rfl g11 (Nat.ble_eq_true_of_le c15) c14 c13 c12 ?_
  refine w_ld rfl rfl (Or.inr (Or.inr ⟨by decide, rfl⟩)) ?_
  refine w_getf rfl g17 n19 ?_
  refine w_ld rfl rfl (Or.inl ⟨by decide, rfl⟩) ?_
  refine w_ld rfl rfl (Or.inr (Or.inr ⟨by decide, rfl⟩)) ?_
  refine w_getf rfl g17 n21 ?_
  subst e_q22
  refine w_iast rfl g24 (Nat.ble_eq_true_of_le c26) c14 c13 c25 ?_
  refine w_c32 rfl (by decide) 0 (by decide) ?_
  refine w_st (ls' := [.index q2, vi x1, vi 0]) rfl (Or.inl ⟨by decide, rfl⟩) rfl ?_
  exact k

theorem k615_80 {P : s_P} {d : Nat} {Q : s_O → Prop} {h : s_H} {kc ks : Nat} {r0 : Term} {x1 x2 : Int}  (k1 : 40 < x2 → wr P d sw_c615 sw_h615 (135, [r0, vi x1, vi x2], [], h, kc, ks) Q) (k2 : ¬ 40 < x2 → wr P d sw_c615 sw_h615 (86, [r0, vi x1, vi x2], [], h, kc, ks) Q)  (c1 : In3 x2 := by first | omega | assumption | (simp only [mk_len, List.length_map]; omega) | decide) : wr P d sw_c615 sw_h615 (80, [r0, vi x1, vi x2], [], h, kc, ks) Q := by
  refine w_ld rfl rfl (Or.inl ⟨by decide, rfl⟩) ?_
  refine w_c32 rfl (by decide) 40 (by decide) ?_
  exact w_if2 rfl c1 (by decide) k1 k2

theorem k615_86 {P : s_P} {d : Nat} {Q : s_O → Prop} {h : s_H} {kc ks : Nat} {r0 : Term} {x1 x2 : Int} {q2 : Nat} {f3 : List Term} {z5 : Int} (g4 : s_get h q2 = some (1, 11, f3)) (k1 : z5 ≠ 0 → wr P d sw_c615 sw_h615 (135, [.index q2, vi x1, vi x2], [], h, kc, ks) Q) (k2 : ¬ z5 ≠ 0 → wr P d sw_c615 sw_h615 (93, [.index q2, vi x1, vi x2], [], h, kc, ks) Q) (e_q2 : r0 = .index q2 := by first | rfl | assumption) (y1 : s_ty r0 = 3 := by first | rfl | assumption) (n6 : s_nth f3 55 = some (vi z5) := by first | rfl | assumption) (c7 : In3 z5 := by first | omega | assumption | (simp only [mk_len, List.length_map]; omega) | decide) : wr P d sw_c615 sw_h615 (86, [r0, vi x1, vi x2], [], h, kc, ks) Q := by
  refine w_ld rfl rfl (Or.inr (Or.inr ⟨by decide, y1⟩)) ?_
  subst e_q2
  refine w_getf rfl g4 n6 ?_
  exact w_if1 rfl c7 k1 k2

theorem k615_93 {P : s_P} {d : Nat} {Q : s_O → Prop} {h : s_H} {kc ks : Nat} {r0 : Term} {x1 x2 : Int} {q2 : Nat} {f3 : List Term} {v5 v7 : Term} {q9 : Nat} {a10 : List Int} {q15 : Nat} {a16 : List Int} {f22 : List Term} {v24 v26 : Term} {q28 : Nat} {a29 : List Int} {q32 : Nat} {a33 : List Int} (g4 : s_get h q2 = some (1, 11, f3)) (g11 : s_get h q9 = some (0, 1, a10.map vl)) (g17 : s_get h q15 = some (0, 0, a16.map vi)) (g23 : s_get (hp h q15 (0, 0, (a16.set (Int.toNat ((41 * x1) + x2)) (gi a10 x2)).map vi)) q2 = some (1, 11, f22)) (g30 : s_get (hp h q15 (0, 0, (a16.set (Int.toNat ((41 * x1) + x2)) (gi a10 x2)).map vi)) q28 = some (0, 1, a29.map vl)) (g34 : s_get (hp h q15 (0, 0, (a16.set (Int.toNat ((41 * x1) + x2)) (gi a10 x2)).map vi)) q32 = some (0, 0, a33.map vi)) (k : wr P d sw_c615 sw_h615 (80, [.index q2, vi x1, vi (x2 + 1)], [], (hp (hp h q15 (0, 0, (a16.set (Int.toNat ((41 * x1) + x2)) (gi a10 x2)).map vi)) q32 (0, 0, (a33.set (Int.toNat ((41 * x1) + x2)) (gi a29 x2)).map vi)), kc, ks) Q) (e_q2 : r0 = .index q2 := by first | rfl | assumption) (e_q9 : v7 = .index q9 := by first | rfl | assumption) (e_q15 : v5 = .index q15 := by first | rfl | assumption) (e_q28 : v26 = .index q28 := by first | rfl | assumption) (e_q32 : v24 = .index q32 := by first | rfl | assumption) (y1 : s_ty r0 = 3 := by first | rfl | assumption) (n6 : s_nth f3 103 = some v5 := by first | rfl | assumption) (n8 : s_nth f3 14 = some v7 := by first | rfl | assumption) (n25 : s_nth f22 104 = some v24 := by first | rfl | assumption) (n27 : s_nth f22 15 = some v26 := by first | rfl | assumption) (c12 : x2 < a10.length := by first | omega | assumption | (simp only [mk_len, List.length_map]; omega) | decide) (c13 : 0 ≤ x2 := by first | omega | assumption | (simp only [mk_len, List.length_map]; omega) | decide) (c14 : In3 x2 := by first | omega | assumption | (simp only [mk_len, List.length_map]; omega) | decide) (c18 : (41 * x1) + x2 < a16.length := by first | omega | assumption | (simp only [mk_len, List.length_map]; omega) | decide) (c19 : 0 ≤ (41 * x1) + x2 := by first | omega | assumption | (simp only [mk_len, List.length_map]; omega) | decide) (c20 : In3 ((41 * x1) + x2) := by first | omega | assumption | (simp only [mk_len, List.length_map]; omega) | decide) (c21 : 0 < q15 := by first | omega | assumption | (simp only [mk_len, List.length_map]; omega) | decide) (c31 : x2 < a29.length := by first | omega | assumption | (simp only [mk_len, List.length_map]; omega) | decide) (c35 : (41 * x1) + x2 < a33.length := by first | omega | assumption | (simp only [mk_len, List.length_map]; omega) | decide) (c36 : 0 < q32 := by first | omega | assumption | (simp only [mk_len, List.length_map]; omega) | decide) : wr P d sw_c615 sw_h615 (93, [r0, vi x1, vi x2], [], h, kc, ks) Q := by
  refine w_ld rfl rfl (Or.inr (Or.inr ⟨by decide, y1⟩)) ?_
  subst e_q2
  refine w_getf rfl g4 n6 ?_
  refine w_c32 rfl (by decide) 41 (by decide) ?_
  refine w_ld rfl rfl (Or.inl ⟨by decide, rfl⟩) ?_
  refine w_imul rfl ?_
  refine w_ld rfl rfl (Or.inl ⟨by decide, rfl⟩) ?_
  refine w_iadd rfl ?_
  refine w_ld rfl rfl (Or.inr (Or.inr ⟨by decide, rfl⟩)) ?_
  refine w_getf rfl g4 n8 ?_
  refine w_ld rfl rfl (Or.inl ⟨by decide, rfl⟩) ?_
  subst e_q9
  refine w_lald rfl g11 c14 c13 c12 ?_
  refine w_l2i rfl ?_
  subst e_q15
  refine w_iast rfl g17 (Nat.ble_eq_true_of_le c21) c20 c19 c18 ?_
  refine w_ld rfl rfl (Or.inr (Or.inr ⟨by decide, rfl⟩)) ?_
  refine w_getf rfl g23 n25 ?_
  refine w_c32 rfl (by decide) 41 (by decide) ?_
  refine w_ld rfl rfl (Or.inl ⟨by decide, rfl⟩) ?_
  refine w_imul rfl ?_
  refine w_ld rfl rfl (Or.inl ⟨by decide, rfl⟩) ?_
  refine w_iadd rfl ?_
  refine w_ld rfl rfl (Or.inr (Or.inr ⟨by decide, rfl⟩)) ?_
  refine w_getf rfl g23 n27 ?_
  refine w_ld rfl rfl (Or.inl ⟨by decide, rfl⟩) ?_
  subst e_q28
  refine w_lald rfl g30 c14 c13 c31 ?_
  refine w_l2i rfl ?_
  subst e_q32
  refine w_iast rfl g34 (Nat.ble_eq_true_of_le c36) c20 c19 c35 ?_
  refine w_iinc (ls' := [.index q2, vi x1, vi (x2 + 1)]) rfl rfl 1 (by decide) rfl ?_
  refine w_goto rfl ?_
  exact k

theorem k615_135 {P : s_P} {d : Nat} {Q : s_O → Prop} {h : s_H} {kc ks : Nat} {r0 : Term} {x1 x2 : Int} {q2 : Nat} {f3 : List Term} {z5 : Int} {f9 : List Term} {v11 : Term} {z13 : Int} {q15 : Nat} {a16 : List Int} (g4 : s_get h q2 = some (1, 11, f3)) (g10 : s_get (hp h q2 (1, 11, f3.set 107 (vi (z5 + 1)))) q2 = some (1, 11, f9)) (g17 : s_get (hp h q2 (1, 11, f3.set 107 (vi (z5 + 1)))) q15 = some (0, 0, a16.map vi)) (k : Q (.inl none, (hp (hp h q2 (1, 11, f3.set 107 (vi (z5 + 1)))) q15 (0, 0, (a16.set (Int.toNat (x1)) z13).map vi)), kc, ks)) (e_q2 : r0 = .index q2 := by first | rfl | assumption) (e_q15 : v11 = .index q15 := by first | rfl | assumption) (y1 : s_ty r0 = 3 := by first | rfl | assumption) (n6 : s_nth f3 107 = some (vi z5) := by first | rfl | assumption) (l7 : 107 < f3.length := by first | exact Nat.le_of_ble_eq_true rfl | omega | assumption) (n12 : s_nth f9 109 = some v11 := by first | rfl | assumption) (n14 : s_nth f9 107 = some (vi z13) := by first | rfl | assumption) (c8 : 0 < q2 := by first | omega | assumption | (simp only [mk_len, List.length_map]; omega) | decide) (c18 : x1 < a16.length := by first | omega | assumption | (simp only [mk_len, List.length_map]; omega) | decide) (c19 : 0 ≤ x1 := by first | omega | assumption | (simp only [mk_len, List.length_map]; omega) | decide) (c20 : In3 x1 := by first | omega | assumption | (simp only [mk_len, List.length_map]; omega) | decide) (c21 : 0 < q15 := by first | omega | assumption | (simp only [mk_len, List.length_map]; omega) | decide) : wr P d sw_c615 sw_h615 (135, [r0, vi x1, vi x2], [], h, kc, ks) Q := by
  refine w_ld rfl rfl (Or.inr (Or.inr ⟨by decide, y1⟩)) ?_
  refine w_dup rfl (by rw [y1]; rfl) ?_
  subst e_q2
  refine w_getf rfl g4 n6 ?_
  refine w_c32 rfl (by decide) 1 (by decide) ?_
  refine w_iadd rfl ?_
  refine w_putf rfl g4 (Nat.ble_eq_true_of_le c8) rfl (Nat.ble_eq_true_of_le l7) ?_
  refine w_ld rfl rfl (Or.inr (Or.inr ⟨by decide, rfl⟩)) ?_
  refine w_getf rfl g10 n12 ?_
  refine w_ld rfl rfl (Or.inl ⟨by decide, rfl⟩) ?_
  refine w_ld rfl rfl (Or.inr (Or.inr ⟨by decide, rfl⟩)) ?_
  refine w_getf rfl g10 n14 ?_
  subst e_q15
  refine w_iast rfl g17 (Nat.ble_eq_true_of_le c21) c20 c19 c18 ?_
  exact w_ret rfl k

/-! 616: FormulaWorksModel.workCells(I)V -/
theorem k616_0 {P : s_P} {d : Nat} {Q : s_O → Prop} {h : s_H} {kc ks : Nat} {r0 : Term} {x1 : Int} {t2 t3 t4 t5 t6 : Term} {q2 : Nat} {f3 : List Term} (g4 : s_get h q2 = some (1, 11, f3)) (k : wm P d 476 [.index q2, vi x1] h (wq P d sw_c616 sw_h616 5 [.index q2, vi x1, t2, t3, t4, t5, t6] [] kc ks Q)) (e_q2 : r0 = .index q2 := by first | rfl | assumption) (y1 : s_ty r0 = 3 := by first | rfl | assumption)  : wr P d sw_c616 sw_h616 (0, [r0, vi x1, t2, t3, t4, t5, t6], [], h, kc, ks) Q := by
  refine w_ld rfl rfl (Or.inr (Or.inr ⟨by decide, y1⟩)) ?_
  refine w_ld rfl rfl (Or.inl ⟨by decide, rfl⟩) ?_
  subst e_q2
  exact w_cv rfl [.index q2, vi x1] [] rfl rfl (s_wt_4 rfl) rfl g4 k

theorem k616_5 {P : s_P} {d : Nat} {Q : s_O → Prop} {h : s_H} {kc ks : Nat} {r0 : Term} {x1 : Int} {t2 t3 t4 t5 t6 : Term} {s0 : Int}  (k1 : s0 ≠ 0 → wr P d sw_c616 sw_h616 (9, [r0, vi x1, t2, t3, t4, t5, t6], [], h, kc, ks) Q) (k2 : ¬ s0 ≠ 0 → wr P d sw_c616 sw_h616 (8, [r0, vi x1, t2, t3, t4, t5, t6], [], h, kc, ks) Q)  (c1 : In3 s0 := by first | omega | assumption | (simp only [mk_len, List.length_map]; omega) | decide) : wr P d sw_c616 sw_h616 (5, [r0, vi x1, t2, t3, t4, t5, t6], [vi s0], h, kc, ks) Q := by
  exact w_if1 rfl c1 k1 k2

theorem k616_8 {P : s_P} {d : Nat} {Q : s_O → Prop} {h : s_H} {kc ks : Nat} {r0 : Term} {x1 : Int} {t2 t3 t4 t5 t6 : Term}  (k : Q (.inl none, h, kc, ks))   : wr P d sw_c616 sw_h616 (8, [r0, vi x1, t2, t3, t4, t5, t6], [], h, kc, ks) Q := by
  exact w_ret rfl k

theorem k616_9 {P : s_P} {d : Nat} {Q : s_O → Prop} {h : s_H} {kc ks : Nat} {r0 : Term} {x1 : Int} {t2 t3 t4 t5 t6 : Term}  (k : wr P d sw_c616 sw_h616 (15, [r0, vi x1, vi (zi 27 1 x1), vi 0, t4, t5, t6], [], h, kc, ks) Q)   : wr P d sw_c616 sw_h616 (9, [r0, vi x1, t2, t3, t4, t5, t6], [], h, kc, ks) Q := by
  refine w_c32 rfl (by decide) 1 (by decide) ?_
  refine w_ld rfl rfl (Or.inl ⟨by decide, rfl⟩) ?_
  refine w_ib rfl (by decide) ?_
  refine w_st (ls' := [r0, vi x1, vi (zi 27 1 x1), t3, t4, t5, t6]) rfl (Or.inl ⟨by decide, rfl⟩) rfl ?_
  refine w_c32 rfl (by decide) 0 (by decide) ?_
  refine w_st (ls' := [r0, vi x1, vi (zi 27 1 x1), vi 0, t4, t5, t6]) rfl (Or.inl ⟨by decide, rfl⟩) rfl ?_
  exact k

theorem k616_15 {P : s_P} {d : Nat} {Q : s_O → Prop} {h : s_H} {kc ks : Nat} {r0 : Term} {x1 x2 x3 : Int} {t4 t5 t6 : Term}  (k1 : 16 ≤ x3 → wr P d sw_c616 sw_h616 (108, [r0, vi x1, vi x2, vi x3, t4, t5, t6], [], h, kc, ks) Q) (k2 : ¬ 16 ≤ x3 → wr P d sw_c616 sw_h616 (21, [r0, vi x1, vi x2, vi x3, t4, t5, t6], [], h, kc, ks) Q)  (c1 : In3 x3 := by first | omega | assumption | (simp only [mk_len, List.length_map]; omega) | decide) : wr P d sw_c616 sw_h616 (15, [r0, vi x1, vi x2, vi x3, t4, t5, t6], [], h, kc, ks) Q := by
  refine w_ld rfl rfl (Or.inl ⟨by decide, rfl⟩) ?_
  refine w_c32 rfl (by decide) 16 (by decide) ?_
  exact w_if2 rfl c1 (by decide) k1 k2

theorem k616_21 {P : s_P} {d : Nat} {Q : s_O → Prop} {h : s_H} {kc ks : Nat} {r0 : Term} {x1 x2 x3 : Int} {t4 t5 t6 : Term}  (k : wr P d sw_c616 sw_h616 (24, [r0, vi x1, vi x2, vi x3, vi 0, t5, t6], [], h, kc, ks) Q)   : wr P d sw_c616 sw_h616 (21, [r0, vi x1, vi x2, vi x3, t4, t5, t6], [], h, kc, ks) Q := by
  refine w_c32 rfl (by decide) 0 (by decide) ?_
  refine w_st (ls' := [r0, vi x1, vi x2, vi x3, vi 0, t5, t6]) rfl (Or.inl ⟨by decide, rfl⟩) rfl ?_
  exact k

theorem k616_24 {P : s_P} {d : Nat} {Q : s_O → Prop} {h : s_H} {kc ks : Nat} {r0 : Term} {x1 x2 x3 x4 : Int} {t5 t6 : Term}  (k1 : 16 ≤ x4 → wr P d sw_c616 sw_h616 (102, [r0, vi x1, vi x2, vi x3, vi x4, t5, t6], [], h, kc, ks) Q) (k2 : ¬ 16 ≤ x4 → wr P d sw_c616 sw_h616 (31, [r0, vi x1, vi x2, vi x3, vi x4, t5, t6], [], h, kc, ks) Q)  (c1 : In3 x4 := by first | omega | assumption | (simp only [mk_len, List.length_map]; omega) | decide) : wr P d sw_c616 sw_h616 (24, [r0, vi x1, vi x2, vi x3, vi x4, t5, t6], [], h, kc, ks) Q := by
  refine w_ld rfl rfl (Or.inl ⟨by decide, rfl⟩) ?_
  refine w_c32 rfl (by decide) 16 (by decide) ?_
  exact w_if2 rfl c1 (by decide) k1 k2

theorem k616_31 {P : s_P} {d : Nat} {Q : s_O → Prop} {h : s_H} {kc ks : Nat} {r0 : Term} {x1 x2 x3 x4 : Int} {t5 t6 : Term}  (k1 : zi 24 (zi 28 x2 x4) 1 ≠ 1 → wr P d sw_c616 sw_h616 (50, [r0, vi x1, vi x2, vi x3, vi x4, t5, t6], [], h, kc, ks) Q) (k2 : ¬ zi 24 (zi 28 x2 x4) 1 ≠ 1 → wr P d sw_c616 sw_h616 (41, [r0, vi x1, vi x2, vi x3, vi x4, t5, t6], [], h, kc, ks) Q)  (c1 : In3 (zi 24 (zi 28 x2 x4) 1) := by first | omega | assumption | (simp only [mk_len, List.length_map]; omega) | decide) : wr P d sw_c616 sw_h616 (31, [r0, vi x1, vi x2, vi x3, vi x4, t5, t6], [], h, kc, ks) Q := by
  refine w_ld rfl rfl (Or.inl ⟨by decide, rfl⟩) ?_
  refine w_ld rfl rfl (Or.inl ⟨by decide, rfl⟩) ?_
  refine w_ib rfl (by decide) ?_
  refine w_c32 rfl (by decide) 1 (by decide) ?_
  refine w_ib rfl (by decide) ?_
  refine w_c32 rfl (by decide) 1 (by decide) ?_
  exact w_if2 rfl c1 (by decide) k1 k2

theorem k616_41 {P : s_P} {d : Nat} {Q : s_O → Prop} {h : s_H} {kc ks : Nat} {r0 : Term} {x1 x2 x3 x4 : Int} {t5 t6 : Term} {q2 : Nat} {f3 : List Term} (g4 : s_get h q2 = some (1, 11, f3)) (k : wm P d 535 [.index q2, vi x4] h (wq P d sw_c616 sw_h616 47 [.index q2, vi x1, vi x2, vi x3, vi x4, t5, t6] [] kc ks Q)) (e_q2 : r0 = .index q2 := by first | rfl | assumption) (y1 : s_ty r0 = 3 := by first | rfl | assumption)  : wr P d sw_c616 sw_h616 (41, [r0, vi x1, vi x2, vi x3, vi x4, t5, t6], [], h, kc, ks) Q := by
  refine w_ld rfl rfl (Or.inr (Or.inr ⟨by decide, y1⟩)) ?_
  refine w_ld rfl rfl (Or.inl ⟨by decide, rfl⟩) ?_
  subst e_q2
  exact w_cv rfl [.index q2, vi x4] [] rfl rfl (s_wt_4 rfl) rfl g4 k

theorem k616_47 {P : s_P} {d : Nat} {Q : s_O → Prop} {h : s_H} {kc ks : Nat} {r0 : Term} {x1 x2 x3 x4 : Int} {t5 t6 : Term} {s0 : Int}  (k : wr P d sw_c616 sw_h616 (51, [r0, vi x1, vi x2, vi x3, vi x4, t5, t6], [vi s0], h, kc, ks) Q)   : wr P d sw_c616 sw_h616 (47, [r0, vi x1, vi x2, vi x3, vi x4, t5, t6], [vi s0], h, kc, ks) Q := by
  refine w_goto rfl ?_
  exact k

theorem k616_50 {P : s_P} {d : Nat} {Q : s_O → Prop} {h : s_H} {kc ks : Nat} {r0 : Term} {x1 x2 x3 x4 : Int} {t5 t6 : Term}  (k : wr P d sw_c616 sw_h616 (51, [r0, vi x1, vi x2, vi x3, vi x4, t5, t6], [vi 0], h, kc, ks) Q)   : wr P d sw_c616 sw_h616 (50, [r0, vi x1, vi x2, vi x3, vi x4, t5, t6], [], h, kc, ks) Q := by
  refine w_c32 rfl (by decide) 0 (by decide) ?_
  exact k

theorem k616_51 {P : s_P} {d : Nat} {Q : s_O → Prop} {h : s_H} {kc ks : Nat} {r0 : Term} {x1 x2 x3 x4 : Int} {t5 t6 : Term} {s0 : Int}  (k : wr P d sw_c616 sw_h616 (56, [r0, vi x1, vi x2, vi x3, vi x4, vi s0, vi 0], [], h, kc, ks) Q)   : wr P d sw_c616 sw_h616 (51, [r0, vi x1, vi x2, vi x3, vi x4, t5, t6], [vi s0], h, kc, ks) Q := by
  refine w_st (ls' := [r0, vi x1, vi x2, vi x3, vi x4, vi s0, t6]) rfl (Or.inl ⟨by decide, rfl⟩) rfl ?_
  refine w_c32 rfl (by decide) 0 (by decide) ?_
  refine w_st (ls' := [r0, vi x1, vi x2, vi x3, vi x4, vi s0, vi 0]) rfl (Or.inl ⟨by decide, rfl⟩) rfl ?_
  exact k

theorem k616_56 {P : s_P} {d : Nat} {Q : s_O → Prop} {h : s_H} {kc ks : Nat} {r0 : Term} {x1 x2 x3 x4 x5 x6 : Int}  (k1 : 16 ≤ x6 → wr P d sw_c616 sw_h616 (96, [r0, vi x1, vi x2, vi x3, vi x4, vi x5, vi x6], [], h, kc, ks) Q) (k2 : ¬ 16 ≤ x6 → wr P d sw_c616 sw_h616 (63, [r0, vi x1, vi x2, vi x3, vi x4, vi x5, vi x6], [], h, kc, ks) Q)  (c1 : In3 x6 := by first | omega | assumption | (simp only [mk_len, List.length_map]; omega) | decide) : wr P d sw_c616 sw_h616 (56, [r0, vi x1, vi x2, vi x3, vi x4, vi x5, vi x6], [], h, kc, ks) Q := by
  refine w_ld rfl rfl (Or.inl ⟨by decide, rfl⟩) ?_
  refine w_c32 rfl (by decide) 16 (by decide) ?_
  exact w_if2 rfl c1 (by decide) k1 k2

theorem k616_63 {P : s_P} {d : Nat} {Q : s_O → Prop} {h : s_H} {kc ks : Nat} {r0 : Term} {x1 x2 x3 x4 x5 x6 : Int}  (k1 : zi 24 (zi 28 x5 x6) 1 ≠ 1 → wr P d sw_c616 sw_h616 (90, [r0, vi x1, vi x2, vi x3, vi x4, vi x5, vi x6], [], h, kc, ks) Q) (k2 : ¬ zi 24 (zi 28 x5 x6) 1 ≠ 1 → wr P d sw_c616 sw_h616 (74, [r0, vi x1, vi x2, vi x3, vi x4, vi x5, vi x6], [], h, kc, ks) Q)  (c1 : In3 (zi 24 (zi 28 x5 x6) 1) := by first | omega | assumption | (simp only [mk_len, List.length_map]; omega) | decide) : wr P d sw_c616 sw_h616 (63, [r0, vi x1, vi x2, vi x3, vi x4, vi x5, vi x6], [], h, kc, ks) Q := by
  refine w_ld rfl rfl (Or.inl ⟨by decide, rfl⟩) ?_
  refine w_ld rfl rfl (Or.inl ⟨by decide, rfl⟩) ?_
  refine w_ib rfl (by decide) ?_
  refine w_c32 rfl (by decide) 1 (by decide) ?_
  refine w_ib rfl (by decide) ?_
  refine w_c32 rfl (by decide) 1 (by decide) ?_
  exact w_if2 rfl c1 (by decide) k1 k2

theorem k616_74 {P : s_P} {d : Nat} {Q : s_O → Prop} {h : s_H} {kc ks : Nat} {r0 : Term} {x1 x2 x3 x4 x5 x6 : Int} {q2 : Nat} {f3 : List Term} (g4 : s_get h q2 = some (1, 11, f3)) (k : wm P d 476 [.index q2, vi x6] h (wq P d sw_c616 sw_h616 80 [.index q2, vi x1, vi x2, vi x3, vi x4, vi x5, vi x6] [] kc ks Q)) (e_q2 : r0 = .index q2 := by first | rfl | assumption) (y1 : s_ty r0 = 3 := by first | rfl | assumption)  : wr P d sw_c616 sw_h616 (74, [r0, vi x1, vi x2, vi x3, vi x4, vi x5, vi x6], [], h, kc, ks) Q := by
  refine w_ld rfl rfl (Or.inr (Or.inr ⟨by decide, y1⟩)) ?_
  refine w_ld rfl rfl (Or.inl ⟨by decide, rfl⟩) ?_
  subst e_q2
  exact w_cv rfl [.index q2, vi x6] [] rfl rfl (s_wt_4 rfl) rfl g4 k

theorem k616_80 {P : s_P} {d : Nat} {Q : s_O → Prop} {h : s_H} {kc ks : Nat} {r0 : Term} {x1 x2 x3 x4 x5 x6 s0 : Int}  (k1 : s0 = 0 → wr P d sw_c616 sw_h616 (90, [r0, vi x1, vi x2, vi x3, vi x4, vi x5, vi x6], [], h, kc, ks) Q) (k2 : ¬ s0 = 0 → wr P d sw_c616 sw_h616 (83, [r0, vi x1, vi x2, vi x3, vi x4, vi x5, vi x6], [], h, kc, ks) Q)  (c1 : In3 s0 := by first | omega | assumption | (simp only [mk_len, List.length_map]; omega) | decide) : wr P d sw_c616 sw_h616 (80, [r0, vi x1, vi x2, vi x3, vi x4, vi x5, vi x6], [vi s0], h, kc, ks) Q := by
  exact w_if1 rfl c1 k1 k2

theorem k616_83 {P : s_P} {d : Nat} {Q : s_O → Prop} {h : s_H} {kc ks : Nat} {r0 : Term} {x1 x2 x3 x4 x5 x6 : Int}  (k : wr P d sw_c616 sw_h616 (90, [r0, vi x1, vi (zi 25 x2 (zi 27 1 x6)), vi x3, vi x4, vi x5, vi x6], [], h, kc, ks) Q)   : wr P d sw_c616 sw_h616 (83, [r0, vi x1, vi x2, vi x3, vi x4, vi x5, vi x6], [], h, kc, ks) Q := by
  refine w_ld rfl rfl (Or.inl ⟨by decide, rfl⟩) ?_
  refine w_c32 rfl (by decide) 1 (by decide) ?_
  refine w_ld rfl rfl (Or.inl ⟨by decide, rfl⟩) ?_
  refine w_ib rfl (by decide) ?_
  refine w_ib rfl (by decide) ?_
  refine w_st (ls' := [r0, vi x1, vi (zi 25 x2 (zi 27 1 x6)), vi x3, vi x4, vi x5, vi x6]) rfl (Or.inl ⟨by decide, rfl⟩) rfl ?_
  exact k

theorem k616_90 {P : s_P} {d : Nat} {Q : s_O → Prop} {h : s_H} {kc ks : Nat} {r0 : Term} {x1 x2 x3 x4 x5 x6 : Int}  (k : wr P d sw_c616 sw_h616 (56, [r0, vi x1, vi x2, vi x3, vi x4, vi x5, vi (x6 + 1)], [], h, kc, ks) Q)   : wr P d sw_c616 sw_h616 (90, [r0, vi x1, vi x2, vi x3, vi x4, vi x5, vi x6], [], h, kc, ks) Q := by
  refine w_iinc (ls' := [r0, vi x1, vi x2, vi x3, vi x4, vi x5, vi (x6 + 1)]) rfl rfl 1 (by decide) rfl ?_
  refine w_goto rfl ?_
  exact k

theorem k616_96 {P : s_P} {d : Nat} {Q : s_O → Prop} {h : s_H} {kc ks : Nat} {r0 : Term} {x1 x2 x3 x4 x5 x6 : Int}  (k : wr P d sw_c616 sw_h616 (24, [r0, vi x1, vi x2, vi x3, vi (x4 + 1), vi x5, vi x6], [], h, kc, ks) Q)   : wr P d sw_c616 sw_h616 (96, [r0, vi x1, vi x2, vi x3, vi x4, vi x5, vi x6], [], h, kc, ks) Q := by
  refine w_iinc (ls' := [r0, vi x1, vi x2, vi x3, vi (x4 + 1), vi x5, vi x6]) rfl rfl 1 (by decide) rfl ?_
  refine w_goto rfl ?_
  exact k

theorem k616_102 {P : s_P} {d : Nat} {Q : s_O → Prop} {h : s_H} {kc ks : Nat} {r0 : Term} {x1 x2 x3 x4 : Int} {t5 t6 : Term}  (k : wr P d sw_c616 sw_h616 (15, [r0, vi x1, vi x2, vi (x3 + 1), vi x4, t5, t6], [], h, kc, ks) Q)   : wr P d sw_c616 sw_h616 (102, [r0, vi x1, vi x2, vi x3, vi x4, t5, t6], [], h, kc, ks) Q := by
  refine w_iinc (ls' := [r0, vi x1, vi x2, vi (x3 + 1), vi x4, t5, t6]) rfl rfl 1 (by decide) rfl ?_
  refine w_goto rfl ?_
  exact k

theorem k616_108 {P : s_P} {d : Nat} {Q : s_O → Prop} {h : s_H} {kc ks : Nat} {r0 : Term} {x1 x2 x3 : Int} {t4 t5 t6 : Term}  (k1 : x2 = 0 → wr P d sw_c616 sw_h616 (161, [r0, vi x1, vi x2, vi x3, t4, t5, t6], [], h, kc, ks) Q) (k2 : ¬ x2 = 0 → wr P d sw_c616 sw_h616 (112, [r0, vi x1, vi x2, vi x3, t4, t5, t6], [], h, kc, ks) Q)  (c1 : In3 x2 := by first | omega | assumption | (simp only [mk_len, List.length_map]; omega) | decide) : wr P d sw_c616 sw_h616 (108, [r0, vi x1, vi x2, vi x3, t4, t5, t6], [], h, kc, ks) Q := by
  refine w_ld rfl rfl (Or.inl ⟨by decide, rfl⟩) ?_
  exact w_if1 rfl c1 k1 k2

theorem k616_112 {P : s_P} {d : Nat} {Q : s_O → Prop} {h : s_H} {kc ks : Nat} {r0 : Term} {x1 x2 x3 : Int} {t4 t5 t6 : Term}  (k : wr P d sw_c616 sw_h616 (114, [r0, vi x1, vi x2, vi 0, t4, t5, t6], [], h, kc, ks) Q)   : wr P d sw_c616 sw_h616 (112, [r0, vi x1, vi x2, vi x3, t4, t5, t6], [], h, kc, ks) Q := by
  refine w_c32 rfl (by decide) 0 (by decide) ?_
  refine w_st (ls' := [r0, vi x1, vi x2, vi 0, t4, t5, t6]) rfl (Or.inl ⟨by decide, rfl⟩) rfl ?_
  exact k

theorem k616_114 {P : s_P} {d : Nat} {Q : s_O → Prop} {h : s_H} {kc ks : Nat} {r0 : Term} {x1 x2 x3 : Int} {t4 t5 t6 : Term}  (k1 : 16 ≤ x3 → wr P d sw_c616 sw_h616 (158, [r0, vi x1, vi x2, vi x3, t4, t5, t6], [], h, kc, ks) Q) (k2 : ¬ 16 ≤ x3 → wr P d sw_c616 sw_h616 (120, [r0, vi x1, vi x2, vi x3, t4, t5, t6], [], h, kc, ks) Q)  (c1 : In3 x3 := by first | omega | assumption | (simp only [mk_len, List.length_map]; omega) | decide) : wr P d sw_c616 sw_h616 (114, [r0, vi x1, vi x2, vi x3, t4, t5, t6], [], h, kc, ks) Q := by
  refine w_ld rfl rfl (Or.inl ⟨by decide, rfl⟩) ?_
  refine w_c32 rfl (by decide) 16 (by decide) ?_
  exact w_if2 rfl c1 (by decide) k1 k2

theorem k616_120 {P : s_P} {d : Nat} {Q : s_O → Prop} {h : s_H} {kc ks : Nat} {r0 : Term} {x1 x2 x3 : Int} {t4 t5 t6 : Term}  (k1 : zi 24 (zi 28 x2 x3) 1 = 0 → wr P d sw_c616 sw_h616 (152, [r0, vi x1, vi x2, vi x3, t4, t5, t6], [], h, kc, ks) Q) (k2 : ¬ zi 24 (zi 28 x2 x3) 1 = 0 → wr P d sw_c616 sw_h616 (128, [r0, vi x1, vi x2, vi x3, t4, t5, t6], [], h, kc, ks) Q)  (c1 : In3 (zi 24 (zi 28 x2 x3) 1) := by first | omega | assumption | (simp only [mk_len, List.length_map]; omega) | decide) : wr P d sw_c616 sw_h616 (120, [r0, vi x1, vi x2, vi x3, t4, t5, t6], [], h, kc, ks) Q := by
  refine w_ld rfl rfl (Or.inl ⟨by decide, rfl⟩) ?_
  refine w_ld rfl rfl (Or.inl ⟨by decide, rfl⟩) ?_
  refine w_ib rfl (by decide) ?_
  refine w_c32 rfl (by decide) 1 (by decide) ?_
  refine w_ib rfl (by decide) ?_
  exact w_if1 rfl c1 k1 k2

theorem k616_128 {P : s_P} {d : Nat} {Q : s_O → Prop} {h : s_H} {kc ks : Nat} {r0 : Term} {x1 x2 x3 : Int} {t4 t5 t6 : Term} {q2 : Nat} {f3 : List Term} (g4 : s_get h q2 = some (1, 11, f3)) (k : wm P d 535 [.index q2, vi x3] h (wq P d sw_c616 sw_h616 133 [.index q2, vi x1, vi x2, vi x3, t4, t5, t6] [] kc ks Q)) (e_q2 : r0 = .index q2 := by first | rfl | assumption) (y1 : s_ty r0 = 3 := by first | rfl | assumption)  : wr P d sw_c616 sw_h616 (128, [r0, vi x1, vi x2, vi x3, t4, t5, t6], [], h, kc, ks) Q := by
  refine w_ld rfl rfl (Or.inr (Or.inr ⟨by decide, y1⟩)) ?_
  refine w_ld rfl rfl (Or.inl ⟨by decide, rfl⟩) ?_
  subst e_q2
  exact w_cv rfl [.index q2, vi x3] [] rfl rfl (s_wt_4 rfl) rfl g4 k

theorem k616_133 {P : s_P} {d : Nat} {Q : s_O → Prop} {h : s_H} {kc ks : Nat} {r0 : Term} {x1 x2 x3 : Int} {t4 t5 t6 : Term} {s0 : Int}  (k1 : zi 24 s0 x2 = 0 → wr P d sw_c616 sw_h616 (141, [r0, vi x1, vi x2, vi x3, t4, t5, t6], [], h, kc, ks) Q) (k2 : ¬ zi 24 s0 x2 = 0 → wr P d sw_c616 sw_h616 (138, [r0, vi x1, vi x2, vi x3, t4, t5, t6], [], h, kc, ks) Q)  (c1 : In3 (zi 24 s0 x2) := by first | omega | assumption | (simp only [mk_len, List.length_map]; omega) | decide) : wr P d sw_c616 sw_h616 (133, [r0, vi x1, vi x2, vi x3, t4, t5, t6], [vi s0], h, kc, ks) Q := by
  refine w_ld rfl rfl (Or.inl ⟨by decide, rfl⟩) ?_
  refine w_ib rfl (by decide) ?_
  exact w_if1 rfl c1 k1 k2

theorem k616_138 {P : s_P} {d : Nat} {Q : s_O → Prop} {h : s_H} {kc ks : Nat} {r0 : Term} {x1 x2 x3 : Int} {t4 t5 t6 : Term}  (k : wr P d sw_c616 sw_h616 (152, [r0, vi x1, vi x2, vi x3, t4, t5, t6], [], h, kc, ks) Q)   : wr P d sw_c616 sw_h616 (138, [r0, vi x1, vi x2, vi x3, t4, t5, t6], [], h, kc, ks) Q := by
  refine w_goto rfl ?_
  exact k

theorem k616_141 {P : s_P} {d : Nat} {Q : s_O → Prop} {h : s_H} {kc ks : Nat} {r0 : Term} {x1 x2 x3 : Int} {t4 t5 t6 : Term} {q2 : Nat} {f3 : List Term} (g4 : s_get h q2 = some (1, 11, f3)) (k : wm P d 615 [.index q2, vi x3] h (wq P d sw_c616 sw_h616 146 [.index q2, vi x1, vi x2, vi x3, t4, t5, t6] [] kc ks Q)) (e_q2 : r0 = .index q2 := by first | rfl | assumption) (y1 : s_ty r0 = 3 := by first | rfl | assumption)  : wr P d sw_c616 sw_h616 (141, [r0, vi x1, vi x2, vi x3, t4, t5, t6], [], h, kc, ks) Q := by
  refine w_ld rfl rfl (Or.inr (Or.inr ⟨by decide, y1⟩)) ?_
  refine w_ld rfl rfl (Or.inl ⟨by decide, rfl⟩) ?_
  subst e_q2
  exact w_cv rfl [.index q2, vi x3] [] rfl rfl (s_wt_4 rfl) rfl g4 k

theorem k616_146 {P : s_P} {d : Nat} {Q : s_O → Prop} {h : s_H} {kc ks : Nat} {r0 : Term} {x1 x2 x3 : Int} {t4 t5 t6 : Term}  (k : wr P d sw_c616 sw_h616 (152, [r0, vi x1, vi (x2 - (zi 27 1 x3)), vi x3, t4, t5, t6], [], h, kc, ks) Q)   : wr P d sw_c616 sw_h616 (146, [r0, vi x1, vi x2, vi x3, t4, t5, t6], [], h, kc, ks) Q := by
  refine w_ld rfl rfl (Or.inl ⟨by decide, rfl⟩) ?_
  refine w_c32 rfl (by decide) 1 (by decide) ?_
  refine w_ld rfl rfl (Or.inl ⟨by decide, rfl⟩) ?_
  refine w_ib rfl (by decide) ?_
  refine w_isub rfl ?_
  refine w_st (ls' := [r0, vi x1, vi (x2 - (zi 27 1 x3)), vi x3, t4, t5, t6]) rfl (Or.inl ⟨by decide, rfl⟩) rfl ?_
  exact k

theorem k616_152 {P : s_P} {d : Nat} {Q : s_O → Prop} {h : s_H} {kc ks : Nat} {r0 : Term} {x1 x2 x3 : Int} {t4 t5 t6 : Term}  (k : wr P d sw_c616 sw_h616 (114, [r0, vi x1, vi x2, vi (x3 + 1), t4, t5, t6], [], h, kc, ks) Q)   : wr P d sw_c616 sw_h616 (152, [r0, vi x1, vi x2, vi x3, t4, t5, t6], [], h, kc, ks) Q := by
  refine w_iinc (ls' := [r0, vi x1, vi x2, vi (x3 + 1), t4, t5, t6]) rfl rfl 1 (by decide) rfl ?_
  refine w_goto rfl ?_
  exact k

theorem k616_158 {P : s_P} {d : Nat} {Q : s_O → Prop} {h : s_H} {kc ks : Nat} {r0 : Term} {x1 x2 x3 : Int} {t4 t5 t6 : Term}  (k : wr P d sw_c616 sw_h616 (108, [r0, vi x1, vi x2, vi x3, t4, t5, t6], [], h, kc, ks) Q)   : wr P d sw_c616 sw_h616 (158, [r0, vi x1, vi x2, vi x3, t4, t5, t6], [], h, kc, ks) Q := by
  refine w_goto rfl ?_
  exact k

theorem k616_161 {P : s_P} {d : Nat} {Q : s_O → Prop} {h : s_H} {kc ks : Nat} {r0 : Term} {x1 x2 x3 : Int} {t4 t5 t6 : Term}  (k : Q (.inl none, h, kc, ks))   : wr P d sw_c616 sw_h616 (161, [r0, vi x1, vi x2, vi x3, t4, t5, t6], [], h, kc, ks) Q := by
  exact w_ret rfl k

/-! 617: FormulaWorksModel.workNode(I)I -/
theorem k617_0 {P : s_P} {d : Nat} {Q : s_O → Prop} {h : s_H} {kc ks : Nat} {r0 : Term} {x1 : Int} {t2 : Term} {q2 : Nat} {f3 : List Term} {v5 : Term} {q7 : Nat} {a8 : List Int} {v13 : Term} (g4 : s_get h q2 = some (1, 11, f3)) (g9 : s_get h q7 = some (0, 0, a8.map vi)) (k1 : gi a8 x1 ≠ 0 → wr P d sw_c617 sw_h617 (25, [.index q2, vi x1, vi (gi a8 x1)], [v13], h, kc, ks) Q) (k2 : ¬ gi a8 x1 ≠ 0 → wr P d sw_c617 sw_h617 (15, [.index q2, vi x1, vi (gi a8 x1)], [v13], h, kc, ks) Q) (e_q2 : r0 = .index q2 := by first | rfl | assumption) (e_q7 : v5 = .index q7 := by first | rfl | assumption) (y1 : s_ty r0 = 3 := by first | rfl | assumption) (n6 : s_nth f3 83 = some v5 := by first | rfl | assumption) (n14 : s_nth f3 14 = some v13 := by first | rfl | assumption) (c10 : x1 < a8.length := by first | omega | assumption | (simp only [mk_len, List.length_map]; omega) | decide) (c11 : 0 ≤ x1 := by first | omega | assumption | (simp only [mk_len, List.length_map]; omega) | decide) (c12 : In3 x1 := by first | omega | assumption | (simp only [mk_len, List.length_map]; omega) | decide) (c15 : In3 (gi a8 x1) := by first | omega | assumption | (simp only [mk_len, List.length_map]; omega) | decide) : wr P d sw_c617 sw_h617 (0, [r0, vi x1, t2], [], h, kc, ks) Q := by
  refine w_ld rfl rfl (Or.inr (Or.inr ⟨by decide, y1⟩)) ?_
  subst e_q2
  refine w_getf rfl g4 n6 ?_
  refine w_ld rfl rfl (Or.inl ⟨by decide, rfl⟩) ?_
  subst e_q7
  refine w_iald rfl g9 (Or.inl rfl) c12 c11 c10 ?_
  refine w_st (ls' := [.index q2, vi x1, vi (gi a8 x1)]) rfl (Or.inl ⟨by decide, rfl⟩) rfl ?_
  refine w_ld rfl rfl (Or.inr (Or.inr ⟨by decide, rfl⟩)) ?_
  refine w_getf rfl g4 n14 ?_
  refine w_ld rfl rfl (Or.inl ⟨by decide, rfl⟩) ?_
  exact w_if1 rfl c15 k1 k2

theorem k617_15 {P : s_P} {d : Nat} {Q : s_O → Prop} {h : s_H} {kc ks : Nat} {r0 : Term} {x1 x2 : Int} {s0 : Term} {q2 : Nat} {f3 : List Term} {v5 : Term} {q7 : Nat} {a8 : List Int} (g4 : s_get h q2 = some (1, 11, f3)) (g9 : s_get h q7 = some (0, 0, a8.map vi)) (k : wr P d sw_c617 sw_h617 (26, [.index q2, vi x1, vi x2], [vl (gi a8 x1), s0], h, kc, ks) Q) (e_q2 : r0 = .index q2 := by first | rfl | assumption) (e_q7 : v5 = .index q7 := by first | rfl | assumption) (y1 : s_ty r0 = 3 := by first | rfl | assumption) (n6 : s_nth f3 84 = some v5 := by first | rfl | assumption) (c10 : x1 < a8.length := by first | omega | assumption | (simp only [mk_len, List.length_map]; omega) | decide) (c11 : 0 ≤ x1 := by first | omega | assumption | (simp only [mk_len, List.length_map]; omega) | decide) (c12 : In3 x1 := by first | omega | assumption | (simp only [mk_len, List.length_map]; omega) | decide) (c13 : In3 (gi a8 x1) := by first | omega | assumption | (simp only [mk_len, List.length_map]; omega) | decide) : wr P d sw_c617 sw_h617 (15, [r0, vi x1, vi x2], [s0], h, kc, ks) Q := by
  refine w_ld rfl rfl (Or.inr (Or.inr ⟨by decide, y1⟩)) ?_
  subst e_q2
  refine w_getf rfl g4 n6 ?_
  refine w_ld rfl rfl (Or.inl ⟨by decide, rfl⟩) ?_
  subst e_q7
  refine w_iald rfl g9 (Or.inl rfl) c12 c11 c10 ?_
  refine w_i2l rfl c13 ?_
  refine w_goto rfl ?_
  exact k

theorem k617_25 {P : s_P} {d : Nat} {Q : s_O → Prop} {h : s_H} {kc ks : Nat} {r0 : Term} {x1 x2 : Int} {s0 : Term}  (k : wr P d sw_c617 sw_h617 (26, [r0, vi x1, vi x2], [vl 0, s0], h, kc, ks) Q)   : wr P d sw_c617 sw_h617 (25, [r0, vi x1, vi x2], [s0], h, kc, ks) Q := by
  refine w_c64 rfl (by decide) 0 (by decide) ?_
  exact k

theorem k617_26 {P : s_P} {d : Nat} {Q : s_O → Prop} {h : s_H} {kc ks : Nat} {r0 : Term} {x1 x2 : Int} {s0 : Term} {s1 : Int}  (k : wm P d 405 [s0, vl s1] h (wq P d sw_c617 sw_h617 29 [r0, vi x1, vi x2] [] kc ks Q))   : wr P d sw_c617 sw_h617 (26, [r0, vi x1, vi x2], [vl s1, s0], h, kc, ks) Q := by
  exact w_cs rfl [s0, vl s1] [] rfl rfl (s_wt_4 rfl) k

theorem k617_29 {P : s_P} {d : Nat} {Q : s_O → Prop} {h : s_H} {kc ks : Nat} {r0 : Term} {x1 x2 : Int} {q2 : Nat} {f3 : List Term} {v5 : Term} (g4 : s_get h q2 = some (1, 11, f3)) (k : wm P d 405 [v5, vl 1] h (wq P d sw_c617 sw_h617 37 [.index q2, vi x1, vi x2] [] kc ks Q)) (e_q2 : r0 = .index q2 := by first | rfl | assumption) (y1 : s_ty r0 = 3 := by first | rfl | assumption) (n6 : s_nth f3 15 = some v5 := by first | rfl | assumption)  : wr P d sw_c617 sw_h617 (29, [r0, vi x1, vi x2], [], h, kc, ks) Q := by
  refine w_ld rfl rfl (Or.inr (Or.inr ⟨by decide, y1⟩)) ?_
  subst e_q2
  refine w_getf rfl g4 n6 ?_
  refine w_c64 rfl (by decide) 1 (by decide) ?_
  exact w_cs rfl [v5, vl 1] [] rfl rfl (s_wt_4 rfl) k

theorem k617_37 {P : s_P} {d : Nat} {Q : s_O → Prop} {h : s_H} {kc ks : Nat} {r0 : Term} {x1 x2 : Int}  (k1 : x2 ≠ 1 → wr P d sw_c617 sw_h617 (49, [r0, vi x1, vi x2], [], h, kc, ks) Q) (k2 : ¬ x2 ≠ 1 → wr P d sw_c617 sw_h617 (42, [r0, vi x1, vi x2], [], h, kc, ks) Q)  (c1 : In3 x2 := by first | omega | assumption | (simp only [mk_len, List.length_map]; omega) | decide) : wr P d sw_c617 sw_h617 (37, [r0, vi x1, vi x2], [], h, kc, ks) Q := by
  refine w_ld rfl rfl (Or.inl ⟨by decide, rfl⟩) ?_
  refine w_c32 rfl (by decide) 1 (by decide) ?_
  exact w_if2 rfl c1 (by decide) k1 k2

theorem k617_42 {P : s_P} {d : Nat} {Q : s_O → Prop} {h : s_H} {kc ks : Nat} {r0 : Term} {x1 x2 : Int} {q2 : Nat} {f3 : List Term} {v5 : Term} {q7 : Nat} {a8 : List Int} (g4 : s_get h q2 = some (1, 11, f3)) (g9 : s_get h q7 = some (0, 1, a8.map vl)) (k : wr P d sw_c617 sw_h617 (49, [.index q2, vi x1, vi x2], [], (hp h q7 (0, 1, (a8.set (Int.toNat (1)) 1).map vl)), kc, ks) Q) (e_q2 : r0 = .index q2 := by first | rfl | assumption) (e_q7 : v5 = .index q7 := by first | rfl | assumption) (y1 : s_ty r0 = 3 := by first | rfl | assumption) (n6 : s_nth f3 14 = some v5 := by first | rfl | assumption) (c10 : (1 : Int) < a8.length := by first | omega | assumption | (simp only [mk_len, List.length_map]; omega) | decide) (c11 : 0 < q7 := by first | omega | assumption | (simp only [mk_len, List.length_map]; omega) | decide) : wr P d sw_c617 sw_h617 (42, [r0, vi x1, vi x2], [], h, kc, ks) Q := by
  refine w_ld rfl rfl (Or.inr (Or.inr ⟨by decide, y1⟩)) ?_
  subst e_q2
  refine w_getf rfl g4 n6 ?_
  refine w_c32 rfl (by decide) 1 (by decide) ?_
  refine w_c64 rfl (by decide) 1 (by decide) ?_
  subst e_q7
  refine w_last rfl g9 (Nat.ble_eq_true_of_le c11) (by decide) (by decide) c10 ?_
  exact k

theorem k617_49 {P : s_P} {d : Nat} {Q : s_O → Prop} {h : s_H} {kc ks : Nat} {r0 : Term} {x1 x2 : Int}  (k1 : 2 ≤ x2 → wr P d sw_c617 sw_h617 (56, [r0, vi x1, vi x2], [], h, kc, ks) Q) (k2 : ¬ 2 ≤ x2 → wr P d sw_c617 sw_h617 (54, [r0, vi x1, vi x2], [], h, kc, ks) Q)  (c1 : In3 x2 := by first | omega | assumption | (simp only [mk_len, List.length_map]; omega) | decide) : wr P d sw_c617 sw_h617 (49, [r0, vi x1, vi x2], [], h, kc, ks) Q := by
  refine w_ld rfl rfl (Or.inl ⟨by decide, rfl⟩) ?_
  refine w_c32 rfl (by decide) 2 (by decide) ?_
  exact w_if2 rfl c1 (by decide) k1 k2

theorem k617_54 {P : s_P} {d : Nat} {Q : s_O → Prop} {h : s_H} {kc ks : Nat} {r0 : Term} {x1 x2 : Int}  (k : Q (.inl (some (vi 0)), h, kc, ks))   : wr P d sw_c617 sw_h617 (54, [r0, vi x1, vi x2], [], h, kc, ks) Q := by
  refine w_c32 rfl (by decide) 0 (by decide) ?_
  exact w_iret rfl k

theorem k617_56 {P : s_P} {d : Nat} {Q : s_O → Prop} {h : s_H} {kc ks : Nat} {r0 : Term} {x1 x2 : Int} {q2 : Nat} {f3 : List Term} {v5 v7 : Term} (g4 : s_get h q2 = some (1, 11, f3)) (k : wm P d 513 [.index q2, v5, v7, vi (x1 + 1)] h (wq P d sw_c617 sw_h617 71 [.index q2, vi x1, vi x2] [] kc ks Q)) (e_q2 : r0 = .index q2 := by first | rfl | assumption) (y1 : s_ty r0 = 3 := by first | rfl | assumption) (n6 : s_nth f3 10 = some v5 := by first | rfl | assumption) (n8 : s_nth f3 11 = some v7 := by first | rfl | assumption)  : wr P d sw_c617 sw_h617 (56, [r0, vi x1, vi x2], [], h, kc, ks) Q := by
  refine w_ld rfl rfl (Or.inr (Or.inr ⟨by decide, y1⟩)) ?_
  refine w_ld rfl rfl (Or.inr (Or.inr ⟨by decide, y1⟩)) ?_
  subst e_q2
  refine w_getf rfl g4 n6 ?_
  refine w_ld rfl rfl (Or.inr (Or.inr ⟨by decide, rfl⟩)) ?_
  refine w_getf rfl g4 n8 ?_
  refine w_ld rfl rfl (Or.inl ⟨by decide, rfl⟩) ?_
  refine w_c32 rfl (by decide) 1 (by decide) ?_
  refine w_iadd rfl ?_
  exact w_cv rfl [.index q2, v5, v7, vi (x1 + 1)] [] rfl rfl (s_wt_4 rfl) rfl g4 k

theorem k617_71 {P : s_P} {d : Nat} {Q : s_O → Prop} {h : s_H} {kc ks : Nat} {r0 : Term} {x1 x2 : Int}  (k1 : x2 ≠ 7 → wr P d sw_c617 sw_h617 (96, [r0, vi x1, vi x2], [], h, kc, ks) Q) (k2 : ¬ x2 ≠ 7 → wr P d sw_c617 sw_h617 (77, [r0, vi x1, vi x2], [], h, kc, ks) Q)  (c1 : In3 x2 := by first | omega | assumption | (simp only [mk_len, List.length_map]; omega) | decide) : wr P d sw_c617 sw_h617 (71, [r0, vi x1, vi x2], [], h, kc, ks) Q := by
  refine w_ld rfl rfl (Or.inl ⟨by decide, rfl⟩) ?_
  refine w_c32 rfl (by decide) 7 (by decide) ?_
  exact w_if2 rfl c1 (by decide) k1 k2

theorem k617_77 {P : s_P} {d : Nat} {Q : s_O → Prop} {h : s_H} {kc ks : Nat} {r0 : Term} {x1 x2 : Int} {q2 : Nat} {f3 : List Term} {v5 : Term} {q7 : Nat} {a8 : List Int} (g4 : s_get h q2 = some (1, 11, f3)) (g9 : s_get h q7 = some (0, 0, a8.map vi)) (k : wm P d 484 [.index q2, vi (gi a8 x1)] h (wq P d sw_c617 sw_h617 87 [.index q2, vi x1, vi x2] [] kc ks Q)) (e_q2 : r0 = .index q2 := by first | rfl | assumption) (e_q7 : v5 = .index q7 := by first | rfl | assumption) (y1 : s_ty r0 = 3 := by first | rfl | assumption) (n6 : s_nth f3 84 = some v5 := by first | rfl | assumption) (c10 : x1 < a8.length := by first | omega | assumption | (simp only [mk_len, List.length_map]; omega) | decide) (c11 : 0 ≤ x1 := by first | omega | assumption | (simp only [mk_len, List.length_map]; omega) | decide) (c12 : In3 x1 := by first | omega | assumption | (simp only [mk_len, List.length_map]; omega) | decide) : wr P d sw_c617 sw_h617 (77, [r0, vi x1, vi x2], [], h, kc, ks) Q := by
  refine w_ld rfl rfl (Or.inr (Or.inr ⟨by decide, y1⟩)) ?_
  refine w_ld rfl rfl (Or.inr (Or.inr ⟨by decide, y1⟩)) ?_
  subst e_q2
  refine w_getf rfl g4 n6 ?_
  refine w_ld rfl rfl (Or.inl ⟨by decide, rfl⟩) ?_
  subst e_q7
  refine w_iald rfl g9 (Or.inl rfl) c12 c11 c10 ?_
  exact w_cv rfl [.index q2, vi (gi a8 x1)] [] rfl rfl (s_wt_4 rfl) rfl g4 k

theorem k617_87 {P : s_P} {d : Nat} {Q : s_O → Prop} {h : s_H} {kc ks : Nat} {r0 : Term} {x1 x2 s0 : Int}  (k1 : s0 = 0 → wr P d sw_c617 sw_h617 (94, [r0, vi x1, vi x2], [], h, kc, ks) Q) (k2 : ¬ s0 = 0 → wr P d sw_c617 sw_h617 (90, [r0, vi x1, vi x2], [], h, kc, ks) Q)  (c1 : In3 s0 := by first | omega | assumption | (simp only [mk_len, List.length_map]; omega) | decide) : wr P d sw_c617 sw_h617 (87, [r0, vi x1, vi x2], [vi s0], h, kc, ks) Q := by
  exact w_if1 rfl c1 k1 k2

theorem k617_90 {P : s_P} {d : Nat} {Q : s_O → Prop} {h : s_H} {kc ks : Nat} {r0 : Term} {x1 x2 : Int}  (k : wr P d sw_c617 sw_h617 (95, [r0, vi x1, vi x2], [vi 0], h, kc, ks) Q)   : wr P d sw_c617 sw_h617 (90, [r0, vi x1, vi x2], [], h, kc, ks) Q := by
  refine w_c32 rfl (by decide) 0 (by decide) ?_
  refine w_goto rfl ?_
  exact k

theorem k617_94 {P : s_P} {d : Nat} {Q : s_O → Prop} {h : s_H} {kc ks : Nat} {r0 : Term} {x1 x2 : Int}  (k : wr P d sw_c617 sw_h617 (95, [r0, vi x1, vi x2], [vi 4], h, kc, ks) Q)   : wr P d sw_c617 sw_h617 (94, [r0, vi x1, vi x2], [], h, kc, ks) Q := by
  refine w_c32 rfl (by decide) 4 (by decide) ?_
  exact k

theorem k617_95 {P : s_P} {d : Nat} {Q : s_O → Prop} {h : s_H} {kc ks : Nat} {r0 : Term} {x1 x2 s0 : Int}  (k : Q (.inl (some (vi s0)), h, kc, ks))   : wr P d sw_c617 sw_h617 (95, [r0, vi x1, vi x2], [vi s0], h, kc, ks) Q := by
  exact w_iret rfl k

theorem k617_96 {P : s_P} {d : Nat} {Q : s_O → Prop} {h : s_H} {kc ks : Nat} {r0 : Term} {x1 x2 : Int}  (k1 : x2 ≠ 6 → wr P d sw_c617 sw_h617 (136, [r0, vi x1, vi x2], [], h, kc, ks) Q) (k2 : ¬ x2 ≠ 6 → wr P d sw_c617 sw_h617 (102, [r0, vi x1, vi x2], [], h, kc, ks) Q)  (c1 : In3 x2 := by first | omega | assumption | (simp only [mk_len, List.length_map]; omega) | decide) : wr P d sw_c617 sw_h617 (96, [r0, vi x1, vi x2], [], h, kc, ks) Q := by
  refine w_ld rfl rfl (Or.inl ⟨by decide, rfl⟩) ?_
  refine w_c32 rfl (by decide) 6 (by decide) ?_
  exact w_if2 rfl c1 (by decide) k1 k2

theorem k617_102 {P : s_P} {d : Nat} {Q : s_O → Prop} {h : s_H} {kc ks : Nat} {r0 : Term} {x1 x2 : Int} {q2 : Nat} {f3 : List Term} {v5 v7 : Term} (g4 : s_get h q2 = some (1, 11, f3)) (k : wm P d 425 [v5, v7] h (wq P d sw_c617 sw_h617 113 [.index q2, vi x1, vi x2] [] kc ks Q)) (e_q2 : r0 = .index q2 := by first | rfl | assumption) (y1 : s_ty r0 = 3 := by first | rfl | assumption) (n6 : s_nth f3 14 = some v5 := by first | rfl | assumption) (n8 : s_nth f3 10 = some v7 := by first | rfl | assumption)  : wr P d sw_c617 sw_h617 (102, [r0, vi x1, vi x2], [], h, kc, ks) Q := by
  refine w_ld rfl rfl (Or.inr (Or.inr ⟨by decide, y1⟩)) ?_
  subst e_q2
  refine w_getf rfl g4 n6 ?_
  refine w_ld rfl rfl (Or.inr (Or.inr ⟨by decide, rfl⟩)) ?_
  refine w_getf rfl g4 n8 ?_
  exact w_cs rfl [v5, v7] [] rfl rfl (s_wt_4 rfl) k

theorem k617_113 {P : s_P} {d : Nat} {Q : s_O → Prop} {h : s_H} {kc ks : Nat} {r0 : Term} {x1 x2 : Int} {q2 : Nat} {f3 : List Term} {v5 : Term} (g4 : s_get h q2 = some (1, 11, f3)) (k : wm P d 592 [v5, vl 32002] h (wq P d sw_c617 sw_h617 123 [.index q2, vi x1, vi x2] [] kc ks Q)) (e_q2 : r0 = .index q2 := by first | rfl | assumption) (y1 : s_ty r0 = 3 := by first | rfl | assumption) (n6 : s_nth f3 14 = some v5 := by first | rfl | assumption)  : wr P d sw_c617 sw_h617 (113, [r0, vi x1, vi x2], [], h, kc, ks) Q := by
  refine w_ld rfl rfl (Or.inr (Or.inr ⟨by decide, y1⟩)) ?_
  subst e_q2
  refine w_getf rfl g4 n6 ?_
  refine w_c64 rfl (by decide) 32002 (by decide) ?_
  exact w_cs rfl [v5, vl 32002] [] rfl rfl (s_wt_4 rfl) k

theorem k617_123 {P : s_P} {d : Nat} {Q : s_O → Prop} {h : s_H} {kc ks : Nat} {r0 : Term} {x1 x2 : Int} {q2 : Nat} {f3 : List Term} {v5 v7 : Term} (g4 : s_get h q2 = some (1, 11, f3)) (k : wm P d 425 [v5, v7] h (wq P d sw_c617 sw_h617 134 [.index q2, vi x1, vi x2] [] kc ks Q)) (e_q2 : r0 = .index q2 := by first | rfl | assumption) (y1 : s_ty r0 = 3 := by first | rfl | assumption) (n6 : s_nth f3 15 = some v5 := by first | rfl | assumption) (n8 : s_nth f3 11 = some v7 := by first | rfl | assumption)  : wr P d sw_c617 sw_h617 (123, [r0, vi x1, vi x2], [], h, kc, ks) Q := by
  refine w_ld rfl rfl (Or.inr (Or.inr ⟨by decide, y1⟩)) ?_
  subst e_q2
  refine w_getf rfl g4 n6 ?_
  refine w_ld rfl rfl (Or.inr (Or.inr ⟨by decide, rfl⟩)) ?_
  refine w_getf rfl g4 n8 ?_
  exact w_cs rfl [v5, v7] [] rfl rfl (s_wt_4 rfl) k

theorem k617_134 {P : s_P} {d : Nat} {Q : s_O → Prop} {h : s_H} {kc ks : Nat} {r0 : Term} {x1 x2 : Int}  (k : Q (.inl (some (vi 0)), h, kc, ks))   : wr P d sw_c617 sw_h617 (134, [r0, vi x1, vi x2], [], h, kc, ks) Q := by
  refine w_c32 rfl (by decide) 0 (by decide) ?_
  exact w_iret rfl k

theorem k617_136 {P : s_P} {d : Nat} {Q : s_O → Prop} {h : s_H} {kc ks : Nat} {r0 : Term} {x1 x2 : Int} {q2 : Nat} {f3 : List Term} {v5 v7 : Term} (g4 : s_get h q2 = some (1, 11, f3)) (k : wm P d 407 [.index q2, vi (x1 + 1)] h (wq P d sw_c617 sw_h617 152 [.index q2, vi x1, vi x2] [v7, v5, .index q2] kc ks Q)) (e_q2 : r0 = .index q2 := by first | rfl | assumption) (y1 : s_ty r0 = 3 := by first | rfl | assumption) (n6 : s_nth f3 12 = some v5 := by first | rfl | assumption) (n8 : s_nth f3 13 = some v7 := by first | rfl | assumption)  : wr P d sw_c617 sw_h617 (136, [r0, vi x1, vi x2], [], h, kc, ks) Q := by
  refine w_ld rfl rfl (Or.inr (Or.inr ⟨by decide, y1⟩)) ?_
  refine w_ld rfl rfl (Or.inr (Or.inr ⟨by decide, y1⟩)) ?_
  subst e_q2
  refine w_getf rfl g4 n6 ?_
  refine w_ld rfl rfl (Or.inr (Or.inr ⟨by decide, rfl⟩)) ?_
  refine w_getf rfl g4 n8 ?_
  refine w_ld rfl rfl (Or.inr (Or.inr ⟨by decide, rfl⟩)) ?_
  refine w_ld rfl rfl (Or.inl ⟨by decide, rfl⟩) ?_
  refine w_c32 rfl (by decide) 1 (by decide) ?_
  refine w_iadd rfl ?_
  exact w_cv rfl [.index q2, vi (x1 + 1)] [v7, v5, .index q2] rfl rfl (s_wt_4 rfl) rfl g4 k

theorem k617_152 {P : s_P} {d : Nat} {Q : s_O → Prop} {h : s_H} {kc ks : Nat} {r0 : Term} {x1 x2 : Int} {s0 s1 s2 : Term} {s3 : Int} {q1 : Nat} {f2 : List Term} (g3 : s_get h q1 = some (1, 11, f2)) (k : wm P d 513 [.index q1, s1, s2, vi s3] h (wq P d sw_c617 sw_h617 155 [r0, vi x1, vi x2] [] kc ks Q)) (e_q1 : s0 = .index q1 := by first | rfl | assumption)  : wr P d sw_c617 sw_h617 (152, [r0, vi x1, vi x2], [vi s3, s2, s1, s0], h, kc, ks) Q := by
  subst e_q1
  exact w_cv rfl [.index q1, s1, s2, vi s3] [] rfl rfl (s_wt_4 rfl) rfl g3 k

theorem k617_155 {P : s_P} {d : Nat} {Q : s_O → Prop} {h : s_H} {kc ks : Nat} {r0 : Term} {x1 x2 : Int}  (k1 : x2 ≠ 5 → wr P d sw_c617 sw_h617 (172, [r0, vi x1, vi x2], [], h, kc, ks) Q) (k2 : ¬ x2 ≠ 5 → wr P d sw_c617 sw_h617 (160, [r0, vi x1, vi x2], [], h, kc, ks) Q)  (c1 : In3 x2 := by first | omega | assumption | (simp only [mk_len, List.length_map]; omega) | decide) : wr P d sw_c617 sw_h617 (155, [r0, vi x1, vi x2], [], h, kc, ks) Q := by
  refine w_ld rfl rfl (Or.inl ⟨by decide, rfl⟩) ?_
  refine w_c32 rfl (by decide) 5 (by decide) ?_
  exact w_if2 rfl c1 (by decide) k1 k2

theorem k617_160 {P : s_P} {d : Nat} {Q : s_O → Prop} {h : s_H} {kc ks : Nat} {r0 : Term} {x1 x2 : Int} {q2 : Nat} {f3 : List Term} {v5 : Term} (g4 : s_get h q2 = some (1, 11, f3)) (k : wm P d 463 [v5] h (wq P d sw_c617 sw_h617 167 [.index q2, vi x1, vi x2] [] kc ks Q)) (e_q2 : r0 = .index q2 := by first | rfl | assumption) (y1 : s_ty r0 = 3 := by first | rfl | assumption) (n6 : s_nth f3 12 = some v5 := by first | rfl | assumption)  : wr P d sw_c617 sw_h617 (160, [r0, vi x1, vi x2], [], h, kc, ks) Q := by
  refine w_ld rfl rfl (Or.inr (Or.inr ⟨by decide, y1⟩)) ?_
  subst e_q2
  refine w_getf rfl g4 n6 ?_
  exact w_cs rfl [v5] [] rfl rfl (s_wt_4 rfl) k

theorem k617_167 {P : s_P} {d : Nat} {Q : s_O → Prop} {h : s_H} {kc ks : Nat} {r0 : Term} {x1 x2 s0 : Int}  (k1 : 0 ≤ s0 → wr P d sw_c617 sw_h617 (172, [r0, vi x1, vi x2], [], h, kc, ks) Q) (k2 : ¬ 0 ≤ s0 → wr P d sw_c617 sw_h617 (170, [r0, vi x1, vi x2], [], h, kc, ks) Q)  (c1 : In3 s0 := by first | omega | assumption | (simp only [mk_len, List.length_map]; omega) | decide) : wr P d sw_c617 sw_h617 (167, [r0, vi x1, vi x2], [vi s0], h, kc, ks) Q := by
  exact w_if1 rfl c1 k1 k2

theorem k617_170 {P : s_P} {d : Nat} {Q : s_O → Prop} {h : s_H} {kc ks : Nat} {r0 : Term} {x1 x2 : Int}  (k : Q (.inl (some (vi 3)), h, kc, ks))   : wr P d sw_c617 sw_h617 (170, [r0, vi x1, vi x2], [], h, kc, ks) Q := by
  refine w_c32 rfl (by decide) 3 (by decide) ?_
  exact w_iret rfl k

theorem k617_172 {P : s_P} {d : Nat} {Q : s_O → Prop} {h : s_H} {kc ks : Nat} {r0 : Term} {x1 x2 : Int}  (k1 : x2 = 2 → wr P d sw_c617 sw_h617 (182, [r0, vi x1, vi x2], [], h, kc, ks) Q) (k2 : ¬ x2 = 2 → wr P d sw_c617 sw_h617 (177, [r0, vi x1, vi x2], [], h, kc, ks) Q)  (c1 : In3 x2 := by first | omega | assumption | (simp only [mk_len, List.length_map]; omega) | decide) : wr P d sw_c617 sw_h617 (172, [r0, vi x1, vi x2], [], h, kc, ks) Q := by
  refine w_ld rfl rfl (Or.inl ⟨by decide, rfl⟩) ?_
  refine w_c32 rfl (by decide) 2 (by decide) ?_
  exact w_if2 rfl c1 (by decide) k1 k2

theorem k617_177 {P : s_P} {d : Nat} {Q : s_O → Prop} {h : s_H} {kc ks : Nat} {r0 : Term} {x1 x2 : Int}  (k1 : x2 ≠ 3 → wr P d sw_c617 sw_h617 (201, [r0, vi x1, vi x2], [], h, kc, ks) Q) (k2 : ¬ x2 ≠ 3 → wr P d sw_c617 sw_h617 (182, [r0, vi x1, vi x2], [], h, kc, ks) Q)  (c1 : In3 x2 := by first | omega | assumption | (simp only [mk_len, List.length_map]; omega) | decide) : wr P d sw_c617 sw_h617 (177, [r0, vi x1, vi x2], [], h, kc, ks) Q := by
  refine w_ld rfl rfl (Or.inl ⟨by decide, rfl⟩) ?_
  refine w_c32 rfl (by decide) 3 (by decide) ?_
  exact w_if2 rfl c1 (by decide) k1 k2

theorem k617_182 {P : s_P} {d : Nat} {Q : s_O → Prop} {h : s_H} {kc ks : Nat} {r0 : Term} {x1 x2 : Int}  (k1 : x2 ≠ 2 → wr P d sw_c617 sw_h617 (192, [r0, vi x1, vi x2], [r0], h, kc, ks) Q) (k2 : ¬ x2 ≠ 2 → wr P d sw_c617 sw_h617 (188, [r0, vi x1, vi x2], [r0], h, kc, ks) Q) (y1 : s_ty r0 = 3 := by first | rfl | assumption) (c2 : In3 x2 := by first | omega | assumption | (simp only [mk_len, List.length_map]; omega) | decide) : wr P d sw_c617 sw_h617 (182, [r0, vi x1, vi x2], [], h, kc, ks) Q := by
  refine w_ld rfl rfl (Or.inr (Or.inr ⟨by decide, y1⟩)) ?_
  refine w_ld rfl rfl (Or.inl ⟨by decide, rfl⟩) ?_
  refine w_c32 rfl (by decide) 2 (by decide) ?_
  exact w_if2 rfl c2 (by decide) k1 k2

theorem k617_188 {P : s_P} {d : Nat} {Q : s_O → Prop} {h : s_H} {kc ks : Nat} {r0 : Term} {x1 x2 : Int} {s0 : Term}  (k : wr P d sw_c617 sw_h617 (195, [r0, vi x1, vi x2], [vl 1, s0], h, kc, ks) Q)   : wr P d sw_c617 sw_h617 (188, [r0, vi x1, vi x2], [s0], h, kc, ks) Q := by
  refine w_c64 rfl (by decide) 1 (by decide) ?_
  refine w_goto rfl ?_
  exact k

theorem k617_192 {P : s_P} {d : Nat} {Q : s_O → Prop} {h : s_H} {kc ks : Nat} {r0 : Term} {x1 x2 : Int} {s0 : Term}  (k : wr P d sw_c617 sw_h617 (195, [r0, vi x1, vi x2], [vl (-1), s0], h, kc, ks) Q)   : wr P d sw_c617 sw_h617 (192, [r0, vi x1, vi x2], [s0], h, kc, ks) Q := by
  refine w_c64 rfl (by decide) (-1) (by decide) ?_
  exact k

theorem k617_195 {P : s_P} {d : Nat} {Q : s_O → Prop} {h : s_H} {kc ks : Nat} {r0 : Term} {x1 x2 : Int} {s0 : Term} {s1 : Int} {q1 : Nat} {f2 : List Term} (g3 : s_get h q1 = some (1, 11, f2)) (k : wm P d 602 [.index q1, vl s1] h (wq P d sw_c617 sw_h617 198 [r0, vi x1, vi x2] [] kc ks Q)) (e_q1 : s0 = .index q1 := by first | rfl | assumption)  : wr P d sw_c617 sw_h617 (195, [r0, vi x1, vi x2], [vl s1, s0], h, kc, ks) Q := by
  subst e_q1
  exact w_cv rfl [.index q1, vl s1] [] rfl rfl (s_wt_4 rfl) rfl g3 k

theorem k617_198 {P : s_P} {d : Nat} {Q : s_O → Prop} {h : s_H} {kc ks : Nat} {r0 : Term} {x1 x2 : Int}  (k : wr P d sw_c617 sw_h617 (217, [r0, vi x1, vi x2], [], h, kc, ks) Q)   : wr P d sw_c617 sw_h617 (198, [r0, vi x1, vi x2], [], h, kc, ks) Q := by
  refine w_goto rfl ?_
  exact k

theorem k617_201 {P : s_P} {d : Nat} {Q : s_O → Prop} {h : s_H} {kc ks : Nat} {r0 : Term} {x1 x2 : Int}  (k1 : x2 ≠ 4 → wr P d sw_c617 sw_h617 (213, [r0, vi x1, vi x2], [], h, kc, ks) Q) (k2 : ¬ x2 ≠ 4 → wr P d sw_c617 sw_h617 (206, [r0, vi x1, vi x2], [], h, kc, ks) Q)  (c1 : In3 x2 := by first | omega | assumption | (simp only [mk_len, List.length_map]; omega) | decide) : wr P d sw_c617 sw_h617 (201, [r0, vi x1, vi x2], [], h, kc, ks) Q := by
  refine w_ld rfl rfl (Or.inl ⟨by decide, rfl⟩) ?_
  refine w_c32 rfl (by decide) 4 (by decide) ?_
  exact w_if2 rfl c1 (by decide) k1 k2

theorem k617_206 {P : s_P} {d : Nat} {Q : s_O → Prop} {h : s_H} {kc ks : Nat} {r0 : Term} {x1 x2 : Int} {q2 : Nat} {f3 : List Term} (g4 : s_get h q2 = some (1, 11, f3)) (k : wm P d 564 [.index q2] h (wq P d sw_c617 sw_h617 210 [.index q2, vi x1, vi x2] [] kc ks Q)) (e_q2 : r0 = .index q2 := by first | rfl | assumption) (y1 : s_ty r0 = 3 := by first | rfl | assumption)  : wr P d sw_c617 sw_h617 (206, [r0, vi x1, vi x2], [], h, kc, ks) Q := by
  refine w_ld rfl rfl (Or.inr (Or.inr ⟨by decide, y1⟩)) ?_
  subst e_q2
  exact w_cv rfl [.index q2] [] rfl rfl (s_wt_4 rfl) rfl g4 k

theorem k617_210 {P : s_P} {d : Nat} {Q : s_O → Prop} {h : s_H} {kc ks : Nat} {r0 : Term} {x1 x2 : Int}  (k : wr P d sw_c617 sw_h617 (217, [r0, vi x1, vi x2], [], h, kc, ks) Q)   : wr P d sw_c617 sw_h617 (210, [r0, vi x1, vi x2], [], h, kc, ks) Q := by
  refine w_goto rfl ?_
  exact k

theorem k617_213 {P : s_P} {d : Nat} {Q : s_O → Prop} {h : s_H} {kc ks : Nat} {r0 : Term} {x1 x2 : Int} {q2 : Nat} {f3 : List Term} (g4 : s_get h q2 = some (1, 11, f3)) (k : wm P d 568 [.index q2] h (wq P d sw_c617 sw_h617 217 [.index q2, vi x1, vi x2] [] kc ks Q)) (e_q2 : r0 = .index q2 := by first | rfl | assumption) (y1 : s_ty r0 = 3 := by first | rfl | assumption)  : wr P d sw_c617 sw_h617 (213, [r0, vi x1, vi x2], [], h, kc, ks) Q := by
  refine w_ld rfl rfl (Or.inr (Or.inr ⟨by decide, y1⟩)) ?_
  subst e_q2
  exact w_cv rfl [.index q2] [] rfl rfl (s_wt_4 rfl) rfl g4 k

theorem k617_217 {P : s_P} {d : Nat} {Q : s_O → Prop} {h : s_H} {kc ks : Nat} {r0 : Term} {x1 x2 : Int} {q2 : Nat} {f3 : List Term} (g4 : s_get h q2 = some (1, 11, f3)) (k : wm P d 479 [.index q2] h (wq P d sw_c617 sw_h617 221 [.index q2, vi x1, vi x2] [] kc ks Q)) (e_q2 : r0 = .index q2 := by first | rfl | assumption) (y1 : s_ty r0 = 3 := by first | rfl | assumption)  : wr P d sw_c617 sw_h617 (217, [r0, vi x1, vi x2], [], h, kc, ks) Q := by
  refine w_ld rfl rfl (Or.inr (Or.inr ⟨by decide, y1⟩)) ?_
  subst e_q2
  exact w_cv rfl [.index q2] [] rfl rfl (s_wt_4 rfl) rfl g4 k

theorem k617_221 {P : s_P} {d : Nat} {Q : s_O → Prop} {h : s_H} {kc ks : Nat} {r0 : Term} {x1 x2 s0 : Int}  (k1 : s0 = 0 → wr P d sw_c617 sw_h617 (228, [r0, vi x1, vi x2], [], h, kc, ks) Q) (k2 : ¬ s0 = 0 → wr P d sw_c617 sw_h617 (224, [r0, vi x1, vi x2], [], h, kc, ks) Q)  (c1 : In3 s0 := by first | omega | assumption | (simp only [mk_len, List.length_map]; omega) | decide) : wr P d sw_c617 sw_h617 (221, [r0, vi x1, vi x2], [vi s0], h, kc, ks) Q := by
  exact w_if1 rfl c1 k1 k2

theorem k617_224 {P : s_P} {d : Nat} {Q : s_O → Prop} {h : s_H} {kc ks : Nat} {r0 : Term} {x1 x2 : Int}  (k : wr P d sw_c617 sw_h617 (229, [r0, vi x1, vi x2], [vi 4], h, kc, ks) Q)   : wr P d sw_c617 sw_h617 (224, [r0, vi x1, vi x2], [], h, kc, ks) Q := by
  refine w_c32 rfl (by decide) 4 (by decide) ?_
  refine w_goto rfl ?_
  exact k

theorem k617_228 {P : s_P} {d : Nat} {Q : s_O → Prop} {h : s_H} {kc ks : Nat} {r0 : Term} {x1 x2 : Int}  (k : wr P d sw_c617 sw_h617 (229, [r0, vi x1, vi x2], [vi 0], h, kc, ks) Q)   : wr P d sw_c617 sw_h617 (228, [r0, vi x1, vi x2], [], h, kc, ks) Q := by
  refine w_c32 rfl (by decide) 0 (by decide) ?_
  exact k

theorem k617_229 {P : s_P} {d : Nat} {Q : s_O → Prop} {h : s_H} {kc ks : Nat} {r0 : Term} {x1 x2 s0 : Int}  (k : Q (.inl (some (vi s0)), h, kc, ks))   : wr P d sw_c617 sw_h617 (229, [r0, vi x1, vi x2], [vi s0], h, kc, ks) Q := by
  exact w_iret rfl k

/-! 618: FormulaWorksModel.workTree()I -/
theorem k618_0 {P : s_P} {d : Nat} {Q : s_O → Prop} {h : s_H} {kc ks : Nat} {r0 t1 t2 t3 t4 t5 t6 : Term}  (k : wr P d sw_c618 sw_h618 (2, [r0, vi 0, t2, t3, t4, t5, t6], [], h, kc, ks) Q) (y1 : s_ty r0 = 3 := by first | rfl | assumption)  : wr P d sw_c618 sw_h618 (0, [r0, t1, t2, t3, t4, t5, t6], [], h, kc, ks) Q := by
  refine w_c32 rfl (by decide) 0 (by decide) ?_
  refine w_st (ls' := [r0, vi 0, t2, t3, t4, t5, t6]) rfl (Or.inl ⟨by decide, rfl⟩) (s_stK_r (pre := []) y1) ?_
  exact k

theorem k618_2 {P : s_P} {d : Nat} {Q : s_O → Prop} {h : s_H} {kc ks : Nat} {r0 : Term} {x1 : Int} {t2 t3 t4 t5 t6 : Term} {q2 : Nat} {f3 : List Term} {z5 : Int} (g4 : s_get h q2 = some (1, 11, f3)) (k1 : z5 ≤ x1 → wr P d sw_c618 sw_h618 (23, [.index q2, vi x1, t2, t3, t4, t5, t6], [], h, kc, ks) Q) (k2 : ¬ z5 ≤ x1 → wr P d sw_c618 sw_h618 (10, [.index q2, vi x1, t2, t3, t4, t5, t6], [], h, kc, ks) Q) (e_q2 : r0 = .index q2 := by first | rfl | assumption) (y1 : s_ty r0 = 3 := by first | rfl | assumption) (n6 : s_nth f3 82 = some (vi z5) := by first | rfl | assumption) (c7 : In3 x1 := by first | omega | assumption | (simp only [mk_len, List.length_map]; omega) | decide) (c8 : In3 z5 := by first | omega | assumption | (simp only [mk_len, List.length_map]; omega) | decide) : wr P d sw_c618 sw_h618 (2, [r0, vi x1, t2, t3, t4, t5, t6], [], h, kc, ks) Q := by
  refine w_ld rfl rfl (Or.inl ⟨by decide, rfl⟩) ?_
  refine w_ld rfl rfl (Or.inr (Or.inr ⟨by decide, y1⟩)) ?_
  subst e_q2
  refine w_getf rfl g4 n6 ?_
  exact w_if2 rfl c7 c8 k1 k2

theorem k618_10 {P : s_P} {d : Nat} {Q : s_O → Prop} {h : s_H} {kc ks : Nat} {r0 : Term} {x1 : Int} {t2 t3 t4 t5 t6 : Term} {q2 : Nat} {f3 : List Term} {v5 : Term} {q7 : Nat} {a8 : List Int} (g4 : s_get h q2 = some (1, 11, f3)) (g9 : s_get h q7 = some (0, 0, a8.map vi)) (k : wr P d sw_c618 sw_h618 (2, [.index q2, vi (x1 + 1), t2, t3, t4, t5, t6], [], (hp h q7 (0, 0, (a8.set (Int.toNat (x1)) 0).map vi)), kc, ks) Q) (e_q2 : r0 = .index q2 := by first | rfl | assumption) (e_q7 : v5 = .index q7 := by first | rfl | assumption) (y1 : s_ty r0 = 3 := by first | rfl | assumption) (n6 : s_nth f3 96 = some v5 := by first | rfl | assumption) (c10 : x1 < a8.length := by first | omega | assumption | (simp only [mk_len, List.length_map]; omega) | decide) (c11 : 0 ≤ x1 := by first | omega | assumption | (simp only [mk_len, List.length_map]; omega) | decide) (c12 : In3 x1 := by first | omega | assumption | (simp only [mk_len, List.length_map]; omega) | decide) (c13 : 0 < q7 := by first | omega | assumption | (simp only [mk_len, List.length_map]; omega) | decide) : wr P d sw_c618 sw_h618 (10, [r0, vi x1, t2, t3, t4, t5, t6], [], h, kc, ks) Q := by
  refine w_ld rfl rfl (Or.inr (Or.inr ⟨by decide, y1⟩)) ?_
  subst e_q2
  refine w_getf rfl g4 n6 ?_
  refine w_ld rfl rfl (Or.inl ⟨by decide, rfl⟩) ?_
  refine w_c32 rfl (by decide) 0 (by decide) ?_
  subst e_q7
  refine w_iast rfl g9 (Nat.ble_eq_true_of_le c13) c12 c11 c10 ?_
  refine w_iinc (ls' := [.index q2, vi (x1 + 1), t2, t3, t4, t5, t6]) rfl rfl 1 (by decide) rfl ?_
  refine w_goto rfl ?_
  exact k

theorem k618_23 {P : s_P} {d : Nat} {Q : s_O → Prop} {h : s_H} {kc ks : Nat} {r0 : Term} {x1 : Int} {t2 t3 t4 t5 t6 : Term}  (k : wr P d sw_c618 sw_h618 (25, [r0, vi 0, t2, t3, t4, t5, t6], [], h, kc, ks) Q) (y1 : s_ty r0 = 3 := by first | rfl | assumption)  : wr P d sw_c618 sw_h618 (23, [r0, vi x1, t2, t3, t4, t5, t6], [], h, kc, ks) Q := by
  refine w_c32 rfl (by decide) 0 (by decide) ?_
  refine w_st (ls' := [r0, vi 0, t2, t3, t4, t5, t6]) rfl (Or.inl ⟨by decide, rfl⟩) (s_stK_r (pre := []) y1) ?_
  exact k

theorem k618_25 {P : s_P} {d : Nat} {Q : s_O → Prop} {h : s_H} {kc ks : Nat} {r0 : Term} {x1 : Int} {t2 t3 t4 t5 t6 : Term} {q2 : Nat} {f3 : List Term} {z5 : Int} (g4 : s_get h q2 = some (1, 11, f3)) (k1 : z5 ≤ x1 → wr P d sw_c618 sw_h618 (70, [.index q2, vi x1, t2, t3, t4, t5, t6], [], h, kc, ks) Q) (k2 : ¬ z5 ≤ x1 → wr P d sw_c618 sw_h618 (33, [.index q2, vi x1, t2, t3, t4, t5, t6], [], h, kc, ks) Q) (e_q2 : r0 = .index q2 := by first | rfl | assumption) (y1 : s_ty r0 = 3 := by first | rfl | assumption) (n6 : s_nth f3 82 = some (vi z5) := by first | rfl | assumption) (c7 : In3 x1 := by first | omega | assumption | (simp only [mk_len, List.length_map]; omega) | decide) (c8 : In3 z5 := by first | omega | assumption | (simp only [mk_len, List.length_map]; omega) | decide) : wr P d sw_c618 sw_h618 (25, [r0, vi x1, t2, t3, t4, t5, t6], [], h, kc, ks) Q := by
  refine w_ld rfl rfl (Or.inl ⟨by decide, rfl⟩) ?_
  refine w_ld rfl rfl (Or.inr (Or.inr ⟨by decide, y1⟩)) ?_
  subst e_q2
  refine w_getf rfl g4 n6 ?_
  exact w_if2 rfl c7 c8 k1 k2

theorem k618_33 {P : s_P} {d : Nat} {Q : s_O → Prop} {h : s_H} {kc ks : Nat} {r0 : Term} {x1 : Int} {t2 t3 t4 t5 t6 : Term} {q2 : Nat} {f3 : List Term} (g4 : s_get h q2 = some (1, 11, f3)) (k : wm P d 407 [.index q2, vi x1] h (wq P d sw_c618 sw_h618 38 [.index q2, vi x1, t2, t3, t4, t5, t6] [] kc ks Q)) (e_q2 : r0 = .index q2 := by first | rfl | assumption) (y1 : s_ty r0 = 3 := by first | rfl | assumption)  : wr P d sw_c618 sw_h618 (33, [r0, vi x1, t2, t3, t4, t5, t6], [], h, kc, ks) Q := by
  refine w_ld rfl rfl (Or.inr (Or.inr ⟨by decide, y1⟩)) ?_
  refine w_ld rfl rfl (Or.inl ⟨by decide, rfl⟩) ?_
  subst e_q2
  exact w_cv rfl [.index q2, vi x1] [] rfl rfl (s_wt_4 rfl) rfl g4 k

theorem k618_38 {P : s_P} {d : Nat} {Q : s_O → Prop} {h : s_H} {kc ks : Nat} {r0 : Term} {x1 : Int} {t2 t3 t4 t5 t6 : Term} {s0 : Int}  (k : wr P d sw_c618 sw_h618 (43, [r0, vi x1, vi s0, vi (x1 + 1), t4, t5, t6], [], h, kc, ks) Q)   : wr P d sw_c618 sw_h618 (38, [r0, vi x1, t2, t3, t4, t5, t6], [vi s0], h, kc, ks) Q := by
  refine w_st (ls' := [r0, vi x1, vi s0, t3, t4, t5, t6]) rfl (Or.inl ⟨by decide, rfl⟩) rfl ?_
  refine w_ld rfl rfl (Or.inl ⟨by decide, rfl⟩) ?_
  refine w_c32 rfl (by decide) 1 (by decide) ?_
  refine w_iadd rfl ?_
  refine w_st (ls' := [r0, vi x1, vi s0, vi (x1 + 1), t4, t5, t6]) rfl (Or.inl ⟨by decide, rfl⟩) rfl ?_
  exact k

theorem k618_43 {P : s_P} {d : Nat} {Q : s_O → Prop} {h : s_H} {kc ks : Nat} {r0 : Term} {x1 x2 x3 : Int} {t4 t5 t6 : Term}  (k1 : x2 ≤ x3 → wr P d sw_c618 sw_h618 (64, [r0, vi x1, vi x2, vi x3, t4, t5, t6], [], h, kc, ks) Q) (k2 : ¬ x2 ≤ x3 → wr P d sw_c618 sw_h618 (48, [r0, vi x1, vi x2, vi x3, t4, t5, t6], [], h, kc, ks) Q)  (c1 : In3 x3 := by first | omega | assumption | (simp only [mk_len, List.length_map]; omega) | decide) (c2 : In3 x2 := by first | omega | assumption | (simp only [mk_len, List.length_map]; omega) | decide) : wr P d sw_c618 sw_h618 (43, [r0, vi x1, vi x2, vi x3, t4, t5, t6], [], h, kc, ks) Q := by
  refine w_ld rfl rfl (Or.inl ⟨by decide, rfl⟩) ?_
  refine w_ld rfl rfl (Or.inl ⟨by decide, rfl⟩) ?_
  exact w_if2 rfl c1 c2 k1 k2

theorem k618_48 {P : s_P} {d : Nat} {Q : s_O → Prop} {h : s_H} {kc ks : Nat} {r0 : Term} {x1 x2 x3 : Int} {t4 t5 t6 : Term} {q2 : Nat} {f3 : List Term} {v5 : Term} {q8 : Nat} {a9 : List Int} (g4 : s_get h q2 = some (1, 11, f3)) (g10 : s_get h q8 = some (0, 0, a9.map vi)) (k : wr P d sw_c618 sw_h618 (43, [.index q2, vi x1, vi x2, vi (x3 + 1), t4, t5, t6], [], (hp h q8 (0, 0, (a9.set (Int.toNat (x3)) ((gi a9 x3) + 1)).map vi)), kc, ks) Q) (e_q2 : r0 = .index q2 := by first | rfl | assumption) (e_q8 : v5 = .index q8 := by first | rfl | assumption) (y1 : s_ty r0 = 3 := by first | rfl | assumption) (n6 : s_nth f3 96 = some v5 := by first | rfl | assumption) (y7 : s_ty v5 = 3 := by first | rfl | assumption) (c11 : x3 < a9.length := by first | omega | assumption | (simp only [mk_len, List.length_map]; omega) | decide) (c12 : 0 ≤ x3 := by first | omega | assumption | (simp only [mk_len, List.length_map]; omega) | decide) (c13 : In3 x3 := by first | omega | assumption | (simp only [mk_len, List.length_map]; omega) | decide) (c14 : 0 < q8 := by first | omega | assumption | (simp only [mk_len, List.length_map]; omega) | decide) : wr P d sw_c618 sw_h618 (48, [r0, vi x1, vi x2, vi x3, t4, t5, t6], [], h, kc, ks) Q := by
  refine w_ld rfl rfl (Or.inr (Or.inr ⟨by decide, y1⟩)) ?_
  subst e_q2
  refine w_getf rfl g4 n6 ?_
  refine w_ld rfl rfl (Or.inl ⟨by decide, rfl⟩) ?_
  refine w_dup2 rfl (by rw [y7]; rfl) ?_
  subst e_q8
  refine w_iald rfl g10 (Or.inl rfl) c13 c12 c11 ?_
  refine w_c32 rfl (by decide) 1 (by decide) ?_
  refine w_iadd rfl ?_
  refine w_iast rfl g10 (Nat.ble_eq_true_of_le c14) c13 c12 c11 ?_
  refine w_iinc (ls' := [.index q2, vi x1, vi x2, vi (x3 + 1), t4, t5, t6]) rfl rfl 1 (by decide) rfl ?_
  refine w_goto rfl ?_
  exact k

theorem k618_64 {P : s_P} {d : Nat} {Q : s_O → Prop} {h : s_H} {kc ks : Nat} {r0 : Term} {x1 x2 x3 : Int} {t4 t5 t6 : Term}  (k : wr P d sw_c618 sw_h618 (25, [r0, vi (x1 + 1), vi x2, vi x3, t4, t5, t6], [], h, kc, ks) Q) (y1 : s_ty r0 = 3 := by first | rfl | assumption)  : wr P d sw_c618 sw_h618 (64, [r0, vi x1, vi x2, vi x3, t4, t5, t6], [], h, kc, ks) Q := by
  refine w_iinc (ls' := [r0, vi (x1 + 1), vi x2, vi x3, t4, t5, t6]) rfl rfl 1 (by decide) (s_stK_r (pre := []) y1) ?_
  refine w_goto rfl ?_
  exact k

theorem k618_70 {P : s_P} {d : Nat} {Q : s_O → Prop} {h : s_H} {kc ks : Nat} {r0 : Term} {x1 : Int} {t2 t3 t4 t5 t6 : Term} {q2 : Nat} {f3 : List Term} {z5 : Int} (g4 : s_get h q2 = some (1, 11, f3)) (k : wr P d sw_c618 sw_h618 (84, [.index q2, vi 0, vi z5, vi (z5 - 1), t4, t5, t6], [], h, kc, ks) Q) (e_q2 : r0 = .index q2 := by first | rfl | assumption) (y1 : s_ty r0 = 3 := by first | rfl | assumption) (n6 : s_nth f3 82 = some (vi z5) := by first | rfl | assumption)  : wr P d sw_c618 sw_h618 (70, [r0, vi x1, t2, t3, t4, t5, t6], [], h, kc, ks) Q := by
  refine w_c32 rfl (by decide) 0 (by decide) ?_
  refine w_st (ls' := [r0, vi 0, t2, t3, t4, t5, t6]) rfl (Or.inl ⟨by decide, rfl⟩) (s_stK_r (pre := []) y1) ?_
  refine w_ld rfl rfl (Or.inr (Or.inr ⟨by decide, y1⟩)) ?_
  subst e_q2
  refine w_getf rfl g4 n6 ?_
  refine w_st (ls' := [.index q2, vi 0, vi z5, t3, t4, t5, t6]) rfl (Or.inl ⟨by decide, rfl⟩) rfl ?_
  refine w_ld rfl rfl (Or.inr (Or.inr ⟨by decide, rfl⟩)) ?_
  refine w_getf rfl g4 n6 ?_
  refine w_c32 rfl (by decide) 1 (by decide) ?_
  refine w_isub rfl ?_
  refine w_st (ls' := [.index q2, vi 0, vi z5, vi (z5 - 1), t4, t5, t6]) rfl (Or.inl ⟨by decide, rfl⟩) rfl ?_
  exact k

theorem k618_84 {P : s_P} {d : Nat} {Q : s_O → Prop} {h : s_H} {kc ks : Nat} {r0 : Term} {x1 x2 x3 : Int} {t4 t5 t6 : Term}  (k1 : x3 < 0 → wr P d sw_c618 sw_h618 (278, [r0, vi x1, vi x2, vi x3, t4, t5, t6], [], h, kc, ks) Q) (k2 : ¬ x3 < 0 → wr P d sw_c618 sw_h618 (88, [r0, vi x1, vi x2, vi x3, t4, t5, t6], [], h, kc, ks) Q)  (c1 : In3 x3 := by first | omega | assumption | (simp only [mk_len, List.length_map]; omega) | decide) : wr P d sw_c618 sw_h618 (84, [r0, vi x1, vi x2, vi x3, t4, t5, t6], [], h, kc, ks) Q := by
  refine w_ld rfl rfl (Or.inl ⟨by decide, rfl⟩) ?_
  exact w_if1 rfl c1 k1 k2

theorem k618_88 {P : s_P} {d : Nat} {Q : s_O → Prop} {h : s_H} {kc ks : Nat} {r0 : Term} {x1 x2 x3 : Int} {t4 t5 t6 : Term} {q2 : Nat} {f3 : List Term} {v5 : Term} {q7 : Nat} {a8 : List Int} (g4 : s_get h q2 = some (1, 11, f3)) (g9 : s_get h q7 = some (0, 0, a8.map vi)) (k : wm P d 547 [vi (gi a8 x3)] h (wq P d sw_c618 sw_h618 101 [.index q2, vi x1, vi x2, vi x3, vi (gi a8 x3), t5, t6] [] kc ks Q)) (e_q2 : r0 = .index q2 := by first | rfl | assumption) (e_q7 : v5 = .index q7 := by first | rfl | assumption) (y1 : s_ty r0 = 3 := by first | rfl | assumption) (n6 : s_nth f3 83 = some v5 := by first | rfl | assumption) (c10 : x3 < a8.length := by first | omega | assumption | (simp only [mk_len, List.length_map]; omega) | decide) (c11 : 0 ≤ x3 := by first | omega | assumption | (simp only [mk_len, List.length_map]; omega) | decide) (c12 : In3 x3 := by first | omega | assumption | (simp only [mk_len, List.length_map]; omega) | decide) : wr P d sw_c618 sw_h618 (88, [r0, vi x1, vi x2, vi x3, t4, t5, t6], [], h, kc, ks) Q := by
  refine w_ld rfl rfl (Or.inr (Or.inr ⟨by decide, y1⟩)) ?_
  subst e_q2
  refine w_getf rfl g4 n6 ?_
  refine w_ld rfl rfl (Or.inl ⟨by decide, rfl⟩) ?_
  subst e_q7
  refine w_iald rfl g9 (Or.inl rfl) c12 c11 c10 ?_
  refine w_st (ls' := [.index q2, vi x1, vi x2, vi x3, vi (gi a8 x3), t5, t6]) rfl (Or.inl ⟨by decide, rfl⟩) rfl ?_
  refine w_ld rfl rfl (Or.inl ⟨by decide, rfl⟩) ?_
  exact w_cs rfl [vi (gi a8 x3)] [] rfl rfl (s_wt_4 rfl) k

theorem k618_101 {P : s_P} {d : Nat} {Q : s_O → Prop} {h : s_H} {kc ks : Nat} {r0 : Term} {x1 x2 x3 x4 : Int} {t5 t6 : Term} {s0 : Int}  (k1 : s0 < 1 → wr P d sw_c618 sw_h618 (140, [r0, vi x1, vi x2, vi x3, vi x4, t5, t6], [], h, kc, ks) Q) (k2 : ¬ s0 < 1 → wr P d sw_c618 sw_h618 (105, [r0, vi x1, vi x2, vi x3, vi x4, t5, t6], [], h, kc, ks) Q)  (c1 : In3 s0 := by first | omega | assumption | (simp only [mk_len, List.length_map]; omega) | decide) : wr P d sw_c618 sw_h618 (101, [r0, vi x1, vi x2, vi x3, vi x4, t5, t6], [vi s0], h, kc, ks) Q := by
  refine w_c32 rfl (by decide) 1 (by decide) ?_
  exact w_if2 rfl c1 (by decide) k1 k2

theorem k618_105 {P : s_P} {d : Nat} {Q : s_O → Prop} {h : s_H} {kc ks : Nat} {r0 : Term} {x1 x2 x3 x4 : Int} {t5 t6 : Term} {q2 : Nat} {f3 : List Term} {v5 : Term} {q7 : Nat} {a8 : List Int} (g4 : s_get h q2 = some (1, 11, f3)) (g9 : s_get h q7 = some (0, 0, a8.map vi)) (k1 : gi a8 (x3 + 1) ≠ 0 → wr P d sw_c618 sw_h618 (144, [.index q2, vi x1, vi x2, vi x3, vi x4, t5, t6], [], h, kc, ks) Q) (k2 : ¬ gi a8 (x3 + 1) ≠ 0 → wr P d sw_c618 sw_h618 (116, [.index q2, vi x1, vi x2, vi x3, vi x4, t5, t6], [], h, kc, ks) Q) (e_q2 : r0 = .index q2 := by first | rfl | assumption) (e_q7 : v5 = .index q7 := by first | rfl | assumption) (y1 : s_ty r0 = 3 := by first | rfl | assumption) (n6 : s_nth f3 97 = some v5 := by first | rfl | assumption) (c10 : x3 + 1 < a8.length := by first | omega | assumption | (simp only [mk_len, List.length_map]; omega) | decide) (c11 : 0 ≤ x3 + 1 := by first | omega | assumption | (simp only [mk_len, List.length_map]; omega) | decide) (c12 : In3 (x3 + 1) := by first | omega | assumption | (simp only [mk_len, List.length_map]; omega) | decide) (c13 : In3 (gi a8 (x3 + 1)) := by first | omega | assumption | (simp only [mk_len, List.length_map]; omega) | decide) : wr P d sw_c618 sw_h618 (105, [r0, vi x1, vi x2, vi x3, vi x4, t5, t6], [], h, kc, ks) Q := by
  refine w_ld rfl rfl (Or.inr (Or.inr ⟨by decide, y1⟩)) ?_
  subst e_q2
  refine w_getf rfl g4 n6 ?_
  refine w_ld rfl rfl (Or.inl ⟨by decide, rfl⟩) ?_
  refine w_c32 rfl (by decide) 1 (by decide) ?_
  refine w_iadd rfl ?_
  subst e_q7
  refine w_iald rfl g9 (Or.inl rfl) c12 c11 c10 ?_
  exact w_if1 rfl c13 k1 k2

theorem k618_116 {P : s_P} {d : Nat} {Q : s_O → Prop} {h : s_H} {kc ks : Nat} {r0 : Term} {x1 x2 x3 x4 : Int} {t5 t6 : Term}  (k : wm P d 547 [vi x4] h (wq P d sw_c618 sw_h618 121 [r0, vi x1, vi x2, vi x3, vi x4, t5, t6] [] kc ks Q))   : wr P d sw_c618 sw_h618 (116, [r0, vi x1, vi x2, vi x3, vi x4, t5, t6], [], h, kc, ks) Q := by
  refine w_ld rfl rfl (Or.inl ⟨by decide, rfl⟩) ?_
  exact w_cs rfl [vi x4] [] rfl rfl (s_wt_4 rfl) k

theorem k618_121 {P : s_P} {d : Nat} {Q : s_O → Prop} {h : s_H} {kc ks : Nat} {r0 : Term} {x1 x2 x3 x4 : Int} {t5 t6 : Term} {s0 : Int}  (k1 : s0 < 2 → wr P d sw_c618 sw_h618 (140, [r0, vi x1, vi x2, vi x3, vi x4, t5, t6], [], h, kc, ks) Q) (k2 : ¬ s0 < 2 → wr P d sw_c618 sw_h618 (125, [r0, vi x1, vi x2, vi x3, vi x4, t5, t6], [], h, kc, ks) Q)  (c1 : In3 s0 := by first | omega | assumption | (simp only [mk_len, List.length_map]; omega) | decide) : wr P d sw_c618 sw_h618 (121, [r0, vi x1, vi x2, vi x3, vi x4, t5, t6], [vi s0], h, kc, ks) Q := by
  refine w_c32 rfl (by decide) 2 (by decide) ?_
  exact w_if2 rfl c1 (by decide) k1 k2

theorem k618_125 {P : s_P} {d : Nat} {Q : s_O → Prop} {h : s_H} {kc ks : Nat} {r0 : Term} {x1 x2 x3 x4 : Int} {t5 t6 : Term} {q2 : Nat} {f3 : List Term} {v5 : Term} (g4 : s_get h q2 = some (1, 11, f3)) (k : wm P d 407 [.index q2, vi (x3 + 1)] h (wq P d sw_c618 sw_h618 136 [.index q2, vi x1, vi x2, vi x3, vi x4, t5, t6] [v5] kc ks Q)) (e_q2 : r0 = .index q2 := by first | rfl | assumption) (y1 : s_ty r0 = 3 := by first | rfl | assumption) (n6 : s_nth f3 97 = some v5 := by first | rfl | assumption)  : wr P d sw_c618 sw_h618 (125, [r0, vi x1, vi x2, vi x3, vi x4, t5, t6], [], h, kc, ks) Q := by
  refine w_ld rfl rfl (Or.inr (Or.inr ⟨by decide, y1⟩)) ?_
  subst e_q2
  refine w_getf rfl g4 n6 ?_
  refine w_ld rfl rfl (Or.inr (Or.inr ⟨by decide, rfl⟩)) ?_
  refine w_ld rfl rfl (Or.inl ⟨by decide, rfl⟩) ?_
  refine w_c32 rfl (by decide) 1 (by decide) ?_
  refine w_iadd rfl ?_
  exact w_cv rfl [.index q2, vi (x3 + 1)] [v5] rfl rfl (s_wt_4 rfl) rfl g4 k

theorem k618_136 {P : s_P} {d : Nat} {Q : s_O → Prop} {h : s_H} {kc ks : Nat} {r0 : Term} {x1 x2 x3 x4 : Int} {t5 t6 s0 : Term} {s1 : Int} {q1 : Nat} {a2 : List Int} (g3 : s_get h q1 = some (0, 0, a2.map vi)) (k1 : gi a2 s1 ≠ 0 → wr P d sw_c618 sw_h618 (144, [r0, vi x1, vi x2, vi x3, vi x4, t5, t6], [], h, kc, ks) Q) (k2 : ¬ gi a2 s1 ≠ 0 → wr P d sw_c618 sw_h618 (140, [r0, vi x1, vi x2, vi x3, vi x4, t5, t6], [], h, kc, ks) Q) (e_q1 : s0 = .index q1 := by first | rfl | assumption) (c4 : s1 < a2.length := by first | omega | assumption | (simp only [mk_len, List.length_map]; omega) | decide) (c5 : 0 ≤ s1 := by first | omega | assumption | (simp only [mk_len, List.length_map]; omega) | decide) (c6 : In3 s1 := by first | omega | assumption | (simp only [mk_len, List.length_map]; omega) | decide) (c7 : In3 (gi a2 s1) := by first | omega | assumption | (simp only [mk_len, List.length_map]; omega) | decide) : wr P d sw_c618 sw_h618 (136, [r0, vi x1, vi x2, vi x3, vi x4, t5, t6], [vi s1, s0], h, kc, ks) Q := by
  subst e_q1
  refine w_iald rfl g3 (Or.inl rfl) c6 c5 c4 ?_
  exact w_if1 rfl c7 k1 k2

theorem k618_140 {P : s_P} {d : Nat} {Q : s_O → Prop} {h : s_H} {kc ks : Nat} {r0 : Term} {x1 x2 x3 x4 : Int} {t5 t6 : Term}  (k : wr P d sw_c618 sw_h618 (145, [r0, vi x1, vi x2, vi x3, vi x4, t5, t6], [vi 1], h, kc, ks) Q)   : wr P d sw_c618 sw_h618 (140, [r0, vi x1, vi x2, vi x3, vi x4, t5, t6], [], h, kc, ks) Q := by
  refine w_c32 rfl (by decide) 1 (by decide) ?_
  refine w_goto rfl ?_
  exact k

theorem k618_144 {P : s_P} {d : Nat} {Q : s_O → Prop} {h : s_H} {kc ks : Nat} {r0 : Term} {x1 x2 x3 x4 : Int} {t5 t6 : Term}  (k : wr P d sw_c618 sw_h618 (145, [r0, vi x1, vi x2, vi x3, vi x4, t5, t6], [vi 0], h, kc, ks) Q)   : wr P d sw_c618 sw_h618 (144, [r0, vi x1, vi x2, vi x3, vi x4, t5, t6], [], h, kc, ks) Q := by
  refine w_c32 rfl (by decide) 0 (by decide) ?_
  exact k

theorem k618_145 {P : s_P} {d : Nat} {Q : s_O → Prop} {h : s_H} {kc ks : Nat} {r0 : Term} {x1 x2 x3 x4 : Int} {t5 t6 : Term} {s0 : Int} {q2 : Nat} {f3 : List Term} {v5 : Term} (g4 : s_get h q2 = some (1, 11, f3)) (k1 : s0 = 0 → wr P d sw_c618 sw_h618 (165, [.index q2, vi x1, vi x2, vi x3, vi x4, vi s0, t6], [vi x3, v5], h, kc, ks) Q) (k2 : ¬ s0 = 0 → wr P d sw_c618 sw_h618 (157, [.index q2, vi x1, vi x2, vi x3, vi x4, vi s0, t6], [vi x3, v5], h, kc, ks) Q) (e_q2 : r0 = .index q2 := by first | rfl | assumption) (y1 : s_ty r0 = 3 := by first | rfl | assumption) (n6 : s_nth f3 97 = some v5 := by first | rfl | assumption) (c7 : In3 s0 := by first | omega | assumption | (simp only [mk_len, List.length_map]; omega) | decide) : wr P d sw_c618 sw_h618 (145, [r0, vi x1, vi x2, vi x3, vi x4, t5, t6], [vi s0], h, kc, ks) Q := by
  refine w_st (ls' := [r0, vi x1, vi x2, vi x3, vi x4, vi s0, t6]) rfl (Or.inl ⟨by decide, rfl⟩) rfl ?_
  refine w_ld rfl rfl (Or.inr (Or.inr ⟨by decide, y1⟩)) ?_
  subst e_q2
  refine w_getf rfl g4 n6 ?_
  refine w_ld rfl rfl (Or.inl ⟨by decide, rfl⟩) ?_
  refine w_ld rfl rfl (Or.inl ⟨by decide, rfl⟩) ?_
  exact w_if1 rfl c7 k1 k2

theorem k618_157 {P : s_P} {d : Nat} {Q : s_O → Prop} {h : s_H} {kc ks : Nat} {r0 : Term} {x1 x2 x3 x4 x5 : Int} {t6 s0 : Term} {s1 : Int} {q2 : Nat} {f3 : List Term} (g4 : s_get h q2 = some (1, 11, f3)) (k : wm P d 617 [.index q2, vi x3] h (wq P d sw_c618 sw_h618 162 [.index q2, vi x1, vi x2, vi x3, vi x4, vi x5, t6] [vi s1, s0] kc ks Q)) (e_q2 : r0 = .index q2 := by first | rfl | assumption) (y1 : s_ty r0 = 3 := by first | rfl | assumption)  : wr P d sw_c618 sw_h618 (157, [r0, vi x1, vi x2, vi x3, vi x4, vi x5, t6], [vi s1, s0], h, kc, ks) Q := by
  refine w_ld rfl rfl (Or.inr (Or.inr ⟨by decide, y1⟩)) ?_
  refine w_ld rfl rfl (Or.inl ⟨by decide, rfl⟩) ?_
  subst e_q2
  exact w_cv rfl [.index q2, vi x3] [vi s1, s0] rfl rfl (s_wt_4 rfl) rfl g4 k

theorem k618_162 {P : s_P} {d : Nat} {Q : s_O → Prop} {h : s_H} {kc ks : Nat} {r0 : Term} {x1 x2 x3 x4 x5 : Int} {t6 s0 : Term} {s1 s2 : Int}  (k : wr P d sw_c618 sw_h618 (166, [r0, vi x1, vi x2, vi x3, vi x4, vi x5, t6], [vi s2, vi s1, s0], h, kc, ks) Q)   : wr P d sw_c618 sw_h618 (162, [r0, vi x1, vi x2, vi x3, vi x4, vi x5, t6], [vi s2, vi s1, s0], h, kc, ks) Q := by
  refine w_goto rfl ?_
  exact k

theorem k618_165 {P : s_P} {d : Nat} {Q : s_O → Prop} {h : s_H} {kc ks : Nat} {r0 : Term} {x1 x2 x3 x4 x5 : Int} {t6 s0 : Term} {s1 : Int}  (k : wr P d sw_c618 sw_h618 (166, [r0, vi x1, vi x2, vi x3, vi x4, vi x5, t6], [vi 1, vi s1, s0], h, kc, ks) Q)   : wr P d sw_c618 sw_h618 (165, [r0, vi x1, vi x2, vi x3, vi x4, vi x5, t6], [vi s1, s0], h, kc, ks) Q := by
  refine w_c32 rfl (by decide) 1 (by decide) ?_
  exact k

theorem k618_166 {P : s_P} {d : Nat} {Q : s_O → Prop} {h : s_H} {kc ks : Nat} {r0 : Term} {x1 x2 x3 x4 x5 : Int} {t6 s0 : Term} {s1 s2 : Int} {q1 : Nat} {a2 : List Int} (g3 : s_get h q1 = some (0, 0, a2.map vi)) (k : wr P d sw_c618 sw_h618 (170, [r0, vi x1, vi x2, vi x3, vi x4, vi x5, vi 0], [], (hp h q1 (0, 0, (a2.set (Int.toNat (s1)) s2).map vi)), kc, ks) Q) (e_q1 : s0 = .index q1 := by first | rfl | assumption) (c4 : s1 < a2.length := by first | omega | assumption | (simp only [mk_len, List.length_map]; omega) | decide) (c5 : 0 ≤ s1 := by first | omega | assumption | (simp only [mk_len, List.length_map]; omega) | decide) (c6 : In3 s1 := by first | omega | assumption | (simp only [mk_len, List.length_map]; omega) | decide) (c7 : 0 < q1 := by first | omega | assumption | (simp only [mk_len, List.length_map]; omega) | decide) : wr P d sw_c618 sw_h618 (166, [r0, vi x1, vi x2, vi x3, vi x4, vi x5, t6], [vi s2, vi s1, s0], h, kc, ks) Q := by
  subst e_q1
  refine w_iast rfl g3 (Nat.ble_eq_true_of_le c7) c6 c5 c4 ?_
  refine w_c32 rfl (by decide) 0 (by decide) ?_
  refine w_st (ls' := [r0, vi x1, vi x2, vi x3, vi x4, vi x5, vi 0]) rfl (Or.inl ⟨by decide, rfl⟩) rfl ?_
  exact k

theorem k618_170 {P : s_P} {d : Nat} {Q : s_O → Prop} {h : s_H} {kc ks : Nat} {r0 : Term} {x1 x2 x3 x4 x5 x6 : Int}  (k1 : 40 < x6 → wr P d sw_c618 sw_h618 (230, [r0, vi x1, vi x2, vi x3, vi x4, vi x5, vi x6], [], h, kc, ks) Q) (k2 : ¬ 40 < x6 → wr P d sw_c618 sw_h618 (177, [r0, vi x1, vi x2, vi x3, vi x4, vi x5, vi x6], [], h, kc, ks) Q)  (c1 : In3 x6 := by first | omega | assumption | (simp only [mk_len, List.length_map]; omega) | decide) : wr P d sw_c618 sw_h618 (170, [r0, vi x1, vi x2, vi x3, vi x4, vi x5, vi x6], [], h, kc, ks) Q := by
  refine w_ld rfl rfl (Or.inl ⟨by decide, rfl⟩) ?_
  refine w_c32 rfl (by decide) 40 (by decide) ?_
  exact w_if2 rfl c1 (by decide) k1 k2

theorem k618_177 {P : s_P} {d : Nat} {Q : s_O → Prop} {h : s_H} {kc ks : Nat} {r0 : Term} {x1 x2 x3 x4 x5 x6 : Int} {q2 : Nat} {f3 : List Term} {v5 : Term} {q7 : Nat} {a8 : List Int} (g4 : s_get h q2 = some (1, 11, f3)) (g9 : s_get h q7 = some (0, 0, a8.map vi)) (k1 : gi a8 x3 ≠ 0 → wr P d sw_c618 sw_h618 (230, [.index q2, vi x1, vi x2, vi x3, vi x4, vi x5, vi x6], [], h, kc, ks) Q) (k2 : ¬ gi a8 x3 ≠ 0 → wr P d sw_c618 sw_h618 (186, [.index q2, vi x1, vi x2, vi x3, vi x4, vi x5, vi x6], [], h, kc, ks) Q) (e_q2 : r0 = .index q2 := by first | rfl | assumption) (e_q7 : v5 = .index q7 := by first | rfl | assumption) (y1 : s_ty r0 = 3 := by first | rfl | assumption) (n6 : s_nth f3 97 = some v5 := by first | rfl | assumption) (c10 : x3 < a8.length := by first | omega | assumption | (simp only [mk_len, List.length_map]; omega) | decide) (c11 : 0 ≤ x3 := by first | omega | assumption | (simp only [mk_len, List.length_map]; omega) | decide) (c12 : In3 x3 := by first | omega | assumption | (simp only [mk_len, List.length_map]; omega) | decide) (c13 : In3 (gi a8 x3) := by first | omega | assumption | (simp only [mk_len, List.length_map]; omega) | decide) : wr P d sw_c618 sw_h618 (177, [r0, vi x1, vi x2, vi x3, vi x4, vi x5, vi x6], [], h, kc, ks) Q := by
  refine w_ld rfl rfl (Or.inr (Or.inr ⟨by decide, y1⟩)) ?_
  subst e_q2
  refine w_getf rfl g4 n6 ?_
  refine w_ld rfl rfl (Or.inl ⟨by decide, rfl⟩) ?_
  subst e_q7
  refine w_iald rfl g9 (Or.inl rfl) c12 c11 c10 ?_
  exact w_if1 rfl c13 k1 k2

theorem k618_186 {P : s_P} {d : Nat} {Q : s_O → Prop} {h : s_H} {kc ks : Nat} {r0 : Term} {x1 x2 x3 x4 x5 x6 : Int} {q2 : Nat} {f3 : List Term} {v5 v7 : Term} {q9 : Nat} {a10 : List Int} {q15 : Nat} {a16 : List Int} {f22 : List Term} {v24 v26 : Term} {q28 : Nat} {a29 : List Int} {q32 : Nat} {a33 : List Int} (g4 : s_get h q2 = some (1, 11, f3)) (g11 : s_get h q9 = some (0, 1, a10.map vl)) (g17 : s_get h q15 = some (0, 1, a16.map vl)) (g23 : s_get (hp h q15 (0, 1, (a16.set (Int.toNat ((41 * x3) + x6)) (gi a10 x6)).map vl)) q2 = some (1, 11, f22)) (g30 : s_get (hp h q15 (0, 1, (a16.set (Int.toNat ((41 * x3) + x6)) (gi a10 x6)).map vl)) q28 = some (0, 1, a29.map vl)) (g34 : s_get (hp h q15 (0, 1, (a16.set (Int.toNat ((41 * x3) + x6)) (gi a10 x6)).map vl)) q32 = some (0, 1, a33.map vl)) (k : wr P d sw_c618 sw_h618 (170, [.index q2, vi x1, vi x2, vi x3, vi x4, vi x5, vi (x6 + 1)], [], (hp (hp h q15 (0, 1, (a16.set (Int.toNat ((41 * x3) + x6)) (gi a10 x6)).map vl)) q32 (0, 1, (a33.set (Int.toNat ((41 * x3) + x6)) (gi a29 x6)).map vl)), kc, ks) Q) (e_q2 : r0 = .index q2 := by first | rfl | assumption) (e_q9 : v7 = .index q9 := by first | rfl | assumption) (e_q15 : v5 = .index q15 := by first | rfl | assumption) (e_q28 : v26 = .index q28 := by first | rfl | assumption) (e_q32 : v24 = .index q32 := by first | rfl | assumption) (y1 : s_ty r0 = 3 := by first | rfl | assumption) (n6 : s_nth f3 94 = some v5 := by first | rfl | assumption) (n8 : s_nth f3 14 = some v7 := by first | rfl | assumption) (n25 : s_nth f22 95 = some v24 := by first | rfl | assumption) (n27 : s_nth f22 15 = some v26 := by first | rfl | assumption) (c12 : x6 < a10.length := by first | omega | assumption | (simp only [mk_len, List.length_map]; omega) | decide) (c13 : 0 ≤ x6 := by first | omega | assumption | (simp only [mk_len, List.length_map]; omega) | decide) (c14 : In3 x6 := by first | omega | assumption | (simp only [mk_len, List.length_map]; omega) | decide) (c18 : (41 * x3) + x6 < a16.length := by first | omega | assumption | (simp only [mk_len, List.length_map]; omega) | decide) (c19 : 0 ≤ (41 * x3) + x6 := by first | omega | assumption | (simp only [mk_len, List.length_map]; omega) | decide) (c20 : In3 ((41 * x3) + x6) := by first | omega | assumption | (simp only [mk_len, List.length_map]; omega) | decide) (c21 : 0 < q15 := by first | omega | assumption | (simp only [mk_len, List.length_map]; omega) | decide) (c31 : x6 < a29.length := by first | omega | assumption | (simp only [mk_len, List.length_map]; omega) | decide) (c35 : (41 * x3) + x6 < a33.length := by first | omega | assumption | (simp only [mk_len, List.length_map]; omega) | decide) (c36 : 0 < q32 := by first | omega | assumption | (simp only [mk_len, List.length_map]; omega) | decide) : wr P d sw_c618 sw_h618 (186, [r0, vi x1, vi x2, vi x3, vi x4, vi x5, vi x6], [], h, kc, ks) Q := by
  refine w_ld rfl rfl (Or.inr (Or.inr ⟨by decide, y1⟩)) ?_
  subst e_q2
  refine w_getf rfl g4 n6 ?_
  refine w_c32 rfl (by decide) 41 (by decide) ?_
  refine w_ld rfl rfl (Or.inl ⟨by decide, rfl⟩) ?_
  refine w_imul rfl ?_
  refine w_ld rfl rfl (Or.inl ⟨by decide, rfl⟩) ?_
  refine w_iadd rfl ?_
  refine w_ld rfl rfl (Or.inr (Or.inr ⟨by decide, rfl⟩)) ?_
  refine w_getf rfl g4 n8 ?_
  refine w_ld rfl rfl (Or.inl ⟨by decide, rfl⟩) ?_
  subst e_q9
  refine w_lald rfl g11 c14 c13 c12 ?_
  subst e_q15
  refine w_last rfl g17 (Nat.ble_eq_true_of_le c21) c20 c19 c18 ?_
  refine w_ld rfl rfl (Or.inr (Or.inr ⟨by decide, rfl⟩)) ?_
  refine w_getf rfl g23 n25 ?_
  refine w_c32 rfl (by decide) 41 (by decide) ?_
  refine w_ld rfl rfl (Or.inl ⟨by decide, rfl⟩) ?_
  refine w_imul rfl ?_
  refine w_ld rfl rfl (Or.inl ⟨by decide, rfl⟩) ?_
  refine w_iadd rfl ?_
  refine w_ld rfl rfl (Or.inr (Or.inr ⟨by decide, rfl⟩)) ?_
  refine w_getf rfl g23 n27 ?_
  refine w_ld rfl rfl (Or.inl ⟨by decide, rfl⟩) ?_
  subst e_q28
  refine w_lald rfl g30 c14 c13 c31 ?_
  subst e_q32
  refine w_last rfl g34 (Nat.ble_eq_true_of_le c36) c20 c19 c35 ?_
  refine w_iinc (ls' := [.index q2, vi x1, vi x2, vi x3, vi x4, vi x5, vi (x6 + 1)]) rfl rfl 1 (by decide) rfl ?_
  refine w_goto rfl ?_
  exact k

theorem k618_230 {P : s_P} {d : Nat} {Q : s_O → Prop} {h : s_H} {kc ks : Nat} {r0 : Term} {x1 x2 x3 x4 x5 x6 : Int} {q2 : Nat} {f3 : List Term} (g4 : s_get h q2 = some (1, 11, f3)) (k : wm P d 407 [.index q2, vi x3] h (wq P d sw_c618 sw_h618 235 [.index q2, vi x1, vi x2, vi x3, vi x4, vi x5, vi x6] [] kc ks Q)) (e_q2 : r0 = .index q2 := by first | rfl | assumption) (y1 : s_ty r0 = 3 := by first | rfl | assumption)  : wr P d sw_c618 sw_h618 (230, [r0, vi x1, vi x2, vi x3, vi x4, vi x5, vi x6], [], h, kc, ks) Q := by
  refine w_ld rfl rfl (Or.inr (Or.inr ⟨by decide, y1⟩)) ?_
  refine w_ld rfl rfl (Or.inl ⟨by decide, rfl⟩) ?_
  subst e_q2
  exact w_cv rfl [.index q2, vi x3] [] rfl rfl (s_wt_4 rfl) rfl g4 k

theorem k618_235 {P : s_P} {d : Nat} {Q : s_O → Prop} {h : s_H} {kc ks : Nat} {r0 : Term} {x1 x2 x3 x4 x5 x6 s0 : Int} {q2 : Nat} {f3 : List Term} {v5 : Term} {q7 : Nat} {a8 : List Int} {v13 : Term} {q15 : Nat} {a16 : List Int} (g4 : s_get h q2 = some (1, 11, f3)) (g9 : s_get h q7 = some (0, 0, a8.map vi)) (g17 : s_get h q15 = some (0, 0, a16.map vi)) (k1 : gi a16 x3 ≤ 1 → wr P d sw_c618 sw_h618 (272, [.index q2, vi x1, vi x2, vi x3, vi x4, vi x5, vi ((s0 - 1) - (gi a8 x3))], [], h, kc, ks) Q) (k2 : ¬ gi a16 x3 ≤ 1 → wr P d sw_c618 sw_h618 (256, [.index q2, vi x1, vi x2, vi x3, vi x4, vi x5, vi ((s0 - 1) - (gi a8 x3))], [], h, kc, ks) Q) (e_q2 : r0 = .index q2 := by first | rfl | assumption) (e_q7 : v5 = .index q7 := by first | rfl | assumption) (e_q15 : v13 = .index q15 := by first | rfl | assumption) (y1 : s_ty r0 = 3 := by first | rfl | assumption) (n6 : s_nth f3 96 = some v5 := by first | rfl | assumption) (n14 : s_nth f3 97 = some v13 := by first | rfl | assumption) (c10 : x3 < a8.length := by first | omega | assumption | (simp only [mk_len, List.length_map]; omega) | decide) (c11 : 0 ≤ x3 := by first | omega | assumption | (simp only [mk_len, List.length_map]; omega) | decide) (c12 : In3 x3 := by first | omega | assumption | (simp only [mk_len, List.length_map]; omega) | decide) (c18 : x3 < a16.length := by first | omega | assumption | (simp only [mk_len, List.length_map]; omega) | decide) (c19 : In3 (gi a16 x3) := by first | omega | assumption | (simp only [mk_len, List.length_map]; omega) | decide) : wr P d sw_c618 sw_h618 (235, [r0, vi x1, vi x2, vi x3, vi x4, vi x5, vi x6], [vi s0], h, kc, ks) Q := by
  refine w_c32 rfl (by decide) 1 (by decide) ?_
  refine w_isub rfl ?_
  refine w_ld rfl rfl (Or.inr (Or.inr ⟨by decide, y1⟩)) ?_
  subst e_q2
  refine w_getf rfl g4 n6 ?_
  refine w_ld rfl rfl (Or.inl ⟨by decide, rfl⟩) ?_
  subst e_q7
  refine w_iald rfl g9 (Or.inl rfl) c12 c11 c10 ?_
  refine w_isub rfl ?_
  refine w_st (ls' := [.index q2, vi x1, vi x2, vi x3, vi x4, vi x5, vi ((s0 - 1) - (gi a8 x3))]) rfl (Or.inl ⟨by decide, rfl⟩) rfl ?_
  refine w_ld rfl rfl (Or.inr (Or.inr ⟨by decide, rfl⟩)) ?_
  refine w_getf rfl g4 n14 ?_
  refine w_ld rfl rfl (Or.inl ⟨by decide, rfl⟩) ?_
  subst e_q15
  refine w_iald rfl g17 (Or.inl rfl) c12 c11 c18 ?_
  refine w_c32 rfl (by decide) 1 (by decide) ?_
  exact w_if2 rfl c19 (by decide) k1 k2

theorem k618_256 {P : s_P} {d : Nat} {Q : s_O → Prop} {h : s_H} {kc ks : Nat} {r0 : Term} {x1 x2 x3 x4 x5 x6 : Int}  (k1 : x2 ≤ x6 → wr P d sw_c618 sw_h618 (272, [r0, vi x1, vi x2, vi x3, vi x4, vi x5, vi x6], [], h, kc, ks) Q) (k2 : ¬ x2 ≤ x6 → wr P d sw_c618 sw_h618 (262, [r0, vi x1, vi x2, vi x3, vi x4, vi x5, vi x6], [], h, kc, ks) Q)  (c1 : In3 x6 := by first | omega | assumption | (simp only [mk_len, List.length_map]; omega) | decide) (c2 : In3 x2 := by first | omega | assumption | (simp only [mk_len, List.length_map]; omega) | decide) : wr P d sw_c618 sw_h618 (256, [r0, vi x1, vi x2, vi x3, vi x4, vi x5, vi x6], [], h, kc, ks) Q := by
  refine w_ld rfl rfl (Or.inl ⟨by decide, rfl⟩) ?_
  refine w_ld rfl rfl (Or.inl ⟨by decide, rfl⟩) ?_
  exact w_if2 rfl c1 c2 k1 k2

theorem k618_262 {P : s_P} {d : Nat} {Q : s_O → Prop} {h : s_H} {kc ks : Nat} {r0 : Term} {x1 x2 x3 x4 x5 x6 : Int} {q2 : Nat} {f3 : List Term} {v5 : Term} {q7 : Nat} {a8 : List Int} (g4 : s_get h q2 = some (1, 11, f3)) (g9 : s_get h q7 = some (0, 0, a8.map vi)) (k : wr P d sw_c618 sw_h618 (272, [.index q2, vi (gi a8 x3), vi x6, vi x3, vi x4, vi x5, vi x6], [], h, kc, ks) Q) (e_q2 : r0 = .index q2 := by first | rfl | assumption) (e_q7 : v5 = .index q7 := by first | rfl | assumption) (y1 : s_ty r0 = 3 := by first | rfl | assumption) (n6 : s_nth f3 97 = some v5 := by first | rfl | assumption) (c10 : x3 < a8.length := by first | omega | assumption | (simp only [mk_len, List.length_map]; omega) | decide) (c11 : 0 ≤ x3 := by first | omega | assumption | (simp only [mk_len, List.length_map]; omega) | decide) (c12 : In3 x3 := by first | omega | assumption | (simp only [mk_len, List.length_map]; omega) | decide) : wr P d sw_c618 sw_h618 (262, [r0, vi x1, vi x2, vi x3, vi x4, vi x5, vi x6], [], h, kc, ks) Q := by
  refine w_ld rfl rfl (Or.inl ⟨by decide, rfl⟩) ?_
  refine w_st (ls' := [r0, vi x1, vi x6, vi x3, vi x4, vi x5, vi x6]) rfl (Or.inl ⟨by decide, rfl⟩) rfl ?_
  refine w_ld rfl rfl (Or.inr (Or.inr ⟨by decide, y1⟩)) ?_
  subst e_q2
  refine w_getf rfl g4 n6 ?_
  refine w_ld rfl rfl (Or.inl ⟨by decide, rfl⟩) ?_
  subst e_q7
  refine w_iald rfl g9 (Or.inl rfl) c12 c11 c10 ?_
  refine w_st (ls' := [.index q2, vi (gi a8 x3), vi x6, vi x3, vi x4, vi x5, vi x6]) rfl (Or.inl ⟨by decide, rfl⟩) rfl ?_
  exact k

theorem k618_272 {P : s_P} {d : Nat} {Q : s_O → Prop} {h : s_H} {kc ks : Nat} {r0 : Term} {x1 x2 x3 x4 x5 x6 : Int}  (k : wr P d sw_c618 sw_h618 (84, [r0, vi x1, vi x2, vi (x3 + (-1)), vi x4, vi x5, vi x6], [], h, kc, ks) Q)   : wr P d sw_c618 sw_h618 (272, [r0, vi x1, vi x2, vi x3, vi x4, vi x5, vi x6], [], h, kc, ks) Q := by
  refine w_iinc (ls' := [r0, vi x1, vi x2, vi (x3 + (-1)), vi x4, vi x5, vi x6]) rfl rfl (-1) (by decide) rfl ?_
  refine w_goto rfl ?_
  exact k

theorem k618_278 {P : s_P} {d : Nat} {Q : s_O → Prop} {h : s_H} {kc ks : Nat} {r0 : Term} {x1 x2 x3 : Int} {t4 t5 t6 : Term}  (k : Q (.inl (some (vi x1)), h, kc, ks))   : wr P d sw_c618 sw_h618 (278, [r0, vi x1, vi x2, vi x3, t4, t5, t6], [], h, kc, ks) Q := by
  refine w_ld rfl rfl (Or.inl ⟨by decide, rfl⟩) ?_
  exact w_iret rfl k

/-! 619: FormulaWorksModel.worked()I -/
theorem k619_0 {P : s_P} {d : Nat} {Q : s_O → Prop} {h : s_H} {kc ks : Nat} {r0 : Term} {q2 : Nat} {f3 f7 : List Term} {z9 : Int} (g4 : s_get h q2 = some (1, 11, f3)) (g8 : s_get (hp h q2 (1, 11, f3.set 0 (vi 0))) q2 = some (1, 11, f7)) (k : Q (.inl (some (vi z9)), (hp h q2 (1, 11, f3.set 0 (vi 0))), kc, ks)) (e_q2 : r0 = .index q2 := by first | rfl | assumption) (y1 : s_ty r0 = 3 := by first | rfl | assumption) (l5 : 0 < f3.length := by first | exact Nat.le_of_ble_eq_true rfl | omega | assumption) (n10 : s_nth f7 110 = some (vi z9) := by first | rfl | assumption) (c6 : 0 < q2 := by first | omega | assumption | (simp only [mk_len, List.length_map]; omega) | decide) : wr P d sw_c619 sw_h619 (0, [r0], [], h, kc, ks) Q := by
  refine w_ld rfl rfl (Or.inr (Or.inr ⟨by decide, y1⟩)) ?_
  refine w_c32 rfl (by decide) 0 (by decide) ?_
  subst e_q2
  refine w_putf rfl g4 (Nat.ble_eq_true_of_le c6) rfl (Nat.ble_eq_true_of_le l5) ?_
  refine w_ld rfl rfl (Or.inr (Or.inr ⟨by decide, rfl⟩)) ?_
  refine w_getf rfl g8 n10 ?_
  exact w_iret rfl k

/-! 620: FormulaWorksModel.worth(I)I -/
theorem k620_0 {P : s_P} {d : Nat} {Q : s_O → Prop} {h : s_H} {kc ks : Nat} {r0 : Term} {x1 : Int} {t2 : Term} {q2 : Nat} {f3 : List Term} (g4 : s_get h q2 = some (1, 11, f3)) (k : wm P d 481 [.index q2, vi x1, vi 3] h (wq P d sw_c620 sw_h620 6 [.index q2, vi x1, t2] [] kc ks Q)) (e_q2 : r0 = .index q2 := by first | rfl | assumption) (y1 : s_ty r0 = 3 := by first | rfl | assumption)  : wr P d sw_c620 sw_h620 (0, [r0, vi x1, t2], [], h, kc, ks) Q := by
  refine w_ld rfl rfl (Or.inr (Or.inr ⟨by decide, y1⟩)) ?_
  refine w_ld rfl rfl (Or.inl ⟨by decide, rfl⟩) ?_
  refine w_c32 rfl (by decide) 3 (by decide) ?_
  subst e_q2
  exact w_cv rfl [.index q2, vi x1, vi 3] [] rfl rfl (s_wt_4 rfl) rfl g4 k

theorem k620_6 {P : s_P} {d : Nat} {Q : s_O → Prop} {h : s_H} {kc ks : Nat} {r0 : Term} {x1 : Int} {t2 : Term} {s0 : Int}  (k1 : s0 ≠ 0 → wr P d sw_c620 sw_h620 (11, [r0, vi x1, t2], [], h, kc, ks) Q) (k2 : ¬ s0 ≠ 0 → wr P d sw_c620 sw_h620 (9, [r0, vi x1, t2], [], h, kc, ks) Q)  (c1 : In3 s0 := by first | omega | assumption | (simp only [mk_len, List.length_map]; omega) | decide) : wr P d sw_c620 sw_h620 (6, [r0, vi x1, t2], [vi s0], h, kc, ks) Q := by
  exact w_if1 rfl c1 k1 k2

theorem k620_9 {P : s_P} {d : Nat} {Q : s_O → Prop} {h : s_H} {kc ks : Nat} {r0 : Term} {x1 : Int} {t2 : Term}  (k : Q (.inl (some (vi 0)), h, kc, ks))   : wr P d sw_c620 sw_h620 (9, [r0, vi x1, t2], [], h, kc, ks) Q := by
  refine w_c32 rfl (by decide) 0 (by decide) ?_
  exact w_iret rfl k

theorem k620_11 {P : s_P} {d : Nat} {Q : s_O → Prop} {h : s_H} {kc ks : Nat} {r0 : Term} {x1 : Int} {t2 : Term} {q2 : Nat} {f3 : List Term} (g4 : s_get h q2 = some (1, 11, f3)) (k : wm P d 512 [.index q2, vi x1] h (wq P d sw_c620 sw_h620 16 [.index q2, vi x1, t2] [] kc ks Q)) (e_q2 : r0 = .index q2 := by first | rfl | assumption) (y1 : s_ty r0 = 3 := by first | rfl | assumption)  : wr P d sw_c620 sw_h620 (11, [r0, vi x1, t2], [], h, kc, ks) Q := by
  refine w_ld rfl rfl (Or.inr (Or.inr ⟨by decide, y1⟩)) ?_
  refine w_ld rfl rfl (Or.inl ⟨by decide, rfl⟩) ?_
  subst e_q2
  exact w_cv rfl [.index q2, vi x1] [] rfl rfl (s_wt_4 rfl) rfl g4 k

theorem k620_16 {P : s_P} {d : Nat} {Q : s_O → Prop} {h : s_H} {kc ks : Nat} {r0 : Term} {x1 : Int} {t2 : Term} {q2 : Nat} {f3 : List Term} (g4 : s_get h q2 = some (1, 11, f3)) (k : wm P d 618 [.index q2] h (wq P d sw_c620 sw_h620 20 [.index q2, vi x1, t2] [] kc ks Q)) (e_q2 : r0 = .index q2 := by first | rfl | assumption) (y1 : s_ty r0 = 3 := by first | rfl | assumption)  : wr P d sw_c620 sw_h620 (16, [r0, vi x1, t2], [], h, kc, ks) Q := by
  refine w_ld rfl rfl (Or.inr (Or.inr ⟨by decide, y1⟩)) ?_
  subst e_q2
  exact w_cv rfl [.index q2] [] rfl rfl (s_wt_4 rfl) rfl g4 k

theorem k620_20 {P : s_P} {d : Nat} {Q : s_O → Prop} {h : s_H} {kc ks : Nat} {r0 : Term} {x1 : Int} {t2 : Term} {s0 : Int}  (k1 : s0 ≤ 0 → wr P d sw_c620 sw_h620 (33, [r0, vi x1, vi s0], [], h, kc, ks) Q) (k2 : ¬ s0 ≤ 0 → wr P d sw_c620 sw_h620 (25, [r0, vi x1, vi s0], [], h, kc, ks) Q)  (c1 : In3 s0 := by first | omega | assumption | (simp only [mk_len, List.length_map]; omega) | decide) : wr P d sw_c620 sw_h620 (20, [r0, vi x1, t2], [vi s0], h, kc, ks) Q := by
  refine w_st (ls' := [r0, vi x1, vi s0]) rfl (Or.inl ⟨by decide, rfl⟩) rfl ?_
  refine w_ld rfl rfl (Or.inl ⟨by decide, rfl⟩) ?_
  exact w_if1 rfl c1 k1 k2

theorem k620_25 {P : s_P} {d : Nat} {Q : s_O → Prop} {h : s_H} {kc ks : Nat} {r0 : Term} {x1 x2 : Int} {q2 : Nat} {f3 : List Term} (g4 : s_get h q2 = some (1, 11, f3)) (k : wm P d 570 [.index q2, vi x2] h (wq P d sw_c620 sw_h620 30 [.index q2, vi x1, vi x2] [] kc ks Q)) (e_q2 : r0 = .index q2 := by first | rfl | assumption) (y1 : s_ty r0 = 3 := by first | rfl | assumption)  : wr P d sw_c620 sw_h620 (25, [r0, vi x1, vi x2], [], h, kc, ks) Q := by
  refine w_ld rfl rfl (Or.inr (Or.inr ⟨by decide, y1⟩)) ?_
  refine w_ld rfl rfl (Or.inl ⟨by decide, rfl⟩) ?_
  subst e_q2
  exact w_cv rfl [.index q2, vi x2] [] rfl rfl (s_wt_4 rfl) rfl g4 k

theorem k620_30 {P : s_P} {d : Nat} {Q : s_O → Prop} {h : s_H} {kc ks : Nat} {r0 : Term} {x1 x2 s0 : Int}  (k : wr P d sw_c620 sw_h620 (38, [r0, vi x1, vi x2], [vi s0], h, kc, ks) Q)   : wr P d sw_c620 sw_h620 (30, [r0, vi x1, vi x2], [vi s0], h, kc, ks) Q := by
  refine w_goto rfl ?_
  exact k

theorem k620_33 {P : s_P} {d : Nat} {Q : s_O → Prop} {h : s_H} {kc ks : Nat} {r0 : Term} {x1 x2 : Int} {q2 : Nat} {f3 : List Term} (g4 : s_get h q2 = some (1, 11, f3)) (k : wm P d 495 [.index q2, vi 4] h (wq P d sw_c620 sw_h620 38 [.index q2, vi x1, vi x2] [] kc ks Q)) (e_q2 : r0 = .index q2 := by first | rfl | assumption) (y1 : s_ty r0 = 3 := by first | rfl | assumption)  : wr P d sw_c620 sw_h620 (33, [r0, vi x1, vi x2], [], h, kc, ks) Q := by
  refine w_ld rfl rfl (Or.inr (Or.inr ⟨by decide, y1⟩)) ?_
  refine w_c32 rfl (by decide) 4 (by decide) ?_
  subst e_q2
  exact w_cv rfl [.index q2, vi 4] [] rfl rfl (s_wt_4 rfl) rfl g4 k

theorem k620_38 {P : s_P} {d : Nat} {Q : s_O → Prop} {h : s_H} {kc ks : Nat} {r0 : Term} {x1 x2 s0 : Int}  (k : Q (.inl (some (vi s0)), h, kc, ks))   : wr P d sw_c620 sw_h620 (38, [r0, vi x1, vi x2], [vi s0], h, kc, ks) Q := by
  exact w_iret rfl k

/-! 621: FormulaWorksModel.written(I)I -/
theorem k621_0 {P : s_P} {d : Nat} {Q : s_O → Prop} {h : s_H} {kc ks : Nat} {r0 : Term} {x1 : Int} {q2 : Nat} {f3 : List Term} (g4 : s_get h q2 = some (1, 11, f3)) (k : wm P d 481 [.index q2, vi x1, vi 0] h (wq P d sw_c621 sw_h621 6 [.index q2, vi x1] [] kc ks Q)) (e_q2 : r0 = .index q2 := by first | rfl | assumption) (y1 : s_ty r0 = 3 := by first | rfl | assumption)  : wr P d sw_c621 sw_h621 (0, [r0, vi x1], [], h, kc, ks) Q := by
  refine w_ld rfl rfl (Or.inr (Or.inr ⟨by decide, y1⟩)) ?_
  refine w_ld rfl rfl (Or.inl ⟨by decide, rfl⟩) ?_
  refine w_c32 rfl (by decide) 0 (by decide) ?_
  subst e_q2
  exact w_cv rfl [.index q2, vi x1, vi 0] [] rfl rfl (s_wt_4 rfl) rfl g4 k

theorem k621_6 {P : s_P} {d : Nat} {Q : s_O → Prop} {h : s_H} {kc ks : Nat} {r0 : Term} {x1 s0 : Int}  (k1 : s0 ≠ 0 → wr P d sw_c621 sw_h621 (11, [r0, vi x1], [], h, kc, ks) Q) (k2 : ¬ s0 ≠ 0 → wr P d sw_c621 sw_h621 (9, [r0, vi x1], [], h, kc, ks) Q)  (c1 : In3 s0 := by first | omega | assumption | (simp only [mk_len, List.length_map]; omega) | decide) : wr P d sw_c621 sw_h621 (6, [r0, vi x1], [vi s0], h, kc, ks) Q := by
  exact w_if1 rfl c1 k1 k2

theorem k621_9 {P : s_P} {d : Nat} {Q : s_O → Prop} {h : s_H} {kc ks : Nat} {r0 : Term} {x1 : Int}  (k : Q (.inl (some (vi 0)), h, kc, ks))   : wr P d sw_c621 sw_h621 (9, [r0, vi x1], [], h, kc, ks) Q := by
  refine w_c32 rfl (by decide) 0 (by decide) ?_
  exact w_iret rfl k

theorem k621_11 {P : s_P} {d : Nat} {Q : s_O → Prop} {h : s_H} {kc ks : Nat} {r0 : Term} {x1 : Int} {q2 : Nat} {f3 f7 : List Term} {v9 : Term} (g4 : s_get h q2 = some (1, 11, f3)) (g8 : s_get (hp h q2 (1, 11, f3.set 85 (vi 0))) q2 = some (1, 11, f7)) (k : wm P d 483 [v9] (hp h q2 (1, 11, f3.set 85 (vi 0))) (wq P d sw_c621 sw_h621 23 [.index q2, vi x1] [] kc ks Q)) (e_q2 : r0 = .index q2 := by first | rfl | assumption) (y1 : s_ty r0 = 3 := by first | rfl | assumption) (l5 : 85 < f3.length := by first | exact Nat.le_of_ble_eq_true rfl | omega | assumption) (n10 : s_nth f7 11 = some v9 := by first | rfl | assumption) (c6 : 0 < q2 := by first | omega | assumption | (simp only [mk_len, List.length_map]; omega) | decide) : wr P d sw_c621 sw_h621 (11, [r0, vi x1], [], h, kc, ks) Q := by
  refine w_ld rfl rfl (Or.inr (Or.inr ⟨by decide, y1⟩)) ?_
  refine w_c32 rfl (by decide) 0 (by decide) ?_
  subst e_q2
  refine w_putf rfl g4 (Nat.ble_eq_true_of_le c6) rfl (Nat.ble_eq_true_of_le l5) ?_
  refine w_ld rfl rfl (Or.inr (Or.inr ⟨by decide, rfl⟩)) ?_
  refine w_getf rfl g8 n10 ?_
  exact w_cs rfl [v9] [] rfl rfl (s_wt_4 rfl) k

theorem k621_23 {P : s_P} {d : Nat} {Q : s_O → Prop} {h : s_H} {kc ks : Nat} {r0 : Term} {x1 s0 : Int}  (k1 : s0 ≠ 0 → wr P d sw_c621 sw_h621 (32, [r0, vi x1], [], h, kc, ks) Q) (k2 : ¬ s0 ≠ 0 → wr P d sw_c621 sw_h621 (26, [r0, vi x1], [], h, kc, ks) Q)  (c1 : In3 s0 := by first | omega | assumption | (simp only [mk_len, List.length_map]; omega) | decide) : wr P d sw_c621 sw_h621 (23, [r0, vi x1], [vi s0], h, kc, ks) Q := by
  exact w_if1 rfl c1 k1 k2

theorem k621_26 {P : s_P} {d : Nat} {Q : s_O → Prop} {h : s_H} {kc ks : Nat} {r0 : Term} {x1 : Int} {q2 : Nat} {f3 : List Term} (g4 : s_get h q2 = some (1, 11, f3)) (k : wm P d 549 [.index q2, vi 5, vi 0] h (wq P d sw_c621 sw_h621 32 [.index q2, vi x1] [] kc ks Q)) (e_q2 : r0 = .index q2 := by first | rfl | assumption) (y1 : s_ty r0 = 3 := by first | rfl | assumption)  : wr P d sw_c621 sw_h621 (26, [r0, vi x1], [], h, kc, ks) Q := by
  refine w_ld rfl rfl (Or.inr (Or.inr ⟨by decide, y1⟩)) ?_
  refine w_c32 rfl (by decide) 5 (by decide) ?_
  refine w_c32 rfl (by decide) 0 (by decide) ?_
  subst e_q2
  exact w_cv rfl [.index q2, vi 5, vi 0] [] rfl rfl (s_wt_4 rfl) rfl g4 k

theorem k621_32 {P : s_P} {d : Nat} {Q : s_O → Prop} {h : s_H} {kc ks : Nat} {r0 : Term} {x1 : Int} {q2 : Nat} {f3 : List Term} {v5 : Term} (g4 : s_get h q2 = some (1, 11, f3)) (k : wm P d 551 [.index q2, v5] h (wq P d sw_c621 sw_h621 40 [.index q2, vi x1] [] kc ks Q)) (e_q2 : r0 = .index q2 := by first | rfl | assumption) (y1 : s_ty r0 = 3 := by first | rfl | assumption) (n6 : s_nth f3 10 = some v5 := by first | rfl | assumption)  : wr P d sw_c621 sw_h621 (32, [r0, vi x1], [], h, kc, ks) Q := by
  refine w_ld rfl rfl (Or.inr (Or.inr ⟨by decide, y1⟩)) ?_
  refine w_ld rfl rfl (Or.inr (Or.inr ⟨by decide, y1⟩)) ?_
  subst e_q2
  refine w_getf rfl g4 n6 ?_
  exact w_cv rfl [.index q2, v5] [] rfl rfl (s_wt_4 rfl) rfl g4 k

theorem k621_40 {P : s_P} {d : Nat} {Q : s_O → Prop} {h : s_H} {kc ks : Nat} {r0 : Term} {x1 : Int} {q2 : Nat} {f3 : List Term} {v5 : Term} (g4 : s_get h q2 = some (1, 11, f3)) (k : wm P d 483 [v5] h (wq P d sw_c621 sw_h621 47 [.index q2, vi x1] [] kc ks Q)) (e_q2 : r0 = .index q2 := by first | rfl | assumption) (y1 : s_ty r0 = 3 := by first | rfl | assumption) (n6 : s_nth f3 11 = some v5 := by first | rfl | assumption)  : wr P d sw_c621 sw_h621 (40, [r0, vi x1], [], h, kc, ks) Q := by
  refine w_ld rfl rfl (Or.inr (Or.inr ⟨by decide, y1⟩)) ?_
  subst e_q2
  refine w_getf rfl g4 n6 ?_
  exact w_cs rfl [v5] [] rfl rfl (s_wt_4 rfl) k

theorem k621_47 {P : s_P} {d : Nat} {Q : s_O → Prop} {h : s_H} {kc ks : Nat} {r0 : Term} {x1 s0 : Int}  (k1 : s0 ≠ 0 → wr P d sw_c621 sw_h621 (58, [r0, vi x1], [], h, kc, ks) Q) (k2 : ¬ s0 ≠ 0 → wr P d sw_c621 sw_h621 (50, [r0, vi x1], [], h, kc, ks) Q)  (c1 : In3 s0 := by first | omega | assumption | (simp only [mk_len, List.length_map]; omega) | decide) : wr P d sw_c621 sw_h621 (47, [r0, vi x1], [vi s0], h, kc, ks) Q := by
  exact w_if1 rfl c1 k1 k2

theorem k621_50 {P : s_P} {d : Nat} {Q : s_O → Prop} {h : s_H} {kc ks : Nat} {r0 : Term} {x1 : Int} {q2 : Nat} {f3 : List Term} {v5 : Term} (g4 : s_get h q2 = some (1, 11, f3)) (k : wm P d 551 [.index q2, v5] h (wq P d sw_c621 sw_h621 58 [.index q2, vi x1] [] kc ks Q)) (e_q2 : r0 = .index q2 := by first | rfl | assumption) (y1 : s_ty r0 = 3 := by first | rfl | assumption) (n6 : s_nth f3 11 = some v5 := by first | rfl | assumption)  : wr P d sw_c621 sw_h621 (50, [r0, vi x1], [], h, kc, ks) Q := by
  refine w_ld rfl rfl (Or.inr (Or.inr ⟨by decide, y1⟩)) ?_
  refine w_ld rfl rfl (Or.inr (Or.inr ⟨by decide, y1⟩)) ?_
  subst e_q2
  refine w_getf rfl g4 n6 ?_
  exact w_cv rfl [.index q2, v5] [] rfl rfl (s_wt_4 rfl) rfl g4 k

theorem k621_58 {P : s_P} {d : Nat} {Q : s_O → Prop} {h : s_H} {kc ks : Nat} {r0 : Term} {x1 : Int} {q2 : Nat} {f3 : List Term} (g4 : s_get h q2 = some (1, 11, f3)) (k : wm P d 500 [.index q2, vi 3] h (wq P d sw_c621 sw_h621 63 [.index q2, vi x1] [] kc ks Q)) (e_q2 : r0 = .index q2 := by first | rfl | assumption) (y1 : s_ty r0 = 3 := by first | rfl | assumption)  : wr P d sw_c621 sw_h621 (58, [r0, vi x1], [], h, kc, ks) Q := by
  refine w_ld rfl rfl (Or.inr (Or.inr ⟨by decide, y1⟩)) ?_
  refine w_c32 rfl (by decide) 3 (by decide) ?_
  subst e_q2
  exact w_cv rfl [.index q2, vi 3] [] rfl rfl (s_wt_4 rfl) rfl g4 k

theorem k621_63 {P : s_P} {d : Nat} {Q : s_O → Prop} {h : s_H} {kc ks : Nat} {r0 : Term} {x1 s0 : Int}  (k : Q (.inl (some (vi s0)), h, kc, ks))   : wr P d sw_c621 sw_h621 (63, [r0, vi x1], [vi s0], h, kc, ks) Q := by
  exact w_iret rfl k

