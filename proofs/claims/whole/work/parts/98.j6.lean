/-! the library's blocks: printed by wip/gen/blk.py - java -/
/-! 622: java/lang/Integer.bitCount(I)I -/
theorem k622_0 {P : s_P} {d : Nat} {Q : s_O → Prop} {h : s_H} {kc ks : Nat} {x0 : Int}  (k : Q (.inl (some (vi (zi 24 (((zi 24 (((zi 24 (x0 - (zi 24 (zi 76 x0 1) 1431655765)) 858993459) + (zi 24 (zi 76 (x0 - (zi 24 (zi 76 x0 1) 1431655765)) 2) 858993459)) + (zi 76 ((zi 24 (x0 - (zi 24 (zi 76 x0 1) 1431655765)) 858993459) + (zi 24 (zi 76 (x0 - (zi 24 (zi 76 x0 1) 1431655765)) 2) 858993459)) 4)) 252645135) + (zi 76 (zi 24 (((zi 24 (x0 - (zi 24 (zi 76 x0 1) 1431655765)) 858993459) + (zi 24 (zi 76 (x0 - (zi 24 (zi 76 x0 1) 1431655765)) 2) 858993459)) + (zi 76 ((zi 24 (x0 - (zi 24 (zi 76 x0 1) 1431655765)) 858993459) + (zi 24 (zi 76 (x0 - (zi 24 (zi 76 x0 1) 1431655765)) 2) 858993459)) 4)) 252645135) 8)) + (zi 76 ((zi 24 (((zi 24 (x0 - (zi 24 (zi 76 x0 1) 1431655765)) 858993459) + (zi 24 (zi 76 (x0 - (zi 24 (zi 76 x0 1) 1431655765)) 2) 858993459)) + (zi 76 ((zi 24 (x0 - (zi 24 (zi 76 x0 1) 1431655765)) 858993459) + (zi 24 (zi 76 (x0 - (zi 24 (zi 76 x0 1) 1431655765)) 2) 858993459)) 4)) 252645135) + (zi 76 (zi 24 (((zi 24 (x0 - (zi 24 (zi 76 x0 1) 1431655765)) 858993459) + (zi 24 (zi 76 (x0 - (zi 24 (zi 76 x0 1) 1431655765)) 2) 858993459)) + (zi 76 ((zi 24 (x0 - (zi 24 (zi 76 x0 1) 1431655765)) 858993459) + (zi 24 (zi 76 (x0 - (zi 24 (zi 76 x0 1) 1431655765)) 2) 858993459)) 4)) 252645135) 8)) 16)) 63))), h, kc, ks))   : wr P d sw_c622 sw_h622 (0, [vi x0], [], h, kc, ks) Q := by
  refine w_ld rfl rfl (Or.inl ⟨by decide, rfl⟩) ?_
  refine w_ld rfl rfl (Or.inl ⟨by decide, rfl⟩) ?_
  refine w_c32 rfl (by decide) 1 (by decide) ?_
  refine w_ib rfl (by decide) ?_
  refine w_c32 rfl (by decide) 1431655765 (by decide) ?_
  refine w_ib rfl (by decide) ?_
  refine w_isub rfl ?_
  refine w_st (ls' := [vi (x0 - (zi 24 (zi 76 x0 1) 1431655765))]) rfl (Or.inl ⟨by decide, rfl⟩) rfl ?_
  refine w_ld rfl rfl (Or.inl ⟨by decide, rfl⟩) ?_
  refine w_c32 rfl (by decide) 858993459 (by decide) ?_
  refine w_ib rfl (by decide) ?_
  refine w_ld rfl rfl (Or.inl ⟨by decide, rfl⟩) ?_
  refine w_c32 rfl (by decide) 2 (by decide) ?_
  refine w_ib rfl (by decide) ?_
  refine w_c32 rfl (by decide) 858993459 (by decide) ?_
  refine w_ib rfl (by decide) ?_
  refine w_iadd rfl ?_
  refine w_st (ls' := [vi ((zi 24 (x0 - (zi 24 (zi 76 x0 1) 1431655765)) 858993459) + (zi 24 (zi 76 (x0 - (zi 24 (zi 76 x0 1) 1431655765)) 2) 858993459))]) rfl (Or.inl ⟨by decide, rfl⟩) rfl ?_
  refine w_ld rfl rfl (Or.inl ⟨by decide, rfl⟩) ?_
  refine w_ld rfl rfl (Or.inl ⟨by decide, rfl⟩) ?_
  refine w_c32 rfl (by decide) 4 (by decide) ?_
  refine w_ib rfl (by decide) ?_
  refine w_iadd rfl ?_
  refine w_c32 rfl (by decide) 252645135 (by decide) ?_
  refine w_ib rfl (by decide) ?_
  refine w_st (ls' := [vi (zi 24 (((zi 24 (x0 - (zi 24 (zi 76 x0 1) 1431655765)) 858993459) + (zi 24 (zi 76 (x0 - (zi 24 (zi 76 x0 1) 1431655765)) 2) 858993459)) + (zi 76 ((zi 24 (x0 - (zi 24 (zi 76 x0 1) 1431655765)) 858993459) + (zi 24 (zi 76 (x0 - (zi 24 (zi 76 x0 1) 1431655765)) 2) 858993459)) 4)) 252645135)]) rfl (Or.inl ⟨by decide, rfl⟩) rfl ?_
  refine w_ld rfl rfl (Or.inl ⟨by decide, rfl⟩) ?_
  refine w_ld rfl rfl (Or.inl ⟨by decide, rfl⟩) ?_
  refine w_c32 rfl (by decide) 8 (by decide) ?_
  refine w_ib rfl (by decide) ?_
  refine w_iadd rfl ?_
  refine w_st (ls' := [vi ((zi 24 (((zi 24 (x0 - (zi 24 (zi 76 x0 1) 1431655765)) 858993459) + (zi 24 (zi 76 (x0 - (zi 24 (zi 76 x0 1) 1431655765)) 2) 858993459)) + (zi 76 ((zi 24 (x0 - (zi 24 (zi 76 x0 1) 1431655765)) 858993459) + (zi 24 (zi 76 (x0 - (zi 24 (zi 76 x0 1) 1431655765)) 2) 858993459)) 4)) 252645135) + (zi 76 (zi 24 (((zi 24 (x0 - (zi 24 (zi 76 x0 1) 1431655765)) 858993459) + (zi 24 (zi 76 (x0 - (zi 24 (zi 76 x0 1) 1431655765)) 2) 858993459)) + (zi 76 ((zi 24 (x0 - (zi 24 (zi 76 x0 1) 1431655765)) 858993459) + (zi 24 (zi 76 (x0 - (zi 24 (zi 76 x0 1) 1431655765)) 2) 858993459)) 4)) 252645135) 8))]) rfl (Or.inl ⟨by decide, rfl⟩) rfl ?_
  refine w_ld rfl rfl (Or.inl ⟨by decide, rfl⟩) ?_
  refine w_ld rfl rfl (Or.inl ⟨by decide, rfl⟩) ?_
  refine w_c32 rfl (by decide) 16 (by decide) ?_
  refine w_ib rfl (by decide) ?_
  refine w_iadd rfl ?_
  refine w_st (ls' := [vi (((zi 24 (((zi 24 (x0 - (zi 24 (zi 76 x0 1) 1431655765)) 858993459) + (zi 24 (zi 76 (x0 - (zi 24 (zi 76 x0 1) 1431655765)) 2) 858993459)) + (zi 76 ((zi 24 (x0 - (zi 24 (zi 76 x0 1) 1431655765)) 858993459) + (zi 24 (zi 76 (x0 - (zi 24 (zi 76 x0 1) 1431655765)) 2) 858993459)) 4)) 252645135) + (zi 76 (zi 24 (((zi 24 (x0 - (zi 24 (zi 76 x0 1) 1431655765)) 858993459) + (zi 24 (zi 76 (x0 - (zi 24 (zi 76 x0 1) 1431655765)) 2) 858993459)) + (zi 76 ((zi 24 (x0 - (zi 24 (zi 76 x0 1) 1431655765)) 858993459) + (zi 24 (zi 76 (x0 - (zi 24 (zi 76 x0 1) 1431655765)) 2) 858993459)) 4)) 252645135) 8)) + (zi 76 ((zi 24 (((zi 24 (x0 - (zi 24 (zi 76 x0 1) 1431655765)) 858993459) + (zi 24 (zi 76 (x0 - (zi 24 (zi 76 x0 1) 1431655765)) 2) 858993459)) + (zi 76 ((zi 24 (x0 - (zi 24 (zi 76 x0 1) 1431655765)) 858993459) + (zi 24 (zi 76 (x0 - (zi 24 (zi 76 x0 1) 1431655765)) 2) 858993459)) 4)) 252645135) + (zi 76 (zi 24 (((zi 24 (x0 - (zi 24 (zi 76 x0 1) 1431655765)) 858993459) + (zi 24 (zi 76 (x0 - (zi 24 (zi 76 x0 1) 1431655765)) 2) 858993459)) + (zi 76 ((zi 24 (x0 - (zi 24 (zi 76 x0 1) 1431655765)) 858993459) + (zi 24 (zi 76 (x0 - (zi 24 (zi 76 x0 1) 1431655765)) 2) 858993459)) 4)) 252645135) 8)) 16))]) rfl (Or.inl ⟨by decide, rfl⟩) rfl ?_
  refine w_ld rfl rfl (Or.inl ⟨by decide, rfl⟩) ?_
  refine w_c32 rfl (by decide) 63 (by decide) ?_
  refine w_ib rfl (by decide) ?_
  exact w_iret rfl k

/-! 623: java/lang/Math.floorMod(II)I -/
theorem k623_0 {P : s_P} {d : Nat} {Q : s_O → Prop} {h : s_H} {kc ks : Nat} {x0 x1 : Int} {t2 : Term}  (k1 : 0 ≤ zi 26 x0 x1 → wr P d sw_c623 sw_h623 (18, [vi x0, vi x1, vi (Int.tmod x0 x1)], [], h, kc, ks) Q) (k2 : ¬ 0 ≤ zi 26 x0 x1 → wr P d sw_c623 sw_h623 (10, [vi x0, vi x1, vi (Int.tmod x0 x1)], [], h, kc, ks) Q)  (c1 : x1 ≠ 0 := by first | omega | assumption | (simp only [mk_len, List.length_map]; omega) | decide) (c2 : In3 x0 := by first | omega | assumption | (simp only [mk_len, List.length_map]; omega) | decide) (c3 : In3 x1 := by first | omega | assumption | (simp only [mk_len, List.length_map]; omega) | decide) (c4 : In3 (zi 26 x0 x1) := by first | omega | assumption | (simp only [mk_len, List.length_map]; omega) | decide) : wr P d sw_c623 sw_h623 (0, [vi x0, vi x1, t2], [], h, kc, ks) Q := by
  refine w_ld rfl rfl (Or.inl ⟨by decide, rfl⟩) ?_
  refine w_ld rfl rfl (Or.inl ⟨by decide, rfl⟩) ?_
  refine w_irem rfl c2 c3 c1 ?_
  refine w_st (ls' := [vi x0, vi x1, vi (Int.tmod x0 x1)]) rfl (Or.inl ⟨by decide, rfl⟩) rfl ?_
  refine w_ld rfl rfl (Or.inl ⟨by decide, rfl⟩) ?_
  refine w_ld rfl rfl (Or.inl ⟨by decide, rfl⟩) ?_
  refine w_ib rfl (by decide) ?_
  exact w_if1 rfl c4 k1 k2

theorem k623_10 {P : s_P} {d : Nat} {Q : s_O → Prop} {h : s_H} {kc ks : Nat} {x0 x1 x2 : Int}  (k1 : x2 = 0 → wr P d sw_c623 sw_h623 (18, [vi x0, vi x1, vi x2], [], h, kc, ks) Q) (k2 : ¬ x2 = 0 → wr P d sw_c623 sw_h623 (14, [vi x0, vi x1, vi x2], [], h, kc, ks) Q)  (c1 : In3 x2 := by first | omega | assumption | (simp only [mk_len, List.length_map]; omega) | decide) : wr P d sw_c623 sw_h623 (10, [vi x0, vi x1, vi x2], [], h, kc, ks) Q := by
  refine w_ld rfl rfl (Or.inl ⟨by decide, rfl⟩) ?_
  exact w_if1 rfl c1 k1 k2

theorem k623_14 {P : s_P} {d : Nat} {Q : s_O → Prop} {h : s_H} {kc ks : Nat} {x0 x1 x2 : Int}  (k : Q (.inl (some (vi (x2 + x1))), h, kc, ks))   : wr P d sw_c623 sw_h623 (14, [vi x0, vi x1, vi x2], [], h, kc, ks) Q := by
  refine w_ld rfl rfl (Or.inl ⟨by decide, rfl⟩) ?_
  refine w_ld rfl rfl (Or.inl ⟨by decide, rfl⟩) ?_
  refine w_iadd rfl ?_
  exact w_iret rfl k

theorem k623_18 {P : s_P} {d : Nat} {Q : s_O → Prop} {h : s_H} {kc ks : Nat} {x0 x1 x2 : Int}  (k : Q (.inl (some (vi x2)), h, kc, ks))   : wr P d sw_c623 sw_h623 (18, [vi x0, vi x1, vi x2], [], h, kc, ks) Q := by
  refine w_ld rfl rfl (Or.inl ⟨by decide, rfl⟩) ?_
  exact w_iret rfl k

/-! 624: java/lang/Math.floorMod(JJ)J -/
theorem k624_0 {P : s_P} {d : Nat} {Q : s_O → Prop} {h : s_H} {kc ks : Nat} {x0 : Int} {t1 : Term} {x2 : Int} {t3 t4 t5 : Term}  (k1 : 0 ≤ zl 36 x0 x2 → wr P d sw_c624 sw_h624 (25, [vl x0, t1, vl x2, (s_uu t3), vl (Int.tmod x0 x2), .result], [], h, kc, ks) Q) (k2 : ¬ 0 ≤ zl 36 x0 x2 → wr P d sw_c624 sw_h624 (13, [vl x0, t1, vl x2, (s_uu t3), vl (Int.tmod x0 x2), .result], [], h, kc, ks) Q)  (c1 : x2 ≠ 0 := by first | omega | assumption | (simp only [mk_len, List.length_map]; omega) | decide) (c2 : In6 x0 := by first | omega | assumption | (simp only [mk_len, List.length_map]; omega) | decide) (c3 : In6 x2 := by first | omega | assumption | (simp only [mk_len, List.length_map]; omega) | decide) (c4 : In6 (zl 36 x0 x2) := by first | omega | assumption | (simp only [mk_len, List.length_map]; omega) | decide) : wr P d sw_c624 sw_h624 (0, [vl x0, t1, vl x2, t3, t4, t5], [], h, kc, ks) Q := by
  refine w_ld rfl rfl (Or.inr (Or.inl ⟨by decide, rfl⟩)) ?_
  refine w_ld rfl rfl (Or.inr (Or.inl ⟨by decide, rfl⟩)) ?_
  refine w_lrem rfl c2 c3 c1 ?_
  refine w_stl (ls' := [vl x0, t1, vl x2, (s_uu t3), vl (Int.tmod x0 x2), t5]) (ls'' := [vl x0, t1, vl x2, (s_uu t3), vl (Int.tmod x0 x2), .result]) rfl ⟨by decide, rfl⟩ (s_stK_t (pre := [vl x0, t1, vl x2])) rfl ?_
  refine w_ld rfl rfl (Or.inr (Or.inl ⟨by decide, rfl⟩)) ?_
  refine w_ld rfl rfl (Or.inr (Or.inl ⟨by decide, rfl⟩)) ?_
  refine w_lb rfl (by decide) ?_
  refine w_c64 rfl (by decide) 0 (by decide) ?_
  exact w_lcmp rfl rfl c4 (by decide) k1 k2

theorem k624_13 {P : s_P} {d : Nat} {Q : s_O → Prop} {h : s_H} {kc ks : Nat} {x0 : Int} {t1 : Term} {x2 : Int} {t3 : Term} {x4 : Int} {t5 : Term}  (k1 : x4 = 0 → wr P d sw_c624 sw_h624 (25, [vl x0, t1, vl x2, t3, vl x4, t5], [], h, kc, ks) Q) (k2 : ¬ x4 = 0 → wr P d sw_c624 sw_h624 (20, [vl x0, t1, vl x2, t3, vl x4, t5], [], h, kc, ks) Q)  (c1 : In6 x4 := by first | omega | assumption | (simp only [mk_len, List.length_map]; omega) | decide) : wr P d sw_c624 sw_h624 (13, [vl x0, t1, vl x2, t3, vl x4, t5], [], h, kc, ks) Q := by
  refine w_ld rfl rfl (Or.inr (Or.inl ⟨by decide, rfl⟩)) ?_
  refine w_c64 rfl (by decide) 0 (by decide) ?_
  exact w_lcmp rfl rfl c1 (by decide) k1 k2

theorem k624_20 {P : s_P} {d : Nat} {Q : s_O → Prop} {h : s_H} {kc ks : Nat} {x0 : Int} {t1 : Term} {x2 : Int} {t3 : Term} {x4 : Int} {t5 : Term}  (k : Q (.inl (some (vl (x4 + x2))), h, kc, ks))   : wr P d sw_c624 sw_h624 (20, [vl x0, t1, vl x2, t3, vl x4, t5], [], h, kc, ks) Q := by
  refine w_ld rfl rfl (Or.inr (Or.inl ⟨by decide, rfl⟩)) ?_
  refine w_ld rfl rfl (Or.inr (Or.inl ⟨by decide, rfl⟩)) ?_
  refine w_ladd rfl ?_
  exact w_lret rfl k

theorem k624_25 {P : s_P} {d : Nat} {Q : s_O → Prop} {h : s_H} {kc ks : Nat} {x0 : Int} {t1 : Term} {x2 : Int} {t3 : Term} {x4 : Int} {t5 : Term}  (k : Q (.inl (some (vl x4)), h, kc, ks))   : wr P d sw_c624 sw_h624 (25, [vl x0, t1, vl x2, t3, vl x4, t5], [], h, kc, ks) Q := by
  refine w_ld rfl rfl (Or.inr (Or.inl ⟨by decide, rfl⟩)) ?_
  exact w_lret rfl k

/-! 625: java/lang/Math.max(II)I -/
theorem k625_0 {P : s_P} {d : Nat} {Q : s_O → Prop} {h : s_H} {kc ks : Nat} {x0 x1 : Int}  (k1 : x0 < x1 → wr P d sw_c625 sw_h625 (9, [vi x0, vi x1], [], h, kc, ks) Q) (k2 : ¬ x0 < x1 → wr P d sw_c625 sw_h625 (5, [vi x0, vi x1], [], h, kc, ks) Q)  (c1 : In3 x0 := by first | omega | assumption | (simp only [mk_len, List.length_map]; omega) | decide) (c2 : In3 x1 := by first | omega | assumption | (simp only [mk_len, List.length_map]; omega) | decide) : wr P d sw_c625 sw_h625 (0, [vi x0, vi x1], [], h, kc, ks) Q := by
  refine w_ld rfl rfl (Or.inl ⟨by decide, rfl⟩) ?_
  refine w_ld rfl rfl (Or.inl ⟨by decide, rfl⟩) ?_
  exact w_if2 rfl c1 c2 k1 k2

theorem k625_5 {P : s_P} {d : Nat} {Q : s_O → Prop} {h : s_H} {kc ks : Nat} {x0 x1 : Int}  (k : wr P d sw_c625 sw_h625 (10, [vi x0, vi x1], [vi x0], h, kc, ks) Q)   : wr P d sw_c625 sw_h625 (5, [vi x0, vi x1], [], h, kc, ks) Q := by
  refine w_ld rfl rfl (Or.inl ⟨by decide, rfl⟩) ?_
  refine w_goto rfl ?_
  exact k

theorem k625_9 {P : s_P} {d : Nat} {Q : s_O → Prop} {h : s_H} {kc ks : Nat} {x0 x1 : Int}  (k : wr P d sw_c625 sw_h625 (10, [vi x0, vi x1], [vi x1], h, kc, ks) Q)   : wr P d sw_c625 sw_h625 (9, [vi x0, vi x1], [], h, kc, ks) Q := by
  refine w_ld rfl rfl (Or.inl ⟨by decide, rfl⟩) ?_
  exact k

theorem k625_10 {P : s_P} {d : Nat} {Q : s_O → Prop} {h : s_H} {kc ks : Nat} {x0 x1 s0 : Int}  (k : Q (.inl (some (vi s0)), h, kc, ks))   : wr P d sw_c625 sw_h625 (10, [vi x0, vi x1], [vi s0], h, kc, ks) Q := by
  exact w_iret rfl k

/-! 626: java/lang/Math.min(II)I -/
theorem k626_0 {P : s_P} {d : Nat} {Q : s_O → Prop} {h : s_H} {kc ks : Nat} {x0 x1 : Int}  (k1 : x1 < x0 → wr P d sw_c626 sw_h626 (9, [vi x0, vi x1], [], h, kc, ks) Q) (k2 : ¬ x1 < x0 → wr P d sw_c626 sw_h626 (5, [vi x0, vi x1], [], h, kc, ks) Q)  (c1 : In3 x0 := by first | omega | assumption | (simp only [mk_len, List.length_map]; omega) | decide) (c2 : In3 x1 := by first | omega | assumption | (simp only [mk_len, List.length_map]; omega) | decide) : wr P d sw_c626 sw_h626 (0, [vi x0, vi x1], [], h, kc, ks) Q := by
  refine w_ld rfl rfl (Or.inl ⟨by decide, rfl⟩) ?_
  refine w_ld rfl rfl (Or.inl ⟨by decide, rfl⟩) ?_
  exact w_if2 rfl c1 c2 k1 k2

theorem k626_5 {P : s_P} {d : Nat} {Q : s_O → Prop} {h : s_H} {kc ks : Nat} {x0 x1 : Int}  (k : wr P d sw_c626 sw_h626 (10, [vi x0, vi x1], [vi x0], h, kc, ks) Q)   : wr P d sw_c626 sw_h626 (5, [vi x0, vi x1], [], h, kc, ks) Q := by
  refine w_ld rfl rfl (Or.inl ⟨by decide, rfl⟩) ?_
  refine w_goto rfl ?_
  exact k

theorem k626_9 {P : s_P} {d : Nat} {Q : s_O → Prop} {h : s_H} {kc ks : Nat} {x0 x1 : Int}  (k : wr P d sw_c626 sw_h626 (10, [vi x0, vi x1], [vi x1], h, kc, ks) Q)   : wr P d sw_c626 sw_h626 (9, [vi x0, vi x1], [], h, kc, ks) Q := by
  refine w_ld rfl rfl (Or.inl ⟨by decide, rfl⟩) ?_
  exact k

theorem k626_10 {P : s_P} {d : Nat} {Q : s_O → Prop} {h : s_H} {kc ks : Nat} {x0 x1 s0 : Int}  (k : Q (.inl (some (vi s0)), h, kc, ks))   : wr P d sw_c626 sw_h626 (10, [vi x0, vi x1], [vi s0], h, kc, ks) Q := by
  exact w_iret rfl k

/-! 627: java/util/Arrays.checkLength(II)V -/
theorem k627_0 {P : s_P} {d : Nat} {Q : s_O → Prop} {h : s_H} {kc ks : Nat} {x0 x1 : Int}  (k1 : x0 ≤ x1 → wr P d sw_c627 sw_h627 (37, [vi x0, vi x1], [], h, kc, ks) Q) (k2 : ¬ x0 ≤ x1 → wr P d sw_c627 sw_h627 (5, [vi x0, vi x1], [], h, kc, ks) Q)  (c1 : In3 x1 := by first | omega | assumption | (simp only [mk_len, List.length_map]; omega) | decide) (c2 : In3 x0 := by first | omega | assumption | (simp only [mk_len, List.length_map]; omega) | decide) : wr P d sw_c627 sw_h627 (0, [vi x0, vi x1], [], h, kc, ks) Q := by
  refine w_ld rfl rfl (Or.inl ⟨by decide, rfl⟩) ?_
  refine w_ld rfl rfl (Or.inl ⟨by decide, rfl⟩) ?_
  exact w_if2 rfl c1 c2 k1 k2

theorem k627_5 {P : s_P} {d : Nat} {Q : s_O → Prop} {h : s_H} {kc ks : Nat} {x0 x1 : Int}  (k : Q (.inr 1, h, kc + 1, ks + 6))   : wr P d sw_c627 sw_h627 (5, [vi x0, vi x1], [], h, kc, ks) Q := by
  exact w_throw rfl (s_wt_4 rfl) k

theorem k627_37 {P : s_P} {d : Nat} {Q : s_O → Prop} {h : s_H} {kc ks : Nat} {x0 x1 : Int}  (k : Q (.inl none, h, kc, ks))   : wr P d sw_c627 sw_h627 (37, [vi x0, vi x1], [], h, kc, ks) Q := by
  exact w_ret rfl k

/-! 630: java/util/Arrays.copyOfRangeInt([III)[I -/
theorem k630_0 {P : s_P} {d : Nat} {Q : s_O → Prop} {h : s_H} {kc ks : Nat} {r0 : Term} {x1 x2 : Int} {t3 t4 : Term}  (k : wm P d 627 [vi x1, vi x2] h (wq P d sw_c630 sw_h630 5 [r0, vi x1, vi x2, t3, t4] [] kc ks Q))   : wr P d sw_c630 sw_h630 (0, [r0, vi x1, vi x2, t3, t4], [], h, kc, ks) Q := by
  refine w_ld rfl rfl (Or.inl ⟨by decide, rfl⟩) ?_
  refine w_ld rfl rfl (Or.inl ⟨by decide, rfl⟩) ?_
  exact w_cs rfl [vi x1, vi x2] [] rfl rfl (s_wt_4 rfl) k

theorem k630_5 {P : s_P} {d : Nat} {Q : s_O → Prop} {h : s_H} {kc ks : Nat} {r0 : Term} {x1 x2 : Int} {t3 t4 : Term} {fc1 : s_C} {q7 : Nat} {a8 : List Term} {tg10 : Nat} (g2 : s_get h (h).1 = some fc1) (g9 : s_get (hq h (0, 0, List.replicate (Int.toNat (x2 - x1)) (.int 0))) q7 = some (0, tg10, a8)) (k : wm P d 626 [vi ((a8.length : Int) - x1), vi (x2 - x1)] (hq h (0, 0, List.replicate (Int.toNat (x2 - x1)) (.int 0))) (wq P d sw_c630 sw_h630 27 [.index q7, vi x1, vi x2, vi (x2 - x1), .index h.1] [vi 0, .index h.1, vi x1, .index q7] (kc + 1) (ks + (Int.toNat (x2 - x1))) Q)) (e_q7 : r0 = .index q7 := by first | rfl | assumption) (y6 : s_ty r0 = 3 := by first | rfl | assumption) (c3 : x2 - x1 ≤ 60000000 := by first | omega | assumption | (simp only [mk_len, List.length_map]; omega) | decide) (c4 : In3 (x2 - x1) := by first | omega | assumption | (simp only [mk_len, List.length_map]; omega) | decide) (c5 : 0 ≤ x2 - x1 := by first | omega | assumption | (simp only [mk_len, List.length_map]; omega) | decide) : wr P d sw_c630 sw_h630 (5, [r0, vi x1, vi x2, t3, t4], [], h, kc, ks) Q := by
  refine w_ld rfl rfl (Or.inl ⟨by decide, rfl⟩) ?_
  refine w_ld rfl rfl (Or.inl ⟨by decide, rfl⟩) ?_
  refine w_isub rfl ?_
  refine w_st (ls' := [r0, vi x1, vi x2, vi (x2 - x1), t4]) rfl (Or.inl ⟨by decide, rfl⟩) rfl ?_
  refine w_ld rfl rfl (Or.inl ⟨by decide, rfl⟩) ?_
  refine w_newa rfl (by decide) g2 c4 c5 c3 (.int 0) rfl ?_
  refine w_st (ls' := [r0, vi x1, vi x2, vi (x2 - x1), .index h.1]) rfl (Or.inr ⟨by decide, rfl⟩) rfl ?_
  refine w_ld rfl rfl (Or.inr (Or.inr ⟨by decide, y6⟩)) ?_
  refine w_ld rfl rfl (Or.inl ⟨by decide, rfl⟩) ?_
  refine w_ld rfl rfl (Or.inr (Or.inr ⟨by decide, rfl⟩)) ?_
  refine w_c32 rfl (by decide) 0 (by decide) ?_
  refine w_ld rfl rfl (Or.inr (Or.inr ⟨by decide, y6⟩)) ?_
  subst e_q7
  refine w_alen rfl g9 (Or.inl rfl) ?_
  refine w_ld rfl rfl (Or.inl ⟨by decide, rfl⟩) ?_
  refine w_isub rfl ?_
  refine w_ld rfl rfl (Or.inl ⟨by decide, rfl⟩) ?_
  exact w_cs rfl [vi ((a8.length : Int) - x1), vi (x2 - x1)] [vi 0, .index h.1, vi x1, .index q7] rfl rfl (s_wt_4 rfl) k

theorem k630_30 {P : s_P} {d : Nat} {Q : s_O → Prop} {h : s_H} {kc ks : Nat} {r0 : Term} {x1 x2 x3 : Int} {r4 : Term}  (k : Q (.inl (some r4), h, kc, ks)) (y1 : s_ty r4 = 3 := by first | rfl | assumption)  : wr P d sw_c630 sw_h630 (30, [r0, vi x1, vi x2, vi x3, r4], [], h, kc, ks) Q := by
  refine w_ld rfl rfl (Or.inr (Or.inr ⟨by decide, y1⟩)) ?_
  exact w_aret rfl y1 k

/-! 631: java/util/Arrays.fill([II)V -/
theorem k631_0 {P : s_P} {d : Nat} {Q : s_O → Prop} {h : s_H} {kc ks : Nat} {r0 : Term} {x1 : Int} {t2 t3 : Term} {q2 : Nat} {a3 : List Term} {tg5 : Nat} (g4 : s_get h q2 = some (0, tg5, a3)) (k : wr P d sw_c631 sw_h631 (5, [.index q2, vi x1, vi 0, vi (a3.length : Int)], [], h, kc, ks) Q) (e_q2 : r0 = .index q2 := by first | rfl | assumption) (y1 : s_ty r0 = 3 := by first | rfl | assumption)  : wr P d sw_c631 sw_h631 (0, [r0, vi x1, t2, t3], [], h, kc, ks) Q := by
  refine w_c32 rfl (by decide) 0 (by decide) ?_
  refine w_st (ls' := [r0, vi x1, vi 0, t3]) rfl (Or.inl ⟨by decide, rfl⟩) rfl ?_
  refine w_ld rfl rfl (Or.inr (Or.inr ⟨by decide, y1⟩)) ?_
  subst e_q2
  refine w_alen rfl g4 (Or.inl rfl) ?_
  refine w_st (ls' := [.index q2, vi x1, vi 0, vi (a3.length : Int)]) rfl (Or.inl ⟨by decide, rfl⟩) rfl ?_
  exact k

theorem k631_5 {P : s_P} {d : Nat} {Q : s_O → Prop} {h : s_H} {kc ks : Nat} {r0 : Term} {x1 x2 x3 : Int}  (k1 : x3 ≤ x2 → wr P d sw_c631 sw_h631 (20, [r0, vi x1, vi x2, vi x3], [], h, kc, ks) Q) (k2 : ¬ x3 ≤ x2 → wr P d sw_c631 sw_h631 (10, [r0, vi x1, vi x2, vi x3], [], h, kc, ks) Q)  (c1 : In3 x2 := by first | omega | assumption | (simp only [mk_len, List.length_map]; omega) | decide) (c2 : In3 x3 := by first | omega | assumption | (simp only [mk_len, List.length_map]; omega) | decide) : wr P d sw_c631 sw_h631 (5, [r0, vi x1, vi x2, vi x3], [], h, kc, ks) Q := by
  refine w_ld rfl rfl (Or.inl ⟨by decide, rfl⟩) ?_
  refine w_ld rfl rfl (Or.inl ⟨by decide, rfl⟩) ?_
  exact w_if2 rfl c1 c2 k1 k2

theorem k631_10 {P : s_P} {d : Nat} {Q : s_O → Prop} {h : s_H} {kc ks : Nat} {r0 : Term} {x1 x2 x3 : Int} {q2 : Nat} {a3 : List Int} (g4 : s_get h q2 = some (0, 0, a3.map vi)) (k : wr P d sw_c631 sw_h631 (5, [.index q2, vi x1, vi (x2 + 1), vi x3], [], (hp h q2 (0, 0, (a3.set (Int.toNat (x2)) x1).map vi)), kc, ks) Q) (e_q2 : r0 = .index q2 := by first | rfl | assumption) (y1 : s_ty r0 = 3 := by first | rfl | assumption) (c5 : x2 < a3.length := by first | omega | assumption | (simp only [mk_len, List.length_map]; omega) | decide) (c6 : 0 ≤ x2 := by first | omega | assumption | (simp only [mk_len, List.length_map]; omega) | decide) (c7 : In3 x2 := by first | omega | assumption | (simp only [mk_len, List.length_map]; omega) | decide) (c8 : 0 < q2 := by first | omega | assumption | (simp only [mk_len, List.length_map]; omega) | decide) : wr P d sw_c631 sw_h631 (10, [r0, vi x1, vi x2, vi x3], [], h, kc, ks) Q := by
  refine w_ld rfl rfl (Or.inr (Or.inr ⟨by decide, y1⟩)) ?_
  refine w_ld rfl rfl (Or.inl ⟨by decide, rfl⟩) ?_
  refine w_ld rfl rfl (Or.inl ⟨by decide, rfl⟩) ?_
  subst e_q2
  refine w_iast rfl g4 (Nat.ble_eq_true_of_le c8) c7 c6 c5 ?_
  refine w_iinc (ls' := [.index q2, vi x1, vi (x2 + 1), vi x3]) rfl rfl 1 (by decide) rfl ?_
  refine w_goto rfl ?_
  exact k

theorem k631_20 {P : s_P} {d : Nat} {Q : s_O → Prop} {h : s_H} {kc ks : Nat} {r0 : Term} {x1 x2 x3 : Int}  (k : Q (.inl none, h, kc, ks))   : wr P d sw_c631 sw_h631 (20, [r0, vi x1, vi x2, vi x3], [], h, kc, ks) Q := by
  exact w_ret rfl k

