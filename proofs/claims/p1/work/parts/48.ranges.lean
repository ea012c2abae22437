/-! matrix, enter, cell, get: by the numbers that they are given -/
theorem sh_38l : sh_en (s_fl 1 (Int32.ofNat 1) (Int64.ofNat 1)) sh_ts 38 = true := by decide +kernel
theorem sh_38u : sh_en (s_fu 1 (Int32.ofNat 1) (Int32.ofNat 4) (Int32.ofNat (4 + 1)) (Int64.ofNat 1) (Int64.ofNat 4)) sh_ts 38 = true := by decide +kernel
theorem sh_68l : sh_en (s_fl 1 (Int32.ofNat 0) (Int64.ofNat 0)) sh_ts 68 = true := by decide +kernel
theorem sh_68u : sh_en (s_fu 1 (Int32.ofNat 0) (Int32.ofNat 15) (Int32.ofNat (15 + 1)) (Int64.ofNat 0) (Int64.ofNat 15)) sh_ts 68 = true := by decide +kernel
theorem sh_69l : sh_en (s_fl 1 (Int32.ofNat 0) (Int64.ofNat 0)) sh_ts 69 = true := by decide +kernel
theorem sh_69u : sh_en (s_fu 1 (Int32.ofNat 0) (Int32.ofNat 15) (Int32.ofNat (15 + 1)) (Int64.ofNat 0) (Int64.ofNat 15)) sh_ts 69 = true := by decide +kernel
theorem sh_70l : sh_en (s_fl 1 (Int32.ofNat 0) (Int64.ofNat 0)) sh_ts 70 = true := by decide +kernel
theorem sh_70u : sh_en (s_fu 1 (Int32.ofNat 0) (Int32.ofNat 15) (Int32.ofNat (15 + 1)) (Int64.ofNat 0) (Int64.ofNat 15)) sh_ts 70 = true := by decide +kernel
noncomputable def sh_38m (j : Nat) : Bool := sh_en (s_fl 2 (Int32.ofNat 1) (Int64.ofNat 1)) (sh_a1 j) 38 && (sh_en (s_fu 2 (Int32.ofNat 1) (Int32.ofNat 4) (Int32.ofNat (4 + 1)) (Int64.ofNat 1) (Int64.ofNat 4)) (sh_a1 j) 38 && (List.range 4).all (fun i => sh_en [] (sh_a2 j (i + 1)) 38))
theorem sh_38n : (List.range 4).all (fun j => sh_38m (j + 1)) = true := by decide +kernel
noncomputable def sh_69m (j : Nat) : Bool := sh_en (s_fl 2 (Int32.ofNat 0) (Int64.ofNat 0)) (sh_a1 j) 69 && (sh_en (s_fu 2 (Int32.ofNat 0) (Int32.ofNat 3) (Int32.ofNat (3 + 1)) (Int64.ofNat 0) (Int64.ofNat 3)) (sh_a1 j) 69 && (List.range 4).all (fun i => sh_en [] (sh_a2 j i) 69))
theorem sh_69_0 : sh_69m 0 = true := by decide +kernel
theorem sh_69_1 : sh_69m 1 = true := by decide +kernel
theorem sh_69_2 : sh_69m 2 = true := by decide +kernel
theorem sh_69_3 : sh_69m 3 = true := by decide +kernel
theorem sh_69_4 : sh_69m 4 = true := by decide +kernel
theorem sh_69_5 : sh_69m 5 = true := by decide +kernel
theorem sh_69_6 : sh_69m 6 = true := by decide +kernel
theorem sh_69_7 : sh_69m 7 = true := by decide +kernel
theorem sh_69_8 : sh_69m 8 = true := by decide +kernel
theorem sh_69_9 : sh_69m 9 = true := by decide +kernel
theorem sh_69_10 : sh_69m 10 = true := by decide +kernel
theorem sh_69_11 : sh_69m 11 = true := by decide +kernel
theorem sh_69_12 : sh_69m 12 = true := by decide +kernel
theorem sh_69_13 : sh_69m 13 = true := by decide +kernel
theorem sh_69_14 : sh_69m 14 = true := by decide +kernel
theorem sh_69_15 : sh_69m 15 = true := by decide +kernel
theorem sh_70n : (List.range 16).all (fun j => sh_en [] (sh_a1 j) 70) = true := by decide +kernel
theorem sh_69n (j : Nat) (hj : j ≤ 15) : sh_69m j = true := by
  rcases (by omega : j = 0 ∨ j = 1 ∨ j = 2 ∨ j = 3 ∨ j = 4 ∨ j = 5 ∨ j = 6 ∨ j = 7 ∨ j = 8 ∨ j = 9 ∨ j = 10 ∨ j = 11 ∨ j = 12 ∨ j = 13 ∨ j = 14 ∨ j = 15) with rfl | rfl | rfl | rfl | rfl | rfl | rfl | rfl | rfl | rfl | rfl | rfl | rfl | rfl | rfl | rfl
  · exact sh_69_0
  · exact sh_69_1
  · exact sh_69_2
  · exact sh_69_3
  · exact sh_69_4
  · exact sh_69_5
  · exact sh_69_6
  · exact sh_69_7
  · exact sh_69_8
  · exact sh_69_9
  · exact sh_69_10
  · exact sh_69_11
  · exact sh_69_12
  · exact sh_69_13
  · exact sh_69_14
  · exact sh_69_15
section S48
variable {p : Program} {l : Launch} {e : Env} {s : State} {m : MethodId} {below : List Frame} {meth : Method} {c : Code} {b Ls : Nat} {xs : Nat → Int32} {dC : Nat → ClassId} {dI : Nat → Nat → Nat} {ad : List Nat} {H : Heap} {ls : Array Slot} {vs : List Value} {locs : List Loc}
theorem sh_op38 (C0 : s_At p s m meth c b Ls xs) (hflags : l.flags = flags0) (hK : s_KK dC dI s.heap.size s s.heap) (hS : s_SR s dC dI xs s.heap.size 7 ad sh_L [.int (Int32.ofNat 38)] (sh_H (2, 0, sh_ts)) H ls vs locs) : W p l e room_1 s m #[Value.ref b] below meth c H locs 1375 194968 (lw_Z below #[Value.ref b] s) (F0 m 39 ls vs) := by
  refine s_rngF (ρ := xs) (i := 1) 1 4 (by decide) (by decide) (fun h => sh_op_en h sh_38l C0 hflags hK hS) (fun h => sh_op_en h sh_38u C0 hflags hK hS) (fun j h1 h2 h3 => ?_)
  have hm := List.all_eq_true.mp sh_38n (j - 1) (List.mem_range.mpr (by omega))
  rw [show j - 1 + 1 = j by omega] at hm
  simp only [sh_38m, Bool.and_eq_true] at hm
  obtain ⟨m1, m2, m3⟩ := hm
  have hS1 := sh_re1 h3 hS
  refine s_rngF (ρ := xs) (i := 2) 1 4 (by decide) (by decide) (fun h => sh_op_en h m1 C0 hflags hK hS1) (fun h => sh_op_en h m2 C0 hflags hK hS1) (fun i g1 g2 g3 => ?_)
  have hn := List.all_eq_true.mp m3 (i - 1) (List.mem_range.mpr (by omega))
  rw [show i - 1 + 1 = i by omega] at hn
  exact sh_op_en s_FH_nil hn C0 hflags hK (sh_re2 g3 hS1)
theorem sh_op69 (C0 : s_At p s m meth c b Ls xs) (hflags : l.flags = flags0) (hK : s_KK dC dI s.heap.size s s.heap) (hS : s_SR s dC dI xs s.heap.size 7 ad sh_L [.int (Int32.ofNat 69)] (sh_H (2, 0, sh_ts)) H ls vs locs) : W p l e room_1 s m #[Value.ref b] below meth c H locs 1375 194968 (lw_Z below #[Value.ref b] s) (F0 m 39 ls vs) := by
  refine s_rngF (ρ := xs) (i := 1) 0 15 (by decide) (by decide) (fun h => sh_op_en h sh_69l C0 hflags hK hS) (fun h => sh_op_en h sh_69u C0 hflags hK hS) (fun j h1 h2 h3 => ?_)
  have hm := sh_69n j h2
  simp only [sh_69m, Bool.and_eq_true] at hm
  obtain ⟨m1, m2, m3⟩ := hm
  have hS1 := sh_re1 h3 hS
  refine s_rngF (ρ := xs) (i := 2) 0 3 (by decide) (by decide) (fun h => sh_op_en h m1 C0 hflags hK hS1) (fun h => sh_op_en h m2 C0 hflags hK hS1) (fun i g1 g2 g3 => ?_)
  have hn := List.all_eq_true.mp m3 i (List.mem_range.mpr (by omega))
  exact sh_op_en s_FH_nil hn C0 hflags hK (sh_re2 g3 hS1)
theorem sh_op70 (C0 : s_At p s m meth c b Ls xs) (hflags : l.flags = flags0) (hK : s_KK dC dI s.heap.size s s.heap) (hS : s_SR s dC dI xs s.heap.size 7 ad sh_L [.int (Int32.ofNat 70)] (sh_H (2, 0, sh_ts)) H ls vs locs) : W p l e room_1 s m #[Value.ref b] below meth c H locs 1375 194968 (lw_Z below #[Value.ref b] s) (F0 m 39 ls vs) := by
  refine s_rngF (ρ := xs) (i := 1) 0 15 (by decide) (by decide) (fun h => sh_op_en h sh_70l C0 hflags hK hS) (fun h => sh_op_en h sh_70u C0 hflags hK hS) (fun j h1 h2 h3 => ?_)
  have hn := List.all_eq_true.mp sh_70n j (List.mem_range.mpr (by omega))
  exact sh_op_en s_FH_nil hn C0 hflags hK (sh_re1 h3 hS)
end S48
