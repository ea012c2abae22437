theorem sh_68n (j : Nat) (hj : j ≤ 15) : sh_en [] (sh_a1 j) 68 = true := by
  rcases (by omega : j = 0 ∨ j = 1 ∨ j = 2 ∨ j = 3 ∨ j = 4 ∨ j = 5 ∨ j = 6 ∨ j = 7 ∨ j = 8 ∨ j = 9 ∨ j = 10 ∨ j = 11 ∨ j = 12 ∨ j = 13 ∨ j = 14 ∨ j = 15) with rfl | rfl | rfl | rfl | rfl | rfl | rfl | rfl | rfl | rfl | rfl | rfl | rfl | rfl | rfl | rfl
  · exact sh_68_0
  · exact sh_68_1
  · exact sh_68_2
  · exact sh_68_3
  · exact sh_68_4
  · exact sh_68_5
  · exact sh_68_6
  · exact sh_68_7
  · exact sh_68_8
  · exact sh_68_9
  · exact sh_68_10
  · exact sh_68_11
  · exact sh_68_12
  · exact sh_68_13
  · exact sh_68_14
  · exact sh_68_15
section S49
variable {p : Program} {l : Launch} {e : Env} {s : State} {m : MethodId} {below : List Frame} {meth : Method} {c : Code} {b Ls : Nat} {xs : Nat → Int32} {dC : Nat → ClassId} {dI : Nat → Nat → Nat} {ad : List Nat} {H : Heap} {ls : Array Slot} {vs : List Value} {locs : List Loc}
theorem sh_op68 (C0 : s_At p s m meth c b Ls xs) (hflags : l.flags = flags0) (hK : s_KK dC dI s.heap.size s s.heap) (hS : s_SR s dC dI xs s.heap.size 7 ad sh_L [.int (Int32.ofNat 68)] (sh_H (2, 0, sh_ts)) H ls vs locs) : W p l e room_1 s m #[Value.ref b] below meth c H locs 1375 194968 (lw_Z below #[Value.ref b] s) (F0 m 39 ls vs) := by
  refine s_rngF (ρ := xs) (i := 1) 0 15 (by decide) (by decide) (fun h => sh_op_en h sh_68l C0 hflags hK hS) (fun h => sh_op_en h sh_68u C0 hflags hK hS) (fun j h1 h2 h3 => ?_)
  exact sh_op_en s_FH_nil (sh_68n j h2) C0 hflags hK (sh_re1 h3 hS)
end S49
