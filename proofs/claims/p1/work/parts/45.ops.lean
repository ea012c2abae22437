/-! THE CALLS THAT LOOK AT SIGNS ALONE -/
theorem s_all2 {f : Bool → Bool} (h : [true, false].all f = true) (b : Bool) : f b = true := by
  cases b <;> simp_all
section S45
variable {p : Program} {l : Launch} {e : Env} {s : State} {m : MethodId} {below : List Frame} {meth : Method} {c : Code} {b Ls : Nat} {xs : Nat → Int32} {dC : Nat → ClassId} {dI : Nat → Nat → Nat} {ad : List Nat} {H : Heap} {ls : Array Slot} {vs : List Value} {locs : List Loc}
theorem sh_op_go {F : s_F} {ts : List Term} {k : Nat} (C0 : s_At p s m meth c b Ls xs) (hflags : l.flags = flags0) (hK : s_KK dC dI s.heap.size s s.heap) (hF : s_FH xs F) (hk : s_ends 5153 600006 7302064 (sh_go F ts k) = true) (hS : s_SR s dC dI xs s.heap.size 7 ad sh_L [.int (Int32.ofNat k)] (sh_H (2, 0, ts)) H ls vs locs) : W p l e room_1 s m #[Value.ref b] below meth c H locs 1375 194968 (lw_Z below #[Value.ref b] s) (F0 m 39 ls vs) :=
  s_law_go (n := 300) C0 hflags hK hF hk hS
theorem sh_op_sg {k : Nat} (hk : sh_sg k = true) (C0 : s_At p s m meth c b Ls xs) (hflags : l.flags = flags0) (hK : s_KK dC dI s.heap.size s s.heap) (hS : s_SR s dC dI xs s.heap.size 7 ad sh_L [.int (Int32.ofNat k)] (sh_H (2, 0, sh_tn 4)) H ls vs locs) : W p l e room_1 s m #[Value.ref b] below meth c H locs 1375 194968 (lw_Z below #[Value.ref b] s) (F0 m 39 ls vs) :=
  sh_op_go (ts := sh_ts) C0 hflags hK (s_FH_app (s_fs_ok xs 1) (s_FH_app (s_fs_ok xs 2) (s_fs_ok xs 3))) (s_all2 (s_all2 (s_all2 hk _) _) _) hS
theorem sh_op_no {k : Nat} (h1 : 78 ≤ k) (h2 : k < 128) (C0 : s_At p s m meth c b Ls xs) (hflags : l.flags = flags0) (hK : s_KK dC dI s.heap.size s s.heap) (hS : s_SR s dC dI xs s.heap.size 7 ad sh_L [.int (Int32.ofNat k)] (sh_H (2, 0, sh_tn 4)) H ls vs locs) : W p l e room_1 s m #[Value.ref b] below meth c H locs 1375 194968 (lw_Z below #[Value.ref b] s) (F0 m 39 ls vs) := by
  refine sh_op_go (ts := sh_ts) C0 hflags hK s_FH_nil ?_ hS
  by_cases h : k < 103
  · have := List.all_eq_true.mp sh_sgR (k - 78) (List.mem_range.mpr (by omega))
    rwa [show 78 + (k - 78) = k by omega] at this
  · have := List.all_eq_true.mp sh_sgS (k - 103) (List.mem_range.mpr (by omega))
    rwa [show 103 + (k - 103) = k by omega] at this
end S45
