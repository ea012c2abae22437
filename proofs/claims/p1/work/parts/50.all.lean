/-! ANY CALL -/
section S50
variable {p : Program} {l : Launch} {e : Env} {s : State} {m : MethodId} {below : List Frame} {meth : Method} {c : Code} {b Ls : Nat} {xs : Nat → Int32} {dC : Nat → ClassId} {dI : Nat → Nat → Nat} {ad : List Nat} {H : Heap} {ls : Array Slot} {vs : List Value} {locs : List Loc}
theorem sh_all0 {k : Nat} (h1 : 0 ≤ k) (h2 : k < 20) (C0 : s_At p s m meth c b Ls xs) (hflags : l.flags = flags0) (hK : s_KK dC dI s.heap.size s s.heap) (hS : s_SR s dC dI xs s.heap.size 7 ad sh_L [.int (Int32.ofNat k)] (sh_H (2, 0, sh_ts)) H ls vs locs) : W p l e room_1 s m #[Value.ref b] below meth c H locs 1375 194968 (lw_Z below #[Value.ref b] s) (F0 m 39 ls vs) := by
  rcases (by omega : k = 0 ∨ k = 1 ∨ k = 2 ∨ k = 3 ∨ k = 4 ∨ k = 5 ∨ k = 6 ∨ k = 7 ∨ k = 8 ∨ k = 9 ∨ k = 10 ∨ k = 11 ∨ k = 12 ∨ k = 13 ∨ k = 14 ∨ k = 15 ∨ k = 16 ∨ k = 17 ∨ k = 18 ∨ k = 19) with rfl | rfl | rfl | rfl | rfl | rfl | rfl | rfl | rfl | rfl | rfl | rfl | rfl | rfl | rfl | rfl | rfl | rfl | rfl | rfl
  · exact sh_op0 C0 hflags hK hS
  · exact sh_op_sg sh_sg1 C0 hflags hK hS
  · exact sh_op2 C0 hflags hK hS
  · exact sh_op_sg sh_sg3 C0 hflags hK hS
  · exact sh_op_sg sh_sg4 C0 hflags hK hS
  · exact sh_op5 C0 hflags hK hS
  · exact sh_op_sg sh_sg6 C0 hflags hK hS
  · exact sh_op_sg sh_sg7 C0 hflags hK hS
  · exact sh_op_sg sh_sg8 C0 hflags hK hS
  · exact sh_op_sg sh_sg9 C0 hflags hK hS
  · exact sh_op_sg sh_sg10 C0 hflags hK hS
  · exact sh_op_sg sh_sg11 C0 hflags hK hS
  · exact sh_op_sg sh_sg12 C0 hflags hK hS
  · exact sh_op_sg sh_sg13 C0 hflags hK hS
  · exact sh_op_sg sh_sg14 C0 hflags hK hS
  · exact sh_op_sg sh_sg15 C0 hflags hK hS
  · exact sh_op_sg sh_sg16 C0 hflags hK hS
  · exact sh_op_sg sh_sg17 C0 hflags hK hS
  · exact sh_op_sg sh_sg18 C0 hflags hK hS
  · exact sh_op_sg sh_sg19 C0 hflags hK hS
theorem sh_all20 {k : Nat} (h1 : 20 ≤ k) (h2 : k < 40) (C0 : s_At p s m meth c b Ls xs) (hflags : l.flags = flags0) (hK : s_KK dC dI s.heap.size s s.heap) (hS : s_SR s dC dI xs s.heap.size 7 ad sh_L [.int (Int32.ofNat k)] (sh_H (2, 0, sh_ts)) H ls vs locs) : W p l e room_1 s m #[Value.ref b] below meth c H locs 1375 194968 (lw_Z below #[Value.ref b] s) (F0 m 39 ls vs) := by
  rcases (by omega : k = 20 ∨ k = 21 ∨ k = 22 ∨ k = 23 ∨ k = 24 ∨ k = 25 ∨ k = 26 ∨ k = 27 ∨ k = 28 ∨ k = 29 ∨ k = 30 ∨ k = 31 ∨ k = 32 ∨ k = 33 ∨ k = 34 ∨ k = 35 ∨ k = 36 ∨ k = 37 ∨ k = 38 ∨ k = 39) with rfl | rfl | rfl | rfl | rfl | rfl | rfl | rfl | rfl | rfl | rfl | rfl | rfl | rfl | rfl | rfl | rfl | rfl | rfl | rfl
  · exact sh_op_sg sh_sg20 C0 hflags hK hS
  · exact sh_op_sg sh_sg21 C0 hflags hK hS
  · exact sh_op_sg sh_sg22 C0 hflags hK hS
  · exact sh_op_sg sh_sg23 C0 hflags hK hS
  · exact sh_op_sg sh_sg24 C0 hflags hK hS
  · exact sh_op_sg sh_sg25 C0 hflags hK hS
  · exact sh_op_sg sh_sg26 C0 hflags hK hS
  · exact sh_op_sg sh_sg27 C0 hflags hK hS
  · exact sh_op_sg sh_sg28 C0 hflags hK hS
  · exact sh_op_sg sh_sg29 C0 hflags hK hS
  · exact sh_op_sg sh_sg30 C0 hflags hK hS
  · exact sh_op_sg sh_sg31 C0 hflags hK hS
  · exact sh_op_sg sh_sg32 C0 hflags hK hS
  · exact sh_op_sg sh_sg33 C0 hflags hK hS
  · exact sh_op_sg sh_sg34 C0 hflags hK hS
  · exact sh_op_sg sh_sg35 C0 hflags hK hS
  · exact sh_op_sg sh_sg36 C0 hflags hK hS
  · exact sh_op_sg sh_sg37 C0 hflags hK hS
  · exact sh_op38 C0 hflags hK hS
  · exact sh_op_sg sh_sg39 C0 hflags hK hS
theorem sh_all40 {k : Nat} (h1 : 40 ≤ k) (h2 : k < 60) (C0 : s_At p s m meth c b Ls xs) (hflags : l.flags = flags0) (hK : s_KK dC dI s.heap.size s s.heap) (hS : s_SR s dC dI xs s.heap.size 7 ad sh_L [.int (Int32.ofNat k)] (sh_H (2, 0, sh_ts)) H ls vs locs) : W p l e room_1 s m #[Value.ref b] below meth c H locs 1375 194968 (lw_Z below #[Value.ref b] s) (F0 m 39 ls vs) := by
  rcases (by omega : k = 40 ∨ k = 41 ∨ k = 42 ∨ k = 43 ∨ k = 44 ∨ k = 45 ∨ k = 46 ∨ k = 47 ∨ k = 48 ∨ k = 49 ∨ k = 50 ∨ k = 51 ∨ k = 52 ∨ k = 53 ∨ k = 54 ∨ k = 55 ∨ k = 56 ∨ k = 57 ∨ k = 58 ∨ k = 59) with rfl | rfl | rfl | rfl | rfl | rfl | rfl | rfl | rfl | rfl | rfl | rfl | rfl | rfl | rfl | rfl | rfl | rfl | rfl | rfl
  · exact sh_op_sg sh_sg40 C0 hflags hK hS
  · exact sh_op_sg sh_sg41 C0 hflags hK hS
  · exact sh_op_sg sh_sg42 C0 hflags hK hS
  · exact sh_op_sg sh_sg43 C0 hflags hK hS
  · exact sh_op_sg sh_sg44 C0 hflags hK hS
  · exact sh_op_sg sh_sg45 C0 hflags hK hS
  · exact sh_op_sg sh_sg46 C0 hflags hK hS
  · exact sh_op_sg sh_sg47 C0 hflags hK hS
  · exact sh_op_sg sh_sg48 C0 hflags hK hS
  · exact sh_op_sg sh_sg49 C0 hflags hK hS
  · exact sh_op_sg sh_sg50 C0 hflags hK hS
  · exact sh_op_sg sh_sg51 C0 hflags hK hS
  · exact sh_op_sg sh_sg52 C0 hflags hK hS
  · exact sh_op_sg sh_sg53 C0 hflags hK hS
  · exact sh_op_sg sh_sg54 C0 hflags hK hS
  · exact sh_op_sg sh_sg55 C0 hflags hK hS
  · exact sh_op_sg sh_sg56 C0 hflags hK hS
  · exact sh_op_sg sh_sg57 C0 hflags hK hS
  · exact sh_op_sg sh_sg58 C0 hflags hK hS
  · exact sh_op_sg sh_sg59 C0 hflags hK hS
theorem sh_all60 {k : Nat} (h1 : 60 ≤ k) (h2 : k < 78) (C0 : s_At p s m meth c b Ls xs) (hflags : l.flags = flags0) (hK : s_KK dC dI s.heap.size s s.heap) (hS : s_SR s dC dI xs s.heap.size 7 ad sh_L [.int (Int32.ofNat k)] (sh_H (2, 0, sh_ts)) H ls vs locs) : W p l e room_1 s m #[Value.ref b] below meth c H locs 1375 194968 (lw_Z below #[Value.ref b] s) (F0 m 39 ls vs) := by
  rcases (by omega : k = 60 ∨ k = 61 ∨ k = 62 ∨ k = 63 ∨ k = 64 ∨ k = 65 ∨ k = 66 ∨ k = 67 ∨ k = 68 ∨ k = 69 ∨ k = 70 ∨ k = 71 ∨ k = 72 ∨ k = 73 ∨ k = 74 ∨ k = 75 ∨ k = 76 ∨ k = 77) with rfl | rfl | rfl | rfl | rfl | rfl | rfl | rfl | rfl | rfl | rfl | rfl | rfl | rfl | rfl | rfl | rfl | rfl
  · exact sh_op_sg sh_sg60 C0 hflags hK hS
  · exact sh_op_sg sh_sg61 C0 hflags hK hS
  · exact sh_op_sg sh_sg62 C0 hflags hK hS
  · exact sh_op_sg sh_sg63 C0 hflags hK hS
  · exact sh_op_sg sh_sg64 C0 hflags hK hS
  · exact sh_op_sg sh_sg65 C0 hflags hK hS
  · exact sh_op_sg sh_sg66 C0 hflags hK hS
  · exact sh_op_sg sh_sg67 C0 hflags hK hS
  · exact sh_op68 C0 hflags hK hS
  · exact sh_op69 C0 hflags hK hS
  · exact sh_op70 C0 hflags hK hS
  · exact sh_op_sg sh_sg71 C0 hflags hK hS
  · exact sh_op_sg sh_sg72 C0 hflags hK hS
  · exact sh_op_sg sh_sg73 C0 hflags hK hS
  · exact sh_op_sg sh_sg74 C0 hflags hK hS
  · exact sh_op_sg sh_sg75 C0 hflags hK hS
  · exact sh_op_sg sh_sg76 C0 hflags hK hS
  · exact sh_op_sg sh_sg77 C0 hflags hK hS
theorem sh_all {k : Nat} (hk : k < 128) (C0 : s_At p s m meth c b Ls xs) (hflags : l.flags = flags0) (hK : s_KK dC dI s.heap.size s s.heap) (hS : s_SR s dC dI xs s.heap.size 7 ad sh_L [.int (Int32.ofNat k)] (sh_H (2, 0, sh_ts)) H ls vs locs) : W p l e room_1 s m #[Value.ref b] below meth c H locs 1375 194968 (lw_Z below #[Value.ref b] s) (F0 m 39 ls vs) := by
  by_cases h1 : k < 20
  · exact sh_all0 (Nat.zero_le _) h1 C0 hflags hK hS
  · by_cases h2 : k < 40
    · exact sh_all20 (by omega) h2 C0 hflags hK hS
    · by_cases h3 : k < 60
      · exact sh_all40 (by omega) h3 C0 hflags hK hS
      · by_cases h4 : k < 78
        · exact sh_all60 (by omega) h4 C0 hflags hK hS
        · exact sh_op_no (by omega) hk C0 hflags hK hS
end S50
