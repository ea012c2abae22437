theorem sh_2w : sh_wl [s_q1 0 (.arg 1) (.int 0), s_q1 0 (.arg 1) (.int 1)] (fun F => sh_en ([] ++ F) sh_ts 2) = true := by decide +kernel
section S47
variable {p : Program} {l : Launch} {e : Env} {s : State} {m : MethodId} {below : List Frame} {meth : Method} {c : Code} {b Ls : Nat} {xs : Nat → Int32} {dC : Nat → ClassId} {dI : Nat → Nat → Nat} {ad : List Nat} {H : Heap} {ls : Array Slot} {vs : List Value} {locs : List Loc}
theorem sh_op2 (C0 : s_At p s m meth c b Ls xs) (hflags : l.flags = flags0) (hK : s_KK dC dI s.heap.size s s.heap) (hS : s_SR s dC dI xs s.heap.size 7 ad sh_L [.int (Int32.ofNat 2)] (sh_H (2, 0, sh_ts)) H ls vs locs) : W p l e room_1 s m #[Value.ref b] below meth c H locs 1375 194968 (lw_Z below #[Value.ref b] s) (F0 m 39 ls vs) := by
  refine sh_op_wl s_FH_nil (fun g hg => ?_) sh_2w C0 hflags hK hS
  simp only [List.mem_cons, List.not_mem_nil, or_false] at hg
  rcases hg with rfl | rfl
  · exact s_q1_ok ⟨_, rfl⟩ ⟨_, rfl⟩
  · exact s_q1_ok ⟨_, rfl⟩ ⟨_, rfl⟩
theorem sh_op5 (C0 : s_At p s m meth c b Ls xs) (hflags : l.flags = flags0) (hK : s_KK dC dI s.heap.size s s.heap) (hS : s_SR s dC dI xs s.heap.size 7 ad sh_L [.int (Int32.ofNat 5)] (sh_H (2, 0, sh_ts)) H ls vs locs) : W p l e room_1 s m #[Value.ref b] below meth c H locs 1375 194968 (lw_Z below #[Value.ref b] s) (F0 m 39 ls vs) := by
  obtain ⟨v1, g1⟩ := s_q1_ok (ρ := xs) (c := 1) (a := .op2 .lcmp (.op2 .lxor sh_W (.long 32003)) (.long 0)) (b := .int 0) ⟨_, rfl⟩ ⟨_, rfl⟩
  obtain ⟨v2, g2⟩ := s_q1_ok (ρ := xs) (c := 0) (a := .op2 .lcmp sh_R (.long 0)) (b := .int 0) ⟨_, rfl⟩ ⟨_, rfl⟩
  obtain ⟨v3, g3⟩ := s_q1_ok (ρ := xs) (c := 1) (a := .op2 .lcmp sh_R (.long 0)) (b := .int 0) ⟨_, rfl⟩ ⟨_, rfl⟩
  have hk : sh_5w v1 v2 v3 = true := by
    cases v1 <;> cases v2 <;> cases v3
    · exact sh_5fff
    · exact sh_5fft
    · exact sh_5ftf
    · exact sh_5ftt
    · exact sh_5tff
    · exact sh_5tft
    · exact sh_5ttf
    · exact sh_5ttt
  refine sh_op_wl (gs := sh_5c) (G := sh_5g v1 v2 v3) (s_FH_app g1 (s_FH_app g2 g3)) (fun g hg => ?_) hk C0 hflags hK hS
  simp only [sh_5c, List.mem_cons, List.not_mem_nil, or_false] at hg
  rcases hg with rfl | rfl | rfl
  · exact s_q1_ok ⟨_, rfl⟩ ⟨_, rfl⟩
  · exact s_q1_ok ⟨_, rfl⟩ ⟨_, rfl⟩
  · exact s_q1_ok ⟨_, rfl⟩ ⟨_, rfl⟩
theorem sh_0b_ok {ρ : Nat → Int32} (k : Int32) : ∃ v, s_FH ρ (sh_0b k v) := s_by_ok ⟨_, rfl⟩
theorem sh_op0 (C0 : s_At p s m meth c b Ls xs) (hflags : l.flags = flags0) (hK : s_KK dC dI s.heap.size s s.heap) (hS : s_SR s dC dI xs s.heap.size 7 ad sh_L [.int (Int32.ofNat 0)] (sh_H (2, 0, sh_ts)) H ls vs locs) : W p l e room_1 s m #[Value.ref b] below meth c H locs 1375 194968 (lw_Z below #[Value.ref b] s) (F0 m 39 ls vs) := by
  obtain ⟨v1, g1⟩ := sh_0b_ok (ρ := xs) 56
  obtain ⟨v2, g2⟩ := sh_0b_ok (ρ := xs) 48
  obtain ⟨v3, g3⟩ := sh_0b_ok (ρ := xs) 40
  have hk : sh_0w v1 v2 v3 = true := by
    cases v1 <;> cases v2 <;> cases v3
    · exact sh_0fff
    · exact sh_0fft
    · exact sh_0ftf
    · exact sh_0ftt
    · exact sh_0tff
    · exact sh_0tft
    · exact sh_0ttf
    · exact sh_0ttt
  refine sh_op_wl (gs := sh_0c) (G := sh_0g v1 v2 v3) (s_FH_app g1 (s_FH_app g2 g3)) (fun g hg => ?_) hk C0 hflags hK hS
  simp only [sh_0c, List.mem_cons, List.not_mem_nil, or_false] at hg
  rcases hg with rfl | rfl | rfl | rfl | rfl
  · exact sh_0b_ok _
  · exact sh_0b_ok _
  · exact sh_0b_ok _
  · exact sh_0b_ok _
  · exact sh_0b_ok _
end S47
