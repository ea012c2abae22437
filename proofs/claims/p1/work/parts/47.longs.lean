/-! THE CALLS THAT LOOK AT NUMBERS OF 64 BITS, AND fault -/
def sh_W : Term := .op2 .lor (.op2 .lshl (.op1 .i2l (.arg 1)) (.int 32)) (.op2 .land (.op1 .i2l (.arg 2)) (.long 4294967295))
def sh_R : Term := .op2 .lrem sh_W (.long 32003)
def sh_5g (v1 v2 v3 : Bool) : s_F := s_q1 1 (.op2 .lcmp (.op2 .lxor sh_W (.long 32003)) (.long 0)) (.int 0) v1 ++ (s_q1 0 (.op2 .lcmp sh_R (.long 0)) (.int 0) v2 ++ s_q1 1 (.op2 .lcmp sh_R (.long 0)) (.int 0) v3)
def sh_5c : List (Bool → s_F) := [s_q1 0 (.op1 .l2i sh_R) (.int 0), s_q1 0 (.op2 .lcmp (.op2 .ladd sh_R (.long 32003)) (.long 0)) (.int 0), s_q1 0 (.op1 .l2i (.op2 .ladd sh_R (.long 32003))) (.int 0)]
noncomputable def sh_5w (v1 v2 v3 : Bool) : Bool := sh_wl sh_5c (fun F => sh_en (sh_5g v1 v2 v3 ++ F) sh_ts 5)
theorem sh_5ttt : sh_5w true true true = true := by decide +kernel
theorem sh_5ttf : sh_5w true true false = true := by decide +kernel
theorem sh_5tft : sh_5w true false true = true := by decide +kernel
theorem sh_5tff : sh_5w true false false = true := by decide +kernel
theorem sh_5ftt : sh_5w false true true = true := by decide +kernel
theorem sh_5ftf : sh_5w false true false = true := by decide +kernel
theorem sh_5fft : sh_5w false false true = true := by decide +kernel
theorem sh_5fff : sh_5w false false false = true := by decide +kernel
def sh_0X (k : Int32) : Term := .op2 .lushr sh_W (.int k)
def sh_0b (k : Int32) : Bool → s_F := s_by (.op2 .land (sh_0X k) (.long 255))
def sh_0g (v1 v2 v3 : Bool) : s_F := sh_0b 56 v1 ++ (sh_0b 48 v2 ++ sh_0b 40 v3)
def sh_0c : List (Bool → s_F) := [sh_0b 32, sh_0b 24, sh_0b 16, sh_0b 8, sh_0b 0]
noncomputable def sh_0w (v1 v2 v3 : Bool) : Bool := sh_wl sh_0c (fun F => sh_en (sh_0g v1 v2 v3 ++ F) sh_ts 0)
theorem sh_0ttt : sh_0w true true true = true := by decide +kernel
theorem sh_0ttf : sh_0w true true false = true := by decide +kernel
theorem sh_0tft : sh_0w true false true = true := by decide +kernel
theorem sh_0tff : sh_0w true false false = true := by decide +kernel
theorem sh_0ftt : sh_0w false true true = true := by decide +kernel
theorem sh_0ftf : sh_0w false true false = true := by decide +kernel
theorem sh_0fft : sh_0w false false true = true := by decide +kernel
theorem sh_0fff : sh_0w false false false = true := by decide +kernel
theorem sh_2w : sh_wl [s_q1 0 (.arg 1) (.int 0), s_q1 0 (.arg 1) (.int 1)] (fun F => sh_en ([] ++ F) sh_ts 2) = true := by decide +kernel
section S47
variable {p : Program} {l : Launch} {e : Env} {s : State} {m : MethodId} {below : List Frame} {meth : Method} {c : Code} {b Ls : Nat} {xs : Nat → Int32} {dC : Nat → ClassId} {dI : Nat → Nat → Nat} {ad : List Nat} {H : Heap} {ls : Array Slot} {vs : List Value} {locs : List Loc}
theorem sh_op2 (C0 : s_At p s m meth c b Ls xs) (hflags : l.flags = flags0) (hK : s_KK dC dI s.heap.size s s.heap) (hS : s_SR s dC dI xs s.heap.size 7 ad sh_L [.int (Int32.ofNat 2)] (sh_H (2, 0, sh_ts)) H ls vs locs) : W p l e room_1 s m #[Value.ref b] below meth c H locs 1375 194968 (lw_Z below #[Value.ref b] s) (F0 m 39 ls vs) := by
  refine sh_op_wl s_FH_nil (fun g hg => ?_) sh_2w C0 hflags hK hS
  simp only [List.mem_cons, List.not_mem_nil, or_false] at hg
  rcases hg with rfl | rfl
  · exact s_q1_ok ⟨_, rfl⟩ ⟨_, rfl⟩
  · exact s_q1_ok ⟨_, rfl⟩ ⟨_, rfl⟩
theorem sh_op5 (C0 : s_At p s m meth c b Ls xs) (hflags : l.flags = flags0) (hK : s_KK dC dI s.heap.size s s.heap) (hS : s_SR s dC dI xs s.heap.size 7 ad sh_L [.int (Int32.ofNat 5)] (sh_H (2, 0, sh_ts)) H ls vs locs) : W p l e room_1 s m #[Value.ref b] below meth c H locs 1375 194968 (lw_Z below #[Value.ref b] s) (F0 m 39 ls vs) := by
  obtain ⟨v1, g1⟩ := s_q1_ok (ρ := xs) (c := 1) (a := .op2 .lcmp (.op2 .lxor sh_W (.long 32003)) (.long 0)) (b := .int 0) ⟨_, rfl⟩ ⟨_, rfl⟩
  obtain ⟨v2, g2⟩ := s_q1_ok (ρ := xs) (c := 0) (a := .op2 .lcmp sh_R (.long 0)) (b := .int 0) ⟨_, rfl⟩ ⟨_, rfl⟩
  obtain ⟨v3, g3⟩ := s_q1_ok (ρ := xs) (c := 1) (a := .op2 .lcmp sh_R (.long 0)) (b := .int 0) ⟨_, rfl⟩ ⟨_, rfl⟩
  have hk : sh_5w v1 v2 v3 = true := by
    cases v1 <;> cases v2 <;> cases v3
    · exact sh_5fff
    · exact sh_5fft
    · exact sh_5ftf
    · exact sh_5ftt
    · exact sh_5tff
    · exact sh_5tft
    · exact sh_5ttf
    · exact sh_5ttt
  refine sh_op_wl (gs := sh_5c) (G := sh_5g v1 v2 v3) (s_FH_app g1 (s_FH_app g2 g3)) (fun g hg => ?_) hk C0 hflags hK hS
  simp only [sh_5c, List.mem_cons, List.not_mem_nil, or_false] at hg
  rcases hg with rfl | rfl | rfl
  · exact s_q1_ok ⟨_, rfl⟩ ⟨_, rfl⟩
  · exact s_q1_ok ⟨_, rfl⟩ ⟨_, rfl⟩
  · exact s_q1_ok ⟨_, rfl⟩ ⟨_, rfl⟩
theorem sh_0b_ok {ρ : Nat → Int32} (k : Int32) : ∃ v, s_FH ρ (sh_0b k v) := s_by_ok ⟨_, rfl⟩
theorem sh_op0 (C0 : s_At p s m meth c b Ls xs) (hflags : l.flags = flags0) (hK : s_KK dC dI s.heap.size s s.heap) (hS : s_SR s dC dI xs s.heap.size 7 ad sh_L [.int (Int32.ofNat 0)] (sh_H (2, 0, sh_ts)) H ls vs locs) : W p l e room_1 s m #[Value.ref b] below meth c H locs 1375 194968 (lw_Z below #[Value.ref b] s) (F0 m 39 ls vs) := by
  obtain ⟨v1, g1⟩ := sh_0b_ok (ρ := xs) 56
  obtain ⟨v2, g2⟩ := sh_0b_ok (ρ := xs) 48
  obtain ⟨v3, g3⟩ := sh_0b_ok (ρ := xs) 40
  have hk : sh_0w v1 v2 v3 = true := by
    cases v1 <;> cases v2 <;> cases v3
    · exact sh_0fff
    · exact sh_0fft
    · exact sh_0ftf
    · exact sh_0ftt
    · exact sh_0tff
    · exact sh_0tft
    · exact sh_0ttf
    · exact sh_0ttt
  refine sh_op_wl (gs := sh_0c) (G := sh_0g v1 v2 v3) (s_FH_app g1 (s_FH_app g2 g3)) (fun g hg => ?_) hk C0 hflags hK hS
  simp only [sh_0c, List.mem_cons, List.not_mem_nil, or_false] at hg
  rcases hg with rfl | rfl | rfl | rfl | rfl
  · exact sh_0b_ok _
  · exact sh_0b_ok _
  · exact sh_0b_ok _
  · exact sh_0b_ok _
  · exact sh_0b_ok _
end S47
