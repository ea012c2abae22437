/-! ONE CALL ON A FRESH OBJECT: the signs of what the script gives, and the calls that look at nothing else -/
def s_fs (i : Nat) (s : Bool) : s_F := [((1, .arg i, .int 0), s), ((1, .op2 .lcmp (.op1 .i2l (.arg i)) (.long 0), .int 0), s), ((1, .int 0, .op2 .lcmp (.op1 .i2l (.arg i)) (.long (-1))), !s)]
theorem s_i2l_lt (x : Int32) (n : Int64) : (x.toInt64 < n) = (x.toInt < n.toInt) := by
  rw [Int64.lt_iff_toInt_lt, Int32.toInt_toInt64]
theorem s_cmp_lt0 (a b : Int64) : decide (lg_cmp a b < 0) = decide (a < b) := by
  unfold lg_cmp
  rcases lg_tri a b with h | h | h
  · simp [h, lg_lt_not h, lg_lt_ne h]
  · subst h; simp
  · simp [h, lg_lt_not h, lg_lt_ne h]
theorem s_cmp_gt0 (a b : Int64) : decide (0 < lg_cmp a b) = decide (b < a) := by
  unfold lg_cmp
  rcases lg_tri a b with h | h | h
  · simp [h, lg_lt_not h, lg_lt_ne h]
  · subst h; simp
  · simp [h, lg_lt_not h, lg_lt_ne h]
theorem s_fs_ok (ρ : Nat → Int32) (i : Nat) : s_FH ρ (s_fs i (decide (ρ i < 0))) := by
  intro q hq ad x y hx hy
  simp only [s_fs, List.mem_cons, List.not_mem_nil, or_false] at hq
  have e : decide ((ρ i).toInt64 < 0) = decide (ρ i < 0) := by
    apply decide_eq_decide.mpr
    rw [Int64.lt_iff_toInt_lt, Int32.lt_iff_toInt_lt, Int32.toInt_toInt64]
    rfl
  have e2 : decide ((-1 : Int64) < (ρ i).toInt64) = !decide (ρ i < 0) := by
    rw [← decide_not]
    apply decide_eq_decide.mpr
    rw [Int64.lt_iff_toInt_lt, Int32.lt_iff_toInt_lt, Int32.toInt_toInt64]
    show (-1 : Int) < _ ↔ ¬ (_ < (0 : Int))
    omega
  rcases hq with rfl | rfl | rfl
  · cases hx; cases hy; rfl
  · cases hx; cases hy
    show decide (lg_cmp (ρ i).toInt64 0 < 0) = _
    rw [s_cmp_lt0, e]
  · cases hx; cases hy
    show decide (0 < lg_cmp (ρ i).toInt64 (-1)) = _
    rw [s_cmp_gt0, e2]
theorem s_FH_app {ρ : Nat → Int32} {F G : s_F} (h1 : s_FH ρ F) (h2 : s_FH ρ G) : s_FH ρ (F ++ G) := fun q hq => (List.mem_append.mp hq).elim (h1 q) (h2 q)
theorem s_FH_nil {ρ : Nat → Int32} : s_FH ρ [] := fun q hq => by cases hq
/-- the run from the switch, with the call's number on the stack -/
noncomputable def sh_go (F : s_F) (ts : List Term) (k : Nat) : Option s_S := s_runT F s_df s_comp (sh_call F) sg_cL sg_hL 5153 300 (39, sh_L, [.int (Int32.ofNat k)], sh_H (2, 0, ts), 1375, 194968)
def sh_ts : List Term := [.arg 0, .arg 1, .arg 2, .arg 3]
noncomputable def sh_sg (k : Nat) : Bool := [true, false].all (fun s1 => [true, false].all (fun s2 => [true, false].all (fun s3 => s_ends 5153 600006 7302064 (sh_go (s_fs 1 s1 ++ (s_fs 2 s2 ++ s_fs 3 s3)) sh_ts k))))
theorem sh_sg1 : sh_sg 1 = true := by decide +kernel
theorem sh_sg3 : sh_sg 3 = true := by decide +kernel
theorem sh_sg4 : sh_sg 4 = true := by decide +kernel
theorem sh_sg6 : sh_sg 6 = true := by decide +kernel
theorem sh_sg7 : sh_sg 7 = true := by decide +kernel
theorem sh_sg8 : sh_sg 8 = true := by decide +kernel
theorem sh_sg9 : sh_sg 9 = true := by decide +kernel
theorem sh_sg10 : sh_sg 10 = true := by decide +kernel
theorem sh_sg11 : sh_sg 11 = true := by decide +kernel
theorem sh_sg12 : sh_sg 12 = true := by decide +kernel
theorem sh_sg13 : sh_sg 13 = true := by decide +kernel
theorem sh_sg14 : sh_sg 14 = true := by decide +kernel
theorem sh_sg15 : sh_sg 15 = true := by decide +kernel
theorem sh_sg16 : sh_sg 16 = true := by decide +kernel
theorem sh_sg17 : sh_sg 17 = true := by decide +kernel
theorem sh_sg18 : sh_sg 18 = true := by decide +kernel
theorem sh_sg19 : sh_sg 19 = true := by decide +kernel
theorem sh_sg20 : sh_sg 20 = true := by decide +kernel
theorem sh_sg21 : sh_sg 21 = true := by decide +kernel
theorem sh_sg22 : sh_sg 22 = true := by decide +kernel
theorem sh_sg23 : sh_sg 23 = true := by decide +kernel
theorem sh_sg24 : sh_sg 24 = true := by decide +kernel
theorem sh_sg25 : sh_sg 25 = true := by decide +kernel
theorem sh_sg26 : sh_sg 26 = true := by decide +kernel
theorem sh_sg27 : sh_sg 27 = true := by decide +kernel
theorem sh_sg28 : sh_sg 28 = true := by decide +kernel
theorem sh_sg29 : sh_sg 29 = true := by decide +kernel
theorem sh_sg30 : sh_sg 30 = true := by decide +kernel
theorem sh_sg31 : sh_sg 31 = true := by decide +kernel
theorem sh_sg32 : sh_sg 32 = true := by decide +kernel
theorem sh_sg33 : sh_sg 33 = true := by decide +kernel
theorem sh_sg34 : sh_sg 34 = true := by decide +kernel
theorem sh_sg35 : sh_sg 35 = true := by decide +kernel
theorem sh_sg36 : sh_sg 36 = true := by decide +kernel
theorem sh_sg37 : sh_sg 37 = true := by decide +kernel
theorem sh_sg39 : sh_sg 39 = true := by decide +kernel
theorem sh_sg40 : sh_sg 40 = true := by decide +kernel
theorem sh_sg41 : sh_sg 41 = true := by decide +kernel
theorem sh_sg42 : sh_sg 42 = true := by decide +kernel
theorem sh_sg43 : sh_sg 43 = true := by decide +kernel
theorem sh_sg44 : sh_sg 44 = true := by decide +kernel
theorem sh_sg45 : sh_sg 45 = true := by decide +kernel
theorem sh_sg46 : sh_sg 46 = true := by decide +kernel
theorem sh_sg47 : sh_sg 47 = true := by decide +kernel
theorem sh_sg48 : sh_sg 48 = true := by decide +kernel
theorem sh_sg49 : sh_sg 49 = true := by decide +kernel
theorem sh_sg50 : sh_sg 50 = true := by decide +kernel
theorem sh_sg51 : sh_sg 51 = true := by decide +kernel
theorem sh_sg52 : sh_sg 52 = true := by decide +kernel
theorem sh_sg53 : sh_sg 53 = true := by decide +kernel
theorem sh_sg54 : sh_sg 54 = true := by decide +kernel
theorem sh_sg55 : sh_sg 55 = true := by decide +kernel
theorem sh_sg56 : sh_sg 56 = true := by decide +kernel
theorem sh_sg57 : sh_sg 57 = true := by decide +kernel
theorem sh_sg58 : sh_sg 58 = true := by decide +kernel
theorem sh_sg59 : sh_sg 59 = true := by decide +kernel
theorem sh_sg60 : sh_sg 60 = true := by decide +kernel
theorem sh_sg61 : sh_sg 61 = true := by decide +kernel
theorem sh_sg62 : sh_sg 62 = true := by decide +kernel
theorem sh_sg63 : sh_sg 63 = true := by decide +kernel
theorem sh_sg64 : sh_sg 64 = true := by decide +kernel
theorem sh_sg65 : sh_sg 65 = true := by decide +kernel
theorem sh_sg66 : sh_sg 66 = true := by decide +kernel
theorem sh_sg67 : sh_sg 67 = true := by decide +kernel
theorem sh_sg71 : sh_sg 71 = true := by decide +kernel
theorem sh_sg72 : sh_sg 72 = true := by decide +kernel
theorem sh_sg73 : sh_sg 73 = true := by decide +kernel
theorem sh_sg74 : sh_sg 74 = true := by decide +kernel
theorem sh_sg75 : sh_sg 75 = true := by decide +kernel
theorem sh_sg76 : sh_sg 76 = true := by decide +kernel
theorem sh_sg77 : sh_sg 77 = true := by decide +kernel
theorem sh_sgR : (List.range 25).all (fun j => s_ends 5153 600006 7302064 (sh_go [] sh_ts (78 + j))) = true := by decide +kernel
theorem sh_sgS : (List.range 25).all (fun j => s_ends 5153 600006 7302064 (sh_go [] sh_ts (103 + j))) = true := by decide +kernel
