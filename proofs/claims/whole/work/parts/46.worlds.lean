/-! WORLDS: facts by ranges, and all worlds of some conditions -/
def s_fl (i : Nat) (l : Int32) (L : Int64) : s_F := [((1, .arg i, .int l), true), ((1, .op2 .lcmp (.op1 .i2l (.arg i)) (.long L), .int 0), true)]
def s_fu (i : Nat) (l u u1 : Int32) (L U : Int64) : s_F := [((1, .arg i, .int l), false), ((1, .arg i, .int u1), false), ((1, .int u, .arg i), true), ((1, .op2 .lcmp (.op1 .i2l (.arg i)) (.long L), .int 0), false), ((1, .int 0, .op2 .lcmp (.op1 .i2l (.arg i)) (.long U)), true)]
theorem s_fl_ok {ρ : Nat → Int32} {i : Nat} {l : Int32} {L : Int64} (hL : L.toInt = l.toInt) (h : (ρ i).toInt < l.toInt) : s_FH ρ (s_fl i l L) := by
  intro q hq ad x y hx hy
  simp only [s_fl, List.mem_cons, List.not_mem_nil, or_false] at hq
  rcases hq with rfl | rfl
  · cases hx; cases hy
    show decide (ρ i < l) = true
    exact decide_eq_true (Int32.lt_iff_toInt_lt.mpr h)
  · cases hx; cases hy
    show decide (lg_cmp (ρ i).toInt64 L < 0) = true
    rw [s_cmp_lt0]
    exact decide_eq_true (Int64.lt_iff_toInt_lt.mpr (by rw [Int32.toInt_toInt64, hL]; exact h))
theorem s_fu_ok {ρ : Nat → Int32} {i : Nat} {l u u1 : Int32} {L U : Int64} (hL : L.toInt = l.toInt) (hU : U.toInt = u.toInt) (h1 : u1.toInt = u.toInt + 1) (hlu : l.toInt ≤ u.toInt) (h : u.toInt < (ρ i).toInt) : s_FH ρ (s_fu i l u u1 L U) := by
  intro q hq ad x y hx hy
  simp only [s_fu, List.mem_cons, List.not_mem_nil, or_false] at hq
  rcases hq with rfl | rfl | rfl | rfl | rfl
  · cases hx; cases hy
    show decide (ρ i < l) = false
    exact decide_eq_false (fun z => by have := Int32.lt_iff_toInt_lt.mp z; omega)
  · cases hx; cases hy
    show decide (ρ i < u1) = false
    exact decide_eq_false (fun z => by have := Int32.lt_iff_toInt_lt.mp z; omega)
  · cases hx; cases hy
    show decide (u < ρ i) = true
    exact decide_eq_true (Int32.lt_iff_toInt_lt.mpr h)
  · cases hx; cases hy
    show decide (lg_cmp (ρ i).toInt64 L < 0) = false
    rw [s_cmp_lt0]
    exact decide_eq_false (fun z => by
      have := Int64.lt_iff_toInt_lt.mp z
      rw [Int32.toInt_toInt64, hL] at this
      omega)
  · cases hx; cases hy
    show decide (0 < lg_cmp (ρ i).toInt64 U) = true
    rw [s_cmp_gt0]
    exact decide_eq_true (Int64.lt_iff_toInt_lt.mpr (by rw [Int32.toInt_toInt64, hU]; exact h))
theorem s_rng (x : Int32) {l u : Nat} (hu : u < 2147483648) : x.toInt < l ∨ (u : Int) < x.toInt ∨ ∃ k, l ≤ k ∧ k ≤ u ∧ x = Int32.ofNat k := by
  by_cases h1 : x.toInt < l
  · exact Or.inl h1
  · by_cases h2 : (u : Int) < x.toInt
    · exact Or.inr (Or.inl h2)
    · refine Or.inr (Or.inr ⟨x.toInt.toNat, by omega, by omega, ?_⟩)
      apply Int32.toInt_inj.mp
      rw [Int32.toInt_ofNat_of_lt (by omega)]
      omega
theorem s_rngF {ρ : Nat → Int32} {i : Nat} {P : Prop} (l u : Nat) (hlu : l ≤ u) (hu : u < 2147483647) (h1 : s_FH ρ (s_fl i (Int32.ofNat l) (Int64.ofNat l)) → P) (h2 : s_FH ρ (s_fu i (Int32.ofNat l) (Int32.ofNat u) (Int32.ofNat (u + 1)) (Int64.ofNat l) (Int64.ofNat u)) → P) (h3 : ∀ j, l ≤ j → j ≤ u → ρ i = Int32.ofNat j → P) : P := by
  have a1 : (Int32.ofNat l).toInt = l := Int32.toInt_ofNat_of_lt (by omega)
  have a2 : (Int32.ofNat u).toInt = u := Int32.toInt_ofNat_of_lt (by omega)
  have a3 : (Int32.ofNat (u + 1)).toInt = (u + 1 : Nat) := Int32.toInt_ofNat_of_lt (by omega)
  have b1 : (Int64.ofNat l).toInt = l := Int64.toInt_ofNat_of_lt (by omega)
  have b2 : (Int64.ofNat u).toInt = u := Int64.toInt_ofNat_of_lt (by omega)
  rcases s_rng (ρ i) (l := l) (u := u) (by omega) with h | h | ⟨k, g1, g2, g3⟩
  · exact h1 (s_fl_ok (by rw [a1, b1]) (by rw [a1]; exact h))
  · exact h2 (s_fu_ok (by rw [a1, b1]) (by rw [a2, b2]) (by rw [a2, a3]; omega) (by rw [a1, a2]; omega) (by rw [a2]; exact h))
  · exact h3 k g1 g2 g3
noncomputable def sh_wl : List (Bool → s_F) → (s_F → Bool) → Bool
  | [], f => f []
  | g :: gs, f => sh_wl gs (fun F => f (g true ++ F)) && sh_wl gs (fun F => f (g false ++ F))
theorem sh_wl_s {ρ : Nat → Int32} : ∀ {gs : List (Bool → s_F)} {f : s_F → Bool}, sh_wl gs f = true → (∀ g ∈ gs, ∃ b, s_FH ρ (g b)) → ∃ F, s_FH ρ F ∧ f F = true
  | [], f, h, _ => ⟨[], s_FH_nil, h⟩
  | g :: gs, f, h, hg => by
    simp only [sh_wl, Bool.and_eq_true] at h
    obtain ⟨b, hb⟩ := hg g List.mem_cons_self
    have hg' : ∀ g ∈ gs, ∃ b, s_FH ρ (g b) := fun g q => hg g (List.mem_cons_of_mem _ q)
    cases b with
    | true =>
      obtain ⟨F, h1, h2⟩ := sh_wl_s h.1 hg'
      exact ⟨_, s_FH_app hb h1, h2⟩
    | false =>
      obtain ⟨F, h1, h2⟩ := sh_wl_s h.2 hg'
      exact ⟨_, s_FH_app hb h1, h2⟩
def s_q1 (c : Nat) (a b : Term) (v : Bool) : s_F := [((c, a, b), v)]
theorem s_q1_ok {ρ : Nat → Int32} {c : Nat} {a b : Term} (ha : ∃ x, s_den ρ [] a = some (.int x)) (hb : ∃ y, s_den ρ [] b = some (.int y)) : ∃ v, s_FH ρ (s_q1 c a b v) := by
  obtain ⟨x, ha⟩ := ha
  obtain ⟨y, hb⟩ := hb
  refine ⟨s_cmp c x y, fun q hq ad x' y' hx hy => ?_⟩
  simp only [s_q1, List.mem_cons, List.not_mem_nil, or_false] at hq
  subst hq
  have e1 := s_den_mono ad a _ ha
  have e2 := s_den_mono ad b _ hb
  rw [List.nil_append] at e1 e2
  replace hx : s_den ρ ad a = some (.int x') := hx
  replace hy : s_den ρ ad b = some (.int y') := hy
  rw [e1] at hx
  rw [e2] at hy
  cases hx; cases hy
  rfl
/-- a byte that is 0, and an int out of it that is 0 -/
def s_by (T : Term) (v : Bool) : s_F := [((0, .op2 .lcmp T (.long 0), .int 0), v), ((0, .op1 .l2i T, .int 0), v)]
theorem s_cmp_eq0 (a : Int64) : decide (lg_cmp a 0 = 0) = decide (a = 0) := by
  unfold lg_cmp
  rcases lg_tri a 0 with h | h | h
  · simp [h, lg_lt_not h, lg_lt_ne h]
  · subst h; simp
  · have := lg_lt_ne h
    simp [h, lg_lt_not h, Ne.symm this]
theorem s_and255 (x : Int64) : (x &&& 255).toBitVec.toNat < 256 := by
  rw [Int64.toBitVec_and, BitVec.toNat_and]
  exact Nat.lt_of_le_of_lt Nat.and_le_right (by decide)
theorem s_l2i0 {z : Int64} (hz : z.toBitVec.toNat < 256) : decide (z.toInt32 = 0) = decide (z = 0) := by
  apply decide_eq_decide.mpr
  constructor
  · intro h
    apply Int64.toBitVec_inj.mp
    apply BitVec.eq_of_toNat_eq
    have h2 : z.toInt32.toBitVec.toNat = 0 := by rw [h]; rfl
    rw [Int64.toBitVec_toInt32, BitVec.signExtend_eq_setWidth_of_le _ (by decide), BitVec.toNat_setWidth, Nat.mod_eq_of_lt (by omega)] at h2
    rw [h2]; rfl
  · intro h; subst h; rfl
theorem s_by_ok {ρ : Nat → Int32} {X : Term} (hX : ∃ x, s_den ρ [] X = some (.long x)) : ∃ v, s_FH ρ (s_by (.op2 .land X (.long 255)) v) := by
  obtain ⟨x, hX⟩ := hX
  have hd : ∀ ad, s_den ρ ad (.op2 .land X (.long 255)) = some (.long (x &&& 255)) := fun ad => by
    have e1 := s_den_mono ad X _ hX
    rw [List.nil_append] at e1
    simp only [s_den]
    rw [e1]
    rfl
  refine ⟨decide (x &&& 255 = 0), fun q hq ad x' y' hx hy => ?_⟩
  simp only [s_by, List.mem_cons, List.not_mem_nil, or_false] at hq
  rcases hq with rfl | rfl
  · replace hx : s_o2 .lcmp (s_den ρ ad (.op2 .land X (.long 255))) (some (.long 0)) = some (.int x') := hx
    rw [hd] at hx
    cases hx; cases hy
    exact s_cmp_eq0 _
  · replace hx : s_o1 .l2i (s_den ρ ad (.op2 .land X (.long 255))) = some (.int x') := hx
    rw [hd] at hx
    cases hx; cases hy
    exact s_l2i0 (s_and255 x)
theorem s_DS_e {ρ : Nat → Int32} {ad : List Nat} : ∀ {ts ts' : List Term} {v0 : List Value}, ts.map (s_den ρ ad) = ts'.map (s_den ρ ad) → s_DS ρ ad ts v0 → s_DS ρ ad ts' v0
  | [], [], _, _, h => h
  | [], _ :: _, _, e, _ => by simp at e
  | _ :: _, [], _, e, _ => by simp at e
  | a :: ts, b :: ts', v0, e, h => by
    obtain ⟨v, vs, rfl, h1, h2⟩ := s_DS_c h
    simp only [List.map_cons, List.cons.injEq] at e
    exact ⟨by rw [← e.1]; exact h1, s_DS_e e.2 h2⟩
noncomputable def sh_en (F : s_F) (ts : List Term) (k : Nat) : Bool := s_ends 5153 603072 7207018 (sh_go F ts k)
def sh_a1 (j : Nat) : List Term := [.arg 0, .int (Int32.ofNat j), .arg 2, .arg 3]
def sh_a2 (j i : Nat) : List Term := [.arg 0, .int (Int32.ofNat j), .int (Int32.ofNat i), .arg 3]
section S46
variable {p : Program} {l : Launch} {e : Env} {s : State} {m : MethodId} {below : List Frame} {meth : Method} {c : Code} {b Ls : Nat} {xs : Nat → Int32} {dC : Nat → ClassId} {dI : Nat → Nat → Nat} {ad : List Nat} {H : Heap} {ls : Array Slot} {vs : List Value} {locs : List Loc}
theorem sh_op_en {F : s_F} {ts : List Term} {k : Nat} (hF : s_FH xs F) (hk : sh_en F ts k = true) (C0 : s_At p s m meth c b Ls xs) (hflags : l.flags = flags0) (hK : s_KK dC dI s.heap.size s s.heap) (hS : s_SR s dC dI xs s.heap.size 7 ad sh_L [.int (Int32.ofNat k)] (sh_H (2, 0, ts)) H ls vs locs) : W p l e room_1 s m #[Value.ref b] below meth c H locs 1375 194968 (lw_Z below #[Value.ref b] s) (F0 m 39 ls vs) :=
  sh_op_go C0 hflags hK hF hk hS
theorem sh_op_wl {gs : List (Bool → s_F)} {G : s_F} {ts : List Term} {k : Nat} (hG : s_FH xs G) (hg : ∀ g ∈ gs, ∃ b, s_FH xs (g b)) (hk : sh_wl gs (fun F => sh_en (G ++ F) ts k) = true) (C0 : s_At p s m meth c b Ls xs) (hflags : l.flags = flags0) (hK : s_KK dC dI s.heap.size s s.heap) (hS : s_SR s dC dI xs s.heap.size 7 ad sh_L [.int (Int32.ofNat k)] (sh_H (2, 0, ts)) H ls vs locs) : W p l e room_1 s m #[Value.ref b] below meth c H locs 1375 194968 (lw_Z below #[Value.ref b] s) (F0 m 39 ls vs) := by
  obtain ⟨F, h1, h2⟩ := sh_wl_s hk hg
  exact sh_op_en (s_FH_app hG h1) h2 C0 hflags hK hS
theorem sh_re {L st : List Term} {ts ts' : List Term} (h : ∀ ad, ts.map (s_den xs ad) = ts'.map (s_den xs ad)) (hS : s_SR s dC dI xs s.heap.size 7 ad L st (sh_H (2, 0, ts)) H ls vs locs) : s_SR s dC dI xs s.heap.size 7 ad L st (sh_H (2, 0, ts')) H ls vs locs :=
  s_retell (fun _ q => s_DS_e (h _) q) hS
theorem sh_re1 {L st : List Term} {j : Nat} (h : xs 1 = Int32.ofNat j) (hS : s_SR s dC dI xs s.heap.size 7 ad L st (sh_H (2, 0, sh_ts)) H ls vs locs) : s_SR s dC dI xs s.heap.size 7 ad L st (sh_H (2, 0, sh_a1 j)) H ls vs locs :=
  sh_re (fun ad => by simp [sh_ts, sh_a1, s_den, h]) hS
theorem sh_re2 {L st : List Term} {j i : Nat} (h : xs 2 = Int32.ofNat i) (hS : s_SR s dC dI xs s.heap.size 7 ad L st (sh_H (2, 0, sh_a1 j)) H ls vs locs) : s_SR s dC dI xs s.heap.size 7 ad L st (sh_H (2, 0, sh_a2 j i)) H ls vs locs :=
  sh_re (fun ad => by simp [sh_a1, sh_a2, s_den, h]) hS
end S46
