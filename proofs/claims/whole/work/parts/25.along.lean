/-! A LONG CODE'S TABLE, checked along its bytes -/
section S33
variable {A B : ByteArray} {d : Nat}
theorem s_decE (C : ByteArray) (p : Nat) : decode C p = (match Jvm.ClassFile.Reader.runAt (Jvm.ClassFile.Decoder.instr p) C p with
    | .error e => .error e
    | .ok r => .ok (r.1, r.2 - p)) := by
  unfold decode
  generalize Jvm.ClassFile.Reader.runAt (Jvm.ClassFile.Decoder.instr p) C p = z
  cases z with
  | error e => rfl
  | ok r => obtain ⟨x, y⟩ := r; rfl
def s_dop : List Nat := [2, 3, 4, 5, 6, 7, 8, 42, 43, 44, 45, 46, 47, 96, 133, 148, 172, 16, 21, 54, 153, 154, 155, 156, 157, 158, 159, 160, 161, 162, 163, 164, 167, 182, 184]
theorem s_dcA (hAB : s_Sub A B d) (h0 : 0 < A.size) (hop : A[0].toNat ∈ s_dop) {i : Instr} {n : Nat} (h : decode A 0 = .ok (i, n)) : decode B d = .ok (i, n) := by
  rw [s_decE] at h
  cases e : Jvm.ClassFile.Reader.runAt (Jvm.ClassFile.Decoder.instr 0) A 0 with
  | error z => rw [e] at h; cases h
  | ok r =>
    obtain ⟨x, y⟩ := r
    rw [e] at h
    replace h : (Except.ok (x, y) : Except Jvm.ClassFile.DecodeError (Instr × Nat)) = .ok (i, n) := h
    cases h
    have key : Jvm.ClassFile.Reader.runAt (Jvm.ClassFile.Decoder.instr d) B d = .ok (i, d + n) := by
      simp only [s_dop, List.mem_cons, List.not_mem_nil, or_false] at hop
      rcases hop with hb | hb | hb | hb | hb | hb | hb | hb | hb | hb | hb | hb | hb | hb | hb | hb | hb | hb | hb | hb | hb | hb | hb | hb | hb | hb | hb | hb | hb | hb | hb | hb | hb | hb | hb
      · exact s_dc2 hAB h0 hb e
      · exact s_dc3 hAB h0 hb e
      · exact s_dc4 hAB h0 hb e
      · exact s_dc5 hAB h0 hb e
      · exact s_dc6 hAB h0 hb e
      · exact s_dc7 hAB h0 hb e
      · exact s_dc8 hAB h0 hb e
      · exact s_dc42 hAB h0 hb e
      · exact s_dc43 hAB h0 hb e
      · exact s_dc44 hAB h0 hb e
      · exact s_dc45 hAB h0 hb e
      · exact s_dc46 hAB h0 hb e
      · exact s_dc47 hAB h0 hb e
      · exact s_dc96 hAB h0 hb e
      · exact s_dc133 hAB h0 hb e
      · exact s_dc148 hAB h0 hb e
      · exact s_dc172 hAB h0 hb e
      · exact s_dc16 hAB h0 hb e
      · exact s_dc21 hAB h0 hb e
      · exact s_dc54 hAB h0 hb e
      · exact s_dc153 hAB h0 hb e
      · exact s_dc154 hAB h0 hb e
      · exact s_dc155 hAB h0 hb e
      · exact s_dc156 hAB h0 hb e
      · exact s_dc157 hAB h0 hb e
      · exact s_dc158 hAB h0 hb e
      · exact s_dc159 hAB h0 hb e
      · exact s_dc160 hAB h0 hb e
      · exact s_dc161 hAB h0 hb e
      · exact s_dc162 hAB h0 hb e
      · exact s_dc163 hAB h0 hb e
      · exact s_dc164 hAB h0 hb e
      · exact s_dc167 hAB h0 hb e
      · exact s_dc182 hAB h0 hb e
      · exact s_dc184 hAB h0 hb e
    rw [s_decE, key]
    show (Except.ok (i, d + n - d) : Except Jvm.ClassFile.DecodeError (Instr × Nat)) = .ok (i, n)
    rw [Nat.add_sub_cancel_left]
theorem s_Sub_of {L : List UInt8} (hL : B.data.toList.drop d = L) : s_Sub ⟨(L.take 3).toArray⟩ B d := by
  intro i h
  have h2 : i < (L.take 3).length := h
  have h3 : i < L.length := Nat.lt_of_lt_of_le h2 (by rw [List.length_take]; exact Nat.min_le_right _ _)
  have h4 : d + i < B.data.toList.length := by rw [← hL, List.length_drop] at h3; omega
  refine ⟨h4, ?_⟩
  have e1 : B[d + i]'h4 = B.data.toList[d + i] := by cases B; rfl
  have e2 : (⟨(L.take 3).toArray⟩ : ByteArray)[i]'h = (L.take 3)[i] := rfl
  refine e1.trans (Eq.trans ?_ e2.symm)
  subst hL
  simp [List.getElem_take, List.getElem_drop]
def s_dcL (L : List UInt8) (i : Instr) (n : Nat) : Bool := match L with
  | [] => false
  | b :: t => s_iA b.toNat s_dop && decide (decode ⟨((b :: t).take 3).toArray⟩ 0 = .ok (i, n))
theorem s_dcL_s {L : List UInt8} {i : Instr} {n : Nat} (hL : B.data.toList.drop d = L) (h : s_dcL L i n = true) : decode B d = .ok (i, n) := by
  cases L with
  | nil => cases h
  | cons b t =>
    simp only [s_dcL, Bool.and_eq_true] at h
    exact s_dcA (s_Sub_of hL) (Nat.zero_lt_succ _) (s_iA_s h.1) (of_decide_eq_true h.2)
noncomputable def s_chkL (mi : Nat → Option s_M) (np : Nat → Nat) (M : s_M) (T : s_Wt) (Wm : List Cond) (pc : Nat) (L : List UInt8) (e : s_I) : Bool := match e with
  | (o, i, nx, a, b, c) => match i with
    | .aload_n n => decide (o = 11 ∧ nx = pc + 1 ∧ (n : Nat) = a) && s_dcL L (.aload_n n) 1
    | .iconst n => decide (o = 1 ∧ nx = pc + 1 ∧ Int32.ofInt n = Int32.ofNat a) && s_dcL L (.iconst n) 1
    | .iload n => decide (o = 6 ∧ nx = pc + 2 ∧ n = a) && s_dcL L (.iload n) 2
    | .istore n => decide (o = 12 ∧ nx = pc + 2 ∧ n = a) && s_dcL L (.istore n) 2
    | .iadd => decide (o = 19 ∧ nx = pc + 1) && s_dcL L .iadd 1
    | .i2l => decide (o = 43 ∧ nx = pc + 1) && s_dcL L .i2l 1
    | .lcmp => decide (o = 40 ∧ nx = pc + 1) && s_dcL L .lcmp 1
    | .iaload => decide (o = 56 ∧ nx = pc + 1) && s_dcL L .iaload 1
    | .laload => decide (o = 57 ∧ nx = pc + 1) && s_dcL L .laload 1
    | .ireturn => decide (o = 73 ∧ ((a = 0 ∧ M.2.2.2.1 = some .int) ∨ (a = 1 ∧ M.2.2.2.1 = some .boolean))) && s_dcL L .ireturn 1
    | .goto n => decide (o = 48 ∧ (pc : Int) + n = (nx : Int)) && s_dcL L (.goto n) 3
    | .ifCond q n => decide (o = 49 ∧ nx = pc + 3 ∧ (pc : Int) + n = (a : Int)) && s_dcL L (.ifCond q n) 3
    | .if_icmp q n => decide (o = 50 ∧ nx = pc + 3 ∧ (pc : Int) + n = (a : Int)) && s_dcL L (.if_icmp q n) 3
    | .invokestatic n => s_iB n a T.2.1 && s_iA a T.2.2.1 && Nat.beq (np a) b && (match mi a with
      | none => false
      | some N => decide (o = 70 ∧ nx = pc + 3) && s_dcL L (.invokestatic n) 3)
    | .invokevirtual n => s_iB n a T.2.1 && s_iA a T.2.2.2.1 && s_iB a c T.2.2.2.2.1 && Nat.beq (np a + 1) b && (match mi a with
      | none => false
      | some N => (match s_cl[c]? with
        | none => false
        | some r => (decide (o = 71 ∧ nx = pc + 3) && s_dcL L (.invokevirtual n) 3) && N.2.2.2.2.isEmpty))
    | i => s_chkF mi np M T Wm pc (o, i, nx, a, b, c)
theorem s_chkL_s {mi : Nat → Option s_M} {np : Nat → Nat} {M : s_M} {T : s_Wt} {Wm : List Cond} {pc : Nat} {L : List UInt8} {e : s_I} (hT : s_Wok mi np M T) (hW : ∀ w ∈ Wm, w ∈ s_gd) (hL : M.2.1.data.toList.drop pc = L) (h : s_chkL mi np M T Wm pc L e = true) : s_chkI mi M s_gd pc e = true := by
  have hT0 := hT
  obtain ⟨hF, hQ, hS, hI, hV, hn, hc, hnp⟩ := hT0
  obtain ⟨o, i, nx, a, b, c⟩ := e
  cases i with
  | aload_n n =>
    simp only [s_chkL, Bool.and_eq_true] at h
    obtain ⟨g1, g2, g3⟩ := of_decide_eq_true h.1
    exact decide_eq_true ⟨g1, g2, s_dcL_s hL h.2, g3⟩
  | iconst n =>
    simp only [s_chkL, Bool.and_eq_true] at h
    obtain ⟨g1, g2, g3⟩ := of_decide_eq_true h.1
    exact decide_eq_true ⟨g1, g2, s_dcL_s hL h.2, g3⟩
  | iload n =>
    simp only [s_chkL, Bool.and_eq_true] at h
    obtain ⟨g1, g2, g3⟩ := of_decide_eq_true h.1
    exact decide_eq_true ⟨g1, g2, s_dcL_s hL h.2, g3⟩
  | istore n =>
    simp only [s_chkL, Bool.and_eq_true] at h
    obtain ⟨g1, g2, g3⟩ := of_decide_eq_true h.1
    exact decide_eq_true ⟨g1, g2, s_dcL_s hL h.2, g3⟩
  | iadd =>
    simp only [s_chkL, Bool.and_eq_true] at h
    obtain ⟨g1, g2⟩ := of_decide_eq_true h.1
    exact decide_eq_true ⟨g1, g2, s_dcL_s hL h.2⟩
  | i2l =>
    simp only [s_chkL, Bool.and_eq_true] at h
    obtain ⟨g1, g2⟩ := of_decide_eq_true h.1
    exact decide_eq_true ⟨g1, g2, s_dcL_s hL h.2⟩
  | lcmp =>
    simp only [s_chkL, Bool.and_eq_true] at h
    obtain ⟨g1, g2⟩ := of_decide_eq_true h.1
    exact decide_eq_true ⟨g1, g2, s_dcL_s hL h.2⟩
  | iaload =>
    simp only [s_chkL, Bool.and_eq_true] at h
    obtain ⟨g1, g2⟩ := of_decide_eq_true h.1
    exact decide_eq_true ⟨g1, g2, s_dcL_s hL h.2⟩
  | laload =>
    simp only [s_chkL, Bool.and_eq_true] at h
    obtain ⟨g1, g2⟩ := of_decide_eq_true h.1
    exact decide_eq_true ⟨g1, g2, s_dcL_s hL h.2⟩
  | ireturn =>
    simp only [s_chkL, Bool.and_eq_true] at h
    obtain ⟨g1, g2⟩ := of_decide_eq_true h.1
    exact decide_eq_true ⟨g1, s_dcL_s hL h.2, g2⟩
  | goto n =>
    simp only [s_chkL, Bool.and_eq_true] at h
    obtain ⟨g1, g2⟩ := of_decide_eq_true h.1
    exact decide_eq_true ⟨g1, s_dcL_s hL h.2, g2⟩
  | ifCond q n =>
    simp only [s_chkL, Bool.and_eq_true] at h
    obtain ⟨g1, g2, g3⟩ := of_decide_eq_true h.1
    exact decide_eq_true ⟨g1, g2, s_dcL_s hL h.2, g3⟩
  | if_icmp q n =>
    simp only [s_chkL, Bool.and_eq_true] at h
    obtain ⟨g1, g2, g3⟩ := of_decide_eq_true h.1
    exact decide_eq_true ⟨g1, g2, s_dcL_s hL h.2, g3⟩
  | invokestatic n =>
    simp only [s_chkL, Bool.and_eq_true] at h
    obtain ⟨⟨⟨h1, h2⟩, h3⟩, h4⟩ := h
    have h1 := s_iB_s h1
    have h2 := s_iA_s h2
    simp only [s_chkI]
    cases hr : mi a with
    | none => rw [hr] at h4; cases h4
    | some N =>
      rw [hr] at h4
      simp only [Bool.and_eq_true] at h4
      obtain ⟨g1, g2⟩ := of_decide_eq_true h4.1
      exact decide_eq_true ⟨g1, g2, s_dcL_s hL h4.2, by rw [hnp a N hr, Nat.eq_of_beq_eq_true h3], hQ _ h1 _ (by simp [s_lw, hr]), hS _ h2 _ (by simp [s_sw, hr])⟩
  | invokevirtual n =>
    simp only [s_chkL, Bool.and_eq_true] at h
    obtain ⟨⟨⟨⟨h1, h2⟩, h3⟩, h4⟩, h5⟩ := h
    have h1 := s_iB_s h1
    have h2 := s_iA_s h2
    have h3 := s_iB_s h3
    have h4 := Nat.eq_of_beq_eq_true h4
    simp only [s_chkI]
    cases hr : mi a with
    | none => rw [hr] at h5; cases h5
    | some N =>
      rw [hr] at h5
      cases hr2 : s_cl[c]? with
      | none => rw [hr2] at h5; cases h5
      | some r =>
        rw [hr2] at h5
        simp only [Bool.and_eq_true] at h5
        obtain ⟨⟨g0, g3⟩, g4⟩ := h5
        obtain ⟨g1, g2⟩ := of_decide_eq_true g0
        exact decide_eq_true ⟨g1, g2, s_dcL_s hL g3, by rw [hnp a N hr, ← h4]; rfl, by omega, hQ _ h1 _ (by simp [s_lw, hr]), hI _ h2 _ (by simp [s_iw, hr]), hV _ h3 _ (by simp [s_vw, hr, hr2]), List.isEmpty_iff.mp g4⟩
  | _ => exact s_chkF_s hT hW h
noncomputable def s_okRL (mi : Nat → Option s_M) (np : Nat → Nat) (M : s_M) (T : s_Wt) (Wm : List Cond) : Nat → List UInt8 → List (Option s_I) → Bool
  | _, _, [] => true
  | b, L, none :: r => s_okRL mi np M T Wm (b + 1) L.tail r
  | b, L, some e :: r => s_chkL mi np M T Wm b L e && s_okRL mi np M T Wm (b + 1) L.tail r
noncomputable def s_okCL (mi : Nat → Option s_M) (np : Nat → Nat) (M : s_M) (T : s_Wt) (Wm : List Cond) : Nat → List UInt8 → s_Cd → Bool
  | _, _, [] => true
  | b, L, r :: t => s_okRL mi np M T Wm b L r && s_okCL mi np M T Wm (b + 32) (L.drop 32) t
theorem s_okRL_s {mi : Nat → Option s_M} {np : Nat → Nat} {M : s_M} {T : s_Wt} {Wm : List Cond} (hT : s_Wok mi np M T) (hW : ∀ w ∈ Wm, w ∈ s_gd) : ∀ {r : List (Option s_I)} {b : Nat} {L : List UInt8}, M.2.1.data.toList.drop b = L → s_okRL mi np M T Wm b L r = true → s_okR mi M s_gd b r = true
  | [], b, L, _, _ => rfl
  | none :: r, b, L, hL, h => s_okRL_s (r := r) (b := b + 1) hT hW (by rw [← hL, List.tail_drop]) h
  | some e :: r, b, L, hL, h => by
    simp only [s_okRL, Bool.and_eq_true] at h
    simp only [s_okR, Bool.and_eq_true]
    exact ⟨s_chkL_s hT hW hL h.1, s_okRL_s hT hW (by rw [← hL, List.tail_drop]) h.2⟩
theorem s_okCL_s {mi : Nat → Option s_M} {np : Nat → Nat} {M : s_M} {T : s_Wt} {Wm : List Cond} (hT : s_Wok mi np M T) (hW : ∀ w ∈ Wm, w ∈ s_gd) : ∀ {cd : s_Cd} {b : Nat} {L : List UInt8}, M.2.1.data.toList.drop b = L → s_okCL mi np M T Wm b L cd = true → s_okC mi M s_gd b cd = true
  | [], b, L, _, _ => rfl
  | r :: t, b, L, hL, h => by
    simp only [s_okCL, Bool.and_eq_true] at h
    simp only [s_okC, Bool.and_eq_true]
    exact ⟨s_okRL_s hT hW hL h.1, s_okCL_s hT hW (by rw [← hL, List.drop_drop]) h.2⟩
theorem s_okC_app {mi : Nat → Option s_M} {M : s_M} {Wm : List Cond} : ∀ {a t : s_Cd} {b : Nat}, s_okC mi M Wm b a = true → s_okC mi M Wm (b + 32 * a.length) t = true → s_okC mi M Wm b (a ++ t) = true
  | [], t, b, _, h => by simpa using h
  | r :: a, t, b, h1, h2 => by
    simp only [s_okC, Bool.and_eq_true, List.cons_append] at h1 ⊢
    exact ⟨h1.1, s_okC_app h1.2 (by rw [show b + 32 + 32 * a.length = b + 32 * (r :: a).length by simp only [List.length_cons]; omega]; exact h2)⟩
theorem s_okC_cut {mi : Nat → Option s_M} {M : s_M} {Wm : List Cond} {cd : s_Cd} {st n : Nat} (hn : Nat.ble cd.length (st * n) = true) (h : ∀ j, j < n → s_okC mi M Wm (32 * (st * j)) ((cd.drop (st * j)).take st) = true) : s_okC mi M Wm 0 cd = true := by
  have hn := Nat.le_of_ble_eq_true hn
  have key : ∀ i, i ≤ n → s_okC mi M Wm (32 * (st * (n - i))) (cd.drop (st * (n - i))) = true := by
    intro i
    induction i with
    | zero => intro _; rw [List.drop_eq_nil_of_le (by simpa using hn)]; rfl
    | succ i ih =>
      intro hi
      have h1 := h (n - (i + 1)) (by omega)
      have h2 := ih (by omega)
      have e : st * (n - i) = st * (n - (i + 1)) + st := by rw [show n - i = n - (i + 1) + 1 by omega, Nat.mul_add, Nat.mul_one]
      rw [← List.take_append_drop st (cd.drop (st * (n - (i + 1))))]
      refine s_okC_app h1 ?_
      rw [List.drop_drop]
      by_cases hl : st ≤ (cd.drop (st * (n - (i + 1)))).length
      · rw [List.length_take, Nat.min_eq_left hl, ← Nat.mul_add, ← e]; exact h2
      · have e0 : cd.drop (st * (n - (i + 1)) + st) = [] := List.drop_eq_nil_of_le (by rw [List.length_drop] at hl; omega)
        rw [e0]; rfl
  have := key n (Nat.le_refl _)
  simpa using this
def s_eqU : List UInt8 → List UInt8 → Bool
  | [], [] => true
  | x :: xs, y :: ys => Nat.beq x.toNat y.toNat && s_eqU xs ys
  | _, _ => false
theorem s_eqU_s : ∀ {a b : List UInt8}, s_eqU a b = true → a = b
  | [], [], _ => rfl
  | [], _ :: _, h => by cases h
  | _ :: _, [], h => by cases h
  | x :: xs, y :: ys, h => by
    simp only [s_eqU, Bool.and_eq_true] at h
    rw [UInt8.toNat_inj.mp (Nat.eq_of_beq_eq_true h.1), s_eqU_s h.2]
/-- a word that tells a method's code, its bytes compared one by one -/
def s_isCw (M : s_M) : Option Cond → Bool
  | some (.code y b n r) => decide (y = M.1 ∧ n = M.2.2.1 ∧ r = M.2.2.2.1) && s_eqU b.data.toList M.2.1.data.toList && M.2.2.2.2.isEmpty
  | _ => false
theorem s_isCw_s {M : s_M} {o : Option Cond} (h : s_isCw M o = true) : o = some (s_cw M) := by
  unfold s_isCw at h
  split at h
  · rename_i y b n r
    simp only [Bool.and_eq_true] at h
    obtain ⟨⟨h1, h2⟩, h3⟩ := h
    obtain ⟨e1, e2, e3⟩ := of_decide_eq_true h1
    have hb : b = M.2.1 := ByteArray.ext (Array.toList_inj.mp (s_eqU_s h2))
    rw [s_cw_c (List.isEmpty_iff.mp h3), e1, e2, e3, hb]
  · cases h
end S33
