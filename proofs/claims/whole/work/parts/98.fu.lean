/-! the reference's text: type, fault; the source's bytes, digits, numbers -/
theorem and255 (x : Int64) : 0 ≤ (x &&& Int64.ofInt 255).toInt ∧ (x &&& Int64.ofInt 255).toInt ≤ 255 := by
  have e : (x &&& Int64.ofInt 255).toInt = (x.toBitVec &&& 255#64).toInt := rfl
  have l : (x.toBitVec &&& 255#64).toNat ≤ 255 := by
    rw [BitVec.toNat_and]
    exact Nat.and_le_right
  have e2 : (x.toBitVec &&& 255#64).toInt = ((x.toBitVec &&& 255#64).toNat : Int) := by
    rw [BitVec.toInt_eq_toNat_of_lt]
    omega
  rw [e, e2]
  omega
/-- byte j of n, from the highest -/
def tbb (n : Int) (j : Nat) : Int := zl 34 (zl 39 n (56 - 8 * (j : Int))) 255
theorem tbb_b (n : Int) (j : Nat) : 0 ≤ tbb n j ∧ tbb n j ≤ 255 := and255 _
/-- how many of the first j bytes aren't 0 -/
def tbc (n : Int) : Nat → Nat
  | 0 => 0
  | j + 1 => tbc n j + (if tbb n j = 0 then 0 else 1)
theorem tbc_le (n : Int) : ∀ j, tbc n j ≤ j
  | 0 => Nat.le_refl 0
  | j + 1 => by
    have := tbc_le n j
    show tbc n j + (if tbb n j = 0 then 0 else 1) ≤ j + 1
    split <;> omega
theorem tbc_mono (n : Int) {i : Nat} : ∀ j, i ≤ j → tbc n i ≤ tbc n j
  | 0, h => by rw [show i = 0 by omega]; exact Nat.le_refl _
  | j + 1, h => by
    by_cases e : i = j + 1
    · rw [e]; exact Nat.le_refl _
    · exact Nat.le_trans (tbc_mono n j (by omega)) (Nat.le_add_right _ _)
/-- the text's row with them behind the first L -/
def tbg (n : Int) (L : Nat) (g : Nat → Int) : Nat → (Nat → Int)
  | 0 => g
  | j + 1 => if tbb n j = 0 then tbg n L g j else fun t => if t = L + tbc n j then tbb n j else tbg n L g j t
/-- a text: its length, its bytes -/
def TX (s : Nat → Int) (A : Nat → Nat → Int) : Prop := (0 ≤ s 50 ∧ s 50 ≤ 200) ∧ ∀ i, i < 200 → 0 ≤ A 1333 i ∧ A 1333 i ≤ 255
def SX (s : Nat → Int) (A : Nat → Nat → Int) : Prop := (0 ≤ s 52 ∧ s 52 ≤ 200) ∧ ∀ i, i < 200 → 0 ≤ A 1334 i ∧ A 1334 i ≤ 255
/-- the byte that stands there -/
def byt (s : Nat → Int) (A : Nat → Nat → Int) (i : Nat) : Int := if (i : Int) < s 52 then A 1334 i else 0
def isd (b : Int) : Prop := 48 ≤ b ∧ b ≤ 57
theorem byt_b {s : Nat → Int} {A : Nat → Nat → Int} (h : SX s A) (i : Nat) : 0 ≤ byt s A i ∧ byt s A i ≤ 255 := by
  unfold byt
  split
  · exact h.2 i (by have := h.1.2; omega)
  · omega
theorem byt_lt {s : Nat → Int} {A : Nat → Nat → Int} {i : Nat} (h : byt s A i ≠ 0) : (i : Int) < s 52 := Classical.byContradiction (fun w => h (if_neg w))
/-- a fault, once -/
def flS (s : Nat → Int) (what place : Int) : Nat → Int := if 0 < s 55 then s else up (up s 55 what) 56 place
/-- the number that so many digits stand for -/
def num (A : Nat → Nat → Int) (i : Nat) : Nat → Int
  | 0 => 0
  | k + 1 => 10 * num A i k + A 1334 (i + k) - 48
section
variable {d : Nat} {h : s_H} {s : Nat → Int} {A : Nat → Nat → Int}
theorem V_type (hv : RV h s A) (hT : TX s A) {n : Int} : wm sw_P (d + 1) 610 [.index 1290, vl n] h (RA h (fun v s' A' => (200 < s 50 + (tbc n 8 : Int) → v = vi (-1) ∧ s' = up s 0 0 ∧ A' = A) ∧ (¬ 200 < s 50 + (tbc n 8 : Int) → v = vi (s 50 + (tbc n 8 : Int)) ∧ s' = up (up s 0 0) 50 (s 50 + (tbc n 8 : Int)) ∧ A' = up A 1333 (tbg n (s 50).toNat (A 1333) 8)))) := by
  refine wm_in (cd := sw_c610) (nL := 5) (hd := sw_h610) rfl rfl ?_
  have v1 := RV_fld hv (up s 0 0) (rF_0 s 0)
  have r1 := FR_fld hv (1, 11, (rF s).set 0 (vi 0))
  have t0 := hT.1
  refine k610_0 hv.1 ?_
  obtain ⟨L, eL⟩ : ∃ L : Nat, s 50 = L := ⟨(s 50).toNat, by omega⟩
  have eLn : (s 50).toNat = L := by omega
  have count : ∀ (l j : Nat) (t2 : Term), j + l = 8 → (∀ t2 : Term, wr sw_P d sw_c610 sw_h610 (43, [.index 1290, vl n, t2, vi (tbc n 8 : Int), vi (-8)], [], (hp h 1290 (1, 11, (rF s).set 0 (vi 0))), 0, 0) (RA h (fun v s' A' => (200 < s 50 + (tbc n 8 : Int) → v = vi (-1) ∧ s' = up s 0 0 ∧ A' = A) ∧ (¬ 200 < s 50 + (tbc n 8 : Int) → v = vi (s 50 + (tbc n 8 : Int)) ∧ s' = up (up s 0 0) 50 (s 50 + (tbc n 8 : Int)) ∧ A' = up A 1333 (tbg n (s 50).toNat (A 1333) 8))))) → wr sw_P d sw_c610 sw_h610 (11, [.index 1290, vl n, t2, vi (tbc n j : Int), vi (56 - 8 * (j : Int))], [], (hp h 1290 (1, 11, (rF s).set 0 (vi 0))), 0, 0) (RA h (fun v s' A' => (200 < s 50 + (tbc n 8 : Int) → v = vi (-1) ∧ s' = up s 0 0 ∧ A' = A) ∧ (¬ 200 < s 50 + (tbc n 8 : Int) → v = vi (s 50 + (tbc n 8 : Int)) ∧ s' = up (up s 0 0) 50 (s 50 + (tbc n 8 : Int)) ∧ A' = up A 1333 (tbg n (s 50).toNat (A 1333) 8)))) := by
    intro l
    induction l with
    | zero =>
      intro j t2 hj K
      have ej : j = 8 := by omega
      subst ej
      exact k610_11 (fun _ => K t2) (fun w => absurd (by decide) w) (c1 := by decide)
    | succ l ih =>
      intro j t2 hj K
      have tb := tbb_b n j
      have tl := tbc_le n j
      refine k610_11 (fun w => absurd w (by omega)) (fun _ => ?_) (c1 := by unfold In3; omega)
      refine k610_16 (fun w => k610_34 (k610_35 ?_)) (fun w => k610_30 (k610_35 ?_)) (c1 := in6_of (show (-4000000000000000000 : Int) ≤ tbb n j by omega) (show tbb n j ≤ 4000000000000000000 by omega))
      · have e : (tbc n (j + 1) : Int) = (tbc n j : Int) + 0 := by
          have : tbc n (j + 1) = tbc n j + (if tbb n j = 0 then 0 else 1) := rfl
          rw [this, if_pos (show tbb n j = 0 from w)]; rfl
        have := ih (j + 1) (s_uu t2) (by omega) K
        rw [e, show 56 - 8 * ((j + 1 : Nat) : Int) = 56 - 8 * (j : Int) + -8 by omega] at this
        exact this
      · have e : (tbc n (j + 1) : Int) = (tbc n j : Int) + 1 := by
          have : tbc n (j + 1) = tbc n j + (if tbb n j = 0 then 0 else 1) := rfl
          rw [this, if_neg (show ¬ tbb n j = 0 from w)]; rfl
        have := ih (j + 1) (s_uu t2) (by omega) K
        rw [e, show 56 - 8 * ((j + 1 : Nat) : Int) = 56 - 8 * (j : Int) + -8 by omega] at this
        exact this
  have start := count 8 0 (s_uu .result) (Nat.zero_add 8) (fun t2 => ?_)
  · exact start
  have t8 := tbc_le n 8
  have e50 : up s 0 0 50 = (L : Int) := by rw [up_ne _ _ (by decide), eL]
  refine k610_43 (z5 := (L : Int)) v1.1 (fun w => k610_57 ?_) (fun w => k610_55 ?_) (n6 := by
    show some (vi (up s 0 0 50)) = _
    rw [e50]) (c7 := by unfold In3; omega)
  rotate_left
  · exact ⟨vi (-1), _, _, A, v1, r1, ⟨fun _ => ⟨rfl, rfl, rfl⟩, fun w2 => absurd (by omega) w2⟩, rfl⟩
  have put : ∀ (l j : Nat) (B : Nat → Nat → Int) (h' : s_H), j + l = 8 → RV h' (up (up s 0 0) 50 ((L + tbc n j : Nat) : Int)) B → FR h h' → (∀ x, x ≠ 1333 → B x = A x) → B 1333 = tbg n L (A 1333) j → wr sw_P d sw_c610 sw_h610 (61, [.index 1290, vl n, t2, vi (tbc n 8 : Int), vi (56 - 8 * (j : Int))], [], h', 0, 0) (RA h (fun v s' A' => (200 < s 50 + (tbc n 8 : Int) → v = vi (-1) ∧ s' = up s 0 0 ∧ A' = A) ∧ (¬ 200 < s 50 + (tbc n 8 : Int) → v = vi (s 50 + (tbc n 8 : Int)) ∧ s' = up (up s 0 0) 50 (s 50 + (tbc n 8 : Int)) ∧ A' = up A 1333 (tbg n (s 50).toNat (A 1333) 8)))) := by
    intro l
    induction l with
    | zero =>
      intro j B h' hj v r o g
      have ej : j = 8 := by omega
      subst ej
      refine k610_61 (fun _ => ?_) (fun w => absurd (by decide) w) (c1 := by decide)
      refine k610_116 (z5 := ((L + tbc n 8 : Nat) : Int)) v.1 ?_ (n6 := by
        show some (vi (up (up s 0 0) 50 ((L + tbc n 8 : Nat) : Int) 50)) = _
        rw [up_at])
      have eB : B = up A 1333 (tbg n (s 50).toNat (A 1333) 8) := by
        funext x
        by_cases hx : x = 1333
        · rw [hx, up_at, g, eLn]
        · rw [up_ne _ _ hx, o x hx]
      have ez : ((L + tbc n 8 : Nat) : Int) = s 50 + (tbc n 8 : Int) := by omega
      rw [ez] at v ⊢
      exact ⟨_, h', _, B, v, r, ⟨fun w2 => by omega, fun _ => ⟨rfl, rfl, eB⟩⟩, rfl⟩
    | succ l ih =>
      intro j B h' hj v r o g
      have tb := tbb_b n j
      have tm := tbc_mono n 8 (show j + 1 ≤ 8 by omega)
      have tj : tbc n (j + 1) = tbc n j + (if tbb n j = 0 then 0 else 1) := rfl
      refine k610_61 (fun w => absurd w (by omega)) (fun _ => ?_) (c1 := by unfold In3; omega)
      refine k610_66 (fun w => ?_) (fun w => k610_79 (k610_110 ?_)) (c1 := in6_of (show (-4000000000000000000 : Int) ≤ tbb n j by omega) (show tbb n j ≤ 4000000000000000000 by omega))
      · have w' : tbb n j ≠ 0 := w
        rw [if_neg w'] at tj
        have e5 : up (up s 0 0) 50 ((L + tbc n j : Nat) : Int) 50 = ((L + tbc n j : Nat) : Int) := up_at _ _ _
        refine k610_82 (z7 := ((L + tbc n j : Nat) : Int)) (z18 := ((L + tbc n j : Nat) : Int)) v.1 (Ra_text v) ((hp_ne (Ra_text v) (by decide)).trans v.1) (k610_110 ?_) (n8 := by
          show some (vi (up (up s 0 0) 50 ((L + tbc n j : Nat) : Int) 50)) = _
          rw [e5]) (n19 := by
          show some (vi (up (up s 0 0) 50 ((L + tbc n j : Nat) : Int) 50)) = _
          rw [e5]) (c12 := by rw [mk_len]; omega) (c13 := by omega) (c14 := by unfold In3; omega)
        rw [mk_set]
        have v2 := Rp_text v (fun t => if t = ((L + tbc n j : Nat) : Int).toNat then tbb n j else B 1333 t)
        have v3 := RV_fld v2 (up (up (up s 0 0) 50 ((L + tbc n j : Nat) : Int)) 50 (((L + tbc n j : Nat) : Int) + 1)) (rF_50 _ (((L + tbc n j : Nat) : Int) + 1))
        have es : ((L + tbc n j : Nat) : Int) + 1 = ((L + tbc n (j + 1) : Nat) : Int) := by omega
        rw [up_upj, es] at v3
        rw [es]
        have := ih (j + 1) _ _ (by omega) v3 (FR_trans r (FR_trans (FR_put v (c := 1333) (by decide) (by decide) _) (FR_fld v2 _))) (fun x hx => by rw [up_ne _ _ hx]; exact o x hx) (by
          rw [up_at]
          show _ = if tbb n j = 0 then tbg n L (A 1333) j else fun t => if t = L + tbc n j then tbb n j else tbg n L (A 1333) j t
          rw [if_neg w']
          funext t
          rw [Int.toNat_natCast, g])
        rw [show 56 - 8 * ((j + 1 : Nat) : Int) = 56 - 8 * (j : Int) + -8 by omega] at this
        exact this
      · have w' : tbb n j = 0 := Classical.byContradiction w
        rw [if_pos w'] at tj
        have := ih (j + 1) B h' (by omega) (by rw [tj]; exact v) r o (by
          rw [g]
          show _ = if tbb n j = 0 then tbg n L (A 1333) j else fun t => if t = L + tbc n j then tbb n j else tbg n L (A 1333) j t
          rw [if_pos w'])
        rw [show 56 - 8 * ((j + 1 : Nat) : Int) = 56 - 8 * (j : Int) + -8 by omega] at this
        exact this
  have v2 : RV (hp h 1290 (1, 11, (rF s).set 0 (vi 0))) (up (up s 0 0) 50 ((L + tbc n 0 : Nat) : Int)) A := by
    have e : up (up s 0 0) 50 ((L + tbc n 0 : Nat) : Int) = up s 0 0 := by
      funext x
      by_cases hx : x = 50
      · rw [hx, up_at, e50]; rfl
      · rw [up_ne _ _ hx]
    rw [e]; exact v1
  have := put 8 0 A _ (Nat.zero_add 8) v2 r1 (fun _ _ => rfl) rfl
  exact this
theorem V_fault (hv : RV h s A) {x : Int} (hx : In3 x) : wm sw_P (d + 1) 446 [.index 1290, vi x] h (RA h (fun v s' A' => s' = up s 0 0 ∧ A' = A ∧ v = vi (if x = 0 then s 57 else if x = 1 then s 58 else -1))) := by
  refine wm_in (cd := sw_c446) (nL := 2) (hd := sw_h446) rfl rfl ?_
  have v1 := RV_fld hv (up s 0 0) (rF_0 s 0)
  have r1 := FR_fld hv (1, 11, (rF s).set 0 (vi 0))
  have fin : ∀ z : Int, z = (if x = 0 then s 57 else if x = 1 then s 58 else -1) → wr sw_P d sw_c446 sw_h446 (29, [.index 1290, vi x], [vi z], (hp h 1290 (1, 11, (rF s).set 0 (vi 0))), 0, 0) (RA h (fun v s' A' => s' = up s 0 0 ∧ A' = A ∧ v = vi (if x = 0 then s 57 else if x = 1 then s 58 else -1))) := fun z e => k446_29 ⟨vi z, _, _, A, v1, r1, ⟨rfl, rfl, by rw [e]⟩, rfl⟩
  refine k446_0 hv.1 (fun w => ?_) (fun w => ?_) (c7 := hx)
  · refine k446_16 (fun w2 => k446_28 (fin _ ?_)) (fun w2 => k446_21 (z5 := s 58) v1.1 (fin _ ?_)) (c1 := hx)
    · rw [if_neg w, if_neg w2]
    · rw [if_neg w, if_pos (Classical.byContradiction w2)]
  · exact k446_9 (z5 := s 57) v1.1 (fin _ (by rw [if_pos (Classical.byContradiction w)]))
theorem V_byteAt (hv : RV h s A) (hS : SX s A) {i : Nat} (hi2 : i < 1000) : wm sw_P (d + 1) 411 [.index 1290, vi (i : Int)] h (qr (vi (byt s A i)) h) := by
  refine wm_in (cd := sw_c411) (nL := 2) (hd := sw_h411) rfl rfl ?_
  have s52 := hS.1
  refine k411_0 (z5 := s 52) hv.1 (fun w => k411_17 (k411_18 ?_)) (fun w => k411_8 hv.1 (Ra_source hv) (k411_18 ?_) (c10 := by rw [mk_len]; omega) (c11 := by omega) (c12 := by unfold In3; omega)) (c7 := by unfold In3; omega) (c8 := by unfold In3; omega)
  · unfold byt
    rw [if_neg (by omega)]
  · rw [gi_mkn (by omega)]
    unfold byt
    rw [if_pos (by omega)]
noncomputable def isdz (b : Int) : Int := if 48 ≤ b ∧ b ≤ 57 then 1 else 0
theorem isdz_b (b : Int) : isdz b = 0 ∨ isdz b = 1 := by
  unfold isdz
  split
  · exact .inr rfl
  · exact .inl rfl
theorem isdz_1 {b : Int} (h : isd b) : isdz b = 1 := if_pos h
theorem isdz_0 {b : Int} (h : ¬ isd b) : isdz b = 0 := if_neg h
theorem V_isDigit (hv : RV h s A) (hS : SX s A) {i : Nat} (hi2 : i < 1000) : wm sw_P (d + 2) 475 [.index 1290, vi (i : Int)] h (qr (vi (isdz (byt s A i))) h) := by
  refine wm_in (cd := sw_c475) (nL := 2) (hd := sw_h475) rfl rfl ?_
  have b := byt_b hS i
  refine k475_0 hv.1 (wm_mono (wq_r ?_) (V_byteAt hv hS hi2))
  refine k475_5 (wm_mono (wq_r ?_) (t_in (in6_of (by omega) (by omega)) (by decide) (by decide))) (c1 := by unfold In3; omega)
  exact k475_15 rfl (c1 := isdz_b _)
theorem V_fail (hv : RV h s A) (hb : In3 (s 55)) {what place : Int} : wm sw_P (d + 1) 445 [.index 1290, vi what, vi place] h (RN h (fun s' A' => s' = flS s what place ∧ A' = A)) := by
  refine wm_in (cd := sw_c445) (nL := 3) (hd := sw_h445) rfl rfl ?_
  have v1 := RV_fld hv (up s 55 what) (rF_55 s what)
  have v2 := RV_fld v1 (up (up s 55 what) 56 place) (rF_56 (up s 55 what) place)
  refine k445_0 (z5 := s 55) hv.1 (fun w => k445_8 hv.1 v1.1 ?_) (fun w => k445_7 ?_) (c7 := hb)
  · exact ⟨_, _, A, v2, FR_trans (FR_fld hv (1, 11, (rF s).set 55 (vi what))) (FR_fld v1 _), ⟨(if_neg (by omega)).symm, rfl⟩, rfl⟩
  · exact ⟨h, s, A, hv, FR_refl h, ⟨(if_pos (by omega)).symm, rfl⟩, rfl⟩
/-- digits from a place on, at most so many -/
def dgS (s : Nat → Int) (A : Nat → Nat → Int) (i most n : Nat) (s' : Nat → Int) : Prop := n ≤ most ∧ (∀ k, k < n → isd (byt s A (i + k))) ∧ ((¬ isd (byt s A (i + n)) ∧ s' = s) ∨ (n = most ∧ isd (byt s A (i + n)) ∧ s' = flS s 2 ((i + n : Nat) : Int)))
theorem V_digits (hv : RV h s A) (hS : SX s A) (hb : In3 (s 55)) {i most : Nat} (hi2 : i < 500) (hm : most < 100) : wm sw_P (d + 3) 432 [.index 1290, vi (i : Int), vi (most : Int)] h (RA h (fun v s' A' => A' = A ∧ ∃ n : Nat, v = vi (n : Int) ∧ dgS s A i most n s')) := by
  refine wm_in (cd := sw_c432) (nL := 4) (hd := sw_h432) rfl rfl ?_
  have loop : ∀ (l n : Nat), n + l = most → (∀ k, k < n → isd (byt s A (i + k))) → wr sw_P (d + 2) sw_c432 sw_h432 (2, [.index 1290, vi (i : Int), vi (most : Int), vi (n : Int)], [], h, 0, 0) (RA h (fun v s' A' => A' = A ∧ ∃ n : Nat, v = vi (n : Int) ∧ dgS s A i most n s')) := by
    intro l
    induction l with
    | zero =>
      intro n hn g
      have en : n = most := by omega
      have iz := isdz_b (byt s A (i + n))
      refine k432_2 hv.1 (wm_mono (wq_r ?_) (V_isDigit hv hS (i := i + n) (by omega)))
      refine k432_9 (fun w => k432_33 ?_) (fun w => ?_) (c1 := by unfold In3; omega)
      · refine ⟨vi (n : Int), h, s, A, hv, FR_refl h, ⟨rfl, n, rfl, by omega, g, .inl ⟨fun w2 => ?_, rfl⟩⟩, rfl⟩
        rw [isdz_1 w2] at w
        exact absurd w (by decide)
      · refine k432_12 (fun w2 => absurd (by omega) w2) (fun _ => ?_) (c1 := by unfold In3; omega) (c2 := by unfold In3; omega)
        refine k432_17 hv.1 (wm_mono (wq_N (fun h1 s1 A1 v1 r1 φ => ?_)) (V_fail hv hb))
        obtain ⟨e1, e2⟩ := φ
        refine k432_25 ⟨vi (n : Int), h1, s1, A1, v1, r1, ⟨e2, n, rfl, by omega, g, .inr ⟨en, Classical.byContradiction (fun w2 => w ?_), by rw [e1]; rfl⟩⟩, rfl⟩
        exact isdz_0 w2
    | succ l ih =>
      intro n hn g
      have iz := isdz_b (byt s A (i + n))
      refine k432_2 hv.1 (wm_mono (wq_r ?_) (V_isDigit hv hS (i := i + n) (by omega)))
      refine k432_9 (fun w => k432_33 ?_) (fun w => ?_) (c1 := by unfold In3; omega)
      · refine ⟨vi (n : Int), h, s, A, hv, FR_refl h, ⟨rfl, n, rfl, by omega, g, .inl ⟨fun w2 => ?_, rfl⟩⟩, rfl⟩
        rw [isdz_1 w2] at w
        exact absurd w (by decide)
      · refine k432_12 (fun _ => k432_27 ?_) (fun w2 => absurd (by omega) w2) (c1 := by unfold In3; omega) (c2 := by unfold In3; omega)
        have := ih (n + 1) (by omega) (fun k hk => by
          by_cases q : k = n
          · rw [q]
            exact Classical.byContradiction (fun w2 => w (isdz_0 w2))
          · exact g k (by omega))
        exact this
  exact k432_0 (loop most 0 (Nat.zero_add _) (fun k hk => absurd hk (Nat.not_lt_zero k)))
theorem num_b {A : Nat → Nat → Int} {i : Nat} : ∀ n, (∀ k, k < n → 48 ≤ A 1334 (i + k) ∧ A 1334 (i + k) ≤ 57) → 0 ≤ num A i n ∧ num A i n < 10 ^ n
  | 0, _ => ⟨Int.le_refl 0, show (0 : Int) < 1 by decide⟩
  | n + 1, h => by
    have a := num_b n (fun k hk => h k (by omega))
    have b := h n (Nat.lt_succ_self n)
    show 0 ≤ 10 * num A i n + A 1334 (i + n) - 48 ∧ 10 * num A i n + A 1334 (i + n) - 48 < 10 ^ (n + 1)
    rw [Int.pow_succ]
    omega
theorem V_numberAt (hv : RV h s A) {i n : Nat} (hn : n ≤ 6) (hin : i + n ≤ 200) (g : ∀ k, k < n → 48 ≤ A 1334 (i + k) ∧ A 1334 (i + k) ≤ 57) : wm sw_P (d + 1) 540 [.index 1290, vi (i : Int), vi (n : Int)] h (qr (vi (num A i n)) h) := by
  refine wm_in (cd := sw_c540) (nL := 5) (hd := sw_h540) rfl rfl ?_
  have loop : ∀ (l k : Nat), k + l = n → wr sw_P d sw_c540 sw_h540 (5, [.index 1290, vi (i : Int), vi (n : Int), vi (num A i k), vi (k : Int)], [], h, 0, 0) (qr (vi (num A i n)) h) := by
    intro l
    induction l with
    | zero =>
      intro k hk
      have ek : k = n := by omega
      subst ek
      exact k540_5 (fun _ => k540_35 rfl) (fun w => absurd (by omega) w) (c1 := by unfold In3; omega) (c2 := by unfold In3; omega)
    | succ l ih =>
      intro k hk
      refine k540_5 (fun w => absurd w (by omega)) (fun _ => ?_) (c1 := by unfold In3; omega) (c2 := by unfold In3; omega)
      have e : gi (mk 200 (A 1334)) ((i : Int) + (k : Int)) = A 1334 (i + k) := by
        rw [show (i : Int) + (k : Int) = ((i + k : Nat) : Int) by omega, gi_mkn (by omega)]
      refine k540_11 hv.1 (Ra_source hv) ?_ (c10 := by rw [mk_len]; omega) (c11 := by omega) (c12 := by unfold In3; omega)
      rw [e]
      exact ih (k + 1) (by omega)
  exact k540_0 (loop n 0 (Nat.zero_add n))
end
