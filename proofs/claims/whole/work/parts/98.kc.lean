/-! the class's algebra: a divisor of two as a sum -/
theorem isG_fit {F G C : zp_R} (hG : isG F G C) {n : Nat} (dF : zp_deg F n) (dG : zp_deg G n) : zp_deg C n := by
  obtain ⟨⟨q1, e1⟩, ⟨q2, e2⟩, ⟨u, v, e3⟩, w⟩ := hG
  rcases w with w | ⟨m, m1, m2⟩
  · rw [w]
    exact fun i _ => zp_C00 i
  · by_cases q : m < n
    · exact deg_le m2 q
    · have z : ∀ {X Y : zp_R}, Y = zp_mul C X → zp_deg Y n → Y = zp_C 0 := fun {X Y} e d => by
        have := zp_zero_of (zp_monic_deg m1 m2 (W := X) (t := 0) (by rw [← e]; exact deg_le d (by omega)))
        rw [e, this, zp_mul0]
      rw [z e1 dF, z e2 dG] at e3
      have c0 : C.1 m = 0 := by
        rw [e3]
        show (zp_mul u (zp_C 0)).1 m + (zp_mul v (zp_C 0)).1 m = 0
        rw [zp_mul0, zp_mul0, zp_C00]
        decide
      rw [c0] at m1
      exact absurd m1 (by decide)
theorem exq {G f Q r q : zp_R} {n : Nat} (dG : dgp G n) (n6 : n < 176) (e : f = zp_add (zp_mul G Q) r) (dr : zp_deg r n) (e2 : f = zp_mul G q) : q = Q := by
  have hh := dgp_of dG (by omega)
  exact exact_div2 (p := G) (by omega) (dgp_deg dG (by omega)) e2 e (by rw [hh]; exact dr)
theorem dgp_no {f : zp_R} (h : f ≠ zp_C 0) {n : Nat} (dn : zp_deg f n) : ∃ m : Nat, dgp f m ∧ m < n := by
  obtain ⟨d, hd⟩ := dgp_ex n dn
  have d0 : 0 ≤ d := Int.not_lt.mp (fun w => h (dgp_0 hd w))
  refine ⟨d.toNat, by rw [show ((d.toNat : Nat) : Int) = d by omega]; exact hd, Nat.not_le.mp (fun q => hd.2.2 d.toNat (by omega) (dn _ q))⟩
/-- what setCombined comes to -/
def cmbX (z : Int) (F G X : zp_R) : Prop := (G = zp_C 0 → X = if z = 0 then zp_C 0 else zp_C (F.1 (hi F).toNat ^ 32001)) ∧ (G ≠ zp_C 0 → ∃ C S U v, isG F G C ∧ G = zp_mul C v ∧ zp_deg v 91 ∧ zp_deg S (hi v).toNat ∧ zp_deg U 176 ∧ zp_add (zp_mul S F) (zp_mul U G) = C ∧ X = if z = 0 then U else S)
theorem cx_h1 {R : Type} [Lean.Grind.CommRing R] (F G C u v S c : R) (e1 : F = C * u) (e2 : G = C * v) (e : 1 = S * u + c * v) : S * F + c * G = C := by grind
theorem cx_h2 {R : Type} [Lean.Grind.CommRing R] (F G C u v S c : R) (e1 : F = C * u) (e2 : G = C * v) (e : 1 = S * u + c * v) : C + (-1) * (S * F) = G * c := by grind
theorem cx_h3 {R : Type} [Lean.Grind.CommRing R] (u v w k : R) (e : v = w) (e2 : k * w = 1) : 1 = 0 * u + k * v := by grind
theorem cx_h4 {R : Type} [Lean.Grind.CommRing R] (x y : R) : x + y * 0 = x := by grind
theorem cx_lq {R : Type} [Lean.Grind.CommRing R] (u F v : R) : u * F + v * 0 = F * u := by grind
theorem cx_as {R : Type} [Lean.Grind.CommRing R] (a b c : R) : a * b * c = a * (b * c) := by grind
theorem cx_ad {R : Type} [Lean.Grind.CommRing R] (a b : R) : a + b = b + a := by grind
theorem cx_inv {x y z : zp_F} (h1 : x * y = 1) (h2 : y * z = 1) : x = z := by grind
theorem nF_m1 : zp_C (nF 32002) = zp_neg (zp_C 1) := zp_ext (fun i => by
  show (if i = 0 then nF 32002 else 0) = - (if i = 0 then (1 : zp_F) else 0)
  by_cases q : i = 0
  · rw [if_pos q, if_pos q]; decide +kernel
  · rw [if_neg q, if_neg q]; decide +kernel)
theorem dgp_mo {C : zp_R} (h : mo C) : ∃ m : Nat, dgp C m ∧ C.1 m = 1 := by
  obtain ⟨m, m1, m2⟩ := h
  refine ⟨m, ⟨by omega, fun i hi2 => m2 i (by omega), fun i hi2 => ?_⟩, m1⟩
  have : m = i := by omega
  subst this
  rw [m1]
  decide
/-- the number that makes F monic, when F and C divide each other and C is monic -/
theorem lead_q {F C u q : zp_R} {m n : Nat} (dF : dgp F m) (dC : dgp C n) (c1 : C.1 n = 1) (e1 : C = zp_mul F u) (e2 : F = zp_mul C q) (du : ∃ d, dgp u d) (dq : ∃ d, dgp q d) : u = zp_C (F.1 m ^ 32001) := by
  obtain ⟨x, hx⟩ := du
  obtain ⟨y, hy⟩ := dq
  have C0 : C ≠ zp_C 0 := fun w => by rw [w, zp_C00] at c1; exact absurd c1 (by decide)
  have F0 : F ≠ zp_C 0 := fun w => C0 (by rw [e1]; exact zp_mul_0 (.inl w))
  have x0 : 0 ≤ x := Int.not_lt.mp (fun w => C0 (by rw [e1]; exact zp_mul_0 (.inr (dgp_0 hx w))))
  have y0 : 0 ≤ y := Int.not_lt.mp (fun w => F0 (by rw [e2]; exact zp_mul_0 (.inr (dgp_0 hy w))))
  have d1 := dgp_mul dF hx (by omega) x0
  rw [← e1] at d1
  have d2 := dgp_mul dC hy (by omega) y0
  rw [← e2] at d2
  have a1 := dgp_one dC d1
  have a2 := dgp_one dF d2
  have xz : x = 0 := by omega
  have mn : m = n := by omega
  subst mn xz
  have eu : u = zp_C (u.1 0) := zp_ext (fun i => by
    show u.1 i = if i = 0 then u.1 0 else 0
    by_cases q : i = 0
    · rw [if_pos q, q]
    · rw [if_neg q]
      exact hx.2.1 i (by omega))
  have t : C.1 m = u.1 0 * F.1 m := by
    have h1 : zp_mul F u = zp_mul (zp_C (u.1 0)) F := (congrArg (zp_mul F) eu).trans (@zp_h20 zp_R zp_ring F (zp_C (u.1 0)))
    rw [e1, h1]
    exact zp_C_mul1 _ _ _
  rw [eu]
  have ne := dF.2.2 m rfl
  have t2 : u.1 0 * F.1 m = 1 := by rw [← t, c1]
  have i1 := zp_inv ne
  exact congrArg zp_C (cx_inv t2 i1)
section
variable {D : Nat} {h : s_H} {k : Nat}
theorem u_setCombined (A : AL h k) (hk : k + 8 < 16) {a b o La Lb : Nat} {F G : zp_R} (ha : PF h a La F) (hb : PF h b Lb G) (ho : PE h o 192) (oa : okp k a) (ob : okp k b) (oo : 39 ≤ o) (ao : apt a o) (bo : apt b o) (dF : zp_deg F 91) (dG : zp_deg G 91) (ne : ¬ (F = zp_C 0 ∧ G = zp_C 0)) {z : Int} (iz : In3 z) : wm sw_P (D + 4) 115 [.index 5, .index a, .index b, vi z, .index o] h (AN [o] k h (fun h' => ∃ X, cmbX z F G X ∧ PF h' o 192 X)) := by
  refine wm_in (cd := sw_c115) (nL := 9) (hd := sw_h115) rfl rfl ?_
  refine k115_0 (z5 := (k : Int)) A.1 (r_lend (RW_0 A (by omega)) (FA_refl [] k h) (by omega) (fun h1 R1 E1 => ?_))
  refine k115_10 R1.1.1 (r_lend R1 E1 (by omega) (fun h2 R2 E2 => ?_))
  refine k115_16 R2.1.1 (r_lend R2 E2 (by omega) (fun h3 R3' E3 => ?_))
  have R3 : RW h3 k 3 [zp_C 0, zp_C 0, zp_C 0] := R3'
  have dC : ∀ {C}, isG F G C → zp_deg C 91 := fun gC => isG_fit gC dF dG
  refine k115_22 R3.1.1 (r_common R3 E3 (by omega) 0 (by decide) (PF_A ha E3 oa nilA) (PF_A hb E3 ob nilA) (okp_le oa (by omega)) (okp_le ob (by omega)) (fD dF (by omega)) (fD dG (by omega)) (fun C gC => fD (dC gC) (by omega)) (fun C h4 gC R4' E4 => ?_))
  have R4 : RW h4 k 3 [C, zp_C 0, zp_C 0] := R4'
  have dC1 := dC gC
  have mC : mo C := by
    rcases gC.2.2.2 with w | w
    · exfalso
      obtain ⟨⟨q1, e1⟩, ⟨q2, e2⟩, _⟩ := gC
      exact ne ⟨by rw [e1]; exact zp_mul_0 (.inl w), by rw [e2]; exact zp_mul_0 (.inl w)⟩
    · exact w
  obtain ⟨mc, dC2, c1⟩ := dgp_mo mC
  have mc91 : mc < 91 := Nat.not_le.mp (fun q => dC2.2.2 mc rfl (dC1 mc q))
  -- the end, out holds X
  have fin : ∀ (h' : s_H) (X : zp_R) (l : List zp_R), RW h' k 3 l → FA [o] k h h' → PF h' o 192 X → cmbX z F G X → wr sw_P (D + 3) sw_c115 sw_h115 (150, [.index 5, .index a, .index b, vi z, .index o, vi (k : Int), .index (7 + 2 * (k + 0)), .index (7 + 2 * (k + 1)), .index (7 + 2 * (k + 2))], [], h', 0, 0) (AN [o] k h (fun h' => ∃ X, cmbX z F G X ∧ PF h' o 192 X)) := fun h' X l R E P hX => by
    refine k115_150 R.1.1 (r_release R E (fun h'' A'' of E'' => k115_156 ⟨h'', ⟨X, hX, PF_off P of (by omega)⟩, E'', A'', rfl⟩))
  -- a row is put down
  have put : ∀ (h' : s_H) (X : zp_R) (l : List zp_R) (S : zp_R), RW h' k 3 l → FA [] k h h' → l[2]? = some S → (z ≠ 0 → cmbX z F G S) → z ≠ 0 → wr sw_P (D + 3) sw_c115 sw_h115 (94, [.index 5, .index a, .index b, vi z, .index o, vi (k : Int), .index (7 + 2 * (k + 0)), .index (7 + 2 * (k + 1)), .index (7 + 2 * (k + 2))], [], h', 0, 0) (AN [o] k h (fun h' => ∃ X, cmbX z F G X ∧ PF h' o 192 X)) := fun h' _ l S R E e hX z0 => by
    have ho' := PE_A ho E (.inr oo) nilA
    obtain ⟨d, _, _, b, _⟩ := id (RW_p R 2 e)
    refine k115_94 (PE_c ho') (wm_mono (wq_U (fun h'' P F => k115_101 ?_)) (u_setCopy ho' (RW_p R 2 e) (apt_s (aX (.inr oo) (by omega))) b (fP (RW_p R 2 e) (by omega) d b)))
    exact fin h'' S l (RW_xU R F (fun p hp => by rw [List.mem_singleton.mp hp]; exact oo)) (FA_trans (FA_0 E (Nat.le_refl _)) (FA_of F)) P (hX z0)
  have hb4 := PF_A hb E4 ob nilA
  obtain ⟨eg, gg, Pg, bg, _, lg, lg'⟩ := id hb4
  have bg1 := bg.1
  by_cases G0 : G = zp_C 0
  · -- g is 0
    have eg1 := dgp_none G0 bg
    have F0 : F ≠ zp_C 0 := fun w => ne ⟨w, G0⟩
    obtain ⟨mf, dF2, mf91⟩ := dgp_no F0 dF
    have hF := dgp_of dF2 (by omega)
    obtain ⟨⟨q1, e1⟩, _, ⟨u, v, e3⟩, _⟩ := id gC
    have e3' : C = zp_mul F u := by
      rw [e3, G0]
      exact @cx_lq zp_R zp_ring _ _ _
    refine k115_32 (z5 := eg) Pg.2.1 (fun w => absurd w (by omega)) (fun _ => ?_) (c7 := by unfold In3; omega)
    have qX : ∀ {T W}, C = zp_add (zp_mul F T) W → zp_deg W mf → T = zp_C (F.1 mf ^ 32001) := fun {T W} e dW => by
      obtain ⟨nu, du⟩ := u.2
      obtain ⟨nq, dq⟩ := q1.2
      rw [← exq dF2 (by omega) e dW e3']
      exact lead_q dF2 dC2 c1 e3' e1 (dgp_ex nu du) (dgp_ex nq dq)
    refine k115_39 R4.1.1 (r_divided R4 E4 (by omega) 2 (by decide) (RW_p R4 0 rfl) (PF_A ha E4 oa nilA) (.inl ⟨by omega, by omega⟩) (okp_le oa (by omega)) dF2 (fD dC1 (by omega)) (z := 1) (by decide) (fun T W e dW => ?_) (fun T W h5 e dW R5' E5 => k115_49 ?_))
    · rw [if_neg (by decide), qX e dW]
      exact fD (zp_C_deg _) (by omega)
    · rw [if_neg (by decide)] at R5'
      have R5 : RW h5 k 3 [C, zp_C 0, T] := R5'
      have eT := qX e dW
      refine k115_90 (fun w => ?_) (fun w => put h5 T _ T R5 E5 rfl (fun z0 => ⟨fun _ => by rw [if_neg z0, hF]; exact eT, fun w => absurd G0 w⟩) w) (c1 := iz)
      have hb5 := PF_A hb E5 ob nilA
      have ho5 := PE_A ho E5 (.inr oo) nilA
      obtain ⟨eg', _, Pg', bg', _⟩ := id hb5
      have eg2 := dgp_none G0 bg'
      refine k115_104 (z5 := eg') Pg'.2.1 (fun w => absurd w (by omega)) (fun _ => ?_) (c7 := by unfold In3; omega)
      refine k115_111 (PE_c ho5) (wm_mono (wq_U (fun h6 P F6 => k115_117 ?_)) (u_setNumber ho5 (by decide) (x := 0) (by decide)))
      rw [nF_0] at P
      refine fin h6 _ _ (RW_xU R5 F6 (fun p hp => by rw [List.mem_singleton.mp hp]; exact oo)) (FA_trans (FA_0 E5 (Nat.le_refl _)) (FA_of F6)) P ⟨fun _ => (if_pos w).symm, fun w => absurd G0 w⟩
  · -- g isn't
    have eg1 : 0 ≤ eg := Int.not_lt.mp (fun w => G0 (dgp_0 bg w))
    obtain ⟨⟨u, e1⟩, ⟨v, e2⟩, _, _⟩ := id gC
    refine k115_32 (z5 := eg) Pg.2.1 (fun _ => ?_) (fun w => absurd eg1 w) (c7 := by unfold In3; omega)
    have dv91 : ∀ {X Y}, Y = zp_mul C X → zp_deg Y 91 → zp_deg X 91 := fun {X Y} e d => zp_monic_deg c1 (fun i hi2 => dC2.2.1 i (by omega)) (t := 91) (by rw [← e]; exact deg_le d (by omega))
    have du := dv91 e1 dF
    have dv := dv91 e2 dG
    have v0 : v ≠ zp_C 0 := fun w => G0 (by rw [e2, w, zp_mul0])
    obtain ⟨mv, dV, mv91⟩ := dgp_no v0 dv
    have hV := dgp_of dV (by omega)
    have cuv := isG_co gC mC e1 e2
    -- from 90 on
    have at90 : ∀ (h' : s_H) (S c : zp_R), RW h' k 3 [C, v, S] → FA [] k h h' → zp_C 1 = zp_add (zp_mul S u) (zp_mul c v) → zp_deg S mv → wr sw_P (D + 3) sw_c115 sw_h115 (90, [.index 5, .index a, .index b, vi z, .index o, vi (k : Int), .index (7 + 2 * (k + 0)), .index (7 + 2 * (k + 1)), .index (7 + 2 * (k + 2))], [], h', 0, 0) (AN [o] k h (fun h' => ∃ X, cmbX z F G X ∧ PF h' o 192 X)) := fun h' S c R E ec dS => by
      have ec1 := ec
      rw [zp_C1] at ec1
      have sum := @cx_h1 zp_R zp_ring F G C u v S c e1 e2 ec1
      have dif := @cx_h2 zp_R zp_ring F G C u v S c e1 e2 ec1
      have dS91 : zp_deg S 91 := deg_le dS (by omega)
      have dSF : zp_deg (zp_mul S F) 181 := zp_deg_mul (n := 90) (m := 90) dS91 dF
      have ebd : zp_deg (zp_add C (zp_mul (zp_C (nF 32002)) (zp_mul S F))) 181 := deg_add (deg_le dC1 (by omega)) (deg_Cm _ dSF)
      have dif' : zp_add C (zp_mul (zp_C (nF 32002)) (zp_mul S F)) = zp_mul G c := by
        rw [nF_m1, zp_C1]
        exact dif
      obtain ⟨mg, dG2, mg91⟩ := dgp_no G0 dG
      have hG' := dgp_of dG2 (by omega)
      have dc : zp_deg c 176 := by
        have c0 := @zp_monic_deg (zp_mul (zp_C (G.1 mg ^ 32001)) G) mg (by rw [zp_C_mul1, zp_h20]; exact zp_inv (dG2.2.2 mg rfl)) (deg_Cm _ (dgp_deg dG2 (by omega))) c 90 ?_
        · exact deg_le c0 (by omega)
        · have : zp_mul (zp_mul (zp_C (G.1 mg ^ 32001)) G) c = zp_mul (zp_C (G.1 mg ^ 32001)) (zp_mul G c) := @cx_as zp_R zp_ring _ _ _
          rw [this, ← dif']
          refine deg_Cm _ ?_
          have gm : mg = mc + mv := by
            have d1 := dgp_mul dC2 dV (by omega) (by omega)
            rw [← e2] at d1
            have := dgp_one dG2 d1
            omega
          have dSF2 : zp_deg (zp_mul S F) (mv + 90) := by
            by_cases m0 : mv = 0
            · have s0 : S = zp_C 0 := zp_zero_of (by rw [m0] at dS; exact dS)
              rw [zp_mul_0 (.inl s0)]
              exact fun i _ => zp_C00 i
            · exact deg_le (zp_deg_mul (n := mv - 1) (m := 90) (deg_le dS (by omega)) dF) (by omega)
          exact deg_add (deg_le (dgp_deg dC2 (n := mc + 1) (by omega)) (by omega)) (deg_le (deg_Cm _ dSF2) (by omega))
      have cmb : cmbX z F G (if z = 0 then c else S) := ⟨fun w => absurd w G0, fun _ => ⟨C, S, c, v, gC, e2, dv, by rw [hV]; exact dS, dc, sum, rfl⟩⟩
      refine k115_90 (fun w => ?_) (fun w => put h' S _ S R E rfl (fun z0 => by rw [if_neg z0] at cmb; exact cmb) w) (c1 := iz)
      rw [if_pos w] at cmb
      have hb5 := PF_A hb E ob nilA
      obtain ⟨eg', _, Pg', bg', _, lg2, lg3⟩ := id hb5
      have eg2 : 0 ≤ eg' := Int.not_lt.mp (fun w => G0 (dgp_0 bg' w))
      refine k115_104 (z5 := eg') Pg'.2.1 (fun _ => ?_) (fun w => absurd eg2 w) (c7 := by unfold In3; omega)
      refine k115_120 (RW_c R 1 rfl) (r_product R E 1 (by decide) (RW_p R 2 rfl) (PF_A ha E oa nilA) (aR (by decide)) (aX oa (by omega)) (fD dSF (by omega)) (fun h6 R6' E6 => ?_))
      have R6 : RW h6 k 3 [C, zp_mul S F, S] := R6'
      refine k115_128 (RW_c R6 1 rfl) (r_sum2 R6 E6 1 (by decide) (RW_p R6 0 rfl) rfl (aR (by decide)) (x := 32002) (by decide) (fD dC1 (by omega)) (fun h7 R7' E7 => ?_))
      have R7 : RW h7 k 3 [C, zp_add C (zp_mul (zp_C (nF 32002)) (zp_mul S F)), S] := R7'
      have ho7 := PE_A ho E7 (.inr oo) nilA
      refine k115_140 R7.1.1 (wm_mono (wq_AN (fun h8 ⟨T, W, e, dW, P⟩ F8 A8 => ?_)) (u_setDivided R7.1 (by omega) (RW_p R7 1 rfl) (PF_A hb E7 ob nilA) ho7 (.inl ⟨by omega, by omega⟩) (okp_le ob (by omega)) (.inr oo) dG2 (fD ebd (by omega)) (z := 1) (by decide) (fun T W e dW => ?_)))
      · rw [if_neg (by decide), ← exq dG2 (by omega) e dW dif']
        exact fD dc (by omega)
      · rw [if_neg (by decide), ← exq dG2 (by omega) e dW dif'] at P
        exact fin h8 c _ (RW_x R7 F8 A8 (fun p hp => by rw [List.mem_singleton.mp hp]; exact .inl oo)) (FA_trans (FA_0 E7 (Nat.le_refl _)) (FA_sub F8 (by omega) (fun p hp => .inl hp))) P cmb
    refine k115_52 R4.1.1 (r_divided R4 E4 (by omega) 1 (by decide) hb4 (RW_p R4 0 rfl) (okp_le ob (by omega)) (.inl ⟨by omega, by omega⟩) dC2 (fD dG (by omega)) (z := 1) (by decide) (fun T W e dW => ?_) (fun T W h5 e dW R5' E5 => ?_))
    · rw [if_neg (by decide), ← exq dC2 (by omega) e dW e2]
      exact fD dv (by omega)
    · rw [if_neg (by decide), ← exq dC2 (by omega) e dW e2] at R5'
      have R5 : RW h5 k 3 [C, v, zp_C 0] := R5'
      obtain ⟨ev, gv, Pv, bv, _, lv, lv'⟩ := id (RW_p R5 1 rfl)
      have ev1 := dgp_one bv dV
      refine k115_62 (z5 := ev) Pv.2.1 (fun w => ?_) (fun w => ?_) (c7 := by unfold In3; omega)
      · have m0 : mv = 0 := by omega
        subst m0
        have ev0 : v = zp_C (v.1 0) := zp_ext (fun i => by
          show v.1 i = if i = 0 then v.1 0 else 0
          by_cases q : i = 0
          · rw [if_pos q, q]
          · rw [if_neg q]
            exact dV.2.1 i (by omega))
        refine at90 h5 (zp_C 0) (zp_C (v.1 0 ^ 32001)) R5 E5 ?_ (fun i _ => zp_C00 i)
        have kk : zp_mul (zp_C (v.1 0 ^ 32001)) (zp_C (v.1 0)) = (letI := zp_ring; (1 : zp_R)) := by
          rw [zp_C_mul, zp_h20, zp_inv (dV.2.2 0 rfl), zp_C1]
        have := @cx_h3 zp_R zp_ring u v _ _ ev0 kk
        rw [zp_C1]
        exact this
      · refine k115_70 R5.1.1 (r_divided R5 E5 (by omega) 2 (by decide) (PF_A ha E5 oa nilA) (RW_p R5 0 rfl) (okp_le oa (by omega)) (.inl ⟨by omega, by omega⟩) dC2 (fD dF (by omega)) (z := 1) (by decide) (fun T W e dW => ?_) (fun T W h6 e dW R6' E6 => ?_))
        · rw [if_neg (by decide), ← exq dC2 (by omega) e dW e1]
          exact fD du (by omega)
        · rw [if_neg (by decide), ← exq dC2 (by omega) e dW e1] at R6'
          have R6 : RW h6 k 3 [C, v, u] := R6'
          obtain ⟨x, y, exy⟩ := cuv
          refine k115_80 R6.1.1 (r_inverse R6 E6 (by omega) 2 (by decide) (RW_p R6 2 rfl) (RW_p R6 1 rfl) (.inl ⟨by omega, by omega⟩) (.inl ⟨by omega, by omega⟩) dV (by omega) (by omega) (fD du (by omega)) ⟨y, x, exy.symm.trans (@cx_ad zp_R zp_ring _ _)⟩ (fun S h7 lS dS R7 E7 => ?_))
          obtain ⟨c, ec⟩ := lS
          exact at90 h7 S c R7 E7 ec dS
end
