/-! the class's algebra: setDivided, setCommon -/
theorem dgp_sc {f : zp_R} {c : zp_F} {e : Int} (hc : c ≠ 0) (h : dgp f e) : dgp (zp_mul (zp_C c) f) e := ⟨h.1, fun i hi2 => by
  rw [zp_C_mul1, h.2.1 i hi2, zp_0mul], fun i hi2 => by
  rw [zp_C_mul1]
  exact zp_F_mul0 hc (h.2.2 i hi2)⟩
theorem inv_ne {c : zp_F} (hc : c ≠ 0) : c ^ 32001 ≠ 0 := fun e => by
  have h1 := zp_inv hc
  rw [e, zp_0mul] at h1
  exact absurd h1 (by decide)
/-- made monic, told by the degree -/
def mkd (f : zp_R) (d : Int) : zp_R := if 0 ≤ d then zp_mul (zp_C (f.1 d.toNat ^ 32001)) f else f
theorem mkd_d {f : zp_R} {d : Int} (h : dgp f d) : dgp (mkd f d) d := by
  unfold mkd
  by_cases w : 0 ≤ d
  · rw [if_pos w]
    exact dgp_sc (inv_ne (h.2.2 d.toNat (by omega))) h
  · rw [if_neg w]
    exact h
theorem mkd_G {f g a b : zp_R} {d : Int} (ha : dgp a d) (hb : b = zp_C 0) (h1 : lin f g a) (h2 : lin a b f) (h3 : lin a b g) : isG f g (mkd a d) := by
  obtain ⟨u, v, e1⟩ := h1
  obtain ⟨p, q, e2⟩ := h2
  obtain ⟨x, y, e3⟩ := h3
  unfold mkd
  by_cases w : 0 ≤ d
  · rw [if_pos w]
    have ne := ha.2.2 d.toNat (by omega)
    have el : zp_mul (zp_C ((a.1 d.toNat) ^ 32001)) (zp_C (a.1 d.toNat)) = (letI := zp_ring; (1 : zp_R)) := by
      rw [zp_C_mul, zp_h20, zp_inv ne, zp_C1]
    refine ⟨⟨_, @lin_h3 zp_R zp_ring f a b p q _ _ el e2 hb⟩, ⟨_, @lin_h3 zp_R zp_ring g a b x y _ _ el e3 hb⟩, ⟨_, _, @lin_h4 zp_R zp_ring f g a u v _ e1⟩, .inr ⟨d.toNat, ?_, fun i hi2 => ?_⟩⟩
    · rw [zp_C_mul1, zp_h20, zp_inv ne]
    · rw [zp_C_mul1, ha.2.1 i (by omega), zp_0mul]
  · rw [if_neg w]
    exact ⟨⟨_, @lin_h7 zp_R zp_ring f a b p q e2 hb⟩, ⟨_, @lin_h7 zp_R zp_ring g a b x y e3 hb⟩, ⟨_, _, e1⟩, .inl (dgp_0 ha (by omega))⟩
section
variable {D : Nat} {h : s_H} {k : Nat}
/-- out becomes the quotient, or what is left -/
theorem u_setDivided (A : AL h k) (hk : k + 1 < 16) {a b o La Lb Lo : Nat} {F G : zp_R} (ha : PF h a La F) (hb : PF h b Lb G) (ho : PE h o Lo) (oa : okp k a) (ob : okp k b) (oo : okw k o Lo) {n : Nat} (dG : dgp G n) (dF : ∀ e, dgp F e → e < 192) {z : Int} (iz : In3 z) (fit : ∀ Q R, F = zp_add (zp_mul G Q) R → zp_deg R n → ∀ e, dgp (if z = 0 then R else Q) e → e < Lo) : wm sw_P (D + 2) 117 [.index 5, .index a, .index b, vi z, .index o] h (AN [o] k h (fun h' => ∃ Q R, F = zp_add (zp_mul G Q) R ∧ zp_deg R n ∧ PF h' o Lo (if z = 0 then R else Q))) := by
  have nil : ∀ {q : Nat} {p : Nat}, p ∈ ([] : List Nat) → apt q p := fun q => absurd q List.not_mem_nil
  refine wm_in (cd := sw_c117) (nL := 8) (hd := sw_h117) rfl rfl ?_
  have oo' := okw_p oo
  refine k117_0 (z5 := (k : Int)) A.1 (wm_mono (wq_AA (fun h1 ⟨A1, R1⟩ F1 => ?_)) (u_lend A (by omega)))
  have ha1 := PF_A ha F1 oa (fun _ q => nil q)
  have hb1 := PF_A hb F1 ob (fun _ q => nil q)
  have ho1 := PE_A ho F1 oo' (fun _ q => nil q)
  refine k117_10 A1.1 (wm_mono (wq_AA (fun h2 ⟨A2, T2⟩ F2 => ?_)) (u_lend A1 hk))
  have ha2 := PF_A ha1 F2 (okp_le oa (by omega)) (fun _ q => nil q)
  have hb2 := PF_A hb1 F2 (okp_le ob (by omega)) (fun _ q => nil q)
  have ho2 := PE_A ho1 F2 (okp_le oo' (by omega)) (fun _ q => nil q)
  have R2 := PF_A R1 F2 (.inl ⟨by omega, by omega⟩) (fun _ q => nil q)
  obtain ⟨dl, gl, Pl, _⟩ := id R2
  obtain ⟨da, ga, Pa, ba, ca⟩ := id ha2
  refine k117_16 Pl.2.1 (wm_mono (wq_U (fun h3 R3 F3 => ?_)) (u_setCopy (PF_E R2) ha2 (apt_row oa (Nat.le_refl _) (by omega)) ba (dF da ba)))
  have one : ∀ {q : Nat}, okp k q → ∀ p, p ∈ [7 + 2 * k] → apt q p := fun oq p hp => by rw [List.mem_singleton.mp hp]; exact apt_row oq (Nat.le_refl _) (by omega)
  have hb3 := PF_keep hb2 F3 (one ob)
  have ho3 := PE_keep ho2 F3 (one oo')
  have T3 := PF_keep T2 F3 (fun p hp => by rw [List.mem_singleton.mp hp]; unfold apt; omega)
  have A3 := AL_1 A2 F3 (okw_row (k := k + 1) (by omega)) (by omega) R3
  obtain ⟨db, gb, Pb, bb, cb, eb, lb⟩ := id hb3
  refine k117_24 Pb.2.1 (wm_mono (wq_r ?_) (u_lead hb3 dG))
  rw [if_pos (by omega), show ((n : Int).toNat) = n by omega]
  have vG := (G.1 n).isLt
  refine k117_31 (wm_mono (wq_r ?_) (u_inverseOf (v := (G.1 n).val) vG))
  rw [nF_val]
  have vI := (G.1 n ^ 32001 : zp_F).isLt
  obtain ⟨dl3, gl3, Pl3, _⟩ := id R3
  have hinv : nF ((G.1 n ^ 32001 : zp_F).val : Int) * G.1 n = 1 := by
    rw [nF_val, zp_h20]
    exact zp_inv (dG.2.2 n rfl)
  refine k117_34 Pl3.2.1 (wm_mono (fun out => ?_) (u_reduceBy R3 hb3 dG (apt_row ob (Nat.le_refl _) (by omega)) (v := ((G.1 n ^ 32001 : zp_F).val : Int)) ⟨by omega, by omega⟩ hinv (rq := some (7 + 2 * (k + 1))) (Lq := 192) (fun r hr => by
    have er : 7 + 2 * (k + 1) = r := Option.some.inj hr
    subst er
    exact ⟨PF_E T3, by unfold apt; omega, apt_row ob (by omega) (by omega), fun e he => by have := dF e he; omega⟩)))
  intro ⟨Q, R, e, dR, U⟩
  refine wq_U (fun h4 ⟨R4, T4⟩ F4 => ?_) out U
  have two : ∀ {q : Nat}, okp k q → ∀ p, p ∈ qtS (7 + 2 * k) (some (7 + 2 * (k + 1))) → apt q p := fun oq p hp => by
    rcases List.mem_cons.mp hp with w | w
    · rw [w]; exact apt_row oq (Nat.le_refl _) (by omega)
    · rw [List.mem_singleton.mp w]; exact apt_row oq (by omega) (by omega)
  have ho4 := PE_keep ho3 F4 (two oo')
  have A4 := AL_U A3 F4 (fun p hp => by
    rcases List.mem_cons.mp hp with w | w
    · rw [w]; exact .inr ⟨k, by omega, rfl, PF_E R4⟩
    · rw [List.mem_singleton.mp w]; exact .inr ⟨k + 1, by omega, rfl, PF_E T4⟩)
  have FF : FA [] k h h4 := FA_trans F1 (FA_trans (FA_sub F2 (by omega) (fun _ q => absurd q List.not_mem_nil)) (FA_trans (FA_U F3 (fun p hp => by rw [List.mem_singleton.mp hp]; exact .inr (by omega))) (FA_U F4 (fun p hp => by
    rcases List.mem_cons.mp hp with w | w
    · rw [w]; exact .inr (by omega)
    · rw [List.mem_singleton.mp w]; exact .inr (by omega)))))
  obtain ⟨⟨do4, go4, Po4, _⟩, _⟩ := id ho4
  have last : ∀ (i : Nat), k ≤ i → i < k + 2 → PF h4 (7 + 2 * i) 192 (if z = 0 then R else Q) → wr sw_P (D + 1) sw_c117 sw_h117 (52, [.index 5, .index a, .index b, vi z, .index o, vi (k : Int), .index (7 + 2 * k), .index (7 + 2 * (k + 1))], [.index (7 + 2 * i), .index o], h4, 0, 0) (AN [o] k h (fun h' => ∃ Q R, F = zp_add (zp_mul G Q) R ∧ zp_deg R n ∧ PF h' o Lo (if z = 0 then R else Q))) := fun i i1 i2 X => by
    obtain ⟨dx, gx, Px, bx, _⟩ := id X
    refine k117_52 Po4.2.1 (wm_mono (wq_U (fun h5 R5 F5 => ?_)) (u_setCopy ho4 X (apt_s (apt_row oo' i1 (by omega))) bx (fit Q R e dR dx bx)))
    have A5 := AL_1 A4 F5 (okw_le oo (k' := k + 2) (by omega)) (by omega) R5
    refine k117_55 A5.1 (wm_mono (wq_AN (fun h6 R6 F6 A6 => k117_61 ⟨h6, ⟨Q, R, e, dR, ?_⟩, ?_, A6, rfl⟩)) (u_release A5 (by omega)))
    · exact PF_A R5 F6 oo' (fun _ q => nil q)
    · exact FA_trans (FA_sub FF (Nat.le_refl _) (fun _ q => absurd q List.not_mem_nil)) (FA_trans (FA_of F5) (FA_sub F6 (Nat.le_refl _) (fun _ q => absurd q List.not_mem_nil)))
  refine k117_39 (fun w => k117_50 (last k (Nat.le_refl _) (by omega) ?_)) (fun w => k117_45 (last (k + 1) (by omega) (by omega) ?_)) (c2 := iz)
  · rw [if_pos w]; exact R4
  · rw [if_neg w]; exact T4
/-- out becomes the monic common divisor -/
theorem u_setCommon (A : AL h k) (hk : k + 1 < 16) {a b o La Lb Lo : Nat} {F G : zp_R} (ha : PF h a La F) (hb : PF h b Lb G) (ho : PE h o Lo) (oa : okp k a) (ob : okp k b) (oo : okw k o Lo) (dF : ∀ e, dgp F e → e < 192) (dG : ∀ e, dgp G e → e < 192) (fit : ∀ C, isG F G C → ∀ e, dgp C e → e < Lo) : wm sw_P (D + 2) 116 [.index 5, .index a, .index b, .index o] h (AN [o] k h (fun h' => ∃ C, isG F G C ∧ PF h' o Lo C)) := by
  have nil : ∀ {q : Nat} {p : Nat}, p ∈ ([] : List Nat) → apt q p := fun q => absurd q List.not_mem_nil
  refine wm_in (cd := sw_c116) (nL := 9) (hd := sw_h116) rfl rfl ?_
  have oo' := okw_p oo
  refine k116_0 (z5 := (k : Int)) A.1 (wm_mono (wq_AA (fun h1 ⟨A1, R1⟩ F1 => ?_)) (u_lend A (by omega)))
  have ha1 := PF_A ha F1 oa (fun _ q => nil q)
  have hb1 := PF_A hb F1 ob (fun _ q => nil q)
  have ho1 := PE_A ho F1 oo' (fun _ q => nil q)
  refine k116_10 A1.1 (wm_mono (wq_AA (fun h2 ⟨A2, T2⟩ F2 => ?_)) (u_lend A1 hk))
  have ha2 := PF_A ha1 F2 (okp_le oa (by omega)) (fun _ q => nil q)
  have hb2 := PF_A hb1 F2 (okp_le ob (by omega)) (fun _ q => nil q)
  have ho2 := PE_A ho1 F2 (okp_le oo' (by omega)) (fun _ q => nil q)
  have R2 := PF_A R1 F2 (.inl ⟨by omega, by omega⟩) (fun _ q => nil q)
  obtain ⟨dl, gl, Pl, _⟩ := id R2
  obtain ⟨da, ga, Pa, ba, ca⟩ := id ha2
  refine k116_16 Pl.2.1 (wm_mono (wq_U (fun h3 R3 F3 => ?_)) (u_setCopy (PF_E R2) ha2 (apt_row oa (Nat.le_refl _) (by omega)) ba (dF da ba)))
  have one : ∀ {q i : Nat}, okp k q → k ≤ i → i < k + 2 → ∀ p, p ∈ [7 + 2 * i] → apt q p := fun oq i1 i2 p hp => by rw [List.mem_singleton.mp hp]; exact apt_row oq i1 (by omega)
  have hb3 := PF_keep hb2 F3 (one ob (Nat.le_refl _) (by omega))
  have ho3 := PE_keep ho2 F3 (one oo' (Nat.le_refl _) (by omega))
  have T3 := PF_keep T2 F3 (fun p hp => by rw [List.mem_singleton.mp hp]; unfold apt; omega)
  have A3 := AL_1 A2 F3 (okw_row (k := k + 1) (by omega)) (by omega) R3
  obtain ⟨dt, gt', Pt, _⟩ := id T3
  obtain ⟨db, gb, Pb, bb, cb⟩ := id hb3
  refine k116_24 Pt.2.1 (wm_mono (wq_U (fun h4 T4 F4 => ?_)) (u_setCopy (PF_E T3) hb3 (apt_row ob (by omega) (by omega)) bb (dG db bb)))
  have ho4 := PE_keep ho3 F4 (one oo' (by omega) (by omega))
  have R4 := PF_keep R3 F4 (fun p hp => by rw [List.mem_singleton.mp hp]; unfold apt; omega)
  have A4 := AL_1 A3 F4 (okw_row (k := k + 2) (by omega)) (by omega) T4
  have row : ∀ {i : Nat}, k ≤ i → i < k + 2 → ∀ p, p ∈ [7 + 2 * i] → p ∈ ([] : List Nat) ∨ (7 + 2 * k ≤ p ∧ p < 38) := fun i1 i2 p hp => by rw [List.mem_singleton.mp hp]; exact .inr (by omega)
  have FF : FA [] k h h4 := FA_trans F1 (FA_trans (FA_sub F2 (by omega) (fun _ q => absurd q List.not_mem_nil)) (FA_trans (FA_U F3 (row (Nat.le_refl _) (by omega))) (FA_U F4 (row (by omega) (by omega)))))
  -- the end
  have fin : ∀ (i j : Nat) (x y : zp_R) (t : Int) (t8 : Term) (h' : s_H), k ≤ i → i < k + 2 → AL h' (k + 2) → FA [] k h h' → PF h' (7 + 2 * i) 192 x → PE h' o Lo → y = zp_C 0 → lin F G x → lin x y F → lin x y G → wr sw_P (D + 1) sw_c116 sw_h116 (83, [.index 5, .index a, .index b, .index o, vi (k : Int), .index (7 + 2 * i), .index (7 + 2 * j), vi t, t8], [], h', 0, 0) (AN [o] k h (fun h' => ∃ C, isG F G C ∧ PF h' o Lo C)) := by
    intro i j x y t t8 h' i1 i2 A' F' X O ey l1 l2 l3
    obtain ⟨dx, gx, Px, bx, cx, ex, lx⟩ := id X
    have gG := mkd_G bx ey l1 l2 l3
    have b1 := bx.1
    obtain ⟨⟨d5, g5, P5, _⟩, _⟩ := id O
    refine k116_83 P5.2.1 (wm_mono (wq_U (fun h5 R5 F5 => ?_)) (u_setCopy O X (apt_s (apt_row oo' i1 (by omega))) bx (fit _ gG dx (mkd_d bx))))
    have A5 := AL_1 A' F5 (okw_le oo (k' := k + 2) (by omega)) (by omega) R5
    have X5 := PF_keep X F5 (fun p hp => by rw [List.mem_singleton.mp hp]; exact apt_s (apt_row oo' i1 (by omega)))
    have FF5 : FA [o] k h h5 := FA_trans (FA_sub F' (Nat.le_refl _) (fun _ q => absurd q List.not_mem_nil)) (FA_of F5)
    have rel : ∀ h6, PF h6 o Lo (mkd x dx) → AL h6 (k + 2) → FA [o] k h h6 → wr sw_P (D + 1) sw_c116 sw_h116 (109, [.index 5, .index a, .index b, .index o, vi (k : Int), .index (7 + 2 * i), .index (7 + 2 * j), vi t, t8], [], h6, 0, 0) (AN [o] k h (fun h' => ∃ C, isG F G C ∧ PF h' o Lo C)) := fun h6 R6 A6 F6 => by
      refine k116_109 A6.1 (wm_mono (wq_AN (fun h7 R7 F7 A7 => k116_115 ⟨h7, ⟨_, gG, ?_⟩, ?_, A7, rfl⟩)) (u_release A6 (by omega)))
      · exact PF_A R6 F7 oo' (fun _ q => nil q)
      · exact FA_trans F6 (FA_sub F7 (Nat.le_refl _) (fun _ q => absurd q List.not_mem_nil))
    obtain ⟨d5x, g5x, P5x, b5x, _⟩ := id X5
    have e5 := dgp_one b5x bx
    subst e5
    refine k116_89 (z5 := d5x) P5x.2.1 (fun w => ?_) (fun w => ?_) (c7 := by unfold In3; omega)
    · have em : mkd x d5x = x := by unfold mkd; rw [if_neg (by omega)]
      refine rel h5 ?_ A5 FF5
      rw [em]
      exact R5
    · refine k116_97 P5x.2.1 (wm_mono (wq_r ?_) (u_lead X5 bx))
      rw [if_pos (by omega)]
      have vX := (x.1 d5x.toNat).isLt
      refine k116_103 (wm_mono (wq_r ?_) (u_inverseOf (v := (x.1 d5x.toNat).val) vX))
      rw [nF_val]
      have vI := (x.1 d5x.toNat ^ 32001 : zp_F).isLt
      obtain ⟨d6, g6, P6, _⟩ := id R5
      refine k116_106 P6.2.1 (wm_mono (wq_U (fun h6 R6 F6 => ?_)) (u_scale R5 (x := ((x.1 d5x.toNat ^ 32001 : zp_F).val : Int)) ⟨by omega, by omega⟩))
      have em : mkd x d5x = zp_mul (zp_C (nF ((x.1 d5x.toNat ^ 32001 : zp_F).val : Int))) x := by unfold mkd; rw [if_pos (by omega), nF_val]
      refine rel h6 ?_ (AL_1 A5 F6 (okw_le oo (k' := k + 2) (by omega)) (by omega) R6) (FA_trans FF5 (FA_of F6))
      rw [em]
      exact R6
  have loop : ∀ (m t i j : Nat) (x y : zp_R) (t8 : Term) (h' : s_H), (i = k ∧ j = k + 1 ∨ i = k + 1 ∧ j = k) → t + m ≤ 384 → (∀ e, dgp y e → e < m) → AL h' (k + 2) → FA [] k h h' → PF h' (7 + 2 * i) 192 x → PF h' (7 + 2 * j) 192 y → PE h' o Lo → lin F G x → lin F G y → lin x y F → lin x y G → wr sw_P (D + 1) sw_c116 sw_h116 (33, [.index 5, .index a, .index b, .index o, vi (k : Int), .index (7 + 2 * i), .index (7 + 2 * j), vi (t : Int), t8], [], h', 0, 0) (AN [o] k h (fun h' => ∃ C, isG F G C ∧ PF h' o Lo C)) := by
    intro m
    induction m with
    | zero =>
      intro t i j x y t8 h' ij tm dm A' F' X Y O l1 l1' l2 l3
      obtain ⟨dy, gy, Py, by', _⟩ := id Y
      have dy0 := dm dy by'
      have ey := dgp_0 by' (by omega)
      have b1 := by'.1
      have go := fun (t : Int) => fin i j x y t t8 h' (by omega) (by omega) A' F' X O ey l1 l2 l3
      exact k116_33 (fun _ => go _) (fun _ => k116_41 (z5 := dy) Py.2.1 (fun _ => go _) (fun w => absurd (by omega) w) (c7 := by unfold In3; omega)) (c1 := by unfold In3; omega)
    | succ m ih =>
      intro t i j x y t8 h' ij tm dm A' F' X Y O l1 l1' l2 l3
      obtain ⟨dy, gy, Py, by', cy, ey', ly⟩ := id Y
      have b1 := by'.1
      have dy0 := dm dy by'
      refine k116_33 (fun w => absurd w (by omega)) (fun _ => ?_) (c1 := by unfold In3; omega)
      refine k116_41 (z5 := dy) Py.2.1 (fun w => ?_) (fun w => ?_) (c7 := by unfold In3; omega)
      · exact fin i j x y t t8 h' (by omega) (by omega) A' F' X O (dgp_0 by' w) l1 l2 l3
      · obtain ⟨n, en⟩ : ∃ n : Nat, dy = n := ⟨dy.toNat, by omega⟩
        subst en
        have aij : apt (7 + 2 * j) (7 + 2 * i) := by unfold apt; omega
        refine k116_49 Py.2.1 (wm_mono (wq_r ?_) (u_lead Y by'))
        rw [if_pos (by omega), show ((n : Int).toNat) = n by omega]
        have vY := (y.1 n).isLt
        refine k116_58 (wm_mono (wq_r ?_) (u_inverseOf (v := (y.1 n).val) vY))
        rw [nF_val]
        have vI := (y.1 n ^ 32001 : zp_F).isLt
        have hinv : nF ((y.1 n ^ 32001 : zp_F).val : Int) * y.1 n = 1 := by
          rw [nF_val, zp_h20]
          exact zp_inv (by'.2.2 n rfl)
        obtain ⟨dx, gx, Px, _⟩ := id X
        refine k116_61 Px.2.1 (wm_mono (fun out => ?_) (u_reduceBy X Y by' aij (v := ((y.1 n ^ 32001 : zp_F).val : Int)) ⟨by omega, by omega⟩ hinv (rq := none) (Lq := 0) (fun r hr => nomatch hr)))
        intro ⟨Q, R, e, dR, U⟩
        refine wq_U (fun h5 ⟨R5, _⟩ F5 => k116_65 ?_) out U
        have F5' : FU [7 + 2 * i] h' h5 := F5
        have Y5 := PF_keep Y F5' (fun p hp => by rw [List.mem_singleton.mp hp]; exact aij)
        have O5 := PE_keep O F5' (one oo' (by omega) (by omega))
        have A5 := AL_1 A' F5' (okw_row (k := k + 2) (by omega)) (by omega) R5
        exact ih (t + 1) j i y R _ h5 (by omega) (by omega) (fun e' he => by
          have b2 := he.1
          refine Int.not_le.mp (fun q => ?_)
          exact he.2.2 e'.toNat (by omega) (dR _ (by omega))) A5 (FA_trans F' (FA_U F5' (row (by omega) (by omega)))) Y5 R5 O5 l1' (lin_step e l1 l1') (lin_back e l2) (lin_back e l3)
  exact k116_30 (loop 192 0 k (k + 1) F G _ h4 (.inl ⟨rfl, rfl⟩) (by omega) dG A4 FF R4 T4 ho4 (lin_l F G) (lin_r F G) (lin_l F G) (lin_r F G))
end
