/-! the class's algebra: slopes -/
theorem PW_E {h : s_H} {p L : Nat} {f : zp_R} (h1 : PW h p L f) : PE h p L := by
  obtain ⟨d, g, a, b, _, c, e⟩ := h1
  refine ⟨⟨d, g, a, ?_, c⟩, e⟩
  rcases b with b | b
  · have := b.1; omega
  · exact b.2.1
theorem AL_1E {k k1 p L : Nat} {h h' : s_H} (A : AL h k) (a : FU [p] h h') (o : okw k1 p L) (k16 : k1 ≤ 16) (P : PE h' p L) : AL h' k := AL_U A a (fun q hq => by
  rw [List.mem_singleton.mp hq]
  rcases o with ⟨i, h1, h2, h3⟩ | o
  · subst h3
    exact .inr ⟨i, by omega, h2, P⟩
  · exact .inl o)
theorem mul_fit2 {f g : zp_R} {n m : Nat} (df : zp_deg f n) (dg : zp_deg g m) {L : Int} (hL : (n : Int) + m ≤ L) : ∀ e, dgp (zp_mul f g) e → e < L := fun e he => Int.not_le.mp (fun q => he.2.2 e.toNat (by omega) (zp_c_lt df dg (by omega)))
theorem Dn_deg {f : zp_R} {n : Nat} (df : zp_deg f n) : zp_deg (zp_D f) n := fun i hi2 => by
  show zp_nat (i + 1) * f.1 (i + 1) = 0
  rw [df (i + 1) (by omega)]
  exact zp_h15 _
section
variable {D : Nat} {h : s_H} {p L : Nat}
theorem u_trimN {d : Int} {g : Nat → Int} (P : PO h p L d g) (lL : L ≤ 1000) {x : Int} (hx : -1000 ≤ x ∧ x < 0) : wm sw_P (D + 1) 186 [.index p, vi x] h (UN [p] h (fun h' => PO h' p L x g)) := by
  refine wm_in (cd := sw_c186) (nL := 3) (hd := sw_h186) rfl rfl ?_
  have hlen : ((mk L g).map vi).length = L := by rw [List.length_map, mk_len]
  obtain ⟨P1, F1⟩ := PO_d P x
  refine k186_0 (a8 := (mk L g).map vi) (tg10 := 0) P.2.1 P.2.2 (fun w => absurd w (by rw [hlen]; omega)) (fun _ => k186_9 (k186_20 ?_)) (c11 := by unfold In3; omega) (c12 := by rw [hlen]; unfold In3; omega)
  exact k186_21 (fun _ => k186_40 P.2.1 ⟨_, P1, F1, rfl⟩ (c6 := P.1)) (fun w => absurd hx.2 w) (c1 := by unfold In3; omega)
theorem u_makeSlopeW {f : zp_R} (hf : PF h p L f) : wm sw_P (D + 2) 174 [.index p] h (UN [p] h (fun h' => PW h' p L (zp_D f))) := by
  obtain ⟨d, g, P, b, c, eL, lL⟩ := id hf
  have b1 := b.1
  by_cases d0 : 0 ≤ d
  · refine wm_mono (fun out => ?_) (u_makeSlope hf b d0 (by omega))
    intro ⟨h', a1, a2, a3⟩
    exact ⟨h', PF_W a1, a2, a3⟩
  · have f0 := dgp_0 b (by omega)
    have D0 : zp_D f = zp_C 0 := by
      rw [f0]
      refine zp_ext (fun i => ?_)
      show zp_nat (i + 1) * (zp_C 0).1 (i + 1) = (zp_C 0).1 i
      rw [zp_C00, zp_C00]
      exact zp_h15 _
    refine wm_in (cd := sw_c174) (nL := 2) (hd := sw_h174) rfl rfl ?_
    refine k174_0 (k174_2 (z5 := d) P.2.1 (fun _ => k174_36 (z5 := d) P.2.1 (wm_mono (wq_U (fun h2 H F => k174_46 ⟨h2, ?_, F, rfl⟩)) (u_trimN P lL (x := d - 1) (by omega)))) (fun w => absurd (by omega) w) (c7 := by decide) (c8 := by unfold In3; omega))
    rw [D0]
    exact ⟨d - 1, g, H, .inr ⟨rfl, by omega, by omega⟩, fun i hi2 => absurd hi2 (by omega), by omega, lL⟩
end
/-- the top of a slope, times what the bottom's part counts -/
def slT (w : Int) (N B : zp_R) : zp_R := zp_add (zp_mul (zp_D N) B) (zp_mul (zp_C (nF (32003 - w))) (zp_mul N (zp_D B)))
section
variable {D : Nat} {h : s_H} {k : Nat}
theorem u_setSlopeTop (A : AL h k) (hk : k + 2 < 16) {a b La Lb i : Nat} {N B : zp_R} (ha : PF h a La N) (hb : PF h b Lb B) (oa : okp k a) (ob : okp k b) (ik : i < k) {w : Int} (hw : 0 ≤ w ∧ w ≤ 32003) (dN : zp_deg N 91) (dB : zp_deg B 91) : wm sw_P (D + 3) 120 [.index 5, .index a, .index b, vi w, .index (7 + 2 * i)] h (AN [7 + 2 * i] k h (fun h' => PF h' (7 + 2 * i) 192 (slT w N B))) := by
  refine wm_in (cd := sw_c120) (nL := 9) (hd := sw_h120) rfl rfl ?_
  have nila : ∀ {q : Nat}, ∀ p, p ∈ ([] : List Nat) → apt q p := fun _ q => absurd q List.not_mem_nil
  have rowr : ∀ {i j : Nat}, i ≠ j → ∀ p, p ∈ [7 + 2 * j] → apt (7 + 2 * i) p := fun ne p hp => by rw [List.mem_singleton.mp hp]; unfold apt; omega
  have rowk : ∀ {q j : Nat}, okp k q → k ≤ j → j < 16 → ∀ p, p ∈ [7 + 2 * j] → apt q p := fun oq j1 j2 p hp => by rw [List.mem_singleton.mp hp]; exact apt_row oq j1 j2
  have rowf : ∀ {j : Nat}, k ≤ j → j < 16 → ∀ p, p ∈ [7 + 2 * j] → p ∈ [7 + 2 * i] ∨ (7 + 2 * k ≤ p ∧ p < 38) := fun i1 i2 p hp => by rw [List.mem_singleton.mp hp]; exact .inr (by omega)
  have e0 : 0 < 192 := by decide
  have lo : ∀ {f : zp_R}, zp_deg f 91 → ∀ e, dgp f e → e < 192 := fun df e he => Int.not_le.mp (fun q => he.2.2 e.toNat (by omega) (df e.toNat (by omega)))
  refine k120_0 (z5 := (k : Int)) A.1 (wm_mono (wq_AA (fun h1 ⟨A1, S1⟩ F1 => ?_)) (u_lend A (by omega)))
  refine k120_10 A1.1 (wm_mono (wq_AA (fun h2 ⟨A2, O2⟩ F2 => ?_)) (u_lend A1 (by omega)))
  refine k120_16 A2.1 (wm_mono (wq_AA (fun h3 ⟨A3, R3⟩ F3 => ?_)) (u_lend A2 (by omega)))
  have S3 := PF_A (PF_A S1 F2 (.inl ⟨by omega, by omega⟩) nila) F3 (.inl ⟨by omega, by omega⟩) nila
  have O3 := PF_A O2 F3 (.inl ⟨by omega, by omega⟩) nila
  have ha3 := PF_A (PF_A (PF_A ha F1 oa nila) F2 (okp_le oa (by omega)) nila) F3 (okp_le oa (by omega)) nila
  have hb3 := PF_A (PF_A (PF_A hb F1 ob nila) F2 (okp_le ob (by omega)) nila) F3 (okp_le ob (by omega)) nila
  have FF3 : FA [7 + 2 * i] k h h3 := FA_trans (FA_sub F1 (Nat.le_refl _) (fun _ q => absurd q List.not_mem_nil)) (FA_trans (FA_sub F2 (by omega) (fun _ q => absurd q List.not_mem_nil)) (FA_sub F3 (by omega) (fun _ q => absurd q List.not_mem_nil)))
  obtain ⟨ea, _, _, ba, _⟩ := id ha
  obtain ⟨eb, _, _, bb, _⟩ := id hb
  obtain ⟨_, _, PS3, _⟩ := id S3
  refine k120_22 PS3.2.1 (wm_mono (wq_U (fun h4 S4 F4 => ?_)) (u_setCopy (PF_E S3) ha3 (apt_row oa (Nat.le_refl _) (by omega)) ba (lo dN ea ba)))
  have A4 := AL_1 A3 F4 (okw_row (k := k + 3) (by omega)) (by omega) S4
  have ha4 := PF_keep ha3 F4 (rowk oa (Nat.le_refl _) (by omega))
  have hb4 := PF_keep hb3 F4 (rowk ob (Nat.le_refl _) (by omega))
  have O4 := PF_keep O3 F4 (rowr (by omega))
  have R4 := PF_keep R3 F4 (rowr (by omega))
  obtain ⟨_, _, PS4, _⟩ := id S4
  refine k120_30 PS4.2.1 (wm_mono (wq_U (fun h5 S5 F5 => ?_)) (u_makeSlopeW S4))
  have A5 := AL_1E A4 F5 (okw_row (k := k + 3) (by omega)) (by omega) (PW_E S5)
  have ha5 := PF_keep ha4 F5 (rowk oa (Nat.le_refl _) (by omega))
  have hb5 := PF_keep hb4 F5 (rowk ob (Nat.le_refl _) (by omega))
  have O5 := PF_keep O4 F5 (rowr (by omega))
  have R5 := PF_keep R4 F5 (rowr (by omega))
  obtain ⟨_, _, PR5, _⟩ := id R5
  refine k120_35 PR5.2.1 (wm_mono (wq_U (fun h6 R6 F6 => ?_)) (u_setProduct (PF_E R5) e0 S5 (PF_W hb5) (by unfold apt; omega) (apt_row ob (by omega) (by omega)) (mul_fit2 (Dn_deg dN) dB (by decide))))
  have A6 := AL_1 A5 F6 (okw_row (k := k + 3) (by omega)) (by omega) R6
  have ha6 := PF_keep ha5 F6 (rowk oa (by omega) (by omega))
  have hb6 := PF_keep hb5 F6 (rowk ob (by omega) (by omega))
  have O6 := PF_keep O5 F6 (rowr (by omega))
  have S6 := PW_keep S5 F6 (rowr (by omega))
  obtain ⟨_, _, PS6, _⟩ := id S6
  refine k120_43 PS6.2.1 (wm_mono (wq_U (fun h7 S7 F7 => ?_)) (u_setCopy (PW_E S6) hb6 (apt_row ob (Nat.le_refl _) (by omega)) bb (lo dB eb bb)))
  have A7 := AL_1 A6 F7 (okw_row (k := k + 3) (by omega)) (by omega) S7
  have ha7 := PF_keep ha6 F7 (rowk oa (Nat.le_refl _) (by omega))
  have O7 := PF_keep O6 F7 (rowr (by omega))
  have R7 := PF_keep R6 F7 (rowr (by omega))
  obtain ⟨_, _, PS7, _⟩ := id S7
  refine k120_49 PS7.2.1 (wm_mono (wq_U (fun h8 S8 F8 => ?_)) (u_makeSlopeW S7))
  have A8 := AL_1E A7 F8 (okw_row (k := k + 3) (by omega)) (by omega) (PW_E S8)
  have ha8 := PF_keep ha7 F8 (rowk oa (Nat.le_refl _) (by omega))
  have O8 := PF_keep O7 F8 (rowr (by omega))
  have R8 := PF_keep R7 F8 (rowr (by omega))
  obtain ⟨_, _, PO8, _⟩ := id O8
  refine k120_54 PO8.2.1 (wm_mono (wq_U (fun h9 O9 F9 => ?_)) (u_setProduct (PF_E O8) e0 (PF_W ha8) S8 (apt_row oa (by omega) (by omega)) (by unfold apt; omega) (mul_fit2 dN (Dn_deg dB) (by decide))))
  have A9 := AL_1 A8 F9 (okw_row (k := k + 3) (by omega)) (by omega) O9
  have R9 := PF_keep R8 F9 (rowr (by omega))
  have W9 := A9.2.2 i (by omega)
  obtain ⟨⟨_, _, PW9, _⟩, _⟩ := id W9
  refine k120_62 PW9.2.1 (wm_mono (wq_U (fun h10 W10 F10 => ?_)) (u_setSum W9 R9 O9 (by unfold apt; omega) (by unfold apt; omega) (x := 32003 - w) (by omega) (PF_lt R9) (PF_lt O9)))
  have A10 := AL_1 A9 F10 (okw_row (k := k) ik) (by omega) W10
  refine k120_76 A10.1 (wm_mono (wq_AN (fun h11 o11 F11 A11 => k120_82 ⟨h11, PF_off W10 o11 (by omega), ?_, A11, rfl⟩)) (u_release A10 (by omega)))
  exact FA_trans FF3 (FA_trans (FA_U F4 (rowf (by omega) (by omega))) (FA_trans (FA_U F5 (rowf (by omega) (by omega))) (FA_trans (FA_U F6 (rowf (by omega) (by omega))) (FA_trans (FA_U F7 (rowf (by omega) (by omega))) (FA_trans (FA_U F8 (rowf (by omega) (by omega))) (FA_trans (FA_U F9 (rowf (by omega) (by omega))) (FA_trans (FA_of F10) (FA_sub F11 (Nat.le_refl _) (fun _ q => absurd q List.not_mem_nil)))))))))
theorem setS_off {h h' : s_H} {t : Nat} {F G : zp_R} (ot : 39 ≤ t) (H : setS h t F G) (o : ∀ j, j ≠ 5 → s_get h' j = s_get h j) : setS h' t F G := by
  obtain ⟨N, M, cc, w⟩ := H
  rcases w with ⟨w, l1, l2⟩ | ⟨w, l⟩
  · exact ⟨N, M, cc, .inl ⟨⟨⟨w.1.1, (o t (by omega)).trans w.1.2⟩, PF_off w.2.1 o (by omega), PF_off w.2.2 o (by omega)⟩, l1, l2⟩⟩
  · exact ⟨N, M, cc, .inr ⟨⟨⟨w.1.1, (o t (by omega)).trans w.1.2⟩, PE_off w.2.1 o (by omega), PE_off w.2.2 o (by omega)⟩, l⟩⟩
theorem u_slopeOf (A : AL h k) (hk : k + 4 < 16) {a t : Nat} {z : Int} {N B : zp_R} (ha : TRD h a N B) (T : OE h t z) (ot : 39 ≤ t) (dN : zp_deg N 91) (dB : zp_deg B 91) (B0 : B ≠ zp_C 0) : wm sw_P (D + 4) 122 [.index 5, .index a, .index t] h (AV [t, t + 1, t + 3] k h (.index t) (fun h' => setS h' t (slT 1 N B) (zp_mul B B))) := by
  refine wm_in (cd := sw_c122) (nL := 6) (hd := sw_h122) rfl rfl ?_
  have nila : ∀ {q : Nat}, ∀ p, p ∈ ([] : List Nat) → apt q p := fun _ q => absurd q List.not_mem_nil
  have nil38 : ∀ p, p ∈ ([] : List Nat) → p < 38 := fun _ q => absurd q List.not_mem_nil
  have nilt : ∀ p, p ∈ ([] : List Nat) → p + 1 < t ∨ t + 4 < p := fun _ q => absurd q List.not_mem_nil
  refine k122_0 (z5 := (k : Int)) A.1 (wm_mono (wq_AA (fun h1 ⟨A1, R1⟩ F1 => ?_)) (u_lend A (by omega)))
  refine k122_9 A1.1 (wm_mono (wq_AA (fun h2 ⟨A2, Q2⟩ F2 => ?_)) (u_lend A1 (by omega)))
  have ha2 := TRD_A (TRD_A ha F1 nil38) F2 nil38
  have T2 := OE_A (OE_A T F1 ot nilt) F2 ot nilt
  have FF2 : FA [t, t + 1, t + 3] k h h2 := FA_trans (FA_sub F1 (Nat.le_refl _) (fun _ q => absurd q List.not_mem_nil)) (FA_sub F2 (by omega) (fun _ q => absurd q List.not_mem_nil))
  obtain ⟨q, lq, r, lr, za, a0, q0, r0, ca, pn, pb⟩ := id ha2
  refine k122_15 ca A2.1 (wm_mono (wq_AN (fun h3 R3 F3 A3 => ?_)) (u_setSlopeTop A2 (by omega) pn pb (.inr q0) (.inr r0) (i := k) (by omega) (w := 1) (by decide) dN dB))
  have row : ∀ {j : Nat}, j < 16 → ∀ p, p ∈ [7 + 2 * j] → p < 38 := fun j2 p hp => by rw [List.mem_singleton.mp hp]; omega
  have rowt : ∀ {j : Nat}, j < 16 → ∀ p, p ∈ [7 + 2 * j] → p + 1 < t ∨ t + 4 < p := fun j2 p hp => by rw [List.mem_singleton.mp hp]; omega
  have ca3 : s_get h3 a = _ := (F3.2 a (fun p hp => by have := row (j := k) (by omega) p hp; omega) (by omega) (by omega)).trans ca
  have pb3 := PF_A pb F3 (.inr r0) (fun p hp => by have := row (j := k) (by omega) p hp; unfold apt; omega)
  have T3 := OE_A T2 F3 ot (rowt (by omega))
  have Q3 := A3.2.2 (k + 1) (by omega)
  obtain ⟨⟨_, _, PQ3, _⟩, _⟩ := id Q3
  refine k122_32 (q8 := 7 + 2 * (k + 1)) ca3 PQ3.2.1 (wm_mono (wq_U (fun h4 Q4 F4 => ?_)) (u_setProduct Q3 (by decide) (PF_W pb3) (PF_W pb3) (by unfold apt; omega) (by unfold apt; omega) (mul_fit2 dB dB (by decide))))
  have A4 := AL_1 A3 F4 (okw_row (k := k + 2) (by omega)) (by omega) Q4
  have R4 := PF_keep R3 F4 (fun p hp => by rw [List.mem_singleton.mp hp]; unfold apt; omega)
  have T4 := OE_keep T3 F4 (rowt (by omega))
  have BB : zp_mul B B ≠ zp_C 0 := fun e => by
    obtain ⟨d, _, _, b, _⟩ := pb
    have d0 : 0 ≤ d := Int.not_lt.mp (fun w => B0 (dgp_0 b w))
    have := dgp_none e (dgp_mul b b d0 d0)
    omega
  refine k122_45 A4.1 (wm_mono (wq_AV (fun h5 S5 F5 A5 => ?_)) (u_settle A4 (by omega) (i := k) (j := k + 1) (by omega) (by omega) (by omega) R4 Q4 BB T4 ot))
  refine k122_54 A5.1 (wm_mono (wq_AN (fun h6 o6 F6 A6 => k122_60 ⟨h6, setS_off ot S5 o6, ?_, A6, rfl⟩)) (u_release A5 (by omega)))
  refine FA_trans FF2 (FA_trans (FA_sub F3 (by omega) (fun p hp => .inr (by rw [List.mem_singleton.mp hp]; omega))) (FA_trans (FA_U F4 (fun p hp => .inr (by rw [List.mem_singleton.mp hp]; omega))) (FA_trans (FA_sub F5 (by omega) (fun p hp => ?_)) (FA_sub F6 (Nat.le_refl _) (fun _ q => absurd q List.not_mem_nil)))))
  rcases List.mem_cons.mp hp with w | w
  · exact .inr (by omega)
  · rcases List.mem_cons.mp w with w | w
    · exact .inr (by omega)
    · exact .inl w
theorem u_degreeOf {a : Nat} {N B : zp_R} (ha : TRD h a N B) {e f : Int} (he : dgp N e) (hf : dgp B f) : wm sw_P (D + 1) 106 [.index a] h (qr (vi (if e ≤ f then f else e)) h) := by
  refine wm_in (cd := sw_c106) (nL := 1) (hd := sw_h106) rfl rfl ?_
  obtain ⟨q, lq, r, lr, za, a0, q0, r0, ca, ⟨e', _, Pn, bn, _, ln, ln'⟩, ⟨f', _, Pb, bb, _, lb, lb'⟩⟩ := ha
  have e1 := dgp_one bn he
  have e2 := dgp_one bb hf
  subst e1 e2
  have b1 := bn.1
  have b2 := bb.1
  refine k106_0 (z10 := e') (z17 := f') ca Pn.2.1 Pb.2.1 (fun w => k106_27 ca Pb.2.1 (k106_34 ?_)) (fun w => k106_17 ca Pn.2.1 (k106_34 ?_)) (c19 := by unfold In3; omega) (c20 := by unfold In3; omega)
  · rw [if_pos w]
  · rw [if_neg w]
end
