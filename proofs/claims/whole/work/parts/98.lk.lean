/-! the class: least polynomials -/
def PL (j : Nat) : Prop := PR j ∨ (39 ≤ j ∧ j < 107) ∨ j = 1278 ∨ j = 1279
theorem FX_PL : FX PL := fun j p => by unfold PL PR at p; omega
theorem CF_RL {h h' : s_H} (a : CF PR h h') : CF PL h h' := CF_sub a (fun j p => .inl p)
theorem CF_LL {h h' : s_H} (a : FLn h h') : CF PL h h' := ⟨Nat.le_of_eq a.1.symm, fun j p _ => a.2 j (by unfold PL PR at p; omega)⟩
theorem LR_G {h h' : s_H} {H W : Nat} {σ : Nat → Nat} {G : Nat → Nat → Int} (L : LR h H W σ G) (e : ∀ j, 39 ≤ j → j < 107 → s_get h' j = s_get h j) : LR h' H W σ G := by
  obtain ⟨a1, ⟨lst, a2, a3, a4⟩, a5, a6, a7, ⟨R, a8⟩, wt, a9⟩ := L
  exact ⟨(e _ (by decide) (by decide)).trans a1, ⟨lst, (e _ (by decide) (by decide)).trans a2, a3, a4⟩, fun i hi2 => ⟨(a5 i hi2).1, (a5 i hi2).2.1, (e _ (by have := (a5 i hi2).1; omega) (by have := (a5 i hi2).2.1; omega)).trans (a5 i hi2).2.2⟩, a6, a7, ⟨R, (e _ (by decide) (by decide)).trans a8⟩, wt, (e _ (by decide) (by decide)).trans a9⟩
theorem LM_G {h h' : s_H} {H W : Nat} {M : Nat → Nat → zp_F} (L : LM h H W M) (e : ∀ j, 39 ≤ j → j < 107 → s_get h' j = s_get h j) : LM h' H W M := by
  obtain ⟨σ, G, LL, eG⟩ := L
  exact ⟨σ, G, LR_G LL e, eG⟩
theorem LM_cg {h : s_H} {H W : Nat} {M M' : Nat → Nat → zp_F} (L : LM h H W M) (e : ∀ i, i < H → ∀ j, j < 44 → M i j = M' i j) : LM h H W M' := by
  obtain ⟨σ, G, LL, eG⟩ := L
  exact ⟨σ, G, LL, fun i hi2 j hj => (eG i hi2 j hj).trans (by rw [e i hi2 j hj])⟩
/-- the rules' own cell -/
def RUc (h : s_H) : Prop := s_get h 390 = some (1, 6, [.index 5, .index 39])
theorem FA_39 {k : Nat} {h h' : s_H} (F : FA [] k h h') {j : Nat} (w : 39 ≤ j) : s_get h' j = s_get h j := F.2 j (fun _ q => absurd q List.not_mem_nil) (.inr w) (by omega)
theorem ls_3 {R : Type} [Lean.Grind.CommRing R] {a b : R} : (a + b) - b = a := by grind
theorem ls_1 {W V p : zp_R} {n j : Nat} (h0 : 0 ≤ hi W) (dW : zp_deg W 176) (en : (hi W).toNat = n) (c : cg W (zp_npow V j) p) (dp : 1 ≤ n → zp_deg p n) {i : Nat} (hi2 : i < n) : p.1 i = (md W (zp_npow V j)).1 i := by
  rw [md_cg h0 dW c (by rw [en]; exact dp (by omega))]
theorem ls_2 {W V p T R : zp_R} {j : Nat} (c : cg W (zp_npow V j) p) (e : zp_mul p V = zp_add (zp_mul W T) R) : cg W (zp_npow V (j + 1)) R := by
  have c1 : cg W (zp_npow V (j + 1)) (zp_mul p V) := cg_mul c (cg_refl W V)
  refine cg_tr c1 ⟨T, ?_⟩
  rw [e]
  exact @ls_3 zp_R zp_ring _ _
section
variable {D : Nat} {h : s_H}
theorem u_setLeast (sr : swapR (D + 2)) (A : AL h 0) (lo : 1376 ≤ h.1) (RU : RUc h) {H0 W0 : Nat} {σ0 : Nat → Nat} {G0 : Nat → Nat → Int} (LL : LR h H0 W0 σ0 G0) {a b La Lb : Nat} {V W : zp_R} (Pa : PF h a La V) (Pb : PF h b Lb W) (ka : kp h a) (kb : kp h b) (dV : zp_deg V 41) {n : Nat} (dW : dgp W n) (n40 : n ≤ 40) (wd : PE h 1278 192) : wm sw_P (D + 4) 225 [.index 390, .index a, .index b, .index 1278] h (fun out => ∃ h' L dd, isL W V L dd ∧ dd ≤ n ∧ zp_deg L 42 ∧ PF h' 1278 192 L ∧ CF PL h h' ∧ h'.1 = h.1 ∧ AL h' 0 ∧ (∃ H W σ G, LR h' H W σ G) ∧ out = (.inl none, h', 0, 0)) := by
  refine wm_in (cd := sw_c225) (nL := 8) (hd := sw_h225) rfl rfl ?_
  have dW41 : zp_deg W 41 := dgp_deg dW (by omega)
  have dW6 : zp_deg W 176 := deg_le dW41 (by decide)
  have hW := dgp_of dW (by omega)
  have h0 : 0 ≤ hi W := by omega
  have en : (hi W).toNat = n := by omega
  have okA : ∀ k, okp k a := fun k => .inr (by rcases ka with w | w <;> omega)
  have okB : ∀ k, okp k b := fun k => .inr (by rcases kb with w | w <;> omega)
  refine k225_0 RU A.1 (wm_mono (wq_r ?_) (u_mark A))
  refine k225_7 RU A.1 (r_lend (RW_0 A (by omega)) (FA_refl [] 0 h) (by omega) (fun h1 R1' E1 => ?_))
  have R1 : RW h1 0 1 [zp_C 0] := R1'
  have Pb1 := PF_A Pb E1 (okB 0) nilA
  refine k225_16 (PF_c Pb1) (r_lead Pb1 dW ?_)
  refine k225_22 (r_inv _ (dW.2.2 n rfl) (fun v v0 hv _ => ?_))
  obtain ⟨z, _, Po, bz, _⟩ := id Pb1
  have ez : z = (n : Int) := dgp_one bz dW
  subst ez
  have L1 := LR_G LL (h' := h1) (fun j j1 _ => FA_39 E1 j1)
  refine k225_25 (z12 := (n : Int)) ((FA_39 E1 (by decide)).trans RU) Po.2.1 L1.1 ?_
  rw [show (n : Int) + 1 = ((n + 1 : Nat) : Int) by omega]
  refine wm_mono (fun out => ?_) (u_begin L1 (H := n) (W := n + 1) (by omega) (by omega))
  intro ⟨h2, M2, F2, eo⟩
  rw [eo]
  have R2 := RW_G R1 (fun j _ _ => F2.2 j (.inl (by omega)) : ∀ j, 5 ≤ j → j < 39 → s_get h2 j = s_get h1 j)
  refine k225_44 (RW_c R2 0 rfl) (r_number R2 (FA_refl [] 0 h2) 0 (by decide) (x := 1) (by decide) (fun h3 R3' E3 => k225_50 ?_))
  rw [nF_1] at R3'
  have R3 : RW h3 0 1 [zp_C 1] := R3'
  have C3 : CF PL h h3 := CF_trans (CF_RL (CF_R E1)) (CF_trans (CF_LL F2) (CF_RL (CF_R E3)))
  have c3 : h3.1 = h.1 := by have := E1.1; have := F2.1; have := E3.1; omega
  have M3 : LM h3 n (n + 1) (tc (fun c => md W (zp_npow V c)) n 0 0) := by
    rw [tc_0]
    exact LM_G M2 (fun j j1 _ => FA_39 E3 j1)
  have loop : ∀ (l j : Nat) (h' : s_H) (p : zp_R), j + l = n + 1 → RW h' 0 1 [p] → LM h' n (n + 1) (tc (fun c => md W (zp_npow V c)) n j 0) → cg W (zp_npow V j) p → zp_deg p 41 → (1 ≤ n → zp_deg p n) → CF PL h h' → h'.1 = h.1 → PE h' 1278 192 → wr sw_P (D + 3) sw_c225 sw_h225 (53, [.index 390, .index a, .index b, .index 1278, vi 0, .index 7, vi v, vi (j : Int)], [], h', 0, 0) (fun out => ∃ h' L dd, isL W V L dd ∧ dd ≤ n ∧ zp_deg L 42 ∧ PF h' 1278 192 L ∧ CF PL h h' ∧ h'.1 = h.1 ∧ AL h' 0 ∧ (∃ H W σ G, LR h' H W σ G) ∧ out = (.inl none, h', 0, 0)) := by
    intro l
    have pl : ∀ {h' : s_H}, CF PL h h' → RUc h' ∧ PF h' a La V ∧ PF h' b Lb W := fun C => ⟨(C.2 390 (fun p => by unfold PL PR at p; omega) (.inl (by omega))).trans RU, PF_kp Pa ka C FX_PL lo, PF_kp Pb kb C FX_PL lo⟩
    induction l with
    | zero =>
      intro j h' p hj R M c dp dpn C c1 w
      obtain ⟨RU', _, Pb'⟩ := pl C
      obtain ⟨z, _, Po', bz', _⟩ := id Pb'
      have ez : z = (n : Int) := dgp_one bz' dW
      subst ez
      have ej : j = n + 1 := by omega
      rw [ej] at M
      refine k225_53 (z5 := (n : Int)) Po'.2.1 (fun _ => ?_) (fun w => absurd (by omega) w) (c7 := by unfold In3; omega) (c8 := by unfold In3; omega)
      have wz : ∀ i, i < n → ∀ j, n + 1 ≤ j → tc (fun c => md W (zp_npow V c)) n (n + 1) 0 i j = 0 := fun i _ j hj => if_neg (by omega)
      obtain ⟨f9, g9⟩ : ∃ f9, s_get h' 39 = some (1, 1, f9) := by
        obtain ⟨_, _, LL', _⟩ := M
        exact ⟨_, LL'.1⟩
      refine k225_98 RU' g9 (wm_mono (fun out => ?_) (u_eliminate sr M wz))
      intro ⟨h4, B, Rr, σ, G, L4, eG, rr4, g5, wz4, F4, eo⟩
      rw [eo]
      have b4 := (F4.2 390 (.inr (by decide))).trans RU'
      have bR : ∀ j, j < n + 1 → Rr j = -1 ∨ (0 ≤ Rr j ∧ Rr j < (n : Int)) := fun j hj => by
        rcases rr4.2 j hj with ⟨q, _⟩ | ⟨q1, q2, _⟩ <;> omega
      refine k225_105 b4 L4.1 (wm_mono (fun out => ?_) (u_firstFree L4 g5 (fun j hj => by have := bR j hj; unfold In3; omega)))
      intro ⟨k, k1, k2, eo⟩
      refine wq_r ?_ out eo
      have ne : ∀ i, i < k → Rr i ≠ -1 := fun i hi2 => by have := k1 i hi2; omega
      have kn : k < n + 1 ∧ Rr k = -1 := by
        rcases k2 with q | q
        · exfalso
          subst q
          have p1 := pc_all (R := Rr) (j := n) (fun i hi2 => ne i (by omega))
          rcases rr4.2 n (by omega) with ⟨z1, _⟩ | ⟨_, z2, _⟩
          · exact ne n (by omega) z1
          · omega
        · have := bR k q.1
          exact ⟨q.1, by omega⟩
      have hL := isL_rr (V := V) h0 (deg_le dW41 (by decide)) en rr4 (by omega) kn.2 ne
      refine k225_112 b4 L4.1 (wm_mono (fun out => ?_) (u_cancel L4 eG g5 bR (x := k) kn.1))
      intro ⟨h5, wt, L5, g6, ew, n5, c5, eo⟩
      rw [eo]
      have b5 := (n5 390 (by decide)).trans b4
      have C5 : CF PL h h5 := CF_trans C (CF_trans (CF_LL F4) ⟨Nat.le_of_eq c5.symm, fun j p _ => n5 j (fun e => p (by unfold PL; omega))⟩)
      have w5 : PE h5 1278 192 := PE_same w (by rw [n5 _ (by decide), F4.2 _ (.inr (by decide))]) (by rw [n5 _ (by decide), F4.2 _ (.inr (by decide))])
      have A5 : AL h5 1 := AL_same R.1 (fun j _ _ => (n5 j (by omega)).trans (F4.2 j (.inl (by omega))))
      have dL : zp_deg (lst B k) (k + 1) := hL.2.1
      refine k225_123 b5 L5.1 (PE_c w5) ?_
      rw [show (k : Int) + 1 = ((k + 1 : Nat) : Int) by omega]
      refine wm_mono (wq_U (fun h6 P6 F6 => ?_)) (u_setRow w5 g6 (by decide) (by decide) (x := 0) (n := k + 1) (by decide) (by omega) (f := lst B k) (fun i hi2 => ?_) dL)
      · have n6 : ∀ j, j ≠ 1278 → j ≠ 1279 → s_get h6 j = s_get h5 j := fun j j1 j2 => F6.2 j (fun q hq => by
          have : q = 1278 := by simpa using hq
          omega)
        have A6 : AL h6 1 := AL_same A5 (fun j _ _ => n6 j (by omega) (by omega))
        refine k225_139 ((n6 _ (by decide) (by decide)).trans b5) A6.1 (wm_mono (wq_AN (fun h7 o7 F7 A7 => k225_148 ⟨h7, lst B k, k, hL, by omega, deg_le dL (by omega), PF_same P6 (o7 _ (by decide)) (o7 _ (by decide)), CF_trans C5 (CF_trans ⟨Nat.le_of_eq F6.1.symm, fun j p _ => n6 j (fun e => p (by unfold PL; omega)) (fun e => p (by unfold PL; omega))⟩ (CF_RL (CF_R F7))), ?_, A7, ⟨n, n + 1, σ, G, LR_G L5 (fun j _ _ => (o7 j (by omega)).trans (n6 j (by omega) (by omega)))⟩, rfl⟩)) (u_release (k := 0) A6 (by omega)))
        have := F7.1
        have := F6.1
        have := F4.1
        omega
      · rw [Nat.zero_add, if_pos (by omega), ew i (by omega)]
        show (((if i = k then (1 : zp_F) else if i < k then -(B i k) else 0) : zp_F).val : Int) = _
        by_cases q : i = k
        · rw [if_pos q, if_pos q]
        · rw [if_neg q, if_neg q]
          have ri : Rr i ≠ -1 := ne i (by omega)
          rw [if_pos (show i < k by omega), if_pos ⟨by omega, ri⟩]
          rcases rr4.2 i (by omega) with ⟨z1, _⟩ | ⟨z1, _⟩
          · exact absurd z1 ri
          · rw [z1, pc_all (fun t ht => ne t (by omega))]
            rfl
    | succ l ih =>
      intro j h' p hj R M c dp dpn C c1 w
      obtain ⟨RU', Pa', Pb'⟩ := pl C
      obtain ⟨z, _, Po', bz', _⟩ := id Pb'
      have ez : z = (n : Int) := dgp_one bz' dW
      subst ez
      obtain ⟨f9, g9⟩ : ∃ f9, s_get h' 39 = some (1, 1, f9) := by
        obtain ⟨_, _, LL', _⟩ := M
        exact ⟨_, LL'.1⟩
      refine k225_53 (z5 := (n : Int)) Po'.2.1 (fun w => absurd w (by omega)) (fun _ => ?_) (c7 := by unfold In3; omega) (c8 := by unfold In3; omega)
      refine k225_62 RU' g9 (wm_mono (fun out => ?_) (u_setColumn M (c := j) (by omega) (RW_p R 0 rfl) (.inl (by omega)) (fun i _ => if_neg (by omega))))
      intro ⟨h4, M4, F4, eo⟩
      rw [eo]
      have R4 := RW_G R (fun j _ _ => F4.2 j (.inl (by omega)) : ∀ j, 5 ≤ j → j < 39 → s_get h4 j = s_get h' j)
      have C4 := CF_trans C (CF_LL F4)
      obtain ⟨RU4, Pa4, Pb4⟩ := pl C4
      have M4' : LM h4 n (n + 1) (tc (fun c => md W (zp_npow V c)) n (j + 1) 0) := LM_cg M4 (fun i hi2 t _ => by
        show (if t = j then p.1 i else tc (fun c => md W (zp_npow V c)) n j 0 i t) = tc (fun c => md W (zp_npow V c)) n (j + 1) 0 i t
        unfold tc
        by_cases q : t = j
        · rw [if_pos q, if_pos ⟨hi2, by omega⟩, q]
          exact ls_1 h0 dW6 en c dpn hi2
        · rw [if_neg q]
          by_cases q2 : i < n ∧ (t < j ∨ (t = j ∧ i < 0))
          · rw [if_pos q2, if_pos ⟨hi2, by omega⟩]
          · rw [if_neg q2, if_neg (by omega)])
      have dpV : zp_deg (zp_mul p V) 81 := zp_deg_mul (n := 40) (m := 40) dp dV
      refine k225_73 RU4 R4.1.1 (r_multiply R4 (FA_refl [] 0 h4) (by omega) 0 (by decide) rfl Pa4 (okA _) (fD dpV (by omega)) (fun h5 R5' E5 => ?_))
      have R5 : RW h5 0 1 [zp_mul p V] := R5'
      have C5 := CF_trans C4 (CF_RL (CF_R E5))
      obtain ⟨RU5, Pa5, Pb5⟩ := pl C5
      refine k225_83 (RW_c R5 0 rfl) (r_reduce R5 (FA_refl [] 0 h5) 0 (by decide) rfl Pb5 dW (far_kp (kp_le kb (by have := C5.1; omega)) (by omega)) v0 hv (fun T W' h6 e dW' R6' E6 => ?_))
      have R6 : RW h6 0 1 [W'] := R6'
      refine k225_92 (ih (j + 1) h6 W' (by omega) R6 (LM_G M4' (fun j j1 _ => (FA_39 E6 j1).trans (FA_39 E5 j1))) (ls_2 c e) (deg_le dW' (by omega)) (fun _ => dW') (CF_trans C5 (CF_RL (CF_R E6))) (by have := F4.1; have := E5.1; have := E6.1; omega) (PE_same w (by rw [FA_39 E6 (by decide), FA_39 E5 (by decide), F4.2 _ (.inr (by decide))]) (by rw [FA_39 E6 (by decide), FA_39 E5 (by decide), F4.2 _ (.inr (by decide))])))
  exact loop (n + 1) 0 h3 (zp_C 1) (by omega) R3 M3 (cg_refl W _) (deg_le (zp_C_deg 1) (by decide)) (fun q => deg_le (zp_C_deg 1) q) C3 c3 (PE_same wd (by rw [FA_39 E3 (by decide), F2.2 _ (.inr (by decide)), FA_39 E1 (by decide)]) (by rw [FA_39 E3 (by decide), F2.2 _ (.inr (by decide)), FA_39 E1 (by decide)]))
end
