/-! the class's algebra: join -/
/-- a fraction that is read: its own cell at a, its polynomials elsewhere than among the rows -/
def TRD (h : s_H) (a : Nat) (N Dn : zp_R) : Prop := ∃ (q lq r lr : Nat) (z : Int), 39 ≤ a ∧ 39 ≤ q ∧ 39 ≤ r ∧ s_get h a = some (1, 8, [vi 0, .index q, .index r, vi 0, vi 0, .null, .null, vi z]) ∧ PF h q lq N ∧ PF h r lr Dn
theorem TRD_keep {S : List Nat} {h h' : s_H} {a : Nat} {N Dn : zp_R} (H : TRD h a N Dn) (F : FU S h h') (s : ∀ p, p ∈ S → p < 38) : TRD h' a N Dn := by
  obtain ⟨q, lq, r, lr, z, a0, q0, r0, c, n, d⟩ := H
  exact ⟨q, lq, r, lr, z, a0, q0, r0, (F.2 a (fun p hp => by have := s p hp; omega)).trans c, PF_keep n F (fun p hp => by have := s p hp; unfold apt; omega), PF_keep d F (fun p hp => by have := s p hp; unfold apt; omega)⟩
theorem TRD_A {S : List Nat} {k : Nat} {h h' : s_H} {a : Nat} {N Dn : zp_R} (H : TRD h a N Dn) (F : FA S k h h') (s : ∀ p, p ∈ S → p < 38) : TRD h' a N Dn := by
  obtain ⟨q, lq, r, lr, z, a0, q0, r0, c, n, d⟩ := H
  exact ⟨q, lq, r, lr, z, a0, q0, r0, (F.2 a (fun p hp => by have := s p hp; omega) (by omega) (by omega)).trans c, PF_A n F (.inr q0) (fun p hp => by have := s p hp; unfold apt; omega), PF_A d F (.inr r0) (fun p hp => by have := s p hp; unfold apt; omega)⟩
theorem OUT_R {h : s_H} {t : Nat} {N Dn : zp_R} (ot : 39 ≤ t) (H : OUT h t N Dn) : TRD h t N Dn := ⟨t + 1, 41, t + 3, 41, 0, ot, by omega, by omega, H.1.2, H.2.1, H.2.2⟩
theorem mul_fit {f g : zp_R} {L : Int} (hf : ∀ e, dgp f e → e ≤ 90) (hg : ∀ e, dgp g e → e ≤ 90) {a b : Int} (ba : dgp f a) (bb : dgp g b) (hL : 181 ≤ L) : ∀ e, dgp (zp_mul f g) e → e < L := fun e he => by
  have b1 := ba.1
  have b2 := bb.1
  have := hf a ba
  have := hg b bb
  by_cases a0 : 0 ≤ a
  · by_cases b0 : 0 ≤ b
    · have := dgp_one he (dgp_mul ba bb a0 b0)
      omega
    · have := dgp_none (zp_mul_0 (.inr (dgp_0 bb (by omega)))) he
      omega
  · have := dgp_none (zp_mul_0 (.inl (dgp_0 ba (by omega)))) he
    omega
/-- top and bottom before they are brought to lowest terms -/
def jnT (x : Int) (Na Da Nb Db : zp_R) : zp_R := if x = 42 then zp_mul Na Nb else if x = 47 then zp_mul Na Db else zp_add (zp_mul Na Db) (zp_mul (zp_C (nF (if x = 43 then 1 else 32002))) (zp_mul Nb Da))
def jnB (x : Int) (Da Nb Db : zp_R) : zp_R := if x = 47 then zp_mul Da Nb else zp_mul Da Db
section
variable {D : Nat} {h : s_H} {k : Nat}
theorem u_joinZ {t : Nat} {z : Int} (A : AL h k) {a b : Nat} {Na Da Db : zp_R} (ha : TRD h a Na Da) (hb : TRD h b (zp_C 0) Db) (T : OE h t z) (ot : 39 ≤ t) : wm sw_P (D + 1) 108 [.index 5, vi 47, .index a, .index b, .index t] h (AV [t, t + 1, t + 3] k h (.index t) (fun h' => OE h' t 4)) := by
  refine wm_in (cd := sw_c108) (nL := 9) (hd := sw_h108) rfl rfl ?_
  obtain ⟨q, lq, r, lr, zb, b0, q0, r0, cb, nb, db⟩ := hb
  obtain ⟨d, g, P, bd, _⟩ := nb
  have d1 := dgp_none rfl bd
  obtain ⟨y1, y2, y3⟩ := TO_z T.1 4
  refine k108_0 (fun w => absurd rfl w) (fun _ => ?_) (c1 := by decide)
  refine k108_6 (z10 := d) cb P.2.1 (fun w => absurd w (by omega)) (fun _ => ?_) (c12 := by unfold In3; omega)
  refine k108_16 T.1.2 ⟨_, ⟨y1, PE_off T.2.1 y2 (by omega), PE_off T.2.2 y2 (by omega)⟩, FA_U y3 (fun p hp => by rw [List.mem_singleton.mp hp]; exact .inl List.mem_cons_self), AL_U A y3 (fun p hp => by rw [List.mem_singleton.mp hp]; exact .inl ot), rfl⟩ (c6 := T.1.1)
theorem u_join (A : AL h k) (hk : k + 5 < 16) {x : Int} (hx : x = 42 ∨ x = 43 ∨ x = 45 ∨ x = 47) {a b t : Nat} {z : Int} {Na Da Nb Db : zp_R} (ha : TRD h a Na Da) (hb : TRD h b Nb Db) (T : OE h t z) (ot : 39 ≤ t) (na : ∀ e, dgp Na e → e ≤ 90) (da : ∀ e, dgp Da e → e ≤ 90) (nb : ∀ e, dgp Nb e → e ≤ 90) (db : ∀ e, dgp Db e → e ≤ 90) (G0 : jnB x Da Nb Db ≠ zp_C 0) : wm sw_P (D + 4) 108 [.index 5, vi x, .index a, .index b, .index t] h (AV [t, t + 1, t + 3] k h (.index t) (fun h' => setS h' t (jnT x Na Da Nb Db) (jnB x Da Nb Db))) := by
  have ix : In3 x := by unfold In3; omega
  refine wm_in (cd := sw_c108) (nL := 9) (hd := sw_h108) rfl rfl ?_
  have nil38 : ∀ p, p ∈ ([] : List Nat) → p < 38 := fun _ q => absurd q List.not_mem_nil
  have nila : ∀ {q : Nat}, ∀ p, p ∈ ([] : List Nat) → apt q p := fun _ q => absurd q List.not_mem_nil
  have row38 : ∀ {i : Nat}, i < 16 → ∀ p, p ∈ [7 + 2 * i] → p < 38 := fun i16 p hp => by rw [List.mem_singleton.mp hp]; omega
  have rowf : ∀ {i : Nat}, k ≤ i → i < 16 → ∀ p, p ∈ [7 + 2 * i] → p ∈ [t, t + 1, t + 3] ∨ (7 + 2 * k ≤ p ∧ p < 38) := fun i1 i2 p hp => by rw [List.mem_singleton.mp hp]; exact .inr (by omega)
  have rowt : ∀ {i : Nat}, i < 16 → ∀ p, p ∈ [7 + 2 * i] → p + 1 < t ∨ t + 4 < p := fun i16 p hp => by rw [List.mem_singleton.mp hp]; omega
  have rowr : ∀ {i j : Nat}, i ≠ j → ∀ p, p ∈ [7 + 2 * j] → apt (7 + 2 * i) p := fun ne p hp => by rw [List.mem_singleton.mp hp]; unfold apt; omega
  have far : ∀ {q i : Nat}, 39 ≤ q → i < 16 → apt q (7 + 2 * i) := fun q0 i2 => by unfold apt; omega
  -- a product into a row
  obtain ⟨Φ, eΦ⟩ : ∃ Φ, AV [t, t + 1, t + 3] k h (.index t) (fun h' => setS h' t (jnT x Na Da Nb Db) (jnB x Da Nb Db)) = Φ := ⟨_, rfl⟩
  rw [eΦ]
  have start : wr sw_P (D + 3) sw_c108 sw_h108 (25, [.index 5, vi x, .index a, .index b, .index t, .result, .result, .result, .result], [], h, 0, 0) Φ := by
    refine k108_25 (z5 := (k : Int)) A.1 (wm_mono (wq_AA (fun h1 ⟨A1, R1⟩ F1 => ?_)) (u_lend A (by omega)))
    refine k108_35 A1.1 (wm_mono (wq_AA (fun h2 ⟨A2, B2⟩ F2 => ?_)) (u_lend A1 (by omega)))
    refine k108_41 A2.1 (wm_mono (wq_AA (fun h3 ⟨A3, O3⟩ F3 => ?_)) (u_lend A2 (by omega)))
    have R3 := PF_A (PF_A R1 F2 (.inl ⟨by omega, by omega⟩) nila) F3 (.inl ⟨by omega, by omega⟩) nila
    have B3 := PF_A B2 F3 (.inl ⟨by omega, by omega⟩) nila
    have ha3 := TRD_A (TRD_A (TRD_A ha F1 nil38) F2 nil38) F3 nil38
    have hb3 := TRD_A (TRD_A (TRD_A hb F1 nil38) F2 nil38) F3 nil38
    have T3 := OE_A (OE_A (OE_A T F1 ot (fun _ q => absurd q List.not_mem_nil)) F2 ot (fun _ q => absurd q List.not_mem_nil)) F3 ot (fun _ q => absurd q List.not_mem_nil)
    have FF3 : FA [t, t + 1, t + 3] k h h3 := FA_trans (FA_sub F1 (Nat.le_refl _) (fun _ q => absurd q List.not_mem_nil)) (FA_trans (FA_sub F2 (by omega) (fun _ q => absurd q List.not_mem_nil)) (FA_sub F3 (by omega) (fun _ q => absurd q List.not_mem_nil)))
    -- from 180 on
    have fin : ∀ (h4 : s_H), AL h4 (k + 3) → FA [t, t + 1, t + 3] k h h4 → PF h4 (7 + 2 * k) 192 (jnT x Na Da Nb Db) → PF h4 (7 + 2 * (k + 1)) 192 (jnB x Da Nb Db) → OE h4 t z → wr sw_P (D + 3) sw_c108 sw_h108 (180, [.index 5, vi x, .index a, .index b, .index t, vi (k : Int), .index (7 + 2 * k), .index (7 + 2 * (k + 1)), .index (7 + 2 * (k + 2))], [], h4, 0, 0) Φ := fun h4 A4 FF4 R4 B4 T4 => by
      refine k108_180 A4.1 (wm_mono (wq_AV (fun h5 S5 F5 A5 => ?_)) (u_settle A4 (by omega) (i := k) (j := k + 1) (by omega) (by omega) (by omega) R4 B4 G0 T4 ot))
      refine k108_190 A5.1 (wm_mono (wq_AN (fun h6 o6 F6 A6 => k108_197 ?_)) (u_release A5 (by omega)))
      rw [← eΦ]
      refine ⟨h6, ?_, FA_trans FF4 (FA_trans (FA_sub F5 (by omega) (fun p hp => ?_)) (FA_sub F6 (Nat.le_refl _) (fun _ q => absurd q List.not_mem_nil))), A6, rfl⟩
      · obtain ⟨N, M, cc, w⟩ := S5
        rcases w with ⟨w, l1, l2⟩ | ⟨w, l⟩
        · exact ⟨N, M, cc, .inl ⟨⟨⟨w.1.1, (o6 t (by omega)).trans w.1.2⟩, PF_off w.2.1 o6 (by omega), PF_off w.2.2 o6 (by omega)⟩, l1, l2⟩⟩
        · exact ⟨N, M, cc, .inr ⟨⟨⟨w.1.1, (o6 t (by omega)).trans w.1.2⟩, PE_off w.2.1 o6 (by omega), PE_off w.2.2 o6 (by omega)⟩, l⟩⟩
      · rcases List.mem_cons.mp hp with q | q
        · exact .inr (by omega)
        · rcases List.mem_cons.mp q with q | q
          · exact .inr (by omega)
          · exact .inl q
    obtain ⟨qa, lqa, ra, lra, za, a0, qa0, ra0, ca, pna, pda⟩ := id ha3
    obtain ⟨qb, lqb, rb, lrb, zb, b0, qb0, rb0, cb, pnb, pdb⟩ := id hb3
    obtain ⟨ea, _, _, bna, _⟩ := id pna
    obtain ⟨ea', _, _, bda, _⟩ := id pda
    obtain ⟨eb, _, _, bnb, _⟩ := id pnb
    obtain ⟨eb', _, _, bdb, _⟩ := id pdb
    obtain ⟨_, _, PR, _⟩ := id R3
    have e0 : 0 < 192 := by decide
    refine k108_47 (fun w42 => ?_) (fun w42 => ?_) (c3 := ix)
    · refine k108_84 (fun w47 => ?_) (fun w47 => ?_) (c1 := ix)
      · -- a sum
        have eT : jnT x Na Da Nb Db = zp_add (zp_mul Na Db) (zp_mul (zp_C (nF (if x = 43 then 1 else 32002))) (zp_mul Nb Da)) := by
          unfold jnT
          rw [if_neg w42, if_neg w47]
        have eB : jnB x Da Nb Db = zp_mul Da Db := if_neg w47
        refine k108_119 (q14 := 7 + 2 * k) ca cb PR.2.1 (wm_mono (wq_U (fun h4 R4 F4 => ?_)) (u_setProduct (PF_E R3) e0 (PF_W pna) (PF_W pdb) (far qa0 (by omega)) (far rb0 (by omega)) (mul_fit na db bna bdb (by decide))))
        have A4 := AL_1 A3 F4 (okw_row (k := k + 3) (by omega)) (by omega) R4
        have B4 := PF_keep B3 F4 (rowr (by omega))
        have O4 := PF_keep O3 F4 (rowr (by omega))
        have ca4 : s_get h4 a = _ := (F4.2 a (fun p hp => by rw [List.mem_singleton.mp hp]; omega)).trans ca
        have cb4 : s_get h4 b = _ := (F4.2 b (fun p hp => by rw [List.mem_singleton.mp hp]; omega)).trans cb
        have pnb4 := PF_keep pnb F4 (fun p hp => by rw [List.mem_singleton.mp hp]; exact far qb0 (by omega))
        have pda4 := PF_keep pda F4 (fun p hp => by rw [List.mem_singleton.mp hp]; exact far ra0 (by omega))
        have pdb4 := PF_keep pdb F4 (fun p hp => by rw [List.mem_singleton.mp hp]; exact far rb0 (by omega))
        have T4 := OE_keep T3 F4 (rowt (by omega))
        obtain ⟨_, _, PO4, _⟩ := id O4
        refine k108_132 (q14 := 7 + 2 * (k + 2)) cb4 ca4 PO4.2.1 (wm_mono (wq_U (fun h5 O5 F5 => ?_)) (u_setProduct (PF_E O4) e0 (PF_W pnb4) (PF_W pda4) (far qb0 (by omega)) (far ra0 (by omega)) (mul_fit nb da bnb bda (by decide))))
        have A5 := AL_1 A4 F5 (okw_row (k := k + 3) (by omega)) (by omega) O5
        have R5 := PF_keep R4 F5 (rowr (by omega))
        have B5 := PF_keep B4 F5 (rowr (by omega))
        have ca5 : s_get h5 a = _ := (F5.2 a (fun p hp => by rw [List.mem_singleton.mp hp]; omega)).trans ca4
        have cb5 : s_get h5 b = _ := (F5.2 b (fun p hp => by rw [List.mem_singleton.mp hp]; omega)).trans cb4
        have pda5 := PF_keep pda4 F5 (fun p hp => by rw [List.mem_singleton.mp hp]; exact far ra0 (by omega))
        have pdb5 := PF_keep pdb4 F5 (fun p hp => by rw [List.mem_singleton.mp hp]; exact far rb0 (by omega))
        have T5 := OE_keep T4 F5 (rowt (by omega))
        have sum : ∀ y : Int, y = (if x = 43 then 1 else 32002) → 0 ≤ y ∧ y ≤ 32003 → wr sw_P (D + 3) sw_c108 sw_h108 (164, [.index 5, vi x, .index a, .index b, .index t, vi (k : Int), .index (7 + 2 * k), .index (7 + 2 * (k + 1)), .index (7 + 2 * (k + 2))], [vi y, .index (7 + 2 * (k + 2)), .index (7 + 2 * k), .index (7 + 2 * k)], h5, 0, 0) Φ := fun y ey hy => by
          obtain ⟨_, _, PR5, _⟩ := id R5
          refine k108_164 PR5.2.1 (wm_mono (wq_U (fun h6 R6 F6 => ?_)) (u_setSum1 R5 O5 (by unfold apt; omega) hy (PF_lt O5)))
          have A6 := AL_1 A5 F6 (okw_row (k := k + 3) (by omega)) (by omega) R6
          have B6 := PF_keep B5 F6 (rowr (by omega))
          have ca6 : s_get h6 a = _ := (F6.2 a (fun p hp => by rw [List.mem_singleton.mp hp]; omega)).trans ca5
          have cb6 : s_get h6 b = _ := (F6.2 b (fun p hp => by rw [List.mem_singleton.mp hp]; omega)).trans cb5
          have pda6 := PF_keep pda5 F6 (fun p hp => by rw [List.mem_singleton.mp hp]; exact far ra0 (by omega))
          have pdb6 := PF_keep pdb5 F6 (fun p hp => by rw [List.mem_singleton.mp hp]; exact far rb0 (by omega))
          have T6 := OE_keep T5 F6 (rowt (by omega))
          obtain ⟨_, _, PB6, _⟩ := id B6
          refine k108_167 (q14 := 7 + 2 * (k + 1)) ca6 cb6 PB6.2.1 (wm_mono (wq_U (fun h7 B7 F7 => ?_)) (u_setProduct (PF_E B6) e0 (PF_W pda6) (PF_W pdb6) (far ra0 (by omega)) (far rb0 (by omega)) (mul_fit da db bda bdb (by decide))))
          refine fin h7 (AL_1 A6 F7 (okw_row (k := k + 3) (by omega)) (by omega) B7) (FA_trans FF3 (FA_trans (FA_U F4 (rowf (by omega) (by omega))) (FA_trans (FA_U F5 (rowf (by omega) (by omega))) (FA_trans (FA_U F6 (rowf (by omega) (by omega))) (FA_U F7 (rowf (by omega) (by omega))))))) ?_ ?_ (OE_keep T6 F7 (rowt (by omega)))
          · rw [eT, ← ey]
            exact PF_keep R6 F7 (rowr (by omega))
          · rw [eB]
            exact B7
        refine k108_145 (fun w => k108_161 (sum 32002 (by rw [if_neg w]) (by decide))) (fun w => k108_157 (sum 1 (by rw [if_pos (Classical.byContradiction w)]) (by decide))) (c3 := ix)
      · -- a quotient
        have x47 : x = 47 := Classical.byContradiction w47
        have eT : jnT x Na Da Nb Db = zp_mul Na Db := by
          unfold jnT
          rw [if_neg w42, if_pos x47]
        have eB : jnB x Da Nb Db = zp_mul Da Nb := if_pos x47
        refine k108_90 (q14 := 7 + 2 * k) ca cb PR.2.1 (wm_mono (wq_U (fun h4 R4 F4 => ?_)) (u_setProduct (PF_E R3) e0 (PF_W pna) (PF_W pdb) (far qa0 (by omega)) (far rb0 (by omega)) (mul_fit na db bna bdb (by decide))))
        have A4 := AL_1 A3 F4 (okw_row (k := k + 3) (by omega)) (by omega) R4
        have B4 := PF_keep B3 F4 (rowr (by omega))
        have ca4 : s_get h4 a = _ := (F4.2 a (fun p hp => by rw [List.mem_singleton.mp hp]; omega)).trans ca
        have cb4 : s_get h4 b = _ := (F4.2 b (fun p hp => by rw [List.mem_singleton.mp hp]; omega)).trans cb
        have pnb4 := PF_keep pnb F4 (fun p hp => by rw [List.mem_singleton.mp hp]; exact far qb0 (by omega))
        have pda4 := PF_keep pda F4 (fun p hp => by rw [List.mem_singleton.mp hp]; exact far ra0 (by omega))
        have T4 := OE_keep T3 F4 (rowt (by omega))
        obtain ⟨_, _, PB4, _⟩ := id B4
        refine k108_103 (q14 := 7 + 2 * (k + 1)) ca4 cb4 PB4.2.1 (wm_mono (wq_U (fun h5 B5 F5 => k108_116 ?_)) (u_setProduct (PF_E B4) e0 (PF_W pda4) (PF_W pnb4) (far ra0 (by omega)) (far qb0 (by omega)) (mul_fit da nb bda bnb (by decide))))
        refine fin h5 (AL_1 A4 F5 (okw_row (k := k + 3) (by omega)) (by omega) B5) (FA_trans FF3 (FA_trans (FA_U F4 (rowf (by omega) (by omega))) (FA_U F5 (rowf (by omega) (by omega))))) ?_ ?_ (OE_keep T4 F5 (rowt (by omega)))
        · rw [eT]
          exact PF_keep R4 F5 (rowr (by omega))
        · rw [eB]
          exact B5
    · -- a product
      have x42 : x = 42 := Classical.byContradiction w42
      have eT : jnT x Na Da Nb Db = zp_mul Na Nb := if_pos x42
      have eB : jnB x Da Nb Db = zp_mul Da Db := if_neg (by omega)
      refine k108_55 (q14 := 7 + 2 * k) ca cb PR.2.1 (wm_mono (wq_U (fun h4 R4 F4 => ?_)) (u_setProduct (PF_E R3) e0 (PF_W pna) (PF_W pnb) (far qa0 (by omega)) (far qb0 (by omega)) (mul_fit na nb bna bnb (by decide))))
      have A4 := AL_1 A3 F4 (okw_row (k := k + 3) (by omega)) (by omega) R4
      have B4 := PF_keep B3 F4 (rowr (by omega))
      have ca4 : s_get h4 a = _ := (F4.2 a (fun p hp => by rw [List.mem_singleton.mp hp]; omega)).trans ca
      have cb4 : s_get h4 b = _ := (F4.2 b (fun p hp => by rw [List.mem_singleton.mp hp]; omega)).trans cb
      have pda4 := PF_keep pda F4 (fun p hp => by rw [List.mem_singleton.mp hp]; exact far ra0 (by omega))
      have pdb4 := PF_keep pdb F4 (fun p hp => by rw [List.mem_singleton.mp hp]; exact far rb0 (by omega))
      have T4 := OE_keep T3 F4 (rowt (by omega))
      obtain ⟨_, _, PB4, _⟩ := id B4
      refine k108_68 (q14 := 7 + 2 * (k + 1)) ca4 cb4 PB4.2.1 (wm_mono (wq_U (fun h5 B5 F5 => k108_81 ?_)) (u_setProduct (PF_E B4) e0 (PF_W pda4) (PF_W pdb4) (far ra0 (by omega)) (far rb0 (by omega)) (mul_fit da db bda bdb (by decide))))
      refine fin h5 (AL_1 A4 F5 (okw_row (k := k + 3) (by omega)) (by omega) B5) (FA_trans FF3 (FA_trans (FA_U F4 (rowf (by omega) (by omega))) (FA_U F5 (rowf (by omega) (by omega))))) ?_ ?_ (OE_keep T4 F5 (rowt (by omega)))
      · rw [eT]
        exact PF_keep R4 F5 (rowr (by omega))
      · rw [eB]
        exact B5
  refine k108_0 (fun _ => start) (fun w => ?_) (c1 := ix)
  have x47 : x = 47 := Classical.byContradiction w
  obtain ⟨qb, lqb, rb, lrb, zb, b0, qb0, rb0, cb, pnb, pdb⟩ := id hb
  obtain ⟨eb, gb, Pb, bnb, _, lb, lb'⟩ := id pnb
  have b1 := bnb.1
  have nb0 : 0 ≤ eb := Int.not_lt.mp (fun q => G0 (by
    have eB : jnB x Da Nb Db = zp_mul Da Nb := if_pos x47
    rw [eB]
    exact zp_mul_0 (.inr (dgp_0 bnb q))))
  exact k108_6 (z10 := eb) cb Pb.2.1 (fun _ => start) (fun w => absurd nb0 w) (c12 := by unfold In3; omega)
end
