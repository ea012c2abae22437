/-! the reference's terms and their sums in the picture -/
/-- a product of so many values of N through D -/
noncomputable def tmv (N D : zp_R) : Nat → zp_F
  | 0 => 1
  | k + 1 => tmv N D k * zp_ev (nF (k : Int)) N * zp_ev (nF (k : Int)) D ^ 32001
theorem tmv_s (N D : zp_R) (k : Nat) : tmv N D (k + 1) = tmv N D k * zp_ev (nF (k : Int)) N * zp_ev (nF (k : Int)) D ^ 32001 := rfl
/-- the code of terms up to n, of which so many are asked -/
def htF (n last : Int) (t : th) (c : Int) : Prop := match t with
  | .inl (N, D) => ((N = zp_C 0 ∨ ¬ (0 ≤ n ∧ n ≤ 60)) → c = 2) ∧ (¬ (N = zp_C 0 ∨ ¬ (0 ≤ n ∧ n ≤ 60)) → ((∃ k : Nat, (k : Int) < last ∧ zp_ev (nF (k : Int)) D = 0) → c = 3) ∧ ((∀ k : Nat, (k : Int) < last → zp_ev (nF (k : Int)) D ≠ 0) → c = 0))
  | _ => c = 2
def htS (cnt : Int) (T : Nat → th) (x n last : Int) (c : Int) : Prop := (¬ (0 ≤ x ∧ x < cnt) → c = 1) ∧ ((0 ≤ x ∧ x < cnt) → htF n last (T x.toNat) c)
def htQ (s : Nat → Int) (A : Nat → Nat → Int) (T : Nat → th) (x n last : Int) : Term → (Nat → Int) → (Nat → Nat → Int) → Prop := fun v s' A' => ∃ c, htS (s 1) T x n last c ∧ s' = up s 0 c ∧ sm A A' (1328 :: scr) ∧ ((c ≠ 0 ∧ v = vi 0) ∨ (c = 0 ∧ v = vi 1 ∧ (0 ≤ n ∧ n ≤ 60) ∧ ∃ (f : Nat) (N D : zp_R), x = f ∧ (f : Int) < s 1 ∧ T f = .inl (N, D) ∧ ∀ k : Nat, ((k : Int) ≤ last ∨ k = 0) → A' 1328 k = ((tmv N D k).val : Int)))
/-- what a term is: code and number -/
def trmS (cnt : Int) (T : Nat → th) (x n : Int) (c v : Int) : Prop := htS cnt T x n n c ∧ (c ≠ 0 → v = 0) ∧ (c = 0 → match T x.toNat with
  | .inl (N, D) => v = ((tmv N D n.toNat).val : Int)
  | _ => True)
def sumS (cnt : Int) (T : Nat → th) (x n : Int) (c v : Int) : Prop := htS cnt T x n (n - 1) c ∧ (c ≠ 0 → v = 0) ∧ (c = 0 → match T x.toNat with
  | .inl (N, D) => v = ((zp_sum (tmv N D) n.toNat).val : Int)
  | _ => True)
section
variable {d : Nat} {h : s_H} {s : Nat → Int} {A : Nat → Nat → Int}
theorem V_hasTerms (hv : RV h s A) {T : Nat → th} (hR : RI s A T) {x n last : Int} (hx : In3 x) (hn : In3 n) (hl : last = n ∨ last = n - 1) : wm sw_P (d + 4) 462 [.index 1290, vi x, vi n, vi last] h (RA h (htQ s A T x n last)) := by
  refine wm_in (cd := sw_c462) (nL := 7) (hd := sw_h462) rfl rfl ?_
  have b0 := hR.1.1
  refine k462_0 hv.1 (wm_mono (wq_A (fun v1 h1 s1 A1 w1 r1 φ => ?_)) (V_isOf hv hR hx (k := 0) (by decide)))
  rcases φ with ⟨ev, e1, q, eA⟩ | ⟨ev, e1, q, f, ef, lf, kf, m1, g, _⟩
  · rw [ev]
    refine k462_6 (fun w => absurd rfl w) (fun _ => k462_9 ⟨vi 0, h1, s1, A1, w1, r1, ⟨one s T x 0, ⟨fun w => if_pos w, fun w => ?_⟩, e1, by rw [eA]; exact sm_refl, .inl ⟨q, rfl⟩⟩, rfl⟩)
    have ho : one s T x 0 = if kd (T x.toNat) = 0 then 0 else 2 := if_neg (fun w3 => w3 w)
    rcases ef1 : T x.toNat with ⟨a, b⟩ | t
    · rw [ef1] at ho
      exact absurd (ho.trans (if_pos rfl)) q
    · have k0 : ¬ kd (T x.toNat) = 0 := fun w2 => q (ho.trans (if_pos w2))
      rw [if_neg k0] at ho
      exact ho
  · rw [ev]
    subst ef
    have xf : (f : Int).toNat = f := by omega
    obtain ⟨g98, g99⟩ := g (by decide)
    have hf := hR.2.2 f lf
    refine k462_6 (fun _ => ?_) (fun w => absurd (by decide) w)
    rcases ef1 : T f with ⟨a, b⟩ | t
    · rw [ef1] at hf
      obtain ⟨_, p1, p2, p3, p4⟩ := hf
      have h98 := g98.trans p1
      have h99 := g99.trans p2
      have d1 := fr_deg p1
      have d2 := fr_deg p2
      have d1' := deg_le d1 (show 41 ≤ 176 by decide)
      have d2' := deg_le d2 (show 41 ≤ 176 by decide)
      have ba := hi_b a
      have sp : ∀ c : Int, htF n last (.inl (a, b)) c → htS (s 1) T f n last c := fun c w => ⟨fun w2 => absurd ⟨by omega, lf⟩ w2, fun _ => by rw [xf, ef1]; exact w⟩
      have v0 : ∀ z : Int, RV (hp h1 1290 (1, 11, (rF s1).set 0 (vi z))) (up s1 0 z) A1 := fun z => RV_fld w1 (up s1 0 z) (rF_0 s1 z)
      have r0 : ∀ z : Int, FR h (hp h1 1290 (1, 11, (rF s1).set 0 (vi z))) := fun z => FR_trans r1 (FR_fld w1 _)
      have bad : (a = zp_C 0 ∨ ¬ (0 ≤ n ∧ n ≤ 60)) → wr sw_P (d + 3) sw_c462 sw_h462 (34, [.index 1290, vi (f : Int), vi n, vi last, .result, .result, .result], [.index 1290], h1, 0, 0) (RA h (htQ s A T f n last)) := fun hb => by
        refine k462_34 ?_
        refine k462_39 (z10 := 2) w1.1 (hp_at w1.1) (fun w => absurd w (by decide)) (fun _ => k462_49 ?_)
        exact ⟨vi 0, _, _, _, v0 2, r0 2, ⟨2, sp 2 ⟨fun _ => rfl, fun w => absurd hb w⟩, by rw [e1, up2], sm_sub m1 rfl, .inl ⟨by decide, rfl⟩⟩, rfl⟩
      refine k462_11 w1.1 (wm_mono (wq_r ?_) (V_high w1 (c := 1298) rfl h98))
      refine k462_19 (fun q1 => bad (.inl (hi_0 d1' q1))) (fun q1 => ?_)
      refine k462_22 (wm_mono (wq_r ?_) (t_in (x := n) (lo := 0) (hi := 60) (by unfold In6; unfold In3 at hn; omega) (by decide) (by decide))) (c1 := hn)
      by_cases q3 : 0 ≤ n ∧ n ≤ 60
      · rw [if_pos q3]
        refine k462_31 (fun _ => ?_) (fun w => absurd (by decide) w)
        refine k462_38 ?_
        refine k462_39 (z10 := 0) w1.1 (hp_at w1.1) (fun _ => ?_) (fun w => absurd (by decide) w)
        have ok : ¬ (a = zp_C 0 ∨ ¬ (0 ≤ n ∧ n ≤ 60)) := fun w => by
          rcases w with w | w
          · exact zp_ne0 (f := a) (by omega) w
          · exact w q3
        have w2 := v0 0
        refine k462_51 w2.1 (hv.2 1328 (by decide) (by decide) |> fun _ => Ra_terms w2) ?_ (c10 := by rw [mk_len]; decide)
        rw [mk_set]
        have w3 := Rp_terms w2 (fun i => if i = Int.toNat 0 then 1 else A1 1328 i)
        have loop : ∀ (l k : Nat) (B : Nat → Nat → Int) (h' : s_H) (t5 t6 : Term), ((k : Int) + l = last ∨ (last < 0 ∧ k = 0 ∧ l = 0)) → RV h' (up s1 0 0) B → FR h h' → sm A B (1328 :: scr) → B 1298 = cf a → B 1299 = cf b → (∀ i, i ≤ k → B 1328 i = ((tmv a b i).val : Int)) → (∀ i : Nat, i < k → zp_ev (nF (i : Int)) b ≠ 0) → wr sw_P (d + 3) sw_c462 sw_h462 (61, [.index 1290, vi (f : Int), vi n, vi last, vi (k : Int), t5, t6], [], h', 0, 0) (RA h (htQ s A T f n last)) := by
          intro l
          induction l with
          | zero =>
            intro k B h' t5 t6 hk v r m ga gb gt ne
            refine k462_61 (fun _ => k462_140 ?_) (fun w => absurd w (by omega)) (c1 := by unfold In3; omega) (c2 := by unfold In3 at hn ⊢; omega)
            refine ⟨vi 1, h', _, B, v, r, ⟨0, sp 0 ⟨fun w => absurd w ok, fun _ => ⟨fun ⟨i, i1, i2⟩ => absurd i2 (ne i (by omega)), fun _ => rfl⟩⟩, by rw [e1, up2], m, .inr ⟨rfl, rfl, q3, f, a, b, rfl, lf, ef1, fun i hi2 => gt i (by omega)⟩⟩, rfl⟩
          | succ l ih =>
            intro k B h' t5 t6 hk v r m ga gb gt ne
            refine k462_61 (fun w => absurd w (by omega)) (fun _ => ?_) (c1 := by unfold In3; omega) (c2 := by unfold In3 at hn ⊢; omega)
            refine k462_67 v.1 (wm_mono (wq_r ?_) (t_valueAt (f := b) (RV_q v (c := 1299) rfl gb) d2' (z := (k : Int)) ⟨by omega, by omega⟩)) (c7 := by unfold In3; omega)
            have bv := (zp_ev (nF (k : Int)) b).isLt
            refine k462_77 (fun q4 => ?_) (fun q4 => ?_) (c1 := in6_of (by omega) (by omega))
            · have nk : zp_ev (nF (k : Int)) b ≠ 0 := fun w => q4 (by rw [w]; rfl)
              have gk : gi (mk 61 (B 1328)) (k : Int) = ((tmv a b k).val : Int) := by rw [gi_mkn (by omega), gt k (Nat.le_refl _)]
              refine k462_93 v.1 (Ra_terms v) (wm_mono (wq_r ?_) (t_valueAt (f := a) (RV_q v (c := 1298) rfl ga) d1' (z := (k : Int)) ⟨by omega, by omega⟩)) (c10 := by rw [mk_len]; omega) (c11 := by omega) (c12 := by unfold In3; omega)
              rw [gk]
              refine k462_118 (wm_mono (wq_r ?_) (t_inverse (in6_of (by omega) (by omega)))) (c1 := in_mul _ _)
              rw [tm_mul, nF_val]
              refine k462_128 (Ra_terms v) ?_ (c1 := in_mul _ _) (c5 := by rw [mk_len]; omega) (c6 := by omega) (c7 := by unfold In3; omega)
              rw [tm_mul, mk_set]
              refine ih (k + 1) _ _ _ _ (by omega) (Rp_terms v _) (FR_trans r (FR_put v (c := 1328) (by decide) (by decide) _)) (sm_up m _ rfl) (by rw [up_ne _ _ (by decide), ga]) (by rw [up_ne _ _ (by decide), gb]) (fun i hi2 => ?_) (fun i hi2 => ?_)
              · rw [up_at]
                show (if i = ((k : Int) + 1).toNat then _ else B 1328 i) = _
                by_cases q5 : i = k + 1
                · rw [if_pos (by omega), q5, tmv_s]
                · rw [if_neg (by omega), gt i (by omega)]
              · by_cases q5 : i = k
                · rw [q5]; exact nk
                · exact ne i (by omega)
            · have zk : zp_ev (nF (k : Int)) b = 0 := F_ext (by show ((zp_ev (nF (k : Int)) b).val : Int) = 0; omega)
              refine k462_86 v.1 ?_
              refine ⟨vi 0, _, _, B, RV_fld v (up (up s1 0 0) 0 3) (rF_0 _ 3), FR_trans r (FR_fld v _), ⟨3, sp 3 ⟨fun w => absurd w ok, fun _ => ⟨fun _ => rfl, fun w => absurd zk (w k (by omega))⟩⟩, by rw [e1, up2, up2], m, .inl ⟨by decide, rfl⟩⟩, rfl⟩
        have m3 : sm A (up A1 1328 (fun i => if i = Int.toNat 0 then 1 else A1 1328 i)) (1328 :: scr) := sm_up (sm_sub m1 rfl) _ rfl
        have start := fun (l : Nat) (hk : ((0 : Nat) : Int) + l = last ∨ (last < 0 ∧ (0 : Nat) = 0 ∧ l = 0)) => loop l 0 _ _ .result .result hk w3 (FR_trans (r0 0) (FR_put w2 (c := 1328) (by decide) (by decide) _)) m3 (by rw [up_ne _ _ (by decide), h98]) (by rw [up_ne _ _ (by decide), h99]) (fun i hi2 => by
          have i0 : i = 0 := by omega
          subst i0
          rw [up_at]
          rfl) (fun i hi2 => absurd hi2 (Nat.not_lt_zero i))
        by_cases ql : 0 ≤ last
        · exact start last.toNat (.inl (by omega))
        · exact start 0 (.inr ⟨by omega, rfl, rfl⟩)
      · rw [if_neg q3]
        exact k462_31 (fun w => absurd rfl w) (fun _ => bad (.inr q3))
    · rw [ef1] at kf
      rcases t with a | ⟨r, c, M⟩ | ⟨n, so, va⟩
      · exact (kdn kf rfl).elim
      · exact (kdn kf rfl).elim
      · exact (kdn kf rfl).elim
theorem V_term (hv : RV h s A) {T : Nat → th} (hR : RI s A T) {x n : Int} (hx : In3 x) (hn : In3 n) : wm sw_P (d + 5) 605 [.index 1290, vi x, vi n] h (RA h (fun v s' A' => ∃ c a, trmS (s 1) T x n c a ∧ v = vi a ∧ s' = up s 0 c ∧ sm A A' (1328 :: scr) ∧ RI s' A' T)) := by
  refine wm_in (cd := sw_c605) (nL := 3) (hd := sw_h605) rfl rfl ?_
  refine k605_0 hv.1 (wm_mono (wq_A (fun v1 h1 s1 A1 w1 r1 φ => ?_)) (V_hasTerms hv hR hx hn (last := n) (.inl rfl)))
  obtain ⟨c, hc, e1, m1, q⟩ := φ
  have R1 : RI s1 A1 T := RI_a hR (sm_sub m1 rfl) (by rw [e1]; exact sq_up (sq_refl s) _ rfl)
  rcases q with ⟨c0, ev⟩ | ⟨c0, ev, q3, f, N, D, ef, lf, tf, gt⟩
  · rw [ev]
    exact k605_7 (fun _ => k605_20 (k605_21 ⟨vi 0, h1, s1, A1, w1, r1, ⟨c, 0, ⟨hc, fun _ => rfl, fun w => absurd w c0⟩, rfl, e1, m1, R1⟩, rfl⟩)) (fun w => absurd rfl w)
  · rw [ev]
    have gn : gi (mk 61 (A1 1328)) n = ((tmv N D n.toNat).val : Int) := by rw [gi_mk q3.1 (by omega), gt n.toNat (.inl (by omega))]
    have bz := (tmv N D n.toNat).isLt
    refine k605_7 (fun w => absurd w (by decide)) (fun _ => ?_)
    refine k605_10 w1.1 (Ra_terms w1) ?_ (c10 := by rw [mk_len]; omega) (c11 := q3.1) (c12 := hn)
    rw [gn]
    refine k605_21 ⟨_, h1, s1, A1, w1, r1, ⟨c, _, ⟨hc, fun w => absurd c0 w, fun _ => ?_⟩, rfl, e1, m1, R1⟩, rfl⟩
    rw [ef, show (f : Int).toNat = f by omega, tf]
theorem V_sum (hv : RV h s A) {T : Nat → th} (hR : RI s A T) {x n : Int} (hx : In3 x) (hn : In3 n) : wm sw_P (d + 5) 601 [.index 1290, vi x, vi n] h (RA h (fun v s' A' => ∃ c a, sumS (s 1) T x n c a ∧ v = vi a ∧ s' = up s 0 c ∧ sm A A' (1328 :: scr) ∧ RI s' A' T)) := by
  refine wm_in (cd := sw_c601) (nL := 6) (hd := sw_h601) rfl rfl ?_
  refine k601_0 hv.1 (wm_mono (wq_A (fun v1 h1 s1 A1 w1 r1 φ => ?_)) (V_hasTerms hv hR hx hn (last := n - 1) (.inr rfl)))
  obtain ⟨c, hc, e1, m1, q⟩ := φ
  have R1 : RI s1 A1 T := RI_a hR (sm_sub m1 rfl) (by rw [e1]; exact sq_up (sq_refl s) _ rfl)
  rcases q with ⟨c0, ev⟩ | ⟨c0, ev, q3, f, N, D, ef, lf, tf, gt⟩
  · rw [ev]
    exact k601_9 (fun w => absurd rfl w) (fun _ => k601_12 ⟨vi 0, h1, s1, A1, w1, r1, ⟨c, 0, ⟨hc, fun _ => rfl, fun w => absurd w c0⟩, rfl, e1, m1, R1⟩, rfl⟩)
  · rw [ev]
    refine k601_9 (fun _ => ?_) (fun w => absurd (by decide) w)
    refine k601_14 ?_
    obtain ⟨m, em⟩ : ∃ m : Nat, n = m := ⟨n.toNat, by omega⟩
    have loop : ∀ (l k : Nat) (z : Int) (t4 : Term), k + l = m → 0 ≤ z → z ≤ 32003 * k → nF z = zp_sum (tmv N D) k → wr sw_P (d + 4) sw_c601 sw_h601 (19, [.index 1290, vi x, vi n, vl z, t4, vi (k : Int)], [], h1, 0, 0) (RA h (fun v s' A' => ∃ c a, sumS (s 1) T x n c a ∧ v = vi a ∧ s' = up s 0 c ∧ sm A A' (1328 :: scr) ∧ RI s' A' T)) := by
      intro l
      induction l with
      | zero =>
        intro k z t4 hk z0 z1 ez
        refine k601_19 (fun _ => ?_) (fun w => absurd w (by omega)) (c1 := by unfold In3; omega) (c2 := by unfold In3; omega)
        refine k601_41 ?_ (c1 := in6_of (by omega) (by omega))
        rw [tmod_nn z0, ← nF_v, ez]
        refine ⟨_, h1, s1, A1, w1, r1, ⟨c, _, ⟨hc, fun w => absurd c0 w, fun _ => ?_⟩, rfl, e1, m1, R1⟩, rfl⟩
        rw [ef, show (f : Int).toNat = f by omega, tf]
        show _ = ((zp_sum (tmv N D) n.toNat).val : Int)
        rw [show n.toNat = k by omega]
      | succ l ih =>
        intro k z t4 hk z0 z1 ez
        have gk : gi (mk 61 (A1 1328)) (k : Int) = ((tmv N D k).val : Int) := by rw [gi_mkn (by omega), gt k (.inl (by omega))]
        have bz := (tmv N D k).isLt
        refine k601_19 (fun w => absurd w (by omega)) (fun _ => ?_) (c1 := by unfold In3; omega) (c2 := by unfold In3; omega)
        refine k601_25 w1.1 (Ra_terms w1) ?_ (c10 := by rw [mk_len]; omega) (c11 := by omega) (c12 := by unfold In3; omega)
        rw [gk]
        refine ih (k + 1) _ _ (by omega) (by omega) (by omega) ?_
        rw [nF_add, ez, nF_val]; rfl
    exact loop m 0 0 _ (by omega) (by omega) (by omega) nF_0
end
