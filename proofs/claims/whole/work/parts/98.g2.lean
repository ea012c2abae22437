/-! the reference's readAtom -/
/-- an atom is read at place i, n brackets are open, e nodes were put down -/
def raR (s : Nat → Int) (A : Nat → Nat → Int) (T : Nat → th) (i n e : Nat) (s' : Nat → Int) (A' : Nat → Nat → Int) : Prop :=
  (byt s A i = 45 ∧ s 72 = 0 → s' = up (up s 71 ((i : Int) + 1)) 72 1 ∧ A' = pa A 1337 n 1) ∧
  (isd (byt s A i) → ∃ (k : Nat) (s1 : Nat → Int), dgS s A i 6 k s1 ∧ s' = up (up (up s1 88 ((e : Int) + 1)) 71 ((i : Int) + (k : Int))) 72 2 ∧ A' = pa (pa (up (up A 1302 (cf (zp_C (nF (num A i k))))) 1303 (cf (zp_C 1))) 1356 e 0) 1357 e ((nF (num A i k)).val : Int)) ∧
  (byt s A i = 120 → s' = up (up (up s 88 ((e : Int) + 1)) 71 ((i : Int) + 1)) 72 2 ∧ A' = pa (pa (up (up A 1302 (cf (zp_X 1))) 1303 (cf (zp_C 1))) 1356 e 1) 1357 e 0) ∧
  (65 ≤ byt s A i ∧ byt s A i ≤ 80 → (2 ≤ s 54 → rcR s A i (byt s A i - 65).toNat s' A') ∧ (¬ 2 ≤ s 54 → s' = fl1 s 1 (i : Int) ∧ A' = A)) ∧
  (byt s A i = 35 → (s 54 ≠ 1 ∧ s 54 ≠ 2 → rhR s A T i s' A') ∧ (¬ (s 54 ≠ 1 ∧ s 54 ≠ 2) → s' = fl1 s 1 (i : Int) ∧ A' = A)) ∧
  (byt s A i = 40 → (n = 20 → s' = fl1 s 6 (i : Int) ∧ A' = A) ∧ (n ≠ 20 → s' = up (up (up s 59 ((n : Int) + 1)) 72 0) 71 ((i : Int) + 1) ∧ A' = pa (pa (pa A 1335 (n + 1) 0) 1336 (n + 1) 0) 1337 (n + 1) 0)) ∧
  (¬ (byt s A i = 45 ∧ s 72 = 0) ∧ ¬ isd (byt s A i) ∧ byt s A i ≠ 120 ∧ ¬ (65 ≤ byt s A i ∧ byt s A i ≤ 80) ∧ byt s A i ≠ 35 ∧ byt s A i ≠ 40 → s' = fl1 s 1 (i : Int) ∧ A' = A)
section
variable {d : Nat} {h : s_H} {s : Nat → Int} {A : Nat → Nat → Int}
theorem V_readAtom (hv : RV h s A) (hS : SX s A) (hB : ShB A) (hV : ∀ i, i < 656 → In3 (A 1369 i) ∧ In3 (A 1370 i)) {T : Nat → th} (hR : RI s A T) (b55 : s 55 = 0) (m3 : 0 ≤ s 54 ∧ s 54 ≤ 3) (st : s 72 = 0 ∨ s 72 = 1) {i n e : Nat} (hi2 : s 71 = (i : Int)) (i200 : i ≤ 200) (hn : s 59 = (n : Int)) (n20 : n ≤ 20) (he : s 88 = (e : Int)) (e200 : i < 200 → e < 200) : wm sw_P (d + 8) 574 [.index 1290] h (RN h (raR s A T i n e)) := by
  refine wm_in (cd := sw_c574) (nL := 3) (hd := sw_h574) rfl rfl ?_
  have i55 : In3 (s 55) := by rw [b55]; decide
  have cb := byt_b hS i
  have rd : ∀ s1 : Nat → Int, s1 71 = (i : Int) → s_nth (rF s1) 71 = some (vi (i : Int)) := fun s1 e => by
    show some (vi (s1 71)) = _
    rw [e]
  have i72 : In3 (s 72) := by rcases st with x | x <;> rw [x] <;> decide
  have i54 : In3 (s 54) := by unfold In3; omega
  have lt2 : byt s A i ≠ 0 → i < 200 := fun w => by
    have := byt_lt w
    have := hS.1.2
    omega
  obtain ⟨c, ec⟩ : ∃ c, byt s A i = c := ⟨_, rfl⟩
  have RD : ∀ {s' : Nat → Int} {A' : Nat → Nat → Int}, raR s A T i n e s' A' ↔ raR s A T i n e s' A' := Iff.rfl
  refine k574_0 (z5 := (i : Int)) hv.1 (wm_mono (wq_r ?_) (V_byteAt hv hS (i := i) (by omega))) (n6 := rd s hi2)
  -- a fault
  have bad : ∀ (t2 : Term), ¬ (byt s A i = 45 ∧ s 72 = 0) → ¬ isd (byt s A i) → byt s A i ≠ 120 → ((65 ≤ byt s A i ∧ byt s A i ≤ 80) → ¬ 2 ≤ s 54) → (byt s A i = 35 → ¬ (s 54 ≠ 1 ∧ s 54 ≠ 2)) → byt s A i ≠ 40 → wr sw_P (d + 7) sw_c574 sw_h574 (295, [.index 1290, vi (byt s A i), t2], [], h, 0, 0) (RN h (raR s A T i n e)) := fun t2 w1 w2 w3 w4 w5 w6 => by
    refine k574_295 (z5 := (i : Int)) hv.1 (wm_mono (wq_N (fun h1 s1 A1 v1 r1 φ => k574_304 ?_)) (V_fail hv i55)) (n6 := rd s hi2)
    rw [flS_0 b55] at φ
    exact ⟨h1, s1, A1, v1, r1, ⟨fun w => absurd w w1, fun w => absurd w w2, fun w => absurd w w3, fun w => ⟨fun w7 => absurd w7 (w4 w), fun _ => φ⟩, fun w => ⟨fun w7 => absurd w7 (w5 w), fun _ => φ⟩, fun w => absurd w w6, fun _ => φ⟩, rfl⟩
  -- behind the sign
  have next : ∀ (t2 : Term), ¬ (byt s A i = 45 ∧ s 72 = 0) → wr sw_P (d + 7) sw_c574 sw_h574 (50, [.index 1290, vi (byt s A i), t2], [], h, 0, 0) (RN h (raR s A T i n e)) := fun t2 w1 => by
    have iz := isdz_b (byt s A i)
    refine k574_50 (z5 := (i : Int)) hv.1 (wm_mono (wq_r ?_) (V_isDigit hv hS (i := i) (by omega))) (n6 := rd s hi2)
    by_cases dg : isd (byt s A i)
    · have dg' := dg
      unfold isd at dg'
      rw [isdz_1 dg]
      refine k574_58 (fun w => absurd w (by decide)) (fun _ => ?_) (c1 := by decide)
      have ilt := lt2 (by omega)
      refine k574_61 (z5 := (i : Int)) hv.1 (wm_mono (wq_A (fun v1 h1 s1 A1 w1' r1 φ => ?_)) (V_digits hv hS i55 (i := i) (most := 6) (by omega) (by decide))) (n6 := rd s hi2)
      obtain ⟨eA, k, ev, ds⟩ := φ
      subst ev
      rw [eA] at w1'
      obtain ⟨k6, gd', dgc⟩ := id ds
      obtain ⟨g1, g2⟩ := dg_src hS gd'
      have k0 : 0 < k := Nat.pos_of_ne_zero (fun w => by
        rcases dgc with ⟨w2, _⟩ | ⟨w2, _⟩
        · rw [w] at w2; exact w2 dg
        · omega)
      have sj : ∀ j, j ≠ 55 → j ≠ 56 → s1 j = s j := fun j y1 y2 => by
        rcases dgc with ⟨_, e⟩ | ⟨_, _, e⟩
        · rw [e]
        · rw [e, flS_0 b55]
          unfold fl1
          rw [up_ne _ _ y2, up_ne _ _ y1]
      have h71 : s1 71 = (i : Int) := by rw [sj 71 (by decide) (by decide), hi2]
      have h88 : s1 88 = (e : Int) := by rw [sj 88 (by decide) (by decide), he]
      have nb := num_b (A := A) (i := i) k g2
      have pw : (10 : Int) ^ k ≤ 1000000 := by
        have : ∀ k : Fin 7, (10 : Int) ^ k.val ≤ 1000000 := by decide
        exact this ⟨k, by omega⟩
      refine k574_71 (z7 := (i : Int)) w1'.1 (wm_mono (wq_r ?_) (V_numberAt w1' (i := i) (n := k) (by omega) (g1 k0) g2)) (n8 := rd s1 h71)
      refine k574_85 (wm_mono (wq_Q (fun h2 v2 r2 => ?_)) (V_become w1' (c := 1302) rfl (z := num A i k) (in6_of (by omega) (by omega)))) (c1 := by unfold In3; omega)
      refine k574_89 v2.1 (wm_mono (wq_Q (fun h3 v3 r3 => ?_)) (V_become v2 (c := 1303) rfl (z := 1) (by decide)))
      rw [nF_1] at v3
      have g0 : gi (mk 176 (up (up A 1302 (cf (zp_C (nF (num A i k))))) 1303 (cf (zp_C 1)) 1302)) 0 = ((nF (num A i k)).val : Int) := by
        rw [up_ne _ _ (by decide), up_at]
        exact gi_mkn (k := 0) (by decide)
      refine k574_97 v3.1 (RV_l v3 (c := 1302) rfl) (wm_mono (wq_N (fun h4 s4 A4 v4 r4 φ => ?_)) (V_emit v3 h88 (e200 ilt))) (c10 := by rw [mk_len]; decide)
      rw [g0] at φ
      obtain ⟨e4, eA4⟩ := φ
      have h71' : s4 71 = (i : Int) := by rw [e4, up_ne _ _ (by decide), h71]
      have v5 := RV_fld v4 (up s4 71 ((i : Int) + (k : Int))) (rF_71 s4 ((i : Int) + (k : Int)))
      have v6 := RV_fld v5 (up (up s4 71 ((i : Int) + (k : Int))) 72 2) (rF_72 (up s4 71 ((i : Int) + (k : Int))) 2)
      refine k574_109 (z5 := (i : Int)) v4.1 v5.1 (k574_304 ?_) (n6 := rd _ h71')
      refine ⟨_, _, _, v6, FR_trans r1 (FR_trans r2 (FR_trans r3 (FR_trans r4 (FR_trans (FR_fld v4 _) (FR_fld v5 _))))), ⟨fun w => absurd w w1, fun _ => ⟨k, s1, ds, by rw [e4], eA4⟩, fun w => ?_, fun w => ?_, fun w => ?_, fun w => ?_, fun w => absurd dg w.2.1⟩, rfl⟩
      · omega
      · omega
      · omega
      · omega
    have dg0 := isdz_0 dg
    rw [dg0]
    refine k574_58 (fun _ => ?_) (fun w => absurd rfl w) (c1 := by decide)
    refine k574_127 (fun w3 => ?_) (fun w3 => ?_) (c1 := by unfold In3; omega)
    rotate_left
    · have c120 : byt s A i = 120 := Classical.byContradiction w3
      have ilt := lt2 (by omega)
      refine k574_133 hv.1 (wm_mono (wq_Q (fun h1 v1 r1 => ?_)) (V_become hv (c := 1302) rfl (z := 0) (by decide)))
      rw [nF_0] at v1
      have v2 := RV_w v1 (c := 1302) rfl (cf (zp_X 1))
      have eX : (mk 176 (up A 1302 (cf (zp_C 0)) 1302)).set (Int.toNat 1) 1 = mk 176 (cf (zp_X 1)) := by
        rw [mk_set, up_at, cf_pst (zp_C 0) (n := 1) (z := 1) (t0 := Int.toNat 1) rfl (x := 1) rfl]
        refine congrArg (fun f => mk 176 (cf f)) (zp_ext (fun i => ?_))
        show (if i = 1 then (1 : zp_F) else (zp_C 0).1 i) = if i = 1 then 1 else 0
        rw [zp_C00]
      refine k574_141 v1.1 (RV_l v1 (c := 1302) rfl) (by rw [eX]; exact v2.1) ?_ (c10 := by rw [mk_len]; decide)
      rw [eX]
      refine wm_mono (wq_Q (fun h3 v3 r3 => ?_)) (V_become v2 (c := 1303) rfl (z := 1) (by decide))
      rw [nF_1] at v3
      have eU : up (up A 1302 (cf (zp_C 0))) 1302 (cf (zp_X 1)) = up A 1302 (cf (zp_X 1)) := by
        funext x
        by_cases q : x = 1302
        · rw [q, up_at, up_at]
        · rw [up_ne _ _ q, up_ne _ _ q, up_ne _ _ q]
      rw [eU] at v3
      refine k574_156 v3.1 (wm_mono (wq_N (fun h4 s4 A4 v4 r4 φ => ?_)) (V_emit v3 he (e200 ilt)))
      obtain ⟨e4, eA4⟩ := φ
      have h71' : s4 71 = (i : Int) := by rw [e4, up_ne _ _ (by decide), hi2]
      have v5 := RV_fld v4 (up s4 71 ((i : Int) + 1)) (rF_71 s4 ((i : Int) + 1))
      have v6 := RV_fld v5 (up (up s4 71 ((i : Int) + 1)) 72 2) (rF_72 (up s4 71 ((i : Int) + 1)) 2)
      refine k574_162 (z5 := (i : Int)) v4.1 v5.1 (k574_304 ?_) (n6 := rd _ h71')
      refine ⟨_, _, _, v6, FR_trans r1 (FR_trans (FR_w v1 (c := 1302) rfl _) (FR_trans r3 (FR_trans r4 (FR_trans (FR_fld v4 _) (FR_fld v5 _))))), ⟨fun w => absurd w w1, fun w => absurd w dg, fun _ => ⟨by rw [e4], eA4⟩, fun w => ?_, fun w => ?_, fun w => ?_, fun w => absurd c120 w.2.2.1⟩, rfl⟩
      · omega
      · omega
      · omega
    -- a cell's letter
    have hash : ((65 ≤ byt s A i ∧ byt s A i ≤ 80) → ¬ 2 ≤ s 54) → wr sw_P (d + 7) sw_c574 sw_h574 (213, [.index 1290, vi (byt s A i), t2], [], h, 0, 0) (RN h (raR s A T i n e)) := fun w4 => by
      have brack : (byt s A i = 35 → ¬ (s 54 ≠ 1 ∧ s 54 ≠ 2)) → wr sw_P (d + 7) sw_c574 sw_h574 (242, [.index 1290, vi (byt s A i), t2], [], h, 0, 0) (RN h (raR s A T i n e)) := fun w5 => by
        refine k574_242 (fun w6 => bad t2 w1 dg w3 w4 w5 w6) (fun w6 => ?_) (c1 := by unfold In3; omega)
        have c40 : byt s A i = 40 := Classical.byContradiction w6
        have ilt := lt2 (by omega)
        refine k574_248 (z5 := (n : Int)) hv.1 (fun w7 => ?_) (fun w7 => ?_) (n6 := by
          show some (vi (s 59)) = _
          rw [hn]) (c7 := by unfold In3; omega)
        · have v1 := RV_fld hv (up s 59 ((n : Int) + 1)) (rF_59 s ((n : Int) + 1))
          refine k574_268 (z5 := (n : Int)) hv.1 v1.1 (wm_mono (wq_N (fun h2 s2 A2 v2 r2 φ => ?_)) (V_begin v1 (n := n + 1) (up_at _ _ _) (by omega))) (n6 := by
            show some (vi (s 59)) = _
            rw [hn])
          obtain ⟨e2, eA2⟩ := φ
          have h71' : s2 71 = (i : Int) := by rw [e2, up_ne _ _ (by decide), up_ne _ _ (by decide), hi2]
          have v3 := RV_fld v2 (up s2 71 ((i : Int) + 1)) (rF_71 s2 ((i : Int) + 1))
          refine k574_282 (z5 := (i : Int)) v2.1 (k574_304 ?_) (n6 := rd _ h71')
          refine ⟨_, _, _, v3, FR_trans (FR_fld hv _) (FR_trans r2 (FR_fld v2 _)), ⟨fun w => absurd w w1, fun w => absurd w dg, fun w => absurd w w3, fun w => ?_, fun w => ?_, fun _ => ⟨fun w8 => absurd (by omega) w7, fun _ => ⟨by rw [e2], eA2⟩⟩, fun w => absurd c40 w.2.2.2.2.2⟩, rfl⟩
          · omega
          · omega
        · refine k574_257 (z5 := (i : Int)) hv.1 (wm_mono (wq_N (fun h1 s1 A1 v1 r1 φ => k574_267 ?_)) (V_fail hv i55)) (n6 := rd s hi2)
          rw [flS_0 b55] at φ
          refine ⟨h1, s1, A1, v1, r1, ⟨fun w => absurd w w1, fun w => absurd w dg, fun w => absurd w w3, fun w => ?_, fun w => ?_, fun _ => ⟨fun _ => φ, fun w8 => absurd (fun w9 : (n : Int) = 20 => w8 (by omega)) (fun w9 => w7 w9)⟩, fun w => absurd c40 w.2.2.2.2.2⟩, rfl⟩
          · omega
          · omega
      refine k574_213 (fun w5 => brack (fun w6 => absurd w6 w5)) (fun w5 => ?_) (c1 := by unfold In3; omega)
      have c35 : byt s A i = 35 := Classical.byContradiction w5
      have ilt := lt2 (by omega)
      refine k574_219 (z5 := s 54) hv.1 (fun w6 => brack (fun _ w7 => w7.1 w6)) (fun w6 => ?_) (c7 := i54)
      refine k574_227 (z5 := s 54) hv.1 (fun w7 => brack (fun _ w8 => w8.2 w7)) (fun w7 => ?_) (c7 := i54)
      refine k574_235 hv.1 (wm_mono (wq_N (fun h1 s1 A1 v1 r1 φ => k574_239 (k574_304 ?_))) (V_readHandle hv hS hR b55 hi2 ilt))
      refine ⟨h1, s1, A1, v1, r1, ⟨fun w => absurd w w1, fun w => absurd w dg, fun w => absurd w w3, fun w => ?_, fun _ => ⟨fun _ => φ, fun w8 => absurd ⟨w6, w7⟩ w8⟩, fun w => ?_, fun w => absurd c35 w.2.2.2.2.1⟩, rfl⟩
      · omega
      · omega
    refine k574_180 (z5 := s 54) hv.1 (fun w4 => hash (fun _ w5 => by omega)) (fun w4 => ?_) (c7 := i54)
    refine k574_188 (wm_mono (wq_r ?_) (t_in (in6_of (by omega) (by omega)) (by decide) (by decide))) (c1 := by unfold In3; omega)
    by_cases w5 : 65 ≤ byt s A i ∧ byt s A i ≤ 80
    · rw [if_pos w5]
      refine k574_199 (fun w6 => absurd w6 (by decide)) (fun _ => ?_) (c1 := by decide)
      obtain ⟨j, ej⟩ : ∃ j : Nat, byt s A i - 65 = (j : Int) := ⟨(byt s A i - 65).toNat, by omega⟩
      have ejn : (byt s A i - 65).toNat = j := by omega
      rw [← ec] at *
      refine k574_202 hv.1 ?_
      rw [ej]
      refine wm_mono (wq_N (fun h1 s1 A1 v1 r1 φ => k574_210 (k574_304 ?_))) (V_readCell hv hB hV b55 hi2 (c := j) (by omega))
      refine ⟨h1, s1, A1, v1, r1, ⟨fun w => absurd w w1, fun w => absurd w dg, fun w => absurd w w3, fun _ => ⟨fun _ => by rw [ejn]; exact φ, fun w6 => absurd (by omega) w6⟩, fun w => ?_, fun w => ?_, fun w => absurd w5 w.2.2.2.1⟩, rfl⟩
      · omega
      · omega
    · rw [if_neg w5]
      exact k574_199 (fun _ => hash (fun w6 => absurd w6 w5)) (fun w6 => absurd rfl w6) (c1 := by decide)
  refine k574_8 (z5 := s 72) hv.1 (fun w => next _ (fun w2 => w w2.2)) (fun w => ?_) (c7 := i72)
  have s0 : s 72 = 0 := Classical.byContradiction w
  refine k574_16 (fun w2 => next _ (fun w3 => w2 w3.1)) (fun w2 => ?_) (c1 := by unfold In3; omega)
  have c45 : byt s A i = 45 := Classical.byContradiction w2
  have v1 := Rp_lessAhead hv (fun t => if t = n then 1 else A 1337 t)
  have v2 := RV_fld v1 (up s 71 ((i : Int) + 1)) (rF_71 s ((i : Int) + 1))
  have v3 := RV_fld v2 (up (up s 71 ((i : Int) + 1)) 72 1) (rF_72 (up s 71 ((i : Int) + 1)) 1)
  have es : (mk 21 (A 1337)).set (Int.toNat (n : Int)) 1 = mk 21 (fun t => if t = n then 1 else A 1337 t) := by rw [mk_set]; rfl
  refine k574_22 (z7 := (n : Int)) (z18 := (i : Int)) (a10 := mk 21 (A 1337)) hv.1 (Ra_lessAhead hv) (by rw [es]; exact v1.1) (by rw [es]; exact v2.1) (k574_304 ?_) (n8 := by
    show some (vi (s 59)) = _
    rw [hn]) (n19 := rd s hi2) (c12 := by rw [mk_len]; omega) (c13 := by omega) (c14 := by unfold In3; omega)
  rw [es]
  refine ⟨_, _, _, v3, FR_trans (FR_put hv (c := 1337) (by decide) (by decide) _) (FR_trans (FR_fld v1 _) (FR_fld v2 _)), ⟨fun _ => ⟨rfl, rfl⟩, fun w3 => ?_, fun w3 => ?_, fun w3 => ?_, fun w3 => ?_, fun w3 => ?_, fun w3 => absurd ⟨c45, s0⟩ w3.1⟩, rfl⟩
  · unfold isd at w3; omega
  · omega
  · omega
  · omega
  · omega
end
