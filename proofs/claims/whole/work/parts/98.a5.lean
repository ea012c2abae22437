/-! the reference's putSeries -/
/-- p at q, from the highest number of 25 down, each time cut off -/
def psr (p q : zp_R) : Nat → zp_R
  | 0 => zp_C 0
  | n + 1 => zp_add (cut (zp_mul (psr p q n) q) 25) (zp_C (p.1 (24 - n)))
section
variable {d : Nat} {h : s_H} {s : Nat → Int} {A : Nat → Nat → Int}
theorem V_putSeries (hv : RV h s A) {r t : Nat} (hr : P9 r = true) (ht : P9 t = true) (r4 : r ≠ 1304) (r2 : r ≠ 1302) (t4 : t ≠ 1304) (t2 : t ≠ 1302) {p q : zp_R} (hp : A r = cf p) (hq : A t = cf q) : wm sw_P (d + 4) 567 [.index 1290, .index r, .index t] h (RN h (fun s' A' => s' = s ∧ sm A A' [1302, 1304] ∧ A' 1302 = cf (psr p q 25))) := by
  refine wm_in (cd := sw_c567) (nL := 4) (hd := sw_h567) rfl rfl ?_
  refine k567_0 hv.1 (wm_mono (wq_Q (fun h1 v1 r1 => ?_)) (V_empty hv (c := 1302) rfl))
  refine k567_7 ?_
  have nr : ∀ (B : Nat → Nat → Int) (j : Nat), j ≠ 1304 → j ≠ 1302 → sm A B [1302, 1304] → B j = A j := fun B j j4 j2 hB => hB j (by
    have a1 : (j == 1304) = false := beq_false_of_ne j4
    have a2 : (j == 1302) = false := beq_false_of_ne j2
    simp only [List.contains_cons, List.contains_nil, a1, a2, Bool.or_self])
  have loop : ∀ (k n : Nat) (B : Nat → Nat → Int) (h' : s_H), n + k = 25 → RV h' s B → FR h h' → sm A B [1302, 1304] → B 1302 = cf (psr p q n) → wr sw_P (d + 3) sw_c567 sw_h567 (10, [.index 1290, .index r, .index t, vi ((k : Int) - 1)], [], h', 0, 0) (RN h (fun s' A' => s' = s ∧ sm A A' [1302, 1304] ∧ A' 1302 = cf (psr p q 25))) := by
    intro k
    induction k with
    | zero =>
      intro n B h' hn v rr mB g1
      refine k567_10 (fun _ => k567_56 ⟨h', s, B, v, rr, ⟨rfl, mB, ?_⟩, rfl⟩) (fun w => absurd w (by omega))
      rw [g1, show n = 25 by omega]
    | succ k ih =>
      intro n B h' hn v rr mB g1
      rw [show ((k + 1 : Nat) : Int) - 1 = k by omega]
      refine k567_10 (fun w => absurd w (by omega)) (fun _ => ?_)
      refine k567_14 v.1 (wm_mono (wq_Q (fun h3 v3 r3 => ?_)) (V_multiplyBy v (p := 1302) (q := t) rfl ht (by decide) t4 g1 ((nr B t t4 t2 mB).trans hq)))
      have m3 : sm A (up (up B 1304 (cf (zp_mul (psr p q n) q))) 1302 (cf (zp_mul (psr p q n) q))) [1302, 1304] := sm_up (sm_up mB _ rfl) _ rfl
      refine k567_23 v3.1 (wm_mono (wq_Q (fun h4 v4 r4' => ?_)) (V_cutOff v3 (c := 1302) rfl (f := zp_mul (psr p q n) q) (up_at _ _ _)))
      have m4 := sm_up m3 (c := 1302) (cf (cut (zp_mul (psr p q n) q) 25)) rfl
      generalize eC : up (up (up B 1304 (cf (zp_mul (psr p q n) q))) 1302 (cf (zp_mul (psr p q n) q))) 1302 (cf (cut (zp_mul (psr p q n) q) 25)) = C at v4 m4
      have c1 : C 1302 = cf (cut (zp_mul (psr p q n) q) 25) := by rw [← eC, up_at]
      have c2 : C r = cf p := (nr C r r4 r2 m4).trans hp
      have eF : psr p q (n + 1) = zp_add (cut (zp_mul (psr p q n) q) 25) (zp_C (p.1 k)) := by
        show zp_add (cut (zp_mul (psr p q n) q) 25) (zp_C (p.1 (24 - n))) = _
        rw [show 24 - n = k by omega]
      clear eC m3
      revert c1 eF
      generalize cut (zp_mul (psr p q n) q) 25 = F
      intro c1 eF
      have e1 : gi (mk 176 (C 1302)) 0 = cf F 0 := by rw [c1]; exact gi_mkn (k := 0) (by decide)
      have e2 : gi (mk 176 (C r)) (k : Int) = cf p k := by rw [c2]; exact gi_mkn (by omega)
      have b1 := cf_b F 0
      have b2 := cf_b p k
      refine k567_30 v4.1 (Ra_rt v4) (RV_l v4 hr) ?_ (c10 := by rw [mk_len]; decide) (c15 := by rw [mk_len]; omega) (c18 := by rw [e1, e2]; exact in6_of (by omega) (by omega))
      rw [mk_set, e1, e2, tmod_nn (by omega), show (k : Int) + (-1) = (k : Int) - 1 by omega]
      refine ih (n + 1) _ _ (by omega) (RV_w v4 (c := 1302) rfl _) (FR_trans rr (FR_trans r3 (FR_trans r4' (FR_w v4 (c := 1302) rfl _)))) (sm_up m4 _ rfl) ?_
      rw [up_at, eF]
      funext x
      show (if x = (0 : Int).toNat then (cf F 0 + cf p k) % 32003 else C 1302 x) = ((F.1 x + (if x = 0 then p.1 k else 0) : zp_F).val : Int)
      by_cases hx : x = 0
      · rw [if_pos (by rw [hx]; rfl), if_pos hx, hx, F_add]; rfl
      · rw [if_neg hx, if_neg (show ¬ x = (0 : Int).toNat from hx), c1]
        exact F_cg (by grind)
  have := loop 25 0 _ h1 rfl v1 r1 (sm_up sm_refl _ rfl) (up_at _ _ _)
  exact this
end
