/-! the reference's cutOff and fillIn -/
section
variable {d : Nat} {h : s_H} {s : Nat → Int} {A : Nat → Nat → Int}
theorem V_cutOff (hv : RV h s A) {c : Nat} (hc : P9 c = true) {f : zp_R} (hf : A c = cf f) : wm sw_P (d + 1) 428 [.index c] h (RQ h s (up A c (cf (cut f 25)))) := by
  refine wm_in (cd := sw_c428) (nL := 2) (hd := sw_h428) rfl rfl ?_
  have p0 := P9_i hc
  refine k428_0 ?_
  have loop : ∀ (l k : Nat) (B : Nat → Nat → Int) (h' : s_H), k + l = 176 → 25 ≤ k → RV h' s B → FR h h' → (∀ x, x ≠ c → B x = A x) → (∀ x, x < 176 → B c x = if 25 ≤ x ∧ x < k then 0 else cf f x) → wr sw_P d sw_c428 sw_h428 (3, [.index c, vi (k : Int)], [], h', 0, 0) (RQ h s (up A c (cf (cut f 25)))) := by
    intro l
    induction l with
    | zero =>
      intro k B h' hk k25 v r o g
      refine k428_3 (fun _ => k428_20 ?_) (fun w => absurd w (by omega))
      have v3 := RV_c v hc (g := cf (cut f 25)) (fun x hx => by
        rw [g x hx]
        show _ = ((if x < 25 then f.1 x else 0 : zp_F).val : Int)
        by_cases q : x < 25
        · rw [if_neg (by omega), if_pos q]; rfl
        · rw [if_pos (by omega), if_neg q]; rfl)
      have e : up B c (cf (cut f 25)) = up A c (cf (cut f 25)) := by
        funext x
        by_cases hx : x = c
        · rw [hx, up_at, up_at]
        · rw [up_ne _ _ hx, up_ne _ _ hx, o x hx]
      rw [e] at v3
      exact ⟨h', s, _, v3, r, ⟨rfl, rfl⟩, rfl⟩
    | succ l ih =>
      intro k B h' hk k25 v r o g
      refine k428_3 (fun w => absurd w (by omega)) (fun _ => ?_)
      refine k428_10 (RV_l v hc) ?_ (c5 := by rw [mk_len]; omega)
      rw [mk_set]
      refine ih (k + 1) _ _ (by omega) (by omega) (RV_w v hc _) (FR_trans r (FR_w v hc _)) (fun x hx => by rw [up_ne _ _ hx, o x hx]) (fun x hx => ?_)
      rw [up_at]
      show (if x = (k : Int).toNat then 0 else B c x) = _
      by_cases h5 : x = k
      · rw [if_pos (by omega), if_pos (by omega)]
      · rw [if_neg (by omega), g x hx]
        by_cases h6 : 25 ≤ x ∧ x < k
        · rw [if_pos h6, if_pos (by omega)]
        · rw [if_neg h6, if_neg (by omega)]
  exact loop 151 25 A h rfl (Nat.le_refl _) hv (FR_refl h) (fun _ _ => rfl) (fun x _ => by rw [if_neg (by omega), hf])
/-- the sum of p's numbers from m down, times b to the power, e to what is left -/
def fil (p b e : zp_R) (m : Nat) : Nat → zp_R
  | 0 => zp_C 0
  | n + 1 => zp_add (zp_mul (fil p b e m n) b) (zp_mul (zp_C (p.1 (m - n))) (zp_npow e n))
theorem V_fillIn (hv : RV h s A) {r : Nat} (hr : P9 r = true) (r4 : r ≠ 1304) (r0 : r ≠ 1310) (r1 : r ≠ 1311) {p b e : zp_R} (hp : A r = cf p) (hb : A 1300 = cf b) (he : A 1301 = cf e) {m : Nat} (hm : m < 176) : wm sw_P (d + 4) 447 [.index 1290, .index r, vi (m : Int)] h (RN h (fun s' A' => s' = s ∧ sm A A' [1304, 1310, 1311] ∧ A' 1310 = cf (fil p b e m (m + 1)))) := by
  refine wm_in (cd := sw_c447) (nL := 4) (hd := sw_h447) rfl rfl ?_
  refine k447_0 hv.1 (wm_mono (wq_Q (fun h1 v1 r1' => ?_)) (V_empty hv (c := 1310) rfl))
  refine k447_7 v1.1 (wm_mono (wq_Q (fun h2 v2 r2' => ?_)) (V_become v1 (c := 1311) rfl (z := 1) (by decide)))
  rw [nF_1] at v2
  refine k447_15 ?_
  have nr : ∀ B : Nat → Nat → Int, sm A B [1304, 1310, 1311] → B r = cf p := fun B hB => (hB r (by
    have a1 : (r == 1304) = false := beq_false_of_ne r4
    have a2 : (r == 1310) = false := beq_false_of_ne r0
    have a3 : (r == 1311) = false := beq_false_of_ne r1
    simp only [List.contains_cons, List.contains_nil, a1, a2, a3, Bool.or_self])).trans hp
  have loop : ∀ (k n : Nat) (B : Nat → Nat → Int) (h' : s_H), n + k = m + 1 → RV h' s B → FR h h' → sm A B [1304, 1310, 1311] → B 1310 = cf (fil p b e m n) → B 1311 = cf (zp_npow e n) → wr sw_P (d + 3) sw_c447 sw_h447 (17, [.index 1290, .index r, vi (m : Int), vi ((k : Int) - 1)], [], h', 0, 0) (RN h (fun s' A' => s' = s ∧ sm A A' [1304, 1310, 1311] ∧ A' 1310 = cf (fil p b e m (m + 1)))) := by
    intro k
    induction k with
    | zero =>
      intro n B h' hn v rr mB g1 g2
      refine k447_17 (fun _ => k447_65 ⟨h', s, B, v, rr, ⟨rfl, mB, ?_⟩, rfl⟩) (fun w => absurd w (by omega))
      rw [g1, show n = m + 1 by omega]
    | succ k ih =>
      intro n B h' hn v rr mB g1 g2
      rw [show ((k + 1 : Nat) : Int) - 1 = k by omega]
      refine k447_17 (fun w => absurd w (by omega)) (fun _ => ?_)
      refine k447_21 v.1 (wm_mono (wq_Q (fun h3 v3 r3 => ?_)) (V_multiplyBy v (p := 1310) (q := 1300) rfl rfl (by decide) (by decide) g1 ((mB 1300 rfl).trans hb)))
      have m3 : sm A (up (up B 1304 (cf (zp_mul (fil p b e m n) b))) 1310 (cf (zp_mul (fil p b e m n) b))) [1304, 1310, 1311] := sm_up (sm_up mB _ rfl) _ rfl
      have ep := nr _ m3
      have e5 : gi (mk 176 (up (up B 1304 (cf (zp_mul (fil p b e m n) b))) 1310 (cf (zp_mul (fil p b e m n) b)) r)) (k : Int) = cf p k := by rw [ep]; exact gi_mkn (by omega)
      have bp := cf_b p k
      refine k447_33 v3.1 (RV_l v3 hr) (wm_mono (wq_Q (fun h4 v4 r4 => ?_)) (V_more v3 (c := 1310) (e := 1311) rfl rfl (by decide) (f := zp_mul (fil p b e m n) b) (g := zp_npow e n) (up_at _ _ _) (by rw [up_ne _ _ (by decide), up_ne _ _ (by decide)]; exact g2) (by rw [e5]; exact in6_of (by omega) (by omega)))) (c13 := by rw [mk_len]; omega)
      rw [e5, nF_cf] at v4
      refine k447_47 v4.1 (wm_mono (wq_Q (fun h5 v5 r5 => ?_)) (V_multiplyBy v4 (p := 1311) (q := 1301) rfl rfl (by decide) (by decide) (f := zp_npow e n) (g := e) (by rw [up_ne _ _ (by decide), up_ne _ _ (by decide), up_ne _ _ (by decide)]; exact g2) (by rw [up_ne _ _ (by decide), up_ne _ _ (by decide), up_ne _ _ (by decide)]; exact (mB 1301 rfl).trans he)))
      refine k447_59 ?_
      rw [show (k : Int) + (-1) = (k : Int) - 1 by omega]
      refine ih (n + 1) _ _ (by omega) v5 (FR_trans rr (FR_trans r3 (FR_trans r4 r5))) (sm_up (sm_up (sm_up m3 _ rfl) _ rfl) _ rfl) ?_ ?_
      · rw [up_ne _ _ (by decide), up_ne _ _ (by decide), up_at]
        show _ = cf (zp_add (zp_mul (fil p b e m n) b) (zp_mul (zp_C (p.1 (m - n))) (zp_npow e n)))
        rw [show m - n = k by omega]
      · rw [up_at, npow_s]
  have := loop (m + 1) 0 _ h2 (by omega) v2 (FR_trans r1' r2') (sm_up (sm_up sm_refl _ rfl) _ rfl) (by rw [up_ne _ _ (by decide), up_at]; rfl) (by rw [up_at]; rfl)
  rw [show ((m + 1 : Nat) : Int) - 1 = m by omega] at this
  exact this
end
