/-! the reference's enter, worked, manyOf -/
/-- so many of the first k numbers are in the set -/
def cbt (x : Nat) : Nat → Nat
  | 0 => 0
  | k + 1 => cbt x k + (if x.testBit k = true then 1 else 0)
/-- a text is entered into cell c -/
def entS (s : Nat → Int) : Nat → Int := up (up (up s 0 0) 50 0) 107 (s 107 + 1)
def entA (s : Nat → Int) (A : Nat → Nat → Int) (c : Nat) : Nat → Nat → Int := up (up (up A 1367 (fun k => if k = c then s 50 else A 1367 k)) 1368 (fun t => if 60 * c ≤ t ∧ (t : Int) < 60 * c + s 50 then A 1333 (t - 60 * c) else A 1368 t)) 1373 (fun k => if k = c then s 107 + 1 else A 1373 k)
def entR (s : Nat → Int) (A : Nat → Nat → Int) (c : Int) (v : Term) (s' : Nat → Int) (A' : Nat → Nat → Int) : Prop := (¬ (0 ≤ c ∧ c ≤ 15) → v = vi 0 ∧ s' = up s 0 1 ∧ A' = A) ∧ (0 ≤ c ∧ c ≤ 15 → (60 < s 50 → v = vi 0 ∧ s' = up s 0 2 ∧ A' = A) ∧ (¬ 60 < s 50 → v = vi (s 50) ∧ s' = entS s ∧ A' = entA s A c.toNat))
section
variable {d : Nat} {h : s_H} {s : Nat → Int} {A : Nat → Nat → Int}
theorem V_worked (hv : RV h s A) : wm sw_P (d + 1) 619 [.index 1290] h (RA h (fun v s' A' => v = vi (s 110) ∧ s' = up s 0 0 ∧ A' = A)) := by
  refine wm_in (cd := sw_c619) (nL := 1) (hd := sw_h619) rfl rfl ?_
  have v1 := RV_fld hv (up s 0 0) (rF_0 s 0)
  exact k619_0 (z9 := s 110) hv.1 v1.1 ⟨_, _, _, _, v1, FR_fld hv _, ⟨rfl, rfl, rfl⟩, rfl⟩
theorem V_manyOf {x : Nat} (hx : x < 2 ^ 31) : wm sw_P (d + 1) 524 [vi (x : Int)] h (qr (vi (cbt x 16 : Int)) h) := by
  refine wm_in (cd := sw_c524) (nL := 3) (hd := sw_h524) rfl rfl ?_
  have loop : ∀ (l k : Nat), k + l = 16 → wr sw_P d sw_c524 sw_h524 (4, [vi (x : Int), vi (cbt x k : Int), vi (k : Int)], [], h, 0, 0) (qr (vi (cbt x 16 : Int)) h) := by
    intro l
    induction l with
    | zero =>
      intro k hk
      have ek : k = 16 := by omega
      subst ek
      exact k524_4 (fun _ => k524_24 rfl) (fun w => absurd (by decide) w) (c1 := by decide)
    | succ l ih =>
      intro k hk
      refine k524_4 (fun w => absurd w (by omega)) (fun _ => k524_10 ?_) (c1 := by unfold In3; omega)
      have eb := bit_in (x := x) (k := k) hx (by omega)
      rw [eb]
      have e : (cbt x k : Int) + (if x.testBit k = true then 1 else 0) = ((cbt x (k + 1) : Nat) : Int) := by
        show _ = ((cbt x k + (if x.testBit k = true then 1 else 0) : Nat) : Int)
        split <;> omega
      rw [e]
      exact ih (k + 1) (by omega)
  exact k524_0 (loop 16 0 (by decide))
theorem V_enter (hv : RV h s A) (hT : TX s A) {c : Int} (hc : In3 c) : wm sw_P (d + 2) 440 [.index 1290, vi c] h (RA h (entR s A c)) := by
  refine wm_in (cd := sw_c440) (nL := 3) (hd := sw_h440) rfl rfl ?_
  obtain ⟨n, en⟩ : ∃ n : Nat, s 50 = n := ⟨(s 50).toNat, by have := hT.1; omega⟩
  have n200 : n ≤ 200 := by have := hT.1; omega
  have code : ∀ z : Int, RV (hp h 1290 (1, 11, rF (up s 0 z))) (up s 0 z) A := fun z => RV_fld hv (up s 0 z) (rF_0 s z)
  have rd0 : ∀ z : Int, s_nth (rF (up s 0 z)) 0 = some (vi z) := fun z => by
    show some (vi (up s 0 z 0)) = _
    rw [up_at]
  refine k440_0 (wm_mono (wq_r ?_) (t_in (by unfold In6; unfold In3 at hc; omega) (by decide) (by decide))) (c2 := hc)
  by_cases w : 0 ≤ c ∧ c ≤ 15
  rotate_left
  · rw [if_neg w]
    refine k440_10 (fun x => absurd rfl x) (fun _ => k440_13 ?_) (c1 := by decide)
    refine k440_31 (z10 := 1) hv.1 (code 1).1 (fun x => absurd x (by decide)) (fun _ => ?_) (n11 := rd0 1) (c12 := by decide)
    exact k440_41 ⟨_, _, _, _, code 1, FR_fld hv _, ⟨fun _ => ⟨rfl, rfl, rfl⟩, fun x => absurd x w⟩, rfl⟩
  rw [if_pos w]
  refine k440_10 (fun _ => ?_) (fun x => absurd (by decide) x) (c1 := by decide)
  have rd50 : s_nth (rF s) 50 = some (vi (n : Int)) := by
    show some (vi (s 50)) = _
    rw [en]
  refine k440_17 (z5 := (n : Int)) hv.1 (fun w6 => k440_30 ?_) (fun w6 => k440_26 ?_) (n6 := rd50) (c7 := by unfold In3; omega)
  rotate_left
  · refine k440_31 (z10 := 2) hv.1 (code 2).1 (fun x => absurd x (by decide)) (fun _ => ?_) (n11 := rd0 2) (c12 := by decide)
    exact k440_41 ⟨_, _, _, _, code 2, FR_fld hv _, ⟨fun x => absurd w x, fun _ => ⟨fun _ => ⟨rfl, rfl, rfl⟩, fun x => absurd (by omega) x⟩⟩, rfl⟩
  refine k440_31 (z10 := 0) hv.1 (code 0).1 (fun _ => ?_) (fun x => absurd (by decide) x) (n11 := rd0 0) (c12 := by decide)
  have v1 := code 0
  obtain ⟨k, ek⟩ : ∃ k : Nat, c = k := ⟨c.toNat, by omega⟩
  subst ek
  have k16 : k < 16 := by omega
  have e50 : up s 0 0 50 = (n : Int) := by rw [up_ne _ _ (by decide), en]
  have rd50' : s_nth (rF (up s 0 0)) 50 = some (vi (n : Int)) := by
    show some (vi (up s 0 0 50)) = _
    rw [e50]
  have st16 : ∀ (g : Nat → Int) (z : Int), (mk 16 g).set (Int.toNat (k : Int)) z = mk 16 (fun t => if t = k then z else g t) := fun g z => by rw [mk_set]; rfl
  have v2 := Rp_cellLength v1 (fun t => if t = k then (n : Int) else A 1367 t)
  refine k440_43 (z7 := (n : Int)) (a10 := mk 16 (A 1367)) v1.1 (Ra_cellLength v1) ?_ (n8 := rd50') (c12 := by rw [mk_len]; omega) (c13 := by omega) (c14 := by unfold In3; omega)
  rw [st16]
  have R2 : FR h _ := FR_trans (FR_fld hv (1, 11, rF (up s 0 0))) (FR_put v1 (c := 1367) (by decide) (by decide) (rc 1367 (fun t => if t = k then (n : Int) else A 1367 t)))
  have loop : ∀ (l i : Nat) (B : Nat → Nat → Int) (h' : s_H), i + l = n → RV h' (up s 0 0) B → FR h h' → (∀ x, x ≠ 1368 → B x = up A 1367 (fun t => if t = k then (n : Int) else A 1367 t) x) → B 1368 = (fun t => if 60 * k ≤ t ∧ t < 60 * k + i then A 1333 (t - 60 * k) else A 1368 t) → wr sw_P (d + 1) sw_c440 sw_h440 (55, [.index 1290, vi (k : Int), vi (i : Int)], [], h', 0, 0) (RA h (entR s A (k : Int))) := by
    intro l
    induction l with
    | zero =>
      intro i B h' hi2 v r o g
      have ei : i = n := by omega
      subst ei
      refine k440_55 (z5 := (i : Int)) v.1 (fun _ => ?_) (fun x => absurd (by omega) x) (n6 := rd50') (c7 := by unfold In3; omega) (c8 := by unfold In3; omega)
      have v3 := RV_fld v (up (up s 0 0) 50 0) (rF_50 (up s 0 0) 0)
      have e107 : up (up s 0 0) 50 0 107 = s 107 := by rw [up_ne _ _ (by decide), up_ne _ _ (by decide)]
      have v4 := RV_fld v3 (entS s) (rF_107 (up (up s 0 0) 50 0) (s 107 + 1))
      have v5 := Rp_enteredAt v4 (fun t => if t = k then s 107 + 1 else B 1373 t)
      have g67 : gi (mk 16 (B 1367)) (k : Int) = (i : Int) := by
        rw [gi_mkn k16, o 1367 (by decide), up_at, if_pos rfl]
      have eB : up B 1373 (fun t => if t = k then s 107 + 1 else B 1373 t) = entA s A k := by
        unfold entA
        have e68 : B 1368 = fun t => if 60 * k ≤ t ∧ (t : Int) < 60 * k + s 50 then A 1333 (t - 60 * k) else A 1368 t := by
          rw [g]
          funext t
          by_cases q : 60 * k ≤ t ∧ t < 60 * k + i
          · rw [if_pos q, if_pos (by omega)]
          · rw [if_neg q, if_neg (by omega)]
        have e73 : B 1373 = A 1373 := by rw [o 1373 (by decide), up_ne _ _ (by decide)]
        rw [e73]
        funext x
        by_cases q3 : x = 1373
        · rw [q3, up_at, up_at]
        · rw [up_ne _ _ q3, up_ne _ _ q3]
          by_cases q8 : x = 1368
          · rw [q8, up_at, e68]
          · rw [up_ne _ _ q8, o x q8, en]
      refine k440_86 (z9 := s 107) (z16 := s 107 + 1) (a19 := mk 16 (B 1373)) (a30 := mk 16 (B 1367)) v.1 v3.1 v4.1 (Ra_enteredAt v4) (by rw [st16]; exact v5.1) (by rw [st16]; exact (hp_ne (Ra_enteredAt v4) (by decide)).trans (Ra_cellLength v4)) ?_ (n10 := by
        show some (vi (up (up s 0 0) 50 0 107)) = _
        rw [e107]) (n17 := by
        show some (vi (entS s 107)) = _
        unfold entS
        rw [up_at]) (c21 := by rw [mk_len]; omega) (c22 := by omega) (c23 := by unfold In3; omega) (c32 := by rw [mk_len]; omega)
      rw [st16, g67]
      rw [eB] at v5
      refine ⟨_, _, _, _, v5, FR_trans r (FR_trans (FR_fld v _) (FR_trans (FR_fld v3 _) (FR_put v4 (c := 1373) (by decide) (by decide) _))), ⟨fun x => absurd w x, fun _ => ⟨fun x => by omega, fun _ => ⟨by rw [en], rfl, rfl⟩⟩⟩, rfl⟩
    | succ l ih =>
      intro i B h' hi2 v r o g
      refine k440_55 (z5 := (n : Int)) v.1 (fun x => absurd x (by omega)) (fun _ => ?_) (n6 := rd50') (c7 := by unfold In3; omega) (c8 := by unfold In3; omega)
      refine k440_63 v.1 (Ra_text v) (Ra_cellText v) ?_ (c12 := by rw [mk_len]; omega) (c13 := by omega) (c14 := by unfold In3; omega) (c18 := by rw [mk_len]; omega) (c19 := by omega) (c20 := by unfold In3; omega)
      have ei : (60 * (k : Int)) + (i : Int) = ((60 * k + i : Nat) : Int) := by omega
      have tn : Int.toNat (((60 * k + i : Nat) : Int)) = 60 * k + i := rfl
      rw [ei, gi_mkn (by omega), o 1333 (by decide), up_ne _ _ (by decide), mk_set, tn]
      exact ih (i + 1) _ _ (by omega) (Rp_cellText v (fun t => if t = 60 * k + i then A 1333 i else B 1368 t)) (FR_trans r (FR_put v (c := 1368) (by decide) (by decide) _)) (fun x hx => by rw [up_ne _ _ hx]; exact o x hx) (by
        rw [up_at, g]
        funext t
        by_cases q : t = 60 * k + i
        · rw [if_pos q, if_pos (by omega), show t - 60 * k = i by omega]
        · rw [if_neg q]
          show (if 60 * k ≤ t ∧ t < 60 * k + i then A 1333 (t - 60 * k) else A 1368 t) = _
          by_cases q2 : 60 * k ≤ t ∧ t < 60 * k + i
          · rw [if_pos q2, if_pos (by omega)]
          · rw [if_neg q2, if_neg (by omega)])
  refine loop n 0 _ _ (by omega) v2 R2 (fun _ _ => rfl) ?_
  rw [up_ne _ _ (by decide)]
  funext t
  rw [if_neg (by omega)]
end
