/-! the reference's loadCell, readCell -/
section
variable {d : Nat} {h : s_H} {s : Nat → Int} {A : Nat → Nat → Int}
theorem V_loadCell (hv : RV h s A) {c : Nat} (hc : c < 16) (hV : ∀ i, i < 656 → In3 (A 1369 i) ∧ In3 (A 1370 i)) : wm sw_P (d + 2) 507 [.index 1290, vi (c : Int)] h (RQ h s (up (up A 1302 (fp A 1369 c)) 1303 (fp A 1370 c))) := by
  refine wm_in (cd := sw_c507) (nL := 3) (hd := sw_h507) rfl rfl ?_
  refine k507_0 hv.1 (wm_mono (wq_Q (fun h1 v1 r1 => ?_)) (V_empty hv (c := 1302) rfl))
  refine k507_7 v1.1 (wm_mono (wq_Q (fun h2 v2 r2 => k507_14 ?_)) (V_empty v1 (c := 1303) rfl))
  have loop : ∀ (l i : Nat) (B : Nat → Nat → Int) (h' : s_H), i + l = 41 → RV h' s B → FR h h' → (∀ x, x ≠ 1302 → x ≠ 1303 → B x = A x) → B 1302 = c41 (fp A 1369 c) i → B 1303 = c41 (fp A 1370 c) i → wr sw_P (d + 1) sw_c507 sw_h507 (16, [.index 1290, vi (c : Int), vi (i : Int)], [], h', 0, 0) (RQ h s (up (up A 1302 (fp A 1369 c)) 1303 (fp A 1370 c))) := by
    intro l
    induction l with
    | zero =>
      intro i B h' hi2 v r o g1 g2
      have ei : i = 41 := by omega
      subst ei
      refine k507_16 (fun _ => k507_64 ⟨h', s, _, ?_, r, ⟨rfl, rfl⟩, rfl⟩) (fun w => absurd (by decide) w) (c1 := by decide)
      have e : up (up A 1302 (fp A 1369 c)) 1303 (fp A 1370 c) = B := by
        funext x
        by_cases q1 : x = 1303
        · rw [q1, up_at, g2, c41_fp]
        · rw [up_ne _ _ q1]
          by_cases q2 : x = 1302
          · rw [q2, up_at, g1, c41_fp]
          · rw [up_ne _ _ q2, o x q2 q1]
      rw [e]; exact v
    | succ l ih =>
      intro i B h' hi2 v r o g1 g2
      have hV1 := hV (41 * c + i) (by omega)
      have e1 : gi (mk 656 (B 1369)) (41 * (c : Int) + (i : Int)) = A 1369 (41 * c + i) := by
        rw [show 41 * (c : Int) + (i : Int) = ((41 * c + i : Nat) : Int) by omega, gi_mkn (by omega), o 1369 (by decide) (by decide)]
      have e2 : gi (mk 656 (B 1370)) (41 * (c : Int) + (i : Int)) = A 1370 (41 * c + i) := by
        rw [show 41 * (c : Int) + (i : Int) = ((41 * c + i : Nat) : Int) by omega, gi_mkn (by omega), o 1370 (by decide) (by decide)]
      have f1 : A 1369 (41 * c + i) = fp A 1369 c i := (if_pos (by omega)).symm
      have f2 : A 1370 (41 * c + i) = fp A 1370 c i := (if_pos (by omega)).symm
      have v1 := RV_w v (c := 1302) rfl (c41 (fp A 1369 c) (i + 1))
      have s1 : (mk 176 (B 1302)).set (Int.toNat (i : Int)) (A 1369 (41 * c + i)) = mk 176 (c41 (fp A 1369 c) (i + 1)) := by
        rw [mk_set, g1, c41_s (i := i) (t0 := Int.toNat (i : Int)) rfl f1]
      have s2 : (mk 176 (B 1303)).set (Int.toNat (i : Int)) (A 1370 (41 * c + i)) = mk 176 (c41 (fp A 1370 c) (i + 1)) := by
        rw [mk_set, g2, c41_s (i := i) (t0 := Int.toNat (i : Int)) rfl f2]
      refine k507_16 (fun w => absurd w (by omega)) (fun _ => ?_) (c1 := by unfold In3; omega)
      refine k507_22 (a10 := mk 656 (B 1369)) (a17 := mk 176 (B 1302)) (a30 := mk 656 (B 1370)) (a35 := mk 176 (B 1303)) v.1 (Ra_cellTop v) (RV_l v (c := 1302) rfl) (by rw [e1, s1]; exact v1.1) ((hp_ne (RV_l v (c := 1302) rfl) (by decide)).trans (Ra_cellBottom v)) ((hp_ne (RV_l v (c := 1302) rfl) (by decide)).trans (RV_l v (c := 1303) rfl)) ?_ (c12 := by rw [mk_len]; omega) (c13 := by omega) (c14 := by unfold In3; omega) (c15 := by rw [e1]; exact hV1.1) (c19 := by rw [mk_len]; omega) (c20 := by omega) (c21 := by unfold In3; omega) (c32 := by rw [mk_len]; omega) (c33 := by rw [e2]; exact hV1.2) (c37 := by rw [mk_len]; omega)
      rw [e1, e2, s1, s2]
      have v2 := RV_w v1 (c := 1303) rfl (c41 (fp A 1370 c) (i + 1))
      exact ih (i + 1) _ _ (by omega) v2 (FR_trans r (FR_trans (FR_w v (c := 1302) rfl _) (FR_w v1 (c := 1303) rfl _))) (fun x y1 y2 => by rw [up_ne _ _ y2, up_ne _ _ y1, o x y1 y2]) (by rw [up_ne _ _ (by decide), up_at]) (up_at _ _ _)
  have := loop 41 0 _ h2 (Nat.zero_add _) v2 (FR_trans r1 r2) (fun x y1 y2 => by rw [up_ne _ _ y2, up_ne _ _ y1]) (by rw [up_ne _ _ (by decide), up_at, c41_0]) (by rw [up_at, c41_0])
  exact this
/-- a cell's letter is read -/
def rcR (s : Nat → Int) (A : Nat → Nat → Int) (i c : Nat) (s' : Nat → Int) (A' : Nat → Nat → Int) : Prop := (due A c → s' = up s 76 (c : Int) ∧ A' = A) ∧ (¬ due A c → (¬ hsf A c → s' = fl1 s 7 (i : Int) ∧ A' = A) ∧ (hsf A c → s' = up (up s 71 ((i : Int) + 1)) 72 2 ∧ A' = up (up A 1302 (fp A 1369 c)) 1303 (fp A 1370 c)))
theorem V_readCell (hv : RV h s A) (hB : ShB A) (hV : ∀ i, i < 656 → In3 (A 1369 i) ∧ In3 (A 1370 i)) (b55 : s 55 = 0) {i c : Nat} (hi2 : s 71 = (i : Int)) (hc : c < 16) : wm sw_P (d + 7) 575 [.index 1290, vi (c : Int)] h (RN h (rcR s A i c)) := by
  refine wm_in (cd := sw_c575) (nL := 2) (hd := sw_h575) rfl rfl ?_
  have rd : ∀ s1 : Nat → Int, s1 71 = (i : Int) → s_nth (rF s1) 71 = some (vi (i : Int)) := fun s1 e => by
    show some (vi (s1 71)) = _
    rw [e]
  refine k575_0 hv.1 (wm_mono (fun o ⟨z, hz, ho⟩ => wq_r ?_ o ho) (V_isDue hv hB hc))
  rcases hz with ⟨e, w⟩ | ⟨e, w⟩
  · subst e
    refine k575_5 (fun w2 => absurd w2 (by decide)) (fun _ => k575_8 hv.1 (k575_57 ?_)) (c1 := by decide)
    exact ⟨_, _, A, RV_fld hv (up s 76 (c : Int)) (rF_76 s (c : Int)), FR_fld hv _, ⟨fun _ => ⟨rfl, rfl⟩, fun w2 => absurd w w2⟩, rfl⟩
  subst e
  refine k575_5 (fun _ => ?_) (fun w2 => absurd rfl w2) (c1 := by decide)
  refine k575_16 hv.1 (wm_mono (fun o ⟨z, hz, ho⟩ => wq_r ?_ o ho) (V_hasFraction hv hB hc))
  rcases hz with ⟨e, w2⟩ | ⟨e, w2⟩
  · subst e
    refine k575_21 (fun _ => ?_) (fun w3 => absurd (by decide) w3) (c1 := by decide)
    refine k575_37 hv.1 (wm_mono (wq_Q (fun h1 v1 r1 => ?_)) (V_loadCell hv hc hV))
    have v2 := RV_fld v1 (up s 71 ((i : Int) + 1)) (rF_71 s ((i : Int) + 1))
    have v3 := RV_fld v2 (up (up s 71 ((i : Int) + 1)) 72 2) (rF_72 (up s 71 ((i : Int) + 1)) 2)
    refine k575_42 (z5 := (i : Int)) v1.1 v2.1 (k575_57 ?_) (n6 := rd _ hi2)
    exact ⟨_, _, _, v3, FR_trans r1 (FR_trans (FR_fld v1 _) (FR_fld v2 _)), ⟨fun w3 => absurd w3 w, fun _ => ⟨fun w3 => absurd w2 w3, fun _ => ⟨rfl, rfl⟩⟩⟩, rfl⟩
  · subst e
    refine k575_21 (fun w3 => absurd rfl w3) (fun _ => ?_) (c1 := by decide)
    refine k575_24 (z5 := (i : Int)) hv.1 (wm_mono (wq_N (fun h1 s1 A1 v1 r1 φ => k575_34 (k575_57 ?_))) (V_fail hv (by rw [b55]; decide))) (n6 := rd _ hi2)
    obtain ⟨x1, x2⟩ := φ
    rw [flS_0 b55] at x1
    exact ⟨h1, s1, A1, v1, r1, ⟨fun w3 => absurd w3 w, fun _ => ⟨fun _ => ⟨x1, x2⟩, fun w3 => absurd w3 w2⟩⟩, rfl⟩
end
