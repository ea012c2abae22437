/-! a step: a power -/
theorem rp_stq {s s' : Nat → Int} {A A' : Nat → Nat → Int} {T : Nat → th} {i n e : Nat} {a b : zp_R} (E : rdE s A T) (c : cfg s A i n e) (f : frc A a b) (h94 : byt s A i = 94) (φ : rpR s A i e a b s' A') : stq s A i s' A' := by
  obtain ⟨⟨c1, c2, c3, c4⟩, ⟨c5, c6⟩, ⟨c7, c8⟩, c9, c10, c11, c12, c13⟩ := id c
  obtain ⟨hS, _⟩ := E
  have i200 : i ≤ 200 := by have := hS.1.2; omega
  have lt := byt_in h94 (by decide)
  obtain ⟨k, s1, ds, r1, r2, r3⟩ := φ
  obtain ⟨k6, gd', dgc⟩ := id ds
  by_cases k0 : k = 0
  · obtain ⟨x1, x2⟩ := r1 k0
    exact stq_bad kf_0 c3 (by rw [x2]; exact sm_refl) x1 (by decide) (by omega)
  by_cases es : s1 = s
  · obtain ⟨p, B, ep, p99, eB, y1, y2⟩ := r3 (by omega) es
    have lk : ((i + 1 + (k - 1) : Nat) : Int) < s 52 := byt_lt (fun w => by
      have := gd' (k - 1) (by omega)
      rw [w] at this
      exact absurd this.1 (by decide))
    have smB : sm A B rdL := by
      rw [eB]
      exact pa_sm (pa_sm (sm_up (sm_up sm_refl _ rfl) _ rfl) _ _ rfl) _ _ rfl
    have rowB : ∀ x, x ≠ 1298 → x ≠ 1299 → x ≠ 1356 → x ≠ 1357 → B x = A x := fun x y1 y2 y3 y4 => by rw [eB, pa_ne y4, pa_ne y3, up_ne _ _ y2, up_ne _ _ y1]
    by_cases m : s 54 = 1
    · obtain ⟨x1, x2⟩ := y1 m
      rw [x1, x2]
      refine ⟨kf_up (kf_up (kf_up kf_0 _ rfl) _ rfl) _ rfl, smB, .inr (.inr (.inr ⟨i + (k + 1), n, e + 1, by omega, cfg_atom c (fun j y1 y2 y3 => by rw [up_ne _ _ y2, up_ne _ _ y1, up_ne _ _ y3]) ?_ (.inr ?_) ?_ (fun x y1 y2 => rowB x (by omega) (by omega) (by omega) (by omega)) (by omega) (by omega) (a := a) (b := b) ⟨?_, ?_, f.2.2⟩⟩))⟩
      · rw [up_ne _ _ (by decide), up_at]; omega
      · rw [up_at]
      · rw [up_ne _ _ (by decide), up_ne _ _ (by decide), up_at]; omega
      · rw [rowB 1302 (by decide) (by decide) (by decide) (by decide)]; exact f.1
      · rw [rowB 1303 (by decide) (by decide) (by decide) (by decide)]; exact f.2.1
    · obtain ⟨z1, z2, z3⟩ := y2 m
      have smA : sm A A' rdL := sm_tr smB (sm_sub z1 rfl)
      by_cases g : 0 < p ∧ 40 < gd a b * p
      · have x1 := z2 g
        rw [x1]
        refine ⟨kf_up (kf_up (kf_up (kf_up (kf_up kf_0 _ rfl) _ rfl) _ rfl) _ rfl) _ rfl, smA, .inl ⟨?_, ?_, ?_⟩⟩
        · unfold fl1
          rw [up_ne _ _ (by decide), up_ne _ _ (by decide), up_ne _ _ (by decide), up_at]
          decide
        · unfold fl1
          rw [up_ne _ _ (by decide), up_ne _ _ (by decide), up_at]
          omega
        · unfold fl1
          rw [up_ne _ _ (by decide), up_ne _ _ (by decide), up_ne _ _ (by decide), up_ne _ _ (by decide), up_ne _ _ (by decide)]
          exact c3
      · obtain ⟨x1, x2, x3⟩ := z3 g
        have da6 : zp_deg a 176 := deg_le f.2.2.1 (by decide)
        have db6 : zp_deg b 176 := deg_le f.2.2.2.1 (by decide)
        have b0 := mo_pos f.2.2.2.2.1 db6
        have gb := gd_b a b
        obtain ⟨gdn, egd⟩ : ∃ gdn : Nat, gd a b = gdn := ⟨(gd a b).toNat, by omega⟩
        obtain ⟨da1, db1⟩ := gd_deg da6 db6 (by omega)
        rw [show (gd a b).toNat = gdn by omega] at da1 db1
        have le : ∀ u : zp_R, zp_deg u (gdn + 1) → zp_deg (zp_npow u p) 41 := fun u hu => by
          by_cases p0 : p = 0
          · subst p0
            exact deg_le (zp_C_deg 1) (by decide)
          · have : gdn * p ≤ 40 := by
              rw [egd] at g
              have : ¬ (40 : Int) < (gdn : Int) * (p : Int) := fun w => g ⟨by omega, w⟩
              rw [← Int.natCast_mul] at this
              omega
            exact deg_le (npow_deg hu p) (by omega)
        rw [x1]
        refine ⟨kf_up (kf_up (kf_up kf_0 _ rfl) _ rfl) _ rfl, smA, .inr (.inr (.inr ⟨i + (k + 1), n, e + 1, by omega, cfg_atom c (fun j y1 y2 y3 => by rw [up_ne _ _ y2, up_ne _ _ y1, up_ne _ _ y3]) ?_ (.inr ?_) ?_ (fun x y1 y2 => ?_) (by omega) (by omega) (a := zp_npow a p) (b := zp_npow b p) ⟨x2, x3, le a da1, le b db1, mo_npow f.2.2.2.2.1 p, co_npow2 f.2.2.2.2.2 p p⟩⟩))⟩
        · rw [up_ne _ _ (by decide), up_at]; omega
        · rw [up_at]
        · rw [up_ne _ _ (by decide), up_ne _ _ (by decide), up_at]; omega
        · rw [z1 x (by
            have : scr.all (fun j => decide (j < 1335)) = true := rfl
            rw [List.all_eq_true] at this
            cases q : scr.contains x with
            | false => rfl
            | true =>
              have := of_decide_eq_true (this x (List.contains_iff_mem.mp q))
              omega)]
          exact rowB x (by omega) (by omega) (by omega) (by omega)
  · obtain ⟨x1, x2⟩ := r2 (by omega) es
    rcases dgc with ⟨_, es2⟩ | ⟨_, _, es2⟩
    · exact absurd es2 es
    · rw [flS_0 c1] at es2
      exact stq_bad kf_0 c3 (by rw [x2]; exact sm_refl) (x1.trans es2) (by decide) (by omega)
