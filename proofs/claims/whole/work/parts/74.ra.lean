/-- the end of a method that answers nothing, something -/
abbrev qv (h' : s_H) : s_O → Prop := fun out => out = (.inl none, h', 0, 0)
abbrev qr (v : Term) (h' : s_H) : s_O → Prop := fun out => out = (.inl (some v), h', 0, 0)
theorem wq_v {P : s_P} {d : Nat} {cd : s_Cd} {hd : List s_Hd} {nx : Nat} {ls rest : List Term} {kc ks : Nat} {Q : s_O → Prop} {h' : s_H} (k : wr P d cd hd (nx, ls, rest, h', kc, ks) Q) : ∀ out, qv h' out → wq P d cd hd nx ls rest kc ks Q out := by
  rintro out rfl
  exact k
theorem wq_r {P : s_P} {d : Nat} {cd : s_Cd} {hd : List s_Hd} {nx : Nat} {ls rest : List Term} {kc ks : Nat} {Q : s_O → Prop} {h' : s_H} {v : Term} (k : wr P d cd hd (nx, ls, v :: rest, h', kc, ks) Q) : ∀ out, qr v h' out → wq P d cd hd nx ls rest kc ks Q out := by
  rintro out rfl
  exact k
/-! the reference: numbers -/
theorem t_modulo {d : Nat} {h : s_H} {x : Int} (hx : In6 x) : wm sw_P (d + 1) 528 [vl x] h (qr (vl (x % 32003)) h) := by
  refine wm_in (cd := sw_c528) (nL := 4) (hd := sw_h528) rfl rfl ?_
  have h1 : Int.tmod x 32003 = x % 32003 ∨ (Int.tmod x 32003 < 0 ∧ Int.tmod x 32003 + 32003 = x % 32003) := by
    have h3 := @Int.emod_eq_tmod x 32003
    have h4 := Int.tmod_lt_of_pos x (show (0 : Int) < 32003 by decide)
    have h5 : (32003 : Int).natAbs = 32003 := rfl
    rw [h5] at h3
    have h6 := md_lt x
    split at h3 <;> omega
  have h2 := md_lt x
  refine k528_0 (fun h3 => ?_) (fun h3 => ?_)
  · refine k528_20 (k528_21 ?_)
    rw [show Int.tmod x 32003 = x % 32003 by omega]
  · refine k528_12 (k528_21 ?_)
    rw [show Int.tmod x 32003 + 32003 = x % 32003 by omega]
theorem t_in {d : Nat} {h : s_H} {x lo hi : Int} (hx : In6 x) (h1 : In6 lo) (h2 : In6 hi) : wm sw_P (d + 1) 464 [vl x, vl lo, vl hi] h (qr (vi (if lo ≤ x ∧ x ≤ hi then 1 else 0)) h) := by
  refine wm_in (cd := sw_c464) (nL := 6) (hd := sw_h464) rfl rfl ?_
  refine k464_0 (fun h3 => ?_) (fun h3 => ?_)
  · refine k464_17 (k464_18 ?_)
    rw [if_neg (by omega)]
  · refine k464_6 (fun h4 => ?_) (fun h4 => ?_)
    · refine k464_17 (k464_18 ?_)
      rw [if_neg (by omega)]
    · refine k464_13 (k464_18 ?_)
      rw [if_pos (by omega)]
/-! loops over a row -/
theorem t_empty {d : Nat} {h : s_H} {c : Nat} {g : Nat → Int} (hc : 0 < c) (hg : s_get h c = some (al 176 g)) : wm sw_P (d + 1) 438 [.index c] h (qv (hp h c (al 176 (fun _ => 0)))) := by
  refine wm_in (cd := sw_c438) (nL := 2) (hd := sw_h438) rfl rfl ?_
  refine k438_0 ?_
  have loop : ∀ m k : Nat, k + m = 176 → ∀ G : Nat → Int, (∀ i, i < k → G i = 0) → wr sw_P d sw_c438 sw_h438 (2, [.index c, vi k], [], hp h c (al 176 G), 0, 0) (qv (hp h c (al 176 (fun _ => 0)))) := by
    intro m
    induction m with
    | zero =>
      intro k hk G hG
      refine k438_2 (fun h1 => ?_) (fun h1 => absurd h1 (by omega))
      refine k438_19 ?_
      rw [al_congr (fun i hi => hG i (by omega))]
    | succ m ih =>
      intro k hk G hG
      refine k438_2 (fun h1 => absurd h1 (by omega)) (fun h1 => ?_)
      refine k438_9 (hp_at hg) ?_
      rw [hp_hp hg, mk_set]
      exact ih (k + 1) (by omega) _ (fun i hi => by
        by_cases q : i = k
        · rw [if_pos (by omega)]
        · rw [if_neg (by omega)]; exact hG i (by omega))
  have := loop 176 0 rfl g (fun i hi => absurd hi (by omega))
  rw [hp_same hg] at this
  exact this
