/-! the reference's print, printNumber, printRow, printAll -/
/-- letters are printed from place p on -/
def prA (A : Nat → Nat → Int) (p : Nat) : List Int → Nat → Nat → Int
  | [] => A
  | c :: l => prA (if p < 1200 then pa A 1348 p c else A) (p + 1) l
theorem prA_app (m : List Int) : ∀ (l : List Int) (A : Nat → Nat → Int) (p : Nat), prA A p (l ++ m) = prA (prA A p l) (p + l.length) m
  | [], _, _ => rfl
  | c :: l, A, p => by
    show prA (if p < 1200 then pa A 1348 p c else A) (p + 1) (l ++ m) = prA (prA (if p < 1200 then pa A 1348 p c else A) (p + 1) l) (p + (l.length + 1)) m
    rw [prA_app m l, show p + 1 + l.length = p + (l.length + 1) by omega]
theorem prA_ne : ∀ (l : List Int) (A : Nat → Nat → Int) (p x : Nat), x ≠ 1348 → prA A p l x = A x
  | [], _, _, _, _ => rfl
  | c :: l, A, p, x, hx => by
    show prA (if p < 1200 then pa A 1348 p c else A) (p + 1) l x = A x
    rw [prA_ne l _ _ x hx]
    split
    · exact pa_ne hx
    · rfl
/-- a list of letters is printed -/
def prQ (s : Nat → Int) (A : Nat → Nat → Int) (p : Nat) (l : List Int) (s' : Nat → Int) (A' : Nat → Nat → Int) : Prop := s' = up s 77 ((p + l.length : Nat) : Int) ∧ A' = prA A p l
theorem upSame {s : Nat → Int} {c : Nat} {z : Int} (h : s c = z) : up s c z = s := by
  funext j
  by_cases hj : j = c
  · rw [hj, up_at, h]
  · rw [up_ne _ _ hj]
theorem upUp {s : Nat → Int} {c : Nat} {y z : Int} : up (up s c y) c z = up s c z := by
  funext j
  by_cases hj : j = c
  · rw [hj, up_at, up_at]
  · rw [up_ne _ _ hj, up_ne _ _ hj, up_ne _ _ hj]
theorem prQ_0 {s : Nat → Int} {A : Nat → Nat → Int} {p : Nat} (e : s 77 = (p : Int)) : prQ s A p [] s A := ⟨(upSame e).symm, rfl⟩
theorem prQ_tr {s s1 s2 : Nat → Int} {A A1 A2 : Nat → Nat → Int} {p : Nat} {l m : List Int} (a : prQ s A p l s1 A1) (b : prQ s1 A1 (p + l.length) m s2 A2) : prQ s A p (l ++ m) s2 A2 := by
  obtain ⟨a1, a2⟩ := a
  obtain ⟨b1, b2⟩ := b
  refine ⟨?_, ?_⟩
  · rw [b1, a1, upUp, List.length_append, Nat.add_assoc]
  · rw [b2, a2, prA_app]
theorem prQ_p {s s1 : Nat → Int} {A A1 : Nat → Nat → Int} {p : Nat} {l : List Int} (a : prQ s A p l s1 A1) : s1 77 = ((p + l.length : Nat) : Int) := by
  rw [a.1, up_at]
def digs (n : Nat) : Nat → List Int
  | 0 => [48 + ((n % 10 : Nat) : Int)]
  | j + 1 => (48 + ((n / 10 ^ (j + 1) % 10 : Nat) : Int)) :: digs n j
def dtop (n : Nat) : Nat := if n ≤ 9 then 0 else if n ≤ 99 then 1 else if n ≤ 999 then 2 else if n ≤ 9999 then 3 else 4
def dgl (n : Nat) : List Int := digs n (dtop n)
theorem digs_len (n : Nat) : ∀ j, (digs n j).length = j + 1
  | 0 => rfl
  | j + 1 => by
    show (digs n j).length + 1 = _
    rw [digs_len n j]
theorem in6n {n : Nat} (h : n ≤ 100000) : In6 (n : Int) := in6_of (by omega) (by omega)
theorem le9 {n : Nat} : (n : Int) ≤ 9 ↔ n ≤ 9 := by omega
theorem dtop_4 (n : Nat) : dtop n ≤ 4 := by
  unfold dtop
  repeat' split
  all_goals omega
theorem dgl_len (n : Nat) : (dgl n).length ≤ 5 := by
  unfold dgl
  rw [digs_len]
  have := dtop_4 n
  omega
theorem dtop_is {n j : Nat} (hn : n < 100000) (hj : j ≤ 4) : n / 10 ^ j ≤ 9 ↔ dtop n ≤ j := by
  have c : j = 0 ∨ j = 1 ∨ j = 2 ∨ j = 3 ∨ j = 4 := by omega
  unfold dtop
  rcases c with q | q | q | q | q <;> subst q <;> (repeat' split) <;> omega
section
variable {d : Nat} {h : s_H} {s : Nat → Int} {A : Nat → Nat → Int}
theorem V_print (hv : RV h s A) {p : Nat} (hp2 : s 77 = (p : Int)) (pb : p ≤ 100000) {c : Int} : wm sw_P (d + 1) 558 [.index 1290, vi c] h (RN h (prQ s A p [c])) := by
  refine wm_in (cd := sw_c558) (nL := 2) (hd := sw_h558) rfl rfl ?_
  have rd : s_nth (rF s) 77 = some (vi (p : Int)) := by
    show some (vi (s 77)) = _
    rw [hp2]
  refine k558_0 (z5 := (p : Int)) hv.1 (fun w => ?_) (fun w => ?_) (n6 := rd) (c7 := by unfold In3; omega)
  · have v1 := RV_fld hv (up s 77 ((p : Int) + 1)) (rF_77 s ((p : Int) + 1))
    refine k558_20 (z5 := (p : Int)) hv.1 ⟨_, _, _, v1, FR_fld hv _, ⟨rfl, ?_⟩, rfl⟩ (n6 := rd)
    show A = if p < 1200 then pa A 1348 p c else A
    rw [if_neg (by omega)]
  · have v1 := Rp_out hv (fun t => if t = p then c else A 1348 t)
    have v2 := RV_fld v1 (up s 77 ((p : Int) + 1)) (rF_77 s ((p : Int) + 1))
    have st : (mk 1200 (A 1348)).set (Int.toNat (p : Int)) c = mk 1200 (fun t => if t = p then c else A 1348 t) := by rw [mk_set]; rfl
    refine k558_10 (z7 := (p : Int)) (a10 := mk 1200 (A 1348)) hv.1 (Ra_out hv) ?_ (n8 := rd) (c12 := by rw [mk_len]; omega) (c13 := by omega) (c14 := by unfold In3; omega)
    rw [st]
    refine k558_20 (z5 := (p : Int)) v1.1 ⟨_, _, _, v2, FR_trans (FR_put hv (c := 1348) (by decide) (by decide) _) (FR_fld v1 _), ⟨rfl, ?_⟩, rfl⟩ (n6 := rd)
    show _ = if p < 1200 then pa A 1348 p c else A
    rw [if_pos (by omega)]
    rfl
/-- one more letter -/
theorem V_pr1 {h' : s_H} {s1 : Nat → Int} {A1 : Nat → Nat → Int} {p : Nat} {l : List Int} (v : RV h' s1 A1) (q : prQ s A p l s1 A1) (pb : p + l.length ≤ 100000) {c : Int} : wm sw_P (d + 1) 558 [.index 1290, vi c] h' (RN h' (prQ s A p (l ++ [c]))) :=
  wm_mono (fun _ ⟨h2, s2, A2, v2, r2, q2, e⟩ => ⟨h2, s2, A2, v2, r2, prQ_tr q q2, e⟩) (V_print v (prQ_p q) pb)
theorem V_printNumber (hv : RV h s A) {p n : Nat} (hp2 : s 77 = (p : Int)) (pb : p ≤ 50000) (hn : n < 100000) : wm sw_P (d + 2) 560 [.index 1290, vl (n : Int)] h (RN h (prQ s A p (dgl n))) := by
  refine wm_in (cd := sw_c560) (nL := 7) (hd := sw_h560) rfl rfl ?_
  have pw1 : ∀ j, j ≤ 4 → 1 ≤ 10 ^ j ∧ 10 ^ j ≤ 10000 := fun j hj => by
    have : ∀ j : Fin 5, 1 ≤ 10 ^ j.val ∧ 10 ^ j.val ≤ 10000 := by decide
    exact this ⟨j, by omega⟩
  have l2 : ∀ (j : Nat) (l : List Int) (h1 : s_H) (s1 : Nat → Int) (A1 : Nat → Nat → Int) (t2 : Term) (x3 : Int) (t4 t6 : Term), j ≤ 4 → l.length + j ≤ 5 → RV h1 s1 A1 → FR h h1 → prQ s A p l s1 A1 → (l ++ digs n j = dgl n) → wr sw_P (d + 1) sw_c560 sw_h560 (24, [.index 1290, vl (n : Int), t2, vl x3, t4, vl ((10 ^ j : Nat) : Int), t6], [], h1, 0, 0) (RN h (prQ s A p (dgl n))) := by
    intro j
    induction j with
    | zero =>
      intro l h1 s1 A1 t2 x3 t4 t6 hj lb v r q e
      have ev : (48 : Int) + Int.tmod (Int.tdiv (n : Int) ((10 ^ 0 : Nat) : Int)) 10 = 48 + ((n % 10 : Nat) : Int) := by
        show (48 : Int) + ((n / 1 % 10 : Nat) : Int) = _
        rw [Nat.div_one]
      refine k560_24 (fun w => absurd w (by decide)) (fun _ => ?_) (c1 := by decide)
      refine k560_31 v.1 ?_ (c2 := by decide) (c3 := in6_of (by omega) (by omega)) (c4 := by decide) (c5 := by
        show In6 ((n / 1 : Nat) : Int)
        rw [Nat.div_one]
        exact in6_of (by omega) (by omega))
      rw [ev]
      refine wm_mono (wq_N (fun h2 s2 A2 v2 r2 φ => ?_)) (V_pr1 v q (by omega))
      refine k560_48 (k560_24 (fun _ => k560_59 ?_) (fun w => absurd (by decide) w) (c1 := by decide)) (c1 := by decide)
      rw [← e]
      exact ⟨h2, s2, A2, v2, FR_trans r r2, φ, rfl⟩
    | succ j ih =>
      intro l h1 s1 A1 t2 x3 t4 t6 hj lb v r q e
      have b := pw1 (j + 1) hj
      have nd : n / 10 ^ (j + 1) ≤ n := Nat.div_le_self _ _
      refine k560_24 (fun w => by omega) (fun _ => ?_) (c1 := in6_of (by omega) (by omega))
      refine k560_31 v.1 ?_ (c2 := by omega) (c3 := in6_of (by omega) (by omega)) (c4 := in6_of (by omega) (by omega)) (c5 := by
        show In6 ((n / 10 ^ (j + 1) : Nat) : Int)
        exact in6n (Nat.le_trans nd (by omega)))
      have ev : (48 : Int) + Int.tmod (Int.tdiv (n : Int) ((10 ^ (j + 1) : Nat) : Int)) 10 = 48 + ((n / 10 ^ (j + 1) % 10 : Nat) : Int) := rfl
      rw [ev]
      refine wm_mono (wq_N (fun h2 s2 A2 v2 r2 φ => ?_)) (V_pr1 v q (by omega))
      have e10 : Int.tdiv ((10 ^ (j + 1) : Nat) : Int) 10 = ((10 ^ j : Nat) : Int) := by
        show ((10 ^ (j + 1) / 10 : Nat) : Int) = _
        rw [Nat.pow_succ, Nat.mul_div_cancel _ (by decide)]
      refine k560_48 ?_ (c1 := in6_of (by omega) (by omega))
      rw [e10]
      refine ih _ h2 s2 A2 _ _ _ _ (by omega) (by rw [List.length_append]; show l.length + 1 + j ≤ 5; omega) v2 (FR_trans r r2) φ ?_
      rw [List.append_assoc]
      exact e
  have l1 : ∀ (m j : Nat) (t2 t4 t5 t6 : Term), j + m = dtop n → wr sw_P (d + 1) sw_c560 sw_h560 (2, [.index 1290, vl (n : Int), t2, vl ((10 ^ j : Nat) : Int), t4, t5, t6], [], h, 0, 0) (RN h (prQ s A p (dgl n))) := by
    intro m
    induction m with
    | zero =>
      intro j t2 t4 t5 t6 hj
      have j4 := dtop_4 n
      have b := pw1 j (by omega)
      have nd : n / 10 ^ j ≤ n := Nat.div_le_self _ _
      have w9 := (dtop_is hn (show j ≤ 4 by omega)).mpr (by omega)
      have ed : Int.tdiv (n : Int) ((10 ^ j : Nat) : Int) = ((n / 10 ^ j : Nat) : Int) := rfl
      refine k560_2 (fun _ => k560_21 ?_) (fun w => absurd (by rw [ed]; exact le9.mpr w9) w) (c1 := by omega) (c2 := in6_of (by omega) (by omega)) (c3 := in6_of (by omega) (by omega)) (c4 := by rw [ed]; exact in6n (Nat.le_trans nd (by omega)))
      refine l2 j [] h s A _ _ _ _ (by omega) (by show 0 + j ≤ 5; omega) hv (FR_refl h) (prQ_0 hp2) ?_
      show digs n j = digs n (dtop n)
      rw [show j = dtop n by omega]
    | succ m ih =>
      intro j t2 t4 t5 t6 hj
      have j4 := dtop_4 n
      have b := pw1 j (by omega)
      have nd : n / 10 ^ j ≤ n := Nat.div_le_self _ _
      have w9 : ¬ n / 10 ^ j ≤ 9 := fun w => by
        have := (dtop_is hn (show j ≤ 4 by omega)).mp w
        omega
      have ed : Int.tdiv (n : Int) ((10 ^ j : Nat) : Int) = ((n / 10 ^ j : Nat) : Int) := rfl
      refine k560_2 (fun w => absurd w (by rw [ed]; exact fun x => w9 (le9.mp x))) (fun _ => k560_12 ?_) (c1 := by omega) (c2 := in6_of (by omega) (by omega)) (c3 := in6_of (by omega) (by omega)) (c4 := by rw [ed]; exact in6n (Nat.le_trans nd (by omega)))
      have e10 : ((10 ^ j : Nat) : Int) * 10 = ((10 ^ (j + 1) : Nat) : Int) := by
        rw [Nat.pow_succ, Int.natCast_mul]
        rfl
      rw [e10]
      exact ih (j + 1) _ _ _ _ (by omega)
  exact k560_0 (l1 (dtop n) 0 _ _ _ _ (by omega))
end
