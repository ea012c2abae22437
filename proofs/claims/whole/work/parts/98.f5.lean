/-! the order of factors; how many are gone -/
theorem ahd_irr (f : zp_R) : ¬ ahd f f := fun h => by
  rcases h with h | ⟨_, n, _, h⟩ <;> omega
theorem ahd_tr {f g k : zp_R} (h : ahd f g) (h' : ahd g k) : ahd f k := by
  rcases h with h | ⟨h, n, a, b⟩
  · rcases h' with h' | ⟨h', _⟩
    · exact .inl (by omega)
    · exact .inl (by omega)
  · rcases h' with h' | ⟨h', n', a', b'⟩
    · exact .inl (by omega)
    · refine .inr ⟨by omega, ?_⟩
      rcases Nat.lt_trichotomy n n' with q | q | q
      · exact ⟨n', fun j hj => (a j (by omega)).trans (a' j hj), by rw [a n' q]; exact b'⟩
      · subst q
        exact ⟨n, fun j hj => (a j hj).trans (a' j hj), by omega⟩
      · exact ⟨n, fun j hj => (a j hj).trans (a' j (by omega)), by rw [← a' n q]; exact b⟩
theorem ahd_tot {f g : zp_R} (h : f ≠ g) : ahd f g ∨ ahd g f := by
  by_cases q : hi f = hi g
  · obtain ⟨n, hn⟩ := (zp_add f (zp_neg g)).2
    obtain ⟨m, _, a, b⟩ := nz_top n (zp_add f (zp_neg g)) hn (fun w => h (@un_h5 zp_R zp_ring _ _ w))
    have same : ∀ j, m < j → f.1 j = g.1 j := fun j hj => by
      have : f.1 j + -(g.1 j) = 0 := b j hj
      exact @un_h5 zp_F _ _ _ this
    have ne : (f.1 m).val ≠ (g.1 m).val := fun w => a (by
      show f.1 m + -(g.1 m) = 0
      rw [show f.1 m = g.1 m from Fin.ext w]
      exact @zpr_ev.zv_h zp_F _ _)
    rcases Nat.lt_or_gt_of_ne ne with l | l
    · exact .inl (.inr ⟨q, m, same, l⟩)
    · exact .inr (.inr ⟨q.symm, m, fun j hj => (same j hj).symm, l⟩)
  · rcases Int.lt_or_gt_of_ne q with l | l
    · exact .inl (.inl l)
    · exact .inr (.inl l)
def cntb (g : Nat → Bool) : Nat → Nat
  | 0 => 0
  | n + 1 => cntb g n + (if g n = true then 1 else 0)
def setb (g : Nat → Bool) (k : Nat) : Nat → Bool := fun j => if j = k then true else g j
theorem setb_at (g : Nat → Bool) (k : Nat) : setb g k k = true := if_pos rfl
theorem setb_ne {g : Nat → Bool} {k j : Nat} (h : j ≠ k) : setb g k j = g j := if_neg h
theorem cntb_ge {g : Nat → Bool} {k : Nat} : ∀ n, n ≤ k → cntb (setb g k) n = cntb g n
  | 0, _ => rfl
  | n + 1, h => by
    show cntb (setb g k) n + (if setb g k n = true then 1 else 0) = cntb g n + (if g n = true then 1 else 0)
    rw [cntb_ge n (by omega), setb_ne (by omega)]
theorem cntb_set {g : Nat → Bool} {k : Nat} (hg : g k = false) : ∀ n, k < n → cntb (setb g k) n = cntb g n + 1
  | 0, h => absurd h (Nat.not_lt_zero k)
  | n + 1, h => by
    show cntb (setb g k) n + (if setb g k n = true then 1 else 0) = cntb g n + (if g n = true then 1 else 0) + 1
    by_cases q : k = n
    · subst q
      rw [cntb_ge k (Nat.le_refl k), setb_at, hg]
      rfl
    · rw [cntb_set hg n (by omega), setb_ne (by omega)]
      omega
theorem cntb_le (g : Nat → Bool) : ∀ n, cntb g n ≤ n
  | 0 => Nat.le_refl 0
  | n + 1 => by
    have := cntb_le g n
    show cntb g n + (if g n = true then 1 else 0) ≤ n + 1
    split <;> omega
theorem cntb_lt {g : Nat → Bool} : ∀ n, cntb g n < n → ∃ j, j < n ∧ g j = false
  | 0, h => absurd h (Nat.not_lt_zero _)
  | n + 1, h => by
    by_cases q : g n = true
    · have e : cntb g (n + 1) = cntb g n + 1 := by
        show cntb g n + (if g n = true then 1 else 0) = _
        rw [if_pos q]
      obtain ⟨j, a, b⟩ := cntb_lt (g := g) n (by omega)
      exact ⟨j, by omega, b⟩
    · exact ⟨n, Nat.lt_succ_self n, by
        cases e : g n
        · rfl
        · exact absurd e q⟩
theorem cntb_all {g : Nat → Bool} : ∀ n, cntb g n = n → ∀ j, j < n → g j = true
  | 0, _, j, hj => absurd hj (Nat.not_lt_zero j)
  | n + 1, h, j, hj => by
    have l := cntb_le g n
    have e : cntb g (n + 1) = cntb g n + (if g n = true then 1 else 0) := rfl
    by_cases q : g n = true
    · rw [if_pos q] at e
      by_cases jn : j = n
      · rw [jn]; exact q
      · exact cntb_all n (by omega) j (by omega)
    · rw [if_neg q] at e
      omega
theorem cntb_0 : ∀ n, cntb (fun _ => false) n = 0
  | 0 => rfl
  | n + 1 => by
    show cntb (fun _ => false) n + (if false = true then 1 else 0) = 0
    rw [cntb_0 n]; rfl
/-- the factors of p in their order, their degrees, how often they divide it -/
def facs (p : zp_R) (n : Nat) (F : Nat → zp_R) (D O : Nat → Nat) : Prop :=
  (∀ i, i < n → irr (F i) ∧ dv (F i) p ∧ mon (F i) (D i) ∧ oft p (F i) (O i)) ∧ (∀ i j, i < j → j < n → ahd (F i) (F j)) ∧ ∀ f, irr f → dv f p → ∃ i, i < n ∧ F i = f
def facR (p : zp_R) (n : Nat) (F : Nat → zp_R) (D O : Nat → Nat) : Prop := (hi p < 1 → n = 0) ∧ (1 ≤ hi p → facs p n F D O)
/-- amid the choosing: c are chosen, those with g are gone -/
def cho (P : Nat → zp_R) (m c : Nat) (g : Nat → Bool) (F : Nat → zp_R) : Prop :=
  cntb g m = c ∧ (∀ i, i < c → ∃ j, j < m ∧ g j = true ∧ F i = P j) ∧ (∀ j, j < m → g j = true → ∃ i, i < c ∧ F i = P j) ∧ (∀ i j, i < c → j < m → g j = false → ahd (F i) (P j)) ∧ ∀ i i', i < i' → i' < c → ahd (F i) (F i')
theorem cho_0 (P : Nat → zp_R) (m : Nat) : cho P m 0 (fun _ => false) (fun _ => zp_C 0) := ⟨cntb_0 m, fun i hi2 => absurd hi2 (Nat.not_lt_zero i), fun j _ h => Bool.noConfusion h, fun i _ hi2 => absurd hi2 (Nat.not_lt_zero i), fun _ i h1 h2 => absurd h2 (Nat.not_lt_zero i)⟩
/-- the least one that isn't gone is chosen -/
theorem cho_s {P F : Nat → zp_R} {m c k : Nat} {g : Nat → Bool} (h : cho P m c g F) (hk : k < m) (gk : g k = false) (least : ∀ j, j < m → g j = false → ¬ ahd (P j) (P k)) (dis : ∀ i j, i < j → j < m → P i ≠ P j) : cho P m (c + 1) (setb g k) (pu F c (P k)) := by
  obtain ⟨h1, h2, h3, h4, h5⟩ := h
  refine ⟨by rw [cntb_set gk m hk, h1], fun i hi2 => ?_, fun j hj gj => ?_, fun i j hi2 hj gj => ?_, fun i i' hii hi2 => ?_⟩
  · by_cases q : i = c
    · rw [q, pu_at]; exact ⟨k, hk, setb_at g k, rfl⟩
    · rw [pu_ne q]
      obtain ⟨j, a, b, e⟩ := h2 i (by omega)
      exact ⟨j, a, by
        by_cases q2 : j = k
        · rw [q2]; exact setb_at g k
        · rw [setb_ne q2]; exact b, e⟩
  · by_cases q : j = k
    · exact ⟨c, by omega, by rw [pu_at, q]⟩
    · rw [setb_ne q] at gj
      obtain ⟨i, a, b⟩ := h3 j hj gj
      exact ⟨i, by omega, by rw [pu_ne (by omega)]; exact b⟩
  · have jk : j ≠ k := fun w => by
      rw [w, setb_at] at gj; exact Bool.noConfusion gj
    rw [setb_ne jk] at gj
    by_cases q : i = c
    · rw [q, pu_at]
      refine (ahd_tot (f := P k) (g := P j) ?_).resolve_right (least j hj gj)
      rcases Nat.lt_trichotomy j k with l | l | l
      · exact fun w => dis j k l hk w.symm
      · exact absurd l jk
      · exact dis k j l hj
    · rw [pu_ne q]
      exact h4 i j (by omega) hj gj
  · by_cases q : i' = c
    · rw [q, pu_at, pu_ne (by omega)]
      exact h4 i k (by omega) hk gk
    · rw [pu_ne q, pu_ne (by omega)]
      exact h5 i i' hii (by omega)
