/-! what a text put down, the parts first, as a pile of trees -/
/-- one node more: its parts lie on the pile -/
def pzp (x : nod) (st : List (List nod)) : Option (List (List nod)) := if npa x.1 = 0 then some ([x] :: st) else if npa x.1 = 1 then (match st with | t :: st => some ((x :: t) :: st) | [] => none) else (match st with | t2 :: t1 :: st => some ((x :: (t1 ++ t2)) :: st) | _ => none)
def pzf : List nod → List (List nod) → Option (List (List nod))
  | [], st => some st
  | x :: l, st => match pzp x st with | none => none | some st' => pzf l st'
theorem pzf_app {l' : List nod} : ∀ {l : List nod} {st st' : List (List nod)}, pzf l st = some st' → pzf (l ++ l') st = pzf l' st'
  | [], st, st', h => by
    have h : some st = some st' := h
    have h : st = st' := Option.some.inj h
    rw [h]
    rfl
  | x :: l, st, st', h => by
    show (match pzp x st with | none => none | some st'' => pzf (l ++ l') st'') = _
    replace h : (match pzp x st with | none => none | some st'' => pzf l st'') = some st' := h
    cases e : pzp x st with
    | none => rw [e] at h; cases h
    | some st2 =>
      rw [e] at h
      exact pzf_app h
/-- e nodes put down make a pile of m trees -/
def EQ (A : Nat → Nat → Int) (e m : Nat) : Prop := ∃ st, pzf (pce (gr A 1356 1357) 0 e) [] = some st ∧ st.length = m ∧ (∀ t, t ∈ st → trL t) ∧ ∀ x, x ∈ pce (gr A 1356 1357) 0 e → gdn x
theorem EQ_same {A B : Nat → Nat → Int} {e m : Nat} (h : EQ A e m) (e1 : B 1356 = A 1356) (e2 : B 1357 = A 1357) : EQ B e m := by
  unfold EQ gr at *
  rw [e1, e2]
  exact h
theorem EQ_put {A B : Nat → Nat → Int} {e : Nat} {x y : Int} (e1 : ∀ k, B 1356 k = if k = e then x else A 1356 k) (e2 : ∀ k, B 1357 k = if k = e then y else A 1357 k) : pce (gr B 1356 1357) 0 (e + 1) = pce (gr A 1356 1357) 0 e ++ [(x, y)] := by
  rw [pce_app, pce_eq (g' := gr A 1356 1357) e 0 0 (fun k hk => by
    unfold gr
    rw [e1, e2, if_neg (by omega), if_neg (by omega)])]
  congr 1
  show [(B 1356 (0 + e), B 1357 (0 + e))] = _
  rw [e1, e2, if_pos (by omega), if_pos (by omega)]
theorem EQ_more {A B : Nat → Nat → Int} {e m m' : Nat} {x y : Int} (h : EQ A e m) (e1 : ∀ k, B 1356 k = if k = e then x else A 1356 k) (e2 : ∀ k, B 1357 k = if k = e then y else A 1357 k) (hg : gdn (x, y)) (H : ∀ st, st.length = m → (∀ t, t ∈ st → trL t) → ∃ st', pzp (x, y) st = some st' ∧ st'.length = m' ∧ ∀ t, t ∈ st' → trL t) : EQ B (e + 1) m' := by
  obtain ⟨st, h1, h2, h3, h4⟩ := h
  obtain ⟨st', a1, a2, a3⟩ := H st h2 h3
  refine ⟨st', ?_, a2, a3, fun z hz => ?_⟩
  rotate_left
  · rw [EQ_put e1 e2] at hz
    rcases List.mem_append.mp hz with q | q
    · exact h4 z q
    · rw [List.mem_singleton.mp q]
      exact hg
  rw [EQ_put e1 e2, pzf_app h1]
  show (match pzp (x, y) st with | none => none | some st'' => pzf [] st'') = _
  rw [a1]
  rfl
theorem EQ_0 {A B : Nat → Nat → Int} {e m : Nat} {x y : Int} (h : EQ A e m) (e1 : ∀ k, B 1356 k = if k = e then x else A 1356 k) (e2 : ∀ k, B 1357 k = if k = e then y else A 1357 k) (hp : npa x = 0) (hg : gdn (x, y)) : EQ B (e + 1) (m + 1) := by
  refine EQ_more h e1 e2 hg (fun st l g => ⟨[(x, y)] :: st, if_pos hp, congrArg (· + 1) l, fun t ht => ?_⟩)
  rcases List.mem_cons.mp ht with q | q
  · rw [q]
    exact ⟨fun z hz => by rw [List.mem_singleton.mp hz]; exact hg, wlk_m0 hp⟩
  · exact g t q
theorem EQ_1 {A B : Nat → Nat → Int} {e m : Nat} {x y : Int} (h : EQ A e m) (m1 : 1 ≤ m) (e1 : ∀ k, B 1356 k = if k = e then x else A 1356 k) (e2 : ∀ k, B 1357 k = if k = e then y else A 1357 k) (hp : npa x = 1) (hg : gdn (x, y)) : EQ B (e + 1) m := by
  refine EQ_more h e1 e2 hg (fun st l g => ?_)
  cases st with
  | nil => exact absurd m1 (by rw [← l]; decide)
  | cons t st =>
    refine ⟨((x, y) :: t) :: st, (if_neg (by rw [show npa ((x, y) : nod).1 = 1 from hp]; decide)).trans (if_pos hp), l, fun u hu => ?_⟩
    rcases List.mem_cons.mp hu with q | q
    · have gt := g t List.mem_cons_self
      rw [q]
      refine ⟨fun z hz => ?_, wlk_m1 hp gt.2⟩
      rcases List.mem_cons.mp hz with q | q
      · rw [q]; exact hg
      · exact gt.1 z q
    · exact g u (List.mem_cons_of_mem _ q)
theorem EQ_2 {A B : Nat → Nat → Int} {e m m' : Nat} {x y : Int} (h : EQ A e m) (m1 : 2 ≤ m) (em : m' + 1 = m) (e1 : ∀ k, B 1356 k = if k = e then x else A 1356 k) (e2 : ∀ k, B 1357 k = if k = e then y else A 1357 k) (hp : npa x = 2) (hg : gdn (x, y)) : EQ B (e + 1) m' := by
  refine EQ_more h e1 e2 hg (fun st l g => ?_)
  match st, l, g with
  | [], l, _ => exact absurd m1 (by rw [← l]; decide)
  | [_], l, _ =>
    have l : 1 = m := l
    omega
  | t2 :: t1 :: st, l, g =>
    refine ⟨((x, y) :: (t1 ++ t2)) :: st, (if_neg (by rw [show npa ((x, y) : nod).1 = 2 from hp]; decide)).trans (if_neg (by rw [show npa ((x, y) : nod).1 = 2 from hp]; decide)), ?_, fun u hu => ?_⟩
    · have : st.length + 1 + 1 = m := l
      show st.length + 1 = m'
      omega
    · rcases List.mem_cons.mp hu with q | q
      · have g1 := g t1 (List.mem_cons_of_mem _ List.mem_cons_self)
        have g2 := g t2 List.mem_cons_self
        rw [q]
        refine ⟨fun z hz => ?_, wlk_m2 hp g1.2 g2.2⟩
        rcases List.mem_cons.mp hz with q | q
        · rw [q]; exact hg
        · rcases List.mem_append.mp q with q | q
          · exact g1.1 z q
          · exact g2.1 z q
      · exact g u (List.mem_cons_of_mem _ (List.mem_cons_of_mem _ q))
/-- how many trees wait for a sign's second one -/
def pn (A : Nat → Nat → Int) (k : Nat) : Nat := (if A 1335 k ≠ 0 then 1 else 0) + (if A 1336 k ≠ 0 then 1 else 0)
def psm (A : Nat → Nat → Int) : Nat → Nat
  | 0 => pn A 0
  | n + 1 => psm A n + pn A (n + 1)
theorem psm_eq {A B : Nat → Nat → Int} : ∀ n, (∀ k, k ≤ n → pn B k = pn A k) → psm B n = psm A n
  | 0, h => h 0 (Nat.le_refl _)
  | n + 1, h => by
    unfold psm
    rw [psm_eq n (fun k hk => h k (by omega)), h (n + 1) (Nat.le_refl _)]
theorem psm_top {A B : Nat → Nat → Int} : ∀ n, (∀ k, k < n → pn B k = pn A k) → psm B n + pn A n = psm A n + pn B n
  | 0, _ => by
    show pn B 0 + pn A 0 = pn A 0 + pn B 0
    omega
  | n + 1, h => by
    show psm B n + pn B (n + 1) + pn A (n + 1) = psm A n + pn A (n + 1) + pn B (n + 1)
    rw [psm_eq n (fun k hk => h k (by omega))]
    omega
theorem psm_ge (A : Nat → Nat → Int) : ∀ n, pn A n ≤ psm A n
  | 0 => Nat.le_refl _
  | n + 1 => Nat.le_add_left _ _
theorem pn_eq {A B : Nat → Nat → Int} {k : Nat} (h1 : B 1335 k = A 1335 k) (h2 : B 1336 k = A 1336 k) : pn B k = pn A k := by
  unfold pn
  rw [h1, h2]
/-- what holds of what was put down while a formula is read -/
def frI (s : Nat → Int) (A : Nat → Nat → Int) : Prop := s 55 ≠ 0 ∨ s 76 ≠ -1 ∨ ∃ n e : Nat, s 59 = (n : Int) ∧ s 88 = (e : Int) ∧ (s 72 = 4 → EQ A e 1) ∧ (s 72 < 4 → EQ A e (psm A n + (if s 72 < 2 then 0 else 1)))
theorem fl1_55 (s : Nat → Int) {w : Int} (p : Int) (h : w ≠ 0) : fl1 s w p 55 ≠ 0 := by
  unfold fl1
  rw [up_ne _ _ (by decide), up_at]
  exact h
theorem dg_or {s s1 : Nat → Int} {A : Nat → Nat → Int} {i m n : Nat} (h0 : s 55 = 0) (h : dgS s A i m n s1) : s1 = s ∨ s1 55 ≠ 0 := by
  rcases h.2.2 with x | x
  · exact .inl x.2
  · right
    rw [x.2.2, flS_0 h0]
    exact fl1_55 _ _ (by decide)
theorem pa_if {A : Nat → Nat → Int} {c n : Nat} {z : Int} (k : Nat) : pa A c n z c k = if k = n then z else A c k := by
  unfold pa
  rw [up_at]
theorem gdn_mk {x y : Int} (h : 0 ≤ x ∧ x ≤ 7) (hy : 0 ≤ y ∧ y < 32003) (h7 : x = 7 → y ≤ 99) : gdn (x, y) := ⟨h, hy, h7⟩
