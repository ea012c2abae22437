/-! from the parts first to the whole first -/
def rpt (g : Nat → nod) (F S : Nat → Int) : Nat → Nat → List nod
  | 0, _ => []
  | f + 1, k => g k :: ((if F k = -1 then [] else rpt g F S f (F k).toNat) ++ (if S k = -1 then [] else rpt g F S f (S k).toNat))
/-- every part comes ahead of its whole -/
def chd (F S : Nat → Int) (K : Nat) : Prop := ∀ j, j < K → (F j = -1 ∨ (0 ≤ F j ∧ F j < (j : Int))) ∧ (S j = -1 ∨ (0 ≤ S j ∧ S j < (j : Int)))
theorem rpt_eq {g : Nat → nod} {F S F' S' : Nat → Int} {K : Nat} (H : chd F S K) (a : ∀ j, j < K → F' j = F j ∧ S' j = S j) : ∀ f f' i, i < K → i < f → i < f' → rpt g F S f i = rpt g F' S' f' i
  | 0, _, _, _, h, _ => absurd h (Nat.not_lt_zero _)
  | f + 1, 0, _, _, _, h => absurd h (Nat.not_lt_zero _)
  | f + 1, f' + 1, i, hK, h1, h2 => by
    obtain ⟨c1, c2⟩ := H i hK
    obtain ⟨e1, e2⟩ := a i hK
    show g i :: ((if F i = -1 then [] else rpt g F S f (F i).toNat) ++ (if S i = -1 then [] else rpt g F S f (S i).toNat)) = g i :: ((if F' i = -1 then [] else rpt g F' S' f' (F' i).toNat) ++ (if S' i = -1 then [] else rpt g F' S' f' (S' i).toNat))
    rw [e1, e2]
    have q1 : (if F i = -1 then [] else rpt g F S f (F i).toNat) = (if F i = -1 then [] else rpt g F' S' f' (F i).toNat) := by
      by_cases w : F i = -1
      · rw [if_pos w, if_pos w]
      · rw [if_neg w, if_neg w]
        exact rpt_eq H a f f' _ (by omega) (by omega) (by omega)
    have q2 : (if S i = -1 then [] else rpt g F S f (S i).toNat) = (if S i = -1 then [] else rpt g F' S' f' (S i).toNat) := by
      by_cases w : S i = -1
      · rw [if_pos w, if_pos w]
      · rw [if_neg w, if_neg w]
        exact rpt_eq H a f f' _ (by omega) (by omega) (by omega)
    rw [q1, q2]
def tre (g : Nat → nod) (F S : Nat → Int) (i : Nat) : List nod := rpt g F S (i + 1) i
theorem tre_eq {g : Nat → nod} {F S F' S' : Nat → Int} {K i : Nat} (H : chd F S K) (a : ∀ j, j < K → F' j = F j ∧ S' j = S j) (hi2 : i < K) : tre g F S i = tre g F' S' i := rpt_eq H a _ _ i hi2 (by omega) (by omega)
theorem tre_at {g : Nat → nod} {F S : Nat → Int} {K i : Nat} (H : chd F S K) (hi2 : i < K) : tre g F S i = g i :: ((if F i = -1 then [] else tre g F S (F i).toNat) ++ (if S i = -1 then [] else tre g F S (S i).toNat)) := by
  obtain ⟨c1, c2⟩ := H i hi2
  have r : ∀ j, j < i → rpt g F S i j = tre g F S j := fun j hj => rpt_eq H (fun _ _ => ⟨rfl, rfl⟩) _ _ j (by omega) hj (by omega)
  show g i :: ((if F i = -1 then [] else rpt g F S i (F i).toNat) ++ (if S i = -1 then [] else rpt g F S i (S i).toNat)) = _
  have q1 : (if F i = -1 then [] else rpt g F S i (F i).toNat) = (if F i = -1 then [] else tre g F S (F i).toNat) := by
    by_cases w : F i = -1
    · rw [if_pos w, if_pos w]
    · rw [if_neg w, if_neg w, r _ (by omega)]
  have q2 : (if S i = -1 then [] else rpt g F S i (S i).toNat) = (if S i = -1 then [] else tre g F S (S i).toNat) := by
    by_cases w : S i = -1
    · rw [if_pos w, if_pos w]
    · rw [if_neg w, if_neg w, r _ (by omega)]
  rw [q1, q2]
/-- a pile, its top first -/
def pil (R : Nat → Int) : List Nat → Prop
  | [] => True
  | p :: P => R P.length = (p : Int) ∧ pil R P
theorem pil_eq {R R' : Nat → Int} : ∀ {P : List Nat}, (∀ j, j < P.length → R' j = R j) → pil R P → pil R' P
  | [], _, _ => trivial
  | p :: P, h, w => by
    refine ⟨?_, pil_eq (fun j hj => h j (by show j < P.length + 1; omega)) w.2⟩
    rw [h P.length (by show P.length < P.length + 1; omega)]
    exact w.1
theorem map_tre {g : Nat → nod} {F S F' S' : Nat → Int} {K : Nat} (H : chd F S K) (a : ∀ j, j < K → F' j = F j ∧ S' j = S j) : ∀ {P : List Nat}, (∀ p, p ∈ P → p < K) → P.map (tre g F S) = P.map (tre g F' S')
  | [], _ => rfl
  | p :: P, h => by
    show tre g F S p :: P.map (tre g F S) = tre g F' S' p :: P.map (tre g F' S')
    rw [tre_eq H a (h p List.mem_cons_self), map_tre H a (fun q hq => h q (List.mem_cons_of_mem _ hq))]
theorem chd_up {F S : Nat → Int} {k : Nat} {f s : Int} (H : chd F S k) (hf : f = -1 ∨ (0 ≤ f ∧ f < (k : Int))) (hs : s = -1 ∨ (0 ≤ s ∧ s < (k : Int))) : chd (up F k f) (up S k s) (k + 1) := fun j hj => by
  by_cases q : j = k
  · rw [q, up_at, up_at]
    exact ⟨hf, hs⟩
  · rw [up_ne _ _ q, up_ne _ _ q]
    exact H j (by omega)
/-- a node more -/
theorem tr_step {g : Nat → nod} {F S : Nat → Int} {k : Nat} {st st' : List (List nod)} {P : List Nat} (e : st = P.map (tre g F S)) (H : chd F S k) (hP : ∀ p, p ∈ P → p < k) (w : pzp (g k) st = some st') : ∃ (f s : Int) (P0 : List Nat), chd (up F k f) (up S k s) (k + 1) ∧ st' = (k :: P0).map (tre g (up F k f) (up S k s)) ∧ (∀ p, p ∈ k :: P0 → p < k + 1) ∧ ((npa (g k).1 = 0 ∧ f = -1 ∧ s = -1 ∧ P = P0) ∨ (npa (g k).1 = 1 ∧ s = -1 ∧ ∃ p : Nat, P = p :: P0 ∧ f = (p : Int)) ∨ (npa (g k).1 = 2 ∧ ∃ p1 p2 : Nat, P = p2 :: p1 :: P0 ∧ f = (p1 : Int) ∧ s = (p2 : Int))) := by
  have ag : ∀ f s : Int, ∀ j, j < k → up F k f j = F j ∧ up S k s j = S j := fun f s j hj => ⟨up_ne _ _ (by omega), up_ne _ _ (by omega)⟩
  have at_ : ∀ f s : Int, chd (up F k f) (up S k s) (k + 1) → tre g (up F k f) (up S k s) k = g k :: ((if f = -1 then [] else tre g (up F k f) (up S k s) f.toNat) ++ (if s = -1 then [] else tre g (up F k f) (up S k s) s.toNat)) := fun f s C => by
    have := tre_at (g := g) C (show k < k + 1 by omega)
    rw [up_at, up_at] at this
    exact this
  unfold pzp at w
  by_cases w0 : npa (g k).1 = 0
  · rw [if_pos w0] at w
    have w := Option.some.inj w
    have C := chd_up (f := -1) (s := -1) H (.inl rfl) (.inl rfl)
    refine ⟨-1, -1, P, C, ?_, fun p hp => ?_, .inl ⟨w0, rfl, rfl, rfl⟩⟩
    · rw [← w]
      show _ = tre g (up F k (-1)) (up S k (-1)) k :: P.map (tre g (up F k (-1)) (up S k (-1)))
      rw [at_ _ _ C, if_pos rfl, e, map_tre H (ag (-1) (-1)) hP]
      rfl
    · rcases List.mem_cons.mp hp with q | q
      · omega
      · have := hP p q
        omega
  rw [if_neg w0] at w
  by_cases w1 : npa (g k).1 = 1
  · rw [if_pos w1] at w
    cases P with
    | nil => rw [e] at w; cases w
    | cons p P0 =>
      have hp := hP p List.mem_cons_self
      rw [e] at w
      have w : some ((g k :: tre g F S p) :: P0.map (tre g F S)) = some st' := w
      have w := Option.some.inj w
      have C := chd_up (f := (p : Int)) (s := -1) H (.inr ⟨by omega, by omega⟩) (.inl rfl)
      refine ⟨(p : Int), -1, P0, C, ?_, fun q hq => ?_, .inr (.inl ⟨w1, rfl, p, rfl, rfl⟩)⟩
      · rw [← w]
        show _ = tre g (up F k (p : Int)) (up S k (-1)) k :: P0.map (tre g (up F k (p : Int)) (up S k (-1)))
        rw [at_ _ _ C, if_neg (by omega), if_pos rfl, List.append_nil, map_tre H (ag (p : Int) (-1)) (fun q hq => hP q (List.mem_cons_of_mem _ hq)), show ((p : Int)).toNat = p by omega, tre_eq H (ag (p : Int) (-1)) hp]
      · rcases List.mem_cons.mp hq with z | z
        · omega
        · have := hP q (List.mem_cons_of_mem _ z)
          omega
  · rw [if_neg w1] at w
    have w2 : npa (g k).1 = 2 := by
      unfold npa at *
      split at w0
      · rename_i y
        rw [if_pos y] at w1
        exact absurd rfl w1
      · rename_i y
        rw [if_neg y] at w1 ⊢
        split at w0
        · exact absurd rfl w0
        · rename_i z
          rw [if_neg z]
    match P, e, hP with
    | [], e, _ => rw [e] at w; cases w
    | [_], e, _ => rw [e] at w; cases w
    | p2 :: p1 :: P0, e, hP =>
      have hp2 := hP p2 List.mem_cons_self
      have hp1 := hP p1 (List.mem_cons_of_mem _ List.mem_cons_self)
      rw [e] at w
      have w : some ((g k :: (tre g F S p1 ++ tre g F S p2)) :: P0.map (tre g F S)) = some st' := w
      have w := Option.some.inj w
      have C := chd_up (f := (p1 : Int)) (s := (p2 : Int)) H (.inr ⟨by omega, by omega⟩) (.inr ⟨by omega, by omega⟩)
      refine ⟨(p1 : Int), (p2 : Int), P0, C, ?_, fun q hq => ?_, .inr (.inr ⟨w2, p1, p2, rfl, rfl, rfl⟩)⟩
      · rw [← w]
        show _ = tre g (up F k (p1 : Int)) (up S k (p2 : Int)) k :: P0.map (tre g (up F k (p1 : Int)) (up S k (p2 : Int)))
        rw [at_ _ _ C, if_neg (by omega), if_neg (by omega), map_tre H (ag (p1 : Int) (p2 : Int)) (fun q hq => hP q (List.mem_cons_of_mem _ (List.mem_cons_of_mem _ hq))), show ((p1 : Int)).toNat = p1 by omega, show ((p2 : Int)).toNat = p2 by omega, tre_eq H (ag (p1 : Int) (p2 : Int)) hp1, tre_eq H (ag (p1 : Int) (p2 : Int)) hp2]
      · rcases List.mem_cons.mp hq with z | z
        · omega
        · have := hP q (List.mem_cons_of_mem _ (List.mem_cons_of_mem _ z))
          omega
/-- a pile holds as many nodes as were put down -/
theorem pzp_len {x : nod} {st st' : List (List nod)} (h : pzp x st = some st') : st'.flatten.length = st.flatten.length + 1 := by
  unfold pzp at h
  split at h
  · rw [← Option.some.inj h]
    show ([x] ++ st.flatten).length = _
    rw [List.length_append]
    exact Nat.add_comm _ _
  · split at h
    · cases st with
      | nil => cases h
      | cons t st =>
        have h : some ((x :: t) :: st) = some st' := h
        rw [← Option.some.inj h]
        show ((x :: t) ++ st.flatten).length = (t ++ st.flatten).length + 1
        rw [List.length_append, List.length_append, List.length_cons]
        omega
    · match st, h with
      | [], h => cases h
      | [_], h => cases h
      | t2 :: t1 :: st, h =>
        have h : some ((x :: (t1 ++ t2)) :: st) = some st' := h
        rw [← Option.some.inj h]
        show ((x :: (t1 ++ t2)) ++ st.flatten).length = (t2 ++ (t1 ++ st.flatten)).length + 1
        rw [List.length_append, List.length_append, List.length_append, List.length_cons, List.length_append]
        omega
theorem pzf_len : ∀ {l : List nod} {st st' : List (List nod)}, pzf l st = some st' → st'.flatten.length = st.flatten.length + l.length
  | [], st, st', h => by
    have h : some st = some st' := h
    rw [Option.some.inj h]
    rfl
  | x :: l, st, st', h => by
    replace h : (match pzp x st with | none => none | some st'' => pzf l st'') = some st' := h
    cases e : pzp x st with
    | none => rw [e] at h; cases h
    | some st2 =>
      rw [e] at h
      rw [pzf_len h, pzp_len e, List.length_cons]
      omega
theorem pil_le {g : Nat → nod} {F S : Nat → Int} : ∀ P : List Nat, P.length ≤ (P.map (tre g F S)).flatten.length
  | [] => Nat.le_refl _
  | p :: P => by
    have := pil_le (g := g) (F := F) (S := S) P
    show P.length + 1 ≤ (tre g F S p ++ (P.map (tre g F S)).flatten).length
    have e : (tre g F S p).length = ((if F p = -1 then [] else rpt g F S p (F p).toNat) ++ (if S p = -1 then [] else rpt g F S p (S p).toNat)).length + 1 := rfl
    rw [List.length_append, e]
    omega
