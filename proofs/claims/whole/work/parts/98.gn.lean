/-! trees as lists of nodes, the whole first -/
abbrev nod : Type := Int × Int
/-- m nodes of a row, from a -/
def pce (g : Nat → nod) : Nat → Nat → List nod
  | _, 0 => []
  | a, m + 1 => g a :: pce g (a + 1) m
theorem pce_len (g : Nat → nod) : ∀ m a, (pce g a m).length = m
  | 0, _ => rfl
  | m + 1, a => congrArg (· + 1) (pce_len g m (a + 1))
theorem pce_app (g : Nat → nod) (k : Nat) : ∀ m a, pce g a (m + k) = pce g a m ++ pce g (a + m) k
  | 0, a => by
    rw [Nat.zero_add]
    rfl
  | m + 1, a => by
    rw [show m + 1 + k = (m + k) + 1 by omega, show a + (m + 1) = (a + 1) + m by omega]
    show g a :: pce g (a + 1) (m + k) = g a :: (pce g (a + 1) m ++ pce g (a + 1 + m) k)
    rw [pce_app g k m (a + 1)]
theorem pce_eq {g g' : Nat → nod} : ∀ m a b, (∀ k, k < m → g (a + k) = g' (b + k)) → pce g a m = pce g' b m
  | 0, _, _, _ => rfl
  | m + 1, a, b, h => by
    have h0 : g a = g' b := h 0 (by omega)
    show g a :: pce g (a + 1) m = g' b :: pce g' (b + 1) m
    rw [h0, pce_eq m (a + 1) (b + 1) (fun k hk => by
      have := h (k + 1) (by omega)
      rw [show a + 1 + k = a + (k + 1) by omega, show b + 1 + k = b + (k + 1) by omega]
      exact this)]
theorem pce_get (g : Nat → nod) : ∀ m a k, k < m → (pce g a m).getD k (0, 0) = g (a + k)
  | 0, _, _, h => absurd h (Nat.not_lt_zero _)
  | m + 1, a, 0, _ => rfl
  | m + 1, a, k + 1, h => by
    have := pce_get g m (a + 1) k (by omega)
    rw [show a + (k + 1) = a + 1 + k by omega]
    exact this
theorem pce_self : ∀ (L : List nod) (g : Nat → nod) (a : Nat), (∀ k, k < L.length → g (a + k) = L.getD k (0, 0)) → pce g a L.length = L
  | [], _, _, _ => rfl
  | x :: L, g, a, h => by
    have h0 : g a = x := h 0 (by show 0 < L.length + 1; omega)
    show g a :: pce g (a + 1) L.length = x :: L
    rw [h0, pce_self L g (a + 1) (fun k hk => by
      have := h (k + 1) (by show k + 1 < L.length + 1; omega)
      rw [show a + 1 + k = a + (k + 1) by omega]
      exact this)]
theorem pce_mem {g : Nat → nod} : ∀ {m a : Nat} {x : nod}, x ∈ pce g a m → ∃ k, k < m ∧ x = g (a + k)
  | 0, _, _, h => absurd h List.not_mem_nil
  | m + 1, a, x, h => by
    rcases List.mem_cons.mp h with q | q
    · exact ⟨0, by omega, q⟩
    · obtain ⟨k, hk, e⟩ := pce_mem q
      exact ⟨k + 1, by omega, by rw [e, show a + (k + 1) = a + 1 + k by omega]⟩
theorem pce_in {g : Nat → nod} {m a k : Nat} (h : k < m) : g (a + k) ∈ pce g a m := by
  obtain ⟨j, ej⟩ : ∃ j, m = k + (j + 1) := ⟨m - k - 1, by omega⟩
  rw [ej, pce_app]
  exact List.mem_append_right _ (List.mem_cons_self)
/-- a piece of a row is cut as its list is -/
theorem pce_cut {g : Nat → nod} {m a : Nat} {l1 l2 : List nod} (h : pce g a m = l1 ++ l2) : l1.length + l2.length = m ∧ l1 = pce g a l1.length ∧ l2 = pce g (a + l1.length) l2.length := by
  have e : l1.length + l2.length = m := by
    rw [← List.length_append, ← h, pce_len]
  rw [← e, pce_app] at h
  obtain ⟨x, y⟩ := List.append_inj h (pce_len g _ a)
  exact ⟨e, x.symm, y.symm⟩
theorem npa_b (k : Int) : 0 ≤ npa k ∧ npa k ≤ 2 := by
  unfold npa
  split
  · decide
  · split <;> decide
/-- a list of nodes takes what is wanted from k to j -/
def wlk : List nod → Int → Int → Prop
  | [], k, j => k = j
  | x :: l, k, j => 0 < k ∧ wlk l (k + npa x.1 - 1) j
theorem wlk_app {S : List nod} {j : Int} : ∀ {P : List nod} {k : Int}, wlk (P ++ S) k j ↔ ∃ i, wlk P k i ∧ wlk S i j
  | [], k => ⟨fun h => ⟨k, rfl, h⟩, fun ⟨i, e, h⟩ => by
    have e : k = i := e
    rw [e]
    exact h⟩
  | x :: P, k => by
    have ih := wlk_app (S := S) (j := j) (P := P) (k := k + npa x.1 - 1)
    exact ⟨fun h => by
      obtain ⟨h1, h2⟩ := h
      obtain ⟨i, h3, h4⟩ := ih.mp h2
      exact ⟨i, ⟨h1, h3⟩, h4⟩, fun ⟨i, h1, h2⟩ => ⟨h1.1, ih.mpr ⟨i, h1.2, h2⟩⟩⟩
theorem wlk_add {c : Int} (hc : 0 ≤ c) : ∀ {L : List nod} {k j : Int}, wlk L k j → wlk L (k + c) (j + c)
  | [], k, j, h => by
    have h : k = j := h
    show k + c = j + c
    rw [h]
  | x :: L, k, j, h => by
    refine ⟨by have := h.1; omega, ?_⟩
    have := wlk_add hc h.2
    rw [show k + c + npa x.1 - 1 = k + npa x.1 - 1 + c by omega]
    exact this
theorem wlk_fun : ∀ {L : List nod} {k j j' : Int}, wlk L k j → wlk L k j' → j = j'
  | [], _, _, _, h, h' => Eq.trans (Eq.symm h) h'
  | _ :: _, _, _, _, h, h' => wlk_fun h.2 h'.2
theorem wlk_dif : ∀ {L : List nod} {k j k' j' : Int}, wlk L k j → wlk L k' j' → j - k = j' - k'
  | [], k, j, k', j', h, h' => by
    have h : k = j := h
    have h' : k' = j' := h'
    omega
  | x :: L, k, j, k', j', h, h' => by
    have := wlk_dif h.2 h'.2
    omega
theorem wlk_le : ∀ {L : List nod} {k j : Int}, wlk L k j → k ≤ j + L.length
  | [], k, j, h => by
    have h : k = j := h
    rw [h]
    exact Int.le_add_of_nonneg_right (Int.natCast_nonneg _)
  | x :: L, k, j, h => by
    have := wlk_le h.2
    have := (npa_b x.1).1
    have e : (x :: L).length = L.length + 1 := rfl
    rw [e]
    omega
theorem wlk_cut {j : Int} : ∀ {L : List nod} {k c : Int}, wlk L (k + c) j → j ≤ c → 0 ≤ c → 0 ≤ k → ∃ l1 l2, L = l1 ++ l2 ∧ wlk l1 k 0 ∧ wlk l2 c j
  | [], k, c, h, h1, h2, h3 => by
    have h : k + c = j := h
    refine ⟨[], [], rfl, ?_, ?_⟩
    · show k = 0
      omega
    · show c = j
      omega
  | x :: L, k, c, h, h1, h2, h3 => by
    by_cases w : k = 0
    · rw [w, Int.zero_add] at h
      exact ⟨[], x :: L, rfl, w, h⟩
    · have b := npa_b x.1
      have h5 : wlk L (k + c + npa x.1 - 1) j := h.2
      rw [show k + c + npa x.1 - 1 = (k + npa x.1 - 1) + c by omega] at h5
      obtain ⟨l1, l2, e, a1, a2⟩ := wlk_cut h5 h1 h2 (by omega)
      exact ⟨x :: l1, l2, by rw [e]; rfl, ⟨by omega, a1⟩, a2⟩
theorem wlk_one {L : List nod} (h : wlk L 1 0) {i : Int} (hi2 : 1 ≤ i) : wlk L i (i - 1) := by
  have := wlk_add (c := i - 1) (by omega) h
  rw [show 1 + (i - 1) = i by omega, show 0 + (i - 1) = i - 1 by omega] at this
  exact this
theorem wlk_ne {L : List nod} (h : wlk L 1 0) : 0 < L.length := by
  cases L with
  | nil => exact absurd (show (1 : Int) = 0 from h) (by decide)
  | cons x L => exact Nat.succ_pos _
/-- no tree begins another -/
theorem wlk_end {L l : List nod} (h : wlk L 1 0) (h' : wlk (L ++ l) 1 0) : l = [] := by
  obtain ⟨i, a, b⟩ := wlk_app.mp h'
  have e := wlk_fun h a
  cases l with
  | nil => rfl
  | cons x l =>
    have := b.1
    omega
/-- a node's parts -/
theorem wlk_0 {x : nod} {l : List nod} (h : wlk (x :: l) 1 0) (e : npa x.1 = 0) : l = [] := by
  have h2 := h.2
  rw [e] at h2
  cases l with
  | nil => rfl
  | cons y l => exact absurd h2.1 (by decide)
theorem wlk_1 {x : nod} {l : List nod} (h : wlk (x :: l) 1 0) (e : npa x.1 = 1) : wlk l 1 0 := by
  have h2 := h.2
  rw [e] at h2
  exact h2
theorem wlk_2 {x : nod} {l : List nod} (h : wlk (x :: l) 1 0) (e : npa x.1 = 2) : ∃ l1 l2, l = l1 ++ l2 ∧ wlk l1 1 0 ∧ wlk l2 1 0 := by
  have h2 := h.2
  rw [e] at h2
  exact wlk_cut (k := 1) (c := 1) h2 (by decide) (by decide) (by decide)
theorem wlk_m0 {x : nod} (e : npa x.1 = 0) : wlk [x] 1 0 := by
  refine ⟨by decide, ?_⟩
  show (1 : Int) + npa x.1 - 1 = 0
  rw [e]
  rfl
theorem wlk_m1 {x : nod} {l : List nod} (e : npa x.1 = 1) (h : wlk l 1 0) : wlk (x :: l) 1 0 := by
  refine ⟨by decide, ?_⟩
  rw [e]
  exact h
theorem wlk_m2 {x : nod} {l1 l2 : List nod} (e : npa x.1 = 2) (h1 : wlk l1 1 0) (h2 : wlk l2 1 0) : wlk (x :: (l1 ++ l2)) 1 0 := by
  refine ⟨by decide, ?_⟩
  rw [e]
  exact wlk_app.mpr ⟨1, wlk_one h1 (i := 2) (by decide), h2⟩
/-- a node that a tree may hold -/
def gdn (x : nod) : Prop := (0 ≤ x.1 ∧ x.1 ≤ 7) ∧ (0 ≤ x.2 ∧ x.2 < 32003) ∧ (x.1 = 7 → x.2 ≤ 99)
/-- a list that is a tree -/
def trL (L : List nod) : Prop := (∀ x, x ∈ L → gdn x) ∧ wlk L 1 0
theorem wlk_tro (so va : Nat → Int) : ∀ m, ∀ j, wlk (pce (fun k => (so k, va k)) 0 m) 1 j ↔ ((∀ k, k < m → 0 < nwd so k) ∧ nwd so m = j)
  | 0, j => ⟨fun h => ⟨fun k hk => absurd hk (Nat.not_lt_zero _), h⟩, fun h => h.2⟩
  | m + 1, j => by
    have ih := wlk_tro so va m
    rw [pce_app _ 1 m 0, wlk_app]
    refine ⟨fun h => ?_, fun h => ?_⟩
    · obtain ⟨i, h1, h2⟩ := h
      obtain ⟨h3, h4⟩ := (ih i).mp h1
      have h5 : 0 < i := h2.1
      have h6 : i + npa (so (0 + m)) - 1 = j := h2.2
      rw [Nat.zero_add] at h6
      refine ⟨fun k hk => ?_, ?_⟩
      · by_cases q : k = m
        · rw [q, h4]
          exact h5
        · exact h3 k (by omega)
      · unfold nwd
        rw [h4]
        exact h6
    · obtain ⟨h1, h2⟩ := h
      unfold nwd at h2
      refine ⟨nwd so m, (ih _).mpr ⟨fun k hk => h1 k (by omega), rfl⟩, h1 m (by omega), ?_⟩
      show nwd so m + npa (so (0 + m)) - 1 = j
      rw [Nat.zero_add]
      exact h2
theorem tro_L {n : Nat} {so va : Nat → Int} : tro n so va ↔ trL (pce (fun k => (so k, va k)) 0 n) := by
  refine ⟨fun h => ⟨fun x hx => ?_, (wlk_tro so va n 0).mpr h.2⟩, fun h => ⟨fun k hk => ?_, (wlk_tro so va n 0).mp h.2⟩⟩
  · obtain ⟨k, hk, e⟩ := pce_mem hx
    rw [Nat.zero_add] at e
    rw [e]
    exact h.1 k hk
  · have := h.1 _ (pce_in (g := fun k => (so k, va k)) (a := 0) hk)
    rw [Nat.zero_add] at this
    exact this
/-- a tree as a thing -/
abbrev th_L (W : List nod) : th := th_fo W.length (fun k => (W.getD k (0, 0)).1) (fun k => (W.getD k (0, 0)).2)
theorem th_Lp (W : List nod) : pce (fun k => ((W.getD k (0, 0)).1, (W.getD k (0, 0)).2)) 0 W.length = W := pce_self W _ 0 (fun k _ => by rw [Nat.zero_add])
theorem tro_W {W : List nod} (h : trL W) : tro W.length (fun k => (W.getD k (0, 0)).1) (fun k => (W.getD k (0, 0)).2) := by
  rw [tro_L, th_Lp]
  exact h
/-- two rows as one row of nodes -/
def gr (A : Nat → Nat → Int) (c e : Nat) : Nat → nod := fun k => (A c k, A e k)
