/-! EACH INSTRUCTION: a step of the machine is a step of the JVM -/
theorem s_lvm {ρ : Nat → Int32} {ad : List Nat} {t : Term} {v : Value} (h : s_den ρ ad t = some v) : v.category = 2 → s_ty t = 2 := by
  intro hc
  by_cases q : s_ty t = 2
  · exact q
  · rw [s_cat1 h q] at hc; cases hc
def s_lv (ρ : Nat → Int32) (ad : List Nat) : Nat → List Term → List (Nat × Value)
  | _, [] => []
  | k, t :: ts => match s_den ρ ad t with
    | some v => (k, v) :: s_lv ρ ad (k + 1) ts
    | none => s_lv ρ ad (k + 1) ts
theorem s_lv_mem {ρ : Nat → Int32} {ad : List Nat} : ∀ {k : Nat} {L : List Term} {q : Nat × Value}, q ∈ s_lv ρ ad k L → ∃ i t, q.1 = k + i ∧ L[i]? = some t ∧ s_den ρ ad t = some q.2
  | k, [], q, h => by cases h
  | k, t :: ts, q, h => by
    simp only [s_lv] at h
    split at h
    · rename_i v hv
      rcases List.mem_cons.mp h with rfl | h
      · exact ⟨0, t, rfl, rfl, hv⟩
      · obtain ⟨i, u, h1, h2, h3⟩ := s_lv_mem h
        exact ⟨i + 1, u, by omega, by simpa using h2, h3⟩
    · obtain ⟨i, u, h1, h2, h3⟩ := s_lv_mem h
      exact ⟨i + 1, u, by omega, by simpa using h2, h3⟩
theorem s_lv_in {ρ : Nat → Int32} {ad : List Nat} {v : Value} : ∀ {k i : Nat} {L : List Term} {t : Term}, L[i]? = some t → s_den ρ ad t = some v → (k + i, v) ∈ s_lv ρ ad k L
  | k, i, [], t, h, hd => by simp at h
  | k, 0, t0 :: ts, t, h, hd => by
    simp at h; subst h
    simp only [s_lv, hd]
    exact List.mem_cons_self
  | k, i + 1, t0 :: ts, t, h, hd => by
    have h1 := s_lv_in (k := k + 1) (by simpa using h) hd
    rw [show k + 1 + i = k + (i + 1) by omega] at h1
    simp only [s_lv]
    split
    · exact List.mem_cons_of_mem _ h1
    · exact h1
theorem s_LR_has {ρ : Nat → Int32} {ad : List Nat} {nL : Nat} {L : List Term} {ls : Array Slot} (h : s_LR ρ ad nL L ls) : lv_has ls nL (s_lv ρ ad 0 L) := by
  refine ⟨h.1, h.2.1, fun q hq => ?_⟩
  obtain ⟨i, t, h1, h2, h3⟩ := s_lv_mem hq
  rcases h.2.2.2 i t h2 with rfl | ⟨v, h4, h5⟩
  · cases h3
  · rw [h3] at h4; cases h4
    rw [h1, Nat.zero_add]; exact h5
/-- a value stored -/
theorem s_LR_st {ρ : Nat → Int32} {ad : List Nat} {nL i : Nat} {L L' : List Term} {ls ls' : Array Slot} {t : Term} {v : Value} (h : s_LR ρ ad nL L ls) (hlen : L'.length = L.length) (hi : L'[i]? = some t) (ht : t = .result ∨ s_den ρ ad t = some v)
    (hr : ∀ (j : Nat) (u : Term), j ≠ i → L'[j]? = some u → u = .result ∨ (L[j]? = some u ∧ ¬ (j + 1 = i ∧ s_ty u = 2)))
    (h' : lv_has ls' nL ((i, v) :: (s_lv ρ ad 0 L).filter (fun q => !(q.1 == i) && !(q.1 + 1 == i && q.2.category == 2)))) : s_LR ρ ad nL L' ls' := by
  refine ⟨h'.1, h'.2.1, by rw [hlen]; exact h.2.2.1, fun j u hj => ?_⟩
  by_cases hji : j = i
  · subst hji
    rw [hi] at hj; cases hj
    rcases ht with q | q
    · exact Or.inl q
    · exact Or.inr ⟨v, q, h'.2.2 (j, v) List.mem_cons_self⟩
  · rcases hr j u hji hj with q | ⟨q1, q2⟩
    · exact Or.inl q
    · rcases h.2.2.2 j u q1 with q | ⟨w, q3, q4⟩
      · exact Or.inl q
      · refine Or.inr ⟨w, q3, h'.2.2 (j, w) (List.mem_cons_of_mem _ (List.mem_filter.mpr ⟨?_, ?_⟩))⟩
        · have := s_lv_in (k := 0) q1 q3
          rwa [Nat.zero_add] at this
        · simp only [Bool.and_eq_true, Bool.not_eq_true', beq_eq_false_iff_ne, Bool.and_eq_false_iff]
          refine ⟨hji, ?_⟩
          by_cases hz : j + 1 = i
          · refine Or.inr (fun hc => q2 ⟨hz, s_lvm q3 hc⟩)
          · exact Or.inl hz
theorem s_LR_st2 {ρ : Nat → Int32} {ad : List Nat} {nL i : Nat} {L L1 : List Term} {ls ls' : Array Slot} {t : Term} {v : Value} (h : s_LR ρ ad nL L ls) (hlen : L1.length = L.length) (hi : L1[i]? = some t) (ht : s_den ρ ad t = some v)
    (hr : ∀ (j : Nat) (u : Term), j ≠ i → L1[j]? = some u → u = .result ∨ (L[j]? = some u ∧ ¬ (j + 1 = i ∧ s_ty u = 2)))
    (h' : lv_has ls' nL ((i, v) :: (s_lv ρ ad 0 L).filter (fun q => !(q.1 == i) && (!(q.1 == i + 1) && !(q.1 + 1 == i && q.2.category == 2))))) : s_LR ρ ad nL (L1.set (i + 1) .result) ls' := by
  refine ⟨h'.1, h'.2.1, by rw [List.length_set, hlen]; exact h.2.2.1, fun j u hj => ?_⟩
  by_cases hj1 : j = i + 1
  · subst hj1
    by_cases hl : i + 1 < L1.length
    · rw [List.getElem?_set_self hl] at hj; cases hj; exact Or.inl rfl
    · rw [List.getElem?_eq_none (by simp; omega)] at hj; cases hj
  · rw [List.getElem?_set_ne (fun q => hj1 q.symm)] at hj
    by_cases hji : j = i
    · subst hji
      rw [hi] at hj; cases hj
      exact Or.inr ⟨v, ht, h'.2.2 (j, v) List.mem_cons_self⟩
    · rcases hr j u hji hj with q | ⟨q1, q2⟩
      · exact Or.inl q
      · rcases h.2.2.2 j u q1 with q | ⟨w, q3, q4⟩
        · exact Or.inl q
        · refine Or.inr ⟨w, q3, h'.2.2 (j, w) (List.mem_cons_of_mem _ (List.mem_filter.mpr ⟨?_, ?_⟩))⟩
          · have := s_lv_in (k := 0) q1 q3
            rwa [Nat.zero_add] at this
          · simp only [Bool.and_eq_true, Bool.not_eq_true', beq_eq_false_iff_ne, Bool.and_eq_false_iff]
            refine ⟨hji, hj1, ?_⟩
            by_cases hz : j + 1 = i
            · refine Or.inr (fun hc => q2 ⟨hz, s_lvm q3 hc⟩)
            · exact Or.inl hz
theorem s_st_s {β : Type} {ty n : Nat} {L st : List Term} {k : List Term → List Term → Option β} {r : β} (h : s_st ty L n st k = some r) : ∃ t st' L1, st = t :: st' ∧ s_ty t = ty ∧ L1.length = L.length ∧ n < L.length ∧ L1[n]? = some t ∧ (∀ (j : Nat) (u : Term), j ≠ n → L1[j]? = some u → u = .result ∨ (L[j]? = some u ∧ ¬ (j + 1 = n ∧ s_ty u = 2))) ∧ ((¬ ty = 2 ∧ k L1 st' = some r) ∨ (ty = 2 ∧ n + 1 < L.length ∧ k (L1.set (n + 1) .result) st' = some r)) := by
  cases st with
  | nil => cases h
  | cons t st' =>
    simp only [s_st] at h
    split at h
    · rename_i ht
      obtain ⟨L1, e1, e2, e3, e4, e5⟩ := s_stK_s h
      refine ⟨t, st', L1, rfl, Nat.eq_of_beq_eq_true ht, e2, e3, e4, e5, ?_⟩
      split at e1
      · rename_i h2
        obtain ⟨e6, e7⟩ := s_setK_s e1
        exact Or.inr ⟨Nat.eq_of_beq_eq_true h2, by omega, e7⟩
      · rename_i h2
        refine Or.inl ⟨fun q => h2 (by rw [q]; rfl), e1⟩
    · cases h
theorem s_con_s {ρ : Nat → Int32} {F : s_F} {q : ClassFile.Cond} {a b : Term} {r : Bool} (hF : s_FH ρ F) (h : s_con F q a b = some r) {ad : List Nat} {v w : Value} (ha : s_den ρ ad a = some v) (hb : s_den ρ ad b = some w) : ∃ x y : Int32, v = .int x ∧ w = .int y ∧ (match q with
    | .eq => (x = y ↔ r = true)
    | .ne => (¬ x = y ↔ r = true)
    | .lt => (x < y ↔ r = true)
    | .ge => (y ≤ x ↔ r = true)
    | .gt => (y < x ↔ r = true)
    | .le => (x ≤ y ↔ r = true)) := by
  have nl : ∀ x y : Int32, (y ≤ x ↔ ¬ x < y) := fun x y => by
    rw [Int32.le_iff_toInt_le, Int32.lt_iff_toInt_lt]; omega
  cases q <;> simp only [s_con] at h
  · obtain ⟨x, y, rfl, rfl, h1⟩ := s_cond_s hF h ha hb
    exact ⟨x, y, rfl, rfl, by subst h1; simp [s_cmp]⟩
  · cases hc : s_cond F 0 a b with
    | none => rw [hc] at h; cases h
    | some z =>
      obtain ⟨x, y, rfl, rfl, h1⟩ := s_cond_s hF hc ha hb
      rw [hc] at h; cases h
      exact ⟨x, y, rfl, rfl, by subst h1; simp [s_cmp]⟩
  · obtain ⟨x, y, rfl, rfl, h1⟩ := s_cond_s hF h ha hb
    exact ⟨x, y, rfl, rfl, by subst h1; simp [s_cmp]⟩
  · cases hc : s_cond F 1 a b with
    | none => rw [hc] at h; cases h
    | some z =>
      obtain ⟨x, y, rfl, rfl, h1⟩ := s_cond_s hF hc ha hb
      rw [hc] at h; cases h
      exact ⟨x, y, rfl, rfl, by subst h1; rw [nl x y]; simp [s_cmp]⟩
  · obtain ⟨y, x, rfl, rfl, h1⟩ := s_cond_s hF h hb ha
    exact ⟨x, y, rfl, rfl, by subst h1; simp [s_cmp]⟩
  · cases hc : s_cond F 1 b a with
    | none => rw [hc] at h; cases h
    | some z =>
      obtain ⟨y, x, rfl, rfl, h1⟩ := s_cond_s hF hc hb ha
      rw [hc] at h; cases h
      exact ⟨x, y, rfl, rfl, by subst h1; rw [nl y x]; simp [s_cmp]⟩
section S14
variable {p : Program} {l : Launch} {e : Env} {R : Room} {s : State} {m : MethodId} {args : Array Value} {below : List Frame} {meth : Method} {c : Code} {Q : State → Prop} {M : s_M} {mi : Nat → Option s_M} {Wm : List Cond} {dC : Nat → ClassId} {dI : Nat → Nat → Nat} {ρ : Nat → Int32} {base nL : Nat} {ad : List Nat} {F : s_F} {df : Nat → List Term} {comp : Nat → Nat} {call : Nat → List Term → s_H → Option s_O} {hd : List s_Hd} {pc pc' : Nat} {L L' st st' : List Term} {h h' : s_H} {kc ks kc' ks' : Nat} {H : Heap} {ls : Array Slot} {vs : List Value} {locs : List Loc} {o nx a b c' : Nat}
theorem s_k_aconst_null (C : s_Cx p s m args meth c M) (hW : ∀ w ∈ Wm, w ∈ s_gd) (hS : s_SR s dC dI ρ base nL ad L st h H ls vs locs) (hI : s_chkI mi M Wm pc (o, .aconst_null, nx, a, b, c') = true) (he : s_x_aconst_null F df comp call hd pc (o, .aconst_null, nx, a, b, c') L st h kc ks = some (.inl (pc', L', st', h', kc', ks'))) (kk : s_Kk p l e R s m args below meth c Q dC dI ρ base nL ad pc' L' st' h' kc' ks') : W p l e R s m args below meth c H locs kc ks Q (F0 m pc ls vs) := by
  obtain ⟨hx, hb, hml, hrt, hlk, hown, hnm, hts, htb⟩ := C
  obtain ⟨hL, hD, hH, hF⟩ := hS
  obtain ⟨-, rfl, hdg⟩ := of_decide_eq_true hI
  cases he
  exact lv_null hx hb hdg (kk ad H ls _ locs (s_ext ad) ⟨hL, ⟨rfl, hD⟩, hH, hF⟩)
theorem s_k_iconst {n : Int} (C : s_Cx p s m args meth c M) (hW : ∀ w ∈ Wm, w ∈ s_gd) (hS : s_SR s dC dI ρ base nL ad L st h H ls vs locs) (hI : s_chkI mi M Wm pc (o, (.iconst n), nx, a, b, c') = true) (he : s_x_iconst F df comp call hd pc (o, (.iconst n), nx, a, b, c') L st h kc ks = some (.inl (pc', L', st', h', kc', ks'))) (kk : s_Kk p l e R s m args below meth c Q dC dI ρ base nL ad pc' L' st' h' kc' ks') : W p l e R s m args below meth c H locs kc ks Q (F0 m pc ls vs) := by
  obtain ⟨hx, hb, hml, hrt, hlk, hown, hnm, hts, htb⟩ := C
  obtain ⟨hL, hD, hH, hF⟩ := hS
  obtain ⟨-, rfl, hdg, hv⟩ := of_decide_eq_true hI
  cases he
  exact lv_iconst hx hb hdg hv (kk ad H ls _ locs (s_ext ad) ⟨hL, ⟨rfl, hD⟩, hH, hF⟩)
theorem s_k_bipush {n : Int} (C : s_Cx p s m args meth c M) (hW : ∀ w ∈ Wm, w ∈ s_gd) (hS : s_SR s dC dI ρ base nL ad L st h H ls vs locs) (hI : s_chkI mi M Wm pc (o, (.bipush n), nx, a, b, c') = true) (he : s_x_bipush F df comp call hd pc (o, (.bipush n), nx, a, b, c') L st h kc ks = some (.inl (pc', L', st', h', kc', ks'))) (kk : s_Kk p l e R s m args below meth c Q dC dI ρ base nL ad pc' L' st' h' kc' ks') : W p l e R s m args below meth c H locs kc ks Q (F0 m pc ls vs) := by
  obtain ⟨hx, hb, hml, hrt, hlk, hown, hnm, hts, htb⟩ := C
  obtain ⟨hL, hD, hH, hF⟩ := hS
  obtain ⟨-, rfl, hdg, hv⟩ := of_decide_eq_true hI
  cases he
  exact lv_bipush hx hb hdg hv (kk ad H ls _ locs (s_ext ad) ⟨hL, ⟨rfl, hD⟩, hH, hF⟩)
theorem s_k_sipush {n : Int} (C : s_Cx p s m args meth c M) (hW : ∀ w ∈ Wm, w ∈ s_gd) (hS : s_SR s dC dI ρ base nL ad L st h H ls vs locs) (hI : s_chkI mi M Wm pc (o, (.sipush n), nx, a, b, c') = true) (he : s_x_sipush F df comp call hd pc (o, (.sipush n), nx, a, b, c') L st h kc ks = some (.inl (pc', L', st', h', kc', ks'))) (kk : s_Kk p l e R s m args below meth c Q dC dI ρ base nL ad pc' L' st' h' kc' ks') : W p l e R s m args below meth c H locs kc ks Q (F0 m pc ls vs) := by
  obtain ⟨hx, hb, hml, hrt, hlk, hown, hnm, hts, htb⟩ := C
  obtain ⟨hL, hD, hH, hF⟩ := hS
  obtain ⟨-, rfl, hdg, hv⟩ := of_decide_eq_true hI
  cases he
  exact lv_sipush hx hb hdg hv (kk ad H ls _ locs (s_ext ad) ⟨hL, ⟨rfl, hD⟩, hH, hF⟩)
theorem s_k_lconst {n : Fin 2} (C : s_Cx p s m args meth c M) (hW : ∀ w ∈ Wm, w ∈ s_gd) (hS : s_SR s dC dI ρ base nL ad L st h H ls vs locs) (hI : s_chkI mi M Wm pc (o, (.lconst n), nx, a, b, c') = true) (he : s_x_lconst F df comp call hd pc (o, (.lconst n), nx, a, b, c') L st h kc ks = some (.inl (pc', L', st', h', kc', ks'))) (kk : s_Kk p l e R s m args below meth c Q dC dI ρ base nL ad pc' L' st' h' kc' ks') : W p l e R s m args below meth c H locs kc ks Q (F0 m pc ls vs) := by
  obtain ⟨hx, hb, hml, hrt, hlk, hown, hnm, hts, htb⟩ := C
  obtain ⟨hL, hD, hH, hF⟩ := hS
  obtain ⟨-, rfl, hdg, hv⟩ := of_decide_eq_true hI
  cases he
  exact lv_lconst hx hb hdg hv (kk ad H ls _ locs (s_ext ad) ⟨hL, ⟨rfl, hD⟩, hH, hF⟩)
theorem s_k_ldc2_w {n : Nat} (C : s_Cx p s m args meth c M) (hW : ∀ w ∈ Wm, w ∈ s_gd) (hS : s_SR s dC dI ρ base nL ad L st h H ls vs locs) (hI : s_chkI mi M Wm pc (o, (.ldc2_w n), nx, a, b, c') = true) (he : s_x_ldc2_w F df comp call hd pc (o, (.ldc2_w n), nx, a, b, c') L st h kc ks = some (.inl (pc', L', st', h', kc', ks'))) (kk : s_Kk p l e R s m args below meth c Q dC dI ρ base nL ad pc' L' st' h' kc' ks') : W p l e R s m args below meth c H locs kc ks Q (F0 m pc ls vs) := by
  obtain ⟨hx, hb, hml, hrt, hlk, hown, hnm, hts, htb⟩ := C
  obtain ⟨hL, hD, hH, hF⟩ := hS
  obtain ⟨-, rfl, hdg, hw⟩ := of_decide_eq_true hI
  cases he
  exact lv_ldc2 hx hb hown (hts _ (hW _ hw)) hdg (kk ad H ls _ locs (s_ext ad) ⟨hL, ⟨rfl, hD⟩, hH, hF⟩)
theorem s_k_ldc_w {n : Nat} (C : s_Cx p s m args meth c M) (hW : ∀ w ∈ Wm, w ∈ s_gd) (hS : s_SR s dC dI ρ base nL ad L st h H ls vs locs) (hI : s_chkI mi M Wm pc (o, (.ldc_w n), nx, a, b, c') = true) (he : s_x_ldc_w F df comp call hd pc (o, (.ldc_w n), nx, a, b, c') L st h kc ks = some (.inl (pc', L', st', h', kc', ks'))) (kk : s_Kk p l e R s m args below meth c Q dC dI ρ base nL ad pc' L' st' h' kc' ks') : W p l e R s m args below meth c H locs kc ks Q (F0 m pc ls vs) := by
  obtain ⟨hx, hb, hml, hrt, hlk, hown, hnm, hts, htb⟩ := C
  obtain ⟨hL, hD, hH, hF⟩ := hS
  obtain ⟨-, rfl, hdg, hw⟩ := of_decide_eq_true hI
  cases he
  exact lv_ldcw hx hb hown (hts _ (hW _ hw)) hdg (kk ad H ls _ locs (s_ext ad) ⟨hL, ⟨rfl, hD⟩, hH, hF⟩)
theorem s_k_ldc {n : Nat} (C : s_Cx p s m args meth c M) (hW : ∀ w ∈ Wm, w ∈ s_gd) (hS : s_SR s dC dI ρ base nL ad L st h H ls vs locs) (hI : s_chkI mi M Wm pc (o, (.ldc n), nx, a, b, c') = true) (he : s_x_ldc F df comp call hd pc (o, (.ldc n), nx, a, b, c') L st h kc ks = some (.inl (pc', L', st', h', kc', ks'))) (kk : s_Kk p l e R s m args below meth c Q dC dI ρ base nL ad pc' L' st' h' kc' ks') : W p l e R s m args below meth c H locs kc ks Q (F0 m pc ls vs) := by
  obtain ⟨hx, hb, hml, hrt, hlk, hown, hnm, hts, htb⟩ := C
  obtain ⟨hL, hD, hH, hF⟩ := hS
  obtain ⟨-, rfl, hdg, hw⟩ := of_decide_eq_true hI
  cases he
  exact lv_ldc hx hb hown (hts _ (hW _ hw)) hdg (kk ad H ls _ locs (s_ext ad) ⟨hL, ⟨rfl, hD⟩, hH, hF⟩)
theorem s_k_iload {n : Nat} (C : s_Cx p s m args meth c M) (hW : ∀ w ∈ Wm, w ∈ s_gd) (hS : s_SR s dC dI ρ base nL ad L st h H ls vs locs) (hI : s_chkI mi M Wm pc (o, (.iload n), nx, a, b, c') = true) (he : s_x_iload F df comp call hd pc (o, (.iload n), nx, a, b, c') L st h kc ks = some (.inl (pc', L', st', h', kc', ks'))) (kk : s_Kk p l e R s m args below meth c Q dC dI ρ base nL ad pc' L' st' h' kc' ks') : W p l e R s m args below meth c H locs kc ks Q (F0 m pc ls vs) := by
  obtain ⟨hx, hb, hml, hrt, hlk, hown, hnm, hts, htb⟩ := C
  obtain ⟨hL, hD, hH, hF⟩ := hS
  obtain ⟨-, rfl, hdg, hn⟩ := of_decide_eq_true hI
  obtain ⟨t, h1, h2, h3⟩ := s_ld_s he
  obtain ⟨v, h4, h5⟩ := s_LR_at hL h1 (by rw [h2]; decide)
  obtain ⟨x, rfl⟩ := s_is1 h4 h2
  cases h3
  exact lv_iload hx hb hdg (by rw [hn]; exact h5) (kk ad H ls _ locs (s_ext ad) ⟨hL, ⟨h4, hD⟩, hH, hF⟩)
theorem s_k_iload_n {n : Fin 4} (C : s_Cx p s m args meth c M) (hW : ∀ w ∈ Wm, w ∈ s_gd) (hS : s_SR s dC dI ρ base nL ad L st h H ls vs locs) (hI : s_chkI mi M Wm pc (o, (.iload_n n), nx, a, b, c') = true) (he : s_x_iload_n F df comp call hd pc (o, (.iload_n n), nx, a, b, c') L st h kc ks = some (.inl (pc', L', st', h', kc', ks'))) (kk : s_Kk p l e R s m args below meth c Q dC dI ρ base nL ad pc' L' st' h' kc' ks') : W p l e R s m args below meth c H locs kc ks Q (F0 m pc ls vs) := by
  obtain ⟨hx, hb, hml, hrt, hlk, hown, hnm, hts, htb⟩ := C
  obtain ⟨hL, hD, hH, hF⟩ := hS
  obtain ⟨-, rfl, hdg, hn⟩ := of_decide_eq_true hI
  obtain ⟨t, h1, h2, h3⟩ := s_ld_s he
  obtain ⟨v, h4, h5⟩ := s_LR_at hL h1 (by rw [h2]; decide)
  obtain ⟨x, rfl⟩ := s_is1 h4 h2
  cases h3
  exact lv_iload_n hx hb hdg hn h5 (kk ad H ls _ locs (s_ext ad) ⟨hL, ⟨h4, hD⟩, hH, hF⟩)
theorem s_k_lload {n : Nat} (C : s_Cx p s m args meth c M) (hW : ∀ w ∈ Wm, w ∈ s_gd) (hS : s_SR s dC dI ρ base nL ad L st h H ls vs locs) (hI : s_chkI mi M Wm pc (o, (.lload n), nx, a, b, c') = true) (he : s_x_lload F df comp call hd pc (o, (.lload n), nx, a, b, c') L st h kc ks = some (.inl (pc', L', st', h', kc', ks'))) (kk : s_Kk p l e R s m args below meth c Q dC dI ρ base nL ad pc' L' st' h' kc' ks') : W p l e R s m args below meth c H locs kc ks Q (F0 m pc ls vs) := by
  obtain ⟨hx, hb, hml, hrt, hlk, hown, hnm, hts, htb⟩ := C
  obtain ⟨hL, hD, hH, hF⟩ := hS
  obtain ⟨-, rfl, hdg, hn⟩ := of_decide_eq_true hI
  obtain ⟨t, h1, h2, h3⟩ := s_ld_s he
  obtain ⟨v, h4, h5⟩ := s_LR_at hL h1 (by rw [h2]; decide)
  obtain ⟨x, rfl⟩ := s_is2 h4 h2
  cases h3
  exact lv_lload hx hb hdg (by rw [hn]; exact h5) (kk ad H ls _ locs (s_ext ad) ⟨hL, ⟨h4, hD⟩, hH, hF⟩)
theorem s_k_lload_n {n : Fin 4} (C : s_Cx p s m args meth c M) (hW : ∀ w ∈ Wm, w ∈ s_gd) (hS : s_SR s dC dI ρ base nL ad L st h H ls vs locs) (hI : s_chkI mi M Wm pc (o, (.lload_n n), nx, a, b, c') = true) (he : s_x_lload_n F df comp call hd pc (o, (.lload_n n), nx, a, b, c') L st h kc ks = some (.inl (pc', L', st', h', kc', ks'))) (kk : s_Kk p l e R s m args below meth c Q dC dI ρ base nL ad pc' L' st' h' kc' ks') : W p l e R s m args below meth c H locs kc ks Q (F0 m pc ls vs) := by
  obtain ⟨hx, hb, hml, hrt, hlk, hown, hnm, hts, htb⟩ := C
  obtain ⟨hL, hD, hH, hF⟩ := hS
  obtain ⟨-, rfl, hdg, hn⟩ := of_decide_eq_true hI
  obtain ⟨t, h1, h2, h3⟩ := s_ld_s he
  obtain ⟨v, h4, h5⟩ := s_LR_at hL h1 (by rw [h2]; decide)
  obtain ⟨x, rfl⟩ := s_is2 h4 h2
  cases h3
  exact lv_lload_n hx hb hdg hn h5 (kk ad H ls _ locs (s_ext ad) ⟨hL, ⟨h4, hD⟩, hH, hF⟩)
theorem s_k_aload {n : Nat} (C : s_Cx p s m args meth c M) (hW : ∀ w ∈ Wm, w ∈ s_gd) (hS : s_SR s dC dI ρ base nL ad L st h H ls vs locs) (hI : s_chkI mi M Wm pc (o, (.aload n), nx, a, b, c') = true) (he : s_x_aload F df comp call hd pc (o, (.aload n), nx, a, b, c') L st h kc ks = some (.inl (pc', L', st', h', kc', ks'))) (kk : s_Kk p l e R s m args below meth c Q dC dI ρ base nL ad pc' L' st' h' kc' ks') : W p l e R s m args below meth c H locs kc ks Q (F0 m pc ls vs) := by
  obtain ⟨hx, hb, hml, hrt, hlk, hown, hnm, hts, htb⟩ := C
  obtain ⟨hL, hD, hH, hF⟩ := hS
  obtain ⟨-, rfl, hdg, hn⟩ := of_decide_eq_true hI
  obtain ⟨t, h1, h2, h3⟩ := s_ld_s he
  obtain ⟨v, h4, h5⟩ := s_LR_at hL h1 (by rw [h2]; decide)
  cases h3
  rcases s_is3 h4 h2 with rfl | ⟨x, rfl⟩
  · exact lv_aloadN hx hb hdg (by rw [hn]; exact h5) (kk ad H ls _ locs (s_ext ad) ⟨hL, ⟨h4, hD⟩, hH, hF⟩)
  · exact lv_aload hx hb hdg (by rw [hn]; exact h5) (kk ad H ls _ locs (s_ext ad) ⟨hL, ⟨h4, hD⟩, hH, hF⟩)
theorem s_k_aload_n {n : Fin 4} (C : s_Cx p s m args meth c M) (hW : ∀ w ∈ Wm, w ∈ s_gd) (hS : s_SR s dC dI ρ base nL ad L st h H ls vs locs) (hI : s_chkI mi M Wm pc (o, (.aload_n n), nx, a, b, c') = true) (he : s_x_aload_n F df comp call hd pc (o, (.aload_n n), nx, a, b, c') L st h kc ks = some (.inl (pc', L', st', h', kc', ks'))) (kk : s_Kk p l e R s m args below meth c Q dC dI ρ base nL ad pc' L' st' h' kc' ks') : W p l e R s m args below meth c H locs kc ks Q (F0 m pc ls vs) := by
  obtain ⟨hx, hb, hml, hrt, hlk, hown, hnm, hts, htb⟩ := C
  obtain ⟨hL, hD, hH, hF⟩ := hS
  obtain ⟨-, rfl, hdg, hn⟩ := of_decide_eq_true hI
  obtain ⟨t, h1, h2, h3⟩ := s_ld_s he
  obtain ⟨v, h4, h5⟩ := s_LR_at hL h1 (by rw [h2]; decide)
  cases h3
  rcases s_is3 h4 h2 with rfl | ⟨x, rfl⟩
  · exact lv_aload_nN hx hb hdg hn h5 (kk ad H ls _ locs (s_ext ad) ⟨hL, ⟨h4, hD⟩, hH, hF⟩)
  · exact lv_aload_n hx hb hdg hn h5 (kk ad H ls _ locs (s_ext ad) ⟨hL, ⟨h4, hD⟩, hH, hF⟩)
theorem s_k_istore {n : Nat} (C : s_Cx p s m args meth c M) (hW : ∀ w ∈ Wm, w ∈ s_gd) (hS : s_SR s dC dI ρ base nL ad L st h H ls vs locs) (hI : s_chkI mi M Wm pc (o, (.istore n), nx, a, b, c') = true) (he : s_x_istore F df comp call hd pc (o, (.istore n), nx, a, b, c') L st h kc ks = some (.inl (pc', L', st', h', kc', ks'))) (kk : s_Kk p l e R s m args below meth c Q dC dI ρ base nL ad pc' L' st' h' kc' ks') : W p l e R s m args below meth c H locs kc ks Q (F0 m pc ls vs) := by
  obtain ⟨hx, hb, hml, hrt, hlk, hown, hnm, hts, htb⟩ := C
  obtain ⟨hL, hD, hH, hF⟩ := hS
  obtain ⟨-, rfl, hdg, hn⟩ := of_decide_eq_true hI
  subst hn
  obtain ⟨t, st1, L1, rfl, h1, h2, h3, h4, h5, h6⟩ := s_st_s he
  obtain ⟨v, vs1, rfl, h7, h8⟩ := s_DS_c hD
  obtain ⟨x, rfl⟩ := s_is1 h7 h1
  rcases h6 with ⟨-, h6⟩ | ⟨q, -⟩
  · cases h6
    exact lv_istore hx hb hdg (s_LR_has hL) (Nat.lt_of_lt_of_le h3 hL.2.2.1) rfl (fun ls' hl' => kk ad H ls' _ locs (s_ext ad) ⟨s_LR_st hL h2 h4 (Or.inr h7) h5 hl', h8, hH, hF⟩)
  · cases q
theorem s_k_lstore {n : Nat} (C : s_Cx p s m args meth c M) (hW : ∀ w ∈ Wm, w ∈ s_gd) (hS : s_SR s dC dI ρ base nL ad L st h H ls vs locs) (hI : s_chkI mi M Wm pc (o, (.lstore n), nx, a, b, c') = true) (he : s_x_lstore F df comp call hd pc (o, (.lstore n), nx, a, b, c') L st h kc ks = some (.inl (pc', L', st', h', kc', ks'))) (kk : s_Kk p l e R s m args below meth c Q dC dI ρ base nL ad pc' L' st' h' kc' ks') : W p l e R s m args below meth c H locs kc ks Q (F0 m pc ls vs) := by
  obtain ⟨hx, hb, hml, hrt, hlk, hown, hnm, hts, htb⟩ := C
  obtain ⟨hL, hD, hH, hF⟩ := hS
  obtain ⟨-, rfl, hdg, hn⟩ := of_decide_eq_true hI
  subst hn
  obtain ⟨t, st1, L1, rfl, h1, h2, h3, h4, h5, h6⟩ := s_st_s he
  obtain ⟨v, vs1, rfl, h7, h8⟩ := s_DS_c hD
  obtain ⟨x, rfl⟩ := s_is2 h7 h1
  rcases h6 with ⟨q, -⟩ | ⟨-, h6, h9⟩
  · exact absurd rfl q
  · cases h9
    exact lv_lstore hx hb hdg (s_LR_has hL) (Nat.lt_of_lt_of_le h6 hL.2.2.1) rfl (fun ls' hl' => kk ad H ls' _ locs (s_ext ad) ⟨s_LR_st2 hL h2 h4 h7 h5 hl', h8, hH, hF⟩)
theorem s_k_astore {n : Nat} (C : s_Cx p s m args meth c M) (hW : ∀ w ∈ Wm, w ∈ s_gd) (hS : s_SR s dC dI ρ base nL ad L st h H ls vs locs) (hI : s_chkI mi M Wm pc (o, (.astore n), nx, a, b, c') = true) (he : s_x_astore F df comp call hd pc (o, (.astore n), nx, a, b, c') L st h kc ks = some (.inl (pc', L', st', h', kc', ks'))) (kk : s_Kk p l e R s m args below meth c Q dC dI ρ base nL ad pc' L' st' h' kc' ks') : W p l e R s m args below meth c H locs kc ks Q (F0 m pc ls vs) := by
  obtain ⟨hx, hb, hml, hrt, hlk, hown, hnm, hts, htb⟩ := C
  obtain ⟨hL, hD, hH, hF⟩ := hS
  obtain ⟨-, rfl, hdg, hn⟩ := of_decide_eq_true hI
  subst hn
  obtain ⟨t, st1, L1, rfl, h1, h2, h3, h4, h5, h6⟩ := s_st_s he
  obtain ⟨v, vs1, rfl, h7, h8⟩ := s_DS_c hD
  rcases h6 with ⟨-, h6⟩ | ⟨q, -⟩
  · cases h6
    rcases s_is3 h7 h1 with rfl | ⟨x, rfl⟩
    · exact lv_astoreN hx hb hdg (s_LR_has hL) (Nat.lt_of_lt_of_le h3 hL.2.2.1) rfl (fun ls' hl' => kk ad H ls' _ locs (s_ext ad) ⟨s_LR_st hL h2 h4 (Or.inr h7) h5 hl', h8, hH, hF⟩)
    · exact lv_astore hx hb hdg (s_LR_has hL) (Nat.lt_of_lt_of_le h3 hL.2.2.1) rfl (fun ls' hl' => kk ad H ls' _ locs (s_ext ad) ⟨s_LR_st hL h2 h4 (Or.inr h7) h5 hl', h8, hH, hF⟩)
  · cases q
theorem s_k_istore_n {n : Fin 4} (C : s_Cx p s m args meth c M) (hW : ∀ w ∈ Wm, w ∈ s_gd) (hS : s_SR s dC dI ρ base nL ad L st h H ls vs locs) (hI : s_chkI mi M Wm pc (o, (.istore_n n), nx, a, b, c') = true) (he : s_x_istore_n F df comp call hd pc (o, (.istore_n n), nx, a, b, c') L st h kc ks = some (.inl (pc', L', st', h', kc', ks'))) (kk : s_Kk p l e R s m args below meth c Q dC dI ρ base nL ad pc' L' st' h' kc' ks') : W p l e R s m args below meth c H locs kc ks Q (F0 m pc ls vs) := by
  obtain ⟨hx, hb, hml, hrt, hlk, hown, hnm, hts, htb⟩ := C
  obtain ⟨hL, hD, hH, hF⟩ := hS
  obtain ⟨-, rfl, hdg, hn⟩ := of_decide_eq_true hI
  obtain ⟨t, st1, L1, rfl, h1, h2, h3, h4, h5, h6⟩ := s_st_s he
  obtain ⟨v, vs1, rfl, h7, h8⟩ := s_DS_c hD
  obtain ⟨x, rfl⟩ := s_is1 h7 h1
  rcases h6 with ⟨-, h6⟩ | ⟨q, -⟩
  · cases h6
    exact lv_istore_n hx hb hdg hn (s_LR_has hL) (Nat.lt_of_lt_of_le h3 hL.2.2.1) rfl (fun ls' hl' => kk ad H ls' _ locs (s_ext ad) ⟨s_LR_st hL h2 h4 (Or.inr h7) h5 hl', h8, hH, hF⟩)
  · cases q
theorem s_k_lstore_n {n : Fin 4} (C : s_Cx p s m args meth c M) (hW : ∀ w ∈ Wm, w ∈ s_gd) (hS : s_SR s dC dI ρ base nL ad L st h H ls vs locs) (hI : s_chkI mi M Wm pc (o, (.lstore_n n), nx, a, b, c') = true) (he : s_x_lstore_n F df comp call hd pc (o, (.lstore_n n), nx, a, b, c') L st h kc ks = some (.inl (pc', L', st', h', kc', ks'))) (kk : s_Kk p l e R s m args below meth c Q dC dI ρ base nL ad pc' L' st' h' kc' ks') : W p l e R s m args below meth c H locs kc ks Q (F0 m pc ls vs) := by
  obtain ⟨hx, hb, hml, hrt, hlk, hown, hnm, hts, htb⟩ := C
  obtain ⟨hL, hD, hH, hF⟩ := hS
  obtain ⟨-, rfl, hdg, hn⟩ := of_decide_eq_true hI
  obtain ⟨t, st1, L1, rfl, h1, h2, h3, h4, h5, h6⟩ := s_st_s he
  obtain ⟨v, vs1, rfl, h7, h8⟩ := s_DS_c hD
  obtain ⟨x, rfl⟩ := s_is2 h7 h1
  rcases h6 with ⟨q, -⟩ | ⟨-, h6, h9⟩
  · exact absurd rfl q
  · cases h9
    exact lv_lstore_n hx hb hdg hn (s_LR_has hL) (Nat.lt_of_lt_of_le h6 hL.2.2.1) rfl (fun ls' hl' => kk ad H ls' _ locs (s_ext ad) ⟨s_LR_st2 hL h2 h4 h7 h5 hl', h8, hH, hF⟩)
theorem s_k_astore_n {n : Fin 4} (C : s_Cx p s m args meth c M) (hW : ∀ w ∈ Wm, w ∈ s_gd) (hS : s_SR s dC dI ρ base nL ad L st h H ls vs locs) (hI : s_chkI mi M Wm pc (o, (.astore_n n), nx, a, b, c') = true) (he : s_x_astore_n F df comp call hd pc (o, (.astore_n n), nx, a, b, c') L st h kc ks = some (.inl (pc', L', st', h', kc', ks'))) (kk : s_Kk p l e R s m args below meth c Q dC dI ρ base nL ad pc' L' st' h' kc' ks') : W p l e R s m args below meth c H locs kc ks Q (F0 m pc ls vs) := by
  obtain ⟨hx, hb, hml, hrt, hlk, hown, hnm, hts, htb⟩ := C
  obtain ⟨hL, hD, hH, hF⟩ := hS
  obtain ⟨-, rfl, hdg, hn⟩ := of_decide_eq_true hI
  obtain ⟨t, st1, L1, rfl, h1, h2, h3, h4, h5, h6⟩ := s_st_s he
  obtain ⟨v, vs1, rfl, h7, h8⟩ := s_DS_c hD
  rcases h6 with ⟨-, h6⟩ | ⟨q, -⟩
  · cases h6
    rcases s_is3 h7 h1 with rfl | ⟨x, rfl⟩
    · exact lv_astore_nN hx hb hdg hn (s_LR_has hL) (Nat.lt_of_lt_of_le h3 hL.2.2.1) rfl (fun ls' hl' => kk ad H ls' _ locs (s_ext ad) ⟨s_LR_st hL h2 h4 (Or.inr h7) h5 hl', h8, hH, hF⟩)
    · exact lv_astore_n hx hb hdg hn (s_LR_has hL) (Nat.lt_of_lt_of_le h3 hL.2.2.1) rfl (fun ls' hl' => kk ad H ls' _ locs (s_ext ad) ⟨s_LR_st hL h2 h4 (Or.inr h7) h5 hl', h8, hH, hF⟩)
  · cases q
theorem s_k_iinc {n : Nat} {k : Int} (C : s_Cx p s m args meth c M) (hW : ∀ w ∈ Wm, w ∈ s_gd) (hS : s_SR s dC dI ρ base nL ad L st h H ls vs locs) (hI : s_chkI mi M Wm pc (o, (.iinc n k), nx, a, b, c') = true) (he : s_x_iinc F df comp call hd pc (o, (.iinc n k), nx, a, b, c') L st h kc ks = some (.inl (pc', L', st', h', kc', ks'))) (kk : s_Kk p l e R s m args below meth c Q dC dI ρ base nL ad pc' L' st' h' kc' ks') : W p l e R s m args below meth c H locs kc ks Q (F0 m pc ls vs) := by
  obtain ⟨hx, hb, hml, hrt, hlk, hown, hnm, hts, htb⟩ := C
  obtain ⟨hL, hD, hH, hF⟩ := hS
  obtain ⟨-, rfl, hdg, hn, hk⟩ := of_decide_eq_true hI
  subst hn
  obtain ⟨t, h1, h2, h3⟩ := s_ld_s he
  obtain ⟨v, h4, h5⟩ := s_LR_at hL h1 (by rw [h2]; decide)
  obtain ⟨x, y, st1, vs1, u, e1, e2, e3, e4⟩ := s_i2_s (ρ := ρ) (ad := ad) (vs := [.int (Int32.ofNat b), v]) h3 ⟨rfl, h4, trivial⟩ (fun _ _ => rfl)
  cases e1
  obtain ⟨L1, g1, g2, g3, g4, g5⟩ := s_stK_s e2
  cases g1
  obtain ⟨k9, hk9⟩ := List.getElem?_of_mem (s_lv_in (k := 0) h1 h4)
  rw [Nat.zero_add] at hk9
  exact lv_iinc hx hb hdg (s_LR_has hL) hk9 (by rw [hk]) (Nat.lt_of_lt_of_le g3 hL.2.2.1) rfl (fun ls' hl' => kk ad H ls' _ locs (s_ext ad) ⟨s_LR_st hL g2 g4 (Or.inr e3) g5 hl', hD, hH, hF⟩)
theorem s_k_iadd (C : s_Cx p s m args meth c M) (hW : ∀ w ∈ Wm, w ∈ s_gd) (hS : s_SR s dC dI ρ base nL ad L st h H ls vs locs) (hI : s_chkI mi M Wm pc (o, .iadd, nx, a, b, c') = true) (he : s_x_iadd F df comp call hd pc (o, .iadd, nx, a, b, c') L st h kc ks = some (.inl (pc', L', st', h', kc', ks'))) (kk : s_Kk p l e R s m args below meth c Q dC dI ρ base nL ad pc' L' st' h' kc' ks') : W p l e R s m args below meth c H locs kc ks Q (F0 m pc ls vs) := by
  obtain ⟨hx, hb, hml, hrt, hlk, hown, hnm, hts, htb⟩ := C
  obtain ⟨hL, hD, hH, hF⟩ := hS
  obtain ⟨-, rfl, hdg⟩ := of_decide_eq_true hI
  simp only [s_x_iadd] at he
  obtain ⟨x, y, st1, vs1, u, rfl, h1, h2, h3⟩ := s_i2_s he hD (fun _ _ => rfl)
  cases h1
  exact lv_iadd hx hb hdg (kk ad H ls _ locs (s_ext ad) ⟨hL, ⟨h2, h3⟩, hH, hF⟩)
theorem s_k_isub (C : s_Cx p s m args meth c M) (hW : ∀ w ∈ Wm, w ∈ s_gd) (hS : s_SR s dC dI ρ base nL ad L st h H ls vs locs) (hI : s_chkI mi M Wm pc (o, .isub, nx, a, b, c') = true) (he : s_x_isub F df comp call hd pc (o, .isub, nx, a, b, c') L st h kc ks = some (.inl (pc', L', st', h', kc', ks'))) (kk : s_Kk p l e R s m args below meth c Q dC dI ρ base nL ad pc' L' st' h' kc' ks') : W p l e R s m args below meth c H locs kc ks Q (F0 m pc ls vs) := by
  obtain ⟨hx, hb, hml, hrt, hlk, hown, hnm, hts, htb⟩ := C
  obtain ⟨hL, hD, hH, hF⟩ := hS
  obtain ⟨-, rfl, hdg⟩ := of_decide_eq_true hI
  simp only [s_x_isub] at he
  obtain ⟨x, y, st1, vs1, u, rfl, h1, h2, h3⟩ := s_i2_s he hD (fun _ _ => rfl)
  cases h1
  exact lv_isub hx hb hdg (kk ad H ls _ locs (s_ext ad) ⟨hL, ⟨h2, h3⟩, hH, hF⟩)
theorem s_k_imul (C : s_Cx p s m args meth c M) (hW : ∀ w ∈ Wm, w ∈ s_gd) (hS : s_SR s dC dI ρ base nL ad L st h H ls vs locs) (hI : s_chkI mi M Wm pc (o, .imul, nx, a, b, c') = true) (he : s_x_imul F df comp call hd pc (o, .imul, nx, a, b, c') L st h kc ks = some (.inl (pc', L', st', h', kc', ks'))) (kk : s_Kk p l e R s m args below meth c Q dC dI ρ base nL ad pc' L' st' h' kc' ks') : W p l e R s m args below meth c H locs kc ks Q (F0 m pc ls vs) := by
  obtain ⟨hx, hb, hml, hrt, hlk, hown, hnm, hts, htb⟩ := C
  obtain ⟨hL, hD, hH, hF⟩ := hS
  obtain ⟨-, rfl, hdg⟩ := of_decide_eq_true hI
  simp only [s_x_imul] at he
  obtain ⟨x, y, st1, vs1, u, rfl, h1, h2, h3⟩ := s_i2_s he hD (fun _ _ => rfl)
  cases h1
  exact lv_imul hx hb hdg (kk ad H ls _ locs (s_ext ad) ⟨hL, ⟨h2, h3⟩, hH, hF⟩)
theorem s_k_iand (C : s_Cx p s m args meth c M) (hW : ∀ w ∈ Wm, w ∈ s_gd) (hS : s_SR s dC dI ρ base nL ad L st h H ls vs locs) (hI : s_chkI mi M Wm pc (o, .iand, nx, a, b, c') = true) (he : s_x_iand F df comp call hd pc (o, .iand, nx, a, b, c') L st h kc ks = some (.inl (pc', L', st', h', kc', ks'))) (kk : s_Kk p l e R s m args below meth c Q dC dI ρ base nL ad pc' L' st' h' kc' ks') : W p l e R s m args below meth c H locs kc ks Q (F0 m pc ls vs) := by
  obtain ⟨hx, hb, hml, hrt, hlk, hown, hnm, hts, htb⟩ := C
  obtain ⟨hL, hD, hH, hF⟩ := hS
  obtain ⟨-, rfl, hdg⟩ := of_decide_eq_true hI
  simp only [s_x_iand] at he
  obtain ⟨x, y, st1, vs1, u, rfl, h1, h2, h3⟩ := s_i2_s he hD (fun _ _ => rfl)
  cases h1
  exact lv_iand hx hb hdg (kk ad H ls _ locs (s_ext ad) ⟨hL, ⟨h2, h3⟩, hH, hF⟩)
theorem s_k_ior (C : s_Cx p s m args meth c M) (hW : ∀ w ∈ Wm, w ∈ s_gd) (hS : s_SR s dC dI ρ base nL ad L st h H ls vs locs) (hI : s_chkI mi M Wm pc (o, .ior, nx, a, b, c') = true) (he : s_x_ior F df comp call hd pc (o, .ior, nx, a, b, c') L st h kc ks = some (.inl (pc', L', st', h', kc', ks'))) (kk : s_Kk p l e R s m args below meth c Q dC dI ρ base nL ad pc' L' st' h' kc' ks') : W p l e R s m args below meth c H locs kc ks Q (F0 m pc ls vs) := by
  obtain ⟨hx, hb, hml, hrt, hlk, hown, hnm, hts, htb⟩ := C
  obtain ⟨hL, hD, hH, hF⟩ := hS
  obtain ⟨-, rfl, hdg⟩ := of_decide_eq_true hI
  simp only [s_x_ior] at he
  obtain ⟨x, y, st1, vs1, u, rfl, h1, h2, h3⟩ := s_i2_s he hD (fun _ _ => rfl)
  cases h1
  exact lv_ior hx hb hdg (kk ad H ls _ locs (s_ext ad) ⟨hL, ⟨h2, h3⟩, hH, hF⟩)
theorem s_k_ixor (C : s_Cx p s m args meth c M) (hW : ∀ w ∈ Wm, w ∈ s_gd) (hS : s_SR s dC dI ρ base nL ad L st h H ls vs locs) (hI : s_chkI mi M Wm pc (o, .ixor, nx, a, b, c') = true) (he : s_x_ixor F df comp call hd pc (o, .ixor, nx, a, b, c') L st h kc ks = some (.inl (pc', L', st', h', kc', ks'))) (kk : s_Kk p l e R s m args below meth c Q dC dI ρ base nL ad pc' L' st' h' kc' ks') : W p l e R s m args below meth c H locs kc ks Q (F0 m pc ls vs) := by
  obtain ⟨hx, hb, hml, hrt, hlk, hown, hnm, hts, htb⟩ := C
  obtain ⟨hL, hD, hH, hF⟩ := hS
  obtain ⟨-, rfl, hdg⟩ := of_decide_eq_true hI
  simp only [s_x_ixor] at he
  obtain ⟨x, y, st1, vs1, u, rfl, h1, h2, h3⟩ := s_i2_s he hD (fun _ _ => rfl)
  cases h1
  exact lv_ixor hx hb hdg (kk ad H ls _ locs (s_ext ad) ⟨hL, ⟨h2, h3⟩, hH, hF⟩)
theorem s_k_ishl (C : s_Cx p s m args meth c M) (hW : ∀ w ∈ Wm, w ∈ s_gd) (hS : s_SR s dC dI ρ base nL ad L st h H ls vs locs) (hI : s_chkI mi M Wm pc (o, .ishl, nx, a, b, c') = true) (he : s_x_ishl F df comp call hd pc (o, .ishl, nx, a, b, c') L st h kc ks = some (.inl (pc', L', st', h', kc', ks'))) (kk : s_Kk p l e R s m args below meth c Q dC dI ρ base nL ad pc' L' st' h' kc' ks') : W p l e R s m args below meth c H locs kc ks Q (F0 m pc ls vs) := by
  obtain ⟨hx, hb, hml, hrt, hlk, hown, hnm, hts, htb⟩ := C
  obtain ⟨hL, hD, hH, hF⟩ := hS
  obtain ⟨-, rfl, hdg⟩ := of_decide_eq_true hI
  simp only [s_x_ishl] at he
  obtain ⟨x, y, st1, vs1, u, rfl, h1, h2, h3⟩ := s_i2_s he hD (fun _ _ => rfl)
  cases h1
  exact lv_ishl hx hb hdg (kk ad H ls _ locs (s_ext ad) ⟨hL, ⟨h2, h3⟩, hH, hF⟩)
theorem s_k_ishr (C : s_Cx p s m args meth c M) (hW : ∀ w ∈ Wm, w ∈ s_gd) (hS : s_SR s dC dI ρ base nL ad L st h H ls vs locs) (hI : s_chkI mi M Wm pc (o, .ishr, nx, a, b, c') = true) (he : s_x_ishr F df comp call hd pc (o, .ishr, nx, a, b, c') L st h kc ks = some (.inl (pc', L', st', h', kc', ks'))) (kk : s_Kk p l e R s m args below meth c Q dC dI ρ base nL ad pc' L' st' h' kc' ks') : W p l e R s m args below meth c H locs kc ks Q (F0 m pc ls vs) := by
  obtain ⟨hx, hb, hml, hrt, hlk, hown, hnm, hts, htb⟩ := C
  obtain ⟨hL, hD, hH, hF⟩ := hS
  obtain ⟨-, rfl, hdg⟩ := of_decide_eq_true hI
  simp only [s_x_ishr] at he
  obtain ⟨x, y, st1, vs1, u, rfl, h1, h2, h3⟩ := s_i2_s he hD (fun _ _ => rfl)
  cases h1
  exact lv_ishr hx hb hdg (kk ad H ls _ locs (s_ext ad) ⟨hL, ⟨h2, h3⟩, hH, hF⟩)
theorem s_k_iushr (C : s_Cx p s m args meth c M) (hW : ∀ w ∈ Wm, w ∈ s_gd) (hS : s_SR s dC dI ρ base nL ad L st h H ls vs locs) (hI : s_chkI mi M Wm pc (o, .iushr, nx, a, b, c') = true) (he : s_x_iushr F df comp call hd pc (o, .iushr, nx, a, b, c') L st h kc ks = some (.inl (pc', L', st', h', kc', ks'))) (kk : s_Kk p l e R s m args below meth c Q dC dI ρ base nL ad pc' L' st' h' kc' ks') : W p l e R s m args below meth c H locs kc ks Q (F0 m pc ls vs) := by
  obtain ⟨hx, hb, hml, hrt, hlk, hown, hnm, hts, htb⟩ := C
  obtain ⟨hL, hD, hH, hF⟩ := hS
  obtain ⟨-, rfl, hdg⟩ := of_decide_eq_true hI
  simp only [s_x_iushr] at he
  split at he
  · obtain ⟨v, vs1, rfl, h1, h2⟩ := s_DS_c hD
    obtain ⟨v', vs2, rfl, h3, h4⟩ := s_DS_c h2
    cases h1; cases h3
    rw [s_fI_e] at he
    cases he
    exact lv_iushr hx hb hdg rfl (kk ad H ls _ locs (s_ext ad) ⟨hL, ⟨rfl, h4⟩, hH, hF⟩)
  · cases he
theorem s_k_idiv (C : s_Cx p s m args meth c M) (hW : ∀ w ∈ Wm, w ∈ s_gd) (hS : s_SR s dC dI ρ base nL ad L st h H ls vs locs) (hI : s_chkI mi M Wm pc (o, .idiv, nx, a, b, c') = true) (he : s_x_idiv F df comp call hd pc (o, .idiv, nx, a, b, c') L st h kc ks = some (.inl (pc', L', st', h', kc', ks'))) (kk : s_Kk p l e R s m args below meth c Q dC dI ρ base nL ad pc' L' st' h' kc' ks') : W p l e R s m args below meth c H locs kc ks Q (F0 m pc ls vs) := by
  obtain ⟨hx, hb, hml, hrt, hlk, hown, hnm, hts, htb⟩ := C
  obtain ⟨hL, hD, hH, hF⟩ := hS
  obtain ⟨-, rfl, hdg⟩ := of_decide_eq_true hI
  simp only [s_x_idiv] at he
  obtain ⟨x, y, st1, vs1, u, hy, rfl, h1, h2, h3⟩ := s_d2_s he hD (fun _ _ => rfl)
  cases h1
  exact lv_idiv hx hb hdg hy (kk ad H ls _ locs (s_ext ad) ⟨hL, ⟨h2, h3⟩, hH, hF⟩)
theorem s_k_irem (C : s_Cx p s m args meth c M) (hW : ∀ w ∈ Wm, w ∈ s_gd) (hS : s_SR s dC dI ρ base nL ad L st h H ls vs locs) (hI : s_chkI mi M Wm pc (o, .irem, nx, a, b, c') = true) (he : s_x_irem F df comp call hd pc (o, .irem, nx, a, b, c') L st h kc ks = some (.inl (pc', L', st', h', kc', ks'))) (kk : s_Kk p l e R s m args below meth c Q dC dI ρ base nL ad pc' L' st' h' kc' ks') : W p l e R s m args below meth c H locs kc ks Q (F0 m pc ls vs) := by
  obtain ⟨hx, hb, hml, hrt, hlk, hown, hnm, hts, htb⟩ := C
  obtain ⟨hL, hD, hH, hF⟩ := hS
  obtain ⟨-, rfl, hdg⟩ := of_decide_eq_true hI
  simp only [s_x_irem] at he
  obtain ⟨x, y, st1, vs1, u, hy, rfl, h1, h2, h3⟩ := s_d2_s he hD (fun _ _ => rfl)
  cases h1
  exact lv_irem hx hb hdg hy (kk ad H ls _ locs (s_ext ad) ⟨hL, ⟨h2, h3⟩, hH, hF⟩)
theorem s_k_ladd (C : s_Cx p s m args meth c M) (hW : ∀ w ∈ Wm, w ∈ s_gd) (hS : s_SR s dC dI ρ base nL ad L st h H ls vs locs) (hI : s_chkI mi M Wm pc (o, .ladd, nx, a, b, c') = true) (he : s_x_ladd F df comp call hd pc (o, .ladd, nx, a, b, c') L st h kc ks = some (.inl (pc', L', st', h', kc', ks'))) (kk : s_Kk p l e R s m args below meth c Q dC dI ρ base nL ad pc' L' st' h' kc' ks') : W p l e R s m args below meth c H locs kc ks Q (F0 m pc ls vs) := by
  obtain ⟨hx, hb, hml, hrt, hlk, hown, hnm, hts, htb⟩ := C
  obtain ⟨hL, hD, hH, hF⟩ := hS
  obtain ⟨-, rfl, hdg⟩ := of_decide_eq_true hI
  simp only [s_x_ladd] at he
  obtain ⟨x, y, st1, vs1, u, rfl, h1, h2, h3⟩ := s_l2_s he hD (fun _ _ => rfl)
  cases h1
  exact lv_ladd hx hb hdg (kk ad H ls _ locs (s_ext ad) ⟨hL, ⟨h2, h3⟩, hH, hF⟩)
theorem s_k_lsub (C : s_Cx p s m args meth c M) (hW : ∀ w ∈ Wm, w ∈ s_gd) (hS : s_SR s dC dI ρ base nL ad L st h H ls vs locs) (hI : s_chkI mi M Wm pc (o, .lsub, nx, a, b, c') = true) (he : s_x_lsub F df comp call hd pc (o, .lsub, nx, a, b, c') L st h kc ks = some (.inl (pc', L', st', h', kc', ks'))) (kk : s_Kk p l e R s m args below meth c Q dC dI ρ base nL ad pc' L' st' h' kc' ks') : W p l e R s m args below meth c H locs kc ks Q (F0 m pc ls vs) := by
  obtain ⟨hx, hb, hml, hrt, hlk, hown, hnm, hts, htb⟩ := C
  obtain ⟨hL, hD, hH, hF⟩ := hS
  obtain ⟨-, rfl, hdg⟩ := of_decide_eq_true hI
  simp only [s_x_lsub] at he
  obtain ⟨x, y, st1, vs1, u, rfl, h1, h2, h3⟩ := s_l2_s he hD (fun _ _ => rfl)
  cases h1
  exact lv_lsub hx hb hdg (kk ad H ls _ locs (s_ext ad) ⟨hL, ⟨h2, h3⟩, hH, hF⟩)
theorem s_k_lmul (C : s_Cx p s m args meth c M) (hW : ∀ w ∈ Wm, w ∈ s_gd) (hS : s_SR s dC dI ρ base nL ad L st h H ls vs locs) (hI : s_chkI mi M Wm pc (o, .lmul, nx, a, b, c') = true) (he : s_x_lmul F df comp call hd pc (o, .lmul, nx, a, b, c') L st h kc ks = some (.inl (pc', L', st', h', kc', ks'))) (kk : s_Kk p l e R s m args below meth c Q dC dI ρ base nL ad pc' L' st' h' kc' ks') : W p l e R s m args below meth c H locs kc ks Q (F0 m pc ls vs) := by
  obtain ⟨hx, hb, hml, hrt, hlk, hown, hnm, hts, htb⟩ := C
  obtain ⟨hL, hD, hH, hF⟩ := hS
  obtain ⟨-, rfl, hdg⟩ := of_decide_eq_true hI
  simp only [s_x_lmul] at he
  obtain ⟨x, y, st1, vs1, u, rfl, h1, h2, h3⟩ := s_l2_s he hD (fun _ _ => rfl)
  cases h1
  exact lv_lmul hx hb hdg (kk ad H ls _ locs (s_ext ad) ⟨hL, ⟨h2, h3⟩, hH, hF⟩)
theorem s_k_land (C : s_Cx p s m args meth c M) (hW : ∀ w ∈ Wm, w ∈ s_gd) (hS : s_SR s dC dI ρ base nL ad L st h H ls vs locs) (hI : s_chkI mi M Wm pc (o, .land, nx, a, b, c') = true) (he : s_x_land F df comp call hd pc (o, .land, nx, a, b, c') L st h kc ks = some (.inl (pc', L', st', h', kc', ks'))) (kk : s_Kk p l e R s m args below meth c Q dC dI ρ base nL ad pc' L' st' h' kc' ks') : W p l e R s m args below meth c H locs kc ks Q (F0 m pc ls vs) := by
  obtain ⟨hx, hb, hml, hrt, hlk, hown, hnm, hts, htb⟩ := C
  obtain ⟨hL, hD, hH, hF⟩ := hS
  obtain ⟨-, rfl, hdg⟩ := of_decide_eq_true hI
  simp only [s_x_land] at he
  obtain ⟨x, y, st1, vs1, u, rfl, h1, h2, h3⟩ := s_l2_s he hD (fun _ _ => rfl)
  cases h1
  exact lv_land hx hb hdg (kk ad H ls _ locs (s_ext ad) ⟨hL, ⟨h2, h3⟩, hH, hF⟩)
theorem s_k_lor (C : s_Cx p s m args meth c M) (hW : ∀ w ∈ Wm, w ∈ s_gd) (hS : s_SR s dC dI ρ base nL ad L st h H ls vs locs) (hI : s_chkI mi M Wm pc (o, .lor, nx, a, b, c') = true) (he : s_x_lor F df comp call hd pc (o, .lor, nx, a, b, c') L st h kc ks = some (.inl (pc', L', st', h', kc', ks'))) (kk : s_Kk p l e R s m args below meth c Q dC dI ρ base nL ad pc' L' st' h' kc' ks') : W p l e R s m args below meth c H locs kc ks Q (F0 m pc ls vs) := by
  obtain ⟨hx, hb, hml, hrt, hlk, hown, hnm, hts, htb⟩ := C
  obtain ⟨hL, hD, hH, hF⟩ := hS
  obtain ⟨-, rfl, hdg⟩ := of_decide_eq_true hI
  simp only [s_x_lor] at he
  obtain ⟨x, y, st1, vs1, u, rfl, h1, h2, h3⟩ := s_l2_s he hD (fun _ _ => rfl)
  cases h1
  exact lv_lor hx hb hdg (kk ad H ls _ locs (s_ext ad) ⟨hL, ⟨h2, h3⟩, hH, hF⟩)
theorem s_k_lxor (C : s_Cx p s m args meth c M) (hW : ∀ w ∈ Wm, w ∈ s_gd) (hS : s_SR s dC dI ρ base nL ad L st h H ls vs locs) (hI : s_chkI mi M Wm pc (o, .lxor, nx, a, b, c') = true) (he : s_x_lxor F df comp call hd pc (o, .lxor, nx, a, b, c') L st h kc ks = some (.inl (pc', L', st', h', kc', ks'))) (kk : s_Kk p l e R s m args below meth c Q dC dI ρ base nL ad pc' L' st' h' kc' ks') : W p l e R s m args below meth c H locs kc ks Q (F0 m pc ls vs) := by
  obtain ⟨hx, hb, hml, hrt, hlk, hown, hnm, hts, htb⟩ := C
  obtain ⟨hL, hD, hH, hF⟩ := hS
  obtain ⟨-, rfl, hdg⟩ := of_decide_eq_true hI
  simp only [s_x_lxor] at he
  obtain ⟨x, y, st1, vs1, u, rfl, h1, h2, h3⟩ := s_l2_s he hD (fun _ _ => rfl)
  cases h1
  exact lv_lxor hx hb hdg (kk ad H ls _ locs (s_ext ad) ⟨hL, ⟨h2, h3⟩, hH, hF⟩)
theorem s_k_lrem (C : s_Cx p s m args meth c M) (hW : ∀ w ∈ Wm, w ∈ s_gd) (hS : s_SR s dC dI ρ base nL ad L st h H ls vs locs) (hI : s_chkI mi M Wm pc (o, .lrem, nx, a, b, c') = true) (he : s_x_lrem F df comp call hd pc (o, .lrem, nx, a, b, c') L st h kc ks = some (.inl (pc', L', st', h', kc', ks'))) (kk : s_Kk p l e R s m args below meth c Q dC dI ρ base nL ad pc' L' st' h' kc' ks') : W p l e R s m args below meth c H locs kc ks Q (F0 m pc ls vs) := by
  obtain ⟨hx, hb, hml, hrt, hlk, hown, hnm, hts, htb⟩ := C
  obtain ⟨hL, hD, hH, hF⟩ := hS
  obtain ⟨-, rfl, hdg⟩ := of_decide_eq_true hI
  simp only [s_x_lrem] at he
  obtain ⟨x, y, st1, vs1, u, hy, rfl, h1, h2, h3⟩ := s_dl_s he hD (fun _ _ => rfl)
  cases h1
  exact lv_lrem hx hb hdg hy (kk ad H ls _ locs (s_ext ad) ⟨hL, ⟨h2, h3⟩, hH, hF⟩)
theorem s_k_ldiv (C : s_Cx p s m args meth c M) (hW : ∀ w ∈ Wm, w ∈ s_gd) (hS : s_SR s dC dI ρ base nL ad L st h H ls vs locs) (hI : s_chkI mi M Wm pc (o, .ldiv, nx, a, b, c') = true) (he : s_x_ldiv F df comp call hd pc (o, .ldiv, nx, a, b, c') L st h kc ks = some (.inl (pc', L', st', h', kc', ks'))) (kk : s_Kk p l e R s m args below meth c Q dC dI ρ base nL ad pc' L' st' h' kc' ks') : W p l e R s m args below meth c H locs kc ks Q (F0 m pc ls vs) := by
  obtain ⟨hx, hb, hml, hrt, hlk, hown, hnm, hts, htb⟩ := C
  obtain ⟨hL, hD, hH, hF⟩ := hS
  obtain ⟨-, rfl, hdg⟩ := of_decide_eq_true hI
  simp only [s_x_ldiv] at he
  obtain ⟨x, y, st1, vs1, u, hy, rfl, h1, h2, h3⟩ := s_dl_s he hD (fun _ _ => rfl)
  cases h1
  exact lv_ldiv hx hb hdg hy (kk ad H ls _ locs (s_ext ad) ⟨hL, ⟨h2, h3⟩, hH, hF⟩)
theorem s_k_lshl (C : s_Cx p s m args meth c M) (hW : ∀ w ∈ Wm, w ∈ s_gd) (hS : s_SR s dC dI ρ base nL ad L st h H ls vs locs) (hI : s_chkI mi M Wm pc (o, .lshl, nx, a, b, c') = true) (he : s_x_lshl F df comp call hd pc (o, .lshl, nx, a, b, c') L st h kc ks = some (.inl (pc', L', st', h', kc', ks'))) (kk : s_Kk p l e R s m args below meth c Q dC dI ρ base nL ad pc' L' st' h' kc' ks') : W p l e R s m args below meth c H locs kc ks Q (F0 m pc ls vs) := by
  obtain ⟨hx, hb, hml, hrt, hlk, hown, hnm, hts, htb⟩ := C
  obtain ⟨hL, hD, hH, hF⟩ := hS
  obtain ⟨-, rfl, hdg⟩ := of_decide_eq_true hI
  simp only [s_x_lshl] at he
  obtain ⟨x, y, st1, vs1, u, rfl, h1, h2, h3⟩ := s_sh_s he hD (fun _ _ => rfl)
  cases h1
  exact lv_lshl hx hb hdg rfl (kk ad H ls _ locs (s_ext ad) ⟨hL, ⟨h2, h3⟩, hH, hF⟩)
theorem s_k_lshr (C : s_Cx p s m args meth c M) (hW : ∀ w ∈ Wm, w ∈ s_gd) (hS : s_SR s dC dI ρ base nL ad L st h H ls vs locs) (hI : s_chkI mi M Wm pc (o, .lshr, nx, a, b, c') = true) (he : s_x_lshr F df comp call hd pc (o, .lshr, nx, a, b, c') L st h kc ks = some (.inl (pc', L', st', h', kc', ks'))) (kk : s_Kk p l e R s m args below meth c Q dC dI ρ base nL ad pc' L' st' h' kc' ks') : W p l e R s m args below meth c H locs kc ks Q (F0 m pc ls vs) := by
  obtain ⟨hx, hb, hml, hrt, hlk, hown, hnm, hts, htb⟩ := C
  obtain ⟨hL, hD, hH, hF⟩ := hS
  obtain ⟨-, rfl, hdg⟩ := of_decide_eq_true hI
  simp only [s_x_lshr] at he
  obtain ⟨x, y, st1, vs1, u, rfl, h1, h2, h3⟩ := s_sh_s he hD (fun _ _ => rfl)
  cases h1
  exact lv_lshr hx hb hdg rfl (kk ad H ls _ locs (s_ext ad) ⟨hL, ⟨h2, h3⟩, hH, hF⟩)
theorem s_k_lushr (C : s_Cx p s m args meth c M) (hW : ∀ w ∈ Wm, w ∈ s_gd) (hS : s_SR s dC dI ρ base nL ad L st h H ls vs locs) (hI : s_chkI mi M Wm pc (o, .lushr, nx, a, b, c') = true) (he : s_x_lushr F df comp call hd pc (o, .lushr, nx, a, b, c') L st h kc ks = some (.inl (pc', L', st', h', kc', ks'))) (kk : s_Kk p l e R s m args below meth c Q dC dI ρ base nL ad pc' L' st' h' kc' ks') : W p l e R s m args below meth c H locs kc ks Q (F0 m pc ls vs) := by
  obtain ⟨hx, hb, hml, hrt, hlk, hown, hnm, hts, htb⟩ := C
  obtain ⟨hL, hD, hH, hF⟩ := hS
  obtain ⟨-, rfl, hdg⟩ := of_decide_eq_true hI
  simp only [s_x_lushr] at he
  obtain ⟨x, y, st1, vs1, u, rfl, h1, h2, h3⟩ := s_sh_s he hD (fun _ _ => rfl)
  cases h1
  exact lv_lushr hx hb hdg rfl (kk ad H ls _ locs (s_ext ad) ⟨hL, ⟨h2, h3⟩, hH, hF⟩)
theorem s_k_lcmp (C : s_Cx p s m args meth c M) (hW : ∀ w ∈ Wm, w ∈ s_gd) (hS : s_SR s dC dI ρ base nL ad L st h H ls vs locs) (hI : s_chkI mi M Wm pc (o, .lcmp, nx, a, b, c') = true) (he : s_x_lcmp F df comp call hd pc (o, .lcmp, nx, a, b, c') L st h kc ks = some (.inl (pc', L', st', h', kc', ks'))) (kk : s_Kk p l e R s m args below meth c Q dC dI ρ base nL ad pc' L' st' h' kc' ks') : W p l e R s m args below meth c H locs kc ks Q (F0 m pc ls vs) := by
  obtain ⟨hx, hb, hml, hrt, hlk, hown, hnm, hts, htb⟩ := C
  obtain ⟨hL, hD, hH, hF⟩ := hS
  obtain ⟨-, rfl, hdg⟩ := of_decide_eq_true hI
  simp only [s_x_lcmp] at he
  obtain ⟨x, y, st1, vs1, u, rfl, h1, h2, h3⟩ := s_lc_s he hD
  cases h1
  exact W.lcmp hx hb hdg (kk ad H ls _ locs (s_ext ad) ⟨hL, ⟨h2, h3⟩, hH, hF⟩)
theorem s_k_ineg (C : s_Cx p s m args meth c M) (hW : ∀ w ∈ Wm, w ∈ s_gd) (hS : s_SR s dC dI ρ base nL ad L st h H ls vs locs) (hI : s_chkI mi M Wm pc (o, .ineg, nx, a, b, c') = true) (he : s_x_ineg F df comp call hd pc (o, .ineg, nx, a, b, c') L st h kc ks = some (.inl (pc', L', st', h', kc', ks'))) (kk : s_Kk p l e R s m args below meth c Q dC dI ρ base nL ad pc' L' st' h' kc' ks') : W p l e R s m args below meth c H locs kc ks Q (F0 m pc ls vs) := by
  obtain ⟨hx, hb, hml, hrt, hlk, hown, hnm, hts, htb⟩ := C
  obtain ⟨hL, hD, hH, hF⟩ := hS
  obtain ⟨-, rfl, hdg⟩ := of_decide_eq_true hI
  simp only [s_x_ineg] at he
  obtain ⟨st1, vs1, u, h1, h2, h4⟩ := s_u_s he hD
  cases h1
  rcases h4 with ⟨-, x, rfl, h3⟩ | ⟨q, -⟩ | ⟨q, -⟩ | ⟨q, q2, -⟩
  · exact lv_ineg hx hb hdg (kk ad H ls _ locs (s_ext ad) ⟨hL, ⟨h3, h2⟩, hH, hF⟩)
  · omega
  · omega
  · omega
theorem s_k_lneg (C : s_Cx p s m args meth c M) (hW : ∀ w ∈ Wm, w ∈ s_gd) (hS : s_SR s dC dI ρ base nL ad L st h H ls vs locs) (hI : s_chkI mi M Wm pc (o, .lneg, nx, a, b, c') = true) (he : s_x_lneg F df comp call hd pc (o, .lneg, nx, a, b, c') L st h kc ks = some (.inl (pc', L', st', h', kc', ks'))) (kk : s_Kk p l e R s m args below meth c Q dC dI ρ base nL ad pc' L' st' h' kc' ks') : W p l e R s m args below meth c H locs kc ks Q (F0 m pc ls vs) := by
  obtain ⟨hx, hb, hml, hrt, hlk, hown, hnm, hts, htb⟩ := C
  obtain ⟨hL, hD, hH, hF⟩ := hS
  obtain ⟨-, rfl, hdg⟩ := of_decide_eq_true hI
  simp only [s_x_lneg] at he
  obtain ⟨st1, vs1, u, h1, h2, h4⟩ := s_u_s he hD
  cases h1
  rcases h4 with ⟨q, -⟩ | ⟨-, x, rfl, h3⟩ | ⟨q, -⟩ | ⟨q, q2, -⟩
  · omega
  · exact lv_lneg hx hb hdg (kk ad H ls _ locs (s_ext ad) ⟨hL, ⟨h3, h2⟩, hH, hF⟩)
  · omega
  · omega
theorem s_k_i2l (C : s_Cx p s m args meth c M) (hW : ∀ w ∈ Wm, w ∈ s_gd) (hS : s_SR s dC dI ρ base nL ad L st h H ls vs locs) (hI : s_chkI mi M Wm pc (o, .i2l, nx, a, b, c') = true) (he : s_x_i2l F df comp call hd pc (o, .i2l, nx, a, b, c') L st h kc ks = some (.inl (pc', L', st', h', kc', ks'))) (kk : s_Kk p l e R s m args below meth c Q dC dI ρ base nL ad pc' L' st' h' kc' ks') : W p l e R s m args below meth c H locs kc ks Q (F0 m pc ls vs) := by
  obtain ⟨hx, hb, hml, hrt, hlk, hown, hnm, hts, htb⟩ := C
  obtain ⟨hL, hD, hH, hF⟩ := hS
  obtain ⟨-, rfl, hdg⟩ := of_decide_eq_true hI
  simp only [s_x_i2l] at he
  obtain ⟨st1, vs1, u, h1, h2, h4⟩ := s_u_s he hD
  cases h1
  rcases h4 with ⟨q, -⟩ | ⟨q, -⟩ | ⟨-, x, rfl, h3⟩ | ⟨q, q2, -⟩
  · omega
  · omega
  · exact lv_i2l hx hb hdg rfl (kk ad H ls _ locs (s_ext ad) ⟨hL, ⟨h3, h2⟩, hH, hF⟩)
  · omega
theorem s_k_l2i (C : s_Cx p s m args meth c M) (hW : ∀ w ∈ Wm, w ∈ s_gd) (hS : s_SR s dC dI ρ base nL ad L st h H ls vs locs) (hI : s_chkI mi M Wm pc (o, .l2i, nx, a, b, c') = true) (he : s_x_l2i F df comp call hd pc (o, .l2i, nx, a, b, c') L st h kc ks = some (.inl (pc', L', st', h', kc', ks'))) (kk : s_Kk p l e R s m args below meth c Q dC dI ρ base nL ad pc' L' st' h' kc' ks') : W p l e R s m args below meth c H locs kc ks Q (F0 m pc ls vs) := by
  obtain ⟨hx, hb, hml, hrt, hlk, hown, hnm, hts, htb⟩ := C
  obtain ⟨hL, hD, hH, hF⟩ := hS
  obtain ⟨-, rfl, hdg⟩ := of_decide_eq_true hI
  simp only [s_x_l2i] at he
  obtain ⟨st1, vs1, u, h1, h2, h4⟩ := s_u_s he hD
  cases h1
  rcases h4 with ⟨q, -⟩ | ⟨q, -⟩ | ⟨q, -⟩ | ⟨-, -, x, rfl, h3⟩
  · omega
  · omega
  · omega
  · exact lv_l2i hx hb hdg rfl (kk ad H ls _ locs (s_ext ad) ⟨hL, ⟨h3, h2⟩, hH, hF⟩)
theorem s_k_dup (C : s_Cx p s m args meth c M) (hW : ∀ w ∈ Wm, w ∈ s_gd) (hS : s_SR s dC dI ρ base nL ad L st h H ls vs locs) (hI : s_chkI mi M Wm pc (o, .dup, nx, a, b, c') = true) (he : s_x_dup F df comp call hd pc (o, .dup, nx, a, b, c') L st h kc ks = some (.inl (pc', L', st', h', kc', ks'))) (kk : s_Kk p l e R s m args below meth c Q dC dI ρ base nL ad pc' L' st' h' kc' ks') : W p l e R s m args below meth c H locs kc ks Q (F0 m pc ls vs) := by
  obtain ⟨hx, hb, hml, hrt, hlk, hown, hnm, hts, htb⟩ := C
  obtain ⟨hL, hD, hH, hF⟩ := hS
  obtain ⟨-, rfl, hdg⟩ := of_decide_eq_true hI
  cases st with
  | nil => cases he
  | cons t st1 =>
    obtain ⟨v, vs1, rfl, h1, h2⟩ := s_DS_c hD
    simp only [s_x_dup] at he
    split at he
    · rename_i hq
      cases he
      refine lv_dup hx hb hdg (s_cat1 h1 ?_) (kk ad H ls _ locs (s_ext ad) ⟨hL, ⟨h1, h1, h2⟩, hH, hF⟩)
      simp only [Bool.or_eq_true] at hq
      rcases hq with q | q <;> (rw [Nat.eq_of_beq_eq_true q]; decide)
    · cases he
theorem s_k_pop (C : s_Cx p s m args meth c M) (hW : ∀ w ∈ Wm, w ∈ s_gd) (hS : s_SR s dC dI ρ base nL ad L st h H ls vs locs) (hI : s_chkI mi M Wm pc (o, .pop, nx, a, b, c') = true) (he : s_x_pop F df comp call hd pc (o, .pop, nx, a, b, c') L st h kc ks = some (.inl (pc', L', st', h', kc', ks'))) (kk : s_Kk p l e R s m args below meth c Q dC dI ρ base nL ad pc' L' st' h' kc' ks') : W p l e R s m args below meth c H locs kc ks Q (F0 m pc ls vs) := by
  obtain ⟨hx, hb, hml, hrt, hlk, hown, hnm, hts, htb⟩ := C
  obtain ⟨hL, hD, hH, hF⟩ := hS
  obtain ⟨-, rfl, hdg⟩ := of_decide_eq_true hI
  cases st with
  | nil => cases he
  | cons t st1 =>
    obtain ⟨v, vs1, rfl, h1, h2⟩ := s_DS_c hD
    simp only [s_x_pop] at he
    split at he
    · rename_i hq
      cases he
      refine lv_pop hx hb hdg (s_cat1 h1 ?_) (kk ad H ls _ locs (s_ext ad) ⟨hL, h2, hH, hF⟩)
      simp only [Bool.or_eq_true] at hq
      rcases hq with q | q <;> (rw [Nat.eq_of_beq_eq_true q]; decide)
    · cases he
theorem s_k_dup2 (C : s_Cx p s m args meth c M) (hW : ∀ w ∈ Wm, w ∈ s_gd) (hS : s_SR s dC dI ρ base nL ad L st h H ls vs locs) (hI : s_chkI mi M Wm pc (o, .dup2, nx, a, b, c') = true) (he : s_x_dup2 F df comp call hd pc (o, .dup2, nx, a, b, c') L st h kc ks = some (.inl (pc', L', st', h', kc', ks'))) (kk : s_Kk p l e R s m args below meth c Q dC dI ρ base nL ad pc' L' st' h' kc' ks') : W p l e R s m args below meth c H locs kc ks Q (F0 m pc ls vs) := by
  obtain ⟨hx, hb, hml, hrt, hlk, hown, hnm, hts, htb⟩ := C
  obtain ⟨hL, hD, hH, hF⟩ := hS
  obtain ⟨-, rfl, hdg⟩ := of_decide_eq_true hI
  cases st with
  | nil => cases he
  | cons t st1 => cases st1 with
    | nil => cases he
    | cons t2 st1 =>
      obtain ⟨v, vs1, rfl, h1, h2⟩ := s_DS_c hD
      obtain ⟨v2, vs2, rfl, h3, h4⟩ := s_DS_c h2
      simp only [s_x_dup2] at he
      split at he
      · rename_i hq
        cases he
        simp only [Bool.and_eq_true, Bool.or_eq_true] at hq
        refine lv_dup2_11 hx hb hdg (s_cat1 h1 ?_) (s_cat1 h3 ?_) (kk ad H ls _ locs (s_ext ad) ⟨hL, ⟨h1, h3, h1, h3, h4⟩, hH, hF⟩)
        · rcases hq.1 with q | q <;> (rw [Nat.eq_of_beq_eq_true q]; decide)
        · rcases hq.2 with q | q <;> (rw [Nat.eq_of_beq_eq_true q]; decide)
      · cases he
theorem s_k_goto {n : Int} (C : s_Cx p s m args meth c M) (hW : ∀ w ∈ Wm, w ∈ s_gd) (hS : s_SR s dC dI ρ base nL ad L st h H ls vs locs) (hI : s_chkI mi M Wm pc (o, (.goto n), nx, a, b, c') = true) (he : s_x_goto F df comp call hd pc (o, (.goto n), nx, a, b, c') L st h kc ks = some (.inl (pc', L', st', h', kc', ks'))) (kk : s_Kk p l e R s m args below meth c Q dC dI ρ base nL ad pc' L' st' h' kc' ks') : W p l e R s m args below meth c H locs kc ks Q (F0 m pc ls vs) := by
  obtain ⟨hx, hb, hml, hrt, hlk, hown, hnm, hts, htb⟩ := C
  obtain ⟨hL, hD, hH, hF⟩ := hS
  obtain ⟨-, hdg, ht⟩ := of_decide_eq_true hI
  cases he
  exact lv_goto hx hb hdg ht (kk ad H ls _ locs (s_ext ad) ⟨hL, hD, hH, hF⟩)
theorem s_k_ifCond {q : ClassFile.Cond} {n : Int} (C : s_Cx p s m args meth c M) (hW : ∀ w ∈ Wm, w ∈ s_gd) (hS : s_SR s dC dI ρ base nL ad L st h H ls vs locs) (hI : s_chkI mi M Wm pc (o, (.ifCond q n), nx, a, b, c') = true) (he : s_x_ifCond F df comp call hd pc (o, (.ifCond q n), nx, a, b, c') L st h kc ks = some (.inl (pc', L', st', h', kc', ks'))) (hFH : s_FH ρ F) (kk : s_Kk p l e R s m args below meth c Q dC dI ρ base nL ad pc' L' st' h' kc' ks') : W p l e R s m args below meth c H locs kc ks Q (F0 m pc ls vs) := by
  obtain ⟨hx, hb, hml, hrt, hlk, hown, hnm, hts, htb⟩ := C
  obtain ⟨hL, hD, hH, hF⟩ := hS
  obtain ⟨-, rfl, hdg, ht⟩ := of_decide_eq_true hI
  cases st with
  | nil => cases he
  | cons t st1 =>
    obtain ⟨v, vs1, rfl, h1, h2⟩ := s_DS_c hD
    simp only [s_x_ifCond] at he
    cases hr : s_con F q t (.int 0) with
    | none => rw [hr] at he; cases he
    | some r =>
      obtain ⟨x, y, rfl, hy, h3⟩ := s_con_s hFH hr h1 (show s_den ρ ad (.int 0) = some (.int 0) from rfl)
      cases hy
      rw [hr] at he
      have hT : r = true → W p l e R s m args below meth c H locs kc ks Q (F0 m a ls vs1) := fun z => by
        subst z; cases he; exact kk ad H ls _ locs (s_ext ad) ⟨hL, h2, hH, hF⟩
      have hN : ¬ r = true → W p l e R s m args below meth c H locs kc ks Q (F0 m (pc + 3) ls vs1) := fun z => by
        have z2 : r = false := by cases r <;> simp_all
        subst z2; cases he; exact kk ad H ls _ locs (s_ext ad) ⟨hL, h2, hH, hF⟩
      cases q
      · exact lv_if_eq hx hb hdg ht (fun z => hT (h3.mp z)) (fun z => hN (fun z2 => z (h3.mpr z2)))
      · exact lv_if_ne hx hb hdg ht (fun z => hT (h3.mp z)) (fun z => hN (fun z2 => h3.mpr z2 z))
      · exact lv_if_lt hx hb hdg ht (fun z => hT (h3.mp z)) (fun z => hN (fun z2 => z (h3.mpr z2)))
      · exact lv_if_ge hx hb hdg ht (fun z => hT (h3.mp z)) (fun z => hN (fun z2 => z (h3.mpr z2)))
      · exact lv_if_gt hx hb hdg ht (fun z => hT (h3.mp z)) (fun z => hN (fun z2 => z (h3.mpr z2)))
      · exact lv_if_le hx hb hdg ht (fun z => hT (h3.mp z)) (fun z => hN (fun z2 => z (h3.mpr z2)))
theorem s_k_if_icmp {q : ClassFile.Cond} {n : Int} (C : s_Cx p s m args meth c M) (hW : ∀ w ∈ Wm, w ∈ s_gd) (hS : s_SR s dC dI ρ base nL ad L st h H ls vs locs) (hI : s_chkI mi M Wm pc (o, (.if_icmp q n), nx, a, b, c') = true) (he : s_x_if_icmp F df comp call hd pc (o, (.if_icmp q n), nx, a, b, c') L st h kc ks = some (.inl (pc', L', st', h', kc', ks'))) (hFH : s_FH ρ F) (kk : s_Kk p l e R s m args below meth c Q dC dI ρ base nL ad pc' L' st' h' kc' ks') : W p l e R s m args below meth c H locs kc ks Q (F0 m pc ls vs) := by
  obtain ⟨hx, hb, hml, hrt, hlk, hown, hnm, hts, htb⟩ := C
  obtain ⟨hL, hD, hH, hF⟩ := hS
  obtain ⟨-, rfl, hdg, ht⟩ := of_decide_eq_true hI
  cases st with
  | nil => cases he
  | cons t st1 => cases st1 with
    | nil => cases he
    | cons t2 st1 =>
      obtain ⟨v, vs1, rfl, h1, h2⟩ := s_DS_c hD
      obtain ⟨v2, vs2, rfl, h4, h5⟩ := s_DS_c h2
      simp only [s_x_if_icmp] at he
      cases hr : s_con F q t2 t with
      | none => rw [hr] at he; cases he
      | some r =>
        obtain ⟨x, y, rfl, rfl, h3⟩ := s_con_s hFH hr h4 h1
        rw [hr] at he
        have hT : r = true → W p l e R s m args below meth c H locs kc ks Q (F0 m a ls vs2) := fun z => by
          subst z; cases he; exact kk ad H ls _ locs (s_ext ad) ⟨hL, h5, hH, hF⟩
        have hN : ¬ r = true → W p l e R s m args below meth c H locs kc ks Q (F0 m (pc + 3) ls vs2) := fun z => by
          have z2 : r = false := by cases r <;> simp_all
          subst z2; cases he; exact kk ad H ls _ locs (s_ext ad) ⟨hL, h5, hH, hF⟩
        cases q
        · exact lv_icmp_eq hx hb hdg ht (fun z => hT (h3.mp z)) (fun z => hN (fun z2 => z (h3.mpr z2)))
        · exact lv_icmp_ne hx hb hdg ht (fun z => hT (h3.mp z)) (fun z => hN (fun z2 => h3.mpr z2 z))
        · exact lv_icmp_lt hx hb hdg ht (fun z => hT (h3.mp z)) (fun z => hN (fun z2 => z (h3.mpr z2)))
        · exact lv_icmp_ge hx hb hdg ht (fun z => hT (h3.mp z)) (fun z => hN (fun z2 => z (h3.mpr z2)))
        · exact lv_icmp_gt hx hb hdg ht (fun z => hT (h3.mp z)) (fun z => hN (fun z2 => z (h3.mpr z2)))
        · exact lv_icmp_le hx hb hdg ht (fun z => hT (h3.mp z)) (fun z => hN (fun z2 => z (h3.mpr z2)))
theorem s_k_ifnull {n : Int} (C : s_Cx p s m args meth c M) (hW : ∀ w ∈ Wm, w ∈ s_gd) (hS : s_SR s dC dI ρ base nL ad L st h H ls vs locs) (hI : s_chkI mi M Wm pc (o, (.ifnull n), nx, a, b, c') = true) (he : s_x_ifnull F df comp call hd pc (o, (.ifnull n), nx, a, b, c') L st h kc ks = some (.inl (pc', L', st', h', kc', ks'))) (kk : s_Kk p l e R s m args below meth c Q dC dI ρ base nL ad pc' L' st' h' kc' ks') : W p l e R s m args below meth c H locs kc ks Q (F0 m pc ls vs) := by
  obtain ⟨hx, hb, hml, hrt, hlk, hown, hnm, hts, htb⟩ := C
  obtain ⟨hL, hD, hH, hF⟩ := hS
  obtain ⟨-, rfl, hdg, ht⟩ := of_decide_eq_true hI
  simp only [s_x_ifnull] at he
  split at he
  · obtain ⟨v, vs1, rfl, h1, h2⟩ := s_DS_c hD
    cases h1
    cases he
    exact lv_ifnullN hx hb hdg ht (kk ad H ls _ locs (s_ext ad) ⟨hL, h2, hH, hF⟩)
  · obtain ⟨v, vs1, rfl, h1, h2⟩ := s_DS_c hD
    obtain ⟨x, h3, h4⟩ := Option.map_eq_some_iff.mp (show (ad[_]?).map Value.ref = some v from h1)
    subst h4
    cases he
    exact lv_ifnull hx hb hdg (kk ad H ls _ locs (s_ext ad) ⟨hL, h2, hH, hF⟩)
  · cases he
theorem s_k_ifnonnull {n : Int} (C : s_Cx p s m args meth c M) (hW : ∀ w ∈ Wm, w ∈ s_gd) (hS : s_SR s dC dI ρ base nL ad L st h H ls vs locs) (hI : s_chkI mi M Wm pc (o, (.ifnonnull n), nx, a, b, c') = true) (he : s_x_ifnonnull F df comp call hd pc (o, (.ifnonnull n), nx, a, b, c') L st h kc ks = some (.inl (pc', L', st', h', kc', ks'))) (kk : s_Kk p l e R s m args below meth c Q dC dI ρ base nL ad pc' L' st' h' kc' ks') : W p l e R s m args below meth c H locs kc ks Q (F0 m pc ls vs) := by
  obtain ⟨hx, hb, hml, hrt, hlk, hown, hnm, hts, htb⟩ := C
  obtain ⟨hL, hD, hH, hF⟩ := hS
  obtain ⟨-, rfl, hdg, ht⟩ := of_decide_eq_true hI
  simp only [s_x_ifnonnull] at he
  split at he
  · obtain ⟨v, vs1, rfl, h1, h2⟩ := s_DS_c hD
    cases h1
    cases he
    exact lv_ifnonnullN hx hb hdg (kk ad H ls _ locs (s_ext ad) ⟨hL, h2, hH, hF⟩)
  · obtain ⟨v, vs1, rfl, h1, h2⟩ := s_DS_c hD
    obtain ⟨x, h3, h4⟩ := Option.map_eq_some_iff.mp (show (ad[_]?).map Value.ref = some v from h1)
    subst h4
    cases he
    exact lv_ifnonnull hx hb hdg ht (kk ad H ls _ locs (s_ext ad) ⟨hL, h2, hH, hF⟩)
  · cases he
theorem s_k_tableswitch {d lo hi : Int} {offs : Array Int} (C : s_Cx p s m args meth c M) (hW : ∀ w ∈ Wm, w ∈ s_gd) (hS : s_SR s dC dI ρ base nL ad L st h H ls vs locs) (hI : s_chkI mi M Wm pc (o, (.tableswitch d lo hi offs), nx, a, b, c') = true) (he : s_x_tableswitch F df comp call hd pc (o, (.tableswitch d lo hi offs), nx, a, b, c') L st h kc ks = some (.inl (pc', L', st', h', kc', ks'))) (kk : s_Kk p l e R s m args below meth c Q dC dI ρ base nL ad pc' L' st' h' kc' ks') : W p l e R s m args below meth c H locs kc ks Q (F0 m pc ls vs) := by
  obtain ⟨hx, hb, hml, hrt, hlk, hown, hnm, hts, htb⟩ := C
  obtain ⟨hL, hD, hH, hF⟩ := hS
  obtain ⟨-, hdg, ht⟩ := of_decide_eq_true hI
  simp only [s_x_tableswitch] at he
  split at he
  · obtain ⟨v, vs1, rfl, h1, h2⟩ := s_DS_c hD
    cases h1
    split at he
    · rename_i hq
      simp only [Bool.or_eq_true, decide_eq_true_eq] at hq
      cases he
      exact lv_tableOut hx hb hdg hq ht (kk ad H ls _ locs (s_ext ad) ⟨hL, h2, hH, hF⟩)
    · rename_i hq
      simp only [Bool.or_eq_true, decide_eq_true_eq, not_or] at hq
      split at he
      · rename_i off hoff
        split at he
        · rename_i h0
          cases he
          rw [s_nth_eq] at hoff
          exact lv_tableIn hx hb hdg hq.1 hq.2 (by rw [← Array.getElem?_toList]; exact hoff) (Int.toNat_of_nonneg (of_decide_eq_true h0)).symm (kk ad H ls _ locs (s_ext ad) ⟨hL, h2, hH, hF⟩)
        · cases he
      · cases he
  · cases he
end S14
