/-! THE CHECK WITH NUMBERS: the words that link fields and methods stand in lists of numbers -/
def s_iA (y : Nat) : List Nat → Bool
  | [] => false
  | z :: t => Nat.beq y z || s_iA y t
def s_iB (n y : Nat) : List (Nat × Nat) → Bool
  | [] => false
  | (a, b) :: t => (Nat.beq n a && Nat.beq y b) || s_iB n y t
def s_iC (n y z : Nat) : List (Nat × Nat × Nat) → Bool
  | [] => false
  | (a, b, c) :: t => (Nat.beq n a && Nat.beq y b && Nat.beq z c) || s_iC n y z t
theorem s_iA_s {y : Nat} : ∀ {t : List Nat}, s_iA y t = true → y ∈ t
  | [], h => by cases h
  | z :: t, h => by
    simp only [s_iA, Bool.or_eq_true] at h
    rcases h with h | h
    · rw [Nat.eq_of_beq_eq_true h]; exact List.mem_cons_self
    · exact List.mem_cons_of_mem _ (s_iA_s h)
theorem s_iB_s {n y : Nat} : ∀ {t : List (Nat × Nat)}, s_iB n y t = true → (n, y) ∈ t
  | [], h => by cases h
  | (a, b) :: t, h => by
    simp only [s_iB, Bool.or_eq_true, Bool.and_eq_true] at h
    rcases h with ⟨h1, h2⟩ | h
    · rw [Nat.eq_of_beq_eq_true h1, Nat.eq_of_beq_eq_true h2]; exact List.mem_cons_self
    · exact List.mem_cons_of_mem _ (s_iB_s h)
theorem s_iC_s {n y z : Nat} : ∀ {t : List (Nat × Nat × Nat)}, s_iC n y z t = true → (n, y, z) ∈ t
  | [], h => by cases h
  | (a, b, c) :: t, h => by
    simp only [s_iC, Bool.or_eq_true, Bool.and_eq_true] at h
    rcases h with ⟨⟨h1, h2⟩, h3⟩ | h
    · rw [Nat.eq_of_beq_eq_true h1, Nat.eq_of_beq_eq_true h2, Nat.eq_of_beq_eq_true h3]; exact List.mem_cons_self
    · exact List.mem_cons_of_mem _ (s_iC_s h)
/-- what the lists of numbers say: of a class (its fields' and methods' links), of the methods (static, of an object, chosen), and how many parameters each has -/
def s_fw (own : String) (q : Nat × Nat × Nat) : Option Cond := (s_cl[q.2.1]?).map (fun r => Cond.fieldLink own q.1 r.1 (r.2.1 q.2.2).2.1 (r.2.1 q.2.2).2.2.1)
def s_lw (mi : Nat → Option s_M) (own : String) (q : Nat × Nat) : Option Cond := (mi q.2).map (fun N => Cond.methodLink own q.1 N.1)
def s_sw (mi : Nat → Option s_M) (y : Nat) : Option Cond := (mi y).map (fun N => Cond.static N.1)
def s_iw (mi : Nat → Option s_M) (y : Nat) : Option Cond := (mi y).map (fun N => Cond.instanceMethod N.1)
def s_vw (mi : Nat → Option s_M) (q : Nat × Nat) : Option Cond := (mi q.1).bind (fun N => (s_cl[q.2]?).map (fun r => Cond.selects r.1 N.1 N.1))
def s_isg {α : Type} (f : α → Option Cond) (t : List α) : Prop := ∀ q ∈ t, ∀ w, f q = some w → w ∈ s_gd
abbrev s_Wt : Type := List (Nat × Nat × Nat) × List (Nat × Nat) × List Nat × List Nat × List (Nat × Nat) × Bool × Nat
def s_Wok (mi : Nat → Option s_M) (np : Nat → Nat) (M : s_M) (T : s_Wt) : Prop := s_isg (s_fw M.1.cls) T.1 ∧ s_isg (s_lw mi M.1.cls) T.2.1 ∧ s_isg (s_sw mi) T.2.2.1 ∧ s_isg (s_iw mi) T.2.2.2.1 ∧ s_isg (s_vw mi) T.2.2.2.2.1 ∧ (T.2.2.2.2.2.1 = true → M.1.name = "<init>") ∧ (∀ r, s_cl[T.2.2.2.2.2.2]? = some r → r.1 = M.1.cls) ∧ ∀ y N, mi y = some N → s_np N.1.desc = some (np y)
noncomputable def s_chkF (mi : Nat → Option s_M) (np : Nat → Nat) (M : s_M) (T : s_Wt) (Wm : List Cond) (pc : Nat) (e : s_I) : Bool := match e with
  | (o, i, nx, a, b, c) => match i with
    | .getfield n => s_iC n a b T.1 && (match s_cl[a]? with
      | none => false
      | some r => decide (o = 54 ∧ nx = pc + 3 ∧ decode M.2.1 pc = .ok (.getfield n, 3) ∧ b < r.2.2))
    | .putfield n => s_iC n a b T.1 && (match s_cl[a]? with
      | none => false
      | some r => decide (o = 55 ∧ nx = pc + 3 ∧ decode M.2.1 pc = .ok (.putfield n, 3) ∧ b < r.2.2) && s_fty c (s_ft a b) && (!(r.2.1 b).2.2.2 || (T.2.2.2.2.2.1 && Nat.beq a T.2.2.2.2.2.2)))
    | .invokestatic n => s_iB n a T.2.1 && s_iA a T.2.2.1 && Nat.beq (np a) b && (match mi a with
      | none => false
      | some N => decide (o = 70 ∧ nx = pc + 3 ∧ decode M.2.1 pc = .ok (.invokestatic n, 3)))
    | .invokevirtual n => s_iB n a T.2.1 && s_iA a T.2.2.2.1 && s_iB a c T.2.2.2.2.1 && Nat.beq (np a + 1) b && (match mi a with
      | none => false
      | some N => (match s_cl[c]? with
        | none => false
        | some r => decide (o = 71 ∧ nx = pc + 3 ∧ decode M.2.1 pc = .ok (.invokevirtual n, 3)) && N.2.2.2.2.isEmpty))
    | i => s_chkI mi M Wm pc (o, i, nx, a, b, c)
theorem s_chkI_mono {mi : Nat → Option s_M} {M : s_M} {Wm W2 : List Cond} {pc : Nat} {e : s_I} (hW : ∀ w ∈ Wm, w ∈ W2) (h : s_chkI mi M Wm pc e = true) : s_chkI mi M W2 pc e = true := by
  obtain ⟨o, i, nx, a, b, c⟩ := e
  cases i with
  | ldc2_w n =>
    obtain ⟨h1, h2, h3, h4⟩ := of_decide_eq_true h
    exact decide_eq_true ⟨h1, h2, h3, hW _ h4⟩
  | ldc_w n =>
    obtain ⟨h1, h2, h3, h4⟩ := of_decide_eq_true h
    exact decide_eq_true ⟨h1, h2, h3, hW _ h4⟩
  | ldc n =>
    obtain ⟨h1, h2, h3, h4⟩ := of_decide_eq_true h
    exact decide_eq_true ⟨h1, h2, h3, hW _ h4⟩
  | getfield n =>
    simp only [s_chkI] at h ⊢
    split at h
    · cases h
    · obtain ⟨h1, h2, h3, h4, h5⟩ := of_decide_eq_true h
      exact decide_eq_true ⟨h1, h2, h3, h4, hW _ h5⟩
  | putfield n =>
    simp only [s_chkI] at h ⊢
    split at h
    · cases h
    · obtain ⟨h1, h2, h3, h4, h5, h6⟩ := of_decide_eq_true h
      exact decide_eq_true ⟨h1, h2, h3, h4, hW _ h5, h6⟩
  | newarray t =>
    obtain ⟨h1, h2, h3, h4, h5, h6⟩ := of_decide_eq_true h
    exact decide_eq_true ⟨h1, h2, h3, h4, h5, hW _ h6⟩
  | anewarray n =>
    simp only [s_chkI] at h ⊢
    split at h
    · obtain ⟨h1, h2, h3, h4, h5⟩ := of_decide_eq_true h
      exact decide_eq_true ⟨h1, h2, h3, hW _ h4, hW _ h5⟩
    · cases h
  | multianewarray n q =>
    match q, h with
    | 0, h => cases h
    | 1, h => cases h
    | 2, h =>
      obtain ⟨h1, h2, h3, h4, h5, h6⟩ := of_decide_eq_true h
      exact decide_eq_true ⟨h1, h2, h3, hW _ h4, hW _ h5, hW _ h6⟩
    | z + 3, h => cases h
  | new n =>
    match c, h with
    | 0, h =>
      replace h : (match s_cl[a]? with
        | none => false
        | some r => decide (o = 68 ∧ nx = pc + 3 ∧ decode M.2.1 pc = .ok (.new n, 3) ∧ b = r.2.2 ∧ Cond.classLink M.1.cls n r.1 ∈ Wm ∧ Cond.initialized r.1 ∈ Wm)) = true := h
      show (match s_cl[a]? with
        | none => false
        | some r => decide (o = 68 ∧ nx = pc + 3 ∧ decode M.2.1 pc = .ok (.new n, 3) ∧ b = r.2.2 ∧ Cond.classLink M.1.cls n r.1 ∈ W2 ∧ Cond.initialized r.1 ∈ W2)) = true
      split at h
      · cases h
      · obtain ⟨h1, h2, h3, h4, h5, h6⟩ := of_decide_eq_true h
        exact decide_eq_true ⟨h1, h2, h3, h4, hW _ h5, hW _ h6⟩
    | 1, h =>
      obtain ⟨h1, h2, h3, h4, h5, h6, h7, h8, h9, h10⟩ := of_decide_eq_true h
      exact decide_eq_true ⟨h1, h2, h3, h4, h5, h6, h7, h8, hW _ h9, hW _ h10⟩
    | z + 2, h => cases h
  | invokespecial n =>
    simp only [s_chkI] at h ⊢
    split at h
    · obtain ⟨h1, h2, h3, h4, h5, h6⟩ := of_decide_eq_true h
      exact decide_eq_true ⟨h1, h2, h3, hW _ h4, hW _ h5, hW _ h6⟩
    · split at h
      · cases h
      · obtain ⟨h1, h2, h3, h4, h5, h6, h7, h8, h9, h10⟩ := of_decide_eq_true h
        refine decide_eq_true ⟨h1, h2, h3, h4, h5, h6, h7, h8, hW _ h9, ?_⟩
        rcases h10 with q | q
        · exact Or.inl (hW _ q)
        · exact Or.inr (hW _ q)
    · cases h
  | invokestatic n =>
    simp only [s_chkI] at h ⊢
    split at h
    · cases h
    · obtain ⟨h1, h2, h3, h4, h5, h6⟩ := of_decide_eq_true h
      exact decide_eq_true ⟨h1, h2, h3, h4, hW _ h5, hW _ h6⟩
  | invokevirtual n =>
    simp only [s_chkI] at h ⊢
    split at h
    · cases h
    · split at h
      · cases h
      · obtain ⟨h1, h2, h3, h4, h5, h6, h7, h8, h9⟩ := of_decide_eq_true h
        exact decide_eq_true ⟨h1, h2, h3, h4, h5, hW _ h6, hW _ h7, hW _ h8, h9⟩
  | _ => exact h
theorem s_chkH_mono {M : s_M} {Wm W2 : List Cond} (hW : ∀ w ∈ Wm, w ∈ W2) : ∀ {hd : List s_Hd} {hh : List (Nat × Nat × Nat × Nat)}, s_chkH M Wm hd hh = true → s_chkH M W2 hd hh = true
  | [], [], _ => rfl
  | [], _ :: _, h => by simp [s_chkH] at h
  | _ :: _, [], h => by simp [s_chkH] at h
  | (lo, hi, to, ex, slot) :: r, (lo', hi', h', ct) :: r', h => by
    simp only [s_chkH, Bool.and_eq_true] at h ⊢
    obtain ⟨⟨h1, h2⟩, h3⟩ := h
    obtain ⟨g1, g2, g3, g4, g5, g6⟩ := of_decide_eq_true h1
    exact ⟨⟨decide_eq_true ⟨g1, g2, g3, g4, hW _ g5, g6⟩, h2⟩, s_chkH_mono hW h3⟩
theorem s_chkF_s {mi : Nat → Option s_M} {np : Nat → Nat} {M : s_M} {T : s_Wt} {Wm : List Cond} {pc : Nat} {e : s_I} (hT : s_Wok mi np M T) (hW : ∀ w ∈ Wm, w ∈ s_gd) (h : s_chkF mi np M T Wm pc e = true) : s_chkI mi M s_gd pc e = true := by
  obtain ⟨hF, hL, hS, hI, hV, hn, hc, hnp⟩ := hT
  obtain ⟨o, i, nx, a, b, c⟩ := e
  cases i with
  | getfield n =>
    simp only [s_chkF, Bool.and_eq_true] at h
    obtain ⟨h1, h2⟩ := h
    have h1 := s_iC_s h1
    simp only [s_chkI]
    cases hr : s_cl[a]? with
    | none => rw [hr] at h2; cases h2
    | some r =>
      rw [hr] at h2
      obtain ⟨g1, g2, g3, g4⟩ := of_decide_eq_true h2
      exact decide_eq_true ⟨g1, g2, g3, g4, hF _ h1 _ (by simp [s_fw, hr])⟩
  | putfield n =>
    simp only [s_chkF, Bool.and_eq_true] at h
    obtain ⟨h1, h2⟩ := h
    have h1 := s_iC_s h1
    simp only [s_chkI]
    cases hr : s_cl[a]? with
    | none => rw [hr] at h2; cases h2
    | some r =>
      rw [hr] at h2
      simp only [Bool.and_eq_true, Bool.or_eq_true, Bool.not_eq_true'] at h2
      obtain ⟨⟨h3, h4⟩, h5⟩ := h2
      obtain ⟨g1, g2, g3, g4⟩ := of_decide_eq_true h3
      refine decide_eq_true ⟨g1, g2, g3, g4, hF _ h1 _ (by simp [s_fw, hr]), h4, ?_⟩
      rcases h5 with q | ⟨q1, q2⟩
      · exact Or.inl q
      · rw [Nat.eq_of_beq_eq_true q2] at hr
        exact Or.inr ⟨hn q1, hc r hr⟩
  | invokestatic n =>
    simp only [s_chkF, Bool.and_eq_true] at h
    obtain ⟨⟨⟨h1, h2⟩, h3⟩, h4⟩ := h
    have h1 := s_iB_s h1
    have h2 := s_iA_s h2
    simp only [s_chkI]
    cases hr : mi a with
    | none => rw [hr] at h4; cases h4
    | some N =>
      rw [hr] at h4
      obtain ⟨g1, g2, g3⟩ := of_decide_eq_true h4
      exact decide_eq_true ⟨g1, g2, g3, by rw [hnp a N hr, Nat.eq_of_beq_eq_true h3], hL _ h1 _ (by simp [s_lw, hr]), hS _ h2 _ (by simp [s_sw, hr])⟩
  | invokevirtual n =>
    simp only [s_chkF, Bool.and_eq_true] at h
    obtain ⟨⟨⟨⟨h1, h2⟩, h3⟩, h4⟩, h5⟩ := h
    have h1 := s_iB_s h1
    have h2 := s_iA_s h2
    have h3 := s_iB_s h3
    have h4 := Nat.eq_of_beq_eq_true h4
    simp only [s_chkI]
    cases hr : mi a with
    | none => rw [hr] at h5; cases h5
    | some N =>
      rw [hr] at h5
      cases hr2 : s_cl[c]? with
      | none => rw [hr2] at h5; cases h5
      | some r =>
        rw [hr2] at h5
        simp only [Bool.and_eq_true] at h5
        obtain ⟨g1, g2, g3⟩ := of_decide_eq_true h5.1
        exact decide_eq_true ⟨g1, g2, g3, by rw [hnp a N hr, ← h4]; rfl, by omega, hL _ h1 _ (by simp [s_lw, hr]), hI _ h2 _ (by simp [s_iw, hr]), hV _ h3 _ (by simp [s_vw, hr, hr2]), List.isEmpty_iff.mp h5.2⟩
  | _ => exact s_chkI_mono hW h
noncomputable def s_okRF (mi : Nat → Option s_M) (np : Nat → Nat) (M : s_M) (T : s_Wt) (Wm : List Cond) : Nat → List (Option s_I) → Bool
  | _, [] => true
  | b, none :: r => s_okRF mi np M T Wm (b + 1) r
  | b, some e :: r => s_chkF mi np M T Wm b e && s_okRF mi np M T Wm (b + 1) r
noncomputable def s_okCF (mi : Nat → Option s_M) (np : Nat → Nat) (M : s_M) (T : s_Wt) (Wm : List Cond) : Nat → s_Cd → Bool
  | _, [] => true
  | b, r :: t => s_okRF mi np M T Wm b r && s_okCF mi np M T Wm (b + 32) t
theorem s_okRF_s {mi : Nat → Option s_M} {np : Nat → Nat} {M : s_M} {T : s_Wt} {Wm : List Cond} (hT : s_Wok mi np M T) (hW : ∀ w ∈ Wm, w ∈ s_gd) : ∀ {r : List (Option s_I)} {b : Nat}, s_okRF mi np M T Wm b r = true → s_okR mi M s_gd b r = true
  | [], b, _ => rfl
  | none :: r, b, h => s_okRF_s (r := r) (b := b + 1) hT hW h
  | some e :: r, b, h => by
    simp only [s_okRF, Bool.and_eq_true] at h
    simp only [s_okR, Bool.and_eq_true]
    exact ⟨s_chkF_s hT hW h.1, s_okRF_s hT hW h.2⟩
theorem s_okCF_s {mi : Nat → Option s_M} {np : Nat → Nat} {M : s_M} {T : s_Wt} {Wm : List Cond} (hT : s_Wok mi np M T) (hW : ∀ w ∈ Wm, w ∈ s_gd) : ∀ {cd : s_Cd} {b : Nat}, s_okCF mi np M T Wm b cd = true → s_okC mi M s_gd b cd = true
  | [], b, _ => rfl
  | r :: t, b, h => by
    simp only [s_okCF, Bool.and_eq_true] at h
    simp only [s_okC, Bool.and_eq_true]
    exact ⟨s_okRF_s hT hW h.1, s_okCF_s hT hW h.2⟩
/-- a list of numbers out of places among the words -/
theorem s_isg_of {α : Type} {f : α → Option Cond} {t : List α} {ps : List Nat} (h1 : t.map f = ps.map (fun i => lw_tbl[i]?)) (h2 : ∀ q w, f q = some w → goodWord w = true) : s_isg f t := by
  intro q hq w hw
  have hm : some w ∈ ps.map (fun i => lw_tbl[i]?) := by rw [← h1, ← hw]; exact List.mem_map_of_mem hq
  obtain ⟨i, -, hi⟩ := List.mem_map.mp hm
  exact s_gdof (List.mem_of_getElem? hi) (h2 q w hw)
theorem s_isg_app {α : Type} {f : α → Option Cond} {t u : List α} (h1 : s_isg f t) (h2 : s_isg f u) : s_isg f (t ++ u) := fun q hq => (List.mem_append.mp hq).elim (h1 q) (h2 q)
theorem s_fw_g {own : String} : ∀ q w, s_fw own q = some w → goodWord w = true := by
  intro q w h
  unfold s_fw at h
  cases hr : s_cl[q.2.1]? with
  | none => rw [hr] at h; cases h
  | some r => rw [hr] at h; cases h; rfl
theorem s_lw_g {mi : Nat → Option s_M} {own : String} : ∀ q w, s_lw mi own q = some w → goodWord w = true := by
  intro q w h
  unfold s_lw at h
  cases hr : mi q.2 with
  | none => rw [hr] at h; cases h
  | some r => rw [hr] at h; cases h; rfl
theorem s_sw_g {mi : Nat → Option s_M} : ∀ q w, s_sw mi q = some w → goodWord w = true := by
  intro q w h
  unfold s_sw at h
  cases hr : mi q with
  | none => rw [hr] at h; cases h
  | some r => rw [hr] at h; cases h; rfl
theorem s_iw_g {mi : Nat → Option s_M} : ∀ q w, s_iw mi q = some w → goodWord w = true := by
  intro q w h
  unfold s_iw at h
  cases hr : mi q with
  | none => rw [hr] at h; cases h
  | some r => rw [hr] at h; cases h; rfl
theorem s_vw_g {mi : Nat → Option s_M} : ∀ q w, s_vw mi q = some w → goodWord w = true := by
  intro q w h
  unfold s_vw at h
  cases hr : mi q.1 with
  | none => rw [hr] at h; cases h
  | some r =>
    rw [hr] at h
    cases hr2 : s_cl[q.2]? with
    | none => rw [hr2] at h; cases h
    | some r2 => rw [hr2] at h; cases h; rfl
