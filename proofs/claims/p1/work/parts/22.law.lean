/-! THE LAW'S OWN RUN: to a place in its code, then on -/
noncomputable def s_runT (F : s_F) (df : Nat → List Term) (comp : Nat → Nat) (call : Nat → List Term → s_H → Option s_O) (cd : s_Cd) (hd : List s_Hd) (stop : Nat) (n : Nat) : s_S → Option s_S := Nat.rec (motive := fun _ => s_S → Option s_S) (fun _ => none) (fun _ ih σ => match σ with
  | (pc, ls, st, h, kc, ks) => match Nat.beq pc stop with
    | true => some (pc, ls, st, h, kc, ks)
    | false => match s_at 32 cd pc with
      | none => none
      | some e => match s_exec F df comp call hd pc e ls st h kc ks with
        | none => none
        | some (.inl (pc', ls', st', h', kc', ks')) => match Nat.ble kc kc' && Nat.ble ks ks' with
          | true => ih (pc', ls', st', h', kc', ks')
          | false => none
        | some (.inr _) => none) n
theorem s_runT_succ {F : s_F} {df : Nat → List Term} {comp : Nat → Nat} {call : Nat → List Term → s_H → Option s_O} {cd : s_Cd} {hd : List s_Hd} {stop n : Nat} {pc : Nat} {L st : List Term} {h : s_H} {kc ks : Nat} {τ : s_S} (hr : s_runT F df comp call cd hd stop (n + 1) (pc, L, st, h, kc, ks) = some τ) : τ = (pc, L, st, h, kc, ks) ∨ ∃ e, s_at 32 cd pc = some e ∧ ∃ pc' L' st' h' kc' ks', s_exec F df comp call hd pc e L st h kc ks = some (.inl (pc', L', st', h', kc', ks')) ∧ kc ≤ kc' ∧ ks ≤ ks' ∧ s_runT F df comp call cd hd stop n (pc', L', st', h', kc', ks') = some τ := by
  replace hr : (match Nat.beq pc stop with
    | true => some (pc, L, st, h, kc, ks)
    | false => match s_at 32 cd pc with
      | none => none
      | some e => match s_exec F df comp call hd pc e L st h kc ks with
        | none => none
        | some (.inl (pc', ls', st', h', kc', ks')) => match Nat.ble kc kc' && Nat.ble ks ks' with
          | true => s_runT F df comp call cd hd stop n (pc', ls', st', h', kc', ks')
          | false => none
        | some (.inr _) => none) = some τ := hr
  cases h0 : Nat.beq pc stop with
  | true => rw [h0] at hr; cases hr; exact Or.inl rfl
  | false =>
    rw [h0] at hr
    replace hr : (match s_at 32 cd pc with
      | none => none
      | some e => match s_exec F df comp call hd pc e L st h kc ks with
        | none => none
        | some (.inl (pc', ls', st', h', kc', ks')) => match Nat.ble kc kc' && Nat.ble ks ks' with
          | true => s_runT F df comp call cd hd stop n (pc', ls', st', h', kc', ks')
          | false => none
        | some (.inr _) => none) = some τ := hr
    right
    cases h1 : s_at 32 cd pc with
    | none => rw [h1] at hr; cases hr
    | some e =>
      rw [h1] at hr
      replace hr : (match s_exec F df comp call hd pc e L st h kc ks with
        | none => none
        | some (.inl (pc', ls', st', h', kc', ks')) => match Nat.ble kc kc' && Nat.ble ks ks' with
          | true => s_runT F df comp call cd hd stop n (pc', ls', st', h', kc', ks')
          | false => none
        | some (.inr _) => none) = some τ := hr
      refine ⟨e, rfl, ?_⟩
      cases h2 : s_exec F df comp call hd pc e L st h kc ks with
      | none => rw [h2] at hr; cases hr
      | some r =>
        rw [h2] at hr
        rcases r with ⟨pc', L', st', h', kc', ks'⟩ | r
        · replace hr : (match Nat.ble kc kc' && Nat.ble ks ks' with
            | true => s_runT F df comp call cd hd stop n (pc', L', st', h', kc', ks')
            | false => none) = some τ := hr
          cases h3 : (Nat.ble kc kc' && Nat.ble ks ks') with
          | false => rw [h3] at hr; cases hr
          | true =>
            rw [h3] at hr
            simp only [Bool.and_eq_true] at h3
            exact ⟨pc', L', st', h', kc', ks', rfl, Nat.le_of_ble_eq_true h3.1, Nat.le_of_ble_eq_true h3.2, hr⟩
        · cases hr
theorem s_runT_mono {F : s_F} {df : Nat → List Term} {comp : Nat → Nat} {call : Nat → List Term → s_H → Option s_O} {cd : s_Cd} {hd : List s_Hd} {stop : Nat} : ∀ {n : Nat} {pc : Nat} {L st : List Term} {h : s_H} {kc ks : Nat} {τ : s_S}, s_runT F df comp call cd hd stop n (pc, L, st, h, kc, ks) = some τ → kc ≤ τ.2.2.2.2.1 ∧ ks ≤ τ.2.2.2.2.2
  | 0, pc, L, st, h, kc, ks, τ, hr => by cases hr
  | n + 1, pc, L, st, h, kc, ks, τ, hr => by
    rcases s_runT_succ hr with rfl | ⟨e, -, pc', L', st', h', kc', ks', -, h1, h2, h3⟩
    · exact ⟨Nat.le_refl _, Nat.le_refl _⟩
    · have := s_runT_mono h3
      exact ⟨Nat.le_trans h1 this.1, Nat.le_trans h2 this.2⟩
section S23
variable {p : Program} {l : Launch} {e : Env} {R : Room} {s : State} {m : MethodId} {args : Array Value} {below : List Frame} {meth : Method} {c : Code} {Q : State → Prop} {M : s_M} {mi : Nat → Option s_M} {Wm : List Cond} {dC : Nat → ClassId} {dI : Nat → Nat → Nat} {ρ : Nat → Int32} {base nL d : Nat} {F : s_F} {call : Nat → List Term → s_H → Option s_O} {hd : List s_Hd}
theorem s_runT_s {cd : s_Cd} {stop : Nat} {pc9 : Nat} {L9 st9 : List Term} {h9 : s_H} {kc9 ks9 : Nat} (C : s_Cx p s m args meth c M) (hW : ∀ w ∈ Wm, w ∈ s_gd) (hHd : s_chkH M Wm hd M.2.2.2.2 = true) (hFH : s_FH ρ F) (hl : l.stackTraces = false) (hK : s_KK dC dI base s s.heap) (hbase : base ≤ s.heap.size) (hnl : nL = c.maxLocals) (hCT : s_CT l dC dI ρ base d mi call) (hRf : 7 + d ≤ R.frames) (hRl : 170 + 70 * d ≤ R.locals) (hok : s_okC mi M Wm 0 cd = true) (hRc : kc9 ≤ R.cells) (hRs : ks9 ≤ R.slots) : ∀ (n : Nat) (pc : Nat) (L st : List Term) (h : s_H) (kc ks : Nat) (ad : List Nat) (H : Heap) (ls : Array Slot) (vs : List Value) (locs : List Loc), s_SR s dC dI ρ base nL ad L st h H ls vs locs → s_runT F s_df s_comp call cd hd stop n (pc, L, st, h, kc, ks) = some (pc9, L9, st9, h9, kc9, ks9) → s_Kk p l e R s m args below meth c Q dC dI ρ base nL ad pc9 L9 st9 h9 kc9 ks9 → W p l e R s m args below meth c H locs kc ks Q (F0 m pc ls vs)
  | 0, pc, L, st, h, kc, ks, ad, H, ls, vs, locs, hS, hr, kk => by cases hr
  | n + 1, pc, L, st, h, kc, ks, ad, H, ls, vs, locs, hS, hr, kk => by
    rcases s_runT_succ hr with he | ⟨e9, h9, pc', L', st', h', kc', ks', hx, h1, h2, h3⟩
    · cases he
      exact kk ad H ls vs locs (s_ext ad) hS
    · have hm := s_runT_mono h3
      exact s_step C hW hHd hFH hl hK hbase hnl hS hCT hRf hRl (s_okC_s hok h9) hx (Nat.le_trans hm.1 hRc) (Nat.le_trans hm.2 hRs) (fun ad' H' ls' vs' locs' hx' hS' => by
        obtain ⟨x, rfl⟩ := hx'
        exact s_runT_s C hW hHd hFH hl hK hbase hnl hCT hRf hRl hok hRc hRs n pc' L' st' h' kc' ks' _ H' ls' vs' locs' hS' h3 (fun ad2 H2 ls2 vs2 locs2 hx2 hS2 => by
          obtain ⟨y, rfl⟩ := hx2
          exact kk _ H2 ls2 vs2 locs2 ⟨x ++ y, by rw [List.append_assoc]⟩ hS2))
end S23
/-! the script's cell, told anew -/
def s_h1 (n : Nat) (c0 : s_C) (a : List s_C) (b : List (List s_C)) (t : List (List (List s_C))) : s_H := (n, ((c0 :: a) :: b) :: t)
theorem s_h1_get {n : Nat} {c0 c1 : s_C} {a : List s_C} {b : List (List s_C)} {t : List (List (List s_C))} {k : Nat} {c : s_C} (h : s_get (s_h1 n c0 a b t) k = some c) : (k = 0 ∧ c = c0) ∨ s_get (s_h1 n c1 a b t) k = some c := by
  unfold s_get s_h1 at h ⊢
  simp only [s_nth_eq] at h ⊢
  by_cases h1 : k / 144 = 0
  · rw [h1] at h ⊢
    simp only [List.getElem?_cons_zero] at h ⊢
    by_cases h2 : k / 12 % 12 = 0
    · rw [h2] at h ⊢
      simp only [List.getElem?_cons_zero] at h ⊢
      by_cases h3 : k % 12 = 0
      · left
        rw [h3] at h
        simp only [List.getElem?_cons_zero, Option.some.injEq] at h
        exact ⟨by omega, h.symm⟩
      · right
        obtain ⟨j, hj⟩ := Nat.exists_eq_succ_of_ne_zero h3
        rw [hj] at h ⊢
        simpa using h
    · right
      obtain ⟨j, hj⟩ := Nat.exists_eq_succ_of_ne_zero h2
      rw [hj] at h ⊢
      simpa using h
  · right
    obtain ⟨j, hj⟩ := Nat.exists_eq_succ_of_ne_zero h1
    rw [hj] at h ⊢
    simpa using h
theorem s_scr {s : State} {dC : Nat → ClassId} {dI : Nat → Nat → Nat} {ρ : Nat → Int32} {base n b Ls : Nat} {ad : List Nat} {c0 : s_C} {a : List s_C} {b9 : List (List s_C)} {t : List (List (List s_C))} {H : Heap} {xs : Nat → Int32} {ts : List Term} (hH : s_HR s dC dI ρ ad base (s_h1 n c0 a b9 t) H) (h0 : ad[0]? = some b) (hX : va_X b Ls xs s s.heap) (hb : H[b]? = s.heap[b]?) (hts : s_DS ρ ad ts ((List.range Ls).map fun j => Value.int (xs j))) : s_HR s dC dI ρ ad base (s_h1 n (2, 0, ts) a b9 t) H := by
  refine ⟨hH.1, hH.2.1, hH.2.2.1, fun k c hk => ?_⟩
  rcases s_h1_get (c1 := c0) hk with ⟨rfl, rfl⟩ | hk
  · right
    obtain ⟨scr, g1, g2, g3, g4, g5⟩ := hX
    refine ⟨b, h0, Or.inr ⟨Or.inr rfl, scr, by rw [hb]; exact g1, g2, g3, ?_, fun z => by cases z⟩⟩
    have : scr.slots.toList = (List.range Ls).map fun j => Value.int (xs j) := by
      refine List.ext_getElem? fun i => ?_
      rw [Array.getElem?_toList]
      by_cases hi : i < Ls
      · rw [g5 i hi]; simp [hi]
      · rw [Array.getElem?_eq_none (by omega)]; simp [hi]
    rw [this]; exact hts
  · exact hH.2.2.2 k c hk
/-! whether two states are the same -/
def s_eqL {α : Type} (f : α → α → Bool) : List α → List α → Bool
  | [], [] => true
  | x :: xs, y :: ys => f x y && s_eqL f xs ys
  | _, _ => false
theorem s_eqL_s {α : Type} {f : α → α → Bool} (hf : ∀ x y, f x y = true → x = y) : ∀ {xs ys : List α}, s_eqL f xs ys = true → xs = ys
  | [], [], _ => rfl
  | x :: xs, y :: ys, h => by
    simp only [s_eqL, Bool.and_eq_true] at h
    rw [hf x y h.1, s_eqL_s hf h.2]
  | [], _ :: _, h => by cases h
  | _ :: _, [], h => by cases h
def s_eqV (a b : Term) : Bool := match a with
  | .int x => match b with
    | .int y => Nat.beq x.toBitVec.toNat y.toBitVec.toNat
    | _ => false
  | .long x => match b with
    | .long y => Nat.beq x.toBitVec.toNat y.toBitVec.toNat
    | _ => false
  | .null => match b with
    | .null => true
    | _ => false
  | .index i => match b with
    | .index j => Nat.beq i j
    | _ => false
  | .result => match b with
    | .result => true
    | _ => false
  | a => s_eqT a b
theorem s_eqV_s {a b : Term} (h : s_eqV a b = true) : a = b := by
  unfold s_eqV at h
  split at h
  · split at h
    · rename_i x _ y
      have := Nat.eq_of_beq_eq_true h
      rw [show x = y from Int32.toBitVec_inj.mp (BitVec.eq_of_toNat_eq this)]
    · cases h
  · split at h
    · rename_i x _ y
      have := Nat.eq_of_beq_eq_true h
      rw [show x = y from Int64.toBitVec_inj.mp (BitVec.eq_of_toNat_eq this)]
    · cases h
  · split at h
    · rfl
    · cases h
  · split at h
    · rw [Nat.eq_of_beq_eq_true h]
    · cases h
  · split at h
    · rfl
    · cases h
  · exact s_eqT_s h
def s_eqC (a b : s_C) : Bool := Nat.beq a.1 b.1 && Nat.beq a.2.1 b.2.1 && s_eqL s_eqV a.2.2 b.2.2
theorem s_eqC_s (a b : s_C) (h : s_eqC a b = true) : a = b := by
  obtain ⟨a1, a2, a3⟩ := a
  obtain ⟨b1, b2, b3⟩ := b
  simp only [s_eqC, Bool.and_eq_true] at h
  cases (Nat.eq_of_beq_eq_true h.1.1)
  cases (Nat.eq_of_beq_eq_true h.1.2)
  cases (s_eqL_s (fun _ _ q => s_eqV_s q) h.2)
  rfl
def s_eqH (a b : s_H) : Bool := Nat.beq a.1 b.1 && s_eqL (s_eqL (s_eqL s_eqC)) a.2 b.2
theorem s_eqH_s (a b : s_H) (h : s_eqH a b = true) : a = b := by
  obtain ⟨a1, a2⟩ := a
  obtain ⟨b1, b2⟩ := b
  simp only [s_eqH, Bool.and_eq_true] at h
  cases (Nat.eq_of_beq_eq_true h.1)
  cases (s_eqL_s (fun x y q => s_eqL_s (fun x y q => s_eqL_s s_eqC_s q) q) h.2)
  rfl
def s_eqS (o : Option s_S) (τ : s_S) : Bool := match o with
  | none => false
  | some σ => Nat.beq σ.1 τ.1 && s_eqL s_eqV σ.2.1 τ.2.1 && s_eqL s_eqV σ.2.2.1 τ.2.2.1 && s_eqH σ.2.2.2.1 τ.2.2.2.1 && Nat.beq σ.2.2.2.2.1 τ.2.2.2.2.1 && Nat.beq σ.2.2.2.2.2 τ.2.2.2.2.2
theorem s_eqS_s {o : Option s_S} {τ : s_S} (h : s_eqS o τ = true) : o = some τ := by
  cases o with
  | none => cases h
  | some σ =>
    obtain ⟨σ1, σ2, σ3, σ4, σ5, σ6⟩ := σ
    obtain ⟨τ1, τ2, τ3, τ4, τ5, τ6⟩ := τ
    simp only [s_eqS, Bool.and_eq_true] at h
    cases (Nat.eq_of_beq_eq_true h.1.1.1.1.1)
    cases (s_eqL_s (fun _ _ q => s_eqV_s q) h.1.1.1.1.2)
    cases (s_eqL_s (fun _ _ q => s_eqV_s q) h.1.1.1.2)
    cases (s_eqH_s _ _ h.1.1.2)
    cases (Nat.eq_of_beq_eq_true h.1.2)
    cases (Nat.eq_of_beq_eq_true h.2)
    rfl
/-- does a run come to this place with 1 on the stack, within this room -/
def s_ends (stop k n : Nat) (o : Option s_S) : Bool := match o with
  | some (pc, _, [.int 1], _, kc, ks) => Nat.beq pc stop && Nat.ble kc k && Nat.ble ks n
  | _ => false
theorem s_ends_s {stop k n : Nat} {o : Option s_S} (h : s_ends stop k n o = true) : ∃ L h kc ks, o = some (stop, L, [.int 1], h, kc, ks) ∧ kc ≤ k ∧ ks ≤ n := by
  unfold s_ends at h
  split at h
  · rename_i pc L h0 kc ks
    simp only [Bool.and_eq_true] at h
    cases (Nat.eq_of_beq_eq_true h.1.1)
    exact ⟨L, h0, kc, ks, rfl, Nat.le_of_ble_eq_true h.1.2, Nat.le_of_ble_eq_true h.2⟩
  · cases h
