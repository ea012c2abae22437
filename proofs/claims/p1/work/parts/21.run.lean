/-! THE RUN AND THE CALL: what the machine answers is what the method does -/
noncomputable def s_okR (mi : Nat → Option s_M) (M : s_M) (Wm : List Cond) : Nat → List (Option s_I) → Bool
  | _, [] => true
  | b, none :: r => s_okR mi M Wm (b + 1) r
  | b, some e :: r => s_chkI mi M Wm b e && s_okR mi M Wm (b + 1) r
noncomputable def s_okC (mi : Nat → Option s_M) (M : s_M) (Wm : List Cond) : Nat → s_Cd → Bool
  | _, [] => true
  | b, r :: t => s_okR mi M Wm b r && s_okC mi M Wm (b + 32) t
theorem s_okR_s {mi : Nat → Option s_M} {M : s_M} {Wm : List Cond} : ∀ {r : List (Option s_I)} {b j : Nat} {e : s_I}, s_okR mi M Wm b r = true → r[j]? = some (some e) → s_chkI mi M Wm (b + j) e = true
  | [], b, j, e, h, q => by simp at q
  | none :: r, b, 0, e, h, q => by simp at q
  | none :: r, b, j + 1, e, h, q => by
    have := s_okR_s (r := r) (b := b + 1) (j := j) (e := e) h (by simpa using q)
    rwa [show b + 1 + j = b + (j + 1) by omega] at this
  | some e9 :: r, b, 0, e, h, q => by
    simp only [s_okR, Bool.and_eq_true] at h
    cases (show some (some e9) = some (some e) from by simpa using q)
    exact h.1
  | some e9 :: r, b, j + 1, e, h, q => by
    simp only [s_okR, Bool.and_eq_true] at h
    have := s_okR_s (r := r) (b := b + 1) (j := j) (e := e) h.2 (by simpa using q)
    rwa [show b + 1 + j = b + (j + 1) by omega] at this
theorem s_okC_i {mi : Nat → Option s_M} {M : s_M} {Wm : List Cond} : ∀ {cd : s_Cd} {b i j : Nat} {r : List (Option s_I)} {e : s_I}, s_okC mi M Wm b cd = true → cd[i]? = some r → r[j]? = some (some e) → s_chkI mi M Wm (b + 32 * i + j) e = true
  | [], b, i, j, r, e, h, q, _ => by simp at q
  | r9 :: t, b, 0, j, r, e, h, q, q2 => by
    simp only [s_okC, Bool.and_eq_true] at h
    cases (show some r9 = some r from by simpa using q)
    have := s_okR_s h.1 q2
    simpa using this
  | r9 :: t, b, i + 1, j, r, e, h, q, q2 => by
    simp only [s_okC, Bool.and_eq_true] at h
    have := s_okC_i (cd := t) (b := b + 32) (i := i) h.2 (by simpa using q) q2
    rwa [show b + 32 + 32 * i + j = b + 32 * (i + 1) + j by omega] at this
theorem s_at_s {α : Type} {w n : Nat} {t : List (List (Option α))} {x : α} (h : s_at w t n = some x) : ∃ r, t[n / w]? = some r ∧ r[n % w]? = some (some x) := by
  unfold s_at at h
  rw [s_nth_eq] at h
  cases e : t[n / w]? with
  | none => rw [e] at h; cases h
  | some r =>
    rw [e] at h
    replace h : (match s_nth r (n % w) with
      | none => none
      | some x => x) = some x := h
    rw [s_nth_eq] at h
    refine ⟨r, rfl, ?_⟩
    cases e2 : r[n % w]? with
    | none => rw [e2] at h; cases h
    | some y =>
      rw [e2] at h
      replace h : y = some x := h
      rw [h]
theorem s_okC_s {mi : Nat → Option s_M} {M : s_M} {Wm : List Cond} {cd : s_Cd} {pc : Nat} {e : s_I} (h : s_okC mi M Wm 0 cd = true) (q : s_at 32 cd pc = some e) : s_chkI mi M Wm pc e = true := by
  obtain ⟨r, h1, h2⟩ := s_at_s q
  have := s_okC_i h h1 h2
  rwa [show 0 + 32 * (pc / 32) + pc % 32 = pc by omega] at this
/-! the run -/
theorem s_run_succ {F : s_F} {df : Nat → List Term} {comp : Nat → Nat} {call : Nat → List Term → s_H → Option s_O} {cd : s_Cd} {hd : List s_Hd} {n : Nat} {pc : Nat} {L st : List Term} {h : s_H} {kc ks : Nat} {outf : s_O} (hr : s_run F df comp call cd hd (n + 1) (pc, L, st, h, kc, ks) = some outf) : ∃ e, s_at 32 cd pc = some e ∧ ((∃ pc' L' st' h' kc' ks', s_exec F df comp call hd pc e L st h kc ks = some (.inl (pc', L', st', h', kc', ks')) ∧ kc ≤ kc' ∧ ks ≤ ks' ∧ s_run F df comp call cd hd n (pc', L', st', h', kc', ks') = some outf) ∨ (s_exec F df comp call hd pc e L st h kc ks = some (.inr outf) ∧ Nat.ble 68 e.1 = true ∧ kc ≤ outf.2.2.1 ∧ ks ≤ outf.2.2.2)) := by
  replace hr : (match s_at 32 cd pc with
    | none => none
    | some e => match s_exec F df comp call hd pc e L st h kc ks with
      | none => none
      | some (.inl (pc', ls', st', h', kc', ks')) => match Nat.ble kc kc' && Nat.ble ks ks' with
        | true => s_run F df comp call cd hd n (pc', ls', st', h', kc', ks')
        | false => none
      | some (.inr (o, h', kc', ks')) => match Nat.ble 68 e.1 && Nat.ble kc kc' && Nat.ble ks ks' with
        | true => some (o, h', kc', ks')
        | false => none) = some outf := hr
  cases h1 : s_at 32 cd pc with
  | none => rw [h1] at hr; cases hr
  | some e =>
    rw [h1] at hr
    replace hr : (match s_exec F df comp call hd pc e L st h kc ks with
      | none => none
      | some (.inl (pc', ls', st', h', kc', ks')) => match Nat.ble kc kc' && Nat.ble ks ks' with
        | true => s_run F df comp call cd hd n (pc', ls', st', h', kc', ks')
        | false => none
      | some (.inr (o, h', kc', ks')) => match Nat.ble 68 e.1 && Nat.ble kc kc' && Nat.ble ks ks' with
        | true => some (o, h', kc', ks')
        | false => none) = some outf := hr
    refine ⟨e, rfl, ?_⟩
    cases h2 : s_exec F df comp call hd pc e L st h kc ks with
    | none => rw [h2] at hr; cases hr
    | some r =>
      rw [h2] at hr
      rcases r with ⟨pc', L', st', h', kc', ks'⟩ | ⟨o, h', kc', ks'⟩
      · replace hr : (match Nat.ble kc kc' && Nat.ble ks ks' with
          | true => s_run F df comp call cd hd n (pc', L', st', h', kc', ks')
          | false => none) = some outf := hr
        cases h3 : (Nat.ble kc kc' && Nat.ble ks ks') with
        | false => rw [h3] at hr; cases hr
        | true =>
          rw [h3] at hr
          simp only [Bool.and_eq_true] at h3
          exact Or.inl ⟨pc', L', st', h', kc', ks', rfl, Nat.le_of_ble_eq_true h3.1, Nat.le_of_ble_eq_true h3.2, hr⟩
      · replace hr : (match Nat.ble 68 e.1 && Nat.ble kc kc' && Nat.ble ks ks' with
          | true => some (o, h', kc', ks')
          | false => none) = some outf := hr
        cases h3 : (Nat.ble 68 e.1 && Nat.ble kc kc' && Nat.ble ks ks') with
        | false => rw [h3] at hr; cases hr
        | true =>
          rw [h3] at hr
          cases hr
          simp only [Bool.and_eq_true] at h3
          exact Or.inr ⟨rfl, h3.1.1, Nat.le_of_ble_eq_true h3.1.2, Nat.le_of_ble_eq_true h3.2⟩
theorem s_run_mono {F : s_F} {df : Nat → List Term} {comp : Nat → Nat} {call : Nat → List Term → s_H → Option s_O} {cd : s_Cd} {hd : List s_Hd} : ∀ {n : Nat} {pc : Nat} {L st : List Term} {h : s_H} {kc ks : Nat} {outf : s_O}, s_run F df comp call cd hd n (pc, L, st, h, kc, ks) = some outf → kc ≤ outf.2.2.1 ∧ ks ≤ outf.2.2.2
  | 0, pc, L, st, h, kc, ks, outf, hr => by cases hr
  | n + 1, pc, L, st, h, kc, ks, outf, hr => by
    obtain ⟨e, -, ⟨pc', L', st', h', kc', ks', -, h1, h2, h3⟩ | ⟨-, -, h1, h2⟩⟩ := s_run_succ hr
    · have := s_run_mono h3
      exact ⟨Nat.le_trans h1 this.1, Nat.le_trans h2 this.2⟩
    · exact ⟨h1, h2⟩
section S21
variable {p : Program} {l : Launch} {e : Env} {R : Room} {s : State} {m : MethodId} {args : Array Value} {below : List Frame} {meth : Method} {c : Code} {Q : State → Prop} {M : s_M} {mi : Nat → Option s_M} {Wm : List Cond} {dC : Nat → ClassId} {dI : Nat → Nat → Nat} {ρ : Nat → Int32} {base nL d : Nat} {ad0 : List Nat} {F : s_F} {call : Nat → List Term → s_H → Option s_O} {hd : List s_Hd} {outf : s_O}
theorem s_run_s {cd : s_Cd} (C : s_Cx p s m args meth c M) (hW : ∀ w ∈ Wm, w ∈ s_gd) (hHd : s_chkH M Wm hd M.2.2.2.2 = true) (hFH : s_FH ρ F) (hl : l.stackTraces = false) (hK : s_KK dC dI base s s.heap) (hbase : base ≤ s.heap.size) (hnl : nL = c.maxLocals) (hCT : s_CT l dC dI ρ base d mi call) (hRf : 7 + d ≤ R.frames) (hRl : 170 + 70 * d ≤ R.locals) (hok : s_okC mi M Wm 0 cd = true) (hRc : outf.2.2.1 ≤ R.cells) (hRs : outf.2.2.2 ≤ R.slots) : ∀ (n : Nat) (pc : Nat) (L st : List Term) (h : s_H) (kc ks : Nat) (ad x0 : List Nat) (H : Heap) (ls : Array Slot) (vs : List Value) (locs : List Loc), ad = ad0 ++ x0 → s_SR s dC dI ρ base nL ad L st h H ls vs locs → s_run F s_df s_comp call cd hd n (pc, L, st, h, kc, ks) = some outf → W p l e R s m args below meth c H locs kc ks (vx_MQ below (s_Qc dC dI ρ base ad0 outf) (s_XC dC dI ρ base ad0 outf) args s outf.2.2.1 outf.2.2.2 (fun q => base ≤ q)) (F0 m pc ls vs)
  | 0, pc, L, st, h, kc, ks, ad, x0, H, ls, vs, locs, had, hS, hr => by cases hr
  | n + 1, pc, L, st, h, kc, ks, ad, x0, H, ls, vs, locs, had, hS, hr => by
    obtain ⟨e9, h9, ⟨pc', L', st', h', kc', ks', hx, h1, h2, h3⟩ | ⟨hx, h68, h1, h2⟩⟩ := s_run_succ hr
    · have hm := s_run_mono h3
      exact s_step C hW hHd hFH hl hK hbase hnl hS hCT hRf hRl (s_okC_s hok h9) hx (Nat.le_trans hm.1 hRc) (Nat.le_trans hm.2 hRs) (fun ad' H' ls' vs' locs' hx' hS' => by
        obtain ⟨x, hx'⟩ := hx'
        exact s_run_s C hW hHd hFH hl hK hbase hnl hCT hRf hRl hok hRc hRs n pc' L' st' h' kc' ks' ad' (x0 ++ x) H' ls' vs' locs' (by rw [hx', had, List.append_assoc]) hS' h3)
    · exact s_stop C hW hHd hFH hl hK hbase hnl hS hCT hRf hRl had (s_okC_s hok h9) h68 hx hRc hRs
end S21
/-! the beginning of a method -/
theorem s_cat_sum : ∀ vs : List Value, (lg_sl vs).length = (vs.map fun v => v.category).sum
  | [] => rfl
  | v :: vs => by
    have ih := s_cat_sum vs
    simp only [lg_sl, List.flatMap_cons, List.length_append, List.map_cons, List.sum_cons] at ih ⊢
    rw [ih]
    by_cases h : v.category = 2
    · rw [if_pos h, h]; rfl
    · rw [if_neg h]
      have : v.category = 1 := by cases v <;> first | rfl | exact absurd rfl h
      rw [this]; rfl
theorem s_lvm2 {ρ : Nat → Int32} {ad : List Nat} {t : Term} {v : Value} (h : s_den ρ ad t = some v) (ht : s_ty t = 2) : v.category = 2 := by
  rcases s_cat h with ⟨q, -⟩ | ⟨-, x, rfl⟩ | ⟨q, -⟩
  · rw [ht] at q; cases q
  · rfl
  · rw [ht] at q; cases q
theorem s_ini_len : ∀ (n : Nat) (as : List Term), (s_ini n as).length = n
  | 0, _ => by simp [s_ini]
  | n + 1, [] => by simp [s_ini, s_ini_len n []]
  | 1, v :: _ => by simp [s_ini]
  | n + 2, v :: vs => by
    unfold s_ini
    split
    · simp [s_ini_len n vs]
    · simp [s_ini_len (n + 1) vs]
theorem s_ini_s {ρ : Nat → Int32} {ad : List Nat} : ∀ (n : Nat) (as : List Term) (vs : List Value) (k i : Nat) (t : Term), s_DS ρ ad as vs → (s_ini n as)[i]? = some t → t = .result ∨ ∃ v, s_den ρ ad t = some v ∧ (k + i, v) ∈ lv_args k vs
  | 0, as, vs, k, i, t, hD, h => by simp [s_ini] at h
  | n + 1, [], vs, k, i, t, hD, h => by
    simp only [s_ini] at h
    cases i with
    | zero => left; simpa using h.symm
    | succ i =>
      rw [List.getElem?_cons_succ] at h
      rcases s_ini_s n [] vs k i t hD h with q | ⟨v, h1, h2⟩
      · exact Or.inl q
      · cases vs with
        | nil => cases h2
        | cons v0 vs => exact absurd hD id
  | 1, a :: as, vs, k, i, t, hD, h => by
    obtain ⟨v, vs', rfl, h1, h2⟩ := s_DS_c hD
    simp only [s_ini] at h
    cases i with
    | succ i => simp at h
    | zero =>
      split at h
      · left; simpa using h.symm
      · right
        simp only [List.getElem?_cons_zero, Option.some.injEq] at h
        subst h
        exact ⟨v, h1, by simp [lv_args]⟩
  | n + 2, a :: as, vs, k, i, t, hD, h => by
    obtain ⟨v, vs', rfl, h1, h2⟩ := s_DS_c hD
    unfold s_ini at h
    split at h
    · rename_i q
      have q : s_ty a = 2 := Nat.eq_of_beq_eq_true q
      have hv : v.category = 2 := s_lvm2 h1 q
      simp only [lv_args, hv, if_true]
      match i, h with
      | 0, h =>
        right
        simp only [List.getElem?_cons_zero, Option.some.injEq] at h
        subst h
        exact ⟨v, h1, by simp⟩
      | 1, h => left; simpa using h.symm
      | i + 2, h =>
        rw [List.getElem?_cons_succ, List.getElem?_cons_succ] at h
        rcases s_ini_s n as vs' (k + 2) i t h2 h with q | ⟨w, g1, g2⟩
        · exact Or.inl q
        · exact Or.inr ⟨w, g1, List.mem_cons_of_mem _ (by rwa [show k + (i + 2) = k + 2 + i by omega])⟩
    · rename_i q
      have hv : ¬ v.category = 2 := fun z => q (by rw [s_lvm h1 z]; rfl)
      simp only [lv_args, hv, if_false]
      match i, h with
      | 0, h =>
        right
        simp only [List.getElem?_cons_zero, Option.some.injEq] at h
        subst h
        exact ⟨v, h1, by simp⟩
      | i + 1, h =>
        rw [List.getElem?_cons_succ] at h
        rcases s_ini_s (n + 1) as vs' (k + 1) i t h2 h with q | ⟨w, g1, g2⟩
        · exact Or.inl q
        · exact Or.inr ⟨w, g1, List.mem_cons_of_mem _ (by rwa [show k + (i + 1) = k + 1 + i by omega])⟩
theorem s_ini_LR {ρ : Nat → Int32} {ad : List Nat} {as : List Term} {vs : List Value} {nL : Nat} (hD : s_DS ρ ad as vs) (hw : Nat.ble (s_wt as) nL = true) : s_LR ρ ad nL (s_ini nL as) ((lg_sl vs ++ List.replicate (nL - (lg_sl vs).length) Slot.unset).toArray) := by
  have hlen : (lg_sl vs).length ≤ nL := by rw [s_cat_sum, s_wt_s hD]; exact Nat.le_of_ble_eq_true hw
  obtain ⟨h1, h2, h3⟩ := lv_entry vs hlen
  refine ⟨h1, h2, Nat.le_of_eq (s_ini_len nL as), fun i t hi => ?_⟩
  rcases s_ini_s nL as vs 0 i t hD hi with q | ⟨v, g1, g2⟩
  · exact Or.inl q
  · exact Or.inr ⟨v, g1, by simpa using h3 _ g2⟩
/-- one method's table is its code -/
def s_okE (mi : Nat → Option s_M) (y : Nat) (cd : s_Cd) (nL : Nat) (hd : List s_Hd) : Prop := ∃ (M : s_M) (Wm : List Cond), mi y = some M ∧ s_Kw M ∧ nL = M.2.2.1 ∧ (∀ w ∈ Wm, w ∈ s_gd) ∧ s_okC mi M Wm 0 cd = true ∧ s_chkH M Wm hd M.2.2.2.2 = true
def s_okRow (mi : Nat → Option s_M) : Nat → List (Option (s_Cd × Nat × List s_Hd)) → Prop
  | _, [] => True
  | b, none :: r => s_okRow mi (b + 1) r
  | b, some x :: r => s_okE mi b x.1 x.2.1 x.2.2 ∧ s_okRow mi (b + 1) r
def s_okP (mi : Nat → Option s_M) : Nat → s_P → Prop
  | _, [] => True
  | b, r :: t => s_okRow mi b r ∧ s_okP mi (b + 16) t
theorem s_okRow_s {mi : Nat → Option s_M} : ∀ {r : List (Option (s_Cd × Nat × List s_Hd))} {b j : Nat} {x : s_Cd × Nat × List s_Hd}, s_okRow mi b r → r[j]? = some (some x) → s_okE mi (b + j) x.1 x.2.1 x.2.2
  | [], b, j, x, h, q => by simp at q
  | none :: r, b, 0, x, h, q => by simp at q
  | none :: r, b, j + 1, x, h, q => by
    have := s_okRow_s (r := r) (b := b + 1) (j := j) (x := x) h (by simpa using q)
    rwa [show b + 1 + j = b + (j + 1) by omega] at this
  | some x9 :: r, b, 0, x, h, q => by
    cases (show some (some x9) = some (some x) from by simpa using q)
    exact h.1
  | some x9 :: r, b, j + 1, x, h, q => by
    have := s_okRow_s (r := r) (b := b + 1) (j := j) (x := x) h.2 (by simpa using q)
    rwa [show b + 1 + j = b + (j + 1) by omega] at this
theorem s_okP_s {mi : Nat → Option s_M} : ∀ {P : s_P} {b i j : Nat} {r : List (Option (s_Cd × Nat × List s_Hd))} {x : s_Cd × Nat × List s_Hd}, s_okP mi b P → P[i]? = some r → r[j]? = some (some x) → s_okE mi (b + 16 * i + j) x.1 x.2.1 x.2.2
  | [], b, i, j, r, x, h, q, _ => by simp at q
  | r9 :: t, b, 0, j, r, x, h, q, q2 => by
    cases (show some r9 = some r from by simpa using q)
    have := s_okRow_s h.1 q2
    simpa using this
  | r9 :: t, b, i + 1, j, r, x, h, q, q2 => by
    have := s_okP_s (P := t) (b := b + 16) (i := i) h.2 (by simpa using q) q2
    rwa [show b + 16 + 16 * i + j = b + 16 * (i + 1) + j by omega] at this
theorem s_okP_at {mi : Nat → Option s_M} {P : s_P} {y : Nat} {cd : s_Cd} {nL : Nat} {hd : List s_Hd} (h : s_okP mi 0 P) (q : s_at 16 P y = some (cd, nL, hd)) : s_okE mi y cd nL hd := by
  obtain ⟨r, h1, h2⟩ := s_at_s q
  have := s_okP_s h h1 h2
  rwa [show 0 + 16 * (y / 16) + y % 16 = y by omega] at this
/-- a contract out of the body, of a method for which no native row stands -/
theorem s_ofW {l : Launch} {y : MethodName} {ws ws' : List Cond} {rm : Room} {Pc : Array Value → State → Prop} {Qc : Array Value → State → Outcome → State → Prop} {XC : String → State → State → Prop} {mc ms : Nat} {free : Addr → Prop} {cc : ByteArray} {maxL : Nat} {ret : Option FieldType}
    (hy : plainFor y = true) (hw : ws = Cond.code y cc maxL ret :: ws')
    (body : ∀ p e s m args below meth c s₁, BodyLoose p l y (headSpec ws rm) cc maxL ret e s m args below meth c s₁ → c.maxLocals = maxL → (∀ x ∈ c.exceptionTable.toList, False) → Pc args s →
      W p l e (headSpec ws rm).room s m args below meth c s.heap [] 0 0 (vx_MQ below Qc XC args s mc ms free) (entryFrame m args maxL)) : vx_Met l y ws rm Pc Qc XC mc ms free := by
  have hmem : Cond.code y cc maxL ret ∈ ws := by rw [hw]; exact List.mem_cons_self
  refine MetFree.of_bodySF (code := cc) (maxLocals := maxL) (ret := ret) hy (fun args s m h hn => ?_) (fun p e s m args below meth c s₁ B hml hP _ => ?_)
  · obtain ⟨meth, c, h1, h2, h3, h4, h5, h6, -, -⟩ := Cond.code_spec hn (atoms_spec (ws := ws) h _ hmem)
    exact ⟨meth, c, h1, h2, h3, h4, h5, h6⟩
  · have ht : ∀ x ∈ c.exceptionTable.toList, False := fun x hx => by
      obtain ⟨meth9, c9, h1, h2, -, -, -, -, h7, -⟩ := Cond.code_spec B.named (atoms_spec (ws := ws) B.pre _ hmem)
      cases Option.some.inj (h1.symm.trans B.method)
      cases Option.some.inj (h2.symm.trans (Stand.of_body B).code)
      rw [Array.isEmpty_iff.mp h7] at hx
      cases hx
    obtain ⟨t, a1, o, b1, b2, b3⟩ := body p e s m args below meth c s₁ B hml ht hP s₁ (by rw [B.state]; rfl) (Stand.of_body B)
    exact ⟨t, o, a1, b1, b2, b3⟩
theorem s_ofWH {l : Launch} {y : MethodName} {ws ws' : List Cond} {rm : Room} {Pc : Array Value → State → Prop} {Qc : Array Value → State → Outcome → State → Prop} {XC : String → State → State → Prop} {mc ms : Nat} {free : Addr → Prop} {cc : ByteArray} {maxL : Nat} {ret : Option FieldType} {hh : List (Nat × Nat × Nat × Nat)}
    (hy : plainFor y = true) (hw : ws = Cond.codeWith y cc maxL ret hh :: ws')
    (body : ∀ p e s m args below meth c s₁, BodyLoose p l y (headSpec ws rm) cc maxL ret e s m args below meth c s₁ → c.maxLocals = maxL → Pc args s →
      W p l e (headSpec ws rm).room s m args below meth c s.heap [] 0 0 (vx_MQ below Qc XC args s mc ms free) (entryFrame m args maxL)) : vx_Met l y ws rm Pc Qc XC mc ms free := by
  have hmem : Cond.codeWith y cc maxL ret hh ∈ ws := by rw [hw]; exact List.mem_cons_self
  refine MetFree.of_bodySF (code := cc) (maxLocals := maxL) (ret := ret) hy (fun args s m h hn => ?_) (fun p e s m args below meth c s₁ B hml hP _ => ?_)
  · obtain ⟨m9, meth, c, hn9, h1, h2, h3, h4, -, h5, h6, -⟩ := Cond.codeWith_spec (atoms_spec (ws := ws) h _ hmem)
    cases hn.symm.trans hn9
    exact ⟨meth, c, h1, h2, h3, h4, h5, h6⟩
  · obtain ⟨t, a1, o, b1, b2, b3⟩ := body p e s m args below meth c s₁ B hml hP s₁ (by rw [B.state]; rfl) (Stand.of_body B)
    exact ⟨t, o, a1, b1, b2, b3⟩
section S22
variable {l : Launch} {mi : Nat → Option s_M} {dC : Nat → ClassId} {dI : Nat → Nat → Nat} {ρ : Nat → Int32} {base : Nat} {F : s_F}
/-- a method's contract out of its run -/
theorem s_met {M : s_M} {Wm : List Cond} {d n : Nat} {call : Nat → List Term → s_H → Option s_O} {cd : s_Cd} {hd : List s_Hd} {as : List Term} {h : s_H} {out : s_O} (hKw : s_Kw M) (hW : ∀ w ∈ Wm, w ∈ s_gd) (hHd : s_chkH M Wm hd M.2.2.2.2 = true) (hok : s_okC mi M Wm 0 cd = true) (hFH : s_FH ρ F) (hl : l.stackTraces = false) (hCT : s_CT l dC dI ρ base d mi call) (hw : Nat.ble (s_wt as) M.2.2.1 = true) (hr : s_run F s_df s_comp call cd hd n (0, s_ini M.2.2.1 as, [], h, 0, 0) = some out) : s_Met l dC dI ρ base (d + 1) M as h out := by
  intro ad
  have key : ∀ p e s m args below meth c s₁, BodyLoose p l M.1 (headSpec (s_ws M) (s_rm (d + 1) out)) M.2.1 M.2.2.1 M.2.2.2.1 e s m args below meth c s₁ → c.maxLocals = M.2.2.1 → c.exceptionTable.toList = tableOf M.2.2.2.2 → s_Pc dC dI ρ base ad as h args s →
      W p l e (s_rm (d + 1) out) s m args below meth c s.heap [] 0 0 (vx_MQ below (s_Qc dC dI ρ base ad out) (s_XC dC dI ρ base ad out) args s out.2.2.1 out.2.2.2 (fun q => base ≤ q)) (entryFrame m args M.2.2.1) := by
    intro p e s m args below meth c s₁ B hml htb ⟨vs, ha, hD, hH, hK, hb⟩
    have hgd : ∀ w ∈ s_gd, w.before args s = true := by
      intro w hw
      rcases List.mem_append.mp hw with q | q
      · exact atoms_spec (ws := s_ws M) B.pre _ (List.mem_cons_of_mem _ q)
      · exact s_bw_any q (hK.2.2.2.2 w q)
    have C : s_Cx p s m args meth c M := ⟨B.exec, B.bytes, hml, B.returns, B.notSynchronized, findClass_of_methodNamed B.named, (name_of_methodNamed B.named B.method).1, hgd, htb⟩
    rw [ha, lg_entry_eq, ← ha]
    exact s_run_s (ad0 := ad) (nL := M.2.2.1) C hW hHd hFH hl hK hb hml.symm hCT (show 7 + d ≤ 6 + (d + 1) by omega) (show 170 + 70 * d ≤ 100 + 70 * (d + 1) by omega) hok (Nat.le_refl _) (Nat.le_refl _) n 0 _ _ _ _ _ ad [] s.heap _ [] [] (List.append_nil _).symm ⟨s_ini_LR hD hw, (show s_DS ρ ad [] [] by simp [s_DS]), hH, Nat.le_refl _, fun _ _ => rfl, fun z hz => by cases hz⟩ hr
  by_cases hh : M.2.2.2.2 = []
  · refine s_ofW (ws' := lw_tbl.filter goodWord) hKw.2.2.1 (by rw [s_ws, s_cw_c hh]) (fun p e s m args below meth c s₁ B hml ht hP => key p e s m args below meth c s₁ B hml ?_ hP)
    rw [hh]
    cases e9 : c.exceptionTable.toList with
    | nil => rfl
    | cons x y => exact (ht x (by rw [e9]; exact List.mem_cons_self)).elim
  · refine s_ofWH (ws' := lw_tbl.filter goodWord) hKw.2.2.1 (by rw [s_ws, s_cw_h hh]) (fun p e s m args below meth c s₁ B hml hP => key p e s m args below meth c s₁ B hml ?_ hP)
    exact vx_table (x := M.1) (y := M.1) (bytes := M.2.1) (maxL' := M.2.2.1) (ret' := M.2.2.2.1) B (by rw [← s_cw_h hh]; exact atoms_spec (ws := s_ws M) B.pre _ List.mem_cons_self)
theorem s_call_s {P : s_P} {fuel : Nat} (hP : s_okP mi 0 P) (hFH : s_FH ρ F) (hl : l.stackTraces = false) : ∀ d, s_CT l dC dI ρ base d mi (s_call F s_df s_comp P fuel d)
  | 0 => fun y as h out hc => by cases hc
  | d + 1 => by
    intro y as h out hc
    replace hc : (match s_at 16 P y with
      | none => none
      | some (cd, nL, hd) => if Nat.ble (s_wt as) nL then s_run F s_df s_comp (s_call F s_df s_comp P fuel d) cd hd fuel (0, s_ini nL as, [], h, 0, 0) else none) = some out := hc
    cases e : s_at 16 P y with
    | none => rw [e] at hc; cases hc
    | some x =>
      obtain ⟨cd, nL, hd⟩ := x
      rw [e] at hc
      replace hc : (if Nat.ble (s_wt as) nL then s_run F s_df s_comp (s_call F s_df s_comp P fuel d) cd hd fuel (0, s_ini nL as, [], h, 0, 0) else none) = some out := hc
      split at hc
      · rename_i hw
        obtain ⟨M, Wm, hM, hKw, rfl, hW, hok, hHd⟩ := s_okP_at hP e
        exact ⟨M, hM, hKw, s_met hKw hW hHd hok hFH hl (s_call_s hP hFH hl d) hw hc⟩
      · cases hc
end S22
