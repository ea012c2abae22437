/-! THE CALLS' INSTRUCTIONS, RETURNS, THROWS -/
theorem s_DS_split {ρ : Nat → Int32} {ad : List Nat} : ∀ {xs ys : List Term} {vs : List Value}, s_DS ρ ad (xs ++ ys) vs → ∃ v1 v2, vs = v1 ++ v2 ∧ s_DS ρ ad xs v1 ∧ s_DS ρ ad ys v2
  | [], ys, vs, h => ⟨[], vs, rfl, trivial, h⟩
  | x :: xs, ys, vs, h => by
    obtain ⟨v, vs', rfl, h1, h2⟩ := s_DS_c h
    obtain ⟨v1, v2, rfl, h3, h4⟩ := s_DS_split h2
    exact ⟨v :: v1, v2, rfl, ⟨h1, h3⟩, h4⟩
theorem s_DS_rev {ρ : Nat → Int32} {ad : List Nat} : ∀ {xs : List Term} {vs : List Value}, s_DS ρ ad xs vs → s_DS ρ ad xs.reverse vs.reverse
  | [], vs, h => by rw [s_DS_n h]; trivial
  | x :: xs, vs, h => by
    obtain ⟨v, vs', rfl, h1, h2⟩ := s_DS_c h
    rw [List.reverse_cons, List.reverse_cons]
    exact s_DS_app (s_DS_rev h2) ⟨h1, trivial⟩
theorem s_DS_args {ρ : Nat → Int32} {ad : List Nat} {as rest : List Term} {vs : List Value} (h : s_DS ρ ad (as.reverse ++ rest) vs) : ∃ a0 rv, vs = a0.reverse ++ rv ∧ s_DS ρ ad as a0 ∧ s_DS ρ ad rest rv := by
  obtain ⟨v1, v2, rfl, h1, h2⟩ := s_DS_split h
  have h3 := s_DS_rev h1
  rw [List.reverse_reverse] at h3
  exact ⟨v1.reverse, v2, by rw [List.reverse_reverse], h3, h2⟩
/-- the table of the handlers is the method's -/
noncomputable def s_chkH (M : s_M) (Wm : List Cond) : List s_Hd → List (Nat × Nat × Nat × Nat) → Bool
  | [], [] => true
  | (lo, hi, to, ex, slot) :: r, (lo', hi', h, ct) :: r' => decide (lo = lo' ∧ hi = hi' ∧ ex < 4 ∧ ct ≠ 0 ∧ Cond.classLink M.1.cls ct (s_exn ex) ∈ Wm ∧ slot < M.2.2.1) && (decide (decode M.2.1 h = .ok (.astore slot, 2) ∧ to = h + 2) || (match s_fin slot with
    | some f => decide (decode M.2.1 h = .ok (.astore_n f, 1) ∧ (f : Nat) = slot ∧ to = h + 1)
    | none => false)) && s_chkH M Wm r r'
  | _, _ => false
theorem s_hnd_s {M : s_M} {Wm : List Cond} {pc E to slot : Nat} : ∀ {hd : List s_Hd} {hh : List (Nat × Nat × Nat × Nat)}, s_chkH M Wm hd hh = true → s_hnd hd pc E = some (to, slot) → ∃ pre x suf, hh = pre ++ x :: suf ∧ x.1 ≤ pc ∧ pc < x.2.1 ∧ x.2.2.2 ≠ 0 ∧ Cond.classLink M.1.cls x.2.2.2 (s_exn E) ∈ Wm ∧ slot < M.2.2.1 ∧ ((decode M.2.1 x.2.2.1 = .ok (.astore slot, 2) ∧ to = x.2.2.1 + 2) ∨ ∃ f : Fin 4, decode M.2.1 x.2.2.1 = .ok (.astore_n f, 1) ∧ (f : Nat) = slot ∧ to = x.2.2.1 + 1) ∧ ∀ z ∈ pre, ¬ (z.1 ≤ pc ∧ pc < z.2.1) ∨ ∃ j, j < 4 ∧ j ≠ E ∧ z.2.2.2 ≠ 0 ∧ Cond.classLink M.1.cls z.2.2.2 (s_exn j) ∈ Wm
  | [], hh, hc, h => by simp [s_hnd] at h
  | (lo, hi, to', ex, slot') :: r, [], hc, h => by simp [s_chkH] at hc
  | (lo, hi, to', ex, slot') :: r, (lo', hi', h0, ct) :: r', hc, h => by
    simp only [s_chkH, Bool.and_eq_true, Bool.or_eq_true] at hc
    obtain ⟨⟨c1, c2⟩, c3⟩ := hc
    obtain ⟨rfl, rfl, c5, c6, c7, c8⟩ := of_decide_eq_true c1
    simp only [s_hnd] at h
    split at h
    · rename_i hq
      simp only [Bool.and_eq_true] at hq
      obtain ⟨⟨q1, q2⟩, q3⟩ := hq
      have e1 := Nat.eq_of_beq_eq_true q3
      subst e1
      cases h
      refine ⟨[], (lo, hi, h0, ct), r', rfl, Nat.le_of_ble_eq_true q1, Nat.lt_of_succ_le (Nat.le_of_ble_eq_true q2), c6, c7, c8, ?_, fun z hz => by cases hz⟩
      rcases c2 with c2 | c2
      · exact Or.inl (of_decide_eq_true c2)
      · split at c2
        · rename_i f hf
          exact Or.inr ⟨f, of_decide_eq_true c2⟩
        · cases c2
    · rename_i hq
      obtain ⟨pre, x, suf, h1, h2⟩ := s_hnd_s c3 h
      refine ⟨(lo, hi, h0, ct) :: pre, x, suf, by rw [h1]; rfl, h2.1, h2.2.1, h2.2.2.1, h2.2.2.2.1, h2.2.2.2.2.1, h2.2.2.2.2.2.1, fun z hz => ?_⟩
      rcases List.mem_cons.mp hz with rfl | hz
      · by_cases hcov : lo ≤ pc ∧ pc < hi
        · refine Or.inr ⟨ex, c5, fun q => hq ?_, c6, c7⟩
          subst q
          simp only [Bool.and_eq_true]
          exact ⟨⟨Nat.ble_eq_true_of_le hcov.1, Nat.ble_eq_true_of_le hcov.2⟩, Nat.beq_refl _⟩
        · exact Or.inl hcov
      · exact h2.2.2.2.2.2.2 z hz
section S18
variable {p : Program} {l : Launch} {e : Env} {R : Room} {s : State} {m : MethodId} {args : Array Value} {below : List Frame} {meth : Method} {c : Code} {Q : State → Prop} {M : s_M} {mi : Nat → Option s_M} {Wm : List Cond} {dC : Nat → ClassId} {dI : Nat → Nat → Nat} {ρ : Nat → Int32} {base nL d : Nat} {ad ad0 : List Nat} {F : s_F} {df : Nat → List Term} {comp : Nat → Nat} {call : Nat → List Term → s_H → Option s_O} {hd : List s_Hd} {pc pc' : Nat} {L L' st st' : List Term} {h h' : s_H} {kc ks kc' ks' : Nat} {H : Heap} {ls : Array Slot} {vs : List Value} {locs : List Loc} {o nx a b c' : Nat} {as rest : List Term} {out outf : s_O}
/-- what the machine does behind a call -/
noncomputable def s_aft (hd : List s_Hd) (pc nx : Nat) (ls r : List Term) (kc ks : Nat) (x : Option s_O) : s_R := match x with
  | some (.inl v, h', k, n) => s_fN (kc + k) (fun kc' => s_fN (ks + n) (fun ks' => some (.inl (nx, ls, v.toList ++ r, h', kc', ks'))))
  | some (.inr E, h', k, n) => match s_hnd hd pc E with
    | none => match hd with
      | [] => some (.inr (.inr E, h', kc + k, ks + n))
      | _ => none
    | some (to, slot) => s_stK .result ls slot (fun l => some (.inl (to, l, [], h', kc + k, ks + n)))
  | none => none
theorem s_k_aft {rv : List Value} {ao : Array Value} (C : s_Cx p s m args meth c M) (hW : ∀ w ∈ Wm, w ∈ s_gd) (hH : s_chkH M Wm hd M.2.2.2.2 = true) (hK : s_KK dC dI base s s.heap) (hL : s_LR ρ ad nL L ls) (hDr : s_DS ρ ad rest rv) (hF : s_FR base s H locs) (hbase : base ≤ s.heap.size) (hnl : nL = M.2.2.1)
    (hr : vx_Run p l e R s m args below meth c H locs kc ks out.2.2.1 out.2.2.2 (F0 m pc ls vs) rv (s_Qc dC dI ρ base ad out ao) (s_XC dC dI ρ base ad out) (fun q => base ≤ q))
    (he : s_aft hd pc (pc + 3) L rest kc ks (some out) = some (.inl (pc', L', st', h', kc', ks')))
    (kk : s_Kk p l e R s m args below meth c Q dC dI ρ base nL ad pc' L' st' h' kc' ks') : W p l e R s m args below meth c H locs kc ks Q (F0 m pc ls vs) := by
  obtain ⟨o1, h1, k1, n1⟩ := out
  cases o1 with
  | inl v =>
    simp only [s_aft, s_fN_e] at he
    cases he
    exact s_back hL hDr hF hbase rfl hr kk
  | inr E =>
    simp only [s_aft] at he
    split at he
    · split at he <;> cases he
    · rename_i to slot hh
      obtain ⟨L1, e1, e2, e3, e4, e5⟩ := s_stK_s he
      cases e1
      obtain ⟨hx, hb, hml, hrt, hlk, hown, hnm, hts, htb⟩ := C
      obtain ⟨pre, x, suf, g1, g2, g3, g4, g5, g6, g7, g8⟩ := s_hnd_s hH hh
      refine s_thrown hF rfl hr fun y H1 locs1 q ce q1 q2 q3 q4 q5 q6 => ?_
      let f : Nat × Nat × Nat × Nat → ExceptionTableEntry := fun q => ⟨q.1, q.2.1, q.2.2.1, q.2.2.2⟩
      refine vx_catch hown (pre.map f) (f x) (suf.map f) (by rw [htb, g1]; simp [tableOf, f]) (fun z hz => ?_) ?_ g4 (hts _ (hW _ g5)) ?_ q4 q5 q6 ?_
      · obtain ⟨z0, hz0, rfl⟩ := List.mem_map.mp hz
        rcases g8 z0 hz0 with w | ⟨j, w1, w2, w3, w4⟩
        · refine Or.inl ?_
          simp only [covers, f, Bool.and_eq_false_iff, decide_eq_false_iff_not]
          by_cases w5 : z0.1 ≤ pc
          · exact Or.inr (fun w6 => w ⟨w5, w6⟩)
          · exact Or.inl w5
        · exact Or.inr ⟨w3, _, hts _ (hW _ w4), hK.2.1 E j q3 w1 (fun z => w2 z.symm)⟩
      · simp only [covers, f, Bool.and_eq_true, decide_eq_true_eq]
        exact ⟨g2, g3⟩
      · have hbw : Cond.castable (s_exn E) (s_exn E) ∈ s_bw := by
          rcases (by omega : E = 0 ∨ E = 1 ∨ E = 2 ∨ E = 3) with rfl | rfl | rfl | rfl <;> decide +kernel
        exact s_bw_any hbw (hK.2.2.2.2 _ hbw)
      · rcases g7 with ⟨w1, w2⟩ | ⟨f4, w1, w2, w3⟩
        · subst w2
          exact lv_astore hx hb w1 (s_LR_has hL) (by rw [hnl]; exact g6) rfl (fun ls' hl' => kk (ad ++ y) H1 ls' _ locs1 ⟨y, rfl⟩ ⟨s_LR_mono y (s_LR_st hL e2 e4 (Or.inl rfl) e5 hl'), trivial, q1, q2⟩)
        · subst w3
          exact lv_astore_n hx hb w1 w2 (s_LR_has hL) (by rw [hnl]; exact g6) rfl (fun ls' hl' => kk (ad ++ y) H1 ls' _ locs1 ⟨y, rfl⟩ ⟨s_LR_mono y (s_LR_st hL e2 e4 (Or.inl rfl) e5 hl'), trivial, q1, q2⟩)
/-- the method's own end, by what a callee threw -/
theorem s_e_aft {rv : List Value} {ao : Array Value} {x0 : List Nat} (C : s_Cx p s m args meth c M) (hH : s_chkH M Wm hd M.2.2.2.2 = true) (had : ad = ad0 ++ x0) (hF : s_FR base s H locs)
    (hr : vx_Run p l e R s m args below meth c H locs kc ks out.2.2.1 out.2.2.2 (F0 m pc ls vs) rv (s_Qc dC dI ρ base ad out ao) (s_XC dC dI ρ base ad out) (fun q => base ≤ q))
    (he : s_aft hd pc (pc + 3) L rest kc ks (some out) = some (.inr outf)) : W p l e R s m args below meth c H locs kc ks (vx_MQ below (s_Qc dC dI ρ base ad0 outf) (s_XC dC dI ρ base ad0 outf) args s outf.2.2.1 outf.2.2.2 (fun q => base ≤ q)) (F0 m pc ls vs) := by
  obtain ⟨o1, h1, k1, n1⟩ := out
  cases o1 with
  | inl v =>
    simp only [s_aft, s_fN_e] at he
    cases he
  | inr E =>
    simp only [s_aft] at he
    split at he
    · split at he
      · cases he
        obtain ⟨hx, hb, hml, hrt, hlk, hown, hnm, hts, htb⟩ := C
        have hh0 : M.2.2.2.2 = [] := by
          cases hq : M.2.2.2.2 with
          | nil => rfl
          | cons z zs => rw [hq] at hH; simp [s_chkH] at hH
        refine s_thrown hF rfl hr fun y H1 locs1 q ce q1 q2 q3 q4 q5 q6 => ?_
        refine vx_out (E := s_exn E) (fun z hz => ?_) hlk q4 q5 q6 (fun t ht hal => ⟨E, q3, rfl, rfl, x0 ++ y, ?_, ?_⟩) q2.2.2 (Nat.le_refl _) (Nat.le_refl _)
        · rw [htb, hh0] at hz; cases hz
        · rw [ht, ← List.append_assoc, ← had]; exact s_HR_moved hal q1
        · exact ⟨by rw [ht]; exact q2.1, fun z hz => by rw [ht]; exact q2.2.1 z hz⟩
      · cases he
    · rename_i to slot hh
      obtain ⟨L1, e1, -⟩ := s_stK_s he
      cases e1
theorem s_wb (hDr : s_DS ρ ad rest vs) (h : Nat.ble (s_wt rest) 8 = true) {w : List Value} {pc9 : Nat} {ls9 : Array Slot} : 2 * (F0 m pc9 ls9 w).monitorRoom + (vs.map fun v => v.category).sum ≤ 8 := by
  have := s_wt_s hDr
  have h := Nat.le_of_ble_eq_true h
  show 2 * 0 + _ ≤ 8
  omega
/-- a static call's run -/
theorem s_runS {n : Nat} {N : s_M} {a0 rv : List Value} (C : s_Cx p s m args meth c M) (hW : ∀ w ∈ Wm, w ∈ s_gd) (hK : s_KK dC dI base s s.heap) (hbase : base ≤ s.heap.size) (hnl : nL = c.maxLocals) (hL : s_LR ρ ad nL L ls) (hDa : s_DS ρ ad as a0) (hDr : s_DS ρ ad rest rv) (hH : s_HR s dC dI ρ ad base h H) (hF : s_FR base s H locs) (hKw : s_Kw N) (hM : s_Met l dC dI ρ base d N as h out) (hRf : 7 + d ≤ R.frames) (hRl : 170 + 70 * d ≤ R.locals) (hRc : kc + out.2.2.1 ≤ R.cells) (hRs : ks + out.2.2.2 ≤ R.slots)
    (hdg : decode M.2.1 pc = .ok (.invokestatic n, 3)) (hnp : s_np N.1.desc = some as.length) (hw1 : Cond.methodLink M.1.cls n N.1 ∈ Wm) (hw2 : Cond.static N.1 ∈ Wm) (hwt : Nat.ble (s_wt rest) 8 = true) : vx_Run p l e R s m args below meth c H locs kc ks out.2.2.1 out.2.2.2 (F0 m pc ls (a0.reverse ++ rv)) rv (s_Qc dC dI ρ base ad out a0.toArray) (s_XC dC dI ρ base ad out) (fun q => base ≤ q) := by
  obtain ⟨hx, hb, hml, hrt, hlk, hown, hnm, hts, htb⟩ := C
  have hpre := s_pre hDa hH hF hbase hK
  have hlen : as.length = a0.length := s_DS_len hDa
  have hg : goodWord (s_cw N) = true := by unfold s_cw; split <;> rfl
  have hcw := hts _ (s_gdof hKw.1 hg)
  have hini := hts _ (s_gdof hKw.2.1 rfl)
  have hmx := hKw.2.2.2.2
  have hfr : (s_rm d out).frames + 1 ≤ R.frames := by show 6 + d + 1 ≤ _; omega
  have hlo : 8 + (N.2.2.1 + 11) + (s_rm d out).locals ≤ R.locals := by show 8 + (N.2.2.1 + 11) + (100 + 70 * d) ≤ _; omega
  by_cases hh : N.2.2.2.2 = []
  · have hcc := s_cw_c hh
    refine vx_runS (As := a0) (rest := rv) ⟨hx, hb, rfl, hown, hts⟩ (hM ad) (ret := N.2.2.2.1) (bytes := N.2.1) (maxL := N.2.2.1) (n := as.length) ⟨⟨rfl, rfl, hfr, hlo, s_wsgood hts hKw.1, by rw [← hcc]; exact List.mem_cons_self, by rw [← hcc]; exact hcw, hini, hKw.2.2.2.1, s_np_s hnp, hts _ (hW _ hw1)⟩, hts _ (hW _ hw2)⟩ hpre rfl hlen.symm (hL.1.trans hnl) rfl (s_wb hDr hwt) hdg ⟨hRc, hRs⟩
  · have hcc := s_cw_h hh
    refine vx_runSX (As := a0) (rest := rv) ⟨hx, hb, rfl, hown, hts⟩ (hM ad) (hh := N.2.2.2.2) (ret := N.2.2.2.1) (bytes := N.2.1) (maxL := N.2.2.1) (n := as.length) ⟨⟨rfl, rfl, hfr, hlo, s_wsgood hts hKw.1, by rw [← hcc]; exact List.mem_cons_self⟩, by rw [← hcc]; exact hcw, hini, hKw.2.2.2.1, s_np_s hnp, hts _ (hW _ hw1), hts _ (hW _ hw2)⟩ hpre rfl hlen.symm (hL.1.trans hnl) rfl (s_wb hDr hwt) hdg ⟨hRc, hRs⟩
/-- an instance call's -/
theorem s_runV {n ci o1 : Nat} {N : s_M} {r : vw_C} {a0 rv : List Value} (C : s_Cx p s m args meth c M) (hW : ∀ w ∈ Wm, w ∈ s_gd) (hK : s_KK dC dI base s s.heap) (hbase : base ≤ s.heap.size) (hnl : nL = c.maxLocals) (hL : s_LR ρ ad nL L ls) (hDa : s_DS ρ ad as (.ref o1 :: a0)) (hDr : s_DS ρ ad rest rv) (hH : s_HR s dC dI ρ ad base h H) (hF : s_FR base s H locs) (hKw : s_Kw N) (hM : s_Met l dC dI ρ base d N as h out) (hRf : 7 + d ≤ R.frames) (hRl : 170 + 70 * d ≤ R.locals) (hRc : kc + out.2.2.1 ≤ R.cells) (hRs : ks + out.2.2.2 ≤ R.slots) (hhh : N.2.2.2.2 = [])
    (hcell : ∃ cellB : Cell, H[o1]? = some cellB ∧ cellB.vm.isStatics = false ∧ s.vm.findClass r.1 = some cellB.cls) (hdg : decode M.2.1 pc = .ok (.invokevirtual n, 3)) (hnp : s_np N.1.desc = some a0.length) (hw1 : Cond.methodLink M.1.cls n N.1 ∈ Wm) (hw2 : Cond.instanceMethod N.1 ∈ Wm) (hw3 : Cond.selects r.1 N.1 N.1 ∈ Wm) (hwt : Nat.ble (s_wt rest) 8 = true) : vx_Run p l e R s m args below meth c H locs kc ks out.2.2.1 out.2.2.2 (F0 m pc ls ((Value.ref o1 :: a0).reverse ++ rv)) rv (s_Qc dC dI ρ base ad out (Value.ref o1 :: a0).toArray) (s_XC dC dI ρ base ad out) (fun q => base ≤ q) := by
  obtain ⟨hx, hb, hml, hrt, hlk, hown, hnm, hts, htb⟩ := C
  have hpre := s_pre hDa hH hF hbase hK
  have hg : goodWord (s_cw N) = true := by unfold s_cw; split <;> rfl
  have hcw := hts _ (s_gdof hKw.1 hg)
  have hini := hts _ (s_gdof hKw.2.1 rfl)
  have hmx := hKw.2.2.2.2
  have hfr : (s_rm d out).frames + 1 ≤ R.frames := by show 6 + d + 1 ≤ _; omega
  have hlo : 8 + (N.2.2.1 + 11) + (s_rm d out).locals ≤ R.locals := by show 8 + (N.2.2.1 + 11) + (100 + 70 * d) ≤ _; omega
  have hcc := s_cw_c hhh
  exact vx_runV (As := a0) (rest := rv) (b := o1) (C := r.1) ⟨hx, hb, rfl, hown, hts⟩ (hM ad) (ret := N.2.2.2.1) (bytes := N.2.1) (maxL := N.2.2.1) (n := a0.length) ⟨⟨rfl, rfl, hfr, hlo, s_wsgood hts hKw.1, by rw [← hcc]; exact List.mem_cons_self, by rw [← hcc]; exact hcw, hini, hKw.2.2.2.1, s_np_s hnp, hts _ (hW _ hw1)⟩, hts _ (hW _ hw2), hts _ (hW _ hw3)⟩ ⟨hpre.1, hcell, hpre.2⟩ rfl rfl (hL.1.trans hnl) (by simp) (s_wb hDr hwt) hdg ⟨hRc, hRs⟩
/-- a constructor's -/
theorem s_runI {n o1 : Nat} {N : s_M} {a0 rv : List Value} (C : s_Cx p s m args meth c M) (hW : ∀ w ∈ Wm, w ∈ s_gd) (hK : s_KK dC dI base s s.heap) (hbase : base ≤ s.heap.size) (hnl : nL = c.maxLocals) (hL : s_LR ρ ad nL L ls) (hDa : s_DS ρ ad as (.ref o1 :: a0)) (hDr : s_DS ρ ad rest rv) (hH : s_HR s dC dI ρ ad base h H) (hF : s_FR base s H locs) (hKw : s_Kw N) (hM : s_Met l dC dI ρ base d N as h out) (hRf : 7 + d ≤ R.frames) (hRl : 170 + 70 * d ≤ R.locals) (hRc : kc + out.2.2.1 ≤ R.cells) (hRs : ks + out.2.2.2 ≤ R.slots) (hhh : N.2.2.2.2 = []) (hname : N.1.name = "<init>") (hret : N.2.2.2.1 = none)
    (hdg : decode M.2.1 pc = .ok (.invokespecial n, 3)) (hnp : s_np N.1.desc = some a0.length) (hw1 : Cond.methodLink M.1.cls n N.1 ∈ Wm ∨ Cond.methodLinkNest M.1.cls n N.1 "FormulaWorks" ∈ Wm) (hw2 : Cond.instanceMethod N.1 ∈ Wm) (hwt : Nat.ble (s_wt rest) 8 = true) : vx_Run p l e R s m args below meth c H locs kc ks out.2.2.1 out.2.2.2 (F0 m pc ls ((Value.ref o1 :: a0).reverse ++ rv)) rv (s_Qc dC dI ρ base ad out (Value.ref o1 :: a0).toArray) (s_XC dC dI ρ base ad out) (fun q => base ≤ q) := by
  obtain ⟨hx, hb, hml, hrt, hlk, hown, hnm, hts, htb⟩ := C
  have hpre := s_pre hDa hH hF hbase hK
  have hg : goodWord (s_cw N) = true := by unfold s_cw; split <;> rfl
  have hcw := hts _ (s_gdof hKw.1 hg)
  have hini := hts _ (s_gdof hKw.2.1 rfl)
  have hmx := hKw.2.2.2.2
  have hfr : (s_rm d out).frames + 1 ≤ R.frames := by show 6 + d + 1 ≤ _; omega
  have hlo : 8 + (N.2.2.1 + 11) + (s_rm d out).locals ≤ R.locals := by show 8 + (N.2.2.1 + 11) + (100 + 70 * d) ≤ _; omega
  have hcc := s_cw_c hhh
  rw [hret] at hcc
  rcases hw1 with hw1 | hw1
  · exact vx_runI (As := a0) (rest := rv) (b := o1) ⟨hx, hb, rfl, hown, hts⟩ (hM ad) (bytes := N.2.1) (maxL := N.2.2.1) (n := a0.length) ⟨⟨rfl, rfl, hfr, hlo, s_wsgood hts hKw.1, by rw [← hcc]; exact List.mem_cons_self, by rw [← hcc]; exact hcw, hini, hKw.2.2.2.1, s_np_s hnp, hts _ (hW _ hw1)⟩, hname, hts _ (hW _ hw2)⟩ hpre rfl rfl (hL.1.trans hnl) (by simp) (s_wb hDr hwt) hdg ⟨hRc, hRs⟩
  · exact vx_runIN (As := a0) (rest := rv) (b := o1) ⟨hx, hb, rfl, hown, hts⟩ (hM ad) (host := "FormulaWorks") (bytes := N.2.1) (maxL := N.2.2.1) (n := a0.length) ⟨⟨⟨rfl, rfl, hfr, hlo, s_wsgood hts hKw.1, by rw [← hcc]; exact List.mem_cons_self⟩, by rw [← hcc]; exact hcw, hini, hKw.2.2.2.1, s_np_s hnp, hts _ (hW _ hw1)⟩, hname, hts _ (hW _ hw2)⟩ hpre rfl rfl (hL.1.trans hnl) (by simp) (s_wb hDr hwt) hdg ⟨hRc, hRs⟩
end S18
