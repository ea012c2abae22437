/-! WHAT A METHOD COMES TO, told for any values: the machine's runs by what holds behind them -/
def ws_go (P : s_P) (d : Nat) (cd : s_Cd) (hd : List s_Hd) (σ : s_S) (out : s_O) : Prop := ∃ N, ∀ fu n, N ≤ fu → N ≤ n → s_run [] s_df s_comp (s_call [] s_df s_comp P fu d) cd hd n σ = some out
def ws_ev (P : s_P) (d y : Nat) (as : List Term) (h : s_H) (out : s_O) : Prop := ∃ N, ∀ fu, N ≤ fu → s_call [] s_df s_comp P fu d y as h = some out
def wr (P : s_P) (d : Nat) (cd : s_Cd) (hd : List s_Hd) (σ : s_S) (Q : s_O → Prop) : Prop := ∃ out, ws_go P d cd hd σ out ∧ Q out
def wm (P : s_P) (d y : Nat) (as : List Term) (h : s_H) (Q : s_O → Prop) : Prop := ∃ out, ws_ev P d y as h out ∧ Q out
section S70
variable {P : s_P} {d : Nat} {cd : s_Cd} {hd : List s_Hd} {Q : s_O → Prop} {pc pc' nx a b c kc ks kc' ks' : Nat} {i : Instr} {ls ls' st st' : List Term} {h h' : s_H} {x y z : Int} {o q q' n j : Nat} {v w t : Term} {l ts fs as rest : List Term} {li : List Int} {ls'' : List Term}
theorem wr_mono {Q' : s_O → Prop} {σ : s_S} (hq : ∀ out, Q' out → Q out) (k : wr P d cd hd σ Q') : wr P d cd hd σ Q := by
  obtain ⟨out, h1, h2⟩ := k
  exact ⟨out, h1, hq _ h2⟩
theorem wm_mono {Q' : s_O → Prop} {y : Nat} (hq : ∀ out, Q' out → Q out) (k : wm P d y as h Q') : wm P d y as h Q := by
  obtain ⟨out, h1, h2⟩ := k
  exact ⟨out, h1, hq _ h2⟩
theorem ws_run1 {e : s_I} {call : Nat → List Term → s_H → Option s_O} (he : s_at 32 cd pc = some e) (hx : s_exec [] s_df s_comp call hd pc e ls st h kc ks = some (.inl (pc', ls', st', h', kc', ks'))) (h1 : kc ≤ kc') (h2 : ks ≤ ks') : s_run [] s_df s_comp call cd hd (n + 1) (pc, ls, st, h, kc, ks) = s_run [] s_df s_comp call cd hd n (pc', ls', st', h', kc', ks') := by
  show (match s_at 32 cd pc with
    | none => none
    | some e => match s_exec [] s_df s_comp call hd pc e ls st h kc ks with
      | none => none
      | some (.inl (pc', ls', st', h', kc', ks')) => match Nat.ble kc kc' && Nat.ble ks ks' with
        | true => s_run [] s_df s_comp call cd hd n (pc', ls', st', h', kc', ks')
        | false => none
      | some (.inr (o, h', kc', ks')) => match Nat.ble 68 e.1 && Nat.ble kc kc' && Nat.ble ks ks' with
        | true => some (o, h', kc', ks')
        | false => none) = _
  rw [he]
  show (match s_exec [] s_df s_comp call hd pc e ls st h kc ks with
      | none => none
      | some (.inl (pc', ls', st', h', kc', ks')) => match Nat.ble kc kc' && Nat.ble ks ks' with
        | true => s_run [] s_df s_comp call cd hd n (pc', ls', st', h', kc', ks')
        | false => none
      | some (.inr (o, h', kc', ks')) => match Nat.ble 68 e.1 && Nat.ble kc kc' && Nat.ble ks ks' with
        | true => some (o, h', kc', ks')
        | false => none) = _
  rw [hx]
  show (match Nat.ble kc kc' && Nat.ble ks ks' with
        | true => s_run [] s_df s_comp call cd hd n (pc', ls', st', h', kc', ks')
        | false => none) = _
  rw [Nat.ble_eq_true_of_le h1, Nat.ble_eq_true_of_le h2]
  rfl
theorem ws_end1 {e : s_I} {out : s_O} {call : Nat → List Term → s_H → Option s_O} (he : s_at 32 cd pc = some e) (h68 : Nat.ble 68 e.1 = true) (hx : s_exec [] s_df s_comp call hd pc e ls st h kc ks = some (.inr out)) (h1 : kc ≤ out.2.2.1) (h2 : ks ≤ out.2.2.2) : s_run [] s_df s_comp call cd hd (n + 1) (pc, ls, st, h, kc, ks) = some out := by
  show (match s_at 32 cd pc with
    | none => none
    | some e => match s_exec [] s_df s_comp call hd pc e ls st h kc ks with
      | none => none
      | some (.inl (pc', ls', st', h', kc', ks')) => match Nat.ble kc kc' && Nat.ble ks ks' with
        | true => s_run [] s_df s_comp call cd hd n (pc', ls', st', h', kc', ks')
        | false => none
      | some (.inr (o, h', kc', ks')) => match Nat.ble 68 e.1 && Nat.ble kc kc' && Nat.ble ks ks' with
        | true => some (o, h', kc', ks')
        | false => none) = _
  rw [he]
  show (match s_exec [] s_df s_comp call hd pc e ls st h kc ks with
      | none => none
      | some (.inl (pc', ls', st', h', kc', ks')) => match Nat.ble kc kc' && Nat.ble ks ks' with
        | true => s_run [] s_df s_comp call cd hd n (pc', ls', st', h', kc', ks')
        | false => none
      | some (.inr (o, h', kc', ks')) => match Nat.ble 68 e.1 && Nat.ble kc kc' && Nat.ble ks ks' with
        | true => some (o, h', kc', ks')
        | false => none) = _
  rw [hx]
  obtain ⟨o1, o2, o3, o4⟩ := out
  show (match Nat.ble 68 e.1 && Nat.ble kc o3 && Nat.ble ks o4 with
        | true => some (o1, o2, o3, o4)
        | false => none) = _
  rw [h68, Nat.ble_eq_true_of_le h1, Nat.ble_eq_true_of_le h2]
  rfl
/-- a step that asks for no call -/
theorem w_step {e : s_I} (he : s_at 32 cd pc = some e) (hx : ∀ call, s_exec [] s_df s_comp call hd pc e ls st h kc ks = some (.inl (pc', ls', st', h', kc', ks'))) (h1 : kc ≤ kc') (h2 : ks ≤ ks') (k : wr P d cd hd (pc', ls', st', h', kc', ks') Q) : wr P d cd hd (pc, ls, st, h, kc, ks) Q := by
  obtain ⟨out, ⟨N, hN⟩, hQ⟩ := k
  refine ⟨out, ⟨N + 1, fun fu n hf hn => ?_⟩, hQ⟩
  obtain ⟨m, rfl⟩ : ∃ m, n = m + 1 := ⟨n - 1, by omega⟩
  rw [ws_run1 he (hx _) h1 h2]
  exact hN fu m (by omega) (by omega)
theorem w_stepH {e : s_I} {f : s_Hn} (he : s_at 32 cd pc = some e) (hf : s_at 8 s_hn e.1 = some f) (hx : ∀ call, f [] s_df s_comp call hd pc e ls st h kc ks = some (.inl (pc', ls', st', h', kc', ks'))) (h1 : kc ≤ kc') (h2 : ks ≤ ks') (k : wr P d cd hd (pc', ls', st', h', kc', ks') Q) : wr P d cd hd (pc, ls, st, h, kc, ks) Q := w_step he (fun call => by rw [s_exec_at hf]; exact hx call) h1 h2 k
theorem w_end {e : s_I} {out : s_O} (he : s_at 32 cd pc = some e) (h68 : Nat.ble 68 e.1 = true) (hx : ∀ call, s_exec [] s_df s_comp call hd pc e ls st h kc ks = some (.inr out)) (h1 : kc ≤ out.2.2.1) (h2 : ks ≤ out.2.2.2) (k : Q out) : wr P d cd hd (pc, ls, st, h, kc, ks) Q := by
  refine ⟨out, ⟨1, fun fu n hf hn => ?_⟩, k⟩
  obtain ⟨m, rfl⟩ : ∃ m, n = m + 1 := ⟨n - 1, by omega⟩
  exact ws_end1 he h68 (hx _) h1 h2
theorem w_endH {e : s_I} {f : s_Hn} {out : s_O} (he : s_at 32 cd pc = some e) (hf : s_at 8 s_hn e.1 = some f) (h68 : Nat.ble 68 e.1 = true) (hx : ∀ call, f [] s_df s_comp call hd pc e ls st h kc ks = some (.inr out)) (h1 : kc ≤ out.2.2.1) (h2 : ks ≤ out.2.2.2) (k : Q out) : wr P d cd hd (pc, ls, st, h, kc, ks) Q := w_end he h68 (fun call => by rw [s_exec_at hf]; exact hx call) h1 h2 k
/-- a method out of its body -/
theorem wm_in {y nL : Nat} (hp : s_at 16 P y = some (cd, nL, hd)) (hw : Nat.ble (s_wt as) nL = true) (k : wr P d cd hd (0, s_ini nL as, [], h, 0, 0) Q) : wm P (d + 1) y as h Q := by
  obtain ⟨out, ⟨N, hN⟩, hQ⟩ := k
  refine ⟨out, ⟨N, fun fu hf => ?_⟩, hQ⟩
  show (match s_at 16 P y with
    | none => none
    | some (cd, nL, hd) => if Nat.ble (s_wt as) nL then s_run [] s_df s_comp (s_call [] s_df s_comp P fu d) cd hd fu (0, s_ini nL as, [], h, 0, 0) else none) = some out
  rw [hp]
  show (if Nat.ble (s_wt as) nL then s_run [] s_df s_comp (s_call [] s_df s_comp P fu d) cd hd fu (0, s_ini nL as, [], h, 0, 0) else none) = some out
  rw [if_pos hw]
  exact hN fu fu hf hf
theorem s_stK_b {β : Type} : ∀ (l : List Term) (i : Nat) (k : List Term → Option β), s_stK v l i k = (s_stK v l i some).bind k
  | [], i, k => rfl
  | x :: xs, 0, k => rfl
  | x :: xs, n + 1, k => by
    have e' : ∀ {γ : Type} (f : List Term → Option γ), s_stK v (x :: xs) (n + 1) f = (match Nat.beq n 0 && Nat.beq (s_ty x) 2 with
      | true => s_stK v xs n (fun ys => f (.result :: ys))
      | false => s_stK v xs n (fun ys => f (x :: ys))) := fun f => rfl
    rw [e', e']
    cases (Nat.beq n 0 && Nat.beq (s_ty x) 2) with
    | true =>
      show s_stK v xs n (fun ys => k (.result :: ys)) = (s_stK v xs n (fun ys => some (.result :: ys))).bind k
      rw [s_stK_b xs n (fun ys => k (.result :: ys)), s_stK_b xs n (fun ys => some (.result :: ys)), Option.bind_assoc]
      rfl
    | false =>
      show s_stK v xs n (fun ys => k (x :: ys)) = (s_stK v xs n (fun ys => some (x :: ys))).bind k
      rw [s_stK_b xs n (fun ys => k (x :: ys)), s_stK_b xs n (fun ys => some (x :: ys)), Option.bind_assoc]
      rfl
theorem s_stK_k {β : Type} {l l' : List Term} {i : Nat} (e : s_stK v l i some = some l') (k : List Term → Option β) : s_stK v l i k = k l' := by
  rw [s_stK_b, e]
  rfl
/-! the heap -/
theorem s_setK_e {α β : Type} {cc : α} : ∀ {l : List α} {i : Nat} (k : List α → Option β), i < l.length → s_setK cc l i k = k (l.set i cc)
  | [], i, k, h => absurd h (Nat.not_lt_zero i)
  | x :: xs, 0, k, h => rfl
  | x :: xs, n + 1, k, h => by
    have h' : s_setK cc (x :: xs) (n + 1) k = s_setK cc xs n (fun ys => k (x :: ys)) := rfl
    rw [h', s_setK_e _ (by simpa using h)]
    rfl
def hp (h : s_H) (k : Nat) (cc : s_C) : s_H := (h.1, h.2.set (k / 144) ((h.2.getD (k / 144) []).set (k / 12 % 12) (((h.2.getD (k / 144) []).getD (k / 12 % 12) []).set (k % 12) cc)))
theorem s_get_i {k : Nat} {c0 : s_C} (hk : s_get h k = some c0) : ∃ r1 r2, h.2[k / 144]? = some r1 ∧ r1[k / 12 % 12]? = some r2 ∧ r2[k % 12]? = some c0 := by
  unfold s_get at hk
  cases e1 : s_nth h.2 (k / 144) with
  | none => rw [e1] at hk; cases hk
  | some r1 =>
    rw [e1] at hk
    replace hk : (match s_nth r1 (k / 12 % 12) with
      | none => none
      | some r2 => s_nth r2 (k % 12)) = some c0 := hk
    cases e2 : s_nth r1 (k / 12 % 12) with
    | none => rw [e2] at hk; cases hk
    | some r2 =>
      rw [e2] at hk
      replace hk : s_nth r2 (k % 12) = some c0 := hk
      rw [s_nth_eq] at e1 e2 hk
      exact ⟨r1, r2, e1, e2, hk⟩
theorem hp_put {β : Type} {k : Nat} {c0 cc : s_C} (hk : s_get h k = some c0) (f : s_H → Option β) : s_put h k cc f = f (hp h k cc) := by
  obtain ⟨r1, r2, e1, e2, e3⟩ := s_get_i hk
  unfold s_put hp
  simp only [s_nth_eq, e1, e2, List.getD_eq_getElem?_getD, Option.getD_some]
  rw [s_setK_e _ (List.getElem?_eq_some_iff.mp e3).1, s_setK_e _ (List.getElem?_eq_some_iff.mp e2).1, s_setK_e _ (List.getElem?_eq_some_iff.mp e1).1]
theorem hp_get {k : Nat} {c0 cc : s_C} (hk : s_get h k = some c0) (j : Nat) : s_get (hp h k cc) j = if j = k then some cc else s_get h j := by
  have e : s_put h k cc some = some (hp h k cc) := hp_put hk some
  obtain ⟨h', g1, -, -, g4⟩ := s_put_s e
  cases g1
  exact g4 j
theorem hp_at {k : Nat} {c0 cc : s_C} (hk : s_get h k = some c0) : s_get (hp h k cc) k = some cc := by rw [hp_get hk, if_pos rfl]
theorem hp_ne {k j : Nat} {c0 cc : s_C} (hk : s_get h k = some c0) (hj : j ≠ k) : s_get (hp h k cc) j = s_get h j := by rw [hp_get hk, if_neg hj]
theorem hp_hp {k : Nat} {c0 c1 c2 : s_C} (hk : s_get h k = some c0) : hp (hp h k c1) k c2 = hp h k c2 := by
  obtain ⟨r1, r2, e1, e2, e3⟩ := s_get_i hk
  have l1 := (List.getElem?_eq_some_iff.mp e1).1
  have l2 := (List.getElem?_eq_some_iff.mp e2).1
  unfold hp
  simp only [List.getD_eq_getElem?_getD, e1, e2, Option.getD_some, List.getElem?_set_self l1, List.getElem?_set_self l2, List.set_set]
theorem hp_same {k : Nat} {c0 : s_C} (hk : s_get h k = some c0) : hp h k c0 = h := by
  obtain ⟨r1, r2, e1, e2, e3⟩ := s_get_i hk
  have set_same : ∀ {α : Type} {l : List α} {n : Nat} {x : α}, l[n]? = some x → l.set n x = l := fun {α l n x} e => by
    refine List.ext_getElem? (fun i => ?_)
    rw [List.getElem?_set]
    by_cases hi : n = i
    · subst hi
      rw [if_pos rfl, if_pos (List.getElem?_eq_some_iff.mp e).1, e]
    · rw [if_neg hi]
  unfold hp
  simp only [List.getD_eq_getElem?_getD, e1, e2, Option.getD_some]
  rw [set_same e3, set_same e2, set_same e1]
def hq (h : s_H) (cc : s_C) : s_H := (h.1 + 1, (hp h h.1 cc).2)
theorem hq_push {β : Type} {c0 cc : s_C} (hk : s_get h h.1 = some c0) (f : s_H → Option β) : s_push h cc f = f (hq h cc) := by
  unfold s_push
  rw [hp_put hk, s_fN_e]
  rfl
theorem hq_get {c0 cc : s_C} (hk : s_get h h.1 = some c0) (j : Nat) : s_get (hq h cc) j = if j = h.1 then some cc else s_get h j := hp_get hk j
/-! numbers -/
abbrev In3 (z : Int) : Prop := -2147483648 ≤ z ∧ z < 2147483648
abbrev In6 (z : Int) : Prop := -9223372036854775808 ≤ z ∧ z < 9223372036854775808
theorem vi_int (h : In3 x) : (Int32.ofInt x).toInt = x := Int32.toInt_ofInt_of_le h.1 h.2
theorem vl_int (h : In6 x) : (Int64.ofInt x).toInt = x := Int64.toInt_ofInt_of_le h.1 h.2
theorem vi_lt (hx : In3 x) (hy : In3 y) : Int32.ofInt x < Int32.ofInt y ↔ x < y := by rw [Int32.lt_iff_toInt_lt, vi_int hx, vi_int hy]
theorem vi_eq (hx : In3 x) (hy : In3 y) : Int32.ofInt x = Int32.ofInt y ↔ x = y := by rw [← Int32.toInt_inj, vi_int hx, vi_int hy]
theorem vl_lt (hx : In6 x) (hy : In6 y) : Int64.ofInt x < Int64.ofInt y ↔ x < y := by rw [Int64.lt_iff_toInt_lt, vl_int hx, vl_int hy]
theorem vl_eq (hx : In6 x) (hy : In6 y) : Int64.ofInt x = Int64.ofInt y ↔ x = y := by rw [← Int64.toInt_inj, vl_int hx, vl_int hy]
theorem vi_cl (hx : In3 x) (h0 : 0 ≤ x) : (Int32.ofInt x).toNatClampNeg = x.toNat := by
  show (Int32.ofInt x).toInt.toNat = x.toNat
  rw [vi_int hx]
theorem vi_64 (hx : In3 x) : (Int32.ofInt x).toInt64 = Int64.ofInt x := by
  apply Int64.toInt_inj.mp
  rw [Int32.toInt_toInt64, vi_int hx, vl_int (by constructor <;> omega)]
theorem vl_32 : (Int64.ofInt x).toInt32 = Int32.ofInt x := by
  apply Int32.toInt_inj.mp
  rw [Int64.toInt_toInt32, Int64.toInt_ofInt, Int32.toInt_ofInt]
  show (x.bmod 18446744073709551616).bmod 4294967296 = x.bmod 4294967296
  exact Int.bmod_bmod_of_dvd (by decide)
theorem vi_div (hx : In3 x) (hy : In3 y) : Int32.ofInt x / Int32.ofInt y = Int32.ofInt (x.tdiv y) := by
  rw [Int32.ofInt_tdiv (by show (-2147483648 : Int) ≤ x; omega) (by show x ≤ (2147483647 : Int); omega) (by show (-2147483648 : Int) ≤ y; omega) (by show y ≤ (2147483647 : Int); omega)]
theorem vl_div (hx : In6 x) (hy : In6 y) : Int64.ofInt x / Int64.ofInt y = Int64.ofInt (x.tdiv y) := by
  rw [Int64.ofInt_tdiv (by show (-9223372036854775808 : Int) ≤ x; omega) (by show x ≤ (9223372036854775807 : Int); omega) (by show (-9223372036854775808 : Int) ≤ y; omega) (by show y ≤ (9223372036854775807 : Int); omega)]
theorem vi_rem (hx : In3 x) (hy : In3 y) : Int32.ofInt x - Int32.ofInt x / Int32.ofInt y * Int32.ofInt y = Int32.ofInt (x.tmod y) := by
  rw [vi_div hx hy, ← Int32.ofInt_mul, ← Int32.ofInt_sub, Int.tmod_def, Int.mul_comm]
theorem vl_rem (hx : In6 x) (hy : In6 y) : Int64.ofInt x - Int64.ofInt x / Int64.ofInt y * Int64.ofInt y = Int64.ofInt (x.tmod y) := by
  rw [vl_div hx hy, ← Int64.ofInt_mul, ← Int64.ofInt_sub, Int.tmod_def, Int.mul_comm]
theorem s_ty3 (hv : s_ty v = 3) : v = .null ∨ ∃ q, v = .index q := by
  cases v with
  | null => exact Or.inl rfl
  | index q => exact Or.inr ⟨q, rfl⟩
  | op1 o a => cases o <;> simp [s_ty] at hv
  | op2 o a b => cases o <;> simp [s_ty] at hv
  | _ => simp [s_ty] at hv
/-! constants, locals, the stack -/
theorem w_c32 (he : s_at 32 cd pc = some (o, i, nx, a, b, c)) (ho : o = 1 ∨ o = 2 ∨ o = 3 ∨ o = 77 ∨ o = 78) (z : Int) (hz : Int32.ofNat a = Int32.ofInt z) (k : wr P d cd hd (nx, ls, vi z :: st, h, kc, ks) Q) : wr P d cd hd (pc, ls, st, h, kc, ks) Q := by
  have e : some (Sum.inl (nx, ls, Term.int (Int32.ofNat a) :: st, h, kc, ks) : s_S ⊕ s_O) = some (Sum.inl (nx, ls, vi z :: st, h, kc, ks)) := by rw [hz]
  rcases ho with rfl | rfl | rfl | rfl | rfl
  · exact w_stepH he s_at_iconst (fun call => e) (Nat.le_refl _) (Nat.le_refl _) k
  · exact w_stepH he s_at_bipush (fun call => e) (Nat.le_refl _) (Nat.le_refl _) k
  · exact w_stepH he s_at_sipush (fun call => e) (Nat.le_refl _) (Nat.le_refl _) k
  · exact w_stepH he s_at_ldc_w (fun call => e) (Nat.le_refl _) (Nat.le_refl _) k
  · exact w_stepH he s_at_ldc (fun call => e) (Nat.le_refl _) (Nat.le_refl _) k
theorem w_c64 (he : s_at 32 cd pc = some (o, i, nx, a, b, c)) (ho : o = 4 ∨ o = 5) (z : Int) (hz : Int64.ofNat a = Int64.ofInt z) (k : wr P d cd hd (nx, ls, vl z :: st, h, kc, ks) Q) : wr P d cd hd (pc, ls, st, h, kc, ks) Q := by
  have e : some (Sum.inl (nx, ls, Term.long (Int64.ofNat a) :: st, h, kc, ks) : s_S ⊕ s_O) = some (Sum.inl (nx, ls, vl z :: st, h, kc, ks)) := by rw [hz]
  rcases ho with rfl | rfl
  · exact w_stepH he s_at_lconst (fun call => e) (Nat.le_refl _) (Nat.le_refl _) k
  · exact w_stepH he s_at_ldc2_w (fun call => e) (Nat.le_refl _) (Nat.le_refl _) k
theorem w_null (he : s_at 32 cd pc = some (0, i, nx, a, b, c)) (k : wr P d cd hd (nx, ls, .null :: st, h, kc, ks) Q) : wr P d cd hd (pc, ls, st, h, kc, ks) Q := w_stepH he s_at_aconst_null (fun call => rfl) (Nat.le_refl _) (Nat.le_refl _) k
/-- a local is loaded -/
theorem w_ld (he : s_at 32 cd pc = some (o, i, nx, a, b, c)) (hv : s_nth ls a = some v) (ho : (o = 6 ∨ o = 7) ∧ s_ty v = 1 ∨ (o = 8 ∨ o = 9) ∧ s_ty v = 2 ∨ (o = 10 ∨ o = 11) ∧ s_ty v = 3) (k : wr P d cd hd (nx, ls, v :: st, h, kc, ks) Q) : wr P d cd hd (pc, ls, st, h, kc, ks) Q := by
  have key : ∀ ty, s_ty v = ty → s_ld ty ls a (fun v => some (Sum.inl (nx, ls, v :: st, h, kc, ks) : s_S ⊕ s_O)) = some (.inl (nx, ls, v :: st, h, kc, ks)) := fun ty hty => by
    unfold s_ld
    rw [hv]
    show (if Nat.beq (s_ty v) ty = true then _ else none) = _
    rw [hty, if_pos (Nat.beq_refl ty)]
  rcases ho with ⟨rfl | rfl, q⟩ | ⟨rfl | rfl, q⟩ | ⟨rfl | rfl, q⟩
  · exact w_stepH he s_at_iload (fun call => key 1 q) (Nat.le_refl _) (Nat.le_refl _) k
  · exact w_stepH he s_at_iload_n (fun call => key 1 q) (Nat.le_refl _) (Nat.le_refl _) k
  · exact w_stepH he s_at_lload (fun call => key 2 q) (Nat.le_refl _) (Nat.le_refl _) k
  · exact w_stepH he s_at_lload_n (fun call => key 2 q) (Nat.le_refl _) (Nat.le_refl _) k
  · exact w_stepH he s_at_aload (fun call => key 3 q) (Nat.le_refl _) (Nat.le_refl _) k
  · exact w_stepH he s_at_aload_n (fun call => key 3 q) (Nat.le_refl _) (Nat.le_refl _) k
/-- a value is stored; the new locals are told -/
theorem w_st (he : s_at 32 cd pc = some (o, i, nx, a, b, c)) (ho : (o = 12 ∨ o = 13) ∧ s_ty v = 1 ∨ (o = 16 ∨ o = 17) ∧ s_ty v = 3) (hl : s_stK v ls a some = some ls') (k : wr P d cd hd (nx, ls', st, h, kc, ks) Q) : wr P d cd hd (pc, ls, v :: st, h, kc, ks) Q := by
  have key : ∀ ty, s_ty v = ty → Nat.beq ty 2 = false → s_st ty ls a (v :: st) (fun l r => some (Sum.inl (nx, l, r, h, kc, ks) : s_S ⊕ s_O)) = some (.inl (nx, ls', st, h, kc, ks)) := fun ty hty h2 => by
    unfold s_st
    show (if Nat.beq (s_ty v) ty = true then _ else none) = _
    rw [hty, if_pos (Nat.beq_refl ty)]
    rw [s_stK_k hl]
    show (if Nat.beq ty 2 = true then _ else _) = _
    rw [h2]
    rfl
  rcases ho with ⟨rfl | rfl, q⟩ | ⟨rfl | rfl, q⟩
  · exact w_stepH he s_at_istore (fun call => key 1 q rfl) (Nat.le_refl _) (Nat.le_refl _) k
  · exact w_stepH he s_at_istore_n (fun call => key 1 q rfl) (Nat.le_refl _) (Nat.le_refl _) k
  · exact w_stepH he s_at_astore (fun call => key 3 q rfl) (Nat.le_refl _) (Nat.le_refl _) k
  · exact w_stepH he s_at_astore_n (fun call => key 3 q rfl) (Nat.le_refl _) (Nat.le_refl _) k
theorem w_stl (he : s_at 32 cd pc = some (o, i, nx, a, b, c)) (ho : (o = 14 ∨ o = 15) ∧ s_ty v = 2) (hl : s_stK v ls a some = some ls') (hl2 : s_setK .result ls' (a + 1) some = some ls'') (k : wr P d cd hd (nx, ls'', st, h, kc, ks) Q) : wr P d cd hd (pc, ls, v :: st, h, kc, ks) Q := by
  have key : s_st 2 ls a (v :: st) (fun l r => some (Sum.inl (nx, l, r, h, kc, ks) : s_S ⊕ s_O)) = some (.inl (nx, ls'', st, h, kc, ks)) := by
    unfold s_st
    show (if Nat.beq (s_ty v) 2 = true then _ else none) = _
    rw [ho.2, if_pos (Nat.beq_refl 2), s_stK_k hl]
    show s_setK .result ls' (a + 1) _ = _
    rw [s_setK_e _ (s_setK_s hl2).1]
    have := (s_setK_s hl2).2
    cases this
    rfl
  rcases ho with ⟨rfl | rfl, q⟩
  · exact w_stepH he s_at_lstore (fun call => key) (Nat.le_refl _) (Nat.le_refl _) k
  · exact w_stepH he s_at_lstore_n (fun call => key) (Nat.le_refl _) (Nat.le_refl _) k
/-- a slot of which nothing is known, ahead of one that is stored -/
def s_uu (t : Term) : Term := match Nat.beq (s_ty t) 2 with
  | true => .result
  | false => t
theorem s_stK_t : ∀ (pre : List Term) {t x v : Term} {xs : List Term}, s_stK v (pre ++ t :: x :: xs) (pre.length + 1) some = some (pre ++ s_uu t :: v :: xs)
  | [], t, x, v, xs => by
    show (match Nat.beq 0 0 && Nat.beq (s_ty t) 2 with
      | true => some (Term.result :: v :: xs)
      | false => some (t :: v :: xs)) = _
    unfold s_uu
    cases Nat.beq (s_ty t) 2 <;> rfl
  | p :: pre, t, x, v, xs => by
    show (match Nat.beq (pre.length + 1) 0 && Nat.beq (s_ty p) 2 with
      | true => s_stK v (pre ++ t :: x :: xs) (pre.length + 1) (fun ys => some (Term.result :: ys))
      | false => s_stK v (pre ++ t :: x :: xs) (pre.length + 1) (fun ys => some (p :: ys))) = _
    have : (Nat.beq (pre.length + 1) 0 && Nat.beq (s_ty p) 2) = false := rfl
    rw [this]
    show s_stK v (pre ++ t :: x :: xs) (pre.length + 1) (fun ys => some (p :: ys)) = _
    rw [s_stK_k (s_stK_t pre)]
    rfl
theorem s_stK_r : ∀ (pre : List Term) {t x v : Term} {xs : List Term}, s_ty t = 3 → s_stK v (pre ++ t :: x :: xs) (pre.length + 1) some = some (pre ++ t :: v :: xs)
  | [], t, x, v, xs, ht => by
    show (match Nat.beq 0 0 && Nat.beq (s_ty t) 2 with
      | true => some (Term.result :: v :: xs)
      | false => some (t :: v :: xs)) = _
    rw [ht]
    rfl
  | p :: pre, t, x, v, xs, ht => by
    show (match Nat.beq (pre.length + 1) 0 && Nat.beq (s_ty p) 2 with
      | true => s_stK v (pre ++ t :: x :: xs) (pre.length + 1) (fun ys => some (Term.result :: ys))
      | false => s_stK v (pre ++ t :: x :: xs) (pre.length + 1) (fun ys => some (p :: ys))) = _
    have : (Nat.beq (pre.length + 1) 0 && Nat.beq (s_ty p) 2) = false := rfl
    rw [this]
    show s_stK v (pre ++ t :: x :: xs) (pre.length + 1) (fun ys => some (p :: ys)) = _
    rw [s_stK_k (s_stK_r pre ht)]
    rfl
theorem s_wt_2 : ∀ l : List Term, s_wt l ≤ 2 * l.length
  | [] => Nat.le_refl _
  | v :: r => by
    have := s_wt_2 r
    show (if Nat.beq (s_ty v) 2 = true then 2 else 1) + s_wt r ≤ 2 * (r.length + 1)
    split <;> omega
theorem s_wt_4 {l : List Term} (h : Nat.ble l.length 4 = true) : Nat.ble (s_wt l) 8 = true := Nat.ble_eq_true_of_le (by have := s_wt_2 l; have := Nat.le_of_ble_eq_true h; omega)
end S70
