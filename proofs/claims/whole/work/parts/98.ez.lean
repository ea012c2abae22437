/-! parting by the numbers of a sum that stays: what partBy's loop keeps -/
theorem root_fac {n : Nat} {M : zp_R} (h : zp_ev (zp_nat n) M = 0) : ∃ M', M = zp_mul (xl n) M' := by
  obtain ⟨N, hN⟩ := M.2
  obtain ⟨q, r, e, dr⟩ := zp_divm (xl_mon n).1 (xl_mon n).2 N M hN
  rw [e, zp_ev_add, zp_ev_mul, xl_ev] at h
  have z0 : (zp_nat n : zp_F) + -(zp_nat n) = 0 := @zpr_ev.zv_h zp_F _ _
  rw [z0, zp_0ml] at h
  have er : r = zp_C (r.1 0) := zp_ext (fun i => by
    show r.1 i = if i = 0 then r.1 0 else 0
    by_cases q : i = 0
    · rw [if_pos q, q]
    · rw [if_neg q]; exact dr i (by omega))
  rw [er, zp_ev_C] at h
  have h' : r.1 0 = 0 := (@rf_h zp_F _ _).symm.trans h
  rw [h'] at er
  exact ⟨q, by rw [e, er]; exact @rf_h2 zp_R zp_ring _⟩
where
  rf_h : ∀ {R : Type} [Lean.Grind.CommRing R] (a : R), 0 + a = a := by intro R _ a; grind
  rf_h2 : ∀ {R : Type} [Lean.Grind.CommRing R] (a : R), a + 0 = a := by intro R _ a; grind
/-- e numbers below n at which L is 0, and how they divide it -/
def rts (L : zp_R) (n e : Nat) : Prop := ∃ D M, L = zp_mul D M ∧ mon D e ∧ ∀ x, n ≤ x → x < 32003 → zp_ev (zp_nat x) D ≠ 0
theorem rts_0 (L : zp_R) : rts L 0 0 := ⟨zp_C 1, L, by rw [zp_C1]; exact @rs_h zp_R zp_ring L, mon_C1, fun x _ _ => by rw [zp_ev_C]; decide⟩
where rs_h : ∀ {R : Type} [Lean.Grind.CommRing R] (a : R), a = 1 * a := by intro R _ a; grind
theorem rts_n {L : zp_R} {n e : Nat} (h : rts L n e) : rts L (n + 1) e := by
  obtain ⟨D, M, a, b, c⟩ := h
  exact ⟨D, M, a, b, fun x h1 h2 => c x (by omega) h2⟩
theorem rts_y {L : zp_R} {n e : Nat} (h : rts L n e) (hn : n < 32003) (h0 : zp_ev (zp_nat n) L = 0) : rts L (n + 1) (e + 1) := by
  obtain ⟨D, M, a, b, c⟩ := h
  rw [a, zp_ev_mul] at h0
  obtain ⟨M', eM⟩ := root_fac ((zp_dom h0).resolve_left (c n (Nat.le_refl _) hn))
  refine ⟨zp_mul D (xl n), M', by rw [a, eM]; exact @ry_h zp_R zp_ring _ _ _, mon_mul b (xl_mon n), fun x h1 h2 => ?_⟩
  rw [zp_ev_mul, xl_ev]
  intro w
  rcases zp_dom w with w | w
  · exact c x (by omega) h2 w
  · have h1' : n < x := h1
    have e1 : (zp_nat x : zp_F) = zp_nat n := @ry_h2 zp_F _ _ _ w
    rw [zp_natF, zp_natF] at e1
    have h3 : x % 32003 = n % 32003 := congrArg Fin.val e1
    omega
where
  ry_h : ∀ {R : Type} [Lean.Grind.CommRing R] (a b c : R), a * (b * c) = a * b * c := by intro R _ a b c; grind
  ry_h2 : ∀ {R : Type} [Lean.Grind.CommRing R] {a b : R} (_ : a + -b = 0), a = b := by intro R _ a b w; grind
theorem rts_le {L : zp_R} {n e d : Nat} (h : rts L n e) (m : mon L d) : e ≤ d := by
  obtain ⟨D, M, a, b, c⟩ := h
  exact mon_le b m ⟨M, a⟩
theorem rts_end {L : zp_R} {n d : Nat} (h : rts L n d) (m : mon L d) {x : Nat} (h1 : n ≤ x) (h2 : x < 32003) : zp_ev (zp_nat x) L ≠ 0 := by
  obtain ⟨D, M, a, b, c⟩ := h
  have e : D = L := mon_eq b m ⟨M, a⟩
  rw [← e]
  exact c x h1 h2
theorem cmo_C {L : zp_R} {N : Nat} (h : zp_deg L N) (a : zp_F) : cmo L (zp_C a) N = zp_C (zp_ev a L) := by
  rw [zp_ev_eq a h]
  clear h
  induction N with
  | zero => rfl
  | succ N ih =>
    show zp_add (cmo L (zp_C a) N) (zp_mul (zp_C (L.1 N)) (zp_npow (zp_C a) N)) = zp_C (zp_sum (fun i => L.1 i * a ^ i) N + L.1 N * a ^ N)
    rw [ih, zp_C_pow, zp_C_mul]
    exact zp_ext (fun i => by
      show (if i = 0 then _ else (0 : zp_F)) + (if i = 0 then _ else 0) = if i = 0 then _ else 0
      split
      · rfl
      · exact @root_fac.rf_h zp_F _ _)
/-- V less a number -/
abbrev vl_ (V : zp_R) (n : Nat) : zp_R := zp_add V (zp_C (nF (-(n : Int))))
theorem isL_dv {W V L : zp_R} {d : Nat} (h : isL W V L d) : dv W (cmo L V (d + 1)) := cg_0.mp h.2.2.1
/-- a number at which the least polynomial is 0 parts something off -/
theorem isL_root {W V L G : zp_R} {d n : Nat} (hL : isL W V L d) (h0 : zp_ev (zp_nat n) L = 0) (hG : isG W (vl_ V n) G) : G ≠ zp_C 1 := fun g1 => by
  obtain ⟨M, eM⟩ := root_fac h0
  have mL : mon L d := ⟨hL.1, hL.2.1⟩
  obtain ⟨d1, mM⟩ := mon_quo (xl_mon n) mL eM
  have dM : zp_deg M d := by
    have := mM.2
    rw [show d - 1 + 1 = d by omega] at this
    exact this
  have e1 : cmo L V (d + 1) = zp_mul (vl_ V n) (cmo M V d) := by
    rw [← cmo_ext (m := 2 + d) hL.2.1 (by omega), eM, cmo_mulA (xl_mon n).2 dM (Nat.le_refl _), cmo_xl]
  have w := isL_dv hL
  rw [e1] at w
  obtain ⟨_, _, ⟨u, v, l⟩, _⟩ := hG
  rw [g1] at l
  have := co_dv ⟨u, v, l.symm⟩ w
  have z := hL.2.2.2 M dM (cg_0.mpr this)
  have m1 := mM.1
  rw [z, zp_C00] at m1
  exact zp_F10 m1.symm
/-- and where something of W stands, the least polynomial is 0 -/
theorem isL_zero {W V L f : zp_R} {d n : Nat} (hL : isL W V L d) (hf : irr f) (fW : dv f W) (fV : dv f (vl_ V n)) : zp_ev (zp_nat n) L = 0 := by
  have c1 : cg f V (zp_C (zp_nat n)) := by
    obtain ⟨q, e⟩ := fV
    refine ⟨q, Eq.trans ?_ e⟩
    have en : zp_neg (zp_C (zp_nat n)) = zp_C (nF (-(n : Int))) := by
      rw [nF_neg, nF_nat]
      exact zp_ext (fun i => by
        show -(if i = 0 then zp_nat n else (0 : zp_F)) = if i = 0 then -(zp_nat n) else 0
        split
        · rfl
        · exact @cmo_L.cl_h1 zp_F _)
    rw [en]
  have c2 := cmo_shift (L := L) c1 (d + 1)
  rw [cmo_C hL.2.1] at c2
  exact irr_nC hf (dv_cg (dv_rf f) (cg_symm c2) (dv_tr2 (isL_dv hL) fW))
theorem co_dvr {a b c : zp_R} (h : co a b) (w : dv c b) : co a c := by
  obtain ⟨u, v, l⟩ := h
  obtain ⟨q, e⟩ := w
  rw [zp_C1] at l
  exact ⟨u, zp_mul v q, by rw [zp_C1]; exact @cd_h zp_R zp_ring a b c u v q l e⟩
where cd_h : ∀ {R : Type} [Lean.Grind.CommRing R] {a b c u v q : R} (_ : u * a + v * b = 1) (_ : b = c * q), u * a + v * q * c = 1 := by intro R _ a b c u v q l e; grind
theorem co_both {a b c : zp_R} (h : co a b) (ha : dv a c) (hb : dv b c) : dv (zp_mul a b) c := by
  obtain ⟨u, v, l⟩ := h
  obtain ⟨p, e1⟩ := ha
  obtain ⟨q, e2⟩ := hb
  rw [zp_C1] at l
  exact ⟨_, @cb_h zp_R zp_ring a b c u v p q l e1 e2⟩
where cb_h : ∀ {R : Type} [Lean.Grind.CommRing R] {a b c u v p q : R} (_ : u * a + v * b = 1) (_ : c = a * p) (_ : c = b * q), c = a * b * (u * q + v * p) := by intro R _ a b c u v p q l e1 e2; grind
theorem co_root {V a b : zp_R} {x n : Nat} (hx : x < n) (hn : n < 32003) (ha : dv a (vl_ V x)) (hb : dv b (vl_ V n)) : co a b := by
  obtain ⟨p, e1⟩ := ha
  obtain ⟨q, e2⟩ := hb
  have ne : nF (-(x : Int)) + -nF (-(n : Int)) ≠ 0 := fun w => by
    rw [nF_neg, nF_neg, nF_nat, nF_nat] at w
    have e1 : (zp_nat x : zp_F) = zp_nat n := @cr_h0 zp_F _ _ _ w
    rw [zp_natF, zp_natF] at e1
    have h3 : x % 32003 = n % 32003 := congrArg Fin.val e1
    omega
  have inv := zp_inv ne
  have e3 : zp_mul (zp_C (nF (-(x : Int)) + -nF (-(n : Int)))) (zp_C ((nF (-(x : Int)) + -nF (-(n : Int))) ^ 32001)) = zp_C 1 := by rw [zp_C_mul, inv]
  have e4 : zp_C (nF (-(x : Int)) + -nF (-(n : Int))) = zp_add (zp_C (nF (-(x : Int)))) (zp_neg (zp_C (nF (-(n : Int))))) := zp_ext (fun i => by
    show (if i = 0 then _ else (0 : zp_F)) = (if i = 0 then _ else 0) + -(if i = 0 then _ else 0)
    split
    · rfl
    · exact @cr_h1 zp_F _)
  rw [e4, zp_C1] at e3
  refine ⟨_, _, Eq.trans (@cr_h zp_R zp_ring V _ _ a b p q _ e1 e2 e3) zp_C1.symm⟩
where
  cr_h0 : ∀ {R : Type} [Lean.Grind.CommRing R] {a b : R} (_ : -a + - -b = 0), a = b := by intro R _ a b w; grind
  cr_h1 : ∀ {R : Type} [Lean.Grind.CommRing R], (0 : R) = 0 + -0 := by intro R _; grind
  cr_h : ∀ {R : Type} [Lean.Grind.CommRing R] {V c d a b p q l : R} (_ : V + c = a * p) (_ : V + d = b * q) (_ : (c + -d) * l = 1), (l * p) * a + (-l * q) * b = 1 := by intro R _ V c d a b p q l e1 e2 e3; grind
/-- parts of B: each is something, divides B; no two have anything in common -/
def prts (B : zp_R) (m : Nat) (P : Nat → zp_R) : Prop := (∀ k, k < m → mo (P k) ∧ P k ≠ zp_C 1 ∧ dv (P k) B) ∧ ∀ j k, j < k → k < m → co (P j) (P k)
/-- all that divides B divides a part -/
def cov (B : zp_R) (m : Nat) (P : Nat → zp_R) : Prop := ∀ f, irr f → dv f B → ∃ k, k < m ∧ dv f (P k)
theorem prts_le {B : zp_R} {n m : Nat} {P : Nat → zp_R} (hB : mon B n) (h : prts B m P) : m ≤ n := by
  have key : ∀ j, j ≤ m → ∃ Q t, mon Q t ∧ j ≤ t ∧ dv Q B ∧ ∀ k, j ≤ k → k < m → co Q (P k) := by
    intro j
    induction j with
    | zero => exact fun _ => ⟨zp_C 1, 0, mon_C1, Nat.le_refl 0, dv_one B, fun k _ _ => co_one _⟩
    | succ j ih =>
      intro hj
      obtain ⟨Q, t, a, b, c, d⟩ := ih (by omega)
      obtain ⟨⟨x, p1, p2⟩, p3, p4⟩ := h.1 j hj
      have x1 : 1 ≤ x := by
        rcases Nat.eq_zero_or_pos x with q | q
        · exact absurd (mon_0 (by rw [q] at p1 p2; exact ⟨p1, p2⟩)) p3
        · exact q
      exact ⟨zp_mul Q (P j), t + x, mon_mul a ⟨p1, p2⟩, by omega, co_both (d j (Nat.le_refl _) hj) c p4, fun k h1 h2 => co_mul (d k (by omega) h2) (h.2 j k h1 h2)⟩
  obtain ⟨Q, t, a, b, c, _⟩ := key m (Nat.le_refl _)
  have := mon_le a hB c
  omega
def pu (P : Nat → zp_R) (t : Nat) (G : zp_R) : Nat → zp_R := fun j => if j = t then G else P j
theorem pu_at (P : Nat → zp_R) (t : Nat) (G : zp_R) : pu P t G t = G := if_pos rfl
theorem pu_ne {P : Nat → zp_R} {t j : Nat} {G : zp_R} (h : j ≠ t) : pu P t G j = P j := if_neg h
/-- the parts that part k has come to, of b parts -/
def nw (k b e j : Nat) : Prop := (j = k ∧ 0 < e) ∨ b ≤ j
/-- amid the parting of part k: numbers below n are done, e were found, there are m parts -/
def mid (W V : zp_R) (P0 : Nat → zp_R) (b k m e n : Nat) (P : Nat → zp_R) : Prop :=
  m = b + (e - 1) ∧ (∀ j, j < b → (j ≠ k ∨ e = 0) → P j = P0 j) ∧ (∀ j, j < m → nw k b e j → mo (P j) ∧ P j ≠ zp_C 1 ∧ dv (P j) W ∧ ∃ x, x < n ∧ dv (P j) (vl_ V x)) ∧ (∀ i j, i < j → j < m → nw k b e i → nw k b e j → co (P i) (P j)) ∧ ∀ f, irr f → dv f W → (∃ x, x < n ∧ dv f (vl_ V x)) → ∃ j, j < m ∧ nw k b e j ∧ dv f (P j)
theorem mid_0 {W V : zp_R} {P0 : Nat → zp_R} {b k : Nat} : mid W V P0 b k b 0 0 P0 := ⟨rfl, fun _ _ _ => rfl, fun j h1 h2 => by
  rcases h2 with ⟨_, h2⟩ | h2 <;> omega, fun i j _ h1 _ h2 => by
  rcases h2 with ⟨_, h2⟩ | h2 <;> omega, fun f _ _ ⟨x, h, _⟩ => absurd h (Nat.not_lt_zero x)⟩
theorem mid_n {W V L : zp_R} {P0 P : Nat → zp_R} {b k m e n d : Nat} (h : mid W V P0 b k m e n P) (hL : isL W V L d) (ne : zp_ev (zp_nat n) L ≠ 0) : mid W V P0 b k m e (n + 1) P := ⟨h.1, h.2.1, fun j h1 h2 => by
  obtain ⟨a, b, c, x, d, f⟩ := h.2.2.1 j h1 h2
  exact ⟨a, b, c, x, by omega, f⟩, h.2.2.2.1, fun f hf fW ⟨x, h1, h2⟩ => by
  by_cases q : x = n
  · rw [q] at h2
    exact absurd (isL_zero hL hf fW h2) ne
  · exact h.2.2.2.2 f hf fW ⟨x, by omega, h2⟩⟩
theorem mid_y {W V L G : zp_R} {P0 P : Nat → zp_R} {b k m e n d : Nat} (h : mid W V P0 b k m e n P) (hk : k < b) (hW : mo W) (hn : n < 32003) (hL : isL W V L d) (h0 : zp_ev (zp_nat n) L = 0) (hG : isG W (vl_ V n) G) : mid W V P0 b k (b + e) (e + 1) (n + 1) (pu P (if e = 0 then k else m) G) := by
  have mG := isG_mo (p := W) (a := vl_ V n) (G := G) ⟨hG.2.1, hG.1, by
    obtain ⟨u, v, l⟩ := hG.2.2.1
    exact ⟨v, u, l.trans (@my_h zp_R zp_ring _ _)⟩, hG.2.2.2⟩ (mo_n0 hW)
  have g1 := isL_root hL h0 hG
  have cnt := h.1
  -- where G stands
  have at_ : ∀ j, j < b + e → nw k b (e + 1) j → (j = (if e = 0 then k else m)) ∨ (j ≠ (if e = 0 then k else m) ∧ j < m ∧ nw k b e j) := fun j h1 h2 => by
    by_cases q : e = 0
    · rw [if_pos q]
      rcases h2 with ⟨h2, _⟩ | h2
      · exact .inl h2
      · omega
    · rw [if_neg q]
      by_cases q2 : j = m
      · exact .inl q2
      · refine .inr ⟨q2, by omega, ?_⟩
        rcases h2 with ⟨h2, _⟩ | h2
        · exact .inl ⟨h2, by omega⟩
        · exact .inr h2
  have nwG : nw k b (e + 1) (if e = 0 then k else m) := by
    by_cases q : e = 0
    · rw [if_pos q]; exact .inl ⟨rfl, Nat.succ_pos _⟩
    · rw [if_neg q]; exact .inr (by omega)
  have ltG : (if e = 0 then k else m) < b + e := by
    by_cases q : e = 0
    · rw [if_pos q]; omega
    · rw [if_neg q]; omega
  refine ⟨by omega, fun j h1 h2 => ?_, fun j h1 h2 => ?_, fun i j hij h1 h2 h3 => ?_, fun f hf fW ⟨x, h1, h2⟩ => ?_⟩
  · have jk : j ≠ k := h2.resolve_right (by omega)
    rw [pu_ne (by
      by_cases q : e = 0
      · rw [if_pos q]; exact jk
      · rw [if_neg q]; omega)]
    exact h.2.1 j h1 (.inl jk)
  · rcases at_ j h1 h2 with q | ⟨q1, q2, q3⟩
    · rw [q, pu_at]
      exact ⟨mG, g1, hG.1, n, Nat.lt_succ_self n, hG.2.1⟩
    · rw [pu_ne q1]
      obtain ⟨a, b, c, x, d, f⟩ := h.2.2.1 j q2 q3
      exact ⟨a, b, c, x, by omega, f⟩
  · rcases at_ i (by omega) h2 with q | ⟨q1, q2, q3⟩
    · rcases at_ j h1 h3 with p | ⟨p1, p2, p3⟩
      · omega
      · obtain ⟨_, _, _, x, c, d⟩ := h.2.2.1 j p2 p3
        rw [pu_ne p1, q, pu_at]
        exact co_sym (co_root c hn d hG.2.1)
    · obtain ⟨_, _, _, x, c, d⟩ := h.2.2.1 i q2 q3
      rcases at_ j h1 h3 with p | ⟨p1, p2, p3⟩
      · rw [pu_ne q1, p, pu_at]
        exact co_root c hn d hG.2.1
      · rw [pu_ne q1, pu_ne p1]
        exact h.2.2.2.1 i j hij p2 q3 p3
  · by_cases q : x = n
    · rw [q] at h2
      exact ⟨_, ltG, nwG, by rw [pu_at]; exact dv_lin hG.2.2.1 fW h2⟩
    · obtain ⟨j, a, c, d⟩ := h.2.2.2.2 f hf fW ⟨x, by omega, h2⟩
      have jne : j ≠ (if e = 0 then k else m) := by
        by_cases q2 : e = 0
        · rcases c with ⟨_, c⟩ | c <;> omega
        · rw [if_neg q2]; omega
      refine ⟨j, by omega, ?_, by rw [pu_ne jne]; exact d⟩
      rcases c with ⟨c, _⟩ | c
      · exact .inl ⟨c, Nat.succ_pos _⟩
      · exact .inr c
where my_h : ∀ {R : Type} [Lean.Grind.CommRing R] (a b : R), a + b = b + a := by intro R _ a b; grind
/-- amid it they are parts -/
theorem mid_prt {B W V : zp_R} {P0 P : Nat → zp_R} {b k m e n : Nat} (h : mid W V P0 b k m e n P) (hk : k < b) (hW : P0 k = W) (hp : prts B b P0) : prts B m P := by
  have cnt := h.1
  have kind : ∀ j, j < m → nw k b e j ∨ (j < b ∧ (j ≠ k ∨ e = 0)) := fun j hj => by
    by_cases q : b ≤ j
    · exact .inl (.inr q)
    · by_cases q2 : j = k
      · by_cases q3 : e = 0
        · exact .inr ⟨by omega, .inr q3⟩
        · exact .inl (.inl ⟨q2, by omega⟩)
      · exact .inr ⟨by omega, .inl q2⟩
  have wB : dv W B := by rw [← hW]; exact (hp.1 k hk).2.2
  have one : ∀ i j, i ≠ j → i < m → j < m → nw k b e i → (j < b ∧ (j ≠ k ∨ e = 0)) → co (P i) (P j) := fun i j ij h1 h2 h3 h4 => by
    rw [h.2.1 j h4.1 h4.2]
    have jk : j ≠ k := fun w => by
      have e0 := h4.2.resolve_left (fun w2 => w2 w)
      rcases h3 with ⟨_, h3⟩ | h3 <;> omega
    have c0 : co (P0 j) W := by
      rw [← hW]
      rcases Nat.lt_trichotomy j k with q | q | q
      · exact hp.2 j k q hk
      · exact absurd q jk
      · exact co_sym (hp.2 k j q h4.1)
    exact co_sym (co_dvr c0 (h.2.2.1 i h1 h3).2.2.1)
  refine ⟨fun j hj => ?_, fun i j hij hj => ?_⟩
  · rcases kind j hj with q | q
    · obtain ⟨a, b, c, _⟩ := h.2.2.1 j hj q
      exact ⟨a, b, dv_tr2 wB c⟩
    · rw [h.2.1 j q.1 q.2]
      exact hp.1 j q.1
  · rcases kind i (by omega) with q | q
    · rcases kind j hj with p | p
      · exact h.2.2.2.1 i j hij hj q p
      · exact one i j (by omega) (by omega) hj q p
    · rcases kind j hj with p | p
      · exact co_sym (one j i (by omega) hj (by omega) p q)
      · rw [h.2.1 i q.1 q.2, h.2.1 j p.1 p.2]
        exact hp.2 i j hij p.1
/-- when all numbers are done -/
theorem mid_end {B W V : zp_R} {P0 P : Nat → zp_R} {b k m e n : Nat} (h : mid W V P0 b k m e n P) (hk : k < b) (hW : P0 k = W) (hp : prts B b P0) (fin : ∀ f, irr f → dv f W → ∃ x, x < n ∧ dv f (vl_ V x)) : 0 < e ∧ (cov B b P0 → cov B m P) := by
  have cnt := h.1
  have e0 : 0 < e := by
    obtain ⟨a, c, d⟩ := hp.1 k hk
    rw [hW] at a c
    obtain ⟨f, hf, fW⟩ := irr_of a c
    obtain ⟨j, j1, j2, _⟩ := h.2.2.2.2 f hf fW (fin f hf fW)
    rcases j2 with ⟨_, j2⟩ | j2
    · exact j2
    · omega
  refine ⟨e0, fun c f hf fB => ?_⟩
  obtain ⟨j, j1, j2⟩ := c f hf fB
  by_cases q : j = k
  · rw [q, hW] at j2
    obtain ⟨j', a, _, d⟩ := h.2.2.2.2 f hf j2 (fin f hf j2)
    exact ⟨j', a, d⟩
  · exact ⟨j, by omega, by rw [h.2.1 j j1 (.inl q)]; exact j2⟩
