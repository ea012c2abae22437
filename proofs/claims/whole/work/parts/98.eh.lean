/-! the reference's determinant, rankOf and rank in the picture -/
/-- the rank of R rows and C columns -/
def rkS (R C : Nat) (M : Nat → Nat → zp_R) (n : Nat) : Prop := (n ≤ R ∧ n ≤ C) ∧ (0 < n → ∃ f, msz R C M n f ∧ f ≠ zp_C 0) ∧ ∀ k, n < k → k ≤ R → k ≤ C → ∀ f, msz R C M k f → f = zp_C 0
def rkR : List Nat := [1302, 1304, 1305, 1306, 1307, 1308, 1309, 1310, 1311, 1329]
def rnkS (cnt : Int) (T : Nat → th) (x : Int) (c a : Int) : Prop := (¬ (0 ≤ x ∧ x < cnt) → c = 1 ∧ a = 0) ∧ ((0 ≤ x ∧ x < cnt) → match T x.toNat with
  | .inr (.inr (.inl (r, k, M))) => c = 0 ∧ ∃ n : Nat, a = n ∧ rkS r k M n
  | _ => c = 2 ∧ a = 0)
def detF (cnt : Int) (t : th) (res : Sum th Int) : Prop := match t with
  | .inr (.inr (.inl (r, c, M))) => (r ≠ c → res = .inr 2) ∧ (r = c → keeps cnt (mnq M c (2 ^ r - 1) (2 ^ c - 1)) 3 res)
  | _ => True
theorem mat_sm {A B : Nat → Nat → Int} {f R C : Nat} {M : Nat → Nat → zp_R} (h : mat A f R C M) (e4 : B 1294 = A 1294) (e5 : B 1295 = A 1295) (e6 : B 1296 = A 1296) : mat B f R C M := by
  obtain ⟨p3, p4, p5⟩ := h
  refine ⟨by rw [e4]; exact p3, by rw [e5]; exact p4, fun i j h1 h2 => ?_⟩
  rw [← p5 i j h1 h2]
  unfold me
  rw [e6]
theorem mins_sm {A B : Nat → Nat → Int} {R C : Nat} {M : Nat → Nat → zp_R} (h : mins A R C M) (e : B 1329 = A 1329) : mins B R C M := fun r c h1 h2 h3 => by
  rw [← h r c h1 h2 h3]
  unfold mi
  rw [e]
theorem gd_is0 {S : zp_R → Prop} {G : zp_R} (h : gdS S G) : G = zp_C 0 ↔ ∀ f, S f → f = zp_C 0 := ⟨fun e f hf => by
    obtain ⟨a, w⟩ := h.1 f hf
    rw [w, e]
    exact @Lean.Grind.Semiring.zero_mul zp_R zp_ring.toSemiring a, fun w => by
    obtain ⟨a, e⟩ := h.2.1 (zp_C 0) (fun f hf => by rw [w f hf]; exact dv_00 _)
    rw [e]
    exact @Lean.Grind.Semiring.zero_mul zp_R zp_ring.toSemiring a⟩
section
variable {d : Nat} {h : s_H} {s : Nat → Int} {A : Nat → Nat → Int}
theorem V_rankOf (hv : RV h s A) {f R C : Nat} {M : Nat → Nat → zp_R} (hf : f < 150) (hR : 1 ≤ R ∧ R ≤ 4) (hC : 1 ≤ C ∧ C ≤ 4) (hM : mat A f R C M) (hb : ∀ t, t < 26400 → 0 ≤ A 1296 t ∧ A 1296 t < 32003) : wm sw_P (d + 7) 572 [.index 1290, vi (f : Int)] h (RA h (fun v s' A' => s' = s ∧ sm A A' rkR ∧ mins A' R C M ∧ ∃ n : Nat, v = vi (n : Int) ∧ rkS R C M n)) := by
  refine wm_in (cd := sw_c572) (nL := 4) (hd := sw_h572) rfl rfl ?_
  refine k572_0 hv.1 (wm_mono (wq_N (fun h1 s1 A1 v1 r1 φ => ?_)) (V_findMinors hv hf hR hC hM hb))
  obtain ⟨e1, m1, mn⟩ := φ
  subst e1
  have m1' : sm A A1 rkR := sm_sub m1 rfl
  have M1 := mat_sm hM (m1 1294 rfl) (m1 1295 rfl) (m1 1296 rfl)
  have g3 : gi (mk 150 (A1 1294)) (f : Int) = (R : Int) := by rw [gi_mkn (by omega)]; exact M1.1
  have g4 : gi (mk 150 (A1 1295)) (f : Int) = (C : Int) := by rw [gi_mkn (by omega)]; exact M1.2.1
  have loop : ∀ (k : Nat) (x2 : Int) (B : Nat → Nat → Int) (h' : s_H), k ≤ R → k ≤ C → RV h' s1 B → FR h h' → sm A B rkR → mins B R C M → (∀ j, k < j → j ≤ R → j ≤ C → ∀ f, msz R C M j f → f = zp_C 0) → wr sw_P (d + 6) sw_c572 sw_h572 (38, [.index 1290, vi (f : Int), vi x2, vi (k : Int)], [], h', 0, 0) (RA h (fun v s' A' => s' = s1 ∧ sm A A' rkR ∧ mins A' R C M ∧ ∃ n : Nat, v = vi (n : Int) ∧ rkS R C M n)) := by
    intro k
    induction k with
    | zero =>
      intro x2 B h' k1 k2 v rr mB mn z
      exact k572_38 (fun _ => k572_70 ⟨vi 0, h', s1, B, v, rr, ⟨rfl, mB, mn, 0, rfl, ⟨k1, k2⟩, fun w => absurd w (by decide), z⟩, rfl⟩) (fun w => absurd (by omega) w) (c1 := by decide)
    | succ k ih =>
      intro x2 B h' k1 k2 v rr mB mn z
      have MB := mat_sm hM (mB 1294 rfl) (mB 1295 rfl) (mB 1296 rfl)
      refine k572_38 (fun w => absurd w (by omega)) (fun _ => ?_) (c1 := by unfold In3; omega)
      refine k572_42 v.1 (wm_mono (wq_N (fun h2 s2 A2 v2 r2 φ => ?_)) (V_divisorOf v (q := 1311) rfl (.inr rfl) (k := k + 1) hf hR hC MB (by omega) mn))
      obtain ⟨e2, m2, _, G, hG, dG, eG⟩ := φ
      subst e2
      have bh := hi_b G
      have mB2 : sm A A2 rkR := sm_tr mB (sm_sub m2 rfl)
      have mn2 := mins_sm mn (m2 1329 rfl)
      refine k572_52 v2.1 (wm_mono (wq_r ?_) (V_high v2 (c := 1311) rfl eG))
      refine k572_59 (fun w => ?_) (fun w => k572_62 ⟨vi ((k + 1 : Nat) : Int), h2, s2, A2, v2, FR_trans rr r2, ⟨rfl, mB2, mn2, k + 1, rfl, ⟨k1, k2⟩, fun _ => ?_, z⟩, rfl⟩) (c1 := by unfold In3; omega)
      · have G0 := hi_0 dG w
        have hz := (gd_is0 hG).mp G0
        refine k572_64 ?_
        rw [show ((k + 1 : Nat) : Int) + -1 = (k : Int) by omega]
        refine ih x2 A2 h2 (by omega) (by omega) v2 (FR_trans rr r2) mB2 mn2 (fun j hj h3 h4 => ?_)
        by_cases q : j = k + 1
        · rw [q]; exact hz
        · exact z j (by omega) h3 h4
      · refine Classical.byContradiction (fun w2 => ?_)
        have hz : ∀ f, msz R C M (k + 1) f → f = zp_C 0 := fun f hf => Classical.byContradiction (fun w3 => w2 ⟨f, hf, w3⟩)
        exact zp_ne0 (f := G) (by omega) ((gd_is0 hG).mpr hz)
  have start : ∀ k : Nat, k ≤ R → k ≤ C → (R ≤ k ∨ C ≤ k) → wr sw_P (d + 6) sw_c572 sw_h572 (35, [.index 1290, vi (f : Int), .result, .result], [vi (k : Int)], h1, 0, 0) (RA h (fun v s' A' => s' = s1 ∧ sm A A' rkR ∧ mins A' R C M ∧ ∃ n : Nat, v = vi (n : Int) ∧ rkS R C M n)) := fun k k1 k2 k3 => k572_35 (loop k _ A1 h1 k1 k2 v1 r1 m1' mn (fun j h2 h3 h4 => by omega))
  refine k572_5 v1.1 (Ra_rows v1) (Ra_columns v1) (fun w => ?_) (fun w => ?_) (c10 := by rw [mk_len]; omega) (c11 := by omega) (c12 := by unfold In3; omega) (c18 := by rw [mk_len]; omega) (c19 := by rw [g3]; unfold In3; omega) (c20 := by rw [g4]; unfold In3; omega)
  · rw [g3, g4] at w
    refine k572_29 v1.1 (Ra_columns v1) ?_ (c10 := by rw [mk_len]; omega) (c11 := by omega) (c12 := by unfold In3; omega)
    rw [g4]
    exact start C (by omega) (Nat.le_refl _) (by omega)
  · rw [g3, g4] at w
    refine k572_20 v1.1 (Ra_rows v1) ?_ (c10 := by rw [mk_len]; omega) (c11 := by omega) (c12 := by unfold In3; omega)
    rw [g3]
    exact start R (Nat.le_refl _) (by omega) (by omega)
theorem V_rank (hv : RV h s A) {T : Nat → th} (hR : RI s A T) {x : Int} (hx : In3 x) : wm sw_P (d + 8) 571 [.index 1290, vi x] h (RA h (fun v s' A' => ∃ c a, rnkS (s 1) T x c a ∧ v = vi a ∧ s' = up s 0 c ∧ sm A A' scrA ∧ RI s' A' T)) := by
  refine wm_in (cd := sw_c571) (nL := 2) (hd := sw_h571) rfl rfl ?_
  have b0 := hR.1.1
  refine k571_0 hv.1 (wm_mono (wq_A (fun v1 h1 s1 A1 w1 r1 φ => ?_)) (V_isOf hv hR hx (k := 2) (by decide)))
  rcases φ with ⟨ev, e1, q, eA⟩ | ⟨ev, e1, q, f, ef, lf, kf, m1, _, gA⟩
  · rw [ev]
    have q1 : sq s s1 := by rw [e1]; exact sq_up (sq_refl s) _ rfl
    refine k571_6 (fun w => absurd rfl w) (fun _ => k571_9 ⟨vi 0, h1, s1, A1, w1, r1, ⟨one s T x 2, 0, ⟨fun w => ⟨if_pos w, rfl⟩, fun w => ?_⟩, rfl, e1, by rw [eA]; exact sm_refl, by rw [eA]; exact RI_a hR sm_refl q1⟩, rfl⟩)
    have ho : one s T x 2 = if kd (T x.toNat) = 2 then 0 else 2 := if_neg (fun w3 => w3 w)
    rcases ef1 : T x.toNat with ⟨a, b⟩ | a | ⟨r, c, M⟩ | ⟨n, so, va⟩
    · rw [ef1] at ho; exact ⟨ho, rfl⟩
    · rw [ef1] at ho; exact ⟨ho, rfl⟩
    · rw [ef1] at ho; exact absurd ho q
    · rw [ef1] at ho; exact ⟨ho, rfl⟩
  · rw [ev]
    subst ef
    have eA := gA (by decide)
    rw [eA] at w1
    have xf : (f : Int).toNat = f := by omega
    have hf := hR.2.2 f lf
    refine k571_6 (fun _ => ?_) (fun w => absurd (by decide) w)
    rcases ef1 : T f with ⟨a, b⟩ | a | ⟨r, c, M⟩ | ⟨n, so, va⟩
    · rw [ef1] at kf; exact (kdn kf rfl).elim
    · rw [ef1] at kf; exact (kdn kf rfl).elim
    · rw [ef1] at hf
      obtain ⟨_, p1, p2, p3⟩ := hf
      refine k571_11 w1.1 (wm_mono (wq_A (fun v2 h2 s2 A2 w2 r2 φ => ?_)) (V_rankOf w1 (by omega) p1 p2 p3 hR.2.1))
      obtain ⟨e2, m2, _, n, ev2, hn⟩ := φ
      subst e2
      subst ev2
      have m2' : sm A A2 scrA := sm_sub m2 rfl
      exact k571_16 ⟨_, h2, s2, A2, w2, FR_trans r1 r2, ⟨0, (n : Int), ⟨fun w => absurd ⟨by omega, lf⟩ w, fun _ => by rw [xf, ef1]; exact ⟨rfl, n, rfl, hn⟩⟩, rfl, e1, m2', RI_a hR m2' (by rw [e1]; exact sq_up (sq_refl s) _ rfl)⟩, rfl⟩
    · rw [ef1] at kf; exact (kdn kf rfl).elim
theorem V_determinant (hv : RV h s A) {T : Nat → th} (hR : RI s A T) {x : Int} (hx : In3 x) : wm sw_P (d + 4) 431 [.index 1290, vi x] h (RA h (fun v s' A' => ∃ res, unS (s 1) T (fun n => n = 2) x (detF (s 1)) res ∧ endz s A T res v s' A')) := by
  refine wm_in (cd := sw_c431) (nL := 2) (hd := sw_h431) rfl rfl ?_
  have b0 := hR.1.1
  refine k431_0 hv.1 (wm_mono (wq_A (fun v1 h1 s1 A1 w1 r1 φ => ?_)) (V_isOf hv hR hx (k := 2) (by decide)))
  rcases φ with ⟨ev, e1, q, eA⟩ | ⟨ev, e1, q, f, ef, lf, kf, m1, _, gA⟩
  · rw [ev]
    refine k431_6 (fun w => absurd rfl w) (fun _ => k431_9 ⟨vi 0, h1, s1, A1, w1, r1, ⟨.inr (one s T x 2), one_un q, endz_bad hR (sq_refl s) sm_refl rfl e1 eA⟩, rfl⟩)
  · rw [ev]
    subst ef
    have eA := gA (by decide)
    rw [eA] at w1
    have xf : (f : Int).toNat = f := by omega
    have hf := hR.2.2 f lf
    have q1 : sq s s1 := by rw [e1]; exact sq_up (sq_refl s) _ rfl
    have s11 : s1 1 = s 1 := sq_1 q1
    refine k431_6 (fun _ => ?_) (fun w => absurd (by decide) w)
    rcases ef1 : T f with ⟨a, b⟩ | a | ⟨r, c, M⟩ | ⟨n, so, va⟩
    · rw [ef1] at kf; exact (kdn kf rfl).elim
    · rw [ef1] at kf; exact (kdn kf rfl).elim
    · rw [ef1] at hf
      obtain ⟨_, p1, p2, p3⟩ := hf
      have g1 : gi (mk 150 (A 1294)) (f : Int) = (r : Int) := by rw [gi_mkn (by omega)]; exact p3.1
      have g3 : gi (mk 150 (A 1295)) (f : Int) = (c : Int) := by rw [gi_mkn (by omega)]; exact p3.2.1
      have sp : ∀ res : Sum th Int, detF (s 1) (.inr (.inr (.inl (r, c, M)))) res → unS (s 1) T (fun n => n = 2) f (detF (s 1)) res := fun res w => ⟨fun w2 => absurd ⟨by omega, lf⟩ w2, fun _ w2 => (w2 (by rw [xf]; exact kf)).elim, fun _ _ => by rw [xf, ef1]; exact w⟩
      refine k431_11 w1.1 (Ra_rows w1) (Ra_columns w1) (fun w => ?_) (fun w => ?_) (c10 := by rw [mk_len]; omega) (c11 := by omega) (c12 := by unfold In3; omega) (c18 := by rw [mk_len]; omega) (c19 := by rw [g1]; unfold In3; omega) (c20 := by rw [g3]; unfold In3; omega)
      rotate_left
      · rw [g1, g3] at w
        refine k431_26 w1.1 (wm_mono (wq_A (fun v3 h3 s3 A3 w3 r3 φ => ?_)) (V_raise w1))
        obtain ⟨y1, y2, y3⟩ := φ
        subst y1
        exact k431_31 ⟨_, h3, s3, A3, w3, FR_trans r1 r3, ⟨.inr 2, sp _ ⟨fun _ => rfl, fun w2 => absurd (by omega) w⟩, endz_bad hR q1 sm_refl rfl y2 y3⟩, rfl⟩
      rw [g1, g3] at w
      have rc : r = c := by omega
      subst rc
      have pR := Nat.pow_le_pow_right (show 0 < 2 by decide) p1.2
      have pR1 := Nat.two_pow_pos r
      have dM : ∀ i j, i < r → j < r → zp_deg (M i j) 11 := fun i j h1 h2 => me_deg (p3.2.2 i j h1 h2)
      refine k431_32 w1.1 (wm_mono (wq_N (fun h2 s2 A2 w2 r2 φ => ?_)) (V_findMinors w1 (by omega) p1 p2 p3 hR.2.1))
      obtain ⟨e2, m2, mn⟩ := φ
      subst e2
      have g2 : gi (mk 150 (A2 1294)) (f : Int) = (r : Int) := by rw [m2 1294 rfl]; exact g1
      have ez : zi 27 1 (r : Int) - 1 = ((2 ^ r - 1 : Nat) : Int) := by rw [zs (by omega)]; omega
      have mD : mi A2 (2 ^ r - 1) (2 ^ r - 1) = cf (mnq M r (2 ^ r - 1) (2 ^ r - 1)) := mn _ _ (by omega) (by omega) rfl
      refine k431_37 w2.1 (Ra_rows w2) ?_ (c12 := by rw [mk_len]; omega) (c13 := by omega) (c14 := by unfold In3; omega)
      rw [g2, ez]
      refine wm_mono (wq_Q (fun h3 w3 r3 => ?_)) (V_loadMinor w2 (p := 1302) rfl (r := 2 ^ r - 1) (c := 2 ^ r - 1) (by omega) (by omega))
      rw [mD] at w3
      refine k431_65 w3.1 (wm_mono (wq_Q (fun h4 w4 r4 => ?_)) (V_become w3 (c := 1303) rfl (z := 1) (by decide)))
      rw [nF_1] at w4
      refine k431_73 w4.1 (wm_mono (wq_A (fun v5 h5 s5 A5 w5 r5 φ => ?_)) (V_keep w4 (by rw [s11]; exact b0) (N := mnq M r (2 ^ r - 1) (2 ^ r - 1)) (D := zp_C 1) (by rw [up_ne _ _ (by decide), up_at]) (up_at _ _ _)))
      obtain ⟨res, z1, z3⟩ := endz_keeps hR q1 (sm_up (sm_up (sm_sub m2 rfl) _ rfl) _ rfl) (deg_le (mnq_deg p1.2 dM (by omega)) (by decide)) φ
      obtain ⟨u, eu⟩ := endz_vi z3
      subst eu
      exact k431_78 ⟨_, h5, s5, A5, w5, FR_trans r1 (FR_trans r2 (FR_trans r3 (FR_trans r4 r5))), ⟨res, sp res ⟨fun w2 => absurd rfl w2, fun _ => z1⟩, z3⟩, rfl⟩
    · rw [ef1] at kf; exact (kdn kf rfl).elim
end
