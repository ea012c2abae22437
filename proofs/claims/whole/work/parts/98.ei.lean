/-! the reference's invariant in the picture -/
/-- Q is what f divided by g gives -/
def quo (f g Q : zp_R) : Prop := ∃ R, f = zp_add (zp_mul g Q) R ∧ zp_deg R (hi g).toNat
def invF (cnt k : Int) (t : th) (res : Sum th Int) : Prop := match t with
  | .inr (.inr (.inl (r, c, M))) => ∃ n : Nat, rkS r c M n ∧ (¬ (0 ≤ k ∧ k < n) → res = .inr 1) ∧ ((0 ≤ k ∧ k < n) → ∃ G1 G2 Q, gdS (msz r c M (k.toNat + 1)) G1 ∧ gdS (msz r c M k.toNat) G2 ∧ G2 ≠ zp_C 0 ∧ quo G1 G2 Q ∧ keeps cnt Q 3 res)
  | _ => True
theorem mz_h1 {R : Type} [Lean.Grind.CommRing R] {a b x y : R} (ha : a = 0) (hy : y = 0) : a + b * (x * y) = 0 := by grind
theorem lpp_z {row g : Nat → zp_R} {c j : Nat} (h : ∀ i, i < j → bt c i = 1 → g (c - 2 ^ i) = zp_C 0) : lpp row g c j = zp_C 0 := by
  induction j with
  | zero => rfl
  | succ j ih =>
    rw [lpp_s]
    have e := ih (fun i hi2 => h i (by omega))
    by_cases q : bt c j = 0
    · rw [if_pos q]; exact e
    · rw [if_neg q]
      exact @mz_h1 zp_R zp_ring _ _ _ _ e (h j (by omega) (by have := bt_01 c j; omega))
theorem msz_z {R C : Nat} (hR : R ≤ 4) (hC : C ≤ 4) {M : Nat → Nat → zp_R} {k : Nat} (h : ∀ f, msz R C M k f → f = zp_C 0) : ∀ f, msz R C M (k + 1) f → f = zp_C 0 := by
  intro f hf
  obtain ⟨r, c, h1, h2, h3, h4, e⟩ := hf
  have r16 := pw16 h1 hR
  have c16 := pw16 h2 hC
  have r0 : r ≠ 0 := fun w => by rw [w] at h3; exact absurd h3 (by unfold bts; omega)
  have fb := fst_b r16 r0
  rw [e, mnq_s M C r16 r0]
  refine lpp_z (fun i hi2 on => ?_)
  have bo := bt_on c16 (show i < 4 by omega) on
  exact h _ ⟨r - 2 ^ fst0 r, c - 2 ^ i, Nat.lt_of_le_of_lt (Nat.sub_le _ _) h1, Nat.lt_of_le_of_lt (Nat.sub_le _ _) h2, by omega, by omega, rfl⟩
theorem msz_z2 {R C : Nat} (hR : R ≤ 4) (hC : C ≤ 4) {M : Nat → Nat → zp_R} {k : Nat} (h : ∀ f, msz R C M k f → f = zp_C 0) (l : Nat) : ∀ f, msz R C M (k + l) f → f = zp_C 0 := by
  induction l with
  | zero => exact h
  | succ l ih => exact msz_z hR hC ih
section
variable {d : Nat} {h : s_H} {s : Nat → Int} {A : Nat → Nat → Int}
theorem V_invariant (hv : RV h s A) {T : Nat → th} (hR : RI s A T) {x k : Int} (hx : In3 x) (hk : In3 k) : wm sw_P (d + 8) 466 [.index 1290, vi x, vi k] h (RA h (fun v s' A' => ∃ res, unS (s 1) T (fun n => n = 2) x (invF (s 1) k) res ∧ endz s A T res v s' A')) := by
  refine wm_in (cd := sw_c466) (nL := 3) (hd := sw_h466) rfl rfl ?_
  have b0 := hR.1.1
  refine k466_0 hv.1 (wm_mono (wq_A (fun v1 h1 s1 A1 w1 r1 φ => ?_)) (V_isOf hv hR hx (k := 2) (by decide)))
  rcases φ with ⟨ev, e1, q, eA⟩ | ⟨ev, e1, q, f, ef, lf, kf, m1, _, gA⟩
  · rw [ev]
    refine k466_6 (fun w => absurd rfl w) (fun _ => k466_9 ⟨vi 0, h1, s1, A1, w1, r1, ⟨.inr (one s T x 2), one_un q, endz_bad hR (sq_refl s) sm_refl rfl e1 eA⟩, rfl⟩)
  · rw [ev]
    subst ef
    have eA := gA (by decide)
    rw [eA] at w1
    have xf : (f : Int).toNat = f := by omega
    have hf := hR.2.2 f lf
    have q1 : sq s s1 := by rw [e1]; exact sq_up (sq_refl s) _ rfl
    have s11 : s1 1 = s 1 := sq_1 q1
    refine k466_6 (fun _ => ?_) (fun w => absurd (by decide) w)
    rcases ef1 : T f with ⟨a, b⟩ | a | ⟨r, c, M⟩ | ⟨n, so, va⟩
    · rw [ef1] at kf; exact (kdn kf rfl).elim
    · rw [ef1] at kf; exact (kdn kf rfl).elim
    · rw [ef1] at hf
      obtain ⟨_, p1, p2, p3⟩ := hf
      have sp : ∀ res : Sum th Int, invF (s 1) k (.inr (.inr (.inl (r, c, M)))) res → unS (s 1) T (fun n => n = 2) f (invF (s 1) k) res := fun res w => ⟨fun w2 => absurd ⟨by omega, lf⟩ w2, fun _ w2 => (w2 (by rw [xf]; exact kf)).elim, fun _ _ => by rw [xf, ef1]; exact w⟩
      refine k466_11 w1.1 (wm_mono (wq_A (fun v2 h2 s2 A2 w2 r2 φ => ?_)) (V_rankOf w1 (by omega) p1 p2 p3 hR.2.1))
      obtain ⟨e2, m2, mn, n, ev2, hn⟩ := φ
      subst e2
      subst ev2
      have m2' : sm A A2 scrA := sm_sub m2 rfl
      have nR := hn.1
      refine k466_19 (wm_mono (wq_r ?_) (t_in (x := k) (lo := 0) (hi := (n : Int) - 1) (in6_of (by unfold In3 at hk; omega) (by unfold In3 at hk; omega)) (by decide) (in6_of (by omega) (by omega)))) (c1 := by unfold In3; omega)
      by_cases q3 : 0 ≤ k ∧ k ≤ (n : Int) - 1
      rotate_left
      · rw [if_neg q3]
        refine k466_25 (fun w => absurd rfl w) (fun _ => ?_)
        refine k466_28 w2.1 (wm_mono (wq_A (fun v3 h3 s3 A3 w3 r3 φ => ?_)) (V_raise w2))
        obtain ⟨y1, y2, y3⟩ := φ
        subst y1
        exact k466_33 ⟨_, h3, s3, A3, w3, FR_trans r1 (FR_trans r2 r3), ⟨.inr 1, sp _ ⟨n, hn, fun _ => rfl, fun w => absurd ⟨w.1, by omega⟩ q3⟩, endz_bad hR q1 m2' rfl y2 y3⟩, rfl⟩
      rw [if_pos q3]
      refine k466_25 (fun _ => ?_) (fun w => absurd (by decide) w)
      obtain ⟨k', ek⟩ : ∃ k' : Nat, k = k' := ⟨k.toNat, by omega⟩
      subst ek
      have kk : (k' : Int).toNat = k' := by omega
      have M2 := mat_sm p3 (m2 1294 rfl) (m2 1295 rfl) (m2 1296 rfl)
      refine k466_34 w2.1 (wm_mono (wq_N (fun h3 s3 A3 w3 r3 φ => ?_)) (V_divisorOf w2 (q := 1302) rfl (.inl rfl) (k := k' + 1) (by omega) p1 p2 M2 (by omega) mn))
      obtain ⟨e3, m3, _, G1, hG1, dG1, eG1⟩ := φ
      subst e3
      have M3 := mat_sm M2 (m3 1294 rfl) (m3 1295 rfl) (m3 1296 rfl)
      have mn3 := mins_sm mn (m3 1329 rfl)
      refine k466_46 w3.1 (wm_mono (wq_N (fun h4 s4 A4 w4 r4 φ => ?_)) (V_divisorOf w3 (q := 1311) rfl (.inr rfl) (k := k') (by omega) p1 p2 M3 (by omega) mn3))
      obtain ⟨e4, m4, keep, G2, hG2, dG2, eG2⟩ := φ
      subst e4
      have eG1' : A4 1302 = cf G1 := (keep 1302 (.inl rfl) (by decide)).trans eG1
      have G20 : G2 ≠ zp_C 0 := fun w => by
        have hz := msz_z2 p1.2 p2.2 ((gd_is0 hG2).mp w) (n - k')
        rw [show k' + (n - k') = n by omega] at hz
        obtain ⟨g, hg, g0⟩ := hn.2.1 (by omega)
        exact g0 (hz g hg)
      refine k466_56 w4.1 (wm_mono (wq_N (fun h5 s5 A5 w5 r5 φ => ?_)) (V_divideBy w4 (p := 1302) (q := 1311) rfl rfl (by decide) (by decide) (by decide) eG1' eG2 dG1 dG2 (hi_ge dG2 G20)))
      obtain ⟨e5, Q, Rr, x1, x2, x3, x4, x5⟩ := φ
      subst e5
      refine k466_68 w5.1 (wm_mono (wq_Q (fun h6 w6 r6 => ?_)) (V_become w5 (c := 1303) rfl (z := 1) (by decide)))
      rw [nF_1] at w6
      have m5 : sm A A5 scrA := by rw [x5]; exact sm_up (sm_up (sm_up (sm_tr m2' (sm_tr (sm_sub m3 rfl) (sm_sub m4 rfl))) _ rfl) _ rfl) _ rfl
      refine k466_76 w6.1 (wm_mono (wq_A (fun v7 h7 s7 A7 w7 r7 φ => ?_)) (V_keep w6 (by rw [s11]; exact b0) (N := Q) (D := zp_C 1) (by rw [up_ne _ _ (by decide), x5, up_at]) (up_at _ _ _)))
      obtain ⟨res, z1, z3⟩ := endz_keeps hR q1 (sm_up m5 _ rfl) x4 φ
      obtain ⟨u, eu⟩ := endz_vi z3
      subst eu
      exact k466_81 ⟨_, h7, s7, A7, w7, FR_trans r1 (FR_trans r2 (FR_trans r3 (FR_trans r4 (FR_trans r5 (FR_trans r6 r7))))), ⟨res, sp res ⟨n, hn, fun w => absurd ⟨q3.1, by omega⟩ w, fun _ => ⟨G1, G2, Q, by rw [kk]; exact hG1, by rw [kk]; exact hG2, G20, ⟨Rr, x1, x2⟩, z1⟩⟩, z3⟩, rfl⟩
    · rw [ef1] at kf; exact (kdn kf rfl).elim
end
