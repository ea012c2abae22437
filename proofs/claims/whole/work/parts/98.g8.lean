/-! the reference's readSource, readText, read -/
/-- the reader goes on -/
def going (s : Nat → Int) : Prop := s 55 = 0 ∧ s 76 = -1 ∧ s 72 < 4
/-- one step of the reader -/
def stepR (T : Nat → th) (s : Nat → Int) (A : Nat → Nat → Int) (s1 : Nat → Int) (A1 : Nat → Nat → Int) : Prop := ∃ i n e, cfg s A i n e ∧ ((s 72 < 2 ∧ raR s A T i n e s1 A1) ∨ (¬ s 72 < 2 ∧ ∃ a b, frc A a b ∧ ((s 72 = 2 ∧ byt s A i = 94 ∧ rpR s A i e a b s1 A1) ∨ (¬ (s 72 = 2 ∧ byt s A i = 94) ∧ ∃ p q p' q', (A 1336 n ≠ 0 → fp A 1344 n = cf p ∧ fp A 1345 n = cf q) ∧ (A 1335 n ≠ 0 → fp A 1342 n = cf p' ∧ fp A 1343 n = cf q') ∧ rgR s A i n e a b p q p' q' s1 A1))))
/-- the reader's run: steps until it stops -/
def runN (T : Nat → th) : Nat → (Nat → Int) → (Nat → Nat → Int) → (Nat → Int) → (Nat → Nat → Int) → Prop
  | 0, s, A, s', A' => ¬ going s ∧ s' = s ∧ A' = A
  | l + 1, s, A, s', A' => going s ∧ ∃ s1 A1, stepR T s A s1 A1 ∧ runN T l s1 A1 s' A'
def run (T : Nat → th) (s : Nat → Int) (A : Nat → Nat → Int) (s' : Nat → Int) (A' : Nat → Nat → Int) : Prop := ∃ l, runN T l s A s' A'
theorem run_more {T : Nat → th} {s s1 s' : Nat → Int} {A A1 A' : Nat → Nat → Int} (g : going s) (h : stepR T s A s1 A1) (r : run T s1 A1 s' A') : run T s A s' A' := by
  obtain ⟨l, r⟩ := r
  exact ⟨l + 1, g, s1, A1, h, r⟩
/-- how a run ends -/
def runE (m : Int) (A0 : Nat → Nat → Int) (s' : Nat → Int) (A' : Nat → Nat → Int) (s : Nat → Int) (A : Nat → Nat → Int) : Prop := kf s s' ∧ sm A A' rdL ∧ (((1 ≤ s' 55 ∧ s' 55 ≤ 7) ∧ (0 ≤ s' 56 ∧ s' 56 ≤ 300) ∧ s' 76 = -1) ∨ ((s' 55 = 0 ∧ s' 56 = -1 ∧ 2 ≤ m) ∧ ∃ c : Nat, c < 16 ∧ s' 76 = (c : Int) ∧ due A0 c ∧ ∃ i, byt s A i = 65 + (c : Int)) ∨ fin_ m s' A')
/-- what the reader begins with -/
def bg (s : Nat → Int) (m : Int) : Nat → Int := up (up (up (up (up (up (up (up (up s 54 m) 55 0) 56 (-1)) 59 0) 71 0) 75 0) 76 (-1)) 88 0) 72 0
def bgA (A : Nat → Nat → Int) : Nat → Nat → Int := pa (pa (pa A 1335 0 0) 1336 0 0) 1337 0 0
theorem hng_to {A B : Nat → Nat → Int} (e1 : B 1367 = A 1367) (e2 : B 1368 = A 1368) (c : Nat) : hng B c = hng A c := by
  have n1 : ∀ c k, nmd B c k = nmd A c k := fun c k => by
    induction k with
    | zero => rfl
    | succ k ih => unfold nmd; rw [ih, e2]
  have n2 : ∀ c, nms B c = nms A c := fun c => by unfold nms; rw [n1, e1]
  have n3 : ∀ x k, hgi B x k = hgi A x k := fun x k => by
    induction k with
    | zero => rfl
    | succ k ih => unfold hgi; rw [ih, n2]
  have n4 : ∀ p, hgs B c p = hgs A c p := fun p => by
    induction p with
    | zero => exact n2 c
    | succ p ih => unfold hgs; rw [ih, n3]
  exact n4 16
theorem due_to {A B : Nat → Nat → Int} (m : sm A B rdL) (c : Nat) : due B c ↔ due A c := by
  have h := hng_to (m 1367 rfl) (m 1368 rfl) c
  unfold due wkb wkd
  rw [h, m 1367 rfl, m 1373 rfl, m 1374 rfl]
theorem byt_to {s s' : Nat → Int} {A B : Nat → Nat → Int} (m : sm A B rdL) (k : kf s s') (i : Nat) : byt s' B i = byt s A i := by
  unfold byt
  rw [k 52 rfl, m 1334 rfl]
section
variable {d : Nat} {h : s_H} {s : Nat → Int} {A : Nat → Nat → Int}
theorem V_loop {T : Nat → th} {m : Int} (m3 : 0 ≤ m ∧ m ≤ 3) : ∀ (l : Nat) (h1 : s_H) (s1 : Nat → Int) (A1 : Nat → Nat → Int) (Q : (Nat → Int) → (Nat → Nat → Int) → Prop), RV h1 s1 A1 → FR h h1 → rdE s1 A1 T → s1 54 = m → kf s s1 → sm A A1 rdL → (∀ s' A', run T s1 A1 s' A' → runE m A s' A' s A → Q s' A') → (((1 ≤ s1 55 ∧ s1 55 ≤ 7) ∧ (0 ≤ s1 56 ∧ s1 56 ≤ 300) ∧ s1 76 = -1) ∨ ((s1 55 = 0 ∧ s1 56 = -1 ∧ 2 ≤ m) ∧ ∃ c : Nat, c < 16 ∧ s1 76 = (c : Int) ∧ due A c ∧ ∃ i, byt s A i = 65 + (c : Int)) ∨ fin_ m s1 A1 ∨ ∃ i n e, 201 ≤ i + l ∧ cfg s1 A1 i n e) → wr sw_P (d + 10) sw_c578 sw_h578 (44, [.index 1290, vi m], [], h1, 0, 0) (RN h Q) := by
  intro l
  induction l with
  | zero =>
    intro h1 s1 A1 Q v r E em k sA done w
    have halt : ¬ going s1 → runE m A s1 A1 s A → wr sw_P (d + 10) sw_c578 sw_h578 (117, [.index 1290, vi m], [], h1, 0, 0) (RN h Q) := fun g e => k578_117 ⟨h1, s1, A1, v, r, done _ _ ⟨0, g, rfl, rfl⟩ e, rfl⟩
    rcases w with w | w | w | ⟨i, n, e, il, c⟩
    · exact k578_44 (z5 := s1 55) v.1 (fun _ => halt (fun g => by have := g.1; omega) ⟨k, sA, .inl w⟩) (fun x => absurd (by omega) x) (c7 := by unfold In3; omega)
    · obtain ⟨⟨w1, w2⟩, z, z1, z2, z3⟩ := id w
      refine k578_44 (z5 := s1 55) v.1 (fun x => absurd w1 x) (fun _ => ?_) (c7 := by rw [w1]; decide)
      exact k578_51 (z5 := s1 76) v.1 (fun _ => halt (fun g => by have := g.2.1; omega) ⟨k, sA, .inr (.inl w)⟩) (fun x => absurd (by omega) x) (c7 := by unfold In3; omega)
    · obtain ⟨w1, w2, w3, w4, w5⟩ := id w
      refine k578_44 (z5 := s1 55) v.1 (fun x => absurd w1 x) (fun _ => ?_) (c7 := by rw [w1]; decide)
      refine k578_51 (z5 := s1 76) v.1 (fun x => absurd w3 x) (fun _ => ?_) (c7 := by rw [w3]; decide)
      exact k578_59 (z5 := s1 72) v.1 (fun _ => halt (fun g => by have := g.2.2; omega) ⟨k, sA, .inr (.inr w)⟩) (fun x => absurd (by omega) x) (c7 := by rw [w4]; decide)
    · have := c.2.1.2
      have := E.1.1.2
      omega
  | succ l ih =>
    intro h1 s1 A1 Q v r E em k sA done w
    have halt : ¬ going s1 → runE m A s1 A1 s A → wr sw_P (d + 10) sw_c578 sw_h578 (117, [.index 1290, vi m], [], h1, 0, 0) (RN h Q) := fun g e => k578_117 ⟨h1, s1, A1, v, r, done _ _ ⟨0, g, rfl, rfl⟩ e, rfl⟩
    rcases w with w | w | w | ⟨i, n, e, il, c⟩
    · exact k578_44 (z5 := s1 55) v.1 (fun _ => halt (fun g => by have := g.1; omega) ⟨k, sA, .inl w⟩) (fun x => absurd (by omega) x) (c7 := by unfold In3; omega)
    · obtain ⟨⟨w1, w2⟩, z, z1, z2, z3⟩ := id w
      refine k578_44 (z5 := s1 55) v.1 (fun x => absurd w1 x) (fun _ => ?_) (c7 := by rw [w1]; decide)
      exact k578_51 (z5 := s1 76) v.1 (fun _ => halt (fun g => by have := g.2.1; omega) ⟨k, sA, .inr (.inl w)⟩) (fun x => absurd (by omega) x) (c7 := by unfold In3; omega)
    · obtain ⟨w1, w2, w3, w4, w5⟩ := id w
      refine k578_44 (z5 := s1 55) v.1 (fun x => absurd w1 x) (fun _ => ?_) (c7 := by rw [w1]; decide)
      refine k578_51 (z5 := s1 76) v.1 (fun x => absurd w3 x) (fun _ => ?_) (c7 := by rw [w3]; decide)
      exact k578_59 (z5 := s1 72) v.1 (fun _ => halt (fun g => by have := g.2.2; omega) ⟨k, sA, .inr (.inr w)⟩) (fun x => absurd (by omega) x) (c7 := by rw [w4]; decide)
    -- a step
    obtain ⟨⟨c1, c2, c3, c4⟩, ⟨c5, c6⟩, ⟨c7, c8⟩, c9, c10, c11, c12, c13⟩ := id c
    have i200 : i ≤ 200 := by have := E.1.1.2; omega
    have tg := tot_ge n c10
    have m31 : 0 ≤ s1 54 ∧ s1 54 ≤ 3 := by rw [em]; exact m3
    have i72 : 0 ≤ s1 72 ∧ s1 72 < 4 := by rcases c13 with (x | x) | ⟨x | x, _⟩ <;> rw [x] <;> decide
    have g : going s1 := ⟨c1, c3, i72.2⟩
    have rd71 : s_nth (rF s1) 71 = some (vi (i : Int)) := by
      show some (vi (s1 71)) = _
      rw [c5]
    -- behind a step
    have next : ∀ (h2 : s_H) (s2 : Nat → Int) (A2 : Nat → Nat → Int), RV h2 s2 A2 → FR h1 h2 → stepR T s1 A1 s2 A2 → stq s1 A1 i s2 A2 → wr sw_P (d + 10) sw_c578 sw_h578 (44, [.index 1290, vi m], [], h2, 0, 0) (RN h Q) := fun h2 s2 A2 v2 r2 st q => by
      obtain ⟨q1, q2, q3⟩ := q
      refine ih h2 s2 A2 Q v2 (FR_trans r r2) (rdE_to E q2 q1) ((q1 54 rfl).trans em) (fun j hj => (q1 j hj).trans (k j hj)) (sm_tr sA q2) (fun s' A' rn re => done s' A' (run_more g st rn) re) ?_
      rcases q3 with q3 | ⟨q3, z, z1, z2, z3, z4⟩ | q3 | ⟨i', n', e', il', c'⟩
      · exact .inl q3
      · exact .inr (.inl ⟨⟨q3.1, q3.2.1, by rw [← em]; exact q3.2.2⟩, z, z1, z2, (due_to sA z).mp z3, i, by rw [← byt_to sA k]; exact z4⟩)
      · rw [em] at q3
        exact .inr (.inr (.inl q3))
      · exact .inr (.inr (.inr ⟨i', n', e', by omega, c'⟩))
    refine k578_44 (z5 := s1 55) v.1 (fun x => absurd c1 x) (fun _ => ?_) (c7 := by rw [c1]; decide)
    refine k578_51 (z5 := s1 76) v.1 (fun x => absurd c3 x) (fun _ => ?_) (c7 := by rw [c3]; decide)
    refine k578_59 (z5 := s1 72) v.1 (fun x => by omega) (fun _ => ?_) (c7 := by unfold In3; omega)
    have onward : ∀ a b, frc A1 a b → ¬ s1 72 < 2 → ¬ (s1 72 = 2 ∧ byt s1 A1 i = 94) → wr sw_P (d + 10) sw_c578 sw_h578 (110, [.index 1290, vi m], [], h1, 0, 0) (RN h Q) := fun a b f w2 w9 => by
      have fn := c10 n (Nat.le_refl _)
      obtain ⟨p, q, p', q', hp1, hp2⟩ := frk_pq fn
      have e2 : (e : Int) + A1 1335 n + A1 1336 n + A1 1337 n ≤ 200 := by
        have : frn A1 n = A1 1335 n + A1 1336 n + A1 1337 n := rfl
        omega
      refine k578_110 v.1 (wm_mono (wq_N (fun h2 s2 A2 v2 r2 φ => k578_114 ?_)) (V_goOn v E.1 c1 m31 c4 c5 i200 c7 c8 c9 e2 fn.1.1 fn.1.2.1 fn.1.2.2 (fun x => (fn.2.1 x).1) (fun x => (fn.2.2 x).1) f hp1 hp2))
      exact next h2 s2 A2 v2 r2 ⟨i, n, e, c, .inr ⟨w2, a, b, f, .inr ⟨w9, p, q, p', q', fun x => ⟨(hp1 x).1, (hp1 x).2.1⟩, fun x => ⟨(hp2 x).1, (hp2 x).2.1⟩, φ⟩⟩⟩ (rg_stq E m31 c f φ)
    refine k578_67 (z5 := s1 72) v.1 (fun w2 => ?_) (fun w2 => ?_) (c7 := by unfold In3; omega)
    · obtain ⟨st, a, b, f⟩ : (s1 72 = 2 ∨ s1 72 = 3) ∧ ∃ a b, frc A1 a b := by
        rcases c13 with x | x
        · omega
        · exact x
      refine k578_82 (z5 := s1 72) v.1 (fun w3 => onward a b f (by omega) (fun x => w3 x.1)) (fun w3 => ?_) (c7 := by unfold In3; omega)
      have s2e : s1 72 = 2 := Classical.byContradiction w3
      refine k578_90 (z5 := (i : Int)) v.1 (wm_mono (wq_r ?_) (V_byteAt v E.1 (i := i) (by omega))) (n6 := rd71)
      have cb := byt_b E.1 i
      refine k578_98 (fun w4 => onward a b f (by omega) (fun x => w4 x.2)) (fun w4 => ?_) (c1 := by unfold In3; omega)
      have h94 : byt s1 A1 i = 94 := Classical.byContradiction w4
      have lt := byt_in h94 (by decide)
      have s52 := E.1.1.2
      have db6 : zp_deg b 176 := deg_le f.2.2.2.1 (by decide)
      refine k578_103 v.1 (wm_mono (wq_N (fun h2 s2 A2 v2 r2 φ => k578_107 ?_)) (V_readPower v E.1 c1 (by unfold In3; omega) c5 (by omega) c9 (by omega) f.1 f.2.1 db6 (mo_pos f.2.2.2.2.1 db6)))
      exact next h2 s2 A2 v2 r2 ⟨i, n, e, c, .inr ⟨by omega, a, b, f, .inl ⟨s2e, h94, φ⟩⟩⟩ (rp_stq E c f h94 φ)
    · have st : s1 72 = 0 ∨ s1 72 = 1 := by omega
      refine k578_75 v.1 (wm_mono (wq_N (fun h2 s2 A2 v2 r2 φ => k578_79 ?_)) (V_readAtom v E.1 E.2.1 E.2.2.1 E.2.2.2.2 c1 m31 st c5 i200 c7 c8 c9 (fun w3 => by omega)))
      exact next h2 s2 A2 v2 r2 ⟨i, n, e, c, .inl ⟨by omega, φ⟩⟩ (ra_stq E m31 c st φ)
end
