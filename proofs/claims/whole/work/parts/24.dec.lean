/-! A LONG CODE, decoded piece by piece: what a decoder reads in a short row it reads in the long one -/
section S32
variable {α β : Type} {A B : ByteArray} {d : Nat}
def s_Sm {α : Type} (A B : ByteArray) (d : Nat) (r r' : Jvm.ClassFile.Decoder α) : Prop := ∀ k x q, Jvm.ClassFile.Reader.runAt r A k = .ok (x, q) → Jvm.ClassFile.Reader.runAt r' B (d + k) = .ok (x, d + q)
def s_Sub (A B : ByteArray) (d : Nat) : Prop := ∀ i, ∀ h : i < A.size, ∃ h' : d + i < B.size, B[d + i] = A[i]
theorem s_bindAt (r : Jvm.ClassFile.Decoder α) (f : α → Jvm.ClassFile.Decoder β) (C : ByteArray) (k : Nat) : Jvm.ClassFile.Reader.runAt (r >>= f) C k = (match Jvm.ClassFile.Reader.runAt r C k with
    | .error e => .error e
    | .ok p => Jvm.ClassFile.Reader.runAt (f p.1) C p.2) := by
  show (r C k >>= fun p => f p.1 C p.2) = (match r C k with
    | .error e => .error e
    | .ok p => f p.1 C p.2)
  cases r C k <;> rfl
theorem s_pureAt (x : α) (C : ByteArray) (k : Nat) : Jvm.ClassFile.Reader.runAt (pure x : Jvm.ClassFile.Decoder α) C k = .ok (x, k) := rfl
theorem s_Sm_pure (x : α) : s_Sm A B d (pure x) (pure x) := by
  intro k y q h
  rw [s_pureAt] at h
  cases h
  rfl
theorem s_Sm_bind {r r' : Jvm.ClassFile.Decoder α} {f f' : α → Jvm.ClassFile.Decoder β} (h1 : s_Sm A B d r r') (h2 : ∀ x, s_Sm A B d (f x) (f' x)) : s_Sm A B d (r >>= f) (r' >>= f') := by
  intro k y q h
  rw [s_bindAt] at h ⊢
  cases e : Jvm.ClassFile.Reader.runAt r A k with
  | error z => rw [e] at h; cases h
  | ok p =>
    obtain ⟨x, j⟩ := p
    rw [e] at h
    rw [h1 k x j e]
    exact h2 x j y q h
theorem s_u1At {C : ByteArray} {k : Nat} (hk : k < C.size) : Jvm.ClassFile.Reader.runAt (Jvm.ClassFile.Reader.u1 : Jvm.ClassFile.Decoder Nat) C k = .ok (C[k].toNat, k + 1) := by
  show (dite (k < C.size) (fun h => (do
      set (k + 1)
      pure C[k].toNat : Jvm.ClassFile.Decoder Nat)) (fun _ => throw (Jvm.ClassFile.HasTruncated.truncated k))) C k = _
  rw [dif_pos hk]
  rfl
theorem s_u1No {C : ByteArray} {k : Nat} (hk : ¬ k < C.size) : ∃ z, Jvm.ClassFile.Reader.runAt (Jvm.ClassFile.Reader.u1 : Jvm.ClassFile.Decoder Nat) C k = .error z := by
  refine ⟨Jvm.ClassFile.HasTruncated.truncated k, ?_⟩
  show (dite (k < C.size) (fun h => (do
      set (k + 1)
      pure C[k].toNat : Jvm.ClassFile.Decoder Nat)) (fun _ => throw (Jvm.ClassFile.HasTruncated.truncated k))) C k = _
  rw [dif_neg hk]
  rfl
theorem s_Sm_u1 (hAB : s_Sub A B d) : s_Sm A B d Jvm.ClassFile.Reader.u1 Jvm.ClassFile.Reader.u1 := by
  intro k x q h
  by_cases hk : k < A.size
  · rw [s_u1At hk] at h
    cases h
    obtain ⟨h', e⟩ := hAB k hk
    rw [s_u1At h', e]
    rfl
  · obtain ⟨z, hz⟩ := s_u1No hk
    rw [hz] at h
    cases h
theorem s_Sm_u2 (hAB : s_Sub A B d) : s_Sm A B d Jvm.ClassFile.Reader.u2 Jvm.ClassFile.Reader.u2 :=
  s_Sm_bind (s_Sm_u1 hAB) fun _ => s_Sm_bind (s_Sm_u1 hAB) fun _ => s_Sm_pure _
theorem s_Sm_map {r : Jvm.ClassFile.Decoder α} (g : α → β) (h : s_Sm A B d r r) : s_Sm A B d (g <$> r) (g <$> r) := by
  have e : (g <$> r) = (r >>= fun x => pure (g x)) := rfl
  rw [e]
  exact s_Sm_bind h fun _ => s_Sm_pure _
theorem s_Sm_s1 (hAB : s_Sub A B d) : s_Sm A B d Jvm.ClassFile.Reader.s1 Jvm.ClassFile.Reader.s1 := s_Sm_map _ (s_Sm_u1 hAB)
theorem s_Sm_s2 (hAB : s_Sub A B d) : s_Sm A B d Jvm.ClassFile.Reader.s2 Jvm.ClassFile.Reader.s2 := s_Sm_map _ (s_Sm_u2 hAB)
theorem s_Sm_at {f f' : Nat → Jvm.ClassFile.Decoder α} (hAB : s_Sub A B d) (h0 : 0 < A.size) {b : Nat} (hb : A[0].toNat = b) (hf : s_Sm A B d (f b) (f' b)) {x : α} {q : Nat} (h : Jvm.ClassFile.Reader.runAt (Jvm.ClassFile.Reader.u1 >>= f) A 0 = .ok (x, q)) : Jvm.ClassFile.Reader.runAt (Jvm.ClassFile.Reader.u1 >>= f') B d = .ok (x, d + q) := by
  rw [s_bindAt] at h ⊢
  obtain ⟨h', e⟩ := hAB 0 h0
  rw [s_u1At h0] at h
  have e2 : Jvm.ClassFile.Reader.runAt (Jvm.ClassFile.Reader.u1 : Jvm.ClassFile.Decoder Nat) B d = .ok (b, d + 1) := by
    rw [s_u1At (show d < B.size from h'), ← hb, ← e]
    rfl
  rw [e2]
  subst hb
  exact hf 1 x q h
set_option maxRecDepth 100000 in
theorem s_dc2 (hAB : s_Sub A B d) (h0 : 0 < A.size) (hb : A[0].toNat = 2) {i : Instr} {n : Nat} (h : Jvm.ClassFile.Reader.runAt (Jvm.ClassFile.Decoder.instr 0) A 0 = .ok (i, n)) : Jvm.ClassFile.Reader.runAt (Jvm.ClassFile.Decoder.instr d) B d = .ok (i, d + n) := by
  refine s_Sm_at hAB h0 hb ?_ h
  exact s_Sm_pure _
set_option maxRecDepth 100000 in
theorem s_dc3 (hAB : s_Sub A B d) (h0 : 0 < A.size) (hb : A[0].toNat = 3) {i : Instr} {n : Nat} (h : Jvm.ClassFile.Reader.runAt (Jvm.ClassFile.Decoder.instr 0) A 0 = .ok (i, n)) : Jvm.ClassFile.Reader.runAt (Jvm.ClassFile.Decoder.instr d) B d = .ok (i, d + n) := by
  refine s_Sm_at hAB h0 hb ?_ h
  exact s_Sm_pure _
set_option maxRecDepth 100000 in
theorem s_dc4 (hAB : s_Sub A B d) (h0 : 0 < A.size) (hb : A[0].toNat = 4) {i : Instr} {n : Nat} (h : Jvm.ClassFile.Reader.runAt (Jvm.ClassFile.Decoder.instr 0) A 0 = .ok (i, n)) : Jvm.ClassFile.Reader.runAt (Jvm.ClassFile.Decoder.instr d) B d = .ok (i, d + n) := by
  refine s_Sm_at hAB h0 hb ?_ h
  exact s_Sm_pure _
set_option maxRecDepth 100000 in
theorem s_dc5 (hAB : s_Sub A B d) (h0 : 0 < A.size) (hb : A[0].toNat = 5) {i : Instr} {n : Nat} (h : Jvm.ClassFile.Reader.runAt (Jvm.ClassFile.Decoder.instr 0) A 0 = .ok (i, n)) : Jvm.ClassFile.Reader.runAt (Jvm.ClassFile.Decoder.instr d) B d = .ok (i, d + n) := by
  refine s_Sm_at hAB h0 hb ?_ h
  exact s_Sm_pure _
set_option maxRecDepth 100000 in
theorem s_dc6 (hAB : s_Sub A B d) (h0 : 0 < A.size) (hb : A[0].toNat = 6) {i : Instr} {n : Nat} (h : Jvm.ClassFile.Reader.runAt (Jvm.ClassFile.Decoder.instr 0) A 0 = .ok (i, n)) : Jvm.ClassFile.Reader.runAt (Jvm.ClassFile.Decoder.instr d) B d = .ok (i, d + n) := by
  refine s_Sm_at hAB h0 hb ?_ h
  exact s_Sm_pure _
set_option maxRecDepth 100000 in
theorem s_dc7 (hAB : s_Sub A B d) (h0 : 0 < A.size) (hb : A[0].toNat = 7) {i : Instr} {n : Nat} (h : Jvm.ClassFile.Reader.runAt (Jvm.ClassFile.Decoder.instr 0) A 0 = .ok (i, n)) : Jvm.ClassFile.Reader.runAt (Jvm.ClassFile.Decoder.instr d) B d = .ok (i, d + n) := by
  refine s_Sm_at hAB h0 hb ?_ h
  exact s_Sm_pure _
set_option maxRecDepth 100000 in
theorem s_dc8 (hAB : s_Sub A B d) (h0 : 0 < A.size) (hb : A[0].toNat = 8) {i : Instr} {n : Nat} (h : Jvm.ClassFile.Reader.runAt (Jvm.ClassFile.Decoder.instr 0) A 0 = .ok (i, n)) : Jvm.ClassFile.Reader.runAt (Jvm.ClassFile.Decoder.instr d) B d = .ok (i, d + n) := by
  refine s_Sm_at hAB h0 hb ?_ h
  exact s_Sm_pure _
set_option maxRecDepth 100000 in
theorem s_dc16 (hAB : s_Sub A B d) (h0 : 0 < A.size) (hb : A[0].toNat = 16) {i : Instr} {n : Nat} (h : Jvm.ClassFile.Reader.runAt (Jvm.ClassFile.Decoder.instr 0) A 0 = .ok (i, n)) : Jvm.ClassFile.Reader.runAt (Jvm.ClassFile.Decoder.instr d) B d = .ok (i, d + n) := by
  refine s_Sm_at hAB h0 hb ?_ h
  exact s_Sm_bind (s_Sm_s1 hAB) fun _ => s_Sm_pure _
set_option maxRecDepth 100000 in
theorem s_dc21 (hAB : s_Sub A B d) (h0 : 0 < A.size) (hb : A[0].toNat = 21) {i : Instr} {n : Nat} (h : Jvm.ClassFile.Reader.runAt (Jvm.ClassFile.Decoder.instr 0) A 0 = .ok (i, n)) : Jvm.ClassFile.Reader.runAt (Jvm.ClassFile.Decoder.instr d) B d = .ok (i, d + n) := by
  refine s_Sm_at hAB h0 hb ?_ h
  exact s_Sm_bind (s_Sm_u1 hAB) fun _ => s_Sm_pure _
set_option maxRecDepth 100000 in
theorem s_dc42 (hAB : s_Sub A B d) (h0 : 0 < A.size) (hb : A[0].toNat = 42) {i : Instr} {n : Nat} (h : Jvm.ClassFile.Reader.runAt (Jvm.ClassFile.Decoder.instr 0) A 0 = .ok (i, n)) : Jvm.ClassFile.Reader.runAt (Jvm.ClassFile.Decoder.instr d) B d = .ok (i, d + n) := by
  refine s_Sm_at hAB h0 hb ?_ h
  exact s_Sm_pure _
set_option maxRecDepth 100000 in
theorem s_dc43 (hAB : s_Sub A B d) (h0 : 0 < A.size) (hb : A[0].toNat = 43) {i : Instr} {n : Nat} (h : Jvm.ClassFile.Reader.runAt (Jvm.ClassFile.Decoder.instr 0) A 0 = .ok (i, n)) : Jvm.ClassFile.Reader.runAt (Jvm.ClassFile.Decoder.instr d) B d = .ok (i, d + n) := by
  refine s_Sm_at hAB h0 hb ?_ h
  exact s_Sm_pure _
set_option maxRecDepth 100000 in
theorem s_dc44 (hAB : s_Sub A B d) (h0 : 0 < A.size) (hb : A[0].toNat = 44) {i : Instr} {n : Nat} (h : Jvm.ClassFile.Reader.runAt (Jvm.ClassFile.Decoder.instr 0) A 0 = .ok (i, n)) : Jvm.ClassFile.Reader.runAt (Jvm.ClassFile.Decoder.instr d) B d = .ok (i, d + n) := by
  refine s_Sm_at hAB h0 hb ?_ h
  exact s_Sm_pure _
set_option maxRecDepth 100000 in
theorem s_dc45 (hAB : s_Sub A B d) (h0 : 0 < A.size) (hb : A[0].toNat = 45) {i : Instr} {n : Nat} (h : Jvm.ClassFile.Reader.runAt (Jvm.ClassFile.Decoder.instr 0) A 0 = .ok (i, n)) : Jvm.ClassFile.Reader.runAt (Jvm.ClassFile.Decoder.instr d) B d = .ok (i, d + n) := by
  refine s_Sm_at hAB h0 hb ?_ h
  exact s_Sm_pure _
set_option maxRecDepth 100000 in
theorem s_dc46 (hAB : s_Sub A B d) (h0 : 0 < A.size) (hb : A[0].toNat = 46) {i : Instr} {n : Nat} (h : Jvm.ClassFile.Reader.runAt (Jvm.ClassFile.Decoder.instr 0) A 0 = .ok (i, n)) : Jvm.ClassFile.Reader.runAt (Jvm.ClassFile.Decoder.instr d) B d = .ok (i, d + n) := by
  refine s_Sm_at hAB h0 hb ?_ h
  exact s_Sm_pure _
set_option maxRecDepth 100000 in
theorem s_dc47 (hAB : s_Sub A B d) (h0 : 0 < A.size) (hb : A[0].toNat = 47) {i : Instr} {n : Nat} (h : Jvm.ClassFile.Reader.runAt (Jvm.ClassFile.Decoder.instr 0) A 0 = .ok (i, n)) : Jvm.ClassFile.Reader.runAt (Jvm.ClassFile.Decoder.instr d) B d = .ok (i, d + n) := by
  refine s_Sm_at hAB h0 hb ?_ h
  exact s_Sm_pure _
set_option maxRecDepth 100000 in
theorem s_dc54 (hAB : s_Sub A B d) (h0 : 0 < A.size) (hb : A[0].toNat = 54) {i : Instr} {n : Nat} (h : Jvm.ClassFile.Reader.runAt (Jvm.ClassFile.Decoder.instr 0) A 0 = .ok (i, n)) : Jvm.ClassFile.Reader.runAt (Jvm.ClassFile.Decoder.instr d) B d = .ok (i, d + n) := by
  refine s_Sm_at hAB h0 hb ?_ h
  exact s_Sm_bind (s_Sm_u1 hAB) fun _ => s_Sm_pure _
set_option maxRecDepth 100000 in
theorem s_dc96 (hAB : s_Sub A B d) (h0 : 0 < A.size) (hb : A[0].toNat = 96) {i : Instr} {n : Nat} (h : Jvm.ClassFile.Reader.runAt (Jvm.ClassFile.Decoder.instr 0) A 0 = .ok (i, n)) : Jvm.ClassFile.Reader.runAt (Jvm.ClassFile.Decoder.instr d) B d = .ok (i, d + n) := by
  refine s_Sm_at hAB h0 hb ?_ h
  exact s_Sm_pure _
set_option maxRecDepth 100000 in
theorem s_dc133 (hAB : s_Sub A B d) (h0 : 0 < A.size) (hb : A[0].toNat = 133) {i : Instr} {n : Nat} (h : Jvm.ClassFile.Reader.runAt (Jvm.ClassFile.Decoder.instr 0) A 0 = .ok (i, n)) : Jvm.ClassFile.Reader.runAt (Jvm.ClassFile.Decoder.instr d) B d = .ok (i, d + n) := by
  refine s_Sm_at hAB h0 hb ?_ h
  exact s_Sm_pure _
set_option maxRecDepth 100000 in
theorem s_dc148 (hAB : s_Sub A B d) (h0 : 0 < A.size) (hb : A[0].toNat = 148) {i : Instr} {n : Nat} (h : Jvm.ClassFile.Reader.runAt (Jvm.ClassFile.Decoder.instr 0) A 0 = .ok (i, n)) : Jvm.ClassFile.Reader.runAt (Jvm.ClassFile.Decoder.instr d) B d = .ok (i, d + n) := by
  refine s_Sm_at hAB h0 hb ?_ h
  exact s_Sm_pure _
set_option maxRecDepth 100000 in
theorem s_dc153 (hAB : s_Sub A B d) (h0 : 0 < A.size) (hb : A[0].toNat = 153) {i : Instr} {n : Nat} (h : Jvm.ClassFile.Reader.runAt (Jvm.ClassFile.Decoder.instr 0) A 0 = .ok (i, n)) : Jvm.ClassFile.Reader.runAt (Jvm.ClassFile.Decoder.instr d) B d = .ok (i, d + n) := by
  refine s_Sm_at hAB h0 hb ?_ h
  exact s_Sm_bind (s_Sm_s2 hAB) fun _ => s_Sm_pure _
set_option maxRecDepth 100000 in
theorem s_dc154 (hAB : s_Sub A B d) (h0 : 0 < A.size) (hb : A[0].toNat = 154) {i : Instr} {n : Nat} (h : Jvm.ClassFile.Reader.runAt (Jvm.ClassFile.Decoder.instr 0) A 0 = .ok (i, n)) : Jvm.ClassFile.Reader.runAt (Jvm.ClassFile.Decoder.instr d) B d = .ok (i, d + n) := by
  refine s_Sm_at hAB h0 hb ?_ h
  exact s_Sm_bind (s_Sm_s2 hAB) fun _ => s_Sm_pure _
set_option maxRecDepth 100000 in
theorem s_dc155 (hAB : s_Sub A B d) (h0 : 0 < A.size) (hb : A[0].toNat = 155) {i : Instr} {n : Nat} (h : Jvm.ClassFile.Reader.runAt (Jvm.ClassFile.Decoder.instr 0) A 0 = .ok (i, n)) : Jvm.ClassFile.Reader.runAt (Jvm.ClassFile.Decoder.instr d) B d = .ok (i, d + n) := by
  refine s_Sm_at hAB h0 hb ?_ h
  exact s_Sm_bind (s_Sm_s2 hAB) fun _ => s_Sm_pure _
set_option maxRecDepth 100000 in
theorem s_dc156 (hAB : s_Sub A B d) (h0 : 0 < A.size) (hb : A[0].toNat = 156) {i : Instr} {n : Nat} (h : Jvm.ClassFile.Reader.runAt (Jvm.ClassFile.Decoder.instr 0) A 0 = .ok (i, n)) : Jvm.ClassFile.Reader.runAt (Jvm.ClassFile.Decoder.instr d) B d = .ok (i, d + n) := by
  refine s_Sm_at hAB h0 hb ?_ h
  exact s_Sm_bind (s_Sm_s2 hAB) fun _ => s_Sm_pure _
set_option maxRecDepth 100000 in
theorem s_dc157 (hAB : s_Sub A B d) (h0 : 0 < A.size) (hb : A[0].toNat = 157) {i : Instr} {n : Nat} (h : Jvm.ClassFile.Reader.runAt (Jvm.ClassFile.Decoder.instr 0) A 0 = .ok (i, n)) : Jvm.ClassFile.Reader.runAt (Jvm.ClassFile.Decoder.instr d) B d = .ok (i, d + n) := by
  refine s_Sm_at hAB h0 hb ?_ h
  exact s_Sm_bind (s_Sm_s2 hAB) fun _ => s_Sm_pure _
set_option maxRecDepth 100000 in
theorem s_dc158 (hAB : s_Sub A B d) (h0 : 0 < A.size) (hb : A[0].toNat = 158) {i : Instr} {n : Nat} (h : Jvm.ClassFile.Reader.runAt (Jvm.ClassFile.Decoder.instr 0) A 0 = .ok (i, n)) : Jvm.ClassFile.Reader.runAt (Jvm.ClassFile.Decoder.instr d) B d = .ok (i, d + n) := by
  refine s_Sm_at hAB h0 hb ?_ h
  exact s_Sm_bind (s_Sm_s2 hAB) fun _ => s_Sm_pure _
set_option maxRecDepth 100000 in
theorem s_dc159 (hAB : s_Sub A B d) (h0 : 0 < A.size) (hb : A[0].toNat = 159) {i : Instr} {n : Nat} (h : Jvm.ClassFile.Reader.runAt (Jvm.ClassFile.Decoder.instr 0) A 0 = .ok (i, n)) : Jvm.ClassFile.Reader.runAt (Jvm.ClassFile.Decoder.instr d) B d = .ok (i, d + n) := by
  refine s_Sm_at hAB h0 hb ?_ h
  exact s_Sm_bind (s_Sm_s2 hAB) fun _ => s_Sm_pure _
set_option maxRecDepth 100000 in
theorem s_dc160 (hAB : s_Sub A B d) (h0 : 0 < A.size) (hb : A[0].toNat = 160) {i : Instr} {n : Nat} (h : Jvm.ClassFile.Reader.runAt (Jvm.ClassFile.Decoder.instr 0) A 0 = .ok (i, n)) : Jvm.ClassFile.Reader.runAt (Jvm.ClassFile.Decoder.instr d) B d = .ok (i, d + n) := by
  refine s_Sm_at hAB h0 hb ?_ h
  exact s_Sm_bind (s_Sm_s2 hAB) fun _ => s_Sm_pure _
set_option maxRecDepth 100000 in
theorem s_dc161 (hAB : s_Sub A B d) (h0 : 0 < A.size) (hb : A[0].toNat = 161) {i : Instr} {n : Nat} (h : Jvm.ClassFile.Reader.runAt (Jvm.ClassFile.Decoder.instr 0) A 0 = .ok (i, n)) : Jvm.ClassFile.Reader.runAt (Jvm.ClassFile.Decoder.instr d) B d = .ok (i, d + n) := by
  refine s_Sm_at hAB h0 hb ?_ h
  exact s_Sm_bind (s_Sm_s2 hAB) fun _ => s_Sm_pure _
set_option maxRecDepth 100000 in
theorem s_dc162 (hAB : s_Sub A B d) (h0 : 0 < A.size) (hb : A[0].toNat = 162) {i : Instr} {n : Nat} (h : Jvm.ClassFile.Reader.runAt (Jvm.ClassFile.Decoder.instr 0) A 0 = .ok (i, n)) : Jvm.ClassFile.Reader.runAt (Jvm.ClassFile.Decoder.instr d) B d = .ok (i, d + n) := by
  refine s_Sm_at hAB h0 hb ?_ h
  exact s_Sm_bind (s_Sm_s2 hAB) fun _ => s_Sm_pure _
set_option maxRecDepth 100000 in
theorem s_dc163 (hAB : s_Sub A B d) (h0 : 0 < A.size) (hb : A[0].toNat = 163) {i : Instr} {n : Nat} (h : Jvm.ClassFile.Reader.runAt (Jvm.ClassFile.Decoder.instr 0) A 0 = .ok (i, n)) : Jvm.ClassFile.Reader.runAt (Jvm.ClassFile.Decoder.instr d) B d = .ok (i, d + n) := by
  refine s_Sm_at hAB h0 hb ?_ h
  exact s_Sm_bind (s_Sm_s2 hAB) fun _ => s_Sm_pure _
set_option maxRecDepth 100000 in
theorem s_dc164 (hAB : s_Sub A B d) (h0 : 0 < A.size) (hb : A[0].toNat = 164) {i : Instr} {n : Nat} (h : Jvm.ClassFile.Reader.runAt (Jvm.ClassFile.Decoder.instr 0) A 0 = .ok (i, n)) : Jvm.ClassFile.Reader.runAt (Jvm.ClassFile.Decoder.instr d) B d = .ok (i, d + n) := by
  refine s_Sm_at hAB h0 hb ?_ h
  exact s_Sm_bind (s_Sm_s2 hAB) fun _ => s_Sm_pure _
set_option maxRecDepth 100000 in
theorem s_dc167 (hAB : s_Sub A B d) (h0 : 0 < A.size) (hb : A[0].toNat = 167) {i : Instr} {n : Nat} (h : Jvm.ClassFile.Reader.runAt (Jvm.ClassFile.Decoder.instr 0) A 0 = .ok (i, n)) : Jvm.ClassFile.Reader.runAt (Jvm.ClassFile.Decoder.instr d) B d = .ok (i, d + n) := by
  refine s_Sm_at hAB h0 hb ?_ h
  exact s_Sm_bind (s_Sm_s2 hAB) fun _ => s_Sm_pure _
set_option maxRecDepth 100000 in
theorem s_dc172 (hAB : s_Sub A B d) (h0 : 0 < A.size) (hb : A[0].toNat = 172) {i : Instr} {n : Nat} (h : Jvm.ClassFile.Reader.runAt (Jvm.ClassFile.Decoder.instr 0) A 0 = .ok (i, n)) : Jvm.ClassFile.Reader.runAt (Jvm.ClassFile.Decoder.instr d) B d = .ok (i, d + n) := by
  refine s_Sm_at hAB h0 hb ?_ h
  exact s_Sm_pure _
set_option maxRecDepth 100000 in
theorem s_dc182 (hAB : s_Sub A B d) (h0 : 0 < A.size) (hb : A[0].toNat = 182) {i : Instr} {n : Nat} (h : Jvm.ClassFile.Reader.runAt (Jvm.ClassFile.Decoder.instr 0) A 0 = .ok (i, n)) : Jvm.ClassFile.Reader.runAt (Jvm.ClassFile.Decoder.instr d) B d = .ok (i, d + n) := by
  refine s_Sm_at hAB h0 hb ?_ h
  exact s_Sm_bind (s_Sm_u2 hAB) fun _ => s_Sm_pure _
set_option maxRecDepth 100000 in
theorem s_dc184 (hAB : s_Sub A B d) (h0 : 0 < A.size) (hb : A[0].toNat = 184) {i : Instr} {n : Nat} (h : Jvm.ClassFile.Reader.runAt (Jvm.ClassFile.Decoder.instr 0) A 0 = .ok (i, n)) : Jvm.ClassFile.Reader.runAt (Jvm.ClassFile.Decoder.instr d) B d = .ok (i, d + n) := by
  refine s_Sm_at hAB h0 hb ?_ h
  exact s_Sm_bind (s_Sm_u2 hAB) fun _ => s_Sm_pure _
end S32
