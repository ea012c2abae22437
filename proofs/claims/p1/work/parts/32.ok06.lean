def sg_w180 : List Cond := [.classLink "FormulaWorksLaw" 21 "java/lang/IndexOutOfBoundsException", .classLink "FormulaWorksLaw" 15 "java/lang/IllegalArgumentException", .classLink "FormulaWorksLaw" 43 "java/lang/ArithmeticException"]
set_option maxRecDepth 100000 in
theorem sg_q180 : s_okE sg_mi 180 sg_c180 5 sg_h180 := s_mkF (np := sg_np) sg_m180 (sg_K11 false) sg_w180 [1069, 735, 1318] 1734 rfl (by decide +kernel) (plainFor_of_name sg_N11) sg_C11 rfl (by decide +kernel) (sg_K11_s rfl (fun h => by cases h)) (by decide +kernel) (by decide +kernel) (by decide +kernel) (by decide +kernel)
def sg_w181 : List Cond := [.classLink "FormulaWorksLaw" 21 "java/lang/IndexOutOfBoundsException", .classLink "FormulaWorksLaw" 15 "java/lang/IllegalArgumentException"]
set_option maxRecDepth 100000 in
theorem sg_q181 : s_okE sg_mi 181 sg_c181 4 sg_h181 := s_mkF (np := sg_np) sg_m181 (sg_K11 false) sg_w181 [1069, 735] 2064 rfl (by decide +kernel) (plainFor_of_name sg_N11) sg_C11 rfl (by decide +kernel) (sg_K11_s rfl (fun h => by cases h)) (by decide +kernel) (by decide +kernel) (by decide +kernel) (by decide +kernel)
def sg_w182 : List Cond := [.classLink "FormulaWorksLaw" 21 "java/lang/IndexOutOfBoundsException", .classLink "FormulaWorksLaw" 15 "java/lang/IllegalArgumentException", .classLink "FormulaWorksLaw" 43 "java/lang/ArithmeticException"]
set_option maxRecDepth 100000 in
theorem sg_q182 : s_okE sg_mi 182 sg_c182 5 sg_h182 := s_mkF (np := sg_np) sg_m182 (sg_K11 false) sg_w182 [1069, 735, 1318] 1721 rfl (by decide +kernel) (plainFor_of_name sg_N11) sg_C11 rfl (by decide +kernel) (sg_K11_s rfl (fun h => by cases h)) (by decide +kernel) (by decide +kernel) (by decide +kernel) (by decide +kernel)
def sg_w183 : List Cond := [.classLink "FormulaWorksLaw" 21 "java/lang/IndexOutOfBoundsException", .classLink "FormulaWorksLaw" 15 "java/lang/IllegalArgumentException", .classLink "FormulaWorksLaw" 13 "java/lang/IllegalStateException"]
set_option maxRecDepth 100000 in
theorem sg_q183 : s_okE sg_mi 183 sg_c183 5 sg_h183 := s_mkF (np := sg_np) sg_m183 (sg_K11 false) sg_w183 [1069, 735, 734] 1310 rfl (by decide +kernel) (plainFor_of_name sg_N11) sg_C11 rfl (by decide +kernel) (sg_K11_s rfl (fun h => by cases h)) (by decide +kernel) (by decide +kernel) (by decide +kernel) (by decide +kernel)
def sg_w184 : List Cond := [.classLink "FormulaWorksLaw" 21 "java/lang/IndexOutOfBoundsException", .classLink "FormulaWorksLaw" 15 "java/lang/IllegalArgumentException", .classLink "FormulaWorksLaw" 13 "java/lang/IllegalStateException"]
set_option maxRecDepth 100000 in
theorem sg_q184 : s_okE sg_mi 184 sg_c184 4 sg_h184 := s_mkF (np := sg_np) sg_m184 (sg_K11 false) sg_w184 [1069, 735, 734] 2087 rfl (by decide +kernel) (plainFor_of_name sg_N11) sg_C11 rfl (by decide +kernel) (sg_K11_s rfl (fun h => by cases h)) (by decide +kernel) (by decide +kernel) (by decide +kernel) (by decide +kernel)
def sg_w185 : List Cond := [.classLink "FormulaWorksLaw" 21 "java/lang/IndexOutOfBoundsException", .classLink "FormulaWorksLaw" 15 "java/lang/IllegalArgumentException", .classLink "FormulaWorksLaw" 43 "java/lang/ArithmeticException", .classLink "FormulaWorksLaw" 13 "java/lang/IllegalStateException"]
set_option maxRecDepth 100000 in
theorem sg_q185 : s_okE sg_mi 185 sg_c185 5 sg_h185 := s_mkF (np := sg_np) sg_m185 (sg_K11 false) sg_w185 [1069, 735, 1318, 734] 2293 rfl (by decide +kernel) (plainFor_of_name sg_N11) sg_C11 rfl (by decide +kernel) (sg_K11_s rfl (fun h => by cases h)) (by decide +kernel) (by decide +kernel) (by decide +kernel) (by decide +kernel)
def sg_w186 : List Cond := [.classLink "FormulaWorksLaw" 21 "java/lang/IndexOutOfBoundsException", .classLink "FormulaWorksLaw" 15 "java/lang/IllegalArgumentException"]
set_option maxRecDepth 100000 in
theorem sg_q186 : s_okE sg_mi 186 sg_c186 6 sg_h186 := s_mkF (np := sg_np) sg_m186 (sg_K11 false) sg_w186 [1069, 735] 1382 rfl (by decide +kernel) (plainFor_of_name sg_N11) sg_C11 rfl (by decide +kernel) (sg_K11_s rfl (fun h => by cases h)) (by decide +kernel) (by decide +kernel) (by decide +kernel) (by decide +kernel)
def sg_w187 : List Cond := [.classLink "FormulaWorksLaw" 21 "java/lang/IndexOutOfBoundsException", .classLink "FormulaWorksLaw" 15 "java/lang/IllegalArgumentException", .classLink "FormulaWorksLaw" 13 "java/lang/IllegalStateException"]
set_option maxRecDepth 100000 in
theorem sg_q187 : s_okE sg_mi 187 sg_c187 5 sg_h187 := s_mkF (np := sg_np) sg_m187 (sg_K11 false) sg_w187 [1069, 735, 734] 2199 rfl (by decide +kernel) (plainFor_of_name sg_N11) sg_C11 rfl (by decide +kernel) (sg_K11_s rfl (fun h => by cases h)) (by decide +kernel) (by decide +kernel) (by decide +kernel) (by decide +kernel)
def sg_w188 : List Cond := [.classLink "FormulaWorksLaw" 21 "java/lang/IndexOutOfBoundsException", .classLink "FormulaWorksLaw" 15 "java/lang/IllegalArgumentException", .classLink "FormulaWorksLaw" 43 "java/lang/ArithmeticException", .classLink "FormulaWorksLaw" 13 "java/lang/IllegalStateException"]
set_option maxRecDepth 100000 in
theorem sg_q188 : s_okE sg_mi 188 sg_c188 4 sg_h188 := s_mkF (np := sg_np) sg_m188 (sg_K11 false) sg_w188 [1069, 735, 1318, 734] 2386 rfl (by decide +kernel) (plainFor_of_name sg_N11) sg_C11 rfl (by decide +kernel) (sg_K11_s rfl (fun h => by cases h)) (by decide +kernel) (by decide +kernel) (by decide +kernel) (by decide +kernel)
def sg_w189 : List Cond := [.classLink "FormulaWorksLaw" 21 "java/lang/IndexOutOfBoundsException", .classLink "FormulaWorksLaw" 15 "java/lang/IllegalArgumentException", .classLink "FormulaWorksLaw" 13 "java/lang/IllegalStateException"]
set_option maxRecDepth 100000 in
theorem sg_q189 : s_okE sg_mi 189 sg_c189 4 sg_h189 := s_mkF (np := sg_np) sg_m189 (sg_K11 false) sg_w189 [1069, 735, 734] 2379 rfl (by decide +kernel) (plainFor_of_name sg_N11) sg_C11 rfl (by decide +kernel) (sg_K11_s rfl (fun h => by cases h)) (by decide +kernel) (by decide +kernel) (by decide +kernel) (by decide +kernel)
def sg_w190 : List Cond := [.methodLink "FormulaWorksModel" 1 ⟨"java/lang/Object", "<init>", "()V"⟩, .instanceMethod ⟨"java/lang/Object", "<init>", "()V"⟩, .code ⟨"java/lang/Object", "<init>", "()V"⟩ object_method_1_code 1 (Option.none : Option FieldType), .arrayClass FieldType.int, .arrayClass FieldType.long, .arrayClass FieldType.boolean]
theorem s_okCF_app {mi : Nat → Option s_M} {np : Nat → Nat} {M : s_M} {T : s_Wt} {Wm : List Cond} : ∀ {a t : s_Cd} {b : Nat}, s_okCF mi np M T Wm b a = true → s_okCF mi np M T Wm (b + 32 * a.length) t = true → s_okCF mi np M T Wm b (a ++ t) = true
  | [], t, b, _, h => by simpa using h
  | r :: a, t, b, h1, h2 => by
    simp only [s_okCF, Bool.and_eq_true, List.cons_append] at h1 ⊢
    exact ⟨h1.1, s_okCF_app h1.2 (by rw [show b + 32 + 32 * a.length = b + 32 * (r :: a).length by simp only [List.length_cons]; omega]; exact h2)⟩
theorem s_okCF_cut {mi : Nat → Option s_M} {np : Nat → Nat} {M : s_M} {T : s_Wt} {Wm : List Cond} {cd : s_Cd} {st n : Nat} (hn : Nat.ble cd.length (st * n) = true) (h : ∀ j, j < n → s_okCF mi np M T Wm (32 * (st * j)) ((cd.drop (st * j)).take st) = true) : s_okCF mi np M T Wm 0 cd = true := by
  have hn := Nat.le_of_ble_eq_true hn
  have key : ∀ i, i ≤ n → s_okCF mi np M T Wm (32 * (st * (n - i))) (cd.drop (st * (n - i))) = true := by
    intro i
    induction i with
    | zero => intro _; rw [List.drop_eq_nil_of_le (by simpa using hn)]; rfl
    | succ i ih =>
      intro hi
      have h1 := h (n - (i + 1)) (by omega)
      have h2 := ih (by omega)
      have e : st * (n - i) = st * (n - (i + 1)) + st := by rw [show n - i = n - (i + 1) + 1 by omega, Nat.mul_add, Nat.mul_one]
      rw [← List.take_append_drop st (cd.drop (st * (n - (i + 1))))]
      refine s_okCF_app h1 ?_
      rw [List.drop_drop]
      by_cases hl : st ≤ (cd.drop (st * (n - (i + 1)))).length
      · rw [List.length_take, Nat.min_eq_left hl, ← Nat.mul_add, ← e]; exact h2
      · have e0 : cd.drop (st * (n - (i + 1)) + st) = [] := List.drop_eq_nil_of_le (by rw [List.length_drop] at hl; omega)
        rw [e0]; rfl
  have := key n (Nat.le_refl _)
  simpa using this

set_option maxRecDepth 100000 in
theorem sg_o190_0 : s_okCF sg_mi sg_np sg_m190 (sg_K12 true) (sg_w190 ++ s_bw) (32 * (2 * 0)) ((sg_c190.drop (2 * 0)).take 2) = true := by decide +kernel
set_option maxRecDepth 100000 in
theorem sg_o190_1 : s_okCF sg_mi sg_np sg_m190 (sg_K12 true) (sg_w190 ++ s_bw) (32 * (2 * 1)) ((sg_c190.drop (2 * 1)).take 2) = true := by decide +kernel
set_option maxRecDepth 100000 in
theorem sg_o190_2 : s_okCF sg_mi sg_np sg_m190 (sg_K12 true) (sg_w190 ++ s_bw) (32 * (2 * 2)) ((sg_c190.drop (2 * 2)).take 2) = true := by decide +kernel
set_option maxRecDepth 100000 in
theorem sg_o190_3 : s_okCF sg_mi sg_np sg_m190 (sg_K12 true) (sg_w190 ++ s_bw) (32 * (2 * 3)) ((sg_c190.drop (2 * 3)).take 2) = true := by decide +kernel
set_option maxRecDepth 100000 in
theorem sg_o190_4 : s_okCF sg_mi sg_np sg_m190 (sg_K12 true) (sg_w190 ++ s_bw) (32 * (2 * 4)) ((sg_c190.drop (2 * 4)).take 2) = true := by decide +kernel
set_option maxRecDepth 100000 in
theorem sg_o190_5 : s_okCF sg_mi sg_np sg_m190 (sg_K12 true) (sg_w190 ++ s_bw) (32 * (2 * 5)) ((sg_c190.drop (2 * 5)).take 2) = true := by decide +kernel
set_option maxRecDepth 100000 in
theorem sg_o190_6 : s_okCF sg_mi sg_np sg_m190 (sg_K12 true) (sg_w190 ++ s_bw) (32 * (2 * 6)) ((sg_c190.drop (2 * 6)).take 2) = true := by decide +kernel
set_option maxRecDepth 100000 in
theorem sg_o190_7 : s_okCF sg_mi sg_np sg_m190 (sg_K12 true) (sg_w190 ++ s_bw) (32 * (2 * 7)) ((sg_c190.drop (2 * 7)).take 2) = true := by decide +kernel
set_option maxRecDepth 100000 in
theorem sg_o190_8 : s_okCF sg_mi sg_np sg_m190 (sg_K12 true) (sg_w190 ++ s_bw) (32 * (2 * 8)) ((sg_c190.drop (2 * 8)).take 2) = true := by decide +kernel
set_option maxRecDepth 100000 in
theorem sg_o190_9 : s_okCF sg_mi sg_np sg_m190 (sg_K12 true) (sg_w190 ++ s_bw) (32 * (2 * 9)) ((sg_c190.drop (2 * 9)).take 2) = true := by decide +kernel
set_option maxRecDepth 100000 in
theorem sg_o190_10 : s_okCF sg_mi sg_np sg_m190 (sg_K12 true) (sg_w190 ++ s_bw) (32 * (2 * 10)) ((sg_c190.drop (2 * 10)).take 2) = true := by decide +kernel
set_option maxRecDepth 100000 in
theorem sg_o190_11 : s_okCF sg_mi sg_np sg_m190 (sg_K12 true) (sg_w190 ++ s_bw) (32 * (2 * 11)) ((sg_c190.drop (2 * 11)).take 2) = true := by decide +kernel
theorem sg_y190 : s_okCF sg_mi sg_np sg_m190 (sg_K12 true) (sg_w190 ++ s_bw) 0 sg_c190 = true := s_okCF_cut (st := 2) (n := 12) (by decide +kernel) (fun j hj => by
  rcases (by omega : j = 0 ∨ j = 1 ∨ j = 2 ∨ j = 3 ∨ j = 4 ∨ j = 5 ∨ j = 6 ∨ j = 7 ∨ j = 8 ∨ j = 9 ∨ j = 10 ∨ j = 11) with rfl | rfl | rfl | rfl | rfl | rfl | rfl | rfl | rfl | rfl | rfl | rfl
  · exact sg_o190_0
  · exact sg_o190_1
  · exact sg_o190_2
  · exact sg_o190_3
  · exact sg_o190_4
  · exact sg_o190_5
  · exact sg_o190_6
  · exact sg_o190_7
  · exact sg_o190_8
  · exact sg_o190_9
  · exact sg_o190_10
  · exact sg_o190_11)
set_option maxRecDepth 100000 in
theorem sg_q190 : s_okE sg_mi 190 sg_c190 1 sg_h190 := s_mkF (np := sg_np) sg_m190 (sg_K12 true) sg_w190 [2671, 263, 264, 298, 3006, 3007] 2670 rfl (by decide +kernel) (plainFor_of_name sg_N12) sg_C12 rfl (by decide +kernel) (sg_K12_s rfl (fun _ => rfl)) (by decide +kernel) (by decide +kernel) sg_y190 (by decide +kernel)
def sg_w191 : List Cond := []
set_option maxRecDepth 100000 in
theorem sg_q191 : s_okE sg_mi 191 sg_c191 3 sg_h191 := s_mkF (np := sg_np) sg_m191 (sg_K12 false) sg_w191 [] 3041 rfl (by decide +kernel) (plainFor_of_name sg_N12) sg_C12 rfl (by decide +kernel) (sg_K12_s rfl (fun h => by cases h)) (by decide +kernel) (by decide +kernel) (by decide +kernel) (by decide +kernel)
def sg_w192 : List Cond := []
set_option maxRecDepth 100000 in
theorem sg_q192 : s_okE sg_mi 192 sg_c192 5 sg_h192 := s_mkF (np := sg_np) sg_m192 (sg_K12 false) sg_w192 [] 3045 rfl (by decide +kernel) (plainFor_of_name sg_N12) sg_C12 rfl (by decide +kernel) (sg_K12_s rfl (fun h => by cases h)) (by decide +kernel) (by decide +kernel) (by decide +kernel) (by decide +kernel)
def sg_w193 : List Cond := [.constantLong "FormulaWorksModel" 567 (32002 : Int64)]
set_option maxRecDepth 100000 in
theorem sg_q193 : s_okE sg_mi 193 sg_c193 5 sg_h193 := s_mkF (np := sg_np) sg_m193 (sg_K12 false) sg_w193 [3474] 3478 rfl (by decide +kernel) (plainFor_of_name sg_N12) sg_C12 rfl (by decide +kernel) (sg_K12_s rfl (fun h => by cases h)) (by decide +kernel) (by decide +kernel) (by decide +kernel) (by decide +kernel)
def sg_w194 : List Cond := []
set_option maxRecDepth 100000 in
theorem sg_q194 : s_okE sg_mi 194 sg_c194 7 sg_h194 := s_mkF (np := sg_np) sg_m194 (sg_K12 false) sg_w194 [] 3542 rfl (by decide +kernel) (plainFor_of_name sg_N12) sg_C12 rfl (by decide +kernel) (sg_K12_s rfl (fun h => by cases h)) (by decide +kernel) (by decide +kernel) (by decide +kernel) (by decide +kernel)
def sg_w195 : List Cond := []
set_option maxRecDepth 100000 in
theorem sg_q195 : s_okE sg_mi 195 sg_c195 3 sg_h195 := s_mkF (np := sg_np) sg_m195 (sg_K12 false) sg_w195 [] 3526 rfl (by decide +kernel) (plainFor_of_name sg_N12) sg_C12 rfl (by decide +kernel) (sg_K12_s rfl (fun h => by cases h)) (by decide +kernel) (by decide +kernel) (by decide +kernel) (by decide +kernel)
def sg_w196 : List Cond := []
set_option maxRecDepth 100000 in
theorem sg_q196 : s_okE sg_mi 196 sg_c196 4 sg_h196 := s_mkF (np := sg_np) sg_m196 (sg_K12 false) sg_w196 [] 3049 rfl (by decide +kernel) (plainFor_of_name sg_N12) sg_C12 rfl (by decide +kernel) (sg_K12_s rfl (fun h => by cases h)) (by decide +kernel) (by decide +kernel) (by decide +kernel) (by decide +kernel)
def sg_w197 : List Cond := []
set_option maxRecDepth 100000 in
theorem sg_q197 : s_okE sg_mi 197 sg_c197 3 sg_h197 := s_mkF (np := sg_np) sg_m197 (sg_K12 false) sg_w197 [] 3216 rfl (by decide +kernel) (plainFor_of_name sg_N12) sg_C12 rfl (by decide +kernel) (sg_K12_s rfl (fun h => by cases h)) (by decide +kernel) (by decide +kernel) (by decide +kernel) (by decide +kernel)
def sg_w198 : List Cond := []
set_option maxRecDepth 100000 in
theorem sg_q198 : s_okE sg_mi 198 sg_c198 4 sg_h198 := s_mkF (np := sg_np) sg_m198 (sg_K12 false) sg_w198 [] 3231 rfl (by decide +kernel) (plainFor_of_name sg_N12) sg_C12 rfl (by decide +kernel) (sg_K12_s rfl (fun h => by cases h)) (by decide +kernel) (by decide +kernel) (by decide +kernel) (by decide +kernel)
def sg_w199 : List Cond := [.constantLong "FormulaWorksModel" 862 (40 : Int64)]
set_option maxRecDepth 100000 in
theorem sg_q199 : s_okE sg_mi 199 sg_c199 4 sg_h199 := s_mkF (np := sg_np) sg_m199 (sg_K12 false) sg_w199 [3905] 3904 rfl (by decide +kernel) (plainFor_of_name sg_N12) sg_C12 rfl (by decide +kernel) (sg_K12_s rfl (fun h => by cases h)) (by decide +kernel) (by decide +kernel) (by decide +kernel) (by decide +kernel)
def sg_w200 : List Cond := []
set_option maxRecDepth 100000 in
theorem sg_q200 : s_okE sg_mi 200 sg_c200 4 sg_h200 := s_mkF (np := sg_np) sg_m200 (sg_K12 false) sg_w200 [] 3018 rfl (by decide +kernel) (plainFor_of_name sg_N12) sg_C12 rfl (by decide +kernel) (sg_K12_s rfl (fun h => by cases h)) (by decide +kernel) (by decide +kernel) (by decide +kernel) (by decide +kernel)
def sg_w201 : List Cond := []
set_option maxRecDepth 100000 in
theorem sg_q201 : s_okE sg_mi 201 sg_c201 1 sg_h201 := s_mkF (np := sg_np) sg_m201 (sg_K12 false) sg_w201 [] 3597 rfl (by decide +kernel) (plainFor_of_name sg_N12) sg_C12 rfl (by decide +kernel) (sg_K12_s rfl (fun h => by cases h)) (by decide +kernel) (by decide +kernel) (by decide +kernel) (by decide +kernel)
def sg_w202 : List Cond := []
set_option maxRecDepth 100000 in
theorem sg_q202 : s_okE sg_mi 202 sg_c202 2 sg_h202 := s_mkF (np := sg_np) sg_m202 (sg_K12 false) sg_w202 [] 3605 rfl (by decide +kernel) (plainFor_of_name sg_N12) sg_C12 rfl (by decide +kernel) (sg_K12_s rfl (fun h => by cases h)) (by decide +kernel) (by decide +kernel) (by decide +kernel) (by decide +kernel)
def sg_w203 : List Cond := [.constantLong "FormulaWorksModel" 857 (15 : Int64), .constantLong "FormulaWorksModel" 604 (3 : Int64)]
set_option maxRecDepth 100000 in
theorem sg_q203 : s_okE sg_mi 203 sg_c203 5 sg_h203 := s_mkF (np := sg_np) sg_m203 (sg_K12 false) sg_w203 [3877, 3567] 3881 rfl (by decide +kernel) (plainFor_of_name sg_N12) sg_C12 rfl (by decide +kernel) (sg_K12_s rfl (fun h => by cases h)) (by decide +kernel) (by decide +kernel) (by decide +kernel) (by decide +kernel)
def sg_w204 : List Cond := [.constantLong "FormulaWorksModel" 810 (11 : Int64)]
set_option maxRecDepth 100000 in
theorem sg_q204 : s_okE sg_mi 204 sg_c204 4 sg_h204 := s_mkF (np := sg_np) sg_m204 (sg_K12 false) sg_w204 [3808] 3807 rfl (by decide +kernel) (plainFor_of_name sg_N12) sg_C12 rfl (by decide +kernel) (sg_K12_s rfl (fun h => by cases h)) (by decide +kernel) (by decide +kernel) (by decide +kernel) (by decide +kernel)
def sg_w205 : List Cond := []
set_option maxRecDepth 100000 in
theorem sg_q205 : s_okE sg_mi 205 sg_c205 4 sg_h205 := s_mkF (np := sg_np) sg_m205 (sg_K12 false) sg_w205 [] 3864 rfl (by decide +kernel) (plainFor_of_name sg_N12) sg_C12 rfl (by decide +kernel) (sg_K12_s rfl (fun h => by cases h)) (by decide +kernel) (by decide +kernel) (by decide +kernel) (by decide +kernel)
def sg_w206 : List Cond := []
set_option maxRecDepth 100000 in
theorem sg_q206 : s_okE sg_mi 206 sg_c206 1 sg_h206 := s_mkF (np := sg_np) sg_m206 (sg_K12 false) sg_w206 [] 3921 rfl (by decide +kernel) (plainFor_of_name sg_N12) sg_C12 rfl (by decide +kernel) (sg_K12_s rfl (fun h => by cases h)) (by decide +kernel) (by decide +kernel) (by decide +kernel) (by decide +kernel)
def sg_w207 : List Cond := []
set_option maxRecDepth 100000 in
theorem sg_q207 : s_okE sg_mi 207 sg_c207 2 sg_h207 := s_mkF (np := sg_np) sg_m207 (sg_K12 false) sg_w207 [] 3359 rfl (by decide +kernel) (plainFor_of_name sg_N12) sg_C12 rfl (by decide +kernel) (sg_K12_s rfl (fun h => by cases h)) (by decide +kernel) (by decide +kernel) (by decide +kernel) (by decide +kernel)
def sg_w208 : List Cond := [.constantLong "FormulaWorksModel" 372 (-1 : Int64)]
set_option maxRecDepth 100000 in
theorem sg_q208 : s_okE sg_mi 208 sg_c208 4 sg_h208 := s_mkF (np := sg_np) sg_m208 (sg_K12 false) sg_w208 [3135] 3235 rfl (by decide +kernel) (plainFor_of_name sg_N12) sg_C12 rfl (by decide +kernel) (sg_K12_s rfl (fun h => by cases h)) (by decide +kernel) (by decide +kernel) (by decide +kernel) (by decide +kernel)
def sg_w209 : List Cond := []
set_option maxRecDepth 100000 in
theorem sg_q209 : s_okE sg_mi 209 sg_c209 3 sg_h209 := s_mkF (np := sg_np) sg_m209 (sg_K12 false) sg_w209 [] 3212 rfl (by decide +kernel) (plainFor_of_name sg_N12) sg_C12 rfl (by decide +kernel) (sg_K12_s rfl (fun h => by cases h)) (by decide +kernel) (by decide +kernel) (by decide +kernel) (by decide +kernel)
