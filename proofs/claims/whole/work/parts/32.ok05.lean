def sg_w150 : List Cond := [.classLink "FormulaWorksLaw" 21 "java/lang/IndexOutOfBoundsException", .classLink "FormulaWorksLaw" 15 "java/lang/IllegalArgumentException"]
set_option maxRecDepth 100000 in
theorem sg_q150 : s_okE sg_mi 150 sg_c150 5 sg_h150 := s_mkL (np := sg_np) sg_m150 (sg_K11 false) sg_w150 [1069, 735] 1203 rfl (by decide +kernel) (plainFor_of_name sg_N11) sg_C11 rfl (by decide +kernel) (sg_K11_s rfl (fun h => by cases h)) (by decide +kernel) (by decide +kernel) (by decide +kernel) (by decide +kernel)
def sg_w151 : List Cond := [.classLink "FormulaWorksLaw" 21 "java/lang/IndexOutOfBoundsException", .classLink "FormulaWorksLaw" 15 "java/lang/IllegalArgumentException"]
set_option maxRecDepth 100000 in
theorem sg_q151 : s_okE sg_mi 151 sg_c151 5 sg_h151 := s_mkL (np := sg_np) sg_m151 (sg_K11 false) sg_w151 [1069, 735] 1651 rfl (by decide +kernel) (plainFor_of_name sg_N11) sg_C11 rfl (by decide +kernel) (sg_K11_s rfl (fun h => by cases h)) (by decide +kernel) (by decide +kernel) (by decide +kernel) (by decide +kernel)
def sg_w152 : List Cond := [.classLink "FormulaWorksLaw" 21 "java/lang/IndexOutOfBoundsException", .classLink "FormulaWorksLaw" 15 "java/lang/IllegalArgumentException", .classLink "FormulaWorksLaw" 13 "java/lang/IllegalStateException"]
set_option maxRecDepth 100000 in
theorem sg_q152 : s_okE sg_mi 152 sg_c152 4 sg_h152 := s_mkL (np := sg_np) sg_m152 (sg_K11 false) sg_w152 [1069, 735, 734] 1767 rfl (by decide +kernel) (plainFor_of_name sg_N11) sg_C11 rfl (by decide +kernel) (sg_K11_s rfl (fun h => by cases h)) (by decide +kernel) (by decide +kernel) (by decide +kernel) (by decide +kernel)
def sg_w153 : List Cond := [.classLink "FormulaWorksLaw" 21 "java/lang/IndexOutOfBoundsException", .classLink "FormulaWorksLaw" 15 "java/lang/IllegalArgumentException", .classLink "FormulaWorksLaw" 13 "java/lang/IllegalStateException"]
set_option maxRecDepth 100000 in
theorem sg_q153 : s_okE sg_mi 153 sg_c153 6 sg_h153 := s_mkL (np := sg_np) sg_m153 (sg_K11 false) sg_w153 [1069, 735, 734] 2225 rfl (by decide +kernel) (plainFor_of_name sg_N11) sg_C11 rfl (by decide +kernel) (sg_K11_s rfl (fun h => by cases h)) (by decide +kernel) (by decide +kernel) (by decide +kernel) (by decide +kernel)
def sg_w154 : List Cond := [.classLink "FormulaWorksLaw" 15 "java/lang/IllegalArgumentException", .classLink "FormulaWorksLaw" 13 "java/lang/IllegalStateException"]
set_option maxRecDepth 100000 in
theorem sg_q154 : s_okE sg_mi 154 sg_c154 5 sg_h154 := s_mkL (np := sg_np) sg_m154 (sg_K11 false) sg_w154 [735, 734] 2071 rfl (by decide +kernel) (plainFor_of_name sg_N11) sg_C11 rfl (by decide +kernel) (sg_K11_s rfl (fun h => by cases h)) (by decide +kernel) (by decide +kernel) (by decide +kernel) (by decide +kernel)
def sg_w155 : List Cond := [.classLink "FormulaWorksLaw" 21 "java/lang/IndexOutOfBoundsException", .classLink "FormulaWorksLaw" 15 "java/lang/IllegalArgumentException", .classLink "FormulaWorksLaw" 13 "java/lang/IllegalStateException"]
set_option maxRecDepth 100000 in
theorem sg_q155 : s_okE sg_mi 155 sg_c155 6 sg_h155 := s_mkL (np := sg_np) sg_m155 (sg_K11 false) sg_w155 [1069, 735, 734] 2282 rfl (by decide +kernel) (plainFor_of_name sg_N11) sg_C11 rfl (by decide +kernel) (sg_K11_s rfl (fun h => by cases h)) (by decide +kernel) (by decide +kernel) (by decide +kernel) (by decide +kernel)
def sg_w156 : List Cond := [.classLink "FormulaWorksLaw" 21 "java/lang/IndexOutOfBoundsException", .classLink "FormulaWorksLaw" 15 "java/lang/IllegalArgumentException"]
set_option maxRecDepth 100000 in
theorem sg_q156 : s_okE sg_mi 156 sg_c156 6 sg_h156 := s_mkL (np := sg_np) sg_m156 (sg_K11 false) sg_w156 [1069, 735] 2416 rfl (by decide +kernel) (plainFor_of_name sg_N11) sg_C11 rfl (by decide +kernel) (sg_K11_s rfl (fun h => by cases h)) (by decide +kernel) (by decide +kernel) (by decide +kernel) (by decide +kernel)
def sg_w157 : List Cond := [.classLink "FormulaWorksLaw" 21 "java/lang/IndexOutOfBoundsException", .classLink "FormulaWorksLaw" 15 "java/lang/IllegalArgumentException"]
set_option maxRecDepth 100000 in
theorem sg_q157 : s_okE sg_mi 157 sg_c157 4 sg_h157 := s_mkL (np := sg_np) sg_m157 (sg_K11 false) sg_w157 [1069, 735] 2409 rfl (by decide +kernel) (plainFor_of_name sg_N11) sg_C11 rfl (by decide +kernel) (sg_K11_s rfl (fun h => by cases h)) (by decide +kernel) (by decide +kernel) (by decide +kernel) (by decide +kernel)
def sg_w158 : List Cond := [.classLink "FormulaWorksLaw" 13 "java/lang/IllegalStateException"]
set_option maxRecDepth 100000 in
theorem sg_q158 : s_okE sg_mi 158 sg_c158 5 sg_h158 := s_mkL (np := sg_np) sg_m158 (sg_K11 false) sg_w158 [734] 1210 rfl (by decide +kernel) (plainFor_of_name sg_N11) sg_C11 rfl (by decide +kernel) (sg_K11_s rfl (fun h => by cases h)) (by decide +kernel) (by decide +kernel) (by decide +kernel) (by decide +kernel)
def sg_w159 : List Cond := [.classLink "FormulaWorksLaw" 21 "java/lang/IndexOutOfBoundsException", .classLink "FormulaWorksLaw" 15 "java/lang/IllegalArgumentException"]
set_option maxRecDepth 100000 in
theorem sg_q159 : s_okE sg_mi 159 sg_c159 5 sg_h159 := s_mkL (np := sg_np) sg_m159 (sg_K11 false) sg_w159 [1069, 735] 2307 rfl (by decide +kernel) (plainFor_of_name sg_N11) sg_C11 rfl (by decide +kernel) (sg_K11_s rfl (fun h => by cases h)) (by decide +kernel) (by decide +kernel) (by decide +kernel) (by decide +kernel)
def sg_w160 : List Cond := [.classLink "FormulaWorksLaw" 21 "java/lang/IndexOutOfBoundsException", .classLink "FormulaWorksLaw" 15 "java/lang/IllegalArgumentException"]
set_option maxRecDepth 100000 in
theorem sg_q160 : s_okE sg_mi 160 sg_c160 5 sg_h160 := s_mkL (np := sg_np) sg_m160 (sg_K11 false) sg_w160 [1069, 735] 1592 rfl (by decide +kernel) (plainFor_of_name sg_N11) sg_C11 rfl (by decide +kernel) (sg_K11_s rfl (fun h => by cases h)) (by decide +kernel) (by decide +kernel) (by decide +kernel) (by decide +kernel)
def sg_w161 : List Cond := [.classLink "FormulaWorksLaw" 21 "java/lang/IndexOutOfBoundsException", .classLink "FormulaWorksLaw" 15 "java/lang/IllegalArgumentException", .classLink "FormulaWorksLaw" 43 "java/lang/ArithmeticException", .classLink "FormulaWorksLaw" 13 "java/lang/IllegalStateException"]
set_option maxRecDepth 100000 in
theorem sg_q161 : s_okE sg_mi 161 sg_c161 5 sg_h161 := s_mkL (np := sg_np) sg_m161 (sg_K11 false) sg_w161 [1069, 735, 1318, 734] 1317 rfl (by decide +kernel) (plainFor_of_name sg_N11) sg_C11 rfl (by decide +kernel) (sg_K11_s rfl (fun h => by cases h)) (by decide +kernel) (by decide +kernel) (by decide +kernel) (by decide +kernel)
def sg_w162 : List Cond := [.classLink "FormulaWorksLaw" 21 "java/lang/IndexOutOfBoundsException", .classLink "FormulaWorksLaw" 15 "java/lang/IllegalArgumentException", .classLink "FormulaWorksLaw" 13 "java/lang/IllegalStateException"]
set_option maxRecDepth 100000 in
theorem sg_q162 : s_okE sg_mi 162 sg_c162 4 sg_h162 := s_mkL (np := sg_np) sg_m162 (sg_K11 false) sg_w162 [1069, 735, 734] 2161 rfl (by decide +kernel) (plainFor_of_name sg_N11) sg_C11 rfl (by decide +kernel) (sg_K11_s rfl (fun h => by cases h)) (by decide +kernel) (by decide +kernel) (by decide +kernel) (by decide +kernel)
def sg_w163 : List Cond := [.classLink "FormulaWorksLaw" 21 "java/lang/IndexOutOfBoundsException", .classLink "FormulaWorksLaw" 15 "java/lang/IllegalArgumentException", .classLink "FormulaWorksLaw" 13 "java/lang/IllegalStateException"]
set_option maxRecDepth 100000 in
theorem sg_q163 : s_okE sg_mi 163 sg_c163 6 sg_h163 := s_mkL (np := sg_np) sg_m163 (sg_K11 false) sg_w163 [1069, 735, 734] 1606 rfl (by decide +kernel) (plainFor_of_name sg_N11) sg_C11 rfl (by decide +kernel) (sg_K11_s rfl (fun h => by cases h)) (by decide +kernel) (by decide +kernel) (by decide +kernel) (by decide +kernel)
def sg_w164 : List Cond := [.classLink "FormulaWorksLaw" 21 "java/lang/IndexOutOfBoundsException", .classLink "FormulaWorksLaw" 15 "java/lang/IllegalArgumentException", .classLink "FormulaWorksLaw" 13 "java/lang/IllegalStateException"]
set_option maxRecDepth 100000 in
theorem sg_q164 : s_okE sg_mi 164 sg_c164 5 sg_h164 := s_mkL (np := sg_np) sg_m164 (sg_K11 false) sg_w164 [1069, 735, 734] 1328 rfl (by decide +kernel) (plainFor_of_name sg_N11) sg_C11 rfl (by decide +kernel) (sg_K11_s rfl (fun h => by cases h)) (by decide +kernel) (by decide +kernel) (by decide +kernel) (by decide +kernel)
def sg_w165 : List Cond := [.classLink "FormulaWorksLaw" 21 "java/lang/IndexOutOfBoundsException", .classLink "FormulaWorksLaw" 15 "java/lang/IllegalArgumentException"]
set_option maxRecDepth 100000 in
theorem sg_q165 : s_okE sg_mi 165 sg_c165 4 sg_h165 := s_mkL (np := sg_np) sg_m165 (sg_K11 false) sg_w165 [1069, 735] 1068 rfl (by decide +kernel) (plainFor_of_name sg_N11) sg_C11 rfl (by decide +kernel) (sg_K11_s rfl (fun h => by cases h)) (by decide +kernel) (by decide +kernel) (by decide +kernel) (by decide +kernel)
def sg_w166 : List Cond := [.classLink "FormulaWorksLaw" 21 "java/lang/IndexOutOfBoundsException", .classLink "FormulaWorksLaw" 15 "java/lang/IllegalArgumentException", .classLink "FormulaWorksLaw" 43 "java/lang/ArithmeticException", .classLink "FormulaWorksLaw" 13 "java/lang/IllegalStateException"]
set_option maxRecDepth 100000 in
theorem sg_q166 : s_okE sg_mi 166 sg_c166 5 sg_h166 := s_mkL (np := sg_np) sg_m166 (sg_K11 false) sg_w166 [1069, 735, 1318, 734] 1362 rfl (by decide +kernel) (plainFor_of_name sg_N11) sg_C11 rfl (by decide +kernel) (sg_K11_s rfl (fun h => by cases h)) (by decide +kernel) (by decide +kernel) (by decide +kernel) (by decide +kernel)
def sg_w167 : List Cond := [.classLink "FormulaWorksLaw" 21 "java/lang/IndexOutOfBoundsException", .classLink "FormulaWorksLaw" 15 "java/lang/IllegalArgumentException"]
set_option maxRecDepth 100000 in
theorem sg_q167 : s_okE sg_mi 167 sg_c167 4 sg_h167 := s_mkL (np := sg_np) sg_m167 (sg_K11 false) sg_w167 [1069, 735] 2124 rfl (by decide +kernel) (plainFor_of_name sg_N11) sg_C11 rfl (by decide +kernel) (sg_K11_s rfl (fun h => by cases h)) (by decide +kernel) (by decide +kernel) (by decide +kernel) (by decide +kernel)
def sg_w168 : List Cond := [.classLink "FormulaWorksLaw" 13 "java/lang/IllegalStateException", .classLink "FormulaWorksLaw" 15 "java/lang/IllegalArgumentException"]
set_option maxRecDepth 100000 in
theorem sg_q168 : s_okE sg_mi 168 sg_c168 3 sg_h168 := s_mkL (np := sg_np) sg_m168 (sg_K11 false) sg_w168 [734, 735] 733 rfl (by decide +kernel) (plainFor_of_name sg_N11) sg_C11 rfl (by decide +kernel) (sg_K11_s rfl (fun h => by cases h)) (by decide +kernel) (by decide +kernel) (by decide +kernel) (by decide +kernel)
def sg_w169 : List Cond := [.classLink "FormulaWorksLaw" 21 "java/lang/IndexOutOfBoundsException", .classLink "FormulaWorksLaw" 15 "java/lang/IllegalArgumentException", .classLink "FormulaWorksLaw" 13 "java/lang/IllegalStateException"]
set_option maxRecDepth 100000 in
theorem sg_q169 : s_okE sg_mi 169 sg_c169 4 sg_h169 := s_mkL (np := sg_np) sg_m169 (sg_K11 false) sg_w169 [1069, 735, 734] 2344 rfl (by decide +kernel) (plainFor_of_name sg_N11) sg_C11 rfl (by decide +kernel) (sg_K11_s rfl (fun h => by cases h)) (by decide +kernel) (by decide +kernel) (by decide +kernel) (by decide +kernel)
def sg_w170 : List Cond := [.classLink "FormulaWorksLaw" 21 "java/lang/IndexOutOfBoundsException", .classLink "FormulaWorksLaw" 15 "java/lang/IllegalArgumentException", .classLink "FormulaWorksLaw" 13 "java/lang/IllegalStateException"]
set_option maxRecDepth 100000 in
theorem sg_q170 : s_okE sg_mi 170 sg_c170 4 sg_h170 := s_mkL (np := sg_np) sg_m170 (sg_K11 false) sg_w170 [1069, 735, 734] 1599 rfl (by decide +kernel) (plainFor_of_name sg_N11) sg_C11 rfl (by decide +kernel) (sg_K11_s rfl (fun h => by cases h)) (by decide +kernel) (by decide +kernel) (by decide +kernel) (by decide +kernel)
def sg_w171 : List Cond := [.classLink "FormulaWorksLaw" 21 "java/lang/IndexOutOfBoundsException", .classLink "FormulaWorksLaw" 15 "java/lang/IllegalArgumentException", .classLink "FormulaWorksLaw" 13 "java/lang/IllegalStateException"]
set_option maxRecDepth 100000 in
theorem sg_q171 : s_okE sg_mi 171 sg_c171 4 sg_h171 := s_mkL (np := sg_np) sg_m171 (sg_K11 false) sg_w171 [1069, 735, 734] 1644 rfl (by decide +kernel) (plainFor_of_name sg_N11) sg_C11 rfl (by decide +kernel) (sg_K11_s rfl (fun h => by cases h)) (by decide +kernel) (by decide +kernel) (by decide +kernel) (by decide +kernel)
def sg_w172 : List Cond := [.classLink "FormulaWorksLaw" 21 "java/lang/IndexOutOfBoundsException", .classLink "FormulaWorksLaw" 15 "java/lang/IllegalArgumentException"]
set_option maxRecDepth 100000 in
theorem sg_q172 : s_okE sg_mi 172 sg_c172 5 sg_h172 := s_mkL (np := sg_np) sg_m172 (sg_K11 false) sg_w172 [1069, 735] 1411 rfl (by decide +kernel) (plainFor_of_name sg_N11) sg_C11 rfl (by decide +kernel) (sg_K11_s rfl (fun h => by cases h)) (by decide +kernel) (by decide +kernel) (by decide +kernel) (by decide +kernel)
def sg_w173 : List Cond := [.classLink "FormulaWorksLaw" 21 "java/lang/IndexOutOfBoundsException", .classLink "FormulaWorksLaw" 15 "java/lang/IllegalArgumentException", .classLink "FormulaWorksLaw" 13 "java/lang/IllegalStateException"]
set_option maxRecDepth 100000 in
theorem sg_q173 : s_okE sg_mi 173 sg_c173 4 sg_h173 := s_mkL (np := sg_np) sg_m173 (sg_K11 false) sg_w173 [1069, 735, 734] 1774 rfl (by decide +kernel) (plainFor_of_name sg_N11) sg_C11 rfl (by decide +kernel) (sg_K11_s rfl (fun h => by cases h)) (by decide +kernel) (by decide +kernel) (by decide +kernel) (by decide +kernel)
def sg_w174 : List Cond := [.classLink "FormulaWorksLaw" 21 "java/lang/IndexOutOfBoundsException", .classLink "FormulaWorksLaw" 15 "java/lang/IllegalArgumentException", .classLink "FormulaWorksLaw" 13 "java/lang/IllegalStateException"]
set_option maxRecDepth 100000 in
theorem sg_q174 : s_okE sg_mi 174 sg_c174 4 sg_h174 := s_mkL (np := sg_np) sg_m174 (sg_K11 false) sg_w174 [1069, 735, 734] 2030 rfl (by decide +kernel) (plainFor_of_name sg_N11) sg_C11 rfl (by decide +kernel) (sg_K11_s rfl (fun h => by cases h)) (by decide +kernel) (by decide +kernel) (by decide +kernel) (by decide +kernel)
def sg_w175 : List Cond := [.classLink "FormulaWorksLaw" 21 "java/lang/IndexOutOfBoundsException", .classLink "FormulaWorksLaw" 15 "java/lang/IllegalArgumentException", .classLink "FormulaWorksLaw" 13 "java/lang/IllegalStateException"]
set_option maxRecDepth 100000 in
theorem sg_q175 : s_okE sg_mi 175 sg_c175 6 sg_h175 := s_mkL (np := sg_np) sg_m175 (sg_K11 false) sg_w175 [1069, 735, 734] 2328 rfl (by decide +kernel) (plainFor_of_name sg_N11) sg_C11 rfl (by decide +kernel) (sg_K11_s rfl (fun h => by cases h)) (by decide +kernel) (by decide +kernel) (by decide +kernel) (by decide +kernel)
def sg_w176 : List Cond := [.classLink "FormulaWorksLaw" 21 "java/lang/IndexOutOfBoundsException"]
set_option maxRecDepth 100000 in
theorem sg_q176 : s_okE sg_mi 176 sg_c176 5 sg_h176 := s_mkL (np := sg_np) sg_m176 (sg_K11 false) sg_w176 [1069] 2661 rfl (by decide +kernel) (plainFor_of_name sg_N11) sg_C11 rfl (by decide +kernel) (sg_K11_s rfl (fun h => by cases h)) (by decide +kernel) (by decide +kernel) (by decide +kernel) (by decide +kernel)
def sg_w177 : List Cond := [.classLink "FormulaWorksLaw" 21 "java/lang/IndexOutOfBoundsException", .classLink "FormulaWorksLaw" 15 "java/lang/IllegalArgumentException", .classLink "FormulaWorksLaw" 43 "java/lang/ArithmeticException", .classLink "FormulaWorksLaw" 13 "java/lang/IllegalStateException"]
set_option maxRecDepth 100000 in
theorem sg_q177 : s_okE sg_mi 177 sg_c177 4 sg_h177 := s_mkL (np := sg_np) sg_m177 (sg_K11 false) sg_w177 [1069, 735, 1318, 734] 1741 rfl (by decide +kernel) (plainFor_of_name sg_N11) sg_C11 rfl (by decide +kernel) (sg_K11_s rfl (fun h => by cases h)) (by decide +kernel) (by decide +kernel) (by decide +kernel) (by decide +kernel)
def sg_w178 : List Cond := [.classLink "FormulaWorksLaw" 21 "java/lang/IndexOutOfBoundsException", .classLink "FormulaWorksLaw" 15 "java/lang/IllegalArgumentException", .classLink "FormulaWorksLaw" 13 "java/lang/IllegalStateException"]
set_option maxRecDepth 100000 in
theorem sg_q178 : s_okE sg_mi 178 sg_c178 4 sg_h178 := s_mkL (np := sg_np) sg_m178 (sg_K11 false) sg_w178 [1069, 735, 734] 2519 rfl (by decide +kernel) (plainFor_of_name sg_N11) sg_C11 rfl (by decide +kernel) (sg_K11_s rfl (fun h => by cases h)) (by decide +kernel) (by decide +kernel) (by decide +kernel) (by decide +kernel)
def sg_w179 : List Cond := [.classLink "FormulaWorksLaw" 21 "java/lang/IndexOutOfBoundsException", .classLink "FormulaWorksLaw" 15 "java/lang/IllegalArgumentException", .classLink "FormulaWorksLaw" 13 "java/lang/IllegalStateException"]
set_option maxRecDepth 100000 in
theorem sg_q179 : s_okE sg_mi 179 sg_c179 5 sg_h179 := s_mkL (np := sg_np) sg_m179 (sg_K11 false) sg_w179 [1069, 735, 734] 2213 rfl (by decide +kernel) (plainFor_of_name sg_N11) sg_C11 rfl (by decide +kernel) (sg_K11_s rfl (fun h => by cases h)) (by decide +kernel) (by decide +kernel) (by decide +kernel) (by decide +kernel)
