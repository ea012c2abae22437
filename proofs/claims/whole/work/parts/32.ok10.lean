theorem sg_y190 : s_okC sg_mi sg_m190 s_gd 0 sg_c190 = true := s_okC_cut (st := 2) (n := 12) (by decide +kernel) (fun j hj => by
  rcases (by omega : j = 0 ∨ j = 1 ∨ j = 2 ∨ j = 3 ∨ j = 4 ∨ j = 5 ∨ j = 6 ∨ j = 7 ∨ j = 8 ∨ j = 9 ∨ j = 10 ∨ j = 11) with rfl | rfl | rfl | rfl | rfl | rfl | rfl | rfl | rfl | rfl | rfl | rfl
  · exact s_okCL_s (sg_K12_s rfl (fun _ => rfl)) (s_wm sg_g190 sg_a190) rfl sg_o190_0
  · exact s_okCL_s (sg_K12_s rfl (fun _ => rfl)) (s_wm sg_g190 sg_a190) rfl sg_o190_1
  · exact s_okCL_s (sg_K12_s rfl (fun _ => rfl)) (s_wm sg_g190 sg_a190) rfl sg_o190_2
  · exact s_okCL_s (sg_K12_s rfl (fun _ => rfl)) (s_wm sg_g190 sg_a190) rfl sg_o190_3
  · exact s_okCL_s (sg_K12_s rfl (fun _ => rfl)) (s_wm sg_g190 sg_a190) rfl sg_o190_4
  · exact s_okCL_s (sg_K12_s rfl (fun _ => rfl)) (s_wm sg_g190 sg_a190) rfl sg_o190_5
  · exact s_okCL_s (sg_K12_s rfl (fun _ => rfl)) (s_wm sg_g190 sg_a190) rfl sg_o190_6
  · exact s_okCL_s (sg_K12_s rfl (fun _ => rfl)) (s_wm sg_g190 sg_a190) rfl sg_o190_7
  · exact s_okCL_s (sg_K12_s rfl (fun _ => rfl)) (s_wm sg_g190 sg_a190) rfl sg_o190_8
  · exact s_okCL_s (sg_K12_s rfl (fun _ => rfl)) (s_wm sg_g190 sg_a190) rfl sg_o190_9
  · exact s_okCL_s (sg_K12_s rfl (fun _ => rfl)) (s_wm sg_g190 sg_a190) rfl sg_o190_10
  · exact s_okCL_s (sg_K12_s rfl (fun _ => rfl)) (s_wm sg_g190 sg_a190) rfl sg_o190_11)
set_option maxRecDepth 100000 in
theorem sg_q190 : s_okE sg_mi 190 sg_c190 1 sg_h190 := s_mkC (np := sg_np) sg_m190 (sg_K12 true) sg_w190 [2671, 263, 264, 298, 3006, 3007] 2670 rfl (s_isCw_s (by decide +kernel)) (plainFor_of_name sg_N12) sg_C12 rfl (by decide +kernel) (sg_K12_s rfl (fun _ => rfl)) (by decide +kernel) (by decide +kernel) sg_y190 (by decide +kernel)
def sg_w191 : List Cond := []
set_option maxRecDepth 100000 in
theorem sg_q191 : s_okE sg_mi 191 sg_c191 3 sg_h191 := s_mkL (np := sg_np) sg_m191 (sg_K12 false) sg_w191 [] 3041 rfl (by decide +kernel) (plainFor_of_name sg_N12) sg_C12 rfl (by decide +kernel) (sg_K12_s rfl (fun h => by cases h)) (by decide +kernel) (by decide +kernel) (by decide +kernel) (by decide +kernel)
def sg_w192 : List Cond := []
set_option maxRecDepth 100000 in
theorem sg_q192 : s_okE sg_mi 192 sg_c192 5 sg_h192 := s_mkL (np := sg_np) sg_m192 (sg_K12 false) sg_w192 [] 3045 rfl (by decide +kernel) (plainFor_of_name sg_N12) sg_C12 rfl (by decide +kernel) (sg_K12_s rfl (fun h => by cases h)) (by decide +kernel) (by decide +kernel) (by decide +kernel) (by decide +kernel)
def sg_w193 : List Cond := [.constantLong "FormulaWorksModel" 567 (32002 : Int64)]
set_option maxRecDepth 100000 in
theorem sg_q193 : s_okE sg_mi 193 sg_c193 5 sg_h193 := s_mkL (np := sg_np) sg_m193 (sg_K12 false) sg_w193 [3474] 3478 rfl (s_isCw_s (by decide +kernel)) (plainFor_of_name sg_N12) sg_C12 rfl (by decide +kernel) (sg_K12_s rfl (fun h => by cases h)) (by decide +kernel) (by decide +kernel) (by decide +kernel) (by decide +kernel)
def sg_w194 : List Cond := []
set_option maxRecDepth 100000 in
theorem sg_q194 : s_okE sg_mi 194 sg_c194 7 sg_h194 := s_mkL (np := sg_np) sg_m194 (sg_K12 false) sg_w194 [] 3542 rfl (s_isCw_s (by decide +kernel)) (plainFor_of_name sg_N12) sg_C12 rfl (by decide +kernel) (sg_K12_s rfl (fun h => by cases h)) (by decide +kernel) (by decide +kernel) (by decide +kernel) (by decide +kernel)
def sg_w195 : List Cond := []
set_option maxRecDepth 100000 in
theorem sg_q195 : s_okE sg_mi 195 sg_c195 3 sg_h195 := s_mkL (np := sg_np) sg_m195 (sg_K12 false) sg_w195 [] 3526 rfl (by decide +kernel) (plainFor_of_name sg_N12) sg_C12 rfl (by decide +kernel) (sg_K12_s rfl (fun h => by cases h)) (by decide +kernel) (by decide +kernel) (by decide +kernel) (by decide +kernel)
def sg_w196 : List Cond := []
set_option maxRecDepth 100000 in
theorem sg_q196 : s_okE sg_mi 196 sg_c196 4 sg_h196 := s_mkL (np := sg_np) sg_m196 (sg_K12 false) sg_w196 [] 3049 rfl (s_isCw_s (by decide +kernel)) (plainFor_of_name sg_N12) sg_C12 rfl (by decide +kernel) (sg_K12_s rfl (fun h => by cases h)) (by decide +kernel) (by decide +kernel) (by decide +kernel) (by decide +kernel)
def sg_w197 : List Cond := []
set_option maxRecDepth 100000 in
theorem sg_q197 : s_okE sg_mi 197 sg_c197 3 sg_h197 := s_mkL (np := sg_np) sg_m197 (sg_K12 false) sg_w197 [] 3216 rfl (s_isCw_s (by decide +kernel)) (plainFor_of_name sg_N12) sg_C12 rfl (by decide +kernel) (sg_K12_s rfl (fun h => by cases h)) (by decide +kernel) (by decide +kernel) (by decide +kernel) (by decide +kernel)
def sg_w198 : List Cond := []
set_option maxRecDepth 100000 in
theorem sg_q198 : s_okE sg_mi 198 sg_c198 4 sg_h198 := s_mkL (np := sg_np) sg_m198 (sg_K12 false) sg_w198 [] 3231 rfl (by decide +kernel) (plainFor_of_name sg_N12) sg_C12 rfl (by decide +kernel) (sg_K12_s rfl (fun h => by cases h)) (by decide +kernel) (by decide +kernel) (by decide +kernel) (by decide +kernel)
def sg_w199 : List Cond := [.constantLong "FormulaWorksModel" 862 (40 : Int64)]
set_option maxRecDepth 100000 in
theorem sg_q199 : s_okE sg_mi 199 sg_c199 4 sg_h199 := s_mkL (np := sg_np) sg_m199 (sg_K12 false) sg_w199 [3905] 3904 rfl (s_isCw_s (by decide +kernel)) (plainFor_of_name sg_N12) sg_C12 rfl (by decide +kernel) (sg_K12_s rfl (fun h => by cases h)) (by decide +kernel) (by decide +kernel) (by decide +kernel) (by decide +kernel)
def sg_w200 : List Cond := []
set_option maxRecDepth 100000 in
theorem sg_q200 : s_okE sg_mi 200 sg_c200 4 sg_h200 := s_mkL (np := sg_np) sg_m200 (sg_K12 false) sg_w200 [] 3018 rfl (by decide +kernel) (plainFor_of_name sg_N12) sg_C12 rfl (by decide +kernel) (sg_K12_s rfl (fun h => by cases h)) (by decide +kernel) (by decide +kernel) (by decide +kernel) (by decide +kernel)
def sg_w201 : List Cond := []
set_option maxRecDepth 100000 in
theorem sg_q201 : s_okE sg_mi 201 sg_c201 1 sg_h201 := s_mkL (np := sg_np) sg_m201 (sg_K12 false) sg_w201 [] 3597 rfl (by decide +kernel) (plainFor_of_name sg_N12) sg_C12 rfl (by decide +kernel) (sg_K12_s rfl (fun h => by cases h)) (by decide +kernel) (by decide +kernel) (by decide +kernel) (by decide +kernel)
def sg_w202 : List Cond := []
set_option maxRecDepth 100000 in
theorem sg_q202 : s_okE sg_mi 202 sg_c202 2 sg_h202 := s_mkL (np := sg_np) sg_m202 (sg_K12 false) sg_w202 [] 3605 rfl (by decide +kernel) (plainFor_of_name sg_N12) sg_C12 rfl (by decide +kernel) (sg_K12_s rfl (fun h => by cases h)) (by decide +kernel) (by decide +kernel) (by decide +kernel) (by decide +kernel)
def sg_w203 : List Cond := [.constantLong "FormulaWorksModel" 857 (15 : Int64), .constantLong "FormulaWorksModel" 604 (3 : Int64)]
set_option maxRecDepth 100000 in
theorem sg_q203 : s_okE sg_mi 203 sg_c203 5 sg_h203 := s_mkL (np := sg_np) sg_m203 (sg_K12 false) sg_w203 [3877, 3567] 3881 rfl (s_isCw_s (by decide +kernel)) (plainFor_of_name sg_N12) sg_C12 rfl (by decide +kernel) (sg_K12_s rfl (fun h => by cases h)) (by decide +kernel) (by decide +kernel) (by decide +kernel) (by decide +kernel)
def sg_w204 : List Cond := [.constantLong "FormulaWorksModel" 810 (11 : Int64)]
set_option maxRecDepth 100000 in
theorem sg_q204 : s_okE sg_mi 204 sg_c204 4 sg_h204 := s_mkL (np := sg_np) sg_m204 (sg_K12 false) sg_w204 [3808] 3807 rfl (by decide +kernel) (plainFor_of_name sg_N12) sg_C12 rfl (by decide +kernel) (sg_K12_s rfl (fun h => by cases h)) (by decide +kernel) (by decide +kernel) (by decide +kernel) (by decide +kernel)
def sg_w205 : List Cond := []
set_option maxRecDepth 100000 in
theorem sg_q205 : s_okE sg_mi 205 sg_c205 4 sg_h205 := s_mkL (np := sg_np) sg_m205 (sg_K12 false) sg_w205 [] 3864 rfl (s_isCw_s (by decide +kernel)) (plainFor_of_name sg_N12) sg_C12 rfl (by decide +kernel) (sg_K12_s rfl (fun h => by cases h)) (by decide +kernel) (by decide +kernel) (by decide +kernel) (by decide +kernel)
def sg_w206 : List Cond := []
set_option maxRecDepth 100000 in
theorem sg_q206 : s_okE sg_mi 206 sg_c206 1 sg_h206 := s_mkL (np := sg_np) sg_m206 (sg_K12 false) sg_w206 [] 3921 rfl (by decide +kernel) (plainFor_of_name sg_N12) sg_C12 rfl (by decide +kernel) (sg_K12_s rfl (fun h => by cases h)) (by decide +kernel) (by decide +kernel) (by decide +kernel) (by decide +kernel)
def sg_w207 : List Cond := []
set_option maxRecDepth 100000 in
theorem sg_q207 : s_okE sg_mi 207 sg_c207 2 sg_h207 := s_mkL (np := sg_np) sg_m207 (sg_K12 false) sg_w207 [] 3359 rfl (s_isCw_s (by decide +kernel)) (plainFor_of_name sg_N12) sg_C12 rfl (by decide +kernel) (sg_K12_s rfl (fun h => by cases h)) (by decide +kernel) (by decide +kernel) (by decide +kernel) (by decide +kernel)
def sg_w208 : List Cond := [.constantLong "FormulaWorksModel" 372 (-1 : Int64)]
set_option maxRecDepth 100000 in
theorem sg_q208 : s_okE sg_mi 208 sg_c208 4 sg_h208 := s_mkL (np := sg_np) sg_m208 (sg_K12 false) sg_w208 [3135] 3235 rfl (s_isCw_s (by decide +kernel)) (plainFor_of_name sg_N12) sg_C12 rfl (by decide +kernel) (sg_K12_s rfl (fun h => by cases h)) (by decide +kernel) (by decide +kernel) (by decide +kernel) (by decide +kernel)
def sg_w209 : List Cond := []
set_option maxRecDepth 100000 in
theorem sg_q209 : s_okE sg_mi 209 sg_c209 3 sg_h209 := s_mkL (np := sg_np) sg_m209 (sg_K12 false) sg_w209 [] 3212 rfl (by decide +kernel) (plainFor_of_name sg_N12) sg_C12 rfl (by decide +kernel) (sg_K12_s rfl (fun h => by cases h)) (by decide +kernel) (by decide +kernel) (by decide +kernel) (by decide +kernel)
