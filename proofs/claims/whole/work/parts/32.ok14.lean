def sg_w300 : List Cond := [.constantLong "FormulaWorksModel" 271 (32003 : Int64)]
set_option maxRecDepth 100000 in
theorem sg_q300 : s_okE sg_mi 300 sg_c300 6 sg_h300 := s_mkL (np := sg_np) sg_m300 (sg_K12 false) sg_w300 [3022] 3486 rfl (s_isCw_s (by decide +kernel)) (plainFor_of_name sg_N12) sg_C12 rfl (by decide +kernel) (sg_K12_s rfl (fun h => by cases h)) (by decide +kernel) (by decide +kernel) (by decide +kernel) (by decide +kernel)
def sg_w301 : List Cond := []
set_option maxRecDepth 100000 in
theorem sg_q301 : s_okE sg_mi 301 sg_c301 7 sg_h301 := s_mkL (np := sg_np) sg_m301 (sg_K12 false) sg_w301 [] 3868 rfl (s_isCw_s (by decide +kernel)) (plainFor_of_name sg_N12) sg_C12 rfl (by decide +kernel) (sg_K12_s rfl (fun h => by cases h)) (by decide +kernel) (by decide +kernel) (by decide +kernel) (by decide +kernel)
def sg_w302 : List Cond := []
set_option maxRecDepth 100000 in
theorem sg_q302 : s_okE sg_mi 302 sg_c302 1 sg_h302 := s_mkL (np := sg_np) sg_m302 (sg_K12 false) sg_w302 [] 3892 rfl (by decide +kernel) (plainFor_of_name sg_N12) sg_C12 rfl (by decide +kernel) (sg_K12_s rfl (fun h => by cases h)) (by decide +kernel) (by decide +kernel) (by decide +kernel) (by decide +kernel)
def sg_w303 : List Cond := []
set_option maxRecDepth 100000 in
theorem sg_q303 : s_okE sg_mi 303 sg_c303 3 sg_h303 := s_mkL (np := sg_np) sg_m303 (sg_K12 false) sg_w303 [] 3783 rfl (by decide +kernel) (plainFor_of_name sg_N12) sg_C12 rfl (by decide +kernel) (sg_K12_s rfl (fun h => by cases h)) (by decide +kernel) (by decide +kernel) (by decide +kernel) (by decide +kernel)
def sg_w304 : List Cond := []
set_option maxRecDepth 100000 in
theorem sg_q304 : s_okE sg_mi 304 sg_c304 2 sg_h304 := s_mkL (np := sg_np) sg_m304 (sg_K12 false) sg_w304 [] 3775 rfl (by decide +kernel) (plainFor_of_name sg_N12) sg_C12 rfl (by decide +kernel) (sg_K12_s rfl (fun h => by cases h)) (by decide +kernel) (by decide +kernel) (by decide +kernel) (by decide +kernel)
def sg_w305 : List Cond := [.constant "java/lang/Integer" 265 (1431655765 : Int32), .constant "java/lang/Integer" 266 (858993459 : Int32), .constant "java/lang/Integer" 267 (252645135 : Int32)]
set_option maxRecDepth 100000 in
theorem sg_q305 : s_okE sg_mi 305 sg_c305 1 sg_h305 := s_mkL (np := sg_np) sg_m305 (sg_K13 false) sg_w305 [2110, 2111, 2112] 2109 rfl (by decide +kernel) (plainFor_of_name sg_N13) sg_C13 rfl (by decide +kernel) (sg_K13_s rfl (fun h => by cases h)) (by decide +kernel) (by decide +kernel) (by decide +kernel) (by decide +kernel)
def sg_w306 : List Cond := []
set_option maxRecDepth 100000 in
theorem sg_q306 : s_okE sg_mi 306 sg_c306 6 sg_h306 := s_mkL (np := sg_np) sg_m306 (sg_K14 false) sg_w306 [] 1221 rfl (by decide +kernel) (Jvm.Free.JP.mathPlain rfl (by decide +kernel)) sg_C14 rfl (by decide +kernel) (sg_K14_s rfl (fun h => by cases h)) (by decide +kernel) (by decide +kernel) (by decide +kernel) (by decide +kernel)
def sg_w307 : List Cond := []
set_option maxRecDepth 100000 in
theorem sg_q307 : s_okE sg_mi 307 sg_c307 2 sg_h307 := s_mkL (np := sg_np) sg_m307 (sg_K14 false) sg_w307 [] 1864 rfl (by decide +kernel) (Jvm.Free.JP.mathPlain rfl (by decide +kernel)) sg_C14 rfl (by decide +kernel) (sg_K14_s rfl (fun h => by cases h)) (by decide +kernel) (by decide +kernel) (by decide +kernel) (by decide +kernel)
def sg_wL : List Cond := [.classLink "FormulaWorksLaw" 8 "FormulaWorks", .initialized "FormulaWorks", .methodLink "FormulaWorksLaw" 238 ⟨"FormulaWorks", "<init>", "()V"⟩, .instanceMethod ⟨"FormulaWorks", "<init>", "()V"⟩, .classLink "FormulaWorksLaw" 239 "FormulaWorksModel", .initialized "FormulaWorksModel", .methodLink "FormulaWorksLaw" 241 ⟨"FormulaWorksModel", "<init>", "()V"⟩, .instanceMethod ⟨"FormulaWorksModel", "<init>", "()V"⟩, .arrayClass FieldType.long, .constantLong "FormulaWorksLaw" 242 (4294967295 : Int64)]
set_option maxRecDepth 100000 in
theorem sg_gL : sg_wL = ([257, 224, 259, 260, 2666, 235, 2668, 2669, 3006, 3922] : List Nat).filterMap (fun i => lw_tbl[i]?) := by decide +kernel
theorem sg_aL : sg_wL.all goodWord = true := by decide +kernel
set_option maxRecDepth 100000 in
theorem sg_oL_0 : s_okCL sg_mi sg_np sg_mL (sg_K11 false) (sg_wL ++ s_bw) (32 * (16 * 0)) (code.data.toList.drop (32 * (16 * 0))) ((sg_cL.drop (16 * 0)).take 16) = true := by decide +kernel
set_option maxRecDepth 100000 in
theorem sg_oL_1 : s_okCL sg_mi sg_np sg_mL (sg_K11 false) (sg_wL ++ s_bw) (32 * (16 * 1)) (code.data.toList.drop (32 * (16 * 1))) ((sg_cL.drop (16 * 1)).take 16) = true := by decide +kernel
set_option maxRecDepth 100000 in
theorem sg_oL_2 : s_okCL sg_mi sg_np sg_mL (sg_K11 false) (sg_wL ++ s_bw) (32 * (16 * 2)) (code.data.toList.drop (32 * (16 * 2))) ((sg_cL.drop (16 * 2)).take 16) = true := by decide +kernel
set_option maxRecDepth 100000 in
theorem sg_oL_3 : s_okCL sg_mi sg_np sg_mL (sg_K11 false) (sg_wL ++ s_bw) (32 * (16 * 3)) (code.data.toList.drop (32 * (16 * 3))) ((sg_cL.drop (16 * 3)).take 16) = true := by decide +kernel
set_option maxRecDepth 100000 in
theorem sg_oL_4 : s_okCL sg_mi sg_np sg_mL (sg_K11 false) (sg_wL ++ s_bw) (32 * (16 * 4)) (code.data.toList.drop (32 * (16 * 4))) ((sg_cL.drop (16 * 4)).take 16) = true := by decide +kernel
set_option maxRecDepth 100000 in
theorem sg_oL_5 : s_okCL sg_mi sg_np sg_mL (sg_K11 false) (sg_wL ++ s_bw) (32 * (16 * 5)) (code.data.toList.drop (32 * (16 * 5))) ((sg_cL.drop (16 * 5)).take 16) = true := by decide +kernel
set_option maxRecDepth 100000 in
theorem sg_oL_6 : s_okCL sg_mi sg_np sg_mL (sg_K11 false) (sg_wL ++ s_bw) (32 * (16 * 6)) (code.data.toList.drop (32 * (16 * 6))) ((sg_cL.drop (16 * 6)).take 16) = true := by decide +kernel
set_option maxRecDepth 100000 in
theorem sg_oL_7 : s_okCL sg_mi sg_np sg_mL (sg_K11 false) (sg_wL ++ s_bw) (32 * (16 * 7)) (code.data.toList.drop (32 * (16 * 7))) ((sg_cL.drop (16 * 7)).take 16) = true := by decide +kernel
set_option maxRecDepth 100000 in
theorem sg_oL_8 : s_okCL sg_mi sg_np sg_mL (sg_K11 false) (sg_wL ++ s_bw) (32 * (16 * 8)) (code.data.toList.drop (32 * (16 * 8))) ((sg_cL.drop (16 * 8)).take 16) = true := by decide +kernel
set_option maxRecDepth 100000 in
theorem sg_oL_9 : s_okCL sg_mi sg_np sg_mL (sg_K11 false) (sg_wL ++ s_bw) (32 * (16 * 9)) (code.data.toList.drop (32 * (16 * 9))) ((sg_cL.drop (16 * 9)).take 16) = true := by decide +kernel
set_option maxRecDepth 100000 in
theorem sg_oL_10 : s_okCL sg_mi sg_np sg_mL (sg_K11 false) (sg_wL ++ s_bw) (32 * (16 * 10)) (code.data.toList.drop (32 * (16 * 10))) ((sg_cL.drop (16 * 10)).take 16) = true := by decide +kernel
theorem sg_oL : s_okC sg_mi sg_mL s_gd 0 sg_cL = true := s_okC_cut (st := 16) (n := 11) (by decide +kernel) (fun j hj => by
  rcases (by omega : j = 0 ∨ j = 1 ∨ j = 2 ∨ j = 3 ∨ j = 4 ∨ j = 5 ∨ j = 6 ∨ j = 7 ∨ j = 8 ∨ j = 9 ∨ j = 10) with rfl | rfl | rfl | rfl | rfl | rfl | rfl | rfl | rfl | rfl | rfl
  · exact s_okCL_s (sg_K11_s rfl (fun h => by cases h)) (s_wm sg_gL sg_aL) rfl sg_oL_0
  · exact s_okCL_s (sg_K11_s rfl (fun h => by cases h)) (s_wm sg_gL sg_aL) rfl sg_oL_1
  · exact s_okCL_s (sg_K11_s rfl (fun h => by cases h)) (s_wm sg_gL sg_aL) rfl sg_oL_2
  · exact s_okCL_s (sg_K11_s rfl (fun h => by cases h)) (s_wm sg_gL sg_aL) rfl sg_oL_3
  · exact s_okCL_s (sg_K11_s rfl (fun h => by cases h)) (s_wm sg_gL sg_aL) rfl sg_oL_4
  · exact s_okCL_s (sg_K11_s rfl (fun h => by cases h)) (s_wm sg_gL sg_aL) rfl sg_oL_5
  · exact s_okCL_s (sg_K11_s rfl (fun h => by cases h)) (s_wm sg_gL sg_aL) rfl sg_oL_6
  · exact s_okCL_s (sg_K11_s rfl (fun h => by cases h)) (s_wm sg_gL sg_aL) rfl sg_oL_7
  · exact s_okCL_s (sg_K11_s rfl (fun h => by cases h)) (s_wm sg_gL sg_aL) rfl sg_oL_8
  · exact s_okCL_s (sg_K11_s rfl (fun h => by cases h)) (s_wm sg_gL sg_aL) rfl sg_oL_9
  · exact s_okCL_s (sg_K11_s rfl (fun h => by cases h)) (s_wm sg_gL sg_aL) rfl sg_oL_10)
