set_option maxRecDepth 100000 in
theorem sg_o190_4 : s_okCL sg_mi sg_np sg_m190 (sg_K12 true) (sg_w190 ++ s_bw) (32 * (2 * 4)) (prog_14_method_1_code.data.toList.drop (32 * (2 * 4))) ((sg_c190.drop (2 * 4)).take 2) = true := by decide +kernel
set_option maxRecDepth 100000 in
theorem sg_o190_5 : s_okCL sg_mi sg_np sg_m190 (sg_K12 true) (sg_w190 ++ s_bw) (32 * (2 * 5)) (prog_14_method_1_code.data.toList.drop (32 * (2 * 5))) ((sg_c190.drop (2 * 5)).take 2) = true := by decide +kernel
set_option maxRecDepth 100000 in
theorem sg_o190_6 : s_okCL sg_mi sg_np sg_m190 (sg_K12 true) (sg_w190 ++ s_bw) (32 * (2 * 6)) (prog_14_method_1_code.data.toList.drop (32 * (2 * 6))) ((sg_c190.drop (2 * 6)).take 2) = true := by decide +kernel
set_option maxRecDepth 100000 in
theorem sg_o190_7 : s_okCL sg_mi sg_np sg_m190 (sg_K12 true) (sg_w190 ++ s_bw) (32 * (2 * 7)) (prog_14_method_1_code.data.toList.drop (32 * (2 * 7))) ((sg_c190.drop (2 * 7)).take 2) = true := by decide +kernel
