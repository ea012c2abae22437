set_option maxRecDepth 100000 in
theorem sg_o190_0 : s_okCL sg_mi sg_np sg_m190 (sg_K12 true) (sg_w190 ++ s_bw) (32 * (2 * 0)) (prog_14_method_1_code.data.toList.drop (32 * (2 * 0))) ((sg_c190.drop (2 * 0)).take 2) = true := by decide +kernel
set_option maxRecDepth 100000 in
theorem sg_o190_1 : s_okCL sg_mi sg_np sg_m190 (sg_K12 true) (sg_w190 ++ s_bw) (32 * (2 * 1)) (prog_14_method_1_code.data.toList.drop (32 * (2 * 1))) ((sg_c190.drop (2 * 1)).take 2) = true := by decide +kernel
set_option maxRecDepth 100000 in
theorem sg_o190_2 : s_okCL sg_mi sg_np sg_m190 (sg_K12 true) (sg_w190 ++ s_bw) (32 * (2 * 2)) (prog_14_method_1_code.data.toList.drop (32 * (2 * 2))) ((sg_c190.drop (2 * 2)).take 2) = true := by decide +kernel
set_option maxRecDepth 100000 in
theorem sg_o190_3 : s_okCL sg_mi sg_np sg_m190 (sg_K12 true) (sg_w190 ++ s_bw) (32 * (2 * 3)) (prog_14_method_1_code.data.toList.drop (32 * (2 * 3))) ((sg_c190.drop (2 * 3)).take 2) = true := by decide +kernel
