theorem jx_ckl_1000 : jx_ck code ((jc_L_law.drop 1000).take 25) = true := by decide +kernel
theorem jx_ckl_1025 : jx_ck code ((jc_L_law.drop 1025).take 25) = true := by decide +kernel
theorem jx_ckl_1050 : jx_ck code ((jc_L_law.drop 1050).take 25) = true := by decide +kernel
theorem jx_ckl_1075 : jx_ck code ((jc_L_law.drop 1075).take 25) = true := by decide +kernel
theorem jx_ckl_1100 : jx_ck code ((jc_L_law.drop 1100).take 25) = true := by decide +kernel
