/-! the code is as the tables have it -/
theorem xq_d266 : xq_c266.all (xq_rok 12 false prog_14_method_109_code) = true := by decide +kernel
theorem xq_d267 : xq_c267.all (xq_rok 12 false prog_14_method_110_code) = true := by decide +kernel
theorem xq_d268 : xq_c268.all (xq_rok 12 false prog_14_method_112_code) = true := by decide +kernel
theorem xq_d269 : xq_c269.all (xq_rok 12 false prog_14_method_113_code) = true := by decide +kernel
theorem xq_d270 : xq_c270.all (xq_rok 12 false prog_14_method_114_code) = true := by decide +kernel
theorem xq_d271 : xq_c271.all (xq_rok 12 false prog_14_method_115_code) = true := by decide +kernel
theorem xq_d272 : xq_c272.all (xq_rok 12 false prog_14_method_116_code) = true := by decide +kernel
