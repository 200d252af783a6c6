set_option maxRecDepth 100000 in
theorem zw16 : zall zchkK 5 zP16 = true := by decide +kernel
set_option maxRecDepth 100000 in
theorem zw17 : zall zchkK 5 zP17 = true := by decide +kernel
set_option maxRecDepth 100000 in
theorem zw18 : zall zchkK 5 zP18 = true := by decide +kernel
set_option maxRecDepth 100000 in
theorem zw19 : zall zchkK 5 zP19 = true := by decide +kernel
set_option maxRecDepth 100000 in
theorem zw20 : zall zchkK 5 zP20 = true := by decide +kernel
set_option maxRecDepth 100000 in
theorem zw21 : zall zchkK 5 zP21 = true := by decide +kernel
set_option maxRecDepth 100000 in
theorem zw22 : zall zchkK 5 zP22 = true := by decide +kernel
set_option maxRecDepth 100000 in
theorem zw23 : zall zchkK 5 zP23 = true := by decide +kernel
