set_option maxRecDepth 100000 in
theorem zw8 : zall zchkK 5 zP8 = true := by decide +kernel
set_option maxRecDepth 100000 in
theorem zw9 : zall zchkK 5 zP9 = true := by decide +kernel
set_option maxRecDepth 100000 in
theorem zw10 : zall zchkK 5 zP10 = true := by decide +kernel
set_option maxRecDepth 100000 in
theorem zw11 : zall zchkK 5 zP11 = true := by decide +kernel
set_option maxRecDepth 100000 in
theorem zw12 : zall zchkK 5 zP12 = true := by decide +kernel
set_option maxRecDepth 100000 in
theorem zw13 : zall zchkK 5 zP13 = true := by decide +kernel
set_option maxRecDepth 100000 in
theorem zw14 : zall zchkK 5 zP14 = true := by decide +kernel
set_option maxRecDepth 100000 in
theorem zw15 : zall zchkK 5 zP15 = true := by decide +kernel
