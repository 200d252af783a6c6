set_option maxRecDepth 100000 in
theorem zw0 : zall zchkK 5 zP0 = true := by decide +kernel
set_option maxRecDepth 100000 in
theorem zw1 : zall zchkK 5 zP1 = true := by decide +kernel
set_option maxRecDepth 100000 in
theorem zw2 : zall zchkK 5 zP2 = true := by decide +kernel
set_option maxRecDepth 100000 in
theorem zw3 : zall zchkK 5 zP3 = true := by decide +kernel
set_option maxRecDepth 100000 in
theorem zw4 : zall zchkK 5 zP4 = true := by decide +kernel
set_option maxRecDepth 100000 in
theorem zw5 : zall zchkK 5 zP5 = true := by decide +kernel
set_option maxRecDepth 100000 in
theorem zw6 : zall zchkK 5 zP6 = true := by decide +kernel
set_option maxRecDepth 100000 in
theorem zw7 : zall zchkK 5 zP7 = true := by decide +kernel
