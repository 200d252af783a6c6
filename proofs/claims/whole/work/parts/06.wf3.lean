set_option maxRecDepth 100000 in
theorem zw24 : zall zchkK 5 zP24 = true := by decide +kernel
set_option maxRecDepth 100000 in
theorem zw25 : zall zchkK 5 zP25 = true := by decide +kernel
set_option maxRecDepth 100000 in
theorem zw26 : zall zchkK 5 zP26 = true := by decide +kernel
set_option maxRecDepth 100000 in
theorem zw31 : zall zchkK 5 zP31 = true := by decide +kernel
