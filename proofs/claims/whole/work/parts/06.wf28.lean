set_option maxRecDepth 100000 in
theorem zw28_0 : zall zchkK 2 zP28.2.1.2.1.2.1 = true := by decide +kernel
set_option maxRecDepth 100000 in
theorem zw28_1 : zall zchkK 2 zP28.2.1.2.1.2.2 = true := by decide +kernel
set_option maxRecDepth 100000 in
theorem zw28_2 : zall zchkK 2 zP28.2.1.2.2.2.1 = true := by decide +kernel
set_option maxRecDepth 100000 in
theorem zw28_3 : zall zchkK 2 zP28.2.1.2.2.2.2 = true := by decide +kernel
set_option maxRecDepth 100000 in
theorem zw28_4 : zall zchkK 2 zP28.2.2.2.1.2.1 = true := by decide +kernel
set_option maxRecDepth 100000 in
theorem zw28_5 : zall zchkK 2 zP28.2.2.2.1.2.2 = true := by decide +kernel
set_option maxRecDepth 100000 in
theorem zw28_6 : zall zchkK 2 zP28.2.2.2.2.2.1 = true := by decide +kernel
set_option maxRecDepth 100000 in
theorem zw28_7 : zall zchkK 2 zP28.2.2.2.2.2.2 = true := by decide +kernel
theorem zw28 : zall zchkK 5 zP28 = true := zand0 (zand0 (zand0 zw28_0 zw28_1) (zand0 zw28_2 zw28_3)) (zand0 (zand0 zw28_4 zw28_5) (zand0 zw28_6 zw28_7))
