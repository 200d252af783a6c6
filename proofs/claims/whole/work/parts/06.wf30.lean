set_option maxRecDepth 100000 in
theorem zw30_0 : zall zchkK 2 zP30.2.1.2.1.2.1 = true := by decide +kernel
set_option maxRecDepth 100000 in
theorem zw30_1 : zall zchkK 2 zP30.2.1.2.1.2.2 = true := by decide +kernel
set_option maxRecDepth 100000 in
theorem zw30_2 : zall zchkK 2 zP30.2.1.2.2.2.1 = true := by decide +kernel
set_option maxRecDepth 100000 in
theorem zw30_3 : zall zchkK 2 zP30.2.1.2.2.2.2 = true := by decide +kernel
set_option maxRecDepth 100000 in
theorem zw30_4 : zall zchkK 2 zP30.2.2.2.1.2.1 = true := by decide +kernel
set_option maxRecDepth 100000 in
theorem zw30_5 : zall zchkK 2 zP30.2.2.2.1.2.2 = true := by decide +kernel
set_option maxRecDepth 100000 in
theorem zw30_6 : zall zchkK 2 zP30.2.2.2.2.2.1 = true := by decide +kernel
set_option maxRecDepth 100000 in
theorem zw30_7 : zall zchkK 2 zP30.2.2.2.2.2.2 = true := by decide +kernel
theorem zw30 : zall zchkK 5 zP30 = true := zand0 (zand0 (zand0 zw30_0 zw30_1) (zand0 zw30_2 zw30_3)) (zand0 (zand0 zw30_4 zw30_5) (zand0 zw30_6 zw30_7))
