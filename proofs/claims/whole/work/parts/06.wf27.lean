set_option maxRecDepth 100000 in
theorem zw27_0 : zall zchkK 2 zP27.2.1.2.1.2.1 = true := by decide +kernel
set_option maxRecDepth 100000 in
theorem zw27_1 : zall zchkK 2 zP27.2.1.2.1.2.2 = true := by decide +kernel
set_option maxRecDepth 100000 in
theorem zw27_2 : zall zchkK 2 zP27.2.1.2.2.2.1 = true := by decide +kernel
set_option maxRecDepth 100000 in
theorem zw27_3 : zall zchkK 2 zP27.2.1.2.2.2.2 = true := by decide +kernel
set_option maxRecDepth 100000 in
theorem zw27_4 : zall zchkK 2 zP27.2.2.2.1.2.1 = true := by decide +kernel
set_option maxRecDepth 100000 in
theorem zw27_5 : zall zchkK 2 zP27.2.2.2.1.2.2 = true := by decide +kernel
set_option maxRecDepth 100000 in
theorem zw27_6 : zall zchkK 2 zP27.2.2.2.2.2.1 = true := by decide +kernel
set_option maxRecDepth 100000 in
theorem zw27_7 : zall zchkK 2 zP27.2.2.2.2.2.2 = true := by decide +kernel
theorem zw27 : zall zchkK 5 zP27 = true := zand0 (zand0 (zand0 zw27_0 zw27_1) (zand0 zw27_2 zw27_3)) (zand0 (zand0 zw27_4 zw27_5) (zand0 zw27_6 zw27_7))
