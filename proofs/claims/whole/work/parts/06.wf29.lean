set_option maxRecDepth 100000 in
theorem zw29_0 : zall zchkK 2 zP29.2.1.2.1.2.1 = true := by decide +kernel
set_option maxRecDepth 100000 in
theorem zw29_1 : zall zchkK 2 zP29.2.1.2.1.2.2 = true := by decide +kernel
set_option maxRecDepth 100000 in
theorem zw29_2 : zall zchkK 2 zP29.2.1.2.2.2.1 = true := by decide +kernel
set_option maxRecDepth 100000 in
theorem zw29_3 : zall zchkK 2 zP29.2.1.2.2.2.2 = true := by decide +kernel
set_option maxRecDepth 100000 in
theorem zw29_4 : zall zchkK 2 zP29.2.2.2.1.2.1 = true := by decide +kernel
set_option maxRecDepth 100000 in
theorem zw29_5 : zall zchkK 2 zP29.2.2.2.1.2.2 = true := by decide +kernel
set_option maxRecDepth 100000 in
theorem zw29_6 : zall zchkK 2 zP29.2.2.2.2.2.1 = true := by decide +kernel
set_option maxRecDepth 100000 in
theorem zw29_7 : zall zchkK 2 zP29.2.2.2.2.2.2 = true := by decide +kernel
theorem zw29 : zall zchkK 5 zP29 = true := zand0 (zand0 (zand0 zw29_0 zw29_1) (zand0 zw29_2 zw29_3)) (zand0 (zand0 zw29_4 zw29_5) (zand0 zw29_6 zw29_7))
