theorem z_test1 : zknd 12 = (1, 16) := by decide +kernel
