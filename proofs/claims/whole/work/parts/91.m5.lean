theorem ckB_6_1_0 : ckB 6 1 0 = true := by decide +kernel
theorem ckB_6_1_2 : ckB 6 1 2 = true := by decide +kernel
theorem ckB_6_1_3 : ckB 6 1 3 = true := by decide +kernel
theorem ckB_6_1_4 : ckB 6 1 4 = true := by decide +kernel
theorem ckB_6_1_5 : ckB 6 1 5 = true := by decide +kernel
