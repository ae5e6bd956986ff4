theorem ckB_6_0_1 : ckB 6 0 1 = true := by decide +kernel
theorem ckB_6_0_2 : ckB 6 0 2 = true := by decide +kernel
theorem ckB_6_0_3 : ckB 6 0 3 = true := by decide +kernel
theorem ckB_6_0_4 : ckB 6 0 4 = true := by decide +kernel
theorem ckB_6_0_5 : ckB 6 0 5 = true := by decide +kernel
