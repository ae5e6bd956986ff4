theorem ckB_6_5_0 : ckB 6 5 0 = true := by decide +kernel
theorem ckB_6_5_1 : ckB 6 5 1 = true := by decide +kernel
theorem ckB_6_5_2 : ckB 6 5 2 = true := by decide +kernel
theorem ckB_6_5_3 : ckB 6 5 3 = true := by decide +kernel
theorem ckB_6_5_4 : ckB 6 5 4 = true := by decide +kernel
