theorem ckB_6_3_0 : ckB 6 3 0 = true := by decide +kernel
theorem ckB_6_3_1 : ckB 6 3 1 = true := by decide +kernel
theorem ckB_6_3_2 : ckB 6 3 2 = true := by decide +kernel
theorem ckB_6_3_4 : ckB 6 3 4 = true := by decide +kernel
theorem ckB_6_3_5 : ckB 6 3 5 = true := by decide +kernel
