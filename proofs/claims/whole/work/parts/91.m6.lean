theorem ckB_6_2_0 : ckB 6 2 0 = true := by decide +kernel
theorem ckB_6_2_1 : ckB 6 2 1 = true := by decide +kernel
theorem ckB_6_2_3 : ckB 6 2 3 = true := by decide +kernel
theorem ckB_6_2_4 : ckB 6 2 4 = true := by decide +kernel
theorem ckB_6_2_5 : ckB 6 2 5 = true := by decide +kernel
