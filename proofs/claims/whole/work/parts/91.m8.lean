theorem ckB_6_4_0 : ckB 6 4 0 = true := by decide +kernel
theorem ckB_6_4_1 : ckB 6 4 1 = true := by decide +kernel
theorem ckB_6_4_2 : ckB 6 4 2 = true := by decide +kernel
theorem ckB_6_4_3 : ckB 6 4 3 = true := by decide +kernel
theorem ckB_6_4_5 : ckB 6 4 5 = true := by decide +kernel
