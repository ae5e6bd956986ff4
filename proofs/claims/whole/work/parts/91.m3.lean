theorem ckT_2 : ckT 2 = true := by decide +kernel
theorem ckC_2 : ckC 2 0 1 = true := by decide +kernel
theorem ckT_3 : ckT 3 = true := by decide +kernel
theorem ckC_3 : ckC 3 0 1 = true := by decide +kernel
theorem ckT_4 : ckT 4 = true := by decide +kernel
theorem ckC_4 : ckC 4 0 1 = true := by decide +kernel
theorem ckT_5 : ckT 5 = true := by decide +kernel
theorem ckC_5 : ckC 5 0 1 = true := by decide +kernel
theorem ckT_6 : ckT 6 = true := by decide +kernel
theorem ckC_6 : ckC 6 0 1 = true := by decide +kernel
theorem ckB_2_0_1 : ckB 2 0 1 = true := by decide +kernel
theorem ckB_2_1_0 : ckB 2 1 0 = true := by decide +kernel
theorem ckB_3_0_1 : ckB 3 0 1 = true := by decide +kernel
theorem ckB_3_0_2 : ckB 3 0 2 = true := by decide +kernel
theorem ckB_3_1_0 : ckB 3 1 0 = true := by decide +kernel
theorem ckB_3_1_2 : ckB 3 1 2 = true := by decide +kernel
theorem ckB_3_2_0 : ckB 3 2 0 = true := by decide +kernel
theorem ckB_3_2_1 : ckB 3 2 1 = true := by decide +kernel
theorem ckB_4_0_1 : ckB 4 0 1 = true := by decide +kernel
theorem ckB_4_0_2 : ckB 4 0 2 = true := by decide +kernel
theorem ckB_4_0_3 : ckB 4 0 3 = true := by decide +kernel
theorem ckB_4_1_0 : ckB 4 1 0 = true := by decide +kernel
theorem ckB_4_1_2 : ckB 4 1 2 = true := by decide +kernel
theorem ckB_4_1_3 : ckB 4 1 3 = true := by decide +kernel
theorem ckB_4_2_0 : ckB 4 2 0 = true := by decide +kernel
theorem ckB_4_2_1 : ckB 4 2 1 = true := by decide +kernel
theorem ckB_4_2_3 : ckB 4 2 3 = true := by decide +kernel
theorem ckB_4_3_0 : ckB 4 3 0 = true := by decide +kernel
theorem ckB_4_3_1 : ckB 4 3 1 = true := by decide +kernel
theorem ckB_4_3_2 : ckB 4 3 2 = true := by decide +kernel
theorem ckB_5_0_1 : ckB 5 0 1 = true := by decide +kernel
theorem ckB_5_0_2 : ckB 5 0 2 = true := by decide +kernel
theorem ckB_5_0_3 : ckB 5 0 3 = true := by decide +kernel
theorem ckB_5_0_4 : ckB 5 0 4 = true := by decide +kernel
theorem ckB_5_1_0 : ckB 5 1 0 = true := by decide +kernel
theorem ckB_5_1_2 : ckB 5 1 2 = true := by decide +kernel
theorem ckB_5_1_3 : ckB 5 1 3 = true := by decide +kernel
theorem ckB_5_1_4 : ckB 5 1 4 = true := by decide +kernel
theorem ckB_5_2_0 : ckB 5 2 0 = true := by decide +kernel
theorem ckB_5_2_1 : ckB 5 2 1 = true := by decide +kernel
theorem ckB_5_2_3 : ckB 5 2 3 = true := by decide +kernel
theorem ckB_5_2_4 : ckB 5 2 4 = true := by decide +kernel
theorem ckB_5_3_0 : ckB 5 3 0 = true := by decide +kernel
theorem ckB_5_3_1 : ckB 5 3 1 = true := by decide +kernel
theorem ckB_5_3_2 : ckB 5 3 2 = true := by decide +kernel
theorem ckB_5_3_4 : ckB 5 3 4 = true := by decide +kernel
theorem ckB_5_4_0 : ckB 5 4 0 = true := by decide +kernel
theorem ckB_5_4_1 : ckB 5 4 1 = true := by decide +kernel
theorem ckB_5_4_2 : ckB 5 4 2 = true := by decide +kernel
theorem ckB_5_4_3 : ckB 5 4 3 = true := by decide +kernel
