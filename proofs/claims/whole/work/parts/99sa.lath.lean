/-! layer 2: laths, the check of all sets of ducks -/
theorem ckB_1_0 : ckB 1 0 2 = true := by decide +kernel
theorem ckB_2_0 : ckB 2 0 4 = true := by decide +kernel
theorem ckB_3_0 : ckB 3 0 8 = true := by decide +kernel
theorem ckB_4_0 : ckB 4 0 16 = true := by decide +kernel
theorem ckB_5_0 : ckB 5 0 32 = true := by decide +kernel
theorem ckB_6_0 : ckB 6 0 32 = true := by decide +kernel
theorem ckB_6_32 : ckB 6 32 32 = true := by decide +kernel
theorem ckB_7_0 : ckB 7 0 32 = true := by decide +kernel
theorem ckB_7_32 : ckB 7 32 32 = true := by decide +kernel
theorem ckB_7_64 : ckB 7 64 32 = true := by decide +kernel
theorem ckB_7_96 : ckB 7 96 32 = true := by decide +kernel
theorem ckB_8_0 : ckB 8 0 32 = true := by decide +kernel
theorem ckB_8_32 : ckB 8 32 32 = true := by decide +kernel
theorem ckB_8_64 : ckB 8 64 32 = true := by decide +kernel
