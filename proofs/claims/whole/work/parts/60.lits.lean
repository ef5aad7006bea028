/-! literals -/
theorem sin_0_5 : sIn 0 5 = true := by decide
theorem sin_0_9 : sIn 0 9 = true := by decide
theorem sin_0_200 : sIn 0 200 = true := by decide
theorem sin_0_316 : sIn 0 316 = true := by decide
theorem sin_0_512 : sIn 0 512 = true := by decide
theorem sin_0_4608 : sIn 0 4608 = true := by decide
theorem sin_1_5 : sIn 1 5 = true := by decide
theorem sin_1_9 : sIn 1 9 = true := by decide
theorem sin_1_316 : sIn 1 316 = true := by decide
theorem sin_2_5 : sIn 2 5 = true := by decide
theorem sin_2_316 : sIn 2 316 = true := by decide
theorem sin_3_5 : sIn 3 5 = true := by decide
theorem sin_3_316 : sIn 3 316 = true := by decide
theorem sin_4_5 : sIn 4 5 = true := by decide
theorem sin_4_316 : sIn 4 316 = true := by decide
theorem sin_5_316 : sIn 5 316 = true := by decide
theorem tn_0 : (0 : Int32).toNatClampNeg = 0 := by decide
theorem tn_1 : (1 : Int32).toNatClampNeg = 1 := by decide
theorem tn_2 : (2 : Int32).toNatClampNeg = 2 := by decide
theorem tn_3 : (3 : Int32).toNatClampNeg = 3 := by decide
theorem tn_4 : (4 : Int32).toNatClampNeg = 4 := by decide
theorem tn_5 : (5 : Int32).toNatClampNeg = 5 := by decide
theorem sbo_0 : sBo 0 = true := by decide
theorem sbo_1 : sBo 1 = true := by decide
