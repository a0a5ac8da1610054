/-! rows, decided -/
theorem ckA_0 : ((List.range' 0 9).all fun k => ckRs k (mT k).1) = true := by decide +kernel
theorem ckA_1 : ((List.range' 9 7).all fun k => ckRs k (mT k).1) = true := by decide +kernel
theorem ckA_2 : ((List.range' 16 8).all fun k => ckRs k (mT k).1) = true := by decide +kernel
theorem ckA_3 : ((List.range' 24 13).all fun k => ckRs k (mT k).1) = true := by decide +kernel
theorem ckA_4 : ((List.range' 37 13).all fun k => ckRs k (mT k).1) = true := by decide +kernel
theorem ckA_5 : ((List.range' 50 5).all fun k => ckRs k (mT k).1) = true := by decide +kernel
theorem ckA_6 : ((List.range' 55 10).all fun k => ckRs k (mT k).1) = true := by decide +kernel
theorem ckA_7 : ((List.range' 65 15).all fun k => ckRs k (mT k).1) = true := by decide +kernel
theorem ckA_8 : ((List.range' 80 10).all fun k => ckRs k (mT k).1) = true := by decide +kernel
theorem ckA_9 : ((List.range' 90 12).all fun k => ckRs k (mT k).1) = true := by decide +kernel
theorem ckA_10 : ((List.range' 102 5).all fun k => ckRs k (mT k).1) = true := by decide +kernel
theorem ckA_11 : ((List.range' 107 5).all fun k => ckRs k (mT k).1) = true := by decide +kernel
theorem ckA_12 : ((List.range' 112 1).all fun k => ckRs k (mT k).1) = true := by decide +kernel
theorem ckA_13 : ((List.range' 113 15).all fun k => ckRs k (mT k).1) = true := by decide +kernel
