/-! rows, decided -/
theorem ckA_28 : ((List.range' 234 1).all fun k => ckRs k (mT k).1) = true := by decide +kernel
theorem ckA_29 : ((List.range' 235 2).all fun k => ckRs k (mT k).1) = true := by decide +kernel
theorem ckA_30 : ((List.range' 237 8).all fun k => ckRs k (mT k).1) = true := by decide +kernel
theorem ckA_31 : ((List.range' 245 8).all fun k => ckRs k (mT k).1) = true := by decide +kernel
