/-! rows, decided -/
theorem ckA_14 : ((List.range' 128 9).all fun k => ckRs k (mT k).1) = true := by decide +kernel
theorem ckA_15 : ((List.range' 137 9).all fun k => ckRs k (mT k).1) = true := by decide +kernel
theorem ckA_16 : ((List.range' 146 7).all fun k => ckRs k (mT k).1) = true := by decide +kernel
theorem ckA_17 : ((List.range' 153 7).all fun k => ckRs k (mT k).1) = true := by decide +kernel
theorem ckA_18 : ((List.range' 160 8).all fun k => ckRs k (mT k).1) = true := by decide +kernel
theorem ckA_19 : ((List.range' 168 3).all fun k => ckRs k (mT k).1) = true := by decide +kernel
theorem ckA_20 : ((List.range' 171 11).all fun k => ckRs k (mT k).1) = true := by decide +kernel
theorem ckA_21 : ((List.range' 182 10).all fun k => ckRs k (mT k).1) = true := by decide +kernel
theorem ckA_22 : ((List.range' 192 8).all fun k => ckRs k (mT k).1) = true := by decide +kernel
theorem ckA_23 : ((List.range' 200 9).all fun k => ckRs k (mT k).1) = true := by decide +kernel
theorem ckA_24 : ((List.range' 209 11).all fun k => ckRs k (mT k).1) = true := by decide +kernel
theorem ckA_25 : ((List.range' 220 3).all fun k => ckRs k (mT k).1) = true := by decide +kernel
theorem ckA_26 : ((List.range' 223 8).all fun k => ckRs k (mT k).1) = true := by decide +kernel
theorem ckA_27 : ((List.range' 231 3).all fun k => ckRs k (mT k).1) = true := by decide +kernel
