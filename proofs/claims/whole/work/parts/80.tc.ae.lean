/-! rows, decided -/
theorem ckL_0 : ckN 253 78 ((mT 253).1.drop 0) = true := by decide +kernel
theorem ckL_78 : ckN 253 60 ((mT 253).1.drop 78) = true := by decide +kernel
theorem ckL_138 : ckN 253 53 ((mT 253).1.drop 138) = true := by decide +kernel
theorem ckL_191 : ckN 253 48 ((mT 253).1.drop 191) = true := by decide +kernel
theorem ckL_239 : ckN 253 45 ((mT 253).1.drop 239) = true := by decide +kernel
theorem ckL_284 : ckN 253 42 ((mT 253).1.drop 284) = true := by decide +kernel
theorem ckL_326 : ckN 253 39 ((mT 253).1.drop 326) = true := by decide +kernel
theorem ckL_365 : ckN 253 37 ((mT 253).1.drop 365) = true := by decide +kernel
theorem ckL_402 : ckN 253 36 ((mT 253).1.drop 402) = true := by decide +kernel
theorem ckL_438 : ckN 253 34 ((mT 253).1.drop 438) = true := by decide +kernel
theorem ckL_472 : ckN 253 33 ((mT 253).1.drop 472) = true := by decide +kernel
theorem ckL_505 : ckN 253 32 ((mT 253).1.drop 505) = true := by decide +kernel
theorem ckL_537 : ckN 253 31 ((mT 253).1.drop 537) = true := by decide +kernel
theorem ckL_568 : ckN 253 30 ((mT 253).1.drop 568) = true := by decide +kernel
