/-! rows, decided -/
theorem ckL_1212 : ckN 253 18 ((mT 253).1.drop 1212) = true := by decide +kernel
theorem ckL_1230 : ckN 253 17 ((mT 253).1.drop 1230) = true := by decide +kernel
theorem ckL_1247 : ckN 253 17 ((mT 253).1.drop 1247) = true := by decide +kernel
theorem ckL_1264 : ckN 253 17 ((mT 253).1.drop 1264) = true := by decide +kernel
theorem ckL_1281 : ckN 253 17 ((mT 253).1.drop 1281) = true := by decide +kernel
theorem ckL_1298 : ckN 253 17 ((mT 253).1.drop 1298) = true := by decide +kernel
theorem ckL_1315 : ckN 253 16 ((mT 253).1.drop 1315) = true := by decide +kernel
theorem ckL_1331 : ckN 253 16 ((mT 253).1.drop 1331) = true := by decide +kernel
theorem ckL_1347 : ckN 253 16 ((mT 253).1.drop 1347) = true := by decide +kernel
theorem ckL_1363 : ckN 253 5 ((mT 253).1.drop 1363) = true := by decide +kernel
