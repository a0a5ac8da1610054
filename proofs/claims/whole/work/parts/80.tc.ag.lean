/-! rows, decided -/
theorem ckL_941 : ckN 253 21 ((mT 253).1.drop 941) = true := by decide +kernel
theorem ckL_962 : ckN 253 21 ((mT 253).1.drop 962) = true := by decide +kernel
theorem ckL_983 : ckN 253 21 ((mT 253).1.drop 983) = true := by decide +kernel
theorem ckL_1004 : ckN 253 20 ((mT 253).1.drop 1004) = true := by decide +kernel
theorem ckL_1024 : ckN 253 20 ((mT 253).1.drop 1024) = true := by decide +kernel
theorem ckL_1044 : ckN 253 20 ((mT 253).1.drop 1044) = true := by decide +kernel
theorem ckL_1064 : ckN 253 19 ((mT 253).1.drop 1064) = true := by decide +kernel
theorem ckL_1083 : ckN 253 19 ((mT 253).1.drop 1083) = true := by decide +kernel
theorem ckL_1102 : ckN 253 19 ((mT 253).1.drop 1102) = true := by decide +kernel
theorem ckL_1121 : ckN 253 19 ((mT 253).1.drop 1121) = true := by decide +kernel
theorem ckL_1140 : ckN 253 18 ((mT 253).1.drop 1140) = true := by decide +kernel
theorem ckL_1158 : ckN 253 18 ((mT 253).1.drop 1158) = true := by decide +kernel
theorem ckL_1176 : ckN 253 18 ((mT 253).1.drop 1176) = true := by decide +kernel
theorem ckL_1194 : ckN 253 18 ((mT 253).1.drop 1194) = true := by decide +kernel
