/-! rows, decided -/
theorem ckL_598 : ckN 253 29 ((mT 253).1.drop 598) = true := by decide +kernel
theorem ckL_627 : ckN 253 28 ((mT 253).1.drop 627) = true := by decide +kernel
theorem ckL_655 : ckN 253 27 ((mT 253).1.drop 655) = true := by decide +kernel
theorem ckL_682 : ckN 253 26 ((mT 253).1.drop 682) = true := by decide +kernel
theorem ckL_708 : ckN 253 26 ((mT 253).1.drop 708) = true := by decide +kernel
theorem ckL_734 : ckN 253 25 ((mT 253).1.drop 734) = true := by decide +kernel
theorem ckL_759 : ckN 253 24 ((mT 253).1.drop 759) = true := by decide +kernel
theorem ckL_783 : ckN 253 24 ((mT 253).1.drop 783) = true := by decide +kernel
theorem ckL_807 : ckN 253 23 ((mT 253).1.drop 807) = true := by decide +kernel
theorem ckL_830 : ckN 253 23 ((mT 253).1.drop 830) = true := by decide +kernel
theorem ckL_853 : ckN 253 23 ((mT 253).1.drop 853) = true := by decide +kernel
theorem ckL_876 : ckN 253 22 ((mT 253).1.drop 876) = true := by decide +kernel
theorem ckL_898 : ckN 253 22 ((mT 253).1.drop 898) = true := by decide +kernel
theorem ckL_920 : ckN 253 21 ((mT 253).1.drop 920) = true := by decide +kernel
