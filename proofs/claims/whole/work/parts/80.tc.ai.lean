/-! rows, decided -/
theorem ckE_1368 : ckRs 253 ((mT 253).1.drop 1368) = true := by
  rw [List.drop_eq_nil_of_le (by decide +kernel)]
  rfl
theorem ckE_1363 : ckRs 253 ((mT 253).1.drop 1363) = true := ckN_go ckL_1363 ckE_1368
theorem ckE_1347 : ckRs 253 ((mT 253).1.drop 1347) = true := ckN_go ckL_1347 ckE_1363
theorem ckE_1331 : ckRs 253 ((mT 253).1.drop 1331) = true := ckN_go ckL_1331 ckE_1347
theorem ckE_1315 : ckRs 253 ((mT 253).1.drop 1315) = true := ckN_go ckL_1315 ckE_1331
theorem ckE_1298 : ckRs 253 ((mT 253).1.drop 1298) = true := ckN_go ckL_1298 ckE_1315
theorem ckE_1281 : ckRs 253 ((mT 253).1.drop 1281) = true := ckN_go ckL_1281 ckE_1298
theorem ckE_1264 : ckRs 253 ((mT 253).1.drop 1264) = true := ckN_go ckL_1264 ckE_1281
theorem ckE_1247 : ckRs 253 ((mT 253).1.drop 1247) = true := ckN_go ckL_1247 ckE_1264
theorem ckE_1230 : ckRs 253 ((mT 253).1.drop 1230) = true := ckN_go ckL_1230 ckE_1247
theorem ckE_1212 : ckRs 253 ((mT 253).1.drop 1212) = true := ckN_go ckL_1212 ckE_1230
theorem ckE_1194 : ckRs 253 ((mT 253).1.drop 1194) = true := ckN_go ckL_1194 ckE_1212
theorem ckE_1176 : ckRs 253 ((mT 253).1.drop 1176) = true := ckN_go ckL_1176 ckE_1194
theorem ckE_1158 : ckRs 253 ((mT 253).1.drop 1158) = true := ckN_go ckL_1158 ckE_1176
theorem ckE_1140 : ckRs 253 ((mT 253).1.drop 1140) = true := ckN_go ckL_1140 ckE_1158
theorem ckE_1121 : ckRs 253 ((mT 253).1.drop 1121) = true := ckN_go ckL_1121 ckE_1140
theorem ckE_1102 : ckRs 253 ((mT 253).1.drop 1102) = true := ckN_go ckL_1102 ckE_1121
theorem ckE_1083 : ckRs 253 ((mT 253).1.drop 1083) = true := ckN_go ckL_1083 ckE_1102
theorem ckE_1064 : ckRs 253 ((mT 253).1.drop 1064) = true := ckN_go ckL_1064 ckE_1083
theorem ckE_1044 : ckRs 253 ((mT 253).1.drop 1044) = true := ckN_go ckL_1044 ckE_1064
theorem ckE_1024 : ckRs 253 ((mT 253).1.drop 1024) = true := ckN_go ckL_1024 ckE_1044
theorem ckE_1004 : ckRs 253 ((mT 253).1.drop 1004) = true := ckN_go ckL_1004 ckE_1024
theorem ckE_983 : ckRs 253 ((mT 253).1.drop 983) = true := ckN_go ckL_983 ckE_1004
theorem ckE_962 : ckRs 253 ((mT 253).1.drop 962) = true := ckN_go ckL_962 ckE_983
theorem ckE_941 : ckRs 253 ((mT 253).1.drop 941) = true := ckN_go ckL_941 ckE_962
theorem ckE_920 : ckRs 253 ((mT 253).1.drop 920) = true := ckN_go ckL_920 ckE_941
theorem ckE_898 : ckRs 253 ((mT 253).1.drop 898) = true := ckN_go ckL_898 ckE_920
theorem ckE_876 : ckRs 253 ((mT 253).1.drop 876) = true := ckN_go ckL_876 ckE_898
theorem ckE_853 : ckRs 253 ((mT 253).1.drop 853) = true := ckN_go ckL_853 ckE_876
theorem ckE_830 : ckRs 253 ((mT 253).1.drop 830) = true := ckN_go ckL_830 ckE_853
theorem ckE_807 : ckRs 253 ((mT 253).1.drop 807) = true := ckN_go ckL_807 ckE_830
theorem ckE_783 : ckRs 253 ((mT 253).1.drop 783) = true := ckN_go ckL_783 ckE_807
theorem ckE_759 : ckRs 253 ((mT 253).1.drop 759) = true := ckN_go ckL_759 ckE_783
theorem ckE_734 : ckRs 253 ((mT 253).1.drop 734) = true := ckN_go ckL_734 ckE_759
theorem ckE_708 : ckRs 253 ((mT 253).1.drop 708) = true := ckN_go ckL_708 ckE_734
theorem ckE_682 : ckRs 253 ((mT 253).1.drop 682) = true := ckN_go ckL_682 ckE_708
theorem ckE_655 : ckRs 253 ((mT 253).1.drop 655) = true := ckN_go ckL_655 ckE_682
theorem ckE_627 : ckRs 253 ((mT 253).1.drop 627) = true := ckN_go ckL_627 ckE_655
theorem ckE_598 : ckRs 253 ((mT 253).1.drop 598) = true := ckN_go ckL_598 ckE_627
theorem ckE_568 : ckRs 253 ((mT 253).1.drop 568) = true := ckN_go ckL_568 ckE_598
theorem ckE_537 : ckRs 253 ((mT 253).1.drop 537) = true := ckN_go ckL_537 ckE_568
theorem ckE_505 : ckRs 253 ((mT 253).1.drop 505) = true := ckN_go ckL_505 ckE_537
theorem ckE_472 : ckRs 253 ((mT 253).1.drop 472) = true := ckN_go ckL_472 ckE_505
theorem ckE_438 : ckRs 253 ((mT 253).1.drop 438) = true := ckN_go ckL_438 ckE_472
theorem ckE_402 : ckRs 253 ((mT 253).1.drop 402) = true := ckN_go ckL_402 ckE_438
theorem ckE_365 : ckRs 253 ((mT 253).1.drop 365) = true := ckN_go ckL_365 ckE_402
theorem ckE_326 : ckRs 253 ((mT 253).1.drop 326) = true := ckN_go ckL_326 ckE_365
theorem ckE_284 : ckRs 253 ((mT 253).1.drop 284) = true := ckN_go ckL_284 ckE_326
theorem ckE_239 : ckRs 253 ((mT 253).1.drop 239) = true := ckN_go ckL_239 ckE_284
theorem ckE_191 : ckRs 253 ((mT 253).1.drop 191) = true := ckN_go ckL_191 ckE_239
theorem ckE_138 : ckRs 253 ((mT 253).1.drop 138) = true := ckN_go ckL_138 ckE_191
theorem ckE_78 : ckRs 253 ((mT 253).1.drop 78) = true := ckN_go ckL_78 ckE_138
theorem ckE_0 : ckRs 253 ((mT 253).1.drop 0) = true := ckN_go ckL_0 ckE_78
theorem ckMb_all : ∀ k, k < 253 → ckMb k = true := by
  intro k h
  by_cases h0 : k < 12
  · exact List.all_eq_true.mp ckW_0 k (List.mem_range'_1.mpr ⟨by omega, by omega⟩)
  by_cases h1 : k < 24
  · exact List.all_eq_true.mp ckW_1 k (List.mem_range'_1.mpr ⟨by omega, by omega⟩)
  by_cases h2 : k < 36
  · exact List.all_eq_true.mp ckW_2 k (List.mem_range'_1.mpr ⟨by omega, by omega⟩)
  by_cases h3 : k < 48
  · exact List.all_eq_true.mp ckW_3 k (List.mem_range'_1.mpr ⟨by omega, by omega⟩)
  by_cases h4 : k < 60
  · exact List.all_eq_true.mp ckW_4 k (List.mem_range'_1.mpr ⟨by omega, by omega⟩)
  by_cases h5 : k < 72
  · exact List.all_eq_true.mp ckW_5 k (List.mem_range'_1.mpr ⟨by omega, by omega⟩)
  by_cases h6 : k < 84
  · exact List.all_eq_true.mp ckW_6 k (List.mem_range'_1.mpr ⟨by omega, by omega⟩)
  by_cases h7 : k < 96
  · exact List.all_eq_true.mp ckW_7 k (List.mem_range'_1.mpr ⟨by omega, by omega⟩)
  by_cases h8 : k < 108
  · exact List.all_eq_true.mp ckW_8 k (List.mem_range'_1.mpr ⟨by omega, by omega⟩)
  by_cases h9 : k < 120
  · exact List.all_eq_true.mp ckW_9 k (List.mem_range'_1.mpr ⟨by omega, by omega⟩)
  by_cases h10 : k < 132
  · exact List.all_eq_true.mp ckW_10 k (List.mem_range'_1.mpr ⟨by omega, by omega⟩)
  by_cases h11 : k < 144
  · exact List.all_eq_true.mp ckW_11 k (List.mem_range'_1.mpr ⟨by omega, by omega⟩)
  by_cases h12 : k < 156
  · exact List.all_eq_true.mp ckW_12 k (List.mem_range'_1.mpr ⟨by omega, by omega⟩)
  by_cases h13 : k < 168
  · exact List.all_eq_true.mp ckW_13 k (List.mem_range'_1.mpr ⟨by omega, by omega⟩)
  by_cases h14 : k < 180
  · exact List.all_eq_true.mp ckW_14 k (List.mem_range'_1.mpr ⟨by omega, by omega⟩)
  by_cases h15 : k < 192
  · exact List.all_eq_true.mp ckW_15 k (List.mem_range'_1.mpr ⟨by omega, by omega⟩)
  by_cases h16 : k < 204
  · exact List.all_eq_true.mp ckW_16 k (List.mem_range'_1.mpr ⟨by omega, by omega⟩)
  by_cases h17 : k < 216
  · exact List.all_eq_true.mp ckW_17 k (List.mem_range'_1.mpr ⟨by omega, by omega⟩)
  by_cases h18 : k < 228
  · exact List.all_eq_true.mp ckW_18 k (List.mem_range'_1.mpr ⟨by omega, by omega⟩)
  by_cases h19 : k < 240
  · exact List.all_eq_true.mp ckW_19 k (List.mem_range'_1.mpr ⟨by omega, by omega⟩)
  by_cases h20 : k < 252
  · exact List.all_eq_true.mp ckW_20 k (List.mem_range'_1.mpr ⟨by omega, by omega⟩)
  by_cases h21 : k < 253
  · exact List.all_eq_true.mp ckW_21 k (List.mem_range'_1.mpr ⟨by omega, by omega⟩)
  omega
theorem ckR_own : ∀ k, k < 253 → ckRs k (mT k).1 = true := by
  intro k h
  by_cases h0 : k < 9
  · exact List.all_eq_true.mp ckA_0 k (List.mem_range'_1.mpr ⟨by omega, by omega⟩)
  by_cases h1 : k < 16
  · exact List.all_eq_true.mp ckA_1 k (List.mem_range'_1.mpr ⟨by omega, by omega⟩)
  by_cases h2 : k < 24
  · exact List.all_eq_true.mp ckA_2 k (List.mem_range'_1.mpr ⟨by omega, by omega⟩)
  by_cases h3 : k < 37
  · exact List.all_eq_true.mp ckA_3 k (List.mem_range'_1.mpr ⟨by omega, by omega⟩)
  by_cases h4 : k < 50
  · exact List.all_eq_true.mp ckA_4 k (List.mem_range'_1.mpr ⟨by omega, by omega⟩)
  by_cases h5 : k < 55
  · exact List.all_eq_true.mp ckA_5 k (List.mem_range'_1.mpr ⟨by omega, by omega⟩)
  by_cases h6 : k < 65
  · exact List.all_eq_true.mp ckA_6 k (List.mem_range'_1.mpr ⟨by omega, by omega⟩)
  by_cases h7 : k < 80
  · exact List.all_eq_true.mp ckA_7 k (List.mem_range'_1.mpr ⟨by omega, by omega⟩)
  by_cases h8 : k < 90
  · exact List.all_eq_true.mp ckA_8 k (List.mem_range'_1.mpr ⟨by omega, by omega⟩)
  by_cases h9 : k < 102
  · exact List.all_eq_true.mp ckA_9 k (List.mem_range'_1.mpr ⟨by omega, by omega⟩)
  by_cases h10 : k < 107
  · exact List.all_eq_true.mp ckA_10 k (List.mem_range'_1.mpr ⟨by omega, by omega⟩)
  by_cases h11 : k < 112
  · exact List.all_eq_true.mp ckA_11 k (List.mem_range'_1.mpr ⟨by omega, by omega⟩)
  by_cases h12 : k < 113
  · exact List.all_eq_true.mp ckA_12 k (List.mem_range'_1.mpr ⟨by omega, by omega⟩)
  by_cases h13 : k < 128
  · exact List.all_eq_true.mp ckA_13 k (List.mem_range'_1.mpr ⟨by omega, by omega⟩)
  by_cases h14 : k < 137
  · exact List.all_eq_true.mp ckA_14 k (List.mem_range'_1.mpr ⟨by omega, by omega⟩)
  by_cases h15 : k < 146
  · exact List.all_eq_true.mp ckA_15 k (List.mem_range'_1.mpr ⟨by omega, by omega⟩)
  by_cases h16 : k < 153
  · exact List.all_eq_true.mp ckA_16 k (List.mem_range'_1.mpr ⟨by omega, by omega⟩)
  by_cases h17 : k < 160
  · exact List.all_eq_true.mp ckA_17 k (List.mem_range'_1.mpr ⟨by omega, by omega⟩)
  by_cases h18 : k < 168
  · exact List.all_eq_true.mp ckA_18 k (List.mem_range'_1.mpr ⟨by omega, by omega⟩)
  by_cases h19 : k < 171
  · exact List.all_eq_true.mp ckA_19 k (List.mem_range'_1.mpr ⟨by omega, by omega⟩)
  by_cases h20 : k < 182
  · exact List.all_eq_true.mp ckA_20 k (List.mem_range'_1.mpr ⟨by omega, by omega⟩)
  by_cases h21 : k < 192
  · exact List.all_eq_true.mp ckA_21 k (List.mem_range'_1.mpr ⟨by omega, by omega⟩)
  by_cases h22 : k < 200
  · exact List.all_eq_true.mp ckA_22 k (List.mem_range'_1.mpr ⟨by omega, by omega⟩)
  by_cases h23 : k < 209
  · exact List.all_eq_true.mp ckA_23 k (List.mem_range'_1.mpr ⟨by omega, by omega⟩)
  by_cases h24 : k < 220
  · exact List.all_eq_true.mp ckA_24 k (List.mem_range'_1.mpr ⟨by omega, by omega⟩)
  by_cases h25 : k < 223
  · exact List.all_eq_true.mp ckA_25 k (List.mem_range'_1.mpr ⟨by omega, by omega⟩)
  by_cases h26 : k < 231
  · exact List.all_eq_true.mp ckA_26 k (List.mem_range'_1.mpr ⟨by omega, by omega⟩)
  by_cases h27 : k < 234
  · exact List.all_eq_true.mp ckA_27 k (List.mem_range'_1.mpr ⟨by omega, by omega⟩)
  by_cases h28 : k < 235
  · exact List.all_eq_true.mp ckA_28 k (List.mem_range'_1.mpr ⟨by omega, by omega⟩)
  by_cases h29 : k < 237
  · exact List.all_eq_true.mp ckA_29 k (List.mem_range'_1.mpr ⟨by omega, by omega⟩)
  by_cases h30 : k < 245
  · exact List.all_eq_true.mp ckA_30 k (List.mem_range'_1.mpr ⟨by omega, by omega⟩)
  by_cases h31 : k < 253
  · exact List.all_eq_true.mp ckA_31 k (List.mem_range'_1.mpr ⟨by omega, by omega⟩)
  omega
theorem mT_big {k : Nat} (h : 254 ≤ k) : (mT k).1 = [] := by
  show mCs.getD k [] = []
  rw [List.getD_eq_getElem?_getD, List.getElem?_eq_none (by rw [show mCs.length = 254 from by decide +kernel]; exact h)]
  rfl
theorem ckR_all (k : Nat) : ckRs k (mT k).1 = true := by
  by_cases h : k < 253
  · exact ckR_own k h
  · by_cases h2 : k = 253
    · subst h2
      exact ckE_0
    · rw [mT_big (by omega)]
      rfl
