/-! the blocks of the program as equations -/
theorem Lfp.unfold {T : Nat → List RI × List (String × Nat × Nat) × (Nat × Nat) × Option FieldType} {k b kc ks : Nat} {ls st : List Value} {w : AW} {Q : AQ} (h : Lfp T k b kc ks ls st w Q) :
    wp (Lfp T) k (T k).2.1 (T k).2.2.1 (T k).2.2.2 Q ((T k).1.drop b) kc ks ls st w :=
  h (fun k b kc ks ls st w Q => wp (Lfp T) k (T k).2.1 (T k).2.2.1 (T k).2.2.2 Q ((T k).1.drop b) kc ks ls st w)
    (fun k b kc ks ls st w R R' hR g => wp_mono (G1 := Lfp T) (G2 := Lfp T) (fun k b kc ks ls st w R R' h g => Lfp.mono k b kc ks ls st w R R' h g) hR _ _ _ _ _ _ g)
    (fun k b kc ks ls st w Q g => wp_mono (G2 := Lfp T) (fun k b kc ks ls st w R R' hR g => Lfp.mono k b kc ks ls st w R R' hR (Lfp.fold g)) (fun _ _ h => h) _ _ _ _ _ _ g)
theorem eS {k b kc ks : Nat} {ls st : List Value} {w : AW} {Q : AQ} {cs : List RI} {hs : List (String × Nat × Nat)} {cap : Nat × Nat} {rt : Option FieldType} (e : (mT k).1.drop b = cs ∧ (mT k).2 = (hs, cap, rt)) : Bk k b kc ks ls st w Q = wp Bk k hs cap rt Q cs kc ks ls st w := by
  refine propext ⟨fun h => ?_, fun h => goS e h⟩
  have := Lfp.unfold h
  rw [e.1, e.2] at this
  exact this
theorem fv0 : ((0 : Fin 4) : Nat) = 0 := rfl
theorem fv1 : ((1 : Fin 4) : Nat) = 1 := rfl
theorem fv2 : ((2 : Fin 4) : Nat) = 2 := rfl
theorem fv3 : ((3 : Fin 4) : Nat) = 3 := rfl
theorem e0_0 {kc ks : Nat} {ls st : List Value} {w : AW} {Q : AQ} : Bk 0 0 kc ks ls st w Q = wp Bk 0 [] (2, 8) (none) Q c0_0 kc ks ls st w := eS ⟨rfl, rfl⟩
theorem e1_0 {kc ks : Nat} {ls st : List Value} {w : AW} {Q : AQ} : Bk 1 0 kc ks ls st w Q = wp Bk 1 [] (0, 0) (none) Q c1_0 kc ks ls st w := eS ⟨rfl, rfl⟩
theorem e1_5 {kc ks : Nat} {ls st : List Value} {w : AW} {Q : AQ} : Bk 1 5 kc ks ls st w Q = wp Bk 1 [] (0, 0) (none) Q c1_5 kc ks ls st w := eS ⟨rfl, rfl⟩
theorem e1_14 {kc ks : Nat} {ls st : List Value} {w : AW} {Q : AQ} : Bk 1 14 kc ks ls st w Q = wp Bk 1 [] (0, 0) (none) Q c1_14 kc ks ls st w := eS ⟨rfl, rfl⟩
theorem e2_0 {kc ks : Nat} {ls st : List Value} {w : AW} {Q : AQ} : Bk 2 0 kc ks ls st w Q = wp Bk 2 [] (0, 0) (none) Q c2_0 kc ks ls st w := eS ⟨rfl, rfl⟩
theorem e3_0 {kc ks : Nat} {ls st : List Value} {w : AW} {Q : AQ} : Bk 3 0 kc ks ls st w Q = wp Bk 3 [] (0, 0) (none) Q c3_0 kc ks ls st w := eS ⟨rfl, rfl⟩
theorem e3_11 {kc ks : Nat} {ls st : List Value} {w : AW} {Q : AQ} : Bk 3 11 kc ks ls st w Q = wp Bk 3 [] (0, 0) (none) Q c3_11 kc ks ls st w := eS ⟨rfl, rfl⟩
theorem e3_30 {kc ks : Nat} {ls st : List Value} {w : AW} {Q : AQ} : Bk 3 30 kc ks ls st w Q = wp Bk 3 [] (0, 0) (none) Q c3_30 kc ks ls st w := eS ⟨rfl, rfl⟩
theorem e4_0 {kc ks : Nat} {ls st : List Value} {w : AW} {Q : AQ} : Bk 4 0 kc ks ls st w Q = wp Bk 4 [] (4, 41) (none) Q c4_0 kc ks ls st w := eS ⟨rfl, rfl⟩
theorem e5_0 {kc ks : Nat} {ls st : List Value} {w : AW} {Q : AQ} : Bk 5 0 kc ks ls st w Q = wp Bk 5 [] (41, 416) (none) Q c5_0 kc ks ls st w := eS ⟨rfl, rfl⟩
theorem e5_8 {kc ks : Nat} {ls st : List Value} {w : AW} {Q : AQ} : Bk 5 8 kc ks ls st w Q = wp Bk 5 [] (41, 416) (none) Q c5_8 kc ks ls st w := eS ⟨rfl, rfl⟩
theorem e5_20 {kc ks : Nat} {ls st : List Value} {w : AW} {Q : AQ} : Bk 5 20 kc ks ls st w Q = wp Bk 5 [] (41, 416) (none) Q c5_20 kc ks ls st w := eS ⟨rfl, rfl⟩
theorem e6_0 {kc ks : Nat} {ls st : List Value} {w : AW} {Q : AQ} : Bk 6 0 kc ks ls st w Q = wp Bk 6 [] (3, 90) (none) Q c6_0 kc ks ls st w := eS ⟨rfl, rfl⟩
theorem e7_0 {kc ks : Nat} {ls st : List Value} {w : AW} {Q : AQ} : Bk 7 0 kc ks ls st w Q = wp Bk 7 [] (1, 60) (none) Q c7_0 kc ks ls st w := eS ⟨rfl, rfl⟩
theorem e8_0 {kc ks : Nat} {ls st : List Value} {w : AW} {Q : AQ} : Bk 8 0 kc ks ls st w Q = wp Bk 8 [] (64, 739) (none) Q c8_0 kc ks ls st w := eS ⟨rfl, rfl⟩
theorem e9_0 {kc ks : Nat} {ls st : List Value} {w : AW} {Q : AQ} : Bk 9 0 kc ks ls st w Q = wp Bk 9 [] (10, 730) (none) Q c9_0 kc ks ls st w := eS ⟨k9_0, rfl⟩
theorem e10_0 {kc ks : Nat} {ls st : List Value} {w : AW} {Q : AQ} : Bk 10 0 kc ks ls st w Q = wp Bk 10 [] (0, 0) (some .boolean) Q c10_0 kc ks ls st w := eS ⟨rfl, rfl⟩
theorem e10_14 {kc ks : Nat} {ls st : List Value} {w : AW} {Q : AQ} : Bk 10 14 kc ks ls st w Q = wp Bk 10 [] (0, 0) (some .boolean) Q c10_14 kc ks ls st w := eS ⟨rfl, rfl⟩
theorem e10_15 {kc ks : Nat} {ls st : List Value} {w : AW} {Q : AQ} : Bk 10 15 kc ks ls st w Q = wp Bk 10 [] (0, 0) (some .boolean) Q c10_15 kc ks ls st w := eS ⟨rfl, rfl⟩
theorem e11_0 {kc ks : Nat} {ls st : List Value} {w : AW} {Q : AQ} : Bk 11 0 kc ks ls st w Q = wp Bk 11 [] (0, 0) (none) Q c11_0 kc ks ls st w := eS ⟨rfl, rfl⟩
theorem e12_0 {kc ks : Nat} {ls st : List Value} {w : AW} {Q : AQ} : Bk 12 0 kc ks ls st w Q = wp Bk 12 [] (0, 0) (none) Q c12_0 kc ks ls st w := eS ⟨rfl, rfl⟩
theorem e13_0 {kc ks : Nat} {ls st : List Value} {w : AW} {Q : AQ} : Bk 13 0 kc ks ls st w Q = wp Bk 13 [] (0, 0) (some .int) Q c13_0 kc ks ls st w := eS ⟨rfl, rfl⟩
theorem e13_5 {kc ks : Nat} {ls st : List Value} {w : AW} {Q : AQ} : Bk 13 5 kc ks ls st w Q = wp Bk 13 [] (0, 0) (some .int) Q c13_5 kc ks ls st w := eS ⟨rfl, rfl⟩
theorem e13_6 {kc ks : Nat} {ls st : List Value} {w : AW} {Q : AQ} : Bk 13 6 kc ks ls st w Q = wp Bk 13 [] (0, 0) (some .int) Q c13_6 kc ks ls st w := eS ⟨rfl, rfl⟩
theorem e14_0 {kc ks : Nat} {ls st : List Value} {w : AW} {Q : AQ} : Bk 14 0 kc ks ls st w Q = wp Bk 14 [] (0, 0) (none) Q c14_0 kc ks ls st w := eS ⟨rfl, rfl⟩
theorem e15_0 {kc ks : Nat} {ls st : List Value} {w : AW} {Q : AQ} : Bk 15 0 kc ks ls st w Q = wp Bk 15 [] (0, 0) (some .int) Q c15_0 kc ks ls st w := eS ⟨rfl, rfl⟩
theorem e16_0 {kc ks : Nat} {ls st : List Value} {w : AW} {Q : AQ} : Bk 16 0 kc ks ls st w Q = wp Bk 16 [] (1, 6) (some .int) Q c16_0 kc ks ls st w := eS ⟨rfl, rfl⟩
theorem e16_5 {kc ks : Nat} {ls st : List Value} {w : AW} {Q : AQ} : Bk 16 5 kc ks ls st w Q = wp Bk 16 [] (1, 6) (some .int) Q c16_5 kc ks ls st w := eS ⟨rfl, rfl⟩
theorem e17_0 {kc ks : Nat} {ls st : List Value} {w : AW} {Q : AQ} : Bk 17 0 kc ks ls st w Q = wp Bk 17 [("java/lang/IllegalArgumentException", 10, 4)] (1, 6) (some .int) Q c17_0 kc ks ls st w := eS ⟨rfl, rfl⟩
theorem e17_10 {kc ks : Nat} {ls st : List Value} {w : AW} {Q : AQ} : Bk 17 10 kc ks ls st w Q = wp Bk 17 [("java/lang/IllegalArgumentException", 10, 4)] (1, 6) (some .int) Q c17_10 kc ks ls st w := eS ⟨rfl, rfl⟩
theorem e17_12 {kc ks : Nat} {ls st : List Value} {w : AW} {Q : AQ} : Bk 17 12 kc ks ls st w Q = wp Bk 17 [("java/lang/IllegalArgumentException", 10, 4)] (1, 6) (some .int) Q c17_12 kc ks ls st w := eS ⟨rfl, rfl⟩
theorem e18_0 {kc ks : Nat} {ls st : List Value} {w : AW} {Q : AQ} : Bk 18 0 kc ks ls st w Q = wp Bk 18 [] (0, 0) (some .boolean) Q c18_0 kc ks ls st w := eS ⟨rfl, rfl⟩
theorem e18_8 {kc ks : Nat} {ls st : List Value} {w : AW} {Q : AQ} : Bk 18 8 kc ks ls st w Q = wp Bk 18 [] (0, 0) (some .boolean) Q c18_8 kc ks ls st w := eS ⟨rfl, rfl⟩
theorem e18_9 {kc ks : Nat} {ls st : List Value} {w : AW} {Q : AQ} : Bk 18 9 kc ks ls st w Q = wp Bk 18 [] (0, 0) (some .boolean) Q c18_9 kc ks ls st w := eS ⟨rfl, rfl⟩
theorem e19_0 {kc ks : Nat} {ls st : List Value} {w : AW} {Q : AQ} : Bk 19 0 kc ks ls st w Q = wp Bk 19 [] (0, 0) (some .boolean) Q c19_0 kc ks ls st w := eS ⟨rfl, rfl⟩
theorem e19_7 {kc ks : Nat} {ls st : List Value} {w : AW} {Q : AQ} : Bk 19 7 kc ks ls st w Q = wp Bk 19 [] (0, 0) (some .boolean) Q c19_7 kc ks ls st w := eS ⟨rfl, rfl⟩
theorem e19_8 {kc ks : Nat} {ls st : List Value} {w : AW} {Q : AQ} : Bk 19 8 kc ks ls st w Q = wp Bk 19 [] (0, 0) (some .boolean) Q c19_8 kc ks ls st w := eS ⟨rfl, rfl⟩
theorem e20_0 {kc ks : Nat} {ls st : List Value} {w : AW} {Q : AQ} : Bk 20 0 kc ks ls st w Q = wp Bk 20 [] (0, 0) (none) Q c20_0 kc ks ls st w := eS ⟨rfl, rfl⟩
theorem e20_2 {kc ks : Nat} {ls st : List Value} {w : AW} {Q : AQ} : Bk 20 2 kc ks ls st w Q = wp Bk 20 [] (0, 0) (none) Q c20_2 kc ks ls st w := eS ⟨rfl, rfl⟩
theorem e20_17 {kc ks : Nat} {ls st : List Value} {w : AW} {Q : AQ} : Bk 20 17 kc ks ls st w Q = wp Bk 20 [] (0, 0) (none) Q c20_17 kc ks ls st w := eS ⟨rfl, rfl⟩
theorem e21_0 {kc ks : Nat} {ls st : List Value} {w : AW} {Q : AQ} : Bk 21 0 kc ks ls st w Q = wp Bk 21 [] (0, 0) (none) Q c21_0 kc ks ls st w := eS ⟨rfl, rfl⟩
theorem e21_7 {kc ks : Nat} {ls st : List Value} {w : AW} {Q : AQ} : Bk 21 7 kc ks ls st w Q = wp Bk 21 [] (0, 0) (none) Q c21_7 kc ks ls st w := eS ⟨rfl, rfl⟩
theorem e21_13 {kc ks : Nat} {ls st : List Value} {w : AW} {Q : AQ} : Bk 21 13 kc ks ls st w Q = wp Bk 21 [] (0, 0) (none) Q c21_13 kc ks ls st w := eS ⟨rfl, rfl⟩
theorem e21_28 {kc ks : Nat} {ls st : List Value} {w : AW} {Q : AQ} : Bk 21 28 kc ks ls st w Q = wp Bk 21 [] (0, 0) (none) Q c21_28 kc ks ls st w := eS ⟨rfl, rfl⟩
theorem e21_34 {kc ks : Nat} {ls st : List Value} {w : AW} {Q : AQ} : Bk 21 34 kc ks ls st w Q = wp Bk 21 [] (0, 0) (none) Q c21_34 kc ks ls st w := eS ⟨rfl, rfl⟩
theorem e22_0 {kc ks : Nat} {ls st : List Value} {w : AW} {Q : AQ} : Bk 22 0 kc ks ls st w Q = wp Bk 22 [] (0, 0) (none) Q c22_0 kc ks ls st w := eS ⟨rfl, rfl⟩
theorem e22_10 {kc ks : Nat} {ls st : List Value} {w : AW} {Q : AQ} : Bk 22 10 kc ks ls st w Q = wp Bk 22 [] (0, 0) (none) Q c22_10 kc ks ls st w := eS ⟨rfl, rfl⟩
theorem e22_22 {kc ks : Nat} {ls st : List Value} {w : AW} {Q : AQ} : Bk 22 22 kc ks ls st w Q = wp Bk 22 [] (0, 0) (none) Q c22_22 kc ks ls st w := eS ⟨rfl, rfl⟩
theorem e23_0 {kc ks : Nat} {ls st : List Value} {w : AW} {Q : AQ} : Bk 23 0 kc ks ls st w Q = wp Bk 23 [] (0, 0) (some .int) Q c23_0 kc ks ls st w := eS ⟨rfl, rfl⟩
theorem e24_0 {kc ks : Nat} {ls st : List Value} {w : AW} {Q : AQ} : Bk 24 0 kc ks ls st w Q = wp Bk 24 [] (0, 0) (some .int) Q c24_0 kc ks ls st w := eS ⟨k24_0, rfl⟩
theorem e24_13 {kc ks : Nat} {ls st : List Value} {w : AW} {Q : AQ} : Bk 24 13 kc ks ls st w Q = wp Bk 24 [] (0, 0) (some .int) Q c24_13 kc ks ls st w := eS ⟨k24_13, rfl⟩
theorem e24_14 {kc ks : Nat} {ls st : List Value} {w : AW} {Q : AQ} : Bk 24 14 kc ks ls st w Q = wp Bk 24 [] (0, 0) (some .int) Q c24_14 kc ks ls st w := eS ⟨k24_14, rfl⟩
theorem e24_18 {kc ks : Nat} {ls st : List Value} {w : AW} {Q : AQ} : Bk 24 18 kc ks ls st w Q = wp Bk 24 [] (0, 0) (some .int) Q c24_18 kc ks ls st w := eS ⟨k24_18, rfl⟩
theorem e24_49 {kc ks : Nat} {ls st : List Value} {w : AW} {Q : AQ} : Bk 24 49 kc ks ls st w Q = wp Bk 24 [] (0, 0) (some .int) Q c24_49 kc ks ls st w := eS ⟨k24_49, rfl⟩
theorem e24_61 {kc ks : Nat} {ls st : List Value} {w : AW} {Q : AQ} : Bk 24 61 kc ks ls st w Q = wp Bk 24 [] (0, 0) (some .int) Q c24_61 kc ks ls st w := eS ⟨k24_61, rfl⟩
theorem e25_0 {kc ks : Nat} {ls st : List Value} {w : AW} {Q : AQ} : Bk 25 0 kc ks ls st w Q = wp Bk 25 [] (0, 0) (some .int) Q c25_0 kc ks ls st w := eS ⟨rfl, rfl⟩
theorem e26_0 {kc ks : Nat} {ls st : List Value} {w : AW} {Q : AQ} : Bk 26 0 kc ks ls st w Q = wp Bk 26 [] (0, 0) (some .boolean) Q c26_0 kc ks ls st w := eS ⟨rfl, rfl⟩
theorem e26_7 {kc ks : Nat} {ls st : List Value} {w : AW} {Q : AQ} : Bk 26 7 kc ks ls st w Q = wp Bk 26 [] (0, 0) (some .boolean) Q c26_7 kc ks ls st w := eS ⟨rfl, rfl⟩
theorem e26_8 {kc ks : Nat} {ls st : List Value} {w : AW} {Q : AQ} : Bk 26 8 kc ks ls st w Q = wp Bk 26 [] (0, 0) (some .boolean) Q c26_8 kc ks ls st w := eS ⟨rfl, rfl⟩
theorem e27_0 {kc ks : Nat} {ls st : List Value} {w : AW} {Q : AQ} : Bk 27 0 kc ks ls st w Q = wp Bk 27 [] (0, 0) (some .byte) Q c27_0 kc ks ls st w := eS ⟨rfl, rfl⟩
theorem e27_5 {kc ks : Nat} {ls st : List Value} {w : AW} {Q : AQ} : Bk 27 5 kc ks ls st w Q = wp Bk 27 [] (0, 0) (some .byte) Q c27_5 kc ks ls st w := eS ⟨rfl, rfl⟩
theorem e27_6 {kc ks : Nat} {ls st : List Value} {w : AW} {Q : AQ} : Bk 27 6 kc ks ls st w Q = wp Bk 27 [] (0, 0) (some .byte) Q c27_6 kc ks ls st w := eS ⟨rfl, rfl⟩
theorem e28_0 {kc ks : Nat} {ls st : List Value} {w : AW} {Q : AQ} : Bk 28 0 kc ks ls st w Q = wp Bk 28 [] (0, 0) (some .int) Q c28_0 kc ks ls st w := eS ⟨rfl, rfl⟩
theorem e29_0 {kc ks : Nat} {ls st : List Value} {w : AW} {Q : AQ} : Bk 29 0 kc ks ls st w Q = wp Bk 29 [] (0, 0) (some .boolean) Q c29_0 kc ks ls st w := eS ⟨rfl, rfl⟩
theorem e29_7 {kc ks : Nat} {ls st : List Value} {w : AW} {Q : AQ} : Bk 29 7 kc ks ls st w Q = wp Bk 29 [] (0, 0) (some .boolean) Q c29_7 kc ks ls st w := eS ⟨rfl, rfl⟩
theorem e29_8 {kc ks : Nat} {ls st : List Value} {w : AW} {Q : AQ} : Bk 29 8 kc ks ls st w Q = wp Bk 29 [] (0, 0) (some .boolean) Q c29_8 kc ks ls st w := eS ⟨rfl, rfl⟩
theorem e30_0 {kc ks : Nat} {ls st : List Value} {w : AW} {Q : AQ} : Bk 30 0 kc ks ls st w Q = wp Bk 30 [] (0, 0) (some .int) Q c30_0 kc ks ls st w := eS ⟨rfl, rfl⟩
theorem e30_5 {kc ks : Nat} {ls st : List Value} {w : AW} {Q : AQ} : Bk 30 5 kc ks ls st w Q = wp Bk 30 [] (0, 0) (some .int) Q c30_5 kc ks ls st w := eS ⟨rfl, rfl⟩
theorem e30_6 {kc ks : Nat} {ls st : List Value} {w : AW} {Q : AQ} : Bk 30 6 kc ks ls st w Q = wp Bk 30 [] (0, 0) (some .int) Q c30_6 kc ks ls st w := eS ⟨rfl, rfl⟩
theorem e31_0 {kc ks : Nat} {ls st : List Value} {w : AW} {Q : AQ} : Bk 31 0 kc ks ls st w Q = wp Bk 31 [] (0, 0) (some .int) Q c31_0 kc ks ls st w := eS ⟨rfl, rfl⟩
theorem e31_5 {kc ks : Nat} {ls st : List Value} {w : AW} {Q : AQ} : Bk 31 5 kc ks ls st w Q = wp Bk 31 [] (0, 0) (some .int) Q c31_5 kc ks ls st w := eS ⟨rfl, rfl⟩
theorem e31_15 {kc ks : Nat} {ls st : List Value} {w : AW} {Q : AQ} : Bk 31 15 kc ks ls st w Q = wp Bk 31 [] (0, 0) (some .int) Q c31_15 kc ks ls st w := eS ⟨rfl, rfl⟩
theorem e31_17 {kc ks : Nat} {ls st : List Value} {w : AW} {Q : AQ} : Bk 31 17 kc ks ls st w Q = wp Bk 31 [] (0, 0) (some .int) Q c31_17 kc ks ls st w := eS ⟨rfl, rfl⟩
theorem e32_0 {kc ks : Nat} {ls st : List Value} {w : AW} {Q : AQ} : Bk 32 0 kc ks ls st w Q = wp Bk 32 [] (0, 0) (some .int) Q c32_0 kc ks ls st w := eS ⟨rfl, rfl⟩
theorem e32_5 {kc ks : Nat} {ls st : List Value} {w : AW} {Q : AQ} : Bk 32 5 kc ks ls st w Q = wp Bk 32 [] (0, 0) (some .int) Q c32_5 kc ks ls st w := eS ⟨rfl, rfl⟩
theorem e32_19 {kc ks : Nat} {ls st : List Value} {w : AW} {Q : AQ} : Bk 32 19 kc ks ls st w Q = wp Bk 32 [] (0, 0) (some .int) Q c32_19 kc ks ls st w := eS ⟨rfl, rfl⟩
theorem e33_0 {kc ks : Nat} {ls st : List Value} {w : AW} {Q : AQ} : Bk 33 0 kc ks ls st w Q = wp Bk 33 [] (0, 0) (some .int) Q c33_0 kc ks ls st w := eS ⟨rfl, rfl⟩
theorem e33_11 {kc ks : Nat} {ls st : List Value} {w : AW} {Q : AQ} : Bk 33 11 kc ks ls st w Q = wp Bk 33 [] (0, 0) (some .int) Q c33_11 kc ks ls st w := eS ⟨rfl, rfl⟩
theorem e33_18 {kc ks : Nat} {ls st : List Value} {w : AW} {Q : AQ} : Bk 33 18 kc ks ls st w Q = wp Bk 33 [] (0, 0) (some .int) Q c33_18 kc ks ls st w := eS ⟨rfl, rfl⟩
theorem e34_0 {kc ks : Nat} {ls st : List Value} {w : AW} {Q : AQ} : Bk 34 0 kc ks ls st w Q = wp Bk 34 [] (0, 0) (some .int) Q c34_0 kc ks ls st w := eS ⟨rfl, rfl⟩
theorem e35_0 {kc ks : Nat} {ls st : List Value} {w : AW} {Q : AQ} : Bk 35 0 kc ks ls st w Q = wp Bk 35 [] (0, 0) (none) Q c35_0 kc ks ls st w := eS ⟨rfl, rfl⟩
theorem e36_0 {kc ks : Nat} {ls st : List Value} {w : AW} {Q : AQ} : Bk 36 0 kc ks ls st w Q = wp Bk 36 [] (1, 6) (some .char) Q c36_0 kc ks ls st w := eS ⟨rfl, rfl⟩
theorem e36_5 {kc ks : Nat} {ls st : List Value} {w : AW} {Q : AQ} : Bk 36 5 kc ks ls st w Q = wp Bk 36 [] (1, 6) (some .char) Q c36_5 kc ks ls st w := eS ⟨rfl, rfl⟩
theorem e37_0 {kc ks : Nat} {ls st : List Value} {w : AW} {Q : AQ} : Bk 37 0 kc ks ls st w Q = wp Bk 37 [("java/lang/IllegalArgumentException", 9, 3)] (1, 6) (some .int) Q c37_0 kc ks ls st w := eS ⟨rfl, rfl⟩
theorem e37_9 {kc ks : Nat} {ls st : List Value} {w : AW} {Q : AQ} : Bk 37 9 kc ks ls st w Q = wp Bk 37 [("java/lang/IllegalArgumentException", 9, 3)] (1, 6) (some .int) Q c37_9 kc ks ls st w := eS ⟨rfl, rfl⟩
theorem e37_11 {kc ks : Nat} {ls st : List Value} {w : AW} {Q : AQ} : Bk 37 11 kc ks ls st w Q = wp Bk 37 [("java/lang/IllegalArgumentException", 9, 3)] (1, 6) (some .int) Q c37_11 kc ks ls st w := eS ⟨rfl, rfl⟩
theorem e38_0 {kc ks : Nat} {ls st : List Value} {w : AW} {Q : AQ} : Bk 38 0 kc ks ls st w Q = wp Bk 38 [] (0, 0) (some .char) Q c38_0 kc ks ls st w := eS ⟨rfl, rfl⟩
theorem e38_13 {kc ks : Nat} {ls st : List Value} {w : AW} {Q : AQ} : Bk 38 13 kc ks ls st w Q = wp Bk 38 [] (0, 0) (some .char) Q c38_13 kc ks ls st w := eS ⟨rfl, rfl⟩
theorem e38_15 {kc ks : Nat} {ls st : List Value} {w : AW} {Q : AQ} : Bk 38 15 kc ks ls st w Q = wp Bk 38 [] (0, 0) (some .char) Q c38_15 kc ks ls st w := eS ⟨rfl, rfl⟩
theorem e38_16 {kc ks : Nat} {ls st : List Value} {w : AW} {Q : AQ} : Bk 38 16 kc ks ls st w Q = wp Bk 38 [] (0, 0) (some .char) Q c38_16 kc ks ls st w := eS ⟨rfl, rfl⟩
theorem e38_20 {kc ks : Nat} {ls st : List Value} {w : AW} {Q : AQ} : Bk 38 20 kc ks ls st w Q = wp Bk 38 [] (0, 0) (some .char) Q c38_20 kc ks ls st w := eS ⟨rfl, rfl⟩
theorem e39_0 {kc ks : Nat} {ls st : List Value} {w : AW} {Q : AQ} : Bk 39 0 kc ks ls st w Q = wp Bk 39 [] (0, 0) (some .boolean) Q c39_0 kc ks ls st w := eS ⟨rfl, rfl⟩
theorem e39_14 {kc ks : Nat} {ls st : List Value} {w : AW} {Q : AQ} : Bk 39 14 kc ks ls st w Q = wp Bk 39 [] (0, 0) (some .boolean) Q c39_14 kc ks ls st w := eS ⟨rfl, rfl⟩
theorem e39_15 {kc ks : Nat} {ls st : List Value} {w : AW} {Q : AQ} : Bk 39 15 kc ks ls st w Q = wp Bk 39 [] (0, 0) (some .boolean) Q c39_15 kc ks ls st w := eS ⟨rfl, rfl⟩
theorem e40_0 {kc ks : Nat} {ls st : List Value} {w : AW} {Q : AQ} : Bk 40 0 kc ks ls st w Q = wp Bk 40 [] (1, 6) (none) Q c40_0 kc ks ls st w := eS ⟨rfl, rfl⟩
theorem e40_7 {kc ks : Nat} {ls st : List Value} {w : AW} {Q : AQ} : Bk 40 7 kc ks ls st w Q = wp Bk 40 [] (1, 6) (none) Q c40_7 kc ks ls st w := eS ⟨rfl, rfl⟩
theorem e41_0 {kc ks : Nat} {ls st : List Value} {w : AW} {Q : AQ} : Bk 41 0 kc ks ls st w Q = wp Bk 41 [] (0, 0) (some .int) Q c41_0 kc ks ls st w := eS ⟨rfl, rfl⟩
theorem e42_0 {kc ks : Nat} {ls st : List Value} {w : AW} {Q : AQ} : Bk 42 0 kc ks ls st w Q = wp Bk 42 [] (0, 0) (some .boolean) Q c42_0 kc ks ls st w := eS ⟨rfl, rfl⟩
theorem e42_8 {kc ks : Nat} {ls st : List Value} {w : AW} {Q : AQ} : Bk 42 8 kc ks ls st w Q = wp Bk 42 [] (0, 0) (some .boolean) Q c42_8 kc ks ls st w := eS ⟨rfl, rfl⟩
theorem e42_9 {kc ks : Nat} {ls st : List Value} {w : AW} {Q : AQ} : Bk 42 9 kc ks ls st w Q = wp Bk 42 [] (0, 0) (some .boolean) Q c42_9 kc ks ls st w := eS ⟨rfl, rfl⟩
theorem e43_0 {kc ks : Nat} {ls st : List Value} {w : AW} {Q : AQ} : Bk 43 0 kc ks ls st w Q = wp Bk 43 [] (0, 0) (none) Q c43_0 kc ks ls st w := eS ⟨rfl, rfl⟩
theorem e43_22 {kc ks : Nat} {ls st : List Value} {w : AW} {Q : AQ} : Bk 43 22 kc ks ls st w Q = wp Bk 43 [] (0, 0) (none) Q c43_22 kc ks ls st w := eS ⟨rfl, rfl⟩
theorem e44_0 {kc ks : Nat} {ls st : List Value} {w : AW} {Q : AQ} : Bk 44 0 kc ks ls st w Q = wp Bk 44 [] (1, 6) (some .boolean) Q c44_0 kc ks ls st w := eS ⟨rfl, rfl⟩
theorem e45_0 {kc ks : Nat} {ls st : List Value} {w : AW} {Q : AQ} : Bk 45 0 kc ks ls st w Q = wp Bk 45 [("java/lang/IndexOutOfBoundsException", 14, 5)] (1, 6) (some .int) Q c45_0 kc ks ls st w := eS ⟨rfl, rfl⟩
theorem e45_10 {kc ks : Nat} {ls st : List Value} {w : AW} {Q : AQ} : Bk 45 10 kc ks ls st w Q = wp Bk 45 [("java/lang/IndexOutOfBoundsException", 14, 5)] (1, 6) (some .int) Q c45_10 kc ks ls st w := eS ⟨rfl, rfl⟩
theorem e45_11 {kc ks : Nat} {ls st : List Value} {w : AW} {Q : AQ} : Bk 45 11 kc ks ls st w Q = wp Bk 45 [("java/lang/IndexOutOfBoundsException", 14, 5)] (1, 6) (some .int) Q c45_11 kc ks ls st w := eS ⟨rfl, rfl⟩
theorem e45_14 {kc ks : Nat} {ls st : List Value} {w : AW} {Q : AQ} : Bk 45 14 kc ks ls st w Q = wp Bk 45 [("java/lang/IndexOutOfBoundsException", 14, 5)] (1, 6) (some .int) Q c45_14 kc ks ls st w := eS ⟨rfl, rfl⟩
theorem e45_16 {kc ks : Nat} {ls st : List Value} {w : AW} {Q : AQ} : Bk 45 16 kc ks ls st w Q = wp Bk 45 [("java/lang/IndexOutOfBoundsException", 14, 5)] (1, 6) (some .int) Q c45_16 kc ks ls st w := eS ⟨rfl, rfl⟩
theorem e46_0 {kc ks : Nat} {ls st : List Value} {w : AW} {Q : AQ} : Bk 46 0 kc ks ls st w Q = wp Bk 46 [] (0, 0) (some .boolean) Q c46_0 kc ks ls st w := eS ⟨rfl, rfl⟩
theorem e46_22 {kc ks : Nat} {ls st : List Value} {w : AW} {Q : AQ} : Bk 46 22 kc ks ls st w Q = wp Bk 46 [] (0, 0) (some .boolean) Q c46_22 kc ks ls st w := eS ⟨rfl, rfl⟩
theorem e46_23 {kc ks : Nat} {ls st : List Value} {w : AW} {Q : AQ} : Bk 46 23 kc ks ls st w Q = wp Bk 46 [] (0, 0) (some .boolean) Q c46_23 kc ks ls st w := eS ⟨rfl, rfl⟩
theorem e47_0 {kc ks : Nat} {ls st : List Value} {w : AW} {Q : AQ} : Bk 47 0 kc ks ls st w Q = wp Bk 47 [] (0, 0) (some .boolean) Q c47_0 kc ks ls st w := eS ⟨rfl, rfl⟩
theorem e47_8 {kc ks : Nat} {ls st : List Value} {w : AW} {Q : AQ} : Bk 47 8 kc ks ls st w Q = wp Bk 47 [] (0, 0) (some .boolean) Q c47_8 kc ks ls st w := eS ⟨rfl, rfl⟩
theorem e47_9 {kc ks : Nat} {ls st : List Value} {w : AW} {Q : AQ} : Bk 47 9 kc ks ls st w Q = wp Bk 47 [] (0, 0) (some .boolean) Q c47_9 kc ks ls st w := eS ⟨rfl, rfl⟩
theorem e48_0 {kc ks : Nat} {ls st : List Value} {w : AW} {Q : AQ} : Bk 48 0 kc ks ls st w Q = wp Bk 48 [] (0, 0) (some .int) Q c48_0 kc ks ls st w := eS ⟨rfl, rfl⟩
theorem e49_0 {kc ks : Nat} {ls st : List Value} {w : AW} {Q : AQ} : Bk 49 0 kc ks ls st w Q = wp Bk 49 [] (0, 0) (some .boolean) Q c49_0 kc ks ls st w := eS ⟨rfl, rfl⟩
theorem e49_9 {kc ks : Nat} {ls st : List Value} {w : AW} {Q : AQ} : Bk 49 9 kc ks ls st w Q = wp Bk 49 [] (0, 0) (some .boolean) Q c49_9 kc ks ls st w := eS ⟨rfl, rfl⟩
theorem e49_10 {kc ks : Nat} {ls st : List Value} {w : AW} {Q : AQ} : Bk 49 10 kc ks ls st w Q = wp Bk 49 [] (0, 0) (some .boolean) Q c49_10 kc ks ls st w := eS ⟨rfl, rfl⟩
theorem e50_0 {kc ks : Nat} {ls st : List Value} {w : AW} {Q : AQ} : Bk 50 0 kc ks ls st w Q = wp Bk 50 [] (0, 0) (some .boolean) Q c50_0 kc ks ls st w := eS ⟨rfl, rfl⟩
theorem e50_7 {kc ks : Nat} {ls st : List Value} {w : AW} {Q : AQ} : Bk 50 7 kc ks ls st w Q = wp Bk 50 [] (0, 0) (some .boolean) Q c50_7 kc ks ls st w := eS ⟨rfl, rfl⟩
theorem e50_46 {kc ks : Nat} {ls st : List Value} {w : AW} {Q : AQ} : Bk 50 46 kc ks ls st w Q = wp Bk 50 [] (0, 0) (some .boolean) Q c50_46 kc ks ls st w := eS ⟨rfl, rfl⟩
theorem e51_0 {kc ks : Nat} {ls st : List Value} {w : AW} {Q : AQ} : Bk 51 0 kc ks ls st w Q = wp Bk 51 [] (0, 0) (some .boolean) Q c51_0 kc ks ls st w := eS ⟨rfl, rfl⟩
theorem e51_12 {kc ks : Nat} {ls st : List Value} {w : AW} {Q : AQ} : Bk 51 12 kc ks ls st w Q = wp Bk 51 [] (0, 0) (some .boolean) Q c51_12 kc ks ls st w := eS ⟨rfl, rfl⟩
theorem e51_13 {kc ks : Nat} {ls st : List Value} {w : AW} {Q : AQ} : Bk 51 13 kc ks ls st w Q = wp Bk 51 [] (0, 0) (some .boolean) Q c51_13 kc ks ls st w := eS ⟨rfl, rfl⟩
theorem e52_0 {kc ks : Nat} {ls st : List Value} {w : AW} {Q : AQ} : Bk 52 0 kc ks ls st w Q = wp Bk 52 [] (0, 0) (some .int) Q c52_0 kc ks ls st w := eS ⟨rfl, rfl⟩
theorem e52_31 {kc ks : Nat} {ls st : List Value} {w : AW} {Q : AQ} : Bk 52 31 kc ks ls st w Q = wp Bk 52 [] (0, 0) (some .int) Q c52_31 kc ks ls st w := eS ⟨rfl, rfl⟩
theorem e52_40 {kc ks : Nat} {ls st : List Value} {w : AW} {Q : AQ} : Bk 52 40 kc ks ls st w Q = wp Bk 52 [] (0, 0) (some .int) Q c52_40 kc ks ls st w := eS ⟨rfl, rfl⟩
theorem e52_47 {kc ks : Nat} {ls st : List Value} {w : AW} {Q : AQ} : Bk 52 47 kc ks ls st w Q = wp Bk 52 [] (0, 0) (some .int) Q c52_47 kc ks ls st w := eS ⟨rfl, rfl⟩
theorem e52_58 {kc ks : Nat} {ls st : List Value} {w : AW} {Q : AQ} : Bk 52 58 kc ks ls st w Q = wp Bk 52 [] (0, 0) (some .int) Q c52_58 kc ks ls st w := eS ⟨rfl, rfl⟩
theorem e53_0 {kc ks : Nat} {ls st : List Value} {w : AW} {Q : AQ} : Bk 53 0 kc ks ls st w Q = wp Bk 53 [] (0, 0) (none) Q c53_0 kc ks ls st w := eS ⟨rfl, rfl⟩
theorem e53_20 {kc ks : Nat} {ls st : List Value} {w : AW} {Q : AQ} : Bk 53 20 kc ks ls st w Q = wp Bk 53 [] (0, 0) (none) Q c53_20 kc ks ls st w := eS ⟨rfl, rfl⟩
theorem e54_0 {kc ks : Nat} {ls st : List Value} {w : AW} {Q : AQ} : Bk 54 0 kc ks ls st w Q = wp Bk 54 [] (0, 0) (some .int) Q c54_0 kc ks ls st w := eS ⟨rfl, rfl⟩
theorem e55_0 {kc ks : Nat} {ls st : List Value} {w : AW} {Q : AQ} : Bk 55 0 kc ks ls st w Q = wp Bk 55 [] (1, 6) (some .int) Q c55_0 kc ks ls st w := eS ⟨rfl, rfl⟩
theorem e56_0 {kc ks : Nat} {ls st : List Value} {w : AW} {Q : AQ} : Bk 56 0 kc ks ls st w Q = wp Bk 56 [("java/lang/IndexOutOfBoundsException", 10, 4)] (1, 6) (some .int) Q c56_0 kc ks ls st w := eS ⟨rfl, rfl⟩
theorem e56_10 {kc ks : Nat} {ls st : List Value} {w : AW} {Q : AQ} : Bk 56 10 kc ks ls st w Q = wp Bk 56 [("java/lang/IndexOutOfBoundsException", 10, 4)] (1, 6) (some .int) Q c56_10 kc ks ls st w := eS ⟨rfl, rfl⟩
theorem e56_12 {kc ks : Nat} {ls st : List Value} {w : AW} {Q : AQ} : Bk 56 12 kc ks ls st w Q = wp Bk 56 [("java/lang/IndexOutOfBoundsException", 10, 4)] (1, 6) (some .int) Q c56_12 kc ks ls st w := eS ⟨rfl, rfl⟩
theorem e57_0 {kc ks : Nat} {ls st : List Value} {w : AW} {Q : AQ} : Bk 57 0 kc ks ls st w Q = wp Bk 57 [] (0, 0) (some .boolean) Q c57_0 kc ks ls st w := eS ⟨rfl, rfl⟩
theorem e57_25 {kc ks : Nat} {ls st : List Value} {w : AW} {Q : AQ} : Bk 57 25 kc ks ls st w Q = wp Bk 57 [] (0, 0) (some .boolean) Q c57_25 kc ks ls st w := eS ⟨rfl, rfl⟩
theorem e57_40 {kc ks : Nat} {ls st : List Value} {w : AW} {Q : AQ} : Bk 57 40 kc ks ls st w Q = wp Bk 57 [] (0, 0) (some .boolean) Q c57_40 kc ks ls st w := eS ⟨rfl, rfl⟩
theorem e57_42 {kc ks : Nat} {ls st : List Value} {w : AW} {Q : AQ} : Bk 57 42 kc ks ls st w Q = wp Bk 57 [] (0, 0) (some .boolean) Q c57_42 kc ks ls st w := eS ⟨rfl, rfl⟩
theorem e57_43 {kc ks : Nat} {ls st : List Value} {w : AW} {Q : AQ} : Bk 57 43 kc ks ls st w Q = wp Bk 57 [] (0, 0) (some .boolean) Q c57_43 kc ks ls st w := eS ⟨rfl, rfl⟩
theorem e58_0 {kc ks : Nat} {ls st : List Value} {w : AW} {Q : AQ} : Bk 58 0 kc ks ls st w Q = wp Bk 58 [] (0, 0) (some .int) Q c58_0 kc ks ls st w := eS ⟨rfl, rfl⟩
theorem e58_18 {kc ks : Nat} {ls st : List Value} {w : AW} {Q : AQ} : Bk 58 18 kc ks ls st w Q = wp Bk 58 [] (0, 0) (some .int) Q c58_18 kc ks ls st w := eS ⟨rfl, rfl⟩
theorem e58_47 {kc ks : Nat} {ls st : List Value} {w : AW} {Q : AQ} : Bk 58 47 kc ks ls st w Q = wp Bk 58 [] (0, 0) (some .int) Q c58_47 kc ks ls st w := eS ⟨rfl, rfl⟩
theorem e58_49 {kc ks : Nat} {ls st : List Value} {w : AW} {Q : AQ} : Bk 58 49 kc ks ls st w Q = wp Bk 58 [] (0, 0) (some .int) Q c58_49 kc ks ls st w := eS ⟨rfl, rfl⟩
theorem e59_0 {kc ks : Nat} {ls st : List Value} {w : AW} {Q : AQ} : Bk 59 0 kc ks ls st w Q = wp Bk 59 [] (0, 0) (none) Q c59_0 kc ks ls st w := eS ⟨rfl, rfl⟩
theorem e60_0 {kc ks : Nat} {ls st : List Value} {w : AW} {Q : AQ} : Bk 60 0 kc ks ls st w Q = wp Bk 60 [] (0, 0) (some .int) Q c60_0 kc ks ls st w := eS ⟨rfl, rfl⟩
theorem e60_4 {kc ks : Nat} {ls st : List Value} {w : AW} {Q : AQ} : Bk 60 4 kc ks ls st w Q = wp Bk 60 [] (0, 0) (some .int) Q c60_4 kc ks ls st w := eS ⟨rfl, rfl⟩
theorem e60_17 {kc ks : Nat} {ls st : List Value} {w : AW} {Q : AQ} : Bk 60 17 kc ks ls st w Q = wp Bk 60 [] (0, 0) (some .int) Q c60_17 kc ks ls st w := eS ⟨rfl, rfl⟩
theorem e61_0 {kc ks : Nat} {ls st : List Value} {w : AW} {Q : AQ} : Bk 61 0 kc ks ls st w Q = wp Bk 61 [] (0, 0) (some .int) Q c61_0 kc ks ls st w := eS ⟨rfl, rfl⟩
theorem e61_7 {kc ks : Nat} {ls st : List Value} {w : AW} {Q : AQ} : Bk 61 7 kc ks ls st w Q = wp Bk 61 [] (0, 0) (some .int) Q c61_7 kc ks ls st w := eS ⟨rfl, rfl⟩
theorem e62_0 {kc ks : Nat} {ls st : List Value} {w : AW} {Q : AQ} : Bk 62 0 kc ks ls st w Q = wp Bk 62 [] (0, 0) (some .int) Q c62_0 kc ks ls st w := eS ⟨rfl, rfl⟩
theorem e63_0 {kc ks : Nat} {ls st : List Value} {w : AW} {Q : AQ} : Bk 63 0 kc ks ls st w Q = wp Bk 63 [] (0, 0) (some .int) Q c63_0 kc ks ls st w := eS ⟨rfl, rfl⟩
theorem e64_0 {kc ks : Nat} {ls st : List Value} {w : AW} {Q : AQ} : Bk 64 0 kc ks ls st w Q = wp Bk 64 [] (0, 0) (some .int) Q c64_0 kc ks ls st w := eS ⟨rfl, rfl⟩
theorem e65_0 {kc ks : Nat} {ls st : List Value} {w : AW} {Q : AQ} : Bk 65 0 kc ks ls st w Q = wp Bk 65 [] (0, 0) (some .int) Q c65_0 kc ks ls st w := eS ⟨rfl, rfl⟩
theorem e66_0 {kc ks : Nat} {ls st : List Value} {w : AW} {Q : AQ} : Bk 66 0 kc ks ls st w Q = wp Bk 66 [] (0, 0) (some .char) Q c66_0 kc ks ls st w := eS ⟨rfl, rfl⟩
theorem e67_0 {kc ks : Nat} {ls st : List Value} {w : AW} {Q : AQ} : Bk 67 0 kc ks ls st w Q = wp Bk 67 [] (0, 0) (some .char) Q c67_0 kc ks ls st w := eS ⟨rfl, rfl⟩
theorem e68_0 {kc ks : Nat} {ls st : List Value} {w : AW} {Q : AQ} : Bk 68 0 kc ks ls st w Q = wp Bk 68 [] (1, 6) (some .boolean) Q c68_0 kc ks ls st w := eS ⟨rfl, rfl⟩
theorem e69_0 {kc ks : Nat} {ls st : List Value} {w : AW} {Q : AQ} : Bk 69 0 kc ks ls st w Q = wp Bk 69 [("java/lang/IndexOutOfBoundsException", 13, 4)] (1, 6) (some .int) Q c69_0 kc ks ls st w := eS ⟨rfl, rfl⟩
theorem e69_9 {kc ks : Nat} {ls st : List Value} {w : AW} {Q : AQ} : Bk 69 9 kc ks ls st w Q = wp Bk 69 [("java/lang/IndexOutOfBoundsException", 13, 4)] (1, 6) (some .int) Q c69_9 kc ks ls st w := eS ⟨rfl, rfl⟩
theorem e69_10 {kc ks : Nat} {ls st : List Value} {w : AW} {Q : AQ} : Bk 69 10 kc ks ls st w Q = wp Bk 69 [("java/lang/IndexOutOfBoundsException", 13, 4)] (1, 6) (some .int) Q c69_10 kc ks ls st w := eS ⟨rfl, rfl⟩
theorem e69_13 {kc ks : Nat} {ls st : List Value} {w : AW} {Q : AQ} : Bk 69 13 kc ks ls st w Q = wp Bk 69 [("java/lang/IndexOutOfBoundsException", 13, 4)] (1, 6) (some .int) Q c69_13 kc ks ls st w := eS ⟨rfl, rfl⟩
theorem e69_15 {kc ks : Nat} {ls st : List Value} {w : AW} {Q : AQ} : Bk 69 15 kc ks ls st w Q = wp Bk 69 [("java/lang/IndexOutOfBoundsException", 13, 4)] (1, 6) (some .int) Q c69_15 kc ks ls st w := eS ⟨rfl, rfl⟩
theorem e70_0 {kc ks : Nat} {ls st : List Value} {w : AW} {Q : AQ} : Bk 70 0 kc ks ls st w Q = wp Bk 70 [] (0, 0) (some .boolean) Q c70_0 kc ks ls st w := eS ⟨rfl, rfl⟩
theorem e70_17 {kc ks : Nat} {ls st : List Value} {w : AW} {Q : AQ} : Bk 70 17 kc ks ls st w Q = wp Bk 70 [] (0, 0) (some .boolean) Q c70_17 kc ks ls st w := eS ⟨rfl, rfl⟩
theorem e70_18 {kc ks : Nat} {ls st : List Value} {w : AW} {Q : AQ} : Bk 70 18 kc ks ls st w Q = wp Bk 70 [] (0, 0) (some .boolean) Q c70_18 kc ks ls st w := eS ⟨rfl, rfl⟩
theorem e71_0 {kc ks : Nat} {ls st : List Value} {w : AW} {Q : AQ} : Bk 71 0 kc ks ls st w Q = wp Bk 71 [] (0, 0) (some .int) Q c71_0 kc ks ls st w := eS ⟨rfl, rfl⟩
theorem e71_5 {kc ks : Nat} {ls st : List Value} {w : AW} {Q : AQ} : Bk 71 5 kc ks ls st w Q = wp Bk 71 [] (0, 0) (some .int) Q c71_5 kc ks ls st w := eS ⟨rfl, rfl⟩
theorem e71_21 {kc ks : Nat} {ls st : List Value} {w : AW} {Q : AQ} : Bk 71 21 kc ks ls st w Q = wp Bk 71 [] (0, 0) (some .int) Q c71_21 kc ks ls st w := eS ⟨rfl, rfl⟩
theorem e71_23 {kc ks : Nat} {ls st : List Value} {w : AW} {Q : AQ} : Bk 71 23 kc ks ls st w Q = wp Bk 71 [] (0, 0) (some .int) Q c71_23 kc ks ls st w := eS ⟨rfl, rfl⟩
theorem e72_0 {kc ks : Nat} {ls st : List Value} {w : AW} {Q : AQ} : Bk 72 0 kc ks ls st w Q = wp Bk 72 [] (1, 6) (some .boolean) Q c72_0 kc ks ls st w := eS ⟨rfl, rfl⟩
theorem e73_0 {kc ks : Nat} {ls st : List Value} {w : AW} {Q : AQ} : Bk 73 0 kc ks ls st w Q = wp Bk 73 [("java/lang/IndexOutOfBoundsException", 13, 4)] (1, 6) (some .int) Q c73_0 kc ks ls st w := eS ⟨rfl, rfl⟩
theorem e73_9 {kc ks : Nat} {ls st : List Value} {w : AW} {Q : AQ} : Bk 73 9 kc ks ls st w Q = wp Bk 73 [("java/lang/IndexOutOfBoundsException", 13, 4)] (1, 6) (some .int) Q c73_9 kc ks ls st w := eS ⟨rfl, rfl⟩
theorem e73_10 {kc ks : Nat} {ls st : List Value} {w : AW} {Q : AQ} : Bk 73 10 kc ks ls st w Q = wp Bk 73 [("java/lang/IndexOutOfBoundsException", 13, 4)] (1, 6) (some .int) Q c73_10 kc ks ls st w := eS ⟨rfl, rfl⟩
theorem e73_13 {kc ks : Nat} {ls st : List Value} {w : AW} {Q : AQ} : Bk 73 13 kc ks ls st w Q = wp Bk 73 [("java/lang/IndexOutOfBoundsException", 13, 4)] (1, 6) (some .int) Q c73_13 kc ks ls st w := eS ⟨rfl, rfl⟩
theorem e73_15 {kc ks : Nat} {ls st : List Value} {w : AW} {Q : AQ} : Bk 73 15 kc ks ls st w Q = wp Bk 73 [("java/lang/IndexOutOfBoundsException", 13, 4)] (1, 6) (some .int) Q c73_15 kc ks ls st w := eS ⟨rfl, rfl⟩
theorem e74_0 {kc ks : Nat} {ls st : List Value} {w : AW} {Q : AQ} : Bk 74 0 kc ks ls st w Q = wp Bk 74 [] (0, 0) (some .boolean) Q c74_0 kc ks ls st w := eS ⟨rfl, rfl⟩
theorem e74_7 {kc ks : Nat} {ls st : List Value} {w : AW} {Q : AQ} : Bk 74 7 kc ks ls st w Q = wp Bk 74 [] (0, 0) (some .boolean) Q c74_7 kc ks ls st w := eS ⟨rfl, rfl⟩
theorem e74_14 {kc ks : Nat} {ls st : List Value} {w : AW} {Q : AQ} : Bk 74 14 kc ks ls st w Q = wp Bk 74 [] (0, 0) (some .boolean) Q c74_14 kc ks ls st w := eS ⟨rfl, rfl⟩
theorem e74_34 {kc ks : Nat} {ls st : List Value} {w : AW} {Q : AQ} : Bk 74 34 kc ks ls st w Q = wp Bk 74 [] (0, 0) (some .boolean) Q c74_34 kc ks ls st w := eS ⟨rfl, rfl⟩
theorem e74_36 {kc ks : Nat} {ls st : List Value} {w : AW} {Q : AQ} : Bk 74 36 kc ks ls st w Q = wp Bk 74 [] (0, 0) (some .boolean) Q c74_36 kc ks ls st w := eS ⟨rfl, rfl⟩
theorem e75_0 {kc ks : Nat} {ls st : List Value} {w : AW} {Q : AQ} : Bk 75 0 kc ks ls st w Q = wp Bk 75 [] (0, 0) (some .int) Q c75_0 kc ks ls st w := eS ⟨rfl, rfl⟩
theorem e76_0 {kc ks : Nat} {ls st : List Value} {w : AW} {Q : AQ} : Bk 76 0 kc ks ls st w Q = wp Bk 76 [] (0, 0) (some .int) Q c76_0 kc ks ls st w := eS ⟨rfl, rfl⟩
theorem e77_0 {kc ks : Nat} {ls st : List Value} {w : AW} {Q : AQ} : Bk 77 0 kc ks ls st w Q = wp Bk 77 [] (1, 6) (none) Q c77_0 kc ks ls st w := eS ⟨rfl, rfl⟩
theorem e77_7 {kc ks : Nat} {ls st : List Value} {w : AW} {Q : AQ} : Bk 77 7 kc ks ls st w Q = wp Bk 77 [] (1, 6) (none) Q c77_7 kc ks ls st w := eS ⟨rfl, rfl⟩
theorem e77_8 {kc ks : Nat} {ls st : List Value} {w : AW} {Q : AQ} : Bk 77 8 kc ks ls st w Q = wp Bk 77 [] (1, 6) (none) Q c77_8 kc ks ls st w := eS ⟨rfl, rfl⟩
theorem e78_0 {kc ks : Nat} {ls st : List Value} {w : AW} {Q : AQ} : Bk 78 0 kc ks ls st w Q = wp Bk 78 [] (1, 6) (some .int) Q c78_0 kc ks ls st w := eS ⟨rfl, rfl⟩
theorem e79_0 {kc ks : Nat} {ls st : List Value} {w : AW} {Q : AQ} : Bk 79 0 kc ks ls st w Q = wp Bk 79 [("java/lang/IndexOutOfBoundsException", 9, 3)] (1, 6) (some .int) Q c79_0 kc ks ls st w := eS ⟨rfl, rfl⟩
theorem e79_9 {kc ks : Nat} {ls st : List Value} {w : AW} {Q : AQ} : Bk 79 9 kc ks ls st w Q = wp Bk 79 [("java/lang/IndexOutOfBoundsException", 9, 3)] (1, 6) (some .int) Q c79_9 kc ks ls st w := eS ⟨rfl, rfl⟩
theorem e79_11 {kc ks : Nat} {ls st : List Value} {w : AW} {Q : AQ} : Bk 79 11 kc ks ls st w Q = wp Bk 79 [("java/lang/IndexOutOfBoundsException", 9, 3)] (1, 6) (some .int) Q c79_11 kc ks ls st w := eS ⟨rfl, rfl⟩
theorem e80_0 {kc ks : Nat} {ls st : List Value} {w : AW} {Q : AQ} : Bk 80 0 kc ks ls st w Q = wp Bk 80 [] (0, 0) (some .int) Q c80_0 kc ks ls st w := eS ⟨rfl, rfl⟩
theorem e80_13 {kc ks : Nat} {ls st : List Value} {w : AW} {Q : AQ} : Bk 80 13 kc ks ls st w Q = wp Bk 80 [] (0, 0) (some .int) Q c80_13 kc ks ls st w := eS ⟨rfl, rfl⟩
theorem e80_14 {kc ks : Nat} {ls st : List Value} {w : AW} {Q : AQ} : Bk 80 14 kc ks ls st w Q = wp Bk 80 [] (0, 0) (some .int) Q c80_14 kc ks ls st w := eS ⟨rfl, rfl⟩
theorem e80_18 {kc ks : Nat} {ls st : List Value} {w : AW} {Q : AQ} : Bk 80 18 kc ks ls st w Q = wp Bk 80 [] (0, 0) (some .int) Q c80_18 kc ks ls st w := eS ⟨rfl, rfl⟩
theorem e80_22 {kc ks : Nat} {ls st : List Value} {w : AW} {Q : AQ} : Bk 80 22 kc ks ls st w Q = wp Bk 80 [] (0, 0) (some .int) Q c80_22 kc ks ls st w := eS ⟨rfl, rfl⟩
theorem e80_44 {kc ks : Nat} {ls st : List Value} {w : AW} {Q : AQ} : Bk 80 44 kc ks ls st w Q = wp Bk 80 [] (0, 0) (some .int) Q c80_44 kc ks ls st w := eS ⟨rfl, rfl⟩
theorem e81_0 {kc ks : Nat} {ls st : List Value} {w : AW} {Q : AQ} : Bk 81 0 kc ks ls st w Q = wp Bk 81 [] (1, 6) (some .int) Q c81_0 kc ks ls st w := eS ⟨rfl, rfl⟩
theorem e81_7 {kc ks : Nat} {ls st : List Value} {w : AW} {Q : AQ} : Bk 81 7 kc ks ls st w Q = wp Bk 81 [] (1, 6) (some .int) Q c81_7 kc ks ls st w := eS ⟨rfl, rfl⟩
theorem e81_8 {kc ks : Nat} {ls st : List Value} {w : AW} {Q : AQ} : Bk 81 8 kc ks ls st w Q = wp Bk 81 [] (1, 6) (some .int) Q c81_8 kc ks ls st w := eS ⟨rfl, rfl⟩
theorem e82_0 {kc ks : Nat} {ls st : List Value} {w : AW} {Q : AQ} : Bk 82 0 kc ks ls st w Q = wp Bk 82 [("java/lang/IndexOutOfBoundsException", 9, 3)] (1, 6) (some .int) Q c82_0 kc ks ls st w := eS ⟨rfl, rfl⟩
theorem e82_9 {kc ks : Nat} {ls st : List Value} {w : AW} {Q : AQ} : Bk 82 9 kc ks ls st w Q = wp Bk 82 [("java/lang/IndexOutOfBoundsException", 9, 3)] (1, 6) (some .int) Q c82_9 kc ks ls st w := eS ⟨rfl, rfl⟩
theorem e82_11 {kc ks : Nat} {ls st : List Value} {w : AW} {Q : AQ} : Bk 82 11 kc ks ls st w Q = wp Bk 82 [("java/lang/IndexOutOfBoundsException", 9, 3)] (1, 6) (some .int) Q c82_11 kc ks ls st w := eS ⟨rfl, rfl⟩
theorem e83_0 {kc ks : Nat} {ls st : List Value} {w : AW} {Q : AQ} : Bk 83 0 kc ks ls st w Q = wp Bk 83 [] (0, 0) (some .int) Q c83_0 kc ks ls st w := eS ⟨rfl, rfl⟩
theorem e83_13 {kc ks : Nat} {ls st : List Value} {w : AW} {Q : AQ} : Bk 83 13 kc ks ls st w Q = wp Bk 83 [] (0, 0) (some .int) Q c83_13 kc ks ls st w := eS ⟨rfl, rfl⟩
theorem e83_14 {kc ks : Nat} {ls st : List Value} {w : AW} {Q : AQ} : Bk 83 14 kc ks ls st w Q = wp Bk 83 [] (0, 0) (some .int) Q c83_14 kc ks ls st w := eS ⟨rfl, rfl⟩
theorem e83_18 {kc ks : Nat} {ls st : List Value} {w : AW} {Q : AQ} : Bk 83 18 kc ks ls st w Q = wp Bk 83 [] (0, 0) (some .int) Q c83_18 kc ks ls st w := eS ⟨rfl, rfl⟩
theorem e83_22 {kc ks : Nat} {ls st : List Value} {w : AW} {Q : AQ} : Bk 83 22 kc ks ls st w Q = wp Bk 83 [] (0, 0) (some .int) Q c83_22 kc ks ls st w := eS ⟨rfl, rfl⟩
theorem e83_44 {kc ks : Nat} {ls st : List Value} {w : AW} {Q : AQ} : Bk 83 44 kc ks ls st w Q = wp Bk 83 [] (0, 0) (some .int) Q c83_44 kc ks ls st w := eS ⟨rfl, rfl⟩
theorem e84_0 {kc ks : Nat} {ls st : List Value} {w : AW} {Q : AQ} : Bk 84 0 kc ks ls st w Q = wp Bk 84 [] (1, 6) (some .int) Q c84_0 kc ks ls st w := eS ⟨rfl, rfl⟩
theorem e85_0 {kc ks : Nat} {ls st : List Value} {w : AW} {Q : AQ} : Bk 85 0 kc ks ls st w Q = wp Bk 85 [("java/lang/IndexOutOfBoundsException", 10, 4)] (1, 6) (some .int) Q c85_0 kc ks ls st w := eS ⟨rfl, rfl⟩
theorem e85_10 {kc ks : Nat} {ls st : List Value} {w : AW} {Q : AQ} : Bk 85 10 kc ks ls st w Q = wp Bk 85 [("java/lang/IndexOutOfBoundsException", 10, 4)] (1, 6) (some .int) Q c85_10 kc ks ls st w := eS ⟨rfl, rfl⟩
theorem e85_12 {kc ks : Nat} {ls st : List Value} {w : AW} {Q : AQ} : Bk 85 12 kc ks ls st w Q = wp Bk 85 [("java/lang/IndexOutOfBoundsException", 10, 4)] (1, 6) (some .int) Q c85_12 kc ks ls st w := eS ⟨rfl, rfl⟩
theorem e86_0 {kc ks : Nat} {ls st : List Value} {w : AW} {Q : AQ} : Bk 86 0 kc ks ls st w Q = wp Bk 86 [] (0, 0) (some .int) Q c86_0 kc ks ls st w := eS ⟨rfl, rfl⟩
theorem e86_7 {kc ks : Nat} {ls st : List Value} {w : AW} {Q : AQ} : Bk 86 7 kc ks ls st w Q = wp Bk 86 [] (0, 0) (some .int) Q c86_7 kc ks ls st w := eS ⟨rfl, rfl⟩
theorem e86_16 {kc ks : Nat} {ls st : List Value} {w : AW} {Q : AQ} : Bk 86 16 kc ks ls st w Q = wp Bk 86 [] (0, 0) (some .int) Q c86_16 kc ks ls st w := eS ⟨rfl, rfl⟩
theorem e87_0 {kc ks : Nat} {ls st : List Value} {w : AW} {Q : AQ} : Bk 87 0 kc ks ls st w Q = wp Bk 87 [] (1, 6) (some .int) Q c87_0 kc ks ls st w := eS ⟨rfl, rfl⟩
theorem e88_0 {kc ks : Nat} {ls st : List Value} {w : AW} {Q : AQ} : Bk 88 0 kc ks ls st w Q = wp Bk 88 [("java/lang/IndexOutOfBoundsException", 10, 4)] (1, 6) (some .int) Q c88_0 kc ks ls st w := eS ⟨rfl, rfl⟩
theorem e88_10 {kc ks : Nat} {ls st : List Value} {w : AW} {Q : AQ} : Bk 88 10 kc ks ls st w Q = wp Bk 88 [("java/lang/IndexOutOfBoundsException", 10, 4)] (1, 6) (some .int) Q c88_10 kc ks ls st w := eS ⟨rfl, rfl⟩
theorem e88_12 {kc ks : Nat} {ls st : List Value} {w : AW} {Q : AQ} : Bk 88 12 kc ks ls st w Q = wp Bk 88 [("java/lang/IndexOutOfBoundsException", 10, 4)] (1, 6) (some .int) Q c88_12 kc ks ls st w := eS ⟨rfl, rfl⟩
theorem e89_0 {kc ks : Nat} {ls st : List Value} {w : AW} {Q : AQ} : Bk 89 0 kc ks ls st w Q = wp Bk 89 [] (0, 0) (some .int) Q c89_0 kc ks ls st w := eS ⟨rfl, rfl⟩
theorem e89_7 {kc ks : Nat} {ls st : List Value} {w : AW} {Q : AQ} : Bk 89 7 kc ks ls st w Q = wp Bk 89 [] (0, 0) (some .int) Q c89_7 kc ks ls st w := eS ⟨rfl, rfl⟩
theorem e89_14 {kc ks : Nat} {ls st : List Value} {w : AW} {Q : AQ} : Bk 89 14 kc ks ls st w Q = wp Bk 89 [] (0, 0) (some .int) Q c89_14 kc ks ls st w := eS ⟨rfl, rfl⟩
theorem e90_0 {kc ks : Nat} {ls st : List Value} {w : AW} {Q : AQ} : Bk 90 0 kc ks ls st w Q = wp Bk 90 [] (1, 6) (some .boolean) Q c90_0 kc ks ls st w := eS ⟨rfl, rfl⟩
theorem e91_0 {kc ks : Nat} {ls st : List Value} {w : AW} {Q : AQ} : Bk 91 0 kc ks ls st w Q = wp Bk 91 [("java/lang/IndexOutOfBoundsException", 13, 4)] (1, 6) (some .int) Q c91_0 kc ks ls st w := eS ⟨rfl, rfl⟩
theorem e91_9 {kc ks : Nat} {ls st : List Value} {w : AW} {Q : AQ} : Bk 91 9 kc ks ls st w Q = wp Bk 91 [("java/lang/IndexOutOfBoundsException", 13, 4)] (1, 6) (some .int) Q c91_9 kc ks ls st w := eS ⟨rfl, rfl⟩
theorem e91_10 {kc ks : Nat} {ls st : List Value} {w : AW} {Q : AQ} : Bk 91 10 kc ks ls st w Q = wp Bk 91 [("java/lang/IndexOutOfBoundsException", 13, 4)] (1, 6) (some .int) Q c91_10 kc ks ls st w := eS ⟨rfl, rfl⟩
theorem e91_13 {kc ks : Nat} {ls st : List Value} {w : AW} {Q : AQ} : Bk 91 13 kc ks ls st w Q = wp Bk 91 [("java/lang/IndexOutOfBoundsException", 13, 4)] (1, 6) (some .int) Q c91_13 kc ks ls st w := eS ⟨rfl, rfl⟩
theorem e91_15 {kc ks : Nat} {ls st : List Value} {w : AW} {Q : AQ} : Bk 91 15 kc ks ls st w Q = wp Bk 91 [("java/lang/IndexOutOfBoundsException", 13, 4)] (1, 6) (some .int) Q c91_15 kc ks ls st w := eS ⟨rfl, rfl⟩
theorem e92_0 {kc ks : Nat} {ls st : List Value} {w : AW} {Q : AQ} : Bk 92 0 kc ks ls st w Q = wp Bk 92 [] (0, 0) (some .boolean) Q c92_0 kc ks ls st w := eS ⟨rfl, rfl⟩
theorem e92_7 {kc ks : Nat} {ls st : List Value} {w : AW} {Q : AQ} : Bk 92 7 kc ks ls st w Q = wp Bk 92 [] (0, 0) (some .boolean) Q c92_7 kc ks ls st w := eS ⟨rfl, rfl⟩
theorem e93_0 {kc ks : Nat} {ls st : List Value} {w : AW} {Q : AQ} : Bk 93 0 kc ks ls st w Q = wp Bk 93 [] (1, 6) (some .boolean) Q c93_0 kc ks ls st w := eS ⟨rfl, rfl⟩
theorem e94_0 {kc ks : Nat} {ls st : List Value} {w : AW} {Q : AQ} : Bk 94 0 kc ks ls st w Q = wp Bk 94 [("java/lang/IndexOutOfBoundsException", 13, 4)] (1, 6) (some .int) Q c94_0 kc ks ls st w := eS ⟨rfl, rfl⟩
theorem e94_9 {kc ks : Nat} {ls st : List Value} {w : AW} {Q : AQ} : Bk 94 9 kc ks ls st w Q = wp Bk 94 [("java/lang/IndexOutOfBoundsException", 13, 4)] (1, 6) (some .int) Q c94_9 kc ks ls st w := eS ⟨rfl, rfl⟩
theorem e94_10 {kc ks : Nat} {ls st : List Value} {w : AW} {Q : AQ} : Bk 94 10 kc ks ls st w Q = wp Bk 94 [("java/lang/IndexOutOfBoundsException", 13, 4)] (1, 6) (some .int) Q c94_10 kc ks ls st w := eS ⟨rfl, rfl⟩
theorem e94_13 {kc ks : Nat} {ls st : List Value} {w : AW} {Q : AQ} : Bk 94 13 kc ks ls st w Q = wp Bk 94 [("java/lang/IndexOutOfBoundsException", 13, 4)] (1, 6) (some .int) Q c94_13 kc ks ls st w := eS ⟨rfl, rfl⟩
theorem e94_15 {kc ks : Nat} {ls st : List Value} {w : AW} {Q : AQ} : Bk 94 15 kc ks ls st w Q = wp Bk 94 [("java/lang/IndexOutOfBoundsException", 13, 4)] (1, 6) (some .int) Q c94_15 kc ks ls st w := eS ⟨rfl, rfl⟩
theorem e95_0 {kc ks : Nat} {ls st : List Value} {w : AW} {Q : AQ} : Bk 95 0 kc ks ls st w Q = wp Bk 95 [] (0, 0) (some .boolean) Q c95_0 kc ks ls st w := eS ⟨rfl, rfl⟩
theorem e95_17 {kc ks : Nat} {ls st : List Value} {w : AW} {Q : AQ} : Bk 95 17 kc ks ls st w Q = wp Bk 95 [] (0, 0) (some .boolean) Q c95_17 kc ks ls st w := eS ⟨rfl, rfl⟩
theorem e95_18 {kc ks : Nat} {ls st : List Value} {w : AW} {Q : AQ} : Bk 95 18 kc ks ls st w Q = wp Bk 95 [] (0, 0) (some .boolean) Q c95_18 kc ks ls st w := eS ⟨rfl, rfl⟩
theorem e96_0 {kc ks : Nat} {ls st : List Value} {w : AW} {Q : AQ} : Bk 96 0 kc ks ls st w Q = wp Bk 96 [] (0, 0) (some .int) Q c96_0 kc ks ls st w := eS ⟨rfl, rfl⟩
theorem e97_0 {kc ks : Nat} {ls st : List Value} {w : AW} {Q : AQ} : Bk 97 0 kc ks ls st w Q = wp Bk 97 [] (0, 0) (some .boolean) Q c97_0 kc ks ls st w := eS ⟨rfl, rfl⟩
theorem e97_6 {kc ks : Nat} {ls st : List Value} {w : AW} {Q : AQ} : Bk 97 6 kc ks ls st w Q = wp Bk 97 [] (0, 0) (some .boolean) Q c97_6 kc ks ls st w := eS ⟨rfl, rfl⟩
theorem e97_7 {kc ks : Nat} {ls st : List Value} {w : AW} {Q : AQ} : Bk 97 7 kc ks ls st w Q = wp Bk 97 [] (0, 0) (some .boolean) Q c97_7 kc ks ls st w := eS ⟨rfl, rfl⟩
theorem e98_0 {kc ks : Nat} {ls st : List Value} {w : AW} {Q : AQ} : Bk 98 0 kc ks ls st w Q = wp Bk 98 [] (0, 0) (some .boolean) Q c98_0 kc ks ls st w := eS ⟨rfl, rfl⟩
theorem e98_14 {kc ks : Nat} {ls st : List Value} {w : AW} {Q : AQ} : Bk 98 14 kc ks ls st w Q = wp Bk 98 [] (0, 0) (some .boolean) Q c98_14 kc ks ls st w := eS ⟨rfl, rfl⟩
theorem e98_15 {kc ks : Nat} {ls st : List Value} {w : AW} {Q : AQ} : Bk 98 15 kc ks ls st w Q = wp Bk 98 [] (0, 0) (some .boolean) Q c98_15 kc ks ls st w := eS ⟨rfl, rfl⟩
theorem e99_0 {kc ks : Nat} {ls st : List Value} {w : AW} {Q : AQ} : Bk 99 0 kc ks ls st w Q = wp Bk 99 [] (0, 0) (some .int) Q c99_0 kc ks ls st w := eS ⟨rfl, rfl⟩
theorem e100_0 {kc ks : Nat} {ls st : List Value} {w : AW} {Q : AQ} : Bk 100 0 kc ks ls st w Q = wp Bk 100 [] (0, 0) (some .int) Q c100_0 kc ks ls st w := eS ⟨rfl, rfl⟩
theorem e101_0 {kc ks : Nat} {ls st : List Value} {w : AW} {Q : AQ} : Bk 101 0 kc ks ls st w Q = wp Bk 101 [] (0, 0) (none) Q c101_0 kc ks ls st w := eS ⟨rfl, rfl⟩
theorem e101_5 {kc ks : Nat} {ls st : List Value} {w : AW} {Q : AQ} : Bk 101 5 kc ks ls st w Q = wp Bk 101 [] (0, 0) (none) Q c101_5 kc ks ls st w := eS ⟨rfl, rfl⟩
theorem e101_20 {kc ks : Nat} {ls st : List Value} {w : AW} {Q : AQ} : Bk 101 20 kc ks ls st w Q = wp Bk 101 [] (0, 0) (none) Q c101_20 kc ks ls st w := eS ⟨rfl, rfl⟩
theorem e101_21 {kc ks : Nat} {ls st : List Value} {w : AW} {Q : AQ} : Bk 101 21 kc ks ls st w Q = wp Bk 101 [] (0, 0) (none) Q c101_21 kc ks ls st w := eS ⟨rfl, rfl⟩
theorem e101_34 {kc ks : Nat} {ls st : List Value} {w : AW} {Q : AQ} : Bk 101 34 kc ks ls st w Q = wp Bk 101 [] (0, 0) (none) Q c101_34 kc ks ls st w := eS ⟨rfl, rfl⟩
theorem e101_36 {kc ks : Nat} {ls st : List Value} {w : AW} {Q : AQ} : Bk 101 36 kc ks ls st w Q = wp Bk 101 [] (0, 0) (none) Q c101_36 kc ks ls st w := eS ⟨rfl, rfl⟩
theorem e102_0 {kc ks : Nat} {ls st : List Value} {w : AW} {Q : AQ} : Bk 102 0 kc ks ls st w Q = wp Bk 102 [] (0, 0) (some .int) Q c102_0 kc ks ls st w := eS ⟨rfl, rfl⟩
theorem e102_3 {kc ks : Nat} {ls st : List Value} {w : AW} {Q : AQ} : Bk 102 3 kc ks ls st w Q = wp Bk 102 [] (0, 0) (some .int) Q c102_3 kc ks ls st w := eS ⟨rfl, rfl⟩
theorem e102_15 {kc ks : Nat} {ls st : List Value} {w : AW} {Q : AQ} : Bk 102 15 kc ks ls st w Q = wp Bk 102 [] (0, 0) (some .int) Q c102_15 kc ks ls st w := eS ⟨rfl, rfl⟩
theorem e102_17 {kc ks : Nat} {ls st : List Value} {w : AW} {Q : AQ} : Bk 102 17 kc ks ls st w Q = wp Bk 102 [] (0, 0) (some .int) Q c102_17 kc ks ls st w := eS ⟨rfl, rfl⟩
theorem e103_0 {kc ks : Nat} {ls st : List Value} {w : AW} {Q : AQ} : Bk 103 0 kc ks ls st w Q = wp Bk 103 [] (0, 0) (some .boolean) Q c103_0 kc ks ls st w := eS ⟨k103_0, rfl⟩
theorem e103_9 {kc ks : Nat} {ls st : List Value} {w : AW} {Q : AQ} : Bk 103 9 kc ks ls st w Q = wp Bk 103 [] (0, 0) (some .boolean) Q c103_9 kc ks ls st w := eS ⟨k103_9, rfl⟩
theorem e103_31 {kc ks : Nat} {ls st : List Value} {w : AW} {Q : AQ} : Bk 103 31 kc ks ls st w Q = wp Bk 103 [] (0, 0) (some .boolean) Q c103_31 kc ks ls st w := eS ⟨k103_31, rfl⟩
theorem e103_53 {kc ks : Nat} {ls st : List Value} {w : AW} {Q : AQ} : Bk 103 53 kc ks ls st w Q = wp Bk 103 [] (0, 0) (some .boolean) Q c103_53 kc ks ls st w := eS ⟨k103_53, rfl⟩
theorem e103_55 {kc ks : Nat} {ls st : List Value} {w : AW} {Q : AQ} : Bk 103 55 kc ks ls st w Q = wp Bk 103 [] (0, 0) (some .boolean) Q c103_55 kc ks ls st w := eS ⟨k103_55, rfl⟩
theorem e104_0 {kc ks : Nat} {ls st : List Value} {w : AW} {Q : AQ} : Bk 104 0 kc ks ls st w Q = wp Bk 104 [] (0, 0) (some .int) Q c104_0 kc ks ls st w := eS ⟨rfl, rfl⟩
theorem e104_4 {kc ks : Nat} {ls st : List Value} {w : AW} {Q : AQ} : Bk 104 4 kc ks ls st w Q = wp Bk 104 [] (0, 0) (some .int) Q c104_4 kc ks ls st w := eS ⟨rfl, rfl⟩
theorem e104_22 {kc ks : Nat} {ls st : List Value} {w : AW} {Q : AQ} : Bk 104 22 kc ks ls st w Q = wp Bk 104 [] (0, 0) (some .int) Q c104_22 kc ks ls st w := eS ⟨rfl, rfl⟩
theorem e104_24 {kc ks : Nat} {ls st : List Value} {w : AW} {Q : AQ} : Bk 104 24 kc ks ls st w Q = wp Bk 104 [] (0, 0) (some .int) Q c104_24 kc ks ls st w := eS ⟨rfl, rfl⟩
theorem e105_0 {kc ks : Nat} {ls st : List Value} {w : AW} {Q : AQ} : Bk 105 0 kc ks ls st w Q = wp Bk 105 [] (0, 0) (none) Q c105_0 kc ks ls st w := eS ⟨rfl, rfl⟩
theorem e105_5 {kc ks : Nat} {ls st : List Value} {w : AW} {Q : AQ} : Bk 105 5 kc ks ls st w Q = wp Bk 105 [] (0, 0) (none) Q c105_5 kc ks ls st w := eS ⟨rfl, rfl⟩
theorem e105_32 {kc ks : Nat} {ls st : List Value} {w : AW} {Q : AQ} : Bk 105 32 kc ks ls st w Q = wp Bk 105 [] (0, 0) (none) Q c105_32 kc ks ls st w := eS ⟨rfl, rfl⟩
theorem e105_34 {kc ks : Nat} {ls st : List Value} {w : AW} {Q : AQ} : Bk 105 34 kc ks ls st w Q = wp Bk 105 [] (0, 0) (none) Q c105_34 kc ks ls st w := eS ⟨rfl, rfl⟩
theorem e106_0 {kc ks : Nat} {ls st : List Value} {w : AW} {Q : AQ} : Bk 106 0 kc ks ls st w Q = wp Bk 106 [] (0, 0) (none) Q c106_0 kc ks ls st w := eS ⟨rfl, rfl⟩
theorem e106_10 {kc ks : Nat} {ls st : List Value} {w : AW} {Q : AQ} : Bk 106 10 kc ks ls st w Q = wp Bk 106 [] (0, 0) (none) Q c106_10 kc ks ls st w := eS ⟨rfl, rfl⟩
theorem e106_30 {kc ks : Nat} {ls st : List Value} {w : AW} {Q : AQ} : Bk 106 30 kc ks ls st w Q = wp Bk 106 [] (0, 0) (none) Q c106_30 kc ks ls st w := eS ⟨rfl, rfl⟩
theorem e106_32 {kc ks : Nat} {ls st : List Value} {w : AW} {Q : AQ} : Bk 106 32 kc ks ls st w Q = wp Bk 106 [] (0, 0) (none) Q c106_32 kc ks ls st w := eS ⟨rfl, rfl⟩
theorem e107_0 {kc ks : Nat} {ls st : List Value} {w : AW} {Q : AQ} : Bk 107 0 kc ks ls st w Q = wp Bk 107 [] (0, 0) (some .boolean) Q c107_0 kc ks ls st w := eS ⟨rfl, rfl⟩
theorem e107_3 {kc ks : Nat} {ls st : List Value} {w : AW} {Q : AQ} : Bk 107 3 kc ks ls st w Q = wp Bk 107 [] (0, 0) (some .boolean) Q c107_3 kc ks ls st w := eS ⟨rfl, rfl⟩
theorem e107_13 {kc ks : Nat} {ls st : List Value} {w : AW} {Q : AQ} : Bk 107 13 kc ks ls st w Q = wp Bk 107 [] (0, 0) (some .boolean) Q c107_13 kc ks ls st w := eS ⟨rfl, rfl⟩
theorem e107_15 {kc ks : Nat} {ls st : List Value} {w : AW} {Q : AQ} : Bk 107 15 kc ks ls st w Q = wp Bk 107 [] (0, 0) (some .boolean) Q c107_15 kc ks ls st w := eS ⟨rfl, rfl⟩
theorem e108_0 {kc ks : Nat} {ls st : List Value} {w : AW} {Q : AQ} : Bk 108 0 kc ks ls st w Q = wp Bk 108 [] (0, 0) (some .boolean) Q c108_0 kc ks ls st w := eS ⟨rfl, rfl⟩
theorem e109_0 {kc ks : Nat} {ls st : List Value} {w : AW} {Q : AQ} : Bk 109 0 kc ks ls st w Q = wp Bk 109 [] (0, 0) (some .boolean) Q c109_0 kc ks ls st w := eS ⟨rfl, rfl⟩
theorem e110_0 {kc ks : Nat} {ls st : List Value} {w : AW} {Q : AQ} : Bk 110 0 kc ks ls st w Q = wp Bk 110 [] (0, 0) (none) Q c110_0 kc ks ls st w := eS ⟨rfl, rfl⟩
theorem e111_0 {kc ks : Nat} {ls st : List Value} {w : AW} {Q : AQ} : Bk 111 0 kc ks ls st w Q = wp Bk 111 [] (0, 0) (none) Q c111_0 kc ks ls st w := eS ⟨rfl, rfl⟩
theorem e111_6 {kc ks : Nat} {ls st : List Value} {w : AW} {Q : AQ} : Bk 111 6 kc ks ls st w Q = wp Bk 111 [] (0, 0) (none) Q c111_6 kc ks ls st w := eS ⟨rfl, rfl⟩
theorem e111_26 {kc ks : Nat} {ls st : List Value} {w : AW} {Q : AQ} : Bk 111 26 kc ks ls st w Q = wp Bk 111 [] (0, 0) (none) Q c111_26 kc ks ls st w := eS ⟨rfl, rfl⟩
theorem e111_28 {kc ks : Nat} {ls st : List Value} {w : AW} {Q : AQ} : Bk 111 28 kc ks ls st w Q = wp Bk 111 [] (0, 0) (none) Q c111_28 kc ks ls st w := eS ⟨rfl, rfl⟩
theorem e112_0 {kc ks : Nat} {ls st : List Value} {w : AW} {Q : AQ} : Bk 112 0 kc ks ls st w Q = wp Bk 112 [] (0, 0) (none) Q c112_0 kc ks ls st w := eS ⟨k112_0, rfl⟩
theorem e112_15 {kc ks : Nat} {ls st : List Value} {w : AW} {Q : AQ} : Bk 112 15 kc ks ls st w Q = wp Bk 112 [] (0, 0) (none) Q c112_15 kc ks ls st w := eS ⟨k112_15, rfl⟩
theorem e112_35 {kc ks : Nat} {ls st : List Value} {w : AW} {Q : AQ} : Bk 112 35 kc ks ls st w Q = wp Bk 112 [] (0, 0) (none) Q c112_35 kc ks ls st w := eS ⟨k112_35, rfl⟩
theorem e112_45 {kc ks : Nat} {ls st : List Value} {w : AW} {Q : AQ} : Bk 112 45 kc ks ls st w Q = wp Bk 112 [] (0, 0) (none) Q c112_45 kc ks ls st w := eS ⟨k112_45, rfl⟩
theorem e112_51 {kc ks : Nat} {ls st : List Value} {w : AW} {Q : AQ} : Bk 112 51 kc ks ls st w Q = wp Bk 112 [] (0, 0) (none) Q c112_51 kc ks ls st w := eS ⟨k112_51, rfl⟩
theorem e112_63 {kc ks : Nat} {ls st : List Value} {w : AW} {Q : AQ} : Bk 112 63 kc ks ls st w Q = wp Bk 112 [] (0, 0) (none) Q c112_63 kc ks ls st w := eS ⟨k112_63, rfl⟩
theorem e112_73 {kc ks : Nat} {ls st : List Value} {w : AW} {Q : AQ} : Bk 112 73 kc ks ls st w Q = wp Bk 112 [] (0, 0) (none) Q c112_73 kc ks ls st w := eS ⟨k112_73, rfl⟩
theorem e112_80 {kc ks : Nat} {ls st : List Value} {w : AW} {Q : AQ} : Bk 112 80 kc ks ls st w Q = wp Bk 112 [] (0, 0) (none) Q c112_80 kc ks ls st w := eS ⟨k112_80, rfl⟩
theorem e112_106 {kc ks : Nat} {ls st : List Value} {w : AW} {Q : AQ} : Bk 112 106 kc ks ls st w Q = wp Bk 112 [] (0, 0) (none) Q c112_106 kc ks ls st w := eS ⟨k112_106, rfl⟩
theorem e112_108 {kc ks : Nat} {ls st : List Value} {w : AW} {Q : AQ} : Bk 112 108 kc ks ls st w Q = wp Bk 112 [] (0, 0) (none) Q c112_108 kc ks ls st w := eS ⟨k112_108, rfl⟩
theorem e112_120 {kc ks : Nat} {ls st : List Value} {w : AW} {Q : AQ} : Bk 112 120 kc ks ls st w Q = wp Bk 112 [] (0, 0) (none) Q c112_120 kc ks ls st w := eS ⟨k112_120, rfl⟩
theorem e112_122 {kc ks : Nat} {ls st : List Value} {w : AW} {Q : AQ} : Bk 112 122 kc ks ls st w Q = wp Bk 112 [] (0, 0) (none) Q c112_122 kc ks ls st w := eS ⟨k112_122, rfl⟩
theorem e112_124 {kc ks : Nat} {ls st : List Value} {w : AW} {Q : AQ} : Bk 112 124 kc ks ls st w Q = wp Bk 112 [] (0, 0) (none) Q c112_124 kc ks ls st w := eS ⟨k112_124, rfl⟩
theorem e112_134 {kc ks : Nat} {ls st : List Value} {w : AW} {Q : AQ} : Bk 112 134 kc ks ls st w Q = wp Bk 112 [] (0, 0) (none) Q c112_134 kc ks ls st w := eS ⟨k112_134, rfl⟩
theorem e112_136 {kc ks : Nat} {ls st : List Value} {w : AW} {Q : AQ} : Bk 112 136 kc ks ls st w Q = wp Bk 112 [] (0, 0) (none) Q c112_136 kc ks ls st w := eS ⟨k112_136, rfl⟩
theorem e112_141 {kc ks : Nat} {ls st : List Value} {w : AW} {Q : AQ} : Bk 112 141 kc ks ls st w Q = wp Bk 112 [] (0, 0) (none) Q c112_141 kc ks ls st w := eS ⟨k112_141, rfl⟩
theorem e112_152 {kc ks : Nat} {ls st : List Value} {w : AW} {Q : AQ} : Bk 112 152 kc ks ls st w Q = wp Bk 112 [] (0, 0) (none) Q c112_152 kc ks ls st w := eS ⟨k112_152, rfl⟩
theorem e112_160 {kc ks : Nat} {ls st : List Value} {w : AW} {Q : AQ} : Bk 112 160 kc ks ls st w Q = wp Bk 112 [] (0, 0) (none) Q c112_160 kc ks ls st w := eS ⟨k112_160, rfl⟩
theorem e112_174 {kc ks : Nat} {ls st : List Value} {w : AW} {Q : AQ} : Bk 112 174 kc ks ls st w Q = wp Bk 112 [] (0, 0) (none) Q c112_174 kc ks ls st w := eS ⟨k112_174, rfl⟩
theorem e112_176 {kc ks : Nat} {ls st : List Value} {w : AW} {Q : AQ} : Bk 112 176 kc ks ls st w Q = wp Bk 112 [] (0, 0) (none) Q c112_176 kc ks ls st w := eS ⟨k112_176, rfl⟩
theorem e113_0 {kc ks : Nat} {ls st : List Value} {w : AW} {Q : AQ} : Bk 113 0 kc ks ls st w Q = wp Bk 113 [] (0, 0) (some .boolean) Q c113_0 kc ks ls st w := eS ⟨rfl, rfl⟩
theorem e113_10 {kc ks : Nat} {ls st : List Value} {w : AW} {Q : AQ} : Bk 113 10 kc ks ls st w Q = wp Bk 113 [] (0, 0) (some .boolean) Q c113_10 kc ks ls st w := eS ⟨rfl, rfl⟩
theorem e113_11 {kc ks : Nat} {ls st : List Value} {w : AW} {Q : AQ} : Bk 113 11 kc ks ls st w Q = wp Bk 113 [] (0, 0) (some .boolean) Q c113_11 kc ks ls st w := eS ⟨rfl, rfl⟩
theorem e114_0 {kc ks : Nat} {ls st : List Value} {w : AW} {Q : AQ} : Bk 114 0 kc ks ls st w Q = wp Bk 114 [] (0, 0) (some .boolean) Q c114_0 kc ks ls st w := eS ⟨rfl, rfl⟩
theorem e115_0 {kc ks : Nat} {ls st : List Value} {w : AW} {Q : AQ} : Bk 115 0 kc ks ls st w Q = wp Bk 115 [] (0, 0) (some .int) Q c115_0 kc ks ls st w := eS ⟨rfl, rfl⟩
theorem e115_17 {kc ks : Nat} {ls st : List Value} {w : AW} {Q : AQ} : Bk 115 17 kc ks ls st w Q = wp Bk 115 [] (0, 0) (some .int) Q c115_17 kc ks ls st w := eS ⟨rfl, rfl⟩
theorem e115_18 {kc ks : Nat} {ls st : List Value} {w : AW} {Q : AQ} : Bk 115 18 kc ks ls st w Q = wp Bk 115 [] (0, 0) (some .int) Q c115_18 kc ks ls st w := eS ⟨rfl, rfl⟩
theorem e116_0 {kc ks : Nat} {ls st : List Value} {w : AW} {Q : AQ} : Bk 116 0 kc ks ls st w Q = wp Bk 116 [] (0, 0) (some .boolean) Q c116_0 kc ks ls st w := eS ⟨rfl, rfl⟩
theorem e116_7 {kc ks : Nat} {ls st : List Value} {w : AW} {Q : AQ} : Bk 116 7 kc ks ls st w Q = wp Bk 116 [] (0, 0) (some .boolean) Q c116_7 kc ks ls st w := eS ⟨rfl, rfl⟩
theorem e116_29 {kc ks : Nat} {ls st : List Value} {w : AW} {Q : AQ} : Bk 116 29 kc ks ls st w Q = wp Bk 116 [] (0, 0) (some .boolean) Q c116_29 kc ks ls st w := eS ⟨rfl, rfl⟩
theorem e116_31 {kc ks : Nat} {ls st : List Value} {w : AW} {Q : AQ} : Bk 116 31 kc ks ls st w Q = wp Bk 116 [] (0, 0) (some .boolean) Q c116_31 kc ks ls st w := eS ⟨rfl, rfl⟩
theorem e117_0 {kc ks : Nat} {ls st : List Value} {w : AW} {Q : AQ} : Bk 117 0 kc ks ls st w Q = wp Bk 117 [] (0, 0) (some .boolean) Q c117_0 kc ks ls st w := eS ⟨rfl, rfl⟩
theorem e118_0 {kc ks : Nat} {ls st : List Value} {w : AW} {Q : AQ} : Bk 118 0 kc ks ls st w Q = wp Bk 118 [] (0, 0) (some .boolean) Q c118_0 kc ks ls st w := eS ⟨rfl, rfl⟩
theorem e119_0 {kc ks : Nat} {ls st : List Value} {w : AW} {Q : AQ} : Bk 119 0 kc ks ls st w Q = wp Bk 119 [] (0, 0) (some .int) Q c119_0 kc ks ls st w := eS ⟨rfl, rfl⟩
theorem e120_0 {kc ks : Nat} {ls st : List Value} {w : AW} {Q : AQ} : Bk 120 0 kc ks ls st w Q = wp Bk 120 [] (0, 0) (some .int) Q c120_0 kc ks ls st w := eS ⟨rfl, rfl⟩
theorem e121_0 {kc ks : Nat} {ls st : List Value} {w : AW} {Q : AQ} : Bk 121 0 kc ks ls st w Q = wp Bk 121 [] (0, 0) (some .int) Q c121_0 kc ks ls st w := eS ⟨rfl, rfl⟩
theorem e121_7 {kc ks : Nat} {ls st : List Value} {w : AW} {Q : AQ} : Bk 121 7 kc ks ls st w Q = wp Bk 121 [] (0, 0) (some .int) Q c121_7 kc ks ls st w := eS ⟨rfl, rfl⟩
theorem e121_20 {kc ks : Nat} {ls st : List Value} {w : AW} {Q : AQ} : Bk 121 20 kc ks ls st w Q = wp Bk 121 [] (0, 0) (some .int) Q c121_20 kc ks ls st w := eS ⟨rfl, rfl⟩
theorem e122_0 {kc ks : Nat} {ls st : List Value} {w : AW} {Q : AQ} : Bk 122 0 kc ks ls st w Q = wp Bk 122 [] (1, 6) (some .boolean) Q c122_0 kc ks ls st w := eS ⟨rfl, rfl⟩
theorem e123_0 {kc ks : Nat} {ls st : List Value} {w : AW} {Q : AQ} : Bk 123 0 kc ks ls st w Q = wp Bk 123 [("java/lang/IndexOutOfBoundsException", 13, 4)] (1, 6) (some .int) Q c123_0 kc ks ls st w := eS ⟨rfl, rfl⟩
theorem e123_9 {kc ks : Nat} {ls st : List Value} {w : AW} {Q : AQ} : Bk 123 9 kc ks ls st w Q = wp Bk 123 [("java/lang/IndexOutOfBoundsException", 13, 4)] (1, 6) (some .int) Q c123_9 kc ks ls st w := eS ⟨rfl, rfl⟩
theorem e123_10 {kc ks : Nat} {ls st : List Value} {w : AW} {Q : AQ} : Bk 123 10 kc ks ls st w Q = wp Bk 123 [("java/lang/IndexOutOfBoundsException", 13, 4)] (1, 6) (some .int) Q c123_10 kc ks ls st w := eS ⟨rfl, rfl⟩
theorem e123_13 {kc ks : Nat} {ls st : List Value} {w : AW} {Q : AQ} : Bk 123 13 kc ks ls st w Q = wp Bk 123 [("java/lang/IndexOutOfBoundsException", 13, 4)] (1, 6) (some .int) Q c123_13 kc ks ls st w := eS ⟨rfl, rfl⟩
theorem e123_15 {kc ks : Nat} {ls st : List Value} {w : AW} {Q : AQ} : Bk 123 15 kc ks ls st w Q = wp Bk 123 [("java/lang/IndexOutOfBoundsException", 13, 4)] (1, 6) (some .int) Q c123_15 kc ks ls st w := eS ⟨rfl, rfl⟩
theorem e124_0 {kc ks : Nat} {ls st : List Value} {w : AW} {Q : AQ} : Bk 124 0 kc ks ls st w Q = wp Bk 124 [] (0, 0) (some .int) Q c124_0 kc ks ls st w := eS ⟨rfl, rfl⟩
theorem e124_6 {kc ks : Nat} {ls st : List Value} {w : AW} {Q : AQ} : Bk 124 6 kc ks ls st w Q = wp Bk 124 [] (0, 0) (some .int) Q c124_6 kc ks ls st w := eS ⟨rfl, rfl⟩
theorem e124_19 {kc ks : Nat} {ls st : List Value} {w : AW} {Q : AQ} : Bk 124 19 kc ks ls st w Q = wp Bk 124 [] (0, 0) (some .int) Q c124_19 kc ks ls st w := eS ⟨rfl, rfl⟩
theorem e125_0 {kc ks : Nat} {ls st : List Value} {w : AW} {Q : AQ} : Bk 125 0 kc ks ls st w Q = wp Bk 125 [] (0, 0) (some .boolean) Q c125_0 kc ks ls st w := eS ⟨rfl, rfl⟩
theorem e125_15 {kc ks : Nat} {ls st : List Value} {w : AW} {Q : AQ} : Bk 125 15 kc ks ls st w Q = wp Bk 125 [] (0, 0) (some .boolean) Q c125_15 kc ks ls st w := eS ⟨rfl, rfl⟩
theorem e125_16 {kc ks : Nat} {ls st : List Value} {w : AW} {Q : AQ} : Bk 125 16 kc ks ls st w Q = wp Bk 125 [] (0, 0) (some .boolean) Q c125_16 kc ks ls st w := eS ⟨rfl, rfl⟩
theorem e126_0 {kc ks : Nat} {ls st : List Value} {w : AW} {Q : AQ} : Bk 126 0 kc ks ls st w Q = wp Bk 126 [] (0, 0) (some .int) Q c126_0 kc ks ls st w := eS ⟨rfl, rfl⟩
theorem e127_0 {kc ks : Nat} {ls st : List Value} {w : AW} {Q : AQ} : Bk 127 0 kc ks ls st w Q = wp Bk 127 [] (0, 0) (some .int) Q c127_0 kc ks ls st w := eS ⟨rfl, rfl⟩
theorem e128_0 {kc ks : Nat} {ls st : List Value} {w : AW} {Q : AQ} : Bk 128 0 kc ks ls st w Q = wp Bk 128 [] (0, 0) (some .boolean) Q c128_0 kc ks ls st w := eS ⟨rfl, rfl⟩
theorem e128_12 {kc ks : Nat} {ls st : List Value} {w : AW} {Q : AQ} : Bk 128 12 kc ks ls st w Q = wp Bk 128 [] (0, 0) (some .boolean) Q c128_12 kc ks ls st w := eS ⟨rfl, rfl⟩
theorem e128_13 {kc ks : Nat} {ls st : List Value} {w : AW} {Q : AQ} : Bk 128 13 kc ks ls st w Q = wp Bk 128 [] (0, 0) (some .boolean) Q c128_13 kc ks ls st w := eS ⟨rfl, rfl⟩
theorem e128_14 {kc ks : Nat} {ls st : List Value} {w : AW} {Q : AQ} : Bk 128 14 kc ks ls st w Q = wp Bk 128 [] (0, 0) (some .boolean) Q c128_14 kc ks ls st w := eS ⟨rfl, rfl⟩
theorem e128_29 {kc ks : Nat} {ls st : List Value} {w : AW} {Q : AQ} : Bk 128 29 kc ks ls st w Q = wp Bk 128 [] (0, 0) (some .boolean) Q c128_29 kc ks ls st w := eS ⟨rfl, rfl⟩
theorem e128_30 {kc ks : Nat} {ls st : List Value} {w : AW} {Q : AQ} : Bk 128 30 kc ks ls st w Q = wp Bk 128 [] (0, 0) (some .boolean) Q c128_30 kc ks ls st w := eS ⟨rfl, rfl⟩
theorem e129_0 {kc ks : Nat} {ls st : List Value} {w : AW} {Q : AQ} : Bk 129 0 kc ks ls st w Q = wp Bk 129 [] (0, 0) (some .int) Q c129_0 kc ks ls st w := eS ⟨rfl, rfl⟩
theorem e129_8 {kc ks : Nat} {ls st : List Value} {w : AW} {Q : AQ} : Bk 129 8 kc ks ls st w Q = wp Bk 129 [] (0, 0) (some .int) Q c129_8 kc ks ls st w := eS ⟨rfl, rfl⟩
theorem e129_16 {kc ks : Nat} {ls st : List Value} {w : AW} {Q : AQ} : Bk 129 16 kc ks ls st w Q = wp Bk 129 [] (0, 0) (some .int) Q c129_16 kc ks ls st w := eS ⟨rfl, rfl⟩
theorem e129_34 {kc ks : Nat} {ls st : List Value} {w : AW} {Q : AQ} : Bk 129 34 kc ks ls st w Q = wp Bk 129 [] (0, 0) (some .int) Q c129_34 kc ks ls st w := eS ⟨rfl, rfl⟩
theorem e129_36 {kc ks : Nat} {ls st : List Value} {w : AW} {Q : AQ} : Bk 129 36 kc ks ls st w Q = wp Bk 129 [] (0, 0) (some .int) Q c129_36 kc ks ls st w := eS ⟨rfl, rfl⟩
theorem e130_0 {kc ks : Nat} {ls st : List Value} {w : AW} {Q : AQ} : Bk 130 0 kc ks ls st w Q = wp Bk 130 [] (1, 6) (some .int) Q c130_0 kc ks ls st w := eS ⟨rfl, rfl⟩
theorem e130_10 {kc ks : Nat} {ls st : List Value} {w : AW} {Q : AQ} : Bk 130 10 kc ks ls st w Q = wp Bk 130 [] (1, 6) (some .int) Q c130_10 kc ks ls st w := eS ⟨rfl, rfl⟩
theorem e131_0 {kc ks : Nat} {ls st : List Value} {w : AW} {Q : AQ} : Bk 131 0 kc ks ls st w Q = wp Bk 131 [] (1, 6) (some .int) Q c131_0 kc ks ls st w := eS ⟨rfl, rfl⟩
theorem e132_0 {kc ks : Nat} {ls st : List Value} {w : AW} {Q : AQ} : Bk 132 0 kc ks ls st w Q = wp Bk 132 [("java/util/NoSuchElementException", 8, 2)] (1, 6) (some .int) Q c132_0 kc ks ls st w := eS ⟨rfl, rfl⟩
theorem e132_8 {kc ks : Nat} {ls st : List Value} {w : AW} {Q : AQ} : Bk 132 8 kc ks ls st w Q = wp Bk 132 [("java/util/NoSuchElementException", 8, 2)] (1, 6) (some .int) Q c132_8 kc ks ls st w := eS ⟨rfl, rfl⟩
theorem e132_10 {kc ks : Nat} {ls st : List Value} {w : AW} {Q : AQ} : Bk 132 10 kc ks ls st w Q = wp Bk 132 [("java/util/NoSuchElementException", 8, 2)] (1, 6) (some .int) Q c132_10 kc ks ls st w := eS ⟨rfl, rfl⟩
theorem e133_0 {kc ks : Nat} {ls st : List Value} {w : AW} {Q : AQ} : Bk 133 0 kc ks ls st w Q = wp Bk 133 [] (0, 0) (some .boolean) Q c133_0 kc ks ls st w := eS ⟨rfl, rfl⟩
theorem e133_23 {kc ks : Nat} {ls st : List Value} {w : AW} {Q : AQ} : Bk 133 23 kc ks ls st w Q = wp Bk 133 [] (0, 0) (some .boolean) Q c133_23 kc ks ls st w := eS ⟨rfl, rfl⟩
theorem e133_25 {kc ks : Nat} {ls st : List Value} {w : AW} {Q : AQ} : Bk 133 25 kc ks ls st w Q = wp Bk 133 [] (0, 0) (some .boolean) Q c133_25 kc ks ls st w := eS ⟨rfl, rfl⟩
theorem e133_26 {kc ks : Nat} {ls st : List Value} {w : AW} {Q : AQ} : Bk 133 26 kc ks ls st w Q = wp Bk 133 [] (0, 0) (some .boolean) Q c133_26 kc ks ls st w := eS ⟨rfl, rfl⟩
theorem e134_0 {kc ks : Nat} {ls st : List Value} {w : AW} {Q : AQ} : Bk 134 0 kc ks ls st w Q = wp Bk 134 [] (0, 0) (some .int) Q c134_0 kc ks ls st w := eS ⟨rfl, rfl⟩
theorem e134_7 {kc ks : Nat} {ls st : List Value} {w : AW} {Q : AQ} : Bk 134 7 kc ks ls st w Q = wp Bk 134 [] (0, 0) (some .int) Q c134_7 kc ks ls st w := eS ⟨rfl, rfl⟩
theorem e134_15 {kc ks : Nat} {ls st : List Value} {w : AW} {Q : AQ} : Bk 134 15 kc ks ls st w Q = wp Bk 134 [] (0, 0) (some .int) Q c134_15 kc ks ls st w := eS ⟨rfl, rfl⟩
theorem e134_23 {kc ks : Nat} {ls st : List Value} {w : AW} {Q : AQ} : Bk 134 23 kc ks ls st w Q = wp Bk 134 [] (0, 0) (some .int) Q c134_23 kc ks ls st w := eS ⟨rfl, rfl⟩
theorem e134_31 {kc ks : Nat} {ls st : List Value} {w : AW} {Q : AQ} : Bk 134 31 kc ks ls st w Q = wp Bk 134 [] (0, 0) (some .int) Q c134_31 kc ks ls st w := eS ⟨rfl, rfl⟩
theorem e134_44 {kc ks : Nat} {ls st : List Value} {w : AW} {Q : AQ} : Bk 134 44 kc ks ls st w Q = wp Bk 134 [] (0, 0) (some .int) Q c134_44 kc ks ls st w := eS ⟨rfl, rfl⟩
theorem e134_46 {kc ks : Nat} {ls st : List Value} {w : AW} {Q : AQ} : Bk 134 46 kc ks ls st w Q = wp Bk 134 [] (0, 0) (some .int) Q c134_46 kc ks ls st w := eS ⟨rfl, rfl⟩
theorem e135_0 {kc ks : Nat} {ls st : List Value} {w : AW} {Q : AQ} : Bk 135 0 kc ks ls st w Q = wp Bk 135 [] (0, 0) (some .int) Q c135_0 kc ks ls st w := eS ⟨rfl, rfl⟩
theorem e135_8 {kc ks : Nat} {ls st : List Value} {w : AW} {Q : AQ} : Bk 135 8 kc ks ls st w Q = wp Bk 135 [] (0, 0) (some .int) Q c135_8 kc ks ls st w := eS ⟨rfl, rfl⟩
theorem e135_9 {kc ks : Nat} {ls st : List Value} {w : AW} {Q : AQ} : Bk 135 9 kc ks ls st w Q = wp Bk 135 [] (0, 0) (some .int) Q c135_9 kc ks ls st w := eS ⟨rfl, rfl⟩
theorem e135_13 {kc ks : Nat} {ls st : List Value} {w : AW} {Q : AQ} : Bk 135 13 kc ks ls st w Q = wp Bk 135 [] (0, 0) (some .int) Q c135_13 kc ks ls st w := eS ⟨rfl, rfl⟩
theorem e135_15 {kc ks : Nat} {ls st : List Value} {w : AW} {Q : AQ} : Bk 135 15 kc ks ls st w Q = wp Bk 135 [] (0, 0) (some .int) Q c135_15 kc ks ls st w := eS ⟨rfl, rfl⟩
theorem e136_0 {kc ks : Nat} {ls st : List Value} {w : AW} {Q : AQ} : Bk 136 0 kc ks ls st w Q = wp Bk 136 [] (2, 12) (some .boolean) Q c136_0 kc ks ls st w := eS ⟨rfl, rfl⟩
theorem e137_0 {kc ks : Nat} {ls st : List Value} {w : AW} {Q : AQ} : Bk 137 0 kc ks ls st w Q = wp Bk 137 [("java/lang/IndexOutOfBoundsException", 13, 4), ("java/util/NoSuchElementException", 16, 4)] (2, 12) (some .int) Q c137_0 kc ks ls st w := eS ⟨rfl, rfl⟩
theorem e137_9 {kc ks : Nat} {ls st : List Value} {w : AW} {Q : AQ} : Bk 137 9 kc ks ls st w Q = wp Bk 137 [("java/lang/IndexOutOfBoundsException", 13, 4), ("java/util/NoSuchElementException", 16, 4)] (2, 12) (some .int) Q c137_9 kc ks ls st w := eS ⟨rfl, rfl⟩
theorem e137_10 {kc ks : Nat} {ls st : List Value} {w : AW} {Q : AQ} : Bk 137 10 kc ks ls st w Q = wp Bk 137 [("java/lang/IndexOutOfBoundsException", 13, 4), ("java/util/NoSuchElementException", 16, 4)] (2, 12) (some .int) Q c137_10 kc ks ls st w := eS ⟨rfl, rfl⟩
theorem e137_13 {kc ks : Nat} {ls st : List Value} {w : AW} {Q : AQ} : Bk 137 13 kc ks ls st w Q = wp Bk 137 [("java/lang/IndexOutOfBoundsException", 13, 4), ("java/util/NoSuchElementException", 16, 4)] (2, 12) (some .int) Q c137_13 kc ks ls st w := eS ⟨rfl, rfl⟩
theorem e137_16 {kc ks : Nat} {ls st : List Value} {w : AW} {Q : AQ} : Bk 137 16 kc ks ls st w Q = wp Bk 137 [("java/lang/IndexOutOfBoundsException", 13, 4), ("java/util/NoSuchElementException", 16, 4)] (2, 12) (some .int) Q c137_16 kc ks ls st w := eS ⟨rfl, rfl⟩
theorem e137_18 {kc ks : Nat} {ls st : List Value} {w : AW} {Q : AQ} : Bk 137 18 kc ks ls st w Q = wp Bk 137 [("java/lang/IndexOutOfBoundsException", 13, 4), ("java/util/NoSuchElementException", 16, 4)] (2, 12) (some .int) Q c137_18 kc ks ls st w := eS ⟨rfl, rfl⟩
theorem e138_0 {kc ks : Nat} {ls st : List Value} {w : AW} {Q : AQ} : Bk 138 0 kc ks ls st w Q = wp Bk 138 [] (0, 0) (some .boolean) Q c138_0 kc ks ls st w := eS ⟨rfl, rfl⟩
theorem e138_7 {kc ks : Nat} {ls st : List Value} {w : AW} {Q : AQ} : Bk 138 7 kc ks ls st w Q = wp Bk 138 [] (0, 0) (some .boolean) Q c138_7 kc ks ls st w := eS ⟨rfl, rfl⟩
theorem e138_15 {kc ks : Nat} {ls st : List Value} {w : AW} {Q : AQ} : Bk 138 15 kc ks ls st w Q = wp Bk 138 [] (0, 0) (some .boolean) Q c138_15 kc ks ls st w := eS ⟨rfl, rfl⟩
theorem e138_16 {kc ks : Nat} {ls st : List Value} {w : AW} {Q : AQ} : Bk 138 16 kc ks ls st w Q = wp Bk 138 [] (0, 0) (some .boolean) Q c138_16 kc ks ls st w := eS ⟨rfl, rfl⟩
theorem e138_27 {kc ks : Nat} {ls st : List Value} {w : AW} {Q : AQ} : Bk 138 27 kc ks ls st w Q = wp Bk 138 [] (0, 0) (some .boolean) Q c138_27 kc ks ls st w := eS ⟨rfl, rfl⟩
theorem e138_28 {kc ks : Nat} {ls st : List Value} {w : AW} {Q : AQ} : Bk 138 28 kc ks ls st w Q = wp Bk 138 [] (0, 0) (some .boolean) Q c138_28 kc ks ls st w := eS ⟨rfl, rfl⟩
theorem e139_0 {kc ks : Nat} {ls st : List Value} {w : AW} {Q : AQ} : Bk 139 0 kc ks ls st w Q = wp Bk 139 [] (0, 0) (some .int) Q c139_0 kc ks ls st w := eS ⟨rfl, rfl⟩
theorem e139_2 {kc ks : Nat} {ls st : List Value} {w : AW} {Q : AQ} : Bk 139 2 kc ks ls st w Q = wp Bk 139 [] (0, 0) (some .int) Q c139_2 kc ks ls st w := eS ⟨rfl, rfl⟩
theorem e139_12 {kc ks : Nat} {ls st : List Value} {w : AW} {Q : AQ} : Bk 139 12 kc ks ls st w Q = wp Bk 139 [] (0, 0) (some .int) Q c139_12 kc ks ls st w := eS ⟨rfl, rfl⟩
theorem e139_14 {kc ks : Nat} {ls st : List Value} {w : AW} {Q : AQ} : Bk 139 14 kc ks ls st w Q = wp Bk 139 [] (0, 0) (some .int) Q c139_14 kc ks ls st w := eS ⟨rfl, rfl⟩
theorem e140_0 {kc ks : Nat} {ls st : List Value} {w : AW} {Q : AQ} : Bk 140 0 kc ks ls st w Q = wp Bk 140 [] (1, 6) (some .int) Q c140_0 kc ks ls st w := eS ⟨rfl, rfl⟩
theorem e141_0 {kc ks : Nat} {ls st : List Value} {w : AW} {Q : AQ} : Bk 141 0 kc ks ls st w Q = wp Bk 141 [("java/util/NoSuchElementException", 8, 2)] (1, 6) (some .int) Q c141_0 kc ks ls st w := eS ⟨rfl, rfl⟩
theorem e141_8 {kc ks : Nat} {ls st : List Value} {w : AW} {Q : AQ} : Bk 141 8 kc ks ls st w Q = wp Bk 141 [("java/util/NoSuchElementException", 8, 2)] (1, 6) (some .int) Q c141_8 kc ks ls st w := eS ⟨rfl, rfl⟩
theorem e141_10 {kc ks : Nat} {ls st : List Value} {w : AW} {Q : AQ} : Bk 141 10 kc ks ls st w Q = wp Bk 141 [("java/util/NoSuchElementException", 8, 2)] (1, 6) (some .int) Q c141_10 kc ks ls st w := eS ⟨rfl, rfl⟩
theorem e142_0 {kc ks : Nat} {ls st : List Value} {w : AW} {Q : AQ} : Bk 142 0 kc ks ls st w Q = wp Bk 142 [] (0, 0) (some .int) Q c142_0 kc ks ls st w := eS ⟨rfl, rfl⟩
theorem e142_8 {kc ks : Nat} {ls st : List Value} {w : AW} {Q : AQ} : Bk 142 8 kc ks ls st w Q = wp Bk 142 [] (0, 0) (some .int) Q c142_8 kc ks ls st w := eS ⟨rfl, rfl⟩
theorem e142_9 {kc ks : Nat} {ls st : List Value} {w : AW} {Q : AQ} : Bk 142 9 kc ks ls st w Q = wp Bk 142 [] (0, 0) (some .int) Q c142_9 kc ks ls st w := eS ⟨rfl, rfl⟩
theorem e142_13 {kc ks : Nat} {ls st : List Value} {w : AW} {Q : AQ} : Bk 142 13 kc ks ls st w Q = wp Bk 142 [] (0, 0) (some .int) Q c142_13 kc ks ls st w := eS ⟨rfl, rfl⟩
theorem e142_19 {kc ks : Nat} {ls st : List Value} {w : AW} {Q : AQ} : Bk 142 19 kc ks ls st w Q = wp Bk 142 [] (0, 0) (some .int) Q c142_19 kc ks ls st w := eS ⟨rfl, rfl⟩
theorem e142_30 {kc ks : Nat} {ls st : List Value} {w : AW} {Q : AQ} : Bk 142 30 kc ks ls st w Q = wp Bk 142 [] (0, 0) (some .int) Q c142_30 kc ks ls st w := eS ⟨rfl, rfl⟩
theorem e142_32 {kc ks : Nat} {ls st : List Value} {w : AW} {Q : AQ} : Bk 142 32 kc ks ls st w Q = wp Bk 142 [] (0, 0) (some .int) Q c142_32 kc ks ls st w := eS ⟨rfl, rfl⟩
theorem e143_0 {kc ks : Nat} {ls st : List Value} {w : AW} {Q : AQ} : Bk 143 0 kc ks ls st w Q = wp Bk 143 [] (0, 0) (some .int) Q c143_0 kc ks ls st w := eS ⟨rfl, rfl⟩
theorem e143_4 {kc ks : Nat} {ls st : List Value} {w : AW} {Q : AQ} : Bk 143 4 kc ks ls st w Q = wp Bk 143 [] (0, 0) (some .int) Q c143_4 kc ks ls st w := eS ⟨rfl, rfl⟩
theorem e143_10 {kc ks : Nat} {ls st : List Value} {w : AW} {Q : AQ} : Bk 143 10 kc ks ls st w Q = wp Bk 143 [] (0, 0) (some .int) Q c143_10 kc ks ls st w := eS ⟨rfl, rfl⟩
theorem e143_29 {kc ks : Nat} {ls st : List Value} {w : AW} {Q : AQ} : Bk 143 29 kc ks ls st w Q = wp Bk 143 [] (0, 0) (some .int) Q c143_29 kc ks ls st w := eS ⟨rfl, rfl⟩
theorem e143_31 {kc ks : Nat} {ls st : List Value} {w : AW} {Q : AQ} : Bk 143 31 kc ks ls st w Q = wp Bk 143 [] (0, 0) (some .int) Q c143_31 kc ks ls st w := eS ⟨rfl, rfl⟩
theorem e143_33 {kc ks : Nat} {ls st : List Value} {w : AW} {Q : AQ} : Bk 143 33 kc ks ls st w Q = wp Bk 143 [] (0, 0) (some .int) Q c143_33 kc ks ls st w := eS ⟨rfl, rfl⟩
theorem e144_0 {kc ks : Nat} {ls st : List Value} {w : AW} {Q : AQ} : Bk 144 0 kc ks ls st w Q = wp Bk 144 [] (1, 6) (some .int) Q c144_0 kc ks ls st w := eS ⟨rfl, rfl⟩
theorem e144_6 {kc ks : Nat} {ls st : List Value} {w : AW} {Q : AQ} : Bk 144 6 kc ks ls st w Q = wp Bk 144 [] (1, 6) (some .int) Q c144_6 kc ks ls st w := eS ⟨rfl, rfl⟩
theorem e145_0 {kc ks : Nat} {ls st : List Value} {w : AW} {Q : AQ} : Bk 145 0 kc ks ls st w Q = wp Bk 145 [("java/lang/UnsupportedOperationException", 8, 2)] (1, 6) (some .int) Q c145_0 kc ks ls st w := eS ⟨rfl, rfl⟩
theorem e145_8 {kc ks : Nat} {ls st : List Value} {w : AW} {Q : AQ} : Bk 145 8 kc ks ls st w Q = wp Bk 145 [("java/lang/UnsupportedOperationException", 8, 2)] (1, 6) (some .int) Q c145_8 kc ks ls st w := eS ⟨rfl, rfl⟩
theorem e145_10 {kc ks : Nat} {ls st : List Value} {w : AW} {Q : AQ} : Bk 145 10 kc ks ls st w Q = wp Bk 145 [("java/lang/UnsupportedOperationException", 8, 2)] (1, 6) (some .int) Q c145_10 kc ks ls st w := eS ⟨rfl, rfl⟩
theorem e146_0 {kc ks : Nat} {ls st : List Value} {w : AW} {Q : AQ} : Bk 146 0 kc ks ls st w Q = wp Bk 146 [] (0, 0) (some .int) Q c146_0 kc ks ls st w := eS ⟨rfl, rfl⟩
theorem e146_9 {kc ks : Nat} {ls st : List Value} {w : AW} {Q : AQ} : Bk 146 9 kc ks ls st w Q = wp Bk 146 [] (0, 0) (some .int) Q c146_9 kc ks ls st w := eS ⟨rfl, rfl⟩
theorem e146_10 {kc ks : Nat} {ls st : List Value} {w : AW} {Q : AQ} : Bk 146 10 kc ks ls st w Q = wp Bk 146 [] (0, 0) (some .int) Q c146_10 kc ks ls st w := eS ⟨rfl, rfl⟩
theorem e146_14 {kc ks : Nat} {ls st : List Value} {w : AW} {Q : AQ} : Bk 146 14 kc ks ls st w Q = wp Bk 146 [] (0, 0) (some .int) Q c146_14 kc ks ls st w := eS ⟨rfl, rfl⟩
theorem e146_25 {kc ks : Nat} {ls st : List Value} {w : AW} {Q : AQ} : Bk 146 25 kc ks ls st w Q = wp Bk 146 [] (0, 0) (some .int) Q c146_25 kc ks ls st w := eS ⟨rfl, rfl⟩
theorem e146_47 {kc ks : Nat} {ls st : List Value} {w : AW} {Q : AQ} : Bk 146 47 kc ks ls st w Q = wp Bk 146 [] (0, 0) (some .int) Q c146_47 kc ks ls st w := eS ⟨rfl, rfl⟩
theorem e146_51 {kc ks : Nat} {ls st : List Value} {w : AW} {Q : AQ} : Bk 146 51 kc ks ls st w Q = wp Bk 146 [] (0, 0) (some .int) Q c146_51 kc ks ls st w := eS ⟨rfl, rfl⟩
theorem e146_53 {kc ks : Nat} {ls st : List Value} {w : AW} {Q : AQ} : Bk 146 53 kc ks ls st w Q = wp Bk 146 [] (0, 0) (some .int) Q c146_53 kc ks ls st w := eS ⟨rfl, rfl⟩
theorem e147_0 {kc ks : Nat} {ls st : List Value} {w : AW} {Q : AQ} : Bk 147 0 kc ks ls st w Q = wp Bk 147 [] (0, 0) (some .int) Q c147_0 kc ks ls st w := eS ⟨rfl, rfl⟩
theorem e147_2 {kc ks : Nat} {ls st : List Value} {w : AW} {Q : AQ} : Bk 147 2 kc ks ls st w Q = wp Bk 147 [] (0, 0) (some .int) Q c147_2 kc ks ls st w := eS ⟨rfl, rfl⟩
theorem e147_14 {kc ks : Nat} {ls st : List Value} {w : AW} {Q : AQ} : Bk 147 14 kc ks ls st w Q = wp Bk 147 [] (0, 0) (some .int) Q c147_14 kc ks ls st w := eS ⟨rfl, rfl⟩
theorem e147_16 {kc ks : Nat} {ls st : List Value} {w : AW} {Q : AQ} : Bk 147 16 kc ks ls st w Q = wp Bk 147 [] (0, 0) (some .int) Q c147_16 kc ks ls st w := eS ⟨rfl, rfl⟩
theorem e148_0 {kc ks : Nat} {ls st : List Value} {w : AW} {Q : AQ} : Bk 148 0 kc ks ls st w Q = wp Bk 148 [] (0, 0) (some .boolean) Q c148_0 kc ks ls st w := eS ⟨rfl, rfl⟩
theorem e148_11 {kc ks : Nat} {ls st : List Value} {w : AW} {Q : AQ} : Bk 148 11 kc ks ls st w Q = wp Bk 148 [] (0, 0) (some .boolean) Q c148_11 kc ks ls st w := eS ⟨rfl, rfl⟩
theorem e148_12 {kc ks : Nat} {ls st : List Value} {w : AW} {Q : AQ} : Bk 148 12 kc ks ls st w Q = wp Bk 148 [] (0, 0) (some .boolean) Q c148_12 kc ks ls st w := eS ⟨rfl, rfl⟩
theorem e149_0 {kc ks : Nat} {ls st : List Value} {w : AW} {Q : AQ} : Bk 149 0 kc ks ls st w Q = wp Bk 149 [] (0, 0) (none) Q c149_0 kc ks ls st w := eS ⟨rfl, rfl⟩
theorem e149_22 {kc ks : Nat} {ls st : List Value} {w : AW} {Q : AQ} : Bk 149 22 kc ks ls st w Q = wp Bk 149 [] (0, 0) (none) Q c149_22 kc ks ls st w := eS ⟨rfl, rfl⟩
theorem e150_0 {kc ks : Nat} {ls st : List Value} {w : AW} {Q : AQ} : Bk 150 0 kc ks ls st w Q = wp Bk 150 [] (2, 12) (some .int) Q c150_0 kc ks ls st w := eS ⟨rfl, rfl⟩
theorem e150_9 {kc ks : Nat} {ls st : List Value} {w : AW} {Q : AQ} : Bk 150 9 kc ks ls st w Q = wp Bk 150 [] (2, 12) (some .int) Q c150_9 kc ks ls st w := eS ⟨rfl, rfl⟩
theorem e150_20 {kc ks : Nat} {ls st : List Value} {w : AW} {Q : AQ} : Bk 150 20 kc ks ls st w Q = wp Bk 150 [] (2, 12) (some .int) Q c150_20 kc ks ls st w := eS ⟨rfl, rfl⟩
theorem e151_0 {kc ks : Nat} {ls st : List Value} {w : AW} {Q : AQ} : Bk 151 0 kc ks ls st w Q = wp Bk 151 [("java/lang/IndexOutOfBoundsException", 11, 5), ("java/lang/IllegalArgumentException", 14, 5), ("java/lang/IllegalStateException", 17, 5)] (2, 12) (some .int) Q c151_0 kc ks ls st w := eS ⟨rfl, rfl⟩
theorem e151_11 {kc ks : Nat} {ls st : List Value} {w : AW} {Q : AQ} : Bk 151 11 kc ks ls st w Q = wp Bk 151 [("java/lang/IndexOutOfBoundsException", 11, 5), ("java/lang/IllegalArgumentException", 14, 5), ("java/lang/IllegalStateException", 17, 5)] (2, 12) (some .int) Q c151_11 kc ks ls st w := eS ⟨rfl, rfl⟩
theorem e151_14 {kc ks : Nat} {ls st : List Value} {w : AW} {Q : AQ} : Bk 151 14 kc ks ls st w Q = wp Bk 151 [("java/lang/IndexOutOfBoundsException", 11, 5), ("java/lang/IllegalArgumentException", 14, 5), ("java/lang/IllegalStateException", 17, 5)] (2, 12) (some .int) Q c151_14 kc ks ls st w := eS ⟨rfl, rfl⟩
theorem e151_17 {kc ks : Nat} {ls st : List Value} {w : AW} {Q : AQ} : Bk 151 17 kc ks ls st w Q = wp Bk 151 [("java/lang/IndexOutOfBoundsException", 11, 5), ("java/lang/IllegalArgumentException", 14, 5), ("java/lang/IllegalStateException", 17, 5)] (2, 12) (some .int) Q c151_17 kc ks ls st w := eS ⟨rfl, rfl⟩
theorem e151_19 {kc ks : Nat} {ls st : List Value} {w : AW} {Q : AQ} : Bk 151 19 kc ks ls st w Q = wp Bk 151 [("java/lang/IndexOutOfBoundsException", 11, 5), ("java/lang/IllegalArgumentException", 14, 5), ("java/lang/IllegalStateException", 17, 5)] (2, 12) (some .int) Q c151_19 kc ks ls st w := eS ⟨rfl, rfl⟩
theorem e152_0 {kc ks : Nat} {ls st : List Value} {w : AW} {Q : AQ} : Bk 152 0 kc ks ls st w Q = wp Bk 152 [] (0, 0) (some .int) Q c152_0 kc ks ls st w := eS ⟨rfl, rfl⟩
theorem e152_5 {kc ks : Nat} {ls st : List Value} {w : AW} {Q : AQ} : Bk 152 5 kc ks ls st w Q = wp Bk 152 [] (0, 0) (some .int) Q c152_5 kc ks ls st w := eS ⟨rfl, rfl⟩
theorem e152_10 {kc ks : Nat} {ls st : List Value} {w : AW} {Q : AQ} : Bk 152 10 kc ks ls st w Q = wp Bk 152 [] (0, 0) (some .int) Q c152_10 kc ks ls st w := eS ⟨rfl, rfl⟩
theorem e152_15 {kc ks : Nat} {ls st : List Value} {w : AW} {Q : AQ} : Bk 152 15 kc ks ls st w Q = wp Bk 152 [] (0, 0) (some .int) Q c152_15 kc ks ls st w := eS ⟨rfl, rfl⟩
theorem e152_20 {kc ks : Nat} {ls st : List Value} {w : AW} {Q : AQ} : Bk 152 20 kc ks ls st w Q = wp Bk 152 [] (0, 0) (some .int) Q c152_20 kc ks ls st w := eS ⟨rfl, rfl⟩
theorem e152_21 {kc ks : Nat} {ls st : List Value} {w : AW} {Q : AQ} : Bk 152 21 kc ks ls st w Q = wp Bk 152 [] (0, 0) (some .int) Q c152_21 kc ks ls st w := eS ⟨rfl, rfl⟩
theorem e153_0 {kc ks : Nat} {ls st : List Value} {w : AW} {Q : AQ} : Bk 153 0 kc ks ls st w Q = wp Bk 153 [] (0, 0) (some .int) Q c153_0 kc ks ls st w := eS ⟨rfl, rfl⟩
theorem e153_2 {kc ks : Nat} {ls st : List Value} {w : AW} {Q : AQ} : Bk 153 2 kc ks ls st w Q = wp Bk 153 [] (0, 0) (some .int) Q c153_2 kc ks ls st w := eS ⟨rfl, rfl⟩
theorem e153_20 {kc ks : Nat} {ls st : List Value} {w : AW} {Q : AQ} : Bk 153 20 kc ks ls st w Q = wp Bk 153 [] (0, 0) (some .int) Q c153_20 kc ks ls st w := eS ⟨rfl, rfl⟩
theorem e153_22 {kc ks : Nat} {ls st : List Value} {w : AW} {Q : AQ} : Bk 153 22 kc ks ls st w Q = wp Bk 153 [] (0, 0) (some .int) Q c153_22 kc ks ls st w := eS ⟨rfl, rfl⟩
theorem e154_0 {kc ks : Nat} {ls st : List Value} {w : AW} {Q : AQ} : Bk 154 0 kc ks ls st w Q = wp Bk 154 [] (0, 0) (some .int) Q c154_0 kc ks ls st w := eS ⟨k154_0, rfl⟩
theorem e154_8 {kc ks : Nat} {ls st : List Value} {w : AW} {Q : AQ} : Bk 154 8 kc ks ls st w Q = wp Bk 154 [] (0, 0) (some .int) Q c154_8 kc ks ls st w := eS ⟨k154_8, rfl⟩
theorem e154_13 {kc ks : Nat} {ls st : List Value} {w : AW} {Q : AQ} : Bk 154 13 kc ks ls st w Q = wp Bk 154 [] (0, 0) (some .int) Q c154_13 kc ks ls st w := eS ⟨k154_13, rfl⟩
theorem e154_26 {kc ks : Nat} {ls st : List Value} {w : AW} {Q : AQ} : Bk 154 26 kc ks ls st w Q = wp Bk 154 [] (0, 0) (some .int) Q c154_26 kc ks ls st w := eS ⟨k154_26, rfl⟩
theorem e154_28 {kc ks : Nat} {ls st : List Value} {w : AW} {Q : AQ} : Bk 154 28 kc ks ls st w Q = wp Bk 154 [] (0, 0) (some .int) Q c154_28 kc ks ls st w := eS ⟨k154_28, rfl⟩
theorem e154_29 {kc ks : Nat} {ls st : List Value} {w : AW} {Q : AQ} : Bk 154 29 kc ks ls st w Q = wp Bk 154 [] (0, 0) (some .int) Q c154_29 kc ks ls st w := eS ⟨k154_29, rfl⟩
theorem e154_33 {kc ks : Nat} {ls st : List Value} {w : AW} {Q : AQ} : Bk 154 33 kc ks ls st w Q = wp Bk 154 [] (0, 0) (some .int) Q c154_33 kc ks ls st w := eS ⟨k154_33, rfl⟩
theorem e155_0 {kc ks : Nat} {ls st : List Value} {w : AW} {Q : AQ} : Bk 155 0 kc ks ls st w Q = wp Bk 155 [] (1, 6) (none) Q c155_0 kc ks ls st w := eS ⟨rfl, rfl⟩
theorem e155_8 {kc ks : Nat} {ls st : List Value} {w : AW} {Q : AQ} : Bk 155 8 kc ks ls st w Q = wp Bk 155 [] (1, 6) (none) Q c155_8 kc ks ls st w := eS ⟨rfl, rfl⟩
theorem e155_9 {kc ks : Nat} {ls st : List Value} {w : AW} {Q : AQ} : Bk 155 9 kc ks ls st w Q = wp Bk 155 [] (1, 6) (none) Q c155_9 kc ks ls st w := eS ⟨rfl, rfl⟩
theorem e156_0 {kc ks : Nat} {ls st : List Value} {w : AW} {Q : AQ} : Bk 156 0 kc ks ls st w Q = wp Bk 156 [] (0, 0) (none) Q c156_0 kc ks ls st w := eS ⟨rfl, rfl⟩
theorem e156_4 {kc ks : Nat} {ls st : List Value} {w : AW} {Q : AQ} : Bk 156 4 kc ks ls st w Q = wp Bk 156 [] (0, 0) (none) Q c156_4 kc ks ls st w := eS ⟨rfl, rfl⟩
theorem e156_30 {kc ks : Nat} {ls st : List Value} {w : AW} {Q : AQ} : Bk 156 30 kc ks ls st w Q = wp Bk 156 [] (0, 0) (none) Q c156_30 kc ks ls st w := eS ⟨rfl, rfl⟩
theorem e157_0 {kc ks : Nat} {ls st : List Value} {w : AW} {Q : AQ} : Bk 157 0 kc ks ls st w Q = wp Bk 157 [] (1, 6) (some .int) Q c157_0 kc ks ls st w := eS ⟨rfl, rfl⟩
theorem e158_0 {kc ks : Nat} {ls st : List Value} {w : AW} {Q : AQ} : Bk 158 0 kc ks ls st w Q = wp Bk 158 [("java/lang/IndexOutOfBoundsException", 9, 3)] (1, 6) (some .int) Q c158_0 kc ks ls st w := eS ⟨rfl, rfl⟩
theorem e158_9 {kc ks : Nat} {ls st : List Value} {w : AW} {Q : AQ} : Bk 158 9 kc ks ls st w Q = wp Bk 158 [("java/lang/IndexOutOfBoundsException", 9, 3)] (1, 6) (some .int) Q c158_9 kc ks ls st w := eS ⟨rfl, rfl⟩
theorem e158_11 {kc ks : Nat} {ls st : List Value} {w : AW} {Q : AQ} : Bk 158 11 kc ks ls st w Q = wp Bk 158 [("java/lang/IndexOutOfBoundsException", 9, 3)] (1, 6) (some .int) Q c158_11 kc ks ls st w := eS ⟨rfl, rfl⟩
theorem e159_0 {kc ks : Nat} {ls st : List Value} {w : AW} {Q : AQ} : Bk 159 0 kc ks ls st w Q = wp Bk 159 [] (0, 0) (some .boolean) Q c159_0 kc ks ls st w := eS ⟨rfl, rfl⟩
theorem e160_0 {kc ks : Nat} {ls st : List Value} {w : AW} {Q : AQ} : Bk 160 0 kc ks ls st w Q = wp Bk 160 [] (0, 0) (some .boolean) Q c160_0 kc ks ls st w := eS ⟨rfl, rfl⟩
theorem e160_7 {kc ks : Nat} {ls st : List Value} {w : AW} {Q : AQ} : Bk 160 7 kc ks ls st w Q = wp Bk 160 [] (0, 0) (some .boolean) Q c160_7 kc ks ls st w := eS ⟨rfl, rfl⟩
theorem e160_8 {kc ks : Nat} {ls st : List Value} {w : AW} {Q : AQ} : Bk 160 8 kc ks ls st w Q = wp Bk 160 [] (0, 0) (some .boolean) Q c160_8 kc ks ls st w := eS ⟨rfl, rfl⟩
theorem e161_0 {kc ks : Nat} {ls st : List Value} {w : AW} {Q : AQ} : Bk 161 0 kc ks ls st w Q = wp Bk 161 [] (0, 0) (some .int) Q c161_0 kc ks ls st w := eS ⟨k161_0, rfl⟩
theorem e161_6 {kc ks : Nat} {ls st : List Value} {w : AW} {Q : AQ} : Bk 161 6 kc ks ls st w Q = wp Bk 161 [] (0, 0) (some .int) Q c161_6 kc ks ls st w := eS ⟨k161_6, rfl⟩
theorem e161_24 {kc ks : Nat} {ls st : List Value} {w : AW} {Q : AQ} : Bk 161 24 kc ks ls st w Q = wp Bk 161 [] (0, 0) (some .int) Q c161_24 kc ks ls st w := eS ⟨k161_24, rfl⟩
theorem e161_46 {kc ks : Nat} {ls st : List Value} {w : AW} {Q : AQ} : Bk 161 46 kc ks ls st w Q = wp Bk 161 [] (0, 0) (some .int) Q c161_46 kc ks ls st w := eS ⟨k161_46, rfl⟩
theorem e162_0 {kc ks : Nat} {ls st : List Value} {w : AW} {Q : AQ} : Bk 162 0 kc ks ls st w Q = wp Bk 162 [] (0, 0) (some .int) Q c162_0 kc ks ls st w := eS ⟨rfl, rfl⟩
theorem e162_5 {kc ks : Nat} {ls st : List Value} {w : AW} {Q : AQ} : Bk 162 5 kc ks ls st w Q = wp Bk 162 [] (0, 0) (some .int) Q c162_5 kc ks ls st w := eS ⟨rfl, rfl⟩
theorem e162_10 {kc ks : Nat} {ls st : List Value} {w : AW} {Q : AQ} : Bk 162 10 kc ks ls st w Q = wp Bk 162 [] (0, 0) (some .int) Q c162_10 kc ks ls st w := eS ⟨rfl, rfl⟩
theorem e163_0 {kc ks : Nat} {ls st : List Value} {w : AW} {Q : AQ} : Bk 163 0 kc ks ls st w Q = wp Bk 163 [] (0, 0) (none) Q c163_0 kc ks ls st w := eS ⟨rfl, rfl⟩
theorem e164_0 {kc ks : Nat} {ls st : List Value} {w : AW} {Q : AQ} : Bk 164 0 kc ks ls st w Q = wp Bk 164 [] (0, 0) (some .char) Q c164_0 kc ks ls st w := eS ⟨rfl, rfl⟩
theorem e165_0 {kc ks : Nat} {ls st : List Value} {w : AW} {Q : AQ} : Bk 165 0 kc ks ls st w Q = wp Bk 165 [] (0, 0) (some .char) Q c165_0 kc ks ls st w := eS ⟨rfl, rfl⟩
theorem e165_8 {kc ks : Nat} {ls st : List Value} {w : AW} {Q : AQ} : Bk 165 8 kc ks ls st w Q = wp Bk 165 [] (0, 0) (some .char) Q c165_8 kc ks ls st w := eS ⟨rfl, rfl⟩
theorem e166_0 {kc ks : Nat} {ls st : List Value} {w : AW} {Q : AQ} : Bk 166 0 kc ks ls st w Q = wp Bk 166 [] (0, 0) (some .int) Q c166_0 kc ks ls st w := eS ⟨rfl, rfl⟩
theorem e166_7 {kc ks : Nat} {ls st : List Value} {w : AW} {Q : AQ} : Bk 166 7 kc ks ls st w Q = wp Bk 166 [] (0, 0) (some .int) Q c166_7 kc ks ls st w := eS ⟨rfl, rfl⟩
theorem e166_9 {kc ks : Nat} {ls st : List Value} {w : AW} {Q : AQ} : Bk 166 9 kc ks ls st w Q = wp Bk 166 [] (0, 0) (some .int) Q c166_9 kc ks ls st w := eS ⟨rfl, rfl⟩
theorem e166_11 {kc ks : Nat} {ls st : List Value} {w : AW} {Q : AQ} : Bk 166 11 kc ks ls st w Q = wp Bk 166 [] (0, 0) (some .int) Q c166_11 kc ks ls st w := eS ⟨rfl, rfl⟩
theorem e166_13 {kc ks : Nat} {ls st : List Value} {w : AW} {Q : AQ} : Bk 166 13 kc ks ls st w Q = wp Bk 166 [] (0, 0) (some .int) Q c166_13 kc ks ls st w := eS ⟨rfl, rfl⟩
theorem e167_0 {kc ks : Nat} {ls st : List Value} {w : AW} {Q : AQ} : Bk 167 0 kc ks ls st w Q = wp Bk 167 [] (0, 0) (none) Q c167_0 kc ks ls st w := eS ⟨rfl, rfl⟩
theorem e168_0 {kc ks : Nat} {ls st : List Value} {w : AW} {Q : AQ} : Bk 168 0 kc ks ls st w Q = wp Bk 168 [] (0, 0) (some .int) Q c168_0 kc ks ls st w := eS ⟨rfl, rfl⟩
theorem e168_4 {kc ks : Nat} {ls st : List Value} {w : AW} {Q : AQ} : Bk 168 4 kc ks ls st w Q = wp Bk 168 [] (0, 0) (some .int) Q c168_4 kc ks ls st w := eS ⟨rfl, rfl⟩
theorem e168_41 {kc ks : Nat} {ls st : List Value} {w : AW} {Q : AQ} : Bk 168 41 kc ks ls st w Q = wp Bk 168 [] (0, 0) (some .int) Q c168_41 kc ks ls st w := eS ⟨rfl, rfl⟩
theorem e168_45 {kc ks : Nat} {ls st : List Value} {w : AW} {Q : AQ} : Bk 168 45 kc ks ls st w Q = wp Bk 168 [] (0, 0) (some .int) Q c168_45 kc ks ls st w := eS ⟨rfl, rfl⟩
theorem e168_47 {kc ks : Nat} {ls st : List Value} {w : AW} {Q : AQ} : Bk 168 47 kc ks ls st w Q = wp Bk 168 [] (0, 0) (some .int) Q c168_47 kc ks ls st w := eS ⟨rfl, rfl⟩
theorem e169_0 {kc ks : Nat} {ls st : List Value} {w : AW} {Q : AQ} : Bk 169 0 kc ks ls st w Q = wp Bk 169 [] (0, 0) (some .int) Q c169_0 kc ks ls st w := eS ⟨rfl, rfl⟩
theorem e170_0 {kc ks : Nat} {ls st : List Value} {w : AW} {Q : AQ} : Bk 170 0 kc ks ls st w Q = wp Bk 170 [] (0, 0) (some .int) Q c170_0 kc ks ls st w := eS ⟨k170_0, rfl⟩
theorem e170_28 {kc ks : Nat} {ls st : List Value} {w : AW} {Q : AQ} : Bk 170 28 kc ks ls st w Q = wp Bk 170 [] (0, 0) (some .int) Q c170_28 kc ks ls st w := eS ⟨k170_28, rfl⟩
theorem e170_33 {kc ks : Nat} {ls st : List Value} {w : AW} {Q : AQ} : Bk 170 33 kc ks ls st w Q = wp Bk 170 [] (0, 0) (some .int) Q c170_33 kc ks ls st w := eS ⟨k170_33, rfl⟩
theorem e170_34 {kc ks : Nat} {ls st : List Value} {w : AW} {Q : AQ} : Bk 170 34 kc ks ls st w Q = wp Bk 170 [] (0, 0) (some .int) Q c170_34 kc ks ls st w := eS ⟨k170_34, rfl⟩
theorem e170_54 {kc ks : Nat} {ls st : List Value} {w : AW} {Q : AQ} : Bk 170 54 kc ks ls st w Q = wp Bk 170 [] (0, 0) (some .int) Q c170_54 kc ks ls st w := eS ⟨k170_54, rfl⟩
theorem e170_59 {kc ks : Nat} {ls st : List Value} {w : AW} {Q : AQ} : Bk 170 59 kc ks ls st w Q = wp Bk 170 [] (0, 0) (some .int) Q c170_59 kc ks ls st w := eS ⟨k170_59, rfl⟩
theorem e170_60 {kc ks : Nat} {ls st : List Value} {w : AW} {Q : AQ} : Bk 170 60 kc ks ls st w Q = wp Bk 170 [] (0, 0) (some .int) Q c170_60 kc ks ls st w := eS ⟨k170_60, rfl⟩
theorem e170_79 {kc ks : Nat} {ls st : List Value} {w : AW} {Q : AQ} : Bk 170 79 kc ks ls st w Q = wp Bk 170 [] (0, 0) (some .int) Q c170_79 kc ks ls st w := eS ⟨k170_79, rfl⟩
theorem e170_80 {kc ks : Nat} {ls st : List Value} {w : AW} {Q : AQ} : Bk 170 80 kc ks ls st w Q = wp Bk 170 [] (0, 0) (some .int) Q c170_80 kc ks ls st w := eS ⟨k170_80, rfl⟩
theorem e171_0 {kc ks : Nat} {ls st : List Value} {w : AW} {Q : AQ} : Bk 171 0 kc ks ls st w Q = wp Bk 171 [] (0, 0) (some .int) Q c171_0 kc ks ls st w := eS ⟨k171_0, rfl⟩
theorem e171_16 {kc ks : Nat} {ls st : List Value} {w : AW} {Q : AQ} : Bk 171 16 kc ks ls st w Q = wp Bk 171 [] (0, 0) (some .int) Q c171_16 kc ks ls st w := eS ⟨k171_16, rfl⟩
theorem e171_53 {kc ks : Nat} {ls st : List Value} {w : AW} {Q : AQ} : Bk 171 53 kc ks ls st w Q = wp Bk 171 [] (0, 0) (some .int) Q c171_53 kc ks ls st w := eS ⟨k171_53, rfl⟩
theorem e171_66 {kc ks : Nat} {ls st : List Value} {w : AW} {Q : AQ} : Bk 171 66 kc ks ls st w Q = wp Bk 171 [] (0, 0) (some .int) Q c171_66 kc ks ls st w := eS ⟨k171_66, rfl⟩
theorem e171_68 {kc ks : Nat} {ls st : List Value} {w : AW} {Q : AQ} : Bk 171 68 kc ks ls st w Q = wp Bk 171 [] (0, 0) (some .int) Q c171_68 kc ks ls st w := eS ⟨k171_68, rfl⟩
theorem e172_0 {kc ks : Nat} {ls st : List Value} {w : AW} {Q : AQ} : Bk 172 0 kc ks ls st w Q = wp Bk 172 [] (0, 0) (some .int) Q c172_0 kc ks ls st w := eS ⟨rfl, rfl⟩
theorem e173_0 {kc ks : Nat} {ls st : List Value} {w : AW} {Q : AQ} : Bk 173 0 kc ks ls st w Q = wp Bk 173 [] (0, 0) (some .int) Q c173_0 kc ks ls st w := eS ⟨rfl, rfl⟩
theorem e174_0 {kc ks : Nat} {ls st : List Value} {w : AW} {Q : AQ} : Bk 174 0 kc ks ls st w Q = wp Bk 174 [] (1, 6) (some .int) Q c174_0 kc ks ls st w := eS ⟨rfl, rfl⟩
theorem e175_0 {kc ks : Nat} {ls st : List Value} {w : AW} {Q : AQ} : Bk 175 0 kc ks ls st w Q = wp Bk 175 [("java/lang/IndexOutOfBoundsException", 9, 3)] (1, 6) (some .int) Q c175_0 kc ks ls st w := eS ⟨rfl, rfl⟩
theorem e175_9 {kc ks : Nat} {ls st : List Value} {w : AW} {Q : AQ} : Bk 175 9 kc ks ls st w Q = wp Bk 175 [("java/lang/IndexOutOfBoundsException", 9, 3)] (1, 6) (some .int) Q c175_9 kc ks ls st w := eS ⟨rfl, rfl⟩
theorem e175_11 {kc ks : Nat} {ls st : List Value} {w : AW} {Q : AQ} : Bk 175 11 kc ks ls st w Q = wp Bk 175 [("java/lang/IndexOutOfBoundsException", 9, 3)] (1, 6) (some .int) Q c175_11 kc ks ls st w := eS ⟨rfl, rfl⟩
theorem e176_0 {kc ks : Nat} {ls st : List Value} {w : AW} {Q : AQ} : Bk 176 0 kc ks ls st w Q = wp Bk 176 [] (0, 0) (some .int) Q c176_0 kc ks ls st w := eS ⟨rfl, rfl⟩
theorem e176_6 {kc ks : Nat} {ls st : List Value} {w : AW} {Q : AQ} : Bk 176 6 kc ks ls st w Q = wp Bk 176 [] (0, 0) (some .int) Q c176_6 kc ks ls st w := eS ⟨rfl, rfl⟩
theorem e176_19 {kc ks : Nat} {ls st : List Value} {w : AW} {Q : AQ} : Bk 176 19 kc ks ls st w Q = wp Bk 176 [] (0, 0) (some .int) Q c176_19 kc ks ls st w := eS ⟨rfl, rfl⟩
theorem e177_0 {kc ks : Nat} {ls st : List Value} {w : AW} {Q : AQ} : Bk 177 0 kc ks ls st w Q = wp Bk 177 [] (1, 6) (some .int) Q c177_0 kc ks ls st w := eS ⟨rfl, rfl⟩
theorem e178_0 {kc ks : Nat} {ls st : List Value} {w : AW} {Q : AQ} : Bk 178 0 kc ks ls st w Q = wp Bk 178 [("java/lang/IndexOutOfBoundsException", 9, 3)] (1, 6) (some .int) Q c178_0 kc ks ls st w := eS ⟨rfl, rfl⟩
theorem e178_9 {kc ks : Nat} {ls st : List Value} {w : AW} {Q : AQ} : Bk 178 9 kc ks ls st w Q = wp Bk 178 [("java/lang/IndexOutOfBoundsException", 9, 3)] (1, 6) (some .int) Q c178_9 kc ks ls st w := eS ⟨rfl, rfl⟩
theorem e178_11 {kc ks : Nat} {ls st : List Value} {w : AW} {Q : AQ} : Bk 178 11 kc ks ls st w Q = wp Bk 178 [("java/lang/IndexOutOfBoundsException", 9, 3)] (1, 6) (some .int) Q c178_11 kc ks ls st w := eS ⟨rfl, rfl⟩
theorem e179_0 {kc ks : Nat} {ls st : List Value} {w : AW} {Q : AQ} : Bk 179 0 kc ks ls st w Q = wp Bk 179 [] (0, 0) (some .int) Q c179_0 kc ks ls st w := eS ⟨rfl, rfl⟩
theorem e179_6 {kc ks : Nat} {ls st : List Value} {w : AW} {Q : AQ} : Bk 179 6 kc ks ls st w Q = wp Bk 179 [] (0, 0) (some .int) Q c179_6 kc ks ls st w := eS ⟨rfl, rfl⟩
theorem e179_19 {kc ks : Nat} {ls st : List Value} {w : AW} {Q : AQ} : Bk 179 19 kc ks ls st w Q = wp Bk 179 [] (0, 0) (some .int) Q c179_19 kc ks ls st w := eS ⟨rfl, rfl⟩
theorem e180_0 {kc ks : Nat} {ls st : List Value} {w : AW} {Q : AQ} : Bk 180 0 kc ks ls st w Q = wp Bk 180 [] (1, 6) (some .char) Q c180_0 kc ks ls st w := eS ⟨rfl, rfl⟩
theorem e181_0 {kc ks : Nat} {ls st : List Value} {w : AW} {Q : AQ} : Bk 181 0 kc ks ls st w Q = wp Bk 181 [("java/lang/IndexOutOfBoundsException", 9, 3)] (1, 6) (some .int) Q c181_0 kc ks ls st w := eS ⟨rfl, rfl⟩
theorem e181_9 {kc ks : Nat} {ls st : List Value} {w : AW} {Q : AQ} : Bk 181 9 kc ks ls st w Q = wp Bk 181 [("java/lang/IndexOutOfBoundsException", 9, 3)] (1, 6) (some .int) Q c181_9 kc ks ls st w := eS ⟨rfl, rfl⟩
theorem e181_11 {kc ks : Nat} {ls st : List Value} {w : AW} {Q : AQ} : Bk 181 11 kc ks ls st w Q = wp Bk 181 [("java/lang/IndexOutOfBoundsException", 9, 3)] (1, 6) (some .int) Q c181_11 kc ks ls st w := eS ⟨rfl, rfl⟩
theorem e182_0 {kc ks : Nat} {ls st : List Value} {w : AW} {Q : AQ} : Bk 182 0 kc ks ls st w Q = wp Bk 182 [] (0, 0) (some .char) Q c182_0 kc ks ls st w := eS ⟨rfl, rfl⟩
theorem e182_6 {kc ks : Nat} {ls st : List Value} {w : AW} {Q : AQ} : Bk 182 6 kc ks ls st w Q = wp Bk 182 [] (0, 0) (some .char) Q c182_6 kc ks ls st w := eS ⟨rfl, rfl⟩
theorem e182_21 {kc ks : Nat} {ls st : List Value} {w : AW} {Q : AQ} : Bk 182 21 kc ks ls st w Q = wp Bk 182 [] (0, 0) (some .char) Q c182_21 kc ks ls st w := eS ⟨rfl, rfl⟩
theorem e182_26 {kc ks : Nat} {ls st : List Value} {w : AW} {Q : AQ} : Bk 182 26 kc ks ls st w Q = wp Bk 182 [] (0, 0) (some .char) Q c182_26 kc ks ls st w := eS ⟨rfl, rfl⟩
theorem e182_31 {kc ks : Nat} {ls st : List Value} {w : AW} {Q : AQ} : Bk 182 31 kc ks ls st w Q = wp Bk 182 [] (0, 0) (some .char) Q c182_31 kc ks ls st w := eS ⟨rfl, rfl⟩
theorem e182_32 {kc ks : Nat} {ls st : List Value} {w : AW} {Q : AQ} : Bk 182 32 kc ks ls st w Q = wp Bk 182 [] (0, 0) (some .char) Q c182_32 kc ks ls st w := eS ⟨rfl, rfl⟩
theorem e183_0 {kc ks : Nat} {ls st : List Value} {w : AW} {Q : AQ} : Bk 183 0 kc ks ls st w Q = wp Bk 183 [] (2, 12) (some .int) Q c183_0 kc ks ls st w := eS ⟨rfl, rfl⟩
theorem e183_16 {kc ks : Nat} {ls st : List Value} {w : AW} {Q : AQ} : Bk 183 16 kc ks ls st w Q = wp Bk 183 [] (2, 12) (some .int) Q c183_16 kc ks ls st w := eS ⟨rfl, rfl⟩
theorem e184_0 {kc ks : Nat} {ls st : List Value} {w : AW} {Q : AQ} : Bk 184 0 kc ks ls st w Q = wp Bk 184 [("java/lang/IndexOutOfBoundsException", 10, 4), ("java/util/NoSuchElementException", 13, 4)] (2, 12) (some .int) Q c184_0 kc ks ls st w := eS ⟨rfl, rfl⟩
theorem e184_10 {kc ks : Nat} {ls st : List Value} {w : AW} {Q : AQ} : Bk 184 10 kc ks ls st w Q = wp Bk 184 [("java/lang/IndexOutOfBoundsException", 10, 4), ("java/util/NoSuchElementException", 13, 4)] (2, 12) (some .int) Q c184_10 kc ks ls st w := eS ⟨rfl, rfl⟩
theorem e184_13 {kc ks : Nat} {ls st : List Value} {w : AW} {Q : AQ} : Bk 184 13 kc ks ls st w Q = wp Bk 184 [("java/lang/IndexOutOfBoundsException", 10, 4), ("java/util/NoSuchElementException", 13, 4)] (2, 12) (some .int) Q c184_13 kc ks ls st w := eS ⟨rfl, rfl⟩
theorem e184_15 {kc ks : Nat} {ls st : List Value} {w : AW} {Q : AQ} : Bk 184 15 kc ks ls st w Q = wp Bk 184 [("java/lang/IndexOutOfBoundsException", 10, 4), ("java/util/NoSuchElementException", 13, 4)] (2, 12) (some .int) Q c184_15 kc ks ls st w := eS ⟨rfl, rfl⟩
theorem e185_0 {kc ks : Nat} {ls st : List Value} {w : AW} {Q : AQ} : Bk 185 0 kc ks ls st w Q = wp Bk 185 [] (0, 0) (some .int) Q c185_0 kc ks ls st w := eS ⟨rfl, rfl⟩
theorem e185_8 {kc ks : Nat} {ls st : List Value} {w : AW} {Q : AQ} : Bk 185 8 kc ks ls st w Q = wp Bk 185 [] (0, 0) (some .int) Q c185_8 kc ks ls st w := eS ⟨rfl, rfl⟩
theorem e185_17 {kc ks : Nat} {ls st : List Value} {w : AW} {Q : AQ} : Bk 185 17 kc ks ls st w Q = wp Bk 185 [] (0, 0) (some .int) Q c185_17 kc ks ls st w := eS ⟨rfl, rfl⟩
theorem e185_18 {kc ks : Nat} {ls st : List Value} {w : AW} {Q : AQ} : Bk 185 18 kc ks ls st w Q = wp Bk 185 [] (0, 0) (some .int) Q c185_18 kc ks ls st w := eS ⟨rfl, rfl⟩
theorem e185_22 {kc ks : Nat} {ls st : List Value} {w : AW} {Q : AQ} : Bk 185 22 kc ks ls st w Q = wp Bk 185 [] (0, 0) (some .int) Q c185_22 kc ks ls st w := eS ⟨rfl, rfl⟩
theorem e185_28 {kc ks : Nat} {ls st : List Value} {w : AW} {Q : AQ} : Bk 185 28 kc ks ls st w Q = wp Bk 185 [] (0, 0) (some .int) Q c185_28 kc ks ls st w := eS ⟨rfl, rfl⟩
theorem e186_0 {kc ks : Nat} {ls st : List Value} {w : AW} {Q : AQ} : Bk 186 0 kc ks ls st w Q = wp Bk 186 [] (0, 0) (some .int) Q c186_0 kc ks ls st w := eS ⟨rfl, rfl⟩
theorem e187_0 {kc ks : Nat} {ls st : List Value} {w : AW} {Q : AQ} : Bk 187 0 kc ks ls st w Q = wp Bk 187 [] (0, 0) (some .int) Q c187_0 kc ks ls st w := eS ⟨rfl, rfl⟩
theorem e188_0 {kc ks : Nat} {ls st : List Value} {w : AW} {Q : AQ} : Bk 188 0 kc ks ls st w Q = wp Bk 188 [] (0, 0) (none) Q c188_0 kc ks ls st w := eS ⟨rfl, rfl⟩
theorem e188_18 {kc ks : Nat} {ls st : List Value} {w : AW} {Q : AQ} : Bk 188 18 kc ks ls st w Q = wp Bk 188 [] (0, 0) (none) Q c188_18 kc ks ls st w := eS ⟨rfl, rfl⟩
theorem e189_0 {kc ks : Nat} {ls st : List Value} {w : AW} {Q : AQ} : Bk 189 0 kc ks ls st w Q = wp Bk 189 [] (1, 6) (some .int) Q c189_0 kc ks ls st w := eS ⟨rfl, rfl⟩
theorem e189_8 {kc ks : Nat} {ls st : List Value} {w : AW} {Q : AQ} : Bk 189 8 kc ks ls st w Q = wp Bk 189 [] (1, 6) (some .int) Q c189_8 kc ks ls st w := eS ⟨rfl, rfl⟩
theorem e189_26 {kc ks : Nat} {ls st : List Value} {w : AW} {Q : AQ} : Bk 189 26 kc ks ls st w Q = wp Bk 189 [] (1, 6) (some .int) Q c189_26 kc ks ls st w := eS ⟨rfl, rfl⟩
theorem e189_27 {kc ks : Nat} {ls st : List Value} {w : AW} {Q : AQ} : Bk 189 27 kc ks ls st w Q = wp Bk 189 [] (1, 6) (some .int) Q c189_27 kc ks ls st w := eS ⟨rfl, rfl⟩
theorem e189_37 {kc ks : Nat} {ls st : List Value} {w : AW} {Q : AQ} : Bk 189 37 kc ks ls st w Q = wp Bk 189 [] (1, 6) (some .int) Q c189_37 kc ks ls st w := eS ⟨rfl, rfl⟩
theorem e189_39 {kc ks : Nat} {ls st : List Value} {w : AW} {Q : AQ} : Bk 189 39 kc ks ls st w Q = wp Bk 189 [] (1, 6) (some .int) Q c189_39 kc ks ls st w := eS ⟨rfl, rfl⟩
theorem e190_0 {kc ks : Nat} {ls st : List Value} {w : AW} {Q : AQ} : Bk 190 0 kc ks ls st w Q = wp Bk 190 [("java/lang/IndexOutOfBoundsException", 9, 3)] (1, 6) (some .int) Q c190_0 kc ks ls st w := eS ⟨rfl, rfl⟩
theorem e190_9 {kc ks : Nat} {ls st : List Value} {w : AW} {Q : AQ} : Bk 190 9 kc ks ls st w Q = wp Bk 190 [("java/lang/IndexOutOfBoundsException", 9, 3)] (1, 6) (some .int) Q c190_9 kc ks ls st w := eS ⟨rfl, rfl⟩
theorem e190_11 {kc ks : Nat} {ls st : List Value} {w : AW} {Q : AQ} : Bk 190 11 kc ks ls st w Q = wp Bk 190 [("java/lang/IndexOutOfBoundsException", 9, 3)] (1, 6) (some .int) Q c190_11 kc ks ls st w := eS ⟨rfl, rfl⟩
theorem e191_0 {kc ks : Nat} {ls st : List Value} {w : AW} {Q : AQ} : Bk 191 0 kc ks ls st w Q = wp Bk 191 [] (0, 0) (none) Q c191_0 kc ks ls st w := eS ⟨rfl, rfl⟩
theorem e192_0 {kc ks : Nat} {ls st : List Value} {w : AW} {Q : AQ} : Bk 192 0 kc ks ls st w Q = wp Bk 192 [] (0, 0) (some .int) Q c192_0 kc ks ls st w := eS ⟨k192_0, rfl⟩
theorem e192_13 {kc ks : Nat} {ls st : List Value} {w : AW} {Q : AQ} : Bk 192 13 kc ks ls st w Q = wp Bk 192 [] (0, 0) (some .int) Q c192_13 kc ks ls st w := eS ⟨k192_13, rfl⟩
theorem e192_14 {kc ks : Nat} {ls st : List Value} {w : AW} {Q : AQ} : Bk 192 14 kc ks ls st w Q = wp Bk 192 [] (0, 0) (some .int) Q c192_14 kc ks ls st w := eS ⟨k192_14, rfl⟩
theorem e192_18 {kc ks : Nat} {ls st : List Value} {w : AW} {Q : AQ} : Bk 192 18 kc ks ls st w Q = wp Bk 192 [] (0, 0) (some .int) Q c192_18 kc ks ls st w := eS ⟨k192_18, rfl⟩
theorem e192_26 {kc ks : Nat} {ls st : List Value} {w : AW} {Q : AQ} : Bk 192 26 kc ks ls st w Q = wp Bk 192 [] (0, 0) (some .int) Q c192_26 kc ks ls st w := eS ⟨k192_26, rfl⟩
theorem e192_44 {kc ks : Nat} {ls st : List Value} {w : AW} {Q : AQ} : Bk 192 44 kc ks ls st w Q = wp Bk 192 [] (0, 0) (some .int) Q c192_44 kc ks ls st w := eS ⟨k192_44, rfl⟩
theorem e192_45 {kc ks : Nat} {ls st : List Value} {w : AW} {Q : AQ} : Bk 192 45 kc ks ls st w Q = wp Bk 192 [] (0, 0) (some .int) Q c192_45 kc ks ls st w := eS ⟨k192_45, rfl⟩
theorem e192_61 {kc ks : Nat} {ls st : List Value} {w : AW} {Q : AQ} : Bk 192 61 kc ks ls st w Q = wp Bk 192 [] (0, 0) (some .int) Q c192_61 kc ks ls st w := eS ⟨k192_61, rfl⟩
theorem e192_63 {kc ks : Nat} {ls st : List Value} {w : AW} {Q : AQ} : Bk 192 63 kc ks ls st w Q = wp Bk 192 [] (0, 0) (some .int) Q c192_63 kc ks ls st w := eS ⟨k192_63, rfl⟩
theorem e193_0 {kc ks : Nat} {ls st : List Value} {w : AW} {Q : AQ} : Bk 193 0 kc ks ls st w Q = wp Bk 193 [] (1, 6) (some .char) Q c193_0 kc ks ls st w := eS ⟨rfl, rfl⟩
theorem e193_6 {kc ks : Nat} {ls st : List Value} {w : AW} {Q : AQ} : Bk 193 6 kc ks ls st w Q = wp Bk 193 [] (1, 6) (some .char) Q c193_6 kc ks ls st w := eS ⟨rfl, rfl⟩
theorem e193_7 {kc ks : Nat} {ls st : List Value} {w : AW} {Q : AQ} : Bk 193 7 kc ks ls st w Q = wp Bk 193 [] (1, 6) (some .char) Q c193_7 kc ks ls st w := eS ⟨rfl, rfl⟩
theorem e194_0 {kc ks : Nat} {ls st : List Value} {w : AW} {Q : AQ} : Bk 194 0 kc ks ls st w Q = wp Bk 194 [("java/lang/IndexOutOfBoundsException", 9, 3)] (1, 6) (some .int) Q c194_0 kc ks ls st w := eS ⟨rfl, rfl⟩
theorem e194_9 {kc ks : Nat} {ls st : List Value} {w : AW} {Q : AQ} : Bk 194 9 kc ks ls st w Q = wp Bk 194 [("java/lang/IndexOutOfBoundsException", 9, 3)] (1, 6) (some .int) Q c194_9 kc ks ls st w := eS ⟨rfl, rfl⟩
theorem e194_11 {kc ks : Nat} {ls st : List Value} {w : AW} {Q : AQ} : Bk 194 11 kc ks ls st w Q = wp Bk 194 [("java/lang/IndexOutOfBoundsException", 9, 3)] (1, 6) (some .int) Q c194_11 kc ks ls st w := eS ⟨rfl, rfl⟩
theorem e195_0 {kc ks : Nat} {ls st : List Value} {w : AW} {Q : AQ} : Bk 195 0 kc ks ls st w Q = wp Bk 195 [] (0, 0) (some .char) Q c195_0 kc ks ls st w := eS ⟨rfl, rfl⟩
theorem e195_11 {kc ks : Nat} {ls st : List Value} {w : AW} {Q : AQ} : Bk 195 11 kc ks ls st w Q = wp Bk 195 [] (0, 0) (some .char) Q c195_11 kc ks ls st w := eS ⟨rfl, rfl⟩
theorem e195_12 {kc ks : Nat} {ls st : List Value} {w : AW} {Q : AQ} : Bk 195 12 kc ks ls st w Q = wp Bk 195 [] (0, 0) (some .char) Q c195_12 kc ks ls st w := eS ⟨rfl, rfl⟩
theorem e195_16 {kc ks : Nat} {ls st : List Value} {w : AW} {Q : AQ} : Bk 195 16 kc ks ls st w Q = wp Bk 195 [] (0, 0) (some .char) Q c195_16 kc ks ls st w := eS ⟨rfl, rfl⟩
theorem e195_20 {kc ks : Nat} {ls st : List Value} {w : AW} {Q : AQ} : Bk 195 20 kc ks ls st w Q = wp Bk 195 [] (0, 0) (some .char) Q c195_20 kc ks ls st w := eS ⟨rfl, rfl⟩
theorem e196_0 {kc ks : Nat} {ls st : List Value} {w : AW} {Q : AQ} : Bk 196 0 kc ks ls st w Q = wp Bk 196 [] (0, 0) (some .double) Q c196_0 kc ks ls st w := eS ⟨rfl, rfl⟩
theorem e196_4 {kc ks : Nat} {ls st : List Value} {w : AW} {Q : AQ} : Bk 196 4 kc ks ls st w Q = wp Bk 196 [] (0, 0) (some .double) Q c196_4 kc ks ls st w := eS ⟨rfl, rfl⟩
theorem e196_17 {kc ks : Nat} {ls st : List Value} {w : AW} {Q : AQ} : Bk 196 17 kc ks ls st w Q = wp Bk 196 [] (0, 0) (some .double) Q c196_17 kc ks ls st w := eS ⟨rfl, rfl⟩
theorem e197_0 {kc ks : Nat} {ls st : List Value} {w : AW} {Q : AQ} : Bk 197 0 kc ks ls st w Q = wp Bk 197 [] (0, 0) (some .double) Q c197_0 kc ks ls st w := eS ⟨rfl, rfl⟩
theorem e197_7 {kc ks : Nat} {ls st : List Value} {w : AW} {Q : AQ} : Bk 197 7 kc ks ls st w Q = wp Bk 197 [] (0, 0) (some .double) Q c197_7 kc ks ls st w := eS ⟨rfl, rfl⟩
theorem e197_22 {kc ks : Nat} {ls st : List Value} {w : AW} {Q : AQ} : Bk 197 22 kc ks ls st w Q = wp Bk 197 [] (0, 0) (some .double) Q c197_22 kc ks ls st w := eS ⟨rfl, rfl⟩
theorem e198_0 {kc ks : Nat} {ls st : List Value} {w : AW} {Q : AQ} : Bk 198 0 kc ks ls st w Q = wp Bk 198 [] (0, 0) (some .float) Q c198_0 kc ks ls st w := eS ⟨rfl, rfl⟩
theorem e199_0 {kc ks : Nat} {ls st : List Value} {w : AW} {Q : AQ} : Bk 199 0 kc ks ls st w Q = wp Bk 199 [] (0, 0) (some .float) Q c199_0 kc ks ls st w := eS ⟨rfl, rfl⟩
theorem e200_0 {kc ks : Nat} {ls st : List Value} {w : AW} {Q : AQ} : Bk 200 0 kc ks ls st w Q = wp Bk 200 [] (0, 0) (some .boolean) Q c200_0 kc ks ls st w := eS ⟨rfl, rfl⟩
theorem e200_2 {kc ks : Nat} {ls st : List Value} {w : AW} {Q : AQ} : Bk 200 2 kc ks ls st w Q = wp Bk 200 [] (0, 0) (some .boolean) Q c200_2 kc ks ls st w := eS ⟨rfl, rfl⟩
theorem e200_16 {kc ks : Nat} {ls st : List Value} {w : AW} {Q : AQ} : Bk 200 16 kc ks ls st w Q = wp Bk 200 [] (0, 0) (some .boolean) Q c200_16 kc ks ls st w := eS ⟨rfl, rfl⟩
theorem e200_18 {kc ks : Nat} {ls st : List Value} {w : AW} {Q : AQ} : Bk 200 18 kc ks ls st w Q = wp Bk 200 [] (0, 0) (some .boolean) Q c200_18 kc ks ls st w := eS ⟨rfl, rfl⟩
theorem e201_0 {kc ks : Nat} {ls st : List Value} {w : AW} {Q : AQ} : Bk 201 0 kc ks ls st w Q = wp Bk 201 [] (0, 0) (some .boolean) Q c201_0 kc ks ls st w := eS ⟨rfl, rfl⟩
theorem e201_25 {kc ks : Nat} {ls st : List Value} {w : AW} {Q : AQ} : Bk 201 25 kc ks ls st w Q = wp Bk 201 [] (0, 0) (some .boolean) Q c201_25 kc ks ls st w := eS ⟨rfl, rfl⟩
theorem e201_26 {kc ks : Nat} {ls st : List Value} {w : AW} {Q : AQ} : Bk 201 26 kc ks ls st w Q = wp Bk 201 [] (0, 0) (some .boolean) Q c201_26 kc ks ls st w := eS ⟨rfl, rfl⟩
theorem e202_0 {kc ks : Nat} {ls st : List Value} {w : AW} {Q : AQ} : Bk 202 0 kc ks ls st w Q = wp Bk 202 [] (0, 0) (some .boolean) Q c202_0 kc ks ls st w := eS ⟨rfl, rfl⟩
theorem e203_0 {kc ks : Nat} {ls st : List Value} {w : AW} {Q : AQ} : Bk 203 0 kc ks ls st w Q = wp Bk 203 [] (0, 0) (none) Q c203_0 kc ks ls st w := eS ⟨rfl, rfl⟩
theorem e203_16 {kc ks : Nat} {ls st : List Value} {w : AW} {Q : AQ} : Bk 203 16 kc ks ls st w Q = wp Bk 203 [] (0, 0) (none) Q c203_16 kc ks ls st w := eS ⟨rfl, rfl⟩
theorem e204_0 {kc ks : Nat} {ls st : List Value} {w : AW} {Q : AQ} : Bk 204 0 kc ks ls st w Q = wp Bk 204 [] (1, 6) (some .int) Q c204_0 kc ks ls st w := eS ⟨rfl, rfl⟩
theorem e204_6 {kc ks : Nat} {ls st : List Value} {w : AW} {Q : AQ} : Bk 204 6 kc ks ls st w Q = wp Bk 204 [] (1, 6) (some .int) Q c204_6 kc ks ls st w := eS ⟨rfl, rfl⟩
theorem e204_7 {kc ks : Nat} {ls st : List Value} {w : AW} {Q : AQ} : Bk 204 7 kc ks ls st w Q = wp Bk 204 [] (1, 6) (some .int) Q c204_7 kc ks ls st w := eS ⟨rfl, rfl⟩
theorem e204_13 {kc ks : Nat} {ls st : List Value} {w : AW} {Q : AQ} : Bk 204 13 kc ks ls st w Q = wp Bk 204 [] (1, 6) (some .int) Q c204_13 kc ks ls st w := eS ⟨rfl, rfl⟩
theorem e205_0 {kc ks : Nat} {ls st : List Value} {w : AW} {Q : AQ} : Bk 205 0 kc ks ls st w Q = wp Bk 205 [("java/lang/IllegalArgumentException", 9, 3), ("java/lang/IllegalStateException", 12, 3)] (1, 6) (some .int) Q c205_0 kc ks ls st w := eS ⟨rfl, rfl⟩
theorem e205_9 {kc ks : Nat} {ls st : List Value} {w : AW} {Q : AQ} : Bk 205 9 kc ks ls st w Q = wp Bk 205 [("java/lang/IllegalArgumentException", 9, 3), ("java/lang/IllegalStateException", 12, 3)] (1, 6) (some .int) Q c205_9 kc ks ls st w := eS ⟨rfl, rfl⟩
theorem e205_12 {kc ks : Nat} {ls st : List Value} {w : AW} {Q : AQ} : Bk 205 12 kc ks ls st w Q = wp Bk 205 [("java/lang/IllegalArgumentException", 9, 3), ("java/lang/IllegalStateException", 12, 3)] (1, 6) (some .int) Q c205_12 kc ks ls st w := eS ⟨rfl, rfl⟩
theorem e205_14 {kc ks : Nat} {ls st : List Value} {w : AW} {Q : AQ} : Bk 205 14 kc ks ls st w Q = wp Bk 205 [("java/lang/IllegalArgumentException", 9, 3), ("java/lang/IllegalStateException", 12, 3)] (1, 6) (some .int) Q c205_14 kc ks ls st w := eS ⟨rfl, rfl⟩
theorem e206_0 {kc ks : Nat} {ls st : List Value} {w : AW} {Q : AQ} : Bk 206 0 kc ks ls st w Q = wp Bk 206 [] (0, 0) (some .int) Q c206_0 kc ks ls st w := eS ⟨rfl, rfl⟩
theorem e206_8 {kc ks : Nat} {ls st : List Value} {w : AW} {Q : AQ} : Bk 206 8 kc ks ls st w Q = wp Bk 206 [] (0, 0) (some .int) Q c206_8 kc ks ls st w := eS ⟨rfl, rfl⟩
theorem e206_14 {kc ks : Nat} {ls st : List Value} {w : AW} {Q : AQ} : Bk 206 14 kc ks ls st w Q = wp Bk 206 [] (0, 0) (some .int) Q c206_14 kc ks ls st w := eS ⟨rfl, rfl⟩
theorem e206_15 {kc ks : Nat} {ls st : List Value} {w : AW} {Q : AQ} : Bk 206 15 kc ks ls st w Q = wp Bk 206 [] (0, 0) (some .int) Q c206_15 kc ks ls st w := eS ⟨rfl, rfl⟩
theorem e206_19 {kc ks : Nat} {ls st : List Value} {w : AW} {Q : AQ} : Bk 206 19 kc ks ls st w Q = wp Bk 206 [] (0, 0) (some .int) Q c206_19 kc ks ls st w := eS ⟨rfl, rfl⟩
theorem e207_0 {kc ks : Nat} {ls st : List Value} {w : AW} {Q : AQ} : Bk 207 0 kc ks ls st w Q = wp Bk 207 [] (0, 0) (some .char) Q c207_0 kc ks ls st w := eS ⟨rfl, rfl⟩
theorem e207_11 {kc ks : Nat} {ls st : List Value} {w : AW} {Q : AQ} : Bk 207 11 kc ks ls st w Q = wp Bk 207 [] (0, 0) (some .char) Q c207_11 kc ks ls st w := eS ⟨rfl, rfl⟩
theorem e207_12 {kc ks : Nat} {ls st : List Value} {w : AW} {Q : AQ} : Bk 207 12 kc ks ls st w Q = wp Bk 207 [] (0, 0) (some .char) Q c207_12 kc ks ls st w := eS ⟨rfl, rfl⟩
theorem e208_0 {kc ks : Nat} {ls st : List Value} {w : AW} {Q : AQ} : Bk 208 0 kc ks ls st w Q = wp Bk 208 [] (0, 0) (some .boolean) Q c208_0 kc ks ls st w := eS ⟨rfl, rfl⟩
theorem e208_2 {kc ks : Nat} {ls st : List Value} {w : AW} {Q : AQ} : Bk 208 2 kc ks ls st w Q = wp Bk 208 [] (0, 0) (some .boolean) Q c208_2 kc ks ls st w := eS ⟨rfl, rfl⟩
theorem e208_10 {kc ks : Nat} {ls st : List Value} {w : AW} {Q : AQ} : Bk 208 10 kc ks ls st w Q = wp Bk 208 [] (0, 0) (some .boolean) Q c208_10 kc ks ls st w := eS ⟨rfl, rfl⟩
theorem e208_11 {kc ks : Nat} {ls st : List Value} {w : AW} {Q : AQ} : Bk 208 11 kc ks ls st w Q = wp Bk 208 [] (0, 0) (some .boolean) Q c208_11 kc ks ls st w := eS ⟨rfl, rfl⟩
theorem e208_12 {kc ks : Nat} {ls st : List Value} {w : AW} {Q : AQ} : Bk 208 12 kc ks ls st w Q = wp Bk 208 [] (0, 0) (some .boolean) Q c208_12 kc ks ls st w := eS ⟨rfl, rfl⟩
theorem e208_18 {kc ks : Nat} {ls st : List Value} {w : AW} {Q : AQ} : Bk 208 18 kc ks ls st w Q = wp Bk 208 [] (0, 0) (some .boolean) Q c208_18 kc ks ls st w := eS ⟨rfl, rfl⟩
theorem e208_19 {kc ks : Nat} {ls st : List Value} {w : AW} {Q : AQ} : Bk 208 19 kc ks ls st w Q = wp Bk 208 [] (0, 0) (some .boolean) Q c208_19 kc ks ls st w := eS ⟨rfl, rfl⟩
theorem e208_20 {kc ks : Nat} {ls st : List Value} {w : AW} {Q : AQ} : Bk 208 20 kc ks ls st w Q = wp Bk 208 [] (0, 0) (some .boolean) Q c208_20 kc ks ls st w := eS ⟨rfl, rfl⟩
theorem e208_26 {kc ks : Nat} {ls st : List Value} {w : AW} {Q : AQ} : Bk 208 26 kc ks ls st w Q = wp Bk 208 [] (0, 0) (some .boolean) Q c208_26 kc ks ls st w := eS ⟨rfl, rfl⟩
theorem e208_27 {kc ks : Nat} {ls st : List Value} {w : AW} {Q : AQ} : Bk 208 27 kc ks ls st w Q = wp Bk 208 [] (0, 0) (some .boolean) Q c208_27 kc ks ls st w := eS ⟨rfl, rfl⟩
theorem e208_28 {kc ks : Nat} {ls st : List Value} {w : AW} {Q : AQ} : Bk 208 28 kc ks ls st w Q = wp Bk 208 [] (0, 0) (some .boolean) Q c208_28 kc ks ls st w := eS ⟨rfl, rfl⟩
theorem e208_33 {kc ks : Nat} {ls st : List Value} {w : AW} {Q : AQ} : Bk 208 33 kc ks ls st w Q = wp Bk 208 [] (0, 0) (some .boolean) Q c208_33 kc ks ls st w := eS ⟨rfl, rfl⟩
theorem e208_34 {kc ks : Nat} {ls st : List Value} {w : AW} {Q : AQ} : Bk 208 34 kc ks ls st w Q = wp Bk 208 [] (0, 0) (some .boolean) Q c208_34 kc ks ls st w := eS ⟨rfl, rfl⟩
theorem e209_0 {kc ks : Nat} {ls st : List Value} {w : AW} {Q : AQ} : Bk 209 0 kc ks ls st w Q = wp Bk 209 [] (0, 0) (some .int) Q c209_0 kc ks ls st w := eS ⟨rfl, rfl⟩
theorem e209_10 {kc ks : Nat} {ls st : List Value} {w : AW} {Q : AQ} : Bk 209 10 kc ks ls st w Q = wp Bk 209 [] (0, 0) (some .int) Q c209_10 kc ks ls st w := eS ⟨rfl, rfl⟩
theorem e209_25 {kc ks : Nat} {ls st : List Value} {w : AW} {Q : AQ} : Bk 209 25 kc ks ls st w Q = wp Bk 209 [] (0, 0) (some .int) Q c209_25 kc ks ls st w := eS ⟨rfl, rfl⟩
theorem e209_27 {kc ks : Nat} {ls st : List Value} {w : AW} {Q : AQ} : Bk 209 27 kc ks ls st w Q = wp Bk 209 [] (0, 0) (some .int) Q c209_27 kc ks ls st w := eS ⟨rfl, rfl⟩
theorem e210_0 {kc ks : Nat} {ls st : List Value} {w : AW} {Q : AQ} : Bk 210 0 kc ks ls st w Q = wp Bk 210 [] (0, 0) (some (.object "GlowwormGrid$CommandKind")) Q c210_0 kc ks ls st w := eS ⟨rfl, rfl⟩
theorem e210_2 {kc ks : Nat} {ls st : List Value} {w : AW} {Q : AQ} : Bk 210 2 kc ks ls st w Q = wp Bk 210 [] (0, 0) (some (.object "GlowwormGrid$CommandKind")) Q c210_2 kc ks ls st w := eS ⟨rfl, rfl⟩
theorem e210_23 {kc ks : Nat} {ls st : List Value} {w : AW} {Q : AQ} : Bk 210 23 kc ks ls st w Q = wp Bk 210 [] (0, 0) (some (.object "GlowwormGrid$CommandKind")) Q c210_23 kc ks ls st w := eS ⟨rfl, rfl⟩
theorem e210_25 {kc ks : Nat} {ls st : List Value} {w : AW} {Q : AQ} : Bk 210 25 kc ks ls st w Q = wp Bk 210 [] (0, 0) (some (.object "GlowwormGrid$CommandKind")) Q c210_25 kc ks ls st w := eS ⟨rfl, rfl⟩
theorem e211_0 {kc ks : Nat} {ls st : List Value} {w : AW} {Q : AQ} : Bk 211 0 kc ks ls st w Q = wp Bk 211 [] (0, 0) (some .int) Q c211_0 kc ks ls st w := eS ⟨rfl, rfl⟩
theorem e211_4 {kc ks : Nat} {ls st : List Value} {w : AW} {Q : AQ} : Bk 211 4 kc ks ls st w Q = wp Bk 211 [] (0, 0) (some .int) Q c211_4 kc ks ls st w := eS ⟨rfl, rfl⟩
theorem e211_20 {kc ks : Nat} {ls st : List Value} {w : AW} {Q : AQ} : Bk 211 20 kc ks ls st w Q = wp Bk 211 [] (0, 0) (some .int) Q c211_20 kc ks ls st w := eS ⟨rfl, rfl⟩
theorem e212_0 {kc ks : Nat} {ls st : List Value} {w : AW} {Q : AQ} : Bk 212 0 kc ks ls st w Q = wp Bk 212 [] (0, 0) (some .int) Q c212_0 kc ks ls st w := eS ⟨rfl, rfl⟩
theorem e212_2 {kc ks : Nat} {ls st : List Value} {w : AW} {Q : AQ} : Bk 212 2 kc ks ls st w Q = wp Bk 212 [] (0, 0) (some .int) Q c212_2 kc ks ls st w := eS ⟨rfl, rfl⟩
theorem e212_18 {kc ks : Nat} {ls st : List Value} {w : AW} {Q : AQ} : Bk 212 18 kc ks ls st w Q = wp Bk 212 [] (0, 0) (some .int) Q c212_18 kc ks ls st w := eS ⟨rfl, rfl⟩
theorem e212_30 {kc ks : Nat} {ls st : List Value} {w : AW} {Q : AQ} : Bk 212 30 kc ks ls st w Q = wp Bk 212 [] (0, 0) (some .int) Q c212_30 kc ks ls st w := eS ⟨rfl, rfl⟩
theorem e212_37 {kc ks : Nat} {ls st : List Value} {w : AW} {Q : AQ} : Bk 212 37 kc ks ls st w Q = wp Bk 212 [] (0, 0) (some .int) Q c212_37 kc ks ls st w := eS ⟨rfl, rfl⟩
theorem e212_42 {kc ks : Nat} {ls st : List Value} {w : AW} {Q : AQ} : Bk 212 42 kc ks ls st w Q = wp Bk 212 [] (0, 0) (some .int) Q c212_42 kc ks ls st w := eS ⟨rfl, rfl⟩
theorem e213_0 {kc ks : Nat} {ls st : List Value} {w : AW} {Q : AQ} : Bk 213 0 kc ks ls st w Q = wp Bk 213 [] (0, 0) (some .int) Q c213_0 kc ks ls st w := eS ⟨rfl, rfl⟩
theorem e213_4 {kc ks : Nat} {ls st : List Value} {w : AW} {Q : AQ} : Bk 213 4 kc ks ls st w Q = wp Bk 213 [] (0, 0) (some .int) Q c213_4 kc ks ls st w := eS ⟨rfl, rfl⟩
theorem e213_14 {kc ks : Nat} {ls st : List Value} {w : AW} {Q : AQ} : Bk 213 14 kc ks ls st w Q = wp Bk 213 [] (0, 0) (some .int) Q c213_14 kc ks ls st w := eS ⟨rfl, rfl⟩
theorem e213_16 {kc ks : Nat} {ls st : List Value} {w : AW} {Q : AQ} : Bk 213 16 kc ks ls st w Q = wp Bk 213 [] (0, 0) (some .int) Q c213_16 kc ks ls st w := eS ⟨rfl, rfl⟩
theorem e214_0 {kc ks : Nat} {ls st : List Value} {w : AW} {Q : AQ} : Bk 214 0 kc ks ls st w Q = wp Bk 214 [] (0, 0) (some .char) Q c214_0 kc ks ls st w := eS ⟨rfl, rfl⟩
theorem e215_0 {kc ks : Nat} {ls st : List Value} {w : AW} {Q : AQ} : Bk 215 0 kc ks ls st w Q = wp Bk 215 [] (0, 0) (some .boolean) Q c215_0 kc ks ls st w := eS ⟨rfl, rfl⟩
theorem e215_5 {kc ks : Nat} {ls st : List Value} {w : AW} {Q : AQ} : Bk 215 5 kc ks ls st w Q = wp Bk 215 [] (0, 0) (some .boolean) Q c215_5 kc ks ls st w := eS ⟨rfl, rfl⟩
theorem e216_0 {kc ks : Nat} {ls st : List Value} {w : AW} {Q : AQ} : Bk 216 0 kc ks ls st w Q = wp Bk 216 [] (0, 0) (some .boolean) Q c216_0 kc ks ls st w := eS ⟨rfl, rfl⟩
theorem e216_7 {kc ks : Nat} {ls st : List Value} {w : AW} {Q : AQ} : Bk 216 7 kc ks ls st w Q = wp Bk 216 [] (0, 0) (some .boolean) Q c216_7 kc ks ls st w := eS ⟨rfl, rfl⟩
theorem e217_0 {kc ks : Nat} {ls st : List Value} {w : AW} {Q : AQ} : Bk 217 0 kc ks ls st w Q = wp Bk 217 [] (0, 0) (some .int) Q c217_0 kc ks ls st w := eS ⟨rfl, rfl⟩
theorem e218_0 {kc ks : Nat} {ls st : List Value} {w : AW} {Q : AQ} : Bk 218 0 kc ks ls st w Q = wp Bk 218 [] (0, 0) (some .int) Q c218_0 kc ks ls st w := eS ⟨rfl, rfl⟩
theorem e219_0 {kc ks : Nat} {ls st : List Value} {w : AW} {Q : AQ} : Bk 219 0 kc ks ls st w Q = wp Bk 219 [] (0, 0) (some .boolean) Q c219_0 kc ks ls st w := eS ⟨rfl, rfl⟩
theorem e219_6 {kc ks : Nat} {ls st : List Value} {w : AW} {Q : AQ} : Bk 219 6 kc ks ls st w Q = wp Bk 219 [] (0, 0) (some .boolean) Q c219_6 kc ks ls st w := eS ⟨rfl, rfl⟩
theorem e220_0 {kc ks : Nat} {ls st : List Value} {w : AW} {Q : AQ} : Bk 220 0 kc ks ls st w Q = wp Bk 220 [] (0, 0) (some .boolean) Q c220_0 kc ks ls st w := eS ⟨rfl, rfl⟩
theorem e220_8 {kc ks : Nat} {ls st : List Value} {w : AW} {Q : AQ} : Bk 220 8 kc ks ls st w Q = wp Bk 220 [] (0, 0) (some .boolean) Q c220_8 kc ks ls st w := eS ⟨rfl, rfl⟩
theorem e220_10 {kc ks : Nat} {ls st : List Value} {w : AW} {Q : AQ} : Bk 220 10 kc ks ls st w Q = wp Bk 220 [] (0, 0) (some .boolean) Q c220_10 kc ks ls st w := eS ⟨rfl, rfl⟩
theorem e221_0 {kc ks : Nat} {ls st : List Value} {w : AW} {Q : AQ} : Bk 221 0 kc ks ls st w Q = wp Bk 221 [] (0, 0) (some .boolean) Q c221_0 kc ks ls st w := eS ⟨k221_0, rfl⟩
theorem e221_20 {kc ks : Nat} {ls st : List Value} {w : AW} {Q : AQ} : Bk 221 20 kc ks ls st w Q = wp Bk 221 [] (0, 0) (some .boolean) Q c221_20 kc ks ls st w := eS ⟨k221_20, rfl⟩
theorem e221_29 {kc ks : Nat} {ls st : List Value} {w : AW} {Q : AQ} : Bk 221 29 kc ks ls st w Q = wp Bk 221 [] (0, 0) (some .boolean) Q c221_29 kc ks ls st w := eS ⟨k221_29, rfl⟩
theorem e221_35 {kc ks : Nat} {ls st : List Value} {w : AW} {Q : AQ} : Bk 221 35 kc ks ls st w Q = wp Bk 221 [] (0, 0) (some .boolean) Q c221_35 kc ks ls st w := eS ⟨k221_35, rfl⟩
theorem e221_42 {kc ks : Nat} {ls st : List Value} {w : AW} {Q : AQ} : Bk 221 42 kc ks ls st w Q = wp Bk 221 [] (0, 0) (some .boolean) Q c221_42 kc ks ls st w := eS ⟨k221_42, rfl⟩
theorem e221_49 {kc ks : Nat} {ls st : List Value} {w : AW} {Q : AQ} : Bk 221 49 kc ks ls st w Q = wp Bk 221 [] (0, 0) (some .boolean) Q c221_49 kc ks ls st w := eS ⟨k221_49, rfl⟩
theorem e221_60 {kc ks : Nat} {ls st : List Value} {w : AW} {Q : AQ} : Bk 221 60 kc ks ls st w Q = wp Bk 221 [] (0, 0) (some .boolean) Q c221_60 kc ks ls st w := eS ⟨k221_60, rfl⟩
theorem e222_0 {kc ks : Nat} {ls st : List Value} {w : AW} {Q : AQ} : Bk 222 0 kc ks ls st w Q = wp Bk 222 [] (0, 0) (some .boolean) Q c222_0 kc ks ls st w := eS ⟨rfl, rfl⟩
theorem e222_5 {kc ks : Nat} {ls st : List Value} {w : AW} {Q : AQ} : Bk 222 5 kc ks ls st w Q = wp Bk 222 [] (0, 0) (some .boolean) Q c222_5 kc ks ls st w := eS ⟨rfl, rfl⟩
theorem e222_15 {kc ks : Nat} {ls st : List Value} {w : AW} {Q : AQ} : Bk 222 15 kc ks ls st w Q = wp Bk 222 [] (0, 0) (some .boolean) Q c222_15 kc ks ls st w := eS ⟨rfl, rfl⟩
theorem e222_21 {kc ks : Nat} {ls st : List Value} {w : AW} {Q : AQ} : Bk 222 21 kc ks ls st w Q = wp Bk 222 [] (0, 0) (some .boolean) Q c222_21 kc ks ls st w := eS ⟨rfl, rfl⟩
theorem e222_29 {kc ks : Nat} {ls st : List Value} {w : AW} {Q : AQ} : Bk 222 29 kc ks ls st w Q = wp Bk 222 [] (0, 0) (some .boolean) Q c222_29 kc ks ls st w := eS ⟨rfl, rfl⟩
theorem e222_32 {kc ks : Nat} {ls st : List Value} {w : AW} {Q : AQ} : Bk 222 32 kc ks ls st w Q = wp Bk 222 [] (0, 0) (some .boolean) Q c222_32 kc ks ls st w := eS ⟨rfl, rfl⟩
theorem e222_45 {kc ks : Nat} {ls st : List Value} {w : AW} {Q : AQ} : Bk 222 45 kc ks ls st w Q = wp Bk 222 [] (0, 0) (some .boolean) Q c222_45 kc ks ls st w := eS ⟨rfl, rfl⟩
theorem e223_0 {kc ks : Nat} {ls st : List Value} {w : AW} {Q : AQ} : Bk 223 0 kc ks ls st w Q = wp Bk 223 [] (0, 0) (some .int) Q c223_0 kc ks ls st w := eS ⟨rfl, rfl⟩
theorem e223_4 {kc ks : Nat} {ls st : List Value} {w : AW} {Q : AQ} : Bk 223 4 kc ks ls st w Q = wp Bk 223 [] (0, 0) (some .int) Q c223_4 kc ks ls st w := eS ⟨rfl, rfl⟩
theorem e223_19 {kc ks : Nat} {ls st : List Value} {w : AW} {Q : AQ} : Bk 223 19 kc ks ls st w Q = wp Bk 223 [] (0, 0) (some .int) Q c223_19 kc ks ls st w := eS ⟨rfl, rfl⟩
theorem e223_21 {kc ks : Nat} {ls st : List Value} {w : AW} {Q : AQ} : Bk 223 21 kc ks ls st w Q = wp Bk 223 [] (0, 0) (some .int) Q c223_21 kc ks ls st w := eS ⟨rfl, rfl⟩
theorem e223_31 {kc ks : Nat} {ls st : List Value} {w : AW} {Q : AQ} : Bk 223 31 kc ks ls st w Q = wp Bk 223 [] (0, 0) (some .int) Q c223_31 kc ks ls st w := eS ⟨rfl, rfl⟩
theorem e224_0 {kc ks : Nat} {ls st : List Value} {w : AW} {Q : AQ} : Bk 224 0 kc ks ls st w Q = wp Bk 224 [] (1, 6) (some .int) Q c224_0 kc ks ls st w := eS ⟨rfl, rfl⟩
theorem e224_15 {kc ks : Nat} {ls st : List Value} {w : AW} {Q : AQ} : Bk 224 15 kc ks ls st w Q = wp Bk 224 [] (1, 6) (some .int) Q c224_15 kc ks ls st w := eS ⟨rfl, rfl⟩
theorem e224_44 {kc ks : Nat} {ls st : List Value} {w : AW} {Q : AQ} : Bk 224 44 kc ks ls st w Q = wp Bk 224 [] (1, 6) (some .int) Q c224_44 kc ks ls st w := eS ⟨rfl, rfl⟩
theorem e225_0 {kc ks : Nat} {ls st : List Value} {w : AW} {Q : AQ} : Bk 225 0 kc ks ls st w Q = wp Bk 225 [("java/lang/IllegalArgumentException", 8, 2), ("java/lang/IllegalStateException", 11, 2)] (1, 6) (some .int) Q c225_0 kc ks ls st w := eS ⟨rfl, rfl⟩
theorem e225_8 {kc ks : Nat} {ls st : List Value} {w : AW} {Q : AQ} : Bk 225 8 kc ks ls st w Q = wp Bk 225 [("java/lang/IllegalArgumentException", 8, 2), ("java/lang/IllegalStateException", 11, 2)] (1, 6) (some .int) Q c225_8 kc ks ls st w := eS ⟨rfl, rfl⟩
theorem e225_11 {kc ks : Nat} {ls st : List Value} {w : AW} {Q : AQ} : Bk 225 11 kc ks ls st w Q = wp Bk 225 [("java/lang/IllegalArgumentException", 8, 2), ("java/lang/IllegalStateException", 11, 2)] (1, 6) (some .int) Q c225_11 kc ks ls st w := eS ⟨rfl, rfl⟩
theorem e225_13 {kc ks : Nat} {ls st : List Value} {w : AW} {Q : AQ} : Bk 225 13 kc ks ls st w Q = wp Bk 225 [("java/lang/IllegalArgumentException", 8, 2), ("java/lang/IllegalStateException", 11, 2)] (1, 6) (some .int) Q c225_13 kc ks ls st w := eS ⟨rfl, rfl⟩
theorem e226_0 {kc ks : Nat} {ls st : List Value} {w : AW} {Q : AQ} : Bk 226 0 kc ks ls st w Q = wp Bk 226 [] (0, 0) (some .int) Q c226_0 kc ks ls st w := eS ⟨rfl, rfl⟩
theorem e226_11 {kc ks : Nat} {ls st : List Value} {w : AW} {Q : AQ} : Bk 226 11 kc ks ls st w Q = wp Bk 226 [] (0, 0) (some .int) Q c226_11 kc ks ls st w := eS ⟨rfl, rfl⟩
theorem e226_12 {kc ks : Nat} {ls st : List Value} {w : AW} {Q : AQ} : Bk 226 12 kc ks ls st w Q = wp Bk 226 [] (0, 0) (some .int) Q c226_12 kc ks ls st w := eS ⟨rfl, rfl⟩
theorem e227_0 {kc ks : Nat} {ls st : List Value} {w : AW} {Q : AQ} : Bk 227 0 kc ks ls st w Q = wp Bk 227 [] (0, 0) (some .boolean) Q c227_0 kc ks ls st w := eS ⟨rfl, rfl⟩
theorem e227_6 {kc ks : Nat} {ls st : List Value} {w : AW} {Q : AQ} : Bk 227 6 kc ks ls st w Q = wp Bk 227 [] (0, 0) (some .boolean) Q c227_6 kc ks ls st w := eS ⟨rfl, rfl⟩
theorem e228_0 {kc ks : Nat} {ls st : List Value} {w : AW} {Q : AQ} : Bk 228 0 kc ks ls st w Q = wp Bk 228 [] (0, 0) (some .boolean) Q c228_0 kc ks ls st w := eS ⟨rfl, rfl⟩
theorem e228_10 {kc ks : Nat} {ls st : List Value} {w : AW} {Q : AQ} : Bk 228 10 kc ks ls st w Q = wp Bk 228 [] (0, 0) (some .boolean) Q c228_10 kc ks ls st w := eS ⟨rfl, rfl⟩
theorem e228_22 {kc ks : Nat} {ls st : List Value} {w : AW} {Q : AQ} : Bk 228 22 kc ks ls st w Q = wp Bk 228 [] (0, 0) (some .boolean) Q c228_22 kc ks ls st w := eS ⟨rfl, rfl⟩
theorem e228_24 {kc ks : Nat} {ls st : List Value} {w : AW} {Q : AQ} : Bk 228 24 kc ks ls st w Q = wp Bk 228 [] (0, 0) (some .boolean) Q c228_24 kc ks ls st w := eS ⟨rfl, rfl⟩
theorem e229_0 {kc ks : Nat} {ls st : List Value} {w : AW} {Q : AQ} : Bk 229 0 kc ks ls st w Q = wp Bk 229 [] (0, 0) (some .boolean) Q c229_0 kc ks ls st w := eS ⟨rfl, rfl⟩
theorem e229_10 {kc ks : Nat} {ls st : List Value} {w : AW} {Q : AQ} : Bk 229 10 kc ks ls st w Q = wp Bk 229 [] (0, 0) (some .boolean) Q c229_10 kc ks ls st w := eS ⟨rfl, rfl⟩
theorem e229_12 {kc ks : Nat} {ls st : List Value} {w : AW} {Q : AQ} : Bk 229 12 kc ks ls st w Q = wp Bk 229 [] (0, 0) (some .boolean) Q c229_12 kc ks ls st w := eS ⟨rfl, rfl⟩
theorem e230_0 {kc ks : Nat} {ls st : List Value} {w : AW} {Q : AQ} : Bk 230 0 kc ks ls st w Q = wp Bk 230 [] (0, 0) (some .boolean) Q c230_0 kc ks ls st w := eS ⟨rfl, rfl⟩
theorem e230_12 {kc ks : Nat} {ls st : List Value} {w : AW} {Q : AQ} : Bk 230 12 kc ks ls st w Q = wp Bk 230 [] (0, 0) (some .boolean) Q c230_12 kc ks ls st w := eS ⟨rfl, rfl⟩
theorem e230_13 {kc ks : Nat} {ls st : List Value} {w : AW} {Q : AQ} : Bk 230 13 kc ks ls st w Q = wp Bk 230 [] (0, 0) (some .boolean) Q c230_13 kc ks ls st w := eS ⟨rfl, rfl⟩
theorem e231_0 {kc ks : Nat} {ls st : List Value} {w : AW} {Q : AQ} : Bk 231 0 kc ks ls st w Q = wp Bk 231 [] (0, 0) (some .boolean) Q c231_0 kc ks ls st w := eS ⟨rfl, rfl⟩
theorem e231_15 {kc ks : Nat} {ls st : List Value} {w : AW} {Q : AQ} : Bk 231 15 kc ks ls st w Q = wp Bk 231 [] (0, 0) (some .boolean) Q c231_15 kc ks ls st w := eS ⟨rfl, rfl⟩
theorem e231_16 {kc ks : Nat} {ls st : List Value} {w : AW} {Q : AQ} : Bk 231 16 kc ks ls st w Q = wp Bk 231 [] (0, 0) (some .boolean) Q c231_16 kc ks ls st w := eS ⟨rfl, rfl⟩
theorem e231_17 {kc ks : Nat} {ls st : List Value} {w : AW} {Q : AQ} : Bk 231 17 kc ks ls st w Q = wp Bk 231 [] (0, 0) (some .boolean) Q c231_17 kc ks ls st w := eS ⟨rfl, rfl⟩
theorem e231_26 {kc ks : Nat} {ls st : List Value} {w : AW} {Q : AQ} : Bk 231 26 kc ks ls st w Q = wp Bk 231 [] (0, 0) (some .boolean) Q c231_26 kc ks ls st w := eS ⟨rfl, rfl⟩
theorem e231_37 {kc ks : Nat} {ls st : List Value} {w : AW} {Q : AQ} : Bk 231 37 kc ks ls st w Q = wp Bk 231 [] (0, 0) (some .boolean) Q c231_37 kc ks ls st w := eS ⟨rfl, rfl⟩
theorem e231_38 {kc ks : Nat} {ls st : List Value} {w : AW} {Q : AQ} : Bk 231 38 kc ks ls st w Q = wp Bk 231 [] (0, 0) (some .boolean) Q c231_38 kc ks ls st w := eS ⟨rfl, rfl⟩
theorem e232_0 {kc ks : Nat} {ls st : List Value} {w : AW} {Q : AQ} : Bk 232 0 kc ks ls st w Q = wp Bk 232 [] (0, 0) (some .boolean) Q c232_0 kc ks ls st w := eS ⟨rfl, rfl⟩
theorem e232_6 {kc ks : Nat} {ls st : List Value} {w : AW} {Q : AQ} : Bk 232 6 kc ks ls st w Q = wp Bk 232 [] (0, 0) (some .boolean) Q c232_6 kc ks ls st w := eS ⟨rfl, rfl⟩
theorem e232_28 {kc ks : Nat} {ls st : List Value} {w : AW} {Q : AQ} : Bk 232 28 kc ks ls st w Q = wp Bk 232 [] (0, 0) (some .boolean) Q c232_28 kc ks ls st w := eS ⟨rfl, rfl⟩
theorem e232_30 {kc ks : Nat} {ls st : List Value} {w : AW} {Q : AQ} : Bk 232 30 kc ks ls st w Q = wp Bk 232 [] (0, 0) (some .boolean) Q c232_30 kc ks ls st w := eS ⟨rfl, rfl⟩
theorem e232_31 {kc ks : Nat} {ls st : List Value} {w : AW} {Q : AQ} : Bk 232 31 kc ks ls st w Q = wp Bk 232 [] (0, 0) (some .boolean) Q c232_31 kc ks ls st w := eS ⟨rfl, rfl⟩
theorem e233_0 {kc ks : Nat} {ls st : List Value} {w : AW} {Q : AQ} : Bk 233 0 kc ks ls st w Q = wp Bk 233 [] (0, 0) (some .boolean) Q c233_0 kc ks ls st w := eS ⟨rfl, rfl⟩
theorem e233_22 {kc ks : Nat} {ls st : List Value} {w : AW} {Q : AQ} : Bk 233 22 kc ks ls st w Q = wp Bk 233 [] (0, 0) (some .boolean) Q c233_22 kc ks ls st w := eS ⟨rfl, rfl⟩
theorem e233_24 {kc ks : Nat} {ls st : List Value} {w : AW} {Q : AQ} : Bk 233 24 kc ks ls st w Q = wp Bk 233 [] (0, 0) (some .boolean) Q c233_24 kc ks ls st w := eS ⟨rfl, rfl⟩
theorem e233_25 {kc ks : Nat} {ls st : List Value} {w : AW} {Q : AQ} : Bk 233 25 kc ks ls st w Q = wp Bk 233 [] (0, 0) (some .boolean) Q c233_25 kc ks ls st w := eS ⟨rfl, rfl⟩
theorem e234_0 {kc ks : Nat} {ls st : List Value} {w : AW} {Q : AQ} : Bk 234 0 kc ks ls st w Q = wp Bk 234 [] (0, 0) (some .boolean) Q c234_0 kc ks ls st w := eS ⟨k234_0, rfl⟩
theorem e234_15 {kc ks : Nat} {ls st : List Value} {w : AW} {Q : AQ} : Bk 234 15 kc ks ls st w Q = wp Bk 234 [] (0, 0) (some .boolean) Q c234_15 kc ks ls st w := eS ⟨k234_15, rfl⟩
theorem e234_30 {kc ks : Nat} {ls st : List Value} {w : AW} {Q : AQ} : Bk 234 30 kc ks ls st w Q = wp Bk 234 [] (0, 0) (some .boolean) Q c234_30 kc ks ls st w := eS ⟨k234_30, rfl⟩
theorem e234_31 {kc ks : Nat} {ls st : List Value} {w : AW} {Q : AQ} : Bk 234 31 kc ks ls st w Q = wp Bk 234 [] (0, 0) (some .boolean) Q c234_31 kc ks ls st w := eS ⟨k234_31, rfl⟩
theorem e234_32 {kc ks : Nat} {ls st : List Value} {w : AW} {Q : AQ} : Bk 234 32 kc ks ls st w Q = wp Bk 234 [] (0, 0) (some .boolean) Q c234_32 kc ks ls st w := eS ⟨k234_32, rfl⟩
theorem e234_47 {kc ks : Nat} {ls st : List Value} {w : AW} {Q : AQ} : Bk 234 47 kc ks ls st w Q = wp Bk 234 [] (0, 0) (some .boolean) Q c234_47 kc ks ls st w := eS ⟨k234_47, rfl⟩
theorem e234_48 {kc ks : Nat} {ls st : List Value} {w : AW} {Q : AQ} : Bk 234 48 kc ks ls st w Q = wp Bk 234 [] (0, 0) (some .boolean) Q c234_48 kc ks ls st w := eS ⟨k234_48, rfl⟩
theorem e234_49 {kc ks : Nat} {ls st : List Value} {w : AW} {Q : AQ} : Bk 234 49 kc ks ls st w Q = wp Bk 234 [] (0, 0) (some .boolean) Q c234_49 kc ks ls st w := eS ⟨k234_49, rfl⟩
theorem e234_64 {kc ks : Nat} {ls st : List Value} {w : AW} {Q : AQ} : Bk 234 64 kc ks ls st w Q = wp Bk 234 [] (0, 0) (some .boolean) Q c234_64 kc ks ls st w := eS ⟨k234_64, rfl⟩
theorem e234_65 {kc ks : Nat} {ls st : List Value} {w : AW} {Q : AQ} : Bk 234 65 kc ks ls st w Q = wp Bk 234 [] (0, 0) (some .boolean) Q c234_65 kc ks ls st w := eS ⟨k234_65, rfl⟩
theorem e234_66 {kc ks : Nat} {ls st : List Value} {w : AW} {Q : AQ} : Bk 234 66 kc ks ls st w Q = wp Bk 234 [] (0, 0) (some .boolean) Q c234_66 kc ks ls st w := eS ⟨k234_66, rfl⟩
theorem e234_87 {kc ks : Nat} {ls st : List Value} {w : AW} {Q : AQ} : Bk 234 87 kc ks ls st w Q = wp Bk 234 [] (0, 0) (some .boolean) Q c234_87 kc ks ls st w := eS ⟨k234_87, rfl⟩
theorem e234_88 {kc ks : Nat} {ls st : List Value} {w : AW} {Q : AQ} : Bk 234 88 kc ks ls st w Q = wp Bk 234 [] (0, 0) (some .boolean) Q c234_88 kc ks ls st w := eS ⟨k234_88, rfl⟩
theorem e234_89 {kc ks : Nat} {ls st : List Value} {w : AW} {Q : AQ} : Bk 234 89 kc ks ls st w Q = wp Bk 234 [] (0, 0) (some .boolean) Q c234_89 kc ks ls st w := eS ⟨k234_89, rfl⟩
theorem e234_98 {kc ks : Nat} {ls st : List Value} {w : AW} {Q : AQ} : Bk 234 98 kc ks ls st w Q = wp Bk 234 [] (0, 0) (some .boolean) Q c234_98 kc ks ls st w := eS ⟨k234_98, rfl⟩
theorem e234_104 {kc ks : Nat} {ls st : List Value} {w : AW} {Q : AQ} : Bk 234 104 kc ks ls st w Q = wp Bk 234 [] (0, 0) (some .boolean) Q c234_104 kc ks ls st w := eS ⟨k234_104, rfl⟩
theorem e234_119 {kc ks : Nat} {ls st : List Value} {w : AW} {Q : AQ} : Bk 234 119 kc ks ls st w Q = wp Bk 234 [] (0, 0) (some .boolean) Q c234_119 kc ks ls st w := eS ⟨k234_119, rfl⟩
theorem e234_121 {kc ks : Nat} {ls st : List Value} {w : AW} {Q : AQ} : Bk 234 121 kc ks ls st w Q = wp Bk 234 [] (0, 0) (some .boolean) Q c234_121 kc ks ls st w := eS ⟨k234_121, rfl⟩
theorem e234_132 {kc ks : Nat} {ls st : List Value} {w : AW} {Q : AQ} : Bk 234 132 kc ks ls st w Q = wp Bk 234 [] (0, 0) (some .boolean) Q c234_132 kc ks ls st w := eS ⟨k234_132, rfl⟩
theorem e234_133 {kc ks : Nat} {ls st : List Value} {w : AW} {Q : AQ} : Bk 234 133 kc ks ls st w Q = wp Bk 234 [] (0, 0) (some .boolean) Q c234_133 kc ks ls st w := eS ⟨k234_133, rfl⟩
theorem e235_0 {kc ks : Nat} {ls st : List Value} {w : AW} {Q : AQ} : Bk 235 0 kc ks ls st w Q = wp Bk 235 [] (0, 0) (some .boolean) Q c235_0 kc ks ls st w := eS ⟨rfl, rfl⟩
theorem e235_6 {kc ks : Nat} {ls st : List Value} {w : AW} {Q : AQ} : Bk 235 6 kc ks ls st w Q = wp Bk 235 [] (0, 0) (some .boolean) Q c235_6 kc ks ls st w := eS ⟨rfl, rfl⟩
theorem e235_11 {kc ks : Nat} {ls st : List Value} {w : AW} {Q : AQ} : Bk 235 11 kc ks ls st w Q = wp Bk 235 [] (0, 0) (some .boolean) Q c235_11 kc ks ls st w := eS ⟨rfl, rfl⟩
theorem e235_28 {kc ks : Nat} {ls st : List Value} {w : AW} {Q : AQ} : Bk 235 28 kc ks ls st w Q = wp Bk 235 [] (0, 0) (some .boolean) Q c235_28 kc ks ls st w := eS ⟨rfl, rfl⟩
theorem e235_29 {kc ks : Nat} {ls st : List Value} {w : AW} {Q : AQ} : Bk 235 29 kc ks ls st w Q = wp Bk 235 [] (0, 0) (some .boolean) Q c235_29 kc ks ls st w := eS ⟨rfl, rfl⟩
theorem e236_0 {kc ks : Nat} {ls st : List Value} {w : AW} {Q : AQ} : Bk 236 0 kc ks ls st w Q = wp Bk 236 [] (0, 0) (some .int) Q c236_0 kc ks ls st w := eS ⟨k236_0, rfl⟩
theorem e236_19 {kc ks : Nat} {ls st : List Value} {w : AW} {Q : AQ} : Bk 236 19 kc ks ls st w Q = wp Bk 236 [] (0, 0) (some .int) Q c236_19 kc ks ls st w := eS ⟨k236_19, rfl⟩
theorem e236_24 {kc ks : Nat} {ls st : List Value} {w : AW} {Q : AQ} : Bk 236 24 kc ks ls st w Q = wp Bk 236 [] (0, 0) (some .int) Q c236_24 kc ks ls st w := eS ⟨k236_24, rfl⟩
theorem e236_32 {kc ks : Nat} {ls st : List Value} {w : AW} {Q : AQ} : Bk 236 32 kc ks ls st w Q = wp Bk 236 [] (0, 0) (some .int) Q c236_32 kc ks ls st w := eS ⟨k236_32, rfl⟩
theorem e236_33 {kc ks : Nat} {ls st : List Value} {w : AW} {Q : AQ} : Bk 236 33 kc ks ls st w Q = wp Bk 236 [] (0, 0) (some .int) Q c236_33 kc ks ls st w := eS ⟨k236_33, rfl⟩
theorem e236_34 {kc ks : Nat} {ls st : List Value} {w : AW} {Q : AQ} : Bk 236 34 kc ks ls st w Q = wp Bk 236 [] (0, 0) (some .int) Q c236_34 kc ks ls st w := eS ⟨k236_34, rfl⟩
theorem e236_42 {kc ks : Nat} {ls st : List Value} {w : AW} {Q : AQ} : Bk 236 42 kc ks ls st w Q = wp Bk 236 [] (0, 0) (some .int) Q c236_42 kc ks ls st w := eS ⟨k236_42, rfl⟩
theorem e236_43 {kc ks : Nat} {ls st : List Value} {w : AW} {Q : AQ} : Bk 236 43 kc ks ls st w Q = wp Bk 236 [] (0, 0) (some .int) Q c236_43 kc ks ls st w := eS ⟨k236_43, rfl⟩
theorem e236_44 {kc ks : Nat} {ls st : List Value} {w : AW} {Q : AQ} : Bk 236 44 kc ks ls st w Q = wp Bk 236 [] (0, 0) (some .int) Q c236_44 kc ks ls st w := eS ⟨k236_44, rfl⟩
theorem e236_51 {kc ks : Nat} {ls st : List Value} {w : AW} {Q : AQ} : Bk 236 51 kc ks ls st w Q = wp Bk 236 [] (0, 0) (some .int) Q c236_51 kc ks ls st w := eS ⟨k236_51, rfl⟩
theorem e236_52 {kc ks : Nat} {ls st : List Value} {w : AW} {Q : AQ} : Bk 236 52 kc ks ls st w Q = wp Bk 236 [] (0, 0) (some .int) Q c236_52 kc ks ls st w := eS ⟨k236_52, rfl⟩
theorem e236_53 {kc ks : Nat} {ls st : List Value} {w : AW} {Q : AQ} : Bk 236 53 kc ks ls st w Q = wp Bk 236 [] (0, 0) (some .int) Q c236_53 kc ks ls st w := eS ⟨k236_53, rfl⟩
theorem e236_58 {kc ks : Nat} {ls st : List Value} {w : AW} {Q : AQ} : Bk 236 58 kc ks ls st w Q = wp Bk 236 [] (0, 0) (some .int) Q c236_58 kc ks ls st w := eS ⟨k236_58, rfl⟩
theorem e236_63 {kc ks : Nat} {ls st : List Value} {w : AW} {Q : AQ} : Bk 236 63 kc ks ls st w Q = wp Bk 236 [] (0, 0) (some .int) Q c236_63 kc ks ls st w := eS ⟨k236_63, rfl⟩
theorem e236_75 {kc ks : Nat} {ls st : List Value} {w : AW} {Q : AQ} : Bk 236 75 kc ks ls st w Q = wp Bk 236 [] (0, 0) (some .int) Q c236_75 kc ks ls st w := eS ⟨k236_75, rfl⟩
theorem e236_78 {kc ks : Nat} {ls st : List Value} {w : AW} {Q : AQ} : Bk 236 78 kc ks ls st w Q = wp Bk 236 [] (0, 0) (some .int) Q c236_78 kc ks ls st w := eS ⟨k236_78, rfl⟩
theorem e236_81 {kc ks : Nat} {ls st : List Value} {w : AW} {Q : AQ} : Bk 236 81 kc ks ls st w Q = wp Bk 236 [] (0, 0) (some .int) Q c236_81 kc ks ls st w := eS ⟨k236_81, rfl⟩
theorem e237_0 {kc ks : Nat} {ls st : List Value} {w : AW} {Q : AQ} : Bk 237 0 kc ks ls st w Q = wp Bk 237 [] (0, 0) (some .int) Q c237_0 kc ks ls st w := eS ⟨k237_0, rfl⟩
theorem e237_9 {kc ks : Nat} {ls st : List Value} {w : AW} {Q : AQ} : Bk 237 9 kc ks ls st w Q = wp Bk 237 [] (0, 0) (some .int) Q c237_9 kc ks ls st w := eS ⟨k237_9, rfl⟩
theorem e237_17 {kc ks : Nat} {ls st : List Value} {w : AW} {Q : AQ} : Bk 237 17 kc ks ls st w Q = wp Bk 237 [] (0, 0) (some .int) Q c237_17 kc ks ls st w := eS ⟨k237_17, rfl⟩
theorem e237_18 {kc ks : Nat} {ls st : List Value} {w : AW} {Q : AQ} : Bk 237 18 kc ks ls st w Q = wp Bk 237 [] (0, 0) (some .int) Q c237_18 kc ks ls st w := eS ⟨k237_18, rfl⟩
theorem e237_22 {kc ks : Nat} {ls st : List Value} {w : AW} {Q : AQ} : Bk 237 22 kc ks ls st w Q = wp Bk 237 [] (0, 0) (some .int) Q c237_22 kc ks ls st w := eS ⟨k237_22, rfl⟩
theorem e237_36 {kc ks : Nat} {ls st : List Value} {w : AW} {Q : AQ} : Bk 237 36 kc ks ls st w Q = wp Bk 237 [] (0, 0) (some .int) Q c237_36 kc ks ls st w := eS ⟨k237_36, rfl⟩
theorem e237_54 {kc ks : Nat} {ls st : List Value} {w : AW} {Q : AQ} : Bk 237 54 kc ks ls st w Q = wp Bk 237 [] (0, 0) (some .int) Q c237_54 kc ks ls st w := eS ⟨k237_54, rfl⟩
theorem e237_77 {kc ks : Nat} {ls st : List Value} {w : AW} {Q : AQ} : Bk 237 77 kc ks ls st w Q = wp Bk 237 [] (0, 0) (some .int) Q c237_77 kc ks ls st w := eS ⟨k237_77, rfl⟩
theorem e237_78 {kc ks : Nat} {ls st : List Value} {w : AW} {Q : AQ} : Bk 237 78 kc ks ls st w Q = wp Bk 237 [] (0, 0) (some .int) Q c237_78 kc ks ls st w := eS ⟨k237_78, rfl⟩
theorem e237_79 {kc ks : Nat} {ls st : List Value} {w : AW} {Q : AQ} : Bk 237 79 kc ks ls st w Q = wp Bk 237 [] (0, 0) (some .int) Q c237_79 kc ks ls st w := eS ⟨k237_79, rfl⟩
theorem e238_0 {kc ks : Nat} {ls st : List Value} {w : AW} {Q : AQ} : Bk 238 0 kc ks ls st w Q = wp Bk 238 [] (1, 6) (some .int) Q c238_0 kc ks ls st w := eS ⟨rfl, rfl⟩
theorem e238_5 {kc ks : Nat} {ls st : List Value} {w : AW} {Q : AQ} : Bk 238 5 kc ks ls st w Q = wp Bk 238 [] (1, 6) (some .int) Q c238_5 kc ks ls st w := eS ⟨rfl, rfl⟩
theorem e239_0 {kc ks : Nat} {ls st : List Value} {w : AW} {Q : AQ} : Bk 239 0 kc ks ls st w Q = wp Bk 239 [("java/util/NoSuchElementException", 8, 2)] (1, 6) (some .int) Q c239_0 kc ks ls st w := eS ⟨rfl, rfl⟩
theorem e239_8 {kc ks : Nat} {ls st : List Value} {w : AW} {Q : AQ} : Bk 239 8 kc ks ls st w Q = wp Bk 239 [("java/util/NoSuchElementException", 8, 2)] (1, 6) (some .int) Q c239_8 kc ks ls st w := eS ⟨rfl, rfl⟩
theorem e239_10 {kc ks : Nat} {ls st : List Value} {w : AW} {Q : AQ} : Bk 239 10 kc ks ls st w Q = wp Bk 239 [("java/util/NoSuchElementException", 8, 2)] (1, 6) (some .int) Q c239_10 kc ks ls st w := eS ⟨rfl, rfl⟩
theorem e240_0 {kc ks : Nat} {ls st : List Value} {w : AW} {Q : AQ} : Bk 240 0 kc ks ls st w Q = wp Bk 240 [] (0, 0) (some .int) Q c240_0 kc ks ls st w := eS ⟨rfl, rfl⟩
theorem e240_6 {kc ks : Nat} {ls st : List Value} {w : AW} {Q : AQ} : Bk 240 6 kc ks ls st w Q = wp Bk 240 [] (0, 0) (some .int) Q c240_6 kc ks ls st w := eS ⟨rfl, rfl⟩
theorem e240_7 {kc ks : Nat} {ls st : List Value} {w : AW} {Q : AQ} : Bk 240 7 kc ks ls st w Q = wp Bk 240 [] (0, 0) (some .int) Q c240_7 kc ks ls st w := eS ⟨rfl, rfl⟩
theorem e240_11 {kc ks : Nat} {ls st : List Value} {w : AW} {Q : AQ} : Bk 240 11 kc ks ls st w Q = wp Bk 240 [] (0, 0) (some .int) Q c240_11 kc ks ls st w := eS ⟨rfl, rfl⟩
theorem e240_13 {kc ks : Nat} {ls st : List Value} {w : AW} {Q : AQ} : Bk 240 13 kc ks ls st w Q = wp Bk 240 [] (0, 0) (some .int) Q c240_13 kc ks ls st w := eS ⟨rfl, rfl⟩
theorem e241_0 {kc ks : Nat} {ls st : List Value} {w : AW} {Q : AQ} : Bk 241 0 kc ks ls st w Q = wp Bk 241 [] (1, 6) (some .int) Q c241_0 kc ks ls st w := eS ⟨rfl, rfl⟩
theorem e241_5 {kc ks : Nat} {ls st : List Value} {w : AW} {Q : AQ} : Bk 241 5 kc ks ls st w Q = wp Bk 241 [] (1, 6) (some .int) Q c241_5 kc ks ls st w := eS ⟨rfl, rfl⟩
theorem e242_0 {kc ks : Nat} {ls st : List Value} {w : AW} {Q : AQ} : Bk 242 0 kc ks ls st w Q = wp Bk 242 [("java/util/NoSuchElementException", 8, 2)] (1, 6) (some .int) Q c242_0 kc ks ls st w := eS ⟨rfl, rfl⟩
theorem e242_8 {kc ks : Nat} {ls st : List Value} {w : AW} {Q : AQ} : Bk 242 8 kc ks ls st w Q = wp Bk 242 [("java/util/NoSuchElementException", 8, 2)] (1, 6) (some .int) Q c242_8 kc ks ls st w := eS ⟨rfl, rfl⟩
theorem e242_10 {kc ks : Nat} {ls st : List Value} {w : AW} {Q : AQ} : Bk 242 10 kc ks ls st w Q = wp Bk 242 [("java/util/NoSuchElementException", 8, 2)] (1, 6) (some .int) Q c242_10 kc ks ls st w := eS ⟨rfl, rfl⟩
theorem e243_0 {kc ks : Nat} {ls st : List Value} {w : AW} {Q : AQ} : Bk 243 0 kc ks ls st w Q = wp Bk 243 [] (0, 0) (some .int) Q c243_0 kc ks ls st w := eS ⟨rfl, rfl⟩
theorem e243_6 {kc ks : Nat} {ls st : List Value} {w : AW} {Q : AQ} : Bk 243 6 kc ks ls st w Q = wp Bk 243 [] (0, 0) (some .int) Q c243_6 kc ks ls st w := eS ⟨rfl, rfl⟩
theorem e243_7 {kc ks : Nat} {ls st : List Value} {w : AW} {Q : AQ} : Bk 243 7 kc ks ls st w Q = wp Bk 243 [] (0, 0) (some .int) Q c243_7 kc ks ls st w := eS ⟨rfl, rfl⟩
theorem e243_11 {kc ks : Nat} {ls st : List Value} {w : AW} {Q : AQ} : Bk 243 11 kc ks ls st w Q = wp Bk 243 [] (0, 0) (some .int) Q c243_11 kc ks ls st w := eS ⟨rfl, rfl⟩
theorem e243_13 {kc ks : Nat} {ls st : List Value} {w : AW} {Q : AQ} : Bk 243 13 kc ks ls st w Q = wp Bk 243 [] (0, 0) (some .int) Q c243_13 kc ks ls st w := eS ⟨rfl, rfl⟩
theorem e244_0 {kc ks : Nat} {ls st : List Value} {w : AW} {Q : AQ} : Bk 244 0 kc ks ls st w Q = wp Bk 244 [] (0, 0) (none) Q c244_0 kc ks ls st w := eS ⟨rfl, rfl⟩
theorem e245_0 {kc ks : Nat} {ls st : List Value} {w : AW} {Q : AQ} : Bk 245 0 kc ks ls st w Q = wp Bk 245 [] (1, 6) (some .int) Q c245_0 kc ks ls st w := eS ⟨rfl, rfl⟩
theorem e245_5 {kc ks : Nat} {ls st : List Value} {w : AW} {Q : AQ} : Bk 245 5 kc ks ls st w Q = wp Bk 245 [] (1, 6) (some .int) Q c245_5 kc ks ls st w := eS ⟨rfl, rfl⟩
theorem e246_0 {kc ks : Nat} {ls st : List Value} {w : AW} {Q : AQ} : Bk 246 0 kc ks ls st w Q = wp Bk 246 [("java/lang/IllegalStateException", 8, 2)] (1, 6) (some .int) Q c246_0 kc ks ls st w := eS ⟨rfl, rfl⟩
theorem e246_8 {kc ks : Nat} {ls st : List Value} {w : AW} {Q : AQ} : Bk 246 8 kc ks ls st w Q = wp Bk 246 [("java/lang/IllegalStateException", 8, 2)] (1, 6) (some .int) Q c246_8 kc ks ls st w := eS ⟨rfl, rfl⟩
theorem e246_10 {kc ks : Nat} {ls st : List Value} {w : AW} {Q : AQ} : Bk 246 10 kc ks ls st w Q = wp Bk 246 [("java/lang/IllegalStateException", 8, 2)] (1, 6) (some .int) Q c246_10 kc ks ls st w := eS ⟨rfl, rfl⟩
theorem e247_0 {kc ks : Nat} {ls st : List Value} {w : AW} {Q : AQ} : Bk 247 0 kc ks ls st w Q = wp Bk 247 [] (0, 0) (some .int) Q c247_0 kc ks ls st w := eS ⟨rfl, rfl⟩
theorem e247_6 {kc ks : Nat} {ls st : List Value} {w : AW} {Q : AQ} : Bk 247 6 kc ks ls st w Q = wp Bk 247 [] (0, 0) (some .int) Q c247_6 kc ks ls st w := eS ⟨rfl, rfl⟩
theorem e247_7 {kc ks : Nat} {ls st : List Value} {w : AW} {Q : AQ} : Bk 247 7 kc ks ls st w Q = wp Bk 247 [] (0, 0) (some .int) Q c247_7 kc ks ls st w := eS ⟨rfl, rfl⟩
theorem e247_11 {kc ks : Nat} {ls st : List Value} {w : AW} {Q : AQ} : Bk 247 11 kc ks ls st w Q = wp Bk 247 [] (0, 0) (some .int) Q c247_11 kc ks ls st w := eS ⟨rfl, rfl⟩
theorem e248_0 {kc ks : Nat} {ls st : List Value} {w : AW} {Q : AQ} : Bk 248 0 kc ks ls st w Q = wp Bk 248 [] (0, 0) (some .int) Q c248_0 kc ks ls st w := eS ⟨rfl, rfl⟩
theorem e249_0 {kc ks : Nat} {ls st : List Value} {w : AW} {Q : AQ} : Bk 249 0 kc ks ls st w Q = wp Bk 249 [] (0, 0) (some .int) Q c249_0 kc ks ls st w := eS ⟨rfl, rfl⟩
theorem e250_0 {kc ks : Nat} {ls st : List Value} {w : AW} {Q : AQ} : Bk 250 0 kc ks ls st w Q = wp Bk 250 [] (1, 6) (some .int) Q c250_0 kc ks ls st w := eS ⟨rfl, rfl⟩
theorem e250_4 {kc ks : Nat} {ls st : List Value} {w : AW} {Q : AQ} : Bk 250 4 kc ks ls st w Q = wp Bk 250 [] (1, 6) (some .int) Q c250_4 kc ks ls st w := eS ⟨rfl, rfl⟩
theorem e251_0 {kc ks : Nat} {ls st : List Value} {w : AW} {Q : AQ} : Bk 251 0 kc ks ls st w Q = wp Bk 251 [("java/lang/IllegalStateException", 8, 2)] (1, 6) (some .int) Q c251_0 kc ks ls st w := eS ⟨rfl, rfl⟩
theorem e251_8 {kc ks : Nat} {ls st : List Value} {w : AW} {Q : AQ} : Bk 251 8 kc ks ls st w Q = wp Bk 251 [("java/lang/IllegalStateException", 8, 2)] (1, 6) (some .int) Q c251_8 kc ks ls st w := eS ⟨rfl, rfl⟩
theorem e251_10 {kc ks : Nat} {ls st : List Value} {w : AW} {Q : AQ} : Bk 251 10 kc ks ls st w Q = wp Bk 251 [("java/lang/IllegalStateException", 8, 2)] (1, 6) (some .int) Q c251_10 kc ks ls st w := eS ⟨rfl, rfl⟩
theorem e252_0 {kc ks : Nat} {ls st : List Value} {w : AW} {Q : AQ} : Bk 252 0 kc ks ls st w Q = wp Bk 252 [] (0, 0) (some .int) Q c252_0 kc ks ls st w := eS ⟨rfl, rfl⟩
theorem e252_6 {kc ks : Nat} {ls st : List Value} {w : AW} {Q : AQ} : Bk 252 6 kc ks ls st w Q = wp Bk 252 [] (0, 0) (some .int) Q c252_6 kc ks ls st w := eS ⟨rfl, rfl⟩
theorem e252_7 {kc ks : Nat} {ls st : List Value} {w : AW} {Q : AQ} : Bk 252 7 kc ks ls st w Q = wp Bk 252 [] (0, 0) (some .int) Q c252_7 kc ks ls st w := eS ⟨rfl, rfl⟩
theorem e252_11 {kc ks : Nat} {ls st : List Value} {w : AW} {Q : AQ} : Bk 252 11 kc ks ls st w Q = wp Bk 252 [] (0, 0) (some .int) Q c252_11 kc ks ls st w := eS ⟨rfl, rfl⟩
theorem e253_0 {kc ks : Nat} {ls st : List Value} {w : AW} {Q : AQ} : Bk 253 0 kc ks ls st w Q = wp Bk 253 [] (601232, 7292407) (some .boolean) Q c253_0 kc ks ls st w := eS ⟨k253_0, rfl⟩
theorem e253_13 {kc ks : Nat} {ls st : List Value} {w : AW} {Q : AQ} : Bk 253 13 kc ks ls st w Q = wp Bk 253 [] (601232, 7292407) (some .boolean) Q c253_13 kc ks ls st w := eS ⟨k253_13, rfl⟩
theorem e253_25 {kc ks : Nat} {ls st : List Value} {w : AW} {Q : AQ} : Bk 253 25 kc ks ls st w Q = wp Bk 253 [] (601232, 7292407) (some .boolean) Q c253_25 kc ks ls st w := eS ⟨k253_25, rfl⟩
theorem e253_58 {kc ks : Nat} {ls st : List Value} {w : AW} {Q : AQ} : Bk 253 58 kc ks ls st w Q = wp Bk 253 [] (601232, 7292407) (some .boolean) Q c253_58 kc ks ls st w := eS ⟨k253_58, rfl⟩
theorem e253_69 {kc ks : Nat} {ls st : List Value} {w : AW} {Q : AQ} : Bk 253 69 kc ks ls st w Q = wp Bk 253 [] (601232, 7292407) (some .boolean) Q c253_69 kc ks ls st w := eS ⟨k253_69, rfl⟩
theorem e253_70 {kc ks : Nat} {ls st : List Value} {w : AW} {Q : AQ} : Bk 253 70 kc ks ls st w Q = wp Bk 253 [] (601232, 7292407) (some .boolean) Q c253_70 kc ks ls st w := eS ⟨k253_70, rfl⟩
theorem e253_95 {kc ks : Nat} {ls st : List Value} {w : AW} {Q : AQ} : Bk 253 95 kc ks ls st w Q = wp Bk 253 [] (601232, 7292407) (some .boolean) Q c253_95 kc ks ls st w := eS ⟨k253_95, rfl⟩
theorem e253_106 {kc ks : Nat} {ls st : List Value} {w : AW} {Q : AQ} : Bk 253 106 kc ks ls st w Q = wp Bk 253 [] (601232, 7292407) (some .boolean) Q c253_106 kc ks ls st w := eS ⟨k253_106, rfl⟩
theorem e253_107 {kc ks : Nat} {ls st : List Value} {w : AW} {Q : AQ} : Bk 253 107 kc ks ls st w Q = wp Bk 253 [] (601232, 7292407) (some .boolean) Q c253_107 kc ks ls st w := eS ⟨k253_107, rfl⟩
theorem e253_126 {kc ks : Nat} {ls st : List Value} {w : AW} {Q : AQ} : Bk 253 126 kc ks ls st w Q = wp Bk 253 [] (601232, 7292407) (some .boolean) Q c253_126 kc ks ls st w := eS ⟨k253_126, rfl⟩
theorem e253_127 {kc ks : Nat} {ls st : List Value} {w : AW} {Q : AQ} : Bk 253 127 kc ks ls st w Q = wp Bk 253 [] (601232, 7292407) (some .boolean) Q c253_127 kc ks ls st w := eS ⟨k253_127, rfl⟩
theorem e253_149 {kc ks : Nat} {ls st : List Value} {w : AW} {Q : AQ} : Bk 253 149 kc ks ls st w Q = wp Bk 253 [] (601232, 7292407) (some .boolean) Q c253_149 kc ks ls st w := eS ⟨k253_149, rfl⟩
theorem e253_150 {kc ks : Nat} {ls st : List Value} {w : AW} {Q : AQ} : Bk 253 150 kc ks ls st w Q = wp Bk 253 [] (601232, 7292407) (some .boolean) Q c253_150 kc ks ls st w := eS ⟨k253_150, rfl⟩
theorem e253_158 {kc ks : Nat} {ls st : List Value} {w : AW} {Q : AQ} : Bk 253 158 kc ks ls st w Q = wp Bk 253 [] (601232, 7292407) (some .boolean) Q c253_158 kc ks ls st w := eS ⟨k253_158, rfl⟩
theorem e253_167 {kc ks : Nat} {ls st : List Value} {w : AW} {Q : AQ} : Bk 253 167 kc ks ls st w Q = wp Bk 253 [] (601232, 7292407) (some .boolean) Q c253_167 kc ks ls st w := eS ⟨k253_167, rfl⟩
theorem e253_168 {kc ks : Nat} {ls st : List Value} {w : AW} {Q : AQ} : Bk 253 168 kc ks ls st w Q = wp Bk 253 [] (601232, 7292407) (some .boolean) Q c253_168 kc ks ls st w := eS ⟨k253_168, rfl⟩
theorem e253_172 {kc ks : Nat} {ls st : List Value} {w : AW} {Q : AQ} : Bk 253 172 kc ks ls st w Q = wp Bk 253 [] (601232, 7292407) (some .boolean) Q c253_172 kc ks ls st w := eS ⟨k253_172, rfl⟩
theorem e253_173 {kc ks : Nat} {ls st : List Value} {w : AW} {Q : AQ} : Bk 253 173 kc ks ls st w Q = wp Bk 253 [] (601232, 7292407) (some .boolean) Q c253_173 kc ks ls st w := eS ⟨k253_173, rfl⟩
theorem e253_206 {kc ks : Nat} {ls st : List Value} {w : AW} {Q : AQ} : Bk 253 206 kc ks ls st w Q = wp Bk 253 [] (601232, 7292407) (some .boolean) Q c253_206 kc ks ls st w := eS ⟨k253_206, rfl⟩
theorem e253_217 {kc ks : Nat} {ls st : List Value} {w : AW} {Q : AQ} : Bk 253 217 kc ks ls st w Q = wp Bk 253 [] (601232, 7292407) (some .boolean) Q c253_217 kc ks ls st w := eS ⟨k253_217, rfl⟩
theorem e253_218 {kc ks : Nat} {ls st : List Value} {w : AW} {Q : AQ} : Bk 253 218 kc ks ls st w Q = wp Bk 253 [] (601232, 7292407) (some .boolean) Q c253_218 kc ks ls st w := eS ⟨k253_218, rfl⟩
theorem e253_225 {kc ks : Nat} {ls st : List Value} {w : AW} {Q : AQ} : Bk 253 225 kc ks ls st w Q = wp Bk 253 [] (601232, 7292407) (some .boolean) Q c253_225 kc ks ls st w := eS ⟨k253_225, rfl⟩
theorem e253_232 {kc ks : Nat} {ls st : List Value} {w : AW} {Q : AQ} : Bk 253 232 kc ks ls st w Q = wp Bk 253 [] (601232, 7292407) (some .boolean) Q c253_232 kc ks ls st w := eS ⟨k253_232, rfl⟩
theorem e253_239 {kc ks : Nat} {ls st : List Value} {w : AW} {Q : AQ} : Bk 253 239 kc ks ls st w Q = wp Bk 253 [] (601232, 7292407) (some .boolean) Q c253_239 kc ks ls st w := eS ⟨k253_239, rfl⟩
theorem e253_272 {kc ks : Nat} {ls st : List Value} {w : AW} {Q : AQ} : Bk 253 272 kc ks ls st w Q = wp Bk 253 [] (601232, 7292407) (some .boolean) Q c253_272 kc ks ls st w := eS ⟨k253_272, rfl⟩
theorem e253_281 {kc ks : Nat} {ls st : List Value} {w : AW} {Q : AQ} : Bk 253 281 kc ks ls st w Q = wp Bk 253 [] (601232, 7292407) (some .boolean) Q c253_281 kc ks ls st w := eS ⟨k253_281, rfl⟩
theorem e253_282 {kc ks : Nat} {ls st : List Value} {w : AW} {Q : AQ} : Bk 253 282 kc ks ls st w Q = wp Bk 253 [] (601232, 7292407) (some .boolean) Q c253_282 kc ks ls st w := eS ⟨k253_282, rfl⟩
theorem e253_286 {kc ks : Nat} {ls st : List Value} {w : AW} {Q : AQ} : Bk 253 286 kc ks ls st w Q = wp Bk 253 [] (601232, 7292407) (some .boolean) Q c253_286 kc ks ls st w := eS ⟨k253_286, rfl⟩
theorem e253_287 {kc ks : Nat} {ls st : List Value} {w : AW} {Q : AQ} : Bk 253 287 kc ks ls st w Q = wp Bk 253 [] (601232, 7292407) (some .boolean) Q c253_287 kc ks ls st w := eS ⟨k253_287, rfl⟩
theorem e253_320 {kc ks : Nat} {ls st : List Value} {w : AW} {Q : AQ} : Bk 253 320 kc ks ls st w Q = wp Bk 253 [] (601232, 7292407) (some .boolean) Q c253_320 kc ks ls st w := eS ⟨k253_320, rfl⟩
theorem e253_329 {kc ks : Nat} {ls st : List Value} {w : AW} {Q : AQ} : Bk 253 329 kc ks ls st w Q = wp Bk 253 [] (601232, 7292407) (some .boolean) Q c253_329 kc ks ls st w := eS ⟨k253_329, rfl⟩
theorem e253_330 {kc ks : Nat} {ls st : List Value} {w : AW} {Q : AQ} : Bk 253 330 kc ks ls st w Q = wp Bk 253 [] (601232, 7292407) (some .boolean) Q c253_330 kc ks ls st w := eS ⟨k253_330, rfl⟩
theorem e253_334 {kc ks : Nat} {ls st : List Value} {w : AW} {Q : AQ} : Bk 253 334 kc ks ls st w Q = wp Bk 253 [] (601232, 7292407) (some .boolean) Q c253_334 kc ks ls st w := eS ⟨k253_334, rfl⟩
theorem e253_335 {kc ks : Nat} {ls st : List Value} {w : AW} {Q : AQ} : Bk 253 335 kc ks ls st w Q = wp Bk 253 [] (601232, 7292407) (some .boolean) Q c253_335 kc ks ls st w := eS ⟨k253_335, rfl⟩
theorem e253_342 {kc ks : Nat} {ls st : List Value} {w : AW} {Q : AQ} : Bk 253 342 kc ks ls st w Q = wp Bk 253 [] (601232, 7292407) (some .boolean) Q c253_342 kc ks ls st w := eS ⟨k253_342, rfl⟩
theorem e253_365 {kc ks : Nat} {ls st : List Value} {w : AW} {Q : AQ} : Bk 253 365 kc ks ls st w Q = wp Bk 253 [] (601232, 7292407) (some .boolean) Q c253_365 kc ks ls st w := eS ⟨k253_365, rfl⟩
theorem e253_376 {kc ks : Nat} {ls st : List Value} {w : AW} {Q : AQ} : Bk 253 376 kc ks ls st w Q = wp Bk 253 [] (601232, 7292407) (some .boolean) Q c253_376 kc ks ls st w := eS ⟨k253_376, rfl⟩
theorem e253_377 {kc ks : Nat} {ls st : List Value} {w : AW} {Q : AQ} : Bk 253 377 kc ks ls st w Q = wp Bk 253 [] (601232, 7292407) (some .boolean) Q c253_377 kc ks ls st w := eS ⟨k253_377, rfl⟩
theorem e253_400 {kc ks : Nat} {ls st : List Value} {w : AW} {Q : AQ} : Bk 253 400 kc ks ls st w Q = wp Bk 253 [] (601232, 7292407) (some .boolean) Q c253_400 kc ks ls st w := eS ⟨k253_400, rfl⟩
theorem e253_411 {kc ks : Nat} {ls st : List Value} {w : AW} {Q : AQ} : Bk 253 411 kc ks ls st w Q = wp Bk 253 [] (601232, 7292407) (some .boolean) Q c253_411 kc ks ls st w := eS ⟨k253_411, rfl⟩
theorem e253_412 {kc ks : Nat} {ls st : List Value} {w : AW} {Q : AQ} : Bk 253 412 kc ks ls st w Q = wp Bk 253 [] (601232, 7292407) (some .boolean) Q c253_412 kc ks ls st w := eS ⟨k253_412, rfl⟩
theorem e253_445 {kc ks : Nat} {ls st : List Value} {w : AW} {Q : AQ} : Bk 253 445 kc ks ls st w Q = wp Bk 253 [] (601232, 7292407) (some .boolean) Q c253_445 kc ks ls st w := eS ⟨k253_445, rfl⟩
theorem e253_456 {kc ks : Nat} {ls st : List Value} {w : AW} {Q : AQ} : Bk 253 456 kc ks ls st w Q = wp Bk 253 [] (601232, 7292407) (some .boolean) Q c253_456 kc ks ls st w := eS ⟨k253_456, rfl⟩
theorem e253_457 {kc ks : Nat} {ls st : List Value} {w : AW} {Q : AQ} : Bk 253 457 kc ks ls st w Q = wp Bk 253 [] (601232, 7292407) (some .boolean) Q c253_457 kc ks ls st w := eS ⟨k253_457, rfl⟩
theorem e253_490 {kc ks : Nat} {ls st : List Value} {w : AW} {Q : AQ} : Bk 253 490 kc ks ls st w Q = wp Bk 253 [] (601232, 7292407) (some .boolean) Q c253_490 kc ks ls st w := eS ⟨k253_490, rfl⟩
theorem e253_501 {kc ks : Nat} {ls st : List Value} {w : AW} {Q : AQ} : Bk 253 501 kc ks ls st w Q = wp Bk 253 [] (601232, 7292407) (some .boolean) Q c253_501 kc ks ls st w := eS ⟨k253_501, rfl⟩
theorem e253_502 {kc ks : Nat} {ls st : List Value} {w : AW} {Q : AQ} : Bk 253 502 kc ks ls st w Q = wp Bk 253 [] (601232, 7292407) (some .boolean) Q c253_502 kc ks ls st w := eS ⟨k253_502, rfl⟩
theorem e253_535 {kc ks : Nat} {ls st : List Value} {w : AW} {Q : AQ} : Bk 253 535 kc ks ls st w Q = wp Bk 253 [] (601232, 7292407) (some .boolean) Q c253_535 kc ks ls st w := eS ⟨k253_535, rfl⟩
theorem e253_544 {kc ks : Nat} {ls st : List Value} {w : AW} {Q : AQ} : Bk 253 544 kc ks ls st w Q = wp Bk 253 [] (601232, 7292407) (some .boolean) Q c253_544 kc ks ls st w := eS ⟨k253_544, rfl⟩
theorem e253_545 {kc ks : Nat} {ls st : List Value} {w : AW} {Q : AQ} : Bk 253 545 kc ks ls st w Q = wp Bk 253 [] (601232, 7292407) (some .boolean) Q c253_545 kc ks ls st w := eS ⟨k253_545, rfl⟩
theorem e253_549 {kc ks : Nat} {ls st : List Value} {w : AW} {Q : AQ} : Bk 253 549 kc ks ls st w Q = wp Bk 253 [] (601232, 7292407) (some .boolean) Q c253_549 kc ks ls st w := eS ⟨k253_549, rfl⟩
theorem e253_550 {kc ks : Nat} {ls st : List Value} {w : AW} {Q : AQ} : Bk 253 550 kc ks ls st w Q = wp Bk 253 [] (601232, 7292407) (some .boolean) Q c253_550 kc ks ls st w := eS ⟨k253_550, rfl⟩
theorem e253_583 {kc ks : Nat} {ls st : List Value} {w : AW} {Q : AQ} : Bk 253 583 kc ks ls st w Q = wp Bk 253 [] (601232, 7292407) (some .boolean) Q c253_583 kc ks ls st w := eS ⟨k253_583, rfl⟩
theorem e253_592 {kc ks : Nat} {ls st : List Value} {w : AW} {Q : AQ} : Bk 253 592 kc ks ls st w Q = wp Bk 253 [] (601232, 7292407) (some .boolean) Q c253_592 kc ks ls st w := eS ⟨k253_592, rfl⟩
theorem e253_593 {kc ks : Nat} {ls st : List Value} {w : AW} {Q : AQ} : Bk 253 593 kc ks ls st w Q = wp Bk 253 [] (601232, 7292407) (some .boolean) Q c253_593 kc ks ls st w := eS ⟨k253_593, rfl⟩
theorem e253_597 {kc ks : Nat} {ls st : List Value} {w : AW} {Q : AQ} : Bk 253 597 kc ks ls st w Q = wp Bk 253 [] (601232, 7292407) (some .boolean) Q c253_597 kc ks ls st w := eS ⟨k253_597, rfl⟩
theorem e253_598 {kc ks : Nat} {ls st : List Value} {w : AW} {Q : AQ} : Bk 253 598 kc ks ls st w Q = wp Bk 253 [] (601232, 7292407) (some .boolean) Q c253_598 kc ks ls st w := eS ⟨k253_598, rfl⟩
theorem e253_605 {kc ks : Nat} {ls st : List Value} {w : AW} {Q : AQ} : Bk 253 605 kc ks ls st w Q = wp Bk 253 [] (601232, 7292407) (some .boolean) Q c253_605 kc ks ls st w := eS ⟨k253_605, rfl⟩
theorem e253_612 {kc ks : Nat} {ls st : List Value} {w : AW} {Q : AQ} : Bk 253 612 kc ks ls st w Q = wp Bk 253 [] (601232, 7292407) (some .boolean) Q c253_612 kc ks ls st w := eS ⟨k253_612, rfl⟩
theorem e253_619 {kc ks : Nat} {ls st : List Value} {w : AW} {Q : AQ} : Bk 253 619 kc ks ls st w Q = wp Bk 253 [] (601232, 7292407) (some .boolean) Q c253_619 kc ks ls st w := eS ⟨k253_619, rfl⟩
theorem e253_626 {kc ks : Nat} {ls st : List Value} {w : AW} {Q : AQ} : Bk 253 626 kc ks ls st w Q = wp Bk 253 [] (601232, 7292407) (some .boolean) Q c253_626 kc ks ls st w := eS ⟨k253_626, rfl⟩
theorem e253_633 {kc ks : Nat} {ls st : List Value} {w : AW} {Q : AQ} : Bk 253 633 kc ks ls st w Q = wp Bk 253 [] (601232, 7292407) (some .boolean) Q c253_633 kc ks ls st w := eS ⟨k253_633, rfl⟩
theorem e253_666 {kc ks : Nat} {ls st : List Value} {w : AW} {Q : AQ} : Bk 253 666 kc ks ls st w Q = wp Bk 253 [] (601232, 7292407) (some .boolean) Q c253_666 kc ks ls st w := eS ⟨k253_666, rfl⟩
theorem e253_675 {kc ks : Nat} {ls st : List Value} {w : AW} {Q : AQ} : Bk 253 675 kc ks ls st w Q = wp Bk 253 [] (601232, 7292407) (some .boolean) Q c253_675 kc ks ls st w := eS ⟨k253_675, rfl⟩
theorem e253_676 {kc ks : Nat} {ls st : List Value} {w : AW} {Q : AQ} : Bk 253 676 kc ks ls st w Q = wp Bk 253 [] (601232, 7292407) (some .boolean) Q c253_676 kc ks ls st w := eS ⟨k253_676, rfl⟩
theorem e253_680 {kc ks : Nat} {ls st : List Value} {w : AW} {Q : AQ} : Bk 253 680 kc ks ls st w Q = wp Bk 253 [] (601232, 7292407) (some .boolean) Q c253_680 kc ks ls st w := eS ⟨k253_680, rfl⟩
theorem e253_681 {kc ks : Nat} {ls st : List Value} {w : AW} {Q : AQ} : Bk 253 681 kc ks ls st w Q = wp Bk 253 [] (601232, 7292407) (some .boolean) Q c253_681 kc ks ls st w := eS ⟨k253_681, rfl⟩
theorem e253_688 {kc ks : Nat} {ls st : List Value} {w : AW} {Q : AQ} : Bk 253 688 kc ks ls st w Q = wp Bk 253 [] (601232, 7292407) (some .boolean) Q c253_688 kc ks ls st w := eS ⟨k253_688, rfl⟩
theorem e253_701 {kc ks : Nat} {ls st : List Value} {w : AW} {Q : AQ} : Bk 253 701 kc ks ls st w Q = wp Bk 253 [] (601232, 7292407) (some .boolean) Q c253_701 kc ks ls st w := eS ⟨k253_701, rfl⟩
theorem e253_712 {kc ks : Nat} {ls st : List Value} {w : AW} {Q : AQ} : Bk 253 712 kc ks ls st w Q = wp Bk 253 [] (601232, 7292407) (some .boolean) Q c253_712 kc ks ls st w := eS ⟨k253_712, rfl⟩
theorem e253_713 {kc ks : Nat} {ls st : List Value} {w : AW} {Q : AQ} : Bk 253 713 kc ks ls st w Q = wp Bk 253 [] (601232, 7292407) (some .boolean) Q c253_713 kc ks ls st w := eS ⟨k253_713, rfl⟩
theorem e253_746 {kc ks : Nat} {ls st : List Value} {w : AW} {Q : AQ} : Bk 253 746 kc ks ls st w Q = wp Bk 253 [] (601232, 7292407) (some .boolean) Q c253_746 kc ks ls st w := eS ⟨k253_746, rfl⟩
theorem e253_755 {kc ks : Nat} {ls st : List Value} {w : AW} {Q : AQ} : Bk 253 755 kc ks ls st w Q = wp Bk 253 [] (601232, 7292407) (some .boolean) Q c253_755 kc ks ls st w := eS ⟨k253_755, rfl⟩
theorem e253_756 {kc ks : Nat} {ls st : List Value} {w : AW} {Q : AQ} : Bk 253 756 kc ks ls st w Q = wp Bk 253 [] (601232, 7292407) (some .boolean) Q c253_756 kc ks ls st w := eS ⟨k253_756, rfl⟩
theorem e253_760 {kc ks : Nat} {ls st : List Value} {w : AW} {Q : AQ} : Bk 253 760 kc ks ls st w Q = wp Bk 253 [] (601232, 7292407) (some .boolean) Q c253_760 kc ks ls st w := eS ⟨k253_760, rfl⟩
theorem e253_761 {kc ks : Nat} {ls st : List Value} {w : AW} {Q : AQ} : Bk 253 761 kc ks ls st w Q = wp Bk 253 [] (601232, 7292407) (some .boolean) Q c253_761 kc ks ls st w := eS ⟨k253_761, rfl⟩
theorem e253_774 {kc ks : Nat} {ls st : List Value} {w : AW} {Q : AQ} : Bk 253 774 kc ks ls st w Q = wp Bk 253 [] (601232, 7292407) (some .boolean) Q c253_774 kc ks ls st w := eS ⟨k253_774, rfl⟩
theorem e253_785 {kc ks : Nat} {ls st : List Value} {w : AW} {Q : AQ} : Bk 253 785 kc ks ls st w Q = wp Bk 253 [] (601232, 7292407) (some .boolean) Q c253_785 kc ks ls st w := eS ⟨k253_785, rfl⟩
theorem e253_786 {kc ks : Nat} {ls st : List Value} {w : AW} {Q : AQ} : Bk 253 786 kc ks ls st w Q = wp Bk 253 [] (601232, 7292407) (some .boolean) Q c253_786 kc ks ls st w := eS ⟨k253_786, rfl⟩
theorem e253_799 {kc ks : Nat} {ls st : List Value} {w : AW} {Q : AQ} : Bk 253 799 kc ks ls st w Q = wp Bk 253 [] (601232, 7292407) (some .boolean) Q c253_799 kc ks ls st w := eS ⟨k253_799, rfl⟩
theorem e253_810 {kc ks : Nat} {ls st : List Value} {w : AW} {Q : AQ} : Bk 253 810 kc ks ls st w Q = wp Bk 253 [] (601232, 7292407) (some .boolean) Q c253_810 kc ks ls st w := eS ⟨k253_810, rfl⟩
theorem e253_811 {kc ks : Nat} {ls st : List Value} {w : AW} {Q : AQ} : Bk 253 811 kc ks ls st w Q = wp Bk 253 [] (601232, 7292407) (some .boolean) Q c253_811 kc ks ls st w := eS ⟨k253_811, rfl⟩
theorem e253_856 {kc ks : Nat} {ls st : List Value} {w : AW} {Q : AQ} : Bk 253 856 kc ks ls st w Q = wp Bk 253 [] (601232, 7292407) (some .boolean) Q c253_856 kc ks ls st w := eS ⟨k253_856, rfl⟩
theorem e253_867 {kc ks : Nat} {ls st : List Value} {w : AW} {Q : AQ} : Bk 253 867 kc ks ls st w Q = wp Bk 253 [] (601232, 7292407) (some .boolean) Q c253_867 kc ks ls st w := eS ⟨k253_867, rfl⟩
theorem e253_868 {kc ks : Nat} {ls st : List Value} {w : AW} {Q : AQ} : Bk 253 868 kc ks ls st w Q = wp Bk 253 [] (601232, 7292407) (some .boolean) Q c253_868 kc ks ls st w := eS ⟨k253_868, rfl⟩
theorem e253_891 {kc ks : Nat} {ls st : List Value} {w : AW} {Q : AQ} : Bk 253 891 kc ks ls st w Q = wp Bk 253 [] (601232, 7292407) (some .boolean) Q c253_891 kc ks ls st w := eS ⟨k253_891, rfl⟩
theorem e253_902 {kc ks : Nat} {ls st : List Value} {w : AW} {Q : AQ} : Bk 253 902 kc ks ls st w Q = wp Bk 253 [] (601232, 7292407) (some .boolean) Q c253_902 kc ks ls st w := eS ⟨k253_902, rfl⟩
theorem e253_903 {kc ks : Nat} {ls st : List Value} {w : AW} {Q : AQ} : Bk 253 903 kc ks ls st w Q = wp Bk 253 [] (601232, 7292407) (some .boolean) Q c253_903 kc ks ls st w := eS ⟨k253_903, rfl⟩
theorem e253_910 {kc ks : Nat} {ls st : List Value} {w : AW} {Q : AQ} : Bk 253 910 kc ks ls st w Q = wp Bk 253 [] (601232, 7292407) (some .boolean) Q c253_910 kc ks ls st w := eS ⟨k253_910, rfl⟩
theorem e253_917 {kc ks : Nat} {ls st : List Value} {w : AW} {Q : AQ} : Bk 253 917 kc ks ls st w Q = wp Bk 253 [] (601232, 7292407) (some .boolean) Q c253_917 kc ks ls st w := eS ⟨k253_917, rfl⟩
theorem e253_940 {kc ks : Nat} {ls st : List Value} {w : AW} {Q : AQ} : Bk 253 940 kc ks ls st w Q = wp Bk 253 [] (601232, 7292407) (some .boolean) Q c253_940 kc ks ls st w := eS ⟨k253_940, rfl⟩
theorem e253_951 {kc ks : Nat} {ls st : List Value} {w : AW} {Q : AQ} : Bk 253 951 kc ks ls st w Q = wp Bk 253 [] (601232, 7292407) (some .boolean) Q c253_951 kc ks ls st w := eS ⟨k253_951, rfl⟩
theorem e253_952 {kc ks : Nat} {ls st : List Value} {w : AW} {Q : AQ} : Bk 253 952 kc ks ls st w Q = wp Bk 253 [] (601232, 7292407) (some .boolean) Q c253_952 kc ks ls st w := eS ⟨k253_952, rfl⟩
theorem e253_975 {kc ks : Nat} {ls st : List Value} {w : AW} {Q : AQ} : Bk 253 975 kc ks ls st w Q = wp Bk 253 [] (601232, 7292407) (some .boolean) Q c253_975 kc ks ls st w := eS ⟨k253_975, rfl⟩
theorem e253_986 {kc ks : Nat} {ls st : List Value} {w : AW} {Q : AQ} : Bk 253 986 kc ks ls st w Q = wp Bk 253 [] (601232, 7292407) (some .boolean) Q c253_986 kc ks ls st w := eS ⟨k253_986, rfl⟩
theorem e253_987 {kc ks : Nat} {ls st : List Value} {w : AW} {Q : AQ} : Bk 253 987 kc ks ls st w Q = wp Bk 253 [] (601232, 7292407) (some .boolean) Q c253_987 kc ks ls st w := eS ⟨k253_987, rfl⟩
theorem e253_1010 {kc ks : Nat} {ls st : List Value} {w : AW} {Q : AQ} : Bk 253 1010 kc ks ls st w Q = wp Bk 253 [] (601232, 7292407) (some .boolean) Q c253_1010 kc ks ls st w := eS ⟨k253_1010, rfl⟩
theorem e253_1021 {kc ks : Nat} {ls st : List Value} {w : AW} {Q : AQ} : Bk 253 1021 kc ks ls st w Q = wp Bk 253 [] (601232, 7292407) (some .boolean) Q c253_1021 kc ks ls st w := eS ⟨k253_1021, rfl⟩
theorem e253_1022 {kc ks : Nat} {ls st : List Value} {w : AW} {Q : AQ} : Bk 253 1022 kc ks ls st w Q = wp Bk 253 [] (601232, 7292407) (some .boolean) Q c253_1022 kc ks ls st w := eS ⟨k253_1022, rfl⟩
theorem e253_1055 {kc ks : Nat} {ls st : List Value} {w : AW} {Q : AQ} : Bk 253 1055 kc ks ls st w Q = wp Bk 253 [] (601232, 7292407) (some .boolean) Q c253_1055 kc ks ls st w := eS ⟨k253_1055, rfl⟩
theorem e253_1066 {kc ks : Nat} {ls st : List Value} {w : AW} {Q : AQ} : Bk 253 1066 kc ks ls st w Q = wp Bk 253 [] (601232, 7292407) (some .boolean) Q c253_1066 kc ks ls st w := eS ⟨k253_1066, rfl⟩
theorem e253_1067 {kc ks : Nat} {ls st : List Value} {w : AW} {Q : AQ} : Bk 253 1067 kc ks ls st w Q = wp Bk 253 [] (601232, 7292407) (some .boolean) Q c253_1067 kc ks ls st w := eS ⟨k253_1067, rfl⟩
theorem e253_1074 {kc ks : Nat} {ls st : List Value} {w : AW} {Q : AQ} : Bk 253 1074 kc ks ls st w Q = wp Bk 253 [] (601232, 7292407) (some .boolean) Q c253_1074 kc ks ls st w := eS ⟨k253_1074, rfl⟩
theorem e253_1097 {kc ks : Nat} {ls st : List Value} {w : AW} {Q : AQ} : Bk 253 1097 kc ks ls st w Q = wp Bk 253 [] (601232, 7292407) (some .boolean) Q c253_1097 kc ks ls st w := eS ⟨k253_1097, rfl⟩
theorem e253_1108 {kc ks : Nat} {ls st : List Value} {w : AW} {Q : AQ} : Bk 253 1108 kc ks ls st w Q = wp Bk 253 [] (601232, 7292407) (some .boolean) Q c253_1108 kc ks ls st w := eS ⟨k253_1108, rfl⟩
theorem e253_1109 {kc ks : Nat} {ls st : List Value} {w : AW} {Q : AQ} : Bk 253 1109 kc ks ls st w Q = wp Bk 253 [] (601232, 7292407) (some .boolean) Q c253_1109 kc ks ls st w := eS ⟨k253_1109, rfl⟩
theorem e253_1132 {kc ks : Nat} {ls st : List Value} {w : AW} {Q : AQ} : Bk 253 1132 kc ks ls st w Q = wp Bk 253 [] (601232, 7292407) (some .boolean) Q c253_1132 kc ks ls st w := eS ⟨k253_1132, rfl⟩
theorem e253_1143 {kc ks : Nat} {ls st : List Value} {w : AW} {Q : AQ} : Bk 253 1143 kc ks ls st w Q = wp Bk 253 [] (601232, 7292407) (some .boolean) Q c253_1143 kc ks ls st w := eS ⟨k253_1143, rfl⟩
theorem e253_1144 {kc ks : Nat} {ls st : List Value} {w : AW} {Q : AQ} : Bk 253 1144 kc ks ls st w Q = wp Bk 253 [] (601232, 7292407) (some .boolean) Q c253_1144 kc ks ls st w := eS ⟨k253_1144, rfl⟩
theorem e253_1162 {kc ks : Nat} {ls st : List Value} {w : AW} {Q : AQ} : Bk 253 1162 kc ks ls st w Q = wp Bk 253 [] (601232, 7292407) (some .boolean) Q c253_1162 kc ks ls st w := eS ⟨k253_1162, rfl⟩
theorem e253_1164 {kc ks : Nat} {ls st : List Value} {w : AW} {Q : AQ} : Bk 253 1164 kc ks ls st w Q = wp Bk 253 [] (601232, 7292407) (some .boolean) Q c253_1164 kc ks ls st w := eS ⟨k253_1164, rfl⟩
theorem e253_1165 {kc ks : Nat} {ls st : List Value} {w : AW} {Q : AQ} : Bk 253 1165 kc ks ls st w Q = wp Bk 253 [] (601232, 7292407) (some .boolean) Q c253_1165 kc ks ls st w := eS ⟨k253_1165, rfl⟩
theorem e253_1185 {kc ks : Nat} {ls st : List Value} {w : AW} {Q : AQ} : Bk 253 1185 kc ks ls st w Q = wp Bk 253 [] (601232, 7292407) (some .boolean) Q c253_1185 kc ks ls st w := eS ⟨k253_1185, rfl⟩
theorem e253_1187 {kc ks : Nat} {ls st : List Value} {w : AW} {Q : AQ} : Bk 253 1187 kc ks ls st w Q = wp Bk 253 [] (601232, 7292407) (some .boolean) Q c253_1187 kc ks ls st w := eS ⟨k253_1187, rfl⟩
theorem e253_1188 {kc ks : Nat} {ls st : List Value} {w : AW} {Q : AQ} : Bk 253 1188 kc ks ls st w Q = wp Bk 253 [] (601232, 7292407) (some .boolean) Q c253_1188 kc ks ls st w := eS ⟨k253_1188, rfl⟩
theorem e253_1195 {kc ks : Nat} {ls st : List Value} {w : AW} {Q : AQ} : Bk 253 1195 kc ks ls st w Q = wp Bk 253 [] (601232, 7292407) (some .boolean) Q c253_1195 kc ks ls st w := eS ⟨k253_1195, rfl⟩
theorem e253_1220 {kc ks : Nat} {ls st : List Value} {w : AW} {Q : AQ} : Bk 253 1220 kc ks ls st w Q = wp Bk 253 [] (601232, 7292407) (some .boolean) Q c253_1220 kc ks ls st w := eS ⟨k253_1220, rfl⟩
theorem e253_1231 {kc ks : Nat} {ls st : List Value} {w : AW} {Q : AQ} : Bk 253 1231 kc ks ls st w Q = wp Bk 253 [] (601232, 7292407) (some .boolean) Q c253_1231 kc ks ls st w := eS ⟨k253_1231, rfl⟩
theorem e253_1232 {kc ks : Nat} {ls st : List Value} {w : AW} {Q : AQ} : Bk 253 1232 kc ks ls st w Q = wp Bk 253 [] (601232, 7292407) (some .boolean) Q c253_1232 kc ks ls st w := eS ⟨k253_1232, rfl⟩
theorem e253_1245 {kc ks : Nat} {ls st : List Value} {w : AW} {Q : AQ} : Bk 253 1245 kc ks ls st w Q = wp Bk 253 [] (601232, 7292407) (some .boolean) Q c253_1245 kc ks ls st w := eS ⟨k253_1245, rfl⟩
theorem e253_1256 {kc ks : Nat} {ls st : List Value} {w : AW} {Q : AQ} : Bk 253 1256 kc ks ls st w Q = wp Bk 253 [] (601232, 7292407) (some .boolean) Q c253_1256 kc ks ls st w := eS ⟨k253_1256, rfl⟩
theorem e253_1257 {kc ks : Nat} {ls st : List Value} {w : AW} {Q : AQ} : Bk 253 1257 kc ks ls st w Q = wp Bk 253 [] (601232, 7292407) (some .boolean) Q c253_1257 kc ks ls st w := eS ⟨k253_1257, rfl⟩
theorem e253_1270 {kc ks : Nat} {ls st : List Value} {w : AW} {Q : AQ} : Bk 253 1270 kc ks ls st w Q = wp Bk 253 [] (601232, 7292407) (some .boolean) Q c253_1270 kc ks ls st w := eS ⟨k253_1270, rfl⟩
theorem e253_1281 {kc ks : Nat} {ls st : List Value} {w : AW} {Q : AQ} : Bk 253 1281 kc ks ls st w Q = wp Bk 253 [] (601232, 7292407) (some .boolean) Q c253_1281 kc ks ls st w := eS ⟨k253_1281, rfl⟩
theorem e253_1282 {kc ks : Nat} {ls st : List Value} {w : AW} {Q : AQ} : Bk 253 1282 kc ks ls st w Q = wp Bk 253 [] (601232, 7292407) (some .boolean) Q c253_1282 kc ks ls st w := eS ⟨k253_1282, rfl⟩
theorem e253_1295 {kc ks : Nat} {ls st : List Value} {w : AW} {Q : AQ} : Bk 253 1295 kc ks ls st w Q = wp Bk 253 [] (601232, 7292407) (some .boolean) Q c253_1295 kc ks ls st w := eS ⟨k253_1295, rfl⟩
theorem e253_1306 {kc ks : Nat} {ls st : List Value} {w : AW} {Q : AQ} : Bk 253 1306 kc ks ls st w Q = wp Bk 253 [] (601232, 7292407) (some .boolean) Q c253_1306 kc ks ls st w := eS ⟨k253_1306, rfl⟩
theorem e253_1307 {kc ks : Nat} {ls st : List Value} {w : AW} {Q : AQ} : Bk 253 1307 kc ks ls st w Q = wp Bk 253 [] (601232, 7292407) (some .boolean) Q c253_1307 kc ks ls st w := eS ⟨k253_1307, rfl⟩
theorem e253_1320 {kc ks : Nat} {ls st : List Value} {w : AW} {Q : AQ} : Bk 253 1320 kc ks ls st w Q = wp Bk 253 [] (601232, 7292407) (some .boolean) Q c253_1320 kc ks ls st w := eS ⟨k253_1320, rfl⟩
theorem e253_1331 {kc ks : Nat} {ls st : List Value} {w : AW} {Q : AQ} : Bk 253 1331 kc ks ls st w Q = wp Bk 253 [] (601232, 7292407) (some .boolean) Q c253_1331 kc ks ls st w := eS ⟨k253_1331, rfl⟩
theorem e253_1332 {kc ks : Nat} {ls st : List Value} {w : AW} {Q : AQ} : Bk 253 1332 kc ks ls st w Q = wp Bk 253 [] (601232, 7292407) (some .boolean) Q c253_1332 kc ks ls st w := eS ⟨k253_1332, rfl⟩
theorem e253_1339 {kc ks : Nat} {ls st : List Value} {w : AW} {Q : AQ} : Bk 253 1339 kc ks ls st w Q = wp Bk 253 [] (601232, 7292407) (some .boolean) Q c253_1339 kc ks ls st w := eS ⟨k253_1339, rfl⟩
theorem e253_1352 {kc ks : Nat} {ls st : List Value} {w : AW} {Q : AQ} : Bk 253 1352 kc ks ls st w Q = wp Bk 253 [] (601232, 7292407) (some .boolean) Q c253_1352 kc ks ls st w := eS ⟨k253_1352, rfl⟩
theorem e253_1363 {kc ks : Nat} {ls st : List Value} {w : AW} {Q : AQ} : Bk 253 1363 kc ks ls st w Q = wp Bk 253 [] (601232, 7292407) (some .boolean) Q c253_1363 kc ks ls st w := eS ⟨k253_1363, rfl⟩
theorem e253_1364 {kc ks : Nat} {ls st : List Value} {w : AW} {Q : AQ} : Bk 253 1364 kc ks ls st w Q = wp Bk 253 [] (601232, 7292407) (some .boolean) Q c253_1364 kc ks ls st w := eS ⟨k253_1364, rfl⟩
theorem e253_1366 {kc ks : Nat} {ls st : List Value} {w : AW} {Q : AQ} : Bk 253 1366 kc ks ls st w Q = wp Bk 253 [] (601232, 7292407) (some .boolean) Q c253_1366 kc ks ls st w := eS ⟨k253_1366, rfl⟩
