/-! changes of the board, on both sides -/
theorem kp7f {G : HP} {k : Nat} {g : Nat → Int32} : us (kpG G 125 k false) 125 g 124 7 = 0 := by
  rw [us_ne (by decide)]
  exact kpG_7
section Changes
variable {C G : HP} {z : WB} {m : Nat} {x y : Int32}
theorem s_resize (h : INV C G m) : ST2 17 24 [.ref 59, .int x, .int y, .ref 135, xk] [.ref 124, .int x, .int y, xk] PI C G z m := by
  obtain ⟨r, c, n, hb⟩ := id h.1
  obtain ⟨hx, hc, hi, kh, key⟩ := INV_mod h
  by_cases q : (iN x 1 5 && iN y 1 5) = true
  · obtain ⟨a, b, k, rfl, rfl⟩ := iZ_1 q
    exact ST_ok (fun G0 Q => l_resize1 k hi) (fun C0 z0 Q => m_resize1 k kh) kp7f rfl trivial (key (m + 1000) _ _ a b 0 (by omega) FRK_cSz (BC_up (BC_size (BC_rm hb) k.1 k.2) (by omega)))
  · have q' := Bool.eq_false_iff.mpr q
    exact ST_no (fun G0 Q => l_resize0 (iZ_iN.trans q')) (fun C0 z0 Q => m_resize0 q') (by decide) rfl trivial (INV_q h (by omega) FQ_r FM_sc)
theorem s_setPattern (h : INV C G m) : ST2 37 38 [.ref 59, .int x, .ref 135, xk] [.ref 124, .int x, xk] PI C G z m := by
  obtain ⟨r, c, n, hb⟩ := id h.1
  obtain ⟨hx, hc, hi, kh, key⟩ := INV_mod h
  by_cases q : iS x = true
  · have q2 : ¬ ixO PT x < 0 := by rw [ixP, q]; exact fun e => Bool.noConfusion e
    exact ST_ok (fun G0 Q => l_setPattern1 q2 hi (iS_c q).2) (fun C0 z0 Q => m_setPattern1 q kh) kp7f (congrArg Int32.toInt64 (pat hb).1) trivial (key (m + 1000) _ _ r c n (by omega) FRK_chP (BC_up (BC_pattern (BC_rm hb) q) (by omega)))
  · have q' := Bool.eq_false_iff.mpr q
    exact ST_no (fun G0 Q => l_setPattern0 (by rw [ixP]; exact q')) (fun C0 z0 Q => m_setPattern0 q') (by decide) rfl trivial (INV_q h (by omega) FQ_r FM_sc)
theorem s_setLight {l : Bool} (h : INV C G m) : ST2 45 50 [.ref 59, .int x, .int y, .int (bI l), .ref 135, xk] [.ref 124, .int x, .int y, .int (bI l), xk, xk] PB C G z m := by
  obtain ⟨r, c, n, hb⟩ := id h.1
  obtain ⟨hx, hc, hi, kh, key⟩ := INV_mod h
  rcases cel (x := x) (y := y) hb with ⟨h1, h2⟩ | ⟨rr, cc, p1, p2, rfl, rfl, h1⟩
  · exact ST_no (fun G0 Q => l_setLight0 h1) (fun C0 z0 Q => m_setLight0 h2) (by decide) rfl (.inl rfl) (INV_q h (by omega) FQ_r FM_sc)
  · obtain ⟨k, e, r5, c5, k30, k25⟩ := cel_1 hb.1 p1 p2
    refine ST_ok (fun G0 Q => l_setLight1 h1 hi) (fun C0 z0 Q => m_setLight1 hb.1 kh p1 p2) kp7f (bL_hs hb.1 p1 p2 hb.2.2.1.2.2.2.2.2.1) PB_b (key (m + 1000) _ _ r c n (by omega) FRK_cLt ?_)
    rw [← e]
    exact BC_up (BC_light (BC_rm hb) k) (by omega)
theorem s_press (h : INV C G m) (hm : m < 900000) : ST2 56 61 [.ref 59, .int x, .int y, .ref 135, xk] [.ref 124, .int x, .int y] PI C G z m := by
  obtain ⟨r, c, n, hb⟩ := id h.1
  obtain ⟨hx, hc, hi, kh, key⟩ := INV_mod h
  rcases cel (x := x) (y := y) hb with ⟨h1, h2⟩ | ⟨rr, cc, p1, p2, rfl, rfl, h1⟩
  · exact ST_no (fun G0 Q => l_press0 h1) (fun C0 z0 Q => m_press0 h2) (by decide) rfl trivial (INV_q h (by omega) FQ_r FM_sc)
  · obtain ⟨k, e, r5, c5, k30, k25⟩ := cel_1 hb.1 p1 p2
    have nb := BC_press (BC_rm (d := 60) (hx := hx) (hc := hc) hb) (by omega) k
    rw [e] at nb
    exact ST_ok (fun G0 Q => l_press1 h1 hi) (fun C0 z0 Q => m_press1 hb.1 kh p1 p2) kp7f (congrArg Int32.toInt64 (SR_cnt r5 c5 nb.2.2.1.2.2.2.2.2.1)) trivial (key (m + 1000) _ _ r c n (by omega) FRK_pC (BC_up nb (by omega)))
theorem s_toggleGoal (h : INV C G m) : ST2 91 92 [.ref 59, .int x, .int y, .ref 135, xk] [.ref 124, .int x, .int y] PB C G z m := by
  obtain ⟨r, c, n, hb⟩ := id h.1
  obtain ⟨hx, hc, hi, kh, key⟩ := INV_mod h
  rcases cel (x := x) (y := y) hb with ⟨h1, h2⟩ | ⟨rr, cc, p1, p2, rfl, rfl, h1⟩
  · exact ST_no (fun G0 Q => l_toggleGoal0 h1) (fun C0 z0 Q => m_toggleGoal0 h2) (by decide) rfl (.inl rfl) (INV_q h (by omega) FQ_r FM_sc)
  · obtain ⟨k, e, r5, c5, k30, k25⟩ := cel_1 hb.1 p1 p2
    have nb := BC_goal (BC_rm (d := 60) (hx := hx) (hc := hc) hb) k
    rw [e, rem_lo (by decide)] at nb
    have sx := SR_xor hb.2.2.1.2.2.2.2.2.2.2 (SR_1 r5 c5 k)
    rw [e] at sx
    exact ST_ok (fun G0 Q => l_toggleGoal1 h1 hi) (fun C0 z0 Q => m_toggleGoal1 hb.1 kh p1 p2) kp7f (bL_hs hb.1 p1 p2 sx) PB_b (key (m + 1000) _ _ r c n (by omega) (FRK_us (by omega) FRK_r) (BC_up nb (by omega)))
theorem s_solve (h : INV C G m) (hm : m < 800000) : ST2 141 142 [.ref 59, .ref 135, xk] [.ref 124, xk, xk] PI C G z m := by
  obtain ⟨r, c, n, hb⟩ := id h.1
  have h' : INV (elC C 60) (emG G r c) m := INV_q h (Nat.le_refl m) FQ_el FM_em
  obtain ⟨hx, hc, hi, kh, key⟩ := INV_mod h'
  have hb' : BC (elC C 60) 60 (G 125) r c n m := BC_o hb (fun i h1 h2 => elC_lo (by omega))
  have hi' : hI C hx hc := by
    unfold hI at hi ⊢
    rw [elC_lo (by decide), elC_lo (by decide)] at hi
    exact hi
  obtain ⟨b1, b2⟩ := bs_rel (BC_SV (G := G) hb (by decide))
  by_cases q : can (G 125 2) r c (dD G)
  · obtain ⟨q1, q2, q3⟩ := b1 q
    exact ST_ok (fun G0 Q => l_solve1 q3 hi') (fun C0 z0 Q => m_solve1 (k := hc) (w := false) hb.1 kh q2) kp7f (congrArg Int32.toInt64 (SR_cnt hb.1.2.2.2.1 hb.1.2.2.2.2.2 q1)) trivial (key (m + 1000) _ _ r c n (by omega) FRK_pA (BC_up (BC_all (BC_rm hb') (by omega) q1) (by omega)))
  · obtain ⟨q1, q2⟩ := b2 q
    exact ST_no (fun G0 Q => l_solve2 q1) (fun C0 z0 Q => m_solve0 hb.1 (by rw [q2]; decide)) (by decide) rfl trivial (INV_q h (by omega) FQ_el (FM_t FM_em FM_sc))
theorem s_chase (h : INV C G m) (hm : m < 800000) : ST2 145 146 [.ref 59, .ref 135, xk] [.ref 124, xk, xk] PI C G z m := by
  obtain ⟨r, c, n, hb⟩ := id h.1
  obtain ⟨hx, hc, hi, kh, key⟩ := INV_mod h
  have e : C 60 3 = G 125 2 := hb.2.2.1.2.2.2.1
  have gs := hb.1
  by_cases q : G 125 2 = 43
  · obtain ⟨a1, a2⟩ := BC_chase (BC_rm (d := 60) (hx := hx) (hc := hc) hb) (by omega)
    exact ST_ok (fun G0 Q => l_chase1 (e.trans q) hb.2.2.1.1 hb.2.2.1.2.1 gs.2.2.1 gs.2.2.2.1 gs.2.2.2.2.2 hi) (fun C0 z0 Q => m_chase0 gs kh q) kp7f (congrArg Int32.toInt64 a1) trivial (key (m + 1000) _ _ r c n (by omega) FRK_chA (BC_up a2 (by omega)))
  · exact ST_no (fun G0 Q => l_chase0 (fun t => q (e.symm.trans t))) (fun C0 z0 Q => m_chase1 q) (by decide) rfl trivial (INV_q h (by omega) FQ_r FM_sc)
theorem wy_c (d : Int32) : wyM d = -1 ∨ 0 ≤ wyM d := by
  unfold wyM
  by_cases h1 : d = 110
  · rw [if_pos h1]; exact .inr (by decide)
  rw [if_neg h1]
  by_cases h2 : d = 101
  · rw [if_pos h2]; exact .inr (by decide)
  rw [if_neg h2]
  by_cases h3 : d = 115
  · rw [if_pos h3]; exact .inr (by decide)
  rw [if_neg h3]
  by_cases h4 : d = 119
  · rw [if_pos h4]; exact .inr (by decide)
  rw [if_neg h4]
  exact .inl rfl
theorem s_addWorm {d : Int32} (h : INV C G m) : ST2 151 154 [.ref 59, .int x, .int y, .int d, .ref 135, xk] [.ref 124, .int x, .int y, .int d, xk] PI C G z m := by
  obtain ⟨r, c, n, hb⟩ := id h.1
  obtain ⟨hx, hc, hi, kh, key⟩ := INV_mod h
  rcases cel (x := x) (y := y) hb with ⟨h1, h2⟩ | ⟨rr, cc, p1, p2, rfl, rfl, h1⟩
  · exact ST_no (fun G0 Q => l_addWorm1 h1) (fun C0 z0 Q => m_addWorm1 h2) (by decide) rfl trivial (INV_q h (by omega) FQ_r FM_sc)
  · have i1 : iC (G 125) (Int32.ofNat rr) (Int32.ofNat cc) = true := iC_ok hb.1 p1 p2
    rcases wy_c d with q | q
    · exact ST_no (fun G0 Q => l_addWorm2 h1 (by rw [ixD, q]; decide)) (fun C0 z0 Q => m_addWorm2 i1 q) (by decide) rfl trivial (INV_q h (by omega) FQ_r FM_sc)
    · have q0 : ¬ ixO DR d < 0 := by rw [ixD]; exact Int32.not_lt.mpr q
      obtain ⟨k, e, r5, c5, k30, k25⟩ := cel_1 hb.1 p1 p2
      have hw := hb.2.2.2.2.1
      have ie := in_eq r5 c5 hw k
      rw [e] at ie
      have ie' : nIn (C 63) n (Int32.ofNat (rr * 6 + cc)) = inM (G 125) n (Int32.ofNat (rr * c + cc)) := ie
      by_cases p : (decide (n < 4) && decide (inM (G 125) n (Int32.ofNat (rr * c + cc)) = -1)) = true
      · obtain ⟨n4, nf⟩ := Bool.and_eq_true_iff.mp p
        have n4' := of_decide_eq_true n4
        have nf' := of_decide_eq_true nf
        have nb := BC_add (BC_rm (d := 60) (hx := hx) (hc := hc) hb) n4' k q (by rw [e, rem_lo (by decide)]; exact ie'.trans nf')
        rw [e, ← ixD] at nb
        exact ST_ok (fun G0 Q => l_addWorm0 h1 q0 hw.1 n4' (ie'.trans nf') hi) (fun C0 z0 Q => m_addWorm0 hb.1 kh p1 p2 q hw.2.2.1 n4' nf') kp7f rfl trivial (key (m + 1000) _ _ r c (n + 1) (by omega) FRK_puW (BC_up nb (by omega)))
      · have p' := Bool.eq_false_iff.mpr p
        exact ST_no (fun G0 Q => l_addWorm3 h1 q0 hw.1 hw.2.1 (by rw [ie']; exact p')) (fun C0 z0 Q => m_addWorm3 hb.1 p1 p2 q hw.2.2.1 hw.2.1 p') (by decide) rfl trivial (INV_q h (by omega) FQ_r FM_sc)
theorem s_removeWorm (h : INV C G m) : ST2 158 161 [.ref 59, .int x, .ref 135, xk] [.ref 124, .int x, xk] PI C G z m := by
  obtain ⟨r, c, n, hb⟩ := id h.1
  obtain ⟨hx, hc, hi, kh, key⟩ := INV_mod h
  obtain ⟨w1, w2, w3, ⟨h1, h2⟩ | ⟨q, p1, rfl, p, d, k, d4, f3, g3, f4, g4⟩⟩ := wrm (x := x) hb
  · exact ST_no (fun G0 Q => l_removeWorm0 h1) (fun C0 z0 Q => m_removeWorm1 h2) (by decide) rfl trivial (INV_q h (by omega) FQ_r FM_sc)
  · exact ST_ok (fun G0 Q => l_removeWorm1 w1 w2 p1 hi) (fun C0 z0 Q => m_removeWorm0 kh w3 w2 p1) kp7f rfl trivial (key (m + 1000) _ _ r c (n - 1) (by omega) FRK_tkW (BC_up (BC_rem (BC_rm hb) p1) (by omega)))
theorem s_writeRow (h : INV C G m) : ST2 190 192 [.ref 59, .int x, .ref 135, xk] [.ref 124, .int x, xk] PI C G z m := by
  obtain ⟨⟨r, c, n, hb⟩, ⟨hx, hc, R⟩, s, t, e, l⟩ := id h
  have r5 := hb.1.2.2.2.1
  rcases rng (x := x) (by omega : r ≤ 1000) hb.2.2.1.1 hb.1.1 with ⟨h1, h2⟩ | ⟨q, p1, rfl, h1⟩
  · exact ST_no (fun G0 Q => l_writeRow0 h1) (fun C0 z0 Q => m_writeRow1 h2) (by decide) rfl trivial (INV_q h (by omega) FQ_r FM_sc)
  · obtain ⟨e1, e2, e3⟩ := line_eq hb p1
    have co : ∀ i, ¬ i = 59 → ¬ i = 123 → lnC C (wlA C q c) i = C i := fun i i1 i2 => (us_ne i2).trans (us_ne i1)
    have c59 : ∀ j, ¬ j = 10 → lnC C (wlA C q c) 59 j = C 59 j := fun j hj => by
      unfold lnC
      rw [us_ne (by decide), us_same]
      exact if_neg hj
    have go : ∀ i, ¬ i = 124 → ¬ i = 130 → lmW G (wmA G c q) i = G i := fun i i1 i2 => (us_ne i2).trans (us_ne i1)
    have gj : ∀ j, ¬ j = 7 → ¬ j = 13 → lmW G (wmA G c q) 124 j = G 124 j := fun j h1 h2 => by
      unfold lmW
      rw [us_ne (by decide), us_same]
      unfold upd
      rw [if_neg h2, if_neg h1]
    refine ST_ok (fun G0 Q => l_writeRow1 h1 hb.2.2.1.2.1 hb.1.2.2.2.2.2) (fun C0 z0 Q => m_writeRow0 hb.1 p1) rfl (by rw [e1]) trivial ⟨HB_cg ⟨r, c, n, hb⟩ (by omega) (fun i i1 i2 => co i (by omega) (by omega)) (go 125 (by decide) (by decide)), ⟨hx, hc, HR_cg R (by omega) (fun i i1 i2 => co i (by omega) (by omega)) (gj 5 (by decide) (by decide)) (gj 6 (by decide) (by decide)) (go 126 (by decide) (by decide))⟩, HS_cg s (by omega) (c59 3 (by decide)) (fun i i1 i2 => co i (by omega) (by omega)) (gj 4 (by decide) (by decide)) (go 127 (by decide) (by decide)), HT_cg t (co 121 (by decide) (by decide)) (co 122 (by decide) (by decide)) (gj 9 (by decide) (by decide)) (go 129 (by decide) (by decide)), HE_cg e (c59 7 (by decide)) (c59 8 (by decide)) (gj 10 (by decide) (by decide)) (gj 11 (by decide) (by decide)), ⟨(wlA C q c).1, ⟨lnC_10, by rw [lmW_13, e1], e2⟩, fun i hi => ?_⟩⟩
    rw [lnC_123]
    exact e3 i hi
end Changes
