/-! changes of a board -/
theorem BA_up {F0 F1 F2 F3 F4 g : Nat → Int32} {r c n m m' : Nat} (h : BA F0 F1 F2 F3 F4 g r c n m) (hm : m ≤ m') : BA F0 F1 F2 F3 F4 g r c n m' := by
  obtain ⟨h1, h2, h3, ⟨p1, p2⟩, h5, h6⟩ := h
  refine ⟨h1, h2, h3, ⟨p1, fun k hk => ?_⟩, h5, h6⟩
  obtain ⟨x, x1, x2⟩ := p2 k hk
  exact ⟨x, by omega, x2⟩
theorem lbM_0 {g : Nat → Int32} {r c : Nat} (h : ∀ k, k < r * c → g (8 + k) = 0) : lbM g r c = g 6 := by
  rw [lbM_xs]
  apply xs_no
  intro k hk
  unfold odM
  rw [h k hk]
  decide
/-- a slice agrees where a board reads it -/
theorem BA_cg {F0 F1 F2 F3 F4 g H0 H1 H2 H3 H4 g' : Nat → Int32} {r c n m : Nat} (h : BA F0 F1 F2 F3 F4 g r c n m) (h0 : ∀ j, j < 8 → H0 j = F0 j) (h1 : ∀ j, j < 30 → H1 j = F1 j) (h2 : H2 0 = F2 0) (h3 : ∀ j, j < 4 → H3 j = F3 j) (h4 : ∀ j, j < 4 → H4 j = F4 j) (hg : ∀ j, j < 41 → g' j = g j) : BA H0 H1 H2 H3 H4 g' r c n m := by
  obtain ⟨⟨s0, s1, s2, s3, s4, s5⟩, hp, ⟨a0, a1, a2, a3, a7, a4, a5, a6⟩, ⟨p1, p2⟩, ⟨w1, w2, w3, w4, w5, w6⟩, hl⟩ := h
  have h25 : r * c ≤ 25 := Nat.mul_le_mul s3 s5
  have hkk : ∀ j, isCl r c j = true → kk c j < 25 := fun j hj => Nat.lt_of_lt_of_le (nn_kk s3 s5 hj).1 h25
  refine ⟨⟨by rw [hg 0 (by decide)]; exact s0, by rw [hg 1 (by decide)]; exact s1, s2, s3, s4, s5⟩, by rw [hg 2 (by decide)]; exact hp, ⟨by rw [h0 0 (by decide)]; exact a0, by rw [h0 1 (by decide)]; exact a1, by rw [h0 2 (by decide)]; exact a2, by rw [h0 3 (by decide), hg 2 (by decide)]; exact a3, by rw [h0 7 (by decide), hg 3 (by decide)]; exact a7, by rw [h0 4 (by decide), hg 5 (by decide)]; exact a4, by rw [h0 5 (by decide), hg 6 (by decide)]; exact a5, by rw [h0 6 (by decide), hg 7 (by decide)]; exact a6⟩, ⟨fun j hj => ?_, fun k hk => ?_⟩, ⟨by rw [h2]; exact w1, w2, by rw [hg 4 (by decide)]; exact w3, fun k hk => by rw [h4 k hk]; exact w4 k hk, fun k hk => ?_, fun i j hi hj => ?_⟩, ?_⟩
  · rw [h1 j hj, p1 j hj]
    by_cases cl : isCl r c j = true
    · rw [if_pos cl, if_pos cl, hg _ (by have := hkk j cl; omega)]
    · rw [if_neg cl, if_neg cl]
  · rw [hg _ (by omega)]; exact p2 k hk
  · obtain ⟨p, d, q1, q2, q3, q4, q5, q6⟩ := w5 k hk
    exact ⟨p, d, q1, q2, by rw [h3 k (by omega)]; exact q3, by rw [hg _ (by omega)]; exact q4, by rw [h4 k (by omega)]; exact q5, by rw [hg _ (by omega)]; exact q6⟩
  · rw [h3 i (by omega), h3 j (by omega)]; exact w6 i j hi hj
  · rw [hg 5 (by decide), hl, lbM_xs, lbM_xs, hg 2 (by decide), hg 6 (by decide)]
    apply xs_cg
    intro k hk
    refine ⟨?_, rfl⟩
    unfold odM
    rw [hg _ (by omega)]
/-- a light is set -/
theorem BA_light {F0 F1 F2 F3 F4 g : Nat → Int32} {r c n m k : Nat} (h : BA F0 F1 F2 F3 F4 g r c n m) (hk : k < r * c) : BA (upd (upd F0 4 (F0 4 ^^^ 1 <<< (Int32.ofNat (nn c k) &&& 31))) 5 (F0 5 ^^^ 1 <<< (Int32.ofNat (nn c k) &&& 31))) F1 F2 F3 F4 (upd (upd g 5 (g 5 ^^^ 1 <<< (Int32.ofNat k &&& 31))) 6 (g 6 ^^^ 1 <<< (Int32.ofNat k &&& 31))) r c n m := by
  obtain ⟨⟨s0, s1, s2, s3, s4, s5⟩, hp, ⟨a0, a1, a2, a3, a7, a4, a5, a6⟩, ⟨p1, p2⟩, ⟨w1, w2, w3, w4, w5, w6⟩, hl⟩ := h
  have b1 := SR_1 s3 s5 hk
  have og : ∀ j, ¬ j = 5 → ¬ j = 6 → upd (upd g 5 (g 5 ^^^ 1 <<< (Int32.ofNat k &&& 31))) 6 (g 6 ^^^ 1 <<< (Int32.ofNat k &&& 31)) j = g j := by
    intro j q1 q2; unfold upd; rw [if_neg q2, if_neg q1]
  refine ⟨⟨s0, s1, s2, s3, s4, s5⟩, hp, ⟨a0, a1, a2, a3, a7, SR_xor a4 b1, SR_xor a5 b1, a6⟩, ⟨fun j hj => ?_, fun j hj => ?_⟩, ⟨w1, w2, w3, w4, fun j hj => ?_, w6⟩, ?_⟩
  · rw [p1 j hj]
    by_cases cl : isCl r c j = true
    · rw [if_pos cl, if_pos cl, og _ (by omega) (by omega)]
    · rw [if_neg cl, if_neg cl]
  · rw [og _ (by omega) (by omega)]; exact p2 j hj
  · obtain ⟨p, d, q1, q2, q3, q4, q5, q6⟩ := w5 j hj
    exact ⟨p, d, q1, q2, q3, by rw [og _ (by omega) (by omega)]; exact q4, q5, by rw [og _ (by omega) (by omega)]; exact q6⟩
  · show g 5 ^^^ 1 <<< (Int32.ofNat k &&& 31) = _
    rw [lbM_xs]
    show _ = xs (odM (upd (upd g 5 (g 5 ^^^ 1 <<< (Int32.ofNat k &&& 31))) 6 (g 6 ^^^ 1 <<< (Int32.ofNat k &&& 31)))) (arM (g 2) r c) (r * c) (g 6 ^^^ 1 <<< (Int32.ofNat k &&& 31))
    have e : xs (odM (upd (upd g 5 (g 5 ^^^ 1 <<< (Int32.ofNat k &&& 31))) 6 (g 6 ^^^ 1 <<< (Int32.ofNat k &&& 31)))) (arM (g 2) r c) (r * c) (g 6) = g 5 := by
      refine Eq.trans (xs_cg (P' := odM g) (v' := arM (g 2) r c) _ (fun j hj => ⟨?_, rfl⟩)) (lbM_xs.symm.trans hl.symm)
      unfold odM
      rw [og _ (by omega) (by omega)]
    rw [xs_s, e]
theorem BC_light {C : HP} {b r c n m k : Nat} {g : Nat → Int32} {l : Bool} (h : BC C b g r c n m) (hk : k < r * c) : BC (cLt C b (Int32.ofNat (nn c k)) (bI l)) b (slM g k l) r c n m := by
  have hr := h.1.2.2.2.1
  have hc := h.1.2.2.2.2.2
  obtain ⟨n1, n2, n3, n4, n5, n6⟩ := nn_1 hr hc hk
  have h25 := gS_n h.1
  have e : ct (C b 4) (Int32.ofNat (nn c k)) = hs (g 5) (Int32.ofNat k) := by
    rw [ct_gb (by omega), hs_gb (by omega)]
    exact SR_gb hr hc h.2.2.1.2.2.2.2.2.1 hk
  unfold cLt slM
  rw [e]
  by_cases q : bI (hs (g 5) (Int32.ofNat k)) = bI l
  · rw [if_pos q, if_pos q]; exact h
  · rw [if_neg q, if_neg q]
    unfold BC
    rw [us_same, us_ne (show ¬ b + 1 = b by omega), us_ne (show ¬ b + 2 = b by omega), us_ne (show ¬ b + 3 = b by omega), us_ne (show ¬ b + 4 = b by omega)]
    exact BA_light h hk
/-- a goal is toggled -/
theorem BC_goal {C : HP} {b r c n m k : Nat} {g : Nat → Int32} (h : BC C b g r c n m) (hk : k < r * c) : BC (us C b (upd (C b) 6 (C b 6 ^^^ 1 <<< (Int32.ofNat (nn c k) &&& 31)))) b (upd g 7 (g 7 ^^^ 1 <<< (Int32.ofNat k &&& 31))) r c n m := by
  obtain ⟨⟨s0, s1, s2, s3, s4, s5⟩, hp, ⟨a0, a1, a2, a3, a7, a4, a5, a6⟩, ⟨p1, p2⟩, ⟨w1, w2, w3, w4, w5, w6⟩, hl⟩ := h
  have b1 := SR_1 s3 s5 hk
  have og : ∀ j, ¬ j = 7 → upd g 7 (g 7 ^^^ 1 <<< (Int32.ofNat k &&& 31)) j = g j := fun j q => if_neg q
  unfold BC
  rw [us_same, us_ne (show ¬ b + 1 = b by omega), us_ne (show ¬ b + 2 = b by omega), us_ne (show ¬ b + 3 = b by omega), us_ne (show ¬ b + 4 = b by omega)]
  refine ⟨⟨s0, s1, s2, s3, s4, s5⟩, hp, ⟨a0, a1, a2, a3, a7, a4, a5, SR_xor a6 b1⟩, ⟨fun j hj => ?_, fun j hj => ?_⟩, ⟨w1, w2, w3, w4, fun j hj => ?_, w6⟩, ?_⟩
  · rw [p1 j hj]
    by_cases cl : isCl r c j = true
    · rw [if_pos cl, if_pos cl, og _ (by omega)]
    · rw [if_neg cl, if_neg cl]
  · rw [og _ (by omega)]; exact p2 j hj
  · obtain ⟨p, d, q1, q2, q3, q4, q5, q6⟩ := w5 j hj
    exact ⟨p, d, q1, q2, q3, by rw [og _ (by omega)]; exact q4, q5, by rw [og _ (by omega)]; exact q6⟩
  · show g 5 = _
    rw [hl, lbM_xs, lbM_xs]
    apply xs_cg
    intro j hj
    refine ⟨?_, rfl⟩
    unfold odM
    rw [og _ (by omega)]
/-- a new record: presses away -/
theorem bg_g {g : Nat → Int32} {j : Nat} (h : ¬ (8 ≤ j ∧ j < 33)) (h6 : ¬ j = 6) : bgM g j = g j := by unfold bgM; rw [if_neg h, if_neg h6]
theorem bg_0 {g : Nat → Int32} {k : Nat} (h : k < 25) : bgM g (8 + k) = 0 := by unfold bgM; rw [if_pos (by omega)]
/-- a pattern is set -/
theorem BC_pattern {C : HP} {b r c n m : Nat} {g : Nat → Int32} {p : Int32} (h : BC C b g r c n m) (hp' : iS p = true) : BC (chP C b p) b (ptM g p) r c n m := by
  obtain ⟨⟨s0, s1, s2, s3, s4, s5⟩, hp, ⟨a0, a1, a2, a3, a7, a4, a5, a6⟩, ⟨p1, p2⟩, ⟨w1, w2, w3, w4, w5, w6⟩, hl⟩ := h
  have h25 : r * c ≤ 25 := Nat.mul_le_mul s3 s5
  have hkk : ∀ j, isCl r c j = true → kk c j < 25 := fun j hj => Nat.lt_of_lt_of_le (nn_kk s3 s5 hj).1 h25
  have e0 : chP C b p b = upd (upd (C b) 3 p) 5 (C b 4) := by
    unfold chP bgR
    rw [us_ne (show ¬ b = b + 1 by omega), us_same, us_same]
    rfl
  have e1 : chP C b p (b + 1) = fil (C (b + 1)) 30 0 := by
    unfold chP bgR
    rw [us_same, us_ne (show ¬ b + 1 = b by omega)]
  have eo : ∀ i, ¬ i = b → ¬ i = b + 1 → chP C b p i = C i := by
    intro i q1 q2
    unfold chP bgR
    rw [us_ne q2, us_ne q1, us_ne q1]
  have og : ∀ j, ¬ (8 ≤ j ∧ j < 33) → ¬ j = 6 → ¬ j = 2 → ptM g p j = g j := by
    intro j q1 q2 q3
    unfold ptM
    rw [bg_g q1 q2]; exact if_neg q3
  have g6 : ptM g p 6 = g 5 := rfl
  have g2 : ptM g p 2 = p := rfl
  have z : ∀ k, k < 25 → ptM g p (8 + k) = 0 := fun k hk => bg_0 hk
  unfold BC
  rw [e0, e1, eo _ (by omega) (by omega), eo _ (by omega) (by omega), eo _ (by omega) (by omega)]
  refine ⟨⟨s0, s1, s2, s3, s4, s5⟩, hp', ⟨a0, a1, a2, rfl, a7, a4, a4, a6⟩, ⟨fun j hj => ?_, fun j hj => ⟨0, Nat.zero_le _, z j (by omega)⟩⟩, ⟨w1, w2, w3, w4, fun j hj => ?_, w6⟩, ?_⟩
  · unfold fil
    rw [if_pos hj]
    by_cases cl : isCl r c j = true
    · rw [if_pos cl, z _ (hkk j cl)]
    · rw [if_neg cl]
  · obtain ⟨p, d, q1, q2, q3, q4, q5, q6⟩ := w5 j hj
    exact ⟨p, d, q1, q2, q3, by rw [og _ (by omega) (by omega) (by omega)]; exact q4, q5, by rw [og _ (by omega) (by omega) (by omega)]; exact q6⟩
  · rw [lbM_0 (fun k hk => z k (by omega)), g6]
    rfl
/-- a size is set -/
theorem BC_size {C : HP} {b r c n m r' c' : Nat} {g : Nat → Int32} (h : BC C b g r c n m) (h1 : 1 ≤ r' ∧ r' ≤ 5) (h2 : 1 ≤ c' ∧ c' ≤ 5) : BC (cSz C b r' (Int32.ofNat c')) b (rsM g r' c') r' c' 0 m := by
  obtain ⟨⟨s0, s1, s2, s3, s4, s5⟩, hp, ⟨a0, a1, a2, a3, a7, a4, a5, a6⟩, ⟨p1, p2⟩, ⟨w1, w2, w3, w4, w5, w6⟩, hl⟩ := h
  have h25 : r' * c' ≤ 25 := Nat.mul_le_mul h1.2 h2.2
  have hkk : ∀ j, isCl r' c' j = true → kk c' j < 25 := fun j hj => Nat.lt_of_lt_of_le (nn_kk h1.2 h2.2 hj).1 h25
  have e0 : cSz C b r' (Int32.ofNat c') b = upd (upd (upd (upd (upd (upd (C b) 0 (Int32.ofNat r')) 1 (Int32.ofNat c')) 2 (cMk r' (Int32.ofNat c'))) 4 0) 6 0) 5 0 := by
    unfold cSz bgR
    rw [us_ne (show ¬ b = b + 1 by omega), us_same, us_ne (show ¬ b = b + 2 by omega), us_same]
    rfl
  have e1 : cSz C b r' (Int32.ofNat c') (b + 1) = fil (C (b + 1)) 30 0 := by
    unfold cSz bgR
    rw [us_same, us_ne (show ¬ b + 1 = b + 2 by omega), us_ne (show ¬ b + 1 = b by omega)]
  have e2 : cSz C b r' (Int32.ofNat c') (b + 2) = upd (C (b + 2)) 0 0 := by
    unfold cSz bgR
    rw [us_ne (show ¬ b + 2 = b + 1 by omega), us_ne (show ¬ b + 2 = b by omega), us_same]
  have eo : ∀ i, ¬ i = b → ¬ i = b + 1 → ¬ i = b + 2 → cSz C b r' (Int32.ofNat c') i = C i := by
    intro i q1 q2 q3
    unfold cSz bgR
    rw [us_ne q2, us_ne q1, us_ne q3, us_ne q1]
  have z : ∀ k, k < 25 → rsM g r' c' (8 + k) = 0 := fun k hk => bg_0 hk
  unfold BC
  rw [e0, e1, e2, eo _ (by omega) (by omega) (by omega), eo _ (by omega) (by omega) (by omega)]
  refine ⟨⟨rfl, rfl, h1.1, h1.2, h2.1, h2.2⟩, hp, ⟨rfl, rfl, rfl, a3, a7, SR_0, SR_0, SR_0⟩, ⟨fun j hj => ?_, fun j hj => ⟨0, Nat.zero_le _, z j (by omega)⟩⟩, ⟨rfl, by decide, rfl, w4, fun j hj => absurd hj (Nat.not_lt_zero j), fun i j _ hj => absurd hj (Nat.not_lt_zero j)⟩, ?_⟩
  · unfold fil
    rw [if_pos hj]
    by_cases cl : isCl r' c' j = true
    · rw [if_pos cl, z _ (hkk j cl)]
    · rw [if_neg cl]
  · rw [lbM_0 (fun k hk => z k (by omega))]
    rfl
