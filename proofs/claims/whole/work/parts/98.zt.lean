/-! copies, removal, checks on both sides -/
theorem cpB_b {C : HP} {b d : Nat} (hb : isB b) (hd : isB d) (hn : ¬ d = b) : cpB C b d b = cp0 8 (C d) (C b) ∧ cpB C b d (b + 1) = cp0 30 (C (d + 1)) (C (b + 1)) ∧ cpB C b d (b + 2) = upd (C (b + 2)) 0 (C (d + 2) 0) ∧ cpB C b d (b + 3) = cp0 4 (C (d + 3)) (C (b + 3)) ∧ cpB C b d (b + 4) = cp0 4 (C (d + 4)) (C (b + 4)) := by
  have h1 := isB_mod hb
  have h2 := isB_mod hd
  unfold cpB cpW
  refine ⟨?_, ?_, ?_, ?_, ?_⟩
  · rw [us_ne (by omega), us_ne (by omega), us_ne (by omega), us_ne (by omega), us_same]
  · rw [us_ne (by omega), us_ne (by omega), us_ne (by omega), us_same]
  · rw [us_ne (by omega), us_ne (by omega), us_same, us_ne (show ¬ b + 2 = b + 1 by omega), us_ne (show ¬ b + 2 = b by omega), us_ne (show ¬ d + 2 = b + 1 by omega), us_ne (show ¬ d + 2 = b by omega)]
  · rw [us_ne (by omega), us_same, us_ne (show ¬ d + 3 = b + 1 by omega), us_ne (show ¬ d + 3 = b by omega), us_ne (show ¬ b + 3 = b + 1 by omega), us_ne (show ¬ b + 3 = b by omega)]
  · rw [us_same, us_ne (show ¬ d + 4 = b + 1 by omega), us_ne (show ¬ d + 4 = b by omega), us_ne (show ¬ b + 4 = b + 1 by omega), us_ne (show ¬ b + 4 = b by omega)]
theorem cpB_o {C : HP} {b d i : Nat} (h : i < b ∨ b + 4 < i) : cpB C b d i = C i := by
  unfold cpB cpW
  rw [us_ne (by omega), us_ne (by omega), us_ne (by omega), us_ne (by omega), us_ne (by omega)]
theorem BC_cp {C : HP} {b d r c n m : Nat} {g : Nat → Int32} (hb : isB b) (hd : isB d) (hn : ¬ d = b) (h : BC C d g r c n m) : BC (cpB C b d) b g r c n m := by
  obtain ⟨e0, e1, e2, e3, e4⟩ := cpB_b (C := C) hb hd hn
  unfold BC
  rw [e0, e1, e2, e3, e4]
  exact BA_cg h (fun j hj => if_pos hj) (fun j hj => if_pos hj) (if_pos rfl) (fun j hj => if_pos hj) (fun j hj => if_pos hj) (fun j _ => rfl)
theorem BC_o {C C' : HP} {b r c n m : Nat} {g : Nat → Int32} (h : BC C b g r c n m) (e : ∀ i, b ≤ i → i ≤ b + 4 → C' i = C i) : BC C' b g r c n m := by
  unfold BC
  rw [e b (by omega) (by omega), e (b + 1) (by omega) (by omega), e (b + 2) (by omega) (by omega), e (b + 3) (by omega) (by omega), e (b + 4) (by omega) (by omega)]
  exact h
/-- the record tells the lights -/
theorem lR_eq {C : HP} {b r c n m : Nat} {g : Nat → Int32} (h : BC C b g r c n m) (hm : m < 2000000000) : lR C b = C b 4 := by
  obtain ⟨⟨s0, s1, s2, s3, s4, s5⟩, hp, ⟨a0, a1, a2, a3, a7, a4, a5, a6⟩, ⟨p1, p2⟩, hw, hl⟩ := h
  have h25 : r * c ≤ 25 := Nat.mul_le_mul s3 s5
  have e : lR C b = itr (fun k s => if odM g k = true then s ^^^ rFrom (cMk r (Int32.ofNat c)) (g 2) (Int32.ofNat (nn c k)) else s) (r * c) 0 (C b 5) := by
    unfold lR
    rw [← IT s3 s5]
    apply itr_cg
    intro j s _ hj
    rw [p1 j (by omega), a2, a3]
    by_cases cl : isCl r c j = true
    · obtain ⟨k1, k2⟩ := nn_kk s3 s5 cl
      rw [if_pos cl, if_pos cl, k2]
      obtain ⟨x, x1, x2⟩ := p2 _ k1
      rw [x2, od_n x2 (by omega), show (2 : Int32) = Int32.ofNat 2 from rfl, io_rem (by omega) (by decide)]
      have z : (Int32.ofNat (x % 2) = 0) = (x % 2 = 0) := io_eq (b := 0) (by omega) (by decide)
      by_cases q : x % 2 = 0
      · rw [if_pos (z ▸ q), if_neg (by simp; omega)]
      · rw [if_neg (fun w => q (z ▸ w)), if_pos (decide_eq_true (by omega))]
    · rw [if_neg cl, if_neg cl, if_pos (by decide)]
  have key := itr_rel (f := fun k s => if odM g k = true then s ^^^ rFrom (cMk r (Int32.ofNat c)) (g 2) (Int32.ofNat (nn c k)) else s) (g := fun k s => if odM g k = true then s ^^^ arM (g 2) r c k else s) (fun _ s t => SR r c s t) (r * c) 0 (C b 5) (g 6) a5 (fun k s t _ hk hst => by
    by_cases q : odM g k = true
    · rw [if_pos q, if_pos q]
      exact SR_xor hst (SR_ar s3 s5 hp (by omega))
    · rw [if_neg q, if_neg q]; exact hst)
  have e2 : itr (fun k s => if odM g k = true then s ^^^ arM (g 2) r c k else s) (r * c) 0 (g 6) = g 5 := by
    rw [hl, lbM_xs]; rfl
  rw [e2, ← e] at key
  exact (SR_ij s3 s5 key a4).mpr rfl
theorem SR_rec {C : HP} {b r c n m : Nat} {g : Nat → Int32} (h : BC C b g r c n m) (hm : m < 2000000000) : SR r c (lR C b) (lbM g r c) := by
  rw [lR_eq h hm, ← h.2.2.2.2.2]
  exact h.2.2.1.2.2.2.2.2.1
/-- the worms are apart -/
theorem apW_t {C : HP} {b r c n m : Nat} {g : Nat → Int32} (h : BC C b g r c n m) : apW C b n = true := by
  obtain ⟨w1, w2, w3, w4, w5, w6⟩ := h.2.2.2.2.1
  unfold apW
  apply decide_eq_true
  have : ff (fun k => decide (¬ nIn (C (b + 3)) n (C (b + 3) k) = Int32.ofNat k)) n 0 = 0 + n := by
    apply ff_all.mpr
    intro k _ hk
    simp only [decide_eq_false_iff_not, Decidable.not_not]
    have hl := ff_le (fun j => decide (C (b + 3) j = C (b + 3) k)) n 0
    have e : ff (fun j => decide (C (b + 3) j = C (b + 3) k)) n 0 = k := by
      have hk2 : k < n := by omega
      by_cases lt : ff (fun j => decide (C (b + 3) j = C (b + 3) k)) n 0 < k
      · have y := ff_yes (fun j => decide (C (b + 3) j = C (b + 3) k)) n 0 (by omega)
        have y2 := of_decide_eq_true y
        exact absurd y2 (w6 _ _ lt hk2)
      · by_cases gt : k < ff (fun j => decide (C (b + 3) j = C (b + 3) k)) n 0
        · have y := ff_no (fun j => decide (C (b + 3) j = C (b + 3) k)) n 0 k (Nat.zero_le k) gt
          rw [decide_eq_true rfl] at y
          exact Bool.noConfusion y
        · omega
    unfold nIn
    rw [e, if_pos (by omega)]
  omega
/-- a worm is removed -/
def shW (m j : Nat) (F : Nat → Int32) : Nat → Int32 := fun i => if m ≤ i ∧ i < m + j then F (i + 1) else F i
theorem shW_a {m j i : Nat} {F : Nat → Int32} : shW m j F i = if m ≤ i ∧ i < m + j then F (i + 1) else F i := rfl
theorem tk_it {C : HP} {b m : Nat} : ∀ j, (itr (fun k C => us (us C (b + 3) (upd (C (b + 3)) (k - 1) (C (b + 3) k))) (b + 4) (upd (C (b + 4)) (k - 1) (C (b + 4) k))) j (m + 1) C) (b + 3) = shW m j (C (b + 3)) ∧ (itr (fun k C => us (us C (b + 3) (upd (C (b + 3)) (k - 1) (C (b + 3) k))) (b + 4) (upd (C (b + 4)) (k - 1) (C (b + 4) k))) j (m + 1) C) (b + 4) = shW m j (C (b + 4)) ∧ ∀ i, ¬ i = b + 3 → ¬ i = b + 4 → (itr (fun k C => us (us C (b + 3) (upd (C (b + 3)) (k - 1) (C (b + 3) k))) (b + 4) (upd (C (b + 4)) (k - 1) (C (b + 4) k))) j (m + 1) C) i = C i
  | 0 => by
    refine ⟨?_, ?_, fun i _ _ => rfl⟩
    · funext i; rw [shW_a, if_neg (by omega)]; rfl
    · funext i; rw [shW_a, if_neg (by omega)]; rfl
  | j + 1 => by
    obtain ⟨i1, i2, i3⟩ := tk_it (C := C) (b := b) (m := m) j
    rw [itr_last]
    generalize itr (fun k C => us (us C (b + 3) (upd (C (b + 3)) (k - 1) (C (b + 3) k))) (b + 4) (upd (C (b + 4)) (k - 1) (C (b + 4) k))) j (m + 1) C = X at *
    have sh : ∀ (F : Nat → Int32), upd (shW m j F) (m + 1 + j - 1) (shW m j F (m + 1 + j)) = shW m (j + 1) F := by
      intro F
      funext i
      have e1 : upd (shW m j F) (m + 1 + j - 1) (shW m j F (m + 1 + j)) i = if i = m + 1 + j - 1 then shW m j F (m + 1 + j) else shW m j F i := rfl
      rw [e1, shW_a, shW_a, shW_a]
      by_cases e : i = m + 1 + j - 1
      · rw [if_pos e, if_neg (by omega), if_pos (by omega), e, show m + 1 + j - 1 + 1 = m + 1 + j from by omega]
      · rw [if_neg e]
        by_cases q : m ≤ i ∧ i < m + j
        · rw [if_pos q, if_pos (by omega)]
        · rw [if_neg q, if_neg (by omega)]
    refine ⟨?_, ?_, fun i h1 h2 => ?_⟩
    · rw [us_ne (by omega), us_same, i1]; exact sh _
    · rw [us_same, i2]; exact sh _
    · rw [us_ne h2, us_ne h1]; exact i3 i h1 h2
def shG (K j : Nat) (g : Nat → Int32) : Nat → Int32 := fun i => if K ≤ i ∧ i < K + j then g (i + 2) else g i
theorem shG_a {K j i : Nat} {g : Nat → Int32} : shG K j g i = if K ≤ i ∧ i < K + j then g (i + 2) else g i := rfl
theorem rw_it {g : Nat → Int32} {K : Nat} : ∀ j, itr (fun k f => upd f k (f (k + 2))) j K g = shG K j g
  | 0 => by funext i; rw [shG_a, if_neg (by omega)]; rfl
  | j + 1 => by
    rw [itr_last, rw_it j]
    funext i
    have e1 : upd (shG K j g) (K + j) (shG K j g (K + j + 2)) i = if i = K + j then shG K j g (K + j + 2) else shG K j g i := rfl
    rw [e1, shG_a, shG_a, shG_a]
    by_cases e : i = K + j
    · rw [if_pos e, if_neg (by omega), if_pos (by omega), e]
    · rw [if_neg e]
      by_cases q : K ≤ i ∧ i < K + j
      · rw [if_pos q, if_pos (by omega)]
      · rw [if_neg q, if_neg (by omega)]
theorem rw_a {g : Nat → Int32} {n k j : Nat} : rwM g n k j = if j = 33 + 2 * (n - 1) + 1 then 0 else if j = 33 + 2 * (n - 1) then 0 else if 33 + 2 * k ≤ j ∧ j < 33 + 2 * k + (2 * (n - 1) - 2 * k) then (if j + 2 = 4 then Int32.ofNat (n - 1) else g (j + 2)) else if j = 4 then Int32.ofNat (n - 1) else g j := by
  unfold rwM
  rw [rw_it]
  rfl
theorem BC_rem {C : HP} {b r c n m k : Nat} {g : Nat → Int32} (h : BC C b g r c n m) (hk : k < n) : BC (tkW C b k n) b (rwM g n k) r c (n - 1) m := by
  obtain ⟨⟨s0, s1, s2, s3, s4, s5⟩, hp, ⟨a0, a1, a2, a3, a7, a4, a5, a6⟩, ⟨p1, p2⟩, ⟨w1, w2, w3, w4, w5, w6⟩, hl⟩ := h
  have h25 : r * c ≤ 25 := Nat.mul_le_mul s3 s5
  obtain ⟨i1, i2, i3⟩ := tk_it (C := C) (b := b) (m := k) (n - (k + 1))
  have e3 : tkW C b k n (b + 3) = shW k (n - (k + 1)) (C (b + 3)) := by
    unfold tkW; rw [us_ne (by omega), i1]
  have e4 : tkW C b k n (b + 4) = shW k (n - (k + 1)) (C (b + 4)) := by
    unfold tkW; rw [us_ne (by omega), i2]
  have e2 : tkW C b k n (b + 2) = upd (C (b + 2)) 0 (Int32.ofNat (n - 1)) := by
    unfold tkW; rw [us_same]
  have eo : ∀ i, ¬ i = b + 2 → ¬ i = b + 3 → ¬ i = b + 4 → tkW C b k n i = C i := by
    intro i q1 q2 q3
    unfold tkW; rw [us_ne q1, i3 i q2 q3]
  have og : ∀ j, j < 33 → ¬ j = 4 → rwM g n k j = g j := by
    intro j q1 q2
    rw [rw_a, if_neg (by omega), if_neg (by omega), if_neg (by omega), if_neg q2]
  have gw : ∀ j, 33 ≤ j → j < 33 + 2 * (n - 1) → rwM g n k j = if 33 + 2 * k ≤ j then g (j + 2) else g j := by
    intro j q1 q2
    rw [rw_a, if_neg (by omega), if_neg (by omega)]
    by_cases q : 33 + 2 * k ≤ j
    · rw [if_pos q, if_pos (by omega), if_neg (by omega)]
    · rw [if_neg q, if_neg (by omega), if_neg (by omega)]
  unfold BC
  rw [e2, e3, e4, eo b (by omega) (by omega) (by omega), eo (b + 1) (by omega) (by omega) (by omega)]
  refine ⟨⟨by rw [og 0 (by decide) (by decide)]; exact s0, by rw [og 1 (by decide) (by decide)]; exact s1, s2, s3, s4, s5⟩, by rw [og 2 (by decide) (by decide)]; exact hp, ⟨a0, a1, a2, by rw [og 2 (by decide) (by decide)]; exact a3, by rw [og 3 (by decide) (by decide)]; exact a7, by rw [og 5 (by decide) (by decide)]; exact a4, by rw [og 6 (by decide) (by decide)]; exact a5, by rw [og 7 (by decide) (by decide)]; exact a6⟩, ⟨fun j hj => ?_, fun j hj => ?_⟩, ⟨rfl, by omega, ?_, fun j hj => ?_, fun j hj => ?_, fun i j hi hj => ?_⟩, ?_⟩
  · rw [p1 j hj]
    by_cases cl : isCl r c j = true
    · have := (nn_kk s3 s5 cl).1
      rw [if_pos cl, if_pos cl, og _ (by omega) (by omega)]
    · rw [if_neg cl, if_neg cl]
  · rw [og _ (by omega) (by omega)]; exact p2 j hj
  · rw [rw_a, if_neg (by omega), if_neg (by omega), if_neg (by omega), if_pos rfl]
  · rw [shW_a]
    by_cases q : k ≤ j ∧ j < k + (n - (k + 1))
    · rw [if_pos q]; exact w4 (j + 1) (by omega)
    · rw [if_neg q]; exact w4 j hj
  · by_cases q : k ≤ j
    · obtain ⟨p, d, q1, q2, q3, q4, q5, q6⟩ := w5 (j + 1) (by omega)
      refine ⟨p, d, q1, q2, ?_, ?_, ?_, ?_⟩
      · rw [shW_a, if_pos (by omega)]; exact q3
      · rw [gw _ (by omega) (by omega), if_pos (by omega), show 33 + 2 * j + 2 = 33 + 2 * (j + 1) from by omega]; exact q4
      · rw [shW_a, if_pos (by omega)]; exact q5
      · rw [gw _ (by omega) (by omega), if_pos (by omega), show 33 + 2 * j + 1 + 2 = 33 + 2 * (j + 1) + 1 from by omega]; exact q6
    · obtain ⟨p, d, q1, q2, q3, q4, q5, q6⟩ := w5 j (by omega)
      refine ⟨p, d, q1, q2, ?_, ?_, ?_, ?_⟩
      · rw [shW_a, if_neg (by omega)]; exact q3
      · rw [gw _ (by omega) (by omega), if_neg (by omega)]; exact q4
      · rw [shW_a, if_neg (by omega)]; exact q5
      · rw [gw _ (by omega) (by omega), if_neg (by omega)]; exact q6
  · rw [shW_a, shW_a]
    by_cases q1 : k ≤ i
    · rw [if_pos (by omega), if_pos (by omega)]
      exact w6 (i + 1) (j + 1) (by omega) (by omega)
    · rw [if_neg (by omega)]
      by_cases q2 : k ≤ j
      · rw [if_pos (by omega)]; exact w6 i (j + 1) (by omega) (by omega)
      · rw [if_neg (by omega)]; exact w6 i j hi (by omega)
  · rw [og 5 (by decide) (by decide), hl, lbM_xs, lbM_xs, og 2 (by decide) (by decide), og 6 (by decide) (by decide)]
    apply xs_cg
    intro j hj
    refine ⟨?_, rfl⟩
    unfold odM
    rw [og _ (by omega) (by omega)]
