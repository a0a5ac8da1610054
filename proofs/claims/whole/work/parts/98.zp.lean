/-! a board and the reference's row -/
def PRs (r c : Nat) (F1 g : Nat → Int32) (m : Nat) : Prop := (∀ j, j < 30 → F1 j = if isCl r c j = true then g (8 + kk c j) else 0) ∧ ∀ k, k < r * c → ∃ x, x ≤ m ∧ g (8 + k) = Int32.ofNat x
def WRs (r c n : Nat) (F2 F3 F4 g : Nat → Int32) : Prop := F2 0 = Int32.ofNat n ∧ n ≤ 4 ∧ g 4 = Int32.ofNat n ∧ dirs F4 ∧ (∀ k, k < n → ∃ p d, p < r * c ∧ d < 4 ∧ F3 k = Int32.ofNat (nn c p) ∧ g (33 + 2 * k) = Int32.ofNat p ∧ F4 k = Int32.ofNat d ∧ g (33 + 2 * k + 1) = Int32.ofNat d) ∧ ∀ i j, i < j → j < n → ¬ F3 i = F3 j
def FRs (r c : Nat) (F0 g : Nat → Int32) : Prop := F0 0 = Int32.ofNat r ∧ F0 1 = Int32.ofNat c ∧ F0 2 = cMk r (Int32.ofNat c) ∧ F0 3 = g 2 ∧ F0 7 = g 3 ∧ SR r c (F0 4) (g 5) ∧ SR r c (F0 5) (g 6) ∧ SR r c (F0 6) (g 7)
def BA (F0 F1 F2 F3 F4 g : Nat → Int32) (r c n m : Nat) : Prop := gS g r c ∧ iS (g 2) = true ∧ FRs r c F0 g ∧ PRs r c F1 g m ∧ WRs r c n F2 F3 F4 g ∧ g 5 = lbM g r c
/-- a board of the system -/
abbrev BC (C : HP) (b : Nat) (g : Nat → Int32) (r c n m : Nat) : Prop := BA (C b) (C (b + 1)) (C (b + 2)) (C (b + 3)) (C (b + 4)) g r c n m
/-- odd presses toggle -/
def odM (g : Nat → Int32) (k : Nat) : Bool := decide (g (8 + k) - g (8 + k) / 2 * 2 = 1)
def xs (P : Nat → Bool) (v : Nat → Int32) (n : Nat) (s : Int32) : Int32 := itr (fun k s => if P k = true then s ^^^ v k else s) n 0 s
theorem lbM_xs {g : Nat → Int32} {r c : Nat} : lbM g r c = xs (odM g) (arM (g 2) r c) (r * c) (g 6) := by
  unfold lbM xs
  apply itr_cg
  intro k s _ _
  unfold odM
  by_cases q : g (8 + k) - g (8 + k) / 2 * 2 = 1
  · rw [if_pos q, if_pos (decide_eq_true q)]
  · rw [if_neg q, if_neg (by simp [q])]
theorem xor_ac {a b c : Int32} : a ^^^ b ^^^ c = a ^^^ c ^^^ b := by rw [Int32.xor_assoc, Int32.xor_comm b c, ← Int32.xor_assoc]
theorem xs_s {P : Nat → Bool} {v : Nat → Int32} {s x : Int32} : ∀ n, xs P v n (s ^^^ x) = xs P v n s ^^^ x
  | 0 => rfl
  | n + 1 => by
    unfold xs at *
    rw [itr_last, itr_last, Nat.zero_add]
    have := xs_s (P := P) (v := v) (s := s) (x := x) n
    unfold xs at this
    rw [this]
    by_cases p : P n = true
    · rw [if_pos p, if_pos p, xor_ac]
    · rw [if_neg p, if_neg p]
theorem xs_cg {P P' : Nat → Bool} {v v' : Nat → Int32} {s : Int32} (n : Nat) (h : ∀ k, k < n → P k = P' k ∧ v k = v' k) : xs P v n s = xs P' v' n s := by
  unfold xs
  apply itr_cg
  intro k s _ hk
  rw [(h k (by omega)).1, (h k (by omega)).2]
theorem xor_self2 {a b : Int32} : a ^^^ b ^^^ b = a := by rw [Int32.xor_assoc, Int32.xor_self, Int32.xor_zero]
theorem xs_tg {P P' : Nat → Bool} {v : Nat → Int32} {s : Int32} {k : Nat} (hk : P' k = !P k) (h : ∀ j, ¬ j = k → P' j = P j) : ∀ n, k < n → xs P' v n s = xs P v n s ^^^ v k
  | 0, q => absurd q (Nat.not_lt_zero k)
  | n + 1, q => by
    unfold xs
    rw [itr_last, itr_last, Nat.zero_add]
    by_cases e : k = n
    · subst e
      have : itr (fun k s => if P' k = true then s ^^^ v k else s) k 0 s = itr (fun k s => if P k = true then s ^^^ v k else s) k 0 s := by
        apply itr_cg
        intro j t _ hj
        rw [h j (by omega)]
      rw [this, hk]
      cases P k
      · rw [if_pos (by rfl), if_neg (by simp)]
      · rw [if_neg (by simp), if_pos rfl, xor_self2]
    · have := xs_tg (P := P) (P' := P') (v := v) (s := s) hk h n (by omega)
      unfold xs at this
      rw [this, h n (fun q => e q.symm)]
      by_cases p : P n = true
      · rw [if_pos p, if_pos p, xor_ac]
      · rw [if_neg p, if_neg p]
theorem xs_no {P : Nat → Bool} {v : Nat → Int32} {s : Int32} (n : Nat) (h : ∀ k, k < n → P k = false) : xs P v n s = s := by
  unfold xs
  apply itr_id
  intro k _ hk
  rw [h k (by omega), if_neg (by simp)]
theorem od_n {g : Nat → Int32} {k x : Nat} (h : g (8 + k) = Int32.ofNat x) (hx : x < 2147483648) : odM g k = decide (x % 2 = 1) := by
  unfold odM
  rw [h, show (2 : Int32) = Int32.ofNat 2 from rfl, io_rem hx (by decide)]
  have : (Int32.ofNat (x % 2) = 1) = (x % 2 = 1) := io_eq (b := 1) (by omega) (by decide)
  simp only [this]
theorem hN_cl {F : Nat → Int32} {r c k : Nat} (hr : r ≤ 5) (hc : c ≤ 5) (hm : F 2 = cMk r (Int32.ofNat c)) (hk : k < r * c) : hN F (Int32.ofNat (nn c k)) = true := by
  obtain ⟨n1, n2, n3, n4, n5, n6⟩ := nn_1 hr hc hk
  unfold hN
  rw [hm, ct_gb (by omega), cm_gb hr hc (by omega), (kk_nn hr hc hk).1, Bool.and_true]
  refine decide_eq_true ⟨?_, ?_⟩
  · rw [iod0 (by omega)]; omega
  · rw [ioa30 (by omega)]; exact n6
/-- the frame of a board -/
theorem pC_eq {C : HP} {b r c k : Nat} (hr : r ≤ 5) (hc : c ≤ 5) (hm : C b 2 = cMk r (Int32.ofNat c)) (hk : k < r * c) : pC C b (Int32.ofNat (nn c k)) = us (us C b (upd (C b) 4 (C b 4 ^^^ rFrom (C b 2) (C b 3) (Int32.ofNat (nn c k))))) (b + 1) (upd (C (b + 1)) (nn c k) (C (b + 1) (nn c k) + 1)) := by
  obtain ⟨n1, n2, n3, n4, n5, n6⟩ := nn_1 hr hc hk
  unfold pC
  rw [if_pos (hN_cl hr hc hm hk), io_nat (by omega)]
theorem sl_ne {C : HP} {b i j : Nat} {f : Nat → Int32} (h : ¬ i = j) : us C (b + j) f (b + i) = C (b + i) := us_ne (by omega)
/-- a press -/
theorem BA_press {F0 F1 F2 F3 F4 g : Nat → Int32} {r c n m k : Nat} (h : BA F0 F1 F2 F3 F4 g r c n m) (hm : m < 1000000) (hk : k < r * c) : BA (upd F0 4 (F0 4 ^^^ rFrom (F0 2) (F0 3) (Int32.ofNat (nn c k)))) (upd F1 (nn c k) (F1 (nn c k) + 1)) F2 F3 F4 (psM g r c k) r c n (m + 1) := by
  obtain ⟨hg, hp, ⟨a0, a1, a2, a3, a7, a4, a5, a6⟩, ⟨p1, p2⟩, ⟨w1, w2, w3, w4, w5, w6⟩, hl⟩ := h
  have hr := hg.2.2.2.1
  have hc := hg.2.2.2.2.2
  have h25 := gS_n hg
  obtain ⟨n1, n2, n3, n4, n5, n6⟩ := nn_1 hr hc hk
  have o : ∀ j, ¬ j = 5 → ¬ j = 8 + k → psM g r c k j = g j := fun j h1 h2 => psM_o h1 h2
  have e5 : psM g r c k 5 = g 5 ^^^ arM (g 2) r c k := by
    unfold psM upd
    rw [if_neg (by omega), if_pos rfl]
  have e8 : psM g r c k (8 + k) = g (8 + k) + 1 := by
    unfold psM upd
    rw [if_pos rfl]
  have u : ∀ j, ¬ j = 4 → upd F0 4 (F0 4 ^^^ rFrom (F0 2) (F0 3) (Int32.ofNat (nn c k))) j = F0 j := fun j hj => if_neg hj
  refine ⟨gS_ps hg, by rw [o 2 (by omega) (by omega)]; exact hp, ⟨?_, ?_, ?_, ?_, ?_, ?_, ?_, ?_⟩, ⟨fun j hj => ?_, fun j hj => ?_⟩, ⟨w1, w2, by rw [o 4 (by omega) (by omega)]; exact w3, w4, fun j hj => ?_, w6⟩, ?_⟩
  · rw [u 0 (by omega)]; exact a0
  · rw [u 1 (by omega)]; exact a1
  · rw [u 2 (by omega)]; exact a2
  · rw [u 3 (by omega), o 2 (by omega) (by omega)]; exact a3
  · rw [u 7 (by omega), o 3 (by omega) (by omega)]; exact a7
  · rw [e5]
    show SR r c (F0 4 ^^^ rFrom (F0 2) (F0 3) (Int32.ofNat (nn c k))) _
    rw [a2, a3]
    exact SR_xor a4 (SR_ar hr hc hp hk)
  · rw [u 5 (by omega), o 6 (by omega) (by omega)]; exact a5
  · rw [u 6 (by omega), o 7 (by omega) (by omega)]; exact a6
  · unfold upd
    by_cases e : j = nn c k
    · rw [if_pos e, e, p1 _ n6, (kk_nn hr hc hk).1, (kk_nn hr hc hk).2, if_pos rfl, if_pos rfl, e8]
    · rw [if_neg e, p1 j hj]
      by_cases cl : isCl r c j = true
      · rw [if_pos cl, if_pos cl, o _ (by omega) (fun q => e (by
          rw [← (nn_kk hr hc cl).2, show kk c j = k from by omega]))]
      · rw [if_neg cl, if_neg cl]
  · by_cases e : j = k
    · obtain ⟨x, x1, x2⟩ := p2 k hk
      subst e
      exact ⟨x + 1, by omega, by rw [e8, x2, io_succ]⟩
    · obtain ⟨x, x1, x2⟩ := p2 j hj
      exact ⟨x, by omega, by rw [o _ (by omega) (by omega)]; exact x2⟩
  · obtain ⟨p, d, q1, q2, q3, q4, q5, q6⟩ := w5 j hj
    exact ⟨p, d, q1, q2, q3, by rw [o _ (by omega) (by omega)]; exact q4, q5, by rw [o _ (by omega) (by omega)]; exact q6⟩
  · rw [e5, hl, lbM_xs, lbM_xs, o 2 (by omega) (by omega), o 6 (by omega) (by omega)]
    symm
    obtain ⟨x, x1, x2⟩ := p2 k hk
    apply xs_tg
    · have e9 : psM g r c k (8 + k) = Int32.ofNat (x + 1) := by rw [e8, x2, io_succ]
      rw [od_n e9 (by omega), od_n x2 (by omega)]
      by_cases q : x % 2 = 1
      · rw [decide_eq_true q, decide_eq_false (by omega)]; rfl
      · rw [decide_eq_false q, decide_eq_true (by omega)]; rfl
    · intro j hj
      unfold odM
      by_cases e : 8 + j = 5
      · omega
      · rw [o _ e (by omega)]
    · exact hk
theorem BC_press {C : HP} {b r c n m k : Nat} {g : Nat → Int32} (h : BC C b g r c n m) (hm : m < 1000000) (hk : k < r * c) : BC (pC C b (Int32.ofNat (nn c k))) b (psM g r c k) r c n (m + 1) := by
  have hr := h.1.2.2.2.1
  have hc := h.1.2.2.2.2.2
  rw [pC_eq hr hc h.2.2.1.2.2.1 hk]
  have := BA_press h hm hk
  unfold BC
  rw [us_ne (show ¬ b = b + 1 by omega), us_same, us_same, us_ne (show ¬ b + 2 = b + 1 by omega), us_ne (show ¬ b + 2 = b by omega), us_ne (show ¬ b + 3 = b + 1 by omega), us_ne (show ¬ b + 3 = b by omega), us_ne (show ¬ b + 4 = b + 1 by omega), us_ne (show ¬ b + 4 = b by omega)]
  exact this
/-- what a board answers -/
theorem BC_SV {C G : HP} {b r c n m : Nat} (h : BC C b (G 125) r c n m) (hb : b < 117) : SV C G b r c :=
  ⟨h.1, h.2.1, h.2.2.1.2.2.1, h.2.2.1.2.2.2.1, SR_xor h.2.2.1.2.2.2.2.2.1 h.2.2.1.2.2.2.2.2.2.2, hb⟩
