/-! worms, solutions, the chase, on both sides -/
theorem ff_cg {c c' : Nat → Bool} : ∀ n k, (∀ j, k ≤ j → j < k + n → c j = c' j) → ff c n k = ff c' n k
  | 0, _, _ => rfl
  | n + 1, k, h => by
    unfold ff
    rw [h k (Nat.le_refl k) (by omega), ff_cg n (k + 1) (fun j h1 h2 => h j (by omega) (by omega))]
theorem nn_ij {r c a b : Nat} (hr : r ≤ 5) (hc : c ≤ 5) (ha : a < r * c) (hb : b < r * c) : nn c a = nn c b ↔ a = b := by
  constructor
  · intro e
    have h1 := nn_lt hr hc ha hb
    have h2 := nn_lt hr hc hb ha
    omega
  · intro e; rw [e]
theorem in_eq {F2 F3 F4 g : Nat → Int32} {r c n p : Nat} (hr : r ≤ 5) (hc : c ≤ 5) (hw : WRs r c n F2 F3 F4 g) (hp : p < r * c) : nIn F3 n (Int32.ofNat (nn c p)) = inM g n (Int32.ofNat p) := by
  obtain ⟨w1, w2, w3, w4, w5, w6⟩ := hw
  have h25 : r * c ≤ 25 := Nat.mul_le_mul hr hc
  obtain ⟨n1, n2, n3, n4, n5, n6⟩ := nn_1 hr hc hp
  have e : ff (fun k => decide (F3 k = Int32.ofNat (nn c p))) n 0 = ff (fun k => decide (g (33 + 2 * k) = Int32.ofNat p)) n 0 := by
    apply ff_cg
    intro k _ hk
    obtain ⟨q, d, q1, q2, q3, q4, q5, q6⟩ := w5 k (by omega)
    obtain ⟨m1, m2, m3, m4, m5, m6⟩ := nn_1 hr hc q1
    rw [q3, q4]
    apply decide_eq_decide.mpr
    rw [io_eq (by omega) (by omega), io_eq (by omega) (by omega)]
    exact nn_ij hr hc q1 hp
  unfold nIn inM
  rw [e]
/-- a free cell is no worm's -/
theorem nIn_no {F3 : Nat → Int32} {n : Nat} {x : Int32} (hn : n ≤ 4) (h : nIn F3 n x = -1) : ∀ k, k < n → ¬ F3 k = x := by
  intro k hk e
  unfold nIn at h
  by_cases q : ff (fun k => decide (F3 k = x)) n 0 < n
  · rw [if_pos q] at h
    have := m1n (f := ff (fun k => decide (F3 k = x)) n 0) (by omega)
    rw [this] at h
    exact h
  · have := ff_no (fun k => decide (F3 k = x)) n 0 k (Nat.zero_le k) (by omega)
    rw [decide_eq_true e] at this
    exact Bool.noConfusion this
theorem wy_n {d : Int32} (h : 0 ≤ wyM d) : ∃ k, k < 4 ∧ wyM d = Int32.ofNat k := by
  unfold wyM at h ⊢
  by_cases p1 : d = 110
  · rw [if_pos p1]; exact ⟨0, by decide, rfl⟩
  rw [if_neg p1] at h ⊢
  by_cases p2 : d = 101
  · rw [if_pos p2]; exact ⟨1, by decide, rfl⟩
  rw [if_neg p2] at h ⊢
  by_cases p3 : d = 115
  · rw [if_pos p3]; exact ⟨2, by decide, rfl⟩
  rw [if_neg p3] at h ⊢
  by_cases p4 : d = 119
  · rw [if_pos p4]; exact ⟨3, by decide, rfl⟩
  rw [if_neg p4] at h
  exact absurd h (by decide)
/-- a worm is added -/
theorem BC_add {C : HP} {b r c n m p : Nat} {g : Nat → Int32} {d : Int32} (h : BC C b g r c n m) (hn : n < 4) (hp : p < r * c) (hd : 0 ≤ wyM d) (hf : nIn (C (b + 3)) n (Int32.ofNat (nn c p)) = -1) : BC (puW C b n (Int32.ofNat (nn c p)) (wyM d)) b (awM g n p d) r c (n + 1) m := by
  obtain ⟨⟨s0, s1, s2, s3, s4, s5⟩, hp', ⟨a0, a1, a2, a3, a7, a4, a5, a6⟩, ⟨p1, p2⟩, ⟨w1, w2, w3, w4, w5, w6⟩, hl⟩ := h
  have h25 : r * c ≤ 25 := Nat.mul_le_mul s3 s5
  obtain ⟨dk, dk4, dke⟩ := wy_n hd
  have og : ∀ j, j < 33 → ¬ j = 4 → awM g n p d j = g j := by
    intro j q1 q2
    unfold awM upd
    rw [if_neg q2, if_neg (by omega), if_neg (by omega)]
  have og2 : ∀ j, 33 ≤ j → j < 33 + 2 * n → awM g n p d j = g j := by
    intro j q1 q2
    unfold awM upd
    rw [if_neg (by omega), if_neg (by omega), if_neg (by omega)]
  have e3 : puW C b n (Int32.ofNat (nn c p)) (wyM d) (b + 3) = upd (C (b + 3)) n (Int32.ofNat (nn c p)) := by
    unfold puW
    rw [us_ne (by omega), us_ne (by omega), us_same]
  have e4 : puW C b n (Int32.ofNat (nn c p)) (wyM d) (b + 4) = upd (C (b + 4)) n (wyM d) := by
    unfold puW
    rw [us_ne (by omega), us_same]
  have e2 : puW C b n (Int32.ofNat (nn c p)) (wyM d) (b + 2) = upd (C (b + 2)) 0 (Int32.ofNat (n + 1)) := by
    unfold puW
    rw [us_same]
  have eo : ∀ i, ¬ i = b + 2 → ¬ i = b + 3 → ¬ i = b + 4 → puW C b n (Int32.ofNat (nn c p)) (wyM d) i = C i := by
    intro i q1 q2 q3
    unfold puW
    rw [us_ne q1, us_ne q3, us_ne q2]
  have hno := nIn_no (Nat.le_of_lt hn) hf
  unfold BC
  rw [e2, e3, e4, eo b (by omega) (by omega) (by omega), eo (b + 1) (by omega) (by omega) (by omega)]
  refine ⟨⟨by rw [og 0 (by decide) (by decide)]; exact s0, by rw [og 1 (by decide) (by decide)]; exact s1, s2, s3, s4, s5⟩, by rw [og 2 (by decide) (by decide)]; exact hp', ⟨a0, a1, a2, by rw [og 2 (by decide) (by decide)]; exact a3, by rw [og 3 (by decide) (by decide)]; exact a7, by rw [og 5 (by decide) (by decide)]; exact a4, by rw [og 6 (by decide) (by decide)]; exact a5, by rw [og 7 (by decide) (by decide)]; exact a6⟩, ⟨fun j hj => ?_, fun k hk => ?_⟩, ⟨rfl, by omega, rfl, fun k hk => ?_, fun k hk => ?_, fun i j hi hj => ?_⟩, ?_⟩
  · rw [p1 j hj]
    by_cases cl : isCl r c j = true
    · have := (nn_kk s3 s5 cl).1
      rw [if_pos cl, if_pos cl, og _ (by omega) (by omega)]
    · rw [if_neg cl, if_neg cl]
  · rw [og _ (by omega) (by omega)]; exact p2 k hk
  · unfold upd
    by_cases e : k = n
    · rw [if_pos e]; exact ⟨dk, dk4, dke⟩
    · rw [if_neg e]; exact w4 k hk
  · unfold upd
    by_cases e : k = n
    · subst e
      refine ⟨p, dk, hp, dk4, by rw [if_pos rfl], ?_, by rw [if_pos rfl]; exact dke, ?_⟩
      · unfold awM upd
        rw [if_neg (by omega), if_neg (by omega), if_pos rfl]
      · unfold awM upd
        rw [if_neg (by omega), if_pos rfl]; exact dke
    · obtain ⟨q, d', q1, q2, q3, q4, q5, q6⟩ := w5 k (by omega)
      exact ⟨q, d', q1, q2, by rw [if_neg e]; exact q3, by rw [og2 _ (by omega) (by omega)]; exact q4, by rw [if_neg e]; exact q5, by rw [og2 _ (by omega) (by omega)]; exact q6⟩
  · unfold upd
    rw [if_neg (show ¬ i = n by omega)]
    by_cases e : j = n
    · rw [if_pos e]; exact hno i (by omega)
    · rw [if_neg e]; exact w6 i j hi (by omega)
  · rw [og 5 (by decide) (by decide), hl, lbM_xs, lbM_xs, og 2 (by decide) (by decide), og 6 (by decide) (by decide)]
    apply xs_cg
    intro k hk
    refine ⟨?_, rfl⟩
    unfold odM
    rw [og _ (by omega) (by omega)]
/-- a set of cells is pressed -/
theorem BC_all {C : HP} {b r c n m : Nat} {g : Nat → Int32} {s s' : Int32} (h : BC C b g r c n m) (hm : m < 900000) (hs' : SR r c s s') : BC (pA C b s) b (soM g s' r c) r c n (m + 25) := by
  have hr := h.1.2.2.2.1
  have hc := h.1.2.2.2.2.2
  have h25 := gS_n h.1
  have e : pA C b s = itr (fun k C => if gb s' k = true then pC C b (Int32.ofNat (nn c k)) else C) (r * c) 0 C := by
    unfold pA
    rw [← IT hr hc]
    apply itr_cg
    intro j X _ hj
    rw [ct_gb (by omega), hs'.1 j (by omega)]
    by_cases cl : isCl r c j = true
    · rw [if_pos cl, (nn_kk hr hc cl).2]
      have q := of_decide_eq_true cl
      rw [decide_eq_true q, Bool.true_and]
      rfl
    · rw [if_neg cl]
      have q := of_decide_eq_false (Bool.eq_false_iff.mpr cl)
      rw [decide_eq_false q, Bool.false_and, if_neg (by simp)]
  rw [e]
  have key := itr_rel (f := fun k C => if gb s' k = true then pC C b (Int32.ofNat (nn c k)) else C) (g := soF s' r c) (fun k X y => BC X b y r c n (m + k)) (r * c) 0 C g h (fun k X y _ hk hX => by
    unfold soF
    rw [hs_gb (by omega)]
    by_cases q : gb s' k = true
    · rw [if_pos q, if_pos q]
      exact BC_press (m := m + k) hX (by omega) (by omega)
    · rw [if_neg q, if_neg q]
      exact BA_up hX (by omega))
  unfold soM
  exact BA_up key (by omega)
theorem itr_mul {S : Type} {f : Nat → S → S} (c : Nat) : ∀ n i s, itr (fun i s => itr f c (i * c) s) n i s = itr f (n * c) (i * c) s
  | 0, _, _ => by rw [Nat.zero_mul]; rfl
  | n + 1, i, s => by
    show itr (fun i s => itr f c (i * c) s) n (i + 1) (itr f c (i * c) s) = _
    rw [itr_mul c n (i + 1), Nat.succ_mul n, Nat.add_comm (n * c) c, itr_add, Nat.succ_mul i]
/-- the chase -/
theorem BC_chase {C : HP} {b r c n m : Nat} {g : Nat → Int32} (h : BC C b g r c n m) (hm : m < 900000) : (chA C b r c).1 = (hsM g r c).1 ∧ BC (chA C b r c).2 b (hsM g r c).2 r c n (m + 25) := by
  have hr := h.1.2.2.2.1
  have hc := h.1.2.2.2.2.2
  have r1 := h.1.2.2.1
  have h25 := gS_n h.1
  have e : hsM g r c = itr (fun i s => itr (hsF r c) c (i * c) s) (r - 1) 1 (0, g) := by
    rw [itr_mul]
    unfold hsM
    rw [Nat.one_mul, Nat.sub_mul, Nat.one_mul]
  rw [e]
  have key := itr_rel (f := chR b c) (g := fun i s => itr (hsF r c) c (i * c) s) (fun i (X : Int32 × HP) (y : Int32 × (Nat → Int32)) => X.1 = y.1 ∧ BC X.2 b y.2 r c n (m + (i - 1) * c)) (r - 1) 1 (0, C) (0, g) ⟨rfl, by rw [Nat.sub_self, Nat.zero_mul]; exact h⟩ (fun i X y i1 i2 hX => by
    have hmul : (i - 1) * c + c = i * c := by
      have : i = (i - 1) + 1 := by omega
      rw [this, Nat.succ_mul]; rfl
    have hic : i * c + c ≤ r * c := by
      have := Nat.mul_le_mul_right c (show i + 1 ≤ r by omega)
      rw [Nat.succ_mul] at this; exact this
    have in1 := itr_rel (f := chF b i) (g := fun t s => hsF r c (i * c + t) s) (fun t (X : Int32 × HP) (y : Int32 × (Nat → Int32)) => X.1 = y.1 ∧ BC X.2 b y.2 r c n (m + (i - 1) * c + t)) c 0 X y hX (fun t X y _ ht hX => by
      have ht : t < c := by omega
      have k1 : (i - 1) * c + t < r * c := by omega
      have k2 : i * c + t < r * c := by omega
      have d1 : nn c ((i - 1) * c + t) = (i - 1) * 6 + t := by
        have q1 : ((i - 1) * c + t) / c = i - 1 := by rw [Nat.mul_comm, Nat.mul_add_div (by omega), Nat.div_eq_of_lt ht, Nat.add_zero]
        have q2 : ((i - 1) * c + t) % c = t := by rw [Nat.mul_comm, Nat.mul_add_mod, Nat.mod_eq_of_lt ht]
        unfold nn; rw [q1, q2]
      have d2 : nn c (i * c + t) = i * 6 + t := by
        have q1 : (i * c + t) / c = i := by rw [Nat.mul_comm, Nat.mul_add_div (by omega), Nat.div_eq_of_lt ht, Nat.add_zero]
        have q2 : (i * c + t) % c = t := by rw [Nat.mul_comm, Nat.mul_add_mod, Nat.mod_eq_of_lt ht]
        unfold nn; rw [q1, q2]
      have sx := SR_xor hX.2.2.2.1.2.2.2.2.2.1 hX.2.2.2.1.2.2.2.2.2.2.2
      obtain ⟨n1, n2, n3, n4, n5, n6⟩ := nn_1 hr hc k1
      unfold chF hsF
      rw [← d1, ← d2, ct_gb (by omega), show i * c + t - c = (i - 1) * c + t from by omega, hs_gb (by omega), SR_gb hr hc sx k1]
      by_cases q : gb (y.2 5 ^^^ y.2 7) ((i - 1) * c + t) = true
      · rw [if_pos q, if_pos q]
        refine ⟨by show X.1 + 1 = y.1 + 1; rw [hX.1], ?_⟩
        have icr : (i - 1) * c ≤ r * c := Nat.mul_le_mul_right c (by omega)
        exact BC_press (m := m + (i - 1) * c + t) hX.2 (by omega) k2
      · rw [if_neg q, if_neg q]
        exact ⟨hX.1, BA_up hX.2 (by omega)⟩)
    have sh : ∀ n' k s, itr (fun t s => hsF r c (i * c + t) s) n' k s = itr (hsF r c) n' (i * c + k) s := by
      intro n'
      induction n' with
      | zero => intro k s; rfl
      | succ n' ih => intro k s; exact ih (k + 1) _
    rw [sh] at in1
    refine ⟨in1.1, ?_⟩
    have e3 : m + (i - 1) * c + (0 + c) = m + (i + 1 - 1) * c := by
      rw [Nat.add_sub_cancel]; omega
    rw [← e3]
    exact in1.2)
  refine ⟨key.1, BA_up key.2 ?_⟩
  have : (1 + (r - 1) - 1) * c ≤ r * c := Nat.mul_le_mul_right c (by omega)
  omega
