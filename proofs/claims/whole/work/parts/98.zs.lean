/-! the worms' acts on both sides -/
def mvC (r c p d : Nat) : Bool :=
  let nx := Int32.ofNat (nn c p) + wyI (Int32.ofNat d)
  let rr := Int32.ofNat (p / c) + drM d
  let cc := Int32.ofNat (p % c) + dcM d
  let q := (rr * Int32.ofNat c + cc).toNatClampNeg
  if iC (fun i => if i = 0 then Int32.ofNat r else Int32.ofNat c) rr cc = true then decide (q < r * c ∧ rr * Int32.ofNat c + cc = Int32.ofNat q ∧ nx = Int32.ofNat (nn c q)) else !hN (fun _ => cMk r (Int32.ofNat c)) nx
theorem mv_ck : ((List.range 6).all fun r => (List.range 6).all fun c => (List.range (r * c)).all fun p => (List.range 4).all fun d => mvC r c p d) = true := by decide +kernel
theorem mv {r c p d : Nat} (hr : r ≤ 5) (hc : c ≤ 5) (hp : p < r * c) (hd : d < 4) : mvC r c p d = true :=
  List.all_eq_true.mp (List.all_eq_true.mp (List.all_eq_true.mp (List.all_eq_true.mp mv_ck r (List.mem_range.mpr (by omega))) c (List.mem_range.mpr (by omega))) p (List.mem_range.mpr hp)) d (List.mem_range.mpr hd)
theorem iC_cg {g g' : Nat → Int32} {x y : Int32} (h0 : g 0 = g' 0) (h1 : g 1 = g' 1) : iC g x y = iC g' x y := by unfold iC; rw [h0, h1]
theorem hN_cg {f f' : Nat → Int32} {x : Int32} (h : f 2 = f' 2) : hN f x = hN f' x := by unfold hN; rw [h]
/-- a worm turns -/
theorem BA_turn {F0 F1 F2 F3 F4 g : Nat → Int32} {r c n m k : Nat} (h : BA F0 F1 F2 F3 F4 g r c n m) (hk : k < n) : BA F0 F1 F2 F3 (upd F4 k (tnI (F4 k))) (upd g (33 + 2 * k + 1) (tnI (g (33 + 2 * k + 1)))) r c n m := by
  obtain ⟨⟨s0, s1, s2, s3, s4, s5⟩, hp, ⟨a0, a1, a2, a3, a7, a4, a5, a6⟩, ⟨p1, p2⟩, ⟨w1, w2, w3, w4, w5, w6⟩, hl⟩ := h
  have h25 : r * c ≤ 25 := Nat.mul_le_mul s3 s5
  have og : ∀ j, ¬ j = 33 + 2 * k + 1 → upd g (33 + 2 * k + 1) (tnI (g (33 + 2 * k + 1))) j = g j := fun j q => if_neg q
  obtain ⟨p, d, q1, q2, q3, q4, q5, q6⟩ := w5 k hk
  have ht : ∃ d', d' < 4 ∧ tnI (Int32.ofNat d) = Int32.ofNat d' := by
    match d, q2 with
    | 0, _ => exact ⟨1, by decide, rfl⟩
    | 1, _ => exact ⟨2, by decide, rfl⟩
    | 2, _ => exact ⟨3, by decide, rfl⟩
    | 3, _ => exact ⟨0, by decide, rfl⟩
  obtain ⟨d', d4, de⟩ := ht
  refine ⟨⟨by rw [og 0 (by omega)]; exact s0, by rw [og 1 (by omega)]; exact s1, s2, s3, s4, s5⟩, by rw [og 2 (by omega)]; exact hp, ⟨a0, a1, a2, by rw [og 2 (by omega)]; exact a3, by rw [og 3 (by omega)]; exact a7, by rw [og 5 (by omega)]; exact a4, by rw [og 6 (by omega)]; exact a5, by rw [og 7 (by omega)]; exact a6⟩, ⟨fun j hj => ?_, fun j hj => ?_⟩, ⟨w1, w2, by rw [og 4 (by omega)]; exact w3, dirs_tn w4 (by omega), fun j hj => ?_, w6⟩, ?_⟩
  · rw [p1 j hj]
    by_cases cl : isCl r c j = true
    · have := (nn_kk s3 s5 cl).1
      rw [if_pos cl, if_pos cl, og _ (by omega)]
    · rw [if_neg cl, if_neg cl]
  · rw [og _ (by omega)]; exact p2 j hj
  · by_cases e : j = k
    · subst e
      refine ⟨p, d', q1, d4, q3, by rw [og _ (by omega)]; exact q4, ?_, ?_⟩
      · unfold upd; rw [if_pos rfl, q5]; exact de
      · unfold upd; rw [if_pos rfl, q6]; exact de
    · obtain ⟨p, d, q1, q2, q3, q4, q5, q6⟩ := w5 j hj
      refine ⟨p, d, q1, q2, q3, by rw [og _ (by omega)]; exact q4, ?_, by rw [og _ (by omega)]; exact q6⟩
      unfold upd; rw [if_neg e]; exact q5
  · rw [og 5 (by omega), hl, lbM_xs, lbM_xs, og 2 (by omega), og 6 (by omega)]
    apply xs_cg
    intro j hj
    refine ⟨?_, rfl⟩
    unfold odM
    rw [og _ (by omega)]
/-- a worm moves -/
theorem BA_move {F0 F1 F2 F3 F4 g : Nat → Int32} {r c n m k q : Nat} (h : BA F0 F1 F2 F3 F4 g r c n m) (hk : k < n) (hq : q < r * c) (hf : nIn F3 n (Int32.ofNat (nn c q)) = -1) : BA F0 F1 F2 (upd F3 k (Int32.ofNat (nn c q))) F4 (upd g (33 + 2 * k) (Int32.ofNat q)) r c n m := by
  obtain ⟨⟨s0, s1, s2, s3, s4, s5⟩, hp, ⟨a0, a1, a2, a3, a7, a4, a5, a6⟩, ⟨p1, p2⟩, ⟨w1, w2, w3, w4, w5, w6⟩, hl⟩ := h
  have h25 : r * c ≤ 25 := Nat.mul_le_mul s3 s5
  have og : ∀ j, ¬ j = 33 + 2 * k → upd g (33 + 2 * k) (Int32.ofNat q) j = g j := fun j q => if_neg q
  have hno := nIn_no w2 hf
  refine ⟨⟨by rw [og 0 (by omega)]; exact s0, by rw [og 1 (by omega)]; exact s1, s2, s3, s4, s5⟩, by rw [og 2 (by omega)]; exact hp, ⟨a0, a1, a2, by rw [og 2 (by omega)]; exact a3, by rw [og 3 (by omega)]; exact a7, by rw [og 5 (by omega)]; exact a4, by rw [og 6 (by omega)]; exact a5, by rw [og 7 (by omega)]; exact a6⟩, ⟨fun j hj => ?_, fun j hj => ?_⟩, ⟨w1, w2, by rw [og 4 (by omega)]; exact w3, w4, fun j hj => ?_, fun i j hi hj => ?_⟩, ?_⟩
  · rw [p1 j hj]
    by_cases cl : isCl r c j = true
    · have := (nn_kk s3 s5 cl).1
      rw [if_pos cl, if_pos cl, og _ (by omega)]
    · rw [if_neg cl, if_neg cl]
  · rw [og _ (by omega)]; exact p2 j hj
  · obtain ⟨p, d, q1, q2, q3, q4, q5, q6⟩ := w5 j hj
    by_cases e : j = k
    · subst e
      refine ⟨q, d, hq, q2, ?_, ?_, q5, by rw [og _ (by omega)]; exact q6⟩
      · unfold upd; rw [if_pos rfl]
      · unfold upd; rw [if_pos rfl]
    · refine ⟨p, d, q1, q2, ?_, by rw [og _ (by omega)]; exact q4, q5, by rw [og _ (by omega)]; exact q6⟩
      unfold upd; rw [if_neg e]; exact q3
  · unfold upd
    by_cases e : i = k
    · rw [if_pos e, if_neg (show ¬ j = k by omega)]
      exact fun w => hno j hj w.symm
    · rw [if_neg e]
      by_cases e2 : j = k
      · rw [if_pos e2]; exact hno i (by omega)
      · rw [if_neg e2]; exact w6 i j hi hj
  · rw [og 5 (by omega), hl, lbM_xs, lbM_xs, og 2 (by omega), og 6 (by omega)]
    apply xs_cg
    intro j hj
    refine ⟨?_, rfl⟩
    unfold odM
    rw [og _ (by omega)]
theorem BC_act {b r c n m k : Nat} {X : Int32 × HP} {y : Int32 × (Nat → Int32)} (h : X.1 = y.1 ∧ BC X.2 b y.2 r c n m) (hm : m < 1000000) (hk : k < n) : (lwF b n k X).1 = (stF r c n k y).1 ∧ BC (lwF b n k X).2 b (stF r c n k y).2 r c n (m + 1) := by
  obtain ⟨hx, hb⟩ := h
  have hbb := hb
  obtain ⟨⟨s0, s1, s2, s3, s4, s5⟩, hp, ⟨a0, a1, a2, a3, a7, a4, a5, a6⟩, ⟨p1, p2⟩, hw, hl⟩ := hb
  have hw2 := hw
  obtain ⟨w1, w2, w3, w4, w5, w6⟩ := hw
  have h25 : r * c ≤ 25 := Nat.mul_le_mul s3 s5
  obtain ⟨p, d, q1, q2, q3, q4, q5, q6⟩ := w5 k hk
  have mk := mv s3 s5 q1 q2
  unfold mvC at mk
  have ei : iC y.2 (Int32.ofNat (p / c) + drM d) (Int32.ofNat (p % c) + dcM d) = iC (fun i => if i = 0 then Int32.ofNat r else Int32.ofNat c) (Int32.ofNat (p / c) + drM d) (Int32.ofNat (p % c) + dcM d) := iC_cg s0 s1
  have turn : (lwF b n k X) = (X.1, us X.2 (b + 4) (upd (X.2 (b + 4)) k (tnI (X.2 (b + 4) k)))) → (stF r c n k y) = (y.1, upd y.2 (33 + 2 * k + 1) (tnI (y.2 (33 + 2 * k + 1)))) → (lwF b n k X).1 = (stF r c n k y).1 ∧ BC (lwF b n k X).2 b (stF r c n k y).2 r c n (m + 1) := by
    intro e1 e2
    rw [e1, e2]
    refine ⟨hx, ?_⟩
    unfold BC
    dsimp only
    rw [us_ne (show ¬ b = b + 4 by omega), us_ne (show ¬ b + 1 = b + 4 by omega), us_ne (show ¬ b + 2 = b + 4 by omega), us_ne (show ¬ b + 3 = b + 4 by omega), us_same]
    exact BA_up (BA_turn hbb hk) (by omega)
  have nxe : X.2 (b + 3) k + wyI (X.2 (b + 4) k) = Int32.ofNat (nn c p) + wyI (Int32.ofNat d) := by rw [q3, q5]
  have pn : (y.2 (33 + 2 * k)).toNatClampNeg = p := by rw [q4]; exact io_nat (by omega)
  have dn : (y.2 (33 + 2 * k + 1)).toNatClampNeg = d := by rw [q6]; exact io_nat (by omega)
  by_cases vi : iC (fun i => if i = 0 then Int32.ofNat r else Int32.ofNat c) (Int32.ofNat (p / c) + drM d) (Int32.ofNat (p % c) + dcM d) = true
  · simp only [vi, if_true] at mk
    obtain ⟨m1, m2, m3⟩ := of_decide_eq_true mk
    generalize ((Int32.ofNat (p / c) + drM d) * Int32.ofNat c + (Int32.ofNat (p % c) + dcM d)).toNatClampNeg = q at m1 m2 m3
    have hh := hN_cl s3 s5 a2 m1
    have ie := in_eq s3 s5 hw2 m1
    by_cases fr : inM y.2 n (Int32.ofNat q) = -1
    · have ah : ahM y.2 c n p d = Int32.ofNat q := by
        unfold ahM
        rw [ei, vi, m2, decide_eq_true fr]
        rfl
      have ne : ¬ Int32.ofNat q = -1 := by
        have := m1n (f := q) (by omega)
        rw [this]; exact fun w => w
      have e1 : lwF b n k X = (X.1 + 1, pC (us X.2 (b + 3) (upd (X.2 (b + 3)) k (Int32.ofNat (nn c q)))) b (Int32.ofNat (nn c q))) := by
        unfold lwF
        rw [nxe, m3, hh, ie, decide_eq_true fr]
        rfl
      have e2 : stF r c n k y = (y.1 + 1, psM (upd y.2 (33 + 2 * k) (Int32.ofNat q)) r c q) := by
        unfold stF
        rw [pn, dn, ah, if_neg ne, io_nat (by omega)]
      rw [e1, e2]
      refine ⟨by show X.1 + 1 = y.1 + 1; rw [hx], ?_⟩
      have mvd := BA_move hbb hk m1 (ie.trans fr)
      have bc : BC (us X.2 (b + 3) (upd (X.2 (b + 3)) k (Int32.ofNat (nn c q)))) b (upd y.2 (33 + 2 * k) (Int32.ofNat q)) r c n m := by
        unfold BC
        rw [us_ne (show ¬ b = b + 3 by omega), us_ne (show ¬ b + 1 = b + 3 by omega), us_ne (show ¬ b + 2 = b + 3 by omega), us_same, us_ne (show ¬ b + 4 = b + 3 by omega)]
        exact mvd
      exact BC_press bc hm m1
    · apply turn
      · unfold lwF
        rw [nxe, m3, hh, ie, decide_eq_false fr]
        rfl
      · have ah : ahM y.2 c n p d = -1 := by
          unfold ahM
          rw [ei, vi, m2, decide_eq_false fr]
          rfl
        unfold stF
        rw [pn, dn, ah, if_pos rfl]
        rfl
  · simp only [vi, if_false] at mk
    have hh : hN (X.2 b) (Int32.ofNat (nn c p) + wyI (Int32.ofNat d)) = false := by
      rw [hN_cg (f' := fun _ => cMk r (Int32.ofNat c)) a2]
      cases z : hN (fun _ => cMk r (Int32.ofNat c)) (Int32.ofNat (nn c p) + wyI (Int32.ofNat d))
      · rfl
      · rw [z] at mk; exact Bool.noConfusion mk
    apply turn
    · unfold lwF
      rw [nxe, hh]
      rfl
    · have ah : ahM y.2 c n p d = -1 := by
        unfold ahM
        rw [ei, Bool.eq_false_iff.mpr vi]
        rfl
      unfold stF
      rw [pn, dn, ah, if_pos rfl]
      rfl
/-- the count of steps -/
theorem BA_cnt {F0 F1 F2 F3 F4 g : Nat → Int32} {r c n m : Nat} (h : BA F0 F1 F2 F3 F4 g r c n m) : BA (upd F0 7 (F0 7 + 1)) F1 F2 F3 F4 (upd g 3 (g 3 + 1)) r c n m := by
  have og : ∀ j, ¬ j = 3 → upd g 3 (g 3 + 1) j = g j := fun j q => if_neg q
  obtain ⟨⟨s0, s1, s2, s3, s4, s5⟩, hp, ⟨a0, a1, a2, a3, a7, a4, a5, a6⟩, ⟨p1, p2⟩, ⟨w1, w2, w3, w4, w5, w6⟩, hl⟩ := h
  refine ⟨⟨s0, s1, s2, s3, s4, s5⟩, hp, ⟨a0, a1, a2, a3, by show F0 7 + 1 = g 3 + 1; rw [a7], a4, a5, a6⟩, ⟨fun j hj => ?_, fun j hj => ?_⟩, ⟨w1, w2, w3, w4, fun j hj => ?_, w6⟩, ?_⟩
  · rw [p1 j hj]
    by_cases cl : isCl r c j = true
    · rw [if_pos cl, if_pos cl, og _ (by omega)]
    · rw [if_neg cl, if_neg cl]
  · rw [og _ (by omega)]; exact p2 j hj
  · obtain ⟨p, d, q1, q2, q3, q4, q5, q6⟩ := w5 j hj
    exact ⟨p, d, q1, q2, q3, by rw [og _ (by omega)]; exact q4, q5, by rw [og _ (by omega)]; exact q6⟩
  · show g 5 = _
    rw [hl, lbM_xs, lbM_xs]
    apply xs_cg
    intro j hj
    refine ⟨?_, rfl⟩
    unfold odM
    rw [og _ (by omega)]
theorem upd_sw {f : Nat → Int32} {a b : Nat} {x y : Int32} (q : ¬ a = b) : upd (upd f a x) b y = upd (upd f b y) a x := by
  funext i
  unfold upd
  by_cases e1 : i = b
  · by_cases e2 : i = a
    · omega
    · simp [e1, show ¬ b = a from fun w => q w.symm]
  · simp [e1]
theorem ah_3 {g : Nat → Int32} {c n p d : Nat} {v : Int32} : ahM (upd g 3 v) c n p d = ahM g c n p d := by
  have o : ∀ j, ¬ j = 3 → upd g 3 v j = g j := fun j q => if_neg q
  have i1 : ∀ x y, iC (upd g 3 v) x y = iC g x y := fun x y => iC_cg (o 0 (by omega)) (o 1 (by omega))
  have i2 : ∀ x, inM (upd g 3 v) n x = inM g n x := by
    intro x
    unfold inM
    have e : (fun k => decide (upd g 3 v (33 + 2 * k) = x)) = (fun k => decide (g (33 + 2 * k) = x)) := by
      funext k
      rw [o _ (by omega)]
    rw [e]
  unfold ahM
  rw [i1, i2]
theorem ps_3 {g : Nat → Int32} {r c k : Nat} {v : Int32} : psM (upd g 3 v) r c k = upd (psM g r c k) 3 v := by
  have o : ∀ j, ¬ j = 3 → upd g 3 v j = g j := fun j q => if_neg q
  unfold psM
  rw [o 5 (by omega), o 2 (by omega), o (8 + k) (by omega), upd_sw (show ¬ 3 = 5 by omega), upd_sw (show ¬ 3 = 8 + k by omega)]
def stG (r c k : Nat) (x a : Int32) (g : Nat → Int32) : Int32 × (Nat → Int32) := if x = -1 then (a, upd g (33 + 2 * k + 1) (tnI (g (33 + 2 * k + 1)))) else (a + 1, psM (upd g (33 + 2 * k) x) r c x.toNatClampNeg)
theorem stG_eq {r c n k : Nat} {a : Int32} {g : Nat → Int32} : stF r c n k (a, g) = stG r c k (ahM g c n (g (33 + 2 * k)).toNatClampNeg (g (33 + 2 * k + 1)).toNatClampNeg) a g := rfl
theorem stG_3 {r c k : Nat} {x a v : Int32} {g : Nat → Int32} : stG r c k x a (upd g 3 v) = ((stG r c k x a g).1, upd (stG r c k x a g).2 3 v) := by
  have o : upd g 3 v (33 + 2 * k + 1) = g (33 + 2 * k + 1) := if_neg (by omega)
  unfold stG
  by_cases e : x = -1
  · rw [if_pos e, if_pos e, o, upd_sw (show ¬ 3 = 33 + 2 * k + 1 by omega)]
  · rw [if_neg e, if_neg e, upd_sw (show ¬ 3 = 33 + 2 * k by omega), ps_3]
theorem st_3 {r c n k : Nat} {y : Int32 × (Nat → Int32)} {v : Int32} : stF r c n k (y.1, upd y.2 3 v) = ((stF r c n k y).1, upd (stF r c n k y).2 3 v) := by
  obtain ⟨a, g⟩ := y
  have o1 : upd g 3 v (33 + 2 * k) = g (33 + 2 * k) := if_neg (by omega)
  have o2 : upd g 3 v (33 + 2 * k + 1) = g (33 + 2 * k + 1) := if_neg (by omega)
  show stF r c n k (a, upd g 3 v) = ((stF r c n k (a, g)).1, upd (stF r c n k (a, g)).2 3 v)
  rw [stG_eq, stG_eq, o1, o2, ah_3, stG_3]
theorem sti_3 {r c n : Nat} {v : Int32} : ∀ j k (y : Int32 × (Nat → Int32)), itr (stF r c n) j k (y.1, upd y.2 3 v) = ((itr (stF r c n) j k y).1, upd (itr (stF r c n) j k y).2 3 v)
  | 0, _, _ => rfl
  | j + 1, k, y => by
    show itr (stF r c n) j (k + 1) (stF r c n k (y.1, upd y.2 3 v)) = ((itr (stF r c n) j (k + 1) (stF r c n k y)).1, upd (itr (stF r c n) j (k + 1) (stF r c n k y)).2 3 v)
    rw [st_3, sti_3 j (k + 1) (stF r c n k y)]
theorem stk_3 {r c n k : Nat} {y : Int32 × (Nat → Int32)} : (stF r c n k y).2 3 = y.2 3 := by
  unfold stF
  by_cases e : ahM y.2 c n (y.2 (33 + 2 * k)).toNatClampNeg (y.2 (33 + 2 * k + 1)).toNatClampNeg = -1
  · rw [if_pos e]
    show upd _ _ _ 3 = _
    exact if_neg (by omega)
  · rw [if_neg e]
    show psM _ _ _ _ 3 = _
    rw [psM_o (by omega) (by omega)]
    exact if_neg (by omega)
/-- the step -/
theorem BC_step {C : HP} {b r c n m : Nat} {g : Nat → Int32} (h : BC C b g r c n m) (hm : m < 900000) : (lwA C b n).1 = (stM g r c n).1 ∧ BC (lwE C b n) b (stM g r c n).2 r c n (m + 4) := by
  have h4 := h.2.2.2.2.1.2.1
  have key := itr_rel (f := lwF b n) (g := stF r c n) (fun k (X : Int32 × HP) (y : Int32 × (Nat → Int32)) => (X.1 = y.1 ∧ BC X.2 b y.2 r c n (m + k)) ∧ y.2 3 = g 3) n 0 (0, C) (0, g) ⟨⟨rfl, h⟩, rfl⟩ (fun k X y _ hk hX => by
    have hk : k < n := by omega
    exact ⟨BC_act (m := m + k) hX.1 (by omega) hk, stk_3.trans hX.2⟩)
  have e : stM g r c n = ((itr (stF r c n) n 0 (0, g)).1, upd (itr (stF r c n) n 0 (0, g)).2 3 (g 3 + 1)) := sti_3 n 0 (0, g)
  rw [e]
  obtain ⟨⟨k1, k2⟩, k3⟩ := key
  refine ⟨k1, ?_⟩
  have fin := BA_cnt k2
  rw [k3] at fin
  unfold lwE BC
  dsimp only
  rw [us_same, us_ne (show ¬ b + 1 = b by omega), us_ne (show ¬ b + 2 = b by omega), us_ne (show ¬ b + 3 = b by omega), us_ne (show ¬ b + 4 = b by omega)]
  exact BA_up fin (by omega)
