/-! counts, sums, lines on both sides -/
theorem lwI_c {y : Int32} {o st : Nat} : ∀ n, (∀ k, k < n → o + k * st < 32) → lwI y o st n = Int32.ofNat (cbn (fun k => gb y (o + k * st)) n)
  | 0, _ => rfl
  | n + 1, h => by
    have ih := lwI_c (y := y) (o := o) (st := st) n (fun k hk => h k (by omega))
    unfold lwI at *
    rw [itr_last, Nat.zero_add, ih, shr1 (h n (by omega))]
    show _ = Int32.ofNat (cbn (fun k => gb y (o + k * st)) n + (gb y (o + n * st)).toNat)
    cases gb y (o + n * st)
    · simp
    · rw [if_pos rfl, io_succ]; rfl
theorem cb_30 {F : Nat → Bool} (h : F 30 = false ∧ F 31 = false) : cbn F 32 = cbn F 30 := by
  show cbn F 30 + (F 30).toNat + (F 31).toNat = _
  rw [h.1, h.2]; rfl
theorem m31_ck : ((List.range 5).all fun q => (List.range 32).all fun j => decide (gb ((31 : Int32) <<< (Int32.ofNat (q * 6) &&& 31)) j = decide (q * 6 ≤ j ∧ j < q * 6 + 5))) = true := by decide +kernel
theorem mcl_ck : ((List.range 5).all fun q => (List.range 30).all fun j => decide (gb ((Int32.ofNat 17043521) <<< (Int32.ofNat q &&& 31)) j = decide (j % 6 = q))) = true := by decide +kernel
theorem row_cnt {r c q : Nat} {x y : Int32} (hr : r ≤ 5) (hc : c ≤ 5) (h : SR r c x y) (hq : q < r) : bc32 (x &&& 31 <<< (Int32.ofNat (q * 6) &&& 31)) = lwI y (q * c) 1 c := by
  have hqc : q * c + c ≤ r * c := by
    have := Nat.mul_le_mul_right c (Nat.succ_le_of_lt hq)
    rw [Nat.succ_mul] at this; exact this
  have h25 : r * c ≤ 25 := Nat.mul_le_mul hr hc
  have mk : ∀ j, j < 32 → gb ((31 : Int32) <<< (Int32.ofNat (q * 6) &&& 31)) j = decide (q * 6 ≤ j ∧ j < q * 6 + 5) := fun j hj => of_decide_eq_true (List.all_eq_true.mp (List.all_eq_true.mp m31_ck q (List.mem_range.mpr (by omega))) j (List.mem_range.mpr hj))
  have e := cb_rows (f := fun k => gb y k && decide (k / c = q)) (F := gb (x &&& 31 <<< (Int32.ofNat (q * 6) &&& 31))) (r := r) (c := c) (by omega) (fun j hj => by
    rw [gb_and, h.1 j (by omega), mk j (by omega)]
    by_cases cl : j % 6 < c ∧ j / 6 < r
    · rw [decide_eq_true cl, Bool.true_and, Bool.true_and]
      congr 1
      have d1 : (j / 6 * c + j % 6) / c = j / 6 := by rw [Nat.mul_comm, Nat.mul_add_div (by omega), Nat.div_eq_of_lt cl.1, Nat.add_zero]
      rw [d1]
      apply decide_eq_decide.mpr
      omega
    · rw [decide_eq_false cl, Bool.false_and, Bool.false_and, Bool.false_and]) 5 (Nat.le_refl 5)
  rw [Nat.min_eq_right hr] at e
  rw [bc_cnt, lwI_c c (fun k hk => by omega), cb_30 ⟨by rw [gb_and, mk 30 (by decide), decide_eq_false (by omega), Bool.and_false], by rw [gb_and, mk 31 (by decide), decide_eq_false (by omega), Bool.and_false]⟩]
  congr 1
  rw [show (30 : Nat) = 6 * 5 from rfl, e, show r * c = q * c + (c + (r * c - (q * c + c))) from by omega, cb_add, cb_add]
  have z1 : cbn (fun k => gb y k && decide (k / c = q)) (q * c) = 0 := by
    apply cb_0
    intro j hj
    have : j / c < q := Nat.div_lt_of_lt_mul (by rw [Nat.mul_comm]; exact hj)
    rw [decide_eq_false (by omega), Bool.and_false]
  by_cases c0 : c = 0
  · subst c0
    rw [z1]
    rw [cb_0 _ (fun t ht => absurd ht (by omega)), cb_0 _ (fun t ht => absurd ht (by omega))]
    rfl
  have z2 : cbn (fun t => (fun t => gb y (q * c + t) && decide ((q * c + t) / c = q)) (c + t)) (r * c - (q * c + c)) = 0 := by
    apply cb_0
    intro t _
    have : q + 1 ≤ (q * c + (c + t)) / c := by
      rw [Nat.le_div_iff_mul_le (by omega), Nat.succ_mul]; omega
    dsimp only
    rw [decide_eq_false (by omega), Bool.and_false]
  have z3 : cbn (fun t => gb y (q * c + t) && decide ((q * c + t) / c = q)) c = cbn (fun k => gb y (q * c + k * 1)) c := by
    apply cb_cg
    intro t ht
    have : (q * c + t) / c = q := by rw [Nat.mul_comm, Nat.mul_add_div (by omega), Nat.div_eq_of_lt ht, Nat.add_zero]
    rw [this, decide_eq_true rfl, Bool.and_true, Nat.mul_one]
  rw [z1]
  dsimp only at z2 z3 ⊢
  rw [z2, z3]
  omega
theorem cb_one {b : Nat → Bool} {q : Nat} : ∀ n, cbn (fun t => b t && decide (t = q)) n = if q < n then (b q).toNat else 0
  | 0 => by rw [if_neg (Nat.not_lt_zero q)]; rfl
  | n + 1 => by
    show cbn (fun t => b t && decide (t = q)) n + (b n && decide (n = q)).toNat = _
    rw [cb_one n]
    by_cases e : n = q
    · subst e
      rw [if_neg (Nat.lt_irrefl n), if_pos (Nat.lt_succ_self n), decide_eq_true rfl, Bool.and_true, Nat.zero_add]
    · rw [decide_eq_false e, Bool.and_false]
      by_cases l : q < n
      · rw [if_pos l, if_pos (by omega)]; rfl
      · rw [if_neg l, if_neg (by omega)]; rfl
theorem col_cnt {r c q : Nat} {x y : Int32} (hr : r ≤ 5) (hc : c ≤ 5) (h : SR r c x y) (hq : q < c) : bc32 (x &&& (Int32.ofNat 17043521) <<< (Int32.ofNat q &&& 31)) = lwI y q c r := by
  have h25 : r * c ≤ 25 := Nat.mul_le_mul hr hc
  have mk : ∀ j, j < 30 → gb ((Int32.ofNat 17043521) <<< (Int32.ofNat q &&& 31)) j = decide (j % 6 = q) := fun j hj => of_decide_eq_true (List.all_eq_true.mp (List.all_eq_true.mp mcl_ck q (List.mem_range.mpr (by omega))) j (List.mem_range.mpr hj))
  have e := cb_rows (f := fun k => gb y k && decide (k % c = q)) (F := gb (x &&& (Int32.ofNat 17043521) <<< (Int32.ofNat q &&& 31))) (r := r) (c := c) (by omega) (fun j hj => by
    rw [gb_and, h.1 j (by omega), mk j (by omega)]
    by_cases cl : j % 6 < c ∧ j / 6 < r
    · rw [decide_eq_true cl, Bool.true_and, Bool.true_and]
      congr 1
      have d2 : (j / 6 * c + j % 6) % c = j % 6 := by rw [Nat.mul_comm, Nat.mul_add_mod, Nat.mod_eq_of_lt cl.1]
      rw [d2]
    · rw [decide_eq_false cl, Bool.false_and, Bool.false_and, Bool.false_and]) 5 (Nat.le_refl 5)
  rw [Nat.min_eq_right hr] at e
  have hk : ∀ k, k < r → q + k * c < 32 := by
    intro k hk
    have := Nat.mul_le_mul_right c (Nat.succ_le_of_lt hk)
    rw [Nat.succ_mul] at this
    omega
  rw [bc_cnt, lwI_c r hk, cb_30 ⟨by rw [gb_and, h.1 30 (by decide), decide_eq_false (by omega), Bool.false_and, Bool.false_and], by rw [gb_and, h.1 31 (by decide), decide_eq_false (by omega), Bool.false_and, Bool.false_and]⟩]
  congr 1
  rw [show (30 : Nat) = 6 * 5 from rfl, e]
  have run : ∀ n, cbn (fun k => gb y k && decide (k % c = q)) (n * c) = cbn (fun k => gb y (q + k * c)) n := by
    intro n
    induction n with
    | zero => rw [Nat.zero_mul]; rfl
    | succ n ih =>
      rw [Nat.succ_mul, cb_add, ih]
      show _ = cbn (fun k => gb y (q + k * c)) n + (gb y (q + n * c)).toNat
      congr 1
      have z : cbn (fun t => gb y (n * c + t) && decide ((n * c + t) % c = q)) c = cbn (fun t => gb y (n * c + t) && decide (t = q)) c := by
        apply cb_cg
        intro t ht
        have : (n * c + t) % c = t := by rw [Nat.mul_comm, Nat.mul_add_mod, Nat.mod_eq_of_lt ht]
        rw [this]
      rw [z, cb_one, if_pos hq, Nat.add_comm]
  exact run r
/-- the sum of the presses -/
theorem sum_eq {F1 g : Nat → Int32} {r c m : Nat} (hr : r ≤ 5) (hc : c ≤ 5) (h : PRs r c F1 g m) : sumI F1 0 30 = sumI g 8 (r * c) := by
  unfold sumI
  rw [← IT hr hc]
  apply itr_cg
  intro j s _ hj
  rw [Nat.zero_add, h.1 j (by omega)]
  by_cases cl : isCl r c j = true
  · rw [if_pos cl, if_pos cl]
  · rw [if_neg cl, if_neg cl, Int32.add_zero]
/-- a line -/
theorem line_eq {C G : HP} {r c n m q : Nat} (h : BC C 60 (G 125) r c n m) (hq : q < r) : (wlA C q c).1 = (wmA G c q).1 ∧ (wlA C q c).1 ≤ 10 ∧ ∀ i, i < (wlA C q c).1 → (wlA C q c).2 i = (wmA G c q).2 i ∧ okPut 1 (.int ((wlA C q c).2 i)) := by
  have hr := h.1.2.2.2.1
  have hc := h.1.2.2.2.2.2
  have h25 := gS_n h.1
  have s4 := h.2.2.1.2.2.2.2.2.1
  have s6 := h.2.2.1.2.2.2.2.2.2.2
  have sx := SR_xor s4 s6
  have sh : ∀ n' k s, itr (fun t s => wmF (G 125) (q * c + t) s) n' k s = itr (wmF (G 125)) n' (q * c + k) s := by
    intro n'
    induction n' with
    | zero => intro k s; rfl
    | succ n' ih => intro k s; exact ih (k + 1) _
  have key := itr_rel (f := wlF C q) (g := fun t s => wmF (G 125) (q * c + t) s) (fun k (s t : Nat × (Nat → Int32)) => s.1 = t.1 ∧ s.1 ≤ 2 * k ∧ ∀ i, i < s.1 → s.2 i = t.2 i ∧ okPut 1 (.int (s.2 i))) c 0 (0, C 123) (0, G 130) ⟨rfl, Nat.zero_le _, fun i hi => absurd hi (Nat.not_lt_zero i)⟩ (fun k s t _ hk hst => by
    have hk : k < c := by omega
    have k1 := cell_lt hq hk
    obtain ⟨n1, n2, n3, n4, n5, n6⟩ := nn_1 hr hc k1
    have d1 : nn c (q * c + k) = q * 6 + k := by
      have q1 : (q * c + k) / c = q := by rw [Nat.mul_comm, Nat.mul_add_div (by omega), Nat.div_eq_of_lt hk, Nat.add_zero]
      have q2 : (q * c + k) % c = k := by rw [Nat.mul_comm, Nat.mul_add_mod, Nat.mod_eq_of_lt hk]
      unfold nn; rw [q1, q2]
    obtain ⟨h1, h2, h3⟩ := hst
    unfold wlF wmF
    rw [← d1, ct_gb (by omega), ct_gb (by omega), hs_gb (by omega), hs_gb (by omega), SR_gb hr hc sx k1, SR_gb hr hc s4 k1, ← h1]
    generalize hv : (if gb (G 125 5) (q * c + k) = true then (42 : Int32) else 46) = v
    have okv : okPut 1 (.int v) := by
      rw [← hv]
      cases gb (G 125 5) (q * c + k)
      · exact ok46
      · exact ok42
    have e1 : ∀ (F : Nat → Int32) (i : Nat) (x : Int32) j, upd F i x j = if j = i then x else F j := fun F i x j => rfl
    by_cases w : gb (G 125 5 ^^^ G 125 7) (q * c + k) = true
    · rw [if_pos w, if_pos w]
      refine ⟨rfl, by show s.1 + 2 ≤ 2 * (k + 1); omega, fun i hi => ?_⟩
      have hi : i < s.1 + 2 := hi
      show upd (upd s.2 s.1 v) (s.1 + 1) 33 i = upd (upd t.2 s.1 v) (s.1 + 1) 33 i ∧ okPut 1 (.int (upd (upd s.2 s.1 v) (s.1 + 1) 33 i))
      rw [e1, e1, e1, e1]
      by_cases a1 : i = s.1 + 1
      · rw [if_pos a1, if_pos a1]; exact ⟨rfl, ok33⟩
      · rw [if_neg a1, if_neg a1]
        by_cases a2 : i = s.1
        · rw [if_pos a2, if_pos a2]; exact ⟨rfl, okv⟩
        · rw [if_neg a2, if_neg a2]; exact h3 i (by omega)
    · rw [if_neg w, if_neg w]
      refine ⟨rfl, by show s.1 + 1 ≤ 2 * (k + 1); omega, fun i hi => ?_⟩
      have hi : i < s.1 + 1 := hi
      show upd s.2 s.1 v i = upd t.2 s.1 v i ∧ okPut 1 (.int (upd s.2 s.1 v i))
      rw [e1, e1]
      by_cases a2 : i = s.1
      · rw [if_pos a2, if_pos a2]; exact ⟨rfl, okv⟩
      · rw [if_neg a2, if_neg a2]; exact h3 i (by omega))
  rw [sh] at key
  refine ⟨key.1, ?_, key.2.2⟩
  have := key.2.1
  show (wlA C q c).1 ≤ 10
  unfold wlA
  omega
