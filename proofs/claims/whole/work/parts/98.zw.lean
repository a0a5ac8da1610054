/-! the whole text on both sides -/
theorem mat_fit {G : HP} {l a : Nat} {ws : List Nat} (h : mat G l ws a = ws.length) : ∀ j, j < ws.length → fit (ws.getD j 0) (ih G l (a + j)) = true := by
  intro j hj
  unfold mat at h
  have := ff_no (fun k => !fit (ws.getD k 0) (ih G l (a + k))) ws.length 0 j (Nat.zero_le j) (by omega)
  cases q : fit (ws.getD j 0) (ih G l (a + j))
  · rw [q] at this; exact Bool.noConfusion this
  · rfl
theorem ok_1 {G : HP} {l a : Nat} (h : okM G l a = true) : kcM G l a < 10 ∧ mat G l (FM (kcM G l a)) a = (FM (kcM G l a)).length := by
  unfold okM at h
  rw [Bool.and_eq_true, decide_eq_true_eq, decide_eq_true_eq] at h
  exact h
theorem tx_ih {C G : HP} {l p : Nat} (hx : TX C G l) (hp : p < l) : tx C l p = ih G l p := by
  unfold tx ih
  rw [if_pos hp, if_pos hp, hx p hp]
/-- where the text goes wrong, on both sides -/
theorem fP_it {C G : HP} {l : Nat} (hx : TX C G l) : ∀ n st, l + 1 - st < n → st ≤ l → fP C l n st = if (itM G l n st).2.1 = true then -1 else Int32.ofNat (itM G l n st).2.2
  | 0, _, h, _ => absurd h (Nat.not_lt_zero _)
  | n + 1, st, h, hs => by
    obtain ⟨k1, k2⟩ := kd_eq hx hs
    unfold fP itM
    rw [if_pos hs, k1, k2]
    by_cases ok : okM G l st = true
    · obtain ⟨o1, o2⟩ := ok_1 ok
      have ml := mat_l (G := G) (l := l) (FM (kcM G l st)) st hs (FM_ok _ o1).2.2
      rw [o2] at ml
      rw [if_pos ok, if_pos ok, if_pos o1]
      by_cases e : l ≤ st + (FM (kcM G l st)).length
      · have e2 : st + (FM (kcM G l st)).length = l := by omega
        have e3 : ¬ ih G l (st + (FM (kcM G l st)).length) = 59 := by
          unfold ih; rw [if_neg (by omega)]; decide
        rw [if_pos e, if_neg e3, if_pos (decide_eq_true e2)]
      · rw [if_neg e, tx_ih hx (by omega)]
        by_cases q : ih G l (st + (FM (kcM G l st)).length) = 59
        · rw [if_pos q, if_pos q]
          exact fP_it hx n _ (by omega) (by omega)
        · rw [if_neg q, if_neg q, if_neg (by simp; omega)]
    · rw [if_neg ok, if_neg ok, if_neg (show ¬ 10 < 10 by omega), if_neg (by simp)]
theorem fit59 : ∀ i, i < 10 → ∀ j, j < (FM i).length → fit ((FM i).getD j 0) 59 = false := by decide +kernel
/-- signs between commands -/
def n59 (C : HP) (l : Nat) : Nat → Nat → Nat
  | 0, _ => 0
  | n + 1, p => (if tx C l p = 59 then 1 else 0) + n59 C l n (p + 1)
theorem n59_itr {C : HP} {l : Nat} : ∀ n p m, itr (fun p n => if tx C l p = 59 then n + 1 else n) n p m = m + n59 C l n p
  | 0, _, _ => rfl
  | n + 1, p, m => by
    show itr (fun p n => if tx C l p = 59 then n + 1 else n) n (p + 1) (if tx C l p = 59 then m + 1 else m) = m + ((if tx C l p = 59 then 1 else 0) + n59 C l n (p + 1))
    rw [n59_itr n (p + 1)]
    by_cases q : tx C l p = 59
    · rw [if_pos q, if_pos q]; omega
    · rw [if_neg q, if_neg q]; omega
theorem n59_add {C : HP} {l : Nat} : ∀ a b p, n59 C l (a + b) p = n59 C l a p + n59 C l b (p + a)
  | 0, b, p => by rw [Nat.zero_add]; show n59 C l b p = 0 + n59 C l b (p + 0); rw [Nat.zero_add, Nat.add_zero]
  | a + 1, b, p => by
    rw [show a + 1 + b = a + b + 1 from by omega]
    show (if tx C l p = 59 then 1 else 0) + n59 C l (a + b) (p + 1) = (if tx C l p = 59 then 1 else 0) + n59 C l a (p + 1) + n59 C l b (p + (a + 1))
    rw [n59_add a b (p + 1), show p + 1 + a = p + (a + 1) from by omega, Nat.add_assoc]
theorem n59_0 {C : HP} {l : Nat} : ∀ n p, (∀ j, p ≤ j → j < p + n → ¬ tx C l j = 59) → n59 C l n p = 0
  | 0, _, _ => rfl
  | n + 1, p, h => by
    show (if tx C l p = 59 then 1 else 0) + n59 C l n (p + 1) = 0
    rw [if_neg (h p (Nat.le_refl p) (by omega)), n59_0 n (p + 1) (fun j h1 h2 => h j (by omega) (by omega))]
theorem cc_it {C G : HP} {l : Nat} (hx : TX C G l) : ∀ n st, l + 1 - st < n → st ≤ l → (itM G l n st).2.1 = true → 1 + n59 C l (l - st) st = (itM G l n st).1.length
  | 0, _, h, _, _ => absurd h (Nat.not_lt_zero _)
  | n + 1, st, h, hs, hok => by
    unfold itM at hok ⊢
    by_cases ok : okM G l st = true
    · obtain ⟨o1, o2⟩ := ok_1 ok
      have ml := mat_l (G := G) (l := l) (FM (kcM G l st)) st hs (FM_ok _ o1).2.2
      rw [o2] at ml
      have mf := mat_fit o2
      rw [if_pos ok] at hok ⊢
      have z : n59 C l (FM (kcM G l st)).length st = 0 := by
        apply n59_0
        intro j j1 j2 e
        have f := mf (j - st) (by omega)
        rw [show st + (j - st) = j from by omega, ← tx_ih hx (by omega), e, fit59 _ o1 _ (by omega)] at f
        exact Bool.noConfusion f
      by_cases q : ih G l (st + (FM (kcM G l st)).length) = 59
      · have lt : st + (FM (kcM G l st)).length < l := by
          by_cases w : st + (FM (kcM G l st)).length < l
          · exact w
          · unfold ih at q; rw [if_neg w] at q; exact absurd q (by decide)
        rw [if_pos q] at hok ⊢
        have ih2 := cc_it hx n (st + (FM (kcM G l st)).length + 1) (by omega) (by omega) hok
        rw [show l - st = (FM (kcM G l st)).length + (1 + (l - (st + (FM (kcM G l st)).length + 1))) from by omega, n59_add, n59_add, z]
        have o : n59 C l 1 (st + (FM (kcM G l st)).length) = 1 := by
          show (if tx C l (st + (FM (kcM G l st)).length) = 59 then 1 else 0) + 0 = 1
          rw [if_pos ((tx_ih hx lt).trans q)]
        rw [o]
        show _ = (itM G l n (st + (FM (kcM G l st)).length + 1)).1.length + 1
        rw [← ih2]
        omega
      · rw [if_neg q] at hok ⊢
        have e : st + (FM (kcM G l st)).length = l := of_decide_eq_true hok
        rw [show l - st = (FM (kcM G l st)).length from by omega, z]
        rfl
    · rw [if_neg ok] at hok
      exact Bool.noConfusion hok
theorem cc_eq {C G : HP} {l : Nat} (hx : TX C G l) (h60 : l ≤ 60) (hok : (itM G l 100 0).2.1 = true) : ccN C l = (itM G l 100 0).1.length := by
  unfold ccN
  rw [n59_itr]
  have := cc_it hx 100 0 (by omega) (Nat.zero_le l) hok
  rw [Nat.sub_zero] at this
  exact this
/-- the figures of a command -/
theorem dO_ok {C G : HP} {l st : Nat} (hx : TX C G l) (hs : st ≤ l) (ok : okM G l st = true) : dO C l st (kcM G l st) := by
  obtain ⟨o1, o2⟩ := ok_1 ok
  have ml := mat_l (G := G) (l := l) (FM (kcM G l st)) st hs (FM_ok _ o1).2.2
  rw [o2] at ml
  have mf := mat_fit o2
  intro h7 h5
  have d : ∀ i, i < 7 → ¬ i = 5 → dA i + 2 < (FM i).length ∧ (FM i).getD (dA i) 0 = 35 ∧ (FM i).getD (dA i + 2) 0 = 35 := by decide
  obtain ⟨d1, d2, d3⟩ := d _ h7 h5
  have fig : ∀ j, j < (FM (kcM G l st)).length → (FM (kcM G l st)).getD j 0 = 35 → tx C l (st + j) - 48 = Int32.ofNat (dg C l (st + j)) ∧ dg C l (st + j) < 10 := by
    intro j hj hw
    have f := mf j hj
    rw [hw, fit35, ← tx_ih hx (by omega)] at f
    have f2 := of_decide_eq_true f
    have f3 := nat_of (b := 57) (g := tx C l (st + j)) (by
      have a := Int32.le_iff_toInt_le.mp f2.1
      apply Int32.le_iff_toInt_le.mpr
      have z1 : (48 : Int32).toInt = 48 := rfl
      have z0 : (0 : Int32).toInt = 0 := rfl
      omega) f2.2 (by decide)
    obtain ⟨x, x1, x2⟩ := f3
    have x48 : 48 ≤ x := by
      have := f2.1
      rw [x2, show (48 : Int32) = Int32.ofNat 48 from rfl, io_le (by decide) (by omega)] at this
      exact this
    unfold dg
    rw [x2, show (48 : Int32) = Int32.ofNat 48 from rfl, io_sub x48, io_nat (by omega)]
    exact ⟨rfl, by omega⟩
  obtain ⟨g1, g2⟩ := fig (dA (kcM G l st)) (by omega) d2
  obtain ⟨g3, g4⟩ := fig (dA (kcM G l st) + 2) d1 d3
  exact ⟨g1, g2, g3, g4⟩
