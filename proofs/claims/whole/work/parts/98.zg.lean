/-! sets of cells: by rows of six, and by rows of c -/
theorem cb_add {f : Nat → Bool} (o : Nat) : ∀ n, cbn f (o + n) = cbn f o + cbn (fun t => f (o + t)) n
  | 0 => rfl
  | n + 1 => by
    show cbn f (o + n) + (f (o + n)).toNat = cbn f o + (cbn (fun t => f (o + t)) n + (f (o + n)).toNat)
    rw [cb_add o n, Nat.add_assoc]
theorem cb_cg {f g : Nat → Bool} : ∀ n, (∀ j, j < n → f j = g j) → cbn f n = cbn g n
  | 0, _ => rfl
  | n + 1, h => by
    show cbn f n + (f n).toNat = cbn g n + (g n).toNat
    rw [cb_cg n (fun j hj => h j (by omega)), h n (by omega)]
theorem cb_0 {f : Nat → Bool} : ∀ n, (∀ j, j < n → f j = false) → cbn f n = 0
  | 0, _ => rfl
  | n + 1, h => by
    show cbn f n + (f n).toNat = 0
    rw [cb_0 n (fun j hj => h j (by omega)), h n (by omega)]
    rfl
theorem cb_min {g : Nat → Bool} {c : Nat} : ∀ n, cbn (fun t => decide (t < c) && g t) n = cbn g (min c n)
  | 0 => by rw [Nat.min_zero]; rfl
  | n + 1 => by
    show cbn (fun t => decide (t < c) && g t) n + (decide (n < c) && g n).toNat = _
    rw [cb_min n]
    by_cases h : n < c
    · rw [decide_eq_true h, Nat.min_eq_right (by omega), Nat.min_eq_right (by omega)]
      rfl
    · rw [decide_eq_false h, Nat.min_eq_left (by omega), Nat.min_eq_left (by omega)]
      rfl
def SR (r c : Nat) (x y : Int32) : Prop := (∀ j, j < 32 → gb x j = (decide (j % 6 < c ∧ j / 6 < r) && gb y (j / 6 * c + j % 6))) ∧ ∀ k, r * c ≤ k → gb y k = false
theorem cb_rows {f F : Nat → Bool} {r c : Nat} (hc : c ≤ 6) (hF : ∀ j, j < 30 → F j = (decide (j % 6 < c ∧ j / 6 < r) && f (j / 6 * c + j % 6))) : ∀ q, q ≤ 5 → cbn F (6 * q) = cbn f (min q r * c)
  | 0, _ => by rw [Nat.zero_min, Nat.zero_mul]; rfl
  | q + 1, hq => by
    rw [show 6 * (q + 1) = 6 * q + 6 from rfl, cb_add, cb_rows hc hF q (by omega)]
    have e : cbn (fun t => F (6 * q + t)) 6 = cbn (fun t => decide (t < c) && (decide (q < r) && f (q * c + t))) 6 := by
      apply cb_cg
      intro t ht
      rw [hF _ (by omega), show (6 * q + t) % 6 = t from by omega, show (6 * q + t) / 6 = q from by omega]
      by_cases a : t < c <;> by_cases b : q < r <;> simp [a, b]
    rw [e, cb_min, Nat.min_eq_left hc]
    by_cases b : q < r
    · rw [Nat.min_eq_left (by omega), Nat.min_eq_left (by omega), Nat.succ_mul, cb_add]
      congr 1
      apply cb_cg
      intro t _
      rw [decide_eq_true b, Bool.true_and]
    · rw [Nat.min_eq_right (by omega), Nat.min_eq_right (by omega), cb_0 c (fun t _ => by rw [decide_eq_false b, Bool.false_and])]
      rfl
theorem SR_cnt {r c : Nat} {x y : Int32} (hr : r ≤ 5) (hc : c ≤ 5) (h : SR r c x y) : bc32 x = bitsR y 25 0 0 := by
  rw [bc_cnt, bits25]
  congr 1
  have e := cb_rows (f := gb y) (F := gb x) (r := r) (c := c) (by omega) (fun j hj => h.1 j (by omega)) 5 (Nat.le_refl 5)
  rw [Nat.min_eq_right hr] at e
  have a : cbn (gb x) 32 = cbn (gb x) 30 := by
    show cbn (gb x) 30 + (gb x 30).toNat + (gb x 31).toNat = _
    rw [h.1 30 (by decide), h.1 31 (by decide), decide_eq_false (by omega), decide_eq_false (by omega)]
    rfl
  have hrc : r * c ≤ 25 := Nat.mul_le_mul hr hc
  have b : cbn (gb y) 25 = cbn (gb y) (r * c) := by
    rw [show 25 = r * c + (25 - r * c) from by omega, cb_add, cb_0 (25 - r * c) (fun t _ => h.2 _ (by omega))]
    rfl
  rw [a, b]
  exact e
def nn (c k : Nat) : Nat := k / c * 6 + k % c
theorem nn_1 {r c k : Nat} (hr : r ≤ 5) (hc : c ≤ 5) (hk : k < r * c) : nn c k % 6 = k % c ∧ nn c k / 6 = k / c ∧ k % c < c ∧ k / c < r ∧ k / c * c + k % c = k ∧ nn c k < 30 := by
  have c0 : 0 < c := by
    rcases Nat.eq_zero_or_pos c with h | h
    · subst h; rw [Nat.mul_zero] at hk; exact absurd hk (Nat.not_lt_zero k)
    · exact h
  have h1 : k % c < c := Nat.mod_lt k c0
  have h2 : k / c < r := Nat.div_lt_of_lt_mul (by rw [Nat.mul_comm]; exact hk)
  have h3 : k / c * c + k % c = k := by rw [Nat.mul_comm]; exact Nat.div_add_mod k c
  unfold nn
  refine ⟨by omega, by omega, h1, h2, h3, by omega⟩
theorem SR_gb {r c : Nat} {x y : Int32} {k : Nat} (hr : r ≤ 5) (hc : c ≤ 5) (h : SR r c x y) (hk : k < r * c) : gb x (nn c k) = gb y k := by
  obtain ⟨a1, a2, a3, a4, a5, a6⟩ := nn_1 hr hc hk
  rw [h.1 _ (by omega), a1, a2, a5, decide_eq_true ⟨a3, a4⟩, Bool.true_and]
theorem SR_xor {r c : Nat} {x y x' y' : Int32} (h : SR r c x y) (h' : SR r c x' y') : SR r c (x ^^^ x') (y ^^^ y') := by
  refine ⟨fun j hj => ?_, fun k hk => ?_⟩
  · rw [gb_xor, gb_xor, h.1 j hj, h'.1 j hj]
    by_cases a : j % 6 < c ∧ j / 6 < r <;> simp [a]
  · rw [gb_xor, h.2 k hk, h'.2 k hk]; rfl
theorem SR_or {r c : Nat} {x y x' y' : Int32} (h : SR r c x y) (h' : SR r c x' y') : SR r c (x ||| x') (y ||| y') := by
  refine ⟨fun j hj => ?_, fun k hk => ?_⟩
  · rw [gb_or, gb_or, h.1 j hj, h'.1 j hj]
    by_cases a : j % 6 < c ∧ j / 6 < r <;> simp [a]
  · rw [gb_or, h.2 k hk, h'.2 k hk]; rfl
theorem SR_0 {r c : Nat} : SR r c 0 0 := ⟨fun j _ => by rw [gb_0, gb_0, Bool.and_false], fun k _ => gb_0⟩
theorem SR_1 {r c k : Nat} (hr : r ≤ 5) (hc : c ≤ 5) (hk : k < r * c) : SR r c (1 <<< (Int32.ofNat (nn c k) &&& 31)) (1 <<< (Int32.ofNat k &&& 31)) := by
  obtain ⟨a1, a2, a3, a4, a5, a6⟩ := nn_1 hr hc hk
  have hrc : r * c ≤ 25 := Nat.mul_le_mul hr hc
  refine ⟨fun j hj => ?_, fun k' hk' => ?_⟩
  · rw [gb_1k (by omega), gb_1k (by omega)]
    by_cases e : j = nn c k
    · subst e
      rw [a1, a2, a5]; simp [a3, a4]
    · rw [decide_eq_false e]
      by_cases q : j % 6 < c ∧ j / 6 < r
      · have : ¬ j / 6 * c + j % 6 = k := by
          intro hh
          apply e
          have d1 : k / c = j / 6 := by rw [← hh]; rw [Nat.mul_comm, Nat.mul_add_div (by omega), Nat.div_eq_of_lt q.1, Nat.add_zero]
          have d2 : k % c = j % 6 := by rw [← hh]; rw [Nat.mul_comm, Nat.mul_add_mod, Nat.mod_eq_of_lt q.1]
          unfold nn
          omega
        simp [this]
      · simp [q]
  · rw [gb_1k (by omega)]
    exact decide_eq_false (by omega)
theorem SR_ij {r c : Nat} {x y x' y' : Int32} (hr : r ≤ 5) (hc : c ≤ 5) (h : SR r c x y) (h' : SR r c x' y') : x = x' ↔ y = y' := by
  constructor
  · intro e
    apply gb_ext
    intro k _
    by_cases q : k < r * c
    · rw [← SR_gb hr hc h q, ← SR_gb hr hc h' q, e]
    · rw [h.2 k (by omega), h'.2 k (by omega)]
  · intro e
    apply gb_ext
    intro j hj
    rw [h.1 j hj, h'.1 j hj, e]
theorem gb_neg {x : Int32} {j : Nat} (hj : j < 32) : gb (x &&& -x) j = (gb x j && decide (¬ ∃ i, i < j ∧ gb x i = true)) := by
  rw [gb_and]
  unfold gb
  rw [Int32.toBitVec_neg, BitVec.getLsbD_neg]
  by_cases e : ∃ i, i < j ∧ x.toBitVec.getLsbD i = true
  · cases x.toBitVec.getLsbD j <;> simp [hj, e]
  · cases x.toBitVec.getLsbD j <;> simp [hj, e]
/-- a set that lacks the first cell of another -/
theorem low_0 {s d : Int32} : s &&& (d &&& -d) = 0 ↔ ∀ j, j < 32 → gb s j = true → gb d j = true → ∃ i, i < j ∧ gb d i = true := by
  rw [gb_nz]
  constructor
  · intro h j hj h1 h2
    have := h j hj
    rw [gb_and, gb_neg hj, h1, h2] at this
    simp only [Bool.true_and, decide_eq_false_iff_not, Decidable.not_not] at this
    exact this
  · intro h j hj
    rw [gb_and, gb_neg hj]
    cases h1 : gb s j
    · rfl
    · cases h2 : gb d j
      · rfl
      · have := h j hj h1 h2
        simp only [Bool.true_and, decide_eq_false_iff_not, Decidable.not_not]
        exact this
theorem nn_lt {r c a b : Nat} (hr : r ≤ 5) (hc : c ≤ 5) (ha : a < r * c) (hb : b < r * c) : nn c a < nn c b ↔ a < b := by
  obtain ⟨a1, a2, a3, a4, a5, a6⟩ := nn_1 hr hc ha
  obtain ⟨b1, b2, b3, b4, b5, b6⟩ := nn_1 hr hc hb
  unfold nn
  by_cases e : a / c = b / c
  · rw [e] at a5 ⊢; omega
  · by_cases l : a / c < b / c
    · have := Nat.mul_le_mul_right c (Nat.succ_le_of_lt l)
      rw [Nat.succ_mul] at this
      omega
    · have l2 : b / c < a / c := by omega
      have := Nat.mul_le_mul_right c (Nat.succ_le_of_lt l2)
      rw [Nat.succ_mul] at this
      omega
theorem SR_inv {r c j : Nat} {x y : Int32} (hr : r ≤ 5) (hc : c ≤ 5) (h : SR r c x y) (hj : j < 32) (hb : gb x j = true) : ∃ k, k < r * c ∧ nn c k = j ∧ gb y k = true := by
  rw [h.1 j hj, Bool.and_eq_true, decide_eq_true_eq] at hb
  obtain ⟨⟨q1, q2⟩, q3⟩ := hb
  refine ⟨j / 6 * c + j % 6, cell_lt q2 q1, ?_, q3⟩
  have d1 : (j / 6 * c + j % 6) / c = j / 6 := by rw [Nat.mul_comm, Nat.mul_add_div (by omega), Nat.div_eq_of_lt q1, Nat.add_zero]
  have d2 : (j / 6 * c + j % 6) % c = j % 6 := by rw [Nat.mul_comm, Nat.mul_add_mod, Nat.mod_eq_of_lt q1]
  unfold nn
  rw [d1, d2]
  omega
theorem SR_low {r c : Nat} {s d s' d' : Int32} (hr : r ≤ 5) (hc : c ≤ 5) (hs : SR r c s s') (hd : SR r c d d') : (s &&& (d &&& -d) = 0) ↔ (s' &&& (d' &&& -d') = 0) := by
  have hrc : r * c ≤ 25 := Nat.mul_le_mul hr hc
  rw [low_0, low_0]
  constructor
  · intro h k hk h1 h2
    have hk' : k < r * c := by
      by_cases q : k < r * c
      · exact q
      · rw [hs.2 k (by omega)] at h1; exact Bool.noConfusion h1
    obtain ⟨_, _, _, _, _, a6⟩ := nn_1 hr hc hk'
    obtain ⟨i, i1, i2⟩ := h (nn c k) (by omega) ((SR_gb hr hc hs hk').trans h1) ((SR_gb hr hc hd hk').trans h2)
    obtain ⟨m, m1, m2, m3⟩ := SR_inv hr hc hd (by omega) i2
    exact ⟨m, (nn_lt hr hc m1 hk').mp (by rw [m2]; exact i1), m3⟩
  · intro h j hj h1 h2
    obtain ⟨k, k1, k2, k3⟩ := SR_inv hr hc hs hj h1
    subst k2
    obtain ⟨m, m1, m2⟩ := h k (by omega) k3 ((SR_gb hr hc hd k1).symm.trans h2)
    have hm : m < r * c := by omega
    exact ⟨nn c m, (nn_lt hr hc hm k1).mpr m1, (SR_gb hr hc hd hm).trans m2⟩
theorem SR_bt {r c : Nat} {s t s' t' : Int32} (hr : r ≤ 5) (hc : c ≤ 5) (hs : SR r c s s') (ht : SR r c t t') : (if btI s t = true then s else t) = t ∧ (if btM s' t' = true then s' else t') = t' ∨ (if btI s t = true then s else t) = s ∧ (if btM s' t' = true then s' else t') = s' := by
  have hd := SR_xor hs ht
  have e1 := SR_cnt hr hc hs
  have e2 := SR_cnt hr hc ht
  have e3 := SR_low hr hc hs hd
  have e4 := SR_ij hr hc hs ht
  have ex : ∀ {a b : Int32}, a ^^^ b = 0 ↔ a = b := by
    intro a b
    constructor
    · intro h
      apply gb_ext
      intro j hj
      have := gb_nz.mp h j hj
      rw [gb_xor] at this
      cases p : gb a j <;> cases q : gb b j <;> simp_all
    · intro h; subst h; apply gb_nz.mpr; intro j _; rw [gb_xor]; cases gb a j <;> rfl
  unfold btI btM
  rw [e1, e2]
  by_cases z : bitsR s' 25 0 0 - bitsR t' 25 0 0 = 0
  · rw [if_pos z, z]
    by_cases q : s = t
    · left
      have q' := e4.mp q
      subst q; subst q'
      refine ⟨by split <;> rfl, by split <;> rfl⟩
    · have q' : ¬ s' = t' := fun w => q (e4.mpr w)
      have q2 : ¬ s' ^^^ t' = 0 := fun w => q' (ex.mp w)
      have as : s' &&& (s' ^^^ t') &&& -(s' ^^^ t') = s' &&& ((s' ^^^ t') &&& -(s' ^^^ t')) := Int32.and_assoc s' (s' ^^^ t') (-(s' ^^^ t'))
      rw [as]
      by_cases l : s' &&& ((s' ^^^ t') &&& -(s' ^^^ t')) = 0
      · right
        have l' := e3.mpr l
        simp [l, l', q2]
      · left
        have l' : ¬ s &&& ((s ^^^ t) &&& -(s ^^^ t)) = 0 := fun w => l (e3.mp w)
        simp [l, l']
  · rw [if_neg z]
    by_cases l : bitsR s' 25 0 0 - bitsR t' 25 0 0 < 0
    · right; simp [l]
    · left; simp [l, z]
