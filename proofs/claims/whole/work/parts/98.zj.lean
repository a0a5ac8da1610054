/-! the eliminations, by their rows -/
def pr (f : Nat → Bool) : Nat → Bool
  | 0 => false
  | n + 1 => (pr f n != f n)
theorem pr_xor {f g : Nat → Bool} : ∀ n, pr (fun k => (f k != g k)) n = (pr f n != pr g n)
  | 0 => rfl
  | n + 1 => by
    show (pr (fun k => (f k != g k)) n != (f n != g n)) = ((pr f n != f n) != (pr g n != g n))
    rw [pr_xor n]
    cases pr f n <;> cases pr g n <;> cases f n <;> cases g n <;> rfl
theorem pr_cg {f g : Nat → Bool} : ∀ n, (∀ j, j < n → f j = g j) → pr f n = pr g n
  | 0, _ => rfl
  | n + 1, h => by
    show (pr f n != f n) = (pr g n != g n)
    rw [pr_cg n (fun j hj => h j (by omega)), h n (by omega)]
theorem pr_0 : ∀ n, pr (fun _ => false) n = false
  | 0 => rfl
  | n + 1 => by
    show (pr (fun _ => false) n != false) = false
    rw [pr_0 n]; rfl
theorem pr_1 {b : Bool} {k : Nat} : ∀ n, pr (fun j => decide (j = k) && b) n = (decide (k < n) && b)
  | 0 => by rw [decide_eq_false (Nat.not_lt_zero k)]; rfl
  | n + 1 => by
    show (pr (fun j => decide (j = k) && b) n != (decide (n = k) && b)) = _
    rw [pr_1 n]
    by_cases e : n = k
    · subst e; simp
    · by_cases l : k < n
      · simp [e, l, show k < n + 1 from by omega]
      · simp [e, l, show ¬ k < n + 1 from by omega]
def par (D : Nat → Bool) (m : Nat) : Bool := pr (fun k => m.testBit k && D k) 25
theorem par_xor {D : Nat → Bool} {m m' : Nat} : par D (m ^^^ m') = (par D m != par D m') := by
  unfold par
  rw [← pr_xor]
  apply pr_cg
  intro j _
  rw [Nat.testBit_xor]
  cases m.testBit j <;> cases m'.testBit j <;> cases D j <;> rfl
theorem par_0 {D : Nat → Bool} : par D 0 = false := by
  unfold par
  refine Eq.trans (pr_cg 25 (fun j _ => ?_)) (pr_0 25)
  rw [Nat.zero_testBit]; rfl
theorem tb_1 {k j : Nat} : (1 <<< k).testBit j = decide (j = k) := by
  rw [Nat.one_shiftLeft, Nat.testBit_two_pow]
  by_cases e : k = j
  · subst e; simp
  · simp [e, show ¬ j = k from fun q => e q.symm]
theorem par_1 {D : Nat → Bool} {k : Nat} (hk : k < 25) : par D (1 <<< k) = D k := by
  unfold par
  refine Eq.trans (pr_cg (g := fun j => decide (j = k) && D k) 25 (fun j _ => ?_)) ?_
  · rw [tb_1]
    by_cases e : j = k
    · subst e; rfl
    · simp [e]
  · rw [pr_1, decide_eq_true hk, Bool.true_and]
theorem gR_set {l : List RW} {f i : Nat} {v : RW} (hf : f < l.length) : gR (l.set f v) i = if i = f then v else gR l i := by
  unfold gR
  rw [List.getD_eq_getElem?_getD, List.getD_eq_getElem?_getD, List.getElem?_set]
  by_cases e : i = f
  · subst e; simp [hf]
  · simp [e, show ¬ f = i from fun q => e q.symm]
theorem mpA_len {h : Nat → RW → RW} : ∀ (l : List RW) (i : Nat), (mpA h i l).length = l.length
  | [], _ => rfl
  | x :: l, i => by
    show (mpA h (i + 1) l).length + 1 = l.length + 1
    rw [mpA_len l (i + 1)]
theorem gR_mp {h : Nat → RW → RW} : ∀ (l : List RW) (i j : Nat), j < l.length → gR (mpA h i l) j = h (i + j) (gR l j)
  | [], _, j, hj => absurd hj (Nat.not_lt_zero j)
  | x :: l, i, 0, _ => rfl
  | x :: l, i, j + 1, hj => by
    show gR (mpA h (i + 1) l) j = h (i + (j + 1)) (gR l j)
    rw [gR_mp l (i + 1) j (by simpa using hj), show i + 1 + j = i + (j + 1) from by omega]
theorem fdA_sp {c k : Nat} : ∀ (l : List RW) (i : Nat), (i ≤ fdA c l k i ∧ fdA c l k i ≤ i + l.length) ∧ (fdA c l k i < i + l.length → k ≤ fdA c l k i ∧ (gR l (fdA c l k i - i)).1.testBit c = true) ∧ ∀ q, i ≤ q → q < fdA c l k i → k ≤ q → (gR l (q - i)).1.testBit c = false
  | [], i => ⟨⟨Nat.le_refl _, Nat.le_refl _⟩, fun h => absurd h (Nat.lt_irrefl _), fun q h1 h2 => absurd h2 (by show ¬ q < i; omega)⟩
  | x :: l, i => by
    unfold fdA
    by_cases h : k ≤ i ∧ x.1.testBit c = true
    · rw [if_pos h]
      refine ⟨⟨Nat.le_refl _, by omega⟩, fun _ => ⟨h.1, ?_⟩, fun q h1 h2 => absurd h2 (by omega)⟩
      rw [Nat.sub_self]; exact h.2
    · rw [if_neg h]
      obtain ⟨⟨a1, a2⟩, a3, a4⟩ := fdA_sp (c := c) (k := k) l (i + 1)
      have sh : ∀ q, i + 1 ≤ q → gR (x :: l) (q - i) = gR l (q - (i + 1)) := by
        intro q hq
        rw [show q - i = q - (i + 1) + 1 from by omega]
        rfl
      refine ⟨⟨by omega, by simp only [List.length_cons]; omega⟩, fun hf => ?_, fun q h1 h2 h3 => ?_⟩
      · simp only [List.length_cons] at hf
        have := a3 (by omega)
        rw [sh _ a1]; exact this
      · by_cases e : q = i
        · subst e
          rw [Nat.sub_self]
          apply Bool.eq_false_iff.mpr
          exact fun g => h ⟨h3, g⟩
        · rw [sh q (by omega)]; exact a4 q (by omega) h2 h3
/-- the searches agree -/
theorem fd_eq {l : List RW} {E : Nat → Int32} {cb : Int32 → Bool} {c k N : Nat} (hl : l.length = N) (hk : k ≤ N) (h : ∀ i, i < N → cb (E i) = (gR l i).1.testBit c) : ff (fun i => cb (E i)) (N - k) k = fdA c l k 0 := by
  obtain ⟨⟨a1, a2⟩, a3, a4⟩ := fdA_sp (c := c) (k := k) l 0
  rw [Nat.zero_add, hl] at a2 a3
  have b1 := ff_le (fun i => cb (E i)) (N - k) k
  have b2 := ff_yes (fun i => cb (E i)) (N - k) k
  have b3 := ff_no (fun i => cb (E i)) (N - k) k
  generalize fdA c l k 0 = f at *
  generalize ff (fun i => cb (E i)) (N - k) k = g at *
  have hkg : k + (N - k) = N := by omega
  rw [hkg] at b1 b2
  by_cases lt : g < f
  · exfalso
    have q := a4 g (Nat.zero_le g) lt b1.1
    rw [Nat.sub_zero] at q
    have p := b2 (by omega)
    rw [h g (by omega), q] at p
    exact Bool.noConfusion p
  · by_cases gt : f < g
    · exfalso
      have q := a3 (by omega)
      rw [Nat.sub_zero] at q
      have p := b3 f q.1 gt
      rw [h f (by omega), q.2] at p
      exact Bool.noConfusion p
    · omega
/-- the rows behind a step agree -/
theorem row_eq {A : RW → Int32 → Prop} {cb : Int32 → Bool} {l : List RW} {E : Nat → Int32} {c k f N : Nat} (lin : ∀ x y E F, A x E → A y F → A (x.1 ^^^ y.1, x.2 ^^^ y.2) (E ^^^ F)) (tst : ∀ x E, A x E → cb E = x.1.testBit c) (hl : l.length = N) (h : ∀ i, i < N → A (gR l i) (E i)) (hk : k < N) (hf : f < N) :
    ∀ i, i < N → A (gR (mpA (elA c k (gR l f)) 0 (l.set f (gR l k))) i) (mpF N (fun i x => decide (¬ i = k) && cb x) (fun x => x ^^^ E f) (upd (upd E f (E k)) k (E f)) i) := by
  intro i hi
  rw [gR_mp _ 0 i (by rw [List.length_set, hl]; exact hi), gR_set (by omega), Nat.zero_add]
  unfold mpF elA
  by_cases e : i = k
  · subst e
    rw [if_pos rfl, if_neg (by simp)]
    unfold upd
    rw [if_pos rfl]
    exact h f hf
  · rw [if_neg e]
    have u : upd (upd E f (E k)) k (E f) i = if i = f then E k else E i := by
      unfold upd; rw [if_neg e]
    have a : A (if i = f then gR l k else gR l i) (upd (upd E f (E k)) k (E f) i) := by
      rw [u]
      by_cases g : i = f
      · rw [if_pos g, if_pos g]; exact h k hk
      · rw [if_neg g, if_neg g]; exact h i hi
    generalize (if i = f then gR l k else gR l i) = x at a ⊢
    generalize upd (upd E f (E k)) k (E f) i = X at a ⊢
    have t := tst x X a
    by_cases b : x.1.testBit c = true
    · rw [if_pos b, if_pos ⟨hi, by show (decide (¬ i = k) && cb X) = true; rw [t, b]; simp [e]⟩]
      exact lin _ _ _ _ a (h f hf)
    · rw [if_neg b, if_neg (fun q => b (by rw [← t]; have := q.2; simp only [Bool.and_eq_true] at this; exact this.2))]
      exact a
def aM (D : Nat → Bool) (x : RW) (E : Int32) : Prop := ∀ j, j < 32 → gb E j = if j < 25 then x.1.testBit j else if j = 25 then par D x.2 else false
def aC (r c : Nat) (D : Nat → Bool) (x : RW) (E : Int32) : Prop := ∀ j, j < 32 → gb E j = if j < 30 then (isCl r c j && x.1.testBit (kk c j)) else if j = 30 then par D x.2 else false
theorem aM_lin {D : Nat → Bool} : ∀ x y E F, aM D x E → aM D y F → aM D (x.1 ^^^ y.1, x.2 ^^^ y.2) (E ^^^ F) := by
  intro x y E F h1 h2 j hj
  rw [gb_xor, h1 j hj, h2 j hj]
  by_cases a : j < 25
  · simp only [if_pos a, Nat.testBit_xor]
  · by_cases b : j = 25
    · simp only [if_neg a, if_pos b, par_xor]
    · simp only [if_neg a, if_neg b]; rfl
theorem aC_lin {r c : Nat} {D : Nat → Bool} : ∀ x y E F, aC r c D x E → aC r c D y F → aC r c D (x.1 ^^^ y.1, x.2 ^^^ y.2) (E ^^^ F) := by
  intro x y E F h1 h2 j hj
  rw [gb_xor, h1 j hj, h2 j hj]
  by_cases a : j < 30
  · simp only [if_pos a, Nat.testBit_xor]
    cases isCl r c j <;> cases x.1.testBit (kk c j) <;> cases y.1.testBit (kk c j) <;> rfl
  · by_cases b : j = 30
    · simp only [if_neg a, if_pos b, par_xor]
    · simp only [if_neg a, if_neg b]; rfl
/-- the reference's steps -/
def sM (D : Nat → Bool) (N : Nat) (s : Int32 × Nat × (Nat → Int32) × (Nat → Int32)) (t : ES) : Prop :=
  s.2.1 = t.2.1.length ∧ t.1.length = N ∧ s.2.1 ≤ N ∧ (∀ i, i < N → aM D (gR t.1 i) (s.2.2.1 i)) ∧ (∀ i, i < s.2.1 → s.2.2.2 i = Int32.ofNat (t.2.1.getD i 0)) ∧ ∀ j, j < 32 → gb s.1 j = t.2.2.testBit j
theorem sM_step {D : Nat → Bool} {N j : Nat} {s : Int32 × Nat × (Nat → Int32) × (Nat → Int32)} {t : ES} (hN : N ≤ 25) (hj : j < N) (h : sM D N s t) : sM D N (emF N j s) (gs j t) := by
  obtain ⟨h1, h2, h3, h4, h5, h6⟩ := h
  have cb : ∀ i, i < N → hs (s.2.2.1 i) (Int32.ofNat j) = (gR t.1 i).1.testBit j := by
    intro i hi
    rw [hs_gb (by omega), h4 i hi j (by omega), if_pos (by omega)]
  have e : emA N j s.2.2.1 s.2.1 = fdA j t.1 t.2.1.length 0 := by
    rw [← h1]
    exact fd_eq (cb := fun x => hs x (Int32.ofNat j)) h2 h3 cb
  unfold emF gs
  rw [e]
  by_cases p : fdA j t.1 t.2.1.length 0 < N
  · have kf : s.2.1 ≤ fdA j t.1 t.2.1.length 0 := by rw [← e]; exact (ff_le _ _ _).1
    have q : fdA j t.1 t.2.1.length 0 < t.1.length := by omega
    simp only [if_pos p, if_pos q]
    refine ⟨?_, ?_, ?_, ?_, ?_, h6⟩
    · show s.2.1 + 1 = (t.2.1 ++ [j]).length
      rw [List.length_append, h1]; rfl
    · show (mpA _ 0 _).length = N
      rw [mpA_len, List.length_set, h2]
    · show s.2.1 + 1 ≤ N
      omega
    · rw [← h1] at *
      exact row_eq (A := aM D) (cb := fun x => hs x (Int32.ofNat j)) aM_lin (fun x E a => by show hs E (Int32.ofNat j) = _; rw [hs_gb (by omega), a j (by omega), if_pos (by omega)]) h2 h4 (by omega) p
    · intro i hi
      have hi : i < s.2.1 + 1 := hi
      show upd s.2.2.2 s.2.1 (Int32.ofNat j) i = Int32.ofNat ((t.2.1 ++ [j]).getD i 0)
      unfold upd
      rw [List.getD_eq_getElem?_getD, List.getElem?_append]
      by_cases g : i = s.2.1
      · rw [if_pos g, if_neg (by omega), g, h1, Nat.sub_self]; rfl
      · rw [if_neg g, if_pos (by omega), h5 i (by omega), List.getD_eq_getElem?_getD]
  · have q : ¬ fdA j t.1 t.2.1.length 0 < t.1.length := by omega
    simp only [if_neg p, if_neg q]
    refine ⟨h1, h2, h3, h4, h5, fun i hi => ?_⟩
    show gb (s.1 ||| 1 <<< (Int32.ofNat j &&& 31)) i = (t.2.2 ||| 1 <<< j).testBit i
    rw [gb_or, gb_1k (by omega), h6 i hi, Nat.testBit_or, tb_1]
/-- the system's steps -/
def sK (r c : Nat) (D : Nat → Bool) (s : Int32 × Nat × HP) (t : ES) : Prop :=
  s.2.1 = t.2.1.length ∧ t.1.length = 30 ∧ s.2.1 ≤ 30 ∧ (∀ i, i < 30 → aC r c D (gR t.1 i) (s.2.2 118 i)) ∧ (∀ i, i < s.2.1 → s.2.2 119 i = 1 <<< (Int32.ofNat (nn c (t.2.1.getD i 0)) &&& 31)) ∧ ∀ j, j < 32 → gb s.1 j = (isCl r c j && t.2.2.testBit (kk c j))
theorem kk_nn {r c k : Nat} (hr : r ≤ 5) (hc : c ≤ 5) (hk : k < r * c) : isCl r c (nn c k) = true ∧ kk c (nn c k) = k := by
  obtain ⟨a1, a2, a3, a4, a5, a6⟩ := nn_1 hr hc hk
  refine ⟨decide_eq_true ?_, ?_⟩
  · rw [a1, a2]; exact ⟨a3, a4⟩
  · unfold kk; rw [a1, a2, a5]
theorem nn_kk {r c j : Nat} (hr : r ≤ 5) (hc : c ≤ 5) (hj : isCl r c j = true) : kk c j < r * c ∧ nn c (kk c j) = j := by
  have q := of_decide_eq_true hj
  refine ⟨cell_lt q.2 q.1, ?_⟩
  have d1 : (j / 6 * c + j % 6) / c = j / 6 := by rw [Nat.mul_comm, Nat.mul_add_div (by omega), Nat.div_eq_of_lt q.1, Nat.add_zero]
  have d2 : (j / 6 * c + j % 6) % c = j % 6 := by rw [Nat.mul_comm, Nat.mul_add_mod, Nat.mod_eq_of_lt q.1]
  unfold nn kk
  rw [d1, d2]
  omega
theorem sC_step {r c b j : Nat} {D : Nat → Bool} {s : Int32 × Nat × HP} {t : ES} (hr : r ≤ 5) (hc : c ≤ 5) (hj : j < 30) (hm : ct (s.2.2 b 2) (Int32.ofNat j) = isCl r c j) (h : sK r c D s t) : sK r c D (elF b j s) (if isCl r c j = true then gs (kk c j) t else t) := by
  unfold elF
  rw [hm]
  by_cases cl : isCl r c j = true
  · rw [if_pos cl, if_pos cl]
    obtain ⟨h1, h2, h3, h4, h5, h6⟩ := h
    obtain ⟨n1, n2⟩ := nn_kk hr hc cl
    have tst : ∀ x E, aC r c D x E → (decide (¬ E &&& 1 <<< (Int32.ofNat j &&& 31) = 0)) = x.1.testBit (kk c j) := by
      intro x E a
      show ct E (Int32.ofNat j) = _
      rw [ct_gb (by omega), a j (by omega), if_pos hj, cl, Bool.true_and]
    have e : uwI (s.2.2 118) s.2.1 (1 <<< (Int32.ofNat j &&& 31)) = fdA (kk c j) t.1 t.2.1.length 0 := by
      rw [← h1]
      exact fd_eq (cb := fun x => decide (¬ x &&& 1 <<< (Int32.ofNat j &&& 31) = 0)) h2 h3 (fun i hi => tst _ _ (h4 i hi))
    unfold gs
    rw [e]
    by_cases p : fdA (kk c j) t.1 t.2.1.length 0 < 30
    · have kf : s.2.1 ≤ fdA (kk c j) t.1 t.2.1.length 0 := by rw [← e]; exact (ff_le _ _ _).1
      have q : fdA (kk c j) t.1 t.2.1.length 0 < t.1.length := by omega
      simp only [if_pos p, if_pos q]
      refine ⟨?_, ?_, ?_, ?_, ?_, h6⟩
      · show s.2.1 + 1 = (t.2.1 ++ [kk c j]).length
        rw [List.length_append, h1]; rfl
      · show (mpA _ 0 _).length = 30
        rw [mpA_len, List.length_set, h2]
      · show s.2.1 + 1 ≤ 30
        omega
      · rw [← h1] at *
        exact row_eq (A := aC r c D) (cb := fun x => decide (¬ x &&& 1 <<< (Int32.ofNat j &&& 31) = 0)) aC_lin tst h2 h4 (by omega) p
      · intro i hi
        have hi : i < s.2.1 + 1 := hi
        show upd (s.2.2 119) s.2.1 (1 <<< (Int32.ofNat j &&& 31)) i = 1 <<< (Int32.ofNat (nn c ((t.2.1 ++ [kk c j]).getD i 0)) &&& 31)
        unfold upd
        rw [List.getD_eq_getElem?_getD, List.getElem?_append]
        by_cases g : i = s.2.1
        · rw [if_pos g, if_neg (by omega), g, h1, Nat.sub_self]
          show _ = 1 <<< (Int32.ofNat (nn c (kk c j)) &&& 31)
          rw [n2]
        · rw [if_neg g, if_pos (by omega), h5 i (by omega), List.getD_eq_getElem?_getD]
    · have q : ¬ fdA (kk c j) t.1 t.2.1.length 0 < t.1.length := by omega
      simp only [if_neg p, if_neg q]
      refine ⟨h1, h2, h3, h4, h5, fun i hi => ?_⟩
      show gb (s.1 ||| 1 <<< (Int32.ofNat j &&& 31)) i = (isCl r c i && (t.2.2 ||| 1 <<< kk c j).testBit (kk c i))
      rw [gb_or, gb_1k (by omega), h6 i hi, Nat.testBit_or, tb_1]
      by_cases g : i = j
      · subst g; simp [cl]
      · cases ci : isCl r c i
        · simp [g]
        · have : ¬ kk c i = kk c j := by
            intro q
            apply g
            rw [← (nn_kk hr hc ci).2, ← n2, q]
          simp [g, this]
  · rw [if_neg cl, if_neg cl]
    exact h
