/-! the text on both sides -/
def TX (C G : HP) (l : Nat) : Prop := ∀ p, p < l → C 122 p = G 129 p
theorem ff_split {c : Nat → Bool} : ∀ a b k, ff c (a + b) k = if ff c a k < k + a then ff c a k else ff c b (k + a)
  | 0, b, k => by rw [Nat.zero_add, if_neg (by show ¬ k < k + 0; omega)]; rfl
  | a + 1, b, k => by
    rw [show a + 1 + b = a + b + 1 from by omega]
    show (if c k = true then k else ff c (a + b) (k + 1)) = if (if c k = true then k else ff c a (k + 1)) < k + (a + 1) then (if c k = true then k else ff c a (k + 1)) else ff c b (k + (a + 1))
    by_cases q : c k = true
    · rw [if_pos q, if_pos q, if_pos (by omega)]
    · rw [if_neg q, if_neg q, ff_split a b (k + 1), show k + 1 + a = k + (a + 1) from by omega]
theorem mO_mat {C G : HP} {l st i : Nat} (hx : TX C G l) (hs : st ≤ l) (hi : i < 10) : mO C l st i = mat G l (FM i) st := by
  unfold mO mat
  have e : ff (fun k => !fit ((FM i).getD k 0) (tx C l (st + k))) (min (FM i).length (l - st)) 0 = ff (fun k => !fit ((FM i).getD k 0) (ih G l (st + k))) (min (FM i).length (l - st)) 0 := by
    apply ff_cg
    intro k _ hk
    unfold tx ih
    rw [if_pos (by omega), if_pos (by omega), hx _ (by omega)]
  rw [e]
  by_cases q : (FM i).length ≤ l - st
  · rw [Nat.min_eq_left q]
  · rw [Nat.min_eq_right (by omega)]
    have sp := ff_split (c := fun k => !fit ((FM i).getD k 0) (ih G l (st + k))) (l - st) ((FM i).length - (l - st)) 0
    rw [show l - st + ((FM i).length - (l - st)) = (FM i).length from by omega] at sp
    rw [sp]
    have le := ff_le (fun k => !fit ((FM i).getD k 0) (ih G l (st + k))) (l - st) 0
    by_cases w : ff (fun k => !fit ((FM i).getD k 0) (ih G l (st + k))) (l - st) 0 < 0 + (l - st)
    · rw [if_pos w]
    · rw [if_neg w]
      have h1 : ff (fun k => !fit ((FM i).getD k 0) (ih G l (st + k))) (l - st) 0 = l - st := by omega
      rw [h1]
      have d : ∀ w, w < 128 → fit w (-1) = false := by decide +kernel
      have hg : (FM i).getD (0 + (l - st)) 0 < 128 := by
        rw [List.getD_eq_getElem?_getD, List.getElem?_eq_getElem (by omega)]
        exact (FM_ok i hi).2.2 _ (List.getElem_mem (by omega))
      have c1 : (fun k => !fit ((FM i).getD k 0) (ih G l (st + k))) (0 + (l - st)) = true := by
        have ei : ih G l (st + (0 + (l - st))) = -1 := by unfold ih; rw [if_neg (by omega)]
        dsimp only
        rw [ei, d _ hg]
        rfl
      have z : ∀ n, 0 < n → ff (fun k => !fit ((FM i).getD k 0) (ih G l (st + k))) n (0 + (l - st)) = 0 + (l - st) := by
        intro n hn
        match n, hn with
        | n + 1, _ =>
          unfold ff
          rw [if_pos c1]
      rw [z _ (by omega), Nat.zero_add]
def f0 (i : Nat) : Nat := [112, 108, 100, 103, 115, 112, 119, 115, 115, 99].getD i 0
def f1 (i : Nat) : Nat := [114, 105, 97, 111, 105, 97, 111, 116, 111, 104].getD i 0
theorem fm_ck : ∀ i, i < 10 → FM i = f0 i :: f1 i :: (FM i).drop 2 ∧ (¬ f0 i = 35 ∧ ¬ f0 i = 64 ∧ ¬ f0 i = 94) ∧ (¬ f1 i = 35 ∧ ¬ f1 i = 64 ∧ ¬ f1 i = 94) ∧ f0 i < 200 ∧ f1 i < 200 := by decide
theorem M_0 {G : HP} {l st i : Nat} (hi : i < 10) (h : ¬ ih G l st = Int32.ofNat (f0 i)) : mat G l (FM i) st = 0 := by
  obtain ⟨e, a, _⟩ := fm_ck i hi
  rw [e, mat_cons, fit_n a, decide_eq_false h, if_neg (by simp)]
theorem M_1 {G : HP} {l st i : Nat} (hi : i < 10) (h : ¬ ih G l (st + 1) = Int32.ofNat (f1 i)) : mat G l (FM i) st ≤ 1 := by
  obtain ⟨e, a, b, _⟩ := fm_ck i hi
  rw [e, mat_cons, mat_cons, fit_n b, decide_eq_false h]
  by_cases q : fit (f0 i) (ih G l st) = true
  · rw [if_pos q, if_neg (by simp)]; exact Nat.le_refl 1
  · rw [if_neg q]; exact Nat.zero_le 1
theorem M_p {G : HP} {l st i : Nat} (hi : i < 10) (h : ih G l st = Int32.ofNat (f0 i)) : 1 ≤ mat G l (FM i) st := by
  obtain ⟨e, a, _⟩ := fm_ck i hi
  rw [e, mat_cons, fit_n a, decide_eq_true h, if_pos rfl]
  omega
/-- the greatest of the matches -/
theorem lg_max {M : Nat → Nat} : ∀ n, (∀ i, i < n → M i ≤ itr (fun i m => if m < M i then M i else m) n 0 0) ∧ (itr (fun i m => if m < M i then M i else m) n 0 0 = 0 ∨ ∃ i, i < n ∧ M i = itr (fun i m => if m < M i then M i else m) n 0 0)
  | 0 => ⟨fun i hi => absurd hi (Nat.not_lt_zero i), .inl rfl⟩
  | n + 1 => by
    obtain ⟨h1, h2⟩ := lg_max (M := M) n
    rw [itr_last, Nat.zero_add]
    generalize itr (fun i m => if m < M i then M i else m) n 0 0 = x at *
    by_cases q : x < M n
    · rw [if_pos q]
      refine ⟨fun i hi => ?_, .inr ⟨n, by omega, rfl⟩⟩
      by_cases e : i = n
      · rw [e]; exact Nat.le_refl _
      · have := h1 i (by omega); omega
    · rw [if_neg q]
      refine ⟨fun i hi => ?_, ?_⟩
      · by_cases e : i = n
        · rw [e]; omega
        · exact h1 i (by omega)
      · rcases h2 with e | ⟨i, i1, i2⟩
        · exact .inl e
        · exact .inr ⟨i, by omega, i2⟩
theorem kd_k {C G : HP} {l st k : Nat} (hx : TX C G l) (hs : st ≤ l) (hk : k < 10) (h : ∀ i, i < 10 → ¬ i = k → mat G l (FM i) st ≤ 1 ∧ mat G l (FM i) st ≤ mat G l (FM k) st) : kdT C l st = (if mat G l (FM k) st = (FM k).length then k else 10) ∧ lgM C l st = mat G l (FM k) st := by
  have e : ∀ i, i < 10 → mO C l st i = mat G l (FM i) st := fun i hi => mO_mat hx hs hi
  constructor
  · unfold kdT
    have hle := ff_le (fun i => decide (mO C l st i = (FM i).length)) 10 0
    have hno := ff_no (fun i => decide (mO C l st i = (FM i).length)) 10 0
    have hyes := ff_yes (fun i => decide (mO C l st i = (FM i).length)) 10 0
    have oth : ∀ i, i < 10 → ¬ i = k → ¬ mO C l st i = (FM i).length := by
      intro i hi hn
      have a := (h i hi hn).1
      have b := FM_4 i hi
      rw [e i hi]; omega
    generalize ff (fun i => decide (mO C l st i = (FM i).length)) 10 0 = f at *
    by_cases q : mat G l (FM k) st = (FM k).length
    · rw [if_pos q]
      by_cases lt : k < f
      · have := hno k (Nat.zero_le k) lt
        rw [e k hk, decide_eq_true q] at this
        exact Bool.noConfusion this
      · have f10 : f < 0 + 10 := by omega
        have y := of_decide_eq_true (hyes f10)
        by_cases ne : f = k
        · exact ne
        · exact absurd y (oth f (by omega) ne)
    · rw [if_neg q]
      by_cases f10 : f < 0 + 10
      · have y := of_decide_eq_true (hyes f10)
        by_cases ne : f = k
        · rw [ne, e k hk] at y; exact absurd y q
        · exact absurd y (oth f (by omega) ne)
      · omega
  · have m := lg_max (M := fun i => mO C l st i) 10
    have el : lgM C l st = itr (fun i m => if m < mO C l st i then mO C l st i else m) 10 0 0 := rfl
    rw [el]
    have mk := m.1 k hk
    rw [e k hk] at mk
    rcases m.2 with z | ⟨i, i1, i2⟩
    · omega
    · rw [e i i1] at i2
      by_cases ne : i = k
      · rw [← i2, ne]
      · have := (h i i1 ne).2
        omega
theorem kd_n {C G : HP} {l st v : Nat} (hx : TX C G l) (hs : st ≤ l) (hv : v ≤ 1) (h : ∀ i, i < 10 → mat G l (FM i) st ≤ v) (hz : v = 0 ∨ ∃ i, i < 10 ∧ mat G l (FM i) st = v) : kdT C l st = 10 ∧ lgM C l st = v := by
  have e : ∀ i, i < 10 → mO C l st i = mat G l (FM i) st := fun i hi => mO_mat hx hs hi
  constructor
  · have : ff (fun i => decide (mO C l st i = (FM i).length)) 10 0 = 0 + 10 := by
      apply ff_all.mpr
      intro i _ hi
      have a := h i (by omega)
      have b := FM_4 i (by omega)
      apply decide_eq_false
      rw [e i (by omega)]; omega
    exact this
  · have m := lg_max (M := fun i => mO C l st i) 10
    have el : lgM C l st = itr (fun i m => if m < mO C l st i then mO C l st i else m) 10 0 0 := rfl
    rw [el]
    generalize itr (fun i m => if m < mO C l st i then mO C l st i else m) 10 0 0 = x at *
    have up : x ≤ v := by
      rcases m.2 with z | ⟨i, i1, i2⟩
      · omega
      · have := h i i1
        rw [← e i i1] at this
        omega
    rcases hz with z | ⟨i, i1, i2⟩
    · omega
    · have := m.1 i i1
      rw [e i i1] at this
      omega
/-- which command stands where, on both sides -/
theorem kd_eq {C G : HP} {l st : Nat} (hx : TX C G l) (hs : st ≤ l) : kdT C l st = (if okM G l st = true then kcM G l st else 10) ∧ lgM C l st = pgM G l st := by
  have one : ∀ k, k < 10 → kcM G l st = k → (∀ i, i < 10 → ¬ i = k → mat G l (FM i) st ≤ 1 ∧ mat G l (FM i) st ≤ mat G l (FM k) st) → kdT C l st = (if okM G l st = true then kcM G l st else 10) ∧ lgM C l st = pgM G l st := by
    intro k hk ek h
    obtain ⟨a, b⟩ := kd_k hx hs hk h
    unfold okM pgM
    rw [ek, a, b, decide_eq_true hk, Bool.true_and, if_pos hk]
    refine ⟨?_, rfl⟩
    by_cases q : mat G l (FM k) st = (FM k).length
    · rw [if_pos q, if_pos (decide_eq_true q)]
    · rw [if_neg q, if_neg (by simp [q])]
  have sole : ∀ k x, k < 10 → kcM G l st = k → ih G l st = Int32.ofNat x → x < 200 → (∀ i, i < 10 → ¬ i = k → ¬ f0 i = x) → kdT C l st = (if okM G l st = true then kcM G l st else 10) ∧ lgM C l st = pgM G l st := by
    intro k x hk ek hx' hx2 hn
    refine one k hk ek (fun i hi ne => ?_)
    have z := M_0 (G := G) (l := l) (st := st) hi (by
      rw [hx', io_eq (by omega) (by have := (fm_ck i hi).2.2.2.1; omega)]
      exact fun w => hn i hi ne w.symm)
    omega
  have two : ∀ k x y, k < 10 → kcM G l st = k → ih G l st = Int32.ofNat x → x < 200 → f0 k = x → (∀ i, i < 10 → ¬ i = k → f0 i = x → ¬ ih G l (st + 1) = Int32.ofNat (f1 i)) → y = 0 → kdT C l st = (if okM G l st = true then kcM G l st else 10) ∧ lgM C l st = pgM G l st := by
    intro k x y hk ek hx' hx2 hfk hn _
    refine one k hk ek (fun i hi ne => ?_)
    have p := M_p (G := G) (l := l) (st := st) hk (by rw [hfk]; exact hx')
    by_cases q : f0 i = x
    · have := M_1 (G := G) (l := l) (st := st) hi (hn i hi ne q)
      omega
    · have z := M_0 (G := G) (l := l) (st := st) hi (by
        rw [hx', io_eq (by omega) (by have := (fm_ck i hi).2.2.2.1; omega)]
        exact fun w => q w.symm)
      omega
  by_cases h0 : ih G l st = 115
  · by_cases h1 : ih G l (st + 1) = 105
    · have e : kcM G l st = 4 := by unfold kcM; rw [if_pos h0, if_pos h1]
      refine two 4 115 0 (by decide) e h0 (by decide) rfl (fun i hi ne hf => ?_) rfl
      rw [h1]
      have d : ∀ i, i < 10 → ¬ i = 4 → f0 i = 115 → ¬ (105 : Int32) = Int32.ofNat (f1 i) := by decide
      exact d i hi ne hf
    by_cases h2 : ih G l (st + 1) = 116
    · have e : kcM G l st = 7 := by unfold kcM; rw [if_pos h0, if_neg h1, if_pos h2]
      refine two 7 115 0 (by decide) e h0 (by decide) rfl (fun i hi ne hf => ?_) rfl
      rw [h2]
      have d : ∀ i, i < 10 → ¬ i = 7 → f0 i = 115 → ¬ (116 : Int32) = Int32.ofNat (f1 i) := by decide
      exact d i hi ne hf
    by_cases h3 : ih G l (st + 1) = 111
    · have e : kcM G l st = 8 := by unfold kcM; rw [if_pos h0, if_neg h1, if_neg h2, if_pos h3]
      refine two 8 115 0 (by decide) e h0 (by decide) rfl (fun i hi ne hf => ?_) rfl
      rw [h3]
      have d : ∀ i, i < 10 → ¬ i = 8 → f0 i = 115 → ¬ (111 : Int32) = Int32.ofNat (f1 i) := by decide
      exact d i hi ne hf
    · have e : kcM G l st = 11 := by unfold kcM; rw [if_pos h0, if_neg h1, if_neg h2, if_neg h3]
      have d : ∀ i, i < 10 → f0 i = 115 → f1 i = 105 ∨ f1 i = 116 ∨ f1 i = 111 := by decide
      have all : ∀ i, i < 10 → mat G l (FM i) st ≤ 1 := by
        intro i hi
        by_cases q : f0 i = 115
        · apply M_1 hi
          rcases d i hi q with w | w | w <;> rw [w]
          · exact h1
          · exact h2
          · exact h3
        · have z := M_0 (G := G) (l := l) (st := st) hi (by
            rw [h0, show (115 : Int32) = Int32.ofNat 115 from rfl, io_eq (by omega) (by have := (fm_ck i hi).2.2.2.1; omega)]
            exact fun w => q w.symm)
          omega
      obtain ⟨a, b⟩ := kd_n hx hs (Nat.le_refl 1) all (.inr ⟨4, by decide, by
        have p := M_p (G := G) (l := l) (st := st) (i := 4) (by decide) h0
        have q := all 4 (by decide)
        omega⟩)
      unfold okM pgM
      rw [e, a, b]
      exact ⟨rfl, rfl⟩
  by_cases h1 : ih G l st = 108
  · have e : kcM G l st = 1 := by unfold kcM; rw [if_neg h0, if_pos h1]
    exact sole 1 108 (by decide) e h1 (by decide) (by decide)
  by_cases h2 : ih G l st = 100
  · have e : kcM G l st = 2 := by unfold kcM; rw [if_neg h0, if_neg h1, if_pos h2]
    exact sole 2 100 (by decide) e h2 (by decide) (by decide)
  by_cases h3 : ih G l st = 103
  · have e : kcM G l st = 3 := by unfold kcM; rw [if_neg h0, if_neg h1, if_neg h2, if_pos h3]
    exact sole 3 103 (by decide) e h3 (by decide) (by decide)
  by_cases h4 : ih G l st = 119
  · have e : kcM G l st = 6 := by unfold kcM; rw [if_neg h0, if_neg h1, if_neg h2, if_neg h3, if_pos h4]
    exact sole 6 119 (by decide) e h4 (by decide) (by decide)
  by_cases h5 : ih G l st = 99
  · have e : kcM G l st = 9 := by unfold kcM; rw [if_neg h0, if_neg h1, if_neg h2, if_neg h3, if_neg h4, if_pos h5]
    exact sole 9 99 (by decide) e h5 (by decide) (by decide)
  by_cases h6 : ih G l st = 112
  · by_cases h7 : ih G l (st + 1) = 114
    · have e : kcM G l st = 0 := by unfold kcM; rw [if_neg h0, if_neg h1, if_neg h2, if_neg h3, if_neg h4, if_neg h5, if_pos h6, if_pos h7]
      refine two 0 112 0 (by decide) e h6 (by decide) rfl (fun i hi ne hf => ?_) rfl
      rw [h7]
      have d : ∀ i, i < 10 → ¬ i = 0 → f0 i = 112 → ¬ (114 : Int32) = Int32.ofNat (f1 i) := by decide
      exact d i hi ne hf
    · have e : kcM G l st = 5 := by unfold kcM; rw [if_neg h0, if_neg h1, if_neg h2, if_neg h3, if_neg h4, if_neg h5, if_pos h6, if_neg h7]
      refine two 5 112 0 (by decide) e h6 (by decide) rfl (fun i hi ne hf => ?_) rfl
      have d : ∀ i, i < 10 → ¬ i = 5 → f0 i = 112 → f1 i = 114 := by decide
      rw [d i hi ne hf]; exact h7
  · have e : kcM G l st = 10 := by unfold kcM; rw [if_neg h0, if_neg h1, if_neg h2, if_neg h3, if_neg h4, if_neg h5, if_neg h6]
    have d : ∀ i, i < 10 → f0 i = 115 ∨ f0 i = 108 ∨ f0 i = 100 ∨ f0 i = 103 ∨ f0 i = 119 ∨ f0 i = 99 ∨ f0 i = 112 := by decide
    obtain ⟨a, b⟩ := kd_n hx hs (Nat.zero_le 1) (fun i hi => by
      have z := M_0 (G := G) (l := l) (st := st) hi (by
        rcases d i hi with w | w | w | w | w | w | w <;> rw [w]
        · exact h0
        · exact h1
        · exact h2
        · exact h3
        · exact h4
        · exact h5
        · exact h6)
      omega) (.inl rfl)
    unfold okM pgM
    rw [e, a, b]
    exact ⟨rfl, rfl⟩
