/-! FROM THE ABSTRACT MACHINE TO THE MACHINE: numbers of cells to addresses, locals -/
def cv (γ : Nat → Nat) : Value → Value
  | .ref a => .ref (γ a)
  | v => v
def cvA (γ : Nat → Nat) : vp_A → vp_A
  | (n, .inr (.inr (.inr (.inr f)))) => (n, .inr (.inr (.inr (.inr (fun j => (f j).map γ)))))
  | (n, .inr (.inr (.inr (.inl f)))) => (n, .inr (.inr (.inr (.inl f))))
  | (n, .inr (.inr (.inl f))) => (n, .inr (.inr (.inl f)))
  | (n, .inr (.inl f)) => (n, .inr (.inl f))
  | (n, .inl f) => (n, .inl f)
def cvE (γ : Nat → Nat) (dA : Nat → ClassId) : AC → va_E
  | .inl (t, a) => .inl (dA t, cvA γ a)
  | .inr (ci, fs) => .inr (ci, fs.map (cv γ))
def kn : Value → Bool
  | .retAddr _ => false
  | _ => true
def lvl (γ : Nat → Nat) : List Value → Nat → List (Nat × Value)
  | [], _ => []
  | v :: l, i => if kn v = true then (i, cv γ v) :: lvl γ l (i + 1) else lvl γ l (i + 1)
theorem cv_cat (γ : Nat → Nat) (v : Value) : (cv γ v).category = v.category := by cases v <;> rfl
theorem mem_lvl {γ : Nat → Nat} {q : Nat × Value} : ∀ (ls : List Value) (i : Nat), q ∈ lvl γ ls i ↔ i ≤ q.1 ∧ kn (lg ls (q.1 - i)) = true ∧ q.2 = cv γ (lg ls (q.1 - i))
  | [], i => by simp [lvl, lg, kn]
  | v :: l, i => by
    have ih := mem_lvl (γ := γ) (q := q) l (i + 1)
    have key : q ∈ lvl γ l (i + 1) ↔ (i < q.1 ∧ kn (lg (v :: l) (q.1 - i)) = true ∧ q.2 = cv γ (lg (v :: l) (q.1 - i))) := by
      rw [ih]
      constructor
      · intro ⟨h1, h2⟩
        rw [show q.1 - i = (q.1 - (i + 1)) + 1 by omega]
        exact ⟨by omega, h2⟩
      · intro ⟨h1, h2⟩
        rw [show q.1 - i = (q.1 - (i + 1)) + 1 by omega] at h2
        exact ⟨by omega, h2⟩
    rw [lvl]
    by_cases hv : kn v = true
    · rw [if_pos hv, List.mem_cons, key]
      constructor
      · rintro (h | ⟨h1, h2⟩)
        · subst h
          refine ⟨Nat.le_refl _, ?_⟩
          simp [lg, hv]
        · exact ⟨by omega, h2⟩
      · rintro ⟨h1, h2, h3⟩
        by_cases e : q.1 = i
        · left
          rw [e, Nat.sub_self] at h3
          exact Prod.ext e h3
        · exact Or.inr ⟨by omega, h2, h3⟩
    · rw [if_neg hv, key]
      constructor
      · rintro ⟨h1, h2⟩
        exact ⟨by omega, h2⟩
      · rintro ⟨h1, h2, h3⟩
        by_cases e : q.1 = i
        · rw [e, Nat.sub_self] at h2
          exact absurd h2 hv
        · exact ⟨by omega, h2, h3⟩
theorem lg_lset (v : Value) : ∀ (ls : List Value) (n j : Nat), lg (lset ls n v) j = if j = n ∧ n < ls.length then v else lg ls j
  | [], n, j => by simp [lset, lg]
  | a :: l, 0, 0 => by simp [lset, lg]
  | a :: l, 0, j + 1 => by simp [lset, lg]
  | a :: l, n + 1, 0 => by simp [lset, lg]
  | a :: l, n + 1, j + 1 => by simp [lset, lg, lg_lset v l n j]
theorem len_lset (v : Value) : ∀ (ls : List Value) (n : Nat), (lset ls n v).length = ls.length
  | [], n => rfl
  | a :: l, 0 => rfl
  | a :: l, n + 1 => by simp [lset, len_lset v l n]
def LH (γ : Nat → Nat) (A : Array Slot) (nL : Nat) (ls : List Value) : Prop := lv_has A nL (lvl γ ls 0) ∧ ls.length = nL
theorem LH.ld {γ : Nat → Nat} {A : Array Slot} {nL : Nat} {ls : List Value} (h : LH γ A nL ls) {n : Nat} {v : Value} (hv : lg ls n = v) (hk : kn v = true) : A[n]? = some (.val (cv γ v)) := by
  refine h.1.2.2 (n, cv γ v) ((mem_lvl ls 0).mpr ⟨Nat.zero_le _, ?_, ?_⟩)
  · simpa [hv] using hk
  · simp [hv]
theorem LH.size {γ : Nat → Nat} {A : Array Slot} {nL : Nat} {ls : List Value} (h : LH γ A nL ls) : A.size = nL := h.1.1
/-- fewer are known -/
theorem LH.of {γ : Nat → Nat} {A : Array Slot} {nL : Nat} {ls : List Value} {lv : List (Nat × Value)} (h : lv_has A nL lv) (hl : ls.length = nL) (hs : ∀ j, kn (lg ls j) = true → (j, cv γ (lg ls j)) ∈ lv) : LH γ A nL ls := by
  refine ⟨⟨h.1, h.2.1, fun q hq => h.2.2 q ?_⟩, hl⟩
  obtain ⟨-, h2, h3⟩ := (mem_lvl ls 0).mp hq
  have := hs q.1 (by simpa using h2)
  rw [show q = (q.1, cv γ (lg ls q.1)) from Prod.ext rfl (by simpa using h3)]
  exact this
theorem LH.mem {γ : Nat → Nat} {ls : List Value} {j : Nat} (h : kn (lg ls j) = true) : (j, cv γ (lg ls j)) ∈ lvl γ ls 0 := (mem_lvl ls 0).mpr ⟨Nat.zero_le _, by simpa using h, by simp⟩
theorem LH.st1 {γ : Nat → Nat} {A B : Array Slot} {nL n : Nat} {ls : List Value} {v : Value} (h : LH γ A nL ls) (hk : lok ls n) (hn : n < ls.length)
    (hB : lv_has B nL ((n, cv γ v) :: (lvl γ ls 0).filter (fun q => !(q.1 == n) && !(q.1 + 1 == n && q.2.category == 2)))) : LH γ B nL (lset ls n v) := by
  refine LH.of hB (by rw [len_lset]; exact h.2) fun j hj => ?_
  rw [lg_lset] at hj ⊢
  by_cases e : j = n ∧ n < ls.length
  · rw [if_pos e] at hj ⊢
    rw [e.1]; exact List.mem_cons_self
  · rw [if_neg e] at hj ⊢
    have hne : j ≠ n := fun q => e ⟨q, hn⟩
    refine List.mem_cons_of_mem _ (List.mem_filter.mpr ⟨LH.mem hj, ?_⟩)
    have h1 : (j == n) = false := by simpa using hne
    have h2 : (j + 1 == n && (cv γ (lg ls j)).category == 2) = false := by
      cases n with
      | zero => simp
      | succ n =>
        by_cases q : j = n
        · subst q
          rw [cv_cat, show (lg ls j).category = 1 from hk]
          simp
        · have : (j + 1 == n + 1) = false := by simpa using q
          simp [this]
    simp only [h1, h2]
    rfl
/-- a local is forgotten -/
theorem LH.drop {γ : Nat → Nat} {A : Array Slot} {nL n : Nat} {ls : List Value} (h : LH γ A nL ls) : LH γ A nL (lset ls n xk) := by
  refine LH.of h.1 (by rw [len_lset]; exact h.2) fun j hj => ?_
  rw [lg_lset] at hj ⊢
  by_cases e : j = n ∧ n < ls.length
  · rw [if_pos e] at hj; exact absurd hj (by decide)
  · rw [if_neg e] at hj ⊢
    exact LH.mem hj
theorem LH.st2 {γ : Nat → Nat} {A B : Array Slot} {nL n : Nat} {ls : List Value} {v : Value} (h : LH γ A nL ls) (hk : lok ls n) (hn : n + 1 < ls.length)
    (hB : lv_has B nL ((n, cv γ v) :: (lvl γ ls 0).filter (fun q => !(q.1 == n) && (!(q.1 == n + 1) && !(q.1 + 1 == n && q.2.category == 2))))) : LH γ B nL (lset (lset ls n v) (n + 1) xk) := by
  refine LH.of hB (by rw [len_lset, len_lset]; exact h.2) fun j hj => ?_
  rw [lg_lset] at hj ⊢
  by_cases e2 : j = n + 1 ∧ n + 1 < (lset ls n v).length
  · rw [if_pos e2] at hj; exact absurd hj (by decide)
  rw [if_neg e2] at hj ⊢
  have hne2 : j ≠ n + 1 := fun q => e2 ⟨q, by rw [len_lset]; exact hn⟩
  rw [lg_lset] at hj ⊢
  by_cases e : j = n ∧ n < ls.length
  · rw [if_pos e] at hj ⊢
    rw [e.1]; exact List.mem_cons_self
  · rw [if_neg e] at hj ⊢
    have hne : j ≠ n := fun q => e ⟨q, by omega⟩
    refine List.mem_cons_of_mem _ (List.mem_filter.mpr ⟨LH.mem hj, ?_⟩)
    have h1 : (j == n) = false := by simpa using hne
    have h1b : (j == n + 1) = false := by simpa using hne2
    have h2 : (j + 1 == n && (cv γ (lg ls j)).category == 2) = false := by
      cases n with
      | zero => simp
      | succ n =>
        by_cases q : j = n
        · subst q
          rw [cv_cat, show (lg ls j).category = 1 from hk]
          simp
        · have : (j + 1 == n + 1) = false := by simpa using q
          simp [this]
    simp only [h1, h1b, h2]
    rfl
