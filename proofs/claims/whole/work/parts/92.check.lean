/-! what a program decides of all rows -/
theorem ckMb_of {k : Nat} (h : ckMb k = true) : ckM k := by
  simp only [ckMb, Bool.and_eq_true, Bool.or_eq_true, decide_eq_true_eq] at h
  obtain ⟨⟨⟨⟨⟨h1, h2⟩, h3⟩, h4⟩, h5⟩, h6⟩ := h
  exact ⟨inW_gw h1, inW_gw h2, h3, h4, h5, h6⟩
theorem ckCb_of {k pc ix : Nat} {d : List Nat} {op : Nat} (hM : ∀ k, k < 253 → ckM k) (h : ckCb k pc ix d op = true) : ckC k pc ix d op := by
  unfold ckCb at h
  split at h
  · rename_i k' na ml mc ms kd ci pl
    simp only [Bool.and_eq_true, decide_eq_true_eq, Bool.or_eq_true, pmd] at h
    obtain ⟨⟨⟨⟨⟨⟨⟨⟨h0, h1⟩, h2⟩, h3⟩, h4⟩, h5⟩, h6⟩, h7⟩, h8⟩ := h
    refine ⟨hM _ h0, h1, h2, h3, h4, h5, h6, h7, ?_⟩
    rcases h8 with (((h | h) | h) | h) | h
    · obtain ⟨⟨⟨⟨⟨⟨⟨⟨⟨a, b⟩, c⟩, d⟩, e⟩, f⟩, g⟩, i⟩, j⟩, m⟩ := h
      exact Or.inl ⟨a, b, c, inW_gw d, inW_gw e, inW_gw f, g, i, j, m⟩
    · obtain ⟨⟨⟨⟨⟨a, b⟩, c⟩, d⟩, e⟩, m⟩ := h
      exact Or.inr (Or.inl ⟨a, b, c, inW_gw d, inW_gw e, m⟩)
    · obtain ⟨⟨⟨⟨⟨a, b⟩, c⟩, d⟩, e⟩, m⟩ := h
      exact Or.inr (Or.inr (Or.inl ⟨a, b, c, inW_gw d, inW_gw e, m⟩))
    · obtain ⟨⟨⟨⟨⟨⟨⟨⟨a, b⟩, c⟩, d⟩, e⟩, f⟩, g⟩, i⟩, m⟩ := h
      exact Or.inr (Or.inr (Or.inr (Or.inl ⟨a, b, c, inW_gw d, inW_gw e, f, g, i, m⟩)))
    · obtain ⟨⟨⟨⟨⟨⟨⟨⟨a, b⟩, c⟩, d⟩, e⟩, f⟩, g⟩, i⟩, m⟩ := h
      exact Or.inr (Or.inr (Or.inr (Or.inr ⟨a, b, c, d, inW_gw e, f, g, i, m⟩)))
  · rename_i hn
    unfold ckC
    split
    · exact absurd rfl (hn _ _ _ _ _ _ _ _)
    · trivial
theorem oinitW : (inW 88 (.instanceMethod Lib.objectInit) && inW 89 (.code Lib.objectInit ⟨#[0xb1]⟩ 1 none)) = true := by decide +kernel
theorem acopyW : (inW 380 (.native arraycopyName) && inW 379 (.static arraycopyName) && inW 69 (.initialized "java/lang/System")) = true := by decide +kernel
theorem ckM_all : ∀ k, k < 253 → ckM k := fun k h => ckMb_of (ckMb_all k h)
