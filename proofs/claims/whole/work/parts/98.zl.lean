/-! what the eliminations answer -/
theorem red_par {D : Nat → Bool} : ∀ (B : List Nat) (v : Nat), (∀ b ∈ B, par D b = false) → par D (red B v) = par D v
  | [], _, _ => rfl
  | b :: l, v, h => by
    unfold red
    rw [red_par l _ (fun x hx => h x (List.mem_cons_of_mem _ hx))]
    by_cases q : v ^^^ b < v
    · rw [if_pos q, par_xor, h b List.mem_cons_self]
      cases par D v <;> rfl
    · rw [if_neg q]
theorem bas_par {D : Nat → Bool} : ∀ (l B : List Nat), (∀ z ∈ l, par D z = false) → (∀ b ∈ B, par D b = false) → ∀ b ∈ bas l B, par D b = false
  | [], _, _, hB => hB
  | z :: l, B, hl, hB => by
    unfold bas
    have hz : par D (red B z) = false := (red_par B z hB).trans (hl z List.mem_cons_self)
    refine bas_par l _ (fun x hx => hl x (List.mem_cons_of_mem _ hx)) (fun b hb => ?_)
    by_cases q : red B z = 0
    · rw [if_pos q] at hb; exact hB b hb
    · rw [if_neg q] at hb
      rcases List.mem_cons.mp hb with e | e
      · rw [e]; exact hz
      · exact hB b e
theorem spn {D : Nat → Bool} {Z : List Nat} {v : Nat} (h : ∀ z ∈ Z, par D z = false) (hr : red (bas Z []) v = 0) : par D v = false := by
  have hb := bas_par Z [] h (fun b hb => absurd hb (by simp))
  rw [← red_par (bas Z []) v hb, hr, par_0]
/-- what the check of a size and a pattern says -/
theorem ck_f {p : Int32} {r c : Nat} (h : ckE p r c = true) : (endC p r c).2.1 = (endM p r c).2.1 ∧ (endC p r c).2.2 = (endM p r c).2.2 ∧
    (∀ i, i < (endM p r c).2.1.length → (gR (endC p r c).1 i).1 = (gR (endM p r c).1 i).1) ∧
    (∀ v ∈ zer (endM p r c), red (bas (zer (endC p r c)) []) v = 0) ∧ (∀ v ∈ zer (endC p r c), red (bas (zer (endM p r c)) []) v = 0) ∧
    (∀ i, i < (endM p r c).2.1.length → red (bas (zer (endM p r c)) []) ((gR (endC p r c).1 i).2 ^^^ (gR (endM p r c).1 i).2) = 0) ∧
    (∀ v ∈ qls (r * c) (endM p r c), red (bas (zer (endM p r c)) []) v = 0) ∧ (∀ v ∈ zer (endM p r c), red (bas (qls (r * c) (endM p r c)) []) v = 0) ∧
    (∀ x ∈ (endM p r c).1.drop (endM p r c).2.1.length, x.1 = 0) ∧ ∀ x ∈ (endC p r c).1.drop (endM p r c).2.1.length, x.1 = 0 := by
  unfold ckE at h
  simp only [Bool.and_eq_true, decide_eq_true_eq, List.all_eq_true, List.mem_range] at h
  obtain ⟨h1, h2, h3, h4, h5, h6, h7, h8, h9, h10⟩ := h
  refine ⟨h1, h2, fun i hi => ?_, h4, h5, h6, h7, h8, h9, h10⟩
  have := congrArg (fun l => l[i]?) h3
  rw [List.getElem?_map, List.getElem?_map, List.getElem?_range hi] at this
  simpa using this
theorem gR_drop {l : List RW} {k i : Nat} (hk : k ≤ i) (hi : i < l.length) : gR l i ∈ l.drop k := by
  unfold gR
  rw [List.getD_eq_getElem?_getD, List.getElem?_eq_getElem hi]
  show l[i] ∈ l.drop k
  rw [List.mem_iff_getElem]
  refine ⟨i - k, by rw [List.length_drop]; omega, ?_⟩
  rw [List.getElem_drop]
  congr 1
  omega
theorem drop_gR {l : List RW} {k : Nat} {x : RW} (hx : x ∈ l.drop k) : ∃ i, k ≤ i ∧ i < l.length ∧ gR l i = x := by
  rw [List.mem_iff_getElem] at hx
  obtain ⟨i, hi, e⟩ := hx
  rw [List.length_drop] at hi
  rw [List.getElem_drop] at e
  refine ⟨k + i, by omega, by omega, ?_⟩
  unfold gR
  rw [List.getD_eq_getElem?_getD, List.getElem?_eq_getElem (by omega)]
  exact e
theorem zer_i {D : Nat → Bool} {t : ES} : (∀ v ∈ zer t, par D v = false) ↔ ∀ i, t.2.1.length ≤ i → i < t.1.length → par D (gR t.1 i).2 = false := by
  unfold zer
  constructor
  · intro h i h1 h2
    exact h _ (List.mem_map.mpr ⟨_, gR_drop h1 h2, rfl⟩)
  · intro h v hv
    obtain ⟨x, hx, e⟩ := List.mem_map.mp hv
    obtain ⟨i, i1, i2, i3⟩ := drop_gR hx
    rw [← e, ← i3]
    exact h i i1 i2
/-- whether it can be solved -/
def can (p : Int32) (r c : Nat) (D : Nat → Bool) : Prop := ∀ v ∈ zer (endM p r c), par D v = false
theorem gs_mem {n : Nat} {t : ES} {x : Nat} (h : x ∈ (gs n t).2.1) : x ∈ t.2.1 ∨ x = n := by
  unfold gs at h
  by_cases q : fdA n t.1 t.2.1.length 0 < t.1.length
  · simp only [if_pos q] at h
    rcases List.mem_append.mp h with e | e
    · exact .inl e
    · exact .inr (List.mem_singleton.mp e)
  · simp only [if_neg q] at h
    exact .inl h
theorem piv_lt {p : Int32} {r c : Nat} : ∀ x ∈ (endM p r c).2.1, x < r * c := by
  have h : ∀ n, ∀ x ∈ (rngF gs n (rowsM p r c, ([] : List Nat), 0)).2.1, x < n := by
    intro n
    induction n with
    | zero => intro x hx; exact absurd hx (by show ¬ x ∈ ([] : List Nat); simp)
    | succ n ih =>
      intro x hx
      rcases gs_mem (t := rngF gs n (rowsM p r c, ([] : List Nat), 0)) hx with e | e
      · have := ih x e; omega
      · omega
  exact h (r * c)
theorem piv_i {p : Int32} {r c i : Nat} (hi : i < (endM p r c).2.1.length) : (endM p r c).2.1.getD i 0 < r * c := by
  rw [List.getD_eq_getElem?_getD, List.getElem?_eq_getElem hi]
  exact piv_lt _ (List.getElem_mem hi)
theorem elC_118 {C : HP} {b : Nat} : elC C b 118 = (elS C b).2.2 118 := rfl
theorem elC_119 {C : HP} {b : Nat} : elC C b 119 = (elS C b).2.2 119 := rfl
theorem ff_all {c : Nat → Bool} {n k : Nat} : ff c n k = k + n ↔ ∀ j, k ≤ j → j < k + n → c j = false := by
  constructor
  · intro h j h1 h2
    exact ff_no c n k j h1 (by omega)
  · intro h
    have h1 := ff_le c n k
    by_cases q : ff c n k < k + n
    · have := ff_yes c n k q
      rw [h _ h1.1 q] at this
      exact Bool.noConfusion this
    · omega
theorem cnS_can {C G : HP} {b r c : Nat} (h : SV C G b r c) : cnS C b = true ↔ can (G 125 2) r c (dD G) := by
  have hg := h.1
  have hp := h.2.1
  have hr := hg.2.2.2.1
  have hc := hg.2.2.2.2.2
  obtain ⟨f1, f2, f3, f4, f5, f6, f7, f8, f9, f10⟩ := ck_f (ck_all hp hr hc)
  obtain ⟨s1, s2, s3, s4, s5, s6⟩ := elS_sK h
  have key : cnS C b = true ↔ ∀ v ∈ zer (endC (G 125 2) r c), par (dD G) v = false := by
    unfold cnS ifI
    rw [decide_eq_true_eq, elC_118, zer_i, s2, ← s1]
    have hle := ff_le (fun j => decide (¬ (elS C b).2.2 118 j = 0)) (30 - (elS C b).2.1) (elS C b).2.1
    have ha := ff_all (c := fun j => decide (¬ (elS C b).2.2 118 j = 0)) (n := 30 - (elS C b).2.1) (k := (elS C b).2.1)
    have hE : ∀ i, (elS C b).2.1 ≤ i → i < 30 → ((elS C b).2.2 118 i = 0 ↔ par (dD G) (gR (endC (G 125 2) r c).1 i).2 = false) := by
      intro i i1 i2
      have z := f10 _ (gR_drop (k := (endM (G 125 2) r c).2.1.length) (by rw [← f1, ← s1]; exact i1) (by rw [s2]; exact i2))
      have a := s4 i i2
      constructor
      · intro e
        have := a 30 (by decide)
        rw [e, gb_0, if_neg (by decide), if_pos rfl] at this
        exact this.symm
      · intro e
        apply gb_nz.mpr
        intro j hj
        rw [a j hj, z, e]
        by_cases q : j < 30
        · rw [if_pos q, Nat.zero_testBit, Bool.and_false]
        · rw [if_neg q]; split <;> rfl
    constructor
    · intro q i i1 i2
      have q2 := ha.mp (by omega)
      have := q2 i i1 (by omega)
      simp only [decide_eq_false_iff_not, Decidable.not_not] at this
      exact (hE i i1 i2).mp this
    · intro q
      have : ff (fun j => decide (¬ (elS C b).2.2 118 j = 0)) (30 - (elS C b).2.1) (elS C b).2.1 = (elS C b).2.1 + (30 - (elS C b).2.1) := by
        apply ha.mpr
        intro j j1 j2
        have := (hE j j1 (by omega)).mpr (q j j1 (by omega))
        simp only [this, not_true_eq_false, decide_false]
      omega
  rw [key]
  constructor
  · intro q v hv; exact spn q (f4 v hv)
  · intro q v hv; exact spn q (f5 v hv)
theorem nn31 {x : Int32} (h : gb x 31 = false) : ¬ x < 0 := by
  intro q
  have q2 := Int32.lt_iff_toInt_lt.mp q
  have e : x.toInt = x.toBitVec.toInt := rfl
  have m : x.toBitVec.msb = false := by
    rw [BitVec.msb_eq_getLsbD_last]; exact h
  rw [e, BitVec.toInt_eq_msb_cond, m] at q2
  have z : (0 : Int32).toInt = 0 := rfl
  rw [z] at q2
  simp at q2
  omega
theorem itr_add {S : Type} {f : Nat → S → S} : ∀ a b k s, itr f (a + b) k s = itr f b (k + a) (itr f a k s)
  | 0, b, k, s => by rw [Nat.zero_add]; rfl
  | a + 1, b, k, s => by
    rw [show a + 1 + b = a + b + 1 from by omega]
    show itr f (a + b) (k + 1) (f k s) = itr f b (k + (a + 1)) (itr f a (k + 1) (f k s))
    rw [itr_add a b (k + 1) (f k s), show k + 1 + a = k + (a + 1) from by omega]
theorem itr_id {S : Type} {f : Nat → S → S} : ∀ n k s, (∀ j, k ≤ j → j < k + n → f j s = s) → itr f n k s = s
  | 0, _, _, _ => rfl
  | n + 1, k, s, h => by
    show itr f n (k + 1) (f k s) = s
    rw [h k (Nat.le_refl k) (by omega)]
    exact itr_id n (k + 1) s (fun j h1 h2 => h j (by omega) (by omega))
/-- the solution that is found, and whether there is one -/
theorem fd_can {C G : HP} {b r c : Nat} (h : SV C G b r c) : (can (G 125 2) r c (dD G) → SR r c (swI (elC C b 118) (elC C b 119) (elS C b).2.1 1073741824) (fdT G r c) ∧ ¬ fdT G r c < 0) ∧ (¬ can (G 125 2) r c (dD G) → fdT G r c = -1) := by
  have hg := h.1
  have hp := h.2.1
  have hr := hg.2.2.2.1
  have hc := hg.2.2.2.2.2
  have h25 := gS_n hg
  obtain ⟨f1, f2, f3, f4, f5, f6, f7, f8, f9, f10⟩ := ck_f (ck_all hp hr hc)
  obtain ⟨s1, s2, s3, s4, s5, s6⟩ := elS_sK h
  obtain ⟨m1, m2, m3, m4, m5, m6⟩ := emT_sM h
  have kk1 : (elS C b).2.1 = (emT G r c).2.1 := by rw [s1, m1, f1]
  have hR : ∀ i, i < r * c → hs ((emT G r c).2.2.1 i) 25 = par (dD G) (gR (endM (G 125 2) r c).1 i).2 := by
    intro i hi
    rw [show (25 : Int32) = Int32.ofNat 25 from rfl, hs_gb (by decide), m4 i hi 25 (by decide), if_neg (by decide), if_pos rfl]
  have hK : ∀ i, i < 30 → ((elS C b).2.2 118 i &&& 1073741824 = 0) = (par (dD G) (gR (endC (G 125 2) r c).1 i).2 = false) := by
    intro i hi
    have e : ct ((elS C b).2.2 118 i) (Int32.ofNat 30) = par (dD G) (gR (endC (G 125 2) r c).1 i).2 := by
      rw [ct_gb (by decide), s4 i hi 30 (by decide), if_neg (by decide), if_pos rfl]
    have e2 : ct ((elS C b).2.2 118 i) (Int32.ofNat 30) = decide (¬ (elS C b).2.2 118 i &&& 1073741824 = 0) := by
      unfold ct
      rw [show (1 : Int32) <<< (Int32.ofNat 30 &&& 31) = 1073741824 from by decide]
    rw [e2] at e
    rw [← e]
    by_cases q : (elS C b).2.2 118 i &&& 1073741824 = 0 <;> simp [q]
  have hcan : can (G 125 2) r c (dD G) ↔ ∀ i, (emT G r c).2.1 ≤ i → i < r * c → par (dD G) (gR (endM (G 125 2) r c).1 i).2 = false := by
    unfold can
    rw [zer_i, m2, ← m1]
  have hsplit : fdT G r c = itr (fdF (emT G r c).2.2.1 (emT G r c).2.2.2 (emT G r c).2.1) (r * c - (emT G r c).2.1) (0 + (emT G r c).2.1) (itr (fdF (emT G r c).2.2.1 (emT G r c).2.2.2 (emT G r c).2.1) (emT G r c).2.1 0 0) := by
    unfold fdT
    rw [← itr_add, show (emT G r c).2.1 + (r * c - (emT G r c).2.1) = r * c from by omega]
  constructor
  · intro hz
    have hz' := hcan.mp hz
    have e2 : fdT G r c = itr (fdF (emT G r c).2.2.1 (emT G r c).2.2.2 (emT G r c).2.1) (emT G r c).2.1 0 0 := by
      rw [hsplit]
      apply itr_id
      intro i i1 i2
      unfold fdF
      rw [hR i (by omega), hz' i (by omega) (by omega), if_neg (by simp)]
    have key := itr_rel (f := fun j s => if (elS C b).2.2 118 j &&& 1073741824 = 0 then s else s ||| (elS C b).2.2 119 j) (g := fdF (emT G r c).2.2.1 (emT G r c).2.2.2 (emT G r c).2.1) (fun _ s t => SR r c s t) (emT G r c).2.1 0 0 0 SR_0 (fun i s t _ hi hst => by
      have hi : i < (emT G r c).2.1 := by omega
      have cz := spn hz (f6 i (by omega))
      rw [par_xor] at cz
      have nl : ¬ t < 0 := nn31 (hst.2 31 (by omega))
      unfold fdF
      rw [hR i (by omega), if_neg (show ¬ (emT G r c).2.1 ≤ i by omega), if_neg nl]
      have hk := hK i (by omega)
      cases pm : par (dD G) (gR (endM (G 125 2) r c).1 i).2
      · rw [pm] at cz
        have pk : par (dD G) (gR (endC (G 125 2) r c).1 i).2 = false := by
          cases q : par (dD G) (gR (endC (G 125 2) r c).1 i).2
          · rfl
          · rw [q] at cz; exact cz
        rw [if_pos (hk.mpr pk), if_neg (by simp)]
        exact hst
      · rw [pm] at cz
        have pk : ¬ par (dD G) (gR (endC (G 125 2) r c).1 i).2 = false := by
          intro q; rw [q] at cz; exact Bool.noConfusion cz
        rw [if_neg (fun q => pk (hk.mp q)), if_pos rfl, s5 i (by omega), m5 i hi, f1]
        exact SR_or hst (SR_1 hr hc (piv_i (by omega))))
    have e3 : swI (elC C b 118) (elC C b 119) (elS C b).2.1 1073741824 = itr (fun j s => if (elS C b).2.2 118 j &&& 1073741824 = 0 then s else s ||| (elS C b).2.2 119 j) (emT G r c).2.1 0 0 := by
      rw [← kk1]; rfl
    rw [e3, e2]
    exact ⟨key, nn31 (key.2 31 (by omega))⟩
  · intro hz
    have hz' : ¬ ∀ i, (emT G r c).2.1 ≤ i → i < r * c → par (dD G) (gR (endM (G 125 2) r c).1 i).2 = false := fun q => hz (hcan.mpr q)
    rw [hsplit]
    have run : ∀ n i f, (emT G r c).2.1 ≤ i → i + n ≤ r * c → (f = -1 ∨ ¬ ∀ j, i ≤ j → j < i + n → par (dD G) (gR (endM (G 125 2) r c).1 j).2 = false) → itr (fdF (emT G r c).2.2.1 (emT G r c).2.2.2 (emT G r c).2.1) n i f = -1 := by
      intro n
      induction n with
      | zero =>
        intro i f h1 h2 h3
        rcases h3 with e | e
        · exact e
        · exact absurd (fun j j1 j2 => absurd j2 (by omega)) e
      | succ n ih =>
        intro i f h1 h2 h3
        show itr _ n (i + 1) (fdF _ _ _ i f) = -1
        apply ih (i + 1) _ (by omega) (by omega)
        unfold fdF
        rw [hR i (by omega)]
        cases pm : par (dD G) (gR (endM (G 125 2) r c).1 i).2
        · rw [if_neg (by simp)]
          rcases h3 with e | e
          · exact .inl e
          · right
            intro q
            apply e
            intro j j1 j2
            by_cases ji : j = i
            · rw [ji]; exact pm
            · exact q j (by omega) (by omega)
        · rw [if_pos rfl, if_pos h1]; exact .inl rfl
    apply run _ _ _ (by omega) (by omega)
    right
    intro q
    apply hz'
    intro i i1 i2
    exact q i (by omega) (by omega)
