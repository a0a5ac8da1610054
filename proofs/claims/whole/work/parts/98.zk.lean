/-! loops over the numbers of cells, and over the cells -/
theorem itr_fold {S : Type} (f : Nat → S → S) : ∀ n s, itr f n 0 s = (List.range n).foldl (fun s j => f j s) s
  | 0, _ => rfl
  | n + 1, s => by
    rw [itr_last, itr_fold f n s, List.range_succ, List.foldl_append, Nat.zero_add]
    rfl
theorem fold_if {S : Type} (P : Nat → Bool) (g : Nat → S → S) (h : Nat → Nat) : ∀ (l : List Nat) (s : S), l.foldl (fun s j => if P j = true then g (h j) s else s) s = ((l.filter P).map h).foldl (fun s j => g j s) s
  | [], _ => rfl
  | x :: l, s => by
    show l.foldl _ (if P x = true then g (h x) s else s) = _
    rw [fold_if P g h l, List.filter_cons]
    by_cases p : P x = true
    · rw [if_pos p, if_pos p]; rfl
    · rw [if_neg p, if_neg p]
theorem cl_list : ((List.range 6).all fun r => (List.range 6).all fun c => decide (((List.range 30).filter (isCl r c)).map (kk c) = List.range (r * c))) = true := by decide +kernel
/-- a loop over the numbers of cells is one over the cells -/
theorem IT {S : Type} {r c : Nat} (hr : r ≤ 5) (hc : c ≤ 5) (g : Nat → S → S) (s : S) : itr (fun j s => if isCl r c j = true then g (kk c j) s else s) 30 0 s = itr g (r * c) 0 s := by
  have e := of_decide_eq_true (List.all_eq_true.mp (List.all_eq_true.mp cl_list r (List.mem_range.mpr (by omega))) c (List.mem_range.mpr (by omega)))
  rw [itr_fold, fold_if (isCl r c) g (kk c), e, itr_fold]
theorem itr_cg {S : Type} {f g : Nat → S → S} : ∀ n k s, (∀ j s, k ≤ j → j < k + n → f j s = g j s) → itr f n k s = itr g n k s
  | 0, _, _, _ => rfl
  | n + 1, k, s, h => by
    show itr f n (k + 1) (f k s) = itr g n (k + 1) (g k s)
    rw [h k s (Nat.le_refl k) (by omega), itr_cg n (k + 1) (g k s) (fun j s h1 h2 => h j s (by omega) (by omega))]
/-- two loops that keep a relation -/
theorem itr_rel {S T : Type} {f : Nat → S → S} {g : Nat → T → T} (R : Nat → S → T → Prop) : ∀ n k s t, R k s t → (∀ j s t, k ≤ j → j < k + n → R j s t → R (j + 1) (f j s) (g j t)) → R (k + n) (itr f n k s) (itr g n k t)
  | 0, _, _, _, h, _ => h
  | n + 1, k, s, t, h, st => by
    have := itr_rel R n (k + 1) (f k s) (g k t) (st k s t (Nat.le_refl k) (by omega) h) (fun j s t h1 h2 => st j s t (by omega) (by omega))
    rw [show k + (n + 1) = k + 1 + n from by omega]
    exact this
theorem rng_itr {S : Type} (f : Nat → S → S) : ∀ n s, rngF f n s = itr f n 0 s
  | 0, _ => rfl
  | n + 1, s => by
    rw [itr_last, Nat.zero_add, ← rng_itr f n s]
    rfl
/-- what the solvers start from -/
def SV (C G : HP) (b r c : Nat) : Prop := gS (G 125) r c ∧ iS (G 125 2) = true ∧ C b 2 = cMk r (Int32.ofNat c) ∧ C b 3 = G 125 2 ∧ SR r c (C b 4 ^^^ C b 6) (G 125 5 ^^^ G 125 7) ∧ b < 117
def dD (G : HP) (k : Nat) : Bool := gb (G 125 5 ^^^ G 125 7) k
theorem cm_ck : ((List.range 6).all fun r => (List.range 6).all fun c => (List.range 32).all fun j => decide (gb (cMk r (Int32.ofNat c)) j = isCl r c j)) = true := by decide +kernel
theorem cm_gb {r c j : Nat} (hr : r ≤ 5) (hc : c ≤ 5) (hj : j < 32) : gb (cMk r (Int32.ofNat c)) j = isCl r c j :=
  of_decide_eq_true (List.all_eq_true.mp (List.all_eq_true.mp (List.all_eq_true.mp cm_ck r (List.mem_range.mpr (by omega))) c (List.mem_range.mpr (by omega))) j (List.mem_range.mpr hj))
theorem gR_map {f : Nat → RW} {n i : Nat} (hi : i < n) : gR ((List.range n).map f) i = f i := by
  unfold gR
  rw [List.getD_eq_getElem?_getD, List.getElem?_map, List.getElem?_range hi]
  rfl
theorem emT_sM {C G : HP} {b r c : Nat} (h : SV C G b r c) : sM (dD G) (r * c) (emT G r c) (endM (G 125 2) r c) := by
  obtain ⟨hs, hp, _, _, _, _⟩ := h
  have h25 := gS_n hs
  unfold emT endM
  rw [rng_itr]
  refine itr_rel (fun _ s t => sM (dD G) (r * c) s t) (r * c) 0 _ _ ?_ (fun j s t _ hj h => sM_step h25.2 (by omega) h)
  refine ⟨rfl, ?_, Nat.zero_le _, fun i hi => ?_, fun i hi => absurd hi (Nat.not_lt_zero i), fun j hj => ?_⟩
  · show ((List.range (r * c)).map _).length = r * c
    rw [List.length_map, List.length_range]
  · show aM (dD G) (gR (rowsM (G 125 2) r c) i) (wrR G (r * c) r c i)
    unfold rowsM wrR wrF
    rw [gR_map hi, if_pos hi]
    intro j hj
    unfold weM
    rw [gb_or, shr1 (by omega), show ((25 : Int32) &&& 31) = Int32.ofNat 25 &&& 31 from rfl, gb_shl (by decide)]
    have e : gb (arM (G 125 2) r c i) j = (arN (G 125 2) r c i).testBit j := rfl
    have hd : gb (G 125 5 ^^^ G 125 7) i = dD G i := rfl
    rw [hd]
    by_cases a : j < 25
    · rw [if_pos a, ← e, decide_eq_true hj, decide_eq_false (by omega)]
      simp
    · have hi2 : gb (arM (G 125 2) r c i) j = false := ar_hi h25.2 j (by omega)
      rw [if_neg a, hi2, decide_eq_true hj, decide_eq_true (by omega), Bool.true_and, Bool.true_and, Bool.false_or]
      by_cases b25 : j = 25
      · subst b25
        rw [if_pos rfl, par_1 (by omega), Nat.sub_self]
        cases dD G i
        · exact gb_0
        · exact gb_1
      · rw [if_neg b25]
        cases dD G i
        · exact gb_0
        · rw [if_pos rfl, gb_1]; exact decide_eq_false (by omega)
  · show gb 0 j = (0 : Nat).testBit j
    rw [gb_0, Nat.zero_testBit]
theorem elS_sK {C G : HP} {b r c : Nat} (h : SV C G b r c) : sK r c (dD G) (elS C b) (endC (G 125 2) r c) := by
  obtain ⟨hs, hp, hm, hq, hd, hb⟩ := h
  have h25 := gS_n hs
  have hr := hs.2.2.2.1
  have hc := hs.2.2.2.2.2
  have R30 : gb 1073741824 = fun i => decide (i = 30) := by
    funext i
    rw [show (1073741824 : Int32) = 1 <<< (Int32.ofNat 30 &&& 31) from by decide, gb_1k (by decide)]
  unfold elS endC
  rw [rng_itr]
  have key := itr_rel (f := elF b) (g := fun j t => if isCl r c j = true then gs (kk c j) t else t) (fun _ s t => s.2.2 b = C b ∧ sK r c (dD G) s t) 30 0 (0, 0, el0 C b) (rowsC (G 125 2) r c, [], 0) ?_ (fun j s t _ hj h => ⟨(elF_o (.inl hb)).trans h.1, sC_step hr hc (by omega) (by
    rw [h.1, hm, ct_gb (by omega), cm_gb hr hc (by omega)]) h.2⟩)
  · exact key.2
  refine ⟨?_, rfl, ?_, Nat.zero_le _, fun i hi => ?_, fun i hi => absurd hi (Nat.not_lt_zero i), fun j hj => ?_⟩
  · show el0 C b b = C b
    unfold el0
    rw [us_ne (by omega), us_ne (by omega)]
  · show ((List.range 30).map _).length = 30
    rw [List.length_map, List.length_range]
  · show aC r c (dD G) (gR (rowsC (G 125 2) r c) i) (el0 C b 118 i)
    have e0 : el0 C b 118 i = weQ C b i := by
      show wrF 30 (weQ C b) (C 118) i = weQ C b i
      unfold wrF
      rw [if_pos hi]
    rw [e0]
    unfold rowsC weQ
    rw [gR_map hi, hm, hq, ct_gb (by omega), ct_gb (by omega), cm_gb hr hc (by omega)]
    intro j hj
    rw [gb_or]
    by_cases cl : isCl r c i = true
    · obtain ⟨k1, k2⟩ := nn_kk hr hc cl
      have sr := SR_ar (p := G 125 2) hr hc hp k1
      rw [k2] at sr
      have dd : gb (C b 4 ^^^ C b 6) i = dD G (kk c i) := by
        rw [hd.1 i (by omega)]
        have q := of_decide_eq_true cl
        rw [decide_eq_true q, Bool.true_and]
        rfl
      rw [if_pos cl, if_pos cl, dd, sr.1 j hj]
      have e : gb (arM (G 125 2) r c (kk c i)) (j / 6 * c + j % 6) = (arN (G 125 2) r c (kk c i)).testBit (kk c j) := rfl
      rw [e]
      by_cases a : j < 30
      · rw [if_pos a]
        have z : gb (if dD G (kk c i) = true then (1073741824 : Int32) else 0) j = false := by
          cases dD G (kk c i)
          · exact gb_0
          · rw [if_pos rfl, R30]; exact decide_eq_false (by omega)
        rw [z, Bool.or_false]
        rfl
      · have z : decide (j % 6 < c ∧ j / 6 < r) = false := decide_eq_false (by omega)
        rw [if_neg a, z, Bool.false_and, Bool.false_or]
        by_cases b30 : j = 30
        · rw [if_pos b30, par_1 (by omega)]
          cases dD G (kk c i)
          · exact gb_0
          · rw [if_pos rfl, R30]; exact decide_eq_true b30
        · rw [if_neg b30]
          cases dD G (kk c i)
          · exact gb_0
          · rw [if_pos rfl, R30]; exact decide_eq_false b30
    · have dd : gb (C b 4 ^^^ C b 6) i = false := by
        rw [hd.1 i (by omega)]
        have q := of_decide_eq_false (Bool.eq_false_iff.mpr cl)
        rw [decide_eq_false q, Bool.false_and]
      rw [if_neg cl, if_neg cl, dd]
      simp only [Bool.false_eq_true, if_false, gb_0, Bool.or_false]
      by_cases a : j < 30
      · rw [if_pos a, Nat.zero_testBit, Bool.and_false]
      · rw [if_neg a]
        by_cases b30 : j = 30
        · rw [if_pos b30, par_0]
        · rw [if_neg b30]
  · show gb 0 j = (isCl r c j && (0 : Nat).testBit (kk c j))
    rw [gb_0, Nat.zero_testBit, Bool.and_false]
