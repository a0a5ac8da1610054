/-! parities and best solutions -/
theorem q_ck2 : ((List.range 6).all fun r => (List.range 6).all fun c => [(43 : Int32), 120, 111, 115].all fun p => decide (cbn (fun k => (endM p r c).2.2.testBit k) (r * c) ≤ 10)) = true := by decide +kernel
/-- what a loop that gathers has gathered -/
theorem gth {P : Nat → Bool} {v : Nat → Int32} {g : Nat → Nat × (Nat → Int32) → Nat × (Nat → Int32)} (hg : ∀ k s, g k s = if P k = true then (s.1 + 1, upd s.2 s.1 (v k)) else s) {F : Nat → Int32} : ∀ n, (itr g n 0 (0, F)).1 = cbn P n ∧ ∀ (Q : Int32 → Prop), (∀ i, i < (itr g n 0 (0, F)).1 → Q ((itr g n 0 (0, F)).2 i)) ↔ ∀ k, k < n → P k = true → Q (v k)
  | 0 => ⟨rfl, fun Q => ⟨fun _ k hk => absurd hk (Nat.not_lt_zero k), fun _ i hi => absurd hi (Nat.not_lt_zero i)⟩⟩
  | n + 1 => by
    obtain ⟨i1, i2⟩ := gth (P := P) (v := v) (g := g) hg (F := F) n
    rw [itr_last, Nat.zero_add, hg]
    generalize itr g n 0 (0, F) = s at *
    by_cases p : P n = true
    · rw [if_pos p]
      refine ⟨?_, fun Q => ?_⟩
      · show s.1 + 1 = cbn P n + (P n).toNat
        rw [i1, p]; rfl
      · constructor
        · intro h k hk hp
          by_cases e : k = n
          · have h2 : Q (upd s.2 s.1 (v n) s.1) := h s.1 (Nat.lt_succ_self _)
            unfold upd at h2
            rw [if_pos rfl] at h2
            rw [e]; exact h2
          · exact (i2 Q).mp (fun i hi => by
              have h2 : Q (upd s.2 s.1 (v n) i) := h i (Nat.lt_succ_of_lt hi)
              unfold upd at h2
              rw [if_neg (by omega)] at h2
              exact h2) k (by omega) hp
        · intro h i hi
          have hi : i < s.1 + 1 := hi
          show Q (upd s.2 s.1 (v n) i)
          unfold upd
          by_cases e : i = s.1
          · rw [if_pos e]; exact h n (Nat.lt_succ_self n) p
          · rw [if_neg e]
            exact (i2 Q).mpr (fun k hk hp => h k (by omega) hp) i (by omega)
    · rw [if_neg p]
      refine ⟨?_, fun Q => ?_⟩
      · show s.1 = cbn P n + (P n).toNat
        rw [i1, Bool.eq_false_iff.mpr p]; rfl
      · rw [i2 Q]
        constructor
        · intro h k hk hp
          by_cases e : k = n
          · rw [e] at hp; exact absurd hp p
          · exact h k (by omega) hp
        · intro h k hk hp
          exact h k (by omega) hp
def pI (D : Nat → Bool) (y : Int32) : Bool := pr (fun k => gb y k && D k) 25
theorem pI_xor {D : Nat → Bool} {x y : Int32} : pI D (x ^^^ y) = (pI D x != pI D y) := by
  unfold pI
  rw [← pr_xor]
  apply pr_cg
  intro j _
  rw [gb_xor]
  cases gb x j <;> cases gb y j <;> cases D j <;> rfl
theorem pI_0 {D : Nat → Bool} : pI D 0 = false := by
  unfold pI
  refine Eq.trans (pr_cg 25 (fun j _ => ?_)) (pr_0 25)
  rw [gb_0]; rfl
theorem qs_tb {rows : List RW} {cc : Nat} : ∀ (l : List Nat) (i j : Nat), (qsA rows l i cc).testBit j = true ↔ ∃ m, m < l.length ∧ l.getD m 0 = j ∧ (gR rows (i + m)).1.testBit cc = true
  | [], i, j => by
    constructor
    · intro h
      rw [show qsA rows [] i cc = 0 from rfl, Nat.zero_testBit] at h
      exact Bool.noConfusion h
    · rintro ⟨m, hm, _⟩; exact absurd hm (Nat.not_lt_zero m)
  | q :: l, i, j => by
    unfold qsA
    rw [Nat.testBit_or, Bool.or_eq_true, qs_tb l (i + 1) j]
    constructor
    · rintro (h | ⟨m, m1, m2, m3⟩)
      · by_cases g : (gR rows i).1.testBit cc = true
        · rw [if_pos g, tb_1, decide_eq_true_eq] at h
          exact ⟨0, by simp, h.symm, g⟩
        · rw [if_neg g, Nat.zero_testBit] at h; exact Bool.noConfusion h
      · exact ⟨m + 1, by simp only [List.length_cons]; omega, m2, by rw [show i + (m + 1) = i + 1 + m from by omega]; exact m3⟩
    · rintro ⟨m, m1, m2, m3⟩
      match m, m1, m2, m3 with
      | 0, _, m2, m3 => left; rw [Nat.add_zero] at m3; rw [if_pos m3, tb_1, decide_eq_true_eq]; exact m2.symm
      | m + 1, m1, m2, m3 =>
        right
        exact ⟨m, by simp only [List.length_cons] at m1; omega, m2, by rw [show i + 1 + m = i + (m + 1) from by omega]; exact m3⟩
/-- a quiet set of the reference, by its mask -/
theorem lq_tb {C G : HP} {b r c k j : Nat} (h : SV C G b r c) (hk : k < r * c) (hj : j < 25) : gb (lqM (emT G r c).2.2.1 (emT G r c).2.2.2 (emT G r c).2.1 k) j = (1 <<< k ||| qsA (endM (G 125 2) r c).1 (endM (G 125 2) r c).2.1 0 k).testBit j := by
  have h25 := gS_n h.1
  obtain ⟨m1, m2, m3, m4, m5, m6⟩ := emT_sM h
  have key : ∀ n, n ≤ (emT G r c).2.1 → (gb (itr (fun i s => if hs ((emT G r c).2.2.1 i) (Int32.ofNat k) = true then s ||| 1 <<< ((emT G r c).2.2.2 i &&& 31) else s) n 0 (1 <<< (Int32.ofNat k &&& 31))) j = true ↔ j = k ∨ ∃ m, m < n ∧ (endM (G 125 2) r c).2.1.getD m 0 = j ∧ (gR (endM (G 125 2) r c).1 m).1.testBit k = true) := by
    intro n
    induction n with
    | zero =>
      intro _
      show gb (1 <<< (Int32.ofNat k &&& 31)) j = true ↔ _
      rw [gb_1k (by omega), decide_eq_true_eq]
      constructor
      · intro e; exact .inl e
      · rintro (e | ⟨m, hm, _⟩)
        · exact e
        · exact absurd hm (Nat.not_lt_zero m)
    | succ n ih =>
      intro hn
      rw [itr_last, Nat.zero_add]
      have i := ih (by omega)
      generalize itr (fun i s => if hs ((emT G r c).2.2.1 i) (Int32.ofNat k) = true then s ||| 1 <<< ((emT G r c).2.2.2 i &&& 31) else s) n 0 (1 <<< (Int32.ofNat k &&& 31)) = X at *
      have e1 : hs ((emT G r c).2.2.1 n) (Int32.ofNat k) = (gR (endM (G 125 2) r c).1 n).1.testBit k := by
        rw [hs_gb (by omega), m4 n (by omega) k (by omega), if_pos (by omega)]
      rw [e1]
      by_cases t : (gR (endM (G 125 2) r c).1 n).1.testBit k = true
      · have pl := piv_i (p := G 125 2) (r := r) (c := c) (i := n) (by omega)
        rw [if_pos t, gb_or, m5 n (by omega), gb_1k (by omega), Bool.or_eq_true, decide_eq_true_eq, i]
        constructor
        · rintro ((e | ⟨m, a1, a2, a3⟩) | e)
          · exact .inl e
          · exact .inr ⟨m, by omega, a2, a3⟩
          · exact .inr ⟨n, by omega, e.symm, t⟩
        · rintro (e | ⟨m, a1, a2, a3⟩)
          · exact .inl (.inl e)
          · by_cases e : m = n
            · right; rw [← a2, e]
            · left; exact .inr ⟨m, by omega, a2, a3⟩
      · rw [if_neg t, i]
        constructor
        · rintro (e | ⟨m, a1, a2, a3⟩)
          · exact .inl e
          · exact .inr ⟨m, by omega, a2, a3⟩
        · rintro (e | ⟨m, a1, a2, a3⟩)
          · exact .inl e
          · refine .inr ⟨m, ?_, a2, a3⟩
            by_cases e : m = n
            · subst e; exact absurd a3 t
            · omega
  apply Bool.eq_iff_iff.mpr
  rw [Nat.testBit_or, Bool.or_eq_true, tb_1, decide_eq_true_eq, qs_tb]
  have k2 := key (emT G r c).2.1 (Nat.le_refl _)
  rw [m1] at k2
  simp only [Nat.zero_add]
  refine Iff.trans ?_ k2
  unfold lqM
  rw [m1]
theorem quT_all {C G : HP} {b r c : Nat} (h : SV C G b r c) : (∀ i, i < (quT G r c).1 → pI (dD G) ((quT G r c).2 i) = false) ↔ ∀ v ∈ qls (r * c) (endM (G 125 2) r c), par (dD G) v = false := by
  have h25 := gS_n h.1
  obtain ⟨m1, m2, m3, m4, m5, m6⟩ := emT_sM h
  have g := (gth (P := fun k => hs (emT G r c).1 (Int32.ofNat k)) (v := lqM (emT G r c).2.2.1 (emT G r c).2.2.2 (emT G r c).2.1) (g := qlF (emT G r c).2.2.1 (emT G r c).2.2.2 (emT G r c).2.1 (emT G r c).1) (fun k s => rfl) (F := G 133) (r * c)).2 (fun y => pI (dD G) y = false)
  refine g.trans ?_
  have e : ∀ k, k < r * c → pI (dD G) (lqM (emT G r c).2.2.1 (emT G r c).2.2.2 (emT G r c).2.1 k) = par (dD G) (1 <<< k ||| qsA (endM (G 125 2) r c).1 (endM (G 125 2) r c).2.1 0 k) := by
    intro k hk
    unfold pI par
    apply pr_cg
    intro j hj
    rw [lq_tb h hk hj]
  have f : ∀ k, k < r * c → hs (emT G r c).1 (Int32.ofNat k) = (endM (G 125 2) r c).2.2.testBit k := by
    intro k hk
    rw [hs_gb (by omega), m6 k (by omega)]
  unfold qls
  constructor
  · intro q v hv
    obtain ⟨k, k1, k2⟩ := List.mem_map.mp hv
    obtain ⟨k3, k4⟩ := List.mem_filter.mp k1
    have hk := List.mem_range.mp k3
    rw [← k2, ← e k hk]
    exact q k hk ((f k hk).trans k4)
  · intro q k hk hp
    rw [e k hk]
    exact q _ (List.mem_map.mpr ⟨k, List.mem_filter.mpr ⟨List.mem_range.mpr hk, (f k hk).symm.trans hp⟩, rfl⟩)
theorem quT_10 {C G : HP} {b r c : Nat} (h : SV C G b r c) : (quT G r c).1 ≤ 10 := by
  have hg := h.1
  have hp := h.2.1
  have h25 := gS_n hg
  obtain ⟨m1, m2, m3, m4, m5, m6⟩ := emT_sM h
  have g := (gth (P := fun k => hs (emT G r c).1 (Int32.ofNat k)) (v := lqM (emT G r c).2.2.1 (emT G r c).2.2.2 (emT G r c).2.1) (g := qlF (emT G r c).2.2.1 (emT G r c).2.2.2 (emT G r c).2.1 (emT G r c).1) (fun k s => rfl) (F := G 133) (r * c)).1
  have g : (quT G r c).1 = _ := g
  rw [g, cb_cg (g := fun k => (endM (G 125 2) r c).2.2.testBit k) (r * c) (fun k hk => by rw [hs_gb (by omega), m6 k (by omega)])]
  have q := List.all_eq_true.mp (List.all_eq_true.mp q_ck2 r (List.mem_range.mpr (by have := hg.2.2.2.1; omega))) c (List.mem_range.mpr (by have := hg.2.2.2.2.2; omega))
  have hm : G 125 2 ∈ [(43 : Int32), 120, 111, 115] := by
    unfold iS at hp
    simp only [Bool.or_eq_true, decide_eq_true_eq] at hp
    simp only [List.mem_cons, List.not_mem_nil, or_false]
    rcases hp with ((e | e) | e) | e
    · exact .inl e
    · exact .inr (.inl e)
    · exact .inr (.inr (.inl e))
    · exact .inr (.inr (.inr e))
  exact of_decide_eq_true (List.all_eq_true.mp q _ hm)
theorem ch_eq {F : Nat → Int32} {q k : Nat} (hq : q ≤ 10) (h0 : 0 < k) (hk : k < 2 ^ q) : chI F q (Int32.ofNat k) = F (tnM q k) ∧ tnM q k < q := by
  have h10 : 2 ^ q ≤ 1024 := (Nat.pow_le_pow_right (n := 2) (by decide) hq : 2 ^ q ≤ 2 ^ 10)
  have t := List.all_eq_true.mp (List.all_eq_true.mp tn_ck k (List.mem_range.mpr (by omega))) q (List.mem_range.mpr (by omega))
  simp only [Bool.or_eq_true, decide_eq_true_eq] at t
  have t2 := t.resolve_left (by omega)
  refine ⟨?_, t2.2⟩
  unfold chI
  rw [t2.1, if_pos (by rw [io_lt (by omega) (by omega)]; exact t2.2), io_nat (by omega)]
/-- the best solutions agree -/
theorem bs_rel {C G : HP} {b r c : Nat} (h : SV C G b r c) : (can (G 125 2) r c (dD G) → SR r c (bsA C b) (beM G r c) ∧ ¬ beM G r c < 0 ∧ ¬ bsA C b = -1) ∧ (¬ can (G 125 2) r c (dD G) → bsA C b = -1 ∧ beM G r c = -1) := by
  have hg := h.1
  have hr := hg.2.2.2.1
  have hc := hg.2.2.2.2.2
  have h25 := gS_n hg
  obtain ⟨qe, qr⟩ := qu_rel h
  have q10 := quT_10 h
  have fc := fd_can h
  have cs := cnS_can h
  constructor
  · intro hz
    obtain ⟨s1, s2⟩ := fc.1 hz
    have key := itr_rel (f := bsF (elC C b 120) (quT G r c).1) (g := beF (quT G r c).2 (quT G r c).1) (fun k s t => 0 < k ∧ SR r c s.1 t.1 ∧ SR r c s.2 t.2) (2 ^ (quT G r c).1 - 1) 1 (swI (elC C b 118) (elC C b 119) (elS C b).2.1 1073741824, swI (elC C b 118) (elC C b 119) (elS C b).2.1 1073741824) (fdT G r c, fdT G r c) ⟨by decide, s1, s1⟩ (fun k s t h1 h2 hst => by
      have hp := pw_le (q := (quT G r c).1) (by omega)
      obtain ⟨c1, c2⟩ := ch_eq (F := elC C b 120) q10 hst.1 (show k < 2 ^ (quT G r c).1 by omega)
      unfold bsF beF
      rw [c1]
      have n1 := SR_xor hst.2.1 (qr _ c2)
      refine ⟨Nat.succ_pos k, n1, ?_⟩
      rcases SR_bt hr hc n1 hst.2.2 with ⟨e1, e2⟩ | ⟨e1, e2⟩
      · show SR r c (if btI _ _ = true then _ else _) (if btM _ _ = true then _ else _)
        rw [e1, e2]; exact hst.2.2
      · show SR r c (if btI _ _ = true then _ else _) (if btM _ _ = true then _ else _)
        rw [e1, e2]; exact n1)
    have sr : SR r c (bsA C b) (beM G r c) := by
      unfold bsA beM bsI
      rw [if_pos (cs.mpr hz), if_neg s2, qe]
      exact key.2.2
    refine ⟨sr, nn31 (sr.2 31 (by omega)), fun e => ?_⟩
    have := sr.1 31 (by decide)
    rw [e, decide_eq_false (by omega), Bool.false_and] at this
    exact absurd this (by decide)
  · intro hz
    unfold bsA beM
    rw [if_neg (fun e => hz (cs.mp e)), if_pos (by rw [fc.2 hz]; decide)]
    exact ⟨rfl, rfl⟩
