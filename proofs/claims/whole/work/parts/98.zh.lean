/-! the reach of a press is the same on both sides -/
def phi (r c : Nat) (y : Int32) : Int32 := itr (fun k x => if gb y k = true then x ||| 1 <<< (Int32.ofNat (nn c k) &&& 31) else x) (r * c) 0 0
theorem phi_itr {r c : Nat} {y : Int32} (hr : r ≤ 5) (hc : c ≤ 5) : ∀ n, n ≤ r * c → ∀ j, gb (itr (fun k x => if gb y k = true then x ||| 1 <<< (Int32.ofNat (nn c k) &&& 31) else x) n 0 0) j = true ↔ ∃ k, k < n ∧ nn c k = j ∧ gb y k = true
  | 0, _, j => by
    constructor
    · intro h
      rw [show itr (fun k x => if gb y k = true then x ||| 1 <<< (Int32.ofNat (nn c k) &&& 31) else x) 0 0 (0 : Int32) = 0 from rfl, gb_0] at h
      exact Bool.noConfusion h
    · rintro ⟨k, hk, _⟩
      exact absurd hk (Nat.not_lt_zero k)
  | n + 1, hn, j => by
    have ih := phi_itr (y := y) hr hc n (by omega) j
    obtain ⟨_, _, _, _, _, a6⟩ := nn_1 hr hc (show n < r * c by omega)
    rw [itr_last, Nat.zero_add]
    generalize itr (fun k x => if gb y k = true then x ||| 1 <<< (Int32.ofNat (nn c k) &&& 31) else x) n 0 0 = X at *
    by_cases g : gb y n = true
    · rw [if_pos g, gb_or, gb_1k (by omega), Bool.or_eq_true, decide_eq_true_eq, ih]
      constructor
      · rintro (⟨k, k1, k2, k3⟩ | e)
        · exact ⟨k, by omega, k2, k3⟩
        · exact ⟨n, by omega, e.symm, g⟩
      · rintro ⟨k, k1, k2, k3⟩
        by_cases e : k = n
        · right; rw [← k2, e]
        · left; exact ⟨k, by omega, k2, k3⟩
    · rw [if_neg g, ih]
      constructor
      · rintro ⟨k, k1, k2, k3⟩
        exact ⟨k, by omega, k2, k3⟩
      · rintro ⟨k, k1, k2, k3⟩
        refine ⟨k, ?_, k2, k3⟩
        by_cases e : k = n
        · subst e; exact absurd k3 g
        · omega
theorem phi_SR {r c : Nat} {y : Int32} (hr : r ≤ 5) (hc : c ≤ 5) (hy : ∀ k, r * c ≤ k → gb y k = false) : SR r c (phi r c y) y := by
  refine ⟨fun j hj => ?_, hy⟩
  have h := phi_itr (y := y) hr hc (r * c) (Nat.le_refl _) j
  by_cases q : j % 6 < c ∧ j / 6 < r
  · rw [decide_eq_true q, Bool.true_and]
    have hk := cell_lt q.2 q.1
    have hn : nn c (j / 6 * c + j % 6) = j := by
      have d1 : (j / 6 * c + j % 6) / c = j / 6 := by rw [Nat.mul_comm, Nat.mul_add_div (by omega), Nat.div_eq_of_lt q.1, Nat.add_zero]
      have d2 : (j / 6 * c + j % 6) % c = j % 6 := by rw [Nat.mul_comm, Nat.mul_add_mod, Nat.mod_eq_of_lt q.1]
      unfold nn
      rw [d1, d2]
      omega
    apply Bool.eq_iff_iff.mpr
    refine h.trans ⟨?_, fun g => ⟨_, hk, hn, g⟩⟩
    rintro ⟨k, k1, k2, k3⟩
    obtain ⟨a1, a2, a3, a4, a5, a6⟩ := nn_1 hr hc k1
    rw [← k2, a1, a2, a5]
    exact k3
  · rw [decide_eq_false q, Bool.false_and]
    apply Bool.eq_false_iff.mpr
    intro g
    obtain ⟨k, k1, k2, k3⟩ := h.mp g
    obtain ⟨a1, a2, a3, a4, a5, a6⟩ := nn_1 hr hc k1
    apply q
    rw [← k2, a1, a2]
    exact ⟨a3, a4⟩
theorem ar_hi {p : Int32} {r c n : Nat} (hrc : r * c ≤ 25) : ∀ k, r * c ≤ k → gb (arM p r c n) k = false := by
  have h : ∀ m, m ≤ r * c → ∀ k, r * c ≤ k → gb (itr (fun k s => if rcM p (Int32.ofNat (k / c) - Int32.ofNat (n / c)) (Int32.ofNat (k % c) - Int32.ofNat (n % c)) = true then s ||| (1 <<< (Int32.ofNat k &&& 31)) else s) m 0 0) k = false := by
    intro m
    induction m with
    | zero => intro _ k _; exact gb_0
    | succ m ih =>
      intro hm k hk
      rw [itr_last, Nat.zero_add]
      have i := ih (by omega) k hk
      cases rcM p (Int32.ofNat (m / c) - Int32.ofNat (n / c)) (Int32.ofNat (m % c) - Int32.ofNat (n % c))
      · rw [if_neg (by simp)]; exact i
      · rw [if_pos rfl, gb_or, i, gb_1k (by omega), Bool.false_or]
        exact decide_eq_false (by omega)
  exact h (r * c) (Nat.le_refl _)
def arC (r c : Nat) (p : Int32) : Bool := (List.range (r * c)).all fun k => decide (rFrom (cMk r (Int32.ofNat c)) p (Int32.ofNat (nn c k)) = phi r c (arM p r c k))
theorem ar_ck : ((List.range 6).all fun r => (List.range 6).all fun c => arC r c 43 && arC r c 120 && arC r c 111 && arC r c 115) = true := by decide +kernel
theorem SR_ar {r c k : Nat} {p : Int32} (hr : r ≤ 5) (hc : c ≤ 5) (hp : iS p = true) (hk : k < r * c) : SR r c (rFrom (cMk r (Int32.ofNat c)) p (Int32.ofNat (nn c k))) (arM p r c k) := by
  have h1 := List.all_eq_true.mp ar_ck r (List.mem_range.mpr (by omega))
  have h2 := List.all_eq_true.mp h1 c (List.mem_range.mpr (by omega))
  simp only [Bool.and_eq_true] at h2
  obtain ⟨⟨⟨q1, q2⟩, q3⟩, q4⟩ := h2
  have h3 : arC r c p = true := by
    unfold iS at hp
    simp only [Bool.or_eq_true, decide_eq_true_eq] at hp
    rcases hp with ((e | e) | e) | e <;> subst e
    · exact q1
    · exact q2
    · exact q3
    · exact q4
  have h4 := of_decide_eq_true (List.all_eq_true.mp h3 k (List.mem_range.mpr hk))
  rw [h4]
  exact phi_SR hr hc (ar_hi (Nat.mul_le_mul hr hc))
