/-! what the commands leave as it was; places and their bounds on both sides -/
theorem itr_inv {S : Type} {f : Nat → S → S} {P : S → Prop} (h : ∀ k s, P s → P (f k s)) : ∀ n k s, P s → P (itr f n k s)
  | 0, _, _, p => p
  | n + 1, k, s, p => itr_inv h n (k + 1) (f k s) (h k s p)
theorem le1 {x : Int32} {n : Nat} (hn : n ≤ 1000) : (x ≤ Int32.ofNat n - 1) = (x < Int32.ofNat n) := by
  apply propext
  rw [Int32.le_iff_toInt_le, Int32.lt_iff_toInt_lt, Int32.toInt_ofNat_of_lt (n := n) (by omega)]
  cases n with
  | zero =>
    rw [show (Int32.ofNat 0 - 1).toInt = -1 from rfl]
    omega
  | succ n =>
    rw [io_sub1, Int32.toInt_ofNat_of_lt (n := n) (by omega)]
    omega
theorem iN_iR {x : Int32} {n : Nat} (hn : n ≤ 1000) : iN x 0 (Int32.ofNat n - 1) = iR x (Int32.ofNat n) := by
  unfold iN iR
  simp only [le1 hn]
theorem iR_nat {x n : Nat} (hx : x < 1000) (hn : n ≤ 1000) : iR (Int32.ofNat x) (Int32.ofNat n) = decide (x < n) := by
  unfold iR
  rw [decide_eq_decide, io_lt (by omega) (by omega), show (0 : Int32) = Int32.ofNat 0 from rfl, io_le (by decide) (by omega)]
  simp
theorem hC_iC {f g : Nat → Int32} {r c : Nat} {x y : Int32} (h : gS g r c) (h0 : f 0 = Int32.ofNat r) (h1 : f 1 = Int32.ofNat c) : hC f x y = iC g x y := by
  obtain ⟨g0, g1, a1, a2, a3, a4⟩ := h
  unfold hC iC
  rw [g0, g1, iN_iR (by omega), iN_iR (by omega), h0, h1]
  unfold iR
  rw [Bool.decide_and]
theorem iC_nat {g : Nat → Int32} {r c x y : Nat} (h : gS g r c) (hx : x < 1000) (hy : y < 1000) : iC g (Int32.ofNat x) (Int32.ofNat y) = (decide (x < r) && decide (y < c)) := by
  obtain ⟨g0, g1, a1, a2, a3, a4⟩ := h
  unfold iC
  rw [g0, g1, iN_iR (by omega), iN_iR (by omega), iR_nat hx (by omega), iR_nat hy (by omega)]
theorem nn_cell {c rr cc : Nat} (h2 : cc < c) : nn c (rr * c + cc) = rr * 6 + cc := by
  unfold nn
  rw [Nat.mul_comm rr c, Nat.mul_add_div (by omega), Nat.mul_add_mod, Nat.div_eq_of_lt h2, Nat.mod_eq_of_lt h2, Nat.add_zero]
/-- the system's cells that a command can change: 60..64, 117..120 -/
def FRK (C C' : HP) : Prop := ∀ i, i < 60 ∨ (64 < i ∧ i < 117) ∨ 120 < i → C' i = C i
theorem FRK_r {C : HP} : FRK C C := fun _ _ => rfl
theorem FRK_t {C C' C'' : HP} (h : FRK C C') (h' : FRK C' C'') : FRK C C'' := fun i hi => (h' i hi).trans (h i hi)
theorem FRK_us {C C' : HP} {a : Nat} {f : Nat → Int32} (ha : (60 ≤ a ∧ a ≤ 64) ∨ (117 ≤ a ∧ a ≤ 120)) (h : FRK C C') : FRK C (us C' a f) := fun i hi => (us_ne (by omega)).trans (h i hi)
theorem FRK_pC {C : HP} {n : Int32} : FRK C (pC C 60 n) := fun i hi => pC_o (by omega) (by omega)
theorem FRK_bgR {C : HP} : FRK C (bgR C 60) := FRK_us (by omega) (FRK_us (by omega) FRK_r)
theorem FRK_cLt {C : HP} {n t : Int32} : FRK C (cLt C 60 n t) := by
  unfold cLt
  by_cases q : bI (ct (C 60 4) n) = t
  · rw [if_pos q]; exact FRK_r
  · rw [if_neg q]; exact FRK_us (by omega) FRK_r
theorem FRK_chP {C : HP} {p : Int32} : FRK C (chP C 60 p) := FRK_t (FRK_us (by omega) FRK_r) FRK_bgR
theorem FRK_cSz {C : HP} {r : Nat} {c : Int32} : FRK C (cSz C 60 r c) := FRK_t (FRK_us (by omega) (FRK_us (by omega) FRK_r)) FRK_bgR
theorem FRK_puW {C : HP} {n : Nat} {c d : Int32} : FRK C (puW C 60 n c d) := FRK_us (by omega) (FRK_us (by omega) (FRK_us (by omega) FRK_r))
theorem FRK_elC {C : HP} : FRK C (elC C 60) := fun i hi => elC_o (by omega)
theorem FRK_pA {C : HP} {s : Int32} : FRK C (pA C 60 s) := by
  unfold pA
  refine itr_inv (P := fun C' => FRK C C') (fun k s' h => ?_) 30 0 C FRK_r
  by_cases q : ct s (Int32.ofNat k) = true
  · rw [if_pos q]; exact FRK_t h FRK_pC
  · rw [if_neg q]; exact h
theorem FRK_chA {C : HP} {r c : Nat} : FRK C (chA C 60 r c).2 := by
  unfold chA
  refine itr_inv (f := chR 60 c) (P := fun s => FRK C s.2) (fun k s h => ?_) (r - 1) 1 (0, C) FRK_r
  unfold chR
  refine itr_inv (f := chF 60 k) (P := fun s => FRK C s.2) (fun j s h => ?_) c 0 s h
  unfold chF
  by_cases q : ct (s.2 60 4 ^^^ s.2 60 6) (Int32.ofNat ((k - 1) * 6 + j)) = true
  · rw [if_pos q]; exact FRK_t h FRK_pC
  · rw [if_neg q]; exact h
theorem FRK_lwE {C : HP} {n : Nat} : FRK C (lwE C 60 n) := by
  unfold lwE
  refine FRK_us (by omega) ?_
  unfold lwA
  refine itr_inv (f := lwF 60 n) (P := fun s => FRK C s.2) (fun k s h => ?_) n 0 (0, C) FRK_r
  unfold lwF
  by_cases q : (hN (s.2 60) (s.2 (60 + 3) k + wyI (s.2 (60 + 4) k)) && decide (nIn (s.2 (60 + 3)) n (s.2 (60 + 3) k + wyI (s.2 (60 + 4) k)) = -1)) = true
  · rw [if_pos q]; exact FRK_t (FRK_us (by omega) h) FRK_pC
  · rw [if_neg q]; exact FRK_us (by omega) h
theorem FRK_tkW {C : HP} {k n : Nat} : FRK C (tkW C 60 k n) := by
  unfold tkW
  refine FRK_us (by omega) ?_
  exact itr_inv (P := fun s => FRK C s) (fun k s h => FRK_us (by omega) (FRK_us (by omega) h)) _ _ C FRK_r
/-- the reference's cells that a command can change -/
def FRM (G G' : HP) : Prop := (∀ i, ¬ i = 124 → ¬ i = 125 → ¬ i = 131 → ¬ i = 132 → ¬ i = 133 → G' i = G i) ∧ ∀ j, ¬ j = 7 → ¬ j = 17 → ¬ j = 18 → ¬ j = 19 → G' 124 j = G 124 j
theorem FRM_t {G G' G'' : HP} (h : FRM G G') (h' : FRM G' G'') : FRM G G'' := ⟨fun i a b c d e => (h'.1 i a b c d e).trans (h.1 i a b c d e), fun j a b c d => (h'.2 j a b c d).trans (h.2 j a b c d)⟩
theorem FRM_sc {G : HP} {v : Int32} : FRM G (sc G v) := ⟨fun i a _ _ _ _ => us_ne a, fun j a _ _ _ => by
  unfold sc
  rw [us_same]
  exact if_neg a⟩
theorem FRM_us {G G' : HP} {f : Nat → Int32} (h : FRM G G') : FRM G (us G' 125 f) := ⟨fun i a b c d e => (us_ne b).trans (h.1 i a b c d e), fun j a b c d => h.2 j a b c d⟩
theorem FRM_em {G : HP} {r c : Nat} : FRM G (emG G r c) := by
  unfold emG fdW
  refine ⟨fun i a b c d e => ?_, fun j a b c d => ?_⟩
  · rw [us_ne e, us_ne d, us_ne c, us_ne a]
  · rw [us_ne (by decide), us_ne (by decide), us_ne (by decide), us_same]
    unfold upd
    rw [if_neg d, if_neg c, if_neg b]
theorem kp_t {G : HP} {k : Nat} : kpG G 125 k true = sc G 0 := if_pos rfl
