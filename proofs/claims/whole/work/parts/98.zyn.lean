/-! the first world, and that the two sides agree there -/
def brd0 : Nat → Int32 := fun j => if j = 0 then 3 else if j = 1 then 3 else if j = 2 then cMk 3 3 else if j = 3 then 43 else 0
def C0 : HP := fun i => if i = 59 then (fun j => if j = 7 then -1 else if j = 8 then -1 else 0) else if i < 75 then (if i % 5 = 0 then brd0 else fun _ => 0) else if i < 77 then (fun _ => 0) else if i < 117 then (if (i + 3) % 5 = 0 then brd0 else fun _ => 0) else fun _ => 0
def G0 : HP := fun i => if i = 124 then (fun j => if j = 10 then -1 else if j = 11 then -1 else 0) else if i = 125 then upd (upd (upd (fun _ => 0) 0 3) 1 3) 2 43 else fun _ => 0
section First
variable {L : Nat} {xs : Nat → Int32} {vf : Value}
def zz (L : Nat) (xs : Nat → Int32) (vf : Value) : WB := (L, xs, vf, fun _ => 0, false)
def UU (L : Nat) (xs : Nat → Int32) (vf : Value) (n : Nat) : Nat → Option AC := fun i => if i < n then (WO C0 G0 (zz L xs vf)).1 i else none
theorem UU_s {n : Nat} {c : AC} (h : (WO C0 G0 (zz L xs vf)).1 n = some c) : upw (UU L xs vf n) n c = UU L xs vf (n + 1) := by
  funext i
  unfold upw UU
  by_cases e : i = n
  · rw [if_pos e, if_pos (by omega), e, h]
  · rw [if_neg e]
    by_cases q : i < n
    · rw [if_pos q, if_pos (by omega)]
    · rw [if_neg q, if_neg (by omega)]
theorem UU_b {b : Nat} (h0 : (WO C0 G0 (zz L xs vf)).1 b = some (.inr (0, BL b))) (h1 : (WO C0 G0 (zz L xs vf)).1 (b + 1) = some (.inl (0, 30, .inl (fun _ => 0)))) (h2 : (WO C0 G0 (zz L xs vf)).1 (b + 2) = some (.inr (4, [.int 0, .ref (b + 3), .ref (b + 4)]))) (h3 : (WO C0 G0 (zz L xs vf)).1 (b + 3) = some (.inl (0, 4, .inl (fun _ => 0)))) (h4 : (WO C0 G0 (zz L xs vf)).1 (b + 4) = some (.inl (0, 4, .inl (fun _ => 0)))) : bw (UU L xs vf b) b (BL b) = UU L xs vf (b + 5) := by
  unfold bw
  rw [UU_s h0, UU_s h1, UU_s h2, UU_s h3, UU_s h4]
theorem UU_59 : (fun i => (E0 L xs vf)[i]?) = UU L xs vf 59 := by
  funext i
  unfold UU
  by_cases h : i < 59
  · rw [if_pos h]
    exact (if_pos h).symm
  · rw [if_neg h]
    exact List.getElem?_eq_none (by show 59 ≤ i; omega)
theorem UU_136 : UU L xs vf 136 = (WO C0 G0 (zz L xs vf)).1 := by
  funext i
  unfold UU
  by_cases h : i < 136
  · rw [if_pos h]
  · rw [if_neg h]
    unfold WO
    show none = if i < 59 then _ else _
    rw [if_neg (by omega), if_neg (by omega), if_neg (by omega), if_neg (by omega)]
theorem hv_bA : hv 8 = bA := rfl
theorem UU_h : ∀ n, n ≤ 8 → bws (UU L xs vf 77) n = UU L xs vf (77 + 5 * n)
  | 0, _ => rfl
  | n + 1, h => by
    show bw (bws (UU L xs vf 77) n) (77 + 5 * n) (BL (77 + 5 * n)) = _
    rw [UU_h n (by omega)]
    have hn : n = 0 ∨ n = 1 ∨ n = 2 ∨ n = 3 ∨ n = 4 ∨ n = 5 ∨ n = 6 ∨ n = 7 := by omega
    rcases hn with rfl | rfl | rfl | rfl | rfl | rfl | rfl | rfl <;> exact UU_b rfl rfl rfl rfl rfl
theorem w_first : (upw (mw (gdw (fun i => (E0 L xs vf)[i]?))) 135 (.inl (2, 1, .inr (.inl (fun _ => 0)))), 136, false) = WO C0 G0 (zz L xs vf) := by
  refine Prod.ext ?_ rfl
  show upw (mw (gdw (fun i => (E0 L xs vf)[i]?))) 135 (.inl (2, 1, .inr (.inl (fun _ => 0)))) = (WO C0 G0 (zz L xs vf)).1
  rw [UU_59, ← UU_136]
  unfold mw gdw
  rw [show upw (UU L xs vf 59) 59 (.inr (5, [.ref 60, .ref 65, .ref 70, .int 0, .ref 75, .ref 117, .ref 121, .int (-1), .int (-1), .ref 123, .int 0])) = UU L xs vf 60 from UU_s rfl]
  rw [show bw (UU L xs vf 60) 60 (BL 60) = UU L xs vf 65 from UU_b (b := 60) rfl rfl rfl rfl rfl]
  rw [show bw (UU L xs vf 65) 65 (BL 65) = UU L xs vf 70 from UU_b (b := 65) rfl rfl rfl rfl rfl]
  rw [show bw (UU L xs vf 70) 70 (BL 70) = UU L xs vf 75 from UU_b (b := 70) rfl rfl rfl rfl rfl]
  rw [show upw (UU L xs vf 75) 75 (.inr (2, [.ref 76, .int 0, .int 0])) = UU L xs vf 76 from UU_s rfl]
  rw [show upw (UU L xs vf 76) 76 (.inl (3, 8, .inr (.inr (.inr (.inr (hv 8)))))) = UU L xs vf 77 from UU_s rfl]
  rw [show bws (UU L xs vf 77) 8 = UU L xs vf 117 from UU_h 8 (by decide)]
  rw [show upw (UU L xs vf 117) 117 (.inr (3, [.ref 118, .ref 119, .int 0, .ref 120, .int 0])) = UU L xs vf 118 from UU_s rfl]
  rw [show upw (UU L xs vf 118) 118 (.inl (0, 30, .inl (fun _ => 0))) = UU L xs vf 119 from UU_s rfl]
  rw [show upw (UU L xs vf 119) 119 (.inl (0, 30, .inl (fun _ => 0))) = UU L xs vf 120 from UU_s rfl]
  rw [show upw (UU L xs vf 120) 120 (.inl (0, 30, .inl (fun _ => 0))) = UU L xs vf 121 from UU_s rfl]
  rw [show upw (UU L xs vf 121) 121 (.inr (1, [.ref 122, .int 0])) = UU L xs vf 122 from UU_s rfl]
  rw [show upw (UU L xs vf 122) 122 (.inl (1, 60, .inl (fun _ => 0))) = UU L xs vf 123 from UU_s rfl]
  rw [show upw (UU L xs vf 123) 123 (.inl (1, 10, .inl (fun _ => 0))) = UU L xs vf 124 from UU_s rfl]
  rw [show upw (UU L xs vf 124) 124 (.inr (6, [.ref 125, .ref 126, .ref 127, .ref 128, .int 0, .int 0, .int 0, .int 0, .ref 129, .int 0, .int (-1), .int (-1), .ref 130, .int 0, .ref 131, .ref 132, .ref 133, .int 0, .int 0, .int 0, .int 0, .ref 134, .int 0])) = UU L xs vf 125 from UU_s rfl]
  rw [show upw (UU L xs vf 125) 125 (.inl (0, 41, .inl (upd (upd (upd (fun _ => 0) 0 3) 1 3) 2 43))) = UU L xs vf 126 from UU_s rfl]
  rw [show upw (UU L xs vf 126) 126 (.inl (0, 328, .inl (fun _ => 0))) = UU L xs vf 127 from UU_s rfl]
  rw [show upw (UU L xs vf 127) 127 (.inl (0, 41, .inl (fun _ => 0))) = UU L xs vf 128 from UU_s rfl]
  rw [show upw (UU L xs vf 128) 128 (.inl (0, 41, .inl (fun _ => 0))) = UU L xs vf 129 from UU_s rfl]
  rw [show upw (UU L xs vf 129) 129 (.inl (0, 60, .inl (fun _ => 0))) = UU L xs vf 130 from UU_s rfl]
  rw [show upw (UU L xs vf 130) 130 (.inl (1, 20, .inl (fun _ => 0))) = UU L xs vf 131 from UU_s rfl]
  rw [show upw (UU L xs vf 131) 131 (.inl (0, 25, .inl (fun _ => 0))) = UU L xs vf 132 from UU_s rfl]
  rw [show upw (UU L xs vf 132) 132 (.inl (0, 25, .inl (fun _ => 0))) = UU L xs vf 133 from UU_s rfl]
  rw [show upw (UU L xs vf 133) 133 (.inl (0, 25, .inl (fun _ => 0))) = UU L xs vf 134 from UU_s rfl]
  rw [show upw (UU L xs vf 134) 134 (.inl (0, 124, .inl (fun _ => 0))) = UU L xs vf 135 from UU_s rfl]
  rw [show upw (UU L xs vf 135) 135 (.inl (2, 1, .inr (.inl (fun _ => 0)))) = UU L xs vf 136 from UU_s rfl]
theorem SR_z : SR 3 3 0 0 := SR_0
theorem INV_0 : INV C0 G0 0 := by
  refine ⟨⟨3, 3, 0, ?_⟩, ⟨0, 0, ⟨rfl, by decide, rfl, by decide⟩, ⟨rfl, rfl, by decide⟩, fun t ht => absurd ht (Nat.not_lt_zero t)⟩, ⟨rfl, .inl rfl⟩, HT_0 rfl rfl, ⟨⟨rfl, .inl rfl⟩, rfl, .inl rfl⟩, ⟨0, ⟨rfl, rfl, by decide⟩, fun i hi => absurd hi (Nat.not_lt_zero i)⟩⟩
  have g8 : ∀ j, G0 125 (8 + j) = 0 := fun j => by
    show upd (upd (upd (fun _ => 0) 0 3) 1 3) 2 43 (8 + j) = 0
    unfold upd
    rw [if_neg (by omega), if_neg (by omega), if_neg (by omega)]
  refine ⟨⟨rfl, rfl, by decide, by decide, by decide, by decide⟩, (show iS 43 = true from by decide), ⟨rfl, rfl, rfl, rfl, rfl, SR_0, SR_0, SR_0⟩, ⟨fun j hj => ?_, fun k hk => ⟨0, Nat.le_refl 0, g8 k⟩⟩, ⟨rfl, by decide, rfl, fun k hk => ⟨0, by decide, rfl⟩, fun k hk => absurd hk (Nat.not_lt_zero k), fun i j _ hj => absurd hj (Nat.not_lt_zero j)⟩, ?_⟩
  · show (0 : Int32) = _
    rw [g8]
    by_cases q : isCl 3 3 j = true
    · rw [if_pos q]
    · rw [if_neg q]
  · rw [lbM_0 (fun k _ => g8 k)]
    rfl
end First
