/-! THE CALLS OF THE LAW, ON BOTH SIDES: questions of a cell -/
/-- one call that can throw: k told, b the reference's answer -/
def ST2 (ks km : Nat) (aS aM : List Value) (P : Int32 → Prop) (C G : HP) (z : WB) (m : Nat) : Prop := ∃ (k b : Int32) (C' G' : HP) (z' : WB), (∀ (G0 : HP) (Q : AQ), Bk ks 0 0 0 aS [] (WO C G0 z) Q = Q (.inl (some (.int k))) (WO C' G0 z')) ∧ (∀ (C0 : HP) (z0 : WB) (Q : AQ), z0.2.2.1.category = 1 → Bk km 0 0 0 aM [] (WO C0 G z0) Q = Q (.inl (some (.int b))) (WO C0 G' z0)) ∧ G' 124 7 = k ∧ (k = 0 → z'.2.2.2.1 0 = b.toInt64) ∧ P b ∧ INV C' G' (m + 1000) ∧ z'.1 = z.1 ∧ z'.2.1 = z.2.1 ∧ z'.2.2.1 = z.2.2.1
def PI (_ : Int32) : Prop := True
def PB (b : Int32) : Prop := b = 0 ∨ b = 1
theorem PB_b {x : Bool} : PB (bI x) := by cases x; exact .inl rfl; exact .inr rfl
theorem bL_64 {x : Bool} : bL x = (bI x).toInt64 := by cases x <;> rfl
theorem ST_no {ks km : Nat} {aS aM : List Value} {P : Int32 → Prop} {C G C' G' : HP} {z : WB} {m : Nat} {k b : Int32} (hs : ∀ (G0 : HP) (Q : AQ), Bk ks 0 0 0 aS [] (WO C G0 z) Q = Q (.inl (some (.int k))) (WO C' G0 (zs z))) (hm : ∀ (C0 : HP) (z0 : WB) (Q : AQ), Bk km 0 0 0 aM [] (WO C0 G z0) Q = Q (.inl (some (.int b))) (WO C0 G' z0)) (hk : ¬ k = 0) (h7 : G' 124 7 = k) (hp : P b) (hi : INV C' G' (m + 1000)) : ST2 ks km aS aM P C G z m :=
  ⟨k, b, C', G', zs z, hs, fun C0 z0 Q _ => hm C0 z0 Q, h7, fun e => absurd e hk, hp, hi, rfl, rfl, rfl⟩
theorem ou_0 {z : WB} {v : Int64} : (ou z v).2.2.2.1 0 = v := by
  show vp_updL z.2.2.2.1 0 v 0 = v
  simp [vp_updL]
theorem ST_ok {ks km : Nat} {aS aM : List Value} {P : Int32 → Prop} {C G C' G' : HP} {z : WB} {m : Nat} {v : Int64} {b : Int32} (hs : ∀ (G0 : HP) (Q : AQ), Bk ks 0 0 0 aS [] (WO C G0 z) Q = Q (.inl (some (.int 0))) (WO C' G0 (ou z v))) (hm : ∀ (C0 : HP) (z0 : WB) (Q : AQ), Bk km 0 0 0 aM [] (WO C0 G z0) Q = Q (.inl (some (.int b))) (WO C0 G' z0)) (h7 : G' 124 7 = 0) (hv : v = b.toInt64) (hp : P b) (hi : INV C' G' (m + 1000)) : ST2 ks km aS aM P C G z m :=
  ⟨0, b, C', G', ou z v, hs, fun C0 z0 Q _ => hm C0 z0 Q, h7, fun _ => ou_0.trans hv, hp, hi, rfl, rfl, rfl⟩
/-- a cell, or none, on both sides -/
theorem cel {C : HP} {g : Nat → Int32} {r c n m : Nat} {x y : Int32} (hb : BC C 60 g r c n m) : (hC (C 60) x y = false ∧ iC g x y = false) ∨ ∃ rr cc, rr < r ∧ cc < c ∧ x = Int32.ofNat rr ∧ y = Int32.ofNat cc ∧ hC (C 60) (Int32.ofNat rr) (Int32.ofNat cc) = true := by
  have e := hC_iC (f := C 60) (x := x) (y := y) hb.1 hb.2.2.1.1 hb.2.2.1.2.1
  by_cases q : iC g x y = true
  · obtain ⟨rr, cc, p1, p2, p3, p4⟩ := iC_1 hb.1 q
    subst p3
    subst p4
    exact .inr ⟨rr, cc, p1, p2, rfl, rfl, e.trans q⟩
  · have q' := Bool.eq_false_iff.mpr q
    exact .inl ⟨e.trans q', q'⟩
theorem cel_1 {g : Nat → Int32} {r c rr cc : Nat} (gs : gS g r c) (p1 : rr < r) (p2 : cc < c) : rr * c + cc < r * c ∧ nn c (rr * c + cc) = rr * 6 + cc ∧ r ≤ 5 ∧ c ≤ 5 ∧ rr * 6 + cc < 30 ∧ rr * c + cc < 25 := by
  have k := cell_lt p1 p2
  have n := (nn_1 gs.2.2.2.1 gs.2.2.2.2.2 k).2.2.2.2.2
  have e := nn_cell (rr := rr) p2
  rw [e] at n
  have := (gS_n gs).2
  exact ⟨k, e, gs.2.2.2.1, gs.2.2.2.2.2, n, by omega⟩
theorem ct_hs {g : Nat → Int32} {r c rr cc : Nat} {x y : Int32} (gs : gS g r c) (p1 : rr < r) (p2 : cc < c) (s : SR r c x y) : ct x (Int32.ofNat (rr * 6 + cc)) = hs y (Int32.ofNat (rr * c + cc)) := by
  obtain ⟨k, e, r5, c5, n, k25⟩ := cel_1 gs p1 p2
  rw [← e, ct_gb (by omega), hs_gb (by omega)]
  exact SR_gb r5 c5 s k
theorem bL_hs {g : Nat → Int32} {r c rr cc : Nat} {x y : Int32} (gs : gS g r c) (p1 : rr < r) (p2 : cc < c) (s : SR r c x y) : bL (ct x (Int32.ofNat (rr * 6 + cc))) = (bI (hs y (Int32.ofNat (rr * c + cc)))).toInt64 := by
  rw [ct_hs gs p1 p2 s]
  exact bL_64
section Cells
variable {C G : HP} {z : WB} {m : Nat} {x y : Int32}
theorem s_isLit (h : INV C G m) : ST2 69 70 [.ref 59, .int x, .int y, .ref 135, xk] [.ref 124, .int x, .int y] PB C G z m := by
  obtain ⟨r, c, n, hb⟩ := id h.1
  rcases cel (x := x) (y := y) hb with ⟨h1, h2⟩ | ⟨rr, cc, p1, p2, rfl, rfl, h1⟩
  · exact ST_no (fun G0 Q => l_isLit0 h1) (fun C0 z0 Q => m_isLit0 h2) (by decide) rfl (.inl rfl) (INV_q h (by omega) FQ_r FM_sc)
  · exact ST_ok (fun G0 Q => l_isLit1 h1) (fun C0 z0 Q => m_isLit1 hb.1 p1 p2) rfl (bL_hs hb.1 p1 p2 hb.2.2.1.2.2.2.2.2.1) PB_b (INV_q h (by omega) FQ_r FM_sc)
theorem s_isLitByPresses (h : INV C G m) (hm : m < 900000) : ST2 73 74 [.ref 59, .int x, .int y, .ref 135, xk] [.ref 124, .int x, .int y, xk, xk] PB C G z m := by
  obtain ⟨r, c, n, hb⟩ := id h.1
  rcases cel (x := x) (y := y) hb with ⟨h1, h2⟩ | ⟨rr, cc, p1, p2, rfl, rfl, h1⟩
  · exact ST_no (fun G0 Q => l_isLitByPresses0 h1) (fun C0 z0 Q => m_isLitByPresses0 h2) (by decide) rfl (.inl rfl) (INV_q h (by omega) FQ_r FM_sc)
  · exact ST_ok (fun G0 Q => l_isLitByPresses1 h1) (fun C0 z0 Q => m_isLitByPresses1 hb.1 p1 p2) rfl (bL_hs hb.1 p1 p2 (SR_rec hb (by omega))) PB_b (INV_q h (by omega) FQ_r FM_sc)
theorem s_pressesOf (h : INV C G m) : ST2 85 86 [.ref 59, .int x, .int y, .ref 135, xk] [.ref 124, .int x, .int y] PI C G z m := by
  obtain ⟨r, c, n, hb⟩ := id h.1
  rcases cel (x := x) (y := y) hb with ⟨h1, h2⟩ | ⟨rr, cc, p1, p2, rfl, rfl, h1⟩
  · exact ST_no (fun G0 Q => l_pressesOf0 h1) (fun C0 z0 Q => m_pressesOf0 h2) (by decide) rfl trivial (INV_q h (by omega) FQ_r FM_sc)
  · obtain ⟨k, e, r5, c5, k30, k25⟩ := cel_1 hb.1 p1 p2
    refine ST_ok (fun G0 Q => l_pressesOf1 h1 k30) (fun C0 z0 Q => m_pressesOf1 hb.1 p1 p2) rfl ?_ trivial (INV_q h (by omega) FQ_r FM_sc)
    obtain ⟨q1, q2⟩ := kk_nn r5 c5 k
    rw [e] at q1 q2
    have := hb.2.2.2.1.1 _ k30
    rw [if_pos q1, q2] at this
    rw [this]
theorem s_reachOf (h : INV C G m) : ST2 88 89 [.ref 59, .int x, .int y, .ref 135, xk] [.ref 124, .int x, .int y] PI C G z m := by
  obtain ⟨r, c, n, hb⟩ := id h.1
  rcases cel (x := x) (y := y) hb with ⟨h1, h2⟩ | ⟨rr, cc, p1, p2, rfl, rfl, h1⟩
  · exact ST_no (fun G0 Q => l_reachOf0 h1) (fun C0 z0 Q => m_reachOf0 h2) (by decide) rfl trivial (INV_q h (by omega) FQ_r FM_sc)
  · obtain ⟨k, e, r5, c5, k30, k25⟩ := cel_1 hb.1 p1 p2
    refine ST_ok (fun G0 Q => l_reachOf1 h1) (fun C0 z0 Q => m_reachOf1 hb.1 p1 p2) rfl ?_ trivial (INV_q h (by omega) FQ_r FM_sc)
    rw [hb.2.2.1.2.2.1, hb.2.2.1.2.2.2.1, ← e, SR_cnt r5 c5 (SR_ar r5 c5 hb.2.1 k)]
theorem s_isGoalLit (h : INV C G m) : ST2 94 95 [.ref 59, .int x, .int y, .ref 135, xk] [.ref 124, .int x, .int y] PB C G z m := by
  obtain ⟨r, c, n, hb⟩ := id h.1
  rcases cel (x := x) (y := y) hb with ⟨h1, h2⟩ | ⟨rr, cc, p1, p2, rfl, rfl, h1⟩
  · exact ST_no (fun G0 Q => l_isGoalLit0 h1) (fun C0 z0 Q => m_isGoalLit0 h2) (by decide) rfl (.inl rfl) (INV_q h (by omega) FQ_r FM_sc)
  · exact ST_ok (fun G0 Q => l_isGoalLit1 h1) (fun C0 z0 Q => m_isGoalLit1 hb.1 p1 p2) rfl (bL_hs hb.1 p1 p2 hb.2.2.1.2.2.2.2.2.2.2) PB_b (INV_q h (by omega) FQ_r FM_sc)
theorem sc_125 {v : Int32} : sc G v 125 = G 125 := rfl
theorem SV_0 {r c n : Nat} (hb : BC C 60 (G 125) r c n m) : SV C (sc G 0) 60 r c := BC_SV (G := sc G 0) hb (by decide)
theorem s_isQuietCell (h : INV C G m) : ST2 123 125 [.ref 59, .int x, .int y, .ref 135, xk] [.ref 124, .int x, .int y] PB C G z m := by
  obtain ⟨r, c, n, hb⟩ := id h.1
  rcases cel (x := x) (y := y) hb with ⟨h1, h2⟩ | ⟨rr, cc, p1, p2, rfl, rfl, h1⟩
  · exact ST_no (fun G0 Q => l_isQuietCell0 h1) (fun C0 z0 Q => m_isQuietCell0 h2) (by decide) rfl (.inl rfl) (INV_q h (by omega) FQ_r FM_sc)
  · exact ST_ok (fun G0 Q => l_isQuietCell1 h1) (fun C0 z0 Q => m_isQuietCell1 hb.1 p1 p2) rfl (bL_hs hb.1 p1 p2 (qc_rel (SV_0 hb))) PB_b (INV_q h (by omega) FQ_el (FM_t FM_sc FM_em))
theorem s_isInSolution (h : INV C G m) : ST2 137 138 [.ref 59, .int x, .int y, .ref 135, xk] [.ref 124, .int x, .int y, xk] PB C G z m := by
  obtain ⟨r, c, n, hb⟩ := id h.1
  rcases cel (x := x) (y := y) hb with ⟨h1, h2⟩ | ⟨rr, cc, p1, p2, rfl, rfl, h1⟩
  · exact ST_no (fun G0 Q => l_isInSolution0 h1) (fun C0 z0 Q => m_isInSolution1 h2) (by decide) rfl (.inl rfl) (INV_q h (by omega) FQ_r FM_sc)
  · obtain ⟨b1, b2⟩ := bs_rel (SV_0 hb)
    by_cases q : can (sc G 0 125 2) r c (dD (sc G 0))
    · obtain ⟨q1, q2, q3⟩ := b1 q
      exact ST_ok (fun G0 Q => l_isInSolution1 h1 q3) (fun C0 z0 Q => m_isInSolution0 hb.1 p1 p2 q2) rfl (bL_hs hb.1 p1 p2 q1) PB_b (INV_q h (by omega) FQ_el (FM_t (FM_t FM_sc FM_em) FM_sc))
    · obtain ⟨q1, q2⟩ := b2 q
      exact ST_no (fun G0 Q => l_isInSolution2 h1 q1) (fun C0 z0 Q => m_isInSolution2 hb.1 p1 p2 (by rw [q2]; decide)) (by decide) rfl (.inl rfl) (INV_q h (by omega) FQ_el (FM_t (FM_t FM_sc FM_em) FM_sc))
theorem s_fewest (h : INV C G m) : ST2 132 135 [.ref 59, .ref 135, xk] [.ref 124, xk] PI C G z m := by
  obtain ⟨r, c, n, hb⟩ := id h.1
  obtain ⟨b1, b2⟩ := bs_rel (BC_SV (G := G) hb (by decide))
  by_cases q : can (G 125 2) r c (dD G)
  · obtain ⟨q1, q2, q3⟩ := b1 q
    refine ST_ok (fun G0 Q => l_fewest1 q3) (fun C0 z0 Q => m_fewest1 hb.1 q2) rfl ?_ trivial (INV_q h (by omega) FQ_el (FM_t FM_em FM_sc))
    rw [SR_cnt hb.1.2.2.2.1 hb.1.2.2.2.2.2 q1]
  · obtain ⟨q1, q2⟩ := b2 q
    exact ST_no (fun G0 Q => l_fewest2 q1) (fun C0 z0 Q => m_fewest0 hb.1 (by rw [q2]; decide)) (by decide) rfl trivial (INV_q h (by omega) FQ_el (FM_t FM_em FM_sc))
end Cells
