/-! questions of a row, a worm, the line, the last error -/
theorem rng {x a b : Int32} {n : Nat} (hn : n ≤ 1000) (ha : a = Int32.ofNat n) (hb : b = Int32.ofNat n) : (iR x a = false ∧ iN x 0 (b - 1) = false) ∨ ∃ q, q < n ∧ x = Int32.ofNat q ∧ iR (Int32.ofNat q) a = true := by
  subst ha
  subst hb
  have e := iN_iR (x := x) hn
  by_cases q : iN x 0 (Int32.ofNat n - 1) = true
  · obtain ⟨k, p1, p2⟩ := iN_1 hn q
    subst p2
    exact .inr ⟨k, p1, rfl, by rw [← e]; exact q⟩
  · have q' := Bool.eq_false_iff.mpr q
    exact .inl ⟨by rw [← e]; exact q', q'⟩
section Rows
variable {C G : HP} {z : WB} {m : Nat} {x y : Int32}
theorem s_litInRow (h : INV C G m) : ST2 79 80 [.ref 59, .int x, .ref 135, xk] [.ref 124, .int x, xk, xk] PI C G z m := by
  obtain ⟨r, c, n, hb⟩ := id h.1
  have r5 := hb.1.2.2.2.1
  rcases rng (x := x) (by omega : r ≤ 1000) hb.2.2.1.1 hb.1.1 with ⟨h1, h2⟩ | ⟨q, p1, rfl, h1⟩
  · exact ST_no (fun G0 Q => l_litInRow0 h1) (fun C0 z0 Q => m_litInRow0 h2) (by decide) rfl trivial (INV_q h (by omega) FQ_r FM_sc)
  · refine ST_ok (fun G0 Q => l_litInRow1 h1) (fun C0 z0 Q => m_litInRow1 hb.1 p1) rfl ?_ trivial (INV_q h (by omega) FQ_r FM_sc)
    rw [row_cnt r5 hb.1.2.2.2.2.2 hb.2.2.1.2.2.2.2.2.1 p1]
theorem s_litInColumn (h : INV C G m) : ST2 82 83 [.ref 59, .int x, .ref 135, xk] [.ref 124, .int x, xk, xk] PI C G z m := by
  obtain ⟨r, c, n, hb⟩ := id h.1
  have c5 := hb.1.2.2.2.2.2
  rcases rng (x := x) (by omega : c ≤ 1000) hb.2.2.1.2.1 hb.1.2.1 with ⟨h1, h2⟩ | ⟨q, p1, rfl, h1⟩
  · exact ST_no (fun G0 Q => l_litInColumn0 h1) (fun C0 z0 Q => m_litInColumn0 h2) (by decide) rfl trivial (INV_q h (by omega) FQ_r FM_sc)
  · refine ST_ok (fun G0 Q => l_litInColumn1 h1) (fun C0 z0 Q => m_litInColumn1 hb.1 p1) rfl ?_ trivial (INV_q h (by omega) FQ_r FM_sc)
    rw [col_cnt hb.1.2.2.2.1 c5 hb.2.2.1.2.2.2.2.2.1 p1]
/-- a worm, or none -/
theorem wrm {r c n : Nat} (hb : BC C 60 (G 125) r c n m) : C 62 0 = Int32.ofNat n ∧ n ≤ 4 ∧ G 125 4 = Int32.ofNat n ∧ ((iR x (C 62 0) = false ∧ iN x 0 (G 125 4 - 1) = false) ∨ ∃ q, q < n ∧ x = Int32.ofNat q ∧ ∃ p d, p < r * c ∧ d < 4 ∧ C 63 q = Int32.ofNat (nn c p) ∧ G 125 (33 + 2 * q) = Int32.ofNat p ∧ C 64 q = Int32.ofNat d ∧ G 125 (33 + 2 * q + 1) = Int32.ofNat d) := by
  obtain ⟨w1, w2, w3, w4, w5, w6⟩ := hb.2.2.2.2.1
  refine ⟨w1, w2, w3, ?_⟩
  rcases rng (x := x) (by omega : n ≤ 1000) w1 w3 with q | ⟨q, p1, p2, _⟩
  · exact .inl q
  · exact .inr ⟨q, p1, p2, w5 q p1⟩
theorem s_rowOfWorm (h : INV C G m) : ST2 175 176 [.ref 59, .int x, .ref 135, xk] [.ref 124, .int x] PI C G z m := by
  obtain ⟨r, c, n, hb⟩ := id h.1
  obtain ⟨w1, w2, w3, ⟨h1, h2⟩ | ⟨q, p1, rfl, p, d, k, d4, f3, g3, f4, g4⟩⟩ := wrm (x := x) hb
  · exact ST_no (fun G0 Q => l_rowOfWorm0 h1) (fun C0 z0 Q => m_rowOfWorm1 h2) (by decide) rfl trivial (INV_q h (by omega) FQ_r FM_sc)
  · obtain ⟨n1, n2, n3, n4, n5, n6⟩ := nn_1 hb.1.2.2.2.1 hb.1.2.2.2.2.2 k
    have := (gS_n hb.1).2
    refine ST_ok (fun G0 Q => l_rowOfWorm1 w1 w2 p1) (fun C0 z0 Q => m_rowOfWorm0 hb.1 w3 w2 p1 g3 (by omega)) rfl ?_ trivial (INV_q h (by omega) FQ_r FM_sc)
    rw [f3, show (6 : Int32) = Int32.ofNat 6 from rfl, io_div (by omega) (by decide), n2]
theorem s_columnOfWorm (h : INV C G m) : ST2 178 179 [.ref 59, .int x, .ref 135, xk] [.ref 124, .int x] PI C G z m := by
  obtain ⟨r, c, n, hb⟩ := id h.1
  obtain ⟨w1, w2, w3, ⟨h1, h2⟩ | ⟨q, p1, rfl, p, d, k, d4, f3, g3, f4, g4⟩⟩ := wrm (x := x) hb
  · exact ST_no (fun G0 Q => l_columnOfWorm0 h1) (fun C0 z0 Q => m_columnOfWorm1 h2) (by decide) rfl trivial (INV_q h (by omega) FQ_r FM_sc)
  · obtain ⟨n1, n2, n3, n4, n5, n6⟩ := nn_1 hb.1.2.2.2.1 hb.1.2.2.2.2.2 k
    have := (gS_n hb.1).2
    refine ST_ok (fun G0 Q => l_columnOfWorm1 w1 w2 p1) (fun C0 z0 Q => m_columnOfWorm0 hb.1 w3 w2 p1 g3 (by omega)) rfl ?_ trivial (INV_q h (by omega) FQ_r FM_sc)
    rw [f3, show (6 : Int32) = Int32.ofNat 6 from rfl, io_rem (by omega) (by decide), n1]
theorem s_directionOf (h : INV C G m) (hz : z.2.2.1.category = 1) : ST2 181 182 [.ref 59, .int x, .ref 135, xk] [.ref 124, .int x, xk] PI C G z m := by
  obtain ⟨r, c, n, hb⟩ := id h.1
  obtain ⟨w1, w2, w3, ⟨h1, h2⟩ | ⟨q, p1, rfl, p, d, k, d4, f3, g3, f4, g4⟩⟩ := wrm (x := x) hb
  · exact ST_no (fun G0 Q => l_directionOf0 h1) (fun C0 z0 Q => m_directionOf1 h2) (by decide) rfl trivial (INV_q h (by omega) FQ_r FM_sc)
  · exact ST_ok (fun G0 Q => l_directionOf1 w1 w2 p1 f4 d4 hz) (fun C0 z0 Q => m_directionOf0 w3 w2 p1 g4 d4) rfl rfl trivial (INV_q h (by omega) FQ_r FM_sc)
theorem s_wormIn (h : INV C G m) : ST2 184 185 [.ref 59, .int x, .int y, .ref 135, xk] [.ref 124, .int x, .int y] PI C G z m := by
  obtain ⟨r, c, n, hb⟩ := id h.1
  rcases cel (x := x) (y := y) hb with ⟨h1, h2⟩ | ⟨rr, cc, p1, p2, rfl, rfl, h1⟩
  · exact ST_no (fun G0 Q => l_wormIn1 h1) (fun C0 z0 Q => m_wormIn1 h2) (by decide) rfl trivial (INV_q h (by omega) FQ_r FM_sc)
  · obtain ⟨k, e, r5, c5, k30, k25⟩ := cel_1 hb.1 p1 p2
    have hw := hb.2.2.2.2.1
    have ie := in_eq r5 c5 hw k
    rw [e] at ie
    have ie' : nIn (C 63) n (Int32.ofNat (rr * 6 + cc)) = inM (G 125) n (Int32.ofNat (rr * c + cc)) := ie
    by_cases q : inM (G 125) n (Int32.ofNat (rr * c + cc)) = -1
    · exact ST_no (fun G0 Q => l_wormIn2 h1 hw.1 hw.2.1 (ie'.trans q)) (fun C0 z0 Q => m_wormIn2 hb.1 p1 p2 hw.2.2.1 hw.2.1 q) (by decide) rfl trivial (INV_q h (by omega) FQ_r FM_sc)
    · exact ST_ok (fun G0 Q => l_wormIn0 h1 hw.1 hw.2.1 (fun t => q (ie'.symm.trans t))) (fun C0 z0 Q => m_wormIn0 hb.1 p1 p2 hw.2.2.1 hw.2.1 q) rfl (congrArg Int32.toInt64 ie') trivial (INV_q h (by omega) FQ_r FM_sc)
theorem s_lineAt (h : INV C G m) : ST2 194 195 [.ref 59, .int x, .ref 135, xk] [.ref 124, .int x] PI C G z m := by
  obtain ⟨k, ⟨a1, a2, a3⟩, a4⟩ := h.2.2.2.2.2
  rcases rng (x := x) (by omega : k ≤ 1000) a1 a2 with ⟨h1, h2⟩ | ⟨q, p1, rfl, h1⟩
  · exact ST_no (fun G0 Q => l_lineAt0 h1) (fun C0 z0 Q => m_lineAt1 h2) (by decide) rfl trivial (INV_q h (by omega) FQ_r FM_sc)
  · obtain ⟨e, ok⟩ := a4 q p1
    exact ST_ok (fun G0 Q => l_lineAt1 a1 a3 p1 ok) (fun C0 z0 Q => m_lineAt0 a2 a3 p1 (by rw [← e]; exact ok)) rfl (congrArg Int32.toInt64 e) trivial (INV_q h (by omega) FQ_r FM_sc)
theorem eN_neg {x : Int32} (h : eN x) : (x < 0) = (x = -1) := by
  rcases h with e | ⟨k, k1, e⟩
  · subst e
    exact propext ⟨fun _ => rfl, fun _ => by decide⟩
  · subst e
    rw [io_neg (by omega)]
    exact (eq_false (fun q => by
      have := congrArg Int32.toInt q
      rw [Int32.toInt_ofNat_of_lt (by omega)] at this
      rw [show (-1 : Int32).toInt = -1 from rfl] at this
      omega)).symm
theorem s_errorPosition (h : INV C G m) : ST2 239 240 [.ref 59, .ref 135, xk] [.ref 124] PI C G z m := by
  obtain ⟨⟨e1, e2⟩, -, -⟩ := h.2.2.2.2.1
  have e3 := eN_neg e2
  by_cases q : C 59 7 = -1
  · refine ST_no (b := 0) (G' := sc G 1) (fun G0 Q => l_errorPosition0 q) (fun C0 z0 Q => ?_) (by decide) rfl trivial (INV_q h (by omega) FQ_r FM_sc)
    rw [m_errorPosition, if_pos (by rw [← e1, e3]; exact q)]
  · refine ST_ok (b := G 124 10) (G' := sc G 0) (fun G0 Q => l_errorPosition1 q) (fun C0 z0 Q => ?_) rfl (congrArg Int32.toInt64 e1) trivial (INV_q h (by omega) FQ_r FM_sc)
    rw [m_errorPosition, if_neg (by rw [← e1, e3]; exact q)]
theorem s_failedCommand (h : INV C G m) : ST2 242 243 [.ref 59, .ref 135, xk] [.ref 124] PI C G z m := by
  obtain ⟨-, e1, e2⟩ := h.2.2.2.2.1
  have e3 := eN_neg e2
  by_cases q : C 59 8 = -1
  · refine ST_no (b := 0) (G' := sc G 1) (fun G0 Q => l_failedCommand0 q) (fun C0 z0 Q => ?_) (by decide) rfl trivial (INV_q h (by omega) FQ_r FM_sc)
    rw [m_failedCommand, if_pos (by rw [← e1, e3]; exact q)]
  · refine ST_ok (b := G 124 11) (G' := sc G 0) (fun G0 Q => l_failedCommand1 q) (fun C0 z0 Q => ?_) rfl (congrArg Int32.toInt64 e1) trivial (INV_q h (by omega) FQ_r FM_sc)
    rw [m_failedCommand, if_neg (by rw [← e1, e3]; exact q)]
end Rows
