/-! undo, restore, type, on both sides -/
theorem okc : ∀ k, k < 127 → (narrow .char (.int (Int32.ofNat k)) = .int (Int32.ofNat k) ∧ fits .char (.int (Int32.ofNat k)) = true) := by decide +kernel
theorem ok_n {x : Int32} (h : iN x 32 126 = true) : okPut 1 (.int x) := by
  obtain ⟨h1, h2⟩ := of_decide_eq_true h
  obtain ⟨k, k1, e⟩ := nat_of (b := 126) (Int32.le_trans (by decide) h1) h2 (by decide)
  subst e
  exact okc k (by omega)
theorem bd_ok {C : HP} {b r c n m : Nat} {g : Nat → Int32} (hb : BC C b g r c n m) : okPut 1 (.int (C b 3)) := by
  rw [hb.2.2.1.2.2.2.1]
  exact (iS_c hb.2.1).2
section Back
variable {C G : HP} {z : WB} {m : Nat} {x y : Int32}
theorem tkB_o {hx c i : Nat} (h : i < 60 ∨ 64 < i) (h75 : ¬ i = 75) : tkB C 60 hx c i = C i := by
  unfold tkB
  rw [cpB_o h, us_ne h75]
theorem tkB_75 {hx c : Nat} : tkB C 60 hx c 75 1 = Int32.ofNat ((hx + 7) % 8) ∧ tkB C 60 hx c 75 2 = Int32.ofNat c := by
  unfold tkB
  rw [cpB_o (by omega), us_same]
  exact ⟨rfl, rfl⟩
theorem s_undo (h : INV C G m) : ST2 246 247 [.ref 59, .ref 135, xk] [.ref 124] PI C G z m := by
  obtain ⟨⟨r, c, n, hb⟩, ⟨hx, hc, ⟨a1, a2, a3, a4⟩, ⟨k1, k2, k3⟩, b⟩, s, t, e, l⟩ := id h
  cases hc with
  | zero =>
    exact ST_no (fun G0 Q => l_undo0 a3) (fun C0 z0 Q => m_undo1 k2) (by decide) rfl trivial (INV_q h (by omega) FQ_r FM_sc)
  | succ q =>
    obtain ⟨r', c', n', hb'⟩ := b q (by omega)
    rw [show (hx + 8 - (q + 1) + q) % 8 = (hx + 7) % 8 from by omega] at hb'
    have ib := isBh (n := (hx + 7) % 8) (by omega)
    have cp : BC (tkB C 60 hx q) 60 (ROW (G 126) q) r' c' n' m := by
      have hb2 : BC (us C 75 (upd (upd (C 75) 1 (Int32.ofNat ((hx + 7) % 8))) 2 (Int32.ofNat q))) (77 + 5 * ((hx + 7) % 8)) (ROW (G 126) q) r' c' n' m := BC_o hb' (fun i i1 i2 => us_ne (by omega))
      exact BC_cp i60 ib (by omega) hb2
    have go : ∀ i, ¬ i = 124 → ¬ i = 125 → unM G q i = G i := fun i i1 i2 => (us_ne i2).trans (us_ne i1)
    have gj : ∀ j, ¬ j = 7 → ¬ j = 5 → unM G q 124 j = G 124 j := fun j j1 j2 => by
      unfold unM
      rw [us_ne (by decide), us_same]
      unfold upd
      rw [if_neg j2, if_neg j1]
    have g125 : ∀ j, j < 41 → unM G q 125 j = ROW (G 126) q j := fun j hj => by
      unfold unM
      rw [us_same]
      unfold cpy ROW
      rw [if_pos (by omega)]
      exact congrArg (G 126) (by omega)
    have co : ∀ i, (i < 60 ∨ 64 < i) → ¬ i = 75 → tkB C 60 hx q i = C i := fun i i1 i2 => tkB_o i1 i2
    have c59 := co 59 (by omega) (by omega)
    refine ST_ok (fun G0 Q => l_undo1 (bd_ok hb') a1 a2 a3 (by omega)) (fun C0 z0 Q => m_undo0 k2 (by omega)) rfl rfl trivial ⟨⟨r', c', n', BC_up (BC_g cp g125) (by omega)⟩, ⟨(hx + 7) % 8, q, ⟨tkB_75.1, by omega, tkB_75.2, by omega⟩, ⟨(gj 6 (by decide) (by decide)).trans k1, rfl, by omega⟩, fun t ht => ?_⟩, HS_cg s (by omega) (by rw [c59]) (fun i i1 i2 => co i (by omega) (by omega)) (gj 4 (by decide) (by decide)) (go 127 (by decide) (by decide)), HT_cg t (co 121 (by omega) (by omega)) (co 122 (by omega) (by omega)) (gj 9 (by decide) (by decide)) (go 129 (by decide) (by decide)), HE_cg e (by rw [c59]) (by rw [c59]) (gj 10 (by decide) (by decide)) (gj 11 (by decide) (by decide)), HL_cg l (by rw [c59]) (co 123 (by omega) (by omega)) (gj 13 (by decide) (by decide)) (go 130 (by decide) (by decide))⟩
    obtain ⟨r2, c2, n2, hb2⟩ := b t (by omega)
    rw [go 126 (by decide) (by decide), show ((hx + 7) % 8 + 8 - q + t) % 8 = (hx + 8 - (q + 1) + t) % 8 from by omega]
    exact ⟨r2, c2, n2, BC_up (BC_o hb2 (fun i i1 i2 => co i (by omega) (by omega))) (by omega)⟩
theorem s_restore (h : INV C G m) : ST2 251 252 [.ref 59, .ref 135, xk] [.ref 124] PI C G z m := by
  obtain ⟨⟨r, c, n, hb⟩, ⟨hx, hc, ⟨a1, a2, a3, a4⟩, ⟨k1, k2, k3⟩, b⟩, ⟨s1, s2⟩, t, e, l⟩ := id h
  by_cases q : G 124 4 = 0
  · exact ST_no (fun G0 Q => l_restore0 (s1.trans q)) (fun C0 z0 Q => m_restore1 q) (by decide) rfl trivial (INV_q h (by omega) FQ_r FM_sc)
  · rcases s2 with s2 | ⟨r', c', n', hs⟩
    · exact absurd s2 q
    have cp : BC (rsC C) 60 (G 127) r' c' n' m := BC_o (BC_cp i60 i70 (by decide) hs) (fun i i1 i2 => us_ne (by omega))
    have go : ∀ i, ¬ i = 124 → ¬ i = 125 → reM G i = G i := fun i i1 i2 => (us_ne i2).trans (us_ne i1)
    have gj : ∀ j, ¬ j = 7 → ¬ j = 5 → reM G 124 j = G 124 j := fun j j1 j2 => by
      unfold reM
      rw [us_ne (by decide), us_same]
      unfold upd
      rw [if_neg j2, if_neg j1]
    have g125 : ∀ j, j < 41 → reM G 125 j = G 127 j := fun j hj => by
      unfold reM
      rw [us_same]
      unfold cpy
      rw [if_pos (by omega)]
      exact congrArg (G 127) (by omega)
    have co : ∀ i, (i < 60 ∨ 64 < i) → ¬ i = 75 → rsC C i = C i := fun i i1 i2 => (us_ne i2).trans (cpB_o i1)
    have c59 := co 59 (by omega) (by omega)
    have c75 : rsC C 75 1 = Int32.ofNat hx := by
      unfold rsC
      rw [us_same]
      exact a1
    refine ST_ok (fun G0 Q => l_restore1 (fun w => q (s1.symm.trans w)) (bd_ok hs)) (fun C0 z0 Q => m_restore0 q) rfl ?_ trivial ⟨⟨r', c', n', BC_up (BC_g cp g125) (by omega)⟩, ⟨hx, 0, ⟨c75, a2, rfl, by omega⟩, ⟨(gj 6 (by decide) (by decide)).trans k1, rfl, by omega⟩, fun t ht => absurd ht (Nat.not_lt_zero t)⟩, ⟨by rw [c59, gj 4 (by decide) (by decide)]; exact s1, .inr ⟨r', c', n', ?_⟩⟩, HT_cg t (co 121 (by omega) (by omega)) (co 122 (by omega) (by omega)) (gj 9 (by decide) (by decide)) (go 129 (by decide) (by decide)), HE_cg e (by rw [c59]) (by rw [c59]) (gj 10 (by decide) (by decide)) (gj 11 (by decide) (by decide)), HL_cg l (by rw [c59]) (co 123 (by omega) (by omega)) (gj 13 (by decide) (by decide)) (go 130 (by decide) (by decide))⟩
    · rw [hs.2.2.1.1, hs.2.2.1.2.1, hs.1.1, hs.1.2.1]
    · rw [go 127 (by decide) (by decide)]
      exact BC_up (BC_o hs (fun i i1 i2 => co i (by omega) (by omega))) (by omega)
theorem s_type (h : INV C G m) : ST2 205 206 [.ref 59, .int x, .ref 135, xk] [.ref 124, .int x] PI C G z m := by
  obtain ⟨⟨r, c, n, hb⟩, ⟨hx, hc, R⟩, s, ⟨k, ⟨t1, t2, t3⟩, ⟨u1, u2⟩, tx⟩, e, l⟩ := id h
  by_cases q : iN x 32 126 = true
  · have ok := ok_n q
    by_cases p : k = 60
    · subst p
      exact ST_no (fun G0 Q => l_type2 q t1) (fun C0 z0 Q => m_type2 q u1) (by decide) rfl trivial (INV_q h (by omega) FQ_r FM_sc)
    · have k60 : k < 60 := by omega
      have co : ∀ i, ¬ i = 121 → ¬ i = 122 → tyC C k x i = C i := fun i i1 i2 => (us_ne i1).trans (us_ne i2)
      have go : ∀ i, ¬ i = 124 → ¬ i = 129 → tyM G k x i = G i := fun i i1 i2 => (us_ne i2).trans (us_ne i1)
      have gj : ∀ j, ¬ j = 7 → ¬ j = 9 → tyM G k x 124 j = G 124 j := fun j j1 j2 => by
        unfold tyM
        rw [us_ne (by decide), us_same]
        unfold upd
        rw [if_neg j2, if_neg j1]
      have c122 : tyC C k x 122 = upd (C 122) k x := (us_ne (by decide)).trans us_same
      have g129 : tyM G k x 129 = upd (G 129) k x := us_same
      have c59 := co 59 (by decide) (by decide)
      refine ST_ok (fun G0 Q => l_type0 q t1 k60 ok) (fun C0 z0 Q => m_type0 q u1 k60) rfl rfl trivial ⟨HB_cg ⟨r, c, n, hb⟩ (by omega) (fun i i1 i2 => co i (by omega) (by omega)) (go 125 (by decide) (by decide)), ⟨hx, hc, HR_cg R (by omega) (fun i i1 i2 => co i (by omega) (by omega)) (gj 5 (by decide) (by decide)) (gj 6 (by decide) (by decide)) (go 126 (by decide) (by decide))⟩, HS_cg s (by omega) (by rw [c59]) (fun i i1 i2 => co i (by omega) (by omega)) (gj 4 (by decide) (by decide)) (go 127 (by decide) (by decide)), ⟨k + 1, ⟨rfl, by omega, fun p hp => ?_⟩, ⟨rfl, by omega⟩, fun p hp => ?_⟩, HE_cg e (by rw [c59]) (by rw [c59]) (gj 10 (by decide) (by decide)) (gj 11 (by decide) (by decide)), HL_cg l (by rw [c59]) (co 123 (by decide) (by decide)) (gj 13 (by decide) (by decide)) (go 130 (by decide) (by decide))⟩
      · rw [c122]
        unfold upd
        by_cases w : p = k
        · rw [if_pos w]; exact ok
        · rw [if_neg w]; exact t3 p (by omega)
      · rw [c122, g129]
        unfold upd
        by_cases w : p = k
        · rw [if_pos w, if_pos w]
        · rw [if_neg w, if_neg w]; exact tx p (by omega)
  · have q' := Bool.eq_false_iff.mpr q
    exact ST_no (fun G0 Q => l_type1 q') (fun C0 z0 Q => m_type1 q') (by decide) rfl trivial (INV_q h (by omega) FQ_r FM_sc)
end Back
