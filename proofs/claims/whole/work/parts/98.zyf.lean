/-! calls that do not throw, on both sides -/
/-- one call that does not throw: both sides give the same value -/
def DT2 (ks km : Nat) (aS aM : List Value) (P : Value → Prop) (C G : HP) (z : WB) (m : Nat) : Prop := ∃ (v : Value) (C' G' : HP), (∀ (G0 : HP) (Q : AQ), Bk ks 0 0 0 aS [] (WO C G0 z) Q = Q (.inl (some v)) (WO C' G0 z)) ∧ (∀ (C0 : HP) (z0 : WB) (Q : AQ), z0.2.2.1.category = 1 → Bk km 0 0 0 aM [] (WO C0 G z0) Q = Q (.inl (some v)) (WO C0 G' z0)) ∧ P v ∧ INV C' G' (m + 1000)
def VI (v : Value) : Prop := ∃ b : Int32, v = .int b
theorem DT_ok {ks km : Nat} {aS aM : List Value} {P : Value → Prop} {C G C' G' : HP} {z : WB} {m : Nat} {v v' : Value} (hs : ∀ (G0 : HP) (Q : AQ), Bk ks 0 0 0 aS [] (WO C G0 z) Q = Q (.inl (some v)) (WO C' G0 z)) (hm : ∀ (C0 : HP) (z0 : WB) (Q : AQ), Bk km 0 0 0 aM [] (WO C0 G z0) Q = Q (.inl (some v')) (WO C0 G' z0)) (e : v = v') (hp : P v) (hi : INV C' G' (m + 1000)) : DT2 ks km aS aM P C G z m := by
  subst e
  exact ⟨v, C', G', hs, fun C0 z0 Q _ => hm C0 z0 Q, hp, hi⟩
theorem vI {a b : Int32} (h : a = b) : (.int a : Value) = .int b := congrArg Value.int h
theorem bI_iff {a b : Bool} {p : Prop} (h : a = true ↔ p) (h' : b = true ↔ p) : (.int (bI a) : Value) = .int (bI b) := vI (congrArg bI (Bool.eq_iff_iff.mpr (h.trans h'.symm)))
section Plain
variable {C G : HP} {z : WB} {m : Nat}
theorem t_rowCount (h : INV C G m) : DT2 62 63 [.ref 59] [.ref 124] VI C G z m := by
  obtain ⟨r, c, n, hb⟩ := id h.1
  exact DT_ok (fun G0 Q => d_rowCount) (fun C0 z0 Q => n_rowCount) (vI (hb.2.2.1.1.trans hb.1.1.symm)) ⟨_, rfl⟩ (INV_q h (by omega) FQ_r FM_sc)
theorem t_columnCount (h : INV C G m) : DT2 64 65 [.ref 59] [.ref 124] VI C G z m := by
  obtain ⟨r, c, n, hb⟩ := id h.1
  exact DT_ok (fun G0 Q => d_columnCount) (fun C0 z0 Q => n_columnCount) (vI (hb.2.2.1.2.1.trans hb.1.2.1.symm)) ⟨_, rfl⟩ (INV_q h (by omega) FQ_r FM_sc)
theorem pat {r c n : Nat} (hb : BC C 60 (G 125) r c n m) : C 60 3 = c2i (G 125 2) ∧ okPut 1 (.int (C 60 3)) := by
  have e : C 60 3 = G 125 2 := hb.2.2.1.2.2.2.1
  obtain ⟨p1, p2⟩ := iS_c hb.2.1
  exact ⟨e.trans p1.symm, by rw [e]; exact p2⟩
theorem t_pattern (h : INV C G m) : DT2 66 67 [.ref 59] [.ref 124] VI C G z m := by
  obtain ⟨r, c, n, hb⟩ := id h.1
  exact DT_ok (fun G0 Q => d_pattern (pat hb).2) (fun C0 z0 Q => n_pattern) (vI (pat hb).1) ⟨_, rfl⟩ (INV_q h (by omega) FQ_r FM_sc)
theorem t_litCount (h : INV C G m) : DT2 75 76 [.ref 59] [.ref 124] VI C G z m := by
  obtain ⟨r, c, n, hb⟩ := id h.1
  exact DT_ok (fun G0 Q => d_litCount) (fun C0 z0 Q => n_litCount) (vI (SR_cnt hb.1.2.2.2.1 hb.1.2.2.2.2.2 hb.2.2.1.2.2.2.2.2.1)) ⟨_, rfl⟩ (INV_q h (by omega) FQ_r FM_sc)
theorem dif {r c n : Nat} (hb : BC C 60 (G 125) r c n m) : SR r c (C 60 4 ^^^ C 60 6) (G 125 5 ^^^ G 125 7) := SR_xor hb.2.2.1.2.2.2.2.2.1 hb.2.2.1.2.2.2.2.2.2.2
theorem x_eq {a b : Int32} : a ^^^ b = 0 ↔ a = b := by
  constructor
  · intro h
    refine gb_ext fun j hj => ?_
    have := gb_nz.mp h j hj
    rw [gb_xor] at this
    cases q : gb a j <;> cases q' : gb b j <;> simp_all
  · intro h
    subst h
    exact gb_nz.mpr fun j _ => by rw [gb_xor]; cases gb a j <;> rfl
theorem t_isReached (h : INV C G m) : DT2 97 98 [.ref 59] [.ref 124] VI C G z m := by
  obtain ⟨r, c, n, hb⟩ := id h.1
  refine DT_ok (fun G0 Q => d_isReached) (fun C0 z0 Q => n_isReached) (vI (congrArg bI ?_)) ⟨_, rfl⟩ (INV_q h (by omega) FQ_r FM_sc)
  exact decide_eq_decide.mpr ((SR_ij hb.1.2.2.2.1 hb.1.2.2.2.2.2 (dif hb) SR_0).trans x_eq)
theorem t_differenceCount (h : INV C G m) : DT2 99 100 [.ref 59] [.ref 124] VI C G z m := by
  obtain ⟨r, c, n, hb⟩ := id h.1
  exact DT_ok (fun G0 Q => d_differenceCount) (fun C0 z0 Q => n_differenceCount) (vI (SR_cnt hb.1.2.2.2.1 hb.1.2.2.2.2.2 (dif hb))) ⟨_, rfl⟩ (INV_q h (by omega) FQ_r FM_sc)
theorem t_isSolvable (h : INV C G m) : DT2 109 114 [.ref 59] [.ref 124] VI C G z m := by
  obtain ⟨r, c, n, hb⟩ := id h.1
  exact DT_ok (fun G0 Q => d_isSolvable) (fun C0 z0 Q => n_isSolvable hb.1) (bI_iff (cnS_can (BC_SV (G := G) hb (by decide))) (slM_can (SV_0 hb))) ⟨_, rfl⟩ (INV_q h (by omega) FQ_el (FM_t FM_sc FM_em))
theorem t_isSolvableByParity (h : INV C G m) : DT2 117 118 [.ref 59] [.ref 124] VI C G z m := by
  obtain ⟨r, c, n, hb⟩ := id h.1
  exact DT_ok (fun G0 Q => d_isSolvableByParity) (fun C0 z0 Q => n_isSolvableByParity hb.1) (bI_iff (evP_can (BC_SV (G := G) hb (by decide))) (slM_can (SV_0 hb))) ⟨_, rfl⟩ (INV_q h (by omega) FQ_el (FM_t FM_sc FM_em))
theorem t_quietNumber (h : INV C G m) : DT2 119 120 [.ref 59] [.ref 124] VI C G z m := by
  obtain ⟨r, c, n, hb⟩ := id h.1
  exact DT_ok (fun G0 Q => d_quietNumber) (fun C0 z0 Q => n_quietNumber hb.1) (vI (congrArg Int32.ofNat (qu_rel (SV_0 hb)).1)) ⟨_, rfl⟩ (INV_q h (by omega) FQ_el (FM_t FM_sc FM_em))
theorem t_quietCellCount (h : INV C G m) : DT2 126 127 [.ref 59] [.ref 124] VI C G z m := by
  obtain ⟨r, c, n, hb⟩ := id h.1
  exact DT_ok (fun G0 Q => d_quietCellCount) (fun C0 z0 Q => n_quietCellCount hb.1) (vI (SR_cnt hb.1.2.2.2.1 hb.1.2.2.2.2.2 (qc_rel (SV_0 hb)))) ⟨_, rfl⟩ (INV_q h (by omega) FQ_el (FM_t FM_sc FM_em))
theorem t_wormCount (h : INV C G m) : DT2 172 173 [.ref 59] [.ref 124] VI C G z m := by
  obtain ⟨r, c, n, hb⟩ := id h.1
  exact DT_ok (fun G0 Q => d_wormCount) (fun C0 z0 Q => n_wormCount) (vI (hb.2.2.2.2.1.1.trans hb.2.2.2.2.1.2.2.1.symm)) ⟨_, rfl⟩ (INV_q h (by omega) FQ_r FM_sc)
theorem t_stepCount (h : INV C G m) : DT2 186 187 [.ref 59] [.ref 124] VI C G z m := by
  obtain ⟨r, c, n, hb⟩ := id h.1
  exact DT_ok (fun G0 Q => d_stepCount) (fun C0 z0 Q => n_stepCount) (vI hb.2.2.1.2.2.2.2.1) ⟨_, rfl⟩ (INV_q h (by omega) FQ_r FM_sc)
theorem t_isConsistent (h : INV C G m) (hm : m < 900000) : DT2 201 202 [.ref 59] [.ref 124] VI C G z m := by
  obtain ⟨r, c, n, hb⟩ := id h.1
  have sv : SV C G 60 r c := BC_SV (G := G) hb (by decide)
  have hb' : BC (elC C 60) 60 (G 125) r c n m := BC_o hb (fun i h1 h2 => elC_lo (by omega))
  have sv' : SV (elC C 60) G 60 r c := BC_SV (G := G) hb' (by decide)
  have e : cnS C 60 = evP (elC C 60) 60 := Bool.eq_iff_iff.mpr ((cnS_can sv).trans (evP_can sv').symm)
  exact DT_ok (fun G0 Q => d_isConsistent hb.2.2.2.2.1.1 hb.2.2.2.2.1.2.1 (lR_eq hb (by omega)).symm e (apW_t hb)) (fun C0 z0 Q => n_isConsistent) rfl ⟨_, rfl⟩ (INV_q h (by omega) (fun i hi => (elC_o hi).trans (elC_o hi)) FM_sc)
theorem t_step (h : INV C G m) (hm : m < 800000) (hz : z.2.2.1.category = 1) : DT2 169 171 [.ref 59] [.ref 124, xk, xk, xk] VI C G z m := by
  obtain ⟨r, c, n, hb⟩ := id h.1
  obtain ⟨hx, hc, hi, kh, key⟩ := INV_mod h
  have w := hb.2.2.2.2.1
  obtain ⟨s1, s2⟩ := BC_step (BC_rm (d := 60) (hx := hx) (hc := hc) hb) (by omega)
  exact DT_ok (fun G0 Q => d_step w.1 w.2.1 w.2.2.2.1 hz hi) (fun C0 z0 Q => m_step hb.1 (wM_of w) kh) (vI s1) ⟨_, rfl⟩ (key (m + 1000) _ _ r c n (by omega) FRK_lwE (BC_up s2 (by omega)))
theorem t_save (h : INV C G m) : DT2 248 249 [.ref 59] [.ref 124] VI C G z m := by
  obtain ⟨⟨r, c, n, hb⟩, ⟨hx, hc, R⟩, s, t, e, l⟩ := id h
  have cp := BC_cp i70 i60 (by decide) hb
  have c59 : ∀ j, ¬ j = 3 → svC C 59 j = C 59 j := fun j hj => by
    unfold svC
    rw [us_same]
    exact if_neg hj
  have co : ∀ i, ¬ i = 59 → (i < 70 ∨ 74 < i) → svC C i = C i := fun i h1 h2 => (us_ne h1).trans (cpB_o h2)
  have go : ∀ i, ¬ i = 124 → ¬ i = 127 → svM G i = G i := fun i h1 h2 => (us_ne h2).trans (us_ne h1)
  have gj : ∀ j, ¬ j = 7 → ¬ j = 4 → svM G 124 j = G 124 j := fun j h1 h2 => by
    unfold svM
    rw [us_ne (by decide), us_same]
    unfold upd
    rw [if_neg h2, if_neg h1]
  have g127 : ∀ j, j < 41 → svM G 127 j = G 125 j := fun j hj => by
    unfold svM
    rw [us_same]
    unfold cpy
    rw [if_pos (by omega)]
    exact congrArg (G 125) (by omega)
  refine DT_ok (fun G0 Q => d_save (pat hb).2) (fun C0 z0 Q => m_save) (vI ?_) ⟨_, rfl⟩ ⟨HB_cg ⟨r, c, n, hb⟩ (by omega) (fun i i1 i2 => co i (by omega) (by omega)) (go 125 (by decide) (by decide)), ⟨hx, hc, HR_cg R (by omega) (fun i i1 i2 => co i (by omega) (by omega)) (gj 5 (by decide) (by decide)) (gj 6 (by decide) (by decide)) (go 126 (by decide) (by decide))⟩, ⟨rfl, .inr ⟨r, c, n, BC_up (BC_g (BC_o cp (fun i i1 i2 => us_ne (by omega))) g127) (by omega)⟩⟩, HT_cg t (co 121 (by decide) (by decide)) (co 122 (by decide) (by decide)) (gj 9 (by decide) (by decide)) (go 129 (by decide) (by decide)), HE_cg e (c59 7 (by decide)) (c59 8 (by decide)) (gj 10 (by decide) (by decide)) (gj 11 (by decide) (by decide)), HL_cg l (c59 10 (by decide)) (co 123 (by decide) (by decide)) (gj 13 (by decide) (by decide)) (go 130 (by decide) (by decide))⟩
  rw [hb.2.2.1.1, hb.2.2.1.2.1, hb.1.1, hb.1.2.1]
end Plain
