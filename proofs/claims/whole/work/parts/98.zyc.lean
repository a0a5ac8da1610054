/-! THE RELATION OF THE TWO SIDES, and what keeps it -/
theorem BC_g {C : HP} {b r c n m : Nat} {g g' : Nat → Int32} (h : BC C b g r c n m) (hg : ∀ j, j < 41 → g' j = g j) : BC C b g' r c n m := BA_cg h (fun _ _ => rfl) (fun _ _ => rfl) rfl (fun _ _ => rfl) (fun _ _ => rfl) hg
def HB (C G : HP) (m : Nat) : Prop := ∃ r c n, BC C 60 (G 125) r c n m
def ROW (F : Nat → Int32) (t : Nat) : Nat → Int32 := fun j => F (41 * t + j)
def HR (C G : HP) (hx hc m : Nat) : Prop := (C 75 1 = Int32.ofNat hx ∧ hx < 8 ∧ C 75 2 = Int32.ofNat hc ∧ hc ≤ 8) ∧ kH G hc false ∧ ∀ t, t < hc → ∃ r c n, BC C (77 + 5 * ((hx + 8 - hc + t) % 8)) (ROW (G 126) t) r c n m
def HS (C G : HP) (m : Nat) : Prop := C 59 3 = G 124 4 ∧ (G 124 4 = 0 ∨ ∃ r c n, BC C 70 (G 127) r c n m)
def HT (C G : HP) : Prop := ∃ l, tI' C l ∧ tL G l ∧ TX C G l
def eN (x : Int32) : Prop := x = -1 ∨ ∃ k, k < 1000 ∧ x = Int32.ofNat k
def HEr (C G : HP) : Prop := (C 59 7 = G 124 10 ∧ eN (C 59 7)) ∧ C 59 8 = G 124 11 ∧ eN (C 59 8)
def HL (C G : HP) : Prop := ∃ k, (C 59 10 = Int32.ofNat k ∧ G 124 13 = Int32.ofNat k ∧ k ≤ 10) ∧ ∀ i, i < k → C 123 i = G 130 i ∧ okPut 1 (.int (C 123 i))
def INV (C G : HP) (m : Nat) : Prop := HB C G m ∧ (∃ hx hc, HR C G hx hc m) ∧ HS C G m ∧ HT C G ∧ HEr C G ∧ HL C G
/-- what questions leave as it was -/
def FQ (C C' : HP) : Prop := ∀ i, i < 117 ∨ 120 < i → C' i = C i
def FM' (G G' : HP) : Prop := FRM G G' ∧ G' 125 = G 125
theorem HR_cg {C C' G G' : HP} {hx hc m m' : Nat} (h : HR C G hx hc m) (hm : m ≤ m') (hC : ∀ i, 75 ≤ i → i < 117 → C' i = C i) (h5 : G' 124 5 = G 124 5) (h6 : G' 124 6 = G 124 6) (h126 : G' 126 = G 126) : HR C' G' hx hc m' := by
  obtain ⟨⟨a1, a2, a3, a4⟩, k, b⟩ := h
  have e := hC 75 (by omega) (by omega)
  refine ⟨⟨by rw [e]; exact a1, a2, by rw [e]; exact a3, a4⟩, ⟨by rw [h6]; exact k.1, by rw [h5]; exact k.2.1, k.2.2⟩, fun t ht => ?_⟩
  obtain ⟨r, c, n, q⟩ := b t ht
  rw [h126]
  exact ⟨r, c, n, BC_up (BC_o q (fun i h1 h2 => hC i (by omega) (by omega))) hm⟩
theorem HS_cg {C C' G G' : HP} {m m' : Nat} (h : HS C G m) (hm : m ≤ m') (h3 : C' 59 3 = C 59 3) (hC : ∀ i, 70 ≤ i → i ≤ 74 → C' i = C i) (h4 : G' 124 4 = G 124 4) (h127 : G' 127 = G 127) : HS C' G' m' := by
  refine ⟨by rw [h3, h4]; exact h.1, ?_⟩
  rcases h.2 with q | ⟨r, c, n, q⟩
  · exact .inl (h4.trans q)
  · exact .inr ⟨r, c, n, by rw [h127]; exact BC_up (BC_o q (fun i h1 h2 => hC i h1 (by omega))) hm⟩
theorem HT_cg {C C' G G' : HP} (h : HT C G) (h1 : C' 121 = C 121) (h2 : C' 122 = C 122) (h9 : G' 124 9 = G 124 9) (h129 : G' 129 = G 129) : HT C' G' := by
  obtain ⟨l, a, b, c⟩ := h
  exact ⟨l, tI_cg a h1 h2, ⟨by rw [h9]; exact b.1, b.2⟩, TX_cg c h2 h129⟩
theorem HE_cg {C C' G G' : HP} (h : HEr C G) (h7 : C' 59 7 = C 59 7) (h8 : C' 59 8 = C 59 8) (h10 : G' 124 10 = G 124 10) (h11 : G' 124 11 = G 124 11) : HEr C' G' := by
  unfold HEr
  rw [h7, h8, h10, h11]
  exact h
theorem HL_cg {C C' G G' : HP} (h : HL C G) (h10 : C' 59 10 = C 59 10) (h123 : C' 123 = C 123) (h13 : G' 124 13 = G 124 13) (h130 : G' 130 = G 130) : HL C' G' := by
  unfold HL
  rw [h10, h123, h13, h130]
  exact h
theorem HB_cg {C C' G G' : HP} {m m' : Nat} (h : HB C G m) (hm : m ≤ m') (hC : ∀ i, 60 ≤ i → i ≤ 64 → C' i = C i) (hG : G' 125 = G 125) : HB C' G' m' := by
  obtain ⟨r, c, n, q⟩ := h
  rw [HB, hG]
  exact ⟨r, c, n, BC_up (BC_o q (fun i h1 h2 => hC i h1 (by omega))) hm⟩
/-- questions keep the relation -/
theorem INV_q {C C' G G' : HP} {m m' : Nat} (h : INV C G m) (hm : m ≤ m') (fC : FQ C C') (fG : FM' G G') : INV C' G' m' := by
  obtain ⟨b, ⟨hx, hc, r⟩, s, t, e, l⟩ := h
  obtain ⟨⟨f1, f2⟩, f5⟩ := fG
  have e59 := fC 59 (by omega)
  exact ⟨HB_cg b hm (fun i _ _ => fC i (by omega)) f5, ⟨hx, hc, HR_cg r hm (fun i _ _ => fC i (by omega)) (f2 5 (by decide) (by decide) (by decide) (by decide)) (f2 6 (by decide) (by decide) (by decide) (by decide)) (f1 126 (by decide) (by decide) (by decide) (by decide) (by decide))⟩, HS_cg s hm (by rw [e59]) (fun i _ _ => fC i (by omega)) (f2 4 (by decide) (by decide) (by decide) (by decide)) (f1 127 (by decide) (by decide) (by decide) (by decide) (by decide)), HT_cg t (fC 121 (by omega)) (fC 122 (by omega)) (f2 9 (by decide) (by decide) (by decide) (by decide)) (f1 129 (by decide) (by decide) (by decide) (by decide) (by decide)), HE_cg e (by rw [e59]) (by rw [e59]) (f2 10 (by decide) (by decide) (by decide) (by decide)) (f2 11 (by decide) (by decide) (by decide) (by decide)), HL_cg l (by rw [e59]) (fC 123 (by omega)) (f2 13 (by decide) (by decide) (by decide) (by decide)) (f1 130 (by decide) (by decide) (by decide) (by decide) (by decide))⟩
theorem FQ_r {C : HP} : FQ C C := fun _ _ => rfl
theorem FQ_el {C : HP} : FQ C (elC C 60) := fun i hi => elC_o hi
theorem FM_sc {G : HP} {v : Int32} : FM' G (sc G v) := ⟨FRM_sc, rfl⟩
theorem FM_em {G : HP} {r c : Nat} : FM' G (emG G r c) := ⟨FRM_em, emG_125⟩
theorem FM_t {G G' G'' : HP} (h : FM' G G') (h' : FM' G' G'') : FM' G G'' := ⟨FRM_t h.1 h'.1, h'.2.trans h.2⟩
/-- a board remembered, on both sides -/
theorem rem_cp {C : HP} {d hx hc i : Nat} (hi : ¬ i = 75) : rem C d hx hc i = cpB C (77 + 5 * hx) d i := us_ne hi
theorem HR_rem {C G : HP} {hx hc m d a r c n : Nat} (h : HR C G hx hc m) (hd : isB d) (hd75 : d < 75) (hb : BC C d (G a) r c n m) : HR (rem C d hx hc) (kp1 G a hc) ((hx + 1) % 8) (if 8 < hc + 1 then 8 else hc + 1) m := by
  obtain ⟨⟨a1, a2, a3, a4⟩, k, b⟩ := h
  have o : ∀ q, q < 8 → ¬ q = hx → ∀ i, 77 + 5 * q ≤ i → i ≤ 77 + 5 * q + 4 → rem C d hx hc i = C i := by
    intro q q8 hq i h1 h2
    rw [rem_cp (by omega)]
    exact cpB_o (by omega)
  have nw : BC (rem C d hx hc) (77 + 5 * hx) (G a) r c n m := by
    have := BC_cp (isBh a2) hd (by have := isB_lt (isBh a2); omega) hb
    exact BC_o this (fun i h1 h2 => rem_cp (by omega))
  refine ⟨⟨rfl, by omega, rfl, by split <;> omega⟩, ⟨?_, ?_, by split <;> omega⟩, fun t ht => ?_⟩
  · unfold kp1
    rw [us_ne (by decide), us_same]
    exact k.1
  · unfold kp1
    rw [us_ne (by decide), us_same]
    show Int32.ofNat ((if hc = 8 then 7 else hc) + 1) = _
    exact congrArg Int32.ofNat (by split <;> split <;> omega)
  · have e126 : kp1 G a hc 126 = cpy (G a) (if hc = 8 then shK (G 126) else G 126) 0 (41 * (if hc = 8 then 7 else hc)) 41 := us_same
    rw [e126]
    by_cases h8 : hc = 8
    · rw [if_pos h8, if_pos h8] at *
      rw [if_pos (by omega)] at ht
      rw [if_pos (by omega)]
      by_cases t7 : t = 7
      · subst t7
        rw [show ((hx + 1) % 8 + 8 - 8 + 7) % 8 = hx from by omega]
        refine ⟨r, c, n, BC_g nw (fun j hj => ?_)⟩
        unfold ROW cpy
        rw [if_pos (by omega)]
        exact congrArg (G a) (by omega)
      · obtain ⟨r', c', n', q⟩ := b (t + 1) (by omega)
        rw [show ((hx + 1) % 8 + 8 - 8 + t) % 8 = (hx + 8 - hc + (t + 1)) % 8 from by omega]
        refine ⟨r', c', n', BC_g (BC_o q (o _ (by omega) (by omega))) (fun j hj => ?_)⟩
        unfold ROW cpy shK
        rw [if_neg (by omega), if_pos (by omega)]
        exact congrArg (G 126) (by omega)
    · rw [if_neg h8, if_neg h8] at *
      rw [if_neg (by omega)] at ht
      rw [if_neg (by omega)]
      by_cases t7 : t = hc
      · subst t7
        rw [show ((hx + 1) % 8 + 8 - (t + 1) + t) % 8 = hx from by omega]
        refine ⟨r, c, n, BC_g nw (fun j hj => ?_)⟩
        unfold ROW cpy
        rw [if_pos (by omega)]
        exact congrArg (G a) (by omega)
      · obtain ⟨r', c', n', q⟩ := b t (by omega)
        rw [show ((hx + 1) % 8 + 8 - (hc + 1) + t) % 8 = (hx + 8 - hc + t) % 8 from by omega]
        refine ⟨r', c', n', BC_g (BC_o q (o _ (by omega) (by omega))) (fun j hj => ?_)⟩
        unfold ROW cpy
        rw [if_neg (by omega)]
theorem BC_rm {C : HP} {d hx hc r c n m : Nat} {g : Nat → Int32} (h : BC C 60 g r c n m) : BC (rem C d hx hc) 60 g r c n m := BC_o h (fun i _ h2 => rem_lo (by omega))
theorem rem_hi {C : HP} {d hx hc i : Nat} (h8 : hx < 8) (hi : 117 ≤ i) : rem C d hx hc i = C i := by
  rw [rem_cp (by omega)]
  exact cpB_o (by omega)
/-- a change keeps the relation -/
theorem INV_mod {C G : HP} {m : Nat} (h : INV C G m) : ∃ hx hc, hI C hx hc ∧ kH G hc false ∧ ∀ (m' : Nat) (C' : HP) (g' : Nat → Int32) (r c n : Nat), m ≤ m' → FRK (rem C 60 hx hc) C' → BC C' 60 g' r c n m' → INV C' (us (kpG G 125 hc false) 125 g') m' := by
  obtain ⟨⟨r, c, n, b⟩, ⟨hx, hc, R⟩, s, t, e, l⟩ := h
  have ip := b.2.1
  have e3 : C 60 3 = G 125 2 := b.2.2.1.2.2.2.1
  have h8 := R.1.2.1
  refine ⟨hx, hc, ⟨by rw [e3]; exact (iS_c ip).2, R.1⟩, R.2.1, fun m' C' g' r' c' n' hm f b' => ?_⟩
  have kp : kpG G 125 hc false = kp1 G 125 hc := if_neg Bool.false_ne_true
  rw [kp]
  have ko : ∀ i, ¬ i = 124 → ¬ i = 125 → ¬ i = 126 → us (kp1 G 125 hc) 125 g' i = G i := fun i i1 i2 i3 => by
    rw [us_ne i2]
    unfold kp1
    rw [us_ne i3, us_ne i1]
  have kj : ∀ j, ¬ j = 7 → ¬ j = 5 → us (kp1 G 125 hc) 125 g' 124 j = G 124 j := fun j j1 j2 => by
    rw [us_ne (by decide)]
    unfold kp1
    rw [us_ne (by decide), us_same]
    unfold upd
    rw [if_neg j2, if_neg j1]
  have R' := HR_rem R i60 (by decide) b
  have c59 : C' 59 = C 59 := (f 59 (by omega)).trans (rem_lo (by omega))
  have c70 : ∀ i, 70 ≤ i → i ≤ 74 → C' i = C i := fun i i1 i2 => (f i (by omega)).trans (rem_lo (by omega))
  have chi : ∀ i, 121 ≤ i → C' i = C i := fun i i1 => (f i (by omega)).trans (rem_hi h8 (by omega))
  exact ⟨⟨r', c', n', b'⟩, ⟨_, _, HR_cg R' hm (fun i i1 i2 => f i (by omega)) (by rw [us_ne (by decide)]) (by rw [us_ne (by decide)]) (by rw [us_ne (by decide)])⟩, HS_cg s hm (by rw [c59]) c70 (kj 4 (by decide) (by decide)) (ko 127 (by decide) (by decide) (by decide)), HT_cg t (chi 121 (by omega)) (chi 122 (by omega)) (kj 9 (by decide) (by decide)) (ko 129 (by decide) (by decide) (by decide)), HE_cg e (by rw [c59]) (by rw [c59]) (kj 10 (by decide) (by decide)) (kj 11 (by decide) (by decide)), HL_cg l (by rw [c59]) (chi 123 (by omega)) (kj 13 (by decide) (by decide)) (ko 130 (by decide) (by decide) (by decide))⟩
