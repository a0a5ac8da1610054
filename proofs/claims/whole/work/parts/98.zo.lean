/-! the test by parities -/
theorem xany_no {S : Type} {c : Nat → S → Bool} {f : Nat → S → S} : ∀ n k s, xany c f n k s = false ↔ ∀ m, m < n → c (k + m) (itr f m k s) = false
  | 0, _, _ => ⟨fun _ m hm => absurd hm (Nat.not_lt_zero m), fun _ => rfl⟩
  | n + 1, k, s => by
    unfold xany
    rw [Bool.or_eq_false_iff, xany_no n (k + 1) (f k s)]
    constructor
    · rintro ⟨h1, h2⟩ m hm
      match m, hm with
      | 0, _ => exact h1
      | m + 1, hm =>
        have := h2 m (by omega)
        rw [show k + (m + 1) = k + 1 + m from by omega]
        exact this
    · intro h
      refine ⟨h 0 (by omega), fun m hm => ?_⟩
      have := h (m + 1) (by omega)
      rw [show k + (m + 1) = k + 1 + m from by omega] at this
      exact this
theorem cb_odd {f : Nat → Bool} : ∀ n, decide (cbn f n % 2 = 1) = pr f n
  | 0 => rfl
  | n + 1 => by
    show decide ((cbn f n + (f n).toNat) % 2 = 1) = (pr f n != f n)
    rw [← cb_odd n]
    cases f n
    · show decide ((cbn f n + 0) % 2 = 1) = (decide (cbn f n % 2 = 1) != false)
      rw [Nat.add_zero, Bool.bne_false]
    · show decide ((cbn f n + 1) % 2 = 1) = (decide (cbn f n % 2 = 1) != true)
      by_cases q : cbn f n % 2 = 1
      · rw [decide_eq_true q, decide_eq_false (by omega)]; rfl
      · rw [decide_eq_false q, decide_eq_true (by omega)]; rfl
theorem cb_le {f : Nat → Bool} : ∀ n, cbn f n ≤ n
  | 0 => Nat.le_refl 0
  | n + 1 => by
    show cbn f n + (f n).toNat ≤ n + 1
    have := cb_le (f := f) n
    have : (f n).toNat ≤ 1 := by cases f n <;> decide
    omega
theorem SR_and {r c : Nat} {x y x' y' : Int32} (h : SR r c x y) (h' : SR r c x' y') : SR r c (x &&& x') (y &&& y') := by
  refine ⟨fun j hj => ?_, fun k hk => ?_⟩
  · rw [gb_and, gb_and, h.1 j hj, h'.1 j hj]
    by_cases a : j % 6 < c ∧ j / 6 < r <;> simp [a]
  · rw [gb_and, h.2 k hk, h'.2 k hk]; rfl
theorem od_pI {C G : HP} {b r c : Nat} {x y : Int32} (h : SV C G b r c) (hx : SR r c x y) : odI (x &&& (C b 4 ^^^ C b 6)) = pI (dD G) y := by
  have hg := h.1
  have hr := hg.2.2.2.1
  have hc := hg.2.2.2.2.2
  have sa := SR_and hx h.2.2.2.2.1
  have e := SR_cnt hr hc sa
  have d : ∀ n, n < 26 → decide (¬ Int32.ofNat n - Int32.ofNat n / 2 * 2 = 0) = decide (n % 2 = 1) := by decide +kernel
  unfold odI
  rw [e, bits25, d _ (Nat.lt_succ_of_le (cb_le 25)), cb_odd]
  unfold pI
  apply pr_cg
  intro k _
  rw [gb_and]
  rfl
theorem tn_pow : ((List.range 11).all fun q => (List.range q).all fun i => decide (tnM q (2 ^ i) = i)) = true := by decide +kernel
theorem evP_can {C G : HP} {b r c : Nat} (h : SV C G b r c) : evP C b = true ↔ can (G 125 2) r c (dD G) := by
  have hg := h.1
  have hp := h.2.1
  have hr := hg.2.2.2.1
  have hc := hg.2.2.2.2.2
  obtain ⟨f1, f2, f3, f4, f5, f6, f7, f8, f9, f10⟩ := ck_f (ck_all hp hr hc)
  obtain ⟨qe, qr⟩ := qu_rel h
  have q10 := quT_10 h
  have al := quT_all h
  have hp2 := pw_le (q := (quT G r c).1) (by omega)
  have hb : elC C b b = C b := elC_lo h.2.2.2.2.2
  have tosets : (∀ i, i < (quT G r c).1 → pI (dD G) ((quT G r c).2 i) = false) ↔ can (G 125 2) r c (dD G) := by
    rw [al]
    constructor
    · intro q v hv; exact spn q (f8 v hv)
    · intro q v hv; exact spn q (f7 v hv)
  rw [← tosets]
  unfold evP hpI
  rw [hb, qe]
  generalize hq : (quT G r c).1 = q at *
  have bn : (!xany (fun k s => odI ((s ^^^ chI (elC C b 120) q (Int32.ofNat k)) &&& (C b 4 ^^^ C b 6))) (fun k s => s ^^^ chI (elC C b 120) q (Int32.ofNat k)) (2 ^ q - 1) 1 0) = true ↔ xany (fun k s => odI ((s ^^^ chI (elC C b 120) q (Int32.ofNat k)) &&& (C b 4 ^^^ C b 6))) (fun k s => s ^^^ chI (elC C b 120) q (Int32.ofNat k)) (2 ^ q - 1) 1 0 = false := by
    cases xany (fun k s => odI ((s ^^^ chI (elC C b 120) q (Int32.ofNat k)) &&& (C b 4 ^^^ C b 6))) (fun k s => s ^^^ chI (elC C b 120) q (Int32.ofNat k)) (2 ^ q - 1) 1 0 <;> simp
  rw [bn, xany_no]
  -- the partial sums, in the reference's layout
  have run : ∀ m, m ≤ 2 ^ q - 1 → SR r c (itr (fun k s => s ^^^ chI (elC C b 120) q (Int32.ofNat k)) m 1 0) (itr (fun k s => s ^^^ (quT G r c).2 (tnM q k)) m 1 0) := by
    intro m hm
    have := itr_rel (f := fun k s => s ^^^ chI (elC C b 120) q (Int32.ofNat k)) (g := fun k s => s ^^^ (quT G r c).2 (tnM q k)) (fun k s t => SR r c s t) m 1 0 0 SR_0 (fun k s t k1 k2 hst => by
      obtain ⟨c1, c2⟩ := ch_eq (F := elC C b 120) (q := q) (k := k) q10 (by omega) (by omega)
      show SR r c (s ^^^ chI (elC C b 120) q (Int32.ofNat k)) _
      rw [c1]
      exact SR_xor hst (qr _ c2))
    exact this
  have step : ∀ m, m < 2 ^ q - 1 → odI ((itr (fun k s => s ^^^ chI (elC C b 120) q (Int32.ofNat k)) m 1 0 ^^^ chI (elC C b 120) q (Int32.ofNat (1 + m))) &&& (C b 4 ^^^ C b 6)) = pI (dD G) (itr (fun k s => s ^^^ (quT G r c).2 (tnM q k)) (m + 1) 1 0) := by
    intro m hm
    have r1 := run (m + 1) (by omega)
    rw [itr_last] at r1
    rw [← od_pI h r1]
  have sumI' : ∀ m, pI (dD G) (itr (fun k s => s ^^^ (quT G r c).2 (tnM q k)) (m + 1) 1 0) = (pI (dD G) (itr (fun k s => s ^^^ (quT G r c).2 (tnM q k)) m 1 0) != pI (dD G) ((quT G r c).2 (tnM q (1 + m)))) := by
    intro m
    rw [itr_last, pI_xor]
  constructor
  · intro hx i hi
    have par0 : ∀ m, m ≤ 2 ^ q - 1 → pI (dD G) (itr (fun k s => s ^^^ (quT G r c).2 (tnM q k)) m 1 0) = false := by
      intro m hm
      match m, hm with
      | 0, _ => exact pI_0
      | m + 1, hm =>
        rw [← step m (by omega)]
        exact hx m (by omega)
    have pi : 2 ^ i ≤ 2 ^ q - 1 := by
      have := Nat.pow_lt_pow_right (a := 2) (by decide) hi
      omega
    have p1 : 1 ≤ 2 ^ i := Nat.one_le_two_pow
    have a1 := par0 (2 ^ i - 1 + 1) (by omega)
    rw [sumI', par0 (2 ^ i - 1) (by omega), show 1 + (2 ^ i - 1) = 2 ^ i from by omega, of_decide_eq_true (List.all_eq_true.mp (List.all_eq_true.mp tn_pow q (List.mem_range.mpr (by omega))) i (List.mem_range.mpr hi))] at a1
    cases z : pI (dD G) ((quT G r c).2 i)
    · rfl
    · rw [z] at a1; exact Bool.noConfusion a1
  · intro hz m hm
    rw [step m hm]
    have par0 : ∀ m, m ≤ 2 ^ q - 1 → pI (dD G) (itr (fun k s => s ^^^ (quT G r c).2 (tnM q k)) m 1 0) = false := by
      intro m
      induction m with
      | zero => intro _; exact pI_0
      | succ m ih =>
        intro hm
        obtain ⟨c1, c2⟩ := ch_eq (F := elC C b 120) (q := q) (k := 1 + m) q10 (by omega) (by omega)
        rw [sumI', ih (by omega), hz _ c2]
        rfl
    exact par0 (m + 1) (by omega)
/-- the unions of the quiet sets agree -/
theorem qc_rel {C G : HP} {b r c : Nat} (h : SV C G b r c) : SR r c (qcI (elC C b 120) (qN C b)) (aqM G r c) := by
  obtain ⟨qe, qr⟩ := qu_rel h
  unfold qcI aqM
  rw [qe]
  have := itr_rel (f := fun j s => s ||| elC C b 120 j) (g := fun j s => s ||| (quT G r c).2 j) (fun _ s t => SR r c s t) (quT G r c).1 0 0 0 SR_0 (fun j s t _ hj hst => SR_or hst (qr j (by omega)))
  exact this
theorem slM_can {C G : HP} {b r c : Nat} (h : SV C (sc G 0) b r c) : slM' G r c = true ↔ can (G 125 2) r c (dD G) := by
  have f := fd_can h
  unfold slM'
  rw [decide_eq_true_eq]
  constructor
  · intro q
    by_cases z : can (sc G 0 125 2) r c (dD (sc G 0))
    · exact z
    · have := f.2 z
      rw [this] at q
      exact absurd q (by decide)
  · intro q
    exact Int32.not_lt.mp (f.1 q).2
