section Main
variable {l : Launch} {γ : Nat → Nat} {D : va_G} {dA : Nat → ClassId} {B : Nat} {E : List AC}
theorem GM_mono (k b kc ks : Nat) (ls st : List Value) (w : AW) (R R' : AQ) (hR : ∀ o w, R o w → R' o w) (h : GM l γ D dA B E k b kc ks ls st w R) : GM l γ D dA B E k b kc ks ls st w R' := by
  intro p e s m args below meth c H locs lsA C hE hKK hS hW hL hc T hT X
  obtain ⟨t, a1, o, b1, b2, b3⟩ := h p e s m args below meth c H locs lsA C hE hKK hS hW hL hc T hT X
  refine ⟨t, a1, o, b1, b2, ?_⟩
  rcases b3 with ⟨⟨v, w9, q1, q2, q3⟩, q4⟩ | b3
  · exact Or.inl ⟨⟨v, w9, q1, hR _ _ q2, q3⟩, q4⟩
  · obtain ⟨q, e1, E9, ce, L, ⟨w9, q2, q3⟩, z⟩ := b3
    exact Or.inr ⟨q, e1, E9, ce, L, ⟨w9, hR _ _ q2, q3⟩, z⟩
variable {k : Nat} {p : Program} {e : Env} {s : State} {m : MethodId} {args : Array Value} {below : List Frame} {meth : Method} {c : Code}
set_option maxHeartbeats 1000000 in
/-- one row is sound -/
theorem row_ok {Q : AQ} {K : Nat → Nat → List Value → List Value → AW → Prop} {pc len kc ks : Nat} {i : Instr} {d : List Nat} {ls st : List Value} {w : AW}
    (C : Ctx k p s m args meth c) (hE : Ext γ B E s s.heap) (hKK : va_K D kcl (tysOf dA) s) (hγ : ∀ i, k0 ≤ i → γ i = B + (i - k0)) (hEo : ∀ (i ci : Nat) (fs : List Value), E[i]? = some (Sum.inr (ci, fs) : AC) → 100 ≤ ci) (hlt : l.stackTraces = false)
    (hD : isThr i = true ∨ ckD k pc len i = true) (hR : ckRow k pc i d = true)
    (hK : falls i = true → ∀ kc ks ls st w, K kc ks ls st w → WJ l γ D dA B E k p e s m args below meth c (mRm k) (ZM γ D dA B E k below args s Q) (pc + ilen i) kc ks ls st w)
    (h : isd (GM l γ D dA B E) k (mT k).2.1 Q K (sd (mT k).2.2.1 (mT k).2.1 (mT k).2.2.2 i d kc ks ls st w)) : WJ l γ D dA B E k p e s m args below meth c (mRm k) (ZM γ D dA B E k below args s Q) pc kc ks ls st w := by
  have hG : ∀ t kc ks ls st w, GM l γ D dA B E k t kc ks ls st w Q → WJ l γ D dA B E k p e s m args below meth c (mRm k) (ZM γ D dA B E k below args s Q) (pcs k t) kc ks ls st w :=
    fun t kc ks ls st w g hc H locs lsA hS hW hL => g p e s m args below meth c H locs lsA C hE hKK hS hW hL hc
  have hx := C.1
  have hb := C.2.1
  have hts := C.2.2.2.2.2.1
  have hcap : (mT k).2.2.1.1 ≤ (mRm k).cells ∧ (mT k).2.2.1.2 ≤ (mRm k).slots := ⟨Nat.le_refl _, Nat.le_refl _⟩
  have hdg : isThr i = true ∨ (isSw i = false → decode (mB k) pc = .ok (i, ilen i)) ∧ decode (mB k) pc = .ok (i, len) := by
    rcases hD with q | q
    · exact Or.inl q
    · simp only [ckD, Bool.and_eq_true, decide_eq_true_eq, Bool.or_eq_true, beq_iff_eq] at q
      refine Or.inr ⟨fun z => ?_, q.1⟩
      rcases q.2 with q2 | q2
      · rw [z] at q2; cases q2
      · rw [← q2]; exact q.1
  have hB1 : ∀ {off : Int}, ckB k pc off d = true → ∀ t, d = [t] → (pc : Int) + off = (pcs k t : Int) := fun {off} q t hd => by
    subst hd
    exact of_decide_eq_true q
  cases i with
  | aload n => exact st_aload hx hb ((hdg.resolve_left Bool.false_ne_true).1 rfl) (hK rfl) h
  | aload_n n => exact st_aload_n hx hb ((hdg.resolve_left Bool.false_ne_true).1 rfl) (hK rfl) h
  | iload n => exact st_iload hx hb ((hdg.resolve_left Bool.false_ne_true).1 rfl) (hK rfl) h
  | iload_n n => exact st_iload_n hx hb ((hdg.resolve_left Bool.false_ne_true).1 rfl) (hK rfl) h
  | dload n => exact st_dload hx hb ((hdg.resolve_left Bool.false_ne_true).1 rfl) (hK rfl) h
  | iinc n z => exact st_iinc hx hb ((hdg.resolve_left Bool.false_ne_true).1 rfl) (hK rfl) h
  | iconst n => exact st_iconst hx hb ((hdg.resolve_left Bool.false_ne_true).1 rfl) (hK rfl) h
  | bipush n => exact st_bipush hx hb ((hdg.resolve_left Bool.false_ne_true).1 rfl) (hK rfl) h
  | sipush n => exact st_sipush hx hb ((hdg.resolve_left Bool.false_ne_true).1 rfl) (hK rfl) h
  | lconst n => exact st_lconst hx hb ((hdg.resolve_left Bool.false_ne_true).1 rfl) (hK rfl) h
  | aconst_null => exact st_null hx hb ((hdg.resolve_left Bool.false_ne_true).1 rfl) (hK rfl) h
  | istore n => exact st_istore hx hb ((hdg.resolve_left Bool.false_ne_true).1 rfl) (hK rfl) h
  | istore_n n => exact st_istore_n hx hb ((hdg.resolve_left Bool.false_ne_true).1 rfl) (hK rfl) h
  | astore n => exact st_astore hx hb ((hdg.resolve_left Bool.false_ne_true).1 rfl) (hK rfl) h
  | astore_n n => exact st_astore_n hx hb ((hdg.resolve_left Bool.false_ne_true).1 rfl) (hK rfl) h
  | dstore n => exact st_dstore hx hb ((hdg.resolve_left Bool.false_ne_true).1 rfl) (hK rfl) h
  | iadd => exact st_iadd hx hb ((hdg.resolve_left Bool.false_ne_true).1 rfl) (hK rfl) h
  | isub => exact st_isub hx hb ((hdg.resolve_left Bool.false_ne_true).1 rfl) (hK rfl) h
  | imul => exact st_imul hx hb ((hdg.resolve_left Bool.false_ne_true).1 rfl) (hK rfl) h
  | iand => exact st_iand hx hb ((hdg.resolve_left Bool.false_ne_true).1 rfl) (hK rfl) h
  | ior => exact st_ior hx hb ((hdg.resolve_left Bool.false_ne_true).1 rfl) (hK rfl) h
  | ixor => exact st_ixor hx hb ((hdg.resolve_left Bool.false_ne_true).1 rfl) (hK rfl) h
  | ishl => exact st_ishl hx hb ((hdg.resolve_left Bool.false_ne_true).1 rfl) (hK rfl) h
  | ishr => exact st_ishr hx hb ((hdg.resolve_left Bool.false_ne_true).1 rfl) (hK rfl) h
  | ineg => exact st_ineg hx hb ((hdg.resolve_left Bool.false_ne_true).1 rfl) (hK rfl) h
  | i2f => exact st_i2f hx hb ((hdg.resolve_left Bool.false_ne_true).1 rfl) (hK rfl) h
  | i2d => exact st_i2d hx hb ((hdg.resolve_left Bool.false_ne_true).1 rfl) (hK rfl) h
  | iushr => exact st_iushr hx hb ((hdg.resolve_left Bool.false_ne_true).1 rfl) (hK rfl) h
  | i2l => exact st_i2l hx hb ((hdg.resolve_left Bool.false_ne_true).1 rfl) (hK rfl) h
  | i2c => exact st_i2c hx hb ((hdg.resolve_left Bool.false_ne_true).1 rfl) (hK rfl) h
  | i2b => exact st_i2b hx hb ((hdg.resolve_left Bool.false_ne_true).1 rfl) (hK rfl) h
  | idiv => exact st_idiv hx hb ((hdg.resolve_left Bool.false_ne_true).1 rfl) (hK rfl) h
  | irem => exact st_irem hx hb ((hdg.resolve_left Bool.false_ne_true).1 rfl) (hK rfl) h
  | f2d => exact st_f2d hx hb ((hdg.resolve_left Bool.false_ne_true).1 rfl) (hK rfl) h
  | fdiv => exact st_fdiv hx hb ((hdg.resolve_left Bool.false_ne_true).1 rfl) (hK rfl) h
  | ddiv => exact st_ddiv hx hb ((hdg.resolve_left Bool.false_ne_true).1 rfl) (hK rfl) h
  | lcmp => exact st_lcmp hx hb ((hdg.resolve_left Bool.false_ne_true).1 rfl) (hK rfl) h
  | dcmp op => exact st_dcmp hx hb ((hdg.resolve_left Bool.false_ne_true).1 rfl) (hK rfl) h
  | dup => exact st_dup hx hb ((hdg.resolve_left Bool.false_ne_true).1 rfl) (hK rfl) h
  | dup2 => exact st_dup2 hx hb ((hdg.resolve_left Bool.false_ne_true).1 rfl) (hK rfl) h
  | pop => exact st_pop hx hb ((hdg.resolve_left Bool.false_ne_true).1 rfl) (hK rfl) h
  | ifCond cn off => exact st_if hx hb ((hdg.resolve_left Bool.false_ne_true).1 rfl) (hB1 hR) hG (hK rfl) h
  | if_icmp cn off => exact st_ic hx hb ((hdg.resolve_left Bool.false_ne_true).1 rfl) (hB1 hR) hG (hK rfl) h
  | goto off => exact st_goto hx hb ((hdg.resolve_left Bool.false_ne_true).1 rfl) (hB1 hR) hG h
  | ifnull off => exact st_ifnull hx hb ((hdg.resolve_left Bool.false_ne_true).1 rfl) (hB1 hR) hG (hK rfl) h
  | ifnonnull off => exact st_ifnonnull hx hb ((hdg.resolve_left Bool.false_ne_true).1 rfl) (hB1 hR) hG (hK rfl) h
  | tableswitch df lo hi offs => exact st_tsw hx hb (hdg.resolve_left Bool.false_ne_true).2 (fun td l9 q => by subst q; exact hR) hG h
  | lookupswitch df ps =>
    exact st_lsw hx hb (hdg.resolve_left Bool.false_ne_true).2 (fun td l9 q => by
      subst q
      simp only [ckRow, Bool.and_eq_true, decide_eq_true_eq] at hR
      exact ⟨hR.1.1, hR.1.2, hR.2⟩) hG h
  | aastore => exact st_aastore C hKK hγ ((hdg.resolve_left Bool.false_ne_true).1 rfl) (hK rfl) h
  | getfield n =>
    exact st_getf C hE hKK hEo hγ ((hdg.resolve_left Bool.false_ne_true).1 rfl) (fun ci kk pi q => by
      subst q
      simp only [ckRow, Bool.and_eq_true, decide_eq_true_eq, Bool.or_eq_true] at hR
      refine ⟨fun q => ?_, fun q => ?_, inW_gw hR.2⟩
      · rcases hR.1 with (a | a) | a
        · exact a.2
        · omega
        · omega
      · rcases hR.1 with (a | a) | a
        · omega
        · exact Or.inl a
        · exact Or.inr a) (hK rfl) h
  | putfield n =>
    exact st_putf C hE hKK hγ ((hdg.resolve_left Bool.false_ne_true).1 rfl) (fun ci kk pi t fi q => by
      subst q
      simp only [ckRow, Bool.and_eq_true, decide_eq_true_eq, Bool.or_eq_true, Bool.not_eq_true'] at hR
      refine ⟨hR.1.1.1, inW_gw hR.1.1.2, fun q => ?_, hR.2⟩
      rcases hR.1.2 with a | a
      · rw [q] at a; cases a
      · exact a) (hK rfl) h
  | getstatic n =>
    exact st_gets C hE hKK hγ ((hdg.resolve_left Bool.false_ne_true).1 rfl) (fun j pi q => by
      subst q
      exact inW_gw hR) (hK rfl) h
  | ldc n =>
    exact st_ldc C hE ((hdg.resolve_left Bool.false_ne_true).1 rfl) ⟨fun v pi q => by
      subst q
      exact inW_gw hR, fun x pi q => by
      subst q
      obtain ⟨⟨q1, q2, q3, q4⟩, z1, z2⟩ := List.any_eq_true.mp hR
      simp only [Bool.and_eq_true, beq_iff_eq] at z2
      obtain ⟨y1, y2, y3⟩ := z2
      refine ⟨q3, ?_⟩
      rw [← y1, ← y2, ← y3]
      exact z1⟩ (hK rfl) h
  | ldc_w n =>
    exact st_ldcw C ((hdg.resolve_left Bool.false_ne_true).1 rfl) ⟨fun v pi q => by
      subst q
      exact inW_gw hR, fun x pi q => by
      subst q
      cases hR⟩ (hK rfl) h
  | new n =>
    exact st_new C hE hKK hγ ((hdg.resolve_left Bool.false_ne_true).1 rfl) hcap (fun ci N p1 p2 p3 q => by
      subst q
      simp only [ckRow, Bool.and_eq_true, decide_eq_true_eq] at hR
      exact ⟨hR.1.1.1.1, hR.1.1.1.2, inW_gw hR.1.1.2, inW_gw hR.1.2, inW_gw hR.2⟩) (hK rfl) h
  | newarray ty =>
    exact st_newa C hE hKK hγ ((hdg.resolve_left Bool.false_ne_true).1 rfl) hcap (fun t p1 q => by
      subst q
      simp only [ckRow, Bool.and_eq_true, decide_eq_true_eq] at hR
      exact ⟨hR.1.1, hR.1.2, inW_gw hR.2⟩) (hK rfl) h
  | anewarray n =>
    exact st_anewa C hE hKK hγ ((hdg.resolve_left Bool.false_ne_true).1 rfl) hcap (fun t p1 p2 q => by
      subst q
      exact inW_gw hR) (hK rfl) h
  | arraylength => exact st_alen C hE hKK hγ ((hdg.resolve_left Bool.false_ne_true).1 rfl) (hK rfl) h
  | iaload => exact st_iaload C hE hKK hγ ((hdg.resolve_left Bool.false_ne_true).1 rfl) (hK rfl) h
  | caload => exact st_caload C hE hKK hγ ((hdg.resolve_left Bool.false_ne_true).1 rfl) (hK rfl) h
  | laload => exact st_laload C hE hKK hγ ((hdg.resolve_left Bool.false_ne_true).1 rfl) (hK rfl) h
  | baload => exact st_baload C hE hKK hγ ((hdg.resolve_left Bool.false_ne_true).1 rfl) (hK rfl) h
  | aaload => exact st_aaload C hE hKK hγ ((hdg.resolve_left Bool.false_ne_true).1 rfl) (hK rfl) h
  | iastore => exact st_iastore C hE hKK hγ ((hdg.resolve_left Bool.false_ne_true).1 rfl) (hK rfl) h
  | castore => exact st_castore C hE hKK hγ ((hdg.resolve_left Bool.false_ne_true).1 rfl) (hK rfl) h
  | lastore => exact st_lastore C hE hKK hγ ((hdg.resolve_left Bool.false_ne_true).1 rfl) (hK rfl) h
  | ireturn => exact st_ireturn C ((hdg.resolve_left Bool.false_ne_true).1 rfl) h
  | return_ => exact st_return C ((hdg.resolve_left Bool.false_ne_true).1 rfl) (of_decide_eq_true hR) h
  | dreturn => exact st_dreturn C ((hdg.resolve_left Bool.false_ne_true).1 rfl) (of_decide_eq_true hR) h
  | freturn => exact st_freturn C ((hdg.resolve_left Bool.false_ne_true).1 rfl) (of_decide_eq_true hR) h
  | areturn =>
    have hR : isObj (mT k).2.2.2 = true := hR
    have : ∃ nm, (mT k).2.2.2 = some (.object nm) := by
      cases hrt : (mT k).2.2.2 with
      | none => rw [hrt] at hR; cases hR
      | some ty =>
        rw [hrt] at hR
        cases ty <;> first | exact ⟨_, rfl⟩ | cases hR
    obtain ⟨nm, hn⟩ := this
    exact st_areturn C ((hdg.resolve_left Bool.false_ne_true).1 rfl) hn h
  | athrow =>
    match d, h, hR with
    | [ei, ik, is, ic, wd, p1, p2], h, hR => exact st_throw C hE hlt hcap hR h
    | [], h, _ => exact absurd h (fun q => q)
    | [_], h, _ => exact absurd h (fun q => q)
    | [_, _], h, _ => exact absurd h (fun q => q)
    | [_, _, _], h, _ => exact absurd h (fun q => q)
    | [_, _, _, _], h, _ => exact absurd h (fun q => q)
    | [_, _, _, _, _], h, _ => exact absurd h (fun q => q)
    | [_, _, _, _, _, _], h, _ => exact absurd h (fun q => q)
    | _ :: _ :: _ :: _ :: _ :: _ :: _ :: _ :: _, h, _ => exact absurd h (fun q => q)
  | invokevirtual n =>
    have hdg := (hdg.resolve_left Bool.false_ne_true).1 rfl
    match d, h, hR with
    | [p1, p2, p3], h, hR =>
      simp only [ckRow, Bool.and_eq_true, decide_eq_true_eq] at hR
      obtain ⟨⟨⟨rfl, r2⟩, r3⟩, r4⟩ := hR
      exact st_ord C hE rfl r2 r3 r4 hdg (hK rfl) h
    | [k', na, ml, mc, ms, kd, ci, pl], h, hR => exact st_call C hE hKK hEo (Or.inl ⟨rfl, rfl⟩) hdg (ckCb_of ckM_all (show ckCb k pc n [k', na, ml, mc, ms, kd, ci, pl] 0 = true from hR)) rfl hG (hK rfl) h
    | [], h, _ => exact absurd h (fun q => q)
    | [_], h, _ => exact absurd h (fun q => q)
    | [_, _], h, _ => exact absurd h (fun q => q)
    | [_, _, _, _], h, _ => exact absurd h (fun q => q)
    | [_, _, _, _, _], h, _ => exact absurd h (fun q => q)
    | [_, _, _, _, _, _], h, _ => exact absurd h (fun q => q)
    | [_, _, _, _, _, _, _], h, _ => exact absurd h (fun q => q)
    | _ :: _ :: _ :: _ :: _ :: _ :: _ :: _ :: _ :: _, h, _ => exact absurd h (fun q => q)
  | invokespecial n =>
    have hdg := (hdg.resolve_left Bool.false_ne_true).1 rfl
    match d, h, hR with
    | [pi], h, hR =>
      simp only [ckRow, Bool.and_eq_true, decide_eq_true_eq] at hR
      have hw := oinitW
      simp only [Bool.and_eq_true] at hw
      exact st_oinit C hdg ⟨hR.1.1, hR.1.2⟩ ⟨inW_gw hR.2, inW_gw hw.1, inW_gw hw.2⟩ (hK rfl) h
    | [k', na, ml, mc, ms, kd, ci, pl], h, hR => exact st_call C hE hKK hEo (Or.inr (Or.inr ⟨rfl, rfl⟩)) hdg (ckCb_of ckM_all (show ckCb k pc n [k', na, ml, mc, ms, kd, ci, pl] 2 = true from hR)) rfl hG (hK rfl) h
    | [], h, _ => exact absurd h (fun q => q)
    | [_, _], h, _ => exact absurd h (fun q => q)
    | [_, _, _], h, _ => exact absurd h (fun q => q)
    | [_, _, _, _], h, _ => exact absurd h (fun q => q)
    | [_, _, _, _, _], h, _ => exact absurd h (fun q => q)
    | [_, _, _, _, _, _], h, _ => exact absurd h (fun q => q)
    | [_, _, _, _, _, _, _], h, _ => exact absurd h (fun q => q)
    | _ :: _ :: _ :: _ :: _ :: _ :: _ :: _ :: _ :: _, h, _ => exact absurd h (fun q => q)
  | invokestatic n =>
    have hdg := (hdg.resolve_left Bool.false_ne_true).1 rfl
    match d, h, hR with
    | [pi], h, hR =>
      simp only [ckRow, Bool.and_eq_true, decide_eq_true_eq] at hR
      have hw := acopyW
      simp only [Bool.and_eq_true] at hw
      exact st_acopy C hKK hγ hdg ⟨hR.1.1, hR.1.2⟩ ⟨inW_gw hR.2, inW_gw hw.1.1, inW_gw hw.1.2, inW_gw hw.2⟩ (hK rfl) h
    | [k', na, ml, mc, ms, kd, ci, pl], h, hR => exact st_call C hE hKK hEo (Or.inr (Or.inl ⟨rfl, rfl⟩)) hdg (ckCb_of ckM_all (show ckCb k pc n [k', na, ml, mc, ms, kd, ci, pl] 1 = true from hR)) rfl hG (hK rfl) h
    | [], h, _ => exact absurd h (fun q => q)
    | [_, _], h, _ => exact absurd h (fun q => q)
    | [_, _, _], h, _ => exact absurd h (fun q => q)
    | [_, _, _, _], h, _ => exact absurd h (fun q => q)
    | [_, _, _, _, _], h, _ => exact absurd h (fun q => q)
    | [_, _, _, _, _, _], h, _ => exact absurd h (fun q => q)
    | [_, _, _, _, _, _, _], h, _ => exact absurd h (fun q => q)
    | _ :: _ :: _ :: _ :: _ :: _ :: _ :: _ :: _ :: _, h, _ => exact absurd h (fun q => q)
  | _ => exact absurd h (fun q => q)
def hd0 : List RI → Nat
  | [] => 0
  | r :: _ => r.1
/-- all rows of a method -/
theorem rows_ok {Q : AQ} (C : Ctx k p s m args meth c) (hE : Ext γ B E s s.heap) (hKK : va_K D kcl (tysOf dA) s) (hγ : ∀ i, k0 ≤ i → γ i = B + (i - k0)) (hEo : ∀ (i ci : Nat) (fs : List Value), E[i]? = some (Sum.inr (ci, fs) : AC) → 100 ≤ ci) (hlt : l.stackTraces = false) :
    ∀ (is : List RI), ckRs k is = true → ∀ (kc ks : Nat) (ls st : List Value) (w : AW), wp (GM l γ D dA B E) k (mT k).2.1 (mT k).2.2.1 (mT k).2.2.2 Q is kc ks ls st w →
      WJ l γ D dA B E k p e s m args below meth c (mRm k) (ZM γ D dA B E k below args s Q) (hd0 is) kc ks ls st w
  | [], _, _, _, _, _, _, h => absurd h (fun q => q)
  | (pc, len, i, d) :: is, hc, kc, ks, ls, st, w, h => by
    simp only [ckRs, Bool.and_eq_true, Bool.or_eq_true] at hc
    obtain ⟨⟨⟨h1, h2⟩, h3⟩, h4⟩ := hc
    refine row_ok (K := wp (GM l γ D dA B E) k (mT k).2.1 (mT k).2.2.1 (mT k).2.2.2 Q is) C hE hKK hγ hEo hlt h1 h2 (fun hf kc ks ls st w hk => ?_) h
    have ih := rows_ok C hE hKK hγ hEo hlt is h4 kc ks ls st w hk
    cases is with
    | nil => exact absurd hk (fun q => q)
    | cons r t =>
      rw [hf] at h3
      have h3 : r.1 = pc + ilen i := by
        rcases h3 with q | q
        · cases q
        · exact of_decide_eq_true q
      have e : hd0 (r :: t) = pc + ilen i := h3
      rw [e] at ih
      exact ih
theorem ckRs_drop {k : Nat} : ∀ (n : Nat) (is : List RI), ckRs k is = true → ckRs k (is.drop n) = true
  | 0, _, h => h
  | n + 1, [], h => h
  | n + 1, (pc, len, i, d) :: is, h => by
    simp only [ckRs, Bool.and_eq_true] at h
    exact ckRs_drop n is h.2
theorem pcs_hd (k b : Nat) : pcs k b = hd0 ((mT k).1.drop b) := by
  unfold pcs hd0
  cases (mT k).1.drop b <;> rfl
/-- THE ABSTRACT MACHINE IS SOUND -/
theorem Bk_sound (hγ : ∀ i, k0 ≤ i → γ i = B + (i - k0)) (hEo : ∀ (i ci : Nat) (fs : List Value), E[i]? = some (Sum.inr (ci, fs) : AC) → 100 ≤ ci) (hlt : l.stackTraces = false) {k b kc ks : Nat} {ls st : List Value} {w : AW} {Q : AQ} (h : Bk k b kc ks ls st w Q) : GM l γ D dA B E k b kc ks ls st w Q :=
  h (GM l γ D dA B E) GM_mono fun k b kc ks ls st w Q h p e s m args below meth c H locs lsA C hE hKK hS hW hL hc => by
    have := rows_ok (p := p) (e := e) (below := below) C hE hKK hγ hEo hlt _ (ckRs_drop b _ (ckR_all k)) kc ks ls st w h
    rw [← pcs_hd] at this
    exact this hc H locs lsA hS hW hL
end Main
