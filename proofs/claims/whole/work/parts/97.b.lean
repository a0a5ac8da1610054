section Start3
theorem sb_forget {s t : State} {L : List Loc} {k n : Nat} (h : s.sameButNew t L k n) (hL : ∀ q ∈ L, s.heap.size ≤ q.base) : s.sameButNew t [] k n := by
  obtain ⟨h1, h2, h3, h4, h5, h6⟩ := h
  refine ⟨h1, h2, h3, h4, h5, fun a c hc => ?_⟩
  obtain ⟨c', e1, e2, e3, e4⟩ := h6 a c hc
  refine ⟨c', e1, e2, e3, fun i _ => e4 i fun hm => ?_⟩
  have := hL _ hm
  exact absurd (Array.getElem?_eq_some_iff.mp hc).1 (Nat.not_lt.mpr this)
/-- the world at the start -/
def w0 (L : Nat) (xs : Nat → Int32) (vf : Value) : AW := (fun i => (E0 L xs vf)[i]?, k0, false)
def lawQ : AQ := fun o _ => o = .inl (some (.int 1))
theorem st_flags {l : Launch} (h : l.flags = flags0) : l.stackTraces = false := by
  unfold Launch.stackTraces
  rw [h]
  decide +kernel
theorem K_all {s : State} {b : Nat} (hts : ∀ w ∈ lw_tbl, w.before #[Value.ref b] s = true) : ∃ (D : va_G) (dA : Nat → ClassId), va_K D kcl (tysOf dA) s := by
  have hgw : ∀ w ∈ gw, w.before #[Value.ref b] s = true := fun w hw => hts w (List.mem_filter.mp hw).1
  obtain ⟨z, hz⟩ := pick (P := fun ci (z : ClassId × (Nat → Nat)) => ci < 7 → u_Kn s (xR ci) (xF ci) (xN ci) z.1 z.2) (fun ci => by
    by_cases h : ci < 7
    · have hi := List.all_eq_true.mp in_ok ci (List.mem_range.mpr h)
      obtain ⟨c, i, hk⟩ := u_known (C := xR ci) (T := xF ci) (N := xN ci) hgw (xHin h) (hts _ (of_decide_eq_true hi))
      exact ⟨(c, i), fun _ => hk⟩
    · exact ⟨(0, fun _ => 0), fun q => absurd q h⟩)
  have hA : ∀ ty, (Cond.arrayClass ty).before #[Value.ref b] s = true → ∃ cA : ClassId, ArrOfT s cA ty ∧ s.vm.findClass ("[" ++ ty.toString) = some cA := fun ty h => by
    obtain ⟨c, kA, comp, h1, h2, h3⟩ := Cond.arrayClass_spec h
    exact ⟨c, fun n z => ⟨fun k h => (by cases h), kA, h2, comp, h3⟩, h1⟩
  have har := ar_in
  simp only [List.all_cons, List.all_nil, Bool.and_eq_true, decide_eq_true_eq] at har
  obtain ⟨c0, a0, b0⟩ := hA .int (hts _ har.1)
  obtain ⟨c1, a1, b1⟩ := hA .char (hts _ har.2.1)
  obtain ⟨c2, a2, b2⟩ := hA .long (hts _ har.2.2.1)
  have htb := tb_in
  simp only [Bool.and_eq_true] at htb
  obtain ⟨comp, c3, kA, h1, -, h3, h4, h5⟩ := Cond.arrayOver_spec (hts _ (of_decide_eq_true htb.2))
  refine ⟨(fun ci => (z ci).1, fun ci => (z ci).2), fun t => match t with
    | 0 => c0
    | 1 => c1
    | 2 => c2
    | _ => c3, fun ci q hq => ?_, fun t q hq => ?_⟩
  · have h7 : ci < 7 := (List.getElem?_eq_some_iff.mp hq).1
    rw [xK ci h7] at hq
    cases hq
    exact hz ci h7
  · match t, hq with
    | 0, hq => cases hq; exact ⟨a0, b0⟩
    | 1, hq => cases hq; exact ⟨a1, b1⟩
    | 2, hq => cases hq; exact ⟨a2, b2⟩
    | 3, hq => cases hq; exact ⟨fun n z => ⟨fun k h => (by cases h), kA, h3, comp, h4⟩, kA, comp, h3, h4, h1, h5⟩
    | t + 4, hq => simp [tysOf] at hq
/-- THE LAW, out of its walk on the abstract machine -/
theorem law_start {p : Program} {e : Env} {s : State} {m : MethodId} {below : List Frame} {meth : Method} {c : Code} (l : Launch) (hflags : l.flags = flags0) {b L : Nat} {xs : Nat → Int32}
    (hlaw : ∀ vf : Value, vf.category = 1 → Bk 253 0 0 0 (padl [.ref 0] 9) [] (w0 L xs vf) lawQ)
    (hname : meth.name = x.name) (htab : c.exceptionTable.toList = []) (C0 : lw_At p s m meth c b L xs) : W p l e room_1 s m #[Value.ref b] below meth c s.heap [] 0 0 (lw_Z below #[Value.ref b] s) (entryFrame m ([Value.ref b] : List Value).toArray 9) := by
  obtain ⟨hx, hb, hr, hml, hown, hts, hX, hbl, hlocks, hgv⟩ := id C0
  obtain ⟨γ, vf, hγ, hγ0, hvc, hE⟩ := ext_start hgv hts hX hbl
  obtain ⟨D, dA, hK⟩ := K_all hts
  have hgw : ∀ w ∈ gw, w.before #[Value.ref b] s = true := fun w hw => hts w (List.mem_filter.mp hw).1
  have hG := Bk_sound (l := l) (γ := γ) (D := D) (dA := dA) (B := s.heap.size) (E := E0 L xs vf) hγ (E0_ci L xs vf) (st_flags hflags) (hlaw vf hvc)
  have hl := lv_entry ([.ref b]) (n := 9) (Nat.le_of_ble_eq_true rfl)
  rw [lg_entry_eq]
  generalize (lg_sl ([.ref b]) ++ List.replicate (9 - (lg_sl ([.ref b])).length) Slot.unset).toArray = ls at hl ⊢
  have hW : WR γ D dA s.heap.size (E0 L xs vf) (w0 L xs vf) s.heap := by
    refine ⟨fun i c hc => ?_, fun i hi => rfl, fun i c hk hc => ?_, Nat.le_refl _, Nat.le_of_eq rfl, fun _ => rfl⟩
    · exact (List.getElem?_eq_some_iff.mp hc).1
    · exact absurd (List.getElem?_eq_some_iff.mp hc).1 (Nat.not_lt.mpr hk)
  have g := hG p e s m #[Value.ref b] below meth c s.heap [] ls ⟨hx, hb, hr, hml, hown, hgw, hlocks, hname, htab⟩ hE hK va_S.rf hW
    (LH.of hl rfl fun j hj => by
      have := padl_args (γ := γ) [.ref 0] 9 j 0 ⟨rfl, trivial⟩ hj
      rw [Nat.zero_add] at this
      show (j, cv γ (lg (padl [.ref 0] 9) j)) ∈ lv_args 0 [Value.ref b]
      rw [← hγ0]
      exact this) ⟨Nat.zero_le _, Nat.zero_le _⟩
  intro T hT X
  obtain ⟨t, a1, o, b1, b2, b3⟩ := g T hT X
  refine ⟨t, a1, o, b1, b2, ?_⟩
  rcases b3 with ⟨⟨v, w, q1, q2, -, -⟩, L', ⟨q4, q5, q6⟩, q7⟩ | ⟨q, -, E9, ce, L', ⟨w, q2, -⟩, -⟩
  · have hv : (.inl v : AO) = .inl (some (.int 1)) := q2
    cases hv
    exact ⟨q1, lw_closed (d0 := s.drawn) (Drawn.sameBut.refl s.drawn lw_cs) q4 q5 (sb_forget q6 q7)⟩
  · have hv : (.inr E9 : AO) = .inl (some (.int 1)) := q2
    cases hv
end Start3
