section St8
variable {l : Launch} {γ : Nat → Nat} {D : va_G} {dA : Nat → ClassId} {B : Nat} {E : List AC}
variable {k : Nat} {p : Program} {e : Env} {s : State} {m : MethodId} {args : Array Value} {below : List Frame} {meth : Method} {c : Code} {R : Room} {Z : State → Prop}
abbrev xOrd : MethodName := ⟨"GlowwormGrid$CommandKind", "ordinal", "()I"⟩
theorem ordW : (inW 1025 (.methodLink "GlowwormGrid" 327 xOrd) && inW 1026 (.sameMethod "GlowwormGrid$CommandKind" "java/lang/Enum" "ordinal" "()I") && inW 1028 (.selects "GlowwormGrid$CommandKind" xOrd yOrd) && inW 1029 (.instanceMethod yOrd) && inW 1030 (.code yOrd cOrd 1 (some .int))) = true := by decide +kernel
theorem ordW6a : inW 1560 (.fieldLink "java/lang/Enum" 7 "java/lang/Enum" "ordinal" "I") = true := by decide +kernel
theorem ordW6 : Cond.fieldLink "java/lang/Enum" 7 "java/lang/Enum" "ordinal" "I" ∈ gw := by
  have h := ordW6a
  exact inW_gw h
theorem st_ord {pc p1 p2 p3 : Nat} {d : List Nat} {kc ks : Nat} {ls st : List Value} {w : AW} {G : AG} {Q : AQ} {K : Nat → Nat → List Value → List Value → AW → Prop} {cap : Nat × Nat} {hs : List (String × Nat × Nat)} {rt : Option FieldType}
    (C : Ctx k p s m args meth c) (hE : Ext γ B E s s.heap) (hde : d = [p1, p2, p3]) (hcl : (mY k).cls = "GlowwormGrid") (hf : 1 ≤ R.frames) (hlo : 20 ≤ R.locals) (hdg : decode (mB k) pc = .ok (.invokevirtual 327, 3))
    (hK : ∀ kc ks ls st w, K kc ks ls st w → WJ l γ D dA B E k p e s m args below meth c R Z (pc + 3) kc ks ls st w)
    (h : isd G k hs Q K (sd cap hs rt (.invokevirtual 327) d kc ks ls st w)) : WJ l γ D dA B E k p e s m args below meth c R Z pc kc ks ls st w := by
  intro hc H locs lsA hS hW hL
  subst hde
  obtain ⟨hx, hb, hr, hml, hown, hts, hlk, hmn, htab⟩ := C
  rw [hcl] at hown
  simp only [sd] at h
  split at h <;> first | exact absurd h (fun q => q) | skip
  rename_i a st'
  cases hw : w.1 a with
  | none => rw [hw] at h; exact absurd h (fun q => q)
  | some ce =>
    rw [hw] at h
    match ce, h, hw with
    | .inl _, h, _ => exact absurd h (fun q => q)
    | .inr (_, []), h, _ => exact absurd h (fun q => q)
    | .inr (c', v :: fs), h, hw =>
      cases v <;> first | exact absurd h (fun q => q) | skip
      rename_i x
      obtain ⟨⟨hP1, hP2, hP3⟩, hk, -⟩ := h
      subst hP1
      have hk := hK _ _ _ _ _ (hk trivial) hc _ _ _ hS hW hL
      have hX := (hW.ext (Nat.not_le.mpr hP2) hw hE).2 (Or.inr rfl)
      obtain ⟨⟨cellB, hcB, hoB, hclB, hAt⟩, hF⟩ := hX
      have hF0 : va_OF "java/lang/Enum" "ordinal" "I" (.int x) (γ a) (fun q => B ≤ q) s s.heap := hF 0 (.int x) rfl
      have hoW := ordW
      simp only [Bool.and_eq_true] at hoW
      obtain ⟨⟨⟨⟨o1, o2⟩, o3⟩, o4⟩, o5⟩ := hoW
      have o5' : ∀ a' U, s.WarmedH U.vm → (Cond.code yOrd cOrd 1 (some .int)).before a' U = true := pay_in hts gw_good _ (inW_gw o5)
      have o6g := ordW6
      have hpi := pay_in (ws := gw) hts gw_good
      have o6' : ∀ a' U, s.WarmedH U.vm → (Cond.fieldLink "java/lang/Enum" 7 "java/lang/Enum" "ordinal" "I").before a' U = true := by
        intro a' U hU
        exact hpi _ o6g a' U hU
      have hB := ord_back (l := l) (R := R) (p := p) (e := e) (below := below) (s := s) (sargs := args) hx hf hlo o5' o6' x (γ a) (fun q => B ≤ q)
      intro T hT X
      have hcB' : H[γ a]? = some cellB := by rw [hS.2.1 _ (Array.getElem?_eq_some_iff.mp hcB).1 hAt]; exact hcB
      rcases vx_callVU X hx (C := "GlowwormGrid$CommandKind") (owner := "java/lang/Enum") (x := xOrd) (y := yOrd) hown (hts _ (inW_gw o1)) (hts _ (inW_gw o2)) (va_Decl.abs (hE.2.2.2.2.2.1 yOrd (by decide))) ⟨by decide, by decide⟩ (hts _ (inW_gw o3)) (hts _ (inW_gw o4)) (hts _ (inW_gw o5)) hB (by rw [hT]; exact hcB') hoB hclB (g := F0 m pc lsA ((Value.ref a :: st').map (cv γ))) rfl (by show lsA.size = _; rw [hL.size, hml]) (argsL := []) (rest := st'.map (cv γ))
        (fun sig h => by
          have : parseMethodDescriptor "()I" = some sig := h
          revert this
          have : ∃ q, parseMethodDescriptor "()I" = some q ∧ q.parameters.length = 0 := ⟨_, rfl, rfl⟩
          obtain ⟨q, q1, q2⟩ := this
          intro h; rw [q1] at h; cases h; exact q2.symm)
        (by simp [F0, cv]) (by rw [cats_eq]; show 2 * 0 + _ ≤ 8; omega) (by rw [hb]; exact hdg) (fun vm₁ hW₁ => ⟨hc.1, hc.2, rfl, by
          have := (hF0.moved hW₁.alike : va_OF _ _ _ _ _ _ (T.setVm vm₁) s.heap)
          show va_OF _ _ _ _ _ _ _ T.heap
          rw [hT]
          exact this.kept fun q h1 h2 => hS.2.1 q h1 h2⟩) with ⟨v, vm₁, ⟨U', l2, c2, s2⟩, hW₁, X', ⟨e1, e2, e3, e4, e5⟩, st⟩ | ⟨q, vm₁, ⟨U', l2, c2, s2⟩, hW₁, X', hbad, st⟩
      · dsimp only [Pt.U, Pt.locs, Pt.cells, Pt.slots] at X' e1 e2 e3 e4 e5 st
        subst e1 e3 e4 e5
        obtain ⟨t2, a1, b1⟩ := hk U' (by rw [e2]; exact hT) X'
        exact ⟨t2, st _ a1, b1⟩
      · exact absurd hbad (fun q => q)
end St8
