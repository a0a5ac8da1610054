section St5
variable {l : Launch} {γ : Nat → Nat} {D : va_G} {dA : Nat → ClassId} {B : Nat} {E : List AC}
variable {k : Nat} {p : Program} {e : Env} {s : State} {m : MethodId} {args : Array Value} {below : List Frame} {meth : Method} {c : Code}
/-- the end of a method -/
abbrev ZM (γ : Nat → Nat) (D : va_G) (dA : Nat → ClassId) (B : Nat) (E : List AC) (k : Nat) (below : List Frame) (args : Array Value) (s : State) (Q : AQ) : State → Prop := vx_MQ below (QR γ D dA B E Q) (QX γ D dA B E Q) args s (mT k).2.2.1.1 (mT k).2.2.1.2 (fun q => B ≤ q)
theorem QR.mk {Q : AQ} {v : Option Value} {w : AW} {H : Heap} {locs : List Loc} {a : Array Value} (hq : Q (.inl v) w) (hS : va_S (fun q => B ≤ q) s.heap H locs) (hW : WR γ D dA B E w H) {t : State} (ht : t.heap = H) : QR γ D dA B E Q a s (.returned (v.map (cv γ))) t :=
  ⟨v, w, rfl, hq, by rw [ht]; exact hW, hS.F ht⟩
theorem st_ireturn {pc : Nat} {d : List Nat} {kc ks : Nat} {ls st : List Value} {w : AW} {G : AG} {Q : AQ} {K : Nat → Nat → List Value → List Value → AW → Prop} {cap : Nat × Nat} {hs : List (String × Nat × Nat)}
    (C : Ctx k p s m args meth c) (hdg : decode (mB k) pc = .ok (.ireturn, 1))
    (h : isd G k hs Q K (sd cap hs (mT k).2.2.2 .ireturn d kc ks ls st w)) : WJ l γ D dA B E k p e s m args below meth c (mRm k) (ZM γ D dA B E k below args s Q) pc kc ks ls st w := by
  intro hc H locs lsA hS hW hL
  obtain ⟨hx, hb, hr, hml, hown, hts, hlk, hmn, htab⟩ := C
  simp only [sd] at h
  split at h <;> first | exact absurd h (fun q => q) | skip
  rename_i x
  obtain ⟨hP, hq, -⟩ := h
  have hq : Q (.inl (some (.int x))) w := hq trivial
  refine vx_ret (W.widen hc.1 hc.2 ?_)
  cases hrt : (mT k).2.2.2 with
  | none => rw [hrt] at hP; exact absurd hP (fun q => q)
  | some ty =>
    rw [hrt] at hP hr
    by_cases e1 : ty = .int
    · subst e1
      exact W.iret hx hb hr (fun t ht _ => QR.mk hq hS hW ht) hS.2.2 hdg hlk
    · have hn : narrow ty (.int x) = .int x := by
        cases ty <;> first | exact absurd rfl e1 | exact hP
      exact W.zret hx hb hr hn (fun t ht _ => QR.mk hq hS hW ht) hS.2.2 hdg hlk
theorem st_return {pc : Nat} {d : List Nat} {kc ks : Nat} {ls st : List Value} {w : AW} {G : AG} {Q : AQ} {K : Nat → Nat → List Value → List Value → AW → Prop} {cap : Nat × Nat} {hs : List (String × Nat × Nat)}
    (C : Ctx k p s m args meth c) (hdg : decode (mB k) pc = .ok (.return_, 1)) (hrt : (mT k).2.2.2 = none)
    (h : isd G k hs Q K (sd cap hs (mT k).2.2.2 .return_ d kc ks ls st w)) : WJ l γ D dA B E k p e s m args below meth c (mRm k) (ZM γ D dA B E k below args s Q) pc kc ks ls st w := by
  intro hc H locs lsA hS hW hL
  obtain ⟨hx, hb, hr, hml, hown, hts, hlk, hmn, htab⟩ := C
  simp only [sd] at h
  split at h <;> first | exact absurd h (fun q => q) | skip
  obtain ⟨hP, hq, -⟩ := h
  have hq : Q (.inl none) w := hq trivial
  exact vx_ret (W.widen hc.1 hc.2 (W.vret hx hb (hr.trans hrt) (fun t ht _ => QR.mk hq hS hW ht) hS.2.2 hdg hlk))
theorem st_dreturn {pc : Nat} {d : List Nat} {kc ks : Nat} {ls st : List Value} {w : AW} {G : AG} {Q : AQ} {K : Nat → Nat → List Value → List Value → AW → Prop} {cap : Nat × Nat} {hs : List (String × Nat × Nat)}
    (C : Ctx k p s m args meth c) (hdg : decode (mB k) pc = .ok (.dreturn, 1)) (hrt : (mT k).2.2.2 = some .double)
    (h : isd G k hs Q K (sd cap hs (mT k).2.2.2 .dreturn d kc ks ls st w)) : WJ l γ D dA B E k p e s m args below meth c (mRm k) (ZM γ D dA B E k below args s Q) pc kc ks ls st w := by
  intro hc H locs lsA hS hW hL
  obtain ⟨hx, hb, hr, hml, hown, hts, hlk, hmn, htab⟩ := C
  simp only [sd] at h
  split at h <;> first | exact absurd h (fun q => q) | skip
  rename_i x
  obtain ⟨hP, hq, -⟩ := h
  have hq : Q (.inl (some (.double x))) w := hq trivial
  exact vx_ret (W.widen hc.1 hc.2 (W.dret hx hb (hr.trans hrt) (fun t ht _ => QR.mk hq hS hW ht) hS.2.2 hdg hlk))
theorem st_freturn {pc : Nat} {d : List Nat} {kc ks : Nat} {ls st : List Value} {w : AW} {G : AG} {Q : AQ} {K : Nat → Nat → List Value → List Value → AW → Prop} {cap : Nat × Nat} {hs : List (String × Nat × Nat)}
    (C : Ctx k p s m args meth c) (hdg : decode (mB k) pc = .ok (.freturn, 1)) (hrt : (mT k).2.2.2 = some .float)
    (h : isd G k hs Q K (sd cap hs (mT k).2.2.2 .freturn d kc ks ls st w)) : WJ l γ D dA B E k p e s m args below meth c (mRm k) (ZM γ D dA B E k below args s Q) pc kc ks ls st w := by
  intro hc H locs lsA hS hW hL
  obtain ⟨hx, hb, hr, hml, hown, hts, hlk, hmn, htab⟩ := C
  simp only [sd] at h
  split at h <;> first | exact absurd h (fun q => q) | skip
  rename_i x
  obtain ⟨hP, hq, -⟩ := h
  have hq : Q (.inl (some (.float x))) w := hq trivial
  exact vx_ret (W.widen hc.1 hc.2 (W.fret hx hb (hr.trans hrt) (fun t ht _ => QR.mk hq hS hW ht) hS.2.2 hdg hlk))
theorem st_areturn {pc : Nat} {d : List Nat} {kc ks : Nat} {ls st : List Value} {w : AW} {G : AG} {Q : AQ} {K : Nat → Nat → List Value → List Value → AW → Prop} {cap : Nat × Nat} {hs : List (String × Nat × Nat)} {nm : String}
    (C : Ctx k p s m args meth c) (hdg : decode (mB k) pc = .ok (.areturn, 1)) (hrt : (mT k).2.2.2 = some (.object nm))
    (h : isd G k hs Q K (sd cap hs (mT k).2.2.2 .areturn d kc ks ls st w)) : WJ l γ D dA B E k p e s m args below meth c (mRm k) (ZM γ D dA B E k below args s Q) pc kc ks ls st w := by
  intro hc H locs lsA hS hW hL
  obtain ⟨hx, hb, hr, hml, hown, hts, hlk, hmn, htab⟩ := C
  simp only [sd] at h
  split at h <;> first | exact absurd h (fun q => q) | skip
  · rename_i x
    obtain ⟨hP, hq, -⟩ := h
    have hq : Q (.inl (some (.ref x))) w := hq trivial
    exact vx_ret (W.widen hc.1 hc.2 (W.aret hx hb (hr.trans hrt) (Or.inl ⟨_, rfl⟩) (Or.inr ⟨_, rfl⟩) (fun t ht _ => QR.mk hq hS hW ht) hS.2.2 hdg hlk))
  · obtain ⟨hP, hq, -⟩ := h
    have hq : Q (.inl (some .null)) w := hq trivial
    exact vx_ret (W.widen hc.1 hc.2 (W.aret hx hb (hr.trans hrt) (Or.inl ⟨_, rfl⟩) (Or.inl rfl) (fun t ht _ => QR.mk hq hS hW ht) hS.2.2 hdg hlk))
theorem WR.sealed {w : AW} {H H1 : Heap} (h : WR γ D dA B E w H) (hz : H.size ≤ H1.size) (hk : ∀ q : Nat, q < H.size → H1[q]? = H[q]?) : WR γ D dA B E (w.1, w.2.1, true) H1 := by
  obtain ⟨h1, h2, h3, h4, h5, h6⟩ := h
  exact ⟨h1, h2, fun i c hi hc => (h3 i c hi hc).kept (hk _ (h3 i c hi hc).lt), h4, Nat.le_trans h5 hz, fun e => by cases e⟩
theorem xHat {ei : Nat} (h5 : ei < 5) (h3 : ei ≠ 3) (hts : ∀ w ∈ gw, w.before args s = true) (hE : Ext γ B E s s.heap) : ∀ w ∈ vx_atS "GlowwormGrid" (icOf ei) (exName ei) exNames, w.before args s = true := by
  intro w hw
  have := List.all_eq_true.mp (xAt0 ei h5 h3) w hw
  simp only [Bool.or_eq_true, decide_eq_true_eq] at this
  rcases this with q | q
  · exact hts w q
  · rcases List.mem_append.mp q with q | q
    · obtain ⟨z, hz, rfl⟩ := List.mem_map.mp q
      exact va_Nw.use rfl (hE.2.2.2.2.1 z hz)
    · obtain ⟨z, hz, rfl⟩ := List.mem_map.mp q
      exact va_Nw.use rfl (hE.2.2.2.2.2.1 z hz)
end St5
