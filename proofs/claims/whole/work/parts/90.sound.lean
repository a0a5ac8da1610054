section St7
variable {l : Launch} {γ : Nat → Nat} {D : va_G} {dA : Nat → ClassId} {B : Nat} {E : List AC}
variable {k : Nat} {p : Program} {e : Env} {s : State} {m : MethodId} {args : Array Value} {below : List Frame} {meth : Method} {c : Code}
theorem xAt3 : (ownAtNf "GlowwormGrid" (icOf 3)).all (fun w => decide (w ∈ gw) || decide (w ∈ xWs)) = true := by decide +kernel
theorem xGood3 : (ownAtNf "GlowwormGrid" (icOf 3)).all vx_ot = true := by decide +kernel
theorem xHat3 (hts : ∀ w ∈ gw, w.before args s = true) (hE : Ext γ B E s s.heap) : ∀ w ∈ ownAtNf "GlowwormGrid" (icOf 3), w.before args s = true := by
  intro w hw
  have := List.all_eq_true.mp xAt3 w hw
  simp only [Bool.or_eq_true, decide_eq_true_eq] at this
  rcases this with q | q
  · exact hts w q
  · rcases List.mem_append.mp q with q | q
    · obtain ⟨z, hz, rfl⟩ := List.mem_map.mp q
      exact va_Nw.use rfl (hE.2.2.2.2.1 z hz)
    · obtain ⟨z, hz, rfl⟩ := List.mem_map.mp q
      exact va_Nw.use rfl (hE.2.2.2.2.2.1 z hz)
theorem xOt (own : String) (ik : Nat) (nm : String) : ∀ w ∈ [Cond.classLink own ik nm, Cond.initialized nm], vx_ot w = true := by
  intro w hw
  rcases List.mem_cons.mp hw with rfl | hw
  · rfl
  · rw [List.mem_singleton.mp hw]; rfl
theorem st_throw {pc ei ik is ic wd p1 p2 : Nat} {kc ks : Nat} {ls st : List Value} {w : AW} {G : AG} {Q : AQ} {K : Nat → Nat → List Value → List Value → AW → Prop}
    (C : Ctx k p s m args meth c) (hE : Ext γ B E s s.heap) (hlt : l.stackTraces = false) (hcap : (mT k).2.2.1.1 ≤ (mRm k).cells ∧ (mT k).2.2.1.2 ≤ (mRm k).slots) (hd : ckT k pc [ei, ik, is, ic, wd, p1, p2] = true)
    (h : isd G k (mT k).2.1 Q K (sd (mT k).2.2.1 (mT k).2.1 (mT k).2.2.2 .athrow [ei, ik, is, ic, wd, p1, p2] kc ks ls st w)) : WJ l γ D dA B E k p e s m args below meth c (mRm k) (ZM γ D dA B E k below args s Q) pc kc ks ls st w := by
  intro hc H locs lsA hS hW hL
  obtain ⟨hx, hb, hr, hml, hown, hts, hlk, hmn, htab⟩ := C
  obtain ⟨⟨hP1, hP2, hP3, hP4⟩, hq, -⟩ := h
  have hq : Q (.inr (exName ei)) (w.1, w.2.1, true) := hq trivial
  simp only [ckT, Bool.and_eq_true, decide_eq_true_eq] at hd
  obtain ⟨⟨⟨⟨⟨⟨⟨⟨⟨⟨⟨h5, hcl⟩, hic⟩, i1⟩, i2⟩, hs⟩, hh⟩, f1⟩, f2⟩, d0⟩, d3⟩, hd⟩ := hd
  subst hic
  obtain ⟨sr, hs1, hs2⟩ := List.any_eq_true.mp hs
  obtain ⟨so, si, stx⟩ := sr
  simp only [Bool.and_eq_true, beq_iff_eq] at hs2
  obtain ⟨rfl, rfl⟩ := hs2
  obtain ⟨sa, hstr⟩ := hE.2.2.1 _ hs1
  rw [hcl] at hown
  have hk := hts _ (inW_gw i1)
  have hini := hts _ (inW_gw i2)
  have hU := hE.2.2.2.2.2.2.2.2.1
  have hN := hE.2.2.2.2.2.2.2.2.2
  have hsz : lsA.size = c.maxLocals := by rw [hL.size, hml]
  have hout : ∀ pc', ∀ x ∈ c.exceptionTable.toList, covers x pc' = false := fun pc' x hx9 => by
    rw [htab, hh] at hx9
    exact absurd hx9 List.not_mem_nil
  have hcat : ((st.map (cv γ)).map fun v => v.category).sum + 82 ≤ (mRm k).locals := by rw [cats_eq]; omega
  have hX : ∀ t : State, s.vm.Alike t.vm → H.size ≤ t.heap.size → (∀ q : Nat, q < H.size → t.heap[q]? = H[q]?) → QX γ D dA B E Q (exName ei) s t := fun t ha hz hk' =>
    ⟨_, hq, hW.sealed hz hk', ⟨Nat.le_trans hS.1 hz, fun q h1 h2 => (hk' q (Nat.lt_of_lt_of_le h1 hS.1)).trans (hS.2.1 q h1 h2)⟩⟩
  by_cases h3 : ei = 3
  · subst h3
    have hat := xHat3 (γ := γ) hts hE
    have hgood : ∀ w ∈ Cond.classLink "GlowwormGrid" ik cN :: Cond.initialized cN :: ownAtNf "GlowwormGrid" (icOf 3), vx_ot w = true := by
      intro w hw
      rcases List.mem_cons.mp hw with rfl | hw
      · rfl
      rcases List.mem_cons.mp hw with rfl | hw
      · rfl
      exact List.all_eq_true.mp xGood3 w hw
    simp only [Bool.or_eq_true, Bool.and_eq_true, decide_eq_true_eq] at hd
    rcases hd with ⟨⟨⟨-, d4⟩, d6⟩, d9⟩ | ⟨⟨⟨-, d4⟩, d6⟩, d9⟩
    · exact x_throwNS hx hb hlt hown hk hini hstr hat hgood hU hN hS hsz d0 d3 d4 d6 d9 (hout _) (by omega) hcat (by omega) (by omega) hlk hX hS.2.2 hP2 hP3
    · exact x_throwNW hx hb hlt hown hk hini hstr hat hgood hU hN hS hsz d0 d3 d4 d6 d9 (hout _) (by omega) hcat (by omega) (by omega) hlk hX hS.2.2 hP2 hP3
  · have hat := xHat (γ := γ) h5 h3 hts hE
    have hgood : ∀ w ∈ Cond.classLink "GlowwormGrid" ik (exName ei) :: Cond.initialized (exName ei) :: vx_atS "GlowwormGrid" (icOf ei) (exName ei) exNames, vx_ot w = true := by
      intro w hw
      rcases List.mem_cons.mp hw with rfl | hw
      · rfl
      rcases List.mem_cons.mp hw with rfl | hw
      · rfl
      exact List.all_eq_true.mp (xGood0 ei h5 h3) w hw
    simp only [Bool.or_eq_true, Bool.and_eq_true, decide_eq_true_eq] at hd
    rcases hd with ⟨⟨⟨-, d4⟩, d6⟩, d9⟩ | ⟨⟨⟨-, d4⟩, d6⟩, d9⟩
    · exact vx_throwS hx hb hlt hown (xFit ei h5) xFitN hk hini hstr hat hgood hU hN hS hsz d0 d3 d4 d6 d9 (hout _) (by show 2 + 3 < _; omega) (by show _ + (13 * (2 + 1) + 43) ≤ _; omega) (by omega) (by omega) hlk hX hS.2.2 hP2 hP3
    · exact vx_throwSW hx hb hlt hown (xFit ei h5) xFitN hk hini hstr hat hgood hU hN hS hsz d0 d3 d4 d6 d9 (hout _) (by show 2 + 3 < _; omega) (by show _ + (13 * (2 + 1) + 43) ≤ _; omega) (by omega) (by omega) hlk hX hS.2.2 hP2 hP3
end St7
