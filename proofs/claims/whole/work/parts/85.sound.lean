section St2
variable {l : Launch} {γ : Nat → Nat} {D : va_G} {dA : Nat → ClassId} {B : Nat} {E : List AC}
variable {k : Nat} {p : Program} {e : Env} {s : State} {m : MethodId} {args : Array Value} {below : List Frame} {meth : Method} {c : Code} {R : Room} {Z : State → Prop}
/-- a cell that a number stands for: made in the run, or there before -/
theorem WR.own {w : AW} {H : Heap} {i : Nat} {ce : AC} (h : WR γ D dA B E w H) (hk : k0 ≤ i) (hc : w.1 i = some ce) : va_at D kcl (γ i, cvE γ dA ce) H := h.2.2.1 i ce hk hc
theorem WR.ext {w : AW} {H : Heap} {i : Nat} {ce : AC} (h : WR γ D dA B E w H) (hk : ¬ k0 ≤ i) (hc : w.1 i = some ce) (hE : Ext γ B E s s.heap) : XAt γ (fun q => B ≤ q) ce (γ i) s s.heap := hE.1 i ce (by rw [← h.2.1 i (by omega)]; exact hc)
theorem tys_ty {t : Nat} (h : t < 4) : (tysOf dA)[t]? = some (dA t, aty t) := by
  match t, h with
  | 0, _ => rfl
  | 1, _ => rfl
  | 2, _ => rfl
  | 3, _ => rfl
theorem own_ci {ci : Nat} {fs : List Value} {a : Nat} {H : Heap} (h : va_at D kcl (a, .inr (ci, fs)) H) : ci < 7 := by
  obtain ⟨r, h1, -⟩ := h
  exact (List.getElem?_eq_some_iff.mp h1).1
/-- an array, wherever it is -/
theorem WR.arr {w : AW} {H : Heap} {i t n : Nat} {ct : (Nat → Int32) ⊕ (Nat → Int64) ⊕ (Nat → UInt32) ⊕ (Nat → UInt64) ⊕ (Nat → Option Nat)} {locs : List Loc} (h : WR γ D dA B E w H) (hc : w.1 i = some (.inl (t, n, ct))) (hE : Ext γ B E s s.heap) (hK : va_K D kcl (tysOf dA) s) (hS : va_S (fun q => B ≤ q) s.heap H locs) (ht : k0 ≤ i → t < 4) : XArr γ t n ct (γ i) s H := by
  by_cases hk : k0 ≤ i
  · have h1 := h.own hk hc
    have hA := (hK.2 t _ (tys_ty (dA := dA) (ht hk))).1
    match ct, h1 with
    | .inl f, h1 => exact ⟨_, h1, hA n _, (fun q => by cases q), ⟨Nat.le_of_eq (arrV_size _ _ _).symm, congrArg Int32.ofNat (arrV_size _ _ _)⟩, fun j hj => arrV_read _ _ hj⟩
    | .inr (.inl f), h1 => exact ⟨_, h1, hA n _, (fun q => by cases q), ⟨Nat.le_of_eq (arrV_size _ _ _).symm, congrArg Int32.ofNat (arrV_size _ _ _)⟩, fun j hj => arrV_read _ _ hj⟩
    | .inr (.inr (.inl f)), h1 => exact ⟨_, h1, hA n _, (fun q => by cases q), ⟨Nat.le_of_eq (arrV_size _ _ _).symm, congrArg Int32.ofNat (arrV_size _ _ _)⟩, fun j hj => arrV_read _ _ hj⟩
    | .inr (.inr (.inr (.inl f))), h1 => exact ⟨_, h1, hA n _, (fun q => by cases q), ⟨Nat.le_of_eq (arrV_size _ _ _).symm, congrArg Int32.ofNat (arrV_size _ _ _)⟩, fun j hj => arrV_read _ _ hj⟩
    | .inr (.inr (.inr (.inr f))), h1 => exact ⟨_, h1, hA n _, (fun q => by cases q), ⟨Nat.le_of_eq (arrV_size _ _ _).symm, congrArg Int32.ofNat (arrV_size _ _ _)⟩, fun j hj => arrV_read _ _ hj⟩
  · obtain ⟨hn, ce, e1, e2⟩ := h.ext hk hc hE
    exact ⟨ce, by rw [hS.2.1 _ (Array.getElem?_eq_some_iff.mp e1).1 hn]; exact e1, e2⟩

theorem st_getf {pc : Nat} {n : Nat} {d : List Nat} {kc ks : Nat} {ls st : List Value} {w : AW} {G : AG} {Q : AQ} {K : Nat → Nat → List Value → List Value → AW → Prop} {cap : Nat × Nat} {hs : List (String × Nat × Nat)} {rt : Option FieldType}
    (C : Ctx k p s m args meth c) (hE : Ext γ B E s s.heap) (hKK : va_K D kcl (tysOf dA) s) (hEo : ∀ (i ci : Nat) (fs : List Value), E[i]? = some (Sum.inr (ci, fs) : AC) → 100 ≤ ci) (hγ : ∀ i, k0 ≤ i → γ i = B + (i - k0)) (hdg : decode (mB k) pc = .ok (.getfield n, 3)) (hd : ∀ ci kk pi, d = [ci, kk, pi] → (ci < 7 → kk < xN ci) ∧ (7 ≤ ci → ci = 100 ∨ ci = 101) ∧ Cond.fieldLink (mY k).cls n (xF ci kk).1 (xF ci kk).2.1 (xF ci kk).2.2.1 ∈ gw)
    (hK : ∀ kc ks ls st w, K kc ks ls st w → WJ l γ D dA B E k p e s m args below meth c R Z (pc + 3) kc ks ls st w)
    (h : isd G k hs Q K (sd cap hs rt (.getfield n) d kc ks ls st w)) : WJ l γ D dA B E k p e s m args below meth c R Z pc kc ks ls st w := by
  intro hc H locs lsA hS hW hL
  obtain ⟨hx, hb, hr, hml, hown, hts, hlk, hmn, htab⟩ := C
  simp only [sd] at h
  split at h <;> first | exact absurd h (fun q => q) | skip
  rename_i ci kk pi a st'
  obtain ⟨hd1, hd2, hd3⟩ := hd _ _ _ rfl
  cases hw : w.1 a with
  | none => rw [hw] at h; exact absurd h (fun q => q)
  | some ce =>
    rw [hw] at h
    match ce, h, hw with
    | .inl _, h, _ => exact absurd h (fun q => q)
    | .inr (c', fs), h, hw =>
      cases hf : fs[kk]? with
      | none => simp only [hf] at h; exact absurd h (fun q => q)
      | some v =>
        simp only [hf] at h
        obtain ⟨hP, hk, -⟩ := h
        subst hP
        have hk := hK _ _ _ _ _ (hk trivial) hc _ _ _ hS hW hL
        by_cases hk0 : k0 ≤ a
        · have hat := hW.own hk0 hw
          have h7 := own_ci hat
          have hP : va_P D kcl [(γ a, .inr (c', fs.map (cv γ)))] H := fun q x hq => by
            have hz : q < 1 := (List.getElem?_eq_some_iff.mp hq).1
            rw [show q = 0 by omega] at hq
            cases hq
            exact hat
          exact va_get (D := D) (ci := c') (v := cv γ v) hx hb hts (xHin h7) hown hKK hP 0 rfl (xK c' h7) kk (hd1 h7) (hts _ hd3) (fun _ q => q) (by rw [List.getElem?_map, hf]; rfl) hdg hk
        · have hX := hW.ext hk0 hw hE
          have h7 : c' = 100 ∨ c' = 101 := by
            apply hd2
            rcases Nat.lt_or_ge c' 7 with q | q
            · exfalso
              have := hEo a c' fs (by rw [← hW.2.1 a (by omega)]; exact hw)
              omega
            · exact q
          exact vk_getf hx hb ((hX.2 h7).2 kk v hf) hS hown (hts _ hd3) (fun _ q => q) hdg hk

theorem st_putf {pc : Nat} {n : Nat} {d : List Nat} {kc ks : Nat} {ls st : List Value} {w : AW} {G : AG} {Q : AQ} {K : Nat → Nat → List Value → List Value → AW → Prop} {cap : Nat × Nat} {hs : List (String × Nat × Nat)} {rt : Option FieldType}
    (C : Ctx k p s m args meth c) (hE : Ext γ B E s s.heap) (hKK : va_K D kcl (tysOf dA) s) (hγ : ∀ i, k0 ≤ i → γ i = B + (i - k0)) (hdg : decode (mB k) pc = .ok (.putfield n, 3)) (hd : ∀ ci kk pi t fi, d = [ci, kk, pi, t, fi] → kk < xN ci ∧ Cond.fieldLink (mY k).cls n (xF ci kk).1 (xF ci kk).2.1 (xF ci kk).2.2.1 ∈ gw ∧ ((xF ci kk).2.2.2 = true → (mY k).name = "<init>" ∧ (xF ci kk).1 = (mY k).cls) ∧ (t = 0 → xT ci kk = .int) ∧ (t = 1 → xT ci kk = .char) ∧ (t = 2 → xT ci kk = .boolean) ∧ (3 ≤ t → (xT ci kk).isReference = true))
    (hK : ∀ kc ks ls st w, K kc ks ls st w → WJ l γ D dA B E k p e s m args below meth c R Z (pc + 3) kc ks ls st w)
    (h : isd G k hs Q K (sd cap hs rt (.putfield n) d kc ks ls st w)) : WJ l γ D dA B E k p e s m args below meth c R Z pc kc ks ls st w := by
  intro hc H locs lsA hS hW hL
  obtain ⟨hx, hb, hr, hml, hown, hts, hlk, hmn, htab⟩ := C
  simp only [sd] at h
  split at h <;> first | exact absurd h (fun q => q) | skip
  rename_i ci kk pi t fi v a st'
  obtain ⟨hd1, hd2, hd3, hd4⟩ := hd _ _ _ _ _ rfl
  cases hw : w.1 a with
  | none => rw [hw] at h; exact absurd h (fun q => q)
  | some ce =>
    rw [hw] at h
    match ce, h, hw with
    | .inl _, h, _ => exact absurd h (fun q => q)
    | .inr (c', fs), h, hw =>
      obtain ⟨⟨hP1, hP2, hP3, hP4⟩, hk, -⟩ := h
      subst hP1
      have hk := hK _ _ _ _ _ (hk trivial)
      have hat := hW.own hP2 hw
      have h7 := own_ci hat
      have hf := fit_of (γ := γ) hP4 hd4
      refine x_put (D := D) hx hb hts hown hKK hat h7 kk hd1 (hts _ hd2) (fun q => ⟨hmn.trans (hd3 q).1, (hd3 q).2⟩) hf.1 hf.2 (by rw [List.length_map]; exact hP3) hdg (fun H1 z e1 e2 e3 => ?_)
      refine hk hc _ _ _ (hS.put e2 e3 (by show B ≤ γ a; rw [hγ a hP2]; omega)) (hW.put hγ hP2 hw ?_ e2 e3) hL
      show va_at D kcl (γ a, .inr (c', (fs.set kk v).map (cv γ))) H1
      rw [List.map_set]
      exact e1

theorem st_gets {pc : Nat} {n : Nat} {d : List Nat} {kc ks : Nat} {ls st : List Value} {w : AW} {G : AG} {Q : AQ} {K : Nat → Nat → List Value → List Value → AW → Prop} {cap : Nat × Nat} {hs : List (String × Nat × Nat)} {rt : Option FieldType}
    (C : Ctx k p s m args meth c) (hE : Ext γ B E s s.heap) (hKK : va_K D kcl (tysOf dA) s) (hγ : ∀ i, k0 ≤ i → γ i = B + (i - k0)) (hdg : decode (mB k) pc = .ok (.getstatic n, 3)) (hd : ∀ j pi, d = [j, pi] → Cond.fieldLink (mY k).cls n (xS j).1 (xS j).2.1 (xS j).2.2 ∈ gw)
    (hK : ∀ kc ks ls st w, K kc ks ls st w → WJ l γ D dA B E k p e s m args below meth c R Z (pc + 3) kc ks ls st w)
    (h : isd G k hs Q K (sd cap hs rt (.getstatic n) d kc ks ls st w)) : WJ l γ D dA B E k p e s m args below meth c R Z pc kc ks ls st w := by
  intro hc H locs lsA hS hW hL
  obtain ⟨hx, hb, hr, hml, hown, hts, hlk, hmn, htab⟩ := C
  simp only [sd] at h
  split at h <;> first | exact absurd h (fun q => q) | skip
  rename_i j pi
  have hd := hd _ _ rfl
  cases hw : w.1 1 with
  | none => rw [hw] at h; exact absurd h (fun q => q)
  | some ce =>
    rw [hw] at h
    match ce, h, hw with
    | .inl _, h, _ => exact absurd h (fun q => q)
    | .inr (c', fs), h, hw =>
      cases hf : fs[j]? with
      | none => simp only [hf] at h; exact absurd h (fun q => q)
      | some v =>
        simp only [hf] at h
        obtain ⟨hP, hk, -⟩ := h
        subst hP
        have hk := hK _ _ _ _ _ (hk trivial) hc _ _ _ hS hW hL
        have hX := hW.ext (by decide) hw hE
        exact va_gets hx hb (hX.1 rfl j v hf) hS hown (hts _ hd) (fun _ q => q) hdg hk

theorem st_new {pc : Nat} {n : Nat} {d : List Nat} {kc ks : Nat} {ls st : List Value} {w : AW} {G : AG} {Q : AQ} {K : Nat → Nat → List Value → List Value → AW → Prop} {cap : Nat × Nat} {hs : List (String × Nat × Nat)} {rt : Option FieldType}
    (C : Ctx k p s m args meth c) (hE : Ext γ B E s s.heap) (hKK : va_K D kcl (tysOf dA) s) (hγ : ∀ i, k0 ≤ i → γ i = B + (i - k0)) (hdg : decode (mB k) pc = .ok (.new n, 3)) (hcap : cap.1 ≤ R.cells ∧ cap.2 ≤ R.slots) (hd : ∀ ci N p1 p2 p3, d = [ci, N, p1, p2, p3] → ci < 7 ∧ N = xN ci ∧ Cond.classLink (mY k).cls n (xR ci) ∈ gw ∧ Cond.instantiable (xR ci) (xN ci) ∈ gw ∧ Cond.initialized (xR ci) ∈ gw)
    (hK : ∀ kc ks ls st w, K kc ks ls st w → WJ l γ D dA B E k p e s m args below meth c R Z (pc + 3) kc ks ls st w)
    (h : isd G k hs Q K (sd cap hs rt (.new n) d kc ks ls st w)) : WJ l γ D dA B E k p e s m args below meth c R Z pc kc ks ls st w := by
  intro hc H locs lsA hS hW hL
  obtain ⟨hx, hb, hr, hml, hown, hts, hlk, hmn, htab⟩ := C
  simp only [sd] at h
  split at h <;> first | exact absurd h (fun q => q) | skip
  rename_i ci N p1 p2 p3
  obtain ⟨h7, rfl, hd1, hd2, hd3⟩ := hd _ _ _ _ _ rfl
  obtain ⟨⟨hP1, hP2, hP3⟩, hk, -⟩ := h
  have hk := hK _ _ _ _ _ (hk trivial)
  have hq := hW.new_at hγ hP1
  have hKn := hKK.1 ci _ (xK ci h7)
  refine W.newcK hx hb hown (hts _ hd1) (hts _ hd2) (hts _ hd3) rfl hdg (by omega) (by omega) hKn.2.1 rfl fun H1 kC hkC e1 z1 o1 => ?_
  have hk := hk ⟨by omega, by omega⟩ H1 locs lsA ⟨by rw [z1]; exact Nat.le_succ_of_le hS.1, fun x h1 h2 => (o1 x (Nat.lt_of_lt_of_le h1 hS.1)).trans (hS.2.1 x h1 h2), hS.2.2⟩ (hW.push hγ hP1 (c' := .inr (ci, kD ci)) ?_ z1 o1) hL
  · rw [show (Value.ref w.2.1 :: st).map (cv γ) = .ref H.size :: st.map (cv γ) by rw [List.map_cons]; show Value.ref (γ w.2.1) :: _ = _; rw [hq]] at hk
    exact hk
  · rw [hq]
    show va_at D kcl (H.size, .inr (ci, (kD ci).map (cv γ))) H1
    rw [xDc γ ci h7]
    exact ⟨_, xK ci h7, (u_born (xT ci) hts (xHin h7) hKn hkC e1 (xTy ci h7)).to (xDf ci h7)⟩

theorem st_newa {pc : Nat} {ty : ClassFile.ArrayType} {d : List Nat} {kc ks : Nat} {ls st : List Value} {w : AW} {G : AG} {Q : AQ} {K : Nat → Nat → List Value → List Value → AW → Prop} {cap : Nat × Nat} {hs : List (String × Nat × Nat)} {rt : Option FieldType}
    (C : Ctx k p s m args meth c) (hE : Ext γ B E s s.heap) (hKK : va_K D kcl (tysOf dA) s) (hγ : ∀ i, k0 ≤ i → γ i = B + (i - k0)) (hdg : decode (mB k) pc = .ok (.newarray ty, 2)) (hcap : cap.1 ≤ R.cells ∧ cap.2 ≤ R.slots) (hd : ∀ t p1, d = [t, p1] → t < 3 ∧ newarray.typeOf ty = aty t ∧ Cond.arrayClass (newarray.typeOf ty) ∈ gw)
    (hK : ∀ kc ks ls st w, K kc ks ls st w → WJ l γ D dA B E k p e s m args below meth c R Z (pc + 2) kc ks ls st w)
    (h : isd G k hs Q K (sd cap hs rt (.newarray ty) d kc ks ls st w)) : WJ l γ D dA B E k p e s m args below meth c R Z pc kc ks ls st w := by
  intro hc H locs lsA hS hW hL
  obtain ⟨hx, hb, hr, hml, hown, hts, hlk, hmn, htab⟩ := C
  simp only [sd] at h
  split at h <;> first | exact absurd h (fun q => q) | skip
  rename_i t p1 n st'
  obtain ⟨ht, hty, hd1⟩ := hd _ _ rfl
  obtain ⟨⟨hP1, hP2, hP3, hP4, hP5⟩, hk, -⟩ := h
  have hk := hK _ _ _ _ _ (hk trivial)
  have hq := hW.new_at hγ hP1
  have hcb : n.toNatClampNeg * componentBytes (newarray.typeOf ty) ≤ 536870912 := by
    have : componentBytes (newarray.typeOf ty) ≤ 8 := by rw [hty]; match t, ht with
      | 0, _ => decide
      | 1, _ => decide
      | 2, _ => decide
    calc _ ≤ 1000 * 8 := Nat.mul_le_mul hP3 this
      _ ≤ 536870912 := by decide
  refine va_newaK hx hb (hts _ hd1) rfl hdg rfl hP2 rfl hcb (by omega) (by omega) rfl fun H1 cA e1 z1 o1 hAr hNm => ?_
  have hcA : cA = dA t := by
    have h1 := (hKK.2 t _ (tys_ty (dA := dA) (by omega))).2
    rw [hty] at hNm
    match t, ht, h1, hNm with
    | 0, _, h1, hNm => exact Option.some.inj (hNm.symm.trans h1)
    | 1, _, h1, hNm => exact Option.some.inj (hNm.symm.trans h1)
    | 2, _, h1, hNm => exact Option.some.inj (hNm.symm.trans h1)
  have hk := hk ⟨by omega, by omega⟩ H1 locs lsA ⟨by rw [z1]; exact Nat.le_succ_of_le hS.1, fun x h1 h2 => (o1 x (Nat.lt_of_lt_of_le h1 hS.1)).trans (hS.2.1 x h1 h2), hS.2.2⟩ (hW.push hγ hP1 (c' := .inl (t, n.toNatClampNeg, arr0 t)) ?_ z1 o1) hL
  · rw [show (Value.ref w.2.1 :: st').map (cv γ) = .ref H.size :: st'.map (cv γ) by rw [List.map_cons]; show Value.ref (γ w.2.1) :: _ = _; rw [hq]] at hk
    exact hk
  · rw [hq]
    subst hcA
    rw [hty] at e1
    match t, ht, e1 with
    | 0, _, e1 => exact e1
    | 1, _, e1 => exact e1
    | 2, _, e1 => exact e1

theorem st_anewa {pc : Nat} {n : Nat} {d : List Nat} {kc ks : Nat} {ls st : List Value} {w : AW} {G : AG} {Q : AQ} {K : Nat → Nat → List Value → List Value → AW → Prop} {cap : Nat × Nat} {hs : List (String × Nat × Nat)} {rt : Option FieldType}
    (C : Ctx k p s m args meth c) (hE : Ext γ B E s s.heap) (hKK : va_K D kcl (tysOf dA) s) (hγ : ∀ i, k0 ≤ i → γ i = B + (i - k0)) (hdg : decode (mB k) pc = .ok (.anewarray n, 3)) (hcap : cap.1 ≤ R.cells ∧ cap.2 ≤ R.slots) (hd : ∀ t p1 p2, d = [t, p1, p2] → Cond.classLink (mY k).cls n "GlowwormGrid$Board" ∈ gw)
    (hK : ∀ kc ks ls st w, K kc ks ls st w → WJ l γ D dA B E k p e s m args below meth c R Z (pc + 3) kc ks ls st w)
    (h : isd G k hs Q K (sd cap hs rt (.anewarray n) d kc ks ls st w)) : WJ l γ D dA B E k p e s m args below meth c R Z pc kc ks ls st w := by
  intro hc H locs lsA hS hW hL
  obtain ⟨hx, hb, hr, hml, hown, hts, hlk, hmn, htab⟩ := C
  simp only [sd] at h
  split at h <;> first | exact absurd h (fun q => q) | skip
  rename_i t p1 p2 n' st'
  have hd1 := hd _ _ _ rfl
  obtain ⟨⟨ht, hP1, hP2, hP3, hP4, hP5⟩, hk, -⟩ := h
  subst ht
  have hk := hK _ _ _ _ _ (hk trivial)
  have hq := hW.new_at hγ hP1
  refine W.anew hx hb hown (hts _ hd1) (va_AO.use hE.2.2.2.2.2.2.1) rfl hdg rfl hP2 (by omega) (by omega) (by omega) fun cA kA comp f1 f2 f3 f4 => ?_
  have hcA : cA = dA 3 := by
    obtain ⟨_, _, -, -, -, h1⟩ := (hKK.2 3 _ (tys_ty (dA := dA) (by omega))).2
    exact Option.some.inj (f1.symm.trans h1)
  have z1 : (H.push { cls := cA, slots := Array.replicate n'.toNatClampNeg .null, vm := .none }).size = H.size + 1 := by simp
  have o1 : ∀ q : Nat, q < H.size → (H.push { cls := cA, slots := Array.replicate n'.toNatClampNeg .null, vm := .none })[q]? = H[q]? := fun q hq => by rw [Array.getElem?_push, if_neg (Nat.ne_of_lt hq)]
  have hk := hk ⟨by omega, by omega⟩ _ locs lsA ⟨by rw [z1]; exact Nat.le_succ_of_le hS.1, fun x h1 h2 => (o1 x (Nat.lt_of_lt_of_le h1 hS.1)).trans (hS.2.1 x h1 h2), hS.2.2⟩ (hW.push hγ hP1 (c' := .inl (3, n'.toNatClampNeg, arr0 3)) ?_ z1 o1) hL
  · rw [show (Value.ref w.2.1 :: st').map (cv γ) = .ref H.size :: st'.map (cv γ) by rw [List.map_cons]; show Value.ref (γ w.2.1) :: _ = _; rw [hq]] at hk
    exact hk
  · rw [hq]
    subst hcA
    show (H.push _)[H.size]? = some (arrV (dA 3) n'.toNatClampNeg (fun _ => .null))
    rw [← arrV_new]
    simp

theorem st_alen {pc : Nat} {d : List Nat} {kc ks : Nat} {ls st : List Value} {w : AW} {G : AG} {Q : AQ} {K : Nat → Nat → List Value → List Value → AW → Prop} {cap : Nat × Nat} {hs : List (String × Nat × Nat)} {rt : Option FieldType}
    (C : Ctx k p s m args meth c) (hE : Ext γ B E s s.heap) (hKK : va_K D kcl (tysOf dA) s) (hγ : ∀ i, k0 ≤ i → γ i = B + (i - k0)) (hdg : decode (mB k) pc = .ok (.arraylength, 1))
    (hK : ∀ kc ks ls st w, K kc ks ls st w → WJ l γ D dA B E k p e s m args below meth c R Z (pc + 1) kc ks ls st w)
    (h : isd G k hs Q K (sd cap hs rt (.arraylength) d kc ks ls st w)) : WJ l γ D dA B E k p e s m args below meth c R Z pc kc ks ls st w := by
  intro hc H locs lsA hS hW hL
  obtain ⟨hx, hb, hr, hml, hown, hts, hlk, hmn, htab⟩ := C
  simp only [sd] at h
  split at h <;> first | exact absurd h (fun q => q) | skip
  rename_i a st'
  cases hw : w.1 a with
  | none => rw [hw] at h; exact absurd h (fun q => q)
  | some ce =>
    rw [hw] at h
    match ce, h, hw with
    | .inr _, h, _ => exact absurd h (fun q => q)
    | .inl (t, n, ct), h, hw =>
      obtain ⟨hP, hk, -⟩ := h
      have hk := hK _ _ _ _ _ (hk trivial) hc _ _ _ hS hW hL
      obtain ⟨ce, e1, e2, e3, e4, e5⟩ := hW.arr hw hE hKK hS (fun q => hP.elim id fun r => absurd q (Nat.not_le.mpr r))
      exact W.alen (n := Int32.ofNat n) hx hb e1 e2 e4.2 rfl rfl hdg hk

theorem st_iaload {pc : Nat} {d : List Nat} {kc ks : Nat} {ls st : List Value} {w : AW} {G : AG} {Q : AQ} {K : Nat → Nat → List Value → List Value → AW → Prop} {cap : Nat × Nat} {hs : List (String × Nat × Nat)} {rt : Option FieldType}
    (C : Ctx k p s m args meth c) (hE : Ext γ B E s s.heap) (hKK : va_K D kcl (tysOf dA) s) (hγ : ∀ i, k0 ≤ i → γ i = B + (i - k0)) (hdg : decode (mB k) pc = .ok (.iaload, 1))
    (hK : ∀ kc ks ls st w, K kc ks ls st w → WJ l γ D dA B E k p e s m args below meth c R Z (pc + 1) kc ks ls st w)
    (h : isd G k hs Q K (sd cap hs rt (.iaload) d kc ks ls st w)) : WJ l γ D dA B E k p e s m args below meth c R Z pc kc ks ls st w := by
  intro hc H locs lsA hS hW hL
  obtain ⟨hx, hb, hr, hml, hown, hts, hlk, hmn, htab⟩ := C
  simp only [sd] at h
  split at h <;> first | exact absurd h (fun q => q) | skip
  rename_i j a st'
  cases hw : w.1 a with
  | none => rw [hw] at h; exact absurd h (fun q => q)
  | some ce =>
    rw [hw] at h
    match ce, h, hw with
    | .inr _, h, _ => exact absurd h (fun q => q)
    | .inl (_, _, .inr (.inl _)), h, _ => exact absurd h (fun q => q)
    | .inl (_, _, .inr (.inr (.inl _))), h, _ => exact absurd h (fun q => q)
    | .inl (_, _, .inr (.inr (.inr (.inl _)))), h, _ => exact absurd h (fun q => q)
    | .inl (_, _, .inr (.inr (.inr (.inr _)))), h, _ => exact absurd h (fun q => q)
    | .inl (t, n, .inl f), h, hw =>
      obtain ⟨⟨hP1, hP2⟩, hk, -⟩ := h
      subst hP1
      have hk := hK _ _ _ _ _ (hk trivial) hc _ _ _ hS hW hL
      obtain ⟨ce, e1, e2, e3, e4, e5⟩ := hW.arr hw hE hKK hS (fun q => by decide)
      exact W.iald hx hb e1 e2 e3 (fun q => hP2 (q.imp id (Nat.le_trans e4.1))) (e5 _ (Nat.not_le.mp fun q => hP2 (Or.inr q))) rfl rfl hdg hk

theorem st_caload {pc : Nat} {d : List Nat} {kc ks : Nat} {ls st : List Value} {w : AW} {G : AG} {Q : AQ} {K : Nat → Nat → List Value → List Value → AW → Prop} {cap : Nat × Nat} {hs : List (String × Nat × Nat)} {rt : Option FieldType}
    (C : Ctx k p s m args meth c) (hE : Ext γ B E s s.heap) (hKK : va_K D kcl (tysOf dA) s) (hγ : ∀ i, k0 ≤ i → γ i = B + (i - k0)) (hdg : decode (mB k) pc = .ok (.caload, 1))
    (hK : ∀ kc ks ls st w, K kc ks ls st w → WJ l γ D dA B E k p e s m args below meth c R Z (pc + 1) kc ks ls st w)
    (h : isd G k hs Q K (sd cap hs rt (.caload) d kc ks ls st w)) : WJ l γ D dA B E k p e s m args below meth c R Z pc kc ks ls st w := by
  intro hc H locs lsA hS hW hL
  obtain ⟨hx, hb, hr, hml, hown, hts, hlk, hmn, htab⟩ := C
  simp only [sd] at h
  split at h <;> first | exact absurd h (fun q => q) | skip
  rename_i j a st'
  cases hw : w.1 a with
  | none => rw [hw] at h; exact absurd h (fun q => q)
  | some ce =>
    rw [hw] at h
    match ce, h, hw with
    | .inr _, h, _ => exact absurd h (fun q => q)
    | .inl (_, _, .inr (.inl _)), h, _ => exact absurd h (fun q => q)
    | .inl (_, _, .inr (.inr (.inl _))), h, _ => exact absurd h (fun q => q)
    | .inl (_, _, .inr (.inr (.inr (.inl _)))), h, _ => exact absurd h (fun q => q)
    | .inl (_, _, .inr (.inr (.inr (.inr _)))), h, _ => exact absurd h (fun q => q)
    | .inl (t, n, .inl f), h, hw =>
      obtain ⟨⟨hP1, hP2⟩, hk, -⟩ := h
      subst hP1
      have hk := hK _ _ _ _ _ (hk trivial) hc _ _ _ hS hW hL
      obtain ⟨ce, e1, e2, e3, e4, e5⟩ := hW.arr hw hE hKK hS (fun q => by decide)
      exact W.cald hx hb e1 e2 e3 (fun q => hP2 (q.imp id (Nat.le_trans e4.1))) (e5 _ (Nat.not_le.mp fun q => hP2 (Or.inr q))) rfl rfl hdg hk

theorem st_laload {pc : Nat} {d : List Nat} {kc ks : Nat} {ls st : List Value} {w : AW} {G : AG} {Q : AQ} {K : Nat → Nat → List Value → List Value → AW → Prop} {cap : Nat × Nat} {hs : List (String × Nat × Nat)} {rt : Option FieldType}
    (C : Ctx k p s m args meth c) (hE : Ext γ B E s s.heap) (hKK : va_K D kcl (tysOf dA) s) (hγ : ∀ i, k0 ≤ i → γ i = B + (i - k0)) (hdg : decode (mB k) pc = .ok (.laload, 1))
    (hK : ∀ kc ks ls st w, K kc ks ls st w → WJ l γ D dA B E k p e s m args below meth c R Z (pc + 1) kc ks ls st w)
    (h : isd G k hs Q K (sd cap hs rt (.laload) d kc ks ls st w)) : WJ l γ D dA B E k p e s m args below meth c R Z pc kc ks ls st w := by
  intro hc H locs lsA hS hW hL
  obtain ⟨hx, hb, hr, hml, hown, hts, hlk, hmn, htab⟩ := C
  simp only [sd] at h
  split at h <;> first | exact absurd h (fun q => q) | skip
  rename_i j a st'
  cases hw : w.1 a with
  | none => rw [hw] at h; exact absurd h (fun q => q)
  | some ce =>
    rw [hw] at h
    match ce, h, hw with
    | .inr _, h, _ => exact absurd h (fun q => q)
    | .inl (_, _, .inl _), h, _ => exact absurd h (fun q => q)
    | .inl (_, _, .inr (.inr (.inl _))), h, _ => exact absurd h (fun q => q)
    | .inl (_, _, .inr (.inr (.inr (.inl _)))), h, _ => exact absurd h (fun q => q)
    | .inl (_, _, .inr (.inr (.inr (.inr _)))), h, _ => exact absurd h (fun q => q)
    | .inl (t, n, .inr (.inl f)), h, hw =>
      obtain ⟨⟨hP1, hP2⟩, hk, -⟩ := h
      subst hP1
      have hk := hK _ _ _ _ _ (hk trivial) hc _ _ _ hS hW hL
      obtain ⟨ce, e1, e2, e3, e4, e5⟩ := hW.arr hw hE hKK hS (fun q => by decide)
      exact W.lald hx hb e1 e2 e3 (fun q => hP2 (q.imp id (Nat.le_trans e4.1))) (e5 _ (Nat.not_le.mp fun q => hP2 (Or.inr q))) rfl rfl hdg hk

theorem st_baload {pc : Nat} {d : List Nat} {kc ks : Nat} {ls st : List Value} {w : AW} {G : AG} {Q : AQ} {K : Nat → Nat → List Value → List Value → AW → Prop} {cap : Nat × Nat} {hs : List (String × Nat × Nat)} {rt : Option FieldType}
    (C : Ctx k p s m args meth c) (hE : Ext γ B E s s.heap) (hKK : va_K D kcl (tysOf dA) s) (hγ : ∀ i, k0 ≤ i → γ i = B + (i - k0)) (hdg : decode (mB k) pc = .ok (.baload, 1))
    (hK : ∀ kc ks ls st w, K kc ks ls st w → WJ l γ D dA B E k p e s m args below meth c R Z (pc + 1) kc ks ls st w)
    (h : isd G k hs Q K (sd cap hs rt (.baload) d kc ks ls st w)) : WJ l γ D dA B E k p e s m args below meth c R Z pc kc ks ls st w := by
  intro hc H locs lsA hS hW hL
  obtain ⟨hx, hb, hr, hml, hown, hts, hlk, hmn, htab⟩ := C
  simp only [sd] at h
  split at h <;> first | exact absurd h (fun q => q) | skip
  rename_i j a st'
  cases hw : w.1 a with
  | none => rw [hw] at h; exact absurd h (fun q => q)
  | some ce =>
    rw [hw] at h
    match ce, h, hw with
    | .inr _, h, _ => exact absurd h (fun q => q)
    | .inl (_, _, .inr (.inl _)), h, _ => exact absurd h (fun q => q)
    | .inl (_, _, .inr (.inr (.inl _))), h, _ => exact absurd h (fun q => q)
    | .inl (_, _, .inr (.inr (.inr (.inl _)))), h, _ => exact absurd h (fun q => q)
    | .inl (_, _, .inr (.inr (.inr (.inr _)))), h, _ => exact absurd h (fun q => q)
    | .inl (t, n, .inl f), h, hw =>
      obtain ⟨⟨hP1, hP2⟩, hk, -⟩ := h
      subst hP1
      have hk := hK _ _ _ _ _ (hk trivial) hc _ _ _ hS hW hL
      have hn : ¬ k0 ≤ a := Nat.not_le.mpr hP2.1
      obtain ⟨ce, e1, e2, e3, e4, e5⟩ := hW.arr hw hE hKK hS (fun q => absurd q hn)
      exact W.bald hx hb e1 e2 e3 (fun q => hP2.2 (q.imp id (Nat.le_trans e4.1))) (e5 _ (Nat.not_le.mp fun q => hP2.2 (Or.inr q))) rfl rfl hdg hk

theorem st_aaload {pc : Nat} {d : List Nat} {kc ks : Nat} {ls st : List Value} {w : AW} {G : AG} {Q : AQ} {K : Nat → Nat → List Value → List Value → AW → Prop} {cap : Nat × Nat} {hs : List (String × Nat × Nat)} {rt : Option FieldType}
    (C : Ctx k p s m args meth c) (hE : Ext γ B E s s.heap) (hKK : va_K D kcl (tysOf dA) s) (hγ : ∀ i, k0 ≤ i → γ i = B + (i - k0)) (hdg : decode (mB k) pc = .ok (.aaload, 1))
    (hK : ∀ kc ks ls st w, K kc ks ls st w → WJ l γ D dA B E k p e s m args below meth c R Z (pc + 1) kc ks ls st w)
    (h : isd G k hs Q K (sd cap hs rt (.aaload) d kc ks ls st w)) : WJ l γ D dA B E k p e s m args below meth c R Z pc kc ks ls st w := by
  intro hc H locs lsA hS hW hL
  obtain ⟨hx, hb, hr, hml, hown, hts, hlk, hmn, htab⟩ := C
  simp only [sd] at h
  split at h <;> first | exact absurd h (fun q => q) | skip
  rename_i j a st'
  cases hw : w.1 a with
  | none => rw [hw] at h; exact absurd h (fun q => q)
  | some ce =>
    rw [hw] at h
    match ce, h, hw with
    | .inr _, h, _ => exact absurd h (fun q => q)
    | .inl (_, _, .inl _), h, _ => exact absurd h (fun q => q)
    | .inl (_, _, .inr (.inl _)), h, _ => exact absurd h (fun q => q)
    | .inl (_, _, .inr (.inr (.inl _))), h, _ => exact absurd h (fun q => q)
    | .inl (_, _, .inr (.inr (.inr (.inl _)))), h, _ => exact absurd h (fun q => q)
    | .inl (t, n, .inr (.inr (.inr (.inr f)))), h, hw =>
      obtain ⟨⟨hP1, hP2⟩, hk, -⟩ := h
      have hk := hK _ _ _ _ _ (hk trivial) hc _ _ _ hS hW hL
      rw [show (va_rf (f j.toNatClampNeg) :: st').map (cv γ) = va_rf ((f j.toNatClampNeg).map γ) :: st'.map (cv γ) by rw [List.map_cons]; cases f j.toNatClampNeg <;> rfl] at hk
      have ht : k0 ≤ a → t < 4 := fun q => hP1.elim (fun r => by omega) fun r => absurd q (Nat.not_le.mpr r.2)
      obtain ⟨ce, e1, e2, e3, e4, e5⟩ := hW.arr hw hE hKK hS ht
      exact W.aald hx hb e1 e2 (by rcases hP1 with r | ⟨r, -⟩ <;> subst r <;> rfl) e3 (fun q => hP2 (q.imp id (Nat.le_trans e4.1))) (e5 _ (Nat.not_le.mp fun q => hP2 (Or.inr q))) rfl rfl hdg hk

theorem st_iastore {pc : Nat} {d : List Nat} {kc ks : Nat} {ls st : List Value} {w : AW} {G : AG} {Q : AQ} {K : Nat → Nat → List Value → List Value → AW → Prop} {cap : Nat × Nat} {hs : List (String × Nat × Nat)} {rt : Option FieldType}
    (C : Ctx k p s m args meth c) (hE : Ext γ B E s s.heap) (hKK : va_K D kcl (tysOf dA) s) (hγ : ∀ i, k0 ≤ i → γ i = B + (i - k0)) (hdg : decode (mB k) pc = .ok (.iastore, 1))
    (hK : ∀ kc ks ls st w, K kc ks ls st w → WJ l γ D dA B E k p e s m args below meth c R Z (pc + 1) kc ks ls st w)
    (h : isd G k hs Q K (sd cap hs rt (.iastore) d kc ks ls st w)) : WJ l γ D dA B E k p e s m args below meth c R Z pc kc ks ls st w := by
  intro hc H locs lsA hS hW hL
  obtain ⟨hx, hb, hr, hml, hown, hts, hlk, hmn, htab⟩ := C
  simp only [sd] at h
  split at h <;> first | exact absurd h (fun q => q) | skip
  rename_i x j a st'
  cases hw : w.1 a with
  | none => rw [hw] at h; exact absurd h (fun q => q)
  | some ce =>
    rw [hw] at h
    match ce, h, hw with
    | .inr _, h, _ => exact absurd h (fun q => q)
    | .inl (_, _, .inr (.inl _)), h, _ => exact absurd h (fun q => q)
    | .inl (_, _, .inr (.inr (.inl _))), h, _ => exact absurd h (fun q => q)
    | .inl (_, _, .inr (.inr (.inr (.inl _)))), h, _ => exact absurd h (fun q => q)
    | .inl (_, _, .inr (.inr (.inr (.inr _)))), h, _ => exact absurd h (fun q => q)
    | .inl (t, n, .inl f), h, hw =>
      obtain ⟨⟨hP1, hP2, hP3⟩, hk, -⟩ := h
      subst hP1
      have hk := hK _ _ _ _ _ (hk trivial)
      have h1 := hW.own hP2 hw
      have hA := (hKK.2 _ _ (tys_ty (dA := dA) (t := 0) (by decide))).1
      refine W.iast hx hb h1 (hA n _) (fun q => by cases q) (by show ¬ (j < 0 ∨ (arrV _ _ _).slots.size ≤ _); rw [arrV_size]; exact hP3) rfl rfl hdg fun H1 e1 e2 e3 => ?_
      refine hk hc _ _ _ (hS.put e2 e3 (by show B ≤ γ a; rw [hγ a hP2]; omega)) (hW.put hγ hP2 hw ?_ e2 e3) hL
      show H1[γ a]? = some (vp_cell _ _)
      rw [e1]
      simp only [cvA]
      rw [vp_cell_i, vp_cell_i, arrV_store]
      congr 2
      funext q
      by_cases hq : q = j.toNatClampNeg
      · subst hq
        simp [updV, upd, vp_updL, va_up]
      · simp [updV, upd, vp_updL, va_up, hq]

theorem st_castore {pc : Nat} {d : List Nat} {kc ks : Nat} {ls st : List Value} {w : AW} {G : AG} {Q : AQ} {K : Nat → Nat → List Value → List Value → AW → Prop} {cap : Nat × Nat} {hs : List (String × Nat × Nat)} {rt : Option FieldType}
    (C : Ctx k p s m args meth c) (hE : Ext γ B E s s.heap) (hKK : va_K D kcl (tysOf dA) s) (hγ : ∀ i, k0 ≤ i → γ i = B + (i - k0)) (hdg : decode (mB k) pc = .ok (.castore, 1))
    (hK : ∀ kc ks ls st w, K kc ks ls st w → WJ l γ D dA B E k p e s m args below meth c R Z (pc + 1) kc ks ls st w)
    (h : isd G k hs Q K (sd cap hs rt (.castore) d kc ks ls st w)) : WJ l γ D dA B E k p e s m args below meth c R Z pc kc ks ls st w := by
  intro hc H locs lsA hS hW hL
  obtain ⟨hx, hb, hr, hml, hown, hts, hlk, hmn, htab⟩ := C
  simp only [sd] at h
  split at h <;> first | exact absurd h (fun q => q) | skip
  rename_i x j a st'
  cases hw : w.1 a with
  | none => rw [hw] at h; exact absurd h (fun q => q)
  | some ce =>
    rw [hw] at h
    match ce, h, hw with
    | .inr _, h, _ => exact absurd h (fun q => q)
    | .inl (_, _, .inr (.inl _)), h, _ => exact absurd h (fun q => q)
    | .inl (_, _, .inr (.inr (.inl _))), h, _ => exact absurd h (fun q => q)
    | .inl (_, _, .inr (.inr (.inr (.inl _)))), h, _ => exact absurd h (fun q => q)
    | .inl (_, _, .inr (.inr (.inr (.inr _)))), h, _ => exact absurd h (fun q => q)
    | .inl (t, n, .inl f), h, hw =>
      obtain ⟨⟨hP1, hP2, hP3, hP4⟩, hk, -⟩ := h
      subst hP1
      have hk := hK _ _ _ _ _ (hk trivial)
      have h1 := hW.own hP2 hw
      have hA := (hKK.2 _ _ (tys_ty (dA := dA) (t := 1) (by decide))).1
      refine W.cast hx hb h1 (hA n _) (fun q => by cases q) (by show ¬ (j < 0 ∨ (arrV _ _ _).slots.size ≤ _); rw [arrV_size]; exact hP3) rfl rfl hdg fun H1 e1 e2 e3 => ?_
      refine hk hc _ _ _ (hS.put e2 e3 (by show B ≤ γ a; rw [hγ a hP2]; omega)) (hW.put hγ hP2 hw ?_ e2 e3) hL
      show H1[γ a]? = some (vp_cell _ _)
      rw [e1]
      simp only [cvA]
      rw [vp_cell_i, vp_cell_i, arrV_store]
      congr 2
      funext q
      by_cases hq : q = j.toNatClampNeg
      · subst hq
        simp [updV, upd, vp_updL, va_up, hP4.1]
      · simp [updV, upd, vp_updL, va_up, hq]

theorem st_lastore {pc : Nat} {d : List Nat} {kc ks : Nat} {ls st : List Value} {w : AW} {G : AG} {Q : AQ} {K : Nat → Nat → List Value → List Value → AW → Prop} {cap : Nat × Nat} {hs : List (String × Nat × Nat)} {rt : Option FieldType}
    (C : Ctx k p s m args meth c) (hE : Ext γ B E s s.heap) (hKK : va_K D kcl (tysOf dA) s) (hγ : ∀ i, k0 ≤ i → γ i = B + (i - k0)) (hdg : decode (mB k) pc = .ok (.lastore, 1))
    (hK : ∀ kc ks ls st w, K kc ks ls st w → WJ l γ D dA B E k p e s m args below meth c R Z (pc + 1) kc ks ls st w)
    (h : isd G k hs Q K (sd cap hs rt (.lastore) d kc ks ls st w)) : WJ l γ D dA B E k p e s m args below meth c R Z pc kc ks ls st w := by
  intro hc H locs lsA hS hW hL
  obtain ⟨hx, hb, hr, hml, hown, hts, hlk, hmn, htab⟩ := C
  simp only [sd] at h
  split at h <;> first | exact absurd h (fun q => q) | skip
  rename_i x j a st'
  cases hw : w.1 a with
  | none => rw [hw] at h; exact absurd h (fun q => q)
  | some ce =>
    rw [hw] at h
    match ce, h, hw with
    | .inr _, h, _ => exact absurd h (fun q => q)
    | .inl (_, _, .inl _), h, _ => exact absurd h (fun q => q)
    | .inl (_, _, .inr (.inr (.inl _))), h, _ => exact absurd h (fun q => q)
    | .inl (_, _, .inr (.inr (.inr (.inl _)))), h, _ => exact absurd h (fun q => q)
    | .inl (_, _, .inr (.inr (.inr (.inr _)))), h, _ => exact absurd h (fun q => q)
    | .inl (t, n, .inr (.inl f)), h, hw =>
      obtain ⟨⟨hP1, hP2, hP3⟩, hk, -⟩ := h
      subst hP1
      have hk := hK _ _ _ _ _ (hk trivial)
      have h1 := hW.own hP2 hw
      have hA := (hKK.2 _ _ (tys_ty (dA := dA) (t := 2) (by decide))).1
      refine W.last hx hb h1 (hA n _) (fun q => by cases q) (by show ¬ (j < 0 ∨ (arrV _ _ _).slots.size ≤ _); rw [arrV_size]; exact hP3) rfl rfl hdg fun H1 e1 e2 e3 => ?_
      refine hk hc _ _ _ (hS.put e2 e3 (by show B ≤ γ a; rw [hγ a hP2]; omega)) (hW.put hγ hP2 hw ?_ e2 e3) hL
      show H1[γ a]? = some (vp_cell _ _)
      rw [e1]
      simp only [cvA]
      rw [vp_cell_l, vp_cell_l, arrV_store]
      congr 2
      funext q
      by_cases hq : q = j.toNatClampNeg
      · subst hq
        simp [updV, upd, vp_updL, va_up]
      · simp [updV, upd, vp_updL, va_up, hq]

end St2
