section St3
variable {l : Launch} {γ : Nat → Nat} {D : va_G} {dA : Nat → ClassId} {B : Nat} {E : List AC}
variable {k : Nat} {p : Program} {e : Env} {s : State} {m : MethodId} {args : Array Value} {below : List Frame} {meth : Method} {c : Code} {R : Room} {Z : State → Prop}
theorem cats_eq (γ : Nat → Nat) : ∀ st : List Value, ((st.map (cv γ)).map fun v => v.category).sum = cats st
  | [] => rfl
  | v :: st => by
    rw [List.map_cons, List.map_cons, List.sum_cons, cats_eq γ st, cv_cat]
    rfl
theorem st_aastore {pc : Nat} {d : List Nat} {kc ks : Nat} {ls st : List Value} {w : AW} {G : AG} {Q : AQ} {K : Nat → Nat → List Value → List Value → AW → Prop} {cap : Nat × Nat} {hs : List (String × Nat × Nat)} {rt : Option FieldType}
    (C : Ctx k p s m args meth c) (hKK : va_K D kcl (tysOf dA) s) (hγ : ∀ i, k0 ≤ i → γ i = B + (i - k0)) (hdg : decode (mB k) pc = .ok (.aastore, 1))
    (hK : ∀ kc ks ls st w, K kc ks ls st w → WJ l γ D dA B E k p e s m args below meth c R Z (pc + 1) kc ks ls st w)
    (h : isd G k hs Q K (sd cap hs rt .aastore d kc ks ls st w)) : WJ l γ D dA B E k p e s m args below meth c R Z pc kc ks ls st w := by
  intro hc H locs lsA hS hW hL
  obtain ⟨hx, hb, hr, hml, hown, hts, hlk, hmn, htab⟩ := C
  simp only [sd] at h
  split at h <;> first | exact absurd h (fun q => q) | skip
  rename_i x j a st'
  cases hw : w.1 a with
  | none => rw [hw] at h; exact absurd h (fun q => q)
  | some ce =>
    rw [hw] at h
    match ce, h, hw with
    | .inr _, h, _ => exact absurd h (fun q => q)
    | .inl (_, _, .inl _), h, _ => exact absurd h (fun q => q)
    | .inl (_, _, .inr (.inl _)), h, _ => exact absurd h (fun q => q)
    | .inl (_, _, .inr (.inr (.inl _))), h, _ => exact absurd h (fun q => q)
    | .inl (_, _, .inr (.inr (.inr (.inl _)))), h, _ => exact absurd h (fun q => q)
    | .inl (t, n, .inr (.inr (.inr (.inr f)))), h, hw =>
      obtain ⟨⟨hP1, hP2, hP3, hP4, hP5⟩, hk, -⟩ := h
      subst hP1
      have hk := hK _ _ _ _ _ (hk trivial)
      have h1 := hW.own hP2 hw
      have hlt : j.toNatClampNeg < n := Nat.not_le.mp fun q => hP3 (Or.inr q)
      have h0 : ¬ j < 0 := fun q => hP3 (Or.inl q)
      have hx4 : ∃ fs, w.1 x = some (.inr (0, fs)) := by
        simp only [rcv] at hP4
        cases hwx : w.1 x with
        | none => rw [hwx] at hP4; exact absurd hP4 (fun q => q)
        | some cx =>
          rw [hwx] at hP4
          match cx, hP4 with
          | .inr (c9, fs), hP4 => exact ⟨fs, by rw [show c9 = 0 from hP4]⟩
      obtain ⟨fs, hwx⟩ := hx4
      obtain ⟨r', hr', cellV, g1, g2, g3, -⟩ := hW.own hP5 hwx
      have hcls := (hKK.1 0 _ (xK 0 (by decide))).2
      obtain ⟨kA, comp, k1, k2, k3, -⟩ := (hKK.2 3 _ (tys_ty (dA := dA) (by decide))).2
      have hcomp : comp = D.1 0 := Option.some.inj (k3.symm.trans hcls.1)
      subst hcomp
      obtain ⟨kC, hkC, -⟩ := hcls.2
      refine W.aast hx hb h1 (fun q h => by cases h) (fun h => by cases h) k1 k2 rfl hkC ⟨h0, by show _ < (arrV _ _ _).slots.size; rw [arrV_size]; exact hlt⟩ g1 (fun q h => by rw [g3] at h; cases h) (by rw [g2]; exact hkC) (by rw [g2]; exact va_assign hcls) rfl rfl hdg fun H1 e1 e2 e3 => ?_
      refine hk hc _ _ _ (hS.put e2 e3 (by show B ≤ γ a; rw [hγ a hP2]; omega)) (hW.put hγ hP2 hw ?_ e2 e3) hL
      show H1[γ a]? = some (vp_cell _ _)
      rw [e1]
      simp only [cvA]
      rw [vp_cell_q, vp_cell_q, arrV_store]
      congr 2
      funext q
      by_cases hq : q = j.toNatClampNeg
      · subst hq
        simp [updV, va_up, va_rf]
      · simp [updV, va_up, hq]
theorem st_ldc {pc : Nat} {n : Nat} {d : List Nat} {kc ks : Nat} {ls st : List Value} {w : AW} {G : AG} {Q : AQ} {K : Nat → Nat → List Value → List Value → AW → Prop} {cap : Nat × Nat} {hs : List (String × Nat × Nat)} {rt : Option FieldType}
    (C : Ctx k p s m args meth c) (hE : Ext γ B E s s.heap) (hdg : decode (mB k) pc = .ok (.ldc n, 2))
    (hd : (∀ v pi, d = [0, v, pi] → Cond.constant (mY k).cls n (Int32.ofNat v) ∈ gw) ∧ (∀ x pi, d = [1, x, pi] → ∃ tx, ((mY k).cls, n, tx, x) ∈ xLd))
    (hK : ∀ kc ks ls st w, K kc ks ls st w → WJ l γ D dA B E k p e s m args below meth c R Z (pc + 2) kc ks ls st w)
    (h : isd G k hs Q K (sd cap hs rt (.ldc n) d kc ks ls st w)) : WJ l γ D dA B E k p e s m args below meth c R Z pc kc ks ls st w := by
  intro hc H locs lsA hS hW hL
  obtain ⟨hx, hb, hr, hml, hown, hts, hlk, hmn, htab⟩ := C
  simp only [sd] at h
  split at h <;> first | exact absurd h (fun q => q) | skip
  · obtain ⟨hP, hk, -⟩ := h
    exact lv_ldc hx hb hown (hts _ (hd.1 _ _ rfl)) hdg (hK _ _ _ _ _ (hk trivial) hc _ _ _ hS hW hL)
  · obtain ⟨hP, hk, -⟩ := h
    obtain ⟨tx, htx⟩ := hd.2 _ _ rfl
    exact va_ldcS hx hb hown (hE.2.1 _ htx) hdg (hK _ _ _ _ _ (hk trivial) hc _ _ _ hS hW hL)
theorem st_ldcw {pc : Nat} {n : Nat} {d : List Nat} {kc ks : Nat} {ls st : List Value} {w : AW} {G : AG} {Q : AQ} {K : Nat → Nat → List Value → List Value → AW → Prop} {cap : Nat × Nat} {hs : List (String × Nat × Nat)} {rt : Option FieldType}
    (C : Ctx k p s m args meth c) (hdg : decode (mB k) pc = .ok (.ldc_w n, 3))
    (hd : (∀ v pi, d = [0, v, pi] → Cond.constant (mY k).cls n (Int32.ofNat v) ∈ gw) ∧ (∀ x pi, d ≠ [1, x, pi]))
    (hK : ∀ kc ks ls st w, K kc ks ls st w → WJ l γ D dA B E k p e s m args below meth c R Z (pc + 3) kc ks ls st w)
    (h : isd G k hs Q K (sd cap hs rt (.ldc_w n) d kc ks ls st w)) : WJ l γ D dA B E k p e s m args below meth c R Z pc kc ks ls st w := by
  intro hc H locs lsA hS hW hL
  obtain ⟨hx, hb, hr, hml, hown, hts, hlk, hmn, htab⟩ := C
  simp only [sd] at h
  split at h <;> first | exact absurd h (fun q => q) | skip
  · obtain ⟨hP, hk, -⟩ := h
    exact lv_ldcw hx hb hown (hts _ (hd.1 _ _ rfl)) hdg (hK _ _ _ _ _ (hk trivial) hc _ _ _ hS hW hL)
  · exact absurd rfl (hd.2 _ _)
theorem ls_or {pc df : Nat} {dfo : Int} {x : Int32} {g : Nat → Prop} (hdf : (pc : Int) + dfo = (pcs k df : Int)) : ∀ (r : List (Int × Int)) (l : List Nat), lsOk k pc r l = true → swp x df g l → ∃ t, (pc : Int) + Op.lookupswitch.offset r dfo x.toInt = (pcs k t : Int) ∧ g t
  | [], [], _, h => ⟨df, hdf, h⟩
  | [], _ :: _, h, _ => by simp [lsOk] at h
  | (a, o) :: r, [], h, _ => by simp [lsOk] at h
  | (a, o) :: r, [_], h, _ => by simp [lsOk] at h
  | (a, o) :: r, key :: t :: l, h, hs => by
    simp only [lsOk, Bool.and_eq_true, decide_eq_true_eq] at h
    obtain ⟨⟨⟨h1, h2⟩, h3⟩, h4⟩ := h
    by_cases e : x = Int32.ofNat key
    · refine ⟨t, ?_, hs.1 e⟩
      rw [Op.lookupswitch.offset_cons, if_pos (by rw [e, h1]; exact (nI_toInt h2).symm)]
      exact h3
    · obtain ⟨t', e1, e2⟩ := ls_or hdf r l h4 (hs.2 e)
      refine ⟨t', ?_, e2⟩
      rw [Op.lookupswitch.offset_cons, if_neg]
      · exact e1
      · intro q
        apply e
        apply Int32.toInt_inj.mp
        rw [← q, h1]
        exact (nI_toInt h2).symm
theorem st_lsw {pc : Nat} {df : Int} {ps : Array (Int × Int)} {len : Nat} {d : List Nat} {kc ks : Nat} {ls st : List Value} {w : AW} {G : AG} {Q : AQ} {K : Nat → Nat → List Value → List Value → AW → Prop} {cap : Nat × Nat} {hs : List (String × Nat × Nat)} {rt : Option FieldType}
    (hx : p.tables.exec = Jvm.exec) (hb : c.code = mB k) (hdg : decode (mB k) pc = .ok (.lookupswitch df ps, len)) (ht : ∀ td l, d = td :: l → (pc : Int) + df = (pcs k td : Int) ∧ lsOk k pc ps.toList l = true ∧ (ps.toList.zip (ps.toList.drop 1)).all (fun (a, next) => a.1 < next.1) = true)
    (hG : ∀ t kc ks ls st w, G k t kc ks ls st w Q → WJ l γ D dA B E k p e s m args below meth c R Z (pcs k t) kc ks ls st w)
    (h : isd G k hs Q K (sd cap hs rt (.lookupswitch df ps) d kc ks ls st w)) : WJ l γ D dA B E k p e s m args below meth c R Z pc kc ks ls st w := by
  intro hc H locs lsA hS hW hL
  simp only [sd] at h
  split at h <;> first | exact absurd h (fun q => q) | skip
  obtain ⟨t1, t2, t3⟩ := ht _ _ rfl
  obtain ⟨-, h1⟩ := h
  rw [swt_iff] at h1
  obtain ⟨t, e1, e2⟩ := ls_or t1 _ _ t2 (h1 trivial)
  exact lv_lookup hx hb hdg t3 rfl e1 (hG _ _ _ _ _ _ e2 hc _ _ _ hS hW hL)
theorem st_oinit {pc : Nat} {n : Nat} {pi : Nat} {kc ks : Nat} {ls st : List Value} {w : AW} {G : AG} {Q : AQ} {K : Nat → Nat → List Value → List Value → AW → Prop} {cap : Nat × Nat} {hs : List (String × Nat × Nat)} {rt : Option FieldType}
    (C : Ctx k p s m args meth c) (hdg : decode (mB k) pc = .ok (.invokespecial n, 3)) (hR : 1 ≤ R.frames ∧ 20 ≤ R.locals)
    (hd : Cond.methodLink (mY k).cls n Lib.objectInit ∈ gw ∧ Cond.instanceMethod Lib.objectInit ∈ gw ∧ Cond.code Lib.objectInit ⟨#[0xb1]⟩ 1 none ∈ gw)
    (hK : ∀ kc ks ls st w, K kc ks ls st w → WJ l γ D dA B E k p e s m args below meth c R Z (pc + 3) kc ks ls st w)
    (h : isd G k hs Q K (sd cap hs rt (.invokespecial n) [pi] kc ks ls st w)) : WJ l γ D dA B E k p e s m args below meth c R Z pc kc ks ls st w := by
  intro hc H locs lsA hS hW hL
  obtain ⟨hx, hb, hr, hml, hown, hts, hlk, hmn, htab⟩ := C
  simp only [sd] at h
  split at h <;> first | exact absurd h (fun q => q) | skip
  rename_i a st'
  obtain ⟨hP, hk, -⟩ := h
  refine W.objInit hx hb hown (hts _ hd.1) (hts _ hd.2.1) (hts _ hd.2.2) (g := F0 m pc lsA ((Value.ref a :: st').map (cv γ))) rfl (by rw [hml]; exact hL.size) (a := γ a) (rest := st'.map (cv γ)) rfl hdg hR.1 (by rw [cats_eq]; show 2 * 0 + _ + _ ≤ _; omega) (hK _ _ _ _ _ (hk trivial) hc _ _ _ hS hW hL)
theorem x_acopy (hx : p.tables.exec = Jvm.exec) (hb : c.code = mB k) {pc n : Nat} {H : Heap} {locs : List Loc} {ls : Array Slot} {cells slots : Nat} {rest : List Value} (hml : c.maxLocals = ls.size) {own : String} (hown : s.vm.findClass own = some m.cls) (hlink : (Cond.methodLink own n arraycopyName).before args s = true) (hnat : (Cond.native arraycopyName).before args s = true) (hstat : (Cond.static arraycopyName).before args s = true) (hini : (Cond.initialized "java/lang/System").before args s = true)
    (hA : ArrOfT s (dA 0) .int) {a0 a : Nat} {n0 n1 : Nat} {f g : Nat → Int32} (hc0 : H[a0]? = some (vp_cell (dA 0) (n0, .inl f))) (hc1 : H[a]? = some (vp_cell (dA 0) (n1, .inl g)))
    {sp dp z : Int32} (h1 : ¬ sp < 0) (h2 : ¬ dp < 0) (h3 : ¬ z < 0) (h4 : sp.toNatClampNeg + z.toNatClampNeg ≤ n0) (h5 : dp.toNatClampNeg + z.toNatClampNeg ≤ n1)
    (hframes : 1 ≤ R.frames) (hlocals : (rest.map fun v => v.category).sum + (nativeFrameWords "java/lang/System" "arraycopy" 5 + 11) ≤ R.locals) (hdg : decode (mB k) pc = .ok (.invokestatic n, 3))
    (kk : ∀ (H1 : Heap) (L : List Loc), H1[a]? = some (vp_cell (dA 0) (n1, .inl (va_cpy f g sp.toNatClampNeg dp.toNatClampNeg z.toNatClampNeg))) → H1.size = H.size → (∀ q : Nat, q ≠ a → H1[q]? = H[q]?) → (∀ q ∈ L, q.base = a) → W p l e R s m args below meth c H1 (locs ++ L) cells slots Z (F0 m (pc + 3) ls rest)) : W p l e R s m args below meth c H locs cells slots Z (F0 m pc ls (.int z :: .int dp :: .ref a :: .int sp :: .ref a0 :: rest)) := by
  have nn : ∀ z : Int32, ¬ z < 0 → z.toInt = (z.toNatClampNeg : Int) := by
    intro z hz
    have hz0 : (0 : Int) ≤ z.toInt := by
      have := Int32.not_lt.mp hz
      simpa using Int32.le_iff_toInt_le.mp this
    show z.toInt = ((z.toInt.toNat : Nat) : Int)
    omega
  intro T hT X
  obtain ⟨-, k0', hk0, cm0, hkk0⟩ := hA n0 (fun j => .int (f j))
  obtain ⟨-, k1, hk1, cm1, hkk1⟩ := hA n1 (fun j => .int (g j))
  obtain ⟨vm', X', step⟩ := X.arraycopy hx hown hlink hnat hstat hini (src := a0) (dst := a) (cs := vp_cell (dA 0) (n0, .inl f)) (cd := vp_cell (dA 0) (n1, .inl g)) (srcPos := sp) (destPos := dp) (n := z) (by rw [hT]; exact hc0) (by rw [hT]; exact hc1)
    (fun _ h => by cases h) (fun _ h => by cases h) (fun h => by cases h) (fun h => by cases h) hk0 hk1 hkk0 hkk1 (by simp [refKind]) h1 h2 h3
    (by rw [nn sp h1, nn z h3]; show ¬ _ > ((arrV (dA 0) n0 (fun j => .int (f j))).slots.size : Int); rw [arrV_size]; omega)
    (by rw [nn dp h2, nn z h3]; show ¬ _ > ((arrV (dA 0) n1 (fun j => .int (g j))).slots.size : Int); rw [arrV_size]; omega)
    (fun vm₁ _ i hi => by
      have e : (vp_cell (dA 0) (n0, .inl f)).slots.getD (sp.toNatClampNeg + i) .null = .int (f (sp.toNatClampNeg + i)) := by
        show (arrV (dA 0) n0 (fun j => .int (f j))).slots.getD _ _ = _
        rw [Array.getD_eq_getD_getElem?, arrV_read _ _ (by omega)]
        rfl
      refine ⟨?_, ?_⟩
      · rw [e]; rfl
      · rw [e]; exact trivial)
    (g := F0 m pc ls (.int z :: .int dp :: .ref a :: .int sp :: .ref a0 :: rest)) rfl (by rw [hml]) (rest := rest) rfl (by rw [hb]; exact hdg) hframes (by show 2 * 0 + _ + _ ≤ _; omega)
  have e1 : copied (vp_cell (dA 0) (n0, .inl f)) (vp_cell (dA 0) (n1, .inl g)) sp dp z = vp_cell (dA 0) (n1, .inl (va_cpy f g sp.toNatClampNeg dp.toNatClampNeg z.toNatClampNeg)) := va_copied (fun z => .int z) (dA 0) (dA 0) f g h4
  rw [e1] at X' step
  have hl : a < H.size := (Array.getElem?_eq_some_iff.mp hc1).1
  have hheap : ((T.setVm vm').setCell a (vp_cell (dA 0) (n1, .inl (va_cpy f g sp.toNatClampNeg dp.toNatClampNeg z.toNatClampNeg)))).heap = H.setIfInBounds a (vp_cell (dA 0) (n1, .inl (va_cpy f g sp.toNatClampNeg dp.toNatClampNeg z.toNatClampNeg))) := by rw [← hT]; rfl
  have oq : ∀ q : Nat, q ≠ a → (H.setIfInBounds a (vp_cell (dA 0) (n1, .inl (va_cpy f g sp.toNatClampNeg dp.toNatClampNeg z.toNatClampNeg))))[q]? = H[q]? := fun q hq => by simp [Array.getElem?_setIfInBounds, Ne.symm hq]
  obtain ⟨t, a1, b1⟩ := kk _ _ (show (H.setIfInBounds a _)[a]? = some _ by simp [Array.getElem?_setIfInBounds, hl]) (by simp) oq (fun q hq => by
      obtain ⟨z, -, hz⟩ := List.mem_map.mp hq
      rw [← hz]) _ hheap X'
  exact ⟨t, step t a1, b1⟩
theorem st_acopy {pc : Nat} {n : Nat} {pi : Nat} {kc ks : Nat} {ls st : List Value} {w : AW} {G : AG} {Q : AQ} {K : Nat → Nat → List Value → List Value → AW → Prop} {cap : Nat × Nat} {hs : List (String × Nat × Nat)} {rt : Option FieldType}
    (C : Ctx k p s m args meth c) (hKK : va_K D kcl (tysOf dA) s) (hγ : ∀ i, k0 ≤ i → γ i = B + (i - k0)) (hdg : decode (mB k) pc = .ok (.invokestatic n, 3)) (hR : 1 ≤ R.frames ∧ 26 ≤ R.locals)
    (hd : Cond.methodLink (mY k).cls n arraycopyName ∈ gw ∧ Cond.native arraycopyName ∈ gw ∧ Cond.static arraycopyName ∈ gw ∧ Cond.initialized "java/lang/System" ∈ gw)
    (hK : ∀ kc ks ls st w, K kc ks ls st w → WJ l γ D dA B E k p e s m args below meth c R Z (pc + 3) kc ks ls st w)
    (h : isd G k hs Q K (sd cap hs rt (.invokestatic n) [pi] kc ks ls st w)) : WJ l γ D dA B E k p e s m args below meth c R Z pc kc ks ls st w := by
  intro hc H locs lsA hS hW hL
  obtain ⟨hx, hb, hr, hml, hown, hts, hlk, hmn, htab⟩ := C
  simp only [sd] at h
  split at h <;> first | exact absurd h (fun q => q) | skip
  rename_i z dp a1 sp a0 st'
  split at h <;> first | exact absurd h (fun q => q) | skip
  rename_i t0 n0 f t1 n1 g hw0 hw1
  obtain ⟨⟨rfl, rfl, hP0, hP1, hP2, hP3, hP4, hP5, hP6, hP7, hP8⟩, hk, -⟩ := h
  have hk := hK _ _ _ _ _ (hk trivial)
  have hA := (hKK.2 0 _ (tys_ty (dA := dA) (t := 0) (by decide))).1
  refine x_acopy (dA := dA) hx hb (by rw [hml]; exact hL.size.symm) hown (hts _ hd.1) (hts _ hd.2.1) (hts _ hd.2.2.1) (hts _ hd.2.2.2) hA (hW.own hP0 hw0) (hW.own hP1 hw1) hP3 hP4 hP5 hP6 hP7 hR.1 (by rw [cats_eq]; show cats st' + (7 + 11) ≤ _; omega) hdg (fun H1 L e1 e2 e3 e4 => ?_)
  have hB : B ≤ γ a1 := by rw [hγ a1 hP1]; omega
  refine hk hc _ _ _ ⟨by rw [e2]; exact hS.1, fun q q1 q2 => ?_, fun q hq => ?_⟩ (hW.put hγ hP1 hw1 e1 e2 e3) hL
  · rw [e3 q (fun e => q2 (by rw [e]; exact hB))]
    exact hS.2.1 q q1 q2
  · rcases List.mem_append.mp hq with r | r
    · exact hS.2.2 q r
    · rw [e4 q r]; exact hB
end St3
