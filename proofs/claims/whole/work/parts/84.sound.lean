section Cls
theorem xK : ∀ ci, ci < 7 → kcl[ci]? = some (xR ci, xF ci, xN ci) := fun ci h => by
  match ci, h with
  | 0, _ => rfl
  | 1, _ => rfl
  | 2, _ => rfl
  | 3, _ => rfl
  | 4, _ => rfl
  | 5, _ => rfl
  | 6, _ => rfl
theorem xHin0 : ∀ ci, ci < 7 → ((u_ws (xR ci) (xF ci) (xN ci)).all fun w => decide (w ∈ gw)) = true := by decide +kernel
theorem xHin {ci : Nat} (h : ci < 7) : ∀ w ∈ u_ws (xR ci) (xF ci) (xN ci), w ∈ gw := fun w hw => of_decide_eq_true (List.all_eq_true.mp (xHin0 ci h) w hw)
theorem xTy : ∀ ci, ci < 7 → ∀ kk, kk < xN ci → parseFieldDescriptor (xF ci kk).2.2.1 = some (xT ci kk) := by decide +kernel
theorem xNm : ∀ ci, ci < 7 → ∀ a, a < xN ci → ∀ b, b < xN ci → a ≠ b → (xF ci a).2.1 ≠ (xF ci b).2.1 := by decide +kernel
theorem xDf : ∀ ci, ci < 7 → ∀ j, j < xN ci → defaultValue (xT ci j) = vp_V (kD ci) j := by decide +kernel
theorem xDc (γ : Nat → Nat) : ∀ ci, ci < 7 → (kD ci).map (cv γ) = kD ci := fun ci h => by
  match ci, h with
  | 0, _ => rfl
  | 1, _ => rfl
  | 2, _ => rfl
  | 3, _ => rfl
  | 4, _ => rfl
  | 5, _ => rfl
  | 6, _ => rfl
end Cls
theorem fit_of {γ : Nat → Nat} {t : Nat} {v : Value} {ty : FieldType} (h : okPut t v) (ht : (t = 0 → ty = .int) ∧ (t = 1 → ty = .char) ∧ (t = 2 → ty = .boolean) ∧ (3 ≤ t → ty.isReference = true)) : narrow ty (cv γ v) = cv γ v ∧ fits ty (cv γ v) = true := by
  match t, h, ht with
  | 0, h, ht =>
    rw [ht.1 rfl]
    cases v <;> first | exact absurd h (fun q => q) | skip
    exact ⟨rfl, rfl⟩
  | 1, h, ht =>
    rw [ht.2.1 rfl]
    cases v <;> first | exact absurd h (fun q => q) | skip
    exact h
  | 2, h, ht =>
    rw [ht.2.2.1 rfl]
    cases v <;> first | exact absurd h (fun q => q) | skip
    rcases h with rfl | rfl
    · exact ⟨(by decide : narrow .boolean (.int 0) = .int 0), (by decide : fits .boolean (.int 0) = true)⟩
    · exact ⟨(by decide : narrow .boolean (.int 1) = .int 1), (by decide : fits .boolean (.int 1) = true)⟩
  | t + 3, h, ht =>
    have h3 := ht.2.2.2 (by omega)
    cases v <;> first | exact absurd h (fun q => q) | skip
    cases ty <;> first | exact absurd h3 (by decide) | exact ⟨rfl, rfl⟩
theorem WR.put {γ : Nat → Nat} {D : va_G} {dA : Nat → ClassId} {B : Nat} {E : List AC} {w : AW} {H H1 : Heap} {i : Nat} {c c' : AC} (h : WR γ D dA B E w H) (hγ : ∀ i, k0 ≤ i → γ i = B + (i - k0)) (hi : k0 ≤ i) (hc : w.1 i = some c)
    (hn : va_at D kcl (γ i, cvE γ dA c') H1) (z : H1.size = H.size) (oq : ∀ q : Nat, q ≠ γ i → H1[q]? = H[q]?) : WR γ D dA B E (upw w.1 i c', w.2) H1 := by
  obtain ⟨h1, h2, h3, h4, h5, h6⟩ := h
  refine ⟨fun j c hj => ?_, fun j hj => ?_, fun j c hk hj => ?_, h4, by rw [z]; exact h5, fun e => by rw [z]; exact h6 e⟩
  · by_cases e : j = i
    · rw [e]; exact h1 i _ hc
    · exact h1 j c (by simpa [upw, e] using hj)
  · have e : j ≠ i := by omega
    simpa [upw, e] using h2 j hj
  · by_cases e : j = i
    · subst e
      have : c' = c := by simpa [upw] using hj
      subst this
      exact hn
    · refine (h3 j c hk (by simpa [upw, e] using hj)).kept (oq _ ?_)
      show γ j ≠ γ i
      rw [hγ j hk, hγ i hi]
      omega
theorem WR.push {γ : Nat → Nat} {D : va_G} {dA : Nat → ClassId} {B : Nat} {E : List AC} {w : AW} {H H1 : Heap} {c' : AC} (h : WR γ D dA B E w H) (hγ : ∀ i, k0 ≤ i → γ i = B + (i - k0)) (hx : w.2.2 = false)
    (hn : va_at D kcl (γ w.2.1, cvE γ dA c') H1) (z : H1.size = H.size + 1) (oq : ∀ q : Nat, q < H.size → H1[q]? = H[q]?) : WR γ D dA B E (upw w.1 w.2.1 c', w.2.1 + 1, w.2.2) H1 := by
  obtain ⟨h1, h2, h3, h4, h5, h6⟩ := h
  have h6 := h6 hx
  refine ⟨fun j c hj => ?_, fun j hj => ?_, fun j c hk hj => ?_, by show k0 ≤ w.2.1 + 1; omega, by show B + (w.2.1 + 1 - k0) ≤ H1.size; omega, fun _ => by show H1.size = B + (w.2.1 + 1 - k0); omega⟩
  · show j < w.2.1 + 1
    by_cases e : j = w.2.1
    · omega
    · exact Nat.lt_succ_of_lt (h1 j c (by simpa [upw, e] using hj))
  · have e : j ≠ w.2.1 := by omega
    simpa [upw, e] using h2 j hj
  · by_cases e : j = w.2.1
    · subst e
      have : c' = c := by simpa [upw] using hj
      subst this
      exact hn
    · have hj' : w.1 j = some c := by simpa [upw, e] using hj
      exact (h3 j c hk hj').kept (oq _ (h3 j c hk hj').lt)
theorem WR.new_at {γ : Nat → Nat} {D : va_G} {dA : Nat → ClassId} {B : Nat} {E : List AC} {w : AW} {H : Heap} (h : WR γ D dA B E w H) (hγ : ∀ i, k0 ≤ i → γ i = B + (i - k0)) (hx : w.2.2 = false) : γ w.2.1 = H.size := by
  rw [hγ _ h.2.2.2.1, h.2.2.2.2.2 hx]
section Put
variable {D : va_G} {p : Program} {l : Launch} {e : Env} {R : Room} {s : State} {m : MethodId} {args : Array Value} {below : List Frame} {meth : Method} {c : Code} {H : Heap} {locs : List Loc} {cells slots : Nat} {Q : State → Prop}
variable {cc : ByteArray} {pc : Nat} {ls : Array Slot} {rest : List Value} {a : Nat} {tys : List (ClassId × FieldType)}
theorem x_put (hexec : p.tables.exec = Jvm.exec) (hb : c.code = cc) {own : String} {ci index : Nat} (hts : ∀ w ∈ gw, w.before args s = true) (hown : s.vm.findClass own = some m.cls) (hK : va_K D kcl tys s) {fs : List Value} (hat : va_at D kcl (a, .inr (ci, fs)) H) (h7 : ci < 7) (k : Nat) (hk : k < xN ci) (hlink : (Cond.fieldLink own index (xF ci k).1 (xF ci k).2.1 (xF ci k).2.2.1).before args s = true) (hfin : (xF ci k).2.2.2 = true → meth.name = "<init>" ∧ (xF ci k).1 = own) {v : Value} (hn : narrow (xT ci k) v = v) (hfit : fits (xT ci k) v = true) (hl : k < fs.length)
    (hdg : decode cc pc = .ok (.putfield index, 3)) (kk : ∀ (H1 : Heap) (z : Nat), va_at D kcl (a, .inr (ci, fs.set k v)) H1 → H1.size = H.size → (∀ q : Nat, q ≠ a → H1[q]? = H[q]?) → W p l e R s m args below meth c H1 (locs ++ [⟨a, z⟩]) cells slots Q (F0 m (pc + 3) ls rest)) : W p l e R s m args below meth c H locs cells slots Q (F0 m pc ls (v :: .ref a :: rest)) := by
  have hc := xK ci h7
  have hin := xHin h7
  have hap := va_apart (own := own) hts hin (xT ci) (xTy ci h7) (xNm ci h7) hK hc
  obtain ⟨r, h1, cell, q1, q2, q3, q4⟩ := hat
  have hr : r = (xR ci, xF ci, xN ci) := Option.some.inj (h1.symm.trans hc)
  subst hr
  obtain ⟨hS, hfc, kC, hkC, hkind⟩ := hK.1 ci _ hc
  obtain ⟨cf, kf, fi, f, hi, hsl⟩ := hS k hk
  have hlay := hts _ (hin _ (u_in_lay hk))
  have hst := (u_facts hfc hkC (u_lays hts hin hk) hi).1
  have hd := xTy ci h7 k hk
  by_cases hf : (xF ci k).2.2.2 = true
  · obtain ⟨hin2, hdecl⟩ := hfin hf
    unfold u_lay at hlay
    rw [if_pos hf] at hlay
    have hcf : m.cls = cf := by
      obtain ⟨_, _, c', _, _, _, -, -, hf', -, -, -, hown2, -⟩ := Cond.laysFinal_spec hlay
      have e1 : c' = cf := by have := hi.symm.trans hf'; simp at this; exact this.1.symm
      rw [hdecl] at hown2
      rw [← e1]; exact Option.some.inj (hown.symm.trans hown2)
    have h6 := u_fits hfc hkC hkind (Or.inr hlay) hi hd hn hfit
    refine W.putFinK hexec hb hown hlink hi hst hcf hin2 (by rw [q2]; exact h6) q1 q3 (by rw [hsl]; exact k2_hasslot (q4 k hk)) rfl rfl hdg fun H' e1 e2 e3 => ?_
    rw [hsl] at e1 ⊢
    exact kk H' _ ⟨_, hc, t_OB.to (V := updV (vp_V fs) k v) ⟨_, e1, q2, q3, t_set q4 hap hk v⟩ (fun j _ => vp_updV_set hl v j)⟩ e2 e3
  · unfold u_lay at hlay
    rw [if_neg hf] at hlay
    have h6 := u_store hfc hkC hkind hlay hi hd hn hfit
    refine W.putK hexec hb (f := f) ⟨hown, hlink, ⟨_, _, _, hi⟩, hst⟩ (by rw [q2]; exact h6) q1 q3 (by rw [hsl]; exact k2_hasslot (q4 k hk)) rfl rfl hdg fun H' e1 e2 e3 => ?_
    rw [hsl] at e1 ⊢
    exact kk H' _ ⟨_, hc, t_OB.to (V := updV (vp_V fs) k v) ⟨_, e1, q2, q3, t_set q4 hap hk v⟩ (fun j _ => vp_updV_set hl v j)⟩ e2 e3
end Put
