/-! what a program decides of the rows -/
section St
variable {l : Launch} {γ : Nat → Nat} {D : va_G} {dA : Nat → ClassId} {B : Nat} {E : List AC}
variable {k : Nat} {p : Program} {e : Env} {s : State} {m : MethodId} {args : Array Value} {below : List Frame} {meth : Method} {c : Code} {R : Room} {Z : State → Prop}
/-- the judgement of a place -/
def WJ (l : Launch) (γ : Nat → Nat) (D : va_G) (dA : Nat → ClassId) (B : Nat) (E : List AC) (k : Nat) (p : Program) (e : Env) (s : State) (m : MethodId) (args : Array Value) (below : List Frame) (meth : Method) (c : Code) (R : Room) (Z : State → Prop) (pc kc ks : Nat) (ls st : List Value) (w : AW) : Prop :=
  kc ≤ R.cells ∧ ks ≤ R.slots → ∀ (H : Heap) (locs : List Loc) (lsA : Array Slot), va_S (fun q => B ≤ q) s.heap H locs → WR γ D dA B E w H → LH γ lsA (mL k) ls →
    W p l e R s m args below meth c H locs kc ks Z (F0 m pc lsA (st.map (cv γ)))

theorem st_aload {pc : Nat} {n : Nat} {d : List Nat} {kc ks : Nat} {ls st : List Value} {w : AW} {G : AG} {Q : AQ} {K : Nat → Nat → List Value → List Value → AW → Prop} {cap : Nat × Nat} {hs : List (String × Nat × Nat)} {rt : Option FieldType}
    (hx : p.tables.exec = Jvm.exec) (hb : c.code = mB k) (hdg : decode (mB k) pc = .ok (.aload n, ilen (.aload n)))
    (hK : ∀ kc ks ls st w, K kc ks ls st w → WJ l γ D dA B E k p e s m args below meth c R Z (pc + ilen (.aload n)) kc ks ls st w)
    (h : isd G k hs Q K (sd cap hs rt (.aload n) d kc ks ls st w)) : WJ l γ D dA B E k p e s m args below meth c R Z pc kc ks ls st w := by
  intro hc H locs lsA hS hW hL
  simp only [sd, lda] at h
  cases hv : lg ls n <;> rw [hv] at h <;> first | exact absurd h (fun q => q) | skip
  · obtain ⟨hP, hk, -⟩ := h
    have hk := hK _ _ _ _ _ (hk trivial)
    exact lv_aloadN hx hb hdg (hL.ld hv rfl) (hk hc _ _ _ hS hW hL)
  · obtain ⟨hP, hk, -⟩ := h
    have hk := hK _ _ _ _ _ (hk trivial)
    exact lv_aload hx hb hdg (hL.ld hv rfl) (hk hc _ _ _ hS hW hL)

theorem st_aload_n {pc : Nat} {n : Fin 4} {d : List Nat} {kc ks : Nat} {ls st : List Value} {w : AW} {G : AG} {Q : AQ} {K : Nat → Nat → List Value → List Value → AW → Prop} {cap : Nat × Nat} {hs : List (String × Nat × Nat)} {rt : Option FieldType}
    (hx : p.tables.exec = Jvm.exec) (hb : c.code = mB k) (hdg : decode (mB k) pc = .ok (.aload_n n, ilen (.aload_n n)))
    (hK : ∀ kc ks ls st w, K kc ks ls st w → WJ l γ D dA B E k p e s m args below meth c R Z (pc + ilen (.aload_n n)) kc ks ls st w)
    (h : isd G k hs Q K (sd cap hs rt (.aload_n n) d kc ks ls st w)) : WJ l γ D dA B E k p e s m args below meth c R Z pc kc ks ls st w := by
  intro hc H locs lsA hS hW hL
  simp only [sd, lda] at h
  cases hv : lg ls n <;> rw [hv] at h <;> first | exact absurd h (fun q => q) | skip
  · obtain ⟨hP, hk, -⟩ := h
    have hk := hK _ _ _ _ _ (hk trivial)
    exact lv_aload_nN hx hb hdg rfl (hL.ld hv rfl) (hk hc _ _ _ hS hW hL)
  · obtain ⟨hP, hk, -⟩ := h
    have hk := hK _ _ _ _ _ (hk trivial)
    exact lv_aload_n hx hb hdg rfl (hL.ld hv rfl) (hk hc _ _ _ hS hW hL)

theorem st_iload {pc : Nat} {n : Nat} {d : List Nat} {kc ks : Nat} {ls st : List Value} {w : AW} {G : AG} {Q : AQ} {K : Nat → Nat → List Value → List Value → AW → Prop} {cap : Nat × Nat} {hs : List (String × Nat × Nat)} {rt : Option FieldType}
    (hx : p.tables.exec = Jvm.exec) (hb : c.code = mB k) (hdg : decode (mB k) pc = .ok (.iload n, ilen (.iload n)))
    (hK : ∀ kc ks ls st w, K kc ks ls st w → WJ l γ D dA B E k p e s m args below meth c R Z (pc + ilen (.iload n)) kc ks ls st w)
    (h : isd G k hs Q K (sd cap hs rt (.iload n) d kc ks ls st w)) : WJ l γ D dA B E k p e s m args below meth c R Z pc kc ks ls st w := by
  intro hc H locs lsA hS hW hL
  simp only [sd, ldi] at h
  cases hv : lg ls n <;> rw [hv] at h <;> first | exact absurd h (fun q => q) | skip
  · obtain ⟨hP, hk, -⟩ := h
    have hk := hK _ _ _ _ _ (hk trivial)
    exact lv_iload hx hb hdg (hL.ld hv rfl) (hk hc _ _ _ hS hW hL)

theorem st_iload_n {pc : Nat} {n : Fin 4} {d : List Nat} {kc ks : Nat} {ls st : List Value} {w : AW} {G : AG} {Q : AQ} {K : Nat → Nat → List Value → List Value → AW → Prop} {cap : Nat × Nat} {hs : List (String × Nat × Nat)} {rt : Option FieldType}
    (hx : p.tables.exec = Jvm.exec) (hb : c.code = mB k) (hdg : decode (mB k) pc = .ok (.iload_n n, ilen (.iload_n n)))
    (hK : ∀ kc ks ls st w, K kc ks ls st w → WJ l γ D dA B E k p e s m args below meth c R Z (pc + ilen (.iload_n n)) kc ks ls st w)
    (h : isd G k hs Q K (sd cap hs rt (.iload_n n) d kc ks ls st w)) : WJ l γ D dA B E k p e s m args below meth c R Z pc kc ks ls st w := by
  intro hc H locs lsA hS hW hL
  simp only [sd, ldi] at h
  cases hv : lg ls n <;> rw [hv] at h <;> first | exact absurd h (fun q => q) | skip
  · obtain ⟨hP, hk, -⟩ := h
    have hk := hK _ _ _ _ _ (hk trivial)
    exact lv_iload_n hx hb hdg rfl (hL.ld hv rfl) (hk hc _ _ _ hS hW hL)

theorem st_dload {pc : Nat} {n : Nat} {d : List Nat} {kc ks : Nat} {ls st : List Value} {w : AW} {G : AG} {Q : AQ} {K : Nat → Nat → List Value → List Value → AW → Prop} {cap : Nat × Nat} {hs : List (String × Nat × Nat)} {rt : Option FieldType}
    (hx : p.tables.exec = Jvm.exec) (hb : c.code = mB k) (hdg : decode (mB k) pc = .ok (.dload n, ilen (.dload n)))
    (hK : ∀ kc ks ls st w, K kc ks ls st w → WJ l γ D dA B E k p e s m args below meth c R Z (pc + ilen (.dload n)) kc ks ls st w)
    (h : isd G k hs Q K (sd cap hs rt (.dload n) d kc ks ls st w)) : WJ l γ D dA B E k p e s m args below meth c R Z pc kc ks ls st w := by
  intro hc H locs lsA hS hW hL
  simp only [sd, ldd] at h
  cases hv : lg ls n <;> rw [hv] at h <;> first | exact absurd h (fun q => q) | skip
  · obtain ⟨hP, hk, -⟩ := h
    have hk := hK _ _ _ _ _ (hk trivial)
    exact lv_dload hx hb hdg (hL.ld hv rfl) (hk hc _ _ _ hS hW hL)

theorem st_iinc {pc : Nat} {n : Nat} {z : Int} {d : List Nat} {kc ks : Nat} {ls st : List Value} {w : AW} {G : AG} {Q : AQ} {K : Nat → Nat → List Value → List Value → AW → Prop} {cap : Nat × Nat} {hs : List (String × Nat × Nat)} {rt : Option FieldType}
    (hx : p.tables.exec = Jvm.exec) (hb : c.code = mB k) (hdg : decode (mB k) pc = .ok (.iinc n z, ilen (.iinc n z)))
    (hK : ∀ kc ks ls st w, K kc ks ls st w → WJ l γ D dA B E k p e s m args below meth c R Z (pc + ilen (.iinc n z)) kc ks ls st w)
    (h : isd G k hs Q K (sd cap hs rt (.iinc n z) d kc ks ls st w)) : WJ l γ D dA B E k p e s m args below meth c R Z pc kc ks ls st w := by
  intro hc H locs lsA hS hW hL
  simp only [sd] at h
  cases hv : lg ls n <;> rw [hv] at h <;> first | exact absurd h (fun q => q) | skip
  obtain ⟨hP, hk, -⟩ := h
  have hk := hK _ _ _ _ _ (hk trivial)
  obtain ⟨j, hj⟩ := List.getElem?_of_mem (LH.mem (γ := γ) (ls := ls) (j := n) (by rw [hv]; rfl))
  rw [hv] at hj
  exact lv_iinc hx hb hdg hL.1 hj rfl (by rw [← hL.2]; exact hP.2) rfl (fun ls' h' => hk hc _ _ _ hS hW (hL.st1 (v := .int _) hP.1 hP.2 h'))

theorem st_iconst {pc : Nat} {n : Int} {d : List Nat} {kc ks : Nat} {ls st : List Value} {w : AW} {G : AG} {Q : AQ} {K : Nat → Nat → List Value → List Value → AW → Prop} {cap : Nat × Nat} {hs : List (String × Nat × Nat)} {rt : Option FieldType}
    (hx : p.tables.exec = Jvm.exec) (hb : c.code = mB k) (hdg : decode (mB k) pc = .ok (.iconst n, ilen (.iconst n)))
    (hK : ∀ kc ks ls st w, K kc ks ls st w → WJ l γ D dA B E k p e s m args below meth c R Z (pc + ilen (.iconst n)) kc ks ls st w)
    (h : isd G k hs Q K (sd cap hs rt (.iconst n) d kc ks ls st w)) : WJ l γ D dA B E k p e s m args below meth c R Z pc kc ks ls st w := by
  intro hc H locs lsA hS hW hL
  obtain ⟨hP, hk, -⟩ := h
  have hk := hK _ _ _ _ _ (hk trivial)
  exact lv_iconst hx hb hdg rfl (hk hc _ _ _ hS hW hL)

theorem st_bipush {pc : Nat} {n : Int} {d : List Nat} {kc ks : Nat} {ls st : List Value} {w : AW} {G : AG} {Q : AQ} {K : Nat → Nat → List Value → List Value → AW → Prop} {cap : Nat × Nat} {hs : List (String × Nat × Nat)} {rt : Option FieldType}
    (hx : p.tables.exec = Jvm.exec) (hb : c.code = mB k) (hdg : decode (mB k) pc = .ok (.bipush n, ilen (.bipush n)))
    (hK : ∀ kc ks ls st w, K kc ks ls st w → WJ l γ D dA B E k p e s m args below meth c R Z (pc + ilen (.bipush n)) kc ks ls st w)
    (h : isd G k hs Q K (sd cap hs rt (.bipush n) d kc ks ls st w)) : WJ l γ D dA B E k p e s m args below meth c R Z pc kc ks ls st w := by
  intro hc H locs lsA hS hW hL
  obtain ⟨hP, hk, -⟩ := h
  have hk := hK _ _ _ _ _ (hk trivial)
  exact lv_bipush hx hb hdg rfl (hk hc _ _ _ hS hW hL)

theorem st_sipush {pc : Nat} {n : Int} {d : List Nat} {kc ks : Nat} {ls st : List Value} {w : AW} {G : AG} {Q : AQ} {K : Nat → Nat → List Value → List Value → AW → Prop} {cap : Nat × Nat} {hs : List (String × Nat × Nat)} {rt : Option FieldType}
    (hx : p.tables.exec = Jvm.exec) (hb : c.code = mB k) (hdg : decode (mB k) pc = .ok (.sipush n, ilen (.sipush n)))
    (hK : ∀ kc ks ls st w, K kc ks ls st w → WJ l γ D dA B E k p e s m args below meth c R Z (pc + ilen (.sipush n)) kc ks ls st w)
    (h : isd G k hs Q K (sd cap hs rt (.sipush n) d kc ks ls st w)) : WJ l γ D dA B E k p e s m args below meth c R Z pc kc ks ls st w := by
  intro hc H locs lsA hS hW hL
  obtain ⟨hP, hk, -⟩ := h
  have hk := hK _ _ _ _ _ (hk trivial)
  exact lv_sipush hx hb hdg rfl (hk hc _ _ _ hS hW hL)

theorem st_lconst {pc : Nat} {n : Fin 2} {d : List Nat} {kc ks : Nat} {ls st : List Value} {w : AW} {G : AG} {Q : AQ} {K : Nat → Nat → List Value → List Value → AW → Prop} {cap : Nat × Nat} {hs : List (String × Nat × Nat)} {rt : Option FieldType}
    (hx : p.tables.exec = Jvm.exec) (hb : c.code = mB k) (hdg : decode (mB k) pc = .ok (.lconst n, ilen (.lconst n)))
    (hK : ∀ kc ks ls st w, K kc ks ls st w → WJ l γ D dA B E k p e s m args below meth c R Z (pc + ilen (.lconst n)) kc ks ls st w)
    (h : isd G k hs Q K (sd cap hs rt (.lconst n) d kc ks ls st w)) : WJ l γ D dA B E k p e s m args below meth c R Z pc kc ks ls st w := by
  intro hc H locs lsA hS hW hL
  obtain ⟨hP, hk, -⟩ := h
  have hk := hK _ _ _ _ _ (hk trivial)
  exact lv_lconst hx hb hdg rfl (hk hc _ _ _ hS hW hL)

theorem st_null {pc : Nat} {d : List Nat} {kc ks : Nat} {ls st : List Value} {w : AW} {G : AG} {Q : AQ} {K : Nat → Nat → List Value → List Value → AW → Prop} {cap : Nat × Nat} {hs : List (String × Nat × Nat)} {rt : Option FieldType}
    (hx : p.tables.exec = Jvm.exec) (hb : c.code = mB k) (hdg : decode (mB k) pc = .ok (.aconst_null, ilen (.aconst_null)))
    (hK : ∀ kc ks ls st w, K kc ks ls st w → WJ l γ D dA B E k p e s m args below meth c R Z (pc + ilen (.aconst_null)) kc ks ls st w)
    (h : isd G k hs Q K (sd cap hs rt (.aconst_null) d kc ks ls st w)) : WJ l γ D dA B E k p e s m args below meth c R Z pc kc ks ls st w := by
  intro hc H locs lsA hS hW hL
  obtain ⟨hP, hk, -⟩ := h
  have hk := hK _ _ _ _ _ (hk trivial)
  exact lv_null hx hb hdg (hk hc _ _ _ hS hW hL)

theorem st_istore {pc : Nat} {n : Nat} {d : List Nat} {kc ks : Nat} {ls st : List Value} {w : AW} {G : AG} {Q : AQ} {K : Nat → Nat → List Value → List Value → AW → Prop} {cap : Nat × Nat} {hs : List (String × Nat × Nat)} {rt : Option FieldType}
    (hx : p.tables.exec = Jvm.exec) (hb : c.code = mB k) (hdg : decode (mB k) pc = .ok (.istore n, ilen (.istore n)))
    (hK : ∀ kc ks ls st w, K kc ks ls st w → WJ l γ D dA B E k p e s m args below meth c R Z (pc + ilen (.istore n)) kc ks ls st w)
    (h : isd G k hs Q K (sd cap hs rt (.istore n) d kc ks ls st w)) : WJ l γ D dA B E k p e s m args below meth c R Z pc kc ks ls st w := by
  intro hc H locs lsA hS hW hL
  simp only [sd] at h
  split at h <;> first | exact absurd h (fun q => q) | skip
  · obtain ⟨hP, hk, -⟩ := h
    have hk := hK _ _ _ _ _ (hk trivial)
    exact lv_istore hx hb hdg hL.1 (by rw [← hL.2]; exact hP.2) rfl (fun ls' h' => hk hc _ _ _ hS hW (hL.st1 (v := .int _) hP.1 hP.2 h'))

theorem st_istore_n {pc : Nat} {n : Fin 4} {d : List Nat} {kc ks : Nat} {ls st : List Value} {w : AW} {G : AG} {Q : AQ} {K : Nat → Nat → List Value → List Value → AW → Prop} {cap : Nat × Nat} {hs : List (String × Nat × Nat)} {rt : Option FieldType}
    (hx : p.tables.exec = Jvm.exec) (hb : c.code = mB k) (hdg : decode (mB k) pc = .ok (.istore_n n, ilen (.istore_n n)))
    (hK : ∀ kc ks ls st w, K kc ks ls st w → WJ l γ D dA B E k p e s m args below meth c R Z (pc + ilen (.istore_n n)) kc ks ls st w)
    (h : isd G k hs Q K (sd cap hs rt (.istore_n n) d kc ks ls st w)) : WJ l γ D dA B E k p e s m args below meth c R Z pc kc ks ls st w := by
  intro hc H locs lsA hS hW hL
  simp only [sd] at h
  split at h <;> first | exact absurd h (fun q => q) | skip
  · obtain ⟨hP, hk, -⟩ := h
    have hk := hK _ _ _ _ _ (hk trivial)
    exact lv_istore_n hx hb hdg rfl hL.1 (by rw [← hL.2]; exact hP.2) rfl (fun ls' h' => hk hc _ _ _ hS hW (hL.st1 (v := .int _) hP.1 hP.2 h'))

theorem st_astore {pc : Nat} {n : Nat} {d : List Nat} {kc ks : Nat} {ls st : List Value} {w : AW} {G : AG} {Q : AQ} {K : Nat → Nat → List Value → List Value → AW → Prop} {cap : Nat × Nat} {hs : List (String × Nat × Nat)} {rt : Option FieldType}
    (hx : p.tables.exec = Jvm.exec) (hb : c.code = mB k) (hdg : decode (mB k) pc = .ok (.astore n, ilen (.astore n)))
    (hK : ∀ kc ks ls st w, K kc ks ls st w → WJ l γ D dA B E k p e s m args below meth c R Z (pc + ilen (.astore n)) kc ks ls st w)
    (h : isd G k hs Q K (sd cap hs rt (.astore n) d kc ks ls st w)) : WJ l γ D dA B E k p e s m args below meth c R Z pc kc ks ls st w := by
  intro hc H locs lsA hS hW hL
  simp only [sd] at h
  split at h <;> first | exact absurd h (fun q => q) | skip
  · obtain ⟨hP, hk, -⟩ := h
    have hk := hK _ _ _ _ _ (hk trivial)
    exact lv_astore hx hb hdg hL.1 (by rw [← hL.2]; exact hP.2) rfl (fun ls' h' => hk hc _ _ _ hS hW (hL.st1 (v := .ref _) hP.1 hP.2 h'))
  · obtain ⟨hP, hk, -⟩ := h
    have hk := hK _ _ _ _ _ (hk trivial)
    exact lv_astoreN hx hb hdg hL.1 (by rw [← hL.2]; exact hP.2) rfl (fun ls' h' => hk hc _ _ _ hS hW (hL.st1 (v := .null) hP.1 hP.2 h'))

theorem st_astore_n {pc : Nat} {n : Fin 4} {d : List Nat} {kc ks : Nat} {ls st : List Value} {w : AW} {G : AG} {Q : AQ} {K : Nat → Nat → List Value → List Value → AW → Prop} {cap : Nat × Nat} {hs : List (String × Nat × Nat)} {rt : Option FieldType}
    (hx : p.tables.exec = Jvm.exec) (hb : c.code = mB k) (hdg : decode (mB k) pc = .ok (.astore_n n, ilen (.astore_n n)))
    (hK : ∀ kc ks ls st w, K kc ks ls st w → WJ l γ D dA B E k p e s m args below meth c R Z (pc + ilen (.astore_n n)) kc ks ls st w)
    (h : isd G k hs Q K (sd cap hs rt (.astore_n n) d kc ks ls st w)) : WJ l γ D dA B E k p e s m args below meth c R Z pc kc ks ls st w := by
  intro hc H locs lsA hS hW hL
  simp only [sd] at h
  split at h <;> first | exact absurd h (fun q => q) | skip
  · obtain ⟨hP, hk, -⟩ := h
    have hk := hK _ _ _ _ _ (hk trivial)
    exact lv_astore_n hx hb hdg rfl hL.1 (by rw [← hL.2]; exact hP.2) rfl (fun ls' h' => hk hc _ _ _ hS hW (hL.st1 (v := .ref _) hP.1 hP.2 h'))
  · obtain ⟨hP, hk, -⟩ := h
    have hk := hK _ _ _ _ _ (hk trivial)
    exact lv_astore_nN hx hb hdg rfl hL.1 (by rw [← hL.2]; exact hP.2) rfl (fun ls' h' => hk hc _ _ _ hS hW (hL.st1 (v := .null) hP.1 hP.2 h'))

theorem st_dstore {pc : Nat} {n : Nat} {d : List Nat} {kc ks : Nat} {ls st : List Value} {w : AW} {G : AG} {Q : AQ} {K : Nat → Nat → List Value → List Value → AW → Prop} {cap : Nat × Nat} {hs : List (String × Nat × Nat)} {rt : Option FieldType}
    (hx : p.tables.exec = Jvm.exec) (hb : c.code = mB k) (hdg : decode (mB k) pc = .ok (.dstore n, ilen (.dstore n)))
    (hK : ∀ kc ks ls st w, K kc ks ls st w → WJ l γ D dA B E k p e s m args below meth c R Z (pc + ilen (.dstore n)) kc ks ls st w)
    (h : isd G k hs Q K (sd cap hs rt (.dstore n) d kc ks ls st w)) : WJ l γ D dA B E k p e s m args below meth c R Z pc kc ks ls st w := by
  intro hc H locs lsA hS hW hL
  simp only [sd] at h
  split at h <;> first | exact absurd h (fun q => q) | skip
  · obtain ⟨hP, hk, -⟩ := h
    have hk := hK _ _ _ _ _ (hk trivial)
    exact lv_dstore hx hb hdg hL.1 (by rw [← hL.2]; exact hP.2) rfl (fun ls' h' => hk hc _ _ _ hS hW (hL.st2 (v := .double _) hP.1 hP.2 h'))

theorem st_iadd {pc : Nat} {d : List Nat} {kc ks : Nat} {ls st : List Value} {w : AW} {G : AG} {Q : AQ} {K : Nat → Nat → List Value → List Value → AW → Prop} {cap : Nat × Nat} {hs : List (String × Nat × Nat)} {rt : Option FieldType}
    (hx : p.tables.exec = Jvm.exec) (hb : c.code = mB k) (hdg : decode (mB k) pc = .ok (.iadd, ilen (.iadd)))
    (hK : ∀ kc ks ls st w, K kc ks ls st w → WJ l γ D dA B E k p e s m args below meth c R Z (pc + ilen (.iadd)) kc ks ls st w)
    (h : isd G k hs Q K (sd cap hs rt (.iadd) d kc ks ls st w)) : WJ l γ D dA B E k p e s m args below meth c R Z pc kc ks ls st w := by
  intro hc H locs lsA hS hW hL
  simp only [sd] at h
  split at h <;> first | exact absurd h (fun q => q) | skip
  obtain ⟨hP, hk, -⟩ := h
  have hk := hK _ _ _ _ _ (hk trivial)
  exact lv_iadd hx hb hdg (hk hc _ _ _ hS hW hL)

theorem st_isub {pc : Nat} {d : List Nat} {kc ks : Nat} {ls st : List Value} {w : AW} {G : AG} {Q : AQ} {K : Nat → Nat → List Value → List Value → AW → Prop} {cap : Nat × Nat} {hs : List (String × Nat × Nat)} {rt : Option FieldType}
    (hx : p.tables.exec = Jvm.exec) (hb : c.code = mB k) (hdg : decode (mB k) pc = .ok (.isub, ilen (.isub)))
    (hK : ∀ kc ks ls st w, K kc ks ls st w → WJ l γ D dA B E k p e s m args below meth c R Z (pc + ilen (.isub)) kc ks ls st w)
    (h : isd G k hs Q K (sd cap hs rt (.isub) d kc ks ls st w)) : WJ l γ D dA B E k p e s m args below meth c R Z pc kc ks ls st w := by
  intro hc H locs lsA hS hW hL
  simp only [sd] at h
  split at h <;> first | exact absurd h (fun q => q) | skip
  obtain ⟨hP, hk, -⟩ := h
  have hk := hK _ _ _ _ _ (hk trivial)
  exact lv_isub hx hb hdg (hk hc _ _ _ hS hW hL)

theorem st_imul {pc : Nat} {d : List Nat} {kc ks : Nat} {ls st : List Value} {w : AW} {G : AG} {Q : AQ} {K : Nat → Nat → List Value → List Value → AW → Prop} {cap : Nat × Nat} {hs : List (String × Nat × Nat)} {rt : Option FieldType}
    (hx : p.tables.exec = Jvm.exec) (hb : c.code = mB k) (hdg : decode (mB k) pc = .ok (.imul, ilen (.imul)))
    (hK : ∀ kc ks ls st w, K kc ks ls st w → WJ l γ D dA B E k p e s m args below meth c R Z (pc + ilen (.imul)) kc ks ls st w)
    (h : isd G k hs Q K (sd cap hs rt (.imul) d kc ks ls st w)) : WJ l γ D dA B E k p e s m args below meth c R Z pc kc ks ls st w := by
  intro hc H locs lsA hS hW hL
  simp only [sd] at h
  split at h <;> first | exact absurd h (fun q => q) | skip
  obtain ⟨hP, hk, -⟩ := h
  have hk := hK _ _ _ _ _ (hk trivial)
  exact lv_imul hx hb hdg (hk hc _ _ _ hS hW hL)

theorem st_iand {pc : Nat} {d : List Nat} {kc ks : Nat} {ls st : List Value} {w : AW} {G : AG} {Q : AQ} {K : Nat → Nat → List Value → List Value → AW → Prop} {cap : Nat × Nat} {hs : List (String × Nat × Nat)} {rt : Option FieldType}
    (hx : p.tables.exec = Jvm.exec) (hb : c.code = mB k) (hdg : decode (mB k) pc = .ok (.iand, ilen (.iand)))
    (hK : ∀ kc ks ls st w, K kc ks ls st w → WJ l γ D dA B E k p e s m args below meth c R Z (pc + ilen (.iand)) kc ks ls st w)
    (h : isd G k hs Q K (sd cap hs rt (.iand) d kc ks ls st w)) : WJ l γ D dA B E k p e s m args below meth c R Z pc kc ks ls st w := by
  intro hc H locs lsA hS hW hL
  simp only [sd] at h
  split at h <;> first | exact absurd h (fun q => q) | skip
  obtain ⟨hP, hk, -⟩ := h
  have hk := hK _ _ _ _ _ (hk trivial)
  exact lv_iand hx hb hdg (hk hc _ _ _ hS hW hL)

theorem st_ior {pc : Nat} {d : List Nat} {kc ks : Nat} {ls st : List Value} {w : AW} {G : AG} {Q : AQ} {K : Nat → Nat → List Value → List Value → AW → Prop} {cap : Nat × Nat} {hs : List (String × Nat × Nat)} {rt : Option FieldType}
    (hx : p.tables.exec = Jvm.exec) (hb : c.code = mB k) (hdg : decode (mB k) pc = .ok (.ior, ilen (.ior)))
    (hK : ∀ kc ks ls st w, K kc ks ls st w → WJ l γ D dA B E k p e s m args below meth c R Z (pc + ilen (.ior)) kc ks ls st w)
    (h : isd G k hs Q K (sd cap hs rt (.ior) d kc ks ls st w)) : WJ l γ D dA B E k p e s m args below meth c R Z pc kc ks ls st w := by
  intro hc H locs lsA hS hW hL
  simp only [sd] at h
  split at h <;> first | exact absurd h (fun q => q) | skip
  obtain ⟨hP, hk, -⟩ := h
  have hk := hK _ _ _ _ _ (hk trivial)
  exact lv_ior hx hb hdg (hk hc _ _ _ hS hW hL)

theorem st_ixor {pc : Nat} {d : List Nat} {kc ks : Nat} {ls st : List Value} {w : AW} {G : AG} {Q : AQ} {K : Nat → Nat → List Value → List Value → AW → Prop} {cap : Nat × Nat} {hs : List (String × Nat × Nat)} {rt : Option FieldType}
    (hx : p.tables.exec = Jvm.exec) (hb : c.code = mB k) (hdg : decode (mB k) pc = .ok (.ixor, ilen (.ixor)))
    (hK : ∀ kc ks ls st w, K kc ks ls st w → WJ l γ D dA B E k p e s m args below meth c R Z (pc + ilen (.ixor)) kc ks ls st w)
    (h : isd G k hs Q K (sd cap hs rt (.ixor) d kc ks ls st w)) : WJ l γ D dA B E k p e s m args below meth c R Z pc kc ks ls st w := by
  intro hc H locs lsA hS hW hL
  simp only [sd] at h
  split at h <;> first | exact absurd h (fun q => q) | skip
  obtain ⟨hP, hk, -⟩ := h
  have hk := hK _ _ _ _ _ (hk trivial)
  exact lv_ixor hx hb hdg (hk hc _ _ _ hS hW hL)

theorem st_ishl {pc : Nat} {d : List Nat} {kc ks : Nat} {ls st : List Value} {w : AW} {G : AG} {Q : AQ} {K : Nat → Nat → List Value → List Value → AW → Prop} {cap : Nat × Nat} {hs : List (String × Nat × Nat)} {rt : Option FieldType}
    (hx : p.tables.exec = Jvm.exec) (hb : c.code = mB k) (hdg : decode (mB k) pc = .ok (.ishl, ilen (.ishl)))
    (hK : ∀ kc ks ls st w, K kc ks ls st w → WJ l γ D dA B E k p e s m args below meth c R Z (pc + ilen (.ishl)) kc ks ls st w)
    (h : isd G k hs Q K (sd cap hs rt (.ishl) d kc ks ls st w)) : WJ l γ D dA B E k p e s m args below meth c R Z pc kc ks ls st w := by
  intro hc H locs lsA hS hW hL
  simp only [sd] at h
  split at h <;> first | exact absurd h (fun q => q) | skip
  obtain ⟨hP, hk, -⟩ := h
  have hk := hK _ _ _ _ _ (hk trivial)
  exact lv_ishl hx hb hdg (hk hc _ _ _ hS hW hL)

theorem st_ishr {pc : Nat} {d : List Nat} {kc ks : Nat} {ls st : List Value} {w : AW} {G : AG} {Q : AQ} {K : Nat → Nat → List Value → List Value → AW → Prop} {cap : Nat × Nat} {hs : List (String × Nat × Nat)} {rt : Option FieldType}
    (hx : p.tables.exec = Jvm.exec) (hb : c.code = mB k) (hdg : decode (mB k) pc = .ok (.ishr, ilen (.ishr)))
    (hK : ∀ kc ks ls st w, K kc ks ls st w → WJ l γ D dA B E k p e s m args below meth c R Z (pc + ilen (.ishr)) kc ks ls st w)
    (h : isd G k hs Q K (sd cap hs rt (.ishr) d kc ks ls st w)) : WJ l γ D dA B E k p e s m args below meth c R Z pc kc ks ls st w := by
  intro hc H locs lsA hS hW hL
  simp only [sd] at h
  split at h <;> first | exact absurd h (fun q => q) | skip
  obtain ⟨hP, hk, -⟩ := h
  have hk := hK _ _ _ _ _ (hk trivial)
  exact lv_ishr hx hb hdg (hk hc _ _ _ hS hW hL)

theorem st_ineg {pc : Nat} {d : List Nat} {kc ks : Nat} {ls st : List Value} {w : AW} {G : AG} {Q : AQ} {K : Nat → Nat → List Value → List Value → AW → Prop} {cap : Nat × Nat} {hs : List (String × Nat × Nat)} {rt : Option FieldType}
    (hx : p.tables.exec = Jvm.exec) (hb : c.code = mB k) (hdg : decode (mB k) pc = .ok (.ineg, ilen (.ineg)))
    (hK : ∀ kc ks ls st w, K kc ks ls st w → WJ l γ D dA B E k p e s m args below meth c R Z (pc + ilen (.ineg)) kc ks ls st w)
    (h : isd G k hs Q K (sd cap hs rt (.ineg) d kc ks ls st w)) : WJ l γ D dA B E k p e s m args below meth c R Z pc kc ks ls st w := by
  intro hc H locs lsA hS hW hL
  simp only [sd] at h
  split at h <;> first | exact absurd h (fun q => q) | skip
  obtain ⟨hP, hk, -⟩ := h
  have hk := hK _ _ _ _ _ (hk trivial)
  exact lv_ineg hx hb hdg (hk hc _ _ _ hS hW hL)

theorem st_i2f {pc : Nat} {d : List Nat} {kc ks : Nat} {ls st : List Value} {w : AW} {G : AG} {Q : AQ} {K : Nat → Nat → List Value → List Value → AW → Prop} {cap : Nat × Nat} {hs : List (String × Nat × Nat)} {rt : Option FieldType}
    (hx : p.tables.exec = Jvm.exec) (hb : c.code = mB k) (hdg : decode (mB k) pc = .ok (.i2f, ilen (.i2f)))
    (hK : ∀ kc ks ls st w, K kc ks ls st w → WJ l γ D dA B E k p e s m args below meth c R Z (pc + ilen (.i2f)) kc ks ls st w)
    (h : isd G k hs Q K (sd cap hs rt (.i2f) d kc ks ls st w)) : WJ l γ D dA B E k p e s m args below meth c R Z pc kc ks ls st w := by
  intro hc H locs lsA hS hW hL
  simp only [sd] at h
  split at h <;> first | exact absurd h (fun q => q) | skip
  obtain ⟨hP, hk, -⟩ := h
  have hk := hK _ _ _ _ _ (hk trivial)
  exact lv_i2f hx hb hdg (hk hc _ _ _ hS hW hL)

theorem st_i2d {pc : Nat} {d : List Nat} {kc ks : Nat} {ls st : List Value} {w : AW} {G : AG} {Q : AQ} {K : Nat → Nat → List Value → List Value → AW → Prop} {cap : Nat × Nat} {hs : List (String × Nat × Nat)} {rt : Option FieldType}
    (hx : p.tables.exec = Jvm.exec) (hb : c.code = mB k) (hdg : decode (mB k) pc = .ok (.i2d, ilen (.i2d)))
    (hK : ∀ kc ks ls st w, K kc ks ls st w → WJ l γ D dA B E k p e s m args below meth c R Z (pc + ilen (.i2d)) kc ks ls st w)
    (h : isd G k hs Q K (sd cap hs rt (.i2d) d kc ks ls st w)) : WJ l γ D dA B E k p e s m args below meth c R Z pc kc ks ls st w := by
  intro hc H locs lsA hS hW hL
  simp only [sd] at h
  split at h <;> first | exact absurd h (fun q => q) | skip
  obtain ⟨hP, hk, -⟩ := h
  have hk := hK _ _ _ _ _ (hk trivial)
  exact lv_i2d hx hb hdg (hk hc _ _ _ hS hW hL)

theorem st_iushr {pc : Nat} {d : List Nat} {kc ks : Nat} {ls st : List Value} {w : AW} {G : AG} {Q : AQ} {K : Nat → Nat → List Value → List Value → AW → Prop} {cap : Nat × Nat} {hs : List (String × Nat × Nat)} {rt : Option FieldType}
    (hx : p.tables.exec = Jvm.exec) (hb : c.code = mB k) (hdg : decode (mB k) pc = .ok (.iushr, ilen (.iushr)))
    (hK : ∀ kc ks ls st w, K kc ks ls st w → WJ l γ D dA B E k p e s m args below meth c R Z (pc + ilen (.iushr)) kc ks ls st w)
    (h : isd G k hs Q K (sd cap hs rt (.iushr) d kc ks ls st w)) : WJ l γ D dA B E k p e s m args below meth c R Z pc kc ks ls st w := by
  intro hc H locs lsA hS hW hL
  simp only [sd] at h
  split at h <;> first | exact absurd h (fun q => q) | skip
  obtain ⟨hP, hk, -⟩ := h
  have hk := hK _ _ _ _ _ (hk trivial)
  exact lv_iushr hx hb hdg rfl (hk hc _ _ _ hS hW hL)

theorem st_i2l {pc : Nat} {d : List Nat} {kc ks : Nat} {ls st : List Value} {w : AW} {G : AG} {Q : AQ} {K : Nat → Nat → List Value → List Value → AW → Prop} {cap : Nat × Nat} {hs : List (String × Nat × Nat)} {rt : Option FieldType}
    (hx : p.tables.exec = Jvm.exec) (hb : c.code = mB k) (hdg : decode (mB k) pc = .ok (.i2l, ilen (.i2l)))
    (hK : ∀ kc ks ls st w, K kc ks ls st w → WJ l γ D dA B E k p e s m args below meth c R Z (pc + ilen (.i2l)) kc ks ls st w)
    (h : isd G k hs Q K (sd cap hs rt (.i2l) d kc ks ls st w)) : WJ l γ D dA B E k p e s m args below meth c R Z pc kc ks ls st w := by
  intro hc H locs lsA hS hW hL
  simp only [sd] at h
  split at h <;> first | exact absurd h (fun q => q) | skip
  obtain ⟨hP, hk, -⟩ := h
  have hk := hK _ _ _ _ _ (hk trivial)
  exact lv_i2l hx hb hdg rfl (hk hc _ _ _ hS hW hL)

theorem st_i2c {pc : Nat} {d : List Nat} {kc ks : Nat} {ls st : List Value} {w : AW} {G : AG} {Q : AQ} {K : Nat → Nat → List Value → List Value → AW → Prop} {cap : Nat × Nat} {hs : List (String × Nat × Nat)} {rt : Option FieldType}
    (hx : p.tables.exec = Jvm.exec) (hb : c.code = mB k) (hdg : decode (mB k) pc = .ok (.i2c, ilen (.i2c)))
    (hK : ∀ kc ks ls st w, K kc ks ls st w → WJ l γ D dA B E k p e s m args below meth c R Z (pc + ilen (.i2c)) kc ks ls st w)
    (h : isd G k hs Q K (sd cap hs rt (.i2c) d kc ks ls st w)) : WJ l γ D dA B E k p e s m args below meth c R Z pc kc ks ls st w := by
  intro hc H locs lsA hS hW hL
  simp only [sd] at h
  split at h <;> first | exact absurd h (fun q => q) | skip
  obtain ⟨hP, hk, -⟩ := h
  have hk := hK _ _ _ _ _ (hk trivial)
  exact lv_i2c hx hb hdg rfl (hk hc _ _ _ hS hW hL)

theorem st_i2b {pc : Nat} {d : List Nat} {kc ks : Nat} {ls st : List Value} {w : AW} {G : AG} {Q : AQ} {K : Nat → Nat → List Value → List Value → AW → Prop} {cap : Nat × Nat} {hs : List (String × Nat × Nat)} {rt : Option FieldType}
    (hx : p.tables.exec = Jvm.exec) (hb : c.code = mB k) (hdg : decode (mB k) pc = .ok (.i2b, ilen (.i2b)))
    (hK : ∀ kc ks ls st w, K kc ks ls st w → WJ l γ D dA B E k p e s m args below meth c R Z (pc + ilen (.i2b)) kc ks ls st w)
    (h : isd G k hs Q K (sd cap hs rt (.i2b) d kc ks ls st w)) : WJ l γ D dA B E k p e s m args below meth c R Z pc kc ks ls st w := by
  intro hc H locs lsA hS hW hL
  simp only [sd] at h
  split at h <;> first | exact absurd h (fun q => q) | skip
  obtain ⟨hP, hk, -⟩ := h
  have hk := hK _ _ _ _ _ (hk trivial)
  exact lv_i2b hx hb hdg rfl (hk hc _ _ _ hS hW hL)

theorem st_idiv {pc : Nat} {d : List Nat} {kc ks : Nat} {ls st : List Value} {w : AW} {G : AG} {Q : AQ} {K : Nat → Nat → List Value → List Value → AW → Prop} {cap : Nat × Nat} {hs : List (String × Nat × Nat)} {rt : Option FieldType}
    (hx : p.tables.exec = Jvm.exec) (hb : c.code = mB k) (hdg : decode (mB k) pc = .ok (.idiv, ilen (.idiv)))
    (hK : ∀ kc ks ls st w, K kc ks ls st w → WJ l γ D dA B E k p e s m args below meth c R Z (pc + ilen (.idiv)) kc ks ls st w)
    (h : isd G k hs Q K (sd cap hs rt (.idiv) d kc ks ls st w)) : WJ l γ D dA B E k p e s m args below meth c R Z pc kc ks ls st w := by
  intro hc H locs lsA hS hW hL
  simp only [sd] at h
  split at h <;> first | exact absurd h (fun q => q) | skip
  obtain ⟨hP, hk, -⟩ := h
  have hk := hK _ _ _ _ _ (hk trivial)
  exact lv_idiv hx hb hdg hP (hk hc _ _ _ hS hW hL)

theorem st_irem {pc : Nat} {d : List Nat} {kc ks : Nat} {ls st : List Value} {w : AW} {G : AG} {Q : AQ} {K : Nat → Nat → List Value → List Value → AW → Prop} {cap : Nat × Nat} {hs : List (String × Nat × Nat)} {rt : Option FieldType}
    (hx : p.tables.exec = Jvm.exec) (hb : c.code = mB k) (hdg : decode (mB k) pc = .ok (.irem, ilen (.irem)))
    (hK : ∀ kc ks ls st w, K kc ks ls st w → WJ l γ D dA B E k p e s m args below meth c R Z (pc + ilen (.irem)) kc ks ls st w)
    (h : isd G k hs Q K (sd cap hs rt (.irem) d kc ks ls st w)) : WJ l γ D dA B E k p e s m args below meth c R Z pc kc ks ls st w := by
  intro hc H locs lsA hS hW hL
  simp only [sd] at h
  split at h <;> first | exact absurd h (fun q => q) | skip
  obtain ⟨hP, hk, -⟩ := h
  have hk := hK _ _ _ _ _ (hk trivial)
  exact lv_irem hx hb hdg hP (hk hc _ _ _ hS hW hL)

theorem st_f2d {pc : Nat} {d : List Nat} {kc ks : Nat} {ls st : List Value} {w : AW} {G : AG} {Q : AQ} {K : Nat → Nat → List Value → List Value → AW → Prop} {cap : Nat × Nat} {hs : List (String × Nat × Nat)} {rt : Option FieldType}
    (hx : p.tables.exec = Jvm.exec) (hb : c.code = mB k) (hdg : decode (mB k) pc = .ok (.f2d, ilen (.f2d)))
    (hK : ∀ kc ks ls st w, K kc ks ls st w → WJ l γ D dA B E k p e s m args below meth c R Z (pc + ilen (.f2d)) kc ks ls st w)
    (h : isd G k hs Q K (sd cap hs rt (.f2d) d kc ks ls st w)) : WJ l γ D dA B E k p e s m args below meth c R Z pc kc ks ls st w := by
  intro hc H locs lsA hS hW hL
  simp only [sd] at h
  split at h <;> first | exact absurd h (fun q => q) | skip
  obtain ⟨hP, hk, -⟩ := h
  have hk := hK _ _ _ _ _ (hk trivial)
  exact lv_f2d hx hb hdg hP (hk hc _ _ _ hS hW hL)

theorem st_fdiv {pc : Nat} {d : List Nat} {kc ks : Nat} {ls st : List Value} {w : AW} {G : AG} {Q : AQ} {K : Nat → Nat → List Value → List Value → AW → Prop} {cap : Nat × Nat} {hs : List (String × Nat × Nat)} {rt : Option FieldType}
    (hx : p.tables.exec = Jvm.exec) (hb : c.code = mB k) (hdg : decode (mB k) pc = .ok (.fdiv, ilen (.fdiv)))
    (hK : ∀ kc ks ls st w, K kc ks ls st w → WJ l γ D dA B E k p e s m args below meth c R Z (pc + ilen (.fdiv)) kc ks ls st w)
    (h : isd G k hs Q K (sd cap hs rt (.fdiv) d kc ks ls st w)) : WJ l γ D dA B E k p e s m args below meth c R Z pc kc ks ls st w := by
  intro hc H locs lsA hS hW hL
  simp only [sd] at h
  split at h <;> first | exact absurd h (fun q => q) | skip
  obtain ⟨hP, hk, -⟩ := h
  have hk := hK _ _ _ _ _ (hk trivial)
  exact lv_fdiv hx hb hdg hP (hk hc _ _ _ hS hW hL)

theorem st_ddiv {pc : Nat} {d : List Nat} {kc ks : Nat} {ls st : List Value} {w : AW} {G : AG} {Q : AQ} {K : Nat → Nat → List Value → List Value → AW → Prop} {cap : Nat × Nat} {hs : List (String × Nat × Nat)} {rt : Option FieldType}
    (hx : p.tables.exec = Jvm.exec) (hb : c.code = mB k) (hdg : decode (mB k) pc = .ok (.ddiv, ilen (.ddiv)))
    (hK : ∀ kc ks ls st w, K kc ks ls st w → WJ l γ D dA B E k p e s m args below meth c R Z (pc + ilen (.ddiv)) kc ks ls st w)
    (h : isd G k hs Q K (sd cap hs rt (.ddiv) d kc ks ls st w)) : WJ l γ D dA B E k p e s m args below meth c R Z pc kc ks ls st w := by
  intro hc H locs lsA hS hW hL
  simp only [sd] at h
  split at h <;> first | exact absurd h (fun q => q) | skip
  obtain ⟨hP, hk, -⟩ := h
  have hk := hK _ _ _ _ _ (hk trivial)
  exact lv_ddiv hx hb hdg hP (hk hc _ _ _ hS hW hL)

theorem st_lcmp {pc : Nat} {d : List Nat} {kc ks : Nat} {ls st : List Value} {w : AW} {G : AG} {Q : AQ} {K : Nat → Nat → List Value → List Value → AW → Prop} {cap : Nat × Nat} {hs : List (String × Nat × Nat)} {rt : Option FieldType}
    (hx : p.tables.exec = Jvm.exec) (hb : c.code = mB k) (hdg : decode (mB k) pc = .ok (.lcmp, ilen (.lcmp)))
    (hK : ∀ kc ks ls st w, K kc ks ls st w → WJ l γ D dA B E k p e s m args below meth c R Z (pc + ilen (.lcmp)) kc ks ls st w)
    (h : isd G k hs Q K (sd cap hs rt (.lcmp) d kc ks ls st w)) : WJ l γ D dA B E k p e s m args below meth c R Z pc kc ks ls st w := by
  intro hc H locs lsA hS hW hL
  simp only [sd] at h
  split at h <;> first | exact absurd h (fun q => q) | skip
  obtain ⟨hP, hk, -⟩ := h
  have hk := hK _ _ _ _ _ (hk trivial)
  exact W.lcmp hx hb hdg (hk hc _ _ _ hS hW hL)

theorem st_dcmp {pc : Nat} {op : ClassFile.CmpOp} {d : List Nat} {kc ks : Nat} {ls st : List Value} {w : AW} {G : AG} {Q : AQ} {K : Nat → Nat → List Value → List Value → AW → Prop} {cap : Nat × Nat} {hs : List (String × Nat × Nat)} {rt : Option FieldType}
    (hx : p.tables.exec = Jvm.exec) (hb : c.code = mB k) (hdg : decode (mB k) pc = .ok (.dcmp op, ilen (.dcmp op)))
    (hK : ∀ kc ks ls st w, K kc ks ls st w → WJ l γ D dA B E k p e s m args below meth c R Z (pc + ilen (.dcmp op)) kc ks ls st w)
    (h : isd G k hs Q K (sd cap hs rt (.dcmp op) d kc ks ls st w)) : WJ l γ D dA B E k p e s m args below meth c R Z pc kc ks ls st w := by
  intro hc H locs lsA hS hW hL
  simp only [sd] at h
  split at h <;> first | exact absurd h (fun q => q) | skip
  obtain ⟨hP, hk, -⟩ := h
  have hk := hK _ _ _ _ _ (hk trivial)
  exact lv_dcmp hx hb hdg (hk hc _ _ _ hS hW hL)

theorem st_dup {pc : Nat} {d : List Nat} {kc ks : Nat} {ls st : List Value} {w : AW} {G : AG} {Q : AQ} {K : Nat → Nat → List Value → List Value → AW → Prop} {cap : Nat × Nat} {hs : List (String × Nat × Nat)} {rt : Option FieldType}
    (hx : p.tables.exec = Jvm.exec) (hb : c.code = mB k) (hdg : decode (mB k) pc = .ok (.dup, ilen (.dup)))
    (hK : ∀ kc ks ls st w, K kc ks ls st w → WJ l γ D dA B E k p e s m args below meth c R Z (pc + ilen (.dup)) kc ks ls st w)
    (h : isd G k hs Q K (sd cap hs rt (.dup) d kc ks ls st w)) : WJ l γ D dA B E k p e s m args below meth c R Z pc kc ks ls st w := by
  intro hc H locs lsA hS hW hL
  simp only [sd] at h
  split at h <;> first | exact absurd h (fun q => q) | skip
  obtain ⟨hP, hk, -⟩ := h
  have hk := hK _ _ _ _ _ (hk trivial)
  exact lv_dup hx hb hdg (by rw [cv_cat]; exact hP) (hk hc _ _ _ hS hW hL)

theorem st_dup2 {pc : Nat} {d : List Nat} {kc ks : Nat} {ls st : List Value} {w : AW} {G : AG} {Q : AQ} {K : Nat → Nat → List Value → List Value → AW → Prop} {cap : Nat × Nat} {hs : List (String × Nat × Nat)} {rt : Option FieldType}
    (hx : p.tables.exec = Jvm.exec) (hb : c.code = mB k) (hdg : decode (mB k) pc = .ok (.dup2, ilen (.dup2)))
    (hK : ∀ kc ks ls st w, K kc ks ls st w → WJ l γ D dA B E k p e s m args below meth c R Z (pc + ilen (.dup2)) kc ks ls st w)
    (h : isd G k hs Q K (sd cap hs rt (.dup2) d kc ks ls st w)) : WJ l γ D dA B E k p e s m args below meth c R Z pc kc ks ls st w := by
  intro hc H locs lsA hS hW hL
  simp only [sd] at h
  split at h <;> first | exact absurd h (fun q => q) | skip
  obtain ⟨hP, hk, -⟩ := h
  have hk := hK _ _ _ _ _ (hk trivial)
  exact lv_dup2_11 hx hb hdg (by rw [cv_cat]; exact hP.1) (by rw [cv_cat]; exact hP.2) (hk hc _ _ _ hS hW hL)

theorem st_pop {pc : Nat} {d : List Nat} {kc ks : Nat} {ls st : List Value} {w : AW} {G : AG} {Q : AQ} {K : Nat → Nat → List Value → List Value → AW → Prop} {cap : Nat × Nat} {hs : List (String × Nat × Nat)} {rt : Option FieldType}
    (hx : p.tables.exec = Jvm.exec) (hb : c.code = mB k) (hdg : decode (mB k) pc = .ok (.pop, ilen (.pop)))
    (hK : ∀ kc ks ls st w, K kc ks ls st w → WJ l γ D dA B E k p e s m args below meth c R Z (pc + ilen (.pop)) kc ks ls st w)
    (h : isd G k hs Q K (sd cap hs rt (.pop) d kc ks ls st w)) : WJ l γ D dA B E k p e s m args below meth c R Z pc kc ks ls st w := by
  intro hc H locs lsA hS hW hL
  simp only [sd] at h
  split at h <;> first | exact absurd h (fun q => q) | skip
  obtain ⟨hP, hk, -⟩ := h
  have hk := hK _ _ _ _ _ (hk trivial)
  exact lv_pop hx hb hdg (by rw [cv_cat]; exact hP) (hk hc _ _ _ hS hW hL)

/-! branches -/
theorem st_if {pc : Nat} {cn : ClassFile.Cond} {off : Int} {d : List Nat} {kc ks : Nat} {ls st : List Value} {w : AW} {G : AG} {Q : AQ} {K : Nat → Nat → List Value → List Value → AW → Prop} {cap : Nat × Nat} {hs : List (String × Nat × Nat)} {rt : Option FieldType}
    (hx : p.tables.exec = Jvm.exec) (hb : c.code = mB k) (hdg : decode (mB k) pc = .ok (.ifCond cn off, 3)) (ht : ∀ t, d = [t] → (pc : Int) + off = (pcs k t : Int))
    (hG : ∀ t kc ks ls st w, G k t kc ks ls st w Q → WJ l γ D dA B E k p e s m args below meth c R Z (pcs k t) kc ks ls st w)
    (hK : ∀ kc ks ls st w, K kc ks ls st w → WJ l γ D dA B E k p e s m args below meth c R Z (pc + 3) kc ks ls st w)
    (h : isd G k hs Q K (sd cap hs rt (.ifCond cn off) d kc ks ls st w)) : WJ l γ D dA B E k p e s m args below meth c R Z pc kc ks ls st w := by
  intro hc H locs lsA hS hW hL
  simp only [sd] at h
  split at h <;> first | exact absurd h (fun q => q) | skip
  have ht := ht _ rfl
  cases cn <;> obtain ⟨-, h1, h2, -⟩ := h
  · exact lv_if_eq hx hb hdg ht (fun q => hG _ _ _ _ _ _ (h1 q) hc _ _ _ hS hW hL) (fun q => hK _ _ _ _ _ (h2 q) hc _ _ _ hS hW hL)
  · exact lv_if_ne hx hb hdg ht (fun q => hG _ _ _ _ _ _ (h1 q) hc _ _ _ hS hW hL) (fun q => hK _ _ _ _ _ (h2 q) hc _ _ _ hS hW hL)
  · exact lv_if_lt hx hb hdg ht (fun q => hG _ _ _ _ _ _ (h1 q) hc _ _ _ hS hW hL) (fun q => hK _ _ _ _ _ (h2 q) hc _ _ _ hS hW hL)
  · exact lv_if_ge hx hb hdg ht (fun q => hG _ _ _ _ _ _ (h1 q) hc _ _ _ hS hW hL) (fun q => hK _ _ _ _ _ (h2 q) hc _ _ _ hS hW hL)
  · exact lv_if_gt hx hb hdg ht (fun q => hG _ _ _ _ _ _ (h1 q) hc _ _ _ hS hW hL) (fun q => hK _ _ _ _ _ (h2 q) hc _ _ _ hS hW hL)
  · exact lv_if_le hx hb hdg ht (fun q => hG _ _ _ _ _ _ (h1 q) hc _ _ _ hS hW hL) (fun q => hK _ _ _ _ _ (h2 q) hc _ _ _ hS hW hL)
theorem st_ic {pc : Nat} {cn : ClassFile.Cond} {off : Int} {d : List Nat} {kc ks : Nat} {ls st : List Value} {w : AW} {G : AG} {Q : AQ} {K : Nat → Nat → List Value → List Value → AW → Prop} {cap : Nat × Nat} {hs : List (String × Nat × Nat)} {rt : Option FieldType}
    (hx : p.tables.exec = Jvm.exec) (hb : c.code = mB k) (hdg : decode (mB k) pc = .ok (.if_icmp cn off, 3)) (ht : ∀ t, d = [t] → (pc : Int) + off = (pcs k t : Int))
    (hG : ∀ t kc ks ls st w, G k t kc ks ls st w Q → WJ l γ D dA B E k p e s m args below meth c R Z (pcs k t) kc ks ls st w)
    (hK : ∀ kc ks ls st w, K kc ks ls st w → WJ l γ D dA B E k p e s m args below meth c R Z (pc + 3) kc ks ls st w)
    (h : isd G k hs Q K (sd cap hs rt (.if_icmp cn off) d kc ks ls st w)) : WJ l γ D dA B E k p e s m args below meth c R Z pc kc ks ls st w := by
  intro hc H locs lsA hS hW hL
  simp only [sd] at h
  split at h <;> first | exact absurd h (fun q => q) | skip
  have ht := ht _ rfl
  cases cn <;> obtain ⟨-, h1, h2, -⟩ := h
  · exact lv_icmp_eq hx hb hdg ht (fun q => hG _ _ _ _ _ _ (h1 q) hc _ _ _ hS hW hL) (fun q => hK _ _ _ _ _ (h2 q) hc _ _ _ hS hW hL)
  · exact lv_icmp_ne hx hb hdg ht (fun q => hG _ _ _ _ _ _ (h1 q) hc _ _ _ hS hW hL) (fun q => hK _ _ _ _ _ (h2 q) hc _ _ _ hS hW hL)
  · exact lv_icmp_lt hx hb hdg ht (fun q => hG _ _ _ _ _ _ (h1 q) hc _ _ _ hS hW hL) (fun q => hK _ _ _ _ _ (h2 q) hc _ _ _ hS hW hL)
  · exact lv_icmp_ge hx hb hdg ht (fun q => hG _ _ _ _ _ _ (h1 q) hc _ _ _ hS hW hL) (fun q => hK _ _ _ _ _ (h2 q) hc _ _ _ hS hW hL)
  · exact lv_icmp_gt hx hb hdg ht (fun q => hG _ _ _ _ _ _ (h1 q) hc _ _ _ hS hW hL) (fun q => hK _ _ _ _ _ (h2 q) hc _ _ _ hS hW hL)
  · exact lv_icmp_le hx hb hdg ht (fun q => hG _ _ _ _ _ _ (h1 q) hc _ _ _ hS hW hL) (fun q => hK _ _ _ _ _ (h2 q) hc _ _ _ hS hW hL)
theorem st_goto {pc : Nat} {off : Int} {d : List Nat} {kc ks : Nat} {ls st : List Value} {w : AW} {G : AG} {Q : AQ} {K : Nat → Nat → List Value → List Value → AW → Prop} {cap : Nat × Nat} {hs : List (String × Nat × Nat)} {rt : Option FieldType}
    (hx : p.tables.exec = Jvm.exec) (hb : c.code = mB k) (hdg : decode (mB k) pc = .ok (.goto off, 3)) (ht : ∀ t, d = [t] → (pc : Int) + off = (pcs k t : Int))
    (hG : ∀ t kc ks ls st w, G k t kc ks ls st w Q → WJ l γ D dA B E k p e s m args below meth c R Z (pcs k t) kc ks ls st w)
    (h : isd G k hs Q K (sd cap hs rt (.goto off) d kc ks ls st w)) : WJ l γ D dA B E k p e s m args below meth c R Z pc kc ks ls st w := by
  intro hc H locs lsA hS hW hL
  simp only [sd] at h
  split at h <;> first | exact absurd h (fun q => q) | skip
  obtain ⟨-, h1, -⟩ := h
  exact lv_goto hx hb hdg (ht _ rfl) (hG _ _ _ _ _ _ (h1 trivial) hc _ _ _ hS hW hL)
theorem st_ifnull {pc : Nat} {off : Int} {d : List Nat} {kc ks : Nat} {ls st : List Value} {w : AW} {G : AG} {Q : AQ} {K : Nat → Nat → List Value → List Value → AW → Prop} {cap : Nat × Nat} {hs : List (String × Nat × Nat)} {rt : Option FieldType}
    (hx : p.tables.exec = Jvm.exec) (hb : c.code = mB k) (hdg : decode (mB k) pc = .ok (.ifnull off, 3)) (ht : ∀ t, d = [t] → (pc : Int) + off = (pcs k t : Int))
    (hG : ∀ t kc ks ls st w, G k t kc ks ls st w Q → WJ l γ D dA B E k p e s m args below meth c R Z (pcs k t) kc ks ls st w)
    (hK : ∀ kc ks ls st w, K kc ks ls st w → WJ l γ D dA B E k p e s m args below meth c R Z (pc + 3) kc ks ls st w)
    (h : isd G k hs Q K (sd cap hs rt (.ifnull off) d kc ks ls st w)) : WJ l γ D dA B E k p e s m args below meth c R Z pc kc ks ls st w := by
  intro hc H locs lsA hS hW hL
  simp only [sd] at h
  split at h <;> first | exact absurd h (fun q => q) | skip
  · obtain ⟨-, h1, -⟩ := h
    exact lv_ifnull hx hb hdg (hK _ _ _ _ _ (h1 trivial) hc _ _ _ hS hW hL)
  · obtain ⟨-, h1, -⟩ := h
    exact lv_ifnullN hx hb hdg (ht _ rfl) (hG _ _ _ _ _ _ (h1 trivial) hc _ _ _ hS hW hL)
theorem st_ifnonnull {pc : Nat} {off : Int} {d : List Nat} {kc ks : Nat} {ls st : List Value} {w : AW} {G : AG} {Q : AQ} {K : Nat → Nat → List Value → List Value → AW → Prop} {cap : Nat × Nat} {hs : List (String × Nat × Nat)} {rt : Option FieldType}
    (hx : p.tables.exec = Jvm.exec) (hb : c.code = mB k) (hdg : decode (mB k) pc = .ok (.ifnonnull off, 3)) (ht : ∀ t, d = [t] → (pc : Int) + off = (pcs k t : Int))
    (hG : ∀ t kc ks ls st w, G k t kc ks ls st w Q → WJ l γ D dA B E k p e s m args below meth c R Z (pcs k t) kc ks ls st w)
    (hK : ∀ kc ks ls st w, K kc ks ls st w → WJ l γ D dA B E k p e s m args below meth c R Z (pc + 3) kc ks ls st w)
    (h : isd G k hs Q K (sd cap hs rt (.ifnonnull off) d kc ks ls st w)) : WJ l γ D dA B E k p e s m args below meth c R Z pc kc ks ls st w := by
  intro hc H locs lsA hS hW hL
  simp only [sd] at h
  split at h <;> first | exact absurd h (fun q => q) | skip
  · obtain ⟨-, h1, -⟩ := h
    exact lv_ifnonnull hx hb hdg (ht _ rfl) (hG _ _ _ _ _ _ (h1 trivial) hc _ _ _ hS hW hL)
  · obtain ⟨-, h1, -⟩ := h
    exact lv_ifnonnullN hx hb hdg (hK _ _ _ _ _ (h1 trivial) hc _ _ _ hS hW hL)
/-! switches -/
theorem swp_or {x : Int32} {d : Nat} {g : Nat → Prop} : ∀ (l : List Nat), swp x d g l → (∃ j key t : Nat, l[2 * j]? = some key ∧ l[2 * j + 1]? = some t ∧ x = Int32.ofNat key ∧ g t) ∨ ((∀ j key t : Nat, l[2 * j]? = some key → l[2 * j + 1]? = some t → ¬ x = Int32.ofNat key) ∧ g d)
  | [], h => Or.inr ⟨fun j key t h1 => by simp at h1, h⟩
  | [a], h => Or.inr ⟨fun j key t h1 h2 => by
      cases j with
      | zero => simp at h2
      | succ j => simp at h2, h⟩
  | a :: t :: l, h => by
    by_cases e : x = Int32.ofNat a
    · exact Or.inl ⟨0, a, t, rfl, rfl, e, h.1 e⟩
    · rcases swp_or l (h.2 e) with ⟨j, key, t', h1, h2, h3, h4⟩ | ⟨h1, h2⟩
      · exact Or.inl ⟨j + 1, key, t', by simpa [Nat.mul_add] using h1, by simpa [Nat.mul_add] using h2, h3, h4⟩
      · refine Or.inr ⟨fun j key t' q1 q2 => ?_, h2⟩
        cases j with
        | zero =>
          simp at q1
          rw [← q1]; exact e
        | succ j => exact h1 j key t' (by simpa [Nat.mul_add] using q1) (by simpa [Nat.mul_add] using q2)
theorem st_tsw {pc : Nat} {df lo hi : Int} {offs : Array Int} {len : Nat} {d : List Nat} {kc ks : Nat} {ls st : List Value} {w : AW} {G : AG} {Q : AQ} {K : Nat → Nat → List Value → List Value → AW → Prop} {cap : Nat × Nat} {hs : List (String × Nat × Nat)} {rt : Option FieldType}
    (hx : p.tables.exec = Jvm.exec) (hb : c.code = mB k) (hdg : decode (mB k) pc = .ok (.tableswitch df lo hi offs, len)) (ht : ∀ td l, d = td :: l → tsOk k pc df lo hi offs td l = true)
    (hG : ∀ t kc ks ls st w, G k t kc ks ls st w Q → WJ l γ D dA B E k p e s m args below meth c R Z (pcs k t) kc ks ls st w)
    (h : isd G k hs Q K (sd cap hs rt (.tableswitch df lo hi offs) d kc ks ls st w)) : WJ l γ D dA B E k p e s m args below meth c R Z pc kc ks ls st w := by
  intro hc H locs lsA hS hW hL
  simp only [sd] at h
  split at h <;> first | exact absurd h (fun q => q) | skip
  rename_i td l' x st'
  have ht := ht _ _ rfl
  simp only [tsOk, Bool.and_eq_true, decide_eq_true_eq, List.all_eq_true, List.mem_range] at ht
  obtain ⟨⟨⟨⟨⟨t1, t2⟩, t3⟩, t4⟩, t5⟩, t6⟩ := ht
  obtain ⟨-, h1⟩ := h
  rw [swt_iff] at h1
  have h1 := swp_or _ (h1 trivial)
  rcases h1 with ⟨j, key, t, q1, q2, q3, q4⟩ | ⟨q1, q2⟩
  · have hj : j < offs.size := by
      have := (List.getElem?_eq_some_iff.mp q2).1
      omega
    obtain ⟨r1, r2⟩ := t6 j hj
    rw [q1] at r1
    have ek : key = lo.toNat + j := Option.some.inj r1
    rw [q2, Array.getElem?_eq_getElem hj] at r2
    have r2 := of_decide_eq_true r2
    have hk31 : key < 2 ^ 31 := by omega
    have hxi : x.toInt = (key : Int) := by rw [q3]; exact nI_toInt hk31
    refine lv_tableIn hx hb hdg (by rw [hxi]; omega) (by rw [hxi]; omega) (off := offs[j]) ?_ r2 (hG _ _ _ _ _ _ q4 hc _ _ _ hS hW hL)
    rw [hxi, show ((key : Int) - lo).toNat = j by omega]
    exact Array.getElem?_eq_getElem hj
  · refine lv_tableOut hx hb hdg ?_ t5 (hG _ _ _ _ _ _ q2 hc _ _ _ hS hW hL)
    rcases Int.lt_or_le x.toInt lo with a | a
    · exact Or.inl a
    rcases Int.lt_or_le hi x.toInt with b | b
    · exact Or.inr b
    exfalso
    have hj : (x.toInt - lo).toNat < offs.size := by omega
    obtain ⟨r1, r2⟩ := t6 _ hj
    cases hl : l'[2 * (x.toInt - lo).toNat + 1]? with
    | none => rw [hl] at r2; cases r2
    | some t =>
      refine q1 _ _ _ r1 hl ?_
      apply Int32.toInt_inj.mp
      have : (Int32.ofNat (lo.toNat + (x.toInt - lo).toNat)).toInt = ((lo.toNat + (x.toInt - lo).toNat : Nat) : Int) := nI_toInt (by omega)
      rw [this]
      omega

end St
