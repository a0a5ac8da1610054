/-! what was there, at its addresses -/
def cnt (γ : Nat → Nat) (ct : (Nat → Int32) ⊕ (Nat → Int64) ⊕ (Nat → UInt32) ⊕ (Nat → UInt64) ⊕ (Nat → Option Nat)) (j : Nat) : Value := match ct with
  | .inl f => .int (f j)
  | .inr (.inl f) => .long (f j)
  | .inr (.inr (.inl f)) => .float (f j)
  | .inr (.inr (.inr (.inl f))) => .double (f j)
  | .inr (.inr (.inr (.inr f))) => va_rf ((f j).map γ)
def XArr (γ : Nat → Nat) (t n : Nat) (ct : (Nat → Int32) ⊕ (Nat → Int64) ⊕ (Nat → UInt32) ⊕ (Nat → UInt64) ⊕ (Nat → Option Nat)) (a : Nat) (U : State) (H : Heap) : Prop :=
  ∃ cell : Cell, H[a]? = some cell ∧ U.isArrayOf cell (aty t) ∧ cell.vm ≠ .unknown ∧ (n ≤ cell.slots.size ∧ cell.slots.size.toInt32 = Int32.ofNat n) ∧ ∀ j, j < n → cell.slots[j]? = some (cnt γ ct j)
def XAt (γ : Nat → Nat) (A : Nat → Prop) (c : AC) (a : Nat) (U : State) (H : Heap) : Prop := match c with
  | .inl (t, n, ct) => ¬ A a ∧ XArr γ t n ct a U H
  | .inr (ci, fs) => (ci = 102 → ∀ j v, fs[j]? = some v → va_Z (xS j).1 (xS j).2.1 (xS j).2.2 (cv γ v) A U H) ∧ ((ci = 100 ∨ ci = 101) → va_O (xR ci) a A U H ∧ ∀ k v, fs[k]? = some v → va_OF (xF ci k).1 (xF ci k).2.1 (xF ci k).2.2.1 (cv γ v) a A U H)
theorem XAt.moved {γ : Nat → Nat} {A : Nat → Prop} {c : AC} {a : Nat} {u U : State} {H : Heap} (hvm : u.vm.Alike U.vm) (h : XAt γ A c a u H) : XAt γ A c a U H := by
  match c, h with
  | .inl (t, n, ct), ⟨h0, ce, h1, h2, h3⟩ => exact ⟨h0, ce, h1, State.isArrayOf_alike hvm h2, h3⟩
  | .inr (ci, fs), ⟨h1, h2⟩ => exact ⟨fun e j v hv => (h1 e j v hv).moved hvm, fun e => ⟨(h2 e).1.moved hvm, fun k v hv => ((h2 e).2 k v hv).moved hvm⟩⟩
theorem XAt.kept {γ : Nat → Nat} {A : Nat → Prop} {c : AC} {a : Nat} {U : State} {H H1 : Heap} (h : XAt γ A c a U H) (hq : ∀ a : Nat, a < H.size → ¬ A a → H1[a]? = H[a]?) : XAt γ A c a U H1 := by
  match c, h with
  | .inl (t, n, ct), ⟨h0, ce, h1, h2, h3⟩ => exact ⟨h0, ce, by rw [hq a (Array.getElem?_eq_some_iff.mp h1).1 h0]; exact h1, h2, h3⟩
  | .inr (ci, fs), ⟨h1, h2⟩ => exact ⟨fun e j v hv => (h1 e j v hv).kept hq, fun e => ⟨(h2 e).1.kept hq, fun k v hv => ((h2 e).2 k v hv).kept hq⟩⟩
def Ext (γ : Nat → Nat) (B : Nat) (E : List AC) (U : State) (H : Heap) : Prop :=
  (∀ i c, E[i]? = some c → XAt γ (fun q => B ≤ q) c (γ i) U H) ∧ (∀ q ∈ xLd, vk_R q.1 q.2.1 q.2.2.1 (γ q.2.2.2) U) ∧ (∀ q ∈ xEx, ∃ a, vk_R q.1 q.2.1 q.2.2 a U) ∧
  (∀ q ∈ xNest, va_Nw (.methodLinkNest q.1 q.2.1 q.2.2 "GlowwormGrid") U) ∧ (∀ q ∈ xCast, va_Nw (.castable q.1 q.2) U) ∧ (∀ y ∈ xDecl, va_Nw (.declares y) U) ∧ va_AO "GlowwormGrid$Board" U ∧ (∀ q ∈ xNc, va_Nc q.1 q.2 U) ∧
  vx_Zq Bundle.tN "UNASSIGNED_STACK" Bundle.steD (fun q => B ≤ q) U H ∧ vx_Zq Bundle.tN "SUPPRESSED_SENTINEL" Bundle.listD (fun q => B ≤ q) U H
theorem Ext.go {γ : Nat → Nat} {B : Nat} {E : List AC} {s U : State} {H : Heap} {locs : List Loc} (h : Ext γ B E s s.heap) (hS : va_S (fun q => B ≤ q) s.heap H locs) (hU : U.heap = H) (hW : s.WarmedH U.vm) : Ext γ B E U U.heap := by
  obtain ⟨h1, h2, h3, h4, h5, h6, h7, h8, h9, h10⟩ := h
  have hq : ∀ a : Nat, a < s.heap.size → ¬ (fun q => B ≤ q) a → U.heap[a]? = s.heap[a]? := fun a ha hn => by rw [hU]; exact hS.2.1 a ha hn
  exact ⟨fun i c hc => ((h1 i c hc).kept hq).moved hW.alike, fun q hq => (h2 q hq).warm hW, fun q hq => (h3 q hq).elim fun a ha => ⟨a, ha.warm hW⟩, fun q hq => va_Nw.warmM hW (h4 q hq), fun q hq => va_Nw.warmC hW (h5 q hq),
    fun y hy => va_Nw.warmD hW (h6 y hy), h7.moved hW.alike, fun q hq => (h8 q hq).moved hW.alike, (h9.kept hq).moved hW.alike, (h10.kept hq).moved hW.alike⟩
theorem Ext.same {γ : Nat → Nat} {B : Nat} {E : List AC} {s U : State} (h : Ext γ B E s s.heap) (hU : U.heap = s.heap) (hv : U.vm = s.vm) : Ext γ B E U U.heap := by
  obtain ⟨h1, h2, h3, h4, h5, h6, h7, h8, h9, h10⟩ := h
  have ha : s.vm.Alike U.vm := by rw [hv]; exact Vm.Alike.refl _
  rw [hU]
  exact ⟨fun i c hc => (h1 i c hc).moved ha, fun q hq => (h2 q hq).same hv, fun q hq => (h3 q hq).elim fun a hz => ⟨a, hz.same hv⟩, fun q hq => va_Nw.same rfl hv.symm (h4 q hq), fun q hq => va_Nw.same rfl hv.symm (h5 q hq),
    fun y hy => va_Nw.same rfl hv.symm (h6 y hy), h7.moved ha, fun q hq => (h8 q hq).moved ha, h9.moved ha, h10.moved ha⟩
/-- the world's cells, at their addresses -/
def WR (γ : Nat → Nat) (D : va_G) (dA : Nat → ClassId) (B : Nat) (E : List AC) (w : AW) (H : Heap) : Prop :=
  (∀ i c, w.1 i = some c → i < w.2.1) ∧ (∀ i, i < k0 → w.1 i = E[i]?) ∧ (∀ i c, k0 ≤ i → w.1 i = some c → va_at D kcl (γ i, cvE γ dA c) H) ∧ k0 ≤ w.2.1 ∧ B + (w.2.1 - k0) ≤ H.size ∧ (w.2.2 = false → H.size = B + (w.2.1 - k0))
def tysOf (dA : Nat → ClassId) : List (ClassId × FieldType) := [(dA 0, .int), (dA 1, .char), (dA 2, .long), (dA 3, .object "GlowwormGrid$Board")]
/-- a method's own state at its entry -/
def Ctx (k : Nat) (p : Program) (s : State) (m : MethodId) (args : Array Value) (meth : Method) (c : Code) : Prop :=
  p.tables.exec = Jvm.exec ∧ c.code = mB k ∧ meth.sig.returnType = (mT k).2.2.2 ∧ c.maxLocals = mL k ∧ s.vm.findClass (mY k).cls = some m.cls ∧ (∀ w ∈ gw, w.before args s = true) ∧ meth.locks = false ∧ meth.name = (mY k).name ∧ c.exceptionTable.toList = tableOf (mHH k)
def QR (γ : Nat → Nat) (D : va_G) (dA : Nat → ClassId) (B : Nat) (E : List AC) (Q : AQ) : Array Value → State → Outcome → State → Prop := fun _ st o t =>
  ∃ (v : Option Value) (w : AW), o = .returned (v.map (cv γ)) ∧ Q (.inl v) w ∧ WR γ D dA B E w t.heap ∧ va_F (fun q => B ≤ q) st t
def QX (γ : Nat → Nat) (D : va_G) (dA : Nat → ClassId) (B : Nat) (E : List AC) (Q : AQ) : String → State → State → Prop := fun X st t =>
  ∃ w : AW, Q (.inr X) w ∧ WR γ D dA B E w t.heap ∧ va_F (fun q => B ≤ q) st t
/-- the judgement on the machine -/
def GM (l : Launch) (γ : Nat → Nat) (D : va_G) (dA : Nat → ClassId) (B : Nat) (E : List AC) : AG := fun k b kc ks ls st w Q =>
  ∀ (p : Program) (e : Env) (s : State) (m : MethodId) (args : Array Value) (below : List Frame) (meth : Method) (c : Code) (H : Heap) (locs : List Loc) (lsA : Array Slot),
    Ctx k p s m args meth c → Ext γ B E s s.heap → va_K D kcl (tysOf dA) s → va_S (fun q => B ≤ q) s.heap H locs → WR γ D dA B E w H → LH γ lsA (mL k) ls → kc ≤ (mRm k).cells ∧ ks ≤ (mRm k).slots →
    W p l e (mRm k) s m args below meth c H locs kc ks (vx_MQ below (QR γ D dA B E Q) (QX γ D dA B E Q) args s (mT k).2.2.1.1 (mT k).2.2.1.2 (fun q => B ≤ q)) (F0 m (pcs k b) lsA (st.map (cv γ)))
