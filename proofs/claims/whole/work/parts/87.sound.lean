/-! ends, throws, calls -/
theorem gw_good : ∀ w ∈ gw, w ∈ gw ∧ ((w.onTables && w.keeps) = true ∨ ∃ ty, w = .arrayClass ty) := fun w h => ⟨h, good_of_word (List.mem_filter.mp h).2⟩
/-- what is asked of a method that is called -/
def ckM (k : Nat) : Prop := codeW k ∈ gw ∧ Cond.initialized (mY k).cls ∈ gw ∧ (plainFor (mY k) = true ∧ (mHH k = [] ∨ plainName (mY k).cls = true)) ∧ (mY k).cls ≠ "java/lang/invoke/MethodHandle" ∧ (mY k).cls ≠ "java/lang/invoke/VarHandle" ∧ pcs k 0 = 0
theorem tkr_spec : ∀ (n : Nat) (acc st as st' : List Value), tkr n acc st = some (as, st') → acc.reverse ++ st = as.reverse ++ st' ∧ as.length = n + acc.length
  | 0, acc, st, as, st', h => by
    simp only [tkr, Option.some.injEq, Prod.mk.injEq] at h
    obtain ⟨rfl, rfl⟩ := h
    exact ⟨rfl, by omega⟩
  | n + 1, acc, v :: st, as, st', h => by
    obtain ⟨h1, h2⟩ := tkr_spec n (v :: acc) st as st' h
    refine ⟨?_, by simp at h2; omega⟩
    rw [← h1]
    simp
  | n + 1, acc, [], as, st', h => by simp [tkr] at h
theorem padl_len : ∀ (as : List Value) (n : Nat), as.length ≤ n → (padl as n).length = n
  | [], n, _ => by simp [padl]
  | v :: l, 0, h => by simp at h
  | v :: l, n + 1, h => by simp [padl, padl_len l n (by simpa using h)]
theorem lg_rep : ∀ (n j : Nat), lg (List.replicate n xk) j = xk
  | 0, j => rfl
  | n + 1, 0 => rfl
  | n + 1, j + 1 => lg_rep n j
theorem padl_args {γ : Nat → Nat} : ∀ (as : List Value) (n j i : Nat), cat1 as → kn (lg (padl as n) j) = true → (i + j, cv γ (lg (padl as n) j)) ∈ lv_args i (as.map (cv γ))
  | [], n, j, i, _, h => by
    rw [padl, lg_rep] at h
    exact absurd h (by decide)
  | v :: l, 0, j, i, _, h => by
    simp [padl, lg, kn] at h
  | v :: l, n + 1, 0, i, _, h => by
    rw [List.map_cons, lv_args]
    exact List.mem_cons_self
  | v :: l, n + 1, j + 1, i, hc, h => by
    rw [List.map_cons, lv_args, cv_cat, hc.1]
    have := padl_args (γ := γ) l n j (i + 1) hc.2 h
    rw [show i + 1 + j = i + (j + 1) by omega] at this
    exact List.mem_cons_of_mem _ this
theorem sl_len {γ : Nat → Nat} : ∀ (as : List Value), cat1 as → (lg_sl (as.map (cv γ))).length = as.length
  | [], _ => rfl
  | v :: l, h => by
    rw [List.map_cons]
    have ih := sl_len (γ := γ) l h.2
    have h1 : (cv γ v).category = 1 := by rw [cv_cat]; exact h.1
    rw [lg_sl, List.flatMap_cons, List.length_append]
    rw [lg_sl] at ih
    rw [ih, if_neg (by rw [h1]; decide)]
    simp; omega
/-- as the kit's vx_ofW, of a method whose class has methods of the machine's own, where this one is none of them -/
theorem x_ofW {l : Launch} {y : MethodName} {ws ws' : List Cond} {rm : Room} {Pc : Array Value → State → Prop} {Qc : Array Value → State → Outcome → State → Prop} {XC : String → State → State → Prop} {mc ms : Nat} {free : Addr → Prop} {cc : ByteArray} {maxL : Nat} {ret : Option FieldType}
    (hy : plainFor y = true) (hw : ws = Cond.code y cc maxL ret :: ws')
    (body : ∀ p e s m args below meth c s₁, BodyLoose p l y (headSpec ws rm) cc maxL ret e s m args below meth c s₁ → c.maxLocals = maxL → (∀ x ∈ c.exceptionTable.toList, False) → Pc args s →
      W p l e (headSpec ws rm).room s m args below meth c s.heap [] 0 0 (vx_MQ below Qc XC args s mc ms free) (entryFrame m args maxL)) : vx_Met l y ws rm Pc Qc XC mc ms free := by
  refine MetFree.of_bodySF (code := cc) (maxLocals := maxL) (ret := ret) hy ?_ ?_
  · intro args s m h hn
    obtain ⟨meth, c, h1, h2, h3, h4, h5, h6, -, -⟩ := Cond.code_spec hn (atoms_spec (ws := ws) h _ (by rw [hw]; exact List.mem_cons_self))
    exact ⟨meth, c, h1, h2, h3, h4, h5, h6⟩
  · intro p e s m args below meth c s₁ B hml hP _
    have hh0 : s₁.heap = s.heap := by rw [B.state]; rfl
    have ht : ∀ x ∈ c.exceptionTable.toList, False := by
      obtain ⟨meth9, c9, h1, h2, -, -, -, -, h7, -⟩ := Cond.code_spec B.named (atoms_spec (ws := ws) B.pre _ (by rw [hw]; exact List.mem_cons_self))
      cases Option.some.inj (h1.symm.trans B.method)
      cases Option.some.inj (h2.symm.trans (Stand.of_body B).code)
      intro x hx
      rw [Array.isEmpty_iff.mp h7] at hx
      cases hx
    obtain ⟨t, a1, o, b1, b2, b3⟩ := body p e s m args below meth c s₁ B hml ht hP s₁ hh0 (Stand.of_body B)
    exact ⟨t, o, a1, b1, b2, b3⟩
section St4
variable {l : Launch} {γ : Nat → Nat} {D : va_G} {dA : Nat → ClassId} {B : Nat} {E : List AC}
def PcM (γ : Nat → Nat) (D : va_G) (dA : Nat → ClassId) (B : Nat) (E : List AC) (as : List Value) (w : AW) : Array Value → State → Prop := fun v U => v = (as.map (cv γ)).toArray ∧ Ext γ B E U U.heap ∧ va_K D kcl (tysOf dA) U ∧ WR γ D dA B E w U.heap
theorem PcM.blind {as : List Value} {w : AW} : FrameBlind (PcM γ D dA B E as w) := fun a U g mk h => ⟨h.1, h.2.1.same rfl rfl, h.2.2.1.moved (Vm.Alike.refl U.vm), h.2.2.2⟩
/-- the contract of a call, out of the judgement -/
theorem met_of {k : Nat} {as : List Value} {w : AW} {Q : AQ} (hM : ckM k) (hl : as.length ≤ mL k) (h1 : cat1 as) (h : GM l γ D dA B E k 0 0 0 (padl as (mL k)) [] w Q) :
    vx_Met l (mY k) (codeW k :: gw) (mRm k) (PcM γ D dA B E as w) (QR γ D dA B E Q) (QX γ D dA B E Q) (mT k).2.2.1.1 (mT k).2.2.1.2 (fun q => B ≤ q) := by
  obtain ⟨hc, hi, ⟨hp, hp2⟩, -, -, h0⟩ := hM
  have key : ∀ p e s m args below meth c s₁, BodyLoose p l (mY k) (headSpec (codeW k :: gw) (mRm k)) (mB k) (mL k) (mT k).2.2.2 e s m args below meth c s₁ → c.maxLocals = mL k → c.exceptionTable.toList = tableOf (mHH k) → PcM γ D dA B E as w args s →
      W p l e (headSpec (codeW k :: gw) (mRm k)).room s m args below meth c s.heap [] 0 0 (vx_MQ below (QR γ D dA B E Q) (QX γ D dA B E Q) args s (mT k).2.2.1.1 (mT k).2.2.1.2 (fun q => B ≤ q)) (entryFrame m args (mL k)) := by
    intro p e s m args below meth c s₁ Bd hml htab hv
    obtain ⟨rfl, hE, hK, hW⟩ := hv
    have hts := atoms_spec (ws := codeW k :: gw) Bd.pre
    have hsl := sl_len (γ := γ) as h1
    have hla := lv_entry (as.map (cv γ)) (n := mL k) (by rw [hsl]; exact hl)
    rw [lg_entry_eq]
    have g := h p e s m ((as.map (cv γ)).toArray) below meth c s.heap [] ((lg_sl (as.map (cv γ)) ++ List.replicate (mL k - (lg_sl (as.map (cv γ))).length) Slot.unset).toArray) ⟨Bd.exec, Bd.bytes, Bd.returns, hml, findClass_of_methodNamed Bd.named, fun w hw => hts w (List.mem_cons_of_mem _ hw), Bd.notSynchronized, (name_of_methodNamed Bd.named Bd.method).1, htab⟩ hE hK va_S.rf hW
      (LH.of hla (padl_len as _ hl) fun j hj => by have := padl_args (γ := γ) as (mL k) j 0 h1 hj; rwa [Nat.zero_add] at this) ⟨Nat.zero_le _, Nat.zero_le _⟩
    rw [h0] at g
    exact g
  cases hh : mHH k with
  | nil =>
    refine x_ofW (cc := mB k) (maxL := mL k) (ret := (mT k).2.2.2) (ws' := gw) hp (by simp only [codeW, hh]) fun p e s m args below meth c s₁ Bd hml hno hv => ?_
    refine key p e s m args below meth c s₁ Bd hml ?_ hv
    rw [hh]
    cases ht : c.exceptionTable.toList with
    | nil => rfl
    | cons z t => exact absurd (hno z (by rw [ht]; exact List.mem_cons_self)) (fun q => q)
  | cons a t =>
    refine vx_ofWH (cc := mB k) (maxL := mL k) (ret := (mT k).2.2.2) (hh := a :: t) (ws' := gw) (hp2.elim (fun q => by rw [hh] at q; cases q) id) (by simp only [codeW, hh]) fun p e s m args below meth c s₁ Bd hml hv => ?_
    refine key p e s m args below meth c s₁ Bd hml ?_ hv
    rw [hh]
    have hts := atoms_spec (ws := codeW k :: gw) Bd.pre
    have := hts (codeW k) List.mem_cons_self
    simp only [codeW, hh] at this
    exact vx_table (x := mY k) Bd this
variable {k : Nat} {p : Program} {e : Env} {s : State} {m : MethodId} {args : Array Value} {below : List Frame} {meth : Method} {c : Code} {R : Room} {Z : State → Prop}
theorem x_call {kc ks mc ms pc : Nat} {H : Heap} {locs : List Loc} {lsA : Array Slot} {st0 rest : List Value} {Q : AQ} {a : Array Value}
    (hr : vx_Run p l e R s m args below meth c H locs kc ks mc ms (F0 m pc lsA st0) rest (QR γ D dA B E Q a) (QX γ D dA B E Q) (fun q => B ≤ q)) (hS : va_S (fun q => B ≤ q) s.heap H locs)
    (kx : ∀ (X : String) (ce : Cell) (q9 : Addr) (w : AW) (H1 : Heap) (locs1 : List Loc), Q (.inr X) w → WR γ D dA B E w H1 → va_S (fun q => B ≤ q) s.heap H1 locs1 → H1[q9]? = some ce → ce.vm = .none → s.vm.findClass X = some ce.cls → vx_W p l e R s m args below meth c H1 locs1 (kc + mc) (ks + ms) Z (F0 m pc lsA rest) q9)
    (kk : ∀ (v : Option Value) (w : AW) (H1 : Heap) (locs1 : List Loc), Q (.inl v) w → WR γ D dA B E w H1 → va_S (fun q => B ≤ q) s.heap H1 locs1 → W p l e R s m args below meth c H1 locs1 (kc + mc) (ks + ms) Z (F0 m (pc + 3) lsA ((v.map (cv γ)).toList ++ rest))) :
    W p l e R s m args below meth c H locs kc ks Z (F0 m pc lsA st0) := by
  intro T hT X
  rcases hr T hT X with ⟨v, st₀, t, T', L, h0, X', hL, e1, e2, ⟨v', w, hv, hq, hw, hF⟩, st⟩ | ⟨q, st₀, t, T', L, E9, ce, h0, X', hL, e1, e2, ⟨w, hq, hw, hF⟩, hce, hcv, hcl, st⟩
  · cases hv
    obtain ⟨k1, k2, k3⟩ := vx_keep h0 e1 hS (fun q _ h => h) (fun q h => h) hL hF
    obtain ⟨t2, a1, b1⟩ := kk v' w T'.heap (locs ++ L) hq (by rw [e1]; exact hw) k3 T' rfl X'
    exact ⟨t2, st t2 a1, b1⟩
  · obtain ⟨k1, k2, k3⟩ := vx_keep h0 e1 hS (fun q _ h => h) (fun q h => h) hL hF
    obtain ⟨t2, a1, b1⟩ := kx E9 ce q w T'.heap (locs ++ L) hq (by rw [e1]; exact hw) k3 (by rw [e1]; exact hce) hcv hcl T' rfl X'
    exact ⟨t2, st.trans a1, b1⟩
/-- a local is written, nothing is said of it -/
theorem LH.stX {A Bs : Array Slot} {nL n : Nat} {ls : List Value} {u : Value} (h : LH γ A nL ls) (hk : lok ls n) (hn : n < ls.length)
    (hB : lv_has Bs nL ((n, u) :: (lvl γ ls 0).filter (fun q => !(q.1 == n) && !(q.1 + 1 == n && q.2.category == 2)))) : LH γ Bs nL (lset ls n xk) := by
  refine LH.of hB (by rw [len_lset]; exact h.2) fun j hj => ?_
  rw [lg_lset] at hj ⊢
  by_cases e : j = n ∧ n < ls.length
  · rw [if_pos e] at hj; exact absurd hj (by decide)
  · rw [if_neg e] at hj ⊢
    have hne : j ≠ n := fun q => e ⟨q, hn⟩
    refine List.mem_cons_of_mem _ (List.mem_filter.mpr ⟨LH.mem hj, ?_⟩)
    have h1 : (j == n) = false := by simpa using hne
    have h2 : (j + 1 == n && (cv γ (lg ls j)).category == 2) = false := by
      cases n with
      | zero => simp
      | succ n =>
        by_cases q : j = n
        · subst q
          rw [cv_cat, show (lg ls j).category = 1 from hk]
          simp
        · have : (j + 1 == n + 1) = false := by simpa using q
          simp [this]
    simp only [h1, h2]
    rfl
theorem covers_of {a b hp ct pc : Nat} (h : a ≤ pc ∧ pc < b) : covers ⟨a, b, hp, ct⟩ pc = true := by
  simp [covers, h.1, h.2]
theorem st_catch {pc kc ks : Nat} {ls : List Value} {w : AW} {G : AG} {Q : AQ} {H : Heap} {locs : List Loc} {lsA : Array Slot} {rest : List Value} {X : String} {ce : Cell} {q9 : Addr} {t0 n0 : Nat} (C : Ctx k p s m args meth c) (hE : Ext γ B E s s.heap) (hc : kc ≤ R.cells ∧ ks ≤ R.slots)
    (hS : va_S (fun q => B ≤ q) s.heap H locs) (hW : WR γ D dA B E w H) (hL : LH γ lsA (mL k) ls) (hcell : H[q9]? = some ce) (hv : ce.vm = .none) (hcl : s.vm.findClass X = some ce.cls)
    (hG : ∀ t kc ks ls st w, G k t kc ks ls st w Q → WJ l γ D dA B E k p e s m args below meth c R Z (pcs k t) kc ks ls st w) (hlk : lok ls n0) (hlt : n0 < ls.length) (hg : G k t0 kc ks (lset ls n0 xk) [] w Q) :
    ∀ (hh : List (Nat × Nat × Nat × Nat)) (hs : List (String × Nat × Nat)) (qs : List Nat) (pre : List String) (pe : List ExceptionTableEntry), hck k pc pre hh hs qs = true → hfind hs X = some (t0, n0) → c.exceptionTable.toList = pe ++ tableOf hh →
      (∀ z ∈ pe, z.catchType ≠ 0 ∧ ∃ nm ∈ pre, (Cond.classLink (mY k).cls z.catchType nm).before args s = true) → vx_W p l e R s m args below meth c H locs kc ks Z (F0 m pc lsA rest) q9
  | [], [], _, _, _, _, hf, _, _ => by simp [hfind] at hf
  | [], _ :: _, _, _, _, hk, _, _, _ => by simp [hck] at hk
  | _ :: _, [], _, _, _, hk, _, _, _ => by simp [hck] at hk
  | _ :: _, _ :: _, [], _, _, hk, _, _, _ => by simp [hck] at hk
  | (a, b, hp, ct) :: hh, (nm, t, n) :: hs, q :: qs, pre, pe, hk, hf, htab, hpe => by
    have C' := C
    obtain ⟨hx, hb, hr, hml, hown, hts, hlk', hmn, -⟩ := C
    simp only [hck, Bool.and_eq_true, decide_eq_true_eq, Bool.or_eq_true] at hk
    obtain ⟨⟨⟨⟨⟨⟨k1, k2⟩, k3⟩, k4⟩, k5⟩, k6⟩, k7⟩ := hk
    have hlink := hts _ (inW_gw k3)
    by_cases e9 : X = nm
    · subst e9
      have ht : (t, n) = (t0, n0) := by
        rw [hfind, if_pos rfl] at hf
        exact Option.some.inj hf
      cases ht
      refine vx_catch (E := X) hown pe ⟨a, b, hp, ct⟩ (tableOf hh) htab (fun z hz => Or.inr ?_) (covers_of k1) k2 hlink (va_Nw.use rfl (hE.2.2.2.2.1 _ k4)) hcell hv hcl ?_
      · obtain ⟨z1, nm', z2, z3⟩ := hpe z hz
        refine ⟨z1, nm', z3, hE.2.2.2.2.2.2.2.1 (X, nm') ?_⟩
        exact of_decide_eq_true (List.all_eq_true.mp k5 nm' z2)
      · rcases k6 with ⟨d1, d2⟩ | ⟨⟨d0, d1⟩, d2⟩
        · refine lv_astore hx hb d1 hL.1 (by rw [← hL.2]; exact hlt) rfl (fun ls' h' => ?_)
          have := hG _ _ _ _ _ _ hg hc H locs ls' hS hW (hL.stX hlk hlt h')
          rw [← d2] at this
          exact this
        · refine lv_astore_n hx hb d1 (by show n0 % 4 = n0; exact Nat.mod_eq_of_lt d0) hL.1 (by rw [← hL.2]; exact hlt) rfl (fun ls' h' => ?_)
          have := hG _ _ _ _ _ _ hg hc H locs ls' hS hW (hL.stX hlk hlt h')
          rw [← d2] at this
          exact this
    · refine st_catch C' hE hc hS hW hL hcell hv hcl hG hlk hlt hg hh hs qs (nm :: pre) (pe ++ [⟨a, b, hp, ct⟩]) k7 (by rw [hfind, if_neg e9] at hf; exact hf) (by rw [htab]; simp [tableOf]) (fun z hz => ?_)
      rcases List.mem_append.mp hz with hz | hz
      · obtain ⟨z1, nm', z2, z3⟩ := hpe z hz
        exact ⟨z1, nm', List.mem_cons_of_mem _ z2, z3⟩
      · rw [List.mem_singleton.mp hz]
        exact ⟨k2, nm, List.mem_cons_self, hlink⟩
end St4
