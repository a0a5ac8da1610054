section St6
variable {l : Launch} {γ : Nat → Nat} {D : va_G} {dA : Nat → ClassId} {B : Nat} {E : List AC}
variable {k : Nat} {p : Program} {e : Env} {s : State} {m : MethodId} {args : Array Value} {below : List Frame} {meth : Method} {c : Code}
/-- what a program decides of a call -/
def ckC (k pc : Nat) (ix : Nat) (d : List Nat) (op : Nat) : Prop := match d with
  | [k', na, ml, mc, ms, kd, ci, pl] => ckM k' ∧ ml = mL k' ∧ na ≤ mL k' ∧ mc = (mT k').2.2.1.1 ∧ ms = (mT k').2.2.1.2 ∧ (mRm k').frames + 1 ≤ (mRm k).frames ∧ 8 + (mL k' + 11) + (mRm k').locals ≤ (mRm k).locals ∧
      (((mT k).2.1 = [] ∧ mHH k = []) ∨ hck k pc [] (mHH k) (mT k).2.1 (mHPs.getD k []) = true) ∧
      ((op = 0 ∧ kd = 0 ∧ mHH k' = [] ∧ Cond.methodLink (mY k).cls ix (mY k') ∈ gw ∧ Cond.instanceMethod (mY k') ∈ gw ∧ Cond.selects (mY k').cls (mY k') (mY k') ∈ gw ∧ (ci < 7 ∨ ci = 100) ∧ xR ci = (mY k').cls ∧ 0 < na ∧ (parseMethodDescriptor (mY k').desc).map (fun d => d.parameters.length) = some (na - 1)) ∨
       (op = 1 ∧ kd = 1 ∧ mHH k' = [] ∧ Cond.methodLink (mY k).cls ix (mY k') ∈ gw ∧ Cond.static (mY k') ∈ gw ∧ (parseMethodDescriptor (mY k').desc).map (fun d => d.parameters.length) = some na) ∨
       (op = 1 ∧ kd = 2 ∧ mHH k' ≠ [] ∧ Cond.methodLink (mY k).cls ix (mY k') ∈ gw ∧ Cond.static (mY k') ∈ gw ∧ (parseMethodDescriptor (mY k').desc).map (fun d => d.parameters.length) = some na) ∨
       (op = 2 ∧ kd = 3 ∧ mHH k' = [] ∧ Cond.methodLink (mY k).cls ix (mY k') ∈ gw ∧ Cond.instanceMethod (mY k') ∈ gw ∧ (mY k').name = "<init>" ∧ (mT k').2.2.2 = none ∧ 0 < na ∧ (parseMethodDescriptor (mY k').desc).map (fun d => d.parameters.length) = some (na - 1)) ∨
       (op = 2 ∧ kd = 4 ∧ mHH k' = [] ∧ ((mY k).cls, ix, mY k') ∈ xNest ∧ Cond.instanceMethod (mY k') ∈ gw ∧ (mY k').name = "<init>" ∧ (mT k').2.2.2 = none ∧ 0 < na ∧ (parseMethodDescriptor (mY k').desc).map (fun d => d.parameters.length) = some (na - 1)))
  | _ => True
theorem codeW_nil {k : Nat} (h : mHH k = []) : codeW k = .code (mY k) (mB k) (mL k) (mT k).2.2.2 := by simp only [codeW, h]
theorem codeW_cons {k : Nat} (h : mHH k ≠ []) : codeW k = .codeWith (mY k) (mB k) (mL k) (mT k).2.2.2 (mHH k) := by
  unfold codeW
  cases hh : mHH k with
  | nil => exact absurd hh h
  | cons a t => rfl
theorem gwIn {k : Nat} (h : codeW k ∈ gw) : GoodIn gw (codeW k :: gw) := fun w hw => by
  rcases List.mem_cons.mp hw with rfl | hw
  · exact gw_good _ h
  · exact gw_good _ hw
theorem recvOf {w : AW} {H : Heap} {locs : List Loc} {ci a : Nat} {fs : List Value} (hE : Ext γ B E s s.heap) (hKK : va_K D kcl (tysOf dA) s) (hS : va_S (fun q => B ≤ q) s.heap H locs) (hW : WR γ D dA B E w H) (hc : w.1 a = some (.inr (ci, fs))) (hci : ci < 7 ∨ ci = 100) (hEo : ∀ (i ci : Nat) (fs : List Value), E[i]? = some (Sum.inr (ci, fs) : AC) → 100 ≤ ci) :
    ∃ cellB : Cell, H[γ a]? = some cellB ∧ cellB.vm.isStatics = false ∧ s.vm.findClass (xR ci) = some cellB.cls := by
  by_cases hk : k0 ≤ a
  · have hat := hW.own hk hc
    have h7 := own_ci hat
    obtain ⟨r, h1, cell, q1, q2, q3, q4⟩ := hat
    have hr : r = (xR ci, xF ci, xN ci) := Option.some.inj (h1.symm.trans (xK ci h7))
    subst hr
    exact ⟨cell, q1, by rw [q3]; rfl, by rw [q2]; exact (hKK.1 ci _ (xK ci h7)).2.1⟩
  · have hX := hW.ext hk hc hE
    have h100 := hEo a ci fs (by rw [← hW.2.1 a (Nat.not_le.mp hk)]; exact hc)
    have hci : ci = 100 := by omega
    subst hci
    obtain ⟨cell, q1, q2, q3, q4⟩ := (hX.2 (Or.inl rfl)).1
    exact ⟨cell, by rw [hS.2.1 _ (Array.getElem?_eq_some_iff.mp q1).1 q4]; exact q1, q2, q3⟩
/-- what comes behind a call, answer or throw -/
theorem st_after {pc kc ks mc ms : Nat} {ls st' : List Value} {G : AG} {Q : AQ} {K : Nat → Nat → List Value → List Value → AW → Prop} {H : Heap} {locs : List Loc} {lsA : Array Slot} {st0 : List Value} {a : Array Value}
    (C : Ctx k p s m args meth c) (hE : Ext γ B E s s.heap) (hS : va_S (fun q => B ≤ q) s.heap H locs) (hL : LH γ lsA (mL k) ls) (hc : kc + mc ≤ (mRm k).cells ∧ ks + ms ≤ (mRm k).slots)
    (hh : ((mT k).2.1 = [] ∧ mHH k = []) ∨ hck k pc [] (mHH k) (mT k).2.1 (mHPs.getD k []) = true)
    (hG : ∀ t kc ks ls st w, G k t kc ks ls st w Q → WJ l γ D dA B E k p e s m args below meth c (mRm k) (ZM γ D dA B E k below args s Q) (pcs k t) kc ks ls st w)
    (hK : ∀ kc ks ls st w, K kc ks ls st w → WJ l γ D dA B E k p e s m args below meth c (mRm k) (ZM γ D dA B E k below args s Q) (pc + 3) kc ks ls st w)
    (hr : vx_Run p l e (mRm k) s m args below meth c H locs kc ks mc ms (F0 m pc lsA st0) (st'.map (cv γ)) (QR γ D dA B E (aft G k (mT k).2.1 (kc + mc) (ks + ms) ls st' Q (fun st w => K (kc + mc) (ks + ms) ls st w)) a) (QX γ D dA B E (aft G k (mT k).2.1 (kc + mc) (ks + ms) ls st' Q (fun st w => K (kc + mc) (ks + ms) ls st w))) (fun q => B ≤ q)) :
    W p l e (mRm k) s m args below meth c H locs kc ks (ZM γ D dA B E k below args s Q) (F0 m pc lsA st0) := by
  refine x_call hr hS (fun X ce q9 w' H1 locs1 hq hW' hS' h1 h2 h3 => ?_) (fun v w' H1 locs1 hq hW' hS' => ?_)
  · obtain ⟨hx, hb, hr, hml, hown, hts, hlk, hmn, htab⟩ := id C
    rcases hh with ⟨e1, e2⟩ | hh
    · rw [e1] at hq
      have hq : Q (.inr X) w' := hq
      refine vx_out (E := X) (fun x hx9 => ?_) hlk h1 h2 h3 (fun t ht _ => ⟨w', hq, by rw [ht]; exact hW', hS'.F ht⟩) hS'.2.2 hc.1 hc.2
      rw [htab, e2] at hx9
      exact absurd hx9 List.not_mem_nil
    · cases hhs : (mT k).2.1 with
      | nil =>
        rw [hhs] at hh hq
        cases hhh : mHH k with
        | nil =>
          have hq : Q (.inr X) w' := hq
          refine vx_out (E := X) (fun x hx9 => ?_) hlk h1 h2 h3 (fun t ht _ => ⟨w', hq, by rw [ht]; exact hW', hS'.F ht⟩) hS'.2.2 hc.1 hc.2
          rw [htab, hhh] at hx9
          exact absurd hx9 List.not_mem_nil
        | cons z t => rw [hhh] at hh; simp [hck] at hh
      | cons z t =>
        rw [hhs] at hq
        simp only [aft] at hq
        cases hf : hfind (z :: t) X with
        | none => rw [hf] at hq; exact absurd hq (fun q => q)
        | some tn =>
          rw [hf] at hq
          obtain ⟨g1, g2, g3⟩ := hq
          exact st_catch C hE hc hS' hW' hL h1 h2 h3 hG g1 g2 g3 (mHH k) (mT k).2.1 (mHPs.getD k []) [] [] hh (by rw [hhs]; exact hf) (by rw [htab]; rfl) (fun z hz => absurd hz List.not_mem_nil)
  · cases v with
    | none =>
      have hq : K (kc + mc) (ks + ms) ls st' w' := hq
      exact hK _ _ _ _ _ hq hc _ _ _ hS' hW' hL
    | some v =>
      have hq : K (kc + mc) (ks + ms) ls (v :: st') w' := hq
      exact hK _ _ _ _ _ hq hc _ _ _ hS' hW' hL
theorem map_head {as : List Value} (h : ∃ a, as.head? = some (Value.ref a)) : ∃ a r, as = .ref a :: r := by
  obtain ⟨a, h⟩ := h
  cases as with
  | nil => cases h
  | cons x r => exact ⟨a, r, by rw [show x = .ref a from Option.some.inj h]⟩
theorem st_call {pc ix : Nat} {i : Instr} {op : Nat} {d : List Nat} {kc ks : Nat} {ls st : List Value} {w : AW} {Q : AQ} {K : Nat → Nat → List Value → List Value → AW → Prop}
    (C : Ctx k p s m args meth c) (hE : Ext γ B E s s.heap) (hKK : va_K D kcl (tysOf dA) s) (hEo : ∀ (i ci : Nat) (fs : List Value), E[i]? = some (Sum.inr (ci, fs) : AC) → 100 ≤ ci)
    (hi : (op = 0 ∧ i = .invokevirtual ix) ∨ (op = 1 ∧ i = .invokestatic ix) ∨ (op = 2 ∧ i = .invokespecial ix)) (hdg : decode (mB k) pc = .ok (i, 3)) (hd : ckC k pc ix d op) {k' na ml mc ms kd ci pl : Nat} (hde : d = [k', na, ml, mc, ms, kd, ci, pl])
    (hG : ∀ t kc ks ls st w, GM l γ D dA B E k t kc ks ls st w Q → WJ l γ D dA B E k p e s m args below meth c (mRm k) (ZM γ D dA B E k below args s Q) (pcs k t) kc ks ls st w)
    (hK : ∀ kc ks ls st w, K kc ks ls st w → WJ l γ D dA B E k p e s m args below meth c (mRm k) (ZM γ D dA B E k below args s Q) (pc + 3) kc ks ls st w)
    (h : isd (GM l γ D dA B E) k (mT k).2.1 Q K (match tkr na [] st with
      | some (as, st') => some (rcv w kd ci as ∧ cat1 as ∧ kc + mc ≤ (mT k).2.2.1.1 ∧ ks + ms ≤ (mT k).2.2.1.2 ∧ cats st' ≤ 8, [(True, .inr (.inr (.inr (k', padl as ml, w, kc + mc, ks + ms, ls, st'))))])
      | none => none)) : WJ l γ D dA B E k p e s m args below meth c (mRm k) (ZM γ D dA B E k below args s Q) pc kc ks ls st w := by
  intro hc H locs lsA hS hW hL
  subst hde
  cases htk : tkr na [] st with
  | none => rw [htk] at h; exact absurd h (fun q => q)
  | some q =>
    obtain ⟨as, st'⟩ := q
    rw [htk] at h
    obtain ⟨⟨hP1, hP2, hP3, hP4, hP5⟩, hg, -⟩ := h
    have hg := hg trivial
    obtain ⟨est, elen⟩ := tkr_spec _ _ _ _ _ htk
    simp only [List.reverse_nil, List.nil_append, List.length_nil, Nat.add_zero] at est elen
    obtain ⟨d1, rfl, d3, rfl, rfl, d6, d7, d8, d9⟩ := hd
    have hM := met_of (l := l) (k := k') (as := as) (w := w) d1 (by omega) hP2 hg
    have hC := C
    obtain ⟨hx, hb, hr, hml, hown, hts, hlk, hmn, htab⟩ := C
    have hfix : CallFix p m c (mB k) (mL k) s args gw (mY k).cls := ⟨hx, hb, hml, hown, hts⟩
    have hpre : ∀ U : State, U.heap = H → s.WarmedH U.vm → PcM γ D dA B E as w (as.map (cv γ)).toArray U := fun U hU hWm => ⟨rfl, hE.go hS hU hWm, va_K.moved hWm.alike hKK, by rw [hU]; exact hW⟩
    have hst : st.map (cv γ) = (as.map (cv γ)).reverse ++ st'.map (cv γ) := by rw [est, List.map_append, List.map_reverse]
    have hcat : 2 * (F0 m pc lsA (st.map (cv γ))).monitorRoom + ((st'.map (cv γ)).map fun v => v.category).sum ≤ 8 := by
      rw [cats_eq]
      show 2 * 0 + _ ≤ 8
      omega
    have hcl := d1.2.2.2
    rcases d9 with ⟨rfl, rfl, h1, h2, h3, h4, h5, h6, h7, h8⟩ | ⟨rfl, rfl, h1, h2, h3, h8⟩ | ⟨rfl, rfl, h1, h2, h3, h8⟩ | ⟨rfl, rfl, h1, h2, h3, h4, h5, h7, h8⟩ | ⟨rfl, rfl, h1, h2, h3, h4, h5, h7, h8⟩
    · rcases hi with ⟨-, rfl⟩ | ⟨q, -⟩ | ⟨q, -⟩ <;> first | (exact absurd q (by decide)) | skip
      have hrc : ∃ a r fs, as = .ref a :: r ∧ w.1 a = some (.inr (ci, fs)) := by
        unfold rcv at hP1
        match as, hP1 with
        | .ref a :: r, hP1 =>
          dsimp only at hP1
          cases hwa : w.1 a with
          | none => rw [hwa] at hP1; exact absurd hP1 (fun q => q)
          | some cx =>
            rw [hwa] at hP1
            match cx, hP1 with
            | .inr (c9, fs), hP1 => exact ⟨a, r, fs, rfl, by rw [hwa, show c9 = ci from hP1]⟩
      obtain ⟨a, r, fs, rfl, hwa⟩ := hrc
      have hrv := recvOf hE hKK hS hW hwa h5 hEo
      rw [h6] at hrv
      have cw : CallW (mRm k) s args (mY k).cls (mY k').cls ix (mY k') (mB k') (mL k') (mT k').2.2.2 (codeW k' :: gw) (mRm k') (mT k').2.2.1.1 (mT k').2.2.1.2 (na - 1) :=
        ⟨callB_of (na - 1) hts (gwIn d1.1) (ws' := gw) (by rw [codeW_nil h1]) rfl rfl (hts _ d1.2.1) (hts _ h2) ⟨hcl.1, hcl.2.1, h8⟩ ⟨d6, d7⟩, hts _ h3, hts _ h4⟩
      refine st_after hC hE hS hL ⟨hP3, hP4⟩ d8 hG hK (vx_runV (As := r.map (cv γ)) (rest := st'.map (cv γ)) hfix hM cw ⟨PcM.blind, hrv, hpre⟩ rfl (by rw [List.length_map]; simp at elen; omega) hL.size ?_ hcat hdg ⟨hP3, hP4⟩)
      rw [hst]
      simp [cv]
    · rcases hi with ⟨q, -⟩ | ⟨-, rfl⟩ | ⟨q, -⟩ <;> first | (exact absurd q (by decide)) | skip
      have cw : CallB (mRm k) s args (mY k).cls ix (mY k') (mB k') (mL k') (mT k').2.2.2 (codeW k' :: gw) (mRm k') (mT k').2.2.1.1 (mT k').2.2.1.2 na :=
        callB_of na hts (gwIn d1.1) (ws' := gw) (by rw [codeW_nil h1]) rfl rfl (hts _ d1.2.1) (hts _ h2) ⟨hcl.1, hcl.2.1, h8⟩ ⟨d6, d7⟩
      exact st_after hC hE hS hL ⟨hP3, hP4⟩ d8 hG hK (vx_runS (As := as.map (cv γ)) (rest := st'.map (cv γ)) hfix hM ⟨cw, hts _ h3⟩ ⟨PcM.blind, hpre⟩ rfl (by rw [List.length_map]; exact elen) hL.size hst hcat hdg ⟨hP3, hP4⟩)
    · rcases hi with ⟨q, -⟩ | ⟨-, rfl⟩ | ⟨q, -⟩ <;> first | (exact absurd q (by decide)) | skip
      have cw : vx_CSW (mRm k) s args (mY k).cls ix (mY k') (mB k') (mL k') (mT k').2.2.2 (mHH k') (codeW k' :: gw) (mRm k') (mT k').2.2.1.1 (mT k').2.2.1.2 na := by
        have hcw : Cond.codeWith (mY k') (mB k') (mL k') (mT k').2.2.2 (mHH k') ∈ gw := by rw [← codeW_cons h1]; exact d1.1
        refine ⟨⟨rfl, rfl, d6, d7, pay_in hts (gwIn d1.1), by rw [codeW_cons h1]; exact List.mem_cons_self⟩, hts _ hcw, hts _ d1.2.1, ⟨hcl.1, hcl.2.1⟩, fun sig hs => ?_, hts _ h2, hts _ h3⟩
        rw [hs] at h8
        exact (Option.some.inj h8).symm
      exact st_after hC hE hS hL ⟨hP3, hP4⟩ d8 hG hK (vx_runSX (As := as.map (cv γ)) (rest := st'.map (cv γ)) hfix hM cw ⟨PcM.blind, hpre⟩ rfl (by rw [List.length_map]; exact elen) hL.size hst hcat hdg ⟨hP3, hP4⟩)
    · rcases hi with ⟨q, -⟩ | ⟨q, -⟩ | ⟨-, rfl⟩ <;> first | (exact absurd q (by decide)) | skip
      obtain ⟨a, r, rfl⟩ := map_head hP1
      have cw : CallB (mRm k) s args (mY k).cls ix (mY k') (mB k') (mL k') none (codeW k' :: gw) (mRm k') (mT k').2.2.1.1 (mT k').2.2.1.2 (na - 1) :=
        callB_of (na - 1) hts (gwIn d1.1) (ws' := gw) (by rw [codeW_nil h1, h5]) rfl rfl (hts _ d1.2.1) (hts _ h2) ⟨hcl.1, hcl.2.1, h8⟩ ⟨d6, d7⟩
      refine st_after hC hE hS hL ⟨hP3, hP4⟩ d8 hG hK (vx_runI (As := r.map (cv γ)) (b := γ a) (rest := st'.map (cv γ)) hfix hM ⟨cw, h4, hts _ h3⟩ ⟨PcM.blind, hpre⟩ rfl (by rw [List.length_map]; simp at elen; omega) hL.size ?_ hcat hdg ⟨hP3, hP4⟩)
      rw [hst]
      simp [cv]
    · rcases hi with ⟨q, -⟩ | ⟨q, -⟩ | ⟨-, rfl⟩ <;> first | (exact absurd q (by decide)) | skip
      obtain ⟨a, r, rfl⟩ := map_head hP1
      have cw : va_CN (mRm k) s args (mY k).cls ix (mY k') "GlowwormGrid" (mB k') (mL k') none (codeW k' :: gw) (mRm k') (mT k').2.2.1.1 (mT k').2.2.1.2 (na - 1) :=
        va_cnB (na - 1) hts (gwIn d1.1) (ws' := gw) (by rw [codeW_nil h1, h5]) rfl rfl (hE.2.2.2.1 _ h2) (hts _ d1.2.1) ⟨hcl.1, hcl.2.1, h8⟩ ⟨d6, d7⟩
      refine st_after hC hE hS hL ⟨hP3, hP4⟩ d8 hG hK (vx_runIN (As := r.map (cv γ)) (b := γ a) (rest := st'.map (cv γ)) hfix hM ⟨cw, h4, hts _ h3⟩ ⟨PcM.blind, hpre⟩ rfl (by rw [List.length_map]; simp at elen; omega) hL.size ?_ hcat hdg ⟨hP3, hP4⟩)
      rw [hst]
      simp [cv]
end St6
