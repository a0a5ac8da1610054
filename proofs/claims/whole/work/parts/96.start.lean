section Start2
variable {s : State} {b L : Nat} {xs : Nat → Int32}
theorem getr {f : Nat → AC} {m i : Nat} {c : AC} (h : ((List.range m).map f)[i]? = some c) : i < m ∧ c = f i := by
  rw [List.getElem?_map] at h
  cases hr : (List.range m)[i]? with
  | none => rw [hr] at h; simp at h
  | some j =>
    rw [hr] at h
    have hi : i < m := by
      have := (List.getElem?_eq_some_iff.mp hr).1
      simpa using this
    have hj : j = i := by
      rw [List.getElem?_range hi] at hr
      exact (Option.some.inj hr).symm
    subst hj
    exact ⟨hi, (Option.some.inj h).symm⟩
theorem pick {α : Type} {P : Nat → α → Prop} (h : ∀ i, ∃ z, P i z) : ∃ z : Nat → α, ∀ i, P i (z i) := ⟨fun i => Classical.choose (h i), fun i => Classical.choose_spec (h i)⟩
set_option maxHeartbeats 1000000 in
/-- WHAT WAS THERE, at its addresses -/
theorem ext_start (hgv : (Jvm.Cond.and given_1 narrow_1).before #[Value.ref b] s = true) (hts : ∀ w ∈ lw_tbl, w.before #[Value.ref b] s = true) (hX : va_X b L xs s s.heap) (hbl : b < s.heap.size) :
    ∃ (γ : Nat → Nat) (vf : Value), (∀ i, k0 ≤ i → γ i = s.heap.size + (i - k0)) ∧ γ 0 = b ∧ vf.category = 1 ∧ Ext γ s.heap.size (E0 L xs vf) s s.heap := by
  have hq : ∀ c ∈ gN, c.before #[Value.ref b] s = true := flat_of_before _ hgv
  have h1 : ∀ c ∈ zC ++ kC ++ mC ++ (List.range 10).flatMap eC, c.before #[Value.ref b] s = true := fun c hc => hq c (subL_mem _ _ want1 c hc)
  have hz : ∀ c, c ∈ zC → c.before #[Value.ref b] s = true := fun c hc => h1 c (List.mem_append_left _ (List.mem_append_left _ (List.mem_append_left _ hc)))
  have hk : ∀ c, c ∈ kC → c.before #[Value.ref b] s = true := fun c hc => h1 c (List.mem_append_left _ (List.mem_append_left _ (List.mem_append_right _ hc)))
  have hm : ∀ c, c ∈ mC → c.before #[Value.ref b] s = true := fun c hc => h1 c (List.mem_append_left _ (List.mem_append_right _ hc))
  have he : ∀ i, i < 10 → ∀ c, c ∈ eC i → c.before #[Value.ref b] s = true := fun i hi c hc => h1 c (List.mem_append_right _ (List.mem_flatMap.mpr ⟨i, List.mem_range.mpr hi, hc⟩))
  have hn : ∀ c, c ∈ nC → c.before #[Value.ref b] s = true := fun c hc => hq c (subL_mem _ _ want2 c hc)
  have hs : ∀ q ∈ strsN, ∀ c, c ∈ sC q → c.before #[Value.ref b] s = true := fun q hq' c hc => hq c (subL_mem _ _ want3 c (List.mem_flatMap.mpr ⟨q, hq', hc⟩))
  have hqC : ∀ c, c ∈ qC → c.before #[Value.ref b] s = true := fun c hc => hq c (subL_mem _ _ want4 c hc)
  have hsi : ∀ i, i < 22 → sN i ∈ strsN ∧ (sN i).2.length < 2 ^ 31 := fun i hi => by
    have hmem : sN i ∈ strs := by
      unfold sN
      rw [List.getD_eq_getElem?_getD, List.getElem?_eq_getElem (show i < strs.length from hi)]
      exact List.getElem_mem _
    have := List.all_eq_true.mp strs_in _ hmem
    simp only [Bool.and_eq_true, decide_eq_true_eq] at this
    exact this
  obtain ⟨z, hzz⟩ := pick (P := fun i (z : Nat × Nat) => i < 22 → (sT (sN i)).eval #[Value.ref b] s none [] s = some (.ref z.1) ∧ va_O "java/lang/String" z.1 (aB s) s s.heap ∧ va_OF "java/lang/String" "coder" "B" (.int 0) z.1 (aB s) s s.heap ∧ va_OF "java/lang/String" "value" "[B" (.ref z.2) z.1 (aB s) s s.heap ∧ va_T .byte z.2 (sN i).2.length (fun j => .int (Int32.ofNat ((sN i).2.getD j 0))) (aB s) s s.heap)
    (fun i => by
      by_cases hi : i < 22
      · obtain ⟨z, h⟩ := e_str (hs _ (hsi i hi).1) (hsi i hi).2
        exact ⟨z, fun _ => h⟩
      · exact ⟨(0, 0), fun h => absurd h hi⟩)
  obtain ⟨aE, haE⟩ := pick (P := fun i (a : Nat) => i < 10 → (eT i).eval #[Value.ref b] s none [] s = some (.ref a) ∧ va_O eK a (aB s) s s.heap)
    (fun i => by
      by_cases hi : i < 10
      · obtain ⟨a, h⟩ := e_obj (he i hi (.exactly (eT i) eK) (by simp [eC]))
        exact ⟨a, fun _ => h⟩
      · exact ⟨0, fun h => absurd h hi⟩)
  obtain ⟨aM, hM1, hM2⟩ := va_Tof (f := fun j => .int (Int32.ofNat (swl.getD j 0))) (A := aB s) (N := 10) (by decide) (hm (.arrayOf mT0 .int) (by simp [mC])) (va_eqt (hm (.eq (.length mT0) (.int (Int32.ofNat 10))) (by simp [mC])))
    (fun j hj => va_eqt (hm (.eq (.elem mT0 (.int (Int32.ofNat j))) (.int (Int32.ofNat (swl.getD j 0)))) (List.mem_append_right _ (List.mem_map.mpr ⟨j, List.mem_range.mpr hj, rfl⟩)))) aB_no
  obtain ⟨aK, hK1, hK2⟩ := va_Tof (f := fun j => .ref (aE j)) (A := aB s) (N := 10) (by decide) (hk (.arrayOf kT0 (.object eK)) (by simp [kC])) (va_eqt (hk (.eq (.length kT0) (.int (Int32.ofNat 10))) (by simp [kC])))
    (fun j hj => va_eqv (hk (.eq (.elem kT0 (.int (Int32.ofNat j))) (eT j)) (List.mem_append_right _ (List.mem_map.mpr ⟨j, List.mem_range.mpr hj, rfl⟩))) (haE j hj).1) aB_no
  obtain ⟨v, hv1, hv2⟩ := Cond.isRef_spec (hz (.isRef (.static "jdk/internal/util/Preconditions" "SIOOBE_FORMATTER" "Ljava/util/function/BiFunction;")) (by simp [zC]))
  have hw : ∀ j, j < 4 → (Cond.laysStatic (xS j).1 (xS j).2.1 (xS j).2.2).before #[Value.ref b] s = true ∧ (Cond.initialized (xS j).1).before #[Value.ref b] s = true := fun j hj => by
    have := List.all_eq_true.mp st_in j (List.mem_range.mpr hj)
    simp only [zWs, List.all_cons, List.all_nil, Bool.and_eq_true, decide_eq_true_eq] at this
    exact ⟨hts _ this.1, hts _ this.2.1⟩
  obtain ⟨vf, aF, hvf, hvc⟩ : ∃ (vf : Value) (aF : Nat), (∀ γ : Nat → Nat, γ 58 = aF → cv γ vf = v) ∧ vf.category = 1 := by
    cases v with
    | null => exact ⟨.null, 0, fun γ _ => rfl, rfl⟩
    | ref q => exact ⟨.ref 58, q, fun γ h => by show Value.ref (γ 58) = _; rw [h], rfl⟩
    | _ => exact absurd hv2 Bool.false_ne_true
  refine ⟨γd b s.heap.size aM aK aF aE (fun i => (z i).1) (fun i => (z i).2), vf, γd_big, rfl, hvc, ?_, ?_, ?_, ?_, ?_, ?_, ?_, ?_, ?_, ?_⟩
  · intro i c hc
    have key : AllI (fun i c => XAt (γd b s.heap.size aM aK aF aE (fun i => (z i).1) (fun i => (z i).2)) (aB s) c (γd b s.heap.size aM aK aF aE (fun i => (z i).1) (fun i => (z i).2) i) s s.heap) 0 (E0 L xs vf) := by
      rw [E0_eq]
      refine AllI.app _ _ _ ⟨?_, ?_, ?_, ?_, trivial⟩ (AllI.app _ _ _ (AllI.of _ _ fun i c hc => ?_) (AllI.app _ _ _ (AllI.of _ _ fun i c hc => ?_) (AllI.app _ _ _ (AllI.of _ _ fun i c hc => ?_) ⟨?_, trivial⟩)))
      · obtain ⟨scr, h1, h2, h3, h4, h5⟩ := hX
        exact ⟨aB_no b hbl, scr, h1, h2, h3, ⟨Nat.le_of_eq h4.symm, by rw [h4] <;> rfl⟩, h5⟩
      · refine ⟨fun _ j v' hv' => ?_, fun e => by rcases e with e | e <;> exact absurd e (by decide)⟩
        match j, hv' with
        | 0, hv' => cases hv'; exact va_Zof (hw 0 (by decide)).1 (hw 0 (by decide)).2 hM1 aB_no
        | 1, hv' => cases hv'; exact va_Zof (hw 1 (by decide)).1 (hw 1 (by decide)).2 hK1 aB_no
        | 2, hv' => cases hv'; exact va_Zof (hw 2 (by decide)).1 (hw 2 (by decide)).2 (va_eqt (hz (.eq (.static "java/lang/String" "COMPACT_STRINGS" "Z") (.int 1)) (by simp [zC]))) aB_no
        | 3, hv' =>
          cases hv'
          rw [hvf _ rfl]
          exact va_Zof (hw 3 (by decide)).1 (hw 3 (by decide)).2 hv1 aB_no
        | j + 4, hv' => simp at hv'
      · exact xarr_of hM2 rfl fun j _ => rfl
      · refine xarr_of hK2 rfl fun j hj => ?_
        show Value.ref (aE j) = va_rf (Option.map _ (if j < 10 then some (4 + j) else none))
        rw [if_pos hj]
        show _ = Value.ref (γd _ _ _ _ _ _ _ _ (4 + j))
        rw [γd_e hj]
      · obtain ⟨hi, rfl⟩ := getr hc
        rw [show 0 + [Sum.inl (0, L, .inl xs), Sum.inr (102, [.ref 2, .ref 3, .int 1, vf]), Sum.inl (0, 10, .inl (tI swl)), (Sum.inl (5, 10, .inr (.inr (.inr (.inr (fun j => if j < 10 then some (4 + j) else none))))) : AC)].length + i = 4 + i from rfl, γd_e hi]
        refine ⟨fun e => absurd e (by decide), fun _ => ⟨(haE i hi).2, fun k v' hv' => ?_⟩⟩
        match k, hv' with
        | 0, hv' => cases hv'; exact vk_OFof (haE i hi).1 (va_eqt (he i hi (.eq (.field (eT i) "java/lang/Enum" "ordinal" "I") (.int (Int32.ofNat i))) (by simp [eC]))) aB_no
        | 1, hv' =>
          cases hv'
          show va_OF eK "form" "Ljava/lang/String;" (Value.ref (γd _ _ _ _ _ _ _ _ (16 + i))) _ _ _ _
          rw [show 16 + i = 14 + (2 + i) by omega, γd_s (by omega)]
          exact vk_OFof (haE i hi).1 (va_eqv (he i hi (.eq (.field (eT i) eK "form" "Ljava/lang/String;") (sT (strs.getD (2 + i) (("", 0), [])))) (by simp [eC])) (hzz (2 + i) (by omega)).1) aB_no
        | k + 2, hv' => simp at hv'
      · obtain ⟨hi, rfl⟩ := getr hc
        refine (fun {n : Nat} (hn9 : n = 14 + i) => ?_ : ∀ {n : Nat}, n = 14 + i → XAt _ _ _ (γd _ _ _ _ _ _ _ _ n) s s.heap) (by simp <;> omega)
        subst hn9
        rw [γd_s hi]
        refine ⟨fun e => absurd e (by decide), fun _ => ⟨(hzz i hi).2.1, fun k v' hv' => ?_⟩⟩
        match k, hv' with
        | 0, hv' =>
          cases hv'
          show va_OF "java/lang/String" "value" "[B" (Value.ref (γd _ _ _ _ _ _ _ _ (36 + i))) _ _ _ _
          rw [γd_v hi]
          exact (hzz i hi).2.2.2.1
        | 1, hv' => cases hv'; exact (hzz i hi).2.2.1
        | k + 2, hv' => simp at hv'
      · obtain ⟨hi, rfl⟩ := getr hc
        refine (fun {n : Nat} (hn9 : n = 36 + i) => ?_ : ∀ {n : Nat}, n = 36 + i → XAt _ _ _ (γd _ _ _ _ _ _ _ _ n) s s.heap) (by simp <;> omega)
        subst hn9
        rw [γd_v hi]
        exact xarr_of (hzz i hi).2.2.2.2 rfl fun j _ => rfl
      · exact ⟨fun e => absurd e (by decide), fun e => by rcases e with e | e <;> exact absurd e (by decide)⟩
    have := AllI.get _ _ _ _ key hc
    rwa [Nat.zero_add] at this
  · intro q hq'
    have := List.all_eq_true.mp ld_in q hq'
    simp only [ldOk, Bool.and_eq_true, Bool.or_eq_true, decide_eq_true_eq] at this
    obtain ⟨⟨h1, h2⟩, h3⟩ := this
    have hj : q.2.2.2 - 14 < 22 := by omega
    have e : γd b s.heap.size aM aK aF aE (fun i => (z i).1) (fun i => (z i).2) q.2.2.2 = (z (q.2.2.2 - 14)).1 := by
      have := γd_s (b := b) (B := s.heap.size) (aM := aM) (aK := aK) (aF := aF) (aE := aE) (aS := fun i => (z i).1) (aV := fun i => (z i).2) hj
      rwa [show 14 + (q.2.2.2 - 14) = q.2.2.2 by omega] at this
    rw [e]
    refine vk_R.of (hts _ h1) ?_
    rcases h3 with h3 | h3
    · have := (hzz _ hj).1
      unfold sT at this
      rw [← h3] at this
      exact this
    · exact va_eqv (hqC _ h3) (hzz _ hj).1
  · intro q hq'
    have := List.all_eq_true.mp ex_in q hq'
    simp only [Bool.and_eq_true, decide_eq_true_eq] at this
    obtain ⟨w, hw1, hw2⟩ := List.any_eq_true.mp this.2
    have hw2 := of_decide_eq_true hw2
    obtain ⟨a, ha, -⟩ := e_obj (hs w hw1 (.exactly (sT w) "java/lang/String") (by simp [sC]))
    refine ⟨a, vk_R.of (hts _ this.1) ?_⟩
    unfold sT at ha
    rw [hw2] at ha
    exact ha
  · have := tb_in
    simp only [Bool.and_eq_true] at this
    exact fun q hq' => va_Nw.of rfl (hts _ (of_decide_eq_true (List.all_eq_true.mp this.1.1.1 q hq')))
  · have := tb_in
    simp only [Bool.and_eq_true] at this
    exact fun q hq' => va_Nw.of rfl (hts _ (of_decide_eq_true (List.all_eq_true.mp this.1.1.2 q hq')))
  · have := tb_in
    simp only [Bool.and_eq_true] at this
    exact fun q hq' => va_Nw.of rfl (hts _ (of_decide_eq_true (List.all_eq_true.mp this.1.2 q hq')))
  · have := tb_in
    simp only [Bool.and_eq_true] at this
    exact va_AO.of (hts _ (of_decide_eq_true this.2))
  · exact fun q hq' => va_Nc.of (hn _ (List.mem_map.mpr ⟨q, hq', rfl⟩))
  · have := st_in2
    simp only [List.all_cons, List.all_nil, Bool.and_eq_true, decide_eq_true_eq] at this
    exact vx_Zqof (hts _ this.1) (hts _ this.2.2.1) (hz _ (by simp [zC])) aB_no
  · have := st_in2
    simp only [List.all_cons, List.all_nil, Bool.and_eq_true, decide_eq_true_eq] at this
    exact vx_Zqof (hts _ this.2.1) (hts _ this.2.2.1) (hz _ (by simp [zC])) aB_no
end Start2
