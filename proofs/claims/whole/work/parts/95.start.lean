/-! what the start gives: the strings, the constants, the arrays that were there -/
def sT (q : (String × Nat) × List Nat) : Term := .string q.1.1 q.1.2
def sV (q : (String × Nat) × List Nat) : Term := .field (sT q) "java/lang/String" "value" "[B"
def sC (q : (String × Nat) × List Nat) : List Cond := [.exactly (sT q) "java/lang/String", .eq (.field (sT q) "java/lang/String" "coder" "B") (.int 0), .arrayOf (sV q) .byte, .eq (.length (sV q)) (.int (Int32.ofNat q.2.length))] ++ (List.range q.2.length).map fun j => .eq (.elem (sV q) (.int (Int32.ofNat j))) (.int (Int32.ofNat (q.2.getD j 0)))
def gN : List Cond := flatC (Jvm.Cond.and given_1 narrow_1)
def strs : List ((String × Nat) × List Nat) := [(("GlowwormGrid$CommandText", 66), [43, 120, 111, 115]), (("GlowwormGrid$CommandText", 71), [110, 101, 115, 119]), (("GlowwormGrid$CommandKind", 58), [112, 114, 101, 115, 115, 32, 35, 32, 35]), (("GlowwormGrid$CommandKind", 64), [108, 105, 103, 104, 116, 32, 35, 32, 35]), (("GlowwormGrid$CommandKind", 67), [100, 97, 114, 107, 32, 35, 32, 35]), (("GlowwormGrid$CommandKind", 70), [103, 111, 97, 108, 32, 35, 32, 35]), (("GlowwormGrid$CommandKind", 73), [115, 105, 122, 101, 32, 35, 32, 35]), (("GlowwormGrid$CommandKind", 76), [112, 97, 116, 116, 101, 114, 110, 32, 64]), (("GlowwormGrid$CommandKind", 79), [119, 111, 114, 109, 32, 35, 32, 35, 32, 94]), (("GlowwormGrid$CommandKind", 82), [115, 116, 101, 112]), (("GlowwormGrid$CommandKind", 85), [115, 111, 108, 118, 101]), (("GlowwormGrid$CommandKind", 88), [99, 104, 97, 115, 101]), (("GlowwormGridModel", 188), [122, 101]), (("GlowwormGridModel", 197), [101, 112]), (("GlowwormGridModel", 199), [108, 118, 101]), (("GlowwormGridModel", 204), [105, 103, 104, 116]), (("GlowwormGridModel", 206), [97, 114, 107]), (("GlowwormGridModel", 208), [111, 97, 108]), (("GlowwormGridModel", 210), [111, 114, 109]), (("GlowwormGridModel", 215), [104, 97, 115, 101]), (("GlowwormGridModel", 217), [101, 115, 115]), (("GlowwormGridModel", 219), [97, 116, 116, 101, 114, 110, 32])]
/-- all strings, in their order -/
def strsN : List ((String × Nat) × List Nat) := [(("GlowwormGrid$Worms", 26), [110, 101, 115, 119]), (("GlowwormGrid", 60), [97, 32, 110, 117, 109, 98, 101, 114, 32, 105, 115, 32, 111, 117, 116, 32, 111, 102, 32, 114, 97, 110, 103, 101]), (("GlowwormGrid", 77), [43, 120, 111, 115]), (("GlowwormGrid", 85), [116, 104, 101, 114, 101, 32, 105, 115, 32, 110, 111, 32, 115, 117, 99, 104, 32, 112, 97, 116, 116, 101, 114, 110]), (("GlowwormGrid", 295), [116, 104, 101, 114, 101, 32, 105, 115, 32, 110, 111, 32, 115, 117, 99, 104, 32, 99, 101, 108, 108]), (("GlowwormGrid", 297), [116, 104, 101, 114, 101, 32, 105, 115, 32, 110, 111, 32, 115, 117, 99, 104, 32, 114, 111, 119]), (("GlowwormGrid", 135), [116, 104, 101, 114, 101, 32, 105, 115, 32, 110, 111, 32, 115, 117, 99, 104, 32, 99, 111, 108, 117, 109, 110]), (("GlowwormGrid", 304), [116, 104, 101, 114, 101, 32, 105, 115, 32, 110, 111, 32, 115, 111, 108, 117, 116, 105, 111, 110]), (("GlowwormGrid", 177), [116, 104, 101, 32, 112, 97, 116, 116, 101, 114, 110, 32, 105, 115, 32, 110, 111, 116, 32, 43]), (("GlowwormGrid", 183), [110, 101, 115, 119]), (("GlowwormGrid", 185), [116, 104, 101, 114, 101, 32, 105, 115, 32, 110, 111, 32, 115, 117, 99, 104, 32, 100, 105, 114, 101, 99, 116, 105, 111, 110]), (("GlowwormGrid", 199), [116, 104, 101, 114, 101, 32, 97, 114, 101, 32, 52, 32, 103, 108, 111, 119, 119, 111, 114, 109, 115, 44, 32, 111, 114, 32, 116, 104, 101, 114, 101, 32, 105, 115, 32, 111, 110, 101, 32, 105, 110, 32, 116, 104, 101, 32, 99, 101, 108, 108]), (("GlowwormGrid", 299), [116, 104, 101, 114, 101, 32, 105, 115, 32, 110, 111, 32, 115, 117, 99, 104, 32, 103, 108, 111, 119, 119, 111, 114, 109]), (("GlowwormGrid", 232), [116, 104, 101, 114, 101, 32, 105, 115, 32, 110, 111, 32, 103, 108, 111, 119, 119, 111, 114, 109, 32, 105, 110, 32, 116, 104, 101, 32, 99, 101, 108, 108]), (("GlowwormGrid", 244), [116, 104, 101, 114, 101, 32, 105, 115, 32, 110, 111, 32, 115, 117, 99, 104, 32, 99, 104, 97, 114, 97, 99, 116, 101, 114]), (("GlowwormGrid", 250), [116, 104, 101, 32, 99, 104, 97, 114, 97, 99, 116, 101, 114, 32, 105, 115, 32, 110, 111, 116, 32, 102, 114, 111, 109, 32, 51, 50, 32, 116, 111, 32, 49, 50, 54]), (("GlowwormGrid", 255), [116, 104, 101, 32, 98, 117, 102, 102, 101, 114, 32, 99, 111, 110, 116, 97, 105, 110, 115, 32, 54, 48, 32, 99, 104, 97, 114, 97, 99, 116, 101, 114, 115]), (("GlowwormGrid$CommandText", 66), [43, 120, 111, 115]), (("GlowwormGrid$CommandText", 71), [110, 101, 115, 119]), (("GlowwormGrid", 263), [116, 104, 101, 32, 116, 101, 120, 116, 32, 105, 115, 32, 109, 97, 108, 102, 111, 114, 109, 101, 100]), (("GlowwormGrid", 274), [97, 32, 99, 111, 109, 109, 97, 110, 100, 32, 102, 97, 105, 108, 101, 100]), (("GlowwormGrid", 276), [110, 111, 32, 116, 101, 120, 116, 32, 119, 97, 115, 32, 109, 97, 108, 102, 111, 114, 109, 101, 100, 32, 115, 111, 32, 102, 97, 114]), (("GlowwormGrid", 278), [110, 111, 32, 99, 111, 109, 109, 97, 110, 100, 32, 102, 97, 105, 108, 101, 100, 32, 115, 111, 32, 102, 97, 114]), (("GlowwormGrid", 281), [116, 104, 101, 114, 101, 32, 105, 115, 32, 110, 111, 32, 109, 111, 100, 105, 102, 105, 99, 97, 116, 105, 111, 110, 32, 116, 111, 32, 117, 110, 100, 111]), (("GlowwormGrid", 290), [116, 104, 101, 114, 101, 32, 105, 115, 32, 110, 111, 32, 115, 110, 97, 112, 115, 104, 111, 116]), (("GlowwormGridModel", 188), [122, 101]), (("GlowwormGridModel", 197), [101, 112]), (("GlowwormGridModel", 199), [108, 118, 101]), (("GlowwormGridModel", 204), [105, 103, 104, 116]), (("GlowwormGridModel", 206), [97, 114, 107]), (("GlowwormGridModel", 208), [111, 97, 108]), (("GlowwormGridModel", 210), [111, 114, 109]), (("GlowwormGridModel", 215), [104, 97, 115, 101]), (("GlowwormGridModel", 217), [101, 115, 115]), (("GlowwormGridModel", 219), [97, 116, 116, 101, 114, 110, 32]), (("GlowwormGrid$CommandKind", 58), [112, 114, 101, 115, 115, 32, 35, 32, 35]), (("GlowwormGrid$CommandKind", 64), [108, 105, 103, 104, 116, 32, 35, 32, 35]), (("GlowwormGrid$CommandKind", 67), [100, 97, 114, 107, 32, 35, 32, 35]), (("GlowwormGrid$CommandKind", 70), [103, 111, 97, 108, 32, 35, 32, 35]), (("GlowwormGrid$CommandKind", 73), [115, 105, 122, 101, 32, 35, 32, 35]), (("GlowwormGrid$CommandKind", 76), [112, 97, 116, 116, 101, 114, 110, 32, 64]), (("GlowwormGrid$CommandKind", 79), [119, 111, 114, 109, 32, 35, 32, 35, 32, 94]), (("GlowwormGrid$CommandKind", 82), [115, 116, 101, 112]), (("GlowwormGrid$CommandKind", 85), [115, 111, 108, 118, 101]), (("GlowwormGrid$CommandKind", 88), [99, 104, 97, 115, 101])]
def ens : List String := ["PRESS", "LIGHT", "DARK", "GOAL", "SIZE", "PATTERN", "WORM", "STEP", "SOLVE", "CHASE"]
def eK : String := "GlowwormGrid$CommandKind"
def eT (i : Nat) : Term := .static eK (ens.getD i "") "LGlowwormGrid$CommandKind;"
def eC (i : Nat) : List Cond := [.exactly (eT i) eK, .eq (.field (eT i) "java/lang/Enum" "ordinal" "I") (.int (Int32.ofNat i)), .eq (.field (eT i) eK "form" "Ljava/lang/String;") (sT (strs.getD (2 + i) (("", 0), [])))]
def mT0 : Term := .static "GlowwormGrid$1" "$SwitchMap$GlowwormGrid$CommandKind" "[I"
def swl : List Nat := [6, 7, 8, 9, 5, 1, 0, 2, 3, 4]
def mC : List Cond := [Cond.arrayOf mT0 .int, Cond.eq (.length mT0) (.int (Int32.ofNat 10))] ++ (List.range 10).map (fun j => Cond.eq (.elem mT0 (.int (Int32.ofNat j))) (.int (Int32.ofNat (swl.getD j 0))))
def kT0 : Term := .static "GlowwormGrid$CommandText" "KINDS" "[LGlowwormGrid$CommandKind;"
def kC : List Cond := [Cond.arrayOf kT0 (.object eK), Cond.eq (.length kT0) (.int (Int32.ofNat 10))] ++ (List.range 10).map (fun j => Cond.eq (.elem kT0 (.int (Int32.ofNat j))) (eT j))
def zC : List Cond := [Cond.eq (.static "java/lang/String" "COMPACT_STRINGS" "Z") (.int 1), Cond.isRef (.static "jdk/internal/util/Preconditions" "SIOOBE_FORMATTER" "Ljava/util/function/BiFunction;"), Cond.isRef (.static Bundle.tN "UNASSIGNED_STACK" Bundle.steD), Cond.isRef (.static Bundle.tN "SUPPRESSED_SENTINEL" Bundle.listD)]
def nC : List Cond := xNc.map fun q => Cond.not (.castable q.1 q.2)
def qC : List Cond := [Cond.eq (.string "GlowwormGrid$Worms" 26) (.string "GlowwormGrid" 183), Cond.eq (.string "GlowwormGrid" 77) (.string "GlowwormGrid$CommandText" 66), Cond.eq (.string "GlowwormGrid$Worms" 26) (.string "GlowwormGrid$CommandText" 71), Cond.eq (.string "GlowwormGrid" 183) (.string "GlowwormGrid$CommandText" 71)]
/-- in order: a sublist -/
def subL : List Cond → List Cond → Bool
  | [], _ => true
  | _ :: _, [] => false
  | c :: cs, n :: ns => if c = n then subL cs ns else subL (c :: cs) ns
theorem subL_mem : ∀ (a b : List Cond), subL a b = true → ∀ c ∈ a, c ∈ b
  | [], _, _, c, hc => absurd hc List.not_mem_nil
  | _ :: _, [], h, _, _ => by cases h
  | x :: cs, n :: ns, h, c, hc => by
    unfold subL at h
    by_cases e : x = n
    · rw [if_pos e] at h
      rcases List.mem_cons.mp hc with rfl | hc
      · rw [e]; exact List.mem_cons_self
      · exact List.mem_cons_of_mem _ (subL_mem cs ns h c hc)
    · rw [if_neg e] at h
      exact List.mem_cons_of_mem _ (subL_mem (x :: cs) ns h c hc)
theorem want1 : subL (zC ++ kC ++ mC ++ (List.range 10).flatMap eC) gN = true := by decide +kernel
theorem want2 : subL nC gN = true := by decide +kernel
theorem want3 : subL (strsN.flatMap sC) gN = true := by decide +kernel
theorem want4 : subL qC gN = true := by decide +kernel
/-- loads: the same text is the same string -/
def sN (i : Nat) : (String × Nat) × List Nat := strs.getD i (("", 0), [])
def ldOk (q : String × Nat × String × Nat) : Bool := decide (Cond.stringRef q.1 q.2.1 q.2.2.1 ∈ lw_tbl) && decide (14 ≤ q.2.2.2 ∧ q.2.2.2 < 36) && (decide ((q.1, q.2.1) = (sN (q.2.2.2 - 14)).1) || decide (Cond.eq (.string q.1 q.2.1) (sT (sN (q.2.2.2 - 14))) ∈ qC))
theorem ld_in : xLd.all ldOk = true := by decide +kernel
theorem ex_in : (xEx.all fun q => decide (Cond.stringRef q.1 q.2.1 q.2.2 ∈ lw_tbl) && strsN.any fun z => decide (z.1 = (q.1, q.2.1))) = true := by decide +kernel
theorem tb_in : ((xNest.all fun q => decide (Cond.methodLinkNest q.1 q.2.1 q.2.2 "GlowwormGrid" ∈ lw_tbl)) && (xCast.all fun q => decide (Cond.castable q.1 q.2 ∈ lw_tbl)) && (xDecl.all fun y => decide (Cond.declares y ∈ lw_tbl)) && decide (Cond.arrayOver (.object "GlowwormGrid$Board") ∈ lw_tbl)) = true := by decide +kernel
def zWs (j : Nat) : List Cond := [.laysStatic (xS j).1 (xS j).2.1 (xS j).2.2, .initialized (xS j).1]
theorem st_in : ((List.range 4).all fun j => (zWs j).all fun c => decide (c ∈ lw_tbl)) = true := by decide +kernel
theorem st_in2 : ([Cond.laysStatic Bundle.tN "UNASSIGNED_STACK" Bundle.steD, Cond.laysStatic Bundle.tN "SUPPRESSED_SENTINEL" Bundle.listD, Cond.initialized Bundle.tN].all fun c => decide (c ∈ lw_tbl)) = true := by decide +kernel
theorem ar_in : ([FieldType.int, FieldType.char, FieldType.long].all fun t => decide (Cond.arrayClass t ∈ lw_tbl)) = true := by decide +kernel
theorem in_ok : ((List.range 7).all fun ci => decide (Cond.instantiable (xR ci) (xN ci) ∈ lw_tbl)) = true := by decide +kernel
theorem strs_in : (strs.all fun q => decide (q ∈ strsN) && decide (q.2.length < 2 ^ 31)) = true := by decide +kernel
section Start
variable {s : State} {b L : Nat} {xs : Nat → Int32}
abbrev aB (s : State) : Nat → Prop := fun q => s.heap.size ≤ q
theorem aB_no {s : State} : ∀ a : Nat, a < s.heap.size → ¬ aB s a := fun a h => Nat.not_le.mpr h
theorem e_obj {tm : Term} {cls : String} (h : (Cond.exactly tm cls).before #[Value.ref b] s = true) : ∃ a : Nat, tm.eval #[Value.ref b] s none [] s = some (.ref a) ∧ va_O cls a (aB s) s s.heap := by
  obtain ⟨a, c, cA, kA, q1, q2, q3, q4, q5, q6, -⟩ := Cond.exactly_spec (args := #[Value.ref b]) (first := s) (o := none) (s := s) (idx := []) (t := tm) (cls := cls) h
  exact ⟨a, q1, cA, q3, q5, by rw [q6]; exact q2, aB_no a (Array.getElem?_eq_some_iff.mp q3).1⟩
theorem e_str {q : (String × Nat) × List Nat} (h : ∀ c ∈ sC q, c.before #[Value.ref b] s = true) (hl : q.2.length < 2 ^ 31) : ∃ z : Nat × Nat, (sT q).eval #[Value.ref b] s none [] s = some (.ref z.1) ∧ va_O "java/lang/String" z.1 (aB s) s s.heap ∧ va_OF "java/lang/String" "coder" "B" (.int 0) z.1 (aB s) s s.heap ∧ va_OF "java/lang/String" "value" "[B" (.ref z.2) z.1 (aB s) s s.heap ∧ va_T .byte z.2 q.2.length (fun j => .int (Int32.ofNat (q.2.getD j 0))) (aB s) s s.heap := by
  have hm : ∀ c, c ∈ sC q → c.before #[Value.ref b] s = true := h
  obtain ⟨a, q1, q2⟩ := e_obj (hm (.exactly (sT q) "java/lang/String") (by simp [sC]))
  obtain ⟨t, ht, hT⟩ := va_Tof (f := fun j => .int (Int32.ofNat (q.2.getD j 0))) (A := aB s) hl (hm (.arrayOf (sV q) .byte) (by simp [sC])) (va_eqt (hm (.eq (.length (sV q)) (.int (Int32.ofNat q.2.length))) (by simp [sC])))
    (fun j hj => va_eqt (hm (.eq (.elem (sV q) (.int (Int32.ofNat j))) (.int (Int32.ofNat (q.2.getD j 0)))) (List.mem_append_right _ (List.mem_map.mpr ⟨j, List.mem_range.mpr hj, rfl⟩)))) aB_no
  exact ⟨(a, t), q1, q2, vk_OFof q1 (va_eqt (hm (.eq (.field (sT q) "java/lang/String" "coder" "B") (.int 0)) (by simp [sC]))) aB_no, vk_OFof q1 ht aB_no, hT⟩
theorem xarr_of {γ : Nat → Nat} {t n a : Nat} {ty : FieldType} {ct : (Nat → Int32) ⊕ (Nat → Int64) ⊕ (Nat → UInt32) ⊕ (Nat → UInt64) ⊕ (Nat → Option Nat)} {f : Nat → Value} (hT : va_T ty a n f (aB s) s s.heap) (hty : aty t = ty) (hf : ∀ j, j < n → f j = cnt γ ct j) : ¬ aB s a ∧ XArr γ t n ct a s s.heap := by
  obtain ⟨cell, h1, h2, h3, h4, h5, h6, h7⟩ := hT
  exact ⟨h7, cell, h1, by rw [hty]; exact h2, h3, ⟨h4, h5⟩, fun j hj => by rw [h6 j hj, hf j hj]⟩
/-- the addresses -/
def γd (b B aM aK aF : Nat) (aE aS aV : Nat → Nat) (i : Nat) : Nat := if k0 ≤ i then B + (i - k0) else if i = 0 then b else if i = 2 then aM else if i = 3 then aK else if i = 58 then aF else if i < 14 then aE (i - 4) else if i < 36 then aS (i - 14) else aV (i - 36)
theorem γd_big {b B aM aK aF : Nat} {aE aS aV : Nat → Nat} : ∀ i, k0 ≤ i → γd b B aM aK aF aE aS aV i = B + (i - k0) := fun i h => by unfold γd; rw [if_pos h]
theorem γd_e {b B aM aK aF : Nat} {aE aS aV : Nat → Nat} {j : Nat} (h : j < 10) : γd b B aM aK aF aE aS aV (4 + j) = aE j := by
  unfold γd; rw [if_neg (by unfold k0; omega), if_neg (by omega), if_neg (by omega), if_neg (by omega), if_neg (by omega), if_pos (by omega), Nat.add_sub_cancel_left]
theorem γd_s {b B aM aK aF : Nat} {aE aS aV : Nat → Nat} {j : Nat} (h : j < 22) : γd b B aM aK aF aE aS aV (14 + j) = aS j := by
  unfold γd; rw [if_neg (by unfold k0; omega), if_neg (by omega), if_neg (by omega), if_neg (by omega), if_neg (by omega), if_neg (by omega), if_pos (by omega), Nat.add_sub_cancel_left]
theorem γd_v {b B aM aK aF : Nat} {aE aS aV : Nat → Nat} {j : Nat} (h : j < 22) : γd b B aM aK aF aE aS aV (36 + j) = aV j := by
  unfold γd; rw [if_neg (by unfold k0; omega), if_neg (by omega), if_neg (by omega), if_neg (by omega), if_neg (by omega), if_neg (by omega), if_neg (by omega), Nat.add_sub_cancel_left]
def AllI (P : Nat → AC → Prop) : Nat → List AC → Prop
  | _, [] => True
  | n, c :: l => P n c ∧ AllI P (n + 1) l
theorem AllI.get {P : Nat → AC → Prop} : ∀ (l : List AC) (n i : Nat) (c : AC), AllI P n l → l[i]? = some c → P (n + i) c
  | [], _, _, _, _, h => by simp at h
  | x :: l, n, 0, c, h, e => by
    simp at e
    subst e
    exact h.1
  | x :: l, n, i + 1, c, h, e => by
    have := AllI.get l (n + 1) i c h.2 (by simpa using e)
    rw [show n + (i + 1) = n + 1 + i by omega]
    exact this
theorem AllI.app {P : Nat → AC → Prop} : ∀ (a c : List AC) (n : Nat), AllI P n a → AllI P (n + a.length) c → AllI P n (a ++ c)
  | [], c, n, _, h => h
  | x :: a, c, n, h, g => ⟨h.1, AllI.app a c (n + 1) h.2 (by rw [show n + 1 + a.length = n + (x :: a).length by simp; omega]; exact g)⟩
theorem AllI.of {P : Nat → AC → Prop} : ∀ (l : List AC) (n : Nat), (∀ i c, l[i]? = some c → P (n + i) c) → AllI P n l
  | [], _, _ => trivial
  | x :: l, n, h => ⟨h 0 x rfl, AllI.of l (n + 1) fun i c e => by rw [show n + 1 + i = n + (i + 1) by omega]; exact h (i + 1) c (by simpa using e)⟩
theorem E0_eq (Ln : Nat) (xs : Nat → Int32) (vf : Value) : E0 Ln xs vf = [Sum.inl (0, Ln, .inl xs), Sum.inr (102, [.ref 2, .ref 3, .int 1, vf]), Sum.inl (0, 10, .inl (tI swl)), Sum.inl (5, 10, .inr (.inr (.inr (.inr (fun j => if j < 10 then some (4 + j) else none)))))] ++ ((List.range 10).map (fun j => (Sum.inr (101, [.int (Int32.ofNat j), .ref (16 + j)]) : AC)) ++ ((List.range 22).map (fun j => (Sum.inr (100, [.ref (36 + j), .int 0]) : AC)) ++ ((List.range 22).map (fun j => (Sum.inl (4, (sN j).2.length, .inl (tI (sN j).2)) : AC)) ++ [Sum.inr (103, [])]))) := by rfl
theorem E0_ci (Ln : Nat) (xs : Nat → Int32) (vf : Value) : ∀ (i ci : Nat) (fs : List Value), (E0 Ln xs vf)[i]? = some (Sum.inr (ci, fs) : AC) → 100 ≤ ci := by
  intro i ci fs h
  have key : AllI (fun _ c => match c with
    | Sum.inr (ci, _) => 100 ≤ ci
    | _ => True) 0 (E0 Ln xs vf) := by
    unfold E0
    repeat' (first | exact trivial | (refine ⟨?_, ?_⟩) | (show 100 ≤ _; decide))
  have := AllI.get _ _ _ _ key h
  exact this
end Start
