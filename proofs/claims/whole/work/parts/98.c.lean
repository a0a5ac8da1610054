/-! THE WORLD BEHIND THE CONSTRUCTORS, as a function of two heaps of ints: C (the system's cells, 59..123) and G (the model's, 124..134); b holds the script, the formatter, the out row, the seal. -/
abbrev HP : Type := Nat → Nat → Int32
abbrev WB : Type := Nat × (Nat → Int32) × Value × (Nat → Int64) × Bool
def us (C : HP) (a : Nat) (f : Nat → Int32) : HP := fun i => if i = a then f else C i
theorem us_app {C : HP} {a i : Nat} {f : Nat → Int32} : us C a f i = if i = a then f else C i := rfl
theorem us_same {C : HP} {a : Nat} {f : Nat → Int32} : us C a f a = f := if_pos rfl
theorem us_ne {C : HP} {a i : Nat} {f : Nat → Int32} (h : ¬ i = a) : us C a f i = C i := if_neg h
theorem us_us {C : HP} {a : Nat} {f g : Nat → Int32} : us (us C a f) a g = us C a g := by
  funext i; unfold us; by_cases h : i = a <;> simp [h]
theorem us_id {C : HP} {a : Nat} : us C a (C a) = C := by
  funext i; unfold us; by_cases h : i = a <;> simp [h]
theorem upd_app {f : Nat → Int32} {k j : Nat} {x : Int32} : upd f k x j = if j = k then x else f j := rfl
def F59 (f : Nat → Int32) : List Value := [.ref 60, .ref 65, .ref 70, .int (f 3), .ref 75, .ref 117, .ref 121, .int (f 7), .int (f 8), .ref 123, .int (f 10)]
theorem F59_len {f : Nat → Int32} : (F59 f).length = 11 := rfl
theorem F59_0 {f : Nat → Int32} : (F59 f)[0]? = some (.ref 60) := rfl
theorem F59_1 {f : Nat → Int32} : (F59 f)[1]? = some (.ref 65) := rfl
theorem F59_2 {f : Nat → Int32} : (F59 f)[2]? = some (.ref 70) := rfl
theorem F59_3 {f : Nat → Int32} : (F59 f)[3]? = some (.int (f 3)) := rfl
theorem F59_4 {f : Nat → Int32} : (F59 f)[4]? = some (.ref 75) := rfl
theorem F59_5 {f : Nat → Int32} : (F59 f)[5]? = some (.ref 117) := rfl
theorem F59_6 {f : Nat → Int32} : (F59 f)[6]? = some (.ref 121) := rfl
theorem F59_7 {f : Nat → Int32} : (F59 f)[7]? = some (.int (f 7)) := rfl
theorem F59_8 {f : Nat → Int32} : (F59 f)[8]? = some (.int (f 8)) := rfl
theorem F59_9 {f : Nat → Int32} : (F59 f)[9]? = some (.ref 123) := rfl
theorem F59_10 {f : Nat → Int32} : (F59 f)[10]? = some (.int (f 10)) := rfl
def F75 (f : Nat → Int32) : List Value := [.ref 76, .int (f 1), .int (f 2)]
theorem F75_len {f : Nat → Int32} : (F75 f).length = 3 := rfl
theorem F75_0 {f : Nat → Int32} : (F75 f)[0]? = some (.ref 76) := rfl
theorem F75_1 {f : Nat → Int32} : (F75 f)[1]? = some (.int (f 1)) := rfl
theorem F75_2 {f : Nat → Int32} : (F75 f)[2]? = some (.int (f 2)) := rfl
def F117 (f : Nat → Int32) : List Value := [.ref 118, .ref 119, .int (f 2), .ref 120, .int (f 4)]
theorem F117_len {f : Nat → Int32} : (F117 f).length = 5 := rfl
theorem F117_0 {f : Nat → Int32} : (F117 f)[0]? = some (.ref 118) := rfl
theorem F117_1 {f : Nat → Int32} : (F117 f)[1]? = some (.ref 119) := rfl
theorem F117_2 {f : Nat → Int32} : (F117 f)[2]? = some (.int (f 2)) := rfl
theorem F117_3 {f : Nat → Int32} : (F117 f)[3]? = some (.ref 120) := rfl
theorem F117_4 {f : Nat → Int32} : (F117 f)[4]? = some (.int (f 4)) := rfl
def F121 (f : Nat → Int32) : List Value := [.ref 122, .int (f 1)]
theorem F121_len {f : Nat → Int32} : (F121 f).length = 2 := rfl
theorem F121_0 {f : Nat → Int32} : (F121 f)[0]? = some (.ref 122) := rfl
theorem F121_1 {f : Nat → Int32} : (F121 f)[1]? = some (.int (f 1)) := rfl
def F124 (f : Nat → Int32) : List Value := [.ref 125, .ref 126, .ref 127, .ref 128, .int (f 4), .int (f 5), .int (f 6), .int (f 7), .ref 129, .int (f 9), .int (f 10), .int (f 11), .ref 130, .int (f 13), .ref 131, .ref 132, .ref 133, .int (f 17), .int (f 18), .int (f 19), .int (f 20), .ref 134, .int (f 22)]
theorem F124_len {f : Nat → Int32} : (F124 f).length = 23 := rfl
theorem F124_0 {f : Nat → Int32} : (F124 f)[0]? = some (.ref 125) := rfl
theorem F124_1 {f : Nat → Int32} : (F124 f)[1]? = some (.ref 126) := rfl
theorem F124_2 {f : Nat → Int32} : (F124 f)[2]? = some (.ref 127) := rfl
theorem F124_3 {f : Nat → Int32} : (F124 f)[3]? = some (.ref 128) := rfl
theorem F124_4 {f : Nat → Int32} : (F124 f)[4]? = some (.int (f 4)) := rfl
theorem F124_5 {f : Nat → Int32} : (F124 f)[5]? = some (.int (f 5)) := rfl
theorem F124_6 {f : Nat → Int32} : (F124 f)[6]? = some (.int (f 6)) := rfl
theorem F124_7 {f : Nat → Int32} : (F124 f)[7]? = some (.int (f 7)) := rfl
theorem F124_8 {f : Nat → Int32} : (F124 f)[8]? = some (.ref 129) := rfl
theorem F124_9 {f : Nat → Int32} : (F124 f)[9]? = some (.int (f 9)) := rfl
theorem F124_10 {f : Nat → Int32} : (F124 f)[10]? = some (.int (f 10)) := rfl
theorem F124_11 {f : Nat → Int32} : (F124 f)[11]? = some (.int (f 11)) := rfl
theorem F124_12 {f : Nat → Int32} : (F124 f)[12]? = some (.ref 130) := rfl
theorem F124_13 {f : Nat → Int32} : (F124 f)[13]? = some (.int (f 13)) := rfl
theorem F124_14 {f : Nat → Int32} : (F124 f)[14]? = some (.ref 131) := rfl
theorem F124_15 {f : Nat → Int32} : (F124 f)[15]? = some (.ref 132) := rfl
theorem F124_16 {f : Nat → Int32} : (F124 f)[16]? = some (.ref 133) := rfl
theorem F124_17 {f : Nat → Int32} : (F124 f)[17]? = some (.int (f 17)) := rfl
theorem F124_18 {f : Nat → Int32} : (F124 f)[18]? = some (.int (f 18)) := rfl
theorem F124_19 {f : Nat → Int32} : (F124 f)[19]? = some (.int (f 19)) := rfl
theorem F124_20 {f : Nat → Int32} : (F124 f)[20]? = some (.int (f 20)) := rfl
theorem F124_21 {f : Nat → Int32} : (F124 f)[21]? = some (.ref 134) := rfl
theorem F124_22 {f : Nat → Int32} : (F124 f)[22]? = some (.int (f 22)) := rfl
def FB (f : Nat → Int32) (b : Nat) : List Value := [.int (f 0), .int (f 1), .int (f 2), .int (f 3), .int (f 4), .int (f 5), .int (f 6), .int (f 7), .ref (b + 1), .ref (b + 2)]
theorem FB_len {f : Nat → Int32} {b : Nat} : (FB f b).length = 10 := rfl
theorem FB_0 {f : Nat → Int32} {b : Nat} : (FB f b)[0]? = some (.int (f 0)) := rfl
theorem FB_1 {f : Nat → Int32} {b : Nat} : (FB f b)[1]? = some (.int (f 1)) := rfl
theorem FB_2 {f : Nat → Int32} {b : Nat} : (FB f b)[2]? = some (.int (f 2)) := rfl
theorem FB_3 {f : Nat → Int32} {b : Nat} : (FB f b)[3]? = some (.int (f 3)) := rfl
theorem FB_4 {f : Nat → Int32} {b : Nat} : (FB f b)[4]? = some (.int (f 4)) := rfl
theorem FB_5 {f : Nat → Int32} {b : Nat} : (FB f b)[5]? = some (.int (f 5)) := rfl
theorem FB_6 {f : Nat → Int32} {b : Nat} : (FB f b)[6]? = some (.int (f 6)) := rfl
theorem FB_7 {f : Nat → Int32} {b : Nat} : (FB f b)[7]? = some (.int (f 7)) := rfl
theorem FB_8 {f : Nat → Int32} {b : Nat} : (FB f b)[8]? = some (.ref (b + 1)) := rfl
theorem FB_9 {f : Nat → Int32} {b : Nat} : (FB f b)[9]? = some (.ref (b + 2)) := rfl
def FW (f : Nat → Int32) (b : Nat) : List Value := [.int (f 0), .ref (b + 3), .ref (b + 4)]
theorem FW_len {f : Nat → Int32} {b : Nat} : (FW f b).length = 3 := rfl
theorem FW_0 {f : Nat → Int32} {b : Nat} : (FW f b)[0]? = some (.int (f 0)) := rfl
theorem FW_1 {f : Nat → Int32} {b : Nat} : (FW f b)[1]? = some (.ref (b + 3)) := rfl
theorem FW_2 {f : Nat → Int32} {b : Nat} : (FW f b)[2]? = some (.ref (b + 4)) := rfl
def bA : Nat → Option Nat := fun j => if j < 8 then some (77 + 5 * j) else none
/-- a board's five cells -/
def bcell (r : Nat) (f : Nat → Int32) (i : Nat) : AC := match r with
  | 0 => .inr (0, FB f i)
  | 1 => .inl (0, 30, .inl f)
  | 2 => .inr (4, FW f (i - 2))
  | _ => .inl (0, 4, .inl f)
def cK (f : Nat → Int32) (i : Nat) : AC :=
  if i = 59 then .inr (5, F59 f) else if i < 75 then bcell (i % 5) f i else if i = 75 then .inr (2, F75 f)
  else if i = 76 then .inl (3, 8, .inr (.inr (.inr (.inr bA)))) else if i < 117 then bcell ((i + 3) % 5) f i
  else if i = 117 then .inr (3, F117 f) else if i < 121 then .inl (0, 30, .inl f) else if i = 121 then .inr (1, F121 f)
  else if i = 122 then .inl (1, 60, .inl f) else .inl (1, 10, .inl f)
def cM (f : Nat → Int32) (i : Nat) : AC :=
  if i = 124 then .inr (6, F124 f) else if i = 126 then .inl (0, 328, .inl f) else if i < 129 then .inl (0, 41, .inl f)
  else if i = 129 then .inl (0, 60, .inl f) else if i = 130 then .inl (1, 20, .inl f) else if i < 134 then .inl (0, 25, .inl f) else .inl (0, 124, .inl f)
def WO (C G : HP) (z : WB) : AW := (fun i => if i < 59 then (E0 z.1 z.2.1 z.2.2.1)[i]? else if i < 124 then some (cK (C i) i) else if i < 135 then some (cM (G i) i) else if i = 135 then some (.inl (2, 1, .inr (.inl z.2.2.2.1))) else none, 136, z.2.2.2.2)
/-- sealed -/
def zs (z : WB) : WB := (z.1, z.2.1, z.2.2.1, z.2.2.2.1, true)
/-- the out row -/
def zo (z : WB) (f : Nat → Int64) : WB := (z.1, z.2.1, z.2.2.1, f, z.2.2.2.2)
theorem WO_seal {C G : HP} {z : WB} : ((WO C G z).1, (WO C G z).2.1, true) = WO C G (zs z) := rfl
def isB (b : Nat) : Prop := b = 60 ∨ b = 65 ∨ b = 70 ∨ b = 77 ∨ b = 82 ∨ b = 87 ∨ b = 92 ∨ b = 97 ∨ b = 102 ∨ b = 107 ∨ b = 112

theorem WO_C {C G : HP} {z : WB} {a : Nat} {f : Nat → Int32} (h : 59 ≤ a ∧ a < 124) : (upw (WO C G z).1 a (cK f a), (WO C G z).2) = WO (us C a f) G z := by
  refine Prod.ext (funext fun j => ?_) rfl
  show (if j = a then some (cK f a) else (if j < 59 then (E0 z.1 z.2.1 z.2.2.1)[j]? else if j < 124 then some (cK (C j) j) else if j < 135 then some (cM (G j) j) else if j = 135 then some (.inl (2, 1, .inr (.inl z.2.2.2.1))) else none)) = (if j < 59 then (E0 z.1 z.2.1 z.2.2.1)[j]? else if j < 124 then some (cK (us C a f j) j) else if j < 135 then some (cM (G j) j) else if j = 135 then some (.inl (2, 1, .inr (.inl z.2.2.2.1))) else none)
  by_cases e : j = a
  · subst e
    rw [if_pos rfl, if_neg (Nat.not_lt.mpr h.1), if_pos h.2, us_same]
  · rw [if_neg e, us_ne e]
theorem WO_G {C G : HP} {z : WB} {a : Nat} {f : Nat → Int32} (h : 124 ≤ a ∧ a < 135) : (upw (WO C G z).1 a (cM f a), (WO C G z).2) = WO C (us G a f) z := by
  refine Prod.ext (funext fun j => ?_) rfl
  show (if j = a then some (cM f a) else (if j < 59 then (E0 z.1 z.2.1 z.2.2.1)[j]? else if j < 124 then some (cK (C j) j) else if j < 135 then some (cM (G j) j) else if j = 135 then some (.inl (2, 1, .inr (.inl z.2.2.2.1))) else none)) = (if j < 59 then (E0 z.1 z.2.1 z.2.2.1)[j]? else if j < 124 then some (cK (C j) j) else if j < 135 then some (cM (us G a f j) j) else if j = 135 then some (.inl (2, 1, .inr (.inl z.2.2.2.1))) else none)
  by_cases e : j = a
  · subst e
    have h1 : ¬ j < 59 := by omega
    have h2 : ¬ j < 124 := by omega
    rw [if_pos rfl, if_neg h1, if_neg h2, if_pos h.2, us_same]
  · rw [if_neg e, us_ne e]
theorem WO_out {C G : HP} {z : WB} {f : Nat → Int64} : (upw (WO C G z).1 135 (.inl (2, 1, .inr (.inl f))), (WO C G z).2) = WO C G (zo z f) := by
  refine Prod.ext (funext fun j => ?_) rfl
  show (if j = 135 then _ else (if j < 59 then (E0 z.1 z.2.1 z.2.2.1)[j]? else if j < 124 then some (cK (C j) j) else if j < 135 then some (cM (G j) j) else if j = 135 then some (.inl (2, 1, .inr (.inl z.2.2.2.1))) else none)) = (if j < 59 then (E0 z.1 z.2.1 z.2.2.1)[j]? else if j < 124 then some (cK (C j) j) else if j < 135 then some (cM (G j) j) else if j = 135 then some (.inl (2, 1, .inr (.inl f))) else none)
  by_cases e : j = 135
  · subst e
    rfl
  · rw [if_neg e, if_neg e, if_neg e]
theorem R135 {C G : HP} {z : WB} : (WO C G z).1 135 = some (.inl (2, 1, .inr (.inl z.2.2.2.1))) := rfl
theorem R59 {C G : HP} {z : WB} : (WO C G z).1 59 = some (.inr (5, F59 (C 59))) := rfl
theorem P59_3 {C G : HP} {z : WB} {f : Nat → Int32} {v : Int32} : (upw (WO C G z).1 59 (.inr (5, (F59 f).set 3 (.int v))), (WO C G z).2) = WO (us C 59 (upd f 3 v)) G z := WO_C (a := 59) (f := upd f 3 v) (by decide)
theorem P59_7 {C G : HP} {z : WB} {f : Nat → Int32} {v : Int32} : (upw (WO C G z).1 59 (.inr (5, (F59 f).set 7 (.int v))), (WO C G z).2) = WO (us C 59 (upd f 7 v)) G z := WO_C (a := 59) (f := upd f 7 v) (by decide)
theorem P59_8 {C G : HP} {z : WB} {f : Nat → Int32} {v : Int32} : (upw (WO C G z).1 59 (.inr (5, (F59 f).set 8 (.int v))), (WO C G z).2) = WO (us C 59 (upd f 8 v)) G z := WO_C (a := 59) (f := upd f 8 v) (by decide)
theorem P59_10 {C G : HP} {z : WB} {f : Nat → Int32} {v : Int32} : (upw (WO C G z).1 59 (.inr (5, (F59 f).set 10 (.int v))), (WO C G z).2) = WO (us C 59 (upd f 10 v)) G z := WO_C (a := 59) (f := upd f 10 v) (by decide)
theorem R75 {C G : HP} {z : WB} : (WO C G z).1 75 = some (.inr (2, F75 (C 75))) := rfl
theorem P75_1 {C G : HP} {z : WB} {f : Nat → Int32} {v : Int32} : (upw (WO C G z).1 75 (.inr (2, (F75 f).set 1 (.int v))), (WO C G z).2) = WO (us C 75 (upd f 1 v)) G z := WO_C (a := 75) (f := upd f 1 v) (by decide)
theorem P75_2 {C G : HP} {z : WB} {f : Nat → Int32} {v : Int32} : (upw (WO C G z).1 75 (.inr (2, (F75 f).set 2 (.int v))), (WO C G z).2) = WO (us C 75 (upd f 2 v)) G z := WO_C (a := 75) (f := upd f 2 v) (by decide)
theorem R117 {C G : HP} {z : WB} : (WO C G z).1 117 = some (.inr (3, F117 (C 117))) := rfl
theorem P117_2 {C G : HP} {z : WB} {f : Nat → Int32} {v : Int32} : (upw (WO C G z).1 117 (.inr (3, (F117 f).set 2 (.int v))), (WO C G z).2) = WO (us C 117 (upd f 2 v)) G z := WO_C (a := 117) (f := upd f 2 v) (by decide)
theorem P117_4 {C G : HP} {z : WB} {f : Nat → Int32} {v : Int32} : (upw (WO C G z).1 117 (.inr (3, (F117 f).set 4 (.int v))), (WO C G z).2) = WO (us C 117 (upd f 4 v)) G z := WO_C (a := 117) (f := upd f 4 v) (by decide)
theorem R118 {C G : HP} {z : WB} : (WO C G z).1 118 = some (.inl (0, 30, .inl (C 118))) := rfl
theorem P118 {C G : HP} {z : WB} {f : Nat → Int32} : (upw (WO C G z).1 118 (.inl (0, 30, .inl f)), (WO C G z).2) = WO (us C 118 f) G z := WO_C (a := 118) (f := f) (by decide)
theorem R119 {C G : HP} {z : WB} : (WO C G z).1 119 = some (.inl (0, 30, .inl (C 119))) := rfl
theorem P119 {C G : HP} {z : WB} {f : Nat → Int32} : (upw (WO C G z).1 119 (.inl (0, 30, .inl f)), (WO C G z).2) = WO (us C 119 f) G z := WO_C (a := 119) (f := f) (by decide)
theorem R120 {C G : HP} {z : WB} : (WO C G z).1 120 = some (.inl (0, 30, .inl (C 120))) := rfl
theorem P120 {C G : HP} {z : WB} {f : Nat → Int32} : (upw (WO C G z).1 120 (.inl (0, 30, .inl f)), (WO C G z).2) = WO (us C 120 f) G z := WO_C (a := 120) (f := f) (by decide)
theorem R121 {C G : HP} {z : WB} : (WO C G z).1 121 = some (.inr (1, F121 (C 121))) := rfl
theorem P121_1 {C G : HP} {z : WB} {f : Nat → Int32} {v : Int32} : (upw (WO C G z).1 121 (.inr (1, (F121 f).set 1 (.int v))), (WO C G z).2) = WO (us C 121 (upd f 1 v)) G z := WO_C (a := 121) (f := upd f 1 v) (by decide)
theorem R122 {C G : HP} {z : WB} : (WO C G z).1 122 = some (.inl (1, 60, .inl (C 122))) := rfl
theorem P122 {C G : HP} {z : WB} {f : Nat → Int32} : (upw (WO C G z).1 122 (.inl (1, 60, .inl f)), (WO C G z).2) = WO (us C 122 f) G z := WO_C (a := 122) (f := f) (by decide)
theorem R123 {C G : HP} {z : WB} : (WO C G z).1 123 = some (.inl (1, 10, .inl (C 123))) := rfl
theorem P123 {C G : HP} {z : WB} {f : Nat → Int32} : (upw (WO C G z).1 123 (.inl (1, 10, .inl f)), (WO C G z).2) = WO (us C 123 f) G z := WO_C (a := 123) (f := f) (by decide)
theorem R124 {C G : HP} {z : WB} : (WO C G z).1 124 = some (.inr (6, F124 (G 124))) := rfl
theorem P124_4 {C G : HP} {z : WB} {f : Nat → Int32} {v : Int32} : (upw (WO C G z).1 124 (.inr (6, (F124 f).set 4 (.int v))), (WO C G z).2) = WO C (us G 124 (upd f 4 v)) z := WO_G (a := 124) (f := upd f 4 v) (by decide)
theorem P124_5 {C G : HP} {z : WB} {f : Nat → Int32} {v : Int32} : (upw (WO C G z).1 124 (.inr (6, (F124 f).set 5 (.int v))), (WO C G z).2) = WO C (us G 124 (upd f 5 v)) z := WO_G (a := 124) (f := upd f 5 v) (by decide)
theorem P124_6 {C G : HP} {z : WB} {f : Nat → Int32} {v : Int32} : (upw (WO C G z).1 124 (.inr (6, (F124 f).set 6 (.int v))), (WO C G z).2) = WO C (us G 124 (upd f 6 v)) z := WO_G (a := 124) (f := upd f 6 v) (by decide)
theorem P124_7 {C G : HP} {z : WB} {f : Nat → Int32} {v : Int32} : (upw (WO C G z).1 124 (.inr (6, (F124 f).set 7 (.int v))), (WO C G z).2) = WO C (us G 124 (upd f 7 v)) z := WO_G (a := 124) (f := upd f 7 v) (by decide)
theorem P124_9 {C G : HP} {z : WB} {f : Nat → Int32} {v : Int32} : (upw (WO C G z).1 124 (.inr (6, (F124 f).set 9 (.int v))), (WO C G z).2) = WO C (us G 124 (upd f 9 v)) z := WO_G (a := 124) (f := upd f 9 v) (by decide)
theorem P124_10 {C G : HP} {z : WB} {f : Nat → Int32} {v : Int32} : (upw (WO C G z).1 124 (.inr (6, (F124 f).set 10 (.int v))), (WO C G z).2) = WO C (us G 124 (upd f 10 v)) z := WO_G (a := 124) (f := upd f 10 v) (by decide)
theorem P124_11 {C G : HP} {z : WB} {f : Nat → Int32} {v : Int32} : (upw (WO C G z).1 124 (.inr (6, (F124 f).set 11 (.int v))), (WO C G z).2) = WO C (us G 124 (upd f 11 v)) z := WO_G (a := 124) (f := upd f 11 v) (by decide)
theorem P124_13 {C G : HP} {z : WB} {f : Nat → Int32} {v : Int32} : (upw (WO C G z).1 124 (.inr (6, (F124 f).set 13 (.int v))), (WO C G z).2) = WO C (us G 124 (upd f 13 v)) z := WO_G (a := 124) (f := upd f 13 v) (by decide)
theorem P124_17 {C G : HP} {z : WB} {f : Nat → Int32} {v : Int32} : (upw (WO C G z).1 124 (.inr (6, (F124 f).set 17 (.int v))), (WO C G z).2) = WO C (us G 124 (upd f 17 v)) z := WO_G (a := 124) (f := upd f 17 v) (by decide)
theorem P124_18 {C G : HP} {z : WB} {f : Nat → Int32} {v : Int32} : (upw (WO C G z).1 124 (.inr (6, (F124 f).set 18 (.int v))), (WO C G z).2) = WO C (us G 124 (upd f 18 v)) z := WO_G (a := 124) (f := upd f 18 v) (by decide)
theorem P124_19 {C G : HP} {z : WB} {f : Nat → Int32} {v : Int32} : (upw (WO C G z).1 124 (.inr (6, (F124 f).set 19 (.int v))), (WO C G z).2) = WO C (us G 124 (upd f 19 v)) z := WO_G (a := 124) (f := upd f 19 v) (by decide)
theorem P124_20 {C G : HP} {z : WB} {f : Nat → Int32} {v : Int32} : (upw (WO C G z).1 124 (.inr (6, (F124 f).set 20 (.int v))), (WO C G z).2) = WO C (us G 124 (upd f 20 v)) z := WO_G (a := 124) (f := upd f 20 v) (by decide)
theorem P124_22 {C G : HP} {z : WB} {f : Nat → Int32} {v : Int32} : (upw (WO C G z).1 124 (.inr (6, (F124 f).set 22 (.int v))), (WO C G z).2) = WO C (us G 124 (upd f 22 v)) z := WO_G (a := 124) (f := upd f 22 v) (by decide)
theorem R125 {C G : HP} {z : WB} : (WO C G z).1 125 = some (.inl (0, 41, .inl (G 125))) := rfl
theorem P125 {C G : HP} {z : WB} {f : Nat → Int32} : (upw (WO C G z).1 125 (.inl (0, 41, .inl f)), (WO C G z).2) = WO C (us G 125 f) z := WO_G (a := 125) (f := f) (by decide)
theorem R126 {C G : HP} {z : WB} : (WO C G z).1 126 = some (.inl (0, 328, .inl (G 126))) := rfl
theorem P126 {C G : HP} {z : WB} {f : Nat → Int32} : (upw (WO C G z).1 126 (.inl (0, 328, .inl f)), (WO C G z).2) = WO C (us G 126 f) z := WO_G (a := 126) (f := f) (by decide)
theorem R127 {C G : HP} {z : WB} : (WO C G z).1 127 = some (.inl (0, 41, .inl (G 127))) := rfl
theorem P127 {C G : HP} {z : WB} {f : Nat → Int32} : (upw (WO C G z).1 127 (.inl (0, 41, .inl f)), (WO C G z).2) = WO C (us G 127 f) z := WO_G (a := 127) (f := f) (by decide)
theorem R128 {C G : HP} {z : WB} : (WO C G z).1 128 = some (.inl (0, 41, .inl (G 128))) := rfl
theorem P128 {C G : HP} {z : WB} {f : Nat → Int32} : (upw (WO C G z).1 128 (.inl (0, 41, .inl f)), (WO C G z).2) = WO C (us G 128 f) z := WO_G (a := 128) (f := f) (by decide)
theorem R129 {C G : HP} {z : WB} : (WO C G z).1 129 = some (.inl (0, 60, .inl (G 129))) := rfl
theorem P129 {C G : HP} {z : WB} {f : Nat → Int32} : (upw (WO C G z).1 129 (.inl (0, 60, .inl f)), (WO C G z).2) = WO C (us G 129 f) z := WO_G (a := 129) (f := f) (by decide)
theorem R130 {C G : HP} {z : WB} : (WO C G z).1 130 = some (.inl (1, 20, .inl (G 130))) := rfl
theorem P130 {C G : HP} {z : WB} {f : Nat → Int32} : (upw (WO C G z).1 130 (.inl (1, 20, .inl f)), (WO C G z).2) = WO C (us G 130 f) z := WO_G (a := 130) (f := f) (by decide)
theorem R131 {C G : HP} {z : WB} : (WO C G z).1 131 = some (.inl (0, 25, .inl (G 131))) := rfl
theorem P131 {C G : HP} {z : WB} {f : Nat → Int32} : (upw (WO C G z).1 131 (.inl (0, 25, .inl f)), (WO C G z).2) = WO C (us G 131 f) z := WO_G (a := 131) (f := f) (by decide)
theorem R132 {C G : HP} {z : WB} : (WO C G z).1 132 = some (.inl (0, 25, .inl (G 132))) := rfl
theorem P132 {C G : HP} {z : WB} {f : Nat → Int32} : (upw (WO C G z).1 132 (.inl (0, 25, .inl f)), (WO C G z).2) = WO C (us G 132 f) z := WO_G (a := 132) (f := f) (by decide)
theorem R133 {C G : HP} {z : WB} : (WO C G z).1 133 = some (.inl (0, 25, .inl (G 133))) := rfl
theorem P133 {C G : HP} {z : WB} {f : Nat → Int32} : (upw (WO C G z).1 133 (.inl (0, 25, .inl f)), (WO C G z).2) = WO C (us G 133 f) z := WO_G (a := 133) (f := f) (by decide)
theorem R134 {C G : HP} {z : WB} : (WO C G z).1 134 = some (.inl (0, 124, .inl (G 134))) := rfl
theorem P134 {C G : HP} {z : WB} {f : Nat → Int32} : (upw (WO C G z).1 134 (.inl (0, 124, .inl f)), (WO C G z).2) = WO C (us G 134 f) z := WO_G (a := 134) (f := f) (by decide)
theorem R14 {C G : HP} {z : WB} : (WO C G z).1 14 = some (.inr (100, [.ref 36, .int 0])) := rfl
theorem R15 {C G : HP} {z : WB} : (WO C G z).1 15 = some (.inr (100, [.ref 37, .int 0])) := rfl
theorem R16 {C G : HP} {z : WB} : (WO C G z).1 16 = some (.inr (100, [.ref 38, .int 0])) := rfl
theorem R17 {C G : HP} {z : WB} : (WO C G z).1 17 = some (.inr (100, [.ref 39, .int 0])) := rfl
theorem R18 {C G : HP} {z : WB} : (WO C G z).1 18 = some (.inr (100, [.ref 40, .int 0])) := rfl
theorem R19 {C G : HP} {z : WB} : (WO C G z).1 19 = some (.inr (100, [.ref 41, .int 0])) := rfl
theorem R20 {C G : HP} {z : WB} : (WO C G z).1 20 = some (.inr (100, [.ref 42, .int 0])) := rfl
theorem R21 {C G : HP} {z : WB} : (WO C G z).1 21 = some (.inr (100, [.ref 43, .int 0])) := rfl
theorem R22 {C G : HP} {z : WB} : (WO C G z).1 22 = some (.inr (100, [.ref 44, .int 0])) := rfl
theorem R23 {C G : HP} {z : WB} : (WO C G z).1 23 = some (.inr (100, [.ref 45, .int 0])) := rfl
theorem R24 {C G : HP} {z : WB} : (WO C G z).1 24 = some (.inr (100, [.ref 46, .int 0])) := rfl
theorem R25 {C G : HP} {z : WB} : (WO C G z).1 25 = some (.inr (100, [.ref 47, .int 0])) := rfl
theorem R26 {C G : HP} {z : WB} : (WO C G z).1 26 = some (.inr (100, [.ref 48, .int 0])) := rfl
theorem R27 {C G : HP} {z : WB} : (WO C G z).1 27 = some (.inr (100, [.ref 49, .int 0])) := rfl
theorem R28 {C G : HP} {z : WB} : (WO C G z).1 28 = some (.inr (100, [.ref 50, .int 0])) := rfl
theorem R29 {C G : HP} {z : WB} : (WO C G z).1 29 = some (.inr (100, [.ref 51, .int 0])) := rfl
theorem R30 {C G : HP} {z : WB} : (WO C G z).1 30 = some (.inr (100, [.ref 52, .int 0])) := rfl
theorem R31 {C G : HP} {z : WB} : (WO C G z).1 31 = some (.inr (100, [.ref 53, .int 0])) := rfl
theorem R32 {C G : HP} {z : WB} : (WO C G z).1 32 = some (.inr (100, [.ref 54, .int 0])) := rfl
theorem R33 {C G : HP} {z : WB} : (WO C G z).1 33 = some (.inr (100, [.ref 55, .int 0])) := rfl
theorem R34 {C G : HP} {z : WB} : (WO C G z).1 34 = some (.inr (100, [.ref 56, .int 0])) := rfl
theorem R35 {C G : HP} {z : WB} : (WO C G z).1 35 = some (.inr (100, [.ref 57, .int 0])) := rfl
theorem R4 {C G : HP} {z : WB} : (WO C G z).1 4 = some (.inr (101, [.int 0, .ref 16])) := rfl
theorem R5 {C G : HP} {z : WB} : (WO C G z).1 5 = some (.inr (101, [.int 1, .ref 17])) := rfl
theorem R6 {C G : HP} {z : WB} : (WO C G z).1 6 = some (.inr (101, [.int 2, .ref 18])) := rfl
theorem R7 {C G : HP} {z : WB} : (WO C G z).1 7 = some (.inr (101, [.int 3, .ref 19])) := rfl
theorem R8 {C G : HP} {z : WB} : (WO C G z).1 8 = some (.inr (101, [.int 4, .ref 20])) := rfl
theorem R9 {C G : HP} {z : WB} : (WO C G z).1 9 = some (.inr (101, [.int 5, .ref 21])) := rfl
theorem R10 {C G : HP} {z : WB} : (WO C G z).1 10 = some (.inr (101, [.int 6, .ref 22])) := rfl
theorem R11 {C G : HP} {z : WB} : (WO C G z).1 11 = some (.inr (101, [.int 7, .ref 23])) := rfl
theorem R12 {C G : HP} {z : WB} : (WO C G z).1 12 = some (.inr (101, [.int 8, .ref 24])) := rfl
theorem R13 {C G : HP} {z : WB} : (WO C G z).1 13 = some (.inr (101, [.int 9, .ref 25])) := rfl
theorem R76 {C G : HP} {z : WB} : (WO C G z).1 76 = some (.inl (3, 8, .inr (.inr (.inr (.inr bA))))) := rfl
theorem RB0 {C G : HP} {z : WB} {b : Nat} (h : isB b) : (WO C G z).1 b = some (.inr (0, FB (C b) b)) := by
  rcases h with h | h | h | h | h | h | h | h | h | h | h <;> subst h <;> rfl
theorem RB1 {C G : HP} {z : WB} {b : Nat} (h : isB b) : (WO C G z).1 (b + 1) = some (.inl (0, 30, .inl (C (b + 1)))) := by
  rcases h with h | h | h | h | h | h | h | h | h | h | h <;> subst h <;> rfl
theorem RB2 {C G : HP} {z : WB} {b : Nat} (h : isB b) : (WO C G z).1 (b + 2) = some (.inr (4, FW (C (b + 2)) b)) := by
  rcases h with h | h | h | h | h | h | h | h | h | h | h <;> subst h <;> rfl
theorem RB3 {C G : HP} {z : WB} {b : Nat} (h : isB b) : (WO C G z).1 (b + 3) = some (.inl (0, 4, .inl (C (b + 3)))) := by
  rcases h with h | h | h | h | h | h | h | h | h | h | h <;> subst h <;> rfl
theorem RB4 {C G : HP} {z : WB} {b : Nat} (h : isB b) : (WO C G z).1 (b + 4) = some (.inl (0, 4, .inl (C (b + 4)))) := by
  rcases h with h | h | h | h | h | h | h | h | h | h | h <;> subst h <;> rfl
theorem isB_lt {b : Nat} (h : isB b) : 60 ≤ b ∧ b + 4 < 117 := by
  rcases h with h | h | h | h | h | h | h | h | h | h | h <;> subst h <;> decide
theorem isB_k {b : Nat} (h : isB b) : (k0 ≤ b) = True ∧ (k0 ≤ b + 1) = True ∧ (k0 ≤ b + 2) = True ∧ (k0 ≤ b + 3) = True ∧ (k0 ≤ b + 4) = True := by
  have := isB_lt h
  exact ⟨eq_true (by show 59 ≤ b; omega), eq_true (by show 59 ≤ b + 1; omega), eq_true (by show 59 ≤ b + 2; omega), eq_true (by show 59 ≤ b + 3; omega), eq_true (by show 59 ≤ b + 4; omega)⟩
theorem kB0 {b : Nat} (h : isB b) : (k0 ≤ b) = True := (isB_k h).1
theorem kB1 {b : Nat} (h : isB b) : (k0 ≤ b + 1) = True := (isB_k h).2.1
theorem kB2 {b : Nat} (h : isB b) : (k0 ≤ b + 2) = True := (isB_k h).2.2.1
theorem kB3 {b : Nat} (h : isB b) : (k0 ≤ b + 3) = True := (isB_k h).2.2.2.1
theorem kB4 {b : Nat} (h : isB b) : (k0 ≤ b + 4) = True := (isB_k h).2.2.2.2
theorem PB1 {C G : HP} {z : WB} {b : Nat} {f : Nat → Int32} (h : isB b) : (upw (WO C G z).1 (b + 1) (.inl (0, 30, .inl f)), (WO C G z).2) = WO (us C (b + 1) f) G z := by
  have e : (.inl (0, 30, .inl f) : AC) = cK f (b + 1) := by rcases h with h | h | h | h | h | h | h | h | h | h | h <;> subst h <;> rfl
  have := isB_lt h
  rw [e, WO_C (by omega)]
theorem PB3 {C G : HP} {z : WB} {b : Nat} {f : Nat → Int32} (h : isB b) : (upw (WO C G z).1 (b + 3) (.inl (0, 4, .inl f)), (WO C G z).2) = WO (us C (b + 3) f) G z := by
  have e : (.inl (0, 4, .inl f) : AC) = cK f (b + 3) := by rcases h with h | h | h | h | h | h | h | h | h | h | h <;> subst h <;> rfl
  have := isB_lt h
  rw [e, WO_C (by omega)]
theorem PB4 {C G : HP} {z : WB} {b : Nat} {f : Nat → Int32} (h : isB b) : (upw (WO C G z).1 (b + 4) (.inl (0, 4, .inl f)), (WO C G z).2) = WO (us C (b + 4) f) G z := by
  have e : (.inl (0, 4, .inl f) : AC) = cK f (b + 4) := by rcases h with h | h | h | h | h | h | h | h | h | h | h <;> subst h <;> rfl
  have := isB_lt h
  rw [e, WO_C (by omega)]
theorem PB0_0 {C G : HP} {z : WB} {b : Nat} {f : Nat → Int32} {v : Int32} (h : isB b) : (upw (WO C G z).1 (b) (.inr (0, (FB f b).set 0 (.int v))), (WO C G z).2) = WO (us C (b) (upd f 0 v)) G z := by
  have e : (.inr (0, (FB f b).set 0 (.int v)) : AC) = cK (upd f 0 v) (b) := by rcases h with h | h | h | h | h | h | h | h | h | h | h <;> subst h <;> rfl
  have := isB_lt h
  rw [e, WO_C (by omega)]
theorem PB0_1 {C G : HP} {z : WB} {b : Nat} {f : Nat → Int32} {v : Int32} (h : isB b) : (upw (WO C G z).1 (b) (.inr (0, (FB f b).set 1 (.int v))), (WO C G z).2) = WO (us C (b) (upd f 1 v)) G z := by
  have e : (.inr (0, (FB f b).set 1 (.int v)) : AC) = cK (upd f 1 v) (b) := by rcases h with h | h | h | h | h | h | h | h | h | h | h <;> subst h <;> rfl
  have := isB_lt h
  rw [e, WO_C (by omega)]
theorem PB0_2 {C G : HP} {z : WB} {b : Nat} {f : Nat → Int32} {v : Int32} (h : isB b) : (upw (WO C G z).1 (b) (.inr (0, (FB f b).set 2 (.int v))), (WO C G z).2) = WO (us C (b) (upd f 2 v)) G z := by
  have e : (.inr (0, (FB f b).set 2 (.int v)) : AC) = cK (upd f 2 v) (b) := by rcases h with h | h | h | h | h | h | h | h | h | h | h <;> subst h <;> rfl
  have := isB_lt h
  rw [e, WO_C (by omega)]
theorem PB0_3 {C G : HP} {z : WB} {b : Nat} {f : Nat → Int32} {v : Int32} (h : isB b) : (upw (WO C G z).1 (b) (.inr (0, (FB f b).set 3 (.int v))), (WO C G z).2) = WO (us C (b) (upd f 3 v)) G z := by
  have e : (.inr (0, (FB f b).set 3 (.int v)) : AC) = cK (upd f 3 v) (b) := by rcases h with h | h | h | h | h | h | h | h | h | h | h <;> subst h <;> rfl
  have := isB_lt h
  rw [e, WO_C (by omega)]
theorem PB0_4 {C G : HP} {z : WB} {b : Nat} {f : Nat → Int32} {v : Int32} (h : isB b) : (upw (WO C G z).1 (b) (.inr (0, (FB f b).set 4 (.int v))), (WO C G z).2) = WO (us C (b) (upd f 4 v)) G z := by
  have e : (.inr (0, (FB f b).set 4 (.int v)) : AC) = cK (upd f 4 v) (b) := by rcases h with h | h | h | h | h | h | h | h | h | h | h <;> subst h <;> rfl
  have := isB_lt h
  rw [e, WO_C (by omega)]
theorem PB0_5 {C G : HP} {z : WB} {b : Nat} {f : Nat → Int32} {v : Int32} (h : isB b) : (upw (WO C G z).1 (b) (.inr (0, (FB f b).set 5 (.int v))), (WO C G z).2) = WO (us C (b) (upd f 5 v)) G z := by
  have e : (.inr (0, (FB f b).set 5 (.int v)) : AC) = cK (upd f 5 v) (b) := by rcases h with h | h | h | h | h | h | h | h | h | h | h <;> subst h <;> rfl
  have := isB_lt h
  rw [e, WO_C (by omega)]
theorem PB0_6 {C G : HP} {z : WB} {b : Nat} {f : Nat → Int32} {v : Int32} (h : isB b) : (upw (WO C G z).1 (b) (.inr (0, (FB f b).set 6 (.int v))), (WO C G z).2) = WO (us C (b) (upd f 6 v)) G z := by
  have e : (.inr (0, (FB f b).set 6 (.int v)) : AC) = cK (upd f 6 v) (b) := by rcases h with h | h | h | h | h | h | h | h | h | h | h <;> subst h <;> rfl
  have := isB_lt h
  rw [e, WO_C (by omega)]
theorem PB0_7 {C G : HP} {z : WB} {b : Nat} {f : Nat → Int32} {v : Int32} (h : isB b) : (upw (WO C G z).1 (b) (.inr (0, (FB f b).set 7 (.int v))), (WO C G z).2) = WO (us C (b) (upd f 7 v)) G z := by
  have e : (.inr (0, (FB f b).set 7 (.int v)) : AC) = cK (upd f 7 v) (b) := by rcases h with h | h | h | h | h | h | h | h | h | h | h <;> subst h <;> rfl
  have := isB_lt h
  rw [e, WO_C (by omega)]
theorem PB2_0 {C G : HP} {z : WB} {b : Nat} {f : Nat → Int32} {v : Int32} (h : isB b) : (upw (WO C G z).1 (b + 2) (.inr (4, (FW f b).set 0 (.int v))), (WO C G z).2) = WO (us C (b + 2) (upd f 0 v)) G z := by
  have e : (.inr (4, (FW f b).set 0 (.int v)) : AC) = cK (upd f 0 v) (b + 2) := by rcases h with h | h | h | h | h | h | h | h | h | h | h <;> subst h <;> rfl
  have := isB_lt h
  rw [e, WO_C (by omega)]
theorem iB60 : isB 60 = True := eq_true (by unfold isB; decide)
theorem iB65 : isB 65 = True := eq_true (by unfold isB; decide)
theorem iB70 : isB 70 = True := eq_true (by unfold isB; decide)
theorem iB77 : isB 77 = True := eq_true (by unfold isB; decide)
theorem iB82 : isB 82 = True := eq_true (by unfold isB; decide)
theorem iB87 : isB 87 = True := eq_true (by unfold isB; decide)
theorem iB92 : isB 92 = True := eq_true (by unfold isB; decide)
theorem iB97 : isB 97 = True := eq_true (by unfold isB; decide)
theorem iB102 : isB 102 = True := eq_true (by unfold isB; decide)
theorem iB107 : isB 107 = True := eq_true (by unfold isB; decide)
theorem iB112 : isB 112 = True := eq_true (by unfold isB; decide)
theorem okp0 {v : Int32} : okPut 0 (.int v) = True := rfl
theorem okp2 {v : Int32} : okPut 2 (.int v) = (v = 0 ∨ v = 1) := rfl
theorem okp3 {a : Nat} : okPut 3 (.ref a) = True := rfl
theorem k0e : k0 = 59 := rfl
theorem nb01 {b : Nat} : (b = b + 1) = False := eq_false (by omega)
theorem nb02 {b : Nat} : (b = b + 2) = False := eq_false (by omega)
theorem nb03 {b : Nat} : (b = b + 3) = False := eq_false (by omega)
theorem nb04 {b : Nat} : (b = b + 4) = False := eq_false (by omega)
theorem nb10 {b : Nat} : (b + 1 = b) = False := eq_false (by omega)
theorem nb12 {b : Nat} : (b + 1 = b + 2) = False := eq_false (by omega)
theorem nb13 {b : Nat} : (b + 1 = b + 3) = False := eq_false (by omega)
theorem nb14 {b : Nat} : (b + 1 = b + 4) = False := eq_false (by omega)
theorem nb20 {b : Nat} : (b + 2 = b) = False := eq_false (by omega)
theorem nb21 {b : Nat} : (b + 2 = b + 1) = False := eq_false (by omega)
theorem nb23 {b : Nat} : (b + 2 = b + 3) = False := eq_false (by omega)
theorem nb24 {b : Nat} : (b + 2 = b + 4) = False := eq_false (by omega)
theorem nb30 {b : Nat} : (b + 3 = b) = False := eq_false (by omega)
theorem nb31 {b : Nat} : (b + 3 = b + 1) = False := eq_false (by omega)
theorem nb32 {b : Nat} : (b + 3 = b + 2) = False := eq_false (by omega)
theorem nb34 {b : Nat} : (b + 3 = b + 4) = False := eq_false (by omega)
theorem nb40 {b : Nat} : (b + 4 = b) = False := eq_false (by omega)
theorem nb41 {b : Nat} : (b + 4 = b + 1) = False := eq_false (by omega)
theorem nb42 {b : Nat} : (b + 4 = b + 2) = False := eq_false (by omega)
theorem nb43 {b : Nat} : (b + 4 = b + 3) = False := eq_false (by omega)
theorem kL59 : (k0 ≤ 59) = True := eq_true (by decide)
theorem kL75 : (k0 ≤ 75) = True := eq_true (by decide)
theorem kL76 : (k0 ≤ 76) = True := eq_true (by decide)
theorem kL117 : (k0 ≤ 117) = True := eq_true (by decide)
theorem kL118 : (k0 ≤ 118) = True := eq_true (by decide)
theorem kL119 : (k0 ≤ 119) = True := eq_true (by decide)
theorem kL120 : (k0 ≤ 120) = True := eq_true (by decide)
theorem kL121 : (k0 ≤ 121) = True := eq_true (by decide)
theorem kL122 : (k0 ≤ 122) = True := eq_true (by decide)
theorem kL123 : (k0 ≤ 123) = True := eq_true (by decide)
theorem kL124 : (k0 ≤ 124) = True := eq_true (by decide)
theorem kL125 : (k0 ≤ 125) = True := eq_true (by decide)
theorem kL126 : (k0 ≤ 126) = True := eq_true (by decide)
theorem kL127 : (k0 ≤ 127) = True := eq_true (by decide)
theorem kL128 : (k0 ≤ 128) = True := eq_true (by decide)
theorem kL129 : (k0 ≤ 129) = True := eq_true (by decide)
theorem kL130 : (k0 ≤ 130) = True := eq_true (by decide)
theorem kL131 : (k0 ≤ 131) = True := eq_true (by decide)
theorem kL132 : (k0 ≤ 132) = True := eq_true (by decide)
theorem kL133 : (k0 ≤ 133) = True := eq_true (by decide)
theorem kL134 : (k0 ≤ 134) = True := eq_true (by decide)
theorem kL135 : (k0 ≤ 135) = True := eq_true (by decide)
/-! counters -/
theorem io_lt {a b : Nat} (ha : a < 2147483648) (hb : b < 2147483648) : (Int32.ofNat a < Int32.ofNat b) = (a < b) := by
  apply propext
  rw [Int32.lt_iff_toInt_lt, Int32.toInt_ofNat_of_lt ha, Int32.toInt_ofNat_of_lt hb]
  omega
theorem io_le {a b : Nat} (ha : a < 2147483648) (hb : b < 2147483648) : (Int32.ofNat a ≤ Int32.ofNat b) = (a ≤ b) := by
  apply propext
  rw [Int32.le_iff_toInt_le, Int32.toInt_ofNat_of_lt ha, Int32.toInt_ofNat_of_lt hb]
  omega
theorem io_eq {a b : Nat} (ha : a < 2147483648) (hb : b < 2147483648) : (Int32.ofNat a = Int32.ofNat b) = (a = b) := by
  apply propext
  constructor
  · intro h
    have := congrArg Int32.toInt h
    rw [Int32.toInt_ofNat_of_lt ha, Int32.toInt_ofNat_of_lt hb] at this
    omega
  · intro h; rw [h]
theorem io_succ {a : Nat} : Int32.ofNat a + 1 = Int32.ofNat (a + 1) := by rw [Int32.ofNat_add]; rfl
theorem io_add {a b : Nat} : Int32.ofNat a + Int32.ofNat b = Int32.ofNat (a + b) := (Int32.ofNat_add a b).symm
theorem io_mul {a b : Nat} : Int32.ofNat a * Int32.ofNat b = Int32.ofNat (a * b) := (Int32.ofNat_mul a b).symm
theorem io_nat {a : Nat} (ha : a < 2147483648) : (Int32.ofNat a).toNatClampNeg = a := Int32.toNatClampNeg_ofNat_of_lt ha
theorem io_in {a n : Nat} (ha : a < 2147483648) : vp_in (Int32.ofNat a) n = (a < n) := by
  unfold vp_in
  rw [io_nat ha]
  apply propext
  have : ¬ Int32.ofNat a < 0 := by
    rw [show (0 : Int32) = Int32.ofNat 0 from rfl, io_lt ha (by decide)]; omega
  simp [this]
theorem io_lit {n : Nat} : (OfNat.ofNat n : Int32) = Int32.ofNat n := rfl
theorem io_neg {a : Nat} (ha : a < 2147483648) : (Int32.ofNat a < 0) = False := by
  rw [show (0 : Int32) = Int32.ofNat 0 from rfl, io_lt ha (by decide)]
  exact eq_false (Nat.not_lt_zero a)
/-! loops -/
def itr {S : Type} (f : Nat → S → S) : Nat → Nat → S → S
  | 0, _, s => s
  | n + 1, k, s => itr f n (k + 1) (f k s)
theorem itr_last {S : Type} (f : Nat → S → S) : ∀ n k s, itr f (n + 1) k s = f (k + n) (itr f n k s)
  | 0, _, _ => rfl
  | n + 1, k, s => by
    show itr f (n + 1) (k + 1) (f k s) = _
    rw [itr_last f n (k + 1) (f k s), show k + 1 + n = k + (n + 1) from by omega]
    rfl
/-- a loop that counts k up to N, under an invariant -/
theorem lpN {S : Type} (P : Nat → S → Prop) (f : Nat → S → S) (N : Nat) (I : Nat → S → Prop) (hi : ∀ k s, k < N → I k s → I (k + 1) (f k s)) (h : ∀ k s, k < N → I k s → P k s = P (k + 1) (f k s)) :
    ∀ n k s, I k s → k + n = N → P k s = P N (itr f n k s) ∧ I N (itr f n k s)
  | 0, k, s, i, e => by
    have e' : k = N := e
    subst e'
    exact ⟨rfl, i⟩
  | n + 1, k, s, i, e => by
    have hk : k < N := by omega
    have := lpN P f N I hi h n (k + 1) (f k s) (hi k s hk i) (by omega)
    exact ⟨(h k s hk i).trans this.1, this.2⟩
theorem lp0 {S : Type} (P : Nat → S → Prop) (f : Nat → S → S) (N : Nat) (h : ∀ k s, k < N → P k s = P (k + 1) (f k s)) (s : S) : P 0 s = P N (itr f N 0 s) :=
  (lpN P f N (fun _ _ => True) (fun _ _ _ _ => trivial) (fun k s hk _ => h k s hk) N 0 s trivial (Nat.zero_add N)).1
/-- the first place from k on, of n, where c holds; else k + n -/
def ff (c : Nat → Bool) : Nat → Nat → Nat
  | 0, k => k
  | n + 1, k => if c k then k else ff c n (k + 1)
theorem lpF (P : Nat → Prop) (R : Nat → Prop) (c : Nat → Bool) (N : Nat) (h : ∀ k, k < N → P k = if c k then R k else P (k + 1)) : ∀ n k, k + n = N → P k = if ff c n k < N then R (ff c n k) else P N
  | 0, k, e => by
    have e' : k = N := e
    subst e'
    simp [ff]
  | n + 1, k, e => by
    have hk : k < N := by omega
    rw [h k hk]
    unfold ff
    by_cases hc : c k = true
    · rw [if_pos hc, if_pos hc, if_pos hk]
    · rw [if_neg hc, if_neg hc]
      exact lpF P R c N h n (k + 1) (by omega)
theorem ff_le (c : Nat → Bool) : ∀ n k, k ≤ ff c n k ∧ ff c n k ≤ k + n
  | 0, k => ⟨Nat.le_refl k, Nat.le_refl k⟩
  | n + 1, k => by
    unfold ff
    by_cases hc : c k = true
    · rw [if_pos hc]; omega
    · rw [if_neg hc]
      have := ff_le c n (k + 1)
      omega
theorem ff_yes (c : Nat → Bool) : ∀ n k, ff c n k < k + n → c (ff c n k) = true
  | 0, k, h => absurd h (Nat.lt_irrefl k)
  | n + 1, k, h => by
    unfold ff at h ⊢
    by_cases hc : c k = true
    · rw [if_pos hc]; exact hc
    · rw [if_neg hc] at h ⊢
      exact ff_yes c n (k + 1) (by omega)
theorem ff_no (c : Nat → Bool) : ∀ n k j, k ≤ j → j < ff c n k → c j = false
  | 0, k, j, h, g => absurd h (Nat.not_le.mpr g)
  | n + 1, k, j, h, g => by
    unfold ff at g
    by_cases hc : c k = true
    · rw [if_pos hc] at g; exact absurd h (Nat.not_le.mpr g)
    · rw [if_neg hc] at g
      by_cases e : k = j
      · subst e; exact Bool.eq_false_iff.mpr hc
      · exact ff_no c n (k + 1) j (by omega) g
theorem b8_m6 : (Int8.ofInt (-6)).toInt32 = -6 := rfl
theorem b8_6 : (Int8.ofInt 6).toInt32 = 6 := rfl
theorem b8_7 : (Int8.ofInt 7).toInt32 = 7 := rfl
theorem b8_8 : (Int8.ofInt 8).toInt32 = 8 := rfl
theorem b8_9 : (Int8.ofInt 9).toInt32 = 9 := rfl
theorem b8_10 : (Int8.ofInt 10).toInt32 = 10 := rfl
theorem b8_16 : (Int8.ofInt 16).toInt32 = 16 := rfl
theorem b8_20 : (Int8.ofInt 20).toInt32 = 20 := rfl
theorem b8_25 : (Int8.ofInt 25).toInt32 = 25 := rfl
theorem b8_30 : (Int8.ofInt 30).toInt32 = 30 := rfl
theorem b8_31 : (Int8.ofInt 31).toInt32 = 31 := rfl
theorem b8_32 : (Int8.ofInt 32).toInt32 = 32 := rfl
theorem b8_33 : (Int8.ofInt 33).toInt32 = 33 := rfl
theorem b8_35 : (Int8.ofInt 35).toInt32 = 35 := rfl
theorem b8_41 : (Int8.ofInt 41).toInt32 = 41 := rfl
theorem b8_42 : (Int8.ofInt 42).toInt32 = 42 := rfl
theorem b8_43 : (Int8.ofInt 43).toInt32 = 43 := rfl
theorem b8_46 : (Int8.ofInt 46).toInt32 = 46 := rfl
theorem b8_48 : (Int8.ofInt 48).toInt32 = 48 := rfl
theorem b8_57 : (Int8.ofInt 57).toInt32 = 57 := rfl
theorem b8_59 : (Int8.ofInt 59).toInt32 = 59 := rfl
theorem b8_60 : (Int8.ofInt 60).toInt32 = 60 := rfl
theorem b8_63 : (Int8.ofInt 63).toInt32 = 63 := rfl
theorem b8_99 : (Int8.ofInt 99).toInt32 = 99 := rfl
theorem b8_100 : (Int8.ofInt 100).toInt32 = 100 := rfl
theorem b8_101 : (Int8.ofInt 101).toInt32 = 101 := rfl
theorem b8_103 : (Int8.ofInt 103).toInt32 = 103 := rfl
theorem b8_105 : (Int8.ofInt 105).toInt32 = 105 := rfl
theorem b8_108 : (Int8.ofInt 108).toInt32 = 108 := rfl
theorem b8_110 : (Int8.ofInt 110).toInt32 = 110 := rfl
theorem b8_111 : (Int8.ofInt 111).toInt32 = 111 := rfl
theorem b8_112 : (Int8.ofInt 112).toInt32 = 112 := rfl
theorem b8_114 : (Int8.ofInt 114).toInt32 = 114 := rfl
theorem b8_115 : (Int8.ofInt 115).toInt32 = 115 := rfl
theorem b8_116 : (Int8.ofInt 116).toInt32 = 116 := rfl
theorem b8_119 : (Int8.ofInt 119).toInt32 = 119 := rfl
theorem b8_120 : (Int8.ofInt 120).toInt32 = 120 := rfl
theorem b8_124 : (Int8.ofInt 124).toInt32 = 124 := rfl
theorem b8_126 : (Int8.ofInt 126).toInt32 = 126 := rfl
theorem b16_255 : (Int16.ofInt 255).toInt32 = 255 := rfl
theorem b16_287 : (Int16.ofInt 287).toInt32 = 287 := rfl
theorem b16_328 : (Int16.ofInt 328).toInt32 = 328 := rfl
theorem ioa0 {k : Nat} (hk : k < 2147483648) : ((Int32.ofNat k < 0) = (k < 0)) := io_lt hk (by decide)
theorem iob0 {k : Nat} (hk : k < 2147483648) : ((0 < Int32.ofNat k) = (0 < k)) := io_lt (by decide) hk
theorem ioc0 {k : Nat} (hk : k < 2147483648) : ((Int32.ofNat k ≤ 0) = (k ≤ 0)) := io_le hk (by decide)
theorem iod0 {k : Nat} (hk : k < 2147483648) : ((0 ≤ Int32.ofNat k) = (0 ≤ k)) := io_le (by decide) hk
theorem ioe0 {k : Nat} (hk : k < 2147483648) : ((Int32.ofNat k = 0) = (k = 0)) := io_eq hk (by decide)
theorem ioa1 {k : Nat} (hk : k < 2147483648) : ((Int32.ofNat k < 1) = (k < 1)) := io_lt hk (by decide)
theorem iob1 {k : Nat} (hk : k < 2147483648) : ((1 < Int32.ofNat k) = (1 < k)) := io_lt (by decide) hk
theorem ioc1 {k : Nat} (hk : k < 2147483648) : ((Int32.ofNat k ≤ 1) = (k ≤ 1)) := io_le hk (by decide)
theorem iod1 {k : Nat} (hk : k < 2147483648) : ((1 ≤ Int32.ofNat k) = (1 ≤ k)) := io_le (by decide) hk
theorem ioe1 {k : Nat} (hk : k < 2147483648) : ((Int32.ofNat k = 1) = (k = 1)) := io_eq hk (by decide)
theorem ioa2 {k : Nat} (hk : k < 2147483648) : ((Int32.ofNat k < 2) = (k < 2)) := io_lt hk (by decide)
theorem iob2 {k : Nat} (hk : k < 2147483648) : ((2 < Int32.ofNat k) = (2 < k)) := io_lt (by decide) hk
theorem ioc2 {k : Nat} (hk : k < 2147483648) : ((Int32.ofNat k ≤ 2) = (k ≤ 2)) := io_le hk (by decide)
theorem iod2 {k : Nat} (hk : k < 2147483648) : ((2 ≤ Int32.ofNat k) = (2 ≤ k)) := io_le (by decide) hk
theorem ioe2 {k : Nat} (hk : k < 2147483648) : ((Int32.ofNat k = 2) = (k = 2)) := io_eq hk (by decide)
theorem ioa3 {k : Nat} (hk : k < 2147483648) : ((Int32.ofNat k < 3) = (k < 3)) := io_lt hk (by decide)
theorem iob3 {k : Nat} (hk : k < 2147483648) : ((3 < Int32.ofNat k) = (3 < k)) := io_lt (by decide) hk
theorem ioc3 {k : Nat} (hk : k < 2147483648) : ((Int32.ofNat k ≤ 3) = (k ≤ 3)) := io_le hk (by decide)
theorem iod3 {k : Nat} (hk : k < 2147483648) : ((3 ≤ Int32.ofNat k) = (3 ≤ k)) := io_le (by decide) hk
theorem ioe3 {k : Nat} (hk : k < 2147483648) : ((Int32.ofNat k = 3) = (k = 3)) := io_eq hk (by decide)
theorem ioa4 {k : Nat} (hk : k < 2147483648) : ((Int32.ofNat k < 4) = (k < 4)) := io_lt hk (by decide)
theorem iob4 {k : Nat} (hk : k < 2147483648) : ((4 < Int32.ofNat k) = (4 < k)) := io_lt (by decide) hk
theorem ioc4 {k : Nat} (hk : k < 2147483648) : ((Int32.ofNat k ≤ 4) = (k ≤ 4)) := io_le hk (by decide)
theorem iod4 {k : Nat} (hk : k < 2147483648) : ((4 ≤ Int32.ofNat k) = (4 ≤ k)) := io_le (by decide) hk
theorem ioe4 {k : Nat} (hk : k < 2147483648) : ((Int32.ofNat k = 4) = (k = 4)) := io_eq hk (by decide)
theorem ioa5 {k : Nat} (hk : k < 2147483648) : ((Int32.ofNat k < 5) = (k < 5)) := io_lt hk (by decide)
theorem iob5 {k : Nat} (hk : k < 2147483648) : ((5 < Int32.ofNat k) = (5 < k)) := io_lt (by decide) hk
theorem ioc5 {k : Nat} (hk : k < 2147483648) : ((Int32.ofNat k ≤ 5) = (k ≤ 5)) := io_le hk (by decide)
theorem iod5 {k : Nat} (hk : k < 2147483648) : ((5 ≤ Int32.ofNat k) = (5 ≤ k)) := io_le (by decide) hk
theorem ioe5 {k : Nat} (hk : k < 2147483648) : ((Int32.ofNat k = 5) = (k = 5)) := io_eq hk (by decide)
theorem ioa6 {k : Nat} (hk : k < 2147483648) : ((Int32.ofNat k < 6) = (k < 6)) := io_lt hk (by decide)
theorem iob6 {k : Nat} (hk : k < 2147483648) : ((6 < Int32.ofNat k) = (6 < k)) := io_lt (by decide) hk
theorem ioc6 {k : Nat} (hk : k < 2147483648) : ((Int32.ofNat k ≤ 6) = (k ≤ 6)) := io_le hk (by decide)
theorem iod6 {k : Nat} (hk : k < 2147483648) : ((6 ≤ Int32.ofNat k) = (6 ≤ k)) := io_le (by decide) hk
theorem ioe6 {k : Nat} (hk : k < 2147483648) : ((Int32.ofNat k = 6) = (k = 6)) := io_eq hk (by decide)
theorem ioa7 {k : Nat} (hk : k < 2147483648) : ((Int32.ofNat k < 7) = (k < 7)) := io_lt hk (by decide)
theorem iob7 {k : Nat} (hk : k < 2147483648) : ((7 < Int32.ofNat k) = (7 < k)) := io_lt (by decide) hk
theorem ioc7 {k : Nat} (hk : k < 2147483648) : ((Int32.ofNat k ≤ 7) = (k ≤ 7)) := io_le hk (by decide)
theorem iod7 {k : Nat} (hk : k < 2147483648) : ((7 ≤ Int32.ofNat k) = (7 ≤ k)) := io_le (by decide) hk
theorem ioe7 {k : Nat} (hk : k < 2147483648) : ((Int32.ofNat k = 7) = (k = 7)) := io_eq hk (by decide)
theorem ioa8 {k : Nat} (hk : k < 2147483648) : ((Int32.ofNat k < 8) = (k < 8)) := io_lt hk (by decide)
theorem iob8 {k : Nat} (hk : k < 2147483648) : ((8 < Int32.ofNat k) = (8 < k)) := io_lt (by decide) hk
theorem ioc8 {k : Nat} (hk : k < 2147483648) : ((Int32.ofNat k ≤ 8) = (k ≤ 8)) := io_le hk (by decide)
theorem iod8 {k : Nat} (hk : k < 2147483648) : ((8 ≤ Int32.ofNat k) = (8 ≤ k)) := io_le (by decide) hk
theorem ioe8 {k : Nat} (hk : k < 2147483648) : ((Int32.ofNat k = 8) = (k = 8)) := io_eq hk (by decide)
theorem ioa9 {k : Nat} (hk : k < 2147483648) : ((Int32.ofNat k < 9) = (k < 9)) := io_lt hk (by decide)
theorem iob9 {k : Nat} (hk : k < 2147483648) : ((9 < Int32.ofNat k) = (9 < k)) := io_lt (by decide) hk
theorem ioc9 {k : Nat} (hk : k < 2147483648) : ((Int32.ofNat k ≤ 9) = (k ≤ 9)) := io_le hk (by decide)
theorem iod9 {k : Nat} (hk : k < 2147483648) : ((9 ≤ Int32.ofNat k) = (9 ≤ k)) := io_le (by decide) hk
theorem ioe9 {k : Nat} (hk : k < 2147483648) : ((Int32.ofNat k = 9) = (k = 9)) := io_eq hk (by decide)
theorem ioa10 {k : Nat} (hk : k < 2147483648) : ((Int32.ofNat k < 10) = (k < 10)) := io_lt hk (by decide)
theorem iob10 {k : Nat} (hk : k < 2147483648) : ((10 < Int32.ofNat k) = (10 < k)) := io_lt (by decide) hk
theorem ioc10 {k : Nat} (hk : k < 2147483648) : ((Int32.ofNat k ≤ 10) = (k ≤ 10)) := io_le hk (by decide)
theorem iod10 {k : Nat} (hk : k < 2147483648) : ((10 ≤ Int32.ofNat k) = (10 ≤ k)) := io_le (by decide) hk
theorem ioe10 {k : Nat} (hk : k < 2147483648) : ((Int32.ofNat k = 10) = (k = 10)) := io_eq hk (by decide)
theorem ioa20 {k : Nat} (hk : k < 2147483648) : ((Int32.ofNat k < 20) = (k < 20)) := io_lt hk (by decide)
theorem iob20 {k : Nat} (hk : k < 2147483648) : ((20 < Int32.ofNat k) = (20 < k)) := io_lt (by decide) hk
theorem ioc20 {k : Nat} (hk : k < 2147483648) : ((Int32.ofNat k ≤ 20) = (k ≤ 20)) := io_le hk (by decide)
theorem iod20 {k : Nat} (hk : k < 2147483648) : ((20 ≤ Int32.ofNat k) = (20 ≤ k)) := io_le (by decide) hk
theorem ioe20 {k : Nat} (hk : k < 2147483648) : ((Int32.ofNat k = 20) = (k = 20)) := io_eq hk (by decide)
theorem ioa25 {k : Nat} (hk : k < 2147483648) : ((Int32.ofNat k < 25) = (k < 25)) := io_lt hk (by decide)
theorem iob25 {k : Nat} (hk : k < 2147483648) : ((25 < Int32.ofNat k) = (25 < k)) := io_lt (by decide) hk
theorem ioc25 {k : Nat} (hk : k < 2147483648) : ((Int32.ofNat k ≤ 25) = (k ≤ 25)) := io_le hk (by decide)
theorem iod25 {k : Nat} (hk : k < 2147483648) : ((25 ≤ Int32.ofNat k) = (25 ≤ k)) := io_le (by decide) hk
theorem ioe25 {k : Nat} (hk : k < 2147483648) : ((Int32.ofNat k = 25) = (k = 25)) := io_eq hk (by decide)
theorem ioa30 {k : Nat} (hk : k < 2147483648) : ((Int32.ofNat k < 30) = (k < 30)) := io_lt hk (by decide)
theorem iob30 {k : Nat} (hk : k < 2147483648) : ((30 < Int32.ofNat k) = (30 < k)) := io_lt (by decide) hk
theorem ioc30 {k : Nat} (hk : k < 2147483648) : ((Int32.ofNat k ≤ 30) = (k ≤ 30)) := io_le hk (by decide)
theorem iod30 {k : Nat} (hk : k < 2147483648) : ((30 ≤ Int32.ofNat k) = (30 ≤ k)) := io_le (by decide) hk
theorem ioe30 {k : Nat} (hk : k < 2147483648) : ((Int32.ofNat k = 30) = (k = 30)) := io_eq hk (by decide)
theorem ioa31 {k : Nat} (hk : k < 2147483648) : ((Int32.ofNat k < 31) = (k < 31)) := io_lt hk (by decide)
theorem iob31 {k : Nat} (hk : k < 2147483648) : ((31 < Int32.ofNat k) = (31 < k)) := io_lt (by decide) hk
theorem ioc31 {k : Nat} (hk : k < 2147483648) : ((Int32.ofNat k ≤ 31) = (k ≤ 31)) := io_le hk (by decide)
theorem iod31 {k : Nat} (hk : k < 2147483648) : ((31 ≤ Int32.ofNat k) = (31 ≤ k)) := io_le (by decide) hk
theorem ioe31 {k : Nat} (hk : k < 2147483648) : ((Int32.ofNat k = 31) = (k = 31)) := io_eq hk (by decide)
theorem ioa32 {k : Nat} (hk : k < 2147483648) : ((Int32.ofNat k < 32) = (k < 32)) := io_lt hk (by decide)
theorem iob32 {k : Nat} (hk : k < 2147483648) : ((32 < Int32.ofNat k) = (32 < k)) := io_lt (by decide) hk
theorem ioc32 {k : Nat} (hk : k < 2147483648) : ((Int32.ofNat k ≤ 32) = (k ≤ 32)) := io_le hk (by decide)
theorem iod32 {k : Nat} (hk : k < 2147483648) : ((32 ≤ Int32.ofNat k) = (32 ≤ k)) := io_le (by decide) hk
theorem ioe32 {k : Nat} (hk : k < 2147483648) : ((Int32.ofNat k = 32) = (k = 32)) := io_eq hk (by decide)
theorem ioa33 {k : Nat} (hk : k < 2147483648) : ((Int32.ofNat k < 33) = (k < 33)) := io_lt hk (by decide)
theorem iob33 {k : Nat} (hk : k < 2147483648) : ((33 < Int32.ofNat k) = (33 < k)) := io_lt (by decide) hk
theorem ioc33 {k : Nat} (hk : k < 2147483648) : ((Int32.ofNat k ≤ 33) = (k ≤ 33)) := io_le hk (by decide)
theorem iod33 {k : Nat} (hk : k < 2147483648) : ((33 ≤ Int32.ofNat k) = (33 ≤ k)) := io_le (by decide) hk
theorem ioe33 {k : Nat} (hk : k < 2147483648) : ((Int32.ofNat k = 33) = (k = 33)) := io_eq hk (by decide)
theorem ioa41 {k : Nat} (hk : k < 2147483648) : ((Int32.ofNat k < 41) = (k < 41)) := io_lt hk (by decide)
theorem iob41 {k : Nat} (hk : k < 2147483648) : ((41 < Int32.ofNat k) = (41 < k)) := io_lt (by decide) hk
theorem ioc41 {k : Nat} (hk : k < 2147483648) : ((Int32.ofNat k ≤ 41) = (k ≤ 41)) := io_le hk (by decide)
theorem iod41 {k : Nat} (hk : k < 2147483648) : ((41 ≤ Int32.ofNat k) = (41 ≤ k)) := io_le (by decide) hk
theorem ioe41 {k : Nat} (hk : k < 2147483648) : ((Int32.ofNat k = 41) = (k = 41)) := io_eq hk (by decide)
theorem ioa48 {k : Nat} (hk : k < 2147483648) : ((Int32.ofNat k < 48) = (k < 48)) := io_lt hk (by decide)
theorem iob48 {k : Nat} (hk : k < 2147483648) : ((48 < Int32.ofNat k) = (48 < k)) := io_lt (by decide) hk
theorem ioc48 {k : Nat} (hk : k < 2147483648) : ((Int32.ofNat k ≤ 48) = (k ≤ 48)) := io_le hk (by decide)
theorem iod48 {k : Nat} (hk : k < 2147483648) : ((48 ≤ Int32.ofNat k) = (48 ≤ k)) := io_le (by decide) hk
theorem ioe48 {k : Nat} (hk : k < 2147483648) : ((Int32.ofNat k = 48) = (k = 48)) := io_eq hk (by decide)
theorem ioa57 {k : Nat} (hk : k < 2147483648) : ((Int32.ofNat k < 57) = (k < 57)) := io_lt hk (by decide)
theorem iob57 {k : Nat} (hk : k < 2147483648) : ((57 < Int32.ofNat k) = (57 < k)) := io_lt (by decide) hk
theorem ioc57 {k : Nat} (hk : k < 2147483648) : ((Int32.ofNat k ≤ 57) = (k ≤ 57)) := io_le hk (by decide)
theorem iod57 {k : Nat} (hk : k < 2147483648) : ((57 ≤ Int32.ofNat k) = (57 ≤ k)) := io_le (by decide) hk
theorem ioe57 {k : Nat} (hk : k < 2147483648) : ((Int32.ofNat k = 57) = (k = 57)) := io_eq hk (by decide)
theorem ioa59 {k : Nat} (hk : k < 2147483648) : ((Int32.ofNat k < 59) = (k < 59)) := io_lt hk (by decide)
theorem iob59 {k : Nat} (hk : k < 2147483648) : ((59 < Int32.ofNat k) = (59 < k)) := io_lt (by decide) hk
theorem ioc59 {k : Nat} (hk : k < 2147483648) : ((Int32.ofNat k ≤ 59) = (k ≤ 59)) := io_le hk (by decide)
theorem iod59 {k : Nat} (hk : k < 2147483648) : ((59 ≤ Int32.ofNat k) = (59 ≤ k)) := io_le (by decide) hk
theorem ioe59 {k : Nat} (hk : k < 2147483648) : ((Int32.ofNat k = 59) = (k = 59)) := io_eq hk (by decide)
theorem ioa60 {k : Nat} (hk : k < 2147483648) : ((Int32.ofNat k < 60) = (k < 60)) := io_lt hk (by decide)
theorem iob60 {k : Nat} (hk : k < 2147483648) : ((60 < Int32.ofNat k) = (60 < k)) := io_lt (by decide) hk
theorem ioc60 {k : Nat} (hk : k < 2147483648) : ((Int32.ofNat k ≤ 60) = (k ≤ 60)) := io_le hk (by decide)
theorem iod60 {k : Nat} (hk : k < 2147483648) : ((60 ≤ Int32.ofNat k) = (60 ≤ k)) := io_le (by decide) hk
theorem ioe60 {k : Nat} (hk : k < 2147483648) : ((Int32.ofNat k = 60) = (k = 60)) := io_eq hk (by decide)
theorem ioa63 {k : Nat} (hk : k < 2147483648) : ((Int32.ofNat k < 63) = (k < 63)) := io_lt hk (by decide)
theorem iob63 {k : Nat} (hk : k < 2147483648) : ((63 < Int32.ofNat k) = (63 < k)) := io_lt (by decide) hk
theorem ioc63 {k : Nat} (hk : k < 2147483648) : ((Int32.ofNat k ≤ 63) = (k ≤ 63)) := io_le hk (by decide)
theorem iod63 {k : Nat} (hk : k < 2147483648) : ((63 ≤ Int32.ofNat k) = (63 ≤ k)) := io_le (by decide) hk
theorem ioe63 {k : Nat} (hk : k < 2147483648) : ((Int32.ofNat k = 63) = (k = 63)) := io_eq hk (by decide)
theorem ioa126 {k : Nat} (hk : k < 2147483648) : ((Int32.ofNat k < 126) = (k < 126)) := io_lt hk (by decide)
theorem iob126 {k : Nat} (hk : k < 2147483648) : ((126 < Int32.ofNat k) = (126 < k)) := io_lt (by decide) hk
theorem ioc126 {k : Nat} (hk : k < 2147483648) : ((Int32.ofNat k ≤ 126) = (k ≤ 126)) := io_le hk (by decide)
theorem iod126 {k : Nat} (hk : k < 2147483648) : ((126 ≤ Int32.ofNat k) = (126 ≤ k)) := io_le (by decide) hk
theorem ioe126 {k : Nat} (hk : k < 2147483648) : ((Int32.ofNat k = 126) = (k = 126)) := io_eq hk (by decide)
theorem ioa255 {k : Nat} (hk : k < 2147483648) : ((Int32.ofNat k < 255) = (k < 255)) := io_lt hk (by decide)
theorem iob255 {k : Nat} (hk : k < 2147483648) : ((255 < Int32.ofNat k) = (255 < k)) := io_lt (by decide) hk
theorem ioc255 {k : Nat} (hk : k < 2147483648) : ((Int32.ofNat k ≤ 255) = (k ≤ 255)) := io_le hk (by decide)
theorem iod255 {k : Nat} (hk : k < 2147483648) : ((255 ≤ Int32.ofNat k) = (255 ≤ k)) := io_le (by decide) hk
theorem ioe255 {k : Nat} (hk : k < 2147483648) : ((Int32.ofNat k = 255) = (k = 255)) := io_eq hk (by decide)
theorem ioa287 {k : Nat} (hk : k < 2147483648) : ((Int32.ofNat k < 287) = (k < 287)) := io_lt hk (by decide)
theorem iob287 {k : Nat} (hk : k < 2147483648) : ((287 < Int32.ofNat k) = (287 < k)) := io_lt (by decide) hk
theorem ioc287 {k : Nat} (hk : k < 2147483648) : ((Int32.ofNat k ≤ 287) = (k ≤ 287)) := io_le hk (by decide)
theorem iod287 {k : Nat} (hk : k < 2147483648) : ((287 ≤ Int32.ofNat k) = (287 ≤ k)) := io_le (by decide) hk
theorem ioe287 {k : Nat} (hk : k < 2147483648) : ((Int32.ofNat k = 287) = (k = 287)) := io_eq hk (by decide)
theorem ioa328 {k : Nat} (hk : k < 2147483648) : ((Int32.ofNat k < 328) = (k < 328)) := io_lt hk (by decide)
theorem iob328 {k : Nat} (hk : k < 2147483648) : ((328 < Int32.ofNat k) = (328 < k)) := io_lt (by decide) hk
theorem ioc328 {k : Nat} (hk : k < 2147483648) : ((Int32.ofNat k ≤ 328) = (k ≤ 328)) := io_le hk (by decide)
theorem iod328 {k : Nat} (hk : k < 2147483648) : ((328 ≤ Int32.ofNat k) = (328 ≤ k)) := io_le (by decide) hk
theorem ioe328 {k : Nat} (hk : k < 2147483648) : ((Int32.ofNat k = 328) = (k = 328)) := io_eq hk (by decide)
theorem vi0 {n : Nat} : (vp_in 0 n) = (0 < n) := io_in (a := 0) (by decide)
theorem vi1 {n : Nat} : (vp_in 1 n) = (1 < n) := io_in (a := 1) (by decide)
theorem vi2 {n : Nat} : (vp_in 2 n) = (2 < n) := io_in (a := 2) (by decide)
theorem vi3 {n : Nat} : (vp_in 3 n) = (3 < n) := io_in (a := 3) (by decide)
theorem vi4 {n : Nat} : (vp_in 4 n) = (4 < n) := io_in (a := 4) (by decide)
theorem vi5 {n : Nat} : (vp_in 5 n) = (5 < n) := io_in (a := 5) (by decide)
theorem vi6 {n : Nat} : (vp_in 6 n) = (6 < n) := io_in (a := 6) (by decide)
theorem vi7 {n : Nat} : (vp_in 7 n) = (7 < n) := io_in (a := 7) (by decide)
theorem vi8 {n : Nat} : (vp_in 8 n) = (8 < n) := io_in (a := 8) (by decide)
theorem vi9 {n : Nat} : (vp_in 9 n) = (9 < n) := io_in (a := 9) (by decide)
theorem vi10 {n : Nat} : (vp_in 10 n) = (10 < n) := io_in (a := 10) (by decide)
theorem vi11 {n : Nat} : (vp_in 11 n) = (11 < n) := io_in (a := 11) (by decide)
theorem vi12 {n : Nat} : (vp_in 12 n) = (12 < n) := io_in (a := 12) (by decide)
theorem vi13 {n : Nat} : (vp_in 13 n) = (13 < n) := io_in (a := 13) (by decide)
theorem vi14 {n : Nat} : (vp_in 14 n) = (14 < n) := io_in (a := 14) (by decide)
theorem vi15 {n : Nat} : (vp_in 15 n) = (15 < n) := io_in (a := 15) (by decide)
theorem vi16 {n : Nat} : (vp_in 16 n) = (16 < n) := io_in (a := 16) (by decide)
theorem vi17 {n : Nat} : (vp_in 17 n) = (17 < n) := io_in (a := 17) (by decide)
theorem vi18 {n : Nat} : (vp_in 18 n) = (18 < n) := io_in (a := 18) (by decide)
theorem vi19 {n : Nat} : (vp_in 19 n) = (19 < n) := io_in (a := 19) (by decide)
theorem vi20 {n : Nat} : (vp_in 20 n) = (20 < n) := io_in (a := 20) (by decide)
theorem vi21 {n : Nat} : (vp_in 21 n) = (21 < n) := io_in (a := 21) (by decide)
theorem vi22 {n : Nat} : (vp_in 22 n) = (22 < n) := io_in (a := 22) (by decide)
theorem vi23 {n : Nat} : (vp_in 23 n) = (23 < n) := io_in (a := 23) (by decide)
theorem vi24 {n : Nat} : (vp_in 24 n) = (24 < n) := io_in (a := 24) (by decide)
theorem vi25 {n : Nat} : (vp_in 25 n) = (25 < n) := io_in (a := 25) (by decide)
theorem vi26 {n : Nat} : (vp_in 26 n) = (26 < n) := io_in (a := 26) (by decide)
theorem vi27 {n : Nat} : (vp_in 27 n) = (27 < n) := io_in (a := 27) (by decide)
theorem vi28 {n : Nat} : (vp_in 28 n) = (28 < n) := io_in (a := 28) (by decide)
theorem vi29 {n : Nat} : (vp_in 29 n) = (29 < n) := io_in (a := 29) (by decide)
theorem vi30 {n : Nat} : (vp_in 30 n) = (30 < n) := io_in (a := 30) (by decide)
theorem vi31 {n : Nat} : (vp_in 31 n) = (31 < n) := io_in (a := 31) (by decide)
theorem vi32 {n : Nat} : (vp_in 32 n) = (32 < n) := io_in (a := 32) (by decide)
theorem vi33 {n : Nat} : (vp_in 33 n) = (33 < n) := io_in (a := 33) (by decide)
theorem vi34 {n : Nat} : (vp_in 34 n) = (34 < n) := io_in (a := 34) (by decide)
theorem vi35 {n : Nat} : (vp_in 35 n) = (35 < n) := io_in (a := 35) (by decide)
theorem vi36 {n : Nat} : (vp_in 36 n) = (36 < n) := io_in (a := 36) (by decide)
theorem vi37 {n : Nat} : (vp_in 37 n) = (37 < n) := io_in (a := 37) (by decide)
theorem vi38 {n : Nat} : (vp_in 38 n) = (38 < n) := io_in (a := 38) (by decide)
theorem vi39 {n : Nat} : (vp_in 39 n) = (39 < n) := io_in (a := 39) (by decide)
theorem vi40 {n : Nat} : (vp_in 40 n) = (40 < n) := io_in (a := 40) (by decide)
theorem vi41 {n : Nat} : (vp_in 41 n) = (41 < n) := io_in (a := 41) (by decide)
theorem io_0 : Int32.ofNat 0 = 0 := rfl
/-- a truth as an int -/
def bI (b : Bool) : Int32 := if b then 1 else 0
theorem bI0 {b : Bool} : (bI b = 0) = (b = false) := by cases b <;> simp [bI]
theorem bI1 {b : Bool} : (bI b = 1) = (b = true) := by cases b <;> simp [bI]
theorem bIt : bI true = 1 := rfl
theorem bIf : bI false = 0 := rfl
theorem bId {p : Prop} [Decidable p] : bI (decide p) = if p then 1 else 0 := by by_cases h : p <;> simp [bI, h]
theorem bIz {b : Bool} : (bI b = 0 ∨ bI b = 1) = True := by cases b <;> simp [bI]
theorem bIn {b : Bool} : (narrow .boolean (.int (bI b)) = .int (bI b)) = True := by cases b <;> simp [bI, nb0, nb1]
theorem qbI {p : Prop} [Decidable p] {Q : AQ} {w : AW} : ((p → Q (.inl (some (.int 1))) w) ∧ (¬ p → Q (.inl (some (.int 0))) w)) = Q (.inl (some (.int (bI (decide p))))) w := by
  by_cases h : p <;> simp [h, bI]
theorem qbN {p : Prop} [Decidable p] {Q : AQ} {w : AW} : ((p → Q (.inl (some (.int 0))) w) ∧ (¬ p → Q (.inl (some (.int 1))) w)) = Q (.inl (some (.int (bI (decide (¬ p)))))) w := by
  by_cases h : p <;> simp [h, bI]
