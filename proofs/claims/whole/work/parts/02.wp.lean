/-! Class tables, by program: own classes, fields in order, types, default values. -/
def kF_0 : u_T := fun k => match k with
  | 0 => ("GlowwormGrid$Board", "rows", "I", false)
  | 1 => ("GlowwormGrid$Board", "columns", "I", false)
  | 2 => ("GlowwormGrid$Board", "cells", "I", false)
  | 3 => ("GlowwormGrid$Board", "pattern", "C", false)
  | 4 => ("GlowwormGrid$Board", "lit", "I", false)
  | 5 => ("GlowwormGrid$Board", "litAtRecordStart", "I", false)
  | 6 => ("GlowwormGrid$Board", "goals", "I", false)
  | 7 => ("GlowwormGrid$Board", "steps", "I", false)
  | 8 => ("GlowwormGrid$Board", "presses", "[I", true)
  | _ => ("GlowwormGrid$Board", "worms", "LGlowwormGrid$Worms;", true)
def kt_0 : Nat → FieldType := fun k => match k with
  | 0 => .int
  | 1 => .int
  | 2 => .int
  | 3 => .char
  | 4 => .int
  | 5 => .int
  | 6 => .int
  | 7 => .int
  | 8 => (.array .int)
  | _ => (.object "GlowwormGrid$Worms")
def kF_1 : u_T := fun k => match k with
  | 0 => ("GlowwormGrid$CommandText", "characters", "[C", true)
  | _ => ("GlowwormGrid$CommandText", "length", "I", false)
def kt_1 : Nat → FieldType := fun k => match k with
  | 0 => (.array .char)
  | _ => .int
def kF_2 : u_T := fun k => match k with
  | 0 => ("GlowwormGrid$History", "boards", "[LGlowwormGrid$Board;", true)
  | 1 => ("GlowwormGrid$History", "next", "I", false)
  | _ => ("GlowwormGrid$History", "count", "I", false)
def kt_2 : Nat → FieldType := fun k => match k with
  | 0 => (.array (.object "GlowwormGrid$Board"))
  | 1 => .int
  | _ => .int
def kF_3 : u_T := fun k => match k with
  | 0 => ("GlowwormGrid$Solver", "equations", "[I", true)
  | 1 => ("GlowwormGrid$Solver", "solvedFor", "[I", true)
  | 2 => ("GlowwormGrid$Solver", "solvedCount", "I", false)
  | 3 => ("GlowwormGrid$Solver", "quietSets", "[I", true)
  | _ => ("GlowwormGrid$Solver", "quietCount", "I", false)
def kt_3 : Nat → FieldType := fun k => match k with
  | 0 => (.array .int)
  | 1 => (.array .int)
  | 2 => .int
  | 3 => (.array .int)
  | _ => .int
def kF_4 : u_T := fun k => match k with
  | 0 => ("GlowwormGrid$Worms", "count", "I", false)
  | 1 => ("GlowwormGrid$Worms", "cells", "[I", true)
  | _ => ("GlowwormGrid$Worms", "directions", "[I", true)
def kt_4 : Nat → FieldType := fun k => match k with
  | 0 => .int
  | 1 => (.array .int)
  | _ => (.array .int)
def kF_5 : u_T := fun k => match k with
  | 0 => ("GlowwormGrid", "board", "LGlowwormGrid$Board;", true)
  | 1 => ("GlowwormGrid", "before", "LGlowwormGrid$Board;", true)
  | 2 => ("GlowwormGrid", "snapshot", "LGlowwormGrid$Board;", true)
  | 3 => ("GlowwormGrid", "hasSnapshot", "Z", false)
  | 4 => ("GlowwormGrid", "history", "LGlowwormGrid$History;", true)
  | 5 => ("GlowwormGrid", "solver", "LGlowwormGrid$Solver;", true)
  | 6 => ("GlowwormGrid", "text", "LGlowwormGrid$CommandText;", true)
  | 7 => ("GlowwormGrid", "lastErrorPosition", "I", false)
  | 8 => ("GlowwormGrid", "lastFailedCommand", "I", false)
  | 9 => ("GlowwormGrid", "line", "[C", true)
  | _ => ("GlowwormGrid", "lineLength", "I", false)
def kt_5 : Nat → FieldType := fun k => match k with
  | 0 => (.object "GlowwormGrid$Board")
  | 1 => (.object "GlowwormGrid$Board")
  | 2 => (.object "GlowwormGrid$Board")
  | 3 => .boolean
  | 4 => (.object "GlowwormGrid$History")
  | 5 => (.object "GlowwormGrid$Solver")
  | 6 => (.object "GlowwormGrid$CommandText")
  | 7 => .int
  | 8 => .int
  | 9 => (.array .char)
  | _ => .int
def kF_6 : u_T := fun k => match k with
  | 0 => ("GlowwormGridModel", "g", "[I", true)
  | 1 => ("GlowwormGridModel", "kept", "[I", true)
  | 2 => ("GlowwormGridModel", "saved", "[I", true)
  | 3 => ("GlowwormGridModel", "before", "[I", true)
  | 4 => ("GlowwormGridModel", "isSaved", "Z", false)
  | 5 => ("GlowwormGridModel", "changes", "I", false)
  | 6 => ("GlowwormGridModel", "isWithin", "Z", false)
  | 7 => ("GlowwormGridModel", "code", "I", false)
  | 8 => ("GlowwormGridModel", "input", "[I", true)
  | 9 => ("GlowwormGridModel", "length", "I", false)
  | 10 => ("GlowwormGridModel", "fault", "I", false)
  | 11 => ("GlowwormGridModel", "failed", "I", false)
  | 12 => ("GlowwormGridModel", "signs", "[C", true)
  | 13 => ("GlowwormGridModel", "signMany", "I", false)
  | 14 => ("GlowwormGridModel", "row", "[I", true)
  | 15 => ("GlowwormGridModel", "pivot", "[I", true)
  | 16 => ("GlowwormGridModel", "quiet", "[I", true)
  | 17 => ("GlowwormGridModel", "rank", "I", false)
  | 18 => ("GlowwormGridModel", "quietMany", "I", false)
  | 19 => ("GlowwormGridModel", "found", "I", false)
  | 20 => ("GlowwormGridModel", "at", "I", false)
  | 21 => ("GlowwormGridModel", "told", "[I", true)
  | _ => ("GlowwormGridModel", "toldMany", "I", false)
def kt_6 : Nat → FieldType := fun k => match k with
  | 0 => (.array .int)
  | 1 => (.array .int)
  | 2 => (.array .int)
  | 3 => (.array .int)
  | 4 => .boolean
  | 5 => .int
  | 6 => .boolean
  | 7 => .int
  | 8 => (.array .int)
  | 9 => .int
  | 10 => .int
  | 11 => .int
  | 12 => (.array .char)
  | 13 => .int
  | 14 => (.array .int)
  | 15 => (.array .int)
  | 16 => (.array .int)
  | 17 => .int
  | 18 => .int
  | 19 => .int
  | 20 => .int
  | 21 => (.array .int)
  | _ => .int
abbrev kcl : List vw_C := [("GlowwormGrid$Board", kF_0, 10), ("GlowwormGrid$CommandText", kF_1, 2), ("GlowwormGrid$History", kF_2, 3), ("GlowwormGrid$Solver", kF_3, 5), ("GlowwormGrid$Worms", kF_4, 3), ("GlowwormGrid", kF_5, 11), ("GlowwormGridModel", kF_6, 23)]
/-- the fields of a new object -/
def kD : Nat → List Value
  | 0 => [.int 0, .int 0, .int 0, .int 0, .int 0, .int 0, .int 0, .int 0, .null, .null]
  | 1 => [.null, .int 0]
  | 2 => [.null, .int 0, .int 0]
  | 3 => [.null, .null, .int 0, .null, .int 0]
  | 4 => [.int 0, .null, .null]
  | 5 => [.null, .null, .null, .int 0, .null, .null, .null, .int 0, .int 0, .null, .int 0]
  | 6 => [.null, .null, .null, .null, .int 0, .int 0, .int 0, .int 0, .null, .int 0, .int 0, .int 0, .null, .int 0, .null, .null, .null, .int 0, .int 0, .int 0, .int 0, .null, .int 0]
  | _ => []
/-- the first number of a cell that is made in the run: those before it were there, and are only read -/
abbrev k0 : Nat := 59
/-! AN ABSTRACT MACHINE: what an instruction does to locals, operands and a world of cells that are told by numbers, as a predicate transformer.
RI: pc, length, instruction, link data. AC: a cell: an array (tag, length, contents) or an object (class number, fields). AW: cells by number, the next number, sealed (no more making). -/
abbrev RI : Type := Nat × Nat × Instr × List Nat
abbrev AC : Type := (Nat × vp_A) ⊕ (Nat × List Value)
abbrev AW : Type := (Nat → Option AC) × Nat × Bool
abbrev AO : Type := Option Value ⊕ String
abbrev AQ : Type := AO → AW → Prop
/-- a judgement: method, place, cells made, slots made, locals, operands, world, what must hold at the end -/
abbrev AG : Type := Nat → Nat → Nat → Nat → List Value → List Value → AW → AQ → Prop
/-- a local that nothing is known of -/
abbrev xk : Value := .retAddr 0
def lg : List Value → Nat → Value
  | [], _ => xk
  | v :: _, 0 => v
  | _ :: l, n + 1 => lg l n
def lset : List Value → Nat → Value → List Value
  | [], _, _ => []
  | _ :: l, 0, v => v :: l
  | x :: l, n + 1, v => x :: lset l n v
/-- a store at n does not cut a value of two words -/
def lok (ls : List Value) : Nat → Prop
  | 0 => True
  | n + 1 => (lg ls n).category = 1
def padl : List Value → Nat → List Value
  | [], n => List.replicate n xk
  | v :: l, n + 1 => v :: padl l n
  | _ :: _, 0 => []
def cats : List Value → Nat
  | [] => 0
  | v :: l => v.category + cats l
def upw (f : Nat → Option AC) (i : Nat) (c : AC) : Nat → Option AC := fun j => if j = i then some c else f j
def exName : Nat → String
  | 0 => "java/lang/IllegalArgumentException"
  | 1 => "java/lang/IndexOutOfBoundsException"
  | 2 => "java/lang/IllegalStateException"
  | 3 => "java/util/NoSuchElementException"
  | _ => "java/lang/UnsupportedOperationException"
def okRet (r : Option FieldType) (v : Int32) : Prop := match r with
  | some .int => True
  | some t => narrow t (.int v) = .int v
  | none => False
def okPut (t : Nat) (v : Value) : Prop := match t with
  | 0 => match v with
    | .int _ => True
    | _ => False
  | 1 => match v with
    | .int x => narrow .char (.int x) = .int x ∧ fits .char (.int x) = true
    | _ => False
  | 2 => match v with
    | .int x => x = 0 ∨ x = 1
    | _ => False
  | _ => match v with
    | .ref _ => True
    | _ => False

/-- where an instruction leads: on to the next one, to another place, to the end, into a call -/
abbrev TG : Type := (Nat × Nat × List Value × List Value × AW) ⊕ ((Nat × Nat × Nat × List Value × List Value × AW) ⊕ ((AO × AW) ⊕ (Nat × List Value × AW × Nat × Nat × List Value × List Value)))
/-- what must hold, and the roads: each under its condition -/
abbrev SD : Type := Option (Prop × List (Prop × TG))
abbrev nx (kc ks : Nat) (ls st : List Value) (w : AW) : SD := some (True, [(True, .inl (kc, ks, ls, st, w))])
abbrev nxr (P : Prop) (kc ks : Nat) (ls st : List Value) (w : AW) : SD := some (P, [(True, .inl (kc, ks, ls, st, w))])
abbrev jm (t kc ks : Nat) (ls st : List Value) (w : AW) : TG := .inr (.inl (t, kc, ks, ls, st, w))
def tkr : Nat → List Value → List Value → Option (List Value × List Value)
  | 0, acc, st => some (acc, st)
  | n + 1, acc, v :: st => tkr n (v :: acc) st
  | _ + 1, _, [] => none
/-- values of one word -/
def cat1 : List Value → Prop
  | [] => True
  | v :: l => v.category = 1 ∧ cat1 l
def rcv (w : AW) (kd ci : Nat) (as : List Value) : Prop := match kd with
  | 1 => True
  | 2 => True
  | 3 => ∃ a, as.head? = some (.ref a)
  | 4 => ∃ a, as.head? = some (.ref a)
  | _ => match as with
    | .ref a :: _ => match w.1 a with
      | some (.inr (c, _)) => c = ci
      | _ => False
    | _ => False
def br (c : ClassFile.Cond) (x y : Int32) (a b : TG) : SD := match c with
  | .eq => some (True, [(x = y, a), (¬ x = y, b)])
  | .ne => some (True, [(¬ x = y, a), (x = y, b)])
  | .lt => some (True, [(x < y, a), (¬ x < y, b)])
  | .ge => some (True, [(y ≤ x, a), (¬ y ≤ x, b)])
  | .gt => some (True, [(y < x, a), (¬ y < x, b)])
  | .le => some (True, [(x ≤ y, a), (¬ x ≤ y, b)])
def swt (x : Int32) (g : Nat → TG) (d : Nat) : List Nat → Prop → List (Prop × TG)
  | k :: t :: l, P => (P ∧ x = Int32.ofNat k, g t) :: swt x g d l (P ∧ ¬ x = Int32.ofNat k)
  | _, P => [(P, g d)]
def arr0 : Nat → (Nat → Int32) ⊕ (Nat → Int64) ⊕ (Nat → UInt32) ⊕ (Nat → UInt64) ⊕ (Nat → Option Nat)
  | 2 => .inr (.inl (fun _ => 0))
  | 3 => .inr (.inr (.inr (.inr (fun _ => none))))
  | _ => .inl (fun _ => 0)
def hfind : List (String × Nat × Nat) → String → Option (Nat × Nat)
  | [], _ => none
  | (n, t, x) :: l, E => if E = n then some (t, x) else hfind l E

/-- the load of a local: of an int, of a reference -/
def ldi (ls : List Value) (n : Nat) (f : Value → SD) : SD := match lg ls n with
  | .int x => f (.int x)
  | _ => none
def lda (ls : List Value) (n : Nat) (f : Value → SD) : SD := match lg ls n with
  | .ref x => f (.ref x)
  | .null => f .null
  | _ => none
def ldd (ls : List Value) (n : Nat) (f : Value → SD) : SD := match lg ls n with
  | .double x => f (.double x)
  | _ => none
/-- what an instruction does -/
def sd (cap : Nat × Nat) (hs : List (String × Nat × Nat)) (rt : Option FieldType) (i : Instr) (d : List Nat) (kc ks : Nat) (ls st : List Value) (w : AW) : SD := match i with
  | .aload n => lda ls n fun v => nx kc ks ls (v :: st) w
  | .aload_n n => lda ls n fun v => nx kc ks ls (v :: st) w
  | .iload n => ldi ls n fun v => nx kc ks ls (v :: st) w
  | .iload_n n => ldi ls n fun v => nx kc ks ls (v :: st) w
  | .dload n => ldd ls n fun v => nx kc ks ls (v :: st) w
  | .iconst n => nx kc ks ls (.int (Int32.ofInt n) :: st) w
  | .bipush n => nx kc ks ls (.int (Int8.ofInt n).toInt32 :: st) w
  | .sipush n => nx kc ks ls (.int (Int16.ofInt n).toInt32 :: st) w
  | .lconst n => nx kc ks ls (.long (Int64.ofNat n) :: st) w
  | .aconst_null => nx kc ks ls (.null :: st) w
  | .istore n => match st with
    | .int x :: st => nxr (lok ls n ∧ n < ls.length) kc ks (lset ls n (.int x)) st w
    | _ => none
  | .istore_n n => match st with
    | .int x :: st => nxr (lok ls n ∧ n < ls.length) kc ks (lset ls n (.int x)) st w
    | _ => none
  | .astore n => match st with
    | .ref x :: st => nxr (lok ls n ∧ n < ls.length) kc ks (lset ls n (.ref x)) st w
    | .null :: st => nxr (lok ls n ∧ n < ls.length) kc ks (lset ls n .null) st w
    | _ => none
  | .astore_n n => match st with
    | .ref x :: st => nxr (lok ls n ∧ n < ls.length) kc ks (lset ls n (.ref x)) st w
    | .null :: st => nxr (lok ls n ∧ n < ls.length) kc ks (lset ls n .null) st w
    | _ => none
  | .dstore n => match st with
    | .double x :: st => nxr (lok ls n ∧ n + 1 < ls.length) kc ks (lset (lset ls n (.double x)) (n + 1) xk) st w
    | _ => none
  | .iinc n c => match lg ls n with
    | .int x => nxr (lok ls n ∧ n < ls.length) kc ks (lset ls n (.int (x + Int32.ofInt c))) st w
    | _ => none
  | .iadd => match st with
    | .int y :: .int x :: st => nx kc ks ls (.int (x + y) :: st) w
    | _ => none
  | .isub => match st with
    | .int y :: .int x :: st => nx kc ks ls (.int (x - y) :: st) w
    | _ => none
  | .imul => match st with
    | .int y :: .int x :: st => nx kc ks ls (.int (x * y) :: st) w
    | _ => none
  | .iand => match st with
    | .int y :: .int x :: st => nx kc ks ls (.int (x &&& y) :: st) w
    | _ => none
  | .ior => match st with
    | .int y :: .int x :: st => nx kc ks ls (.int (x ||| y) :: st) w
    | _ => none
  | .ixor => match st with
    | .int y :: .int x :: st => nx kc ks ls (.int (x ^^^ y) :: st) w
    | _ => none
  | .ishl => match st with
    | .int y :: .int x :: st => nx kc ks ls (.int (x <<< (y &&& 31)) :: st) w
    | _ => none
  | .ishr => match st with
    | .int y :: .int x :: st => nx kc ks ls (.int (x >>> (y &&& 31)) :: st) w
    | _ => none
  | .iushr => match st with
    | .int y :: .int x :: st => nx kc ks ls (.int ((x.toUInt32 >>> (y.toUInt32 &&& Int32.toUInt32 31)).toInt32) :: st) w
    | _ => none
  | .idiv => match st with
    | .int y :: .int x :: st => nxr (¬ y = 0) kc ks ls (.int (x / y) :: st) w
    | _ => none
  | .irem => match st with
    | .int y :: .int x :: st => nxr (¬ y = 0) kc ks ls (.int (x - x / y * y) :: st) w
    | _ => none
  | .ineg => match st with
    | .int x :: st => nx kc ks ls (.int (-x) :: st) w
    | _ => none
  | .i2l => match st with
    | .int x :: st => nx kc ks ls (.long x.toInt64 :: st) w
    | _ => none
  | .i2c => match st with
    | .int x :: st => nx kc ks ls (.int (x.toUInt32 % 65536).toInt32 :: st) w
    | _ => none
  | .i2b => match st with
    | .int x :: st => nx kc ks ls (.int x.toInt8.toInt32 :: st) w
    | _ => none
  | .i2f => match st with
    | .int x :: st => nx kc ks ls (.float (FP.i2f x) :: st) w
    | _ => none
  | .i2d => match st with
    | .int x :: st => nx kc ks ls (.double (FP.i2d x) :: st) w
    | _ => none
  | .f2d => match st with
    | .float x :: st => nxr (vf_n64 (FP.f2d x)) kc ks ls (.double (FP.f2d x) :: st) w
    | _ => none
  | .fdiv => match st with
    | .float y :: .float x :: st => nxr (vf_n32 (FP.fdiv x y)) kc ks ls (.float (FP.fdiv x y) :: st) w
    | _ => none
  | .ddiv => match st with
    | .double y :: .double x :: st => nxr (vf_n64 (FP.ddiv x y)) kc ks ls (.double (FP.ddiv x y) :: st) w
    | _ => none
  | .lcmp => match st with
    | .long y :: .long x :: st => nx kc ks ls (.int (lg_cmp x y) :: st) w
    | _ => none
  | .dcmp op => match st with
    | .double y :: .double x :: st => nx kc ks ls (.int (Op.cmpValue (FP.dcmp x y) op) :: st) w
    | _ => none
  | .dup => match st with
    | v :: st => nxr (v.category = 1) kc ks ls (v :: v :: st) w
    | _ => none
  | .dup2 => match st with
    | v :: u :: st => nxr (v.category = 1 ∧ u.category = 1) kc ks ls (v :: u :: v :: u :: st) w
    | _ => none
  | .pop => match st with
    | v :: st => nxr (v.category = 1) kc ks ls st w
    | _ => none
  | .getfield _ => match d, st with
    | [ci, kk, _], .ref a :: st => match w.1 a with
      | some (.inr (c, fs)) => match fs[kk]? with
        | some v => nxr (c = ci) kc ks ls (v :: st) w
        | none => none
      | _ => none
    | _, _ => none
  | .putfield _ => match d, st with
    | [ci, kk, _, t, _], v :: .ref a :: st => match w.1 a with
      | some (.inr (c, fs)) => nxr (c = ci ∧ k0 ≤ a ∧ kk < fs.length ∧ okPut t v) kc ks ls st (upw w.1 a (.inr (c, fs.set kk v)), w.2)
      | _ => none
    | _, _ => none
  | .getstatic _ => match d with
    | [j, _] => match w.1 1 with
      | some (.inr (c, fs)) => match fs[j]? with
        | some v => nxr (c = 102) kc ks ls (v :: st) w
        | none => none
      | _ => none
    | _ => none
  | .ldc _ => match d with
    | [0, n, _] => nx kc ks ls (.int (Int32.ofNat n) :: st) w
    | [1, e, _] => nx kc ks ls (.ref e :: st) w
    | _ => none
  | .ldc_w _ => match d with
    | [0, n, _] => nx kc ks ls (.int (Int32.ofNat n) :: st) w
    | [1, e, _] => nx kc ks ls (.ref e :: st) w
    | _ => none
  | .new _ => match d with
    | [ci, n, _, _, _] => nxr (w.2.2 = false ∧ kc + 1 ≤ cap.1 ∧ ks + n ≤ cap.2) (kc + 1) (ks + n) ls (.ref w.2.1 :: st) (upw w.1 w.2.1 (.inr (ci, kD ci)), w.2.1 + 1, w.2.2)
    | _ => none
  | .newarray _ => match d, st with
    | [t, _], .int n :: st => nxr (w.2.2 = false ∧ ¬ n < 0 ∧ n.toNatClampNeg ≤ 1000 ∧ kc + 1 ≤ cap.1 ∧ ks + n.toNatClampNeg ≤ cap.2) (kc + 1) (ks + n.toNatClampNeg) ls (.ref w.2.1 :: st) (upw w.1 w.2.1 (.inl (t, n.toNatClampNeg, arr0 t)), w.2.1 + 1, w.2.2)
    | _, _ => none
  | .anewarray _ => match d, st with
    | [t, _, _], .int n :: st => nxr (t = 3 ∧ w.2.2 = false ∧ ¬ n < 0 ∧ n.toNatClampNeg ≤ 1000 ∧ kc + 1 ≤ cap.1 ∧ ks + n.toNatClampNeg ≤ cap.2) (kc + 1) (ks + n.toNatClampNeg) ls (.ref w.2.1 :: st) (upw w.1 w.2.1 (.inl (t, n.toNatClampNeg, arr0 t)), w.2.1 + 1, w.2.2)
    | _, _ => none
  | .arraylength => match st with
    | .ref a :: st => match w.1 a with
      | some (.inl (t, n, _)) => nxr (t < 4 ∨ a < k0) kc ks ls (.int (Int32.ofNat n) :: st) w
      | _ => none
    | _ => none
  | .iaload => match st with
    | .int j :: .ref a :: st => match w.1 a with
      | some (.inl (t, n, .inl f)) => nxr (t = 0 ∧ vp_in j n) kc ks ls (.int (f j.toNatClampNeg) :: st) w
      | _ => none
    | _ => none
  | .caload => match st with
    | .int j :: .ref a :: st => match w.1 a with
      | some (.inl (t, n, .inl f)) => nxr (t = 1 ∧ vp_in j n) kc ks ls (.int (f j.toNatClampNeg) :: st) w
      | _ => none
    | _ => none
  | .baload => match st with
    | .int j :: .ref a :: st => match w.1 a with
      | some (.inl (t, n, .inl f)) => nxr (t = 4 ∧ a < k0 ∧ vp_in j n) kc ks ls (.int (f j.toNatClampNeg) :: st) w
      | _ => none
    | _ => none
  | .laload => match st with
    | .int j :: .ref a :: st => match w.1 a with
      | some (.inl (t, n, .inr (.inl f))) => nxr (t = 2 ∧ vp_in j n) kc ks ls (.long (f j.toNatClampNeg) :: st) w
      | _ => none
    | _ => none
  | .aaload => match st with
    | .int j :: .ref a :: st => match w.1 a with
      | some (.inl (t, n, .inr (.inr (.inr (.inr f))))) => nxr ((t = 3 ∨ (t = 5 ∧ a < k0)) ∧ vp_in j n) kc ks ls (va_rf (f j.toNatClampNeg) :: st) w
      | _ => none
    | _ => none
  | .iastore => match st with
    | .int x :: .int j :: .ref a :: st => match w.1 a with
      | some (.inl (t, n, .inl f)) => nxr (t = 0 ∧ k0 ≤ a ∧ vp_in j n) kc ks ls st (upw w.1 a (.inl (t, n, .inl (upd f j.toNatClampNeg x))), w.2)
      | _ => none
    | _ => none
  | .castore => match st with
    | .int x :: .int j :: .ref a :: st => match w.1 a with
      | some (.inl (t, n, .inl f)) => nxr (t = 1 ∧ k0 ≤ a ∧ vp_in j n ∧ okPut 1 (.int x)) kc ks ls st (upw w.1 a (.inl (t, n, .inl (upd f j.toNatClampNeg x))), w.2)
      | _ => none
    | _ => none
  | .lastore => match st with
    | .long x :: .int j :: .ref a :: st => match w.1 a with
      | some (.inl (t, n, .inr (.inl f))) => nxr (t = 2 ∧ k0 ≤ a ∧ vp_in j n) kc ks ls st (upw w.1 a (.inl (t, n, .inr (.inl (vp_updL f j.toNatClampNeg x)))), w.2)
      | _ => none
    | _ => none
  | .aastore => match st with
    | .ref x :: .int j :: .ref a :: st => match w.1 a with
      | some (.inl (t, n, .inr (.inr (.inr (.inr f))))) => nxr (t = 3 ∧ k0 ≤ a ∧ vp_in j n ∧ rcv w 0 0 [.ref x] ∧ k0 ≤ x) kc ks ls st (upw w.1 a (.inl (t, n, .inr (.inr (.inr (.inr (va_up f j.toNatClampNeg (some x))))))), w.2)
      | _ => none
    | _ => none
  | .ifCond c _ => match d, st with
    | [t], .int x :: st => br c x 0 (jm t kc ks ls st w) (.inl (kc, ks, ls, st, w))
    | _, _ => none
  | .if_icmp c _ => match d, st with
    | [t], .int y :: .int x :: st => br c x y (jm t kc ks ls st w) (.inl (kc, ks, ls, st, w))
    | _, _ => none
  | .ifnull _ => match d, st with
    | [_], .ref _ :: st => nx kc ks ls st w
    | [t], .null :: st => some (True, [(True, jm t kc ks ls st w)])
    | _, _ => none
  | .ifnonnull _ => match d, st with
    | [t], .ref _ :: st => some (True, [(True, jm t kc ks ls st w)])
    | [_], .null :: st => nx kc ks ls st w
    | _, _ => none
  | .goto _ => match d with
    | [t] => some (True, [(True, jm t kc ks ls st w)])
    | _ => none
  | .tableswitch _ _ _ _ => match d, st with
    | td :: l, .int x :: st => some (True, swt x (fun t => jm t kc ks ls st w) td l True)
    | _, _ => none
  | .lookupswitch _ _ => match d, st with
    | td :: l, .int x :: st => some (True, swt x (fun t => jm t kc ks ls st w) td l True)
    | _, _ => none
  | .ireturn => match st with
    | [.int x] => some (okRet rt x, [(True, .inr (.inr (.inl (.inl (some (.int x)), w))))])
    | _ => none
  | .areturn => match st with
    | [.ref x] => some (True, [(True, .inr (.inr (.inl (.inl (some (.ref x)), w))))])
    | [.null] => some (True, [(True, .inr (.inr (.inl (.inl (some .null), w))))])
    | _ => none
  | .dreturn => match st with
    | [.double x] => some (True, [(True, .inr (.inr (.inl (.inl (some (.double x)), w))))])
    | _ => none
  | .freturn => match st with
    | [.float x] => some (True, [(True, .inr (.inr (.inl (.inl (some (.float x)), w))))])
    | _ => none
  | .return_ => match st with
    | [] => some (True, [(True, .inr (.inr (.inl (.inl none, w))))])
    | _ => none
  | .athrow => match d with
    | [ei, _, _, _, _, _, _] => some (hs = [] ∧ kc + 1 ≤ cap.1 ∧ ks + 6 ≤ cap.2 ∧ cats st ≤ 8, [(True, .inr (.inr (.inl (.inr (exName ei), (w.1, w.2.1, true)))))])
    | _ => none
  | .invokevirtual _ => match d with
    | [_, _, _] => match st with
      | .ref a :: st => match w.1 a with
        | some (.inr (c, .int x :: _)) => nxr (c = 101 ∧ a < k0 ∧ cats st ≤ 8) kc ks ls (.int x :: st) w
        | _ => none
      | _ => none
    | [k', na, ml, mc, ms, kd, ci, _] => match tkr na [] st with
      | some (as, st') => some (rcv w kd ci as ∧ cat1 as ∧ kc + mc ≤ cap.1 ∧ ks + ms ≤ cap.2 ∧ cats st' ≤ 8, [(True, .inr (.inr (.inr (k', padl as ml, w, kc + mc, ks + ms, ls, st'))))])
      | none => none
    | _ => none
  | .invokespecial _ => match d with
    | [_] => match st with
      | .ref _ :: st => nxr (cats st ≤ 8) kc ks ls st w
      | _ => none
    | [k', na, ml, mc, ms, kd, ci, _] => match tkr na [] st with
      | some (as, st') => some (rcv w kd ci as ∧ cat1 as ∧ kc + mc ≤ cap.1 ∧ ks + ms ≤ cap.2 ∧ cats st' ≤ 8, [(True, .inr (.inr (.inr (k', padl as ml, w, kc + mc, ks + ms, ls, st'))))])
      | none => none
    | _ => none
  | .invokestatic _ => match d with
    | [_] => match st with
      | .int n :: .int dp :: .ref a1 :: .int sp :: .ref a0 :: st => match w.1 a0, w.1 a1 with
        | some (.inl (t0, n0, .inl f)), some (.inl (t1, n1, .inl g)) => nxr (t0 = 0 ∧ t1 = 0 ∧ k0 ≤ a0 ∧ k0 ≤ a1 ∧ a0 ≠ a1 ∧ ¬ sp < 0 ∧ ¬ dp < 0 ∧ ¬ n < 0 ∧ sp.toNatClampNeg + n.toNatClampNeg ≤ n0 ∧ dp.toNatClampNeg + n.toNatClampNeg ≤ n1 ∧ cats st ≤ 8) kc ks ls st (upw w.1 a1 (.inl (t1, n1, .inl (va_cpy f g sp.toNatClampNeg dp.toNatClampNeg n.toNatClampNeg))), w.2)
        | _, _ => none
      | _ => none
    | [k', na, ml, mc, ms, kd, ci, _] => match tkr na [] st with
      | some (as, st') => some (rcv w kd ci as ∧ cat1 as ∧ kc + mc ≤ cap.1 ∧ ks + ms ≤ cap.2 ∧ cats st' ≤ 8, [(True, .inr (.inr (.inr (k', padl as ml, w, kc + mc, ks + ms, ls, st'))))])
      | none => none
    | _ => none
  | _ => none

/-- behind a call: the answer, or the throw -/
def aft (G : AG) (k : Nat) (hs : List (String × Nat × Nat)) (kc ks : Nat) (ls st : List Value) (Q : AQ) (K : List Value → AW → Prop) : AQ := fun o w => match o with
  | .inl none => K st w
  | .inl (some v) => K (v :: st) w
  | .inr E => match hs with
    | [] => Q (.inr E) w
    | _ => match hfind hs E with
      | some (t, n) => lok ls n ∧ n < ls.length ∧ G k t kc ks (lset ls n xk) [] w Q
      | none => False
def itg (G : AG) (k : Nat) (hs : List (String × Nat × Nat)) (Q : AQ) (K : Nat → Nat → List Value → List Value → AW → Prop) : TG → Prop
  | .inl (kc, ks, ls, st, w) => K kc ks ls st w
  | .inr (.inl (t, kc, ks, ls, st, w)) => G k t kc ks ls st w Q
  | .inr (.inr (.inl (o, w))) => Q o w
  | .inr (.inr (.inr (k', el, w, kc, ks, ls, st))) => G k' 0 0 0 el [] w (aft G k hs kc ks ls st Q (fun st w => K kc ks ls st w))
def iob (G : AG) (k : Nat) (hs : List (String × Nat × Nat)) (Q : AQ) (K : Nat → Nat → List Value → List Value → AW → Prop) : List (Prop × TG) → Prop
  | [] => True
  | (P, t) :: l => (P → itg G k hs Q K t) ∧ iob G k hs Q K l
def isd (G : AG) (k : Nat) (hs : List (String × Nat × Nat)) (Q : AQ) (K : Nat → Nat → List Value → List Value → AW → Prop) : SD → Prop
  | none => False
  | some (P, l) => P ∧ iob G k hs Q K l
/-- what must hold ahead of a row of instructions -/
def wp (G : AG) (k : Nat) (hs : List (String × Nat × Nat)) (cap : Nat × Nat) (rt : Option FieldType) (Q : AQ) : List RI → Nat → Nat → List Value → List Value → AW → Prop
  | [], _, _, _, _, _ => False
  | (_, _, i, d) :: is, kc, ks, ls, st, w => isd G k hs Q (wp G k hs cap rt Q is) (sd cap hs rt i d kc ks ls st w)
theorem itg_mono {G1 G2 : AG} {Q1 Q2 : AQ} {k : Nat} {hs : List (String × Nat × Nat)} {K1 K2 : Nat → Nat → List Value → List Value → AW → Prop}
    (hG : ∀ k b kc ks ls st w R R', (∀ o w, R o w → R' o w) → G1 k b kc ks ls st w R → G2 k b kc ks ls st w R') (hQ : ∀ o w, Q1 o w → Q2 o w) (hK : ∀ kc ks ls st w, K1 kc ks ls st w → K2 kc ks ls st w) :
    ∀ t, itg G1 k hs Q1 K1 t → itg G2 k hs Q2 K2 t
  | .inl _, h => hK _ _ _ _ _ h
  | .inr (.inl _), h => hG _ _ _ _ _ _ _ _ _ hQ h
  | .inr (.inr (.inl _)), h => hQ _ _ h
  | .inr (.inr (.inr (k', el, w, kc, ks, ls, st))), h => by
    refine hG _ _ _ _ _ _ _ _ _ (fun o w' h' => ?_) h
    unfold aft at h' ⊢
    match o, h' with
    | .inl none, h' => exact hK _ _ _ _ _ h'
    | .inl (some v), h' => exact hK _ _ _ _ _ h'
    | .inr E, h' =>
      dsimp only at h' ⊢
      cases hs with
      | nil => exact hQ _ _ h'
      | cons a l =>
        dsimp only at h' ⊢
        cases hfd : hfind (a :: l) E with
        | none => rw [hfd] at h'; exact h'
        | some q => rw [hfd] at h'; exact ⟨h'.1, h'.2.1, hG _ _ _ _ _ _ _ _ _ hQ h'.2.2⟩
theorem iob_mono {G1 G2 : AG} {Q1 Q2 : AQ} {k : Nat} {hs : List (String × Nat × Nat)} {K1 K2 : Nat → Nat → List Value → List Value → AW → Prop}
    (hG : ∀ k b kc ks ls st w R R', (∀ o w, R o w → R' o w) → G1 k b kc ks ls st w R → G2 k b kc ks ls st w R') (hQ : ∀ o w, Q1 o w → Q2 o w) (hK : ∀ kc ks ls st w, K1 kc ks ls st w → K2 kc ks ls st w) :
    ∀ l, iob G1 k hs Q1 K1 l → iob G2 k hs Q2 K2 l
  | [], _ => trivial
  | (_, t) :: l, h => ⟨fun p => itg_mono hG hQ hK t (h.1 p), iob_mono hG hQ hK l h.2⟩
theorem wp_mono {G1 G2 : AG} {k : Nat} {hs : List (String × Nat × Nat)} {cap : Nat × Nat} {rt : Option FieldType} {Q1 Q2 : AQ}
    (hG : ∀ k b kc ks ls st w R R', (∀ o w, R o w → R' o w) → G1 k b kc ks ls st w R → G2 k b kc ks ls st w R') (hQ : ∀ o w, Q1 o w → Q2 o w) :
    ∀ (is : List RI) (kc ks : Nat) (ls st : List Value) (w : AW), wp G1 k hs cap rt Q1 is kc ks ls st w → wp G2 k hs cap rt Q2 is kc ks ls st w
  | [], _, _, _, _, _, h => h
  | (_, _, i, d) :: is, kc, ks, ls, st, w, h => by
    unfold wp at h ⊢
    cases hsd : sd cap hs rt i d kc ks ls st w with
    | none => rw [hsd] at h; exact h
    | some q => rw [hsd] at h; exact ⟨h.1, iob_mono hG hQ (wp_mono hG hQ is) _ h.2⟩
/-- a judgement that is closed under the rows of a table of methods -/
def Clo (T : Nat → List RI × List (String × Nat × Nat) × (Nat × Nat) × Option FieldType) (G : AG) : Prop :=
  ∀ (k b kc ks : Nat) (ls st : List Value) (w : AW) (Q : AQ), wp G k (T k).2.1 (T k).2.2.1 (T k).2.2.2 Q ((T k).1.drop b) kc ks ls st w → G k b kc ks ls st w Q
/-- the least one -/
def Lfp (T : Nat → List RI × List (String × Nat × Nat) × (Nat × Nat) × Option FieldType) : AG := fun k b kc ks ls st w Q =>
  ∀ G : AG, (∀ (k b kc ks : Nat) (ls st : List Value) (w : AW) (R R' : AQ), (∀ o w, R o w → R' o w) → G k b kc ks ls st w R → G k b kc ks ls st w R') → Clo T G → G k b kc ks ls st w Q
theorem Lfp.mono {T : Nat → List RI × List (String × Nat × Nat) × (Nat × Nat) × Option FieldType} (k b kc ks : Nat) (ls st : List Value) (w : AW) (R R' : AQ) (h : ∀ o w, R o w → R' o w) (g : Lfp T k b kc ks ls st w R) : Lfp T k b kc ks ls st w R' :=
  fun G hm hc => hm _ _ _ _ _ _ _ _ _ h (g G hm hc)
theorem Lfp.fold {T : Nat → List RI × List (String × Nat × Nat) × (Nat × Nat) × Option FieldType} {k b kc ks : Nat} {ls st : List Value} {w : AW} {Q : AQ}
    (h : wp (Lfp T) k (T k).2.1 (T k).2.2.1 (T k).2.2.2 Q ((T k).1.drop b) kc ks ls st w) : Lfp T k b kc ks ls st w Q := fun G hm hc =>
  hc _ _ _ _ _ _ _ _ (wp_mono (fun k b kc ks ls st w R R' hR hg => hm _ _ _ _ _ _ _ _ _ hR (hg G hm hc)) (fun _ _ h => h) _ _ _ _ _ _ h)

