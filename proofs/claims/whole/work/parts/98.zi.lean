/-! the elimination, once for all due lights: a row is its unknowns and the lights that it stands for -/
abbrev RW : Type := Nat × Nat
abbrev ES : Type := List RW × List Nat × Nat
def gR (l : List RW) (i : Nat) : RW := l.getD i (0, 0)
def mpA (h : Nat → RW → RW) : Nat → List RW → List RW
  | _, [] => []
  | i, x :: l => h i x :: mpA h (i + 1) l
/-- the first row from place k on with an unknown; as many as there are: none -/
def fdA (c : Nat) : List RW → Nat → Nat → Nat
  | [], _, i => i
  | x :: l, k, i => if k ≤ i ∧ x.1.testBit c = true then i else fdA c l k (i + 1)
def elA (c k : Nat) (p : RW) (i : Nat) (x : RW) : RW := if i = k then p else if x.1.testBit c = true then (x.1 ^^^ p.1, x.2 ^^^ p.2) else x
/-- one unknown is solved for, or free -/
def gs (c : Nat) (t : ES) : ES :=
  let k := t.2.1.length
  let f := fdA c t.1 k 0
  if f < t.1.length then (mpA (elA c k (gR t.1 f)) 0 (t.1.set f (gR t.1 k)), t.2.1 ++ [c], t.2.2) else (t.1, t.2.1, t.2.2 ||| 1 <<< c)
def rngF {S : Type} (f : Nat → S → S) : Nat → S → S
  | 0, s => s
  | n + 1, s => f n (rngF f n s)
/-- the reaches, by unknown; the reference's rows -/
def arN (p : Int32) (r c k : Nat) : Nat := (arM p r c k).toBitVec.toNat
def isCl (r c j : Nat) : Bool := decide (j % 6 < c ∧ j / 6 < r)
def kk (c j : Nat) : Nat := j / 6 * c + j % 6
def rowsM (p : Int32) (r c : Nat) : List RW := (List.range (r * c)).map fun k => (arN p r c k, 1 <<< k)
def rowsC (p : Int32) (r c : Nat) : List RW := (List.range 30).map fun j => if isCl r c j = true then (arN p r c (kk c j), 1 <<< kk c j) else (0, 0)
def endM (p : Int32) (r c : Nat) : ES := rngF gs (r * c) (rowsM p r c, [], 0)
def endC (p : Int32) (r c : Nat) : ES := rngF (fun j t => if isCl r c j = true then gs (kk c j) t else t) 30 (rowsC p r c, [], 0)
/-- a mask less those of a list -/
def red : List Nat → Nat → Nat
  | [], v => v
  | b :: l, v => red l (if v ^^^ b < v then v ^^^ b else v)
def bas : List Nat → List Nat → List Nat
  | [], B => B
  | z :: l, B => let v := red B z; bas l (if v = 0 then B else v :: B)
def zer (t : ES) : List Nat := (t.1.drop t.2.1.length).map fun x => x.2
/-- a quiet set -/
def qsA (rows : List RW) : List Nat → Nat → Nat → Nat
  | [], _, _ => 0
  | q :: l, i, c => (if (gR rows i).1.testBit c = true then 1 <<< q else 0) ||| qsA rows l (i + 1) c
def qls (N : Nat) (t : ES) : List Nat := ((List.range N).filter fun c => t.2.2.testBit c).map fun c => 1 <<< c ||| qsA t.1 t.2.1 0 c
/-- both eliminations agree -/
def ckE (p : Int32) (r c : Nat) : Bool :=
  let M := endM p r c
  let K := endC p r c
  let zm := zer M
  let zc := zer K
  let bm := bas zm []
  let bc := bas zc []
  let qm := qls (r * c) M
  decide (K.2.1 = M.2.1) && (decide (K.2.2 = M.2.2) && (decide ((List.range M.2.1.length).map (fun i => (gR K.1 i).1) = (List.range M.2.1.length).map (fun i => (gR M.1 i).1)) &&
  (zm.all (fun v => decide (red bc v = 0)) && (zc.all (fun v => decide (red bm v = 0)) && ((List.range M.2.1.length).all (fun i => decide (red bm ((gR K.1 i).2 ^^^ (gR M.1 i).2) = 0)) &&
  (qm.all (fun v => decide (red bm v = 0)) && (zm.all (fun v => decide (red (bas qm []) v = 0)) &&
  (((M.1.drop M.2.1.length).all fun x => decide (x.1 = 0)) && ((K.1.drop M.2.1.length).all fun x => decide (x.1 = 0))))))))))
def ckA (p : Int32) : Bool := (List.range 6).all fun r => (List.range 6).all fun c => ckE p r c
theorem ck_p : ckA 43 = true := by decide +kernel
theorem ck_x : ckA 120 = true := by decide +kernel
theorem ck_o : ckA 111 = true := by decide +kernel
theorem ck_s : ckA 115 = true := by decide +kernel
theorem ck_all {p : Int32} {r c : Nat} (hp : iS p = true) (hr : r ≤ 5) (hc : c ≤ 5) : ckE p r c = true := by
  have h : ckA p = true := by
    unfold iS at hp
    simp only [Bool.or_eq_true, decide_eq_true_eq] at hp
    rcases hp with ((e | e) | e) | e <;> subst e
    · exact ck_p
    · exact ck_x
    · exact ck_o
    · exact ck_s
  exact List.all_eq_true.mp (List.all_eq_true.mp h r (List.mem_range.mpr (by omega))) c (List.mem_range.mpr (by omega))
