/-! what a program decides of the rows: definitions -/
/-- the words that stay -/
def gw : List Cond := lw_tbl.filter goodWord
def pcs (k b : Nat) : Nat := match (mT k).1.drop b with
  | [] => 0
  | r :: _ => r.1
def icOf : Nat → Nat
  | 0 => 62
  | 1 => 137
  | 2 => 201
  | 3 => 234
  | _ => 179
def exNames : List String := ["java/lang/RuntimeException", "java/lang/Exception"]
def inW (p : Nat) (w : Cond) : Bool := decide (lw_tbl[p]? = some w) && goodWord w
theorem inW_gw {p : Nat} {w : Cond} (h : inW p w = true) : w ∈ gw := by
  simp only [inW, Bool.and_eq_true, decide_eq_true_eq] at h
  exact List.mem_filter.mpr ⟨List.mem_of_getElem? h.1, h.2⟩
def ilen : Instr → Nat
  | .aload _ => 2 | .iload _ => 2 | .dload _ => 2 | .istore _ => 2 | .astore _ => 2 | .dstore _ => 2
  | .bipush _ => 2 | .sipush _ => 3 | .iinc _ _ => 3 | .getfield _ => 3 | .putfield _ => 3 | .getstatic _ => 3
  | .ldc _ => 2 | .ldc_w _ => 3 | .new _ => 3 | .newarray _ => 2 | .anewarray _ => 3 | .ifCond _ _ => 3 | .if_icmp _ _ => 3
  | .ifnull _ => 3 | .ifnonnull _ => 3 | .goto _ => 3 | .invokevirtual _ => 3 | .invokespecial _ => 3 | .invokestatic _ => 3
  | _ => 1
def isSw : Instr → Bool
  | .tableswitch _ _ _ _ => true
  | .lookupswitch _ _ => true
  | .athrow => true
  | _ => false
/-- the row is the method's own at this place -/
def ckD (k pc len : Nat) (i : Instr) : Bool := decide (decode (mB k) pc = .ok (i, len)) && (isSw i || len == ilen i)
/-- the rows of a tableswitch are its data -/
def tsOk (k pc : Nat) (df lo hi : Int) (offs : Array Int) (td : Nat) (l : List Nat) : Bool :=
  decide (0 ≤ lo) && decide (hi < 2 ^ 31) && decide (hi + 1 - lo = (offs.size : Int)) && decide (l.length = 2 * offs.size) && decide ((pc : Int) + df = (pcs k td : Int)) &&
  (List.range offs.size).all (fun j => decide (l[2 * j]? = some (lo.toNat + j)) && (match l[2 * j + 1]?, offs[j]? with
    | some t, some o => decide ((pc : Int) + o = (pcs k t : Int))
    | _, _ => false))
/-- the rows of a lookupswitch are its data -/
def lsOk (k pc : Nat) : List (Int × Int) → List Nat → Bool
  | [], [] => true
  | (a, o) :: r, key :: t :: l => decide (a = (key : Int)) && decide (key < 2 ^ 31) && decide ((pc : Int) + o = (pcs k t : Int)) && lsOk k pc r l
  | _, _ => false
/-- the words of a method: its code first -/
def codeW (k : Nat) : Cond := match mHH k with
  | [] => .code (mY k) (mB k) (mL k) (mT k).2.2.2
  | hh => .codeWith (mY k) (mB k) (mL k) (mT k).2.2.2 hh
/-- the table of handlers is the method's, and what is behind each of them -/
def hck (k pc : Nat) : List String → List (Nat × Nat × Nat × Nat) → List (String × Nat × Nat) → List Nat → Bool
  | _, [], [], _ => true
  | pre, (a, b, hp, ct) :: hh, (nm, t, n) :: hs, q :: qs => decide (a ≤ pc ∧ pc < b) && decide (ct ≠ 0) && inW q (.classLink (mY k).cls ct nm) && decide ((nm, nm) ∈ xCast) && (pre.all fun z => decide ((nm, z) ∈ xNc)) &&
      ((decide (decode (mB k) hp = .ok (.astore n, 2)) && decide (hp + 2 = pcs k t)) || (decide (n < 4) && decide (decode (mB k) hp = .ok (.astore_n (Fin.ofNat 4 n), 1)) && decide (hp + 1 = pcs k t))) && hck k pc (nm :: pre) hh hs qs
  | _, _, _, _ => false
/-- the row that stands for 'throw new X(text)' -/
def ckT (k pc : Nat) (d : List Nat) : Bool := match d with
  | [ei, ik, is, ic, wd, p1, p2] => decide (ei < 5) && decide ((mY k).cls = "GlowwormGrid") && decide (ic = icOf ei) && inW p1 (.classLink "GlowwormGrid" ik (exName ei)) && inW p2 (.initialized (exName ei)) && xEx.any (fun q => q.1 == "GlowwormGrid" && q.2.1 == is) &&
      decide (mHH k = []) && decide (6 ≤ (mRm k).frames) && decide (90 ≤ (mRm k).locals) &&
      decide (decode (mB k) pc = .ok (.new ik, 3)) && decide (decode (mB k) (pc + 3) = .ok (.dup, 1)) &&
      ((decide (wd = 0) && decide (decode (mB k) (pc + 4) = .ok (.ldc is, 2)) && decide (decode (mB k) (pc + 6) = .ok (.invokespecial ic, 3)) && decide (decode (mB k) (pc + 9) = .ok (.athrow, 1))) ||
       (decide (wd = 1) && decide (decode (mB k) (pc + 4) = .ok (.ldc_w is, 3)) && decide (decode (mB k) (pc + 7) = .ok (.invokespecial ic, 3)) && decide (decode (mB k) (pc + 10) = .ok (.athrow, 1))))
  | _ => true
def mW (k j : Nat) : Nat := (mWs.getD k []).getD j 0
def ckMb (k : Nat) : Bool := inW (mW k 0) (codeW k) && inW (mW k 1) (.initialized (mY k).cls) && (plainFor (mY k) && (decide (mHH k = []) || plainName (mY k).cls)) && decide ((mY k).cls ≠ "java/lang/invoke/MethodHandle") && decide ((mY k).cls ≠ "java/lang/invoke/VarHandle") && decide (pcs k 0 = 0)
def pmd (y : MethodName) (n : Nat) : Bool := decide ((parseMethodDescriptor y.desc).map (fun d => d.parameters.length) = some n)
def ckCb (k pc ix : Nat) (d : List Nat) (op : Nat) : Bool := match d with
  | [k', na, ml, mc, ms, kd, ci, pl] => decide (k' < 253) && decide (ml = mL k') && decide (na ≤ mL k') && decide (mc = (mT k').2.2.1.1) && decide (ms = (mT k').2.2.1.2) && decide ((mRm k').frames + 1 ≤ (mRm k).frames) && decide (8 + (mL k' + 11) + (mRm k').locals ≤ (mRm k).locals) &&
      ((decide ((mT k).2.1 = []) && decide (mHH k = [])) || hck k pc [] (mHH k) (mT k).2.1 (mHPs.getD k [])) &&
      ((decide (op = 0) && decide (kd = 0) && decide (mHH k' = []) && inW pl (.methodLink (mY k).cls ix (mY k')) && inW (mW k' 2) (.instanceMethod (mY k')) && inW (mW k' 3) (.selects (mY k').cls (mY k') (mY k')) && decide (ci < 7 ∨ ci = 100) && decide (xR ci = (mY k').cls) && decide (0 < na) && pmd (mY k') (na - 1)) ||
       (decide (op = 1) && decide (kd = 1) && decide (mHH k' = []) && inW pl (.methodLink (mY k).cls ix (mY k')) && inW (mW k' 2) (.static (mY k')) && pmd (mY k') na) ||
       (decide (op = 1) && decide (kd = 2) && decide (mHH k' ≠ []) && inW pl (.methodLink (mY k).cls ix (mY k')) && inW (mW k' 2) (.static (mY k')) && pmd (mY k') na) ||
       (decide (op = 2) && decide (kd = 3) && decide (mHH k' = []) && inW pl (.methodLink (mY k).cls ix (mY k')) && inW (mW k' 2) (.instanceMethod (mY k')) && decide ((mY k').name = "<init>") && decide ((mT k').2.2.2 = none) && decide (0 < na) && pmd (mY k') (na - 1)) ||
       (decide (op = 2) && decide (kd = 4) && decide (mHH k' = []) && decide (((mY k).cls, ix, mY k') ∈ xNest) && inW (mW k' 2) (.instanceMethod (mY k')) && decide ((mY k').name = "<init>") && decide ((mT k').2.2.2 = none) && decide (0 < na) && pmd (mY k') (na - 1)))
  | _ => true
def ckB (k pc : Nat) (off : Int) (d : List Nat) : Bool := match d with
  | [t] => decide ((pc : Int) + off = (pcs k t : Int))
  | _ => true
def isObj : Option FieldType → Bool
  | some (.object _) => true
  | _ => false
/-- one row -/
def ckRow (k pc : Nat) (i : Instr) (d : List Nat) : Bool := match i with
  | .getfield n => (match d with
    | [ci, kk, pi] => (decide (ci < 7 ∧ kk < xN ci) || decide (ci = 100) || decide (ci = 101)) && inW pi (.fieldLink (mY k).cls n (xF ci kk).1 (xF ci kk).2.1 (xF ci kk).2.2.1)
    | _ => true)
  | .putfield n => (match d with
    | [ci, kk, pi, t, _] => decide (kk < xN ci) && inW pi (.fieldLink (mY k).cls n (xF ci kk).1 (xF ci kk).2.1 (xF ci kk).2.2.1) && (!(xF ci kk).2.2.2 || (decide ((mY k).name = "<init>") && decide ((xF ci kk).1 = (mY k).cls))) &&
        decide ((t = 0 → xT ci kk = .int) ∧ (t = 1 → xT ci kk = .char) ∧ (t = 2 → xT ci kk = .boolean) ∧ (3 ≤ t → (xT ci kk).isReference = true))
    | _ => true)
  | .getstatic n => (match d with
    | [j, pi] => inW pi (.fieldLink (mY k).cls n (xS j).1 (xS j).2.1 (xS j).2.2)
    | _ => true)
  | .ldc n => (match d with
    | [0, v, pi] => inW pi (.constant (mY k).cls n (Int32.ofNat v))
    | [1, x, _] => xLd.any (fun q => q.1 == (mY k).cls && (q.2.1 == n && q.2.2.2 == x))
    | _ => true)
  | .ldc_w n => (match d with
    | [0, v, pi] => inW pi (.constant (mY k).cls n (Int32.ofNat v))
    | [1, _, _] => false
    | _ => true)
  | .new n => (match d with
    | [ci, N, p1, p2, p3] => decide (ci < 7) && decide (N = xN ci) && inW p1 (.classLink (mY k).cls n (xR ci)) && inW p2 (.instantiable (xR ci) (xN ci)) && inW p3 (.initialized (xR ci))
    | _ => true)
  | .newarray ty => (match d with
    | [t, p1] => decide (t < 3) && decide (newarray.typeOf ty = aty t) && inW p1 (.arrayClass (newarray.typeOf ty))
    | _ => true)
  | .anewarray n => (match d with
    | [_, p1, _] => inW p1 (.classLink (mY k).cls n "GlowwormGrid$Board")
    | _ => true)
  | .ifCond _ off => ckB k pc off d
  | .if_icmp _ off => ckB k pc off d
  | .ifnull off => ckB k pc off d
  | .ifnonnull off => ckB k pc off d
  | .goto off => ckB k pc off d
  | .tableswitch df lo hi offs => (match d with
    | td :: l => tsOk k pc df lo hi offs td l
    | _ => true)
  | .lookupswitch df ps => (match d with
    | td :: l => decide ((pc : Int) + df = (pcs k td : Int)) && lsOk k pc ps.toList l && (ps.toList.zip (ps.toList.drop 1)).all (fun (a, next) => a.1 < next.1)
    | _ => true)
  | .return_ => decide ((mT k).2.2.2 = none)
  | .dreturn => decide ((mT k).2.2.2 = some .double)
  | .freturn => decide ((mT k).2.2.2 = some .float)
  | .areturn => isObj (mT k).2.2.2
  | .athrow => ckT k pc d
  | .invokevirtual n => (match d with
    | [_, _, _] => decide (n = 327) && decide ((mY k).cls = "GlowwormGrid") && decide (1 ≤ (mRm k).frames) && decide (20 ≤ (mRm k).locals)
    | _ => ckCb k pc n d 0)
  | .invokespecial n => (match d with
    | [pi] => decide (1 ≤ (mRm k).frames) && decide (20 ≤ (mRm k).locals) && inW pi (.methodLink (mY k).cls n Lib.objectInit)
    | _ => ckCb k pc n d 2)
  | .invokestatic n => (match d with
    | [pi] => decide (1 ≤ (mRm k).frames) && decide (26 ≤ (mRm k).locals) && inW pi (.methodLink (mY k).cls n arraycopyName)
    | _ => ckCb k pc n d 1)
  | _ => true
def isThr : Instr → Bool
  | .athrow => true
  | _ => false
def falls : Instr → Bool
  | .tableswitch _ _ _ _ => false
  | .lookupswitch _ _ => false
  | .athrow => false
  | .goto _ => false
  | .ireturn => false
  | .areturn => false
  | .dreturn => false
  | .freturn => false
  | .return_ => false
  | _ => true
/-- the rows of a method -/
def ckRs (k : Nat) : List RI → Bool
  | [] => true
  | (pc, len, i, d) :: is => (isThr i || ckD k pc len i) && ckRow k pc i d && (!falls i || (match is with
    | [] => true
    | r :: _ => decide (r.1 = pc + ilen i))) && ckRs k is
/-- n rows -/
def ckN (k : Nat) : Nat → List RI → Bool
  | 0, _ => true
  | _ + 1, [] => true
  | n + 1, (pc, len, i, d) :: is => (isThr i || ckD k pc len i) && ckRow k pc i d && (!falls i || (match is with
    | [] => true
    | r :: _ => decide (r.1 = pc + ilen i))) && ckN k n is
theorem ckN_of {k : Nat} : ∀ (n : Nat) (is : List RI), ckN k n is = true → ckRs k (is.drop n) = true → ckRs k is = true
  | 0, is, _, h => h
  | n + 1, [], _, h => h
  | n + 1, (pc, len, i, d) :: is, h, g => by
    simp only [ckN, Bool.and_eq_true] at h
    simp only [ckRs, Bool.and_eq_true]
    exact ⟨h.1, ckN_of n is h.2 g⟩
theorem ckN_go {k a n : Nat} {is : List RI} (h : ckN k n (is.drop a) = true) (g : ckRs k (is.drop (a + n)) = true) : ckRs k (is.drop a) = true :=
  ckN_of n _ h (by rw [List.drop_drop]; exact g)
