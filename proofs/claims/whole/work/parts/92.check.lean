/-! what a program decides of all rows -/
def mW (k j : Nat) : Nat := (mWs.getD k []).getD j 0
def ckMb (k : Nat) : Bool := inW (mW k 0) (codeW k) && inW (mW k 1) (.initialized (mY k).cls) && (plainFor (mY k) && (decide (mHH k = []) || plainName (mY k).cls)) && decide ((mY k).cls ≠ "java/lang/invoke/MethodHandle") && decide ((mY k).cls ≠ "java/lang/invoke/VarHandle") && decide (pcs k 0 = 0)
theorem ckMb_of {k : Nat} (h : ckMb k = true) : ckM k := by
  simp only [ckMb, Bool.and_eq_true, Bool.or_eq_true, decide_eq_true_eq] at h
  obtain ⟨⟨⟨⟨⟨h1, h2⟩, h3⟩, h4⟩, h5⟩, h6⟩ := h
  exact ⟨inW_gw h1, inW_gw h2, h3, h4, h5, h6⟩
def pmd (y : MethodName) (n : Nat) : Bool := decide ((parseMethodDescriptor y.desc).map (fun d => d.parameters.length) = some n)
def ckCb (k pc ix : Nat) (d : List Nat) (op : Nat) : Bool := match d with
  | [k', na, ml, mc, ms, kd, ci, pl] => decide (k' < 253) && decide (ml = mL k') && decide (na ≤ mL k') && decide (mc = (mT k').2.2.1.1) && decide (ms = (mT k').2.2.1.2) && decide ((mRm k').frames + 1 ≤ (mRm k).frames) && decide (8 + (mL k' + 11) + (mRm k').locals ≤ (mRm k).locals) &&
      ((decide ((mT k).2.1 = []) && decide (mHH k = [])) || hck k pc [] (mHH k) (mT k).2.1 (mHPs.getD k [])) &&
      ((decide (op = 0) && decide (kd = 0) && decide (mHH k' = []) && inW pl (.methodLink (mY k).cls ix (mY k')) && inW (mW k' 2) (.instanceMethod (mY k')) && inW (mW k' 3) (.selects (mY k').cls (mY k') (mY k')) && decide (ci < 7 ∨ ci = 100) && decide (xR ci = (mY k').cls) && decide (0 < na) && pmd (mY k') (na - 1)) ||
       (decide (op = 1) && decide (kd = 1) && decide (mHH k' = []) && inW pl (.methodLink (mY k).cls ix (mY k')) && inW (mW k' 2) (.static (mY k')) && pmd (mY k') na) ||
       (decide (op = 1) && decide (kd = 2) && decide (mHH k' ≠ []) && inW pl (.methodLink (mY k).cls ix (mY k')) && inW (mW k' 2) (.static (mY k')) && pmd (mY k') na) ||
       (decide (op = 2) && decide (kd = 3) && decide (mHH k' = []) && inW pl (.methodLink (mY k).cls ix (mY k')) && inW (mW k' 2) (.instanceMethod (mY k')) && decide ((mY k').name = "<init>") && decide ((mT k').2.2.2 = none) && decide (0 < na) && pmd (mY k') (na - 1)) ||
       (decide (op = 2) && decide (kd = 4) && decide (mHH k' = []) && decide (((mY k).cls, ix, mY k') ∈ xNest) && inW (mW k' 2) (.instanceMethod (mY k')) && decide ((mY k').name = "<init>") && decide ((mT k').2.2.2 = none) && decide (0 < na) && pmd (mY k') (na - 1)))
  | _ => true
theorem ckCb_of {k pc ix : Nat} {d : List Nat} {op : Nat} (hM : ∀ k, k < 253 → ckM k) (h : ckCb k pc ix d op = true) : ckC k pc ix d op := by
  unfold ckCb at h
  split at h
  · rename_i k' na ml mc ms kd ci pl
    simp only [Bool.and_eq_true, decide_eq_true_eq, Bool.or_eq_true, pmd] at h
    obtain ⟨⟨⟨⟨⟨⟨⟨⟨h0, h1⟩, h2⟩, h3⟩, h4⟩, h5⟩, h6⟩, h7⟩, h8⟩ := h
    refine ⟨hM _ h0, h1, h2, h3, h4, h5, h6, h7, ?_⟩
    rcases h8 with (((h | h) | h) | h) | h
    · obtain ⟨⟨⟨⟨⟨⟨⟨⟨⟨a, b⟩, c⟩, d⟩, e⟩, f⟩, g⟩, i⟩, j⟩, m⟩ := h
      exact Or.inl ⟨a, b, c, inW_gw d, inW_gw e, inW_gw f, g, i, j, m⟩
    · obtain ⟨⟨⟨⟨⟨a, b⟩, c⟩, d⟩, e⟩, m⟩ := h
      exact Or.inr (Or.inl ⟨a, b, c, inW_gw d, inW_gw e, m⟩)
    · obtain ⟨⟨⟨⟨⟨a, b⟩, c⟩, d⟩, e⟩, m⟩ := h
      exact Or.inr (Or.inr (Or.inl ⟨a, b, c, inW_gw d, inW_gw e, m⟩))
    · obtain ⟨⟨⟨⟨⟨⟨⟨⟨a, b⟩, c⟩, d⟩, e⟩, f⟩, g⟩, i⟩, m⟩ := h
      exact Or.inr (Or.inr (Or.inr (Or.inl ⟨a, b, c, inW_gw d, inW_gw e, f, g, i, m⟩)))
    · obtain ⟨⟨⟨⟨⟨⟨⟨⟨a, b⟩, c⟩, d⟩, e⟩, f⟩, g⟩, i⟩, m⟩ := h
      exact Or.inr (Or.inr (Or.inr (Or.inr ⟨a, b, c, d, inW_gw e, f, g, i, m⟩)))
  · rename_i hn
    unfold ckC
    split
    · exact absurd rfl (hn _ _ _ _ _ _ _ _)
    · trivial
def ckB (k pc : Nat) (off : Int) (d : List Nat) : Bool := match d with
  | [t] => decide ((pc : Int) + off = (pcs k t : Int))
  | _ => true
def isObj : Option FieldType → Bool
  | some (.object _) => true
  | _ => false
/-- one row -/
def ckRow (k pc : Nat) (i : Instr) (d : List Nat) : Bool := match i with
  | .getfield n => (match d with
    | [ci, kk, pi] => (decide (ci < 7 ∧ kk < xN ci) || decide (ci = 100) || decide (ci = 101)) && inW pi (.fieldLink (mY k).cls n (xF ci kk).1 (xF ci kk).2.1 (xF ci kk).2.2.1)
    | _ => true)
  | .putfield n => (match d with
    | [ci, kk, pi, t, _] => decide (kk < xN ci) && inW pi (.fieldLink (mY k).cls n (xF ci kk).1 (xF ci kk).2.1 (xF ci kk).2.2.1) && (!(xF ci kk).2.2.2 || (decide ((mY k).name = "<init>") && decide ((xF ci kk).1 = (mY k).cls))) &&
        decide ((t = 0 → xT ci kk = .int) ∧ (t = 1 → xT ci kk = .char) ∧ (t = 2 → xT ci kk = .boolean) ∧ (3 ≤ t → (xT ci kk).isReference = true))
    | _ => true)
  | .getstatic n => (match d with
    | [j, pi] => inW pi (.fieldLink (mY k).cls n (xS j).1 (xS j).2.1 (xS j).2.2)
    | _ => true)
  | .ldc n => (match d with
    | [0, v, pi] => inW pi (.constant (mY k).cls n (Int32.ofNat v))
    | [1, x, _] => xLd.any (fun q => q.1 == (mY k).cls && (q.2.1 == n && q.2.2.2 == x))
    | _ => true)
  | .ldc_w n => (match d with
    | [0, v, pi] => inW pi (.constant (mY k).cls n (Int32.ofNat v))
    | [1, _, _] => false
    | _ => true)
  | .new n => (match d with
    | [ci, N, p1, p2, p3] => decide (ci < 7) && decide (N = xN ci) && inW p1 (.classLink (mY k).cls n (xR ci)) && inW p2 (.instantiable (xR ci) (xN ci)) && inW p3 (.initialized (xR ci))
    | _ => true)
  | .newarray ty => (match d with
    | [t, p1] => decide (t < 3) && decide (newarray.typeOf ty = aty t) && inW p1 (.arrayClass (newarray.typeOf ty))
    | _ => true)
  | .anewarray n => (match d with
    | [_, p1, _] => inW p1 (.classLink (mY k).cls n "GlowwormGrid$Board")
    | _ => true)
  | .ifCond _ off => ckB k pc off d
  | .if_icmp _ off => ckB k pc off d
  | .ifnull off => ckB k pc off d
  | .ifnonnull off => ckB k pc off d
  | .goto off => ckB k pc off d
  | .tableswitch df lo hi offs => (match d with
    | td :: l => tsOk k pc df lo hi offs td l
    | _ => true)
  | .lookupswitch df ps => (match d with
    | td :: l => decide ((pc : Int) + df = (pcs k td : Int)) && lsOk k pc ps.toList l && (ps.toList.zip (ps.toList.drop 1)).all (fun (a, next) => a.1 < next.1)
    | _ => true)
  | .return_ => decide ((mT k).2.2.2 = none)
  | .dreturn => decide ((mT k).2.2.2 = some .double)
  | .freturn => decide ((mT k).2.2.2 = some .float)
  | .areturn => isObj (mT k).2.2.2
  | .athrow => ckT k pc d
  | .invokevirtual n => (match d with
    | [_, _, _] => decide (n = 327) && decide ((mY k).cls = "GlowwormGrid") && decide (1 ≤ (mRm k).frames) && decide (20 ≤ (mRm k).locals)
    | _ => ckCb k pc n d 0)
  | .invokespecial n => (match d with
    | [pi] => decide (1 ≤ (mRm k).frames) && decide (20 ≤ (mRm k).locals) && inW pi (.methodLink (mY k).cls n Lib.objectInit)
    | _ => ckCb k pc n d 2)
  | .invokestatic n => (match d with
    | [pi] => decide (1 ≤ (mRm k).frames) && decide (26 ≤ (mRm k).locals) && inW pi (.methodLink (mY k).cls n arraycopyName)
    | _ => ckCb k pc n d 1)
  | _ => true
def isThr : Instr → Bool
  | .athrow => true
  | _ => false
def falls : Instr → Bool
  | .tableswitch _ _ _ _ => false
  | .lookupswitch _ _ => false
  | .athrow => false
  | .goto _ => false
  | .ireturn => false
  | .areturn => false
  | .dreturn => false
  | .freturn => false
  | .return_ => false
  | _ => true
/-- the rows of a method -/
def ckRs (k : Nat) : List RI → Bool
  | [] => true
  | (pc, len, i, d) :: is => (isThr i || ckD k pc len i) && ckRow k pc i d && (!falls i || (match is with
    | [] => true
    | r :: _ => decide (r.1 = pc + ilen i))) && ckRs k is
theorem oinitW : (inW 88 (.instanceMethod Lib.objectInit) && inW 89 (.code Lib.objectInit ⟨#[0xb1]⟩ 1 none)) = true := by decide +kernel
theorem acopyW : (inW 380 (.native arraycopyName) && inW 379 (.static arraycopyName) && inW 69 (.initialized "java/lang/System")) = true := by decide +kernel
/-- n rows -/
def ckN (k : Nat) : Nat → List RI → Bool
  | 0, _ => true
  | _ + 1, [] => true
  | n + 1, (pc, len, i, d) :: is => (isThr i || ckD k pc len i) && ckRow k pc i d && (!falls i || (match is with
    | [] => true
    | r :: _ => decide (r.1 = pc + ilen i))) && ckN k n is
theorem ckN_of {k : Nat} : ∀ (n : Nat) (is : List RI), ckN k n is = true → ckRs k (is.drop n) = true → ckRs k is = true
  | 0, is, _, h => h
  | n + 1, [], _, h => h
  | n + 1, (pc, len, i, d) :: is, h, g => by
    simp only [ckN, Bool.and_eq_true] at h
    simp only [ckRs, Bool.and_eq_true]
    exact ⟨h.1, ckN_of n is h.2 g⟩
theorem ckN_go {k a n : Nat} {is : List RI} (h : ckN k n (is.drop a) = true) (g : ckRs k (is.drop (a + n)) = true) : ckRs k (is.drop a) = true :=
  ckN_of n _ h (by rw [List.drop_drop]; exact g)
