/-! bits of an int -/
def gb (x : Int32) (j : Nat) : Bool := x.toBitVec.getLsbD j
theorem gb_ext {x y : Int32} (h : ∀ j, j < 32 → gb x j = gb y j) : x = y :=
  Int32.toBitVec_inj.mp (BitVec.eq_of_getLsbD_eq h)
theorem gb_hi {x : Int32} {j : Nat} (h : 32 ≤ j) : gb x j = false := BitVec.getLsbD_of_ge _ _ h
theorem gb_xor {x y : Int32} {j : Nat} : gb (x ^^^ y) j = (gb x j != gb y j) := by
  unfold gb; rw [Int32.toBitVec_xor, BitVec.getLsbD_xor]
theorem gb_and {x y : Int32} {j : Nat} : gb (x &&& y) j = (gb x j && gb y j) := by
  unfold gb; rw [Int32.toBitVec_and, BitVec.getLsbD_and]
theorem gb_or {x y : Int32} {j : Nat} : gb (x ||| y) j = (gb x j || gb y j) := by
  unfold gb; rw [Int32.toBitVec_or, BitVec.getLsbD_or]
theorem gb_0 {j : Nat} : gb 0 j = false := by
  unfold gb; exact BitVec.getLsbD_zero
theorem sh_31 : ∀ j, j < 32 → (((Int32.ofNat j &&& 31).toBitVec.smod 32).toNat = j) := by decide +kernel
theorem gb_shl {x : Int32} {k j : Nat} (hk : k < 32) : gb (x <<< (Int32.ofNat k &&& 31)) j = (decide (j < 32) && (decide (¬ j < k) && gb x (j - k))) := by
  unfold gb
  rw [Int32.toBitVec_shiftLeft, BitVec.shiftLeft_eq', sh_31 k hk, BitVec.getLsbD_shiftLeft]
  by_cases a : j < 32 <;> by_cases b : j < k <;> simp [a, b]
theorem gb_1 {j : Nat} : gb 1 j = decide (j = 0) := by
  unfold gb
  rw [show (1 : Int32).toBitVec = 1#32 from rfl, BitVec.getLsbD_one]
  simp
theorem gb_1k {k j : Nat} (hk : k < 32) : gb (1 <<< (Int32.ofNat k &&& 31)) j = decide (j = k) := by
  rw [gb_shl hk, gb_1]
  by_cases a : j = k
  · subst a; simp [hk]
  · by_cases b : j < k
    · simp [a, b]
    · simp [a, b, show ¬ j - k = 0 from by omega]
theorem gb_shr {x : Int32} {k : Nat} (hk : k < 32) : gb (x >>> (Int32.ofNat k &&& 31)) 0 = gb x k := by
  unfold gb
  rw [Int32.toBitVec_shiftRight, BitVec.sshiftRight_eq', sh_31 k hk, BitVec.getLsbD_sshiftRight]
  simp [hk]
theorem and1 {x : Int32} : x &&& 1 = if gb x 0 = true then 1 else 0 := by
  apply gb_ext
  intro j hj
  rw [gb_and, gb_1]
  by_cases a : j = 0
  · subst a
    cases h : gb x 0
    · simp [gb_0]
    · simp [gb_1]
  · cases h : gb x 0
    · simp [a, gb_0]
    · simp [a, gb_1]
theorem shr1 {x : Int32} {k : Nat} (hk : k < 32) : x >>> (Int32.ofNat k &&& 31) &&& 1 = if gb x k = true then 1 else 0 := by
  rw [and1, gb_shr hk]
theorem hs_gb {x : Int32} {k : Nat} (hk : k < 32) : hs x (Int32.ofNat k) = gb x k := by
  unfold hs
  rw [shr1 hk]
  cases gb x k <;> simp
theorem gb_nz {x : Int32} : (x = 0) ↔ ∀ j, j < 32 → gb x j = false := by
  constructor
  · intro h j _; subst h; exact gb_0
  · intro h
    apply gb_ext
    intro j hj
    rw [h j hj, gb_0]
theorem ct_gb {x : Int32} {k : Nat} (hk : k < 32) : ct x (Int32.ofNat k) = gb x k := by
  unfold ct
  cases h : gb x k
  · refine decide_eq_false (fun q => q (gb_nz.mpr fun j hj => ?_))
    rw [gb_and, gb_1k hk]
    by_cases a : j = k
    · subst a; simp [h]
    · simp [a]
  · refine decide_eq_true (fun q => ?_)
    have := gb_nz.mp q k hk
    rw [gb_and, gb_1k hk, h] at this
    simp at this
theorem gb_on {n j : Nat} (hj : j < 32) : gb (Int32.ofNat n) j = n.testBit j := by
  unfold gb
  rw [show (Int32.ofNat n).toBitVec = BitVec.ofNat 32 n from rfl, BitVec.getLsbD_ofNat]
  simp [hj]
