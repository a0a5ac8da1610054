/-! the count of bits, both ways -/
def tn (x : Int32) : Nat := x.toBitVec.toNat
theorem tn_lt {x : Int32} : tn x < 4294967296 := x.toBitVec.isLt
theorem tn_ush {x : Int32} {k : Nat} (hk : k < 32) : tn (ush x (Int32.ofNat k)) = tn x / 2 ^ k := by
  have d : ∀ k, k < 32 → (((Int32.ofNat k).toUInt32 &&& Int32.toUInt32 31).toBitVec % 32).toNat = k := by decide +kernel
  show ((x.toUInt32 >>> ((Int32.ofNat k).toUInt32 &&& Int32.toUInt32 31)).toInt32).toBitVec.toNat = x.toBitVec.toNat / 2 ^ k
  have e : ((x.toUInt32 >>> ((Int32.ofNat k).toUInt32 &&& Int32.toUInt32 31)).toInt32).toBitVec = x.toBitVec >>> (((Int32.ofNat k).toUInt32 &&& Int32.toUInt32 31).toBitVec % 32) := rfl
  rw [e, BitVec.ushiftRight_eq', BitVec.toNat_ushiftRight, d k hk, Nat.shiftRight_eq_div_pow]
theorem tn_and {x y : Int32} : tn (x &&& y) = tn x &&& tn y := by
  unfold tn; rw [Int32.toBitVec_and, BitVec.toNat_and]
theorem tn_add {x y : Int32} (h : tn x + tn y < 4294967296) : tn (x + y) = tn x + tn y := by
  unfold tn at *
  rw [Int32.toBitVec_add, BitVec.toNat_add]
  exact Nat.mod_eq_of_lt h
theorem tn_sub {x y : Int32} (h : tn y ≤ tn x) : tn (x - y) = tn x - tn y := by
  unfold tn at *
  rw [Int32.toBitVec_sub, BitVec.toNat_sub_of_le h]
theorem sub_le (n : Nat) : (n / 2) &&& 1431655765 ≤ n := Nat.le_trans Nat.and_le_left (Nat.div_le_self n 2)
theorem tn_bc {x : Int32} : tn (bc32 x) = bcN (tn x) := by
  have hn := tn_lt (x := x)
  have a1 : tn (bc1 x) = tn x - ((tn x / 2) &&& 1431655765) := by
    unfold bc1
    have e : tn (ush x 1 &&& 1431655765) = (tn x / 2) &&& 1431655765 := by
      rw [tn_and, show (1 : Int32) = Int32.ofNat 1 from rfl, tn_ush (by decide)]
      rfl
    rw [tn_sub (by rw [e]; exact sub_le _), e]
  have b := sw_b (n := tn x) hn rfl rfl rfl
  have a2 : tn (bc2 (bc1 x)) = ((tn x - ((tn x / 2) &&& 1431655765)) &&& 858993459) + (((tn x - ((tn x / 2) &&& 1431655765)) / 4) &&& 858993459) := by
    unfold bc2
    have e1 : tn (bc1 x &&& 858993459) = (tn x - ((tn x / 2) &&& 1431655765)) &&& 858993459 := by
      rw [tn_and, a1]; rfl
    have e2 : tn (ush (bc1 x) 2 &&& 858993459) = ((tn x - ((tn x / 2) &&& 1431655765)) / 4) &&& 858993459 := by
      rw [tn_and, show (2 : Int32) = Int32.ofNat 2 from rfl, tn_ush (by decide), a1]; rfl
    rw [tn_add (by rw [e1, e2]; exact b.2.1), e1, e2]
  generalize hy : ((tn x - ((tn x / 2) &&& 1431655765)) &&& 858993459) + (((tn x - ((tn x / 2) &&& 1431655765)) / 4) &&& 858993459) = y at *
  have a3 : tn (bc3 (bc2 (bc1 x))) = (y + y / 16) &&& 252645135 := by
    unfold bc3
    have e1 : tn (ush (bc2 (bc1 x)) 4) = y / 16 := by
      rw [show (4 : Int32) = Int32.ofNat 4 from rfl, tn_ush (by decide), a2]
    rw [tn_and, tn_add (by rw [e1, a2]; exact b.2.2.1), e1, a2]; rfl
  generalize hw : (y + y / 16) &&& 252645135 = w at *
  have a4 : tn (bc4 (bc3 (bc2 (bc1 x)))) = w + w / 256 := by
    unfold bc4
    have e1 : tn (ush (bc3 (bc2 (bc1 x))) 8) = w / 256 := by
      rw [show (8 : Int32) = Int32.ofNat 8 from rfl, tn_ush (by decide), a3]
    rw [tn_add (by rw [e1, a3]; exact b.2.2.2.1), e1, a3]
  show tn (bc5 (bc4 (bc3 (bc2 (bc1 x))))) = _
  unfold bc5
  have e1 : tn (ush (bc4 (bc3 (bc2 (bc1 x)))) 16) = (w + w / 256) / 65536 := by
    rw [show (16 : Int32) = Int32.ofNat 16 from rfl, tn_ush (by decide), a4]
  rw [tn_and, tn_add (by rw [e1, a4]; exact b.2.2.2.2), e1, a4]
  exact b.1
/-- how many of the first n hold -/
def cnt (f : Nat → Bool) : Nat → Nat
  | 0 => 0
  | n + 1 => cnt f n + (f n).toNat
theorem tb_d {n k : Nat} : (n.testBit k).toNat = n / 2 ^ k % 2 := by
  rw [Nat.testBit_eq_decide_div_mod_eq]
  by_cases h : n / 2 ^ k % 2 = 1
  · rw [decide_eq_true h, h]; rfl
  · rw [decide_eq_false h]
    have : n / 2 ^ k % 2 = 0 := by omega
    rw [this]; rfl
theorem cnt_bc {n : Nat} (h : n < 4294967296) : cnt n.testBit 32 = bcN n := by
  have dd : ∀ a b, n / a / b = n / (a * b) := fun a b => Nat.div_div_eq_div_mul n a b
  have m : ∀ a b, n / a % 16 / b % 2 = n / (a * b) % 2 ∨ ¬ (b = 1 ∨ b = 2 ∨ b = 4 ∨ b = 8) := by
    intro a b
    by_cases q : b = 1 ∨ b = 2 ∨ b = 4 ∨ b = 8
    · left
      rw [← dd]
      generalize n / a = t
      rcases q with q | q | q | q <;> subst q <;> omega
    · exact .inr q
  have p4 : ∀ a, pc4 (n / a % 16) = n / a % 2 + n / (a * 2) % 2 + n / (a * 4) % 2 + n / (a * 8) % 2 := by
    intro a
    unfold pc4
    have q1 := (m a 2).resolve_right (by simp)
    have q2 := (m a 4).resolve_right (by simp)
    have q3 := (m a 8).resolve_right (by simp)
    have q0 : n / a % 16 % 2 = n / a % 2 := by omega
    omega
  have p0 := p4 1
  have p1 := p4 16
  have p2 := p4 256
  have p3 := p4 4096
  have p5 := p4 65536
  have p6 := p4 1048576
  have p7 := p4 16777216
  have p8 := p4 268435456
  have l : n / 268435456 % 16 = n / 268435456 := by omega
  rw [l] at p8
  rw [Nat.div_one] at p0
  unfold bcN
  rw [p0, p1, p2, p3, p5, p6, p7, p8]
  simp only [cnt, tb_d, Nat.reducePow, Nat.div_one, Nat.reduceMul]
  omega
theorem bc_cnt {x : Int32} : bc32 x = Int32.ofNat (cnt (gb x) 32) := by
  apply Int32.toBitVec_inj.mp
  apply BitVec.eq_of_toNat_eq
  have e : cnt (gb x) 32 = cnt (tn x).testBit 32 := by rfl
  have le : ∀ (f : Nat → Bool) n, cnt f n ≤ n := by
    intro f n
    induction n with
    | zero => exact Nat.le_refl 0
    | succ n ih =>
      show cnt f n + (f n).toNat ≤ n + 1
      have : (f n).toNat ≤ 1 := by cases f n <;> decide
      omega
  have l := le (gb x) 32
  show tn (bc32 x) = tn (Int32.ofNat (cnt (gb x) 32))
  rw [tn_bc, ← cnt_bc tn_lt, ← e]
  show _ = cnt (gb x) 32 % 2 ^ 32
  rw [Nat.mod_eq_of_lt (by omega)]
theorem bits_cnt {y : Int32} : ∀ n k a, n + k ≤ 32 → bitsR y n k (Int32.ofNat (a + cnt (gb y) k)) = Int32.ofNat (a + cnt (gb y) (k + n))
  | 0, k, a, h => rfl
  | n + 1, k, a, h => by
    show bitsR y n (k + 1) (Int32.ofNat (a + cnt (gb y) k) + (y >>> (Int32.ofNat k &&& 31) &&& 1)) = _
    have e : Int32.ofNat (a + cnt (gb y) k) + (y >>> (Int32.ofNat k &&& 31) &&& 1) = Int32.ofNat (a + cnt (gb y) (k + 1)) := by
      rw [shr1 (by omega)]
      show _ = Int32.ofNat (a + (cnt (gb y) k + (gb y k).toNat))
      cases gb y k
      · simp
      · rw [if_pos rfl, io_succ]; rfl
    rw [e, bits_cnt n (k + 1) a (by omega), show k + 1 + n = k + (n + 1) from by omega]
theorem bits25 {y : Int32} : bitsR y 25 0 0 = Int32.ofNat (cnt (gb y) 25) := by
  have := bits_cnt (y := y) 25 0 0 (by decide)
  rw [show 0 + cnt (gb y) 0 = 0 from rfl, Nat.zero_add, Nat.zero_add] at this
  exact this
