/-! the count of bits, both ways -/
def tn (x : Int32) : Nat := x.toBitVec.toNat
theorem tn_lt {x : Int32} : tn x < 4294967296 := x.toBitVec.isLt
theorem tn_ush {x : Int32} {k : Nat} (hk : k < 32) : tn (ush x (Int32.ofNat k)) = tn x / 2 ^ k := by
  have d : ∀ k, k < 32 → (((Int32.ofNat k).toUInt32 &&& Int32.toUInt32 31).toBitVec % 32).toNat = k := by decide +kernel
  show ((x.toUInt32 >>> ((Int32.ofNat k).toUInt32 &&& Int32.toUInt32 31)).toInt32).toBitVec.toNat = x.toBitVec.toNat / 2 ^ k
  have e : ((x.toUInt32 >>> ((Int32.ofNat k).toUInt32 &&& Int32.toUInt32 31)).toInt32).toBitVec = x.toBitVec >>> (((Int32.ofNat k).toUInt32 &&& Int32.toUInt32 31).toBitVec % 32) := rfl
  rw [e, BitVec.ushiftRight_eq', BitVec.toNat_ushiftRight, d k hk, Nat.shiftRight_eq_div_pow]
theorem tn_and {x y : Int32} : tn (x &&& y) = tn x &&& tn y := by
  unfold tn; rw [Int32.toBitVec_and, BitVec.toNat_and]
theorem tn_add {x y : Int32} (h : tn x + tn y < 4294967296) : tn (x + y) = tn x + tn y := by
  unfold tn at *
  rw [Int32.toBitVec_add, BitVec.toNat_add]
  exact Nat.mod_eq_of_lt h
theorem tn_sub {x y : Int32} (h : tn y ≤ tn x) : tn (x - y) = tn x - tn y := by
  unfold tn at *
  rw [Int32.toBitVec_sub, BitVec.toNat_sub_of_le h]
theorem sub_le (n : Nat) : (n / 2) &&& 1431655765 ≤ n := Nat.le_trans Nat.and_le_left (Nat.div_le_self n 2)
theorem tn_bc {x : Int32} : tn (bc32 x) = bcN (tn x) := by
  have hn := tn_lt (x := x)
  have a1 : tn (bc1 x) = tn x - ((tn x / 2) &&& 1431655765) := by
    unfold bc1
    have e : tn (ush x 1 &&& 1431655765) = (tn x / 2) &&& 1431655765 := by
      rw [tn_and, show (1 : Int32) = Int32.ofNat 1 from rfl, tn_ush (by decide)]
      rfl
    rw [tn_sub (by rw [e]; exact sub_le _), e]
  have b := sw_b (n := tn x) hn rfl rfl rfl
  have a2 : tn (bc2 (bc1 x)) = ((tn x - ((tn x / 2) &&& 1431655765)) &&& 858993459) + (((tn x - ((tn x / 2) &&& 1431655765)) / 4) &&& 858993459) := by
    unfold bc2
    have e1 : tn (bc1 x &&& 858993459) = (tn x - ((tn x / 2) &&& 1431655765)) &&& 858993459 := by
      rw [tn_and, a1]; rfl
    have e2 : tn (ush (bc1 x) 2 &&& 858993459) = ((tn x - ((tn x / 2) &&& 1431655765)) / 4) &&& 858993459 := by
      rw [tn_and, show (2 : Int32) = Int32.ofNat 2 from rfl, tn_ush (by decide), a1]; rfl
    rw [tn_add (by rw [e1, e2]; exact b.2.1), e1, e2]
  generalize hy : ((tn x - ((tn x / 2) &&& 1431655765)) &&& 858993459) + (((tn x - ((tn x / 2) &&& 1431655765)) / 4) &&& 858993459) = y at *
  have a3 : tn (bc3 (bc2 (bc1 x))) = (y + y / 16) &&& 252645135 := by
    unfold bc3
    have e1 : tn (ush (bc2 (bc1 x)) 4) = y / 16 := by
      rw [show (4 : Int32) = Int32.ofNat 4 from rfl, tn_ush (by decide), a2]
    rw [tn_and, tn_add (by rw [e1, a2]; exact b.2.2.1), e1, a2]; rfl
  generalize hw : (y + y / 16) &&& 252645135 = w at *
  have a4 : tn (bc4 (bc3 (bc2 (bc1 x)))) = w + w / 256 := by
    unfold bc4
    have e1 : tn (ush (bc3 (bc2 (bc1 x))) 8) = w / 256 := by
      rw [show (8 : Int32) = Int32.ofNat 8 from rfl, tn_ush (by decide), a3]
    rw [tn_add (by rw [e1, a3]; exact b.2.2.2.1), e1, a3]
  show tn (bc5 (bc4 (bc3 (bc2 (bc1 x))))) = _
  unfold bc5
  have e1 : tn (ush (bc4 (bc3 (bc2 (bc1 x)))) 16) = (w + w / 256) / 65536 := by
    rw [show (16 : Int32) = Int32.ofNat 16 from rfl, tn_ush (by decide), a4]
  rw [tn_and, tn_add (by rw [e1, a4]; exact b.2.2.2.2), e1, a4]
  exact b.1
