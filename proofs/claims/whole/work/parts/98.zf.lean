/-! the count of bits, continued -/
/-- how many of the first n hold -/
def cbn (f : Nat → Bool) : Nat → Nat
  | 0 => 0
  | n + 1 => cbn f n + (f n).toNat
theorem tb_d {n k : Nat} : (n.testBit k).toNat = n / 2 ^ k % 2 := by
  rw [Nat.testBit_eq_decide_div_mod_eq]
  by_cases h : n / 2 ^ k % 2 = 1
  · rw [decide_eq_true h, h]; rfl
  · rw [decide_eq_false h]
    have : n / 2 ^ k % 2 = 0 := by omega
    rw [this]; rfl
theorem pc_t (t : Nat) : (t.testBit 0).toNat + (t.testBit 1).toNat + (t.testBit 2).toNat + (t.testBit 3).toNat = pc4 (t % 16) := by
  rw [tb_d, tb_d, tb_d, tb_d]
  unfold pc4
  have a0 : t / 2 ^ 0 % 2 = t % 16 % 2 := by rw [Nat.pow_zero, Nat.div_one]; omega
  have a1 : t / 2 ^ 1 % 2 = t % 16 / 2 % 2 := by rw [show (2 : Nat) ^ 1 = 2 from rfl]; omega
  have a2 : t / 2 ^ 2 % 2 = t % 16 / 4 % 2 := by rw [show (2 : Nat) ^ 2 = 4 from rfl]; omega
  have a3 : t / 2 ^ 3 % 2 = t % 16 / 8 % 2 := by rw [show (2 : Nat) ^ 3 = 8 from rfl]; omega
  rw [a0, a1, a2, a3]
theorem pc_n (n i : Nat) : (n.testBit i).toNat + (n.testBit (i + 1)).toNat + (n.testBit (i + 2)).toNat + (n.testBit (i + 3)).toNat = pc4 (n / 2 ^ i % 16) := by
  have h := pc_t (n / 2 ^ i)
  rw [Nat.testBit_div_two_pow, Nat.testBit_div_two_pow, Nat.testBit_div_two_pow, Nat.testBit_div_two_pow] at h
  rw [← h, Nat.zero_add, Nat.add_comm 1 i, Nat.add_comm 2 i, Nat.add_comm 3 i]
theorem cb_4 {f : Nat → Bool} (k : Nat) : cbn f (k + 4) = cbn f k + ((f k).toNat + (f (k + 1)).toNat + (f (k + 2)).toNat + (f (k + 3)).toNat) := by
  show cbn f k + (f k).toNat + (f (k + 1)).toNat + (f (k + 2)).toNat + (f (k + 3)).toNat = _
  rw [Nat.add_assoc, Nat.add_assoc, Nat.add_assoc, Nat.add_assoc, Nat.add_assoc]
theorem cnt_bc {n : Nat} (h : n < 4294967296) : cbn n.testBit 32 = bcN n := by
  have c1 := cb_4 (f := n.testBit) 0
  have c2 := cb_4 (f := n.testBit) 4
  have c3 := cb_4 (f := n.testBit) 8
  have c4 := cb_4 (f := n.testBit) 12
  have c5 := cb_4 (f := n.testBit) 16
  have c6 := cb_4 (f := n.testBit) 20
  have c7 := cb_4 (f := n.testBit) 24
  have c8 := cb_4 (f := n.testBit) 28
  rw [pc_n] at c1 c2 c3 c4 c5 c6 c7 c8
  have z : cbn n.testBit 0 = 0 := rfl
  have l : n / 268435456 % 16 = n / 268435456 := by omega
  rw [z, Nat.zero_add, Nat.zero_add, Nat.pow_zero, Nat.div_one] at c1
  rw [show (2 : Nat) ^ 28 = 268435456 from by decide, l] at c8
  rw [show (2 : Nat) ^ 4 = 16 from rfl] at c2
  rw [show (2 : Nat) ^ 8 = 256 from rfl] at c3
  rw [show (2 : Nat) ^ 12 = 4096 from rfl] at c4
  rw [show (2 : Nat) ^ 16 = 65536 from rfl] at c5
  rw [show (2 : Nat) ^ 20 = 1048576 from by decide] at c6
  rw [show (2 : Nat) ^ 24 = 16777216 from by decide] at c7
  unfold bcN
  rw [← c1, ← c2, ← c3, ← c4, ← c5, ← c6, ← c7, ← c8]
theorem tn_on {m : Nat} (h : m < 4294967296) : tn (Int32.ofNat m) = m := by
  show m % 2 ^ 32 = m
  exact Nat.mod_eq_of_lt h
theorem bc_cnt {x : Int32} : bc32 x = Int32.ofNat (cbn (gb x) 32) := by
  apply Int32.toBitVec_inj.mp
  apply BitVec.eq_of_toNat_eq
  have e : cbn (gb x) 32 = cbn (tn x).testBit 32 := congrArg (fun f => cbn f 32) (funext fun j => rfl)
  have le : ∀ (f : Nat → Bool) n, cbn f n ≤ n := by
    intro f n
    induction n with
    | zero => exact Nat.le_refl 0
    | succ n ih =>
      show cbn f n + (f n).toNat ≤ n + 1
      have : (f n).toNat ≤ 1 := by cases f n <;> decide
      omega
  have l := le (gb x) 32
  have t1 := tn_bc (x := x)
  rw [← cnt_bc tn_lt, ← e] at t1
  have t2 := tn_on (m := cbn (gb x) 32) (by omega)
  exact t1.trans t2.symm
theorem bits_cnt {y : Int32} : ∀ n k a, n + k ≤ 32 → bitsR y n k (Int32.ofNat (a + cbn (gb y) k)) = Int32.ofNat (a + cbn (gb y) (k + n))
  | 0, k, a, h => rfl
  | n + 1, k, a, h => by
    show bitsR y n (k + 1) (Int32.ofNat (a + cbn (gb y) k) + (y >>> (Int32.ofNat k &&& 31) &&& 1)) = _
    have e : Int32.ofNat (a + cbn (gb y) k) + (y >>> (Int32.ofNat k &&& 31) &&& 1) = Int32.ofNat (a + cbn (gb y) (k + 1)) := by
      rw [shr1 (by omega)]
      show _ = Int32.ofNat (a + (cbn (gb y) k + (gb y k).toNat))
      cases gb y k
      · simp
      · rw [if_pos rfl, io_succ]; rfl
    rw [e, bits_cnt n (k + 1) a (by omega), show k + 1 + n = k + (n + 1) from by omega]
theorem bits25 {y : Int32} : bitsR y 25 0 0 = Int32.ofNat (cbn (gb y) 25) := by
  have := bits_cnt (y := y) 25 0 0 (by decide)
  rw [show 0 + cbn (gb y) 0 = 0 from rfl, Nat.zero_add, Nat.zero_add] at this
  exact this
