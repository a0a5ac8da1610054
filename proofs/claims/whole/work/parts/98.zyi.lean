/-! shares and means: no NaN, on both sides -/
/-- a datum that is no NaN, and in the range of a double -/
def okD (d : Jvm.FP.Core.Datum) : Prop := match d with
  | .nan => False
  | .inf _ => True
  | .fin _ c q => c < 9007199254740992 ∧ q ≤ 971
theorem rr_ok {s : Bool} {a b : Nat} {e : Int} : okD (Jvm.FP.Core.roundRatio Jvm.FP.Core.b64 s a b e) := by
  have e1 : (2 : Nat) ^ Jvm.FP.Core.Fmt.p Jvm.FP.Core.b64 = 9007199254740992 := rfl
  have e2 : Jvm.FP.Core.Fmt.qmax Jvm.FP.Core.b64 = 971 := rfl
  have e3 : Jvm.FP.Core.Fmt.tails Jvm.FP.Core.b64 = 4503599627370496 := rfl
  have e4 : Jvm.FP.Core.Fmt.qmin Jvm.FP.Core.b64 = -1074 := rfl
  have bo : ∀ (c : Nat) (q : Int), c < 9007199254740992 → okD (Jvm.FP.Core.bound Jvm.FP.Core.b64 s c q) := fun c q hc => by
    unfold Jvm.FP.Core.bound
    rw [e2]
    by_cases h : q ≤ 971
    · rw [if_pos h]; exact ⟨hc, h⟩
    · rw [if_neg h]; trivial
  unfold Jvm.FP.Core.roundRatio
  by_cases h : a = 0
  · rw [if_pos h]
    exact ⟨by decide, by rw [e4]; decide⟩
  · rw [if_neg h]
    unfold Jvm.FP.Core.roundAt Jvm.FP.Core.settle
    rw [e1, e3]
    by_cases q : Jvm.FP.Core.nearest (Jvm.FP.Core.unitsNum a e (Jvm.FP.Core.quantum Jvm.FP.Core.b64 a b e)) (Jvm.FP.Core.unitsDen b e (Jvm.FP.Core.quantum Jvm.FP.Core.b64 a b e)) < 9007199254740992
    · rw [if_pos q]; exact bo _ _ q
    · rw [if_neg q]; exact bo _ _ (by decide)
/-- the bits of such a datum -/
theorem enc_ok {d : Jvm.FP.Core.Datum} (h : okD d) : Jvm.FP.Core.encode Jvm.FP.Core.b64 d % 9223372036854775808 ≤ 9218868437227405312 := by
  have e3 : Jvm.FP.Core.Fmt.tails Jvm.FP.Core.b64 = 4503599627370496 := rfl
  have e4 : Jvm.FP.Core.Fmt.qmin Jvm.FP.Core.b64 = -1074 := rfl
  have e5 : Jvm.FP.Core.Fmt.exps Jvm.FP.Core.b64 = 2048 := rfl
  cases d with
  | nan => exact absurd h (fun q => q)
  | inf s =>
    show Jvm.FP.Core.assemble Jvm.FP.Core.b64 s (Jvm.FP.Core.Fmt.exps Jvm.FP.Core.b64 - 1) 0 % 9223372036854775808 ≤ _
    unfold Jvm.FP.Core.assemble
    rw [e3, e5]
    cases s <;> decide
  | fin s c q =>
    obtain ⟨h1, h2⟩ := h
    show (if c < Jvm.FP.Core.Fmt.tails Jvm.FP.Core.b64 then Jvm.FP.Core.assemble Jvm.FP.Core.b64 s 0 c else Jvm.FP.Core.assemble Jvm.FP.Core.b64 s ((q - Jvm.FP.Core.Fmt.qmin Jvm.FP.Core.b64).toNat + 1) (c - Jvm.FP.Core.Fmt.tails Jvm.FP.Core.b64)) % 9223372036854775808 ≤ _
    unfold Jvm.FP.Core.assemble
    rw [e3, e4, e5]
    have hs : s.toNat = 0 ∨ s.toNat = 1 := by cases s; exact .inl rfl; exact .inr rfl
    by_cases k : c < 4503599627370496
    · rw [if_pos k]
      rcases hs with hs | hs <;> rw [hs] <;> omega
    · rw [if_neg k]
      have : (q - -1074).toNat ≤ 2045 := by omega
      generalize (q - -1074).toNat = t at *
      rcases hs with hs | hs <;> rw [hs] <;> omega
theorem n64_iff {n : Nat} : vf_n64 (UInt64.ofNat n) ↔ n % 9223372036854775808 ≤ 9218868437227405312 := by
  have e : (UInt64.ofNat n &&& 9223372036854775807).toNat = n % 9223372036854775808 := by
    rw [UInt64.toNat_and, UInt64.toNat_ofNat']
    show n % 2 ^ 64 &&& (2 ^ 63 - 1) = _
    rw [Nat.and_two_pow_sub_one_eq_mod]
    show n % 18446744073709551616 % 9223372036854775808 = _
    omega
  show UInt64.ofNat n &&& 9223372036854775807 ≤ 9218868437227405312 ↔ _
  rw [UInt64.le_iff_toNat_le, e]
  exact Iff.rfl
theorem n64_enc {d : Jvm.FP.Core.Datum} (h : okD d) : vf_n64 (UInt64.ofNat (Jvm.FP.Core.encode Jvm.FP.Core.b64 d)) := n64_iff.mpr (enc_ok h)
/-- bits that are no NaN -/
theorem n64_dec {a : UInt64} (h : vf_n64 a) : Jvm.FP.Core.decode Jvm.FP.Core.b64 a.toNat ≠ .nan := by
  have h' : a.toNat % 9223372036854775808 ≤ 9218868437227405312 := by
    rw [← n64_iff, UInt64.ofNat_toNat]
    exact h
  have e1 : Jvm.FP.Core.fieldE Jvm.FP.Core.b64 a.toNat = a.toNat / 4503599627370496 % 2048 := rfl
  have e2 : Jvm.FP.Core.fieldT Jvm.FP.Core.b64 a.toNat = a.toNat % 4503599627370496 := rfl
  have e3 : Jvm.FP.Core.Fmt.exps Jvm.FP.Core.b64 = 2048 := rfl
  unfold Jvm.FP.Core.decode
  rw [e1, e2, e3]
  by_cases q : a.toNat / 4503599627370496 % 2048 = 2048 - 1
  · rw [if_pos q, if_pos (by omega)]
    exact fun w => by cases w
  · rw [if_neg q]
    by_cases q0 : a.toNat / 4503599627370496 % 2048 = 0
    · rw [if_pos q0]; exact fun w => by cases w
    · rw [if_neg q0]; exact fun w => by cases w
theorem dcmp_s {a : UInt64} (h : vf_n64 a) : FP.dcmp a a = some .eq := by
  have q := n64_dec h
  show Jvm.FP.Core.order (Jvm.FP.Core.decode Jvm.FP.Core.b64 a.toNat) (Jvm.FP.Core.decode Jvm.FP.Core.b64 a.toNat) = some .eq
  have ci : ∀ i : Int, compare i i = .eq := fun i => by simp [compare, compareOfLessAndEq]
  revert q
  generalize Jvm.FP.Core.decode Jvm.FP.Core.b64 a.toNat = d
  intro q
  cases d with
  | nan => exact absurd rfl q
  | inf s => exact congrArg some (ci _)
  | fin s c e => exact congrArg some (ci _)
theorem i2d_n {i : Int32} : vf_n64 (FP.i2d i) := n64_enc rr_ok
theorem i2d_ck : ((List.range 25).all fun d => match Jvm.FP.Core.decode Jvm.FP.Core.b64 (FP.i2d (Int32.ofNat (d + 1))).toNat with
  | .fin _ c _ => decide (¬ c = 0)
  | _ => false) = true := by decide +kernel
theorem ddiv_nn {s : Int32} {d : Nat} (h0 : 1 ≤ d) (h1 : d ≤ 25) : vf_n64 (FP.ddiv (FP.i2d s) (FP.i2d (Int32.ofNat d))) := by
  have h := List.all_eq_true.mp i2d_ck (d - 1) (List.mem_range.mpr (by omega))
  rw [show d - 1 + 1 = d from by omega] at h
  refine n64_enc ?_
  have hn := n64_dec (i2d_n (i := s))
  revert h hn
  generalize Jvm.FP.Core.decode Jvm.FP.Core.b64 (FP.i2d s).toNat = a
  generalize Jvm.FP.Core.decode Jvm.FP.Core.b64 (FP.i2d (Int32.ofNat d)).toNat = b
  intro h hn
  cases b with
  | nan => cases h
  | inf t => cases h
  | fin t c q =>
    have c0 : ¬ c = 0 := of_decide_eq_true h
    cases a with
    | nan => exact absurd rfl hn
    | inf u => trivial
    | fin u a' q' =>
      show okD (if c = 0 then _ else _)
      rw [if_neg c0]
      exact rr_ok
/-- what a share is: no NaN -/
theorem fsh_ck : ((List.range 26).all fun a => (List.range 25).all fun d => decide (FP.fdiv (FP.i2f (Int32.ofNat a)) (FP.i2f (Int32.ofNat (d + 1))) &&& 0x7fffffff ≤ 0x7f800000) && decide (FP.f2d (FP.fdiv (FP.i2f (Int32.ofNat a)) (FP.i2f (Int32.ofNat (d + 1)))) &&& 0x7fffffffffffffff ≤ 0x7ff0000000000000) && decide (FP.dcmp (FP.f2d (FP.fdiv (FP.i2f (Int32.ofNat a)) (FP.i2f (Int32.ofNat (d + 1))))) (FP.f2d (FP.fdiv (FP.i2f (Int32.ofNat a)) (FP.i2f (Int32.ofNat (d + 1))))) = some .eq)) = true := by decide +kernel
theorem fsh {a d : Nat} (h : a ≤ 25) (h0 : 1 ≤ d) (h1 : d ≤ 25) : vf_n32 (FP.fdiv (FP.i2f (Int32.ofNat a)) (FP.i2f (Int32.ofNat d))) ∧ vf_n64 (FP.f2d (FP.fdiv (FP.i2f (Int32.ofNat a)) (FP.i2f (Int32.ofNat d)))) ∧ FP.dcmp (FP.f2d (FP.fdiv (FP.i2f (Int32.ofNat a)) (FP.i2f (Int32.ofNat d)))) (FP.f2d (FP.fdiv (FP.i2f (Int32.ofNat a)) (FP.i2f (Int32.ofNat d)))) = some .eq := by
  have q := List.all_eq_true.mp (List.all_eq_true.mp fsh_ck a (List.mem_range.mpr (by omega))) (d - 1) (List.mem_range.mpr (by omega))
  rw [show d - 1 + 1 = d from by omega, Bool.and_eq_true, Bool.and_eq_true] at q
  have a1 := of_decide_eq_true q.1.1
  have a2 := of_decide_eq_true q.1.2
  exact ⟨a1, a2, of_decide_eq_true q.2⟩
def VD (v : Value) : Prop := ∃ x : UInt64, v = .double x ∧ FP.dcmp x x = some .eq
def VF (v : Value) : Prop := ∃ x : UInt32, v = .float x ∧ vf_n64 (FP.f2d x) ∧ FP.dcmp (FP.f2d x) (FP.f2d x) = some .eq
section Means
variable {C G : HP} {z : WB} {m : Nat}
theorem t_meanPresses (h : INV C G m) : DT2 196 197 [.ref 59, xk, xk] [.ref 124, xk, xk] VD C G z m := by
  obtain ⟨r, c, n, hb⟩ := id h.1
  have rc := gS_n hb.1
  have e : sumI (C 61) 0 30 = sumI (G 125) 8 (r * c) := sum_eq hb.1.2.2.2.1 hb.1.2.2.2.2.2 hb.2.2.2.1
  have n1 : C 60 0 * C 60 1 = Int32.ofNat (r * c) := by rw [hb.2.2.1.1, hb.2.2.1.2.1, io_mul]
  have n2 : G 125 0 * G 125 1 = Int32.ofNat (r * c) := by rw [hb.1.1, hb.1.2.1, io_mul]
  have nn := ddiv_nn (s := sumI (G 125) 8 (r * c)) rc.1 rc.2
  refine DT_ok (fun G0 Q => d_meanPresses ?_) (fun C0 z0 Q => n_meanPresses hb.1 ?_) ?_ ⟨_, rfl, ?_⟩ (INV_q h (by omega) FQ_r FM_sc)
  · rw [e, n1]; exact nn
  · rw [n2]; exact nn
  · rw [e, n1, n2]
  · rw [e, n1]; exact dcmp_s nn
theorem t_litShare (h : INV C G m) : DT2 198 199 [.ref 59] [.ref 124] VF C G z m := by
  obtain ⟨r, c, n, hb⟩ := id h.1
  have rc := gS_n hb.1
  have e : bc32 (C 60 4) = bitsR (G 125 5) 25 0 0 := SR_cnt hb.1.2.2.2.1 hb.1.2.2.2.2.2 hb.2.2.1.2.2.2.2.2.1
  have n1 : C 60 0 * C 60 1 = Int32.ofNat (r * c) := by rw [hb.2.2.1.1, hb.2.2.1.2.1, io_mul]
  have n2 : G 125 0 * G 125 1 = Int32.ofNat (r * c) := by rw [hb.1.1, hb.1.2.1, io_mul]
  obtain ⟨k, k1, k2⟩ : ∃ k, k ≤ 25 ∧ bitsR (G 125 5) 25 0 0 = Int32.ofNat k := ⟨_, cb_le 25, bits25⟩
  obtain ⟨f1, f2, f3⟩ := fsh k1 rc.1 rc.2
  refine DT_ok (fun G0 Q => d_litShare ?_) (fun C0 z0 Q => n_litShare ?_) ?_ ⟨_, rfl, ?_, ?_⟩ (INV_q h (by omega) FQ_r FM_sc)
  · rw [e, n1, k2]; exact f1
  · rw [n2, k2]; exact f1
  · rw [e, n1, n2]
  · rw [e, n1, k2]; exact f2
  · rw [e, n1, k2]; exact f3
end Means
