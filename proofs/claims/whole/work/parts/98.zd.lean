/-! how many bits -/
theorem nib {d h m M : Nat} (hd : d < 16) (hm : m < 16) : (d + 16 * h) &&& (m + 16 * M) = (d &&& m) + 16 * (h &&& M) := by
  have e1 : (d + 16 * h) % 16 = d := by omega
  have e2 : (d + 16 * h) / 16 = h := by omega
  have e3 : (m + 16 * M) % 16 = m := by omega
  have e4 : (m + 16 * M) / 16 = M := by omega
  have h1 : ((d + 16 * h) &&& (m + 16 * M)) % 16 = d &&& m := by
    rw [show (16 : Nat) = 2 ^ 4 from rfl] at *
    rw [Nat.and_mod_two_pow, e1, e3]
  have h2 : ((d + 16 * h) &&& (m + 16 * M)) / 16 = h &&& M := by
    rw [show (16 : Nat) = 2 ^ 4 from rfl] at *
    rw [Nat.and_div_two_pow, e2, e4]
  have h3 := Nat.mod_add_div ((d + 16 * h) &&& (m + 16 * M)) 16
  omega
/-- eight nibbles -/
def nb8 (a b c d e f g h : Nat) : Nat := a + 16 * (b + 16 * (c + 16 * (d + 16 * (e + 16 * (f + 16 * (g + 16 * h))))))
theorem nb8_and {a b c d e f g h a' b' c' d' e' f' g' h' : Nat} (h1 : a < 16) (h2 : b < 16) (h3 : c < 16) (h4 : d < 16) (h5 : e < 16) (h6 : f < 16) (h7 : g < 16) (k1 : a' < 16) (k2 : b' < 16) (k3 : c' < 16) (k4 : d' < 16) (k5 : e' < 16) (k6 : f' < 16) (k7 : g' < 16) :
    nb8 a b c d e f g h &&& nb8 a' b' c' d' e' f' g' h' = nb8 (a &&& a') (b &&& b') (c &&& c') (d &&& d') (e &&& e') (f &&& f') (g &&& g') (h &&& h') := by
  unfold nb8
  rw [nib h1 k1, nib h2 k2, nib h3 k3, nib h4 k4, nib h5 k5, nib h6 k6, nib h7 k7]
theorem hf {d h : Nat} : (d + 16 * h) / 2 = d / 2 + 8 * (h % 2) + 16 * (h / 2) := by omega
theorem qf4 {d h : Nat} : (d + 16 * h) / 4 = d / 4 + 4 * (h % 4) + 16 * (h / 4) := by omega
theorem md2 {d h : Nat} : (d + 16 * h) % 2 = d % 2 := by omega
theorem md4 {d h : Nat} : (d + 16 * h) % 4 = d % 4 := by omega
theorem df {d h a b : Nat} (h1 : a ≤ d) (h2 : b ≤ h) : (d + 16 * h) - (a + 16 * b) = (d - a) + 16 * (h - b) := by omega
theorem dle {d h a b : Nat} (h1 : a ≤ d) (h2 : b ≤ h) : a + 16 * b ≤ d + 16 * h := by omega
theorem ad {d h a b : Nat} : (d + 16 * h) + (a + 16 * b) = (d + a) + 16 * (h + b) := by omega
theorem dv {d h : Nat} (hd : d < 16) : (d + 16 * h) / 16 = h := by omega
theorem nb8_2 {a b c d e f g h : Nat} : nb8 a b c d e f g h / 2 = nb8 (a / 2 + 8 * (b % 2)) (b / 2 + 8 * (c % 2)) (c / 2 + 8 * (d % 2)) (d / 2 + 8 * (e % 2)) (e / 2 + 8 * (f % 2)) (f / 2 + 8 * (g % 2)) (g / 2 + 8 * (h % 2)) (h / 2) := by
  unfold nb8
  simp only [hf, md2]
theorem nb8_4 {a b c d e f g h : Nat} : nb8 a b c d e f g h / 4 = nb8 (a / 4 + 4 * (b % 4)) (b / 4 + 4 * (c % 4)) (c / 4 + 4 * (d % 4)) (d / 4 + 4 * (e % 4)) (e / 4 + 4 * (f % 4)) (f / 4 + 4 * (g % 4)) (g / 4 + 4 * (h % 4)) (h / 4) := by
  unfold nb8
  simp only [qf4, md4]
theorem nb8_sub {a b c d e f g h a' b' c' d' e' f' g' h' : Nat} (k1 : a' ≤ a) (k2 : b' ≤ b) (k3 : c' ≤ c) (k4 : d' ≤ d) (k5 : e' ≤ e) (k6 : f' ≤ f) (k7 : g' ≤ g) (k8 : h' ≤ h) : nb8 a b c d e f g h - nb8 a' b' c' d' e' f' g' h' = nb8 (a - a') (b - b') (c - c') (d - d') (e - e') (f - f') (g - g') (h - h') := by
  unfold nb8
  have l7 := dle (h := h) (b := h') k7 k8
  have l6 := dle k6 l7
  have l5 := dle k5 l6
  have l4 := dle k4 l5
  have l3 := dle k3 l4
  have l2 := dle k2 l3
  rw [df k1 l2, df k2 l3, df k3 l4, df k4 l5, df k5 l6, df k6 l7, df k7 k8]
theorem nb8_add {a b c d e f g h a' b' c' d' e' f' g' h' : Nat} : nb8 a b c d e f g h + nb8 a' b' c' d' e' f' g' h' = nb8 (a + a') (b + b') (c + c') (d + d') (e + e') (f + f') (g + g') (h + h') := by
  unfold nb8
  simp only [ad]
theorem nb8_16 {a b c d e f g h : Nat} (ha : a < 16) : nb8 a b c d e f g h / 16 = nb8 b c d e f g h 0 := by
  unfold nb8
  rw [dv ha, Nat.mul_zero, Nat.add_zero]
theorem nb8_lt {a b c d e f g h : Nat} (h1 : a < 16) (h2 : b < 16) (h3 : c < 16) (h4 : d < 16) (h5 : e < 16) (h6 : f < 16) (h7 : g < 16) (h8 : h < 16) : nb8 a b c d e f g h < 4294967296 := by
  unfold nb8
  omega
theorem nb8_of (n : Nat) : n = nb8 (n % 16) (n / 16 % 16) (n / 256 % 16) (n / 4096 % 16) (n / 65536 % 16) (n / 1048576 % 16) (n / 16777216 % 16) (n / 268435456) := by
  have d : ∀ m : Nat, m = m % 16 + 16 * (m / 16) := fun m => (Nat.mod_add_div m 16).symm
  have q1 := d n
  have q2 := d (n / 16)
  have q3 := d (n / 256)
  have q4 := d (n / 4096)
  have q5 := d (n / 65536)
  have q6 := d (n / 1048576)
  have q7 := d (n / 16777216)
  rw [Nat.div_div_eq_div_mul] at q2 q3 q4 q5 q6 q7
  simp only [Nat.reduceMul] at q2 q3 q4 q5 q6 q7
  unfold nb8
  rw [← q7, ← q6, ← q5, ← q4, ← q3, ← q2, ← q1]
def pc4 (d : Nat) : Nat := d % 2 + d / 2 % 2 + d / 4 % 2 + d / 8 % 2
theorem n1 : ∀ d, d < 16 → ∀ b, b < 2 → (d / 2 + 8 * b) &&& 5 = d / 2 % 2 + d / 8 % 2 * 4 := by decide
theorem n2 : ∀ d, d < 16 → d &&& 3 = d % 4 := by decide
theorem n2b : ∀ d, d < 16 → ∀ b, b < 4 → (d / 4 + 4 * b) &&& 3 = d / 4 := by decide
theorem n3 : ∀ d, d < 16 → d &&& 15 = d := by decide
theorem n3z : ∀ d, d < 16 → d &&& 0 = 0 := by decide
theorem n5 : ∀ d, d < 256 → d &&& 63 = d % 64 := by decide +kernel
theorem sw_a {n : Nat} (hn : n < 4294967296) : ∃ p0 p1 p2 p3 p4 p5 p6 p7 : Nat, (p0 = pc4 (n % 16) ∧ p1 = pc4 (n / 16 % 16) ∧ p2 = pc4 (n / 256 % 16) ∧ p3 = pc4 (n / 4096 % 16) ∧ p4 = pc4 (n / 65536 % 16) ∧ p5 = pc4 (n / 1048576 % 16) ∧ p6 = pc4 (n / 16777216 % 16) ∧ p7 = pc4 (n / 268435456)) ∧
    ((n - ((n / 2) &&& 1431655765)) &&& 858993459) + (((n - ((n / 2) &&& 1431655765)) / 4) &&& 858993459) = nb8 p0 p1 p2 p3 p4 p5 p6 p7 := by
  refine ⟨_, _, _, _, _, _, _, _, ⟨rfl, rfl, rfl, rfl, rfl, rfl, rfl, rfl⟩, ?_⟩
  have e := nb8_of n
  have x0 : n % 16 < 16 := Nat.mod_lt _ (by decide)
  have x1 : n / 16 % 16 < 16 := Nat.mod_lt _ (by decide)
  have x2 : n / 256 % 16 < 16 := Nat.mod_lt _ (by decide)
  have x3 : n / 4096 % 16 < 16 := Nat.mod_lt _ (by decide)
  have x4 : n / 65536 % 16 < 16 := Nat.mod_lt _ (by decide)
  have x5 : n / 1048576 % 16 < 16 := Nat.mod_lt _ (by decide)
  have x6 : n / 16777216 % 16 < 16 := Nat.mod_lt _ (by decide)
  have x7 : n / 268435456 < 16 := by omega
  generalize n % 16 = d0 at *
  generalize n / 16 % 16 = d1 at *
  generalize n / 256 % 16 = d2 at *
  generalize n / 4096 % 16 = d3 at *
  generalize n / 65536 % 16 = d4 at *
  generalize n / 1048576 % 16 = d5 at *
  generalize n / 16777216 % 16 = d6 at *
  generalize n / 268435456 = d7 at *
  have m5 : 1431655765 = nb8 5 5 5 5 5 5 5 5 := by decide
  have m3 : 858993459 = nb8 3 3 3 3 3 3 3 3 := by decide
  have eh : n / 2 = nb8 (d0 / 2 + 8 * (d1 % 2)) (d1 / 2 + 8 * (d2 % 2)) (d2 / 2 + 8 * (d3 % 2)) (d3 / 2 + 8 * (d4 % 2)) (d4 / 2 + 8 * (d5 % 2)) (d5 / 2 + 8 * (d6 % 2)) (d6 / 2 + 8 * (d7 % 2)) (d7 / 2 + 8 * 0) := by
    rw [e, nb8_2, Nat.mul_zero, Nat.add_zero]
  have ea : (n / 2) &&& 1431655765 = nb8 (d0 / 2 % 2 + d0 / 8 % 2 * 4) (d1 / 2 % 2 + d1 / 8 % 2 * 4) (d2 / 2 % 2 + d2 / 8 % 2 * 4) (d3 / 2 % 2 + d3 / 8 % 2 * 4) (d4 / 2 % 2 + d4 / 8 % 2 * 4) (d5 / 2 % 2 + d5 / 8 % 2 * 4) (d6 / 2 % 2 + d6 / 8 % 2 * 4) (d7 / 2 % 2 + d7 / 8 % 2 * 4) := by
    rw [eh, m5, nb8_and (by omega) (by omega) (by omega) (by omega) (by omega) (by omega) (by omega) (by decide) (by decide) (by decide) (by decide) (by decide) (by decide) (by decide),
      n1 d0 x0 _ (Nat.mod_lt _ (by decide)), n1 d1 x1 _ (Nat.mod_lt _ (by decide)), n1 d2 x2 _ (Nat.mod_lt _ (by decide)), n1 d3 x3 _ (Nat.mod_lt _ (by decide)), n1 d4 x4 _ (Nat.mod_lt _ (by decide)), n1 d5 x5 _ (Nat.mod_lt _ (by decide)), n1 d6 x6 _ (Nat.mod_lt _ (by decide)), n1 d7 x7 _ (by decide)]
  have q : ∀ d, d < 16 → d - (d / 2 % 2 + d / 8 % 2 * 4) < 16 ∧ d / 2 % 2 + d / 8 % 2 * 4 ≤ d ∧ (d - (d / 2 % 2 + d / 8 % 2 * 4)) % 4 + (d - (d / 2 % 2 + d / 8 % 2 * 4)) / 4 = pc4 d := by decide
  have y0 := q d0 x0
  have y1 := q d1 x1
  have y2 := q d2 x2
  have y3 := q d3 x3
  have y4 := q d4 x4
  have y5 := q d5 x5
  have y6 := q d6 x6
  have y7 := q d7 x7
  have es : n - ((n / 2) &&& 1431655765) = nb8 (d0 - (d0 / 2 % 2 + d0 / 8 % 2 * 4)) (d1 - (d1 / 2 % 2 + d1 / 8 % 2 * 4)) (d2 - (d2 / 2 % 2 + d2 / 8 % 2 * 4)) (d3 - (d3 / 2 % 2 + d3 / 8 % 2 * 4)) (d4 - (d4 / 2 % 2 + d4 / 8 % 2 * 4)) (d5 - (d5 / 2 % 2 + d5 / 8 % 2 * 4)) (d6 - (d6 / 2 % 2 + d6 / 8 % 2 * 4)) (d7 - (d7 / 2 % 2 + d7 / 8 % 2 * 4)) := by
    rw [ea, e, nb8_sub y0.2.1 y1.2.1 y2.2.1 y3.2.1 y4.2.1 y5.2.1 y6.2.1 y7.2.1]
  rw [es]
  generalize d0 - (d0 / 2 % 2 + d0 / 8 % 2 * 4) = f0 at *
  generalize d1 - (d1 / 2 % 2 + d1 / 8 % 2 * 4) = f1 at *
  generalize d2 - (d2 / 2 % 2 + d2 / 8 % 2 * 4) = f2 at *
  generalize d3 - (d3 / 2 % 2 + d3 / 8 % 2 * 4) = f3 at *
  generalize d4 - (d4 / 2 % 2 + d4 / 8 % 2 * 4) = f4 at *
  generalize d5 - (d5 / 2 % 2 + d5 / 8 % 2 * 4) = f5 at *
  generalize d6 - (d6 / 2 % 2 + d6 / 8 % 2 * 4) = f6 at *
  generalize d7 - (d7 / 2 % 2 + d7 / 8 % 2 * 4) = f7 at *
  have e4 : nb8 f0 f1 f2 f3 f4 f5 f6 f7 / 4 = nb8 (f0 / 4 + 4 * (f1 % 4)) (f1 / 4 + 4 * (f2 % 4)) (f2 / 4 + 4 * (f3 % 4)) (f3 / 4 + 4 * (f4 % 4)) (f4 / 4 + 4 * (f5 % 4)) (f5 / 4 + 4 * (f6 % 4)) (f6 / 4 + 4 * (f7 % 4)) (f7 / 4 + 4 * 0) := by
    rw [nb8_4, Nat.mul_zero, Nat.add_zero]
  rw [e4, m3, nb8_and (by omega) (by omega) (by omega) (by omega) (by omega) (by omega) (by omega) (by decide) (by decide) (by decide) (by decide) (by decide) (by decide) (by decide),
    nb8_and (by omega) (by omega) (by omega) (by omega) (by omega) (by omega) (by omega) (by decide) (by decide) (by decide) (by decide) (by decide) (by decide) (by decide),
    n2 f0 y0.1, n2 f1 y1.1, n2 f2 y2.1, n2 f3 y3.1, n2 f4 y4.1, n2 f5 y5.1, n2 f6 y6.1, n2 f7 y7.1,
    n2b f0 y0.1 _ (Nat.mod_lt _ (by decide)), n2b f1 y1.1 _ (Nat.mod_lt _ (by decide)), n2b f2 y2.1 _ (Nat.mod_lt _ (by decide)), n2b f3 y3.1 _ (Nat.mod_lt _ (by decide)), n2b f4 y4.1 _ (Nat.mod_lt _ (by decide)), n2b f5 y5.1 _ (Nat.mod_lt _ (by decide)), n2b f6 y6.1 _ (Nat.mod_lt _ (by decide)), n2b f7 y7.1 _ (by decide), nb8_add, y0.2.2, y1.2.2, y2.2.2, y3.2.2, y4.2.2, y5.2.2, y6.2.2, y7.2.2]
theorem pc4_le {d : Nat} : pc4 d ≤ 4 := by unfold pc4; omega
def bcN (n : Nat) : Nat := pc4 (n % 16) + pc4 (n / 16 % 16) + pc4 (n / 256 % 16) + pc4 (n / 4096 % 16) + pc4 (n / 65536 % 16) + pc4 (n / 1048576 % 16) + pc4 (n / 16777216 % 16) + pc4 (n / 268435456)
theorem sw_b {n y w v : Nat} (hn : n < 4294967296) (hy : y = ((n - ((n / 2) &&& 1431655765)) &&& 858993459) + (((n - ((n / 2) &&& 1431655765)) / 4) &&& 858993459)) (hw : w = (y + y / 16) &&& 252645135) (hv : v = w + w / 256) : (v + v / 65536) &&& 63 = bcN n ∧ y < 4294967296 ∧ y + y / 16 < 4294967296 ∧ w + w / 256 < 4294967296 ∧ v + v / 65536 < 4294967296 := by
  obtain ⟨p0, p1, p2, p3, p4, p5, p6, p7, ⟨h0, h1, h2, h3, h4, h5, h6, h7⟩, e⟩ := sw_a hn
  have z : p0 ≤ 4 ∧ p1 ≤ 4 ∧ p2 ≤ 4 ∧ p3 ≤ 4 ∧ p4 ≤ 4 ∧ p5 ≤ 4 ∧ p6 ≤ 4 ∧ p7 ≤ 4 := by
    rw [h0, h1, h2, h3, h4, h5, h6, h7]; exact ⟨pc4_le, pc4_le, pc4_le, pc4_le, pc4_le, pc4_le, pc4_le, pc4_le⟩
  obtain ⟨z0, z1, z2, z3, z4, z5, z6, z7⟩ := z
  rw [e] at hy
  have eB : bcN n = p0 + p1 + p2 + p3 + p4 + p5 + p6 + p7 := by unfold bcN; rw [h0, h1, h2, h3, h4, h5, h6, h7]
  have ey : y + y / 16 = nb8 (p0 + p1) (p1 + p2) (p2 + p3) (p3 + p4) (p4 + p5) (p5 + p6) (p6 + p7) p7 := by rw [hy, nb8_16 (by omega), nb8_add, Nat.add_zero]
  have mf : 252645135 = nb8 15 0 15 0 15 0 15 0 := by decide
  have ew : w = nb8 (p0 + p1) 0 (p2 + p3) 0 (p4 + p5) 0 (p6 + p7) 0 := by
    rw [hw, ey, mf, nb8_and (by omega) (by omega) (by omega) (by omega) (by omega) (by omega) (by omega) (by decide) (by decide) (by decide) (by decide) (by decide) (by decide) (by decide),
      n3 _ (show p0 + p1 < 16 by omega), n3 _ (show p2 + p3 < 16 by omega), n3 _ (show p4 + p5 < 16 by omega), n3 _ (show p6 + p7 < 16 by omega), Nat.and_zero, Nat.and_zero, Nat.and_zero, Nat.and_zero]
  have ev : v = nb8 (p0 + p1 + p2 + p3) 0 (p2 + p3 + p4 + p5) 0 (p4 + p5 + p6 + p7) 0 (p6 + p7) 0 := by
    rw [hv, ew, show ∀ x, x / 256 = x / 16 / 16 from fun x => by omega, nb8_16 (by omega), nb8_16 (by omega), nb8_add]
    simp only [Nat.add_zero]
    rw [show p0 + p1 + (p2 + p3) = p0 + p1 + p2 + p3 from by omega, show p2 + p3 + (p4 + p5) = p2 + p3 + p4 + p5 from by omega, show p4 + p5 + (p6 + p7) = p4 + p5 + p6 + p7 from by omega]
  have e5 : v + v / 65536 = nb8 (p0 + p1 + p2 + p3 + (p4 + p5 + p6 + p7)) 0 (p2 + p3 + p4 + p5 + (p6 + p7)) 0 (p4 + p5 + p6 + p7) 0 (p6 + p7) 0 := by
    have q1 : v / 65536 = nb8 (p4 + p5 + p6 + p7) 0 (p6 + p7) 0 0 0 0 0 := by
      have v6 : v = (p0 + p1 + p2 + p3 + 16 * (0 + 16 * (p2 + p3 + p4 + p5))) + 65536 * (p4 + p5 + p6 + p7 + 256 * (p6 + p7)) := by rw [ev]; unfold nb8; omega
      have s6 : p0 + p1 + p2 + p3 + 16 * (0 + 16 * (p2 + p3 + p4 + p5)) < 65536 := by omega
      have : nb8 (p4 + p5 + p6 + p7) 0 (p6 + p7) 0 0 0 0 0 = p4 + p5 + p6 + p7 + 256 * (p6 + p7) := by unfold nb8; omega
      rw [this, v6]
      generalize p0 + p1 + p2 + p3 + 16 * (0 + 16 * (p2 + p3 + p4 + p5)) = lo at *
      generalize p4 + p5 + p6 + p7 + 256 * (p6 + p7) = hi at *
      omega
    rw [q1, ev, nb8_add]
    simp only [Nat.add_zero]
  refine ⟨?_, ?_, ?_, ?_, ?_⟩
  · rw [show (63 : Nat) = 2 ^ 6 - 1 from rfl, Nat.and_two_pow_sub_one_eq_mod, e5, eB]
    have : nb8 (p0 + p1 + p2 + p3 + (p4 + p5 + p6 + p7)) 0 (p2 + p3 + p4 + p5 + (p6 + p7)) 0 (p4 + p5 + p6 + p7) 0 (p6 + p7) 0 = (p0 + p1 + p2 + p3 + (p4 + p5 + p6 + p7)) + 64 * (4 * (p2 + p3 + p4 + p5 + (p6 + p7)) + 1024 * (p4 + p5 + p6 + p7) + 262144 * (p6 + p7)) := by unfold nb8; omega
    rw [this]
    have : p0 + p1 + p2 + p3 + (p4 + p5 + p6 + p7) < 64 := by omega
    omega
  · rw [hy]; exact nb8_lt (by omega) (by omega) (by omega) (by omega) (by omega) (by omega) (by omega) (by omega)
  · rw [ey]; exact nb8_lt (by omega) (by omega) (by omega) (by omega) (by omega) (by omega) (by omega) (by omega)
  · rw [← hv, ev]; unfold nb8; omega
  · rw [e5]; unfold nb8; omega
