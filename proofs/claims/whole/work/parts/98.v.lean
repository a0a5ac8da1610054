/-! the reference's face, the rest -/
theorem iN_1 {x : Int32} {n : Nat} (hn : n ≤ 1000) (h : iN x 0 (Int32.ofNat n - 1) = true) : ∃ m, m < n ∧ x = Int32.ofNat m := by
  have h' := of_decide_eq_true h
  have h0 := Int32.le_iff_toInt_le.mp h'.1
  have h1 := Int32.le_iff_toInt_le.mp h'.2
  have z0 : (0 : Int32).toInt = 0 := rfl
  refine ⟨x.toInt.toNat, ?_, ?_⟩
  · by_cases e : n = 0
    · subst e
      have : (Int32.ofNat 0 - 1).toInt = -1 := by decide
      omega
    · rw [io_sub1' (by omega), Int32.toInt_ofNat_of_lt (by omega)] at h1
      omega
  · apply Int32.toInt_inj.mp
    have hb : x.toInt < 2147483648 := Int32.toInt_lt x
    rw [Int32.toInt_ofNat_of_lt (by omega)]
    omega
theorem iC_1 {g : Nat → Int32} {r c : Nat} {x y : Int32} (hs : gS g r c) (h : iC g x y = true) : ∃ rr cc, rr < r ∧ cc < c ∧ x = Int32.ofNat rr ∧ y = Int32.ofNat cc := by
  obtain ⟨g0, g1, a1, a2, a3, a4⟩ := hs
  unfold iC at h
  rw [Bool.and_eq_true, g0, g1] at h
  obtain ⟨m, m1, m2⟩ := iN_1 (by omega) h.1
  obtain ⟨m', m3, m4⟩ := iN_1 (by omega) h.2
  exact ⟨m, m', m1, m3, m2, m4⟩
theorem ahM_1 {g : Nat → Int32} {r c n p d : Nat} (hs : gS g r c) : ahM g c n p d = -1 ∨ ∃ m, m < r * c ∧ ahM g c n p d = Int32.ofNat m := by
  unfold ahM
  cases h : iC g (Int32.ofNat (p / c) + drM d) (Int32.ofNat (p % c) + dcM d)
  · left; simp
  · obtain ⟨rr, cc, h1, h2, h3, h4⟩ := iC_1 hs h
    by_cases e : inM g n ((Int32.ofNat (p / c) + drM d) * Int32.ofNat c + (Int32.ofNat (p % c) + dcM d)) = -1
    · right
      refine ⟨rr * c + cc, cell_lt h1 h2, ?_⟩
      rw [if_pos (by simp [e]), h3, h4, io_cell]
    · left; simp [e]
/-- the worms of the reference: n of them, in the cells, with directions -/
def wM (g : Nat → Int32) (n N : Nat) : Prop := g 4 = Int32.ofNat n ∧ n ≤ 4 ∧ ∀ k, k < n → (∃ p, p < N ∧ g (33 + 2 * k) = Int32.ofNat p) ∧ ∃ d, d < 4 ∧ g (33 + 2 * k + 1) = Int32.ofNat d
/-- one worm's act -/
def stF (r c n : Nat) (k : Nat) (s : Int32 × (Nat → Int32)) : Int32 × (Nat → Int32) :=
  if ahM s.2 c n (s.2 (33 + 2 * k)).toNatClampNeg (s.2 (33 + 2 * k + 1)).toNatClampNeg = -1 then (s.1, upd s.2 (33 + 2 * k + 1) (s.2 (33 + 2 * k + 1) + 1 - (s.2 (33 + 2 * k + 1) + 1) / 4 * 4))
  else (s.1 + 1, psM (upd s.2 (33 + 2 * k) (ahM s.2 c n (s.2 (33 + 2 * k)).toNatClampNeg (s.2 (33 + 2 * k + 1)).toNatClampNeg)) r c (ahM s.2 c n (s.2 (33 + 2 * k)).toNatClampNeg (s.2 (33 + 2 * k + 1)).toNatClampNeg).toNatClampNeg)
theorem psM_o {g : Nat → Int32} {r c m j : Nat} (h : ¬ j = 5) (h2 : ¬ j = 8 + m) : psM g r c m j = g j := by
  unfold psM upd
  rw [if_neg h2, if_neg h]
theorem stF_inv {r c n k : Nat} {s : Int32 × (Nat → Int32)} (hk : k < n) (hs : gS s.2 r c) (hw : wM s.2 n (r * c)) : gS (stF r c n k s).2 r c ∧ wM (stF r c n k s).2 n (r * c) := by
  obtain ⟨g0, g1, a1, a2, a3, a4⟩ := id hs
  obtain ⟨w1, w2, w3⟩ := id hw
  have h25 := gS_n hs
  have hah := ahM_1 (n := n) (p := (s.2 (33 + 2 * k)).toNatClampNeg) (d := (s.2 (33 + 2 * k + 1)).toNatClampNeg) hs
  unfold stF
  generalize ahM s.2 c n (s.2 (33 + 2 * k)).toNatClampNeg (s.2 (33 + 2 * k + 1)).toNatClampNeg = x at hah ⊢
  by_cases e : x = -1
  · rw [if_pos e]
    obtain ⟨d, hd4, hd⟩ := (w3 k hk).2
    have ht : ∃ d', d' < 4 ∧ s.2 (33 + 2 * k + 1) + 1 - (s.2 (33 + 2 * k + 1) + 1) / 4 * 4 = Int32.ofNat d' := by
      rw [hd]
      match d, hd4 with
      | 0, _ => exact ⟨1, by decide, rfl⟩
      | 1, _ => exact ⟨2, by decide, rfl⟩
      | 2, _ => exact ⟨3, by decide, rfl⟩
      | 3, _ => exact ⟨0, by decide, rfl⟩
    have o : ∀ j, ¬ j = 33 + 2 * k + 1 → upd s.2 (33 + 2 * k + 1) (s.2 (33 + 2 * k + 1) + 1 - (s.2 (33 + 2 * k + 1) + 1) / 4 * 4) j = s.2 j := fun j hj => if_neg hj
    refine ⟨⟨?_, ?_, a1, a2, a3, a4⟩, ?_, w2, fun j hj => ⟨?_, ?_⟩⟩
    · dsimp only
      rw [o 0 (by omega)]; exact g0
    · dsimp only
      rw [o 1 (by omega)]; exact g1
    · dsimp only
      rw [o 4 (by omega)]; exact w1
    · dsimp only
      rw [o _ (by omega)]; exact (w3 j hj).1
    · dsimp only
      by_cases ej : j = k
      · subst ej
        unfold upd
        rw [if_pos rfl]; exact ht
      · rw [o _ (by omega)]; exact (w3 j hj).2
  · rw [if_neg e]
    obtain ⟨m, hm, hx⟩ := hah.resolve_left e
    subst hx
    rw [io_nat (by omega)]
    have o : ∀ j, ¬ j = 5 → ¬ j = 8 + m → ¬ j = 33 + 2 * k → psM (upd s.2 (33 + 2 * k) (Int32.ofNat m)) r c m j = s.2 j := by
      intro j q1 q2 q3
      rw [psM_o q1 q2]; exact if_neg q3
    refine ⟨⟨?_, ?_, a1, a2, a3, a4⟩, ?_, w2, fun j hj => ⟨?_, ?_⟩⟩
    · dsimp only
      rw [o 0 (by omega) (by omega) (by omega)]; exact g0
    · dsimp only
      rw [o 1 (by omega) (by omega) (by omega)]; exact g1
    · dsimp only
      rw [o 4 (by omega) (by omega) (by omega)]; exact w1
    · dsimp only
      by_cases ej : j = k
      · subst ej
        rw [psM_o (by omega) (by omega)]
        unfold upd
        rw [if_pos rfl]; exact ⟨m, hm, rfl⟩
      · rw [o _ (by omega) (by omega) (by omega)]; exact (w3 j hj).1
    · dsimp only
      rw [o _ (by omega) (by omega) (by omega)]; exact (w3 j hj).2
def stM (g : Nat → Int32) (r c n : Nat) : Int32 × (Nat → Int32) := itr (stF r c n) n 0 (0, upd g 3 (g 3 + 1))
theorem i4z : ((4 : Int32) = 0) = False := by simp
theorem io_lt0 {x : Int32} (h : x = -1 ∨ ∃ m, m < 1000 ∧ x = Int32.ofNat m) : (0 ≤ x) = ¬ x = -1 := by
  rcases h with h | ⟨m, hm, h⟩
  · subst h; simp
  · subst h
    rw [iod0 (by omega)]
    have : ¬ Int32.ofNat m = -1 := by
      intro q
      have := congrArg Int32.toInt q
      rw [Int32.toInt_ofNat_of_lt (by omega)] at this
      have z1 : (-1 : Int32).toInt = -1 := by decide
      omega
    simp [this]
theorem m_step {C G : HP} {z : WB} {Q : AQ} {r c n k : Nat} {w : Bool} (h : gS (G 125) r c) (hw : wM (G 125) n (r * c)) (kh : kH G k w) : Bk 171 0 0 0 [.ref 124, xk, xk, xk] [] (WO C G z) Q = Q (.inl (some (.int (stM (G 125) r c n).1))) (WO C (us (kpG G 125 k w) 125 (stM (G 125) r c n).2) z) := by
  have h25 := gS_n h
  have st : ∀ j (s : (Int32 × (Nat → Int32)) × Value), j < n → (gS s.1.2 r c ∧ wM s.1.2 n (r * c)) → Bk 171 16 0 0 [.ref 124, .int s.1.1, .int (Int32.ofNat j), s.2] [] (WO C (us (kpG G 125 k w) 125 s.1.2) z) Q = Bk 171 16 0 0 [.ref 124, .int (stF r c n j s.1).1, .int (Int32.ofNat (j + 1)), .int (ahM s.1.2 c n (s.1.2 (33 + 2 * j)).toNatClampNeg (s.1.2 (33 + 2 * j + 1)).toNatClampNeg)] [] (WO C (us (kpG G 125 k w) 125 (stF r c n j s.1).2) z) Q := by
    intro j s hj hi
    obtain ⟨⟨m, g⟩, v⟩ := s
    have hs : gS g r c := hi.1
    have hw : wM g n (r * c) := hi.2
    obtain ⟨w1, w2, w3⟩ := id hw
    obtain ⟨p, hp, ep⟩ := (w3 j hj).1
    obtain ⟨d, hd, ed⟩ := (w3 j hj).2
    have h1 : ¬ n ≤ j := by omega
    have h2 : 33 + 2 * j < 41 := by omega
    have h3 : 33 + 2 * j + 1 < 41 := by omega
    have ah := fun Q => r_ahead (C := C) (G := us (kpG G 125 k w) 125 g) (z := z) (Q := Q) (r := r) (c := c) (n := n) (k := j) (p := p) (d := d) (by rw [us_same]; exact hs) (by rw [us_same]; exact w1) w2 hj (by rw [us_same]; exact ep) (by omega) (by rw [us_same]; exact ed) hd
    rw [us_same] at ah
    have hah := ahM_1 (n := n) (p := p) (d := d) hs
    have l0 := io_lt0 (x := ahM g c n p d) (hah.imp id (fun ⟨m, a, b⟩ => ⟨m, by omega, b⟩))
    rw [e171_16]
    unfold stF
    simp only [ep, ed, io_nat (show p < 2147483648 from by omega), io_nat (show d < 2147483648 from by omega)]
    by_cases e : ahM g c n p d = -1
    · have e' : ¬ (0 ≤ (-1 : Int32)) := by decide
      rw [e] at ah
      simp (disch := omega) only [e171_0, e171_53, e171_66, e171_68, c171_68, c171_66, c171_53, c171_16, c171_0, w_iload, w_iload_n, w_aload, w_aload_n, w_dload, w_iconst, w_bipush, w_sipush, w_lconst, w_null, w_istore, w_istore_n, w_astore, w_astoreN, w_astore_n, w_astore_nN, w_dstore, w_iinc, w_iadd, w_isub, w_imul, w_iand, w_ior, w_ixor, w_ishl, w_ishr, w_iushr, w_idiv, w_irem, w_ineg, w_i2l, w_i2c, w_i2b, w_i2f, w_i2d, w_f2d, w_fdiv, w_ddiv, w_lcmp, w_dcmp, w_dup, w_dup2, w_pop, w_getf, w_putf, w_gets, w_ldc0, w_ldc1, w_ldc_w0, w_ldc_w1, w_new, w_newa, w_anewa, w_alen, w_iaload, w_caload, w_baload, w_laload, w_aaload, w_iastore, w_castore, w_lastore, w_aastore, w_if_eq, w_ic_eq, w_if_ne, w_ic_ne, w_if_lt, w_ic_lt, w_if_ge, w_ic_ge, w_if_gt, w_ic_gt, w_if_le, w_ic_le, w_ifnull, w_ifnullN, w_ifnonnull, w_ifnonnullN, w_goto, w_tsw, w_lsw, w_ireturn, w_areturn, w_areturnN, w_dreturn, w_freturn, w_return, w_athrow, w_oinit, w_acopy, w_ord, w_call_vir, w_call_spe, w_call_sta, lg, lset, lok, okRet, List.length, Nat.reduceAdd, Nat.reduceLT, true_and, and_true, fv0, fv1, fv2, fv3, aft, Cl, Int32.reduceOfInt, Int32.reduceLT, Int32.reduceLE, Int32.reduceToNatClampNeg, Nat.reduceLeDiff, Nat.reduceAdd, Nat.reduceEqDiff, if_true, if_false, reduceIte, or_self, true_or, or_true,  not_false_eq_true, and_true, true_implies, false_implies, not_true_eq_false, and_self, tkr, rcv, cat1, cats, Value.category, padl, List.replicate, nb0, nb1, io_lt, io_le, io_eq, io_succ, io_nat, io_in, io_neg, io_0, bI0, bI1, bIz, bIn, b8_m6, b8_6, b8_7, b8_8, b8_9, b8_10, b8_16, b8_20, b8_25, b8_30, b8_31, b8_32, b8_33, b8_35, b8_41, b8_42, b8_43, b8_46, b8_48, b8_57, b8_59, b8_60, b8_63, b8_99, b8_100, b8_101, b8_103, b8_105, b8_108, b8_110, b8_111, b8_112, b8_114, b8_115, b8_116, b8_119, b8_120, b8_124, b8_126, b16_255, b16_287, b16_328, ioa0, iob0, ioc0, iod0, ioe0, ioa1, iob1, ioc1, iod1, ioe1, ioa2, iob2, ioc2, iod2, ioe2, ioa3, iob3, ioc3, iod3, ioe3, ioa4, iob4, ioc4, iod4, ioe4, ioa5, iob5, ioc5, iod5, ioe5, ioa6, iob6, ioc6, iod6, ioe6, ioa7, iob7, ioc7, iod7, ioe7, ioa8, iob8, ioc8, iod8, ioe8, ioa9, iob9, ioc9, iod9, ioe9, ioa10, iob10, ioc10, iod10, ioe10, ioa20, iob20, ioc20, iod20, ioe20, ioa25, iob25, ioc25, iod25, ioe25, ioa30, iob30, ioc30, iod30, ioe30, ioa31, iob31, ioc31, iod31, ioe31, ioa32, iob32, ioc32, iod32, ioe32, ioa33, iob33, ioc33, iod33, ioe33, ioa41, iob41, ioc41, iod41, ioe41, ioa48, iob48, ioc48, iod48, ioe48, ioa57, iob57, ioc57, iod57, ioe57, ioa59, iob59, ioc59, iod59, ioe59, ioa60, iob60, ioc60, iod60, ioe60, ioa63, iob63, ioc63, iod63, ioe63, ioa126, iob126, ioc126, iod126, ioe126, ioa255, iob255, ioc255, iod255, ioe255, ioa287, iob287, ioc287, iod287, ioe287, ioa328, iob328, ioc328, iod328, ioe328, vi0, vi1, vi2, vi3, vi4, vi5, vi6, vi7, vi8, vi9, vi10, vi11, vi12, vi13, vi14, vi15, vi16, vi17, vi18, vi19, vi20, vi21, vi22, vi23, vi24, vi25, vi26, vi27, vi28, vi29, vi30, vi31, vi32, vi33, vi34, vi35, vi36, vi37, vi38, vi39, vi40, vi41, kL59, kL75, kL76, kL117, kL118, kL119, kL120, kL121, kL122, kL123, kL124, kL125, kL126, kL127, kL128, kL129, kL130, kL131, kL132, kL133, kL134, kL135, R135, WO_out, WO_seal, R59, P59_3, P59_7, P59_8, P59_10, R75, P75_1, P75_2, R117, P117_2, P117_4, R118, P118, R119, P119, R120, P120, R121, P121_1, R122, P122, R123, P123, R124, P124_4, P124_5, P124_6, P124_7, P124_9, P124_10, P124_11, P124_13, P124_17, P124_18, P124_19, P124_20, P124_22, R125, P125, R126, P126, R127, P127, R128, P128, R129, P129, R130, P130, R131, P131, R132, P132, R133, P133, R134, P134, R14, R15, R16, R17, R18, R19, R20, R21, R22, R23, R24, R25, R26, R27, R28, R29, R30, R31, R32, R33, R34, R35, R4, R5, R6, R7, R8, R9, R10, R11, R12, R13, R76, F59_0, F59_1, F59_2, F59_3, F59_4, F59_5, F59_6, F59_7, F59_8, F59_9, F59_10, F59_len, F75_0, F75_1, F75_2, F75_len, F117_0, F117_1, F117_2, F117_3, F117_4, F117_len, F121_0, F121_1, F121_len, F124_0, F124_1, F124_2, F124_3, F124_4, F124_5, F124_6, F124_7, F124_8, F124_9, F124_10, F124_11, F124_12, F124_13, F124_14, F124_15, F124_16, F124_17, F124_18, F124_19, F124_20, F124_21, F124_22, F124_len, FB_0, FB_1, FB_2, FB_3, FB_4, FB_5, FB_6, FB_7, FB_8, FB_9, FB_len, FW_0, FW_1, FW_2, FW_len, okp0, okp2, okp3, us_app, us_us, nb01, nb02, nb03, nb04, nb10, nb12, nb13, nb14, nb20, nb21, nb23, nb24, nb30, nb31, nb32, nb34, nb40, nb41, nb42, nb43, iB60, iB65, iB70, iB77, iB82, iB87, iB92, iB97, iB102, iB107, iB112, hfind, exName, String.reduceEq, RB60, RB61, RB62, RB63, RB64, PB60_6, kL60, ou_eq, Bool.true_eq_false, Bool.false_eq_true, reduceCtorEq, bIn, io_0, fw0, fw1, q_numberOf, io_num, r_in, r_fails, r_isNone, r_isCell, r_cell, r_cells, r_has, r_bits, r_thrown, kpG_125, kpG_7, upd_app, upd_upd, io_8a, io_33a, nch, Int32.reduceLT, Int32.lt_irrefl, decide_true, decide_false, bIt, bIf, i10, Bool.not_true, Bool.not_false, io_2m, w1, h1, h2, h3, ah, e, e', ed, i4z]
    · obtain ⟨x, hx, ex⟩ := hah.resolve_left e
      have ps := fun Q => r_pushes (C := C) (G := us (kpG G 125 k w) 125 (upd g (33 + 2 * j) (Int32.ofNat x))) (z := z) (Q := Q) (r := r) (c := c) (n := x) (by
        rw [us_same]
        obtain ⟨g0, g1, a1, a2, a3, a4⟩ := hs
        refine ⟨?_, ?_, a1, a2, a3, a4⟩
        · exact (if_neg (by omega)).trans g0
        · exact (if_neg (by omega)).trans g1) hx
      rw [us_same, us_us] at ps
      have l1 : (0 ≤ Int32.ofNat x) = True := by rw [iod0 (by omega)]; simp
      rw [ex] at ah e
      simp (disch := omega) only [e171_0, e171_53, e171_66, e171_68, c171_68, c171_66, c171_53, c171_16, c171_0, w_iload, w_iload_n, w_aload, w_aload_n, w_dload, w_iconst, w_bipush, w_sipush, w_lconst, w_null, w_istore, w_istore_n, w_astore, w_astoreN, w_astore_n, w_astore_nN, w_dstore, w_iinc, w_iadd, w_isub, w_imul, w_iand, w_ior, w_ixor, w_ishl, w_ishr, w_iushr, w_idiv, w_irem, w_ineg, w_i2l, w_i2c, w_i2b, w_i2f, w_i2d, w_f2d, w_fdiv, w_ddiv, w_lcmp, w_dcmp, w_dup, w_dup2, w_pop, w_getf, w_putf, w_gets, w_ldc0, w_ldc1, w_ldc_w0, w_ldc_w1, w_new, w_newa, w_anewa, w_alen, w_iaload, w_caload, w_baload, w_laload, w_aaload, w_iastore, w_castore, w_lastore, w_aastore, w_if_eq, w_ic_eq, w_if_ne, w_ic_ne, w_if_lt, w_ic_lt, w_if_ge, w_ic_ge, w_if_gt, w_ic_gt, w_if_le, w_ic_le, w_ifnull, w_ifnullN, w_ifnonnull, w_ifnonnullN, w_goto, w_tsw, w_lsw, w_ireturn, w_areturn, w_areturnN, w_dreturn, w_freturn, w_return, w_athrow, w_oinit, w_acopy, w_ord, w_call_vir, w_call_spe, w_call_sta, lg, lset, lok, okRet, List.length, Nat.reduceAdd, Nat.reduceLT, true_and, and_true, fv0, fv1, fv2, fv3, aft, Cl, Int32.reduceOfInt, Int32.reduceLT, Int32.reduceLE, Int32.reduceToNatClampNeg, Nat.reduceLeDiff, Nat.reduceAdd, Nat.reduceEqDiff, if_true, if_false, reduceIte, or_self, true_or, or_true,  not_false_eq_true, and_true, true_implies, false_implies, not_true_eq_false, and_self, tkr, rcv, cat1, cats, Value.category, padl, List.replicate, nb0, nb1, io_lt, io_le, io_eq, io_succ, io_nat, io_in, io_neg, io_0, bI0, bI1, bIz, bIn, b8_m6, b8_6, b8_7, b8_8, b8_9, b8_10, b8_16, b8_20, b8_25, b8_30, b8_31, b8_32, b8_33, b8_35, b8_41, b8_42, b8_43, b8_46, b8_48, b8_57, b8_59, b8_60, b8_63, b8_99, b8_100, b8_101, b8_103, b8_105, b8_108, b8_110, b8_111, b8_112, b8_114, b8_115, b8_116, b8_119, b8_120, b8_124, b8_126, b16_255, b16_287, b16_328, ioa0, iob0, ioc0, iod0, ioe0, ioa1, iob1, ioc1, iod1, ioe1, ioa2, iob2, ioc2, iod2, ioe2, ioa3, iob3, ioc3, iod3, ioe3, ioa4, iob4, ioc4, iod4, ioe4, ioa5, iob5, ioc5, iod5, ioe5, ioa6, iob6, ioc6, iod6, ioe6, ioa7, iob7, ioc7, iod7, ioe7, ioa8, iob8, ioc8, iod8, ioe8, ioa9, iob9, ioc9, iod9, ioe9, ioa10, iob10, ioc10, iod10, ioe10, ioa20, iob20, ioc20, iod20, ioe20, ioa25, iob25, ioc25, iod25, ioe25, ioa30, iob30, ioc30, iod30, ioe30, ioa31, iob31, ioc31, iod31, ioe31, ioa32, iob32, ioc32, iod32, ioe32, ioa33, iob33, ioc33, iod33, ioe33, ioa41, iob41, ioc41, iod41, ioe41, ioa48, iob48, ioc48, iod48, ioe48, ioa57, iob57, ioc57, iod57, ioe57, ioa59, iob59, ioc59, iod59, ioe59, ioa60, iob60, ioc60, iod60, ioe60, ioa63, iob63, ioc63, iod63, ioe63, ioa126, iob126, ioc126, iod126, ioe126, ioa255, iob255, ioc255, iod255, ioe255, ioa287, iob287, ioc287, iod287, ioe287, ioa328, iob328, ioc328, iod328, ioe328, vi0, vi1, vi2, vi3, vi4, vi5, vi6, vi7, vi8, vi9, vi10, vi11, vi12, vi13, vi14, vi15, vi16, vi17, vi18, vi19, vi20, vi21, vi22, vi23, vi24, vi25, vi26, vi27, vi28, vi29, vi30, vi31, vi32, vi33, vi34, vi35, vi36, vi37, vi38, vi39, vi40, vi41, kL59, kL75, kL76, kL117, kL118, kL119, kL120, kL121, kL122, kL123, kL124, kL125, kL126, kL127, kL128, kL129, kL130, kL131, kL132, kL133, kL134, kL135, R135, WO_out, WO_seal, R59, P59_3, P59_7, P59_8, P59_10, R75, P75_1, P75_2, R117, P117_2, P117_4, R118, P118, R119, P119, R120, P120, R121, P121_1, R122, P122, R123, P123, R124, P124_4, P124_5, P124_6, P124_7, P124_9, P124_10, P124_11, P124_13, P124_17, P124_18, P124_19, P124_20, P124_22, R125, P125, R126, P126, R127, P127, R128, P128, R129, P129, R130, P130, R131, P131, R132, P132, R133, P133, R134, P134, R14, R15, R16, R17, R18, R19, R20, R21, R22, R23, R24, R25, R26, R27, R28, R29, R30, R31, R32, R33, R34, R35, R4, R5, R6, R7, R8, R9, R10, R11, R12, R13, R76, F59_0, F59_1, F59_2, F59_3, F59_4, F59_5, F59_6, F59_7, F59_8, F59_9, F59_10, F59_len, F75_0, F75_1, F75_2, F75_len, F117_0, F117_1, F117_2, F117_3, F117_4, F117_len, F121_0, F121_1, F121_len, F124_0, F124_1, F124_2, F124_3, F124_4, F124_5, F124_6, F124_7, F124_8, F124_9, F124_10, F124_11, F124_12, F124_13, F124_14, F124_15, F124_16, F124_17, F124_18, F124_19, F124_20, F124_21, F124_22, F124_len, FB_0, FB_1, FB_2, FB_3, FB_4, FB_5, FB_6, FB_7, FB_8, FB_9, FB_len, FW_0, FW_1, FW_2, FW_len, okp0, okp2, okp3, us_app, us_us, nb01, nb02, nb03, nb04, nb10, nb12, nb13, nb14, nb20, nb21, nb23, nb24, nb30, nb31, nb32, nb34, nb40, nb41, nb42, nb43, iB60, iB65, iB70, iB77, iB82, iB87, iB92, iB97, iB102, iB107, iB112, hfind, exName, String.reduceEq, RB60, RB61, RB62, RB63, RB64, PB60_6, kL60, ou_eq, Bool.true_eq_false, Bool.false_eq_true, reduceCtorEq, bIn, io_0, fw0, fw1, q_numberOf, io_num, r_in, r_fails, r_isNone, r_isCell, r_cell, r_cells, r_has, r_bits, r_thrown, kpG_125, kpG_7, upd_app, upd_upd, io_8a, io_33a, nch, Int32.reduceLT, Int32.lt_irrefl, decide_true, decide_false, bIt, bIf, i10, Bool.not_true, Bool.not_false, io_2m, w1, h1, h2, ah, ex, l1, ps, e]
  have iv : ∀ j (s : (Int32 × (Nat → Int32)) × Value), j < n → (gS s.1.2 r c ∧ wM s.1.2 n (r * c)) → (gS (stF r c n j s.1).2 r c ∧ wM (stF r c n j s.1).2 n (r * c)) := fun j s hj hi => stF_inv hj hi.1 hi.2
  have en : ∀ (s : (Int32 × (Nat → Int32)) × Value), wM s.1.2 n (r * c) → Bk 171 16 0 0 [.ref 124, .int s.1.1, .int (Int32.ofNat n), s.2] [] (WO C (us (kpG G 125 k w) 125 s.1.2) z) Q = Q (.inl (some (.int s.1.1))) (WO C (us (kpG G 125 k w) 125 s.1.2) z) := by
    intro s hw
    have w1 := hw.1
    have w2 := hw.2.1
    rw [e171_16]
    simp (disch := omega) only [e171_0, e171_53, e171_66, e171_68, c171_68, c171_66, c171_53, c171_16, c171_0, w_iload, w_iload_n, w_aload, w_aload_n, w_dload, w_iconst, w_bipush, w_sipush, w_lconst, w_null, w_istore, w_istore_n, w_astore, w_astoreN, w_astore_n, w_astore_nN, w_dstore, w_iinc, w_iadd, w_isub, w_imul, w_iand, w_ior, w_ixor, w_ishl, w_ishr, w_iushr, w_idiv, w_irem, w_ineg, w_i2l, w_i2c, w_i2b, w_i2f, w_i2d, w_f2d, w_fdiv, w_ddiv, w_lcmp, w_dcmp, w_dup, w_dup2, w_pop, w_getf, w_putf, w_gets, w_ldc0, w_ldc1, w_ldc_w0, w_ldc_w1, w_new, w_newa, w_anewa, w_alen, w_iaload, w_caload, w_baload, w_laload, w_aaload, w_iastore, w_castore, w_lastore, w_aastore, w_if_eq, w_ic_eq, w_if_ne, w_ic_ne, w_if_lt, w_ic_lt, w_if_ge, w_ic_ge, w_if_gt, w_ic_gt, w_if_le, w_ic_le, w_ifnull, w_ifnullN, w_ifnonnull, w_ifnonnullN, w_goto, w_tsw, w_lsw, w_ireturn, w_areturn, w_areturnN, w_dreturn, w_freturn, w_return, w_athrow, w_oinit, w_acopy, w_ord, w_call_vir, w_call_spe, w_call_sta, lg, lset, lok, okRet, List.length, Nat.reduceAdd, Nat.reduceLT, true_and, and_true, fv0, fv1, fv2, fv3, aft, Cl, Int32.reduceOfInt, Int32.reduceLT, Int32.reduceLE, Int32.reduceToNatClampNeg, Nat.reduceLeDiff, Nat.reduceAdd, Nat.reduceEqDiff, if_true, if_false, reduceIte, or_self, true_or, or_true,  not_false_eq_true, and_true, true_implies, false_implies, not_true_eq_false, and_self, tkr, rcv, cat1, cats, Value.category, padl, List.replicate, nb0, nb1, io_lt, io_le, io_eq, io_succ, io_nat, io_in, io_neg, io_0, bI0, bI1, bIz, bIn, b8_m6, b8_6, b8_7, b8_8, b8_9, b8_10, b8_16, b8_20, b8_25, b8_30, b8_31, b8_32, b8_33, b8_35, b8_41, b8_42, b8_43, b8_46, b8_48, b8_57, b8_59, b8_60, b8_63, b8_99, b8_100, b8_101, b8_103, b8_105, b8_108, b8_110, b8_111, b8_112, b8_114, b8_115, b8_116, b8_119, b8_120, b8_124, b8_126, b16_255, b16_287, b16_328, ioa0, iob0, ioc0, iod0, ioe0, ioa1, iob1, ioc1, iod1, ioe1, ioa2, iob2, ioc2, iod2, ioe2, ioa3, iob3, ioc3, iod3, ioe3, ioa4, iob4, ioc4, iod4, ioe4, ioa5, iob5, ioc5, iod5, ioe5, ioa6, iob6, ioc6, iod6, ioe6, ioa7, iob7, ioc7, iod7, ioe7, ioa8, iob8, ioc8, iod8, ioe8, ioa9, iob9, ioc9, iod9, ioe9, ioa10, iob10, ioc10, iod10, ioe10, ioa20, iob20, ioc20, iod20, ioe20, ioa25, iob25, ioc25, iod25, ioe25, ioa30, iob30, ioc30, iod30, ioe30, ioa31, iob31, ioc31, iod31, ioe31, ioa32, iob32, ioc32, iod32, ioe32, ioa33, iob33, ioc33, iod33, ioe33, ioa41, iob41, ioc41, iod41, ioe41, ioa48, iob48, ioc48, iod48, ioe48, ioa57, iob57, ioc57, iod57, ioe57, ioa59, iob59, ioc59, iod59, ioe59, ioa60, iob60, ioc60, iod60, ioe60, ioa63, iob63, ioc63, iod63, ioe63, ioa126, iob126, ioc126, iod126, ioe126, ioa255, iob255, ioc255, iod255, ioe255, ioa287, iob287, ioc287, iod287, ioe287, ioa328, iob328, ioc328, iod328, ioe328, vi0, vi1, vi2, vi3, vi4, vi5, vi6, vi7, vi8, vi9, vi10, vi11, vi12, vi13, vi14, vi15, vi16, vi17, vi18, vi19, vi20, vi21, vi22, vi23, vi24, vi25, vi26, vi27, vi28, vi29, vi30, vi31, vi32, vi33, vi34, vi35, vi36, vi37, vi38, vi39, vi40, vi41, kL59, kL75, kL76, kL117, kL118, kL119, kL120, kL121, kL122, kL123, kL124, kL125, kL126, kL127, kL128, kL129, kL130, kL131, kL132, kL133, kL134, kL135, R135, WO_out, WO_seal, R59, P59_3, P59_7, P59_8, P59_10, R75, P75_1, P75_2, R117, P117_2, P117_4, R118, P118, R119, P119, R120, P120, R121, P121_1, R122, P122, R123, P123, R124, P124_4, P124_5, P124_6, P124_7, P124_9, P124_10, P124_11, P124_13, P124_17, P124_18, P124_19, P124_20, P124_22, R125, P125, R126, P126, R127, P127, R128, P128, R129, P129, R130, P130, R131, P131, R132, P132, R133, P133, R134, P134, R14, R15, R16, R17, R18, R19, R20, R21, R22, R23, R24, R25, R26, R27, R28, R29, R30, R31, R32, R33, R34, R35, R4, R5, R6, R7, R8, R9, R10, R11, R12, R13, R76, F59_0, F59_1, F59_2, F59_3, F59_4, F59_5, F59_6, F59_7, F59_8, F59_9, F59_10, F59_len, F75_0, F75_1, F75_2, F75_len, F117_0, F117_1, F117_2, F117_3, F117_4, F117_len, F121_0, F121_1, F121_len, F124_0, F124_1, F124_2, F124_3, F124_4, F124_5, F124_6, F124_7, F124_8, F124_9, F124_10, F124_11, F124_12, F124_13, F124_14, F124_15, F124_16, F124_17, F124_18, F124_19, F124_20, F124_21, F124_22, F124_len, FB_0, FB_1, FB_2, FB_3, FB_4, FB_5, FB_6, FB_7, FB_8, FB_9, FB_len, FW_0, FW_1, FW_2, FW_len, okp0, okp2, okp3, us_app, us_us, nb01, nb02, nb03, nb04, nb10, nb12, nb13, nb14, nb20, nb21, nb23, nb24, nb30, nb31, nb32, nb34, nb40, nb41, nb42, nb43, iB60, iB65, iB70, iB77, iB82, iB87, iB92, iB97, iB102, iB107, iB112, hfind, exName, String.reduceEq, RB60, RB61, RB62, RB63, RB64, PB60_6, kL60, ou_eq, Bool.true_eq_false, Bool.false_eq_true, reduceCtorEq, bIn, io_0, fw0, fw1, q_numberOf, io_num, r_in, r_fails, r_isNone, r_isCell, r_cell, r_cells, r_has, r_bits, r_thrown, kpG_125, kpG_7, upd_app, upd_upd, io_8a, io_33a, nch, Int32.reduceLT, Int32.lt_irrefl, decide_true, decide_false, bIt, bIf, i10, Bool.not_true, Bool.not_false, w1, Nat.le_refl]
  have hs0 : gS (upd (G 125) 3 (G 125 3 + 1)) r c := by
    obtain ⟨g0, g1, a1, a2, a3, a4⟩ := h
    exact ⟨g0, g1, a1, a2, a3, a4⟩
  have hw0 : wM (upd (G 125) 3 (G 125 3 + 1)) n (r * c) := by
    obtain ⟨w1, w2, w3⟩ := hw
    refine ⟨w1, w2, fun j hj => ⟨?_, ?_⟩⟩
    · have e : upd (G 125) 3 (G 125 3 + 1) (33 + 2 * j) = G 125 (33 + 2 * j) := if_neg (by omega)
      rw [e]; exact (w3 j hj).1
    · have e : upd (G 125) 3 (G 125 3 + 1) (33 + 2 * j + 1) = G 125 (33 + 2 * j + 1) := if_neg (by omega)
      rw [e]; exact (w3 j hj).2
  have l := lpN _ (fun j (s : (Int32 × (Nat → Int32)) × Value) => (stF r c n j s.1, .int (ahM s.1.2 c n (s.1.2 (33 + 2 * j)).toNatClampNeg (s.1.2 (33 + 2 * j + 1)).toNatClampNeg))) n (fun j s => gS s.1.2 r c ∧ wM s.1.2 n (r * c)) iv st n 0 ((0, upd (G 125) 3 (G 125 3 + 1)), xk) ⟨hs0, hw0⟩ (Nat.zero_add n)
  have pr : ∀ n' j (s : (Int32 × (Nat → Int32)) × Value), (itr (fun j (s : (Int32 × (Nat → Int32)) × Value) => (stF r c n j s.1, .int (ahM s.1.2 c n (s.1.2 (33 + 2 * j)).toNatClampNeg (s.1.2 (33 + 2 * j + 1)).toNatClampNeg))) n' j s).1 = itr (stF r c n) n' j s.1 := by
    intro n'
    induction n' with
    | zero => intro j s; rfl
    | succ n' ih => intro j s; exact ih (j + 1) _
  obtain ⟨l1, l2⟩ := l
  rw [en _ l2.2, pr] at l1
  unfold stM
  simp (disch := omega) only [e171_0, e171_53, e171_66, e171_68, c171_68, c171_66, c171_53, c171_0, ← e171_16, w_iload, w_iload_n, w_aload, w_aload_n, w_dload, w_iconst, w_bipush, w_sipush, w_lconst, w_null, w_istore, w_istore_n, w_astore, w_astoreN, w_astore_n, w_astore_nN, w_dstore, w_iinc, w_iadd, w_isub, w_imul, w_iand, w_ior, w_ixor, w_ishl, w_ishr, w_iushr, w_idiv, w_irem, w_ineg, w_i2l, w_i2c, w_i2b, w_i2f, w_i2d, w_f2d, w_fdiv, w_ddiv, w_lcmp, w_dcmp, w_dup, w_dup2, w_pop, w_getf, w_putf, w_gets, w_ldc0, w_ldc1, w_ldc_w0, w_ldc_w1, w_new, w_newa, w_anewa, w_alen, w_iaload, w_caload, w_baload, w_laload, w_aaload, w_iastore, w_castore, w_lastore, w_aastore, w_if_eq, w_ic_eq, w_if_ne, w_ic_ne, w_if_lt, w_ic_lt, w_if_ge, w_ic_ge, w_if_gt, w_ic_gt, w_if_le, w_ic_le, w_ifnull, w_ifnullN, w_ifnonnull, w_ifnonnullN, w_goto, w_tsw, w_lsw, w_ireturn, w_areturn, w_areturnN, w_dreturn, w_freturn, w_return, w_athrow, w_oinit, w_acopy, w_ord, w_call_vir, w_call_spe, w_call_sta, lg, lset, lok, okRet, List.length, Nat.reduceAdd, Nat.reduceLT, true_and, and_true, fv0, fv1, fv2, fv3, aft, Cl, Int32.reduceOfInt, Int32.reduceLT, Int32.reduceLE, Int32.reduceToNatClampNeg, Nat.reduceLeDiff, Nat.reduceAdd, Nat.reduceEqDiff, if_true, if_false, reduceIte, or_self, true_or, or_true,  not_false_eq_true, and_true, true_implies, false_implies, not_true_eq_false, and_self, tkr, rcv, cat1, cats, Value.category, padl, List.replicate, nb0, nb1, io_lt, io_le, io_eq, io_succ, io_nat, io_in, io_neg, io_0, bI0, bI1, bIz, bIn, b8_m6, b8_6, b8_7, b8_8, b8_9, b8_10, b8_16, b8_20, b8_25, b8_30, b8_31, b8_32, b8_33, b8_35, b8_41, b8_42, b8_43, b8_46, b8_48, b8_57, b8_59, b8_60, b8_63, b8_99, b8_100, b8_101, b8_103, b8_105, b8_108, b8_110, b8_111, b8_112, b8_114, b8_115, b8_116, b8_119, b8_120, b8_124, b8_126, b16_255, b16_287, b16_328, ioa0, iob0, ioc0, iod0, ioe0, ioa1, iob1, ioc1, iod1, ioe1, ioa2, iob2, ioc2, iod2, ioe2, ioa3, iob3, ioc3, iod3, ioe3, ioa4, iob4, ioc4, iod4, ioe4, ioa5, iob5, ioc5, iod5, ioe5, ioa6, iob6, ioc6, iod6, ioe6, ioa7, iob7, ioc7, iod7, ioe7, ioa8, iob8, ioc8, iod8, ioe8, ioa9, iob9, ioc9, iod9, ioe9, ioa10, iob10, ioc10, iod10, ioe10, ioa20, iob20, ioc20, iod20, ioe20, ioa25, iob25, ioc25, iod25, ioe25, ioa30, iob30, ioc30, iod30, ioe30, ioa31, iob31, ioc31, iod31, ioe31, ioa32, iob32, ioc32, iod32, ioe32, ioa33, iob33, ioc33, iod33, ioe33, ioa41, iob41, ioc41, iod41, ioe41, ioa48, iob48, ioc48, iod48, ioe48, ioa57, iob57, ioc57, iod57, ioe57, ioa59, iob59, ioc59, iod59, ioe59, ioa60, iob60, ioc60, iod60, ioe60, ioa63, iob63, ioc63, iod63, ioe63, ioa126, iob126, ioc126, iod126, ioe126, ioa255, iob255, ioc255, iod255, ioe255, ioa287, iob287, ioc287, iod287, ioe287, ioa328, iob328, ioc328, iod328, ioe328, vi0, vi1, vi2, vi3, vi4, vi5, vi6, vi7, vi8, vi9, vi10, vi11, vi12, vi13, vi14, vi15, vi16, vi17, vi18, vi19, vi20, vi21, vi22, vi23, vi24, vi25, vi26, vi27, vi28, vi29, vi30, vi31, vi32, vi33, vi34, vi35, vi36, vi37, vi38, vi39, vi40, vi41, kL59, kL75, kL76, kL117, kL118, kL119, kL120, kL121, kL122, kL123, kL124, kL125, kL126, kL127, kL128, kL129, kL130, kL131, kL132, kL133, kL134, kL135, R135, WO_out, WO_seal, R59, P59_3, P59_7, P59_8, P59_10, R75, P75_1, P75_2, R117, P117_2, P117_4, R118, P118, R119, P119, R120, P120, R121, P121_1, R122, P122, R123, P123, R124, P124_4, P124_5, P124_6, P124_7, P124_9, P124_10, P124_11, P124_13, P124_17, P124_18, P124_19, P124_20, P124_22, R125, P125, R126, P126, R127, P127, R128, P128, R129, P129, R130, P130, R131, P131, R132, P132, R133, P133, R134, P134, R14, R15, R16, R17, R18, R19, R20, R21, R22, R23, R24, R25, R26, R27, R28, R29, R30, R31, R32, R33, R34, R35, R4, R5, R6, R7, R8, R9, R10, R11, R12, R13, R76, F59_0, F59_1, F59_2, F59_3, F59_4, F59_5, F59_6, F59_7, F59_8, F59_9, F59_10, F59_len, F75_0, F75_1, F75_2, F75_len, F117_0, F117_1, F117_2, F117_3, F117_4, F117_len, F121_0, F121_1, F121_len, F124_0, F124_1, F124_2, F124_3, F124_4, F124_5, F124_6, F124_7, F124_8, F124_9, F124_10, F124_11, F124_12, F124_13, F124_14, F124_15, F124_16, F124_17, F124_18, F124_19, F124_20, F124_21, F124_22, F124_len, FB_0, FB_1, FB_2, FB_3, FB_4, FB_5, FB_6, FB_7, FB_8, FB_9, FB_len, FW_0, FW_1, FW_2, FW_len, okp0, okp2, okp3, us_app, us_us, nb01, nb02, nb03, nb04, nb10, nb12, nb13, nb14, nb20, nb21, nb23, nb24, nb30, nb31, nb32, nb34, nb40, nb41, nb42, nb43, iB60, iB65, iB70, iB77, iB82, iB87, iB92, iB97, iB102, iB107, iB112, hfind, exName, String.reduceEq, RB60, RB61, RB62, RB63, RB64, PB60_6, kL60, ou_eq, Bool.true_eq_false, Bool.false_eq_true, reduceCtorEq, bIn, io_0, fw0, fw1, q_numberOf, io_num, r_in, r_fails, r_isNone, r_isCell, r_cell, r_cells, r_has, r_bits, r_thrown, kpG_125, kpG_7, upd_app, upd_upd, io_8a, io_33a, nch, Int32.reduceLT, Int32.lt_irrefl, decide_true, decide_false, bIt, bIf, i10, Bool.not_true, Bool.not_false, r_kp kh]
  exact l1
