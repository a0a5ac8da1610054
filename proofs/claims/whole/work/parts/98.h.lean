/-! copies of boards, the history, worms -/
theorem isB_mod {b : Nat} (h : isB b) : (b % 5 = 0 ∧ 60 ≤ b ∧ b ≤ 70) ∨ (b % 5 = 2 ∧ 77 ≤ b ∧ b ≤ 112) := by
  rcases h with h | h | h | h | h | h | h | h | h | h | h <;> subst h <;> decide
theorem isBh {n : Nat} (h : n < 8) : isB (77 + 5 * n) := by
  unfold isB; omega
theorem bA_n {n : Nat} (h : n < 8) : va_rf (bA n) = .ref (77 + 5 * n) := by
  unfold bA; rw [if_pos h]; rfl
theorem nbd_00 {b d : Nat} (hb : isB b) (hd : isB d) (h : ¬ d = b) : (d = b) = False := by
  have h1 := isB_mod hb
  have h2 := isB_mod hd
  exact eq_false (by omega)
theorem nbd_01 {b d : Nat} (hb : isB b) (hd : isB d) (h : ¬ d = b) : (d + 1 = b) = False := by
  have h1 := isB_mod hb
  have h2 := isB_mod hd
  exact eq_false (by omega)
theorem nbd_02 {b d : Nat} (hb : isB b) (hd : isB d) (h : ¬ d = b) : (d + 2 = b) = False := by
  have h1 := isB_mod hb
  have h2 := isB_mod hd
  exact eq_false (by omega)
theorem nbd_03 {b d : Nat} (hb : isB b) (hd : isB d) (h : ¬ d = b) : (d + 3 = b) = False := by
  have h1 := isB_mod hb
  have h2 := isB_mod hd
  exact eq_false (by omega)
theorem nbd_04 {b d : Nat} (hb : isB b) (hd : isB d) (h : ¬ d = b) : (d + 4 = b) = False := by
  have h1 := isB_mod hb
  have h2 := isB_mod hd
  exact eq_false (by omega)
theorem nbd_10 {b d : Nat} (hb : isB b) (hd : isB d) (h : ¬ d = b) : (d = b + 1) = False := by
  have h1 := isB_mod hb
  have h2 := isB_mod hd
  exact eq_false (by omega)
theorem nbd_11 {b d : Nat} (hb : isB b) (hd : isB d) (h : ¬ d = b) : (d + 1 = b + 1) = False := by
  have h1 := isB_mod hb
  have h2 := isB_mod hd
  exact eq_false (by omega)
theorem nbd_12 {b d : Nat} (hb : isB b) (hd : isB d) (h : ¬ d = b) : (d + 2 = b + 1) = False := by
  have h1 := isB_mod hb
  have h2 := isB_mod hd
  exact eq_false (by omega)
theorem nbd_13 {b d : Nat} (hb : isB b) (hd : isB d) (h : ¬ d = b) : (d + 3 = b + 1) = False := by
  have h1 := isB_mod hb
  have h2 := isB_mod hd
  exact eq_false (by omega)
theorem nbd_14 {b d : Nat} (hb : isB b) (hd : isB d) (h : ¬ d = b) : (d + 4 = b + 1) = False := by
  have h1 := isB_mod hb
  have h2 := isB_mod hd
  exact eq_false (by omega)
theorem nbd_20 {b d : Nat} (hb : isB b) (hd : isB d) (h : ¬ d = b) : (d = b + 2) = False := by
  have h1 := isB_mod hb
  have h2 := isB_mod hd
  exact eq_false (by omega)
theorem nbd_21 {b d : Nat} (hb : isB b) (hd : isB d) (h : ¬ d = b) : (d + 1 = b + 2) = False := by
  have h1 := isB_mod hb
  have h2 := isB_mod hd
  exact eq_false (by omega)
theorem nbd_22 {b d : Nat} (hb : isB b) (hd : isB d) (h : ¬ d = b) : (d + 2 = b + 2) = False := by
  have h1 := isB_mod hb
  have h2 := isB_mod hd
  exact eq_false (by omega)
theorem nbd_23 {b d : Nat} (hb : isB b) (hd : isB d) (h : ¬ d = b) : (d + 3 = b + 2) = False := by
  have h1 := isB_mod hb
  have h2 := isB_mod hd
  exact eq_false (by omega)
theorem nbd_24 {b d : Nat} (hb : isB b) (hd : isB d) (h : ¬ d = b) : (d + 4 = b + 2) = False := by
  have h1 := isB_mod hb
  have h2 := isB_mod hd
  exact eq_false (by omega)
theorem nbd_30 {b d : Nat} (hb : isB b) (hd : isB d) (h : ¬ d = b) : (d = b + 3) = False := by
  have h1 := isB_mod hb
  have h2 := isB_mod hd
  exact eq_false (by omega)
theorem nbd_31 {b d : Nat} (hb : isB b) (hd : isB d) (h : ¬ d = b) : (d + 1 = b + 3) = False := by
  have h1 := isB_mod hb
  have h2 := isB_mod hd
  exact eq_false (by omega)
theorem nbd_32 {b d : Nat} (hb : isB b) (hd : isB d) (h : ¬ d = b) : (d + 2 = b + 3) = False := by
  have h1 := isB_mod hb
  have h2 := isB_mod hd
  exact eq_false (by omega)
theorem nbd_33 {b d : Nat} (hb : isB b) (hd : isB d) (h : ¬ d = b) : (d + 3 = b + 3) = False := by
  have h1 := isB_mod hb
  have h2 := isB_mod hd
  exact eq_false (by omega)
theorem nbd_34 {b d : Nat} (hb : isB b) (hd : isB d) (h : ¬ d = b) : (d + 4 = b + 3) = False := by
  have h1 := isB_mod hb
  have h2 := isB_mod hd
  exact eq_false (by omega)
theorem nbd_40 {b d : Nat} (hb : isB b) (hd : isB d) (h : ¬ d = b) : (d = b + 4) = False := by
  have h1 := isB_mod hb
  have h2 := isB_mod hd
  exact eq_false (by omega)
theorem nbd_41 {b d : Nat} (hb : isB b) (hd : isB d) (h : ¬ d = b) : (d + 1 = b + 4) = False := by
  have h1 := isB_mod hb
  have h2 := isB_mod hd
  exact eq_false (by omega)
theorem nbd_42 {b d : Nat} (hb : isB b) (hd : isB d) (h : ¬ d = b) : (d + 2 = b + 4) = False := by
  have h1 := isB_mod hb
  have h2 := isB_mod hd
  exact eq_false (by omega)
theorem nbd_43 {b d : Nat} (hb : isB b) (hd : isB d) (h : ¬ d = b) : (d + 3 = b + 4) = False := by
  have h1 := isB_mod hb
  have h2 := isB_mod hd
  exact eq_false (by omega)
theorem nbd_44 {b d : Nat} (hb : isB b) (hd : isB d) (h : ¬ d = b) : (d + 4 = b + 4) = False := by
  have h1 := isB_mod hb
  have h2 := isB_mod hd
  exact eq_false (by omega)
theorem upd_upd {f : Nat → Int32} {k : Nat} {x y : Int32} : upd (upd f k x) k y = upd f k y := by
  funext j; unfold upd; by_cases q : j = k <;> simp [q]
/-- the first n of f, then h -/
def cp0 (n : Nat) (f h : Nat → Int32) : Nat → Int32 := fun j => if j < n then f j else h j
theorem cp0_va {n : Nat} {f h : Nat → Int32} : va_cpy f h 0 0 n = cp0 n f h := by
  funext j; unfold va_cpy cp0; simp
def cpW (C : HP) (b d : Nat) : HP := us (us (us C (b + 2) (upd (C (b + 2)) 0 (C (d + 2) 0))) (b + 3) (cp0 4 (C (d + 3)) (C (b + 3)))) (b + 4) (cp0 4 (C (d + 4)) (C (b + 4)))
theorem i8_4n : ((4 : Int32) < 0) = False := by simp
theorem i8_30n : ((30 : Int32) < 0) = False := by simp
theorem i8_0n : ((0 : Int32) < 0) = False := by simp
theorem q_wCopy {C G : HP} {z : WB} {Q : AQ} {b d : Nat} (hb : isB b) (hd : isB d) (hn : ¬ d = b) : Bk 11 0 0 0 [.ref (b + 2), .ref (d + 2)] [] (WO C G z) Q = Q (.inl none) (WO (cpW C b d) G z) := by
  unfold cpW
  have n3 := nbd_33 hb hd hn
  have n4 := nbd_44 hb hd hn
  simp only [e11_0, c11_0, w_iload, w_iload_n, w_aload, w_aload_n, w_dload, w_iconst, w_bipush, w_sipush, w_lconst, w_null, w_istore, w_istore_n, w_astore, w_astoreN, w_astore_n, w_astore_nN, w_dstore, w_iinc, w_iadd, w_isub, w_imul, w_iand, w_ior, w_ixor, w_ishl, w_ishr, w_iushr, w_idiv, w_irem, w_ineg, w_i2l, w_i2c, w_i2b, w_i2f, w_i2d, w_f2d, w_fdiv, w_ddiv, w_lcmp, w_dcmp, w_dup, w_dup2, w_pop, w_getf, w_putf, w_gets, w_ldc0, w_ldc1, w_ldc_w0, w_ldc_w1, w_new, w_newa, w_anewa, w_alen, w_iaload, w_caload, w_baload, w_laload, w_aaload, w_iastore, w_castore, w_lastore, w_aastore, w_if_eq, w_ic_eq, w_if_ne, w_ic_ne, w_if_lt, w_ic_lt, w_if_ge, w_ic_ge, w_if_gt, w_ic_gt, w_if_le, w_ic_le, w_ifnull, w_ifnullN, w_ifnonnull, w_ifnonnullN, w_goto, w_tsw, w_lsw, w_ireturn, w_areturn, w_areturnN, w_dreturn, w_freturn, w_return, w_athrow, w_oinit, w_acopy, w_ord, w_call_vir, w_call_spe, w_call_sta, lg, lset, lok, okRet, List.length, Nat.reduceAdd, Nat.reduceLT, true_and, and_true, fv0, fv1, fv2, fv3, aft, Cl, Int32.reduceOfInt, Int32.reduceLT, Int32.reduceLE, Int32.reduceToNatClampNeg, Nat.reduceLeDiff, Nat.reduceAdd, Nat.reduceEqDiff, if_true, if_false, reduceIte, or_self, true_or, or_true,  not_false_eq_true, and_true, true_implies, false_implies, not_true_eq_false, and_self, tkr, rcv, cat1, cats, Value.category, padl, List.replicate, nb0, nb1, io_lt, io_le, io_eq, io_succ, io_nat, io_in, io_neg, io_0, bI0, bI1, bIz, bIn, b8_m6, b8_6, b8_7, b8_8, b8_9, b8_10, b8_16, b8_20, b8_25, b8_30, b8_31, b8_32, b8_33, b8_35, b8_41, b8_42, b8_43, b8_46, b8_48, b8_57, b8_59, b8_60, b8_63, b8_99, b8_100, b8_101, b8_103, b8_105, b8_108, b8_110, b8_111, b8_112, b8_114, b8_115, b8_116, b8_119, b8_120, b8_124, b8_126, b16_255, b16_287, b16_328, ioa0, iob0, ioc0, iod0, ioe0, ioa1, iob1, ioc1, iod1, ioe1, ioa2, iob2, ioc2, iod2, ioe2, ioa3, iob3, ioc3, iod3, ioe3, ioa4, iob4, ioc4, iod4, ioe4, ioa5, iob5, ioc5, iod5, ioe5, ioa6, iob6, ioc6, iod6, ioe6, ioa7, iob7, ioc7, iod7, ioe7, ioa8, iob8, ioc8, iod8, ioe8, ioa9, iob9, ioc9, iod9, ioe9, ioa10, iob10, ioc10, iod10, ioe10, ioa20, iob20, ioc20, iod20, ioe20, ioa25, iob25, ioc25, iod25, ioe25, ioa30, iob30, ioc30, iod30, ioe30, ioa31, iob31, ioc31, iod31, ioe31, ioa32, iob32, ioc32, iod32, ioe32, ioa33, iob33, ioc33, iod33, ioe33, ioa41, iob41, ioc41, iod41, ioe41, ioa48, iob48, ioc48, iod48, ioe48, ioa57, iob57, ioc57, iod57, ioe57, ioa59, iob59, ioc59, iod59, ioe59, ioa60, iob60, ioc60, iod60, ioe60, ioa63, iob63, ioc63, iod63, ioe63, ioa126, iob126, ioc126, iod126, ioe126, ioa255, iob255, ioc255, iod255, ioe255, ioa287, iob287, ioc287, iod287, ioe287, ioa328, iob328, ioc328, iod328, ioe328, vi0, vi1, vi2, vi3, vi4, vi5, vi6, vi7, vi8, vi9, vi10, vi11, vi12, vi13, vi14, vi15, vi16, vi17, vi18, vi19, vi20, vi21, vi22, vi23, vi24, vi25, vi26, vi27, vi28, vi29, vi30, vi31, vi32, vi33, vi34, vi35, vi36, vi37, vi38, vi39, vi40, vi41, kL59, kL75, kL76, kL117, kL118, kL119, kL120, kL121, kL122, kL123, kL124, kL125, kL126, kL127, kL128, kL129, kL130, kL131, kL132, kL133, kL134, kL135, R135, WO_out, WO_seal, R59, P59_3, P59_7, P59_8, P59_10, R75, P75_1, P75_2, R117, P117_2, P117_4, R118, P118, R119, P119, R120, P120, R121, P121_1, R122, P122, R123, P123, R124, P124_4, P124_5, P124_6, P124_7, P124_9, P124_10, P124_11, P124_13, P124_17, P124_18, P124_19, P124_20, P124_22, R125, P125, R126, P126, R127, P127, R128, P128, R129, P129, R130, P130, R131, P131, R132, P132, R133, P133, R134, P134, R14, R15, R16, R17, R18, R19, R20, R21, R22, R23, R24, R25, R26, R27, R28, R29, R30, R31, R32, R33, R34, R35, R4, R5, R6, R7, R8, R9, R10, R11, R12, R13, R76, F59_0, F59_1, F59_2, F59_3, F59_4, F59_5, F59_6, F59_7, F59_8, F59_9, F59_10, F59_len, F75_0, F75_1, F75_2, F75_len, F117_0, F117_1, F117_2, F117_3, F117_4, F117_len, F121_0, F121_1, F121_len, F124_0, F124_1, F124_2, F124_3, F124_4, F124_5, F124_6, F124_7, F124_8, F124_9, F124_10, F124_11, F124_12, F124_13, F124_14, F124_15, F124_16, F124_17, F124_18, F124_19, F124_20, F124_21, F124_22, F124_len, FB_0, FB_1, FB_2, FB_3, FB_4, FB_5, FB_6, FB_7, FB_8, FB_9, FB_len, FW_0, FW_1, FW_2, FW_len, okp0, okp2, okp3, us_app, us_us, nb01, nb02, nb03, nb04, nb10, nb12, nb13, nb14, nb20, nb21, nb23, nb24, nb30, nb31, nb32, nb34, nb40, nb41, nb42, nb43, iB60, iB65, iB70, iB77, iB82, iB87, iB92, iB97, iB102, iB107, iB112, RB2 hb, RB2 hd, RB3 hb, RB3 hd, RB4 hb, RB4 hd, PB2_0 hb, PB3 hb, PB4 hb, kB2 hb, kB3 hb, kB3 hd, kB4 hb, kB4 hd, cp0_va, i8_4n, i8_0n, ne_eq, n3, n4, Nat.le_refl, Nat.zero_add, nbd_00 hb hd hn, nbd_01 hb hd hn, nbd_02 hb hd hn, nbd_03 hb hd hn, nbd_04 hb hd hn, nbd_10 hb hd hn, nbd_11 hb hd hn, nbd_12 hb hd hn, nbd_13 hb hd hn, nbd_14 hb hd hn, nbd_20 hb hd hn, nbd_21 hb hd hn, nbd_22 hb hd hn, nbd_23 hb hd hn, nbd_24 hb hd hn, nbd_30 hb hd hn, nbd_31 hb hd hn, nbd_32 hb hd hn, nbd_33 hb hd hn, nbd_34 hb hd hn, nbd_40 hb hd hn, nbd_41 hb hd hn, nbd_42 hb hd hn, nbd_43 hb hd hn, nbd_44 hb hd hn]
def cpB (C : HP) (b d : Nat) : HP := cpW (us (us C b (cp0 8 (C d) (C b))) (b + 1) (cp0 30 (C (d + 1)) (C (b + 1)))) b d
theorem up8 {f h : Nat → Int32} : upd (upd (upd (upd (upd (upd (upd (upd h 0 (f 0)) 1 (f 1)) 2 (f 2)) 3 (f 3)) 4 (f 4)) 5 (f 5)) 6 (f 6)) 7 (f 7) = cp0 8 f h := by
  funext j
  match j with
  | 0 => rfl
  | 1 => rfl
  | 2 => rfl
  | 3 => rfl
  | 4 => rfl
  | 5 => rfl
  | 6 => rfl
  | 7 => rfl
  | j + 8 =>
    simp [upd, cp0]
    intro h
    omega
theorem q_bCopy {C G : HP} {z : WB} {Q : AQ} {b d : Nat} (hb : isB b) (hd : isB d) (hn : ¬ d = b) (hp : okPut 1 (.int (C d 3))) : Bk 12 0 0 0 [.ref b, .ref d] [] (WO C G z) Q = Q (.inl none) (WO (cpB C b d) G z) := by
  unfold cpB
  rw [← up8]
  have hp' := eq_true hp
  have n1 := nbd_11 hb hd hn
  simp only [e12_0, c12_0, w_iload, w_iload_n, w_aload, w_aload_n, w_dload, w_iconst, w_bipush, w_sipush, w_lconst, w_null, w_istore, w_istore_n, w_astore, w_astoreN, w_astore_n, w_astore_nN, w_dstore, w_iinc, w_iadd, w_isub, w_imul, w_iand, w_ior, w_ixor, w_ishl, w_ishr, w_iushr, w_idiv, w_irem, w_ineg, w_i2l, w_i2c, w_i2b, w_i2f, w_i2d, w_f2d, w_fdiv, w_ddiv, w_lcmp, w_dcmp, w_dup, w_dup2, w_pop, w_getf, w_putf, w_gets, w_ldc0, w_ldc1, w_ldc_w0, w_ldc_w1, w_new, w_newa, w_anewa, w_alen, w_iaload, w_caload, w_baload, w_laload, w_aaload, w_iastore, w_castore, w_lastore, w_aastore, w_if_eq, w_ic_eq, w_if_ne, w_ic_ne, w_if_lt, w_ic_lt, w_if_ge, w_ic_ge, w_if_gt, w_ic_gt, w_if_le, w_ic_le, w_ifnull, w_ifnullN, w_ifnonnull, w_ifnonnullN, w_goto, w_tsw, w_lsw, w_ireturn, w_areturn, w_areturnN, w_dreturn, w_freturn, w_return, w_athrow, w_oinit, w_acopy, w_ord, w_call_vir, w_call_spe, w_call_sta, lg, lset, lok, okRet, List.length, Nat.reduceAdd, Nat.reduceLT, true_and, and_true, fv0, fv1, fv2, fv3, aft, Cl, Int32.reduceOfInt, Int32.reduceLT, Int32.reduceLE, Int32.reduceToNatClampNeg, Nat.reduceLeDiff, Nat.reduceAdd, Nat.reduceEqDiff, if_true, if_false, reduceIte, or_self, true_or, or_true,  not_false_eq_true, and_true, true_implies, false_implies, not_true_eq_false, and_self, tkr, rcv, cat1, cats, Value.category, padl, List.replicate, nb0, nb1, io_lt, io_le, io_eq, io_succ, io_nat, io_in, io_neg, io_0, bI0, bI1, bIz, bIn, b8_m6, b8_6, b8_7, b8_8, b8_9, b8_10, b8_16, b8_20, b8_25, b8_30, b8_31, b8_32, b8_33, b8_35, b8_41, b8_42, b8_43, b8_46, b8_48, b8_57, b8_59, b8_60, b8_63, b8_99, b8_100, b8_101, b8_103, b8_105, b8_108, b8_110, b8_111, b8_112, b8_114, b8_115, b8_116, b8_119, b8_120, b8_124, b8_126, b16_255, b16_287, b16_328, ioa0, iob0, ioc0, iod0, ioe0, ioa1, iob1, ioc1, iod1, ioe1, ioa2, iob2, ioc2, iod2, ioe2, ioa3, iob3, ioc3, iod3, ioe3, ioa4, iob4, ioc4, iod4, ioe4, ioa5, iob5, ioc5, iod5, ioe5, ioa6, iob6, ioc6, iod6, ioe6, ioa7, iob7, ioc7, iod7, ioe7, ioa8, iob8, ioc8, iod8, ioe8, ioa9, iob9, ioc9, iod9, ioe9, ioa10, iob10, ioc10, iod10, ioe10, ioa20, iob20, ioc20, iod20, ioe20, ioa25, iob25, ioc25, iod25, ioe25, ioa30, iob30, ioc30, iod30, ioe30, ioa31, iob31, ioc31, iod31, ioe31, ioa32, iob32, ioc32, iod32, ioe32, ioa33, iob33, ioc33, iod33, ioe33, ioa41, iob41, ioc41, iod41, ioe41, ioa48, iob48, ioc48, iod48, ioe48, ioa57, iob57, ioc57, iod57, ioe57, ioa59, iob59, ioc59, iod59, ioe59, ioa60, iob60, ioc60, iod60, ioe60, ioa63, iob63, ioc63, iod63, ioe63, ioa126, iob126, ioc126, iod126, ioe126, ioa255, iob255, ioc255, iod255, ioe255, ioa287, iob287, ioc287, iod287, ioe287, ioa328, iob328, ioc328, iod328, ioe328, vi0, vi1, vi2, vi3, vi4, vi5, vi6, vi7, vi8, vi9, vi10, vi11, vi12, vi13, vi14, vi15, vi16, vi17, vi18, vi19, vi20, vi21, vi22, vi23, vi24, vi25, vi26, vi27, vi28, vi29, vi30, vi31, vi32, vi33, vi34, vi35, vi36, vi37, vi38, vi39, vi40, vi41, kL59, kL75, kL76, kL117, kL118, kL119, kL120, kL121, kL122, kL123, kL124, kL125, kL126, kL127, kL128, kL129, kL130, kL131, kL132, kL133, kL134, kL135, R135, WO_out, WO_seal, R59, P59_3, P59_7, P59_8, P59_10, R75, P75_1, P75_2, R117, P117_2, P117_4, R118, P118, R119, P119, R120, P120, R121, P121_1, R122, P122, R123, P123, R124, P124_4, P124_5, P124_6, P124_7, P124_9, P124_10, P124_11, P124_13, P124_17, P124_18, P124_19, P124_20, P124_22, R125, P125, R126, P126, R127, P127, R128, P128, R129, P129, R130, P130, R131, P131, R132, P132, R133, P133, R134, P134, R14, R15, R16, R17, R18, R19, R20, R21, R22, R23, R24, R25, R26, R27, R28, R29, R30, R31, R32, R33, R34, R35, R4, R5, R6, R7, R8, R9, R10, R11, R12, R13, R76, F59_0, F59_1, F59_2, F59_3, F59_4, F59_5, F59_6, F59_7, F59_8, F59_9, F59_10, F59_len, F75_0, F75_1, F75_2, F75_len, F117_0, F117_1, F117_2, F117_3, F117_4, F117_len, F121_0, F121_1, F121_len, F124_0, F124_1, F124_2, F124_3, F124_4, F124_5, F124_6, F124_7, F124_8, F124_9, F124_10, F124_11, F124_12, F124_13, F124_14, F124_15, F124_16, F124_17, F124_18, F124_19, F124_20, F124_21, F124_22, F124_len, FB_0, FB_1, FB_2, FB_3, FB_4, FB_5, FB_6, FB_7, FB_8, FB_9, FB_len, FW_0, FW_1, FW_2, FW_len, okp0, okp2, okp3, us_app, us_us, nb01, nb02, nb03, nb04, nb10, nb12, nb13, nb14, nb20, nb21, nb23, nb24, nb30, nb31, nb32, nb34, nb40, nb41, nb42, nb43, iB60, iB65, iB70, iB77, iB82, iB87, iB92, iB97, iB102, iB107, iB112, RB0 hb, RB0 hd, RB1 hb, RB1 hd, RB2 hb, RB2 hd, PB0_0 hb, PB0_1 hb, PB0_2 hb, PB0_3 hb, PB0_4 hb, PB0_5 hb, PB0_6 hb, PB0_7 hb, PB1 hb, kB0 hb, kB1 hb, kB1 hd, cp0_va, i8_30n, i8_0n, ne_eq, n1, hp', Nat.le_refl, Nat.zero_add, q_wCopy hb hd hn, nbd_00 hb hd hn, nbd_01 hb hd hn, nbd_02 hb hd hn, nbd_03 hb hd hn, nbd_04 hb hd hn, nbd_10 hb hd hn, nbd_11 hb hd hn, nbd_12 hb hd hn, nbd_13 hb hd hn, nbd_14 hb hd hn, nbd_20 hb hd hn, nbd_21 hb hd hn, nbd_22 hb hd hn, nbd_23 hb hd hn, nbd_24 hb hd hn, nbd_30 hb hd hn, nbd_31 hb hd hn, nbd_32 hb hd hn, nbd_33 hb hd hn, nbd_34 hb hd hn, nbd_40 hb hd hn, nbd_41 hb hd hn, nbd_42 hb hd hn, nbd_43 hb hd hn, nbd_44 hb hd hn]
/-- the history remembers -/
def rem (C : HP) (d n c : Nat) : HP := us (cpB C (77 + 5 * n) d) 75 (upd (upd (C 75) 1 (Int32.ofNat ((n + 1) % 8))) 2 (Int32.ofNat (if 8 < c + 1 then 8 else c + 1)))
theorem i8_8n : ((8 : Int32) = 0) = False := by simp
theorem io_r8 {a : Nat} (ha : a < 2147483648) : Int32.ofNat a - Int32.ofNat a / 8 * 8 = Int32.ofNat (a % 8) := io_rem ha (by decide)
theorem io_8 : (8 : Int32) = Int32.ofNat 8 := rfl
theorem io_if {p : Prop} [Decidable p] {a : Nat} : (if p then (8 : Int32) else Int32.ofNat a) = Int32.ofNat (if p then 8 else a) := by by_cases h : p <;> simp [h]
theorem q_remember {C G : HP} {z : WB} {Q : AQ} {d n c : Nat} (hd : isB d) (hlt : d < 75) (hp : okPut 1 (.int (C d 3))) (h1 : C 75 1 = Int32.ofNat n) (hn8 : n < 8) (h2 : C 75 2 = Int32.ofNat c) (hc : c ≤ 8) : Bk 14 0 0 0 [.ref 75, .ref d] [] (WO C G z) Q = Q (.inl none) (WO (rem C d n c) G z) := by
  have hb := isBh hn8
  have hne : ¬ d = 77 + 5 * n := by omega
  have e75 : ∀ {i}, i < 5 → (75 = 77 + 5 * n + i) = False := fun hi => eq_false (by omega)
  have e0 : (75 = 77 + 5 * n) = False := eq_false (by omega)
  have c75 : cpB C (77 + 5 * n) d 75 = C 75 := by
    simp only [cpB, cpW, us_app, e0, e75 (show 1 < 5 by decide), e75 (show 2 < 5 by decide), e75 (show 3 < 5 by decide), e75 (show 4 < 5 by decide), if_false]
  unfold rem
  simp (disch := omega) only [e14_0, c14_0, w_iload, w_iload_n, w_aload, w_aload_n, w_dload, w_iconst, w_bipush, w_sipush, w_lconst, w_null, w_istore, w_istore_n, w_astore, w_astoreN, w_astore_n, w_astore_nN, w_dstore, w_iinc, w_iadd, w_isub, w_imul, w_iand, w_ior, w_ixor, w_ishl, w_ishr, w_iushr, w_idiv, w_irem, w_ineg, w_i2l, w_i2c, w_i2b, w_i2f, w_i2d, w_f2d, w_fdiv, w_ddiv, w_lcmp, w_dcmp, w_dup, w_dup2, w_pop, w_getf, w_putf, w_gets, w_ldc0, w_ldc1, w_ldc_w0, w_ldc_w1, w_new, w_newa, w_anewa, w_alen, w_iaload, w_caload, w_baload, w_laload, w_aaload, w_iastore, w_castore, w_lastore, w_aastore, w_if_eq, w_ic_eq, w_if_ne, w_ic_ne, w_if_lt, w_ic_lt, w_if_ge, w_ic_ge, w_if_gt, w_ic_gt, w_if_le, w_ic_le, w_ifnull, w_ifnullN, w_ifnonnull, w_ifnonnullN, w_goto, w_tsw, w_lsw, w_ireturn, w_areturn, w_areturnN, w_dreturn, w_freturn, w_return, w_athrow, w_oinit, w_acopy, w_ord, w_call_vir, w_call_spe, w_call_sta, lg, lset, lok, okRet, List.length, Nat.reduceAdd, Nat.reduceLT, true_and, and_true, fv0, fv1, fv2, fv3, aft, Cl, Int32.reduceOfInt, Int32.reduceLT, Int32.reduceLE, Int32.reduceToNatClampNeg, Nat.reduceLeDiff, Nat.reduceAdd, Nat.reduceEqDiff, if_true, if_false, reduceIte, or_self, true_or, or_true,  not_false_eq_true, and_true, true_implies, false_implies, not_true_eq_false, and_self, tkr, rcv, cat1, cats, Value.category, padl, List.replicate, nb0, nb1, io_lt, io_le, io_eq, io_succ, io_nat, io_in, io_neg, io_0, bI0, bI1, bIz, bIn, b8_m6, b8_6, b8_7, b8_8, b8_9, b8_10, b8_16, b8_20, b8_25, b8_30, b8_31, b8_32, b8_33, b8_35, b8_41, b8_42, b8_43, b8_46, b8_48, b8_57, b8_59, b8_60, b8_63, b8_99, b8_100, b8_101, b8_103, b8_105, b8_108, b8_110, b8_111, b8_112, b8_114, b8_115, b8_116, b8_119, b8_120, b8_124, b8_126, b16_255, b16_287, b16_328, ioa0, iob0, ioc0, iod0, ioe0, ioa1, iob1, ioc1, iod1, ioe1, ioa2, iob2, ioc2, iod2, ioe2, ioa3, iob3, ioc3, iod3, ioe3, ioa4, iob4, ioc4, iod4, ioe4, ioa5, iob5, ioc5, iod5, ioe5, ioa6, iob6, ioc6, iod6, ioe6, ioa7, iob7, ioc7, iod7, ioe7, ioa8, iob8, ioc8, iod8, ioe8, ioa9, iob9, ioc9, iod9, ioe9, ioa10, iob10, ioc10, iod10, ioe10, ioa20, iob20, ioc20, iod20, ioe20, ioa25, iob25, ioc25, iod25, ioe25, ioa30, iob30, ioc30, iod30, ioe30, ioa31, iob31, ioc31, iod31, ioe31, ioa32, iob32, ioc32, iod32, ioe32, ioa33, iob33, ioc33, iod33, ioe33, ioa41, iob41, ioc41, iod41, ioe41, ioa48, iob48, ioc48, iod48, ioe48, ioa57, iob57, ioc57, iod57, ioe57, ioa59, iob59, ioc59, iod59, ioe59, ioa60, iob60, ioc60, iod60, ioe60, ioa63, iob63, ioc63, iod63, ioe63, ioa126, iob126, ioc126, iod126, ioe126, ioa255, iob255, ioc255, iod255, ioe255, ioa287, iob287, ioc287, iod287, ioe287, ioa328, iob328, ioc328, iod328, ioe328, vi0, vi1, vi2, vi3, vi4, vi5, vi6, vi7, vi8, vi9, vi10, vi11, vi12, vi13, vi14, vi15, vi16, vi17, vi18, vi19, vi20, vi21, vi22, vi23, vi24, vi25, vi26, vi27, vi28, vi29, vi30, vi31, vi32, vi33, vi34, vi35, vi36, vi37, vi38, vi39, vi40, vi41, kL59, kL75, kL76, kL117, kL118, kL119, kL120, kL121, kL122, kL123, kL124, kL125, kL126, kL127, kL128, kL129, kL130, kL131, kL132, kL133, kL134, kL135, R135, WO_out, WO_seal, R59, P59_3, P59_7, P59_8, P59_10, R75, P75_1, P75_2, R117, P117_2, P117_4, R118, P118, R119, P119, R120, P120, R121, P121_1, R122, P122, R123, P123, R124, P124_4, P124_5, P124_6, P124_7, P124_9, P124_10, P124_11, P124_13, P124_17, P124_18, P124_19, P124_20, P124_22, R125, P125, R126, P126, R127, P127, R128, P128, R129, P129, R130, P130, R131, P131, R132, P132, R133, P133, R134, P134, R14, R15, R16, R17, R18, R19, R20, R21, R22, R23, R24, R25, R26, R27, R28, R29, R30, R31, R32, R33, R34, R35, R4, R5, R6, R7, R8, R9, R10, R11, R12, R13, R76, F59_0, F59_1, F59_2, F59_3, F59_4, F59_5, F59_6, F59_7, F59_8, F59_9, F59_10, F59_len, F75_0, F75_1, F75_2, F75_len, F117_0, F117_1, F117_2, F117_3, F117_4, F117_len, F121_0, F121_1, F121_len, F124_0, F124_1, F124_2, F124_3, F124_4, F124_5, F124_6, F124_7, F124_8, F124_9, F124_10, F124_11, F124_12, F124_13, F124_14, F124_15, F124_16, F124_17, F124_18, F124_19, F124_20, F124_21, F124_22, F124_len, FB_0, FB_1, FB_2, FB_3, FB_4, FB_5, FB_6, FB_7, FB_8, FB_9, FB_len, FW_0, FW_1, FW_2, FW_len, okp0, okp2, okp3, us_app, us_us, nb01, nb02, nb03, nb04, nb10, nb12, nb13, nb14, nb20, nb21, nb23, nb24, nb30, nb31, nb32, nb34, nb40, nb41, nb42, nb43, iB60, iB65, iB70, iB77, iB82, iB87, iB92, iB97, iB102, iB107, iB112, h1, h2, hn8, bA_n hn8, q_bCopy hb hd hne hp, q_min, RB0 hb, c75, i8_8n, io_r8, io_if, upd_app]
def tkB (C : HP) (d n c : Nat) : HP := cpB (us C 75 (upd (upd (C 75) 1 (Int32.ofNat ((n + 7) % 8))) 2 (Int32.ofNat c))) d (77 + 5 * ((n + 7) % 8))
theorem io_sub1 {a : Nat} : Int32.ofNat (a + 1) - 1 = Int32.ofNat a := by rw [← io_succ, Int32.add_sub_cancel]
theorem io_ad8 {a : Nat} : Int32.ofNat a + 8 = Int32.ofNat (a + 8) := io_add (b := 8)
theorem q_takeBack {C G : HP} {z : WB} {Q : AQ} {n c : Nat} (hp : okPut 1 (.int (C (77 + 5 * ((n + 7) % 8)) 3))) (h1 : C 75 1 = Int32.ofNat n) (hn8 : n < 8) (h2 : C 75 2 = Int32.ofNat (c + 1)) : Bk 244 0 0 0 [.ref 75, .ref 60] [] (WO C G z) Q = Q (.inl none) (WO (tkB C 60 n c) G z) := by
  have h8 : (n + 7) % 8 < 8 := Nat.mod_lt _ (by decide)
  have hb := isBh h8
  have hne : ¬ 77 + 5 * ((n + 7) % 8) = 60 := by omega
  have e75 : (77 + 5 * ((n + 7) % 8) = 75) = False := eq_false (by omega)
  have hp2 : okPut 1 (.int (us C 75 (upd (upd (C 75) 1 (Int32.ofNat ((n + 7) % 8))) 2 (Int32.ofNat c)) (77 + 5 * ((n + 7) % 8)) 3)) := by
    simp only [us_app, e75, if_false]; exact hp
  have i60 : isB 60 := iB60 ▸ trivial
  have q := fun Q => q_bCopy (C := us C 75 (upd (upd (C 75) 1 (Int32.ofNat ((n + 7) % 8))) 2 (Int32.ofNat c))) (G := G) (z := z) (Q := Q) i60 hb hne hp2
  have r60 : ∀ {C : HP}, (WO C G z).1 60 = some (.inr (0, FB (C 60) 60)) := RB0 i60
  unfold tkB
  simp (disch := omega) only [e244_0, c244_0, w_iload, w_iload_n, w_aload, w_aload_n, w_dload, w_iconst, w_bipush, w_sipush, w_lconst, w_null, w_istore, w_istore_n, w_astore, w_astoreN, w_astore_n, w_astore_nN, w_dstore, w_iinc, w_iadd, w_isub, w_imul, w_iand, w_ior, w_ixor, w_ishl, w_ishr, w_iushr, w_idiv, w_irem, w_ineg, w_i2l, w_i2c, w_i2b, w_i2f, w_i2d, w_f2d, w_fdiv, w_ddiv, w_lcmp, w_dcmp, w_dup, w_dup2, w_pop, w_getf, w_putf, w_gets, w_ldc0, w_ldc1, w_ldc_w0, w_ldc_w1, w_new, w_newa, w_anewa, w_alen, w_iaload, w_caload, w_baload, w_laload, w_aaload, w_iastore, w_castore, w_lastore, w_aastore, w_if_eq, w_ic_eq, w_if_ne, w_ic_ne, w_if_lt, w_ic_lt, w_if_ge, w_ic_ge, w_if_gt, w_ic_gt, w_if_le, w_ic_le, w_ifnull, w_ifnullN, w_ifnonnull, w_ifnonnullN, w_goto, w_tsw, w_lsw, w_ireturn, w_areturn, w_areturnN, w_dreturn, w_freturn, w_return, w_athrow, w_oinit, w_acopy, w_ord, w_call_vir, w_call_spe, w_call_sta, lg, lset, lok, okRet, List.length, Nat.reduceAdd, Nat.reduceLT, true_and, and_true, fv0, fv1, fv2, fv3, aft, Cl, Int32.reduceOfInt, Int32.reduceLT, Int32.reduceLE, Int32.reduceToNatClampNeg, Nat.reduceLeDiff, Nat.reduceAdd, Nat.reduceEqDiff, if_true, if_false, reduceIte, or_self, true_or, or_true,  not_false_eq_true, and_true, true_implies, false_implies, not_true_eq_false, and_self, tkr, rcv, cat1, cats, Value.category, padl, List.replicate, nb0, nb1, io_lt, io_le, io_eq, io_succ, io_nat, io_in, io_neg, io_0, bI0, bI1, bIz, bIn, b8_m6, b8_6, b8_7, b8_8, b8_9, b8_10, b8_16, b8_20, b8_25, b8_30, b8_31, b8_32, b8_33, b8_35, b8_41, b8_42, b8_43, b8_46, b8_48, b8_57, b8_59, b8_60, b8_63, b8_99, b8_100, b8_101, b8_103, b8_105, b8_108, b8_110, b8_111, b8_112, b8_114, b8_115, b8_116, b8_119, b8_120, b8_124, b8_126, b16_255, b16_287, b16_328, ioa0, iob0, ioc0, iod0, ioe0, ioa1, iob1, ioc1, iod1, ioe1, ioa2, iob2, ioc2, iod2, ioe2, ioa3, iob3, ioc3, iod3, ioe3, ioa4, iob4, ioc4, iod4, ioe4, ioa5, iob5, ioc5, iod5, ioe5, ioa6, iob6, ioc6, iod6, ioe6, ioa7, iob7, ioc7, iod7, ioe7, ioa8, iob8, ioc8, iod8, ioe8, ioa9, iob9, ioc9, iod9, ioe9, ioa10, iob10, ioc10, iod10, ioe10, ioa20, iob20, ioc20, iod20, ioe20, ioa25, iob25, ioc25, iod25, ioe25, ioa30, iob30, ioc30, iod30, ioe30, ioa31, iob31, ioc31, iod31, ioe31, ioa32, iob32, ioc32, iod32, ioe32, ioa33, iob33, ioc33, iod33, ioe33, ioa41, iob41, ioc41, iod41, ioe41, ioa48, iob48, ioc48, iod48, ioe48, ioa57, iob57, ioc57, iod57, ioe57, ioa59, iob59, ioc59, iod59, ioe59, ioa60, iob60, ioc60, iod60, ioe60, ioa63, iob63, ioc63, iod63, ioe63, ioa126, iob126, ioc126, iod126, ioe126, ioa255, iob255, ioc255, iod255, ioe255, ioa287, iob287, ioc287, iod287, ioe287, ioa328, iob328, ioc328, iod328, ioe328, vi0, vi1, vi2, vi3, vi4, vi5, vi6, vi7, vi8, vi9, vi10, vi11, vi12, vi13, vi14, vi15, vi16, vi17, vi18, vi19, vi20, vi21, vi22, vi23, vi24, vi25, vi26, vi27, vi28, vi29, vi30, vi31, vi32, vi33, vi34, vi35, vi36, vi37, vi38, vi39, vi40, vi41, kL59, kL75, kL76, kL117, kL118, kL119, kL120, kL121, kL122, kL123, kL124, kL125, kL126, kL127, kL128, kL129, kL130, kL131, kL132, kL133, kL134, kL135, R135, WO_out, WO_seal, R59, P59_3, P59_7, P59_8, P59_10, R75, P75_1, P75_2, R117, P117_2, P117_4, R118, P118, R119, P119, R120, P120, R121, P121_1, R122, P122, R123, P123, R124, P124_4, P124_5, P124_6, P124_7, P124_9, P124_10, P124_11, P124_13, P124_17, P124_18, P124_19, P124_20, P124_22, R125, P125, R126, P126, R127, P127, R128, P128, R129, P129, R130, P130, R131, P131, R132, P132, R133, P133, R134, P134, R14, R15, R16, R17, R18, R19, R20, R21, R22, R23, R24, R25, R26, R27, R28, R29, R30, R31, R32, R33, R34, R35, R4, R5, R6, R7, R8, R9, R10, R11, R12, R13, R76, F59_0, F59_1, F59_2, F59_3, F59_4, F59_5, F59_6, F59_7, F59_8, F59_9, F59_10, F59_len, F75_0, F75_1, F75_2, F75_len, F117_0, F117_1, F117_2, F117_3, F117_4, F117_len, F121_0, F121_1, F121_len, F124_0, F124_1, F124_2, F124_3, F124_4, F124_5, F124_6, F124_7, F124_8, F124_9, F124_10, F124_11, F124_12, F124_13, F124_14, F124_15, F124_16, F124_17, F124_18, F124_19, F124_20, F124_21, F124_22, F124_len, FB_0, FB_1, FB_2, FB_3, FB_4, FB_5, FB_6, FB_7, FB_8, FB_9, FB_len, FW_0, FW_1, FW_2, FW_len, okp0, okp2, okp3, us_app, us_us, nb01, nb02, nb03, nb04, nb10, nb12, nb13, nb14, nb20, nb21, nb23, nb24, nb30, nb31, nb32, nb34, nb40, nb41, nb42, nb43, iB60, iB65, iB70, iB77, iB82, iB87, iB92, iB97, iB102, iB107, iB112, h1, h2, h8, hn8, bA_n h8, i8_8n, io_r8, io_sub1, io_ad8, upd_app, r60, q]
