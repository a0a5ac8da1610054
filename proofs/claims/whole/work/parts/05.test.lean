theorem fv0 : ((0 : Fin 4) : Nat) = 0 := rfl
theorem fv1 : ((1 : Fin 4) : Nat) = 1 := rfl
theorem fv2 : ((2 : Fin 4) : Nat) = 2 := rfl
theorem fv3 : ((3 : Fin 4) : Nat) = 3 := rfl
set_option maxHeartbeats 4000000 in
theorem zt1 (x : Int32) (w : AW) (Q : AQ) : wp Bk 54 [] (0, 0) (some .int) Q [(52, 1, Instr.ireturn, [])] 0 0 [] [.int x] w := by
  simp only [w_ireturn]
  trace_state
  sorry
set_option maxHeartbeats 4000000 in
theorem zt2 (a b : Int32) (w : AW) (Q : AQ) (h : Q (.inl (some (.int (if a &&& (1 <<< (b &&& 31)) = 0 then 0 else 1)))) w) : Cl 54 [.int a] w Q := by
  refine g54_0 ?_
  simp only [c54_0, w_iload, w_iload_n, w_aload, w_aload_n, w_dload, w_iconst, w_bipush, w_sipush, w_lconst, w_null, w_istore, w_istore_n, w_astore, w_astoreN, w_astore_n, w_astore_nN, w_dstore, w_iinc, w_iadd, w_isub, w_imul, w_iand, w_ior, w_ixor, w_ishl, w_ishr, w_iushr, w_idiv, w_irem, w_ineg, w_i2l, w_i2c, w_i2b, w_i2f, w_i2d, w_f2d, w_fdiv, w_ddiv, w_lcmp, w_dcmp, w_dup, w_dup2, w_pop, w_getf, w_putf, w_gets, w_ldc0, w_ldc1, w_ldc_w0, w_ldc_w1, w_new, w_newa, w_anewa, w_alen, w_iaload, w_caload, w_baload, w_laload, w_aaload, w_iastore, w_castore, w_lastore, w_aastore, w_if_eq, w_ic_eq, w_if_ne, w_ic_ne, w_if_lt, w_ic_lt, w_if_ge, w_ic_ge, w_if_gt, w_ic_gt, w_if_le, w_ic_le, w_ifnull, w_ifnullN, w_ifnonnull, w_ifnonnullN, w_goto, w_tsw, w_lsw, w_ireturn, w_areturn, w_areturnN, w_dreturn, w_freturn, w_return, w_athrow, w_oinit, w_acopy, w_call_vir, w_call_spe, w_call_sta, lg, lset, lok, okRet, List.length, Nat.reduceAdd, Nat.reduceLT, true_and, fv0, fv1, fv2, fv3]
  trace_state
  sorry
