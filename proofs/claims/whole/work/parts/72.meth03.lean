/-! WaterTurns$Sweep.spareOf(LWaterTurns$Valley;I)I -/
theorem dX5_spareOf_0 : decode cX5_spareOf 0 = .ok (.aload_n 0, 1) := by decide +kernel
theorem dX5_spareOf_1 : decode cX5_spareOf 1 = .ok (.aload_n 1, 1) := by decide +kernel
theorem dX5_spareOf_2 : decode cX5_spareOf 2 = .ok (.iload_n 2, 1) := by decide +kernel
theorem dX5_spareOf_3 : decode cX5_spareOf 3 = .ok (.invokevirtual 161, 3) := by decide +kernel
theorem dX5_spareOf_6 : decode cX5_spareOf 6 = .ok (.ifCond .eq 5, 3) := by decide +kernel
theorem dX5_spareOf_9 : decode cX5_spareOf 9 = .ok (.iconst 0, 1) := by decide +kernel
theorem dX5_spareOf_10 : decode cX5_spareOf 10 = .ok (.ireturn, 1) := by decide +kernel
theorem dX5_spareOf_11 : decode cX5_spareOf 11 = .ok (.lconst 1, 1) := by decide +kernel
theorem dX5_spareOf_12 : decode cX5_spareOf 12 = .ok (.aload_n 0, 1) := by decide +kernel
theorem dX5_spareOf_13 : decode cX5_spareOf 13 = .ok (.aload_n 1, 1) := by decide +kernel
theorem dX5_spareOf_14 : decode cX5_spareOf 14 = .ok (.iload_n 2, 1) := by decide +kernel
theorem dX5_spareOf_15 : decode cX5_spareOf 15 = .ok (.invokevirtual 146, 3) := by decide +kernel
theorem dX5_spareOf_18 : decode cX5_spareOf 18 = .ok (.invokestatic 165, 3) := by decide +kernel
theorem dX5_spareOf_21 : decode cX5_spareOf 21 = .ok (.lstore_n 3, 1) := by decide +kernel
theorem dX5_spareOf_22 : decode cX5_spareOf 22 = .ok (.aload_n 1, 1) := by decide +kernel
theorem dX5_spareOf_23 : decode cX5_spareOf 23 = .ok (.getfield 133, 3) := by decide +kernel
theorem dX5_spareOf_26 : decode cX5_spareOf 26 = .ok (.iload_n 2, 1) := by decide +kernel
theorem dX5_spareOf_27 : decode cX5_spareOf 27 = .ok (.aaload, 1) := by decide +kernel
theorem dX5_spareOf_28 : decode cX5_spareOf 28 = .ok (.iconst 2, 1) := by decide +kernel
theorem dX5_spareOf_29 : decode cX5_spareOf 29 = .ok (.iaload, 1) := by decide +kernel
theorem dX5_spareOf_30 : decode cX5_spareOf 30 = .ok (.i2l, 1) := by decide +kernel
theorem dX5_spareOf_31 : decode cX5_spareOf 31 = .ok (.aload_n 1, 1) := by decide +kernel
theorem dX5_spareOf_32 : decode cX5_spareOf 32 = .ok (.getfield 103, 3) := by decide +kernel
theorem dX5_spareOf_35 : decode cX5_spareOf 35 = .ok (.lmul, 1) := by decide +kernel
theorem dX5_spareOf_36 : decode cX5_spareOf 36 = .ok (.lload_n 3, 1) := by decide +kernel
theorem dX5_spareOf_37 : decode cX5_spareOf 37 = .ok (.ladd, 1) := by decide +kernel
theorem dX5_spareOf_38 : decode cX5_spareOf 38 = .ok (.lconst 1, 1) := by decide +kernel
theorem dX5_spareOf_39 : decode cX5_spareOf 39 = .ok (.lsub, 1) := by decide +kernel
theorem dX5_spareOf_40 : decode cX5_spareOf 40 = .ok (.lload_n 3, 1) := by decide +kernel
theorem dX5_spareOf_41 : decode cX5_spareOf 41 = .ok (.ldiv, 1) := by decide +kernel
theorem dX5_spareOf_42 : decode cX5_spareOf 42 = .ok (.lstore 5, 2) := by decide +kernel
theorem dX5_spareOf_44 : decode cX5_spareOf 44 = .ok (.aload_n 0, 1) := by decide +kernel
theorem dX5_spareOf_45 : decode cX5_spareOf 45 = .ok (.getfield 35, 3) := by decide +kernel
theorem dX5_spareOf_48 : decode cX5_spareOf 48 = .ok (.iload_n 2, 1) := by decide +kernel
theorem dX5_spareOf_49 : decode cX5_spareOf 49 = .ok (.iaload, 1) := by decide +kernel
theorem dX5_spareOf_50 : decode cX5_spareOf 50 = .ok (.i2l, 1) := by decide +kernel
theorem dX5_spareOf_51 : decode cX5_spareOf 51 = .ok (.lload 5, 2) := by decide +kernel
theorem dX5_spareOf_53 : decode cX5_spareOf 53 = .ok (.lsub, 1) := by decide +kernel
theorem dX5_spareOf_54 : decode cX5_spareOf 54 = .ok (.l2i, 1) := by decide +kernel
theorem dX5_spareOf_55 : decode cX5_spareOf 55 = .ok (.ireturn, 1) := by decide +kernel
set_option maxRecDepth 100000 in
theorem t_X5_spareOf (x0 x1 x2 : Int) (M : Mem) (h0 : x0 ≠ 0) : MtP yX5_spareOf cX5_spareOf 7 (some .int) 4 0 0 [(24, x0), (27, x1), (0, x2)] M 0 (f_X5_spareOf x0 x1 x2 M) := by
  refine mk_P (by decide +kernel) (Nat.le_of_ble_eq_true rfl) (fun E C r0 hC hq hin => ?_)
  refine r_eqls (ls' := [(0, 24, x0), (1, 27, x1), (2, 0, x2)]) rfl ?_
  unfold f_X5_spareOf
  refine r_aload_n 0 hC 0 rfl (Or.inl (by decide)) rfl dX5_spareOf_0 ?_
  refine r_aload_n 1 hC 1 rfl (Or.inl (by decide)) rfl dX5_spareOf_1 ?_
  refine r_iload_n 2 hC 2 rfl rfl dX5_spareOf_2 ?_
  refine r_callVP 3 hC [(27, x1), (0, x2)] [] rfl vl_X5_161 rfl h0 (by decide) (Nat.le_of_ble_eq_true rfl) (by decide) (by decide) dX5_spareOf_3 (t_X5_shortOf x0 x1 x2 M h0) (fun v1 => ?_)
  refine r_if_eq 6 hC (tgt := 11) (by decide) dX5_spareOf_6 ?_ ?_
  · refine r_lconst 11 hC (x := 1) ⟨by decide +kernel, r64c rfl⟩ dX5_spareOf_11 ?_
    refine r_aload_n 12 hC 0 rfl (Or.inl (by decide)) rfl dX5_spareOf_12 ?_
    refine r_aload_n 13 hC 1 rfl (Or.inl (by decide)) rfl dX5_spareOf_13 ?_
    refine r_iload_n 14 hC 2 rfl rfl dX5_spareOf_14 ?_
    refine r_callVP 15 hC [(27, x1), (0, x2)] [(1, 1)] rfl vl_X5_146 rfl h0 (by decide) (Nat.le_of_ble_eq_true rfl) (by decide) (by decide) dX5_spareOf_15 (t_X5_rateOf x0 x1 x2 M h0) (fun v2 => ?_)
    refine r_callSP 18 hC [(1, 1), (1, v2)] [] rfl sl_X5_165 rfl (by decide) (Nat.le_of_ble_eq_true rfl) (by decide) (by decide) dX5_spareOf_18 (t_J9_max_f86c9 1 v2 M) (fun v3 => ?_)
    refine r_lstore_n 21 hC rfl (by decide) dX5_spareOf_21 (r_eqls (ls' := [(3, 1, v3), (0, 24, x0), (1, 27, x1), (2, 0, x2)]) rfl ?_)
    refine r_aload_n 22 hC 2 rfl (Or.inl (by decide)) rfl dX5_spareOf_22 ?_
    refine r_get 23 hC fd_7_9 fl_X5_133 dX5_spareOf_23 (fun v4 => ?_)
    refine r_iload_n 26 hC 3 rfl rfl dX5_spareOf_26 ?_
    refine r_aaloadI 27 hC dX5_spareOf_27 (fun v5 => ?_)
    refine r_iconst 28 hC (r32c rfl) dX5_spareOf_28 ?_
    refine r_iaload 29 hC dX5_spareOf_29 (fun v6 => ?_)
    refine r_i2l 30 hC dX5_spareOf_30 ?_
    refine r_aload_n 31 hC 2 rfl (Or.inl (by decide)) rfl dX5_spareOf_31 ?_
    refine r_get 32 hC fd_7_7 fl_X5_103 dX5_spareOf_32 (fun v7 => ?_)
    refine r_lmul 35 hC dX5_spareOf_35 ?_
    refine r_lload_n 36 hC 0 rfl rfl dX5_spareOf_36 ?_
    refine r_ladd 37 hC dX5_spareOf_37 ?_
    refine r_lconst 38 hC (x := 1) ⟨by decide +kernel, r64c rfl⟩ dX5_spareOf_38 ?_
    refine r_lsub 39 hC dX5_spareOf_39 ?_
    refine r_lload_n 40 hC 0 rfl rfl dX5_spareOf_40 ?_
    refine r_ldiv 41 hC dX5_spareOf_41 (fun v8 => ?_)
    refine r_lstore 42 hC (by decide) dX5_spareOf_42 (r_eqls (ls' := [(5, 1, v8), (3, 1, v3), (0, 24, x0), (1, 27, x1), (2, 0, x2)]) rfl ?_)
    refine r_aload_n 44 hC 2 rfl (Or.inl (by decide)) rfl dX5_spareOf_44 ?_
    refine r_get 45 hC fd_4_6 fl_X5_35 dX5_spareOf_45 (fun v9 => ?_)
    refine r_iload_n 48 hC 4 rfl rfl dX5_spareOf_48 ?_
    refine r_iaload 49 hC dX5_spareOf_49 (fun v10 => ?_)
    refine r_i2l 50 hC dX5_spareOf_50 ?_
    refine r_lload 51 hC 0 rfl dX5_spareOf_51 ?_
    refine r_lsub 53 hC dX5_spareOf_53 ?_
    refine r_l2i 54 hC dX5_spareOf_54 ?_
    exact r_ireturnP 55 hC hq (by decide) (by decide) dX5_spareOf_55
  · refine r_iconst 9 hC (r32c rfl) dX5_spareOf_9 ?_
    exact r_ireturnP 10 hC hq (by decide) (by decide) dX5_spareOf_10

/-! java/lang/Long.compare(JJ)I -/
theorem dJ13_compare_74951_0 : decode cJ13_compare_74951 0 = .ok (.lload_n 0, 1) := by decide +kernel
theorem dJ13_compare_74951_1 : decode cJ13_compare_74951 1 = .ok (.lload_n 2, 1) := by decide +kernel
theorem dJ13_compare_74951_2 : decode cJ13_compare_74951 2 = .ok (.lcmp, 1) := by decide +kernel
theorem dJ13_compare_74951_3 : decode cJ13_compare_74951 3 = .ok (.ifCond .ge 7, 3) := by decide +kernel
theorem dJ13_compare_74951_6 : decode cJ13_compare_74951 6 = .ok (.iconst (-1), 1) := by decide +kernel
theorem dJ13_compare_74951_7 : decode cJ13_compare_74951 7 = .ok (.goto 14, 3) := by decide +kernel
theorem dJ13_compare_74951_10 : decode cJ13_compare_74951 10 = .ok (.lload_n 0, 1) := by decide +kernel
theorem dJ13_compare_74951_11 : decode cJ13_compare_74951 11 = .ok (.lload_n 2, 1) := by decide +kernel
theorem dJ13_compare_74951_12 : decode cJ13_compare_74951 12 = .ok (.lcmp, 1) := by decide +kernel
theorem dJ13_compare_74951_13 : decode cJ13_compare_74951 13 = .ok (.ifCond .ne 7, 3) := by decide +kernel
theorem dJ13_compare_74951_16 : decode cJ13_compare_74951 16 = .ok (.iconst 0, 1) := by decide +kernel
theorem dJ13_compare_74951_17 : decode cJ13_compare_74951 17 = .ok (.goto 4, 3) := by decide +kernel
theorem dJ13_compare_74951_20 : decode cJ13_compare_74951 20 = .ok (.iconst 1, 1) := by decide +kernel
theorem dJ13_compare_74951_21 : decode cJ13_compare_74951 21 = .ok (.ireturn, 1) := by decide +kernel
set_option maxRecDepth 100000 in
theorem t_J13_compare_74951 (x0 x2 : Int) (M : Mem) : MtP yJ13_compare_74951 cJ13_compare_74951 4 (some .int) 1 0 0 [(1, x0), (1, x2)] M 0 (f_J13_compare_74951 x0 x2 M) := by
  refine mk_P (by decide +kernel) (Nat.le_of_ble_eq_true rfl) (fun E C r0 hC hq hin => ?_)
  refine r_eqls (ls' := [(0, 1, x0), (2, 1, x2)]) rfl ?_
  unfold f_J13_compare_74951
  refine r_lload_n 0 hC 0 rfl rfl dJ13_compare_74951_0 ?_
  refine r_lload_n 1 hC 1 rfl rfl dJ13_compare_74951_1 ?_
  refine r_jn (P := fun j21 => ∀ (q1 : Int), Bk E C 4 M r0 21 [] [(0, q1)] M 0 0 (j21 q1)) ?_ (fun j21 hj21 => ?_)
  · intro q1
    exact r_ireturnP 21 hC hq (by decide) (by decide) dJ13_compare_74951_21
  refine r_lcmp_ge 2 hC (tgt := 10) (by decide) dJ13_compare_74951_2 dJ13_compare_74951_3 ?_ ?_
  · refine r_lload_n 10 hC 0 rfl rfl dJ13_compare_74951_10 ?_
    refine r_lload_n 11 hC 1 rfl rfl dJ13_compare_74951_11 ?_
    refine r_lcmp_ne 12 hC (tgt := 20) (by decide) dJ13_compare_74951_12 dJ13_compare_74951_13 ?_ ?_
    · refine r_iconst 20 hC (r32c rfl) dJ13_compare_74951_20 ?_
      exact r_sub [] rfl (hj21 1)
    · refine r_iconst 16 hC (r32c rfl) dJ13_compare_74951_16 ?_
      refine r_goto 17 hC (tgt := 21) (by decide) dJ13_compare_74951_17 ?_
      exact r_sub [] rfl (hj21 0)
  · refine r_iconst 6 hC (r32c rfl) dJ13_compare_74951_6 ?_
    refine r_goto 7 hC (tgt := 21) (by decide) dJ13_compare_74951_7 ?_
    exact r_sub [] rfl (hj21 (-1))

/-! WaterTurns$Sweep.compareWorth(LWaterTurns$Valley;II)I -/
theorem dX5_compareWorth_0 : decode cX5_compareWorth 0 = .ok (.aload_n 0, 1) := by decide +kernel
theorem dX5_compareWorth_1 : decode cX5_compareWorth 1 = .ok (.aload_n 1, 1) := by decide +kernel
theorem dX5_compareWorth_2 : decode cX5_compareWorth 2 = .ok (.iload_n 2, 1) := by decide +kernel
theorem dX5_compareWorth_3 : decode cX5_compareWorth 3 = .ok (.invokevirtual 153, 3) := by decide +kernel
theorem dX5_compareWorth_6 : decode cX5_compareWorth 6 = .ok (.aload_n 1, 1) := by decide +kernel
theorem dX5_compareWorth_7 : decode cX5_compareWorth 7 = .ok (.getfield 133, 3) := by decide +kernel
theorem dX5_compareWorth_10 : decode cX5_compareWorth 10 = .ok (.iload_n 3, 1) := by decide +kernel
theorem dX5_compareWorth_11 : decode cX5_compareWorth 11 = .ok (.aaload, 1) := by decide +kernel
theorem dX5_compareWorth_12 : decode cX5_compareWorth 12 = .ok (.iconst 1, 1) := by decide +kernel
theorem dX5_compareWorth_13 : decode cX5_compareWorth 13 = .ok (.iaload, 1) := by decide +kernel
theorem dX5_compareWorth_14 : decode cX5_compareWorth 14 = .ok (.i2l, 1) := by decide +kernel
theorem dX5_compareWorth_15 : decode cX5_compareWorth 15 = .ok (.lmul, 1) := by decide +kernel
theorem dX5_compareWorth_16 : decode cX5_compareWorth 16 = .ok (.aload_n 0, 1) := by decide +kernel
theorem dX5_compareWorth_17 : decode cX5_compareWorth 17 = .ok (.aload_n 1, 1) := by decide +kernel
theorem dX5_compareWorth_18 : decode cX5_compareWorth 18 = .ok (.iload_n 3, 1) := by decide +kernel
theorem dX5_compareWorth_19 : decode cX5_compareWorth 19 = .ok (.invokevirtual 153, 3) := by decide +kernel
theorem dX5_compareWorth_22 : decode cX5_compareWorth 22 = .ok (.aload_n 1, 1) := by decide +kernel
theorem dX5_compareWorth_23 : decode cX5_compareWorth 23 = .ok (.getfield 133, 3) := by decide +kernel
theorem dX5_compareWorth_26 : decode cX5_compareWorth 26 = .ok (.iload_n 2, 1) := by decide +kernel
theorem dX5_compareWorth_27 : decode cX5_compareWorth 27 = .ok (.aaload, 1) := by decide +kernel
theorem dX5_compareWorth_28 : decode cX5_compareWorth 28 = .ok (.iconst 1, 1) := by decide +kernel
theorem dX5_compareWorth_29 : decode cX5_compareWorth 29 = .ok (.iaload, 1) := by decide +kernel
theorem dX5_compareWorth_30 : decode cX5_compareWorth 30 = .ok (.i2l, 1) := by decide +kernel
theorem dX5_compareWorth_31 : decode cX5_compareWorth 31 = .ok (.lmul, 1) := by decide +kernel
theorem dX5_compareWorth_32 : decode cX5_compareWorth 32 = .ok (.invokestatic 167, 3) := by decide +kernel
theorem dX5_compareWorth_35 : decode cX5_compareWorth 35 = .ok (.ireturn, 1) := by decide +kernel
set_option maxRecDepth 100000 in
theorem t_X5_compareWorth (x0 x1 x2 x3 : Int) (M : Mem) (h0 : x0 ≠ 0) : MtP yX5_compareWorth cX5_compareWorth 4 (some .int) 3 0 0 [(24, x0), (27, x1), (0, x2), (0, x3)] M 0 (f_X5_compareWorth x0 x1 x2 x3 M) := by
  refine mk_P (by decide +kernel) (Nat.le_of_ble_eq_true rfl) (fun E C r0 hC hq hin => ?_)
  refine r_eqls (ls' := [(0, 24, x0), (1, 27, x1), (2, 0, x2), (3, 0, x3)]) rfl ?_
  unfold f_X5_compareWorth
  refine r_aload_n 0 hC 0 rfl (Or.inl (by decide)) rfl dX5_compareWorth_0 ?_
  refine r_aload_n 1 hC 1 rfl (Or.inl (by decide)) rfl dX5_compareWorth_1 ?_
  refine r_iload_n 2 hC 2 rfl rfl dX5_compareWorth_2 ?_
  refine r_callVP 3 hC [(27, x1), (0, x2)] [] rfl vl_X5_153 rfl h0 (by decide) (Nat.le_of_ble_eq_true rfl) (by decide) (by decide) dX5_compareWorth_3 (t_X5_gets x0 x1 x2 M h0) (fun v1 => ?_)
  refine r_aload_n 6 hC 1 rfl (Or.inl (by decide)) rfl dX5_compareWorth_6 ?_
  refine r_get 7 hC fd_7_9 fl_X5_133 dX5_compareWorth_7 (fun v2 => ?_)
  refine r_iload_n 10 hC 3 rfl rfl dX5_compareWorth_10 ?_
  refine r_aaloadI 11 hC dX5_compareWorth_11 (fun v3 => ?_)
  refine r_iconst 12 hC (r32c rfl) dX5_compareWorth_12 ?_
  refine r_iaload 13 hC dX5_compareWorth_13 (fun v4 => ?_)
  refine r_i2l 14 hC dX5_compareWorth_14 ?_
  refine r_lmul 15 hC dX5_compareWorth_15 ?_
  refine r_aload_n 16 hC 0 rfl (Or.inl (by decide)) rfl dX5_compareWorth_16 ?_
  refine r_aload_n 17 hC 1 rfl (Or.inl (by decide)) rfl dX5_compareWorth_17 ?_
  refine r_iload_n 18 hC 3 rfl rfl dX5_compareWorth_18 ?_
  refine r_callVP 19 hC [(27, x1), (0, x3)] [(1, w64 (v1 * v4))] rfl vl_X5_153 rfl h0 (by decide) (Nat.le_of_ble_eq_true rfl) (by decide) (by decide) dX5_compareWorth_19 (t_X5_gets x0 x1 x3 M h0) (fun v5 => ?_)
  refine r_aload_n 22 hC 1 rfl (Or.inl (by decide)) rfl dX5_compareWorth_22 ?_
  refine r_get 23 hC fd_7_9 fl_X5_133 dX5_compareWorth_23 (fun v6 => ?_)
  refine r_iload_n 26 hC 2 rfl rfl dX5_compareWorth_26 ?_
  refine r_aaloadI 27 hC dX5_compareWorth_27 (fun v7 => ?_)
  refine r_iconst 28 hC (r32c rfl) dX5_compareWorth_28 ?_
  refine r_iaload 29 hC dX5_compareWorth_29 (fun v8 => ?_)
  refine r_i2l 30 hC dX5_compareWorth_30 ?_
  refine r_lmul 31 hC dX5_compareWorth_31 ?_
  refine r_callSP 32 hC [(1, w64 (v1 * v4)), (1, w64 (v5 * v8))] [] rfl sl_X5_167 rfl (by decide) (Nat.le_of_ble_eq_true rfl) (by decide) (by decide) dX5_compareWorth_32 (t_J13_compare_74951 (w64 (v1 * v4)) (w64 (v5 * v8)) M) (fun v9 => ?_)
  exact r_ireturnP 35 hC hq (by decide) (by decide) dX5_compareWorth_35

/-! WaterTurns$Tape.<init>()V -/
theorem dX6_init_0 : decode cX6_init 0 = .ok (.aload_n 0, 1) := by decide +kernel
theorem dX6_init_1 : decode cX6_init 1 = .ok (.invokespecial 3, 3) := by decide +kernel
theorem dX6_init_4 : decode cX6_init 4 = .ok (.aload_n 0, 1) := by decide +kernel
theorem dX6_init_5 : decode cX6_init 5 = .ok (.sipush 900, 3) := by decide +kernel
theorem dX6_init_8 : decode cX6_init 8 = .ok (.newarray .byte, 2) := by decide +kernel
theorem dX6_init_10 : decode cX6_init 10 = .ok (.putfield 9, 3) := by decide +kernel
theorem dX6_init_13 : decode cX6_init 13 = .ok (.aload_n 0, 1) := by decide +kernel
theorem dX6_init_14 : decode cX6_init 14 = .ok (.bipush 30, 2) := by decide +kernel
theorem dX6_init_16 : decode cX6_init 16 = .ok (.newarray .long, 2) := by decide +kernel
theorem dX6_init_18 : decode cX6_init 18 = .ok (.putfield 15, 3) := by decide +kernel
theorem dX6_init_21 : decode cX6_init 21 = .ok (.aload_n 0, 1) := by decide +kernel
theorem dX6_init_22 : decode cX6_init 22 = .ok (.iconst 0, 1) := by decide +kernel
theorem dX6_init_23 : decode cX6_init 23 = .ok (.putfield 19, 3) := by decide +kernel
theorem dX6_init_26 : decode cX6_init 26 = .ok (.aload_n 0, 1) := by decide +kernel
theorem dX6_init_27 : decode cX6_init 27 = .ok (.iconst 0, 1) := by decide +kernel
theorem dX6_init_28 : decode cX6_init 28 = .ok (.putfield 23, 3) := by decide +kernel
theorem dX6_init_31 : decode cX6_init 31 = .ok (.aload_n 0, 1) := by decide +kernel
theorem dX6_init_32 : decode cX6_init 32 = .ok (.iconst 0, 1) := by decide +kernel
theorem dX6_init_33 : decode cX6_init 33 = .ok (.putfield 26, 3) := by decide +kernel
theorem dX6_init_36 : decode cX6_init 36 = .ok (.aload_n 0, 1) := by decide +kernel
theorem dX6_init_37 : decode cX6_init 37 = .ok (.iconst 0, 1) := by decide +kernel
theorem dX6_init_38 : decode cX6_init 38 = .ok (.putfield 29, 3) := by decide +kernel
theorem dX6_init_41 : decode cX6_init 41 = .ok (.aload_n 0, 1) := by decide +kernel
theorem dX6_init_42 : decode cX6_init 42 = .ok (.iconst 0, 1) := by decide +kernel
theorem dX6_init_43 : decode cX6_init 43 = .ok (.putfield 32, 3) := by decide +kernel
theorem dX6_init_46 : decode cX6_init 46 = .ok (.aload_n 0, 1) := by decide +kernel
theorem dX6_init_47 : decode cX6_init 47 = .ok (.iconst 0, 1) := by decide +kernel
theorem dX6_init_48 : decode cX6_init 48 = .ok (.putfield 35, 3) := by decide +kernel
theorem dX6_init_51 : decode cX6_init 51 = .ok (.aload_n 0, 1) := by decide +kernel
theorem dX6_init_52 : decode cX6_init 52 = .ok (.iconst 0, 1) := by decide +kernel
theorem dX6_init_53 : decode cX6_init 53 = .ok (.putfield 38, 3) := by decide +kernel
theorem dX6_init_56 : decode cX6_init 56 = .ok (.aload_n 0, 1) := by decide +kernel
theorem dX6_init_57 : decode cX6_init 57 = .ok (.iconst (-1), 1) := by decide +kernel
theorem dX6_init_58 : decode cX6_init 58 = .ok (.putfield 41, 3) := by decide +kernel
theorem dX6_init_61 : decode cX6_init 61 = .ok (.aload_n 0, 1) := by decide +kernel
theorem dX6_init_62 : decode cX6_init 62 = .ok (.lconst 0, 1) := by decide +kernel
theorem dX6_init_63 : decode cX6_init 63 = .ok (.putfield 44, 3) := by decide +kernel
theorem dX6_init_66 : decode cX6_init 66 = .ok (.aload_n 0, 1) := by decide +kernel
theorem dX6_init_67 : decode cX6_init 67 = .ok (.iconst (-1), 1) := by decide +kernel
theorem dX6_init_68 : decode cX6_init 68 = .ok (.putfield 48, 3) := by decide +kernel
theorem dX6_init_71 : decode cX6_init 71 = .ok (.aload_n 0, 1) := by decide +kernel
theorem dX6_init_72 : decode cX6_init 72 = .ok (.iconst (-1), 1) := by decide +kernel
theorem dX6_init_73 : decode cX6_init 73 = .ok (.putfield 51, 3) := by decide +kernel
theorem dX6_init_76 : decode cX6_init 76 = .ok (.iconst 0, 1) := by decide +kernel
theorem dX6_init_77 : decode cX6_init 77 = .ok (.istore_n 1, 1) := by decide +kernel
theorem dX6_init_78 : decode cX6_init 78 = .ok (.lconst 0, 1) := by decide +kernel
theorem dX6_init_79 : decode cX6_init 79 = .ok (.lstore_n 2, 1) := by decide +kernel
theorem dX6_init_80 : decode cX6_init 80 = .ok (.iconst 0, 1) := by decide +kernel
theorem dX6_init_81 : decode cX6_init 81 = .ok (.istore 4, 2) := by decide +kernel
theorem dX6_init_83 : decode cX6_init 83 = .ok (.iload 4, 2) := by decide +kernel
theorem dX6_init_85 : decode cX6_init 85 = .ok (.ldc 54, 2) := by decide +kernel
theorem dX6_init_87 : decode cX6_init 87 = .ok (.invokevirtual 56, 3) := by decide +kernel
theorem dX6_init_90 : decode cX6_init 90 = .ok (.if_icmp .ge 61, 3) := by decide +kernel
theorem dX6_init_93 : decode cX6_init 93 = .ok (.ldc 54, 2) := by decide +kernel
theorem dX6_init_95 : decode cX6_init 95 = .ok (.iload 4, 2) := by decide +kernel
theorem dX6_init_97 : decode cX6_init 97 = .ok (.invokevirtual 61, 3) := by decide +kernel
theorem dX6_init_100 : decode cX6_init 100 = .ok (.istore 5, 2) := by decide +kernel
theorem dX6_init_102 : decode cX6_init 102 = .ok (.iload 5, 2) := by decide +kernel
theorem dX6_init_104 : decode cX6_init 104 = .ok (.bipush 32, 2) := by decide +kernel
theorem dX6_init_106 : decode cX6_init 106 = .ok (.if_icmp .eq 21, 3) := by decide +kernel
theorem dX6_init_109 : decode cX6_init 109 = .ok (.lload_n 2, 1) := by decide +kernel
theorem dX6_init_110 : decode cX6_init 110 = .ok (.ldc2_w 65, 3) := by decide +kernel
theorem dX6_init_113 : decode cX6_init 113 = .ok (.lmul, 1) := by decide +kernel
theorem dX6_init_114 : decode cX6_init 114 = .ok (.iload 5, 2) := by decide +kernel
theorem dX6_init_116 : decode cX6_init 116 = .ok (.bipush 97, 2) := by decide +kernel
theorem dX6_init_118 : decode cX6_init 118 = .ok (.isub, 1) := by decide +kernel
theorem dX6_init_119 : decode cX6_init 119 = .ok (.iconst 1, 1) := by decide +kernel
theorem dX6_init_120 : decode cX6_init 120 = .ok (.iadd, 1) := by decide +kernel
theorem dX6_init_121 : decode cX6_init 121 = .ok (.i2l, 1) := by decide +kernel
theorem dX6_init_122 : decode cX6_init 122 = .ok (.ladd, 1) := by decide +kernel
theorem dX6_init_123 : decode cX6_init 123 = .ok (.lstore_n 2, 1) := by decide +kernel
theorem dX6_init_124 : decode cX6_init 124 = .ok (.goto 21, 3) := by decide +kernel
theorem dX6_init_127 : decode cX6_init 127 = .ok (.iload_n 1, 1) := by decide +kernel
theorem dX6_init_128 : decode cX6_init 128 = .ok (.bipush 30, 2) := by decide +kernel
theorem dX6_init_130 : decode cX6_init 130 = .ok (.if_icmp .ge 15, 3) := by decide +kernel
theorem dX6_init_133 : decode cX6_init 133 = .ok (.aload_n 0, 1) := by decide +kernel
theorem dX6_init_134 : decode cX6_init 134 = .ok (.getfield 15, 3) := by decide +kernel
theorem dX6_init_137 : decode cX6_init 137 = .ok (.iload_n 1, 1) := by decide +kernel
theorem dX6_init_138 : decode cX6_init 138 = .ok (.lload_n 2, 1) := by decide +kernel
theorem dX6_init_139 : decode cX6_init 139 = .ok (.lastore, 1) := by decide +kernel
theorem dX6_init_140 : decode cX6_init 140 = .ok (.iinc 1 1, 3) := by decide +kernel
theorem dX6_init_143 : decode cX6_init 143 = .ok (.lconst 0, 1) := by decide +kernel
theorem dX6_init_144 : decode cX6_init 144 = .ok (.lstore_n 2, 1) := by decide +kernel
theorem dX6_init_145 : decode cX6_init 145 = .ok (.iinc 4 1, 3) := by decide +kernel
theorem dX6_init_148 : decode cX6_init 148 = .ok (.goto (-65), 3) := by decide +kernel
theorem dX6_init_151 : decode cX6_init 151 = .ok (.return_, 1) := by decide +kernel
set_option maxRecDepth 100000 in
theorem f_X6_init_L83_ok {E : EnvT} {C : Cx} {Mi : Mem} {x0 : Int} (h0 : x0 ≠ 0) (hC : CxOK E C cX6_init 6 yX6_init.cls 6 2 930) {M0 : Mem} (hq : RQ E C 2 930 Mi none none M0) (hin : (cMeth C).name = "<init>") {k : Mem → Option (Mem)} (hk : ∀ M30, Bk E C 6 Mi M0 151 [] [] M30 2 930 (k M30)) : ∀ (n : Nat) (p18 : Int) (p19 : Int) (p20 : Int) (M21 : Mem), Bk E C 6 Mi M0 83 [(0, 25, x0), (1, 0, p18), (2, 1, p19), (4, 0, p20)] [] M21 2 930 (f_X6_init_L83 x0 k n p18 p19 p20 M21) := by
  intro n
  induction n with
  | zero =>
    intro p18 p19 p20 M21
    exact r_none
  | succ n ih =>
    intro p18 p19 p20 M21
    rw [f_X6_init_L83]
    refine r_iload 83 hC 3 rfl dX6_init_83 ?_
    refine r_ldcS1 85 hC dX6_init_85 ?_
    refine r_slen 87 hC ss_X6_56 (by decide) (Nat.le_of_ble_eq_true rfl) (by decide) (by decide) dX6_init_87 (fun v22 => ?_)
    refine r_icmp_ge 90 hC (tgt := 151) (by decide) dX6_init_90 ?_ ?_
    · exact r_sub [] rfl (hk M21)
    · refine r_ldcS1 93 hC dX6_init_93 ?_
      refine r_iload 95 hC 3 rfl dX6_init_95 ?_
      refine r_schr 97 hC ss_X6_61 (by decide) (Nat.le_of_ble_eq_true rfl) (by decide) (by decide) dX6_init_97 (fun v23 => ?_)
      refine r_istore 100 hC (by decide) dX6_init_100 (r_eqls (ls' := [(5, 0, v23), (0, 25, x0), (1, 0, p18), (2, 1, p19), (4, 0, p20)]) rfl ?_)
      refine r_iload 102 hC 0 rfl dX6_init_102 ?_
      refine r_bipush 104 hC kb_32 dX6_init_104 ?_
      refine r_jn (P := fun j145 => ∀ (q24 : Int) (q25 : Int) (M26 : Mem), Bk E C 6 Mi M0 145 [(0, 25, x0), (1, 0, q24), (2, 1, q25), (4, 0, p20)] [] M26 2 930 (j145 q24 q25 M26)) ?_ (fun j145 hj145 => ?_)
      · intro q24 q25 M26
        refine r_iinc 145 hC 3 rfl (by decide) dX6_init_145 (r_eqls (ls' := [(4, 0, w32 (p20 + 1)), (0, 25, x0), (1, 0, q24), (2, 1, q25)]) rfl ?_)
        refine r_goto 148 hC (tgt := 83) (by decide) dX6_init_148 ?_
        exact r_sub [1, 2, 3, 0] rfl (ih q24 q25 (w32 (p20 + 1)) M26)
      refine r_icmp_eq 106 hC (tgt := 127) (by decide) dX6_init_106 ?_ ?_
      · refine r_iload_n 127 hC 2 rfl rfl dX6_init_127 ?_
        refine r_bipush 128 hC kb_30 dX6_init_128 ?_
        refine r_icmp_ge 130 hC (tgt := 145) (by decide) dX6_init_130 ?_ ?_
        · exact r_sub [1, 2, 3, 4] rfl (hj145 p18 p19 M21)
        · refine r_aload_n 133 hC 1 rfl (Or.inl (by decide)) rfl dX6_init_133 ?_
          refine r_get 134 hC fd_5_1 fl_X6_15 dX6_init_134 (fun v27 => ?_)
          refine r_iload_n 137 hC 2 rfl rfl dX6_init_137 ?_
          refine r_lload_n 138 hC 3 rfl rfl dX6_init_138 ?_
          refine r_lastore 139 hC dX6_init_139 (fun M28 => ?_)
          refine r_iinc 140 hC 2 rfl (by decide) dX6_init_140 (r_eqls (ls' := [(1, 0, w32 (p18 + 1)), (5, 0, v23), (0, 25, x0), (2, 1, p19), (4, 0, p20)]) rfl ?_)
          refine r_lconst 143 hC (x := 0) ⟨by decide +kernel, r64c rfl⟩ dX6_init_143 ?_
          refine r_lstore_n 144 hC rfl (by decide) dX6_init_144 (r_eqls (ls' := [(2, 1, 0), (1, 0, w32 (p18 + 1)), (5, 0, v23), (0, 25, x0), (4, 0, p20)]) rfl ?_)
          exact r_sub [3, 1, 0, 4] rfl (hj145 (w32 (p18 + 1)) 0 M28)
      · refine r_lload_n 109 hC 3 rfl rfl dX6_init_109 ?_
        refine r_ldc2 110 hC (x := 32) kl_X6_65 ⟨by decide +kernel, r64c rfl⟩ dX6_init_110 ?_
        refine r_lmul 113 hC dX6_init_113 ?_
        refine r_iload 114 hC 0 rfl dX6_init_114 ?_
        refine r_bipush 116 hC kb_97 dX6_init_116 ?_
        refine r_isub 118 hC dX6_init_118 ?_
        refine r_iconst 119 hC (r32c rfl) dX6_init_119 ?_
        refine r_iadd 120 hC dX6_init_120 ?_
        refine r_i2l 121 hC dX6_init_121 ?_
        refine r_ladd 122 hC dX6_init_122 ?_
        refine r_lstore_nL 123 hC rfl (by decide) dX6_init_123 (fun v29 => r_eqls (ls' := [(2, 1, v29), (5, 0, v23), (0, 25, x0), (1, 0, p18), (4, 0, p20)]) rfl ?_)
        refine r_goto 124 hC (tgt := 145) (by decide) dX6_init_124 ?_
        exact r_sub [2, 3, 0, 4] rfl (hj145 p18 v29 M21)
set_option maxRecDepth 100000 in
theorem t_X6_init (x0 : Int) (M : Mem) (h0 : x0 ≠ 0) : MtV yX6_init cX6_init 6 none 6 2 930 [(25, x0)] M (f_X6_init x0 M) := by
  refine mk_V (by decide +kernel) (Nat.le_of_ble_eq_true rfl) (fun E C M0 hC hq hin => ?_)
  refine r_eqls (ls' := [(0, 25, x0)]) rfl ?_
  unfold f_X6_init
  refine r_aload_n 0 hC 0 rfl (Or.inl (by decide)) rfl dX6_init_0 ?_
  refine r_objinit 1 hC ob_X6_3 obj_i obj_c (by decide) h0 (by decide) (Nat.le_of_ble_eq_true rfl) dX6_init_1 ?_
  refine r_aload_n 4 hC 0 rfl (Or.inl (by decide)) rfl dX6_init_4 ?_
  refine r_sipush 5 hC ks_900 dX6_init_5 ?_
  refine r_newa 8 hC (N := 900) rfl (by decide) (by decide) (by decide) rfl (fun _ _ => Iff.rfl) nad_12 (fun _ => nao_12) (by decide) nac_12 (by decide) (by decide) dX6_init_8 (fun v1 M2 => ?_)
  refine r_putF 10 hC hin fd_5_0 fl_X6_9 dX6_init_10 (fun M3 => ?_)
  refine r_aload_n 13 hC 0 rfl (Or.inl (by decide)) rfl dX6_init_13 ?_
  refine r_bipush 14 hC kb_30 dX6_init_14 ?_
  refine r_newa 16 hC (N := 30) rfl (by decide) (by decide) (by decide) rfl (fun _ _ => Iff.rfl) nad_11 (fun _ => nao_11) (by decide) nac_11 (by decide) (by decide) dX6_init_16 (fun v4 M5 => ?_)
  refine r_putF 18 hC hin fd_5_1 fl_X6_15 dX6_init_18 (fun M6 => ?_)
  refine r_aload_n 21 hC 0 rfl (Or.inl (by decide)) rfl dX6_init_21 ?_
  refine r_iconst 22 hC (r32c rfl) dX6_init_22 ?_
  refine r_put 23 hC fd_5_2 fl_X6_19 dX6_init_23 (fun M7 => ?_)
  refine r_aload_n 26 hC 0 rfl (Or.inl (by decide)) rfl dX6_init_26 ?_
  refine r_iconst 27 hC (r32c rfl) dX6_init_27 ?_
  refine r_put 28 hC fd_5_3 fl_X6_23 dX6_init_28 (fun M8 => ?_)
  refine r_aload_n 31 hC 0 rfl (Or.inl (by decide)) rfl dX6_init_31 ?_
  refine r_iconst 32 hC (r32c rfl) dX6_init_32 ?_
  refine r_put 33 hC fd_5_4 fl_X6_26 dX6_init_33 (fun M9 => ?_)
  refine r_aload_n 36 hC 0 rfl (Or.inl (by decide)) rfl dX6_init_36 ?_
  refine r_iconst 37 hC (r32c rfl) dX6_init_37 ?_
  refine r_put 38 hC fd_5_5 fl_X6_29 dX6_init_38 (fun M10 => ?_)
  refine r_aload_n 41 hC 0 rfl (Or.inl (by decide)) rfl dX6_init_41 ?_
  refine r_iconst 42 hC (r32c rfl) dX6_init_42 ?_
  refine r_put 43 hC fd_5_6 fl_X6_32 dX6_init_43 (fun M11 => ?_)
  refine r_aload_n 46 hC 0 rfl (Or.inl (by decide)) rfl dX6_init_46 ?_
  refine r_iconst 47 hC (r32c rfl) dX6_init_47 ?_
  refine r_put 48 hC fd_5_7 fl_X6_35 dX6_init_48 (fun M12 => ?_)
  refine r_aload_n 51 hC 0 rfl (Or.inl (by decide)) rfl dX6_init_51 ?_
  refine r_iconst 52 hC (r32c rfl) dX6_init_52 ?_
  refine r_put 53 hC fd_5_8 fl_X6_38 dX6_init_53 (fun M13 => ?_)
  refine r_aload_n 56 hC 0 rfl (Or.inl (by decide)) rfl dX6_init_56 ?_
  refine r_iconst 57 hC (r32c rfl) dX6_init_57 ?_
  refine r_put 58 hC fd_5_9 fl_X6_41 dX6_init_58 (fun M14 => ?_)
  refine r_aload_n 61 hC 0 rfl (Or.inl (by decide)) rfl dX6_init_61 ?_
  refine r_lconst 62 hC (x := 0) ⟨by decide +kernel, r64c rfl⟩ dX6_init_62 ?_
  refine r_put 63 hC fd_5_10 fl_X6_44 dX6_init_63 (fun M15 => ?_)
  refine r_aload_n 66 hC 0 rfl (Or.inl (by decide)) rfl dX6_init_66 ?_
  refine r_iconst 67 hC (r32c rfl) dX6_init_67 ?_
  refine r_put 68 hC fd_5_11 fl_X6_48 dX6_init_68 (fun M16 => ?_)
  refine r_aload_n 71 hC 0 rfl (Or.inl (by decide)) rfl dX6_init_71 ?_
  refine r_iconst 72 hC (r32c rfl) dX6_init_72 ?_
  refine r_put 73 hC fd_5_12 fl_X6_51 dX6_init_73 (fun M17 => ?_)
  refine r_iconst 76 hC (r32c rfl) dX6_init_76 ?_
  refine r_istore_n 77 hC rfl (by decide) dX6_init_77 (r_eqls (ls' := [(1, 0, 0), (0, 25, x0)]) rfl ?_)
  refine r_lconst 78 hC (x := 0) ⟨by decide +kernel, r64c rfl⟩ dX6_init_78 ?_
  refine r_lstore_n 79 hC rfl (by decide) dX6_init_79 (r_eqls (ls' := [(2, 1, 0), (1, 0, 0), (0, 25, x0)]) rfl ?_)
  refine r_iconst 80 hC (r32c rfl) dX6_init_80 ?_
  refine r_istore 81 hC (by decide) dX6_init_81 (r_eqls (ls' := [(4, 0, 0), (2, 1, 0), (1, 0, 0), (0, 25, x0)]) rfl ?_)
  refine r_sub [3, 2, 1, 0] rfl (f_X6_init_L83_ok h0 hC hq hin (fun M31 => ?_) KF 0 0 0 M17)
  · exact r_return 151 hC hq (by decide) (by decide) dX6_init_151

/-! WaterTurns$Tape.hasRoom(I)Z -/
theorem dX6_hasRoom_0 : decode cX6_hasRoom 0 = .ok (.aload_n 0, 1) := by decide +kernel
theorem dX6_hasRoom_1 : decode cX6_hasRoom 1 = .ok (.getfield 32, 3) := by decide +kernel
theorem dX6_hasRoom_4 : decode cX6_hasRoom 4 = .ok (.iload_n 1, 1) := by decide +kernel
theorem dX6_hasRoom_5 : decode cX6_hasRoom 5 = .ok (.iadd, 1) := by decide +kernel
theorem dX6_hasRoom_6 : decode cX6_hasRoom 6 = .ok (.sipush 900, 3) := by decide +kernel
theorem dX6_hasRoom_9 : decode cX6_hasRoom 9 = .ok (.if_icmp .gt 7, 3) := by decide +kernel
theorem dX6_hasRoom_12 : decode cX6_hasRoom 12 = .ok (.iconst 1, 1) := by decide +kernel
theorem dX6_hasRoom_13 : decode cX6_hasRoom 13 = .ok (.goto 4, 3) := by decide +kernel
theorem dX6_hasRoom_16 : decode cX6_hasRoom 16 = .ok (.iconst 0, 1) := by decide +kernel
theorem dX6_hasRoom_17 : decode cX6_hasRoom 17 = .ok (.ireturn, 1) := by decide +kernel
set_option maxRecDepth 100000 in
theorem t_X6_hasRoom (x0 x1 : Int) (M : Mem) (h0 : x0 ≠ 0) : MtP yX6_hasRoom cX6_hasRoom 2 (some .boolean) 1 0 0 [(25, x0), (0, x1)] M 0 (f_X6_hasRoom x0 x1 M) := by
  refine mk_P (by decide +kernel) (Nat.le_of_ble_eq_true rfl) (fun E C r0 hC hq hin => ?_)
  refine r_eqls (ls' := [(0, 25, x0), (1, 0, x1)]) rfl ?_
  unfold f_X6_hasRoom
  refine r_aload_n 0 hC 0 rfl (Or.inl (by decide)) rfl dX6_hasRoom_0 ?_
  refine r_get 1 hC fd_5_6 fl_X6_32 dX6_hasRoom_1 (fun v1 => ?_)
  refine r_iload_n 4 hC 1 rfl rfl dX6_hasRoom_4 ?_
  refine r_iadd 5 hC dX6_hasRoom_5 ?_
  refine r_sipush 6 hC ks_900 dX6_hasRoom_6 ?_
  refine r_jn (P := fun j17 => ∀ (q2 : Int), Bk E C 2 M r0 17 [] [(0, q2)] M 0 0 (j17 q2)) ?_ (fun j17 hj17 => ?_)
  · intro q2
    exact r_zreturnP 17 hC hq (by decide) (by decide) dX6_hasRoom_17
  refine r_icmp_gt 9 hC (tgt := 16) (by decide) dX6_hasRoom_9 ?_ ?_
  · refine r_iconst 16 hC (r32c rfl) dX6_hasRoom_16 ?_
    exact r_sub [] rfl (hj17 0)
  · refine r_iconst 12 hC (r32c rfl) dX6_hasRoom_12 ?_
    refine r_goto 13 hC (tgt := 17) (by decide) dX6_hasRoom_13 ?_
    exact r_sub [] rfl (hj17 1)

/-! WaterTurns$Tape.addInt(I)V -/
theorem dX6_addInt_0 : decode cX6_addInt 0 = .ok (.bipush 24, 2) := by decide +kernel
theorem dX6_addInt_2 : decode cX6_addInt 2 = .ok (.istore_n 2, 1) := by decide +kernel
theorem dX6_addInt_3 : decode cX6_addInt 3 = .ok (.iload_n 2, 1) := by decide +kernel
theorem dX6_addInt_4 : decode cX6_addInt 4 = .ok (.ifCond .lt 42, 3) := by decide +kernel
theorem dX6_addInt_7 : decode cX6_addInt 7 = .ok (.aload_n 0, 1) := by decide +kernel
theorem dX6_addInt_8 : decode cX6_addInt 8 = .ok (.getfield 32, 3) := by decide +kernel
theorem dX6_addInt_11 : decode cX6_addInt 11 = .ok (.sipush 900, 3) := by decide +kernel
theorem dX6_addInt_14 : decode cX6_addInt 14 = .ok (.if_icmp .ge 32, 3) := by decide +kernel
theorem dX6_addInt_17 : decode cX6_addInt 17 = .ok (.aload_n 0, 1) := by decide +kernel
theorem dX6_addInt_18 : decode cX6_addInt 18 = .ok (.getfield 9, 3) := by decide +kernel
theorem dX6_addInt_21 : decode cX6_addInt 21 = .ok (.aload_n 0, 1) := by decide +kernel
theorem dX6_addInt_22 : decode cX6_addInt 22 = .ok (.getfield 32, 3) := by decide +kernel
theorem dX6_addInt_25 : decode cX6_addInt 25 = .ok (.iload_n 1, 1) := by decide +kernel
theorem dX6_addInt_26 : decode cX6_addInt 26 = .ok (.iload_n 2, 1) := by decide +kernel
theorem dX6_addInt_27 : decode cX6_addInt 27 = .ok (.ishr, 1) := by decide +kernel
theorem dX6_addInt_28 : decode cX6_addInt 28 = .ok (.i2b, 1) := by decide +kernel
theorem dX6_addInt_29 : decode cX6_addInt 29 = .ok (.bastore, 1) := by decide +kernel
theorem dX6_addInt_30 : decode cX6_addInt 30 = .ok (.aload_n 0, 1) := by decide +kernel
theorem dX6_addInt_31 : decode cX6_addInt 31 = .ok (.dup, 1) := by decide +kernel
theorem dX6_addInt_32 : decode cX6_addInt 32 = .ok (.getfield 32, 3) := by decide +kernel
theorem dX6_addInt_35 : decode cX6_addInt 35 = .ok (.iconst 1, 1) := by decide +kernel
theorem dX6_addInt_36 : decode cX6_addInt 36 = .ok (.iadd, 1) := by decide +kernel
theorem dX6_addInt_37 : decode cX6_addInt 37 = .ok (.putfield 32, 3) := by decide +kernel
theorem dX6_addInt_40 : decode cX6_addInt 40 = .ok (.iinc 2 (-8), 3) := by decide +kernel
theorem dX6_addInt_43 : decode cX6_addInt 43 = .ok (.goto (-40), 3) := by decide +kernel
theorem dX6_addInt_46 : decode cX6_addInt 46 = .ok (.return_, 1) := by decide +kernel
set_option maxRecDepth 100000 in
theorem f_X6_addInt_L3_ok {E : EnvT} {C : Cx} {Mi : Mem} {x0 : Int} (h0 : x0 ≠ 0) (hC : CxOK E C cX6_addInt 3 yX6_addInt.cls 1 0 0) {M0 : Mem} (hq : RQ E C 0 0 Mi none none M0) {x1 : Int} {k : Mem → Option (Mem)} (hk : ∀ M9, Bk E C 3 Mi M0 46 [] [] M9 0 0 (k M9)) : ∀ (n : Nat) (p1 : Int) (M2 : Mem), Bk E C 3 Mi M0 3 [(0, 25, x0), (1, 0, x1), (2, 0, p1)] [] M2 0 0 (f_X6_addInt_L3 x0 x1 k n p1 M2) := by
  intro n
  induction n with
  | zero =>
    intro p1 M2
    exact r_none
  | succ n ih =>
    intro p1 M2
    rw [f_X6_addInt_L3]
    refine r_iload_n 3 hC 2 rfl rfl dX6_addInt_3 ?_
    refine r_if_lt 4 hC (tgt := 46) (by decide) dX6_addInt_4 ?_ ?_
    · exact r_sub [] rfl (hk M2)
    · refine r_aload_n 7 hC 0 rfl (Or.inl (by decide)) rfl dX6_addInt_7 ?_
      refine r_get 8 hC fd_5_6 fl_X6_32 dX6_addInt_8 (fun v3 => ?_)
      refine r_sipush 11 hC ks_900 dX6_addInt_11 ?_
      refine r_icmp_ge 14 hC (tgt := 46) (by decide) dX6_addInt_14 ?_ ?_
      · exact r_sub [] rfl (hk M2)
      · refine r_aload_n 17 hC 0 rfl (Or.inl (by decide)) rfl dX6_addInt_17 ?_
        refine r_get 18 hC fd_5_0 fl_X6_9 dX6_addInt_18 (fun v4 => ?_)
        refine r_aload_n 21 hC 0 rfl (Or.inl (by decide)) rfl dX6_addInt_21 ?_
        refine r_get 22 hC fd_5_6 fl_X6_32 dX6_addInt_22 (fun v5 => ?_)
        refine r_iload_n 25 hC 1 rfl rfl dX6_addInt_25 ?_
        refine r_iload_n 26 hC 2 rfl rfl dX6_addInt_26 ?_
        refine r_ishr 27 hC dX6_addInt_27 ?_
        refine r_i2b 28 hC dX6_addInt_28 ?_
        refine r_bastore 29 hC dX6_addInt_29 (fun M6 => ?_)
        refine r_aload_n 30 hC 0 rfl (Or.inl (by decide)) rfl dX6_addInt_30 ?_
        refine r_dup 31 hC (by decide) dX6_addInt_31 ?_
        refine r_get 32 hC fd_5_6 fl_X6_32 dX6_addInt_32 (fun v7 => ?_)
        refine r_iconst 35 hC (r32c rfl) dX6_addInt_35 ?_
        refine r_iadd 36 hC dX6_addInt_36 ?_
        refine r_put 37 hC fd_5_6 fl_X6_32 dX6_addInt_37 (fun M8 => ?_)
        refine r_iinc 40 hC 2 rfl (by decide) dX6_addInt_40 (r_eqls (ls' := [(2, 0, w32 (p1 + (-8))), (0, 25, x0), (1, 0, x1)]) rfl ?_)
        refine r_goto 43 hC (tgt := 3) (by decide) dX6_addInt_43 ?_
        exact r_sub [1, 2, 0] rfl (ih (w32 (p1 + (-8))) M8)
set_option maxRecDepth 100000 in
theorem t_X6_addInt (x0 x1 : Int) (M : Mem) (h0 : x0 ≠ 0) : MtV yX6_addInt cX6_addInt 3 none 1 0 0 [(25, x0), (0, x1)] M (f_X6_addInt x0 x1 M) := by
  refine mk_V (by decide +kernel) (Nat.le_of_ble_eq_true rfl) (fun E C M0 hC hq hin => ?_)
  refine r_eqls (ls' := [(0, 25, x0), (1, 0, x1)]) rfl ?_
  unfold f_X6_addInt
  refine r_bipush 0 hC kb_24 dX6_addInt_0 ?_
  refine r_istore_n 2 hC rfl (by decide) dX6_addInt_2 (r_eqls (ls' := [(2, 0, 24), (0, 25, x0), (1, 0, x1)]) rfl ?_)
  refine r_sub [1, 2, 0] rfl (f_X6_addInt_L3_ok h0 hC hq (fun M10 => ?_) KF 24 M)
  · exact r_return 46 hC hq (by decide) (by decide) dX6_addInt_46

/-! WaterTurns$Tape.add(IIIII)I -/
theorem dX6_add_0 : decode cX6_add 0 = .ok (.aload_n 0, 1) := by decide +kernel
theorem dX6_add_1 : decode cX6_add 1 = .ok (.iload_n 1, 1) := by decide +kernel
theorem dX6_add_2 : decode cX6_add 2 = .ok (.invokevirtual 67, 3) := by decide +kernel
theorem dX6_add_5 : decode cX6_add 5 = .ok (.aload_n 0, 1) := by decide +kernel
theorem dX6_add_6 : decode cX6_add 6 = .ok (.iload_n 2, 1) := by decide +kernel
theorem dX6_add_7 : decode cX6_add 7 = .ok (.invokevirtual 67, 3) := by decide +kernel
theorem dX6_add_10 : decode cX6_add 10 = .ok (.aload_n 0, 1) := by decide +kernel
theorem dX6_add_11 : decode cX6_add 11 = .ok (.iload_n 3, 1) := by decide +kernel
theorem dX6_add_12 : decode cX6_add 12 = .ok (.invokevirtual 67, 3) := by decide +kernel
theorem dX6_add_15 : decode cX6_add 15 = .ok (.aload_n 0, 1) := by decide +kernel
theorem dX6_add_16 : decode cX6_add 16 = .ok (.iload 4, 2) := by decide +kernel
theorem dX6_add_18 : decode cX6_add 18 = .ok (.invokevirtual 67, 3) := by decide +kernel
theorem dX6_add_21 : decode cX6_add 21 = .ok (.aload_n 0, 1) := by decide +kernel
theorem dX6_add_22 : decode cX6_add 22 = .ok (.iload 5, 2) := by decide +kernel
theorem dX6_add_24 : decode cX6_add 24 = .ok (.invokevirtual 67, 3) := by decide +kernel
theorem dX6_add_27 : decode cX6_add 27 = .ok (.aload_n 0, 1) := by decide +kernel
theorem dX6_add_28 : decode cX6_add 28 = .ok (.getfield 32, 3) := by decide +kernel
theorem dX6_add_31 : decode cX6_add 31 = .ok (.ireturn, 1) := by decide +kernel
set_option maxRecDepth 100000 in
theorem t_X6_add (x0 x1 x2 x3 x4 x5 : Int) (M : Mem) (h0 : x0 ≠ 0) : MtI yX6_add cX6_add 6 (some .int) 2 0 0 [(25, x0), (0, x1), (0, x2), (0, x3), (0, x4), (0, x5)] M 0 (f_X6_add x0 x1 x2 x3 x4 x5 M) := by
  refine mk_I (by decide +kernel) (Nat.le_of_ble_eq_true rfl) (fun E C r0 M0 hC hq hin => ?_)
  refine r_eqls (ls' := [(0, 25, x0), (1, 0, x1), (2, 0, x2), (3, 0, x3), (4, 0, x4), (5, 0, x5)]) rfl ?_
  unfold f_X6_add
  refine r_aload_n 0 hC 0 rfl (Or.inl (by decide)) rfl dX6_add_0 ?_
  refine r_iload_n 1 hC 1 rfl rfl dX6_add_1 ?_
  refine r_callVV 2 hC [(0, x1)] [] rfl vl_X6_67 rfl h0 (by decide) (Nat.le_of_ble_eq_true rfl) (by decide) (by decide) dX6_add_2 (t_X6_addInt x0 x1 M h0) (fun M1 => ?_)
  refine r_aload_n 5 hC 0 rfl (Or.inl (by decide)) rfl dX6_add_5 ?_
  refine r_iload_n 6 hC 2 rfl rfl dX6_add_6 ?_
  refine r_callVV 7 hC [(0, x2)] [] rfl vl_X6_67 rfl h0 (by decide) (Nat.le_of_ble_eq_true rfl) (by decide) (by decide) dX6_add_7 (t_X6_addInt x0 x2 M1 h0) (fun M2 => ?_)
  refine r_aload_n 10 hC 0 rfl (Or.inl (by decide)) rfl dX6_add_10 ?_
  refine r_iload_n 11 hC 3 rfl rfl dX6_add_11 ?_
  refine r_callVV 12 hC [(0, x3)] [] rfl vl_X6_67 rfl h0 (by decide) (Nat.le_of_ble_eq_true rfl) (by decide) (by decide) dX6_add_12 (t_X6_addInt x0 x3 M2 h0) (fun M3 => ?_)
  refine r_aload_n 15 hC 0 rfl (Or.inl (by decide)) rfl dX6_add_15 ?_
  refine r_iload 16 hC 4 rfl dX6_add_16 ?_
  refine r_callVV 18 hC [(0, x4)] [] rfl vl_X6_67 rfl h0 (by decide) (Nat.le_of_ble_eq_true rfl) (by decide) (by decide) dX6_add_18 (t_X6_addInt x0 x4 M3 h0) (fun M4 => ?_)
  refine r_aload_n 21 hC 0 rfl (Or.inl (by decide)) rfl dX6_add_21 ?_
  refine r_iload 22 hC 5 rfl dX6_add_22 ?_
  refine r_callVV 24 hC [(0, x5)] [] rfl vl_X6_67 rfl h0 (by decide) (Nat.le_of_ble_eq_true rfl) (by decide) (by decide) dX6_add_24 (t_X6_addInt x0 x5 M4 h0) (fun M5 => ?_)
  refine r_aload_n 27 hC 0 rfl (Or.inl (by decide)) rfl dX6_add_27 ?_
  refine r_get 28 hC fd_5_6 fl_X6_32 dX6_add_28 (fun v6 => ?_)
  exact r_ireturn 31 hC hq (by decide) (by decide) dX6_add_31

/-! WaterTurns$Tape.skip(I)Z -/
theorem dX6_skip_0 : decode cX6_skip 0 = .ok (.aload_n 0, 1) := by decide +kernel
theorem dX6_skip_1 : decode cX6_skip 1 = .ok (.iload_n 1, 1) := by decide +kernel
theorem dX6_skip_2 : decode cX6_skip 2 = .ok (.invokevirtual 90, 3) := by decide +kernel
theorem dX6_skip_5 : decode cX6_skip 5 = .ok (.ifCond .ne 9, 3) := by decide +kernel
theorem dX6_skip_8 : decode cX6_skip 8 = .ok (.aload_n 0, 1) := by decide +kernel
theorem dX6_skip_9 : decode cX6_skip 9 = .ok (.iconst 2, 1) := by decide +kernel
theorem dX6_skip_10 : decode cX6_skip 10 = .ok (.invokevirtual 94, 3) := by decide +kernel
theorem dX6_skip_13 : decode cX6_skip 13 = .ok (.ireturn, 1) := by decide +kernel
theorem dX6_skip_14 : decode cX6_skip 14 = .ok (.aload_n 0, 1) := by decide +kernel
theorem dX6_skip_15 : decode cX6_skip 15 = .ok (.invokevirtual 77, 3) := by decide +kernel
theorem dX6_skip_18 : decode cX6_skip 18 = .ok (.iconst 1, 1) := by decide +kernel
theorem dX6_skip_19 : decode cX6_skip 19 = .ok (.ireturn, 1) := by decide +kernel
set_option maxRecDepth 100000 in
theorem t_X6_skip (x0 x1 : Int) (M : Mem) (h0 : x0 ≠ 0) : MtI yX6_skip cX6_skip 2 (some .boolean) 3 0 0 [(25, x0), (0, x1)] M 0 (f_X6_skip x0 x1 M) := by
  refine mk_I (by decide +kernel) (Nat.le_of_ble_eq_true rfl) (fun E C r0 M0 hC hq hin => ?_)
  refine r_eqls (ls' := [(0, 25, x0), (1, 0, x1)]) rfl ?_
  unfold f_X6_skip
  refine r_aload_n 0 hC 0 rfl (Or.inl (by decide)) rfl dX6_skip_0 ?_
  refine r_iload_n 1 hC 1 rfl rfl dX6_skip_1 ?_
  refine r_callVP 2 hC [(0, x1)] [] rfl vl_X6_90 rfl h0 (by decide) (Nat.le_of_ble_eq_true rfl) (by decide) (by decide) dX6_skip_2 (t_X6_isAt x0 x1 M h0) (fun v1 => ?_)
  refine r_if_ne 5 hC (tgt := 14) (by decide) dX6_skip_5 ?_ ?_
  · refine r_aload_n 14 hC 0 rfl (Or.inl (by decide)) rfl dX6_skip_14 ?_
    refine r_callVV 15 hC [] [] rfl vl_X6_77 rfl h0 (by decide) (Nat.le_of_ble_eq_true rfl) (by decide) (by decide) dX6_skip_15 (t_X6_step x0 M h0) (fun M2 => ?_)
    refine r_iconst 18 hC (r32c rfl) dX6_skip_18 ?_
    exact r_zreturn 19 hC hq (by decide) (by decide) dX6_skip_19
  · refine r_aload_n 8 hC 0 rfl (Or.inl (by decide)) rfl dX6_skip_8 ?_
    refine r_iconst 9 hC (r32c rfl) dX6_skip_9 ?_
    refine r_callVI 10 hC [(0, 2)] [] rfl vl_X6_94 rfl h0 (by decide) (Nat.le_of_ble_eq_true rfl) (by decide) (by decide) dX6_skip_10 (t_X6_blame x0 2 M h0) (fun v3 M4 => ?_)
    exact r_zreturn 13 hC hq (by decide) (by decide) dX6_skip_13

/-! WaterTurns$Trays.<init>()V -/
theorem dX7_init_0 : decode cX7_init 0 = .ok (.aload_n 0, 1) := by decide +kernel
theorem dX7_init_1 : decode cX7_init 1 = .ok (.invokespecial 3, 3) := by decide +kernel
theorem dX7_init_4 : decode cX7_init 4 = .ok (.aload_n 0, 1) := by decide +kernel
theorem dX7_init_5 : decode cX7_init 5 = .ok (.iconst 4, 1) := by decide +kernel
theorem dX7_init_6 : decode cX7_init 6 = .ok (.bipush 60, 2) := by decide +kernel
theorem dX7_init_8 : decode cX7_init 8 = .ok (.multianewarray 9 2, 4) := by decide +kernel
theorem dX7_init_12 : decode cX7_init 12 = .ok (.putfield 11, 3) := by decide +kernel
theorem dX7_init_15 : decode cX7_init 15 = .ok (.aload_n 0, 1) := by decide +kernel
theorem dX7_init_16 : decode cX7_init 16 = .ok (.iconst 4, 1) := by decide +kernel
theorem dX7_init_17 : decode cX7_init 17 = .ok (.newarray .int, 2) := by decide +kernel
theorem dX7_init_19 : decode cX7_init 19 = .ok (.putfield 16, 3) := by decide +kernel
theorem dX7_init_22 : decode cX7_init 22 = .ok (.aload_n 0, 1) := by decide +kernel
theorem dX7_init_23 : decode cX7_init 23 = .ok (.iconst 4, 1) := by decide +kernel
theorem dX7_init_24 : decode cX7_init 24 = .ok (.newarray .int, 2) := by decide +kernel
theorem dX7_init_26 : decode cX7_init 26 = .ok (.dup, 1) := by decide +kernel
theorem dX7_init_27 : decode cX7_init 27 = .ok (.iconst 0, 1) := by decide +kernel
theorem dX7_init_28 : decode cX7_init 28 = .ok (.iconst (-1), 1) := by decide +kernel
theorem dX7_init_29 : decode cX7_init 29 = .ok (.iastore, 1) := by decide +kernel
theorem dX7_init_30 : decode cX7_init 30 = .ok (.dup, 1) := by decide +kernel
theorem dX7_init_31 : decode cX7_init 31 = .ok (.iconst 1, 1) := by decide +kernel
theorem dX7_init_32 : decode cX7_init 32 = .ok (.iconst (-1), 1) := by decide +kernel
theorem dX7_init_33 : decode cX7_init 33 = .ok (.iastore, 1) := by decide +kernel
theorem dX7_init_34 : decode cX7_init 34 = .ok (.dup, 1) := by decide +kernel
theorem dX7_init_35 : decode cX7_init 35 = .ok (.iconst 2, 1) := by decide +kernel
theorem dX7_init_36 : decode cX7_init 36 = .ok (.iconst (-1), 1) := by decide +kernel
theorem dX7_init_37 : decode cX7_init 37 = .ok (.iastore, 1) := by decide +kernel
theorem dX7_init_38 : decode cX7_init 38 = .ok (.dup, 1) := by decide +kernel
theorem dX7_init_39 : decode cX7_init 39 = .ok (.iconst 3, 1) := by decide +kernel
theorem dX7_init_40 : decode cX7_init 40 = .ok (.iconst (-1), 1) := by decide +kernel
theorem dX7_init_41 : decode cX7_init 41 = .ok (.iastore, 1) := by decide +kernel
theorem dX7_init_42 : decode cX7_init 42 = .ok (.putfield 20, 3) := by decide +kernel
theorem dX7_init_45 : decode cX7_init 45 = .ok (.return_, 1) := by decide +kernel
set_option maxRecDepth 100000 in
theorem t_X7_init (x0 : Int) (M : Mem) (h0 : x0 ≠ 0) : MtV yX7_init cX7_init 1 none 1 7 252 [(26, x0)] M (f_X7_init x0 M) := by
  refine mk_V (by decide +kernel) (Nat.le_of_ble_eq_true rfl) (fun E C M0 hC hq hin => ?_)
  refine r_eqls (ls' := [(0, 26, x0)]) rfl ?_
  unfold f_X7_init
  refine r_aload_n 0 hC 0 rfl (Or.inl (by decide)) rfl dX7_init_0 ?_
  refine r_objinit 1 hC ob_X7_3 obj_i obj_c (by decide) h0 (by decide) (Nat.le_of_ble_eq_true rfl) dX7_init_1 ?_
  refine r_aload_n 4 hC 0 rfl (Or.inl (by decide)) rfl dX7_init_4 ?_
  refine r_iconst 5 hC (r32c rfl) dX7_init_5 ?_
  refine r_bipush 6 hC kb_60 dX7_init_6 ?_
  refine r_newg 8 hC (N := 4) (K := 60) rfl rfl (by decide) (by decide) (by simp) cq_X7_9 nac_11 (by decide) (by decide) dX7_init_8 (fun v1 M2 => ?_)
  refine r_putF 12 hC hin fd_6_0 fl_X7_11 dX7_init_12 (fun M3 => ?_)
  refine r_aload_n 15 hC 0 rfl (Or.inl (by decide)) rfl dX7_init_15 ?_
  refine r_iconst 16 hC (r32c rfl) dX7_init_16 ?_
  refine r_newa 17 hC (N := 4) rfl (by decide) (by decide) (by decide) rfl (fun _ _ => Iff.rfl) nad_10 (fun _ => nao_10) (by decide) nac_10 (by decide) (by decide) dX7_init_17 (fun v4 M5 => ?_)
  refine r_putF 19 hC hin fd_6_1 fl_X7_16 dX7_init_19 (fun M6 => ?_)
  refine r_aload_n 22 hC 0 rfl (Or.inl (by decide)) rfl dX7_init_22 ?_
  refine r_iconst 23 hC (r32c rfl) dX7_init_23 ?_
  refine r_newa 24 hC (N := 4) rfl (by decide) (by decide) (by decide) rfl (fun _ _ => Iff.rfl) nad_10 (fun _ => nao_10) (by decide) nac_10 (by decide) (by decide) dX7_init_24 (fun v7 M8 => ?_)
  refine r_dup 26 hC (by decide) dX7_init_26 ?_
  refine r_iconst 27 hC (r32c rfl) dX7_init_27 ?_
  refine r_iconst 28 hC (r32c rfl) dX7_init_28 ?_
  refine r_iastore 29 hC dX7_init_29 (fun M9 => ?_)
  refine r_dup 30 hC (by decide) dX7_init_30 ?_
  refine r_iconst 31 hC (r32c rfl) dX7_init_31 ?_
  refine r_iconst 32 hC (r32c rfl) dX7_init_32 ?_
  refine r_iastore 33 hC dX7_init_33 (fun M10 => ?_)
  refine r_dup 34 hC (by decide) dX7_init_34 ?_
  refine r_iconst 35 hC (r32c rfl) dX7_init_35 ?_
  refine r_iconst 36 hC (r32c rfl) dX7_init_36 ?_
  refine r_iastore 37 hC dX7_init_37 (fun M11 => ?_)
  refine r_dup 38 hC (by decide) dX7_init_38 ?_
  refine r_iconst 39 hC (r32c rfl) dX7_init_39 ?_
  refine r_iconst 40 hC (r32c rfl) dX7_init_40 ?_
  refine r_iastore 41 hC dX7_init_41 (fun M12 => ?_)
  refine r_putF 42 hC hin fd_6_2 fl_X7_20 dX7_init_42 (fun M13 => ?_)
  exact r_return 45 hC hq (by decide) (by decide) dX7_init_45

/-! WaterTurns$Trays.isTray(I)Z -/
theorem dX7_isTray_0 : decode cX7_isTray 0 = .ok (.iload_n 0, 1) := by decide +kernel
theorem dX7_isTray_1 : decode cX7_isTray 1 = .ok (.ifCond .lt 12, 3) := by decide +kernel
theorem dX7_isTray_4 : decode cX7_isTray 4 = .ok (.iload_n 0, 1) := by decide +kernel
theorem dX7_isTray_5 : decode cX7_isTray 5 = .ok (.iconst 4, 1) := by decide +kernel
theorem dX7_isTray_6 : decode cX7_isTray 6 = .ok (.if_icmp .ge 7, 3) := by decide +kernel
theorem dX7_isTray_9 : decode cX7_isTray 9 = .ok (.iconst 1, 1) := by decide +kernel
theorem dX7_isTray_10 : decode cX7_isTray 10 = .ok (.goto 4, 3) := by decide +kernel
theorem dX7_isTray_13 : decode cX7_isTray 13 = .ok (.iconst 0, 1) := by decide +kernel
theorem dX7_isTray_14 : decode cX7_isTray 14 = .ok (.ireturn, 1) := by decide +kernel
set_option maxRecDepth 100000 in
theorem t_X7_isTray (x0 : Int) (M : Mem) : MtP yX7_isTray cX7_isTray 1 (some .boolean) 1 0 0 [(0, x0)] M 0 (f_X7_isTray x0 M) := by
  refine mk_P (by decide +kernel) (Nat.le_of_ble_eq_true rfl) (fun E C r0 hC hq hin => ?_)
  refine r_eqls (ls' := [(0, 0, x0)]) rfl ?_
  unfold f_X7_isTray
  refine r_iload_n 0 hC 0 rfl rfl dX7_isTray_0 ?_
  refine r_jn (P := fun j14 => ∀ (q1 : Int), Bk E C 1 M r0 14 [] [(0, q1)] M 0 0 (j14 q1)) ?_ (fun j14 hj14 => ?_)
  · intro q1
    exact r_zreturnP 14 hC hq (by decide) (by decide) dX7_isTray_14
  refine r_jn (P := fun j13 => Bk E C 1 M r0 13 [] [] M 0 0 (j13)) ?_ (fun j13 hj13 => ?_)
  · refine r_iconst 13 hC (r32c rfl) dX7_isTray_13 ?_
    exact hj14 0
  refine r_if_lt 1 hC (tgt := 13) (by decide) dX7_isTray_1 ?_ ?_
  · exact r_sub [] rfl (hj13)
  · refine r_iload_n 4 hC 0 rfl rfl dX7_isTray_4 ?_
    refine r_iconst 5 hC (r32c rfl) dX7_isTray_5 ?_
    refine r_icmp_ge 6 hC (tgt := 13) (by decide) dX7_isTray_6 ?_ ?_
    · exact r_sub [] rfl (hj13)
    · refine r_iconst 9 hC (r32c rfl) dX7_isTray_9 ?_
      refine r_goto 10 hC (tgt := 14) (by decide) dX7_isTray_10 ?_
      exact r_sub [] rfl (hj14 1)

/-! WaterTurns$Trays.isMissing(I)Z -/
theorem dX7_isMissing_0 : decode cX7_isMissing 0 = .ok (.aload_n 0, 1) := by decide +kernel
theorem dX7_isMissing_1 : decode cX7_isMissing 1 = .ok (.getfield 20, 3) := by decide +kernel
theorem dX7_isMissing_4 : decode cX7_isMissing 4 = .ok (.iload_n 1, 1) := by decide +kernel
theorem dX7_isMissing_5 : decode cX7_isMissing 5 = .ok (.iaload, 1) := by decide +kernel
theorem dX7_isMissing_6 : decode cX7_isMissing 6 = .ok (.iconst (-1), 1) := by decide +kernel
theorem dX7_isMissing_7 : decode cX7_isMissing 7 = .ok (.if_icmp .ne 7, 3) := by decide +kernel
theorem dX7_isMissing_10 : decode cX7_isMissing 10 = .ok (.iconst 1, 1) := by decide +kernel
theorem dX7_isMissing_11 : decode cX7_isMissing 11 = .ok (.goto 4, 3) := by decide +kernel
theorem dX7_isMissing_14 : decode cX7_isMissing 14 = .ok (.iconst 0, 1) := by decide +kernel
theorem dX7_isMissing_15 : decode cX7_isMissing 15 = .ok (.ireturn, 1) := by decide +kernel
set_option maxRecDepth 100000 in
theorem t_X7_isMissing (x0 x1 : Int) (M : Mem) (h0 : x0 ≠ 0) : MtP yX7_isMissing cX7_isMissing 2 (some .boolean) 1 0 0 [(26, x0), (0, x1)] M 0 (f_X7_isMissing x0 x1 M) := by
  refine mk_P (by decide +kernel) (Nat.le_of_ble_eq_true rfl) (fun E C r0 hC hq hin => ?_)
  refine r_eqls (ls' := [(0, 26, x0), (1, 0, x1)]) rfl ?_
  unfold f_X7_isMissing
  refine r_aload_n 0 hC 0 rfl (Or.inl (by decide)) rfl dX7_isMissing_0 ?_
  refine r_get 1 hC fd_6_2 fl_X7_20 dX7_isMissing_1 (fun v1 => ?_)
  refine r_iload_n 4 hC 1 rfl rfl dX7_isMissing_4 ?_
  refine r_iaload 5 hC dX7_isMissing_5 (fun v2 => ?_)
  refine r_iconst 6 hC (r32c rfl) dX7_isMissing_6 ?_
  refine r_jn (P := fun j15 => ∀ (q3 : Int), Bk E C 2 M r0 15 [] [(0, q3)] M 0 0 (j15 q3)) ?_ (fun j15 hj15 => ?_)
  · intro q3
    exact r_zreturnP 15 hC hq (by decide) (by decide) dX7_isMissing_15
  refine r_icmp_ne 7 hC (tgt := 14) (by decide) dX7_isMissing_7 ?_ ?_
  · refine r_iconst 14 hC (r32c rfl) dX7_isMissing_14 ?_
    exact r_sub [] rfl (hj15 0)
  · refine r_iconst 10 hC (r32c rfl) dX7_isMissing_10 ?_
    refine r_goto 11 hC (tgt := 15) (by decide) dX7_isMissing_11 ?_
    exact r_sub [] rfl (hj15 1)

/-! WaterTurns$Trays.holds(III)Z -/
theorem dX7_holds_0 : decode cX7_holds 0 = .ok (.iload_n 3, 1) := by decide +kernel
theorem dX7_holds_1 : decode cX7_holds 1 = .ok (.aload_n 0, 1) := by decide +kernel
theorem dX7_holds_2 : decode cX7_holds 2 = .ok (.getfield 20, 3) := by decide +kernel
theorem dX7_holds_5 : decode cX7_holds 5 = .ok (.iload_n 1, 1) := by decide +kernel
theorem dX7_holds_6 : decode cX7_holds 6 = .ok (.iaload, 1) := by decide +kernel
theorem dX7_holds_7 : decode cX7_holds 7 = .ok (.if_icmp .gt 19, 3) := by decide +kernel
theorem dX7_holds_10 : decode cX7_holds 10 = .ok (.iload_n 2, 1) := by decide +kernel
theorem dX7_holds_11 : decode cX7_holds 11 = .ok (.aload_n 0, 1) := by decide +kernel
theorem dX7_holds_12 : decode cX7_holds 12 = .ok (.getfield 20, 3) := by decide +kernel
theorem dX7_holds_15 : decode cX7_holds 15 = .ok (.iload_n 1, 1) := by decide +kernel
theorem dX7_holds_16 : decode cX7_holds 16 = .ok (.iaload, 1) := by decide +kernel
theorem dX7_holds_17 : decode cX7_holds 17 = .ok (.iload_n 3, 1) := by decide +kernel
theorem dX7_holds_18 : decode cX7_holds 18 = .ok (.isub, 1) := by decide +kernel
theorem dX7_holds_19 : decode cX7_holds 19 = .ok (.if_icmp .gt 7, 3) := by decide +kernel
theorem dX7_holds_22 : decode cX7_holds 22 = .ok (.iconst 1, 1) := by decide +kernel
theorem dX7_holds_23 : decode cX7_holds 23 = .ok (.goto 4, 3) := by decide +kernel
theorem dX7_holds_26 : decode cX7_holds 26 = .ok (.iconst 0, 1) := by decide +kernel
theorem dX7_holds_27 : decode cX7_holds 27 = .ok (.ireturn, 1) := by decide +kernel
set_option maxRecDepth 100000 in
theorem t_X7_holds (x0 x1 x2 x3 : Int) (M : Mem) (h0 : x0 ≠ 0) : MtP yX7_holds cX7_holds 4 (some .boolean) 1 0 0 [(26, x0), (0, x1), (0, x2), (0, x3)] M 0 (f_X7_holds x0 x1 x2 x3 M) := by
  refine mk_P (by decide +kernel) (Nat.le_of_ble_eq_true rfl) (fun E C r0 hC hq hin => ?_)
  refine r_eqls (ls' := [(0, 26, x0), (1, 0, x1), (2, 0, x2), (3, 0, x3)]) rfl ?_
  unfold f_X7_holds
  refine r_iload_n 0 hC 3 rfl rfl dX7_holds_0 ?_
  refine r_aload_n 1 hC 0 rfl (Or.inl (by decide)) rfl dX7_holds_1 ?_
  refine r_get 2 hC fd_6_2 fl_X7_20 dX7_holds_2 (fun v1 => ?_)
  refine r_iload_n 5 hC 1 rfl rfl dX7_holds_5 ?_
  refine r_iaload 6 hC dX7_holds_6 (fun v2 => ?_)
  refine r_jn (P := fun j27 => ∀ (q3 : Int), Bk E C 4 M r0 27 [] [(0, q3)] M 0 0 (j27 q3)) ?_ (fun j27 hj27 => ?_)
  · intro q3
    exact r_zreturnP 27 hC hq (by decide) (by decide) dX7_holds_27
  refine r_jn (P := fun j26 => Bk E C 4 M r0 26 [] [] M 0 0 (j26)) ?_ (fun j26 hj26 => ?_)
  · refine r_iconst 26 hC (r32c rfl) dX7_holds_26 ?_
    exact hj27 0
  refine r_icmp_gt 7 hC (tgt := 26) (by decide) dX7_holds_7 ?_ ?_
  · exact r_sub [] rfl (hj26)
  · refine r_iload_n 10 hC 2 rfl rfl dX7_holds_10 ?_
    refine r_aload_n 11 hC 0 rfl (Or.inl (by decide)) rfl dX7_holds_11 ?_
    refine r_get 12 hC fd_6_2 fl_X7_20 dX7_holds_12 (fun v4 => ?_)
    refine r_iload_n 15 hC 1 rfl rfl dX7_holds_15 ?_
    refine r_iaload 16 hC dX7_holds_16 (fun v5 => ?_)
    refine r_iload_n 17 hC 3 rfl rfl dX7_holds_17 ?_
    refine r_isub 18 hC dX7_holds_18 ?_
    refine r_icmp_gt 19 hC (tgt := 26) (by decide) dX7_holds_19 ?_ ?_
    · exact r_sub [] rfl (hj26)
    · refine r_iconst 22 hC (r32c rfl) dX7_holds_22 ?_
      refine r_goto 23 hC (tgt := 27) (by decide) dX7_holds_23 ?_
      exact r_sub [] rfl (hj27 1)

/-! WaterTurns$Trays.lay(III)V -/
theorem dX7_lay_0 : decode cX7_lay 0 = .ok (.aload_n 0, 1) := by decide +kernel
theorem dX7_lay_1 : decode cX7_lay 1 = .ok (.getfield 16, 3) := by decide +kernel
theorem dX7_lay_4 : decode cX7_lay 4 = .ok (.iload_n 1, 1) := by decide +kernel
theorem dX7_lay_5 : decode cX7_lay 5 = .ok (.iload_n 2, 1) := by decide +kernel
theorem dX7_lay_6 : decode cX7_lay 6 = .ok (.iastore, 1) := by decide +kernel
theorem dX7_lay_7 : decode cX7_lay 7 = .ok (.aload_n 0, 1) := by decide +kernel
theorem dX7_lay_8 : decode cX7_lay 8 = .ok (.getfield 20, 3) := by decide +kernel
theorem dX7_lay_11 : decode cX7_lay 11 = .ok (.iload_n 1, 1) := by decide +kernel
theorem dX7_lay_12 : decode cX7_lay 12 = .ok (.iload_n 3, 1) := by decide +kernel
theorem dX7_lay_13 : decode cX7_lay 13 = .ok (.iastore, 1) := by decide +kernel
theorem dX7_lay_14 : decode cX7_lay 14 = .ok (.aload_n 0, 1) := by decide +kernel
theorem dX7_lay_15 : decode cX7_lay 15 = .ok (.getfield 11, 3) := by decide +kernel
theorem dX7_lay_18 : decode cX7_lay 18 = .ok (.iload_n 1, 1) := by decide +kernel
theorem dX7_lay_19 : decode cX7_lay 19 = .ok (.aaload, 1) := by decide +kernel
theorem dX7_lay_20 : decode cX7_lay 20 = .ok (.lconst 0, 1) := by decide +kernel
theorem dX7_lay_21 : decode cX7_lay 21 = .ok (.invokestatic 23, 3) := by decide +kernel
theorem dX7_lay_24 : decode cX7_lay 24 = .ok (.return_, 1) := by decide +kernel
set_option maxRecDepth 100000 in
theorem t_X7_lay (x0 x1 x2 x3 : Int) (M : Mem) (h0 : x0 ≠ 0) : MtV yX7_lay cX7_lay 4 none 2 0 0 [(26, x0), (0, x1), (0, x2), (0, x3)] M (f_X7_lay x0 x1 x2 x3 M) := by
  refine mk_V (by decide +kernel) (Nat.le_of_ble_eq_true rfl) (fun E C M0 hC hq hin => ?_)
  refine r_eqls (ls' := [(0, 26, x0), (1, 0, x1), (2, 0, x2), (3, 0, x3)]) rfl ?_
  unfold f_X7_lay
  refine r_aload_n 0 hC 0 rfl (Or.inl (by decide)) rfl dX7_lay_0 ?_
  refine r_get 1 hC fd_6_1 fl_X7_16 dX7_lay_1 (fun v1 => ?_)
  refine r_iload_n 4 hC 1 rfl rfl dX7_lay_4 ?_
  refine r_iload_n 5 hC 2 rfl rfl dX7_lay_5 ?_
  refine r_iastore 6 hC dX7_lay_6 (fun M2 => ?_)
  refine r_aload_n 7 hC 0 rfl (Or.inl (by decide)) rfl dX7_lay_7 ?_
  refine r_get 8 hC fd_6_2 fl_X7_20 dX7_lay_8 (fun v3 => ?_)
  refine r_iload_n 11 hC 1 rfl rfl dX7_lay_11 ?_
  refine r_iload_n 12 hC 3 rfl rfl dX7_lay_12 ?_
  refine r_iastore 13 hC dX7_lay_13 (fun M4 => ?_)
  refine r_aload_n 14 hC 0 rfl (Or.inl (by decide)) rfl dX7_lay_14 ?_
  refine r_get 15 hC fd_6_0 fl_X7_11 dX7_lay_15 (fun v5 => ?_)
  refine r_iload_n 18 hC 1 rfl rfl dX7_lay_18 ?_
  refine r_aaloadL 19 hC dX7_lay_19 (fun v6 => ?_)
  refine r_lconst 20 hC (x := 0) ⟨by decide +kernel, r64c rfl⟩ dX7_lay_20 ?_
  refine r_callSV 21 hC [(11, v6), (1, 0)] [] rfl sl_X7_23 rfl (by decide) (Nat.le_of_ble_eq_true rfl) (by decide) (by decide) dX7_lay_21 (t_J7_fill_d0a16 v6 0 M4) (fun M7 => ?_)
  exact r_return 24 hC hq (by decide) (by decide) dX7_lay_24

/-! WaterTurns$Trays.put(IIJ)V -/
theorem dX7_put_0 : decode cX7_put 0 = .ok (.lload_n 3, 1) := by decide +kernel
theorem dX7_put_1 : decode cX7_put 1 = .ok (.lstore 5, 2) := by decide +kernel
theorem dX7_put_3 : decode cX7_put 3 = .ok (.aload_n 0, 1) := by decide +kernel
theorem dX7_put_4 : decode cX7_put 4 = .ok (.getfield 16, 3) := by decide +kernel
theorem dX7_put_7 : decode cX7_put 7 = .ok (.iload_n 1, 1) := by decide +kernel
theorem dX7_put_8 : decode cX7_put 8 = .ok (.iaload, 1) := by decide +kernel
theorem dX7_put_9 : decode cX7_put 9 = .ok (.ifCond .ne 12, 3) := by decide +kernel
theorem dX7_put_12 : decode cX7_put 12 = .ok (.lload_n 3, 1) := by decide +kernel
theorem dX7_put_13 : decode cX7_put 13 = .ok (.l2i, 1) := by decide +kernel
theorem dX7_put_14 : decode cX7_put 14 = .ok (.i2b, 1) := by decide +kernel
theorem dX7_put_15 : decode cX7_put 15 = .ok (.i2l, 1) := by decide +kernel
theorem dX7_put_16 : decode cX7_put 16 = .ok (.lstore 5, 2) := by decide +kernel
theorem dX7_put_18 : decode cX7_put 18 = .ok (.goto 37, 3) := by decide +kernel
theorem dX7_put_21 : decode cX7_put 21 = .ok (.aload_n 0, 1) := by decide +kernel
theorem dX7_put_22 : decode cX7_put 22 = .ok (.getfield 16, 3) := by decide +kernel
theorem dX7_put_25 : decode cX7_put 25 = .ok (.iload_n 1, 1) := by decide +kernel
theorem dX7_put_26 : decode cX7_put 26 = .ok (.iaload, 1) := by decide +kernel
theorem dX7_put_27 : decode cX7_put 27 = .ok (.iconst 1, 1) := by decide +kernel
theorem dX7_put_28 : decode cX7_put 28 = .ok (.if_icmp .ne 12, 3) := by decide +kernel
theorem dX7_put_31 : decode cX7_put 31 = .ok (.lload_n 3, 1) := by decide +kernel
theorem dX7_put_32 : decode cX7_put 32 = .ok (.l2i, 1) := by decide +kernel
theorem dX7_put_33 : decode cX7_put 33 = .ok (.i2s, 1) := by decide +kernel
theorem dX7_put_34 : decode cX7_put 34 = .ok (.i2l, 1) := by decide +kernel
theorem dX7_put_35 : decode cX7_put 35 = .ok (.lstore 5, 2) := by decide +kernel
theorem dX7_put_37 : decode cX7_put 37 = .ok (.goto 18, 3) := by decide +kernel
theorem dX7_put_40 : decode cX7_put 40 = .ok (.aload_n 0, 1) := by decide +kernel
theorem dX7_put_41 : decode cX7_put 41 = .ok (.getfield 16, 3) := by decide +kernel
theorem dX7_put_44 : decode cX7_put 44 = .ok (.iload_n 1, 1) := by decide +kernel
theorem dX7_put_45 : decode cX7_put 45 = .ok (.iaload, 1) := by decide +kernel
theorem dX7_put_46 : decode cX7_put 46 = .ok (.iconst 2, 1) := by decide +kernel
theorem dX7_put_47 : decode cX7_put 47 = .ok (.if_icmp .ne 8, 3) := by decide +kernel
theorem dX7_put_50 : decode cX7_put 50 = .ok (.lload_n 3, 1) := by decide +kernel
theorem dX7_put_51 : decode cX7_put 51 = .ok (.l2i, 1) := by decide +kernel
theorem dX7_put_52 : decode cX7_put 52 = .ok (.i2l, 1) := by decide +kernel
theorem dX7_put_53 : decode cX7_put 53 = .ok (.lstore 5, 2) := by decide +kernel
theorem dX7_put_55 : decode cX7_put 55 = .ok (.aload_n 0, 1) := by decide +kernel
theorem dX7_put_56 : decode cX7_put 56 = .ok (.getfield 11, 3) := by decide +kernel
theorem dX7_put_59 : decode cX7_put 59 = .ok (.iload_n 1, 1) := by decide +kernel
theorem dX7_put_60 : decode cX7_put 60 = .ok (.aaload, 1) := by decide +kernel
theorem dX7_put_61 : decode cX7_put 61 = .ok (.iload_n 2, 1) := by decide +kernel
theorem dX7_put_62 : decode cX7_put 62 = .ok (.lload 5, 2) := by decide +kernel
theorem dX7_put_64 : decode cX7_put 64 = .ok (.lastore, 1) := by decide +kernel
theorem dX7_put_65 : decode cX7_put 65 = .ok (.return_, 1) := by decide +kernel
set_option maxRecDepth 100000 in
theorem t_X7_put (x0 x1 x2 x3 : Int) (M : Mem) (h0 : x0 ≠ 0) : MtV yX7_put cX7_put 7 none 1 0 0 [(26, x0), (0, x1), (0, x2), (1, x3)] M (f_X7_put x0 x1 x2 x3 M) := by
  refine mk_V (by decide +kernel) (Nat.le_of_ble_eq_true rfl) (fun E C M0 hC hq hin => ?_)
  refine r_eqls (ls' := [(0, 26, x0), (1, 0, x1), (2, 0, x2), (3, 1, x3)]) rfl ?_
  unfold f_X7_put
  refine r_lload_n 0 hC 3 rfl rfl dX7_put_0 ?_
  refine r_lstore 1 hC (by decide) dX7_put_1 (r_eqls (ls' := [(5, 1, x3), (0, 26, x0), (1, 0, x1), (2, 0, x2), (3, 1, x3)]) rfl ?_)
  refine r_aload_n 3 hC 1 rfl (Or.inl (by decide)) rfl dX7_put_3 ?_
  refine r_get 4 hC fd_6_1 fl_X7_16 dX7_put_4 (fun v1 => ?_)
  refine r_iload_n 7 hC 2 rfl rfl dX7_put_7 ?_
  refine r_iaload 8 hC dX7_put_8 (fun v2 => ?_)
  refine r_jn (P := fun j55 => ∀ (q3 : Int), Bk E C 7 M M0 55 [(0, 26, x0), (1, 0, x1), (2, 0, x2), (5, 1, q3)] [] M 0 0 (j55 q3)) ?_ (fun j55 hj55 => ?_)
  · intro q3
    refine r_aload_n 55 hC 0 rfl (Or.inl (by decide)) rfl dX7_put_55 ?_
    refine r_get 56 hC fd_6_0 fl_X7_11 dX7_put_56 (fun v4 => ?_)
    refine r_iload_n 59 hC 1 rfl rfl dX7_put_59 ?_
    refine r_aaloadL 60 hC dX7_put_60 (fun v5 => ?_)
    refine r_iload_n 61 hC 2 rfl rfl dX7_put_61 ?_
    refine r_lload 62 hC 3 rfl dX7_put_62 ?_
    refine r_lastore 64 hC dX7_put_64 (fun M6 => ?_)
    exact r_return 65 hC hq (by decide) (by decide) dX7_put_65
  refine r_if_ne 9 hC (tgt := 21) (by decide) dX7_put_9 ?_ ?_
  · refine r_aload_n 21 hC 1 rfl (Or.inl (by decide)) rfl dX7_put_21 ?_
    refine r_get 22 hC fd_6_1 fl_X7_16 dX7_put_22 (fun v7 => ?_)
    refine r_iload_n 25 hC 2 rfl rfl dX7_put_25 ?_
    refine r_iaload 26 hC dX7_put_26 (fun v8 => ?_)
    refine r_iconst 27 hC (r32c rfl) dX7_put_27 ?_
    refine r_icmp_ne 28 hC (tgt := 40) (by decide) dX7_put_28 ?_ ?_
    · refine r_aload_n 40 hC 1 rfl (Or.inl (by decide)) rfl dX7_put_40 ?_
      refine r_get 41 hC fd_6_1 fl_X7_16 dX7_put_41 (fun v9 => ?_)
      refine r_iload_n 44 hC 2 rfl rfl dX7_put_44 ?_
      refine r_iaload 45 hC dX7_put_45 (fun v10 => ?_)
      refine r_iconst 46 hC (r32c rfl) dX7_put_46 ?_
      refine r_icmp_ne 47 hC (tgt := 55) (by decide) dX7_put_47 ?_ ?_
      · exact r_sub [1, 2, 3, 0] rfl (hj55 x3)
      · refine r_lload_n 50 hC 4 rfl rfl dX7_put_50 ?_
        refine r_l2i 51 hC dX7_put_51 ?_
        refine r_i2l 52 hC dX7_put_52 ?_
        refine r_lstoreL 53 hC (by decide) dX7_put_53 (fun v11 => r_eqls (ls' := [(5, 1, v11), (0, 26, x0), (1, 0, x1), (2, 0, x2), (3, 1, x3)]) rfl ?_)
        exact r_sub [1, 2, 3, 0] rfl (hj55 v11)
    · refine r_lload_n 31 hC 4 rfl rfl dX7_put_31 ?_
      refine r_l2i 32 hC dX7_put_32 ?_
      refine r_i2s 33 hC dX7_put_33 ?_
      refine r_i2l 34 hC dX7_put_34 ?_
      refine r_lstoreL 35 hC (by decide) dX7_put_35 (fun v12 => r_eqls (ls' := [(5, 1, v12), (0, 26, x0), (1, 0, x1), (2, 0, x2), (3, 1, x3)]) rfl ?_)
      refine r_goto 37 hC (tgt := 55) (by decide) dX7_put_37 ?_
      exact r_sub [1, 2, 3, 0] rfl (hj55 v12)
  · refine r_lload_n 12 hC 4 rfl rfl dX7_put_12 ?_
    refine r_l2i 13 hC dX7_put_13 ?_
    refine r_i2b 14 hC dX7_put_14 ?_
    refine r_i2l 15 hC dX7_put_15 ?_
    refine r_lstoreL 16 hC (by decide) dX7_put_16 (fun v13 => r_eqls (ls' := [(5, 1, v13), (0, 26, x0), (1, 0, x1), (2, 0, x2), (3, 1, x3)]) rfl ?_)
    refine r_goto 18 hC (tgt := 55) (by decide) dX7_put_18 ?_
    exact r_sub [1, 2, 3, 0] rfl (hj55 v13)

/-! WaterTurns$Trays.whyNoPlace(II)I -/
theorem dX7_whyNoPlace_0 : decode cX7_whyNoPlace 0 = .ok (.iload_n 1, 1) := by decide +kernel
theorem dX7_whyNoPlace_1 : decode cX7_whyNoPlace 1 = .ok (.invokestatic 29, 3) := by decide +kernel
theorem dX7_whyNoPlace_4 : decode cX7_whyNoPlace 4 = .ok (.ifCond .ne 5, 3) := by decide +kernel
theorem dX7_whyNoPlace_7 : decode cX7_whyNoPlace 7 = .ok (.iconst 1, 1) := by decide +kernel
theorem dX7_whyNoPlace_8 : decode cX7_whyNoPlace 8 = .ok (.ireturn, 1) := by decide +kernel
theorem dX7_whyNoPlace_9 : decode cX7_whyNoPlace 9 = .ok (.aload_n 0, 1) := by decide +kernel
theorem dX7_whyNoPlace_10 : decode cX7_whyNoPlace 10 = .ok (.iload_n 1, 1) := by decide +kernel
theorem dX7_whyNoPlace_11 : decode cX7_whyNoPlace 11 = .ok (.invokevirtual 33, 3) := by decide +kernel
theorem dX7_whyNoPlace_14 : decode cX7_whyNoPlace 14 = .ok (.ifCond .eq 5, 3) := by decide +kernel
theorem dX7_whyNoPlace_17 : decode cX7_whyNoPlace 17 = .ok (.iconst 2, 1) := by decide +kernel
theorem dX7_whyNoPlace_18 : decode cX7_whyNoPlace 18 = .ok (.ireturn, 1) := by decide +kernel
theorem dX7_whyNoPlace_19 : decode cX7_whyNoPlace 19 = .ok (.iload_n 2, 1) := by decide +kernel
theorem dX7_whyNoPlace_20 : decode cX7_whyNoPlace 20 = .ok (.ifCond .lt 17, 3) := by decide +kernel
theorem dX7_whyNoPlace_23 : decode cX7_whyNoPlace 23 = .ok (.iload_n 2, 1) := by decide +kernel
theorem dX7_whyNoPlace_24 : decode cX7_whyNoPlace 24 = .ok (.aload_n 0, 1) := by decide +kernel
theorem dX7_whyNoPlace_25 : decode cX7_whyNoPlace 25 = .ok (.getfield 20, 3) := by decide +kernel
theorem dX7_whyNoPlace_28 : decode cX7_whyNoPlace 28 = .ok (.iload_n 1, 1) := by decide +kernel
theorem dX7_whyNoPlace_29 : decode cX7_whyNoPlace 29 = .ok (.iaload, 1) := by decide +kernel
theorem dX7_whyNoPlace_30 : decode cX7_whyNoPlace 30 = .ok (.if_icmp .ge 7, 3) := by decide +kernel
theorem dX7_whyNoPlace_33 : decode cX7_whyNoPlace 33 = .ok (.iconst 0, 1) := by decide +kernel
theorem dX7_whyNoPlace_34 : decode cX7_whyNoPlace 34 = .ok (.goto 4, 3) := by decide +kernel
theorem dX7_whyNoPlace_37 : decode cX7_whyNoPlace 37 = .ok (.iconst 3, 1) := by decide +kernel
theorem dX7_whyNoPlace_38 : decode cX7_whyNoPlace 38 = .ok (.ireturn, 1) := by decide +kernel
set_option maxRecDepth 100000 in
theorem t_X7_whyNoPlace (x0 x1 x2 : Int) (M : Mem) (h0 : x0 ≠ 0) : MtP yX7_whyNoPlace cX7_whyNoPlace 3 (some .int) 2 0 0 [(26, x0), (0, x1), (0, x2)] M 0 (f_X7_whyNoPlace x0 x1 x2 M) := by
  refine mk_P (by decide +kernel) (Nat.le_of_ble_eq_true rfl) (fun E C r0 hC hq hin => ?_)
  refine r_eqls (ls' := [(0, 26, x0), (1, 0, x1), (2, 0, x2)]) rfl ?_
  unfold f_X7_whyNoPlace
  refine r_iload_n 0 hC 1 rfl rfl dX7_whyNoPlace_0 ?_
  refine r_callSP 1 hC [(0, x1)] [] rfl sl_X7_29 rfl (by decide) (Nat.le_of_ble_eq_true rfl) (by decide) (by decide) dX7_whyNoPlace_1 (t_X7_isTray x1 M) (fun v1 => ?_)
  refine r_if_ne 4 hC (tgt := 9) (by decide) dX7_whyNoPlace_4 ?_ ?_
  · refine r_aload_n 9 hC 0 rfl (Or.inl (by decide)) rfl dX7_whyNoPlace_9 ?_
    refine r_iload_n 10 hC 1 rfl rfl dX7_whyNoPlace_10 ?_
    refine r_callVP 11 hC [(0, x1)] [] rfl vl_X7_33 rfl h0 (by decide) (Nat.le_of_ble_eq_true rfl) (by decide) (by decide) dX7_whyNoPlace_11 (t_X7_isMissing x0 x1 M h0) (fun v2 => ?_)
    refine r_if_eq 14 hC (tgt := 19) (by decide) dX7_whyNoPlace_14 ?_ ?_
    · refine r_iload_n 19 hC 2 rfl rfl dX7_whyNoPlace_19 ?_
      refine r_jn (P := fun j38 => ∀ (q3 : Int), Bk E C 3 M r0 38 [] [(0, q3)] M 0 0 (j38 q3)) ?_ (fun j38 hj38 => ?_)
      · intro q3
        exact r_ireturnP 38 hC hq (by decide) (by decide) dX7_whyNoPlace_38
      refine r_jn (P := fun j37 => Bk E C 3 M r0 37 [] [] M 0 0 (j37)) ?_ (fun j37 hj37 => ?_)
      · refine r_iconst 37 hC (r32c rfl) dX7_whyNoPlace_37 ?_
        exact hj38 3
      refine r_if_lt 20 hC (tgt := 37) (by decide) dX7_whyNoPlace_20 ?_ ?_
      · exact r_sub [] rfl (hj37)
      · refine r_iload_n 23 hC 2 rfl rfl dX7_whyNoPlace_23 ?_
        refine r_aload_n 24 hC 0 rfl (Or.inl (by decide)) rfl dX7_whyNoPlace_24 ?_
        refine r_get 25 hC fd_6_2 fl_X7_20 dX7_whyNoPlace_25 (fun v4 => ?_)
        refine r_iload_n 28 hC 1 rfl rfl dX7_whyNoPlace_28 ?_
        refine r_iaload 29 hC dX7_whyNoPlace_29 (fun v5 => ?_)
        refine r_icmp_ge 30 hC (tgt := 37) (by decide) dX7_whyNoPlace_30 ?_ ?_
        · exact r_sub [] rfl (hj37)
        · refine r_iconst 33 hC (r32c rfl) dX7_whyNoPlace_33 ?_
          refine r_goto 34 hC (tgt := 38) (by decide) dX7_whyNoPlace_34 ?_
          exact r_sub [] rfl (hj38 0)
    · refine r_iconst 17 hC (r32c rfl) dX7_whyNoPlace_17 ?_
      exact r_ireturnP 18 hC hq (by decide) (by decide) dX7_whyNoPlace_18
  · refine r_iconst 7 hC (r32c rfl) dX7_whyNoPlace_7 ?_
    exact r_ireturnP 8 hC hq (by decide) (by decide) dX7_whyNoPlace_8

/-! WaterTurns$Trays.whyNoGauge(III)I -/
theorem dX7_whyNoGauge_0 : decode cX7_whyNoGauge 0 = .ok (.iload_n 1, 1) := by decide +kernel
theorem dX7_whyNoGauge_1 : decode cX7_whyNoGauge 1 = .ok (.invokestatic 29, 3) := by decide +kernel
theorem dX7_whyNoGauge_4 : decode cX7_whyNoGauge 4 = .ok (.ifCond .ne 5, 3) := by decide +kernel
theorem dX7_whyNoGauge_7 : decode cX7_whyNoGauge 7 = .ok (.iconst 1, 1) := by decide +kernel
theorem dX7_whyNoGauge_8 : decode cX7_whyNoGauge 8 = .ok (.ireturn, 1) := by decide +kernel
theorem dX7_whyNoGauge_9 : decode cX7_whyNoGauge 9 = .ok (.aload_n 0, 1) := by decide +kernel
theorem dX7_whyNoGauge_10 : decode cX7_whyNoGauge 10 = .ok (.iload_n 1, 1) := by decide +kernel
theorem dX7_whyNoGauge_11 : decode cX7_whyNoGauge 11 = .ok (.invokevirtual 33, 3) := by decide +kernel
theorem dX7_whyNoGauge_14 : decode cX7_whyNoGauge 14 = .ok (.ifCond .eq 5, 3) := by decide +kernel
theorem dX7_whyNoGauge_17 : decode cX7_whyNoGauge 17 = .ok (.iconst 2, 1) := by decide +kernel
theorem dX7_whyNoGauge_18 : decode cX7_whyNoGauge 18 = .ok (.ireturn, 1) := by decide +kernel
theorem dX7_whyNoGauge_19 : decode cX7_whyNoGauge 19 = .ok (.iload_n 2, 1) := by decide +kernel
theorem dX7_whyNoGauge_20 : decode cX7_whyNoGauge 20 = .ok (.aload_n 0, 1) := by decide +kernel
theorem dX7_whyNoGauge_21 : decode cX7_whyNoGauge 21 = .ok (.getfield 20, 3) := by decide +kernel
theorem dX7_whyNoGauge_24 : decode cX7_whyNoGauge 24 = .ok (.iload_n 1, 1) := by decide +kernel
theorem dX7_whyNoGauge_25 : decode cX7_whyNoGauge 25 = .ok (.iaload, 1) := by decide +kernel
theorem dX7_whyNoGauge_26 : decode cX7_whyNoGauge 26 = .ok (.if_icmp .le 5, 3) := by decide +kernel
theorem dX7_whyNoGauge_29 : decode cX7_whyNoGauge 29 = .ok (.iconst 3, 1) := by decide +kernel
theorem dX7_whyNoGauge_30 : decode cX7_whyNoGauge 30 = .ok (.ireturn, 1) := by decide +kernel
theorem dX7_whyNoGauge_31 : decode cX7_whyNoGauge 31 = .ok (.iconst 0, 1) := by decide +kernel
theorem dX7_whyNoGauge_32 : decode cX7_whyNoGauge 32 = .ok (.istore 4, 2) := by decide +kernel
theorem dX7_whyNoGauge_34 : decode cX7_whyNoGauge 34 = .ok (.iload 4, 2) := by decide +kernel
theorem dX7_whyNoGauge_36 : decode cX7_whyNoGauge 36 = .ok (.iload_n 2, 1) := by decide +kernel
theorem dX7_whyNoGauge_37 : decode cX7_whyNoGauge 37 = .ok (.if_icmp .ge 42, 3) := by decide +kernel
theorem dX7_whyNoGauge_40 : decode cX7_whyNoGauge 40 = .ok (.aload_n 0, 1) := by decide +kernel
theorem dX7_whyNoGauge_41 : decode cX7_whyNoGauge 41 = .ok (.getfield 11, 3) := by decide +kernel
theorem dX7_whyNoGauge_44 : decode cX7_whyNoGauge 44 = .ok (.iload_n 1, 1) := by decide +kernel
theorem dX7_whyNoGauge_45 : decode cX7_whyNoGauge 45 = .ok (.aaload, 1) := by decide +kernel
theorem dX7_whyNoGauge_46 : decode cX7_whyNoGauge 46 = .ok (.iload 4, 2) := by decide +kernel
theorem dX7_whyNoGauge_48 : decode cX7_whyNoGauge 48 = .ok (.laload, 1) := by decide +kernel
theorem dX7_whyNoGauge_49 : decode cX7_whyNoGauge 49 = .ok (.ldc2_w 36, 3) := by decide +kernel
theorem dX7_whyNoGauge_52 : decode cX7_whyNoGauge 52 = .ok (.lcmp, 1) := by decide +kernel
theorem dX7_whyNoGauge_53 : decode cX7_whyNoGauge 53 = .ok (.ifCond .lt 18, 3) := by decide +kernel
theorem dX7_whyNoGauge_56 : decode cX7_whyNoGauge 56 = .ok (.aload_n 0, 1) := by decide +kernel
theorem dX7_whyNoGauge_57 : decode cX7_whyNoGauge 57 = .ok (.getfield 11, 3) := by decide +kernel
theorem dX7_whyNoGauge_60 : decode cX7_whyNoGauge 60 = .ok (.iload_n 1, 1) := by decide +kernel
theorem dX7_whyNoGauge_61 : decode cX7_whyNoGauge 61 = .ok (.aaload, 1) := by decide +kernel
theorem dX7_whyNoGauge_62 : decode cX7_whyNoGauge 62 = .ok (.iload 4, 2) := by decide +kernel
theorem dX7_whyNoGauge_64 : decode cX7_whyNoGauge 64 = .ok (.laload, 1) := by decide +kernel
theorem dX7_whyNoGauge_65 : decode cX7_whyNoGauge 65 = .ok (.iload_n 3, 1) := by decide +kernel
theorem dX7_whyNoGauge_66 : decode cX7_whyNoGauge 66 = .ok (.i2l, 1) := by decide +kernel
theorem dX7_whyNoGauge_67 : decode cX7_whyNoGauge 67 = .ok (.lcmp, 1) := by decide +kernel
theorem dX7_whyNoGauge_68 : decode cX7_whyNoGauge 68 = .ok (.ifCond .le 5, 3) := by decide +kernel
theorem dX7_whyNoGauge_71 : decode cX7_whyNoGauge 71 = .ok (.iconst 5, 1) := by decide +kernel
theorem dX7_whyNoGauge_72 : decode cX7_whyNoGauge 72 = .ok (.ireturn, 1) := by decide +kernel
theorem dX7_whyNoGauge_73 : decode cX7_whyNoGauge 73 = .ok (.iinc 4 1, 3) := by decide +kernel
theorem dX7_whyNoGauge_76 : decode cX7_whyNoGauge 76 = .ok (.goto (-42), 3) := by decide +kernel
theorem dX7_whyNoGauge_79 : decode cX7_whyNoGauge 79 = .ok (.iconst 0, 1) := by decide +kernel
theorem dX7_whyNoGauge_80 : decode cX7_whyNoGauge 80 = .ok (.ireturn, 1) := by decide +kernel
set_option maxRecDepth 100000 in
theorem f_X7_whyNoGauge_L34_ok {E : EnvT} {C : Cx} {Mi M : Mem} {x0 : Int} (h0 : x0 ≠ 0) (hC : CxOK E C cX7_whyNoGauge 5 yX7_whyNoGauge.cls 2 0 0) {r0 : Int} (hq : RQ E C 0 0 Mi (some .int) (some (0, r0)) M) {x1 x2 x3 : Int} {k1 : Option (Int)} {k2 : Option (Int)} (hk1 : Bk E C 5 Mi r0 79 [] [] M 0 0 (k1)) (hk2 : Bk E C 5 Mi r0 71 [] [] M 0 0 (k2)) : ∀ (n : Nat) (p5 : Int), Bk E C 5 Mi r0 34 [(0, 26, x0), (1, 0, x1), (2, 0, x2), (3, 0, x3), (4, 0, p5)] [] M 0 0 (f_X7_whyNoGauge_L34 M x0 x1 x2 x3 k1 k2 n p5) := by
  intro n
  induction n with
  | zero =>
    intro p5
    exact r_none
  | succ n ih =>
    intro p5
    rw [f_X7_whyNoGauge_L34]
    refine r_iload 34 hC 4 rfl dX7_whyNoGauge_34 ?_
    refine r_iload_n 36 hC 2 rfl rfl dX7_whyNoGauge_36 ?_
    refine r_icmp_ge 37 hC (tgt := 79) (by decide) dX7_whyNoGauge_37 ?_ ?_
    · exact r_sub [] rfl (hk1)
    · refine r_aload_n 40 hC 0 rfl (Or.inl (by decide)) rfl dX7_whyNoGauge_40 ?_
      refine r_get 41 hC fd_6_0 fl_X7_11 dX7_whyNoGauge_41 (fun v6 => ?_)
      refine r_iload_n 44 hC 1 rfl rfl dX7_whyNoGauge_44 ?_
      refine r_aaloadL 45 hC dX7_whyNoGauge_45 (fun v7 => ?_)
      refine r_iload 46 hC 4 rfl dX7_whyNoGauge_46 ?_
      refine r_laload 48 hC dX7_whyNoGauge_48 (fun v8 => ?_)
      refine r_ldc2 49 hC (x := (-1)) kl_X7_36 ⟨by decide +kernel, r64c rfl⟩ dX7_whyNoGauge_49 ?_
      refine r_lcmp_lt 52 hC (tgt := 71) (by decide) dX7_whyNoGauge_52 dX7_whyNoGauge_53 ?_ ?_
      · exact r_sub [] rfl (hk2)
      · refine r_aload_n 56 hC 0 rfl (Or.inl (by decide)) rfl dX7_whyNoGauge_56 ?_
        refine r_get 57 hC fd_6_0 fl_X7_11 dX7_whyNoGauge_57 (fun v9 => ?_)
        refine r_iload_n 60 hC 1 rfl rfl dX7_whyNoGauge_60 ?_
        refine r_aaloadL 61 hC dX7_whyNoGauge_61 (fun v10 => ?_)
        refine r_iload 62 hC 4 rfl dX7_whyNoGauge_62 ?_
        refine r_laload 64 hC dX7_whyNoGauge_64 (fun v11 => ?_)
        refine r_iload_n 65 hC 3 rfl rfl dX7_whyNoGauge_65 ?_
        refine r_i2l 66 hC dX7_whyNoGauge_66 ?_
        refine r_lcmp_le 67 hC (tgt := 73) (by decide) dX7_whyNoGauge_67 dX7_whyNoGauge_68 ?_ ?_
        · refine r_iinc 73 hC 4 rfl (by decide) dX7_whyNoGauge_73 (r_eqls (ls' := [(4, 0, w32 (p5 + 1)), (0, 26, x0), (1, 0, x1), (2, 0, x2), (3, 0, x3)]) rfl ?_)
          refine r_goto 76 hC (tgt := 34) (by decide) dX7_whyNoGauge_76 ?_
          exact r_sub [1, 2, 3, 4, 0] rfl (ih (w32 (p5 + 1)))
        · exact r_sub [] rfl (hk2)
set_option maxRecDepth 100000 in
theorem t_X7_whyNoGauge (x0 x1 x2 x3 : Int) (M : Mem) (h0 : x0 ≠ 0) : MtP yX7_whyNoGauge cX7_whyNoGauge 5 (some .int) 2 0 0 [(26, x0), (0, x1), (0, x2), (0, x3)] M 0 (f_X7_whyNoGauge x0 x1 x2 x3 M) := by
  refine mk_P (by decide +kernel) (Nat.le_of_ble_eq_true rfl) (fun E C r0 hC hq hin => ?_)
  refine r_eqls (ls' := [(0, 26, x0), (1, 0, x1), (2, 0, x2), (3, 0, x3)]) rfl ?_
  unfold f_X7_whyNoGauge
  refine r_iload_n 0 hC 1 rfl rfl dX7_whyNoGauge_0 ?_
  refine r_callSP 1 hC [(0, x1)] [] rfl sl_X7_29 rfl (by decide) (Nat.le_of_ble_eq_true rfl) (by decide) (by decide) dX7_whyNoGauge_1 (t_X7_isTray x1 M) (fun v1 => ?_)
  refine r_if_ne 4 hC (tgt := 9) (by decide) dX7_whyNoGauge_4 ?_ ?_
  · refine r_aload_n 9 hC 0 rfl (Or.inl (by decide)) rfl dX7_whyNoGauge_9 ?_
    refine r_iload_n 10 hC 1 rfl rfl dX7_whyNoGauge_10 ?_
    refine r_callVP 11 hC [(0, x1)] [] rfl vl_X7_33 rfl h0 (by decide) (Nat.le_of_ble_eq_true rfl) (by decide) (by decide) dX7_whyNoGauge_11 (t_X7_isMissing x0 x1 M h0) (fun v2 => ?_)
    refine r_if_eq 14 hC (tgt := 19) (by decide) dX7_whyNoGauge_14 ?_ ?_
    · refine r_iload_n 19 hC 2 rfl rfl dX7_whyNoGauge_19 ?_
      refine r_aload_n 20 hC 0 rfl (Or.inl (by decide)) rfl dX7_whyNoGauge_20 ?_
      refine r_get 21 hC fd_6_2 fl_X7_20 dX7_whyNoGauge_21 (fun v3 => ?_)
      refine r_iload_n 24 hC 1 rfl rfl dX7_whyNoGauge_24 ?_
      refine r_iaload 25 hC dX7_whyNoGauge_25 (fun v4 => ?_)
      refine r_icmp_le 26 hC (tgt := 31) (by decide) dX7_whyNoGauge_26 ?_ ?_
      · refine r_iconst 31 hC (r32c rfl) dX7_whyNoGauge_31 ?_
        refine r_istore 32 hC (by decide) dX7_whyNoGauge_32 (r_eqls (ls' := [(4, 0, 0), (0, 26, x0), (1, 0, x1), (2, 0, x2), (3, 0, x3)]) rfl ?_)
        refine r_sub [1, 2, 3, 4, 0] rfl (f_X7_whyNoGauge_L34_ok h0 hC hq ?_ ?_ KF 0)
        · refine r_iconst 79 hC (r32c rfl) dX7_whyNoGauge_79 ?_
          exact r_ireturnP 80 hC hq (by decide) (by decide) dX7_whyNoGauge_80
        · refine r_iconst 71 hC (r32c rfl) dX7_whyNoGauge_71 ?_
          exact r_ireturnP 72 hC hq (by decide) (by decide) dX7_whyNoGauge_72
      · refine r_iconst 29 hC (r32c rfl) dX7_whyNoGauge_29 ?_
        exact r_ireturnP 30 hC hq (by decide) (by decide) dX7_whyNoGauge_30
    · refine r_iconst 17 hC (r32c rfl) dX7_whyNoGauge_17 ?_
      exact r_ireturnP 18 hC hq (by decide) (by decide) dX7_whyNoGauge_18
  · refine r_iconst 7 hC (r32c rfl) dX7_whyNoGauge_7 ?_
    exact r_ireturnP 8 hC hq (by decide) (by decide) dX7_whyNoGauge_8

/-! WaterTurns$Valley.<init>()V -/
theorem dX8_init_0 : decode cX8_init 0 = .ok (.aload_n 0, 1) := by decide +kernel
theorem dX8_init_1 : decode cX8_init 1 = .ok (.invokespecial 3, 3) := by decide +kernel
theorem dX8_init_4 : decode cX8_init 4 = .ok (.aload_n 0, 1) := by decide +kernel
theorem dX8_init_5 : decode cX8_init 5 = .ok (.bipush 100, 2) := by decide +kernel
theorem dX8_init_7 : decode cX8_init 7 = .ok (.putfield 9, 3) := by decide +kernel
theorem dX8_init_10 : decode cX8_init 10 = .ok (.aload_n 0, 1) := by decide +kernel
theorem dX8_init_11 : decode cX8_init 11 = .ok (.sipush 1440, 3) := by decide +kernel
theorem dX8_init_14 : decode cX8_init 14 = .ok (.putfield 15, 3) := by decide +kernel
theorem dX8_init_17 : decode cX8_init 17 = .ok (.aload_n 0, 1) := by decide +kernel
theorem dX8_init_18 : decode cX8_init 18 = .ok (.iconst 0, 1) := by decide +kernel
theorem dX8_init_19 : decode cX8_init 19 = .ok (.putfield 18, 3) := by decide +kernel
theorem dX8_init_22 : decode cX8_init 22 = .ok (.aload_n 0, 1) := by decide +kernel
theorem dX8_init_23 : decode cX8_init 23 = .ok (.iconst 0, 1) := by decide +kernel
theorem dX8_init_24 : decode cX8_init 24 = .ok (.putfield 21, 3) := by decide +kernel
theorem dX8_init_27 : decode cX8_init 27 = .ok (.aload_n 0, 1) := by decide +kernel
theorem dX8_init_28 : decode cX8_init 28 = .ok (.iconst 0, 1) := by decide +kernel
theorem dX8_init_29 : decode cX8_init 29 = .ok (.putfield 24, 3) := by decide +kernel
theorem dX8_init_32 : decode cX8_init 32 = .ok (.aload_n 0, 1) := by decide +kernel
theorem dX8_init_33 : decode cX8_init 33 = .ok (.iconst 0, 1) := by decide +kernel
theorem dX8_init_34 : decode cX8_init 34 = .ok (.putfield 27, 3) := by decide +kernel
theorem dX8_init_37 : decode cX8_init 37 = .ok (.aload_n 0, 1) := by decide +kernel
theorem dX8_init_38 : decode cX8_init 38 = .ok (.iconst 0, 1) := by decide +kernel
theorem dX8_init_39 : decode cX8_init 39 = .ok (.putfield 30, 3) := by decide +kernel
theorem dX8_init_42 : decode cX8_init 42 = .ok (.aload_n 0, 1) := by decide +kernel
theorem dX8_init_43 : decode cX8_init 43 = .ok (.lconst 1, 1) := by decide +kernel
theorem dX8_init_44 : decode cX8_init 44 = .ok (.putfield 33, 3) := by decide +kernel
theorem dX8_init_47 : decode cX8_init 47 = .ok (.aload_n 0, 1) := by decide +kernel
theorem dX8_init_48 : decode cX8_init 48 = .ok (.bipush 10, 2) := by decide +kernel
theorem dX8_init_50 : decode cX8_init 50 = .ok (.bipush 6, 2) := by decide +kernel
theorem dX8_init_52 : decode cX8_init 52 = .ok (.multianewarray 37 2, 4) := by decide +kernel
theorem dX8_init_56 : decode cX8_init 56 = .ok (.putfield 39, 3) := by decide +kernel
theorem dX8_init_59 : decode cX8_init 59 = .ok (.aload_n 0, 1) := by decide +kernel
theorem dX8_init_60 : decode cX8_init 60 = .ok (.bipush 10, 2) := by decide +kernel
theorem dX8_init_62 : decode cX8_init 62 = .ok (.iconst 4, 1) := by decide +kernel
theorem dX8_init_63 : decode cX8_init 63 = .ok (.multianewarray 37 2, 4) := by decide +kernel
theorem dX8_init_67 : decode cX8_init 67 = .ok (.putfield 42, 3) := by decide +kernel
theorem dX8_init_70 : decode cX8_init 70 = .ok (.aload_n 0, 1) := by decide +kernel
theorem dX8_init_71 : decode cX8_init 71 = .ok (.bipush 10, 2) := by decide +kernel
theorem dX8_init_73 : decode cX8_init 73 = .ok (.newarray .long, 2) := by decide +kernel
theorem dX8_init_75 : decode cX8_init 75 = .ok (.putfield 45, 3) := by decide +kernel
theorem dX8_init_78 : decode cX8_init 78 = .ok (.aload_n 0, 1) := by decide +kernel
theorem dX8_init_79 : decode cX8_init 79 = .ok (.bipush 6, 2) := by decide +kernel
theorem dX8_init_81 : decode cX8_init 81 = .ok (.newarray .long, 2) := by decide +kernel
theorem dX8_init_83 : decode cX8_init 83 = .ok (.putfield 49, 3) := by decide +kernel
theorem dX8_init_86 : decode cX8_init 86 = .ok (.aload_n 0, 1) := by decide +kernel
theorem dX8_init_87 : decode cX8_init 87 = .ok (.bipush 10, 2) := by decide +kernel
theorem dX8_init_89 : decode cX8_init 89 = .ok (.newarray .long, 2) := by decide +kernel
theorem dX8_init_91 : decode cX8_init 91 = .ok (.putfield 52, 3) := by decide +kernel
theorem dX8_init_94 : decode cX8_init 94 = .ok (.return_, 1) := by decide +kernel
set_option maxRecDepth 100000 in
theorem t_X8_init (x0 : Int) (M : Mem) (h0 : x0 ≠ 0) : MtV yX8_init cX8_init 1 none 1 25 146 [(27, x0)] M (f_X8_init x0 M) := by
  refine mk_V (by decide +kernel) (Nat.le_of_ble_eq_true rfl) (fun E C M0 hC hq hin => ?_)
  refine r_eqls (ls' := [(0, 27, x0)]) rfl ?_
  unfold f_X8_init
  refine r_aload_n 0 hC 0 rfl (Or.inl (by decide)) rfl dX8_init_0 ?_
  refine r_objinit 1 hC ob_X8_3 obj_i obj_c (by decide) h0 (by decide) (Nat.le_of_ble_eq_true rfl) dX8_init_1 ?_
  refine r_aload_n 4 hC 0 rfl (Or.inl (by decide)) rfl dX8_init_4 ?_
  refine r_bipush 5 hC kb_100 dX8_init_5 ?_
  refine r_put 7 hC fd_7_0 fl_X8_9 dX8_init_7 (fun M1 => ?_)
  refine r_aload_n 10 hC 0 rfl (Or.inl (by decide)) rfl dX8_init_10 ?_
  refine r_sipush 11 hC ks_1440 dX8_init_11 ?_
  refine r_put 14 hC fd_7_1 fl_X8_15 dX8_init_14 (fun M2 => ?_)
  refine r_aload_n 17 hC 0 rfl (Or.inl (by decide)) rfl dX8_init_17 ?_
  refine r_iconst 18 hC (r32c rfl) dX8_init_18 ?_
  refine r_put 19 hC fd_7_2 fl_X8_18 dX8_init_19 (fun M3 => ?_)
  refine r_aload_n 22 hC 0 rfl (Or.inl (by decide)) rfl dX8_init_22 ?_
  refine r_iconst 23 hC (r32c rfl) dX8_init_23 ?_
  refine r_put 24 hC fd_7_3 fl_X8_21 dX8_init_24 (fun M4 => ?_)
  refine r_aload_n 27 hC 0 rfl (Or.inl (by decide)) rfl dX8_init_27 ?_
  refine r_iconst 28 hC (r32c rfl) dX8_init_28 ?_
  refine r_put 29 hC fd_7_4 fl_X8_24 dX8_init_29 (fun M5 => ?_)
  refine r_aload_n 32 hC 0 rfl (Or.inl (by decide)) rfl dX8_init_32 ?_
  refine r_iconst 33 hC (r32c rfl) dX8_init_33 ?_
  refine r_put 34 hC fd_7_5 fl_X8_27 dX8_init_34 (fun M6 => ?_)
  refine r_aload_n 37 hC 0 rfl (Or.inl (by decide)) rfl dX8_init_37 ?_
  refine r_iconst 38 hC (r32c rfl) dX8_init_38 ?_
  refine r_put 39 hC fd_7_6 fl_X8_30 dX8_init_39 (fun M7 => ?_)
  refine r_aload_n 42 hC 0 rfl (Or.inl (by decide)) rfl dX8_init_42 ?_
  refine r_lconst 43 hC (x := 1) ⟨by decide +kernel, r64c rfl⟩ dX8_init_43 ?_
  refine r_put 44 hC fd_7_7 fl_X8_33 dX8_init_44 (fun M8 => ?_)
  refine r_aload_n 47 hC 0 rfl (Or.inl (by decide)) rfl dX8_init_47 ?_
  refine r_bipush 48 hC kb_10 dX8_init_48 ?_
  refine r_bipush 50 hC kb_6 dX8_init_50 ?_
  refine r_newg 52 hC (N := 10) (K := 6) rfl rfl (by decide) (by decide) (by simp) cq_X8_37 nac_10 (by decide) (by decide) dX8_init_52 (fun v9 M10 => ?_)
  refine r_putF 56 hC hin fd_7_8 fl_X8_39 dX8_init_56 (fun M11 => ?_)
  refine r_aload_n 59 hC 0 rfl (Or.inl (by decide)) rfl dX8_init_59 ?_
  refine r_bipush 60 hC kb_10 dX8_init_60 ?_
  refine r_iconst 62 hC (r32c rfl) dX8_init_62 ?_
  refine r_newg 63 hC (N := 10) (K := 4) rfl rfl (by decide) (by decide) (by simp) cq_X8_37 nac_10 (by decide) (by decide) dX8_init_63 (fun v12 M13 => ?_)
  refine r_putF 67 hC hin fd_7_9 fl_X8_42 dX8_init_67 (fun M14 => ?_)
  refine r_aload_n 70 hC 0 rfl (Or.inl (by decide)) rfl dX8_init_70 ?_
  refine r_bipush 71 hC kb_10 dX8_init_71 ?_
  refine r_newa 73 hC (N := 10) rfl (by decide) (by decide) (by decide) rfl (fun _ _ => Iff.rfl) nad_11 (fun _ => nao_11) (by decide) nac_11 (by decide) (by decide) dX8_init_73 (fun v15 M16 => ?_)
  refine r_putF 75 hC hin fd_7_10 fl_X8_45 dX8_init_75 (fun M17 => ?_)
  refine r_aload_n 78 hC 0 rfl (Or.inl (by decide)) rfl dX8_init_78 ?_
  refine r_bipush 79 hC kb_6 dX8_init_79 ?_
  refine r_newa 81 hC (N := 6) rfl (by decide) (by decide) (by decide) rfl (fun _ _ => Iff.rfl) nad_11 (fun _ => nao_11) (by decide) nac_11 (by decide) (by decide) dX8_init_81 (fun v18 M19 => ?_)
  refine r_putF 83 hC hin fd_7_11 fl_X8_49 dX8_init_83 (fun M20 => ?_)
  refine r_aload_n 86 hC 0 rfl (Or.inl (by decide)) rfl dX8_init_86 ?_
  refine r_bipush 87 hC kb_10 dX8_init_87 ?_
  refine r_newa 89 hC (N := 10) rfl (by decide) (by decide) (by decide) rfl (fun _ _ => Iff.rfl) nad_11 (fun _ => nao_11) (by decide) nac_11 (by decide) (by decide) dX8_init_89 (fun v21 M22 => ?_)
  refine r_putF 91 hC hin fd_7_12 fl_X8_52 dX8_init_91 (fun M23 => ?_)
  exact r_return 94 hC hq (by decide) (by decide) dX8_init_94

/-! WaterTurns$Valley.isTaken(J)Z -/
theorem dX8_isTaken_0 : decode cX8_isTaken 0 = .ok (.aload_n 0, 1) := by decide +kernel
theorem dX8_isTaken_1 : decode cX8_isTaken 1 = .ok (.getfield 45, 3) := by decide +kernel
theorem dX8_isTaken_4 : decode cX8_isTaken 4 = .ok (.aload_n 0, 1) := by decide +kernel
theorem dX8_isTaken_5 : decode cX8_isTaken 5 = .ok (.getfield 21, 3) := by decide +kernel
theorem dX8_isTaken_8 : decode cX8_isTaken 8 = .ok (.lload_n 1, 1) := by decide +kernel
theorem dX8_isTaken_9 : decode cX8_isTaken 9 = .ok (.invokestatic 55, 3) := by decide +kernel
theorem dX8_isTaken_12 : decode cX8_isTaken 12 = .ok (.iconst (-1), 1) := by decide +kernel
theorem dX8_isTaken_13 : decode cX8_isTaken 13 = .ok (.if_icmp .ne 35, 3) := by decide +kernel
theorem dX8_isTaken_16 : decode cX8_isTaken 16 = .ok (.aload_n 0, 1) := by decide +kernel
theorem dX8_isTaken_17 : decode cX8_isTaken 17 = .ok (.getfield 49, 3) := by decide +kernel
theorem dX8_isTaken_20 : decode cX8_isTaken 20 = .ok (.aload_n 0, 1) := by decide +kernel
theorem dX8_isTaken_21 : decode cX8_isTaken 21 = .ok (.getfield 24, 3) := by decide +kernel
theorem dX8_isTaken_24 : decode cX8_isTaken 24 = .ok (.lload_n 1, 1) := by decide +kernel
theorem dX8_isTaken_25 : decode cX8_isTaken 25 = .ok (.invokestatic 55, 3) := by decide +kernel
theorem dX8_isTaken_28 : decode cX8_isTaken 28 = .ok (.iconst (-1), 1) := by decide +kernel
theorem dX8_isTaken_29 : decode cX8_isTaken 29 = .ok (.if_icmp .ne 19, 3) := by decide +kernel
theorem dX8_isTaken_32 : decode cX8_isTaken 32 = .ok (.aload_n 0, 1) := by decide +kernel
theorem dX8_isTaken_33 : decode cX8_isTaken 33 = .ok (.getfield 52, 3) := by decide +kernel
theorem dX8_isTaken_36 : decode cX8_isTaken 36 = .ok (.aload_n 0, 1) := by decide +kernel
theorem dX8_isTaken_37 : decode cX8_isTaken 37 = .ok (.getfield 27, 3) := by decide +kernel
theorem dX8_isTaken_40 : decode cX8_isTaken 40 = .ok (.lload_n 1, 1) := by decide +kernel
theorem dX8_isTaken_41 : decode cX8_isTaken 41 = .ok (.invokestatic 55, 3) := by decide +kernel
theorem dX8_isTaken_44 : decode cX8_isTaken 44 = .ok (.iconst (-1), 1) := by decide +kernel
theorem dX8_isTaken_45 : decode cX8_isTaken 45 = .ok (.if_icmp .eq 7, 3) := by decide +kernel
theorem dX8_isTaken_48 : decode cX8_isTaken 48 = .ok (.iconst 1, 1) := by decide +kernel
theorem dX8_isTaken_49 : decode cX8_isTaken 49 = .ok (.goto 4, 3) := by decide +kernel
theorem dX8_isTaken_52 : decode cX8_isTaken 52 = .ok (.iconst 0, 1) := by decide +kernel
theorem dX8_isTaken_53 : decode cX8_isTaken 53 = .ok (.ireturn, 1) := by decide +kernel
set_option maxRecDepth 100000 in
theorem t_X8_isTaken (x0 x1 : Int) (M : Mem) (h0 : x0 ≠ 0) : MtP yX8_isTaken cX8_isTaken 3 (some .boolean) 2 0 0 [(27, x0), (1, x1)] M 0 (f_X8_isTaken x0 x1 M) := by
  refine mk_P (by decide +kernel) (Nat.le_of_ble_eq_true rfl) (fun E C r0 hC hq hin => ?_)
  refine r_eqls (ls' := [(0, 27, x0), (1, 1, x1)]) rfl ?_
  unfold f_X8_isTaken
  refine r_aload_n 0 hC 0 rfl (Or.inl (by decide)) rfl dX8_isTaken_0 ?_
  refine r_get 1 hC fd_7_10 fl_X8_45 dX8_isTaken_1 (fun v1 => ?_)
  refine r_aload_n 4 hC 0 rfl (Or.inl (by decide)) rfl dX8_isTaken_4 ?_
  refine r_get 5 hC fd_7_3 fl_X8_21 dX8_isTaken_5 (fun v2 => ?_)
  refine r_lload_n 8 hC 1 rfl rfl dX8_isTaken_8 ?_
  refine r_callSP 9 hC [(11, v1), (0, v2), (1, x1)] [] rfl sl_X8_55 rfl (by decide) (Nat.le_of_ble_eq_true rfl) (by decide) (by decide) dX8_isTaken_9 (t_X8_find v1 v2 x1 M) (fun v3 => ?_)
  refine r_iconst 12 hC (r32c rfl) dX8_isTaken_12 ?_
  refine r_jn (P := fun j53 => ∀ (q4 : Int), Bk E C 3 M r0 53 [] [(0, q4)] M 0 0 (j53 q4)) ?_ (fun j53 hj53 => ?_)
  · intro q4
    exact r_zreturnP 53 hC hq (by decide) (by decide) dX8_isTaken_53
  refine r_jn (P := fun j48 => Bk E C 3 M r0 48 [] [] M 0 0 (j48)) ?_ (fun j48 hj48 => ?_)
  · refine r_iconst 48 hC (r32c rfl) dX8_isTaken_48 ?_
    refine r_goto 49 hC (tgt := 53) (by decide) dX8_isTaken_49 ?_
    exact hj53 1
  refine r_icmp_ne 13 hC (tgt := 48) (by decide) dX8_isTaken_13 ?_ ?_
  · exact r_sub [] rfl (hj48)
  · refine r_aload_n 16 hC 0 rfl (Or.inl (by decide)) rfl dX8_isTaken_16 ?_
    refine r_get 17 hC fd_7_11 fl_X8_49 dX8_isTaken_17 (fun v5 => ?_)
    refine r_aload_n 20 hC 0 rfl (Or.inl (by decide)) rfl dX8_isTaken_20 ?_
    refine r_get 21 hC fd_7_4 fl_X8_24 dX8_isTaken_21 (fun v6 => ?_)
    refine r_lload_n 24 hC 1 rfl rfl dX8_isTaken_24 ?_
    refine r_callSP 25 hC [(11, v5), (0, v6), (1, x1)] [] rfl sl_X8_55 rfl (by decide) (Nat.le_of_ble_eq_true rfl) (by decide) (by decide) dX8_isTaken_25 (t_X8_find v5 v6 x1 M) (fun v7 => ?_)
    refine r_iconst 28 hC (r32c rfl) dX8_isTaken_28 ?_
    refine r_icmp_ne 29 hC (tgt := 48) (by decide) dX8_isTaken_29 ?_ ?_
    · exact r_sub [] rfl (hj48)
    · refine r_aload_n 32 hC 0 rfl (Or.inl (by decide)) rfl dX8_isTaken_32 ?_
      refine r_get 33 hC fd_7_12 fl_X8_52 dX8_isTaken_33 (fun v8 => ?_)
      refine r_aload_n 36 hC 0 rfl (Or.inl (by decide)) rfl dX8_isTaken_36 ?_
      refine r_get 37 hC fd_7_5 fl_X8_27 dX8_isTaken_37 (fun v9 => ?_)
      refine r_lload_n 40 hC 1 rfl rfl dX8_isTaken_40 ?_
      refine r_callSP 41 hC [(11, v8), (0, v9), (1, x1)] [] rfl sl_X8_55 rfl (by decide) (Nat.le_of_ble_eq_true rfl) (by decide) (by decide) dX8_isTaken_41 (t_X8_find v8 v9 x1 M) (fun v10 => ?_)
      refine r_iconst 44 hC (r32c rfl) dX8_isTaken_44 ?_
      refine r_icmp_eq 45 hC (tgt := 52) (by decide) dX8_isTaken_45 ?_ ?_
      · refine r_iconst 52 hC (r32c rfl) dX8_isTaken_52 ?_
        exact r_sub [] rfl (hj53 0)
      · exact r_sub [] rfl (hj48)

/-! WaterTurns$Valley.clear()V -/
theorem dX8_clear_0 : decode cX8_clear 0 = .ok (.aload_n 0, 1) := by decide +kernel
theorem dX8_clear_1 : decode cX8_clear 1 = .ok (.iconst (-1), 1) := by decide +kernel
theorem dX8_clear_2 : decode cX8_clear 2 = .ok (.putfield 9, 3) := by decide +kernel
theorem dX8_clear_5 : decode cX8_clear 5 = .ok (.aload_n 0, 1) := by decide +kernel
theorem dX8_clear_6 : decode cX8_clear 6 = .ok (.iconst (-1), 1) := by decide +kernel
theorem dX8_clear_7 : decode cX8_clear 7 = .ok (.putfield 15, 3) := by decide +kernel
theorem dX8_clear_10 : decode cX8_clear 10 = .ok (.aload_n 0, 1) := by decide +kernel
theorem dX8_clear_11 : decode cX8_clear 11 = .ok (.iconst 0, 1) := by decide +kernel
theorem dX8_clear_12 : decode cX8_clear 12 = .ok (.putfield 18, 3) := by decide +kernel
theorem dX8_clear_15 : decode cX8_clear 15 = .ok (.aload_n 0, 1) := by decide +kernel
theorem dX8_clear_16 : decode cX8_clear 16 = .ok (.iconst 0, 1) := by decide +kernel
theorem dX8_clear_17 : decode cX8_clear 17 = .ok (.putfield 21, 3) := by decide +kernel
theorem dX8_clear_20 : decode cX8_clear 20 = .ok (.aload_n 0, 1) := by decide +kernel
theorem dX8_clear_21 : decode cX8_clear 21 = .ok (.iconst 0, 1) := by decide +kernel
theorem dX8_clear_22 : decode cX8_clear 22 = .ok (.putfield 24, 3) := by decide +kernel
theorem dX8_clear_25 : decode cX8_clear 25 = .ok (.aload_n 0, 1) := by decide +kernel
theorem dX8_clear_26 : decode cX8_clear 26 = .ok (.iconst 0, 1) := by decide +kernel
theorem dX8_clear_27 : decode cX8_clear 27 = .ok (.putfield 27, 3) := by decide +kernel
theorem dX8_clear_30 : decode cX8_clear 30 = .ok (.return_, 1) := by decide +kernel
set_option maxRecDepth 100000 in
theorem t_X8_clear (x0 : Int) (M : Mem) (h0 : x0 ≠ 0) : MtV yX8_clear cX8_clear 1 none 1 0 0 [(27, x0)] M (f_X8_clear x0 M) := by
  refine mk_V (by decide +kernel) (Nat.le_of_ble_eq_true rfl) (fun E C M0 hC hq hin => ?_)
  refine r_eqls (ls' := [(0, 27, x0)]) rfl ?_
  unfold f_X8_clear
  refine r_aload_n 0 hC 0 rfl (Or.inl (by decide)) rfl dX8_clear_0 ?_
  refine r_iconst 1 hC (r32c rfl) dX8_clear_1 ?_
  refine r_put 2 hC fd_7_0 fl_X8_9 dX8_clear_2 (fun M1 => ?_)
  refine r_aload_n 5 hC 0 rfl (Or.inl (by decide)) rfl dX8_clear_5 ?_
  refine r_iconst 6 hC (r32c rfl) dX8_clear_6 ?_
  refine r_put 7 hC fd_7_1 fl_X8_15 dX8_clear_7 (fun M2 => ?_)
  refine r_aload_n 10 hC 0 rfl (Or.inl (by decide)) rfl dX8_clear_10 ?_
  refine r_iconst 11 hC (r32c rfl) dX8_clear_11 ?_
  refine r_put 12 hC fd_7_2 fl_X8_18 dX8_clear_12 (fun M3 => ?_)
  refine r_aload_n 15 hC 0 rfl (Or.inl (by decide)) rfl dX8_clear_15 ?_
  refine r_iconst 16 hC (r32c rfl) dX8_clear_16 ?_
  refine r_put 17 hC fd_7_3 fl_X8_21 dX8_clear_17 (fun M4 => ?_)
  refine r_aload_n 20 hC 0 rfl (Or.inl (by decide)) rfl dX8_clear_20 ?_
  refine r_iconst 21 hC (r32c rfl) dX8_clear_21 ?_
  refine r_put 22 hC fd_7_4 fl_X8_24 dX8_clear_22 (fun M5 => ?_)
  refine r_aload_n 25 hC 0 rfl (Or.inl (by decide)) rfl dX8_clear_25 ?_
  refine r_iconst 26 hC (r32c rfl) dX8_clear_26 ?_
  refine r_put 27 hC fd_7_5 fl_X8_27 dX8_clear_27 (fun M6 => ?_)
  exact r_return 30 hC hq (by decide) (by decide) dX8_clear_30

/-! WaterTurns$Valley.complete()V -/
theorem dX8_complete_0 : decode cX8_complete 0 = .ok (.aload_n 0, 1) := by decide +kernel
theorem dX8_complete_1 : decode cX8_complete 1 = .ok (.aload_n 0, 1) := by decide +kernel
theorem dX8_complete_2 : decode cX8_complete 2 = .ok (.getfield 9, 3) := by decide +kernel
theorem dX8_complete_5 : decode cX8_complete 5 = .ok (.iconst (-1), 1) := by decide +kernel
theorem dX8_complete_6 : decode cX8_complete 6 = .ok (.if_icmp .ne 8, 3) := by decide +kernel
theorem dX8_complete_9 : decode cX8_complete 9 = .ok (.bipush 100, 2) := by decide +kernel
theorem dX8_complete_11 : decode cX8_complete 11 = .ok (.goto 7, 3) := by decide +kernel
theorem dX8_complete_14 : decode cX8_complete 14 = .ok (.aload_n 0, 1) := by decide +kernel
theorem dX8_complete_15 : decode cX8_complete 15 = .ok (.getfield 9, 3) := by decide +kernel
theorem dX8_complete_18 : decode cX8_complete 18 = .ok (.putfield 9, 3) := by decide +kernel
theorem dX8_complete_21 : decode cX8_complete 21 = .ok (.aload_n 0, 1) := by decide +kernel
theorem dX8_complete_22 : decode cX8_complete 22 = .ok (.aload_n 0, 1) := by decide +kernel
theorem dX8_complete_23 : decode cX8_complete 23 = .ok (.getfield 15, 3) := by decide +kernel
theorem dX8_complete_26 : decode cX8_complete 26 = .ok (.iconst (-1), 1) := by decide +kernel
theorem dX8_complete_27 : decode cX8_complete 27 = .ok (.if_icmp .ne 9, 3) := by decide +kernel
theorem dX8_complete_30 : decode cX8_complete 30 = .ok (.sipush 1440, 3) := by decide +kernel
theorem dX8_complete_33 : decode cX8_complete 33 = .ok (.goto 7, 3) := by decide +kernel
theorem dX8_complete_36 : decode cX8_complete 36 = .ok (.aload_n 0, 1) := by decide +kernel
theorem dX8_complete_37 : decode cX8_complete 37 = .ok (.getfield 15, 3) := by decide +kernel
theorem dX8_complete_40 : decode cX8_complete 40 = .ok (.putfield 15, 3) := by decide +kernel
theorem dX8_complete_43 : decode cX8_complete 43 = .ok (.aload_n 0, 1) := by decide +kernel
theorem dX8_complete_44 : decode cX8_complete 44 = .ok (.lconst 1, 1) := by decide +kernel
theorem dX8_complete_45 : decode cX8_complete 45 = .ok (.putfield 33, 3) := by decide +kernel
theorem dX8_complete_48 : decode cX8_complete 48 = .ok (.iconst 0, 1) := by decide +kernel
theorem dX8_complete_49 : decode cX8_complete 49 = .ok (.istore_n 1, 1) := by decide +kernel
theorem dX8_complete_50 : decode cX8_complete 50 = .ok (.iload_n 1, 1) := by decide +kernel
theorem dX8_complete_51 : decode cX8_complete 51 = .ok (.aload_n 0, 1) := by decide +kernel
theorem dX8_complete_52 : decode cX8_complete 52 = .ok (.getfield 21, 3) := by decide +kernel
theorem dX8_complete_55 : decode cX8_complete 55 = .ok (.if_icmp .ge 27, 3) := by decide +kernel
theorem dX8_complete_58 : decode cX8_complete 58 = .ok (.aload_n 0, 1) := by decide +kernel
theorem dX8_complete_59 : decode cX8_complete 59 = .ok (.dup, 1) := by decide +kernel
theorem dX8_complete_60 : decode cX8_complete 60 = .ok (.getfield 33, 3) := by decide +kernel
theorem dX8_complete_63 : decode cX8_complete 63 = .ok (.aload_n 0, 1) := by decide +kernel
theorem dX8_complete_64 : decode cX8_complete 64 = .ok (.getfield 39, 3) := by decide +kernel
theorem dX8_complete_67 : decode cX8_complete 67 = .ok (.iload_n 1, 1) := by decide +kernel
theorem dX8_complete_68 : decode cX8_complete 68 = .ok (.aaload, 1) := by decide +kernel
theorem dX8_complete_69 : decode cX8_complete 69 = .ok (.iconst 2, 1) := by decide +kernel
theorem dX8_complete_70 : decode cX8_complete 70 = .ok (.iaload, 1) := by decide +kernel
theorem dX8_complete_71 : decode cX8_complete 71 = .ok (.i2l, 1) := by decide +kernel
theorem dX8_complete_72 : decode cX8_complete 72 = .ok (.lmul, 1) := by decide +kernel
theorem dX8_complete_73 : decode cX8_complete 73 = .ok (.putfield 33, 3) := by decide +kernel
theorem dX8_complete_76 : decode cX8_complete 76 = .ok (.iinc 1 1, 3) := by decide +kernel
theorem dX8_complete_79 : decode cX8_complete 79 = .ok (.goto (-29), 3) := by decide +kernel
theorem dX8_complete_82 : decode cX8_complete 82 = .ok (.aload_n 0, 1) := by decide +kernel
theorem dX8_complete_83 : decode cX8_complete 83 = .ok (.iconst 0, 1) := by decide +kernel
theorem dX8_complete_84 : decode cX8_complete 84 = .ok (.putfield 30, 3) := by decide +kernel
theorem dX8_complete_87 : decode cX8_complete 87 = .ok (.iconst 0, 1) := by decide +kernel
theorem dX8_complete_88 : decode cX8_complete 88 = .ok (.istore_n 1, 1) := by decide +kernel
theorem dX8_complete_89 : decode cX8_complete 89 = .ok (.iload_n 1, 1) := by decide +kernel
theorem dX8_complete_90 : decode cX8_complete 90 = .ok (.aload_n 0, 1) := by decide +kernel
theorem dX8_complete_91 : decode cX8_complete 91 = .ok (.getfield 27, 3) := by decide +kernel
theorem dX8_complete_94 : decode cX8_complete 94 = .ok (.if_icmp .ge 26, 3) := by decide +kernel
theorem dX8_complete_97 : decode cX8_complete 97 = .ok (.aload_n 0, 1) := by decide +kernel
theorem dX8_complete_98 : decode cX8_complete 98 = .ok (.dup, 1) := by decide +kernel
theorem dX8_complete_99 : decode cX8_complete 99 = .ok (.getfield 30, 3) := by decide +kernel
theorem dX8_complete_102 : decode cX8_complete 102 = .ok (.aload_n 0, 1) := by decide +kernel
theorem dX8_complete_103 : decode cX8_complete 103 = .ok (.getfield 42, 3) := by decide +kernel
theorem dX8_complete_106 : decode cX8_complete 106 = .ok (.iload_n 1, 1) := by decide +kernel
theorem dX8_complete_107 : decode cX8_complete 107 = .ok (.aaload, 1) := by decide +kernel
theorem dX8_complete_108 : decode cX8_complete 108 = .ok (.iconst 1, 1) := by decide +kernel
theorem dX8_complete_109 : decode cX8_complete 109 = .ok (.iaload, 1) := by decide +kernel
theorem dX8_complete_110 : decode cX8_complete 110 = .ok (.iadd, 1) := by decide +kernel
theorem dX8_complete_111 : decode cX8_complete 111 = .ok (.putfield 30, 3) := by decide +kernel
theorem dX8_complete_114 : decode cX8_complete 114 = .ok (.iinc 1 1, 3) := by decide +kernel
theorem dX8_complete_117 : decode cX8_complete 117 = .ok (.goto (-28), 3) := by decide +kernel
theorem dX8_complete_120 : decode cX8_complete 120 = .ok (.return_, 1) := by decide +kernel
set_option maxRecDepth 100000 in
theorem f_X8_complete_L50_ok {E : EnvT} {C : Cx} {Mi : Mem} {x0 : Int} (h0 : x0 ≠ 0) (hC : CxOK E C cX8_complete 2 yX8_complete.cls 1 0 0) {M0 : Mem} (hq : RQ E C 0 0 Mi none none M0) {k : Mem → Option (Mem)} (hk : ∀ M16, Bk E C 2 Mi M0 82 [(0, 27, x0)] [] M16 0 0 (k M16)) : ∀ (n : Nat) (p8 : Int) (M9 : Mem), Bk E C 2 Mi M0 50 [(0, 27, x0), (1, 0, p8)] [] M9 0 0 (f_X8_complete_L50 x0 k n p8 M9) := by
  intro n
  induction n with
  | zero =>
    intro p8 M9
    exact r_none
  | succ n ih =>
    intro p8 M9
    rw [f_X8_complete_L50]
    refine r_iload_n 50 hC 1 rfl rfl dX8_complete_50 ?_
    refine r_aload_n 51 hC 0 rfl (Or.inl (by decide)) rfl dX8_complete_51 ?_
    refine r_get 52 hC fd_7_3 fl_X8_21 dX8_complete_52 (fun v10 => ?_)
    refine r_icmp_ge 55 hC (tgt := 82) (by decide) dX8_complete_55 ?_ ?_
    · exact r_sub [0] rfl (hk M9)
    · refine r_aload_n 58 hC 0 rfl (Or.inl (by decide)) rfl dX8_complete_58 ?_
      refine r_dup 59 hC (by decide) dX8_complete_59 ?_
      refine r_get 60 hC fd_7_7 fl_X8_33 dX8_complete_60 (fun v11 => ?_)
      refine r_aload_n 63 hC 0 rfl (Or.inl (by decide)) rfl dX8_complete_63 ?_
      refine r_get 64 hC fd_7_8 fl_X8_39 dX8_complete_64 (fun v12 => ?_)
      refine r_iload_n 67 hC 1 rfl rfl dX8_complete_67 ?_
      refine r_aaloadI 68 hC dX8_complete_68 (fun v13 => ?_)
      refine r_iconst 69 hC (r32c rfl) dX8_complete_69 ?_
      refine r_iaload 70 hC dX8_complete_70 (fun v14 => ?_)
      refine r_i2l 71 hC dX8_complete_71 ?_
      refine r_lmul 72 hC dX8_complete_72 ?_
      refine r_put 73 hC fd_7_7 fl_X8_33 dX8_complete_73 (fun M15 => ?_)
      refine r_iinc 76 hC 1 rfl (by decide) dX8_complete_76 (r_eqls (ls' := [(1, 0, w32 (p8 + 1)), (0, 27, x0)]) rfl ?_)
      refine r_goto 79 hC (tgt := 50) (by decide) dX8_complete_79 ?_
      exact r_sub [1, 0] rfl (ih (w32 (p8 + 1)) M15)
set_option maxRecDepth 100000 in
theorem f_X8_complete_L89_ok {E : EnvT} {C : Cx} {Mi : Mem} {x0 : Int} (h0 : x0 ≠ 0) (hC : CxOK E C cX8_complete 2 yX8_complete.cls 1 0 0) {M0 : Mem} (hq : RQ E C 0 0 Mi none none M0) {k : Mem → Option (Mem)} (hk : ∀ M27, Bk E C 2 Mi M0 120 [] [] M27 0 0 (k M27)) : ∀ (n : Nat) (p19 : Int) (M20 : Mem), Bk E C 2 Mi M0 89 [(0, 27, x0), (1, 0, p19)] [] M20 0 0 (f_X8_complete_L89 x0 k n p19 M20) := by
  intro n
  induction n with
  | zero =>
    intro p19 M20
    exact r_none
  | succ n ih =>
    intro p19 M20
    rw [f_X8_complete_L89]
    refine r_iload_n 89 hC 1 rfl rfl dX8_complete_89 ?_
    refine r_aload_n 90 hC 0 rfl (Or.inl (by decide)) rfl dX8_complete_90 ?_
    refine r_get 91 hC fd_7_5 fl_X8_27 dX8_complete_91 (fun v21 => ?_)
    refine r_icmp_ge 94 hC (tgt := 120) (by decide) dX8_complete_94 ?_ ?_
    · exact r_sub [] rfl (hk M20)
    · refine r_aload_n 97 hC 0 rfl (Or.inl (by decide)) rfl dX8_complete_97 ?_
      refine r_dup 98 hC (by decide) dX8_complete_98 ?_
      refine r_get 99 hC fd_7_6 fl_X8_30 dX8_complete_99 (fun v22 => ?_)
      refine r_aload_n 102 hC 0 rfl (Or.inl (by decide)) rfl dX8_complete_102 ?_
      refine r_get 103 hC fd_7_9 fl_X8_42 dX8_complete_103 (fun v23 => ?_)
      refine r_iload_n 106 hC 1 rfl rfl dX8_complete_106 ?_
      refine r_aaloadI 107 hC dX8_complete_107 (fun v24 => ?_)
      refine r_iconst 108 hC (r32c rfl) dX8_complete_108 ?_
      refine r_iaload 109 hC dX8_complete_109 (fun v25 => ?_)
      refine r_iadd 110 hC dX8_complete_110 ?_
      refine r_put 111 hC fd_7_6 fl_X8_30 dX8_complete_111 (fun M26 => ?_)
      refine r_iinc 114 hC 1 rfl (by decide) dX8_complete_114 (r_eqls (ls' := [(1, 0, w32 (p19 + 1)), (0, 27, x0)]) rfl ?_)
      refine r_goto 117 hC (tgt := 89) (by decide) dX8_complete_117 ?_
      exact r_sub [1, 0] rfl (ih (w32 (p19 + 1)) M26)
set_option maxRecDepth 100000 in
theorem t_X8_complete (x0 : Int) (M : Mem) (h0 : x0 ≠ 0) : MtV yX8_complete cX8_complete 2 none 1 0 0 [(27, x0)] M (f_X8_complete x0 M) := by
  refine mk_V (by decide +kernel) (Nat.le_of_ble_eq_true rfl) (fun E C M0 hC hq hin => ?_)
  refine r_eqls (ls' := [(0, 27, x0)]) rfl ?_
  unfold f_X8_complete
  refine r_aload_n 0 hC 0 rfl (Or.inl (by decide)) rfl dX8_complete_0 ?_
  refine r_aload_n 1 hC 0 rfl (Or.inl (by decide)) rfl dX8_complete_1 ?_
  refine r_get 2 hC fd_7_0 fl_X8_9 dX8_complete_2 (fun v1 => ?_)
  refine r_iconst 5 hC (r32c rfl) dX8_complete_5 ?_
  refine r_jn (P := fun j18 => ∀ (q2 : Int), Bk E C 2 M M0 18 [(0, 27, x0)] [(0, q2), (27, x0)] M 0 0 (j18 q2)) ?_ (fun j18 hj18 => ?_)
  · intro q2
    refine r_put 18 hC fd_7_0 fl_X8_9 dX8_complete_18 (fun M3 => ?_)
    refine r_aload_n 21 hC 0 rfl (Or.inl (by decide)) rfl dX8_complete_21 ?_
    refine r_aload_n 22 hC 0 rfl (Or.inl (by decide)) rfl dX8_complete_22 ?_
    refine r_get 23 hC fd_7_1 fl_X8_15 dX8_complete_23 (fun v4 => ?_)
    refine r_iconst 26 hC (r32c rfl) dX8_complete_26 ?_
    refine r_jn (P := fun j40 => ∀ (q5 : Int), Bk E C 2 M M0 40 [(0, 27, x0)] [(0, q5), (27, x0)] M3 0 0 (j40 q5)) ?_ (fun j40 hj40 => ?_)
    · intro q5
      refine r_put 40 hC fd_7_1 fl_X8_15 dX8_complete_40 (fun M6 => ?_)
      refine r_aload_n 43 hC 0 rfl (Or.inl (by decide)) rfl dX8_complete_43 ?_
      refine r_lconst 44 hC (x := 1) ⟨by decide +kernel, r64c rfl⟩ dX8_complete_44 ?_
      refine r_put 45 hC fd_7_7 fl_X8_33 dX8_complete_45 (fun M7 => ?_)
      refine r_iconst 48 hC (r32c rfl) dX8_complete_48 ?_
      refine r_istore_n 49 hC rfl (by decide) dX8_complete_49 (r_eqls (ls' := [(1, 0, 0), (0, 27, x0)]) rfl ?_)
      refine r_sub [1, 0] rfl (f_X8_complete_L50_ok h0 hC hq (fun M17 => ?_) KF 0 M7)
      · refine r_aload_n 82 hC 0 rfl (Or.inl (by decide)) rfl dX8_complete_82 ?_
        refine r_iconst 83 hC (r32c rfl) dX8_complete_83 ?_
        refine r_put 84 hC fd_7_6 fl_X8_30 dX8_complete_84 (fun M18 => ?_)
        refine r_iconst 87 hC (r32c rfl) dX8_complete_87 ?_
        refine r_istore_n 88 hC rfl (by decide) dX8_complete_88 (r_eqls (ls' := [(1, 0, 0), (0, 27, x0)]) rfl ?_)
        refine r_sub [1, 0] rfl (f_X8_complete_L89_ok h0 hC hq (fun M28 => ?_) KF 0 M18)
        · exact r_return 120 hC hq (by decide) (by decide) dX8_complete_120
    refine r_icmp_ne 27 hC (tgt := 36) (by decide) dX8_complete_27 ?_ ?_
    · refine r_aload_n 36 hC 0 rfl (Or.inl (by decide)) rfl dX8_complete_36 ?_
      refine r_get 37 hC fd_7_1 fl_X8_15 dX8_complete_37 (fun v29 => ?_)
      exact hj40 v29
    · refine r_sipush 30 hC ks_1440 dX8_complete_30 ?_
      refine r_goto 33 hC (tgt := 40) (by decide) dX8_complete_33 ?_
      exact hj40 1440
  refine r_icmp_ne 6 hC (tgt := 14) (by decide) dX8_complete_6 ?_ ?_
  · refine r_aload_n 14 hC 0 rfl (Or.inl (by decide)) rfl dX8_complete_14 ?_
    refine r_get 15 hC fd_7_0 fl_X8_9 dX8_complete_15 (fun v30 => ?_)
    exact hj18 v30
  · refine r_bipush 9 hC kb_100 dX8_complete_9 ?_
    refine r_goto 11 hC (tgt := 18) (by decide) dX8_complete_11 ?_
    exact hj18 100

/-! WaterTurns$Valley.take(LWaterTurns$Valley;)V -/
theorem dX8_take_0 : decode cX8_take 0 = .ok (.aload_n 0, 1) := by decide +kernel
theorem dX8_take_1 : decode cX8_take 1 = .ok (.aload_n 1, 1) := by decide +kernel
theorem dX8_take_2 : decode cX8_take 2 = .ok (.getfield 9, 3) := by decide +kernel
theorem dX8_take_5 : decode cX8_take 5 = .ok (.putfield 9, 3) := by decide +kernel
theorem dX8_take_8 : decode cX8_take 8 = .ok (.aload_n 0, 1) := by decide +kernel
theorem dX8_take_9 : decode cX8_take 9 = .ok (.aload_n 1, 1) := by decide +kernel
theorem dX8_take_10 : decode cX8_take 10 = .ok (.getfield 15, 3) := by decide +kernel
theorem dX8_take_13 : decode cX8_take 13 = .ok (.putfield 15, 3) := by decide +kernel
theorem dX8_take_16 : decode cX8_take 16 = .ok (.aload_n 0, 1) := by decide +kernel
theorem dX8_take_17 : decode cX8_take 17 = .ok (.aload_n 1, 1) := by decide +kernel
theorem dX8_take_18 : decode cX8_take 18 = .ok (.getfield 18, 3) := by decide +kernel
theorem dX8_take_21 : decode cX8_take 21 = .ok (.putfield 18, 3) := by decide +kernel
theorem dX8_take_24 : decode cX8_take 24 = .ok (.aload_n 0, 1) := by decide +kernel
theorem dX8_take_25 : decode cX8_take 25 = .ok (.aload_n 1, 1) := by decide +kernel
theorem dX8_take_26 : decode cX8_take 26 = .ok (.getfield 21, 3) := by decide +kernel
theorem dX8_take_29 : decode cX8_take 29 = .ok (.putfield 21, 3) := by decide +kernel
theorem dX8_take_32 : decode cX8_take 32 = .ok (.aload_n 0, 1) := by decide +kernel
theorem dX8_take_33 : decode cX8_take 33 = .ok (.aload_n 1, 1) := by decide +kernel
theorem dX8_take_34 : decode cX8_take 34 = .ok (.getfield 24, 3) := by decide +kernel
theorem dX8_take_37 : decode cX8_take 37 = .ok (.putfield 24, 3) := by decide +kernel
theorem dX8_take_40 : decode cX8_take 40 = .ok (.aload_n 0, 1) := by decide +kernel
theorem dX8_take_41 : decode cX8_take 41 = .ok (.aload_n 1, 1) := by decide +kernel
theorem dX8_take_42 : decode cX8_take 42 = .ok (.getfield 27, 3) := by decide +kernel
theorem dX8_take_45 : decode cX8_take 45 = .ok (.putfield 27, 3) := by decide +kernel
theorem dX8_take_48 : decode cX8_take 48 = .ok (.aload_n 0, 1) := by decide +kernel
theorem dX8_take_49 : decode cX8_take 49 = .ok (.aload_n 1, 1) := by decide +kernel
theorem dX8_take_50 : decode cX8_take 50 = .ok (.getfield 30, 3) := by decide +kernel
theorem dX8_take_53 : decode cX8_take 53 = .ok (.putfield 30, 3) := by decide +kernel
theorem dX8_take_56 : decode cX8_take 56 = .ok (.aload_n 0, 1) := by decide +kernel
theorem dX8_take_57 : decode cX8_take 57 = .ok (.aload_n 1, 1) := by decide +kernel
theorem dX8_take_58 : decode cX8_take 58 = .ok (.getfield 33, 3) := by decide +kernel
theorem dX8_take_61 : decode cX8_take 61 = .ok (.putfield 33, 3) := by decide +kernel
theorem dX8_take_64 : decode cX8_take 64 = .ok (.iconst 0, 1) := by decide +kernel
theorem dX8_take_65 : decode cX8_take 65 = .ok (.istore_n 2, 1) := by decide +kernel
theorem dX8_take_66 : decode cX8_take 66 = .ok (.iload_n 2, 1) := by decide +kernel
theorem dX8_take_67 : decode cX8_take 67 = .ok (.bipush 10, 2) := by decide +kernel
theorem dX8_take_69 : decode cX8_take 69 = .ok (.if_icmp .ge 28, 3) := by decide +kernel
theorem dX8_take_72 : decode cX8_take 72 = .ok (.aload_n 1, 1) := by decide +kernel
theorem dX8_take_73 : decode cX8_take 73 = .ok (.getfield 39, 3) := by decide +kernel
theorem dX8_take_76 : decode cX8_take 76 = .ok (.iload_n 2, 1) := by decide +kernel
theorem dX8_take_77 : decode cX8_take 77 = .ok (.aaload, 1) := by decide +kernel
theorem dX8_take_78 : decode cX8_take 78 = .ok (.iconst 0, 1) := by decide +kernel
theorem dX8_take_79 : decode cX8_take 79 = .ok (.aload_n 0, 1) := by decide +kernel
theorem dX8_take_80 : decode cX8_take 80 = .ok (.getfield 39, 3) := by decide +kernel
theorem dX8_take_83 : decode cX8_take 83 = .ok (.iload_n 2, 1) := by decide +kernel
theorem dX8_take_84 : decode cX8_take 84 = .ok (.aaload, 1) := by decide +kernel
theorem dX8_take_85 : decode cX8_take 85 = .ok (.iconst 0, 1) := by decide +kernel
theorem dX8_take_86 : decode cX8_take 86 = .ok (.bipush 6, 2) := by decide +kernel
theorem dX8_take_88 : decode cX8_take 88 = .ok (.invokestatic 59, 3) := by decide +kernel
theorem dX8_take_91 : decode cX8_take 91 = .ok (.iinc 2 1, 3) := by decide +kernel
theorem dX8_take_94 : decode cX8_take 94 = .ok (.goto (-28), 3) := by decide +kernel
theorem dX8_take_97 : decode cX8_take 97 = .ok (.iconst 0, 1) := by decide +kernel
theorem dX8_take_98 : decode cX8_take 98 = .ok (.istore_n 2, 1) := by decide +kernel
theorem dX8_take_99 : decode cX8_take 99 = .ok (.iload_n 2, 1) := by decide +kernel
theorem dX8_take_100 : decode cX8_take 100 = .ok (.bipush 10, 2) := by decide +kernel
theorem dX8_take_102 : decode cX8_take 102 = .ok (.if_icmp .ge 27, 3) := by decide +kernel
theorem dX8_take_105 : decode cX8_take 105 = .ok (.aload_n 1, 1) := by decide +kernel
theorem dX8_take_106 : decode cX8_take 106 = .ok (.getfield 42, 3) := by decide +kernel
theorem dX8_take_109 : decode cX8_take 109 = .ok (.iload_n 2, 1) := by decide +kernel
theorem dX8_take_110 : decode cX8_take 110 = .ok (.aaload, 1) := by decide +kernel
theorem dX8_take_111 : decode cX8_take 111 = .ok (.iconst 0, 1) := by decide +kernel
theorem dX8_take_112 : decode cX8_take 112 = .ok (.aload_n 0, 1) := by decide +kernel
theorem dX8_take_113 : decode cX8_take 113 = .ok (.getfield 42, 3) := by decide +kernel
theorem dX8_take_116 : decode cX8_take 116 = .ok (.iload_n 2, 1) := by decide +kernel
theorem dX8_take_117 : decode cX8_take 117 = .ok (.aaload, 1) := by decide +kernel
theorem dX8_take_118 : decode cX8_take 118 = .ok (.iconst 0, 1) := by decide +kernel
theorem dX8_take_119 : decode cX8_take 119 = .ok (.iconst 4, 1) := by decide +kernel
theorem dX8_take_120 : decode cX8_take 120 = .ok (.invokestatic 59, 3) := by decide +kernel
theorem dX8_take_123 : decode cX8_take 123 = .ok (.iinc 2 1, 3) := by decide +kernel
theorem dX8_take_126 : decode cX8_take 126 = .ok (.goto (-27), 3) := by decide +kernel
theorem dX8_take_129 : decode cX8_take 129 = .ok (.aload_n 1, 1) := by decide +kernel
theorem dX8_take_130 : decode cX8_take 130 = .ok (.getfield 45, 3) := by decide +kernel
theorem dX8_take_133 : decode cX8_take 133 = .ok (.iconst 0, 1) := by decide +kernel
theorem dX8_take_134 : decode cX8_take 134 = .ok (.aload_n 0, 1) := by decide +kernel
theorem dX8_take_135 : decode cX8_take 135 = .ok (.getfield 45, 3) := by decide +kernel
theorem dX8_take_138 : decode cX8_take 138 = .ok (.iconst 0, 1) := by decide +kernel
theorem dX8_take_139 : decode cX8_take 139 = .ok (.bipush 10, 2) := by decide +kernel
theorem dX8_take_141 : decode cX8_take 141 = .ok (.invokestatic 59, 3) := by decide +kernel
theorem dX8_take_144 : decode cX8_take 144 = .ok (.aload_n 1, 1) := by decide +kernel
theorem dX8_take_145 : decode cX8_take 145 = .ok (.getfield 49, 3) := by decide +kernel
theorem dX8_take_148 : decode cX8_take 148 = .ok (.iconst 0, 1) := by decide +kernel
theorem dX8_take_149 : decode cX8_take 149 = .ok (.aload_n 0, 1) := by decide +kernel
theorem dX8_take_150 : decode cX8_take 150 = .ok (.getfield 49, 3) := by decide +kernel
theorem dX8_take_153 : decode cX8_take 153 = .ok (.iconst 0, 1) := by decide +kernel
theorem dX8_take_154 : decode cX8_take 154 = .ok (.bipush 6, 2) := by decide +kernel
theorem dX8_take_156 : decode cX8_take 156 = .ok (.invokestatic 59, 3) := by decide +kernel
theorem dX8_take_159 : decode cX8_take 159 = .ok (.aload_n 1, 1) := by decide +kernel
theorem dX8_take_160 : decode cX8_take 160 = .ok (.getfield 52, 3) := by decide +kernel
theorem dX8_take_163 : decode cX8_take 163 = .ok (.iconst 0, 1) := by decide +kernel
theorem dX8_take_164 : decode cX8_take 164 = .ok (.aload_n 0, 1) := by decide +kernel
theorem dX8_take_165 : decode cX8_take 165 = .ok (.getfield 52, 3) := by decide +kernel
theorem dX8_take_168 : decode cX8_take 168 = .ok (.iconst 0, 1) := by decide +kernel
theorem dX8_take_169 : decode cX8_take 169 = .ok (.bipush 10, 2) := by decide +kernel
theorem dX8_take_171 : decode cX8_take 171 = .ok (.invokestatic 59, 3) := by decide +kernel
theorem dX8_take_174 : decode cX8_take 174 = .ok (.return_, 1) := by decide +kernel
set_option maxRecDepth 100000 in
theorem f_X8_take_L66_ok {E : EnvT} {C : Cx} {Mi : Mem} {x0 : Int} (h0 : x0 ≠ 0) (hC : CxOK E C cX8_take 3 yX8_take.cls 1 0 0) {M0 : Mem} (hq : RQ E C 0 0 Mi none none M0) {x1 : Int} {k : Mem → Option (Mem)} (hk : ∀ M24, Bk E C 3 Mi M0 97 [(0, 27, x0), (1, 27, x1)] [] M24 0 0 (k M24)) : ∀ (n : Nat) (p17 : Int) (M18 : Mem), Bk E C 3 Mi M0 66 [(0, 27, x0), (1, 27, x1), (2, 0, p17)] [] M18 0 0 (f_X8_take_L66 x0 x1 k n p17 M18) := by
  intro n
  induction n with
  | zero =>
    intro p17 M18
    exact r_none
  | succ n ih =>
    intro p17 M18
    rw [f_X8_take_L66]
    refine r_iload_n 66 hC 2 rfl rfl dX8_take_66 ?_
    refine r_bipush 67 hC kb_10 dX8_take_67 ?_
    refine r_icmp_ge 69 hC (tgt := 97) (by decide) dX8_take_69 ?_ ?_
    · exact r_sub [0, 1] rfl (hk M18)
    · refine r_aload_n 72 hC 1 rfl (Or.inl (by decide)) rfl dX8_take_72 ?_
      refine r_get 73 hC fd_7_8 fl_X8_39 dX8_take_73 (fun v19 => ?_)
      refine r_iload_n 76 hC 2 rfl rfl dX8_take_76 ?_
      refine r_aaloadI 77 hC dX8_take_77 (fun v20 => ?_)
      refine r_iconst 78 hC (r32c rfl) dX8_take_78 ?_
      refine r_aload_n 79 hC 0 rfl (Or.inl (by decide)) rfl dX8_take_79 ?_
      refine r_get 80 hC fd_7_8 fl_X8_39 dX8_take_80 (fun v21 => ?_)
      refine r_iload_n 83 hC 2 rfl rfl dX8_take_83 ?_
      refine r_aaloadI 84 hC dX8_take_84 (fun v22 => ?_)
      refine r_iconst 85 hC (r32c rfl) dX8_take_85 ?_
      refine r_bipush 86 hC kb_6 dX8_take_86 ?_
      refine r_copy 88 hC (by decide) ac_X8_59 cp_n cp_s cp_i (by decide) (Nat.le_of_ble_eq_true rfl) dX8_take_88 (fun M23 => ?_)
      refine r_iinc 91 hC 2 rfl (by decide) dX8_take_91 (r_eqls (ls' := [(2, 0, w32 (p17 + 1)), (0, 27, x0), (1, 27, x1)]) rfl ?_)
      refine r_goto 94 hC (tgt := 66) (by decide) dX8_take_94 ?_
      exact r_sub [1, 2, 0] rfl (ih (w32 (p17 + 1)) M23)
set_option maxRecDepth 100000 in
theorem f_X8_take_L99_ok {E : EnvT} {C : Cx} {Mi : Mem} {x0 : Int} (h0 : x0 ≠ 0) (hC : CxOK E C cX8_take 3 yX8_take.cls 1 0 0) {M0 : Mem} (hq : RQ E C 0 0 Mi none none M0) {x1 : Int} {k : Mem → Option (Mem)} (hk : ∀ M33, Bk E C 3 Mi M0 129 [(0, 27, x0), (1, 27, x1)] [] M33 0 0 (k M33)) : ∀ (n : Nat) (p26 : Int) (M27 : Mem), Bk E C 3 Mi M0 99 [(0, 27, x0), (1, 27, x1), (2, 0, p26)] [] M27 0 0 (f_X8_take_L99 x0 x1 k n p26 M27) := by
  intro n
  induction n with
  | zero =>
    intro p26 M27
    exact r_none
  | succ n ih =>
    intro p26 M27
    rw [f_X8_take_L99]
    refine r_iload_n 99 hC 2 rfl rfl dX8_take_99 ?_
    refine r_bipush 100 hC kb_10 dX8_take_100 ?_
    refine r_icmp_ge 102 hC (tgt := 129) (by decide) dX8_take_102 ?_ ?_
    · exact r_sub [0, 1] rfl (hk M27)
    · refine r_aload_n 105 hC 1 rfl (Or.inl (by decide)) rfl dX8_take_105 ?_
      refine r_get 106 hC fd_7_9 fl_X8_42 dX8_take_106 (fun v28 => ?_)
      refine r_iload_n 109 hC 2 rfl rfl dX8_take_109 ?_
      refine r_aaloadI 110 hC dX8_take_110 (fun v29 => ?_)
      refine r_iconst 111 hC (r32c rfl) dX8_take_111 ?_
      refine r_aload_n 112 hC 0 rfl (Or.inl (by decide)) rfl dX8_take_112 ?_
      refine r_get 113 hC fd_7_9 fl_X8_42 dX8_take_113 (fun v30 => ?_)
      refine r_iload_n 116 hC 2 rfl rfl dX8_take_116 ?_
      refine r_aaloadI 117 hC dX8_take_117 (fun v31 => ?_)
      refine r_iconst 118 hC (r32c rfl) dX8_take_118 ?_
      refine r_iconst 119 hC (r32c rfl) dX8_take_119 ?_
      refine r_copy 120 hC (by decide) ac_X8_59 cp_n cp_s cp_i (by decide) (Nat.le_of_ble_eq_true rfl) dX8_take_120 (fun M32 => ?_)
      refine r_iinc 123 hC 2 rfl (by decide) dX8_take_123 (r_eqls (ls' := [(2, 0, w32 (p26 + 1)), (0, 27, x0), (1, 27, x1)]) rfl ?_)
      refine r_goto 126 hC (tgt := 99) (by decide) dX8_take_126 ?_
      exact r_sub [1, 2, 0] rfl (ih (w32 (p26 + 1)) M32)
set_option maxRecDepth 100000 in
theorem t_X8_take (x0 x1 : Int) (M : Mem) (h0 : x0 ≠ 0) : MtV yX8_take cX8_take 3 none 1 0 0 [(27, x0), (27, x1)] M (f_X8_take x0 x1 M) := by
  refine mk_V (by decide +kernel) (Nat.le_of_ble_eq_true rfl) (fun E C M0 hC hq hin => ?_)
  refine r_eqls (ls' := [(0, 27, x0), (1, 27, x1)]) rfl ?_
  unfold f_X8_take
  refine r_aload_n 0 hC 0 rfl (Or.inl (by decide)) rfl dX8_take_0 ?_
  refine r_aload_n 1 hC 1 rfl (Or.inl (by decide)) rfl dX8_take_1 ?_
  refine r_get 2 hC fd_7_0 fl_X8_9 dX8_take_2 (fun v1 => ?_)
  refine r_put 5 hC fd_7_0 fl_X8_9 dX8_take_5 (fun M2 => ?_)
  refine r_aload_n 8 hC 0 rfl (Or.inl (by decide)) rfl dX8_take_8 ?_
  refine r_aload_n 9 hC 1 rfl (Or.inl (by decide)) rfl dX8_take_9 ?_
  refine r_get 10 hC fd_7_1 fl_X8_15 dX8_take_10 (fun v3 => ?_)
  refine r_put 13 hC fd_7_1 fl_X8_15 dX8_take_13 (fun M4 => ?_)
  refine r_aload_n 16 hC 0 rfl (Or.inl (by decide)) rfl dX8_take_16 ?_
  refine r_aload_n 17 hC 1 rfl (Or.inl (by decide)) rfl dX8_take_17 ?_
  refine r_get 18 hC fd_7_2 fl_X8_18 dX8_take_18 (fun v5 => ?_)
  refine r_put 21 hC fd_7_2 fl_X8_18 dX8_take_21 (fun M6 => ?_)
  refine r_aload_n 24 hC 0 rfl (Or.inl (by decide)) rfl dX8_take_24 ?_
  refine r_aload_n 25 hC 1 rfl (Or.inl (by decide)) rfl dX8_take_25 ?_
  refine r_get 26 hC fd_7_3 fl_X8_21 dX8_take_26 (fun v7 => ?_)
  refine r_put 29 hC fd_7_3 fl_X8_21 dX8_take_29 (fun M8 => ?_)
  refine r_aload_n 32 hC 0 rfl (Or.inl (by decide)) rfl dX8_take_32 ?_
  refine r_aload_n 33 hC 1 rfl (Or.inl (by decide)) rfl dX8_take_33 ?_
  refine r_get 34 hC fd_7_4 fl_X8_24 dX8_take_34 (fun v9 => ?_)
  refine r_put 37 hC fd_7_4 fl_X8_24 dX8_take_37 (fun M10 => ?_)
  refine r_aload_n 40 hC 0 rfl (Or.inl (by decide)) rfl dX8_take_40 ?_
  refine r_aload_n 41 hC 1 rfl (Or.inl (by decide)) rfl dX8_take_41 ?_
  refine r_get 42 hC fd_7_5 fl_X8_27 dX8_take_42 (fun v11 => ?_)
  refine r_put 45 hC fd_7_5 fl_X8_27 dX8_take_45 (fun M12 => ?_)
  refine r_aload_n 48 hC 0 rfl (Or.inl (by decide)) rfl dX8_take_48 ?_
  refine r_aload_n 49 hC 1 rfl (Or.inl (by decide)) rfl dX8_take_49 ?_
  refine r_get 50 hC fd_7_6 fl_X8_30 dX8_take_50 (fun v13 => ?_)
  refine r_put 53 hC fd_7_6 fl_X8_30 dX8_take_53 (fun M14 => ?_)
  refine r_aload_n 56 hC 0 rfl (Or.inl (by decide)) rfl dX8_take_56 ?_
  refine r_aload_n 57 hC 1 rfl (Or.inl (by decide)) rfl dX8_take_57 ?_
  refine r_get 58 hC fd_7_7 fl_X8_33 dX8_take_58 (fun v15 => ?_)
  refine r_put 61 hC fd_7_7 fl_X8_33 dX8_take_61 (fun M16 => ?_)
  refine r_iconst 64 hC (r32c rfl) dX8_take_64 ?_
  refine r_istore_n 65 hC rfl (by decide) dX8_take_65 (r_eqls (ls' := [(2, 0, 0), (0, 27, x0), (1, 27, x1)]) rfl ?_)
  refine r_sub [1, 2, 0] rfl (f_X8_take_L66_ok h0 hC hq (fun M25 => ?_) KF 0 M16)
  · refine r_iconst 97 hC (r32c rfl) dX8_take_97 ?_
    refine r_istore_n 98 hC rfl (by decide) dX8_take_98 (r_eqls (ls' := [(2, 0, 0), (0, 27, x0), (1, 27, x1)]) rfl ?_)
    refine r_sub [1, 2, 0] rfl (f_X8_take_L99_ok h0 hC hq (fun M34 => ?_) KF 0 M25)
    · refine r_aload_n 129 hC 1 rfl (Or.inl (by decide)) rfl dX8_take_129 ?_
      refine r_get 130 hC fd_7_10 fl_X8_45 dX8_take_130 (fun v35 => ?_)
      refine r_iconst 133 hC (r32c rfl) dX8_take_133 ?_
      refine r_aload_n 134 hC 0 rfl (Or.inl (by decide)) rfl dX8_take_134 ?_
      refine r_get 135 hC fd_7_10 fl_X8_45 dX8_take_135 (fun v36 => ?_)
      refine r_iconst 138 hC (r32c rfl) dX8_take_138 ?_
      refine r_bipush 139 hC kb_10 dX8_take_139 ?_
      refine r_copy 141 hC (by decide) ac_X8_59 cp_n cp_s cp_i (by decide) (Nat.le_of_ble_eq_true rfl) dX8_take_141 (fun M37 => ?_)
      refine r_aload_n 144 hC 1 rfl (Or.inl (by decide)) rfl dX8_take_144 ?_
      refine r_get 145 hC fd_7_11 fl_X8_49 dX8_take_145 (fun v38 => ?_)
      refine r_iconst 148 hC (r32c rfl) dX8_take_148 ?_
      refine r_aload_n 149 hC 0 rfl (Or.inl (by decide)) rfl dX8_take_149 ?_
      refine r_get 150 hC fd_7_11 fl_X8_49 dX8_take_150 (fun v39 => ?_)
      refine r_iconst 153 hC (r32c rfl) dX8_take_153 ?_
      refine r_bipush 154 hC kb_6 dX8_take_154 ?_
      refine r_copy 156 hC (by decide) ac_X8_59 cp_n cp_s cp_i (by decide) (Nat.le_of_ble_eq_true rfl) dX8_take_156 (fun M40 => ?_)
      refine r_aload_n 159 hC 1 rfl (Or.inl (by decide)) rfl dX8_take_159 ?_
      refine r_get 160 hC fd_7_12 fl_X8_52 dX8_take_160 (fun v41 => ?_)
      refine r_iconst 163 hC (r32c rfl) dX8_take_163 ?_
      refine r_aload_n 164 hC 0 rfl (Or.inl (by decide)) rfl dX8_take_164 ?_
      refine r_get 165 hC fd_7_12 fl_X8_52 dX8_take_165 (fun v42 => ?_)
      refine r_iconst 168 hC (r32c rfl) dX8_take_168 ?_
      refine r_bipush 169 hC kb_10 dX8_take_169 ?_
      refine r_copy 171 hC (by decide) ac_X8_59 cp_n cp_s cp_i (by decide) (Nat.le_of_ble_eq_true rfl) dX8_take_171 (fun M43 => ?_)
      exact r_return 174 hC hq (by decide) (by decide) dX8_take_174

/-! WaterTurns$Valley.fieldsBelow(I)I -/
theorem dX8_fieldsBelow_0 : decode cX8_fieldsBelow 0 = .ok (.iconst 1, 1) := by decide +kernel
theorem dX8_fieldsBelow_1 : decode cX8_fieldsBelow 1 = .ok (.iload_n 1, 1) := by decide +kernel
theorem dX8_fieldsBelow_2 : decode cX8_fieldsBelow 2 = .ok (.ishl, 1) := by decide +kernel
theorem dX8_fieldsBelow_3 : decode cX8_fieldsBelow 3 = .ok (.istore_n 2, 1) := by decide +kernel
theorem dX8_fieldsBelow_4 : decode cX8_fieldsBelow 4 = .ok (.iload_n 1, 1) := by decide +kernel
theorem dX8_fieldsBelow_5 : decode cX8_fieldsBelow 5 = .ok (.iconst 1, 1) := by decide +kernel
theorem dX8_fieldsBelow_6 : decode cX8_fieldsBelow 6 = .ok (.iadd, 1) := by decide +kernel
theorem dX8_fieldsBelow_7 : decode cX8_fieldsBelow 7 = .ok (.istore_n 3, 1) := by decide +kernel
theorem dX8_fieldsBelow_8 : decode cX8_fieldsBelow 8 = .ok (.iload_n 3, 1) := by decide +kernel
theorem dX8_fieldsBelow_9 : decode cX8_fieldsBelow 9 = .ok (.aload_n 0, 1) := by decide +kernel
theorem dX8_fieldsBelow_10 : decode cX8_fieldsBelow 10 = .ok (.getfield 21, 3) := by decide +kernel
theorem dX8_fieldsBelow_13 : decode cX8_fieldsBelow 13 = .ok (.if_icmp .ge 43, 3) := by decide +kernel
theorem dX8_fieldsBelow_16 : decode cX8_fieldsBelow 16 = .ok (.aload_n 0, 1) := by decide +kernel
theorem dX8_fieldsBelow_17 : decode cX8_fieldsBelow 17 = .ok (.getfield 39, 3) := by decide +kernel
theorem dX8_fieldsBelow_20 : decode cX8_fieldsBelow 20 = .ok (.iload_n 3, 1) := by decide +kernel
theorem dX8_fieldsBelow_21 : decode cX8_fieldsBelow 21 = .ok (.aaload, 1) := by decide +kernel
theorem dX8_fieldsBelow_22 : decode cX8_fieldsBelow 22 = .ok (.iconst 0, 1) := by decide +kernel
theorem dX8_fieldsBelow_23 : decode cX8_fieldsBelow 23 = .ok (.iaload, 1) := by decide +kernel
theorem dX8_fieldsBelow_24 : decode cX8_fieldsBelow 24 = .ok (.iconst (-1), 1) := by decide +kernel
theorem dX8_fieldsBelow_25 : decode cX8_fieldsBelow 25 = .ok (.if_icmp .eq 25, 3) := by decide +kernel
theorem dX8_fieldsBelow_28 : decode cX8_fieldsBelow 28 = .ok (.iload_n 2, 1) := by decide +kernel
theorem dX8_fieldsBelow_29 : decode cX8_fieldsBelow 29 = .ok (.aload_n 0, 1) := by decide +kernel
theorem dX8_fieldsBelow_30 : decode cX8_fieldsBelow 30 = .ok (.getfield 39, 3) := by decide +kernel
theorem dX8_fieldsBelow_33 : decode cX8_fieldsBelow 33 = .ok (.iload_n 3, 1) := by decide +kernel
theorem dX8_fieldsBelow_34 : decode cX8_fieldsBelow 34 = .ok (.aaload, 1) := by decide +kernel
theorem dX8_fieldsBelow_35 : decode cX8_fieldsBelow 35 = .ok (.iconst 0, 1) := by decide +kernel
theorem dX8_fieldsBelow_36 : decode cX8_fieldsBelow 36 = .ok (.iaload, 1) := by decide +kernel
theorem dX8_fieldsBelow_37 : decode cX8_fieldsBelow 37 = .ok (.ishr, 1) := by decide +kernel
theorem dX8_fieldsBelow_38 : decode cX8_fieldsBelow 38 = .ok (.iconst 1, 1) := by decide +kernel
theorem dX8_fieldsBelow_39 : decode cX8_fieldsBelow 39 = .ok (.iand, 1) := by decide +kernel
theorem dX8_fieldsBelow_40 : decode cX8_fieldsBelow 40 = .ok (.iconst 1, 1) := by decide +kernel
theorem dX8_fieldsBelow_41 : decode cX8_fieldsBelow 41 = .ok (.if_icmp .ne 9, 3) := by decide +kernel
theorem dX8_fieldsBelow_44 : decode cX8_fieldsBelow 44 = .ok (.iload_n 2, 1) := by decide +kernel
theorem dX8_fieldsBelow_45 : decode cX8_fieldsBelow 45 = .ok (.iconst 1, 1) := by decide +kernel
theorem dX8_fieldsBelow_46 : decode cX8_fieldsBelow 46 = .ok (.iload_n 3, 1) := by decide +kernel
theorem dX8_fieldsBelow_47 : decode cX8_fieldsBelow 47 = .ok (.ishl, 1) := by decide +kernel
theorem dX8_fieldsBelow_48 : decode cX8_fieldsBelow 48 = .ok (.ior, 1) := by decide +kernel
theorem dX8_fieldsBelow_49 : decode cX8_fieldsBelow 49 = .ok (.istore_n 2, 1) := by decide +kernel
theorem dX8_fieldsBelow_50 : decode cX8_fieldsBelow 50 = .ok (.iinc 3 1, 3) := by decide +kernel
theorem dX8_fieldsBelow_53 : decode cX8_fieldsBelow 53 = .ok (.goto (-45), 3) := by decide +kernel
theorem dX8_fieldsBelow_56 : decode cX8_fieldsBelow 56 = .ok (.iconst 0, 1) := by decide +kernel
theorem dX8_fieldsBelow_57 : decode cX8_fieldsBelow 57 = .ok (.istore_n 3, 1) := by decide +kernel
theorem dX8_fieldsBelow_58 : decode cX8_fieldsBelow 58 = .ok (.iconst 0, 1) := by decide +kernel
theorem dX8_fieldsBelow_59 : decode cX8_fieldsBelow 59 = .ok (.istore 4, 2) := by decide +kernel
theorem dX8_fieldsBelow_61 : decode cX8_fieldsBelow 61 = .ok (.iload 4, 2) := by decide +kernel
theorem dX8_fieldsBelow_63 : decode cX8_fieldsBelow 63 = .ok (.aload_n 0, 1) := by decide +kernel
theorem dX8_fieldsBelow_64 : decode cX8_fieldsBelow 64 = .ok (.getfield 27, 3) := by decide +kernel
theorem dX8_fieldsBelow_67 : decode cX8_fieldsBelow 67 = .ok (.if_icmp .ge 28, 3) := by decide +kernel
theorem dX8_fieldsBelow_70 : decode cX8_fieldsBelow 70 = .ok (.iload_n 3, 1) := by decide +kernel
theorem dX8_fieldsBelow_71 : decode cX8_fieldsBelow 71 = .ok (.iload_n 2, 1) := by decide +kernel
theorem dX8_fieldsBelow_72 : decode cX8_fieldsBelow 72 = .ok (.aload_n 0, 1) := by decide +kernel
theorem dX8_fieldsBelow_73 : decode cX8_fieldsBelow 73 = .ok (.getfield 42, 3) := by decide +kernel
theorem dX8_fieldsBelow_76 : decode cX8_fieldsBelow 76 = .ok (.iload 4, 2) := by decide +kernel
theorem dX8_fieldsBelow_78 : decode cX8_fieldsBelow 78 = .ok (.aaload, 1) := by decide +kernel
theorem dX8_fieldsBelow_79 : decode cX8_fieldsBelow 79 = .ok (.iconst 0, 1) := by decide +kernel
theorem dX8_fieldsBelow_80 : decode cX8_fieldsBelow 80 = .ok (.iaload, 1) := by decide +kernel
theorem dX8_fieldsBelow_81 : decode cX8_fieldsBelow 81 = .ok (.ishr, 1) := by decide +kernel
theorem dX8_fieldsBelow_82 : decode cX8_fieldsBelow 82 = .ok (.iconst 1, 1) := by decide +kernel
theorem dX8_fieldsBelow_83 : decode cX8_fieldsBelow 83 = .ok (.iand, 1) := by decide +kernel
theorem dX8_fieldsBelow_84 : decode cX8_fieldsBelow 84 = .ok (.iload 4, 2) := by decide +kernel
theorem dX8_fieldsBelow_86 : decode cX8_fieldsBelow 86 = .ok (.ishl, 1) := by decide +kernel
theorem dX8_fieldsBelow_87 : decode cX8_fieldsBelow 87 = .ok (.ior, 1) := by decide +kernel
theorem dX8_fieldsBelow_88 : decode cX8_fieldsBelow 88 = .ok (.istore_n 3, 1) := by decide +kernel
theorem dX8_fieldsBelow_89 : decode cX8_fieldsBelow 89 = .ok (.iinc 4 1, 3) := by decide +kernel
theorem dX8_fieldsBelow_92 : decode cX8_fieldsBelow 92 = .ok (.goto (-31), 3) := by decide +kernel
theorem dX8_fieldsBelow_95 : decode cX8_fieldsBelow 95 = .ok (.iload_n 3, 1) := by decide +kernel
theorem dX8_fieldsBelow_96 : decode cX8_fieldsBelow 96 = .ok (.ireturn, 1) := by decide +kernel
set_option maxRecDepth 100000 in
theorem f_X8_fieldsBelow_L8_ok {E : EnvT} {C : Cx} {Mi M : Mem} {x0 : Int} (h0 : x0 ≠ 0) (hC : CxOK E C cX8_fieldsBelow 5 yX8_fieldsBelow.cls 1 0 0) {r0 : Int} (hq : RQ E C 0 0 Mi (some .int) (some (0, r0)) M) {k : Int → Option (Int)} (hk : ∀ q14, Bk E C 5 Mi r0 56 [(0, 27, x0), (2, 0, q14)] [] M 0 0 (k q14)) : ∀ (n : Nat) (p3 : Int) (p4 : Int), Bk E C 5 Mi r0 8 [(0, 27, x0), (2, 0, p3), (3, 0, p4)] [] M 0 0 (f_X8_fieldsBelow_L8 M x0 k n p3 p4) := by
  intro n
  induction n with
  | zero =>
    intro p3 p4
    exact r_none
  | succ n ih =>
    intro p3 p4
    rw [f_X8_fieldsBelow_L8]
    refine r_iload_n 8 hC 2 rfl rfl dX8_fieldsBelow_8 ?_
    refine r_aload_n 9 hC 0 rfl (Or.inl (by decide)) rfl dX8_fieldsBelow_9 ?_
    refine r_get 10 hC fd_7_3 fl_X8_21 dX8_fieldsBelow_10 (fun v5 => ?_)
    refine r_icmp_ge 13 hC (tgt := 56) (by decide) dX8_fieldsBelow_13 ?_ ?_
    · exact r_sub [0, 1] rfl (hk p3)
    · refine r_aload_n 16 hC 0 rfl (Or.inl (by decide)) rfl dX8_fieldsBelow_16 ?_
      refine r_get 17 hC fd_7_8 fl_X8_39 dX8_fieldsBelow_17 (fun v6 => ?_)
      refine r_iload_n 20 hC 2 rfl rfl dX8_fieldsBelow_20 ?_
      refine r_aaloadI 21 hC dX8_fieldsBelow_21 (fun v7 => ?_)
      refine r_iconst 22 hC (r32c rfl) dX8_fieldsBelow_22 ?_
      refine r_iaload 23 hC dX8_fieldsBelow_23 (fun v8 => ?_)
      refine r_iconst 24 hC (r32c rfl) dX8_fieldsBelow_24 ?_
      refine r_jn (P := fun j50 => ∀ (q9 : Int), Bk E C 5 Mi r0 50 [(0, 27, x0), (2, 0, q9), (3, 0, p4)] [] M 0 0 (j50 q9)) ?_ (fun j50 hj50 => ?_)
      · intro q9
        refine r_iinc 50 hC 2 rfl (by decide) dX8_fieldsBelow_50 (r_eqls (ls' := [(3, 0, w32 (p4 + 1)), (0, 27, x0), (2, 0, q9)]) rfl ?_)
        refine r_goto 53 hC (tgt := 8) (by decide) dX8_fieldsBelow_53 ?_
        exact r_sub [1, 2, 0] rfl (ih q9 (w32 (p4 + 1)))
      refine r_icmp_eq 25 hC (tgt := 50) (by decide) dX8_fieldsBelow_25 ?_ ?_
      · exact hj50 p3
      · refine r_iload_n 28 hC 1 rfl rfl dX8_fieldsBelow_28 ?_
        refine r_aload_n 29 hC 0 rfl (Or.inl (by decide)) rfl dX8_fieldsBelow_29 ?_
        refine r_get 30 hC fd_7_8 fl_X8_39 dX8_fieldsBelow_30 (fun v10 => ?_)
        refine r_iload_n 33 hC 2 rfl rfl dX8_fieldsBelow_33 ?_
        refine r_aaloadI 34 hC dX8_fieldsBelow_34 (fun v11 => ?_)
        refine r_iconst 35 hC (r32c rfl) dX8_fieldsBelow_35 ?_
        refine r_iaload 36 hC dX8_fieldsBelow_36 (fun v12 => ?_)
        refine r_ishr 37 hC dX8_fieldsBelow_37 ?_
        refine r_iconst 38 hC (r32c rfl) dX8_fieldsBelow_38 ?_
        refine r_iand 39 hC dX8_fieldsBelow_39 ?_
        refine r_iconst 40 hC (r32c rfl) dX8_fieldsBelow_40 ?_
        refine r_icmp_ne 41 hC (tgt := 50) (by decide) dX8_fieldsBelow_41 ?_ ?_
        · exact hj50 p3
        · refine r_iload_n 44 hC 1 rfl rfl dX8_fieldsBelow_44 ?_
          refine r_iconst 45 hC (r32c rfl) dX8_fieldsBelow_45 ?_
          refine r_iload_n 46 hC 2 rfl rfl dX8_fieldsBelow_46 ?_
          refine r_ishl 47 hC dX8_fieldsBelow_47 ?_
          refine r_ior 48 hC dX8_fieldsBelow_48 ?_
          refine r_istore_nL 49 hC rfl (by decide) dX8_fieldsBelow_49 (fun v13 => r_eqls (ls' := [(2, 0, v13), (0, 27, x0), (3, 0, p4)]) rfl ?_)
          exact r_sub [1, 0, 2] rfl (hj50 v13)
set_option maxRecDepth 100000 in
theorem f_X8_fieldsBelow_L61_ok {E : EnvT} {C : Cx} {Mi M : Mem} {x0 : Int} (h0 : x0 ≠ 0) (hC : CxOK E C cX8_fieldsBelow 5 yX8_fieldsBelow.cls 1 0 0) {r0 : Int} (hq : RQ E C 0 0 Mi (some .int) (some (0, r0)) M) {q15 : Int} {k : Int → Option (Int)} (hk : ∀ q23, Bk E C 5 Mi r0 95 [(3, 0, q23)] [] M 0 0 (k q23)) : ∀ (n : Nat) (p16 : Int) (p17 : Int), Bk E C 5 Mi r0 61 [(0, 27, x0), (2, 0, q15), (3, 0, p16), (4, 0, p17)] [] M 0 0 (f_X8_fieldsBelow_L61 M q15 x0 k n p16 p17) := by
  intro n
  induction n with
  | zero =>
    intro p16 p17
    exact r_none
  | succ n ih =>
    intro p16 p17
    rw [f_X8_fieldsBelow_L61]
    refine r_iload 61 hC 3 rfl dX8_fieldsBelow_61 ?_
    refine r_aload_n 63 hC 0 rfl (Or.inl (by decide)) rfl dX8_fieldsBelow_63 ?_
    refine r_get 64 hC fd_7_5 fl_X8_27 dX8_fieldsBelow_64 (fun v18 => ?_)
    refine r_icmp_ge 67 hC (tgt := 95) (by decide) dX8_fieldsBelow_67 ?_ ?_
    · exact r_sub [2] rfl (hk p16)
    · refine r_iload_n 70 hC 2 rfl rfl dX8_fieldsBelow_70 ?_
      refine r_iload_n 71 hC 1 rfl rfl dX8_fieldsBelow_71 ?_
      refine r_aload_n 72 hC 0 rfl (Or.inl (by decide)) rfl dX8_fieldsBelow_72 ?_
      refine r_get 73 hC fd_7_9 fl_X8_42 dX8_fieldsBelow_73 (fun v19 => ?_)
      refine r_iload 76 hC 3 rfl dX8_fieldsBelow_76 ?_
      refine r_aaloadI 78 hC dX8_fieldsBelow_78 (fun v20 => ?_)
      refine r_iconst 79 hC (r32c rfl) dX8_fieldsBelow_79 ?_
      refine r_iaload 80 hC dX8_fieldsBelow_80 (fun v21 => ?_)
      refine r_ishr 81 hC dX8_fieldsBelow_81 ?_
      refine r_iconst 82 hC (r32c rfl) dX8_fieldsBelow_82 ?_
      refine r_iand 83 hC dX8_fieldsBelow_83 ?_
      refine r_iload 84 hC 3 rfl dX8_fieldsBelow_84 ?_
      refine r_ishl 86 hC dX8_fieldsBelow_86 ?_
      refine r_ior 87 hC dX8_fieldsBelow_87 ?_
      refine r_istore_nL 88 hC rfl (by decide) dX8_fieldsBelow_88 (fun v22 => r_eqls (ls' := [(3, 0, v22), (0, 27, x0), (2, 0, q15), (4, 0, p17)]) rfl ?_)
      refine r_iinc 89 hC 3 rfl (by decide) dX8_fieldsBelow_89 (r_eqls (ls' := [(4, 0, w32 (p17 + 1)), (3, 0, v22), (0, 27, x0), (2, 0, q15)]) rfl ?_)
      refine r_goto 92 hC (tgt := 61) (by decide) dX8_fieldsBelow_92 ?_
      exact r_sub [2, 3, 1, 0] rfl (ih v22 (w32 (p17 + 1)))
set_option maxRecDepth 100000 in
theorem t_X8_fieldsBelow (x0 x1 : Int) (M : Mem) (h0 : x0 ≠ 0) : MtP yX8_fieldsBelow cX8_fieldsBelow 5 (some .int) 1 0 0 [(27, x0), (0, x1)] M 0 (f_X8_fieldsBelow x0 x1 M) := by
  refine mk_P (by decide +kernel) (Nat.le_of_ble_eq_true rfl) (fun E C r0 hC hq hin => ?_)
  refine r_eqls (ls' := [(0, 27, x0), (1, 0, x1)]) rfl ?_
  unfold f_X8_fieldsBelow
  refine r_iconst 0 hC (r32c rfl) dX8_fieldsBelow_0 ?_
  refine r_iload_n 1 hC 1 rfl rfl dX8_fieldsBelow_1 ?_
  refine r_ishl 2 hC dX8_fieldsBelow_2 ?_
  refine r_istore_nL 3 hC rfl (by decide) dX8_fieldsBelow_3 (fun v1 => r_eqls (ls' := [(2, 0, v1), (0, 27, x0), (1, 0, x1)]) rfl ?_)
  refine r_iload_n 4 hC 2 rfl rfl dX8_fieldsBelow_4 ?_
  refine r_iconst 5 hC (r32c rfl) dX8_fieldsBelow_5 ?_
  refine r_iadd 6 hC dX8_fieldsBelow_6 ?_
  refine r_istore_nL 7 hC rfl (by decide) dX8_fieldsBelow_7 (fun v2 => r_eqls (ls' := [(3, 0, v2), (2, 0, v1), (0, 27, x0), (1, 0, x1)]) rfl ?_)
  refine r_sub [2, 1, 0] rfl (f_X8_fieldsBelow_L8_ok h0 hC hq (fun q15 => ?_) KF v1 v2)
  · refine r_iconst 56 hC (r32c rfl) dX8_fieldsBelow_56 ?_
    refine r_istore_n 57 hC rfl (by decide) dX8_fieldsBelow_57 (r_eqls (ls' := [(3, 0, 0), (0, 27, x0), (2, 0, q15)]) rfl ?_)
    refine r_iconst 58 hC (r32c rfl) dX8_fieldsBelow_58 ?_
    refine r_istore 59 hC (by decide) dX8_fieldsBelow_59 (r_eqls (ls' := [(4, 0, 0), (3, 0, 0), (0, 27, x0), (2, 0, q15)]) rfl ?_)
    refine r_sub [2, 3, 1, 0] rfl (f_X8_fieldsBelow_L61_ok h0 hC hq (fun q24 => ?_) KF 0 0)
    · refine r_iload_n 95 hC 0 rfl rfl dX8_fieldsBelow_95 ?_
      exact r_ireturnP 96 hC hq (by decide) (by decide) dX8_fieldsBelow_96

/-! WaterTurns$ValleyReader.readHead(LWaterTurns$Tape;LWaterTurns$Valley;)Z -/
theorem dX9_readHead_0 : decode cX9_readHead 0 = .ok (.aload_n 1, 1) := by decide +kernel
theorem dX9_readHead_1 : decode cX9_readHead 1 = .ok (.getfield 55, 3) := by decide +kernel
theorem dX9_readHead_4 : decode cX9_readHead 4 = .ok (.iconst (-1), 1) := by decide +kernel
theorem dX9_readHead_5 : decode cX9_readHead 5 = .ok (.if_icmp .eq 9, 3) := by decide +kernel
theorem dX9_readHead_8 : decode cX9_readHead 8 = .ok (.aload_n 0, 1) := by decide +kernel
theorem dX9_readHead_9 : decode cX9_readHead 9 = .ok (.iconst 5, 1) := by decide +kernel
theorem dX9_readHead_10 : decode cX9_readHead 10 = .ok (.invokevirtual 52, 3) := by decide +kernel
theorem dX9_readHead_13 : decode cX9_readHead 13 = .ok (.ireturn, 1) := by decide +kernel
theorem dX9_readHead_14 : decode cX9_readHead 14 = .ok (.aload_n 0, 1) := by decide +kernel
theorem dX9_readHead_15 : decode cX9_readHead 15 = .ok (.invokevirtual 59, 3) := by decide +kernel
theorem dX9_readHead_18 : decode cX9_readHead 18 = .ok (.aload_n 1, 1) := by decide +kernel
theorem dX9_readHead_19 : decode cX9_readHead 19 = .ok (.aload_n 0, 1) := by decide +kernel
theorem dX9_readHead_20 : decode cX9_readHead 20 = .ok (.iconst 0, 1) := by decide +kernel
theorem dX9_readHead_21 : decode cX9_readHead 21 = .ok (.sipush 999, 3) := by decide +kernel
theorem dX9_readHead_24 : decode cX9_readHead 24 = .ok (.invokevirtual 62, 3) := by decide +kernel
theorem dX9_readHead_27 : decode cX9_readHead 27 = .ok (.putfield 55, 3) := by decide +kernel
theorem dX9_readHead_30 : decode cX9_readHead 30 = .ok (.aload_n 1, 1) := by decide +kernel
theorem dX9_readHead_31 : decode cX9_readHead 31 = .ok (.getfield 55, 3) := by decide +kernel
theorem dX9_readHead_34 : decode cX9_readHead 34 = .ok (.iconst (-1), 1) := by decide +kernel
theorem dX9_readHead_35 : decode cX9_readHead 35 = .ok (.if_icmp .eq 14, 3) := by decide +kernel
theorem dX9_readHead_38 : decode cX9_readHead 38 = .ok (.aload_n 0, 1) := by decide +kernel
theorem dX9_readHead_39 : decode cX9_readHead 39 = .ok (.invokevirtual 66, 3) := by decide +kernel
theorem dX9_readHead_42 : decode cX9_readHead 42 = .ok (.ifCond .eq 7, 3) := by decide +kernel
theorem dX9_readHead_45 : decode cX9_readHead 45 = .ok (.iconst 1, 1) := by decide +kernel
theorem dX9_readHead_46 : decode cX9_readHead 46 = .ok (.goto 4, 3) := by decide +kernel
theorem dX9_readHead_49 : decode cX9_readHead 49 = .ok (.iconst 0, 1) := by decide +kernel
theorem dX9_readHead_50 : decode cX9_readHead 50 = .ok (.ireturn, 1) := by decide +kernel
set_option maxRecDepth 100000 in
theorem t_X9_readHead (x0 x1 : Int) (M : Mem) : MtI yX9_readHead cX9_readHead 2 (some .boolean) 4 0 0 [(25, x0), (27, x1)] M 0 (f_X9_readHead x0 x1 M) := by
  refine mk_I (by decide +kernel) (Nat.le_of_ble_eq_true rfl) (fun E C r0 M0 hC hq hin => ?_)
  refine r_eqls (ls' := [(0, 25, x0), (1, 27, x1)]) rfl ?_
  unfold f_X9_readHead
  refine r_aload_n 0 hC 1 rfl (Or.inl (by decide)) rfl dX9_readHead_0 ?_
  refine r_get 1 hC fd_7_0 fl_X9_55 dX9_readHead_1 (fun v1 => ?_)
  refine r_iconst 4 hC (r32c rfl) dX9_readHead_4 ?_
  refine r_icmp_eq 5 hC (tgt := 14) (by decide) dX9_readHead_5 ?_ ?_
  · refine r_aload_n 14 hC 0 rfl (Or.inl (by decide)) rfl dX9_readHead_14 ?_
    refine r_nn (fun hn2 => ?_)
    refine r_callVV 15 hC [] [] rfl vl_X9_59 rfl hn2 (by decide) (Nat.le_of_ble_eq_true rfl) (by decide) (by decide) dX9_readHead_15 (t_X6_step x0 M hn2) (fun M3 => ?_)
    refine r_aload_n 18 hC 1 rfl (Or.inl (by decide)) rfl dX9_readHead_18 ?_
    refine r_aload_n 19 hC 0 rfl (Or.inl (by decide)) rfl dX9_readHead_19 ?_
    refine r_iconst 20 hC (r32c rfl) dX9_readHead_20 ?_
    refine r_sipush 21 hC ks_999 dX9_readHead_21 ?_
    refine r_callVI 24 hC [(0, 0), (0, 999)] [(27, x1)] rfl vl_X9_62 rfl hn2 (by decide) (Nat.le_of_ble_eq_true rfl) (by decide) (by decide) dX9_readHead_24 (t_X6_takeNumber x0 0 999 M3 hn2) (fun v4 M5 => ?_)
    refine r_put 27 hC fd_7_0 fl_X9_55 dX9_readHead_27 (fun M6 => ?_)
    refine r_aload_n 30 hC 1 rfl (Or.inl (by decide)) rfl dX9_readHead_30 ?_
    refine r_get 31 hC fd_7_0 fl_X9_55 dX9_readHead_31 (fun v7 => ?_)
    refine r_iconst 34 hC (r32c rfl) dX9_readHead_34 ?_
    refine r_jn (P := fun j50 => ∀ (q8 : Int) (M9 : Mem), Bk E C 2 M (r0, M0) 50 [] [(0, q8)] M9 0 0 (j50 q8 M9)) ?_ (fun j50 hj50 => ?_)
    · intro q8 M9
      exact r_zreturn 50 hC hq (by decide) (by decide) dX9_readHead_50
    refine r_jn (P := fun j49 => ∀ (M10 : Mem), Bk E C 2 M (r0, M0) 49 [] [] M10 0 0 (j49 M10)) ?_ (fun j49 hj49 => ?_)
    · intro M10
      refine r_iconst 49 hC (r32c rfl) dX9_readHead_49 ?_
      exact hj50 0 M10
    refine r_icmp_eq 35 hC (tgt := 49) (by decide) dX9_readHead_35 ?_ ?_
    · exact r_sub [] rfl (hj49 M6)
    · refine r_aload_n 38 hC 0 rfl (Or.inl (by decide)) rfl dX9_readHead_38 ?_
      refine r_callVI 39 hC [] [] rfl vl_X9_66 rfl hn2 (by decide) (Nat.le_of_ble_eq_true rfl) (by decide) (by decide) dX9_readHead_39 (t_X6_skipSemicolon x0 M6 hn2) (fun v11 M12 => ?_)
      refine r_if_eq 42 hC (tgt := 49) (by decide) dX9_readHead_42 ?_ ?_
      · exact r_sub [] rfl (hj49 M12)
      · refine r_iconst 45 hC (r32c rfl) dX9_readHead_45 ?_
        refine r_goto 46 hC (tgt := 50) (by decide) dX9_readHead_46 ?_
        exact r_sub [] rfl (hj50 1 M12)
  · refine r_aload_n 8 hC 0 rfl (Or.inl (by decide)) rfl dX9_readHead_8 ?_
    refine r_iconst 9 hC (r32c rfl) dX9_readHead_9 ?_
    refine r_nn (fun hn13 => ?_)
    refine r_callVI 10 hC [(0, 5)] [] rfl vl_X9_52 rfl hn13 (by decide) (Nat.le_of_ble_eq_true rfl) (by decide) (by decide) dX9_readHead_10 (t_X6_blame x0 5 M hn13) (fun v14 M15 => ?_)
    exact r_zreturn 13 hC hq (by decide) (by decide) dX9_readHead_13

/-! WaterTurns$ValleyReader.readSpan(LWaterTurns$Tape;LWaterTurns$Valley;)Z -/
theorem dX9_readSpan_0 : decode cX9_readSpan 0 = .ok (.aload_n 1, 1) := by decide +kernel
theorem dX9_readSpan_1 : decode cX9_readSpan 1 = .ok (.getfield 69, 3) := by decide +kernel
theorem dX9_readSpan_4 : decode cX9_readSpan 4 = .ok (.iconst (-1), 1) := by decide +kernel
theorem dX9_readSpan_5 : decode cX9_readSpan 5 = .ok (.if_icmp .eq 9, 3) := by decide +kernel
theorem dX9_readSpan_8 : decode cX9_readSpan 8 = .ok (.aload_n 0, 1) := by decide +kernel
theorem dX9_readSpan_9 : decode cX9_readSpan 9 = .ok (.iconst 5, 1) := by decide +kernel
theorem dX9_readSpan_10 : decode cX9_readSpan 10 = .ok (.invokevirtual 52, 3) := by decide +kernel
theorem dX9_readSpan_13 : decode cX9_readSpan 13 = .ok (.ireturn, 1) := by decide +kernel
theorem dX9_readSpan_14 : decode cX9_readSpan 14 = .ok (.aload_n 0, 1) := by decide +kernel
theorem dX9_readSpan_15 : decode cX9_readSpan 15 = .ok (.invokevirtual 59, 3) := by decide +kernel
theorem dX9_readSpan_18 : decode cX9_readSpan 18 = .ok (.aload_n 1, 1) := by decide +kernel
theorem dX9_readSpan_19 : decode cX9_readSpan 19 = .ok (.aload_n 0, 1) := by decide +kernel
theorem dX9_readSpan_20 : decode cX9_readSpan 20 = .ok (.iconst 1, 1) := by decide +kernel
theorem dX9_readSpan_21 : decode cX9_readSpan 21 = .ok (.sipush 1440, 3) := by decide +kernel
theorem dX9_readSpan_24 : decode cX9_readSpan 24 = .ok (.invokevirtual 62, 3) := by decide +kernel
theorem dX9_readSpan_27 : decode cX9_readSpan 27 = .ok (.putfield 69, 3) := by decide +kernel
theorem dX9_readSpan_30 : decode cX9_readSpan 30 = .ok (.aload_n 1, 1) := by decide +kernel
theorem dX9_readSpan_31 : decode cX9_readSpan 31 = .ok (.getfield 69, 3) := by decide +kernel
theorem dX9_readSpan_34 : decode cX9_readSpan 34 = .ok (.iconst (-1), 1) := by decide +kernel
theorem dX9_readSpan_35 : decode cX9_readSpan 35 = .ok (.if_icmp .eq 11, 3) := by decide +kernel
theorem dX9_readSpan_38 : decode cX9_readSpan 38 = .ok (.aload_n 0, 1) := by decide +kernel
theorem dX9_readSpan_39 : decode cX9_readSpan 39 = .ok (.iconst 2, 1) := by decide +kernel
theorem dX9_readSpan_40 : decode cX9_readSpan 40 = .ok (.invokevirtual 72, 3) := by decide +kernel
theorem dX9_readSpan_43 : decode cX9_readSpan 43 = .ok (.ifCond .ne 5, 3) := by decide +kernel
theorem dX9_readSpan_46 : decode cX9_readSpan 46 = .ok (.iconst 0, 1) := by decide +kernel
theorem dX9_readSpan_47 : decode cX9_readSpan 47 = .ok (.ireturn, 1) := by decide +kernel
theorem dX9_readSpan_48 : decode cX9_readSpan 48 = .ok (.aload_n 1, 1) := by decide +kernel
theorem dX9_readSpan_49 : decode cX9_readSpan 49 = .ok (.aload_n 0, 1) := by decide +kernel
theorem dX9_readSpan_50 : decode cX9_readSpan 50 = .ok (.iconst 0, 1) := by decide +kernel
theorem dX9_readSpan_51 : decode cX9_readSpan 51 = .ok (.sipush 1439, 3) := by decide +kernel
theorem dX9_readSpan_54 : decode cX9_readSpan 54 = .ok (.invokevirtual 62, 3) := by decide +kernel
theorem dX9_readSpan_57 : decode cX9_readSpan 57 = .ok (.putfield 75, 3) := by decide +kernel
theorem dX9_readSpan_60 : decode cX9_readSpan 60 = .ok (.aload_n 1, 1) := by decide +kernel
theorem dX9_readSpan_61 : decode cX9_readSpan 61 = .ok (.getfield 75, 3) := by decide +kernel
theorem dX9_readSpan_64 : decode cX9_readSpan 64 = .ok (.iconst (-1), 1) := by decide +kernel
theorem dX9_readSpan_65 : decode cX9_readSpan 65 = .ok (.if_icmp .eq 14, 3) := by decide +kernel
theorem dX9_readSpan_68 : decode cX9_readSpan 68 = .ok (.aload_n 0, 1) := by decide +kernel
theorem dX9_readSpan_69 : decode cX9_readSpan 69 = .ok (.invokevirtual 66, 3) := by decide +kernel
theorem dX9_readSpan_72 : decode cX9_readSpan 72 = .ok (.ifCond .eq 7, 3) := by decide +kernel
theorem dX9_readSpan_75 : decode cX9_readSpan 75 = .ok (.iconst 1, 1) := by decide +kernel
theorem dX9_readSpan_76 : decode cX9_readSpan 76 = .ok (.goto 4, 3) := by decide +kernel
theorem dX9_readSpan_79 : decode cX9_readSpan 79 = .ok (.iconst 0, 1) := by decide +kernel
theorem dX9_readSpan_80 : decode cX9_readSpan 80 = .ok (.ireturn, 1) := by decide +kernel
set_option maxRecDepth 100000 in
theorem t_X9_readSpan (x0 x1 : Int) (M : Mem) : MtI yX9_readSpan cX9_readSpan 2 (some .boolean) 4 0 0 [(25, x0), (27, x1)] M 0 (f_X9_readSpan x0 x1 M) := by
  refine mk_I (by decide +kernel) (Nat.le_of_ble_eq_true rfl) (fun E C r0 M0 hC hq hin => ?_)
  refine r_eqls (ls' := [(0, 25, x0), (1, 27, x1)]) rfl ?_
  unfold f_X9_readSpan
  refine r_aload_n 0 hC 1 rfl (Or.inl (by decide)) rfl dX9_readSpan_0 ?_
  refine r_get 1 hC fd_7_1 fl_X9_69 dX9_readSpan_1 (fun v1 => ?_)
  refine r_iconst 4 hC (r32c rfl) dX9_readSpan_4 ?_
  refine r_icmp_eq 5 hC (tgt := 14) (by decide) dX9_readSpan_5 ?_ ?_
  · refine r_aload_n 14 hC 0 rfl (Or.inl (by decide)) rfl dX9_readSpan_14 ?_
    refine r_nn (fun hn2 => ?_)
    refine r_callVV 15 hC [] [] rfl vl_X9_59 rfl hn2 (by decide) (Nat.le_of_ble_eq_true rfl) (by decide) (by decide) dX9_readSpan_15 (t_X6_step x0 M hn2) (fun M3 => ?_)
    refine r_aload_n 18 hC 1 rfl (Or.inl (by decide)) rfl dX9_readSpan_18 ?_
    refine r_aload_n 19 hC 0 rfl (Or.inl (by decide)) rfl dX9_readSpan_19 ?_
    refine r_iconst 20 hC (r32c rfl) dX9_readSpan_20 ?_
    refine r_sipush 21 hC ks_1440 dX9_readSpan_21 ?_
    refine r_callVI 24 hC [(0, 1), (0, 1440)] [(27, x1)] rfl vl_X9_62 rfl hn2 (by decide) (Nat.le_of_ble_eq_true rfl) (by decide) (by decide) dX9_readSpan_24 (t_X6_takeNumber x0 1 1440 M3 hn2) (fun v4 M5 => ?_)
    refine r_put 27 hC fd_7_1 fl_X9_69 dX9_readSpan_27 (fun M6 => ?_)
    refine r_aload_n 30 hC 1 rfl (Or.inl (by decide)) rfl dX9_readSpan_30 ?_
    refine r_get 31 hC fd_7_1 fl_X9_69 dX9_readSpan_31 (fun v7 => ?_)
    refine r_iconst 34 hC (r32c rfl) dX9_readSpan_34 ?_
    refine r_jn (P := fun j46 => ∀ (M8 : Mem), Bk E C 2 M (r0, M0) 46 [] [] M8 0 0 (j46 M8)) ?_ (fun j46 hj46 => ?_)
    · intro M8
      refine r_iconst 46 hC (r32c rfl) dX9_readSpan_46 ?_
      exact r_zreturn 47 hC hq (by decide) (by decide) dX9_readSpan_47
    refine r_icmp_eq 35 hC (tgt := 46) (by decide) dX9_readSpan_35 ?_ ?_
    · exact r_sub [] rfl (hj46 M6)
    · refine r_aload_n 38 hC 0 rfl (Or.inl (by decide)) rfl dX9_readSpan_38 ?_
      refine r_iconst 39 hC (r32c rfl) dX9_readSpan_39 ?_
      refine r_callVI 40 hC [(0, 2)] [] rfl vl_X9_72 rfl hn2 (by decide) (Nat.le_of_ble_eq_true rfl) (by decide) (by decide) dX9_readSpan_40 (t_X6_skip x0 2 M6 hn2) (fun v9 M10 => ?_)
      refine r_if_ne 43 hC (tgt := 48) (by decide) dX9_readSpan_43 ?_ ?_
      · refine r_aload_n 48 hC 1 rfl (Or.inl (by decide)) rfl dX9_readSpan_48 ?_
        refine r_aload_n 49 hC 0 rfl (Or.inl (by decide)) rfl dX9_readSpan_49 ?_
        refine r_iconst 50 hC (r32c rfl) dX9_readSpan_50 ?_
        refine r_sipush 51 hC ks_1439 dX9_readSpan_51 ?_
        refine r_callVI 54 hC [(0, 0), (0, 1439)] [(27, x1)] rfl vl_X9_62 rfl hn2 (by decide) (Nat.le_of_ble_eq_true rfl) (by decide) (by decide) dX9_readSpan_54 (t_X6_takeNumber x0 0 1439 M10 hn2) (fun v11 M12 => ?_)
        refine r_put 57 hC fd_7_2 fl_X9_75 dX9_readSpan_57 (fun M13 => ?_)
        refine r_aload_n 60 hC 1 rfl (Or.inl (by decide)) rfl dX9_readSpan_60 ?_
        refine r_get 61 hC fd_7_2 fl_X9_75 dX9_readSpan_61 (fun v14 => ?_)
        refine r_iconst 64 hC (r32c rfl) dX9_readSpan_64 ?_
        refine r_jn (P := fun j80 => ∀ (q15 : Int) (M16 : Mem), Bk E C 2 M (r0, M0) 80 [] [(0, q15)] M16 0 0 (j80 q15 M16)) ?_ (fun j80 hj80 => ?_)
        · intro q15 M16
          exact r_zreturn 80 hC hq (by decide) (by decide) dX9_readSpan_80
        refine r_jn (P := fun j79 => ∀ (M17 : Mem), Bk E C 2 M (r0, M0) 79 [] [] M17 0 0 (j79 M17)) ?_ (fun j79 hj79 => ?_)
        · intro M17
          refine r_iconst 79 hC (r32c rfl) dX9_readSpan_79 ?_
          exact hj80 0 M17
        refine r_icmp_eq 65 hC (tgt := 79) (by decide) dX9_readSpan_65 ?_ ?_
        · exact r_sub [] rfl (hj79 M13)
        · refine r_aload_n 68 hC 0 rfl (Or.inl (by decide)) rfl dX9_readSpan_68 ?_
          refine r_callVI 69 hC [] [] rfl vl_X9_66 rfl hn2 (by decide) (Nat.le_of_ble_eq_true rfl) (by decide) (by decide) dX9_readSpan_69 (t_X6_skipSemicolon x0 M13 hn2) (fun v18 M19 => ?_)
          refine r_if_eq 72 hC (tgt := 79) (by decide) dX9_readSpan_72 ?_ ?_
          · exact r_sub [] rfl (hj79 M19)
          · refine r_iconst 75 hC (r32c rfl) dX9_readSpan_75 ?_
            refine r_goto 76 hC (tgt := 80) (by decide) dX9_readSpan_76 ?_
            exact r_sub [] rfl (hj80 1 M19)
      · exact r_sub [] rfl (hj46 M10)
  · refine r_aload_n 8 hC 0 rfl (Or.inl (by decide)) rfl dX9_readSpan_8 ?_
    refine r_iconst 9 hC (r32c rfl) dX9_readSpan_9 ?_
    refine r_nn (fun hn20 => ?_)
    refine r_callVI 10 hC [(0, 5)] [] rfl vl_X9_52 rfl hn20 (by decide) (Nat.le_of_ble_eq_true rfl) (by decide) (by decide) dX9_readSpan_10 (t_X6_blame x0 5 M hn20) (fun v21 M22 => ?_)
    exact r_zreturn 13 hC hq (by decide) (by decide) dX9_readSpan_13

/-! WaterTurns$ValleyReader.takeNew(LWaterTurns$Tape;LWaterTurns$Valley;)J -/
theorem dX9_takeNew_0 : decode cX9_takeNew 0 = .ok (.aload_n 0, 1) := by decide +kernel
theorem dX9_takeNew_1 : decode cX9_takeNew 1 = .ok (.getfield 78, 3) := by decide +kernel
theorem dX9_takeNew_4 : decode cX9_takeNew 4 = .ok (.lstore_n 2, 1) := by decide +kernel
theorem dX9_takeNew_5 : decode cX9_takeNew 5 = .ok (.aload_n 0, 1) := by decide +kernel
theorem dX9_takeNew_6 : decode cX9_takeNew 6 = .ok (.invokevirtual 82, 3) := by decide +kernel
theorem dX9_takeNew_9 : decode cX9_takeNew 9 = .ok (.ifCond .ne 11, 3) := by decide +kernel
theorem dX9_takeNew_12 : decode cX9_takeNew 12 = .ok (.aload_n 0, 1) := by decide +kernel
theorem dX9_takeNew_13 : decode cX9_takeNew 13 = .ok (.iconst 2, 1) := by decide +kernel
theorem dX9_takeNew_14 : decode cX9_takeNew 14 = .ok (.invokevirtual 52, 3) := by decide +kernel
theorem dX9_takeNew_17 : decode cX9_takeNew 17 = .ok (.pop, 1) := by decide +kernel
theorem dX9_takeNew_18 : decode cX9_takeNew 18 = .ok (.lconst 0, 1) := by decide +kernel
theorem dX9_takeNew_19 : decode cX9_takeNew 19 = .ok (.lreturn, 1) := by decide +kernel
theorem dX9_takeNew_20 : decode cX9_takeNew 20 = .ok (.aload_n 1, 1) := by decide +kernel
theorem dX9_takeNew_21 : decode cX9_takeNew 21 = .ok (.lload_n 2, 1) := by decide +kernel
theorem dX9_takeNew_22 : decode cX9_takeNew 22 = .ok (.invokevirtual 85, 3) := by decide +kernel
theorem dX9_takeNew_25 : decode cX9_takeNew 25 = .ok (.ifCond .eq 11, 3) := by decide +kernel
theorem dX9_takeNew_28 : decode cX9_takeNew 28 = .ok (.aload_n 0, 1) := by decide +kernel
theorem dX9_takeNew_29 : decode cX9_takeNew 29 = .ok (.iconst 3, 1) := by decide +kernel
theorem dX9_takeNew_30 : decode cX9_takeNew 30 = .ok (.invokevirtual 52, 3) := by decide +kernel
theorem dX9_takeNew_33 : decode cX9_takeNew 33 = .ok (.pop, 1) := by decide +kernel
theorem dX9_takeNew_34 : decode cX9_takeNew 34 = .ok (.lconst 0, 1) := by decide +kernel
theorem dX9_takeNew_35 : decode cX9_takeNew 35 = .ok (.lreturn, 1) := by decide +kernel
theorem dX9_takeNew_36 : decode cX9_takeNew 36 = .ok (.aload_n 0, 1) := by decide +kernel
theorem dX9_takeNew_37 : decode cX9_takeNew 37 = .ok (.invokevirtual 59, 3) := by decide +kernel
theorem dX9_takeNew_40 : decode cX9_takeNew 40 = .ok (.lload_n 2, 1) := by decide +kernel
theorem dX9_takeNew_41 : decode cX9_takeNew 41 = .ok (.lreturn, 1) := by decide +kernel
set_option maxRecDepth 100000 in
theorem t_X9_takeNew (x0 x1 : Int) (M : Mem) : MtI yX9_takeNew cX9_takeNew 4 (some .long) 3 0 0 [(25, x0), (27, x1)] M 1 (f_X9_takeNew x0 x1 M) := by
  refine mk_I (by decide +kernel) (Nat.le_of_ble_eq_true rfl) (fun E C r0 M0 hC hq hin => ?_)
  refine r_eqls (ls' := [(0, 25, x0), (1, 27, x1)]) rfl ?_
  unfold f_X9_takeNew
  refine r_aload_n 0 hC 0 rfl (Or.inl (by decide)) rfl dX9_takeNew_0 ?_
  refine r_get 1 hC fd_5_10 fl_X9_78 dX9_takeNew_1 (fun v1 => ?_)
  refine r_lstore_n 4 hC rfl (by decide) dX9_takeNew_4 (r_eqls (ls' := [(2, 1, v1), (0, 25, x0), (1, 27, x1)]) rfl ?_)
  refine r_aload_n 5 hC 1 rfl (Or.inl (by decide)) rfl dX9_takeNew_5 ?_
  refine r_nn (fun hn2 => ?_)
  refine r_callVP 6 hC [] [] rfl vl_X9_82 rfl hn2 (by decide) (Nat.le_of_ble_eq_true rfl) (by decide) (by decide) dX9_takeNew_6 (t_X6_isAtName x0 M hn2) (fun v3 => ?_)
  refine r_if_ne 9 hC (tgt := 20) (by decide) dX9_takeNew_9 ?_ ?_
  · refine r_aload_n 20 hC 2 rfl (Or.inl (by decide)) rfl dX9_takeNew_20 ?_
    refine r_lload_n 21 hC 0 rfl rfl dX9_takeNew_21 ?_
    refine r_nn (fun hn4 => ?_)
    refine r_callVP 22 hC [(1, v1)] [] rfl vl_X9_85 rfl hn4 (by decide) (Nat.le_of_ble_eq_true rfl) (by decide) (by decide) dX9_takeNew_22 (t_X8_isTaken x1 v1 M hn4) (fun v5 => ?_)
    refine r_if_eq 25 hC (tgt := 36) (by decide) dX9_takeNew_25 ?_ ?_
    · refine r_aload_n 36 hC 1 rfl (Or.inl (by decide)) rfl dX9_takeNew_36 ?_
      refine r_callVV 37 hC [] [] rfl vl_X9_59 rfl hn2 (by decide) (Nat.le_of_ble_eq_true rfl) (by decide) (by decide) dX9_takeNew_37 (t_X6_step x0 M hn2) (fun M6 => ?_)
      refine r_lload_n 40 hC 0 rfl rfl dX9_takeNew_40 ?_
      exact r_lreturn 41 hC hq (by decide) (by decide) dX9_takeNew_41
    · refine r_aload_n 28 hC 1 rfl (Or.inl (by decide)) rfl dX9_takeNew_28 ?_
      refine r_iconst 29 hC (r32c rfl) dX9_takeNew_29 ?_
      refine r_callVI 30 hC [(0, 3)] [] rfl vl_X9_52 rfl hn2 (by decide) (Nat.le_of_ble_eq_true rfl) (by decide) (by decide) dX9_takeNew_30 (t_X6_blame x0 3 M hn2) (fun v7 M8 => ?_)
      refine r_pop 33 hC (by decide) dX9_takeNew_33 ?_
      refine r_lconst 34 hC (x := 0) ⟨by decide +kernel, r64c rfl⟩ dX9_takeNew_34 ?_
      exact r_lreturn 35 hC hq (by decide) (by decide) dX9_takeNew_35
  · refine r_aload_n 12 hC 1 rfl (Or.inl (by decide)) rfl dX9_takeNew_12 ?_
    refine r_iconst 13 hC (r32c rfl) dX9_takeNew_13 ?_
    refine r_callVI 14 hC [(0, 2)] [] rfl vl_X9_52 rfl hn2 (by decide) (Nat.le_of_ble_eq_true rfl) (by decide) (by decide) dX9_takeNew_14 (t_X6_blame x0 2 M hn2) (fun v9 M10 => ?_)
    refine r_pop 17 hC (by decide) dX9_takeNew_17 ?_
    refine r_lconst 18 hC (x := 0) ⟨by decide +kernel, r64c rfl⟩ dX9_takeNew_18 ?_
    exact r_lreturn 19 hC hq (by decide) (by decide) dX9_takeNew_19

/-! WaterTurns$ValleyReader.readAbove(LWaterTurns$Tape;LWaterTurns$Valley;[I)Z -/
theorem dX9_readAbove_0 : decode cX9_readAbove 0 = .ok (.aload_n 0, 1) := by decide +kernel
theorem dX9_readAbove_1 : decode cX9_readAbove 1 = .ok (.iconst 4, 1) := by decide +kernel
theorem dX9_readAbove_2 : decode cX9_readAbove 2 = .ok (.invokevirtual 33, 3) := by decide +kernel
theorem dX9_readAbove_5 : decode cX9_readAbove 5 = .ok (.ifCond .ne 5, 3) := by decide +kernel
theorem dX9_readAbove_8 : decode cX9_readAbove 8 = .ok (.iconst 1, 1) := by decide +kernel
theorem dX9_readAbove_9 : decode cX9_readAbove 9 = .ok (.ireturn, 1) := by decide +kernel
theorem dX9_readAbove_10 : decode cX9_readAbove 10 = .ok (.aload_n 0, 1) := by decide +kernel
theorem dX9_readAbove_11 : decode cX9_readAbove 11 = .ok (.invokevirtual 59, 3) := by decide +kernel
theorem dX9_readAbove_14 : decode cX9_readAbove 14 = .ok (.aload_n 2, 1) := by decide +kernel
theorem dX9_readAbove_15 : decode cX9_readAbove 15 = .ok (.iconst 0, 1) := by decide +kernel
theorem dX9_readAbove_16 : decode cX9_readAbove 16 = .ok (.aload_n 0, 1) := by decide +kernel
theorem dX9_readAbove_17 : decode cX9_readAbove 17 = .ok (.aload_n 1, 1) := by decide +kernel
theorem dX9_readAbove_18 : decode cX9_readAbove 18 = .ok (.getfield 127, 3) := by decide +kernel
theorem dX9_readAbove_21 : decode cX9_readAbove 21 = .ok (.aload_n 1, 1) := by decide +kernel
theorem dX9_readAbove_22 : decode cX9_readAbove 22 = .ok (.getfield 100, 3) := by decide +kernel
theorem dX9_readAbove_25 : decode cX9_readAbove 25 = .ok (.invokevirtual 130, 3) := by decide +kernel
theorem dX9_readAbove_28 : decode cX9_readAbove 28 = .ok (.iastore, 1) := by decide +kernel
theorem dX9_readAbove_29 : decode cX9_readAbove 29 = .ok (.aload_n 2, 1) := by decide +kernel
theorem dX9_readAbove_30 : decode cX9_readAbove 30 = .ok (.iconst 0, 1) := by decide +kernel
theorem dX9_readAbove_31 : decode cX9_readAbove 31 = .ok (.iaload, 1) := by decide +kernel
theorem dX9_readAbove_32 : decode cX9_readAbove 32 = .ok (.iconst (-1), 1) := by decide +kernel
theorem dX9_readAbove_33 : decode cX9_readAbove 33 = .ok (.if_icmp .eq 7, 3) := by decide +kernel
theorem dX9_readAbove_36 : decode cX9_readAbove 36 = .ok (.iconst 1, 1) := by decide +kernel
theorem dX9_readAbove_37 : decode cX9_readAbove 37 = .ok (.goto 4, 3) := by decide +kernel
theorem dX9_readAbove_40 : decode cX9_readAbove 40 = .ok (.iconst 0, 1) := by decide +kernel
theorem dX9_readAbove_41 : decode cX9_readAbove 41 = .ok (.ireturn, 1) := by decide +kernel
set_option maxRecDepth 100000 in
theorem t_X9_readAbove (x0 x1 x2 : Int) (M : Mem) : MtI yX9_readAbove cX9_readAbove 3 (some .boolean) 4 0 0 [(25, x0), (27, x1), (10, x2)] M 0 (f_X9_readAbove x0 x1 x2 M) := by
  refine mk_I (by decide +kernel) (Nat.le_of_ble_eq_true rfl) (fun E C r0 M0 hC hq hin => ?_)
  refine r_eqls (ls' := [(0, 25, x0), (1, 27, x1), (2, 10, x2)]) rfl ?_
  unfold f_X9_readAbove
  refine r_aload_n 0 hC 0 rfl (Or.inl (by decide)) rfl dX9_readAbove_0 ?_
  refine r_iconst 1 hC (r32c rfl) dX9_readAbove_1 ?_
  refine r_nn (fun hn1 => ?_)
  refine r_callVP 2 hC [(0, 4)] [] rfl vl_X9_33 rfl hn1 (by decide) (Nat.le_of_ble_eq_true rfl) (by decide) (by decide) dX9_readAbove_2 (t_X6_isAt x0 4 M hn1) (fun v2 => ?_)
  refine r_if_ne 5 hC (tgt := 10) (by decide) dX9_readAbove_5 ?_ ?_
  · refine r_aload_n 10 hC 0 rfl (Or.inl (by decide)) rfl dX9_readAbove_10 ?_
    refine r_callVV 11 hC [] [] rfl vl_X9_59 rfl hn1 (by decide) (Nat.le_of_ble_eq_true rfl) (by decide) (by decide) dX9_readAbove_11 (t_X6_step x0 M hn1) (fun M3 => ?_)
    refine r_aload_n 14 hC 2 rfl (Or.inl (by decide)) rfl dX9_readAbove_14 ?_
    refine r_iconst 15 hC (r32c rfl) dX9_readAbove_15 ?_
    refine r_aload_n 16 hC 0 rfl (Or.inl (by decide)) rfl dX9_readAbove_16 ?_
    refine r_aload_n 17 hC 1 rfl (Or.inl (by decide)) rfl dX9_readAbove_17 ?_
    refine r_get 18 hC fd_7_10 fl_X9_127 dX9_readAbove_18 (fun v4 => ?_)
    refine r_aload_n 21 hC 1 rfl (Or.inl (by decide)) rfl dX9_readAbove_21 ?_
    refine r_get 22 hC fd_7_3 fl_X9_100 dX9_readAbove_22 (fun v5 => ?_)
    refine r_callVI 25 hC [(11, v4), (0, v5)] [(0, 0), (10, x2)] rfl vl_X9_130 rfl hn1 (by decide) (Nat.le_of_ble_eq_true rfl) (by decide) (by decide) dX9_readAbove_25 (t_X6_takeKnown x0 v4 v5 M3 hn1) (fun v6 M7 => ?_)
    refine r_iastore 28 hC dX9_readAbove_28 (fun M8 => ?_)
    refine r_aload_n 29 hC 2 rfl (Or.inl (by decide)) rfl dX9_readAbove_29 ?_
    refine r_iconst 30 hC (r32c rfl) dX9_readAbove_30 ?_
    refine r_iaload 31 hC dX9_readAbove_31 (fun v9 => ?_)
    refine r_iconst 32 hC (r32c rfl) dX9_readAbove_32 ?_
    refine r_jn (P := fun j41 => ∀ (q10 : Int), Bk E C 3 M (r0, M0) 41 [] [(0, q10)] M8 0 0 (j41 q10)) ?_ (fun j41 hj41 => ?_)
    · intro q10
      exact r_zreturn 41 hC hq (by decide) (by decide) dX9_readAbove_41
    refine r_icmp_eq 33 hC (tgt := 40) (by decide) dX9_readAbove_33 ?_ ?_
    · refine r_iconst 40 hC (r32c rfl) dX9_readAbove_40 ?_
      exact r_sub [] rfl (hj41 0)
    · refine r_iconst 36 hC (r32c rfl) dX9_readAbove_36 ?_
      refine r_goto 37 hC (tgt := 41) (by decide) dX9_readAbove_37 ?_
      exact r_sub [] rfl (hj41 1)
  · refine r_iconst 8 hC (r32c rfl) dX9_readAbove_8 ?_
    exact r_zreturn 9 hC hq (by decide) (by decide) dX9_readAbove_9

/-! WaterTurns$ValleyReader.readLoss(LWaterTurns$Tape;[I)Z -/
theorem dX9_readLoss_0 : decode cX9_readLoss 0 = .ok (.aload_n 0, 1) := by decide +kernel
theorem dX9_readLoss_1 : decode cX9_readLoss 1 = .ok (.iconst 5, 1) := by decide +kernel
theorem dX9_readLoss_2 : decode cX9_readLoss 2 = .ok (.invokevirtual 72, 3) := by decide +kernel
theorem dX9_readLoss_5 : decode cX9_readLoss 5 = .ok (.ifCond .ne 5, 3) := by decide +kernel
theorem dX9_readLoss_8 : decode cX9_readLoss 8 = .ok (.iconst 0, 1) := by decide +kernel
theorem dX9_readLoss_9 : decode cX9_readLoss 9 = .ok (.ireturn, 1) := by decide +kernel
theorem dX9_readLoss_10 : decode cX9_readLoss 10 = .ok (.aload_n 1, 1) := by decide +kernel
theorem dX9_readLoss_11 : decode cX9_readLoss 11 = .ok (.iconst 1, 1) := by decide +kernel
theorem dX9_readLoss_12 : decode cX9_readLoss 12 = .ok (.aload_n 0, 1) := by decide +kernel
theorem dX9_readLoss_13 : decode cX9_readLoss 13 = .ok (.iconst 0, 1) := by decide +kernel
theorem dX9_readLoss_14 : decode cX9_readLoss 14 = .ok (.bipush 11, 2) := by decide +kernel
theorem dX9_readLoss_16 : decode cX9_readLoss 16 = .ok (.invokevirtual 62, 3) := by decide +kernel
theorem dX9_readLoss_19 : decode cX9_readLoss 19 = .ok (.iastore, 1) := by decide +kernel
theorem dX9_readLoss_20 : decode cX9_readLoss 20 = .ok (.aload_n 1, 1) := by decide +kernel
theorem dX9_readLoss_21 : decode cX9_readLoss 21 = .ok (.iconst 1, 1) := by decide +kernel
theorem dX9_readLoss_22 : decode cX9_readLoss 22 = .ok (.iaload, 1) := by decide +kernel
theorem dX9_readLoss_23 : decode cX9_readLoss 23 = .ok (.iconst (-1), 1) := by decide +kernel
theorem dX9_readLoss_24 : decode cX9_readLoss 24 = .ok (.if_icmp .eq 12, 3) := by decide +kernel
theorem dX9_readLoss_27 : decode cX9_readLoss 27 = .ok (.aload_n 0, 1) := by decide +kernel
theorem dX9_readLoss_28 : decode cX9_readLoss 28 = .ok (.bipush 6, 2) := by decide +kernel
theorem dX9_readLoss_30 : decode cX9_readLoss 30 = .ok (.invokevirtual 72, 3) := by decide +kernel
theorem dX9_readLoss_33 : decode cX9_readLoss 33 = .ok (.ifCond .ne 5, 3) := by decide +kernel
theorem dX9_readLoss_36 : decode cX9_readLoss 36 = .ok (.iconst 0, 1) := by decide +kernel
theorem dX9_readLoss_37 : decode cX9_readLoss 37 = .ok (.ireturn, 1) := by decide +kernel
theorem dX9_readLoss_38 : decode cX9_readLoss 38 = .ok (.aload_n 1, 1) := by decide +kernel
theorem dX9_readLoss_39 : decode cX9_readLoss 39 = .ok (.iconst 2, 1) := by decide +kernel
theorem dX9_readLoss_40 : decode cX9_readLoss 40 = .ok (.aload_n 0, 1) := by decide +kernel
theorem dX9_readLoss_41 : decode cX9_readLoss 41 = .ok (.aload_n 1, 1) := by decide +kernel
theorem dX9_readLoss_42 : decode cX9_readLoss 42 = .ok (.iconst 1, 1) := by decide +kernel
theorem dX9_readLoss_43 : decode cX9_readLoss 43 = .ok (.iaload, 1) := by decide +kernel
theorem dX9_readLoss_44 : decode cX9_readLoss 44 = .ok (.iconst 1, 1) := by decide +kernel
theorem dX9_readLoss_45 : decode cX9_readLoss 45 = .ok (.iadd, 1) := by decide +kernel
theorem dX9_readLoss_46 : decode cX9_readLoss 46 = .ok (.bipush 12, 2) := by decide +kernel
theorem dX9_readLoss_48 : decode cX9_readLoss 48 = .ok (.invokevirtual 62, 3) := by decide +kernel
theorem dX9_readLoss_51 : decode cX9_readLoss 51 = .ok (.iastore, 1) := by decide +kernel
theorem dX9_readLoss_52 : decode cX9_readLoss 52 = .ok (.aload_n 1, 1) := by decide +kernel
theorem dX9_readLoss_53 : decode cX9_readLoss 53 = .ok (.iconst 2, 1) := by decide +kernel
theorem dX9_readLoss_54 : decode cX9_readLoss 54 = .ok (.iaload, 1) := by decide +kernel
theorem dX9_readLoss_55 : decode cX9_readLoss 55 = .ok (.iconst (-1), 1) := by decide +kernel
theorem dX9_readLoss_56 : decode cX9_readLoss 56 = .ok (.if_icmp .eq 7, 3) := by decide +kernel
theorem dX9_readLoss_59 : decode cX9_readLoss 59 = .ok (.iconst 1, 1) := by decide +kernel
theorem dX9_readLoss_60 : decode cX9_readLoss 60 = .ok (.goto 4, 3) := by decide +kernel
theorem dX9_readLoss_63 : decode cX9_readLoss 63 = .ok (.iconst 0, 1) := by decide +kernel
theorem dX9_readLoss_64 : decode cX9_readLoss 64 = .ok (.ireturn, 1) := by decide +kernel
set_option maxRecDepth 100000 in
theorem t_X9_readLoss (x0 x1 : Int) (M : Mem) : MtI yX9_readLoss cX9_readLoss 2 (some .boolean) 4 0 0 [(25, x0), (10, x1)] M 0 (f_X9_readLoss x0 x1 M) := by
  refine mk_I (by decide +kernel) (Nat.le_of_ble_eq_true rfl) (fun E C r0 M0 hC hq hin => ?_)
  refine r_eqls (ls' := [(0, 25, x0), (1, 10, x1)]) rfl ?_
  unfold f_X9_readLoss
  refine r_aload_n 0 hC 0 rfl (Or.inl (by decide)) rfl dX9_readLoss_0 ?_
  refine r_iconst 1 hC (r32c rfl) dX9_readLoss_1 ?_
  refine r_nn (fun hn1 => ?_)
  refine r_callVI 2 hC [(0, 5)] [] rfl vl_X9_72 rfl hn1 (by decide) (Nat.le_of_ble_eq_true rfl) (by decide) (by decide) dX9_readLoss_2 (t_X6_skip x0 5 M hn1) (fun v2 M3 => ?_)
  refine r_if_ne 5 hC (tgt := 10) (by decide) dX9_readLoss_5 ?_ ?_
  · refine r_aload_n 10 hC 1 rfl (Or.inl (by decide)) rfl dX9_readLoss_10 ?_
    refine r_iconst 11 hC (r32c rfl) dX9_readLoss_11 ?_
    refine r_aload_n 12 hC 0 rfl (Or.inl (by decide)) rfl dX9_readLoss_12 ?_
    refine r_iconst 13 hC (r32c rfl) dX9_readLoss_13 ?_
    refine r_bipush 14 hC kb_11 dX9_readLoss_14 ?_
    refine r_callVI 16 hC [(0, 0), (0, 11)] [(0, 1), (10, x1)] rfl vl_X9_62 rfl hn1 (by decide) (Nat.le_of_ble_eq_true rfl) (by decide) (by decide) dX9_readLoss_16 (t_X6_takeNumber x0 0 11 M3 hn1) (fun v4 M5 => ?_)
    refine r_iastore 19 hC dX9_readLoss_19 (fun M6 => ?_)
    refine r_aload_n 20 hC 1 rfl (Or.inl (by decide)) rfl dX9_readLoss_20 ?_
    refine r_iconst 21 hC (r32c rfl) dX9_readLoss_21 ?_
    refine r_iaload 22 hC dX9_readLoss_22 (fun v7 => ?_)
    refine r_iconst 23 hC (r32c rfl) dX9_readLoss_23 ?_
    refine r_jn (P := fun j36 => ∀ (M8 : Mem), Bk E C 2 M (r0, M0) 36 [] [] M8 0 0 (j36 M8)) ?_ (fun j36 hj36 => ?_)
    · intro M8
      refine r_iconst 36 hC (r32c rfl) dX9_readLoss_36 ?_
      exact r_zreturn 37 hC hq (by decide) (by decide) dX9_readLoss_37
    refine r_icmp_eq 24 hC (tgt := 36) (by decide) dX9_readLoss_24 ?_ ?_
    · exact r_sub [] rfl (hj36 M6)
    · refine r_aload_n 27 hC 0 rfl (Or.inl (by decide)) rfl dX9_readLoss_27 ?_
      refine r_bipush 28 hC kb_6 dX9_readLoss_28 ?_
      refine r_callVI 30 hC [(0, 6)] [] rfl vl_X9_72 rfl hn1 (by decide) (Nat.le_of_ble_eq_true rfl) (by decide) (by decide) dX9_readLoss_30 (t_X6_skip x0 6 M6 hn1) (fun v9 M10 => ?_)
      refine r_if_ne 33 hC (tgt := 38) (by decide) dX9_readLoss_33 ?_ ?_
      · refine r_aload_n 38 hC 1 rfl (Or.inl (by decide)) rfl dX9_readLoss_38 ?_
        refine r_iconst 39 hC (r32c rfl) dX9_readLoss_39 ?_
        refine r_aload_n 40 hC 0 rfl (Or.inl (by decide)) rfl dX9_readLoss_40 ?_
        refine r_aload_n 41 hC 1 rfl (Or.inl (by decide)) rfl dX9_readLoss_41 ?_
        refine r_iconst 42 hC (r32c rfl) dX9_readLoss_42 ?_
        refine r_iaload 43 hC dX9_readLoss_43 (fun v11 => ?_)
        refine r_iconst 44 hC (r32c rfl) dX9_readLoss_44 ?_
        refine r_iadd 45 hC dX9_readLoss_45 ?_
        refine r_bipush 46 hC kb_12 dX9_readLoss_46 ?_
        refine r_callVI 48 hC [(0, w32 (v11 + 1)), (0, 12)] [(0, 2), (10, x1)] rfl vl_X9_62 rfl hn1 (by decide) (Nat.le_of_ble_eq_true rfl) (by decide) (by decide) dX9_readLoss_48 (t_X6_takeNumber x0 (w32 (v11 + 1)) 12 M10 hn1) (fun v12 M13 => ?_)
        refine r_iastore 51 hC dX9_readLoss_51 (fun M14 => ?_)
        refine r_aload_n 52 hC 1 rfl (Or.inl (by decide)) rfl dX9_readLoss_52 ?_
        refine r_iconst 53 hC (r32c rfl) dX9_readLoss_53 ?_
        refine r_iaload 54 hC dX9_readLoss_54 (fun v15 => ?_)
        refine r_iconst 55 hC (r32c rfl) dX9_readLoss_55 ?_
        refine r_jn (P := fun j64 => ∀ (q16 : Int), Bk E C 2 M (r0, M0) 64 [] [(0, q16)] M14 0 0 (j64 q16)) ?_ (fun j64 hj64 => ?_)
        · intro q16
          exact r_zreturn 64 hC hq (by decide) (by decide) dX9_readLoss_64
        refine r_icmp_eq 56 hC (tgt := 63) (by decide) dX9_readLoss_56 ?_ ?_
        · refine r_iconst 63 hC (r32c rfl) dX9_readLoss_63 ?_
          exact r_sub [] rfl (hj64 0)
        · refine r_iconst 59 hC (r32c rfl) dX9_readLoss_59 ?_
          refine r_goto 60 hC (tgt := 64) (by decide) dX9_readLoss_60 ?_
          exact r_sub [] rfl (hj64 1)
      · exact r_sub [] rfl (hj36 M10)
  · refine r_iconst 8 hC (r32c rfl) dX9_readLoss_8 ?_
    exact r_zreturn 9 hC hq (by decide) (by decide) dX9_readLoss_9
